theorem dX0_init_0 : decode cX0_init 0 = .ok (.aload_n 0, 1) := by decide +kernel
theorem dX0_init_1 : decode cX0_init 1 = .ok (.invokespecial 3, 3) := by decide +kernel
theorem dX0_init_4 : decode cX0_init 4 = .ok (.aload_n 0, 1) := by decide +kernel
theorem dX0_init_5 : decode cX0_init 5 = .ok (.new 9, 3) := by decide +kernel
theorem dX0_init_8 : decode cX0_init 8 = .ok (.dup, 1) := by decide +kernel
theorem dX0_init_9 : decode cX0_init 9 = .ok (.invokespecial 11, 3) := by decide +kernel
theorem dX0_init_12 : decode cX0_init 12 = .ok (.putfield 12, 3) := by decide +kernel
theorem dX0_init_15 : decode cX0_init 15 = .ok (.aload_n 0, 1) := by decide +kernel
theorem dX0_init_16 : decode cX0_init 16 = .ok (.new 18, 3) := by decide +kernel
theorem dX0_init_19 : decode cX0_init 19 = .ok (.dup, 1) := by decide +kernel
theorem dX0_init_20 : decode cX0_init 20 = .ok (.invokespecial 20, 3) := by decide +kernel
theorem dX0_init_23 : decode cX0_init 23 = .ok (.putfield 21, 3) := by decide +kernel
theorem dX0_init_26 : decode cX0_init 26 = .ok (.aload_n 0, 1) := by decide +kernel
theorem dX0_init_27 : decode cX0_init 27 = .ok (.new 25, 3) := by decide +kernel
theorem dX0_init_30 : decode cX0_init 30 = .ok (.dup, 1) := by decide +kernel
theorem dX0_init_31 : decode cX0_init 31 = .ok (.invokespecial 27, 3) := by decide +kernel
theorem dX0_init_34 : decode cX0_init 34 = .ok (.putfield 28, 3) := by decide +kernel
theorem dX0_init_37 : decode cX0_init 37 = .ok (.aload_n 0, 1) := by decide +kernel
theorem dX0_init_38 : decode cX0_init 38 = .ok (.bipush 72, 2) := by decide +kernel
theorem dX0_init_40 : decode cX0_init 40 = .ok (.newarray .int, 2) := by decide +kernel
theorem dX0_init_42 : decode cX0_init 42 = .ok (.putfield 32, 3) := by decide +kernel
theorem dX0_init_45 : decode cX0_init 45 = .ok (.aload_n 0, 1) := by decide +kernel
theorem dX0_init_46 : decode cX0_init 46 = .ok (.new 36, 3) := by decide +kernel
theorem dX0_init_49 : decode cX0_init 49 = .ok (.dup, 1) := by decide +kernel
theorem dX0_init_50 : decode cX0_init 50 = .ok (.invokespecial 38, 3) := by decide +kernel
theorem dX0_init_53 : decode cX0_init 53 = .ok (.putfield 39, 3) := by decide +kernel
theorem dX0_init_56 : decode cX0_init 56 = .ok (.aload_n 0, 1) := by decide +kernel
theorem dX0_init_57 : decode cX0_init 57 = .ok (.bipush 6, 2) := by decide +kernel
theorem dX0_init_59 : decode cX0_init 59 = .ok (.anewarray 43, 3) := by decide +kernel
theorem dX0_init_62 : decode cX0_init 62 = .ok (.putfield 45, 3) := by decide +kernel
theorem dX0_init_65 : decode cX0_init 65 = .ok (.iconst 0, 1) := by decide +kernel
theorem dX0_init_66 : decode cX0_init 66 = .ok (.istore_n 1, 1) := by decide +kernel
theorem dX0_init_67 : decode cX0_init 67 = .ok (.iload_n 1, 1) := by decide +kernel
theorem dX0_init_68 : decode cX0_init 68 = .ok (.bipush 6, 2) := by decide +kernel
theorem dX0_init_70 : decode cX0_init 70 = .ok (.if_icmp .ge 22, 3) := by decide +kernel
theorem dX0_init_73 : decode cX0_init 73 = .ok (.aload_n 0, 1) := by decide +kernel
theorem dX0_init_74 : decode cX0_init 74 = .ok (.getfield 45, 3) := by decide +kernel
theorem dX0_init_77 : decode cX0_init 77 = .ok (.iload_n 1, 1) := by decide +kernel
theorem dX0_init_78 : decode cX0_init 78 = .ok (.new 43, 3) := by decide +kernel
theorem dX0_init_81 : decode cX0_init 81 = .ok (.dup, 1) := by decide +kernel
theorem dX0_init_82 : decode cX0_init 82 = .ok (.invokespecial 49, 3) := by decide +kernel
theorem dX0_init_85 : decode cX0_init 85 = .ok (.aastore, 1) := by decide +kernel
theorem dX0_init_86 : decode cX0_init 86 = .ok (.iinc 1 1, 3) := by decide +kernel
theorem dX0_init_89 : decode cX0_init 89 = .ok (.goto (-22), 3) := by decide +kernel
theorem dX0_init_92 : decode cX0_init 92 = .ok (.return_, 1) := by decide +kernel
theorem dX0_begin_0 : decode cX0_begin 0 = .ok (.aload_n 0, 1) := by decide +kernel
theorem dX0_begin_1 : decode cX0_begin 1 = .ok (.getfield 12, 3) := by decide +kernel
theorem dX0_begin_4 : decode cX0_begin 4 = .ok (.aload_n 1, 1) := by decide +kernel
theorem dX0_begin_5 : decode cX0_begin 5 = .ok (.invokevirtual 50, 3) := by decide +kernel
theorem dX0_begin_8 : decode cX0_begin 8 = .ok (.aload_n 0, 1) := by decide +kernel
theorem dX0_begin_9 : decode cX0_begin 9 = .ok (.getfield 21, 3) := by decide +kernel
theorem dX0_begin_12 : decode cX0_begin 12 = .ok (.aload_n 0, 1) := by decide +kernel
theorem dX0_begin_13 : decode cX0_begin 13 = .ok (.getfield 12, 3) := by decide +kernel
theorem dX0_begin_16 : decode cX0_begin 16 = .ok (.invokevirtual 54, 3) := by decide +kernel
theorem dX0_begin_19 : decode cX0_begin 19 = .ok (.return_, 1) := by decide +kernel
theorem dX0_isOver_0 : decode cX0_isOver 0 = .ok (.iconst 0, 1) := by decide +kernel
theorem dX0_isOver_1 : decode cX0_isOver 1 = .ok (.istore_n 1, 1) := by decide +kernel
theorem dX0_isOver_2 : decode cX0_isOver 2 = .ok (.iload_n 1, 1) := by decide +kernel
theorem dX0_isOver_3 : decode cX0_isOver 3 = .ok (.aload_n 0, 1) := by decide +kernel
theorem dX0_isOver_4 : decode cX0_isOver 4 = .ok (.getfield 12, 3) := by decide +kernel
theorem dX0_isOver_7 : decode cX0_isOver 7 = .ok (.getfield 57, 3) := by decide +kernel
theorem dX0_isOver_10 : decode cX0_isOver 10 = .ok (.if_icmp .ge 19, 3) := by decide +kernel
theorem dX0_isOver_13 : decode cX0_isOver 13 = .ok (.aload_n 0, 1) := by decide +kernel
theorem dX0_isOver_14 : decode cX0_isOver 14 = .ok (.iload_n 1, 1) := by decide +kernel
theorem dX0_isOver_15 : decode cX0_isOver 15 = .ok (.invokevirtual 61, 3) := by decide +kernel
theorem dX0_isOver_18 : decode cX0_isOver 18 = .ok (.ifCond .le 5, 3) := by decide +kernel
theorem dX0_isOver_21 : decode cX0_isOver 21 = .ok (.iconst 0, 1) := by decide +kernel
theorem dX0_isOver_22 : decode cX0_isOver 22 = .ok (.ireturn, 1) := by decide +kernel
theorem dX0_isOver_23 : decode cX0_isOver 23 = .ok (.iinc 1 1, 3) := by decide +kernel
theorem dX0_isOver_26 : decode cX0_isOver 26 = .ok (.goto (-24), 3) := by decide +kernel
theorem dX0_isOver_29 : decode cX0_isOver 29 = .ok (.iconst 1, 1) := by decide +kernel
theorem dX0_isOver_30 : decode cX0_isOver 30 = .ok (.ireturn, 1) := by decide +kernel
theorem dX0_countSteps_0 : decode cX0_countSteps 0 = .ok (.iconst 0, 1) := by decide +kernel
theorem dX0_countSteps_1 : decode cX0_countSteps 1 = .ok (.istore_n 2, 1) := by decide +kernel
theorem dX0_countSteps_2 : decode cX0_countSteps 2 = .ok (.iconst 1, 1) := by decide +kernel
theorem dX0_countSteps_3 : decode cX0_countSteps 3 = .ok (.istore_n 3, 1) := by decide +kernel
theorem dX0_countSteps_4 : decode cX0_countSteps 4 = .ok (.iload_n 3, 1) := by decide +kernel
theorem dX0_countSteps_5 : decode cX0_countSteps 5 = .ok (.bipush 12, 2) := by decide +kernel
theorem dX0_countSteps_7 : decode cX0_countSteps 7 = .ok (.if_icmp .gt 53, 3) := by decide +kernel
theorem dX0_countSteps_10 : decode cX0_countSteps 10 = .ok (.aload_n 0, 1) := by decide +kernel
theorem dX0_countSteps_11 : decode cX0_countSteps 11 = .ok (.getfield 12, 3) := by decide +kernel
theorem dX0_countSteps_14 : decode cX0_countSteps 14 = .ok (.getfield 65, 3) := by decide +kernel
theorem dX0_countSteps_17 : decode cX0_countSteps 17 = .ok (.iload_n 1, 1) := by decide +kernel
theorem dX0_countSteps_18 : decode cX0_countSteps 18 = .ok (.iaload, 1) := by decide +kernel
theorem dX0_countSteps_19 : decode cX0_countSteps 19 = .ok (.iload_n 3, 1) := by decide +kernel
theorem dX0_countSteps_20 : decode cX0_countSteps 20 = .ok (.invokestatic 68, 3) := by decide +kernel
theorem dX0_countSteps_23 : decode cX0_countSteps 23 = .ok (.ifCond .eq 31, 3) := by decide +kernel
theorem dX0_countSteps_26 : decode cX0_countSteps 26 = .ok (.iload_n 2, 1) := by decide +kernel
theorem dX0_countSteps_27 : decode cX0_countSteps 27 = .ok (.aload_n 0, 1) := by decide +kernel
theorem dX0_countSteps_28 : decode cX0_countSteps 28 = .ok (.getfield 21, 3) := by decide +kernel
theorem dX0_countSteps_31 : decode cX0_countSteps 31 = .ok (.getfield 72, 3) := by decide +kernel
theorem dX0_countSteps_34 : decode cX0_countSteps 34 = .ok (.iload_n 1, 1) := by decide +kernel
theorem dX0_countSteps_35 : decode cX0_countSteps 35 = .ok (.iaload, 1) := by decide +kernel
theorem dX0_countSteps_36 : decode cX0_countSteps 36 = .ok (.aload_n 0, 1) := by decide +kernel
theorem dX0_countSteps_37 : decode cX0_countSteps 37 = .ok (.getfield 21, 3) := by decide +kernel
theorem dX0_countSteps_40 : decode cX0_countSteps 40 = .ok (.getfield 75, 3) := by decide +kernel
theorem dX0_countSteps_43 : decode cX0_countSteps 43 = .ok (.iload_n 1, 1) := by decide +kernel
theorem dX0_countSteps_44 : decode cX0_countSteps 44 = .ok (.iaload, 1) := by decide +kernel
theorem dX0_countSteps_45 : decode cX0_countSteps 45 = .ok (.iload_n 3, 1) := by decide +kernel
theorem dX0_countSteps_46 : decode cX0_countSteps 46 = .ok (.invokestatic 78, 3) := by decide +kernel
theorem dX0_countSteps_49 : decode cX0_countSteps 49 = .ok (.invokestatic 82, 3) := by decide +kernel
theorem dX0_countSteps_52 : decode cX0_countSteps 52 = .ok (.iadd, 1) := by decide +kernel
theorem dX0_countSteps_53 : decode cX0_countSteps 53 = .ok (.istore_n 2, 1) := by decide +kernel
theorem dX0_countSteps_54 : decode cX0_countSteps 54 = .ok (.iinc 3 1, 3) := by decide +kernel
theorem dX0_countSteps_57 : decode cX0_countSteps 57 = .ok (.goto (-53), 3) := by decide +kernel
theorem dX0_countSteps_60 : decode cX0_countSteps 60 = .ok (.iload_n 2, 1) := by decide +kernel
theorem dX0_countSteps_61 : decode cX0_countSteps 61 = .ok (.ireturn, 1) := by decide +kernel
theorem dX0_valuesOf_0 : decode cX0_valuesOf 0 = .ok (.aload_n 0, 1) := by decide +kernel
theorem dX0_valuesOf_1 : decode cX0_valuesOf 1 = .ok (.getfield 45, 3) := by decide +kernel
theorem dX0_valuesOf_4 : decode cX0_valuesOf 4 = .ok (.iload_n 1, 1) := by decide +kernel
theorem dX0_valuesOf_5 : decode cX0_valuesOf 5 = .ok (.aaload, 1) := by decide +kernel
theorem dX0_valuesOf_6 : decode cX0_valuesOf 6 = .ok (.astore_n 2, 1) := by decide +kernel
theorem dX0_valuesOf_7 : decode cX0_valuesOf 7 = .ok (.aload_n 2, 1) := by decide +kernel
theorem dX0_valuesOf_8 : decode cX0_valuesOf 8 = .ok (.aload_n 0, 1) := by decide +kernel
theorem dX0_valuesOf_9 : decode cX0_valuesOf 9 = .ok (.getfield 12, 3) := by decide +kernel
theorem dX0_valuesOf_12 : decode cX0_valuesOf 12 = .ok (.getfield 87, 3) := by decide +kernel
theorem dX0_valuesOf_15 : decode cX0_valuesOf 15 = .ok (.iload_n 1, 1) := by decide +kernel
theorem dX0_valuesOf_16 : decode cX0_valuesOf 16 = .ok (.iaload, 1) := by decide +kernel
theorem dX0_valuesOf_17 : decode cX0_valuesOf 17 = .ok (.aload_n 0, 1) := by decide +kernel
theorem dX0_valuesOf_18 : decode cX0_valuesOf 18 = .ok (.getfield 12, 3) := by decide +kernel
theorem dX0_valuesOf_21 : decode cX0_valuesOf 21 = .ok (.getfield 65, 3) := by decide +kernel
theorem dX0_valuesOf_24 : decode cX0_valuesOf 24 = .ok (.iload_n 1, 1) := by decide +kernel
theorem dX0_valuesOf_25 : decode cX0_valuesOf 25 = .ok (.iaload, 1) := by decide +kernel
theorem dX0_valuesOf_26 : decode cX0_valuesOf 26 = .ok (.aload_n 0, 1) := by decide +kernel
theorem dX0_valuesOf_27 : decode cX0_valuesOf 27 = .ok (.getfield 21, 3) := by decide +kernel
theorem dX0_valuesOf_30 : decode cX0_valuesOf 30 = .ok (.getfield 75, 3) := by decide +kernel
theorem dX0_valuesOf_33 : decode cX0_valuesOf 33 = .ok (.iload_n 1, 1) := by decide +kernel
theorem dX0_valuesOf_34 : decode cX0_valuesOf 34 = .ok (.iaload, 1) := by decide +kernel
theorem dX0_valuesOf_35 : decode cX0_valuesOf 35 = .ok (.invokevirtual 90, 3) := by decide +kernel
theorem dX0_valuesOf_38 : decode cX0_valuesOf 38 = .ok (.aload_n 2, 1) := by decide +kernel
theorem dX0_valuesOf_39 : decode cX0_valuesOf 39 = .ok (.areturn, 1) := by decide +kernel
theorem dX0_valueWith_0 : decode cX0_valueWith 0 = .ok (.aload_n 0, 1) := by decide +kernel
theorem dX0_valueWith_1 : decode cX0_valueWith 1 = .ok (.iload_n 1, 1) := by decide +kernel
theorem dX0_valueWith_2 : decode cX0_valueWith 2 = .ok (.invokevirtual 94, 3) := by decide +kernel
theorem dX0_valueWith_5 : decode cX0_valueWith 5 = .ok (.aload_n 0, 1) := by decide +kernel
theorem dX0_valueWith_6 : decode cX0_valueWith 6 = .ok (.getfield 39, 3) := by decide +kernel
theorem dX0_valueWith_9 : decode cX0_valueWith 9 = .ok (.iload_n 2, 1) := by decide +kernel
theorem dX0_valueWith_10 : decode cX0_valueWith 10 = .ok (.invokestatic 98, 3) := by decide +kernel
theorem dX0_valueWith_13 : decode cX0_valueWith 13 = .ok (.invokevirtual 101, 3) := by decide +kernel
theorem dX0_valueWith_16 : decode cX0_valueWith 16 = .ok (.ireturn, 1) := by decide +kernel
theorem dX0_valueNow_0 : decode cX0_valueNow 0 = .ok (.aload_n 0, 1) := by decide +kernel
theorem dX0_valueNow_1 : decode cX0_valueNow 1 = .ok (.iload_n 1, 1) := by decide +kernel
theorem dX0_valueNow_2 : decode cX0_valueNow 2 = .ok (.aload_n 0, 1) := by decide +kernel
theorem dX0_valueNow_3 : decode cX0_valueNow 3 = .ok (.getfield 21, 3) := by decide +kernel
theorem dX0_valueNow_6 : decode cX0_valueNow 6 = .ok (.getfield 72, 3) := by decide +kernel
theorem dX0_valueNow_9 : decode cX0_valueNow 9 = .ok (.iload_n 1, 1) := by decide +kernel
theorem dX0_valueNow_10 : decode cX0_valueNow 10 = .ok (.iaload, 1) := by decide +kernel
theorem dX0_valueNow_11 : decode cX0_valueNow 11 = .ok (.invokevirtual 105, 3) := by decide +kernel
theorem dX0_valueNow_14 : decode cX0_valueNow 14 = .ok (.ireturn, 1) := by decide +kernel
theorem dX0_hasRightValue_0 : decode cX0_hasRightValue 0 = .ok (.aload_n 0, 1) := by decide +kernel
theorem dX0_hasRightValue_1 : decode cX0_hasRightValue 1 = .ok (.iload_n 1, 1) := by decide +kernel
theorem dX0_hasRightValue_2 : decode cX0_hasRightValue 2 = .ok (.invokevirtual 94, 3) := by decide +kernel
theorem dX0_hasRightValue_5 : decode cX0_hasRightValue 5 = .ok (.aload_n 0, 1) := by decide +kernel
theorem dX0_hasRightValue_6 : decode cX0_hasRightValue 6 = .ok (.getfield 39, 3) := by decide +kernel
theorem dX0_hasRightValue_9 : decode cX0_hasRightValue 9 = .ok (.aload_n 0, 1) := by decide +kernel
theorem dX0_hasRightValue_10 : decode cX0_hasRightValue 10 = .ok (.getfield 21, 3) := by decide +kernel
theorem dX0_hasRightValue_13 : decode cX0_hasRightValue 13 = .ok (.getfield 72, 3) := by decide +kernel
theorem dX0_hasRightValue_16 : decode cX0_hasRightValue 16 = .ok (.iload_n 1, 1) := by decide +kernel
theorem dX0_hasRightValue_17 : decode cX0_hasRightValue 17 = .ok (.iaload, 1) := by decide +kernel
theorem dX0_hasRightValue_18 : decode cX0_hasRightValue 18 = .ok (.invokevirtual 109, 3) := by decide +kernel
theorem dX0_hasRightValue_21 : decode cX0_hasRightValue 21 = .ok (.ireturn, 1) := by decide +kernel
theorem dX0_sumNow_0 : decode cX0_sumNow 0 = .ok (.iconst 0, 1) := by decide +kernel
theorem dX0_sumNow_1 : decode cX0_sumNow 1 = .ok (.istore_n 1, 1) := by decide +kernel
theorem dX0_sumNow_2 : decode cX0_sumNow 2 = .ok (.iconst 0, 1) := by decide +kernel
theorem dX0_sumNow_3 : decode cX0_sumNow 3 = .ok (.istore_n 2, 1) := by decide +kernel
theorem dX0_sumNow_4 : decode cX0_sumNow 4 = .ok (.iload_n 2, 1) := by decide +kernel
theorem dX0_sumNow_5 : decode cX0_sumNow 5 = .ok (.aload_n 0, 1) := by decide +kernel
theorem dX0_sumNow_6 : decode cX0_sumNow 6 = .ok (.getfield 12, 3) := by decide +kernel
theorem dX0_sumNow_9 : decode cX0_sumNow 9 = .ok (.getfield 57, 3) := by decide +kernel
theorem dX0_sumNow_12 : decode cX0_sumNow 12 = .ok (.if_icmp .ge 26, 3) := by decide +kernel
theorem dX0_sumNow_15 : decode cX0_sumNow 15 = .ok (.iload_n 1, 1) := by decide +kernel
theorem dX0_sumNow_16 : decode cX0_sumNow 16 = .ok (.aload_n 0, 1) := by decide +kernel
theorem dX0_sumNow_17 : decode cX0_sumNow 17 = .ok (.iload_n 2, 1) := by decide +kernel
theorem dX0_sumNow_18 : decode cX0_sumNow 18 = .ok (.aload_n 0, 1) := by decide +kernel
theorem dX0_sumNow_19 : decode cX0_sumNow 19 = .ok (.getfield 21, 3) := by decide +kernel
theorem dX0_sumNow_22 : decode cX0_sumNow 22 = .ok (.getfield 72, 3) := by decide +kernel
theorem dX0_sumNow_25 : decode cX0_sumNow 25 = .ok (.iload_n 2, 1) := by decide +kernel
theorem dX0_sumNow_26 : decode cX0_sumNow 26 = .ok (.iaload, 1) := by decide +kernel
theorem dX0_sumNow_27 : decode cX0_sumNow 27 = .ok (.invokevirtual 105, 3) := by decide +kernel
theorem dX0_sumNow_30 : decode cX0_sumNow 30 = .ok (.ixor, 1) := by decide +kernel
theorem dX0_sumNow_31 : decode cX0_sumNow 31 = .ok (.istore_n 1, 1) := by decide +kernel
theorem dX0_sumNow_32 : decode cX0_sumNow 32 = .ok (.iinc 2 1, 3) := by decide +kernel
theorem dX0_sumNow_35 : decode cX0_sumNow 35 = .ok (.goto (-31), 3) := by decide +kernel
theorem dX0_sumNow_38 : decode cX0_sumNow 38 = .ok (.iload_n 1, 1) := by decide +kernel
theorem dX0_sumNow_39 : decode cX0_sumNow 39 = .ok (.ireturn, 1) := by decide +kernel
theorem dX0_explore_0 : decode cX0_explore 0 = .ok (.aload_n 0, 1) := by decide +kernel
theorem dX0_explore_1 : decode cX0_explore 1 = .ok (.getfield 28, 3) := by decide +kernel
theorem dX0_explore_4 : decode cX0_explore 4 = .ok (.aload_n 0, 1) := by decide +kernel
theorem dX0_explore_5 : decode cX0_explore 5 = .ok (.getfield 39, 3) := by decide +kernel
theorem dX0_explore_8 : decode cX0_explore 8 = .ok (.aload_n 0, 1) := by decide +kernel
theorem dX0_explore_9 : decode cX0_explore 9 = .ok (.getfield 21, 3) := by decide +kernel
theorem dX0_explore_12 : decode cX0_explore 12 = .ok (.getfield 72, 3) := by decide +kernel
theorem dX0_explore_15 : decode cX0_explore 15 = .ok (.iload_n 1, 1) := by decide +kernel
theorem dX0_explore_16 : decode cX0_explore 16 = .ok (.iaload, 1) := by decide +kernel
theorem dX0_explore_17 : decode cX0_explore 17 = .ok (.aload_n 0, 1) := by decide +kernel
theorem dX0_explore_18 : decode cX0_explore 18 = .ok (.getfield 12, 3) := by decide +kernel
theorem dX0_explore_21 : decode cX0_explore 21 = .ok (.getfield 65, 3) := by decide +kernel
theorem dX0_explore_24 : decode cX0_explore 24 = .ok (.iload_n 1, 1) := by decide +kernel
theorem dX0_explore_25 : decode cX0_explore 25 = .ok (.iaload, 1) := by decide +kernel
theorem dX0_explore_26 : decode cX0_explore 26 = .ok (.aload_n 0, 1) := by decide +kernel
theorem dX0_explore_27 : decode cX0_explore 27 = .ok (.getfield 21, 3) := by decide +kernel
theorem dX0_explore_30 : decode cX0_explore 30 = .ok (.getfield 75, 3) := by decide +kernel
theorem dX0_explore_33 : decode cX0_explore 33 = .ok (.iload_n 1, 1) := by decide +kernel
theorem dX0_explore_34 : decode cX0_explore 34 = .ok (.iaload, 1) := by decide +kernel
theorem dX0_explore_35 : decode cX0_explore 35 = .ok (.invokevirtual 113, 3) := by decide +kernel
theorem dX0_explore_38 : decode cX0_explore 38 = .ok (.return_, 1) := by decide +kernel
theorem dX0_sumOfReachedValues_0 : decode cX0_sumOfReachedValues 0 = .ok (.aload_n 0, 1) := by decide +kernel
theorem dX0_sumOfReachedValues_1 : decode cX0_sumOfReachedValues 1 = .ok (.iload_n 1, 1) := by decide +kernel
theorem dX0_sumOfReachedValues_2 : decode cX0_sumOfReachedValues 2 = .ok (.invokevirtual 94, 3) := by decide +kernel
theorem dX0_sumOfReachedValues_5 : decode cX0_sumOfReachedValues 5 = .ok (.astore_n 2, 1) := by decide +kernel
theorem dX0_sumOfReachedValues_6 : decode cX0_sumOfReachedValues 6 = .ok (.iconst 0, 1) := by decide +kernel
theorem dX0_sumOfReachedValues_7 : decode cX0_sumOfReachedValues 7 = .ok (.istore_n 3, 1) := by decide +kernel
theorem dX0_sumOfReachedValues_8 : decode cX0_sumOfReachedValues 8 = .ok (.iconst 0, 1) := by decide +kernel
theorem dX0_sumOfReachedValues_9 : decode cX0_sumOfReachedValues 9 = .ok (.istore 4, 2) := by decide +kernel
theorem dX0_sumOfReachedValues_11 : decode cX0_sumOfReachedValues 11 = .ok (.iload 4, 2) := by decide +kernel
theorem dX0_sumOfReachedValues_13 : decode cX0_sumOfReachedValues 13 = .ok (.sipush 299, 3) := by decide +kernel
theorem dX0_sumOfReachedValues_16 : decode cX0_sumOfReachedValues 16 = .ok (.if_icmp .ge 34, 3) := by decide +kernel
theorem dX0_sumOfReachedValues_19 : decode cX0_sumOfReachedValues 19 = .ok (.aload_n 0, 1) := by decide +kernel
theorem dX0_sumOfReachedValues_20 : decode cX0_sumOfReachedValues 20 = .ok (.getfield 28, 3) := by decide +kernel
theorem dX0_sumOfReachedValues_23 : decode cX0_sumOfReachedValues 23 = .ok (.iload 4, 2) := by decide +kernel
theorem dX0_sumOfReachedValues_25 : decode cX0_sumOfReachedValues 25 = .ok (.invokevirtual 117, 3) := by decide +kernel
theorem dX0_sumOfReachedValues_28 : decode cX0_sumOfReachedValues 28 = .ok (.ifCond .eq 16, 3) := by decide +kernel
theorem dX0_sumOfReachedValues_31 : decode cX0_sumOfReachedValues 31 = .ok (.iload_n 3, 1) := by decide +kernel
theorem dX0_sumOfReachedValues_32 : decode cX0_sumOfReachedValues 32 = .ok (.aload_n 2, 1) := by decide +kernel
theorem dX0_sumOfReachedValues_33 : decode cX0_sumOfReachedValues 33 = .ok (.aload_n 0, 1) := by decide +kernel
theorem dX0_sumOfReachedValues_34 : decode cX0_sumOfReachedValues 34 = .ok (.getfield 39, 3) := by decide +kernel
theorem dX0_sumOfReachedValues_37 : decode cX0_sumOfReachedValues 37 = .ok (.iload 4, 2) := by decide +kernel
theorem dX0_sumOfReachedValues_39 : decode cX0_sumOfReachedValues 39 = .ok (.invokevirtual 101, 3) := by decide +kernel
theorem dX0_sumOfReachedValues_42 : decode cX0_sumOfReachedValues 42 = .ok (.iadd, 1) := by decide +kernel
theorem dX0_sumOfReachedValues_43 : decode cX0_sumOfReachedValues 43 = .ok (.istore_n 3, 1) := by decide +kernel
theorem dX0_sumOfReachedValues_44 : decode cX0_sumOfReachedValues 44 = .ok (.iinc 4 1, 3) := by decide +kernel
theorem dX0_sumOfReachedValues_47 : decode cX0_sumOfReachedValues 47 = .ok (.goto (-36), 3) := by decide +kernel
theorem dX0_sumOfReachedValues_50 : decode cX0_sumOfReachedValues 50 = .ok (.iload_n 3, 1) := by decide +kernel
theorem dX0_sumOfReachedValues_51 : decode cX0_sumOfReachedValues 51 = .ok (.ireturn, 1) := by decide +kernel
theorem dX0_listChoices_0 : decode cX0_listChoices 0 = .ok (.iconst 0, 1) := by decide +kernel
theorem dX0_listChoices_1 : decode cX0_listChoices 1 = .ok (.istore_n 1, 1) := by decide +kernel
theorem dX0_listChoices_2 : decode cX0_listChoices 2 = .ok (.iconst 0, 1) := by decide +kernel
theorem dX0_listChoices_3 : decode cX0_listChoices 3 = .ok (.istore_n 2, 1) := by decide +kernel
theorem dX0_listChoices_4 : decode cX0_listChoices 4 = .ok (.iload_n 2, 1) := by decide +kernel
theorem dX0_listChoices_5 : decode cX0_listChoices 5 = .ok (.aload_n 0, 1) := by decide +kernel
theorem dX0_listChoices_6 : decode cX0_listChoices 6 = .ok (.getfield 12, 3) := by decide +kernel
theorem dX0_listChoices_9 : decode cX0_listChoices 9 = .ok (.getfield 57, 3) := by decide +kernel
theorem dX0_listChoices_12 : decode cX0_listChoices 12 = .ok (.if_icmp .ge 108, 3) := by decide +kernel
theorem dX0_listChoices_15 : decode cX0_listChoices 15 = .ok (.aload_n 0, 1) := by decide +kernel
theorem dX0_listChoices_16 : decode cX0_listChoices 16 = .ok (.getfield 12, 3) := by decide +kernel
theorem dX0_listChoices_19 : decode cX0_listChoices 19 = .ok (.getfield 121, 3) := by decide +kernel
theorem dX0_listChoices_22 : decode cX0_listChoices 22 = .ok (.iload_n 2, 1) := by decide +kernel
theorem dX0_listChoices_23 : decode cX0_listChoices 23 = .ok (.iaload, 1) := by decide +kernel
theorem dX0_listChoices_24 : decode cX0_listChoices 24 = .ok (.istore_n 3, 1) := by decide +kernel
theorem dX0_listChoices_25 : decode cX0_listChoices 25 = .ok (.iload_n 3, 1) := by decide +kernel
theorem dX0_listChoices_26 : decode cX0_listChoices 26 = .ok (.ifCond .le 88, 3) := by decide +kernel
theorem dX0_listChoices_29 : decode cX0_listChoices 29 = .ok (.aload_n 0, 1) := by decide +kernel
theorem dX0_listChoices_30 : decode cX0_listChoices 30 = .ok (.getfield 21, 3) := by decide +kernel
theorem dX0_listChoices_33 : decode cX0_listChoices 33 = .ok (.getfield 72, 3) := by decide +kernel
theorem dX0_listChoices_36 : decode cX0_listChoices 36 = .ok (.iload_n 2, 1) := by decide +kernel
theorem dX0_listChoices_37 : decode cX0_listChoices 37 = .ok (.iaload, 1) := by decide +kernel
theorem dX0_listChoices_38 : decode cX0_listChoices 38 = .ok (.iload_n 3, 1) := by decide +kernel
theorem dX0_listChoices_39 : decode cX0_listChoices 39 = .ok (.invokestatic 68, 3) := by decide +kernel
theorem dX0_listChoices_42 : decode cX0_listChoices 42 = .ok (.ifCond .eq 7, 3) := by decide +kernel
theorem dX0_listChoices_45 : decode cX0_listChoices 45 = .ok (.iload_n 3, 1) := by decide +kernel
theorem dX0_listChoices_46 : decode cX0_listChoices 46 = .ok (.goto 4, 3) := by decide +kernel
theorem dX0_listChoices_49 : decode cX0_listChoices 49 = .ok (.iconst 0, 1) := by decide +kernel
theorem dX0_listChoices_50 : decode cX0_listChoices 50 = .ok (.istore 4, 2) := by decide +kernel
theorem dX0_listChoices_52 : decode cX0_listChoices 52 = .ok (.iconst 1, 1) := by decide +kernel
theorem dX0_listChoices_53 : decode cX0_listChoices 53 = .ok (.istore 5, 2) := by decide +kernel
theorem dX0_listChoices_55 : decode cX0_listChoices 55 = .ok (.iload 5, 2) := by decide +kernel
theorem dX0_listChoices_57 : decode cX0_listChoices 57 = .ok (.iload 4, 2) := by decide +kernel
theorem dX0_listChoices_59 : decode cX0_listChoices 59 = .ok (.if_icmp .gt 49, 3) := by decide +kernel
theorem dX0_listChoices_62 : decode cX0_listChoices 62 = .ok (.iload_n 1, 1) := by decide +kernel
theorem dX0_listChoices_63 : decode cX0_listChoices 63 = .ok (.aload_n 0, 1) := by decide +kernel
theorem dX0_listChoices_64 : decode cX0_listChoices 64 = .ok (.getfield 32, 3) := by decide +kernel
theorem dX0_listChoices_67 : decode cX0_listChoices 67 = .ok (.arraylength, 1) := by decide +kernel
theorem dX0_listChoices_68 : decode cX0_listChoices 68 = .ok (.if_icmp .ge 40, 3) := by decide +kernel
theorem dX0_listChoices_71 : decode cX0_listChoices 71 = .ok (.aload_n 0, 1) := by decide +kernel
theorem dX0_listChoices_72 : decode cX0_listChoices 72 = .ok (.iload_n 2, 1) := by decide +kernel
theorem dX0_listChoices_73 : decode cX0_listChoices 73 = .ok (.iload_n 3, 1) := by decide +kernel
theorem dX0_listChoices_74 : decode cX0_listChoices 74 = .ok (.iload 5, 2) := by decide +kernel
theorem dX0_listChoices_76 : decode cX0_listChoices 76 = .ok (.invokevirtual 124, 3) := by decide +kernel
theorem dX0_listChoices_79 : decode cX0_listChoices 79 = .ok (.ifCond .ne 23, 3) := by decide +kernel
theorem dX0_listChoices_82 : decode cX0_listChoices 82 = .ok (.aload_n 0, 1) := by decide +kernel
theorem dX0_listChoices_83 : decode cX0_listChoices 83 = .ok (.getfield 32, 3) := by decide +kernel
theorem dX0_listChoices_86 : decode cX0_listChoices 86 = .ok (.iload_n 1, 1) := by decide +kernel
theorem dX0_listChoices_87 : decode cX0_listChoices 87 = .ok (.iload_n 2, 1) := by decide +kernel
theorem dX0_listChoices_88 : decode cX0_listChoices 88 = .ok (.bipush 8, 2) := by decide +kernel
theorem dX0_listChoices_90 : decode cX0_listChoices 90 = .ok (.ishl, 1) := by decide +kernel
theorem dX0_listChoices_91 : decode cX0_listChoices 91 = .ok (.iload_n 3, 1) := by decide +kernel
theorem dX0_listChoices_92 : decode cX0_listChoices 92 = .ok (.iconst 4, 1) := by decide +kernel
theorem dX0_listChoices_93 : decode cX0_listChoices 93 = .ok (.ishl, 1) := by decide +kernel
theorem dX0_listChoices_94 : decode cX0_listChoices 94 = .ok (.ior, 1) := by decide +kernel
theorem dX0_listChoices_95 : decode cX0_listChoices 95 = .ok (.iload 5, 2) := by decide +kernel
theorem dX0_listChoices_97 : decode cX0_listChoices 97 = .ok (.ior, 1) := by decide +kernel
theorem dX0_listChoices_98 : decode cX0_listChoices 98 = .ok (.iastore, 1) := by decide +kernel
theorem dX0_listChoices_99 : decode cX0_listChoices 99 = .ok (.iinc 1 1, 3) := by decide +kernel
theorem dX0_listChoices_102 : decode cX0_listChoices 102 = .ok (.iinc 5 1, 3) := by decide +kernel
theorem dX0_listChoices_105 : decode cX0_listChoices 105 = .ok (.goto (-50), 3) := by decide +kernel
theorem dX0_listChoices_108 : decode cX0_listChoices 108 = .ok (.iinc 3 (-1), 3) := by decide +kernel
theorem dX0_listChoices_111 : decode cX0_listChoices 111 = .ok (.goto (-86), 3) := by decide +kernel
theorem dX0_listChoices_114 : decode cX0_listChoices 114 = .ok (.iinc 2 1, 3) := by decide +kernel
theorem dX0_listChoices_117 : decode cX0_listChoices 117 = .ok (.goto (-113), 3) := by decide +kernel
theorem dX0_listChoices_120 : decode cX0_listChoices 120 = .ok (.iload_n 1, 1) := by decide +kernel
theorem dX0_listChoices_121 : decode cX0_listChoices 121 = .ok (.ireturn, 1) := by decide +kernel
theorem dX0_ladderOf_0 : decode cX0_ladderOf 0 = .ok (.iload_n 0, 1) := by decide +kernel
theorem dX0_ladderOf_1 : decode cX0_ladderOf 1 = .ok (.bipush 8, 2) := by decide +kernel
theorem dX0_ladderOf_3 : decode cX0_ladderOf 3 = .ok (.ishr, 1) := by decide +kernel
theorem dX0_ladderOf_4 : decode cX0_ladderOf 4 = .ok (.ireturn, 1) := by decide +kernel
theorem dX0_heightOf_0 : decode cX0_heightOf 0 = .ok (.iload_n 0, 1) := by decide +kernel
theorem dX0_heightOf_1 : decode cX0_heightOf 1 = .ok (.iconst 4, 1) := by decide +kernel
theorem dX0_heightOf_2 : decode cX0_heightOf 2 = .ok (.ishr, 1) := by decide +kernel
theorem dX0_heightOf_3 : decode cX0_heightOf 3 = .ok (.bipush 15, 2) := by decide +kernel
theorem dX0_heightOf_5 : decode cX0_heightOf 5 = .ok (.iand, 1) := by decide +kernel
theorem dX0_heightOf_6 : decode cX0_heightOf 6 = .ok (.ireturn, 1) := by decide +kernel
theorem dX0_sizeOf_0 : decode cX0_sizeOf 0 = .ok (.iload_n 0, 1) := by decide +kernel
theorem dX0_sizeOf_1 : decode cX0_sizeOf 1 = .ok (.bipush 15, 2) := by decide +kernel
theorem dX0_sizeOf_3 : decode cX0_sizeOf 3 = .ok (.iand, 1) := by decide +kernel
theorem dX0_sizeOf_4 : decode cX0_sizeOf 4 = .ok (.ireturn, 1) := by decide +kernel
theorem dX0_changeOfValue_0 : decode cX0_changeOfValue 0 = .ok (.iload_n 1, 1) := by decide +kernel
theorem dX0_changeOfValue_1 : decode cX0_changeOfValue 1 = .ok (.invokestatic 127, 3) := by decide +kernel
theorem dX0_changeOfValue_4 : decode cX0_changeOfValue 4 = .ok (.istore_n 2, 1) := by decide +kernel
theorem dX0_changeOfValue_5 : decode cX0_changeOfValue 5 = .ok (.iload_n 1, 1) := by decide +kernel
theorem dX0_changeOfValue_6 : decode cX0_changeOfValue 6 = .ok (.invokestatic 130, 3) := by decide +kernel
theorem dX0_changeOfValue_9 : decode cX0_changeOfValue 9 = .ok (.istore_n 3, 1) := by decide +kernel
theorem dX0_changeOfValue_10 : decode cX0_changeOfValue 10 = .ok (.aload_n 0, 1) := by decide +kernel
theorem dX0_changeOfValue_11 : decode cX0_changeOfValue 11 = .ok (.getfield 21, 3) := by decide +kernel
theorem dX0_changeOfValue_14 : decode cX0_changeOfValue 14 = .ok (.getfield 72, 3) := by decide +kernel
theorem dX0_changeOfValue_17 : decode cX0_changeOfValue 17 = .ok (.iload_n 2, 1) := by decide +kernel
theorem dX0_changeOfValue_18 : decode cX0_changeOfValue 18 = .ok (.iaload, 1) := by decide +kernel
theorem dX0_changeOfValue_19 : decode cX0_changeOfValue 19 = .ok (.istore 4, 2) := by decide +kernel
theorem dX0_changeOfValue_21 : decode cX0_changeOfValue 21 = .ok (.iload 4, 2) := by decide +kernel
theorem dX0_changeOfValue_23 : decode cX0_changeOfValue 23 = .ok (.iload_n 3, 1) := by decide +kernel
theorem dX0_changeOfValue_24 : decode cX0_changeOfValue 24 = .ok (.iload_n 3, 1) := by decide +kernel
theorem dX0_changeOfValue_25 : decode cX0_changeOfValue 25 = .ok (.iload_n 1, 1) := by decide +kernel
theorem dX0_changeOfValue_26 : decode cX0_changeOfValue 26 = .ok (.invokestatic 133, 3) := by decide +kernel
theorem dX0_changeOfValue_29 : decode cX0_changeOfValue 29 = .ok (.isub, 1) := by decide +kernel
theorem dX0_changeOfValue_30 : decode cX0_changeOfValue 30 = .ok (.invokestatic 136, 3) := by decide +kernel
theorem dX0_changeOfValue_33 : decode cX0_changeOfValue 33 = .ok (.istore 5, 2) := by decide +kernel
theorem dX0_changeOfValue_35 : decode cX0_changeOfValue 35 = .ok (.aload_n 0, 1) := by decide +kernel
theorem dX0_changeOfValue_36 : decode cX0_changeOfValue 36 = .ok (.iload_n 2, 1) := by decide +kernel
theorem dX0_changeOfValue_37 : decode cX0_changeOfValue 37 = .ok (.invokevirtual 94, 3) := by decide +kernel
theorem dX0_changeOfValue_40 : decode cX0_changeOfValue 40 = .ok (.astore 6, 2) := by decide +kernel
theorem dX0_changeOfValue_42 : decode cX0_changeOfValue 42 = .ok (.aload 6, 2) := by decide +kernel
theorem dX0_changeOfValue_44 : decode cX0_changeOfValue 44 = .ok (.aload_n 0, 1) := by decide +kernel
theorem dX0_changeOfValue_45 : decode cX0_changeOfValue 45 = .ok (.getfield 39, 3) := by decide +kernel
theorem dX0_changeOfValue_48 : decode cX0_changeOfValue 48 = .ok (.iload 4, 2) := by decide +kernel
theorem dX0_changeOfValue_50 : decode cX0_changeOfValue 50 = .ok (.invokestatic 98, 3) := by decide +kernel
theorem dX0_changeOfValue_53 : decode cX0_changeOfValue 53 = .ok (.invokevirtual 101, 3) := by decide +kernel
theorem dX0_changeOfValue_56 : decode cX0_changeOfValue 56 = .ok (.aload 6, 2) := by decide +kernel
theorem dX0_changeOfValue_58 : decode cX0_changeOfValue 58 = .ok (.aload_n 0, 1) := by decide +kernel
theorem dX0_changeOfValue_59 : decode cX0_changeOfValue 59 = .ok (.getfield 39, 3) := by decide +kernel
theorem dX0_changeOfValue_62 : decode cX0_changeOfValue 62 = .ok (.iload 5, 2) := by decide +kernel
theorem dX0_changeOfValue_64 : decode cX0_changeOfValue 64 = .ok (.invokestatic 98, 3) := by decide +kernel
theorem dX0_changeOfValue_67 : decode cX0_changeOfValue 67 = .ok (.invokevirtual 101, 3) := by decide +kernel
theorem dX0_changeOfValue_70 : decode cX0_changeOfValue 70 = .ok (.ixor, 1) := by decide +kernel
theorem dX0_changeOfValue_71 : decode cX0_changeOfValue 71 = .ok (.ireturn, 1) := by decide +kernel
theorem dX0_firstWinning_0 : decode cX0_firstWinning 0 = .ok (.iconst 0, 1) := by decide +kernel
theorem dX0_firstWinning_1 : decode cX0_firstWinning 1 = .ok (.istore_n 3, 1) := by decide +kernel
theorem dX0_firstWinning_2 : decode cX0_firstWinning 2 = .ok (.iload_n 3, 1) := by decide +kernel
theorem dX0_firstWinning_3 : decode cX0_firstWinning 3 = .ok (.iload_n 1, 1) := by decide +kernel
theorem dX0_firstWinning_4 : decode cX0_firstWinning 4 = .ok (.if_icmp .ge 34, 3) := by decide +kernel
theorem dX0_firstWinning_7 : decode cX0_firstWinning 7 = .ok (.iload_n 3, 1) := by decide +kernel
theorem dX0_firstWinning_8 : decode cX0_firstWinning 8 = .ok (.aload_n 0, 1) := by decide +kernel
theorem dX0_firstWinning_9 : decode cX0_firstWinning 9 = .ok (.getfield 32, 3) := by decide +kernel
theorem dX0_firstWinning_12 : decode cX0_firstWinning 12 = .ok (.arraylength, 1) := by decide +kernel
theorem dX0_firstWinning_13 : decode cX0_firstWinning 13 = .ok (.if_icmp .ge 25, 3) := by decide +kernel
theorem dX0_firstWinning_16 : decode cX0_firstWinning 16 = .ok (.aload_n 0, 1) := by decide +kernel
theorem dX0_firstWinning_17 : decode cX0_firstWinning 17 = .ok (.aload_n 0, 1) := by decide +kernel
theorem dX0_firstWinning_18 : decode cX0_firstWinning 18 = .ok (.getfield 32, 3) := by decide +kernel
theorem dX0_firstWinning_21 : decode cX0_firstWinning 21 = .ok (.iload_n 3, 1) := by decide +kernel
theorem dX0_firstWinning_22 : decode cX0_firstWinning 22 = .ok (.iaload, 1) := by decide +kernel
theorem dX0_firstWinning_23 : decode cX0_firstWinning 23 = .ok (.invokevirtual 139, 3) := by decide +kernel
theorem dX0_firstWinning_26 : decode cX0_firstWinning 26 = .ok (.iload_n 2, 1) := by decide +kernel
theorem dX0_firstWinning_27 : decode cX0_firstWinning 27 = .ok (.if_icmp .ne 5, 3) := by decide +kernel
theorem dX0_firstWinning_30 : decode cX0_firstWinning 30 = .ok (.iload_n 3, 1) := by decide +kernel
theorem dX0_firstWinning_31 : decode cX0_firstWinning 31 = .ok (.ireturn, 1) := by decide +kernel
theorem dX0_firstWinning_32 : decode cX0_firstWinning 32 = .ok (.iinc 3 1, 3) := by decide +kernel
theorem dX0_firstWinning_35 : decode cX0_firstWinning 35 = .ok (.goto (-33), 3) := by decide +kernel
theorem dX0_firstWinning_38 : decode cX0_firstWinning 38 = .ok (.iconst (-1), 1) := by decide +kernel
theorem dX0_firstWinning_39 : decode cX0_firstWinning 39 = .ok (.ireturn, 1) := by decide +kernel
theorem dX0_reasonAgainstStep_0 : decode cX0_reasonAgainstStep 0 = .ok (.aload_n 0, 1) := by decide +kernel
theorem dX0_reasonAgainstStep_1 : decode cX0_reasonAgainstStep 1 = .ok (.getfield 12, 3) := by decide +kernel
theorem dX0_reasonAgainstStep_4 : decode cX0_reasonAgainstStep 4 = .ok (.iload_n 1, 1) := by decide +kernel
theorem dX0_reasonAgainstStep_5 : decode cX0_reasonAgainstStep 5 = .ok (.invokevirtual 142, 3) := by decide +kernel
theorem dX0_reasonAgainstStep_8 : decode cX0_reasonAgainstStep 8 = .ok (.ifCond .ne 5, 3) := by decide +kernel
theorem dX0_reasonAgainstStep_11 : decode cX0_reasonAgainstStep 11 = .ok (.iconst 2, 1) := by decide +kernel
theorem dX0_reasonAgainstStep_12 : decode cX0_reasonAgainstStep 12 = .ok (.ireturn, 1) := by decide +kernel
theorem dX0_reasonAgainstStep_13 : decode cX0_reasonAgainstStep 13 = .ok (.aload_n 0, 1) := by decide +kernel
theorem dX0_reasonAgainstStep_14 : decode cX0_reasonAgainstStep 14 = .ok (.getfield 21, 3) := by decide +kernel
theorem dX0_reasonAgainstStep_17 : decode cX0_reasonAgainstStep 17 = .ok (.getfield 72, 3) := by decide +kernel
theorem dX0_reasonAgainstStep_20 : decode cX0_reasonAgainstStep 20 = .ok (.iload_n 1, 1) := by decide +kernel
theorem dX0_reasonAgainstStep_21 : decode cX0_reasonAgainstStep 21 = .ok (.iaload, 1) := by decide +kernel
theorem dX0_reasonAgainstStep_22 : decode cX0_reasonAgainstStep 22 = .ok (.istore 4, 2) := by decide +kernel
theorem dX0_reasonAgainstStep_24 : decode cX0_reasonAgainstStep 24 = .ok (.iload_n 2, 1) := by decide +kernel
theorem dX0_reasonAgainstStep_25 : decode cX0_reasonAgainstStep 25 = .ok (.iconst 1, 1) := by decide +kernel
theorem dX0_reasonAgainstStep_26 : decode cX0_reasonAgainstStep 26 = .ok (.if_icmp .lt 25, 3) := by decide +kernel
theorem dX0_reasonAgainstStep_29 : decode cX0_reasonAgainstStep 29 = .ok (.iload_n 2, 1) := by decide +kernel
theorem dX0_reasonAgainstStep_30 : decode cX0_reasonAgainstStep 30 = .ok (.aload_n 0, 1) := by decide +kernel
theorem dX0_reasonAgainstStep_31 : decode cX0_reasonAgainstStep 31 = .ok (.getfield 12, 3) := by decide +kernel
theorem dX0_reasonAgainstStep_34 : decode cX0_reasonAgainstStep 34 = .ok (.getfield 121, 3) := by decide +kernel
theorem dX0_reasonAgainstStep_37 : decode cX0_reasonAgainstStep 37 = .ok (.iload_n 1, 1) := by decide +kernel
theorem dX0_reasonAgainstStep_38 : decode cX0_reasonAgainstStep 38 = .ok (.iaload, 1) := by decide +kernel
theorem dX0_reasonAgainstStep_39 : decode cX0_reasonAgainstStep 39 = .ok (.if_icmp .gt 12, 3) := by decide +kernel
theorem dX0_reasonAgainstStep_42 : decode cX0_reasonAgainstStep 42 = .ok (.iload 4, 2) := by decide +kernel
theorem dX0_reasonAgainstStep_44 : decode cX0_reasonAgainstStep 44 = .ok (.iload_n 2, 1) := by decide +kernel
theorem dX0_reasonAgainstStep_45 : decode cX0_reasonAgainstStep 45 = .ok (.invokestatic 68, 3) := by decide +kernel
theorem dX0_reasonAgainstStep_48 : decode cX0_reasonAgainstStep 48 = .ok (.ifCond .ne 5, 3) := by decide +kernel
theorem dX0_reasonAgainstStep_51 : decode cX0_reasonAgainstStep 51 = .ok (.iconst 3, 1) := by decide +kernel
theorem dX0_reasonAgainstStep_52 : decode cX0_reasonAgainstStep 52 = .ok (.ireturn, 1) := by decide +kernel
theorem dX0_reasonAgainstStep_53 : decode cX0_reasonAgainstStep 53 = .ok (.iload_n 3, 1) := by decide +kernel
theorem dX0_reasonAgainstStep_54 : decode cX0_reasonAgainstStep 54 = .ok (.iconst 1, 1) := by decide +kernel
theorem dX0_reasonAgainstStep_55 : decode cX0_reasonAgainstStep 55 = .ok (.if_icmp .lt 25, 3) := by decide +kernel
theorem dX0_reasonAgainstStep_58 : decode cX0_reasonAgainstStep 58 = .ok (.iload_n 3, 1) := by decide +kernel
theorem dX0_reasonAgainstStep_59 : decode cX0_reasonAgainstStep 59 = .ok (.bipush 12, 2) := by decide +kernel
theorem dX0_reasonAgainstStep_61 : decode cX0_reasonAgainstStep 61 = .ok (.if_icmp .gt 19, 3) := by decide +kernel
theorem dX0_reasonAgainstStep_64 : decode cX0_reasonAgainstStep 64 = .ok (.aload_n 0, 1) := by decide +kernel
theorem dX0_reasonAgainstStep_65 : decode cX0_reasonAgainstStep 65 = .ok (.getfield 12, 3) := by decide +kernel
theorem dX0_reasonAgainstStep_68 : decode cX0_reasonAgainstStep 68 = .ok (.getfield 65, 3) := by decide +kernel
theorem dX0_reasonAgainstStep_71 : decode cX0_reasonAgainstStep 71 = .ok (.iload_n 1, 1) := by decide +kernel
theorem dX0_reasonAgainstStep_72 : decode cX0_reasonAgainstStep 72 = .ok (.iaload, 1) := by decide +kernel
theorem dX0_reasonAgainstStep_73 : decode cX0_reasonAgainstStep 73 = .ok (.iload_n 3, 1) := by decide +kernel
theorem dX0_reasonAgainstStep_74 : decode cX0_reasonAgainstStep 74 = .ok (.invokestatic 68, 3) := by decide +kernel
theorem dX0_reasonAgainstStep_77 : decode cX0_reasonAgainstStep 77 = .ok (.ifCond .ne 5, 3) := by decide +kernel
theorem dX0_reasonAgainstStep_80 : decode cX0_reasonAgainstStep 80 = .ok (.iconst 4, 1) := by decide +kernel
theorem dX0_reasonAgainstStep_81 : decode cX0_reasonAgainstStep 81 = .ok (.ireturn, 1) := by decide +kernel
theorem dX0_reasonAgainstStep_82 : decode cX0_reasonAgainstStep 82 = .ok (.iload_n 2, 1) := by decide +kernel
theorem dX0_reasonAgainstStep_83 : decode cX0_reasonAgainstStep 83 = .ok (.iload_n 3, 1) := by decide +kernel
theorem dX0_reasonAgainstStep_84 : decode cX0_reasonAgainstStep 84 = .ok (.isub, 1) := by decide +kernel
theorem dX0_reasonAgainstStep_85 : decode cX0_reasonAgainstStep 85 = .ok (.istore 5, 2) := by decide +kernel
theorem dX0_reasonAgainstStep_87 : decode cX0_reasonAgainstStep 87 = .ok (.iload 5, 2) := by decide +kernel
theorem dX0_reasonAgainstStep_89 : decode cX0_reasonAgainstStep 89 = .ok (.ifCond .ge 5, 3) := by decide +kernel
theorem dX0_reasonAgainstStep_92 : decode cX0_reasonAgainstStep 92 = .ok (.iconst 5, 1) := by decide +kernel
theorem dX0_reasonAgainstStep_93 : decode cX0_reasonAgainstStep 93 = .ok (.ireturn, 1) := by decide +kernel
theorem dX0_reasonAgainstStep_94 : decode cX0_reasonAgainstStep 94 = .ok (.aload_n 0, 1) := by decide +kernel
theorem dX0_reasonAgainstStep_95 : decode cX0_reasonAgainstStep 95 = .ok (.getfield 21, 3) := by decide +kernel
theorem dX0_reasonAgainstStep_98 : decode cX0_reasonAgainstStep 98 = .ok (.getfield 75, 3) := by decide +kernel
theorem dX0_reasonAgainstStep_101 : decode cX0_reasonAgainstStep 101 = .ok (.iload_n 1, 1) := by decide +kernel
theorem dX0_reasonAgainstStep_102 : decode cX0_reasonAgainstStep 102 = .ok (.iaload, 1) := by decide +kernel
theorem dX0_reasonAgainstStep_103 : decode cX0_reasonAgainstStep 103 = .ok (.iload 5, 2) := by decide +kernel
theorem dX0_reasonAgainstStep_105 : decode cX0_reasonAgainstStep 105 = .ok (.invokestatic 68, 3) := by decide +kernel
theorem dX0_reasonAgainstStep_108 : decode cX0_reasonAgainstStep 108 = .ok (.ifCond .eq 6, 3) := by decide +kernel
theorem dX0_reasonAgainstStep_111 : decode cX0_reasonAgainstStep 111 = .ok (.bipush 6, 2) := by decide +kernel
theorem dX0_reasonAgainstStep_113 : decode cX0_reasonAgainstStep 113 = .ok (.ireturn, 1) := by decide +kernel
theorem dX0_reasonAgainstStep_114 : decode cX0_reasonAgainstStep 114 = .ok (.iload 4, 2) := by decide +kernel
theorem dX0_reasonAgainstStep_116 : decode cX0_reasonAgainstStep 116 = .ok (.iload 5, 2) := by decide +kernel
theorem dX0_reasonAgainstStep_118 : decode cX0_reasonAgainstStep 118 = .ok (.invokestatic 68, 3) := by decide +kernel
theorem dX0_reasonAgainstStep_121 : decode cX0_reasonAgainstStep 121 = .ok (.ifCond .eq 6, 3) := by decide +kernel
theorem dX0_reasonAgainstStep_124 : decode cX0_reasonAgainstStep 124 = .ok (.bipush 7, 2) := by decide +kernel
theorem dX0_reasonAgainstStep_126 : decode cX0_reasonAgainstStep 126 = .ok (.ireturn, 1) := by decide +kernel
theorem dX0_reasonAgainstStep_127 : decode cX0_reasonAgainstStep 127 = .ok (.aload_n 0, 1) := by decide +kernel
theorem dX0_reasonAgainstStep_128 : decode cX0_reasonAgainstStep 128 = .ok (.getfield 21, 3) := by decide +kernel
theorem dX0_reasonAgainstStep_131 : decode cX0_reasonAgainstStep 131 = .ok (.getfield 145, 3) := by decide +kernel
theorem dX0_reasonAgainstStep_134 : decode cX0_reasonAgainstStep 134 = .ok (.iload_n 1, 1) := by decide +kernel
theorem dX0_reasonAgainstStep_135 : decode cX0_reasonAgainstStep 135 = .ok (.iaload, 1) := by decide +kernel
theorem dX0_reasonAgainstStep_136 : decode cX0_reasonAgainstStep 136 = .ok (.iconst 1, 1) := by decide +kernel
theorem dX0_reasonAgainstStep_137 : decode cX0_reasonAgainstStep 137 = .ok (.aload_n 0, 1) := by decide +kernel
theorem dX0_reasonAgainstStep_138 : decode cX0_reasonAgainstStep 138 = .ok (.getfield 21, 3) := by decide +kernel
theorem dX0_reasonAgainstStep_141 : decode cX0_reasonAgainstStep 141 = .ok (.getfield 148, 3) := by decide +kernel
theorem dX0_reasonAgainstStep_144 : decode cX0_reasonAgainstStep 144 = .ok (.isub, 1) := by decide +kernel
theorem dX0_reasonAgainstStep_145 : decode cX0_reasonAgainstStep 145 = .ok (.if_icmp .ne 6, 3) := by decide +kernel
theorem dX0_reasonAgainstStep_148 : decode cX0_reasonAgainstStep 148 = .ok (.bipush 8, 2) := by decide +kernel
theorem dX0_reasonAgainstStep_150 : decode cX0_reasonAgainstStep 150 = .ok (.ireturn, 1) := by decide +kernel
theorem dX0_reasonAgainstStep_151 : decode cX0_reasonAgainstStep 151 = .ok (.aload_n 0, 1) := by decide +kernel
theorem dX0_reasonAgainstStep_152 : decode cX0_reasonAgainstStep 152 = .ok (.getfield 21, 3) := by decide +kernel
theorem dX0_reasonAgainstStep_155 : decode cX0_reasonAgainstStep 155 = .ok (.iload_n 1, 1) := by decide +kernel
theorem dX0_reasonAgainstStep_156 : decode cX0_reasonAgainstStep 156 = .ok (.iload_n 2, 1) := by decide +kernel
theorem dX0_reasonAgainstStep_157 : decode cX0_reasonAgainstStep 157 = .ok (.iload_n 3, 1) := by decide +kernel
theorem dX0_reasonAgainstStep_158 : decode cX0_reasonAgainstStep 158 = .ok (.invokevirtual 151, 3) := by decide +kernel
theorem dX0_reasonAgainstStep_161 : decode cX0_reasonAgainstStep 161 = .ok (.ifCond .eq 8, 3) := by decide +kernel
theorem dX0_reasonAgainstStep_164 : decode cX0_reasonAgainstStep 164 = .ok (.bipush 9, 2) := by decide +kernel
theorem dX0_reasonAgainstStep_166 : decode cX0_reasonAgainstStep 166 = .ok (.goto 4, 3) := by decide +kernel
theorem dX0_reasonAgainstStep_169 : decode cX0_reasonAgainstStep 169 = .ok (.iconst 0, 1) := by decide +kernel
theorem dX0_reasonAgainstStep_170 : decode cX0_reasonAgainstStep 170 = .ok (.ireturn, 1) := by decide +kernel
theorem dX0_makeStep_0 : decode cX0_makeStep 0 = .ok (.aload_n 0, 1) := by decide +kernel
theorem dX0_makeStep_1 : decode cX0_makeStep 1 = .ok (.getfield 21, 3) := by decide +kernel
theorem dX0_makeStep_4 : decode cX0_makeStep 4 = .ok (.getfield 72, 3) := by decide +kernel
theorem dX0_makeStep_7 : decode cX0_makeStep 7 = .ok (.iload_n 1, 1) := by decide +kernel
theorem dX0_makeStep_8 : decode cX0_makeStep 8 = .ok (.aload_n 0, 1) := by decide +kernel
theorem dX0_makeStep_9 : decode cX0_makeStep 9 = .ok (.getfield 21, 3) := by decide +kernel
theorem dX0_makeStep_12 : decode cX0_makeStep 12 = .ok (.getfield 72, 3) := by decide +kernel
theorem dX0_makeStep_15 : decode cX0_makeStep 15 = .ok (.iload_n 1, 1) := by decide +kernel
theorem dX0_makeStep_16 : decode cX0_makeStep 16 = .ok (.iaload, 1) := by decide +kernel
theorem dX0_makeStep_17 : decode cX0_makeStep 17 = .ok (.iload_n 2, 1) := by decide +kernel
theorem dX0_makeStep_18 : decode cX0_makeStep 18 = .ok (.iload_n 2, 1) := by decide +kernel
theorem dX0_makeStep_19 : decode cX0_makeStep 19 = .ok (.iload_n 3, 1) := by decide +kernel
theorem dX0_makeStep_20 : decode cX0_makeStep 20 = .ok (.isub, 1) := by decide +kernel
theorem dX0_makeStep_21 : decode cX0_makeStep 21 = .ok (.invokestatic 136, 3) := by decide +kernel
theorem dX0_makeStep_24 : decode cX0_makeStep 24 = .ok (.iastore, 1) := by decide +kernel
theorem dX0_makeStep_25 : decode cX0_makeStep 25 = .ok (.aload_n 0, 1) := by decide +kernel
theorem dX0_makeStep_26 : decode cX0_makeStep 26 = .ok (.getfield 21, 3) := by decide +kernel
theorem dX0_makeStep_29 : decode cX0_makeStep 29 = .ok (.iconst 0, 1) := by decide +kernel
theorem dX0_makeStep_30 : decode cX0_makeStep 30 = .ok (.iconst 1, 1) := by decide +kernel
theorem dX0_makeStep_31 : decode cX0_makeStep 31 = .ok (.invokevirtual 165, 3) := by decide +kernel
theorem dX0_makeStep_34 : decode cX0_makeStep 34 = .ok (.aload_n 0, 1) := by decide +kernel
theorem dX0_makeStep_35 : decode cX0_makeStep 35 = .ok (.getfield 21, 3) := by decide +kernel
theorem dX0_makeStep_38 : decode cX0_makeStep 38 = .ok (.iconst 1, 1) := by decide +kernel
theorem dX0_makeStep_39 : decode cX0_makeStep 39 = .ok (.iload_n 3, 1) := by decide +kernel
theorem dX0_makeStep_40 : decode cX0_makeStep 40 = .ok (.invokevirtual 165, 3) := by decide +kernel
theorem dX0_makeStep_43 : decode cX0_makeStep 43 = .ok (.aload_n 0, 1) := by decide +kernel
theorem dX0_makeStep_44 : decode cX0_makeStep 44 = .ok (.getfield 21, 3) := by decide +kernel
theorem dX0_makeStep_47 : decode cX0_makeStep 47 = .ok (.iconst 0, 1) := by decide +kernel
theorem dX0_makeStep_48 : decode cX0_makeStep 48 = .ok (.iload_n 1, 1) := by decide +kernel
theorem dX0_makeStep_49 : decode cX0_makeStep 49 = .ok (.iload_n 2, 1) := by decide +kernel
theorem dX0_makeStep_50 : decode cX0_makeStep 50 = .ok (.iload_n 3, 1) := by decide +kernel
theorem dX0_makeStep_51 : decode cX0_makeStep 51 = .ok (.invokevirtual 169, 3) := by decide +kernel
theorem dX0_makeStep_54 : decode cX0_makeStep 54 = .ok (.return_, 1) := by decide +kernel
theorem dX0_makePass_0 : decode cX0_makePass 0 = .ok (.aload_n 0, 1) := by decide +kernel
theorem dX0_makePass_1 : decode cX0_makePass 1 = .ok (.getfield 21, 3) := by decide +kernel
theorem dX0_makePass_4 : decode cX0_makePass 4 = .ok (.iconst 2, 1) := by decide +kernel
theorem dX0_makePass_5 : decode cX0_makePass 5 = .ok (.iconst 1, 1) := by decide +kernel
theorem dX0_makePass_6 : decode cX0_makePass 6 = .ok (.invokevirtual 165, 3) := by decide +kernel
theorem dX0_makePass_9 : decode cX0_makePass 9 = .ok (.aload_n 0, 1) := by decide +kernel
theorem dX0_makePass_10 : decode cX0_makePass 10 = .ok (.getfield 21, 3) := by decide +kernel
theorem dX0_makePass_13 : decode cX0_makePass 13 = .ok (.iconst 4, 1) := by decide +kernel
theorem dX0_makePass_14 : decode cX0_makePass 14 = .ok (.iconst (-1), 1) := by decide +kernel
theorem dX0_makePass_15 : decode cX0_makePass 15 = .ok (.iconst (-1), 1) := by decide +kernel
theorem dX0_makePass_16 : decode cX0_makePass 16 = .ok (.iconst (-1), 1) := by decide +kernel
theorem dX0_makePass_17 : decode cX0_makePass 17 = .ok (.invokevirtual 169, 3) := by decide +kernel
theorem dX0_makePass_20 : decode cX0_makePass 20 = .ok (.return_, 1) := by decide +kernel
theorem dX0_makeBestOrPass_0 : decode cX0_makeBestOrPass 0 = .ok (.iload_n 1, 1) := by decide +kernel
theorem dX0_makeBestOrPass_1 : decode cX0_makeBestOrPass 1 = .ok (.ifCond .ne 8, 3) := by decide +kernel
theorem dX0_makeBestOrPass_4 : decode cX0_makeBestOrPass 4 = .ok (.aload_n 0, 1) := by decide +kernel
theorem dX0_makeBestOrPass_5 : decode cX0_makeBestOrPass 5 = .ok (.invokevirtual 183, 3) := by decide +kernel
theorem dX0_makeBestOrPass_8 : decode cX0_makeBestOrPass 8 = .ok (.return_, 1) := by decide +kernel
theorem dX0_makeBestOrPass_9 : decode cX0_makeBestOrPass 9 = .ok (.aload_n 0, 1) := by decide +kernel
theorem dX0_makeBestOrPass_10 : decode cX0_makeBestOrPass 10 = .ok (.getfield 32, 3) := by decide +kernel
theorem dX0_makeBestOrPass_13 : decode cX0_makeBestOrPass 13 = .ok (.iload_n 2, 1) := by decide +kernel
theorem dX0_makeBestOrPass_14 : decode cX0_makeBestOrPass 14 = .ok (.iconst 0, 1) := by decide +kernel
theorem dX0_makeBestOrPass_15 : decode cX0_makeBestOrPass 15 = .ok (.invokestatic 186, 3) := by decide +kernel
theorem dX0_makeBestOrPass_18 : decode cX0_makeBestOrPass 18 = .ok (.iaload, 1) := by decide +kernel
theorem dX0_makeBestOrPass_19 : decode cX0_makeBestOrPass 19 = .ok (.istore_n 3, 1) := by decide +kernel
theorem dX0_makeBestOrPass_20 : decode cX0_makeBestOrPass 20 = .ok (.aload_n 0, 1) := by decide +kernel
theorem dX0_makeBestOrPass_21 : decode cX0_makeBestOrPass 21 = .ok (.iload_n 3, 1) := by decide +kernel
theorem dX0_makeBestOrPass_22 : decode cX0_makeBestOrPass 22 = .ok (.invokestatic 127, 3) := by decide +kernel
theorem dX0_makeBestOrPass_25 : decode cX0_makeBestOrPass 25 = .ok (.iload_n 3, 1) := by decide +kernel
theorem dX0_makeBestOrPass_26 : decode cX0_makeBestOrPass 26 = .ok (.invokestatic 130, 3) := by decide +kernel
theorem dX0_makeBestOrPass_29 : decode cX0_makeBestOrPass 29 = .ok (.iload_n 3, 1) := by decide +kernel
theorem dX0_makeBestOrPass_30 : decode cX0_makeBestOrPass 30 = .ok (.invokestatic 133, 3) := by decide +kernel
theorem dX0_makeBestOrPass_33 : decode cX0_makeBestOrPass 33 = .ok (.invokevirtual 191, 3) := by decide +kernel
theorem dX0_makeBestOrPass_36 : decode cX0_makeBestOrPass 36 = .ok (.return_, 1) := by decide +kernel
theorem dX1_init_0 : decode cX1_init 0 = .ok (.aload_n 0, 1) := by decide +kernel
theorem dX1_init_1 : decode cX1_init 1 = .ok (.invokespecial 3, 3) := by decide +kernel
theorem dX1_init_4 : decode cX1_init 4 = .ok (.aload_n 0, 1) := by decide +kernel
theorem dX1_init_5 : decode cX1_init 5 = .ok (.new 9, 3) := by decide +kernel
theorem dX1_init_8 : decode cX1_init 8 = .ok (.dup, 1) := by decide +kernel
theorem dX1_init_9 : decode cX1_init 9 = .ok (.invokespecial 11, 3) := by decide +kernel
theorem dX1_init_12 : decode cX1_init 12 = .ok (.putfield 12, 3) := by decide +kernel
theorem dX1_init_15 : decode cX1_init 15 = .ok (.aload_n 0, 1) := by decide +kernel
theorem dX1_init_16 : decode cX1_init 16 = .ok (.sipush 400, 3) := by decide +kernel
theorem dX1_init_19 : decode cX1_init 19 = .ok (.newarray .byte, 2) := by decide +kernel
theorem dX1_init_21 : decode cX1_init 21 = .ok (.putfield 18, 3) := by decide +kernel
theorem dX1_init_24 : decode cX1_init 24 = .ok (.return_, 1) := by decide +kernel
theorem dX1_addFour_0 : decode cX1_addFour 0 = .ok (.bipush 24, 2) := by decide +kernel
theorem dX1_addFour_2 : decode cX1_addFour 2 = .ok (.istore_n 2, 1) := by decide +kernel
theorem dX1_addFour_3 : decode cX1_addFour 3 = .ok (.iload_n 2, 1) := by decide +kernel
theorem dX1_addFour_4 : decode cX1_addFour 4 = .ok (.ifCond .lt 42, 3) := by decide +kernel
theorem dX1_addFour_7 : decode cX1_addFour 7 = .ok (.aload_n 0, 1) := by decide +kernel
theorem dX1_addFour_8 : decode cX1_addFour 8 = .ok (.getfield 22, 3) := by decide +kernel
theorem dX1_addFour_11 : decode cX1_addFour 11 = .ok (.sipush 400, 3) := by decide +kernel
theorem dX1_addFour_14 : decode cX1_addFour 14 = .ok (.if_icmp .ge 32, 3) := by decide +kernel
theorem dX1_addFour_17 : decode cX1_addFour 17 = .ok (.aload_n 0, 1) := by decide +kernel
theorem dX1_addFour_18 : decode cX1_addFour 18 = .ok (.getfield 18, 3) := by decide +kernel
theorem dX1_addFour_21 : decode cX1_addFour 21 = .ok (.aload_n 0, 1) := by decide +kernel
theorem dX1_addFour_22 : decode cX1_addFour 22 = .ok (.getfield 22, 3) := by decide +kernel
theorem dX1_addFour_25 : decode cX1_addFour 25 = .ok (.iload_n 1, 1) := by decide +kernel
theorem dX1_addFour_26 : decode cX1_addFour 26 = .ok (.iload_n 2, 1) := by decide +kernel
theorem dX1_addFour_27 : decode cX1_addFour 27 = .ok (.ishr, 1) := by decide +kernel
theorem dX1_addFour_28 : decode cX1_addFour 28 = .ok (.i2b, 1) := by decide +kernel
theorem dX1_addFour_29 : decode cX1_addFour 29 = .ok (.bastore, 1) := by decide +kernel
theorem dX1_addFour_30 : decode cX1_addFour 30 = .ok (.aload_n 0, 1) := by decide +kernel
theorem dX1_addFour_31 : decode cX1_addFour 31 = .ok (.dup, 1) := by decide +kernel
theorem dX1_addFour_32 : decode cX1_addFour 32 = .ok (.getfield 22, 3) := by decide +kernel
theorem dX1_addFour_35 : decode cX1_addFour 35 = .ok (.iconst 1, 1) := by decide +kernel
theorem dX1_addFour_36 : decode cX1_addFour 36 = .ok (.iadd, 1) := by decide +kernel
theorem dX1_addFour_37 : decode cX1_addFour 37 = .ok (.putfield 22, 3) := by decide +kernel
theorem dX1_addFour_40 : decode cX1_addFour 40 = .ok (.iinc 2 (-8), 3) := by decide +kernel
theorem dX1_addFour_43 : decode cX1_addFour 43 = .ok (.goto (-40), 3) := by decide +kernel
theorem dX1_addFour_46 : decode cX1_addFour 46 = .ok (.return_, 1) := by decide +kernel
theorem dX1_readGame_0 : decode cX1_readGame 0 = .ok (.aload_n 0, 1) := by decide +kernel
theorem dX1_readGame_1 : decode cX1_readGame 1 = .ok (.iload_n 1, 1) := by decide +kernel
theorem dX1_readGame_2 : decode cX1_readGame 2 = .ok (.sipush 400, 3) := by decide +kernel
theorem dX1_readGame_5 : decode cX1_readGame 5 = .ok (.invokestatic 26, 3) := by decide +kernel
theorem dX1_readGame_8 : decode cX1_readGame 8 = .ok (.putfield 32, 3) := by decide +kernel
theorem dX1_readGame_11 : decode cX1_readGame 11 = .ok (.aload_n 0, 1) := by decide +kernel
theorem dX1_readGame_12 : decode cX1_readGame 12 = .ok (.iconst 0, 1) := by decide +kernel
theorem dX1_readGame_13 : decode cX1_readGame 13 = .ok (.putfield 35, 3) := by decide +kernel
theorem dX1_readGame_16 : decode cX1_readGame 16 = .ok (.aload_n 0, 1) := by decide +kernel
theorem dX1_readGame_17 : decode cX1_readGame 17 = .ok (.iconst 0, 1) := by decide +kernel
theorem dX1_readGame_18 : decode cX1_readGame 18 = .ok (.putfield 38, 3) := by decide +kernel
theorem dX1_readGame_21 : decode cX1_readGame 21 = .ok (.aload_n 0, 1) := by decide +kernel
theorem dX1_readGame_22 : decode cX1_readGame 22 = .ok (.iconst 0, 1) := by decide +kernel
theorem dX1_readGame_23 : decode cX1_readGame 23 = .ok (.putfield 41, 3) := by decide +kernel
theorem dX1_readGame_26 : decode cX1_readGame 26 = .ok (.aload_n 0, 1) := by decide +kernel
theorem dX1_readGame_27 : decode cX1_readGame 27 = .ok (.iconst 0, 1) := by decide +kernel
theorem dX1_readGame_28 : decode cX1_readGame 28 = .ok (.putfield 45, 3) := by decide +kernel
theorem dX1_readGame_31 : decode cX1_readGame 31 = .ok (.aload_n 0, 1) := by decide +kernel
theorem dX1_readGame_32 : decode cX1_readGame 32 = .ok (.getfield 12, 3) := by decide +kernel
theorem dX1_readGame_35 : decode cX1_readGame 35 = .ok (.invokevirtual 48, 3) := by decide +kernel
theorem dX1_readGame_38 : decode cX1_readGame 38 = .ok (.aload_n 0, 1) := by decide +kernel
theorem dX1_readGame_39 : decode cX1_readGame 39 = .ok (.invokevirtual 51, 3) := by decide +kernel
theorem dX1_readGame_42 : decode cX1_readGame 42 = .ok (.iconst 0, 1) := by decide +kernel
theorem dX1_readGame_43 : decode cX1_readGame 43 = .ok (.istore_n 2, 1) := by decide +kernel
theorem dX1_readGame_44 : decode cX1_readGame 44 = .ok (.iload_n 2, 1) := by decide +kernel
theorem dX1_readGame_45 : decode cX1_readGame 45 = .ok (.sipush 400, 3) := by decide +kernel
theorem dX1_readGame_48 : decode cX1_readGame 48 = .ok (.if_icmp .gt 27, 3) := by decide +kernel
theorem dX1_readGame_51 : decode cX1_readGame 51 = .ok (.aload_n 0, 1) := by decide +kernel
theorem dX1_readGame_52 : decode cX1_readGame 52 = .ok (.getfield 54, 3) := by decide +kernel
theorem dX1_readGame_55 : decode cX1_readGame 55 = .ok (.ifCond .eq 20, 3) := by decide +kernel
theorem dX1_readGame_58 : decode cX1_readGame 58 = .ok (.aload_n 0, 1) := by decide +kernel
theorem dX1_readGame_59 : decode cX1_readGame 59 = .ok (.getfield 38, 3) := by decide +kernel
theorem dX1_readGame_62 : decode cX1_readGame 62 = .ok (.ifCond .ne 13, 3) := by decide +kernel
theorem dX1_readGame_65 : decode cX1_readGame 65 = .ok (.aload_n 0, 1) := by decide +kernel
theorem dX1_readGame_66 : decode cX1_readGame 66 = .ok (.invokevirtual 57, 3) := by decide +kernel
theorem dX1_readGame_69 : decode cX1_readGame 69 = .ok (.iinc 2 1, 3) := by decide +kernel
theorem dX1_readGame_72 : decode cX1_readGame 72 = .ok (.goto (-28), 3) := by decide +kernel
theorem dX1_readGame_75 : decode cX1_readGame 75 = .ok (.aload_n 0, 1) := by decide +kernel
theorem dX1_readGame_76 : decode cX1_readGame 76 = .ok (.iconst 0, 1) := by decide +kernel
theorem dX1_readGame_77 : decode cX1_readGame 77 = .ok (.putfield 22, 3) := by decide +kernel
theorem dX1_readGame_80 : decode cX1_readGame 80 = .ok (.aload_n 0, 1) := by decide +kernel
theorem dX1_readGame_81 : decode cX1_readGame 81 = .ok (.getfield 38, 3) := by decide +kernel
theorem dX1_readGame_84 : decode cX1_readGame 84 = .ok (.ireturn, 1) := by decide +kernel
theorem dX1_readStatement_0 : decode cX1_readStatement 0 = .ok (.aload_n 0, 1) := by decide +kernel
theorem dX1_readStatement_1 : decode cX1_readStatement 1 = .ok (.ldc 60, 2) := by decide +kernel
theorem dX1_readStatement_3 : decode cX1_readStatement 3 = .ok (.invokevirtual 62, 3) := by decide +kernel
theorem dX1_readStatement_6 : decode cX1_readStatement 6 = .ok (.ifCond .eq 11, 3) := by decide +kernel
theorem dX1_readStatement_9 : decode cX1_readStatement 9 = .ok (.aload_n 0, 1) := by decide +kernel
theorem dX1_readStatement_10 : decode cX1_readStatement 10 = .ok (.invokevirtual 66, 3) := by decide +kernel
theorem dX1_readStatement_13 : decode cX1_readStatement 13 = .ok (.istore_n 1, 1) := by decide +kernel
theorem dX1_readStatement_14 : decode cX1_readStatement 14 = .ok (.goto 60, 3) := by decide +kernel
theorem dX1_readStatement_17 : decode cX1_readStatement 17 = .ok (.aload_n 0, 1) := by decide +kernel
theorem dX1_readStatement_18 : decode cX1_readStatement 18 = .ok (.ldc 70, 2) := by decide +kernel
theorem dX1_readStatement_20 : decode cX1_readStatement 20 = .ok (.invokevirtual 62, 3) := by decide +kernel
theorem dX1_readStatement_23 : decode cX1_readStatement 23 = .ok (.ifCond .eq 11, 3) := by decide +kernel
theorem dX1_readStatement_26 : decode cX1_readStatement 26 = .ok (.aload_n 0, 1) := by decide +kernel
theorem dX1_readStatement_27 : decode cX1_readStatement 27 = .ok (.invokevirtual 72, 3) := by decide +kernel
theorem dX1_readStatement_30 : decode cX1_readStatement 30 = .ok (.istore_n 1, 1) := by decide +kernel
theorem dX1_readStatement_31 : decode cX1_readStatement 31 = .ok (.goto 43, 3) := by decide +kernel
theorem dX1_readStatement_34 : decode cX1_readStatement 34 = .ok (.aload_n 0, 1) := by decide +kernel
theorem dX1_readStatement_35 : decode cX1_readStatement 35 = .ok (.ldc 75, 2) := by decide +kernel
theorem dX1_readStatement_37 : decode cX1_readStatement 37 = .ok (.invokevirtual 62, 3) := by decide +kernel
theorem dX1_readStatement_40 : decode cX1_readStatement 40 = .ok (.ifCond .eq 11, 3) := by decide +kernel
theorem dX1_readStatement_43 : decode cX1_readStatement 43 = .ok (.aload_n 0, 1) := by decide +kernel
theorem dX1_readStatement_44 : decode cX1_readStatement 44 = .ok (.invokevirtual 77, 3) := by decide +kernel
theorem dX1_readStatement_47 : decode cX1_readStatement 47 = .ok (.istore_n 1, 1) := by decide +kernel
theorem dX1_readStatement_48 : decode cX1_readStatement 48 = .ok (.goto 26, 3) := by decide +kernel
theorem dX1_readStatement_51 : decode cX1_readStatement 51 = .ok (.aload_n 0, 1) := by decide +kernel
theorem dX1_readStatement_52 : decode cX1_readStatement 52 = .ok (.ldc 80, 2) := by decide +kernel
theorem dX1_readStatement_54 : decode cX1_readStatement 54 = .ok (.invokevirtual 62, 3) := by decide +kernel
theorem dX1_readStatement_57 : decode cX1_readStatement 57 = .ok (.ifCond .eq 11, 3) := by decide +kernel
theorem dX1_readStatement_60 : decode cX1_readStatement 60 = .ok (.aload_n 0, 1) := by decide +kernel
theorem dX1_readStatement_61 : decode cX1_readStatement 61 = .ok (.invokevirtual 82, 3) := by decide +kernel
theorem dX1_readStatement_64 : decode cX1_readStatement 64 = .ok (.istore_n 1, 1) := by decide +kernel
theorem dX1_readStatement_65 : decode cX1_readStatement 65 = .ok (.goto 9, 3) := by decide +kernel
theorem dX1_readStatement_68 : decode cX1_readStatement 68 = .ok (.aload_n 0, 1) := by decide +kernel
theorem dX1_readStatement_69 : decode cX1_readStatement 69 = .ok (.iconst 1, 1) := by decide +kernel
theorem dX1_readStatement_70 : decode cX1_readStatement 70 = .ok (.invokevirtual 85, 3) := by decide +kernel
theorem dX1_readStatement_73 : decode cX1_readStatement 73 = .ok (.istore_n 1, 1) := by decide +kernel
theorem dX1_readStatement_74 : decode cX1_readStatement 74 = .ok (.iload_n 1, 1) := by decide +kernel
theorem dX1_readStatement_75 : decode cX1_readStatement 75 = .ok (.ifCond .eq 7, 3) := by decide +kernel
theorem dX1_readStatement_78 : decode cX1_readStatement 78 = .ok (.aload_n 0, 1) := by decide +kernel
theorem dX1_readStatement_79 : decode cX1_readStatement 79 = .ok (.invokevirtual 89, 3) := by decide +kernel
theorem dX1_readStatement_82 : decode cX1_readStatement 82 = .ok (.return_, 1) := by decide +kernel
theorem dX1_readSemicolon_0 : decode cX1_readSemicolon 0 = .ok (.aload_n 0, 1) := by decide +kernel
theorem dX1_readSemicolon_1 : decode cX1_readSemicolon 1 = .ok (.getfield 54, 3) := by decide +kernel
theorem dX1_readSemicolon_4 : decode cX1_readSemicolon 4 = .ok (.iconst 4, 1) := by decide +kernel
theorem dX1_readSemicolon_5 : decode cX1_readSemicolon 5 = .ok (.if_icmp .ne 10, 3) := by decide +kernel
theorem dX1_readSemicolon_8 : decode cX1_readSemicolon 8 = .ok (.aload_n 0, 1) := by decide +kernel
theorem dX1_readSemicolon_9 : decode cX1_readSemicolon 9 = .ok (.invokevirtual 51, 3) := by decide +kernel
theorem dX1_readSemicolon_12 : decode cX1_readSemicolon 12 = .ok (.goto 9, 3) := by decide +kernel
theorem dX1_readSemicolon_15 : decode cX1_readSemicolon 15 = .ok (.aload_n 0, 1) := by decide +kernel
theorem dX1_readSemicolon_16 : decode cX1_readSemicolon 16 = .ok (.iconst 1, 1) := by decide +kernel
theorem dX1_readSemicolon_17 : decode cX1_readSemicolon 17 = .ok (.invokevirtual 85, 3) := by decide +kernel
theorem dX1_readSemicolon_20 : decode cX1_readSemicolon 20 = .ok (.pop, 1) := by decide +kernel
theorem dX1_readSemicolon_21 : decode cX1_readSemicolon 21 = .ok (.return_, 1) := by decide +kernel
theorem dX1_readLadder_0 : decode cX1_readLadder 0 = .ok (.aload_n 0, 1) := by decide +kernel
theorem dX1_readLadder_1 : decode cX1_readLadder 1 = .ok (.getfield 12, 3) := by decide +kernel
theorem dX1_readLadder_4 : decode cX1_readLadder 4 = .ok (.getfield 92, 3) := by decide +kernel
theorem dX1_readLadder_7 : decode cX1_readLadder 7 = .ok (.istore_n 1, 1) := by decide +kernel
theorem dX1_readLadder_8 : decode cX1_readLadder 8 = .ok (.iload_n 1, 1) := by decide +kernel
theorem dX1_readLadder_9 : decode cX1_readLadder 9 = .ok (.bipush 6, 2) := by decide +kernel
theorem dX1_readLadder_11 : decode cX1_readLadder 11 = .ok (.if_icmp .lt 9, 3) := by decide +kernel
theorem dX1_readLadder_14 : decode cX1_readLadder 14 = .ok (.aload_n 0, 1) := by decide +kernel
theorem dX1_readLadder_15 : decode cX1_readLadder 15 = .ok (.iconst 4, 1) := by decide +kernel
theorem dX1_readLadder_16 : decode cX1_readLadder 16 = .ok (.invokevirtual 85, 3) := by decide +kernel
theorem dX1_readLadder_19 : decode cX1_readLadder 19 = .ok (.ireturn, 1) := by decide +kernel
theorem dX1_readLadder_20 : decode cX1_readLadder 20 = .ok (.aload_n 0, 1) := by decide +kernel
theorem dX1_readLadder_21 : decode cX1_readLadder 21 = .ok (.invokevirtual 51, 3) := by decide +kernel
theorem dX1_readLadder_24 : decode cX1_readLadder 24 = .ok (.aload_n 0, 1) := by decide +kernel
theorem dX1_readLadder_25 : decode cX1_readLadder 25 = .ok (.iconst 1, 1) := by decide +kernel
theorem dX1_readLadder_26 : decode cX1_readLadder 26 = .ok (.bipush 12, 2) := by decide +kernel
theorem dX1_readLadder_28 : decode cX1_readLadder 28 = .ok (.invokevirtual 95, 3) := by decide +kernel
theorem dX1_readLadder_31 : decode cX1_readLadder 31 = .ok (.ifCond .ne 5, 3) := by decide +kernel
theorem dX1_readLadder_34 : decode cX1_readLadder 34 = .ok (.iconst 0, 1) := by decide +kernel
theorem dX1_readLadder_35 : decode cX1_readLadder 35 = .ok (.ireturn, 1) := by decide +kernel
theorem dX1_readLadder_36 : decode cX1_readLadder 36 = .ok (.aload_n 0, 1) := by decide +kernel
theorem dX1_readLadder_37 : decode cX1_readLadder 37 = .ok (.getfield 99, 3) := by decide +kernel
theorem dX1_readLadder_40 : decode cX1_readLadder 40 = .ok (.istore_n 2, 1) := by decide +kernel
theorem dX1_readLadder_41 : decode cX1_readLadder 41 = .ok (.aload_n 0, 1) := by decide +kernel
theorem dX1_readLadder_42 : decode cX1_readLadder 42 = .ok (.invokevirtual 51, 3) := by decide +kernel
theorem dX1_readLadder_45 : decode cX1_readLadder 45 = .ok (.aload_n 0, 1) := by decide +kernel
theorem dX1_readLadder_46 : decode cX1_readLadder 46 = .ok (.iload_n 2, 1) := by decide +kernel
theorem dX1_readLadder_47 : decode cX1_readLadder 47 = .ok (.iconst 3, 1) := by decide +kernel
theorem dX1_readLadder_48 : decode cX1_readLadder 48 = .ok (.invokevirtual 102, 3) := by decide +kernel
theorem dX1_readLadder_51 : decode cX1_readLadder 51 = .ok (.istore_n 3, 1) := by decide +kernel
theorem dX1_readLadder_52 : decode cX1_readLadder 52 = .ok (.bipush 14, 2) := by decide +kernel
theorem dX1_readLadder_54 : decode cX1_readLadder 54 = .ok (.istore 4, 2) := by decide +kernel
theorem dX1_readLadder_56 : decode cX1_readLadder 56 = .ok (.aload_n 0, 1) := by decide +kernel
theorem dX1_readLadder_57 : decode cX1_readLadder 57 = .ok (.getfield 38, 3) := by decide +kernel
theorem dX1_readLadder_60 : decode cX1_readLadder 60 = .ok (.ifCond .ne 25, 3) := by decide +kernel
theorem dX1_readLadder_63 : decode cX1_readLadder 63 = .ok (.aload_n 0, 1) := by decide +kernel
theorem dX1_readLadder_64 : decode cX1_readLadder 64 = .ok (.ldc 105, 2) := by decide +kernel
theorem dX1_readLadder_66 : decode cX1_readLadder 66 = .ok (.invokevirtual 62, 3) := by decide +kernel
theorem dX1_readLadder_69 : decode cX1_readLadder 69 = .ok (.ifCond .eq 16, 3) := by decide +kernel
theorem dX1_readLadder_72 : decode cX1_readLadder 72 = .ok (.aload_n 0, 1) := by decide +kernel
theorem dX1_readLadder_73 : decode cX1_readLadder 73 = .ok (.invokevirtual 51, 3) := by decide +kernel
theorem dX1_readLadder_76 : decode cX1_readLadder 76 = .ok (.aload_n 0, 1) := by decide +kernel
theorem dX1_readLadder_77 : decode cX1_readLadder 77 = .ok (.bipush 12, 2) := by decide +kernel
theorem dX1_readLadder_79 : decode cX1_readLadder 79 = .ok (.iconst 4, 1) := by decide +kernel
theorem dX1_readLadder_80 : decode cX1_readLadder 80 = .ok (.invokevirtual 102, 3) := by decide +kernel
theorem dX1_readLadder_83 : decode cX1_readLadder 83 = .ok (.istore 4, 2) := by decide +kernel
theorem dX1_readLadder_85 : decode cX1_readLadder 85 = .ok (.aload_n 0, 1) := by decide +kernel
theorem dX1_readLadder_86 : decode cX1_readLadder 86 = .ok (.getfield 38, 3) := by decide +kernel
theorem dX1_readLadder_89 : decode cX1_readLadder 89 = .ok (.ifCond .eq 5, 3) := by decide +kernel
theorem dX1_readLadder_92 : decode cX1_readLadder 92 = .ok (.iconst 0, 1) := by decide +kernel
theorem dX1_readLadder_93 : decode cX1_readLadder 93 = .ok (.ireturn, 1) := by decide +kernel
theorem dX1_readLadder_94 : decode cX1_readLadder 94 = .ok (.aload_n 0, 1) := by decide +kernel
theorem dX1_readLadder_95 : decode cX1_readLadder 95 = .ok (.getfield 12, 3) := by decide +kernel
theorem dX1_readLadder_98 : decode cX1_readLadder 98 = .ok (.getfield 107, 3) := by decide +kernel
theorem dX1_readLadder_101 : decode cX1_readLadder 101 = .ok (.iload_n 1, 1) := by decide +kernel
theorem dX1_readLadder_102 : decode cX1_readLadder 102 = .ok (.iload_n 2, 1) := by decide +kernel
theorem dX1_readLadder_103 : decode cX1_readLadder 103 = .ok (.iastore, 1) := by decide +kernel
theorem dX1_readLadder_104 : decode cX1_readLadder 104 = .ok (.aload_n 0, 1) := by decide +kernel
theorem dX1_readLadder_105 : decode cX1_readLadder 105 = .ok (.getfield 12, 3) := by decide +kernel
theorem dX1_readLadder_108 : decode cX1_readLadder 108 = .ok (.getfield 111, 3) := by decide +kernel
theorem dX1_readLadder_111 : decode cX1_readLadder 111 = .ok (.iload_n 1, 1) := by decide +kernel
theorem dX1_readLadder_112 : decode cX1_readLadder 112 = .ok (.iload_n 3, 1) := by decide +kernel
theorem dX1_readLadder_113 : decode cX1_readLadder 113 = .ok (.invokestatic 114, 3) := by decide +kernel
theorem dX1_readLadder_116 : decode cX1_readLadder 116 = .ok (.iastore, 1) := by decide +kernel
theorem dX1_readLadder_117 : decode cX1_readLadder 117 = .ok (.aload_n 0, 1) := by decide +kernel
theorem dX1_readLadder_118 : decode cX1_readLadder 118 = .ok (.getfield 12, 3) := by decide +kernel
theorem dX1_readLadder_121 : decode cX1_readLadder 121 = .ok (.getfield 120, 3) := by decide +kernel
theorem dX1_readLadder_124 : decode cX1_readLadder 124 = .ok (.iload_n 1, 1) := by decide +kernel
theorem dX1_readLadder_125 : decode cX1_readLadder 125 = .ok (.iload_n 3, 1) := by decide +kernel
theorem dX1_readLadder_126 : decode cX1_readLadder 126 = .ok (.iastore, 1) := by decide +kernel
theorem dX1_readLadder_127 : decode cX1_readLadder 127 = .ok (.aload_n 0, 1) := by decide +kernel
theorem dX1_readLadder_128 : decode cX1_readLadder 128 = .ok (.getfield 12, 3) := by decide +kernel
theorem dX1_readLadder_131 : decode cX1_readLadder 131 = .ok (.getfield 123, 3) := by decide +kernel
theorem dX1_readLadder_134 : decode cX1_readLadder 134 = .ok (.iload_n 1, 1) := by decide +kernel
theorem dX1_readLadder_135 : decode cX1_readLadder 135 = .ok (.iload 4, 2) := by decide +kernel
theorem dX1_readLadder_137 : decode cX1_readLadder 137 = .ok (.iastore, 1) := by decide +kernel
theorem dX1_readLadder_138 : decode cX1_readLadder 138 = .ok (.aload_n 0, 1) := by decide +kernel
theorem dX1_readLadder_139 : decode cX1_readLadder 139 = .ok (.getfield 12, 3) := by decide +kernel
theorem dX1_readLadder_142 : decode cX1_readLadder 142 = .ok (.iload_n 1, 1) := by decide +kernel
theorem dX1_readLadder_143 : decode cX1_readLadder 143 = .ok (.iconst 1, 1) := by decide +kernel
theorem dX1_readLadder_144 : decode cX1_readLadder 144 = .ok (.iadd, 1) := by decide +kernel
theorem dX1_readLadder_145 : decode cX1_readLadder 145 = .ok (.putfield 92, 3) := by decide +kernel
theorem dX1_readLadder_148 : decode cX1_readLadder 148 = .ok (.iconst 1, 1) := by decide +kernel
theorem dX1_readLadder_149 : decode cX1_readLadder 149 = .ok (.ireturn, 1) := by decide +kernel
theorem dX1_readSet_0 : decode cX1_readSet 0 = .ok (.iconst 0, 1) := by decide +kernel
theorem dX1_readSet_1 : decode cX1_readSet 1 = .ok (.istore_n 3, 1) := by decide +kernel
theorem dX1_readSet_2 : decode cX1_readSet 2 = .ok (.iconst 0, 1) := by decide +kernel
theorem dX1_readSet_3 : decode cX1_readSet 3 = .ok (.istore 4, 2) := by decide +kernel
theorem dX1_readSet_5 : decode cX1_readSet 5 = .ok (.iload 4, 2) := by decide +kernel
theorem dX1_readSet_7 : decode cX1_readSet 7 = .ok (.iload_n 2, 1) := by decide +kernel
theorem dX1_readSet_8 : decode cX1_readSet 8 = .ok (.if_icmp .gt 79, 3) := by decide +kernel
theorem dX1_readSet_11 : decode cX1_readSet 11 = .ok (.iload 4, 2) := by decide +kernel
theorem dX1_readSet_13 : decode cX1_readSet 13 = .ok (.ifCond .eq 11, 3) := by decide +kernel
theorem dX1_readSet_16 : decode cX1_readSet 16 = .ok (.aload_n 0, 1) := by decide +kernel
theorem dX1_readSet_17 : decode cX1_readSet 17 = .ok (.getfield 54, 3) := by decide +kernel
theorem dX1_readSet_20 : decode cX1_readSet 20 = .ok (.iconst 3, 1) := by decide +kernel
theorem dX1_readSet_21 : decode cX1_readSet 21 = .ok (.if_icmp .ne 66, 3) := by decide +kernel
theorem dX1_readSet_24 : decode cX1_readSet 24 = .ok (.aload_n 0, 1) := by decide +kernel
theorem dX1_readSet_25 : decode cX1_readSet 25 = .ok (.iconst 1, 1) := by decide +kernel
theorem dX1_readSet_26 : decode cX1_readSet 26 = .ok (.iload_n 1, 1) := by decide +kernel
theorem dX1_readSet_27 : decode cX1_readSet 27 = .ok (.invokevirtual 95, 3) := by decide +kernel
theorem dX1_readSet_30 : decode cX1_readSet 30 = .ok (.ifCond .ne 5, 3) := by decide +kernel
theorem dX1_readSet_33 : decode cX1_readSet 33 = .ok (.iconst 0, 1) := by decide +kernel
theorem dX1_readSet_34 : decode cX1_readSet 34 = .ok (.ireturn, 1) := by decide +kernel
theorem dX1_readSet_35 : decode cX1_readSet 35 = .ok (.iload_n 3, 1) := by decide +kernel
theorem dX1_readSet_36 : decode cX1_readSet 36 = .ok (.aload_n 0, 1) := by decide +kernel
theorem dX1_readSet_37 : decode cX1_readSet 37 = .ok (.getfield 99, 3) := by decide +kernel
theorem dX1_readSet_40 : decode cX1_readSet 40 = .ok (.invokestatic 126, 3) := by decide +kernel
theorem dX1_readSet_43 : decode cX1_readSet 43 = .ok (.ifCond .eq 11, 3) := by decide +kernel
theorem dX1_readSet_46 : decode cX1_readSet 46 = .ok (.aload_n 0, 1) := by decide +kernel
theorem dX1_readSet_47 : decode cX1_readSet 47 = .ok (.iconst 3, 1) := by decide +kernel
theorem dX1_readSet_48 : decode cX1_readSet 48 = .ok (.invokevirtual 85, 3) := by decide +kernel
theorem dX1_readSet_51 : decode cX1_readSet 51 = .ok (.pop, 1) := by decide +kernel
theorem dX1_readSet_52 : decode cX1_readSet 52 = .ok (.iconst 0, 1) := by decide +kernel
theorem dX1_readSet_53 : decode cX1_readSet 53 = .ok (.ireturn, 1) := by decide +kernel
theorem dX1_readSet_54 : decode cX1_readSet 54 = .ok (.iload 4, 2) := by decide +kernel
theorem dX1_readSet_56 : decode cX1_readSet 56 = .ok (.iload_n 2, 1) := by decide +kernel
theorem dX1_readSet_57 : decode cX1_readSet 57 = .ok (.if_icmp .ne 11, 3) := by decide +kernel
theorem dX1_readSet_60 : decode cX1_readSet 60 = .ok (.aload_n 0, 1) := by decide +kernel
theorem dX1_readSet_61 : decode cX1_readSet 61 = .ok (.iconst 4, 1) := by decide +kernel
theorem dX1_readSet_62 : decode cX1_readSet 62 = .ok (.invokevirtual 85, 3) := by decide +kernel
theorem dX1_readSet_65 : decode cX1_readSet 65 = .ok (.pop, 1) := by decide +kernel
theorem dX1_readSet_66 : decode cX1_readSet 66 = .ok (.iconst 0, 1) := by decide +kernel
theorem dX1_readSet_67 : decode cX1_readSet 67 = .ok (.ireturn, 1) := by decide +kernel
theorem dX1_readSet_68 : decode cX1_readSet 68 = .ok (.iload_n 3, 1) := by decide +kernel
theorem dX1_readSet_69 : decode cX1_readSet 69 = .ok (.iconst 1, 1) := by decide +kernel
theorem dX1_readSet_70 : decode cX1_readSet 70 = .ok (.aload_n 0, 1) := by decide +kernel
theorem dX1_readSet_71 : decode cX1_readSet 71 = .ok (.getfield 99, 3) := by decide +kernel
theorem dX1_readSet_74 : decode cX1_readSet 74 = .ok (.ishl, 1) := by decide +kernel
theorem dX1_readSet_75 : decode cX1_readSet 75 = .ok (.ior, 1) := by decide +kernel
theorem dX1_readSet_76 : decode cX1_readSet 76 = .ok (.istore_n 3, 1) := by decide +kernel
theorem dX1_readSet_77 : decode cX1_readSet 77 = .ok (.aload_n 0, 1) := by decide +kernel
theorem dX1_readSet_78 : decode cX1_readSet 78 = .ok (.invokevirtual 51, 3) := by decide +kernel
theorem dX1_readSet_81 : decode cX1_readSet 81 = .ok (.iinc 4 1, 3) := by decide +kernel
theorem dX1_readSet_84 : decode cX1_readSet 84 = .ok (.goto (-79), 3) := by decide +kernel
theorem dX1_readSet_87 : decode cX1_readSet 87 = .ok (.iload_n 3, 1) := by decide +kernel
theorem dX1_readSet_88 : decode cX1_readSet 88 = .ok (.ireturn, 1) := by decide +kernel
theorem dX1_readLock_0 : decode cX1_readLock 0 = .ok (.aload_n 0, 1) := by decide +kernel
theorem dX1_readLock_1 : decode cX1_readLock 1 = .ok (.invokevirtual 51, 3) := by decide +kernel
theorem dX1_readLock_4 : decode cX1_readLock 4 = .ok (.aload_n 0, 1) := by decide +kernel
theorem dX1_readLock_5 : decode cX1_readLock 5 = .ok (.iconst 0, 1) := by decide +kernel
theorem dX1_readLock_6 : decode cX1_readLock 6 = .ok (.aload_n 0, 1) := by decide +kernel
theorem dX1_readLock_7 : decode cX1_readLock 7 = .ok (.getfield 12, 3) := by decide +kernel
theorem dX1_readLock_10 : decode cX1_readLock 10 = .ok (.getfield 92, 3) := by decide +kernel
theorem dX1_readLock_13 : decode cX1_readLock 13 = .ok (.iconst 1, 1) := by decide +kernel
theorem dX1_readLock_14 : decode cX1_readLock 14 = .ok (.isub, 1) := by decide +kernel
theorem dX1_readLock_15 : decode cX1_readLock 15 = .ok (.invokevirtual 95, 3) := by decide +kernel
theorem dX1_readLock_18 : decode cX1_readLock 18 = .ok (.ifCond .ne 5, 3) := by decide +kernel
theorem dX1_readLock_21 : decode cX1_readLock 21 = .ok (.iconst 0, 1) := by decide +kernel
theorem dX1_readLock_22 : decode cX1_readLock 22 = .ok (.ireturn, 1) := by decide +kernel
theorem dX1_readLock_23 : decode cX1_readLock 23 = .ok (.aload_n 0, 1) := by decide +kernel
theorem dX1_readLock_24 : decode cX1_readLock 24 = .ok (.getfield 99, 3) := by decide +kernel
theorem dX1_readLock_27 : decode cX1_readLock 27 = .ok (.istore_n 1, 1) := by decide +kernel
theorem dX1_readLock_28 : decode cX1_readLock 28 = .ok (.aload_n 0, 1) := by decide +kernel
theorem dX1_readLock_29 : decode cX1_readLock 29 = .ok (.invokevirtual 51, 3) := by decide +kernel
theorem dX1_readLock_32 : decode cX1_readLock 32 = .ok (.aload_n 0, 1) := by decide +kernel
theorem dX1_readLock_33 : decode cX1_readLock 33 = .ok (.getfield 12, 3) := by decide +kernel
theorem dX1_readLock_36 : decode cX1_readLock 36 = .ok (.iload_n 1, 1) := by decide +kernel
theorem dX1_readLock_37 : decode cX1_readLock 37 = .ok (.invokevirtual 129, 3) := by decide +kernel
theorem dX1_readLock_40 : decode cX1_readLock 40 = .ok (.ifCond .eq 20, 3) := by decide +kernel
theorem dX1_readLock_43 : decode cX1_readLock 43 = .ok (.aload_n 0, 1) := by decide +kernel
theorem dX1_readLock_44 : decode cX1_readLock 44 = .ok (.iconst 1, 1) := by decide +kernel
theorem dX1_readLock_45 : decode cX1_readLock 45 = .ok (.aload_n 0, 1) := by decide +kernel
theorem dX1_readLock_46 : decode cX1_readLock 46 = .ok (.getfield 12, 3) := by decide +kernel
theorem dX1_readLock_49 : decode cX1_readLock 49 = .ok (.getfield 107, 3) := by decide +kernel
theorem dX1_readLock_52 : decode cX1_readLock 52 = .ok (.iload_n 1, 1) := by decide +kernel
theorem dX1_readLock_53 : decode cX1_readLock 53 = .ok (.iaload, 1) := by decide +kernel
theorem dX1_readLock_54 : decode cX1_readLock 54 = .ok (.invokevirtual 95, 3) := by decide +kernel
theorem dX1_readLock_57 : decode cX1_readLock 57 = .ok (.ifCond .ne 5, 3) := by decide +kernel
theorem dX1_readLock_60 : decode cX1_readLock 60 = .ok (.iconst 0, 1) := by decide +kernel
theorem dX1_readLock_61 : decode cX1_readLock 61 = .ok (.ireturn, 1) := by decide +kernel
theorem dX1_readLock_62 : decode cX1_readLock 62 = .ok (.aload_n 0, 1) := by decide +kernel
theorem dX1_readLock_63 : decode cX1_readLock 63 = .ok (.getfield 12, 3) := by decide +kernel
theorem dX1_readLock_66 : decode cX1_readLock 66 = .ok (.getfield 132, 3) := by decide +kernel
theorem dX1_readLock_69 : decode cX1_readLock 69 = .ok (.iload_n 1, 1) := by decide +kernel
theorem dX1_readLock_70 : decode cX1_readLock 70 = .ok (.iaload, 1) := by decide +kernel
theorem dX1_readLock_71 : decode cX1_readLock 71 = .ok (.aload_n 0, 1) := by decide +kernel
theorem dX1_readLock_72 : decode cX1_readLock 72 = .ok (.getfield 99, 3) := by decide +kernel
theorem dX1_readLock_75 : decode cX1_readLock 75 = .ok (.invokestatic 126, 3) := by decide +kernel
theorem dX1_readLock_78 : decode cX1_readLock 78 = .ok (.ifCond .eq 9, 3) := by decide +kernel
theorem dX1_readLock_81 : decode cX1_readLock 81 = .ok (.aload_n 0, 1) := by decide +kernel
theorem dX1_readLock_82 : decode cX1_readLock 82 = .ok (.iconst 3, 1) := by decide +kernel
theorem dX1_readLock_83 : decode cX1_readLock 83 = .ok (.invokevirtual 85, 3) := by decide +kernel
theorem dX1_readLock_86 : decode cX1_readLock 86 = .ok (.ireturn, 1) := by decide +kernel
theorem dX1_readLock_87 : decode cX1_readLock 87 = .ok (.aload_n 0, 1) := by decide +kernel
theorem dX1_readLock_88 : decode cX1_readLock 88 = .ok (.getfield 12, 3) := by decide +kernel
theorem dX1_readLock_91 : decode cX1_readLock 91 = .ok (.getfield 132, 3) := by decide +kernel
theorem dX1_readLock_94 : decode cX1_readLock 94 = .ok (.iload_n 1, 1) := by decide +kernel
theorem dX1_readLock_95 : decode cX1_readLock 95 = .ok (.dup2, 1) := by decide +kernel
theorem dX1_readLock_96 : decode cX1_readLock 96 = .ok (.iaload, 1) := by decide +kernel
theorem dX1_readLock_97 : decode cX1_readLock 97 = .ok (.iconst 1, 1) := by decide +kernel
theorem dX1_readLock_98 : decode cX1_readLock 98 = .ok (.aload_n 0, 1) := by decide +kernel
theorem dX1_readLock_99 : decode cX1_readLock 99 = .ok (.getfield 99, 3) := by decide +kernel
theorem dX1_readLock_102 : decode cX1_readLock 102 = .ok (.ishl, 1) := by decide +kernel
theorem dX1_readLock_103 : decode cX1_readLock 103 = .ok (.ior, 1) := by decide +kernel
theorem dX1_readLock_104 : decode cX1_readLock 104 = .ok (.iastore, 1) := by decide +kernel
theorem dX1_readLock_105 : decode cX1_readLock 105 = .ok (.aload_n 0, 1) := by decide +kernel
theorem dX1_readLock_106 : decode cX1_readLock 106 = .ok (.invokevirtual 51, 3) := by decide +kernel
theorem dX1_readLock_109 : decode cX1_readLock 109 = .ok (.iconst 1, 1) := by decide +kernel
theorem dX1_readLock_110 : decode cX1_readLock 110 = .ok (.ireturn, 1) := by decide +kernel
theorem dX1_readTokens_0 : decode cX1_readTokens 0 = .ok (.aload_n 0, 1) := by decide +kernel
theorem dX1_readTokens_1 : decode cX1_readTokens 1 = .ok (.getfield 41, 3) := by decide +kernel
theorem dX1_readTokens_4 : decode cX1_readTokens 4 = .ok (.ifCond .eq 9, 3) := by decide +kernel
theorem dX1_readTokens_7 : decode cX1_readTokens 7 = .ok (.aload_n 0, 1) := by decide +kernel
theorem dX1_readTokens_8 : decode cX1_readTokens 8 = .ok (.iconst 3, 1) := by decide +kernel
theorem dX1_readTokens_9 : decode cX1_readTokens 9 = .ok (.invokevirtual 85, 3) := by decide +kernel
theorem dX1_readTokens_12 : decode cX1_readTokens 12 = .ok (.ireturn, 1) := by decide +kernel
theorem dX1_readTokens_13 : decode cX1_readTokens 13 = .ok (.aload_n 0, 1) := by decide +kernel
theorem dX1_readTokens_14 : decode cX1_readTokens 14 = .ok (.iconst 1, 1) := by decide +kernel
theorem dX1_readTokens_15 : decode cX1_readTokens 15 = .ok (.putfield 41, 3) := by decide +kernel
theorem dX1_readTokens_18 : decode cX1_readTokens 18 = .ok (.aload_n 0, 1) := by decide +kernel
theorem dX1_readTokens_19 : decode cX1_readTokens 19 = .ok (.invokevirtual 51, 3) := by decide +kernel
theorem dX1_readTokens_22 : decode cX1_readTokens 22 = .ok (.iconst 0, 1) := by decide +kernel
theorem dX1_readTokens_23 : decode cX1_readTokens 23 = .ok (.istore_n 1, 1) := by decide +kernel
theorem dX1_readTokens_24 : decode cX1_readTokens 24 = .ok (.iload_n 1, 1) := by decide +kernel
theorem dX1_readTokens_25 : decode cX1_readTokens 25 = .ok (.iconst 3, 1) := by decide +kernel
theorem dX1_readTokens_26 : decode cX1_readTokens 26 = .ok (.if_icmp .ge 38, 3) := by decide +kernel
theorem dX1_readTokens_29 : decode cX1_readTokens 29 = .ok (.aload_n 0, 1) := by decide +kernel
theorem dX1_readTokens_30 : decode cX1_readTokens 30 = .ok (.iconst 0, 1) := by decide +kernel
theorem dX1_readTokens_31 : decode cX1_readTokens 31 = .ok (.bipush 9, 2) := by decide +kernel
theorem dX1_readTokens_33 : decode cX1_readTokens 33 = .ok (.invokevirtual 95, 3) := by decide +kernel
theorem dX1_readTokens_36 : decode cX1_readTokens 36 = .ok (.ifCond .ne 5, 3) := by decide +kernel
theorem dX1_readTokens_39 : decode cX1_readTokens 39 = .ok (.iconst 0, 1) := by decide +kernel
theorem dX1_readTokens_40 : decode cX1_readTokens 40 = .ok (.ireturn, 1) := by decide +kernel
theorem dX1_readTokens_41 : decode cX1_readTokens 41 = .ok (.aload_n 0, 1) := by decide +kernel
theorem dX1_readTokens_42 : decode cX1_readTokens 42 = .ok (.getfield 12, 3) := by decide +kernel
theorem dX1_readTokens_45 : decode cX1_readTokens 45 = .ok (.getfield 135, 3) := by decide +kernel
theorem dX1_readTokens_48 : decode cX1_readTokens 48 = .ok (.iload_n 1, 1) := by decide +kernel
theorem dX1_readTokens_49 : decode cX1_readTokens 49 = .ok (.aload_n 0, 1) := by decide +kernel
theorem dX1_readTokens_50 : decode cX1_readTokens 50 = .ok (.getfield 99, 3) := by decide +kernel
theorem dX1_readTokens_53 : decode cX1_readTokens 53 = .ok (.iastore, 1) := by decide +kernel
theorem dX1_readTokens_54 : decode cX1_readTokens 54 = .ok (.aload_n 0, 1) := by decide +kernel
theorem dX1_readTokens_55 : decode cX1_readTokens 55 = .ok (.invokevirtual 51, 3) := by decide +kernel
theorem dX1_readTokens_58 : decode cX1_readTokens 58 = .ok (.iinc 1 1, 3) := by decide +kernel
theorem dX1_readTokens_61 : decode cX1_readTokens 61 = .ok (.goto (-37), 3) := by decide +kernel
theorem dX1_readTokens_64 : decode cX1_readTokens 64 = .ok (.iconst 1, 1) := by decide +kernel
theorem dX1_readTokens_65 : decode cX1_readTokens 65 = .ok (.ireturn, 1) := by decide +kernel
theorem dX1_readFirst_0 : decode cX1_readFirst 0 = .ok (.aload_n 0, 1) := by decide +kernel
theorem dX1_readFirst_1 : decode cX1_readFirst 1 = .ok (.getfield 45, 3) := by decide +kernel
theorem dX1_readFirst_4 : decode cX1_readFirst 4 = .ok (.ifCond .eq 9, 3) := by decide +kernel
theorem dX1_readFirst_7 : decode cX1_readFirst 7 = .ok (.aload_n 0, 1) := by decide +kernel
theorem dX1_readFirst_8 : decode cX1_readFirst 8 = .ok (.iconst 3, 1) := by decide +kernel
theorem dX1_readFirst_9 : decode cX1_readFirst 9 = .ok (.invokevirtual 85, 3) := by decide +kernel
theorem dX1_readFirst_12 : decode cX1_readFirst 12 = .ok (.ireturn, 1) := by decide +kernel
theorem dX1_readFirst_13 : decode cX1_readFirst 13 = .ok (.aload_n 0, 1) := by decide +kernel
theorem dX1_readFirst_14 : decode cX1_readFirst 14 = .ok (.iconst 1, 1) := by decide +kernel
theorem dX1_readFirst_15 : decode cX1_readFirst 15 = .ok (.putfield 45, 3) := by decide +kernel
theorem dX1_readFirst_18 : decode cX1_readFirst 18 = .ok (.aload_n 0, 1) := by decide +kernel
theorem dX1_readFirst_19 : decode cX1_readFirst 19 = .ok (.invokevirtual 51, 3) := by decide +kernel
theorem dX1_readFirst_22 : decode cX1_readFirst 22 = .ok (.aload_n 0, 1) := by decide +kernel
theorem dX1_readFirst_23 : decode cX1_readFirst 23 = .ok (.iconst 0, 1) := by decide +kernel
theorem dX1_readFirst_24 : decode cX1_readFirst 24 = .ok (.iconst 1, 1) := by decide +kernel
theorem dX1_readFirst_25 : decode cX1_readFirst 25 = .ok (.invokevirtual 95, 3) := by decide +kernel
theorem dX1_readFirst_28 : decode cX1_readFirst 28 = .ok (.ifCond .ne 5, 3) := by decide +kernel
theorem dX1_readFirst_31 : decode cX1_readFirst 31 = .ok (.iconst 0, 1) := by decide +kernel
theorem dX1_readFirst_32 : decode cX1_readFirst 32 = .ok (.ireturn, 1) := by decide +kernel
theorem dX1_readFirst_33 : decode cX1_readFirst 33 = .ok (.aload_n 0, 1) := by decide +kernel
theorem dX1_readFirst_34 : decode cX1_readFirst 34 = .ok (.getfield 12, 3) := by decide +kernel
theorem dX1_readFirst_37 : decode cX1_readFirst 37 = .ok (.aload_n 0, 1) := by decide +kernel
theorem dX1_readFirst_38 : decode cX1_readFirst 38 = .ok (.getfield 99, 3) := by decide +kernel
theorem dX1_readFirst_41 : decode cX1_readFirst 41 = .ok (.putfield 137, 3) := by decide +kernel
theorem dX1_readFirst_44 : decode cX1_readFirst 44 = .ok (.aload_n 0, 1) := by decide +kernel
theorem dX1_readFirst_45 : decode cX1_readFirst 45 = .ok (.invokevirtual 51, 3) := by decide +kernel
theorem dX1_readFirst_48 : decode cX1_readFirst 48 = .ok (.iconst 1, 1) := by decide +kernel
theorem dX1_readFirst_49 : decode cX1_readFirst 49 = .ok (.ireturn, 1) := by decide +kernel
theorem dX1_fail_0 : decode cX1_fail 0 = .ok (.aload_n 0, 1) := by decide +kernel
theorem dX1_fail_1 : decode cX1_fail 1 = .ok (.bipush 8, 2) := by decide +kernel
theorem dX1_fail_3 : decode cX1_fail 3 = .ok (.aload_n 0, 1) := by decide +kernel
theorem dX1_fail_4 : decode cX1_fail 4 = .ok (.getfield 139, 3) := by decide +kernel
theorem dX1_fail_7 : decode cX1_fail 7 = .ok (.imul, 1) := by decide +kernel
theorem dX1_fail_8 : decode cX1_fail 8 = .ok (.iload_n 1, 1) := by decide +kernel
theorem dX1_fail_9 : decode cX1_fail 9 = .ok (.iadd, 1) := by decide +kernel
theorem dX1_fail_10 : decode cX1_fail 10 = .ok (.putfield 38, 3) := by decide +kernel
theorem dX1_fail_13 : decode cX1_fail 13 = .ok (.iconst 0, 1) := by decide +kernel
theorem dX1_fail_14 : decode cX1_fail 14 = .ok (.ireturn, 1) := by decide +kernel
theorem dX1_isNumber_0 : decode cX1_isNumber 0 = .ok (.aload_n 0, 1) := by decide +kernel
theorem dX1_isNumber_1 : decode cX1_isNumber 1 = .ok (.getfield 54, 3) := by decide +kernel
theorem dX1_isNumber_4 : decode cX1_isNumber 4 = .ok (.iconst 3, 1) := by decide +kernel
theorem dX1_isNumber_5 : decode cX1_isNumber 5 = .ok (.if_icmp .eq 9, 3) := by decide +kernel
theorem dX1_isNumber_8 : decode cX1_isNumber 8 = .ok (.aload_n 0, 1) := by decide +kernel
theorem dX1_isNumber_9 : decode cX1_isNumber 9 = .ok (.iconst 1, 1) := by decide +kernel
theorem dX1_isNumber_10 : decode cX1_isNumber 10 = .ok (.invokevirtual 85, 3) := by decide +kernel
theorem dX1_isNumber_13 : decode cX1_isNumber 13 = .ok (.ireturn, 1) := by decide +kernel
theorem dX1_isNumber_14 : decode cX1_isNumber 14 = .ok (.aload_n 0, 1) := by decide +kernel
theorem dX1_isNumber_15 : decode cX1_isNumber 15 = .ok (.getfield 99, 3) := by decide +kernel
theorem dX1_isNumber_18 : decode cX1_isNumber 18 = .ok (.iload_n 1, 1) := by decide +kernel
theorem dX1_isNumber_19 : decode cX1_isNumber 19 = .ok (.if_icmp .lt 11, 3) := by decide +kernel
theorem dX1_isNumber_22 : decode cX1_isNumber 22 = .ok (.aload_n 0, 1) := by decide +kernel
theorem dX1_isNumber_23 : decode cX1_isNumber 23 = .ok (.getfield 99, 3) := by decide +kernel
theorem dX1_isNumber_26 : decode cX1_isNumber 26 = .ok (.iload_n 2, 1) := by decide +kernel
theorem dX1_isNumber_27 : decode cX1_isNumber 27 = .ok (.if_icmp .le 11, 3) := by decide +kernel
theorem dX1_isNumber_30 : decode cX1_isNumber 30 = .ok (.aload_n 0, 1) := by decide +kernel
theorem dX1_isNumber_31 : decode cX1_isNumber 31 = .ok (.iconst 2, 1) := by decide +kernel
theorem dX1_isNumber_32 : decode cX1_isNumber 32 = .ok (.invokevirtual 85, 3) := by decide +kernel
theorem dX1_isNumber_35 : decode cX1_isNumber 35 = .ok (.ifCond .eq 7, 3) := by decide +kernel
theorem dX1_isNumber_38 : decode cX1_isNumber 38 = .ok (.iconst 1, 1) := by decide +kernel
theorem dX1_isNumber_39 : decode cX1_isNumber 39 = .ok (.goto 4, 3) := by decide +kernel
theorem dX1_isNumber_42 : decode cX1_isNumber 42 = .ok (.iconst 0, 1) := by decide +kernel
theorem dX1_isNumber_43 : decode cX1_isNumber 43 = .ok (.ireturn, 1) := by decide +kernel
theorem dX1_isWord_0 : decode cX1_isWord 0 = .ok (.aload_n 0, 1) := by decide +kernel
theorem dX1_isWord_1 : decode cX1_isWord 1 = .ok (.getfield 54, 3) := by decide +kernel
theorem dX1_isWord_4 : decode cX1_isWord 4 = .ok (.iconst 2, 1) := by decide +kernel
theorem dX1_isWord_5 : decode cX1_isWord 5 = .ok (.if_icmp .ne 19, 3) := by decide +kernel
theorem dX1_isWord_8 : decode cX1_isWord 8 = .ok (.aload_n 0, 1) := by decide +kernel
theorem dX1_isWord_9 : decode cX1_isWord 9 = .ok (.getfield 35, 3) := by decide +kernel
theorem dX1_isWord_12 : decode cX1_isWord 12 = .ok (.aload_n 0, 1) := by decide +kernel
theorem dX1_isWord_13 : decode cX1_isWord 13 = .ok (.getfield 139, 3) := by decide +kernel
theorem dX1_isWord_16 : decode cX1_isWord 16 = .ok (.isub, 1) := by decide +kernel
theorem dX1_isWord_17 : decode cX1_isWord 17 = .ok (.aload_n 1, 1) := by decide +kernel
theorem dX1_isWord_18 : decode cX1_isWord 18 = .ok (.invokevirtual 142, 3) := by decide +kernel
theorem dX1_isWord_21 : decode cX1_isWord 21 = .ok (.if_icmp .eq 5, 3) := by decide +kernel
theorem dX1_isWord_24 : decode cX1_isWord 24 = .ok (.iconst 0, 1) := by decide +kernel
theorem dX1_isWord_25 : decode cX1_isWord 25 = .ok (.ireturn, 1) := by decide +kernel
theorem dX1_isWord_26 : decode cX1_isWord 26 = .ok (.iconst 0, 1) := by decide +kernel
theorem dX1_isWord_27 : decode cX1_isWord 27 = .ok (.istore_n 2, 1) := by decide +kernel
theorem dX1_isWord_28 : decode cX1_isWord 28 = .ok (.iload_n 2, 1) := by decide +kernel
theorem dX1_isWord_29 : decode cX1_isWord 29 = .ok (.aload_n 1, 1) := by decide +kernel
theorem dX1_isWord_30 : decode cX1_isWord 30 = .ok (.invokevirtual 142, 3) := by decide +kernel
theorem dX1_isWord_33 : decode cX1_isWord 33 = .ok (.if_icmp .ge 43, 3) := by decide +kernel
theorem dX1_isWord_36 : decode cX1_isWord 36 = .ok (.aload_n 0, 1) := by decide +kernel
theorem dX1_isWord_37 : decode cX1_isWord 37 = .ok (.getfield 139, 3) := by decide +kernel
theorem dX1_isWord_40 : decode cX1_isWord 40 = .ok (.iload_n 2, 1) := by decide +kernel
theorem dX1_isWord_41 : decode cX1_isWord 41 = .ok (.iadd, 1) := by decide +kernel
theorem dX1_isWord_42 : decode cX1_isWord 42 = .ok (.aload_n 0, 1) := by decide +kernel
theorem dX1_isWord_43 : decode cX1_isWord 43 = .ok (.getfield 32, 3) := by decide +kernel
theorem dX1_isWord_46 : decode cX1_isWord 46 = .ok (.if_icmp .ge 30, 3) := by decide +kernel
theorem dX1_isWord_49 : decode cX1_isWord 49 = .ok (.aload_n 0, 1) := by decide +kernel
theorem dX1_isWord_50 : decode cX1_isWord 50 = .ok (.getfield 18, 3) := by decide +kernel
theorem dX1_isWord_53 : decode cX1_isWord 53 = .ok (.aload_n 0, 1) := by decide +kernel
theorem dX1_isWord_54 : decode cX1_isWord 54 = .ok (.getfield 139, 3) := by decide +kernel
theorem dX1_isWord_57 : decode cX1_isWord 57 = .ok (.iload_n 2, 1) := by decide +kernel
theorem dX1_isWord_58 : decode cX1_isWord 58 = .ok (.iadd, 1) := by decide +kernel
theorem dX1_isWord_59 : decode cX1_isWord 59 = .ok (.baload, 1) := by decide +kernel
theorem dX1_isWord_60 : decode cX1_isWord 60 = .ok (.aload_n 1, 1) := by decide +kernel
theorem dX1_isWord_61 : decode cX1_isWord 61 = .ok (.iload_n 2, 1) := by decide +kernel
theorem dX1_isWord_62 : decode cX1_isWord 62 = .ok (.invokevirtual 147, 3) := by decide +kernel
theorem dX1_isWord_65 : decode cX1_isWord 65 = .ok (.if_icmp .eq 5, 3) := by decide +kernel
theorem dX1_isWord_68 : decode cX1_isWord 68 = .ok (.iconst 0, 1) := by decide +kernel
theorem dX1_isWord_69 : decode cX1_isWord 69 = .ok (.ireturn, 1) := by decide +kernel
theorem dX1_isWord_70 : decode cX1_isWord 70 = .ok (.iinc 2 1, 3) := by decide +kernel
theorem dX1_isWord_73 : decode cX1_isWord 73 = .ok (.goto (-45), 3) := by decide +kernel
theorem dX1_isWord_76 : decode cX1_isWord 76 = .ok (.iconst 1, 1) := by decide +kernel
theorem dX1_isWord_77 : decode cX1_isWord 77 = .ok (.ireturn, 1) := by decide +kernel
theorem dX1_nextToken_0 : decode cX1_nextToken 0 = .ok (.aload_n 0, 1) := by decide +kernel
theorem dX1_nextToken_1 : decode cX1_nextToken 1 = .ok (.getfield 35, 3) := by decide +kernel
theorem dX1_nextToken_4 : decode cX1_nextToken 4 = .ok (.aload_n 0, 1) := by decide +kernel
theorem dX1_nextToken_5 : decode cX1_nextToken 5 = .ok (.getfield 32, 3) := by decide +kernel
theorem dX1_nextToken_8 : decode cX1_nextToken 8 = .ok (.if_icmp .ge 31, 3) := by decide +kernel
theorem dX1_nextToken_11 : decode cX1_nextToken 11 = .ok (.aload_n 0, 1) := by decide +kernel
theorem dX1_nextToken_12 : decode cX1_nextToken 12 = .ok (.getfield 18, 3) := by decide +kernel
theorem dX1_nextToken_15 : decode cX1_nextToken 15 = .ok (.aload_n 0, 1) := by decide +kernel
theorem dX1_nextToken_16 : decode cX1_nextToken 16 = .ok (.getfield 35, 3) := by decide +kernel
theorem dX1_nextToken_19 : decode cX1_nextToken 19 = .ok (.baload, 1) := by decide +kernel
theorem dX1_nextToken_20 : decode cX1_nextToken 20 = .ok (.invokestatic 151, 3) := by decide +kernel
theorem dX1_nextToken_23 : decode cX1_nextToken 23 = .ok (.ifCond .eq 16, 3) := by decide +kernel
theorem dX1_nextToken_26 : decode cX1_nextToken 26 = .ok (.aload_n 0, 1) := by decide +kernel
theorem dX1_nextToken_27 : decode cX1_nextToken 27 = .ok (.dup, 1) := by decide +kernel
theorem dX1_nextToken_28 : decode cX1_nextToken 28 = .ok (.getfield 35, 3) := by decide +kernel
theorem dX1_nextToken_31 : decode cX1_nextToken 31 = .ok (.iconst 1, 1) := by decide +kernel
theorem dX1_nextToken_32 : decode cX1_nextToken 32 = .ok (.iadd, 1) := by decide +kernel
theorem dX1_nextToken_33 : decode cX1_nextToken 33 = .ok (.putfield 35, 3) := by decide +kernel
theorem dX1_nextToken_36 : decode cX1_nextToken 36 = .ok (.goto (-36), 3) := by decide +kernel
theorem dX1_nextToken_39 : decode cX1_nextToken 39 = .ok (.aload_n 0, 1) := by decide +kernel
theorem dX1_nextToken_40 : decode cX1_nextToken 40 = .ok (.aload_n 0, 1) := by decide +kernel
theorem dX1_nextToken_41 : decode cX1_nextToken 41 = .ok (.getfield 35, 3) := by decide +kernel
theorem dX1_nextToken_44 : decode cX1_nextToken 44 = .ok (.putfield 139, 3) := by decide +kernel
theorem dX1_nextToken_47 : decode cX1_nextToken 47 = .ok (.aload_n 0, 1) := by decide +kernel
theorem dX1_nextToken_48 : decode cX1_nextToken 48 = .ok (.getfield 35, 3) := by decide +kernel
theorem dX1_nextToken_51 : decode cX1_nextToken 51 = .ok (.aload_n 0, 1) := by decide +kernel
theorem dX1_nextToken_52 : decode cX1_nextToken 52 = .ok (.getfield 32, 3) := by decide +kernel
theorem dX1_nextToken_55 : decode cX1_nextToken 55 = .ok (.if_icmp .lt 11, 3) := by decide +kernel
theorem dX1_nextToken_58 : decode cX1_nextToken 58 = .ok (.aload_n 0, 1) := by decide +kernel
theorem dX1_nextToken_59 : decode cX1_nextToken 59 = .ok (.iconst 0, 1) := by decide +kernel
theorem dX1_nextToken_60 : decode cX1_nextToken 60 = .ok (.putfield 54, 3) := by decide +kernel
theorem dX1_nextToken_63 : decode cX1_nextToken 63 = .ok (.goto 224, 3) := by decide +kernel
theorem dX1_nextToken_66 : decode cX1_nextToken 66 = .ok (.aload_n 0, 1) := by decide +kernel
theorem dX1_nextToken_67 : decode cX1_nextToken 67 = .ok (.getfield 18, 3) := by decide +kernel
theorem dX1_nextToken_70 : decode cX1_nextToken 70 = .ok (.aload_n 0, 1) := by decide +kernel
theorem dX1_nextToken_71 : decode cX1_nextToken 71 = .ok (.getfield 35, 3) := by decide +kernel
theorem dX1_nextToken_74 : decode cX1_nextToken 74 = .ok (.baload, 1) := by decide +kernel
theorem dX1_nextToken_75 : decode cX1_nextToken 75 = .ok (.invokestatic 154, 3) := by decide +kernel
theorem dX1_nextToken_78 : decode cX1_nextToken 78 = .ok (.ifCond .eq 68, 3) := by decide +kernel
theorem dX1_nextToken_81 : decode cX1_nextToken 81 = .ok (.aload_n 0, 1) := by decide +kernel
theorem dX1_nextToken_82 : decode cX1_nextToken 82 = .ok (.getfield 35, 3) := by decide +kernel
theorem dX1_nextToken_85 : decode cX1_nextToken 85 = .ok (.aload_n 0, 1) := by decide +kernel
theorem dX1_nextToken_86 : decode cX1_nextToken 86 = .ok (.getfield 32, 3) := by decide +kernel
theorem dX1_nextToken_89 : decode cX1_nextToken 89 = .ok (.if_icmp .ge 31, 3) := by decide +kernel
theorem dX1_nextToken_92 : decode cX1_nextToken 92 = .ok (.aload_n 0, 1) := by decide +kernel
theorem dX1_nextToken_93 : decode cX1_nextToken 93 = .ok (.getfield 18, 3) := by decide +kernel
theorem dX1_nextToken_96 : decode cX1_nextToken 96 = .ok (.aload_n 0, 1) := by decide +kernel
theorem dX1_nextToken_97 : decode cX1_nextToken 97 = .ok (.getfield 35, 3) := by decide +kernel
theorem dX1_nextToken_100 : decode cX1_nextToken 100 = .ok (.baload, 1) := by decide +kernel
theorem dX1_nextToken_101 : decode cX1_nextToken 101 = .ok (.invokestatic 154, 3) := by decide +kernel
theorem dX1_nextToken_104 : decode cX1_nextToken 104 = .ok (.ifCond .eq 16, 3) := by decide +kernel
theorem dX1_nextToken_107 : decode cX1_nextToken 107 = .ok (.aload_n 0, 1) := by decide +kernel
theorem dX1_nextToken_108 : decode cX1_nextToken 108 = .ok (.dup, 1) := by decide +kernel
theorem dX1_nextToken_109 : decode cX1_nextToken 109 = .ok (.getfield 35, 3) := by decide +kernel
theorem dX1_nextToken_112 : decode cX1_nextToken 112 = .ok (.iconst 1, 1) := by decide +kernel
theorem dX1_nextToken_113 : decode cX1_nextToken 113 = .ok (.iadd, 1) := by decide +kernel
theorem dX1_nextToken_114 : decode cX1_nextToken 114 = .ok (.putfield 35, 3) := by decide +kernel
theorem dX1_nextToken_117 : decode cX1_nextToken 117 = .ok (.goto (-36), 3) := by decide +kernel
theorem dX1_nextToken_120 : decode cX1_nextToken 120 = .ok (.aload_n 0, 1) := by decide +kernel
theorem dX1_nextToken_121 : decode cX1_nextToken 121 = .ok (.aload_n 0, 1) := by decide +kernel
theorem dX1_nextToken_122 : decode cX1_nextToken 122 = .ok (.getfield 35, 3) := by decide +kernel
theorem dX1_nextToken_125 : decode cX1_nextToken 125 = .ok (.aload_n 0, 1) := by decide +kernel
theorem dX1_nextToken_126 : decode cX1_nextToken 126 = .ok (.getfield 139, 3) := by decide +kernel
theorem dX1_nextToken_129 : decode cX1_nextToken 129 = .ok (.isub, 1) := by decide +kernel
theorem dX1_nextToken_130 : decode cX1_nextToken 130 = .ok (.bipush 8, 2) := by decide +kernel
theorem dX1_nextToken_132 : decode cX1_nextToken 132 = .ok (.if_icmp .gt 7, 3) := by decide +kernel
theorem dX1_nextToken_135 : decode cX1_nextToken 135 = .ok (.iconst 2, 1) := by decide +kernel
theorem dX1_nextToken_136 : decode cX1_nextToken 136 = .ok (.goto 4, 3) := by decide +kernel
theorem dX1_nextToken_139 : decode cX1_nextToken 139 = .ok (.iconst 1, 1) := by decide +kernel
theorem dX1_nextToken_140 : decode cX1_nextToken 140 = .ok (.putfield 54, 3) := by decide +kernel
theorem dX1_nextToken_143 : decode cX1_nextToken 143 = .ok (.goto 144, 3) := by decide +kernel
theorem dX1_nextToken_146 : decode cX1_nextToken 146 = .ok (.aload_n 0, 1) := by decide +kernel
theorem dX1_nextToken_147 : decode cX1_nextToken 147 = .ok (.getfield 18, 3) := by decide +kernel
theorem dX1_nextToken_150 : decode cX1_nextToken 150 = .ok (.aload_n 0, 1) := by decide +kernel
theorem dX1_nextToken_151 : decode cX1_nextToken 151 = .ok (.getfield 35, 3) := by decide +kernel
theorem dX1_nextToken_154 : decode cX1_nextToken 154 = .ok (.baload, 1) := by decide +kernel
theorem dX1_nextToken_155 : decode cX1_nextToken 155 = .ok (.invokestatic 157, 3) := by decide +kernel
theorem dX1_nextToken_158 : decode cX1_nextToken 158 = .ok (.ifCond .eq 96, 3) := by decide +kernel
theorem dX1_nextToken_161 : decode cX1_nextToken 161 = .ok (.aload_n 0, 1) := by decide +kernel
theorem dX1_nextToken_162 : decode cX1_nextToken 162 = .ok (.iconst 0, 1) := by decide +kernel
theorem dX1_nextToken_163 : decode cX1_nextToken 163 = .ok (.putfield 99, 3) := by decide +kernel
theorem dX1_nextToken_166 : decode cX1_nextToken 166 = .ok (.aload_n 0, 1) := by decide +kernel
theorem dX1_nextToken_167 : decode cX1_nextToken 167 = .ok (.getfield 35, 3) := by decide +kernel
theorem dX1_nextToken_170 : decode cX1_nextToken 170 = .ok (.aload_n 0, 1) := by decide +kernel
theorem dX1_nextToken_171 : decode cX1_nextToken 171 = .ok (.getfield 32, 3) := by decide +kernel
theorem dX1_nextToken_174 : decode cX1_nextToken 174 = .ok (.if_icmp .ge 55, 3) := by decide +kernel
theorem dX1_nextToken_177 : decode cX1_nextToken 177 = .ok (.aload_n 0, 1) := by decide +kernel
theorem dX1_nextToken_178 : decode cX1_nextToken 178 = .ok (.getfield 18, 3) := by decide +kernel
theorem dX1_nextToken_181 : decode cX1_nextToken 181 = .ok (.aload_n 0, 1) := by decide +kernel
theorem dX1_nextToken_182 : decode cX1_nextToken 182 = .ok (.getfield 35, 3) := by decide +kernel
theorem dX1_nextToken_185 : decode cX1_nextToken 185 = .ok (.baload, 1) := by decide +kernel
theorem dX1_nextToken_186 : decode cX1_nextToken 186 = .ok (.invokestatic 157, 3) := by decide +kernel
theorem dX1_nextToken_189 : decode cX1_nextToken 189 = .ok (.ifCond .eq 40, 3) := by decide +kernel
theorem dX1_nextToken_192 : decode cX1_nextToken 192 = .ok (.aload_n 0, 1) := by decide +kernel
theorem dX1_nextToken_193 : decode cX1_nextToken 193 = .ok (.bipush 10, 2) := by decide +kernel
theorem dX1_nextToken_195 : decode cX1_nextToken 195 = .ok (.aload_n 0, 1) := by decide +kernel
theorem dX1_nextToken_196 : decode cX1_nextToken 196 = .ok (.getfield 99, 3) := by decide +kernel
theorem dX1_nextToken_199 : decode cX1_nextToken 199 = .ok (.imul, 1) := by decide +kernel
theorem dX1_nextToken_200 : decode cX1_nextToken 200 = .ok (.aload_n 0, 1) := by decide +kernel
theorem dX1_nextToken_201 : decode cX1_nextToken 201 = .ok (.getfield 18, 3) := by decide +kernel
theorem dX1_nextToken_204 : decode cX1_nextToken 204 = .ok (.aload_n 0, 1) := by decide +kernel
theorem dX1_nextToken_205 : decode cX1_nextToken 205 = .ok (.getfield 35, 3) := by decide +kernel
theorem dX1_nextToken_208 : decode cX1_nextToken 208 = .ok (.baload, 1) := by decide +kernel
theorem dX1_nextToken_209 : decode cX1_nextToken 209 = .ok (.iadd, 1) := by decide +kernel
theorem dX1_nextToken_210 : decode cX1_nextToken 210 = .ok (.bipush 48, 2) := by decide +kernel
theorem dX1_nextToken_212 : decode cX1_nextToken 212 = .ok (.isub, 1) := by decide +kernel
theorem dX1_nextToken_213 : decode cX1_nextToken 213 = .ok (.putfield 99, 3) := by decide +kernel
theorem dX1_nextToken_216 : decode cX1_nextToken 216 = .ok (.aload_n 0, 1) := by decide +kernel
theorem dX1_nextToken_217 : decode cX1_nextToken 217 = .ok (.dup, 1) := by decide +kernel
theorem dX1_nextToken_218 : decode cX1_nextToken 218 = .ok (.getfield 35, 3) := by decide +kernel
theorem dX1_nextToken_221 : decode cX1_nextToken 221 = .ok (.iconst 1, 1) := by decide +kernel
theorem dX1_nextToken_222 : decode cX1_nextToken 222 = .ok (.iadd, 1) := by decide +kernel
theorem dX1_nextToken_223 : decode cX1_nextToken 223 = .ok (.putfield 35, 3) := by decide +kernel
theorem dX1_nextToken_226 : decode cX1_nextToken 226 = .ok (.goto (-60), 3) := by decide +kernel
theorem dX1_nextToken_229 : decode cX1_nextToken 229 = .ok (.aload_n 0, 1) := by decide +kernel
theorem dX1_nextToken_230 : decode cX1_nextToken 230 = .ok (.aload_n 0, 1) := by decide +kernel
theorem dX1_nextToken_231 : decode cX1_nextToken 231 = .ok (.getfield 35, 3) := by decide +kernel
theorem dX1_nextToken_234 : decode cX1_nextToken 234 = .ok (.aload_n 0, 1) := by decide +kernel
theorem dX1_nextToken_235 : decode cX1_nextToken 235 = .ok (.getfield 139, 3) := by decide +kernel
theorem dX1_nextToken_238 : decode cX1_nextToken 238 = .ok (.isub, 1) := by decide +kernel
theorem dX1_nextToken_239 : decode cX1_nextToken 239 = .ok (.iconst 2, 1) := by decide +kernel
theorem dX1_nextToken_240 : decode cX1_nextToken 240 = .ok (.if_icmp .gt 7, 3) := by decide +kernel
theorem dX1_nextToken_243 : decode cX1_nextToken 243 = .ok (.iconst 3, 1) := by decide +kernel
theorem dX1_nextToken_244 : decode cX1_nextToken 244 = .ok (.goto 4, 3) := by decide +kernel
theorem dX1_nextToken_247 : decode cX1_nextToken 247 = .ok (.iconst 1, 1) := by decide +kernel
theorem dX1_nextToken_248 : decode cX1_nextToken 248 = .ok (.putfield 54, 3) := by decide +kernel
theorem dX1_nextToken_251 : decode cX1_nextToken 251 = .ok (.goto 36, 3) := by decide +kernel
theorem dX1_nextToken_254 : decode cX1_nextToken 254 = .ok (.aload_n 0, 1) := by decide +kernel
theorem dX1_nextToken_255 : decode cX1_nextToken 255 = .ok (.aload_n 0, 1) := by decide +kernel
theorem dX1_nextToken_256 : decode cX1_nextToken 256 = .ok (.getfield 18, 3) := by decide +kernel
theorem dX1_nextToken_259 : decode cX1_nextToken 259 = .ok (.aload_n 0, 1) := by decide +kernel
theorem dX1_nextToken_260 : decode cX1_nextToken 260 = .ok (.getfield 35, 3) := by decide +kernel
theorem dX1_nextToken_263 : decode cX1_nextToken 263 = .ok (.baload, 1) := by decide +kernel
theorem dX1_nextToken_264 : decode cX1_nextToken 264 = .ok (.bipush 59, 2) := by decide +kernel
theorem dX1_nextToken_266 : decode cX1_nextToken 266 = .ok (.if_icmp .ne 7, 3) := by decide +kernel
theorem dX1_nextToken_269 : decode cX1_nextToken 269 = .ok (.iconst 4, 1) := by decide +kernel
theorem dX1_nextToken_270 : decode cX1_nextToken 270 = .ok (.goto 4, 3) := by decide +kernel
theorem dX1_nextToken_273 : decode cX1_nextToken 273 = .ok (.iconst 1, 1) := by decide +kernel
theorem dX1_nextToken_274 : decode cX1_nextToken 274 = .ok (.putfield 54, 3) := by decide +kernel
theorem dX1_nextToken_277 : decode cX1_nextToken 277 = .ok (.aload_n 0, 1) := by decide +kernel
theorem dX1_nextToken_278 : decode cX1_nextToken 278 = .ok (.dup, 1) := by decide +kernel
theorem dX1_nextToken_279 : decode cX1_nextToken 279 = .ok (.getfield 35, 3) := by decide +kernel
theorem dX1_nextToken_282 : decode cX1_nextToken 282 = .ok (.iconst 1, 1) := by decide +kernel
theorem dX1_nextToken_283 : decode cX1_nextToken 283 = .ok (.iadd, 1) := by decide +kernel
theorem dX1_nextToken_284 : decode cX1_nextToken 284 = .ok (.putfield 35, 3) := by decide +kernel
theorem dX1_nextToken_287 : decode cX1_nextToken 287 = .ok (.return_, 1) := by decide +kernel
theorem dX1_isWhite_0 : decode cX1_isWhite 0 = .ok (.iload_n 0, 1) := by decide +kernel
theorem dX1_isWhite_1 : decode cX1_isWhite 1 = .ok (.bipush 32, 2) := by decide +kernel
theorem dX1_isWhite_3 : decode cX1_isWhite 3 = .ok (.if_icmp .eq 9, 3) := by decide +kernel
theorem dX1_isWhite_6 : decode cX1_isWhite 6 = .ok (.iload_n 0, 1) := by decide +kernel
theorem dX1_isWhite_7 : decode cX1_isWhite 7 = .ok (.bipush 10, 2) := by decide +kernel
theorem dX1_isWhite_9 : decode cX1_isWhite 9 = .ok (.if_icmp .ne 7, 3) := by decide +kernel
theorem dX1_isWhite_12 : decode cX1_isWhite 12 = .ok (.iconst 1, 1) := by decide +kernel
theorem dX1_isWhite_13 : decode cX1_isWhite 13 = .ok (.goto 4, 3) := by decide +kernel
theorem dX1_isWhite_16 : decode cX1_isWhite 16 = .ok (.iconst 0, 1) := by decide +kernel
theorem dX1_isWhite_17 : decode cX1_isWhite 17 = .ok (.ireturn, 1) := by decide +kernel
theorem dX1_isLetter_0 : decode cX1_isLetter 0 = .ok (.iload_n 0, 1) := by decide +kernel
theorem dX1_isLetter_1 : decode cX1_isLetter 1 = .ok (.bipush 97, 2) := by decide +kernel
theorem dX1_isLetter_3 : decode cX1_isLetter 3 = .ok (.if_icmp .lt 13, 3) := by decide +kernel
theorem dX1_isLetter_6 : decode cX1_isLetter 6 = .ok (.iload_n 0, 1) := by decide +kernel
theorem dX1_isLetter_7 : decode cX1_isLetter 7 = .ok (.bipush 122, 2) := by decide +kernel
theorem dX1_isLetter_9 : decode cX1_isLetter 9 = .ok (.if_icmp .gt 7, 3) := by decide +kernel
theorem dX1_isLetter_12 : decode cX1_isLetter 12 = .ok (.iconst 1, 1) := by decide +kernel
theorem dX1_isLetter_13 : decode cX1_isLetter 13 = .ok (.goto 4, 3) := by decide +kernel
theorem dX1_isLetter_16 : decode cX1_isLetter 16 = .ok (.iconst 0, 1) := by decide +kernel
theorem dX1_isLetter_17 : decode cX1_isLetter 17 = .ok (.ireturn, 1) := by decide +kernel
theorem dX1_isDigit_0 : decode cX1_isDigit 0 = .ok (.iload_n 0, 1) := by decide +kernel
theorem dX1_isDigit_1 : decode cX1_isDigit 1 = .ok (.bipush 48, 2) := by decide +kernel
theorem dX1_isDigit_3 : decode cX1_isDigit 3 = .ok (.if_icmp .lt 13, 3) := by decide +kernel
theorem dX1_isDigit_6 : decode cX1_isDigit 6 = .ok (.iload_n 0, 1) := by decide +kernel
theorem dX1_isDigit_7 : decode cX1_isDigit 7 = .ok (.bipush 57, 2) := by decide +kernel
theorem dX1_isDigit_9 : decode cX1_isDigit 9 = .ok (.if_icmp .gt 7, 3) := by decide +kernel
theorem dX1_isDigit_12 : decode cX1_isDigit 12 = .ok (.iconst 1, 1) := by decide +kernel
theorem dX1_isDigit_13 : decode cX1_isDigit 13 = .ok (.goto 4, 3) := by decide +kernel
theorem dX1_isDigit_16 : decode cX1_isDigit 16 = .ok (.iconst 0, 1) := by decide +kernel
theorem dX1_isDigit_17 : decode cX1_isDigit 17 = .ok (.ireturn, 1) := by decide +kernel
theorem dX2_init_0 : decode cX2_init 0 = .ok (.aload_n 0, 1) := by decide +kernel
theorem dX2_init_1 : decode cX2_init 1 = .ok (.invokespecial 3, 3) := by decide +kernel
theorem dX2_init_4 : decode cX2_init 4 = .ok (.aload_n 0, 1) := by decide +kernel
theorem dX2_init_5 : decode cX2_init 5 = .ok (.bipush 10, 2) := by decide +kernel
theorem dX2_init_7 : decode cX2_init 7 = .ok (.anewarray 9, 3) := by decide +kernel
theorem dX2_init_10 : decode cX2_init 10 = .ok (.putfield 11, 3) := by decide +kernel
theorem dX2_init_13 : decode cX2_init 13 = .ok (.aload_n 0, 1) := by decide +kernel
theorem dX2_init_14 : decode cX2_init 14 = .ok (.iconst 2, 1) := by decide +kernel
theorem dX2_init_15 : decode cX2_init 15 = .ok (.anewarray 9, 3) := by decide +kernel
theorem dX2_init_18 : decode cX2_init 18 = .ok (.putfield 17, 3) := by decide +kernel
theorem dX2_init_21 : decode cX2_init 21 = .ok (.aload_n 0, 1) := by decide +kernel
theorem dX2_init_22 : decode cX2_init 22 = .ok (.iconst 2, 1) := by decide +kernel
theorem dX2_init_23 : decode cX2_init 23 = .ok (.newarray .boolean, 2) := by decide +kernel
theorem dX2_init_25 : decode cX2_init 25 = .ok (.putfield 20, 3) := by decide +kernel
theorem dX2_init_28 : decode cX2_init 28 = .ok (.iconst 0, 1) := by decide +kernel
theorem dX2_init_29 : decode cX2_init 29 = .ok (.istore_n 1, 1) := by decide +kernel
theorem dX2_init_30 : decode cX2_init 30 = .ok (.iload_n 1, 1) := by decide +kernel
theorem dX2_init_31 : decode cX2_init 31 = .ok (.bipush 10, 2) := by decide +kernel
theorem dX2_init_33 : decode cX2_init 33 = .ok (.if_icmp .ge 22, 3) := by decide +kernel
theorem dX2_init_36 : decode cX2_init 36 = .ok (.aload_n 0, 1) := by decide +kernel
theorem dX2_init_37 : decode cX2_init 37 = .ok (.getfield 11, 3) := by decide +kernel
theorem dX2_init_40 : decode cX2_init 40 = .ok (.iload_n 1, 1) := by decide +kernel
theorem dX2_init_41 : decode cX2_init 41 = .ok (.new 9, 3) := by decide +kernel
theorem dX2_init_44 : decode cX2_init 44 = .ok (.dup, 1) := by decide +kernel
theorem dX2_init_45 : decode cX2_init 45 = .ok (.invokespecial 24, 3) := by decide +kernel
theorem dX2_init_48 : decode cX2_init 48 = .ok (.aastore, 1) := by decide +kernel
theorem dX2_init_49 : decode cX2_init 49 = .ok (.iinc 1 1, 3) := by decide +kernel
theorem dX2_init_52 : decode cX2_init 52 = .ok (.goto (-22), 3) := by decide +kernel
theorem dX2_init_55 : decode cX2_init 55 = .ok (.iconst 0, 1) := by decide +kernel
theorem dX2_init_56 : decode cX2_init 56 = .ok (.istore_n 1, 1) := by decide +kernel
theorem dX2_init_57 : decode cX2_init 57 = .ok (.iload_n 1, 1) := by decide +kernel
theorem dX2_init_58 : decode cX2_init 58 = .ok (.iconst 2, 1) := by decide +kernel
theorem dX2_init_59 : decode cX2_init 59 = .ok (.if_icmp .ge 22, 3) := by decide +kernel
theorem dX2_init_62 : decode cX2_init 62 = .ok (.aload_n 0, 1) := by decide +kernel
theorem dX2_init_63 : decode cX2_init 63 = .ok (.getfield 17, 3) := by decide +kernel
theorem dX2_init_66 : decode cX2_init 66 = .ok (.iload_n 1, 1) := by decide +kernel
theorem dX2_init_67 : decode cX2_init 67 = .ok (.new 9, 3) := by decide +kernel
theorem dX2_init_70 : decode cX2_init 70 = .ok (.dup, 1) := by decide +kernel
theorem dX2_init_71 : decode cX2_init 71 = .ok (.invokespecial 24, 3) := by decide +kernel
theorem dX2_init_74 : decode cX2_init 74 = .ok (.aastore, 1) := by decide +kernel
theorem dX2_init_75 : decode cX2_init 75 = .ok (.iinc 1 1, 3) := by decide +kernel
theorem dX2_init_78 : decode cX2_init 78 = .ok (.goto (-21), 3) := by decide +kernel
theorem dX2_init_81 : decode cX2_init 81 = .ok (.return_, 1) := by decide +kernel
theorem dX2_forgetAll_0 : decode cX2_forgetAll 0 = .ok (.aload_n 0, 1) := by decide +kernel
theorem dX2_forgetAll_1 : decode cX2_forgetAll 1 = .ok (.iconst 0, 1) := by decide +kernel
theorem dX2_forgetAll_2 : decode cX2_forgetAll 2 = .ok (.putfield 25, 3) := by decide +kernel
theorem dX2_forgetAll_5 : decode cX2_forgetAll 5 = .ok (.iconst 0, 1) := by decide +kernel
theorem dX2_forgetAll_6 : decode cX2_forgetAll 6 = .ok (.istore_n 1, 1) := by decide +kernel
theorem dX2_forgetAll_7 : decode cX2_forgetAll 7 = .ok (.iload_n 1, 1) := by decide +kernel
theorem dX2_forgetAll_8 : decode cX2_forgetAll 8 = .ok (.iconst 2, 1) := by decide +kernel
theorem dX2_forgetAll_9 : decode cX2_forgetAll 9 = .ok (.if_icmp .ge 16, 3) := by decide +kernel
theorem dX2_forgetAll_12 : decode cX2_forgetAll 12 = .ok (.aload_n 0, 1) := by decide +kernel
theorem dX2_forgetAll_13 : decode cX2_forgetAll 13 = .ok (.getfield 20, 3) := by decide +kernel
theorem dX2_forgetAll_16 : decode cX2_forgetAll 16 = .ok (.iload_n 1, 1) := by decide +kernel
theorem dX2_forgetAll_17 : decode cX2_forgetAll 17 = .ok (.iconst 0, 1) := by decide +kernel
theorem dX2_forgetAll_18 : decode cX2_forgetAll 18 = .ok (.bastore, 1) := by decide +kernel
theorem dX2_forgetAll_19 : decode cX2_forgetAll 19 = .ok (.iinc 1 1, 3) := by decide +kernel
theorem dX2_forgetAll_22 : decode cX2_forgetAll 22 = .ok (.goto (-15), 3) := by decide +kernel
theorem dX2_forgetAll_25 : decode cX2_forgetAll 25 = .ok (.return_, 1) := by decide +kernel
theorem dX2_keep_0 : decode cX2_keep 0 = .ok (.aload_n 0, 1) := by decide +kernel
theorem dX2_keep_1 : decode cX2_keep 1 = .ok (.getfield 11, 3) := by decide +kernel
theorem dX2_keep_4 : decode cX2_keep 4 = .ok (.aload_n 0, 1) := by decide +kernel
theorem dX2_keep_5 : decode cX2_keep 5 = .ok (.getfield 29, 3) := by decide +kernel
theorem dX2_keep_8 : decode cX2_keep 8 = .ok (.aaload, 1) := by decide +kernel
theorem dX2_keep_9 : decode cX2_keep 9 = .ok (.aload_n 1, 1) := by decide +kernel
theorem dX2_keep_10 : decode cX2_keep 10 = .ok (.invokevirtual 32, 3) := by decide +kernel
theorem dX2_keep_13 : decode cX2_keep 13 = .ok (.aload_n 0, 1) := by decide +kernel
theorem dX2_keep_14 : decode cX2_keep 14 = .ok (.aload_n 0, 1) := by decide +kernel
theorem dX2_keep_15 : decode cX2_keep 15 = .ok (.getfield 29, 3) := by decide +kernel
theorem dX2_keep_18 : decode cX2_keep 18 = .ok (.iconst 1, 1) := by decide +kernel
theorem dX2_keep_19 : decode cX2_keep 19 = .ok (.iadd, 1) := by decide +kernel
theorem dX2_keep_20 : decode cX2_keep 20 = .ok (.bipush 10, 2) := by decide +kernel
theorem dX2_keep_22 : decode cX2_keep 22 = .ok (.irem, 1) := by decide +kernel
theorem dX2_keep_23 : decode cX2_keep 23 = .ok (.putfield 29, 3) := by decide +kernel
theorem dX2_keep_26 : decode cX2_keep 26 = .ok (.aload_n 0, 1) := by decide +kernel
theorem dX2_keep_27 : decode cX2_keep 27 = .ok (.aload_n 0, 1) := by decide +kernel
theorem dX2_keep_28 : decode cX2_keep 28 = .ok (.getfield 25, 3) := by decide +kernel
theorem dX2_keep_31 : decode cX2_keep 31 = .ok (.iconst 1, 1) := by decide +kernel
theorem dX2_keep_32 : decode cX2_keep 32 = .ok (.iadd, 1) := by decide +kernel
theorem dX2_keep_33 : decode cX2_keep 33 = .ok (.bipush 10, 2) := by decide +kernel
theorem dX2_keep_35 : decode cX2_keep 35 = .ok (.invokestatic 36, 3) := by decide +kernel
theorem dX2_keep_38 : decode cX2_keep 38 = .ok (.putfield 25, 3) := by decide +kernel
theorem dX2_keep_41 : decode cX2_keep 41 = .ok (.return_, 1) := by decide +kernel
theorem dX2_goBack_0 : decode cX2_goBack 0 = .ok (.aload_n 0, 1) := by decide +kernel
theorem dX2_goBack_1 : decode cX2_goBack 1 = .ok (.getfield 25, 3) := by decide +kernel
theorem dX2_goBack_4 : decode cX2_goBack 4 = .ok (.ifCond .ne 5, 3) := by decide +kernel
theorem dX2_goBack_7 : decode cX2_goBack 7 = .ok (.iconst (-1), 1) := by decide +kernel
theorem dX2_goBack_8 : decode cX2_goBack 8 = .ok (.ireturn, 1) := by decide +kernel
theorem dX2_goBack_9 : decode cX2_goBack 9 = .ok (.aload_n 0, 1) := by decide +kernel
theorem dX2_goBack_10 : decode cX2_goBack 10 = .ok (.aload_n 0, 1) := by decide +kernel
theorem dX2_goBack_11 : decode cX2_goBack 11 = .ok (.getfield 29, 3) := by decide +kernel
theorem dX2_goBack_14 : decode cX2_goBack 14 = .ok (.bipush 10, 2) := by decide +kernel
theorem dX2_goBack_16 : decode cX2_goBack 16 = .ok (.iadd, 1) := by decide +kernel
theorem dX2_goBack_17 : decode cX2_goBack 17 = .ok (.iconst 1, 1) := by decide +kernel
theorem dX2_goBack_18 : decode cX2_goBack 18 = .ok (.isub, 1) := by decide +kernel
theorem dX2_goBack_19 : decode cX2_goBack 19 = .ok (.bipush 10, 2) := by decide +kernel
theorem dX2_goBack_21 : decode cX2_goBack 21 = .ok (.irem, 1) := by decide +kernel
theorem dX2_goBack_22 : decode cX2_goBack 22 = .ok (.putfield 29, 3) := by decide +kernel
theorem dX2_goBack_25 : decode cX2_goBack 25 = .ok (.aload_n 1, 1) := by decide +kernel
theorem dX2_goBack_26 : decode cX2_goBack 26 = .ok (.aload_n 0, 1) := by decide +kernel
theorem dX2_goBack_27 : decode cX2_goBack 27 = .ok (.getfield 11, 3) := by decide +kernel
theorem dX2_goBack_30 : decode cX2_goBack 30 = .ok (.aload_n 0, 1) := by decide +kernel
theorem dX2_goBack_31 : decode cX2_goBack 31 = .ok (.getfield 29, 3) := by decide +kernel
theorem dX2_goBack_34 : decode cX2_goBack 34 = .ok (.aaload, 1) := by decide +kernel
theorem dX2_goBack_35 : decode cX2_goBack 35 = .ok (.invokevirtual 32, 3) := by decide +kernel
theorem dX2_goBack_38 : decode cX2_goBack 38 = .ok (.aload_n 0, 1) := by decide +kernel
theorem dX2_goBack_39 : decode cX2_goBack 39 = .ok (.dup, 1) := by decide +kernel
theorem dX2_goBack_40 : decode cX2_goBack 40 = .ok (.getfield 25, 3) := by decide +kernel
theorem dX2_goBack_43 : decode cX2_goBack 43 = .ok (.iconst 1, 1) := by decide +kernel
theorem dX2_goBack_44 : decode cX2_goBack 44 = .ok (.isub, 1) := by decide +kernel
theorem dX2_goBack_45 : decode cX2_goBack 45 = .ok (.putfield 25, 3) := by decide +kernel
theorem dX2_goBack_48 : decode cX2_goBack 48 = .ok (.aload_n 0, 1) := by decide +kernel
theorem dX2_goBack_49 : decode cX2_goBack 49 = .ok (.getfield 25, 3) := by decide +kernel
theorem dX2_goBack_52 : decode cX2_goBack 52 = .ok (.ireturn, 1) := by decide +kernel
theorem dX3_init_0 : decode cX3_init 0 = .ok (.aload_n 0, 1) := by decide +kernel
theorem dX3_init_1 : decode cX3_init 1 = .ok (.invokespecial 3, 3) := by decide +kernel
theorem dX3_init_4 : decode cX3_init 4 = .ok (.aload_n 0, 1) := by decide +kernel
theorem dX3_init_5 : decode cX3_init 5 = .ok (.sipush 299, 3) := by decide +kernel
theorem dX3_init_8 : decode cX3_init 8 = .ok (.newarray .int, 2) := by decide +kernel
theorem dX3_init_10 : decode cX3_init 10 = .ok (.putfield 9, 3) := by decide +kernel
theorem dX3_init_13 : decode cX3_init 13 = .ok (.return_, 1) := by decide +kernel
theorem dX3_setFor_0 : decode cX3_setFor 0 = .ok (.aload_n 0, 1) := by decide +kernel
theorem dX3_setFor_1 : decode cX3_setFor 1 = .ok (.getfield 15, 3) := by decide +kernel
theorem dX3_setFor_4 : decode cX3_setFor 4 = .ok (.iload_n 1, 1) := by decide +kernel
theorem dX3_setFor_5 : decode cX3_setFor 5 = .ok (.if_icmp .ne 19, 3) := by decide +kernel
theorem dX3_setFor_8 : decode cX3_setFor 8 = .ok (.aload_n 0, 1) := by decide +kernel
theorem dX3_setFor_9 : decode cX3_setFor 9 = .ok (.getfield 19, 3) := by decide +kernel
theorem dX3_setFor_12 : decode cX3_setFor 12 = .ok (.iload_n 2, 1) := by decide +kernel
theorem dX3_setFor_13 : decode cX3_setFor 13 = .ok (.if_icmp .ne 11, 3) := by decide +kernel
theorem dX3_setFor_16 : decode cX3_setFor 16 = .ok (.aload_n 0, 1) := by decide +kernel
theorem dX3_setFor_17 : decode cX3_setFor 17 = .ok (.getfield 22, 3) := by decide +kernel
theorem dX3_setFor_20 : decode cX3_setFor 20 = .ok (.iload_n 3, 1) := by decide +kernel
theorem dX3_setFor_21 : decode cX3_setFor 21 = .ok (.if_icmp .eq 23, 3) := by decide +kernel
theorem dX3_setFor_24 : decode cX3_setFor 24 = .ok (.aload_n 0, 1) := by decide +kernel
theorem dX3_setFor_25 : decode cX3_setFor 25 = .ok (.iload_n 1, 1) := by decide +kernel
theorem dX3_setFor_26 : decode cX3_setFor 26 = .ok (.putfield 15, 3) := by decide +kernel
theorem dX3_setFor_29 : decode cX3_setFor 29 = .ok (.aload_n 0, 1) := by decide +kernel
theorem dX3_setFor_30 : decode cX3_setFor 30 = .ok (.iload_n 2, 1) := by decide +kernel
theorem dX3_setFor_31 : decode cX3_setFor 31 = .ok (.putfield 19, 3) := by decide +kernel
theorem dX3_setFor_34 : decode cX3_setFor 34 = .ok (.aload_n 0, 1) := by decide +kernel
theorem dX3_setFor_35 : decode cX3_setFor 35 = .ok (.iload_n 3, 1) := by decide +kernel
theorem dX3_setFor_36 : decode cX3_setFor 36 = .ok (.putfield 22, 3) := by decide +kernel
theorem dX3_setFor_39 : decode cX3_setFor 39 = .ok (.aload_n 0, 1) := by decide +kernel
theorem dX3_setFor_40 : decode cX3_setFor 40 = .ok (.iconst 0, 1) := by decide +kernel
theorem dX3_setFor_41 : decode cX3_setFor 41 = .ok (.putfield 25, 3) := by decide +kernel
theorem dX3_setFor_44 : decode cX3_setFor 44 = .ok (.return_, 1) := by decide +kernel
theorem dX3_valueAt_0 : decode cX3_valueAt 0 = .ok (.aload_n 0, 1) := by decide +kernel
theorem dX3_valueAt_1 : decode cX3_valueAt 1 = .ok (.getfield 25, 3) := by decide +kernel
theorem dX3_valueAt_4 : decode cX3_valueAt 4 = .ok (.iload_n 2, 1) := by decide +kernel
theorem dX3_valueAt_5 : decode cX3_valueAt 5 = .ok (.if_icmp .gt 69, 3) := by decide +kernel
theorem dX3_valueAt_8 : decode cX3_valueAt 8 = .ok (.aload_n 0, 1) := by decide +kernel
theorem dX3_valueAt_9 : decode cX3_valueAt 9 = .ok (.getfield 25, 3) := by decide +kernel
theorem dX3_valueAt_12 : decode cX3_valueAt 12 = .ok (.sipush 299, 3) := by decide +kernel
theorem dX3_valueAt_15 : decode cX3_valueAt 15 = .ok (.if_icmp .ge 59, 3) := by decide +kernel
theorem dX3_valueAt_18 : decode cX3_valueAt 18 = .ok (.aload_n 1, 1) := by decide +kernel
theorem dX3_valueAt_19 : decode cX3_valueAt 19 = .ok (.getfield 28, 3) := by decide +kernel
theorem dX3_valueAt_22 : decode cX3_valueAt 22 = .ok (.aload_n 0, 1) := by decide +kernel
theorem dX3_valueAt_23 : decode cX3_valueAt 23 = .ok (.getfield 25, 3) := by decide +kernel
theorem dX3_valueAt_26 : decode cX3_valueAt 26 = .ok (.iaload, 1) := by decide +kernel
theorem dX3_valueAt_27 : decode cX3_valueAt 27 = .ok (.istore_n 3, 1) := by decide +kernel
theorem dX3_valueAt_28 : decode cX3_valueAt 28 = .ok (.aload_n 0, 1) := by decide +kernel
theorem dX3_valueAt_29 : decode cX3_valueAt 29 = .ok (.getfield 9, 3) := by decide +kernel
theorem dX3_valueAt_32 : decode cX3_valueAt 32 = .ok (.aload_n 0, 1) := by decide +kernel
theorem dX3_valueAt_33 : decode cX3_valueAt 33 = .ok (.getfield 25, 3) := by decide +kernel
theorem dX3_valueAt_36 : decode cX3_valueAt 36 = .ok (.iload_n 3, 1) := by decide +kernel
theorem dX3_valueAt_37 : decode cX3_valueAt 37 = .ok (.invokestatic 33, 3) := by decide +kernel
theorem dX3_valueAt_40 : decode cX3_valueAt 40 = .ok (.aload_n 0, 1) := by decide +kernel
theorem dX3_valueAt_41 : decode cX3_valueAt 41 = .ok (.getfield 15, 3) := by decide +kernel
theorem dX3_valueAt_44 : decode cX3_valueAt 44 = .ok (.if_icmp .le 7, 3) := by decide +kernel
theorem dX3_valueAt_47 : decode cX3_valueAt 47 = .ok (.iconst 0, 1) := by decide +kernel
theorem dX3_valueAt_48 : decode cX3_valueAt 48 = .ok (.goto 12, 3) := by decide +kernel
theorem dX3_valueAt_51 : decode cX3_valueAt 51 = .ok (.aload_n 0, 1) := by decide +kernel
theorem dX3_valueAt_52 : decode cX3_valueAt 52 = .ok (.aload_n 1, 1) := by decide +kernel
theorem dX3_valueAt_53 : decode cX3_valueAt 53 = .ok (.iload_n 3, 1) := by decide +kernel
theorem dX3_valueAt_54 : decode cX3_valueAt 54 = .ok (.invokevirtual 39, 3) := by decide +kernel
theorem dX3_valueAt_57 : decode cX3_valueAt 57 = .ok (.invokestatic 43, 3) := by decide +kernel
theorem dX3_valueAt_60 : decode cX3_valueAt 60 = .ok (.iastore, 1) := by decide +kernel
theorem dX3_valueAt_61 : decode cX3_valueAt 61 = .ok (.aload_n 0, 1) := by decide +kernel
theorem dX3_valueAt_62 : decode cX3_valueAt 62 = .ok (.dup, 1) := by decide +kernel
theorem dX3_valueAt_63 : decode cX3_valueAt 63 = .ok (.getfield 25, 3) := by decide +kernel
theorem dX3_valueAt_66 : decode cX3_valueAt 66 = .ok (.iconst 1, 1) := by decide +kernel
theorem dX3_valueAt_67 : decode cX3_valueAt 67 = .ok (.iadd, 1) := by decide +kernel
theorem dX3_valueAt_68 : decode cX3_valueAt 68 = .ok (.putfield 25, 3) := by decide +kernel
theorem dX3_valueAt_71 : decode cX3_valueAt 71 = .ok (.goto (-71), 3) := by decide +kernel
theorem dX3_valueAt_74 : decode cX3_valueAt 74 = .ok (.iload_n 2, 1) := by decide +kernel
theorem dX3_valueAt_75 : decode cX3_valueAt 75 = .ok (.ifCond .lt 19, 3) := by decide +kernel
theorem dX3_valueAt_78 : decode cX3_valueAt 78 = .ok (.iload_n 2, 1) := by decide +kernel
theorem dX3_valueAt_79 : decode cX3_valueAt 79 = .ok (.sipush 299, 3) := by decide +kernel
theorem dX3_valueAt_82 : decode cX3_valueAt 82 = .ok (.if_icmp .ge 12, 3) := by decide +kernel
theorem dX3_valueAt_85 : decode cX3_valueAt 85 = .ok (.aload_n 0, 1) := by decide +kernel
theorem dX3_valueAt_86 : decode cX3_valueAt 86 = .ok (.getfield 9, 3) := by decide +kernel
theorem dX3_valueAt_89 : decode cX3_valueAt 89 = .ok (.iload_n 2, 1) := by decide +kernel
theorem dX3_valueAt_90 : decode cX3_valueAt 90 = .ok (.iaload, 1) := by decide +kernel
theorem dX3_valueAt_91 : decode cX3_valueAt 91 = .ok (.goto 4, 3) := by decide +kernel
theorem dX3_valueAt_94 : decode cX3_valueAt 94 = .ok (.iconst 0, 1) := by decide +kernel
theorem dX3_valueAt_95 : decode cX3_valueAt 95 = .ok (.ireturn, 1) := by decide +kernel
theorem dX3_valuesBehind_0 : decode cX3_valuesBehind 0 = .ok (.iconst 0, 1) := by decide +kernel
theorem dX3_valuesBehind_1 : decode cX3_valuesBehind 1 = .ok (.istore_n 3, 1) := by decide +kernel
theorem dX3_valuesBehind_2 : decode cX3_valuesBehind 2 = .ok (.aload_n 1, 1) := by decide +kernel
theorem dX3_valuesBehind_3 : decode cX3_valuesBehind 3 = .ok (.iload_n 2, 1) := by decide +kernel
theorem dX3_valuesBehind_4 : decode cX3_valuesBehind 4 = .ok (.aload_n 0, 1) := by decide +kernel
theorem dX3_valuesBehind_5 : decode cX3_valuesBehind 5 = .ok (.getfield 19, 3) := by decide +kernel
theorem dX3_valuesBehind_8 : decode cX3_valuesBehind 8 = .ok (.aload_n 0, 1) := by decide +kernel
theorem dX3_valuesBehind_9 : decode cX3_valuesBehind 9 = .ok (.getfield 22, 3) := by decide +kernel
theorem dX3_valuesBehind_12 : decode cX3_valuesBehind 12 = .ok (.invokevirtual 46, 3) := by decide +kernel
theorem dX3_valuesBehind_15 : decode cX3_valuesBehind 15 = .ok (.istore 4, 2) := by decide +kernel
theorem dX3_valuesBehind_17 : decode cX3_valuesBehind 17 = .ok (.iconst 0, 1) := by decide +kernel
theorem dX3_valuesBehind_18 : decode cX3_valuesBehind 18 = .ok (.istore 5, 2) := by decide +kernel
theorem dX3_valuesBehind_20 : decode cX3_valuesBehind 20 = .ok (.iload 5, 2) := by decide +kernel
theorem dX3_valuesBehind_22 : decode cX3_valuesBehind 22 = .ok (.iload 4, 2) := by decide +kernel
theorem dX3_valuesBehind_24 : decode cX3_valuesBehind 24 = .ok (.if_icmp .ge 26, 3) := by decide +kernel
theorem dX3_valuesBehind_27 : decode cX3_valuesBehind 27 = .ok (.iload_n 3, 1) := by decide +kernel
theorem dX3_valuesBehind_28 : decode cX3_valuesBehind 28 = .ok (.iconst 1, 1) := by decide +kernel
theorem dX3_valuesBehind_29 : decode cX3_valuesBehind 29 = .ok (.aload_n 0, 1) := by decide +kernel
theorem dX3_valuesBehind_30 : decode cX3_valuesBehind 30 = .ok (.getfield 9, 3) := by decide +kernel
theorem dX3_valuesBehind_33 : decode cX3_valuesBehind 33 = .ok (.aload_n 1, 1) := by decide +kernel
theorem dX3_valuesBehind_34 : decode cX3_valuesBehind 34 = .ok (.getfield 50, 3) := by decide +kernel
theorem dX3_valuesBehind_37 : decode cX3_valuesBehind 37 = .ok (.iload 5, 2) := by decide +kernel
theorem dX3_valuesBehind_39 : decode cX3_valuesBehind 39 = .ok (.iaload, 1) := by decide +kernel
theorem dX3_valuesBehind_40 : decode cX3_valuesBehind 40 = .ok (.iaload, 1) := by decide +kernel
theorem dX3_valuesBehind_41 : decode cX3_valuesBehind 41 = .ok (.ishl, 1) := by decide +kernel
theorem dX3_valuesBehind_42 : decode cX3_valuesBehind 42 = .ok (.ior, 1) := by decide +kernel
theorem dX3_valuesBehind_43 : decode cX3_valuesBehind 43 = .ok (.istore_n 3, 1) := by decide +kernel
theorem dX3_valuesBehind_44 : decode cX3_valuesBehind 44 = .ok (.iinc 5 1, 3) := by decide +kernel
theorem dX3_valuesBehind_47 : decode cX3_valuesBehind 47 = .ok (.goto (-27), 3) := by decide +kernel
theorem dX3_valuesBehind_50 : decode cX3_valuesBehind 50 = .ok (.iload_n 3, 1) := by decide +kernel
theorem dX3_valuesBehind_51 : decode cX3_valuesBehind 51 = .ok (.ireturn, 1) := by decide +kernel
theorem dX3_firstMissing_0 : decode cX3_firstMissing 0 = .ok (.iconst 0, 1) := by decide +kernel
theorem dX3_firstMissing_1 : decode cX3_firstMissing 1 = .ok (.istore_n 1, 1) := by decide +kernel
theorem dX3_firstMissing_2 : decode cX3_firstMissing 2 = .ok (.iload_n 1, 1) := by decide +kernel
theorem dX3_firstMissing_3 : decode cX3_firstMissing 3 = .ok (.bipush 12, 2) := by decide +kernel
theorem dX3_firstMissing_5 : decode cX3_firstMissing 5 = .ok (.if_icmp .gt 17, 3) := by decide +kernel
theorem dX3_firstMissing_8 : decode cX3_firstMissing 8 = .ok (.iload_n 0, 1) := by decide +kernel
theorem dX3_firstMissing_9 : decode cX3_firstMissing 9 = .ok (.iload_n 1, 1) := by decide +kernel
theorem dX3_firstMissing_10 : decode cX3_firstMissing 10 = .ok (.invokestatic 53, 3) := by decide +kernel
theorem dX3_firstMissing_13 : decode cX3_firstMissing 13 = .ok (.ifCond .eq 9, 3) := by decide +kernel
theorem dX3_firstMissing_16 : decode cX3_firstMissing 16 = .ok (.iinc 1 1, 3) := by decide +kernel
theorem dX3_firstMissing_19 : decode cX3_firstMissing 19 = .ok (.goto (-17), 3) := by decide +kernel
theorem dX3_firstMissing_22 : decode cX3_firstMissing 22 = .ok (.iload_n 1, 1) := by decide +kernel
theorem dX3_firstMissing_23 : decode cX3_firstMissing 23 = .ok (.ireturn, 1) := by decide +kernel
theorem dX3_isRightAt_0 : decode cX3_isRightAt 0 = .ok (.aload_n 0, 1) := by decide +kernel
theorem dX3_isRightAt_1 : decode cX3_isRightAt 1 = .ok (.aload_n 1, 1) := by decide +kernel
theorem dX3_isRightAt_2 : decode cX3_isRightAt 2 = .ok (.iload_n 2, 1) := by decide +kernel
theorem dX3_isRightAt_3 : decode cX3_isRightAt 3 = .ok (.invokestatic 57, 3) := by decide +kernel
theorem dX3_isRightAt_6 : decode cX3_isRightAt 6 = .ok (.invokevirtual 60, 3) := by decide +kernel
theorem dX3_isRightAt_9 : decode cX3_isRightAt 9 = .ok (.istore_n 3, 1) := by decide +kernel
theorem dX3_isRightAt_10 : decode cX3_isRightAt 10 = .ok (.aload_n 0, 1) := by decide +kernel
theorem dX3_isRightAt_11 : decode cX3_isRightAt 11 = .ok (.aload_n 1, 1) := by decide +kernel
theorem dX3_isRightAt_12 : decode cX3_isRightAt 12 = .ok (.iload_n 2, 1) := by decide +kernel
theorem dX3_isRightAt_13 : decode cX3_isRightAt 13 = .ok (.invokevirtual 39, 3) := by decide +kernel
theorem dX3_isRightAt_16 : decode cX3_isRightAt 16 = .ok (.istore 4, 2) := by decide +kernel
theorem dX3_isRightAt_18 : decode cX3_isRightAt 18 = .ok (.iconst 1, 1) := by decide +kernel
theorem dX3_isRightAt_19 : decode cX3_isRightAt 19 = .ok (.iload_n 3, 1) := by decide +kernel
theorem dX3_isRightAt_20 : decode cX3_isRightAt 20 = .ok (.ishl, 1) := by decide +kernel
theorem dX3_isRightAt_21 : decode cX3_isRightAt 21 = .ok (.iconst 1, 1) := by decide +kernel
theorem dX3_isRightAt_22 : decode cX3_isRightAt 22 = .ok (.isub, 1) := by decide +kernel
theorem dX3_isRightAt_23 : decode cX3_isRightAt 23 = .ok (.istore 5, 2) := by decide +kernel
theorem dX3_isRightAt_25 : decode cX3_isRightAt 25 = .ok (.iload 4, 2) := by decide +kernel
theorem dX3_isRightAt_27 : decode cX3_isRightAt 27 = .ok (.iload_n 3, 1) := by decide +kernel
theorem dX3_isRightAt_28 : decode cX3_isRightAt 28 = .ok (.invokestatic 53, 3) := by decide +kernel
theorem dX3_isRightAt_31 : decode cX3_isRightAt 31 = .ok (.ifCond .ne 17, 3) := by decide +kernel
theorem dX3_isRightAt_34 : decode cX3_isRightAt 34 = .ok (.iload 4, 2) := by decide +kernel
theorem dX3_isRightAt_36 : decode cX3_isRightAt 36 = .ok (.iload 5, 2) := by decide +kernel
theorem dX3_isRightAt_38 : decode cX3_isRightAt 38 = .ok (.iand, 1) := by decide +kernel
theorem dX3_isRightAt_39 : decode cX3_isRightAt 39 = .ok (.iload 5, 2) := by decide +kernel
theorem dX3_isRightAt_41 : decode cX3_isRightAt 41 = .ok (.if_icmp .ne 7, 3) := by decide +kernel
theorem dX3_isRightAt_44 : decode cX3_isRightAt 44 = .ok (.iconst 1, 1) := by decide +kernel
theorem dX3_isRightAt_45 : decode cX3_isRightAt 45 = .ok (.goto 4, 3) := by decide +kernel
theorem dX3_isRightAt_48 : decode cX3_isRightAt 48 = .ok (.iconst 0, 1) := by decide +kernel
theorem dX3_isRightAt_49 : decode cX3_isRightAt 49 = .ok (.ireturn, 1) := by decide +kernel
theorem dX4_init_0 : decode cX4_init 0 = .ok (.aload_n 0, 1) := by decide +kernel
theorem dX4_init_1 : decode cX4_init 1 = .ok (.invokespecial 3, 3) := by decide +kernel
theorem dX4_init_4 : decode cX4_init 4 = .ok (.aload_n 0, 1) := by decide +kernel
theorem dX4_init_5 : decode cX4_init 5 = .ok (.sipush 299, 3) := by decide +kernel
theorem dX4_init_8 : decode cX4_init 8 = .ok (.newarray .int, 2) := by decide +kernel
theorem dX4_init_10 : decode cX4_init 10 = .ok (.putfield 9, 3) := by decide +kernel
theorem dX4_init_13 : decode cX4_init 13 = .ok (.aload_n 0, 1) := by decide +kernel
theorem dX4_init_14 : decode cX4_init 14 = .ok (.bipush 12, 2) := by decide +kernel
theorem dX4_init_16 : decode cX4_init 16 = .ok (.newarray .int, 2) := by decide +kernel
theorem dX4_init_18 : decode cX4_init 18 = .ok (.putfield 15, 3) := by decide +kernel
theorem dX4_init_21 : decode cX4_init 21 = .ok (.iconst 0, 1) := by decide +kernel
theorem dX4_init_22 : decode cX4_init 22 = .ok (.istore_n 1, 1) := by decide +kernel
theorem dX4_init_23 : decode cX4_init 23 = .ok (.iconst 0, 1) := by decide +kernel
theorem dX4_init_24 : decode cX4_init 24 = .ok (.istore_n 2, 1) := by decide +kernel
theorem dX4_init_25 : decode cX4_init 25 = .ok (.iload_n 2, 1) := by decide +kernel
theorem dX4_init_26 : decode cX4_init 26 = .ok (.bipush 12, 2) := by decide +kernel
theorem dX4_init_28 : decode cX4_init 28 = .ok (.if_icmp .gt 77, 3) := by decide +kernel
theorem dX4_init_31 : decode cX4_init 31 = .ok (.iconst 0, 1) := by decide +kernel
theorem dX4_init_32 : decode cX4_init 32 = .ok (.istore_n 3, 1) := by decide +kernel
theorem dX4_init_33 : decode cX4_init 33 = .ok (.iload_n 3, 1) := by decide +kernel
theorem dX4_init_34 : decode cX4_init 34 = .ok (.ifCond .eq 8, 3) := by decide +kernel
theorem dX4_init_37 : decode cX4_init 37 = .ok (.iload_n 3, 1) := by decide +kernel
theorem dX4_init_38 : decode cX4_init 38 = .ok (.iload_n 2, 1) := by decide +kernel
theorem dX4_init_39 : decode cX4_init 39 = .ok (.if_icmp .ge 60, 3) := by decide +kernel
theorem dX4_init_42 : decode cX4_init 42 = .ok (.iconst 0, 1) := by decide +kernel
theorem dX4_init_43 : decode cX4_init 43 = .ok (.istore 4, 2) := by decide +kernel
theorem dX4_init_45 : decode cX4_init 45 = .ok (.iload 4, 2) := by decide +kernel
theorem dX4_init_47 : decode cX4_init 47 = .ok (.ifCond .eq 9, 3) := by decide +kernel
theorem dX4_init_50 : decode cX4_init 50 = .ok (.iload 4, 2) := by decide +kernel
theorem dX4_init_52 : decode cX4_init 52 = .ok (.iload_n 3, 1) := by decide +kernel
theorem dX4_init_53 : decode cX4_init 53 = .ok (.if_icmp .ge 40, 3) := by decide +kernel
theorem dX4_init_56 : decode cX4_init 56 = .ok (.iload_n 1, 1) := by decide +kernel
theorem dX4_init_57 : decode cX4_init 57 = .ok (.sipush 299, 3) := by decide +kernel
theorem dX4_init_60 : decode cX4_init 60 = .ok (.if_icmp .ge 33, 3) := by decide +kernel
theorem dX4_init_63 : decode cX4_init 63 = .ok (.aload_n 0, 1) := by decide +kernel
theorem dX4_init_64 : decode cX4_init 64 = .ok (.getfield 9, 3) := by decide +kernel
theorem dX4_init_67 : decode cX4_init 67 = .ok (.iload_n 1, 1) := by decide +kernel
theorem dX4_init_68 : decode cX4_init 68 = .ok (.iconst 1, 1) := by decide +kernel
theorem dX4_init_69 : decode cX4_init 69 = .ok (.iload_n 2, 1) := by decide +kernel
theorem dX4_init_70 : decode cX4_init 70 = .ok (.ishl, 1) := by decide +kernel
theorem dX4_init_71 : decode cX4_init 71 = .ok (.iconst 1, 1) := by decide +kernel
theorem dX4_init_72 : decode cX4_init 72 = .ok (.iload_n 3, 1) := by decide +kernel
theorem dX4_init_73 : decode cX4_init 73 = .ok (.ishl, 1) := by decide +kernel
theorem dX4_init_74 : decode cX4_init 74 = .ok (.ior, 1) := by decide +kernel
theorem dX4_init_75 : decode cX4_init 75 = .ok (.iconst 1, 1) := by decide +kernel
theorem dX4_init_76 : decode cX4_init 76 = .ok (.iload 4, 2) := by decide +kernel
theorem dX4_init_78 : decode cX4_init 78 = .ok (.ishl, 1) := by decide +kernel
theorem dX4_init_79 : decode cX4_init 79 = .ok (.ior, 1) := by decide +kernel
theorem dX4_init_80 : decode cX4_init 80 = .ok (.bipush (-2), 2) := by decide +kernel
theorem dX4_init_82 : decode cX4_init 82 = .ok (.iand, 1) := by decide +kernel
theorem dX4_init_83 : decode cX4_init 83 = .ok (.iastore, 1) := by decide +kernel
theorem dX4_init_84 : decode cX4_init 84 = .ok (.iinc 1 1, 3) := by decide +kernel
theorem dX4_init_87 : decode cX4_init 87 = .ok (.iinc 4 1, 3) := by decide +kernel
theorem dX4_init_90 : decode cX4_init 90 = .ok (.goto (-45), 3) := by decide +kernel
theorem dX4_init_93 : decode cX4_init 93 = .ok (.iinc 3 1, 3) := by decide +kernel
theorem dX4_init_96 : decode cX4_init 96 = .ok (.goto (-63), 3) := by decide +kernel
theorem dX4_init_99 : decode cX4_init 99 = .ok (.iinc 2 1, 3) := by decide +kernel
theorem dX4_init_102 : decode cX4_init 102 = .ok (.goto (-77), 3) := by decide +kernel
theorem dX4_init_105 : decode cX4_init 105 = .ok (.return_, 1) := by decide +kernel
theorem dX4_rankOf_0 : decode cX4_rankOf 0 = .ok (.iconst 0, 1) := by decide +kernel
theorem dX4_rankOf_1 : decode cX4_rankOf 1 = .ok (.istore_n 1, 1) := by decide +kernel
theorem dX4_rankOf_2 : decode cX4_rankOf 2 = .ok (.iconst 3, 1) := by decide +kernel
theorem dX4_rankOf_3 : decode cX4_rankOf 3 = .ok (.istore_n 2, 1) := by decide +kernel
theorem dX4_rankOf_4 : decode cX4_rankOf 4 = .ok (.bipush 12, 2) := by decide +kernel
theorem dX4_rankOf_6 : decode cX4_rankOf 6 = .ok (.istore_n 3, 1) := by decide +kernel
theorem dX4_rankOf_7 : decode cX4_rankOf 7 = .ok (.iload_n 3, 1) := by decide +kernel
theorem dX4_rankOf_8 : decode cX4_rankOf 8 = .ok (.ifCond .le 37, 3) := by decide +kernel
theorem dX4_rankOf_11 : decode cX4_rankOf 11 = .ok (.iload_n 2, 1) := by decide +kernel
theorem dX4_rankOf_12 : decode cX4_rankOf 12 = .ok (.ifCond .le 33, 3) := by decide +kernel
theorem dX4_rankOf_15 : decode cX4_rankOf 15 = .ok (.iload_n 0, 1) := by decide +kernel
theorem dX4_rankOf_16 : decode cX4_rankOf 16 = .ok (.iload_n 3, 1) := by decide +kernel
theorem dX4_rankOf_17 : decode cX4_rankOf 17 = .ok (.ishr, 1) := by decide +kernel
theorem dX4_rankOf_18 : decode cX4_rankOf 18 = .ok (.iconst 1, 1) := by decide +kernel
theorem dX4_rankOf_19 : decode cX4_rankOf 19 = .ok (.iand, 1) := by decide +kernel
theorem dX4_rankOf_20 : decode cX4_rankOf 20 = .ok (.ifCond .eq 19, 3) := by decide +kernel
theorem dX4_rankOf_23 : decode cX4_rankOf 23 = .ok (.iinc 2 (-1), 3) := by decide +kernel
theorem dX4_rankOf_26 : decode cX4_rankOf 26 = .ok (.iload_n 1, 1) := by decide +kernel
theorem dX4_rankOf_27 : decode cX4_rankOf 27 = .ok (.getstatic 18, 3) := by decide +kernel
theorem dX4_rankOf_30 : decode cX4_rankOf 30 = .ok (.iload_n 2, 1) := by decide +kernel
theorem dX4_rankOf_31 : decode cX4_rankOf 31 = .ok (.bipush 13, 2) := by decide +kernel
theorem dX4_rankOf_33 : decode cX4_rankOf 33 = .ok (.imul, 1) := by decide +kernel
theorem dX4_rankOf_34 : decode cX4_rankOf 34 = .ok (.iload_n 3, 1) := by decide +kernel
theorem dX4_rankOf_35 : decode cX4_rankOf 35 = .ok (.iadd, 1) := by decide +kernel
theorem dX4_rankOf_36 : decode cX4_rankOf 36 = .ok (.iaload, 1) := by decide +kernel
theorem dX4_rankOf_37 : decode cX4_rankOf 37 = .ok (.iadd, 1) := by decide +kernel
theorem dX4_rankOf_38 : decode cX4_rankOf 38 = .ok (.istore_n 1, 1) := by decide +kernel
theorem dX4_rankOf_39 : decode cX4_rankOf 39 = .ok (.iinc 3 (-1), 3) := by decide +kernel
theorem dX4_rankOf_42 : decode cX4_rankOf 42 = .ok (.goto (-35), 3) := by decide +kernel
theorem dX4_rankOf_45 : decode cX4_rankOf 45 = .ok (.iload_n 1, 1) := by decide +kernel
theorem dX4_rankOf_46 : decode cX4_rankOf 46 = .ok (.sipush 299, 3) := by decide +kernel
theorem dX4_rankOf_49 : decode cX4_rankOf 49 = .ok (.if_icmp .ge 7, 3) := by decide +kernel
theorem dX4_rankOf_52 : decode cX4_rankOf 52 = .ok (.iload_n 1, 1) := by decide +kernel
theorem dX4_rankOf_53 : decode cX4_rankOf 53 = .ok (.goto 4, 3) := by decide +kernel
theorem dX4_rankOf_56 : decode cX4_rankOf 56 = .ok (.iconst 0, 1) := by decide +kernel
theorem dX4_rankOf_57 : decode cX4_rankOf 57 = .ok (.ireturn, 1) := by decide +kernel
theorem dX4_listBehind_0 : decode cX4_listBehind 0 = .ok (.iconst 0, 1) := by decide +kernel
theorem dX4_listBehind_1 : decode cX4_listBehind 1 = .ok (.istore 4, 2) := by decide +kernel
theorem dX4_listBehind_3 : decode cX4_listBehind 3 = .ok (.iconst 1, 1) := by decide +kernel
theorem dX4_listBehind_4 : decode cX4_listBehind 4 = .ok (.istore 5, 2) := by decide +kernel
theorem dX4_listBehind_6 : decode cX4_listBehind 6 = .ok (.iload 5, 2) := by decide +kernel
theorem dX4_listBehind_8 : decode cX4_listBehind 8 = .ok (.bipush 12, 2) := by decide +kernel
theorem dX4_listBehind_10 : decode cX4_listBehind 10 = .ok (.if_icmp .gt 96, 3) := by decide +kernel
theorem dX4_listBehind_13 : decode cX4_listBehind 13 = .ok (.iload_n 2, 1) := by decide +kernel
theorem dX4_listBehind_14 : decode cX4_listBehind 14 = .ok (.iload 5, 2) := by decide +kernel
theorem dX4_listBehind_16 : decode cX4_listBehind 16 = .ok (.invokestatic 21, 3) := by decide +kernel
theorem dX4_listBehind_19 : decode cX4_listBehind 19 = .ok (.ifCond .eq 13, 3) := by decide +kernel
theorem dX4_listBehind_22 : decode cX4_listBehind 22 = .ok (.iload_n 1, 1) := by decide +kernel
theorem dX4_listBehind_23 : decode cX4_listBehind 23 = .ok (.iload_n 3, 1) := by decide +kernel
theorem dX4_listBehind_24 : decode cX4_listBehind 24 = .ok (.iload 5, 2) := by decide +kernel
theorem dX4_listBehind_26 : decode cX4_listBehind 26 = .ok (.invokestatic 25, 3) := by decide +kernel
theorem dX4_listBehind_29 : decode cX4_listBehind 29 = .ok (.goto 4, 3) := by decide +kernel
theorem dX4_listBehind_32 : decode cX4_listBehind 32 = .ok (.iconst 0, 1) := by decide +kernel
theorem dX4_listBehind_33 : decode cX4_listBehind 33 = .ok (.istore 6, 2) := by decide +kernel
theorem dX4_listBehind_35 : decode cX4_listBehind 35 = .ok (.iconst 0, 1) := by decide +kernel
theorem dX4_listBehind_36 : decode cX4_listBehind 36 = .ok (.istore 7, 2) := by decide +kernel
theorem dX4_listBehind_38 : decode cX4_listBehind 38 = .ok (.iload 7, 2) := by decide +kernel
theorem dX4_listBehind_40 : decode cX4_listBehind 40 = .ok (.bipush 12, 2) := by decide +kernel
theorem dX4_listBehind_42 : decode cX4_listBehind 42 = .ok (.if_icmp .ge 58, 3) := by decide +kernel
theorem dX4_listBehind_45 : decode cX4_listBehind 45 = .ok (.iload 6, 2) := by decide +kernel
theorem dX4_listBehind_47 : decode cX4_listBehind 47 = .ok (.iload 7, 2) := by decide +kernel
theorem dX4_listBehind_49 : decode cX4_listBehind 49 = .ok (.ishr, 1) := by decide +kernel
theorem dX4_listBehind_50 : decode cX4_listBehind 50 = .ok (.ifCond .eq 50, 3) := by decide +kernel
theorem dX4_listBehind_53 : decode cX4_listBehind 53 = .ok (.iload 6, 2) := by decide +kernel
theorem dX4_listBehind_55 : decode cX4_listBehind 55 = .ok (.iload 7, 2) := by decide +kernel
theorem dX4_listBehind_57 : decode cX4_listBehind 57 = .ok (.invokestatic 21, 3) := by decide +kernel
theorem dX4_listBehind_60 : decode cX4_listBehind 60 = .ok (.ifCond .eq 34, 3) := by decide +kernel
theorem dX4_listBehind_63 : decode cX4_listBehind 63 = .ok (.iload 4, 2) := by decide +kernel
theorem dX4_listBehind_65 : decode cX4_listBehind 65 = .ok (.bipush 12, 2) := by decide +kernel
theorem dX4_listBehind_67 : decode cX4_listBehind 67 = .ok (.if_icmp .ge 27, 3) := by decide +kernel
theorem dX4_listBehind_70 : decode cX4_listBehind 70 = .ok (.aload_n 0, 1) := by decide +kernel
theorem dX4_listBehind_71 : decode cX4_listBehind 71 = .ok (.getfield 15, 3) := by decide +kernel
theorem dX4_listBehind_74 : decode cX4_listBehind 74 = .ok (.iload 4, 2) := by decide +kernel
theorem dX4_listBehind_76 : decode cX4_listBehind 76 = .ok (.iload_n 1, 1) := by decide +kernel
theorem dX4_listBehind_77 : decode cX4_listBehind 77 = .ok (.iload 7, 2) := by decide +kernel
theorem dX4_listBehind_79 : decode cX4_listBehind 79 = .ok (.iload 5, 2) := by decide +kernel
theorem dX4_listBehind_81 : decode cX4_listBehind 81 = .ok (.iadd, 1) := by decide +kernel
theorem dX4_listBehind_82 : decode cX4_listBehind 82 = .ok (.iload 7, 2) := by decide +kernel
theorem dX4_listBehind_84 : decode cX4_listBehind 84 = .ok (.invokestatic 29, 3) := by decide +kernel
theorem dX4_listBehind_87 : decode cX4_listBehind 87 = .ok (.invokestatic 32, 3) := by decide +kernel
theorem dX4_listBehind_90 : decode cX4_listBehind 90 = .ok (.iastore, 1) := by decide +kernel
theorem dX4_listBehind_91 : decode cX4_listBehind 91 = .ok (.iinc 4 1, 3) := by decide +kernel
theorem dX4_listBehind_94 : decode cX4_listBehind 94 = .ok (.iinc 7 1, 3) := by decide +kernel
theorem dX4_listBehind_97 : decode cX4_listBehind 97 = .ok (.goto (-59), 3) := by decide +kernel
theorem dX4_listBehind_100 : decode cX4_listBehind 100 = .ok (.iinc 5 1, 3) := by decide +kernel
theorem dX4_listBehind_103 : decode cX4_listBehind 103 = .ok (.goto (-97), 3) := by decide +kernel
theorem dX4_listBehind_106 : decode cX4_listBehind 106 = .ok (.iload 4, 2) := by decide +kernel
theorem dX4_listBehind_108 : decode cX4_listBehind 108 = .ok (.ireturn, 1) := by decide +kernel
theorem dX4_targetsOf_0 : decode cX4_targetsOf 0 = .ok (.iload_n 0, 1) := by decide +kernel
theorem dX4_targetsOf_1 : decode cX4_targetsOf 1 = .ok (.iload_n 2, 1) := by decide +kernel
theorem dX4_targetsOf_2 : decode cX4_targetsOf 2 = .ok (.ishr, 1) := by decide +kernel
theorem dX4_targetsOf_3 : decode cX4_targetsOf 3 = .ok (.iload_n 0, 1) := by decide +kernel
theorem dX4_targetsOf_4 : decode cX4_targetsOf 4 = .ok (.iload_n 1, 1) := by decide +kernel
theorem dX4_targetsOf_5 : decode cX4_targetsOf 5 = .ok (.ior, 1) := by decide +kernel
theorem dX4_targetsOf_6 : decode cX4_targetsOf 6 = .ok (.iconst (-1), 1) := by decide +kernel
theorem dX4_targetsOf_7 : decode cX4_targetsOf 7 = .ok (.ixor, 1) := by decide +kernel
theorem dX4_targetsOf_8 : decode cX4_targetsOf 8 = .ok (.iand, 1) := by decide +kernel
theorem dX4_targetsOf_9 : decode cX4_targetsOf 9 = .ok (.ireturn, 1) := by decide +kernel
theorem dX5_init_0 : decode cX5_init 0 = .ok (.aload_n 0, 1) := by decide +kernel
theorem dX5_init_1 : decode cX5_init 1 = .ok (.invokespecial 3, 3) := by decide +kernel
theorem dX5_init_4 : decode cX5_init 4 = .ok (.aload_n 0, 1) := by decide +kernel
theorem dX5_init_5 : decode cX5_init 5 = .ok (.sipush 299, 3) := by decide +kernel
theorem dX5_init_8 : decode cX5_init 8 = .ok (.newarray .int, 2) := by decide +kernel
theorem dX5_init_10 : decode cX5_init 10 = .ok (.putfield 9, 3) := by decide +kernel
theorem dX5_init_13 : decode cX5_init 13 = .ok (.return_, 1) := by decide +kernel
theorem dX5_explore_0 : decode cX5_explore 0 = .ok (.aload_n 0, 1) := by decide +kernel
theorem dX5_explore_1 : decode cX5_explore 1 = .ok (.getfield 9, 3) := by decide +kernel
theorem dX5_explore_4 : decode cX5_explore 4 = .ok (.iconst 0, 1) := by decide +kernel
theorem dX5_explore_5 : decode cX5_explore 5 = .ok (.invokestatic 15, 3) := by decide +kernel
theorem dX5_explore_8 : decode cX5_explore 8 = .ok (.iload_n 2, 1) := by decide +kernel
theorem dX5_explore_9 : decode cX5_explore 9 = .ok (.invokestatic 21, 3) := by decide +kernel
theorem dX5_explore_12 : decode cX5_explore 12 = .ok (.istore 5, 2) := by decide +kernel
theorem dX5_explore_14 : decode cX5_explore 14 = .ok (.aload_n 0, 1) := by decide +kernel
theorem dX5_explore_15 : decode cX5_explore 15 = .ok (.getfield 9, 3) := by decide +kernel
theorem dX5_explore_18 : decode cX5_explore 18 = .ok (.iload 5, 2) := by decide +kernel
theorem dX5_explore_20 : decode cX5_explore 20 = .ok (.iconst 1, 1) := by decide +kernel
theorem dX5_explore_21 : decode cX5_explore 21 = .ok (.iastore, 1) := by decide +kernel
theorem dX5_explore_22 : decode cX5_explore 22 = .ok (.iload 5, 2) := by decide +kernel
theorem dX5_explore_24 : decode cX5_explore 24 = .ok (.istore 6, 2) := by decide +kernel
theorem dX5_explore_26 : decode cX5_explore 26 = .ok (.iload 6, 2) := by decide +kernel
theorem dX5_explore_28 : decode cX5_explore 28 = .ok (.ifCond .lt 86, 3) := by decide +kernel
theorem dX5_explore_31 : decode cX5_explore 31 = .ok (.aload_n 0, 1) := by decide +kernel
theorem dX5_explore_32 : decode cX5_explore 32 = .ok (.getfield 9, 3) := by decide +kernel
theorem dX5_explore_35 : decode cX5_explore 35 = .ok (.iload 6, 2) := by decide +kernel
theorem dX5_explore_37 : decode cX5_explore 37 = .ok (.iaload, 1) := by decide +kernel
theorem dX5_explore_38 : decode cX5_explore 38 = .ok (.ifCond .le 70, 3) := by decide +kernel
theorem dX5_explore_41 : decode cX5_explore 41 = .ok (.aload_n 1, 1) := by decide +kernel
theorem dX5_explore_42 : decode cX5_explore 42 = .ok (.aload_n 1, 1) := by decide +kernel
theorem dX5_explore_43 : decode cX5_explore 43 = .ok (.getfield 27, 3) := by decide +kernel
theorem dX5_explore_46 : decode cX5_explore 46 = .ok (.iload 6, 2) := by decide +kernel
theorem dX5_explore_48 : decode cX5_explore 48 = .ok (.iaload, 1) := by decide +kernel
theorem dX5_explore_49 : decode cX5_explore 49 = .ok (.iload_n 3, 1) := by decide +kernel
theorem dX5_explore_50 : decode cX5_explore 50 = .ok (.iload 4, 2) := by decide +kernel
theorem dX5_explore_52 : decode cX5_explore 52 = .ok (.invokevirtual 30, 3) := by decide +kernel
theorem dX5_explore_55 : decode cX5_explore 55 = .ok (.istore 7, 2) := by decide +kernel
theorem dX5_explore_57 : decode cX5_explore 57 = .ok (.iconst 0, 1) := by decide +kernel
theorem dX5_explore_58 : decode cX5_explore 58 = .ok (.istore 8, 2) := by decide +kernel
theorem dX5_explore_60 : decode cX5_explore 60 = .ok (.iload 8, 2) := by decide +kernel
theorem dX5_explore_62 : decode cX5_explore 62 = .ok (.iload 7, 2) := by decide +kernel
theorem dX5_explore_64 : decode cX5_explore 64 = .ok (.if_icmp .ge 44, 3) := by decide +kernel
theorem dX5_explore_67 : decode cX5_explore 67 = .ok (.aload_n 1, 1) := by decide +kernel
theorem dX5_explore_68 : decode cX5_explore 68 = .ok (.getfield 34, 3) := by decide +kernel
theorem dX5_explore_71 : decode cX5_explore 71 = .ok (.iload 8, 2) := by decide +kernel
theorem dX5_explore_73 : decode cX5_explore 73 = .ok (.iaload, 1) := by decide +kernel
theorem dX5_explore_74 : decode cX5_explore 74 = .ok (.istore 9, 2) := by decide +kernel
theorem dX5_explore_76 : decode cX5_explore 76 = .ok (.aload_n 0, 1) := by decide +kernel
theorem dX5_explore_77 : decode cX5_explore 77 = .ok (.getfield 9, 3) := by decide +kernel
theorem dX5_explore_80 : decode cX5_explore 80 = .ok (.iload 9, 2) := by decide +kernel
theorem dX5_explore_82 : decode cX5_explore 82 = .ok (.aload_n 0, 1) := by decide +kernel
theorem dX5_explore_83 : decode cX5_explore 83 = .ok (.getfield 9, 3) := by decide +kernel
theorem dX5_explore_86 : decode cX5_explore 86 = .ok (.iload 9, 2) := by decide +kernel
theorem dX5_explore_88 : decode cX5_explore 88 = .ok (.iaload, 1) := by decide +kernel
theorem dX5_explore_89 : decode cX5_explore 89 = .ok (.aload_n 0, 1) := by decide +kernel
theorem dX5_explore_90 : decode cX5_explore 90 = .ok (.getfield 9, 3) := by decide +kernel
theorem dX5_explore_93 : decode cX5_explore 93 = .ok (.iload 6, 2) := by decide +kernel
theorem dX5_explore_95 : decode cX5_explore 95 = .ok (.iaload, 1) := by decide +kernel
theorem dX5_explore_96 : decode cX5_explore 96 = .ok (.iconst 1, 1) := by decide +kernel
theorem dX5_explore_97 : decode cX5_explore 97 = .ok (.iadd, 1) := by decide +kernel
theorem dX5_explore_98 : decode cX5_explore 98 = .ok (.invokestatic 37, 3) := by decide +kernel
theorem dX5_explore_101 : decode cX5_explore 101 = .ok (.iastore, 1) := by decide +kernel
theorem dX5_explore_102 : decode cX5_explore 102 = .ok (.iinc 8 1, 3) := by decide +kernel
theorem dX5_explore_105 : decode cX5_explore 105 = .ok (.goto (-45), 3) := by decide +kernel
theorem dX5_explore_108 : decode cX5_explore 108 = .ok (.iinc 6 (-1), 3) := by decide +kernel
theorem dX5_explore_111 : decode cX5_explore 111 = .ok (.goto (-85), 3) := by decide +kernel
theorem dX5_explore_114 : decode cX5_explore 114 = .ok (.return_, 1) := by decide +kernel
theorem dX5_hasReached_0 : decode cX5_hasReached 0 = .ok (.aload_n 0, 1) := by decide +kernel
theorem dX5_hasReached_1 : decode cX5_hasReached 1 = .ok (.getfield 9, 3) := by decide +kernel
theorem dX5_hasReached_4 : decode cX5_hasReached 4 = .ok (.iload_n 1, 1) := by decide +kernel
theorem dX5_hasReached_5 : decode cX5_hasReached 5 = .ok (.iaload, 1) := by decide +kernel
theorem dX5_hasReached_6 : decode cX5_hasReached 6 = .ok (.ifCond .le 7, 3) := by decide +kernel
theorem dX5_hasReached_9 : decode cX5_hasReached 9 = .ok (.iconst 1, 1) := by decide +kernel
theorem dX5_hasReached_10 : decode cX5_hasReached 10 = .ok (.goto 4, 3) := by decide +kernel
theorem dX5_hasReached_13 : decode cX5_hasReached 13 = .ok (.iconst 0, 1) := by decide +kernel
theorem dX5_hasReached_14 : decode cX5_hasReached 14 = .ok (.ireturn, 1) := by decide +kernel
theorem dX5_farthest_0 : decode cX5_farthest 0 = .ok (.iconst 1, 1) := by decide +kernel
theorem dX5_farthest_1 : decode cX5_farthest 1 = .ok (.istore_n 1, 1) := by decide +kernel
theorem dX5_farthest_2 : decode cX5_farthest 2 = .ok (.iconst 0, 1) := by decide +kernel
theorem dX5_farthest_3 : decode cX5_farthest 3 = .ok (.istore_n 2, 1) := by decide +kernel
theorem dX5_farthest_4 : decode cX5_farthest 4 = .ok (.iload_n 2, 1) := by decide +kernel
theorem dX5_farthest_5 : decode cX5_farthest 5 = .ok (.sipush 299, 3) := by decide +kernel
theorem dX5_farthest_8 : decode cX5_farthest 8 = .ok (.if_icmp .ge 20, 3) := by decide +kernel
theorem dX5_farthest_11 : decode cX5_farthest 11 = .ok (.iload_n 1, 1) := by decide +kernel
theorem dX5_farthest_12 : decode cX5_farthest 12 = .ok (.aload_n 0, 1) := by decide +kernel
theorem dX5_farthest_13 : decode cX5_farthest 13 = .ok (.getfield 9, 3) := by decide +kernel
theorem dX5_farthest_16 : decode cX5_farthest 16 = .ok (.iload_n 2, 1) := by decide +kernel
theorem dX5_farthest_17 : decode cX5_farthest 17 = .ok (.iaload, 1) := by decide +kernel
theorem dX5_farthest_18 : decode cX5_farthest 18 = .ok (.invokestatic 37, 3) := by decide +kernel
theorem dX5_farthest_21 : decode cX5_farthest 21 = .ok (.istore_n 1, 1) := by decide +kernel
theorem dX5_farthest_22 : decode cX5_farthest 22 = .ok (.iinc 2 1, 3) := by decide +kernel
theorem dX5_farthest_25 : decode cX5_farthest 25 = .ok (.goto (-21), 3) := by decide +kernel
theorem dX5_farthest_28 : decode cX5_farthest 28 = .ok (.iload_n 1, 1) := by decide +kernel
theorem dX5_farthest_29 : decode cX5_farthest 29 = .ok (.iconst 1, 1) := by decide +kernel
theorem dX5_farthest_30 : decode cX5_farthest 30 = .ok (.isub, 1) := by decide +kernel
theorem dX5_farthest_31 : decode cX5_farthest 31 = .ok (.ireturn, 1) := by decide +kernel
theorem dX5_countPositions_0 : decode cX5_countPositions 0 = .ok (.iconst 0, 1) := by decide +kernel
theorem dX5_countPositions_1 : decode cX5_countPositions 1 = .ok (.istore_n 1, 1) := by decide +kernel
theorem dX5_countPositions_2 : decode cX5_countPositions 2 = .ok (.iconst 0, 1) := by decide +kernel
theorem dX5_countPositions_3 : decode cX5_countPositions 3 = .ok (.istore_n 2, 1) := by decide +kernel
theorem dX5_countPositions_4 : decode cX5_countPositions 4 = .ok (.iload_n 2, 1) := by decide +kernel
theorem dX5_countPositions_5 : decode cX5_countPositions 5 = .ok (.sipush 299, 3) := by decide +kernel
theorem dX5_countPositions_8 : decode cX5_countPositions 8 = .ok (.if_icmp .ge 25, 3) := by decide +kernel
theorem dX5_countPositions_11 : decode cX5_countPositions 11 = .ok (.iload_n 1, 1) := by decide +kernel
theorem dX5_countPositions_12 : decode cX5_countPositions 12 = .ok (.aload_n 0, 1) := by decide +kernel
theorem dX5_countPositions_13 : decode cX5_countPositions 13 = .ok (.iload_n 2, 1) := by decide +kernel
theorem dX5_countPositions_14 : decode cX5_countPositions 14 = .ok (.invokevirtual 43, 3) := by decide +kernel
theorem dX5_countPositions_17 : decode cX5_countPositions 17 = .ok (.ifCond .eq 7, 3) := by decide +kernel
theorem dX5_countPositions_20 : decode cX5_countPositions 20 = .ok (.iconst 1, 1) := by decide +kernel
theorem dX5_countPositions_21 : decode cX5_countPositions 21 = .ok (.goto 4, 3) := by decide +kernel
theorem dX5_countPositions_24 : decode cX5_countPositions 24 = .ok (.iconst 0, 1) := by decide +kernel
theorem dX5_countPositions_25 : decode cX5_countPositions 25 = .ok (.iadd, 1) := by decide +kernel
theorem dX5_countPositions_26 : decode cX5_countPositions 26 = .ok (.istore_n 1, 1) := by decide +kernel
theorem dX5_countPositions_27 : decode cX5_countPositions 27 = .ok (.iinc 2 1, 3) := by decide +kernel
theorem dX5_countPositions_30 : decode cX5_countPositions 30 = .ok (.goto (-26), 3) := by decide +kernel
theorem dX5_countPositions_33 : decode cX5_countPositions 33 = .ok (.iload_n 1, 1) := by decide +kernel
theorem dX5_countPositions_34 : decode cX5_countPositions 34 = .ok (.ireturn, 1) := by decide +kernel
theorem dX6_init_0 : decode cX6_init 0 = .ok (.aload_n 0, 1) := by decide +kernel
theorem dX6_init_1 : decode cX6_init 1 = .ok (.invokespecial 3, 3) := by decide +kernel
theorem dX6_init_4 : decode cX6_init 4 = .ok (.aload_n 0, 1) := by decide +kernel
theorem dX6_init_5 : decode cX6_init 5 = .ok (.bipush 6, 2) := by decide +kernel
theorem dX6_init_7 : decode cX6_init 7 = .ok (.newarray .int, 2) := by decide +kernel
theorem dX6_init_9 : decode cX6_init 9 = .ok (.putfield 9, 3) := by decide +kernel
theorem dX6_init_12 : decode cX6_init 12 = .ok (.aload_n 0, 1) := by decide +kernel
theorem dX6_init_13 : decode cX6_init 13 = .ok (.bipush 6, 2) := by decide +kernel
theorem dX6_init_15 : decode cX6_init 15 = .ok (.newarray .int, 2) := by decide +kernel
theorem dX6_init_17 : decode cX6_init 17 = .ok (.putfield 15, 3) := by decide +kernel
theorem dX6_init_20 : decode cX6_init 20 = .ok (.aload_n 0, 1) := by decide +kernel
theorem dX6_init_21 : decode cX6_init 21 = .ok (.bipush 6, 2) := by decide +kernel
theorem dX6_init_23 : decode cX6_init 23 = .ok (.newarray .int, 2) := by decide +kernel
theorem dX6_init_25 : decode cX6_init 25 = .ok (.putfield 18, 3) := by decide +kernel
theorem dX6_init_28 : decode cX6_init 28 = .ok (.aload_n 0, 1) := by decide +kernel
theorem dX6_init_29 : decode cX6_init 29 = .ok (.bipush 6, 2) := by decide +kernel
theorem dX6_init_31 : decode cX6_init 31 = .ok (.newarray .int, 2) := by decide +kernel
theorem dX6_init_33 : decode cX6_init 33 = .ok (.putfield 21, 3) := by decide +kernel
theorem dX6_init_36 : decode cX6_init 36 = .ok (.aload_n 0, 1) := by decide +kernel
theorem dX6_init_37 : decode cX6_init 37 = .ok (.bipush 6, 2) := by decide +kernel
theorem dX6_init_39 : decode cX6_init 39 = .ok (.newarray .int, 2) := by decide +kernel
theorem dX6_init_41 : decode cX6_init 41 = .ok (.putfield 24, 3) := by decide +kernel
theorem dX6_init_44 : decode cX6_init 44 = .ok (.aload_n 0, 1) := by decide +kernel
theorem dX6_init_45 : decode cX6_init 45 = .ok (.iconst 3, 1) := by decide +kernel
theorem dX6_init_46 : decode cX6_init 46 = .ok (.newarray .int, 2) := by decide +kernel
theorem dX6_init_48 : decode cX6_init 48 = .ok (.dup, 1) := by decide +kernel
theorem dX6_init_49 : decode cX6_init 49 = .ok (.iconst 0, 1) := by decide +kernel
theorem dX6_init_50 : decode cX6_init 50 = .ok (.iconst 1, 1) := by decide +kernel
theorem dX6_init_51 : decode cX6_init 51 = .ok (.iastore, 1) := by decide +kernel
theorem dX6_init_52 : decode cX6_init 52 = .ok (.dup, 1) := by decide +kernel
theorem dX6_init_53 : decode cX6_init 53 = .ok (.iconst 1, 1) := by decide +kernel
theorem dX6_init_54 : decode cX6_init 54 = .ok (.iconst 1, 1) := by decide +kernel
theorem dX6_init_55 : decode cX6_init 55 = .ok (.iastore, 1) := by decide +kernel
theorem dX6_init_56 : decode cX6_init 56 = .ok (.dup, 1) := by decide +kernel
theorem dX6_init_57 : decode cX6_init 57 = .ok (.iconst 2, 1) := by decide +kernel
theorem dX6_init_58 : decode cX6_init 58 = .ok (.iconst 1, 1) := by decide +kernel
theorem dX6_init_59 : decode cX6_init 59 = .ok (.iastore, 1) := by decide +kernel
theorem dX6_init_60 : decode cX6_init 60 = .ok (.putfield 27, 3) := by decide +kernel
theorem dX6_init_63 : decode cX6_init 63 = .ok (.return_, 1) := by decide +kernel
theorem dX6_clear_0 : decode cX6_clear 0 = .ok (.aload_n 0, 1) := by decide +kernel
theorem dX6_clear_1 : decode cX6_clear 1 = .ok (.getfield 24, 3) := by decide +kernel
theorem dX6_clear_4 : decode cX6_clear 4 = .ok (.iconst 0, 1) := by decide +kernel
theorem dX6_clear_5 : decode cX6_clear 5 = .ok (.invokestatic 30, 3) := by decide +kernel
theorem dX6_clear_8 : decode cX6_clear 8 = .ok (.aload_n 0, 1) := by decide +kernel
theorem dX6_clear_9 : decode cX6_clear 9 = .ok (.getfield 27, 3) := by decide +kernel
theorem dX6_clear_12 : decode cX6_clear 12 = .ok (.iconst 1, 1) := by decide +kernel
theorem dX6_clear_13 : decode cX6_clear 13 = .ok (.invokestatic 30, 3) := by decide +kernel
theorem dX6_clear_16 : decode cX6_clear 16 = .ok (.aload_n 0, 1) := by decide +kernel
theorem dX6_clear_17 : decode cX6_clear 17 = .ok (.iconst 0, 1) := by decide +kernel
theorem dX6_clear_18 : decode cX6_clear 18 = .ok (.putfield 36, 3) := by decide +kernel
theorem dX6_clear_21 : decode cX6_clear 21 = .ok (.aload_n 0, 1) := by decide +kernel
theorem dX6_clear_22 : decode cX6_clear 22 = .ok (.iconst 0, 1) := by decide +kernel
theorem dX6_clear_23 : decode cX6_clear 23 = .ok (.putfield 40, 3) := by decide +kernel
theorem dX6_clear_26 : decode cX6_clear 26 = .ok (.return_, 1) := by decide +kernel
theorem dX6_hasLadder_0 : decode cX6_hasLadder 0 = .ok (.iload_n 1, 1) := by decide +kernel
theorem dX6_hasLadder_1 : decode cX6_hasLadder 1 = .ok (.ifCond .lt 21, 3) := by decide +kernel
theorem dX6_hasLadder_4 : decode cX6_hasLadder 4 = .ok (.iload_n 1, 1) := by decide +kernel
theorem dX6_hasLadder_5 : decode cX6_hasLadder 5 = .ok (.aload_n 0, 1) := by decide +kernel
theorem dX6_hasLadder_6 : decode cX6_hasLadder 6 = .ok (.getfield 36, 3) := by decide +kernel
theorem dX6_hasLadder_9 : decode cX6_hasLadder 9 = .ok (.if_icmp .ge 13, 3) := by decide +kernel
theorem dX6_hasLadder_12 : decode cX6_hasLadder 12 = .ok (.iload_n 1, 1) := by decide +kernel
theorem dX6_hasLadder_13 : decode cX6_hasLadder 13 = .ok (.bipush 6, 2) := by decide +kernel
theorem dX6_hasLadder_15 : decode cX6_hasLadder 15 = .ok (.if_icmp .ge 7, 3) := by decide +kernel
theorem dX6_hasLadder_18 : decode cX6_hasLadder 18 = .ok (.iconst 1, 1) := by decide +kernel
theorem dX6_hasLadder_19 : decode cX6_hasLadder 19 = .ok (.goto 4, 3) := by decide +kernel
theorem dX6_hasLadder_22 : decode cX6_hasLadder 22 = .ok (.iconst 0, 1) := by decide +kernel
theorem dX6_hasLadder_23 : decode cX6_hasLadder 23 = .ok (.ireturn, 1) := by decide +kernel
theorem dX6_copyFrom_0 : decode cX6_copyFrom 0 = .ok (.aload_n 1, 1) := by decide +kernel
theorem dX6_copyFrom_1 : decode cX6_copyFrom 1 = .ok (.getfield 9, 3) := by decide +kernel
theorem dX6_copyFrom_4 : decode cX6_copyFrom 4 = .ok (.iconst 0, 1) := by decide +kernel
theorem dX6_copyFrom_5 : decode cX6_copyFrom 5 = .ok (.aload_n 0, 1) := by decide +kernel
theorem dX6_copyFrom_6 : decode cX6_copyFrom 6 = .ok (.getfield 9, 3) := by decide +kernel
theorem dX6_copyFrom_9 : decode cX6_copyFrom 9 = .ok (.iconst 0, 1) := by decide +kernel
theorem dX6_copyFrom_10 : decode cX6_copyFrom 10 = .ok (.bipush 6, 2) := by decide +kernel
theorem dX6_copyFrom_12 : decode cX6_copyFrom 12 = .ok (.invokestatic 43, 3) := by decide +kernel
theorem dX6_copyFrom_15 : decode cX6_copyFrom 15 = .ok (.aload_n 1, 1) := by decide +kernel
theorem dX6_copyFrom_16 : decode cX6_copyFrom 16 = .ok (.getfield 15, 3) := by decide +kernel
theorem dX6_copyFrom_19 : decode cX6_copyFrom 19 = .ok (.iconst 0, 1) := by decide +kernel
theorem dX6_copyFrom_20 : decode cX6_copyFrom 20 = .ok (.aload_n 0, 1) := by decide +kernel
theorem dX6_copyFrom_21 : decode cX6_copyFrom 21 = .ok (.getfield 15, 3) := by decide +kernel
theorem dX6_copyFrom_24 : decode cX6_copyFrom 24 = .ok (.iconst 0, 1) := by decide +kernel
theorem dX6_copyFrom_25 : decode cX6_copyFrom 25 = .ok (.bipush 6, 2) := by decide +kernel
theorem dX6_copyFrom_27 : decode cX6_copyFrom 27 = .ok (.invokestatic 43, 3) := by decide +kernel
theorem dX6_copyFrom_30 : decode cX6_copyFrom 30 = .ok (.aload_n 1, 1) := by decide +kernel
theorem dX6_copyFrom_31 : decode cX6_copyFrom 31 = .ok (.getfield 18, 3) := by decide +kernel
theorem dX6_copyFrom_34 : decode cX6_copyFrom 34 = .ok (.iconst 0, 1) := by decide +kernel
theorem dX6_copyFrom_35 : decode cX6_copyFrom 35 = .ok (.aload_n 0, 1) := by decide +kernel
theorem dX6_copyFrom_36 : decode cX6_copyFrom 36 = .ok (.getfield 18, 3) := by decide +kernel
theorem dX6_copyFrom_39 : decode cX6_copyFrom 39 = .ok (.iconst 0, 1) := by decide +kernel
theorem dX6_copyFrom_40 : decode cX6_copyFrom 40 = .ok (.bipush 6, 2) := by decide +kernel
theorem dX6_copyFrom_42 : decode cX6_copyFrom 42 = .ok (.invokestatic 43, 3) := by decide +kernel
theorem dX6_copyFrom_45 : decode cX6_copyFrom 45 = .ok (.aload_n 1, 1) := by decide +kernel
theorem dX6_copyFrom_46 : decode cX6_copyFrom 46 = .ok (.getfield 21, 3) := by decide +kernel
theorem dX6_copyFrom_49 : decode cX6_copyFrom 49 = .ok (.iconst 0, 1) := by decide +kernel
theorem dX6_copyFrom_50 : decode cX6_copyFrom 50 = .ok (.aload_n 0, 1) := by decide +kernel
theorem dX6_copyFrom_51 : decode cX6_copyFrom 51 = .ok (.getfield 21, 3) := by decide +kernel
theorem dX6_copyFrom_54 : decode cX6_copyFrom 54 = .ok (.iconst 0, 1) := by decide +kernel
theorem dX6_copyFrom_55 : decode cX6_copyFrom 55 = .ok (.bipush 6, 2) := by decide +kernel
theorem dX6_copyFrom_57 : decode cX6_copyFrom 57 = .ok (.invokestatic 43, 3) := by decide +kernel
theorem dX6_copyFrom_60 : decode cX6_copyFrom 60 = .ok (.aload_n 1, 1) := by decide +kernel
theorem dX6_copyFrom_61 : decode cX6_copyFrom 61 = .ok (.getfield 24, 3) := by decide +kernel
theorem dX6_copyFrom_64 : decode cX6_copyFrom 64 = .ok (.iconst 0, 1) := by decide +kernel
theorem dX6_copyFrom_65 : decode cX6_copyFrom 65 = .ok (.aload_n 0, 1) := by decide +kernel
theorem dX6_copyFrom_66 : decode cX6_copyFrom 66 = .ok (.getfield 24, 3) := by decide +kernel
theorem dX6_copyFrom_69 : decode cX6_copyFrom 69 = .ok (.iconst 0, 1) := by decide +kernel
theorem dX6_copyFrom_70 : decode cX6_copyFrom 70 = .ok (.bipush 6, 2) := by decide +kernel
theorem dX6_copyFrom_72 : decode cX6_copyFrom 72 = .ok (.invokestatic 43, 3) := by decide +kernel
theorem dX6_copyFrom_75 : decode cX6_copyFrom 75 = .ok (.aload_n 1, 1) := by decide +kernel
theorem dX6_copyFrom_76 : decode cX6_copyFrom 76 = .ok (.getfield 27, 3) := by decide +kernel
theorem dX6_copyFrom_79 : decode cX6_copyFrom 79 = .ok (.iconst 0, 1) := by decide +kernel
theorem dX6_copyFrom_80 : decode cX6_copyFrom 80 = .ok (.aload_n 0, 1) := by decide +kernel
theorem dX6_copyFrom_81 : decode cX6_copyFrom 81 = .ok (.getfield 27, 3) := by decide +kernel
theorem dX6_copyFrom_84 : decode cX6_copyFrom 84 = .ok (.iconst 0, 1) := by decide +kernel
theorem dX6_copyFrom_85 : decode cX6_copyFrom 85 = .ok (.iconst 3, 1) := by decide +kernel
theorem dX6_copyFrom_86 : decode cX6_copyFrom 86 = .ok (.invokestatic 43, 3) := by decide +kernel
theorem dX6_copyFrom_89 : decode cX6_copyFrom 89 = .ok (.aload_n 0, 1) := by decide +kernel
theorem dX6_copyFrom_90 : decode cX6_copyFrom 90 = .ok (.aload_n 1, 1) := by decide +kernel
theorem dX6_copyFrom_91 : decode cX6_copyFrom 91 = .ok (.getfield 36, 3) := by decide +kernel
theorem dX6_copyFrom_94 : decode cX6_copyFrom 94 = .ok (.putfield 36, 3) := by decide +kernel
theorem dX6_copyFrom_97 : decode cX6_copyFrom 97 = .ok (.aload_n 0, 1) := by decide +kernel
theorem dX6_copyFrom_98 : decode cX6_copyFrom 98 = .ok (.aload_n 1, 1) := by decide +kernel
theorem dX6_copyFrom_99 : decode cX6_copyFrom 99 = .ok (.getfield 40, 3) := by decide +kernel
theorem dX6_copyFrom_102 : decode cX6_copyFrom 102 = .ok (.putfield 40, 3) := by decide +kernel
theorem dX6_copyFrom_105 : decode cX6_copyFrom 105 = .ok (.return_, 1) := by decide +kernel
theorem dX7_init_0 : decode cX7_init 0 = .ok (.aload_n 0, 1) := by decide +kernel
theorem dX7_init_1 : decode cX7_init 1 = .ok (.invokespecial 3, 3) := by decide +kernel
theorem dX7_init_4 : decode cX7_init 4 = .ok (.aload_n 0, 1) := by decide +kernel
theorem dX7_init_5 : decode cX7_init 5 = .ok (.bipush 6, 2) := by decide +kernel
theorem dX7_init_7 : decode cX7_init 7 = .ok (.newarray .int, 2) := by decide +kernel
theorem dX7_init_9 : decode cX7_init 9 = .ok (.putfield 9, 3) := by decide +kernel
theorem dX7_init_12 : decode cX7_init 12 = .ok (.aload_n 0, 1) := by decide +kernel
theorem dX7_init_13 : decode cX7_init 13 = .ok (.bipush 6, 2) := by decide +kernel
theorem dX7_init_15 : decode cX7_init 15 = .ok (.newarray .int, 2) := by decide +kernel
theorem dX7_init_17 : decode cX7_init 17 = .ok (.putfield 15, 3) := by decide +kernel
theorem dX7_init_20 : decode cX7_init 20 = .ok (.aload_n 0, 1) := by decide +kernel
theorem dX7_init_21 : decode cX7_init 21 = .ok (.bipush 6, 2) := by decide +kernel
theorem dX7_init_23 : decode cX7_init 23 = .ok (.newarray .int, 2) := by decide +kernel
theorem dX7_init_25 : decode cX7_init 25 = .ok (.putfield 18, 3) := by decide +kernel
theorem dX7_init_28 : decode cX7_init 28 = .ok (.aload_n 0, 1) := by decide +kernel
theorem dX7_init_29 : decode cX7_init 29 = .ok (.bipush 6, 2) := by decide +kernel
theorem dX7_init_31 : decode cX7_init 31 = .ok (.newarray .int, 2) := by decide +kernel
theorem dX7_init_33 : decode cX7_init 33 = .ok (.putfield 21, 3) := by decide +kernel
theorem dX7_init_36 : decode cX7_init 36 = .ok (.aload_n 0, 1) := by decide +kernel
theorem dX7_init_37 : decode cX7_init 37 = .ok (.bipush 6, 2) := by decide +kernel
theorem dX7_init_39 : decode cX7_init 39 = .ok (.newarray .int, 2) := by decide +kernel
theorem dX7_init_41 : decode cX7_init 41 = .ok (.putfield 24, 3) := by decide +kernel
theorem dX7_init_44 : decode cX7_init 44 = .ok (.aload_n 0, 1) := by decide +kernel
theorem dX7_init_45 : decode cX7_init 45 = .ok (.bipush 6, 2) := by decide +kernel
theorem dX7_init_47 : decode cX7_init 47 = .ok (.newarray .int, 2) := by decide +kernel
theorem dX7_init_49 : decode cX7_init 49 = .ok (.putfield 27, 3) := by decide +kernel
theorem dX7_init_52 : decode cX7_init 52 = .ok (.aload_n 0, 1) := by decide +kernel
theorem dX7_init_53 : decode cX7_init 53 = .ok (.bipush 80, 2) := by decide +kernel
theorem dX7_init_55 : decode cX7_init 55 = .ok (.newarray .int, 2) := by decide +kernel
theorem dX7_init_57 : decode cX7_init 57 = .ok (.putfield 30, 3) := by decide +kernel
theorem dX7_init_60 : decode cX7_init 60 = .ok (.aload_n 0, 1) := by decide +kernel
theorem dX7_init_61 : decode cX7_init 61 = .ok (.getfield 18, 3) := by decide +kernel
theorem dX7_init_64 : decode cX7_init 64 = .ok (.iconst (-1), 1) := by decide +kernel
theorem dX7_init_65 : decode cX7_init 65 = .ok (.invokestatic 33, 3) := by decide +kernel
theorem dX7_init_68 : decode cX7_init 68 = .ok (.aload_n 0, 1) := by decide +kernel
theorem dX7_init_69 : decode cX7_init 69 = .ok (.getfield 24, 3) := by decide +kernel
theorem dX7_init_72 : decode cX7_init 72 = .ok (.iconst 1, 1) := by decide +kernel
theorem dX7_init_73 : decode cX7_init 73 = .ok (.invokestatic 33, 3) := by decide +kernel
theorem dX7_init_76 : decode cX7_init 76 = .ok (.aload_n 0, 1) := by decide +kernel
theorem dX7_init_77 : decode cX7_init 77 = .ok (.iconst (-1), 1) := by decide +kernel
theorem dX7_init_78 : decode cX7_init 78 = .ok (.iconst (-1), 1) := by decide +kernel
theorem dX7_init_79 : decode cX7_init 79 = .ok (.iconst (-1), 1) := by decide +kernel
theorem dX7_init_80 : decode cX7_init 80 = .ok (.invokevirtual 39, 3) := by decide +kernel
theorem dX7_init_83 : decode cX7_init 83 = .ok (.return_, 1) := by decide +kernel
theorem dX7_begin_0 : decode cX7_begin 0 = .ok (.aload_n 1, 1) := by decide +kernel
theorem dX7_begin_1 : decode cX7_begin 1 = .ok (.getfield 43, 3) := by decide +kernel
theorem dX7_begin_4 : decode cX7_begin 4 = .ok (.iconst 0, 1) := by decide +kernel
theorem dX7_begin_5 : decode cX7_begin 5 = .ok (.aload_n 0, 1) := by decide +kernel
theorem dX7_begin_6 : decode cX7_begin 6 = .ok (.getfield 9, 3) := by decide +kernel
theorem dX7_begin_9 : decode cX7_begin 9 = .ok (.iconst 0, 1) := by decide +kernel
theorem dX7_begin_10 : decode cX7_begin 10 = .ok (.bipush 6, 2) := by decide +kernel
theorem dX7_begin_12 : decode cX7_begin 12 = .ok (.invokestatic 46, 3) := by decide +kernel
theorem dX7_begin_15 : decode cX7_begin 15 = .ok (.aload_n 1, 1) := by decide +kernel
theorem dX7_begin_16 : decode cX7_begin 16 = .ok (.getfield 52, 3) := by decide +kernel
theorem dX7_begin_19 : decode cX7_begin 19 = .ok (.iconst 0, 1) := by decide +kernel
theorem dX7_begin_20 : decode cX7_begin 20 = .ok (.aload_n 0, 1) := by decide +kernel
theorem dX7_begin_21 : decode cX7_begin 21 = .ok (.getfield 15, 3) := by decide +kernel
theorem dX7_begin_24 : decode cX7_begin 24 = .ok (.iconst 0, 1) := by decide +kernel
theorem dX7_begin_25 : decode cX7_begin 25 = .ok (.bipush 6, 2) := by decide +kernel
theorem dX7_begin_27 : decode cX7_begin 27 = .ok (.invokestatic 46, 3) := by decide +kernel
theorem dX7_begin_30 : decode cX7_begin 30 = .ok (.aload_n 0, 1) := by decide +kernel
theorem dX7_begin_31 : decode cX7_begin 31 = .ok (.getfield 18, 3) := by decide +kernel
theorem dX7_begin_34 : decode cX7_begin 34 = .ok (.iconst (-1), 1) := by decide +kernel
theorem dX7_begin_35 : decode cX7_begin 35 = .ok (.invokestatic 33, 3) := by decide +kernel
theorem dX7_begin_38 : decode cX7_begin 38 = .ok (.aload_n 0, 1) := by decide +kernel
theorem dX7_begin_39 : decode cX7_begin 39 = .ok (.getfield 21, 3) := by decide +kernel
theorem dX7_begin_42 : decode cX7_begin 42 = .ok (.iconst 0, 1) := by decide +kernel
theorem dX7_begin_43 : decode cX7_begin 43 = .ok (.invokestatic 33, 3) := by decide +kernel
theorem dX7_begin_46 : decode cX7_begin 46 = .ok (.iconst 0, 1) := by decide +kernel
theorem dX7_begin_47 : decode cX7_begin 47 = .ok (.istore_n 2, 1) := by decide +kernel
theorem dX7_begin_48 : decode cX7_begin 48 = .ok (.iload_n 2, 1) := by decide +kernel
theorem dX7_begin_49 : decode cX7_begin 49 = .ok (.iconst 2, 1) := by decide +kernel
theorem dX7_begin_50 : decode cX7_begin 50 = .ok (.if_icmp .ge 25, 3) := by decide +kernel
theorem dX7_begin_53 : decode cX7_begin 53 = .ok (.aload_n 1, 1) := by decide +kernel
theorem dX7_begin_54 : decode cX7_begin 54 = .ok (.getfield 53, 3) := by decide +kernel
theorem dX7_begin_57 : decode cX7_begin 57 = .ok (.iconst 0, 1) := by decide +kernel
theorem dX7_begin_58 : decode cX7_begin 58 = .ok (.aload_n 0, 1) := by decide +kernel
theorem dX7_begin_59 : decode cX7_begin 59 = .ok (.getfield 24, 3) := by decide +kernel
theorem dX7_begin_62 : decode cX7_begin 62 = .ok (.iload_n 2, 1) := by decide +kernel
theorem dX7_begin_63 : decode cX7_begin 63 = .ok (.iconst 3, 1) := by decide +kernel
theorem dX7_begin_64 : decode cX7_begin 64 = .ok (.imul, 1) := by decide +kernel
theorem dX7_begin_65 : decode cX7_begin 65 = .ok (.iconst 3, 1) := by decide +kernel
theorem dX7_begin_66 : decode cX7_begin 66 = .ok (.invokestatic 46, 3) := by decide +kernel
theorem dX7_begin_69 : decode cX7_begin 69 = .ok (.iinc 2 1, 3) := by decide +kernel
theorem dX7_begin_72 : decode cX7_begin 72 = .ok (.goto (-24), 3) := by decide +kernel
theorem dX7_begin_75 : decode cX7_begin 75 = .ok (.aload_n 0, 1) := by decide +kernel
theorem dX7_begin_76 : decode cX7_begin 76 = .ok (.getfield 27, 3) := by decide +kernel
theorem dX7_begin_79 : decode cX7_begin 79 = .ok (.iconst 0, 1) := by decide +kernel
theorem dX7_begin_80 : decode cX7_begin 80 = .ok (.invokestatic 33, 3) := by decide +kernel
theorem dX7_begin_83 : decode cX7_begin 83 = .ok (.aload_n 0, 1) := by decide +kernel
theorem dX7_begin_84 : decode cX7_begin 84 = .ok (.aload_n 1, 1) := by decide +kernel
theorem dX7_begin_85 : decode cX7_begin 85 = .ok (.getfield 54, 3) := by decide +kernel
theorem dX7_begin_88 : decode cX7_begin 88 = .ok (.putfield 58, 3) := by decide +kernel
theorem dX7_begin_91 : decode cX7_begin 91 = .ok (.aload_n 0, 1) := by decide +kernel
theorem dX7_begin_92 : decode cX7_begin 92 = .ok (.iconst 0, 1) := by decide +kernel
theorem dX7_begin_93 : decode cX7_begin 93 = .ok (.putfield 61, 3) := by decide +kernel
theorem dX7_begin_96 : decode cX7_begin 96 = .ok (.aload_n 0, 1) := by decide +kernel
theorem dX7_begin_97 : decode cX7_begin 97 = .ok (.iconst (-1), 1) := by decide +kernel
theorem dX7_begin_98 : decode cX7_begin 98 = .ok (.iconst (-1), 1) := by decide +kernel
theorem dX7_begin_99 : decode cX7_begin 99 = .ok (.iconst (-1), 1) := by decide +kernel
theorem dX7_begin_100 : decode cX7_begin 100 = .ok (.invokevirtual 39, 3) := by decide +kernel
theorem dX7_begin_103 : decode cX7_begin 103 = .ok (.return_, 1) := by decide +kernel
theorem dX7_copyFrom_0 : decode cX7_copyFrom 0 = .ok (.aload_n 1, 1) := by decide +kernel
theorem dX7_copyFrom_1 : decode cX7_copyFrom 1 = .ok (.getfield 9, 3) := by decide +kernel
theorem dX7_copyFrom_4 : decode cX7_copyFrom 4 = .ok (.iconst 0, 1) := by decide +kernel
theorem dX7_copyFrom_5 : decode cX7_copyFrom 5 = .ok (.aload_n 0, 1) := by decide +kernel
theorem dX7_copyFrom_6 : decode cX7_copyFrom 6 = .ok (.getfield 9, 3) := by decide +kernel
theorem dX7_copyFrom_9 : decode cX7_copyFrom 9 = .ok (.iconst 0, 1) := by decide +kernel
theorem dX7_copyFrom_10 : decode cX7_copyFrom 10 = .ok (.bipush 6, 2) := by decide +kernel
theorem dX7_copyFrom_12 : decode cX7_copyFrom 12 = .ok (.invokestatic 46, 3) := by decide +kernel
theorem dX7_copyFrom_15 : decode cX7_copyFrom 15 = .ok (.aload_n 1, 1) := by decide +kernel
theorem dX7_copyFrom_16 : decode cX7_copyFrom 16 = .ok (.getfield 15, 3) := by decide +kernel
theorem dX7_copyFrom_19 : decode cX7_copyFrom 19 = .ok (.iconst 0, 1) := by decide +kernel
theorem dX7_copyFrom_20 : decode cX7_copyFrom 20 = .ok (.aload_n 0, 1) := by decide +kernel
theorem dX7_copyFrom_21 : decode cX7_copyFrom 21 = .ok (.getfield 15, 3) := by decide +kernel
theorem dX7_copyFrom_24 : decode cX7_copyFrom 24 = .ok (.iconst 0, 1) := by decide +kernel
theorem dX7_copyFrom_25 : decode cX7_copyFrom 25 = .ok (.bipush 6, 2) := by decide +kernel
theorem dX7_copyFrom_27 : decode cX7_copyFrom 27 = .ok (.invokestatic 46, 3) := by decide +kernel
theorem dX7_copyFrom_30 : decode cX7_copyFrom 30 = .ok (.aload_n 1, 1) := by decide +kernel
theorem dX7_copyFrom_31 : decode cX7_copyFrom 31 = .ok (.getfield 18, 3) := by decide +kernel
theorem dX7_copyFrom_34 : decode cX7_copyFrom 34 = .ok (.iconst 0, 1) := by decide +kernel
theorem dX7_copyFrom_35 : decode cX7_copyFrom 35 = .ok (.aload_n 0, 1) := by decide +kernel
theorem dX7_copyFrom_36 : decode cX7_copyFrom 36 = .ok (.getfield 18, 3) := by decide +kernel
theorem dX7_copyFrom_39 : decode cX7_copyFrom 39 = .ok (.iconst 0, 1) := by decide +kernel
theorem dX7_copyFrom_40 : decode cX7_copyFrom 40 = .ok (.bipush 6, 2) := by decide +kernel
theorem dX7_copyFrom_42 : decode cX7_copyFrom 42 = .ok (.invokestatic 46, 3) := by decide +kernel
theorem dX7_copyFrom_45 : decode cX7_copyFrom 45 = .ok (.aload_n 1, 1) := by decide +kernel
theorem dX7_copyFrom_46 : decode cX7_copyFrom 46 = .ok (.getfield 21, 3) := by decide +kernel
theorem dX7_copyFrom_49 : decode cX7_copyFrom 49 = .ok (.iconst 0, 1) := by decide +kernel
theorem dX7_copyFrom_50 : decode cX7_copyFrom 50 = .ok (.aload_n 0, 1) := by decide +kernel
theorem dX7_copyFrom_51 : decode cX7_copyFrom 51 = .ok (.getfield 21, 3) := by decide +kernel
theorem dX7_copyFrom_54 : decode cX7_copyFrom 54 = .ok (.iconst 0, 1) := by decide +kernel
theorem dX7_copyFrom_55 : decode cX7_copyFrom 55 = .ok (.bipush 6, 2) := by decide +kernel
theorem dX7_copyFrom_57 : decode cX7_copyFrom 57 = .ok (.invokestatic 46, 3) := by decide +kernel
theorem dX7_copyFrom_60 : decode cX7_copyFrom 60 = .ok (.aload_n 1, 1) := by decide +kernel
theorem dX7_copyFrom_61 : decode cX7_copyFrom 61 = .ok (.getfield 24, 3) := by decide +kernel
theorem dX7_copyFrom_64 : decode cX7_copyFrom 64 = .ok (.iconst 0, 1) := by decide +kernel
theorem dX7_copyFrom_65 : decode cX7_copyFrom 65 = .ok (.aload_n 0, 1) := by decide +kernel
theorem dX7_copyFrom_66 : decode cX7_copyFrom 66 = .ok (.getfield 24, 3) := by decide +kernel
theorem dX7_copyFrom_69 : decode cX7_copyFrom 69 = .ok (.iconst 0, 1) := by decide +kernel
theorem dX7_copyFrom_70 : decode cX7_copyFrom 70 = .ok (.bipush 6, 2) := by decide +kernel
theorem dX7_copyFrom_72 : decode cX7_copyFrom 72 = .ok (.invokestatic 46, 3) := by decide +kernel
theorem dX7_copyFrom_75 : decode cX7_copyFrom 75 = .ok (.aload_n 1, 1) := by decide +kernel
theorem dX7_copyFrom_76 : decode cX7_copyFrom 76 = .ok (.getfield 27, 3) := by decide +kernel
theorem dX7_copyFrom_79 : decode cX7_copyFrom 79 = .ok (.iconst 0, 1) := by decide +kernel
theorem dX7_copyFrom_80 : decode cX7_copyFrom 80 = .ok (.aload_n 0, 1) := by decide +kernel
theorem dX7_copyFrom_81 : decode cX7_copyFrom 81 = .ok (.getfield 27, 3) := by decide +kernel
theorem dX7_copyFrom_84 : decode cX7_copyFrom 84 = .ok (.iconst 0, 1) := by decide +kernel
theorem dX7_copyFrom_85 : decode cX7_copyFrom 85 = .ok (.bipush 6, 2) := by decide +kernel
theorem dX7_copyFrom_87 : decode cX7_copyFrom 87 = .ok (.invokestatic 46, 3) := by decide +kernel
theorem dX7_copyFrom_90 : decode cX7_copyFrom 90 = .ok (.aload_n 1, 1) := by decide +kernel
theorem dX7_copyFrom_91 : decode cX7_copyFrom 91 = .ok (.getfield 30, 3) := by decide +kernel
theorem dX7_copyFrom_94 : decode cX7_copyFrom 94 = .ok (.iconst 0, 1) := by decide +kernel
theorem dX7_copyFrom_95 : decode cX7_copyFrom 95 = .ok (.aload_n 0, 1) := by decide +kernel
theorem dX7_copyFrom_96 : decode cX7_copyFrom 96 = .ok (.getfield 30, 3) := by decide +kernel
theorem dX7_copyFrom_99 : decode cX7_copyFrom 99 = .ok (.iconst 0, 1) := by decide +kernel
theorem dX7_copyFrom_100 : decode cX7_copyFrom 100 = .ok (.bipush 80, 2) := by decide +kernel
theorem dX7_copyFrom_102 : decode cX7_copyFrom 102 = .ok (.invokestatic 46, 3) := by decide +kernel
theorem dX7_copyFrom_105 : decode cX7_copyFrom 105 = .ok (.aload_n 0, 1) := by decide +kernel
theorem dX7_copyFrom_106 : decode cX7_copyFrom 106 = .ok (.aload_n 1, 1) := by decide +kernel
theorem dX7_copyFrom_107 : decode cX7_copyFrom 107 = .ok (.getfield 58, 3) := by decide +kernel
theorem dX7_copyFrom_110 : decode cX7_copyFrom 110 = .ok (.putfield 58, 3) := by decide +kernel
theorem dX7_copyFrom_113 : decode cX7_copyFrom 113 = .ok (.aload_n 0, 1) := by decide +kernel
theorem dX7_copyFrom_114 : decode cX7_copyFrom 114 = .ok (.aload_n 1, 1) := by decide +kernel
theorem dX7_copyFrom_115 : decode cX7_copyFrom 115 = .ok (.getfield 61, 3) := by decide +kernel
theorem dX7_copyFrom_118 : decode cX7_copyFrom 118 = .ok (.putfield 61, 3) := by decide +kernel
theorem dX7_copyFrom_121 : decode cX7_copyFrom 121 = .ok (.aload_n 0, 1) := by decide +kernel
theorem dX7_copyFrom_122 : decode cX7_copyFrom 122 = .ok (.aload_n 1, 1) := by decide +kernel
theorem dX7_copyFrom_123 : decode cX7_copyFrom 123 = .ok (.getfield 64, 3) := by decide +kernel
theorem dX7_copyFrom_126 : decode cX7_copyFrom 126 = .ok (.aload_n 1, 1) := by decide +kernel
theorem dX7_copyFrom_127 : decode cX7_copyFrom 127 = .ok (.getfield 67, 3) := by decide +kernel
theorem dX7_copyFrom_130 : decode cX7_copyFrom 130 = .ok (.aload_n 1, 1) := by decide +kernel
theorem dX7_copyFrom_131 : decode cX7_copyFrom 131 = .ok (.getfield 70, 3) := by decide +kernel
theorem dX7_copyFrom_134 : decode cX7_copyFrom 134 = .ok (.invokevirtual 39, 3) := by decide +kernel
theorem dX7_copyFrom_137 : decode cX7_copyFrom 137 = .ok (.return_, 1) := by decide +kernel
theorem dX7_ban_0 : decode cX7_ban 0 = .ok (.aload_n 0, 1) := by decide +kernel
theorem dX7_ban_1 : decode cX7_ban 1 = .ok (.iload_n 1, 1) := by decide +kernel
theorem dX7_ban_2 : decode cX7_ban 2 = .ok (.putfield 64, 3) := by decide +kernel
theorem dX7_ban_5 : decode cX7_ban 5 = .ok (.aload_n 0, 1) := by decide +kernel
theorem dX7_ban_6 : decode cX7_ban 6 = .ok (.iload_n 2, 1) := by decide +kernel
theorem dX7_ban_7 : decode cX7_ban 7 = .ok (.putfield 67, 3) := by decide +kernel
theorem dX7_ban_10 : decode cX7_ban 10 = .ok (.aload_n 0, 1) := by decide +kernel
theorem dX7_ban_11 : decode cX7_ban 11 = .ok (.iload_n 3, 1) := by decide +kernel
theorem dX7_ban_12 : decode cX7_ban 12 = .ok (.putfield 70, 3) := by decide +kernel
theorem dX7_ban_15 : decode cX7_ban 15 = .ok (.return_, 1) := by decide +kernel
theorem dX7_isBanned_0 : decode cX7_isBanned 0 = .ok (.iload_n 1, 1) := by decide +kernel
theorem dX7_isBanned_1 : decode cX7_isBanned 1 = .ok (.aload_n 0, 1) := by decide +kernel
theorem dX7_isBanned_2 : decode cX7_isBanned 2 = .ok (.getfield 64, 3) := by decide +kernel
theorem dX7_isBanned_5 : decode cX7_isBanned 5 = .ok (.if_icmp .ne 23, 3) := by decide +kernel
theorem dX7_isBanned_8 : decode cX7_isBanned 8 = .ok (.iload_n 2, 1) := by decide +kernel
theorem dX7_isBanned_9 : decode cX7_isBanned 9 = .ok (.aload_n 0, 1) := by decide +kernel
theorem dX7_isBanned_10 : decode cX7_isBanned 10 = .ok (.getfield 67, 3) := by decide +kernel
theorem dX7_isBanned_13 : decode cX7_isBanned 13 = .ok (.if_icmp .ne 15, 3) := by decide +kernel
theorem dX7_isBanned_16 : decode cX7_isBanned 16 = .ok (.iload_n 3, 1) := by decide +kernel
theorem dX7_isBanned_17 : decode cX7_isBanned 17 = .ok (.aload_n 0, 1) := by decide +kernel
theorem dX7_isBanned_18 : decode cX7_isBanned 18 = .ok (.getfield 70, 3) := by decide +kernel
theorem dX7_isBanned_21 : decode cX7_isBanned 21 = .ok (.if_icmp .ne 7, 3) := by decide +kernel
theorem dX7_isBanned_24 : decode cX7_isBanned 24 = .ok (.iconst 1, 1) := by decide +kernel
theorem dX7_isBanned_25 : decode cX7_isBanned 25 = .ok (.goto 4, 3) := by decide +kernel
theorem dX7_isBanned_28 : decode cX7_isBanned 28 = .ok (.iconst 0, 1) := by decide +kernel
theorem dX7_isBanned_29 : decode cX7_isBanned 29 = .ok (.ireturn, 1) := by decide +kernel
theorem dX7_addToCount_0 : decode cX7_addToCount 0 = .ok (.aload_n 0, 1) := by decide +kernel
theorem dX7_addToCount_1 : decode cX7_addToCount 1 = .ok (.getfield 27, 3) := by decide +kernel
theorem dX7_addToCount_4 : decode cX7_addToCount 4 = .ok (.aload_n 0, 1) := by decide +kernel
theorem dX7_addToCount_5 : decode cX7_addToCount 5 = .ok (.getfield 58, 3) := by decide +kernel
theorem dX7_addToCount_8 : decode cX7_addToCount 8 = .ok (.iconst 3, 1) := by decide +kernel
theorem dX7_addToCount_9 : decode cX7_addToCount 9 = .ok (.imul, 1) := by decide +kernel
theorem dX7_addToCount_10 : decode cX7_addToCount 10 = .ok (.iload_n 1, 1) := by decide +kernel
theorem dX7_addToCount_11 : decode cX7_addToCount 11 = .ok (.iadd, 1) := by decide +kernel
theorem dX7_addToCount_12 : decode cX7_addToCount 12 = .ok (.dup2, 1) := by decide +kernel
theorem dX7_addToCount_13 : decode cX7_addToCount 13 = .ok (.iaload, 1) := by decide +kernel
theorem dX7_addToCount_14 : decode cX7_addToCount 14 = .ok (.iload_n 2, 1) := by decide +kernel
theorem dX7_addToCount_15 : decode cX7_addToCount 15 = .ok (.iadd, 1) := by decide +kernel
theorem dX7_addToCount_16 : decode cX7_addToCount 16 = .ok (.iastore, 1) := by decide +kernel
theorem dX7_addToCount_17 : decode cX7_addToCount 17 = .ok (.return_, 1) := by decide +kernel
theorem dX7_finishAct_0 : decode cX7_finishAct 0 = .ok (.aload_n 0, 1) := by decide +kernel
theorem dX7_finishAct_1 : decode cX7_finishAct 1 = .ok (.getfield 61, 3) := by decide +kernel
theorem dX7_finishAct_4 : decode cX7_finishAct 4 = .ok (.bipush 16, 2) := by decide +kernel
theorem dX7_finishAct_6 : decode cX7_finishAct 6 = .ok (.irem, 1) := by decide +kernel
theorem dX7_finishAct_7 : decode cX7_finishAct 7 = .ok (.iconst 5, 1) := by decide +kernel
theorem dX7_finishAct_8 : decode cX7_finishAct 8 = .ok (.imul, 1) := by decide +kernel
theorem dX7_finishAct_9 : decode cX7_finishAct 9 = .ok (.istore 5, 2) := by decide +kernel
theorem dX7_finishAct_11 : decode cX7_finishAct 11 = .ok (.aload_n 0, 1) := by decide +kernel
theorem dX7_finishAct_12 : decode cX7_finishAct 12 = .ok (.getfield 30, 3) := by decide +kernel
theorem dX7_finishAct_15 : decode cX7_finishAct 15 = .ok (.iload 5, 2) := by decide +kernel
theorem dX7_finishAct_17 : decode cX7_finishAct 17 = .ok (.iconst 0, 1) := by decide +kernel
theorem dX7_finishAct_18 : decode cX7_finishAct 18 = .ok (.iadd, 1) := by decide +kernel
theorem dX7_finishAct_19 : decode cX7_finishAct 19 = .ok (.iload_n 1, 1) := by decide +kernel
theorem dX7_finishAct_20 : decode cX7_finishAct 20 = .ok (.iastore, 1) := by decide +kernel
theorem dX7_finishAct_21 : decode cX7_finishAct 21 = .ok (.aload_n 0, 1) := by decide +kernel
theorem dX7_finishAct_22 : decode cX7_finishAct 22 = .ok (.getfield 30, 3) := by decide +kernel
theorem dX7_finishAct_25 : decode cX7_finishAct 25 = .ok (.iload 5, 2) := by decide +kernel
theorem dX7_finishAct_27 : decode cX7_finishAct 27 = .ok (.iconst 1, 1) := by decide +kernel
theorem dX7_finishAct_28 : decode cX7_finishAct 28 = .ok (.iadd, 1) := by decide +kernel
theorem dX7_finishAct_29 : decode cX7_finishAct 29 = .ok (.aload_n 0, 1) := by decide +kernel
theorem dX7_finishAct_30 : decode cX7_finishAct 30 = .ok (.getfield 58, 3) := by decide +kernel
theorem dX7_finishAct_33 : decode cX7_finishAct 33 = .ok (.iastore, 1) := by decide +kernel
theorem dX7_finishAct_34 : decode cX7_finishAct 34 = .ok (.aload_n 0, 1) := by decide +kernel
theorem dX7_finishAct_35 : decode cX7_finishAct 35 = .ok (.getfield 30, 3) := by decide +kernel
theorem dX7_finishAct_38 : decode cX7_finishAct 38 = .ok (.iload 5, 2) := by decide +kernel
theorem dX7_finishAct_40 : decode cX7_finishAct 40 = .ok (.iconst 2, 1) := by decide +kernel
theorem dX7_finishAct_41 : decode cX7_finishAct 41 = .ok (.iadd, 1) := by decide +kernel
theorem dX7_finishAct_42 : decode cX7_finishAct 42 = .ok (.iload_n 2, 1) := by decide +kernel
theorem dX7_finishAct_43 : decode cX7_finishAct 43 = .ok (.iastore, 1) := by decide +kernel
theorem dX7_finishAct_44 : decode cX7_finishAct 44 = .ok (.aload_n 0, 1) := by decide +kernel
theorem dX7_finishAct_45 : decode cX7_finishAct 45 = .ok (.getfield 30, 3) := by decide +kernel
theorem dX7_finishAct_48 : decode cX7_finishAct 48 = .ok (.iload 5, 2) := by decide +kernel
theorem dX7_finishAct_50 : decode cX7_finishAct 50 = .ok (.iconst 3, 1) := by decide +kernel
theorem dX7_finishAct_51 : decode cX7_finishAct 51 = .ok (.iadd, 1) := by decide +kernel
theorem dX7_finishAct_52 : decode cX7_finishAct 52 = .ok (.iload_n 3, 1) := by decide +kernel
theorem dX7_finishAct_53 : decode cX7_finishAct 53 = .ok (.iastore, 1) := by decide +kernel
theorem dX7_finishAct_54 : decode cX7_finishAct 54 = .ok (.aload_n 0, 1) := by decide +kernel
theorem dX7_finishAct_55 : decode cX7_finishAct 55 = .ok (.getfield 30, 3) := by decide +kernel
theorem dX7_finishAct_58 : decode cX7_finishAct 58 = .ok (.iload 5, 2) := by decide +kernel
theorem dX7_finishAct_60 : decode cX7_finishAct 60 = .ok (.iconst 4, 1) := by decide +kernel
theorem dX7_finishAct_61 : decode cX7_finishAct 61 = .ok (.iadd, 1) := by decide +kernel
theorem dX7_finishAct_62 : decode cX7_finishAct 62 = .ok (.iload 4, 2) := by decide +kernel
theorem dX7_finishAct_64 : decode cX7_finishAct 64 = .ok (.iastore, 1) := by decide +kernel
theorem dX7_finishAct_65 : decode cX7_finishAct 65 = .ok (.aload_n 0, 1) := by decide +kernel
theorem dX7_finishAct_66 : decode cX7_finishAct 66 = .ok (.dup, 1) := by decide +kernel
theorem dX7_finishAct_67 : decode cX7_finishAct 67 = .ok (.getfield 61, 3) := by decide +kernel
theorem dX7_finishAct_70 : decode cX7_finishAct 70 = .ok (.iconst 1, 1) := by decide +kernel
theorem dX7_finishAct_71 : decode cX7_finishAct 71 = .ok (.iadd, 1) := by decide +kernel
theorem dX7_finishAct_72 : decode cX7_finishAct 72 = .ok (.putfield 61, 3) := by decide +kernel
theorem dX7_finishAct_75 : decode cX7_finishAct 75 = .ok (.aload_n 0, 1) := by decide +kernel
theorem dX7_finishAct_76 : decode cX7_finishAct 76 = .ok (.invokevirtual 79, 3) := by decide +kernel
theorem dX7_finishAct_79 : decode cX7_finishAct 79 = .ok (.aload_n 0, 1) := by decide +kernel
theorem dX7_finishAct_80 : decode cX7_finishAct 80 = .ok (.iconst (-1), 1) := by decide +kernel
theorem dX7_finishAct_81 : decode cX7_finishAct 81 = .ok (.iconst (-1), 1) := by decide +kernel
theorem dX7_finishAct_82 : decode cX7_finishAct 82 = .ok (.iconst (-1), 1) := by decide +kernel
theorem dX7_finishAct_83 : decode cX7_finishAct 83 = .ok (.invokevirtual 39, 3) := by decide +kernel
theorem dX7_finishAct_86 : decode cX7_finishAct 86 = .ok (.aload_n 0, 1) := by decide +kernel
theorem dX7_finishAct_87 : decode cX7_finishAct 87 = .ok (.iconst 1, 1) := by decide +kernel
theorem dX7_finishAct_88 : decode cX7_finishAct 88 = .ok (.aload_n 0, 1) := by decide +kernel
theorem dX7_finishAct_89 : decode cX7_finishAct 89 = .ok (.getfield 58, 3) := by decide +kernel
theorem dX7_finishAct_92 : decode cX7_finishAct 92 = .ok (.isub, 1) := by decide +kernel
theorem dX7_finishAct_93 : decode cX7_finishAct 93 = .ok (.putfield 58, 3) := by decide +kernel
theorem dX7_finishAct_96 : decode cX7_finishAct 96 = .ok (.return_, 1) := by decide +kernel
theorem dX7_shortenClaims_0 : decode cX7_shortenClaims 0 = .ok (.iconst 0, 1) := by decide +kernel
theorem dX7_shortenClaims_1 : decode cX7_shortenClaims 1 = .ok (.istore_n 1, 1) := by decide +kernel
theorem dX7_shortenClaims_2 : decode cX7_shortenClaims 2 = .ok (.iload_n 1, 1) := by decide +kernel
theorem dX7_shortenClaims_3 : decode cX7_shortenClaims 3 = .ok (.bipush 6, 2) := by decide +kernel
theorem dX7_shortenClaims_5 : decode cX7_shortenClaims 5 = .ok (.if_icmp .ge 44, 3) := by decide +kernel
theorem dX7_shortenClaims_8 : decode cX7_shortenClaims 8 = .ok (.aload_n 0, 1) := by decide +kernel
theorem dX7_shortenClaims_9 : decode cX7_shortenClaims 9 = .ok (.getfield 21, 3) := by decide +kernel
theorem dX7_shortenClaims_12 : decode cX7_shortenClaims 12 = .ok (.iload_n 1, 1) := by decide +kernel
theorem dX7_shortenClaims_13 : decode cX7_shortenClaims 13 = .ok (.iaload, 1) := by decide +kernel
theorem dX7_shortenClaims_14 : decode cX7_shortenClaims 14 = .ok (.ifCond .le 13, 3) := by decide +kernel
theorem dX7_shortenClaims_17 : decode cX7_shortenClaims 17 = .ok (.aload_n 0, 1) := by decide +kernel
theorem dX7_shortenClaims_18 : decode cX7_shortenClaims 18 = .ok (.getfield 21, 3) := by decide +kernel
theorem dX7_shortenClaims_21 : decode cX7_shortenClaims 21 = .ok (.iload_n 1, 1) := by decide +kernel
theorem dX7_shortenClaims_22 : decode cX7_shortenClaims 22 = .ok (.dup2, 1) := by decide +kernel
theorem dX7_shortenClaims_23 : decode cX7_shortenClaims 23 = .ok (.iaload, 1) := by decide +kernel
theorem dX7_shortenClaims_24 : decode cX7_shortenClaims 24 = .ok (.iconst 1, 1) := by decide +kernel
theorem dX7_shortenClaims_25 : decode cX7_shortenClaims 25 = .ok (.isub, 1) := by decide +kernel
theorem dX7_shortenClaims_26 : decode cX7_shortenClaims 26 = .ok (.iastore, 1) := by decide +kernel
theorem dX7_shortenClaims_27 : decode cX7_shortenClaims 27 = .ok (.aload_n 0, 1) := by decide +kernel
theorem dX7_shortenClaims_28 : decode cX7_shortenClaims 28 = .ok (.getfield 21, 3) := by decide +kernel
theorem dX7_shortenClaims_31 : decode cX7_shortenClaims 31 = .ok (.iload_n 1, 1) := by decide +kernel
theorem dX7_shortenClaims_32 : decode cX7_shortenClaims 32 = .ok (.iaload, 1) := by decide +kernel
theorem dX7_shortenClaims_33 : decode cX7_shortenClaims 33 = .ok (.ifCond .ne 10, 3) := by decide +kernel
theorem dX7_shortenClaims_36 : decode cX7_shortenClaims 36 = .ok (.aload_n 0, 1) := by decide +kernel
theorem dX7_shortenClaims_37 : decode cX7_shortenClaims 37 = .ok (.getfield 18, 3) := by decide +kernel
theorem dX7_shortenClaims_40 : decode cX7_shortenClaims 40 = .ok (.iload_n 1, 1) := by decide +kernel
theorem dX7_shortenClaims_41 : decode cX7_shortenClaims 41 = .ok (.iconst (-1), 1) := by decide +kernel
theorem dX7_shortenClaims_42 : decode cX7_shortenClaims 42 = .ok (.iastore, 1) := by decide +kernel
theorem dX7_shortenClaims_43 : decode cX7_shortenClaims 43 = .ok (.iinc 1 1, 3) := by decide +kernel
theorem dX7_shortenClaims_46 : decode cX7_shortenClaims 46 = .ok (.goto (-44), 3) := by decide +kernel
theorem dX7_shortenClaims_49 : decode cX7_shortenClaims 49 = .ok (.return_, 1) := by decide +kernel
theorem dX8_init_0 : decode cX8_init 0 = .ok (.aload_n 0, 1) := by decide +kernel
theorem dX8_init_1 : decode cX8_init 1 = .ok (.invokespecial 3, 3) := by decide +kernel
theorem dX8_init_4 : decode cX8_init 4 = .ok (.aload_n 0, 1) := by decide +kernel
theorem dX8_init_5 : decode cX8_init 5 = .ok (.new 9, 3) := by decide +kernel
theorem dX8_init_8 : decode cX8_init 8 = .ok (.dup, 1) := by decide +kernel
theorem dX8_init_9 : decode cX8_init 9 = .ok (.invokespecial 11, 3) := by decide +kernel
theorem dX8_init_12 : decode cX8_init 12 = .ok (.putfield 12, 3) := by decide +kernel
theorem dX8_init_15 : decode cX8_init 15 = .ok (.aload_n 0, 1) := by decide +kernel
theorem dX8_init_16 : decode cX8_init 16 = .ok (.new 16, 3) := by decide +kernel
theorem dX8_init_19 : decode cX8_init 19 = .ok (.dup, 1) := by decide +kernel
theorem dX8_init_20 : decode cX8_init 20 = .ok (.invokespecial 18, 3) := by decide +kernel
theorem dX8_init_23 : decode cX8_init 23 = .ok (.putfield 19, 3) := by decide +kernel
theorem dX8_init_26 : decode cX8_init 26 = .ok (.aload_n 0, 1) := by decide +kernel
theorem dX8_init_27 : decode cX8_init 27 = .ok (.new 23, 3) := by decide +kernel
theorem dX8_init_30 : decode cX8_init 30 = .ok (.dup, 1) := by decide +kernel
theorem dX8_init_31 : decode cX8_init 31 = .ok (.invokespecial 25, 3) := by decide +kernel
theorem dX8_init_34 : decode cX8_init 34 = .ok (.putfield 26, 3) := by decide +kernel
theorem dX8_init_37 : decode cX8_init 37 = .ok (.return_, 1) := by decide +kernel
theorem dX8_append_0 : decode cX8_append 0 = .ok (.aload_n 0, 1) := by decide +kernel
theorem dX8_append_1 : decode cX8_append 1 = .ok (.getfield 12, 3) := by decide +kernel
theorem dX8_append_4 : decode cX8_append 4 = .ok (.getfield 30, 3) := by decide +kernel
theorem dX8_append_7 : decode cX8_append 7 = .ok (.bipush 20, 2) := by decide +kernel
theorem dX8_append_9 : decode cX8_append 9 = .ok (.iadd, 1) := by decide +kernel
theorem dX8_append_10 : decode cX8_append 10 = .ok (.sipush 400, 3) := by decide +kernel
theorem dX8_append_13 : decode cX8_append 13 = .ok (.if_icmp .le 5, 3) := by decide +kernel
theorem dX8_append_16 : decode cX8_append 16 = .ok (.iconst (-1), 1) := by decide +kernel
theorem dX8_append_17 : decode cX8_append 17 = .ok (.ireturn, 1) := by decide +kernel
theorem dX8_append_18 : decode cX8_append 18 = .ok (.aload_n 0, 1) := by decide +kernel
theorem dX8_append_19 : decode cX8_append 19 = .ok (.getfield 12, 3) := by decide +kernel
theorem dX8_append_22 : decode cX8_append 22 = .ok (.iload_n 1, 1) := by decide +kernel
theorem dX8_append_23 : decode cX8_append 23 = .ok (.invokevirtual 34, 3) := by decide +kernel
theorem dX8_append_26 : decode cX8_append 26 = .ok (.aload_n 0, 1) := by decide +kernel
theorem dX8_append_27 : decode cX8_append 27 = .ok (.getfield 12, 3) := by decide +kernel
theorem dX8_append_30 : decode cX8_append 30 = .ok (.iload_n 2, 1) := by decide +kernel
theorem dX8_append_31 : decode cX8_append 31 = .ok (.invokevirtual 34, 3) := by decide +kernel
theorem dX8_append_34 : decode cX8_append 34 = .ok (.aload_n 0, 1) := by decide +kernel
theorem dX8_append_35 : decode cX8_append 35 = .ok (.getfield 12, 3) := by decide +kernel
theorem dX8_append_38 : decode cX8_append 38 = .ok (.iload_n 3, 1) := by decide +kernel
theorem dX8_append_39 : decode cX8_append 39 = .ok (.invokevirtual 34, 3) := by decide +kernel
theorem dX8_append_42 : decode cX8_append 42 = .ok (.aload_n 0, 1) := by decide +kernel
theorem dX8_append_43 : decode cX8_append 43 = .ok (.getfield 12, 3) := by decide +kernel
theorem dX8_append_46 : decode cX8_append 46 = .ok (.iload 4, 2) := by decide +kernel
theorem dX8_append_48 : decode cX8_append 48 = .ok (.invokevirtual 34, 3) := by decide +kernel
theorem dX8_append_51 : decode cX8_append 51 = .ok (.aload_n 0, 1) := by decide +kernel
theorem dX8_append_52 : decode cX8_append 52 = .ok (.getfield 12, 3) := by decide +kernel
theorem dX8_append_55 : decode cX8_append 55 = .ok (.iload 5, 2) := by decide +kernel
theorem dX8_append_57 : decode cX8_append 57 = .ok (.invokevirtual 34, 3) := by decide +kernel
theorem dX8_append_60 : decode cX8_append 60 = .ok (.aload_n 0, 1) := by decide +kernel
theorem dX8_append_61 : decode cX8_append 61 = .ok (.getfield 12, 3) := by decide +kernel
theorem dX8_append_64 : decode cX8_append 64 = .ok (.getfield 30, 3) := by decide +kernel
theorem dX8_append_67 : decode cX8_append 67 = .ok (.ireturn, 1) := by decide +kernel
theorem dX8_parse_0 : decode cX8_parse 0 = .ok (.iload_n 1, 1) := by decide +kernel
theorem dX8_parse_1 : decode cX8_parse 1 = .ok (.ifCond .lt 14, 3) := by decide +kernel
theorem dX8_parse_4 : decode cX8_parse 4 = .ok (.iload_n 1, 1) := by decide +kernel
theorem dX8_parse_5 : decode cX8_parse 5 = .ok (.aload_n 0, 1) := by decide +kernel
theorem dX8_parse_6 : decode cX8_parse 6 = .ok (.getfield 12, 3) := by decide +kernel
theorem dX8_parse_9 : decode cX8_parse 9 = .ok (.getfield 30, 3) := by decide +kernel
theorem dX8_parse_12 : decode cX8_parse 12 = .ok (.if_icmp .le 13, 3) := by decide +kernel
theorem dX8_parse_15 : decode cX8_parse 15 = .ok (.new 38, 3) := by decide +kernel
theorem dX8_parse_18 : decode cX8_parse 18 = .ok (.dup, 1) := by decide +kernel
theorem dX8_parse_19 : decode cX8_parse 19 = .ok (.ldc 40, 2) := by decide +kernel
theorem dX8_parse_21 : decode cX8_parse 21 = .ok (.invokespecial 42, 3) := by decide +kernel
theorem dX8_parse_24 : decode cX8_parse 24 = .ok (.athrow, 1) := by decide +kernel
theorem dX8_parse_25 : decode cX8_parse 25 = .ok (.aload_n 0, 1) := by decide +kernel
theorem dX8_parse_26 : decode cX8_parse 26 = .ok (.getfield 12, 3) := by decide +kernel
theorem dX8_parse_29 : decode cX8_parse 29 = .ok (.iload_n 1, 1) := by decide +kernel
theorem dX8_parse_30 : decode cX8_parse 30 = .ok (.invokevirtual 45, 3) := by decide +kernel
theorem dX8_parse_33 : decode cX8_parse 33 = .ok (.istore_n 2, 1) := by decide +kernel
theorem dX8_parse_34 : decode cX8_parse 34 = .ok (.iload_n 2, 1) := by decide +kernel
theorem dX8_parse_35 : decode cX8_parse 35 = .ok (.ifCond .eq 8, 3) := by decide +kernel
theorem dX8_parse_38 : decode cX8_parse 38 = .ok (.bipush (-2), 2) := by decide +kernel
theorem dX8_parse_40 : decode cX8_parse 40 = .ok (.iload_n 2, 1) := by decide +kernel
theorem dX8_parse_41 : decode cX8_parse 41 = .ok (.isub, 1) := by decide +kernel
theorem dX8_parse_42 : decode cX8_parse 42 = .ok (.ireturn, 1) := by decide +kernel
theorem dX8_parse_43 : decode cX8_parse 43 = .ok (.aload_n 0, 1) := by decide +kernel
theorem dX8_parse_44 : decode cX8_parse 44 = .ok (.getfield 19, 3) := by decide +kernel
theorem dX8_parse_47 : decode cX8_parse 47 = .ok (.aload_n 0, 1) := by decide +kernel
theorem dX8_parse_48 : decode cX8_parse 48 = .ok (.getfield 12, 3) := by decide +kernel
theorem dX8_parse_51 : decode cX8_parse 51 = .ok (.getfield 49, 3) := by decide +kernel
theorem dX8_parse_54 : decode cX8_parse 54 = .ok (.invokevirtual 53, 3) := by decide +kernel
theorem dX8_parse_57 : decode cX8_parse 57 = .ok (.aload_n 0, 1) := by decide +kernel
theorem dX8_parse_58 : decode cX8_parse 58 = .ok (.getfield 26, 3) := by decide +kernel
theorem dX8_parse_61 : decode cX8_parse 61 = .ok (.invokevirtual 57, 3) := by decide +kernel
theorem dX8_parse_64 : decode cX8_parse 64 = .ok (.aload_n 0, 1) := by decide +kernel
theorem dX8_parse_65 : decode cX8_parse 65 = .ok (.getfield 19, 3) := by decide +kernel
theorem dX8_parse_68 : decode cX8_parse 68 = .ok (.getfield 60, 3) := by decide +kernel
theorem dX8_parse_71 : decode cX8_parse 71 = .ok (.getfield 63, 3) := by decide +kernel
theorem dX8_parse_74 : decode cX8_parse 74 = .ok (.ireturn, 1) := by decide +kernel
theorem dX8_size_0 : decode cX8_size 0 = .ok (.iload_n 1, 1) := by decide +kernel
theorem dX8_size_1 : decode cX8_size 1 = .ok (.iconst 5, 1) := by decide +kernel
theorem dX8_size_2 : decode cX8_size 2 = .ok (.invokestatic 68, 3) := by decide +kernel
theorem dX8_size_5 : decode cX8_size 5 = .ok (.iload_n 1, 1) := by decide +kernel
theorem dX8_size_6 : decode cX8_size 6 = .ok (.tableswitch 110 0 4 #[34, 45, 56, 67, 83], 34) := by decide +kernel
theorem dX8_size_40 : decode cX8_size 40 = .ok (.aload_n 0, 1) := by decide +kernel
theorem dX8_size_41 : decode cX8_size 41 = .ok (.getfield 19, 3) := by decide +kernel
theorem dX8_size_44 : decode cX8_size 44 = .ok (.getfield 60, 3) := by decide +kernel
theorem dX8_size_47 : decode cX8_size 47 = .ok (.getfield 63, 3) := by decide +kernel
theorem dX8_size_50 : decode cX8_size 50 = .ok (.ireturn, 1) := by decide +kernel
theorem dX8_size_51 : decode cX8_size 51 = .ok (.aload_n 0, 1) := by decide +kernel
theorem dX8_size_52 : decode cX8_size 52 = .ok (.getfield 19, 3) := by decide +kernel
theorem dX8_size_55 : decode cX8_size 55 = .ok (.getfield 72, 3) := by decide +kernel
theorem dX8_size_58 : decode cX8_size 58 = .ok (.getfield 76, 3) := by decide +kernel
theorem dX8_size_61 : decode cX8_size 61 = .ok (.ireturn, 1) := by decide +kernel
theorem dX8_size_62 : decode cX8_size 62 = .ok (.aload_n 0, 1) := by decide +kernel
theorem dX8_size_63 : decode cX8_size 63 = .ok (.getfield 19, 3) := by decide +kernel
theorem dX8_size_66 : decode cX8_size 66 = .ok (.getfield 72, 3) := by decide +kernel
theorem dX8_size_69 : decode cX8_size 69 = .ok (.getfield 81, 3) := by decide +kernel
theorem dX8_size_72 : decode cX8_size 72 = .ok (.ireturn, 1) := by decide +kernel
theorem dX8_size_73 : decode cX8_size 73 = .ok (.aload_n 0, 1) := by decide +kernel
theorem dX8_size_74 : decode cX8_size 74 = .ok (.getfield 19, 3) := by decide +kernel
theorem dX8_size_77 : decode cX8_size 77 = .ok (.invokevirtual 84, 3) := by decide +kernel
theorem dX8_size_80 : decode cX8_size 80 = .ok (.ifCond .eq 7, 3) := by decide +kernel
theorem dX8_size_83 : decode cX8_size 83 = .ok (.iconst 1, 1) := by decide +kernel
theorem dX8_size_84 : decode cX8_size 84 = .ok (.goto 4, 3) := by decide +kernel
theorem dX8_size_87 : decode cX8_size 87 = .ok (.iconst 0, 1) := by decide +kernel
theorem dX8_size_88 : decode cX8_size 88 = .ok (.ireturn, 1) := by decide +kernel
theorem dX8_size_89 : decode cX8_size 89 = .ok (.aload_n 0, 1) := by decide +kernel
theorem dX8_size_90 : decode cX8_size 90 = .ok (.getfield 19, 3) := by decide +kernel
theorem dX8_size_93 : decode cX8_size 93 = .ok (.invokevirtual 84, 3) := by decide +kernel
theorem dX8_size_96 : decode cX8_size 96 = .ok (.ifCond .eq 18, 3) := by decide +kernel
theorem dX8_size_99 : decode cX8_size 99 = .ok (.iconst 1, 1) := by decide +kernel
theorem dX8_size_100 : decode cX8_size 100 = .ok (.aload_n 0, 1) := by decide +kernel
theorem dX8_size_101 : decode cX8_size 101 = .ok (.getfield 19, 3) := by decide +kernel
theorem dX8_size_104 : decode cX8_size 104 = .ok (.getfield 72, 3) := by decide +kernel
theorem dX8_size_107 : decode cX8_size 107 = .ok (.getfield 76, 3) := by decide +kernel
theorem dX8_size_110 : decode cX8_size 110 = .ok (.isub, 1) := by decide +kernel
theorem dX8_size_111 : decode cX8_size 111 = .ok (.goto 4, 3) := by decide +kernel
theorem dX8_size_114 : decode cX8_size 114 = .ok (.iconst (-1), 1) := by decide +kernel
theorem dX8_size_115 : decode cX8_size 115 = .ok (.ireturn, 1) := by decide +kernel
theorem dX8_size_116 : decode cX8_size 116 = .ok (.aload_n 0, 1) := by decide +kernel
theorem dX8_size_117 : decode cX8_size 117 = .ok (.getfield 26, 3) := by decide +kernel
theorem dX8_size_120 : decode cX8_size 120 = .ok (.getfield 88, 3) := by decide +kernel
theorem dX8_size_123 : decode cX8_size 123 = .ok (.ireturn, 1) := by decide +kernel
theorem dX8_ladder_0 : decode cX8_ladder 0 = .ok (.aload_n 0, 1) := by decide +kernel
theorem dX8_ladder_1 : decode cX8_ladder 1 = .ok (.iload_n 1, 1) := by decide +kernel
theorem dX8_ladder_2 : decode cX8_ladder 2 = .ok (.invokevirtual 91, 3) := by decide +kernel
theorem dX8_ladder_5 : decode cX8_ladder 5 = .ok (.iload_n 2, 1) := by decide +kernel
theorem dX8_ladder_6 : decode cX8_ladder 6 = .ok (.iconst 5, 1) := by decide +kernel
theorem dX8_ladder_7 : decode cX8_ladder 7 = .ok (.invokestatic 68, 3) := by decide +kernel
theorem dX8_ladder_10 : decode cX8_ladder 10 = .ok (.iload_n 2, 1) := by decide +kernel
theorem dX8_ladder_11 : decode cX8_ladder 11 = .ok (.tableswitch 110 0 4 #[33, 46, 59, 88, 97], 33) := by decide +kernel
theorem dX8_ladder_44 : decode cX8_ladder 44 = .ok (.aload_n 0, 1) := by decide +kernel
theorem dX8_ladder_45 : decode cX8_ladder 45 = .ok (.getfield 19, 3) := by decide +kernel
theorem dX8_ladder_48 : decode cX8_ladder 48 = .ok (.getfield 60, 3) := by decide +kernel
theorem dX8_ladder_51 : decode cX8_ladder 51 = .ok (.getfield 94, 3) := by decide +kernel
theorem dX8_ladder_54 : decode cX8_ladder 54 = .ok (.iload_n 1, 1) := by decide +kernel
theorem dX8_ladder_55 : decode cX8_ladder 55 = .ok (.iaload, 1) := by decide +kernel
theorem dX8_ladder_56 : decode cX8_ladder 56 = .ok (.ireturn, 1) := by decide +kernel
theorem dX8_ladder_57 : decode cX8_ladder 57 = .ok (.aload_n 0, 1) := by decide +kernel
theorem dX8_ladder_58 : decode cX8_ladder 58 = .ok (.getfield 19, 3) := by decide +kernel
theorem dX8_ladder_61 : decode cX8_ladder 61 = .ok (.getfield 60, 3) := by decide +kernel
theorem dX8_ladder_64 : decode cX8_ladder 64 = .ok (.getfield 98, 3) := by decide +kernel
theorem dX8_ladder_67 : decode cX8_ladder 67 = .ok (.iload_n 1, 1) := by decide +kernel
theorem dX8_ladder_68 : decode cX8_ladder 68 = .ok (.iaload, 1) := by decide +kernel
theorem dX8_ladder_69 : decode cX8_ladder 69 = .ok (.ireturn, 1) := by decide +kernel
theorem dX8_ladder_70 : decode cX8_ladder 70 = .ok (.aload_n 0, 1) := by decide +kernel
theorem dX8_ladder_71 : decode cX8_ladder 71 = .ok (.getfield 19, 3) := by decide +kernel
theorem dX8_ladder_74 : decode cX8_ladder 74 = .ok (.getfield 60, 3) := by decide +kernel
theorem dX8_ladder_77 : decode cX8_ladder 77 = .ok (.getfield 98, 3) := by decide +kernel
theorem dX8_ladder_80 : decode cX8_ladder 80 = .ok (.iload_n 1, 1) := by decide +kernel
theorem dX8_ladder_81 : decode cX8_ladder 81 = .ok (.iaload, 1) := by decide +kernel
theorem dX8_ladder_82 : decode cX8_ladder 82 = .ok (.aload_n 0, 1) := by decide +kernel
theorem dX8_ladder_83 : decode cX8_ladder 83 = .ok (.getfield 19, 3) := by decide +kernel
theorem dX8_ladder_86 : decode cX8_ladder 86 = .ok (.getfield 72, 3) := by decide +kernel
theorem dX8_ladder_89 : decode cX8_ladder 89 = .ok (.getfield 101, 3) := by decide +kernel
theorem dX8_ladder_92 : decode cX8_ladder 92 = .ok (.iload_n 1, 1) := by decide +kernel
theorem dX8_ladder_93 : decode cX8_ladder 93 = .ok (.iaload, 1) := by decide +kernel
theorem dX8_ladder_94 : decode cX8_ladder 94 = .ok (.invokestatic 104, 3) := by decide +kernel
theorem dX8_ladder_97 : decode cX8_ladder 97 = .ok (.isub, 1) := by decide +kernel
theorem dX8_ladder_98 : decode cX8_ladder 98 = .ok (.ireturn, 1) := by decide +kernel
theorem dX8_ladder_99 : decode cX8_ladder 99 = .ok (.aload_n 0, 1) := by decide +kernel
theorem dX8_ladder_100 : decode cX8_ladder 100 = .ok (.getfield 19, 3) := by decide +kernel
theorem dX8_ladder_103 : decode cX8_ladder 103 = .ok (.iload_n 1, 1) := by decide +kernel
theorem dX8_ladder_104 : decode cX8_ladder 104 = .ok (.invokevirtual 109, 3) := by decide +kernel
theorem dX8_ladder_107 : decode cX8_ladder 107 = .ok (.ireturn, 1) := by decide +kernel
theorem dX8_ladder_108 : decode cX8_ladder 108 = .ok (.aload_n 0, 1) := by decide +kernel
theorem dX8_ladder_109 : decode cX8_ladder 109 = .ok (.getfield 19, 3) := by decide +kernel
theorem dX8_ladder_112 : decode cX8_ladder 112 = .ok (.getfield 72, 3) := by decide +kernel
theorem dX8_ladder_115 : decode cX8_ladder 115 = .ok (.getfield 112, 3) := by decide +kernel
theorem dX8_ladder_118 : decode cX8_ladder 118 = .ok (.iload_n 1, 1) := by decide +kernel
theorem dX8_ladder_119 : decode cX8_ladder 119 = .ok (.iaload, 1) := by decide +kernel
theorem dX8_ladder_120 : decode cX8_ladder 120 = .ok (.ireturn, 1) := by decide +kernel
theorem dX8_ladder_121 : decode cX8_ladder 121 = .ok (.aload_n 0, 1) := by decide +kernel
theorem dX8_ladder_122 : decode cX8_ladder 122 = .ok (.getfield 19, 3) := by decide +kernel
theorem dX8_ladder_125 : decode cX8_ladder 125 = .ok (.getfield 72, 3) := by decide +kernel
theorem dX8_ladder_128 : decode cX8_ladder 128 = .ok (.getfield 115, 3) := by decide +kernel
theorem dX8_ladder_131 : decode cX8_ladder 131 = .ok (.iload_n 1, 1) := by decide +kernel
theorem dX8_ladder_132 : decode cX8_ladder 132 = .ok (.iaload, 1) := by decide +kernel
theorem dX8_ladder_133 : decode cX8_ladder 133 = .ok (.ireturn, 1) := by decide +kernel
theorem dX8_set_0 : decode cX8_set 0 = .ok (.aload_n 0, 1) := by decide +kernel
theorem dX8_set_1 : decode cX8_set 1 = .ok (.iload_n 1, 1) := by decide +kernel
theorem dX8_set_2 : decode cX8_set 2 = .ok (.invokevirtual 91, 3) := by decide +kernel
theorem dX8_set_5 : decode cX8_set 5 = .ok (.iload_n 2, 1) := by decide +kernel
theorem dX8_set_6 : decode cX8_set 6 = .ok (.iconst 2, 1) := by decide +kernel
theorem dX8_set_7 : decode cX8_set 7 = .ok (.invokestatic 68, 3) := by decide +kernel
theorem dX8_set_10 : decode cX8_set 10 = .ok (.iload_n 2, 1) := by decide +kernel
theorem dX8_set_11 : decode cX8_set 11 = .ok (.lookupswitch 51 #[(0, 25), (1, 38)], 25) := by decide +kernel
theorem dX8_set_36 : decode cX8_set 36 = .ok (.aload_n 0, 1) := by decide +kernel
theorem dX8_set_37 : decode cX8_set 37 = .ok (.getfield 19, 3) := by decide +kernel
theorem dX8_set_40 : decode cX8_set 40 = .ok (.getfield 72, 3) := by decide +kernel
theorem dX8_set_43 : decode cX8_set 43 = .ok (.getfield 101, 3) := by decide +kernel
theorem dX8_set_46 : decode cX8_set 46 = .ok (.iload_n 1, 1) := by decide +kernel
theorem dX8_set_47 : decode cX8_set 47 = .ok (.iaload, 1) := by decide +kernel
theorem dX8_set_48 : decode cX8_set 48 = .ok (.ireturn, 1) := by decide +kernel
theorem dX8_set_49 : decode cX8_set 49 = .ok (.aload_n 0, 1) := by decide +kernel
theorem dX8_set_50 : decode cX8_set 50 = .ok (.getfield 19, 3) := by decide +kernel
theorem dX8_set_53 : decode cX8_set 53 = .ok (.getfield 72, 3) := by decide +kernel
theorem dX8_set_56 : decode cX8_set 56 = .ok (.getfield 118, 3) := by decide +kernel
theorem dX8_set_59 : decode cX8_set 59 = .ok (.iload_n 1, 1) := by decide +kernel
theorem dX8_set_60 : decode cX8_set 60 = .ok (.iaload, 1) := by decide +kernel
theorem dX8_set_61 : decode cX8_set 61 = .ok (.ireturn, 1) := by decide +kernel
theorem dX8_set_62 : decode cX8_set 62 = .ok (.aload_n 0, 1) := by decide +kernel
theorem dX8_set_63 : decode cX8_set 63 = .ok (.getfield 19, 3) := by decide +kernel
theorem dX8_set_66 : decode cX8_set 66 = .ok (.getfield 60, 3) := by decide +kernel
theorem dX8_set_69 : decode cX8_set 69 = .ok (.getfield 121, 3) := by decide +kernel
theorem dX8_set_72 : decode cX8_set 72 = .ok (.iload_n 1, 1) := by decide +kernel
theorem dX8_set_73 : decode cX8_set 73 = .ok (.iaload, 1) := by decide +kernel
theorem dX8_set_74 : decode cX8_set 74 = .ok (.ireturn, 1) := by decide +kernel
theorem dX8_valueOf_0 : decode cX8_valueOf 0 = .ok (.aload_n 0, 1) := by decide +kernel
theorem dX8_valueOf_1 : decode cX8_valueOf 1 = .ok (.iload_n 1, 1) := by decide +kernel
theorem dX8_valueOf_2 : decode cX8_valueOf 2 = .ok (.invokevirtual 91, 3) := by decide +kernel
theorem dX8_valueOf_5 : decode cX8_valueOf 5 = .ok (.iconst 2, 1) := by decide +kernel
theorem dX8_valueOf_6 : decode cX8_valueOf 6 = .ok (.aload_n 0, 1) := by decide +kernel
theorem dX8_valueOf_7 : decode cX8_valueOf 7 = .ok (.getfield 19, 3) := by decide +kernel
theorem dX8_valueOf_10 : decode cX8_valueOf 10 = .ok (.getfield 60, 3) := by decide +kernel
theorem dX8_valueOf_13 : decode cX8_valueOf 13 = .ok (.getfield 94, 3) := by decide +kernel
theorem dX8_valueOf_16 : decode cX8_valueOf 16 = .ok (.iload_n 1, 1) := by decide +kernel
theorem dX8_valueOf_17 : decode cX8_valueOf 17 = .ok (.iaload, 1) := by decide +kernel
theorem dX8_valueOf_18 : decode cX8_valueOf 18 = .ok (.ishl, 1) := by decide +kernel
theorem dX8_valueOf_19 : decode cX8_valueOf 19 = .ok (.iconst 2, 1) := by decide +kernel
theorem dX8_valueOf_20 : decode cX8_valueOf 20 = .ok (.isub, 1) := by decide +kernel
theorem dX8_valueOf_21 : decode cX8_valueOf 21 = .ok (.istore_n 3, 1) := by decide +kernel
theorem dX8_valueOf_22 : decode cX8_valueOf 22 = .ok (.iload_n 2, 1) := by decide +kernel
theorem dX8_valueOf_23 : decode cX8_valueOf 23 = .ok (.iload_n 3, 1) := by decide +kernel
theorem dX8_valueOf_24 : decode cX8_valueOf 24 = .ok (.iconst (-1), 1) := by decide +kernel
theorem dX8_valueOf_25 : decode cX8_valueOf 25 = .ok (.ixor, 1) := by decide +kernel
theorem dX8_valueOf_26 : decode cX8_valueOf 26 = .ok (.iand, 1) := by decide +kernel
theorem dX8_valueOf_27 : decode cX8_valueOf 27 = .ok (.ifCond .ne 22, 3) := by decide +kernel
theorem dX8_valueOf_30 : decode cX8_valueOf 30 = .ok (.iload_n 2, 1) := by decide +kernel
theorem dX8_valueOf_31 : decode cX8_valueOf 31 = .ok (.invokestatic 104, 3) := by decide +kernel
theorem dX8_valueOf_34 : decode cX8_valueOf 34 = .ok (.aload_n 0, 1) := by decide +kernel
theorem dX8_valueOf_35 : decode cX8_valueOf 35 = .ok (.getfield 19, 3) := by decide +kernel
theorem dX8_valueOf_38 : decode cX8_valueOf 38 = .ok (.getfield 60, 3) := by decide +kernel
theorem dX8_valueOf_41 : decode cX8_valueOf 41 = .ok (.getfield 98, 3) := by decide +kernel
theorem dX8_valueOf_44 : decode cX8_valueOf 44 = .ok (.iload_n 1, 1) := by decide +kernel
theorem dX8_valueOf_45 : decode cX8_valueOf 45 = .ok (.iaload, 1) := by decide +kernel
theorem dX8_valueOf_46 : decode cX8_valueOf 46 = .ok (.if_icmp .le 13, 3) := by decide +kernel
theorem dX8_valueOf_49 : decode cX8_valueOf 49 = .ok (.new 38, 3) := by decide +kernel
theorem dX8_valueOf_52 : decode cX8_valueOf 52 = .ok (.dup, 1) := by decide +kernel
theorem dX8_valueOf_53 : decode cX8_valueOf 53 = .ok (.ldc 139, 2) := by decide +kernel
theorem dX8_valueOf_55 : decode cX8_valueOf 55 = .ok (.invokespecial 42, 3) := by decide +kernel
theorem dX8_valueOf_58 : decode cX8_valueOf 58 = .ok (.athrow, 1) := by decide +kernel
theorem dX8_valueOf_59 : decode cX8_valueOf 59 = .ok (.aload_n 0, 1) := by decide +kernel
theorem dX8_valueOf_60 : decode cX8_valueOf 60 = .ok (.getfield 19, 3) := by decide +kernel
theorem dX8_valueOf_63 : decode cX8_valueOf 63 = .ok (.iload_n 1, 1) := by decide +kernel
theorem dX8_valueOf_64 : decode cX8_valueOf 64 = .ok (.iload_n 2, 1) := by decide +kernel
theorem dX8_valueOf_65 : decode cX8_valueOf 65 = .ok (.invokevirtual 141, 3) := by decide +kernel
theorem dX8_valueOf_68 : decode cX8_valueOf 68 = .ok (.ireturn, 1) := by decide +kernel
theorem dX8_sum_0 : decode cX8_sum 0 = .ok (.aload_n 0, 1) := by decide +kernel
theorem dX8_sum_1 : decode cX8_sum 1 = .ok (.getfield 19, 3) := by decide +kernel
theorem dX8_sum_4 : decode cX8_sum 4 = .ok (.invokevirtual 144, 3) := by decide +kernel
theorem dX8_sum_7 : decode cX8_sum 7 = .ok (.ireturn, 1) := by decide +kernel
theorem dX8_stepsOn_0 : decode cX8_stepsOn 0 = .ok (.aload_n 0, 1) := by decide +kernel
theorem dX8_stepsOn_1 : decode cX8_stepsOn 1 = .ok (.iload_n 1, 1) := by decide +kernel
theorem dX8_stepsOn_2 : decode cX8_stepsOn 2 = .ok (.invokevirtual 91, 3) := by decide +kernel
theorem dX8_stepsOn_5 : decode cX8_stepsOn 5 = .ok (.aload_n 0, 1) := by decide +kernel
theorem dX8_stepsOn_6 : decode cX8_stepsOn 6 = .ok (.getfield 19, 3) := by decide +kernel
theorem dX8_stepsOn_9 : decode cX8_stepsOn 9 = .ok (.iload_n 1, 1) := by decide +kernel
theorem dX8_stepsOn_10 : decode cX8_stepsOn 10 = .ok (.invokevirtual 148, 3) := by decide +kernel
theorem dX8_stepsOn_13 : decode cX8_stepsOn 13 = .ok (.ireturn, 1) := by decide +kernel
theorem dX8_longest_0 : decode cX8_longest 0 = .ok (.aload_n 0, 1) := by decide +kernel
theorem dX8_longest_1 : decode cX8_longest 1 = .ok (.iload_n 1, 1) := by decide +kernel
theorem dX8_longest_2 : decode cX8_longest 2 = .ok (.invokevirtual 91, 3) := by decide +kernel
theorem dX8_longest_5 : decode cX8_longest 5 = .ok (.aload_n 0, 1) := by decide +kernel
theorem dX8_longest_6 : decode cX8_longest 6 = .ok (.getfield 19, 3) := by decide +kernel
theorem dX8_longest_9 : decode cX8_longest 9 = .ok (.iload_n 1, 1) := by decide +kernel
theorem dX8_longest_10 : decode cX8_longest 10 = .ok (.invokevirtual 151, 3) := by decide +kernel
theorem dX8_longest_13 : decode cX8_longest 13 = .ok (.aload_n 0, 1) := by decide +kernel
theorem dX8_longest_14 : decode cX8_longest 14 = .ok (.getfield 19, 3) := by decide +kernel
theorem dX8_longest_17 : decode cX8_longest 17 = .ok (.getfield 154, 3) := by decide +kernel
theorem dX8_longest_20 : decode cX8_longest 20 = .ok (.invokevirtual 158, 3) := by decide +kernel
theorem dX8_longest_23 : decode cX8_longest 23 = .ok (.ireturn, 1) := by decide +kernel
theorem dX8_positions_0 : decode cX8_positions 0 = .ok (.aload_n 0, 1) := by decide +kernel
theorem dX8_positions_1 : decode cX8_positions 1 = .ok (.iload_n 1, 1) := by decide +kernel
theorem dX8_positions_2 : decode cX8_positions 2 = .ok (.invokevirtual 91, 3) := by decide +kernel
theorem dX8_positions_5 : decode cX8_positions 5 = .ok (.aload_n 0, 1) := by decide +kernel
theorem dX8_positions_6 : decode cX8_positions 6 = .ok (.getfield 19, 3) := by decide +kernel
theorem dX8_positions_9 : decode cX8_positions 9 = .ok (.iload_n 1, 1) := by decide +kernel
theorem dX8_positions_10 : decode cX8_positions 10 = .ok (.invokevirtual 151, 3) := by decide +kernel
theorem dX8_positions_13 : decode cX8_positions 13 = .ok (.aload_n 0, 1) := by decide +kernel
theorem dX8_positions_14 : decode cX8_positions 14 = .ok (.getfield 19, 3) := by decide +kernel
theorem dX8_positions_17 : decode cX8_positions 17 = .ok (.getfield 154, 3) := by decide +kernel
theorem dX8_positions_20 : decode cX8_positions 20 = .ok (.invokevirtual 163, 3) := by decide +kernel
theorem dX8_positions_23 : decode cX8_positions 23 = .ok (.ireturn, 1) := by decide +kernel
theorem dX8_meanValue_0 : decode cX8_meanValue 0 = .ok (.aload_n 0, 1) := by decide +kernel
theorem dX8_meanValue_1 : decode cX8_meanValue 1 = .ok (.iload_n 1, 1) := by decide +kernel
theorem dX8_meanValue_2 : decode cX8_meanValue 2 = .ok (.invokevirtual 91, 3) := by decide +kernel
theorem dX8_meanValue_5 : decode cX8_meanValue 5 = .ok (.aload_n 0, 1) := by decide +kernel
theorem dX8_meanValue_6 : decode cX8_meanValue 6 = .ok (.getfield 19, 3) := by decide +kernel
theorem dX8_meanValue_9 : decode cX8_meanValue 9 = .ok (.iload_n 1, 1) := by decide +kernel
theorem dX8_meanValue_10 : decode cX8_meanValue 10 = .ok (.invokevirtual 151, 3) := by decide +kernel
theorem dX8_meanValue_13 : decode cX8_meanValue 13 = .ok (.aload_n 0, 1) := by decide +kernel
theorem dX8_meanValue_14 : decode cX8_meanValue 14 = .ok (.getfield 19, 3) := by decide +kernel
theorem dX8_meanValue_17 : decode cX8_meanValue 17 = .ok (.iload_n 1, 1) := by decide +kernel
theorem dX8_meanValue_18 : decode cX8_meanValue 18 = .ok (.invokevirtual 166, 3) := by decide +kernel
theorem dX8_meanValue_21 : decode cX8_meanValue 21 = .ok (.i2d, 1) := by decide +kernel
theorem dX8_meanValue_22 : decode cX8_meanValue 22 = .ok (.dstore_n 2, 1) := by decide +kernel
theorem dX8_meanValue_23 : decode cX8_meanValue 23 = .ok (.aload_n 0, 1) := by decide +kernel
theorem dX8_meanValue_24 : decode cX8_meanValue 24 = .ok (.getfield 19, 3) := by decide +kernel
theorem dX8_meanValue_27 : decode cX8_meanValue 27 = .ok (.getfield 154, 3) := by decide +kernel
theorem dX8_meanValue_30 : decode cX8_meanValue 30 = .ok (.invokevirtual 163, 3) := by decide +kernel
theorem dX8_meanValue_33 : decode cX8_meanValue 33 = .ok (.istore 4, 2) := by decide +kernel
theorem dX8_meanValue_35 : decode cX8_meanValue 35 = .ok (.iload 4, 2) := by decide +kernel
theorem dX8_meanValue_37 : decode cX8_meanValue 37 = .ok (.ifCond .ne 7, 3) := by decide +kernel
theorem dX8_meanValue_40 : decode cX8_meanValue 40 = .ok (.dconst 0, 1) := by decide +kernel
theorem dX8_meanValue_41 : decode cX8_meanValue 41 = .ok (.goto 8, 3) := by decide +kernel
theorem dX8_meanValue_44 : decode cX8_meanValue 44 = .ok (.dload_n 2, 1) := by decide +kernel
theorem dX8_meanValue_45 : decode cX8_meanValue 45 = .ok (.iload 4, 2) := by decide +kernel
theorem dX8_meanValue_47 : decode cX8_meanValue 47 = .ok (.i2d, 1) := by decide +kernel
theorem dX8_meanValue_48 : decode cX8_meanValue 48 = .ok (.ddiv, 1) := by decide +kernel
theorem dX8_meanValue_49 : decode cX8_meanValue 49 = .ok (.dreturn, 1) := by decide +kernel
theorem dX8_isRight_0 : decode cX8_isRight 0 = .ok (.iconst 1, 1) := by decide +kernel
theorem dX8_isRight_1 : decode cX8_isRight 1 = .ok (.istore_n 1, 1) := by decide +kernel
theorem dX8_isRight_2 : decode cX8_isRight 2 = .ok (.iconst 0, 1) := by decide +kernel
theorem dX8_isRight_3 : decode cX8_isRight 3 = .ok (.istore_n 2, 1) := by decide +kernel
theorem dX8_isRight_4 : decode cX8_isRight 4 = .ok (.iload_n 2, 1) := by decide +kernel
theorem dX8_isRight_5 : decode cX8_isRight 5 = .ok (.aload_n 0, 1) := by decide +kernel
theorem dX8_isRight_6 : decode cX8_isRight 6 = .ok (.getfield 19, 3) := by decide +kernel
theorem dX8_isRight_9 : decode cX8_isRight 9 = .ok (.getfield 60, 3) := by decide +kernel
theorem dX8_isRight_12 : decode cX8_isRight 12 = .ok (.getfield 63, 3) := by decide +kernel
theorem dX8_isRight_15 : decode cX8_isRight 15 = .ok (.if_icmp .ge 30, 3) := by decide +kernel
theorem dX8_isRight_18 : decode cX8_isRight 18 = .ok (.iload_n 1, 1) := by decide +kernel
theorem dX8_isRight_19 : decode cX8_isRight 19 = .ok (.ifCond .eq 18, 3) := by decide +kernel
theorem dX8_isRight_22 : decode cX8_isRight 22 = .ok (.aload_n 0, 1) := by decide +kernel
theorem dX8_isRight_23 : decode cX8_isRight 23 = .ok (.getfield 19, 3) := by decide +kernel
theorem dX8_isRight_26 : decode cX8_isRight 26 = .ok (.iload_n 2, 1) := by decide +kernel
theorem dX8_isRight_27 : decode cX8_isRight 27 = .ok (.invokevirtual 169, 3) := by decide +kernel
theorem dX8_isRight_30 : decode cX8_isRight 30 = .ok (.ifCond .eq 7, 3) := by decide +kernel
theorem dX8_isRight_33 : decode cX8_isRight 33 = .ok (.iconst 1, 1) := by decide +kernel
theorem dX8_isRight_34 : decode cX8_isRight 34 = .ok (.goto 4, 3) := by decide +kernel
theorem dX8_isRight_37 : decode cX8_isRight 37 = .ok (.iconst 0, 1) := by decide +kernel
theorem dX8_isRight_38 : decode cX8_isRight 38 = .ok (.istore_n 1, 1) := by decide +kernel
theorem dX8_isRight_39 : decode cX8_isRight 39 = .ok (.iinc 2 1, 3) := by decide +kernel
theorem dX8_isRight_42 : decode cX8_isRight 42 = .ok (.goto (-38), 3) := by decide +kernel
theorem dX8_isRight_45 : decode cX8_isRight 45 = .ok (.iload_n 1, 1) := by decide +kernel
theorem dX8_isRight_46 : decode cX8_isRight 46 = .ok (.ireturn, 1) := by decide +kernel
theorem dX8_allowed_0 : decode cX8_allowed 0 = .ok (.aload_n 0, 1) := by decide +kernel
theorem dX8_allowed_1 : decode cX8_allowed 1 = .ok (.getfield 19, 3) := by decide +kernel
theorem dX8_allowed_4 : decode cX8_allowed 4 = .ok (.invokevirtual 173, 3) := by decide +kernel
theorem dX8_allowed_7 : decode cX8_allowed 7 = .ok (.ireturn, 1) := by decide +kernel
theorem dX8_best_0 : decode cX8_best 0 = .ok (.aload_n 0, 1) := by decide +kernel
theorem dX8_best_1 : decode cX8_best 1 = .ok (.getfield 19, 3) := by decide +kernel
theorem dX8_best_4 : decode cX8_best 4 = .ok (.aload_n 0, 1) := by decide +kernel
theorem dX8_best_5 : decode cX8_best 5 = .ok (.getfield 19, 3) := by decide +kernel
theorem dX8_best_8 : decode cX8_best 8 = .ok (.invokevirtual 173, 3) := by decide +kernel
theorem dX8_best_11 : decode cX8_best 11 = .ok (.aload_n 0, 1) := by decide +kernel
theorem dX8_best_12 : decode cX8_best 12 = .ok (.getfield 19, 3) := by decide +kernel
theorem dX8_best_15 : decode cX8_best 15 = .ok (.invokevirtual 144, 3) := by decide +kernel
theorem dX8_best_18 : decode cX8_best 18 = .ok (.invokevirtual 193, 3) := by decide +kernel
theorem dX8_best_21 : decode cX8_best 21 = .ok (.ireturn, 1) := by decide +kernel
theorem dX8_pass_0 : decode cX8_pass 0 = .ok (.aload_n 0, 1) := by decide +kernel
theorem dX8_pass_1 : decode cX8_pass 1 = .ok (.getfield 19, 3) := by decide +kernel
theorem dX8_pass_4 : decode cX8_pass 4 = .ok (.invokevirtual 84, 3) := by decide +kernel
theorem dX8_pass_7 : decode cX8_pass 7 = .ok (.ifCond .ne 13, 3) := by decide +kernel
theorem dX8_pass_10 : decode cX8_pass 10 = .ok (.aload_n 0, 1) := by decide +kernel
theorem dX8_pass_11 : decode cX8_pass 11 = .ok (.getfield 19, 3) := by decide +kernel
theorem dX8_pass_14 : decode cX8_pass 14 = .ok (.invokevirtual 173, 3) := by decide +kernel
theorem dX8_pass_17 : decode cX8_pass 17 = .ok (.ifCond .le 13, 3) := by decide +kernel
theorem dX8_pass_20 : decode cX8_pass 20 = .ok (.new 241, 3) := by decide +kernel
theorem dX8_pass_23 : decode cX8_pass 23 = .ok (.dup, 1) := by decide +kernel
theorem dX8_pass_24 : decode cX8_pass 24 = .ok (.ldc 249, 2) := by decide +kernel
theorem dX8_pass_26 : decode cX8_pass 26 = .ok (.invokespecial 245, 3) := by decide +kernel
theorem dX8_pass_29 : decode cX8_pass 29 = .ok (.athrow, 1) := by decide +kernel
theorem dX8_pass_30 : decode cX8_pass 30 = .ok (.aload_n 0, 1) := by decide +kernel
theorem dX8_pass_31 : decode cX8_pass 31 = .ok (.getfield 26, 3) := by decide +kernel
theorem dX8_pass_34 : decode cX8_pass 34 = .ok (.aload_n 0, 1) := by decide +kernel
theorem dX8_pass_35 : decode cX8_pass 35 = .ok (.getfield 19, 3) := by decide +kernel
theorem dX8_pass_38 : decode cX8_pass 38 = .ok (.getfield 72, 3) := by decide +kernel
theorem dX8_pass_41 : decode cX8_pass 41 = .ok (.invokevirtual 214, 3) := by decide +kernel
theorem dX8_pass_44 : decode cX8_pass 44 = .ok (.aload_n 0, 1) := by decide +kernel
theorem dX8_pass_45 : decode cX8_pass 45 = .ok (.getfield 19, 3) := by decide +kernel
theorem dX8_pass_48 : decode cX8_pass 48 = .ok (.invokevirtual 251, 3) := by decide +kernel
theorem dX8_pass_51 : decode cX8_pass 51 = .ok (.aload_n 0, 1) := by decide +kernel
theorem dX8_pass_52 : decode cX8_pass 52 = .ok (.getfield 19, 3) := by decide +kernel
theorem dX8_pass_55 : decode cX8_pass 55 = .ok (.getfield 72, 3) := by decide +kernel
theorem dX8_pass_58 : decode cX8_pass 58 = .ok (.getfield 76, 3) := by decide +kernel
theorem dX8_pass_61 : decode cX8_pass 61 = .ok (.ireturn, 1) := by decide +kernel
theorem dX8_play_0 : decode cX8_play 0 = .ok (.iload_n 1, 1) := by decide +kernel
theorem dX8_play_1 : decode cX8_play 1 = .ok (.iconst 1, 1) := by decide +kernel
theorem dX8_play_2 : decode cX8_play 2 = .ok (.if_icmp .lt 9, 3) := by decide +kernel
theorem dX8_play_5 : decode cX8_play 5 = .ok (.iload_n 1, 1) := by decide +kernel
theorem dX8_play_6 : decode cX8_play 6 = .ok (.bipush 60, 2) := by decide +kernel
theorem dX8_play_8 : decode cX8_play 8 = .ok (.if_icmp .le 13, 3) := by decide +kernel
theorem dX8_play_11 : decode cX8_play 11 = .ok (.new 38, 3) := by decide +kernel
theorem dX8_play_14 : decode cX8_play 14 = .ok (.dup, 1) := by decide +kernel
theorem dX8_play_15 : decode cX8_play 15 = .ok (.ldc 254, 2) := by decide +kernel
theorem dX8_play_17 : decode cX8_play 17 = .ok (.invokespecial 42, 3) := by decide +kernel
theorem dX8_play_20 : decode cX8_play 20 = .ok (.athrow, 1) := by decide +kernel
theorem dX8_play_21 : decode cX8_play 21 = .ok (.aload_n 0, 1) := by decide +kernel
theorem dX8_play_22 : decode cX8_play 22 = .ok (.getfield 26, 3) := by decide +kernel
theorem dX8_play_25 : decode cX8_play 25 = .ok (.aload_n 0, 1) := by decide +kernel
theorem dX8_play_26 : decode cX8_play 26 = .ok (.getfield 19, 3) := by decide +kernel
theorem dX8_play_29 : decode cX8_play 29 = .ok (.getfield 72, 3) := by decide +kernel
theorem dX8_play_32 : decode cX8_play 32 = .ok (.invokevirtual 214, 3) := by decide +kernel
theorem dX8_play_35 : decode cX8_play 35 = .ok (.iconst 0, 1) := by decide +kernel
theorem dX8_play_36 : decode cX8_play 36 = .ok (.istore_n 2, 1) := by decide +kernel
theorem dX8_play_37 : decode cX8_play 37 = .ok (.iload_n 2, 1) := by decide +kernel
theorem dX8_play_38 : decode cX8_play 38 = .ok (.iload_n 1, 1) := by decide +kernel
theorem dX8_play_39 : decode cX8_play 39 = .ok (.if_icmp .ge 50, 3) := by decide +kernel
theorem dX8_play_42 : decode cX8_play 42 = .ok (.aload_n 0, 1) := by decide +kernel
theorem dX8_play_43 : decode cX8_play 43 = .ok (.getfield 19, 3) := by decide +kernel
theorem dX8_play_46 : decode cX8_play 46 = .ok (.invokevirtual 84, 3) := by decide +kernel
theorem dX8_play_49 : decode cX8_play 49 = .ok (.ifCond .ne 40, 3) := by decide +kernel
theorem dX8_play_52 : decode cX8_play 52 = .ok (.aload_n 0, 1) := by decide +kernel
theorem dX8_play_53 : decode cX8_play 53 = .ok (.getfield 19, 3) := by decide +kernel
theorem dX8_play_56 : decode cX8_play 56 = .ok (.invokevirtual 173, 3) := by decide +kernel
theorem dX8_play_59 : decode cX8_play 59 = .ok (.istore_n 3, 1) := by decide +kernel
theorem dX8_play_60 : decode cX8_play 60 = .ok (.aload_n 0, 1) := by decide +kernel
theorem dX8_play_61 : decode cX8_play 61 = .ok (.getfield 19, 3) := by decide +kernel
theorem dX8_play_64 : decode cX8_play 64 = .ok (.iload_n 3, 1) := by decide +kernel
theorem dX8_play_65 : decode cX8_play 65 = .ok (.aload_n 0, 1) := by decide +kernel
theorem dX8_play_66 : decode cX8_play 66 = .ok (.getfield 19, 3) := by decide +kernel
theorem dX8_play_69 : decode cX8_play 69 = .ok (.iload_n 3, 1) := by decide +kernel
theorem dX8_play_70 : decode cX8_play 70 = .ok (.aload_n 0, 1) := by decide +kernel
theorem dX8_play_71 : decode cX8_play 71 = .ok (.getfield 19, 3) := by decide +kernel
theorem dX8_play_74 : decode cX8_play 74 = .ok (.invokevirtual 144, 3) := by decide +kernel
theorem dX8_play_77 : decode cX8_play 77 = .ok (.invokevirtual 193, 3) := by decide +kernel
theorem dX8_play_80 : decode cX8_play 80 = .ok (.invokevirtual 256, 3) := by decide +kernel
theorem dX8_play_83 : decode cX8_play 83 = .ok (.iinc 2 1, 3) := by decide +kernel
theorem dX8_play_86 : decode cX8_play 86 = .ok (.goto (-49), 3) := by decide +kernel
theorem dX8_play_89 : decode cX8_play 89 = .ok (.iload_n 2, 1) := by decide +kernel
theorem dX8_play_90 : decode cX8_play 90 = .ok (.ireturn, 1) := by decide +kernel
theorem dX8_undo_0 : decode cX8_undo 0 = .ok (.aload_n 0, 1) := by decide +kernel
theorem dX8_undo_1 : decode cX8_undo 1 = .ok (.getfield 26, 3) := by decide +kernel
theorem dX8_undo_4 : decode cX8_undo 4 = .ok (.aload_n 0, 1) := by decide +kernel
theorem dX8_undo_5 : decode cX8_undo 5 = .ok (.getfield 19, 3) := by decide +kernel
theorem dX8_undo_8 : decode cX8_undo 8 = .ok (.getfield 72, 3) := by decide +kernel
theorem dX8_undo_11 : decode cX8_undo 11 = .ok (.invokevirtual 259, 3) := by decide +kernel
theorem dX8_undo_14 : decode cX8_undo 14 = .ok (.ireturn, 1) := by decide +kernel
theorem dX8_checkLadder_0 : decode cX8_checkLadder 0 = .ok (.aload_n 0, 1) := by decide +kernel
theorem dX8_checkLadder_1 : decode cX8_checkLadder 1 = .ok (.getfield 19, 3) := by decide +kernel
theorem dX8_checkLadder_4 : decode cX8_checkLadder 4 = .ok (.getfield 60, 3) := by decide +kernel
theorem dX8_checkLadder_7 : decode cX8_checkLadder 7 = .ok (.iload_n 1, 1) := by decide +kernel
theorem dX8_checkLadder_8 : decode cX8_checkLadder 8 = .ok (.invokevirtual 270, 3) := by decide +kernel
theorem dX8_checkLadder_11 : decode cX8_checkLadder 11 = .ok (.ifCond .ne 14, 3) := by decide +kernel
theorem dX8_checkLadder_14 : decode cX8_checkLadder 14 = .ok (.new 124, 3) := by decide +kernel
theorem dX8_checkLadder_17 : decode cX8_checkLadder 17 = .ok (.dup, 1) := by decide +kernel
theorem dX8_checkLadder_18 : decode cX8_checkLadder 18 = .ok (.ldc_w 273, 3) := by decide +kernel
theorem dX8_checkLadder_21 : decode cX8_checkLadder 21 = .ok (.invokespecial 128, 3) := by decide +kernel
theorem dX8_checkLadder_24 : decode cX8_checkLadder 24 = .ok (.athrow, 1) := by decide +kernel
theorem dX8_checkLadder_25 : decode cX8_checkLadder 25 = .ok (.return_, 1) := by decide +kernel
theorem dX8_checkWhat_0 : decode cX8_checkWhat 0 = .ok (.iload_n 0, 1) := by decide +kernel
theorem dX8_checkWhat_1 : decode cX8_checkWhat 1 = .ok (.ifCond .lt 8, 3) := by decide +kernel
theorem dX8_checkWhat_4 : decode cX8_checkWhat 4 = .ok (.iload_n 0, 1) := by decide +kernel
theorem dX8_checkWhat_5 : decode cX8_checkWhat 5 = .ok (.iload_n 1, 1) := by decide +kernel
theorem dX8_checkWhat_6 : decode cX8_checkWhat 6 = .ok (.if_icmp .le 14, 3) := by decide +kernel
theorem dX8_checkWhat_9 : decode cX8_checkWhat 9 = .ok (.new 38, 3) := by decide +kernel
theorem dX8_checkWhat_12 : decode cX8_checkWhat 12 = .ok (.dup, 1) := by decide +kernel
theorem dX8_checkWhat_13 : decode cX8_checkWhat 13 = .ok (.ldc_w 275, 3) := by decide +kernel
theorem dX8_checkWhat_16 : decode cX8_checkWhat 16 = .ok (.invokespecial 42, 3) := by decide +kernel
theorem dX8_checkWhat_19 : decode cX8_checkWhat 19 = .ok (.athrow, 1) := by decide +kernel
theorem dX8_checkWhat_20 : decode cX8_checkWhat 20 = .ok (.return_, 1) := by decide +kernel
theorem dX8_hasBit_0 : decode cX8_hasBit 0 = .ok (.iload_n 0, 1) := by decide +kernel
theorem dX8_hasBit_1 : decode cX8_hasBit 1 = .ok (.iload_n 1, 1) := by decide +kernel
theorem dX8_hasBit_2 : decode cX8_hasBit 2 = .ok (.ishr, 1) := by decide +kernel
theorem dX8_hasBit_3 : decode cX8_hasBit 3 = .ok (.iconst 1, 1) := by decide +kernel
theorem dX8_hasBit_4 : decode cX8_hasBit 4 = .ok (.iand, 1) := by decide +kernel
theorem dX8_hasBit_5 : decode cX8_hasBit 5 = .ok (.ifCond .eq 7, 3) := by decide +kernel
theorem dX8_hasBit_8 : decode cX8_hasBit 8 = .ok (.iconst 1, 1) := by decide +kernel
theorem dX8_hasBit_9 : decode cX8_hasBit 9 = .ok (.goto 4, 3) := by decide +kernel
theorem dX8_hasBit_12 : decode cX8_hasBit 12 = .ok (.iconst 0, 1) := by decide +kernel
theorem dX8_hasBit_13 : decode cX8_hasBit 13 = .ok (.ireturn, 1) := by decide +kernel
theorem dX8_moved_0 : decode cX8_moved 0 = .ok (.iload_n 0, 1) := by decide +kernel
theorem dX8_moved_1 : decode cX8_moved 1 = .ok (.iconst 1, 1) := by decide +kernel
theorem dX8_moved_2 : decode cX8_moved 2 = .ok (.iload_n 1, 1) := by decide +kernel
theorem dX8_moved_3 : decode cX8_moved 3 = .ok (.ishl, 1) := by decide +kernel
theorem dX8_moved_4 : decode cX8_moved 4 = .ok (.iconst (-1), 1) := by decide +kernel
theorem dX8_moved_5 : decode cX8_moved 5 = .ok (.ixor, 1) := by decide +kernel
theorem dX8_moved_6 : decode cX8_moved 6 = .ok (.iand, 1) := by decide +kernel
theorem dX8_moved_7 : decode cX8_moved 7 = .ok (.iconst 1, 1) := by decide +kernel
theorem dX8_moved_8 : decode cX8_moved 8 = .ok (.iload_n 2, 1) := by decide +kernel
theorem dX8_moved_9 : decode cX8_moved 9 = .ok (.ishl, 1) := by decide +kernel
theorem dX8_moved_10 : decode cX8_moved 10 = .ok (.ior, 1) := by decide +kernel
theorem dX8_moved_11 : decode cX8_moved 11 = .ok (.bipush (-2), 2) := by decide +kernel
theorem dX8_moved_13 : decode cX8_moved 13 = .ok (.iand, 1) := by decide +kernel
theorem dX8_moved_14 : decode cX8_moved 14 = .ok (.ireturn, 1) := by decide +kernel
