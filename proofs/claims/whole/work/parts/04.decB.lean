theorem dX9_init_0 : decode cX9_init 0 = .ok (.aload_n 0, 1) := by decide +kernel
theorem dX9_init_1 : decode cX9_init 1 = .ok (.invokespecial 1, 3) := by decide +kernel
theorem dX9_init_4 : decode cX9_init 4 = .ok (.aload_n 0, 1) := by decide +kernel
theorem dX9_init_5 : decode cX9_init 5 = .ok (.sipush 400, 3) := by decide +kernel
theorem dX9_init_8 : decode cX9_init 8 = .ok (.newarray .byte, 2) := by decide +kernel
theorem dX9_init_10 : decode cX9_init 10 = .ok (.putfield 7, 3) := by decide +kernel
theorem dX9_init_13 : decode cX9_init 13 = .ok (.aload_n 0, 1) := by decide +kernel
theorem dX9_init_14 : decode cX9_init 14 = .ok (.sipush 140, 3) := by decide +kernel
theorem dX9_init_17 : decode cX9_init 17 = .ok (.newarray .int, 2) := by decide +kernel
theorem dX9_init_19 : decode cX9_init 19 = .ok (.putfield 13, 3) := by decide +kernel
theorem dX9_init_22 : decode cX9_init 22 = .ok (.aload_n 0, 1) := by decide +kernel
theorem dX9_init_23 : decode cX9_init 23 = .ok (.sipush 140, 3) := by decide +kernel
theorem dX9_init_26 : decode cX9_init 26 = .ok (.newarray .int, 2) := by decide +kernel
theorem dX9_init_28 : decode cX9_init 28 = .ok (.putfield 17, 3) := by decide +kernel
theorem dX9_init_31 : decode cX9_init 31 = .ok (.aload_n 0, 1) := by decide +kernel
theorem dX9_init_32 : decode cX9_init 32 = .ok (.sipush 1400, 3) := by decide +kernel
theorem dX9_init_35 : decode cX9_init 35 = .ok (.newarray .int, 2) := by decide +kernel
theorem dX9_init_37 : decode cX9_init 37 = .ok (.putfield 20, 3) := by decide +kernel
theorem dX9_init_40 : decode cX9_init 40 = .ok (.aload_n 0, 1) := by decide +kernel
theorem dX9_init_41 : decode cX9_init 41 = .ok (.sipush 280, 3) := by decide +kernel
theorem dX9_init_44 : decode cX9_init 44 = .ok (.newarray .int, 2) := by decide +kernel
theorem dX9_init_46 : decode cX9_init 46 = .ok (.putfield 23, 3) := by decide +kernel
theorem dX9_init_49 : decode cX9_init 49 = .ok (.aload_n 0, 1) := by decide +kernel
theorem dX9_init_50 : decode cX9_init 50 = .ok (.iconst 2, 1) := by decide +kernel
theorem dX9_init_51 : decode cX9_init 51 = .ok (.newarray .boolean, 2) := by decide +kernel
theorem dX9_init_53 : decode cX9_init 53 = .ok (.putfield 26, 3) := by decide +kernel
theorem dX9_init_56 : decode cX9_init 56 = .ok (.aload_n 0, 1) := by decide +kernel
theorem dX9_init_57 : decode cX9_init 57 = .ok (.sipush 8192, 3) := by decide +kernel
theorem dX9_init_60 : decode cX9_init 60 = .ok (.newarray .int, 2) := by decide +kernel
theorem dX9_init_62 : decode cX9_init 62 = .ok (.putfield 30, 3) := by decide +kernel
theorem dX9_init_65 : decode cX9_init 65 = .ok (.aload_n 0, 1) := by decide +kernel
theorem dX9_init_66 : decode cX9_init 66 = .ok (.sipush 8192, 3) := by decide +kernel
theorem dX9_init_69 : decode cX9_init 69 = .ok (.newarray .int, 2) := by decide +kernel
theorem dX9_init_71 : decode cX9_init 71 = .ok (.putfield 33, 3) := by decide +kernel
theorem dX9_init_74 : decode cX9_init 74 = .ok (.aload_n 0, 1) := by decide +kernel
theorem dX9_init_75 : decode cX9_init 75 = .ok (.sipush 8192, 3) := by decide +kernel
theorem dX9_init_78 : decode cX9_init 78 = .ok (.newarray .boolean, 2) := by decide +kernel
theorem dX9_init_80 : decode cX9_init 80 = .ok (.putfield 36, 3) := by decide +kernel
theorem dX9_init_83 : decode cX9_init 83 = .ok (.aload_n 0, 1) := by decide +kernel
theorem dX9_init_84 : decode cX9_init 84 = .ok (.invokevirtual 39, 3) := by decide +kernel
theorem dX9_init_87 : decode cX9_init 87 = .ok (.aload_n 0, 1) := by decide +kernel
theorem dX9_init_88 : decode cX9_init 88 = .ok (.invokevirtual 42, 3) := by decide +kernel
theorem dX9_init_91 : decode cX9_init 91 = .ok (.return_, 1) := by decide +kernel
theorem dX9_thrown_0 : decode cX9_thrown 0 = .ok (.aload_n 0, 1) := by decide +kernel
theorem dX9_thrown_1 : decode cX9_thrown 1 = .ok (.getfield 45, 3) := by decide +kernel
theorem dX9_thrown_4 : decode cX9_thrown 4 = .ok (.ireturn, 1) := by decide +kernel
theorem dX9_within_0 : decode cX9_within 0 = .ok (.iload_n 0, 1) := by decide +kernel
theorem dX9_within_1 : decode cX9_within 1 = .ok (.iload_n 1, 1) := by decide +kernel
theorem dX9_within_2 : decode cX9_within 2 = .ok (.if_icmp .lt 12, 3) := by decide +kernel
theorem dX9_within_5 : decode cX9_within 5 = .ok (.iload_n 0, 1) := by decide +kernel
theorem dX9_within_6 : decode cX9_within 6 = .ok (.iload_n 2, 1) := by decide +kernel
theorem dX9_within_7 : decode cX9_within 7 = .ok (.if_icmp .gt 7, 3) := by decide +kernel
theorem dX9_within_10 : decode cX9_within 10 = .ok (.iconst 1, 1) := by decide +kernel
theorem dX9_within_11 : decode cX9_within 11 = .ok (.goto 4, 3) := by decide +kernel
theorem dX9_within_14 : decode cX9_within 14 = .ok (.iconst 0, 1) := by decide +kernel
theorem dX9_within_15 : decode cX9_within 15 = .ok (.ireturn, 1) := by decide +kernel
theorem dX9_has_0 : decode cX9_has 0 = .ok (.iload_n 0, 1) := by decide +kernel
theorem dX9_has_1 : decode cX9_has 1 = .ok (.iload_n 1, 1) := by decide +kernel
theorem dX9_has_2 : decode cX9_has 2 = .ok (.ishr, 1) := by decide +kernel
theorem dX9_has_3 : decode cX9_has 3 = .ok (.iconst 1, 1) := by decide +kernel
theorem dX9_has_4 : decode cX9_has 4 = .ok (.iand, 1) := by decide +kernel
theorem dX9_has_5 : decode cX9_has 5 = .ok (.iconst 1, 1) := by decide +kernel
theorem dX9_has_6 : decode cX9_has 6 = .ok (.if_icmp .ne 7, 3) := by decide +kernel
theorem dX9_has_9 : decode cX9_has 9 = .ok (.iconst 1, 1) := by decide +kernel
theorem dX9_has_10 : decode cX9_has 10 = .ok (.goto 4, 3) := by decide +kernel
theorem dX9_has_13 : decode cX9_has 13 = .ok (.iconst 0, 1) := by decide +kernel
theorem dX9_has_14 : decode cX9_has 14 = .ok (.ireturn, 1) := by decide +kernel
theorem dX9_bits_0 : decode cX9_bits 0 = .ok (.iconst 0, 1) := by decide +kernel
theorem dX9_bits_1 : decode cX9_bits 1 = .ok (.istore_n 1, 1) := by decide +kernel
theorem dX9_bits_2 : decode cX9_bits 2 = .ok (.iload_n 0, 1) := by decide +kernel
theorem dX9_bits_3 : decode cX9_bits 3 = .ok (.istore_n 2, 1) := by decide +kernel
theorem dX9_bits_4 : decode cX9_bits 4 = .ok (.iload_n 2, 1) := by decide +kernel
theorem dX9_bits_5 : decode cX9_bits 5 = .ok (.ifCond .eq 15, 3) := by decide +kernel
theorem dX9_bits_8 : decode cX9_bits 8 = .ok (.iinc 1 1, 3) := by decide +kernel
theorem dX9_bits_11 : decode cX9_bits 11 = .ok (.iload_n 2, 1) := by decide +kernel
theorem dX9_bits_12 : decode cX9_bits 12 = .ok (.iload_n 2, 1) := by decide +kernel
theorem dX9_bits_13 : decode cX9_bits 13 = .ok (.iconst 1, 1) := by decide +kernel
theorem dX9_bits_14 : decode cX9_bits 14 = .ok (.isub, 1) := by decide +kernel
theorem dX9_bits_15 : decode cX9_bits 15 = .ok (.iand, 1) := by decide +kernel
theorem dX9_bits_16 : decode cX9_bits 16 = .ok (.istore_n 2, 1) := by decide +kernel
theorem dX9_bits_17 : decode cX9_bits 17 = .ok (.goto (-13), 3) := by decide +kernel
theorem dX9_bits_20 : decode cX9_bits 20 = .ok (.iload_n 1, 1) := by decide +kernel
theorem dX9_bits_21 : decode cX9_bits 21 = .ok (.ireturn, 1) := by decide +kernel
theorem dX9_fail_0 : decode cX9_fail 0 = .ok (.aload_n 0, 1) := by decide +kernel
theorem dX9_fail_1 : decode cX9_fail 1 = .ok (.iload_n 1, 1) := by decide +kernel
theorem dX9_fail_2 : decode cX9_fail 2 = .ok (.putfield 45, 3) := by decide +kernel
theorem dX9_fail_5 : decode cX9_fail 5 = .ok (.iconst 0, 1) := by decide +kernel
theorem dX9_fail_6 : decode cX9_fail 6 = .ok (.ireturn, 1) := by decide +kernel
theorem dX9_appendInt_0 : decode cX9_appendInt 0 = .ok (.bipush 24, 2) := by decide +kernel
theorem dX9_appendInt_2 : decode cX9_appendInt 2 = .ok (.istore_n 2, 1) := by decide +kernel
theorem dX9_appendInt_3 : decode cX9_appendInt 3 = .ok (.iload_n 2, 1) := by decide +kernel
theorem dX9_appendInt_4 : decode cX9_appendInt 4 = .ok (.ifCond .lt 32, 3) := by decide +kernel
theorem dX9_appendInt_7 : decode cX9_appendInt 7 = .ok (.aload_n 0, 1) := by decide +kernel
theorem dX9_appendInt_8 : decode cX9_appendInt 8 = .ok (.getfield 7, 3) := by decide +kernel
theorem dX9_appendInt_11 : decode cX9_appendInt 11 = .ok (.aload_n 0, 1) := by decide +kernel
theorem dX9_appendInt_12 : decode cX9_appendInt 12 = .ok (.getfield 49, 3) := by decide +kernel
theorem dX9_appendInt_15 : decode cX9_appendInt 15 = .ok (.iload_n 1, 1) := by decide +kernel
theorem dX9_appendInt_16 : decode cX9_appendInt 16 = .ok (.iload_n 2, 1) := by decide +kernel
theorem dX9_appendInt_17 : decode cX9_appendInt 17 = .ok (.ishr, 1) := by decide +kernel
theorem dX9_appendInt_18 : decode cX9_appendInt 18 = .ok (.i2b, 1) := by decide +kernel
theorem dX9_appendInt_19 : decode cX9_appendInt 19 = .ok (.bastore, 1) := by decide +kernel
theorem dX9_appendInt_20 : decode cX9_appendInt 20 = .ok (.aload_n 0, 1) := by decide +kernel
theorem dX9_appendInt_21 : decode cX9_appendInt 21 = .ok (.dup, 1) := by decide +kernel
theorem dX9_appendInt_22 : decode cX9_appendInt 22 = .ok (.getfield 49, 3) := by decide +kernel
theorem dX9_appendInt_25 : decode cX9_appendInt 25 = .ok (.iconst 1, 1) := by decide +kernel
theorem dX9_appendInt_26 : decode cX9_appendInt 26 = .ok (.iadd, 1) := by decide +kernel
theorem dX9_appendInt_27 : decode cX9_appendInt 27 = .ok (.putfield 49, 3) := by decide +kernel
theorem dX9_appendInt_30 : decode cX9_appendInt 30 = .ok (.iinc 2 (-8), 3) := by decide +kernel
theorem dX9_appendInt_33 : decode cX9_appendInt 33 = .ok (.goto (-30), 3) := by decide +kernel
theorem dX9_appendInt_36 : decode cX9_appendInt 36 = .ok (.return_, 1) := by decide +kernel
theorem dX9_append_0 : decode cX9_append 0 = .ok (.aload_n 0, 1) := by decide +kernel
theorem dX9_append_1 : decode cX9_append 1 = .ok (.iconst 0, 1) := by decide +kernel
theorem dX9_append_2 : decode cX9_append 2 = .ok (.putfield 45, 3) := by decide +kernel
theorem dX9_append_5 : decode cX9_append 5 = .ok (.aload_n 0, 1) := by decide +kernel
theorem dX9_append_6 : decode cX9_append 6 = .ok (.getfield 49, 3) := by decide +kernel
theorem dX9_append_9 : decode cX9_append 9 = .ok (.bipush 20, 2) := by decide +kernel
theorem dX9_append_11 : decode cX9_append 11 = .ok (.iadd, 1) := by decide +kernel
theorem dX9_append_12 : decode cX9_append 12 = .ok (.sipush 400, 3) := by decide +kernel
theorem dX9_append_15 : decode cX9_append 15 = .ok (.if_icmp .le 5, 3) := by decide +kernel
theorem dX9_append_18 : decode cX9_append 18 = .ok (.iconst (-1), 1) := by decide +kernel
theorem dX9_append_19 : decode cX9_append 19 = .ok (.ireturn, 1) := by decide +kernel
theorem dX9_append_20 : decode cX9_append 20 = .ok (.aload_n 0, 1) := by decide +kernel
theorem dX9_append_21 : decode cX9_append 21 = .ok (.iload_n 1, 1) := by decide +kernel
theorem dX9_append_22 : decode cX9_append 22 = .ok (.invokevirtual 52, 3) := by decide +kernel
theorem dX9_append_25 : decode cX9_append 25 = .ok (.aload_n 0, 1) := by decide +kernel
theorem dX9_append_26 : decode cX9_append 26 = .ok (.iload_n 2, 1) := by decide +kernel
theorem dX9_append_27 : decode cX9_append 27 = .ok (.invokevirtual 52, 3) := by decide +kernel
theorem dX9_append_30 : decode cX9_append 30 = .ok (.aload_n 0, 1) := by decide +kernel
theorem dX9_append_31 : decode cX9_append 31 = .ok (.iload_n 3, 1) := by decide +kernel
theorem dX9_append_32 : decode cX9_append 32 = .ok (.invokevirtual 52, 3) := by decide +kernel
theorem dX9_append_35 : decode cX9_append 35 = .ok (.aload_n 0, 1) := by decide +kernel
theorem dX9_append_36 : decode cX9_append 36 = .ok (.iload 4, 2) := by decide +kernel
theorem dX9_append_38 : decode cX9_append 38 = .ok (.invokevirtual 52, 3) := by decide +kernel
theorem dX9_append_41 : decode cX9_append 41 = .ok (.aload_n 0, 1) := by decide +kernel
theorem dX9_append_42 : decode cX9_append 42 = .ok (.iload 5, 2) := by decide +kernel
theorem dX9_append_44 : decode cX9_append 44 = .ok (.invokevirtual 52, 3) := by decide +kernel
theorem dX9_append_47 : decode cX9_append 47 = .ok (.aload_n 0, 1) := by decide +kernel
theorem dX9_append_48 : decode cX9_append 48 = .ok (.getfield 49, 3) := by decide +kernel
theorem dX9_append_51 : decode cX9_append 51 = .ok (.ireturn, 1) := by decide +kernel
theorem dX9_byteAt_0 : decode cX9_byteAt 0 = .ok (.iload_n 1, 1) := by decide +kernel
theorem dX9_byteAt_1 : decode cX9_byteAt 1 = .ok (.aload_n 0, 1) := by decide +kernel
theorem dX9_byteAt_2 : decode cX9_byteAt 2 = .ok (.getfield 56, 3) := by decide +kernel
theorem dX9_byteAt_5 : decode cX9_byteAt 5 = .ok (.if_icmp .ge 16, 3) := by decide +kernel
theorem dX9_byteAt_8 : decode cX9_byteAt 8 = .ok (.aload_n 0, 1) := by decide +kernel
theorem dX9_byteAt_9 : decode cX9_byteAt 9 = .ok (.getfield 7, 3) := by decide +kernel
theorem dX9_byteAt_12 : decode cX9_byteAt 12 = .ok (.iload_n 1, 1) := by decide +kernel
theorem dX9_byteAt_13 : decode cX9_byteAt 13 = .ok (.baload, 1) := by decide +kernel
theorem dX9_byteAt_14 : decode cX9_byteAt 14 = .ok (.sipush 255, 3) := by decide +kernel
theorem dX9_byteAt_17 : decode cX9_byteAt 17 = .ok (.iand, 1) := by decide +kernel
theorem dX9_byteAt_18 : decode cX9_byteAt 18 = .ok (.goto 4, 3) := by decide +kernel
theorem dX9_byteAt_21 : decode cX9_byteAt 21 = .ok (.iconst (-1), 1) := by decide +kernel
theorem dX9_byteAt_22 : decode cX9_byteAt 22 = .ok (.ireturn, 1) := by decide +kernel
theorem dX9_nextToken_0 : decode cX9_nextToken 0 = .ok (.aload_n 0, 1) := by decide +kernel
theorem dX9_nextToken_1 : decode cX9_nextToken 1 = .ok (.aload_n 0, 1) := by decide +kernel
theorem dX9_nextToken_2 : decode cX9_nextToken 2 = .ok (.getfield 59, 3) := by decide +kernel
theorem dX9_nextToken_5 : decode cX9_nextToken 5 = .ok (.putfield 62, 3) := by decide +kernel
theorem dX9_nextToken_8 : decode cX9_nextToken 8 = .ok (.aload_n 0, 1) := by decide +kernel
theorem dX9_nextToken_9 : decode cX9_nextToken 9 = .ok (.aload_n 0, 1) := by decide +kernel
theorem dX9_nextToken_10 : decode cX9_nextToken 10 = .ok (.getfield 62, 3) := by decide +kernel
theorem dX9_nextToken_13 : decode cX9_nextToken 13 = .ok (.invokevirtual 65, 3) := by decide +kernel
theorem dX9_nextToken_16 : decode cX9_nextToken 16 = .ok (.bipush 32, 2) := by decide +kernel
theorem dX9_nextToken_18 : decode cX9_nextToken 18 = .ok (.if_icmp .eq 16, 3) := by decide +kernel
theorem dX9_nextToken_21 : decode cX9_nextToken 21 = .ok (.aload_n 0, 1) := by decide +kernel
theorem dX9_nextToken_22 : decode cX9_nextToken 22 = .ok (.aload_n 0, 1) := by decide +kernel
theorem dX9_nextToken_23 : decode cX9_nextToken 23 = .ok (.getfield 62, 3) := by decide +kernel
theorem dX9_nextToken_26 : decode cX9_nextToken 26 = .ok (.invokevirtual 65, 3) := by decide +kernel
theorem dX9_nextToken_29 : decode cX9_nextToken 29 = .ok (.bipush 10, 2) := by decide +kernel
theorem dX9_nextToken_31 : decode cX9_nextToken 31 = .ok (.if_icmp .ne 16, 3) := by decide +kernel
theorem dX9_nextToken_34 : decode cX9_nextToken 34 = .ok (.aload_n 0, 1) := by decide +kernel
theorem dX9_nextToken_35 : decode cX9_nextToken 35 = .ok (.dup, 1) := by decide +kernel
theorem dX9_nextToken_36 : decode cX9_nextToken 36 = .ok (.getfield 62, 3) := by decide +kernel
theorem dX9_nextToken_39 : decode cX9_nextToken 39 = .ok (.iconst 1, 1) := by decide +kernel
theorem dX9_nextToken_40 : decode cX9_nextToken 40 = .ok (.iadd, 1) := by decide +kernel
theorem dX9_nextToken_41 : decode cX9_nextToken 41 = .ok (.putfield 62, 3) := by decide +kernel
theorem dX9_nextToken_44 : decode cX9_nextToken 44 = .ok (.goto (-36), 3) := by decide +kernel
theorem dX9_nextToken_47 : decode cX9_nextToken 47 = .ok (.aload_n 0, 1) := by decide +kernel
theorem dX9_nextToken_48 : decode cX9_nextToken 48 = .ok (.aload_n 0, 1) := by decide +kernel
theorem dX9_nextToken_49 : decode cX9_nextToken 49 = .ok (.getfield 62, 3) := by decide +kernel
theorem dX9_nextToken_52 : decode cX9_nextToken 52 = .ok (.invokevirtual 65, 3) := by decide +kernel
theorem dX9_nextToken_55 : decode cX9_nextToken 55 = .ok (.istore_n 1, 1) := by decide +kernel
theorem dX9_nextToken_56 : decode cX9_nextToken 56 = .ok (.aload_n 0, 1) := by decide +kernel
theorem dX9_nextToken_57 : decode cX9_nextToken 57 = .ok (.aload_n 0, 1) := by decide +kernel
theorem dX9_nextToken_58 : decode cX9_nextToken 58 = .ok (.getfield 62, 3) := by decide +kernel
theorem dX9_nextToken_61 : decode cX9_nextToken 61 = .ok (.putfield 59, 3) := by decide +kernel
theorem dX9_nextToken_64 : decode cX9_nextToken 64 = .ok (.aload_n 0, 1) := by decide +kernel
theorem dX9_nextToken_65 : decode cX9_nextToken 65 = .ok (.iconst 4, 1) := by decide +kernel
theorem dX9_nextToken_66 : decode cX9_nextToken 66 = .ok (.putfield 69, 3) := by decide +kernel
theorem dX9_nextToken_69 : decode cX9_nextToken 69 = .ok (.iload_n 1, 1) := by decide +kernel
theorem dX9_nextToken_70 : decode cX9_nextToken 70 = .ok (.iconst (-1), 1) := by decide +kernel
theorem dX9_nextToken_71 : decode cX9_nextToken 71 = .ok (.if_icmp .ne 11, 3) := by decide +kernel
theorem dX9_nextToken_74 : decode cX9_nextToken 74 = .ok (.aload_n 0, 1) := by decide +kernel
theorem dX9_nextToken_75 : decode cX9_nextToken 75 = .ok (.iconst 0, 1) := by decide +kernel
theorem dX9_nextToken_76 : decode cX9_nextToken 76 = .ok (.putfield 69, 3) := by decide +kernel
theorem dX9_nextToken_79 : decode cX9_nextToken 79 = .ok (.goto 211, 3) := by decide +kernel
theorem dX9_nextToken_82 : decode cX9_nextToken 82 = .ok (.iload_n 1, 1) := by decide +kernel
theorem dX9_nextToken_83 : decode cX9_nextToken 83 = .ok (.bipush 97, 2) := by decide +kernel
theorem dX9_nextToken_85 : decode cX9_nextToken 85 = .ok (.bipush 122, 2) := by decide +kernel
theorem dX9_nextToken_87 : decode cX9_nextToken 87 = .ok (.invokestatic 72, 3) := by decide +kernel
theorem dX9_nextToken_90 : decode cX9_nextToken 90 = .ok (.ifCond .eq 60, 3) := by decide +kernel
theorem dX9_nextToken_93 : decode cX9_nextToken 93 = .ok (.aload_n 0, 1) := by decide +kernel
theorem dX9_nextToken_94 : decode cX9_nextToken 94 = .ok (.aload_n 0, 1) := by decide +kernel
theorem dX9_nextToken_95 : decode cX9_nextToken 95 = .ok (.getfield 59, 3) := by decide +kernel
theorem dX9_nextToken_98 : decode cX9_nextToken 98 = .ok (.invokevirtual 65, 3) := by decide +kernel
theorem dX9_nextToken_101 : decode cX9_nextToken 101 = .ok (.bipush 97, 2) := by decide +kernel
theorem dX9_nextToken_103 : decode cX9_nextToken 103 = .ok (.bipush 122, 2) := by decide +kernel
theorem dX9_nextToken_105 : decode cX9_nextToken 105 = .ok (.invokestatic 72, 3) := by decide +kernel
theorem dX9_nextToken_108 : decode cX9_nextToken 108 = .ok (.ifCond .eq 16, 3) := by decide +kernel
theorem dX9_nextToken_111 : decode cX9_nextToken 111 = .ok (.aload_n 0, 1) := by decide +kernel
theorem dX9_nextToken_112 : decode cX9_nextToken 112 = .ok (.dup, 1) := by decide +kernel
theorem dX9_nextToken_113 : decode cX9_nextToken 113 = .ok (.getfield 59, 3) := by decide +kernel
theorem dX9_nextToken_116 : decode cX9_nextToken 116 = .ok (.iconst 1, 1) := by decide +kernel
theorem dX9_nextToken_117 : decode cX9_nextToken 117 = .ok (.iadd, 1) := by decide +kernel
theorem dX9_nextToken_118 : decode cX9_nextToken 118 = .ok (.putfield 59, 3) := by decide +kernel
theorem dX9_nextToken_121 : decode cX9_nextToken 121 = .ok (.goto (-28), 3) := by decide +kernel
theorem dX9_nextToken_124 : decode cX9_nextToken 124 = .ok (.aload_n 0, 1) := by decide +kernel
theorem dX9_nextToken_125 : decode cX9_nextToken 125 = .ok (.aload_n 0, 1) := by decide +kernel
theorem dX9_nextToken_126 : decode cX9_nextToken 126 = .ok (.getfield 59, 3) := by decide +kernel
theorem dX9_nextToken_129 : decode cX9_nextToken 129 = .ok (.aload_n 0, 1) := by decide +kernel
theorem dX9_nextToken_130 : decode cX9_nextToken 130 = .ok (.getfield 62, 3) := by decide +kernel
theorem dX9_nextToken_133 : decode cX9_nextToken 133 = .ok (.isub, 1) := by decide +kernel
theorem dX9_nextToken_134 : decode cX9_nextToken 134 = .ok (.bipush 8, 2) := by decide +kernel
theorem dX9_nextToken_136 : decode cX9_nextToken 136 = .ok (.if_icmp .le 7, 3) := by decide +kernel
theorem dX9_nextToken_139 : decode cX9_nextToken 139 = .ok (.iconst 4, 1) := by decide +kernel
theorem dX9_nextToken_140 : decode cX9_nextToken 140 = .ok (.goto 4, 3) := by decide +kernel
theorem dX9_nextToken_143 : decode cX9_nextToken 143 = .ok (.iconst 1, 1) := by decide +kernel
theorem dX9_nextToken_144 : decode cX9_nextToken 144 = .ok (.putfield 69, 3) := by decide +kernel
theorem dX9_nextToken_147 : decode cX9_nextToken 147 = .ok (.goto 143, 3) := by decide +kernel
theorem dX9_nextToken_150 : decode cX9_nextToken 150 = .ok (.iload_n 1, 1) := by decide +kernel
theorem dX9_nextToken_151 : decode cX9_nextToken 151 = .ok (.bipush 48, 2) := by decide +kernel
theorem dX9_nextToken_153 : decode cX9_nextToken 153 = .ok (.bipush 57, 2) := by decide +kernel
theorem dX9_nextToken_155 : decode cX9_nextToken 155 = .ok (.invokestatic 72, 3) := by decide +kernel
theorem dX9_nextToken_158 : decode cX9_nextToken 158 = .ok (.ifCond .eq 107, 3) := by decide +kernel
theorem dX9_nextToken_161 : decode cX9_nextToken 161 = .ok (.aload_n 0, 1) := by decide +kernel
theorem dX9_nextToken_162 : decode cX9_nextToken 162 = .ok (.iconst 0, 1) := by decide +kernel
theorem dX9_nextToken_163 : decode cX9_nextToken 163 = .ok (.putfield 76, 3) := by decide +kernel
theorem dX9_nextToken_166 : decode cX9_nextToken 166 = .ok (.aload_n 0, 1) := by decide +kernel
theorem dX9_nextToken_167 : decode cX9_nextToken 167 = .ok (.aload_n 0, 1) := by decide +kernel
theorem dX9_nextToken_168 : decode cX9_nextToken 168 = .ok (.getfield 59, 3) := by decide +kernel
theorem dX9_nextToken_171 : decode cX9_nextToken 171 = .ok (.invokevirtual 65, 3) := by decide +kernel
theorem dX9_nextToken_174 : decode cX9_nextToken 174 = .ok (.bipush 48, 2) := by decide +kernel
theorem dX9_nextToken_176 : decode cX9_nextToken 176 = .ok (.bipush 57, 2) := by decide +kernel
theorem dX9_nextToken_178 : decode cX9_nextToken 178 = .ok (.invokestatic 72, 3) := by decide +kernel
theorem dX9_nextToken_181 : decode cX9_nextToken 181 = .ok (.ifCond .eq 59, 3) := by decide +kernel
theorem dX9_nextToken_184 : decode cX9_nextToken 184 = .ok (.aload_n 0, 1) := by decide +kernel
theorem dX9_nextToken_185 : decode cX9_nextToken 185 = .ok (.aload_n 0, 1) := by decide +kernel
theorem dX9_nextToken_186 : decode cX9_nextToken 186 = .ok (.getfield 59, 3) := by decide +kernel
theorem dX9_nextToken_189 : decode cX9_nextToken 189 = .ok (.aload_n 0, 1) := by decide +kernel
theorem dX9_nextToken_190 : decode cX9_nextToken 190 = .ok (.getfield 62, 3) := by decide +kernel
theorem dX9_nextToken_193 : decode cX9_nextToken 193 = .ok (.isub, 1) := by decide +kernel
theorem dX9_nextToken_194 : decode cX9_nextToken 194 = .ok (.iconst 2, 1) := by decide +kernel
theorem dX9_nextToken_195 : decode cX9_nextToken 195 = .ok (.if_icmp .ge 25, 3) := by decide +kernel
theorem dX9_nextToken_198 : decode cX9_nextToken 198 = .ok (.bipush 10, 2) := by decide +kernel
theorem dX9_nextToken_200 : decode cX9_nextToken 200 = .ok (.aload_n 0, 1) := by decide +kernel
theorem dX9_nextToken_201 : decode cX9_nextToken 201 = .ok (.getfield 76, 3) := by decide +kernel
theorem dX9_nextToken_204 : decode cX9_nextToken 204 = .ok (.imul, 1) := by decide +kernel
theorem dX9_nextToken_205 : decode cX9_nextToken 205 = .ok (.aload_n 0, 1) := by decide +kernel
theorem dX9_nextToken_206 : decode cX9_nextToken 206 = .ok (.aload_n 0, 1) := by decide +kernel
theorem dX9_nextToken_207 : decode cX9_nextToken 207 = .ok (.getfield 59, 3) := by decide +kernel
theorem dX9_nextToken_210 : decode cX9_nextToken 210 = .ok (.invokevirtual 65, 3) := by decide +kernel
theorem dX9_nextToken_213 : decode cX9_nextToken 213 = .ok (.iadd, 1) := by decide +kernel
theorem dX9_nextToken_214 : decode cX9_nextToken 214 = .ok (.bipush 48, 2) := by decide +kernel
theorem dX9_nextToken_216 : decode cX9_nextToken 216 = .ok (.isub, 1) := by decide +kernel
theorem dX9_nextToken_217 : decode cX9_nextToken 217 = .ok (.goto 7, 3) := by decide +kernel
theorem dX9_nextToken_220 : decode cX9_nextToken 220 = .ok (.aload_n 0, 1) := by decide +kernel
theorem dX9_nextToken_221 : decode cX9_nextToken 221 = .ok (.getfield 76, 3) := by decide +kernel
theorem dX9_nextToken_224 : decode cX9_nextToken 224 = .ok (.putfield 76, 3) := by decide +kernel
theorem dX9_nextToken_227 : decode cX9_nextToken 227 = .ok (.aload_n 0, 1) := by decide +kernel
theorem dX9_nextToken_228 : decode cX9_nextToken 228 = .ok (.dup, 1) := by decide +kernel
theorem dX9_nextToken_229 : decode cX9_nextToken 229 = .ok (.getfield 59, 3) := by decide +kernel
theorem dX9_nextToken_232 : decode cX9_nextToken 232 = .ok (.iconst 1, 1) := by decide +kernel
theorem dX9_nextToken_233 : decode cX9_nextToken 233 = .ok (.iadd, 1) := by decide +kernel
theorem dX9_nextToken_234 : decode cX9_nextToken 234 = .ok (.putfield 59, 3) := by decide +kernel
theorem dX9_nextToken_237 : decode cX9_nextToken 237 = .ok (.goto (-71), 3) := by decide +kernel
theorem dX9_nextToken_240 : decode cX9_nextToken 240 = .ok (.aload_n 0, 1) := by decide +kernel
theorem dX9_nextToken_241 : decode cX9_nextToken 241 = .ok (.aload_n 0, 1) := by decide +kernel
theorem dX9_nextToken_242 : decode cX9_nextToken 242 = .ok (.getfield 59, 3) := by decide +kernel
theorem dX9_nextToken_245 : decode cX9_nextToken 245 = .ok (.aload_n 0, 1) := by decide +kernel
theorem dX9_nextToken_246 : decode cX9_nextToken 246 = .ok (.getfield 62, 3) := by decide +kernel
theorem dX9_nextToken_249 : decode cX9_nextToken 249 = .ok (.isub, 1) := by decide +kernel
theorem dX9_nextToken_250 : decode cX9_nextToken 250 = .ok (.iconst 2, 1) := by decide +kernel
theorem dX9_nextToken_251 : decode cX9_nextToken 251 = .ok (.if_icmp .le 7, 3) := by decide +kernel
theorem dX9_nextToken_254 : decode cX9_nextToken 254 = .ok (.iconst 4, 1) := by decide +kernel
theorem dX9_nextToken_255 : decode cX9_nextToken 255 = .ok (.goto 4, 3) := by decide +kernel
theorem dX9_nextToken_258 : decode cX9_nextToken 258 = .ok (.iconst 2, 1) := by decide +kernel
theorem dX9_nextToken_259 : decode cX9_nextToken 259 = .ok (.putfield 69, 3) := by decide +kernel
theorem dX9_nextToken_262 : decode cX9_nextToken 262 = .ok (.goto 28, 3) := by decide +kernel
theorem dX9_nextToken_265 : decode cX9_nextToken 265 = .ok (.aload_n 0, 1) := by decide +kernel
theorem dX9_nextToken_266 : decode cX9_nextToken 266 = .ok (.dup, 1) := by decide +kernel
theorem dX9_nextToken_267 : decode cX9_nextToken 267 = .ok (.getfield 59, 3) := by decide +kernel
theorem dX9_nextToken_270 : decode cX9_nextToken 270 = .ok (.iconst 1, 1) := by decide +kernel
theorem dX9_nextToken_271 : decode cX9_nextToken 271 = .ok (.iadd, 1) := by decide +kernel
theorem dX9_nextToken_272 : decode cX9_nextToken 272 = .ok (.putfield 59, 3) := by decide +kernel
theorem dX9_nextToken_275 : decode cX9_nextToken 275 = .ok (.aload_n 0, 1) := by decide +kernel
theorem dX9_nextToken_276 : decode cX9_nextToken 276 = .ok (.iload_n 1, 1) := by decide +kernel
theorem dX9_nextToken_277 : decode cX9_nextToken 277 = .ok (.bipush 59, 2) := by decide +kernel
theorem dX9_nextToken_279 : decode cX9_nextToken 279 = .ok (.if_icmp .ne 7, 3) := by decide +kernel
theorem dX9_nextToken_282 : decode cX9_nextToken 282 = .ok (.iconst 3, 1) := by decide +kernel
theorem dX9_nextToken_283 : decode cX9_nextToken 283 = .ok (.goto 4, 3) := by decide +kernel
theorem dX9_nextToken_286 : decode cX9_nextToken 286 = .ok (.iconst 4, 1) := by decide +kernel
theorem dX9_nextToken_287 : decode cX9_nextToken 287 = .ok (.putfield 69, 3) := by decide +kernel
theorem dX9_nextToken_290 : decode cX9_nextToken 290 = .ok (.return_, 1) := by decide +kernel
theorem dX9_must_0 : decode cX9_must 0 = .ok (.aload_n 0, 1) := by decide +kernel
theorem dX9_must_1 : decode cX9_must 1 = .ok (.getfield 79, 3) := by decide +kernel
theorem dX9_must_4 : decode cX9_must 4 = .ok (.ifCond .ne 20, 3) := by decide +kernel
theorem dX9_must_7 : decode cX9_must 7 = .ok (.iload_n 1, 1) := by decide +kernel
theorem dX9_must_8 : decode cX9_must 8 = .ok (.ifCond .ne 16, 3) := by decide +kernel
theorem dX9_must_11 : decode cX9_must 11 = .ok (.aload_n 0, 1) := by decide +kernel
theorem dX9_must_12 : decode cX9_must 12 = .ok (.iload_n 2, 1) := by decide +kernel
theorem dX9_must_13 : decode cX9_must 13 = .ok (.putfield 79, 3) := by decide +kernel
theorem dX9_must_16 : decode cX9_must 16 = .ok (.aload_n 0, 1) := by decide +kernel
theorem dX9_must_17 : decode cX9_must 17 = .ok (.aload_n 0, 1) := by decide +kernel
theorem dX9_must_18 : decode cX9_must 18 = .ok (.getfield 62, 3) := by decide +kernel
theorem dX9_must_21 : decode cX9_must 21 = .ok (.putfield 82, 3) := by decide +kernel
theorem dX9_must_24 : decode cX9_must 24 = .ok (.aload_n 0, 1) := by decide +kernel
theorem dX9_must_25 : decode cX9_must 25 = .ok (.getfield 79, 3) := by decide +kernel
theorem dX9_must_28 : decode cX9_must 28 = .ok (.ifCond .ne 7, 3) := by decide +kernel
theorem dX9_must_31 : decode cX9_must 31 = .ok (.iconst 1, 1) := by decide +kernel
theorem dX9_must_32 : decode cX9_must 32 = .ok (.goto 4, 3) := by decide +kernel
theorem dX9_must_35 : decode cX9_must 35 = .ok (.iconst 0, 1) := by decide +kernel
theorem dX9_must_36 : decode cX9_must 36 = .ok (.ireturn, 1) := by decide +kernel
theorem dX9_isWord_0 : decode cX9_isWord 0 = .ok (.aload_n 0, 1) := by decide +kernel
theorem dX9_isWord_1 : decode cX9_isWord 1 = .ok (.getfield 79, 3) := by decide +kernel
theorem dX9_isWord_4 : decode cX9_isWord 4 = .ok (.ifCond .ne 31, 3) := by decide +kernel
theorem dX9_isWord_7 : decode cX9_isWord 7 = .ok (.aload_n 0, 1) := by decide +kernel
theorem dX9_isWord_8 : decode cX9_isWord 8 = .ok (.getfield 69, 3) := by decide +kernel
theorem dX9_isWord_11 : decode cX9_isWord 11 = .ok (.iconst 1, 1) := by decide +kernel
theorem dX9_isWord_12 : decode cX9_isWord 12 = .ok (.if_icmp .ne 23, 3) := by decide +kernel
theorem dX9_isWord_15 : decode cX9_isWord 15 = .ok (.aload_n 0, 1) := by decide +kernel
theorem dX9_isWord_16 : decode cX9_isWord 16 = .ok (.getfield 59, 3) := by decide +kernel
theorem dX9_isWord_19 : decode cX9_isWord 19 = .ok (.aload_n 0, 1) := by decide +kernel
theorem dX9_isWord_20 : decode cX9_isWord 20 = .ok (.getfield 62, 3) := by decide +kernel
theorem dX9_isWord_23 : decode cX9_isWord 23 = .ok (.isub, 1) := by decide +kernel
theorem dX9_isWord_24 : decode cX9_isWord 24 = .ok (.aload_n 1, 1) := by decide +kernel
theorem dX9_isWord_25 : decode cX9_isWord 25 = .ok (.invokevirtual 85, 3) := by decide +kernel
theorem dX9_isWord_28 : decode cX9_isWord 28 = .ok (.if_icmp .ne 7, 3) := by decide +kernel
theorem dX9_isWord_31 : decode cX9_isWord 31 = .ok (.iconst 1, 1) := by decide +kernel
theorem dX9_isWord_32 : decode cX9_isWord 32 = .ok (.goto 4, 3) := by decide +kernel
theorem dX9_isWord_35 : decode cX9_isWord 35 = .ok (.iconst 0, 1) := by decide +kernel
theorem dX9_isWord_36 : decode cX9_isWord 36 = .ok (.istore_n 2, 1) := by decide +kernel
theorem dX9_isWord_37 : decode cX9_isWord 37 = .ok (.iconst 0, 1) := by decide +kernel
theorem dX9_isWord_38 : decode cX9_isWord 38 = .ok (.istore_n 3, 1) := by decide +kernel
theorem dX9_isWord_39 : decode cX9_isWord 39 = .ok (.iload_n 3, 1) := by decide +kernel
theorem dX9_isWord_40 : decode cX9_isWord 40 = .ok (.aload_n 1, 1) := by decide +kernel
theorem dX9_isWord_41 : decode cX9_isWord 41 = .ok (.invokevirtual 85, 3) := by decide +kernel
theorem dX9_isWord_44 : decode cX9_isWord 44 = .ok (.if_icmp .ge 38, 3) := by decide +kernel
theorem dX9_isWord_47 : decode cX9_isWord 47 = .ok (.iload_n 2, 1) := by decide +kernel
theorem dX9_isWord_48 : decode cX9_isWord 48 = .ok (.ifCond .eq 34, 3) := by decide +kernel
theorem dX9_isWord_51 : decode cX9_isWord 51 = .ok (.aload_n 0, 1) := by decide +kernel
theorem dX9_isWord_52 : decode cX9_isWord 52 = .ok (.getfield 7, 3) := by decide +kernel
theorem dX9_isWord_55 : decode cX9_isWord 55 = .ok (.aload_n 0, 1) := by decide +kernel
theorem dX9_isWord_56 : decode cX9_isWord 56 = .ok (.getfield 62, 3) := by decide +kernel
theorem dX9_isWord_59 : decode cX9_isWord 59 = .ok (.iload_n 3, 1) := by decide +kernel
theorem dX9_isWord_60 : decode cX9_isWord 60 = .ok (.iadd, 1) := by decide +kernel
theorem dX9_isWord_61 : decode cX9_isWord 61 = .ok (.baload, 1) := by decide +kernel
theorem dX9_isWord_62 : decode cX9_isWord 62 = .ok (.aload_n 1, 1) := by decide +kernel
theorem dX9_isWord_63 : decode cX9_isWord 63 = .ok (.iload_n 3, 1) := by decide +kernel
theorem dX9_isWord_64 : decode cX9_isWord 64 = .ok (.invokevirtual 90, 3) := by decide +kernel
theorem dX9_isWord_67 : decode cX9_isWord 67 = .ok (.if_icmp .ne 7, 3) := by decide +kernel
theorem dX9_isWord_70 : decode cX9_isWord 70 = .ok (.iconst 1, 1) := by decide +kernel
theorem dX9_isWord_71 : decode cX9_isWord 71 = .ok (.goto 4, 3) := by decide +kernel
theorem dX9_isWord_74 : decode cX9_isWord 74 = .ok (.iconst 0, 1) := by decide +kernel
theorem dX9_isWord_75 : decode cX9_isWord 75 = .ok (.istore_n 2, 1) := by decide +kernel
theorem dX9_isWord_76 : decode cX9_isWord 76 = .ok (.iinc 3 1, 3) := by decide +kernel
theorem dX9_isWord_79 : decode cX9_isWord 79 = .ok (.goto (-40), 3) := by decide +kernel
theorem dX9_isWord_82 : decode cX9_isWord 82 = .ok (.iload_n 2, 1) := by decide +kernel
theorem dX9_isWord_83 : decode cX9_isWord 83 = .ok (.ireturn, 1) := by decide +kernel
theorem dX9_look_0 : decode cX9_look 0 = .ok (.aload_n 0, 1) := by decide +kernel
theorem dX9_look_1 : decode cX9_look 1 = .ok (.aload_n 0, 1) := by decide +kernel
theorem dX9_look_2 : decode cX9_look 2 = .ok (.getfield 69, 3) := by decide +kernel
theorem dX9_look_5 : decode cX9_look 5 = .ok (.iconst 2, 1) := by decide +kernel
theorem dX9_look_6 : decode cX9_look 6 = .ok (.if_icmp .ne 7, 3) := by decide +kernel
theorem dX9_look_9 : decode cX9_look 9 = .ok (.iconst 1, 1) := by decide +kernel
theorem dX9_look_10 : decode cX9_look 10 = .ok (.goto 4, 3) := by decide +kernel
theorem dX9_look_13 : decode cX9_look 13 = .ok (.iconst 0, 1) := by decide +kernel
theorem dX9_look_14 : decode cX9_look 14 = .ok (.iconst 1, 1) := by decide +kernel
theorem dX9_look_15 : decode cX9_look 15 = .ok (.invokevirtual 94, 3) := by decide +kernel
theorem dX9_look_18 : decode cX9_look 18 = .ok (.ifCond .eq 20, 3) := by decide +kernel
theorem dX9_look_21 : decode cX9_look 21 = .ok (.aload_n 0, 1) := by decide +kernel
theorem dX9_look_22 : decode cX9_look 22 = .ok (.aload_n 0, 1) := by decide +kernel
theorem dX9_look_23 : decode cX9_look 23 = .ok (.getfield 76, 3) := by decide +kernel
theorem dX9_look_26 : decode cX9_look 26 = .ok (.iload_n 1, 1) := by decide +kernel
theorem dX9_look_27 : decode cX9_look 27 = .ok (.iload_n 2, 1) := by decide +kernel
theorem dX9_look_28 : decode cX9_look 28 = .ok (.invokestatic 72, 3) := by decide +kernel
theorem dX9_look_31 : decode cX9_look 31 = .ok (.iconst 2, 1) := by decide +kernel
theorem dX9_look_32 : decode cX9_look 32 = .ok (.invokevirtual 94, 3) := by decide +kernel
theorem dX9_look_35 : decode cX9_look 35 = .ok (.ifCond .ne 5, 3) := by decide +kernel
theorem dX9_look_38 : decode cX9_look 38 = .ok (.iload_n 1, 1) := by decide +kernel
theorem dX9_look_39 : decode cX9_look 39 = .ok (.ireturn, 1) := by decide +kernel
theorem dX9_look_40 : decode cX9_look 40 = .ok (.aload_n 0, 1) := by decide +kernel
theorem dX9_look_41 : decode cX9_look 41 = .ok (.getfield 76, 3) := by decide +kernel
theorem dX9_look_44 : decode cX9_look 44 = .ok (.ireturn, 1) := by decide +kernel
theorem dX9_goOn_0 : decode cX9_goOn 0 = .ok (.aload_n 0, 1) := by decide +kernel
theorem dX9_goOn_1 : decode cX9_goOn 1 = .ok (.getfield 79, 3) := by decide +kernel
theorem dX9_goOn_4 : decode cX9_goOn 4 = .ok (.ifCond .ne 7, 3) := by decide +kernel
theorem dX9_goOn_7 : decode cX9_goOn 7 = .ok (.aload_n 0, 1) := by decide +kernel
theorem dX9_goOn_8 : decode cX9_goOn 8 = .ok (.invokevirtual 98, 3) := by decide +kernel
theorem dX9_goOn_11 : decode cX9_goOn 11 = .ok (.return_, 1) := by decide +kernel
theorem dX9_read_0 : decode cX9_read 0 = .ok (.aload_n 0, 1) := by decide +kernel
theorem dX9_read_1 : decode cX9_read 1 = .ok (.iload_n 1, 1) := by decide +kernel
theorem dX9_read_2 : decode cX9_read 2 = .ok (.iload_n 2, 1) := by decide +kernel
theorem dX9_read_3 : decode cX9_read 3 = .ok (.invokevirtual 101, 3) := by decide +kernel
theorem dX9_read_6 : decode cX9_read 6 = .ok (.istore_n 3, 1) := by decide +kernel
theorem dX9_read_7 : decode cX9_read 7 = .ok (.aload_n 0, 1) := by decide +kernel
theorem dX9_read_8 : decode cX9_read 8 = .ok (.invokevirtual 105, 3) := by decide +kernel
theorem dX9_read_11 : decode cX9_read 11 = .ok (.iload_n 3, 1) := by decide +kernel
theorem dX9_read_12 : decode cX9_read 12 = .ok (.ireturn, 1) := by decide +kernel
theorem dX9_setDefaults_0 : decode cX9_setDefaults 0 = .ok (.iconst 0, 1) := by decide +kernel
theorem dX9_setDefaults_1 : decode cX9_setDefaults 1 = .ok (.istore_n 1, 1) := by decide +kernel
theorem dX9_setDefaults_2 : decode cX9_setDefaults 2 = .ok (.iload_n 1, 1) := by decide +kernel
theorem dX9_setDefaults_3 : decode cX9_setDefaults 3 = .ok (.sipush 140, 3) := by decide +kernel
theorem dX9_setDefaults_6 : decode cX9_setDefaults 6 = .ok (.if_icmp .ge 16, 3) := by decide +kernel
theorem dX9_setDefaults_9 : decode cX9_setDefaults 9 = .ok (.aload_n 0, 1) := by decide +kernel
theorem dX9_setDefaults_10 : decode cX9_setDefaults 10 = .ok (.getfield 13, 3) := by decide +kernel
theorem dX9_setDefaults_13 : decode cX9_setDefaults 13 = .ok (.iload_n 1, 1) := by decide +kernel
theorem dX9_setDefaults_14 : decode cX9_setDefaults 14 = .ok (.iconst 0, 1) := by decide +kernel
theorem dX9_setDefaults_15 : decode cX9_setDefaults 15 = .ok (.iastore, 1) := by decide +kernel
theorem dX9_setDefaults_16 : decode cX9_setDefaults 16 = .ok (.iinc 1 1, 3) := by decide +kernel
theorem dX9_setDefaults_19 : decode cX9_setDefaults 19 = .ok (.goto (-17), 3) := by decide +kernel
theorem dX9_setDefaults_22 : decode cX9_setDefaults 22 = .ok (.iconst 0, 1) := by decide +kernel
theorem dX9_setDefaults_23 : decode cX9_setDefaults 23 = .ok (.istore_n 1, 1) := by decide +kernel
theorem dX9_setDefaults_24 : decode cX9_setDefaults 24 = .ok (.iload_n 1, 1) := by decide +kernel
theorem dX9_setDefaults_25 : decode cX9_setDefaults 25 = .ok (.iconst 2, 1) := by decide +kernel
theorem dX9_setDefaults_26 : decode cX9_setDefaults 26 = .ok (.if_icmp .ge 37, 3) := by decide +kernel
theorem dX9_setDefaults_29 : decode cX9_setDefaults 29 = .ok (.iconst 0, 1) := by decide +kernel
theorem dX9_setDefaults_30 : decode cX9_setDefaults 30 = .ok (.istore_n 2, 1) := by decide +kernel
theorem dX9_setDefaults_31 : decode cX9_setDefaults 31 = .ok (.iload_n 2, 1) := by decide +kernel
theorem dX9_setDefaults_32 : decode cX9_setDefaults 32 = .ok (.iconst 3, 1) := by decide +kernel
theorem dX9_setDefaults_33 : decode cX9_setDefaults 33 = .ok (.if_icmp .ge 24, 3) := by decide +kernel
theorem dX9_setDefaults_36 : decode cX9_setDefaults 36 = .ok (.aload_n 0, 1) := by decide +kernel
theorem dX9_setDefaults_37 : decode cX9_setDefaults 37 = .ok (.getfield 13, 3) := by decide +kernel
theorem dX9_setDefaults_40 : decode cX9_setDefaults 40 = .ok (.bipush 43, 2) := by decide +kernel
theorem dX9_setDefaults_42 : decode cX9_setDefaults 42 = .ok (.bipush 6, 2) := by decide +kernel
theorem dX9_setDefaults_44 : decode cX9_setDefaults 44 = .ok (.iload_n 1, 1) := by decide +kernel
theorem dX9_setDefaults_45 : decode cX9_setDefaults 45 = .ok (.imul, 1) := by decide +kernel
theorem dX9_setDefaults_46 : decode cX9_setDefaults 46 = .ok (.iadd, 1) := by decide +kernel
theorem dX9_setDefaults_47 : decode cX9_setDefaults 47 = .ok (.iload_n 2, 1) := by decide +kernel
theorem dX9_setDefaults_48 : decode cX9_setDefaults 48 = .ok (.iadd, 1) := by decide +kernel
theorem dX9_setDefaults_49 : decode cX9_setDefaults 49 = .ok (.iconst 1, 1) := by decide +kernel
theorem dX9_setDefaults_50 : decode cX9_setDefaults 50 = .ok (.iastore, 1) := by decide +kernel
theorem dX9_setDefaults_51 : decode cX9_setDefaults 51 = .ok (.iinc 2 1, 3) := by decide +kernel
theorem dX9_setDefaults_54 : decode cX9_setDefaults 54 = .ok (.goto (-23), 3) := by decide +kernel
theorem dX9_setDefaults_57 : decode cX9_setDefaults 57 = .ok (.iinc 1 1, 3) := by decide +kernel
theorem dX9_setDefaults_60 : decode cX9_setDefaults 60 = .ok (.goto (-36), 3) := by decide +kernel
theorem dX9_setDefaults_63 : decode cX9_setDefaults 63 = .ok (.aload_n 0, 1) := by decide +kernel
theorem dX9_setDefaults_64 : decode cX9_setDefaults 64 = .ok (.getfield 13, 3) := by decide +kernel
theorem dX9_setDefaults_67 : decode cX9_setDefaults 67 = .ok (.bipush 57, 2) := by decide +kernel
theorem dX9_setDefaults_69 : decode cX9_setDefaults 69 = .ok (.iconst (-1), 1) := by decide +kernel
theorem dX9_setDefaults_70 : decode cX9_setDefaults 70 = .ok (.iastore, 1) := by decide +kernel
theorem dX9_setDefaults_71 : decode cX9_setDefaults 71 = .ok (.aload_n 0, 1) := by decide +kernel
theorem dX9_setDefaults_72 : decode cX9_setDefaults 72 = .ok (.iconst 0, 1) := by decide +kernel
theorem dX9_setDefaults_73 : decode cX9_setDefaults 73 = .ok (.putfield 108, 3) := by decide +kernel
theorem dX9_setDefaults_76 : decode cX9_setDefaults 76 = .ok (.aload_n 0, 1) := by decide +kernel
theorem dX9_setDefaults_77 : decode cX9_setDefaults 77 = .ok (.iconst 0, 1) := by decide +kernel
theorem dX9_setDefaults_78 : decode cX9_setDefaults 78 = .ok (.putfield 112, 3) := by decide +kernel
theorem dX9_setDefaults_81 : decode cX9_setDefaults 81 = .ok (.return_, 1) := by decide +kernel
theorem dX9_takeDraft_0 : decode cX9_takeDraft 0 = .ok (.iconst 0, 1) := by decide +kernel
theorem dX9_takeDraft_1 : decode cX9_takeDraft 1 = .ok (.istore_n 1, 1) := by decide +kernel
theorem dX9_takeDraft_2 : decode cX9_takeDraft 2 = .ok (.iload_n 1, 1) := by decide +kernel
theorem dX9_takeDraft_3 : decode cX9_takeDraft 3 = .ok (.sipush 140, 3) := by decide +kernel
theorem dX9_takeDraft_6 : decode cX9_takeDraft 6 = .ok (.if_icmp .ge 21, 3) := by decide +kernel
theorem dX9_takeDraft_9 : decode cX9_takeDraft 9 = .ok (.aload_n 0, 1) := by decide +kernel
theorem dX9_takeDraft_10 : decode cX9_takeDraft 10 = .ok (.getfield 17, 3) := by decide +kernel
theorem dX9_takeDraft_13 : decode cX9_takeDraft 13 = .ok (.iload_n 1, 1) := by decide +kernel
theorem dX9_takeDraft_14 : decode cX9_takeDraft 14 = .ok (.aload_n 0, 1) := by decide +kernel
theorem dX9_takeDraft_15 : decode cX9_takeDraft 15 = .ok (.getfield 13, 3) := by decide +kernel
theorem dX9_takeDraft_18 : decode cX9_takeDraft 18 = .ok (.iload_n 1, 1) := by decide +kernel
theorem dX9_takeDraft_19 : decode cX9_takeDraft 19 = .ok (.iaload, 1) := by decide +kernel
theorem dX9_takeDraft_20 : decode cX9_takeDraft 20 = .ok (.iastore, 1) := by decide +kernel
theorem dX9_takeDraft_21 : decode cX9_takeDraft 21 = .ok (.iinc 1 1, 3) := by decide +kernel
theorem dX9_takeDraft_24 : decode cX9_takeDraft 24 = .ok (.goto (-22), 3) := by decide +kernel
theorem dX9_takeDraft_27 : decode cX9_takeDraft 27 = .ok (.aload_n 0, 1) := by decide +kernel
theorem dX9_takeDraft_28 : decode cX9_takeDraft 28 = .ok (.iconst 0, 1) := by decide +kernel
theorem dX9_takeDraft_29 : decode cX9_takeDraft 29 = .ok (.putfield 115, 3) := by decide +kernel
theorem dX9_takeDraft_32 : decode cX9_takeDraft 32 = .ok (.aload_n 0, 1) := by decide +kernel
theorem dX9_takeDraft_33 : decode cX9_takeDraft 33 = .ok (.getfield 26, 3) := by decide +kernel
theorem dX9_takeDraft_36 : decode cX9_takeDraft 36 = .ok (.iconst 0, 1) := by decide +kernel
theorem dX9_takeDraft_37 : decode cX9_takeDraft 37 = .ok (.iconst 0, 1) := by decide +kernel
theorem dX9_takeDraft_38 : decode cX9_takeDraft 38 = .ok (.bastore, 1) := by decide +kernel
theorem dX9_takeDraft_39 : decode cX9_takeDraft 39 = .ok (.aload_n 0, 1) := by decide +kernel
theorem dX9_takeDraft_40 : decode cX9_takeDraft 40 = .ok (.getfield 26, 3) := by decide +kernel
theorem dX9_takeDraft_43 : decode cX9_takeDraft 43 = .ok (.iconst 1, 1) := by decide +kernel
theorem dX9_takeDraft_44 : decode cX9_takeDraft 44 = .ok (.iconst 0, 1) := by decide +kernel
theorem dX9_takeDraft_45 : decode cX9_takeDraft 45 = .ok (.bastore, 1) := by decide +kernel
theorem dX9_takeDraft_46 : decode cX9_takeDraft 46 = .ok (.return_, 1) := by decide +kernel
theorem dX9_readSet_0 : decode cX9_readSet 0 = .ok (.iconst 0, 1) := by decide +kernel
theorem dX9_readSet_1 : decode cX9_readSet 1 = .ok (.istore_n 3, 1) := by decide +kernel
theorem dX9_readSet_2 : decode cX9_readSet 2 = .ok (.iconst 0, 1) := by decide +kernel
theorem dX9_readSet_3 : decode cX9_readSet 3 = .ok (.istore 4, 2) := by decide +kernel
theorem dX9_readSet_5 : decode cX9_readSet 5 = .ok (.iconst 1, 1) := by decide +kernel
theorem dX9_readSet_6 : decode cX9_readSet 6 = .ok (.istore 5, 2) := by decide +kernel
theorem dX9_readSet_8 : decode cX9_readSet 8 = .ok (.iload 5, 2) := by decide +kernel
theorem dX9_readSet_10 : decode cX9_readSet 10 = .ok (.ifCond .eq 93, 3) := by decide +kernel
theorem dX9_readSet_13 : decode cX9_readSet 13 = .ok (.aload_n 0, 1) := by decide +kernel
theorem dX9_readSet_14 : decode cX9_readSet 14 = .ok (.iconst 1, 1) := by decide +kernel
theorem dX9_readSet_15 : decode cX9_readSet 15 = .ok (.iload_n 1, 1) := by decide +kernel
theorem dX9_readSet_16 : decode cX9_readSet 16 = .ok (.invokevirtual 101, 3) := by decide +kernel
theorem dX9_readSet_19 : decode cX9_readSet 19 = .ok (.istore 6, 2) := by decide +kernel
theorem dX9_readSet_21 : decode cX9_readSet 21 = .ok (.aload_n 0, 1) := by decide +kernel
theorem dX9_readSet_22 : decode cX9_readSet 22 = .ok (.iload_n 3, 1) := by decide +kernel
theorem dX9_readSet_23 : decode cX9_readSet 23 = .ok (.iload 6, 2) := by decide +kernel
theorem dX9_readSet_25 : decode cX9_readSet 25 = .ok (.invokestatic 118, 3) := by decide +kernel
theorem dX9_readSet_28 : decode cX9_readSet 28 = .ok (.ifCond .ne 7, 3) := by decide +kernel
theorem dX9_readSet_31 : decode cX9_readSet 31 = .ok (.iconst 1, 1) := by decide +kernel
theorem dX9_readSet_32 : decode cX9_readSet 32 = .ok (.goto 4, 3) := by decide +kernel
theorem dX9_readSet_35 : decode cX9_readSet 35 = .ok (.iconst 0, 1) := by decide +kernel
theorem dX9_readSet_36 : decode cX9_readSet 36 = .ok (.iconst 3, 1) := by decide +kernel
theorem dX9_readSet_37 : decode cX9_readSet 37 = .ok (.invokevirtual 94, 3) := by decide +kernel
theorem dX9_readSet_40 : decode cX9_readSet 40 = .ok (.ifCond .eq 22, 3) := by decide +kernel
theorem dX9_readSet_43 : decode cX9_readSet 43 = .ok (.aload_n 0, 1) := by decide +kernel
theorem dX9_readSet_44 : decode cX9_readSet 44 = .ok (.iload 4, 2) := by decide +kernel
theorem dX9_readSet_46 : decode cX9_readSet 46 = .ok (.iload_n 2, 1) := by decide +kernel
theorem dX9_readSet_47 : decode cX9_readSet 47 = .ok (.if_icmp .ge 7, 3) := by decide +kernel
theorem dX9_readSet_50 : decode cX9_readSet 50 = .ok (.iconst 1, 1) := by decide +kernel
theorem dX9_readSet_51 : decode cX9_readSet 51 = .ok (.goto 4, 3) := by decide +kernel
theorem dX9_readSet_54 : decode cX9_readSet 54 = .ok (.iconst 0, 1) := by decide +kernel
theorem dX9_readSet_55 : decode cX9_readSet 55 = .ok (.iconst 4, 1) := by decide +kernel
theorem dX9_readSet_56 : decode cX9_readSet 56 = .ok (.invokevirtual 94, 3) := by decide +kernel
theorem dX9_readSet_59 : decode cX9_readSet 59 = .ok (.ifCond .ne 5, 3) := by decide +kernel
theorem dX9_readSet_62 : decode cX9_readSet 62 = .ok (.iload_n 3, 1) := by decide +kernel
theorem dX9_readSet_63 : decode cX9_readSet 63 = .ok (.ireturn, 1) := by decide +kernel
theorem dX9_readSet_64 : decode cX9_readSet 64 = .ok (.iload_n 3, 1) := by decide +kernel
theorem dX9_readSet_65 : decode cX9_readSet 65 = .ok (.iconst 1, 1) := by decide +kernel
theorem dX9_readSet_66 : decode cX9_readSet 66 = .ok (.iload 6, 2) := by decide +kernel
theorem dX9_readSet_68 : decode cX9_readSet 68 = .ok (.ishl, 1) := by decide +kernel
theorem dX9_readSet_69 : decode cX9_readSet 69 = .ok (.ior, 1) := by decide +kernel
theorem dX9_readSet_70 : decode cX9_readSet 70 = .ok (.istore_n 3, 1) := by decide +kernel
theorem dX9_readSet_71 : decode cX9_readSet 71 = .ok (.iinc 4 1, 3) := by decide +kernel
theorem dX9_readSet_74 : decode cX9_readSet 74 = .ok (.aload_n 0, 1) := by decide +kernel
theorem dX9_readSet_75 : decode cX9_readSet 75 = .ok (.invokevirtual 105, 3) := by decide +kernel
theorem dX9_readSet_78 : decode cX9_readSet 78 = .ok (.aload_n 0, 1) := by decide +kernel
theorem dX9_readSet_79 : decode cX9_readSet 79 = .ok (.getfield 79, 3) := by decide +kernel
theorem dX9_readSet_82 : decode cX9_readSet 82 = .ok (.ifCond .ne 15, 3) := by decide +kernel
theorem dX9_readSet_85 : decode cX9_readSet 85 = .ok (.aload_n 0, 1) := by decide +kernel
theorem dX9_readSet_86 : decode cX9_readSet 86 = .ok (.getfield 69, 3) := by decide +kernel
theorem dX9_readSet_89 : decode cX9_readSet 89 = .ok (.iconst 2, 1) := by decide +kernel
theorem dX9_readSet_90 : decode cX9_readSet 90 = .ok (.if_icmp .ne 7, 3) := by decide +kernel
theorem dX9_readSet_93 : decode cX9_readSet 93 = .ok (.iconst 1, 1) := by decide +kernel
theorem dX9_readSet_94 : decode cX9_readSet 94 = .ok (.goto 4, 3) := by decide +kernel
theorem dX9_readSet_97 : decode cX9_readSet 97 = .ok (.iconst 0, 1) := by decide +kernel
theorem dX9_readSet_98 : decode cX9_readSet 98 = .ok (.istore 5, 2) := by decide +kernel
theorem dX9_readSet_100 : decode cX9_readSet 100 = .ok (.goto (-92), 3) := by decide +kernel
theorem dX9_readSet_103 : decode cX9_readSet 103 = .ok (.iload_n 3, 1) := by decide +kernel
theorem dX9_readSet_104 : decode cX9_readSet 104 = .ok (.ireturn, 1) := by decide +kernel
theorem dX9_ladderLine_0 : decode cX9_ladderLine 0 = .ok (.aload_n 0, 1) := by decide +kernel
theorem dX9_ladderLine_1 : decode cX9_ladderLine 1 = .ok (.aload_n 0, 1) := by decide +kernel
theorem dX9_ladderLine_2 : decode cX9_ladderLine 2 = .ok (.getfield 13, 3) := by decide +kernel
theorem dX9_ladderLine_5 : decode cX9_ladderLine 5 = .ok (.iconst 0, 1) := by decide +kernel
theorem dX9_ladderLine_6 : decode cX9_ladderLine 6 = .ok (.iaload, 1) := by decide +kernel
theorem dX9_ladderLine_7 : decode cX9_ladderLine 7 = .ok (.bipush 6, 2) := by decide +kernel
theorem dX9_ladderLine_9 : decode cX9_ladderLine 9 = .ok (.if_icmp .ge 7, 3) := by decide +kernel
theorem dX9_ladderLine_12 : decode cX9_ladderLine 12 = .ok (.iconst 1, 1) := by decide +kernel
theorem dX9_ladderLine_13 : decode cX9_ladderLine 13 = .ok (.goto 4, 3) := by decide +kernel
theorem dX9_ladderLine_16 : decode cX9_ladderLine 16 = .ok (.iconst 0, 1) := by decide +kernel
theorem dX9_ladderLine_17 : decode cX9_ladderLine 17 = .ok (.iconst 4, 1) := by decide +kernel
theorem dX9_ladderLine_18 : decode cX9_ladderLine 18 = .ok (.invokevirtual 94, 3) := by decide +kernel
theorem dX9_ladderLine_21 : decode cX9_ladderLine 21 = .ok (.ifCond .ne 4, 3) := by decide +kernel
theorem dX9_ladderLine_24 : decode cX9_ladderLine 24 = .ok (.return_, 1) := by decide +kernel
theorem dX9_ladderLine_25 : decode cX9_ladderLine 25 = .ok (.aload_n 0, 1) := by decide +kernel
theorem dX9_ladderLine_26 : decode cX9_ladderLine 26 = .ok (.invokevirtual 105, 3) := by decide +kernel
theorem dX9_ladderLine_29 : decode cX9_ladderLine 29 = .ok (.iconst 1, 1) := by decide +kernel
theorem dX9_ladderLine_30 : decode cX9_ladderLine 30 = .ok (.bipush 7, 2) := by decide +kernel
theorem dX9_ladderLine_32 : decode cX9_ladderLine 32 = .ok (.aload_n 0, 1) := by decide +kernel
theorem dX9_ladderLine_33 : decode cX9_ladderLine 33 = .ok (.getfield 13, 3) := by decide +kernel
theorem dX9_ladderLine_36 : decode cX9_ladderLine 36 = .ok (.iconst 0, 1) := by decide +kernel
theorem dX9_ladderLine_37 : decode cX9_ladderLine 37 = .ok (.iaload, 1) := by decide +kernel
theorem dX9_ladderLine_38 : decode cX9_ladderLine 38 = .ok (.imul, 1) := by decide +kernel
theorem dX9_ladderLine_39 : decode cX9_ladderLine 39 = .ok (.iadd, 1) := by decide +kernel
theorem dX9_ladderLine_40 : decode cX9_ladderLine 40 = .ok (.istore_n 1, 1) := by decide +kernel
theorem dX9_ladderLine_41 : decode cX9_ladderLine 41 = .ok (.aload_n 0, 1) := by decide +kernel
theorem dX9_ladderLine_42 : decode cX9_ladderLine 42 = .ok (.getfield 13, 3) := by decide +kernel
theorem dX9_ladderLine_45 : decode cX9_ladderLine 45 = .ok (.iload_n 1, 1) := by decide +kernel
theorem dX9_ladderLine_46 : decode cX9_ladderLine 46 = .ok (.iconst 0, 1) := by decide +kernel
theorem dX9_ladderLine_47 : decode cX9_ladderLine 47 = .ok (.iadd, 1) := by decide +kernel
theorem dX9_ladderLine_48 : decode cX9_ladderLine 48 = .ok (.aload_n 0, 1) := by decide +kernel
theorem dX9_ladderLine_49 : decode cX9_ladderLine 49 = .ok (.iconst 1, 1) := by decide +kernel
theorem dX9_ladderLine_50 : decode cX9_ladderLine 50 = .ok (.bipush 12, 2) := by decide +kernel
theorem dX9_ladderLine_52 : decode cX9_ladderLine 52 = .ok (.invokevirtual 122, 3) := by decide +kernel
theorem dX9_ladderLine_55 : decode cX9_ladderLine 55 = .ok (.iastore, 1) := by decide +kernel
theorem dX9_ladderLine_56 : decode cX9_ladderLine 56 = .ok (.aload_n 0, 1) := by decide +kernel
theorem dX9_ladderLine_57 : decode cX9_ladderLine 57 = .ok (.getfield 13, 3) := by decide +kernel
theorem dX9_ladderLine_60 : decode cX9_ladderLine 60 = .ok (.iload_n 1, 1) := by decide +kernel
theorem dX9_ladderLine_61 : decode cX9_ladderLine 61 = .ok (.iconst 2, 1) := by decide +kernel
theorem dX9_ladderLine_62 : decode cX9_ladderLine 62 = .ok (.iadd, 1) := by decide +kernel
theorem dX9_ladderLine_63 : decode cX9_ladderLine 63 = .ok (.aload_n 0, 1) := by decide +kernel
theorem dX9_ladderLine_64 : decode cX9_ladderLine 64 = .ok (.aload_n 0, 1) := by decide +kernel
theorem dX9_ladderLine_65 : decode cX9_ladderLine 65 = .ok (.getfield 13, 3) := by decide +kernel
theorem dX9_ladderLine_68 : decode cX9_ladderLine 68 = .ok (.iload_n 1, 1) := by decide +kernel
theorem dX9_ladderLine_69 : decode cX9_ladderLine 69 = .ok (.iconst 0, 1) := by decide +kernel
theorem dX9_ladderLine_70 : decode cX9_ladderLine 70 = .ok (.iadd, 1) := by decide +kernel
theorem dX9_ladderLine_71 : decode cX9_ladderLine 71 = .ok (.iaload, 1) := by decide +kernel
theorem dX9_ladderLine_72 : decode cX9_ladderLine 72 = .ok (.iconst 3, 1) := by decide +kernel
theorem dX9_ladderLine_73 : decode cX9_ladderLine 73 = .ok (.invokevirtual 125, 3) := by decide +kernel
theorem dX9_ladderLine_76 : decode cX9_ladderLine 76 = .ok (.iastore, 1) := by decide +kernel
theorem dX9_ladderLine_77 : decode cX9_ladderLine 77 = .ok (.aload_n 0, 1) := by decide +kernel
theorem dX9_ladderLine_78 : decode cX9_ladderLine 78 = .ok (.getfield 13, 3) := by decide +kernel
theorem dX9_ladderLine_81 : decode cX9_ladderLine 81 = .ok (.iload_n 1, 1) := by decide +kernel
theorem dX9_ladderLine_82 : decode cX9_ladderLine 82 = .ok (.iconst 1, 1) := by decide +kernel
theorem dX9_ladderLine_83 : decode cX9_ladderLine 83 = .ok (.iadd, 1) := by decide +kernel
theorem dX9_ladderLine_84 : decode cX9_ladderLine 84 = .ok (.aload_n 0, 1) := by decide +kernel
theorem dX9_ladderLine_85 : decode cX9_ladderLine 85 = .ok (.getfield 13, 3) := by decide +kernel
theorem dX9_ladderLine_88 : decode cX9_ladderLine 88 = .ok (.iload_n 1, 1) := by decide +kernel
theorem dX9_ladderLine_89 : decode cX9_ladderLine 89 = .ok (.iconst 2, 1) := by decide +kernel
theorem dX9_ladderLine_90 : decode cX9_ladderLine 90 = .ok (.iadd, 1) := by decide +kernel
theorem dX9_ladderLine_91 : decode cX9_ladderLine 91 = .ok (.iaload, 1) := by decide +kernel
theorem dX9_ladderLine_92 : decode cX9_ladderLine 92 = .ok (.invokestatic 128, 3) := by decide +kernel
theorem dX9_ladderLine_95 : decode cX9_ladderLine 95 = .ok (.iastore, 1) := by decide +kernel
theorem dX9_ladderLine_96 : decode cX9_ladderLine 96 = .ok (.aload_n 0, 1) := by decide +kernel
theorem dX9_ladderLine_97 : decode cX9_ladderLine 97 = .ok (.getfield 13, 3) := by decide +kernel
theorem dX9_ladderLine_100 : decode cX9_ladderLine 100 = .ok (.iload_n 1, 1) := by decide +kernel
theorem dX9_ladderLine_101 : decode cX9_ladderLine 101 = .ok (.iconst 4, 1) := by decide +kernel
theorem dX9_ladderLine_102 : decode cX9_ladderLine 102 = .ok (.iadd, 1) := by decide +kernel
theorem dX9_ladderLine_103 : decode cX9_ladderLine 103 = .ok (.bipush 14, 2) := by decide +kernel
theorem dX9_ladderLine_105 : decode cX9_ladderLine 105 = .ok (.iastore, 1) := by decide +kernel
theorem dX9_ladderLine_106 : decode cX9_ladderLine 106 = .ok (.aload_n 0, 1) := by decide +kernel
theorem dX9_ladderLine_107 : decode cX9_ladderLine 107 = .ok (.getfield 13, 3) := by decide +kernel
theorem dX9_ladderLine_110 : decode cX9_ladderLine 110 = .ok (.iload_n 1, 1) := by decide +kernel
theorem dX9_ladderLine_111 : decode cX9_ladderLine 111 = .ok (.iconst 5, 1) := by decide +kernel
theorem dX9_ladderLine_112 : decode cX9_ladderLine 112 = .ok (.iadd, 1) := by decide +kernel
theorem dX9_ladderLine_113 : decode cX9_ladderLine 113 = .ok (.iconst (-1), 1) := by decide +kernel
theorem dX9_ladderLine_114 : decode cX9_ladderLine 114 = .ok (.iastore, 1) := by decide +kernel
theorem dX9_ladderLine_115 : decode cX9_ladderLine 115 = .ok (.aload_n 0, 1) := by decide +kernel
theorem dX9_ladderLine_116 : decode cX9_ladderLine 116 = .ok (.ldc 131, 2) := by decide +kernel
theorem dX9_ladderLine_118 : decode cX9_ladderLine 118 = .ok (.invokevirtual 133, 3) := by decide +kernel
theorem dX9_ladderLine_121 : decode cX9_ladderLine 121 = .ok (.ifCond .eq 22, 3) := by decide +kernel
theorem dX9_ladderLine_124 : decode cX9_ladderLine 124 = .ok (.aload_n 0, 1) := by decide +kernel
theorem dX9_ladderLine_125 : decode cX9_ladderLine 125 = .ok (.invokevirtual 105, 3) := by decide +kernel
theorem dX9_ladderLine_128 : decode cX9_ladderLine 128 = .ok (.aload_n 0, 1) := by decide +kernel
theorem dX9_ladderLine_129 : decode cX9_ladderLine 129 = .ok (.getfield 13, 3) := by decide +kernel
theorem dX9_ladderLine_132 : decode cX9_ladderLine 132 = .ok (.iload_n 1, 1) := by decide +kernel
theorem dX9_ladderLine_133 : decode cX9_ladderLine 133 = .ok (.iconst 4, 1) := by decide +kernel
theorem dX9_ladderLine_134 : decode cX9_ladderLine 134 = .ok (.iadd, 1) := by decide +kernel
theorem dX9_ladderLine_135 : decode cX9_ladderLine 135 = .ok (.aload_n 0, 1) := by decide +kernel
theorem dX9_ladderLine_136 : decode cX9_ladderLine 136 = .ok (.bipush 12, 2) := by decide +kernel
theorem dX9_ladderLine_138 : decode cX9_ladderLine 138 = .ok (.iconst 4, 1) := by decide +kernel
theorem dX9_ladderLine_139 : decode cX9_ladderLine 139 = .ok (.invokevirtual 125, 3) := by decide +kernel
theorem dX9_ladderLine_142 : decode cX9_ladderLine 142 = .ok (.iastore, 1) := by decide +kernel
theorem dX9_ladderLine_143 : decode cX9_ladderLine 143 = .ok (.aload_n 0, 1) := by decide +kernel
theorem dX9_ladderLine_144 : decode cX9_ladderLine 144 = .ok (.getfield 13, 3) := by decide +kernel
theorem dX9_ladderLine_147 : decode cX9_ladderLine 147 = .ok (.iconst 0, 1) := by decide +kernel
theorem dX9_ladderLine_148 : decode cX9_ladderLine 148 = .ok (.dup2, 1) := by decide +kernel
theorem dX9_ladderLine_149 : decode cX9_ladderLine 149 = .ok (.iaload, 1) := by decide +kernel
theorem dX9_ladderLine_150 : decode cX9_ladderLine 150 = .ok (.iconst 1, 1) := by decide +kernel
theorem dX9_ladderLine_151 : decode cX9_ladderLine 151 = .ok (.iadd, 1) := by decide +kernel
theorem dX9_ladderLine_152 : decode cX9_ladderLine 152 = .ok (.iastore, 1) := by decide +kernel
theorem dX9_ladderLine_153 : decode cX9_ladderLine 153 = .ok (.return_, 1) := by decide +kernel
theorem dX9_lockLine_0 : decode cX9_lockLine 0 = .ok (.aload_n 0, 1) := by decide +kernel
theorem dX9_lockLine_1 : decode cX9_lockLine 1 = .ok (.invokevirtual 105, 3) := by decide +kernel
theorem dX9_lockLine_4 : decode cX9_lockLine 4 = .ok (.iconst 1, 1) := by decide +kernel
theorem dX9_lockLine_5 : decode cX9_lockLine 5 = .ok (.bipush 7, 2) := by decide +kernel
theorem dX9_lockLine_7 : decode cX9_lockLine 7 = .ok (.aload_n 0, 1) := by decide +kernel
theorem dX9_lockLine_8 : decode cX9_lockLine 8 = .ok (.iconst 0, 1) := by decide +kernel
theorem dX9_lockLine_9 : decode cX9_lockLine 9 = .ok (.aload_n 0, 1) := by decide +kernel
theorem dX9_lockLine_10 : decode cX9_lockLine 10 = .ok (.getfield 13, 3) := by decide +kernel
theorem dX9_lockLine_13 : decode cX9_lockLine 13 = .ok (.iconst 0, 1) := by decide +kernel
theorem dX9_lockLine_14 : decode cX9_lockLine 14 = .ok (.iaload, 1) := by decide +kernel
theorem dX9_lockLine_15 : decode cX9_lockLine 15 = .ok (.iconst 1, 1) := by decide +kernel
theorem dX9_lockLine_16 : decode cX9_lockLine 16 = .ok (.isub, 1) := by decide +kernel
theorem dX9_lockLine_17 : decode cX9_lockLine 17 = .ok (.invokevirtual 122, 3) := by decide +kernel
theorem dX9_lockLine_20 : decode cX9_lockLine 20 = .ok (.imul, 1) := by decide +kernel
theorem dX9_lockLine_21 : decode cX9_lockLine 21 = .ok (.iadd, 1) := by decide +kernel
theorem dX9_lockLine_22 : decode cX9_lockLine 22 = .ok (.istore_n 1, 1) := by decide +kernel
theorem dX9_lockLine_23 : decode cX9_lockLine 23 = .ok (.aload_n 0, 1) := by decide +kernel
theorem dX9_lockLine_24 : decode cX9_lockLine 24 = .ok (.iconst 1, 1) := by decide +kernel
theorem dX9_lockLine_25 : decode cX9_lockLine 25 = .ok (.aload_n 0, 1) := by decide +kernel
theorem dX9_lockLine_26 : decode cX9_lockLine 26 = .ok (.getfield 79, 3) := by decide +kernel
theorem dX9_lockLine_29 : decode cX9_lockLine 29 = .ok (.ifCond .ne 14, 3) := by decide +kernel
theorem dX9_lockLine_32 : decode cX9_lockLine 32 = .ok (.aload_n 0, 1) := by decide +kernel
theorem dX9_lockLine_33 : decode cX9_lockLine 33 = .ok (.getfield 13, 3) := by decide +kernel
theorem dX9_lockLine_36 : decode cX9_lockLine 36 = .ok (.iload_n 1, 1) := by decide +kernel
theorem dX9_lockLine_37 : decode cX9_lockLine 37 = .ok (.iconst 0, 1) := by decide +kernel
theorem dX9_lockLine_38 : decode cX9_lockLine 38 = .ok (.iadd, 1) := by decide +kernel
theorem dX9_lockLine_39 : decode cX9_lockLine 39 = .ok (.iaload, 1) := by decide +kernel
theorem dX9_lockLine_40 : decode cX9_lockLine 40 = .ok (.goto 4, 3) := by decide +kernel
theorem dX9_lockLine_43 : decode cX9_lockLine 43 = .ok (.iconst 1, 1) := by decide +kernel
theorem dX9_lockLine_44 : decode cX9_lockLine 44 = .ok (.invokevirtual 101, 3) := by decide +kernel
theorem dX9_lockLine_47 : decode cX9_lockLine 47 = .ok (.istore_n 2, 1) := by decide +kernel
theorem dX9_lockLine_48 : decode cX9_lockLine 48 = .ok (.aload_n 0, 1) := by decide +kernel
theorem dX9_lockLine_49 : decode cX9_lockLine 49 = .ok (.getfield 79, 3) := by decide +kernel
theorem dX9_lockLine_52 : decode cX9_lockLine 52 = .ok (.ifCond .ne 29, 3) := by decide +kernel
theorem dX9_lockLine_55 : decode cX9_lockLine 55 = .ok (.aload_n 0, 1) := by decide +kernel
theorem dX9_lockLine_56 : decode cX9_lockLine 56 = .ok (.aload_n 0, 1) := by decide +kernel
theorem dX9_lockLine_57 : decode cX9_lockLine 57 = .ok (.getfield 13, 3) := by decide +kernel
theorem dX9_lockLine_60 : decode cX9_lockLine 60 = .ok (.iload_n 1, 1) := by decide +kernel
theorem dX9_lockLine_61 : decode cX9_lockLine 61 = .ok (.iconst 3, 1) := by decide +kernel
theorem dX9_lockLine_62 : decode cX9_lockLine 62 = .ok (.iadd, 1) := by decide +kernel
theorem dX9_lockLine_63 : decode cX9_lockLine 63 = .ok (.iaload, 1) := by decide +kernel
theorem dX9_lockLine_64 : decode cX9_lockLine 64 = .ok (.iload_n 2, 1) := by decide +kernel
theorem dX9_lockLine_65 : decode cX9_lockLine 65 = .ok (.invokestatic 118, 3) := by decide +kernel
theorem dX9_lockLine_68 : decode cX9_lockLine 68 = .ok (.ifCond .ne 7, 3) := by decide +kernel
theorem dX9_lockLine_71 : decode cX9_lockLine 71 = .ok (.iconst 1, 1) := by decide +kernel
theorem dX9_lockLine_72 : decode cX9_lockLine 72 = .ok (.goto 4, 3) := by decide +kernel
theorem dX9_lockLine_75 : decode cX9_lockLine 75 = .ok (.iconst 0, 1) := by decide +kernel
theorem dX9_lockLine_76 : decode cX9_lockLine 76 = .ok (.iconst 3, 1) := by decide +kernel
theorem dX9_lockLine_77 : decode cX9_lockLine 77 = .ok (.invokevirtual 94, 3) := by decide +kernel
theorem dX9_lockLine_80 : decode cX9_lockLine 80 = .ok (.pop, 1) := by decide +kernel
theorem dX9_lockLine_81 : decode cX9_lockLine 81 = .ok (.aload_n 0, 1) := by decide +kernel
theorem dX9_lockLine_82 : decode cX9_lockLine 82 = .ok (.invokevirtual 105, 3) := by decide +kernel
theorem dX9_lockLine_85 : decode cX9_lockLine 85 = .ok (.aload_n 0, 1) := by decide +kernel
theorem dX9_lockLine_86 : decode cX9_lockLine 86 = .ok (.getfield 79, 3) := by decide +kernel
theorem dX9_lockLine_89 : decode cX9_lockLine 89 = .ok (.ifCond .ne 17, 3) := by decide +kernel
theorem dX9_lockLine_92 : decode cX9_lockLine 92 = .ok (.aload_n 0, 1) := by decide +kernel
theorem dX9_lockLine_93 : decode cX9_lockLine 93 = .ok (.getfield 13, 3) := by decide +kernel
theorem dX9_lockLine_96 : decode cX9_lockLine 96 = .ok (.iload_n 1, 1) := by decide +kernel
theorem dX9_lockLine_97 : decode cX9_lockLine 97 = .ok (.iconst 3, 1) := by decide +kernel
theorem dX9_lockLine_98 : decode cX9_lockLine 98 = .ok (.iadd, 1) := by decide +kernel
theorem dX9_lockLine_99 : decode cX9_lockLine 99 = .ok (.dup2, 1) := by decide +kernel
theorem dX9_lockLine_100 : decode cX9_lockLine 100 = .ok (.iaload, 1) := by decide +kernel
theorem dX9_lockLine_101 : decode cX9_lockLine 101 = .ok (.iconst 1, 1) := by decide +kernel
theorem dX9_lockLine_102 : decode cX9_lockLine 102 = .ok (.iload_n 2, 1) := by decide +kernel
theorem dX9_lockLine_103 : decode cX9_lockLine 103 = .ok (.ishl, 1) := by decide +kernel
theorem dX9_lockLine_104 : decode cX9_lockLine 104 = .ok (.ior, 1) := by decide +kernel
theorem dX9_lockLine_105 : decode cX9_lockLine 105 = .ok (.iastore, 1) := by decide +kernel
theorem dX9_lockLine_106 : decode cX9_lockLine 106 = .ok (.return_, 1) := by decide +kernel
theorem dX9_tokensLine_0 : decode cX9_tokensLine 0 = .ok (.aload_n 0, 1) := by decide +kernel
theorem dX9_tokensLine_1 : decode cX9_tokensLine 1 = .ok (.aload_n 0, 1) := by decide +kernel
theorem dX9_tokensLine_2 : decode cX9_tokensLine 2 = .ok (.getfield 108, 3) := by decide +kernel
theorem dX9_tokensLine_5 : decode cX9_tokensLine 5 = .ok (.ifCond .ne 7, 3) := by decide +kernel
theorem dX9_tokensLine_8 : decode cX9_tokensLine 8 = .ok (.iconst 1, 1) := by decide +kernel
theorem dX9_tokensLine_9 : decode cX9_tokensLine 9 = .ok (.goto 4, 3) := by decide +kernel
theorem dX9_tokensLine_12 : decode cX9_tokensLine 12 = .ok (.iconst 0, 1) := by decide +kernel
theorem dX9_tokensLine_13 : decode cX9_tokensLine 13 = .ok (.iconst 3, 1) := by decide +kernel
theorem dX9_tokensLine_14 : decode cX9_tokensLine 14 = .ok (.invokevirtual 94, 3) := by decide +kernel
theorem dX9_tokensLine_17 : decode cX9_tokensLine 17 = .ok (.ifCond .ne 4, 3) := by decide +kernel
theorem dX9_tokensLine_20 : decode cX9_tokensLine 20 = .ok (.return_, 1) := by decide +kernel
theorem dX9_tokensLine_21 : decode cX9_tokensLine 21 = .ok (.aload_n 0, 1) := by decide +kernel
theorem dX9_tokensLine_22 : decode cX9_tokensLine 22 = .ok (.iconst 1, 1) := by decide +kernel
theorem dX9_tokensLine_23 : decode cX9_tokensLine 23 = .ok (.putfield 108, 3) := by decide +kernel
theorem dX9_tokensLine_26 : decode cX9_tokensLine 26 = .ok (.aload_n 0, 1) := by decide +kernel
theorem dX9_tokensLine_27 : decode cX9_tokensLine 27 = .ok (.invokevirtual 105, 3) := by decide +kernel
theorem dX9_tokensLine_30 : decode cX9_tokensLine 30 = .ok (.iconst 0, 1) := by decide +kernel
theorem dX9_tokensLine_31 : decode cX9_tokensLine 31 = .ok (.istore_n 1, 1) := by decide +kernel
theorem dX9_tokensLine_32 : decode cX9_tokensLine 32 = .ok (.iload_n 1, 1) := by decide +kernel
theorem dX9_tokensLine_33 : decode cX9_tokensLine 33 = .ok (.iconst 3, 1) := by decide +kernel
theorem dX9_tokensLine_34 : decode cX9_tokensLine 34 = .ok (.if_icmp .ge 37, 3) := by decide +kernel
theorem dX9_tokensLine_37 : decode cX9_tokensLine 37 = .ok (.aload_n 0, 1) := by decide +kernel
theorem dX9_tokensLine_38 : decode cX9_tokensLine 38 = .ok (.iconst 0, 1) := by decide +kernel
theorem dX9_tokensLine_39 : decode cX9_tokensLine 39 = .ok (.bipush 9, 2) := by decide +kernel
theorem dX9_tokensLine_41 : decode cX9_tokensLine 41 = .ok (.invokevirtual 122, 3) := by decide +kernel
theorem dX9_tokensLine_44 : decode cX9_tokensLine 44 = .ok (.istore_n 2, 1) := by decide +kernel
theorem dX9_tokensLine_45 : decode cX9_tokensLine 45 = .ok (.aload_n 0, 1) := by decide +kernel
theorem dX9_tokensLine_46 : decode cX9_tokensLine 46 = .ok (.getfield 13, 3) := by decide +kernel
theorem dX9_tokensLine_49 : decode cX9_tokensLine 49 = .ok (.bipush 43, 2) := by decide +kernel
theorem dX9_tokensLine_51 : decode cX9_tokensLine 51 = .ok (.iload_n 1, 1) := by decide +kernel
theorem dX9_tokensLine_52 : decode cX9_tokensLine 52 = .ok (.iadd, 1) := by decide +kernel
theorem dX9_tokensLine_53 : decode cX9_tokensLine 53 = .ok (.iload_n 2, 1) := by decide +kernel
theorem dX9_tokensLine_54 : decode cX9_tokensLine 54 = .ok (.iastore, 1) := by decide +kernel
theorem dX9_tokensLine_55 : decode cX9_tokensLine 55 = .ok (.aload_n 0, 1) := by decide +kernel
theorem dX9_tokensLine_56 : decode cX9_tokensLine 56 = .ok (.getfield 13, 3) := by decide +kernel
theorem dX9_tokensLine_59 : decode cX9_tokensLine 59 = .ok (.bipush 49, 2) := by decide +kernel
theorem dX9_tokensLine_61 : decode cX9_tokensLine 61 = .ok (.iload_n 1, 1) := by decide +kernel
theorem dX9_tokensLine_62 : decode cX9_tokensLine 62 = .ok (.iadd, 1) := by decide +kernel
theorem dX9_tokensLine_63 : decode cX9_tokensLine 63 = .ok (.iload_n 2, 1) := by decide +kernel
theorem dX9_tokensLine_64 : decode cX9_tokensLine 64 = .ok (.iastore, 1) := by decide +kernel
theorem dX9_tokensLine_65 : decode cX9_tokensLine 65 = .ok (.iinc 1 1, 3) := by decide +kernel
theorem dX9_tokensLine_68 : decode cX9_tokensLine 68 = .ok (.goto (-36), 3) := by decide +kernel
theorem dX9_tokensLine_71 : decode cX9_tokensLine 71 = .ok (.return_, 1) := by decide +kernel
theorem dX9_firstLine_0 : decode cX9_firstLine 0 = .ok (.aload_n 0, 1) := by decide +kernel
theorem dX9_firstLine_1 : decode cX9_firstLine 1 = .ok (.aload_n 0, 1) := by decide +kernel
theorem dX9_firstLine_2 : decode cX9_firstLine 2 = .ok (.getfield 112, 3) := by decide +kernel
theorem dX9_firstLine_5 : decode cX9_firstLine 5 = .ok (.ifCond .ne 7, 3) := by decide +kernel
theorem dX9_firstLine_8 : decode cX9_firstLine 8 = .ok (.iconst 1, 1) := by decide +kernel
theorem dX9_firstLine_9 : decode cX9_firstLine 9 = .ok (.goto 4, 3) := by decide +kernel
theorem dX9_firstLine_12 : decode cX9_firstLine 12 = .ok (.iconst 0, 1) := by decide +kernel
theorem dX9_firstLine_13 : decode cX9_firstLine 13 = .ok (.iconst 3, 1) := by decide +kernel
theorem dX9_firstLine_14 : decode cX9_firstLine 14 = .ok (.invokevirtual 94, 3) := by decide +kernel
theorem dX9_firstLine_17 : decode cX9_firstLine 17 = .ok (.ifCond .ne 4, 3) := by decide +kernel
theorem dX9_firstLine_20 : decode cX9_firstLine 20 = .ok (.return_, 1) := by decide +kernel
theorem dX9_firstLine_21 : decode cX9_firstLine 21 = .ok (.aload_n 0, 1) := by decide +kernel
theorem dX9_firstLine_22 : decode cX9_firstLine 22 = .ok (.iconst 1, 1) := by decide +kernel
theorem dX9_firstLine_23 : decode cX9_firstLine 23 = .ok (.putfield 112, 3) := by decide +kernel
theorem dX9_firstLine_26 : decode cX9_firstLine 26 = .ok (.aload_n 0, 1) := by decide +kernel
theorem dX9_firstLine_27 : decode cX9_firstLine 27 = .ok (.invokevirtual 105, 3) := by decide +kernel
theorem dX9_firstLine_30 : decode cX9_firstLine 30 = .ok (.aload_n 0, 1) := by decide +kernel
theorem dX9_firstLine_31 : decode cX9_firstLine 31 = .ok (.getfield 13, 3) := by decide +kernel
theorem dX9_firstLine_34 : decode cX9_firstLine 34 = .ok (.bipush 55, 2) := by decide +kernel
theorem dX9_firstLine_36 : decode cX9_firstLine 36 = .ok (.aload_n 0, 1) := by decide +kernel
theorem dX9_firstLine_37 : decode cX9_firstLine 37 = .ok (.iconst 0, 1) := by decide +kernel
theorem dX9_firstLine_38 : decode cX9_firstLine 38 = .ok (.iconst 1, 1) := by decide +kernel
theorem dX9_firstLine_39 : decode cX9_firstLine 39 = .ok (.invokevirtual 122, 3) := by decide +kernel
theorem dX9_firstLine_42 : decode cX9_firstLine 42 = .ok (.iastore, 1) := by decide +kernel
theorem dX9_firstLine_43 : decode cX9_firstLine 43 = .ok (.return_, 1) := by decide +kernel
theorem dX9_statement_0 : decode cX9_statement 0 = .ok (.aload_n 0, 1) := by decide +kernel
theorem dX9_statement_1 : decode cX9_statement 1 = .ok (.ldc 137, 2) := by decide +kernel
theorem dX9_statement_3 : decode cX9_statement 3 = .ok (.invokevirtual 133, 3) := by decide +kernel
theorem dX9_statement_6 : decode cX9_statement 6 = .ok (.ifCond .eq 10, 3) := by decide +kernel
theorem dX9_statement_9 : decode cX9_statement 9 = .ok (.aload_n 0, 1) := by decide +kernel
theorem dX9_statement_10 : decode cX9_statement 10 = .ok (.invokevirtual 139, 3) := by decide +kernel
theorem dX9_statement_13 : decode cX9_statement 13 = .ok (.goto 58, 3) := by decide +kernel
theorem dX9_statement_16 : decode cX9_statement 16 = .ok (.aload_n 0, 1) := by decide +kernel
theorem dX9_statement_17 : decode cX9_statement 17 = .ok (.ldc 142, 2) := by decide +kernel
theorem dX9_statement_19 : decode cX9_statement 19 = .ok (.invokevirtual 133, 3) := by decide +kernel
theorem dX9_statement_22 : decode cX9_statement 22 = .ok (.ifCond .eq 10, 3) := by decide +kernel
theorem dX9_statement_25 : decode cX9_statement 25 = .ok (.aload_n 0, 1) := by decide +kernel
theorem dX9_statement_26 : decode cX9_statement 26 = .ok (.invokevirtual 144, 3) := by decide +kernel
theorem dX9_statement_29 : decode cX9_statement 29 = .ok (.goto 42, 3) := by decide +kernel
theorem dX9_statement_32 : decode cX9_statement 32 = .ok (.aload_n 0, 1) := by decide +kernel
theorem dX9_statement_33 : decode cX9_statement 33 = .ok (.ldc 147, 2) := by decide +kernel
theorem dX9_statement_35 : decode cX9_statement 35 = .ok (.invokevirtual 133, 3) := by decide +kernel
theorem dX9_statement_38 : decode cX9_statement 38 = .ok (.ifCond .eq 10, 3) := by decide +kernel
theorem dX9_statement_41 : decode cX9_statement 41 = .ok (.aload_n 0, 1) := by decide +kernel
theorem dX9_statement_42 : decode cX9_statement 42 = .ok (.invokevirtual 149, 3) := by decide +kernel
theorem dX9_statement_45 : decode cX9_statement 45 = .ok (.goto 26, 3) := by decide +kernel
theorem dX9_statement_48 : decode cX9_statement 48 = .ok (.aload_n 0, 1) := by decide +kernel
theorem dX9_statement_49 : decode cX9_statement 49 = .ok (.ldc 152, 2) := by decide +kernel
theorem dX9_statement_51 : decode cX9_statement 51 = .ok (.invokevirtual 133, 3) := by decide +kernel
theorem dX9_statement_54 : decode cX9_statement 54 = .ok (.ifCond .eq 10, 3) := by decide +kernel
theorem dX9_statement_57 : decode cX9_statement 57 = .ok (.aload_n 0, 1) := by decide +kernel
theorem dX9_statement_58 : decode cX9_statement 58 = .ok (.invokevirtual 154, 3) := by decide +kernel
theorem dX9_statement_61 : decode cX9_statement 61 = .ok (.goto 10, 3) := by decide +kernel
theorem dX9_statement_64 : decode cX9_statement 64 = .ok (.aload_n 0, 1) := by decide +kernel
theorem dX9_statement_65 : decode cX9_statement 65 = .ok (.iconst 0, 1) := by decide +kernel
theorem dX9_statement_66 : decode cX9_statement 66 = .ok (.iconst 1, 1) := by decide +kernel
theorem dX9_statement_67 : decode cX9_statement 67 = .ok (.invokevirtual 94, 3) := by decide +kernel
theorem dX9_statement_70 : decode cX9_statement 70 = .ok (.pop, 1) := by decide +kernel
theorem dX9_statement_71 : decode cX9_statement 71 = .ok (.aload_n 0, 1) := by decide +kernel
theorem dX9_statement_72 : decode cX9_statement 72 = .ok (.aload_n 0, 1) := by decide +kernel
theorem dX9_statement_73 : decode cX9_statement 73 = .ok (.getfield 69, 3) := by decide +kernel
theorem dX9_statement_76 : decode cX9_statement 76 = .ok (.iconst 3, 1) := by decide +kernel
theorem dX9_statement_77 : decode cX9_statement 77 = .ok (.if_icmp .ne 7, 3) := by decide +kernel
theorem dX9_statement_80 : decode cX9_statement 80 = .ok (.iconst 1, 1) := by decide +kernel
theorem dX9_statement_81 : decode cX9_statement 81 = .ok (.goto 4, 3) := by decide +kernel
theorem dX9_statement_84 : decode cX9_statement 84 = .ok (.iconst 0, 1) := by decide +kernel
theorem dX9_statement_85 : decode cX9_statement 85 = .ok (.iconst 1, 1) := by decide +kernel
theorem dX9_statement_86 : decode cX9_statement 86 = .ok (.invokevirtual 94, 3) := by decide +kernel
theorem dX9_statement_89 : decode cX9_statement 89 = .ok (.ifCond .eq 7, 3) := by decide +kernel
theorem dX9_statement_92 : decode cX9_statement 92 = .ok (.aload_n 0, 1) := by decide +kernel
theorem dX9_statement_93 : decode cX9_statement 93 = .ok (.invokevirtual 98, 3) := by decide +kernel
theorem dX9_statement_96 : decode cX9_statement 96 = .ok (.return_, 1) := by decide +kernel
theorem dX9_parse_0 : decode cX9_parse 0 = .ok (.aload_n 0, 1) := by decide +kernel
theorem dX9_parse_1 : decode cX9_parse 1 = .ok (.iconst 0, 1) := by decide +kernel
theorem dX9_parse_2 : decode cX9_parse 2 = .ok (.putfield 45, 3) := by decide +kernel
theorem dX9_parse_5 : decode cX9_parse 5 = .ok (.iload_n 1, 1) := by decide +kernel
theorem dX9_parse_6 : decode cX9_parse 6 = .ok (.iconst 0, 1) := by decide +kernel
theorem dX9_parse_7 : decode cX9_parse 7 = .ok (.aload_n 0, 1) := by decide +kernel
theorem dX9_parse_8 : decode cX9_parse 8 = .ok (.getfield 49, 3) := by decide +kernel
theorem dX9_parse_11 : decode cX9_parse 11 = .ok (.invokestatic 72, 3) := by decide +kernel
theorem dX9_parse_14 : decode cX9_parse 14 = .ok (.ifCond .ne 9, 3) := by decide +kernel
theorem dX9_parse_17 : decode cX9_parse 17 = .ok (.aload_n 0, 1) := by decide +kernel
theorem dX9_parse_18 : decode cX9_parse 18 = .ok (.iconst 1, 1) := by decide +kernel
theorem dX9_parse_19 : decode cX9_parse 19 = .ok (.invokevirtual 157, 3) := by decide +kernel
theorem dX9_parse_22 : decode cX9_parse 22 = .ok (.ireturn, 1) := by decide +kernel
theorem dX9_parse_23 : decode cX9_parse 23 = .ok (.aload_n 0, 1) := by decide +kernel
theorem dX9_parse_24 : decode cX9_parse 24 = .ok (.iload_n 1, 1) := by decide +kernel
theorem dX9_parse_25 : decode cX9_parse 25 = .ok (.putfield 56, 3) := by decide +kernel
theorem dX9_parse_28 : decode cX9_parse 28 = .ok (.aload_n 0, 1) := by decide +kernel
theorem dX9_parse_29 : decode cX9_parse 29 = .ok (.iconst 0, 1) := by decide +kernel
theorem dX9_parse_30 : decode cX9_parse 30 = .ok (.putfield 49, 3) := by decide +kernel
theorem dX9_parse_33 : decode cX9_parse 33 = .ok (.aload_n 0, 1) := by decide +kernel
theorem dX9_parse_34 : decode cX9_parse 34 = .ok (.iconst 0, 1) := by decide +kernel
theorem dX9_parse_35 : decode cX9_parse 35 = .ok (.putfield 59, 3) := by decide +kernel
theorem dX9_parse_38 : decode cX9_parse 38 = .ok (.aload_n 0, 1) := by decide +kernel
theorem dX9_parse_39 : decode cX9_parse 39 = .ok (.iconst 0, 1) := by decide +kernel
theorem dX9_parse_40 : decode cX9_parse 40 = .ok (.putfield 79, 3) := by decide +kernel
theorem dX9_parse_43 : decode cX9_parse 43 = .ok (.aload_n 0, 1) := by decide +kernel
theorem dX9_parse_44 : decode cX9_parse 44 = .ok (.invokevirtual 39, 3) := by decide +kernel
theorem dX9_parse_47 : decode cX9_parse 47 = .ok (.aload_n 0, 1) := by decide +kernel
theorem dX9_parse_48 : decode cX9_parse 48 = .ok (.invokevirtual 98, 3) := by decide +kernel
theorem dX9_parse_51 : decode cX9_parse 51 = .ok (.aload_n 0, 1) := by decide +kernel
theorem dX9_parse_52 : decode cX9_parse 52 = .ok (.getfield 79, 3) := by decide +kernel
theorem dX9_parse_55 : decode cX9_parse 55 = .ok (.ifCond .ne 17, 3) := by decide +kernel
theorem dX9_parse_58 : decode cX9_parse 58 = .ok (.aload_n 0, 1) := by decide +kernel
theorem dX9_parse_59 : decode cX9_parse 59 = .ok (.getfield 69, 3) := by decide +kernel
theorem dX9_parse_62 : decode cX9_parse 62 = .ok (.ifCond .eq 10, 3) := by decide +kernel
theorem dX9_parse_65 : decode cX9_parse 65 = .ok (.aload_n 0, 1) := by decide +kernel
theorem dX9_parse_66 : decode cX9_parse 66 = .ok (.invokevirtual 160, 3) := by decide +kernel
theorem dX9_parse_69 : decode cX9_parse 69 = .ok (.goto (-18), 3) := by decide +kernel
theorem dX9_parse_72 : decode cX9_parse 72 = .ok (.aload_n 0, 1) := by decide +kernel
theorem dX9_parse_73 : decode cX9_parse 73 = .ok (.getfield 79, 3) := by decide +kernel
theorem dX9_parse_76 : decode cX9_parse 76 = .ok (.ifCond .eq 19, 3) := by decide +kernel
theorem dX9_parse_79 : decode cX9_parse 79 = .ok (.bipush (-2), 2) := by decide +kernel
theorem dX9_parse_81 : decode cX9_parse 81 = .ok (.bipush 8, 2) := by decide +kernel
theorem dX9_parse_83 : decode cX9_parse 83 = .ok (.aload_n 0, 1) := by decide +kernel
theorem dX9_parse_84 : decode cX9_parse 84 = .ok (.getfield 82, 3) := by decide +kernel
theorem dX9_parse_87 : decode cX9_parse 87 = .ok (.imul, 1) := by decide +kernel
theorem dX9_parse_88 : decode cX9_parse 88 = .ok (.aload_n 0, 1) := by decide +kernel
theorem dX9_parse_89 : decode cX9_parse 89 = .ok (.getfield 79, 3) := by decide +kernel
theorem dX9_parse_92 : decode cX9_parse 92 = .ok (.iadd, 1) := by decide +kernel
theorem dX9_parse_93 : decode cX9_parse 93 = .ok (.isub, 1) := by decide +kernel
theorem dX9_parse_94 : decode cX9_parse 94 = .ok (.ireturn, 1) := by decide +kernel
theorem dX9_parse_95 : decode cX9_parse 95 = .ok (.aload_n 0, 1) := by decide +kernel
theorem dX9_parse_96 : decode cX9_parse 96 = .ok (.invokevirtual 42, 3) := by decide +kernel
theorem dX9_parse_99 : decode cX9_parse 99 = .ok (.aload_n 0, 1) := by decide +kernel
theorem dX9_parse_100 : decode cX9_parse 100 = .ok (.invokevirtual 163, 3) := by decide +kernel
theorem dX9_parse_103 : decode cX9_parse 103 = .ok (.ireturn, 1) := by decide +kernel
theorem dX9_copy_0 : decode cX9_copy 0 = .ok (.iconst 0, 1) := by decide +kernel
theorem dX9_copy_1 : decode cX9_copy 1 = .ok (.istore 4, 2) := by decide +kernel
theorem dX9_copy_3 : decode cX9_copy 3 = .ok (.iload 4, 2) := by decide +kernel
theorem dX9_copy_5 : decode cX9_copy 5 = .ok (.sipush 140, 3) := by decide +kernel
theorem dX9_copy_8 : decode cX9_copy 8 = .ok (.if_icmp .ge 29, 3) := by decide +kernel
theorem dX9_copy_11 : decode cX9_copy 11 = .ok (.aload_n 2, 1) := by decide +kernel
theorem dX9_copy_12 : decode cX9_copy 12 = .ok (.sipush 140, 3) := by decide +kernel
theorem dX9_copy_15 : decode cX9_copy 15 = .ok (.iload_n 3, 1) := by decide +kernel
theorem dX9_copy_16 : decode cX9_copy 16 = .ok (.imul, 1) := by decide +kernel
theorem dX9_copy_17 : decode cX9_copy 17 = .ok (.iload 4, 2) := by decide +kernel
theorem dX9_copy_19 : decode cX9_copy 19 = .ok (.iadd, 1) := by decide +kernel
theorem dX9_copy_20 : decode cX9_copy 20 = .ok (.aload_n 0, 1) := by decide +kernel
theorem dX9_copy_21 : decode cX9_copy 21 = .ok (.sipush 140, 3) := by decide +kernel
theorem dX9_copy_24 : decode cX9_copy 24 = .ok (.iload_n 1, 1) := by decide +kernel
theorem dX9_copy_25 : decode cX9_copy 25 = .ok (.imul, 1) := by decide +kernel
theorem dX9_copy_26 : decode cX9_copy 26 = .ok (.iload 4, 2) := by decide +kernel
theorem dX9_copy_28 : decode cX9_copy 28 = .ok (.iadd, 1) := by decide +kernel
theorem dX9_copy_29 : decode cX9_copy 29 = .ok (.iaload, 1) := by decide +kernel
theorem dX9_copy_30 : decode cX9_copy 30 = .ok (.iastore, 1) := by decide +kernel
theorem dX9_copy_31 : decode cX9_copy 31 = .ok (.iinc 4 1, 3) := by decide +kernel
theorem dX9_copy_34 : decode cX9_copy 34 = .ok (.goto (-31), 3) := by decide +kernel
theorem dX9_copy_37 : decode cX9_copy 37 = .ok (.return_, 1) := by decide +kernel
theorem dX9_keep_0 : decode cX9_keep 0 = .ok (.aload_n 0, 1) := by decide +kernel
theorem dX9_keep_1 : decode cX9_keep 1 = .ok (.getfield 115, 3) := by decide +kernel
theorem dX9_keep_4 : decode cX9_keep 4 = .ok (.bipush 10, 2) := by decide +kernel
theorem dX9_keep_6 : decode cX9_keep 6 = .ok (.if_icmp .ne 42, 3) := by decide +kernel
theorem dX9_keep_9 : decode cX9_keep 9 = .ok (.iconst 1, 1) := by decide +kernel
theorem dX9_keep_10 : decode cX9_keep 10 = .ok (.istore_n 1, 1) := by decide +kernel
theorem dX9_keep_11 : decode cX9_keep 11 = .ok (.iload_n 1, 1) := by decide +kernel
theorem dX9_keep_12 : decode cX9_keep 12 = .ok (.bipush 10, 2) := by decide +kernel
theorem dX9_keep_14 : decode cX9_keep 14 = .ok (.if_icmp .ge 24, 3) := by decide +kernel
theorem dX9_keep_17 : decode cX9_keep 17 = .ok (.aload_n 0, 1) := by decide +kernel
theorem dX9_keep_18 : decode cX9_keep 18 = .ok (.getfield 20, 3) := by decide +kernel
theorem dX9_keep_21 : decode cX9_keep 21 = .ok (.iload_n 1, 1) := by decide +kernel
theorem dX9_keep_22 : decode cX9_keep 22 = .ok (.aload_n 0, 1) := by decide +kernel
theorem dX9_keep_23 : decode cX9_keep 23 = .ok (.getfield 20, 3) := by decide +kernel
theorem dX9_keep_26 : decode cX9_keep 26 = .ok (.iload_n 1, 1) := by decide +kernel
theorem dX9_keep_27 : decode cX9_keep 27 = .ok (.iconst 1, 1) := by decide +kernel
theorem dX9_keep_28 : decode cX9_keep 28 = .ok (.isub, 1) := by decide +kernel
theorem dX9_keep_29 : decode cX9_keep 29 = .ok (.invokestatic 166, 3) := by decide +kernel
theorem dX9_keep_32 : decode cX9_keep 32 = .ok (.iinc 1 1, 3) := by decide +kernel
theorem dX9_keep_35 : decode cX9_keep 35 = .ok (.goto (-24), 3) := by decide +kernel
theorem dX9_keep_38 : decode cX9_keep 38 = .ok (.aload_n 0, 1) := by decide +kernel
theorem dX9_keep_39 : decode cX9_keep 39 = .ok (.dup, 1) := by decide +kernel
theorem dX9_keep_40 : decode cX9_keep 40 = .ok (.getfield 115, 3) := by decide +kernel
theorem dX9_keep_43 : decode cX9_keep 43 = .ok (.iconst 1, 1) := by decide +kernel
theorem dX9_keep_44 : decode cX9_keep 44 = .ok (.isub, 1) := by decide +kernel
theorem dX9_keep_45 : decode cX9_keep 45 = .ok (.putfield 115, 3) := by decide +kernel
theorem dX9_keep_48 : decode cX9_keep 48 = .ok (.aload_n 0, 1) := by decide +kernel
theorem dX9_keep_49 : decode cX9_keep 49 = .ok (.getfield 17, 3) := by decide +kernel
theorem dX9_keep_52 : decode cX9_keep 52 = .ok (.iconst 0, 1) := by decide +kernel
theorem dX9_keep_53 : decode cX9_keep 53 = .ok (.aload_n 0, 1) := by decide +kernel
theorem dX9_keep_54 : decode cX9_keep 54 = .ok (.getfield 20, 3) := by decide +kernel
theorem dX9_keep_57 : decode cX9_keep 57 = .ok (.aload_n 0, 1) := by decide +kernel
theorem dX9_keep_58 : decode cX9_keep 58 = .ok (.getfield 115, 3) := by decide +kernel
theorem dX9_keep_61 : decode cX9_keep 61 = .ok (.invokestatic 166, 3) := by decide +kernel
theorem dX9_keep_64 : decode cX9_keep 64 = .ok (.aload_n 0, 1) := by decide +kernel
theorem dX9_keep_65 : decode cX9_keep 65 = .ok (.dup, 1) := by decide +kernel
theorem dX9_keep_66 : decode cX9_keep 66 = .ok (.getfield 115, 3) := by decide +kernel
theorem dX9_keep_69 : decode cX9_keep 69 = .ok (.iconst 1, 1) := by decide +kernel
theorem dX9_keep_70 : decode cX9_keep 70 = .ok (.iadd, 1) := by decide +kernel
theorem dX9_keep_71 : decode cX9_keep 71 = .ok (.putfield 115, 3) := by decide +kernel
theorem dX9_keep_74 : decode cX9_keep 74 = .ok (.return_, 1) := by decide +kernel
theorem dX9_ladders_0 : decode cX9_ladders 0 = .ok (.aload_n 0, 1) := by decide +kernel
theorem dX9_ladders_1 : decode cX9_ladders 1 = .ok (.getfield 17, 3) := by decide +kernel
theorem dX9_ladders_4 : decode cX9_ladders 4 = .ok (.iconst 0, 1) := by decide +kernel
theorem dX9_ladders_5 : decode cX9_ladders 5 = .ok (.iaload, 1) := by decide +kernel
theorem dX9_ladders_6 : decode cX9_ladders 6 = .ok (.ireturn, 1) := by decide +kernel
theorem dX9_isLadder_0 : decode cX9_isLadder 0 = .ok (.iload_n 1, 1) := by decide +kernel
theorem dX9_isLadder_1 : decode cX9_isLadder 1 = .ok (.iconst 0, 1) := by decide +kernel
theorem dX9_isLadder_2 : decode cX9_isLadder 2 = .ok (.aload_n 0, 1) := by decide +kernel
theorem dX9_isLadder_3 : decode cX9_isLadder 3 = .ok (.invokevirtual 163, 3) := by decide +kernel
theorem dX9_isLadder_6 : decode cX9_isLadder 6 = .ok (.iconst 1, 1) := by decide +kernel
theorem dX9_isLadder_7 : decode cX9_isLadder 7 = .ok (.isub, 1) := by decide +kernel
theorem dX9_isLadder_8 : decode cX9_isLadder 8 = .ok (.invokestatic 72, 3) := by decide +kernel
theorem dX9_isLadder_11 : decode cX9_isLadder 11 = .ok (.ireturn, 1) := by decide +kernel
theorem dX9_at_0 : decode cX9_at 0 = .ok (.iconst 1, 1) := by decide +kernel
theorem dX9_at_1 : decode cX9_at 1 = .ok (.bipush 7, 2) := by decide +kernel
theorem dX9_at_3 : decode cX9_at 3 = .ok (.iload_n 0, 1) := by decide +kernel
theorem dX9_at_4 : decode cX9_at 4 = .ok (.imul, 1) := by decide +kernel
theorem dX9_at_5 : decode cX9_at 5 = .ok (.iadd, 1) := by decide +kernel
theorem dX9_at_6 : decode cX9_at 6 = .ok (.ireturn, 1) := by decide +kernel
theorem dX9_of_0 : decode cX9_of 0 = .ok (.aload_n 0, 1) := by decide +kernel
theorem dX9_of_1 : decode cX9_of 1 = .ok (.getfield 17, 3) := by decide +kernel
theorem dX9_of_4 : decode cX9_of 4 = .ok (.iload_n 1, 1) := by decide +kernel
theorem dX9_of_5 : decode cX9_of 5 = .ok (.invokestatic 170, 3) := by decide +kernel
theorem dX9_of_8 : decode cX9_of 8 = .ok (.iload_n 2, 1) := by decide +kernel
theorem dX9_of_9 : decode cX9_of 9 = .ok (.iadd, 1) := by decide +kernel
theorem dX9_of_10 : decode cX9_of 10 = .ok (.iaload, 1) := by decide +kernel
theorem dX9_of_11 : decode cX9_of 11 = .ok (.ireturn, 1) := by decide +kernel
theorem dX9_behind_0 : decode cX9_behind 0 = .ok (.iload_n 3, 1) := by decide +kernel
theorem dX9_behind_1 : decode cX9_behind 1 = .ok (.iload 4, 2) := by decide +kernel
theorem dX9_behind_3 : decode cX9_behind 3 = .ok (.isub, 1) := by decide +kernel
theorem dX9_behind_4 : decode cX9_behind 4 = .ok (.istore 5, 2) := by decide +kernel
theorem dX9_behind_6 : decode cX9_behind 6 = .ok (.iload 5, 2) := by decide +kernel
theorem dX9_behind_8 : decode cX9_behind 8 = .ok (.ifCond .ge 5, 3) := by decide +kernel
theorem dX9_behind_11 : decode cX9_behind 11 = .ok (.iconst (-1), 1) := by decide +kernel
theorem dX9_behind_12 : decode cX9_behind 12 = .ok (.ireturn, 1) := by decide +kernel
theorem dX9_behind_13 : decode cX9_behind 13 = .ok (.iload_n 2, 1) := by decide +kernel
theorem dX9_behind_14 : decode cX9_behind 14 = .ok (.iconst 1, 1) := by decide +kernel
theorem dX9_behind_15 : decode cX9_behind 15 = .ok (.iload_n 3, 1) := by decide +kernel
theorem dX9_behind_16 : decode cX9_behind 16 = .ok (.ishl, 1) := by decide +kernel
theorem dX9_behind_17 : decode cX9_behind 17 = .ok (.ixor, 1) := by decide +kernel
theorem dX9_behind_18 : decode cX9_behind 18 = .ok (.istore 6, 2) := by decide +kernel
theorem dX9_behind_20 : decode cX9_behind 20 = .ok (.iload 5, 2) := by decide +kernel
theorem dX9_behind_22 : decode cX9_behind 22 = .ok (.ifCond .ne 6, 3) := by decide +kernel
theorem dX9_behind_25 : decode cX9_behind 25 = .ok (.iload 6, 2) := by decide +kernel
theorem dX9_behind_27 : decode cX9_behind 27 = .ok (.ireturn, 1) := by decide +kernel
theorem dX9_behind_28 : decode cX9_behind 28 = .ok (.aload_n 0, 1) := by decide +kernel
theorem dX9_behind_29 : decode cX9_behind 29 = .ok (.iload_n 1, 1) := by decide +kernel
theorem dX9_behind_30 : decode cX9_behind 30 = .ok (.iconst 3, 1) := by decide +kernel
theorem dX9_behind_31 : decode cX9_behind 31 = .ok (.invokevirtual 173, 3) := by decide +kernel
theorem dX9_behind_34 : decode cX9_behind 34 = .ok (.iload 5, 2) := by decide +kernel
theorem dX9_behind_36 : decode cX9_behind 36 = .ok (.invokestatic 118, 3) := by decide +kernel
theorem dX9_behind_39 : decode cX9_behind 39 = .ok (.ifCond .ne 12, 3) := by decide +kernel
theorem dX9_behind_42 : decode cX9_behind 42 = .ok (.iload_n 2, 1) := by decide +kernel
theorem dX9_behind_43 : decode cX9_behind 43 = .ok (.iload 5, 2) := by decide +kernel
theorem dX9_behind_45 : decode cX9_behind 45 = .ok (.invokestatic 118, 3) := by decide +kernel
theorem dX9_behind_48 : decode cX9_behind 48 = .ok (.ifCond .eq 7, 3) := by decide +kernel
theorem dX9_behind_51 : decode cX9_behind 51 = .ok (.iconst (-1), 1) := by decide +kernel
theorem dX9_behind_52 : decode cX9_behind 52 = .ok (.goto 10, 3) := by decide +kernel
theorem dX9_behind_55 : decode cX9_behind 55 = .ok (.iload 6, 2) := by decide +kernel
theorem dX9_behind_57 : decode cX9_behind 57 = .ok (.iconst 1, 1) := by decide +kernel
theorem dX9_behind_58 : decode cX9_behind 58 = .ok (.iload 5, 2) := by decide +kernel
theorem dX9_behind_60 : decode cX9_behind 60 = .ok (.ishl, 1) := by decide +kernel
theorem dX9_behind_61 : decode cX9_behind 61 = .ok (.ior, 1) := by decide +kernel
theorem dX9_behind_62 : decode cX9_behind 62 = .ok (.ireturn, 1) := by decide +kernel
theorem dX9_lays_0 : decode cX9_lays 0 = .ok (.iconst 2, 1) := by decide +kernel
theorem dX9_lays_1 : decode cX9_lays 1 = .ok (.aload_n 0, 1) := by decide +kernel
theorem dX9_lays_2 : decode cX9_lays 2 = .ok (.iload_n 1, 1) := by decide +kernel
theorem dX9_lays_3 : decode cX9_lays 3 = .ok (.iconst 0, 1) := by decide +kernel
theorem dX9_lays_4 : decode cX9_lays 4 = .ok (.invokevirtual 173, 3) := by decide +kernel
theorem dX9_lays_7 : decode cX9_lays 7 = .ok (.ishl, 1) := by decide +kernel
theorem dX9_lays_8 : decode cX9_lays 8 = .ok (.istore_n 2, 1) := by decide +kernel
theorem dX9_lays_9 : decode cX9_lays 9 = .ok (.iconst 0, 1) := by decide +kernel
theorem dX9_lays_10 : decode cX9_lays 10 = .ok (.istore_n 3, 1) := by decide +kernel
theorem dX9_lays_11 : decode cX9_lays 11 = .ok (.iload_n 3, 1) := by decide +kernel
theorem dX9_lays_12 : decode cX9_lays 12 = .ok (.iload_n 2, 1) := by decide +kernel
theorem dX9_lays_13 : decode cX9_lays 13 = .ok (.if_icmp .ge 28, 3) := by decide +kernel
theorem dX9_lays_16 : decode cX9_lays 16 = .ok (.iload_n 3, 1) := by decide +kernel
theorem dX9_lays_17 : decode cX9_lays 17 = .ok (.invokestatic 128, 3) := by decide +kernel
theorem dX9_lays_20 : decode cX9_lays 20 = .ok (.aload_n 0, 1) := by decide +kernel
theorem dX9_lays_21 : decode cX9_lays 21 = .ok (.iload_n 1, 1) := by decide +kernel
theorem dX9_lays_22 : decode cX9_lays 22 = .ok (.iconst 1, 1) := by decide +kernel
theorem dX9_lays_23 : decode cX9_lays 23 = .ok (.invokevirtual 173, 3) := by decide +kernel
theorem dX9_lays_26 : decode cX9_lays 26 = .ok (.if_icmp .gt 9, 3) := by decide +kernel
theorem dX9_lays_29 : decode cX9_lays 29 = .ok (.aload_n 0, 1) := by decide +kernel
theorem dX9_lays_30 : decode cX9_lays 30 = .ok (.iload_n 1, 1) := by decide +kernel
theorem dX9_lays_31 : decode cX9_lays 31 = .ok (.iload_n 3, 1) := by decide +kernel
theorem dX9_lays_32 : decode cX9_lays 32 = .ok (.invokevirtual 176, 3) := by decide +kernel
theorem dX9_lays_35 : decode cX9_lays 35 = .ok (.iinc 3 2, 3) := by decide +kernel
theorem dX9_lays_38 : decode cX9_lays 38 = .ok (.goto (-27), 3) := by decide +kernel
theorem dX9_lays_41 : decode cX9_lays 41 = .ok (.return_, 1) := by decide +kernel
theorem dX9_laysOne_0 : decode cX9_laysOne 0 = .ok (.iconst 0, 1) := by decide +kernel
theorem dX9_laysOne_1 : decode cX9_laysOne 1 = .ok (.istore_n 3, 1) := by decide +kernel
theorem dX9_laysOne_2 : decode cX9_laysOne 2 = .ok (.iconst 0, 1) := by decide +kernel
theorem dX9_laysOne_3 : decode cX9_laysOne 3 = .ok (.istore 4, 2) := by decide +kernel
theorem dX9_laysOne_5 : decode cX9_laysOne 5 = .ok (.iconst 1, 1) := by decide +kernel
theorem dX9_laysOne_6 : decode cX9_laysOne 6 = .ok (.istore 5, 2) := by decide +kernel
theorem dX9_laysOne_8 : decode cX9_laysOne 8 = .ok (.iload 5, 2) := by decide +kernel
theorem dX9_laysOne_10 : decode cX9_laysOne 10 = .ok (.aload_n 0, 1) := by decide +kernel
theorem dX9_laysOne_11 : decode cX9_laysOne 11 = .ok (.iload_n 1, 1) := by decide +kernel
theorem dX9_laysOne_12 : decode cX9_laysOne 12 = .ok (.iconst 0, 1) := by decide +kernel
theorem dX9_laysOne_13 : decode cX9_laysOne 13 = .ok (.invokevirtual 173, 3) := by decide +kernel
theorem dX9_laysOne_16 : decode cX9_laysOne 16 = .ok (.if_icmp .gt 115, 3) := by decide +kernel
theorem dX9_laysOne_19 : decode cX9_laysOne 19 = .ok (.iconst 1, 1) := by decide +kernel
theorem dX9_laysOne_20 : decode cX9_laysOne 20 = .ok (.istore 6, 2) := by decide +kernel
theorem dX9_laysOne_22 : decode cX9_laysOne 22 = .ok (.iload 6, 2) := by decide +kernel
theorem dX9_laysOne_24 : decode cX9_laysOne 24 = .ok (.bipush 12, 2) := by decide +kernel
theorem dX9_laysOne_26 : decode cX9_laysOne 26 = .ok (.if_icmp .gt 99, 3) := by decide +kernel
theorem dX9_laysOne_29 : decode cX9_laysOne 29 = .ok (.iload_n 2, 1) := by decide +kernel
theorem dX9_laysOne_30 : decode cX9_laysOne 30 = .ok (.iload 5, 2) := by decide +kernel
theorem dX9_laysOne_32 : decode cX9_laysOne 32 = .ok (.invokestatic 118, 3) := by decide +kernel
theorem dX9_laysOne_35 : decode cX9_laysOne 35 = .ok (.ifCond .eq 90, 3) := by decide +kernel
theorem dX9_laysOne_38 : decode cX9_laysOne 38 = .ok (.aload_n 0, 1) := by decide +kernel
theorem dX9_laysOne_39 : decode cX9_laysOne 39 = .ok (.iload_n 1, 1) := by decide +kernel
theorem dX9_laysOne_40 : decode cX9_laysOne 40 = .ok (.iconst 4, 1) := by decide +kernel
theorem dX9_laysOne_41 : decode cX9_laysOne 41 = .ok (.invokevirtual 173, 3) := by decide +kernel
theorem dX9_laysOne_44 : decode cX9_laysOne 44 = .ok (.iload 6, 2) := by decide +kernel
theorem dX9_laysOne_46 : decode cX9_laysOne 46 = .ok (.invokestatic 118, 3) := by decide +kernel
theorem dX9_laysOne_49 : decode cX9_laysOne 49 = .ok (.ifCond .eq 16, 3) := by decide +kernel
theorem dX9_laysOne_52 : decode cX9_laysOne 52 = .ok (.aload_n 0, 1) := by decide +kernel
theorem dX9_laysOne_53 : decode cX9_laysOne 53 = .ok (.iload_n 1, 1) := by decide +kernel
theorem dX9_laysOne_54 : decode cX9_laysOne 54 = .ok (.iload_n 2, 1) := by decide +kernel
theorem dX9_laysOne_55 : decode cX9_laysOne 55 = .ok (.iload 5, 2) := by decide +kernel
theorem dX9_laysOne_57 : decode cX9_laysOne 57 = .ok (.iload 6, 2) := by decide +kernel
theorem dX9_laysOne_59 : decode cX9_laysOne 59 = .ok (.invokevirtual 180, 3) := by decide +kernel
theorem dX9_laysOne_62 : decode cX9_laysOne 62 = .ok (.goto 4, 3) := by decide +kernel
theorem dX9_laysOne_65 : decode cX9_laysOne 65 = .ok (.iconst (-1), 1) := by decide +kernel
theorem dX9_laysOne_66 : decode cX9_laysOne 66 = .ok (.istore 7, 2) := by decide +kernel
theorem dX9_laysOne_68 : decode cX9_laysOne 68 = .ok (.iload 7, 2) := by decide +kernel
theorem dX9_laysOne_70 : decode cX9_laysOne 70 = .ok (.iconst (-1), 1) := by decide +kernel
theorem dX9_laysOne_71 : decode cX9_laysOne 71 = .ok (.if_icmp .ne 6, 3) := by decide +kernel
theorem dX9_laysOne_74 : decode cX9_laysOne 74 = .ok (.goto 45, 3) := by decide +kernel
theorem dX9_laysOne_77 : decode cX9_laysOne 77 = .ok (.iload_n 3, 1) := by decide +kernel
theorem dX9_laysOne_78 : decode cX9_laysOne 78 = .ok (.iconst 1, 1) := by decide +kernel
theorem dX9_laysOne_79 : decode cX9_laysOne 79 = .ok (.aload_n 0, 1) := by decide +kernel
theorem dX9_laysOne_80 : decode cX9_laysOne 80 = .ok (.getfield 30, 3) := by decide +kernel
theorem dX9_laysOne_83 : decode cX9_laysOne 83 = .ok (.iload 7, 2) := by decide +kernel
theorem dX9_laysOne_85 : decode cX9_laysOne 85 = .ok (.iaload, 1) := by decide +kernel
theorem dX9_laysOne_86 : decode cX9_laysOne 86 = .ok (.ishl, 1) := by decide +kernel
theorem dX9_laysOne_87 : decode cX9_laysOne 87 = .ok (.ior, 1) := by decide +kernel
theorem dX9_laysOne_88 : decode cX9_laysOne 88 = .ok (.istore_n 3, 1) := by decide +kernel
theorem dX9_laysOne_89 : decode cX9_laysOne 89 = .ok (.aload_n 0, 1) := by decide +kernel
theorem dX9_laysOne_90 : decode cX9_laysOne 90 = .ok (.getfield 33, 3) := by decide +kernel
theorem dX9_laysOne_93 : decode cX9_laysOne 93 = .ok (.iload 7, 2) := by decide +kernel
theorem dX9_laysOne_95 : decode cX9_laysOne 95 = .ok (.iaload, 1) := by decide +kernel
theorem dX9_laysOne_96 : decode cX9_laysOne 96 = .ok (.iconst 1, 1) := by decide +kernel
theorem dX9_laysOne_97 : decode cX9_laysOne 97 = .ok (.iadd, 1) := by decide +kernel
theorem dX9_laysOne_98 : decode cX9_laysOne 98 = .ok (.iload 4, 2) := by decide +kernel
theorem dX9_laysOne_100 : decode cX9_laysOne 100 = .ok (.if_icmp .le 15, 3) := by decide +kernel
theorem dX9_laysOne_103 : decode cX9_laysOne 103 = .ok (.aload_n 0, 1) := by decide +kernel
theorem dX9_laysOne_104 : decode cX9_laysOne 104 = .ok (.getfield 33, 3) := by decide +kernel
theorem dX9_laysOne_107 : decode cX9_laysOne 107 = .ok (.iload 7, 2) := by decide +kernel
theorem dX9_laysOne_109 : decode cX9_laysOne 109 = .ok (.iaload, 1) := by decide +kernel
theorem dX9_laysOne_110 : decode cX9_laysOne 110 = .ok (.iconst 1, 1) := by decide +kernel
theorem dX9_laysOne_111 : decode cX9_laysOne 111 = .ok (.iadd, 1) := by decide +kernel
theorem dX9_laysOne_112 : decode cX9_laysOne 112 = .ok (.goto 5, 3) := by decide +kernel
theorem dX9_laysOne_115 : decode cX9_laysOne 115 = .ok (.iload 4, 2) := by decide +kernel
theorem dX9_laysOne_117 : decode cX9_laysOne 117 = .ok (.istore 4, 2) := by decide +kernel
theorem dX9_laysOne_119 : decode cX9_laysOne 119 = .ok (.iinc 6 1, 3) := by decide +kernel
theorem dX9_laysOne_122 : decode cX9_laysOne 122 = .ok (.goto (-100), 3) := by decide +kernel
theorem dX9_laysOne_125 : decode cX9_laysOne 125 = .ok (.iinc 5 1, 3) := by decide +kernel
theorem dX9_laysOne_128 : decode cX9_laysOne 128 = .ok (.goto (-120), 3) := by decide +kernel
theorem dX9_laysOne_131 : decode cX9_laysOne 131 = .ok (.iconst 0, 1) := by decide +kernel
theorem dX9_laysOne_132 : decode cX9_laysOne 132 = .ok (.istore 5, 2) := by decide +kernel
theorem dX9_laysOne_134 : decode cX9_laysOne 134 = .ok (.iload_n 3, 1) := by decide +kernel
theorem dX9_laysOne_135 : decode cX9_laysOne 135 = .ok (.iload 5, 2) := by decide +kernel
theorem dX9_laysOne_137 : decode cX9_laysOne 137 = .ok (.invokestatic 118, 3) := by decide +kernel
theorem dX9_laysOne_140 : decode cX9_laysOne 140 = .ok (.ifCond .eq 9, 3) := by decide +kernel
theorem dX9_laysOne_143 : decode cX9_laysOne 143 = .ok (.iinc 5 1, 3) := by decide +kernel
theorem dX9_laysOne_146 : decode cX9_laysOne 146 = .ok (.goto (-12), 3) := by decide +kernel
theorem dX9_laysOne_149 : decode cX9_laysOne 149 = .ok (.aload_n 0, 1) := by decide +kernel
theorem dX9_laysOne_150 : decode cX9_laysOne 150 = .ok (.getfield 30, 3) := by decide +kernel
theorem dX9_laysOne_153 : decode cX9_laysOne 153 = .ok (.iload_n 2, 1) := by decide +kernel
theorem dX9_laysOne_154 : decode cX9_laysOne 154 = .ok (.iload 5, 2) := by decide +kernel
theorem dX9_laysOne_156 : decode cX9_laysOne 156 = .ok (.iastore, 1) := by decide +kernel
theorem dX9_laysOne_157 : decode cX9_laysOne 157 = .ok (.aload_n 0, 1) := by decide +kernel
theorem dX9_laysOne_158 : decode cX9_laysOne 158 = .ok (.getfield 33, 3) := by decide +kernel
theorem dX9_laysOne_161 : decode cX9_laysOne 161 = .ok (.iload_n 2, 1) := by decide +kernel
theorem dX9_laysOne_162 : decode cX9_laysOne 162 = .ok (.iload 4, 2) := by decide +kernel
theorem dX9_laysOne_164 : decode cX9_laysOne 164 = .ok (.iastore, 1) := by decide +kernel
theorem dX9_laysOne_165 : decode cX9_laysOne 165 = .ok (.return_, 1) := by decide +kernel
theorem dX9_worthOf_0 : decode cX9_worthOf 0 = .ok (.aload_n 0, 1) := by decide +kernel
theorem dX9_worthOf_1 : decode cX9_worthOf 1 = .ok (.iload_n 1, 1) := by decide +kernel
theorem dX9_worthOf_2 : decode cX9_worthOf 2 = .ok (.invokevirtual 184, 3) := by decide +kernel
theorem dX9_worthOf_5 : decode cX9_worthOf 5 = .ok (.aload_n 0, 1) := by decide +kernel
theorem dX9_worthOf_6 : decode cX9_worthOf 6 = .ok (.getfield 30, 3) := by decide +kernel
theorem dX9_worthOf_9 : decode cX9_worthOf 9 = .ok (.aload_n 0, 1) := by decide +kernel
theorem dX9_worthOf_10 : decode cX9_worthOf 10 = .ok (.iload_n 1, 1) := by decide +kernel
theorem dX9_worthOf_11 : decode cX9_worthOf 11 = .ok (.iconst 2, 1) := by decide +kernel
theorem dX9_worthOf_12 : decode cX9_worthOf 12 = .ok (.invokevirtual 173, 3) := by decide +kernel
theorem dX9_worthOf_15 : decode cX9_worthOf 15 = .ok (.iaload, 1) := by decide +kernel
theorem dX9_worthOf_16 : decode cX9_worthOf 16 = .ok (.ireturn, 1) := by decide +kernel
theorem dX9_sumNow_0 : decode cX9_sumNow 0 = .ok (.iconst 0, 1) := by decide +kernel
theorem dX9_sumNow_1 : decode cX9_sumNow 1 = .ok (.istore_n 1, 1) := by decide +kernel
theorem dX9_sumNow_2 : decode cX9_sumNow 2 = .ok (.iconst 0, 1) := by decide +kernel
theorem dX9_sumNow_3 : decode cX9_sumNow 3 = .ok (.istore_n 2, 1) := by decide +kernel
theorem dX9_sumNow_4 : decode cX9_sumNow 4 = .ok (.iload_n 2, 1) := by decide +kernel
theorem dX9_sumNow_5 : decode cX9_sumNow 5 = .ok (.aload_n 0, 1) := by decide +kernel
theorem dX9_sumNow_6 : decode cX9_sumNow 6 = .ok (.invokevirtual 163, 3) := by decide +kernel
theorem dX9_sumNow_9 : decode cX9_sumNow 9 = .ok (.if_icmp .ge 17, 3) := by decide +kernel
theorem dX9_sumNow_12 : decode cX9_sumNow 12 = .ok (.iload_n 1, 1) := by decide +kernel
theorem dX9_sumNow_13 : decode cX9_sumNow 13 = .ok (.aload_n 0, 1) := by decide +kernel
theorem dX9_sumNow_14 : decode cX9_sumNow 14 = .ok (.iload_n 2, 1) := by decide +kernel
theorem dX9_sumNow_15 : decode cX9_sumNow 15 = .ok (.invokevirtual 187, 3) := by decide +kernel
theorem dX9_sumNow_18 : decode cX9_sumNow 18 = .ok (.ixor, 1) := by decide +kernel
theorem dX9_sumNow_19 : decode cX9_sumNow 19 = .ok (.istore_n 1, 1) := by decide +kernel
theorem dX9_sumNow_20 : decode cX9_sumNow 20 = .ok (.iinc 2 1, 3) := by decide +kernel
theorem dX9_sumNow_23 : decode cX9_sumNow 23 = .ok (.goto (-19), 3) := by decide +kernel
theorem dX9_sumNow_26 : decode cX9_sumNow 26 = .ok (.iload_n 1, 1) := by decide +kernel
theorem dX9_sumNow_27 : decode cX9_sumNow 27 = .ok (.ireturn, 1) := by decide +kernel
theorem dX9_stepsFrom_0 : decode cX9_stepsFrom 0 = .ok (.iconst 0, 1) := by decide +kernel
theorem dX9_stepsFrom_1 : decode cX9_stepsFrom 1 = .ok (.istore_n 3, 1) := by decide +kernel
theorem dX9_stepsFrom_2 : decode cX9_stepsFrom 2 = .ok (.iconst 1, 1) := by decide +kernel
theorem dX9_stepsFrom_3 : decode cX9_stepsFrom 3 = .ok (.istore 4, 2) := by decide +kernel
theorem dX9_stepsFrom_5 : decode cX9_stepsFrom 5 = .ok (.iload 4, 2) := by decide +kernel
theorem dX9_stepsFrom_7 : decode cX9_stepsFrom 7 = .ok (.aload_n 0, 1) := by decide +kernel
theorem dX9_stepsFrom_8 : decode cX9_stepsFrom 8 = .ok (.iload_n 1, 1) := by decide +kernel
theorem dX9_stepsFrom_9 : decode cX9_stepsFrom 9 = .ok (.iconst 0, 1) := by decide +kernel
theorem dX9_stepsFrom_10 : decode cX9_stepsFrom 10 = .ok (.invokevirtual 173, 3) := by decide +kernel
theorem dX9_stepsFrom_13 : decode cX9_stepsFrom 13 = .ok (.if_icmp .gt 70, 3) := by decide +kernel
theorem dX9_stepsFrom_16 : decode cX9_stepsFrom 16 = .ok (.iconst 1, 1) := by decide +kernel
theorem dX9_stepsFrom_17 : decode cX9_stepsFrom 17 = .ok (.istore 5, 2) := by decide +kernel
theorem dX9_stepsFrom_19 : decode cX9_stepsFrom 19 = .ok (.iload 5, 2) := by decide +kernel
theorem dX9_stepsFrom_21 : decode cX9_stepsFrom 21 = .ok (.bipush 12, 2) := by decide +kernel
theorem dX9_stepsFrom_23 : decode cX9_stepsFrom 23 = .ok (.if_icmp .gt 54, 3) := by decide +kernel
theorem dX9_stepsFrom_26 : decode cX9_stepsFrom 26 = .ok (.iload_n 2, 1) := by decide +kernel
theorem dX9_stepsFrom_27 : decode cX9_stepsFrom 27 = .ok (.iload 4, 2) := by decide +kernel
theorem dX9_stepsFrom_29 : decode cX9_stepsFrom 29 = .ok (.invokestatic 118, 3) := by decide +kernel
theorem dX9_stepsFrom_32 : decode cX9_stepsFrom 32 = .ok (.ifCond .eq 45, 3) := by decide +kernel
theorem dX9_stepsFrom_35 : decode cX9_stepsFrom 35 = .ok (.iload_n 3, 1) := by decide +kernel
theorem dX9_stepsFrom_36 : decode cX9_stepsFrom 36 = .ok (.aload_n 0, 1) := by decide +kernel
theorem dX9_stepsFrom_37 : decode cX9_stepsFrom 37 = .ok (.iload_n 1, 1) := by decide +kernel
theorem dX9_stepsFrom_38 : decode cX9_stepsFrom 38 = .ok (.iconst 4, 1) := by decide +kernel
theorem dX9_stepsFrom_39 : decode cX9_stepsFrom 39 = .ok (.invokevirtual 173, 3) := by decide +kernel
theorem dX9_stepsFrom_42 : decode cX9_stepsFrom 42 = .ok (.iload 5, 2) := by decide +kernel
theorem dX9_stepsFrom_44 : decode cX9_stepsFrom 44 = .ok (.invokestatic 118, 3) := by decide +kernel
theorem dX9_stepsFrom_47 : decode cX9_stepsFrom 47 = .ok (.ifCond .eq 21, 3) := by decide +kernel
theorem dX9_stepsFrom_50 : decode cX9_stepsFrom 50 = .ok (.aload_n 0, 1) := by decide +kernel
theorem dX9_stepsFrom_51 : decode cX9_stepsFrom 51 = .ok (.iload_n 1, 1) := by decide +kernel
theorem dX9_stepsFrom_52 : decode cX9_stepsFrom 52 = .ok (.iload_n 2, 1) := by decide +kernel
theorem dX9_stepsFrom_53 : decode cX9_stepsFrom 53 = .ok (.iload 4, 2) := by decide +kernel
theorem dX9_stepsFrom_55 : decode cX9_stepsFrom 55 = .ok (.iload 5, 2) := by decide +kernel
theorem dX9_stepsFrom_57 : decode cX9_stepsFrom 57 = .ok (.invokevirtual 180, 3) := by decide +kernel
theorem dX9_stepsFrom_60 : decode cX9_stepsFrom 60 = .ok (.iconst (-1), 1) := by decide +kernel
theorem dX9_stepsFrom_61 : decode cX9_stepsFrom 61 = .ok (.if_icmp .eq 7, 3) := by decide +kernel
theorem dX9_stepsFrom_64 : decode cX9_stepsFrom 64 = .ok (.iconst 1, 1) := by decide +kernel
theorem dX9_stepsFrom_65 : decode cX9_stepsFrom 65 = .ok (.goto 4, 3) := by decide +kernel
theorem dX9_stepsFrom_68 : decode cX9_stepsFrom 68 = .ok (.iconst 0, 1) := by decide +kernel
theorem dX9_stepsFrom_69 : decode cX9_stepsFrom 69 = .ok (.iadd, 1) := by decide +kernel
theorem dX9_stepsFrom_70 : decode cX9_stepsFrom 70 = .ok (.istore_n 3, 1) := by decide +kernel
theorem dX9_stepsFrom_71 : decode cX9_stepsFrom 71 = .ok (.iinc 5 1, 3) := by decide +kernel
theorem dX9_stepsFrom_74 : decode cX9_stepsFrom 74 = .ok (.goto (-55), 3) := by decide +kernel
theorem dX9_stepsFrom_77 : decode cX9_stepsFrom 77 = .ok (.iinc 4 1, 3) := by decide +kernel
theorem dX9_stepsFrom_80 : decode cX9_stepsFrom 80 = .ok (.goto (-75), 3) := by decide +kernel
theorem dX9_stepsFrom_83 : decode cX9_stepsFrom 83 = .ok (.iload_n 3, 1) := by decide +kernel
theorem dX9_stepsFrom_84 : decode cX9_stepsFrom 84 = .ok (.ireturn, 1) := by decide +kernel
theorem dX9_isOver_0 : decode cX9_isOver 0 = .ok (.iconst 0, 1) := by decide +kernel
theorem dX9_isOver_1 : decode cX9_isOver 1 = .ok (.istore_n 1, 1) := by decide +kernel
theorem dX9_isOver_2 : decode cX9_isOver 2 = .ok (.iload_n 1, 1) := by decide +kernel
theorem dX9_isOver_3 : decode cX9_isOver 3 = .ok (.aload_n 0, 1) := by decide +kernel
theorem dX9_isOver_4 : decode cX9_isOver 4 = .ok (.invokevirtual 163, 3) := by decide +kernel
theorem dX9_isOver_7 : decode cX9_isOver 7 = .ok (.if_icmp .ge 25, 3) := by decide +kernel
theorem dX9_isOver_10 : decode cX9_isOver 10 = .ok (.aload_n 0, 1) := by decide +kernel
theorem dX9_isOver_11 : decode cX9_isOver 11 = .ok (.iload_n 1, 1) := by decide +kernel
theorem dX9_isOver_12 : decode cX9_isOver 12 = .ok (.aload_n 0, 1) := by decide +kernel
theorem dX9_isOver_13 : decode cX9_isOver 13 = .ok (.iload_n 1, 1) := by decide +kernel
theorem dX9_isOver_14 : decode cX9_isOver 14 = .ok (.iconst 2, 1) := by decide +kernel
theorem dX9_isOver_15 : decode cX9_isOver 15 = .ok (.invokevirtual 173, 3) := by decide +kernel
theorem dX9_isOver_18 : decode cX9_isOver 18 = .ok (.invokevirtual 190, 3) := by decide +kernel
theorem dX9_isOver_21 : decode cX9_isOver 21 = .ok (.ifCond .le 5, 3) := by decide +kernel
theorem dX9_isOver_24 : decode cX9_isOver 24 = .ok (.iconst 0, 1) := by decide +kernel
theorem dX9_isOver_25 : decode cX9_isOver 25 = .ok (.ireturn, 1) := by decide +kernel
theorem dX9_isOver_26 : decode cX9_isOver 26 = .ok (.iinc 1 1, 3) := by decide +kernel
theorem dX9_isOver_29 : decode cX9_isOver 29 = .ok (.goto (-27), 3) := by decide +kernel
theorem dX9_isOver_32 : decode cX9_isOver 32 = .ok (.iconst 1, 1) := by decide +kernel
theorem dX9_isOver_33 : decode cX9_isOver 33 = .ok (.ireturn, 1) := by decide +kernel
theorem dX9_size_0 : decode cX9_size 0 = .ok (.aload_n 0, 1) := by decide +kernel
theorem dX9_size_1 : decode cX9_size 1 = .ok (.iconst 0, 1) := by decide +kernel
theorem dX9_size_2 : decode cX9_size 2 = .ok (.putfield 45, 3) := by decide +kernel
theorem dX9_size_5 : decode cX9_size 5 = .ok (.iload_n 1, 1) := by decide +kernel
theorem dX9_size_6 : decode cX9_size 6 = .ok (.tableswitch 98 0 5 #[38, 43, 51, 59, 72, 93], 38) := by decide +kernel
theorem dX9_size_44 : decode cX9_size 44 = .ok (.aload_n 0, 1) := by decide +kernel
theorem dX9_size_45 : decode cX9_size 45 = .ok (.invokevirtual 163, 3) := by decide +kernel
theorem dX9_size_48 : decode cX9_size 48 = .ok (.ireturn, 1) := by decide +kernel
theorem dX9_size_49 : decode cX9_size 49 = .ok (.aload_n 0, 1) := by decide +kernel
theorem dX9_size_50 : decode cX9_size 50 = .ok (.getfield 17, 3) := by decide +kernel
theorem dX9_size_53 : decode cX9_size 53 = .ok (.bipush 55, 2) := by decide +kernel
theorem dX9_size_55 : decode cX9_size 55 = .ok (.iaload, 1) := by decide +kernel
theorem dX9_size_56 : decode cX9_size 56 = .ok (.ireturn, 1) := by decide +kernel
theorem dX9_size_57 : decode cX9_size 57 = .ok (.aload_n 0, 1) := by decide +kernel
theorem dX9_size_58 : decode cX9_size 58 = .ok (.getfield 17, 3) := by decide +kernel
theorem dX9_size_61 : decode cX9_size 61 = .ok (.bipush 56, 2) := by decide +kernel
theorem dX9_size_63 : decode cX9_size 63 = .ok (.iaload, 1) := by decide +kernel
theorem dX9_size_64 : decode cX9_size 64 = .ok (.ireturn, 1) := by decide +kernel
theorem dX9_size_65 : decode cX9_size 65 = .ok (.aload_n 0, 1) := by decide +kernel
theorem dX9_size_66 : decode cX9_size 66 = .ok (.invokevirtual 193, 3) := by decide +kernel
theorem dX9_size_69 : decode cX9_size 69 = .ok (.ifCond .eq 7, 3) := by decide +kernel
theorem dX9_size_72 : decode cX9_size 72 = .ok (.iconst 1, 1) := by decide +kernel
theorem dX9_size_73 : decode cX9_size 73 = .ok (.goto 4, 3) := by decide +kernel
theorem dX9_size_76 : decode cX9_size 76 = .ok (.iconst 0, 1) := by decide +kernel
theorem dX9_size_77 : decode cX9_size 77 = .ok (.ireturn, 1) := by decide +kernel
theorem dX9_size_78 : decode cX9_size 78 = .ok (.aload_n 0, 1) := by decide +kernel
theorem dX9_size_79 : decode cX9_size 79 = .ok (.invokevirtual 193, 3) := by decide +kernel
theorem dX9_size_82 : decode cX9_size 82 = .ok (.ifCond .eq 15, 3) := by decide +kernel
theorem dX9_size_85 : decode cX9_size 85 = .ok (.iconst 1, 1) := by decide +kernel
theorem dX9_size_86 : decode cX9_size 86 = .ok (.aload_n 0, 1) := by decide +kernel
theorem dX9_size_87 : decode cX9_size 87 = .ok (.getfield 17, 3) := by decide +kernel
theorem dX9_size_90 : decode cX9_size 90 = .ok (.bipush 55, 2) := by decide +kernel
theorem dX9_size_92 : decode cX9_size 92 = .ok (.iaload, 1) := by decide +kernel
theorem dX9_size_93 : decode cX9_size 93 = .ok (.isub, 1) := by decide +kernel
theorem dX9_size_94 : decode cX9_size 94 = .ok (.goto 4, 3) := by decide +kernel
theorem dX9_size_97 : decode cX9_size 97 = .ok (.iconst (-1), 1) := by decide +kernel
theorem dX9_size_98 : decode cX9_size 98 = .ok (.ireturn, 1) := by decide +kernel
theorem dX9_size_99 : decode cX9_size 99 = .ok (.aload_n 0, 1) := by decide +kernel
theorem dX9_size_100 : decode cX9_size 100 = .ok (.getfield 115, 3) := by decide +kernel
theorem dX9_size_103 : decode cX9_size 103 = .ok (.ireturn, 1) := by decide +kernel
theorem dX9_size_104 : decode cX9_size 104 = .ok (.aload_n 0, 1) := by decide +kernel
theorem dX9_size_105 : decode cX9_size 105 = .ok (.iconst 1, 1) := by decide +kernel
theorem dX9_size_106 : decode cX9_size 106 = .ok (.invokevirtual 157, 3) := by decide +kernel
theorem dX9_size_109 : decode cX9_size 109 = .ok (.ireturn, 1) := by decide +kernel
theorem dX9_ladder_0 : decode cX9_ladder 0 = .ok (.aload_n 0, 1) := by decide +kernel
theorem dX9_ladder_1 : decode cX9_ladder 1 = .ok (.aload_n 0, 1) := by decide +kernel
theorem dX9_ladder_2 : decode cX9_ladder 2 = .ok (.iload_n 1, 1) := by decide +kernel
theorem dX9_ladder_3 : decode cX9_ladder 3 = .ok (.invokevirtual 197, 3) := by decide +kernel
theorem dX9_ladder_6 : decode cX9_ladder 6 = .ok (.ifCond .ne 7, 3) := by decide +kernel
theorem dX9_ladder_9 : decode cX9_ladder 9 = .ok (.iconst 1, 1) := by decide +kernel
theorem dX9_ladder_10 : decode cX9_ladder 10 = .ok (.goto 17, 3) := by decide +kernel
theorem dX9_ladder_13 : decode cX9_ladder 13 = .ok (.iload_n 2, 1) := by decide +kernel
theorem dX9_ladder_14 : decode cX9_ladder 14 = .ok (.iconst 0, 1) := by decide +kernel
theorem dX9_ladder_15 : decode cX9_ladder 15 = .ok (.iconst 5, 1) := by decide +kernel
theorem dX9_ladder_16 : decode cX9_ladder 16 = .ok (.invokestatic 72, 3) := by decide +kernel
theorem dX9_ladder_19 : decode cX9_ladder 19 = .ok (.ifCond .ne 7, 3) := by decide +kernel
theorem dX9_ladder_22 : decode cX9_ladder 22 = .ok (.iconst 2, 1) := by decide +kernel
theorem dX9_ladder_23 : decode cX9_ladder 23 = .ok (.goto 4, 3) := by decide +kernel
theorem dX9_ladder_26 : decode cX9_ladder 26 = .ok (.iconst 0, 1) := by decide +kernel
theorem dX9_ladder_27 : decode cX9_ladder 27 = .ok (.putfield 45, 3) := by decide +kernel
theorem dX9_ladder_30 : decode cX9_ladder 30 = .ok (.aload_n 0, 1) := by decide +kernel
theorem dX9_ladder_31 : decode cX9_ladder 31 = .ok (.getfield 45, 3) := by decide +kernel
theorem dX9_ladder_34 : decode cX9_ladder 34 = .ok (.ifCond .le 5, 3) := by decide +kernel
theorem dX9_ladder_37 : decode cX9_ladder 37 = .ok (.iconst 0, 1) := by decide +kernel
theorem dX9_ladder_38 : decode cX9_ladder 38 = .ok (.ireturn, 1) := by decide +kernel
theorem dX9_ladder_39 : decode cX9_ladder 39 = .ok (.iload_n 2, 1) := by decide +kernel
theorem dX9_ladder_40 : decode cX9_ladder 40 = .ok (.tableswitch 80 0 4 #[36, 43, 50, 67, 73], 36) := by decide +kernel
theorem dX9_ladder_76 : decode cX9_ladder 76 = .ok (.aload_n 0, 1) := by decide +kernel
theorem dX9_ladder_77 : decode cX9_ladder 77 = .ok (.iload_n 1, 1) := by decide +kernel
theorem dX9_ladder_78 : decode cX9_ladder 78 = .ok (.iconst 0, 1) := by decide +kernel
theorem dX9_ladder_79 : decode cX9_ladder 79 = .ok (.invokevirtual 173, 3) := by decide +kernel
theorem dX9_ladder_82 : decode cX9_ladder 82 = .ok (.ireturn, 1) := by decide +kernel
theorem dX9_ladder_83 : decode cX9_ladder 83 = .ok (.aload_n 0, 1) := by decide +kernel
theorem dX9_ladder_84 : decode cX9_ladder 84 = .ok (.iload_n 1, 1) := by decide +kernel
theorem dX9_ladder_85 : decode cX9_ladder 85 = .ok (.iconst 1, 1) := by decide +kernel
theorem dX9_ladder_86 : decode cX9_ladder 86 = .ok (.invokevirtual 173, 3) := by decide +kernel
theorem dX9_ladder_89 : decode cX9_ladder 89 = .ok (.ireturn, 1) := by decide +kernel
theorem dX9_ladder_90 : decode cX9_ladder 90 = .ok (.aload_n 0, 1) := by decide +kernel
theorem dX9_ladder_91 : decode cX9_ladder 91 = .ok (.iload_n 1, 1) := by decide +kernel
theorem dX9_ladder_92 : decode cX9_ladder 92 = .ok (.iconst 1, 1) := by decide +kernel
theorem dX9_ladder_93 : decode cX9_ladder 93 = .ok (.invokevirtual 173, 3) := by decide +kernel
theorem dX9_ladder_96 : decode cX9_ladder 96 = .ok (.aload_n 0, 1) := by decide +kernel
theorem dX9_ladder_97 : decode cX9_ladder 97 = .ok (.iload_n 1, 1) := by decide +kernel
theorem dX9_ladder_98 : decode cX9_ladder 98 = .ok (.iconst 2, 1) := by decide +kernel
theorem dX9_ladder_99 : decode cX9_ladder 99 = .ok (.invokevirtual 173, 3) := by decide +kernel
theorem dX9_ladder_102 : decode cX9_ladder 102 = .ok (.invokestatic 128, 3) := by decide +kernel
theorem dX9_ladder_105 : decode cX9_ladder 105 = .ok (.isub, 1) := by decide +kernel
theorem dX9_ladder_106 : decode cX9_ladder 106 = .ok (.ireturn, 1) := by decide +kernel
theorem dX9_ladder_107 : decode cX9_ladder 107 = .ok (.aload_n 0, 1) := by decide +kernel
theorem dX9_ladder_108 : decode cX9_ladder 108 = .ok (.iload_n 1, 1) := by decide +kernel
theorem dX9_ladder_109 : decode cX9_ladder 109 = .ok (.invokevirtual 187, 3) := by decide +kernel
theorem dX9_ladder_112 : decode cX9_ladder 112 = .ok (.ireturn, 1) := by decide +kernel
theorem dX9_ladder_113 : decode cX9_ladder 113 = .ok (.aload_n 0, 1) := by decide +kernel
theorem dX9_ladder_114 : decode cX9_ladder 114 = .ok (.iload_n 1, 1) := by decide +kernel
theorem dX9_ladder_115 : decode cX9_ladder 115 = .ok (.iconst 5, 1) := by decide +kernel
theorem dX9_ladder_116 : decode cX9_ladder 116 = .ok (.invokevirtual 173, 3) := by decide +kernel
theorem dX9_ladder_119 : decode cX9_ladder 119 = .ok (.ireturn, 1) := by decide +kernel
theorem dX9_ladder_120 : decode cX9_ladder 120 = .ok (.aload_n 0, 1) := by decide +kernel
theorem dX9_ladder_121 : decode cX9_ladder 121 = .ok (.iload_n 1, 1) := by decide +kernel
theorem dX9_ladder_122 : decode cX9_ladder 122 = .ok (.bipush 6, 2) := by decide +kernel
theorem dX9_ladder_124 : decode cX9_ladder 124 = .ok (.invokevirtual 173, 3) := by decide +kernel
theorem dX9_ladder_127 : decode cX9_ladder 127 = .ok (.ireturn, 1) := by decide +kernel
theorem dX9_set_0 : decode cX9_set 0 = .ok (.aload_n 0, 1) := by decide +kernel
theorem dX9_set_1 : decode cX9_set 1 = .ok (.aload_n 0, 1) := by decide +kernel
theorem dX9_set_2 : decode cX9_set 2 = .ok (.iload_n 1, 1) := by decide +kernel
theorem dX9_set_3 : decode cX9_set 3 = .ok (.invokevirtual 197, 3) := by decide +kernel
theorem dX9_set_6 : decode cX9_set 6 = .ok (.ifCond .ne 7, 3) := by decide +kernel
theorem dX9_set_9 : decode cX9_set 9 = .ok (.iconst 1, 1) := by decide +kernel
theorem dX9_set_10 : decode cX9_set 10 = .ok (.goto 17, 3) := by decide +kernel
theorem dX9_set_13 : decode cX9_set 13 = .ok (.iload_n 2, 1) := by decide +kernel
theorem dX9_set_14 : decode cX9_set 14 = .ok (.iconst 0, 1) := by decide +kernel
theorem dX9_set_15 : decode cX9_set 15 = .ok (.iconst 2, 1) := by decide +kernel
theorem dX9_set_16 : decode cX9_set 16 = .ok (.invokestatic 72, 3) := by decide +kernel
theorem dX9_set_19 : decode cX9_set 19 = .ok (.ifCond .ne 7, 3) := by decide +kernel
theorem dX9_set_22 : decode cX9_set 22 = .ok (.iconst 2, 1) := by decide +kernel
theorem dX9_set_23 : decode cX9_set 23 = .ok (.goto 4, 3) := by decide +kernel
theorem dX9_set_26 : decode cX9_set 26 = .ok (.iconst 0, 1) := by decide +kernel
theorem dX9_set_27 : decode cX9_set 27 = .ok (.putfield 45, 3) := by decide +kernel
theorem dX9_set_30 : decode cX9_set 30 = .ok (.aload_n 0, 1) := by decide +kernel
theorem dX9_set_31 : decode cX9_set 31 = .ok (.getfield 45, 3) := by decide +kernel
theorem dX9_set_34 : decode cX9_set 34 = .ok (.ifCond .ne 14, 3) := by decide +kernel
theorem dX9_set_37 : decode cX9_set 37 = .ok (.aload_n 0, 1) := by decide +kernel
theorem dX9_set_38 : decode cX9_set 38 = .ok (.iload_n 1, 1) := by decide +kernel
theorem dX9_set_39 : decode cX9_set 39 = .ok (.iconst 2, 1) := by decide +kernel
theorem dX9_set_40 : decode cX9_set 40 = .ok (.iload_n 2, 1) := by decide +kernel
theorem dX9_set_41 : decode cX9_set 41 = .ok (.iadd, 1) := by decide +kernel
theorem dX9_set_42 : decode cX9_set 42 = .ok (.invokevirtual 173, 3) := by decide +kernel
theorem dX9_set_45 : decode cX9_set 45 = .ok (.goto 4, 3) := by decide +kernel
theorem dX9_set_48 : decode cX9_set 48 = .ok (.iconst 0, 1) := by decide +kernel
theorem dX9_set_49 : decode cX9_set 49 = .ok (.ireturn, 1) := by decide +kernel
theorem dX9_player_0 : decode cX9_player 0 = .ok (.aload_n 0, 1) := by decide +kernel
theorem dX9_player_1 : decode cX9_player 1 = .ok (.iload_n 1, 1) := by decide +kernel
theorem dX9_player_2 : decode cX9_player 2 = .ok (.iconst 0, 1) := by decide +kernel
theorem dX9_player_3 : decode cX9_player 3 = .ok (.iconst 1, 1) := by decide +kernel
theorem dX9_player_4 : decode cX9_player 4 = .ok (.invokestatic 72, 3) := by decide +kernel
theorem dX9_player_7 : decode cX9_player 7 = .ok (.ifCond .ne 7, 3) := by decide +kernel
theorem dX9_player_10 : decode cX9_player 10 = .ok (.iconst 1, 1) := by decide +kernel
theorem dX9_player_11 : decode cX9_player 11 = .ok (.goto 17, 3) := by decide +kernel
theorem dX9_player_14 : decode cX9_player 14 = .ok (.iload_n 2, 1) := by decide +kernel
theorem dX9_player_15 : decode cX9_player 15 = .ok (.iconst 0, 1) := by decide +kernel
theorem dX9_player_16 : decode cX9_player 16 = .ok (.iconst 5, 1) := by decide +kernel
theorem dX9_player_17 : decode cX9_player 17 = .ok (.invokestatic 72, 3) := by decide +kernel
theorem dX9_player_20 : decode cX9_player 20 = .ok (.ifCond .ne 7, 3) := by decide +kernel
theorem dX9_player_23 : decode cX9_player 23 = .ok (.iconst 2, 1) := by decide +kernel
theorem dX9_player_24 : decode cX9_player 24 = .ok (.goto 4, 3) := by decide +kernel
theorem dX9_player_27 : decode cX9_player 27 = .ok (.iconst 0, 1) := by decide +kernel
theorem dX9_player_28 : decode cX9_player 28 = .ok (.putfield 45, 3) := by decide +kernel
theorem dX9_player_31 : decode cX9_player 31 = .ok (.aload_n 0, 1) := by decide +kernel
theorem dX9_player_32 : decode cX9_player 32 = .ok (.getfield 45, 3) := by decide +kernel
theorem dX9_player_35 : decode cX9_player 35 = .ok (.ifCond .ne 20, 3) := by decide +kernel
theorem dX9_player_38 : decode cX9_player 38 = .ok (.aload_n 0, 1) := by decide +kernel
theorem dX9_player_39 : decode cX9_player 39 = .ok (.getfield 17, 3) := by decide +kernel
theorem dX9_player_42 : decode cX9_player 42 = .ok (.bipush 43, 2) := by decide +kernel
theorem dX9_player_44 : decode cX9_player 44 = .ok (.bipush 6, 2) := by decide +kernel
theorem dX9_player_46 : decode cX9_player 46 = .ok (.iload_n 1, 1) := by decide +kernel
theorem dX9_player_47 : decode cX9_player 47 = .ok (.imul, 1) := by decide +kernel
theorem dX9_player_48 : decode cX9_player 48 = .ok (.iadd, 1) := by decide +kernel
theorem dX9_player_49 : decode cX9_player 49 = .ok (.iload_n 2, 1) := by decide +kernel
theorem dX9_player_50 : decode cX9_player 50 = .ok (.iadd, 1) := by decide +kernel
theorem dX9_player_51 : decode cX9_player 51 = .ok (.iaload, 1) := by decide +kernel
theorem dX9_player_52 : decode cX9_player 52 = .ok (.goto 4, 3) := by decide +kernel
theorem dX9_player_55 : decode cX9_player 55 = .ok (.iconst 0, 1) := by decide +kernel
theorem dX9_player_56 : decode cX9_player 56 = .ok (.ireturn, 1) := by decide +kernel
theorem dX9_act_0 : decode cX9_act 0 = .ok (.aload_n 0, 1) := by decide +kernel
theorem dX9_act_1 : decode cX9_act 1 = .ok (.iload_n 2, 1) := by decide +kernel
theorem dX9_act_2 : decode cX9_act 2 = .ok (.iconst 0, 1) := by decide +kernel
theorem dX9_act_3 : decode cX9_act 3 = .ok (.iconst 4, 1) := by decide +kernel
theorem dX9_act_4 : decode cX9_act 4 = .ok (.invokestatic 72, 3) := by decide +kernel
theorem dX9_act_7 : decode cX9_act 7 = .ok (.ifCond .eq 7, 3) := by decide +kernel
theorem dX9_act_10 : decode cX9_act 10 = .ok (.iconst 0, 1) := by decide +kernel
theorem dX9_act_11 : decode cX9_act 11 = .ok (.goto 4, 3) := by decide +kernel
theorem dX9_act_14 : decode cX9_act 14 = .ok (.iconst 1, 1) := by decide +kernel
theorem dX9_act_15 : decode cX9_act 15 = .ok (.putfield 45, 3) := by decide +kernel
theorem dX9_act_18 : decode cX9_act 18 = .ok (.aload_n 0, 1) := by decide +kernel
theorem dX9_act_19 : decode cX9_act 19 = .ok (.getfield 45, 3) := by decide +kernel
theorem dX9_act_22 : decode cX9_act 22 = .ok (.ifCond .le 5, 3) := by decide +kernel
theorem dX9_act_25 : decode cX9_act 25 = .ok (.iconst 0, 1) := by decide +kernel
theorem dX9_act_26 : decode cX9_act 26 = .ok (.ireturn, 1) := by decide +kernel
theorem dX9_act_27 : decode cX9_act 27 = .ok (.aload_n 0, 1) := by decide +kernel
theorem dX9_act_28 : decode cX9_act 28 = .ok (.getfield 17, 3) := by decide +kernel
theorem dX9_act_31 : decode cX9_act 31 = .ok (.bipush 56, 2) := by decide +kernel
theorem dX9_act_33 : decode cX9_act 33 = .ok (.iaload, 1) := by decide +kernel
theorem dX9_act_34 : decode cX9_act 34 = .ok (.bipush 16, 2) := by decide +kernel
theorem dX9_act_36 : decode cX9_act 36 = .ok (.if_icmp .ge 13, 3) := by decide +kernel
theorem dX9_act_39 : decode cX9_act 39 = .ok (.aload_n 0, 1) := by decide +kernel
theorem dX9_act_40 : decode cX9_act 40 = .ok (.getfield 17, 3) := by decide +kernel
theorem dX9_act_43 : decode cX9_act 43 = .ok (.bipush 56, 2) := by decide +kernel
theorem dX9_act_45 : decode cX9_act 45 = .ok (.iaload, 1) := by decide +kernel
theorem dX9_act_46 : decode cX9_act 46 = .ok (.goto 5, 3) := by decide +kernel
theorem dX9_act_49 : decode cX9_act 49 = .ok (.bipush 16, 2) := by decide +kernel
theorem dX9_act_51 : decode cX9_act 51 = .ok (.istore_n 3, 1) := by decide +kernel
theorem dX9_act_52 : decode cX9_act 52 = .ok (.iload_n 1, 1) := by decide +kernel
theorem dX9_act_53 : decode cX9_act 53 = .ok (.iconst 0, 1) := by decide +kernel
theorem dX9_act_54 : decode cX9_act 54 = .ok (.iload_n 3, 1) := by decide +kernel
theorem dX9_act_55 : decode cX9_act 55 = .ok (.iconst 1, 1) := by decide +kernel
theorem dX9_act_56 : decode cX9_act 56 = .ok (.isub, 1) := by decide +kernel
theorem dX9_act_57 : decode cX9_act 57 = .ok (.invokestatic 72, 3) := by decide +kernel
theorem dX9_act_60 : decode cX9_act 60 = .ok (.ifCond .eq 32, 3) := by decide +kernel
theorem dX9_act_63 : decode cX9_act 63 = .ok (.aload_n 0, 1) := by decide +kernel
theorem dX9_act_64 : decode cX9_act 64 = .ok (.getfield 17, 3) := by decide +kernel
theorem dX9_act_67 : decode cX9_act 67 = .ok (.bipush 60, 2) := by decide +kernel
theorem dX9_act_69 : decode cX9_act 69 = .ok (.iconst 5, 1) := by decide +kernel
theorem dX9_act_70 : decode cX9_act 70 = .ok (.aload_n 0, 1) := by decide +kernel
theorem dX9_act_71 : decode cX9_act 71 = .ok (.getfield 17, 3) := by decide +kernel
theorem dX9_act_74 : decode cX9_act 74 = .ok (.bipush 56, 2) := by decide +kernel
theorem dX9_act_76 : decode cX9_act 76 = .ok (.iaload, 1) := by decide +kernel
theorem dX9_act_77 : decode cX9_act 77 = .ok (.iconst 1, 1) := by decide +kernel
theorem dX9_act_78 : decode cX9_act 78 = .ok (.isub, 1) := by decide +kernel
theorem dX9_act_79 : decode cX9_act 79 = .ok (.iload_n 1, 1) := by decide +kernel
theorem dX9_act_80 : decode cX9_act 80 = .ok (.isub, 1) := by decide +kernel
theorem dX9_act_81 : decode cX9_act 81 = .ok (.bipush 16, 2) := by decide +kernel
theorem dX9_act_83 : decode cX9_act 83 = .ok (.irem, 1) := by decide +kernel
theorem dX9_act_84 : decode cX9_act 84 = .ok (.imul, 1) := by decide +kernel
theorem dX9_act_85 : decode cX9_act 85 = .ok (.iadd, 1) := by decide +kernel
theorem dX9_act_86 : decode cX9_act 86 = .ok (.iload_n 2, 1) := by decide +kernel
theorem dX9_act_87 : decode cX9_act 87 = .ok (.iadd, 1) := by decide +kernel
theorem dX9_act_88 : decode cX9_act 88 = .ok (.iaload, 1) := by decide +kernel
theorem dX9_act_89 : decode cX9_act 89 = .ok (.goto 4, 3) := by decide +kernel
theorem dX9_act_92 : decode cX9_act 92 = .ok (.iconst (-1), 1) := by decide +kernel
theorem dX9_act_93 : decode cX9_act 93 = .ok (.ireturn, 1) := by decide +kernel
theorem dX9_valueOf_0 : decode cX9_valueOf 0 = .ok (.aload_n 0, 1) := by decide +kernel
theorem dX9_valueOf_1 : decode cX9_valueOf 1 = .ok (.aload_n 0, 1) := by decide +kernel
theorem dX9_valueOf_2 : decode cX9_valueOf 2 = .ok (.iload_n 1, 1) := by decide +kernel
theorem dX9_valueOf_3 : decode cX9_valueOf 3 = .ok (.invokevirtual 197, 3) := by decide +kernel
theorem dX9_valueOf_6 : decode cX9_valueOf 6 = .ok (.ifCond .ne 7, 3) := by decide +kernel
theorem dX9_valueOf_9 : decode cX9_valueOf 9 = .ok (.iconst 1, 1) := by decide +kernel
theorem dX9_valueOf_10 : decode cX9_valueOf 10 = .ok (.goto 4, 3) := by decide +kernel
theorem dX9_valueOf_13 : decode cX9_valueOf 13 = .ok (.iconst 0, 1) := by decide +kernel
theorem dX9_valueOf_14 : decode cX9_valueOf 14 = .ok (.putfield 45, 3) := by decide +kernel
theorem dX9_valueOf_17 : decode cX9_valueOf 17 = .ok (.aload_n 0, 1) := by decide +kernel
theorem dX9_valueOf_18 : decode cX9_valueOf 18 = .ok (.getfield 45, 3) := by decide +kernel
theorem dX9_valueOf_21 : decode cX9_valueOf 21 = .ok (.ifCond .le 5, 3) := by decide +kernel
theorem dX9_valueOf_24 : decode cX9_valueOf 24 = .ok (.iconst 0, 1) := by decide +kernel
theorem dX9_valueOf_25 : decode cX9_valueOf 25 = .ok (.ireturn, 1) := by decide +kernel
theorem dX9_valueOf_26 : decode cX9_valueOf 26 = .ok (.iload_n 2, 1) := by decide +kernel
theorem dX9_valueOf_27 : decode cX9_valueOf 27 = .ok (.ifCond .lt 38, 3) := by decide +kernel
theorem dX9_valueOf_30 : decode cX9_valueOf 30 = .ok (.iload_n 2, 1) := by decide +kernel
theorem dX9_valueOf_31 : decode cX9_valueOf 31 = .ok (.iconst 2, 1) := by decide +kernel
theorem dX9_valueOf_32 : decode cX9_valueOf 32 = .ok (.aload_n 0, 1) := by decide +kernel
theorem dX9_valueOf_33 : decode cX9_valueOf 33 = .ok (.iload_n 1, 1) := by decide +kernel
theorem dX9_valueOf_34 : decode cX9_valueOf 34 = .ok (.iconst 0, 1) := by decide +kernel
theorem dX9_valueOf_35 : decode cX9_valueOf 35 = .ok (.invokevirtual 173, 3) := by decide +kernel
theorem dX9_valueOf_38 : decode cX9_valueOf 38 = .ok (.ishl, 1) := by decide +kernel
theorem dX9_valueOf_39 : decode cX9_valueOf 39 = .ok (.if_icmp .ge 26, 3) := by decide +kernel
theorem dX9_valueOf_42 : decode cX9_valueOf 42 = .ok (.iload_n 2, 1) := by decide +kernel
theorem dX9_valueOf_43 : decode cX9_valueOf 43 = .ok (.iconst 2, 1) := by decide +kernel
theorem dX9_valueOf_44 : decode cX9_valueOf 44 = .ok (.irem, 1) := by decide +kernel
theorem dX9_valueOf_45 : decode cX9_valueOf 45 = .ok (.ifCond .ne 20, 3) := by decide +kernel
theorem dX9_valueOf_48 : decode cX9_valueOf 48 = .ok (.iload_n 2, 1) := by decide +kernel
theorem dX9_valueOf_49 : decode cX9_valueOf 49 = .ok (.invokestatic 128, 3) := by decide +kernel
theorem dX9_valueOf_52 : decode cX9_valueOf 52 = .ok (.aload_n 0, 1) := by decide +kernel
theorem dX9_valueOf_53 : decode cX9_valueOf 53 = .ok (.iload_n 1, 1) := by decide +kernel
theorem dX9_valueOf_54 : decode cX9_valueOf 54 = .ok (.iconst 1, 1) := by decide +kernel
theorem dX9_valueOf_55 : decode cX9_valueOf 55 = .ok (.invokevirtual 173, 3) := by decide +kernel
theorem dX9_valueOf_58 : decode cX9_valueOf 58 = .ok (.if_icmp .gt 7, 3) := by decide +kernel
theorem dX9_valueOf_61 : decode cX9_valueOf 61 = .ok (.iconst 1, 1) := by decide +kernel
theorem dX9_valueOf_62 : decode cX9_valueOf 62 = .ok (.goto 4, 3) := by decide +kernel
theorem dX9_valueOf_65 : decode cX9_valueOf 65 = .ok (.iconst 0, 1) := by decide +kernel
theorem dX9_valueOf_66 : decode cX9_valueOf 66 = .ok (.istore_n 3, 1) := by decide +kernel
theorem dX9_valueOf_67 : decode cX9_valueOf 67 = .ok (.iload_n 3, 1) := by decide +kernel
theorem dX9_valueOf_68 : decode cX9_valueOf 68 = .ok (.ifCond .ne 9, 3) := by decide +kernel
theorem dX9_valueOf_71 : decode cX9_valueOf 71 = .ok (.aload_n 0, 1) := by decide +kernel
theorem dX9_valueOf_72 : decode cX9_valueOf 72 = .ok (.iconst 2, 1) := by decide +kernel
theorem dX9_valueOf_73 : decode cX9_valueOf 73 = .ok (.invokevirtual 157, 3) := by decide +kernel
theorem dX9_valueOf_76 : decode cX9_valueOf 76 = .ok (.ireturn, 1) := by decide +kernel
theorem dX9_valueOf_77 : decode cX9_valueOf 77 = .ok (.aload_n 0, 1) := by decide +kernel
theorem dX9_valueOf_78 : decode cX9_valueOf 78 = .ok (.iload_n 1, 1) := by decide +kernel
theorem dX9_valueOf_79 : decode cX9_valueOf 79 = .ok (.invokevirtual 184, 3) := by decide +kernel
theorem dX9_valueOf_82 : decode cX9_valueOf 82 = .ok (.aload_n 0, 1) := by decide +kernel
theorem dX9_valueOf_83 : decode cX9_valueOf 83 = .ok (.getfield 30, 3) := by decide +kernel
theorem dX9_valueOf_86 : decode cX9_valueOf 86 = .ok (.iload_n 2, 1) := by decide +kernel
theorem dX9_valueOf_87 : decode cX9_valueOf 87 = .ok (.iaload, 1) := by decide +kernel
theorem dX9_valueOf_88 : decode cX9_valueOf 88 = .ok (.ireturn, 1) := by decide +kernel
theorem dX9_sum_0 : decode cX9_sum 0 = .ok (.aload_n 0, 1) := by decide +kernel
theorem dX9_sum_1 : decode cX9_sum 1 = .ok (.iconst 0, 1) := by decide +kernel
theorem dX9_sum_2 : decode cX9_sum 2 = .ok (.putfield 45, 3) := by decide +kernel
theorem dX9_sum_5 : decode cX9_sum 5 = .ok (.aload_n 0, 1) := by decide +kernel
theorem dX9_sum_6 : decode cX9_sum 6 = .ok (.invokevirtual 201, 3) := by decide +kernel
theorem dX9_sum_9 : decode cX9_sum 9 = .ok (.ireturn, 1) := by decide +kernel
theorem dX9_stepsOn_0 : decode cX9_stepsOn 0 = .ok (.aload_n 0, 1) := by decide +kernel
theorem dX9_stepsOn_1 : decode cX9_stepsOn 1 = .ok (.aload_n 0, 1) := by decide +kernel
theorem dX9_stepsOn_2 : decode cX9_stepsOn 2 = .ok (.iload_n 1, 1) := by decide +kernel
theorem dX9_stepsOn_3 : decode cX9_stepsOn 3 = .ok (.invokevirtual 197, 3) := by decide +kernel
theorem dX9_stepsOn_6 : decode cX9_stepsOn 6 = .ok (.ifCond .eq 7, 3) := by decide +kernel
theorem dX9_stepsOn_9 : decode cX9_stepsOn 9 = .ok (.iconst 0, 1) := by decide +kernel
theorem dX9_stepsOn_10 : decode cX9_stepsOn 10 = .ok (.goto 4, 3) := by decide +kernel
theorem dX9_stepsOn_13 : decode cX9_stepsOn 13 = .ok (.iconst 1, 1) := by decide +kernel
theorem dX9_stepsOn_14 : decode cX9_stepsOn 14 = .ok (.putfield 45, 3) := by decide +kernel
theorem dX9_stepsOn_17 : decode cX9_stepsOn 17 = .ok (.aload_n 0, 1) := by decide +kernel
theorem dX9_stepsOn_18 : decode cX9_stepsOn 18 = .ok (.getfield 45, 3) := by decide +kernel
theorem dX9_stepsOn_21 : decode cX9_stepsOn 21 = .ok (.ifCond .ne 17, 3) := by decide +kernel
theorem dX9_stepsOn_24 : decode cX9_stepsOn 24 = .ok (.aload_n 0, 1) := by decide +kernel
theorem dX9_stepsOn_25 : decode cX9_stepsOn 25 = .ok (.iload_n 1, 1) := by decide +kernel
theorem dX9_stepsOn_26 : decode cX9_stepsOn 26 = .ok (.aload_n 0, 1) := by decide +kernel
theorem dX9_stepsOn_27 : decode cX9_stepsOn 27 = .ok (.iload_n 1, 1) := by decide +kernel
theorem dX9_stepsOn_28 : decode cX9_stepsOn 28 = .ok (.iconst 2, 1) := by decide +kernel
theorem dX9_stepsOn_29 : decode cX9_stepsOn 29 = .ok (.invokevirtual 173, 3) := by decide +kernel
theorem dX9_stepsOn_32 : decode cX9_stepsOn 32 = .ok (.invokevirtual 190, 3) := by decide +kernel
theorem dX9_stepsOn_35 : decode cX9_stepsOn 35 = .ok (.goto 4, 3) := by decide +kernel
theorem dX9_stepsOn_38 : decode cX9_stepsOn 38 = .ok (.iconst 0, 1) := by decide +kernel
theorem dX9_stepsOn_39 : decode cX9_stepsOn 39 = .ok (.ireturn, 1) := by decide +kernel
theorem dX9_longest_0 : decode cX9_longest 0 = .ok (.aload_n 0, 1) := by decide +kernel
theorem dX9_longest_1 : decode cX9_longest 1 = .ok (.aload_n 0, 1) := by decide +kernel
theorem dX9_longest_2 : decode cX9_longest 2 = .ok (.iload_n 1, 1) := by decide +kernel
theorem dX9_longest_3 : decode cX9_longest 3 = .ok (.invokevirtual 197, 3) := by decide +kernel
theorem dX9_longest_6 : decode cX9_longest 6 = .ok (.ifCond .eq 7, 3) := by decide +kernel
theorem dX9_longest_9 : decode cX9_longest 9 = .ok (.iconst 0, 1) := by decide +kernel
theorem dX9_longest_10 : decode cX9_longest 10 = .ok (.goto 4, 3) := by decide +kernel
theorem dX9_longest_13 : decode cX9_longest 13 = .ok (.iconst 1, 1) := by decide +kernel
theorem dX9_longest_14 : decode cX9_longest 14 = .ok (.putfield 45, 3) := by decide +kernel
theorem dX9_longest_17 : decode cX9_longest 17 = .ok (.aload_n 0, 1) := by decide +kernel
theorem dX9_longest_18 : decode cX9_longest 18 = .ok (.getfield 45, 3) := by decide +kernel
theorem dX9_longest_21 : decode cX9_longest 21 = .ok (.ifCond .le 5, 3) := by decide +kernel
theorem dX9_longest_24 : decode cX9_longest 24 = .ok (.iconst 0, 1) := by decide +kernel
theorem dX9_longest_25 : decode cX9_longest 25 = .ok (.ireturn, 1) := by decide +kernel
theorem dX9_longest_26 : decode cX9_longest 26 = .ok (.aload_n 0, 1) := by decide +kernel
theorem dX9_longest_27 : decode cX9_longest 27 = .ok (.iload_n 1, 1) := by decide +kernel
theorem dX9_longest_28 : decode cX9_longest 28 = .ok (.invokevirtual 184, 3) := by decide +kernel
theorem dX9_longest_31 : decode cX9_longest 31 = .ok (.aload_n 0, 1) := by decide +kernel
theorem dX9_longest_32 : decode cX9_longest 32 = .ok (.getfield 33, 3) := by decide +kernel
theorem dX9_longest_35 : decode cX9_longest 35 = .ok (.aload_n 0, 1) := by decide +kernel
theorem dX9_longest_36 : decode cX9_longest 36 = .ok (.iload_n 1, 1) := by decide +kernel
theorem dX9_longest_37 : decode cX9_longest 37 = .ok (.iconst 2, 1) := by decide +kernel
theorem dX9_longest_38 : decode cX9_longest 38 = .ok (.invokevirtual 173, 3) := by decide +kernel
theorem dX9_longest_41 : decode cX9_longest 41 = .ok (.iaload, 1) := by decide +kernel
theorem dX9_longest_42 : decode cX9_longest 42 = .ok (.ireturn, 1) := by decide +kernel
theorem dX9_goesDown_0 : decode cX9_goesDown 0 = .ok (.aload_n 0, 1) := by decide +kernel
theorem dX9_goesDown_1 : decode cX9_goesDown 1 = .ok (.iload_n 1, 1) := by decide +kernel
theorem dX9_goesDown_2 : decode cX9_goesDown 2 = .ok (.invokevirtual 184, 3) := by decide +kernel
theorem dX9_goesDown_5 : decode cX9_goesDown 5 = .ok (.aload_n 0, 1) := by decide +kernel
theorem dX9_goesDown_6 : decode cX9_goesDown 6 = .ok (.iload_n 1, 1) := by decide +kernel
theorem dX9_goesDown_7 : decode cX9_goesDown 7 = .ok (.iconst 2, 1) := by decide +kernel
theorem dX9_goesDown_8 : decode cX9_goesDown 8 = .ok (.invokevirtual 173, 3) := by decide +kernel
theorem dX9_goesDown_11 : decode cX9_goesDown 11 = .ok (.istore_n 2, 1) := by decide +kernel
theorem dX9_goesDown_12 : decode cX9_goesDown 12 = .ok (.iconst 0, 1) := by decide +kernel
theorem dX9_goesDown_13 : decode cX9_goesDown 13 = .ok (.istore_n 3, 1) := by decide +kernel
theorem dX9_goesDown_14 : decode cX9_goesDown 14 = .ok (.iload_n 3, 1) := by decide +kernel
theorem dX9_goesDown_15 : decode cX9_goesDown 15 = .ok (.iload_n 2, 1) := by decide +kernel
theorem dX9_goesDown_16 : decode cX9_goesDown 16 = .ok (.if_icmp .gt 25, 3) := by decide +kernel
theorem dX9_goesDown_19 : decode cX9_goesDown 19 = .ok (.aload_n 0, 1) := by decide +kernel
theorem dX9_goesDown_20 : decode cX9_goesDown 20 = .ok (.getfield 36, 3) := by decide +kernel
theorem dX9_goesDown_23 : decode cX9_goesDown 23 = .ok (.iload_n 3, 1) := by decide +kernel
theorem dX9_goesDown_24 : decode cX9_goesDown 24 = .ok (.iload_n 3, 1) := by decide +kernel
theorem dX9_goesDown_25 : decode cX9_goesDown 25 = .ok (.iload_n 2, 1) := by decide +kernel
theorem dX9_goesDown_26 : decode cX9_goesDown 26 = .ok (.if_icmp .ne 7, 3) := by decide +kernel
theorem dX9_goesDown_29 : decode cX9_goesDown 29 = .ok (.iconst 1, 1) := by decide +kernel
theorem dX9_goesDown_30 : decode cX9_goesDown 30 = .ok (.goto 4, 3) := by decide +kernel
theorem dX9_goesDown_33 : decode cX9_goesDown 33 = .ok (.iconst 0, 1) := by decide +kernel
theorem dX9_goesDown_34 : decode cX9_goesDown 34 = .ok (.bastore, 1) := by decide +kernel
theorem dX9_goesDown_35 : decode cX9_goesDown 35 = .ok (.iinc 3 1, 3) := by decide +kernel
theorem dX9_goesDown_38 : decode cX9_goesDown 38 = .ok (.goto (-24), 3) := by decide +kernel
theorem dX9_goesDown_41 : decode cX9_goesDown 41 = .ok (.aload_n 0, 1) := by decide +kernel
theorem dX9_goesDown_42 : decode cX9_goesDown 42 = .ok (.iconst 0, 1) := by decide +kernel
theorem dX9_goesDown_43 : decode cX9_goesDown 43 = .ok (.putfield 204, 3) := by decide +kernel
theorem dX9_goesDown_46 : decode cX9_goesDown 46 = .ok (.aload_n 0, 1) := by decide +kernel
theorem dX9_goesDown_47 : decode cX9_goesDown 47 = .ok (.lconst 0, 1) := by decide +kernel
theorem dX9_goesDown_48 : decode cX9_goesDown 48 = .ok (.putfield 207, 3) := by decide +kernel
theorem dX9_goesDown_51 : decode cX9_goesDown 51 = .ok (.iload_n 2, 1) := by decide +kernel
theorem dX9_goesDown_52 : decode cX9_goesDown 52 = .ok (.istore_n 3, 1) := by decide +kernel
theorem dX9_goesDown_53 : decode cX9_goesDown 53 = .ok (.iload_n 3, 1) := by decide +kernel
theorem dX9_goesDown_54 : decode cX9_goesDown 54 = .ok (.ifCond .lt 53, 3) := by decide +kernel
theorem dX9_goesDown_57 : decode cX9_goesDown 57 = .ok (.aload_n 0, 1) := by decide +kernel
theorem dX9_goesDown_58 : decode cX9_goesDown 58 = .ok (.getfield 36, 3) := by decide +kernel
theorem dX9_goesDown_61 : decode cX9_goesDown 61 = .ok (.iload_n 3, 1) := by decide +kernel
theorem dX9_goesDown_62 : decode cX9_goesDown 62 = .ok (.baload, 1) := by decide +kernel
theorem dX9_goesDown_63 : decode cX9_goesDown 63 = .ok (.ifCond .ne 6, 3) := by decide +kernel
theorem dX9_goesDown_66 : decode cX9_goesDown 66 = .ok (.goto 35, 3) := by decide +kernel
theorem dX9_goesDown_69 : decode cX9_goesDown 69 = .ok (.aload_n 0, 1) := by decide +kernel
theorem dX9_goesDown_70 : decode cX9_goesDown 70 = .ok (.dup, 1) := by decide +kernel
theorem dX9_goesDown_71 : decode cX9_goesDown 71 = .ok (.getfield 204, 3) := by decide +kernel
theorem dX9_goesDown_74 : decode cX9_goesDown 74 = .ok (.iconst 1, 1) := by decide +kernel
theorem dX9_goesDown_75 : decode cX9_goesDown 75 = .ok (.iadd, 1) := by decide +kernel
theorem dX9_goesDown_76 : decode cX9_goesDown 76 = .ok (.putfield 204, 3) := by decide +kernel
theorem dX9_goesDown_79 : decode cX9_goesDown 79 = .ok (.aload_n 0, 1) := by decide +kernel
theorem dX9_goesDown_80 : decode cX9_goesDown 80 = .ok (.dup, 1) := by decide +kernel
theorem dX9_goesDown_81 : decode cX9_goesDown 81 = .ok (.getfield 207, 3) := by decide +kernel
theorem dX9_goesDown_84 : decode cX9_goesDown 84 = .ok (.aload_n 0, 1) := by decide +kernel
theorem dX9_goesDown_85 : decode cX9_goesDown 85 = .ok (.getfield 30, 3) := by decide +kernel
theorem dX9_goesDown_88 : decode cX9_goesDown 88 = .ok (.iload_n 3, 1) := by decide +kernel
theorem dX9_goesDown_89 : decode cX9_goesDown 89 = .ok (.iaload, 1) := by decide +kernel
theorem dX9_goesDown_90 : decode cX9_goesDown 90 = .ok (.i2l, 1) := by decide +kernel
theorem dX9_goesDown_91 : decode cX9_goesDown 91 = .ok (.ladd, 1) := by decide +kernel
theorem dX9_goesDown_92 : decode cX9_goesDown 92 = .ok (.putfield 207, 3) := by decide +kernel
theorem dX9_goesDown_95 : decode cX9_goesDown 95 = .ok (.aload_n 0, 1) := by decide +kernel
theorem dX9_goesDown_96 : decode cX9_goesDown 96 = .ok (.iload_n 1, 1) := by decide +kernel
theorem dX9_goesDown_97 : decode cX9_goesDown 97 = .ok (.iload_n 3, 1) := by decide +kernel
theorem dX9_goesDown_98 : decode cX9_goesDown 98 = .ok (.invokevirtual 211, 3) := by decide +kernel
theorem dX9_goesDown_101 : decode cX9_goesDown 101 = .ok (.iinc 3 (-1), 3) := by decide +kernel
theorem dX9_goesDown_104 : decode cX9_goesDown 104 = .ok (.goto (-51), 3) := by decide +kernel
theorem dX9_goesDown_107 : decode cX9_goesDown 107 = .ok (.return_, 1) := by decide +kernel
theorem dX9_marks_0 : decode cX9_marks 0 = .ok (.iconst 1, 1) := by decide +kernel
theorem dX9_marks_1 : decode cX9_marks 1 = .ok (.istore_n 3, 1) := by decide +kernel
theorem dX9_marks_2 : decode cX9_marks 2 = .ok (.iload_n 3, 1) := by decide +kernel
theorem dX9_marks_3 : decode cX9_marks 3 = .ok (.aload_n 0, 1) := by decide +kernel
theorem dX9_marks_4 : decode cX9_marks 4 = .ok (.iload_n 1, 1) := by decide +kernel
theorem dX9_marks_5 : decode cX9_marks 5 = .ok (.iconst 0, 1) := by decide +kernel
theorem dX9_marks_6 : decode cX9_marks 6 = .ok (.invokevirtual 173, 3) := by decide +kernel
theorem dX9_marks_9 : decode cX9_marks 9 = .ok (.if_icmp .gt 76, 3) := by decide +kernel
theorem dX9_marks_12 : decode cX9_marks 12 = .ok (.iconst 1, 1) := by decide +kernel
theorem dX9_marks_13 : decode cX9_marks 13 = .ok (.istore 4, 2) := by decide +kernel
theorem dX9_marks_15 : decode cX9_marks 15 = .ok (.iload 4, 2) := by decide +kernel
theorem dX9_marks_17 : decode cX9_marks 17 = .ok (.bipush 12, 2) := by decide +kernel
theorem dX9_marks_19 : decode cX9_marks 19 = .ok (.if_icmp .gt 60, 3) := by decide +kernel
theorem dX9_marks_22 : decode cX9_marks 22 = .ok (.iload_n 2, 1) := by decide +kernel
theorem dX9_marks_23 : decode cX9_marks 23 = .ok (.iload_n 3, 1) := by decide +kernel
theorem dX9_marks_24 : decode cX9_marks 24 = .ok (.invokestatic 118, 3) := by decide +kernel
theorem dX9_marks_27 : decode cX9_marks 27 = .ok (.ifCond .eq 52, 3) := by decide +kernel
theorem dX9_marks_30 : decode cX9_marks 30 = .ok (.aload_n 0, 1) := by decide +kernel
theorem dX9_marks_31 : decode cX9_marks 31 = .ok (.iload_n 1, 1) := by decide +kernel
theorem dX9_marks_32 : decode cX9_marks 32 = .ok (.iconst 4, 1) := by decide +kernel
theorem dX9_marks_33 : decode cX9_marks 33 = .ok (.invokevirtual 173, 3) := by decide +kernel
theorem dX9_marks_36 : decode cX9_marks 36 = .ok (.iload 4, 2) := by decide +kernel
theorem dX9_marks_38 : decode cX9_marks 38 = .ok (.invokestatic 118, 3) := by decide +kernel
theorem dX9_marks_41 : decode cX9_marks 41 = .ok (.ifCond .eq 15, 3) := by decide +kernel
theorem dX9_marks_44 : decode cX9_marks 44 = .ok (.aload_n 0, 1) := by decide +kernel
theorem dX9_marks_45 : decode cX9_marks 45 = .ok (.iload_n 1, 1) := by decide +kernel
theorem dX9_marks_46 : decode cX9_marks 46 = .ok (.iload_n 2, 1) := by decide +kernel
theorem dX9_marks_47 : decode cX9_marks 47 = .ok (.iload_n 3, 1) := by decide +kernel
theorem dX9_marks_48 : decode cX9_marks 48 = .ok (.iload 4, 2) := by decide +kernel
theorem dX9_marks_50 : decode cX9_marks 50 = .ok (.invokevirtual 180, 3) := by decide +kernel
theorem dX9_marks_53 : decode cX9_marks 53 = .ok (.goto 4, 3) := by decide +kernel
theorem dX9_marks_56 : decode cX9_marks 56 = .ok (.iconst (-1), 1) := by decide +kernel
theorem dX9_marks_57 : decode cX9_marks 57 = .ok (.istore 5, 2) := by decide +kernel
theorem dX9_marks_59 : decode cX9_marks 59 = .ok (.iload 5, 2) := by decide +kernel
theorem dX9_marks_61 : decode cX9_marks 61 = .ok (.iconst (-1), 1) := by decide +kernel
theorem dX9_marks_62 : decode cX9_marks 62 = .ok (.if_icmp .eq 11, 3) := by decide +kernel
theorem dX9_marks_65 : decode cX9_marks 65 = .ok (.aload_n 0, 1) := by decide +kernel
theorem dX9_marks_66 : decode cX9_marks 66 = .ok (.getfield 36, 3) := by decide +kernel
theorem dX9_marks_69 : decode cX9_marks 69 = .ok (.iload 5, 2) := by decide +kernel
theorem dX9_marks_71 : decode cX9_marks 71 = .ok (.iconst 1, 1) := by decide +kernel
theorem dX9_marks_72 : decode cX9_marks 72 = .ok (.bastore, 1) := by decide +kernel
theorem dX9_marks_73 : decode cX9_marks 73 = .ok (.iinc 4 1, 3) := by decide +kernel
theorem dX9_marks_76 : decode cX9_marks 76 = .ok (.goto (-61), 3) := by decide +kernel
theorem dX9_marks_79 : decode cX9_marks 79 = .ok (.iinc 3 1, 3) := by decide +kernel
theorem dX9_marks_82 : decode cX9_marks 82 = .ok (.goto (-80), 3) := by decide +kernel
theorem dX9_marks_85 : decode cX9_marks 85 = .ok (.return_, 1) := by decide +kernel
theorem dX9_positions_0 : decode cX9_positions 0 = .ok (.aload_n 0, 1) := by decide +kernel
theorem dX9_positions_1 : decode cX9_positions 1 = .ok (.aload_n 0, 1) := by decide +kernel
theorem dX9_positions_2 : decode cX9_positions 2 = .ok (.iload_n 1, 1) := by decide +kernel
theorem dX9_positions_3 : decode cX9_positions 3 = .ok (.invokevirtual 197, 3) := by decide +kernel
theorem dX9_positions_6 : decode cX9_positions 6 = .ok (.ifCond .eq 7, 3) := by decide +kernel
theorem dX9_positions_9 : decode cX9_positions 9 = .ok (.iconst 0, 1) := by decide +kernel
theorem dX9_positions_10 : decode cX9_positions 10 = .ok (.goto 4, 3) := by decide +kernel
theorem dX9_positions_13 : decode cX9_positions 13 = .ok (.iconst 1, 1) := by decide +kernel
theorem dX9_positions_14 : decode cX9_positions 14 = .ok (.putfield 45, 3) := by decide +kernel
theorem dX9_positions_17 : decode cX9_positions 17 = .ok (.aload_n 0, 1) := by decide +kernel
theorem dX9_positions_18 : decode cX9_positions 18 = .ok (.getfield 45, 3) := by decide +kernel
theorem dX9_positions_21 : decode cX9_positions 21 = .ok (.ifCond .le 5, 3) := by decide +kernel
theorem dX9_positions_24 : decode cX9_positions 24 = .ok (.iconst 0, 1) := by decide +kernel
theorem dX9_positions_25 : decode cX9_positions 25 = .ok (.ireturn, 1) := by decide +kernel
theorem dX9_positions_26 : decode cX9_positions 26 = .ok (.aload_n 0, 1) := by decide +kernel
theorem dX9_positions_27 : decode cX9_positions 27 = .ok (.iload_n 1, 1) := by decide +kernel
theorem dX9_positions_28 : decode cX9_positions 28 = .ok (.invokevirtual 214, 3) := by decide +kernel
theorem dX9_positions_31 : decode cX9_positions 31 = .ok (.aload_n 0, 1) := by decide +kernel
theorem dX9_positions_32 : decode cX9_positions 32 = .ok (.getfield 204, 3) := by decide +kernel
theorem dX9_positions_35 : decode cX9_positions 35 = .ok (.ireturn, 1) := by decide +kernel
theorem dX9_meanValue_0 : decode cX9_meanValue 0 = .ok (.aload_n 0, 1) := by decide +kernel
theorem dX9_meanValue_1 : decode cX9_meanValue 1 = .ok (.aload_n 0, 1) := by decide +kernel
theorem dX9_meanValue_2 : decode cX9_meanValue 2 = .ok (.iload_n 1, 1) := by decide +kernel
theorem dX9_meanValue_3 : decode cX9_meanValue 3 = .ok (.invokevirtual 197, 3) := by decide +kernel
theorem dX9_meanValue_6 : decode cX9_meanValue 6 = .ok (.ifCond .eq 7, 3) := by decide +kernel
theorem dX9_meanValue_9 : decode cX9_meanValue 9 = .ok (.iconst 0, 1) := by decide +kernel
theorem dX9_meanValue_10 : decode cX9_meanValue 10 = .ok (.goto 4, 3) := by decide +kernel
theorem dX9_meanValue_13 : decode cX9_meanValue 13 = .ok (.iconst 1, 1) := by decide +kernel
theorem dX9_meanValue_14 : decode cX9_meanValue 14 = .ok (.putfield 45, 3) := by decide +kernel
theorem dX9_meanValue_17 : decode cX9_meanValue 17 = .ok (.aload_n 0, 1) := by decide +kernel
theorem dX9_meanValue_18 : decode cX9_meanValue 18 = .ok (.getfield 45, 3) := by decide +kernel
theorem dX9_meanValue_21 : decode cX9_meanValue 21 = .ok (.ifCond .le 5, 3) := by decide +kernel
theorem dX9_meanValue_24 : decode cX9_meanValue 24 = .ok (.dconst 0, 1) := by decide +kernel
theorem dX9_meanValue_25 : decode cX9_meanValue 25 = .ok (.dreturn, 1) := by decide +kernel
theorem dX9_meanValue_26 : decode cX9_meanValue 26 = .ok (.aload_n 0, 1) := by decide +kernel
theorem dX9_meanValue_27 : decode cX9_meanValue 27 = .ok (.iload_n 1, 1) := by decide +kernel
theorem dX9_meanValue_28 : decode cX9_meanValue 28 = .ok (.invokevirtual 214, 3) := by decide +kernel
theorem dX9_meanValue_31 : decode cX9_meanValue 31 = .ok (.aload_n 0, 1) := by decide +kernel
theorem dX9_meanValue_32 : decode cX9_meanValue 32 = .ok (.getfield 207, 3) := by decide +kernel
theorem dX9_meanValue_35 : decode cX9_meanValue 35 = .ok (.l2d, 1) := by decide +kernel
theorem dX9_meanValue_36 : decode cX9_meanValue 36 = .ok (.aload_n 0, 1) := by decide +kernel
theorem dX9_meanValue_37 : decode cX9_meanValue 37 = .ok (.getfield 204, 3) := by decide +kernel
theorem dX9_meanValue_40 : decode cX9_meanValue 40 = .ok (.i2d, 1) := by decide +kernel
theorem dX9_meanValue_41 : decode cX9_meanValue 41 = .ok (.ddiv, 1) := by decide +kernel
theorem dX9_meanValue_42 : decode cX9_meanValue 42 = .ok (.dreturn, 1) := by decide +kernel
theorem dX9_isMex_0 : decode cX9_isMex 0 = .ok (.aload_n 0, 1) := by decide +kernel
theorem dX9_isMex_1 : decode cX9_isMex 1 = .ok (.iload_n 1, 1) := by decide +kernel
theorem dX9_isMex_2 : decode cX9_isMex 2 = .ok (.invokevirtual 184, 3) := by decide +kernel
theorem dX9_isMex_5 : decode cX9_isMex 5 = .ok (.aload_n 0, 1) := by decide +kernel
theorem dX9_isMex_6 : decode cX9_isMex 6 = .ok (.iload_n 1, 1) := by decide +kernel
theorem dX9_isMex_7 : decode cX9_isMex 7 = .ok (.iconst 2, 1) := by decide +kernel
theorem dX9_isMex_8 : decode cX9_isMex 8 = .ok (.invokevirtual 173, 3) := by decide +kernel
theorem dX9_isMex_11 : decode cX9_isMex 11 = .ok (.istore_n 2, 1) := by decide +kernel
theorem dX9_isMex_12 : decode cX9_isMex 12 = .ok (.iconst 0, 1) := by decide +kernel
theorem dX9_isMex_13 : decode cX9_isMex 13 = .ok (.istore_n 3, 1) := by decide +kernel
theorem dX9_isMex_14 : decode cX9_isMex 14 = .ok (.iconst 1, 1) := by decide +kernel
theorem dX9_isMex_15 : decode cX9_isMex 15 = .ok (.istore 4, 2) := by decide +kernel
theorem dX9_isMex_17 : decode cX9_isMex 17 = .ok (.iload 4, 2) := by decide +kernel
theorem dX9_isMex_19 : decode cX9_isMex 19 = .ok (.aload_n 0, 1) := by decide +kernel
theorem dX9_isMex_20 : decode cX9_isMex 20 = .ok (.iload_n 1, 1) := by decide +kernel
theorem dX9_isMex_21 : decode cX9_isMex 21 = .ok (.iconst 0, 1) := by decide +kernel
theorem dX9_isMex_22 : decode cX9_isMex 22 = .ok (.invokevirtual 173, 3) := by decide +kernel
theorem dX9_isMex_25 : decode cX9_isMex 25 = .ok (.if_icmp .gt 82, 3) := by decide +kernel
theorem dX9_isMex_28 : decode cX9_isMex 28 = .ok (.iconst 1, 1) := by decide +kernel
theorem dX9_isMex_29 : decode cX9_isMex 29 = .ok (.istore 5, 2) := by decide +kernel
theorem dX9_isMex_31 : decode cX9_isMex 31 = .ok (.iload 5, 2) := by decide +kernel
theorem dX9_isMex_33 : decode cX9_isMex 33 = .ok (.bipush 12, 2) := by decide +kernel
theorem dX9_isMex_35 : decode cX9_isMex 35 = .ok (.if_icmp .gt 66, 3) := by decide +kernel
theorem dX9_isMex_38 : decode cX9_isMex 38 = .ok (.iload_n 2, 1) := by decide +kernel
theorem dX9_isMex_39 : decode cX9_isMex 39 = .ok (.iload 4, 2) := by decide +kernel
theorem dX9_isMex_41 : decode cX9_isMex 41 = .ok (.invokestatic 118, 3) := by decide +kernel
theorem dX9_isMex_44 : decode cX9_isMex 44 = .ok (.ifCond .eq 57, 3) := by decide +kernel
theorem dX9_isMex_47 : decode cX9_isMex 47 = .ok (.aload_n 0, 1) := by decide +kernel
theorem dX9_isMex_48 : decode cX9_isMex 48 = .ok (.iload_n 1, 1) := by decide +kernel
theorem dX9_isMex_49 : decode cX9_isMex 49 = .ok (.iconst 4, 1) := by decide +kernel
theorem dX9_isMex_50 : decode cX9_isMex 50 = .ok (.invokevirtual 173, 3) := by decide +kernel
theorem dX9_isMex_53 : decode cX9_isMex 53 = .ok (.iload 5, 2) := by decide +kernel
theorem dX9_isMex_55 : decode cX9_isMex 55 = .ok (.invokestatic 118, 3) := by decide +kernel
theorem dX9_isMex_58 : decode cX9_isMex 58 = .ok (.ifCond .eq 16, 3) := by decide +kernel
theorem dX9_isMex_61 : decode cX9_isMex 61 = .ok (.aload_n 0, 1) := by decide +kernel
theorem dX9_isMex_62 : decode cX9_isMex 62 = .ok (.iload_n 1, 1) := by decide +kernel
theorem dX9_isMex_63 : decode cX9_isMex 63 = .ok (.iload_n 2, 1) := by decide +kernel
theorem dX9_isMex_64 : decode cX9_isMex 64 = .ok (.iload 4, 2) := by decide +kernel
theorem dX9_isMex_66 : decode cX9_isMex 66 = .ok (.iload 5, 2) := by decide +kernel
theorem dX9_isMex_68 : decode cX9_isMex 68 = .ok (.invokevirtual 180, 3) := by decide +kernel
theorem dX9_isMex_71 : decode cX9_isMex 71 = .ok (.goto 4, 3) := by decide +kernel
theorem dX9_isMex_74 : decode cX9_isMex 74 = .ok (.iconst (-1), 1) := by decide +kernel
theorem dX9_isMex_75 : decode cX9_isMex 75 = .ok (.istore 6, 2) := by decide +kernel
theorem dX9_isMex_77 : decode cX9_isMex 77 = .ok (.iload 6, 2) := by decide +kernel
theorem dX9_isMex_79 : decode cX9_isMex 79 = .ok (.iconst (-1), 1) := by decide +kernel
theorem dX9_isMex_80 : decode cX9_isMex 80 = .ok (.if_icmp .eq 15, 3) := by decide +kernel
theorem dX9_isMex_83 : decode cX9_isMex 83 = .ok (.iload_n 3, 1) := by decide +kernel
theorem dX9_isMex_84 : decode cX9_isMex 84 = .ok (.iconst 1, 1) := by decide +kernel
theorem dX9_isMex_85 : decode cX9_isMex 85 = .ok (.aload_n 0, 1) := by decide +kernel
theorem dX9_isMex_86 : decode cX9_isMex 86 = .ok (.getfield 30, 3) := by decide +kernel
theorem dX9_isMex_89 : decode cX9_isMex 89 = .ok (.iload 6, 2) := by decide +kernel
theorem dX9_isMex_91 : decode cX9_isMex 91 = .ok (.iaload, 1) := by decide +kernel
theorem dX9_isMex_92 : decode cX9_isMex 92 = .ok (.ishl, 1) := by decide +kernel
theorem dX9_isMex_93 : decode cX9_isMex 93 = .ok (.ior, 1) := by decide +kernel
theorem dX9_isMex_94 : decode cX9_isMex 94 = .ok (.istore_n 3, 1) := by decide +kernel
theorem dX9_isMex_95 : decode cX9_isMex 95 = .ok (.iinc 5 1, 3) := by decide +kernel
theorem dX9_isMex_98 : decode cX9_isMex 98 = .ok (.goto (-67), 3) := by decide +kernel
theorem dX9_isMex_101 : decode cX9_isMex 101 = .ok (.iinc 4 1, 3) := by decide +kernel
theorem dX9_isMex_104 : decode cX9_isMex 104 = .ok (.goto (-87), 3) := by decide +kernel
theorem dX9_isMex_107 : decode cX9_isMex 107 = .ok (.iconst 1, 1) := by decide +kernel
theorem dX9_isMex_108 : decode cX9_isMex 108 = .ok (.aload_n 0, 1) := by decide +kernel
theorem dX9_isMex_109 : decode cX9_isMex 109 = .ok (.getfield 30, 3) := by decide +kernel
theorem dX9_isMex_112 : decode cX9_isMex 112 = .ok (.iload_n 2, 1) := by decide +kernel
theorem dX9_isMex_113 : decode cX9_isMex 113 = .ok (.iaload, 1) := by decide +kernel
theorem dX9_isMex_114 : decode cX9_isMex 114 = .ok (.ishl, 1) := by decide +kernel
theorem dX9_isMex_115 : decode cX9_isMex 115 = .ok (.iconst 1, 1) := by decide +kernel
theorem dX9_isMex_116 : decode cX9_isMex 116 = .ok (.isub, 1) := by decide +kernel
theorem dX9_isMex_117 : decode cX9_isMex 117 = .ok (.istore 4, 2) := by decide +kernel
theorem dX9_isMex_119 : decode cX9_isMex 119 = .ok (.iload_n 3, 1) := by decide +kernel
theorem dX9_isMex_120 : decode cX9_isMex 120 = .ok (.aload_n 0, 1) := by decide +kernel
theorem dX9_isMex_121 : decode cX9_isMex 121 = .ok (.getfield 30, 3) := by decide +kernel
theorem dX9_isMex_124 : decode cX9_isMex 124 = .ok (.iload_n 2, 1) := by decide +kernel
theorem dX9_isMex_125 : decode cX9_isMex 125 = .ok (.iaload, 1) := by decide +kernel
theorem dX9_isMex_126 : decode cX9_isMex 126 = .ok (.invokestatic 118, 3) := by decide +kernel
theorem dX9_isMex_129 : decode cX9_isMex 129 = .ok (.ifCond .ne 16, 3) := by decide +kernel
theorem dX9_isMex_132 : decode cX9_isMex 132 = .ok (.iload_n 3, 1) := by decide +kernel
theorem dX9_isMex_133 : decode cX9_isMex 133 = .ok (.iload 4, 2) := by decide +kernel
theorem dX9_isMex_135 : decode cX9_isMex 135 = .ok (.iand, 1) := by decide +kernel
theorem dX9_isMex_136 : decode cX9_isMex 136 = .ok (.iload 4, 2) := by decide +kernel
theorem dX9_isMex_138 : decode cX9_isMex 138 = .ok (.if_icmp .ne 7, 3) := by decide +kernel
theorem dX9_isMex_141 : decode cX9_isMex 141 = .ok (.iconst 1, 1) := by decide +kernel
theorem dX9_isMex_142 : decode cX9_isMex 142 = .ok (.goto 4, 3) := by decide +kernel
theorem dX9_isMex_145 : decode cX9_isMex 145 = .ok (.iconst 0, 1) := by decide +kernel
theorem dX9_isMex_146 : decode cX9_isMex 146 = .ok (.ireturn, 1) := by decide +kernel
theorem dX9_isRight_0 : decode cX9_isRight 0 = .ok (.aload_n 0, 1) := by decide +kernel
theorem dX9_isRight_1 : decode cX9_isRight 1 = .ok (.iconst 0, 1) := by decide +kernel
theorem dX9_isRight_2 : decode cX9_isRight 2 = .ok (.putfield 45, 3) := by decide +kernel
theorem dX9_isRight_5 : decode cX9_isRight 5 = .ok (.iconst 1, 1) := by decide +kernel
theorem dX9_isRight_6 : decode cX9_isRight 6 = .ok (.istore_n 1, 1) := by decide +kernel
theorem dX9_isRight_7 : decode cX9_isRight 7 = .ok (.iconst 0, 1) := by decide +kernel
theorem dX9_isRight_8 : decode cX9_isRight 8 = .ok (.istore_n 2, 1) := by decide +kernel
theorem dX9_isRight_9 : decode cX9_isRight 9 = .ok (.iload_n 2, 1) := by decide +kernel
theorem dX9_isRight_10 : decode cX9_isRight 10 = .ok (.aload_n 0, 1) := by decide +kernel
theorem dX9_isRight_11 : decode cX9_isRight 11 = .ok (.invokevirtual 163, 3) := by decide +kernel
theorem dX9_isRight_14 : decode cX9_isRight 14 = .ok (.if_icmp .ge 27, 3) := by decide +kernel
theorem dX9_isRight_17 : decode cX9_isRight 17 = .ok (.iload_n 1, 1) := by decide +kernel
theorem dX9_isRight_18 : decode cX9_isRight 18 = .ok (.ifCond .eq 15, 3) := by decide +kernel
theorem dX9_isRight_21 : decode cX9_isRight 21 = .ok (.aload_n 0, 1) := by decide +kernel
theorem dX9_isRight_22 : decode cX9_isRight 22 = .ok (.iload_n 2, 1) := by decide +kernel
theorem dX9_isRight_23 : decode cX9_isRight 23 = .ok (.invokevirtual 217, 3) := by decide +kernel
theorem dX9_isRight_26 : decode cX9_isRight 26 = .ok (.ifCond .eq 7, 3) := by decide +kernel
theorem dX9_isRight_29 : decode cX9_isRight 29 = .ok (.iconst 1, 1) := by decide +kernel
theorem dX9_isRight_30 : decode cX9_isRight 30 = .ok (.goto 4, 3) := by decide +kernel
theorem dX9_isRight_33 : decode cX9_isRight 33 = .ok (.iconst 0, 1) := by decide +kernel
theorem dX9_isRight_34 : decode cX9_isRight 34 = .ok (.istore_n 1, 1) := by decide +kernel
theorem dX9_isRight_35 : decode cX9_isRight 35 = .ok (.iinc 2 1, 3) := by decide +kernel
theorem dX9_isRight_38 : decode cX9_isRight 38 = .ok (.goto (-29), 3) := by decide +kernel
theorem dX9_isRight_41 : decode cX9_isRight 41 = .ok (.iload_n 1, 1) := by decide +kernel
theorem dX9_isRight_42 : decode cX9_isRight 42 = .ok (.ireturn, 1) := by decide +kernel
theorem dX9_whyStep_0 : decode cX9_whyStep 0 = .ok (.aload_n 0, 1) := by decide +kernel
theorem dX9_whyStep_1 : decode cX9_whyStep 1 = .ok (.invokevirtual 193, 3) := by decide +kernel
theorem dX9_whyStep_4 : decode cX9_whyStep 4 = .ok (.ifCond .eq 5, 3) := by decide +kernel
theorem dX9_whyStep_7 : decode cX9_whyStep 7 = .ok (.iconst 1, 1) := by decide +kernel
theorem dX9_whyStep_8 : decode cX9_whyStep 8 = .ok (.ireturn, 1) := by decide +kernel
theorem dX9_whyStep_9 : decode cX9_whyStep 9 = .ok (.aload_n 0, 1) := by decide +kernel
theorem dX9_whyStep_10 : decode cX9_whyStep 10 = .ok (.iload_n 1, 1) := by decide +kernel
theorem dX9_whyStep_11 : decode cX9_whyStep 11 = .ok (.invokevirtual 197, 3) := by decide +kernel
theorem dX9_whyStep_14 : decode cX9_whyStep 14 = .ok (.ifCond .ne 5, 3) := by decide +kernel
theorem dX9_whyStep_17 : decode cX9_whyStep 17 = .ok (.iconst 2, 1) := by decide +kernel
theorem dX9_whyStep_18 : decode cX9_whyStep 18 = .ok (.ireturn, 1) := by decide +kernel
theorem dX9_whyStep_19 : decode cX9_whyStep 19 = .ok (.iload_n 2, 1) := by decide +kernel
theorem dX9_whyStep_20 : decode cX9_whyStep 20 = .ok (.iconst 1, 1) := by decide +kernel
theorem dX9_whyStep_21 : decode cX9_whyStep 21 = .ok (.aload_n 0, 1) := by decide +kernel
theorem dX9_whyStep_22 : decode cX9_whyStep 22 = .ok (.iload_n 1, 1) := by decide +kernel
theorem dX9_whyStep_23 : decode cX9_whyStep 23 = .ok (.iconst 0, 1) := by decide +kernel
theorem dX9_whyStep_24 : decode cX9_whyStep 24 = .ok (.invokevirtual 173, 3) := by decide +kernel
theorem dX9_whyStep_27 : decode cX9_whyStep 27 = .ok (.invokestatic 72, 3) := by decide +kernel
theorem dX9_whyStep_30 : decode cX9_whyStep 30 = .ok (.ifCond .eq 16, 3) := by decide +kernel
theorem dX9_whyStep_33 : decode cX9_whyStep 33 = .ok (.aload_n 0, 1) := by decide +kernel
theorem dX9_whyStep_34 : decode cX9_whyStep 34 = .ok (.iload_n 1, 1) := by decide +kernel
theorem dX9_whyStep_35 : decode cX9_whyStep 35 = .ok (.iconst 2, 1) := by decide +kernel
theorem dX9_whyStep_36 : decode cX9_whyStep 36 = .ok (.invokevirtual 173, 3) := by decide +kernel
theorem dX9_whyStep_39 : decode cX9_whyStep 39 = .ok (.iload_n 2, 1) := by decide +kernel
theorem dX9_whyStep_40 : decode cX9_whyStep 40 = .ok (.invokestatic 118, 3) := by decide +kernel
theorem dX9_whyStep_43 : decode cX9_whyStep 43 = .ok (.ifCond .ne 5, 3) := by decide +kernel
theorem dX9_whyStep_46 : decode cX9_whyStep 46 = .ok (.iconst 3, 1) := by decide +kernel
theorem dX9_whyStep_47 : decode cX9_whyStep 47 = .ok (.ireturn, 1) := by decide +kernel
theorem dX9_whyStep_48 : decode cX9_whyStep 48 = .ok (.iload_n 3, 1) := by decide +kernel
theorem dX9_whyStep_49 : decode cX9_whyStep 49 = .ok (.iconst 1, 1) := by decide +kernel
theorem dX9_whyStep_50 : decode cX9_whyStep 50 = .ok (.bipush 12, 2) := by decide +kernel
theorem dX9_whyStep_52 : decode cX9_whyStep 52 = .ok (.invokestatic 72, 3) := by decide +kernel
theorem dX9_whyStep_55 : decode cX9_whyStep 55 = .ok (.ifCond .eq 16, 3) := by decide +kernel
theorem dX9_whyStep_58 : decode cX9_whyStep 58 = .ok (.aload_n 0, 1) := by decide +kernel
theorem dX9_whyStep_59 : decode cX9_whyStep 59 = .ok (.iload_n 1, 1) := by decide +kernel
theorem dX9_whyStep_60 : decode cX9_whyStep 60 = .ok (.iconst 4, 1) := by decide +kernel
theorem dX9_whyStep_61 : decode cX9_whyStep 61 = .ok (.invokevirtual 173, 3) := by decide +kernel
theorem dX9_whyStep_64 : decode cX9_whyStep 64 = .ok (.iload_n 3, 1) := by decide +kernel
theorem dX9_whyStep_65 : decode cX9_whyStep 65 = .ok (.invokestatic 118, 3) := by decide +kernel
theorem dX9_whyStep_68 : decode cX9_whyStep 68 = .ok (.ifCond .ne 5, 3) := by decide +kernel
theorem dX9_whyStep_71 : decode cX9_whyStep 71 = .ok (.iconst 4, 1) := by decide +kernel
theorem dX9_whyStep_72 : decode cX9_whyStep 72 = .ok (.ireturn, 1) := by decide +kernel
theorem dX9_whyStep_73 : decode cX9_whyStep 73 = .ok (.iload_n 2, 1) := by decide +kernel
theorem dX9_whyStep_74 : decode cX9_whyStep 74 = .ok (.iload_n 3, 1) := by decide +kernel
theorem dX9_whyStep_75 : decode cX9_whyStep 75 = .ok (.isub, 1) := by decide +kernel
theorem dX9_whyStep_76 : decode cX9_whyStep 76 = .ok (.istore 4, 2) := by decide +kernel
theorem dX9_whyStep_78 : decode cX9_whyStep 78 = .ok (.iload 4, 2) := by decide +kernel
theorem dX9_whyStep_80 : decode cX9_whyStep 80 = .ok (.ifCond .ge 5, 3) := by decide +kernel
theorem dX9_whyStep_83 : decode cX9_whyStep 83 = .ok (.iconst 5, 1) := by decide +kernel
theorem dX9_whyStep_84 : decode cX9_whyStep 84 = .ok (.ireturn, 1) := by decide +kernel
theorem dX9_whyStep_85 : decode cX9_whyStep 85 = .ok (.iload 4, 2) := by decide +kernel
theorem dX9_whyStep_87 : decode cX9_whyStep 87 = .ok (.ifCond .le 20, 3) := by decide +kernel
theorem dX9_whyStep_90 : decode cX9_whyStep 90 = .ok (.aload_n 0, 1) := by decide +kernel
theorem dX9_whyStep_91 : decode cX9_whyStep 91 = .ok (.iload_n 1, 1) := by decide +kernel
theorem dX9_whyStep_92 : decode cX9_whyStep 92 = .ok (.iconst 3, 1) := by decide +kernel
theorem dX9_whyStep_93 : decode cX9_whyStep 93 = .ok (.invokevirtual 173, 3) := by decide +kernel
theorem dX9_whyStep_96 : decode cX9_whyStep 96 = .ok (.iload 4, 2) := by decide +kernel
theorem dX9_whyStep_98 : decode cX9_whyStep 98 = .ok (.invokestatic 118, 3) := by decide +kernel
theorem dX9_whyStep_101 : decode cX9_whyStep 101 = .ok (.ifCond .eq 6, 3) := by decide +kernel
theorem dX9_whyStep_104 : decode cX9_whyStep 104 = .ok (.bipush 6, 2) := by decide +kernel
theorem dX9_whyStep_106 : decode cX9_whyStep 106 = .ok (.ireturn, 1) := by decide +kernel
theorem dX9_whyStep_107 : decode cX9_whyStep 107 = .ok (.iload 4, 2) := by decide +kernel
theorem dX9_whyStep_109 : decode cX9_whyStep 109 = .ok (.ifCond .le 20, 3) := by decide +kernel
theorem dX9_whyStep_112 : decode cX9_whyStep 112 = .ok (.aload_n 0, 1) := by decide +kernel
theorem dX9_whyStep_113 : decode cX9_whyStep 113 = .ok (.iload_n 1, 1) := by decide +kernel
theorem dX9_whyStep_114 : decode cX9_whyStep 114 = .ok (.iconst 2, 1) := by decide +kernel
theorem dX9_whyStep_115 : decode cX9_whyStep 115 = .ok (.invokevirtual 173, 3) := by decide +kernel
theorem dX9_whyStep_118 : decode cX9_whyStep 118 = .ok (.iload 4, 2) := by decide +kernel
theorem dX9_whyStep_120 : decode cX9_whyStep 120 = .ok (.invokestatic 118, 3) := by decide +kernel
theorem dX9_whyStep_123 : decode cX9_whyStep 123 = .ok (.ifCond .eq 6, 3) := by decide +kernel
theorem dX9_whyStep_126 : decode cX9_whyStep 126 = .ok (.bipush 7, 2) := by decide +kernel
theorem dX9_whyStep_128 : decode cX9_whyStep 128 = .ok (.ireturn, 1) := by decide +kernel
theorem dX9_whyStep_129 : decode cX9_whyStep 129 = .ok (.aload_n 0, 1) := by decide +kernel
theorem dX9_whyStep_130 : decode cX9_whyStep 130 = .ok (.iload_n 1, 1) := by decide +kernel
theorem dX9_whyStep_131 : decode cX9_whyStep 131 = .ok (.iload_n 2, 1) := by decide +kernel
theorem dX9_whyStep_132 : decode cX9_whyStep 132 = .ok (.iload_n 3, 1) := by decide +kernel
theorem dX9_whyStep_133 : decode cX9_whyStep 133 = .ok (.invokevirtual 220, 3) := by decide +kernel
theorem dX9_whyStep_136 : decode cX9_whyStep 136 = .ok (.ireturn, 1) := by decide +kernel
theorem dX9_barred_0 : decode cX9_barred 0 = .ok (.aload_n 0, 1) := by decide +kernel
theorem dX9_barred_1 : decode cX9_barred 1 = .ok (.iload_n 1, 1) := by decide +kernel
theorem dX9_barred_2 : decode cX9_barred 2 = .ok (.iconst 5, 1) := by decide +kernel
theorem dX9_barred_3 : decode cX9_barred 3 = .ok (.invokevirtual 173, 3) := by decide +kernel
theorem dX9_barred_6 : decode cX9_barred 6 = .ok (.iconst 1, 1) := by decide +kernel
theorem dX9_barred_7 : decode cX9_barred 7 = .ok (.aload_n 0, 1) := by decide +kernel
theorem dX9_barred_8 : decode cX9_barred 8 = .ok (.getfield 17, 3) := by decide +kernel
theorem dX9_barred_11 : decode cX9_barred 11 = .ok (.bipush 55, 2) := by decide +kernel
theorem dX9_barred_13 : decode cX9_barred 13 = .ok (.iaload, 1) := by decide +kernel
theorem dX9_barred_14 : decode cX9_barred 14 = .ok (.isub, 1) := by decide +kernel
theorem dX9_barred_15 : decode cX9_barred 15 = .ok (.if_icmp .ne 6, 3) := by decide +kernel
theorem dX9_barred_18 : decode cX9_barred 18 = .ok (.bipush 8, 2) := by decide +kernel
theorem dX9_barred_20 : decode cX9_barred 20 = .ok (.ireturn, 1) := by decide +kernel
theorem dX9_barred_21 : decode cX9_barred 21 = .ok (.aload_n 0, 1) := by decide +kernel
theorem dX9_barred_22 : decode cX9_barred 22 = .ok (.getfield 17, 3) := by decide +kernel
theorem dX9_barred_25 : decode cX9_barred 25 = .ok (.bipush 57, 2) := by decide +kernel
theorem dX9_barred_27 : decode cX9_barred 27 = .ok (.iaload, 1) := by decide +kernel
theorem dX9_barred_28 : decode cX9_barred 28 = .ok (.iload_n 1, 1) := by decide +kernel
theorem dX9_barred_29 : decode cX9_barred 29 = .ok (.if_icmp .ne 30, 3) := by decide +kernel
theorem dX9_barred_32 : decode cX9_barred 32 = .ok (.aload_n 0, 1) := by decide +kernel
theorem dX9_barred_33 : decode cX9_barred 33 = .ok (.getfield 17, 3) := by decide +kernel
theorem dX9_barred_36 : decode cX9_barred 36 = .ok (.bipush 58, 2) := by decide +kernel
theorem dX9_barred_38 : decode cX9_barred 38 = .ok (.iaload, 1) := by decide +kernel
theorem dX9_barred_39 : decode cX9_barred 39 = .ok (.iload_n 2, 1) := by decide +kernel
theorem dX9_barred_40 : decode cX9_barred 40 = .ok (.if_icmp .ne 19, 3) := by decide +kernel
theorem dX9_barred_43 : decode cX9_barred 43 = .ok (.aload_n 0, 1) := by decide +kernel
theorem dX9_barred_44 : decode cX9_barred 44 = .ok (.getfield 17, 3) := by decide +kernel
theorem dX9_barred_47 : decode cX9_barred 47 = .ok (.bipush 59, 2) := by decide +kernel
theorem dX9_barred_49 : decode cX9_barred 49 = .ok (.iaload, 1) := by decide +kernel
theorem dX9_barred_50 : decode cX9_barred 50 = .ok (.iload_n 3, 1) := by decide +kernel
theorem dX9_barred_51 : decode cX9_barred 51 = .ok (.if_icmp .ne 8, 3) := by decide +kernel
theorem dX9_barred_54 : decode cX9_barred 54 = .ok (.bipush 9, 2) := by decide +kernel
theorem dX9_barred_56 : decode cX9_barred 56 = .ok (.goto 4, 3) := by decide +kernel
theorem dX9_barred_59 : decode cX9_barred 59 = .ok (.iconst 0, 1) := by decide +kernel
theorem dX9_barred_60 : decode cX9_barred 60 = .ok (.ireturn, 1) := by decide +kernel
theorem dX9_whyNotStep_0 : decode cX9_whyNotStep 0 = .ok (.aload_n 0, 1) := by decide +kernel
theorem dX9_whyNotStep_1 : decode cX9_whyNotStep 1 = .ok (.iconst 0, 1) := by decide +kernel
theorem dX9_whyNotStep_2 : decode cX9_whyNotStep 2 = .ok (.putfield 45, 3) := by decide +kernel
theorem dX9_whyNotStep_5 : decode cX9_whyNotStep 5 = .ok (.aload_n 0, 1) := by decide +kernel
theorem dX9_whyNotStep_6 : decode cX9_whyNotStep 6 = .ok (.iload_n 1, 1) := by decide +kernel
theorem dX9_whyNotStep_7 : decode cX9_whyNotStep 7 = .ok (.iload_n 2, 1) := by decide +kernel
theorem dX9_whyNotStep_8 : decode cX9_whyNotStep 8 = .ok (.iload_n 3, 1) := by decide +kernel
theorem dX9_whyNotStep_9 : decode cX9_whyNotStep 9 = .ok (.invokevirtual 224, 3) := by decide +kernel
theorem dX9_whyNotStep_12 : decode cX9_whyNotStep 12 = .ok (.ireturn, 1) := by decide +kernel
theorem dX9_tokens_0 : decode cX9_tokens 0 = .ok (.aload_n 0, 1) := by decide +kernel
theorem dX9_tokens_1 : decode cX9_tokens 1 = .ok (.getfield 17, 3) := by decide +kernel
theorem dX9_tokens_4 : decode cX9_tokens 4 = .ok (.bipush 43, 2) := by decide +kernel
theorem dX9_tokens_6 : decode cX9_tokens 6 = .ok (.bipush 6, 2) := by decide +kernel
theorem dX9_tokens_8 : decode cX9_tokens 8 = .ok (.aload_n 0, 1) := by decide +kernel
theorem dX9_tokens_9 : decode cX9_tokens 9 = .ok (.getfield 17, 3) := by decide +kernel
theorem dX9_tokens_12 : decode cX9_tokens 12 = .ok (.bipush 55, 2) := by decide +kernel
theorem dX9_tokens_14 : decode cX9_tokens 14 = .ok (.iaload, 1) := by decide +kernel
theorem dX9_tokens_15 : decode cX9_tokens 15 = .ok (.imul, 1) := by decide +kernel
theorem dX9_tokens_16 : decode cX9_tokens 16 = .ok (.iadd, 1) := by decide +kernel
theorem dX9_tokens_17 : decode cX9_tokens 17 = .ok (.iload_n 1, 1) := by decide +kernel
theorem dX9_tokens_18 : decode cX9_tokens 18 = .ok (.iadd, 1) := by decide +kernel
theorem dX9_tokens_19 : decode cX9_tokens 19 = .ok (.iaload, 1) := by decide +kernel
theorem dX9_tokens_20 : decode cX9_tokens 20 = .ok (.ireturn, 1) := by decide +kernel
theorem dX9_whyClaim_0 : decode cX9_whyClaim 0 = .ok (.aload_n 0, 1) := by decide +kernel
theorem dX9_whyClaim_1 : decode cX9_whyClaim 1 = .ok (.invokevirtual 193, 3) := by decide +kernel
theorem dX9_whyClaim_4 : decode cX9_whyClaim 4 = .ok (.ifCond .eq 5, 3) := by decide +kernel
theorem dX9_whyClaim_7 : decode cX9_whyClaim 7 = .ok (.iconst 1, 1) := by decide +kernel
theorem dX9_whyClaim_8 : decode cX9_whyClaim 8 = .ok (.ireturn, 1) := by decide +kernel
theorem dX9_whyClaim_9 : decode cX9_whyClaim 9 = .ok (.aload_n 0, 1) := by decide +kernel
theorem dX9_whyClaim_10 : decode cX9_whyClaim 10 = .ok (.iload_n 1, 1) := by decide +kernel
theorem dX9_whyClaim_11 : decode cX9_whyClaim 11 = .ok (.invokevirtual 197, 3) := by decide +kernel
theorem dX9_whyClaim_14 : decode cX9_whyClaim 14 = .ok (.ifCond .ne 5, 3) := by decide +kernel
theorem dX9_whyClaim_17 : decode cX9_whyClaim 17 = .ok (.iconst 2, 1) := by decide +kernel
theorem dX9_whyClaim_18 : decode cX9_whyClaim 18 = .ok (.ireturn, 1) := by decide +kernel
theorem dX9_whyClaim_19 : decode cX9_whyClaim 19 = .ok (.aload_n 0, 1) := by decide +kernel
theorem dX9_whyClaim_20 : decode cX9_whyClaim 20 = .ok (.iload_n 1, 1) := by decide +kernel
theorem dX9_whyClaim_21 : decode cX9_whyClaim 21 = .ok (.iconst 5, 1) := by decide +kernel
theorem dX9_whyClaim_22 : decode cX9_whyClaim 22 = .ok (.invokevirtual 173, 3) := by decide +kernel
theorem dX9_whyClaim_25 : decode cX9_whyClaim 25 = .ok (.iconst (-1), 1) := by decide +kernel
theorem dX9_whyClaim_26 : decode cX9_whyClaim 26 = .ok (.if_icmp .eq 7, 3) := by decide +kernel
theorem dX9_whyClaim_29 : decode cX9_whyClaim 29 = .ok (.iconst 3, 1) := by decide +kernel
theorem dX9_whyClaim_30 : decode cX9_whyClaim 30 = .ok (.goto 16, 3) := by decide +kernel
theorem dX9_whyClaim_33 : decode cX9_whyClaim 33 = .ok (.aload_n 0, 1) := by decide +kernel
theorem dX9_whyClaim_34 : decode cX9_whyClaim 34 = .ok (.iconst 0, 1) := by decide +kernel
theorem dX9_whyClaim_35 : decode cX9_whyClaim 35 = .ok (.invokevirtual 227, 3) := by decide +kernel
theorem dX9_whyClaim_38 : decode cX9_whyClaim 38 = .ok (.ifCond .ne 7, 3) := by decide +kernel
theorem dX9_whyClaim_41 : decode cX9_whyClaim 41 = .ok (.iconst 4, 1) := by decide +kernel
theorem dX9_whyClaim_42 : decode cX9_whyClaim 42 = .ok (.goto 4, 3) := by decide +kernel
theorem dX9_whyClaim_45 : decode cX9_whyClaim 45 = .ok (.iconst 0, 1) := by decide +kernel
theorem dX9_whyClaim_46 : decode cX9_whyClaim 46 = .ok (.ireturn, 1) := by decide +kernel
theorem dX9_whyNotClaim_0 : decode cX9_whyNotClaim 0 = .ok (.aload_n 0, 1) := by decide +kernel
theorem dX9_whyNotClaim_1 : decode cX9_whyNotClaim 1 = .ok (.iconst 0, 1) := by decide +kernel
theorem dX9_whyNotClaim_2 : decode cX9_whyNotClaim 2 = .ok (.putfield 45, 3) := by decide +kernel
theorem dX9_whyNotClaim_5 : decode cX9_whyNotClaim 5 = .ok (.aload_n 0, 1) := by decide +kernel
theorem dX9_whyNotClaim_6 : decode cX9_whyNotClaim 6 = .ok (.iload_n 1, 1) := by decide +kernel
theorem dX9_whyNotClaim_7 : decode cX9_whyNotClaim 7 = .ok (.invokevirtual 229, 3) := by decide +kernel
theorem dX9_whyNotClaim_10 : decode cX9_whyNotClaim 10 = .ok (.ireturn, 1) := by decide +kernel
theorem dX9_whyLock_0 : decode cX9_whyLock 0 = .ok (.aload_n 0, 1) := by decide +kernel
theorem dX9_whyLock_1 : decode cX9_whyLock 1 = .ok (.invokevirtual 193, 3) := by decide +kernel
theorem dX9_whyLock_4 : decode cX9_whyLock 4 = .ok (.ifCond .eq 5, 3) := by decide +kernel
theorem dX9_whyLock_7 : decode cX9_whyLock 7 = .ok (.iconst 1, 1) := by decide +kernel
theorem dX9_whyLock_8 : decode cX9_whyLock 8 = .ok (.ireturn, 1) := by decide +kernel
theorem dX9_whyLock_9 : decode cX9_whyLock 9 = .ok (.aload_n 0, 1) := by decide +kernel
theorem dX9_whyLock_10 : decode cX9_whyLock 10 = .ok (.iload_n 1, 1) := by decide +kernel
theorem dX9_whyLock_11 : decode cX9_whyLock 11 = .ok (.invokevirtual 197, 3) := by decide +kernel
theorem dX9_whyLock_14 : decode cX9_whyLock 14 = .ok (.ifCond .ne 5, 3) := by decide +kernel
theorem dX9_whyLock_17 : decode cX9_whyLock 17 = .ok (.iconst 2, 1) := by decide +kernel
theorem dX9_whyLock_18 : decode cX9_whyLock 18 = .ok (.ireturn, 1) := by decide +kernel
theorem dX9_whyLock_19 : decode cX9_whyLock 19 = .ok (.iload_n 2, 1) := by decide +kernel
theorem dX9_whyLock_20 : decode cX9_whyLock 20 = .ok (.iconst 1, 1) := by decide +kernel
theorem dX9_whyLock_21 : decode cX9_whyLock 21 = .ok (.aload_n 0, 1) := by decide +kernel
theorem dX9_whyLock_22 : decode cX9_whyLock 22 = .ok (.iload_n 1, 1) := by decide +kernel
theorem dX9_whyLock_23 : decode cX9_whyLock 23 = .ok (.iconst 0, 1) := by decide +kernel
theorem dX9_whyLock_24 : decode cX9_whyLock 24 = .ok (.invokevirtual 173, 3) := by decide +kernel
theorem dX9_whyLock_27 : decode cX9_whyLock 27 = .ok (.invokestatic 72, 3) := by decide +kernel
theorem dX9_whyLock_30 : decode cX9_whyLock 30 = .ok (.ifCond .ne 5, 3) := by decide +kernel
theorem dX9_whyLock_33 : decode cX9_whyLock 33 = .ok (.iconst 3, 1) := by decide +kernel
theorem dX9_whyLock_34 : decode cX9_whyLock 34 = .ok (.ireturn, 1) := by decide +kernel
theorem dX9_whyLock_35 : decode cX9_whyLock 35 = .ok (.aload_n 0, 1) := by decide +kernel
theorem dX9_whyLock_36 : decode cX9_whyLock 36 = .ok (.iload_n 1, 1) := by decide +kernel
theorem dX9_whyLock_37 : decode cX9_whyLock 37 = .ok (.iconst 3, 1) := by decide +kernel
theorem dX9_whyLock_38 : decode cX9_whyLock 38 = .ok (.invokevirtual 173, 3) := by decide +kernel
theorem dX9_whyLock_41 : decode cX9_whyLock 41 = .ok (.iload_n 2, 1) := by decide +kernel
theorem dX9_whyLock_42 : decode cX9_whyLock 42 = .ok (.invokestatic 118, 3) := by decide +kernel
theorem dX9_whyLock_45 : decode cX9_whyLock 45 = .ok (.ifCond .eq 5, 3) := by decide +kernel
theorem dX9_whyLock_48 : decode cX9_whyLock 48 = .ok (.iconst 4, 1) := by decide +kernel
theorem dX9_whyLock_49 : decode cX9_whyLock 49 = .ok (.ireturn, 1) := by decide +kernel
theorem dX9_whyLock_50 : decode cX9_whyLock 50 = .ok (.aload_n 0, 1) := by decide +kernel
theorem dX9_whyLock_51 : decode cX9_whyLock 51 = .ok (.iload_n 1, 1) := by decide +kernel
theorem dX9_whyLock_52 : decode cX9_whyLock 52 = .ok (.iconst 2, 1) := by decide +kernel
theorem dX9_whyLock_53 : decode cX9_whyLock 53 = .ok (.invokevirtual 173, 3) := by decide +kernel
theorem dX9_whyLock_56 : decode cX9_whyLock 56 = .ok (.iload_n 2, 1) := by decide +kernel
theorem dX9_whyLock_57 : decode cX9_whyLock 57 = .ok (.invokestatic 118, 3) := by decide +kernel
theorem dX9_whyLock_60 : decode cX9_whyLock 60 = .ok (.ifCond .eq 7, 3) := by decide +kernel
theorem dX9_whyLock_63 : decode cX9_whyLock 63 = .ok (.iconst 5, 1) := by decide +kernel
theorem dX9_whyLock_64 : decode cX9_whyLock 64 = .ok (.goto 17, 3) := by decide +kernel
theorem dX9_whyLock_67 : decode cX9_whyLock 67 = .ok (.aload_n 0, 1) := by decide +kernel
theorem dX9_whyLock_68 : decode cX9_whyLock 68 = .ok (.iconst 1, 1) := by decide +kernel
theorem dX9_whyLock_69 : decode cX9_whyLock 69 = .ok (.invokevirtual 227, 3) := by decide +kernel
theorem dX9_whyLock_72 : decode cX9_whyLock 72 = .ok (.ifCond .ne 8, 3) := by decide +kernel
theorem dX9_whyLock_75 : decode cX9_whyLock 75 = .ok (.bipush 6, 2) := by decide +kernel
theorem dX9_whyLock_77 : decode cX9_whyLock 77 = .ok (.goto 4, 3) := by decide +kernel
theorem dX9_whyLock_80 : decode cX9_whyLock 80 = .ok (.iconst 0, 1) := by decide +kernel
theorem dX9_whyLock_81 : decode cX9_whyLock 81 = .ok (.ireturn, 1) := by decide +kernel
theorem dX9_whyNotLock_0 : decode cX9_whyNotLock 0 = .ok (.aload_n 0, 1) := by decide +kernel
theorem dX9_whyNotLock_1 : decode cX9_whyNotLock 1 = .ok (.iconst 0, 1) := by decide +kernel
theorem dX9_whyNotLock_2 : decode cX9_whyNotLock 2 = .ok (.putfield 45, 3) := by decide +kernel
theorem dX9_whyNotLock_5 : decode cX9_whyNotLock 5 = .ok (.aload_n 0, 1) := by decide +kernel
theorem dX9_whyNotLock_6 : decode cX9_whyNotLock 6 = .ok (.iload_n 1, 1) := by decide +kernel
theorem dX9_whyNotLock_7 : decode cX9_whyNotLock 7 = .ok (.iload_n 2, 1) := by decide +kernel
theorem dX9_whyNotLock_8 : decode cX9_whyNotLock 8 = .ok (.invokevirtual 232, 3) := by decide +kernel
theorem dX9_whyNotLock_11 : decode cX9_whyNotLock 11 = .ok (.ireturn, 1) := by decide +kernel
theorem dX9_latest_0 : decode cX9_latest 0 = .ok (.aload_n 0, 1) := by decide +kernel
theorem dX9_latest_1 : decode cX9_latest 1 = .ok (.getfield 17, 3) := by decide +kernel
theorem dX9_latest_4 : decode cX9_latest 4 = .ok (.bipush 60, 2) := by decide +kernel
theorem dX9_latest_6 : decode cX9_latest 6 = .ok (.iconst 5, 1) := by decide +kernel
theorem dX9_latest_7 : decode cX9_latest 7 = .ok (.aload_n 0, 1) := by decide +kernel
theorem dX9_latest_8 : decode cX9_latest 8 = .ok (.getfield 17, 3) := by decide +kernel
theorem dX9_latest_11 : decode cX9_latest 11 = .ok (.bipush 56, 2) := by decide +kernel
theorem dX9_latest_13 : decode cX9_latest 13 = .ok (.iaload, 1) := by decide +kernel
theorem dX9_latest_14 : decode cX9_latest 14 = .ok (.iconst 1, 1) := by decide +kernel
theorem dX9_latest_15 : decode cX9_latest 15 = .ok (.isub, 1) := by decide +kernel
theorem dX9_latest_16 : decode cX9_latest 16 = .ok (.bipush 16, 2) := by decide +kernel
theorem dX9_latest_18 : decode cX9_latest 18 = .ok (.irem, 1) := by decide +kernel
theorem dX9_latest_19 : decode cX9_latest 19 = .ok (.imul, 1) := by decide +kernel
theorem dX9_latest_20 : decode cX9_latest 20 = .ok (.iadd, 1) := by decide +kernel
theorem dX9_latest_21 : decode cX9_latest 21 = .ok (.iload_n 1, 1) := by decide +kernel
theorem dX9_latest_22 : decode cX9_latest 22 = .ok (.iadd, 1) := by decide +kernel
theorem dX9_latest_23 : decode cX9_latest 23 = .ok (.iaload, 1) := by decide +kernel
theorem dX9_latest_24 : decode cX9_latest 24 = .ok (.ireturn, 1) := by decide +kernel
theorem dX9_whyBack_0 : decode cX9_whyBack 0 = .ok (.aload_n 0, 1) := by decide +kernel
theorem dX9_whyBack_1 : decode cX9_whyBack 1 = .ok (.getfield 17, 3) := by decide +kernel
theorem dX9_whyBack_4 : decode cX9_whyBack 4 = .ok (.bipush 56, 2) := by decide +kernel
theorem dX9_whyBack_6 : decode cX9_whyBack 6 = .ok (.iaload, 1) := by decide +kernel
theorem dX9_whyBack_7 : decode cX9_whyBack 7 = .ok (.ifCond .eq 11, 3) := by decide +kernel
theorem dX9_whyBack_10 : decode cX9_whyBack 10 = .ok (.aload_n 0, 1) := by decide +kernel
theorem dX9_whyBack_11 : decode cX9_whyBack 11 = .ok (.iconst 0, 1) := by decide +kernel
theorem dX9_whyBack_12 : decode cX9_whyBack 12 = .ok (.invokevirtual 235, 3) := by decide +kernel
theorem dX9_whyBack_15 : decode cX9_whyBack 15 = .ok (.ifCond .eq 5, 3) := by decide +kernel
theorem dX9_whyBack_18 : decode cX9_whyBack 18 = .ok (.iconst 1, 1) := by decide +kernel
theorem dX9_whyBack_19 : decode cX9_whyBack 19 = .ok (.ireturn, 1) := by decide +kernel
theorem dX9_whyBack_20 : decode cX9_whyBack 20 = .ok (.aload_n 0, 1) := by decide +kernel
theorem dX9_whyBack_21 : decode cX9_whyBack 21 = .ok (.iconst 2, 1) := by decide +kernel
theorem dX9_whyBack_22 : decode cX9_whyBack 22 = .ok (.invokevirtual 227, 3) := by decide +kernel
theorem dX9_whyBack_25 : decode cX9_whyBack 25 = .ok (.ifCond .ne 7, 3) := by decide +kernel
theorem dX9_whyBack_28 : decode cX9_whyBack 28 = .ok (.iconst 2, 1) := by decide +kernel
theorem dX9_whyBack_29 : decode cX9_whyBack 29 = .ok (.goto 4, 3) := by decide +kernel
theorem dX9_whyBack_32 : decode cX9_whyBack 32 = .ok (.iconst 0, 1) := by decide +kernel
theorem dX9_whyBack_33 : decode cX9_whyBack 33 = .ok (.ireturn, 1) := by decide +kernel
theorem dX9_whyNotBack_0 : decode cX9_whyNotBack 0 = .ok (.aload_n 0, 1) := by decide +kernel
theorem dX9_whyNotBack_1 : decode cX9_whyNotBack 1 = .ok (.iconst 0, 1) := by decide +kernel
theorem dX9_whyNotBack_2 : decode cX9_whyNotBack 2 = .ok (.putfield 45, 3) := by decide +kernel
theorem dX9_whyNotBack_5 : decode cX9_whyNotBack 5 = .ok (.aload_n 0, 1) := by decide +kernel
theorem dX9_whyNotBack_6 : decode cX9_whyNotBack 6 = .ok (.invokevirtual 238, 3) := by decide +kernel
theorem dX9_whyNotBack_9 : decode cX9_whyNotBack 9 = .ok (.ireturn, 1) := by decide +kernel
theorem dX9_isAllowed_0 : decode cX9_isAllowed 0 = .ok (.aload_n 0, 1) := by decide +kernel
theorem dX9_isAllowed_1 : decode cX9_isAllowed 1 = .ok (.iload_n 1, 1) := by decide +kernel
theorem dX9_isAllowed_2 : decode cX9_isAllowed 2 = .ok (.iconst 2, 1) := by decide +kernel
theorem dX9_isAllowed_3 : decode cX9_isAllowed 3 = .ok (.invokevirtual 173, 3) := by decide +kernel
theorem dX9_isAllowed_6 : decode cX9_isAllowed 6 = .ok (.iload_n 2, 1) := by decide +kernel
theorem dX9_isAllowed_7 : decode cX9_isAllowed 7 = .ok (.invokestatic 118, 3) := by decide +kernel
theorem dX9_isAllowed_10 : decode cX9_isAllowed 10 = .ok (.ifCond .eq 47, 3) := by decide +kernel
theorem dX9_isAllowed_13 : decode cX9_isAllowed 13 = .ok (.aload_n 0, 1) := by decide +kernel
theorem dX9_isAllowed_14 : decode cX9_isAllowed 14 = .ok (.iload_n 1, 1) := by decide +kernel
theorem dX9_isAllowed_15 : decode cX9_isAllowed 15 = .ok (.iconst 4, 1) := by decide +kernel
theorem dX9_isAllowed_16 : decode cX9_isAllowed 16 = .ok (.invokevirtual 173, 3) := by decide +kernel
theorem dX9_isAllowed_19 : decode cX9_isAllowed 19 = .ok (.iload_n 3, 1) := by decide +kernel
theorem dX9_isAllowed_20 : decode cX9_isAllowed 20 = .ok (.invokestatic 118, 3) := by decide +kernel
theorem dX9_isAllowed_23 : decode cX9_isAllowed 23 = .ok (.ifCond .eq 34, 3) := by decide +kernel
theorem dX9_isAllowed_26 : decode cX9_isAllowed 26 = .ok (.aload_n 0, 1) := by decide +kernel
theorem dX9_isAllowed_27 : decode cX9_isAllowed 27 = .ok (.iload_n 1, 1) := by decide +kernel
theorem dX9_isAllowed_28 : decode cX9_isAllowed 28 = .ok (.aload_n 0, 1) := by decide +kernel
theorem dX9_isAllowed_29 : decode cX9_isAllowed 29 = .ok (.iload_n 1, 1) := by decide +kernel
theorem dX9_isAllowed_30 : decode cX9_isAllowed 30 = .ok (.iconst 2, 1) := by decide +kernel
theorem dX9_isAllowed_31 : decode cX9_isAllowed 31 = .ok (.invokevirtual 173, 3) := by decide +kernel
theorem dX9_isAllowed_34 : decode cX9_isAllowed 34 = .ok (.iload_n 2, 1) := by decide +kernel
theorem dX9_isAllowed_35 : decode cX9_isAllowed 35 = .ok (.iload_n 3, 1) := by decide +kernel
theorem dX9_isAllowed_36 : decode cX9_isAllowed 36 = .ok (.invokevirtual 180, 3) := by decide +kernel
theorem dX9_isAllowed_39 : decode cX9_isAllowed 39 = .ok (.iconst (-1), 1) := by decide +kernel
theorem dX9_isAllowed_40 : decode cX9_isAllowed 40 = .ok (.if_icmp .eq 17, 3) := by decide +kernel
theorem dX9_isAllowed_43 : decode cX9_isAllowed 43 = .ok (.aload_n 0, 1) := by decide +kernel
theorem dX9_isAllowed_44 : decode cX9_isAllowed 44 = .ok (.iload_n 1, 1) := by decide +kernel
theorem dX9_isAllowed_45 : decode cX9_isAllowed 45 = .ok (.iload_n 2, 1) := by decide +kernel
theorem dX9_isAllowed_46 : decode cX9_isAllowed 46 = .ok (.iload_n 3, 1) := by decide +kernel
theorem dX9_isAllowed_47 : decode cX9_isAllowed 47 = .ok (.invokevirtual 220, 3) := by decide +kernel
theorem dX9_isAllowed_50 : decode cX9_isAllowed 50 = .ok (.ifCond .ne 7, 3) := by decide +kernel
theorem dX9_isAllowed_53 : decode cX9_isAllowed 53 = .ok (.iconst 1, 1) := by decide +kernel
theorem dX9_isAllowed_54 : decode cX9_isAllowed 54 = .ok (.goto 4, 3) := by decide +kernel
theorem dX9_isAllowed_57 : decode cX9_isAllowed 57 = .ok (.iconst 0, 1) := by decide +kernel
theorem dX9_isAllowed_58 : decode cX9_isAllowed 58 = .ok (.ireturn, 1) := by decide +kernel
theorem dX9_finds_0 : decode cX9_finds 0 = .ok (.iconst 0, 1) := by decide +kernel
theorem dX9_finds_1 : decode cX9_finds 1 = .ok (.istore_n 2, 1) := by decide +kernel
theorem dX9_finds_2 : decode cX9_finds 2 = .ok (.iconst 0, 1) := by decide +kernel
theorem dX9_finds_3 : decode cX9_finds 3 = .ok (.istore_n 3, 1) := by decide +kernel
theorem dX9_finds_4 : decode cX9_finds 4 = .ok (.iload_n 3, 1) := by decide +kernel
theorem dX9_finds_5 : decode cX9_finds 5 = .ok (.aload_n 0, 1) := by decide +kernel
theorem dX9_finds_6 : decode cX9_finds 6 = .ok (.invokevirtual 163, 3) := by decide +kernel
theorem dX9_finds_9 : decode cX9_finds 9 = .ok (.if_icmp .ge 84, 3) := by decide +kernel
theorem dX9_finds_12 : decode cX9_finds 12 = .ok (.aload_n 0, 1) := by decide +kernel
theorem dX9_finds_13 : decode cX9_finds 13 = .ok (.iload_n 3, 1) := by decide +kernel
theorem dX9_finds_14 : decode cX9_finds 14 = .ok (.iconst 0, 1) := by decide +kernel
theorem dX9_finds_15 : decode cX9_finds 15 = .ok (.invokevirtual 173, 3) := by decide +kernel
theorem dX9_finds_18 : decode cX9_finds 18 = .ok (.istore 4, 2) := by decide +kernel
theorem dX9_finds_20 : decode cX9_finds 20 = .ok (.iload 4, 2) := by decide +kernel
theorem dX9_finds_22 : decode cX9_finds 22 = .ok (.ifCond .le 65, 3) := by decide +kernel
theorem dX9_finds_25 : decode cX9_finds 25 = .ok (.iconst 1, 1) := by decide +kernel
theorem dX9_finds_26 : decode cX9_finds 26 = .ok (.istore 5, 2) := by decide +kernel
theorem dX9_finds_28 : decode cX9_finds 28 = .ok (.iload 5, 2) := by decide +kernel
theorem dX9_finds_30 : decode cX9_finds 30 = .ok (.bipush 12, 2) := by decide +kernel
theorem dX9_finds_32 : decode cX9_finds 32 = .ok (.if_icmp .gt 49, 3) := by decide +kernel
theorem dX9_finds_35 : decode cX9_finds 35 = .ok (.aload_n 0, 1) := by decide +kernel
theorem dX9_finds_36 : decode cX9_finds 36 = .ok (.iload_n 3, 1) := by decide +kernel
theorem dX9_finds_37 : decode cX9_finds 37 = .ok (.iload 4, 2) := by decide +kernel
theorem dX9_finds_39 : decode cX9_finds 39 = .ok (.iload 5, 2) := by decide +kernel
theorem dX9_finds_41 : decode cX9_finds 41 = .ok (.invokevirtual 241, 3) := by decide +kernel
theorem dX9_finds_44 : decode cX9_finds 44 = .ok (.ifCond .ne 6, 3) := by decide +kernel
theorem dX9_finds_47 : decode cX9_finds 47 = .ok (.goto 28, 3) := by decide +kernel
theorem dX9_finds_50 : decode cX9_finds 50 = .ok (.iload_n 2, 1) := by decide +kernel
theorem dX9_finds_51 : decode cX9_finds 51 = .ok (.iload_n 1, 1) := by decide +kernel
theorem dX9_finds_52 : decode cX9_finds 52 = .ok (.if_icmp .ne 20, 3) := by decide +kernel
theorem dX9_finds_55 : decode cX9_finds 55 = .ok (.aload_n 0, 1) := by decide +kernel
theorem dX9_finds_56 : decode cX9_finds 56 = .ok (.iload_n 3, 1) := by decide +kernel
theorem dX9_finds_57 : decode cX9_finds 57 = .ok (.putfield 244, 3) := by decide +kernel
theorem dX9_finds_60 : decode cX9_finds 60 = .ok (.aload_n 0, 1) := by decide +kernel
theorem dX9_finds_61 : decode cX9_finds 61 = .ok (.iload 4, 2) := by decide +kernel
theorem dX9_finds_63 : decode cX9_finds 63 = .ok (.putfield 247, 3) := by decide +kernel
theorem dX9_finds_66 : decode cX9_finds 66 = .ok (.aload_n 0, 1) := by decide +kernel
theorem dX9_finds_67 : decode cX9_finds 67 = .ok (.iload 5, 2) := by decide +kernel
theorem dX9_finds_69 : decode cX9_finds 69 = .ok (.putfield 250, 3) := by decide +kernel
theorem dX9_finds_72 : decode cX9_finds 72 = .ok (.iinc 2 1, 3) := by decide +kernel
theorem dX9_finds_75 : decode cX9_finds 75 = .ok (.iinc 5 1, 3) := by decide +kernel
theorem dX9_finds_78 : decode cX9_finds 78 = .ok (.goto (-50), 3) := by decide +kernel
theorem dX9_finds_81 : decode cX9_finds 81 = .ok (.iinc 4 (-1), 3) := by decide +kernel
theorem dX9_finds_84 : decode cX9_finds 84 = .ok (.goto (-64), 3) := by decide +kernel
theorem dX9_finds_87 : decode cX9_finds 87 = .ok (.iinc 3 1, 3) := by decide +kernel
theorem dX9_finds_90 : decode cX9_finds 90 = .ok (.goto (-86), 3) := by decide +kernel
theorem dX9_finds_93 : decode cX9_finds 93 = .ok (.iload_n 2, 1) := by decide +kernel
theorem dX9_finds_94 : decode cX9_finds 94 = .ok (.ireturn, 1) := by decide +kernel
theorem dX9_sumBehind_0 : decode cX9_sumBehind 0 = .ok (.aload_n 0, 1) := by decide +kernel
theorem dX9_sumBehind_1 : decode cX9_sumBehind 1 = .ok (.invokevirtual 201, 3) := by decide +kernel
theorem dX9_sumBehind_4 : decode cX9_sumBehind 4 = .ok (.istore_n 1, 1) := by decide +kernel
theorem dX9_sumBehind_5 : decode cX9_sumBehind 5 = .ok (.aload_n 0, 1) := by decide +kernel
theorem dX9_sumBehind_6 : decode cX9_sumBehind 6 = .ok (.aload_n 0, 1) := by decide +kernel
theorem dX9_sumBehind_7 : decode cX9_sumBehind 7 = .ok (.getfield 244, 3) := by decide +kernel
theorem dX9_sumBehind_10 : decode cX9_sumBehind 10 = .ok (.invokevirtual 184, 3) := by decide +kernel
theorem dX9_sumBehind_13 : decode cX9_sumBehind 13 = .ok (.iload_n 1, 1) := by decide +kernel
theorem dX9_sumBehind_14 : decode cX9_sumBehind 14 = .ok (.aload_n 0, 1) := by decide +kernel
theorem dX9_sumBehind_15 : decode cX9_sumBehind 15 = .ok (.getfield 30, 3) := by decide +kernel
theorem dX9_sumBehind_18 : decode cX9_sumBehind 18 = .ok (.aload_n 0, 1) := by decide +kernel
theorem dX9_sumBehind_19 : decode cX9_sumBehind 19 = .ok (.aload_n 0, 1) := by decide +kernel
theorem dX9_sumBehind_20 : decode cX9_sumBehind 20 = .ok (.getfield 244, 3) := by decide +kernel
theorem dX9_sumBehind_23 : decode cX9_sumBehind 23 = .ok (.iconst 2, 1) := by decide +kernel
theorem dX9_sumBehind_24 : decode cX9_sumBehind 24 = .ok (.invokevirtual 173, 3) := by decide +kernel
theorem dX9_sumBehind_27 : decode cX9_sumBehind 27 = .ok (.iaload, 1) := by decide +kernel
theorem dX9_sumBehind_28 : decode cX9_sumBehind 28 = .ok (.ixor, 1) := by decide +kernel
theorem dX9_sumBehind_29 : decode cX9_sumBehind 29 = .ok (.aload_n 0, 1) := by decide +kernel
theorem dX9_sumBehind_30 : decode cX9_sumBehind 30 = .ok (.getfield 30, 3) := by decide +kernel
theorem dX9_sumBehind_33 : decode cX9_sumBehind 33 = .ok (.aload_n 0, 1) := by decide +kernel
theorem dX9_sumBehind_34 : decode cX9_sumBehind 34 = .ok (.aload_n 0, 1) := by decide +kernel
theorem dX9_sumBehind_35 : decode cX9_sumBehind 35 = .ok (.getfield 244, 3) := by decide +kernel
theorem dX9_sumBehind_38 : decode cX9_sumBehind 38 = .ok (.aload_n 0, 1) := by decide +kernel
theorem dX9_sumBehind_39 : decode cX9_sumBehind 39 = .ok (.aload_n 0, 1) := by decide +kernel
theorem dX9_sumBehind_40 : decode cX9_sumBehind 40 = .ok (.getfield 244, 3) := by decide +kernel
theorem dX9_sumBehind_43 : decode cX9_sumBehind 43 = .ok (.iconst 2, 1) := by decide +kernel
theorem dX9_sumBehind_44 : decode cX9_sumBehind 44 = .ok (.invokevirtual 173, 3) := by decide +kernel
theorem dX9_sumBehind_47 : decode cX9_sumBehind 47 = .ok (.aload_n 0, 1) := by decide +kernel
theorem dX9_sumBehind_48 : decode cX9_sumBehind 48 = .ok (.getfield 247, 3) := by decide +kernel
theorem dX9_sumBehind_51 : decode cX9_sumBehind 51 = .ok (.aload_n 0, 1) := by decide +kernel
theorem dX9_sumBehind_52 : decode cX9_sumBehind 52 = .ok (.getfield 250, 3) := by decide +kernel
theorem dX9_sumBehind_55 : decode cX9_sumBehind 55 = .ok (.invokevirtual 180, 3) := by decide +kernel
theorem dX9_sumBehind_58 : decode cX9_sumBehind 58 = .ok (.iaload, 1) := by decide +kernel
theorem dX9_sumBehind_59 : decode cX9_sumBehind 59 = .ok (.ixor, 1) := by decide +kernel
theorem dX9_sumBehind_60 : decode cX9_sumBehind 60 = .ok (.ireturn, 1) := by decide +kernel
theorem dX9_allowed_0 : decode cX9_allowed 0 = .ok (.aload_n 0, 1) := by decide +kernel
theorem dX9_allowed_1 : decode cX9_allowed 1 = .ok (.iconst 0, 1) := by decide +kernel
theorem dX9_allowed_2 : decode cX9_allowed 2 = .ok (.putfield 45, 3) := by decide +kernel
theorem dX9_allowed_5 : decode cX9_allowed 5 = .ok (.aload_n 0, 1) := by decide +kernel
theorem dX9_allowed_6 : decode cX9_allowed 6 = .ok (.iconst (-1), 1) := by decide +kernel
theorem dX9_allowed_7 : decode cX9_allowed 7 = .ok (.invokevirtual 253, 3) := by decide +kernel
theorem dX9_allowed_10 : decode cX9_allowed 10 = .ok (.ireturn, 1) := by decide +kernel
theorem dX9_choice_0 : decode cX9_choice 0 = .ok (.iload_n 1, 1) := by decide +kernel
theorem dX9_choice_1 : decode cX9_choice 1 = .ok (.ifCond .lt 16, 3) := by decide +kernel
theorem dX9_choice_4 : decode cX9_choice 4 = .ok (.iload_n 1, 1) := by decide +kernel
theorem dX9_choice_5 : decode cX9_choice 5 = .ok (.aload_n 0, 1) := by decide +kernel
theorem dX9_choice_6 : decode cX9_choice 6 = .ok (.iload_n 1, 1) := by decide +kernel
theorem dX9_choice_7 : decode cX9_choice 7 = .ok (.invokevirtual 253, 3) := by decide +kernel
theorem dX9_choice_10 : decode cX9_choice 10 = .ok (.if_icmp .ge 7, 3) := by decide +kernel
theorem dX9_choice_13 : decode cX9_choice 13 = .ok (.iconst 1, 1) := by decide +kernel
theorem dX9_choice_14 : decode cX9_choice 14 = .ok (.goto 4, 3) := by decide +kernel
theorem dX9_choice_17 : decode cX9_choice 17 = .ok (.iconst 0, 1) := by decide +kernel
theorem dX9_choice_18 : decode cX9_choice 18 = .ok (.istore_n 3, 1) := by decide +kernel
theorem dX9_choice_19 : decode cX9_choice 19 = .ok (.aload_n 0, 1) := by decide +kernel
theorem dX9_choice_20 : decode cX9_choice 20 = .ok (.iload_n 3, 1) := by decide +kernel
theorem dX9_choice_21 : decode cX9_choice 21 = .ok (.ifCond .ne 7, 3) := by decide +kernel
theorem dX9_choice_24 : decode cX9_choice 24 = .ok (.iconst 1, 1) := by decide +kernel
theorem dX9_choice_25 : decode cX9_choice 25 = .ok (.goto 17, 3) := by decide +kernel
theorem dX9_choice_28 : decode cX9_choice 28 = .ok (.iload_n 2, 1) := by decide +kernel
theorem dX9_choice_29 : decode cX9_choice 29 = .ok (.iconst 0, 1) := by decide +kernel
theorem dX9_choice_30 : decode cX9_choice 30 = .ok (.iconst 3, 1) := by decide +kernel
theorem dX9_choice_31 : decode cX9_choice 31 = .ok (.invokestatic 72, 3) := by decide +kernel
theorem dX9_choice_34 : decode cX9_choice 34 = .ok (.ifCond .ne 7, 3) := by decide +kernel
theorem dX9_choice_37 : decode cX9_choice 37 = .ok (.iconst 2, 1) := by decide +kernel
theorem dX9_choice_38 : decode cX9_choice 38 = .ok (.goto 4, 3) := by decide +kernel
theorem dX9_choice_41 : decode cX9_choice 41 = .ok (.iconst 0, 1) := by decide +kernel
theorem dX9_choice_42 : decode cX9_choice 42 = .ok (.putfield 45, 3) := by decide +kernel
theorem dX9_choice_45 : decode cX9_choice 45 = .ok (.aload_n 0, 1) := by decide +kernel
theorem dX9_choice_46 : decode cX9_choice 46 = .ok (.getfield 45, 3) := by decide +kernel
theorem dX9_choice_49 : decode cX9_choice 49 = .ok (.ifCond .le 5, 3) := by decide +kernel
theorem dX9_choice_52 : decode cX9_choice 52 = .ok (.iconst 0, 1) := by decide +kernel
theorem dX9_choice_53 : decode cX9_choice 53 = .ok (.ireturn, 1) := by decide +kernel
theorem dX9_choice_54 : decode cX9_choice 54 = .ok (.iload_n 2, 1) := by decide +kernel
theorem dX9_choice_55 : decode cX9_choice 55 = .ok (.ifCond .ne 10, 3) := by decide +kernel
theorem dX9_choice_58 : decode cX9_choice 58 = .ok (.aload_n 0, 1) := by decide +kernel
theorem dX9_choice_59 : decode cX9_choice 59 = .ok (.getfield 244, 3) := by decide +kernel
theorem dX9_choice_62 : decode cX9_choice 62 = .ok (.goto 31, 3) := by decide +kernel
theorem dX9_choice_65 : decode cX9_choice 65 = .ok (.iload_n 2, 1) := by decide +kernel
theorem dX9_choice_66 : decode cX9_choice 66 = .ok (.iconst 1, 1) := by decide +kernel
theorem dX9_choice_67 : decode cX9_choice 67 = .ok (.if_icmp .ne 10, 3) := by decide +kernel
theorem dX9_choice_70 : decode cX9_choice 70 = .ok (.aload_n 0, 1) := by decide +kernel
theorem dX9_choice_71 : decode cX9_choice 71 = .ok (.getfield 247, 3) := by decide +kernel
theorem dX9_choice_74 : decode cX9_choice 74 = .ok (.goto 19, 3) := by decide +kernel
theorem dX9_choice_77 : decode cX9_choice 77 = .ok (.iload_n 2, 1) := by decide +kernel
theorem dX9_choice_78 : decode cX9_choice 78 = .ok (.iconst 2, 1) := by decide +kernel
theorem dX9_choice_79 : decode cX9_choice 79 = .ok (.if_icmp .ne 10, 3) := by decide +kernel
theorem dX9_choice_82 : decode cX9_choice 82 = .ok (.aload_n 0, 1) := by decide +kernel
theorem dX9_choice_83 : decode cX9_choice 83 = .ok (.getfield 250, 3) := by decide +kernel
theorem dX9_choice_86 : decode cX9_choice 86 = .ok (.goto 7, 3) := by decide +kernel
theorem dX9_choice_89 : decode cX9_choice 89 = .ok (.aload_n 0, 1) := by decide +kernel
theorem dX9_choice_90 : decode cX9_choice 90 = .ok (.invokevirtual 256, 3) := by decide +kernel
theorem dX9_choice_93 : decode cX9_choice 93 = .ok (.ireturn, 1) := by decide +kernel
theorem dX9_bestOne_0 : decode cX9_bestOne 0 = .ok (.aload_n 0, 1) := by decide +kernel
theorem dX9_bestOne_1 : decode cX9_bestOne 1 = .ok (.invokevirtual 201, 3) := by decide +kernel
theorem dX9_bestOne_4 : decode cX9_bestOne 4 = .ok (.istore_n 1, 1) := by decide +kernel
theorem dX9_bestOne_5 : decode cX9_bestOne 5 = .ok (.iconst 0, 1) := by decide +kernel
theorem dX9_bestOne_6 : decode cX9_bestOne 6 = .ok (.istore_n 2, 1) := by decide +kernel
theorem dX9_bestOne_7 : decode cX9_bestOne 7 = .ok (.iconst 0, 1) := by decide +kernel
theorem dX9_bestOne_8 : decode cX9_bestOne 8 = .ok (.istore_n 3, 1) := by decide +kernel
theorem dX9_bestOne_9 : decode cX9_bestOne 9 = .ok (.iload_n 3, 1) := by decide +kernel
theorem dX9_bestOne_10 : decode cX9_bestOne 10 = .ok (.aload_n 0, 1) := by decide +kernel
theorem dX9_bestOne_11 : decode cX9_bestOne 11 = .ok (.invokevirtual 163, 3) := by decide +kernel
theorem dX9_bestOne_14 : decode cX9_bestOne 14 = .ok (.if_icmp .ge 109, 3) := by decide +kernel
theorem dX9_bestOne_17 : decode cX9_bestOne 17 = .ok (.aload_n 0, 1) := by decide +kernel
theorem dX9_bestOne_18 : decode cX9_bestOne 18 = .ok (.iload_n 3, 1) := by decide +kernel
theorem dX9_bestOne_19 : decode cX9_bestOne 19 = .ok (.invokevirtual 184, 3) := by decide +kernel
theorem dX9_bestOne_22 : decode cX9_bestOne 22 = .ok (.iload_n 1, 1) := by decide +kernel
theorem dX9_bestOne_23 : decode cX9_bestOne 23 = .ok (.aload_n 0, 1) := by decide +kernel
theorem dX9_bestOne_24 : decode cX9_bestOne 24 = .ok (.getfield 30, 3) := by decide +kernel
theorem dX9_bestOne_27 : decode cX9_bestOne 27 = .ok (.aload_n 0, 1) := by decide +kernel
theorem dX9_bestOne_28 : decode cX9_bestOne 28 = .ok (.iload_n 3, 1) := by decide +kernel
theorem dX9_bestOne_29 : decode cX9_bestOne 29 = .ok (.iconst 2, 1) := by decide +kernel
theorem dX9_bestOne_30 : decode cX9_bestOne 30 = .ok (.invokevirtual 173, 3) := by decide +kernel
theorem dX9_bestOne_33 : decode cX9_bestOne 33 = .ok (.iaload, 1) := by decide +kernel
theorem dX9_bestOne_34 : decode cX9_bestOne 34 = .ok (.ixor, 1) := by decide +kernel
theorem dX9_bestOne_35 : decode cX9_bestOne 35 = .ok (.istore 4, 2) := by decide +kernel
theorem dX9_bestOne_37 : decode cX9_bestOne 37 = .ok (.aload_n 0, 1) := by decide +kernel
theorem dX9_bestOne_38 : decode cX9_bestOne 38 = .ok (.iload_n 3, 1) := by decide +kernel
theorem dX9_bestOne_39 : decode cX9_bestOne 39 = .ok (.iconst 0, 1) := by decide +kernel
theorem dX9_bestOne_40 : decode cX9_bestOne 40 = .ok (.invokevirtual 173, 3) := by decide +kernel
theorem dX9_bestOne_43 : decode cX9_bestOne 43 = .ok (.istore 5, 2) := by decide +kernel
theorem dX9_bestOne_45 : decode cX9_bestOne 45 = .ok (.iload 5, 2) := by decide +kernel
theorem dX9_bestOne_47 : decode cX9_bestOne 47 = .ok (.ifCond .le 70, 3) := by decide +kernel
theorem dX9_bestOne_50 : decode cX9_bestOne 50 = .ok (.iconst 1, 1) := by decide +kernel
theorem dX9_bestOne_51 : decode cX9_bestOne 51 = .ok (.istore 6, 2) := by decide +kernel
theorem dX9_bestOne_53 : decode cX9_bestOne 53 = .ok (.iload 6, 2) := by decide +kernel
theorem dX9_bestOne_55 : decode cX9_bestOne 55 = .ok (.bipush 12, 2) := by decide +kernel
theorem dX9_bestOne_57 : decode cX9_bestOne 57 = .ok (.if_icmp .gt 54, 3) := by decide +kernel
theorem dX9_bestOne_60 : decode cX9_bestOne 60 = .ok (.aload_n 0, 1) := by decide +kernel
theorem dX9_bestOne_61 : decode cX9_bestOne 61 = .ok (.iload_n 3, 1) := by decide +kernel
theorem dX9_bestOne_62 : decode cX9_bestOne 62 = .ok (.iload 5, 2) := by decide +kernel
theorem dX9_bestOne_64 : decode cX9_bestOne 64 = .ok (.iload 6, 2) := by decide +kernel
theorem dX9_bestOne_66 : decode cX9_bestOne 66 = .ok (.invokevirtual 241, 3) := by decide +kernel
theorem dX9_bestOne_69 : decode cX9_bestOne 69 = .ok (.ifCond .ne 6, 3) := by decide +kernel
theorem dX9_bestOne_72 : decode cX9_bestOne 72 = .ok (.goto 33, 3) := by decide +kernel
theorem dX9_bestOne_75 : decode cX9_bestOne 75 = .ok (.aload_n 0, 1) := by decide +kernel
theorem dX9_bestOne_76 : decode cX9_bestOne 76 = .ok (.getfield 30, 3) := by decide +kernel
theorem dX9_bestOne_79 : decode cX9_bestOne 79 = .ok (.aload_n 0, 1) := by decide +kernel
theorem dX9_bestOne_80 : decode cX9_bestOne 80 = .ok (.iload_n 3, 1) := by decide +kernel
theorem dX9_bestOne_81 : decode cX9_bestOne 81 = .ok (.aload_n 0, 1) := by decide +kernel
theorem dX9_bestOne_82 : decode cX9_bestOne 82 = .ok (.iload_n 3, 1) := by decide +kernel
theorem dX9_bestOne_83 : decode cX9_bestOne 83 = .ok (.iconst 2, 1) := by decide +kernel
theorem dX9_bestOne_84 : decode cX9_bestOne 84 = .ok (.invokevirtual 173, 3) := by decide +kernel
theorem dX9_bestOne_87 : decode cX9_bestOne 87 = .ok (.iload 5, 2) := by decide +kernel
theorem dX9_bestOne_89 : decode cX9_bestOne 89 = .ok (.iload 6, 2) := by decide +kernel
theorem dX9_bestOne_91 : decode cX9_bestOne 91 = .ok (.invokevirtual 180, 3) := by decide +kernel
theorem dX9_bestOne_94 : decode cX9_bestOne 94 = .ok (.iaload, 1) := by decide +kernel
theorem dX9_bestOne_95 : decode cX9_bestOne 95 = .ok (.iload 4, 2) := by decide +kernel
theorem dX9_bestOne_97 : decode cX9_bestOne 97 = .ok (.if_icmp .ne 5, 3) := by decide +kernel
theorem dX9_bestOne_100 : decode cX9_bestOne 100 = .ok (.iload_n 2, 1) := by decide +kernel
theorem dX9_bestOne_101 : decode cX9_bestOne 101 = .ok (.ireturn, 1) := by decide +kernel
theorem dX9_bestOne_102 : decode cX9_bestOne 102 = .ok (.iinc 2 1, 3) := by decide +kernel
theorem dX9_bestOne_105 : decode cX9_bestOne 105 = .ok (.iinc 6 1, 3) := by decide +kernel
theorem dX9_bestOne_108 : decode cX9_bestOne 108 = .ok (.goto (-55), 3) := by decide +kernel
theorem dX9_bestOne_111 : decode cX9_bestOne 111 = .ok (.iinc 5 (-1), 3) := by decide +kernel
theorem dX9_bestOne_114 : decode cX9_bestOne 114 = .ok (.goto (-69), 3) := by decide +kernel
theorem dX9_bestOne_117 : decode cX9_bestOne 117 = .ok (.iinc 3 1, 3) := by decide +kernel
theorem dX9_bestOne_120 : decode cX9_bestOne 120 = .ok (.goto (-111), 3) := by decide +kernel
theorem dX9_bestOne_123 : decode cX9_bestOne 123 = .ok (.iconst (-1), 1) := by decide +kernel
theorem dX9_bestOne_124 : decode cX9_bestOne 124 = .ok (.ireturn, 1) := by decide +kernel
theorem dX9_best_0 : decode cX9_best 0 = .ok (.aload_n 0, 1) := by decide +kernel
theorem dX9_best_1 : decode cX9_best 1 = .ok (.iconst 0, 1) := by decide +kernel
theorem dX9_best_2 : decode cX9_best 2 = .ok (.putfield 45, 3) := by decide +kernel
theorem dX9_best_5 : decode cX9_best 5 = .ok (.aload_n 0, 1) := by decide +kernel
theorem dX9_best_6 : decode cX9_best 6 = .ok (.invokevirtual 259, 3) := by decide +kernel
theorem dX9_best_9 : decode cX9_best 9 = .ok (.ireturn, 1) := by decide +kernel
theorem dX9_acts_0 : decode cX9_acts 0 = .ok (.bipush 60, 2) := by decide +kernel
theorem dX9_acts_2 : decode cX9_acts 2 = .ok (.iconst 5, 1) := by decide +kernel
theorem dX9_acts_3 : decode cX9_acts 3 = .ok (.aload_n 0, 1) := by decide +kernel
theorem dX9_acts_4 : decode cX9_acts 4 = .ok (.getfield 17, 3) := by decide +kernel
theorem dX9_acts_7 : decode cX9_acts 7 = .ok (.bipush 56, 2) := by decide +kernel
theorem dX9_acts_9 : decode cX9_acts 9 = .ok (.iaload, 1) := by decide +kernel
theorem dX9_acts_10 : decode cX9_acts 10 = .ok (.bipush 16, 2) := by decide +kernel
theorem dX9_acts_12 : decode cX9_acts 12 = .ok (.irem, 1) := by decide +kernel
theorem dX9_acts_13 : decode cX9_acts 13 = .ok (.imul, 1) := by decide +kernel
theorem dX9_acts_14 : decode cX9_acts 14 = .ok (.iadd, 1) := by decide +kernel
theorem dX9_acts_15 : decode cX9_acts 15 = .ok (.istore 5, 2) := by decide +kernel
theorem dX9_acts_17 : decode cX9_acts 17 = .ok (.aload_n 0, 1) := by decide +kernel
theorem dX9_acts_18 : decode cX9_acts 18 = .ok (.getfield 17, 3) := by decide +kernel
theorem dX9_acts_21 : decode cX9_acts 21 = .ok (.iload 5, 2) := by decide +kernel
theorem dX9_acts_23 : decode cX9_acts 23 = .ok (.iload_n 1, 1) := by decide +kernel
theorem dX9_acts_24 : decode cX9_acts 24 = .ok (.iastore, 1) := by decide +kernel
theorem dX9_acts_25 : decode cX9_acts 25 = .ok (.aload_n 0, 1) := by decide +kernel
theorem dX9_acts_26 : decode cX9_acts 26 = .ok (.getfield 17, 3) := by decide +kernel
theorem dX9_acts_29 : decode cX9_acts 29 = .ok (.iload 5, 2) := by decide +kernel
theorem dX9_acts_31 : decode cX9_acts 31 = .ok (.iconst 1, 1) := by decide +kernel
theorem dX9_acts_32 : decode cX9_acts 32 = .ok (.iadd, 1) := by decide +kernel
theorem dX9_acts_33 : decode cX9_acts 33 = .ok (.aload_n 0, 1) := by decide +kernel
theorem dX9_acts_34 : decode cX9_acts 34 = .ok (.getfield 17, 3) := by decide +kernel
theorem dX9_acts_37 : decode cX9_acts 37 = .ok (.bipush 55, 2) := by decide +kernel
theorem dX9_acts_39 : decode cX9_acts 39 = .ok (.iaload, 1) := by decide +kernel
theorem dX9_acts_40 : decode cX9_acts 40 = .ok (.iastore, 1) := by decide +kernel
theorem dX9_acts_41 : decode cX9_acts 41 = .ok (.aload_n 0, 1) := by decide +kernel
theorem dX9_acts_42 : decode cX9_acts 42 = .ok (.getfield 17, 3) := by decide +kernel
theorem dX9_acts_45 : decode cX9_acts 45 = .ok (.iload 5, 2) := by decide +kernel
theorem dX9_acts_47 : decode cX9_acts 47 = .ok (.iconst 2, 1) := by decide +kernel
theorem dX9_acts_48 : decode cX9_acts 48 = .ok (.iadd, 1) := by decide +kernel
theorem dX9_acts_49 : decode cX9_acts 49 = .ok (.iload_n 2, 1) := by decide +kernel
theorem dX9_acts_50 : decode cX9_acts 50 = .ok (.iastore, 1) := by decide +kernel
theorem dX9_acts_51 : decode cX9_acts 51 = .ok (.aload_n 0, 1) := by decide +kernel
theorem dX9_acts_52 : decode cX9_acts 52 = .ok (.getfield 17, 3) := by decide +kernel
theorem dX9_acts_55 : decode cX9_acts 55 = .ok (.iload 5, 2) := by decide +kernel
theorem dX9_acts_57 : decode cX9_acts 57 = .ok (.iconst 3, 1) := by decide +kernel
theorem dX9_acts_58 : decode cX9_acts 58 = .ok (.iadd, 1) := by decide +kernel
theorem dX9_acts_59 : decode cX9_acts 59 = .ok (.iload_n 3, 1) := by decide +kernel
theorem dX9_acts_60 : decode cX9_acts 60 = .ok (.iastore, 1) := by decide +kernel
theorem dX9_acts_61 : decode cX9_acts 61 = .ok (.aload_n 0, 1) := by decide +kernel
theorem dX9_acts_62 : decode cX9_acts 62 = .ok (.getfield 17, 3) := by decide +kernel
theorem dX9_acts_65 : decode cX9_acts 65 = .ok (.iload 5, 2) := by decide +kernel
theorem dX9_acts_67 : decode cX9_acts 67 = .ok (.iconst 4, 1) := by decide +kernel
theorem dX9_acts_68 : decode cX9_acts 68 = .ok (.iadd, 1) := by decide +kernel
theorem dX9_acts_69 : decode cX9_acts 69 = .ok (.iload 4, 2) := by decide +kernel
theorem dX9_acts_71 : decode cX9_acts 71 = .ok (.iastore, 1) := by decide +kernel
theorem dX9_acts_72 : decode cX9_acts 72 = .ok (.aload_n 0, 1) := by decide +kernel
theorem dX9_acts_73 : decode cX9_acts 73 = .ok (.getfield 17, 3) := by decide +kernel
theorem dX9_acts_76 : decode cX9_acts 76 = .ok (.bipush 56, 2) := by decide +kernel
theorem dX9_acts_78 : decode cX9_acts 78 = .ok (.dup2, 1) := by decide +kernel
theorem dX9_acts_79 : decode cX9_acts 79 = .ok (.iaload, 1) := by decide +kernel
theorem dX9_acts_80 : decode cX9_acts 80 = .ok (.iconst 1, 1) := by decide +kernel
theorem dX9_acts_81 : decode cX9_acts 81 = .ok (.iadd, 1) := by decide +kernel
theorem dX9_acts_82 : decode cX9_acts 82 = .ok (.iastore, 1) := by decide +kernel
theorem dX9_acts_83 : decode cX9_acts 83 = .ok (.aload_n 0, 1) := by decide +kernel
theorem dX9_acts_84 : decode cX9_acts 84 = .ok (.getfield 17, 3) := by decide +kernel
theorem dX9_acts_87 : decode cX9_acts 87 = .ok (.bipush 57, 2) := by decide +kernel
theorem dX9_acts_89 : decode cX9_acts 89 = .ok (.iconst (-1), 1) := by decide +kernel
theorem dX9_acts_90 : decode cX9_acts 90 = .ok (.iastore, 1) := by decide +kernel
theorem dX9_acts_91 : decode cX9_acts 91 = .ok (.iconst 0, 1) := by decide +kernel
theorem dX9_acts_92 : decode cX9_acts 92 = .ok (.istore 6, 2) := by decide +kernel
theorem dX9_acts_94 : decode cX9_acts 94 = .ok (.iload 6, 2) := by decide +kernel
theorem dX9_acts_96 : decode cX9_acts 96 = .ok (.aload_n 0, 1) := by decide +kernel
theorem dX9_acts_97 : decode cX9_acts 97 = .ok (.invokevirtual 163, 3) := by decide +kernel
theorem dX9_acts_100 : decode cX9_acts 100 = .ok (.if_icmp .ge 18, 3) := by decide +kernel
theorem dX9_acts_103 : decode cX9_acts 103 = .ok (.aload_n 0, 1) := by decide +kernel
theorem dX9_acts_104 : decode cX9_acts 104 = .ok (.iload 6, 2) := by decide +kernel
theorem dX9_acts_106 : decode cX9_acts 106 = .ok (.invokestatic 170, 3) := by decide +kernel
theorem dX9_acts_109 : decode cX9_acts 109 = .ok (.invokevirtual 262, 3) := by decide +kernel
theorem dX9_acts_112 : decode cX9_acts 112 = .ok (.iinc 6 1, 3) := by decide +kernel
theorem dX9_acts_115 : decode cX9_acts 115 = .ok (.goto (-21), 3) := by decide +kernel
theorem dX9_acts_118 : decode cX9_acts 118 = .ok (.aload_n 0, 1) := by decide +kernel
theorem dX9_acts_119 : decode cX9_acts 119 = .ok (.getfield 17, 3) := by decide +kernel
theorem dX9_acts_122 : decode cX9_acts 122 = .ok (.bipush 55, 2) := by decide +kernel
theorem dX9_acts_124 : decode cX9_acts 124 = .ok (.iconst 1, 1) := by decide +kernel
theorem dX9_acts_125 : decode cX9_acts 125 = .ok (.aload_n 0, 1) := by decide +kernel
theorem dX9_acts_126 : decode cX9_acts 126 = .ok (.getfield 17, 3) := by decide +kernel
theorem dX9_acts_129 : decode cX9_acts 129 = .ok (.bipush 55, 2) := by decide +kernel
theorem dX9_acts_131 : decode cX9_acts 131 = .ok (.iaload, 1) := by decide +kernel
theorem dX9_acts_132 : decode cX9_acts 132 = .ok (.isub, 1) := by decide +kernel
theorem dX9_acts_133 : decode cX9_acts 133 = .ok (.iastore, 1) := by decide +kernel
theorem dX9_acts_134 : decode cX9_acts 134 = .ok (.return_, 1) := by decide +kernel
theorem dX9_shortens_0 : decode cX9_shortens 0 = .ok (.aload_n 0, 1) := by decide +kernel
theorem dX9_shortens_1 : decode cX9_shortens 1 = .ok (.getfield 17, 3) := by decide +kernel
theorem dX9_shortens_4 : decode cX9_shortens 4 = .ok (.iload_n 1, 1) := by decide +kernel
theorem dX9_shortens_5 : decode cX9_shortens 5 = .ok (.bipush 6, 2) := by decide +kernel
theorem dX9_shortens_7 : decode cX9_shortens 7 = .ok (.iadd, 1) := by decide +kernel
theorem dX9_shortens_8 : decode cX9_shortens 8 = .ok (.iaload, 1) := by decide +kernel
theorem dX9_shortens_9 : decode cX9_shortens 9 = .ok (.ifCond .ne 4, 3) := by decide +kernel
theorem dX9_shortens_12 : decode cX9_shortens 12 = .ok (.return_, 1) := by decide +kernel
theorem dX9_shortens_13 : decode cX9_shortens 13 = .ok (.aload_n 0, 1) := by decide +kernel
theorem dX9_shortens_14 : decode cX9_shortens 14 = .ok (.getfield 17, 3) := by decide +kernel
theorem dX9_shortens_17 : decode cX9_shortens 17 = .ok (.iload_n 1, 1) := by decide +kernel
theorem dX9_shortens_18 : decode cX9_shortens 18 = .ok (.bipush 6, 2) := by decide +kernel
theorem dX9_shortens_20 : decode cX9_shortens 20 = .ok (.iadd, 1) := by decide +kernel
theorem dX9_shortens_21 : decode cX9_shortens 21 = .ok (.dup2, 1) := by decide +kernel
theorem dX9_shortens_22 : decode cX9_shortens 22 = .ok (.iaload, 1) := by decide +kernel
theorem dX9_shortens_23 : decode cX9_shortens 23 = .ok (.iconst 1, 1) := by decide +kernel
theorem dX9_shortens_24 : decode cX9_shortens 24 = .ok (.isub, 1) := by decide +kernel
theorem dX9_shortens_25 : decode cX9_shortens 25 = .ok (.iastore, 1) := by decide +kernel
theorem dX9_shortens_26 : decode cX9_shortens 26 = .ok (.aload_n 0, 1) := by decide +kernel
theorem dX9_shortens_27 : decode cX9_shortens 27 = .ok (.getfield 17, 3) := by decide +kernel
theorem dX9_shortens_30 : decode cX9_shortens 30 = .ok (.iload_n 1, 1) := by decide +kernel
theorem dX9_shortens_31 : decode cX9_shortens 31 = .ok (.iconst 5, 1) := by decide +kernel
theorem dX9_shortens_32 : decode cX9_shortens 32 = .ok (.iadd, 1) := by decide +kernel
theorem dX9_shortens_33 : decode cX9_shortens 33 = .ok (.aload_n 0, 1) := by decide +kernel
theorem dX9_shortens_34 : decode cX9_shortens 34 = .ok (.getfield 17, 3) := by decide +kernel
theorem dX9_shortens_37 : decode cX9_shortens 37 = .ok (.iload_n 1, 1) := by decide +kernel
theorem dX9_shortens_38 : decode cX9_shortens 38 = .ok (.bipush 6, 2) := by decide +kernel
theorem dX9_shortens_40 : decode cX9_shortens 40 = .ok (.iadd, 1) := by decide +kernel
theorem dX9_shortens_41 : decode cX9_shortens 41 = .ok (.iaload, 1) := by decide +kernel
theorem dX9_shortens_42 : decode cX9_shortens 42 = .ok (.ifCond .ne 7, 3) := by decide +kernel
theorem dX9_shortens_45 : decode cX9_shortens 45 = .ok (.iconst (-1), 1) := by decide +kernel
theorem dX9_shortens_46 : decode cX9_shortens 46 = .ok (.goto 11, 3) := by decide +kernel
theorem dX9_shortens_49 : decode cX9_shortens 49 = .ok (.aload_n 0, 1) := by decide +kernel
theorem dX9_shortens_50 : decode cX9_shortens 50 = .ok (.getfield 17, 3) := by decide +kernel
theorem dX9_shortens_53 : decode cX9_shortens 53 = .ok (.iload_n 1, 1) := by decide +kernel
theorem dX9_shortens_54 : decode cX9_shortens 54 = .ok (.iconst 5, 1) := by decide +kernel
theorem dX9_shortens_55 : decode cX9_shortens 55 = .ok (.iadd, 1) := by decide +kernel
theorem dX9_shortens_56 : decode cX9_shortens 56 = .ok (.iaload, 1) := by decide +kernel
theorem dX9_shortens_57 : decode cX9_shortens 57 = .ok (.iastore, 1) := by decide +kernel
theorem dX9_shortens_58 : decode cX9_shortens 58 = .ok (.return_, 1) := by decide +kernel
theorem dX9_steps_0 : decode cX9_steps 0 = .ok (.bipush 43, 2) := by decide +kernel
theorem dX9_steps_2 : decode cX9_steps 2 = .ok (.bipush 6, 2) := by decide +kernel
theorem dX9_steps_4 : decode cX9_steps 4 = .ok (.aload_n 0, 1) := by decide +kernel
theorem dX9_steps_5 : decode cX9_steps 5 = .ok (.getfield 17, 3) := by decide +kernel
theorem dX9_steps_8 : decode cX9_steps 8 = .ok (.bipush 55, 2) := by decide +kernel
theorem dX9_steps_10 : decode cX9_steps 10 = .ok (.iaload, 1) := by decide +kernel
theorem dX9_steps_11 : decode cX9_steps 11 = .ok (.imul, 1) := by decide +kernel
theorem dX9_steps_12 : decode cX9_steps 12 = .ok (.iadd, 1) := by decide +kernel
theorem dX9_steps_13 : decode cX9_steps 13 = .ok (.istore 4, 2) := by decide +kernel
theorem dX9_steps_15 : decode cX9_steps 15 = .ok (.aload_n 0, 1) := by decide +kernel
theorem dX9_steps_16 : decode cX9_steps 16 = .ok (.getfield 17, 3) := by decide +kernel
theorem dX9_steps_19 : decode cX9_steps 19 = .ok (.iload 4, 2) := by decide +kernel
theorem dX9_steps_21 : decode cX9_steps 21 = .ok (.iconst 3, 1) := by decide +kernel
theorem dX9_steps_22 : decode cX9_steps 22 = .ok (.iadd, 1) := by decide +kernel
theorem dX9_steps_23 : decode cX9_steps 23 = .ok (.dup2, 1) := by decide +kernel
theorem dX9_steps_24 : decode cX9_steps 24 = .ok (.iaload, 1) := by decide +kernel
theorem dX9_steps_25 : decode cX9_steps 25 = .ok (.iconst 1, 1) := by decide +kernel
theorem dX9_steps_26 : decode cX9_steps 26 = .ok (.iadd, 1) := by decide +kernel
theorem dX9_steps_27 : decode cX9_steps 27 = .ok (.iastore, 1) := by decide +kernel
theorem dX9_steps_28 : decode cX9_steps 28 = .ok (.aload_n 0, 1) := by decide +kernel
theorem dX9_steps_29 : decode cX9_steps 29 = .ok (.getfield 17, 3) := by decide +kernel
theorem dX9_steps_32 : decode cX9_steps 32 = .ok (.iload 4, 2) := by decide +kernel
theorem dX9_steps_34 : decode cX9_steps 34 = .ok (.iconst 4, 1) := by decide +kernel
theorem dX9_steps_35 : decode cX9_steps 35 = .ok (.iadd, 1) := by decide +kernel
theorem dX9_steps_36 : decode cX9_steps 36 = .ok (.dup2, 1) := by decide +kernel
theorem dX9_steps_37 : decode cX9_steps 37 = .ok (.iaload, 1) := by decide +kernel
theorem dX9_steps_38 : decode cX9_steps 38 = .ok (.iload_n 3, 1) := by decide +kernel
theorem dX9_steps_39 : decode cX9_steps 39 = .ok (.iadd, 1) := by decide +kernel
theorem dX9_steps_40 : decode cX9_steps 40 = .ok (.iastore, 1) := by decide +kernel
theorem dX9_steps_41 : decode cX9_steps 41 = .ok (.aload_n 0, 1) := by decide +kernel
theorem dX9_steps_42 : decode cX9_steps 42 = .ok (.iload_n 1, 1) := by decide +kernel
theorem dX9_steps_43 : decode cX9_steps 43 = .ok (.aload_n 0, 1) := by decide +kernel
theorem dX9_steps_44 : decode cX9_steps 44 = .ok (.iload_n 1, 1) := by decide +kernel
theorem dX9_steps_45 : decode cX9_steps 45 = .ok (.iconst 2, 1) := by decide +kernel
theorem dX9_steps_46 : decode cX9_steps 46 = .ok (.invokevirtual 173, 3) := by decide +kernel
theorem dX9_steps_49 : decode cX9_steps 49 = .ok (.iload_n 2, 1) := by decide +kernel
theorem dX9_steps_50 : decode cX9_steps 50 = .ok (.iload_n 3, 1) := by decide +kernel
theorem dX9_steps_51 : decode cX9_steps 51 = .ok (.invokevirtual 180, 3) := by decide +kernel
theorem dX9_steps_54 : decode cX9_steps 54 = .ok (.istore 5, 2) := by decide +kernel
theorem dX9_steps_56 : decode cX9_steps 56 = .ok (.aload_n 0, 1) := by decide +kernel
theorem dX9_steps_57 : decode cX9_steps 57 = .ok (.getfield 17, 3) := by decide +kernel
theorem dX9_steps_60 : decode cX9_steps 60 = .ok (.iload_n 1, 1) := by decide +kernel
theorem dX9_steps_61 : decode cX9_steps 61 = .ok (.invokestatic 170, 3) := by decide +kernel
theorem dX9_steps_64 : decode cX9_steps 64 = .ok (.iconst 2, 1) := by decide +kernel
theorem dX9_steps_65 : decode cX9_steps 65 = .ok (.iadd, 1) := by decide +kernel
theorem dX9_steps_66 : decode cX9_steps 66 = .ok (.iload 5, 2) := by decide +kernel
theorem dX9_steps_68 : decode cX9_steps 68 = .ok (.iastore, 1) := by decide +kernel
theorem dX9_steps_69 : decode cX9_steps 69 = .ok (.aload_n 0, 1) := by decide +kernel
theorem dX9_steps_70 : decode cX9_steps 70 = .ok (.iconst 0, 1) := by decide +kernel
theorem dX9_steps_71 : decode cX9_steps 71 = .ok (.iload_n 1, 1) := by decide +kernel
theorem dX9_steps_72 : decode cX9_steps 72 = .ok (.iload_n 2, 1) := by decide +kernel
theorem dX9_steps_73 : decode cX9_steps 73 = .ok (.iload_n 3, 1) := by decide +kernel
theorem dX9_steps_74 : decode cX9_steps 74 = .ok (.invokevirtual 265, 3) := by decide +kernel
theorem dX9_steps_77 : decode cX9_steps 77 = .ok (.return_, 1) := by decide +kernel
theorem dX9_step_0 : decode cX9_step 0 = .ok (.aload_n 0, 1) := by decide +kernel
theorem dX9_step_1 : decode cX9_step 1 = .ok (.aload_n 0, 1) := by decide +kernel
theorem dX9_step_2 : decode cX9_step 2 = .ok (.iload_n 1, 1) := by decide +kernel
theorem dX9_step_3 : decode cX9_step 3 = .ok (.iload_n 2, 1) := by decide +kernel
theorem dX9_step_4 : decode cX9_step 4 = .ok (.iload_n 3, 1) := by decide +kernel
theorem dX9_step_5 : decode cX9_step 5 = .ok (.invokevirtual 224, 3) := by decide +kernel
theorem dX9_step_8 : decode cX9_step 8 = .ok (.ifCond .ne 7, 3) := by decide +kernel
theorem dX9_step_11 : decode cX9_step 11 = .ok (.iconst 0, 1) := by decide +kernel
theorem dX9_step_12 : decode cX9_step 12 = .ok (.goto 4, 3) := by decide +kernel
theorem dX9_step_15 : decode cX9_step 15 = .ok (.iconst 1, 1) := by decide +kernel
theorem dX9_step_16 : decode cX9_step 16 = .ok (.putfield 45, 3) := by decide +kernel
theorem dX9_step_19 : decode cX9_step 19 = .ok (.aload_n 0, 1) := by decide +kernel
theorem dX9_step_20 : decode cX9_step 20 = .ok (.getfield 45, 3) := by decide +kernel
theorem dX9_step_23 : decode cX9_step 23 = .ok (.ifCond .le 5, 3) := by decide +kernel
theorem dX9_step_26 : decode cX9_step 26 = .ok (.iconst 0, 1) := by decide +kernel
theorem dX9_step_27 : decode cX9_step 27 = .ok (.ireturn, 1) := by decide +kernel
theorem dX9_step_28 : decode cX9_step 28 = .ok (.aload_n 0, 1) := by decide +kernel
theorem dX9_step_29 : decode cX9_step 29 = .ok (.invokevirtual 269, 3) := by decide +kernel
theorem dX9_step_32 : decode cX9_step 32 = .ok (.aload_n 0, 1) := by decide +kernel
theorem dX9_step_33 : decode cX9_step 33 = .ok (.iload_n 1, 1) := by decide +kernel
theorem dX9_step_34 : decode cX9_step 34 = .ok (.iload_n 2, 1) := by decide +kernel
theorem dX9_step_35 : decode cX9_step 35 = .ok (.iload_n 3, 1) := by decide +kernel
theorem dX9_step_36 : decode cX9_step 36 = .ok (.invokevirtual 272, 3) := by decide +kernel
theorem dX9_step_39 : decode cX9_step 39 = .ok (.aload_n 0, 1) := by decide +kernel
theorem dX9_step_40 : decode cX9_step 40 = .ok (.invokevirtual 201, 3) := by decide +kernel
theorem dX9_step_43 : decode cX9_step 43 = .ok (.ireturn, 1) := by decide +kernel
theorem dX9_claim_0 : decode cX9_claim 0 = .ok (.aload_n 0, 1) := by decide +kernel
theorem dX9_claim_1 : decode cX9_claim 1 = .ok (.aload_n 0, 1) := by decide +kernel
theorem dX9_claim_2 : decode cX9_claim 2 = .ok (.iload_n 1, 1) := by decide +kernel
theorem dX9_claim_3 : decode cX9_claim 3 = .ok (.invokevirtual 229, 3) := by decide +kernel
theorem dX9_claim_6 : decode cX9_claim 6 = .ok (.ifCond .ne 7, 3) := by decide +kernel
theorem dX9_claim_9 : decode cX9_claim 9 = .ok (.iconst 0, 1) := by decide +kernel
theorem dX9_claim_10 : decode cX9_claim 10 = .ok (.goto 4, 3) := by decide +kernel
theorem dX9_claim_13 : decode cX9_claim 13 = .ok (.iconst 1, 1) := by decide +kernel
theorem dX9_claim_14 : decode cX9_claim 14 = .ok (.putfield 45, 3) := by decide +kernel
theorem dX9_claim_17 : decode cX9_claim 17 = .ok (.aload_n 0, 1) := by decide +kernel
theorem dX9_claim_18 : decode cX9_claim 18 = .ok (.getfield 45, 3) := by decide +kernel
theorem dX9_claim_21 : decode cX9_claim 21 = .ok (.ifCond .le 5, 3) := by decide +kernel
theorem dX9_claim_24 : decode cX9_claim 24 = .ok (.iconst 0, 1) := by decide +kernel
theorem dX9_claim_25 : decode cX9_claim 25 = .ok (.ireturn, 1) := by decide +kernel
theorem dX9_claim_26 : decode cX9_claim 26 = .ok (.aload_n 0, 1) := by decide +kernel
theorem dX9_claim_27 : decode cX9_claim 27 = .ok (.invokevirtual 269, 3) := by decide +kernel
theorem dX9_claim_30 : decode cX9_claim 30 = .ok (.aload_n 0, 1) := by decide +kernel
theorem dX9_claim_31 : decode cX9_claim 31 = .ok (.getfield 17, 3) := by decide +kernel
theorem dX9_claim_34 : decode cX9_claim 34 = .ok (.bipush 55, 2) := by decide +kernel
theorem dX9_claim_36 : decode cX9_claim 36 = .ok (.iaload, 1) := by decide +kernel
theorem dX9_claim_37 : decode cX9_claim 37 = .ok (.istore_n 2, 1) := by decide +kernel
theorem dX9_claim_38 : decode cX9_claim 38 = .ok (.aload_n 0, 1) := by decide +kernel
theorem dX9_claim_39 : decode cX9_claim 39 = .ok (.getfield 17, 3) := by decide +kernel
theorem dX9_claim_42 : decode cX9_claim 42 = .ok (.bipush 43, 2) := by decide +kernel
theorem dX9_claim_44 : decode cX9_claim 44 = .ok (.bipush 6, 2) := by decide +kernel
theorem dX9_claim_46 : decode cX9_claim 46 = .ok (.iload_n 2, 1) := by decide +kernel
theorem dX9_claim_47 : decode cX9_claim 47 = .ok (.imul, 1) := by decide +kernel
theorem dX9_claim_48 : decode cX9_claim 48 = .ok (.iadd, 1) := by decide +kernel
theorem dX9_claim_49 : decode cX9_claim 49 = .ok (.dup2, 1) := by decide +kernel
theorem dX9_claim_50 : decode cX9_claim 50 = .ok (.iaload, 1) := by decide +kernel
theorem dX9_claim_51 : decode cX9_claim 51 = .ok (.iconst 1, 1) := by decide +kernel
theorem dX9_claim_52 : decode cX9_claim 52 = .ok (.isub, 1) := by decide +kernel
theorem dX9_claim_53 : decode cX9_claim 53 = .ok (.iastore, 1) := by decide +kernel
theorem dX9_claim_54 : decode cX9_claim 54 = .ok (.aload_n 0, 1) := by decide +kernel
theorem dX9_claim_55 : decode cX9_claim 55 = .ok (.iconst 1, 1) := by decide +kernel
theorem dX9_claim_56 : decode cX9_claim 56 = .ok (.iload_n 1, 1) := by decide +kernel
theorem dX9_claim_57 : decode cX9_claim 57 = .ok (.iconst (-1), 1) := by decide +kernel
theorem dX9_claim_58 : decode cX9_claim 58 = .ok (.iconst (-1), 1) := by decide +kernel
theorem dX9_claim_59 : decode cX9_claim 59 = .ok (.invokevirtual 265, 3) := by decide +kernel
theorem dX9_claim_62 : decode cX9_claim 62 = .ok (.aload_n 0, 1) := by decide +kernel
theorem dX9_claim_63 : decode cX9_claim 63 = .ok (.getfield 17, 3) := by decide +kernel
theorem dX9_claim_66 : decode cX9_claim 66 = .ok (.iload_n 1, 1) := by decide +kernel
theorem dX9_claim_67 : decode cX9_claim 67 = .ok (.invokestatic 170, 3) := by decide +kernel
theorem dX9_claim_70 : decode cX9_claim 70 = .ok (.iconst 5, 1) := by decide +kernel
theorem dX9_claim_71 : decode cX9_claim 71 = .ok (.iadd, 1) := by decide +kernel
theorem dX9_claim_72 : decode cX9_claim 72 = .ok (.iload_n 2, 1) := by decide +kernel
theorem dX9_claim_73 : decode cX9_claim 73 = .ok (.iastore, 1) := by decide +kernel
theorem dX9_claim_74 : decode cX9_claim 74 = .ok (.aload_n 0, 1) := by decide +kernel
theorem dX9_claim_75 : decode cX9_claim 75 = .ok (.getfield 17, 3) := by decide +kernel
theorem dX9_claim_78 : decode cX9_claim 78 = .ok (.iload_n 1, 1) := by decide +kernel
theorem dX9_claim_79 : decode cX9_claim 79 = .ok (.invokestatic 170, 3) := by decide +kernel
theorem dX9_claim_82 : decode cX9_claim 82 = .ok (.bipush 6, 2) := by decide +kernel
theorem dX9_claim_84 : decode cX9_claim 84 = .ok (.iadd, 1) := by decide +kernel
theorem dX9_claim_85 : decode cX9_claim 85 = .ok (.iconst 3, 1) := by decide +kernel
theorem dX9_claim_86 : decode cX9_claim 86 = .ok (.iastore, 1) := by decide +kernel
theorem dX9_claim_87 : decode cX9_claim 87 = .ok (.aload_n 0, 1) := by decide +kernel
theorem dX9_claim_88 : decode cX9_claim 88 = .ok (.getfield 17, 3) := by decide +kernel
theorem dX9_claim_91 : decode cX9_claim 91 = .ok (.bipush 43, 2) := by decide +kernel
theorem dX9_claim_93 : decode cX9_claim 93 = .ok (.bipush 6, 2) := by decide +kernel
theorem dX9_claim_95 : decode cX9_claim 95 = .ok (.iload_n 2, 1) := by decide +kernel
theorem dX9_claim_96 : decode cX9_claim 96 = .ok (.imul, 1) := by decide +kernel
theorem dX9_claim_97 : decode cX9_claim 97 = .ok (.iadd, 1) := by decide +kernel
theorem dX9_claim_98 : decode cX9_claim 98 = .ok (.iaload, 1) := by decide +kernel
theorem dX9_claim_99 : decode cX9_claim 99 = .ok (.ireturn, 1) := by decide +kernel
theorem dX9_lock_0 : decode cX9_lock 0 = .ok (.aload_n 0, 1) := by decide +kernel
theorem dX9_lock_1 : decode cX9_lock 1 = .ok (.aload_n 0, 1) := by decide +kernel
theorem dX9_lock_2 : decode cX9_lock 2 = .ok (.iload_n 1, 1) := by decide +kernel
theorem dX9_lock_3 : decode cX9_lock 3 = .ok (.iload_n 2, 1) := by decide +kernel
theorem dX9_lock_4 : decode cX9_lock 4 = .ok (.invokevirtual 232, 3) := by decide +kernel
theorem dX9_lock_7 : decode cX9_lock 7 = .ok (.ifCond .ne 7, 3) := by decide +kernel
theorem dX9_lock_10 : decode cX9_lock 10 = .ok (.iconst 0, 1) := by decide +kernel
theorem dX9_lock_11 : decode cX9_lock 11 = .ok (.goto 4, 3) := by decide +kernel
theorem dX9_lock_14 : decode cX9_lock 14 = .ok (.iconst 1, 1) := by decide +kernel
theorem dX9_lock_15 : decode cX9_lock 15 = .ok (.putfield 45, 3) := by decide +kernel
theorem dX9_lock_18 : decode cX9_lock 18 = .ok (.aload_n 0, 1) := by decide +kernel
theorem dX9_lock_19 : decode cX9_lock 19 = .ok (.getfield 45, 3) := by decide +kernel
theorem dX9_lock_22 : decode cX9_lock 22 = .ok (.ifCond .le 5, 3) := by decide +kernel
theorem dX9_lock_25 : decode cX9_lock 25 = .ok (.iconst 0, 1) := by decide +kernel
theorem dX9_lock_26 : decode cX9_lock 26 = .ok (.ireturn, 1) := by decide +kernel
theorem dX9_lock_27 : decode cX9_lock 27 = .ok (.aload_n 0, 1) := by decide +kernel
theorem dX9_lock_28 : decode cX9_lock 28 = .ok (.invokevirtual 269, 3) := by decide +kernel
theorem dX9_lock_31 : decode cX9_lock 31 = .ok (.aload_n 0, 1) := by decide +kernel
theorem dX9_lock_32 : decode cX9_lock 32 = .ok (.getfield 17, 3) := by decide +kernel
theorem dX9_lock_35 : decode cX9_lock 35 = .ok (.bipush 43, 2) := by decide +kernel
theorem dX9_lock_37 : decode cX9_lock 37 = .ok (.bipush 6, 2) := by decide +kernel
theorem dX9_lock_39 : decode cX9_lock 39 = .ok (.aload_n 0, 1) := by decide +kernel
theorem dX9_lock_40 : decode cX9_lock 40 = .ok (.getfield 17, 3) := by decide +kernel
theorem dX9_lock_43 : decode cX9_lock 43 = .ok (.bipush 55, 2) := by decide +kernel
theorem dX9_lock_45 : decode cX9_lock 45 = .ok (.iaload, 1) := by decide +kernel
theorem dX9_lock_46 : decode cX9_lock 46 = .ok (.imul, 1) := by decide +kernel
theorem dX9_lock_47 : decode cX9_lock 47 = .ok (.iadd, 1) := by decide +kernel
theorem dX9_lock_48 : decode cX9_lock 48 = .ok (.iconst 1, 1) := by decide +kernel
theorem dX9_lock_49 : decode cX9_lock 49 = .ok (.iadd, 1) := by decide +kernel
theorem dX9_lock_50 : decode cX9_lock 50 = .ok (.dup2, 1) := by decide +kernel
theorem dX9_lock_51 : decode cX9_lock 51 = .ok (.iaload, 1) := by decide +kernel
theorem dX9_lock_52 : decode cX9_lock 52 = .ok (.iconst 1, 1) := by decide +kernel
theorem dX9_lock_53 : decode cX9_lock 53 = .ok (.isub, 1) := by decide +kernel
theorem dX9_lock_54 : decode cX9_lock 54 = .ok (.iastore, 1) := by decide +kernel
theorem dX9_lock_55 : decode cX9_lock 55 = .ok (.aload_n 0, 1) := by decide +kernel
theorem dX9_lock_56 : decode cX9_lock 56 = .ok (.getfield 17, 3) := by decide +kernel
theorem dX9_lock_59 : decode cX9_lock 59 = .ok (.iload_n 1, 1) := by decide +kernel
theorem dX9_lock_60 : decode cX9_lock 60 = .ok (.invokestatic 170, 3) := by decide +kernel
theorem dX9_lock_63 : decode cX9_lock 63 = .ok (.iconst 3, 1) := by decide +kernel
theorem dX9_lock_64 : decode cX9_lock 64 = .ok (.iadd, 1) := by decide +kernel
theorem dX9_lock_65 : decode cX9_lock 65 = .ok (.dup2, 1) := by decide +kernel
theorem dX9_lock_66 : decode cX9_lock 66 = .ok (.iaload, 1) := by decide +kernel
theorem dX9_lock_67 : decode cX9_lock 67 = .ok (.iconst 1, 1) := by decide +kernel
theorem dX9_lock_68 : decode cX9_lock 68 = .ok (.iload_n 2, 1) := by decide +kernel
theorem dX9_lock_69 : decode cX9_lock 69 = .ok (.ishl, 1) := by decide +kernel
theorem dX9_lock_70 : decode cX9_lock 70 = .ok (.ior, 1) := by decide +kernel
theorem dX9_lock_71 : decode cX9_lock 71 = .ok (.iastore, 1) := by decide +kernel
theorem dX9_lock_72 : decode cX9_lock 72 = .ok (.aload_n 0, 1) := by decide +kernel
theorem dX9_lock_73 : decode cX9_lock 73 = .ok (.iconst 2, 1) := by decide +kernel
theorem dX9_lock_74 : decode cX9_lock 74 = .ok (.iload_n 1, 1) := by decide +kernel
theorem dX9_lock_75 : decode cX9_lock 75 = .ok (.iload_n 2, 1) := by decide +kernel
theorem dX9_lock_76 : decode cX9_lock 76 = .ok (.iconst (-1), 1) := by decide +kernel
theorem dX9_lock_77 : decode cX9_lock 77 = .ok (.invokevirtual 265, 3) := by decide +kernel
theorem dX9_lock_80 : decode cX9_lock 80 = .ok (.aload_n 0, 1) := by decide +kernel
theorem dX9_lock_81 : decode cX9_lock 81 = .ok (.iload_n 1, 1) := by decide +kernel
theorem dX9_lock_82 : decode cX9_lock 82 = .ok (.invokevirtual 187, 3) := by decide +kernel
theorem dX9_lock_85 : decode cX9_lock 85 = .ok (.ireturn, 1) := by decide +kernel
theorem dX9_back_0 : decode cX9_back 0 = .ok (.aload_n 0, 1) := by decide +kernel
theorem dX9_back_1 : decode cX9_back 1 = .ok (.aload_n 0, 1) := by decide +kernel
theorem dX9_back_2 : decode cX9_back 2 = .ok (.invokevirtual 238, 3) := by decide +kernel
theorem dX9_back_5 : decode cX9_back 5 = .ok (.ifCond .ne 7, 3) := by decide +kernel
theorem dX9_back_8 : decode cX9_back 8 = .ok (.iconst 0, 1) := by decide +kernel
theorem dX9_back_9 : decode cX9_back 9 = .ok (.goto 4, 3) := by decide +kernel
theorem dX9_back_12 : decode cX9_back 12 = .ok (.iconst 1, 1) := by decide +kernel
theorem dX9_back_13 : decode cX9_back 13 = .ok (.putfield 45, 3) := by decide +kernel
theorem dX9_back_16 : decode cX9_back 16 = .ok (.aload_n 0, 1) := by decide +kernel
theorem dX9_back_17 : decode cX9_back 17 = .ok (.getfield 45, 3) := by decide +kernel
theorem dX9_back_20 : decode cX9_back 20 = .ok (.ifCond .le 5, 3) := by decide +kernel
theorem dX9_back_23 : decode cX9_back 23 = .ok (.iconst 0, 1) := by decide +kernel
theorem dX9_back_24 : decode cX9_back 24 = .ok (.ireturn, 1) := by decide +kernel
theorem dX9_back_25 : decode cX9_back 25 = .ok (.aload_n 0, 1) := by decide +kernel
theorem dX9_back_26 : decode cX9_back 26 = .ok (.invokevirtual 269, 3) := by decide +kernel
theorem dX9_back_29 : decode cX9_back 29 = .ok (.aload_n 0, 1) := by decide +kernel
theorem dX9_back_30 : decode cX9_back 30 = .ok (.iconst 2, 1) := by decide +kernel
theorem dX9_back_31 : decode cX9_back 31 = .ok (.invokevirtual 235, 3) := by decide +kernel
theorem dX9_back_34 : decode cX9_back 34 = .ok (.istore_n 1, 1) := by decide +kernel
theorem dX9_back_35 : decode cX9_back 35 = .ok (.aload_n 0, 1) := by decide +kernel
theorem dX9_back_36 : decode cX9_back 36 = .ok (.iconst 3, 1) := by decide +kernel
theorem dX9_back_37 : decode cX9_back 37 = .ok (.invokevirtual 235, 3) := by decide +kernel
theorem dX9_back_40 : decode cX9_back 40 = .ok (.istore_n 2, 1) := by decide +kernel
theorem dX9_back_41 : decode cX9_back 41 = .ok (.aload_n 0, 1) := by decide +kernel
theorem dX9_back_42 : decode cX9_back 42 = .ok (.iconst 4, 1) := by decide +kernel
theorem dX9_back_43 : decode cX9_back 43 = .ok (.invokevirtual 235, 3) := by decide +kernel
theorem dX9_back_46 : decode cX9_back 46 = .ok (.istore_n 3, 1) := by decide +kernel
theorem dX9_back_47 : decode cX9_back 47 = .ok (.aload_n 0, 1) := by decide +kernel
theorem dX9_back_48 : decode cX9_back 48 = .ok (.getfield 17, 3) := by decide +kernel
theorem dX9_back_51 : decode cX9_back 51 = .ok (.bipush 43, 2) := by decide +kernel
theorem dX9_back_53 : decode cX9_back 53 = .ok (.bipush 6, 2) := by decide +kernel
theorem dX9_back_55 : decode cX9_back 55 = .ok (.aload_n 0, 1) := by decide +kernel
theorem dX9_back_56 : decode cX9_back 56 = .ok (.getfield 17, 3) := by decide +kernel
theorem dX9_back_59 : decode cX9_back 59 = .ok (.bipush 55, 2) := by decide +kernel
theorem dX9_back_61 : decode cX9_back 61 = .ok (.iaload, 1) := by decide +kernel
theorem dX9_back_62 : decode cX9_back 62 = .ok (.imul, 1) := by decide +kernel
theorem dX9_back_63 : decode cX9_back 63 = .ok (.iadd, 1) := by decide +kernel
theorem dX9_back_64 : decode cX9_back 64 = .ok (.iconst 2, 1) := by decide +kernel
theorem dX9_back_65 : decode cX9_back 65 = .ok (.iadd, 1) := by decide +kernel
theorem dX9_back_66 : decode cX9_back 66 = .ok (.dup2, 1) := by decide +kernel
theorem dX9_back_67 : decode cX9_back 67 = .ok (.iaload, 1) := by decide +kernel
theorem dX9_back_68 : decode cX9_back 68 = .ok (.iconst 1, 1) := by decide +kernel
theorem dX9_back_69 : decode cX9_back 69 = .ok (.isub, 1) := by decide +kernel
theorem dX9_back_70 : decode cX9_back 70 = .ok (.iastore, 1) := by decide +kernel
theorem dX9_back_71 : decode cX9_back 71 = .ok (.aload_n 0, 1) := by decide +kernel
theorem dX9_back_72 : decode cX9_back 72 = .ok (.iload_n 1, 1) := by decide +kernel
theorem dX9_back_73 : decode cX9_back 73 = .ok (.iconst 2, 1) := by decide +kernel
theorem dX9_back_74 : decode cX9_back 74 = .ok (.invokevirtual 173, 3) := by decide +kernel
theorem dX9_back_77 : decode cX9_back 77 = .ok (.istore 4, 2) := by decide +kernel
theorem dX9_back_79 : decode cX9_back 79 = .ok (.iload_n 2, 1) := by decide +kernel
theorem dX9_back_80 : decode cX9_back 80 = .ok (.iload_n 3, 1) := by decide +kernel
theorem dX9_back_81 : decode cX9_back 81 = .ok (.isub, 1) := by decide +kernel
theorem dX9_back_82 : decode cX9_back 82 = .ok (.istore 5, 2) := by decide +kernel
theorem dX9_back_84 : decode cX9_back 84 = .ok (.aload_n 0, 1) := by decide +kernel
theorem dX9_back_85 : decode cX9_back 85 = .ok (.getfield 17, 3) := by decide +kernel
theorem dX9_back_88 : decode cX9_back 88 = .ok (.iload_n 1, 1) := by decide +kernel
theorem dX9_back_89 : decode cX9_back 89 = .ok (.invokestatic 170, 3) := by decide +kernel
theorem dX9_back_92 : decode cX9_back 92 = .ok (.iconst 2, 1) := by decide +kernel
theorem dX9_back_93 : decode cX9_back 93 = .ok (.iadd, 1) := by decide +kernel
theorem dX9_back_94 : decode cX9_back 94 = .ok (.iload 5, 2) := by decide +kernel
theorem dX9_back_96 : decode cX9_back 96 = .ok (.ifCond .le 13, 3) := by decide +kernel
theorem dX9_back_99 : decode cX9_back 99 = .ok (.iload 4, 2) := by decide +kernel
theorem dX9_back_101 : decode cX9_back 101 = .ok (.iconst 1, 1) := by decide +kernel
theorem dX9_back_102 : decode cX9_back 102 = .ok (.iload 5, 2) := by decide +kernel
theorem dX9_back_104 : decode cX9_back 104 = .ok (.ishl, 1) := by decide +kernel
theorem dX9_back_105 : decode cX9_back 105 = .ok (.ixor, 1) := by decide +kernel
theorem dX9_back_106 : decode cX9_back 106 = .ok (.goto 5, 3) := by decide +kernel
theorem dX9_back_109 : decode cX9_back 109 = .ok (.iload 4, 2) := by decide +kernel
theorem dX9_back_111 : decode cX9_back 111 = .ok (.iconst 1, 1) := by decide +kernel
theorem dX9_back_112 : decode cX9_back 112 = .ok (.iload_n 2, 1) := by decide +kernel
theorem dX9_back_113 : decode cX9_back 113 = .ok (.ishl, 1) := by decide +kernel
theorem dX9_back_114 : decode cX9_back 114 = .ok (.ior, 1) := by decide +kernel
theorem dX9_back_115 : decode cX9_back 115 = .ok (.iastore, 1) := by decide +kernel
theorem dX9_back_116 : decode cX9_back 116 = .ok (.aload_n 0, 1) := by decide +kernel
theorem dX9_back_117 : decode cX9_back 117 = .ok (.iconst 3, 1) := by decide +kernel
theorem dX9_back_118 : decode cX9_back 118 = .ok (.iload_n 1, 1) := by decide +kernel
theorem dX9_back_119 : decode cX9_back 119 = .ok (.iload_n 2, 1) := by decide +kernel
theorem dX9_back_120 : decode cX9_back 120 = .ok (.iload_n 3, 1) := by decide +kernel
theorem dX9_back_121 : decode cX9_back 121 = .ok (.invokevirtual 265, 3) := by decide +kernel
theorem dX9_back_124 : decode cX9_back 124 = .ok (.aload_n 0, 1) := by decide +kernel
theorem dX9_back_125 : decode cX9_back 125 = .ok (.getfield 17, 3) := by decide +kernel
theorem dX9_back_128 : decode cX9_back 128 = .ok (.bipush 57, 2) := by decide +kernel
theorem dX9_back_130 : decode cX9_back 130 = .ok (.iload_n 1, 1) := by decide +kernel
theorem dX9_back_131 : decode cX9_back 131 = .ok (.iastore, 1) := by decide +kernel
theorem dX9_back_132 : decode cX9_back 132 = .ok (.aload_n 0, 1) := by decide +kernel
theorem dX9_back_133 : decode cX9_back 133 = .ok (.getfield 17, 3) := by decide +kernel
theorem dX9_back_136 : decode cX9_back 136 = .ok (.bipush 58, 2) := by decide +kernel
theorem dX9_back_138 : decode cX9_back 138 = .ok (.iload_n 2, 1) := by decide +kernel
theorem dX9_back_139 : decode cX9_back 139 = .ok (.iastore, 1) := by decide +kernel
theorem dX9_back_140 : decode cX9_back 140 = .ok (.aload_n 0, 1) := by decide +kernel
theorem dX9_back_141 : decode cX9_back 141 = .ok (.getfield 17, 3) := by decide +kernel
theorem dX9_back_144 : decode cX9_back 144 = .ok (.bipush 59, 2) := by decide +kernel
theorem dX9_back_146 : decode cX9_back 146 = .ok (.iload_n 3, 1) := by decide +kernel
theorem dX9_back_147 : decode cX9_back 147 = .ok (.iastore, 1) := by decide +kernel
theorem dX9_back_148 : decode cX9_back 148 = .ok (.aload_n 0, 1) := by decide +kernel
theorem dX9_back_149 : decode cX9_back 149 = .ok (.invokevirtual 201, 3) := by decide +kernel
theorem dX9_back_152 : decode cX9_back 152 = .ok (.ireturn, 1) := by decide +kernel
theorem dX9_passes_0 : decode cX9_passes 0 = .ok (.aload_n 0, 1) := by decide +kernel
theorem dX9_passes_1 : decode cX9_passes 1 = .ok (.getfield 17, 3) := by decide +kernel
theorem dX9_passes_4 : decode cX9_passes 4 = .ok (.bipush 43, 2) := by decide +kernel
theorem dX9_passes_6 : decode cX9_passes 6 = .ok (.bipush 6, 2) := by decide +kernel
theorem dX9_passes_8 : decode cX9_passes 8 = .ok (.aload_n 0, 1) := by decide +kernel
theorem dX9_passes_9 : decode cX9_passes 9 = .ok (.getfield 17, 3) := by decide +kernel
theorem dX9_passes_12 : decode cX9_passes 12 = .ok (.bipush 55, 2) := by decide +kernel
theorem dX9_passes_14 : decode cX9_passes 14 = .ok (.iaload, 1) := by decide +kernel
theorem dX9_passes_15 : decode cX9_passes 15 = .ok (.imul, 1) := by decide +kernel
theorem dX9_passes_16 : decode cX9_passes 16 = .ok (.iadd, 1) := by decide +kernel
theorem dX9_passes_17 : decode cX9_passes 17 = .ok (.iconst 5, 1) := by decide +kernel
theorem dX9_passes_18 : decode cX9_passes 18 = .ok (.iadd, 1) := by decide +kernel
theorem dX9_passes_19 : decode cX9_passes 19 = .ok (.dup2, 1) := by decide +kernel
theorem dX9_passes_20 : decode cX9_passes 20 = .ok (.iaload, 1) := by decide +kernel
theorem dX9_passes_21 : decode cX9_passes 21 = .ok (.iconst 1, 1) := by decide +kernel
theorem dX9_passes_22 : decode cX9_passes 22 = .ok (.iadd, 1) := by decide +kernel
theorem dX9_passes_23 : decode cX9_passes 23 = .ok (.iastore, 1) := by decide +kernel
theorem dX9_passes_24 : decode cX9_passes 24 = .ok (.aload_n 0, 1) := by decide +kernel
theorem dX9_passes_25 : decode cX9_passes 25 = .ok (.iconst 4, 1) := by decide +kernel
theorem dX9_passes_26 : decode cX9_passes 26 = .ok (.iconst (-1), 1) := by decide +kernel
theorem dX9_passes_27 : decode cX9_passes 27 = .ok (.iconst (-1), 1) := by decide +kernel
theorem dX9_passes_28 : decode cX9_passes 28 = .ok (.iconst (-1), 1) := by decide +kernel
theorem dX9_passes_29 : decode cX9_passes 29 = .ok (.invokevirtual 265, 3) := by decide +kernel
theorem dX9_passes_32 : decode cX9_passes 32 = .ok (.return_, 1) := by decide +kernel
theorem dX9_pass_0 : decode cX9_pass 0 = .ok (.aload_n 0, 1) := by decide +kernel
theorem dX9_pass_1 : decode cX9_pass 1 = .ok (.aload_n 0, 1) := by decide +kernel
theorem dX9_pass_2 : decode cX9_pass 2 = .ok (.invokevirtual 193, 3) := by decide +kernel
theorem dX9_pass_5 : decode cX9_pass 5 = .ok (.ifCond .ne 11, 3) := by decide +kernel
theorem dX9_pass_8 : decode cX9_pass 8 = .ok (.aload_n 0, 1) := by decide +kernel
theorem dX9_pass_9 : decode cX9_pass 9 = .ok (.iconst (-1), 1) := by decide +kernel
theorem dX9_pass_10 : decode cX9_pass 10 = .ok (.invokevirtual 253, 3) := by decide +kernel
theorem dX9_pass_13 : decode cX9_pass 13 = .ok (.ifCond .le 7, 3) := by decide +kernel
theorem dX9_pass_16 : decode cX9_pass 16 = .ok (.iconst 1, 1) := by decide +kernel
theorem dX9_pass_17 : decode cX9_pass 17 = .ok (.goto 4, 3) := by decide +kernel
theorem dX9_pass_20 : decode cX9_pass 20 = .ok (.iconst 0, 1) := by decide +kernel
theorem dX9_pass_21 : decode cX9_pass 21 = .ok (.putfield 45, 3) := by decide +kernel
theorem dX9_pass_24 : decode cX9_pass 24 = .ok (.aload_n 0, 1) := by decide +kernel
theorem dX9_pass_25 : decode cX9_pass 25 = .ok (.getfield 45, 3) := by decide +kernel
theorem dX9_pass_28 : decode cX9_pass 28 = .ok (.ifCond .le 5, 3) := by decide +kernel
theorem dX9_pass_31 : decode cX9_pass 31 = .ok (.iconst 0, 1) := by decide +kernel
theorem dX9_pass_32 : decode cX9_pass 32 = .ok (.ireturn, 1) := by decide +kernel
theorem dX9_pass_33 : decode cX9_pass 33 = .ok (.aload_n 0, 1) := by decide +kernel
theorem dX9_pass_34 : decode cX9_pass 34 = .ok (.invokevirtual 269, 3) := by decide +kernel
theorem dX9_pass_37 : decode cX9_pass 37 = .ok (.aload_n 0, 1) := by decide +kernel
theorem dX9_pass_38 : decode cX9_pass 38 = .ok (.invokevirtual 275, 3) := by decide +kernel
theorem dX9_pass_41 : decode cX9_pass 41 = .ok (.aload_n 0, 1) := by decide +kernel
theorem dX9_pass_42 : decode cX9_pass 42 = .ok (.getfield 17, 3) := by decide +kernel
theorem dX9_pass_45 : decode cX9_pass 45 = .ok (.bipush 55, 2) := by decide +kernel
theorem dX9_pass_47 : decode cX9_pass 47 = .ok (.iaload, 1) := by decide +kernel
theorem dX9_pass_48 : decode cX9_pass 48 = .ok (.ireturn, 1) := by decide +kernel
theorem dX9_playsOne_0 : decode cX9_playsOne 0 = .ok (.aload_n 0, 1) := by decide +kernel
theorem dX9_playsOne_1 : decode cX9_playsOne 1 = .ok (.iconst (-1), 1) := by decide +kernel
theorem dX9_playsOne_2 : decode cX9_playsOne 2 = .ok (.invokevirtual 253, 3) := by decide +kernel
theorem dX9_playsOne_5 : decode cX9_playsOne 5 = .ok (.istore_n 1, 1) := by decide +kernel
theorem dX9_playsOne_6 : decode cX9_playsOne 6 = .ok (.iload_n 1, 1) := by decide +kernel
theorem dX9_playsOne_7 : decode cX9_playsOne 7 = .ok (.ifCond .ne 8, 3) := by decide +kernel
theorem dX9_playsOne_10 : decode cX9_playsOne 10 = .ok (.aload_n 0, 1) := by decide +kernel
theorem dX9_playsOne_11 : decode cX9_playsOne 11 = .ok (.invokevirtual 275, 3) := by decide +kernel
theorem dX9_playsOne_14 : decode cX9_playsOne 14 = .ok (.return_, 1) := by decide +kernel
theorem dX9_playsOne_15 : decode cX9_playsOne 15 = .ok (.aload_n 0, 1) := by decide +kernel
theorem dX9_playsOne_16 : decode cX9_playsOne 16 = .ok (.invokevirtual 259, 3) := by decide +kernel
theorem dX9_playsOne_19 : decode cX9_playsOne 19 = .ok (.istore_n 2, 1) := by decide +kernel
theorem dX9_playsOne_20 : decode cX9_playsOne 20 = .ok (.aload_n 0, 1) := by decide +kernel
theorem dX9_playsOne_21 : decode cX9_playsOne 21 = .ok (.iload_n 2, 1) := by decide +kernel
theorem dX9_playsOne_22 : decode cX9_playsOne 22 = .ok (.iconst (-1), 1) := by decide +kernel
theorem dX9_playsOne_23 : decode cX9_playsOne 23 = .ok (.if_icmp .ne 7, 3) := by decide +kernel
theorem dX9_playsOne_26 : decode cX9_playsOne 26 = .ok (.iconst 0, 1) := by decide +kernel
theorem dX9_playsOne_27 : decode cX9_playsOne 27 = .ok (.goto 4, 3) := by decide +kernel
theorem dX9_playsOne_30 : decode cX9_playsOne 30 = .ok (.iload_n 2, 1) := by decide +kernel
theorem dX9_playsOne_31 : decode cX9_playsOne 31 = .ok (.invokevirtual 253, 3) := by decide +kernel
theorem dX9_playsOne_34 : decode cX9_playsOne 34 = .ok (.istore_n 3, 1) := by decide +kernel
theorem dX9_playsOne_35 : decode cX9_playsOne 35 = .ok (.aload_n 0, 1) := by decide +kernel
theorem dX9_playsOne_36 : decode cX9_playsOne 36 = .ok (.aload_n 0, 1) := by decide +kernel
theorem dX9_playsOne_37 : decode cX9_playsOne 37 = .ok (.getfield 244, 3) := by decide +kernel
theorem dX9_playsOne_40 : decode cX9_playsOne 40 = .ok (.aload_n 0, 1) := by decide +kernel
theorem dX9_playsOne_41 : decode cX9_playsOne 41 = .ok (.getfield 247, 3) := by decide +kernel
theorem dX9_playsOne_44 : decode cX9_playsOne 44 = .ok (.aload_n 0, 1) := by decide +kernel
theorem dX9_playsOne_45 : decode cX9_playsOne 45 = .ok (.getfield 250, 3) := by decide +kernel
theorem dX9_playsOne_48 : decode cX9_playsOne 48 = .ok (.invokevirtual 272, 3) := by decide +kernel
theorem dX9_playsOne_51 : decode cX9_playsOne 51 = .ok (.return_, 1) := by decide +kernel
theorem dX9_play_0 : decode cX9_play 0 = .ok (.aload_n 0, 1) := by decide +kernel
theorem dX9_play_1 : decode cX9_play 1 = .ok (.iload_n 1, 1) := by decide +kernel
theorem dX9_play_2 : decode cX9_play 2 = .ok (.iconst 1, 1) := by decide +kernel
theorem dX9_play_3 : decode cX9_play 3 = .ok (.bipush 60, 2) := by decide +kernel
theorem dX9_play_5 : decode cX9_play 5 = .ok (.invokestatic 72, 3) := by decide +kernel
theorem dX9_play_8 : decode cX9_play 8 = .ok (.ifCond .eq 7, 3) := by decide +kernel
theorem dX9_play_11 : decode cX9_play 11 = .ok (.iconst 0, 1) := by decide +kernel
theorem dX9_play_12 : decode cX9_play 12 = .ok (.goto 4, 3) := by decide +kernel
theorem dX9_play_15 : decode cX9_play 15 = .ok (.iconst 1, 1) := by decide +kernel
theorem dX9_play_16 : decode cX9_play 16 = .ok (.putfield 45, 3) := by decide +kernel
theorem dX9_play_19 : decode cX9_play 19 = .ok (.aload_n 0, 1) := by decide +kernel
theorem dX9_play_20 : decode cX9_play 20 = .ok (.getfield 45, 3) := by decide +kernel
theorem dX9_play_23 : decode cX9_play 23 = .ok (.ifCond .le 5, 3) := by decide +kernel
theorem dX9_play_26 : decode cX9_play 26 = .ok (.iconst 0, 1) := by decide +kernel
theorem dX9_play_27 : decode cX9_play 27 = .ok (.ireturn, 1) := by decide +kernel
theorem dX9_play_28 : decode cX9_play 28 = .ok (.aload_n 0, 1) := by decide +kernel
theorem dX9_play_29 : decode cX9_play 29 = .ok (.invokevirtual 269, 3) := by decide +kernel
theorem dX9_play_32 : decode cX9_play 32 = .ok (.iconst 0, 1) := by decide +kernel
theorem dX9_play_33 : decode cX9_play 33 = .ok (.istore_n 2, 1) := by decide +kernel
theorem dX9_play_34 : decode cX9_play 34 = .ok (.iload_n 2, 1) := by decide +kernel
theorem dX9_play_35 : decode cX9_play 35 = .ok (.iload_n 1, 1) := by decide +kernel
theorem dX9_play_36 : decode cX9_play 36 = .ok (.if_icmp .ge 20, 3) := by decide +kernel
theorem dX9_play_39 : decode cX9_play 39 = .ok (.aload_n 0, 1) := by decide +kernel
theorem dX9_play_40 : decode cX9_play 40 = .ok (.invokevirtual 193, 3) := by decide +kernel
theorem dX9_play_43 : decode cX9_play 43 = .ok (.ifCond .ne 13, 3) := by decide +kernel
theorem dX9_play_46 : decode cX9_play 46 = .ok (.aload_n 0, 1) := by decide +kernel
theorem dX9_play_47 : decode cX9_play 47 = .ok (.invokevirtual 278, 3) := by decide +kernel
theorem dX9_play_50 : decode cX9_play 50 = .ok (.iinc 2 1, 3) := by decide +kernel
theorem dX9_play_53 : decode cX9_play 53 = .ok (.goto (-19), 3) := by decide +kernel
theorem dX9_play_56 : decode cX9_play 56 = .ok (.iload_n 2, 1) := by decide +kernel
theorem dX9_play_57 : decode cX9_play 57 = .ok (.ireturn, 1) := by decide +kernel
theorem dX9_undo_0 : decode cX9_undo 0 = .ok (.aload_n 0, 1) := by decide +kernel
theorem dX9_undo_1 : decode cX9_undo 1 = .ok (.iconst 0, 1) := by decide +kernel
theorem dX9_undo_2 : decode cX9_undo 2 = .ok (.putfield 45, 3) := by decide +kernel
theorem dX9_undo_5 : decode cX9_undo 5 = .ok (.aload_n 0, 1) := by decide +kernel
theorem dX9_undo_6 : decode cX9_undo 6 = .ok (.getfield 115, 3) := by decide +kernel
theorem dX9_undo_9 : decode cX9_undo 9 = .ok (.ifCond .ne 5, 3) := by decide +kernel
theorem dX9_undo_12 : decode cX9_undo 12 = .ok (.iconst (-1), 1) := by decide +kernel
theorem dX9_undo_13 : decode cX9_undo 13 = .ok (.ireturn, 1) := by decide +kernel
theorem dX9_undo_14 : decode cX9_undo 14 = .ok (.aload_n 0, 1) := by decide +kernel
theorem dX9_undo_15 : decode cX9_undo 15 = .ok (.dup, 1) := by decide +kernel
theorem dX9_undo_16 : decode cX9_undo 16 = .ok (.getfield 115, 3) := by decide +kernel
theorem dX9_undo_19 : decode cX9_undo 19 = .ok (.iconst 1, 1) := by decide +kernel
theorem dX9_undo_20 : decode cX9_undo 20 = .ok (.isub, 1) := by decide +kernel
theorem dX9_undo_21 : decode cX9_undo 21 = .ok (.putfield 115, 3) := by decide +kernel
theorem dX9_undo_24 : decode cX9_undo 24 = .ok (.aload_n 0, 1) := by decide +kernel
theorem dX9_undo_25 : decode cX9_undo 25 = .ok (.getfield 20, 3) := by decide +kernel
theorem dX9_undo_28 : decode cX9_undo 28 = .ok (.aload_n 0, 1) := by decide +kernel
theorem dX9_undo_29 : decode cX9_undo 29 = .ok (.getfield 115, 3) := by decide +kernel
theorem dX9_undo_32 : decode cX9_undo 32 = .ok (.aload_n 0, 1) := by decide +kernel
theorem dX9_undo_33 : decode cX9_undo 33 = .ok (.getfield 17, 3) := by decide +kernel
theorem dX9_undo_36 : decode cX9_undo 36 = .ok (.iconst 0, 1) := by decide +kernel
theorem dX9_undo_37 : decode cX9_undo 37 = .ok (.invokestatic 166, 3) := by decide +kernel
theorem dX9_undo_40 : decode cX9_undo 40 = .ok (.aload_n 0, 1) := by decide +kernel
theorem dX9_undo_41 : decode cX9_undo 41 = .ok (.getfield 115, 3) := by decide +kernel
theorem dX9_undo_44 : decode cX9_undo 44 = .ok (.ireturn, 1) := by decide +kernel
theorem dX9_saveSnapshot_0 : decode cX9_saveSnapshot 0 = .ok (.aload_n 0, 1) := by decide +kernel
theorem dX9_saveSnapshot_1 : decode cX9_saveSnapshot 1 = .ok (.iconst 0, 1) := by decide +kernel
theorem dX9_saveSnapshot_2 : decode cX9_saveSnapshot 2 = .ok (.putfield 45, 3) := by decide +kernel
theorem dX9_saveSnapshot_5 : decode cX9_saveSnapshot 5 = .ok (.iload_n 1, 1) := by decide +kernel
theorem dX9_saveSnapshot_6 : decode cX9_saveSnapshot 6 = .ok (.iconst 0, 1) := by decide +kernel
theorem dX9_saveSnapshot_7 : decode cX9_saveSnapshot 7 = .ok (.iconst 1, 1) := by decide +kernel
theorem dX9_saveSnapshot_8 : decode cX9_saveSnapshot 8 = .ok (.invokestatic 72, 3) := by decide +kernel
theorem dX9_saveSnapshot_11 : decode cX9_saveSnapshot 11 = .ok (.ifCond .ne 5, 3) := by decide +kernel
theorem dX9_saveSnapshot_14 : decode cX9_saveSnapshot 14 = .ok (.iconst 0, 1) := by decide +kernel
theorem dX9_saveSnapshot_15 : decode cX9_saveSnapshot 15 = .ok (.ireturn, 1) := by decide +kernel
theorem dX9_saveSnapshot_16 : decode cX9_saveSnapshot 16 = .ok (.aload_n 0, 1) := by decide +kernel
theorem dX9_saveSnapshot_17 : decode cX9_saveSnapshot 17 = .ok (.getfield 17, 3) := by decide +kernel
theorem dX9_saveSnapshot_20 : decode cX9_saveSnapshot 20 = .ok (.iconst 0, 1) := by decide +kernel
theorem dX9_saveSnapshot_21 : decode cX9_saveSnapshot 21 = .ok (.aload_n 0, 1) := by decide +kernel
theorem dX9_saveSnapshot_22 : decode cX9_saveSnapshot 22 = .ok (.getfield 23, 3) := by decide +kernel
theorem dX9_saveSnapshot_25 : decode cX9_saveSnapshot 25 = .ok (.iload_n 1, 1) := by decide +kernel
theorem dX9_saveSnapshot_26 : decode cX9_saveSnapshot 26 = .ok (.invokestatic 166, 3) := by decide +kernel
theorem dX9_saveSnapshot_29 : decode cX9_saveSnapshot 29 = .ok (.aload_n 0, 1) := by decide +kernel
theorem dX9_saveSnapshot_30 : decode cX9_saveSnapshot 30 = .ok (.getfield 26, 3) := by decide +kernel
theorem dX9_saveSnapshot_33 : decode cX9_saveSnapshot 33 = .ok (.iload_n 1, 1) := by decide +kernel
theorem dX9_saveSnapshot_34 : decode cX9_saveSnapshot 34 = .ok (.iconst 1, 1) := by decide +kernel
theorem dX9_saveSnapshot_35 : decode cX9_saveSnapshot 35 = .ok (.bastore, 1) := by decide +kernel
theorem dX9_saveSnapshot_36 : decode cX9_saveSnapshot 36 = .ok (.iconst 1, 1) := by decide +kernel
theorem dX9_saveSnapshot_37 : decode cX9_saveSnapshot 37 = .ok (.ireturn, 1) := by decide +kernel
theorem dX9_restoreSnapshot_0 : decode cX9_restoreSnapshot 0 = .ok (.aload_n 0, 1) := by decide +kernel
theorem dX9_restoreSnapshot_1 : decode cX9_restoreSnapshot 1 = .ok (.iconst 0, 1) := by decide +kernel
theorem dX9_restoreSnapshot_2 : decode cX9_restoreSnapshot 2 = .ok (.putfield 45, 3) := by decide +kernel
theorem dX9_restoreSnapshot_5 : decode cX9_restoreSnapshot 5 = .ok (.iload_n 1, 1) := by decide +kernel
theorem dX9_restoreSnapshot_6 : decode cX9_restoreSnapshot 6 = .ok (.iconst 0, 1) := by decide +kernel
theorem dX9_restoreSnapshot_7 : decode cX9_restoreSnapshot 7 = .ok (.iconst 1, 1) := by decide +kernel
theorem dX9_restoreSnapshot_8 : decode cX9_restoreSnapshot 8 = .ok (.invokestatic 72, 3) := by decide +kernel
theorem dX9_restoreSnapshot_11 : decode cX9_restoreSnapshot 11 = .ok (.ifCond .eq 12, 3) := by decide +kernel
theorem dX9_restoreSnapshot_14 : decode cX9_restoreSnapshot 14 = .ok (.aload_n 0, 1) := by decide +kernel
theorem dX9_restoreSnapshot_15 : decode cX9_restoreSnapshot 15 = .ok (.getfield 26, 3) := by decide +kernel
theorem dX9_restoreSnapshot_18 : decode cX9_restoreSnapshot 18 = .ok (.iload_n 1, 1) := by decide +kernel
theorem dX9_restoreSnapshot_19 : decode cX9_restoreSnapshot 19 = .ok (.baload, 1) := by decide +kernel
theorem dX9_restoreSnapshot_20 : decode cX9_restoreSnapshot 20 = .ok (.ifCond .ne 5, 3) := by decide +kernel
theorem dX9_restoreSnapshot_23 : decode cX9_restoreSnapshot 23 = .ok (.iconst 0, 1) := by decide +kernel
theorem dX9_restoreSnapshot_24 : decode cX9_restoreSnapshot 24 = .ok (.ireturn, 1) := by decide +kernel
theorem dX9_restoreSnapshot_25 : decode cX9_restoreSnapshot 25 = .ok (.aload_n 0, 1) := by decide +kernel
theorem dX9_restoreSnapshot_26 : decode cX9_restoreSnapshot 26 = .ok (.getfield 23, 3) := by decide +kernel
theorem dX9_restoreSnapshot_29 : decode cX9_restoreSnapshot 29 = .ok (.iload_n 1, 1) := by decide +kernel
theorem dX9_restoreSnapshot_30 : decode cX9_restoreSnapshot 30 = .ok (.aload_n 0, 1) := by decide +kernel
theorem dX9_restoreSnapshot_31 : decode cX9_restoreSnapshot 31 = .ok (.getfield 17, 3) := by decide +kernel
theorem dX9_restoreSnapshot_34 : decode cX9_restoreSnapshot 34 = .ok (.iconst 0, 1) := by decide +kernel
theorem dX9_restoreSnapshot_35 : decode cX9_restoreSnapshot 35 = .ok (.invokestatic 166, 3) := by decide +kernel
theorem dX9_restoreSnapshot_38 : decode cX9_restoreSnapshot 38 = .ok (.aload_n 0, 1) := by decide +kernel
theorem dX9_restoreSnapshot_39 : decode cX9_restoreSnapshot 39 = .ok (.iconst 0, 1) := by decide +kernel
theorem dX9_restoreSnapshot_40 : decode cX9_restoreSnapshot 40 = .ok (.putfield 115, 3) := by decide +kernel
theorem dX9_restoreSnapshot_43 : decode cX9_restoreSnapshot 43 = .ok (.iconst 1, 1) := by decide +kernel
theorem dX9_restoreSnapshot_44 : decode cX9_restoreSnapshot 44 = .ok (.ireturn, 1) := by decide +kernel
theorem dJ6_bitCount_0f7a4_0 : decode cJ6_bitCount_0f7a4 0 = .ok (.iload_n 0, 1) := by decide +kernel
theorem dJ6_bitCount_0f7a4_1 : decode cJ6_bitCount_0f7a4 1 = .ok (.iload_n 0, 1) := by decide +kernel
theorem dJ6_bitCount_0f7a4_2 : decode cJ6_bitCount_0f7a4 2 = .ok (.iconst 1, 1) := by decide +kernel
theorem dJ6_bitCount_0f7a4_3 : decode cJ6_bitCount_0f7a4 3 = .ok (.iushr, 1) := by decide +kernel
theorem dJ6_bitCount_0f7a4_4 : decode cJ6_bitCount_0f7a4 4 = .ok (.ldc_w 265, 3) := by decide +kernel
theorem dJ6_bitCount_0f7a4_7 : decode cJ6_bitCount_0f7a4 7 = .ok (.iand, 1) := by decide +kernel
theorem dJ6_bitCount_0f7a4_8 : decode cJ6_bitCount_0f7a4 8 = .ok (.isub, 1) := by decide +kernel
theorem dJ6_bitCount_0f7a4_9 : decode cJ6_bitCount_0f7a4 9 = .ok (.istore_n 0, 1) := by decide +kernel
theorem dJ6_bitCount_0f7a4_10 : decode cJ6_bitCount_0f7a4 10 = .ok (.iload_n 0, 1) := by decide +kernel
theorem dJ6_bitCount_0f7a4_11 : decode cJ6_bitCount_0f7a4 11 = .ok (.ldc_w 266, 3) := by decide +kernel
theorem dJ6_bitCount_0f7a4_14 : decode cJ6_bitCount_0f7a4 14 = .ok (.iand, 1) := by decide +kernel
theorem dJ6_bitCount_0f7a4_15 : decode cJ6_bitCount_0f7a4 15 = .ok (.iload_n 0, 1) := by decide +kernel
theorem dJ6_bitCount_0f7a4_16 : decode cJ6_bitCount_0f7a4 16 = .ok (.iconst 2, 1) := by decide +kernel
theorem dJ6_bitCount_0f7a4_17 : decode cJ6_bitCount_0f7a4 17 = .ok (.iushr, 1) := by decide +kernel
theorem dJ6_bitCount_0f7a4_18 : decode cJ6_bitCount_0f7a4 18 = .ok (.ldc_w 266, 3) := by decide +kernel
theorem dJ6_bitCount_0f7a4_21 : decode cJ6_bitCount_0f7a4 21 = .ok (.iand, 1) := by decide +kernel
theorem dJ6_bitCount_0f7a4_22 : decode cJ6_bitCount_0f7a4 22 = .ok (.iadd, 1) := by decide +kernel
theorem dJ6_bitCount_0f7a4_23 : decode cJ6_bitCount_0f7a4 23 = .ok (.istore_n 0, 1) := by decide +kernel
theorem dJ6_bitCount_0f7a4_24 : decode cJ6_bitCount_0f7a4 24 = .ok (.iload_n 0, 1) := by decide +kernel
theorem dJ6_bitCount_0f7a4_25 : decode cJ6_bitCount_0f7a4 25 = .ok (.iload_n 0, 1) := by decide +kernel
theorem dJ6_bitCount_0f7a4_26 : decode cJ6_bitCount_0f7a4 26 = .ok (.iconst 4, 1) := by decide +kernel
theorem dJ6_bitCount_0f7a4_27 : decode cJ6_bitCount_0f7a4 27 = .ok (.iushr, 1) := by decide +kernel
theorem dJ6_bitCount_0f7a4_28 : decode cJ6_bitCount_0f7a4 28 = .ok (.iadd, 1) := by decide +kernel
theorem dJ6_bitCount_0f7a4_29 : decode cJ6_bitCount_0f7a4 29 = .ok (.ldc_w 267, 3) := by decide +kernel
theorem dJ6_bitCount_0f7a4_32 : decode cJ6_bitCount_0f7a4 32 = .ok (.iand, 1) := by decide +kernel
theorem dJ6_bitCount_0f7a4_33 : decode cJ6_bitCount_0f7a4 33 = .ok (.istore_n 0, 1) := by decide +kernel
theorem dJ6_bitCount_0f7a4_34 : decode cJ6_bitCount_0f7a4 34 = .ok (.iload_n 0, 1) := by decide +kernel
theorem dJ6_bitCount_0f7a4_35 : decode cJ6_bitCount_0f7a4 35 = .ok (.iload_n 0, 1) := by decide +kernel
theorem dJ6_bitCount_0f7a4_36 : decode cJ6_bitCount_0f7a4 36 = .ok (.bipush 8, 2) := by decide +kernel
theorem dJ6_bitCount_0f7a4_38 : decode cJ6_bitCount_0f7a4 38 = .ok (.iushr, 1) := by decide +kernel
theorem dJ6_bitCount_0f7a4_39 : decode cJ6_bitCount_0f7a4 39 = .ok (.iadd, 1) := by decide +kernel
theorem dJ6_bitCount_0f7a4_40 : decode cJ6_bitCount_0f7a4 40 = .ok (.istore_n 0, 1) := by decide +kernel
theorem dJ6_bitCount_0f7a4_41 : decode cJ6_bitCount_0f7a4 41 = .ok (.iload_n 0, 1) := by decide +kernel
theorem dJ6_bitCount_0f7a4_42 : decode cJ6_bitCount_0f7a4 42 = .ok (.iload_n 0, 1) := by decide +kernel
theorem dJ6_bitCount_0f7a4_43 : decode cJ6_bitCount_0f7a4 43 = .ok (.bipush 16, 2) := by decide +kernel
theorem dJ6_bitCount_0f7a4_45 : decode cJ6_bitCount_0f7a4 45 = .ok (.iushr, 1) := by decide +kernel
theorem dJ6_bitCount_0f7a4_46 : decode cJ6_bitCount_0f7a4 46 = .ok (.iadd, 1) := by decide +kernel
theorem dJ6_bitCount_0f7a4_47 : decode cJ6_bitCount_0f7a4 47 = .ok (.istore_n 0, 1) := by decide +kernel
theorem dJ6_bitCount_0f7a4_48 : decode cJ6_bitCount_0f7a4 48 = .ok (.iload_n 0, 1) := by decide +kernel
theorem dJ6_bitCount_0f7a4_49 : decode cJ6_bitCount_0f7a4 49 = .ok (.bipush 63, 2) := by decide +kernel
theorem dJ6_bitCount_0f7a4_51 : decode cJ6_bitCount_0f7a4 51 = .ok (.iand, 1) := by decide +kernel
theorem dJ6_bitCount_0f7a4_52 : decode cJ6_bitCount_0f7a4 52 = .ok (.ireturn, 1) := by decide +kernel
theorem dJ9_max_7cf53_0 : decode cJ9_max_7cf53 0 = .ok (.iload_n 0, 1) := by decide +kernel
theorem dJ9_max_7cf53_1 : decode cJ9_max_7cf53 1 = .ok (.iload_n 1, 1) := by decide +kernel
theorem dJ9_max_7cf53_2 : decode cJ9_max_7cf53 2 = .ok (.if_icmp .lt 7, 3) := by decide +kernel
theorem dJ9_max_7cf53_5 : decode cJ9_max_7cf53 5 = .ok (.iload_n 0, 1) := by decide +kernel
theorem dJ9_max_7cf53_6 : decode cJ9_max_7cf53 6 = .ok (.goto 4, 3) := by decide +kernel
theorem dJ9_max_7cf53_9 : decode cJ9_max_7cf53 9 = .ok (.iload_n 1, 1) := by decide +kernel
theorem dJ9_max_7cf53_10 : decode cJ9_max_7cf53 10 = .ok (.ireturn, 1) := by decide +kernel
theorem dJ9_min_7cf53_0 : decode cJ9_min_7cf53 0 = .ok (.iload_n 0, 1) := by decide +kernel
theorem dJ9_min_7cf53_1 : decode cJ9_min_7cf53 1 = .ok (.iload_n 1, 1) := by decide +kernel
theorem dJ9_min_7cf53_2 : decode cJ9_min_7cf53 2 = .ok (.if_icmp .gt 7, 3) := by decide +kernel
theorem dJ9_min_7cf53_5 : decode cJ9_min_7cf53 5 = .ok (.iload_n 0, 1) := by decide +kernel
theorem dJ9_min_7cf53_6 : decode cJ9_min_7cf53 6 = .ok (.goto 4, 3) := by decide +kernel
theorem dJ9_min_7cf53_9 : decode cJ9_min_7cf53 9 = .ok (.iload_n 1, 1) := by decide +kernel
theorem dJ9_min_7cf53_10 : decode cJ9_min_7cf53 10 = .ok (.ireturn, 1) := by decide +kernel
theorem dJ0_length_8abf5_0 : decode cJ0_length_8abf5 0 = .ok (.aload_n 0, 1) := by decide +kernel
theorem dJ0_length_8abf5_1 : decode cJ0_length_8abf5 1 = .ok (.getfield 9, 3) := by decide +kernel
theorem dJ0_length_8abf5_4 : decode cJ0_length_8abf5 4 = .ok (.arraylength, 1) := by decide +kernel
theorem dJ0_length_8abf5_5 : decode cJ0_length_8abf5 5 = .ok (.aload_n 0, 1) := by decide +kernel
theorem dJ0_length_8abf5_6 : decode cJ0_length_8abf5 6 = .ok (.invokevirtual 335, 3) := by decide +kernel
theorem dJ0_length_8abf5_9 : decode cJ0_length_8abf5 9 = .ok (.ishr, 1) := by decide +kernel
theorem dJ0_length_8abf5_10 : decode cJ0_length_8abf5 10 = .ok (.ireturn, 1) := by decide +kernel
theorem dJ0_charAt_5068e_0 : decode cJ0_charAt_5068e 0 = .ok (.aload_n 0, 1) := by decide +kernel
theorem dJ0_charAt_5068e_1 : decode cJ0_charAt_5068e 1 = .ok (.invokevirtual 492, 3) := by decide +kernel
theorem dJ0_charAt_5068e_4 : decode cJ0_charAt_5068e 4 = .ok (.ifCond .eq 12, 3) := by decide +kernel
theorem dJ0_charAt_5068e_7 : decode cJ0_charAt_5068e 7 = .ok (.aload_n 0, 1) := by decide +kernel
theorem dJ0_charAt_5068e_8 : decode cJ0_charAt_5068e 8 = .ok (.getfield 9, 3) := by decide +kernel
theorem dJ0_charAt_5068e_11 : decode cJ0_charAt_5068e 11 = .ok (.iload_n 1, 1) := by decide +kernel
theorem dJ0_charAt_5068e_12 : decode cJ0_charAt_5068e 12 = .ok (.invokestatic 495, 3) := by decide +kernel
theorem dJ0_charAt_5068e_15 : decode cJ0_charAt_5068e 15 = .ok (.ireturn, 1) := by decide +kernel
theorem dJ0_charAt_5068e_16 : decode cJ0_charAt_5068e 16 = .ok (.aload_n 0, 1) := by decide +kernel
theorem dJ0_charAt_5068e_17 : decode cJ0_charAt_5068e 17 = .ok (.getfield 9, 3) := by decide +kernel
theorem dJ0_charAt_5068e_20 : decode cJ0_charAt_5068e 20 = .ok (.iload_n 1, 1) := by decide +kernel
theorem dJ0_charAt_5068e_21 : decode cJ0_charAt_5068e 21 = .ok (.invokestatic 498, 3) := by decide +kernel
theorem dJ0_charAt_5068e_24 : decode cJ0_charAt_5068e 24 = .ok (.ireturn, 1) := by decide +kernel
theorem dJ0_coder_7d493_0 : decode cJ0_coder_7d493 0 = .ok (.getstatic 38, 3) := by decide +kernel
theorem dJ0_coder_7d493_3 : decode cJ0_coder_7d493 3 = .ok (.ifCond .eq 10, 3) := by decide +kernel
theorem dJ0_coder_7d493_6 : decode cJ0_coder_7d493 6 = .ok (.aload_n 0, 1) := by decide +kernel
theorem dJ0_coder_7d493_7 : decode cJ0_coder_7d493 7 = .ok (.getfield 15, 3) := by decide +kernel
theorem dJ0_coder_7d493_10 : decode cJ0_coder_7d493 10 = .ok (.goto 4, 3) := by decide +kernel
theorem dJ0_coder_7d493_13 : decode cJ0_coder_7d493 13 = .ok (.iconst 1, 1) := by decide +kernel
theorem dJ0_coder_7d493_14 : decode cJ0_coder_7d493 14 = .ok (.ireturn, 1) := by decide +kernel
theorem dJ0_isLatin1_aae02_0 : decode cJ0_isLatin1_aae02 0 = .ok (.getstatic 38, 3) := by decide +kernel
theorem dJ0_isLatin1_aae02_3 : decode cJ0_isLatin1_aae02 3 = .ok (.ifCond .eq 14, 3) := by decide +kernel
theorem dJ0_isLatin1_aae02_6 : decode cJ0_isLatin1_aae02 6 = .ok (.aload_n 0, 1) := by decide +kernel
theorem dJ0_isLatin1_aae02_7 : decode cJ0_isLatin1_aae02 7 = .ok (.getfield 15, 3) := by decide +kernel
theorem dJ0_isLatin1_aae02_10 : decode cJ0_isLatin1_aae02 10 = .ok (.ifCond .ne 7, 3) := by decide +kernel
theorem dJ0_isLatin1_aae02_13 : decode cJ0_isLatin1_aae02 13 = .ok (.iconst 1, 1) := by decide +kernel
theorem dJ0_isLatin1_aae02_14 : decode cJ0_isLatin1_aae02 14 = .ok (.goto 4, 3) := by decide +kernel
theorem dJ0_isLatin1_aae02_17 : decode cJ0_isLatin1_aae02 17 = .ok (.iconst 0, 1) := by decide +kernel
theorem dJ0_isLatin1_aae02_18 : decode cJ0_isLatin1_aae02 18 = .ok (.ireturn, 1) := by decide +kernel
theorem dJ0_checkIndex_df160_0 : decode cJ0_checkIndex_df160 0 = .ok (.iload_n 0, 1) := by decide +kernel
theorem dJ0_checkIndex_df160_1 : decode cJ0_checkIndex_df160 1 = .ok (.iload_n 1, 1) := by decide +kernel
theorem dJ0_checkIndex_df160_2 : decode cJ0_checkIndex_df160 2 = .ok (.getstatic 1053, 3) := by decide +kernel
theorem dJ0_checkIndex_df160_5 : decode cJ0_checkIndex_df160 5 = .ok (.invokestatic 1059, 3) := by decide +kernel
theorem dJ0_checkIndex_df160_8 : decode cJ0_checkIndex_df160 8 = .ok (.pop, 1) := by decide +kernel
theorem dJ0_checkIndex_df160_9 : decode cJ0_checkIndex_df160 9 = .ok (.return_, 1) := by decide +kernel
theorem dJ1_charAt_3b067_0 : decode cJ1_charAt_3b067 0 = .ok (.iload_n 1, 1) := by decide +kernel
theorem dJ1_charAt_3b067_1 : decode cJ1_charAt_3b067 1 = .ok (.aload_n 0, 1) := by decide +kernel
theorem dJ1_charAt_3b067_2 : decode cJ1_charAt_3b067 2 = .ok (.arraylength, 1) := by decide +kernel
theorem dJ1_charAt_3b067_3 : decode cJ1_charAt_3b067 3 = .ok (.invokestatic 9, 3) := by decide +kernel
theorem dJ1_charAt_3b067_6 : decode cJ1_charAt_3b067 6 = .ok (.aload_n 0, 1) := by decide +kernel
theorem dJ1_charAt_3b067_7 : decode cJ1_charAt_3b067 7 = .ok (.iload_n 1, 1) := by decide +kernel
theorem dJ1_charAt_3b067_8 : decode cJ1_charAt_3b067 8 = .ok (.baload, 1) := by decide +kernel
theorem dJ1_charAt_3b067_9 : decode cJ1_charAt_3b067 9 = .ok (.sipush 255, 3) := by decide +kernel
theorem dJ1_charAt_3b067_12 : decode cJ1_charAt_3b067 12 = .ok (.iand, 1) := by decide +kernel
theorem dJ1_charAt_3b067_13 : decode cJ1_charAt_3b067 13 = .ok (.i2c, 1) := by decide +kernel
theorem dJ1_charAt_3b067_14 : decode cJ1_charAt_3b067 14 = .ok (.ireturn, 1) := by decide +kernel
theorem dJ2_getChar_3b067_0 : decode cJ2_getChar_3b067 0 = .ok (.getstatic 44, 3) := by decide +kernel
theorem dJ2_getChar_3b067_3 : decode cJ2_getChar_3b067 3 = .ok (.ifCond .ne 25, 3) := by decide +kernel
theorem dJ2_getChar_3b067_6 : decode cJ2_getChar_3b067 6 = .ok (.iload_n 1, 1) := by decide +kernel
theorem dJ2_getChar_3b067_7 : decode cJ2_getChar_3b067 7 = .ok (.ifCond .lt 11, 3) := by decide +kernel
theorem dJ2_getChar_3b067_10 : decode cJ2_getChar_3b067 10 = .ok (.iload_n 1, 1) := by decide +kernel
theorem dJ2_getChar_3b067_11 : decode cJ2_getChar_3b067 11 = .ok (.aload_n 0, 1) := by decide +kernel
theorem dJ2_getChar_3b067_12 : decode cJ2_getChar_3b067 12 = .ok (.invokestatic 48, 3) := by decide +kernel
theorem dJ2_getChar_3b067_15 : decode cJ2_getChar_3b067 15 = .ok (.if_icmp .lt 13, 3) := by decide +kernel
theorem dJ2_getChar_3b067_18 : decode cJ2_getChar_3b067 18 = .ok (.new 52, 3) := by decide +kernel
theorem dJ2_getChar_3b067_21 : decode cJ2_getChar_3b067 21 = .ok (.dup, 1) := by decide +kernel
theorem dJ2_getChar_3b067_22 : decode cJ2_getChar_3b067 22 = .ok (.ldc 54, 2) := by decide +kernel
theorem dJ2_getChar_3b067_24 : decode cJ2_getChar_3b067 24 = .ok (.invokespecial 56, 3) := by decide +kernel
theorem dJ2_getChar_3b067_27 : decode cJ2_getChar_3b067 27 = .ok (.athrow, 1) := by decide +kernel
theorem dJ2_getChar_3b067_28 : decode cJ2_getChar_3b067 28 = .ok (.iload_n 1, 1) := by decide +kernel
theorem dJ2_getChar_3b067_29 : decode cJ2_getChar_3b067 29 = .ok (.iconst 1, 1) := by decide +kernel
theorem dJ2_getChar_3b067_30 : decode cJ2_getChar_3b067 30 = .ok (.ishl, 1) := by decide +kernel
theorem dJ2_getChar_3b067_31 : decode cJ2_getChar_3b067 31 = .ok (.istore_n 1, 1) := by decide +kernel
theorem dJ2_getChar_3b067_32 : decode cJ2_getChar_3b067 32 = .ok (.aload_n 0, 1) := by decide +kernel
theorem dJ2_getChar_3b067_33 : decode cJ2_getChar_3b067 33 = .ok (.iload_n 1, 1) := by decide +kernel
theorem dJ2_getChar_3b067_34 : decode cJ2_getChar_3b067 34 = .ok (.iinc 1 1, 3) := by decide +kernel
theorem dJ2_getChar_3b067_37 : decode cJ2_getChar_3b067 37 = .ok (.baload, 1) := by decide +kernel
theorem dJ2_getChar_3b067_38 : decode cJ2_getChar_3b067 38 = .ok (.sipush 255, 3) := by decide +kernel
theorem dJ2_getChar_3b067_41 : decode cJ2_getChar_3b067 41 = .ok (.iand, 1) := by decide +kernel
theorem dJ2_getChar_3b067_42 : decode cJ2_getChar_3b067 42 = .ok (.getstatic 59, 3) := by decide +kernel
theorem dJ2_getChar_3b067_45 : decode cJ2_getChar_3b067 45 = .ok (.ishl, 1) := by decide +kernel
theorem dJ2_getChar_3b067_46 : decode cJ2_getChar_3b067 46 = .ok (.aload_n 0, 1) := by decide +kernel
theorem dJ2_getChar_3b067_47 : decode cJ2_getChar_3b067 47 = .ok (.iload_n 1, 1) := by decide +kernel
theorem dJ2_getChar_3b067_48 : decode cJ2_getChar_3b067 48 = .ok (.baload, 1) := by decide +kernel
theorem dJ2_getChar_3b067_49 : decode cJ2_getChar_3b067 49 = .ok (.sipush 255, 3) := by decide +kernel
theorem dJ2_getChar_3b067_52 : decode cJ2_getChar_3b067 52 = .ok (.iand, 1) := by decide +kernel
theorem dJ2_getChar_3b067_53 : decode cJ2_getChar_3b067 53 = .ok (.getstatic 63, 3) := by decide +kernel
theorem dJ2_getChar_3b067_56 : decode cJ2_getChar_3b067 56 = .ok (.ishl, 1) := by decide +kernel
theorem dJ2_getChar_3b067_57 : decode cJ2_getChar_3b067 57 = .ok (.ior, 1) := by decide +kernel
theorem dJ2_getChar_3b067_58 : decode cJ2_getChar_3b067 58 = .ok (.i2c, 1) := by decide +kernel
theorem dJ2_getChar_3b067_59 : decode cJ2_getChar_3b067 59 = .ok (.ireturn, 1) := by decide +kernel
theorem dJ2_length_9d52b_0 : decode cJ2_length_9d52b 0 = .ok (.aload_n 0, 1) := by decide +kernel
theorem dJ2_length_9d52b_1 : decode cJ2_length_9d52b 1 = .ok (.arraylength, 1) := by decide +kernel
theorem dJ2_length_9d52b_2 : decode cJ2_length_9d52b 2 = .ok (.iconst 1, 1) := by decide +kernel
theorem dJ2_length_9d52b_3 : decode cJ2_length_9d52b 3 = .ok (.ishr, 1) := by decide +kernel
theorem dJ2_length_9d52b_4 : decode cJ2_length_9d52b 4 = .ok (.ireturn, 1) := by decide +kernel
theorem dJ2_charAt_3b067_0 : decode cJ2_charAt_3b067 0 = .ok (.iload_n 1, 1) := by decide +kernel
theorem dJ2_charAt_3b067_1 : decode cJ2_charAt_3b067 1 = .ok (.aload_n 0, 1) := by decide +kernel
theorem dJ2_charAt_3b067_2 : decode cJ2_charAt_3b067 2 = .ok (.invokestatic 67, 3) := by decide +kernel
theorem dJ2_charAt_3b067_5 : decode cJ2_charAt_3b067 5 = .ok (.aload_n 0, 1) := by decide +kernel
theorem dJ2_charAt_3b067_6 : decode cJ2_charAt_3b067 6 = .ok (.iload_n 1, 1) := by decide +kernel
theorem dJ2_charAt_3b067_7 : decode cJ2_charAt_3b067 7 = .ok (.invokestatic 71, 3) := by decide +kernel
theorem dJ2_charAt_3b067_10 : decode cJ2_charAt_3b067 10 = .ok (.ireturn, 1) := by decide +kernel
theorem dJ2_checkIndex_2214a_0 : decode cJ2_checkIndex_2214a 0 = .ok (.iload_n 0, 1) := by decide +kernel
theorem dJ2_checkIndex_2214a_1 : decode cJ2_checkIndex_2214a 1 = .ok (.aload_n 1, 1) := by decide +kernel
theorem dJ2_checkIndex_2214a_2 : decode cJ2_checkIndex_2214a 2 = .ok (.invokestatic 48, 3) := by decide +kernel
theorem dJ2_checkIndex_2214a_5 : decode cJ2_checkIndex_2214a 5 = .ok (.invokestatic 414, 3) := by decide +kernel
theorem dJ2_checkIndex_2214a_8 : decode cJ2_checkIndex_2214a 8 = .ok (.return_, 1) := by decide +kernel
theorem dJ7_fill_53178_0 : decode cJ7_fill_53178 0 = .ok (.iconst 0, 1) := by decide +kernel
theorem dJ7_fill_53178_1 : decode cJ7_fill_53178 1 = .ok (.istore_n 2, 1) := by decide +kernel
theorem dJ7_fill_53178_2 : decode cJ7_fill_53178 2 = .ok (.aload_n 0, 1) := by decide +kernel
theorem dJ7_fill_53178_3 : decode cJ7_fill_53178 3 = .ok (.arraylength, 1) := by decide +kernel
theorem dJ7_fill_53178_4 : decode cJ7_fill_53178 4 = .ok (.istore_n 3, 1) := by decide +kernel
theorem dJ7_fill_53178_5 : decode cJ7_fill_53178 5 = .ok (.iload_n 2, 1) := by decide +kernel
theorem dJ7_fill_53178_6 : decode cJ7_fill_53178 6 = .ok (.iload_n 3, 1) := by decide +kernel
theorem dJ7_fill_53178_7 : decode cJ7_fill_53178 7 = .ok (.if_icmp .ge 13, 3) := by decide +kernel
theorem dJ7_fill_53178_10 : decode cJ7_fill_53178 10 = .ok (.aload_n 0, 1) := by decide +kernel
theorem dJ7_fill_53178_11 : decode cJ7_fill_53178 11 = .ok (.iload_n 2, 1) := by decide +kernel
theorem dJ7_fill_53178_12 : decode cJ7_fill_53178 12 = .ok (.iload_n 1, 1) := by decide +kernel
theorem dJ7_fill_53178_13 : decode cJ7_fill_53178 13 = .ok (.iastore, 1) := by decide +kernel
theorem dJ7_fill_53178_14 : decode cJ7_fill_53178 14 = .ok (.iinc 2 1, 3) := by decide +kernel
theorem dJ7_fill_53178_17 : decode cJ7_fill_53178 17 = .ok (.goto (-12), 3) := by decide +kernel
theorem dJ7_fill_53178_20 : decode cJ7_fill_53178 20 = .ok (.return_, 1) := by decide +kernel
theorem dJ3_checkIndex_8e157_0 : decode cJ3_checkIndex_8e157 0 = .ok (.iload_n 0, 1) := by decide +kernel
theorem dJ3_checkIndex_8e157_1 : decode cJ3_checkIndex_8e157 1 = .ok (.ifCond .lt 8, 3) := by decide +kernel
theorem dJ3_checkIndex_8e157_4 : decode cJ3_checkIndex_8e157 4 = .ok (.iload_n 0, 1) := by decide +kernel
theorem dJ3_checkIndex_8e157_5 : decode cJ3_checkIndex_8e157 5 = .ok (.iload_n 1, 1) := by decide +kernel
theorem dJ3_checkIndex_8e157_6 : decode cJ3_checkIndex_8e157 6 = .ok (.if_icmp .lt 10, 3) := by decide +kernel
theorem dJ3_checkIndex_8e157_9 : decode cJ3_checkIndex_8e157 9 = .ok (.aload_n 2, 1) := by decide +kernel
theorem dJ3_checkIndex_8e157_10 : decode cJ3_checkIndex_8e157 10 = .ok (.iload_n 0, 1) := by decide +kernel
theorem dJ3_checkIndex_8e157_11 : decode cJ3_checkIndex_8e157 11 = .ok (.iload_n 1, 1) := by decide +kernel
theorem dJ3_checkIndex_8e157_12 : decode cJ3_checkIndex_8e157 12 = .ok (.invokestatic 95, 3) := by decide +kernel
theorem dJ3_checkIndex_8e157_15 : decode cJ3_checkIndex_8e157 15 = .ok (.athrow, 1) := by decide +kernel
theorem dJ3_checkIndex_8e157_16 : decode cJ3_checkIndex_8e157 16 = .ok (.iload_n 0, 1) := by decide +kernel
theorem dJ3_checkIndex_8e157_17 : decode cJ3_checkIndex_8e157 17 = .ok (.ireturn, 1) := by decide +kernel
