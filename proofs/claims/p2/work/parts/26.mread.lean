theorem dX7_fails_0 : decode cX7_fails 0 = .ok (.aload_n 0, 1) := by decide +kernel
theorem dX7_fails_1 : decode cX7_fails 1 = .ok (.bipush 8, 2) := by decide +kernel
theorem dX7_fails_3 : decode cX7_fails 3 = .ok (.iload_n 2, 1) := by decide +kernel
theorem dX7_fails_4 : decode cX7_fails 4 = .ok (.imul, 1) := by decide +kernel
theorem dX7_fails_5 : decode cX7_fails 5 = .ok (.iload_n 1, 1) := by decide +kernel
theorem dX7_fails_6 : decode cX7_fails 6 = .ok (.iadd, 1) := by decide +kernel
theorem dX7_fails_7 : decode cX7_fails 7 = .ok (.putfield 324, 3) := by decide +kernel
theorem dX7_fails_10 : decode cX7_fails 10 = .ok (.iconst 0, 1) := by decide +kernel
theorem dX7_fails_11 : decode cX7_fails 11 = .ok (.ireturn, 1) := by decide +kernel
theorem dX7_byteAt_0 : decode cX7_byteAt 0 = .ok (.iload_n 1, 1) := by decide +kernel
theorem dX7_byteAt_1 : decode cX7_byteAt 1 = .ok (.aload_n 0, 1) := by decide +kernel
theorem dX7_byteAt_2 : decode cX7_byteAt 2 = .ok (.getfield 292, 3) := by decide +kernel
theorem dX7_byteAt_5 : decode cX7_byteAt 5 = .ok (.if_icmp .ge 16, 3) := by decide +kernel
theorem dX7_byteAt_8 : decode cX7_byteAt 8 = .ok (.aload_n 0, 1) := by decide +kernel
theorem dX7_byteAt_9 : decode cX7_byteAt 9 = .ok (.getfield 79, 3) := by decide +kernel
theorem dX7_byteAt_12 : decode cX7_byteAt 12 = .ok (.iload_n 1, 1) := by decide +kernel
theorem dX7_byteAt_13 : decode cX7_byteAt 13 = .ok (.baload, 1) := by decide +kernel
theorem dX7_byteAt_14 : decode cX7_byteAt 14 = .ok (.sipush 255, 3) := by decide +kernel
theorem dX7_byteAt_17 : decode cX7_byteAt 17 = .ok (.iand, 1) := by decide +kernel
theorem dX7_byteAt_18 : decode cX7_byteAt 18 = .ok (.goto 4, 3) := by decide +kernel
theorem dX7_byteAt_21 : decode cX7_byteAt 21 = .ok (.iconst (-1), 1) := by decide +kernel
theorem dX7_byteAt_22 : decode cX7_byteAt 22 = .ok (.ireturn, 1) := by decide +kernel
theorem dX7_nextByte_0 : decode cX7_nextByte 0 = .ok (.aload_n 0, 1) := by decide +kernel
theorem dX7_nextByte_1 : decode cX7_nextByte 1 = .ok (.aload_n 0, 1) := by decide +kernel
theorem dX7_nextByte_2 : decode cX7_nextByte 2 = .ok (.getfield 318, 3) := by decide +kernel
theorem dX7_nextByte_5 : decode cX7_nextByte 5 = .ok (.invokevirtual 321, 3) := by decide +kernel
theorem dX7_nextByte_8 : decode cX7_nextByte 8 = .ok (.bipush 32, 2) := by decide +kernel
theorem dX7_nextByte_10 : decode cX7_nextByte 10 = .ok (.if_icmp .ne 16, 3) := by decide +kernel
theorem dX7_nextByte_13 : decode cX7_nextByte 13 = .ok (.aload_n 0, 1) := by decide +kernel
theorem dX7_nextByte_14 : decode cX7_nextByte 14 = .ok (.dup, 1) := by decide +kernel
theorem dX7_nextByte_15 : decode cX7_nextByte 15 = .ok (.getfield 318, 3) := by decide +kernel
theorem dX7_nextByte_18 : decode cX7_nextByte 18 = .ok (.iconst 1, 1) := by decide +kernel
theorem dX7_nextByte_19 : decode cX7_nextByte 19 = .ok (.iadd, 1) := by decide +kernel
theorem dX7_nextByte_20 : decode cX7_nextByte 20 = .ok (.putfield 318, 3) := by decide +kernel
theorem dX7_nextByte_23 : decode cX7_nextByte 23 = .ok (.goto (-23), 3) := by decide +kernel
theorem dX7_nextByte_26 : decode cX7_nextByte 26 = .ok (.aload_n 0, 1) := by decide +kernel
theorem dX7_nextByte_27 : decode cX7_nextByte 27 = .ok (.aload_n 0, 1) := by decide +kernel
theorem dX7_nextByte_28 : decode cX7_nextByte 28 = .ok (.getfield 318, 3) := by decide +kernel
theorem dX7_nextByte_31 : decode cX7_nextByte 31 = .ok (.invokevirtual 321, 3) := by decide +kernel
theorem dX7_nextByte_34 : decode cX7_nextByte 34 = .ok (.ireturn, 1) := by decide +kernel
theorem dX7_isWord_0 : decode cX7_isWord 0 = .ok (.aload_n 0, 1) := by decide +kernel
theorem dX7_isWord_1 : decode cX7_isWord 1 = .ok (.invokevirtual 327, 3) := by decide +kernel
theorem dX7_isWord_4 : decode cX7_isWord 4 = .ok (.iconst (-1), 1) := by decide +kernel
theorem dX7_isWord_5 : decode cX7_isWord 5 = .ok (.if_icmp .ne 10, 3) := by decide +kernel
theorem dX7_isWord_8 : decode cX7_isWord 8 = .ok (.aload_n 0, 1) := by decide +kernel
theorem dX7_isWord_9 : decode cX7_isWord 9 = .ok (.getfield 292, 3) := by decide +kernel
theorem dX7_isWord_12 : decode cX7_isWord 12 = .ok (.goto 7, 3) := by decide +kernel
theorem dX7_isWord_15 : decode cX7_isWord 15 = .ok (.aload_n 0, 1) := by decide +kernel
theorem dX7_isWord_16 : decode cX7_isWord 16 = .ok (.getfield 318, 3) := by decide +kernel
theorem dX7_isWord_19 : decode cX7_isWord 19 = .ok (.istore_n 2, 1) := by decide +kernel
theorem dX7_isWord_20 : decode cX7_isWord 20 = .ok (.iconst 0, 1) := by decide +kernel
theorem dX7_isWord_21 : decode cX7_isWord 21 = .ok (.istore_n 3, 1) := by decide +kernel
theorem dX7_isWord_22 : decode cX7_isWord 22 = .ok (.iload_n 3, 1) := by decide +kernel
theorem dX7_isWord_23 : decode cX7_isWord 23 = .ok (.aload_n 1, 1) := by decide +kernel
theorem dX7_isWord_24 : decode cX7_isWord 24 = .ok (.invokevirtual 330, 3) := by decide +kernel
theorem dX7_isWord_27 : decode cX7_isWord 27 = .ok (.if_icmp .ge 24, 3) := by decide +kernel
theorem dX7_isWord_30 : decode cX7_isWord 30 = .ok (.aload_n 0, 1) := by decide +kernel
theorem dX7_isWord_31 : decode cX7_isWord 31 = .ok (.iload_n 2, 1) := by decide +kernel
theorem dX7_isWord_32 : decode cX7_isWord 32 = .ok (.iload_n 3, 1) := by decide +kernel
theorem dX7_isWord_33 : decode cX7_isWord 33 = .ok (.iadd, 1) := by decide +kernel
theorem dX7_isWord_34 : decode cX7_isWord 34 = .ok (.invokevirtual 321, 3) := by decide +kernel
theorem dX7_isWord_37 : decode cX7_isWord 37 = .ok (.aload_n 1, 1) := by decide +kernel
theorem dX7_isWord_38 : decode cX7_isWord 38 = .ok (.iload_n 3, 1) := by decide +kernel
theorem dX7_isWord_39 : decode cX7_isWord 39 = .ok (.invokevirtual 335, 3) := by decide +kernel
theorem dX7_isWord_42 : decode cX7_isWord 42 = .ok (.if_icmp .ne 9, 3) := by decide +kernel
theorem dX7_isWord_45 : decode cX7_isWord 45 = .ok (.iinc 3 1, 3) := by decide +kernel
theorem dX7_isWord_48 : decode cX7_isWord 48 = .ok (.goto (-26), 3) := by decide +kernel
theorem dX7_isWord_51 : decode cX7_isWord 51 = .ok (.iload_n 3, 1) := by decide +kernel
theorem dX7_isWord_52 : decode cX7_isWord 52 = .ok (.aload_n 1, 1) := by decide +kernel
theorem dX7_isWord_53 : decode cX7_isWord 53 = .ok (.invokevirtual 330, 3) := by decide +kernel
theorem dX7_isWord_56 : decode cX7_isWord 56 = .ok (.if_icmp .ne 27, 3) := by decide +kernel
theorem dX7_isWord_59 : decode cX7_isWord 59 = .ok (.aload_n 0, 1) := by decide +kernel
theorem dX7_isWord_60 : decode cX7_isWord 60 = .ok (.iload_n 2, 1) := by decide +kernel
theorem dX7_isWord_61 : decode cX7_isWord 61 = .ok (.iload_n 3, 1) := by decide +kernel
theorem dX7_isWord_62 : decode cX7_isWord 62 = .ok (.iadd, 1) := by decide +kernel
theorem dX7_isWord_63 : decode cX7_isWord 63 = .ok (.invokevirtual 321, 3) := by decide +kernel
theorem dX7_isWord_66 : decode cX7_isWord 66 = .ok (.i2l, 1) := by decide +kernel
theorem dX7_isWord_67 : decode cX7_isWord 67 = .ok (.ldc2_w 339, 3) := by decide +kernel
theorem dX7_isWord_70 : decode cX7_isWord 70 = .ok (.ldc2_w 341, 3) := by decide +kernel
theorem dX7_isWord_73 : decode cX7_isWord 73 = .ok (.invokestatic 96, 3) := by decide +kernel
theorem dX7_isWord_76 : decode cX7_isWord 76 = .ok (.ifCond .ne 7, 3) := by decide +kernel
theorem dX7_isWord_79 : decode cX7_isWord 79 = .ok (.iconst 1, 1) := by decide +kernel
theorem dX7_isWord_80 : decode cX7_isWord 80 = .ok (.goto 4, 3) := by decide +kernel
theorem dX7_isWord_83 : decode cX7_isWord 83 = .ok (.iconst 0, 1) := by decide +kernel
theorem dX7_isWord_84 : decode cX7_isWord 84 = .ok (.ireturn, 1) := by decide +kernel
theorem dX7_takesWord_0 : decode cX7_takesWord 0 = .ok (.aload_n 0, 1) := by decide +kernel
theorem dX7_takesWord_1 : decode cX7_takesWord 1 = .ok (.aload_n 1, 1) := by decide +kernel
theorem dX7_takesWord_2 : decode cX7_takesWord 2 = .ok (.invokevirtual 343, 3) := by decide +kernel
theorem dX7_takesWord_5 : decode cX7_takesWord 5 = .ok (.istore_n 2, 1) := by decide +kernel
theorem dX7_takesWord_6 : decode cX7_takesWord 6 = .ok (.iload_n 2, 1) := by decide +kernel
theorem dX7_takesWord_7 : decode cX7_takesWord 7 = .ok (.ifCond .eq 16, 3) := by decide +kernel
theorem dX7_takesWord_10 : decode cX7_takesWord 10 = .ok (.aload_n 0, 1) := by decide +kernel
theorem dX7_takesWord_11 : decode cX7_takesWord 11 = .ok (.dup, 1) := by decide +kernel
theorem dX7_takesWord_12 : decode cX7_takesWord 12 = .ok (.getfield 318, 3) := by decide +kernel
theorem dX7_takesWord_15 : decode cX7_takesWord 15 = .ok (.aload_n 1, 1) := by decide +kernel
theorem dX7_takesWord_16 : decode cX7_takesWord 16 = .ok (.invokevirtual 330, 3) := by decide +kernel
theorem dX7_takesWord_19 : decode cX7_takesWord 19 = .ok (.iadd, 1) := by decide +kernel
theorem dX7_takesWord_20 : decode cX7_takesWord 20 = .ok (.putfield 318, 3) := by decide +kernel
theorem dX7_takesWord_23 : decode cX7_takesWord 23 = .ok (.iload_n 2, 1) := by decide +kernel
theorem dX7_takesWord_24 : decode cX7_takesWord 24 = .ok (.ireturn, 1) := by decide +kernel
theorem dX7_mustWord_0 : decode cX7_mustWord 0 = .ok (.aload_n 0, 1) := by decide +kernel
theorem dX7_mustWord_1 : decode cX7_mustWord 1 = .ok (.aload_n 1, 1) := by decide +kernel
theorem dX7_mustWord_2 : decode cX7_mustWord 2 = .ok (.invokevirtual 347, 3) := by decide +kernel
theorem dX7_mustWord_5 : decode cX7_mustWord 5 = .ok (.ifCond .ne 15, 3) := by decide +kernel
theorem dX7_mustWord_8 : decode cX7_mustWord 8 = .ok (.aload_n 0, 1) := by decide +kernel
theorem dX7_mustWord_9 : decode cX7_mustWord 9 = .ok (.iconst 1, 1) := by decide +kernel
theorem dX7_mustWord_10 : decode cX7_mustWord 10 = .ok (.aload_n 0, 1) := by decide +kernel
theorem dX7_mustWord_11 : decode cX7_mustWord 11 = .ok (.getfield 318, 3) := by decide +kernel
theorem dX7_mustWord_14 : decode cX7_mustWord 14 = .ok (.invokevirtual 350, 3) := by decide +kernel
theorem dX7_mustWord_17 : decode cX7_mustWord 17 = .ok (.ifCond .eq 7, 3) := by decide +kernel
theorem dX7_mustWord_20 : decode cX7_mustWord 20 = .ok (.iconst 1, 1) := by decide +kernel
theorem dX7_mustWord_21 : decode cX7_mustWord 21 = .ok (.goto 4, 3) := by decide +kernel
theorem dX7_mustWord_24 : decode cX7_mustWord 24 = .ok (.iconst 0, 1) := by decide +kernel
theorem dX7_mustWord_25 : decode cX7_mustWord 25 = .ok (.ireturn, 1) := by decide +kernel
theorem dX7_readsNumber_0 : decode cX7_readsNumber 0 = .ok (.aload_n 0, 1) := by decide +kernel
theorem dX7_readsNumber_1 : decode cX7_readsNumber 1 = .ok (.invokevirtual 327, 3) := by decide +kernel
theorem dX7_readsNumber_4 : decode cX7_readsNumber 4 = .ok (.i2l, 1) := by decide +kernel
theorem dX7_readsNumber_5 : decode cX7_readsNumber 5 = .ok (.ldc2_w 353, 3) := by decide +kernel
theorem dX7_readsNumber_8 : decode cX7_readsNumber 8 = .ok (.ldc2_w 355, 3) := by decide +kernel
theorem dX7_readsNumber_11 : decode cX7_readsNumber 11 = .ok (.invokestatic 96, 3) := by decide +kernel
theorem dX7_readsNumber_14 : decode cX7_readsNumber 14 = .ok (.ifCond .ne 13, 3) := by decide +kernel
theorem dX7_readsNumber_17 : decode cX7_readsNumber 17 = .ok (.aload_n 0, 1) := by decide +kernel
theorem dX7_readsNumber_18 : decode cX7_readsNumber 18 = .ok (.iconst 1, 1) := by decide +kernel
theorem dX7_readsNumber_19 : decode cX7_readsNumber 19 = .ok (.aload_n 0, 1) := by decide +kernel
theorem dX7_readsNumber_20 : decode cX7_readsNumber 20 = .ok (.getfield 318, 3) := by decide +kernel
theorem dX7_readsNumber_23 : decode cX7_readsNumber 23 = .ok (.invokevirtual 350, 3) := by decide +kernel
theorem dX7_readsNumber_26 : decode cX7_readsNumber 26 = .ok (.ireturn, 1) := by decide +kernel
theorem dX7_readsNumber_27 : decode cX7_readsNumber 27 = .ok (.aload_n 0, 1) := by decide +kernel
theorem dX7_readsNumber_28 : decode cX7_readsNumber 28 = .ok (.aload_n 0, 1) := by decide +kernel
theorem dX7_readsNumber_29 : decode cX7_readsNumber 29 = .ok (.getfield 318, 3) := by decide +kernel
theorem dX7_readsNumber_32 : decode cX7_readsNumber 32 = .ok (.putfield 357, 3) := by decide +kernel
theorem dX7_readsNumber_35 : decode cX7_readsNumber 35 = .ok (.aload_n 0, 1) := by decide +kernel
theorem dX7_readsNumber_36 : decode cX7_readsNumber 36 = .ok (.iconst 0, 1) := by decide +kernel
theorem dX7_readsNumber_37 : decode cX7_readsNumber 37 = .ok (.putfield 360, 3) := by decide +kernel
theorem dX7_readsNumber_40 : decode cX7_readsNumber 40 = .ok (.aload_n 0, 1) := by decide +kernel
theorem dX7_readsNumber_41 : decode cX7_readsNumber 41 = .ok (.aload_n 0, 1) := by decide +kernel
theorem dX7_readsNumber_42 : decode cX7_readsNumber 42 = .ok (.getfield 318, 3) := by decide +kernel
theorem dX7_readsNumber_45 : decode cX7_readsNumber 45 = .ok (.invokevirtual 321, 3) := by decide +kernel
theorem dX7_readsNumber_48 : decode cX7_readsNumber 48 = .ok (.i2l, 1) := by decide +kernel
theorem dX7_readsNumber_49 : decode cX7_readsNumber 49 = .ok (.ldc2_w 353, 3) := by decide +kernel
theorem dX7_readsNumber_52 : decode cX7_readsNumber 52 = .ok (.ldc2_w 355, 3) := by decide +kernel
theorem dX7_readsNumber_55 : decode cX7_readsNumber 55 = .ok (.invokestatic 96, 3) := by decide +kernel
theorem dX7_readsNumber_58 : decode cX7_readsNumber 58 = .ok (.ifCond .eq 49, 3) := by decide +kernel
theorem dX7_readsNumber_61 : decode cX7_readsNumber 61 = .ok (.aload_n 0, 1) := by decide +kernel
theorem dX7_readsNumber_62 : decode cX7_readsNumber 62 = .ok (.getfield 360, 3) := by decide +kernel
theorem dX7_readsNumber_65 : decode cX7_readsNumber 65 = .ok (.ldc_w 363, 3) := by decide +kernel
theorem dX7_readsNumber_68 : decode cX7_readsNumber 68 = .ok (.if_icmp .ge 26, 3) := by decide +kernel
theorem dX7_readsNumber_71 : decode cX7_readsNumber 71 = .ok (.aload_n 0, 1) := by decide +kernel
theorem dX7_readsNumber_72 : decode cX7_readsNumber 72 = .ok (.bipush 10, 2) := by decide +kernel
theorem dX7_readsNumber_74 : decode cX7_readsNumber 74 = .ok (.aload_n 0, 1) := by decide +kernel
theorem dX7_readsNumber_75 : decode cX7_readsNumber 75 = .ok (.getfield 360, 3) := by decide +kernel
theorem dX7_readsNumber_78 : decode cX7_readsNumber 78 = .ok (.imul, 1) := by decide +kernel
theorem dX7_readsNumber_79 : decode cX7_readsNumber 79 = .ok (.aload_n 0, 1) := by decide +kernel
theorem dX7_readsNumber_80 : decode cX7_readsNumber 80 = .ok (.aload_n 0, 1) := by decide +kernel
theorem dX7_readsNumber_81 : decode cX7_readsNumber 81 = .ok (.getfield 318, 3) := by decide +kernel
theorem dX7_readsNumber_84 : decode cX7_readsNumber 84 = .ok (.invokevirtual 321, 3) := by decide +kernel
theorem dX7_readsNumber_87 : decode cX7_readsNumber 87 = .ok (.iadd, 1) := by decide +kernel
theorem dX7_readsNumber_88 : decode cX7_readsNumber 88 = .ok (.bipush 48, 2) := by decide +kernel
theorem dX7_readsNumber_90 : decode cX7_readsNumber 90 = .ok (.isub, 1) := by decide +kernel
theorem dX7_readsNumber_91 : decode cX7_readsNumber 91 = .ok (.putfield 360, 3) := by decide +kernel
theorem dX7_readsNumber_94 : decode cX7_readsNumber 94 = .ok (.aload_n 0, 1) := by decide +kernel
theorem dX7_readsNumber_95 : decode cX7_readsNumber 95 = .ok (.dup, 1) := by decide +kernel
theorem dX7_readsNumber_96 : decode cX7_readsNumber 96 = .ok (.getfield 318, 3) := by decide +kernel
theorem dX7_readsNumber_99 : decode cX7_readsNumber 99 = .ok (.iconst 1, 1) := by decide +kernel
theorem dX7_readsNumber_100 : decode cX7_readsNumber 100 = .ok (.iadd, 1) := by decide +kernel
theorem dX7_readsNumber_101 : decode cX7_readsNumber 101 = .ok (.putfield 318, 3) := by decide +kernel
theorem dX7_readsNumber_104 : decode cX7_readsNumber 104 = .ok (.goto (-64), 3) := by decide +kernel
theorem dX7_readsNumber_107 : decode cX7_readsNumber 107 = .ok (.aload_n 0, 1) := by decide +kernel
theorem dX7_readsNumber_108 : decode cX7_readsNumber 108 = .ok (.getfield 360, 3) := by decide +kernel
theorem dX7_readsNumber_111 : decode cX7_readsNumber 111 = .ok (.i2l, 1) := by decide +kernel
theorem dX7_readsNumber_112 : decode cX7_readsNumber 112 = .ok (.iload_n 1, 1) := by decide +kernel
theorem dX7_readsNumber_113 : decode cX7_readsNumber 113 = .ok (.i2l, 1) := by decide +kernel
theorem dX7_readsNumber_114 : decode cX7_readsNumber 114 = .ok (.iload_n 2, 1) := by decide +kernel
theorem dX7_readsNumber_115 : decode cX7_readsNumber 115 = .ok (.i2l, 1) := by decide +kernel
theorem dX7_readsNumber_116 : decode cX7_readsNumber 116 = .ok (.invokestatic 96, 3) := by decide +kernel
theorem dX7_readsNumber_119 : decode cX7_readsNumber 119 = .ok (.ifCond .ne 15, 3) := by decide +kernel
theorem dX7_readsNumber_122 : decode cX7_readsNumber 122 = .ok (.aload_n 0, 1) := by decide +kernel
theorem dX7_readsNumber_123 : decode cX7_readsNumber 123 = .ok (.iconst 2, 1) := by decide +kernel
theorem dX7_readsNumber_124 : decode cX7_readsNumber 124 = .ok (.aload_n 0, 1) := by decide +kernel
theorem dX7_readsNumber_125 : decode cX7_readsNumber 125 = .ok (.getfield 357, 3) := by decide +kernel
theorem dX7_readsNumber_128 : decode cX7_readsNumber 128 = .ok (.invokevirtual 350, 3) := by decide +kernel
theorem dX7_readsNumber_131 : decode cX7_readsNumber 131 = .ok (.ifCond .eq 7, 3) := by decide +kernel
theorem dX7_readsNumber_134 : decode cX7_readsNumber 134 = .ok (.iconst 1, 1) := by decide +kernel
theorem dX7_readsNumber_135 : decode cX7_readsNumber 135 = .ok (.goto 4, 3) := by decide +kernel
theorem dX7_readsNumber_138 : decode cX7_readsNumber 138 = .ok (.iconst 0, 1) := by decide +kernel
theorem dX7_readsNumber_139 : decode cX7_readsNumber 139 = .ok (.ireturn, 1) := by decide +kernel
theorem dX7_readsTo_0 : decode cX7_readsTo 0 = .ok (.aload_n 0, 1) := by decide +kernel
theorem dX7_readsTo_1 : decode cX7_readsTo 1 = .ok (.iload_n 2, 1) := by decide +kernel
theorem dX7_readsTo_2 : decode cX7_readsTo 2 = .ok (.iload_n 3, 1) := by decide +kernel
theorem dX7_readsTo_3 : decode cX7_readsTo 3 = .ok (.invokevirtual 364, 3) := by decide +kernel
theorem dX7_readsTo_6 : decode cX7_readsTo 6 = .ok (.ifCond .ne 5, 3) := by decide +kernel
theorem dX7_readsTo_9 : decode cX7_readsTo 9 = .ok (.iconst 0, 1) := by decide +kernel
theorem dX7_readsTo_10 : decode cX7_readsTo 10 = .ok (.ireturn, 1) := by decide +kernel
theorem dX7_readsTo_11 : decode cX7_readsTo 11 = .ok (.aload_n 0, 1) := by decide +kernel
theorem dX7_readsTo_12 : decode cX7_readsTo 12 = .ok (.getfield 83, 3) := by decide +kernel
theorem dX7_readsTo_15 : decode cX7_readsTo 15 = .ok (.iload_n 1, 1) := by decide +kernel
theorem dX7_readsTo_16 : decode cX7_readsTo 16 = .ok (.aload_n 0, 1) := by decide +kernel
theorem dX7_readsTo_17 : decode cX7_readsTo 17 = .ok (.getfield 360, 3) := by decide +kernel
theorem dX7_readsTo_20 : decode cX7_readsTo 20 = .ok (.iastore, 1) := by decide +kernel
theorem dX7_readsTo_21 : decode cX7_readsTo 21 = .ok (.iconst 1, 1) := by decide +kernel
theorem dX7_readsTo_22 : decode cX7_readsTo 22 = .ok (.ireturn, 1) := by decide +kernel
theorem dX7_begins_0 : decode cX7_begins 0 = .ok (.aload_n 0, 1) := by decide +kernel
theorem dX7_begins_1 : decode cX7_begins 1 = .ok (.getfield 83, 3) := by decide +kernel
theorem dX7_begins_4 : decode cX7_begins 4 = .ok (.iload_n 2, 1) := by decide +kernel
theorem dX7_begins_5 : decode cX7_begins 5 = .ok (.iaload, 1) := by decide +kernel
theorem dX7_begins_6 : decode cX7_begins 6 = .ok (.iload_n 3, 1) := by decide +kernel
theorem dX7_begins_7 : decode cX7_begins 7 = .ok (.if_icmp .ne 13, 3) := by decide +kernel
theorem dX7_begins_10 : decode cX7_begins 10 = .ok (.aload_n 0, 1) := by decide +kernel
theorem dX7_begins_11 : decode cX7_begins 11 = .ok (.iconst 3, 1) := by decide +kernel
theorem dX7_begins_12 : decode cX7_begins 12 = .ok (.aload_n 0, 1) := by decide +kernel
theorem dX7_begins_13 : decode cX7_begins 13 = .ok (.getfield 318, 3) := by decide +kernel
theorem dX7_begins_16 : decode cX7_begins 16 = .ok (.invokevirtual 350, 3) := by decide +kernel
theorem dX7_begins_19 : decode cX7_begins 19 = .ok (.ireturn, 1) := by decide +kernel
theorem dX7_begins_20 : decode cX7_begins 20 = .ok (.aload_n 0, 1) := by decide +kernel
theorem dX7_begins_21 : decode cX7_begins 21 = .ok (.dup, 1) := by decide +kernel
theorem dX7_begins_22 : decode cX7_begins 22 = .ok (.getfield 318, 3) := by decide +kernel
theorem dX7_begins_25 : decode cX7_begins 25 = .ok (.aload_n 1, 1) := by decide +kernel
theorem dX7_begins_26 : decode cX7_begins 26 = .ok (.invokevirtual 330, 3) := by decide +kernel
theorem dX7_begins_29 : decode cX7_begins 29 = .ok (.iadd, 1) := by decide +kernel
theorem dX7_begins_30 : decode cX7_begins 30 = .ok (.putfield 318, 3) := by decide +kernel
theorem dX7_begins_33 : decode cX7_begins 33 = .ok (.iconst 1, 1) := by decide +kernel
theorem dX7_begins_34 : decode cX7_begins 34 = .ok (.ireturn, 1) := by decide +kernel
theorem dX7_readsReachOf_0 : decode cX7_readsReachOf 0 = .ok (.aload_n 0, 1) := by decide +kernel
theorem dX7_readsReachOf_1 : decode cX7_readsReachOf 1 = .ok (.iload_n 1, 1) := by decide +kernel
theorem dX7_readsReachOf_2 : decode cX7_readsReachOf 2 = .ok (.iconst 0, 1) := by decide +kernel
theorem dX7_readsReachOf_3 : decode cX7_readsReachOf 3 = .ok (.aload_n 0, 1) := by decide +kernel
theorem dX7_readsReachOf_4 : decode cX7_readsReachOf 4 = .ok (.getfield 83, 3) := by decide +kernel
theorem dX7_readsReachOf_7 : decode cX7_readsReachOf 7 = .ok (.iconst 0, 1) := by decide +kernel
theorem dX7_readsReachOf_8 : decode cX7_readsReachOf 8 = .ok (.iaload, 1) := by decide +kernel
theorem dX7_readsReachOf_9 : decode cX7_readsReachOf 9 = .ok (.iconst 1, 1) := by decide +kernel
theorem dX7_readsReachOf_10 : decode cX7_readsReachOf 10 = .ok (.isub, 1) := by decide +kernel
theorem dX7_readsReachOf_11 : decode cX7_readsReachOf 11 = .ok (.invokevirtual 367, 3) := by decide +kernel
theorem dX7_readsReachOf_14 : decode cX7_readsReachOf 14 = .ok (.ireturn, 1) := by decide +kernel
theorem dX7_readsAge_0 : decode cX7_readsAge 0 = .ok (.aload_n 0, 1) := by decide +kernel
theorem dX7_readsAge_1 : decode cX7_readsAge 1 = .ok (.ldc_w 383, 3) := by decide +kernel
theorem dX7_readsAge_4 : decode cX7_readsAge 4 = .ok (.invokevirtual 385, 3) := by decide +kernel
theorem dX7_readsAge_7 : decode cX7_readsAge 7 = .ok (.ifCond .eq 14, 3) := by decide +kernel
theorem dX7_readsAge_10 : decode cX7_readsAge 10 = .ok (.aload_n 0, 1) := by decide +kernel
theorem dX7_readsAge_11 : decode cX7_readsAge 11 = .ok (.iconst 0, 1) := by decide +kernel
theorem dX7_readsAge_12 : decode cX7_readsAge 12 = .ok (.sipush 9999, 3) := by decide +kernel
theorem dX7_readsAge_15 : decode cX7_readsAge 15 = .ok (.invokevirtual 364, 3) := by decide +kernel
theorem dX7_readsAge_18 : decode cX7_readsAge 18 = .ok (.ifCond .ne 5, 3) := by decide +kernel
theorem dX7_readsAge_21 : decode cX7_readsAge 21 = .ok (.iconst 0, 1) := by decide +kernel
theorem dX7_readsAge_22 : decode cX7_readsAge 22 = .ok (.ireturn, 1) := by decide +kernel
theorem dX7_readsAge_23 : decode cX7_readsAge 23 = .ok (.iconst 0, 1) := by decide +kernel
theorem dX7_readsAge_24 : decode cX7_readsAge 24 = .ok (.istore_n 2, 1) := by decide +kernel
theorem dX7_readsAge_25 : decode cX7_readsAge 25 = .ok (.iload_n 2, 1) := by decide +kernel
theorem dX7_readsAge_26 : decode cX7_readsAge 26 = .ok (.aload_n 0, 1) := by decide +kernel
theorem dX7_readsAge_27 : decode cX7_readsAge 27 = .ok (.getfield 83, 3) := by decide +kernel
theorem dX7_readsAge_30 : decode cX7_readsAge 30 = .ok (.iconst 1, 1) := by decide +kernel
theorem dX7_readsAge_31 : decode cX7_readsAge 31 = .ok (.iaload, 1) := by decide +kernel
theorem dX7_readsAge_32 : decode cX7_readsAge 32 = .ok (.if_icmp .ge 40, 3) := by decide +kernel
theorem dX7_readsAge_35 : decode cX7_readsAge 35 = .ok (.aload_n 0, 1) := by decide +kernel
theorem dX7_readsAge_36 : decode cX7_readsAge 36 = .ok (.getfield 83, 3) := by decide +kernel
theorem dX7_readsAge_39 : decode cX7_readsAge 39 = .ok (.bipush 78, 2) := by decide +kernel
theorem dX7_readsAge_41 : decode cX7_readsAge 41 = .ok (.bipush 13, 2) := by decide +kernel
theorem dX7_readsAge_43 : decode cX7_readsAge 43 = .ok (.iload_n 2, 1) := by decide +kernel
theorem dX7_readsAge_44 : decode cX7_readsAge 44 = .ok (.imul, 1) := by decide +kernel
theorem dX7_readsAge_45 : decode cX7_readsAge 45 = .ok (.iadd, 1) := by decide +kernel
theorem dX7_readsAge_46 : decode cX7_readsAge 46 = .ok (.iconst 4, 1) := by decide +kernel
theorem dX7_readsAge_47 : decode cX7_readsAge 47 = .ok (.iadd, 1) := by decide +kernel
theorem dX7_readsAge_48 : decode cX7_readsAge 48 = .ok (.iaload, 1) := by decide +kernel
theorem dX7_readsAge_49 : decode cX7_readsAge 49 = .ok (.aload_n 0, 1) := by decide +kernel
theorem dX7_readsAge_50 : decode cX7_readsAge 50 = .ok (.getfield 360, 3) := by decide +kernel
theorem dX7_readsAge_53 : decode cX7_readsAge 53 = .ok (.if_icmp .ne 13, 3) := by decide +kernel
theorem dX7_readsAge_56 : decode cX7_readsAge 56 = .ok (.aload_n 0, 1) := by decide +kernel
theorem dX7_readsAge_57 : decode cX7_readsAge 57 = .ok (.iconst 2, 1) := by decide +kernel
theorem dX7_readsAge_58 : decode cX7_readsAge 58 = .ok (.aload_n 0, 1) := by decide +kernel
theorem dX7_readsAge_59 : decode cX7_readsAge 59 = .ok (.getfield 357, 3) := by decide +kernel
theorem dX7_readsAge_62 : decode cX7_readsAge 62 = .ok (.invokevirtual 350, 3) := by decide +kernel
theorem dX7_readsAge_65 : decode cX7_readsAge 65 = .ok (.ireturn, 1) := by decide +kernel
theorem dX7_readsAge_66 : decode cX7_readsAge 66 = .ok (.iinc 2 1, 3) := by decide +kernel
theorem dX7_readsAge_69 : decode cX7_readsAge 69 = .ok (.goto (-44), 3) := by decide +kernel
theorem dX7_readsAge_72 : decode cX7_readsAge 72 = .ok (.iconst 0, 1) := by decide +kernel
theorem dX7_readsAge_73 : decode cX7_readsAge 73 = .ok (.istore_n 2, 1) := by decide +kernel
theorem dX7_readsAge_74 : decode cX7_readsAge 74 = .ok (.iload_n 2, 1) := by decide +kernel
theorem dX7_readsAge_75 : decode cX7_readsAge 75 = .ok (.aload_n 0, 1) := by decide +kernel
theorem dX7_readsAge_76 : decode cX7_readsAge 76 = .ok (.getfield 83, 3) := by decide +kernel
theorem dX7_readsAge_79 : decode cX7_readsAge 79 = .ok (.iconst 2, 1) := by decide +kernel
theorem dX7_readsAge_80 : decode cX7_readsAge 80 = .ok (.iaload, 1) := by decide +kernel
theorem dX7_readsAge_81 : decode cX7_readsAge 81 = .ok (.if_icmp .ge 41, 3) := by decide +kernel
theorem dX7_readsAge_84 : decode cX7_readsAge 84 = .ok (.aload_n 0, 1) := by decide +kernel
theorem dX7_readsAge_85 : decode cX7_readsAge 85 = .ok (.getfield 83, 3) := by decide +kernel
theorem dX7_readsAge_88 : decode cX7_readsAge 88 = .ok (.sipush 260, 3) := by decide +kernel
theorem dX7_readsAge_91 : decode cX7_readsAge 91 = .ok (.bipush 7, 2) := by decide +kernel
theorem dX7_readsAge_93 : decode cX7_readsAge 93 = .ok (.iload_n 2, 1) := by decide +kernel
theorem dX7_readsAge_94 : decode cX7_readsAge 94 = .ok (.imul, 1) := by decide +kernel
theorem dX7_readsAge_95 : decode cX7_readsAge 95 = .ok (.iadd, 1) := by decide +kernel
theorem dX7_readsAge_96 : decode cX7_readsAge 96 = .ok (.iconst 3, 1) := by decide +kernel
theorem dX7_readsAge_97 : decode cX7_readsAge 97 = .ok (.iadd, 1) := by decide +kernel
theorem dX7_readsAge_98 : decode cX7_readsAge 98 = .ok (.iaload, 1) := by decide +kernel
theorem dX7_readsAge_99 : decode cX7_readsAge 99 = .ok (.aload_n 0, 1) := by decide +kernel
theorem dX7_readsAge_100 : decode cX7_readsAge 100 = .ok (.getfield 360, 3) := by decide +kernel
theorem dX7_readsAge_103 : decode cX7_readsAge 103 = .ok (.if_icmp .ne 13, 3) := by decide +kernel
theorem dX7_readsAge_106 : decode cX7_readsAge 106 = .ok (.aload_n 0, 1) := by decide +kernel
theorem dX7_readsAge_107 : decode cX7_readsAge 107 = .ok (.iconst 2, 1) := by decide +kernel
theorem dX7_readsAge_108 : decode cX7_readsAge 108 = .ok (.aload_n 0, 1) := by decide +kernel
theorem dX7_readsAge_109 : decode cX7_readsAge 109 = .ok (.getfield 357, 3) := by decide +kernel
theorem dX7_readsAge_112 : decode cX7_readsAge 112 = .ok (.invokevirtual 350, 3) := by decide +kernel
theorem dX7_readsAge_115 : decode cX7_readsAge 115 = .ok (.ireturn, 1) := by decide +kernel
theorem dX7_readsAge_116 : decode cX7_readsAge 116 = .ok (.iinc 2 1, 3) := by decide +kernel
theorem dX7_readsAge_119 : decode cX7_readsAge 119 = .ok (.goto (-45), 3) := by decide +kernel
theorem dX7_readsAge_122 : decode cX7_readsAge 122 = .ok (.aload_n 0, 1) := by decide +kernel
theorem dX7_readsAge_123 : decode cX7_readsAge 123 = .ok (.getfield 83, 3) := by decide +kernel
theorem dX7_readsAge_126 : decode cX7_readsAge 126 = .ok (.iload_n 1, 1) := by decide +kernel
theorem dX7_readsAge_127 : decode cX7_readsAge 127 = .ok (.aload_n 0, 1) := by decide +kernel
theorem dX7_readsAge_128 : decode cX7_readsAge 128 = .ok (.getfield 360, 3) := by decide +kernel
theorem dX7_readsAge_131 : decode cX7_readsAge 131 = .ok (.iastore, 1) := by decide +kernel
theorem dX7_readsAge_132 : decode cX7_readsAge 132 = .ok (.iconst 1, 1) := by decide +kernel
theorem dX7_readsAge_133 : decode cX7_readsAge 133 = .ok (.ireturn, 1) := by decide +kernel
theorem dX7_readsBack_0 : decode cX7_readsBack 0 = .ok (.aload_n 0, 1) := by decide +kernel
theorem dX7_readsBack_1 : decode cX7_readsBack 1 = .ok (.getfield 83, 3) := by decide +kernel
theorem dX7_readsBack_4 : decode cX7_readsBack 4 = .ok (.iload_n 1, 1) := by decide +kernel
theorem dX7_readsBack_5 : decode cX7_readsBack 5 = .ok (.bipush 7, 2) := by decide +kernel
theorem dX7_readsBack_7 : decode cX7_readsBack 7 = .ok (.iadd, 1) := by decide +kernel
theorem dX7_readsBack_8 : decode cX7_readsBack 8 = .ok (.bipush (-2), 2) := by decide +kernel
theorem dX7_readsBack_10 : decode cX7_readsBack 10 = .ok (.iastore, 1) := by decide +kernel
theorem dX7_readsBack_11 : decode cX7_readsBack 11 = .ok (.aload_n 0, 1) := by decide +kernel
theorem dX7_readsBack_12 : decode cX7_readsBack 12 = .ok (.ldc_w 388, 3) := by decide +kernel
theorem dX7_readsBack_15 : decode cX7_readsBack 15 = .ok (.invokevirtual 347, 3) := by decide +kernel
theorem dX7_readsBack_18 : decode cX7_readsBack 18 = .ok (.ifCond .ne 5, 3) := by decide +kernel
theorem dX7_readsBack_21 : decode cX7_readsBack 21 = .ok (.iconst 1, 1) := by decide +kernel
theorem dX7_readsBack_22 : decode cX7_readsBack 22 = .ok (.ireturn, 1) := by decide +kernel
theorem dX7_readsBack_23 : decode cX7_readsBack 23 = .ok (.aload_n 0, 1) := by decide +kernel
theorem dX7_readsBack_24 : decode cX7_readsBack 24 = .ok (.iload_n 1, 1) := by decide +kernel
theorem dX7_readsBack_25 : decode cX7_readsBack 25 = .ok (.bipush 7, 2) := by decide +kernel
theorem dX7_readsBack_27 : decode cX7_readsBack 27 = .ok (.iadd, 1) := by decide +kernel
theorem dX7_readsBack_28 : decode cX7_readsBack 28 = .ok (.invokevirtual 378, 3) := by decide +kernel
theorem dX7_readsBack_31 : decode cX7_readsBack 31 = .ok (.ifCond .eq 35, 3) := by decide +kernel
theorem dX7_readsBack_34 : decode cX7_readsBack 34 = .ok (.aload_n 0, 1) := by decide +kernel
theorem dX7_readsBack_35 : decode cX7_readsBack 35 = .ok (.iload_n 1, 1) := by decide +kernel
theorem dX7_readsBack_36 : decode cX7_readsBack 36 = .ok (.bipush 8, 2) := by decide +kernel
theorem dX7_readsBack_38 : decode cX7_readsBack 38 = .ok (.iadd, 1) := by decide +kernel
theorem dX7_readsBack_39 : decode cX7_readsBack 39 = .ok (.iconst 0, 1) := by decide +kernel
theorem dX7_readsBack_40 : decode cX7_readsBack 40 = .ok (.bipush 100, 2) := by decide +kernel
theorem dX7_readsBack_42 : decode cX7_readsBack 42 = .ok (.invokevirtual 367, 3) := by decide +kernel
theorem dX7_readsBack_45 : decode cX7_readsBack 45 = .ok (.ifCond .eq 21, 3) := by decide +kernel
theorem dX7_readsBack_48 : decode cX7_readsBack 48 = .ok (.aload_n 0, 1) := by decide +kernel
theorem dX7_readsBack_49 : decode cX7_readsBack 49 = .ok (.iload_n 1, 1) := by decide +kernel
theorem dX7_readsBack_50 : decode cX7_readsBack 50 = .ok (.bipush 9, 2) := by decide +kernel
theorem dX7_readsBack_52 : decode cX7_readsBack 52 = .ok (.iadd, 1) := by decide +kernel
theorem dX7_readsBack_53 : decode cX7_readsBack 53 = .ok (.iconst 1, 1) := by decide +kernel
theorem dX7_readsBack_54 : decode cX7_readsBack 54 = .ok (.bipush 30, 2) := by decide +kernel
theorem dX7_readsBack_56 : decode cX7_readsBack 56 = .ok (.invokevirtual 367, 3) := by decide +kernel
theorem dX7_readsBack_59 : decode cX7_readsBack 59 = .ok (.ifCond .eq 7, 3) := by decide +kernel
theorem dX7_readsBack_62 : decode cX7_readsBack 62 = .ok (.iconst 1, 1) := by decide +kernel
theorem dX7_readsBack_63 : decode cX7_readsBack 63 = .ok (.goto 4, 3) := by decide +kernel
theorem dX7_readsBack_66 : decode cX7_readsBack 66 = .ok (.iconst 0, 1) := by decide +kernel
theorem dX7_readsBack_67 : decode cX7_readsBack 67 = .ok (.ireturn, 1) := by decide +kernel
theorem dX7_readsReach_0 : decode cX7_readsReach 0 = .ok (.aload_n 0, 1) := by decide +kernel
theorem dX7_readsReach_1 : decode cX7_readsReach 1 = .ok (.ldc_w 370, 3) := by decide +kernel
theorem dX7_readsReach_4 : decode cX7_readsReach 4 = .ok (.iconst 0, 1) := by decide +kernel
theorem dX7_readsReach_5 : decode cX7_readsReach 5 = .ok (.bipush 12, 2) := by decide +kernel
theorem dX7_readsReach_7 : decode cX7_readsReach 7 = .ok (.invokevirtual 372, 3) := by decide +kernel
theorem dX7_readsReach_10 : decode cX7_readsReach 10 = .ok (.ifCond .ne 5, 3) := by decide +kernel
theorem dX7_readsReach_13 : decode cX7_readsReach 13 = .ok (.iconst 0, 1) := by decide +kernel
theorem dX7_readsReach_14 : decode cX7_readsReach 14 = .ok (.ireturn, 1) := by decide +kernel
theorem dX7_readsReach_15 : decode cX7_readsReach 15 = .ok (.bipush 6, 2) := by decide +kernel
theorem dX7_readsReach_17 : decode cX7_readsReach 17 = .ok (.bipush 6, 2) := by decide +kernel
theorem dX7_readsReach_19 : decode cX7_readsReach 19 = .ok (.aload_n 0, 1) := by decide +kernel
theorem dX7_readsReach_20 : decode cX7_readsReach 20 = .ok (.getfield 83, 3) := by decide +kernel
theorem dX7_readsReach_23 : decode cX7_readsReach 23 = .ok (.iconst 0, 1) := by decide +kernel
theorem dX7_readsReach_24 : decode cX7_readsReach 24 = .ok (.iaload, 1) := by decide +kernel
theorem dX7_readsReach_25 : decode cX7_readsReach 25 = .ok (.imul, 1) := by decide +kernel
theorem dX7_readsReach_26 : decode cX7_readsReach 26 = .ok (.iadd, 1) := by decide +kernel
theorem dX7_readsReach_27 : decode cX7_readsReach 27 = .ok (.istore_n 1, 1) := by decide +kernel
theorem dX7_readsReach_28 : decode cX7_readsReach 28 = .ok (.aload_n 0, 1) := by decide +kernel
theorem dX7_readsReach_29 : decode cX7_readsReach 29 = .ok (.getfield 83, 3) := by decide +kernel
theorem dX7_readsReach_32 : decode cX7_readsReach 32 = .ok (.iload_n 1, 1) := by decide +kernel
theorem dX7_readsReach_33 : decode cX7_readsReach 33 = .ok (.iconst 0, 1) := by decide +kernel
theorem dX7_readsReach_34 : decode cX7_readsReach 34 = .ok (.iadd, 1) := by decide +kernel
theorem dX7_readsReach_35 : decode cX7_readsReach 35 = .ok (.iconst (-1), 1) := by decide +kernel
theorem dX7_readsReach_36 : decode cX7_readsReach 36 = .ok (.iastore, 1) := by decide +kernel
theorem dX7_readsReach_37 : decode cX7_readsReach 37 = .ok (.aload_n 0, 1) := by decide +kernel
theorem dX7_readsReach_38 : decode cX7_readsReach 38 = .ok (.ldc_w 376, 3) := by decide +kernel
theorem dX7_readsReach_41 : decode cX7_readsReach 41 = .ok (.invokevirtual 347, 3) := by decide +kernel
theorem dX7_readsReach_44 : decode cX7_readsReach 44 = .ok (.ifCond .ne 15, 3) := by decide +kernel
theorem dX7_readsReach_47 : decode cX7_readsReach 47 = .ok (.aload_n 0, 1) := by decide +kernel
theorem dX7_readsReach_48 : decode cX7_readsReach 48 = .ok (.iload_n 1, 1) := by decide +kernel
theorem dX7_readsReach_49 : decode cX7_readsReach 49 = .ok (.iconst 0, 1) := by decide +kernel
theorem dX7_readsReach_50 : decode cX7_readsReach 50 = .ok (.iadd, 1) := by decide +kernel
theorem dX7_readsReach_51 : decode cX7_readsReach 51 = .ok (.invokevirtual 378, 3) := by decide +kernel
theorem dX7_readsReach_54 : decode cX7_readsReach 54 = .ok (.ifCond .ne 5, 3) := by decide +kernel
theorem dX7_readsReach_57 : decode cX7_readsReach 57 = .ok (.iconst 0, 1) := by decide +kernel
theorem dX7_readsReach_58 : decode cX7_readsReach 58 = .ok (.ireturn, 1) := by decide +kernel
theorem dX7_readsReach_59 : decode cX7_readsReach 59 = .ok (.iconst 0, 1) := by decide +kernel
theorem dX7_readsReach_60 : decode cX7_readsReach 60 = .ok (.istore_n 2, 1) := by decide +kernel
theorem dX7_readsReach_61 : decode cX7_readsReach 61 = .ok (.iload_n 2, 1) := by decide +kernel
theorem dX7_readsReach_62 : decode cX7_readsReach 62 = .ok (.iconst 4, 1) := by decide +kernel
theorem dX7_readsReach_63 : decode cX7_readsReach 63 = .ok (.if_icmp .ge 27, 3) := by decide +kernel
theorem dX7_readsReach_66 : decode cX7_readsReach 66 = .ok (.aload_n 0, 1) := by decide +kernel
theorem dX7_readsReach_67 : decode cX7_readsReach 67 = .ok (.iload_n 1, 1) := by decide +kernel
theorem dX7_readsReach_68 : decode cX7_readsReach 68 = .ok (.iconst 2, 1) := by decide +kernel
theorem dX7_readsReach_69 : decode cX7_readsReach 69 = .ok (.iadd, 1) := by decide +kernel
theorem dX7_readsReach_70 : decode cX7_readsReach 70 = .ok (.iload_n 2, 1) := by decide +kernel
theorem dX7_readsReach_71 : decode cX7_readsReach 71 = .ok (.iadd, 1) := by decide +kernel
theorem dX7_readsReach_72 : decode cX7_readsReach 72 = .ok (.iconst 0, 1) := by decide +kernel
theorem dX7_readsReach_73 : decode cX7_readsReach 73 = .ok (.sipush 9999, 3) := by decide +kernel
theorem dX7_readsReach_76 : decode cX7_readsReach 76 = .ok (.invokevirtual 367, 3) := by decide +kernel
theorem dX7_readsReach_79 : decode cX7_readsReach 79 = .ok (.ifCond .ne 5, 3) := by decide +kernel
theorem dX7_readsReach_82 : decode cX7_readsReach 82 = .ok (.iconst 0, 1) := by decide +kernel
theorem dX7_readsReach_83 : decode cX7_readsReach 83 = .ok (.ireturn, 1) := by decide +kernel
theorem dX7_readsReach_84 : decode cX7_readsReach 84 = .ok (.iinc 2 1, 3) := by decide +kernel
theorem dX7_readsReach_87 : decode cX7_readsReach 87 = .ok (.goto (-26), 3) := by decide +kernel
theorem dX7_readsReach_90 : decode cX7_readsReach 90 = .ok (.aload_n 0, 1) := by decide +kernel
theorem dX7_readsReach_91 : decode cX7_readsReach 91 = .ok (.ldc_w 381, 3) := by decide +kernel
theorem dX7_readsReach_94 : decode cX7_readsReach 94 = .ok (.invokevirtual 347, 3) := by decide +kernel
theorem dX7_readsReach_97 : decode cX7_readsReach 97 = .ok (.ifCond .eq 19, 3) := by decide +kernel
theorem dX7_readsReach_100 : decode cX7_readsReach 100 = .ok (.aload_n 0, 1) := by decide +kernel
theorem dX7_readsReach_101 : decode cX7_readsReach 101 = .ok (.iload_n 1, 1) := by decide +kernel
theorem dX7_readsReach_102 : decode cX7_readsReach 102 = .ok (.iconst 1, 1) := by decide +kernel
theorem dX7_readsReach_103 : decode cX7_readsReach 103 = .ok (.iadd, 1) := by decide +kernel
theorem dX7_readsReach_104 : decode cX7_readsReach 104 = .ok (.iconst 0, 1) := by decide +kernel
theorem dX7_readsReach_105 : decode cX7_readsReach 105 = .ok (.sipush 9999, 3) := by decide +kernel
theorem dX7_readsReach_108 : decode cX7_readsReach 108 = .ok (.invokevirtual 367, 3) := by decide +kernel
theorem dX7_readsReach_111 : decode cX7_readsReach 111 = .ok (.ifCond .ne 5, 3) := by decide +kernel
theorem dX7_readsReach_114 : decode cX7_readsReach 114 = .ok (.iconst 0, 1) := by decide +kernel
theorem dX7_readsReach_115 : decode cX7_readsReach 115 = .ok (.ireturn, 1) := by decide +kernel
theorem dX7_readsReach_116 : decode cX7_readsReach 116 = .ok (.aload_n 0, 1) := by decide +kernel
theorem dX7_readsReach_117 : decode cX7_readsReach 117 = .ok (.getfield 83, 3) := by decide +kernel
theorem dX7_readsReach_120 : decode cX7_readsReach 120 = .ok (.iconst 0, 1) := by decide +kernel
theorem dX7_readsReach_121 : decode cX7_readsReach 121 = .ok (.dup2, 1) := by decide +kernel
theorem dX7_readsReach_122 : decode cX7_readsReach 122 = .ok (.iaload, 1) := by decide +kernel
theorem dX7_readsReach_123 : decode cX7_readsReach 123 = .ok (.iconst 1, 1) := by decide +kernel
theorem dX7_readsReach_124 : decode cX7_readsReach 124 = .ok (.iadd, 1) := by decide +kernel
theorem dX7_readsReach_125 : decode cX7_readsReach 125 = .ok (.iastore, 1) := by decide +kernel
theorem dX7_readsReach_126 : decode cX7_readsReach 126 = .ok (.iconst 1, 1) := by decide +kernel
theorem dX7_readsReach_127 : decode cX7_readsReach 127 = .ok (.ireturn, 1) := by decide +kernel
theorem dX7_readsRight_0 : decode cX7_readsRight 0 = .ok (.aload_n 0, 1) := by decide +kernel
theorem dX7_readsRight_1 : decode cX7_readsRight 1 = .ok (.ldc_w 390, 3) := by decide +kernel
theorem dX7_readsRight_4 : decode cX7_readsRight 4 = .ok (.iconst 1, 1) := by decide +kernel
theorem dX7_readsRight_5 : decode cX7_readsRight 5 = .ok (.bipush 14, 2) := by decide +kernel
theorem dX7_readsRight_7 : decode cX7_readsRight 7 = .ok (.invokevirtual 372, 3) := by decide +kernel
theorem dX7_readsRight_10 : decode cX7_readsRight 10 = .ok (.ifCond .ne 5, 3) := by decide +kernel
theorem dX7_readsRight_13 : decode cX7_readsRight 13 = .ok (.iconst 0, 1) := by decide +kernel
theorem dX7_readsRight_14 : decode cX7_readsRight 14 = .ok (.ireturn, 1) := by decide +kernel
theorem dX7_readsRight_15 : decode cX7_readsRight 15 = .ok (.bipush 78, 2) := by decide +kernel
theorem dX7_readsRight_17 : decode cX7_readsRight 17 = .ok (.bipush 13, 2) := by decide +kernel
theorem dX7_readsRight_19 : decode cX7_readsRight 19 = .ok (.aload_n 0, 1) := by decide +kernel
theorem dX7_readsRight_20 : decode cX7_readsRight 20 = .ok (.getfield 83, 3) := by decide +kernel
theorem dX7_readsRight_23 : decode cX7_readsRight 23 = .ok (.iconst 1, 1) := by decide +kernel
theorem dX7_readsRight_24 : decode cX7_readsRight 24 = .ok (.iaload, 1) := by decide +kernel
theorem dX7_readsRight_25 : decode cX7_readsRight 25 = .ok (.imul, 1) := by decide +kernel
theorem dX7_readsRight_26 : decode cX7_readsRight 26 = .ok (.iadd, 1) := by decide +kernel
theorem dX7_readsRight_27 : decode cX7_readsRight 27 = .ok (.istore_n 1, 1) := by decide +kernel
theorem dX7_readsRight_28 : decode cX7_readsRight 28 = .ok (.aload_n 0, 1) := by decide +kernel
theorem dX7_readsRight_29 : decode cX7_readsRight 29 = .ok (.iload_n 1, 1) := by decide +kernel
theorem dX7_readsRight_30 : decode cX7_readsRight 30 = .ok (.iconst 0, 1) := by decide +kernel
theorem dX7_readsRight_31 : decode cX7_readsRight 31 = .ok (.iadd, 1) := by decide +kernel
theorem dX7_readsRight_32 : decode cX7_readsRight 32 = .ok (.invokevirtual 378, 3) := by decide +kernel
theorem dX7_readsRight_35 : decode cX7_readsRight 35 = .ok (.ifCond .eq 62, 3) := by decide +kernel
theorem dX7_readsRight_38 : decode cX7_readsRight 38 = .ok (.aload_n 0, 1) := by decide +kernel
theorem dX7_readsRight_39 : decode cX7_readsRight 39 = .ok (.iload_n 1, 1) := by decide +kernel
theorem dX7_readsRight_40 : decode cX7_readsRight 40 = .ok (.iconst 1, 1) := by decide +kernel
theorem dX7_readsRight_41 : decode cX7_readsRight 41 = .ok (.iadd, 1) := by decide +kernel
theorem dX7_readsRight_42 : decode cX7_readsRight 42 = .ok (.iconst 1, 1) := by decide +kernel
theorem dX7_readsRight_43 : decode cX7_readsRight 43 = .ok (.sipush 9999, 3) := by decide +kernel
theorem dX7_readsRight_46 : decode cX7_readsRight 46 = .ok (.invokevirtual 367, 3) := by decide +kernel
theorem dX7_readsRight_49 : decode cX7_readsRight 49 = .ok (.ifCond .eq 48, 3) := by decide +kernel
theorem dX7_readsRight_52 : decode cX7_readsRight 52 = .ok (.aload_n 0, 1) := by decide +kernel
theorem dX7_readsRight_53 : decode cX7_readsRight 53 = .ok (.iload_n 1, 1) := by decide +kernel
theorem dX7_readsRight_54 : decode cX7_readsRight 54 = .ok (.iconst 2, 1) := by decide +kernel
theorem dX7_readsRight_55 : decode cX7_readsRight 55 = .ok (.iadd, 1) := by decide +kernel
theorem dX7_readsRight_56 : decode cX7_readsRight 56 = .ok (.iconst 0, 1) := by decide +kernel
theorem dX7_readsRight_57 : decode cX7_readsRight 57 = .ok (.sipush 359, 3) := by decide +kernel
theorem dX7_readsRight_60 : decode cX7_readsRight 60 = .ok (.invokevirtual 367, 3) := by decide +kernel
theorem dX7_readsRight_63 : decode cX7_readsRight 63 = .ok (.ifCond .eq 34, 3) := by decide +kernel
theorem dX7_readsRight_66 : decode cX7_readsRight 66 = .ok (.aload_n 0, 1) := by decide +kernel
theorem dX7_readsRight_67 : decode cX7_readsRight 67 = .ok (.iload_n 1, 1) := by decide +kernel
theorem dX7_readsRight_68 : decode cX7_readsRight 68 = .ok (.iconst 3, 1) := by decide +kernel
theorem dX7_readsRight_69 : decode cX7_readsRight 69 = .ok (.iadd, 1) := by decide +kernel
theorem dX7_readsRight_70 : decode cX7_readsRight 70 = .ok (.aload_n 0, 1) := by decide +kernel
theorem dX7_readsRight_71 : decode cX7_readsRight 71 = .ok (.getfield 83, 3) := by decide +kernel
theorem dX7_readsRight_74 : decode cX7_readsRight 74 = .ok (.iload_n 1, 1) := by decide +kernel
theorem dX7_readsRight_75 : decode cX7_readsRight 75 = .ok (.iconst 2, 1) := by decide +kernel
theorem dX7_readsRight_76 : decode cX7_readsRight 76 = .ok (.iadd, 1) := by decide +kernel
theorem dX7_readsRight_77 : decode cX7_readsRight 77 = .ok (.iaload, 1) := by decide +kernel
theorem dX7_readsRight_78 : decode cX7_readsRight 78 = .ok (.sipush 359, 3) := by decide +kernel
theorem dX7_readsRight_81 : decode cX7_readsRight 81 = .ok (.invokevirtual 367, 3) := by decide +kernel
theorem dX7_readsRight_84 : decode cX7_readsRight 84 = .ok (.ifCond .eq 13, 3) := by decide +kernel
theorem dX7_readsRight_87 : decode cX7_readsRight 87 = .ok (.aload_n 0, 1) := by decide +kernel
theorem dX7_readsRight_88 : decode cX7_readsRight 88 = .ok (.iload_n 1, 1) := by decide +kernel
theorem dX7_readsRight_89 : decode cX7_readsRight 89 = .ok (.iconst 4, 1) := by decide +kernel
theorem dX7_readsRight_90 : decode cX7_readsRight 90 = .ok (.iadd, 1) := by decide +kernel
theorem dX7_readsRight_91 : decode cX7_readsRight 91 = .ok (.invokevirtual 392, 3) := by decide +kernel
theorem dX7_readsRight_94 : decode cX7_readsRight 94 = .ok (.ifCond .ne 5, 3) := by decide +kernel
theorem dX7_readsRight_97 : decode cX7_readsRight 97 = .ok (.iconst 0, 1) := by decide +kernel
theorem dX7_readsRight_98 : decode cX7_readsRight 98 = .ok (.ireturn, 1) := by decide +kernel
theorem dX7_readsRight_99 : decode cX7_readsRight 99 = .ok (.aload_n 0, 1) := by decide +kernel
theorem dX7_readsRight_100 : decode cX7_readsRight 100 = .ok (.getfield 83, 3) := by decide +kernel
theorem dX7_readsRight_103 : decode cX7_readsRight 103 = .ok (.iload_n 1, 1) := by decide +kernel
theorem dX7_readsRight_104 : decode cX7_readsRight 104 = .ok (.iconst 5, 1) := by decide +kernel
theorem dX7_readsRight_105 : decode cX7_readsRight 105 = .ok (.iadd, 1) := by decide +kernel
theorem dX7_readsRight_106 : decode cX7_readsRight 106 = .ok (.bipush (-2), 2) := by decide +kernel
theorem dX7_readsRight_108 : decode cX7_readsRight 108 = .ok (.iastore, 1) := by decide +kernel
theorem dX7_readsRight_109 : decode cX7_readsRight 109 = .ok (.aload_n 0, 1) := by decide +kernel
theorem dX7_readsRight_110 : decode cX7_readsRight 110 = .ok (.ldc_w 395, 3) := by decide +kernel
theorem dX7_readsRight_113 : decode cX7_readsRight 113 = .ok (.invokevirtual 347, 3) := by decide +kernel
theorem dX7_readsRight_116 : decode cX7_readsRight 116 = .ok (.ifCond .eq 19, 3) := by decide +kernel
theorem dX7_readsRight_119 : decode cX7_readsRight 119 = .ok (.aload_n 0, 1) := by decide +kernel
theorem dX7_readsRight_120 : decode cX7_readsRight 120 = .ok (.iload_n 1, 1) := by decide +kernel
theorem dX7_readsRight_121 : decode cX7_readsRight 121 = .ok (.iconst 5, 1) := by decide +kernel
theorem dX7_readsRight_122 : decode cX7_readsRight 122 = .ok (.iadd, 1) := by decide +kernel
theorem dX7_readsRight_123 : decode cX7_readsRight 123 = .ok (.iconst 1, 1) := by decide +kernel
theorem dX7_readsRight_124 : decode cX7_readsRight 124 = .ok (.ldc_w 397, 3) := by decide +kernel
theorem dX7_readsRight_127 : decode cX7_readsRight 127 = .ok (.invokevirtual 367, 3) := by decide +kernel
theorem dX7_readsRight_130 : decode cX7_readsRight 130 = .ok (.ifCond .ne 5, 3) := by decide +kernel
theorem dX7_readsRight_133 : decode cX7_readsRight 133 = .ok (.iconst 0, 1) := by decide +kernel
theorem dX7_readsRight_134 : decode cX7_readsRight 134 = .ok (.ireturn, 1) := by decide +kernel
theorem dX7_readsRight_135 : decode cX7_readsRight 135 = .ok (.aload_n 0, 1) := by decide +kernel
theorem dX7_readsRight_136 : decode cX7_readsRight 136 = .ok (.iload_n 1, 1) := by decide +kernel
theorem dX7_readsRight_137 : decode cX7_readsRight 137 = .ok (.invokevirtual 398, 3) := by decide +kernel
theorem dX7_readsRight_140 : decode cX7_readsRight 140 = .ok (.ifCond .ne 5, 3) := by decide +kernel
theorem dX7_readsRight_143 : decode cX7_readsRight 143 = .ok (.iconst 0, 1) := by decide +kernel
theorem dX7_readsRight_144 : decode cX7_readsRight 144 = .ok (.ireturn, 1) := by decide +kernel
theorem dX7_readsRight_145 : decode cX7_readsRight 145 = .ok (.aload_n 0, 1) := by decide +kernel
theorem dX7_readsRight_146 : decode cX7_readsRight 146 = .ok (.getfield 83, 3) := by decide +kernel
theorem dX7_readsRight_149 : decode cX7_readsRight 149 = .ok (.iload_n 1, 1) := by decide +kernel
theorem dX7_readsRight_150 : decode cX7_readsRight 150 = .ok (.bipush 6, 2) := by decide +kernel
theorem dX7_readsRight_152 : decode cX7_readsRight 152 = .ok (.iadd, 1) := by decide +kernel
theorem dX7_readsRight_153 : decode cX7_readsRight 153 = .ok (.aload_n 0, 1) := by decide +kernel
theorem dX7_readsRight_154 : decode cX7_readsRight 154 = .ok (.getfield 83, 3) := by decide +kernel
theorem dX7_readsRight_157 : decode cX7_readsRight 157 = .ok (.iload_n 1, 1) := by decide +kernel
theorem dX7_readsRight_158 : decode cX7_readsRight 158 = .ok (.iconst 5, 1) := by decide +kernel
theorem dX7_readsRight_159 : decode cX7_readsRight 159 = .ok (.iadd, 1) := by decide +kernel
theorem dX7_readsRight_160 : decode cX7_readsRight 160 = .ok (.iaload, 1) := by decide +kernel
theorem dX7_readsRight_161 : decode cX7_readsRight 161 = .ok (.iastore, 1) := by decide +kernel
theorem dX7_readsRight_162 : decode cX7_readsRight 162 = .ok (.aload_n 0, 1) := by decide +kernel
theorem dX7_readsRight_163 : decode cX7_readsRight 163 = .ok (.getfield 83, 3) := by decide +kernel
theorem dX7_readsRight_166 : decode cX7_readsRight 166 = .ok (.iload_n 1, 1) := by decide +kernel
theorem dX7_readsRight_167 : decode cX7_readsRight 167 = .ok (.bipush 10, 2) := by decide +kernel
theorem dX7_readsRight_169 : decode cX7_readsRight 169 = .ok (.iadd, 1) := by decide +kernel
theorem dX7_readsRight_170 : decode cX7_readsRight 170 = .ok (.aload_n 0, 1) := by decide +kernel
theorem dX7_readsRight_171 : decode cX7_readsRight 171 = .ok (.getfield 83, 3) := by decide +kernel
theorem dX7_readsRight_174 : decode cX7_readsRight 174 = .ok (.iload_n 1, 1) := by decide +kernel
theorem dX7_readsRight_175 : decode cX7_readsRight 175 = .ok (.iconst 1, 1) := by decide +kernel
theorem dX7_readsRight_176 : decode cX7_readsRight 176 = .ok (.iadd, 1) := by decide +kernel
theorem dX7_readsRight_177 : decode cX7_readsRight 177 = .ok (.iaload, 1) := by decide +kernel
theorem dX7_readsRight_178 : decode cX7_readsRight 178 = .ok (.iastore, 1) := by decide +kernel
theorem dX7_readsRight_179 : decode cX7_readsRight 179 = .ok (.aload_n 0, 1) := by decide +kernel
theorem dX7_readsRight_180 : decode cX7_readsRight 180 = .ok (.getfield 83, 3) := by decide +kernel
theorem dX7_readsRight_183 : decode cX7_readsRight 183 = .ok (.iload_n 1, 1) := by decide +kernel
theorem dX7_readsRight_184 : decode cX7_readsRight 184 = .ok (.bipush 11, 2) := by decide +kernel
theorem dX7_readsRight_186 : decode cX7_readsRight 186 = .ok (.iadd, 1) := by decide +kernel
theorem dX7_readsRight_187 : decode cX7_readsRight 187 = .ok (.bipush (-2), 2) := by decide +kernel
theorem dX7_readsRight_189 : decode cX7_readsRight 189 = .ok (.iastore, 1) := by decide +kernel
theorem dX7_readsRight_190 : decode cX7_readsRight 190 = .ok (.aload_n 0, 1) := by decide +kernel
theorem dX7_readsRight_191 : decode cX7_readsRight 191 = .ok (.getfield 83, 3) := by decide +kernel
theorem dX7_readsRight_194 : decode cX7_readsRight 194 = .ok (.iconst 1, 1) := by decide +kernel
theorem dX7_readsRight_195 : decode cX7_readsRight 195 = .ok (.dup2, 1) := by decide +kernel
theorem dX7_readsRight_196 : decode cX7_readsRight 196 = .ok (.iaload, 1) := by decide +kernel
theorem dX7_readsRight_197 : decode cX7_readsRight 197 = .ok (.iconst 1, 1) := by decide +kernel
theorem dX7_readsRight_198 : decode cX7_readsRight 198 = .ok (.iadd, 1) := by decide +kernel
theorem dX7_readsRight_199 : decode cX7_readsRight 199 = .ok (.iastore, 1) := by decide +kernel
theorem dX7_readsRight_200 : decode cX7_readsRight 200 = .ok (.iconst 1, 1) := by decide +kernel
theorem dX7_readsRight_201 : decode cX7_readsRight 201 = .ok (.ireturn, 1) := by decide +kernel
theorem dX7_readsStore_0 : decode cX7_readsStore 0 = .ok (.aload_n 0, 1) := by decide +kernel
theorem dX7_readsStore_1 : decode cX7_readsStore 1 = .ok (.ldc_w 401, 3) := by decide +kernel
theorem dX7_readsStore_4 : decode cX7_readsStore 4 = .ok (.iconst 2, 1) := by decide +kernel
theorem dX7_readsStore_5 : decode cX7_readsStore 5 = .ok (.iconst 4, 1) := by decide +kernel
theorem dX7_readsStore_6 : decode cX7_readsStore 6 = .ok (.invokevirtual 372, 3) := by decide +kernel
theorem dX7_readsStore_9 : decode cX7_readsStore 9 = .ok (.ifCond .ne 5, 3) := by decide +kernel
theorem dX7_readsStore_12 : decode cX7_readsStore 12 = .ok (.iconst 0, 1) := by decide +kernel
theorem dX7_readsStore_13 : decode cX7_readsStore 13 = .ok (.ireturn, 1) := by decide +kernel
theorem dX7_readsStore_14 : decode cX7_readsStore 14 = .ok (.sipush 260, 3) := by decide +kernel
theorem dX7_readsStore_17 : decode cX7_readsStore 17 = .ok (.bipush 7, 2) := by decide +kernel
theorem dX7_readsStore_19 : decode cX7_readsStore 19 = .ok (.aload_n 0, 1) := by decide +kernel
theorem dX7_readsStore_20 : decode cX7_readsStore 20 = .ok (.getfield 83, 3) := by decide +kernel
theorem dX7_readsStore_23 : decode cX7_readsStore 23 = .ok (.iconst 2, 1) := by decide +kernel
theorem dX7_readsStore_24 : decode cX7_readsStore 24 = .ok (.iaload, 1) := by decide +kernel
theorem dX7_readsStore_25 : decode cX7_readsStore 25 = .ok (.imul, 1) := by decide +kernel
theorem dX7_readsStore_26 : decode cX7_readsStore 26 = .ok (.iadd, 1) := by decide +kernel
theorem dX7_readsStore_27 : decode cX7_readsStore 27 = .ok (.istore_n 1, 1) := by decide +kernel
theorem dX7_readsStore_28 : decode cX7_readsStore 28 = .ok (.aload_n 0, 1) := by decide +kernel
theorem dX7_readsStore_29 : decode cX7_readsStore 29 = .ok (.iload_n 1, 1) := by decide +kernel
theorem dX7_readsStore_30 : decode cX7_readsStore 30 = .ok (.iconst 0, 1) := by decide +kernel
theorem dX7_readsStore_31 : decode cX7_readsStore 31 = .ok (.iadd, 1) := by decide +kernel
theorem dX7_readsStore_32 : decode cX7_readsStore 32 = .ok (.invokevirtual 378, 3) := by decide +kernel
theorem dX7_readsStore_35 : decode cX7_readsStore 35 = .ok (.ifCond .eq 41, 3) := by decide +kernel
theorem dX7_readsStore_38 : decode cX7_readsStore 38 = .ok (.aload_n 0, 1) := by decide +kernel
theorem dX7_readsStore_39 : decode cX7_readsStore 39 = .ok (.iload_n 1, 1) := by decide +kernel
theorem dX7_readsStore_40 : decode cX7_readsStore 40 = .ok (.iconst 1, 1) := by decide +kernel
theorem dX7_readsStore_41 : decode cX7_readsStore 41 = .ok (.iadd, 1) := by decide +kernel
theorem dX7_readsStore_42 : decode cX7_readsStore 42 = .ok (.iconst 1, 1) := by decide +kernel
theorem dX7_readsStore_43 : decode cX7_readsStore 43 = .ok (.ldc_w 397, 3) := by decide +kernel
theorem dX7_readsStore_46 : decode cX7_readsStore 46 = .ok (.invokevirtual 367, 3) := by decide +kernel
theorem dX7_readsStore_49 : decode cX7_readsStore 49 = .ok (.ifCond .eq 27, 3) := by decide +kernel
theorem dX7_readsStore_52 : decode cX7_readsStore 52 = .ok (.aload_n 0, 1) := by decide +kernel
theorem dX7_readsStore_53 : decode cX7_readsStore 53 = .ok (.iload_n 1, 1) := by decide +kernel
theorem dX7_readsStore_54 : decode cX7_readsStore 54 = .ok (.iconst 2, 1) := by decide +kernel
theorem dX7_readsStore_55 : decode cX7_readsStore 55 = .ok (.iadd, 1) := by decide +kernel
theorem dX7_readsStore_56 : decode cX7_readsStore 56 = .ok (.iconst 1, 1) := by decide +kernel
theorem dX7_readsStore_57 : decode cX7_readsStore 57 = .ok (.sipush 9999, 3) := by decide +kernel
theorem dX7_readsStore_60 : decode cX7_readsStore 60 = .ok (.invokevirtual 367, 3) := by decide +kernel
theorem dX7_readsStore_63 : decode cX7_readsStore 63 = .ok (.ifCond .eq 13, 3) := by decide +kernel
theorem dX7_readsStore_66 : decode cX7_readsStore 66 = .ok (.aload_n 0, 1) := by decide +kernel
theorem dX7_readsStore_67 : decode cX7_readsStore 67 = .ok (.iload_n 1, 1) := by decide +kernel
theorem dX7_readsStore_68 : decode cX7_readsStore 68 = .ok (.iconst 3, 1) := by decide +kernel
theorem dX7_readsStore_69 : decode cX7_readsStore 69 = .ok (.iadd, 1) := by decide +kernel
theorem dX7_readsStore_70 : decode cX7_readsStore 70 = .ok (.invokevirtual 392, 3) := by decide +kernel
theorem dX7_readsStore_73 : decode cX7_readsStore 73 = .ok (.ifCond .ne 5, 3) := by decide +kernel
theorem dX7_readsStore_76 : decode cX7_readsStore 76 = .ok (.iconst 0, 1) := by decide +kernel
theorem dX7_readsStore_77 : decode cX7_readsStore 77 = .ok (.ireturn, 1) := by decide +kernel
theorem dX7_readsStore_78 : decode cX7_readsStore 78 = .ok (.aload_n 0, 1) := by decide +kernel
theorem dX7_readsStore_79 : decode cX7_readsStore 79 = .ok (.getfield 83, 3) := by decide +kernel
theorem dX7_readsStore_82 : decode cX7_readsStore 82 = .ok (.iload_n 1, 1) := by decide +kernel
theorem dX7_readsStore_83 : decode cX7_readsStore 83 = .ok (.iconst 5, 1) := by decide +kernel
theorem dX7_readsStore_84 : decode cX7_readsStore 84 = .ok (.iadd, 1) := by decide +kernel
theorem dX7_readsStore_85 : decode cX7_readsStore 85 = .ok (.bipush (-2), 2) := by decide +kernel
theorem dX7_readsStore_87 : decode cX7_readsStore 87 = .ok (.iastore, 1) := by decide +kernel
theorem dX7_readsStore_88 : decode cX7_readsStore 88 = .ok (.aload_n 0, 1) := by decide +kernel
theorem dX7_readsStore_89 : decode cX7_readsStore 89 = .ok (.getfield 83, 3) := by decide +kernel
theorem dX7_readsStore_92 : decode cX7_readsStore 92 = .ok (.iconst 2, 1) := by decide +kernel
theorem dX7_readsStore_93 : decode cX7_readsStore 93 = .ok (.dup2, 1) := by decide +kernel
theorem dX7_readsStore_94 : decode cX7_readsStore 94 = .ok (.iaload, 1) := by decide +kernel
theorem dX7_readsStore_95 : decode cX7_readsStore 95 = .ok (.iconst 1, 1) := by decide +kernel
theorem dX7_readsStore_96 : decode cX7_readsStore 96 = .ok (.iadd, 1) := by decide +kernel
theorem dX7_readsStore_97 : decode cX7_readsStore 97 = .ok (.iastore, 1) := by decide +kernel
theorem dX7_readsStore_98 : decode cX7_readsStore 98 = .ok (.iconst 1, 1) := by decide +kernel
theorem dX7_readsStore_99 : decode cX7_readsStore 99 = .ok (.ireturn, 1) := by decide +kernel
theorem dX7_readsWet_0 : decode cX7_readsWet 0 = .ok (.aload_n 0, 1) := by decide +kernel
theorem dX7_readsWet_1 : decode cX7_readsWet 1 = .ok (.getfield 403, 3) := by decide +kernel
theorem dX7_readsWet_4 : decode cX7_readsWet 4 = .ok (.ifCond .eq 13, 3) := by decide +kernel
theorem dX7_readsWet_7 : decode cX7_readsWet 7 = .ok (.aload_n 0, 1) := by decide +kernel
theorem dX7_readsWet_8 : decode cX7_readsWet 8 = .ok (.iconst 3, 1) := by decide +kernel
theorem dX7_readsWet_9 : decode cX7_readsWet 9 = .ok (.aload_n 0, 1) := by decide +kernel
theorem dX7_readsWet_10 : decode cX7_readsWet 10 = .ok (.getfield 318, 3) := by decide +kernel
theorem dX7_readsWet_13 : decode cX7_readsWet 13 = .ok (.invokevirtual 350, 3) := by decide +kernel
theorem dX7_readsWet_16 : decode cX7_readsWet 16 = .ok (.ireturn, 1) := by decide +kernel
theorem dX7_readsWet_17 : decode cX7_readsWet 17 = .ok (.aload_n 0, 1) := by decide +kernel
theorem dX7_readsWet_18 : decode cX7_readsWet 18 = .ok (.iconst 1, 1) := by decide +kernel
theorem dX7_readsWet_19 : decode cX7_readsWet 19 = .ok (.putfield 403, 3) := by decide +kernel
theorem dX7_readsWet_22 : decode cX7_readsWet 22 = .ok (.aload_n 0, 1) := by decide +kernel
theorem dX7_readsWet_23 : decode cX7_readsWet 23 = .ok (.dup, 1) := by decide +kernel
theorem dX7_readsWet_24 : decode cX7_readsWet 24 = .ok (.getfield 318, 3) := by decide +kernel
theorem dX7_readsWet_27 : decode cX7_readsWet 27 = .ok (.iconst 3, 1) := by decide +kernel
theorem dX7_readsWet_28 : decode cX7_readsWet 28 = .ok (.iadd, 1) := by decide +kernel
theorem dX7_readsWet_29 : decode cX7_readsWet 29 = .ok (.putfield 318, 3) := by decide +kernel
theorem dX7_readsWet_32 : decode cX7_readsWet 32 = .ok (.aload_n 0, 1) := by decide +kernel
theorem dX7_readsWet_33 : decode cX7_readsWet 33 = .ok (.iconst 4, 1) := by decide +kernel
theorem dX7_readsWet_34 : decode cX7_readsWet 34 = .ok (.iconst 0, 1) := by decide +kernel
theorem dX7_readsWet_35 : decode cX7_readsWet 35 = .ok (.sipush 400, 3) := by decide +kernel
theorem dX7_readsWet_38 : decode cX7_readsWet 38 = .ok (.invokevirtual 367, 3) := by decide +kernel
theorem dX7_readsWet_41 : decode cX7_readsWet 41 = .ok (.ireturn, 1) := by decide +kernel
theorem dX7_readsPart_0 : decode cX7_readsPart 0 = .ok (.aload_n 0, 1) := by decide +kernel
theorem dX7_readsPart_1 : decode cX7_readsPart 1 = .ok (.ldc_w 370, 3) := by decide +kernel
theorem dX7_readsPart_4 : decode cX7_readsPart 4 = .ok (.invokevirtual 343, 3) := by decide +kernel
theorem dX7_readsPart_7 : decode cX7_readsPart 7 = .ok (.ifCond .eq 8, 3) := by decide +kernel
theorem dX7_readsPart_10 : decode cX7_readsPart 10 = .ok (.aload_n 0, 1) := by decide +kernel
theorem dX7_readsPart_11 : decode cX7_readsPart 11 = .ok (.invokevirtual 406, 3) := by decide +kernel
theorem dX7_readsPart_14 : decode cX7_readsPart 14 = .ok (.ireturn, 1) := by decide +kernel
theorem dX7_readsPart_15 : decode cX7_readsPart 15 = .ok (.aload_n 0, 1) := by decide +kernel
theorem dX7_readsPart_16 : decode cX7_readsPart 16 = .ok (.ldc_w 390, 3) := by decide +kernel
theorem dX7_readsPart_19 : decode cX7_readsPart 19 = .ok (.invokevirtual 343, 3) := by decide +kernel
theorem dX7_readsPart_22 : decode cX7_readsPart 22 = .ok (.ifCond .eq 8, 3) := by decide +kernel
theorem dX7_readsPart_25 : decode cX7_readsPart 25 = .ok (.aload_n 0, 1) := by decide +kernel
theorem dX7_readsPart_26 : decode cX7_readsPart 26 = .ok (.invokevirtual 409, 3) := by decide +kernel
theorem dX7_readsPart_29 : decode cX7_readsPart 29 = .ok (.ireturn, 1) := by decide +kernel
theorem dX7_readsPart_30 : decode cX7_readsPart 30 = .ok (.aload_n 0, 1) := by decide +kernel
theorem dX7_readsPart_31 : decode cX7_readsPart 31 = .ok (.ldc_w 401, 3) := by decide +kernel
theorem dX7_readsPart_34 : decode cX7_readsPart 34 = .ok (.invokevirtual 343, 3) := by decide +kernel
theorem dX7_readsPart_37 : decode cX7_readsPart 37 = .ok (.ifCond .eq 8, 3) := by decide +kernel
theorem dX7_readsPart_40 : decode cX7_readsPart 40 = .ok (.aload_n 0, 1) := by decide +kernel
theorem dX7_readsPart_41 : decode cX7_readsPart 41 = .ok (.invokevirtual 412, 3) := by decide +kernel
theorem dX7_readsPart_44 : decode cX7_readsPart 44 = .ok (.ireturn, 1) := by decide +kernel
theorem dX7_readsPart_45 : decode cX7_readsPart 45 = .ok (.aload_n 0, 1) := by decide +kernel
theorem dX7_readsPart_46 : decode cX7_readsPart 46 = .ok (.ldc_w 415, 3) := by decide +kernel
theorem dX7_readsPart_49 : decode cX7_readsPart 49 = .ok (.invokevirtual 343, 3) := by decide +kernel
theorem dX7_readsPart_52 : decode cX7_readsPart 52 = .ok (.ifCond .eq 10, 3) := by decide +kernel
theorem dX7_readsPart_55 : decode cX7_readsPart 55 = .ok (.aload_n 0, 1) := by decide +kernel
theorem dX7_readsPart_56 : decode cX7_readsPart 56 = .ok (.invokevirtual 417, 3) := by decide +kernel
theorem dX7_readsPart_59 : decode cX7_readsPart 59 = .ok (.goto 12, 3) := by decide +kernel
theorem dX7_readsPart_62 : decode cX7_readsPart 62 = .ok (.aload_n 0, 1) := by decide +kernel
theorem dX7_readsPart_63 : decode cX7_readsPart 63 = .ok (.iconst 1, 1) := by decide +kernel
theorem dX7_readsPart_64 : decode cX7_readsPart 64 = .ok (.aload_n 0, 1) := by decide +kernel
theorem dX7_readsPart_65 : decode cX7_readsPart 65 = .ok (.getfield 318, 3) := by decide +kernel
theorem dX7_readsPart_68 : decode cX7_readsPart 68 = .ok (.invokevirtual 350, 3) := by decide +kernel
theorem dX7_readsPart_71 : decode cX7_readsPart 71 = .ok (.ireturn, 1) := by decide +kernel
theorem dX7_readsAll_0 : decode cX7_readsAll 0 = .ok (.iconst 0, 1) := by decide +kernel
theorem dX7_readsAll_1 : decode cX7_readsAll 1 = .ok (.istore_n 1, 1) := by decide +kernel
theorem dX7_readsAll_2 : decode cX7_readsAll 2 = .ok (.iload_n 1, 1) := by decide +kernel
theorem dX7_readsAll_3 : decode cX7_readsAll 3 = .ok (.sipush 660, 3) := by decide +kernel
theorem dX7_readsAll_6 : decode cX7_readsAll 6 = .ok (.if_icmp .ge 16, 3) := by decide +kernel
theorem dX7_readsAll_9 : decode cX7_readsAll 9 = .ok (.aload_n 0, 1) := by decide +kernel
theorem dX7_readsAll_10 : decode cX7_readsAll 10 = .ok (.getfield 83, 3) := by decide +kernel
theorem dX7_readsAll_13 : decode cX7_readsAll 13 = .ok (.iload_n 1, 1) := by decide +kernel
theorem dX7_readsAll_14 : decode cX7_readsAll 14 = .ok (.iconst 0, 1) := by decide +kernel
theorem dX7_readsAll_15 : decode cX7_readsAll 15 = .ok (.iastore, 1) := by decide +kernel
theorem dX7_readsAll_16 : decode cX7_readsAll 16 = .ok (.iinc 1 1, 3) := by decide +kernel
theorem dX7_readsAll_19 : decode cX7_readsAll 19 = .ok (.goto (-17), 3) := by decide +kernel
theorem dX7_readsAll_22 : decode cX7_readsAll 22 = .ok (.aload_n 0, 1) := by decide +kernel
theorem dX7_readsAll_23 : decode cX7_readsAll 23 = .ok (.getfield 83, 3) := by decide +kernel
theorem dX7_readsAll_26 : decode cX7_readsAll 26 = .ok (.iconst 4, 1) := by decide +kernel
theorem dX7_readsAll_27 : decode cX7_readsAll 27 = .ok (.bipush 100, 2) := by decide +kernel
theorem dX7_readsAll_29 : decode cX7_readsAll 29 = .ok (.iastore, 1) := by decide +kernel
theorem dX7_readsAll_30 : decode cX7_readsAll 30 = .ok (.aload_n 0, 1) := by decide +kernel
theorem dX7_readsAll_31 : decode cX7_readsAll 31 = .ok (.iconst 0, 1) := by decide +kernel
theorem dX7_readsAll_32 : decode cX7_readsAll 32 = .ok (.putfield 403, 3) := by decide +kernel
theorem dX7_readsAll_35 : decode cX7_readsAll 35 = .ok (.aload_n 0, 1) := by decide +kernel
theorem dX7_readsAll_36 : decode cX7_readsAll 36 = .ok (.iconst 0, 1) := by decide +kernel
theorem dX7_readsAll_37 : decode cX7_readsAll 37 = .ok (.putfield 318, 3) := by decide +kernel
theorem dX7_readsAll_40 : decode cX7_readsAll 40 = .ok (.aload_n 0, 1) := by decide +kernel
theorem dX7_readsAll_41 : decode cX7_readsAll 41 = .ok (.invokevirtual 327, 3) := by decide +kernel
theorem dX7_readsAll_44 : decode cX7_readsAll 44 = .ok (.iconst (-1), 1) := by decide +kernel
theorem dX7_readsAll_45 : decode cX7_readsAll 45 = .ok (.if_icmp .ne 5, 3) := by decide +kernel
theorem dX7_readsAll_48 : decode cX7_readsAll 48 = .ok (.iconst 1, 1) := by decide +kernel
theorem dX7_readsAll_49 : decode cX7_readsAll 49 = .ok (.ireturn, 1) := by decide +kernel
theorem dX7_readsAll_50 : decode cX7_readsAll 50 = .ok (.aload_n 0, 1) := by decide +kernel
theorem dX7_readsAll_51 : decode cX7_readsAll 51 = .ok (.invokevirtual 420, 3) := by decide +kernel
theorem dX7_readsAll_54 : decode cX7_readsAll 54 = .ok (.istore_n 1, 1) := by decide +kernel
theorem dX7_readsAll_55 : decode cX7_readsAll 55 = .ok (.iload_n 1, 1) := by decide +kernel
theorem dX7_readsAll_56 : decode cX7_readsAll 56 = .ok (.ifCond .eq 30, 3) := by decide +kernel
theorem dX7_readsAll_59 : decode cX7_readsAll 59 = .ok (.aload_n 0, 1) := by decide +kernel
theorem dX7_readsAll_60 : decode cX7_readsAll 60 = .ok (.invokevirtual 327, 3) := by decide +kernel
theorem dX7_readsAll_63 : decode cX7_readsAll 63 = .ok (.bipush 59, 2) := by decide +kernel
theorem dX7_readsAll_65 : decode cX7_readsAll 65 = .ok (.if_icmp .ne 21, 3) := by decide +kernel
theorem dX7_readsAll_68 : decode cX7_readsAll 68 = .ok (.aload_n 0, 1) := by decide +kernel
theorem dX7_readsAll_69 : decode cX7_readsAll 69 = .ok (.dup, 1) := by decide +kernel
theorem dX7_readsAll_70 : decode cX7_readsAll 70 = .ok (.getfield 318, 3) := by decide +kernel
theorem dX7_readsAll_73 : decode cX7_readsAll 73 = .ok (.iconst 1, 1) := by decide +kernel
theorem dX7_readsAll_74 : decode cX7_readsAll 74 = .ok (.iadd, 1) := by decide +kernel
theorem dX7_readsAll_75 : decode cX7_readsAll 75 = .ok (.putfield 318, 3) := by decide +kernel
theorem dX7_readsAll_78 : decode cX7_readsAll 78 = .ok (.aload_n 0, 1) := by decide +kernel
theorem dX7_readsAll_79 : decode cX7_readsAll 79 = .ok (.invokevirtual 420, 3) := by decide +kernel
theorem dX7_readsAll_82 : decode cX7_readsAll 82 = .ok (.istore_n 1, 1) := by decide +kernel
theorem dX7_readsAll_83 : decode cX7_readsAll 83 = .ok (.goto (-28), 3) := by decide +kernel
theorem dX7_readsAll_86 : decode cX7_readsAll 86 = .ok (.iload_n 1, 1) := by decide +kernel
theorem dX7_readsAll_87 : decode cX7_readsAll 87 = .ok (.ifCond .eq 27, 3) := by decide +kernel
theorem dX7_readsAll_90 : decode cX7_readsAll 90 = .ok (.aload_n 0, 1) := by decide +kernel
theorem dX7_readsAll_91 : decode cX7_readsAll 91 = .ok (.invokevirtual 327, 3) := by decide +kernel
theorem dX7_readsAll_94 : decode cX7_readsAll 94 = .ok (.iconst (-1), 1) := by decide +kernel
theorem dX7_readsAll_95 : decode cX7_readsAll 95 = .ok (.if_icmp .eq 15, 3) := by decide +kernel
theorem dX7_readsAll_98 : decode cX7_readsAll 98 = .ok (.aload_n 0, 1) := by decide +kernel
theorem dX7_readsAll_99 : decode cX7_readsAll 99 = .ok (.iconst 1, 1) := by decide +kernel
theorem dX7_readsAll_100 : decode cX7_readsAll 100 = .ok (.aload_n 0, 1) := by decide +kernel
theorem dX7_readsAll_101 : decode cX7_readsAll 101 = .ok (.getfield 318, 3) := by decide +kernel
theorem dX7_readsAll_104 : decode cX7_readsAll 104 = .ok (.invokevirtual 350, 3) := by decide +kernel
theorem dX7_readsAll_107 : decode cX7_readsAll 107 = .ok (.ifCond .eq 7, 3) := by decide +kernel
theorem dX7_readsAll_110 : decode cX7_readsAll 110 = .ok (.iconst 1, 1) := by decide +kernel
theorem dX7_readsAll_111 : decode cX7_readsAll 111 = .ok (.goto 4, 3) := by decide +kernel
theorem dX7_readsAll_114 : decode cX7_readsAll 114 = .ok (.iconst 0, 1) := by decide +kernel
theorem dX7_readsAll_115 : decode cX7_readsAll 115 = .ok (.ireturn, 1) := by decide +kernel
theorem dX7_tell_0 : decode cX7_tell 0 = .ok (.aload_n 0, 1) := by decide +kernel
theorem dX7_tell_1 : decode cX7_tell 1 = .ok (.invokevirtual 423, 3) := by decide +kernel
theorem dX7_tell_4 : decode cX7_tell 4 = .ok (.istore_n 1, 1) := by decide +kernel
theorem dX7_tell_5 : decode cX7_tell 5 = .ok (.aload_n 0, 1) := by decide +kernel
theorem dX7_tell_6 : decode cX7_tell 6 = .ok (.iconst 0, 1) := by decide +kernel
theorem dX7_tell_7 : decode cX7_tell 7 = .ok (.putfield 292, 3) := by decide +kernel
theorem dX7_tell_10 : decode cX7_tell 10 = .ok (.iload_n 1, 1) := by decide +kernel
theorem dX7_tell_11 : decode cX7_tell 11 = .ok (.ifCond .ne 11, 3) := by decide +kernel
theorem dX7_tell_14 : decode cX7_tell 14 = .ok (.bipush (-2), 2) := by decide +kernel
theorem dX7_tell_16 : decode cX7_tell 16 = .ok (.aload_n 0, 1) := by decide +kernel
theorem dX7_tell_17 : decode cX7_tell 17 = .ok (.getfield 324, 3) := by decide +kernel
theorem dX7_tell_20 : decode cX7_tell 20 = .ok (.isub, 1) := by decide +kernel
theorem dX7_tell_21 : decode cX7_tell 21 = .ok (.ireturn, 1) := by decide +kernel
theorem dX7_tell_22 : decode cX7_tell 22 = .ok (.iconst 0, 1) := by decide +kernel
theorem dX7_tell_23 : decode cX7_tell 23 = .ok (.istore_n 2, 1) := by decide +kernel
theorem dX7_tell_24 : decode cX7_tell 24 = .ok (.iload_n 2, 1) := by decide +kernel
theorem dX7_tell_25 : decode cX7_tell 25 = .ok (.sipush 660, 3) := by decide +kernel
theorem dX7_tell_28 : decode cX7_tell 28 = .ok (.if_icmp .ge 21, 3) := by decide +kernel
theorem dX7_tell_31 : decode cX7_tell 31 = .ok (.aload_n 0, 1) := by decide +kernel
theorem dX7_tell_32 : decode cX7_tell 32 = .ok (.getfield 7, 3) := by decide +kernel
theorem dX7_tell_35 : decode cX7_tell 35 = .ok (.iload_n 2, 1) := by decide +kernel
theorem dX7_tell_36 : decode cX7_tell 36 = .ok (.aload_n 0, 1) := by decide +kernel
theorem dX7_tell_37 : decode cX7_tell 37 = .ok (.getfield 83, 3) := by decide +kernel
theorem dX7_tell_40 : decode cX7_tell 40 = .ok (.iload_n 2, 1) := by decide +kernel
theorem dX7_tell_41 : decode cX7_tell 41 = .ok (.iaload, 1) := by decide +kernel
theorem dX7_tell_42 : decode cX7_tell 42 = .ok (.iastore, 1) := by decide +kernel
theorem dX7_tell_43 : decode cX7_tell 43 = .ok (.iinc 2 1, 3) := by decide +kernel
theorem dX7_tell_46 : decode cX7_tell 46 = .ok (.goto (-22), 3) := by decide +kernel
theorem dX7_tell_49 : decode cX7_tell 49 = .ok (.iconst 0, 1) := by decide +kernel
theorem dX7_tell_50 : decode cX7_tell 50 = .ok (.istore_n 2, 1) := by decide +kernel
theorem dX7_tell_51 : decode cX7_tell 51 = .ok (.iload_n 2, 1) := by decide +kernel
theorem dX7_tell_52 : decode cX7_tell 52 = .ok (.bipush 6, 2) := by decide +kernel
theorem dX7_tell_54 : decode cX7_tell 54 = .ok (.if_icmp .ge 16, 3) := by decide +kernel
theorem dX7_tell_57 : decode cX7_tell 57 = .ok (.aload_n 0, 1) := by decide +kernel
theorem dX7_tell_58 : decode cX7_tell 58 = .ok (.getfield 13, 3) := by decide +kernel
theorem dX7_tell_61 : decode cX7_tell 61 = .ok (.iload_n 2, 1) := by decide +kernel
theorem dX7_tell_62 : decode cX7_tell 62 = .ok (.lconst 0, 1) := by decide +kernel
theorem dX7_tell_63 : decode cX7_tell 63 = .ok (.lastore, 1) := by decide +kernel
theorem dX7_tell_64 : decode cX7_tell 64 = .ok (.iinc 2 1, 3) := by decide +kernel
theorem dX7_tell_67 : decode cX7_tell 67 = .ok (.goto (-16), 3) := by decide +kernel
theorem dX7_tell_70 : decode cX7_tell 70 = .ok (.aload_n 0, 1) := by decide +kernel
theorem dX7_tell_71 : decode cX7_tell 71 = .ok (.iconst 0, 1) := by decide +kernel
theorem dX7_tell_72 : decode cX7_tell 72 = .ok (.putfield 289, 3) := by decide +kernel
theorem dX7_tell_75 : decode cX7_tell 75 = .ok (.aload_n 0, 1) := by decide +kernel
theorem dX7_tell_76 : decode cX7_tell 76 = .ok (.invokevirtual 100, 3) := by decide +kernel
theorem dX7_tell_79 : decode cX7_tell 79 = .ok (.ireturn, 1) := by decide +kernel
theorem dX7_puts_0 : decode cX7_puts 0 = .ok (.bipush 24, 2) := by decide +kernel
theorem dX7_puts_2 : decode cX7_puts 2 = .ok (.istore_n 2, 1) := by decide +kernel
theorem dX7_puts_3 : decode cX7_puts 3 = .ok (.iload_n 2, 1) := by decide +kernel
theorem dX7_puts_4 : decode cX7_puts 4 = .ok (.ifCond .lt 32, 3) := by decide +kernel
theorem dX7_puts_7 : decode cX7_puts 7 = .ok (.aload_n 0, 1) := by decide +kernel
theorem dX7_puts_8 : decode cX7_puts 8 = .ok (.getfield 79, 3) := by decide +kernel
theorem dX7_puts_11 : decode cX7_puts 11 = .ok (.aload_n 0, 1) := by decide +kernel
theorem dX7_puts_12 : decode cX7_puts 12 = .ok (.getfield 292, 3) := by decide +kernel
theorem dX7_puts_15 : decode cX7_puts 15 = .ok (.iload_n 1, 1) := by decide +kernel
theorem dX7_puts_16 : decode cX7_puts 16 = .ok (.iload_n 2, 1) := by decide +kernel
theorem dX7_puts_17 : decode cX7_puts 17 = .ok (.ishr, 1) := by decide +kernel
theorem dX7_puts_18 : decode cX7_puts 18 = .ok (.i2b, 1) := by decide +kernel
theorem dX7_puts_19 : decode cX7_puts 19 = .ok (.bastore, 1) := by decide +kernel
theorem dX7_puts_20 : decode cX7_puts 20 = .ok (.aload_n 0, 1) := by decide +kernel
theorem dX7_puts_21 : decode cX7_puts 21 = .ok (.dup, 1) := by decide +kernel
theorem dX7_puts_22 : decode cX7_puts 22 = .ok (.getfield 292, 3) := by decide +kernel
theorem dX7_puts_25 : decode cX7_puts 25 = .ok (.iconst 1, 1) := by decide +kernel
theorem dX7_puts_26 : decode cX7_puts 26 = .ok (.iadd, 1) := by decide +kernel
theorem dX7_puts_27 : decode cX7_puts 27 = .ok (.putfield 292, 3) := by decide +kernel
theorem dX7_puts_30 : decode cX7_puts 30 = .ok (.iinc 2 (-8), 3) := by decide +kernel
theorem dX7_puts_33 : decode cX7_puts 33 = .ok (.goto (-30), 3) := by decide +kernel
theorem dX7_puts_36 : decode cX7_puts 36 = .ok (.return_, 1) := by decide +kernel
theorem dX7_feed_0 : decode cX7_feed 0 = .ok (.aload_n 0, 1) := by decide +kernel
theorem dX7_feed_1 : decode cX7_feed 1 = .ok (.getfield 292, 3) := by decide +kernel
theorem dX7_feed_4 : decode cX7_feed 4 = .ok (.sipush 380, 3) := by decide +kernel
theorem dX7_feed_7 : decode cX7_feed 7 = .ok (.if_icmp .le 5, 3) := by decide +kernel
theorem dX7_feed_10 : decode cX7_feed 10 = .ok (.iconst (-1), 1) := by decide +kernel
theorem dX7_feed_11 : decode cX7_feed 11 = .ok (.ireturn, 1) := by decide +kernel
theorem dX7_feed_12 : decode cX7_feed 12 = .ok (.aload_n 0, 1) := by decide +kernel
theorem dX7_feed_13 : decode cX7_feed 13 = .ok (.iload_n 1, 1) := by decide +kernel
theorem dX7_feed_14 : decode cX7_feed 14 = .ok (.invokevirtual 315, 3) := by decide +kernel
theorem dX7_feed_17 : decode cX7_feed 17 = .ok (.aload_n 0, 1) := by decide +kernel
theorem dX7_feed_18 : decode cX7_feed 18 = .ok (.iload_n 2, 1) := by decide +kernel
theorem dX7_feed_19 : decode cX7_feed 19 = .ok (.invokevirtual 315, 3) := by decide +kernel
theorem dX7_feed_22 : decode cX7_feed 22 = .ok (.aload_n 0, 1) := by decide +kernel
theorem dX7_feed_23 : decode cX7_feed 23 = .ok (.iload_n 3, 1) := by decide +kernel
theorem dX7_feed_24 : decode cX7_feed 24 = .ok (.invokevirtual 315, 3) := by decide +kernel
theorem dX7_feed_27 : decode cX7_feed 27 = .ok (.aload_n 0, 1) := by decide +kernel
theorem dX7_feed_28 : decode cX7_feed 28 = .ok (.iload 4, 2) := by decide +kernel
theorem dX7_feed_30 : decode cX7_feed 30 = .ok (.invokevirtual 315, 3) := by decide +kernel
theorem dX7_feed_33 : decode cX7_feed 33 = .ok (.aload_n 0, 1) := by decide +kernel
theorem dX7_feed_34 : decode cX7_feed 34 = .ok (.iload 5, 2) := by decide +kernel
theorem dX7_feed_36 : decode cX7_feed 36 = .ok (.invokevirtual 315, 3) := by decide +kernel
theorem dX7_feed_39 : decode cX7_feed 39 = .ok (.aload_n 0, 1) := by decide +kernel
theorem dX7_feed_40 : decode cX7_feed 40 = .ok (.getfield 292, 3) := by decide +kernel
theorem dX7_feed_43 : decode cX7_feed 43 = .ok (.ireturn, 1) := by decide +kernel
theorem dX7_end_0 : decode cX7_end 0 = .ok (.iload_n 1, 1) := by decide +kernel
theorem dX7_end_1 : decode cX7_end 1 = .ok (.i2l, 1) := by decide +kernel
theorem dX7_end_2 : decode cX7_end 2 = .ok (.lconst 0, 1) := by decide +kernel
theorem dX7_end_3 : decode cX7_end 3 = .ok (.aload_n 0, 1) := by decide +kernel
theorem dX7_end_4 : decode cX7_end 4 = .ok (.getfield 292, 3) := by decide +kernel
theorem dX7_end_7 : decode cX7_end 7 = .ok (.i2l, 1) := by decide +kernel
theorem dX7_end_8 : decode cX7_end 8 = .ok (.invokestatic 96, 3) := by decide +kernel
theorem dX7_end_11 : decode cX7_end 11 = .ok (.ifCond .ne 5, 3) := by decide +kernel
theorem dX7_end_14 : decode cX7_end 14 = .ok (.iconst (-1), 1) := by decide +kernel
theorem dX7_end_15 : decode cX7_end 15 = .ok (.ireturn, 1) := by decide +kernel
theorem dX7_end_16 : decode cX7_end 16 = .ok (.aload_n 0, 1) := by decide +kernel
theorem dX7_end_17 : decode cX7_end 17 = .ok (.iload_n 1, 1) := by decide +kernel
theorem dX7_end_18 : decode cX7_end 18 = .ok (.putfield 292, 3) := by decide +kernel
theorem dX7_end_21 : decode cX7_end 21 = .ok (.iload_n 1, 1) := by decide +kernel
theorem dX7_end_22 : decode cX7_end 22 = .ok (.ireturn, 1) := by decide +kernel
theorem dX7_spell_0 : decode cX7_spell 0 = .ok (.aload_n 0, 1) := by decide +kernel
theorem dX7_spell_1 : decode cX7_spell 1 = .ok (.getfield 426, 3) := by decide +kernel
theorem dX7_spell_4 : decode cX7_spell 4 = .ok (.aload_n 0, 1) := by decide +kernel
theorem dX7_spell_5 : decode cX7_spell 5 = .ok (.getfield 429, 3) := by decide +kernel
theorem dX7_spell_8 : decode cX7_spell 8 = .ok (.if_icmp .ne 8, 3) := by decide +kernel
theorem dX7_spell_11 : decode cX7_spell 11 = .ok (.aload_n 0, 1) := by decide +kernel
theorem dX7_spell_12 : decode cX7_spell 12 = .ok (.iload_n 1, 1) := by decide +kernel
theorem dX7_spell_13 : decode cX7_spell 13 = .ok (.putfield 432, 3) := by decide +kernel
theorem dX7_spell_16 : decode cX7_spell 16 = .ok (.aload_n 0, 1) := by decide +kernel
theorem dX7_spell_17 : decode cX7_spell 17 = .ok (.dup, 1) := by decide +kernel
theorem dX7_spell_18 : decode cX7_spell 18 = .ok (.getfield 426, 3) := by decide +kernel
theorem dX7_spell_21 : decode cX7_spell 21 = .ok (.iconst 1, 1) := by decide +kernel
theorem dX7_spell_22 : decode cX7_spell 22 = .ok (.iadd, 1) := by decide +kernel
theorem dX7_spell_23 : decode cX7_spell 23 = .ok (.putfield 426, 3) := by decide +kernel
theorem dX7_spell_26 : decode cX7_spell 26 = .ok (.return_, 1) := by decide +kernel
theorem dX7_spellWord_0 : decode cX7_spellWord 0 = .ok (.iconst 0, 1) := by decide +kernel
theorem dX7_spellWord_1 : decode cX7_spellWord 1 = .ok (.istore_n 2, 1) := by decide +kernel
theorem dX7_spellWord_2 : decode cX7_spellWord 2 = .ok (.iload_n 2, 1) := by decide +kernel
theorem dX7_spellWord_3 : decode cX7_spellWord 3 = .ok (.aload_n 1, 1) := by decide +kernel
theorem dX7_spellWord_4 : decode cX7_spellWord 4 = .ok (.invokevirtual 330, 3) := by decide +kernel
theorem dX7_spellWord_7 : decode cX7_spellWord 7 = .ok (.if_icmp .ge 18, 3) := by decide +kernel
theorem dX7_spellWord_10 : decode cX7_spellWord 10 = .ok (.aload_n 0, 1) := by decide +kernel
theorem dX7_spellWord_11 : decode cX7_spellWord 11 = .ok (.aload_n 1, 1) := by decide +kernel
theorem dX7_spellWord_12 : decode cX7_spellWord 12 = .ok (.iload_n 2, 1) := by decide +kernel
theorem dX7_spellWord_13 : decode cX7_spellWord 13 = .ok (.invokevirtual 335, 3) := by decide +kernel
theorem dX7_spellWord_16 : decode cX7_spellWord 16 = .ok (.invokevirtual 435, 3) := by decide +kernel
theorem dX7_spellWord_19 : decode cX7_spellWord 19 = .ok (.iinc 2 1, 3) := by decide +kernel
theorem dX7_spellWord_22 : decode cX7_spellWord 22 = .ok (.goto (-20), 3) := by decide +kernel
theorem dX7_spellWord_25 : decode cX7_spellWord 25 = .ok (.return_, 1) := by decide +kernel
theorem dX7_spellPart_0 : decode cX7_spellPart 0 = .ok (.aload_n 0, 1) := by decide +kernel
theorem dX7_spellPart_1 : decode cX7_spellPart 1 = .ok (.getfield 426, 3) := by decide +kernel
theorem dX7_spellPart_4 : decode cX7_spellPart 4 = .ok (.ifCond .le 9, 3) := by decide +kernel
theorem dX7_spellPart_7 : decode cX7_spellPart 7 = .ok (.aload_n 0, 1) := by decide +kernel
theorem dX7_spellPart_8 : decode cX7_spellPart 8 = .ok (.bipush 59, 2) := by decide +kernel
theorem dX7_spellPart_10 : decode cX7_spellPart 10 = .ok (.invokevirtual 435, 3) := by decide +kernel
theorem dX7_spellPart_13 : decode cX7_spellPart 13 = .ok (.aload_n 0, 1) := by decide +kernel
theorem dX7_spellPart_14 : decode cX7_spellPart 14 = .ok (.aload_n 1, 1) := by decide +kernel
theorem dX7_spellPart_15 : decode cX7_spellPart 15 = .ok (.invokevirtual 438, 3) := by decide +kernel
theorem dX7_spellPart_18 : decode cX7_spellPart 18 = .ok (.return_, 1) := by decide +kernel
theorem dX7_spellNumber_0 : decode cX7_spellNumber 0 = .ok (.aload_n 0, 1) := by decide +kernel
theorem dX7_spellNumber_1 : decode cX7_spellNumber 1 = .ok (.bipush 32, 2) := by decide +kernel
theorem dX7_spellNumber_3 : decode cX7_spellNumber 3 = .ok (.invokevirtual 435, 3) := by decide +kernel
theorem dX7_spellNumber_6 : decode cX7_spellNumber 6 = .ok (.iconst 1, 1) := by decide +kernel
theorem dX7_spellNumber_7 : decode cX7_spellNumber 7 = .ok (.istore_n 2, 1) := by decide +kernel
theorem dX7_spellNumber_8 : decode cX7_spellNumber 8 = .ok (.iload_n 1, 1) := by decide +kernel
theorem dX7_spellNumber_9 : decode cX7_spellNumber 9 = .ok (.iload_n 2, 1) := by decide +kernel
theorem dX7_spellNumber_10 : decode cX7_spellNumber 10 = .ok (.idiv, 1) := by decide +kernel
theorem dX7_spellNumber_11 : decode cX7_spellNumber 11 = .ok (.bipush 10, 2) := by decide +kernel
theorem dX7_spellNumber_13 : decode cX7_spellNumber 13 = .ok (.if_icmp .lt 11, 3) := by decide +kernel
theorem dX7_spellNumber_16 : decode cX7_spellNumber 16 = .ok (.iload_n 2, 1) := by decide +kernel
theorem dX7_spellNumber_17 : decode cX7_spellNumber 17 = .ok (.bipush 10, 2) := by decide +kernel
theorem dX7_spellNumber_19 : decode cX7_spellNumber 19 = .ok (.imul, 1) := by decide +kernel
theorem dX7_spellNumber_20 : decode cX7_spellNumber 20 = .ok (.istore_n 2, 1) := by decide +kernel
theorem dX7_spellNumber_21 : decode cX7_spellNumber 21 = .ok (.goto (-13), 3) := by decide +kernel
theorem dX7_spellNumber_24 : decode cX7_spellNumber 24 = .ok (.iload_n 2, 1) := by decide +kernel
theorem dX7_spellNumber_25 : decode cX7_spellNumber 25 = .ok (.ifCond .le 24, 3) := by decide +kernel
theorem dX7_spellNumber_28 : decode cX7_spellNumber 28 = .ok (.aload_n 0, 1) := by decide +kernel
theorem dX7_spellNumber_29 : decode cX7_spellNumber 29 = .ok (.bipush 48, 2) := by decide +kernel
theorem dX7_spellNumber_31 : decode cX7_spellNumber 31 = .ok (.iload_n 1, 1) := by decide +kernel
theorem dX7_spellNumber_32 : decode cX7_spellNumber 32 = .ok (.iload_n 2, 1) := by decide +kernel
theorem dX7_spellNumber_33 : decode cX7_spellNumber 33 = .ok (.idiv, 1) := by decide +kernel
theorem dX7_spellNumber_34 : decode cX7_spellNumber 34 = .ok (.bipush 10, 2) := by decide +kernel
theorem dX7_spellNumber_36 : decode cX7_spellNumber 36 = .ok (.irem, 1) := by decide +kernel
theorem dX7_spellNumber_37 : decode cX7_spellNumber 37 = .ok (.iadd, 1) := by decide +kernel
theorem dX7_spellNumber_38 : decode cX7_spellNumber 38 = .ok (.invokevirtual 435, 3) := by decide +kernel
theorem dX7_spellNumber_41 : decode cX7_spellNumber 41 = .ok (.iload_n 2, 1) := by decide +kernel
theorem dX7_spellNumber_42 : decode cX7_spellNumber 42 = .ok (.bipush 10, 2) := by decide +kernel
theorem dX7_spellNumber_44 : decode cX7_spellNumber 44 = .ok (.idiv, 1) := by decide +kernel
theorem dX7_spellNumber_45 : decode cX7_spellNumber 45 = .ok (.istore_n 2, 1) := by decide +kernel
theorem dX7_spellNumber_46 : decode cX7_spellNumber 46 = .ok (.goto (-22), 3) := by decide +kernel
theorem dX7_spellNumber_49 : decode cX7_spellNumber 49 = .ok (.return_, 1) := by decide +kernel
theorem dX7_spellReach_0 : decode cX7_spellReach 0 = .ok (.aload_n 0, 1) := by decide +kernel
theorem dX7_spellReach_1 : decode cX7_spellReach 1 = .ok (.ldc_w 370, 3) := by decide +kernel
theorem dX7_spellReach_4 : decode cX7_spellReach 4 = .ok (.invokevirtual 442, 3) := by decide +kernel
theorem dX7_spellReach_7 : decode cX7_spellReach 7 = .ok (.aload_n 0, 1) := by decide +kernel
theorem dX7_spellReach_8 : decode cX7_spellReach 8 = .ok (.iload_n 1, 1) := by decide +kernel
theorem dX7_spellReach_9 : decode cX7_spellReach 9 = .ok (.iconst 0, 1) := by decide +kernel
theorem dX7_spellReach_10 : decode cX7_spellReach 10 = .ok (.invokevirtual 106, 3) := by decide +kernel
theorem dX7_spellReach_13 : decode cX7_spellReach 13 = .ok (.iconst (-1), 1) := by decide +kernel
theorem dX7_spellReach_14 : decode cX7_spellReach 14 = .ok (.if_icmp .ne 13, 3) := by decide +kernel
theorem dX7_spellReach_17 : decode cX7_spellReach 17 = .ok (.aload_n 0, 1) := by decide +kernel
theorem dX7_spellReach_18 : decode cX7_spellReach 18 = .ok (.ldc_w 445, 3) := by decide +kernel
theorem dX7_spellReach_21 : decode cX7_spellReach 21 = .ok (.invokevirtual 438, 3) := by decide +kernel
theorem dX7_spellReach_24 : decode cX7_spellReach 24 = .ok (.goto 13, 3) := by decide +kernel
theorem dX7_spellReach_27 : decode cX7_spellReach 27 = .ok (.aload_n 0, 1) := by decide +kernel
theorem dX7_spellReach_28 : decode cX7_spellReach 28 = .ok (.aload_n 0, 1) := by decide +kernel
theorem dX7_spellReach_29 : decode cX7_spellReach 29 = .ok (.iload_n 1, 1) := by decide +kernel
theorem dX7_spellReach_30 : decode cX7_spellReach 30 = .ok (.iconst 0, 1) := by decide +kernel
theorem dX7_spellReach_31 : decode cX7_spellReach 31 = .ok (.invokevirtual 106, 3) := by decide +kernel
theorem dX7_spellReach_34 : decode cX7_spellReach 34 = .ok (.invokevirtual 447, 3) := by decide +kernel
theorem dX7_spellReach_37 : decode cX7_spellReach 37 = .ok (.iconst 0, 1) := by decide +kernel
theorem dX7_spellReach_38 : decode cX7_spellReach 38 = .ok (.istore_n 2, 1) := by decide +kernel
theorem dX7_spellReach_39 : decode cX7_spellReach 39 = .ok (.iload_n 2, 1) := by decide +kernel
theorem dX7_spellReach_40 : decode cX7_spellReach 40 = .ok (.iconst 4, 1) := by decide +kernel
theorem dX7_spellReach_41 : decode cX7_spellReach 41 = .ok (.if_icmp .ge 21, 3) := by decide +kernel
theorem dX7_spellReach_44 : decode cX7_spellReach 44 = .ok (.aload_n 0, 1) := by decide +kernel
theorem dX7_spellReach_45 : decode cX7_spellReach 45 = .ok (.aload_n 0, 1) := by decide +kernel
theorem dX7_spellReach_46 : decode cX7_spellReach 46 = .ok (.iload_n 1, 1) := by decide +kernel
theorem dX7_spellReach_47 : decode cX7_spellReach 47 = .ok (.iconst 2, 1) := by decide +kernel
theorem dX7_spellReach_48 : decode cX7_spellReach 48 = .ok (.iload_n 2, 1) := by decide +kernel
theorem dX7_spellReach_49 : decode cX7_spellReach 49 = .ok (.iadd, 1) := by decide +kernel
theorem dX7_spellReach_50 : decode cX7_spellReach 50 = .ok (.invokevirtual 106, 3) := by decide +kernel
theorem dX7_spellReach_53 : decode cX7_spellReach 53 = .ok (.invokevirtual 447, 3) := by decide +kernel
theorem dX7_spellReach_56 : decode cX7_spellReach 56 = .ok (.iinc 2 1, 3) := by decide +kernel
theorem dX7_spellReach_59 : decode cX7_spellReach 59 = .ok (.goto (-20), 3) := by decide +kernel
theorem dX7_spellReach_62 : decode cX7_spellReach 62 = .ok (.aload_n 0, 1) := by decide +kernel
theorem dX7_spellReach_63 : decode cX7_spellReach 63 = .ok (.iload_n 1, 1) := by decide +kernel
theorem dX7_spellReach_64 : decode cX7_spellReach 64 = .ok (.iconst 1, 1) := by decide +kernel
theorem dX7_spellReach_65 : decode cX7_spellReach 65 = .ok (.invokevirtual 106, 3) := by decide +kernel
theorem dX7_spellReach_68 : decode cX7_spellReach 68 = .ok (.ifCond .ne 4, 3) := by decide +kernel
theorem dX7_spellReach_71 : decode cX7_spellReach 71 = .ok (.return_, 1) := by decide +kernel
theorem dX7_spellReach_72 : decode cX7_spellReach 72 = .ok (.aload_n 0, 1) := by decide +kernel
theorem dX7_spellReach_73 : decode cX7_spellReach 73 = .ok (.ldc_w 450, 3) := by decide +kernel
theorem dX7_spellReach_76 : decode cX7_spellReach 76 = .ok (.invokevirtual 438, 3) := by decide +kernel
theorem dX7_spellReach_79 : decode cX7_spellReach 79 = .ok (.aload_n 0, 1) := by decide +kernel
theorem dX7_spellReach_80 : decode cX7_spellReach 80 = .ok (.aload_n 0, 1) := by decide +kernel
theorem dX7_spellReach_81 : decode cX7_spellReach 81 = .ok (.iload_n 1, 1) := by decide +kernel
theorem dX7_spellReach_82 : decode cX7_spellReach 82 = .ok (.iconst 1, 1) := by decide +kernel
theorem dX7_spellReach_83 : decode cX7_spellReach 83 = .ok (.invokevirtual 106, 3) := by decide +kernel
theorem dX7_spellReach_86 : decode cX7_spellReach 86 = .ok (.invokevirtual 447, 3) := by decide +kernel
theorem dX7_spellReach_89 : decode cX7_spellReach 89 = .ok (.return_, 1) := by decide +kernel
theorem dX7_spellRight_0 : decode cX7_spellRight 0 = .ok (.aload_n 0, 1) := by decide +kernel
theorem dX7_spellRight_1 : decode cX7_spellRight 1 = .ok (.ldc_w 390, 3) := by decide +kernel
theorem dX7_spellRight_4 : decode cX7_spellRight 4 = .ok (.invokevirtual 442, 3) := by decide +kernel
theorem dX7_spellRight_7 : decode cX7_spellRight 7 = .ok (.iconst 0, 1) := by decide +kernel
theorem dX7_spellRight_8 : decode cX7_spellRight 8 = .ok (.istore_n 2, 1) := by decide +kernel
theorem dX7_spellRight_9 : decode cX7_spellRight 9 = .ok (.iload_n 2, 1) := by decide +kernel
theorem dX7_spellRight_10 : decode cX7_spellRight 10 = .ok (.iconst 3, 1) := by decide +kernel
theorem dX7_spellRight_11 : decode cX7_spellRight 11 = .ok (.if_icmp .gt 19, 3) := by decide +kernel
theorem dX7_spellRight_14 : decode cX7_spellRight 14 = .ok (.aload_n 0, 1) := by decide +kernel
theorem dX7_spellRight_15 : decode cX7_spellRight 15 = .ok (.aload_n 0, 1) := by decide +kernel
theorem dX7_spellRight_16 : decode cX7_spellRight 16 = .ok (.iload_n 1, 1) := by decide +kernel
theorem dX7_spellRight_17 : decode cX7_spellRight 17 = .ok (.iload_n 2, 1) := by decide +kernel
theorem dX7_spellRight_18 : decode cX7_spellRight 18 = .ok (.invokevirtual 113, 3) := by decide +kernel
theorem dX7_spellRight_21 : decode cX7_spellRight 21 = .ok (.invokevirtual 447, 3) := by decide +kernel
theorem dX7_spellRight_24 : decode cX7_spellRight 24 = .ok (.iinc 2 1, 3) := by decide +kernel
theorem dX7_spellRight_27 : decode cX7_spellRight 27 = .ok (.goto (-18), 3) := by decide +kernel
theorem dX7_spellRight_30 : decode cX7_spellRight 30 = .ok (.aload_n 0, 1) := by decide +kernel
theorem dX7_spellRight_31 : decode cX7_spellRight 31 = .ok (.ldc_w 452, 3) := by decide +kernel
theorem dX7_spellRight_34 : decode cX7_spellRight 34 = .ok (.invokevirtual 438, 3) := by decide +kernel
theorem dX7_spellRight_37 : decode cX7_spellRight 37 = .ok (.aload_n 0, 1) := by decide +kernel
theorem dX7_spellRight_38 : decode cX7_spellRight 38 = .ok (.aload_n 0, 1) := by decide +kernel
theorem dX7_spellRight_39 : decode cX7_spellRight 39 = .ok (.iload_n 1, 1) := by decide +kernel
theorem dX7_spellRight_40 : decode cX7_spellRight 40 = .ok (.iconst 4, 1) := by decide +kernel
theorem dX7_spellRight_41 : decode cX7_spellRight 41 = .ok (.invokevirtual 113, 3) := by decide +kernel
theorem dX7_spellRight_44 : decode cX7_spellRight 44 = .ok (.invokevirtual 447, 3) := by decide +kernel
theorem dX7_spellRight_47 : decode cX7_spellRight 47 = .ok (.aload_n 0, 1) := by decide +kernel
theorem dX7_spellRight_48 : decode cX7_spellRight 48 = .ok (.iload_n 1, 1) := by decide +kernel
theorem dX7_spellRight_49 : decode cX7_spellRight 49 = .ok (.iconst 5, 1) := by decide +kernel
theorem dX7_spellRight_50 : decode cX7_spellRight 50 = .ok (.invokevirtual 113, 3) := by decide +kernel
theorem dX7_spellRight_53 : decode cX7_spellRight 53 = .ok (.bipush (-2), 2) := by decide +kernel
theorem dX7_spellRight_55 : decode cX7_spellRight 55 = .ok (.if_icmp .eq 20, 3) := by decide +kernel
theorem dX7_spellRight_58 : decode cX7_spellRight 58 = .ok (.aload_n 0, 1) := by decide +kernel
theorem dX7_spellRight_59 : decode cX7_spellRight 59 = .ok (.ldc_w 454, 3) := by decide +kernel
theorem dX7_spellRight_62 : decode cX7_spellRight 62 = .ok (.invokevirtual 438, 3) := by decide +kernel
theorem dX7_spellRight_65 : decode cX7_spellRight 65 = .ok (.aload_n 0, 1) := by decide +kernel
theorem dX7_spellRight_66 : decode cX7_spellRight 66 = .ok (.aload_n 0, 1) := by decide +kernel
theorem dX7_spellRight_67 : decode cX7_spellRight 67 = .ok (.iload_n 1, 1) := by decide +kernel
theorem dX7_spellRight_68 : decode cX7_spellRight 68 = .ok (.iconst 5, 1) := by decide +kernel
theorem dX7_spellRight_69 : decode cX7_spellRight 69 = .ok (.invokevirtual 113, 3) := by decide +kernel
theorem dX7_spellRight_72 : decode cX7_spellRight 72 = .ok (.invokevirtual 447, 3) := by decide +kernel
theorem dX7_spellRight_75 : decode cX7_spellRight 75 = .ok (.aload_n 0, 1) := by decide +kernel
theorem dX7_spellRight_76 : decode cX7_spellRight 76 = .ok (.iload_n 1, 1) := by decide +kernel
theorem dX7_spellRight_77 : decode cX7_spellRight 77 = .ok (.bipush 7, 2) := by decide +kernel
theorem dX7_spellRight_79 : decode cX7_spellRight 79 = .ok (.invokevirtual 113, 3) := by decide +kernel
theorem dX7_spellRight_82 : decode cX7_spellRight 82 = .ok (.bipush (-2), 2) := by decide +kernel
theorem dX7_spellRight_84 : decode cX7_spellRight 84 = .ok (.if_icmp .ne 4, 3) := by decide +kernel
theorem dX7_spellRight_87 : decode cX7_spellRight 87 = .ok (.return_, 1) := by decide +kernel
theorem dX7_spellRight_88 : decode cX7_spellRight 88 = .ok (.aload_n 0, 1) := by decide +kernel
theorem dX7_spellRight_89 : decode cX7_spellRight 89 = .ok (.ldc_w 456, 3) := by decide +kernel
theorem dX7_spellRight_92 : decode cX7_spellRight 92 = .ok (.invokevirtual 438, 3) := by decide +kernel
theorem dX7_spellRight_95 : decode cX7_spellRight 95 = .ok (.bipush 7, 2) := by decide +kernel
theorem dX7_spellRight_97 : decode cX7_spellRight 97 = .ok (.istore_n 2, 1) := by decide +kernel
theorem dX7_spellRight_98 : decode cX7_spellRight 98 = .ok (.iload_n 2, 1) := by decide +kernel
theorem dX7_spellRight_99 : decode cX7_spellRight 99 = .ok (.bipush 9, 2) := by decide +kernel
theorem dX7_spellRight_101 : decode cX7_spellRight 101 = .ok (.if_icmp .gt 19, 3) := by decide +kernel
theorem dX7_spellRight_104 : decode cX7_spellRight 104 = .ok (.aload_n 0, 1) := by decide +kernel
theorem dX7_spellRight_105 : decode cX7_spellRight 105 = .ok (.aload_n 0, 1) := by decide +kernel
theorem dX7_spellRight_106 : decode cX7_spellRight 106 = .ok (.iload_n 1, 1) := by decide +kernel
theorem dX7_spellRight_107 : decode cX7_spellRight 107 = .ok (.iload_n 2, 1) := by decide +kernel
theorem dX7_spellRight_108 : decode cX7_spellRight 108 = .ok (.invokevirtual 113, 3) := by decide +kernel
theorem dX7_spellRight_111 : decode cX7_spellRight 111 = .ok (.invokevirtual 447, 3) := by decide +kernel
theorem dX7_spellRight_114 : decode cX7_spellRight 114 = .ok (.iinc 2 1, 3) := by decide +kernel
theorem dX7_spellRight_117 : decode cX7_spellRight 117 = .ok (.goto (-19), 3) := by decide +kernel
theorem dX7_spellRight_120 : decode cX7_spellRight 120 = .ok (.return_, 1) := by decide +kernel
theorem dX7_spellStore_0 : decode cX7_spellStore 0 = .ok (.aload_n 0, 1) := by decide +kernel
theorem dX7_spellStore_1 : decode cX7_spellStore 1 = .ok (.ldc_w 401, 3) := by decide +kernel
theorem dX7_spellStore_4 : decode cX7_spellStore 4 = .ok (.invokevirtual 442, 3) := by decide +kernel
theorem dX7_spellStore_7 : decode cX7_spellStore 7 = .ok (.iconst 0, 1) := by decide +kernel
theorem dX7_spellStore_8 : decode cX7_spellStore 8 = .ok (.istore_n 2, 1) := by decide +kernel
theorem dX7_spellStore_9 : decode cX7_spellStore 9 = .ok (.iload_n 2, 1) := by decide +kernel
theorem dX7_spellStore_10 : decode cX7_spellStore 10 = .ok (.iconst 3, 1) := by decide +kernel
theorem dX7_spellStore_11 : decode cX7_spellStore 11 = .ok (.if_icmp .ge 19, 3) := by decide +kernel
theorem dX7_spellStore_14 : decode cX7_spellStore 14 = .ok (.aload_n 0, 1) := by decide +kernel
theorem dX7_spellStore_15 : decode cX7_spellStore 15 = .ok (.aload_n 0, 1) := by decide +kernel
theorem dX7_spellStore_16 : decode cX7_spellStore 16 = .ok (.iload_n 1, 1) := by decide +kernel
theorem dX7_spellStore_17 : decode cX7_spellStore 17 = .ok (.iload_n 2, 1) := by decide +kernel
theorem dX7_spellStore_18 : decode cX7_spellStore 18 = .ok (.invokevirtual 116, 3) := by decide +kernel
theorem dX7_spellStore_21 : decode cX7_spellStore 21 = .ok (.invokevirtual 447, 3) := by decide +kernel
theorem dX7_spellStore_24 : decode cX7_spellStore 24 = .ok (.iinc 2 1, 3) := by decide +kernel
theorem dX7_spellStore_27 : decode cX7_spellStore 27 = .ok (.goto (-18), 3) := by decide +kernel
theorem dX7_spellStore_30 : decode cX7_spellStore 30 = .ok (.aload_n 0, 1) := by decide +kernel
theorem dX7_spellStore_31 : decode cX7_spellStore 31 = .ok (.ldc_w 452, 3) := by decide +kernel
theorem dX7_spellStore_34 : decode cX7_spellStore 34 = .ok (.invokevirtual 438, 3) := by decide +kernel
theorem dX7_spellStore_37 : decode cX7_spellStore 37 = .ok (.aload_n 0, 1) := by decide +kernel
theorem dX7_spellStore_38 : decode cX7_spellStore 38 = .ok (.aload_n 0, 1) := by decide +kernel
theorem dX7_spellStore_39 : decode cX7_spellStore 39 = .ok (.iload_n 1, 1) := by decide +kernel
theorem dX7_spellStore_40 : decode cX7_spellStore 40 = .ok (.iconst 3, 1) := by decide +kernel
theorem dX7_spellStore_41 : decode cX7_spellStore 41 = .ok (.invokevirtual 116, 3) := by decide +kernel
theorem dX7_spellStore_44 : decode cX7_spellStore 44 = .ok (.invokevirtual 447, 3) := by decide +kernel
theorem dX7_spellStore_47 : decode cX7_spellStore 47 = .ok (.return_, 1) := by decide +kernel
theorem dX7_letter_0 : decode cX7_letter 0 = .ok (.iload_n 1, 1) := by decide +kernel
theorem dX7_letter_1 : decode cX7_letter 1 = .ok (.iconst (-1), 1) := by decide +kernel
theorem dX7_letter_2 : decode cX7_letter 2 = .ok (.if_icmp .ge 5, 3) := by decide +kernel
theorem dX7_letter_5 : decode cX7_letter 5 = .ok (.iconst (-1), 1) := by decide +kernel
theorem dX7_letter_6 : decode cX7_letter 6 = .ok (.ireturn, 1) := by decide +kernel
theorem dX7_letter_7 : decode cX7_letter 7 = .ok (.aload_n 0, 1) := by decide +kernel
theorem dX7_letter_8 : decode cX7_letter 8 = .ok (.iconst 0, 1) := by decide +kernel
theorem dX7_letter_9 : decode cX7_letter 9 = .ok (.putfield 426, 3) := by decide +kernel
theorem dX7_letter_12 : decode cX7_letter 12 = .ok (.aload_n 0, 1) := by decide +kernel
theorem dX7_letter_13 : decode cX7_letter 13 = .ok (.iload_n 1, 1) := by decide +kernel
theorem dX7_letter_14 : decode cX7_letter 14 = .ok (.putfield 429, 3) := by decide +kernel
theorem dX7_letter_17 : decode cX7_letter 17 = .ok (.aload_n 0, 1) := by decide +kernel
theorem dX7_letter_18 : decode cX7_letter 18 = .ok (.bipush (-2), 2) := by decide +kernel
theorem dX7_letter_20 : decode cX7_letter 20 = .ok (.putfield 432, 3) := by decide +kernel
theorem dX7_letter_23 : decode cX7_letter 23 = .ok (.iconst 0, 1) := by decide +kernel
theorem dX7_letter_24 : decode cX7_letter 24 = .ok (.istore_n 2, 1) := by decide +kernel
theorem dX7_letter_25 : decode cX7_letter 25 = .ok (.iload_n 2, 1) := by decide +kernel
theorem dX7_letter_26 : decode cX7_letter 26 = .ok (.aload_n 0, 1) := by decide +kernel
theorem dX7_letter_27 : decode cX7_letter 27 = .ok (.invokevirtual 92, 3) := by decide +kernel
theorem dX7_letter_30 : decode cX7_letter 30 = .ok (.if_icmp .ge 14, 3) := by decide +kernel
theorem dX7_letter_33 : decode cX7_letter 33 = .ok (.aload_n 0, 1) := by decide +kernel
theorem dX7_letter_34 : decode cX7_letter 34 = .ok (.iload_n 2, 1) := by decide +kernel
theorem dX7_letter_35 : decode cX7_letter 35 = .ok (.invokevirtual 458, 3) := by decide +kernel
theorem dX7_letter_38 : decode cX7_letter 38 = .ok (.iinc 2 1, 3) := by decide +kernel
theorem dX7_letter_41 : decode cX7_letter 41 = .ok (.goto (-16), 3) := by decide +kernel
theorem dX7_letter_44 : decode cX7_letter 44 = .ok (.iconst 0, 1) := by decide +kernel
theorem dX7_letter_45 : decode cX7_letter 45 = .ok (.istore_n 2, 1) := by decide +kernel
theorem dX7_letter_46 : decode cX7_letter 46 = .ok (.iload_n 2, 1) := by decide +kernel
theorem dX7_letter_47 : decode cX7_letter 47 = .ok (.aload_n 0, 1) := by decide +kernel
theorem dX7_letter_48 : decode cX7_letter 48 = .ok (.invokevirtual 100, 3) := by decide +kernel
theorem dX7_letter_51 : decode cX7_letter 51 = .ok (.if_icmp .ge 14, 3) := by decide +kernel
theorem dX7_letter_54 : decode cX7_letter 54 = .ok (.aload_n 0, 1) := by decide +kernel
theorem dX7_letter_55 : decode cX7_letter 55 = .ok (.iload_n 2, 1) := by decide +kernel
theorem dX7_letter_56 : decode cX7_letter 56 = .ok (.invokevirtual 461, 3) := by decide +kernel
theorem dX7_letter_59 : decode cX7_letter 59 = .ok (.iinc 2 1, 3) := by decide +kernel
theorem dX7_letter_62 : decode cX7_letter 62 = .ok (.goto (-16), 3) := by decide +kernel
theorem dX7_letter_65 : decode cX7_letter 65 = .ok (.iconst 0, 1) := by decide +kernel
theorem dX7_letter_66 : decode cX7_letter 66 = .ok (.istore_n 2, 1) := by decide +kernel
theorem dX7_letter_67 : decode cX7_letter 67 = .ok (.iload_n 2, 1) := by decide +kernel
theorem dX7_letter_68 : decode cX7_letter 68 = .ok (.aload_n 0, 1) := by decide +kernel
theorem dX7_letter_69 : decode cX7_letter 69 = .ok (.invokevirtual 103, 3) := by decide +kernel
theorem dX7_letter_72 : decode cX7_letter 72 = .ok (.if_icmp .ge 14, 3) := by decide +kernel
theorem dX7_letter_75 : decode cX7_letter 75 = .ok (.aload_n 0, 1) := by decide +kernel
theorem dX7_letter_76 : decode cX7_letter 76 = .ok (.iload_n 2, 1) := by decide +kernel
theorem dX7_letter_77 : decode cX7_letter 77 = .ok (.invokevirtual 464, 3) := by decide +kernel
theorem dX7_letter_80 : decode cX7_letter 80 = .ok (.iinc 2 1, 3) := by decide +kernel
theorem dX7_letter_83 : decode cX7_letter 83 = .ok (.goto (-16), 3) := by decide +kernel
theorem dX7_letter_86 : decode cX7_letter 86 = .ok (.aload_n 0, 1) := by decide +kernel
theorem dX7_letter_87 : decode cX7_letter 87 = .ok (.getfield 7, 3) := by decide +kernel
theorem dX7_letter_90 : decode cX7_letter 90 = .ok (.iconst 4, 1) := by decide +kernel
theorem dX7_letter_91 : decode cX7_letter 91 = .ok (.iaload, 1) := by decide +kernel
theorem dX7_letter_92 : decode cX7_letter 92 = .ok (.bipush 100, 2) := by decide +kernel
theorem dX7_letter_94 : decode cX7_letter 94 = .ok (.if_icmp .eq 20, 3) := by decide +kernel
theorem dX7_letter_97 : decode cX7_letter 97 = .ok (.aload_n 0, 1) := by decide +kernel
theorem dX7_letter_98 : decode cX7_letter 98 = .ok (.ldc_w 415, 3) := by decide +kernel
theorem dX7_letter_101 : decode cX7_letter 101 = .ok (.invokevirtual 442, 3) := by decide +kernel
theorem dX7_letter_104 : decode cX7_letter 104 = .ok (.aload_n 0, 1) := by decide +kernel
theorem dX7_letter_105 : decode cX7_letter 105 = .ok (.aload_n 0, 1) := by decide +kernel
theorem dX7_letter_106 : decode cX7_letter 106 = .ok (.getfield 7, 3) := by decide +kernel
theorem dX7_letter_109 : decode cX7_letter 109 = .ok (.iconst 4, 1) := by decide +kernel
theorem dX7_letter_110 : decode cX7_letter 110 = .ok (.iaload, 1) := by decide +kernel
theorem dX7_letter_111 : decode cX7_letter 111 = .ok (.invokevirtual 447, 3) := by decide +kernel
theorem dX7_letter_114 : decode cX7_letter 114 = .ok (.iload_n 1, 1) := by decide +kernel
theorem dX7_letter_115 : decode cX7_letter 115 = .ok (.iconst (-1), 1) := by decide +kernel
theorem dX7_letter_116 : decode cX7_letter 116 = .ok (.if_icmp .ne 10, 3) := by decide +kernel
theorem dX7_letter_119 : decode cX7_letter 119 = .ok (.aload_n 0, 1) := by decide +kernel
theorem dX7_letter_120 : decode cX7_letter 120 = .ok (.getfield 426, 3) := by decide +kernel
theorem dX7_letter_123 : decode cX7_letter 123 = .ok (.goto 7, 3) := by decide +kernel
theorem dX7_letter_126 : decode cX7_letter 126 = .ok (.aload_n 0, 1) := by decide +kernel
theorem dX7_letter_127 : decode cX7_letter 127 = .ok (.getfield 432, 3) := by decide +kernel
theorem dX7_letter_130 : decode cX7_letter 130 = .ok (.ireturn, 1) := by decide +kernel
theorem mv_X7_begins : MV yX7_begins cX7_begins 4 (some .boolean) 3 := ⟨wd_17_1, wd_16_23, wd_17_0, wd_1_5, by decide, by decide, by decide +kernel⟩
theorem mv_X7_byteAt : MV yX7_byteAt cX7_byteAt 2 (some .int) 1 := ⟨wd_16_5, wd_16_3, wd_16_4, wd_1_5, by decide, by decide, by decide +kernel⟩
theorem mv_X7_fails : MV yX7_fails cX7_fails 3 (some .boolean) 2 := ⟨wd_17_5, wd_17_3, wd_17_4, wd_1_5, by decide, by decide, by decide +kernel⟩
theorem mv_X7_isWord : MV yX7_isWord cX7_isWord 4 (some .boolean) 1 := ⟨wd_16_13, wd_16_11, wd_16_12, wd_1_5, by decide, by decide, by decide +kernel⟩
theorem mv_X7_mustWord : MV yX7_mustWord cX7_mustWord 2 (some .boolean) 1 := ⟨wd_18_15, wd_18_13, wd_18_14, wd_1_5, by decide, by decide, by decide +kernel⟩
theorem mv_X7_nextByte : MV yX7_nextByte cX7_nextByte 1 (some .int) 0 := ⟨wd_16_1, wd_15_23, wd_16_0, wd_1_5, by decide, by decide, by decide +kernel⟩
theorem mv_X7_puts : MV yX7_puts cX7_puts 3 none 1 := ⟨wd_8_1, wd_7_23, wd_8_0, wd_1_5, by decide, by decide, by decide +kernel⟩
theorem mv_X7_readsAge : MV yX7_readsAge cX7_readsAge 3 (some .boolean) 1 := ⟨wd_18_11, wd_18_9, wd_18_10, wd_1_5, by decide, by decide, by decide +kernel⟩
theorem mv_X7_readsAll : MV yX7_readsAll cX7_readsAll 2 (some .boolean) 0 := ⟨wd_15_19, wd_15_17, wd_15_18, wd_1_5, by decide, by decide, by decide +kernel⟩
theorem mv_X7_readsBack : MV yX7_readsBack cX7_readsBack 2 (some .boolean) 1 := ⟨wd_18_19, wd_18_17, wd_18_18, wd_1_5, by decide, by decide, by decide +kernel⟩
theorem mv_X7_readsNumber : MV yX7_readsNumber cX7_readsNumber 3 (some .boolean) 2 := ⟨wd_17_22, wd_17_20, wd_17_21, wd_1_5, by decide, by decide, by decide +kernel⟩
theorem mv_X7_readsPart : MV yX7_readsPart cX7_readsPart 1 (some .boolean) 0 := ⟨wd_16_9, wd_16_7, wd_16_8, wd_1_5, by decide, by decide, by decide +kernel⟩
theorem mv_X7_readsReach : MV yX7_readsReach cX7_readsReach 3 (some .boolean) 0 := ⟨wd_16_21, wd_16_19, wd_16_20, wd_1_5, by decide, by decide, by decide +kernel⟩
theorem mv_X7_readsReachOf : MV yX7_readsReachOf cX7_readsReachOf 2 (some .boolean) 1 := ⟨wd_17_13, wd_17_11, wd_17_12, wd_1_5, by decide, by decide, by decide +kernel⟩
theorem mv_X7_readsRight : MV yX7_readsRight cX7_readsRight 2 (some .boolean) 0 := ⟨wd_18_6, wd_18_4, wd_18_5, wd_1_5, by decide, by decide, by decide +kernel⟩
theorem mv_X7_readsStore : MV yX7_readsStore cX7_readsStore 2 (some .boolean) 0 := ⟨wd_18_23, wd_18_21, wd_18_22, wd_1_5, by decide, by decide, by decide +kernel⟩
theorem mv_X7_readsTo : MV yX7_readsTo cX7_readsTo 4 (some .boolean) 3 := ⟨wd_17_17, wd_17_15, wd_17_16, wd_1_5, by decide, by decide, by decide +kernel⟩
theorem mv_X7_readsWet : MV yX7_readsWet cX7_readsWet 1 (some .boolean) 0 := ⟨wd_19_3, wd_19_1, wd_19_2, wd_1_5, by decide, by decide, by decide +kernel⟩
theorem mv_X7_spell : MV yX7_spell cX7_spell 2 none 1 := ⟨wd_56_2, wd_56_0, wd_56_1, wd_1_5, by decide, by decide, by decide +kernel⟩
theorem mv_X7_spellNumber : MV yX7_spellNumber cX7_spellNumber 3 none 1 := ⟨wd_56_10, wd_56_8, wd_56_9, wd_1_5, by decide, by decide, by decide +kernel⟩
theorem mv_X7_spellPart : MV yX7_spellPart cX7_spellPart 2 none 1 := ⟨wd_55_22, wd_55_20, wd_55_21, wd_1_5, by decide, by decide, by decide +kernel⟩
theorem mv_X7_spellReach : MV yX7_spellReach cX7_spellReach 3 none 1 := ⟨wd_55_18, wd_55_16, wd_55_17, wd_1_5, by decide, by decide, by decide +kernel⟩
theorem mv_X7_spellRight : MV yX7_spellRight cX7_spellRight 3 none 1 := ⟨wd_56_14, wd_56_12, wd_56_13, wd_1_5, by decide, by decide, by decide +kernel⟩
theorem mv_X7_spellStore : MV yX7_spellStore cX7_spellStore 3 none 1 := ⟨wd_56_18, wd_56_16, wd_56_17, wd_1_5, by decide, by decide, by decide +kernel⟩
theorem mv_X7_spellWord : MV yX7_spellWord cX7_spellWord 3 none 1 := ⟨wd_56_6, wd_56_4, wd_56_5, wd_1_5, by decide, by decide, by decide +kernel⟩
theorem mv_X7_takesWord : MV yX7_takesWord cX7_takesWord 3 (some .boolean) 1 := ⟨wd_17_9, wd_17_7, wd_17_8, wd_1_5, by decide, by decide, by decide +kernel⟩
set_option maxHeartbeats 4000000 in
set_option maxRecDepth 100000 in
theorem c_X7_fails (E : Ev) (nw : TD) (ws : TD) (kp : TD) (as : TD) (rd : TD) (sc : TD) (un : Int × Int) (tk : Int × Int) (xt : Int × Int) (tp : Int × Int) (sp : Int × Int) (nu : Int × Int) (a0 : Nat) (a1 : Int32) (a2 : Int32) (ha0 : eT E a0 ∈ [24]) : TcI E yX7_fails cX7_fails 3 .boolean ({ frames := 1, cells := 0, slots := 0, locals := 40 }) [.ref a0, .int a1, .int a2] (fun H => TH E (tbM (mD (.inl tp) (.inl sp) (.inl nu) (.inl un) (.inl tk) (.inl xt)) nw ws kp as rd sc) H) (fun v H => (0 ≤ v.toInt ∧ v.toInt ≤ 0) ∧ TH E (tbM (mD (.inl tp) (.inl sp) (.inl nu) (.inl un) (.inl tk) (.inl xt)) nw ws kp as rd sc) H) := by
  refine teI (by decide) (Nat.le_of_ble_eq_true rfl) ?_
  intro p_ ev_ s mi_ below_ meth cd_ ls F hK hN hO hH hS hl
  have hH : TH E (tbM (mD (.inl tp) (.inl sp) (.inl nu) (.inl un) (.inl tk) (.inl xt)) nw ws kp as rd sc) s.heap := hH
  have hl : lv_has ls 3 [(0, .ref a0), (1, .int a1), (2, .int a2)] := hl
  refine lv_aload_n F.1 F.2.1 dX7_fails_0 rfl (lv_at hl 0 rfl) ?_
  refine lv_bipush (v := 8) F.1 F.2.1 dX7_fails_1 (by decide) ?_
  refine topK (a := 8) (by decide) (fun k_1 hk_1 => ?_)
  refine lv_iload_n F.1 F.2.1 dX7_fails_3 rfl (lv_at hl 2 rfl) ?_
  refine lv_imul F.1 F.2.1 dX7_fails_4 ?_
  refine topF (fun z_2 => ?_)
  refine lv_iload_n F.1 F.2.1 dX7_fails_5 rfl (lv_at hl 1 rfl) ?_
  refine lv_iadd F.1 F.2.1 dX7_fails_6 ?_
  refine topF (fun z_3 => ?_)
  refine tPut (j := 32) F hK hH hS (tyb ha0 (all1 rfl)) rfl (fdI (i32b _)) clX7 (by decide) wd_15_14 rfl rfl rfl rfl dX7_fails_7 (fun H locs hH hS => ?_)
  refine lv_iconst (v := 0) F.1 F.2.1 dX7_fails_10 (by decide) ?_
  refine topK (a := 0) (by decide) (fun k_4 hk_4 => ?_)
  exact txI F hS dX7_fails_11 (nar01 (wkb (eqb hk_4) rfl rfl)) (⟨(eqb hk_4), hH⟩)
set_option maxHeartbeats 4000000 in
set_option maxRecDepth 100000 in
theorem c_X7_byteAt (E : Ev) (nw : TD) (ws : TD) (kp : TD) (as : TD) (rd : TD) (sc : TD) (un : Int × Int) (tk : Int × Int) (xt : Int × Int) (sp : Int × Int) (nu : Int × Int) (t : Int) (a0 : Nat) (a1 : Int32) (ha0 : eT E a0 ∈ [24]) (ha1 : 0 ≤ a1.toInt ∧ a1.toInt ≤ 2147483647) (ht : 0 ≤ t ∧ t ≤ 400) : TcI E yX7_byteAt cX7_byteAt 2 .int ({ frames := 1, cells := 0, slots := 0, locals := 40 }) [.ref a0, .int a1] (fun H => TH E (tbM (mD (.inl (t, t)) (.inl sp) (.inl nu) (.inl un) (.inl tk) (.inl xt)) nw ws kp as rd sc) H) (fun v H => ((-2147483648) ≤ v.toInt ∧ v.toInt ≤ 2147483647) ∧ (a1.toInt < t ∨ v.toInt = -1) ∧ TH E (tbM (mD (.inl (t, t)) (.inl sp) (.inl nu) (.inl un) (.inl tk) (.inl xt)) nw ws kp as rd sc) H) := by
  refine teI (by decide) (Nat.le_of_ble_eq_true rfl) ?_
  intro p_ ev_ s mi_ below_ meth cd_ ls F hK hN hO hH hS hl
  have hH : TH E (tbM (mD (.inl (t, t)) (.inl sp) (.inl nu) (.inl un) (.inl tk) (.inl xt)) nw ws kp as rd sc) s.heap := hH
  have hl : lv_has ls 2 [(0, .ref a0), (1, .int a1)] := hl
  refine lv_iload_n F.1 F.2.1 dX7_byteAt_0 rfl (lv_at hl 1 rfl) ?_
  refine lv_aload_n F.1 F.2.1 dX7_byteAt_1 rfl (lv_at hl 0 rfl) ?_
  refine tGetI (j := 30) F hK hH (tyb ha0 (all1 rfl)) rfl clX7 (by decide) wd_7_21 dX7_byteAt_2 (fun z_1 hz_1 => ?_)
  have ez_1 : 0 ≤ z_1.toInt ∧ z_1.toInt ≤ 400 := by omega
  refine b_ge (tgt := 21) F dX7_byteAt_5 (by decide) (fun c_2 => ?_) (fun c_2 => ?_)
  · skip
    refine lv_iconst (v := (-1)) F.1 F.2.1 dX7_byteAt_21 (by decide) ?_
    refine topK (a := (-1)) (by decide) (fun k_5 hk_5 => ?_)
    exact txI F hS dX7_byteAt_22 rfl (⟨(wkb (eqb hk_5) rfl rfl), (by omega), hH⟩)
  · skip
    have r_3 : 0 ≤ a1.toInt ∧ a1.toInt ≤ 399 := by have h9_ := ha1; omega
    have r_4 : 1 ≤ z_1.toInt ∧ z_1.toInt ≤ 400 := by have h9_ := ez_1; omega
    refine lv_aload_n F.1 F.2.1 dX7_byteAt_8 rfl (lv_at hl 0 rfl) ?_
    refine tGetR (j := 29) F hK hH (tyb ha0 (all1 rfl)) rfl (all1 rfl) clX7 (by decide) wd_7_4 dX7_byteAt_9 (fun q_6 hq_6 _ => ?_)
    refine lv_iload_n F.1 F.2.1 dX7_byteAt_12 rfl (lv_at hl 1 rfl) ?_
    refine tBaldB F hK hH (tyb hq_6 (all1 rfl)) (ixb (n := 400) r_3 rfl rfl) dX7_byteAt_13 (fun z_7 hz_7 => ?_)
    refine lv_sipush (v := 255) F.1 F.2.1 dX7_byteAt_14 (by decide) ?_
    refine topK (a := 255) (by decide) (fun k_8 hk_8 => ?_)
    refine lv_iand F.1 F.2.1 dX7_byteAt_17 ?_
    refine topF (fun z_9 => ?_)
    refine lv_goto (tgt := 22) F.1 F.2.1 dX7_byteAt_18 (by decide) ?_
    exact txI F hS dX7_byteAt_22 rfl (⟨(i32b _), (by omega), hH⟩)
set_option maxHeartbeats 4000000 in
set_option maxRecDepth 100000 in
theorem c_X7_nextByte (E : Ev) (nw : TD) (ws : TD) (kp : TD) (as : TD) (rd : TD) (sc : TD) (un : Int × Int) (tk : Int × Int) (xt : Int × Int) (nu : Int × Int) (t : Int) (p : Int) (b : Int) (a0 : Nat) (ha0 : eT E a0 ∈ [24]) (ht : 0 ≤ t ∧ t ≤ 400) (hp : 0 ≤ p ∧ p ≤ 4000) (hb : p ≤ b ∧ 400 ≤ b ∧ b ≤ 4000) : TcI E yX7_nextByte cX7_nextByte 1 .int ({ frames := 2, cells := 0, slots := 0, locals := 61 }) [.ref a0] (fun H => TH E (tbM (mD (.inl (t, t)) (.inl (p, p)) (.inl nu) (.inl un) (.inl tk) (.inl xt)) nw ws kp as rd sc) H) (fun v H => ∃ p2 : Int, (0 ≤ p2 ∧ p2 ≤ 5000 ∧ p ≤ p2 ∧ p2 ≤ b + 0) ∧ ((-2147483648) ≤ v.toInt ∧ v.toInt ≤ 2147483647) ∧ (p2 < t ∨ v.toInt = -1) ∧ TH E (tbM (mD (.inl (t, t)) (.inl (p2, p2)) (.inl nu) (.inl un) (.inl tk) (.inl xt)) nw ws kp as rd sc) H) := by
  refine teI (by decide) (Nat.le_of_ble_eq_true rfl) ?_
  intro p_ ev_ s mi_ below_ meth cd_ ls F hK hN hO hH hS hl
  have hH : TH E (tbM (mD (.inl (t, t)) (.inl (p, p)) (.inl nu) (.inl un) (.inl tk) (.inl xt)) nw ws kp as rd sc) s.heap := hH
  have hl : lv_has ls 1 [(0, .ref a0)] := hl
  refine wloop (σ := Int) (fun n9 x9 H locs ls => (5000 - x9).toNat < n9 ∧ (0 ≤ x9 ∧ x9 ≤ 4000) ∧ (p ≤ x9) ∧ (x9 ≤ b) ∧ TH E (tbM (mD (.inl (t, t)) (.inl (x9, x9)) (.inl nu) (.inl un) (.inl tk) (.inl xt)) nw ws kp as rd sc) H ∧ va_S (eA E s.heap.size) s.heap H locs ∧ lv_has ls 1 [(0, .ref a0)]) ?_ (fun x9 H locs ls h => absurd h.1 (Nat.not_lt_zero _)) _ (p) ⟨Nat.lt_succ_self _, (show 0 ≤ p ∧ p ≤ 4000 from by omega), (show p ≤ p from by omega), (show p ≤ b from by omega), hH, hS, lv_sub hl [0] rfl⟩
  intro n_0 ih_0 g_1 H locs ls ⟨hm_0, hg_1, hcr0_0, hcr0_1, hH, hS, hl⟩
  have hm_0 : (5000 - g_1).toNat < n_0 + 1 := hm_0
  have hg_1 : (0 ≤ g_1 ∧ g_1 ≤ 4000) := hg_1
  have hcr0_0 : (p ≤ g_1) := hcr0_0
  have hcr0_1 : (g_1 ≤ b) := hcr0_1
  have hH : TH E (tbM (mD (.inl (t, t)) (.inl (g_1, g_1)) (.inl nu) (.inl un) (.inl tk) (.inl xt)) nw ws kp as rd sc) H := hH
  have hl : lv_has ls 1 [(0, .ref a0)] := hl
  refine lv_aload_n F.1 F.2.1 dX7_nextByte_0 rfl (lv_at hl 0 rfl) ?_
  refine lv_aload_n F.1 F.2.1 dX7_nextByte_1 rfl (lv_at hl 0 rfl) ?_
  refine tGetI (j := 31) F hK hH (tyb ha0 (all1 rfl)) rfl clX7 (by decide) wd_15_21 dX7_nextByte_2 (fun z_2 hz_2 => ?_)
  have ez_2 : 0 ≤ z_2.toInt ∧ z_2.toInt ≤ 4000 := by omega
  refine tVi (b := a0) (As := [.int z_2]) (rest := []) F hK hN hO (c_X7_byteAt E nw ws kp as rd sc un tk xt (g_1, g_1) nu t a0 z_2 ha0 (wkb ez_2 rfl rfl) (by omega)) mv_X7_byteAt wd_16_2 ⟨Nat.le_of_ble_eq_true rfl, Nat.le_of_ble_eq_true rfl⟩ ⟨Nat.le_of_ble_eq_true rfl, Nat.le_of_ble_eq_true rfl⟩ hH hS (tRecv hK hH (tyb ha0 (all1 rfl)) clX7) rfl hl.1 (Nat.le_of_ble_eq_true rfl) dX7_nextByte_5 (fun z_3 H locs hq hS => ?_)
  obtain ⟨f_4, f_5, hH⟩ := hq
  have hH : TH E (tbM (mD (.inl (t, t)) (.inl (g_1, g_1)) (.inl nu) (.inl un) (.inl tk) (.inl xt)) nw ws kp as rd sc) H := hH
  refine lv_bipush (v := 32) F.1 F.2.1 dX7_nextByte_8 (by decide) ?_
  refine topK (a := 32) (by decide) (fun k_6 hk_6 => ?_)
  refine b_ne (tgt := 26) F dX7_nextByte_10 (by decide) (fun c_7 => ?_) (fun c_7 => ?_)
  · skip
    refine lv_aload_n F.1 F.2.1 dX7_nextByte_26 rfl (lv_at hl 0 rfl) ?_
    refine lv_aload_n F.1 F.2.1 dX7_nextByte_27 rfl (lv_at hl 0 rfl) ?_
    refine tGetI (j := 31) F hK hH (tyb ha0 (all1 rfl)) rfl clX7 (by decide) wd_15_21 dX7_nextByte_28 (fun z_9 hz_9 => ?_)
    have ez_9 : 0 ≤ z_9.toInt ∧ z_9.toInt ≤ 4000 := by omega
    refine tVi (b := a0) (As := [.int z_9]) (rest := []) F hK hN hO (c_X7_byteAt E nw ws kp as rd sc un tk xt (g_1, g_1) nu t a0 z_9 ha0 (wkb ez_9 rfl rfl) (by omega)) mv_X7_byteAt wd_16_2 ⟨Nat.le_of_ble_eq_true rfl, Nat.le_of_ble_eq_true rfl⟩ ⟨Nat.le_of_ble_eq_true rfl, Nat.le_of_ble_eq_true rfl⟩ hH hS (tRecv hK hH (tyb ha0 (all1 rfl)) clX7) rfl hl.1 (Nat.le_of_ble_eq_true rfl) dX7_nextByte_31 (fun z_10 H locs hq hS => ?_)
    obtain ⟨f_11, f_12, hH⟩ := hq
    have hH : TH E (tbM (mD (.inl (t, t)) (.inl (g_1, g_1)) (.inl nu) (.inl un) (.inl tk) (.inl xt)) nw ws kp as rd sc) H := hH
    exact txI F hS dX7_nextByte_34 rfl (⟨g_1, ⟨by omega, by omega, by omega, by omega⟩, f_11, (by omega), hH⟩)
  · skip
    have r_8 : 32 ≤ z_3.toInt ∧ z_3.toInt ≤ 32 := by have h9_ := f_4; omega
    refine lv_aload_n F.1 F.2.1 dX7_nextByte_13 rfl (lv_at hl 0 rfl) ?_
    refine lv_dup F.1 F.2.1 dX7_nextByte_14 rfl ?_
    refine tGetI (j := 31) F hK hH (tyb ha0 (all1 rfl)) rfl clX7 (by decide) wd_15_21 dX7_nextByte_15 (fun z_13 hz_13 => ?_)
    have ez_13 : 0 ≤ z_13.toInt ∧ z_13.toInt ≤ 4000 := by omega
    refine lv_iconst (v := 1) F.1 F.2.1 dX7_nextByte_18 (by decide) ?_
    refine topK (a := 1) (by decide) (fun k_14 hk_14 => ?_)
    refine tAdd (lo := 1) (hi := 4001) F dX7_nextByte_19 ez_13 (eqb hk_14) rfl (fun z_15 hz_15 => ?_)
    obtain ⟨g_16, hg_16⟩ : ∃ y : Int, z_15.toInt = y := ⟨_, rfl⟩
    have bg_16 : 1 ≤ g_16 ∧ g_16 ≤ 4001 := by rw [← hg_16]; exact hz_15.2
    refine tPutG (j := 31) (t := 24) (fd := (.inl (g_16, g_16))) F hK hH hS (List.mem_singleton.mp ha0) (by decide) rfl rfl (fdI (by omega)) (TB1 := (tbM (mD (.inl (t, t)) (.inl (g_16, g_16)) (.inl nu) (.inl un) (.inl tk) (.inl xt)) nw ws kp as rd sc)) rfl clX7 (by decide) wd_15_21 rfl rfl rfl rfl dX7_nextByte_20 (fun H locs hH hS => ?_)
    refine lv_goto (tgt := 0) F.1 F.2.1 dX7_nextByte_23 (by decide) ?_
    exact ih_0 (g_16) _ _ _ ⟨(show (5000 - g_16).toNat < n_0 from by omega), (show 0 ≤ g_16 ∧ g_16 ≤ 4000 from by omega), (show p ≤ g_16 from by omega), (show g_16 ≤ b from by omega), hH, hS, lv_sub hl [0] rfl⟩
set_option maxHeartbeats 4000000 in
set_option maxRecDepth 100000 in
theorem c_X7_isWord (E : Ev) (nw : TD) (ws : TD) (kp : TD) (as : TD) (rd : TD) (sc : TD) (un : Int × Int) (tk : Int × Int) (xt : Int × Int) (nu : Int × Int) (t : Int) (p : Int) (b : Int) (a0 : Nat) (t1 n1 : Nat) (ha0 : eT E a0 ∈ [24]) (ha1 : strOf t1 n1) (ht : 0 ≤ t ∧ t ≤ 400) (hp : 0 ≤ p ∧ p ≤ 4000) (hb : p ≤ b ∧ 400 ≤ b ∧ b ≤ 4000) : TcI E yX7_isWord cX7_isWord 4 .boolean ({ frames := 5, cells := 0, slots := 0, locals := 181 }) [.ref a0, .ref (eX E t1)] (fun H => TH E (tbM (mD (.inl (t, t)) (.inl (p, p)) (.inl nu) (.inl un) (.inl tk) (.inl xt)) nw ws kp as rd sc) H) (fun v H => ∃ p2 : Int, (0 ≤ p2 ∧ p2 ≤ 5000 ∧ p ≤ p2 ∧ p2 ≤ b + 0) ∧ (0 ≤ v.toInt ∧ v.toInt ≤ 1) ∧ TH E (tbM (mD (.inl (t, t)) (.inl (p2, p2)) (.inl nu) (.inl un) (.inl tk) (.inl xt)) nw ws kp as rd sc) H) := by
  refine teI (by decide) (Nat.le_of_ble_eq_true rfl) ?_
  intro p_ ev_ s mi_ below_ meth cd_ ls F hK hN hO hH hS hl
  have hH : TH E (tbM (mD (.inl (t, t)) (.inl (p, p)) (.inl nu) (.inl un) (.inl tk) (.inl xt)) nw ws kp as rd sc) s.heap := hH
  have hl : lv_has ls 4 [(0, .ref a0), (1, .ref (eX E t1))] := hl
  refine lv_aload_n F.1 F.2.1 dX7_isWord_0 rfl (lv_at hl 0 rfl) ?_
  refine tVi (b := a0) (As := []) (rest := []) F hK hN hO (c_X7_nextByte E nw ws kp as rd sc un tk xt nu t p b a0 ha0 (by omega) (by omega) (by omega)) mv_X7_nextByte wd_15_22 ⟨Nat.le_of_ble_eq_true rfl, Nat.le_of_ble_eq_true rfl⟩ ⟨Nat.le_of_ble_eq_true rfl, Nat.le_of_ble_eq_true rfl⟩ hH hS (tRecv hK hH (tyb ha0 (all1 rfl)) clX7) rfl hl.1 (Nat.le_of_ble_eq_true rfl) dX7_isWord_1 (fun z_1 H locs hq hS => ?_)
  obtain ⟨g_2, hg_2, f_3, f_4, hH⟩ := hq
  have hH : TH E (tbM (mD (.inl (t, t)) (.inl (g_2, g_2)) (.inl nu) (.inl un) (.inl tk) (.inl xt)) nw ws kp as rd sc) H := hH
  refine lv_iconst (v := (-1)) F.1 F.2.1 dX7_isWord_4 (by decide) ?_
  refine topK (a := (-1)) (by decide) (fun k_5 hk_5 => ?_)
  refine b_ne (tgt := 15) F dX7_isWord_5 (by decide) (fun c_6 => ?_) (fun c_6 => ?_)
  · skip
    refine lv_aload_n F.1 F.2.1 dX7_isWord_15 rfl (lv_at hl 0 rfl) ?_
    refine tGetI (j := 31) F hK hH (tyb ha0 (all1 rfl)) rfl clX7 (by decide) wd_15_21 dX7_isWord_16 (fun z_8 hz_8 => ?_)
    have ez_8 : 0 ≤ z_8.toInt ∧ z_8.toInt ≤ 5000 := by omega
    refine lv_istore_n (lv' := [(2, .int z_8), (0, .ref a0), (1, .ref (eX E t1))]) F.1 F.2.1 dX7_isWord_19 rfl hl (by decide) rfl (fun ls hl => ?_)
    refine lv_iconst (v := 0) F.1 F.2.1 dX7_isWord_20 (by decide) ?_
    refine topK (a := 0) (by decide) (fun k_9 hk_9 => ?_)
    refine lv_istore_n (lv' := [(3, .int k_9), (2, .int z_8), (0, .ref a0), (1, .ref (eX E t1))]) F.1 F.2.1 dX7_isWord_21 rfl hl (by decide) rfl (fun ls hl => ?_)
    refine wloop (σ := Int32) (fun n9 x9 H locs ls => (9 - x9.toInt + 1).toNat < n9 ∧ (0 ≤ x9.toInt ∧ x9.toInt ≤ 9) ∧ TH E (tbM (mD (.inl (t, t)) (.inl (g_2, g_2)) (.inl nu) (.inl un) (.inl tk) (.inl xt)) nw ws kp as rd sc) H ∧ va_S (eA E s.heap.size) s.heap H locs ∧ lv_has ls 4 [(0, .ref a0), (1, .ref (eX E t1)), (2, .int z_8), (3, .int x9)]) ?_ (fun x9 H locs ls h => absurd h.1 (Nat.not_lt_zero _)) _ (k_9) ⟨Nat.lt_succ_self _, (wkb (eqb hk_9) rfl rfl), hH, hS, lv_sub hl [2, 3, 1, 0] rfl⟩
    intro n_22 ih_22 u_10 H locs ls ⟨hm_22, hu_10, hH, hS, hl⟩
    have hm_22 : (9 - u_10.toInt + 1).toNat < n_22 + 1 := hm_22
    have hu_10 : (0 ≤ u_10.toInt ∧ u_10.toInt ≤ 9) := hu_10
    have hH : TH E (tbM (mD (.inl (t, t)) (.inl (g_2, g_2)) (.inl nu) (.inl un) (.inl tk) (.inl xt)) nw ws kp as rd sc) H := hH
    have hl : lv_has ls 4 [(0, .ref a0), (1, .ref (eX E t1)), (2, .int z_8), (3, .int u_10)] := hl
    refine lv_iload_n F.1 F.2.1 dX7_isWord_22 rfl (lv_at hl 3 rfl) ?_
    refine lv_aload_n F.1 F.2.1 dX7_isWord_23 rfl (lv_at hl 1 rfl) ?_
    refine tVi (b := (eX E t1)) (As := []) (rest := [.int u_10]) F hK hN hO (c_len E (fun H => TH E (tbM (mD (.inl (t, t)) (.inl (g_2, g_2)) (.inl nu) (.inl un) (.inl tk) (.inl xt)) nw ws kp as rd sc) H) t1 n1 ha1) mv_J0_length_8abf5 wd_16_16 ⟨Nat.le_of_ble_eq_true rfl, Nat.le_of_ble_eq_true rfl⟩ ⟨Nat.le_of_ble_eq_true rfl, Nat.le_of_ble_eq_true rfl⟩ hH hS (sRecvS hO ha1 hS) rfl hl.1 (Nat.le_of_ble_eq_true rfl) dX7_isWord_24 (fun z_11 H locs hq hS => ?_)
    obtain ⟨hz_11, hH⟩ := hq
    have hH : TH E (tbM (mD (.inl (t, t)) (.inl (g_2, g_2)) (.inl nu) (.inl un) (.inl tk) (.inl xt)) nw ws kp as rd sc) H := hH
    have ez_11 : 3 ≤ z_11.toInt ∧ z_11.toInt ≤ 6 := by have h9_ := strLe ha1; omega
    refine wjoin (σ := Unit) (pcj := 51) (stj := fun x9 => []) (fun x9 H locs ls => TH E (tbM (mD (.inl (t, t)) (.inl (g_2, g_2)) (.inl nu) (.inl un) (.inl tk) (.inl xt)) nw ws kp as rd sc) H ∧ va_S (eA E s.heap.size) s.heap H locs ∧ lv_has ls 4 [(0, .ref a0), (1, .ref (eX E t1)), (2, .int z_8), (3, .int u_10)]) (fun x9 H locs ls h_ => ?_) (fun J_51 => ?_)
    · skip
      obtain ⟨hH, hS, hl⟩ := h_
      have hH : TH E (tbM (mD (.inl (t, t)) (.inl (g_2, g_2)) (.inl nu) (.inl un) (.inl tk) (.inl xt)) nw ws kp as rd sc) H := hH
      have hl : lv_has ls 4 [(0, .ref a0), (1, .ref (eX E t1)), (2, .int z_8), (3, .int u_10)] := hl
      show W _ _ _ _ _ _ _ _ _ _ _ _ _ _ _ (F0 _ _ _ [])
      refine lv_iload_n F.1 F.2.1 dX7_isWord_51 rfl (lv_at hl 3 rfl) ?_
      refine lv_aload_n F.1 F.2.1 dX7_isWord_52 rfl (lv_at hl 1 rfl) ?_
      refine tVi (b := (eX E t1)) (As := []) (rest := [.int u_10]) F hK hN hO (c_len E (fun H => TH E (tbM (mD (.inl (t, t)) (.inl (g_2, g_2)) (.inl nu) (.inl un) (.inl tk) (.inl xt)) nw ws kp as rd sc) H) t1 n1 ha1) mv_J0_length_8abf5 wd_16_16 ⟨Nat.le_of_ble_eq_true rfl, Nat.le_of_ble_eq_true rfl⟩ ⟨Nat.le_of_ble_eq_true rfl, Nat.le_of_ble_eq_true rfl⟩ hH hS (sRecvS hO ha1 hS) rfl hl.1 (Nat.le_of_ble_eq_true rfl) dX7_isWord_53 (fun z_12 H locs hq hS => ?_)
      obtain ⟨hz_12, hH⟩ := hq
      have hH : TH E (tbM (mD (.inl (t, t)) (.inl (g_2, g_2)) (.inl nu) (.inl un) (.inl tk) (.inl xt)) nw ws kp as rd sc) H := hH
      have ez_12 : 3 ≤ z_12.toInt ∧ z_12.toInt ≤ 6 := by have h9_ := strLe ha1; omega
      refine b_ne (tgt := 83) F dX7_isWord_56 (by decide) (fun c_13 => ?_) (fun c_13 => ?_)
      · skip
        refine lv_iconst (v := 0) F.1 F.2.1 dX7_isWord_83 (by decide) ?_
        refine topK (a := 0) (by decide) (fun k_15 hk_15 => ?_)
        exact txI F hS dX7_isWord_84 (nar01 (wkb (eqb hk_15) rfl rfl)) (⟨g_2, ⟨by omega, by omega, by omega, by omega⟩, (wkb (eqb hk_15) rfl rfl), hH⟩)
      · skip
        have r_14 : 3 ≤ u_10.toInt ∧ u_10.toInt ≤ 6 := by have h9_ := hu_10; omega
        refine lv_aload_n F.1 F.2.1 dX7_isWord_59 rfl (lv_at hl 0 rfl) ?_
        refine lv_iload_n F.1 F.2.1 dX7_isWord_60 rfl (lv_at hl 2 rfl) ?_
        refine lv_iload_n F.1 F.2.1 dX7_isWord_61 rfl (lv_at hl 3 rfl) ?_
        refine tAdd (lo := 3) (hi := 5006) F dX7_isWord_62 ez_8 r_14 rfl (fun z_16 hz_16 => ?_)
        refine tVi (b := a0) (As := [.int z_16]) (rest := []) F hK hN hO (c_X7_byteAt E nw ws kp as rd sc un tk xt (g_2, g_2) nu t a0 z_16 ha0 (wkb hz_16.2 rfl rfl) (by omega)) mv_X7_byteAt wd_16_2 ⟨Nat.le_of_ble_eq_true rfl, Nat.le_of_ble_eq_true rfl⟩ ⟨Nat.le_of_ble_eq_true rfl, Nat.le_of_ble_eq_true rfl⟩ hH hS (tRecv hK hH (tyb ha0 (all1 rfl)) clX7) rfl hl.1 (Nat.le_of_ble_eq_true rfl) dX7_isWord_63 (fun z_17 H locs hq hS => ?_)
        obtain ⟨f_18, f_19, hH⟩ := hq
        have hH : TH E (tbM (mD (.inl (t, t)) (.inl (g_2, g_2)) (.inl nu) (.inl un) (.inl tk) (.inl xt)) nw ws kp as rd sc) H := hH
        refine tI2l F dX7_isWord_66 (fun w_20 hw_20 => ?_)
        refine lv_ldc2 (own := RX7) (v := 97) F.1 F.2.1 F.2.2.2.2.1 (F.2.2.2.2.2.2.1 _ wd_16_14) dX7_isWord_67 ?_
        refine topKL (a := 97) (by decide) (fun j_21 hj_21 => ?_)
        refine lv_ldc2 (own := RX7) (v := 122) F.1 F.2.1 F.2.2.2.2.1 (F.2.2.2.2.2.2.1 _ wd_16_15) dX7_isWord_70 ?_
        refine topKL (a := 122) (by decide) (fun j_22 hj_22 => ?_)
        refine tSi (As := [.long w_20, .long j_21, .long j_22]) (rest := []) F hK hN hO (c_X7_in E (mD (.inl (t, t)) (.inl (g_2, g_2)) (.inl nu) (.inl un) (.inl tk) (.inl xt)) nw ws kp as rd sc w_20 j_21 j_22) ms_X7_in wd_8_10 ⟨Nat.le_of_ble_eq_true rfl, Nat.le_of_ble_eq_true rfl⟩ ⟨Nat.le_of_ble_eq_true rfl, Nat.le_of_ble_eq_true rfl⟩ hH hS rfl hl.1 (Nat.le_of_ble_eq_true rfl) dX7_isWord_73 (fun z_23 H locs hq hS => ?_)
        obtain ⟨f_24, f_25, hH⟩ := hq
        have hH : TH E (tbM (mD (.inl (t, t)) (.inl (g_2, g_2)) (.inl nu) (.inl un) (.inl tk) (.inl xt)) nw ws kp as rd sc) H := hH
        refine z_ne (tgt := 83) F dX7_isWord_76 (by decide) (fun c_26 => ?_) (fun c_26 => ?_)
        · skip
          have r_27 : 1 ≤ z_23.toInt ∧ z_23.toInt ≤ 1 := by have h9_ := f_24; omega
          have r_28 : 97 ≤ z_17.toInt ∧ z_17.toInt ≤ 122 := by have h9_ := f_18; omega
          refine lv_iconst (v := 0) F.1 F.2.1 dX7_isWord_83 (by decide) ?_
          refine topK (a := 0) (by decide) (fun k_30 hk_30 => ?_)
          exact txI F hS dX7_isWord_84 (nar01 (wkb (eqb hk_30) rfl rfl)) (⟨g_2, ⟨by omega, by omega, by omega, by omega⟩, (wkb (eqb hk_30) rfl rfl), hH⟩)
        · skip
          have r_29 : 0 ≤ z_23.toInt ∧ z_23.toInt ≤ 0 := by have h9_ := f_24; omega
          refine lv_iconst (v := 1) F.1 F.2.1 dX7_isWord_79 (by decide) ?_
          refine topK (a := 1) (by decide) (fun k_31 hk_31 => ?_)
          refine lv_goto (tgt := 84) F.1 F.2.1 dX7_isWord_80 (by decide) ?_
          exact txI F hS dX7_isWord_84 (nar01 (wkb (eqb hk_31) rfl rfl)) (⟨g_2, ⟨by omega, by omega, by omega, by omega⟩, (wkb (eqb hk_31) rfl rfl), hH⟩)
    refine b_ge (tgt := 51) F dX7_isWord_27 (by decide) (fun c_32 => ?_) (fun c_32 => ?_)
    · skip
      have r_33 : 3 ≤ u_10.toInt ∧ u_10.toInt ≤ 9 := by have h9_ := hu_10; omega
      exact J_51 () _ _ _ ⟨hH, hS, lv_sub hl [0, 1, 2, 3] rfl⟩
    · skip
      have r_34 : 0 ≤ u_10.toInt ∧ u_10.toInt ≤ 5 := by have h9_ := hu_10; omega
      refine lv_aload_n F.1 F.2.1 dX7_isWord_30 rfl (lv_at hl 0 rfl) ?_
      refine lv_iload_n F.1 F.2.1 dX7_isWord_31 rfl (lv_at hl 2 rfl) ?_
      refine lv_iload_n F.1 F.2.1 dX7_isWord_32 rfl (lv_at hl 3 rfl) ?_
      refine tAdd (lo := 0) (hi := 5005) F dX7_isWord_33 ez_8 r_34 rfl (fun z_35 hz_35 => ?_)
      refine tVi (b := a0) (As := [.int z_35]) (rest := []) F hK hN hO (c_X7_byteAt E nw ws kp as rd sc un tk xt (g_2, g_2) nu t a0 z_35 ha0 (wkb hz_35.2 rfl rfl) (by omega)) mv_X7_byteAt wd_16_2 ⟨Nat.le_of_ble_eq_true rfl, Nat.le_of_ble_eq_true rfl⟩ ⟨Nat.le_of_ble_eq_true rfl, Nat.le_of_ble_eq_true rfl⟩ hH hS (tRecv hK hH (tyb ha0 (all1 rfl)) clX7) rfl hl.1 (Nat.le_of_ble_eq_true rfl) dX7_isWord_34 (fun z_36 H locs hq hS => ?_)
      obtain ⟨f_37, f_38, hH⟩ := hq
      have hH : TH E (tbM (mD (.inl (t, t)) (.inl (g_2, g_2)) (.inl nu) (.inl un) (.inl tk) (.inl xt)) nw ws kp as rd sc) H := hH
      refine lv_aload_n F.1 F.2.1 dX7_isWord_37 rfl (lv_at hl 1 rfl) ?_
      refine lv_iload_n F.1 F.2.1 dX7_isWord_38 rfl (lv_at hl 3 rfl) ?_
      refine tVi (b := (eX E t1)) (As := [.int u_10]) (rest := [.int z_36]) F hK hN hO (c_chr E (fun H => TH E (tbM (mD (.inl (t, t)) (.inl (g_2, g_2)) (.inl nu) (.inl un) (.inl tk) (.inl xt)) nw ws kp as rd sc) H) t1 n1 ha1 u_10 (by omega) (by omega)) mv_J0_charAt_5068e wd_16_17 ⟨Nat.le_of_ble_eq_true rfl, Nat.le_of_ble_eq_true rfl⟩ ⟨Nat.le_of_ble_eq_true rfl, Nat.le_of_ble_eq_true rfl⟩ hH hS (sRecvS hO ha1 hS) rfl hl.1 (Nat.le_of_ble_eq_true rfl) dX7_isWord_39 (fun z_39 H locs hq hS => ?_)
      obtain ⟨hz_39, hH⟩ := hq
      have hH : TH E (tbM (mD (.inl (t, t)) (.inl (g_2, g_2)) (.inl nu) (.inl un) (.inl tk) (.inl xt)) nw ws kp as rd sc) H := hH
      refine b_ne (tgt := 51) F dX7_isWord_42 (by decide) (fun c_40 => ?_) (fun c_40 => ?_)
      · skip
        exact J_51 () _ _ _ ⟨hH, hS, lv_sub hl [0, 1, 2, 3] rfl⟩
      · skip
        have r_41 : 0 ≤ z_36.toInt ∧ z_36.toInt ≤ 65535 := by have h9_ := f_37; omega
        obtain ⟨x_42, ex_42, hx_42⟩ := iincB (c := 1) (lo := 1) (hi := 6) r_34 rfl
        refine lv_iinc (v := x_42) (lv' := [(3, .int x_42), (0, .ref a0), (1, .ref (eX E t1)), (2, .int z_8)]) F.1 F.2.1 dX7_isWord_45 hl (k := 3) rfl ex_42 (by decide) rfl (fun ls hl => ?_)
        refine lv_goto (tgt := 22) F.1 F.2.1 dX7_isWord_48 (by decide) ?_
        exact ih_22 (x_42) _ _ _ ⟨(show (9 - x_42.toInt + 1).toNat < n_22 from by omega), (wkb hx_42.2 rfl rfl), hH, hS, lv_sub hl [1, 2, 3, 0] rfl⟩
  · skip
    have r_7 : (-1) ≤ z_1.toInt ∧ z_1.toInt ≤ (-1) := by have h9_ := f_3; omega
    refine lv_aload_n F.1 F.2.1 dX7_isWord_8 rfl (lv_at hl 0 rfl) ?_
    refine tGetI (j := 30) F hK hH (tyb ha0 (all1 rfl)) rfl clX7 (by decide) wd_7_21 dX7_isWord_9 (fun z_43 hz_43 => ?_)
    have ez_43 : 0 ≤ z_43.toInt ∧ z_43.toInt ≤ 400 := by omega
    refine lv_goto (tgt := 19) F.1 F.2.1 dX7_isWord_12 (by decide) ?_
    refine lv_istore_n (lv' := [(2, .int z_43), (0, .ref a0), (1, .ref (eX E t1))]) F.1 F.2.1 dX7_isWord_19 rfl hl (by decide) rfl (fun ls hl => ?_)
    refine lv_iconst (v := 0) F.1 F.2.1 dX7_isWord_20 (by decide) ?_
    refine topK (a := 0) (by decide) (fun k_44 hk_44 => ?_)
    refine lv_istore_n (lv' := [(3, .int k_44), (2, .int z_43), (0, .ref a0), (1, .ref (eX E t1))]) F.1 F.2.1 dX7_isWord_21 rfl hl (by decide) rfl (fun ls hl => ?_)
    refine wloop (σ := Int32) (fun n9 x9 H locs ls => (9 - x9.toInt + 1).toNat < n9 ∧ (0 ≤ x9.toInt ∧ x9.toInt ≤ 9) ∧ TH E (tbM (mD (.inl (t, t)) (.inl (g_2, g_2)) (.inl nu) (.inl un) (.inl tk) (.inl xt)) nw ws kp as rd sc) H ∧ va_S (eA E s.heap.size) s.heap H locs ∧ lv_has ls 4 [(0, .ref a0), (1, .ref (eX E t1)), (2, .int z_43), (3, .int x9)]) ?_ (fun x9 H locs ls h => absurd h.1 (Nat.not_lt_zero _)) _ (k_44) ⟨Nat.lt_succ_self _, (wkb (eqb hk_44) rfl rfl), hH, hS, lv_sub hl [2, 3, 1, 0] rfl⟩
    intro n_22 ih_22 u_45 H locs ls ⟨hm_22, hu_45, hH, hS, hl⟩
    have hm_22 : (9 - u_45.toInt + 1).toNat < n_22 + 1 := hm_22
    have hu_45 : (0 ≤ u_45.toInt ∧ u_45.toInt ≤ 9) := hu_45
    have hH : TH E (tbM (mD (.inl (t, t)) (.inl (g_2, g_2)) (.inl nu) (.inl un) (.inl tk) (.inl xt)) nw ws kp as rd sc) H := hH
    have hl : lv_has ls 4 [(0, .ref a0), (1, .ref (eX E t1)), (2, .int z_43), (3, .int u_45)] := hl
    refine lv_iload_n F.1 F.2.1 dX7_isWord_22 rfl (lv_at hl 3 rfl) ?_
    refine lv_aload_n F.1 F.2.1 dX7_isWord_23 rfl (lv_at hl 1 rfl) ?_
    refine tVi (b := (eX E t1)) (As := []) (rest := [.int u_45]) F hK hN hO (c_len E (fun H => TH E (tbM (mD (.inl (t, t)) (.inl (g_2, g_2)) (.inl nu) (.inl un) (.inl tk) (.inl xt)) nw ws kp as rd sc) H) t1 n1 ha1) mv_J0_length_8abf5 wd_16_16 ⟨Nat.le_of_ble_eq_true rfl, Nat.le_of_ble_eq_true rfl⟩ ⟨Nat.le_of_ble_eq_true rfl, Nat.le_of_ble_eq_true rfl⟩ hH hS (sRecvS hO ha1 hS) rfl hl.1 (Nat.le_of_ble_eq_true rfl) dX7_isWord_24 (fun z_46 H locs hq hS => ?_)
    obtain ⟨hz_46, hH⟩ := hq
    have hH : TH E (tbM (mD (.inl (t, t)) (.inl (g_2, g_2)) (.inl nu) (.inl un) (.inl tk) (.inl xt)) nw ws kp as rd sc) H := hH
    have ez_46 : 3 ≤ z_46.toInt ∧ z_46.toInt ≤ 6 := by have h9_ := strLe ha1; omega
    refine wjoin (σ := Unit) (pcj := 51) (stj := fun x9 => []) (fun x9 H locs ls => TH E (tbM (mD (.inl (t, t)) (.inl (g_2, g_2)) (.inl nu) (.inl un) (.inl tk) (.inl xt)) nw ws kp as rd sc) H ∧ va_S (eA E s.heap.size) s.heap H locs ∧ lv_has ls 4 [(0, .ref a0), (1, .ref (eX E t1)), (2, .int z_43), (3, .int u_45)]) (fun x9 H locs ls h_ => ?_) (fun J_51 => ?_)
    · skip
      obtain ⟨hH, hS, hl⟩ := h_
      have hH : TH E (tbM (mD (.inl (t, t)) (.inl (g_2, g_2)) (.inl nu) (.inl un) (.inl tk) (.inl xt)) nw ws kp as rd sc) H := hH
      have hl : lv_has ls 4 [(0, .ref a0), (1, .ref (eX E t1)), (2, .int z_43), (3, .int u_45)] := hl
      show W _ _ _ _ _ _ _ _ _ _ _ _ _ _ _ (F0 _ _ _ [])
      refine lv_iload_n F.1 F.2.1 dX7_isWord_51 rfl (lv_at hl 3 rfl) ?_
      refine lv_aload_n F.1 F.2.1 dX7_isWord_52 rfl (lv_at hl 1 rfl) ?_
      refine tVi (b := (eX E t1)) (As := []) (rest := [.int u_45]) F hK hN hO (c_len E (fun H => TH E (tbM (mD (.inl (t, t)) (.inl (g_2, g_2)) (.inl nu) (.inl un) (.inl tk) (.inl xt)) nw ws kp as rd sc) H) t1 n1 ha1) mv_J0_length_8abf5 wd_16_16 ⟨Nat.le_of_ble_eq_true rfl, Nat.le_of_ble_eq_true rfl⟩ ⟨Nat.le_of_ble_eq_true rfl, Nat.le_of_ble_eq_true rfl⟩ hH hS (sRecvS hO ha1 hS) rfl hl.1 (Nat.le_of_ble_eq_true rfl) dX7_isWord_53 (fun z_47 H locs hq hS => ?_)
      obtain ⟨hz_47, hH⟩ := hq
      have hH : TH E (tbM (mD (.inl (t, t)) (.inl (g_2, g_2)) (.inl nu) (.inl un) (.inl tk) (.inl xt)) nw ws kp as rd sc) H := hH
      have ez_47 : 3 ≤ z_47.toInt ∧ z_47.toInt ≤ 6 := by have h9_ := strLe ha1; omega
      refine b_ne (tgt := 83) F dX7_isWord_56 (by decide) (fun c_48 => ?_) (fun c_48 => ?_)
      · skip
        refine lv_iconst (v := 0) F.1 F.2.1 dX7_isWord_83 (by decide) ?_
        refine topK (a := 0) (by decide) (fun k_50 hk_50 => ?_)
        exact txI F hS dX7_isWord_84 (nar01 (wkb (eqb hk_50) rfl rfl)) (⟨g_2, ⟨by omega, by omega, by omega, by omega⟩, (wkb (eqb hk_50) rfl rfl), hH⟩)
      · skip
        have r_49 : 3 ≤ u_45.toInt ∧ u_45.toInt ≤ 6 := by have h9_ := hu_45; omega
        refine lv_aload_n F.1 F.2.1 dX7_isWord_59 rfl (lv_at hl 0 rfl) ?_
        refine lv_iload_n F.1 F.2.1 dX7_isWord_60 rfl (lv_at hl 2 rfl) ?_
        refine lv_iload_n F.1 F.2.1 dX7_isWord_61 rfl (lv_at hl 3 rfl) ?_
        refine tAdd (lo := 3) (hi := 406) F dX7_isWord_62 ez_43 r_49 rfl (fun z_51 hz_51 => ?_)
        refine tVi (b := a0) (As := [.int z_51]) (rest := []) F hK hN hO (c_X7_byteAt E nw ws kp as rd sc un tk xt (g_2, g_2) nu t a0 z_51 ha0 (wkb hz_51.2 rfl rfl) (by omega)) mv_X7_byteAt wd_16_2 ⟨Nat.le_of_ble_eq_true rfl, Nat.le_of_ble_eq_true rfl⟩ ⟨Nat.le_of_ble_eq_true rfl, Nat.le_of_ble_eq_true rfl⟩ hH hS (tRecv hK hH (tyb ha0 (all1 rfl)) clX7) rfl hl.1 (Nat.le_of_ble_eq_true rfl) dX7_isWord_63 (fun z_52 H locs hq hS => ?_)
        obtain ⟨f_53, f_54, hH⟩ := hq
        have hH : TH E (tbM (mD (.inl (t, t)) (.inl (g_2, g_2)) (.inl nu) (.inl un) (.inl tk) (.inl xt)) nw ws kp as rd sc) H := hH
        refine tI2l F dX7_isWord_66 (fun w_55 hw_55 => ?_)
        refine lv_ldc2 (own := RX7) (v := 97) F.1 F.2.1 F.2.2.2.2.1 (F.2.2.2.2.2.2.1 _ wd_16_14) dX7_isWord_67 ?_
        refine topKL (a := 97) (by decide) (fun j_56 hj_56 => ?_)
        refine lv_ldc2 (own := RX7) (v := 122) F.1 F.2.1 F.2.2.2.2.1 (F.2.2.2.2.2.2.1 _ wd_16_15) dX7_isWord_70 ?_
        refine topKL (a := 122) (by decide) (fun j_57 hj_57 => ?_)
        refine tSi (As := [.long w_55, .long j_56, .long j_57]) (rest := []) F hK hN hO (c_X7_in E (mD (.inl (t, t)) (.inl (g_2, g_2)) (.inl nu) (.inl un) (.inl tk) (.inl xt)) nw ws kp as rd sc w_55 j_56 j_57) ms_X7_in wd_8_10 ⟨Nat.le_of_ble_eq_true rfl, Nat.le_of_ble_eq_true rfl⟩ ⟨Nat.le_of_ble_eq_true rfl, Nat.le_of_ble_eq_true rfl⟩ hH hS rfl hl.1 (Nat.le_of_ble_eq_true rfl) dX7_isWord_73 (fun z_58 H locs hq hS => ?_)
        obtain ⟨f_59, f_60, hH⟩ := hq
        have hH : TH E (tbM (mD (.inl (t, t)) (.inl (g_2, g_2)) (.inl nu) (.inl un) (.inl tk) (.inl xt)) nw ws kp as rd sc) H := hH
        refine z_ne (tgt := 83) F dX7_isWord_76 (by decide) (fun c_61 => ?_) (fun c_61 => ?_)
        · skip
          have r_62 : 1 ≤ z_58.toInt ∧ z_58.toInt ≤ 1 := by have h9_ := f_59; omega
          have r_63 : 97 ≤ z_52.toInt ∧ z_52.toInt ≤ 122 := by have h9_ := f_53; omega
          refine lv_iconst (v := 0) F.1 F.2.1 dX7_isWord_83 (by decide) ?_
          refine topK (a := 0) (by decide) (fun k_65 hk_65 => ?_)
          exact txI F hS dX7_isWord_84 (nar01 (wkb (eqb hk_65) rfl rfl)) (⟨g_2, ⟨by omega, by omega, by omega, by omega⟩, (wkb (eqb hk_65) rfl rfl), hH⟩)
        · skip
          have r_64 : 0 ≤ z_58.toInt ∧ z_58.toInt ≤ 0 := by have h9_ := f_59; omega
          refine lv_iconst (v := 1) F.1 F.2.1 dX7_isWord_79 (by decide) ?_
          refine topK (a := 1) (by decide) (fun k_66 hk_66 => ?_)
          refine lv_goto (tgt := 84) F.1 F.2.1 dX7_isWord_80 (by decide) ?_
          exact txI F hS dX7_isWord_84 (nar01 (wkb (eqb hk_66) rfl rfl)) (⟨g_2, ⟨by omega, by omega, by omega, by omega⟩, (wkb (eqb hk_66) rfl rfl), hH⟩)
    refine b_ge (tgt := 51) F dX7_isWord_27 (by decide) (fun c_67 => ?_) (fun c_67 => ?_)
    · skip
      have r_68 : 3 ≤ u_45.toInt ∧ u_45.toInt ≤ 9 := by have h9_ := hu_45; omega
      exact J_51 () _ _ _ ⟨hH, hS, lv_sub hl [0, 1, 2, 3] rfl⟩
    · skip
      have r_69 : 0 ≤ u_45.toInt ∧ u_45.toInt ≤ 5 := by have h9_ := hu_45; omega
      refine lv_aload_n F.1 F.2.1 dX7_isWord_30 rfl (lv_at hl 0 rfl) ?_
      refine lv_iload_n F.1 F.2.1 dX7_isWord_31 rfl (lv_at hl 2 rfl) ?_
      refine lv_iload_n F.1 F.2.1 dX7_isWord_32 rfl (lv_at hl 3 rfl) ?_
      refine tAdd (lo := 0) (hi := 405) F dX7_isWord_33 ez_43 r_69 rfl (fun z_70 hz_70 => ?_)
      refine tVi (b := a0) (As := [.int z_70]) (rest := []) F hK hN hO (c_X7_byteAt E nw ws kp as rd sc un tk xt (g_2, g_2) nu t a0 z_70 ha0 (wkb hz_70.2 rfl rfl) (by omega)) mv_X7_byteAt wd_16_2 ⟨Nat.le_of_ble_eq_true rfl, Nat.le_of_ble_eq_true rfl⟩ ⟨Nat.le_of_ble_eq_true rfl, Nat.le_of_ble_eq_true rfl⟩ hH hS (tRecv hK hH (tyb ha0 (all1 rfl)) clX7) rfl hl.1 (Nat.le_of_ble_eq_true rfl) dX7_isWord_34 (fun z_71 H locs hq hS => ?_)
      obtain ⟨f_72, f_73, hH⟩ := hq
      have hH : TH E (tbM (mD (.inl (t, t)) (.inl (g_2, g_2)) (.inl nu) (.inl un) (.inl tk) (.inl xt)) nw ws kp as rd sc) H := hH
      refine lv_aload_n F.1 F.2.1 dX7_isWord_37 rfl (lv_at hl 1 rfl) ?_
      refine lv_iload_n F.1 F.2.1 dX7_isWord_38 rfl (lv_at hl 3 rfl) ?_
      refine tVi (b := (eX E t1)) (As := [.int u_45]) (rest := [.int z_71]) F hK hN hO (c_chr E (fun H => TH E (tbM (mD (.inl (t, t)) (.inl (g_2, g_2)) (.inl nu) (.inl un) (.inl tk) (.inl xt)) nw ws kp as rd sc) H) t1 n1 ha1 u_45 (by omega) (by omega)) mv_J0_charAt_5068e wd_16_17 ⟨Nat.le_of_ble_eq_true rfl, Nat.le_of_ble_eq_true rfl⟩ ⟨Nat.le_of_ble_eq_true rfl, Nat.le_of_ble_eq_true rfl⟩ hH hS (sRecvS hO ha1 hS) rfl hl.1 (Nat.le_of_ble_eq_true rfl) dX7_isWord_39 (fun z_74 H locs hq hS => ?_)
      obtain ⟨hz_74, hH⟩ := hq
      have hH : TH E (tbM (mD (.inl (t, t)) (.inl (g_2, g_2)) (.inl nu) (.inl un) (.inl tk) (.inl xt)) nw ws kp as rd sc) H := hH
      refine b_ne (tgt := 51) F dX7_isWord_42 (by decide) (fun c_75 => ?_) (fun c_75 => ?_)
      · skip
        exact J_51 () _ _ _ ⟨hH, hS, lv_sub hl [0, 1, 2, 3] rfl⟩
      · skip
        have r_76 : 0 ≤ z_71.toInt ∧ z_71.toInt ≤ 65535 := by have h9_ := f_72; omega
        obtain ⟨x_77, ex_77, hx_77⟩ := iincB (c := 1) (lo := 1) (hi := 6) r_69 rfl
        refine lv_iinc (v := x_77) (lv' := [(3, .int x_77), (0, .ref a0), (1, .ref (eX E t1)), (2, .int z_43)]) F.1 F.2.1 dX7_isWord_45 hl (k := 3) rfl ex_77 (by decide) rfl (fun ls hl => ?_)
        refine lv_goto (tgt := 22) F.1 F.2.1 dX7_isWord_48 (by decide) ?_
        exact ih_22 (x_77) _ _ _ ⟨(show (9 - x_77.toInt + 1).toNat < n_22 from by omega), (wkb hx_77.2 rfl rfl), hH, hS, lv_sub hl [1, 2, 3, 0] rfl⟩
set_option maxHeartbeats 4000000 in
set_option maxRecDepth 100000 in
theorem c_X7_takesWord (E : Ev) (nw : TD) (ws : TD) (kp : TD) (as : TD) (rd : TD) (sc : TD) (un : Int × Int) (tk : Int × Int) (xt : Int × Int) (nu : Int × Int) (t : Int) (p : Int) (b : Int) (a0 : Nat) (t1 n1 : Nat) (ha0 : eT E a0 ∈ [24]) (ha1 : strOf t1 n1) (ht : 0 ≤ t ∧ t ≤ 400) (hp : 0 ≤ p ∧ p ≤ 4000) (hb : p ≤ b ∧ 400 ≤ b ∧ b ≤ 4000) : TcI E yX7_takesWord cX7_takesWord 3 .boolean ({ frames := 6, cells := 0, slots := 0, locals := 204 }) [.ref a0, .ref (eX E t1)] (fun H => TH E (tbM (mD (.inl (t, t)) (.inl (p, p)) (.inl nu) (.inl un) (.inl tk) (.inl xt)) nw ws kp as rd sc) H) (fun v H => ∃ p2 : Int, (0 ≤ p2 ∧ p2 ≤ 5000 ∧ p ≤ p2 ∧ p2 ≤ b + 6) ∧ (0 ≤ v.toInt ∧ v.toInt ≤ 1) ∧ TH E (tbM (mD (.inl (t, t)) (.inl (p2, p2)) (.inl nu) (.inl un) (.inl tk) (.inl xt)) nw ws kp as rd sc) H) := by
  refine teI (by decide) (Nat.le_of_ble_eq_true rfl) ?_
  intro p_ ev_ s mi_ below_ meth cd_ ls F hK hN hO hH hS hl
  have hH : TH E (tbM (mD (.inl (t, t)) (.inl (p, p)) (.inl nu) (.inl un) (.inl tk) (.inl xt)) nw ws kp as rd sc) s.heap := hH
  have hl : lv_has ls 3 [(0, .ref a0), (1, .ref (eX E t1))] := hl
  refine lv_aload_n F.1 F.2.1 dX7_takesWord_0 rfl (lv_at hl 0 rfl) ?_
  refine lv_aload_n F.1 F.2.1 dX7_takesWord_1 rfl (lv_at hl 1 rfl) ?_
  refine tVi (b := a0) (As := [.ref (eX E t1)]) (rest := []) F hK hN hO (c_X7_isWord E nw ws kp as rd sc un tk xt nu t p b a0 t1 n1 ha0 ha1 (by omega) (by omega) (by omega)) mv_X7_isWord wd_16_10 ⟨Nat.le_of_ble_eq_true rfl, Nat.le_of_ble_eq_true rfl⟩ ⟨Nat.le_of_ble_eq_true rfl, Nat.le_of_ble_eq_true rfl⟩ hH hS (tRecv hK hH (tyb ha0 (all1 rfl)) clX7) rfl hl.1 (Nat.le_of_ble_eq_true rfl) dX7_takesWord_2 (fun z_1 H locs hq hS => ?_)
  obtain ⟨g_2, hg_2, f_3, hH⟩ := hq
  have hH : TH E (tbM (mD (.inl (t, t)) (.inl (g_2, g_2)) (.inl nu) (.inl un) (.inl tk) (.inl xt)) nw ws kp as rd sc) H := hH
  refine lv_istore_n (lv' := [(2, .int z_1), (0, .ref a0), (1, .ref (eX E t1))]) F.1 F.2.1 dX7_takesWord_5 rfl hl (by decide) rfl (fun ls hl => ?_)
  refine lv_iload_n F.1 F.2.1 dX7_takesWord_6 rfl (lv_at hl 0 rfl) ?_
  refine z_eq (tgt := 23) F dX7_takesWord_7 (by decide) (fun c_4 => ?_) (fun c_4 => ?_)
  · skip
    have r_5 : 0 ≤ z_1.toInt ∧ z_1.toInt ≤ 0 := by have h9_ := f_3; omega
    refine lv_iload_n F.1 F.2.1 dX7_takesWord_23 rfl (lv_at hl 0 rfl) ?_
    exact txI F hS dX7_takesWord_24 (nar01 (wkb r_5 rfl rfl)) (⟨g_2, ⟨by omega, by omega, by omega, by omega⟩, (wkb r_5 rfl rfl), hH⟩)
  · skip
    have r_6 : 1 ≤ z_1.toInt ∧ z_1.toInt ≤ 1 := by have h9_ := f_3; omega
    refine lv_aload_n F.1 F.2.1 dX7_takesWord_10 rfl (lv_at hl 1 rfl) ?_
    refine lv_dup F.1 F.2.1 dX7_takesWord_11 rfl ?_
    refine tGetI (j := 31) F hK hH (tyb ha0 (all1 rfl)) rfl clX7 (by decide) wd_15_21 dX7_takesWord_12 (fun z_7 hz_7 => ?_)
    have ez_7 : 0 ≤ z_7.toInt ∧ z_7.toInt ≤ 5000 := by omega
    refine lv_aload_n F.1 F.2.1 dX7_takesWord_15 rfl (lv_at hl 2 rfl) ?_
    refine tVi (b := (eX E t1)) (As := []) (rest := [.int z_7, .ref a0]) F hK hN hO (c_len E (fun H => TH E (tbM (mD (.inl (t, t)) (.inl (g_2, g_2)) (.inl nu) (.inl un) (.inl tk) (.inl xt)) nw ws kp as rd sc) H) t1 n1 ha1) mv_J0_length_8abf5 wd_16_16 ⟨Nat.le_of_ble_eq_true rfl, Nat.le_of_ble_eq_true rfl⟩ ⟨Nat.le_of_ble_eq_true rfl, Nat.le_of_ble_eq_true rfl⟩ hH hS (sRecvS hO ha1 hS) rfl hl.1 (Nat.le_of_ble_eq_true rfl) dX7_takesWord_16 (fun z_8 H locs hq hS => ?_)
    obtain ⟨hz_8, hH⟩ := hq
    have hH : TH E (tbM (mD (.inl (t, t)) (.inl (g_2, g_2)) (.inl nu) (.inl un) (.inl tk) (.inl xt)) nw ws kp as rd sc) H := hH
    have ez_8 : 3 ≤ z_8.toInt ∧ z_8.toInt ≤ 6 := by have h9_ := strLe ha1; omega
    refine tAdd (lo := 3) (hi := 5006) F dX7_takesWord_19 ez_7 ez_8 rfl (fun z_9 hz_9 => ?_)
    obtain ⟨g_10, hg_10⟩ : ∃ y : Int, z_9.toInt = y := ⟨_, rfl⟩
    have bg_10 : 3 ≤ g_10 ∧ g_10 ≤ 5006 := by rw [← hg_10]; exact hz_9.2
    refine tPutG (j := 31) (t := 24) (fd := (.inl (g_10, g_10))) F hK hH hS (List.mem_singleton.mp ha0) (by decide) rfl rfl (fdI (by omega)) (TB1 := (tbM (mD (.inl (t, t)) (.inl (g_10, g_10)) (.inl nu) (.inl un) (.inl tk) (.inl xt)) nw ws kp as rd sc)) rfl clX7 (by decide) wd_15_21 rfl rfl rfl rfl dX7_takesWord_20 (fun H locs hH hS => ?_)
    refine lv_iload_n F.1 F.2.1 dX7_takesWord_23 rfl (lv_at hl 0 rfl) ?_
    exact txI F hS dX7_takesWord_24 (nar01 (wkb r_6 rfl rfl)) (⟨g_10, ⟨by omega, by omega, by omega, by omega⟩, (wkb r_6 rfl rfl), hH⟩)
set_option maxHeartbeats 4000000 in
set_option maxRecDepth 100000 in
theorem c_X7_mustWord (E : Ev) (nw : TD) (ws : TD) (kp : TD) (as : TD) (rd : TD) (sc : TD) (un : Int × Int) (tk : Int × Int) (xt : Int × Int) (nu : Int × Int) (t : Int) (p : Int) (b : Int) (a0 : Nat) (t1 n1 : Nat) (ha0 : eT E a0 ∈ [24]) (ha1 : strOf t1 n1) (ht : 0 ≤ t ∧ t ≤ 400) (hp : 0 ≤ p ∧ p ≤ 4000) (hb : p ≤ b ∧ 400 ≤ b ∧ b ≤ 4000) : TcI E yX7_mustWord cX7_mustWord 2 .boolean ({ frames := 7, cells := 0, slots := 0, locals := 226 }) [.ref a0, .ref (eX E t1)] (fun H => TH E (tbM (mD (.inl (t, t)) (.inl (p, p)) (.inl nu) (.inl un) (.inl tk) (.inl xt)) nw ws kp as rd sc) H) (fun v H => ∃ p2 : Int, (0 ≤ p2 ∧ p2 ≤ 5000 ∧ p ≤ p2 ∧ p2 ≤ b + 6) ∧ (0 ≤ v.toInt ∧ v.toInt ≤ 1) ∧ TH E (tbM (mD (.inl (t, t)) (.inl (p2, p2)) (.inl nu) (.inl un) (.inl tk) (.inl xt)) nw ws kp as rd sc) H) := by
  refine teI (by decide) (Nat.le_of_ble_eq_true rfl) ?_
  intro p_ ev_ s mi_ below_ meth cd_ ls F hK hN hO hH hS hl
  have hH : TH E (tbM (mD (.inl (t, t)) (.inl (p, p)) (.inl nu) (.inl un) (.inl tk) (.inl xt)) nw ws kp as rd sc) s.heap := hH
  have hl : lv_has ls 2 [(0, .ref a0), (1, .ref (eX E t1))] := hl
  refine lv_aload_n F.1 F.2.1 dX7_mustWord_0 rfl (lv_at hl 0 rfl) ?_
  refine lv_aload_n F.1 F.2.1 dX7_mustWord_1 rfl (lv_at hl 1 rfl) ?_
  refine tVi (b := a0) (As := [.ref (eX E t1)]) (rest := []) F hK hN hO (c_X7_takesWord E nw ws kp as rd sc un tk xt nu t p b a0 t1 n1 ha0 ha1 (by omega) (by omega) (by omega)) mv_X7_takesWord wd_17_6 ⟨Nat.le_of_ble_eq_true rfl, Nat.le_of_ble_eq_true rfl⟩ ⟨Nat.le_of_ble_eq_true rfl, Nat.le_of_ble_eq_true rfl⟩ hH hS (tRecv hK hH (tyb ha0 (all1 rfl)) clX7) rfl hl.1 (Nat.le_of_ble_eq_true rfl) dX7_mustWord_2 (fun z_1 H locs hq hS => ?_)
  obtain ⟨g_2, hg_2, f_3, hH⟩ := hq
  have hH : TH E (tbM (mD (.inl (t, t)) (.inl (g_2, g_2)) (.inl nu) (.inl un) (.inl tk) (.inl xt)) nw ws kp as rd sc) H := hH
  refine z_ne (tgt := 20) F dX7_mustWord_5 (by decide) (fun c_4 => ?_) (fun c_4 => ?_)
  · skip
    have r_5 : 1 ≤ z_1.toInt ∧ z_1.toInt ≤ 1 := by have h9_ := f_3; omega
    refine lv_iconst (v := 1) F.1 F.2.1 dX7_mustWord_20 (by decide) ?_
    refine topK (a := 1) (by decide) (fun k_7 hk_7 => ?_)
    refine lv_goto (tgt := 25) F.1 F.2.1 dX7_mustWord_21 (by decide) ?_
    exact txI F hS dX7_mustWord_25 (nar01 (wkb (eqb hk_7) rfl rfl)) (⟨g_2, ⟨by omega, by omega, by omega, by omega⟩, (wkb (eqb hk_7) rfl rfl), hH⟩)
  · skip
    have r_6 : 0 ≤ z_1.toInt ∧ z_1.toInt ≤ 0 := by have h9_ := f_3; omega
    refine lv_aload_n F.1 F.2.1 dX7_mustWord_8 rfl (lv_at hl 0 rfl) ?_
    refine lv_iconst (v := 1) F.1 F.2.1 dX7_mustWord_9 (by decide) ?_
    refine topK (a := 1) (by decide) (fun k_8 hk_8 => ?_)
    refine lv_aload_n F.1 F.2.1 dX7_mustWord_10 rfl (lv_at hl 0 rfl) ?_
    refine tGetI (j := 31) F hK hH (tyb ha0 (all1 rfl)) rfl clX7 (by decide) wd_15_21 dX7_mustWord_11 (fun z_9 hz_9 => ?_)
    have ez_9 : 0 ≤ z_9.toInt ∧ z_9.toInt ≤ 5000 := by omega
    refine tVi (b := a0) (As := [.int k_8, .int z_9]) (rest := []) F hK hN hO (c_X7_fails E nw ws kp as rd sc un tk xt (t, t) (g_2, g_2) nu a0 k_8 z_9 ha0) mv_X7_fails wd_17_2 ⟨Nat.le_of_ble_eq_true rfl, Nat.le_of_ble_eq_true rfl⟩ ⟨Nat.le_of_ble_eq_true rfl, Nat.le_of_ble_eq_true rfl⟩ hH hS (tRecv hK hH (tyb ha0 (all1 rfl)) clX7) rfl hl.1 (Nat.le_of_ble_eq_true rfl) dX7_mustWord_14 (fun z_10 H locs hq hS => ?_)
    obtain ⟨f_11, hH⟩ := hq
    have hH : TH E (tbM (mD (.inl (t, t)) (.inl (g_2, g_2)) (.inl nu) (.inl un) (.inl tk) (.inl xt)) nw ws kp as rd sc) H := hH
    refine z_eq (tgt := 24) F dX7_mustWord_17 (by decide) (fun c_12 => ?_) (fun c_12 => absurd c_12 (by omega))
    refine lv_iconst (v := 0) F.1 F.2.1 dX7_mustWord_24 (by decide) ?_
    refine topK (a := 0) (by decide) (fun k_13 hk_13 => ?_)
    exact txI F hS dX7_mustWord_25 (nar01 (wkb (eqb hk_13) rfl rfl)) (⟨g_2, ⟨by omega, by omega, by omega, by omega⟩, (wkb (eqb hk_13) rfl rfl), hH⟩)
set_option maxHeartbeats 4000000 in
set_option maxRecDepth 100000 in
theorem c_X7_readsNumber (E : Ev) (nw : TD) (ws : TD) (kp : TD) (as : TD) (rd : TD) (sc : TD) (un : Int × Int) (tk : Int × Int) (xt : Int × Int) (t : Int) (p : Int) (nu : Int) (b : Int) (a0 : Nat) (a1 : Int32) (a2 : Int32) (ha0 : eT E a0 ∈ [24]) (ht : 0 ≤ t ∧ t ≤ 400) (hp : 0 ≤ p ∧ p ≤ 4000) (hnu : (-2147483648) ≤ nu ∧ nu ≤ 2147483647) (hb : p ≤ b ∧ 400 ≤ b ∧ b ≤ 4000) : TcI E yX7_readsNumber cX7_readsNumber 3 .boolean ({ frames := 3, cells := 0, slots := 0, locals := 81 }) [.ref a0, .int a1, .int a2] (fun H => TH E (tbM (mD (.inl (t, t)) (.inl (p, p)) (.inl (nu, nu)) (.inl un) (.inl tk) (.inl xt)) nw ws kp as rd sc) H) (fun v H => ∃ p2 : Int, (0 ≤ p2 ∧ p2 ≤ 5000 ∧ p ≤ p2 ∧ p2 ≤ b + 0) ∧ ∃ nu2 : Int, ((-2147483648) ≤ nu2 ∧ nu2 ≤ 2147483647) ∧ (0 ≤ v.toInt ∧ v.toInt ≤ 1) ∧ (v.toInt = 1 → a1.toInt ≤ nu2 ∧ nu2 ≤ a2.toInt) ∧ TH E (tbM (mD (.inl (t, t)) (.inl (p2, p2)) (.inl (nu2, nu2)) (.inl un) (.inl tk) (.inl xt)) nw ws kp as rd sc) H) := by
  refine teI (by decide) (Nat.le_of_ble_eq_true rfl) ?_
  intro p_ ev_ s mi_ below_ meth cd_ ls F hK hN hO hH hS hl
  have hH : TH E (tbM (mD (.inl (t, t)) (.inl (p, p)) (.inl (nu, nu)) (.inl un) (.inl tk) (.inl xt)) nw ws kp as rd sc) s.heap := hH
  have hl : lv_has ls 3 [(0, .ref a0), (1, .int a1), (2, .int a2)] := hl
  refine lv_aload_n F.1 F.2.1 dX7_readsNumber_0 rfl (lv_at hl 0 rfl) ?_
  refine tVi (b := a0) (As := []) (rest := []) F hK hN hO (c_X7_nextByte E nw ws kp as rd sc un tk xt (nu, nu) t p b a0 ha0 (by omega) (by omega) (by omega)) mv_X7_nextByte wd_15_22 ⟨Nat.le_of_ble_eq_true rfl, Nat.le_of_ble_eq_true rfl⟩ ⟨Nat.le_of_ble_eq_true rfl, Nat.le_of_ble_eq_true rfl⟩ hH hS (tRecv hK hH (tyb ha0 (all1 rfl)) clX7) rfl hl.1 (Nat.le_of_ble_eq_true rfl) dX7_readsNumber_1 (fun z_1 H locs hq hS => ?_)
  obtain ⟨g_2, hg_2, f_3, f_4, hH⟩ := hq
  have hH : TH E (tbM (mD (.inl (t, t)) (.inl (g_2, g_2)) (.inl (nu, nu)) (.inl un) (.inl tk) (.inl xt)) nw ws kp as rd sc) H := hH
  refine tI2l F dX7_readsNumber_4 (fun w_5 hw_5 => ?_)
  refine lv_ldc2 (own := RX7) (v := 48) F.1 F.2.1 F.2.2.2.2.1 (F.2.2.2.2.2.2.1 _ wd_17_23) dX7_readsNumber_5 ?_
  refine topKL (a := 48) (by decide) (fun j_6 hj_6 => ?_)
  refine lv_ldc2 (own := RX7) (v := 57) F.1 F.2.1 F.2.2.2.2.1 (F.2.2.2.2.2.2.1 _ wd_18_0) dX7_readsNumber_8 ?_
  refine topKL (a := 57) (by decide) (fun j_7 hj_7 => ?_)
  refine tSi (As := [.long w_5, .long j_6, .long j_7]) (rest := []) F hK hN hO (c_X7_in E (mD (.inl (t, t)) (.inl (g_2, g_2)) (.inl (nu, nu)) (.inl un) (.inl tk) (.inl xt)) nw ws kp as rd sc w_5 j_6 j_7) ms_X7_in wd_8_10 ⟨Nat.le_of_ble_eq_true rfl, Nat.le_of_ble_eq_true rfl⟩ ⟨Nat.le_of_ble_eq_true rfl, Nat.le_of_ble_eq_true rfl⟩ hH hS rfl hl.1 (Nat.le_of_ble_eq_true rfl) dX7_readsNumber_11 (fun z_8 H locs hq hS => ?_)
  obtain ⟨f_9, f_10, hH⟩ := hq
  have hH : TH E (tbM (mD (.inl (t, t)) (.inl (g_2, g_2)) (.inl (nu, nu)) (.inl un) (.inl tk) (.inl xt)) nw ws kp as rd sc) H := hH
  refine z_ne (tgt := 27) F dX7_readsNumber_14 (by decide) (fun c_11 => ?_) (fun c_11 => ?_)
  · skip
    have r_12 : 1 ≤ z_8.toInt ∧ z_8.toInt ≤ 1 := by have h9_ := f_9; omega
    have r_13 : 48 ≤ z_1.toInt ∧ z_1.toInt ≤ 57 := by have h9_ := f_3; omega
    refine lv_aload_n F.1 F.2.1 dX7_readsNumber_27 rfl (lv_at hl 0 rfl) ?_
    refine lv_aload_n F.1 F.2.1 dX7_readsNumber_28 rfl (lv_at hl 0 rfl) ?_
    refine tGetI (j := 31) F hK hH (tyb ha0 (all1 rfl)) rfl clX7 (by decide) wd_15_21 dX7_readsNumber_29 (fun z_15 hz_15 => ?_)
    have ez_15 : 0 ≤ z_15.toInt ∧ z_15.toInt ≤ 5000 := by omega
    refine tPut (j := 34) F hK hH hS (tyb ha0 (all1 rfl)) rfl (fdI (wkb ez_15 rfl rfl)) clX7 (by decide) wd_18_1 rfl rfl rfl rfl dX7_readsNumber_32 (fun H locs hH hS => ?_)
    refine lv_aload_n F.1 F.2.1 dX7_readsNumber_35 rfl (lv_at hl 0 rfl) ?_
    refine lv_iconst (v := 0) F.1 F.2.1 dX7_readsNumber_36 (by decide) ?_
    refine topK (a := 0) (by decide) (fun k_16 hk_16 => ?_)
    refine tPutG (j := 33) (t := 24) (fd := (.inl (0, 0))) F hK hH hS (List.mem_singleton.mp ha0) (by decide) rfl rfl (fdI (by omega)) (TB1 := (tbM (mD (.inl (t, t)) (.inl (g_2, g_2)) (.inl (0, 0)) (.inl un) (.inl tk) (.inl xt)) nw ws kp as rd sc)) rfl clX7 (by decide) wd_17_18 rfl rfl rfl rfl dX7_readsNumber_37 (fun H locs hH hS => ?_)
    refine wloop (σ := Int × Int) (fun n9 x9 H locs ls => (5000 - x9.1).toNat < n9 ∧ (0 ≤ x9.1 ∧ x9.1 ≤ 4000) ∧ ((-2147483648) ≤ x9.2 ∧ x9.2 ≤ 2147483647) ∧ (p ≤ x9.1) ∧ (x9.1 ≤ b) ∧ TH E (tbM (mD (.inl (t, t)) (.inl (x9.1, x9.1)) (.inl (x9.2, x9.2)) (.inl un) (.inl tk) (.inl xt)) nw ws kp as rd sc) H ∧ va_S (eA E s.heap.size) s.heap H locs ∧ lv_has ls 3 [(0, .ref a0), (1, .int a1), (2, .int a2)]) ?_ (fun x9 H locs ls h => absurd h.1 (Nat.not_lt_zero _)) _ (g_2, 0) ⟨Nat.lt_succ_self _, (show 0 ≤ g_2 ∧ g_2 ≤ 4000 from by omega), (show (-2147483648) ≤ 0 ∧ 0 ≤ 2147483647 from by omega), (show p ≤ g_2 from by omega), (show g_2 ≤ b from by omega), hH, hS, lv_sub hl [0, 1, 2] rfl⟩
    intro n_40 ih_40 ⟨g_17, g_18⟩ H locs ls ⟨hm_40, hg_17, hg_18, hcr40_0, hcr40_1, hH, hS, hl⟩
    have hm_40 : (5000 - g_17).toNat < n_40 + 1 := hm_40
    have hg_17 : (0 ≤ g_17 ∧ g_17 ≤ 4000) := hg_17
    have hg_18 : ((-2147483648) ≤ g_18 ∧ g_18 ≤ 2147483647) := hg_18
    have hcr40_0 : (p ≤ g_17) := hcr40_0
    have hcr40_1 : (g_17 ≤ b) := hcr40_1
    have hH : TH E (tbM (mD (.inl (t, t)) (.inl (g_17, g_17)) (.inl (g_18, g_18)) (.inl un) (.inl tk) (.inl xt)) nw ws kp as rd sc) H := hH
    have hl : lv_has ls 3 [(0, .ref a0), (1, .int a1), (2, .int a2)] := hl
    refine lv_aload_n F.1 F.2.1 dX7_readsNumber_40 rfl (lv_at hl 0 rfl) ?_
    refine lv_aload_n F.1 F.2.1 dX7_readsNumber_41 rfl (lv_at hl 0 rfl) ?_
    refine tGetI (j := 31) F hK hH (tyb ha0 (all1 rfl)) rfl clX7 (by decide) wd_15_21 dX7_readsNumber_42 (fun z_19 hz_19 => ?_)
    have ez_19 : 0 ≤ z_19.toInt ∧ z_19.toInt ≤ 4000 := by omega
    refine tVi (b := a0) (As := [.int z_19]) (rest := []) F hK hN hO (c_X7_byteAt E nw ws kp as rd sc un tk xt (g_17, g_17) (g_18, g_18) t a0 z_19 ha0 (wkb ez_19 rfl rfl) (by omega)) mv_X7_byteAt wd_16_2 ⟨Nat.le_of_ble_eq_true rfl, Nat.le_of_ble_eq_true rfl⟩ ⟨Nat.le_of_ble_eq_true rfl, Nat.le_of_ble_eq_true rfl⟩ hH hS (tRecv hK hH (tyb ha0 (all1 rfl)) clX7) rfl hl.1 (Nat.le_of_ble_eq_true rfl) dX7_readsNumber_45 (fun z_20 H locs hq hS => ?_)
    obtain ⟨f_21, f_22, hH⟩ := hq
    have hH : TH E (tbM (mD (.inl (t, t)) (.inl (g_17, g_17)) (.inl (g_18, g_18)) (.inl un) (.inl tk) (.inl xt)) nw ws kp as rd sc) H := hH
    refine tI2l F dX7_readsNumber_48 (fun w_23 hw_23 => ?_)
    refine lv_ldc2 (own := RX7) (v := 48) F.1 F.2.1 F.2.2.2.2.1 (F.2.2.2.2.2.2.1 _ wd_17_23) dX7_readsNumber_49 ?_
    refine topKL (a := 48) (by decide) (fun j_24 hj_24 => ?_)
    refine lv_ldc2 (own := RX7) (v := 57) F.1 F.2.1 F.2.2.2.2.1 (F.2.2.2.2.2.2.1 _ wd_18_0) dX7_readsNumber_52 ?_
    refine topKL (a := 57) (by decide) (fun j_25 hj_25 => ?_)
    refine tSi (As := [.long w_23, .long j_24, .long j_25]) (rest := []) F hK hN hO (c_X7_in E (mD (.inl (t, t)) (.inl (g_17, g_17)) (.inl (g_18, g_18)) (.inl un) (.inl tk) (.inl xt)) nw ws kp as rd sc w_23 j_24 j_25) ms_X7_in wd_8_10 ⟨Nat.le_of_ble_eq_true rfl, Nat.le_of_ble_eq_true rfl⟩ ⟨Nat.le_of_ble_eq_true rfl, Nat.le_of_ble_eq_true rfl⟩ hH hS rfl hl.1 (Nat.le_of_ble_eq_true rfl) dX7_readsNumber_55 (fun z_26 H locs hq hS => ?_)
    obtain ⟨f_27, f_28, hH⟩ := hq
    have hH : TH E (tbM (mD (.inl (t, t)) (.inl (g_17, g_17)) (.inl (g_18, g_18)) (.inl un) (.inl tk) (.inl xt)) nw ws kp as rd sc) H := hH
    refine z_eq (tgt := 107) F dX7_readsNumber_58 (by decide) (fun c_29 => ?_) (fun c_29 => ?_)
    · skip
      have r_30 : 0 ≤ z_26.toInt ∧ z_26.toInt ≤ 0 := by have h9_ := f_27; omega
      refine lv_aload_n F.1 F.2.1 dX7_readsNumber_107 rfl (lv_at hl 0 rfl) ?_
      refine tGetI (j := 33) F hK hH (tyb ha0 (all1 rfl)) rfl clX7 (by decide) wd_17_18 dX7_readsNumber_108 (fun z_33 hz_33 => ?_)
      have ez_33 : (-2147483648) ≤ z_33.toInt ∧ z_33.toInt ≤ 2147483647 := by omega
      refine tI2l F dX7_readsNumber_111 (fun w_34 hw_34 => ?_)
      refine lv_iload_n F.1 F.2.1 dX7_readsNumber_112 rfl (lv_at hl 1 rfl) ?_
      refine tI2l F dX7_readsNumber_113 (fun w_35 hw_35 => ?_)
      refine lv_iload_n F.1 F.2.1 dX7_readsNumber_114 rfl (lv_at hl 2 rfl) ?_
      refine tI2l F dX7_readsNumber_115 (fun w_36 hw_36 => ?_)
      refine tSi (As := [.long w_34, .long w_35, .long w_36]) (rest := []) F hK hN hO (c_X7_in E (mD (.inl (t, t)) (.inl (g_17, g_17)) (.inl (g_18, g_18)) (.inl un) (.inl tk) (.inl xt)) nw ws kp as rd sc w_34 w_35 w_36) ms_X7_in wd_8_10 ⟨Nat.le_of_ble_eq_true rfl, Nat.le_of_ble_eq_true rfl⟩ ⟨Nat.le_of_ble_eq_true rfl, Nat.le_of_ble_eq_true rfl⟩ hH hS rfl hl.1 (Nat.le_of_ble_eq_true rfl) dX7_readsNumber_116 (fun z_37 H locs hq hS => ?_)
      obtain ⟨f_38, f_39, hH⟩ := hq
      have hH : TH E (tbM (mD (.inl (t, t)) (.inl (g_17, g_17)) (.inl (g_18, g_18)) (.inl un) (.inl tk) (.inl xt)) nw ws kp as rd sc) H := hH
      refine z_ne (tgt := 134) F dX7_readsNumber_119 (by decide) (fun c_40 => ?_) (fun c_40 => ?_)
      · skip
        have r_41 : 1 ≤ z_37.toInt ∧ z_37.toInt ≤ 1 := by have h9_ := f_38; omega
        refine lv_iconst (v := 1) F.1 F.2.1 dX7_readsNumber_134 (by decide) ?_
        refine topK (a := 1) (by decide) (fun k_43 hk_43 => ?_)
        refine lv_goto (tgt := 139) F.1 F.2.1 dX7_readsNumber_135 (by decide) ?_
        exact txI F hS dX7_readsNumber_139 (nar01 (wkb (eqb hk_43) rfl rfl)) (⟨g_17, ⟨by omega, by omega, by omega, by omega⟩, g_18, (by omega), (wkb (eqb hk_43) rfl rfl), (by omega), hH⟩)
      · skip
        have r_42 : 0 ≤ z_37.toInt ∧ z_37.toInt ≤ 0 := by have h9_ := f_38; omega
        refine lv_aload_n F.1 F.2.1 dX7_readsNumber_122 rfl (lv_at hl 0 rfl) ?_
        refine lv_iconst (v := 2) F.1 F.2.1 dX7_readsNumber_123 (by decide) ?_
        refine topK (a := 2) (by decide) (fun k_44 hk_44 => ?_)
        refine lv_aload_n F.1 F.2.1 dX7_readsNumber_124 rfl (lv_at hl 0 rfl) ?_
        refine tGetI (j := 34) F hK hH (tyb ha0 (all1 rfl)) rfl clX7 (by decide) wd_18_1 dX7_readsNumber_125 (fun z_45 hz_45 => ?_)
        refine tVi (b := a0) (As := [.int k_44, .int z_45]) (rest := []) F hK hN hO (c_X7_fails E nw ws kp as rd sc un tk xt (t, t) (g_17, g_17) (g_18, g_18) a0 k_44 z_45 ha0) mv_X7_fails wd_17_2 ⟨Nat.le_of_ble_eq_true rfl, Nat.le_of_ble_eq_true rfl⟩ ⟨Nat.le_of_ble_eq_true rfl, Nat.le_of_ble_eq_true rfl⟩ hH hS (tRecv hK hH (tyb ha0 (all1 rfl)) clX7) rfl hl.1 (Nat.le_of_ble_eq_true rfl) dX7_readsNumber_128 (fun z_46 H locs hq hS => ?_)
        obtain ⟨f_47, hH⟩ := hq
        have hH : TH E (tbM (mD (.inl (t, t)) (.inl (g_17, g_17)) (.inl (g_18, g_18)) (.inl un) (.inl tk) (.inl xt)) nw ws kp as rd sc) H := hH
        refine z_eq (tgt := 138) F dX7_readsNumber_131 (by decide) (fun c_48 => ?_) (fun c_48 => absurd c_48 (by omega))
        refine lv_iconst (v := 0) F.1 F.2.1 dX7_readsNumber_138 (by decide) ?_
        refine topK (a := 0) (by decide) (fun k_49 hk_49 => ?_)
        exact txI F hS dX7_readsNumber_139 (nar01 (wkb (eqb hk_49) rfl rfl)) (⟨g_17, ⟨by omega, by omega, by omega, by omega⟩, g_18, (by omega), (wkb (eqb hk_49) rfl rfl), (by omega), hH⟩)
    · skip
      have r_31 : 1 ≤ z_26.toInt ∧ z_26.toInt ≤ 1 := by have h9_ := f_27; omega
      have r_32 : 48 ≤ z_20.toInt ∧ z_20.toInt ≤ 57 := by have h9_ := f_21; omega
      refine lv_aload_n F.1 F.2.1 dX7_readsNumber_61 rfl (lv_at hl 0 rfl) ?_
      refine tGetI (j := 33) F hK hH (tyb ha0 (all1 rfl)) rfl clX7 (by decide) wd_17_18 dX7_readsNumber_62 (fun z_50 hz_50 => ?_)
      have ez_50 : (-2147483648) ≤ z_50.toInt ∧ z_50.toInt ≤ 2147483647 := by omega
      refine lv_ldcw (own := RX7) (v := 10000000) F.1 F.2.1 F.2.2.2.2.1 (F.2.2.2.2.2.2.1 _ wd_18_2) dX7_readsNumber_65 ?_
      refine topK (a := 10000000) (by decide) (fun k_51 hk_51 => ?_)
      refine wjoin (σ := Int) (pcj := 94) (stj := fun x9 => []) (fun x9 H locs ls => ((-2147483648) ≤ x9 ∧ x9 ≤ 2147483647) ∧ TH E (tbM (mD (.inl (t, t)) (.inl (g_17, g_17)) (.inl (x9, x9)) (.inl un) (.inl tk) (.inl xt)) nw ws kp as rd sc) H ∧ va_S (eA E s.heap.size) s.heap H locs ∧ lv_has ls 3 [(0, .ref a0), (1, .int a1), (2, .int a2)]) (fun g_52 H locs ls h_ => ?_) (fun J_94 => ?_)
      · skip
        obtain ⟨hg_52, hH, hS, hl⟩ := h_
        have hg_52 : ((-2147483648) ≤ g_52 ∧ g_52 ≤ 2147483647) := hg_52
        have hH : TH E (tbM (mD (.inl (t, t)) (.inl (g_17, g_17)) (.inl (g_52, g_52)) (.inl un) (.inl tk) (.inl xt)) nw ws kp as rd sc) H := hH
        have hl : lv_has ls 3 [(0, .ref a0), (1, .int a1), (2, .int a2)] := hl
        show W _ _ _ _ _ _ _ _ _ _ _ _ _ _ _ (F0 _ _ _ [])
        refine lv_aload_n F.1 F.2.1 dX7_readsNumber_94 rfl (lv_at hl 0 rfl) ?_
        refine lv_dup F.1 F.2.1 dX7_readsNumber_95 rfl ?_
        refine tGetI (j := 31) F hK hH (tyb ha0 (all1 rfl)) rfl clX7 (by decide) wd_15_21 dX7_readsNumber_96 (fun z_53 hz_53 => ?_)
        have ez_53 : 0 ≤ z_53.toInt ∧ z_53.toInt ≤ 4000 := by omega
        refine lv_iconst (v := 1) F.1 F.2.1 dX7_readsNumber_99 (by decide) ?_
        refine topK (a := 1) (by decide) (fun k_54 hk_54 => ?_)
        refine tAdd (lo := 1) (hi := 4001) F dX7_readsNumber_100 ez_53 (eqb hk_54) rfl (fun z_55 hz_55 => ?_)
        obtain ⟨g_56, hg_56⟩ : ∃ y : Int, z_55.toInt = y := ⟨_, rfl⟩
        have bg_56 : 1 ≤ g_56 ∧ g_56 ≤ 4001 := by rw [← hg_56]; exact hz_55.2
        refine tPutG (j := 31) (t := 24) (fd := (.inl (g_56, g_56))) F hK hH hS (List.mem_singleton.mp ha0) (by decide) rfl rfl (fdI (by omega)) (TB1 := (tbM (mD (.inl (t, t)) (.inl (g_56, g_56)) (.inl (g_52, g_52)) (.inl un) (.inl tk) (.inl xt)) nw ws kp as rd sc)) rfl clX7 (by decide) wd_15_21 rfl rfl rfl rfl dX7_readsNumber_101 (fun H locs hH hS => ?_)
        refine lv_goto (tgt := 40) F.1 F.2.1 dX7_readsNumber_104 (by decide) ?_
        exact ih_40 (g_56, g_52) _ _ _ ⟨(show (5000 - g_56).toNat < n_40 from by omega), (show 0 ≤ g_56 ∧ g_56 ≤ 4000 from by omega), (show (-2147483648) ≤ g_52 ∧ g_52 ≤ 2147483647 from by omega), (show p ≤ g_56 from by omega), (show g_56 ≤ b from by omega), hH, hS, lv_sub hl [0, 1, 2] rfl⟩
      refine b_ge (tgt := 94) F dX7_readsNumber_68 (by decide) (fun c_57 => ?_) (fun c_57 => ?_)
      · skip
        have r_58 : 10000000 ≤ z_50.toInt ∧ z_50.toInt ≤ 2147483647 := by have h9_ := ez_50; omega
        exact J_94 (g_18) _ _ _ ⟨(show (-2147483648) ≤ g_18 ∧ g_18 ≤ 2147483647 from by omega), hH, hS, lv_sub hl [0, 1, 2] rfl⟩
      · skip
        have r_59 : (-2147483648) ≤ z_50.toInt ∧ z_50.toInt ≤ 9999999 := by have h9_ := ez_50; omega
        refine lv_aload_n F.1 F.2.1 dX7_readsNumber_71 rfl (lv_at hl 0 rfl) ?_
        refine lv_bipush (v := 10) F.1 F.2.1 dX7_readsNumber_72 (by decide) ?_
        refine topK (a := 10) (by decide) (fun k_60 hk_60 => ?_)
        refine lv_aload_n F.1 F.2.1 dX7_readsNumber_74 rfl (lv_at hl 0 rfl) ?_
        refine tGetI (j := 33) F hK hH (tyb ha0 (all1 rfl)) rfl clX7 (by decide) wd_17_18 dX7_readsNumber_75 (fun z_61 hz_61 => ?_)
        have ez_61 : (-2147483648) ≤ z_61.toInt ∧ z_61.toInt ≤ 9999999 := by omega
        refine lv_imul F.1 F.2.1 dX7_readsNumber_78 ?_
        refine topF (fun z_62 => ?_)
        refine lv_aload_n F.1 F.2.1 dX7_readsNumber_79 rfl (lv_at hl 0 rfl) ?_
        refine lv_aload_n F.1 F.2.1 dX7_readsNumber_80 rfl (lv_at hl 0 rfl) ?_
        refine tGetI (j := 31) F hK hH (tyb ha0 (all1 rfl)) rfl clX7 (by decide) wd_15_21 dX7_readsNumber_81 (fun z_63 hz_63 => ?_)
        have ez_63 : 0 ≤ z_63.toInt ∧ z_63.toInt ≤ 4000 := by omega
        refine tVi (b := a0) (As := [.int z_63]) (rest := [.int z_62, .ref a0]) F hK hN hO (c_X7_byteAt E nw ws kp as rd sc un tk xt (g_17, g_17) (g_18, g_18) t a0 z_63 ha0 (wkb ez_63 rfl rfl) (by omega)) mv_X7_byteAt wd_16_2 ⟨Nat.le_of_ble_eq_true rfl, Nat.le_of_ble_eq_true rfl⟩ ⟨Nat.le_of_ble_eq_true rfl, Nat.le_of_ble_eq_true rfl⟩ hH hS (tRecv hK hH (tyb ha0 (all1 rfl)) clX7) rfl hl.1 (Nat.le_of_ble_eq_true rfl) dX7_readsNumber_84 (fun z_64 H locs hq hS => ?_)
        obtain ⟨f_65, f_66, hH⟩ := hq
        have hH : TH E (tbM (mD (.inl (t, t)) (.inl (g_17, g_17)) (.inl (g_18, g_18)) (.inl un) (.inl tk) (.inl xt)) nw ws kp as rd sc) H := hH
        refine lv_iadd F.1 F.2.1 dX7_readsNumber_87 ?_
        refine topF (fun z_67 => ?_)
        refine lv_bipush (v := 48) F.1 F.2.1 dX7_readsNumber_88 (by decide) ?_
        refine topK (a := 48) (by decide) (fun k_68 hk_68 => ?_)
        refine lv_isub F.1 F.2.1 dX7_readsNumber_90 ?_
        refine topF (fun z_69 => ?_)
        obtain ⟨g_70, hg_70⟩ : ∃ y : Int, z_69.toInt = y := ⟨_, rfl⟩
        have bg_70 : (-2147483648) ≤ g_70 ∧ g_70 ≤ 2147483647 := by rw [← hg_70]; exact (i32b _)
        refine tPutG (j := 33) (t := 24) (fd := (.inl (g_70, g_70))) F hK hH hS (List.mem_singleton.mp ha0) (by decide) rfl rfl (fdI (by omega)) (TB1 := (tbM (mD (.inl (t, t)) (.inl (g_17, g_17)) (.inl (g_70, g_70)) (.inl un) (.inl tk) (.inl xt)) nw ws kp as rd sc)) rfl clX7 (by decide) wd_17_18 rfl rfl rfl rfl dX7_readsNumber_91 (fun H locs hH hS => ?_)
        exact J_94 (g_70) _ _ _ ⟨(show (-2147483648) ≤ g_70 ∧ g_70 ≤ 2147483647 from by omega), hH, hS, lv_sub hl [0, 1, 2] rfl⟩
  · skip
    have r_14 : 0 ≤ z_8.toInt ∧ z_8.toInt ≤ 0 := by have h9_ := f_9; omega
    refine lv_aload_n F.1 F.2.1 dX7_readsNumber_17 rfl (lv_at hl 0 rfl) ?_
    refine lv_iconst (v := 1) F.1 F.2.1 dX7_readsNumber_18 (by decide) ?_
    refine topK (a := 1) (by decide) (fun k_71 hk_71 => ?_)
    refine lv_aload_n F.1 F.2.1 dX7_readsNumber_19 rfl (lv_at hl 0 rfl) ?_
    refine tGetI (j := 31) F hK hH (tyb ha0 (all1 rfl)) rfl clX7 (by decide) wd_15_21 dX7_readsNumber_20 (fun z_72 hz_72 => ?_)
    have ez_72 : 0 ≤ z_72.toInt ∧ z_72.toInt ≤ 5000 := by omega
    refine tVi (b := a0) (As := [.int k_71, .int z_72]) (rest := []) F hK hN hO (c_X7_fails E nw ws kp as rd sc un tk xt (t, t) (g_2, g_2) (nu, nu) a0 k_71 z_72 ha0) mv_X7_fails wd_17_2 ⟨Nat.le_of_ble_eq_true rfl, Nat.le_of_ble_eq_true rfl⟩ ⟨Nat.le_of_ble_eq_true rfl, Nat.le_of_ble_eq_true rfl⟩ hH hS (tRecv hK hH (tyb ha0 (all1 rfl)) clX7) rfl hl.1 (Nat.le_of_ble_eq_true rfl) dX7_readsNumber_23 (fun z_73 H locs hq hS => ?_)
    obtain ⟨f_74, hH⟩ := hq
    have hH : TH E (tbM (mD (.inl (t, t)) (.inl (g_2, g_2)) (.inl (nu, nu)) (.inl un) (.inl tk) (.inl xt)) nw ws kp as rd sc) H := hH
    exact txI F hS dX7_readsNumber_26 (nar01 (wkb f_74 rfl rfl)) (⟨g_2, ⟨by omega, by omega, by omega, by omega⟩, nu, (by omega), (wkb f_74 rfl rfl), (by omega), hH⟩)
set_option maxHeartbeats 4000000 in
set_option maxRecDepth 100000 in
theorem c_X7_readsTo (E : Ev) (nw : TD) (ws : TD) (kp : TD) (as : TD) (sc : TD) (un : Int × Int) (tk : Int × Int) (xt : Int × Int) (t : Int) (p : Int) (nu : Int) (B : Nat → Int32) (b : Int) (a0 : Nat) (a1 : Int32) (a2 : Int32) (a3 : Int32) (ha0 : eT E a0 ∈ [24]) (ht : 0 ≤ t ∧ t ≤ 400) (hp : 0 ≤ p ∧ p ≤ 4000) (hnu : (-2147483648) ≤ nu ∧ nu ≤ 2147483647) (hB : okR B) (hb : p ≤ b ∧ 400 ≤ b ∧ b ≤ 4000) (hat : 0 ≤ a1.toInt ∧ a1.toInt < 660 ∧ a1.toInt ≠ 0 ∧ a1.toInt ≠ 1 ∧ a1.toInt ≠ 2 ∧ a1.toInt ≠ 3 ∧ (a1.toInt < 78 ∨ 260 ≤ a1.toInt ∨ (a1.toInt - 78) % 13 ≠ 6)) (hp : ∀ y : Int, a2.toInt ≤ y → y ≤ a3.toInt → phi a1.toInt y) (h6e : a1.toInt = 6 → a3.toInt < a2.toInt) : TcI E yX7_readsTo cX7_readsTo 4 .boolean ({ frames := 4, cells := 0, slots := 0, locals := 103 }) [.ref a0, .int a1, .int a2, .int a3] (fun H => TH E (tbM (mD (.inl (t, t)) (.inl (p, p)) (.inl (nu, nu)) (.inl un) (.inl tk) (.inl xt)) nw ws kp as (xD 660 B) sc) H) (fun v H => ∃ p2 : Int, (0 ≤ p2 ∧ p2 ≤ 5000 ∧ p ≤ p2 ∧ p2 ≤ b + 0) ∧ ∃ nu2 : Int, ((-2147483648) ≤ nu2 ∧ nu2 ≤ 2147483647) ∧ ∃ B2 : Nat → Int32, (okR B2 ∧ gI B2 0 = gI B 0 ∧ gI B2 1 = gI B 1 ∧ gI B2 2 = gI B 2 ∧ gI B2 6 = gI B 6 ∧ gI B2 3 = gI B 3) ∧ (0 ≤ v.toInt ∧ v.toInt ≤ 1) ∧ TH E (tbM (mD (.inl (t, t)) (.inl (p2, p2)) (.inl (nu2, nu2)) (.inl un) (.inl tk) (.inl xt)) nw ws kp as (xD 660 B2) sc) H) := by
  refine teI (by decide) (Nat.le_of_ble_eq_true rfl) ?_
  intro p_ ev_ s mi_ below_ meth cd_ ls F hK hN hO hH hS hl
  have hH : TH E (tbM (mD (.inl (t, t)) (.inl (p, p)) (.inl (nu, nu)) (.inl un) (.inl tk) (.inl xt)) nw ws kp as (xD 660 B) sc) s.heap := hH
  have hl : lv_has ls 4 [(0, .ref a0), (1, .int a1), (2, .int a2), (3, .int a3)] := hl
  have hBB := okB hB.1
  have hLB := hB.2
  refine lv_aload_n F.1 F.2.1 dX7_readsTo_0 rfl (lv_at hl 0 rfl) ?_
  refine lv_iload_n F.1 F.2.1 dX7_readsTo_1 rfl (lv_at hl 2 rfl) ?_
  refine lv_iload_n F.1 F.2.1 dX7_readsTo_2 rfl (lv_at hl 3 rfl) ?_
  refine tVi (b := a0) (As := [.int a2, .int a3]) (rest := []) F hK hN hO (c_X7_readsNumber E nw ws kp as (xD 660 B) sc un tk xt t p nu b a0 a2 a3 ha0 (by omega) (by omega) (by omega) (by omega)) mv_X7_readsNumber wd_17_19 ⟨Nat.le_of_ble_eq_true rfl, Nat.le_of_ble_eq_true rfl⟩ ⟨Nat.le_of_ble_eq_true rfl, Nat.le_of_ble_eq_true rfl⟩ hH hS (tRecv hK hH (tyb ha0 (all1 rfl)) clX7) rfl hl.1 (Nat.le_of_ble_eq_true rfl) dX7_readsTo_3 (fun z_1 H locs hq hS => ?_)
  obtain ⟨g_2, hg_2, g_3, hg_3, f_4, f_5, hH⟩ := hq
  have hH : TH E (tbM (mD (.inl (t, t)) (.inl (g_2, g_2)) (.inl (g_3, g_3)) (.inl un) (.inl tk) (.inl xt)) nw ws kp as (xD 660 B) sc) H := hH
  refine z_ne (tgt := 11) F dX7_readsTo_6 (by decide) (fun c_6 => ?_) (fun c_6 => ?_)
  · skip
    have r_7 : 1 ≤ z_1.toInt ∧ z_1.toInt ≤ 1 := by have h9_ := f_4; omega
    refine lv_aload_n F.1 F.2.1 dX7_readsTo_11 rfl (lv_at hl 0 rfl) ?_
    refine tGetR (j := 36) F hK hH (tyb ha0 (all1 rfl)) rfl (all1 rfl) clX7 (by decide) wd_7_5 dX7_readsTo_12 (fun q_9 hq_9 _ => ?_)
    refine lv_iload_n F.1 F.2.1 dX7_readsTo_15 rfl (lv_at hl 1 rfl) ?_
    refine lv_aload_n F.1 F.2.1 dX7_readsTo_16 rfl (lv_at hl 0 rfl) ?_
    refine tGetI (j := 33) F hK hH (tyb ha0 (all1 rfl)) rfl clX7 (by decide) wd_17_18 dX7_readsTo_17 (fun z_10 hz_10 => ?_)
    have ez_10 : (-2147483648) ≤ z_10.toInt ∧ z_10.toInt ≤ 2147483647 := by omega
    refine tIastX (t := 29) F hK hH hS (List.mem_singleton.mp hq_9) (by decide) rfl (by omega) dX7_readsTo_20 (fun G_11 eG_11 H locs hH hS => ?_)
    have hH : TH E (tbM (mD (.inl (t, t)) (.inl (g_2, g_2)) (.inl (g_3, g_3)) (.inl un) (.inl tk) (.inl xt)) nw ws kp as (xD 660 G_11) sc) H := hH
    have n0G_11 : gI G_11 0 = gI B 0 := gI_ne eG_11 (by omega) (by omega)
    have n1G_11 : gI G_11 1 = gI B 1 := gI_ne eG_11 (by omega) (by omega)
    have n2G_11 : gI G_11 2 = gI B 2 := gI_ne eG_11 (by omega) (by omega)
    have n6G_11 : gI G_11 6 = gI B 6 := gI_ne eG_11 (by omega) (by omega)
    have n3G_11 : gI G_11 3 = gI B 3 := gI_ne eG_11 (by omega) (by omega)
    have hG_11 : okR G_11 := (okR.stM hB eG_11 (by omega) (by omega) (by omega) (hp _ (by omega) (by omega)) (by omega))
    have hBG_11 := okB hG_11.1
    have hLG_11 := hG_11.2
    refine lv_iconst (v := 1) F.1 F.2.1 dX7_readsTo_21 (by decide) ?_
    refine topK (a := 1) (by decide) (fun k_12 hk_12 => ?_)
    exact txI F hS dX7_readsTo_22 (nar01 (wkb (eqb hk_12) rfl rfl)) (⟨g_2, ⟨by omega, by omega, by omega, by omega⟩, g_3, (by omega), G_11, ⟨hG_11, by omega, by omega, by omega, by omega, by omega⟩, (wkb (eqb hk_12) rfl rfl), hH⟩)
  · skip
    have r_8 : 0 ≤ z_1.toInt ∧ z_1.toInt ≤ 0 := by have h9_ := f_4; omega
    refine lv_iconst (v := 0) F.1 F.2.1 dX7_readsTo_9 (by decide) ?_
    refine topK (a := 0) (by decide) (fun k_13 hk_13 => ?_)
    exact txI F hS dX7_readsTo_10 (nar01 (wkb (eqb hk_13) rfl rfl)) (⟨g_2, ⟨by omega, by omega, by omega, by omega⟩, g_3, (by omega), B, ⟨hB, by omega, by omega, by omega, by omega, by omega⟩, (wkb (eqb hk_13) rfl rfl), hH⟩)
set_option maxHeartbeats 4000000 in
set_option maxRecDepth 100000 in
theorem c_X7_begins_0 (E : Ev) (nw : TD) (ws : TD) (kp : TD) (as : TD) (sc : TD) (un : Int × Int) (tk : Int × Int) (xt : Int × Int) (nu : Int × Int) (t : Int) (p : Int) (B : Nat → Int32) (b : Int) (a0 : Nat) (t1 n1 : Nat) (a2 : Int32) (a3 : Int32) (ha0 : eT E a0 ∈ [24]) (ha1 : strOf t1 n1) (ha2 : 0 ≤ a2.toInt ∧ a2.toInt ≤ 0) (ha3 : 12 ≤ a3.toInt ∧ a3.toInt ≤ 12) (ht : 0 ≤ t ∧ t ≤ 400) (hp : 0 ≤ p ∧ p ≤ 4000) (hB : okR B) (hb : p ≤ b ∧ 400 ≤ b ∧ b ≤ 4000) : TcI E yX7_begins cX7_begins 4 .boolean ({ frames := 3, cells := 0, slots := 0, locals := 100 }) [.ref a0, .ref (eX E t1), .int a2, .int a3] (fun H => TH E (tbM (mD (.inl (t, t)) (.inl (p, p)) (.inl nu) (.inl un) (.inl tk) (.inl xt)) nw ws kp as (xD 660 B) sc) H) (fun v H => ∃ p2 : Int, (0 ≤ p2 ∧ p2 ≤ 5000 ∧ p ≤ p2 ∧ p2 ≤ b + 6) ∧ (0 ≤ v.toInt ∧ v.toInt ≤ 1) ∧ (v.toInt = 1 → gI B 0 ≠ 12) ∧ TH E (tbM (mD (.inl (t, t)) (.inl (p2, p2)) (.inl nu) (.inl un) (.inl tk) (.inl xt)) nw ws kp as (xD 660 B) sc) H) := by
  refine teI (by decide) (Nat.le_of_ble_eq_true rfl) ?_
  intro p_ ev_ s mi_ below_ meth cd_ ls F hK hN hO hH hS hl
  have hH : TH E (tbM (mD (.inl (t, t)) (.inl (p, p)) (.inl nu) (.inl un) (.inl tk) (.inl xt)) nw ws kp as (xD 660 B) sc) s.heap := hH
  have hl : lv_has ls 4 [(0, .ref a0), (1, .ref (eX E t1)), (2, .int a2), (3, .int a3)] := hl
  have hBB := okB hB.1
  have hLB := hB.2
  refine lv_aload_n F.1 F.2.1 dX7_begins_0 rfl (lv_at hl 0 rfl) ?_
  refine tGetR (j := 36) F hK hH (tyb ha0 (all1 rfl)) rfl (all1 rfl) clX7 (by decide) wd_7_5 dX7_begins_1 (fun q_1 hq_1 _ => ?_)
  refine lv_iload_n F.1 F.2.1 dX7_begins_4 rfl (lv_at hl 2 rfl) ?_
  refine tIaldX F hK hH (tyb hq_1 (all1 rfl)) (ixb (n := 660) ha2 rfl rfl) dX7_begins_5 (fun z_2 ez_2 => ?_)
  have gz_2 : z_2.toInt = gI B (0) := by unfold gI; rw [ez_2, show (a2).toNatClampNeg = (0) from by show (a2).toInt.toNat = _; omega]
  have hz_2 : 0 ≤ z_2.toInt ∧ z_2.toInt ≤ 12 := (by have h9_ := okA.at (i := a2) hB.1 (by omega); rw [show gI B (a2).toNatClampNeg = z_2.toInt from by unfold gI; rw [ez_2]] at h9_; have h8_ := phi_0 h9_ (by omega); omega)
  refine lv_iload_n F.1 F.2.1 dX7_begins_6 rfl (lv_at hl 3 rfl) ?_
  refine b_ne (tgt := 20) F dX7_begins_7 (by decide) (fun c_3 => ?_) (fun c_3 => ?_)
  · skip
    have r_4 : 0 ≤ z_2.toInt ∧ z_2.toInt ≤ 11 := by have h9_ := hz_2; omega
    refine lv_aload_n F.1 F.2.1 dX7_begins_20 rfl (lv_at hl 0 rfl) ?_
    refine lv_dup F.1 F.2.1 dX7_begins_21 rfl ?_
    refine tGetI (j := 31) F hK hH (tyb ha0 (all1 rfl)) rfl clX7 (by decide) wd_15_21 dX7_begins_22 (fun z_6 hz_6 => ?_)
    have ez_6 : 0 ≤ z_6.toInt ∧ z_6.toInt ≤ 4000 := by omega
    refine lv_aload_n F.1 F.2.1 dX7_begins_25 rfl (lv_at hl 1 rfl) ?_
    refine tVi (b := (eX E t1)) (As := []) (rest := [.int z_6, .ref a0]) F hK hN hO (c_len E (fun H => TH E (tbM (mD (.inl (t, t)) (.inl (p, p)) (.inl nu) (.inl un) (.inl tk) (.inl xt)) nw ws kp as (xD 660 B) sc) H) t1 n1 ha1) mv_J0_length_8abf5 wd_16_16 ⟨Nat.le_of_ble_eq_true rfl, Nat.le_of_ble_eq_true rfl⟩ ⟨Nat.le_of_ble_eq_true rfl, Nat.le_of_ble_eq_true rfl⟩ hH hS (sRecvS hO ha1 hS) rfl hl.1 (Nat.le_of_ble_eq_true rfl) dX7_begins_26 (fun z_7 H locs hq hS => ?_)
    obtain ⟨hz_7, hH⟩ := hq
    have hH : TH E (tbM (mD (.inl (t, t)) (.inl (p, p)) (.inl nu) (.inl un) (.inl tk) (.inl xt)) nw ws kp as (xD 660 B) sc) H := hH
    have ez_7 : 3 ≤ z_7.toInt ∧ z_7.toInt ≤ 6 := by have h9_ := strLe ha1; omega
    refine tAdd (lo := 3) (hi := 4006) F dX7_begins_29 ez_6 ez_7 rfl (fun z_8 hz_8 => ?_)
    obtain ⟨g_9, hg_9⟩ : ∃ y : Int, z_8.toInt = y := ⟨_, rfl⟩
    have bg_9 : 3 ≤ g_9 ∧ g_9 ≤ 4006 := by rw [← hg_9]; exact hz_8.2
    refine tPutG (j := 31) (t := 24) (fd := (.inl (g_9, g_9))) F hK hH hS (List.mem_singleton.mp ha0) (by decide) rfl rfl (fdI (by omega)) (TB1 := (tbM (mD (.inl (t, t)) (.inl (g_9, g_9)) (.inl nu) (.inl un) (.inl tk) (.inl xt)) nw ws kp as (xD 660 B) sc)) rfl clX7 (by decide) wd_15_21 rfl rfl rfl rfl dX7_begins_30 (fun H locs hH hS => ?_)
    refine lv_iconst (v := 1) F.1 F.2.1 dX7_begins_33 (by decide) ?_
    refine topK (a := 1) (by decide) (fun k_10 hk_10 => ?_)
    exact txI F hS dX7_begins_34 (nar01 (wkb (eqb hk_10) rfl rfl)) (⟨g_9, ⟨by omega, by omega, by omega, by omega⟩, (wkb (eqb hk_10) rfl rfl), (by omega), hH⟩)
  · skip
    have r_5 : 12 ≤ z_2.toInt ∧ z_2.toInt ≤ 12 := by have h9_ := hz_2; omega
    refine lv_aload_n F.1 F.2.1 dX7_begins_10 rfl (lv_at hl 0 rfl) ?_
    refine lv_iconst (v := 3) F.1 F.2.1 dX7_begins_11 (by decide) ?_
    refine topK (a := 3) (by decide) (fun k_11 hk_11 => ?_)
    refine lv_aload_n F.1 F.2.1 dX7_begins_12 rfl (lv_at hl 0 rfl) ?_
    refine tGetI (j := 31) F hK hH (tyb ha0 (all1 rfl)) rfl clX7 (by decide) wd_15_21 dX7_begins_13 (fun z_12 hz_12 => ?_)
    have ez_12 : 0 ≤ z_12.toInt ∧ z_12.toInt ≤ 4000 := by omega
    refine tVi (b := a0) (As := [.int k_11, .int z_12]) (rest := []) F hK hN hO (c_X7_fails E nw ws kp as (xD 660 B) sc un tk xt (t, t) (p, p) nu a0 k_11 z_12 ha0) mv_X7_fails wd_17_2 ⟨Nat.le_of_ble_eq_true rfl, Nat.le_of_ble_eq_true rfl⟩ ⟨Nat.le_of_ble_eq_true rfl, Nat.le_of_ble_eq_true rfl⟩ hH hS (tRecv hK hH (tyb ha0 (all1 rfl)) clX7) rfl hl.1 (Nat.le_of_ble_eq_true rfl) dX7_begins_16 (fun z_13 H locs hq hS => ?_)
    obtain ⟨f_14, hH⟩ := hq
    have hH : TH E (tbM (mD (.inl (t, t)) (.inl (p, p)) (.inl nu) (.inl un) (.inl tk) (.inl xt)) nw ws kp as (xD 660 B) sc) H := hH
    exact txI F hS dX7_begins_19 (nar01 (wkb f_14 rfl rfl)) (⟨p, ⟨by omega, by omega, by omega, by omega⟩, (wkb f_14 rfl rfl), (by omega), hH⟩)
set_option maxHeartbeats 4000000 in
set_option maxRecDepth 100000 in
theorem c_X7_begins_1 (E : Ev) (nw : TD) (ws : TD) (kp : TD) (as : TD) (sc : TD) (un : Int × Int) (tk : Int × Int) (xt : Int × Int) (nu : Int × Int) (t : Int) (p : Int) (B : Nat → Int32) (b : Int) (a0 : Nat) (t1 n1 : Nat) (a2 : Int32) (a3 : Int32) (ha0 : eT E a0 ∈ [24]) (ha1 : strOf t1 n1) (ha2 : 1 ≤ a2.toInt ∧ a2.toInt ≤ 1) (ha3 : 14 ≤ a3.toInt ∧ a3.toInt ≤ 14) (ht : 0 ≤ t ∧ t ≤ 400) (hp : 0 ≤ p ∧ p ≤ 4000) (hB : okR B) (hb : p ≤ b ∧ 400 ≤ b ∧ b ≤ 4000) : TcI E yX7_begins cX7_begins 4 .boolean ({ frames := 3, cells := 0, slots := 0, locals := 100 }) [.ref a0, .ref (eX E t1), .int a2, .int a3] (fun H => TH E (tbM (mD (.inl (t, t)) (.inl (p, p)) (.inl nu) (.inl un) (.inl tk) (.inl xt)) nw ws kp as (xD 660 B) sc) H) (fun v H => ∃ p2 : Int, (0 ≤ p2 ∧ p2 ≤ 5000 ∧ p ≤ p2 ∧ p2 ≤ b + 6) ∧ (0 ≤ v.toInt ∧ v.toInt ≤ 1) ∧ (v.toInt = 1 → gI B 1 ≠ 14) ∧ TH E (tbM (mD (.inl (t, t)) (.inl (p2, p2)) (.inl nu) (.inl un) (.inl tk) (.inl xt)) nw ws kp as (xD 660 B) sc) H) := by
  refine teI (by decide) (Nat.le_of_ble_eq_true rfl) ?_
  intro p_ ev_ s mi_ below_ meth cd_ ls F hK hN hO hH hS hl
  have hH : TH E (tbM (mD (.inl (t, t)) (.inl (p, p)) (.inl nu) (.inl un) (.inl tk) (.inl xt)) nw ws kp as (xD 660 B) sc) s.heap := hH
  have hl : lv_has ls 4 [(0, .ref a0), (1, .ref (eX E t1)), (2, .int a2), (3, .int a3)] := hl
  have hBB := okB hB.1
  have hLB := hB.2
  refine lv_aload_n F.1 F.2.1 dX7_begins_0 rfl (lv_at hl 0 rfl) ?_
  refine tGetR (j := 36) F hK hH (tyb ha0 (all1 rfl)) rfl (all1 rfl) clX7 (by decide) wd_7_5 dX7_begins_1 (fun q_1 hq_1 _ => ?_)
  refine lv_iload_n F.1 F.2.1 dX7_begins_4 rfl (lv_at hl 2 rfl) ?_
  refine tIaldX F hK hH (tyb hq_1 (all1 rfl)) (ixb (n := 660) ha2 rfl rfl) dX7_begins_5 (fun z_2 ez_2 => ?_)
  have gz_2 : z_2.toInt = gI B (1) := by unfold gI; rw [ez_2, show (a2).toNatClampNeg = (1) from by show (a2).toInt.toNat = _; omega]
  have hz_2 : 0 ≤ z_2.toInt ∧ z_2.toInt ≤ 14 := (by have h9_ := okA.at (i := a2) hB.1 (by omega); rw [show gI B (a2).toNatClampNeg = z_2.toInt from by unfold gI; rw [ez_2]] at h9_; have h8_ := phi_1 h9_ (by omega); omega)
  refine lv_iload_n F.1 F.2.1 dX7_begins_6 rfl (lv_at hl 3 rfl) ?_
  refine b_ne (tgt := 20) F dX7_begins_7 (by decide) (fun c_3 => ?_) (fun c_3 => ?_)
  · skip
    have r_4 : 0 ≤ z_2.toInt ∧ z_2.toInt ≤ 13 := by have h9_ := hz_2; omega
    refine lv_aload_n F.1 F.2.1 dX7_begins_20 rfl (lv_at hl 0 rfl) ?_
    refine lv_dup F.1 F.2.1 dX7_begins_21 rfl ?_
    refine tGetI (j := 31) F hK hH (tyb ha0 (all1 rfl)) rfl clX7 (by decide) wd_15_21 dX7_begins_22 (fun z_6 hz_6 => ?_)
    have ez_6 : 0 ≤ z_6.toInt ∧ z_6.toInt ≤ 4000 := by omega
    refine lv_aload_n F.1 F.2.1 dX7_begins_25 rfl (lv_at hl 1 rfl) ?_
    refine tVi (b := (eX E t1)) (As := []) (rest := [.int z_6, .ref a0]) F hK hN hO (c_len E (fun H => TH E (tbM (mD (.inl (t, t)) (.inl (p, p)) (.inl nu) (.inl un) (.inl tk) (.inl xt)) nw ws kp as (xD 660 B) sc) H) t1 n1 ha1) mv_J0_length_8abf5 wd_16_16 ⟨Nat.le_of_ble_eq_true rfl, Nat.le_of_ble_eq_true rfl⟩ ⟨Nat.le_of_ble_eq_true rfl, Nat.le_of_ble_eq_true rfl⟩ hH hS (sRecvS hO ha1 hS) rfl hl.1 (Nat.le_of_ble_eq_true rfl) dX7_begins_26 (fun z_7 H locs hq hS => ?_)
    obtain ⟨hz_7, hH⟩ := hq
    have hH : TH E (tbM (mD (.inl (t, t)) (.inl (p, p)) (.inl nu) (.inl un) (.inl tk) (.inl xt)) nw ws kp as (xD 660 B) sc) H := hH
    have ez_7 : 3 ≤ z_7.toInt ∧ z_7.toInt ≤ 6 := by have h9_ := strLe ha1; omega
    refine tAdd (lo := 3) (hi := 4006) F dX7_begins_29 ez_6 ez_7 rfl (fun z_8 hz_8 => ?_)
    obtain ⟨g_9, hg_9⟩ : ∃ y : Int, z_8.toInt = y := ⟨_, rfl⟩
    have bg_9 : 3 ≤ g_9 ∧ g_9 ≤ 4006 := by rw [← hg_9]; exact hz_8.2
    refine tPutG (j := 31) (t := 24) (fd := (.inl (g_9, g_9))) F hK hH hS (List.mem_singleton.mp ha0) (by decide) rfl rfl (fdI (by omega)) (TB1 := (tbM (mD (.inl (t, t)) (.inl (g_9, g_9)) (.inl nu) (.inl un) (.inl tk) (.inl xt)) nw ws kp as (xD 660 B) sc)) rfl clX7 (by decide) wd_15_21 rfl rfl rfl rfl dX7_begins_30 (fun H locs hH hS => ?_)
    refine lv_iconst (v := 1) F.1 F.2.1 dX7_begins_33 (by decide) ?_
    refine topK (a := 1) (by decide) (fun k_10 hk_10 => ?_)
    exact txI F hS dX7_begins_34 (nar01 (wkb (eqb hk_10) rfl rfl)) (⟨g_9, ⟨by omega, by omega, by omega, by omega⟩, (wkb (eqb hk_10) rfl rfl), (by omega), hH⟩)
  · skip
    have r_5 : 14 ≤ z_2.toInt ∧ z_2.toInt ≤ 14 := by have h9_ := hz_2; omega
    refine lv_aload_n F.1 F.2.1 dX7_begins_10 rfl (lv_at hl 0 rfl) ?_
    refine lv_iconst (v := 3) F.1 F.2.1 dX7_begins_11 (by decide) ?_
    refine topK (a := 3) (by decide) (fun k_11 hk_11 => ?_)
    refine lv_aload_n F.1 F.2.1 dX7_begins_12 rfl (lv_at hl 0 rfl) ?_
    refine tGetI (j := 31) F hK hH (tyb ha0 (all1 rfl)) rfl clX7 (by decide) wd_15_21 dX7_begins_13 (fun z_12 hz_12 => ?_)
    have ez_12 : 0 ≤ z_12.toInt ∧ z_12.toInt ≤ 4000 := by omega
    refine tVi (b := a0) (As := [.int k_11, .int z_12]) (rest := []) F hK hN hO (c_X7_fails E nw ws kp as (xD 660 B) sc un tk xt (t, t) (p, p) nu a0 k_11 z_12 ha0) mv_X7_fails wd_17_2 ⟨Nat.le_of_ble_eq_true rfl, Nat.le_of_ble_eq_true rfl⟩ ⟨Nat.le_of_ble_eq_true rfl, Nat.le_of_ble_eq_true rfl⟩ hH hS (tRecv hK hH (tyb ha0 (all1 rfl)) clX7) rfl hl.1 (Nat.le_of_ble_eq_true rfl) dX7_begins_16 (fun z_13 H locs hq hS => ?_)
    obtain ⟨f_14, hH⟩ := hq
    have hH : TH E (tbM (mD (.inl (t, t)) (.inl (p, p)) (.inl nu) (.inl un) (.inl tk) (.inl xt)) nw ws kp as (xD 660 B) sc) H := hH
    exact txI F hS dX7_begins_19 (nar01 (wkb f_14 rfl rfl)) (⟨p, ⟨by omega, by omega, by omega, by omega⟩, (wkb f_14 rfl rfl), (by omega), hH⟩)
set_option maxHeartbeats 4000000 in
set_option maxRecDepth 100000 in
theorem c_X7_begins_2 (E : Ev) (nw : TD) (ws : TD) (kp : TD) (as : TD) (sc : TD) (un : Int × Int) (tk : Int × Int) (xt : Int × Int) (nu : Int × Int) (t : Int) (p : Int) (B : Nat → Int32) (b : Int) (a0 : Nat) (t1 n1 : Nat) (a2 : Int32) (a3 : Int32) (ha0 : eT E a0 ∈ [24]) (ha1 : strOf t1 n1) (ha2 : 2 ≤ a2.toInt ∧ a2.toInt ≤ 2) (ha3 : 4 ≤ a3.toInt ∧ a3.toInt ≤ 4) (ht : 0 ≤ t ∧ t ≤ 400) (hp : 0 ≤ p ∧ p ≤ 4000) (hB : okR B) (hb : p ≤ b ∧ 400 ≤ b ∧ b ≤ 4000) : TcI E yX7_begins cX7_begins 4 .boolean ({ frames := 3, cells := 0, slots := 0, locals := 100 }) [.ref a0, .ref (eX E t1), .int a2, .int a3] (fun H => TH E (tbM (mD (.inl (t, t)) (.inl (p, p)) (.inl nu) (.inl un) (.inl tk) (.inl xt)) nw ws kp as (xD 660 B) sc) H) (fun v H => ∃ p2 : Int, (0 ≤ p2 ∧ p2 ≤ 5000 ∧ p ≤ p2 ∧ p2 ≤ b + 6) ∧ (0 ≤ v.toInt ∧ v.toInt ≤ 1) ∧ (v.toInt = 1 → gI B 2 ≠ 4) ∧ TH E (tbM (mD (.inl (t, t)) (.inl (p2, p2)) (.inl nu) (.inl un) (.inl tk) (.inl xt)) nw ws kp as (xD 660 B) sc) H) := by
  refine teI (by decide) (Nat.le_of_ble_eq_true rfl) ?_
  intro p_ ev_ s mi_ below_ meth cd_ ls F hK hN hO hH hS hl
  have hH : TH E (tbM (mD (.inl (t, t)) (.inl (p, p)) (.inl nu) (.inl un) (.inl tk) (.inl xt)) nw ws kp as (xD 660 B) sc) s.heap := hH
  have hl : lv_has ls 4 [(0, .ref a0), (1, .ref (eX E t1)), (2, .int a2), (3, .int a3)] := hl
  have hBB := okB hB.1
  have hLB := hB.2
  refine lv_aload_n F.1 F.2.1 dX7_begins_0 rfl (lv_at hl 0 rfl) ?_
  refine tGetR (j := 36) F hK hH (tyb ha0 (all1 rfl)) rfl (all1 rfl) clX7 (by decide) wd_7_5 dX7_begins_1 (fun q_1 hq_1 _ => ?_)
  refine lv_iload_n F.1 F.2.1 dX7_begins_4 rfl (lv_at hl 2 rfl) ?_
  refine tIaldX F hK hH (tyb hq_1 (all1 rfl)) (ixb (n := 660) ha2 rfl rfl) dX7_begins_5 (fun z_2 ez_2 => ?_)
  have gz_2 : z_2.toInt = gI B (2) := by unfold gI; rw [ez_2, show (a2).toNatClampNeg = (2) from by show (a2).toInt.toNat = _; omega]
  have hz_2 : 0 ≤ z_2.toInt ∧ z_2.toInt ≤ 4 := (by have h9_ := okA.at (i := a2) hB.1 (by omega); rw [show gI B (a2).toNatClampNeg = z_2.toInt from by unfold gI; rw [ez_2]] at h9_; have h8_ := phi_2 h9_ (by omega); omega)
  refine lv_iload_n F.1 F.2.1 dX7_begins_6 rfl (lv_at hl 3 rfl) ?_
  refine b_ne (tgt := 20) F dX7_begins_7 (by decide) (fun c_3 => ?_) (fun c_3 => ?_)
  · skip
    have r_4 : 0 ≤ z_2.toInt ∧ z_2.toInt ≤ 3 := by have h9_ := hz_2; omega
    refine lv_aload_n F.1 F.2.1 dX7_begins_20 rfl (lv_at hl 0 rfl) ?_
    refine lv_dup F.1 F.2.1 dX7_begins_21 rfl ?_
    refine tGetI (j := 31) F hK hH (tyb ha0 (all1 rfl)) rfl clX7 (by decide) wd_15_21 dX7_begins_22 (fun z_6 hz_6 => ?_)
    have ez_6 : 0 ≤ z_6.toInt ∧ z_6.toInt ≤ 4000 := by omega
    refine lv_aload_n F.1 F.2.1 dX7_begins_25 rfl (lv_at hl 1 rfl) ?_
    refine tVi (b := (eX E t1)) (As := []) (rest := [.int z_6, .ref a0]) F hK hN hO (c_len E (fun H => TH E (tbM (mD (.inl (t, t)) (.inl (p, p)) (.inl nu) (.inl un) (.inl tk) (.inl xt)) nw ws kp as (xD 660 B) sc) H) t1 n1 ha1) mv_J0_length_8abf5 wd_16_16 ⟨Nat.le_of_ble_eq_true rfl, Nat.le_of_ble_eq_true rfl⟩ ⟨Nat.le_of_ble_eq_true rfl, Nat.le_of_ble_eq_true rfl⟩ hH hS (sRecvS hO ha1 hS) rfl hl.1 (Nat.le_of_ble_eq_true rfl) dX7_begins_26 (fun z_7 H locs hq hS => ?_)
    obtain ⟨hz_7, hH⟩ := hq
    have hH : TH E (tbM (mD (.inl (t, t)) (.inl (p, p)) (.inl nu) (.inl un) (.inl tk) (.inl xt)) nw ws kp as (xD 660 B) sc) H := hH
    have ez_7 : 3 ≤ z_7.toInt ∧ z_7.toInt ≤ 6 := by have h9_ := strLe ha1; omega
    refine tAdd (lo := 3) (hi := 4006) F dX7_begins_29 ez_6 ez_7 rfl (fun z_8 hz_8 => ?_)
    obtain ⟨g_9, hg_9⟩ : ∃ y : Int, z_8.toInt = y := ⟨_, rfl⟩
    have bg_9 : 3 ≤ g_9 ∧ g_9 ≤ 4006 := by rw [← hg_9]; exact hz_8.2
    refine tPutG (j := 31) (t := 24) (fd := (.inl (g_9, g_9))) F hK hH hS (List.mem_singleton.mp ha0) (by decide) rfl rfl (fdI (by omega)) (TB1 := (tbM (mD (.inl (t, t)) (.inl (g_9, g_9)) (.inl nu) (.inl un) (.inl tk) (.inl xt)) nw ws kp as (xD 660 B) sc)) rfl clX7 (by decide) wd_15_21 rfl rfl rfl rfl dX7_begins_30 (fun H locs hH hS => ?_)
    refine lv_iconst (v := 1) F.1 F.2.1 dX7_begins_33 (by decide) ?_
    refine topK (a := 1) (by decide) (fun k_10 hk_10 => ?_)
    exact txI F hS dX7_begins_34 (nar01 (wkb (eqb hk_10) rfl rfl)) (⟨g_9, ⟨by omega, by omega, by omega, by omega⟩, (wkb (eqb hk_10) rfl rfl), (by omega), hH⟩)
  · skip
    have r_5 : 4 ≤ z_2.toInt ∧ z_2.toInt ≤ 4 := by have h9_ := hz_2; omega
    refine lv_aload_n F.1 F.2.1 dX7_begins_10 rfl (lv_at hl 0 rfl) ?_
    refine lv_iconst (v := 3) F.1 F.2.1 dX7_begins_11 (by decide) ?_
    refine topK (a := 3) (by decide) (fun k_11 hk_11 => ?_)
    refine lv_aload_n F.1 F.2.1 dX7_begins_12 rfl (lv_at hl 0 rfl) ?_
    refine tGetI (j := 31) F hK hH (tyb ha0 (all1 rfl)) rfl clX7 (by decide) wd_15_21 dX7_begins_13 (fun z_12 hz_12 => ?_)
    have ez_12 : 0 ≤ z_12.toInt ∧ z_12.toInt ≤ 4000 := by omega
    refine tVi (b := a0) (As := [.int k_11, .int z_12]) (rest := []) F hK hN hO (c_X7_fails E nw ws kp as (xD 660 B) sc un tk xt (t, t) (p, p) nu a0 k_11 z_12 ha0) mv_X7_fails wd_17_2 ⟨Nat.le_of_ble_eq_true rfl, Nat.le_of_ble_eq_true rfl⟩ ⟨Nat.le_of_ble_eq_true rfl, Nat.le_of_ble_eq_true rfl⟩ hH hS (tRecv hK hH (tyb ha0 (all1 rfl)) clX7) rfl hl.1 (Nat.le_of_ble_eq_true rfl) dX7_begins_16 (fun z_13 H locs hq hS => ?_)
    obtain ⟨f_14, hH⟩ := hq
    have hH : TH E (tbM (mD (.inl (t, t)) (.inl (p, p)) (.inl nu) (.inl un) (.inl tk) (.inl xt)) nw ws kp as (xD 660 B) sc) H := hH
    exact txI F hS dX7_begins_19 (nar01 (wkb f_14 rfl rfl)) (⟨p, ⟨by omega, by omega, by omega, by omega⟩, (wkb f_14 rfl rfl), (by omega), hH⟩)
set_option maxHeartbeats 4000000 in
set_option maxRecDepth 100000 in
theorem c_X7_readsReachOf (E : Ev) (nw : TD) (ws : TD) (kp : TD) (as : TD) (sc : TD) (un : Int × Int) (tk : Int × Int) (xt : Int × Int) (t : Int) (p : Int) (nu : Int) (B : Nat → Int32) (b : Int) (a0 : Nat) (a1 : Int32) (ha0 : eT E a0 ∈ [24]) (ht : 0 ≤ t ∧ t ≤ 400) (hp : 0 ≤ p ∧ p ≤ 4000) (hnu : (-2147483648) ≤ nu ∧ nu ≤ 2147483647) (hB : okR B) (hb : p ≤ b ∧ 400 ≤ b ∧ b ≤ 4000) (hat : 0 ≤ a1.toInt ∧ a1.toInt < 660 ∧ a1.toInt ≠ 0 ∧ a1.toInt ≠ 1 ∧ a1.toInt ≠ 2 ∧ a1.toInt ≠ 3 ∧ (a1.toInt < 78 ∨ 260 ≤ a1.toInt ∨ (a1.toInt - 78) % 13 ≠ 6)) (hp : ∀ y : Int, 0 ≤ y → y < gI B 0 → phi a1.toInt y) (h6e : a1.toInt = 6 → gI B 0 = 0) : TcI E yX7_readsReachOf cX7_readsReachOf 2 .boolean ({ frames := 5, cells := 0, slots := 0, locals := 126 }) [.ref a0, .int a1] (fun H => TH E (tbM (mD (.inl (t, t)) (.inl (p, p)) (.inl (nu, nu)) (.inl un) (.inl tk) (.inl xt)) nw ws kp as (xD 660 B) sc) H) (fun v H => ∃ p2 : Int, (0 ≤ p2 ∧ p2 ≤ 5000 ∧ p ≤ p2 ∧ p2 ≤ b + 0) ∧ ∃ nu2 : Int, ((-2147483648) ≤ nu2 ∧ nu2 ≤ 2147483647) ∧ ∃ B2 : Nat → Int32, (okR B2 ∧ gI B2 0 = gI B 0 ∧ gI B2 1 = gI B 1 ∧ gI B2 2 = gI B 2 ∧ gI B2 6 = gI B 6 ∧ gI B2 3 = gI B 3) ∧ (0 ≤ v.toInt ∧ v.toInt ≤ 1) ∧ (v.toInt = 1 → 0 < gI B 0) ∧ TH E (tbM (mD (.inl (t, t)) (.inl (p2, p2)) (.inl (nu2, nu2)) (.inl un) (.inl tk) (.inl xt)) nw ws kp as (xD 660 B2) sc) H) := by
  refine teI (by decide) (Nat.le_of_ble_eq_true rfl) ?_
  intro p_ ev_ s mi_ below_ meth cd_ ls F hK hN hO hH hS hl
  have hH : TH E (tbM (mD (.inl (t, t)) (.inl (p, p)) (.inl (nu, nu)) (.inl un) (.inl tk) (.inl xt)) nw ws kp as (xD 660 B) sc) s.heap := hH
  have hl : lv_has ls 2 [(0, .ref a0), (1, .int a1)] := hl
  have hBB := okB hB.1
  have hLB := hB.2
  refine lv_aload_n F.1 F.2.1 dX7_readsReachOf_0 rfl (lv_at hl 0 rfl) ?_
  refine lv_iload_n F.1 F.2.1 dX7_readsReachOf_1 rfl (lv_at hl 1 rfl) ?_
  refine lv_iconst (v := 0) F.1 F.2.1 dX7_readsReachOf_2 (by decide) ?_
  refine topK (a := 0) (by decide) (fun k_1 hk_1 => ?_)
  refine lv_aload_n F.1 F.2.1 dX7_readsReachOf_3 rfl (lv_at hl 0 rfl) ?_
  refine tGetR (j := 36) F hK hH (tyb ha0 (all1 rfl)) rfl (all1 rfl) clX7 (by decide) wd_7_5 dX7_readsReachOf_4 (fun q_2 hq_2 _ => ?_)
  refine lv_iconst (v := 0) F.1 F.2.1 dX7_readsReachOf_7 (by decide) ?_
  refine topK (a := 0) (by decide) (fun k_3 hk_3 => ?_)
  refine tIaldX F hK hH (tyb hq_2 (all1 rfl)) (ixb (n := 660) (eqb hk_3) rfl rfl) dX7_readsReachOf_8 (fun z_4 ez_4 => ?_)
  have gz_4 : z_4.toInt = gI B (0) := by unfold gI; rw [ez_4, show (k_3).toNatClampNeg = (0) from by show (k_3).toInt.toNat = _; omega]
  have hz_4 : 0 ≤ z_4.toInt ∧ z_4.toInt ≤ 12 := (by have h9_ := okA.at (i := k_3) hB.1 (by omega); rw [show gI B (k_3).toNatClampNeg = z_4.toInt from by unfold gI; rw [ez_4]] at h9_; have h8_ := phi_0 h9_ (by omega); omega)
  refine lv_iconst (v := 1) F.1 F.2.1 dX7_readsReachOf_9 (by decide) ?_
  refine topK (a := 1) (by decide) (fun k_5 hk_5 => ?_)
  refine tSub (lo := (-1)) (hi := 11) F dX7_readsReachOf_10 hz_4 (eqb hk_5) rfl (fun z_6 hz_6 => ?_)
  refine tVi (b := a0) (As := [.int a1, .int k_1, .int z_6]) (rest := []) F hK hN hO (c_X7_readsTo E nw ws kp as sc un tk xt t p nu B b a0 a1 k_1 z_6 ha0 (by omega) (by omega) (by omega) hB (by omega) (by omega) (by intro y_ h1_ h2_; exact (phiI (by omega) (by omega) (by omega) (by omega) (by omega) (by omega) (by omega) (by omega) (by omega) (by omega) (by omega) (by omega) (by omega) (by omega) (by omega) (by omega) (by omega) (by omega))) (by omega)) mv_X7_readsTo wd_17_14 ⟨Nat.le_of_ble_eq_true rfl, Nat.le_of_ble_eq_true rfl⟩ ⟨Nat.le_of_ble_eq_true rfl, Nat.le_of_ble_eq_true rfl⟩ hH hS (tRecv hK hH (tyb ha0 (all1 rfl)) clX7) rfl hl.1 (Nat.le_of_ble_eq_true rfl) dX7_readsReachOf_11 (fun z_7 H locs hq hS => ?_)
  obtain ⟨g_8, hg_8, g_9, hg_9, g_10, hg_10, f_11, hH⟩ := hq
  have hH : TH E (tbM (mD (.inl (t, t)) (.inl (g_8, g_8)) (.inl (g_9, g_9)) (.inl un) (.inl tk) (.inl xt)) nw ws kp as (xD 660 g_10) sc) H := hH
  have hBg_10 := okB hg_10.1.1
  have hLg_10 := hg_10.1.2
  exact txI F hS dX7_readsReachOf_14 (nar01 f_11) (⟨g_8, ⟨by omega, by omega, by omega, by omega⟩, g_9, (by omega), g_10, ⟨hg_10.1, by omega, by omega, by omega, by omega, by omega⟩, f_11, (by omega), hH⟩)
set_option maxHeartbeats 4000000 in
set_option maxRecDepth 100000 in
theorem c_X7_readsAge (E : Ev) (nw : TD) (ws : TD) (kp : TD) (as : TD) (sc : TD) (un : Int × Int) (tk : Int × Int) (xt : Int × Int) (t : Int) (p : Int) (nu : Int) (B : Nat → Int32) (b : Int) (a0 : Nat) (a1 : Int32) (ha0 : eT E a0 ∈ [24]) (ha1 : 81 ≤ a1.toInt ∧ a1.toInt ≤ 287) (ht : 0 ≤ t ∧ t ≤ 400) (hp : 0 ≤ p ∧ p ≤ 4000) (hnu : (-2147483648) ≤ nu ∧ nu ≤ 2147483647) (hB : okR B) (hb : p ≤ b ∧ 400 ≤ b ∧ b ≤ 3900) (hat : (a1.toInt < 260 ∧ (a1.toInt - 78) % 13 = 4) ∨ (260 ≤ a1.toInt ∧ (a1.toInt - 260) % 7 = 3)) : TcI E yX7_readsAge cX7_readsAge 3 .boolean ({ frames := 8, cells := 0, slots := 0, locals := 247 }) [.ref a0, .int a1] (fun H => TH E (tbM (mD (.inl (t, t)) (.inl (p, p)) (.inl (nu, nu)) (.inl un) (.inl tk) (.inl xt)) nw ws kp as (xD 660 B) sc) H) (fun v H => ∃ p2 : Int, (0 ≤ p2 ∧ p2 ≤ 5000 ∧ p ≤ p2 ∧ p2 ≤ b + 6) ∧ ∃ nu2 : Int, ((-2147483648) ≤ nu2 ∧ nu2 ≤ 2147483647) ∧ ∃ B2 : Nat → Int32, (okR B2 ∧ gI B2 0 = gI B 0 ∧ gI B2 1 = gI B 1 ∧ gI B2 2 = gI B 2 ∧ gI B2 6 = gI B 6 ∧ gI B2 3 = gI B 3) ∧ (0 ≤ v.toInt ∧ v.toInt ≤ 1) ∧ TH E (tbM (mD (.inl (t, t)) (.inl (p2, p2)) (.inl (nu2, nu2)) (.inl un) (.inl tk) (.inl xt)) nw ws kp as (xD 660 B2) sc) H) := by
  refine teI (by decide) (Nat.le_of_ble_eq_true rfl) ?_
  intro p_ ev_ s mi_ below_ meth cd_ ls F hK hN hO hH hS hl
  have hH : TH E (tbM (mD (.inl (t, t)) (.inl (p, p)) (.inl (nu, nu)) (.inl un) (.inl tk) (.inl xt)) nw ws kp as (xD 660 B) sc) s.heap := hH
  have hl : lv_has ls 3 [(0, .ref a0), (1, .int a1)] := hl
  have hBB := okB hB.1
  have hLB := hB.2
  refine lv_aload_n F.1 F.2.1 dX7_readsAge_0 rfl (lv_at hl 0 rfl) ?_
  refine ldcwS F.1 F.2.1 F.2.2.2.2.1 (hO.1 22 _ rfl).1 dX7_readsAge_1 ?_
  refine tVi (b := a0) (As := [.ref (eX E 22)]) (rest := []) F hK hN hO (c_X7_mustWord E nw ws kp as (xD 660 B) sc un tk xt (nu, nu) t p b a0 22 3 ha0 (strAt 22 rfl) (by omega) (by omega) (by omega)) mv_X7_mustWord wd_18_12 ⟨Nat.le_of_ble_eq_true rfl, Nat.le_of_ble_eq_true rfl⟩ ⟨Nat.le_of_ble_eq_true rfl, Nat.le_of_ble_eq_true rfl⟩ hH hS (tRecv hK hH (tyb ha0 (all1 rfl)) clX7) rfl hl.1 (Nat.le_of_ble_eq_true rfl) dX7_readsAge_4 (fun z_1 H locs hq hS => ?_)
  obtain ⟨g_2, hg_2, f_3, hH⟩ := hq
  have hH : TH E (tbM (mD (.inl (t, t)) (.inl (g_2, g_2)) (.inl (nu, nu)) (.inl un) (.inl tk) (.inl xt)) nw ws kp as (xD 660 B) sc) H := hH
  refine z_eq (tgt := 21) F dX7_readsAge_7 (by decide) (fun c_4 => ?_) (fun c_4 => ?_)
  · skip
    have r_5 : 0 ≤ z_1.toInt ∧ z_1.toInt ≤ 0 := by have h9_ := f_3; omega
    refine lv_iconst (v := 0) F.1 F.2.1 dX7_readsAge_21 (by decide) ?_
    refine topK (a := 0) (by decide) (fun k_7 hk_7 => ?_)
    exact txI F hS dX7_readsAge_22 (nar01 (wkb (eqb hk_7) rfl rfl)) (⟨g_2, ⟨by omega, by omega, by omega, by omega⟩, nu, (by omega), B, ⟨hB, by omega, by omega, by omega, by omega, by omega⟩, (wkb (eqb hk_7) rfl rfl), hH⟩)
  · skip
    have r_6 : 1 ≤ z_1.toInt ∧ z_1.toInt ≤ 1 := by have h9_ := f_3; omega
    refine lv_aload_n F.1 F.2.1 dX7_readsAge_10 rfl (lv_at hl 0 rfl) ?_
    refine lv_iconst (v := 0) F.1 F.2.1 dX7_readsAge_11 (by decide) ?_
    refine topK (a := 0) (by decide) (fun k_8 hk_8 => ?_)
    refine lv_sipush (v := 9999) F.1 F.2.1 dX7_readsAge_12 (by decide) ?_
    refine topK (a := 9999) (by decide) (fun k_9 hk_9 => ?_)
    refine tVi (b := a0) (As := [.int k_8, .int k_9]) (rest := []) F hK hN hO (c_X7_readsNumber E nw ws kp as (xD 660 B) sc un tk xt t g_2 nu (b + 6) a0 k_8 k_9 ha0 (by omega) (by omega) (by omega) (by omega)) mv_X7_readsNumber wd_17_19 ⟨Nat.le_of_ble_eq_true rfl, Nat.le_of_ble_eq_true rfl⟩ ⟨Nat.le_of_ble_eq_true rfl, Nat.le_of_ble_eq_true rfl⟩ hH hS (tRecv hK hH (tyb ha0 (all1 rfl)) clX7) rfl hl.1 (Nat.le_of_ble_eq_true rfl) dX7_readsAge_15 (fun z_10 H locs hq hS => ?_)
    obtain ⟨g_11, hg_11, g_12, hg_12, f_13, f_14, hH⟩ := hq
    have hH : TH E (tbM (mD (.inl (t, t)) (.inl (g_11, g_11)) (.inl (g_12, g_12)) (.inl un) (.inl tk) (.inl xt)) nw ws kp as (xD 660 B) sc) H := hH
    refine z_ne (tgt := 23) F dX7_readsAge_18 (by decide) (fun c_15 => ?_) (fun c_15 => ?_)
    · skip
      have r_16 : 1 ≤ z_10.toInt ∧ z_10.toInt ≤ 1 := by have h9_ := f_13; omega
      refine lv_iconst (v := 0) F.1 F.2.1 dX7_readsAge_23 (by decide) ?_
      refine topK (a := 0) (by decide) (fun k_18 hk_18 => ?_)
      refine lv_istore_n (lv' := [(2, .int k_18), (0, .ref a0), (1, .int a1)]) F.1 F.2.1 dX7_readsAge_24 rfl hl (by decide) rfl (fun ls hl => ?_)
      refine wloop (σ := Int32) (fun n9 x9 H locs ls => (14 - x9.toInt + 1).toNat < n9 ∧ (0 ≤ x9.toInt ∧ x9.toInt ≤ 14) ∧ TH E (tbM (mD (.inl (t, t)) (.inl (g_11, g_11)) (.inl (g_12, g_12)) (.inl un) (.inl tk) (.inl xt)) nw ws kp as (xD 660 B) sc) H ∧ va_S (eA E s.heap.size) s.heap H locs ∧ lv_has ls 3 [(0, .ref a0), (1, .int a1), (2, .int x9)]) ?_ (fun x9 H locs ls h => absurd h.1 (Nat.not_lt_zero _)) _ (k_18) ⟨Nat.lt_succ_self _, (wkb (eqb hk_18) rfl rfl), hH, hS, lv_sub hl [1, 2, 0] rfl⟩
      intro n_25 ih_25 u_19 H locs ls ⟨hm_25, hu_19, hH, hS, hl⟩
      have hm_25 : (14 - u_19.toInt + 1).toNat < n_25 + 1 := hm_25
      have hu_19 : (0 ≤ u_19.toInt ∧ u_19.toInt ≤ 14) := hu_19
      have hH : TH E (tbM (mD (.inl (t, t)) (.inl (g_11, g_11)) (.inl (g_12, g_12)) (.inl un) (.inl tk) (.inl xt)) nw ws kp as (xD 660 B) sc) H := hH
      have hl : lv_has ls 3 [(0, .ref a0), (1, .int a1), (2, .int u_19)] := hl
      refine lv_iload_n F.1 F.2.1 dX7_readsAge_25 rfl (lv_at hl 2 rfl) ?_
      refine lv_aload_n F.1 F.2.1 dX7_readsAge_26 rfl (lv_at hl 0 rfl) ?_
      refine tGetR (j := 36) F hK hH (tyb ha0 (all1 rfl)) rfl (all1 rfl) clX7 (by decide) wd_7_5 dX7_readsAge_27 (fun q_20 hq_20 _ => ?_)
      refine lv_iconst (v := 1) F.1 F.2.1 dX7_readsAge_30 (by decide) ?_
      refine topK (a := 1) (by decide) (fun k_21 hk_21 => ?_)
      refine tIaldX F hK hH (tyb hq_20 (all1 rfl)) (ixb (n := 660) (eqb hk_21) rfl rfl) dX7_readsAge_31 (fun z_22 ez_22 => ?_)
      have gz_22 : z_22.toInt = gI B (1) := by unfold gI; rw [ez_22, show (k_21).toNatClampNeg = (1) from by show (k_21).toInt.toNat = _; omega]
      have hz_22 : 0 ≤ z_22.toInt ∧ z_22.toInt ≤ 14 := (by have h9_ := okA.at (i := k_21) hB.1 (by omega); rw [show gI B (k_21).toNatClampNeg = z_22.toInt from by unfold gI; rw [ez_22]] at h9_; have h8_ := phi_1 h9_ (by omega); omega)
      refine b_ge (tgt := 72) F dX7_readsAge_32 (by decide) (fun c_23 => ?_) (fun c_23 => ?_)
      · skip
        refine lv_iconst (v := 0) F.1 F.2.1 dX7_readsAge_72 (by decide) ?_
        refine topK (a := 0) (by decide) (fun k_26 hk_26 => ?_)
        refine lv_istore_n (lv' := [(2, .int k_26), (0, .ref a0), (1, .int a1)]) F.1 F.2.1 dX7_readsAge_73 rfl hl (by decide) rfl (fun ls hl => ?_)
        refine wloop (σ := Int32) (fun n9 x9 H locs ls => (4 - x9.toInt + 1).toNat < n9 ∧ (0 ≤ x9.toInt ∧ x9.toInt ≤ 4) ∧ TH E (tbM (mD (.inl (t, t)) (.inl (g_11, g_11)) (.inl (g_12, g_12)) (.inl un) (.inl tk) (.inl xt)) nw ws kp as (xD 660 B) sc) H ∧ va_S (eA E s.heap.size) s.heap H locs ∧ lv_has ls 3 [(0, .ref a0), (1, .int a1), (2, .int x9)]) ?_ (fun x9 H locs ls h => absurd h.1 (Nat.not_lt_zero _)) _ (k_26) ⟨Nat.lt_succ_self _, (wkb (eqb hk_26) rfl rfl), hH, hS, lv_sub hl [1, 2, 0] rfl⟩
        intro n_74 ih_74 u_27 H locs ls ⟨hm_74, hu_27, hH, hS, hl⟩
        have hm_74 : (4 - u_27.toInt + 1).toNat < n_74 + 1 := hm_74
        have hu_27 : (0 ≤ u_27.toInt ∧ u_27.toInt ≤ 4) := hu_27
        have hH : TH E (tbM (mD (.inl (t, t)) (.inl (g_11, g_11)) (.inl (g_12, g_12)) (.inl un) (.inl tk) (.inl xt)) nw ws kp as (xD 660 B) sc) H := hH
        have hl : lv_has ls 3 [(0, .ref a0), (1, .int a1), (2, .int u_27)] := hl
        refine lv_iload_n F.1 F.2.1 dX7_readsAge_74 rfl (lv_at hl 2 rfl) ?_
        refine lv_aload_n F.1 F.2.1 dX7_readsAge_75 rfl (lv_at hl 0 rfl) ?_
        refine tGetR (j := 36) F hK hH (tyb ha0 (all1 rfl)) rfl (all1 rfl) clX7 (by decide) wd_7_5 dX7_readsAge_76 (fun q_28 hq_28 _ => ?_)
        refine lv_iconst (v := 2) F.1 F.2.1 dX7_readsAge_79 (by decide) ?_
        refine topK (a := 2) (by decide) (fun k_29 hk_29 => ?_)
        refine tIaldX F hK hH (tyb hq_28 (all1 rfl)) (ixb (n := 660) (eqb hk_29) rfl rfl) dX7_readsAge_80 (fun z_30 ez_30 => ?_)
        have gz_30 : z_30.toInt = gI B (2) := by unfold gI; rw [ez_30, show (k_29).toNatClampNeg = (2) from by show (k_29).toInt.toNat = _; omega]
        have hz_30 : 0 ≤ z_30.toInt ∧ z_30.toInt ≤ 4 := (by have h9_ := okA.at (i := k_29) hB.1 (by omega); rw [show gI B (k_29).toNatClampNeg = z_30.toInt from by unfold gI; rw [ez_30]] at h9_; have h8_ := phi_2 h9_ (by omega); omega)
        refine b_ge (tgt := 122) F dX7_readsAge_81 (by decide) (fun c_31 => ?_) (fun c_31 => ?_)
        · skip
          refine lv_aload_n F.1 F.2.1 dX7_readsAge_122 rfl (lv_at hl 0 rfl) ?_
          refine tGetR (j := 36) F hK hH (tyb ha0 (all1 rfl)) rfl (all1 rfl) clX7 (by decide) wd_7_5 dX7_readsAge_123 (fun q_34 hq_34 _ => ?_)
          refine lv_iload_n F.1 F.2.1 dX7_readsAge_126 rfl (lv_at hl 1 rfl) ?_
          refine lv_aload_n F.1 F.2.1 dX7_readsAge_127 rfl (lv_at hl 0 rfl) ?_
          refine tGetI (j := 33) F hK hH (tyb ha0 (all1 rfl)) rfl clX7 (by decide) wd_17_18 dX7_readsAge_128 (fun z_35 hz_35 => ?_)
          have ez_35 : (-2147483648) ≤ z_35.toInt ∧ z_35.toInt ≤ 2147483647 := by omega
          refine tIastX (t := 29) F hK hH hS (List.mem_singleton.mp hq_34) (by decide) rfl (ixb (n := 660) ha1 rfl rfl) dX7_readsAge_131 (fun G_36 eG_36 H locs hH hS => ?_)
          have hH : TH E (tbM (mD (.inl (t, t)) (.inl (g_11, g_11)) (.inl (g_12, g_12)) (.inl un) (.inl tk) (.inl xt)) nw ws kp as (xD 660 G_36) sc) H := hH
          have n0G_36 : gI G_36 0 = gI B 0 := gI_ne eG_36 (by omega) (by omega)
          have n1G_36 : gI G_36 1 = gI B 1 := gI_ne eG_36 (by omega) (by omega)
          have n2G_36 : gI G_36 2 = gI B 2 := gI_ne eG_36 (by omega) (by omega)
          have n6G_36 : gI G_36 6 = gI B 6 := gI_ne eG_36 (by omega) (by omega)
          have n3G_36 : gI G_36 3 = gI B 3 := gI_ne eG_36 (by omega) (by omega)
          have hG_36 : okR G_36 := (okR.stM hB eG_36 (by omega) (by omega) (by omega) (phiI (by omega) (by omega) (by omega) (by omega) (by omega) (by omega) (by omega) (by omega) (by omega) (by omega) (by omega) (by omega) (by omega) (by omega) (by omega) (by omega) (by omega) (by omega)) (by omega))
          have hBG_36 := okB hG_36.1
          have hLG_36 := hG_36.2
          refine lv_iconst (v := 1) F.1 F.2.1 dX7_readsAge_132 (by decide) ?_
          refine topK (a := 1) (by decide) (fun k_37 hk_37 => ?_)
          exact txI F hS dX7_readsAge_133 (nar01 (wkb (eqb hk_37) rfl rfl)) (⟨g_11, ⟨by omega, by omega, by omega, by omega⟩, g_12, (by omega), G_36, ⟨hG_36, by omega, by omega, by omega, by omega, by omega⟩, (wkb (eqb hk_37) rfl rfl), hH⟩)
        · skip
          have r_32 : 0 ≤ u_27.toInt ∧ u_27.toInt ≤ 3 := by have h9_ := hu_27; omega
          have r_33 : 1 ≤ z_30.toInt ∧ z_30.toInt ≤ 4 := by have h9_ := hz_30; omega
          refine lv_aload_n F.1 F.2.1 dX7_readsAge_84 rfl (lv_at hl 0 rfl) ?_
          refine tGetR (j := 36) F hK hH (tyb ha0 (all1 rfl)) rfl (all1 rfl) clX7 (by decide) wd_7_5 dX7_readsAge_85 (fun q_38 hq_38 _ => ?_)
          refine lv_sipush (v := 260) F.1 F.2.1 dX7_readsAge_88 (by decide) ?_
          refine topK (a := 260) (by decide) (fun k_39 hk_39 => ?_)
          refine lv_bipush (v := 7) F.1 F.2.1 dX7_readsAge_91 (by decide) ?_
          refine topK (a := 7) (by decide) (fun k_40 hk_40 => ?_)
          refine lv_iload_n F.1 F.2.1 dX7_readsAge_93 rfl (lv_at hl 2 rfl) ?_
          refine tMul (lo := 0) (hi := 21) F dX7_readsAge_94 (eqb hk_40) r_32 rfl (fun z_41 hz_41 => ?_)
          have mz_41 : z_41.toInt = 7 * u_27.toInt := by rw [hz_41.1, hk_40]
          refine tAdd (lo := 260) (hi := 281) F dX7_readsAge_95 (eqb hk_39) hz_41.2 rfl (fun z_42 hz_42 => ?_)
          refine lv_iconst (v := 3) F.1 F.2.1 dX7_readsAge_96 (by decide) ?_
          refine topK (a := 3) (by decide) (fun k_43 hk_43 => ?_)
          refine tAdd (lo := 263) (hi := 284) F dX7_readsAge_97 hz_42.2 (eqb hk_43) rfl (fun z_44 hz_44 => ?_)
          refine tIaldX F hK hH (tyb hq_38 (all1 rfl)) (ixb (n := 660) hz_44.2 rfl rfl) dX7_readsAge_98 (fun z_45 ez_45 => ?_)
          refine lv_aload_n F.1 F.2.1 dX7_readsAge_99 rfl (lv_at hl 0 rfl) ?_
          refine tGetI (j := 33) F hK hH (tyb ha0 (all1 rfl)) rfl clX7 (by decide) wd_17_18 dX7_readsAge_100 (fun z_46 hz_46 => ?_)
          have ez_46 : (-2147483648) ≤ z_46.toInt ∧ z_46.toInt ≤ 2147483647 := by omega
          refine b_ne (tgt := 116) F dX7_readsAge_103 (by decide) (fun c_47 => ?_) (fun c_47 => ?_)
          · skip
            obtain ⟨x_48, ex_48, hx_48⟩ := iincB (c := 1) (lo := 1) (hi := 4) r_32 rfl
            refine lv_iinc (v := x_48) (lv' := [(2, .int x_48), (0, .ref a0), (1, .int a1)]) F.1 F.2.1 dX7_readsAge_116 hl (k := 2) rfl ex_48 (by decide) rfl (fun ls hl => ?_)
            refine lv_goto (tgt := 74) F.1 F.2.1 dX7_readsAge_119 (by decide) ?_
            exact ih_74 (x_48) _ _ _ ⟨(show (4 - x_48.toInt + 1).toNat < n_74 from by omega), (wkb hx_48.2 rfl rfl), hH, hS, lv_sub hl [1, 2, 0] rfl⟩
          · skip
            refine lv_aload_n F.1 F.2.1 dX7_readsAge_106 rfl (lv_at hl 0 rfl) ?_
            refine lv_iconst (v := 2) F.1 F.2.1 dX7_readsAge_107 (by decide) ?_
            refine topK (a := 2) (by decide) (fun k_49 hk_49 => ?_)
            refine lv_aload_n F.1 F.2.1 dX7_readsAge_108 rfl (lv_at hl 0 rfl) ?_
            refine tGetI (j := 34) F hK hH (tyb ha0 (all1 rfl)) rfl clX7 (by decide) wd_18_1 dX7_readsAge_109 (fun z_50 hz_50 => ?_)
            refine tVi (b := a0) (As := [.int k_49, .int z_50]) (rest := []) F hK hN hO (c_X7_fails E nw ws kp as (xD 660 B) sc un tk xt (t, t) (g_11, g_11) (g_12, g_12) a0 k_49 z_50 ha0) mv_X7_fails wd_17_2 ⟨Nat.le_of_ble_eq_true rfl, Nat.le_of_ble_eq_true rfl⟩ ⟨Nat.le_of_ble_eq_true rfl, Nat.le_of_ble_eq_true rfl⟩ hH hS (tRecv hK hH (tyb ha0 (all1 rfl)) clX7) rfl hl.1 (Nat.le_of_ble_eq_true rfl) dX7_readsAge_112 (fun z_51 H locs hq hS => ?_)
            obtain ⟨f_52, hH⟩ := hq
            have hH : TH E (tbM (mD (.inl (t, t)) (.inl (g_11, g_11)) (.inl (g_12, g_12)) (.inl un) (.inl tk) (.inl xt)) nw ws kp as (xD 660 B) sc) H := hH
            exact txI F hS dX7_readsAge_115 (nar01 (wkb f_52 rfl rfl)) (⟨g_11, ⟨by omega, by omega, by omega, by omega⟩, g_12, (by omega), B, ⟨hB, by omega, by omega, by omega, by omega, by omega⟩, (wkb f_52 rfl rfl), hH⟩)
      · skip
        have r_24 : 0 ≤ u_19.toInt ∧ u_19.toInt ≤ 13 := by have h9_ := hu_19; omega
        have r_25 : 1 ≤ z_22.toInt ∧ z_22.toInt ≤ 14 := by have h9_ := hz_22; omega
        refine lv_aload_n F.1 F.2.1 dX7_readsAge_35 rfl (lv_at hl 0 rfl) ?_
        refine tGetR (j := 36) F hK hH (tyb ha0 (all1 rfl)) rfl (all1 rfl) clX7 (by decide) wd_7_5 dX7_readsAge_36 (fun q_53 hq_53 _ => ?_)
        refine lv_bipush (v := 78) F.1 F.2.1 dX7_readsAge_39 (by decide) ?_
        refine topK (a := 78) (by decide) (fun k_54 hk_54 => ?_)
        refine lv_bipush (v := 13) F.1 F.2.1 dX7_readsAge_41 (by decide) ?_
        refine topK (a := 13) (by decide) (fun k_55 hk_55 => ?_)
        refine lv_iload_n F.1 F.2.1 dX7_readsAge_43 rfl (lv_at hl 2 rfl) ?_
        refine tMul (lo := 0) (hi := 169) F dX7_readsAge_44 (eqb hk_55) r_24 rfl (fun z_56 hz_56 => ?_)
        have mz_56 : z_56.toInt = 13 * u_19.toInt := by rw [hz_56.1, hk_55]
        refine tAdd (lo := 78) (hi := 247) F dX7_readsAge_45 (eqb hk_54) hz_56.2 rfl (fun z_57 hz_57 => ?_)
        refine lv_iconst (v := 4) F.1 F.2.1 dX7_readsAge_46 (by decide) ?_
        refine topK (a := 4) (by decide) (fun k_58 hk_58 => ?_)
        refine tAdd (lo := 82) (hi := 251) F dX7_readsAge_47 hz_57.2 (eqb hk_58) rfl (fun z_59 hz_59 => ?_)
        refine tIaldX F hK hH (tyb hq_53 (all1 rfl)) (ixb (n := 660) hz_59.2 rfl rfl) dX7_readsAge_48 (fun z_60 ez_60 => ?_)
        refine lv_aload_n F.1 F.2.1 dX7_readsAge_49 rfl (lv_at hl 0 rfl) ?_
        refine tGetI (j := 33) F hK hH (tyb ha0 (all1 rfl)) rfl clX7 (by decide) wd_17_18 dX7_readsAge_50 (fun z_61 hz_61 => ?_)
        have ez_61 : (-2147483648) ≤ z_61.toInt ∧ z_61.toInt ≤ 2147483647 := by omega
        refine b_ne (tgt := 66) F dX7_readsAge_53 (by decide) (fun c_62 => ?_) (fun c_62 => ?_)
        · skip
          obtain ⟨x_63, ex_63, hx_63⟩ := iincB (c := 1) (lo := 1) (hi := 14) r_24 rfl
          refine lv_iinc (v := x_63) (lv' := [(2, .int x_63), (0, .ref a0), (1, .int a1)]) F.1 F.2.1 dX7_readsAge_66 hl (k := 2) rfl ex_63 (by decide) rfl (fun ls hl => ?_)
          refine lv_goto (tgt := 25) F.1 F.2.1 dX7_readsAge_69 (by decide) ?_
          exact ih_25 (x_63) _ _ _ ⟨(show (14 - x_63.toInt + 1).toNat < n_25 from by omega), (wkb hx_63.2 rfl rfl), hH, hS, lv_sub hl [1, 2, 0] rfl⟩
        · skip
          refine lv_aload_n F.1 F.2.1 dX7_readsAge_56 rfl (lv_at hl 0 rfl) ?_
          refine lv_iconst (v := 2) F.1 F.2.1 dX7_readsAge_57 (by decide) ?_
          refine topK (a := 2) (by decide) (fun k_64 hk_64 => ?_)
          refine lv_aload_n F.1 F.2.1 dX7_readsAge_58 rfl (lv_at hl 0 rfl) ?_
          refine tGetI (j := 34) F hK hH (tyb ha0 (all1 rfl)) rfl clX7 (by decide) wd_18_1 dX7_readsAge_59 (fun z_65 hz_65 => ?_)
          refine tVi (b := a0) (As := [.int k_64, .int z_65]) (rest := []) F hK hN hO (c_X7_fails E nw ws kp as (xD 660 B) sc un tk xt (t, t) (g_11, g_11) (g_12, g_12) a0 k_64 z_65 ha0) mv_X7_fails wd_17_2 ⟨Nat.le_of_ble_eq_true rfl, Nat.le_of_ble_eq_true rfl⟩ ⟨Nat.le_of_ble_eq_true rfl, Nat.le_of_ble_eq_true rfl⟩ hH hS (tRecv hK hH (tyb ha0 (all1 rfl)) clX7) rfl hl.1 (Nat.le_of_ble_eq_true rfl) dX7_readsAge_62 (fun z_66 H locs hq hS => ?_)
          obtain ⟨f_67, hH⟩ := hq
          have hH : TH E (tbM (mD (.inl (t, t)) (.inl (g_11, g_11)) (.inl (g_12, g_12)) (.inl un) (.inl tk) (.inl xt)) nw ws kp as (xD 660 B) sc) H := hH
          exact txI F hS dX7_readsAge_65 (nar01 (wkb f_67 rfl rfl)) (⟨g_11, ⟨by omega, by omega, by omega, by omega⟩, g_12, (by omega), B, ⟨hB, by omega, by omega, by omega, by omega, by omega⟩, (wkb f_67 rfl rfl), hH⟩)
    · skip
      have r_17 : 0 ≤ z_10.toInt ∧ z_10.toInt ≤ 0 := by have h9_ := f_13; omega
      refine lv_iconst (v := 0) F.1 F.2.1 dX7_readsAge_21 (by decide) ?_
      refine topK (a := 0) (by decide) (fun k_68 hk_68 => ?_)
      exact txI F hS dX7_readsAge_22 (nar01 (wkb (eqb hk_68) rfl rfl)) (⟨g_11, ⟨by omega, by omega, by omega, by omega⟩, g_12, (by omega), B, ⟨hB, by omega, by omega, by omega, by omega, by omega⟩, (wkb (eqb hk_68) rfl rfl), hH⟩)
set_option maxHeartbeats 4000000 in
set_option maxRecDepth 100000 in
theorem c_X7_readsBack (E : Ev) (nw : TD) (ws : TD) (kp : TD) (as : TD) (sc : TD) (un : Int × Int) (tk : Int × Int) (xt : Int × Int) (t : Int) (p : Int) (nu : Int) (B : Nat → Int32) (b : Int) (a0 : Nat) (a1 : Int32) (ha0 : eT E a0 ∈ [24]) (ha1 : 78 ≤ a1.toInt ∧ a1.toInt ≤ 247) (ht : 0 ≤ t ∧ t ≤ 400) (hp : 0 ≤ p ∧ p ≤ 4000) (hnu : (-2147483648) ≤ nu ∧ nu ≤ 2147483647) (hB : okR B) (hb : p ≤ b ∧ 400 ≤ b ∧ b ≤ 3900) (hat : (a1.toInt - 78) % 13 = 0) : TcI E yX7_readsBack cX7_readsBack 2 .boolean ({ frames := 7, cells := 0, slots := 0, locals := 226 }) [.ref a0, .int a1] (fun H => TH E (tbM (mD (.inl (t, t)) (.inl (p, p)) (.inl (nu, nu)) (.inl un) (.inl tk) (.inl xt)) nw ws kp as (xD 660 B) sc) H) (fun v H => ∃ p2 : Int, (0 ≤ p2 ∧ p2 ≤ 5000 ∧ p ≤ p2 ∧ p2 ≤ b + 6) ∧ ∃ nu2 : Int, ((-2147483648) ≤ nu2 ∧ nu2 ≤ 2147483647) ∧ ∃ B2 : Nat → Int32, (okR B2 ∧ gI B2 0 = gI B 0 ∧ gI B2 1 = gI B 1 ∧ gI B2 2 = gI B 2 ∧ gI B2 6 = gI B 6 ∧ gI B2 3 = gI B 3) ∧ (0 ≤ v.toInt ∧ v.toInt ≤ 1) ∧ TH E (tbM (mD (.inl (t, t)) (.inl (p2, p2)) (.inl (nu2, nu2)) (.inl un) (.inl tk) (.inl xt)) nw ws kp as (xD 660 B2) sc) H) := by
  refine teI (by decide) (Nat.le_of_ble_eq_true rfl) ?_
  intro p_ ev_ s mi_ below_ meth cd_ ls F hK hN hO hH hS hl
  have hH : TH E (tbM (mD (.inl (t, t)) (.inl (p, p)) (.inl (nu, nu)) (.inl un) (.inl tk) (.inl xt)) nw ws kp as (xD 660 B) sc) s.heap := hH
  have hl : lv_has ls 2 [(0, .ref a0), (1, .int a1)] := hl
  have hBB := okB hB.1
  have hLB := hB.2
  refine lv_aload_n F.1 F.2.1 dX7_readsBack_0 rfl (lv_at hl 0 rfl) ?_
  refine tGetR (j := 36) F hK hH (tyb ha0 (all1 rfl)) rfl (all1 rfl) clX7 (by decide) wd_7_5 dX7_readsBack_1 (fun q_1 hq_1 _ => ?_)
  refine lv_iload_n F.1 F.2.1 dX7_readsBack_4 rfl (lv_at hl 1 rfl) ?_
  refine lv_bipush (v := 7) F.1 F.2.1 dX7_readsBack_5 (by decide) ?_
  refine topK (a := 7) (by decide) (fun k_2 hk_2 => ?_)
  refine tAdd (lo := 85) (hi := 254) F dX7_readsBack_7 ha1 (eqb hk_2) rfl (fun z_3 hz_3 => ?_)
  refine lv_bipush (v := (-2)) F.1 F.2.1 dX7_readsBack_8 (by decide) ?_
  refine topK (a := (-2)) (by decide) (fun k_4 hk_4 => ?_)
  refine tIastX (t := 29) F hK hH hS (List.mem_singleton.mp hq_1) (by decide) rfl (ixb (n := 660) hz_3.2 rfl rfl) dX7_readsBack_10 (fun G_5 eG_5 H locs hH hS => ?_)
  have hH : TH E (tbM (mD (.inl (t, t)) (.inl (p, p)) (.inl (nu, nu)) (.inl un) (.inl tk) (.inl xt)) nw ws kp as (xD 660 G_5) sc) H := hH
  have n0G_5 : gI G_5 0 = gI B 0 := gI_ne eG_5 (by omega) (by omega)
  have n1G_5 : gI G_5 1 = gI B 1 := gI_ne eG_5 (by omega) (by omega)
  have n2G_5 : gI G_5 2 = gI B 2 := gI_ne eG_5 (by omega) (by omega)
  have n6G_5 : gI G_5 6 = gI B 6 := gI_ne eG_5 (by omega) (by omega)
  have n3G_5 : gI G_5 3 = gI B 3 := gI_ne eG_5 (by omega) (by omega)
  have hG_5 : okR G_5 := (okR.stM hB eG_5 (by omega) (by omega) (by omega) (phiI (by omega) (by omega) (by omega) (by omega) (by omega) (by omega) (by omega) (by omega) (by omega) (by omega) (by omega) (by omega) (by omega) (by omega) (by omega) (by omega) (by omega) (by omega)) (by omega))
  have hBG_5 := okB hG_5.1
  have hLG_5 := hG_5.2
  refine lv_aload_n F.1 F.2.1 dX7_readsBack_11 rfl (lv_at hl 0 rfl) ?_
  refine ldcwS F.1 F.2.1 F.2.2.2.2.1 (hO.1 24 _ rfl).1 dX7_readsBack_12 ?_
  refine tVi (b := a0) (As := [.ref (eX E 24)]) (rest := []) F hK hN hO (c_X7_takesWord E nw ws kp as (xD 660 G_5) sc un tk xt (nu, nu) t p b a0 24 4 ha0 (strAt 24 rfl) (by omega) (by omega) (by omega)) mv_X7_takesWord wd_17_6 ⟨Nat.le_of_ble_eq_true rfl, Nat.le_of_ble_eq_true rfl⟩ ⟨Nat.le_of_ble_eq_true rfl, Nat.le_of_ble_eq_true rfl⟩ hH hS (tRecv hK hH (tyb ha0 (all1 rfl)) clX7) rfl hl.1 (Nat.le_of_ble_eq_true rfl) dX7_readsBack_15 (fun z_6 H locs hq hS => ?_)
  obtain ⟨g_7, hg_7, f_8, hH⟩ := hq
  have hH : TH E (tbM (mD (.inl (t, t)) (.inl (g_7, g_7)) (.inl (nu, nu)) (.inl un) (.inl tk) (.inl xt)) nw ws kp as (xD 660 G_5) sc) H := hH
  refine z_ne (tgt := 23) F dX7_readsBack_18 (by decide) (fun c_9 => ?_) (fun c_9 => ?_)
  · skip
    have r_10 : 1 ≤ z_6.toInt ∧ z_6.toInt ≤ 1 := by have h9_ := f_8; omega
    refine lv_aload_n F.1 F.2.1 dX7_readsBack_23 rfl (lv_at hl 0 rfl) ?_
    refine lv_iload_n F.1 F.2.1 dX7_readsBack_24 rfl (lv_at hl 1 rfl) ?_
    refine lv_bipush (v := 7) F.1 F.2.1 dX7_readsBack_25 (by decide) ?_
    refine topK (a := 7) (by decide) (fun k_12 hk_12 => ?_)
    refine tAdd (lo := 85) (hi := 254) F dX7_readsBack_27 ha1 (eqb hk_12) rfl (fun z_13 hz_13 => ?_)
    refine tVi (b := a0) (As := [.int z_13]) (rest := []) F hK hN hO (c_X7_readsReachOf E nw ws kp as sc un tk xt t g_7 nu G_5 (b + 6) a0 z_13 ha0 (by omega) (by omega) (by omega) hG_5 (by omega) (by omega) (by intro y_ h1_ h2_; exact (phiI (by omega) (by omega) (by omega) (by omega) (by omega) (by omega) (by omega) (by omega) (by omega) (by omega) (by omega) (by omega) (by omega) (by omega) (by omega) (by omega) (by omega) (by omega))) (by omega)) mv_X7_readsReachOf wd_17_10 ⟨Nat.le_of_ble_eq_true rfl, Nat.le_of_ble_eq_true rfl⟩ ⟨Nat.le_of_ble_eq_true rfl, Nat.le_of_ble_eq_true rfl⟩ hH hS (tRecv hK hH (tyb ha0 (all1 rfl)) clX7) rfl hl.1 (Nat.le_of_ble_eq_true rfl) dX7_readsBack_28 (fun z_14 H locs hq hS => ?_)
    obtain ⟨g_15, hg_15, g_16, hg_16, g_17, hg_17, f_18, f_19, hH⟩ := hq
    have hH : TH E (tbM (mD (.inl (t, t)) (.inl (g_15, g_15)) (.inl (g_16, g_16)) (.inl un) (.inl tk) (.inl xt)) nw ws kp as (xD 660 g_17) sc) H := hH
    have hBg_17 := okB hg_17.1.1
    have hLg_17 := hg_17.1.2
    refine z_eq (tgt := 66) F dX7_readsBack_31 (by decide) (fun c_20 => ?_) (fun c_20 => ?_)
    · skip
      have r_21 : 0 ≤ z_14.toInt ∧ z_14.toInt ≤ 0 := by have h9_ := f_18; omega
      refine lv_iconst (v := 0) F.1 F.2.1 dX7_readsBack_66 (by decide) ?_
      refine topK (a := 0) (by decide) (fun k_23 hk_23 => ?_)
      exact txI F hS dX7_readsBack_67 (nar01 (wkb (eqb hk_23) rfl rfl)) (⟨g_15, ⟨by omega, by omega, by omega, by omega⟩, g_16, (by omega), g_17, ⟨hg_17.1, by omega, by omega, by omega, by omega, by omega⟩, (wkb (eqb hk_23) rfl rfl), hH⟩)
    · skip
      have r_22 : 1 ≤ z_14.toInt ∧ z_14.toInt ≤ 1 := by have h9_ := f_18; omega
      refine lv_aload_n F.1 F.2.1 dX7_readsBack_34 rfl (lv_at hl 0 rfl) ?_
      refine lv_iload_n F.1 F.2.1 dX7_readsBack_35 rfl (lv_at hl 1 rfl) ?_
      refine lv_bipush (v := 8) F.1 F.2.1 dX7_readsBack_36 (by decide) ?_
      refine topK (a := 8) (by decide) (fun k_24 hk_24 => ?_)
      refine tAdd (lo := 86) (hi := 255) F dX7_readsBack_38 ha1 (eqb hk_24) rfl (fun z_25 hz_25 => ?_)
      refine lv_iconst (v := 0) F.1 F.2.1 dX7_readsBack_39 (by decide) ?_
      refine topK (a := 0) (by decide) (fun k_26 hk_26 => ?_)
      refine lv_bipush (v := 100) F.1 F.2.1 dX7_readsBack_40 (by decide) ?_
      refine topK (a := 100) (by decide) (fun k_27 hk_27 => ?_)
      refine tVi (b := a0) (As := [.int z_25, .int k_26, .int k_27]) (rest := []) F hK hN hO (c_X7_readsTo E nw ws kp as sc un tk xt t g_15 g_16 g_17 (b + 6) a0 z_25 k_26 k_27 ha0 (by omega) (by omega) (by omega) hg_17.1 (by omega) (by omega) (by intro y_ h1_ h2_; exact (phiI (by omega) (by omega) (by omega) (by omega) (by omega) (by omega) (by omega) (by omega) (by omega) (by omega) (by omega) (by omega) (by omega) (by omega) (by omega) (by omega) (by omega) (by omega))) (by omega)) mv_X7_readsTo wd_17_14 ⟨Nat.le_of_ble_eq_true rfl, Nat.le_of_ble_eq_true rfl⟩ ⟨Nat.le_of_ble_eq_true rfl, Nat.le_of_ble_eq_true rfl⟩ hH hS (tRecv hK hH (tyb ha0 (all1 rfl)) clX7) rfl hl.1 (Nat.le_of_ble_eq_true rfl) dX7_readsBack_42 (fun z_28 H locs hq hS => ?_)
      obtain ⟨g_29, hg_29, g_30, hg_30, g_31, hg_31, f_32, hH⟩ := hq
      have hH : TH E (tbM (mD (.inl (t, t)) (.inl (g_29, g_29)) (.inl (g_30, g_30)) (.inl un) (.inl tk) (.inl xt)) nw ws kp as (xD 660 g_31) sc) H := hH
      have hBg_31 := okB hg_31.1.1
      have hLg_31 := hg_31.1.2
      refine z_eq (tgt := 66) F dX7_readsBack_45 (by decide) (fun c_33 => ?_) (fun c_33 => ?_)
      · skip
        have r_34 : 0 ≤ z_28.toInt ∧ z_28.toInt ≤ 0 := by have h9_ := f_32; omega
        refine lv_iconst (v := 0) F.1 F.2.1 dX7_readsBack_66 (by decide) ?_
        refine topK (a := 0) (by decide) (fun k_36 hk_36 => ?_)
        exact txI F hS dX7_readsBack_67 (nar01 (wkb (eqb hk_36) rfl rfl)) (⟨g_29, ⟨by omega, by omega, by omega, by omega⟩, g_30, (by omega), g_31, ⟨hg_31.1, by omega, by omega, by omega, by omega, by omega⟩, (wkb (eqb hk_36) rfl rfl), hH⟩)
      · skip
        have r_35 : 1 ≤ z_28.toInt ∧ z_28.toInt ≤ 1 := by have h9_ := f_32; omega
        refine lv_aload_n F.1 F.2.1 dX7_readsBack_48 rfl (lv_at hl 0 rfl) ?_
        refine lv_iload_n F.1 F.2.1 dX7_readsBack_49 rfl (lv_at hl 1 rfl) ?_
        refine lv_bipush (v := 9) F.1 F.2.1 dX7_readsBack_50 (by decide) ?_
        refine topK (a := 9) (by decide) (fun k_37 hk_37 => ?_)
        refine tAdd (lo := 87) (hi := 256) F dX7_readsBack_52 ha1 (eqb hk_37) rfl (fun z_38 hz_38 => ?_)
        refine lv_iconst (v := 1) F.1 F.2.1 dX7_readsBack_53 (by decide) ?_
        refine topK (a := 1) (by decide) (fun k_39 hk_39 => ?_)
        refine lv_bipush (v := 30) F.1 F.2.1 dX7_readsBack_54 (by decide) ?_
        refine topK (a := 30) (by decide) (fun k_40 hk_40 => ?_)
        refine tVi (b := a0) (As := [.int z_38, .int k_39, .int k_40]) (rest := []) F hK hN hO (c_X7_readsTo E nw ws kp as sc un tk xt t g_29 g_30 g_31 (b + 6) a0 z_38 k_39 k_40 ha0 (by omega) (by omega) (by omega) hg_31.1 (by omega) (by omega) (by intro y_ h1_ h2_; exact (phiI (by omega) (by omega) (by omega) (by omega) (by omega) (by omega) (by omega) (by omega) (by omega) (by omega) (by omega) (by omega) (by omega) (by omega) (by omega) (by omega) (by omega) (by omega))) (by omega)) mv_X7_readsTo wd_17_14 ⟨Nat.le_of_ble_eq_true rfl, Nat.le_of_ble_eq_true rfl⟩ ⟨Nat.le_of_ble_eq_true rfl, Nat.le_of_ble_eq_true rfl⟩ hH hS (tRecv hK hH (tyb ha0 (all1 rfl)) clX7) rfl hl.1 (Nat.le_of_ble_eq_true rfl) dX7_readsBack_56 (fun z_41 H locs hq hS => ?_)
        obtain ⟨g_42, hg_42, g_43, hg_43, g_44, hg_44, f_45, hH⟩ := hq
        have hH : TH E (tbM (mD (.inl (t, t)) (.inl (g_42, g_42)) (.inl (g_43, g_43)) (.inl un) (.inl tk) (.inl xt)) nw ws kp as (xD 660 g_44) sc) H := hH
        have hBg_44 := okB hg_44.1.1
        have hLg_44 := hg_44.1.2
        refine z_eq (tgt := 66) F dX7_readsBack_59 (by decide) (fun c_46 => ?_) (fun c_46 => ?_)
        · skip
          have r_47 : 0 ≤ z_41.toInt ∧ z_41.toInt ≤ 0 := by have h9_ := f_45; omega
          refine lv_iconst (v := 0) F.1 F.2.1 dX7_readsBack_66 (by decide) ?_
          refine topK (a := 0) (by decide) (fun k_49 hk_49 => ?_)
          exact txI F hS dX7_readsBack_67 (nar01 (wkb (eqb hk_49) rfl rfl)) (⟨g_42, ⟨by omega, by omega, by omega, by omega⟩, g_43, (by omega), g_44, ⟨hg_44.1, by omega, by omega, by omega, by omega, by omega⟩, (wkb (eqb hk_49) rfl rfl), hH⟩)
        · skip
          have r_48 : 1 ≤ z_41.toInt ∧ z_41.toInt ≤ 1 := by have h9_ := f_45; omega
          refine lv_iconst (v := 1) F.1 F.2.1 dX7_readsBack_62 (by decide) ?_
          refine topK (a := 1) (by decide) (fun k_50 hk_50 => ?_)
          refine lv_goto (tgt := 67) F.1 F.2.1 dX7_readsBack_63 (by decide) ?_
          exact txI F hS dX7_readsBack_67 (nar01 (wkb (eqb hk_50) rfl rfl)) (⟨g_42, ⟨by omega, by omega, by omega, by omega⟩, g_43, (by omega), g_44, ⟨hg_44.1, by omega, by omega, by omega, by omega, by omega⟩, (wkb (eqb hk_50) rfl rfl), hH⟩)
  · skip
    have r_11 : 0 ≤ z_6.toInt ∧ z_6.toInt ≤ 0 := by have h9_ := f_8; omega
    refine lv_iconst (v := 1) F.1 F.2.1 dX7_readsBack_21 (by decide) ?_
    refine topK (a := 1) (by decide) (fun k_51 hk_51 => ?_)
    exact txI F hS dX7_readsBack_22 (nar01 (wkb (eqb hk_51) rfl rfl)) (⟨g_7, ⟨by omega, by omega, by omega, by omega⟩, nu, (by omega), G_5, ⟨hG_5, by omega, by omega, by omega, by omega, by omega⟩, (wkb (eqb hk_51) rfl rfl), hH⟩)
set_option maxHeartbeats 4000000 in
set_option maxRecDepth 100000 in
theorem c_X7_readsReach (E : Ev) (nw : TD) (ws : TD) (kp : TD) (as : TD) (sc : TD) (un : Int × Int) (tk : Int × Int) (xt : Int × Int) (t : Int) (p : Int) (nu : Int) (B : Nat → Int32) (b : Int) (a0 : Nat) (ha0 : eT E a0 ∈ [24]) (ht : 0 ≤ t ∧ t ≤ 400) (hp : 0 ≤ p ∧ p ≤ 4000) (hnu : (-2147483648) ≤ nu ∧ nu ≤ 2147483647) (hB : okR B) (hb : p ≤ b ∧ 400 ≤ b ∧ b ≤ 3000) : TcI E yX7_readsReach cX7_readsReach 3 .boolean ({ frames := 7, cells := 0, slots := 0, locals := 226 }) [.ref a0] (fun H => TH E (tbM (mD (.inl (t, t)) (.inl (p, p)) (.inl (nu, nu)) (.inl un) (.inl tk) (.inl xt)) nw ws kp as (xD 660 B) sc) H) (fun v H => ∃ p2 : Int, (0 ≤ p2 ∧ p2 ≤ 5000 ∧ p ≤ p2 ∧ p2 ≤ b + 18) ∧ ∃ nu2 : Int, ((-2147483648) ≤ nu2 ∧ nu2 ≤ 2147483647) ∧ ∃ B2 : Nat → Int32, (okR B2) ∧ (0 ≤ v.toInt ∧ v.toInt ≤ 1) ∧ TH E (tbM (mD (.inl (t, t)) (.inl (p2, p2)) (.inl (nu2, nu2)) (.inl un) (.inl tk) (.inl xt)) nw ws kp as (xD 660 B2) sc) H) := by
  refine teI (by decide) (Nat.le_of_ble_eq_true rfl) ?_
  intro p_ ev_ s mi_ below_ meth cd_ ls F hK hN hO hH hS hl
  have hH : TH E (tbM (mD (.inl (t, t)) (.inl (p, p)) (.inl (nu, nu)) (.inl un) (.inl tk) (.inl xt)) nw ws kp as (xD 660 B) sc) s.heap := hH
  have hl : lv_has ls 3 [(0, .ref a0)] := hl
  have hBB := okB hB.1
  have hLB := hB.2
  refine lv_aload_n F.1 F.2.1 dX7_readsReach_0 rfl (lv_at hl 0 rfl) ?_
  refine ldcwS F.1 F.2.1 F.2.2.2.2.1 (hO.1 18 _ rfl).1 dX7_readsReach_1 ?_
  refine lv_iconst (v := 0) F.1 F.2.1 dX7_readsReach_4 (by decide) ?_
  refine topK (a := 0) (by decide) (fun k_1 hk_1 => ?_)
  refine lv_bipush (v := 12) F.1 F.2.1 dX7_readsReach_5 (by decide) ?_
  refine topK (a := 12) (by decide) (fun k_2 hk_2 => ?_)
  refine tVi (b := a0) (As := [.ref (eX E 18), .int k_1, .int k_2]) (rest := []) F hK hN hO (c_X7_begins_0 E nw ws kp as sc un tk xt (nu, nu) t p B b a0 18 5 k_1 k_2 ha0 (strAt 18 rfl) (eqb hk_1) (eqb hk_2) (by omega) (by omega) hB (by omega)) mv_X7_begins wd_16_22 ⟨Nat.le_of_ble_eq_true rfl, Nat.le_of_ble_eq_true rfl⟩ ⟨Nat.le_of_ble_eq_true rfl, Nat.le_of_ble_eq_true rfl⟩ hH hS (tRecv hK hH (tyb ha0 (all1 rfl)) clX7) rfl hl.1 (Nat.le_of_ble_eq_true rfl) dX7_readsReach_7 (fun z_3 H locs hq hS => ?_)
  obtain ⟨g_4, hg_4, f_5, f_6, hH⟩ := hq
  have hH : TH E (tbM (mD (.inl (t, t)) (.inl (g_4, g_4)) (.inl (nu, nu)) (.inl un) (.inl tk) (.inl xt)) nw ws kp as (xD 660 B) sc) H := hH
  refine z_ne (tgt := 15) F dX7_readsReach_10 (by decide) (fun c_7 => ?_) (fun c_7 => ?_)
  · skip
    have r_8 : 1 ≤ z_3.toInt ∧ z_3.toInt ≤ 1 := by have h9_ := f_5; omega
    refine lv_bipush (v := 6) F.1 F.2.1 dX7_readsReach_15 (by decide) ?_
    refine topK (a := 6) (by decide) (fun k_10 hk_10 => ?_)
    refine lv_bipush (v := 6) F.1 F.2.1 dX7_readsReach_17 (by decide) ?_
    refine topK (a := 6) (by decide) (fun k_11 hk_11 => ?_)
    refine lv_aload_n F.1 F.2.1 dX7_readsReach_19 rfl (lv_at hl 0 rfl) ?_
    refine tGetR (j := 36) F hK hH (tyb ha0 (all1 rfl)) rfl (all1 rfl) clX7 (by decide) wd_7_5 dX7_readsReach_20 (fun q_12 hq_12 _ => ?_)
    refine lv_iconst (v := 0) F.1 F.2.1 dX7_readsReach_23 (by decide) ?_
    refine topK (a := 0) (by decide) (fun k_13 hk_13 => ?_)
    refine tIaldX F hK hH (tyb hq_12 (all1 rfl)) (ixb (n := 660) (eqb hk_13) rfl rfl) dX7_readsReach_24 (fun z_14 ez_14 => ?_)
    have gz_14 : z_14.toInt = gI B (0) := by unfold gI; rw [ez_14, show (k_13).toNatClampNeg = (0) from by show (k_13).toInt.toNat = _; omega]
    have hz_14 : 0 ≤ z_14.toInt ∧ z_14.toInt ≤ 12 := (by have h9_ := okA.at (i := k_13) hB.1 (by omega); rw [show gI B (k_13).toNatClampNeg = z_14.toInt from by unfold gI; rw [ez_14]] at h9_; have h8_ := phi_0 h9_ (by omega); omega)
    refine tMul (lo := 0) (hi := 72) F dX7_readsReach_25 (eqb hk_11) hz_14 rfl (fun z_15 hz_15 => ?_)
    have mz_15 : z_15.toInt = 6 * z_14.toInt := by rw [hz_15.1, hk_11]
    refine tAdd (lo := 6) (hi := 78) F dX7_readsReach_26 (eqb hk_10) hz_15.2 rfl (fun z_16 hz_16 => ?_)
    refine lv_istore_n (lv' := [(1, .int z_16), (0, .ref a0)]) F.1 F.2.1 dX7_readsReach_27 rfl hl (by decide) rfl (fun ls hl => ?_)
    refine lv_aload_n F.1 F.2.1 dX7_readsReach_28 rfl (lv_at hl 1 rfl) ?_
    refine tGetR (j := 36) F hK hH (tyb ha0 (all1 rfl)) rfl (all1 rfl) clX7 (by decide) wd_7_5 dX7_readsReach_29 (fun q_17 hq_17 _ => ?_)
    refine lv_iload_n F.1 F.2.1 dX7_readsReach_32 rfl (lv_at hl 0 rfl) ?_
    refine lv_iconst (v := 0) F.1 F.2.1 dX7_readsReach_33 (by decide) ?_
    refine topK (a := 0) (by decide) (fun k_18 hk_18 => ?_)
    refine tAdd (lo := 6) (hi := 78) F dX7_readsReach_34 hz_16.2 (eqb hk_18) rfl (fun z_19 hz_19 => ?_)
    refine lv_iconst (v := (-1)) F.1 F.2.1 dX7_readsReach_35 (by decide) ?_
    refine topK (a := (-1)) (by decide) (fun k_20 hk_20 => ?_)
    refine tIastX (t := 29) F hK hH hS (List.mem_singleton.mp hq_17) (by decide) rfl (ixb (n := 660) hz_19.2 rfl rfl) dX7_readsReach_36 (fun G_21 eG_21 H locs hH hS => ?_)
    have hH : TH E (tbM (mD (.inl (t, t)) (.inl (g_4, g_4)) (.inl (nu, nu)) (.inl un) (.inl tk) (.inl xt)) nw ws kp as (xD 660 G_21) sc) H := hH
    have n0G_21 : gI G_21 0 = gI B 0 := gI_ne eG_21 (by omega) (by omega)
    have n1G_21 : gI G_21 1 = gI B 1 := gI_ne eG_21 (by omega) (by omega)
    have n2G_21 : gI G_21 2 = gI B 2 := gI_ne eG_21 (by omega) (by omega)
    have n3G_21 : gI G_21 3 = gI B 3 := gI_ne eG_21 (by omega) (by omega)
    have n6G_21 : gI G_21 6 = -1 := dn6 hB eG_21 (by omega) (by omega)
    have hG_21 : okR G_21 := (okR.stM hB eG_21 (by omega) (by omega) (by omega) (phiI (by omega) (by omega) (by omega) (by omega) (by omega) (by omega) (by omega) (by omega) (by omega) (by omega) (by omega) (by omega) (by omega) (by omega) (by omega) (by omega) (by omega) (by omega)) (by omega))
    have hBG_21 := okB hG_21.1
    have hLG_21 := hG_21.2
    refine lv_aload_n F.1 F.2.1 dX7_readsReach_37 rfl (lv_at hl 1 rfl) ?_
    refine ldcwS F.1 F.2.1 F.2.2.2.2.1 (hO.1 19 _ rfl).1 dX7_readsReach_38 ?_
    refine tVi (b := a0) (As := [.ref (eX E 19)]) (rest := []) F hK hN hO (c_X7_takesWord E nw ws kp as (xD 660 G_21) sc un tk xt (nu, nu) t g_4 (b + 6) a0 19 5 ha0 (strAt 19 rfl) (by omega) (by omega) (by omega)) mv_X7_takesWord wd_17_6 ⟨Nat.le_of_ble_eq_true rfl, Nat.le_of_ble_eq_true rfl⟩ ⟨Nat.le_of_ble_eq_true rfl, Nat.le_of_ble_eq_true rfl⟩ hH hS (tRecv hK hH (tyb ha0 (all1 rfl)) clX7) rfl hl.1 (Nat.le_of_ble_eq_true rfl) dX7_readsReach_41 (fun z_22 H locs hq hS => ?_)
    obtain ⟨g_23, hg_23, f_24, hH⟩ := hq
    have hH : TH E (tbM (mD (.inl (t, t)) (.inl (g_23, g_23)) (.inl (nu, nu)) (.inl un) (.inl tk) (.inl xt)) nw ws kp as (xD 660 G_21) sc) H := hH
    refine z_ne (tgt := 59) F dX7_readsReach_44 (by decide) (fun c_25 => ?_) (fun c_25 => ?_)
    · skip
      have r_26 : 1 ≤ z_22.toInt ∧ z_22.toInt ≤ 1 := by have h9_ := f_24; omega
      refine lv_iconst (v := 0) F.1 F.2.1 dX7_readsReach_59 (by decide) ?_
      refine topK (a := 0) (by decide) (fun k_28 hk_28 => ?_)
      refine lv_istore_n (lv' := [(2, .int k_28), (1, .int z_16), (0, .ref a0)]) F.1 F.2.1 dX7_readsReach_60 rfl hl (by decide) rfl (fun ls hl => ?_)
      refine wloop (σ := Int32 × Int × Int × (Nat → Int32)) (fun n9 x9 H locs ls => (4 - x9.1.toInt + 1).toNat < n9 ∧ (0 ≤ x9.1.toInt ∧ x9.1.toInt ≤ 4) ∧ (0 ≤ x9.2.1 ∧ x9.2.1 ≤ 5000) ∧ ((-2147483648) ≤ x9.2.2.1 ∧ x9.2.2.1 ≤ 2147483647) ∧ (okR x9.2.2.2) ∧ (gI x9.2.2.2 0 = gI B 0) ∧ (gI x9.2.2.2 6 = -1) ∧ (x9.2.1 ≤ b + 12) ∧ (p ≤ x9.2.1) ∧ TH E (tbM (mD (.inl (t, t)) (.inl (x9.2.1, x9.2.1)) (.inl (x9.2.2.1, x9.2.2.1)) (.inl un) (.inl tk) (.inl xt)) nw ws kp as (xD 660 x9.2.2.2) sc) H ∧ va_S (eA E s.heap.size) s.heap H locs ∧ lv_has ls 3 [(0, .ref a0), (1, .int z_16), (2, .int x9.1)]) ?_ (fun x9 H locs ls h => absurd h.1 (Nat.not_lt_zero _)) _ (k_28, g_23, nu, G_21) ⟨Nat.lt_succ_self _, (wkb (eqb hk_28) rfl rfl), (show 0 ≤ g_23 ∧ g_23 ≤ 5000 from by omega), (show (-2147483648) ≤ nu ∧ nu ≤ 2147483647 from by omega), hG_21, (show gI G_21 0 = gI B 0 from by omega), (show gI G_21 6 = -1 from by omega), (show g_23 ≤ b + 12 from by omega), (show p ≤ g_23 from by omega), hH, hS, lv_sub hl [2, 1, 0] rfl⟩
      intro n_61 ih_61 ⟨u_29, g_30, g_31, G_32⟩ H locs ls ⟨hm_61, hu_29, hg_30, hg_31, hG_32, hcr61_0, hcr61_1, hcr61_2, hcr61_3, hH, hS, hl⟩
      have hm_61 : (4 - u_29.toInt + 1).toNat < n_61 + 1 := hm_61
      have hu_29 : (0 ≤ u_29.toInt ∧ u_29.toInt ≤ 4) := hu_29
      have hg_30 : (0 ≤ g_30 ∧ g_30 ≤ 5000) := hg_30
      have hg_31 : ((-2147483648) ≤ g_31 ∧ g_31 ≤ 2147483647) := hg_31
      have hG_32 : (okR G_32) := hG_32
      have hcr61_0 : (gI G_32 0 = gI B 0) := hcr61_0
      have hcr61_1 : (gI G_32 6 = -1) := hcr61_1
      have hcr61_2 : (g_30 ≤ b + 12) := hcr61_2
      have hcr61_3 : (p ≤ g_30) := hcr61_3
      have hH : TH E (tbM (mD (.inl (t, t)) (.inl (g_30, g_30)) (.inl (g_31, g_31)) (.inl un) (.inl tk) (.inl xt)) nw ws kp as (xD 660 G_32) sc) H := hH
      have hl : lv_has ls 3 [(0, .ref a0), (1, .int z_16), (2, .int u_29)] := hl
      have hBG_32 := okB hG_32.1
      have hLG_32 := hG_32.2
      refine lv_iload_n F.1 F.2.1 dX7_readsReach_61 rfl (lv_at hl 2 rfl) ?_
      refine lv_iconst (v := 4) F.1 F.2.1 dX7_readsReach_62 (by decide) ?_
      refine topK (a := 4) (by decide) (fun k_33 hk_33 => ?_)
      refine b_ge (tgt := 90) F dX7_readsReach_63 (by decide) (fun c_34 => ?_) (fun c_34 => ?_)
      · skip
        have r_35 : 4 ≤ u_29.toInt ∧ u_29.toInt ≤ 4 := by have h9_ := hu_29; omega
        refine lv_aload_n F.1 F.2.1 dX7_readsReach_90 rfl (lv_at hl 0 rfl) ?_
        refine ldcwS F.1 F.2.1 F.2.2.2.2.1 (hO.1 20 _ rfl).1 dX7_readsReach_91 ?_
        refine tVi (b := a0) (As := [.ref (eX E 20)]) (rest := []) F hK hN hO (c_X7_takesWord E nw ws kp as (xD 660 G_32) sc un tk xt (g_31, g_31) t g_30 (b + 12) a0 20 4 ha0 (strAt 20 rfl) (by omega) (by omega) (by omega)) mv_X7_takesWord wd_17_6 ⟨Nat.le_of_ble_eq_true rfl, Nat.le_of_ble_eq_true rfl⟩ ⟨Nat.le_of_ble_eq_true rfl, Nat.le_of_ble_eq_true rfl⟩ hH hS (tRecv hK hH (tyb ha0 (all1 rfl)) clX7) rfl hl.1 (Nat.le_of_ble_eq_true rfl) dX7_readsReach_94 (fun z_37 H locs hq hS => ?_)
        obtain ⟨g_38, hg_38, f_39, hH⟩ := hq
        have hH : TH E (tbM (mD (.inl (t, t)) (.inl (g_38, g_38)) (.inl (g_31, g_31)) (.inl un) (.inl tk) (.inl xt)) nw ws kp as (xD 660 G_32) sc) H := hH
        refine wjoin (σ := Int × Int × (Nat → Int32)) (pcj := 116) (stj := fun x9 => []) (fun x9 H locs ls => (0 ≤ x9.1 ∧ x9.1 ≤ 5000) ∧ ((-2147483648) ≤ x9.2.1 ∧ x9.2.1 ≤ 2147483647) ∧ (okR x9.2.2) ∧ TH E (tbM (mD (.inl (t, t)) (.inl (x9.1, x9.1)) (.inl (x9.2.1, x9.2.1)) (.inl un) (.inl tk) (.inl xt)) nw ws kp as (xD 660 x9.2.2) sc) H ∧ va_S (eA E s.heap.size) s.heap H locs ∧ lv_has ls 3 [(0, .ref a0)]) (fun x9 H locs ls h_ => ?_) (fun J_116 => ?_)
        · skip
          obtain ⟨g_40, g_41, G_42⟩ := x9
          obtain ⟨hg_40, hg_41, hG_42, hH, hS, hl⟩ := h_
          have hg_40 : (0 ≤ g_40 ∧ g_40 ≤ 5000) := hg_40
          have hg_41 : ((-2147483648) ≤ g_41 ∧ g_41 ≤ 2147483647) := hg_41
          have hG_42 : (okR G_42) := hG_42
          have hH : TH E (tbM (mD (.inl (t, t)) (.inl (g_40, g_40)) (.inl (g_41, g_41)) (.inl un) (.inl tk) (.inl xt)) nw ws kp as (xD 660 G_42) sc) H := hH
          have hl : lv_has ls 3 [(0, .ref a0)] := hl
          show W _ _ _ _ _ _ _ _ _ _ _ _ _ _ _ (F0 _ _ _ [])
          have hBG_42 := okB hG_42.1
          have hLG_42 := hG_42.2
          refine lv_aload_n F.1 F.2.1 dX7_readsReach_116 rfl (lv_at hl 0 rfl) ?_
          refine tGetR (j := 36) F hK hH (tyb ha0 (all1 rfl)) rfl (all1 rfl) clX7 (by decide) wd_7_5 dX7_readsReach_117 (fun q_43 hq_43 _ => ?_)
          refine lv_iconst (v := 0) F.1 F.2.1 dX7_readsReach_120 (by decide) ?_
          refine topK (a := 0) (by decide) (fun k_44 hk_44 => ?_)
          refine lv_dup2_11 F.1 F.2.1 dX7_readsReach_121 rfl rfl ?_
          refine tIaldX F hK hH (tyb hq_43 (all1 rfl)) (ixb (n := 660) (eqb hk_44) rfl rfl) dX7_readsReach_122 (fun z_45 ez_45 => ?_)
          have gz_45 : z_45.toInt = gI G_42 (0) := by unfold gI; rw [ez_45, show (k_44).toNatClampNeg = (0) from by show (k_44).toInt.toNat = _; omega]
          have hz_45 : 0 ≤ z_45.toInt ∧ z_45.toInt ≤ 12 := (by have h9_ := okA.at (i := k_44) hG_42.1 (by omega); rw [show gI G_42 (k_44).toNatClampNeg = z_45.toInt from by unfold gI; rw [ez_45]] at h9_; have h8_ := phi_0 h9_ (by omega); omega)
          refine lv_iconst (v := 1) F.1 F.2.1 dX7_readsReach_123 (by decide) ?_
          refine topK (a := 1) (by decide) (fun k_46 hk_46 => ?_)
          refine tAdd (lo := 1) (hi := 13) F dX7_readsReach_124 hz_45 (eqb hk_46) rfl (fun z_47 hz_47 => ?_)
          refine tIastX (t := 29) F hK hH hS (List.mem_singleton.mp hq_43) (by decide) rfl (ixb (n := 660) (eqb hk_44) rfl rfl) dX7_readsReach_125 (fun G_48 eG_48 H locs hH hS => ?_)
          have hH : TH E (tbM (mD (.inl (t, t)) (.inl (g_40, g_40)) (.inl (g_41, g_41)) (.inl un) (.inl tk) (.inl xt)) nw ws kp as (xD 660 G_48) sc) H := hH
          have hG_48 : okR G_48 := (okR.inc hG_42 eG_48 (by omega) (by omega))
          have hBG_48 := okB hG_48.1
          have hLG_48 := hG_48.2
          refine lv_iconst (v := 1) F.1 F.2.1 dX7_readsReach_126 (by decide) ?_
          refine topK (a := 1) (by decide) (fun k_49 hk_49 => ?_)
          exact txI F hS dX7_readsReach_127 (nar01 (wkb (eqb hk_49) rfl rfl)) (⟨g_40, ⟨by omega, by omega, by omega, by omega⟩, g_41, (by omega), G_48, hG_48, (wkb (eqb hk_49) rfl rfl), hH⟩)
        refine z_eq (tgt := 116) F dX7_readsReach_97 (by decide) (fun c_50 => ?_) (fun c_50 => ?_)
        · skip
          have r_51 : 0 ≤ z_37.toInt ∧ z_37.toInt ≤ 0 := by have h9_ := f_39; omega
          exact J_116 (g_38, g_31, G_32) _ _ _ ⟨(show 0 ≤ g_38 ∧ g_38 ≤ 5000 from by omega), (show (-2147483648) ≤ g_31 ∧ g_31 ≤ 2147483647 from by omega), hG_32, hH, hS, lv_sub hl [0] rfl⟩
        · skip
          have r_52 : 1 ≤ z_37.toInt ∧ z_37.toInt ≤ 1 := by have h9_ := f_39; omega
          refine lv_aload_n F.1 F.2.1 dX7_readsReach_100 rfl (lv_at hl 0 rfl) ?_
          refine lv_iload_n F.1 F.2.1 dX7_readsReach_101 rfl (lv_at hl 1 rfl) ?_
          refine lv_iconst (v := 1) F.1 F.2.1 dX7_readsReach_102 (by decide) ?_
          refine topK (a := 1) (by decide) (fun k_53 hk_53 => ?_)
          refine tAdd (lo := 7) (hi := 79) F dX7_readsReach_103 hz_16.2 (eqb hk_53) rfl (fun z_54 hz_54 => ?_)
          refine lv_iconst (v := 0) F.1 F.2.1 dX7_readsReach_104 (by decide) ?_
          refine topK (a := 0) (by decide) (fun k_55 hk_55 => ?_)
          refine lv_sipush (v := 9999) F.1 F.2.1 dX7_readsReach_105 (by decide) ?_
          refine topK (a := 9999) (by decide) (fun k_56 hk_56 => ?_)
          refine tVi (b := a0) (As := [.int z_54, .int k_55, .int k_56]) (rest := []) F hK hN hO (c_X7_readsTo E nw ws kp as sc un tk xt t g_38 g_31 G_32 (b + 18) a0 z_54 k_55 k_56 ha0 (by omega) (by omega) (by omega) hG_32 (by omega) (by omega) (by intro y_ h1_ h2_; exact (phiI (by omega) (by omega) (by omega) (by omega) (by omega) (by omega) (by omega) (by omega) (by omega) (by omega) (by omega) (by omega) (by omega) (by omega) (by omega) (by omega) (by omega) (by omega))) (by omega)) mv_X7_readsTo wd_17_14 ⟨Nat.le_of_ble_eq_true rfl, Nat.le_of_ble_eq_true rfl⟩ ⟨Nat.le_of_ble_eq_true rfl, Nat.le_of_ble_eq_true rfl⟩ hH hS (tRecv hK hH (tyb ha0 (all1 rfl)) clX7) rfl hl.1 (Nat.le_of_ble_eq_true rfl) dX7_readsReach_108 (fun z_57 H locs hq hS => ?_)
          obtain ⟨g_58, hg_58, g_59, hg_59, g_60, hg_60, f_61, hH⟩ := hq
          have hH : TH E (tbM (mD (.inl (t, t)) (.inl (g_58, g_58)) (.inl (g_59, g_59)) (.inl un) (.inl tk) (.inl xt)) nw ws kp as (xD 660 g_60) sc) H := hH
          have hBg_60 := okB hg_60.1.1
          have hLg_60 := hg_60.1.2
          refine z_ne (tgt := 116) F dX7_readsReach_111 (by decide) (fun c_62 => ?_) (fun c_62 => ?_)
          · skip
            have r_63 : 1 ≤ z_57.toInt ∧ z_57.toInt ≤ 1 := by have h9_ := f_61; omega
            exact J_116 (g_58, g_59, g_60) _ _ _ ⟨(show 0 ≤ g_58 ∧ g_58 ≤ 5000 from by omega), (show (-2147483648) ≤ g_59 ∧ g_59 ≤ 2147483647 from by omega), hg_60.1, hH, hS, lv_sub hl [0] rfl⟩
          · skip
            have r_64 : 0 ≤ z_57.toInt ∧ z_57.toInt ≤ 0 := by have h9_ := f_61; omega
            refine lv_iconst (v := 0) F.1 F.2.1 dX7_readsReach_114 (by decide) ?_
            refine topK (a := 0) (by decide) (fun k_65 hk_65 => ?_)
            exact txI F hS dX7_readsReach_115 (nar01 (wkb (eqb hk_65) rfl rfl)) (⟨g_58, ⟨by omega, by omega, by omega, by omega⟩, g_59, (by omega), g_60, hg_60.1, (wkb (eqb hk_65) rfl rfl), hH⟩)
      · skip
        have r_36 : 0 ≤ u_29.toInt ∧ u_29.toInt ≤ 3 := by have h9_ := hu_29; omega
        refine lv_aload_n F.1 F.2.1 dX7_readsReach_66 rfl (lv_at hl 0 rfl) ?_
        refine lv_iload_n F.1 F.2.1 dX7_readsReach_67 rfl (lv_at hl 1 rfl) ?_
        refine lv_iconst (v := 2) F.1 F.2.1 dX7_readsReach_68 (by decide) ?_
        refine topK (a := 2) (by decide) (fun k_66 hk_66 => ?_)
        refine tAdd (lo := 8) (hi := 80) F dX7_readsReach_69 hz_16.2 (eqb hk_66) rfl (fun z_67 hz_67 => ?_)
        refine lv_iload_n F.1 F.2.1 dX7_readsReach_70 rfl (lv_at hl 2 rfl) ?_
        refine tAdd (lo := 8) (hi := 83) F dX7_readsReach_71 hz_67.2 r_36 rfl (fun z_68 hz_68 => ?_)
        refine lv_iconst (v := 0) F.1 F.2.1 dX7_readsReach_72 (by decide) ?_
        refine topK (a := 0) (by decide) (fun k_69 hk_69 => ?_)
        refine lv_sipush (v := 9999) F.1 F.2.1 dX7_readsReach_73 (by decide) ?_
        refine topK (a := 9999) (by decide) (fun k_70 hk_70 => ?_)
        refine tVi (b := a0) (As := [.int z_68, .int k_69, .int k_70]) (rest := []) F hK hN hO (c_X7_readsTo E nw ws kp as sc un tk xt t g_30 g_31 G_32 (b + 12) a0 z_68 k_69 k_70 ha0 (by omega) (by omega) (by omega) hG_32 (by omega) (by omega) (by intro y_ h1_ h2_; exact (phiI (by omega) (by omega) (by omega) (by omega) (by omega) (by omega) (by omega) (by omega) (by omega) (by omega) (by omega) (by omega) (by omega) (by omega) (by omega) (by omega) (by omega) (by omega))) (by omega)) mv_X7_readsTo wd_17_14 ⟨Nat.le_of_ble_eq_true rfl, Nat.le_of_ble_eq_true rfl⟩ ⟨Nat.le_of_ble_eq_true rfl, Nat.le_of_ble_eq_true rfl⟩ hH hS (tRecv hK hH (tyb ha0 (all1 rfl)) clX7) rfl hl.1 (Nat.le_of_ble_eq_true rfl) dX7_readsReach_76 (fun z_71 H locs hq hS => ?_)
        obtain ⟨g_72, hg_72, g_73, hg_73, g_74, hg_74, f_75, hH⟩ := hq
        have hH : TH E (tbM (mD (.inl (t, t)) (.inl (g_72, g_72)) (.inl (g_73, g_73)) (.inl un) (.inl tk) (.inl xt)) nw ws kp as (xD 660 g_74) sc) H := hH
        have hBg_74 := okB hg_74.1.1
        have hLg_74 := hg_74.1.2
        refine z_ne (tgt := 84) F dX7_readsReach_79 (by decide) (fun c_76 => ?_) (fun c_76 => ?_)
        · skip
          have r_77 : 1 ≤ z_71.toInt ∧ z_71.toInt ≤ 1 := by have h9_ := f_75; omega
          obtain ⟨x_79, ex_79, hx_79⟩ := iincB (c := 1) (lo := 1) (hi := 4) r_36 rfl
          refine lv_iinc (v := x_79) (lv' := [(2, .int x_79), (0, .ref a0), (1, .int z_16)]) F.1 F.2.1 dX7_readsReach_84 hl (k := 2) rfl ex_79 (by decide) rfl (fun ls hl => ?_)
          refine lv_goto (tgt := 61) F.1 F.2.1 dX7_readsReach_87 (by decide) ?_
          exact ih_61 (x_79, g_72, g_73, g_74) _ _ _ ⟨(show (4 - x_79.toInt + 1).toNat < n_61 from by omega), (wkb hx_79.2 rfl rfl), (show 0 ≤ g_72 ∧ g_72 ≤ 5000 from by omega), (show (-2147483648) ≤ g_73 ∧ g_73 ≤ 2147483647 from by omega), hg_74.1, (show gI g_74 0 = gI B 0 from by omega), (show gI g_74 6 = -1 from by omega), (show g_72 ≤ b + 12 from by omega), (show p ≤ g_72 from by omega), hH, hS, lv_sub hl [1, 2, 0] rfl⟩
        · skip
          have r_78 : 0 ≤ z_71.toInt ∧ z_71.toInt ≤ 0 := by have h9_ := f_75; omega
          refine lv_iconst (v := 0) F.1 F.2.1 dX7_readsReach_82 (by decide) ?_
          refine topK (a := 0) (by decide) (fun k_80 hk_80 => ?_)
          exact txI F hS dX7_readsReach_83 (nar01 (wkb (eqb hk_80) rfl rfl)) (⟨g_72, ⟨by omega, by omega, by omega, by omega⟩, g_73, (by omega), g_74, hg_74.1, (wkb (eqb hk_80) rfl rfl), hH⟩)
    · skip
      have r_27 : 0 ≤ z_22.toInt ∧ z_22.toInt ≤ 0 := by have h9_ := f_24; omega
      refine lv_aload_n F.1 F.2.1 dX7_readsReach_47 rfl (lv_at hl 1 rfl) ?_
      refine lv_iload_n F.1 F.2.1 dX7_readsReach_48 rfl (lv_at hl 0 rfl) ?_
      refine lv_iconst (v := 0) F.1 F.2.1 dX7_readsReach_49 (by decide) ?_
      refine topK (a := 0) (by decide) (fun k_81 hk_81 => ?_)
      refine tAdd (lo := 6) (hi := 78) F dX7_readsReach_50 hz_16.2 (eqb hk_81) rfl (fun z_82 hz_82 => ?_)
      refine tVi (b := a0) (As := [.int z_82]) (rest := []) F hK hN hO (c_X7_readsReachOf E nw ws kp as sc un tk xt t g_23 nu G_21 (b + 12) a0 z_82 ha0 (by omega) (by omega) (by omega) hG_21 (by omega) (by omega) (by intro y_ h1_ h2_; exact (phiI (by omega) (by omega) (by omega) (by omega) (by omega) (by omega) (by omega) (by omega) (by omega) (by omega) (by omega) (by omega) (by omega) (by omega) (by omega) (by omega) (by omega) (by omega))) (by omega)) mv_X7_readsReachOf wd_17_10 ⟨Nat.le_of_ble_eq_true rfl, Nat.le_of_ble_eq_true rfl⟩ ⟨Nat.le_of_ble_eq_true rfl, Nat.le_of_ble_eq_true rfl⟩ hH hS (tRecv hK hH (tyb ha0 (all1 rfl)) clX7) rfl hl.1 (Nat.le_of_ble_eq_true rfl) dX7_readsReach_51 (fun z_83 H locs hq hS => ?_)
      obtain ⟨g_84, hg_84, g_85, hg_85, g_86, hg_86, f_87, f_88, hH⟩ := hq
      have hH : TH E (tbM (mD (.inl (t, t)) (.inl (g_84, g_84)) (.inl (g_85, g_85)) (.inl un) (.inl tk) (.inl xt)) nw ws kp as (xD 660 g_86) sc) H := hH
      have hBg_86 := okB hg_86.1.1
      have hLg_86 := hg_86.1.2
      refine z_ne (tgt := 59) F dX7_readsReach_54 (by decide) (fun c_89 => ?_) (fun c_89 => ?_)
      · skip
        have r_90 : 1 ≤ z_83.toInt ∧ z_83.toInt ≤ 1 := by have h9_ := f_87; omega
        refine lv_iconst (v := 0) F.1 F.2.1 dX7_readsReach_59 (by decide) ?_
        refine topK (a := 0) (by decide) (fun k_92 hk_92 => ?_)
        refine lv_istore_n (lv' := [(2, .int k_92), (1, .int z_16), (0, .ref a0)]) F.1 F.2.1 dX7_readsReach_60 rfl hl (by decide) rfl (fun ls hl => ?_)
        refine wloop (σ := Int32 × Int × Int × (Nat → Int32)) (fun n9 x9 H locs ls => (4 - x9.1.toInt + 1).toNat < n9 ∧ (0 ≤ x9.1.toInt ∧ x9.1.toInt ≤ 4) ∧ (0 ≤ x9.2.1 ∧ x9.2.1 ≤ 5000) ∧ ((-2147483648) ≤ x9.2.2.1 ∧ x9.2.2.1 ≤ 2147483647) ∧ (okR x9.2.2.2) ∧ (gI x9.2.2.2 0 = gI B 0) ∧ (gI x9.2.2.2 6 = -1) ∧ (x9.2.1 ≤ b + 12) ∧ (p ≤ x9.2.1) ∧ TH E (tbM (mD (.inl (t, t)) (.inl (x9.2.1, x9.2.1)) (.inl (x9.2.2.1, x9.2.2.1)) (.inl un) (.inl tk) (.inl xt)) nw ws kp as (xD 660 x9.2.2.2) sc) H ∧ va_S (eA E s.heap.size) s.heap H locs ∧ lv_has ls 3 [(0, .ref a0), (1, .int z_16), (2, .int x9.1)]) ?_ (fun x9 H locs ls h => absurd h.1 (Nat.not_lt_zero _)) _ (k_92, g_84, g_85, g_86) ⟨Nat.lt_succ_self _, (wkb (eqb hk_92) rfl rfl), (show 0 ≤ g_84 ∧ g_84 ≤ 5000 from by omega), (show (-2147483648) ≤ g_85 ∧ g_85 ≤ 2147483647 from by omega), hg_86.1, (show gI g_86 0 = gI B 0 from by omega), (show gI g_86 6 = -1 from by omega), (show g_84 ≤ b + 12 from by omega), (show p ≤ g_84 from by omega), hH, hS, lv_sub hl [2, 1, 0] rfl⟩
        intro n_61 ih_61 ⟨u_93, g_94, g_95, G_96⟩ H locs ls ⟨hm_61, hu_93, hg_94, hg_95, hG_96, hcr61_0, hcr61_1, hcr61_2, hcr61_3, hH, hS, hl⟩
        have hm_61 : (4 - u_93.toInt + 1).toNat < n_61 + 1 := hm_61
        have hu_93 : (0 ≤ u_93.toInt ∧ u_93.toInt ≤ 4) := hu_93
        have hg_94 : (0 ≤ g_94 ∧ g_94 ≤ 5000) := hg_94
        have hg_95 : ((-2147483648) ≤ g_95 ∧ g_95 ≤ 2147483647) := hg_95
        have hG_96 : (okR G_96) := hG_96
        have hcr61_0 : (gI G_96 0 = gI B 0) := hcr61_0
        have hcr61_1 : (gI G_96 6 = -1) := hcr61_1
        have hcr61_2 : (g_94 ≤ b + 12) := hcr61_2
        have hcr61_3 : (p ≤ g_94) := hcr61_3
        have hH : TH E (tbM (mD (.inl (t, t)) (.inl (g_94, g_94)) (.inl (g_95, g_95)) (.inl un) (.inl tk) (.inl xt)) nw ws kp as (xD 660 G_96) sc) H := hH
        have hl : lv_has ls 3 [(0, .ref a0), (1, .int z_16), (2, .int u_93)] := hl
        have hBG_96 := okB hG_96.1
        have hLG_96 := hG_96.2
        refine lv_iload_n F.1 F.2.1 dX7_readsReach_61 rfl (lv_at hl 2 rfl) ?_
        refine lv_iconst (v := 4) F.1 F.2.1 dX7_readsReach_62 (by decide) ?_
        refine topK (a := 4) (by decide) (fun k_97 hk_97 => ?_)
        refine b_ge (tgt := 90) F dX7_readsReach_63 (by decide) (fun c_98 => ?_) (fun c_98 => ?_)
        · skip
          have r_99 : 4 ≤ u_93.toInt ∧ u_93.toInt ≤ 4 := by have h9_ := hu_93; omega
          refine lv_aload_n F.1 F.2.1 dX7_readsReach_90 rfl (lv_at hl 0 rfl) ?_
          refine ldcwS F.1 F.2.1 F.2.2.2.2.1 (hO.1 20 _ rfl).1 dX7_readsReach_91 ?_
          refine tVi (b := a0) (As := [.ref (eX E 20)]) (rest := []) F hK hN hO (c_X7_takesWord E nw ws kp as (xD 660 G_96) sc un tk xt (g_95, g_95) t g_94 (b + 12) a0 20 4 ha0 (strAt 20 rfl) (by omega) (by omega) (by omega)) mv_X7_takesWord wd_17_6 ⟨Nat.le_of_ble_eq_true rfl, Nat.le_of_ble_eq_true rfl⟩ ⟨Nat.le_of_ble_eq_true rfl, Nat.le_of_ble_eq_true rfl⟩ hH hS (tRecv hK hH (tyb ha0 (all1 rfl)) clX7) rfl hl.1 (Nat.le_of_ble_eq_true rfl) dX7_readsReach_94 (fun z_101 H locs hq hS => ?_)
          obtain ⟨g_102, hg_102, f_103, hH⟩ := hq
          have hH : TH E (tbM (mD (.inl (t, t)) (.inl (g_102, g_102)) (.inl (g_95, g_95)) (.inl un) (.inl tk) (.inl xt)) nw ws kp as (xD 660 G_96) sc) H := hH
          refine wjoin (σ := Int × Int × (Nat → Int32)) (pcj := 116) (stj := fun x9 => []) (fun x9 H locs ls => (0 ≤ x9.1 ∧ x9.1 ≤ 5000) ∧ ((-2147483648) ≤ x9.2.1 ∧ x9.2.1 ≤ 2147483647) ∧ (okR x9.2.2) ∧ TH E (tbM (mD (.inl (t, t)) (.inl (x9.1, x9.1)) (.inl (x9.2.1, x9.2.1)) (.inl un) (.inl tk) (.inl xt)) nw ws kp as (xD 660 x9.2.2) sc) H ∧ va_S (eA E s.heap.size) s.heap H locs ∧ lv_has ls 3 [(0, .ref a0)]) (fun x9 H locs ls h_ => ?_) (fun J_116 => ?_)
          · skip
            obtain ⟨g_104, g_105, G_106⟩ := x9
            obtain ⟨hg_104, hg_105, hG_106, hH, hS, hl⟩ := h_
            have hg_104 : (0 ≤ g_104 ∧ g_104 ≤ 5000) := hg_104
            have hg_105 : ((-2147483648) ≤ g_105 ∧ g_105 ≤ 2147483647) := hg_105
            have hG_106 : (okR G_106) := hG_106
            have hH : TH E (tbM (mD (.inl (t, t)) (.inl (g_104, g_104)) (.inl (g_105, g_105)) (.inl un) (.inl tk) (.inl xt)) nw ws kp as (xD 660 G_106) sc) H := hH
            have hl : lv_has ls 3 [(0, .ref a0)] := hl
            show W _ _ _ _ _ _ _ _ _ _ _ _ _ _ _ (F0 _ _ _ [])
            have hBG_106 := okB hG_106.1
            have hLG_106 := hG_106.2
            refine lv_aload_n F.1 F.2.1 dX7_readsReach_116 rfl (lv_at hl 0 rfl) ?_
            refine tGetR (j := 36) F hK hH (tyb ha0 (all1 rfl)) rfl (all1 rfl) clX7 (by decide) wd_7_5 dX7_readsReach_117 (fun q_107 hq_107 _ => ?_)
            refine lv_iconst (v := 0) F.1 F.2.1 dX7_readsReach_120 (by decide) ?_
            refine topK (a := 0) (by decide) (fun k_108 hk_108 => ?_)
            refine lv_dup2_11 F.1 F.2.1 dX7_readsReach_121 rfl rfl ?_
            refine tIaldX F hK hH (tyb hq_107 (all1 rfl)) (ixb (n := 660) (eqb hk_108) rfl rfl) dX7_readsReach_122 (fun z_109 ez_109 => ?_)
            have gz_109 : z_109.toInt = gI G_106 (0) := by unfold gI; rw [ez_109, show (k_108).toNatClampNeg = (0) from by show (k_108).toInt.toNat = _; omega]
            have hz_109 : 0 ≤ z_109.toInt ∧ z_109.toInt ≤ 12 := (by have h9_ := okA.at (i := k_108) hG_106.1 (by omega); rw [show gI G_106 (k_108).toNatClampNeg = z_109.toInt from by unfold gI; rw [ez_109]] at h9_; have h8_ := phi_0 h9_ (by omega); omega)
            refine lv_iconst (v := 1) F.1 F.2.1 dX7_readsReach_123 (by decide) ?_
            refine topK (a := 1) (by decide) (fun k_110 hk_110 => ?_)
            refine tAdd (lo := 1) (hi := 13) F dX7_readsReach_124 hz_109 (eqb hk_110) rfl (fun z_111 hz_111 => ?_)
            refine tIastX (t := 29) F hK hH hS (List.mem_singleton.mp hq_107) (by decide) rfl (ixb (n := 660) (eqb hk_108) rfl rfl) dX7_readsReach_125 (fun G_112 eG_112 H locs hH hS => ?_)
            have hH : TH E (tbM (mD (.inl (t, t)) (.inl (g_104, g_104)) (.inl (g_105, g_105)) (.inl un) (.inl tk) (.inl xt)) nw ws kp as (xD 660 G_112) sc) H := hH
            have hG_112 : okR G_112 := (okR.inc hG_106 eG_112 (by omega) (by omega))
            have hBG_112 := okB hG_112.1
            have hLG_112 := hG_112.2
            refine lv_iconst (v := 1) F.1 F.2.1 dX7_readsReach_126 (by decide) ?_
            refine topK (a := 1) (by decide) (fun k_113 hk_113 => ?_)
            exact txI F hS dX7_readsReach_127 (nar01 (wkb (eqb hk_113) rfl rfl)) (⟨g_104, ⟨by omega, by omega, by omega, by omega⟩, g_105, (by omega), G_112, hG_112, (wkb (eqb hk_113) rfl rfl), hH⟩)
          refine z_eq (tgt := 116) F dX7_readsReach_97 (by decide) (fun c_114 => ?_) (fun c_114 => ?_)
          · skip
            have r_115 : 0 ≤ z_101.toInt ∧ z_101.toInt ≤ 0 := by have h9_ := f_103; omega
            exact J_116 (g_102, g_95, G_96) _ _ _ ⟨(show 0 ≤ g_102 ∧ g_102 ≤ 5000 from by omega), (show (-2147483648) ≤ g_95 ∧ g_95 ≤ 2147483647 from by omega), hG_96, hH, hS, lv_sub hl [0] rfl⟩
          · skip
            have r_116 : 1 ≤ z_101.toInt ∧ z_101.toInt ≤ 1 := by have h9_ := f_103; omega
            refine lv_aload_n F.1 F.2.1 dX7_readsReach_100 rfl (lv_at hl 0 rfl) ?_
            refine lv_iload_n F.1 F.2.1 dX7_readsReach_101 rfl (lv_at hl 1 rfl) ?_
            refine lv_iconst (v := 1) F.1 F.2.1 dX7_readsReach_102 (by decide) ?_
            refine topK (a := 1) (by decide) (fun k_117 hk_117 => ?_)
            refine tAdd (lo := 7) (hi := 79) F dX7_readsReach_103 hz_16.2 (eqb hk_117) rfl (fun z_118 hz_118 => ?_)
            refine lv_iconst (v := 0) F.1 F.2.1 dX7_readsReach_104 (by decide) ?_
            refine topK (a := 0) (by decide) (fun k_119 hk_119 => ?_)
            refine lv_sipush (v := 9999) F.1 F.2.1 dX7_readsReach_105 (by decide) ?_
            refine topK (a := 9999) (by decide) (fun k_120 hk_120 => ?_)
            refine tVi (b := a0) (As := [.int z_118, .int k_119, .int k_120]) (rest := []) F hK hN hO (c_X7_readsTo E nw ws kp as sc un tk xt t g_102 g_95 G_96 (b + 18) a0 z_118 k_119 k_120 ha0 (by omega) (by omega) (by omega) hG_96 (by omega) (by omega) (by intro y_ h1_ h2_; exact (phiI (by omega) (by omega) (by omega) (by omega) (by omega) (by omega) (by omega) (by omega) (by omega) (by omega) (by omega) (by omega) (by omega) (by omega) (by omega) (by omega) (by omega) (by omega))) (by omega)) mv_X7_readsTo wd_17_14 ⟨Nat.le_of_ble_eq_true rfl, Nat.le_of_ble_eq_true rfl⟩ ⟨Nat.le_of_ble_eq_true rfl, Nat.le_of_ble_eq_true rfl⟩ hH hS (tRecv hK hH (tyb ha0 (all1 rfl)) clX7) rfl hl.1 (Nat.le_of_ble_eq_true rfl) dX7_readsReach_108 (fun z_121 H locs hq hS => ?_)
            obtain ⟨g_122, hg_122, g_123, hg_123, g_124, hg_124, f_125, hH⟩ := hq
            have hH : TH E (tbM (mD (.inl (t, t)) (.inl (g_122, g_122)) (.inl (g_123, g_123)) (.inl un) (.inl tk) (.inl xt)) nw ws kp as (xD 660 g_124) sc) H := hH
            have hBg_124 := okB hg_124.1.1
            have hLg_124 := hg_124.1.2
            refine z_ne (tgt := 116) F dX7_readsReach_111 (by decide) (fun c_126 => ?_) (fun c_126 => ?_)
            · skip
              have r_127 : 1 ≤ z_121.toInt ∧ z_121.toInt ≤ 1 := by have h9_ := f_125; omega
              exact J_116 (g_122, g_123, g_124) _ _ _ ⟨(show 0 ≤ g_122 ∧ g_122 ≤ 5000 from by omega), (show (-2147483648) ≤ g_123 ∧ g_123 ≤ 2147483647 from by omega), hg_124.1, hH, hS, lv_sub hl [0] rfl⟩
            · skip
              have r_128 : 0 ≤ z_121.toInt ∧ z_121.toInt ≤ 0 := by have h9_ := f_125; omega
              refine lv_iconst (v := 0) F.1 F.2.1 dX7_readsReach_114 (by decide) ?_
              refine topK (a := 0) (by decide) (fun k_129 hk_129 => ?_)
              exact txI F hS dX7_readsReach_115 (nar01 (wkb (eqb hk_129) rfl rfl)) (⟨g_122, ⟨by omega, by omega, by omega, by omega⟩, g_123, (by omega), g_124, hg_124.1, (wkb (eqb hk_129) rfl rfl), hH⟩)
        · skip
          have r_100 : 0 ≤ u_93.toInt ∧ u_93.toInt ≤ 3 := by have h9_ := hu_93; omega
          refine lv_aload_n F.1 F.2.1 dX7_readsReach_66 rfl (lv_at hl 0 rfl) ?_
          refine lv_iload_n F.1 F.2.1 dX7_readsReach_67 rfl (lv_at hl 1 rfl) ?_
          refine lv_iconst (v := 2) F.1 F.2.1 dX7_readsReach_68 (by decide) ?_
          refine topK (a := 2) (by decide) (fun k_130 hk_130 => ?_)
          refine tAdd (lo := 8) (hi := 80) F dX7_readsReach_69 hz_16.2 (eqb hk_130) rfl (fun z_131 hz_131 => ?_)
          refine lv_iload_n F.1 F.2.1 dX7_readsReach_70 rfl (lv_at hl 2 rfl) ?_
          refine tAdd (lo := 8) (hi := 83) F dX7_readsReach_71 hz_131.2 r_100 rfl (fun z_132 hz_132 => ?_)
          refine lv_iconst (v := 0) F.1 F.2.1 dX7_readsReach_72 (by decide) ?_
          refine topK (a := 0) (by decide) (fun k_133 hk_133 => ?_)
          refine lv_sipush (v := 9999) F.1 F.2.1 dX7_readsReach_73 (by decide) ?_
          refine topK (a := 9999) (by decide) (fun k_134 hk_134 => ?_)
          refine tVi (b := a0) (As := [.int z_132, .int k_133, .int k_134]) (rest := []) F hK hN hO (c_X7_readsTo E nw ws kp as sc un tk xt t g_94 g_95 G_96 (b + 12) a0 z_132 k_133 k_134 ha0 (by omega) (by omega) (by omega) hG_96 (by omega) (by omega) (by intro y_ h1_ h2_; exact (phiI (by omega) (by omega) (by omega) (by omega) (by omega) (by omega) (by omega) (by omega) (by omega) (by omega) (by omega) (by omega) (by omega) (by omega) (by omega) (by omega) (by omega) (by omega))) (by omega)) mv_X7_readsTo wd_17_14 ⟨Nat.le_of_ble_eq_true rfl, Nat.le_of_ble_eq_true rfl⟩ ⟨Nat.le_of_ble_eq_true rfl, Nat.le_of_ble_eq_true rfl⟩ hH hS (tRecv hK hH (tyb ha0 (all1 rfl)) clX7) rfl hl.1 (Nat.le_of_ble_eq_true rfl) dX7_readsReach_76 (fun z_135 H locs hq hS => ?_)
          obtain ⟨g_136, hg_136, g_137, hg_137, g_138, hg_138, f_139, hH⟩ := hq
          have hH : TH E (tbM (mD (.inl (t, t)) (.inl (g_136, g_136)) (.inl (g_137, g_137)) (.inl un) (.inl tk) (.inl xt)) nw ws kp as (xD 660 g_138) sc) H := hH
          have hBg_138 := okB hg_138.1.1
          have hLg_138 := hg_138.1.2
          refine z_ne (tgt := 84) F dX7_readsReach_79 (by decide) (fun c_140 => ?_) (fun c_140 => ?_)
          · skip
            have r_141 : 1 ≤ z_135.toInt ∧ z_135.toInt ≤ 1 := by have h9_ := f_139; omega
            obtain ⟨x_143, ex_143, hx_143⟩ := iincB (c := 1) (lo := 1) (hi := 4) r_100 rfl
            refine lv_iinc (v := x_143) (lv' := [(2, .int x_143), (0, .ref a0), (1, .int z_16)]) F.1 F.2.1 dX7_readsReach_84 hl (k := 2) rfl ex_143 (by decide) rfl (fun ls hl => ?_)
            refine lv_goto (tgt := 61) F.1 F.2.1 dX7_readsReach_87 (by decide) ?_
            exact ih_61 (x_143, g_136, g_137, g_138) _ _ _ ⟨(show (4 - x_143.toInt + 1).toNat < n_61 from by omega), (wkb hx_143.2 rfl rfl), (show 0 ≤ g_136 ∧ g_136 ≤ 5000 from by omega), (show (-2147483648) ≤ g_137 ∧ g_137 ≤ 2147483647 from by omega), hg_138.1, (show gI g_138 0 = gI B 0 from by omega), (show gI g_138 6 = -1 from by omega), (show g_136 ≤ b + 12 from by omega), (show p ≤ g_136 from by omega), hH, hS, lv_sub hl [1, 2, 0] rfl⟩
          · skip
            have r_142 : 0 ≤ z_135.toInt ∧ z_135.toInt ≤ 0 := by have h9_ := f_139; omega
            refine lv_iconst (v := 0) F.1 F.2.1 dX7_readsReach_82 (by decide) ?_
            refine topK (a := 0) (by decide) (fun k_144 hk_144 => ?_)
            exact txI F hS dX7_readsReach_83 (nar01 (wkb (eqb hk_144) rfl rfl)) (⟨g_136, ⟨by omega, by omega, by omega, by omega⟩, g_137, (by omega), g_138, hg_138.1, (wkb (eqb hk_144) rfl rfl), hH⟩)
      · skip
        have r_91 : 0 ≤ z_83.toInt ∧ z_83.toInt ≤ 0 := by have h9_ := f_87; omega
        refine lv_iconst (v := 0) F.1 F.2.1 dX7_readsReach_57 (by decide) ?_
        refine topK (a := 0) (by decide) (fun k_145 hk_145 => ?_)
        exact txI F hS dX7_readsReach_58 (nar01 (wkb (eqb hk_145) rfl rfl)) (⟨g_84, ⟨by omega, by omega, by omega, by omega⟩, g_85, (by omega), g_86, hg_86.1, (wkb (eqb hk_145) rfl rfl), hH⟩)
  · skip
    have r_9 : 0 ≤ z_3.toInt ∧ z_3.toInt ≤ 0 := by have h9_ := f_5; omega
    refine lv_iconst (v := 0) F.1 F.2.1 dX7_readsReach_13 (by decide) ?_
    refine topK (a := 0) (by decide) (fun k_146 hk_146 => ?_)
    exact txI F hS dX7_readsReach_14 (nar01 (wkb (eqb hk_146) rfl rfl)) (⟨g_4, ⟨by omega, by omega, by omega, by omega⟩, nu, (by omega), B, hB, (wkb (eqb hk_146) rfl rfl), hH⟩)
set_option maxHeartbeats 4000000 in
set_option maxRecDepth 100000 in
theorem c_X7_readsRight (E : Ev) (nw : TD) (ws : TD) (kp : TD) (as : TD) (sc : TD) (un : Int × Int) (tk : Int × Int) (xt : Int × Int) (t : Int) (p : Int) (nu : Int) (B : Nat → Int32) (b : Int) (a0 : Nat) (ha0 : eT E a0 ∈ [24]) (ht : 0 ≤ t ∧ t ≤ 400) (hp : 0 ≤ p ∧ p ≤ 4000) (hnu : (-2147483648) ≤ nu ∧ nu ≤ 2147483647) (hB : okR B) (hb : p ≤ b ∧ 400 ≤ b ∧ b ≤ 3000) : TcI E yX7_readsRight cX7_readsRight 2 .boolean ({ frames := 9, cells := 0, slots := 0, locals := 269 }) [.ref a0] (fun H => TH E (tbM (mD (.inl (t, t)) (.inl (p, p)) (.inl (nu, nu)) (.inl un) (.inl tk) (.inl xt)) nw ws kp as (xD 660 B) sc) H) (fun v H => ∃ p2 : Int, (0 ≤ p2 ∧ p2 ≤ 5000 ∧ p ≤ p2 ∧ p2 ≤ b + 24) ∧ ∃ nu2 : Int, ((-2147483648) ≤ nu2 ∧ nu2 ≤ 2147483647) ∧ ∃ B2 : Nat → Int32, (okR B2) ∧ (0 ≤ v.toInt ∧ v.toInt ≤ 1) ∧ TH E (tbM (mD (.inl (t, t)) (.inl (p2, p2)) (.inl (nu2, nu2)) (.inl un) (.inl tk) (.inl xt)) nw ws kp as (xD 660 B2) sc) H) := by
  refine teI (by decide) (Nat.le_of_ble_eq_true rfl) ?_
  intro p_ ev_ s mi_ below_ meth cd_ ls F hK hN hO hH hS hl
  have hH : TH E (tbM (mD (.inl (t, t)) (.inl (p, p)) (.inl (nu, nu)) (.inl un) (.inl tk) (.inl xt)) nw ws kp as (xD 660 B) sc) s.heap := hH
  have hl : lv_has ls 2 [(0, .ref a0)] := hl
  have hBB := okB hB.1
  have hLB := hB.2
  refine lv_aload_n F.1 F.2.1 dX7_readsRight_0 rfl (lv_at hl 0 rfl) ?_
  refine ldcwS F.1 F.2.1 F.2.2.2.2.1 (hO.1 21 _ rfl).1 dX7_readsRight_1 ?_
  refine lv_iconst (v := 1) F.1 F.2.1 dX7_readsRight_4 (by decide) ?_
  refine topK (a := 1) (by decide) (fun k_1 hk_1 => ?_)
  refine lv_bipush (v := 14) F.1 F.2.1 dX7_readsRight_5 (by decide) ?_
  refine topK (a := 14) (by decide) (fun k_2 hk_2 => ?_)
  refine tVi (b := a0) (As := [.ref (eX E 21), .int k_1, .int k_2]) (rest := []) F hK hN hO (c_X7_begins_1 E nw ws kp as sc un tk xt (nu, nu) t p B b a0 21 5 k_1 k_2 ha0 (strAt 21 rfl) (eqb hk_1) (eqb hk_2) (by omega) (by omega) hB (by omega)) mv_X7_begins wd_16_22 ⟨Nat.le_of_ble_eq_true rfl, Nat.le_of_ble_eq_true rfl⟩ ⟨Nat.le_of_ble_eq_true rfl, Nat.le_of_ble_eq_true rfl⟩ hH hS (tRecv hK hH (tyb ha0 (all1 rfl)) clX7) rfl hl.1 (Nat.le_of_ble_eq_true rfl) dX7_readsRight_7 (fun z_3 H locs hq hS => ?_)
  obtain ⟨g_4, hg_4, f_5, f_6, hH⟩ := hq
  have hH : TH E (tbM (mD (.inl (t, t)) (.inl (g_4, g_4)) (.inl (nu, nu)) (.inl un) (.inl tk) (.inl xt)) nw ws kp as (xD 660 B) sc) H := hH
  refine z_ne (tgt := 15) F dX7_readsRight_10 (by decide) (fun c_7 => ?_) (fun c_7 => ?_)
  · skip
    have r_8 : 1 ≤ z_3.toInt ∧ z_3.toInt ≤ 1 := by have h9_ := f_5; omega
    refine lv_bipush (v := 78) F.1 F.2.1 dX7_readsRight_15 (by decide) ?_
    refine topK (a := 78) (by decide) (fun k_10 hk_10 => ?_)
    refine lv_bipush (v := 13) F.1 F.2.1 dX7_readsRight_17 (by decide) ?_
    refine topK (a := 13) (by decide) (fun k_11 hk_11 => ?_)
    refine lv_aload_n F.1 F.2.1 dX7_readsRight_19 rfl (lv_at hl 0 rfl) ?_
    refine tGetR (j := 36) F hK hH (tyb ha0 (all1 rfl)) rfl (all1 rfl) clX7 (by decide) wd_7_5 dX7_readsRight_20 (fun q_12 hq_12 _ => ?_)
    refine lv_iconst (v := 1) F.1 F.2.1 dX7_readsRight_23 (by decide) ?_
    refine topK (a := 1) (by decide) (fun k_13 hk_13 => ?_)
    refine tIaldX F hK hH (tyb hq_12 (all1 rfl)) (ixb (n := 660) (eqb hk_13) rfl rfl) dX7_readsRight_24 (fun z_14 ez_14 => ?_)
    have gz_14 : z_14.toInt = gI B (1) := by unfold gI; rw [ez_14, show (k_13).toNatClampNeg = (1) from by show (k_13).toInt.toNat = _; omega]
    have hz_14 : 0 ≤ z_14.toInt ∧ z_14.toInt ≤ 14 := (by have h9_ := okA.at (i := k_13) hB.1 (by omega); rw [show gI B (k_13).toNatClampNeg = z_14.toInt from by unfold gI; rw [ez_14]] at h9_; have h8_ := phi_1 h9_ (by omega); omega)
    refine tMul (lo := 0) (hi := 182) F dX7_readsRight_25 (eqb hk_11) hz_14 rfl (fun z_15 hz_15 => ?_)
    have mz_15 : z_15.toInt = 13 * z_14.toInt := by rw [hz_15.1, hk_11]
    refine tAdd (lo := 78) (hi := 260) F dX7_readsRight_26 (eqb hk_10) hz_15.2 rfl (fun z_16 hz_16 => ?_)
    refine lv_istore_n (lv' := [(1, .int z_16), (0, .ref a0)]) F.1 F.2.1 dX7_readsRight_27 rfl hl (by decide) rfl (fun ls hl => ?_)
    refine lv_aload_n F.1 F.2.1 dX7_readsRight_28 rfl (lv_at hl 1 rfl) ?_
    refine lv_iload_n F.1 F.2.1 dX7_readsRight_29 rfl (lv_at hl 0 rfl) ?_
    refine lv_iconst (v := 0) F.1 F.2.1 dX7_readsRight_30 (by decide) ?_
    refine topK (a := 0) (by decide) (fun k_17 hk_17 => ?_)
    refine tAdd (lo := 78) (hi := 260) F dX7_readsRight_31 hz_16.2 (eqb hk_17) rfl (fun z_18 hz_18 => ?_)
    refine tVi (b := a0) (As := [.int z_18]) (rest := []) F hK hN hO (c_X7_readsReachOf E nw ws kp as sc un tk xt t g_4 nu B (b + 6) a0 z_18 ha0 (by omega) (by omega) (by omega) hB (by omega) (by omega) (by intro y_ h1_ h2_; exact (phiI (by omega) (by omega) (by omega) (by omega) (by omega) (by omega) (by omega) (by omega) (by omega) (by omega) (by omega) (by omega) (by omega) (by omega) (by omega) (by omega) (by omega) (by omega))) (by omega)) mv_X7_readsReachOf wd_17_10 ⟨Nat.le_of_ble_eq_true rfl, Nat.le_of_ble_eq_true rfl⟩ ⟨Nat.le_of_ble_eq_true rfl, Nat.le_of_ble_eq_true rfl⟩ hH hS (tRecv hK hH (tyb ha0 (all1 rfl)) clX7) rfl hl.1 (Nat.le_of_ble_eq_true rfl) dX7_readsRight_32 (fun z_19 H locs hq hS => ?_)
    obtain ⟨g_20, hg_20, g_21, hg_21, g_22, hg_22, f_23, f_24, hH⟩ := hq
    have hH : TH E (tbM (mD (.inl (t, t)) (.inl (g_20, g_20)) (.inl (g_21, g_21)) (.inl un) (.inl tk) (.inl xt)) nw ws kp as (xD 660 g_22) sc) H := hH
    have hBg_22 := okB hg_22.1.1
    have hLg_22 := hg_22.1.2
    refine z_eq (tgt := 97) F dX7_readsRight_35 (by decide) (fun c_25 => ?_) (fun c_25 => ?_)
    · skip
      have r_26 : 0 ≤ z_19.toInt ∧ z_19.toInt ≤ 0 := by have h9_ := f_23; omega
      refine lv_iconst (v := 0) F.1 F.2.1 dX7_readsRight_97 (by decide) ?_
      refine topK (a := 0) (by decide) (fun k_28 hk_28 => ?_)
      exact txI F hS dX7_readsRight_98 (nar01 (wkb (eqb hk_28) rfl rfl)) (⟨g_20, ⟨by omega, by omega, by omega, by omega⟩, g_21, (by omega), g_22, hg_22.1, (wkb (eqb hk_28) rfl rfl), hH⟩)
    · skip
      have r_27 : 1 ≤ z_19.toInt ∧ z_19.toInt ≤ 1 := by have h9_ := f_23; omega
      refine lv_aload_n F.1 F.2.1 dX7_readsRight_38 rfl (lv_at hl 1 rfl) ?_
      refine lv_iload_n F.1 F.2.1 dX7_readsRight_39 rfl (lv_at hl 0 rfl) ?_
      refine lv_iconst (v := 1) F.1 F.2.1 dX7_readsRight_40 (by decide) ?_
      refine topK (a := 1) (by decide) (fun k_29 hk_29 => ?_)
      refine tAdd (lo := 79) (hi := 261) F dX7_readsRight_41 hz_16.2 (eqb hk_29) rfl (fun z_30 hz_30 => ?_)
      refine lv_iconst (v := 1) F.1 F.2.1 dX7_readsRight_42 (by decide) ?_
      refine topK (a := 1) (by decide) (fun k_31 hk_31 => ?_)
      refine lv_sipush (v := 9999) F.1 F.2.1 dX7_readsRight_43 (by decide) ?_
      refine topK (a := 9999) (by decide) (fun k_32 hk_32 => ?_)
      refine tVi (b := a0) (As := [.int z_30, .int k_31, .int k_32]) (rest := []) F hK hN hO (c_X7_readsTo E nw ws kp as sc un tk xt t g_20 g_21 g_22 (b + 6) a0 z_30 k_31 k_32 ha0 (by omega) (by omega) (by omega) hg_22.1 (by omega) (by omega) (by intro y_ h1_ h2_; exact (phiI (by omega) (by omega) (by omega) (by omega) (by omega) (by omega) (by omega) (by omega) (by omega) (by omega) (by omega) (by omega) (by omega) (by omega) (by omega) (by omega) (by omega) (by omega))) (by omega)) mv_X7_readsTo wd_17_14 ⟨Nat.le_of_ble_eq_true rfl, Nat.le_of_ble_eq_true rfl⟩ ⟨Nat.le_of_ble_eq_true rfl, Nat.le_of_ble_eq_true rfl⟩ hH hS (tRecv hK hH (tyb ha0 (all1 rfl)) clX7) rfl hl.1 (Nat.le_of_ble_eq_true rfl) dX7_readsRight_46 (fun z_33 H locs hq hS => ?_)
      obtain ⟨g_34, hg_34, g_35, hg_35, g_36, hg_36, f_37, hH⟩ := hq
      have hH : TH E (tbM (mD (.inl (t, t)) (.inl (g_34, g_34)) (.inl (g_35, g_35)) (.inl un) (.inl tk) (.inl xt)) nw ws kp as (xD 660 g_36) sc) H := hH
      have hBg_36 := okB hg_36.1.1
      have hLg_36 := hg_36.1.2
      refine z_eq (tgt := 97) F dX7_readsRight_49 (by decide) (fun c_38 => ?_) (fun c_38 => ?_)
      · skip
        have r_39 : 0 ≤ z_33.toInt ∧ z_33.toInt ≤ 0 := by have h9_ := f_37; omega
        refine lv_iconst (v := 0) F.1 F.2.1 dX7_readsRight_97 (by decide) ?_
        refine topK (a := 0) (by decide) (fun k_41 hk_41 => ?_)
        exact txI F hS dX7_readsRight_98 (nar01 (wkb (eqb hk_41) rfl rfl)) (⟨g_34, ⟨by omega, by omega, by omega, by omega⟩, g_35, (by omega), g_36, hg_36.1, (wkb (eqb hk_41) rfl rfl), hH⟩)
      · skip
        have r_40 : 1 ≤ z_33.toInt ∧ z_33.toInt ≤ 1 := by have h9_ := f_37; omega
        refine lv_aload_n F.1 F.2.1 dX7_readsRight_52 rfl (lv_at hl 1 rfl) ?_
        refine lv_iload_n F.1 F.2.1 dX7_readsRight_53 rfl (lv_at hl 0 rfl) ?_
        refine lv_iconst (v := 2) F.1 F.2.1 dX7_readsRight_54 (by decide) ?_
        refine topK (a := 2) (by decide) (fun k_42 hk_42 => ?_)
        refine tAdd (lo := 80) (hi := 262) F dX7_readsRight_55 hz_16.2 (eqb hk_42) rfl (fun z_43 hz_43 => ?_)
        refine lv_iconst (v := 0) F.1 F.2.1 dX7_readsRight_56 (by decide) ?_
        refine topK (a := 0) (by decide) (fun k_44 hk_44 => ?_)
        refine lv_sipush (v := 359) F.1 F.2.1 dX7_readsRight_57 (by decide) ?_
        refine topK (a := 359) (by decide) (fun k_45 hk_45 => ?_)
        refine tVi (b := a0) (As := [.int z_43, .int k_44, .int k_45]) (rest := []) F hK hN hO (c_X7_readsTo E nw ws kp as sc un tk xt t g_34 g_35 g_36 (b + 6) a0 z_43 k_44 k_45 ha0 (by omega) (by omega) (by omega) hg_36.1 (by omega) (by omega) (by intro y_ h1_ h2_; exact (phiI (by omega) (by omega) (by omega) (by omega) (by omega) (by omega) (by omega) (by omega) (by omega) (by omega) (by omega) (by omega) (by omega) (by omega) (by omega) (by omega) (by omega) (by omega))) (by omega)) mv_X7_readsTo wd_17_14 ⟨Nat.le_of_ble_eq_true rfl, Nat.le_of_ble_eq_true rfl⟩ ⟨Nat.le_of_ble_eq_true rfl, Nat.le_of_ble_eq_true rfl⟩ hH hS (tRecv hK hH (tyb ha0 (all1 rfl)) clX7) rfl hl.1 (Nat.le_of_ble_eq_true rfl) dX7_readsRight_60 (fun z_46 H locs hq hS => ?_)
        obtain ⟨g_47, hg_47, g_48, hg_48, g_49, hg_49, f_50, hH⟩ := hq
        have hH : TH E (tbM (mD (.inl (t, t)) (.inl (g_47, g_47)) (.inl (g_48, g_48)) (.inl un) (.inl tk) (.inl xt)) nw ws kp as (xD 660 g_49) sc) H := hH
        have hBg_49 := okB hg_49.1.1
        have hLg_49 := hg_49.1.2
        refine z_eq (tgt := 97) F dX7_readsRight_63 (by decide) (fun c_51 => ?_) (fun c_51 => ?_)
        · skip
          have r_52 : 0 ≤ z_46.toInt ∧ z_46.toInt ≤ 0 := by have h9_ := f_50; omega
          refine lv_iconst (v := 0) F.1 F.2.1 dX7_readsRight_97 (by decide) ?_
          refine topK (a := 0) (by decide) (fun k_54 hk_54 => ?_)
          exact txI F hS dX7_readsRight_98 (nar01 (wkb (eqb hk_54) rfl rfl)) (⟨g_47, ⟨by omega, by omega, by omega, by omega⟩, g_48, (by omega), g_49, hg_49.1, (wkb (eqb hk_54) rfl rfl), hH⟩)
        · skip
          have r_53 : 1 ≤ z_46.toInt ∧ z_46.toInt ≤ 1 := by have h9_ := f_50; omega
          refine lv_aload_n F.1 F.2.1 dX7_readsRight_66 rfl (lv_at hl 1 rfl) ?_
          refine lv_iload_n F.1 F.2.1 dX7_readsRight_67 rfl (lv_at hl 0 rfl) ?_
          refine lv_iconst (v := 3) F.1 F.2.1 dX7_readsRight_68 (by decide) ?_
          refine topK (a := 3) (by decide) (fun k_55 hk_55 => ?_)
          refine tAdd (lo := 81) (hi := 263) F dX7_readsRight_69 hz_16.2 (eqb hk_55) rfl (fun z_56 hz_56 => ?_)
          refine lv_aload_n F.1 F.2.1 dX7_readsRight_70 rfl (lv_at hl 1 rfl) ?_
          refine tGetR (j := 36) F hK hH (tyb ha0 (all1 rfl)) rfl (all1 rfl) clX7 (by decide) wd_7_5 dX7_readsRight_71 (fun q_57 hq_57 _ => ?_)
          refine lv_iload_n F.1 F.2.1 dX7_readsRight_74 rfl (lv_at hl 0 rfl) ?_
          refine lv_iconst (v := 2) F.1 F.2.1 dX7_readsRight_75 (by decide) ?_
          refine topK (a := 2) (by decide) (fun k_58 hk_58 => ?_)
          refine tAdd (lo := 80) (hi := 262) F dX7_readsRight_76 hz_16.2 (eqb hk_58) rfl (fun z_59 hz_59 => ?_)
          refine tIaldX F hK hH (tyb hq_57 (all1 rfl)) (ixb (n := 660) hz_59.2 rfl rfl) dX7_readsRight_77 (fun z_60 ez_60 => ?_)
          refine lv_sipush (v := 359) F.1 F.2.1 dX7_readsRight_78 (by decide) ?_
          refine topK (a := 359) (by decide) (fun k_61 hk_61 => ?_)
          refine tVi (b := a0) (As := [.int z_56, .int z_60, .int k_61]) (rest := []) F hK hN hO (c_X7_readsTo E nw ws kp as sc un tk xt t g_47 g_48 g_49 (b + 6) a0 z_56 z_60 k_61 ha0 (by omega) (by omega) (by omega) hg_49.1 (by omega) (by omega) (by intro y_ h1_ h2_; exact (phiI (by omega) (by omega) (by omega) (by omega) (by omega) (by omega) (by omega) (by omega) (by omega) (by omega) (by omega) (by omega) (by omega) (by omega) (by omega) (by omega) (by omega) (by omega))) (by omega)) mv_X7_readsTo wd_17_14 ⟨Nat.le_of_ble_eq_true rfl, Nat.le_of_ble_eq_true rfl⟩ ⟨Nat.le_of_ble_eq_true rfl, Nat.le_of_ble_eq_true rfl⟩ hH hS (tRecv hK hH (tyb ha0 (all1 rfl)) clX7) rfl hl.1 (Nat.le_of_ble_eq_true rfl) dX7_readsRight_81 (fun z_62 H locs hq hS => ?_)
          obtain ⟨g_63, hg_63, g_64, hg_64, g_65, hg_65, f_66, hH⟩ := hq
          have hH : TH E (tbM (mD (.inl (t, t)) (.inl (g_63, g_63)) (.inl (g_64, g_64)) (.inl un) (.inl tk) (.inl xt)) nw ws kp as (xD 660 g_65) sc) H := hH
          have hBg_65 := okB hg_65.1.1
          have hLg_65 := hg_65.1.2
          refine z_eq (tgt := 97) F dX7_readsRight_84 (by decide) (fun c_67 => ?_) (fun c_67 => ?_)
          · skip
            have r_68 : 0 ≤ z_62.toInt ∧ z_62.toInt ≤ 0 := by have h9_ := f_66; omega
            refine lv_iconst (v := 0) F.1 F.2.1 dX7_readsRight_97 (by decide) ?_
            refine topK (a := 0) (by decide) (fun k_70 hk_70 => ?_)
            exact txI F hS dX7_readsRight_98 (nar01 (wkb (eqb hk_70) rfl rfl)) (⟨g_63, ⟨by omega, by omega, by omega, by omega⟩, g_64, (by omega), g_65, hg_65.1, (wkb (eqb hk_70) rfl rfl), hH⟩)
          · skip
            have r_69 : 1 ≤ z_62.toInt ∧ z_62.toInt ≤ 1 := by have h9_ := f_66; omega
            refine lv_aload_n F.1 F.2.1 dX7_readsRight_87 rfl (lv_at hl 1 rfl) ?_
            refine lv_iload_n F.1 F.2.1 dX7_readsRight_88 rfl (lv_at hl 0 rfl) ?_
            refine lv_iconst (v := 4) F.1 F.2.1 dX7_readsRight_89 (by decide) ?_
            refine topK (a := 4) (by decide) (fun k_71 hk_71 => ?_)
            refine tAdd (lo := 82) (hi := 264) F dX7_readsRight_90 hz_16.2 (eqb hk_71) rfl (fun z_72 hz_72 => ?_)
            refine tVi (b := a0) (As := [.int z_72]) (rest := []) F hK hN hO (c_X7_readsAge E nw ws kp as sc un tk xt t g_63 g_64 g_65 (b + 6) a0 z_72 ha0 (wkb hz_72.2 rfl rfl) (by omega) (by omega) (by omega) hg_65.1 (by omega) (by omega)) mv_X7_readsAge wd_18_8 ⟨Nat.le_of_ble_eq_true rfl, Nat.le_of_ble_eq_true rfl⟩ ⟨Nat.le_of_ble_eq_true rfl, Nat.le_of_ble_eq_true rfl⟩ hH hS (tRecv hK hH (tyb ha0 (all1 rfl)) clX7) rfl hl.1 (Nat.le_of_ble_eq_true rfl) dX7_readsRight_91 (fun z_73 H locs hq hS => ?_)
            obtain ⟨g_74, hg_74, g_75, hg_75, g_76, hg_76, f_77, hH⟩ := hq
            have hH : TH E (tbM (mD (.inl (t, t)) (.inl (g_74, g_74)) (.inl (g_75, g_75)) (.inl un) (.inl tk) (.inl xt)) nw ws kp as (xD 660 g_76) sc) H := hH
            have hBg_76 := okB hg_76.1.1
            have hLg_76 := hg_76.1.2
            refine z_ne (tgt := 99) F dX7_readsRight_94 (by decide) (fun c_78 => ?_) (fun c_78 => ?_)
            · skip
              have r_79 : 1 ≤ z_73.toInt ∧ z_73.toInt ≤ 1 := by have h9_ := f_77; omega
              refine lv_aload_n F.1 F.2.1 dX7_readsRight_99 rfl (lv_at hl 1 rfl) ?_
              refine tGetR (j := 36) F hK hH (tyb ha0 (all1 rfl)) rfl (all1 rfl) clX7 (by decide) wd_7_5 dX7_readsRight_100 (fun q_81 hq_81 _ => ?_)
              refine lv_iload_n F.1 F.2.1 dX7_readsRight_103 rfl (lv_at hl 0 rfl) ?_
              refine lv_iconst (v := 5) F.1 F.2.1 dX7_readsRight_104 (by decide) ?_
              refine topK (a := 5) (by decide) (fun k_82 hk_82 => ?_)
              refine tAdd (lo := 83) (hi := 265) F dX7_readsRight_105 hz_16.2 (eqb hk_82) rfl (fun z_83 hz_83 => ?_)
              refine lv_bipush (v := (-2)) F.1 F.2.1 dX7_readsRight_106 (by decide) ?_
              refine topK (a := (-2)) (by decide) (fun k_84 hk_84 => ?_)
              refine tIastX (t := 29) F hK hH hS (List.mem_singleton.mp hq_81) (by decide) rfl (ixb (n := 660) hz_83.2 rfl rfl) dX7_readsRight_108 (fun G_85 eG_85 H locs hH hS => ?_)
              have hH : TH E (tbM (mD (.inl (t, t)) (.inl (g_74, g_74)) (.inl (g_75, g_75)) (.inl un) (.inl tk) (.inl xt)) nw ws kp as (xD 660 G_85) sc) H := hH
              have n0G_85 : gI G_85 0 = gI g_76 0 := gI_ne eG_85 (by omega) (by omega)
              have n1G_85 : gI G_85 1 = gI g_76 1 := gI_ne eG_85 (by omega) (by omega)
              have n2G_85 : gI G_85 2 = gI g_76 2 := gI_ne eG_85 (by omega) (by omega)
              have n6G_85 : gI G_85 6 = gI g_76 6 := gI_ne eG_85 (by omega) (by omega)
              have n3G_85 : gI G_85 3 = gI g_76 3 := gI_ne eG_85 (by omega) (by omega)
              have hG_85 : okR G_85 := (okR.stM hg_76.1 eG_85 (by omega) (by omega) (by omega) (phiI (by omega) (by omega) (by omega) (by omega) (by omega) (by omega) (by omega) (by omega) (by omega) (by omega) (by omega) (by omega) (by omega) (by omega) (by omega) (by omega) (by omega) (by omega)) (by omega))
              have hBG_85 := okB hG_85.1
              have hLG_85 := hG_85.2
              refine lv_aload_n F.1 F.2.1 dX7_readsRight_109 rfl (lv_at hl 1 rfl) ?_
              refine ldcwS F.1 F.2.1 F.2.2.2.2.1 (hO.1 23 _ rfl).1 dX7_readsRight_110 ?_
              refine tVi (b := a0) (As := [.ref (eX E 23)]) (rest := []) F hK hN hO (c_X7_takesWord E nw ws kp as (xD 660 G_85) sc un tk xt (g_75, g_75) t g_74 (b + 12) a0 23 3 ha0 (strAt 23 rfl) (by omega) (by omega) (by omega)) mv_X7_takesWord wd_17_6 ⟨Nat.le_of_ble_eq_true rfl, Nat.le_of_ble_eq_true rfl⟩ ⟨Nat.le_of_ble_eq_true rfl, Nat.le_of_ble_eq_true rfl⟩ hH hS (tRecv hK hH (tyb ha0 (all1 rfl)) clX7) rfl hl.1 (Nat.le_of_ble_eq_true rfl) dX7_readsRight_113 (fun z_86 H locs hq hS => ?_)
              obtain ⟨g_87, hg_87, f_88, hH⟩ := hq
              have hH : TH E (tbM (mD (.inl (t, t)) (.inl (g_87, g_87)) (.inl (g_75, g_75)) (.inl un) (.inl tk) (.inl xt)) nw ws kp as (xD 660 G_85) sc) H := hH
              refine wjoin (σ := Int × Int × (Nat → Int32)) (pcj := 135) (stj := fun x9 => []) (fun x9 H locs ls => (0 ≤ x9.1 ∧ x9.1 ≤ 5000) ∧ ((-2147483648) ≤ x9.2.1 ∧ x9.2.1 ≤ 2147483647) ∧ (okR x9.2.2) ∧ TH E (tbM (mD (.inl (t, t)) (.inl (x9.1, x9.1)) (.inl (x9.2.1, x9.2.1)) (.inl un) (.inl tk) (.inl xt)) nw ws kp as (xD 660 x9.2.2) sc) H ∧ va_S (eA E s.heap.size) s.heap H locs ∧ lv_has ls 2 [(0, .ref a0), (1, .int z_16)]) (fun x9 H locs ls h_ => ?_) (fun J_135 => ?_)
              · skip
                obtain ⟨g_89, g_90, G_91⟩ := x9
                obtain ⟨hg_89, hg_90, hG_91, hH, hS, hl⟩ := h_
                have hg_89 : (0 ≤ g_89 ∧ g_89 ≤ 5000) := hg_89
                have hg_90 : ((-2147483648) ≤ g_90 ∧ g_90 ≤ 2147483647) := hg_90
                have hG_91 : (okR G_91) := hG_91
                have hH : TH E (tbM (mD (.inl (t, t)) (.inl (g_89, g_89)) (.inl (g_90, g_90)) (.inl un) (.inl tk) (.inl xt)) nw ws kp as (xD 660 G_91) sc) H := hH
                have hl : lv_has ls 2 [(0, .ref a0), (1, .int z_16)] := hl
                show W _ _ _ _ _ _ _ _ _ _ _ _ _ _ _ (F0 _ _ _ [])
                have hBG_91 := okB hG_91.1
                have hLG_91 := hG_91.2
                refine lv_aload_n F.1 F.2.1 dX7_readsRight_135 rfl (lv_at hl 0 rfl) ?_
                refine lv_iload_n F.1 F.2.1 dX7_readsRight_136 rfl (lv_at hl 1 rfl) ?_
                refine tVi (b := a0) (As := [.int z_16]) (rest := []) F hK hN hO (c_X7_readsBack E nw ws kp as sc un tk xt t g_89 g_90 G_91 (b + 18) a0 z_16 ha0 (by omega) (by omega) (by omega) (by omega) hG_91 (by omega) (by omega)) mv_X7_readsBack wd_18_16 ⟨Nat.le_of_ble_eq_true rfl, Nat.le_of_ble_eq_true rfl⟩ ⟨Nat.le_of_ble_eq_true rfl, Nat.le_of_ble_eq_true rfl⟩ hH hS (tRecv hK hH (tyb ha0 (all1 rfl)) clX7) rfl hl.1 (Nat.le_of_ble_eq_true rfl) dX7_readsRight_137 (fun z_92 H locs hq hS => ?_)
                obtain ⟨g_93, hg_93, g_94, hg_94, g_95, hg_95, f_96, hH⟩ := hq
                have hH : TH E (tbM (mD (.inl (t, t)) (.inl (g_93, g_93)) (.inl (g_94, g_94)) (.inl un) (.inl tk) (.inl xt)) nw ws kp as (xD 660 g_95) sc) H := hH
                have hBg_95 := okB hg_95.1.1
                have hLg_95 := hg_95.1.2
                refine z_ne (tgt := 145) F dX7_readsRight_140 (by decide) (fun c_97 => ?_) (fun c_97 => ?_)
                · skip
                  have r_98 : 1 ≤ z_92.toInt ∧ z_92.toInt ≤ 1 := by have h9_ := f_96; omega
                  refine lv_aload_n F.1 F.2.1 dX7_readsRight_145 rfl (lv_at hl 0 rfl) ?_
                  refine tGetR (j := 36) F hK hH (tyb ha0 (all1 rfl)) rfl (all1 rfl) clX7 (by decide) wd_7_5 dX7_readsRight_146 (fun q_100 hq_100 _ => ?_)
                  refine lv_iload_n F.1 F.2.1 dX7_readsRight_149 rfl (lv_at hl 1 rfl) ?_
                  refine lv_bipush (v := 6) F.1 F.2.1 dX7_readsRight_150 (by decide) ?_
                  refine topK (a := 6) (by decide) (fun k_101 hk_101 => ?_)
                  refine tAdd (lo := 84) (hi := 266) F dX7_readsRight_152 hz_16.2 (eqb hk_101) rfl (fun z_102 hz_102 => ?_)
                  refine lv_aload_n F.1 F.2.1 dX7_readsRight_153 rfl (lv_at hl 0 rfl) ?_
                  refine tGetR (j := 36) F hK hH (tyb ha0 (all1 rfl)) rfl (all1 rfl) clX7 (by decide) wd_7_5 dX7_readsRight_154 (fun q_103 hq_103 _ => ?_)
                  refine lv_iload_n F.1 F.2.1 dX7_readsRight_157 rfl (lv_at hl 1 rfl) ?_
                  refine lv_iconst (v := 5) F.1 F.2.1 dX7_readsRight_158 (by decide) ?_
                  refine topK (a := 5) (by decide) (fun k_104 hk_104 => ?_)
                  refine tAdd (lo := 83) (hi := 265) F dX7_readsRight_159 hz_16.2 (eqb hk_104) rfl (fun z_105 hz_105 => ?_)
                  refine tIaldX F hK hH (tyb hq_103 (all1 rfl)) (ixb (n := 660) hz_105.2 rfl rfl) dX7_readsRight_160 (fun z_106 ez_106 => ?_)
                  have hz_106 : (-2) ≤ z_106.toInt ∧ z_106.toInt ≤ 999999 := (by have h9_ := okA.at (i := z_105) hg_95.1.1 (by omega); rw [show gI g_95 (z_105).toNatClampNeg = z_106.toInt from by unfold gI; rw [ez_106]] at h9_; have h8_ := phi_r5 h9_ (by omega) (by omega); omega)
                  refine tIastX (t := 29) F hK hH hS (List.mem_singleton.mp hq_100) (by decide) rfl (ixb (n := 660) hz_102.2 rfl rfl) dX7_readsRight_161 (fun G_107 eG_107 H locs hH hS => ?_)
                  have hH : TH E (tbM (mD (.inl (t, t)) (.inl (g_93, g_93)) (.inl (g_94, g_94)) (.inl un) (.inl tk) (.inl xt)) nw ws kp as (xD 660 G_107) sc) H := hH
                  have n0G_107 : gI G_107 0 = gI g_95 0 := gI_ne eG_107 (by omega) (by omega)
                  have n1G_107 : gI G_107 1 = gI g_95 1 := gI_ne eG_107 (by omega) (by omega)
                  have n2G_107 : gI G_107 2 = gI g_95 2 := gI_ne eG_107 (by omega) (by omega)
                  have n6G_107 : gI G_107 6 = gI g_95 6 := gI_ne eG_107 (by omega) (by omega)
                  have n3G_107 : gI G_107 3 = gI g_95 3 := gI_ne eG_107 (by omega) (by omega)
                  have hG_107 : okR G_107 := (okR.stL hg_95.1 eG_107 (by omega) (by omega) (by omega))
                  have hBG_107 := okB hG_107.1
                  have hLG_107 := hG_107.2
                  refine lv_aload_n F.1 F.2.1 dX7_readsRight_162 rfl (lv_at hl 0 rfl) ?_
                  refine tGetR (j := 36) F hK hH (tyb ha0 (all1 rfl)) rfl (all1 rfl) clX7 (by decide) wd_7_5 dX7_readsRight_163 (fun q_108 hq_108 _ => ?_)
                  refine lv_iload_n F.1 F.2.1 dX7_readsRight_166 rfl (lv_at hl 1 rfl) ?_
                  refine lv_bipush (v := 10) F.1 F.2.1 dX7_readsRight_167 (by decide) ?_
                  refine topK (a := 10) (by decide) (fun k_109 hk_109 => ?_)
                  refine tAdd (lo := 88) (hi := 270) F dX7_readsRight_169 hz_16.2 (eqb hk_109) rfl (fun z_110 hz_110 => ?_)
                  refine lv_aload_n F.1 F.2.1 dX7_readsRight_170 rfl (lv_at hl 0 rfl) ?_
                  refine tGetR (j := 36) F hK hH (tyb ha0 (all1 rfl)) rfl (all1 rfl) clX7 (by decide) wd_7_5 dX7_readsRight_171 (fun q_111 hq_111 _ => ?_)
                  refine lv_iload_n F.1 F.2.1 dX7_readsRight_174 rfl (lv_at hl 1 rfl) ?_
                  refine lv_iconst (v := 1) F.1 F.2.1 dX7_readsRight_175 (by decide) ?_
                  refine topK (a := 1) (by decide) (fun k_112 hk_112 => ?_)
                  refine tAdd (lo := 79) (hi := 261) F dX7_readsRight_176 hz_16.2 (eqb hk_112) rfl (fun z_113 hz_113 => ?_)
                  refine tIaldX F hK hH (tyb hq_111 (all1 rfl)) (ixb (n := 660) hz_113.2 rfl rfl) dX7_readsRight_177 (fun z_114 ez_114 => ?_)
                  have hz_114 : 0 ≤ z_114.toInt ∧ z_114.toInt ≤ 9999 := (by have h9_ := okA.at (i := z_113) hG_107.1 (by omega); rw [show gI G_107 (z_113).toNatClampNeg = z_114.toInt from by unfold gI; rw [ez_114]] at h9_; have h8_ := phi_r1 h9_ (by omega) (by omega); omega)
                  refine tIastX (t := 29) F hK hH hS (List.mem_singleton.mp hq_108) (by decide) rfl (ixb (n := 660) hz_110.2 rfl rfl) dX7_readsRight_178 (fun G_115 eG_115 H locs hH hS => ?_)
                  have hH : TH E (tbM (mD (.inl (t, t)) (.inl (g_93, g_93)) (.inl (g_94, g_94)) (.inl un) (.inl tk) (.inl xt)) nw ws kp as (xD 660 G_115) sc) H := hH
                  have n0G_115 : gI G_115 0 = gI G_107 0 := gI_ne eG_115 (by omega) (by omega)
                  have n1G_115 : gI G_115 1 = gI G_107 1 := gI_ne eG_115 (by omega) (by omega)
                  have n2G_115 : gI G_115 2 = gI G_107 2 := gI_ne eG_115 (by omega) (by omega)
                  have n6G_115 : gI G_115 6 = gI G_107 6 := gI_ne eG_115 (by omega) (by omega)
                  have n3G_115 : gI G_115 3 = gI G_107 3 := gI_ne eG_115 (by omega) (by omega)
                  have hG_115 : okR G_115 := (okR.stM hG_107 eG_115 (by omega) (by omega) (by omega) (phiI (by omega) (by omega) (by omega) (by omega) (by omega) (by omega) (by omega) (by omega) (by omega) (by omega) (by omega) (by omega) (by omega) (by omega) (by omega) (by omega) (by omega) (by omega)) (by omega))
                  have hBG_115 := okB hG_115.1
                  have hLG_115 := hG_115.2
                  refine lv_aload_n F.1 F.2.1 dX7_readsRight_179 rfl (lv_at hl 0 rfl) ?_
                  refine tGetR (j := 36) F hK hH (tyb ha0 (all1 rfl)) rfl (all1 rfl) clX7 (by decide) wd_7_5 dX7_readsRight_180 (fun q_116 hq_116 _ => ?_)
                  refine lv_iload_n F.1 F.2.1 dX7_readsRight_183 rfl (lv_at hl 1 rfl) ?_
                  refine lv_bipush (v := 11) F.1 F.2.1 dX7_readsRight_184 (by decide) ?_
                  refine topK (a := 11) (by decide) (fun k_117 hk_117 => ?_)
                  refine tAdd (lo := 89) (hi := 271) F dX7_readsRight_186 hz_16.2 (eqb hk_117) rfl (fun z_118 hz_118 => ?_)
                  refine lv_bipush (v := (-2)) F.1 F.2.1 dX7_readsRight_187 (by decide) ?_
                  refine topK (a := (-2)) (by decide) (fun k_119 hk_119 => ?_)
                  refine tIastX (t := 29) F hK hH hS (List.mem_singleton.mp hq_116) (by decide) rfl (ixb (n := 660) hz_118.2 rfl rfl) dX7_readsRight_189 (fun G_120 eG_120 H locs hH hS => ?_)
                  have hH : TH E (tbM (mD (.inl (t, t)) (.inl (g_93, g_93)) (.inl (g_94, g_94)) (.inl un) (.inl tk) (.inl xt)) nw ws kp as (xD 660 G_120) sc) H := hH
                  have n0G_120 : gI G_120 0 = gI G_115 0 := gI_ne eG_120 (by omega) (by omega)
                  have n1G_120 : gI G_120 1 = gI G_115 1 := gI_ne eG_120 (by omega) (by omega)
                  have n2G_120 : gI G_120 2 = gI G_115 2 := gI_ne eG_120 (by omega) (by omega)
                  have n6G_120 : gI G_120 6 = gI G_115 6 := gI_ne eG_120 (by omega) (by omega)
                  have n3G_120 : gI G_120 3 = gI G_115 3 := gI_ne eG_120 (by omega) (by omega)
                  have hG_120 : okR G_120 := (okR.stM hG_115 eG_120 (by omega) (by omega) (by omega) (phiI (by omega) (by omega) (by omega) (by omega) (by omega) (by omega) (by omega) (by omega) (by omega) (by omega) (by omega) (by omega) (by omega) (by omega) (by omega) (by omega) (by omega) (by omega)) (by omega))
                  have hBG_120 := okB hG_120.1
                  have hLG_120 := hG_120.2
                  refine lv_aload_n F.1 F.2.1 dX7_readsRight_190 rfl (lv_at hl 0 rfl) ?_
                  refine tGetR (j := 36) F hK hH (tyb ha0 (all1 rfl)) rfl (all1 rfl) clX7 (by decide) wd_7_5 dX7_readsRight_191 (fun q_121 hq_121 _ => ?_)
                  refine lv_iconst (v := 1) F.1 F.2.1 dX7_readsRight_194 (by decide) ?_
                  refine topK (a := 1) (by decide) (fun k_122 hk_122 => ?_)
                  refine lv_dup2_11 F.1 F.2.1 dX7_readsRight_195 rfl rfl ?_
                  refine tIaldX F hK hH (tyb hq_121 (all1 rfl)) (ixb (n := 660) (eqb hk_122) rfl rfl) dX7_readsRight_196 (fun z_123 ez_123 => ?_)
                  have gz_123 : z_123.toInt = gI G_120 (1) := by unfold gI; rw [ez_123, show (k_122).toNatClampNeg = (1) from by show (k_122).toInt.toNat = _; omega]
                  have hz_123 : 0 ≤ z_123.toInt ∧ z_123.toInt ≤ 14 := (by have h9_ := okA.at (i := k_122) hG_120.1 (by omega); rw [show gI G_120 (k_122).toNatClampNeg = z_123.toInt from by unfold gI; rw [ez_123]] at h9_; have h8_ := phi_1 h9_ (by omega); omega)
                  refine lv_iconst (v := 1) F.1 F.2.1 dX7_readsRight_197 (by decide) ?_
                  refine topK (a := 1) (by decide) (fun k_124 hk_124 => ?_)
                  refine tAdd (lo := 1) (hi := 15) F dX7_readsRight_198 hz_123 (eqb hk_124) rfl (fun z_125 hz_125 => ?_)
                  refine tIastX (t := 29) F hK hH hS (List.mem_singleton.mp hq_121) (by decide) rfl (ixb (n := 660) (eqb hk_122) rfl rfl) dX7_readsRight_199 (fun G_126 eG_126 H locs hH hS => ?_)
                  have hH : TH E (tbM (mD (.inl (t, t)) (.inl (g_93, g_93)) (.inl (g_94, g_94)) (.inl un) (.inl tk) (.inl xt)) nw ws kp as (xD 660 G_126) sc) H := hH
                  have hG_126 : okR G_126 := (okR.inc hG_120 eG_126 (by omega) (by omega))
                  have hBG_126 := okB hG_126.1
                  have hLG_126 := hG_126.2
                  refine lv_iconst (v := 1) F.1 F.2.1 dX7_readsRight_200 (by decide) ?_
                  refine topK (a := 1) (by decide) (fun k_127 hk_127 => ?_)
                  exact txI F hS dX7_readsRight_201 (nar01 (wkb (eqb hk_127) rfl rfl)) (⟨g_93, ⟨by omega, by omega, by omega, by omega⟩, g_94, (by omega), G_126, hG_126, (wkb (eqb hk_127) rfl rfl), hH⟩)
                · skip
                  have r_99 : 0 ≤ z_92.toInt ∧ z_92.toInt ≤ 0 := by have h9_ := f_96; omega
                  refine lv_iconst (v := 0) F.1 F.2.1 dX7_readsRight_143 (by decide) ?_
                  refine topK (a := 0) (by decide) (fun k_128 hk_128 => ?_)
                  exact txI F hS dX7_readsRight_144 (nar01 (wkb (eqb hk_128) rfl rfl)) (⟨g_93, ⟨by omega, by omega, by omega, by omega⟩, g_94, (by omega), g_95, hg_95.1, (wkb (eqb hk_128) rfl rfl), hH⟩)
              refine z_eq (tgt := 135) F dX7_readsRight_116 (by decide) (fun c_129 => ?_) (fun c_129 => ?_)
              · skip
                have r_130 : 0 ≤ z_86.toInt ∧ z_86.toInt ≤ 0 := by have h9_ := f_88; omega
                exact J_135 (g_87, g_75, G_85) _ _ _ ⟨(show 0 ≤ g_87 ∧ g_87 ≤ 5000 from by omega), (show (-2147483648) ≤ g_75 ∧ g_75 ≤ 2147483647 from by omega), hG_85, hH, hS, lv_sub hl [1, 0] rfl⟩
              · skip
                have r_131 : 1 ≤ z_86.toInt ∧ z_86.toInt ≤ 1 := by have h9_ := f_88; omega
                refine lv_aload_n F.1 F.2.1 dX7_readsRight_119 rfl (lv_at hl 1 rfl) ?_
                refine lv_iload_n F.1 F.2.1 dX7_readsRight_120 rfl (lv_at hl 0 rfl) ?_
                refine lv_iconst (v := 5) F.1 F.2.1 dX7_readsRight_121 (by decide) ?_
                refine topK (a := 5) (by decide) (fun k_132 hk_132 => ?_)
                refine tAdd (lo := 83) (hi := 265) F dX7_readsRight_122 hz_16.2 (eqb hk_132) rfl (fun z_133 hz_133 => ?_)
                refine lv_iconst (v := 1) F.1 F.2.1 dX7_readsRight_123 (by decide) ?_
                refine topK (a := 1) (by decide) (fun k_134 hk_134 => ?_)
                refine lv_ldcw (own := RX7) (v := 999999) F.1 F.2.1 F.2.2.2.2.1 (F.2.2.2.2.2.2.1 _ wd_18_7) dX7_readsRight_124 ?_
                refine topK (a := 999999) (by decide) (fun k_135 hk_135 => ?_)
                refine tVi (b := a0) (As := [.int z_133, .int k_134, .int k_135]) (rest := []) F hK hN hO (c_X7_readsTo E nw ws kp as sc un tk xt t g_87 g_75 G_85 (b + 18) a0 z_133 k_134 k_135 ha0 (by omega) (by omega) (by omega) hG_85 (by omega) (by omega) (by intro y_ h1_ h2_; exact (phiI (by omega) (by omega) (by omega) (by omega) (by omega) (by omega) (by omega) (by omega) (by omega) (by omega) (by omega) (by omega) (by omega) (by omega) (by omega) (by omega) (by omega) (by omega))) (by omega)) mv_X7_readsTo wd_17_14 ⟨Nat.le_of_ble_eq_true rfl, Nat.le_of_ble_eq_true rfl⟩ ⟨Nat.le_of_ble_eq_true rfl, Nat.le_of_ble_eq_true rfl⟩ hH hS (tRecv hK hH (tyb ha0 (all1 rfl)) clX7) rfl hl.1 (Nat.le_of_ble_eq_true rfl) dX7_readsRight_127 (fun z_136 H locs hq hS => ?_)
                obtain ⟨g_137, hg_137, g_138, hg_138, g_139, hg_139, f_140, hH⟩ := hq
                have hH : TH E (tbM (mD (.inl (t, t)) (.inl (g_137, g_137)) (.inl (g_138, g_138)) (.inl un) (.inl tk) (.inl xt)) nw ws kp as (xD 660 g_139) sc) H := hH
                have hBg_139 := okB hg_139.1.1
                have hLg_139 := hg_139.1.2
                refine z_ne (tgt := 135) F dX7_readsRight_130 (by decide) (fun c_141 => ?_) (fun c_141 => ?_)
                · skip
                  have r_142 : 1 ≤ z_136.toInt ∧ z_136.toInt ≤ 1 := by have h9_ := f_140; omega
                  exact J_135 (g_137, g_138, g_139) _ _ _ ⟨(show 0 ≤ g_137 ∧ g_137 ≤ 5000 from by omega), (show (-2147483648) ≤ g_138 ∧ g_138 ≤ 2147483647 from by omega), hg_139.1, hH, hS, lv_sub hl [1, 0] rfl⟩
                · skip
                  have r_143 : 0 ≤ z_136.toInt ∧ z_136.toInt ≤ 0 := by have h9_ := f_140; omega
                  refine lv_iconst (v := 0) F.1 F.2.1 dX7_readsRight_133 (by decide) ?_
                  refine topK (a := 0) (by decide) (fun k_144 hk_144 => ?_)
                  exact txI F hS dX7_readsRight_134 (nar01 (wkb (eqb hk_144) rfl rfl)) (⟨g_137, ⟨by omega, by omega, by omega, by omega⟩, g_138, (by omega), g_139, hg_139.1, (wkb (eqb hk_144) rfl rfl), hH⟩)
            · skip
              have r_80 : 0 ≤ z_73.toInt ∧ z_73.toInt ≤ 0 := by have h9_ := f_77; omega
              refine lv_iconst (v := 0) F.1 F.2.1 dX7_readsRight_97 (by decide) ?_
              refine topK (a := 0) (by decide) (fun k_145 hk_145 => ?_)
              exact txI F hS dX7_readsRight_98 (nar01 (wkb (eqb hk_145) rfl rfl)) (⟨g_74, ⟨by omega, by omega, by omega, by omega⟩, g_75, (by omega), g_76, hg_76.1, (wkb (eqb hk_145) rfl rfl), hH⟩)
  · skip
    have r_9 : 0 ≤ z_3.toInt ∧ z_3.toInt ≤ 0 := by have h9_ := f_5; omega
    refine lv_iconst (v := 0) F.1 F.2.1 dX7_readsRight_13 (by decide) ?_
    refine topK (a := 0) (by decide) (fun k_146 hk_146 => ?_)
    exact txI F hS dX7_readsRight_14 (nar01 (wkb (eqb hk_146) rfl rfl)) (⟨g_4, ⟨by omega, by omega, by omega, by omega⟩, nu, (by omega), B, hB, (wkb (eqb hk_146) rfl rfl), hH⟩)
set_option maxHeartbeats 4000000 in
set_option maxRecDepth 100000 in
theorem c_X7_readsStore (E : Ev) (nw : TD) (ws : TD) (kp : TD) (as : TD) (sc : TD) (un : Int × Int) (tk : Int × Int) (xt : Int × Int) (t : Int) (p : Int) (nu : Int) (B : Nat → Int32) (b : Int) (a0 : Nat) (ha0 : eT E a0 ∈ [24]) (ht : 0 ≤ t ∧ t ≤ 400) (hp : 0 ≤ p ∧ p ≤ 4000) (hnu : (-2147483648) ≤ nu ∧ nu ≤ 2147483647) (hB : okR B) (hb : p ≤ b ∧ 400 ≤ b ∧ b ≤ 3000) : TcI E yX7_readsStore cX7_readsStore 2 .boolean ({ frames := 9, cells := 0, slots := 0, locals := 269 }) [.ref a0] (fun H => TH E (tbM (mD (.inl (t, t)) (.inl (p, p)) (.inl (nu, nu)) (.inl un) (.inl tk) (.inl xt)) nw ws kp as (xD 660 B) sc) H) (fun v H => ∃ p2 : Int, (0 ≤ p2 ∧ p2 ≤ 5000 ∧ p ≤ p2 ∧ p2 ≤ b + 12) ∧ ∃ nu2 : Int, ((-2147483648) ≤ nu2 ∧ nu2 ≤ 2147483647) ∧ ∃ B2 : Nat → Int32, (okR B2) ∧ (0 ≤ v.toInt ∧ v.toInt ≤ 1) ∧ TH E (tbM (mD (.inl (t, t)) (.inl (p2, p2)) (.inl (nu2, nu2)) (.inl un) (.inl tk) (.inl xt)) nw ws kp as (xD 660 B2) sc) H) := by
  refine teI (by decide) (Nat.le_of_ble_eq_true rfl) ?_
  intro p_ ev_ s mi_ below_ meth cd_ ls F hK hN hO hH hS hl
  have hH : TH E (tbM (mD (.inl (t, t)) (.inl (p, p)) (.inl (nu, nu)) (.inl un) (.inl tk) (.inl xt)) nw ws kp as (xD 660 B) sc) s.heap := hH
  have hl : lv_has ls 2 [(0, .ref a0)] := hl
  have hBB := okB hB.1
  have hLB := hB.2
  refine lv_aload_n F.1 F.2.1 dX7_readsStore_0 rfl (lv_at hl 0 rfl) ?_
  refine ldcwS F.1 F.2.1 F.2.2.2.2.1 (hO.1 25 _ rfl).1 dX7_readsStore_1 ?_
  refine lv_iconst (v := 2) F.1 F.2.1 dX7_readsStore_4 (by decide) ?_
  refine topK (a := 2) (by decide) (fun k_1 hk_1 => ?_)
  refine lv_iconst (v := 4) F.1 F.2.1 dX7_readsStore_5 (by decide) ?_
  refine topK (a := 4) (by decide) (fun k_2 hk_2 => ?_)
  refine tVi (b := a0) (As := [.ref (eX E 25), .int k_1, .int k_2]) (rest := []) F hK hN hO (c_X7_begins_2 E nw ws kp as sc un tk xt (nu, nu) t p B b a0 25 5 k_1 k_2 ha0 (strAt 25 rfl) (eqb hk_1) (eqb hk_2) (by omega) (by omega) hB (by omega)) mv_X7_begins wd_16_22 ⟨Nat.le_of_ble_eq_true rfl, Nat.le_of_ble_eq_true rfl⟩ ⟨Nat.le_of_ble_eq_true rfl, Nat.le_of_ble_eq_true rfl⟩ hH hS (tRecv hK hH (tyb ha0 (all1 rfl)) clX7) rfl hl.1 (Nat.le_of_ble_eq_true rfl) dX7_readsStore_6 (fun z_3 H locs hq hS => ?_)
  obtain ⟨g_4, hg_4, f_5, f_6, hH⟩ := hq
  have hH : TH E (tbM (mD (.inl (t, t)) (.inl (g_4, g_4)) (.inl (nu, nu)) (.inl un) (.inl tk) (.inl xt)) nw ws kp as (xD 660 B) sc) H := hH
  refine z_ne (tgt := 14) F dX7_readsStore_9 (by decide) (fun c_7 => ?_) (fun c_7 => ?_)
  · skip
    have r_8 : 1 ≤ z_3.toInt ∧ z_3.toInt ≤ 1 := by have h9_ := f_5; omega
    refine lv_sipush (v := 260) F.1 F.2.1 dX7_readsStore_14 (by decide) ?_
    refine topK (a := 260) (by decide) (fun k_10 hk_10 => ?_)
    refine lv_bipush (v := 7) F.1 F.2.1 dX7_readsStore_17 (by decide) ?_
    refine topK (a := 7) (by decide) (fun k_11 hk_11 => ?_)
    refine lv_aload_n F.1 F.2.1 dX7_readsStore_19 rfl (lv_at hl 0 rfl) ?_
    refine tGetR (j := 36) F hK hH (tyb ha0 (all1 rfl)) rfl (all1 rfl) clX7 (by decide) wd_7_5 dX7_readsStore_20 (fun q_12 hq_12 _ => ?_)
    refine lv_iconst (v := 2) F.1 F.2.1 dX7_readsStore_23 (by decide) ?_
    refine topK (a := 2) (by decide) (fun k_13 hk_13 => ?_)
    refine tIaldX F hK hH (tyb hq_12 (all1 rfl)) (ixb (n := 660) (eqb hk_13) rfl rfl) dX7_readsStore_24 (fun z_14 ez_14 => ?_)
    have gz_14 : z_14.toInt = gI B (2) := by unfold gI; rw [ez_14, show (k_13).toNatClampNeg = (2) from by show (k_13).toInt.toNat = _; omega]
    have hz_14 : 0 ≤ z_14.toInt ∧ z_14.toInt ≤ 4 := (by have h9_ := okA.at (i := k_13) hB.1 (by omega); rw [show gI B (k_13).toNatClampNeg = z_14.toInt from by unfold gI; rw [ez_14]] at h9_; have h8_ := phi_2 h9_ (by omega); omega)
    refine tMul (lo := 0) (hi := 28) F dX7_readsStore_25 (eqb hk_11) hz_14 rfl (fun z_15 hz_15 => ?_)
    have mz_15 : z_15.toInt = 7 * z_14.toInt := by rw [hz_15.1, hk_11]
    refine tAdd (lo := 260) (hi := 288) F dX7_readsStore_26 (eqb hk_10) hz_15.2 rfl (fun z_16 hz_16 => ?_)
    refine lv_istore_n (lv' := [(1, .int z_16), (0, .ref a0)]) F.1 F.2.1 dX7_readsStore_27 rfl hl (by decide) rfl (fun ls hl => ?_)
    refine lv_aload_n F.1 F.2.1 dX7_readsStore_28 rfl (lv_at hl 1 rfl) ?_
    refine lv_iload_n F.1 F.2.1 dX7_readsStore_29 rfl (lv_at hl 0 rfl) ?_
    refine lv_iconst (v := 0) F.1 F.2.1 dX7_readsStore_30 (by decide) ?_
    refine topK (a := 0) (by decide) (fun k_17 hk_17 => ?_)
    refine tAdd (lo := 260) (hi := 288) F dX7_readsStore_31 hz_16.2 (eqb hk_17) rfl (fun z_18 hz_18 => ?_)
    refine tVi (b := a0) (As := [.int z_18]) (rest := []) F hK hN hO (c_X7_readsReachOf E nw ws kp as sc un tk xt t g_4 nu B (b + 6) a0 z_18 ha0 (by omega) (by omega) (by omega) hB (by omega) (by omega) (by intro y_ h1_ h2_; exact (phiI (by omega) (by omega) (by omega) (by omega) (by omega) (by omega) (by omega) (by omega) (by omega) (by omega) (by omega) (by omega) (by omega) (by omega) (by omega) (by omega) (by omega) (by omega))) (by omega)) mv_X7_readsReachOf wd_17_10 ⟨Nat.le_of_ble_eq_true rfl, Nat.le_of_ble_eq_true rfl⟩ ⟨Nat.le_of_ble_eq_true rfl, Nat.le_of_ble_eq_true rfl⟩ hH hS (tRecv hK hH (tyb ha0 (all1 rfl)) clX7) rfl hl.1 (Nat.le_of_ble_eq_true rfl) dX7_readsStore_32 (fun z_19 H locs hq hS => ?_)
    obtain ⟨g_20, hg_20, g_21, hg_21, g_22, hg_22, f_23, f_24, hH⟩ := hq
    have hH : TH E (tbM (mD (.inl (t, t)) (.inl (g_20, g_20)) (.inl (g_21, g_21)) (.inl un) (.inl tk) (.inl xt)) nw ws kp as (xD 660 g_22) sc) H := hH
    have hBg_22 := okB hg_22.1.1
    have hLg_22 := hg_22.1.2
    refine z_eq (tgt := 76) F dX7_readsStore_35 (by decide) (fun c_25 => ?_) (fun c_25 => ?_)
    · skip
      have r_26 : 0 ≤ z_19.toInt ∧ z_19.toInt ≤ 0 := by have h9_ := f_23; omega
      refine lv_iconst (v := 0) F.1 F.2.1 dX7_readsStore_76 (by decide) ?_
      refine topK (a := 0) (by decide) (fun k_28 hk_28 => ?_)
      exact txI F hS dX7_readsStore_77 (nar01 (wkb (eqb hk_28) rfl rfl)) (⟨g_20, ⟨by omega, by omega, by omega, by omega⟩, g_21, (by omega), g_22, hg_22.1, (wkb (eqb hk_28) rfl rfl), hH⟩)
    · skip
      have r_27 : 1 ≤ z_19.toInt ∧ z_19.toInt ≤ 1 := by have h9_ := f_23; omega
      refine lv_aload_n F.1 F.2.1 dX7_readsStore_38 rfl (lv_at hl 1 rfl) ?_
      refine lv_iload_n F.1 F.2.1 dX7_readsStore_39 rfl (lv_at hl 0 rfl) ?_
      refine lv_iconst (v := 1) F.1 F.2.1 dX7_readsStore_40 (by decide) ?_
      refine topK (a := 1) (by decide) (fun k_29 hk_29 => ?_)
      refine tAdd (lo := 261) (hi := 289) F dX7_readsStore_41 hz_16.2 (eqb hk_29) rfl (fun z_30 hz_30 => ?_)
      refine lv_iconst (v := 1) F.1 F.2.1 dX7_readsStore_42 (by decide) ?_
      refine topK (a := 1) (by decide) (fun k_31 hk_31 => ?_)
      refine lv_ldcw (own := RX7) (v := 999999) F.1 F.2.1 F.2.2.2.2.1 (F.2.2.2.2.2.2.1 _ wd_18_7) dX7_readsStore_43 ?_
      refine topK (a := 999999) (by decide) (fun k_32 hk_32 => ?_)
      refine tVi (b := a0) (As := [.int z_30, .int k_31, .int k_32]) (rest := []) F hK hN hO (c_X7_readsTo E nw ws kp as sc un tk xt t g_20 g_21 g_22 (b + 6) a0 z_30 k_31 k_32 ha0 (by omega) (by omega) (by omega) hg_22.1 (by omega) (by omega) (by intro y_ h1_ h2_; exact (phiI (by omega) (by omega) (by omega) (by omega) (by omega) (by omega) (by omega) (by omega) (by omega) (by omega) (by omega) (by omega) (by omega) (by omega) (by omega) (by omega) (by omega) (by omega))) (by omega)) mv_X7_readsTo wd_17_14 ⟨Nat.le_of_ble_eq_true rfl, Nat.le_of_ble_eq_true rfl⟩ ⟨Nat.le_of_ble_eq_true rfl, Nat.le_of_ble_eq_true rfl⟩ hH hS (tRecv hK hH (tyb ha0 (all1 rfl)) clX7) rfl hl.1 (Nat.le_of_ble_eq_true rfl) dX7_readsStore_46 (fun z_33 H locs hq hS => ?_)
      obtain ⟨g_34, hg_34, g_35, hg_35, g_36, hg_36, f_37, hH⟩ := hq
      have hH : TH E (tbM (mD (.inl (t, t)) (.inl (g_34, g_34)) (.inl (g_35, g_35)) (.inl un) (.inl tk) (.inl xt)) nw ws kp as (xD 660 g_36) sc) H := hH
      have hBg_36 := okB hg_36.1.1
      have hLg_36 := hg_36.1.2
      refine z_eq (tgt := 76) F dX7_readsStore_49 (by decide) (fun c_38 => ?_) (fun c_38 => ?_)
      · skip
        have r_39 : 0 ≤ z_33.toInt ∧ z_33.toInt ≤ 0 := by have h9_ := f_37; omega
        refine lv_iconst (v := 0) F.1 F.2.1 dX7_readsStore_76 (by decide) ?_
        refine topK (a := 0) (by decide) (fun k_41 hk_41 => ?_)
        exact txI F hS dX7_readsStore_77 (nar01 (wkb (eqb hk_41) rfl rfl)) (⟨g_34, ⟨by omega, by omega, by omega, by omega⟩, g_35, (by omega), g_36, hg_36.1, (wkb (eqb hk_41) rfl rfl), hH⟩)
      · skip
        have r_40 : 1 ≤ z_33.toInt ∧ z_33.toInt ≤ 1 := by have h9_ := f_37; omega
        refine lv_aload_n F.1 F.2.1 dX7_readsStore_52 rfl (lv_at hl 1 rfl) ?_
        refine lv_iload_n F.1 F.2.1 dX7_readsStore_53 rfl (lv_at hl 0 rfl) ?_
        refine lv_iconst (v := 2) F.1 F.2.1 dX7_readsStore_54 (by decide) ?_
        refine topK (a := 2) (by decide) (fun k_42 hk_42 => ?_)
        refine tAdd (lo := 262) (hi := 290) F dX7_readsStore_55 hz_16.2 (eqb hk_42) rfl (fun z_43 hz_43 => ?_)
        refine lv_iconst (v := 1) F.1 F.2.1 dX7_readsStore_56 (by decide) ?_
        refine topK (a := 1) (by decide) (fun k_44 hk_44 => ?_)
        refine lv_sipush (v := 9999) F.1 F.2.1 dX7_readsStore_57 (by decide) ?_
        refine topK (a := 9999) (by decide) (fun k_45 hk_45 => ?_)
        refine tVi (b := a0) (As := [.int z_43, .int k_44, .int k_45]) (rest := []) F hK hN hO (c_X7_readsTo E nw ws kp as sc un tk xt t g_34 g_35 g_36 (b + 6) a0 z_43 k_44 k_45 ha0 (by omega) (by omega) (by omega) hg_36.1 (by omega) (by omega) (by intro y_ h1_ h2_; exact (phiI (by omega) (by omega) (by omega) (by omega) (by omega) (by omega) (by omega) (by omega) (by omega) (by omega) (by omega) (by omega) (by omega) (by omega) (by omega) (by omega) (by omega) (by omega))) (by omega)) mv_X7_readsTo wd_17_14 ⟨Nat.le_of_ble_eq_true rfl, Nat.le_of_ble_eq_true rfl⟩ ⟨Nat.le_of_ble_eq_true rfl, Nat.le_of_ble_eq_true rfl⟩ hH hS (tRecv hK hH (tyb ha0 (all1 rfl)) clX7) rfl hl.1 (Nat.le_of_ble_eq_true rfl) dX7_readsStore_60 (fun z_46 H locs hq hS => ?_)
        obtain ⟨g_47, hg_47, g_48, hg_48, g_49, hg_49, f_50, hH⟩ := hq
        have hH : TH E (tbM (mD (.inl (t, t)) (.inl (g_47, g_47)) (.inl (g_48, g_48)) (.inl un) (.inl tk) (.inl xt)) nw ws kp as (xD 660 g_49) sc) H := hH
        have hBg_49 := okB hg_49.1.1
        have hLg_49 := hg_49.1.2
        refine z_eq (tgt := 76) F dX7_readsStore_63 (by decide) (fun c_51 => ?_) (fun c_51 => ?_)
        · skip
          have r_52 : 0 ≤ z_46.toInt ∧ z_46.toInt ≤ 0 := by have h9_ := f_50; omega
          refine lv_iconst (v := 0) F.1 F.2.1 dX7_readsStore_76 (by decide) ?_
          refine topK (a := 0) (by decide) (fun k_54 hk_54 => ?_)
          exact txI F hS dX7_readsStore_77 (nar01 (wkb (eqb hk_54) rfl rfl)) (⟨g_47, ⟨by omega, by omega, by omega, by omega⟩, g_48, (by omega), g_49, hg_49.1, (wkb (eqb hk_54) rfl rfl), hH⟩)
        · skip
          have r_53 : 1 ≤ z_46.toInt ∧ z_46.toInt ≤ 1 := by have h9_ := f_50; omega
          refine lv_aload_n F.1 F.2.1 dX7_readsStore_66 rfl (lv_at hl 1 rfl) ?_
          refine lv_iload_n F.1 F.2.1 dX7_readsStore_67 rfl (lv_at hl 0 rfl) ?_
          refine lv_iconst (v := 3) F.1 F.2.1 dX7_readsStore_68 (by decide) ?_
          refine topK (a := 3) (by decide) (fun k_55 hk_55 => ?_)
          refine tAdd (lo := 263) (hi := 291) F dX7_readsStore_69 hz_16.2 (eqb hk_55) rfl (fun z_56 hz_56 => ?_)
          refine tVi (b := a0) (As := [.int z_56]) (rest := []) F hK hN hO (c_X7_readsAge E nw ws kp as sc un tk xt t g_47 g_48 g_49 (b + 6) a0 z_56 ha0 (by omega) (by omega) (by omega) (by omega) hg_49.1 (by omega) (by omega)) mv_X7_readsAge wd_18_8 ⟨Nat.le_of_ble_eq_true rfl, Nat.le_of_ble_eq_true rfl⟩ ⟨Nat.le_of_ble_eq_true rfl, Nat.le_of_ble_eq_true rfl⟩ hH hS (tRecv hK hH (tyb ha0 (all1 rfl)) clX7) rfl hl.1 (Nat.le_of_ble_eq_true rfl) dX7_readsStore_70 (fun z_57 H locs hq hS => ?_)
          obtain ⟨g_58, hg_58, g_59, hg_59, g_60, hg_60, f_61, hH⟩ := hq
          have hH : TH E (tbM (mD (.inl (t, t)) (.inl (g_58, g_58)) (.inl (g_59, g_59)) (.inl un) (.inl tk) (.inl xt)) nw ws kp as (xD 660 g_60) sc) H := hH
          have hBg_60 := okB hg_60.1.1
          have hLg_60 := hg_60.1.2
          refine z_ne (tgt := 78) F dX7_readsStore_73 (by decide) (fun c_62 => ?_) (fun c_62 => ?_)
          · skip
            have r_63 : 1 ≤ z_57.toInt ∧ z_57.toInt ≤ 1 := by have h9_ := f_61; omega
            refine lv_aload_n F.1 F.2.1 dX7_readsStore_78 rfl (lv_at hl 1 rfl) ?_
            refine tGetR (j := 36) F hK hH (tyb ha0 (all1 rfl)) rfl (all1 rfl) clX7 (by decide) wd_7_5 dX7_readsStore_79 (fun q_65 hq_65 _ => ?_)
            refine lv_iload_n F.1 F.2.1 dX7_readsStore_82 rfl (lv_at hl 0 rfl) ?_
            refine lv_iconst (v := 5) F.1 F.2.1 dX7_readsStore_83 (by decide) ?_
            refine topK (a := 5) (by decide) (fun k_66 hk_66 => ?_)
            refine tAdd (lo := 265) (hi := 293) F dX7_readsStore_84 hz_16.2 (eqb hk_66) rfl (fun z_67 hz_67 => ?_)
            refine lv_bipush (v := (-2)) F.1 F.2.1 dX7_readsStore_85 (by decide) ?_
            refine topK (a := (-2)) (by decide) (fun k_68 hk_68 => ?_)
            refine tIastX (t := 29) F hK hH hS (List.mem_singleton.mp hq_65) (by decide) rfl (ixb (n := 660) hz_67.2 rfl rfl) dX7_readsStore_87 (fun G_69 eG_69 H locs hH hS => ?_)
            have hH : TH E (tbM (mD (.inl (t, t)) (.inl (g_58, g_58)) (.inl (g_59, g_59)) (.inl un) (.inl tk) (.inl xt)) nw ws kp as (xD 660 G_69) sc) H := hH
            have n0G_69 : gI G_69 0 = gI g_60 0 := gI_ne eG_69 (by omega) (by omega)
            have n1G_69 : gI G_69 1 = gI g_60 1 := gI_ne eG_69 (by omega) (by omega)
            have n2G_69 : gI G_69 2 = gI g_60 2 := gI_ne eG_69 (by omega) (by omega)
            have n6G_69 : gI G_69 6 = gI g_60 6 := gI_ne eG_69 (by omega) (by omega)
            have n3G_69 : gI G_69 3 = gI g_60 3 := gI_ne eG_69 (by omega) (by omega)
            have hG_69 : okR G_69 := (okR.stM hg_60.1 eG_69 (by omega) (by omega) (by omega) (phiI (by omega) (by omega) (by omega) (by omega) (by omega) (by omega) (by omega) (by omega) (by omega) (by omega) (by omega) (by omega) (by omega) (by omega) (by omega) (by omega) (by omega) (by omega)) (by omega))
            have hBG_69 := okB hG_69.1
            have hLG_69 := hG_69.2
            refine lv_aload_n F.1 F.2.1 dX7_readsStore_88 rfl (lv_at hl 1 rfl) ?_
            refine tGetR (j := 36) F hK hH (tyb ha0 (all1 rfl)) rfl (all1 rfl) clX7 (by decide) wd_7_5 dX7_readsStore_89 (fun q_70 hq_70 _ => ?_)
            refine lv_iconst (v := 2) F.1 F.2.1 dX7_readsStore_92 (by decide) ?_
            refine topK (a := 2) (by decide) (fun k_71 hk_71 => ?_)
            refine lv_dup2_11 F.1 F.2.1 dX7_readsStore_93 rfl rfl ?_
            refine tIaldX F hK hH (tyb hq_70 (all1 rfl)) (ixb (n := 660) (eqb hk_71) rfl rfl) dX7_readsStore_94 (fun z_72 ez_72 => ?_)
            have gz_72 : z_72.toInt = gI G_69 (2) := by unfold gI; rw [ez_72, show (k_71).toNatClampNeg = (2) from by show (k_71).toInt.toNat = _; omega]
            have hz_72 : 0 ≤ z_72.toInt ∧ z_72.toInt ≤ 4 := (by have h9_ := okA.at (i := k_71) hG_69.1 (by omega); rw [show gI G_69 (k_71).toNatClampNeg = z_72.toInt from by unfold gI; rw [ez_72]] at h9_; have h8_ := phi_2 h9_ (by omega); omega)
            refine lv_iconst (v := 1) F.1 F.2.1 dX7_readsStore_95 (by decide) ?_
            refine topK (a := 1) (by decide) (fun k_73 hk_73 => ?_)
            refine tAdd (lo := 1) (hi := 5) F dX7_readsStore_96 hz_72 (eqb hk_73) rfl (fun z_74 hz_74 => ?_)
            refine tIastX (t := 29) F hK hH hS (List.mem_singleton.mp hq_70) (by decide) rfl (ixb (n := 660) (eqb hk_71) rfl rfl) dX7_readsStore_97 (fun G_75 eG_75 H locs hH hS => ?_)
            have hH : TH E (tbM (mD (.inl (t, t)) (.inl (g_58, g_58)) (.inl (g_59, g_59)) (.inl un) (.inl tk) (.inl xt)) nw ws kp as (xD 660 G_75) sc) H := hH
            have hG_75 : okR G_75 := (okR.inc hG_69 eG_75 (by omega) (by omega))
            have hBG_75 := okB hG_75.1
            have hLG_75 := hG_75.2
            refine lv_iconst (v := 1) F.1 F.2.1 dX7_readsStore_98 (by decide) ?_
            refine topK (a := 1) (by decide) (fun k_76 hk_76 => ?_)
            exact txI F hS dX7_readsStore_99 (nar01 (wkb (eqb hk_76) rfl rfl)) (⟨g_58, ⟨by omega, by omega, by omega, by omega⟩, g_59, (by omega), G_75, hG_75, (wkb (eqb hk_76) rfl rfl), hH⟩)
          · skip
            have r_64 : 0 ≤ z_57.toInt ∧ z_57.toInt ≤ 0 := by have h9_ := f_61; omega
            refine lv_iconst (v := 0) F.1 F.2.1 dX7_readsStore_76 (by decide) ?_
            refine topK (a := 0) (by decide) (fun k_77 hk_77 => ?_)
            exact txI F hS dX7_readsStore_77 (nar01 (wkb (eqb hk_77) rfl rfl)) (⟨g_58, ⟨by omega, by omega, by omega, by omega⟩, g_59, (by omega), g_60, hg_60.1, (wkb (eqb hk_77) rfl rfl), hH⟩)
  · skip
    have r_9 : 0 ≤ z_3.toInt ∧ z_3.toInt ≤ 0 := by have h9_ := f_5; omega
    refine lv_iconst (v := 0) F.1 F.2.1 dX7_readsStore_12 (by decide) ?_
    refine topK (a := 0) (by decide) (fun k_78 hk_78 => ?_)
    exact txI F hS dX7_readsStore_13 (nar01 (wkb (eqb hk_78) rfl rfl)) (⟨g_4, ⟨by omega, by omega, by omega, by omega⟩, nu, (by omega), B, hB, (wkb (eqb hk_78) rfl rfl), hH⟩)
set_option maxHeartbeats 4000000 in
set_option maxRecDepth 100000 in
theorem c_X7_readsWet (E : Ev) (nw : TD) (ws : TD) (kp : TD) (as : TD) (sc : TD) (un : Int × Int) (tk : Int × Int) (xt : Int × Int) (t : Int) (p : Int) (nu : Int) (B : Nat → Int32) (b : Int) (a0 : Nat) (ha0 : eT E a0 ∈ [24]) (ht : 0 ≤ t ∧ t ≤ 400) (hp : 0 ≤ p ∧ p ≤ 4000) (hnu : (-2147483648) ≤ nu ∧ nu ≤ 2147483647) (hB : okR B) (hb : p ≤ b ∧ 400 ≤ b ∧ b ≤ 3000) : TcI E yX7_readsWet cX7_readsWet 1 .boolean ({ frames := 5, cells := 0, slots := 0, locals := 126 }) [.ref a0] (fun H => TH E (tbM (mD (.inl (t, t)) (.inl (p, p)) (.inl (nu, nu)) (.inl un) (.inl tk) (.inl xt)) nw ws kp as (xD 660 B) sc) H) (fun v H => ∃ p2 : Int, (0 ≤ p2 ∧ p2 ≤ 5000 ∧ p ≤ p2 ∧ p2 ≤ b + 3) ∧ ∃ nu2 : Int, ((-2147483648) ≤ nu2 ∧ nu2 ≤ 2147483647) ∧ ∃ B2 : Nat → Int32, (okR B2) ∧ (0 ≤ v.toInt ∧ v.toInt ≤ 1) ∧ TH E (tbM (mD (.inl (t, t)) (.inl (p2, p2)) (.inl (nu2, nu2)) (.inl un) (.inl tk) (.inl xt)) nw ws kp as (xD 660 B2) sc) H) := by
  refine teI (by decide) (Nat.le_of_ble_eq_true rfl) ?_
  intro p_ ev_ s mi_ below_ meth cd_ ls F hK hN hO hH hS hl
  have hH : TH E (tbM (mD (.inl (t, t)) (.inl (p, p)) (.inl (nu, nu)) (.inl un) (.inl tk) (.inl xt)) nw ws kp as (xD 660 B) sc) s.heap := hH
  have hl : lv_has ls 1 [(0, .ref a0)] := hl
  have hBB := okB hB.1
  have hLB := hB.2
  refine lv_aload_n F.1 F.2.1 dX7_readsWet_0 rfl (lv_at hl 0 rfl) ?_
  refine tGetI (j := 35) F hK hH (tyb ha0 (all1 rfl)) rfl clX7 (by decide) wd_15_20 dX7_readsWet_1 (fun z_1 hz_1 => ?_)
  refine z_eq (tgt := 17) F dX7_readsWet_4 (by decide) (fun c_2 => ?_) (fun c_2 => ?_)
  · skip
    have r_3 : 0 ≤ z_1.toInt ∧ z_1.toInt ≤ 0 := by have h9_ := hz_1; omega
    refine lv_aload_n F.1 F.2.1 dX7_readsWet_17 rfl (lv_at hl 0 rfl) ?_
    refine lv_iconst (v := 1) F.1 F.2.1 dX7_readsWet_18 (by decide) ?_
    refine topK (a := 1) (by decide) (fun k_5 hk_5 => ?_)
    refine tPut (j := 35) F hK hH hS (tyb ha0 (all1 rfl)) rfl (fdI (wkb (eqb hk_5) rfl rfl)) clX7 (by decide) wd_15_20 rfl rfl (nar01 (wkb (eqb hk_5) rfl rfl)) (fit01 (wkb (eqb hk_5) rfl rfl)) dX7_readsWet_19 (fun H locs hH hS => ?_)
    refine lv_aload_n F.1 F.2.1 dX7_readsWet_22 rfl (lv_at hl 0 rfl) ?_
    refine lv_dup F.1 F.2.1 dX7_readsWet_23 rfl ?_
    refine tGetI (j := 31) F hK hH (tyb ha0 (all1 rfl)) rfl clX7 (by decide) wd_15_21 dX7_readsWet_24 (fun z_6 hz_6 => ?_)
    have ez_6 : 0 ≤ z_6.toInt ∧ z_6.toInt ≤ 4000 := by omega
    refine lv_iconst (v := 3) F.1 F.2.1 dX7_readsWet_27 (by decide) ?_
    refine topK (a := 3) (by decide) (fun k_7 hk_7 => ?_)
    refine tAdd (lo := 3) (hi := 4003) F dX7_readsWet_28 ez_6 (eqb hk_7) rfl (fun z_8 hz_8 => ?_)
    obtain ⟨g_9, hg_9⟩ : ∃ y : Int, z_8.toInt = y := ⟨_, rfl⟩
    have bg_9 : 3 ≤ g_9 ∧ g_9 ≤ 4003 := by rw [← hg_9]; exact hz_8.2
    refine tPutG (j := 31) (t := 24) (fd := (.inl (g_9, g_9))) F hK hH hS (List.mem_singleton.mp ha0) (by decide) rfl rfl (fdI (by omega)) (TB1 := (tbM (mD (.inl (t, t)) (.inl (g_9, g_9)) (.inl (nu, nu)) (.inl un) (.inl tk) (.inl xt)) nw ws kp as (xD 660 B) sc)) rfl clX7 (by decide) wd_15_21 rfl rfl rfl rfl dX7_readsWet_29 (fun H locs hH hS => ?_)
    refine lv_aload_n F.1 F.2.1 dX7_readsWet_32 rfl (lv_at hl 0 rfl) ?_
    refine lv_iconst (v := 4) F.1 F.2.1 dX7_readsWet_33 (by decide) ?_
    refine topK (a := 4) (by decide) (fun k_10 hk_10 => ?_)
    refine lv_iconst (v := 0) F.1 F.2.1 dX7_readsWet_34 (by decide) ?_
    refine topK (a := 0) (by decide) (fun k_11 hk_11 => ?_)
    refine lv_sipush (v := 400) F.1 F.2.1 dX7_readsWet_35 (by decide) ?_
    refine topK (a := 400) (by decide) (fun k_12 hk_12 => ?_)
    refine tVi (b := a0) (As := [.int k_10, .int k_11, .int k_12]) (rest := []) F hK hN hO (c_X7_readsTo E nw ws kp as sc un tk xt t g_9 nu B (b + 3) a0 k_10 k_11 k_12 ha0 (by omega) (by omega) (by omega) hB (by omega) (by omega) (by intro y_ h1_ h2_; exact (phiI (by omega) (by omega) (by omega) (by omega) (by omega) (by omega) (by omega) (by omega) (by omega) (by omega) (by omega) (by omega) (by omega) (by omega) (by omega) (by omega) (by omega) (by omega))) (by omega)) mv_X7_readsTo wd_17_14 ⟨Nat.le_of_ble_eq_true rfl, Nat.le_of_ble_eq_true rfl⟩ ⟨Nat.le_of_ble_eq_true rfl, Nat.le_of_ble_eq_true rfl⟩ hH hS (tRecv hK hH (tyb ha0 (all1 rfl)) clX7) rfl hl.1 (Nat.le_of_ble_eq_true rfl) dX7_readsWet_38 (fun z_13 H locs hq hS => ?_)
    obtain ⟨g_14, hg_14, g_15, hg_15, g_16, hg_16, f_17, hH⟩ := hq
    have hH : TH E (tbM (mD (.inl (t, t)) (.inl (g_14, g_14)) (.inl (g_15, g_15)) (.inl un) (.inl tk) (.inl xt)) nw ws kp as (xD 660 g_16) sc) H := hH
    have hBg_16 := okB hg_16.1.1
    have hLg_16 := hg_16.1.2
    exact txI F hS dX7_readsWet_41 (nar01 f_17) (⟨g_14, ⟨by omega, by omega, by omega, by omega⟩, g_15, (by omega), g_16, hg_16.1, f_17, hH⟩)
  · skip
    have r_4 : 1 ≤ z_1.toInt ∧ z_1.toInt ≤ 1 := by have h9_ := hz_1; omega
    refine lv_aload_n F.1 F.2.1 dX7_readsWet_7 rfl (lv_at hl 0 rfl) ?_
    refine lv_iconst (v := 3) F.1 F.2.1 dX7_readsWet_8 (by decide) ?_
    refine topK (a := 3) (by decide) (fun k_18 hk_18 => ?_)
    refine lv_aload_n F.1 F.2.1 dX7_readsWet_9 rfl (lv_at hl 0 rfl) ?_
    refine tGetI (j := 31) F hK hH (tyb ha0 (all1 rfl)) rfl clX7 (by decide) wd_15_21 dX7_readsWet_10 (fun z_19 hz_19 => ?_)
    have ez_19 : 0 ≤ z_19.toInt ∧ z_19.toInt ≤ 4000 := by omega
    refine tVi (b := a0) (As := [.int k_18, .int z_19]) (rest := []) F hK hN hO (c_X7_fails E nw ws kp as (xD 660 B) sc un tk xt (t, t) (p, p) (nu, nu) a0 k_18 z_19 ha0) mv_X7_fails wd_17_2 ⟨Nat.le_of_ble_eq_true rfl, Nat.le_of_ble_eq_true rfl⟩ ⟨Nat.le_of_ble_eq_true rfl, Nat.le_of_ble_eq_true rfl⟩ hH hS (tRecv hK hH (tyb ha0 (all1 rfl)) clX7) rfl hl.1 (Nat.le_of_ble_eq_true rfl) dX7_readsWet_13 (fun z_20 H locs hq hS => ?_)
    obtain ⟨f_21, hH⟩ := hq
    have hH : TH E (tbM (mD (.inl (t, t)) (.inl (p, p)) (.inl (nu, nu)) (.inl un) (.inl tk) (.inl xt)) nw ws kp as (xD 660 B) sc) H := hH
    exact txI F hS dX7_readsWet_16 (nar01 (wkb f_21 rfl rfl)) (⟨p, ⟨by omega, by omega, by omega, by omega⟩, nu, (by omega), B, hB, (wkb f_21 rfl rfl), hH⟩)
set_option maxHeartbeats 4000000 in
set_option maxRecDepth 100000 in
theorem c_X7_readsPart (E : Ev) (nw : TD) (ws : TD) (kp : TD) (as : TD) (sc : TD) (un : Int × Int) (tk : Int × Int) (xt : Int × Int) (t : Int) (p : Int) (nu : Int) (B : Nat → Int32) (b : Int) (a0 : Nat) (ha0 : eT E a0 ∈ [24]) (ht : 0 ≤ t ∧ t ≤ 400) (hp : 0 ≤ p ∧ p ≤ 4000) (hnu : (-2147483648) ≤ nu ∧ nu ≤ 2147483647) (hB : okR B) (hb : p ≤ b ∧ 400 ≤ b ∧ b ≤ 2000) : TcI E yX7_readsPart cX7_readsPart 1 .boolean ({ frames := 10, cells := 0, slots := 0, locals := 290 }) [.ref a0] (fun H => TH E (tbM (mD (.inl (t, t)) (.inl (p, p)) (.inl (nu, nu)) (.inl un) (.inl tk) (.inl xt)) nw ws kp as (xD 660 B) sc) H) (fun v H => ∃ p2 : Int, (0 ≤ p2 ∧ p2 ≤ 5000 ∧ p ≤ p2 ∧ p2 ≤ b + 24) ∧ ∃ nu2 : Int, ((-2147483648) ≤ nu2 ∧ nu2 ≤ 2147483647) ∧ ∃ B2 : Nat → Int32, (okR B2) ∧ (0 ≤ v.toInt ∧ v.toInt ≤ 1) ∧ TH E (tbM (mD (.inl (t, t)) (.inl (p2, p2)) (.inl (nu2, nu2)) (.inl un) (.inl tk) (.inl xt)) nw ws kp as (xD 660 B2) sc) H) := by
  refine teI (by decide) (Nat.le_of_ble_eq_true rfl) ?_
  intro p_ ev_ s mi_ below_ meth cd_ ls F hK hN hO hH hS hl
  have hH : TH E (tbM (mD (.inl (t, t)) (.inl (p, p)) (.inl (nu, nu)) (.inl un) (.inl tk) (.inl xt)) nw ws kp as (xD 660 B) sc) s.heap := hH
  have hl : lv_has ls 1 [(0, .ref a0)] := hl
  have hBB := okB hB.1
  have hLB := hB.2
  refine lv_aload_n F.1 F.2.1 dX7_readsPart_0 rfl (lv_at hl 0 rfl) ?_
  refine ldcwS F.1 F.2.1 F.2.2.2.2.1 (hO.1 18 _ rfl).1 dX7_readsPart_1 ?_
  refine tVi (b := a0) (As := [.ref (eX E 18)]) (rest := []) F hK hN hO (c_X7_isWord E nw ws kp as (xD 660 B) sc un tk xt (nu, nu) t p b a0 18 5 ha0 (strAt 18 rfl) (by omega) (by omega) (by omega)) mv_X7_isWord wd_16_10 ⟨Nat.le_of_ble_eq_true rfl, Nat.le_of_ble_eq_true rfl⟩ ⟨Nat.le_of_ble_eq_true rfl, Nat.le_of_ble_eq_true rfl⟩ hH hS (tRecv hK hH (tyb ha0 (all1 rfl)) clX7) rfl hl.1 (Nat.le_of_ble_eq_true rfl) dX7_readsPart_4 (fun z_1 H locs hq hS => ?_)
  obtain ⟨g_2, hg_2, f_3, hH⟩ := hq
  have hH : TH E (tbM (mD (.inl (t, t)) (.inl (g_2, g_2)) (.inl (nu, nu)) (.inl un) (.inl tk) (.inl xt)) nw ws kp as (xD 660 B) sc) H := hH
  refine z_eq (tgt := 15) F dX7_readsPart_7 (by decide) (fun c_4 => ?_) (fun c_4 => ?_)
  · skip
    have r_5 : 0 ≤ z_1.toInt ∧ z_1.toInt ≤ 0 := by have h9_ := f_3; omega
    refine lv_aload_n F.1 F.2.1 dX7_readsPart_15 rfl (lv_at hl 0 rfl) ?_
    refine ldcwS F.1 F.2.1 F.2.2.2.2.1 (hO.1 21 _ rfl).1 dX7_readsPart_16 ?_
    refine tVi (b := a0) (As := [.ref (eX E 21)]) (rest := []) F hK hN hO (c_X7_isWord E nw ws kp as (xD 660 B) sc un tk xt (nu, nu) t g_2 b a0 21 5 ha0 (strAt 21 rfl) (by omega) (by omega) (by omega)) mv_X7_isWord wd_16_10 ⟨Nat.le_of_ble_eq_true rfl, Nat.le_of_ble_eq_true rfl⟩ ⟨Nat.le_of_ble_eq_true rfl, Nat.le_of_ble_eq_true rfl⟩ hH hS (tRecv hK hH (tyb ha0 (all1 rfl)) clX7) rfl hl.1 (Nat.le_of_ble_eq_true rfl) dX7_readsPart_19 (fun z_7 H locs hq hS => ?_)
    obtain ⟨g_8, hg_8, f_9, hH⟩ := hq
    have hH : TH E (tbM (mD (.inl (t, t)) (.inl (g_8, g_8)) (.inl (nu, nu)) (.inl un) (.inl tk) (.inl xt)) nw ws kp as (xD 660 B) sc) H := hH
    refine z_eq (tgt := 30) F dX7_readsPart_22 (by decide) (fun c_10 => ?_) (fun c_10 => ?_)
    · skip
      have r_11 : 0 ≤ z_7.toInt ∧ z_7.toInt ≤ 0 := by have h9_ := f_9; omega
      refine lv_aload_n F.1 F.2.1 dX7_readsPart_30 rfl (lv_at hl 0 rfl) ?_
      refine ldcwS F.1 F.2.1 F.2.2.2.2.1 (hO.1 25 _ rfl).1 dX7_readsPart_31 ?_
      refine tVi (b := a0) (As := [.ref (eX E 25)]) (rest := []) F hK hN hO (c_X7_isWord E nw ws kp as (xD 660 B) sc un tk xt (nu, nu) t g_8 b a0 25 5 ha0 (strAt 25 rfl) (by omega) (by omega) (by omega)) mv_X7_isWord wd_16_10 ⟨Nat.le_of_ble_eq_true rfl, Nat.le_of_ble_eq_true rfl⟩ ⟨Nat.le_of_ble_eq_true rfl, Nat.le_of_ble_eq_true rfl⟩ hH hS (tRecv hK hH (tyb ha0 (all1 rfl)) clX7) rfl hl.1 (Nat.le_of_ble_eq_true rfl) dX7_readsPart_34 (fun z_13 H locs hq hS => ?_)
      obtain ⟨g_14, hg_14, f_15, hH⟩ := hq
      have hH : TH E (tbM (mD (.inl (t, t)) (.inl (g_14, g_14)) (.inl (nu, nu)) (.inl un) (.inl tk) (.inl xt)) nw ws kp as (xD 660 B) sc) H := hH
      refine z_eq (tgt := 45) F dX7_readsPart_37 (by decide) (fun c_16 => ?_) (fun c_16 => ?_)
      · skip
        have r_17 : 0 ≤ z_13.toInt ∧ z_13.toInt ≤ 0 := by have h9_ := f_15; omega
        refine lv_aload_n F.1 F.2.1 dX7_readsPart_45 rfl (lv_at hl 0 rfl) ?_
        refine ldcwS F.1 F.2.1 F.2.2.2.2.1 (hO.1 26 _ rfl).1 dX7_readsPart_46 ?_
        refine tVi (b := a0) (As := [.ref (eX E 26)]) (rest := []) F hK hN hO (c_X7_isWord E nw ws kp as (xD 660 B) sc un tk xt (nu, nu) t g_14 b a0 26 3 ha0 (strAt 26 rfl) (by omega) (by omega) (by omega)) mv_X7_isWord wd_16_10 ⟨Nat.le_of_ble_eq_true rfl, Nat.le_of_ble_eq_true rfl⟩ ⟨Nat.le_of_ble_eq_true rfl, Nat.le_of_ble_eq_true rfl⟩ hH hS (tRecv hK hH (tyb ha0 (all1 rfl)) clX7) rfl hl.1 (Nat.le_of_ble_eq_true rfl) dX7_readsPart_49 (fun z_19 H locs hq hS => ?_)
        obtain ⟨g_20, hg_20, f_21, hH⟩ := hq
        have hH : TH E (tbM (mD (.inl (t, t)) (.inl (g_20, g_20)) (.inl (nu, nu)) (.inl un) (.inl tk) (.inl xt)) nw ws kp as (xD 660 B) sc) H := hH
        refine z_eq (tgt := 62) F dX7_readsPart_52 (by decide) (fun c_22 => ?_) (fun c_22 => ?_)
        · skip
          have r_23 : 0 ≤ z_19.toInt ∧ z_19.toInt ≤ 0 := by have h9_ := f_21; omega
          refine lv_aload_n F.1 F.2.1 dX7_readsPart_62 rfl (lv_at hl 0 rfl) ?_
          refine lv_iconst (v := 1) F.1 F.2.1 dX7_readsPart_63 (by decide) ?_
          refine topK (a := 1) (by decide) (fun k_25 hk_25 => ?_)
          refine lv_aload_n F.1 F.2.1 dX7_readsPart_64 rfl (lv_at hl 0 rfl) ?_
          refine tGetI (j := 31) F hK hH (tyb ha0 (all1 rfl)) rfl clX7 (by decide) wd_15_21 dX7_readsPart_65 (fun z_26 hz_26 => ?_)
          have ez_26 : 0 ≤ z_26.toInt ∧ z_26.toInt ≤ 5000 := by omega
          refine tVi (b := a0) (As := [.int k_25, .int z_26]) (rest := []) F hK hN hO (c_X7_fails E nw ws kp as (xD 660 B) sc un tk xt (t, t) (g_20, g_20) (nu, nu) a0 k_25 z_26 ha0) mv_X7_fails wd_17_2 ⟨Nat.le_of_ble_eq_true rfl, Nat.le_of_ble_eq_true rfl⟩ ⟨Nat.le_of_ble_eq_true rfl, Nat.le_of_ble_eq_true rfl⟩ hH hS (tRecv hK hH (tyb ha0 (all1 rfl)) clX7) rfl hl.1 (Nat.le_of_ble_eq_true rfl) dX7_readsPart_68 (fun z_27 H locs hq hS => ?_)
          obtain ⟨f_28, hH⟩ := hq
          have hH : TH E (tbM (mD (.inl (t, t)) (.inl (g_20, g_20)) (.inl (nu, nu)) (.inl un) (.inl tk) (.inl xt)) nw ws kp as (xD 660 B) sc) H := hH
          exact txI F hS dX7_readsPart_71 (nar01 (wkb f_28 rfl rfl)) (⟨g_20, ⟨by omega, by omega, by omega, by omega⟩, nu, (by omega), B, hB, (wkb f_28 rfl rfl), hH⟩)
        · skip
          have r_24 : 1 ≤ z_19.toInt ∧ z_19.toInt ≤ 1 := by have h9_ := f_21; omega
          refine lv_aload_n F.1 F.2.1 dX7_readsPart_55 rfl (lv_at hl 0 rfl) ?_
          refine tVi (b := a0) (As := []) (rest := []) F hK hN hO (c_X7_readsWet E nw ws kp as sc un tk xt t g_20 nu B b a0 ha0 (by omega) (by omega) (by omega) hB (by omega)) mv_X7_readsWet wd_19_0 ⟨Nat.le_of_ble_eq_true rfl, Nat.le_of_ble_eq_true rfl⟩ ⟨Nat.le_of_ble_eq_true rfl, Nat.le_of_ble_eq_true rfl⟩ hH hS (tRecv hK hH (tyb ha0 (all1 rfl)) clX7) rfl hl.1 (Nat.le_of_ble_eq_true rfl) dX7_readsPart_56 (fun z_29 H locs hq hS => ?_)
          obtain ⟨g_30, hg_30, g_31, hg_31, g_32, hg_32, f_33, hH⟩ := hq
          have hH : TH E (tbM (mD (.inl (t, t)) (.inl (g_30, g_30)) (.inl (g_31, g_31)) (.inl un) (.inl tk) (.inl xt)) nw ws kp as (xD 660 g_32) sc) H := hH
          have hBg_32 := okB hg_32.1
          have hLg_32 := hg_32.2
          refine lv_goto (tgt := 71) F.1 F.2.1 dX7_readsPart_59 (by decide) ?_
          exact txI F hS dX7_readsPart_71 (nar01 f_33) (⟨g_30, ⟨by omega, by omega, by omega, by omega⟩, g_31, (by omega), g_32, hg_32, f_33, hH⟩)
      · skip
        have r_18 : 1 ≤ z_13.toInt ∧ z_13.toInt ≤ 1 := by have h9_ := f_15; omega
        refine lv_aload_n F.1 F.2.1 dX7_readsPart_40 rfl (lv_at hl 0 rfl) ?_
        refine tVi (b := a0) (As := []) (rest := []) F hK hN hO (c_X7_readsStore E nw ws kp as sc un tk xt t g_14 nu B b a0 ha0 (by omega) (by omega) (by omega) hB (by omega)) mv_X7_readsStore wd_18_20 ⟨Nat.le_of_ble_eq_true rfl, Nat.le_of_ble_eq_true rfl⟩ ⟨Nat.le_of_ble_eq_true rfl, Nat.le_of_ble_eq_true rfl⟩ hH hS (tRecv hK hH (tyb ha0 (all1 rfl)) clX7) rfl hl.1 (Nat.le_of_ble_eq_true rfl) dX7_readsPart_41 (fun z_34 H locs hq hS => ?_)
        obtain ⟨g_35, hg_35, g_36, hg_36, g_37, hg_37, f_38, hH⟩ := hq
        have hH : TH E (tbM (mD (.inl (t, t)) (.inl (g_35, g_35)) (.inl (g_36, g_36)) (.inl un) (.inl tk) (.inl xt)) nw ws kp as (xD 660 g_37) sc) H := hH
        have hBg_37 := okB hg_37.1
        have hLg_37 := hg_37.2
        exact txI F hS dX7_readsPart_44 (nar01 f_38) (⟨g_35, ⟨by omega, by omega, by omega, by omega⟩, g_36, (by omega), g_37, hg_37, f_38, hH⟩)
    · skip
      have r_12 : 1 ≤ z_7.toInt ∧ z_7.toInt ≤ 1 := by have h9_ := f_9; omega
      refine lv_aload_n F.1 F.2.1 dX7_readsPart_25 rfl (lv_at hl 0 rfl) ?_
      refine tVi (b := a0) (As := []) (rest := []) F hK hN hO (c_X7_readsRight E nw ws kp as sc un tk xt t g_8 nu B b a0 ha0 (by omega) (by omega) (by omega) hB (by omega)) mv_X7_readsRight wd_18_3 ⟨Nat.le_of_ble_eq_true rfl, Nat.le_of_ble_eq_true rfl⟩ ⟨Nat.le_of_ble_eq_true rfl, Nat.le_of_ble_eq_true rfl⟩ hH hS (tRecv hK hH (tyb ha0 (all1 rfl)) clX7) rfl hl.1 (Nat.le_of_ble_eq_true rfl) dX7_readsPart_26 (fun z_39 H locs hq hS => ?_)
      obtain ⟨g_40, hg_40, g_41, hg_41, g_42, hg_42, f_43, hH⟩ := hq
      have hH : TH E (tbM (mD (.inl (t, t)) (.inl (g_40, g_40)) (.inl (g_41, g_41)) (.inl un) (.inl tk) (.inl xt)) nw ws kp as (xD 660 g_42) sc) H := hH
      have hBg_42 := okB hg_42.1
      have hLg_42 := hg_42.2
      exact txI F hS dX7_readsPart_29 (nar01 f_43) (⟨g_40, ⟨by omega, by omega, by omega, by omega⟩, g_41, (by omega), g_42, hg_42, f_43, hH⟩)
  · skip
    have r_6 : 1 ≤ z_1.toInt ∧ z_1.toInt ≤ 1 := by have h9_ := f_3; omega
    refine lv_aload_n F.1 F.2.1 dX7_readsPart_10 rfl (lv_at hl 0 rfl) ?_
    refine tVi (b := a0) (As := []) (rest := []) F hK hN hO (c_X7_readsReach E nw ws kp as sc un tk xt t g_2 nu B b a0 ha0 (by omega) (by omega) (by omega) hB (by omega)) mv_X7_readsReach wd_16_18 ⟨Nat.le_of_ble_eq_true rfl, Nat.le_of_ble_eq_true rfl⟩ ⟨Nat.le_of_ble_eq_true rfl, Nat.le_of_ble_eq_true rfl⟩ hH hS (tRecv hK hH (tyb ha0 (all1 rfl)) clX7) rfl hl.1 (Nat.le_of_ble_eq_true rfl) dX7_readsPart_11 (fun z_44 H locs hq hS => ?_)
    obtain ⟨g_45, hg_45, g_46, hg_46, g_47, hg_47, f_48, hH⟩ := hq
    have hH : TH E (tbM (mD (.inl (t, t)) (.inl (g_45, g_45)) (.inl (g_46, g_46)) (.inl un) (.inl tk) (.inl xt)) nw ws kp as (xD 660 g_47) sc) H := hH
    have hBg_47 := okB hg_47.1
    have hLg_47 := hg_47.2
    exact txI F hS dX7_readsPart_14 (nar01 f_48) (⟨g_45, ⟨by omega, by omega, by omega, by omega⟩, g_46, (by omega), g_47, hg_47, f_48, hH⟩)
set_option maxHeartbeats 4000000 in
set_option maxRecDepth 100000 in
theorem c_X7_readsAll (E : Ev) (nw : TD) (ws : TD) (kp : TD) (as : TD) (sc : TD) (un : Int × Int) (tk : Int × Int) (xt : Int × Int) (t : Int) (B : Nat → Int32) (a0 : Nat) (ha0 : eT E a0 ∈ [24]) (ht : 0 ≤ t ∧ t ≤ 400) : TcI E yX7_readsAll cX7_readsAll 2 .boolean ({ frames := 11, cells := 0, slots := 0, locals := 310 }) [.ref a0] (fun H => TH E (tbM (mD (.inl (t, t)) (.inl ((-2147483648), 2147483647)) (.inl ((-2147483648), 2147483647)) (.inl un) (.inl tk) (.inl xt)) nw ws kp as (xD 660 B) sc) H) (fun v H => ∃ B2 : Nat → Int32, (okR B2) ∧ (0 ≤ v.toInt ∧ v.toInt ≤ 1) ∧ TH E (tbM (mD (.inl (t, t)) (.inl ((-2147483648), 2147483647)) (.inl ((-2147483648), 2147483647)) (.inl un) (.inl tk) (.inl xt)) nw ws kp as (xD 660 B2) sc) H) := by
  refine teI (by decide) (Nat.le_of_ble_eq_true rfl) ?_
  intro p_ ev_ s mi_ below_ meth cd_ ls F hK hN hO hH hS hl
  have hH : TH E (tbM (mD (.inl (t, t)) (.inl ((-2147483648), 2147483647)) (.inl ((-2147483648), 2147483647)) (.inl un) (.inl tk) (.inl xt)) nw ws kp as (xD 660 B) sc) s.heap := hH
  have hl : lv_has ls 2 [(0, .ref a0)] := hl
  refine lv_iconst (v := 0) F.1 F.2.1 dX7_readsAll_0 (by decide) ?_
  refine topK (a := 0) (by decide) (fun k_1 hk_1 => ?_)
  refine lv_istore_n (lv' := [(1, .int k_1), (0, .ref a0)]) F.1 F.2.1 dX7_readsAll_1 rfl hl (by decide) rfl (fun ls hl => ?_)
  refine wloop (σ := Int32 × (Nat → Int32)) (fun n9 x9 H locs ls => (660 - x9.1.toInt + 1).toNat < n9 ∧ (0 ≤ x9.1.toInt ∧ x9.1.toInt ≤ 660) ∧ (True) ∧ (zf x9.2 (x9.1.toInt)) ∧ TH E (tbM (mD (.inl (t, t)) (.inl ((-2147483648), 2147483647)) (.inl ((-2147483648), 2147483647)) (.inl un) (.inl tk) (.inl xt)) nw ws kp as (xD 660 x9.2) sc) H ∧ va_S (eA E s.heap.size) s.heap H locs ∧ lv_has ls 2 [(0, .ref a0), (1, .int x9.1)]) ?_ (fun x9 H locs ls h => absurd h.1 (Nat.not_lt_zero _)) _ (k_1, B) ⟨Nat.lt_succ_self _, (wkb (eqb hk_1) rfl rfl), trivial, (show zf B (k_1.toInt) from zf.zero (by omega)), hH, hS, lv_sub hl [1, 0] rfl⟩
  intro n_2 ih_2 ⟨u_2, G_3⟩ H locs ls ⟨hm_2, hu_2, hG_3, hcr2_0, hH, hS, hl⟩
  have hm_2 : (660 - u_2.toInt + 1).toNat < n_2 + 1 := hm_2
  have hu_2 : (0 ≤ u_2.toInt ∧ u_2.toInt ≤ 660) := hu_2
  have hG_3 : (True) := hG_3
  have hcr2_0 : (zf G_3 (u_2.toInt)) := hcr2_0
  have hH : TH E (tbM (mD (.inl (t, t)) (.inl ((-2147483648), 2147483647)) (.inl ((-2147483648), 2147483647)) (.inl un) (.inl tk) (.inl xt)) nw ws kp as (xD 660 G_3) sc) H := hH
  have hl : lv_has ls 2 [(0, .ref a0), (1, .int u_2)] := hl
  refine lv_iload_n F.1 F.2.1 dX7_readsAll_2 rfl (lv_at hl 1 rfl) ?_
  refine lv_sipush (v := 660) F.1 F.2.1 dX7_readsAll_3 (by decide) ?_
  refine topK (a := 660) (by decide) (fun k_4 hk_4 => ?_)
  refine b_ge (tgt := 22) F dX7_readsAll_6 (by decide) (fun c_5 => ?_) (fun c_5 => ?_)
  · skip
    have r_6 : 660 ≤ u_2.toInt ∧ u_2.toInt ≤ 660 := by have h9_ := hu_2; omega
    have hRG_3 : okR G_3 := zf.ok hcr2_0 (by omega)
    have hBG_3 := okB hRG_3.1
    have hLG_3 := hRG_3.2
    obtain ⟨g_8, hg_8, hH⟩ := TH.pinF (t := 24) (j := 33) hH rfl rfl ⟨a0, List.mem_singleton.mp ha0⟩ (by decide)
    have hH : TH E (tbM (mD (.inl (t, t)) (.inl ((-2147483648), 2147483647)) (.inl (g_8, g_8)) (.inl un) (.inl tk) (.inl xt)) nw ws kp as (xD 660 G_3) sc) H := hH
    refine lv_aload_n F.1 F.2.1 dX7_readsAll_22 rfl (lv_at hl 0 rfl) ?_
    refine tGetR (j := 36) F hK hH (tyb ha0 (all1 rfl)) rfl (all1 rfl) clX7 (by decide) wd_7_5 dX7_readsAll_23 (fun q_9 hq_9 _ => ?_)
    refine lv_iconst (v := 4) F.1 F.2.1 dX7_readsAll_26 (by decide) ?_
    refine topK (a := 4) (by decide) (fun k_10 hk_10 => ?_)
    refine lv_bipush (v := 100) F.1 F.2.1 dX7_readsAll_27 (by decide) ?_
    refine topK (a := 100) (by decide) (fun k_11 hk_11 => ?_)
    refine tIastX (t := 29) F hK hH hS (List.mem_singleton.mp hq_9) (by decide) rfl (ixb (n := 660) (eqb hk_10) rfl rfl) dX7_readsAll_29 (fun G_12 eG_12 H locs hH hS => ?_)
    have hH : TH E (tbM (mD (.inl (t, t)) (.inl ((-2147483648), 2147483647)) (.inl (g_8, g_8)) (.inl un) (.inl tk) (.inl xt)) nw ws kp as (xD 660 G_12) sc) H := hH
    have n0G_12 : gI G_12 0 = gI G_3 0 := gI_ne eG_12 (by omega) (by omega)
    have n1G_12 : gI G_12 1 = gI G_3 1 := gI_ne eG_12 (by omega) (by omega)
    have n2G_12 : gI G_12 2 = gI G_3 2 := gI_ne eG_12 (by omega) (by omega)
    have n6G_12 : gI G_12 6 = gI G_3 6 := gI_ne eG_12 (by omega) (by omega)
    have n3G_12 : gI G_12 3 = gI G_3 3 := gI_ne eG_12 (by omega) (by omega)
    have hG_12 : okR G_12 := (okR.stM hRG_3 eG_12 (by omega) (by omega) (by omega) (phiI (by omega) (by omega) (by omega) (by omega) (by omega) (by omega) (by omega) (by omega) (by omega) (by omega) (by omega) (by omega) (by omega) (by omega) (by omega) (by omega) (by omega) (by omega)) (by omega))
    have hBG_12 := okB hG_12.1
    have hLG_12 := hG_12.2
    refine lv_aload_n F.1 F.2.1 dX7_readsAll_30 rfl (lv_at hl 0 rfl) ?_
    refine lv_iconst (v := 0) F.1 F.2.1 dX7_readsAll_31 (by decide) ?_
    refine topK (a := 0) (by decide) (fun k_13 hk_13 => ?_)
    refine tPut (j := 35) F hK hH hS (tyb ha0 (all1 rfl)) rfl (fdI (wkb (eqb hk_13) rfl rfl)) clX7 (by decide) wd_15_20 rfl rfl (nar01 (wkb (eqb hk_13) rfl rfl)) (fit01 (wkb (eqb hk_13) rfl rfl)) dX7_readsAll_32 (fun H locs hH hS => ?_)
    refine lv_aload_n F.1 F.2.1 dX7_readsAll_35 rfl (lv_at hl 0 rfl) ?_
    refine lv_iconst (v := 0) F.1 F.2.1 dX7_readsAll_36 (by decide) ?_
    refine topK (a := 0) (by decide) (fun k_14 hk_14 => ?_)
    refine tPutG (j := 31) (t := 24) (fd := (.inl (0, 0))) F hK hH hS (List.mem_singleton.mp ha0) (by decide) rfl rfl (fdI (by omega)) (TB1 := (tbM (mD (.inl (t, t)) (.inl (0, 0)) (.inl (g_8, g_8)) (.inl un) (.inl tk) (.inl xt)) nw ws kp as (xD 660 G_12) sc)) rfl clX7 (by decide) wd_15_21 rfl rfl rfl rfl dX7_readsAll_37 (fun H locs hH hS => ?_)
    refine lv_aload_n F.1 F.2.1 dX7_readsAll_40 rfl (lv_at hl 0 rfl) ?_
    refine tVi (b := a0) (As := []) (rest := []) F hK hN hO (c_X7_nextByte E nw ws kp as (xD 660 G_12) sc un tk xt (g_8, g_8) t 0 400 a0 ha0 (by omega) (by omega) (by omega)) mv_X7_nextByte wd_15_22 ⟨Nat.le_of_ble_eq_true rfl, Nat.le_of_ble_eq_true rfl⟩ ⟨Nat.le_of_ble_eq_true rfl, Nat.le_of_ble_eq_true rfl⟩ hH hS (tRecv hK hH (tyb ha0 (all1 rfl)) clX7) rfl hl.1 (Nat.le_of_ble_eq_true rfl) dX7_readsAll_41 (fun z_15 H locs hq hS => ?_)
    obtain ⟨g_16, hg_16, f_17, f_18, hH⟩ := hq
    have hH : TH E (tbM (mD (.inl (t, t)) (.inl (g_16, g_16)) (.inl (g_8, g_8)) (.inl un) (.inl tk) (.inl xt)) nw ws kp as (xD 660 G_12) sc) H := hH
    refine lv_iconst (v := (-1)) F.1 F.2.1 dX7_readsAll_44 (by decide) ?_
    refine topK (a := (-1)) (by decide) (fun k_19 hk_19 => ?_)
    refine b_ne (tgt := 50) F dX7_readsAll_45 (by decide) (fun c_20 => ?_) (fun c_20 => ?_)
    · skip
      refine lv_aload_n F.1 F.2.1 dX7_readsAll_50 rfl (lv_at hl 0 rfl) ?_
      refine tVi (b := a0) (As := []) (rest := []) F hK hN hO (c_X7_readsPart E nw ws kp as sc un tk xt t g_16 g_8 G_12 400 a0 ha0 (by omega) (by omega) (by omega) hG_12 (by omega)) mv_X7_readsPart wd_16_6 ⟨Nat.le_of_ble_eq_true rfl, Nat.le_of_ble_eq_true rfl⟩ ⟨Nat.le_of_ble_eq_true rfl, Nat.le_of_ble_eq_true rfl⟩ hH hS (tRecv hK hH (tyb ha0 (all1 rfl)) clX7) rfl hl.1 (Nat.le_of_ble_eq_true rfl) dX7_readsAll_51 (fun z_22 H locs hq hS => ?_)
      obtain ⟨g_23, hg_23, g_24, hg_24, g_25, hg_25, f_26, hH⟩ := hq
      have hH : TH E (tbM (mD (.inl (t, t)) (.inl (g_23, g_23)) (.inl (g_24, g_24)) (.inl un) (.inl tk) (.inl xt)) nw ws kp as (xD 660 g_25) sc) H := hH
      have hBg_25 := okB hg_25.1
      have hLg_25 := hg_25.2
      refine lv_istore_n (lv' := [(1, .int z_22), (0, .ref a0)]) F.1 F.2.1 dX7_readsAll_54 rfl hl (by decide) rfl (fun ls hl => ?_)
      refine wloop (σ := Int32 × Int × Int × (Nat → Int32)) (fun n9 x9 H locs ls => (6000 - x9.2.1).toNat < n9 ∧ (0 ≤ x9.1.toInt ∧ x9.1.toInt ≤ 1) ∧ (0 ≤ x9.2.1 ∧ x9.2.1 ≤ 424) ∧ ((-2147483648) ≤ x9.2.2.1 ∧ x9.2.2.1 ≤ 2147483647) ∧ (okR x9.2.2.2) ∧ (x9.2.1 ≤ 424) ∧ TH E (tbM (mD (.inl (t, t)) (.inl (x9.2.1, x9.2.1)) (.inl (x9.2.2.1, x9.2.2.1)) (.inl un) (.inl tk) (.inl xt)) nw ws kp as (xD 660 x9.2.2.2) sc) H ∧ va_S (eA E s.heap.size) s.heap H locs ∧ lv_has ls 2 [(0, .ref a0), (1, .int x9.1)]) ?_ (fun x9 H locs ls h => absurd h.1 (Nat.not_lt_zero _)) _ (z_22, g_23, g_24, g_25) ⟨Nat.lt_succ_self _, f_26, (show 0 ≤ g_23 ∧ g_23 ≤ 424 from by omega), (show (-2147483648) ≤ g_24 ∧ g_24 ≤ 2147483647 from by omega), hg_25, (show g_23 ≤ 424 from by omega), hH, hS, lv_sub hl [1, 0] rfl⟩
      intro n_55 ih_55 ⟨u_27, g_28, g_29, G_30⟩ H locs ls ⟨hm_55, hu_27, hg_28, hg_29, hG_30, hcr55_0, hH, hS, hl⟩
      have hm_55 : (6000 - g_28).toNat < n_55 + 1 := hm_55
      have hu_27 : (0 ≤ u_27.toInt ∧ u_27.toInt ≤ 1) := hu_27
      have hg_28 : (0 ≤ g_28 ∧ g_28 ≤ 424) := hg_28
      have hg_29 : ((-2147483648) ≤ g_29 ∧ g_29 ≤ 2147483647) := hg_29
      have hG_30 : (okR G_30) := hG_30
      have hcr55_0 : (g_28 ≤ 424) := hcr55_0
      have hH : TH E (tbM (mD (.inl (t, t)) (.inl (g_28, g_28)) (.inl (g_29, g_29)) (.inl un) (.inl tk) (.inl xt)) nw ws kp as (xD 660 G_30) sc) H := hH
      have hl : lv_has ls 2 [(0, .ref a0), (1, .int u_27)] := hl
      have hBG_30 := okB hG_30.1
      have hLG_30 := hG_30.2
      refine lv_iload_n F.1 F.2.1 dX7_readsAll_55 rfl (lv_at hl 1 rfl) ?_
      refine wjoin (σ := Int) (pcj := 86) (stj := fun x9 => []) (fun x9 H locs ls => (0 ≤ x9 ∧ x9 ≤ 5000) ∧ TH E (tbM (mD (.inl (t, t)) (.inl (x9, x9)) (.inl (g_29, g_29)) (.inl un) (.inl tk) (.inl xt)) nw ws kp as (xD 660 G_30) sc) H ∧ va_S (eA E s.heap.size) s.heap H locs ∧ lv_has ls 2 [(0, .ref a0), (1, .int u_27)]) (fun g_31 H locs ls h_ => ?_) (fun J_86 => ?_)
      · skip
        obtain ⟨hg_31, hH, hS, hl⟩ := h_
        have hg_31 : (0 ≤ g_31 ∧ g_31 ≤ 5000) := hg_31
        have hH : TH E (tbM (mD (.inl (t, t)) (.inl (g_31, g_31)) (.inl (g_29, g_29)) (.inl un) (.inl tk) (.inl xt)) nw ws kp as (xD 660 G_30) sc) H := hH
        have hl : lv_has ls 2 [(0, .ref a0), (1, .int u_27)] := hl
        show W _ _ _ _ _ _ _ _ _ _ _ _ _ _ _ (F0 _ _ _ [])
        refine lv_iload_n F.1 F.2.1 dX7_readsAll_86 rfl (lv_at hl 1 rfl) ?_
        refine z_eq (tgt := 114) F dX7_readsAll_87 (by decide) (fun c_32 => ?_) (fun c_32 => ?_)
        · skip
          have r_33 : 0 ≤ u_27.toInt ∧ u_27.toInt ≤ 0 := by have h9_ := hu_27; omega
          refine lv_iconst (v := 0) F.1 F.2.1 dX7_readsAll_114 (by decide) ?_
          refine topK (a := 0) (by decide) (fun k_35 hk_35 => ?_)
          exact txI F hS dX7_readsAll_115 (nar01 (wkb (eqb hk_35) rfl rfl)) (⟨G_30, hG_30, (wkb (eqb hk_35) rfl rfl), (TH.loose (t := 24) (TB1 := (tbM (mD (.inl (t, t)) (.inl ((-2147483648), 2147483647)) (.inl ((-2147483648), 2147483647)) (.inl un) (.inl tk) (.inl xt)) nw ws kp as (xD 660 G_30) sc)) (TH.loose (t := 24) (TB1 := (tbM (mD (.inl (t, t)) (.inl ((-2147483648), 2147483647)) (.inl (g_29, g_29)) (.inl un) (.inl tk) (.inl xt)) nw ws kp as (xD 660 G_30) sc)) hH rfl (tcLoose (j := 31) rfl (by omega)) rfl) rfl (tcLoose (j := 33) rfl (by omega)) rfl)⟩)
        · skip
          have r_34 : 1 ≤ u_27.toInt ∧ u_27.toInt ≤ 1 := by have h9_ := hu_27; omega
          refine lv_aload_n F.1 F.2.1 dX7_readsAll_90 rfl (lv_at hl 0 rfl) ?_
          refine tVi (b := a0) (As := []) (rest := []) F hK hN hO (c_X7_nextByte E nw ws kp as (xD 660 G_30) sc un tk xt (g_29, g_29) t g_31 500 a0 ha0 (by omega) (by omega) (by omega)) mv_X7_nextByte wd_15_22 ⟨Nat.le_of_ble_eq_true rfl, Nat.le_of_ble_eq_true rfl⟩ ⟨Nat.le_of_ble_eq_true rfl, Nat.le_of_ble_eq_true rfl⟩ hH hS (tRecv hK hH (tyb ha0 (all1 rfl)) clX7) rfl hl.1 (Nat.le_of_ble_eq_true rfl) dX7_readsAll_91 (fun z_36 H locs hq hS => ?_)
          obtain ⟨g_37, hg_37, f_38, f_39, hH⟩ := hq
          have hH : TH E (tbM (mD (.inl (t, t)) (.inl (g_37, g_37)) (.inl (g_29, g_29)) (.inl un) (.inl tk) (.inl xt)) nw ws kp as (xD 660 G_30) sc) H := hH
          refine lv_iconst (v := (-1)) F.1 F.2.1 dX7_readsAll_94 (by decide) ?_
          refine topK (a := (-1)) (by decide) (fun k_40 hk_40 => ?_)
          refine b_eq (tgt := 110) F dX7_readsAll_95 (by decide) (fun c_41 => ?_) (fun c_41 => ?_)
          · skip
            have r_42 : (-1) ≤ z_36.toInt ∧ z_36.toInt ≤ (-1) := by have h9_ := f_38; omega
            refine lv_iconst (v := 1) F.1 F.2.1 dX7_readsAll_110 (by decide) ?_
            refine topK (a := 1) (by decide) (fun k_43 hk_43 => ?_)
            refine lv_goto (tgt := 115) F.1 F.2.1 dX7_readsAll_111 (by decide) ?_
            exact txI F hS dX7_readsAll_115 (nar01 (wkb (eqb hk_43) rfl rfl)) (⟨G_30, hG_30, (wkb (eqb hk_43) rfl rfl), (TH.loose (t := 24) (TB1 := (tbM (mD (.inl (t, t)) (.inl ((-2147483648), 2147483647)) (.inl ((-2147483648), 2147483647)) (.inl un) (.inl tk) (.inl xt)) nw ws kp as (xD 660 G_30) sc)) (TH.loose (t := 24) (TB1 := (tbM (mD (.inl (t, t)) (.inl ((-2147483648), 2147483647)) (.inl (g_29, g_29)) (.inl un) (.inl tk) (.inl xt)) nw ws kp as (xD 660 G_30) sc)) hH rfl (tcLoose (j := 31) rfl (by omega)) rfl) rfl (tcLoose (j := 33) rfl (by omega)) rfl)⟩)
          · skip
            refine lv_aload_n F.1 F.2.1 dX7_readsAll_98 rfl (lv_at hl 0 rfl) ?_
            refine lv_iconst (v := 1) F.1 F.2.1 dX7_readsAll_99 (by decide) ?_
            refine topK (a := 1) (by decide) (fun k_44 hk_44 => ?_)
            refine lv_aload_n F.1 F.2.1 dX7_readsAll_100 rfl (lv_at hl 0 rfl) ?_
            refine tGetI (j := 31) F hK hH (tyb ha0 (all1 rfl)) rfl clX7 (by decide) wd_15_21 dX7_readsAll_101 (fun z_45 hz_45 => ?_)
            have ez_45 : 0 ≤ z_45.toInt ∧ z_45.toInt ≤ 5000 := by omega
            refine tVi (b := a0) (As := [.int k_44, .int z_45]) (rest := []) F hK hN hO (c_X7_fails E nw ws kp as (xD 660 G_30) sc un tk xt (t, t) (g_37, g_37) (g_29, g_29) a0 k_44 z_45 ha0) mv_X7_fails wd_17_2 ⟨Nat.le_of_ble_eq_true rfl, Nat.le_of_ble_eq_true rfl⟩ ⟨Nat.le_of_ble_eq_true rfl, Nat.le_of_ble_eq_true rfl⟩ hH hS (tRecv hK hH (tyb ha0 (all1 rfl)) clX7) rfl hl.1 (Nat.le_of_ble_eq_true rfl) dX7_readsAll_104 (fun z_46 H locs hq hS => ?_)
            obtain ⟨f_47, hH⟩ := hq
            have hH : TH E (tbM (mD (.inl (t, t)) (.inl (g_37, g_37)) (.inl (g_29, g_29)) (.inl un) (.inl tk) (.inl xt)) nw ws kp as (xD 660 G_30) sc) H := hH
            refine z_eq (tgt := 114) F dX7_readsAll_107 (by decide) (fun c_48 => ?_) (fun c_48 => absurd c_48 (by omega))
            refine lv_iconst (v := 0) F.1 F.2.1 dX7_readsAll_114 (by decide) ?_
            refine topK (a := 0) (by decide) (fun k_49 hk_49 => ?_)
            exact txI F hS dX7_readsAll_115 (nar01 (wkb (eqb hk_49) rfl rfl)) (⟨G_30, hG_30, (wkb (eqb hk_49) rfl rfl), (TH.loose (t := 24) (TB1 := (tbM (mD (.inl (t, t)) (.inl ((-2147483648), 2147483647)) (.inl ((-2147483648), 2147483647)) (.inl un) (.inl tk) (.inl xt)) nw ws kp as (xD 660 G_30) sc)) (TH.loose (t := 24) (TB1 := (tbM (mD (.inl (t, t)) (.inl ((-2147483648), 2147483647)) (.inl (g_29, g_29)) (.inl un) (.inl tk) (.inl xt)) nw ws kp as (xD 660 G_30) sc)) hH rfl (tcLoose (j := 31) rfl (by omega)) rfl) rfl (tcLoose (j := 33) rfl (by omega)) rfl)⟩)
      refine z_eq (tgt := 86) F dX7_readsAll_56 (by decide) (fun c_50 => ?_) (fun c_50 => ?_)
      · skip
        have r_51 : 0 ≤ u_27.toInt ∧ u_27.toInt ≤ 0 := by have h9_ := hu_27; omega
        exact J_86 (g_28) _ _ _ ⟨(show 0 ≤ g_28 ∧ g_28 ≤ 5000 from by omega), hH, hS, lv_sub hl [0, 1] rfl⟩
      · skip
        have r_52 : 1 ≤ u_27.toInt ∧ u_27.toInt ≤ 1 := by have h9_ := hu_27; omega
        refine lv_aload_n F.1 F.2.1 dX7_readsAll_59 rfl (lv_at hl 0 rfl) ?_
        refine tVi (b := a0) (As := []) (rest := []) F hK hN hO (c_X7_nextByte E nw ws kp as (xD 660 G_30) sc un tk xt (g_29, g_29) t g_28 500 a0 ha0 (by omega) (by omega) (by omega)) mv_X7_nextByte wd_15_22 ⟨Nat.le_of_ble_eq_true rfl, Nat.le_of_ble_eq_true rfl⟩ ⟨Nat.le_of_ble_eq_true rfl, Nat.le_of_ble_eq_true rfl⟩ hH hS (tRecv hK hH (tyb ha0 (all1 rfl)) clX7) rfl hl.1 (Nat.le_of_ble_eq_true rfl) dX7_readsAll_60 (fun z_53 H locs hq hS => ?_)
        obtain ⟨g_54, hg_54, f_55, f_56, hH⟩ := hq
        have hH : TH E (tbM (mD (.inl (t, t)) (.inl (g_54, g_54)) (.inl (g_29, g_29)) (.inl un) (.inl tk) (.inl xt)) nw ws kp as (xD 660 G_30) sc) H := hH
        refine lv_bipush (v := 59) F.1 F.2.1 dX7_readsAll_63 (by decide) ?_
        refine topK (a := 59) (by decide) (fun k_57 hk_57 => ?_)
        refine b_ne (tgt := 86) F dX7_readsAll_65 (by decide) (fun c_58 => ?_) (fun c_58 => ?_)
        · skip
          exact J_86 (g_54) _ _ _ ⟨(show 0 ≤ g_54 ∧ g_54 ≤ 5000 from by omega), hH, hS, lv_sub hl [0, 1] rfl⟩
        · skip
          have r_59 : 59 ≤ z_53.toInt ∧ z_53.toInt ≤ 59 := by have h9_ := f_55; omega
          refine lv_aload_n F.1 F.2.1 dX7_readsAll_68 rfl (lv_at hl 0 rfl) ?_
          refine lv_dup F.1 F.2.1 dX7_readsAll_69 rfl ?_
          refine tGetI (j := 31) F hK hH (tyb ha0 (all1 rfl)) rfl clX7 (by decide) wd_15_21 dX7_readsAll_70 (fun z_60 hz_60 => ?_)
          have ez_60 : 0 ≤ z_60.toInt ∧ z_60.toInt ≤ 5000 := by omega
          refine lv_iconst (v := 1) F.1 F.2.1 dX7_readsAll_73 (by decide) ?_
          refine topK (a := 1) (by decide) (fun k_61 hk_61 => ?_)
          refine tAdd (lo := 1) (hi := 5001) F dX7_readsAll_74 ez_60 (eqb hk_61) rfl (fun z_62 hz_62 => ?_)
          obtain ⟨g_63, hg_63⟩ : ∃ y : Int, z_62.toInt = y := ⟨_, rfl⟩
          have bg_63 : 1 ≤ g_63 ∧ g_63 ≤ 5001 := by rw [← hg_63]; exact hz_62.2
          refine tPutG (j := 31) (t := 24) (fd := (.inl (g_63, g_63))) F hK hH hS (List.mem_singleton.mp ha0) (by decide) rfl rfl (fdI (by omega)) (TB1 := (tbM (mD (.inl (t, t)) (.inl (g_63, g_63)) (.inl (g_29, g_29)) (.inl un) (.inl tk) (.inl xt)) nw ws kp as (xD 660 G_30) sc)) rfl clX7 (by decide) wd_15_21 rfl rfl rfl rfl dX7_readsAll_75 (fun H locs hH hS => ?_)
          refine lv_aload_n F.1 F.2.1 dX7_readsAll_78 rfl (lv_at hl 0 rfl) ?_
          refine tVi (b := a0) (As := []) (rest := []) F hK hN hO (c_X7_readsPart E nw ws kp as sc un tk xt t g_63 g_29 G_30 400 a0 ha0 (by omega) (by omega) (by omega) hG_30 (by omega)) mv_X7_readsPart wd_16_6 ⟨Nat.le_of_ble_eq_true rfl, Nat.le_of_ble_eq_true rfl⟩ ⟨Nat.le_of_ble_eq_true rfl, Nat.le_of_ble_eq_true rfl⟩ hH hS (tRecv hK hH (tyb ha0 (all1 rfl)) clX7) rfl hl.1 (Nat.le_of_ble_eq_true rfl) dX7_readsAll_79 (fun z_64 H locs hq hS => ?_)
          obtain ⟨g_65, hg_65, g_66, hg_66, g_67, hg_67, f_68, hH⟩ := hq
          have hH : TH E (tbM (mD (.inl (t, t)) (.inl (g_65, g_65)) (.inl (g_66, g_66)) (.inl un) (.inl tk) (.inl xt)) nw ws kp as (xD 660 g_67) sc) H := hH
          have hBg_67 := okB hg_67.1
          have hLg_67 := hg_67.2
          refine lv_istore_n (lv' := [(1, .int z_64), (0, .ref a0)]) F.1 F.2.1 dX7_readsAll_82 rfl hl (by decide) rfl (fun ls hl => ?_)
          refine lv_goto (tgt := 55) F.1 F.2.1 dX7_readsAll_83 (by decide) ?_
          exact ih_55 (z_64, g_65, g_66, g_67) _ _ _ ⟨(show (6000 - g_65).toNat < n_55 from by omega), f_68, (show 0 ≤ g_65 ∧ g_65 ≤ 424 from by omega), (show (-2147483648) ≤ g_66 ∧ g_66 ≤ 2147483647 from by omega), hg_67, (show g_65 ≤ 424 from by omega), hH, hS, lv_sub hl [1, 0] rfl⟩
    · skip
      have r_21 : (-1) ≤ z_15.toInt ∧ z_15.toInt ≤ (-1) := by have h9_ := f_17; omega
      refine lv_iconst (v := 1) F.1 F.2.1 dX7_readsAll_48 (by decide) ?_
      refine topK (a := 1) (by decide) (fun k_69 hk_69 => ?_)
      exact txI F hS dX7_readsAll_49 (nar01 (wkb (eqb hk_69) rfl rfl)) (⟨G_12, hG_12, (wkb (eqb hk_69) rfl rfl), (TH.loose (t := 24) (TB1 := (tbM (mD (.inl (t, t)) (.inl ((-2147483648), 2147483647)) (.inl ((-2147483648), 2147483647)) (.inl un) (.inl tk) (.inl xt)) nw ws kp as (xD 660 G_12) sc)) (TH.loose (t := 24) (TB1 := (tbM (mD (.inl (t, t)) (.inl ((-2147483648), 2147483647)) (.inl (g_8, g_8)) (.inl un) (.inl tk) (.inl xt)) nw ws kp as (xD 660 G_12) sc)) hH rfl (tcLoose (j := 31) rfl (by omega)) rfl) rfl (tcLoose (j := 33) rfl (by omega)) rfl)⟩)
  · skip
    have r_7 : 0 ≤ u_2.toInt ∧ u_2.toInt ≤ 659 := by have h9_ := hu_2; omega
    refine lv_aload_n F.1 F.2.1 dX7_readsAll_9 rfl (lv_at hl 0 rfl) ?_
    refine tGetR (j := 36) F hK hH (tyb ha0 (all1 rfl)) rfl (all1 rfl) clX7 (by decide) wd_7_5 dX7_readsAll_10 (fun q_70 hq_70 _ => ?_)
    refine lv_iload_n F.1 F.2.1 dX7_readsAll_13 rfl (lv_at hl 1 rfl) ?_
    refine lv_iconst (v := 0) F.1 F.2.1 dX7_readsAll_14 (by decide) ?_
    refine topK (a := 0) (by decide) (fun k_71 hk_71 => ?_)
    refine tIastX (t := 29) F hK hH hS (List.mem_singleton.mp hq_70) (by decide) rfl (ixb (n := 660) r_7 rfl rfl) dX7_readsAll_15 (fun G_72 eG_72 H locs hH hS => ?_)
    have hH : TH E (tbM (mD (.inl (t, t)) (.inl ((-2147483648), 2147483647)) (.inl ((-2147483648), 2147483647)) (.inl un) (.inl tk) (.inl xt)) nw ws kp as (xD 660 G_72) sc) H := hH
    obtain ⟨x_73, ex_73, hx_73⟩ := iincB (c := 1) (lo := 1) (hi := 660) r_7 rfl
    refine lv_iinc (v := x_73) (lv' := [(1, .int x_73), (0, .ref a0)]) F.1 F.2.1 dX7_readsAll_16 hl (k := 1) rfl ex_73 (by decide) rfl (fun ls hl => ?_)
    refine lv_goto (tgt := 2) F.1 F.2.1 dX7_readsAll_19 (by decide) ?_
    exact ih_2 (x_73, G_72) _ _ _ ⟨(show (660 - x_73.toInt + 1).toNat < n_2 from by omega), (wkb hx_73.2 rfl rfl), trivial, (show zf G_72 (x_73.toInt) from zf.step hcr2_0 eG_72 (by omega) (by omega) (by omega) (by omega)), hH, hS, lv_sub hl [1, 0] rfl⟩
set_option maxHeartbeats 4000000 in
set_option maxRecDepth 100000 in
theorem c_X7_tell (E : Ev) (ws : TD) (kp : TD) (as : TD) (sc : TD) (tk : Int × Int) (xt : Int × Int) (u : Int) (t : Int) (X0 : Nat → Int32) (B : Nat → Int32) (a0 : Nat) (ha0 : eT E a0 ∈ [24]) (hu : 0 ≤ u ∧ u ≤ 10) (ht : 0 ≤ t ∧ t ≤ 400) (hX0 : okR X0) : TcI E yX7_tell cX7_tell 3 .int ({ frames := 12, cells := 0, slots := 0, locals := 331 }) [.ref a0] (fun H => TH E (tbM (mD (.inl (t, t)) (.inl ((-2147483648), 2147483647)) (.inl ((-2147483648), 2147483647)) (.inl (u, u)) (.inl tk) (.inl xt)) (xD 660 X0) ws kp as (xD 660 B) sc) H) (fun v H => ∃ u2 : Int, (0 ≤ u2 ∧ u2 ≤ 10) ∧ ∃ X2 : Nat → Int32, (okR X2) ∧ ∃ B2 : Nat → Int32, (okR B2) ∧ ((-2147483648) ≤ v.toInt ∧ v.toInt ≤ 2147483647) ∧ TH E (tbM (mD (.inl (0, 0)) (.inl ((-2147483648), 2147483647)) (.inl ((-2147483648), 2147483647)) (.inl (u2, u2)) (.inl tk) (.inl xt)) (xD 660 X2) ws kp as (xD 660 B2) sc) H) := by
  refine teI (by decide) (Nat.le_of_ble_eq_true rfl) ?_
  intro p_ ev_ s mi_ below_ meth cd_ ls F hK hN hO hH hS hl
  have hH : TH E (tbM (mD (.inl (t, t)) (.inl ((-2147483648), 2147483647)) (.inl ((-2147483648), 2147483647)) (.inl (u, u)) (.inl tk) (.inl xt)) (xD 660 X0) ws kp as (xD 660 B) sc) s.heap := hH
  have hl : lv_has ls 3 [(0, .ref a0)] := hl
  have hBX0 := okB hX0.1
  have hLX0 := hX0.2
  refine lv_aload_n F.1 F.2.1 dX7_tell_0 rfl (lv_at hl 0 rfl) ?_
  refine tVi (b := a0) (As := []) (rest := []) F hK hN hO (c_X7_readsAll E (xD 660 X0) ws kp as sc (u, u) tk xt t B a0 ha0 (by omega)) mv_X7_readsAll wd_15_16 ⟨Nat.le_of_ble_eq_true rfl, Nat.le_of_ble_eq_true rfl⟩ ⟨Nat.le_of_ble_eq_true rfl, Nat.le_of_ble_eq_true rfl⟩ hH hS (tRecv hK hH (tyb ha0 (all1 rfl)) clX7) rfl hl.1 (Nat.le_of_ble_eq_true rfl) dX7_tell_1 (fun z_1 H locs hq hS => ?_)
  obtain ⟨g_2, hg_2, f_3, hH⟩ := hq
  have hH : TH E (tbM (mD (.inl (t, t)) (.inl ((-2147483648), 2147483647)) (.inl ((-2147483648), 2147483647)) (.inl (u, u)) (.inl tk) (.inl xt)) (xD 660 X0) ws kp as (xD 660 g_2) sc) H := hH
  have hBg_2 := okB hg_2.1
  have hLg_2 := hg_2.2
  refine lv_istore_n (lv' := [(1, .int z_1), (0, .ref a0)]) F.1 F.2.1 dX7_tell_4 rfl hl (by decide) rfl (fun ls hl => ?_)
  refine lv_aload_n F.1 F.2.1 dX7_tell_5 rfl (lv_at hl 1 rfl) ?_
  refine lv_iconst (v := 0) F.1 F.2.1 dX7_tell_6 (by decide) ?_
  refine topK (a := 0) (by decide) (fun k_4 hk_4 => ?_)
  refine tPutG (j := 30) (t := 24) (fd := (.inl (0, 0))) F hK hH hS (List.mem_singleton.mp ha0) (by decide) rfl rfl (fdI (by omega)) (TB1 := (tbM (mD (.inl (0, 0)) (.inl ((-2147483648), 2147483647)) (.inl ((-2147483648), 2147483647)) (.inl (u, u)) (.inl tk) (.inl xt)) (xD 660 X0) ws kp as (xD 660 g_2) sc)) rfl clX7 (by decide) wd_7_21 rfl rfl rfl rfl dX7_tell_7 (fun H locs hH hS => ?_)
  refine lv_iload_n F.1 F.2.1 dX7_tell_10 rfl (lv_at hl 0 rfl) ?_
  refine z_ne (tgt := 22) F dX7_tell_11 (by decide) (fun c_5 => ?_) (fun c_5 => ?_)
  · skip
    have r_6 : 1 ≤ z_1.toInt ∧ z_1.toInt ≤ 1 := by have h9_ := f_3; omega
    refine lv_iconst (v := 0) F.1 F.2.1 dX7_tell_22 (by decide) ?_
    refine topK (a := 0) (by decide) (fun k_8 hk_8 => ?_)
    refine lv_istore_n (lv' := [(2, .int k_8), (1, .int z_1), (0, .ref a0)]) F.1 F.2.1 dX7_tell_23 rfl hl (by decide) rfl (fun ls hl => ?_)
    refine wloop (σ := Int32 × (Nat → Int32)) (fun n9 x9 H locs ls => (660 - x9.1.toInt + 1).toNat < n9 ∧ (0 ≤ x9.1.toInt ∧ x9.1.toInt ≤ 660) ∧ (True) ∧ (cp X0 x9.2 g_2 0 0 (x9.1.toInt)) ∧ TH E (tbM (mD (.inl (0, 0)) (.inl ((-2147483648), 2147483647)) (.inl ((-2147483648), 2147483647)) (.inl (u, u)) (.inl tk) (.inl xt)) (xD 660 x9.2) ws kp as (xD 660 g_2) sc) H ∧ va_S (eA E s.heap.size) s.heap H locs ∧ lv_has ls 3 [(0, .ref a0), (2, .int x9.1)]) ?_ (fun x9 H locs ls h => absurd h.1 (Nat.not_lt_zero _)) _ (k_8, X0) ⟨Nat.lt_succ_self _, (wkb (eqb hk_8) rfl rfl), trivial, (show cp X0 X0 g_2 0 0 (k_8.toInt) from cp.zero (by omega)), hH, hS, lv_sub hl [2, 0] rfl⟩
    intro n_24 ih_24 ⟨u_9, G_10⟩ H locs ls ⟨hm_24, hu_9, hG_10, hcr24_0, hH, hS, hl⟩
    have hm_24 : (660 - u_9.toInt + 1).toNat < n_24 + 1 := hm_24
    have hu_9 : (0 ≤ u_9.toInt ∧ u_9.toInt ≤ 660) := hu_9
    have hG_10 : (True) := hG_10
    have hcr24_0 : (cp X0 G_10 g_2 0 0 (u_9.toInt)) := hcr24_0
    have hH : TH E (tbM (mD (.inl (0, 0)) (.inl ((-2147483648), 2147483647)) (.inl ((-2147483648), 2147483647)) (.inl (u, u)) (.inl tk) (.inl xt)) (xD 660 G_10) ws kp as (xD 660 g_2) sc) H := hH
    have hl : lv_has ls 3 [(0, .ref a0), (2, .int u_9)] := hl
    refine lv_iload_n F.1 F.2.1 dX7_tell_24 rfl (lv_at hl 1 rfl) ?_
    refine lv_sipush (v := 660) F.1 F.2.1 dX7_tell_25 (by decide) ?_
    refine topK (a := 660) (by decide) (fun k_11 hk_11 => ?_)
    refine b_ge (tgt := 49) F dX7_tell_28 (by decide) (fun c_12 => ?_) (fun c_12 => ?_)
    · skip
      have r_13 : 660 ≤ u_9.toInt ∧ u_9.toInt ≤ 660 := by have h9_ := hu_9; omega
      have hRG_10 : okR G_10 := okR.cpA hg_2 hcr24_0 (by omega)
      have hBG_10 := okB hRG_10.1
      have hLG_10 := hRG_10.2
      refine lv_iconst (v := 0) F.1 F.2.1 dX7_tell_49 (by decide) ?_
      refine topK (a := 0) (by decide) (fun k_15 hk_15 => ?_)
      refine lv_istore_n (lv' := [(2, .int k_15), (0, .ref a0)]) F.1 F.2.1 dX7_tell_50 rfl hl (by decide) rfl (fun ls hl => ?_)
      refine wloop (σ := Int32) (fun n9 x9 H locs ls => (9 - x9.toInt + 1).toNat < n9 ∧ (0 ≤ x9.toInt ∧ x9.toInt ≤ 9) ∧ TH E (tbM (mD (.inl (0, 0)) (.inl ((-2147483648), 2147483647)) (.inl ((-2147483648), 2147483647)) (.inl (u, u)) (.inl tk) (.inl xt)) (xD 660 G_10) ws kp as (xD 660 g_2) sc) H ∧ va_S (eA E s.heap.size) s.heap H locs ∧ lv_has ls 3 [(0, .ref a0), (2, .int x9)]) ?_ (fun x9 H locs ls h => absurd h.1 (Nat.not_lt_zero _)) _ (k_15) ⟨Nat.lt_succ_self _, (wkb (eqb hk_15) rfl rfl), hH, hS, lv_sub hl [1, 0] rfl⟩
      intro n_51 ih_51 u_16 H locs ls ⟨hm_51, hu_16, hH, hS, hl⟩
      have hm_51 : (9 - u_16.toInt + 1).toNat < n_51 + 1 := hm_51
      have hu_16 : (0 ≤ u_16.toInt ∧ u_16.toInt ≤ 9) := hu_16
      have hH : TH E (tbM (mD (.inl (0, 0)) (.inl ((-2147483648), 2147483647)) (.inl ((-2147483648), 2147483647)) (.inl (u, u)) (.inl tk) (.inl xt)) (xD 660 G_10) ws kp as (xD 660 g_2) sc) H := hH
      have hl : lv_has ls 3 [(0, .ref a0), (2, .int u_16)] := hl
      refine lv_iload_n F.1 F.2.1 dX7_tell_51 rfl (lv_at hl 1 rfl) ?_
      refine lv_bipush (v := 6) F.1 F.2.1 dX7_tell_52 (by decide) ?_
      refine topK (a := 6) (by decide) (fun k_17 hk_17 => ?_)
      refine b_ge (tgt := 70) F dX7_tell_54 (by decide) (fun c_18 => ?_) (fun c_18 => ?_)
      · skip
        have r_19 : 6 ≤ u_16.toInt ∧ u_16.toInt ≤ 9 := by have h9_ := hu_16; omega
        refine lv_aload_n F.1 F.2.1 dX7_tell_70 rfl (lv_at hl 0 rfl) ?_
        refine lv_iconst (v := 0) F.1 F.2.1 dX7_tell_71 (by decide) ?_
        refine topK (a := 0) (by decide) (fun k_21 hk_21 => ?_)
        refine tPutG (j := 4) (t := 24) (fd := (.inl (0, 0))) F hK hH hS (List.mem_singleton.mp ha0) (by decide) rfl rfl (fdI (by omega)) (TB1 := (tbM (mD (.inl (0, 0)) (.inl ((-2147483648), 2147483647)) (.inl ((-2147483648), 2147483647)) (.inl (0, 0)) (.inl tk) (.inl xt)) (xD 660 G_10) ws kp as (xD 660 g_2) sc)) rfl clX7 (by decide) wd_15_15 rfl rfl rfl rfl dX7_tell_72 (fun H locs hH hS => ?_)
        refine lv_aload_n F.1 F.2.1 dX7_tell_75 rfl (lv_at hl 0 rfl) ?_
        refine tVi (b := a0) (As := []) (rest := []) F hK hN hO (c_X7_rights E ws kp as (xD 660 g_2) sc (0, 0) tk xt (0, 0) (((-2147483648), 2147483647)) (((-2147483648), 2147483647)) G_10 a0 ha0 ((hRG_10).1)) mv_X7_rights wd_19_4 ⟨Nat.le_of_ble_eq_true rfl, Nat.le_of_ble_eq_true rfl⟩ ⟨Nat.le_of_ble_eq_true rfl, Nat.le_of_ble_eq_true rfl⟩ hH hS (tRecv hK hH (tyb ha0 (all1 rfl)) clX7) rfl hl.1 (Nat.le_of_ble_eq_true rfl) dX7_tell_76 (fun z_22 H locs hq hS => ?_)
        obtain ⟨f_23, f_24, hH⟩ := hq
        have hH : TH E (tbM (mD (.inl (0, 0)) (.inl ((-2147483648), 2147483647)) (.inl ((-2147483648), 2147483647)) (.inl (0, 0)) (.inl tk) (.inl xt)) (xD 660 G_10) ws kp as (xD 660 g_2) sc) H := hH
        exact txI F hS dX7_tell_79 rfl (⟨0, (by omega), G_10, hRG_10, g_2, hg_2, (wkb f_23 rfl rfl), hH⟩)
      · skip
        have r_20 : 0 ≤ u_16.toInt ∧ u_16.toInt ≤ 5 := by have h9_ := hu_16; omega
        refine lv_aload_n F.1 F.2.1 dX7_tell_57 rfl (lv_at hl 0 rfl) ?_
        refine tGetR (j := 1) F hK hH (tyb ha0 (all1 rfl)) rfl (all1 rfl) clX7 (by decide) wd_6_6 dX7_tell_58 (fun q_25 hq_25 _ => ?_)
        refine lv_iload_n F.1 F.2.1 dX7_tell_61 rfl (lv_at hl 1 rfl) ?_
        refine lv_lconst (v := 0) F.1 F.2.1 dX7_tell_62 (by decide) ?_
        refine topKL (a := 0) (by decide) (fun j_26 hj_26 => ?_)
        refine tLast F hK hH hS (tyb hq_25 (all1 rfl)) (ixb (n := 6) r_20 rfl rfl) dX7_tell_63 (fun H locs hH hS => ?_)
        obtain ⟨x_27, ex_27, hx_27⟩ := iincB (c := 1) (lo := 1) (hi := 6) r_20 rfl
        refine lv_iinc (v := x_27) (lv' := [(2, .int x_27), (0, .ref a0)]) F.1 F.2.1 dX7_tell_64 hl (k := 1) rfl ex_27 (by decide) rfl (fun ls hl => ?_)
        refine lv_goto (tgt := 51) F.1 F.2.1 dX7_tell_67 (by decide) ?_
        exact ih_51 (x_27) _ _ _ ⟨(show (9 - x_27.toInt + 1).toNat < n_51 from by omega), (wkb hx_27.2 rfl rfl), hH, hS, lv_sub hl [1, 0] rfl⟩
    · skip
      have r_14 : 0 ≤ u_9.toInt ∧ u_9.toInt ≤ 659 := by have h9_ := hu_9; omega
      refine lv_aload_n F.1 F.2.1 dX7_tell_31 rfl (lv_at hl 0 rfl) ?_
      refine tGetR (j := 0) F hK hH (tyb ha0 (all1 rfl)) rfl (all1 rfl) clX7 (by decide) wd_6_5 dX7_tell_32 (fun q_28 hq_28 _ => ?_)
      refine lv_iload_n F.1 F.2.1 dX7_tell_35 rfl (lv_at hl 1 rfl) ?_
      refine lv_aload_n F.1 F.2.1 dX7_tell_36 rfl (lv_at hl 0 rfl) ?_
      refine tGetR (j := 36) F hK hH (tyb ha0 (all1 rfl)) rfl (all1 rfl) clX7 (by decide) wd_7_5 dX7_tell_37 (fun q_29 hq_29 _ => ?_)
      refine lv_iload_n F.1 F.2.1 dX7_tell_40 rfl (lv_at hl 1 rfl) ?_
      refine tIaldX F hK hH (tyb hq_29 (all1 rfl)) (ixb (n := 660) r_14 rfl rfl) dX7_tell_41 (fun z_30 ez_30 => ?_)
      refine tIastX (t := 25) F hK hH hS (List.mem_singleton.mp hq_28) (by decide) rfl (ixb (n := 660) r_14 rfl rfl) dX7_tell_42 (fun G_31 eG_31 H locs hH hS => ?_)
      have hH : TH E (tbM (mD (.inl (0, 0)) (.inl ((-2147483648), 2147483647)) (.inl ((-2147483648), 2147483647)) (.inl (u, u)) (.inl tk) (.inl xt)) (xD 660 G_31) ws kp as (xD 660 g_2) sc) H := hH
      obtain ⟨x_32, ex_32, hx_32⟩ := iincB (c := 1) (lo := 1) (hi := 660) r_14 rfl
      refine lv_iinc (v := x_32) (lv' := [(2, .int x_32), (0, .ref a0)]) F.1 F.2.1 dX7_tell_43 hl (k := 1) rfl ex_32 (by decide) rfl (fun ls hl => ?_)
      refine lv_goto (tgt := 24) F.1 F.2.1 dX7_tell_46 (by decide) ?_
      exact ih_24 (x_32, G_31) _ _ _ ⟨(show (660 - x_32.toInt + 1).toNat < n_24 from by omega), (wkb hx_32.2 rfl rfl), trivial, (show cp X0 G_31 g_2 0 0 (x_32.toInt) from cp.step hcr24_0 eG_31 ez_30 (by omega) (by omega) (by omega) (by omega)), hH, hS, lv_sub hl [1, 0] rfl⟩
  · skip
    have r_7 : 0 ≤ z_1.toInt ∧ z_1.toInt ≤ 0 := by have h9_ := f_3; omega
    refine lv_bipush (v := (-2)) F.1 F.2.1 dX7_tell_14 (by decide) ?_
    refine topK (a := (-2)) (by decide) (fun k_33 hk_33 => ?_)
    refine lv_aload_n F.1 F.2.1 dX7_tell_16 rfl (lv_at hl 1 rfl) ?_
    refine tGetI (j := 32) F hK hH (tyb ha0 (all1 rfl)) rfl clX7 (by decide) wd_15_14 dX7_tell_17 (fun z_34 hz_34 => ?_)
    refine lv_isub F.1 F.2.1 dX7_tell_20 ?_
    refine topF (fun z_35 => ?_)
    exact txI F hS dX7_tell_21 rfl (⟨u, (by omega), X0, hX0, g_2, hg_2, (i32b _), hH⟩)
set_option maxHeartbeats 4000000 in
set_option maxRecDepth 100000 in
theorem c_X7_puts (E : Ev) (nw : TD) (ws : TD) (kp : TD) (as : TD) (rd : TD) (sc : TD) (un : Int × Int) (tk : Int × Int) (xt : Int × Int) (sp : Int × Int) (nu : Int × Int) (t : Int) (a0 : Nat) (a1 : Int32) (ha0 : eT E a0 ∈ [24]) (ht : 0 ≤ t ∧ t ≤ 396) : TcV E yX7_puts cX7_puts 3 ({ frames := 1, cells := 0, slots := 0, locals := 40 }) [.ref a0, .int a1] (fun H => TH E (tbM (mD (.inl (t, t)) (.inl sp) (.inl nu) (.inl un) (.inl tk) (.inl xt)) nw ws kp as rd sc) H) (fun H => TH E (tbM (mD (.inl ((t + 4), (t + 4))) (.inl sp) (.inl nu) (.inl un) (.inl tk) (.inl xt)) nw ws kp as rd sc) H) := by
  refine teV (by decide) (Nat.le_of_ble_eq_true rfl) ?_
  intro p_ ev_ s mi_ below_ meth cd_ ls F hK hN hO hH hS hl
  have hH : TH E (tbM (mD (.inl (t, t)) (.inl sp) (.inl nu) (.inl un) (.inl tk) (.inl xt)) nw ws kp as rd sc) s.heap := hH
  have hl : lv_has ls 3 [(0, .ref a0), (1, .int a1)] := hl
  refine lv_bipush (v := 24) F.1 F.2.1 dX7_puts_0 (by decide) ?_
  refine topK (a := 24) (by decide) (fun k_1 hk_1 => ?_)
  refine lv_istore_n (lv' := [(2, .int k_1), (0, .ref a0), (1, .int a1)]) F.1 F.2.1 dX7_puts_2 rfl hl (by decide) rfl (fun ls hl => ?_)
  refine wloop (σ := Int32 × Int) (fun n9 x9 H locs ls => (x9.1.toInt - (-8) + 1).toNat < n9 ∧ ((-8) ≤ x9.1.toInt ∧ x9.1.toInt ≤ 24) ∧ (0 ≤ x9.2 ∧ x9.2 ≤ 400) ∧ (8 * x9.2 + x9.1.toInt = 8 * t + 24) ∧ TH E (tbM (mD (.inl (x9.2, x9.2)) (.inl sp) (.inl nu) (.inl un) (.inl tk) (.inl xt)) nw ws kp as rd sc) H ∧ va_S (eA E s.heap.size) s.heap H locs ∧ lv_has ls 3 [(0, .ref a0), (1, .int a1), (2, .int x9.1)]) ?_ (fun x9 H locs ls h => absurd h.1 (Nat.not_lt_zero _)) _ (k_1, t) ⟨Nat.lt_succ_self _, (wkb (eqb hk_1) rfl rfl), (show 0 ≤ t ∧ t ≤ 400 from by omega), (show 8 * t + k_1.toInt = 8 * t + 24 from by omega), hH, hS, lv_sub hl [1, 2, 0] rfl⟩
  intro n_3 ih_3 ⟨u_2, g_3⟩ H locs ls ⟨hm_3, hu_2, hg_3, hcr3_0, hH, hS, hl⟩
  have hm_3 : (u_2.toInt - (-8) + 1).toNat < n_3 + 1 := hm_3
  have hu_2 : ((-8) ≤ u_2.toInt ∧ u_2.toInt ≤ 24) := hu_2
  have hg_3 : (0 ≤ g_3 ∧ g_3 ≤ 400) := hg_3
  have hcr3_0 : (8 * g_3 + u_2.toInt = 8 * t + 24) := hcr3_0
  have hH : TH E (tbM (mD (.inl (g_3, g_3)) (.inl sp) (.inl nu) (.inl un) (.inl tk) (.inl xt)) nw ws kp as rd sc) H := hH
  have hl : lv_has ls 3 [(0, .ref a0), (1, .int a1), (2, .int u_2)] := hl
  refine lv_iload_n F.1 F.2.1 dX7_puts_3 rfl (lv_at hl 2 rfl) ?_
  refine z_lt (tgt := 36) F dX7_puts_4 (by decide) (fun c_4 => ?_) (fun c_4 => ?_)
  · skip
    have r_5 : (-8) ≤ u_2.toInt ∧ u_2.toInt ≤ (-1) := by have h9_ := hu_2; omega
    have e_7 : g_3 = (t + 4) := by omega
    rw [e_7] at hH
    exact txV F hS dX7_puts_36 (hH)
  · skip
    have r_6 : 0 ≤ u_2.toInt ∧ u_2.toInt ≤ 24 := by have h9_ := hu_2; omega
    refine lv_aload_n F.1 F.2.1 dX7_puts_7 rfl (lv_at hl 0 rfl) ?_
    refine tGetR (j := 29) F hK hH (tyb ha0 (all1 rfl)) rfl (all1 rfl) clX7 (by decide) wd_7_4 dX7_puts_8 (fun q_8 hq_8 _ => ?_)
    refine lv_aload_n F.1 F.2.1 dX7_puts_11 rfl (lv_at hl 0 rfl) ?_
    refine tGetI (j := 30) F hK hH (tyb ha0 (all1 rfl)) rfl clX7 (by decide) wd_7_21 dX7_puts_12 (fun z_9 hz_9 => ?_)
    have ez_9 : 0 ≤ z_9.toInt ∧ z_9.toInt ≤ 400 := by omega
    refine lv_iload_n F.1 F.2.1 dX7_puts_15 rfl (lv_at hl 1 rfl) ?_
    refine lv_iload_n F.1 F.2.1 dX7_puts_16 rfl (lv_at hl 2 rfl) ?_
    refine lv_ishr F.1 F.2.1 dX7_puts_17 ?_
    refine topF (fun z_10 => ?_)
    refine lv_i2b F.1 F.2.1 dX7_puts_18 rfl ?_
    refine topF (fun z_11 => ?_)
    refine tBastB F hK hH hS (tyb hq_8 (all1 rfl)) (by omega) (narB _) dX7_puts_19 (fun H locs hH hS => ?_)
    refine lv_aload_n F.1 F.2.1 dX7_puts_20 rfl (lv_at hl 0 rfl) ?_
    refine lv_dup F.1 F.2.1 dX7_puts_21 rfl ?_
    refine tGetI (j := 30) F hK hH (tyb ha0 (all1 rfl)) rfl clX7 (by decide) wd_7_21 dX7_puts_22 (fun z_12 hz_12 => ?_)
    have ez_12 : 0 ≤ z_12.toInt ∧ z_12.toInt ≤ 400 := by omega
    refine lv_iconst (v := 1) F.1 F.2.1 dX7_puts_25 (by decide) ?_
    refine topK (a := 1) (by decide) (fun k_13 hk_13 => ?_)
    refine tAdd (lo := 1) (hi := 401) F dX7_puts_26 ez_12 (eqb hk_13) rfl (fun z_14 hz_14 => ?_)
    obtain ⟨g_15, hg_15⟩ : ∃ y : Int, z_14.toInt = y := ⟨_, rfl⟩
    have bg_15 : 1 ≤ g_15 ∧ g_15 ≤ 401 := by rw [← hg_15]; exact hz_14.2
    refine tPutG (j := 30) (t := 24) (fd := (.inl (g_15, g_15))) F hK hH hS (List.mem_singleton.mp ha0) (by decide) rfl rfl (fdI (by omega)) (TB1 := (tbM (mD (.inl (g_15, g_15)) (.inl sp) (.inl nu) (.inl un) (.inl tk) (.inl xt)) nw ws kp as rd sc)) rfl clX7 (by decide) wd_7_21 rfl rfl rfl rfl dX7_puts_27 (fun H locs hH hS => ?_)
    obtain ⟨x_16, ex_16, hx_16⟩ := iincB (c := (-8)) (lo := (-8)) (hi := 16) r_6 rfl
    refine lv_iinc (v := x_16) (lv' := [(2, .int x_16), (0, .ref a0), (1, .int a1)]) F.1 F.2.1 dX7_puts_30 hl (k := 2) rfl ex_16 (by decide) rfl (fun ls hl => ?_)
    refine lv_goto (tgt := 3) F.1 F.2.1 dX7_puts_33 (by decide) ?_
    exact ih_3 (x_16, g_15) _ _ _ ⟨(show (x_16.toInt - (-8) + 1).toNat < n_3 from by omega), (wkb hx_16.2 rfl rfl), (show 0 ≤ g_15 ∧ g_15 ≤ 400 from by omega), (show 8 * g_15 + x_16.toInt = 8 * t + 24 from by omega), hH, hS, lv_sub hl [1, 2, 0] rfl⟩
set_option maxHeartbeats 4000000 in
set_option maxRecDepth 100000 in
theorem c_X7_feed (E : Ev) (nw : TD) (ws : TD) (kp : TD) (as : TD) (rd : TD) (sc : TD) (un : Int × Int) (tk : Int × Int) (xt : Int × Int) (sp : Int × Int) (nu : Int × Int) (t : Int) (a0 : Nat) (a1 : Int32) (a2 : Int32) (a3 : Int32) (a4 : Int32) (a5 : Int32) (ha0 : eT E a0 ∈ [24]) (ht : 0 ≤ t ∧ t ≤ 400) : TcI E yX7_feed cX7_feed 6 .int ({ frames := 2, cells := 0, slots := 0, locals := 62 }) [.ref a0, .int a1, .int a2, .int a3, .int a4, .int a5] (fun H => TH E (tbM (mD (.inl (t, t)) (.inl sp) (.inl nu) (.inl un) (.inl tk) (.inl xt)) nw ws kp as rd sc) H) (fun v H => ∃ t2 : Int, (0 ≤ t2 ∧ t2 ≤ 400) ∧ ((-2147483648) ≤ v.toInt ∧ v.toInt ≤ 2147483647) ∧ ((t + 20 ≤ 400 ∧ t2 = t + 20 ∧ v.toInt = t2) ∨ (400 < t + 20 ∧ t2 = t ∧ v.toInt = -1)) ∧ TH E (tbM (mD (.inl (t2, t2)) (.inl sp) (.inl nu) (.inl un) (.inl tk) (.inl xt)) nw ws kp as rd sc) H) := by
  refine teI (by decide) (Nat.le_of_ble_eq_true rfl) ?_
  intro p_ ev_ s mi_ below_ meth cd_ ls F hK hN hO hH hS hl
  have hH : TH E (tbM (mD (.inl (t, t)) (.inl sp) (.inl nu) (.inl un) (.inl tk) (.inl xt)) nw ws kp as rd sc) s.heap := hH
  have hl : lv_has ls 6 [(0, .ref a0), (1, .int a1), (2, .int a2), (3, .int a3), (4, .int a4), (5, .int a5)] := hl
  refine lv_aload_n F.1 F.2.1 dX7_feed_0 rfl (lv_at hl 0 rfl) ?_
  refine tGetI (j := 30) F hK hH (tyb ha0 (all1 rfl)) rfl clX7 (by decide) wd_7_21 dX7_feed_1 (fun z_1 hz_1 => ?_)
  have ez_1 : 0 ≤ z_1.toInt ∧ z_1.toInt ≤ 400 := by omega
  refine lv_sipush (v := 380) F.1 F.2.1 dX7_feed_4 (by decide) ?_
  refine topK (a := 380) (by decide) (fun k_2 hk_2 => ?_)
  refine b_le (tgt := 12) F dX7_feed_7 (by decide) (fun c_3 => ?_) (fun c_3 => ?_)
  · skip
    have r_4 : 0 ≤ z_1.toInt ∧ z_1.toInt ≤ 380 := by have h9_ := ez_1; omega
    refine lv_aload_n F.1 F.2.1 dX7_feed_12 rfl (lv_at hl 0 rfl) ?_
    refine lv_iload_n F.1 F.2.1 dX7_feed_13 rfl (lv_at hl 1 rfl) ?_
    refine tVv (b := a0) (As := [.int a1]) (rest := []) F hK hN hO (c_X7_puts E nw ws kp as rd sc un tk xt sp nu t a0 a1 ha0 (by omega)) mv_X7_puts wd_7_22 ⟨Nat.le_of_ble_eq_true rfl, Nat.le_of_ble_eq_true rfl⟩ ⟨Nat.le_of_ble_eq_true rfl, Nat.le_of_ble_eq_true rfl⟩ hH hS (tRecv hK hH (tyb ha0 (all1 rfl)) clX7) rfl hl.1 (Nat.le_of_ble_eq_true rfl) dX7_feed_14 (fun H locs hq hS => ?_)
    have hH := hq
    have hH : TH E (tbM (mD (.inl ((t + 4), (t + 4))) (.inl sp) (.inl nu) (.inl un) (.inl tk) (.inl xt)) nw ws kp as rd sc) H := hH
    refine lv_aload_n F.1 F.2.1 dX7_feed_17 rfl (lv_at hl 0 rfl) ?_
    refine lv_iload_n F.1 F.2.1 dX7_feed_18 rfl (lv_at hl 2 rfl) ?_
    refine tVv (b := a0) (As := [.int a2]) (rest := []) F hK hN hO (c_X7_puts E nw ws kp as rd sc un tk xt sp nu (t + 4) a0 a2 ha0 (by omega)) mv_X7_puts wd_7_22 ⟨Nat.le_of_ble_eq_true rfl, Nat.le_of_ble_eq_true rfl⟩ ⟨Nat.le_of_ble_eq_true rfl, Nat.le_of_ble_eq_true rfl⟩ hH hS (tRecv hK hH (tyb ha0 (all1 rfl)) clX7) rfl hl.1 (Nat.le_of_ble_eq_true rfl) dX7_feed_19 (fun H locs hq hS => ?_)
    have hH := hq
    have hH : TH E (tbM (mD (.inl (((t + 4) + 4), ((t + 4) + 4))) (.inl sp) (.inl nu) (.inl un) (.inl tk) (.inl xt)) nw ws kp as rd sc) H := hH
    refine lv_aload_n F.1 F.2.1 dX7_feed_22 rfl (lv_at hl 0 rfl) ?_
    refine lv_iload_n F.1 F.2.1 dX7_feed_23 rfl (lv_at hl 3 rfl) ?_
    refine tVv (b := a0) (As := [.int a3]) (rest := []) F hK hN hO (c_X7_puts E nw ws kp as rd sc un tk xt sp nu (((t + 4) + 4)) a0 a3 ha0 (by omega)) mv_X7_puts wd_7_22 ⟨Nat.le_of_ble_eq_true rfl, Nat.le_of_ble_eq_true rfl⟩ ⟨Nat.le_of_ble_eq_true rfl, Nat.le_of_ble_eq_true rfl⟩ hH hS (tRecv hK hH (tyb ha0 (all1 rfl)) clX7) rfl hl.1 (Nat.le_of_ble_eq_true rfl) dX7_feed_24 (fun H locs hq hS => ?_)
    have hH := hq
    have hH : TH E (tbM (mD (.inl ((((t + 4) + 4) + 4), (((t + 4) + 4) + 4))) (.inl sp) (.inl nu) (.inl un) (.inl tk) (.inl xt)) nw ws kp as rd sc) H := hH
    refine lv_aload_n F.1 F.2.1 dX7_feed_27 rfl (lv_at hl 0 rfl) ?_
    refine lv_iload F.1 F.2.1 dX7_feed_28 (lv_at hl 4 rfl) ?_
    refine tVv (b := a0) (As := [.int a4]) (rest := []) F hK hN hO (c_X7_puts E nw ws kp as rd sc un tk xt sp nu ((((t + 4) + 4) + 4)) a0 a4 ha0 (by omega)) mv_X7_puts wd_7_22 ⟨Nat.le_of_ble_eq_true rfl, Nat.le_of_ble_eq_true rfl⟩ ⟨Nat.le_of_ble_eq_true rfl, Nat.le_of_ble_eq_true rfl⟩ hH hS (tRecv hK hH (tyb ha0 (all1 rfl)) clX7) rfl hl.1 (Nat.le_of_ble_eq_true rfl) dX7_feed_30 (fun H locs hq hS => ?_)
    have hH := hq
    have hH : TH E (tbM (mD (.inl (((((t + 4) + 4) + 4) + 4), ((((t + 4) + 4) + 4) + 4))) (.inl sp) (.inl nu) (.inl un) (.inl tk) (.inl xt)) nw ws kp as rd sc) H := hH
    refine lv_aload_n F.1 F.2.1 dX7_feed_33 rfl (lv_at hl 0 rfl) ?_
    refine lv_iload F.1 F.2.1 dX7_feed_34 (lv_at hl 5 rfl) ?_
    refine tVv (b := a0) (As := [.int a5]) (rest := []) F hK hN hO (c_X7_puts E nw ws kp as rd sc un tk xt sp nu (((((t + 4) + 4) + 4) + 4)) a0 a5 ha0 (by omega)) mv_X7_puts wd_7_22 ⟨Nat.le_of_ble_eq_true rfl, Nat.le_of_ble_eq_true rfl⟩ ⟨Nat.le_of_ble_eq_true rfl, Nat.le_of_ble_eq_true rfl⟩ hH hS (tRecv hK hH (tyb ha0 (all1 rfl)) clX7) rfl hl.1 (Nat.le_of_ble_eq_true rfl) dX7_feed_36 (fun H locs hq hS => ?_)
    have hH := hq
    have hH : TH E (tbM (mD (.inl ((((((t + 4) + 4) + 4) + 4) + 4), (((((t + 4) + 4) + 4) + 4) + 4))) (.inl sp) (.inl nu) (.inl un) (.inl tk) (.inl xt)) nw ws kp as rd sc) H := hH
    refine lv_aload_n F.1 F.2.1 dX7_feed_39 rfl (lv_at hl 0 rfl) ?_
    refine tGetI (j := 30) F hK hH (tyb ha0 (all1 rfl)) rfl clX7 (by decide) wd_7_21 dX7_feed_40 (fun z_11 hz_11 => ?_)
    have ez_11 : 20 ≤ z_11.toInt ∧ z_11.toInt ≤ 400 := by omega
    exact txI F hS dX7_feed_43 rfl (⟨(((((t + 4) + 4) + 4) + 4) + 4), (by omega), (wkb ez_11 rfl rfl), (by omega), hH⟩)
  · skip
    have r_5 : 381 ≤ z_1.toInt ∧ z_1.toInt ≤ 400 := by have h9_ := ez_1; omega
    refine lv_iconst (v := (-1)) F.1 F.2.1 dX7_feed_10 (by decide) ?_
    refine topK (a := (-1)) (by decide) (fun k_12 hk_12 => ?_)
    exact txI F hS dX7_feed_11 rfl (⟨t, (by omega), (wkb (eqb hk_12) rfl rfl), (by omega), hH⟩)
set_option maxHeartbeats 4000000 in
set_option maxRecDepth 100000 in
theorem c_X7_end (E : Ev) (nw : TD) (ws : TD) (kp : TD) (as : TD) (rd : TD) (sc : TD) (un : Int × Int) (tk : Int × Int) (xt : Int × Int) (sp : Int × Int) (nu : Int × Int) (t : Int) (a0 : Nat) (a1 : Int32) (ha0 : eT E a0 ∈ [24]) (ht : 0 ≤ t ∧ t ≤ 400) : TcI E yX7_end cX7_end 2 .int ({ frames := 2, cells := 0, slots := 0, locals := 65 }) [.ref a0, .int a1] (fun H => TH E (tbM (mD (.inl (t, t)) (.inl sp) (.inl nu) (.inl un) (.inl tk) (.inl xt)) nw ws kp as rd sc) H) (fun v H => ∃ t2 : Int, (0 ≤ t2 ∧ t2 ≤ 400) ∧ ((-2147483648) ≤ v.toInt ∧ v.toInt ≤ 2147483647) ∧ ((0 ≤ a1.toInt ∧ a1.toInt ≤ t ∧ t2 = a1.toInt ∧ v.toInt = a1.toInt) ∨ ((a1.toInt < 0 ∨ t < a1.toInt) ∧ t2 = t ∧ v.toInt = -1)) ∧ TH E (tbM (mD (.inl (t2, t2)) (.inl sp) (.inl nu) (.inl un) (.inl tk) (.inl xt)) nw ws kp as rd sc) H) := by
  refine teI (by decide) (Nat.le_of_ble_eq_true rfl) ?_
  intro p_ ev_ s mi_ below_ meth cd_ ls F hK hN hO hH hS hl
  have hH : TH E (tbM (mD (.inl (t, t)) (.inl sp) (.inl nu) (.inl un) (.inl tk) (.inl xt)) nw ws kp as rd sc) s.heap := hH
  have hl : lv_has ls 2 [(0, .ref a0), (1, .int a1)] := hl
  refine lv_iload_n F.1 F.2.1 dX7_end_0 rfl (lv_at hl 1 rfl) ?_
  refine tI2l F dX7_end_1 (fun w_1 hw_1 => ?_)
  refine lv_lconst (v := 0) F.1 F.2.1 dX7_end_2 (by decide) ?_
  refine topKL (a := 0) (by decide) (fun j_2 hj_2 => ?_)
  refine lv_aload_n F.1 F.2.1 dX7_end_3 rfl (lv_at hl 0 rfl) ?_
  refine tGetI (j := 30) F hK hH (tyb ha0 (all1 rfl)) rfl clX7 (by decide) wd_7_21 dX7_end_4 (fun z_3 hz_3 => ?_)
  have ez_3 : 0 ≤ z_3.toInt ∧ z_3.toInt ≤ 400 := by omega
  refine tI2l F dX7_end_7 (fun w_4 hw_4 => ?_)
  refine tSi (As := [.long w_1, .long j_2, .long w_4]) (rest := []) F hK hN hO (c_X7_in E (mD (.inl (t, t)) (.inl sp) (.inl nu) (.inl un) (.inl tk) (.inl xt)) nw ws kp as rd sc w_1 j_2 w_4) ms_X7_in wd_8_10 ⟨Nat.le_of_ble_eq_true rfl, Nat.le_of_ble_eq_true rfl⟩ ⟨Nat.le_of_ble_eq_true rfl, Nat.le_of_ble_eq_true rfl⟩ hH hS rfl hl.1 (Nat.le_of_ble_eq_true rfl) dX7_end_8 (fun z_5 H locs hq hS => ?_)
  obtain ⟨f_6, f_7, hH⟩ := hq
  have hH : TH E (tbM (mD (.inl (t, t)) (.inl sp) (.inl nu) (.inl un) (.inl tk) (.inl xt)) nw ws kp as rd sc) H := hH
  refine z_ne (tgt := 16) F dX7_end_11 (by decide) (fun c_8 => ?_) (fun c_8 => ?_)
  · skip
    have r_9 : 1 ≤ z_5.toInt ∧ z_5.toInt ≤ 1 := by have h9_ := f_6; omega
    have r_10 : 0 ≤ a1.toInt ∧ a1.toInt ≤ 400 := by have h9_ := (i32b a1); omega
    refine lv_aload_n F.1 F.2.1 dX7_end_16 rfl (lv_at hl 0 rfl) ?_
    refine lv_iload_n F.1 F.2.1 dX7_end_17 rfl (lv_at hl 1 rfl) ?_
    obtain ⟨g_12, hg_12⟩ : ∃ y : Int, a1.toInt = y := ⟨_, rfl⟩
    have bg_12 : 0 ≤ g_12 ∧ g_12 ≤ 400 := by rw [← hg_12]; exact r_10
    refine tPutG (j := 30) (t := 24) (fd := (.inl (g_12, g_12))) F hK hH hS (List.mem_singleton.mp ha0) (by decide) rfl rfl (fdI (by omega)) (TB1 := (tbM (mD (.inl (g_12, g_12)) (.inl sp) (.inl nu) (.inl un) (.inl tk) (.inl xt)) nw ws kp as rd sc)) rfl clX7 (by decide) wd_7_21 rfl rfl rfl rfl dX7_end_18 (fun H locs hH hS => ?_)
    refine lv_iload_n F.1 F.2.1 dX7_end_21 rfl (lv_at hl 1 rfl) ?_
    exact txI F hS dX7_end_22 rfl (⟨g_12, (by omega), (wkb r_10 rfl rfl), (by omega), hH⟩)
  · skip
    have r_11 : 0 ≤ z_5.toInt ∧ z_5.toInt ≤ 0 := by have h9_ := f_6; omega
    refine lv_iconst (v := (-1)) F.1 F.2.1 dX7_end_14 (by decide) ?_
    refine topK (a := (-1)) (by decide) (fun k_13 hk_13 => ?_)
    exact txI F hS dX7_end_15 rfl (⟨t, (by omega), (wkb (eqb hk_13) rfl rfl), (by omega), hH⟩)
set_option maxHeartbeats 4000000 in
set_option maxRecDepth 100000 in
theorem c_X7_spell (E : Ev) (ws : TD) (kp : TD) (as : TD) (rd : TD) (sc : TD) (un : Int × Int) (tk : Int × Int) (xt : Int × Int) (tp : Int × Int) (sp : Int × Int) (nu : Int × Int) (X0 : Nat → Int32) (a0 : Nat) (a1 : Int32) (ha0 : eT E a0 ∈ [24]) (hX0 : okR X0) : TcV E yX7_spell cX7_spell 2 ({ frames := 1, cells := 0, slots := 0, locals := 40 }) [.ref a0, .int a1] (fun H => TH E (tbM (mD (.inl tp) (.inl sp) (.inl nu) (.inl un) (.inl tk) (.inl xt)) (xD 660 X0) ws kp as rd sc) H) (fun H => TH E (tbM (mD (.inl tp) (.inl sp) (.inl nu) (.inl un) (.inl tk) (.inl xt)) (xD 660 X0) ws kp as rd sc) H) := by
  refine teV (by decide) (Nat.le_of_ble_eq_true rfl) ?_
  intro p_ ev_ s mi_ below_ meth cd_ ls F hK hN hO hH hS hl
  have hH : TH E (tbM (mD (.inl tp) (.inl sp) (.inl nu) (.inl un) (.inl tk) (.inl xt)) (xD 660 X0) ws kp as rd sc) s.heap := hH
  have hl : lv_has ls 2 [(0, .ref a0), (1, .int a1)] := hl
  have hBX0 := okB hX0.1
  have hLX0 := hX0.2
  refine lv_aload_n F.1 F.2.1 dX7_spell_0 rfl (lv_at hl 0 rfl) ?_
  refine tGetI (j := 37) F hK hH (tyb ha0 (all1 rfl)) rfl clX7 (by decide) wd_55_12 dX7_spell_1 (fun z_1 hz_1 => ?_)
  refine lv_aload_n F.1 F.2.1 dX7_spell_4 rfl (lv_at hl 0 rfl) ?_
  refine tGetI (j := 38) F hK hH (tyb ha0 (all1 rfl)) rfl clX7 (by decide) wd_55_13 dX7_spell_5 (fun z_2 hz_2 => ?_)
  refine wjoin (σ := Unit) (pcj := 16) (stj := fun x9 => []) (fun x9 H locs ls => TH E (tbM (mD (.inl tp) (.inl sp) (.inl nu) (.inl un) (.inl tk) (.inl xt)) (xD 660 X0) ws kp as rd sc) H ∧ va_S (eA E s.heap.size) s.heap H locs ∧ lv_has ls 2 [(0, .ref a0)]) (fun x9 H locs ls h_ => ?_) (fun J_16 => ?_)
  · skip
    obtain ⟨hH, hS, hl⟩ := h_
    have hH : TH E (tbM (mD (.inl tp) (.inl sp) (.inl nu) (.inl un) (.inl tk) (.inl xt)) (xD 660 X0) ws kp as rd sc) H := hH
    have hl : lv_has ls 2 [(0, .ref a0)] := hl
    show W _ _ _ _ _ _ _ _ _ _ _ _ _ _ _ (F0 _ _ _ [])
    refine lv_aload_n F.1 F.2.1 dX7_spell_16 rfl (lv_at hl 0 rfl) ?_
    refine lv_dup F.1 F.2.1 dX7_spell_17 rfl ?_
    refine tGetI (j := 37) F hK hH (tyb ha0 (all1 rfl)) rfl clX7 (by decide) wd_55_12 dX7_spell_18 (fun z_3 hz_3 => ?_)
    refine lv_iconst (v := 1) F.1 F.2.1 dX7_spell_21 (by decide) ?_
    refine topK (a := 1) (by decide) (fun k_4 hk_4 => ?_)
    refine lv_iadd F.1 F.2.1 dX7_spell_22 ?_
    refine topF (fun z_5 => ?_)
    refine tPut (j := 37) F hK hH hS (tyb ha0 (all1 rfl)) rfl (fdI (i32b _)) clX7 (by decide) wd_55_12 rfl rfl rfl rfl dX7_spell_23 (fun H locs hH hS => ?_)
    exact txV F hS dX7_spell_26 (hH)
  refine b_ne (tgt := 16) F dX7_spell_8 (by decide) (fun c_6 => ?_) (fun c_6 => ?_)
  · skip
    exact J_16 () _ _ _ ⟨hH, hS, lv_sub hl [0] rfl⟩
  · skip
    refine lv_aload_n F.1 F.2.1 dX7_spell_11 rfl (lv_at hl 0 rfl) ?_
    refine lv_iload_n F.1 F.2.1 dX7_spell_12 rfl (lv_at hl 1 rfl) ?_
    refine tPut (j := 39) F hK hH hS (tyb ha0 (all1 rfl)) rfl (fdI (i32b _)) clX7 (by decide) wd_55_14 rfl rfl rfl rfl dX7_spell_13 (fun H locs hH hS => ?_)
    exact J_16 () _ _ _ ⟨hH, hS, lv_sub hl [0] rfl⟩
set_option maxHeartbeats 4000000 in
set_option maxRecDepth 100000 in
theorem c_X7_spellWord (E : Ev) (ws : TD) (kp : TD) (as : TD) (rd : TD) (sc : TD) (un : Int × Int) (tk : Int × Int) (xt : Int × Int) (tp : Int × Int) (sp : Int × Int) (nu : Int × Int) (X0 : Nat → Int32) (a0 : Nat) (t1 n1 : Nat) (ha0 : eT E a0 ∈ [24]) (ha1 : strOf t1 n1) (hX0 : okR X0) : TcV E yX7_spellWord cX7_spellWord 3 ({ frames := 5, cells := 0, slots := 0, locals := 181 }) [.ref a0, .ref (eX E t1)] (fun H => TH E (tbM (mD (.inl tp) (.inl sp) (.inl nu) (.inl un) (.inl tk) (.inl xt)) (xD 660 X0) ws kp as rd sc) H) (fun H => TH E (tbM (mD (.inl tp) (.inl sp) (.inl nu) (.inl un) (.inl tk) (.inl xt)) (xD 660 X0) ws kp as rd sc) H) := by
  refine teV (by decide) (Nat.le_of_ble_eq_true rfl) ?_
  intro p_ ev_ s mi_ below_ meth cd_ ls F hK hN hO hH hS hl
  have hH : TH E (tbM (mD (.inl tp) (.inl sp) (.inl nu) (.inl un) (.inl tk) (.inl xt)) (xD 660 X0) ws kp as rd sc) s.heap := hH
  have hl : lv_has ls 3 [(0, .ref a0), (1, .ref (eX E t1))] := hl
  have hBX0 := okB hX0.1
  have hLX0 := hX0.2
  refine lv_iconst (v := 0) F.1 F.2.1 dX7_spellWord_0 (by decide) ?_
  refine topK (a := 0) (by decide) (fun k_1 hk_1 => ?_)
  refine lv_istore_n (lv' := [(2, .int k_1), (0, .ref a0), (1, .ref (eX E t1))]) F.1 F.2.1 dX7_spellWord_1 rfl hl (by decide) rfl (fun ls hl => ?_)
  refine wloop (σ := Int32) (fun n9 x9 H locs ls => (9 - x9.toInt + 1).toNat < n9 ∧ (0 ≤ x9.toInt ∧ x9.toInt ≤ 9) ∧ TH E (tbM (mD (.inl tp) (.inl sp) (.inl nu) (.inl un) (.inl tk) (.inl xt)) (xD 660 X0) ws kp as rd sc) H ∧ va_S (eA E s.heap.size) s.heap H locs ∧ lv_has ls 3 [(0, .ref a0), (1, .ref (eX E t1)), (2, .int x9)]) ?_ (fun x9 H locs ls h => absurd h.1 (Nat.not_lt_zero _)) _ (k_1) ⟨Nat.lt_succ_self _, (wkb (eqb hk_1) rfl rfl), hH, hS, lv_sub hl [1, 2, 0] rfl⟩
  intro n_2 ih_2 u_2 H locs ls ⟨hm_2, hu_2, hH, hS, hl⟩
  have hm_2 : (9 - u_2.toInt + 1).toNat < n_2 + 1 := hm_2
  have hu_2 : (0 ≤ u_2.toInt ∧ u_2.toInt ≤ 9) := hu_2
  have hH : TH E (tbM (mD (.inl tp) (.inl sp) (.inl nu) (.inl un) (.inl tk) (.inl xt)) (xD 660 X0) ws kp as rd sc) H := hH
  have hl : lv_has ls 3 [(0, .ref a0), (1, .ref (eX E t1)), (2, .int u_2)] := hl
  refine lv_iload_n F.1 F.2.1 dX7_spellWord_2 rfl (lv_at hl 2 rfl) ?_
  refine lv_aload_n F.1 F.2.1 dX7_spellWord_3 rfl (lv_at hl 1 rfl) ?_
  refine tVi (b := (eX E t1)) (As := []) (rest := [.int u_2]) F hK hN hO (c_len E (fun H => TH E (tbM (mD (.inl tp) (.inl sp) (.inl nu) (.inl un) (.inl tk) (.inl xt)) (xD 660 X0) ws kp as rd sc) H) t1 n1 ha1) mv_J0_length_8abf5 wd_16_16 ⟨Nat.le_of_ble_eq_true rfl, Nat.le_of_ble_eq_true rfl⟩ ⟨Nat.le_of_ble_eq_true rfl, Nat.le_of_ble_eq_true rfl⟩ hH hS (sRecvS hO ha1 hS) rfl hl.1 (Nat.le_of_ble_eq_true rfl) dX7_spellWord_4 (fun z_3 H locs hq hS => ?_)
  obtain ⟨hz_3, hH⟩ := hq
  have hH : TH E (tbM (mD (.inl tp) (.inl sp) (.inl nu) (.inl un) (.inl tk) (.inl xt)) (xD 660 X0) ws kp as rd sc) H := hH
  have ez_3 : 3 ≤ z_3.toInt ∧ z_3.toInt ≤ 6 := by have h9_ := strLe ha1; omega
  refine b_ge (tgt := 25) F dX7_spellWord_7 (by decide) (fun c_4 => ?_) (fun c_4 => ?_)
  · skip
    have r_5 : 3 ≤ u_2.toInt ∧ u_2.toInt ≤ 9 := by have h9_ := hu_2; omega
    exact txV F hS dX7_spellWord_25 (hH)
  · skip
    have r_6 : 0 ≤ u_2.toInt ∧ u_2.toInt ≤ 5 := by have h9_ := hu_2; omega
    refine lv_aload_n F.1 F.2.1 dX7_spellWord_10 rfl (lv_at hl 0 rfl) ?_
    refine lv_aload_n F.1 F.2.1 dX7_spellWord_11 rfl (lv_at hl 1 rfl) ?_
    refine lv_iload_n F.1 F.2.1 dX7_spellWord_12 rfl (lv_at hl 2 rfl) ?_
    refine tVi (b := (eX E t1)) (As := [.int u_2]) (rest := [.ref a0]) F hK hN hO (c_chr E (fun H => TH E (tbM (mD (.inl tp) (.inl sp) (.inl nu) (.inl un) (.inl tk) (.inl xt)) (xD 660 X0) ws kp as rd sc) H) t1 n1 ha1 u_2 (by omega) (by omega)) mv_J0_charAt_5068e wd_16_17 ⟨Nat.le_of_ble_eq_true rfl, Nat.le_of_ble_eq_true rfl⟩ ⟨Nat.le_of_ble_eq_true rfl, Nat.le_of_ble_eq_true rfl⟩ hH hS (sRecvS hO ha1 hS) rfl hl.1 (Nat.le_of_ble_eq_true rfl) dX7_spellWord_13 (fun z_7 H locs hq hS => ?_)
    obtain ⟨hz_7, hH⟩ := hq
    have hH : TH E (tbM (mD (.inl tp) (.inl sp) (.inl nu) (.inl un) (.inl tk) (.inl xt)) (xD 660 X0) ws kp as rd sc) H := hH
    refine tVv (b := a0) (As := [.int z_7]) (rest := []) F hK hN hO (c_X7_spell E ws kp as rd sc un tk xt tp sp nu X0 a0 z_7 ha0 hX0) mv_X7_spell wd_55_23 ⟨Nat.le_of_ble_eq_true rfl, Nat.le_of_ble_eq_true rfl⟩ ⟨Nat.le_of_ble_eq_true rfl, Nat.le_of_ble_eq_true rfl⟩ hH hS (tRecv hK hH (tyb ha0 (all1 rfl)) clX7) rfl hl.1 (Nat.le_of_ble_eq_true rfl) dX7_spellWord_16 (fun H locs hq hS => ?_)
    have hH := hq
    have hH : TH E (tbM (mD (.inl tp) (.inl sp) (.inl nu) (.inl un) (.inl tk) (.inl xt)) (xD 660 X0) ws kp as rd sc) H := hH
    obtain ⟨x_9, ex_9, hx_9⟩ := iincB (c := 1) (lo := 1) (hi := 6) r_6 rfl
    refine lv_iinc (v := x_9) (lv' := [(2, .int x_9), (0, .ref a0), (1, .ref (eX E t1))]) F.1 F.2.1 dX7_spellWord_19 hl (k := 2) rfl ex_9 (by decide) rfl (fun ls hl => ?_)
    refine lv_goto (tgt := 2) F.1 F.2.1 dX7_spellWord_22 (by decide) ?_
    exact ih_2 (x_9) _ _ _ ⟨(show (9 - x_9.toInt + 1).toNat < n_2 from by omega), (wkb hx_9.2 rfl rfl), hH, hS, lv_sub hl [1, 2, 0] rfl⟩
set_option maxHeartbeats 4000000 in
set_option maxRecDepth 100000 in
theorem c_X7_spellPart (E : Ev) (ws : TD) (kp : TD) (as : TD) (rd : TD) (sc : TD) (un : Int × Int) (tk : Int × Int) (xt : Int × Int) (tp : Int × Int) (sp : Int × Int) (nu : Int × Int) (X0 : Nat → Int32) (a0 : Nat) (t1 n1 : Nat) (ha0 : eT E a0 ∈ [24]) (ha1 : strOf t1 n1) (hX0 : okR X0) : TcV E yX7_spellPart cX7_spellPart 2 ({ frames := 6, cells := 0, slots := 0, locals := 203 }) [.ref a0, .ref (eX E t1)] (fun H => TH E (tbM (mD (.inl tp) (.inl sp) (.inl nu) (.inl un) (.inl tk) (.inl xt)) (xD 660 X0) ws kp as rd sc) H) (fun H => TH E (tbM (mD (.inl tp) (.inl sp) (.inl nu) (.inl un) (.inl tk) (.inl xt)) (xD 660 X0) ws kp as rd sc) H) := by
  refine teV (by decide) (Nat.le_of_ble_eq_true rfl) ?_
  intro p_ ev_ s mi_ below_ meth cd_ ls F hK hN hO hH hS hl
  have hH : TH E (tbM (mD (.inl tp) (.inl sp) (.inl nu) (.inl un) (.inl tk) (.inl xt)) (xD 660 X0) ws kp as rd sc) s.heap := hH
  have hl : lv_has ls 2 [(0, .ref a0), (1, .ref (eX E t1))] := hl
  have hBX0 := okB hX0.1
  have hLX0 := hX0.2
  refine lv_aload_n F.1 F.2.1 dX7_spellPart_0 rfl (lv_at hl 0 rfl) ?_
  refine tGetI (j := 37) F hK hH (tyb ha0 (all1 rfl)) rfl clX7 (by decide) wd_55_12 dX7_spellPart_1 (fun z_1 hz_1 => ?_)
  refine z_le (tgt := 13) F dX7_spellPart_4 (by decide) (fun c_2 => ?_) (fun c_2 => ?_)
  · skip
    have r_3 : (-2147483648) ≤ z_1.toInt ∧ z_1.toInt ≤ 0 := by have h9_ := hz_1; omega
    refine lv_aload_n F.1 F.2.1 dX7_spellPart_13 rfl (lv_at hl 0 rfl) ?_
    refine lv_aload_n F.1 F.2.1 dX7_spellPart_14 rfl (lv_at hl 1 rfl) ?_
    refine tVv (b := a0) (As := [.ref (eX E t1)]) (rest := []) F hK hN hO (c_X7_spellWord E ws kp as rd sc un tk xt tp sp nu X0 a0 t1 n1 ha0 ha1 hX0) mv_X7_spellWord wd_56_3 ⟨Nat.le_of_ble_eq_true rfl, Nat.le_of_ble_eq_true rfl⟩ ⟨Nat.le_of_ble_eq_true rfl, Nat.le_of_ble_eq_true rfl⟩ hH hS (tRecv hK hH (tyb ha0 (all1 rfl)) clX7) rfl hl.1 (Nat.le_of_ble_eq_true rfl) dX7_spellPart_15 (fun H locs hq hS => ?_)
    have hH := hq
    have hH : TH E (tbM (mD (.inl tp) (.inl sp) (.inl nu) (.inl un) (.inl tk) (.inl xt)) (xD 660 X0) ws kp as rd sc) H := hH
    exact txV F hS dX7_spellPart_18 (hH)
  · skip
    have r_4 : 1 ≤ z_1.toInt ∧ z_1.toInt ≤ 2147483647 := by have h9_ := hz_1; omega
    refine lv_aload_n F.1 F.2.1 dX7_spellPart_7 rfl (lv_at hl 0 rfl) ?_
    refine lv_bipush (v := 59) F.1 F.2.1 dX7_spellPart_8 (by decide) ?_
    refine topK (a := 59) (by decide) (fun k_6 hk_6 => ?_)
    refine tVv (b := a0) (As := [.int k_6]) (rest := []) F hK hN hO (c_X7_spell E ws kp as rd sc un tk xt tp sp nu X0 a0 k_6 ha0 hX0) mv_X7_spell wd_55_23 ⟨Nat.le_of_ble_eq_true rfl, Nat.le_of_ble_eq_true rfl⟩ ⟨Nat.le_of_ble_eq_true rfl, Nat.le_of_ble_eq_true rfl⟩ hH hS (tRecv hK hH (tyb ha0 (all1 rfl)) clX7) rfl hl.1 (Nat.le_of_ble_eq_true rfl) dX7_spellPart_10 (fun H locs hq hS => ?_)
    have hH := hq
    have hH : TH E (tbM (mD (.inl tp) (.inl sp) (.inl nu) (.inl un) (.inl tk) (.inl xt)) (xD 660 X0) ws kp as rd sc) H := hH
    refine lv_aload_n F.1 F.2.1 dX7_spellPart_13 rfl (lv_at hl 0 rfl) ?_
    refine lv_aload_n F.1 F.2.1 dX7_spellPart_14 rfl (lv_at hl 1 rfl) ?_
    refine tVv (b := a0) (As := [.ref (eX E t1)]) (rest := []) F hK hN hO (c_X7_spellWord E ws kp as rd sc un tk xt tp sp nu X0 a0 t1 n1 ha0 ha1 hX0) mv_X7_spellWord wd_56_3 ⟨Nat.le_of_ble_eq_true rfl, Nat.le_of_ble_eq_true rfl⟩ ⟨Nat.le_of_ble_eq_true rfl, Nat.le_of_ble_eq_true rfl⟩ hH hS (tRecv hK hH (tyb ha0 (all1 rfl)) clX7) rfl hl.1 (Nat.le_of_ble_eq_true rfl) dX7_spellPart_15 (fun H locs hq hS => ?_)
    have hH := hq
    have hH : TH E (tbM (mD (.inl tp) (.inl sp) (.inl nu) (.inl un) (.inl tk) (.inl xt)) (xD 660 X0) ws kp as rd sc) H := hH
    exact txV F hS dX7_spellPart_18 (hH)
set_option maxHeartbeats 4000000 in
set_option maxRecDepth 100000 in
theorem c_X7_spellNumber (E : Ev) (ws : TD) (kp : TD) (as : TD) (rd : TD) (sc : TD) (un : Int × Int) (tk : Int × Int) (xt : Int × Int) (tp : Int × Int) (sp : Int × Int) (nu : Int × Int) (X0 : Nat → Int32) (a0 : Nat) (a1 : Int32) (ha0 : eT E a0 ∈ [24]) (hX0 : okR X0) : TcV E yX7_spellNumber cX7_spellNumber 3 ({ frames := 2, cells := 0, slots := 0, locals := 61 }) [.ref a0, .int a1] (fun H => TH E (tbM (mD (.inl tp) (.inl sp) (.inl nu) (.inl un) (.inl tk) (.inl xt)) (xD 660 X0) ws kp as rd sc) H) (fun H => TH E (tbM (mD (.inl tp) (.inl sp) (.inl nu) (.inl un) (.inl tk) (.inl xt)) (xD 660 X0) ws kp as rd sc) H) := by
  refine teV (by decide) (Nat.le_of_ble_eq_true rfl) ?_
  intro p_ ev_ s mi_ below_ meth cd_ ls F hK hN hO hH hS hl
  have hH : TH E (tbM (mD (.inl tp) (.inl sp) (.inl nu) (.inl un) (.inl tk) (.inl xt)) (xD 660 X0) ws kp as rd sc) s.heap := hH
  have hl : lv_has ls 3 [(0, .ref a0), (1, .int a1)] := hl
  have hBX0 := okB hX0.1
  have hLX0 := hX0.2
  refine lv_aload_n F.1 F.2.1 dX7_spellNumber_0 rfl (lv_at hl 0 rfl) ?_
  refine lv_bipush (v := 32) F.1 F.2.1 dX7_spellNumber_1 (by decide) ?_
  refine topK (a := 32) (by decide) (fun k_1 hk_1 => ?_)
  refine tVv (b := a0) (As := [.int k_1]) (rest := []) F hK hN hO (c_X7_spell E ws kp as rd sc un tk xt tp sp nu X0 a0 k_1 ha0 hX0) mv_X7_spell wd_55_23 ⟨Nat.le_of_ble_eq_true rfl, Nat.le_of_ble_eq_true rfl⟩ ⟨Nat.le_of_ble_eq_true rfl, Nat.le_of_ble_eq_true rfl⟩ hH hS (tRecv hK hH (tyb ha0 (all1 rfl)) clX7) rfl hl.1 (Nat.le_of_ble_eq_true rfl) dX7_spellNumber_3 (fun H locs hq hS => ?_)
  have hH := hq
  have hH : TH E (tbM (mD (.inl tp) (.inl sp) (.inl nu) (.inl un) (.inl tk) (.inl xt)) (xD 660 X0) ws kp as rd sc) H := hH
  refine lv_iconst (v := 1) F.1 F.2.1 dX7_spellNumber_6 (by decide) ?_
  refine topK (a := 1) (by decide) (fun k_3 hk_3 => ?_)
  refine lv_istore_n (lv' := [(2, .int k_3), (0, .ref a0), (1, .int a1)]) F.1 F.2.1 dX7_spellNumber_7 rfl hl (by decide) rfl (fun ls hl => ?_)
  refine wloop (σ := Int32) (fun n9 x9 H locs ls => (2147483648 - x9.toInt).toNat < n9 ∧ (1 ≤ x9.toInt ∧ x9.toInt ≤ 2147483640) ∧ TH E (tbM (mD (.inl tp) (.inl sp) (.inl nu) (.inl un) (.inl tk) (.inl xt)) (xD 660 X0) ws kp as rd sc) H ∧ va_S (eA E s.heap.size) s.heap H locs ∧ lv_has ls 3 [(0, .ref a0), (1, .int a1), (2, .int x9)]) ?_ (fun x9 H locs ls h => absurd h.1 (Nat.not_lt_zero _)) _ (k_3) ⟨Nat.lt_succ_self _, (wkb (eqb hk_3) rfl rfl), hH, hS, lv_sub hl [1, 2, 0] rfl⟩
  intro n_8 ih_8 u_4 H locs ls ⟨hm_8, hu_4, hH, hS, hl⟩
  have hm_8 : (2147483648 - u_4.toInt).toNat < n_8 + 1 := hm_8
  have hu_4 : (1 ≤ u_4.toInt ∧ u_4.toInt ≤ 2147483640) := hu_4
  have hH : TH E (tbM (mD (.inl tp) (.inl sp) (.inl nu) (.inl un) (.inl tk) (.inl xt)) (xD 660 X0) ws kp as rd sc) H := hH
  have hl : lv_has ls 3 [(0, .ref a0), (1, .int a1), (2, .int u_4)] := hl
  refine lv_iload_n F.1 F.2.1 dX7_spellNumber_8 rfl (lv_at hl 1 rfl) ?_
  refine lv_iload_n F.1 F.2.1 dX7_spellNumber_9 rfl (lv_at hl 2 rfl) ?_
  refine tDivV F dX7_spellNumber_10 (by omega) (fun z_5 hz_5 => ?_)
  have iz_5 := i32b a1
  refine lv_bipush (v := 10) F.1 F.2.1 dX7_spellNumber_11 (by decide) ?_
  refine topK (a := 10) (by decide) (fun k_6 hk_6 => ?_)
  refine b_lt (tgt := 24) F dX7_spellNumber_13 (by decide) (fun c_7 => ?_) (fun c_7 => ?_)
  · skip
    have r_8 : (-2147483648) ≤ z_5.toInt ∧ z_5.toInt ≤ 9 := by have h9_ := (i32b z_5); omega
    refine wloop (σ := Int32) (fun n9 x9 H locs ls => (x9.toInt).toNat < n9 ∧ (0 ≤ x9.toInt ∧ x9.toInt ≤ 2147483640) ∧ TH E (tbM (mD (.inl tp) (.inl sp) (.inl nu) (.inl un) (.inl tk) (.inl xt)) (xD 660 X0) ws kp as rd sc) H ∧ va_S (eA E s.heap.size) s.heap H locs ∧ lv_has ls 3 [(0, .ref a0), (1, .int a1), (2, .int x9)]) ?_ (fun x9 H locs ls h => absurd h.1 (Nat.not_lt_zero _)) _ (u_4) ⟨Nat.lt_succ_self _, (wkb hu_4 rfl rfl), hH, hS, lv_sub hl [0, 1, 2] rfl⟩
    intro n_24 ih_24 u_10 H locs ls ⟨hm_24, hu_10, hH, hS, hl⟩
    have hm_24 : (u_10.toInt).toNat < n_24 + 1 := hm_24
    have hu_10 : (0 ≤ u_10.toInt ∧ u_10.toInt ≤ 2147483640) := hu_10
    have hH : TH E (tbM (mD (.inl tp) (.inl sp) (.inl nu) (.inl un) (.inl tk) (.inl xt)) (xD 660 X0) ws kp as rd sc) H := hH
    have hl : lv_has ls 3 [(0, .ref a0), (1, .int a1), (2, .int u_10)] := hl
    refine lv_iload_n F.1 F.2.1 dX7_spellNumber_24 rfl (lv_at hl 2 rfl) ?_
    refine z_le (tgt := 49) F dX7_spellNumber_25 (by decide) (fun c_11 => ?_) (fun c_11 => ?_)
    · skip
      have r_12 : 0 ≤ u_10.toInt ∧ u_10.toInt ≤ 0 := by have h9_ := hu_10; omega
      exact txV F hS dX7_spellNumber_49 (hH)
    · skip
      have r_13 : 1 ≤ u_10.toInt ∧ u_10.toInt ≤ 2147483640 := by have h9_ := hu_10; omega
      refine lv_aload_n F.1 F.2.1 dX7_spellNumber_28 rfl (lv_at hl 0 rfl) ?_
      refine lv_bipush (v := 48) F.1 F.2.1 dX7_spellNumber_29 (by decide) ?_
      refine topK (a := 48) (by decide) (fun k_14 hk_14 => ?_)
      refine lv_iload_n F.1 F.2.1 dX7_spellNumber_31 rfl (lv_at hl 1 rfl) ?_
      refine lv_iload_n F.1 F.2.1 dX7_spellNumber_32 rfl (lv_at hl 2 rfl) ?_
      refine tDivF F dX7_spellNumber_33 (by omega) (fun z_15 => ?_)
      refine lv_bipush (v := 10) F.1 F.2.1 dX7_spellNumber_34 (by decide) ?_
      refine topK (a := 10) (by decide) (fun k_16 hk_16 => ?_)
      refine tRemF F dX7_spellNumber_36 (by omega) (fun z_17 => ?_)
      refine lv_iadd F.1 F.2.1 dX7_spellNumber_37 ?_
      refine topF (fun z_18 => ?_)
      refine tVv (b := a0) (As := [.int z_18]) (rest := []) F hK hN hO (c_X7_spell E ws kp as rd sc un tk xt tp sp nu X0 a0 z_18 ha0 hX0) mv_X7_spell wd_55_23 ⟨Nat.le_of_ble_eq_true rfl, Nat.le_of_ble_eq_true rfl⟩ ⟨Nat.le_of_ble_eq_true rfl, Nat.le_of_ble_eq_true rfl⟩ hH hS (tRecv hK hH (tyb ha0 (all1 rfl)) clX7) rfl hl.1 (Nat.le_of_ble_eq_true rfl) dX7_spellNumber_38 (fun H locs hq hS => ?_)
      have hH := hq
      have hH : TH E (tbM (mD (.inl tp) (.inl sp) (.inl nu) (.inl un) (.inl tk) (.inl xt)) (xD 660 X0) ws kp as rd sc) H := hH
      refine lv_iload_n F.1 F.2.1 dX7_spellNumber_41 rfl (lv_at hl 2 rfl) ?_
      refine lv_bipush (v := 10) F.1 F.2.1 dX7_spellNumber_42 (by decide) ?_
      refine topK (a := 10) (by decide) (fun k_20 hk_20 => ?_)
      refine tDiv (k := 10) (lo := 0) (hi := 214748364) F dX7_spellNumber_44 r_13 hk_20 rfl (fun z_21 hz_21 => ?_)
      refine lv_istore_n (lv' := [(2, .int z_21), (0, .ref a0), (1, .int a1)]) F.1 F.2.1 dX7_spellNumber_45 rfl hl (by decide) rfl (fun ls hl => ?_)
      refine lv_goto (tgt := 24) F.1 F.2.1 dX7_spellNumber_46 (by decide) ?_
      exact ih_24 (z_21) _ _ _ ⟨(show (z_21.toInt).toNat < n_24 from by omega), (wkb hz_21.2 rfl rfl), hH, hS, lv_sub hl [1, 2, 0] rfl⟩
  · skip
    have r_9 : 10 ≤ z_5.toInt ∧ z_5.toInt ≤ 2147483647 := by have h9_ := (i32b z_5); omega
    have r_22 : 1 ≤ u_4.toInt ∧ u_4.toInt ≤ 214748364 := by have h9_ := hu_4; omega
    refine lv_iload_n F.1 F.2.1 dX7_spellNumber_16 rfl (lv_at hl 2 rfl) ?_
    refine lv_bipush (v := 10) F.1 F.2.1 dX7_spellNumber_17 (by decide) ?_
    refine topK (a := 10) (by decide) (fun k_23 hk_23 => ?_)
    refine tMul (lo := 10) (hi := 2147483640) F dX7_spellNumber_19 r_22 (eqb hk_23) rfl (fun z_24 hz_24 => ?_)
    have mz_24 : z_24.toInt = u_4.toInt * 10 := by rw [hz_24.1, hk_23]
    refine lv_istore_n (lv' := [(2, .int z_24), (0, .ref a0), (1, .int a1)]) F.1 F.2.1 dX7_spellNumber_20 rfl hl (by decide) rfl (fun ls hl => ?_)
    refine lv_goto (tgt := 8) F.1 F.2.1 dX7_spellNumber_21 (by decide) ?_
    exact ih_8 (z_24) _ _ _ ⟨(show (2147483648 - z_24.toInt).toNat < n_8 from by omega), (wkb hz_24.2 rfl rfl), hH, hS, lv_sub hl [1, 2, 0] rfl⟩
set_option maxHeartbeats 4000000 in
set_option maxRecDepth 100000 in
theorem c_X7_spellReach (E : Ev) (ws : TD) (kp : TD) (as : TD) (rd : TD) (sc : TD) (un : Int × Int) (tk : Int × Int) (xt : Int × Int) (tp : Int × Int) (sp : Int × Int) (nu : Int × Int) (X0 : Nat → Int32) (a0 : Nat) (a1 : Int32) (ha0 : eT E a0 ∈ [24]) (ha1 : 0 ≤ a1.toInt ∧ a1.toInt ≤ 11) (hX0 : okR X0) : TcV E yX7_spellReach cX7_spellReach 3 ({ frames := 7, cells := 0, slots := 0, locals := 224 }) [.ref a0, .int a1] (fun H => TH E (tbM (mD (.inl tp) (.inl sp) (.inl nu) (.inl un) (.inl tk) (.inl xt)) (xD 660 X0) ws kp as rd sc) H) (fun H => TH E (tbM (mD (.inl tp) (.inl sp) (.inl nu) (.inl un) (.inl tk) (.inl xt)) (xD 660 X0) ws kp as rd sc) H) := by
  refine teV (by decide) (Nat.le_of_ble_eq_true rfl) ?_
  intro p_ ev_ s mi_ below_ meth cd_ ls F hK hN hO hH hS hl
  have hH : TH E (tbM (mD (.inl tp) (.inl sp) (.inl nu) (.inl un) (.inl tk) (.inl xt)) (xD 660 X0) ws kp as rd sc) s.heap := hH
  have hl : lv_has ls 3 [(0, .ref a0), (1, .int a1)] := hl
  have hBX0 := okB hX0.1
  have hLX0 := hX0.2
  refine lv_aload_n F.1 F.2.1 dX7_spellReach_0 rfl (lv_at hl 0 rfl) ?_
  refine ldcwS F.1 F.2.1 F.2.2.2.2.1 (hO.1 18 _ rfl).1 dX7_spellReach_1 ?_
  refine tVv (b := a0) (As := [.ref (eX E 18)]) (rest := []) F hK hN hO (c_X7_spellPart E ws kp as rd sc un tk xt tp sp nu X0 a0 18 5 ha0 (strAt 18 rfl) hX0) mv_X7_spellPart wd_55_19 ⟨Nat.le_of_ble_eq_true rfl, Nat.le_of_ble_eq_true rfl⟩ ⟨Nat.le_of_ble_eq_true rfl, Nat.le_of_ble_eq_true rfl⟩ hH hS (tRecv hK hH (tyb ha0 (all1 rfl)) clX7) rfl hl.1 (Nat.le_of_ble_eq_true rfl) dX7_spellReach_4 (fun H locs hq hS => ?_)
  have hH := hq
  have hH : TH E (tbM (mD (.inl tp) (.inl sp) (.inl nu) (.inl un) (.inl tk) (.inl xt)) (xD 660 X0) ws kp as rd sc) H := hH
  refine lv_aload_n F.1 F.2.1 dX7_spellReach_7 rfl (lv_at hl 0 rfl) ?_
  refine lv_iload_n F.1 F.2.1 dX7_spellReach_8 rfl (lv_at hl 1 rfl) ?_
  refine lv_iconst (v := 0) F.1 F.2.1 dX7_spellReach_9 (by decide) ?_
  refine topK (a := 0) (by decide) (fun k_2 hk_2 => ?_)
  refine tVi (b := a0) (As := [.int a1, .int k_2]) (rest := []) F hK hN hO (c_X7_ofReach_0 E ws kp as rd sc un tk xt tp sp nu X0 a0 a1 k_2 ha0 ha1 (eqb hk_2) ((hX0).1)) mv_X7_ofReach wd_28_15 ⟨Nat.le_of_ble_eq_true rfl, Nat.le_of_ble_eq_true rfl⟩ ⟨Nat.le_of_ble_eq_true rfl, Nat.le_of_ble_eq_true rfl⟩ hH hS (tRecv hK hH (tyb ha0 (all1 rfl)) clX7) rfl hl.1 (Nat.le_of_ble_eq_true rfl) dX7_spellReach_10 (fun z_3 H locs hq hS => ?_)
  obtain ⟨f_4, f_5, f_6, hH⟩ := hq
  have hH : TH E (tbM (mD (.inl tp) (.inl sp) (.inl nu) (.inl un) (.inl tk) (.inl xt)) (xD 660 X0) ws kp as rd sc) H := hH
  refine lv_iconst (v := (-1)) F.1 F.2.1 dX7_spellReach_13 (by decide) ?_
  refine topK (a := (-1)) (by decide) (fun k_7 hk_7 => ?_)
  refine b_ne (tgt := 27) F dX7_spellReach_14 (by decide) (fun c_8 => ?_) (fun c_8 => ?_)
  · skip
    have r_9 : 0 ≤ z_3.toInt ∧ z_3.toInt ≤ 10 := by have h9_ := f_4; omega
    refine lv_aload_n F.1 F.2.1 dX7_spellReach_27 rfl (lv_at hl 0 rfl) ?_
    refine lv_aload_n F.1 F.2.1 dX7_spellReach_28 rfl (lv_at hl 0 rfl) ?_
    refine lv_iload_n F.1 F.2.1 dX7_spellReach_29 rfl (lv_at hl 1 rfl) ?_
    refine lv_iconst (v := 0) F.1 F.2.1 dX7_spellReach_30 (by decide) ?_
    refine topK (a := 0) (by decide) (fun k_11 hk_11 => ?_)
    refine tVi (b := a0) (As := [.int a1, .int k_11]) (rest := [.ref a0]) F hK hN hO (c_X7_ofReach_0 E ws kp as rd sc un tk xt tp sp nu X0 a0 a1 k_11 ha0 ha1 (eqb hk_11) ((hX0).1)) mv_X7_ofReach wd_28_15 ⟨Nat.le_of_ble_eq_true rfl, Nat.le_of_ble_eq_true rfl⟩ ⟨Nat.le_of_ble_eq_true rfl, Nat.le_of_ble_eq_true rfl⟩ hH hS (tRecv hK hH (tyb ha0 (all1 rfl)) clX7) rfl hl.1 (Nat.le_of_ble_eq_true rfl) dX7_spellReach_31 (fun z_12 H locs hq hS => ?_)
    obtain ⟨f_13, f_14, f_15, hH⟩ := hq
    have hH : TH E (tbM (mD (.inl tp) (.inl sp) (.inl nu) (.inl un) (.inl tk) (.inl xt)) (xD 660 X0) ws kp as rd sc) H := hH
    refine tVv (b := a0) (As := [.int z_12]) (rest := []) F hK hN hO (c_X7_spellNumber E ws kp as rd sc un tk xt tp sp nu X0 a0 z_12 ha0 hX0) mv_X7_spellNumber wd_56_7 ⟨Nat.le_of_ble_eq_true rfl, Nat.le_of_ble_eq_true rfl⟩ ⟨Nat.le_of_ble_eq_true rfl, Nat.le_of_ble_eq_true rfl⟩ hH hS (tRecv hK hH (tyb ha0 (all1 rfl)) clX7) rfl hl.1 (Nat.le_of_ble_eq_true rfl) dX7_spellReach_34 (fun H locs hq hS => ?_)
    have hH := hq
    have hH : TH E (tbM (mD (.inl tp) (.inl sp) (.inl nu) (.inl un) (.inl tk) (.inl xt)) (xD 660 X0) ws kp as rd sc) H := hH
    refine lv_iconst (v := 0) F.1 F.2.1 dX7_spellReach_37 (by decide) ?_
    refine topK (a := 0) (by decide) (fun k_17 hk_17 => ?_)
    refine lv_istore_n (lv' := [(2, .int k_17), (0, .ref a0), (1, .int a1)]) F.1 F.2.1 dX7_spellReach_38 rfl hl (by decide) rfl (fun ls hl => ?_)
    refine wloop (σ := Int32) (fun n9 x9 H locs ls => (4 - x9.toInt + 1).toNat < n9 ∧ (0 ≤ x9.toInt ∧ x9.toInt ≤ 4) ∧ TH E (tbM (mD (.inl tp) (.inl sp) (.inl nu) (.inl un) (.inl tk) (.inl xt)) (xD 660 X0) ws kp as rd sc) H ∧ va_S (eA E s.heap.size) s.heap H locs ∧ lv_has ls 3 [(0, .ref a0), (1, .int a1), (2, .int x9)]) ?_ (fun x9 H locs ls h => absurd h.1 (Nat.not_lt_zero _)) _ (k_17) ⟨Nat.lt_succ_self _, (wkb (eqb hk_17) rfl rfl), hH, hS, lv_sub hl [1, 2, 0] rfl⟩
    intro n_39 ih_39 u_18 H locs ls ⟨hm_39, hu_18, hH, hS, hl⟩
    have hm_39 : (4 - u_18.toInt + 1).toNat < n_39 + 1 := hm_39
    have hu_18 : (0 ≤ u_18.toInt ∧ u_18.toInt ≤ 4) := hu_18
    have hH : TH E (tbM (mD (.inl tp) (.inl sp) (.inl nu) (.inl un) (.inl tk) (.inl xt)) (xD 660 X0) ws kp as rd sc) H := hH
    have hl : lv_has ls 3 [(0, .ref a0), (1, .int a1), (2, .int u_18)] := hl
    refine lv_iload_n F.1 F.2.1 dX7_spellReach_39 rfl (lv_at hl 2 rfl) ?_
    refine lv_iconst (v := 4) F.1 F.2.1 dX7_spellReach_40 (by decide) ?_
    refine topK (a := 4) (by decide) (fun k_19 hk_19 => ?_)
    refine b_ge (tgt := 62) F dX7_spellReach_41 (by decide) (fun c_20 => ?_) (fun c_20 => ?_)
    · skip
      have r_21 : 4 ≤ u_18.toInt ∧ u_18.toInt ≤ 4 := by have h9_ := hu_18; omega
      refine lv_aload_n F.1 F.2.1 dX7_spellReach_62 rfl (lv_at hl 0 rfl) ?_
      refine lv_iload_n F.1 F.2.1 dX7_spellReach_63 rfl (lv_at hl 1 rfl) ?_
      refine lv_iconst (v := 1) F.1 F.2.1 dX7_spellReach_64 (by decide) ?_
      refine topK (a := 1) (by decide) (fun k_23 hk_23 => ?_)
      refine tVi (b := a0) (As := [.int a1, .int k_23]) (rest := []) F hK hN hO (c_X7_ofReach_1 E ws kp as rd sc un tk xt tp sp nu X0 a0 a1 k_23 ha0 ha1 (eqb hk_23) ((hX0).1)) mv_X7_ofReach wd_28_15 ⟨Nat.le_of_ble_eq_true rfl, Nat.le_of_ble_eq_true rfl⟩ ⟨Nat.le_of_ble_eq_true rfl, Nat.le_of_ble_eq_true rfl⟩ hH hS (tRecv hK hH (tyb ha0 (all1 rfl)) clX7) rfl hl.1 (Nat.le_of_ble_eq_true rfl) dX7_spellReach_65 (fun z_24 H locs hq hS => ?_)
      obtain ⟨f_25, f_26, hH⟩ := hq
      have hH : TH E (tbM (mD (.inl tp) (.inl sp) (.inl nu) (.inl un) (.inl tk) (.inl xt)) (xD 660 X0) ws kp as rd sc) H := hH
      refine z_ne (tgt := 72) F dX7_spellReach_68 (by decide) (fun c_27 => ?_) (fun c_27 => ?_)
      · skip
        refine lv_aload_n F.1 F.2.1 dX7_spellReach_72 rfl (lv_at hl 0 rfl) ?_
        refine ldcwS F.1 F.2.1 F.2.2.2.2.1 (hO.1 28 _ rfl).1 dX7_spellReach_73 ?_
        refine tVv (b := a0) (As := [.ref (eX E 28)]) (rest := []) F hK hN hO (c_X7_spellWord E ws kp as rd sc un tk xt tp sp nu X0 a0 28 5 ha0 (strAt 28 rfl) hX0) mv_X7_spellWord wd_56_3 ⟨Nat.le_of_ble_eq_true rfl, Nat.le_of_ble_eq_true rfl⟩ ⟨Nat.le_of_ble_eq_true rfl, Nat.le_of_ble_eq_true rfl⟩ hH hS (tRecv hK hH (tyb ha0 (all1 rfl)) clX7) rfl hl.1 (Nat.le_of_ble_eq_true rfl) dX7_spellReach_76 (fun H locs hq hS => ?_)
        have hH := hq
        have hH : TH E (tbM (mD (.inl tp) (.inl sp) (.inl nu) (.inl un) (.inl tk) (.inl xt)) (xD 660 X0) ws kp as rd sc) H := hH
        refine lv_aload_n F.1 F.2.1 dX7_spellReach_79 rfl (lv_at hl 0 rfl) ?_
        refine lv_aload_n F.1 F.2.1 dX7_spellReach_80 rfl (lv_at hl 0 rfl) ?_
        refine lv_iload_n F.1 F.2.1 dX7_spellReach_81 rfl (lv_at hl 1 rfl) ?_
        refine lv_iconst (v := 1) F.1 F.2.1 dX7_spellReach_82 (by decide) ?_
        refine topK (a := 1) (by decide) (fun k_30 hk_30 => ?_)
        refine tVi (b := a0) (As := [.int a1, .int k_30]) (rest := [.ref a0]) F hK hN hO (c_X7_ofReach_1 E ws kp as rd sc un tk xt tp sp nu X0 a0 a1 k_30 ha0 ha1 (eqb hk_30) ((hX0).1)) mv_X7_ofReach wd_28_15 ⟨Nat.le_of_ble_eq_true rfl, Nat.le_of_ble_eq_true rfl⟩ ⟨Nat.le_of_ble_eq_true rfl, Nat.le_of_ble_eq_true rfl⟩ hH hS (tRecv hK hH (tyb ha0 (all1 rfl)) clX7) rfl hl.1 (Nat.le_of_ble_eq_true rfl) dX7_spellReach_83 (fun z_31 H locs hq hS => ?_)
        obtain ⟨f_32, f_33, hH⟩ := hq
        have hH : TH E (tbM (mD (.inl tp) (.inl sp) (.inl nu) (.inl un) (.inl tk) (.inl xt)) (xD 660 X0) ws kp as rd sc) H := hH
        refine tVv (b := a0) (As := [.int z_31]) (rest := []) F hK hN hO (c_X7_spellNumber E ws kp as rd sc un tk xt tp sp nu X0 a0 z_31 ha0 hX0) mv_X7_spellNumber wd_56_7 ⟨Nat.le_of_ble_eq_true rfl, Nat.le_of_ble_eq_true rfl⟩ ⟨Nat.le_of_ble_eq_true rfl, Nat.le_of_ble_eq_true rfl⟩ hH hS (tRecv hK hH (tyb ha0 (all1 rfl)) clX7) rfl hl.1 (Nat.le_of_ble_eq_true rfl) dX7_spellReach_86 (fun H locs hq hS => ?_)
        have hH := hq
        have hH : TH E (tbM (mD (.inl tp) (.inl sp) (.inl nu) (.inl un) (.inl tk) (.inl xt)) (xD 660 X0) ws kp as rd sc) H := hH
        exact txV F hS dX7_spellReach_89 (hH)
      · skip
        have r_28 : 0 ≤ z_24.toInt ∧ z_24.toInt ≤ 0 := by have h9_ := f_25; omega
        exact txV F hS dX7_spellReach_71 (hH)
    · skip
      have r_22 : 0 ≤ u_18.toInt ∧ u_18.toInt ≤ 3 := by have h9_ := hu_18; omega
      refine lv_aload_n F.1 F.2.1 dX7_spellReach_44 rfl (lv_at hl 0 rfl) ?_
      refine lv_aload_n F.1 F.2.1 dX7_spellReach_45 rfl (lv_at hl 0 rfl) ?_
      refine lv_iload_n F.1 F.2.1 dX7_spellReach_46 rfl (lv_at hl 1 rfl) ?_
      refine lv_iconst (v := 2) F.1 F.2.1 dX7_spellReach_47 (by decide) ?_
      refine topK (a := 2) (by decide) (fun k_35 hk_35 => ?_)
      refine lv_iload_n F.1 F.2.1 dX7_spellReach_48 rfl (lv_at hl 2 rfl) ?_
      refine tAdd (lo := 2) (hi := 5) F dX7_spellReach_49 (eqb hk_35) r_22 rfl (fun z_36 hz_36 => ?_)
      refine tVi (b := a0) (As := [.int a1, .int z_36]) (rest := [.ref a0]) F hK hN hO (c_X7_ofReach_any E ws kp as rd sc un tk xt tp sp nu X0 a0 a1 z_36 ha0 ha1 (wkb hz_36.2 rfl rfl) ((hX0).1)) mv_X7_ofReach wd_28_15 ⟨Nat.le_of_ble_eq_true rfl, Nat.le_of_ble_eq_true rfl⟩ ⟨Nat.le_of_ble_eq_true rfl, Nat.le_of_ble_eq_true rfl⟩ hH hS (tRecv hK hH (tyb ha0 (all1 rfl)) clX7) rfl hl.1 (Nat.le_of_ble_eq_true rfl) dX7_spellReach_50 (fun z_37 H locs hq hS => ?_)
      obtain ⟨f_38, hH⟩ := hq
      have hH : TH E (tbM (mD (.inl tp) (.inl sp) (.inl nu) (.inl un) (.inl tk) (.inl xt)) (xD 660 X0) ws kp as rd sc) H := hH
      refine tVv (b := a0) (As := [.int z_37]) (rest := []) F hK hN hO (c_X7_spellNumber E ws kp as rd sc un tk xt tp sp nu X0 a0 z_37 ha0 hX0) mv_X7_spellNumber wd_56_7 ⟨Nat.le_of_ble_eq_true rfl, Nat.le_of_ble_eq_true rfl⟩ ⟨Nat.le_of_ble_eq_true rfl, Nat.le_of_ble_eq_true rfl⟩ hH hS (tRecv hK hH (tyb ha0 (all1 rfl)) clX7) rfl hl.1 (Nat.le_of_ble_eq_true rfl) dX7_spellReach_53 (fun H locs hq hS => ?_)
      have hH := hq
      have hH : TH E (tbM (mD (.inl tp) (.inl sp) (.inl nu) (.inl un) (.inl tk) (.inl xt)) (xD 660 X0) ws kp as rd sc) H := hH
      obtain ⟨x_40, ex_40, hx_40⟩ := iincB (c := 1) (lo := 1) (hi := 4) r_22 rfl
      refine lv_iinc (v := x_40) (lv' := [(2, .int x_40), (0, .ref a0), (1, .int a1)]) F.1 F.2.1 dX7_spellReach_56 hl (k := 2) rfl ex_40 (by decide) rfl (fun ls hl => ?_)
      refine lv_goto (tgt := 39) F.1 F.2.1 dX7_spellReach_59 (by decide) ?_
      exact ih_39 (x_40) _ _ _ ⟨(show (4 - x_40.toInt + 1).toNat < n_39 from by omega), (wkb hx_40.2 rfl rfl), hH, hS, lv_sub hl [1, 2, 0] rfl⟩
  · skip
    have r_10 : (-1) ≤ z_3.toInt ∧ z_3.toInt ≤ (-1) := by have h9_ := f_4; omega
    refine lv_aload_n F.1 F.2.1 dX7_spellReach_17 rfl (lv_at hl 0 rfl) ?_
    refine ldcwS F.1 F.2.1 F.2.2.2.2.1 (hO.1 27 _ rfl).1 dX7_spellReach_18 ?_
    refine tVv (b := a0) (As := [.ref (eX E 27)]) (rest := []) F hK hN hO (c_X7_spellWord E ws kp as rd sc un tk xt tp sp nu X0 a0 27 6 ha0 (strAt 27 rfl) hX0) mv_X7_spellWord wd_56_3 ⟨Nat.le_of_ble_eq_true rfl, Nat.le_of_ble_eq_true rfl⟩ ⟨Nat.le_of_ble_eq_true rfl, Nat.le_of_ble_eq_true rfl⟩ hH hS (tRecv hK hH (tyb ha0 (all1 rfl)) clX7) rfl hl.1 (Nat.le_of_ble_eq_true rfl) dX7_spellReach_21 (fun H locs hq hS => ?_)
    have hH := hq
    have hH : TH E (tbM (mD (.inl tp) (.inl sp) (.inl nu) (.inl un) (.inl tk) (.inl xt)) (xD 660 X0) ws kp as rd sc) H := hH
    refine lv_goto (tgt := 37) F.1 F.2.1 dX7_spellReach_24 (by decide) ?_
    refine lv_iconst (v := 0) F.1 F.2.1 dX7_spellReach_37 (by decide) ?_
    refine topK (a := 0) (by decide) (fun k_42 hk_42 => ?_)
    refine lv_istore_n (lv' := [(2, .int k_42), (0, .ref a0), (1, .int a1)]) F.1 F.2.1 dX7_spellReach_38 rfl hl (by decide) rfl (fun ls hl => ?_)
    refine wloop (σ := Int32) (fun n9 x9 H locs ls => (4 - x9.toInt + 1).toNat < n9 ∧ (0 ≤ x9.toInt ∧ x9.toInt ≤ 4) ∧ TH E (tbM (mD (.inl tp) (.inl sp) (.inl nu) (.inl un) (.inl tk) (.inl xt)) (xD 660 X0) ws kp as rd sc) H ∧ va_S (eA E s.heap.size) s.heap H locs ∧ lv_has ls 3 [(0, .ref a0), (1, .int a1), (2, .int x9)]) ?_ (fun x9 H locs ls h => absurd h.1 (Nat.not_lt_zero _)) _ (k_42) ⟨Nat.lt_succ_self _, (wkb (eqb hk_42) rfl rfl), hH, hS, lv_sub hl [1, 2, 0] rfl⟩
    intro n_39 ih_39 u_43 H locs ls ⟨hm_39, hu_43, hH, hS, hl⟩
    have hm_39 : (4 - u_43.toInt + 1).toNat < n_39 + 1 := hm_39
    have hu_43 : (0 ≤ u_43.toInt ∧ u_43.toInt ≤ 4) := hu_43
    have hH : TH E (tbM (mD (.inl tp) (.inl sp) (.inl nu) (.inl un) (.inl tk) (.inl xt)) (xD 660 X0) ws kp as rd sc) H := hH
    have hl : lv_has ls 3 [(0, .ref a0), (1, .int a1), (2, .int u_43)] := hl
    refine lv_iload_n F.1 F.2.1 dX7_spellReach_39 rfl (lv_at hl 2 rfl) ?_
    refine lv_iconst (v := 4) F.1 F.2.1 dX7_spellReach_40 (by decide) ?_
    refine topK (a := 4) (by decide) (fun k_44 hk_44 => ?_)
    refine b_ge (tgt := 62) F dX7_spellReach_41 (by decide) (fun c_45 => ?_) (fun c_45 => ?_)
    · skip
      have r_46 : 4 ≤ u_43.toInt ∧ u_43.toInt ≤ 4 := by have h9_ := hu_43; omega
      refine lv_aload_n F.1 F.2.1 dX7_spellReach_62 rfl (lv_at hl 0 rfl) ?_
      refine lv_iload_n F.1 F.2.1 dX7_spellReach_63 rfl (lv_at hl 1 rfl) ?_
      refine lv_iconst (v := 1) F.1 F.2.1 dX7_spellReach_64 (by decide) ?_
      refine topK (a := 1) (by decide) (fun k_48 hk_48 => ?_)
      refine tVi (b := a0) (As := [.int a1, .int k_48]) (rest := []) F hK hN hO (c_X7_ofReach_1 E ws kp as rd sc un tk xt tp sp nu X0 a0 a1 k_48 ha0 ha1 (eqb hk_48) ((hX0).1)) mv_X7_ofReach wd_28_15 ⟨Nat.le_of_ble_eq_true rfl, Nat.le_of_ble_eq_true rfl⟩ ⟨Nat.le_of_ble_eq_true rfl, Nat.le_of_ble_eq_true rfl⟩ hH hS (tRecv hK hH (tyb ha0 (all1 rfl)) clX7) rfl hl.1 (Nat.le_of_ble_eq_true rfl) dX7_spellReach_65 (fun z_49 H locs hq hS => ?_)
      obtain ⟨f_50, f_51, hH⟩ := hq
      have hH : TH E (tbM (mD (.inl tp) (.inl sp) (.inl nu) (.inl un) (.inl tk) (.inl xt)) (xD 660 X0) ws kp as rd sc) H := hH
      refine z_ne (tgt := 72) F dX7_spellReach_68 (by decide) (fun c_52 => ?_) (fun c_52 => ?_)
      · skip
        refine lv_aload_n F.1 F.2.1 dX7_spellReach_72 rfl (lv_at hl 0 rfl) ?_
        refine ldcwS F.1 F.2.1 F.2.2.2.2.1 (hO.1 28 _ rfl).1 dX7_spellReach_73 ?_
        refine tVv (b := a0) (As := [.ref (eX E 28)]) (rest := []) F hK hN hO (c_X7_spellWord E ws kp as rd sc un tk xt tp sp nu X0 a0 28 5 ha0 (strAt 28 rfl) hX0) mv_X7_spellWord wd_56_3 ⟨Nat.le_of_ble_eq_true rfl, Nat.le_of_ble_eq_true rfl⟩ ⟨Nat.le_of_ble_eq_true rfl, Nat.le_of_ble_eq_true rfl⟩ hH hS (tRecv hK hH (tyb ha0 (all1 rfl)) clX7) rfl hl.1 (Nat.le_of_ble_eq_true rfl) dX7_spellReach_76 (fun H locs hq hS => ?_)
        have hH := hq
        have hH : TH E (tbM (mD (.inl tp) (.inl sp) (.inl nu) (.inl un) (.inl tk) (.inl xt)) (xD 660 X0) ws kp as rd sc) H := hH
        refine lv_aload_n F.1 F.2.1 dX7_spellReach_79 rfl (lv_at hl 0 rfl) ?_
        refine lv_aload_n F.1 F.2.1 dX7_spellReach_80 rfl (lv_at hl 0 rfl) ?_
        refine lv_iload_n F.1 F.2.1 dX7_spellReach_81 rfl (lv_at hl 1 rfl) ?_
        refine lv_iconst (v := 1) F.1 F.2.1 dX7_spellReach_82 (by decide) ?_
        refine topK (a := 1) (by decide) (fun k_55 hk_55 => ?_)
        refine tVi (b := a0) (As := [.int a1, .int k_55]) (rest := [.ref a0]) F hK hN hO (c_X7_ofReach_1 E ws kp as rd sc un tk xt tp sp nu X0 a0 a1 k_55 ha0 ha1 (eqb hk_55) ((hX0).1)) mv_X7_ofReach wd_28_15 ⟨Nat.le_of_ble_eq_true rfl, Nat.le_of_ble_eq_true rfl⟩ ⟨Nat.le_of_ble_eq_true rfl, Nat.le_of_ble_eq_true rfl⟩ hH hS (tRecv hK hH (tyb ha0 (all1 rfl)) clX7) rfl hl.1 (Nat.le_of_ble_eq_true rfl) dX7_spellReach_83 (fun z_56 H locs hq hS => ?_)
        obtain ⟨f_57, f_58, hH⟩ := hq
        have hH : TH E (tbM (mD (.inl tp) (.inl sp) (.inl nu) (.inl un) (.inl tk) (.inl xt)) (xD 660 X0) ws kp as rd sc) H := hH
        refine tVv (b := a0) (As := [.int z_56]) (rest := []) F hK hN hO (c_X7_spellNumber E ws kp as rd sc un tk xt tp sp nu X0 a0 z_56 ha0 hX0) mv_X7_spellNumber wd_56_7 ⟨Nat.le_of_ble_eq_true rfl, Nat.le_of_ble_eq_true rfl⟩ ⟨Nat.le_of_ble_eq_true rfl, Nat.le_of_ble_eq_true rfl⟩ hH hS (tRecv hK hH (tyb ha0 (all1 rfl)) clX7) rfl hl.1 (Nat.le_of_ble_eq_true rfl) dX7_spellReach_86 (fun H locs hq hS => ?_)
        have hH := hq
        have hH : TH E (tbM (mD (.inl tp) (.inl sp) (.inl nu) (.inl un) (.inl tk) (.inl xt)) (xD 660 X0) ws kp as rd sc) H := hH
        exact txV F hS dX7_spellReach_89 (hH)
      · skip
        have r_53 : 0 ≤ z_49.toInt ∧ z_49.toInt ≤ 0 := by have h9_ := f_50; omega
        exact txV F hS dX7_spellReach_71 (hH)
    · skip
      have r_47 : 0 ≤ u_43.toInt ∧ u_43.toInt ≤ 3 := by have h9_ := hu_43; omega
      refine lv_aload_n F.1 F.2.1 dX7_spellReach_44 rfl (lv_at hl 0 rfl) ?_
      refine lv_aload_n F.1 F.2.1 dX7_spellReach_45 rfl (lv_at hl 0 rfl) ?_
      refine lv_iload_n F.1 F.2.1 dX7_spellReach_46 rfl (lv_at hl 1 rfl) ?_
      refine lv_iconst (v := 2) F.1 F.2.1 dX7_spellReach_47 (by decide) ?_
      refine topK (a := 2) (by decide) (fun k_60 hk_60 => ?_)
      refine lv_iload_n F.1 F.2.1 dX7_spellReach_48 rfl (lv_at hl 2 rfl) ?_
      refine tAdd (lo := 2) (hi := 5) F dX7_spellReach_49 (eqb hk_60) r_47 rfl (fun z_61 hz_61 => ?_)
      refine tVi (b := a0) (As := [.int a1, .int z_61]) (rest := [.ref a0]) F hK hN hO (c_X7_ofReach_any E ws kp as rd sc un tk xt tp sp nu X0 a0 a1 z_61 ha0 ha1 (wkb hz_61.2 rfl rfl) ((hX0).1)) mv_X7_ofReach wd_28_15 ⟨Nat.le_of_ble_eq_true rfl, Nat.le_of_ble_eq_true rfl⟩ ⟨Nat.le_of_ble_eq_true rfl, Nat.le_of_ble_eq_true rfl⟩ hH hS (tRecv hK hH (tyb ha0 (all1 rfl)) clX7) rfl hl.1 (Nat.le_of_ble_eq_true rfl) dX7_spellReach_50 (fun z_62 H locs hq hS => ?_)
      obtain ⟨f_63, hH⟩ := hq
      have hH : TH E (tbM (mD (.inl tp) (.inl sp) (.inl nu) (.inl un) (.inl tk) (.inl xt)) (xD 660 X0) ws kp as rd sc) H := hH
      refine tVv (b := a0) (As := [.int z_62]) (rest := []) F hK hN hO (c_X7_spellNumber E ws kp as rd sc un tk xt tp sp nu X0 a0 z_62 ha0 hX0) mv_X7_spellNumber wd_56_7 ⟨Nat.le_of_ble_eq_true rfl, Nat.le_of_ble_eq_true rfl⟩ ⟨Nat.le_of_ble_eq_true rfl, Nat.le_of_ble_eq_true rfl⟩ hH hS (tRecv hK hH (tyb ha0 (all1 rfl)) clX7) rfl hl.1 (Nat.le_of_ble_eq_true rfl) dX7_spellReach_53 (fun H locs hq hS => ?_)
      have hH := hq
      have hH : TH E (tbM (mD (.inl tp) (.inl sp) (.inl nu) (.inl un) (.inl tk) (.inl xt)) (xD 660 X0) ws kp as rd sc) H := hH
      obtain ⟨x_65, ex_65, hx_65⟩ := iincB (c := 1) (lo := 1) (hi := 4) r_47 rfl
      refine lv_iinc (v := x_65) (lv' := [(2, .int x_65), (0, .ref a0), (1, .int a1)]) F.1 F.2.1 dX7_spellReach_56 hl (k := 2) rfl ex_65 (by decide) rfl (fun ls hl => ?_)
      refine lv_goto (tgt := 39) F.1 F.2.1 dX7_spellReach_59 (by decide) ?_
      exact ih_39 (x_65) _ _ _ ⟨(show (4 - x_65.toInt + 1).toNat < n_39 from by omega), (wkb hx_65.2 rfl rfl), hH, hS, lv_sub hl [1, 2, 0] rfl⟩
set_option maxHeartbeats 4000000 in
set_option maxRecDepth 100000 in
theorem c_X7_spellRight (E : Ev) (ws : TD) (kp : TD) (as : TD) (rd : TD) (sc : TD) (un : Int × Int) (tk : Int × Int) (xt : Int × Int) (tp : Int × Int) (sp : Int × Int) (nu : Int × Int) (X0 : Nat → Int32) (a0 : Nat) (a1 : Int32) (ha0 : eT E a0 ∈ [24]) (ha1 : 0 ≤ a1.toInt ∧ a1.toInt ≤ 13) (hX0 : okR X0) : TcV E yX7_spellRight cX7_spellRight 3 ({ frames := 7, cells := 0, slots := 0, locals := 224 }) [.ref a0, .int a1] (fun H => TH E (tbM (mD (.inl tp) (.inl sp) (.inl nu) (.inl un) (.inl tk) (.inl xt)) (xD 660 X0) ws kp as rd sc) H) (fun H => TH E (tbM (mD (.inl tp) (.inl sp) (.inl nu) (.inl un) (.inl tk) (.inl xt)) (xD 660 X0) ws kp as rd sc) H) := by
  refine teV (by decide) (Nat.le_of_ble_eq_true rfl) ?_
  intro p_ ev_ s mi_ below_ meth cd_ ls F hK hN hO hH hS hl
  have hH : TH E (tbM (mD (.inl tp) (.inl sp) (.inl nu) (.inl un) (.inl tk) (.inl xt)) (xD 660 X0) ws kp as rd sc) s.heap := hH
  have hl : lv_has ls 3 [(0, .ref a0), (1, .int a1)] := hl
  have hBX0 := okB hX0.1
  have hLX0 := hX0.2
  refine lv_aload_n F.1 F.2.1 dX7_spellRight_0 rfl (lv_at hl 0 rfl) ?_
  refine ldcwS F.1 F.2.1 F.2.2.2.2.1 (hO.1 21 _ rfl).1 dX7_spellRight_1 ?_
  refine tVv (b := a0) (As := [.ref (eX E 21)]) (rest := []) F hK hN hO (c_X7_spellPart E ws kp as rd sc un tk xt tp sp nu X0 a0 21 5 ha0 (strAt 21 rfl) hX0) mv_X7_spellPart wd_55_19 ⟨Nat.le_of_ble_eq_true rfl, Nat.le_of_ble_eq_true rfl⟩ ⟨Nat.le_of_ble_eq_true rfl, Nat.le_of_ble_eq_true rfl⟩ hH hS (tRecv hK hH (tyb ha0 (all1 rfl)) clX7) rfl hl.1 (Nat.le_of_ble_eq_true rfl) dX7_spellRight_4 (fun H locs hq hS => ?_)
  have hH := hq
  have hH : TH E (tbM (mD (.inl tp) (.inl sp) (.inl nu) (.inl un) (.inl tk) (.inl xt)) (xD 660 X0) ws kp as rd sc) H := hH
  refine lv_iconst (v := 0) F.1 F.2.1 dX7_spellRight_7 (by decide) ?_
  refine topK (a := 0) (by decide) (fun k_2 hk_2 => ?_)
  refine lv_istore_n (lv' := [(2, .int k_2), (0, .ref a0), (1, .int a1)]) F.1 F.2.1 dX7_spellRight_8 rfl hl (by decide) rfl (fun ls hl => ?_)
  refine wloop (σ := Int32) (fun n9 x9 H locs ls => (4 - x9.toInt + 1).toNat < n9 ∧ (0 ≤ x9.toInt ∧ x9.toInt ≤ 4) ∧ TH E (tbM (mD (.inl tp) (.inl sp) (.inl nu) (.inl un) (.inl tk) (.inl xt)) (xD 660 X0) ws kp as rd sc) H ∧ va_S (eA E s.heap.size) s.heap H locs ∧ lv_has ls 3 [(0, .ref a0), (1, .int a1), (2, .int x9)]) ?_ (fun x9 H locs ls h => absurd h.1 (Nat.not_lt_zero _)) _ (k_2) ⟨Nat.lt_succ_self _, (wkb (eqb hk_2) rfl rfl), hH, hS, lv_sub hl [1, 2, 0] rfl⟩
  intro n_9 ih_9 u_3 H locs ls ⟨hm_9, hu_3, hH, hS, hl⟩
  have hm_9 : (4 - u_3.toInt + 1).toNat < n_9 + 1 := hm_9
  have hu_3 : (0 ≤ u_3.toInt ∧ u_3.toInt ≤ 4) := hu_3
  have hH : TH E (tbM (mD (.inl tp) (.inl sp) (.inl nu) (.inl un) (.inl tk) (.inl xt)) (xD 660 X0) ws kp as rd sc) H := hH
  have hl : lv_has ls 3 [(0, .ref a0), (1, .int a1), (2, .int u_3)] := hl
  refine lv_iload_n F.1 F.2.1 dX7_spellRight_9 rfl (lv_at hl 2 rfl) ?_
  refine lv_iconst (v := 3) F.1 F.2.1 dX7_spellRight_10 (by decide) ?_
  refine topK (a := 3) (by decide) (fun k_4 hk_4 => ?_)
  refine b_gt (tgt := 30) F dX7_spellRight_11 (by decide) (fun c_5 => ?_) (fun c_5 => ?_)
  · skip
    have r_6 : 4 ≤ u_3.toInt ∧ u_3.toInt ≤ 4 := by have h9_ := hu_3; omega
    refine lv_aload_n F.1 F.2.1 dX7_spellRight_30 rfl (lv_at hl 0 rfl) ?_
    refine ldcwS F.1 F.2.1 F.2.2.2.2.1 (hO.1 29 _ rfl).1 dX7_spellRight_31 ?_
    refine tVv (b := a0) (As := [.ref (eX E 29)]) (rest := []) F hK hN hO (c_X7_spellWord E ws kp as rd sc un tk xt tp sp nu X0 a0 29 4 ha0 (strAt 29 rfl) hX0) mv_X7_spellWord wd_56_3 ⟨Nat.le_of_ble_eq_true rfl, Nat.le_of_ble_eq_true rfl⟩ ⟨Nat.le_of_ble_eq_true rfl, Nat.le_of_ble_eq_true rfl⟩ hH hS (tRecv hK hH (tyb ha0 (all1 rfl)) clX7) rfl hl.1 (Nat.le_of_ble_eq_true rfl) dX7_spellRight_34 (fun H locs hq hS => ?_)
    have hH := hq
    have hH : TH E (tbM (mD (.inl tp) (.inl sp) (.inl nu) (.inl un) (.inl tk) (.inl xt)) (xD 660 X0) ws kp as rd sc) H := hH
    refine lv_aload_n F.1 F.2.1 dX7_spellRight_37 rfl (lv_at hl 0 rfl) ?_
    refine lv_aload_n F.1 F.2.1 dX7_spellRight_38 rfl (lv_at hl 0 rfl) ?_
    refine lv_iload_n F.1 F.2.1 dX7_spellRight_39 rfl (lv_at hl 1 rfl) ?_
    refine lv_iconst (v := 4) F.1 F.2.1 dX7_spellRight_40 (by decide) ?_
    refine topK (a := 4) (by decide) (fun k_9 hk_9 => ?_)
    refine tVi (b := a0) (As := [.int a1, .int k_9]) (rest := [.ref a0]) F hK hN hO (c_X7_of_4 E ws kp as rd sc un tk xt tp sp nu X0 a0 a1 k_9 ha0 ha1 (eqb hk_9) ((hX0).1)) mv_X7_of wd_26_20 ⟨Nat.le_of_ble_eq_true rfl, Nat.le_of_ble_eq_true rfl⟩ ⟨Nat.le_of_ble_eq_true rfl, Nat.le_of_ble_eq_true rfl⟩ hH hS (tRecv hK hH (tyb ha0 (all1 rfl)) clX7) rfl hl.1 (Nat.le_of_ble_eq_true rfl) dX7_spellRight_41 (fun z_10 H locs hq hS => ?_)
    obtain ⟨f_11, f_12, hH⟩ := hq
    have hH : TH E (tbM (mD (.inl tp) (.inl sp) (.inl nu) (.inl un) (.inl tk) (.inl xt)) (xD 660 X0) ws kp as rd sc) H := hH
    refine tVv (b := a0) (As := [.int z_10]) (rest := []) F hK hN hO (c_X7_spellNumber E ws kp as rd sc un tk xt tp sp nu X0 a0 z_10 ha0 hX0) mv_X7_spellNumber wd_56_7 ⟨Nat.le_of_ble_eq_true rfl, Nat.le_of_ble_eq_true rfl⟩ ⟨Nat.le_of_ble_eq_true rfl, Nat.le_of_ble_eq_true rfl⟩ hH hS (tRecv hK hH (tyb ha0 (all1 rfl)) clX7) rfl hl.1 (Nat.le_of_ble_eq_true rfl) dX7_spellRight_44 (fun H locs hq hS => ?_)
    have hH := hq
    have hH : TH E (tbM (mD (.inl tp) (.inl sp) (.inl nu) (.inl un) (.inl tk) (.inl xt)) (xD 660 X0) ws kp as rd sc) H := hH
    refine lv_aload_n F.1 F.2.1 dX7_spellRight_47 rfl (lv_at hl 0 rfl) ?_
    refine lv_iload_n F.1 F.2.1 dX7_spellRight_48 rfl (lv_at hl 1 rfl) ?_
    refine lv_iconst (v := 5) F.1 F.2.1 dX7_spellRight_49 (by decide) ?_
    refine topK (a := 5) (by decide) (fun k_14 hk_14 => ?_)
    refine tVi (b := a0) (As := [.int a1, .int k_14]) (rest := []) F hK hN hO (c_X7_of_5 E ws kp as rd sc un tk xt tp sp nu X0 a0 a1 k_14 ha0 ha1 (eqb hk_14) ((hX0).1)) mv_X7_of wd_26_20 ⟨Nat.le_of_ble_eq_true rfl, Nat.le_of_ble_eq_true rfl⟩ ⟨Nat.le_of_ble_eq_true rfl, Nat.le_of_ble_eq_true rfl⟩ hH hS (tRecv hK hH (tyb ha0 (all1 rfl)) clX7) rfl hl.1 (Nat.le_of_ble_eq_true rfl) dX7_spellRight_50 (fun z_15 H locs hq hS => ?_)
    obtain ⟨f_16, f_17, hH⟩ := hq
    have hH : TH E (tbM (mD (.inl tp) (.inl sp) (.inl nu) (.inl un) (.inl tk) (.inl xt)) (xD 660 X0) ws kp as rd sc) H := hH
    refine lv_bipush (v := (-2)) F.1 F.2.1 dX7_spellRight_53 (by decide) ?_
    refine topK (a := (-2)) (by decide) (fun k_18 hk_18 => ?_)
    refine wjoin (σ := Unit) (pcj := 75) (stj := fun x9 => []) (fun x9 H locs ls => TH E (tbM (mD (.inl tp) (.inl sp) (.inl nu) (.inl un) (.inl tk) (.inl xt)) (xD 660 X0) ws kp as rd sc) H ∧ va_S (eA E s.heap.size) s.heap H locs ∧ lv_has ls 3 [(0, .ref a0), (1, .int a1)]) (fun x9 H locs ls h_ => ?_) (fun J_75 => ?_)
    · skip
      obtain ⟨hH, hS, hl⟩ := h_
      have hH : TH E (tbM (mD (.inl tp) (.inl sp) (.inl nu) (.inl un) (.inl tk) (.inl xt)) (xD 660 X0) ws kp as rd sc) H := hH
      have hl : lv_has ls 3 [(0, .ref a0), (1, .int a1)] := hl
      show W _ _ _ _ _ _ _ _ _ _ _ _ _ _ _ (F0 _ _ _ [])
      refine lv_aload_n F.1 F.2.1 dX7_spellRight_75 rfl (lv_at hl 0 rfl) ?_
      refine lv_iload_n F.1 F.2.1 dX7_spellRight_76 rfl (lv_at hl 1 rfl) ?_
      refine lv_bipush (v := 7) F.1 F.2.1 dX7_spellRight_77 (by decide) ?_
      refine topK (a := 7) (by decide) (fun k_19 hk_19 => ?_)
      refine tVi (b := a0) (As := [.int a1, .int k_19]) (rest := []) F hK hN hO (c_X7_of_7 E ws kp as rd sc un tk xt tp sp nu X0 a0 a1 k_19 ha0 ha1 (eqb hk_19) ((hX0).1)) mv_X7_of wd_26_20 ⟨Nat.le_of_ble_eq_true rfl, Nat.le_of_ble_eq_true rfl⟩ ⟨Nat.le_of_ble_eq_true rfl, Nat.le_of_ble_eq_true rfl⟩ hH hS (tRecv hK hH (tyb ha0 (all1 rfl)) clX7) rfl hl.1 (Nat.le_of_ble_eq_true rfl) dX7_spellRight_79 (fun z_20 H locs hq hS => ?_)
      obtain ⟨f_21, f_22, f_23, hH⟩ := hq
      have hH : TH E (tbM (mD (.inl tp) (.inl sp) (.inl nu) (.inl un) (.inl tk) (.inl xt)) (xD 660 X0) ws kp as rd sc) H := hH
      refine lv_bipush (v := (-2)) F.1 F.2.1 dX7_spellRight_82 (by decide) ?_
      refine topK (a := (-2)) (by decide) (fun k_24 hk_24 => ?_)
      refine b_ne (tgt := 88) F dX7_spellRight_84 (by decide) (fun c_25 => ?_) (fun c_25 => ?_)
      · skip
        have r_26 : 0 ≤ z_20.toInt ∧ z_20.toInt ≤ 11 := by have h9_ := f_21; omega
        refine lv_aload_n F.1 F.2.1 dX7_spellRight_88 rfl (lv_at hl 0 rfl) ?_
        refine ldcwS F.1 F.2.1 F.2.2.2.2.1 (hO.1 31 _ rfl).1 dX7_spellRight_89 ?_
        refine tVv (b := a0) (As := [.ref (eX E 31)]) (rest := []) F hK hN hO (c_X7_spellWord E ws kp as rd sc un tk xt tp sp nu X0 a0 31 5 ha0 (strAt 31 rfl) hX0) mv_X7_spellWord wd_56_3 ⟨Nat.le_of_ble_eq_true rfl, Nat.le_of_ble_eq_true rfl⟩ ⟨Nat.le_of_ble_eq_true rfl, Nat.le_of_ble_eq_true rfl⟩ hH hS (tRecv hK hH (tyb ha0 (all1 rfl)) clX7) rfl hl.1 (Nat.le_of_ble_eq_true rfl) dX7_spellRight_92 (fun H locs hq hS => ?_)
        have hH := hq
        have hH : TH E (tbM (mD (.inl tp) (.inl sp) (.inl nu) (.inl un) (.inl tk) (.inl xt)) (xD 660 X0) ws kp as rd sc) H := hH
        refine lv_bipush (v := 7) F.1 F.2.1 dX7_spellRight_95 (by decide) ?_
        refine topK (a := 7) (by decide) (fun k_29 hk_29 => ?_)
        refine lv_istore_n (lv' := [(2, .int k_29), (0, .ref a0), (1, .int a1)]) F.1 F.2.1 dX7_spellRight_97 rfl hl (by decide) rfl (fun ls hl => ?_)
        refine wloop (σ := Int32) (fun n9 x9 H locs ls => (10 - x9.toInt + 1).toNat < n9 ∧ (7 ≤ x9.toInt ∧ x9.toInt ≤ 10) ∧ TH E (tbM (mD (.inl tp) (.inl sp) (.inl nu) (.inl un) (.inl tk) (.inl xt)) (xD 660 X0) ws kp as rd sc) H ∧ va_S (eA E s.heap.size) s.heap H locs ∧ lv_has ls 3 [(0, .ref a0), (1, .int a1), (2, .int x9)]) ?_ (fun x9 H locs ls h => absurd h.1 (Nat.not_lt_zero _)) _ (k_29) ⟨Nat.lt_succ_self _, (wkb (eqb hk_29) rfl rfl), hH, hS, lv_sub hl [1, 2, 0] rfl⟩
        intro n_98 ih_98 u_30 H locs ls ⟨hm_98, hu_30, hH, hS, hl⟩
        have hm_98 : (10 - u_30.toInt + 1).toNat < n_98 + 1 := hm_98
        have hu_30 : (7 ≤ u_30.toInt ∧ u_30.toInt ≤ 10) := hu_30
        have hH : TH E (tbM (mD (.inl tp) (.inl sp) (.inl nu) (.inl un) (.inl tk) (.inl xt)) (xD 660 X0) ws kp as rd sc) H := hH
        have hl : lv_has ls 3 [(0, .ref a0), (1, .int a1), (2, .int u_30)] := hl
        refine lv_iload_n F.1 F.2.1 dX7_spellRight_98 rfl (lv_at hl 2 rfl) ?_
        refine lv_bipush (v := 9) F.1 F.2.1 dX7_spellRight_99 (by decide) ?_
        refine topK (a := 9) (by decide) (fun k_31 hk_31 => ?_)
        refine b_gt (tgt := 120) F dX7_spellRight_101 (by decide) (fun c_32 => ?_) (fun c_32 => ?_)
        · skip
          have r_33 : 10 ≤ u_30.toInt ∧ u_30.toInt ≤ 10 := by have h9_ := hu_30; omega
          exact txV F hS dX7_spellRight_120 (hH)
        · skip
          have r_34 : 7 ≤ u_30.toInt ∧ u_30.toInt ≤ 9 := by have h9_ := hu_30; omega
          refine lv_aload_n F.1 F.2.1 dX7_spellRight_104 rfl (lv_at hl 0 rfl) ?_
          refine lv_aload_n F.1 F.2.1 dX7_spellRight_105 rfl (lv_at hl 0 rfl) ?_
          refine lv_iload_n F.1 F.2.1 dX7_spellRight_106 rfl (lv_at hl 1 rfl) ?_
          refine lv_iload_n F.1 F.2.1 dX7_spellRight_107 rfl (lv_at hl 2 rfl) ?_
          refine tVi (b := a0) (As := [.int a1, .int u_30]) (rest := [.ref a0]) F hK hN hO (c_X7_of_any E ws kp as rd sc un tk xt tp sp nu X0 a0 a1 u_30 ha0 ha1 (wkb r_34 rfl rfl) ((hX0).1)) mv_X7_of wd_26_20 ⟨Nat.le_of_ble_eq_true rfl, Nat.le_of_ble_eq_true rfl⟩ ⟨Nat.le_of_ble_eq_true rfl, Nat.le_of_ble_eq_true rfl⟩ hH hS (tRecv hK hH (tyb ha0 (all1 rfl)) clX7) rfl hl.1 (Nat.le_of_ble_eq_true rfl) dX7_spellRight_108 (fun z_35 H locs hq hS => ?_)
          obtain ⟨f_36, hH⟩ := hq
          have hH : TH E (tbM (mD (.inl tp) (.inl sp) (.inl nu) (.inl un) (.inl tk) (.inl xt)) (xD 660 X0) ws kp as rd sc) H := hH
          refine tVv (b := a0) (As := [.int z_35]) (rest := []) F hK hN hO (c_X7_spellNumber E ws kp as rd sc un tk xt tp sp nu X0 a0 z_35 ha0 hX0) mv_X7_spellNumber wd_56_7 ⟨Nat.le_of_ble_eq_true rfl, Nat.le_of_ble_eq_true rfl⟩ ⟨Nat.le_of_ble_eq_true rfl, Nat.le_of_ble_eq_true rfl⟩ hH hS (tRecv hK hH (tyb ha0 (all1 rfl)) clX7) rfl hl.1 (Nat.le_of_ble_eq_true rfl) dX7_spellRight_111 (fun H locs hq hS => ?_)
          have hH := hq
          have hH : TH E (tbM (mD (.inl tp) (.inl sp) (.inl nu) (.inl un) (.inl tk) (.inl xt)) (xD 660 X0) ws kp as rd sc) H := hH
          obtain ⟨x_38, ex_38, hx_38⟩ := iincB (c := 1) (lo := 8) (hi := 10) r_34 rfl
          refine lv_iinc (v := x_38) (lv' := [(2, .int x_38), (0, .ref a0), (1, .int a1)]) F.1 F.2.1 dX7_spellRight_114 hl (k := 2) rfl ex_38 (by decide) rfl (fun ls hl => ?_)
          refine lv_goto (tgt := 98) F.1 F.2.1 dX7_spellRight_117 (by decide) ?_
          exact ih_98 (x_38) _ _ _ ⟨(show (10 - x_38.toInt + 1).toNat < n_98 from by omega), (wkb hx_38.2 rfl rfl), hH, hS, lv_sub hl [1, 2, 0] rfl⟩
      · skip
        have r_27 : (-2) ≤ z_20.toInt ∧ z_20.toInt ≤ (-2) := by have h9_ := f_21; omega
        exact txV F hS dX7_spellRight_87 (hH)
    refine b_eq (tgt := 75) F dX7_spellRight_55 (by decide) (fun c_39 => ?_) (fun c_39 => ?_)
    · skip
      have r_40 : (-2) ≤ z_15.toInt ∧ z_15.toInt ≤ (-2) := by have h9_ := f_16; omega
      exact J_75 () _ _ _ ⟨hH, hS, lv_sub hl [0, 1] rfl⟩
    · skip
      have r_41 : (-1) ≤ z_15.toInt ∧ z_15.toInt ≤ 999999 := by have h9_ := f_16; omega
      refine lv_aload_n F.1 F.2.1 dX7_spellRight_58 rfl (lv_at hl 0 rfl) ?_
      refine ldcwS F.1 F.2.1 F.2.2.2.2.1 (hO.1 30 _ rfl).1 dX7_spellRight_59 ?_
      refine tVv (b := a0) (As := [.ref (eX E 30)]) (rest := []) F hK hN hO (c_X7_spellWord E ws kp as rd sc un tk xt tp sp nu X0 a0 30 4 ha0 (strAt 30 rfl) hX0) mv_X7_spellWord wd_56_3 ⟨Nat.le_of_ble_eq_true rfl, Nat.le_of_ble_eq_true rfl⟩ ⟨Nat.le_of_ble_eq_true rfl, Nat.le_of_ble_eq_true rfl⟩ hH hS (tRecv hK hH (tyb ha0 (all1 rfl)) clX7) rfl hl.1 (Nat.le_of_ble_eq_true rfl) dX7_spellRight_62 (fun H locs hq hS => ?_)
      have hH := hq
      have hH : TH E (tbM (mD (.inl tp) (.inl sp) (.inl nu) (.inl un) (.inl tk) (.inl xt)) (xD 660 X0) ws kp as rd sc) H := hH
      refine lv_aload_n F.1 F.2.1 dX7_spellRight_65 rfl (lv_at hl 0 rfl) ?_
      refine lv_aload_n F.1 F.2.1 dX7_spellRight_66 rfl (lv_at hl 0 rfl) ?_
      refine lv_iload_n F.1 F.2.1 dX7_spellRight_67 rfl (lv_at hl 1 rfl) ?_
      refine lv_iconst (v := 5) F.1 F.2.1 dX7_spellRight_68 (by decide) ?_
      refine topK (a := 5) (by decide) (fun k_43 hk_43 => ?_)
      refine tVi (b := a0) (As := [.int a1, .int k_43]) (rest := [.ref a0]) F hK hN hO (c_X7_of_5 E ws kp as rd sc un tk xt tp sp nu X0 a0 a1 k_43 ha0 ha1 (eqb hk_43) ((hX0).1)) mv_X7_of wd_26_20 ⟨Nat.le_of_ble_eq_true rfl, Nat.le_of_ble_eq_true rfl⟩ ⟨Nat.le_of_ble_eq_true rfl, Nat.le_of_ble_eq_true rfl⟩ hH hS (tRecv hK hH (tyb ha0 (all1 rfl)) clX7) rfl hl.1 (Nat.le_of_ble_eq_true rfl) dX7_spellRight_69 (fun z_44 H locs hq hS => ?_)
      obtain ⟨f_45, f_46, hH⟩ := hq
      have hH : TH E (tbM (mD (.inl tp) (.inl sp) (.inl nu) (.inl un) (.inl tk) (.inl xt)) (xD 660 X0) ws kp as rd sc) H := hH
      refine tVv (b := a0) (As := [.int z_44]) (rest := []) F hK hN hO (c_X7_spellNumber E ws kp as rd sc un tk xt tp sp nu X0 a0 z_44 ha0 hX0) mv_X7_spellNumber wd_56_7 ⟨Nat.le_of_ble_eq_true rfl, Nat.le_of_ble_eq_true rfl⟩ ⟨Nat.le_of_ble_eq_true rfl, Nat.le_of_ble_eq_true rfl⟩ hH hS (tRecv hK hH (tyb ha0 (all1 rfl)) clX7) rfl hl.1 (Nat.le_of_ble_eq_true rfl) dX7_spellRight_72 (fun H locs hq hS => ?_)
      have hH := hq
      have hH : TH E (tbM (mD (.inl tp) (.inl sp) (.inl nu) (.inl un) (.inl tk) (.inl xt)) (xD 660 X0) ws kp as rd sc) H := hH
      exact J_75 () _ _ _ ⟨hH, hS, lv_sub hl [0, 1] rfl⟩
  · skip
    have r_7 : 0 ≤ u_3.toInt ∧ u_3.toInt ≤ 3 := by have h9_ := hu_3; omega
    refine lv_aload_n F.1 F.2.1 dX7_spellRight_14 rfl (lv_at hl 0 rfl) ?_
    refine lv_aload_n F.1 F.2.1 dX7_spellRight_15 rfl (lv_at hl 0 rfl) ?_
    refine lv_iload_n F.1 F.2.1 dX7_spellRight_16 rfl (lv_at hl 1 rfl) ?_
    refine lv_iload_n F.1 F.2.1 dX7_spellRight_17 rfl (lv_at hl 2 rfl) ?_
    refine tVi (b := a0) (As := [.int a1, .int u_3]) (rest := [.ref a0]) F hK hN hO (c_X7_of_any E ws kp as rd sc un tk xt tp sp nu X0 a0 a1 u_3 ha0 ha1 (wkb r_7 rfl rfl) ((hX0).1)) mv_X7_of wd_26_20 ⟨Nat.le_of_ble_eq_true rfl, Nat.le_of_ble_eq_true rfl⟩ ⟨Nat.le_of_ble_eq_true rfl, Nat.le_of_ble_eq_true rfl⟩ hH hS (tRecv hK hH (tyb ha0 (all1 rfl)) clX7) rfl hl.1 (Nat.le_of_ble_eq_true rfl) dX7_spellRight_18 (fun z_48 H locs hq hS => ?_)
    obtain ⟨f_49, hH⟩ := hq
    have hH : TH E (tbM (mD (.inl tp) (.inl sp) (.inl nu) (.inl un) (.inl tk) (.inl xt)) (xD 660 X0) ws kp as rd sc) H := hH
    refine tVv (b := a0) (As := [.int z_48]) (rest := []) F hK hN hO (c_X7_spellNumber E ws kp as rd sc un tk xt tp sp nu X0 a0 z_48 ha0 hX0) mv_X7_spellNumber wd_56_7 ⟨Nat.le_of_ble_eq_true rfl, Nat.le_of_ble_eq_true rfl⟩ ⟨Nat.le_of_ble_eq_true rfl, Nat.le_of_ble_eq_true rfl⟩ hH hS (tRecv hK hH (tyb ha0 (all1 rfl)) clX7) rfl hl.1 (Nat.le_of_ble_eq_true rfl) dX7_spellRight_21 (fun H locs hq hS => ?_)
    have hH := hq
    have hH : TH E (tbM (mD (.inl tp) (.inl sp) (.inl nu) (.inl un) (.inl tk) (.inl xt)) (xD 660 X0) ws kp as rd sc) H := hH
    obtain ⟨x_51, ex_51, hx_51⟩ := iincB (c := 1) (lo := 1) (hi := 4) r_7 rfl
    refine lv_iinc (v := x_51) (lv' := [(2, .int x_51), (0, .ref a0), (1, .int a1)]) F.1 F.2.1 dX7_spellRight_24 hl (k := 2) rfl ex_51 (by decide) rfl (fun ls hl => ?_)
    refine lv_goto (tgt := 9) F.1 F.2.1 dX7_spellRight_27 (by decide) ?_
    exact ih_9 (x_51) _ _ _ ⟨(show (4 - x_51.toInt + 1).toNat < n_9 from by omega), (wkb hx_51.2 rfl rfl), hH, hS, lv_sub hl [1, 2, 0] rfl⟩
set_option maxHeartbeats 4000000 in
set_option maxRecDepth 100000 in
theorem c_X7_spellStore (E : Ev) (ws : TD) (kp : TD) (as : TD) (rd : TD) (sc : TD) (un : Int × Int) (tk : Int × Int) (xt : Int × Int) (tp : Int × Int) (sp : Int × Int) (nu : Int × Int) (X0 : Nat → Int32) (a0 : Nat) (a1 : Int32) (ha0 : eT E a0 ∈ [24]) (ha1 : 0 ≤ a1.toInt ∧ a1.toInt ≤ 3) (hX0 : okR X0) : TcV E yX7_spellStore cX7_spellStore 3 ({ frames := 7, cells := 0, slots := 0, locals := 224 }) [.ref a0, .int a1] (fun H => TH E (tbM (mD (.inl tp) (.inl sp) (.inl nu) (.inl un) (.inl tk) (.inl xt)) (xD 660 X0) ws kp as rd sc) H) (fun H => TH E (tbM (mD (.inl tp) (.inl sp) (.inl nu) (.inl un) (.inl tk) (.inl xt)) (xD 660 X0) ws kp as rd sc) H) := by
  refine teV (by decide) (Nat.le_of_ble_eq_true rfl) ?_
  intro p_ ev_ s mi_ below_ meth cd_ ls F hK hN hO hH hS hl
  have hH : TH E (tbM (mD (.inl tp) (.inl sp) (.inl nu) (.inl un) (.inl tk) (.inl xt)) (xD 660 X0) ws kp as rd sc) s.heap := hH
  have hl : lv_has ls 3 [(0, .ref a0), (1, .int a1)] := hl
  have hBX0 := okB hX0.1
  have hLX0 := hX0.2
  refine lv_aload_n F.1 F.2.1 dX7_spellStore_0 rfl (lv_at hl 0 rfl) ?_
  refine ldcwS F.1 F.2.1 F.2.2.2.2.1 (hO.1 25 _ rfl).1 dX7_spellStore_1 ?_
  refine tVv (b := a0) (As := [.ref (eX E 25)]) (rest := []) F hK hN hO (c_X7_spellPart E ws kp as rd sc un tk xt tp sp nu X0 a0 25 5 ha0 (strAt 25 rfl) hX0) mv_X7_spellPart wd_55_19 ⟨Nat.le_of_ble_eq_true rfl, Nat.le_of_ble_eq_true rfl⟩ ⟨Nat.le_of_ble_eq_true rfl, Nat.le_of_ble_eq_true rfl⟩ hH hS (tRecv hK hH (tyb ha0 (all1 rfl)) clX7) rfl hl.1 (Nat.le_of_ble_eq_true rfl) dX7_spellStore_4 (fun H locs hq hS => ?_)
  have hH := hq
  have hH : TH E (tbM (mD (.inl tp) (.inl sp) (.inl nu) (.inl un) (.inl tk) (.inl xt)) (xD 660 X0) ws kp as rd sc) H := hH
  refine lv_iconst (v := 0) F.1 F.2.1 dX7_spellStore_7 (by decide) ?_
  refine topK (a := 0) (by decide) (fun k_2 hk_2 => ?_)
  refine lv_istore_n (lv' := [(2, .int k_2), (0, .ref a0), (1, .int a1)]) F.1 F.2.1 dX7_spellStore_8 rfl hl (by decide) rfl (fun ls hl => ?_)
  refine wloop (σ := Int32) (fun n9 x9 H locs ls => (3 - x9.toInt + 1).toNat < n9 ∧ (0 ≤ x9.toInt ∧ x9.toInt ≤ 3) ∧ TH E (tbM (mD (.inl tp) (.inl sp) (.inl nu) (.inl un) (.inl tk) (.inl xt)) (xD 660 X0) ws kp as rd sc) H ∧ va_S (eA E s.heap.size) s.heap H locs ∧ lv_has ls 3 [(0, .ref a0), (1, .int a1), (2, .int x9)]) ?_ (fun x9 H locs ls h => absurd h.1 (Nat.not_lt_zero _)) _ (k_2) ⟨Nat.lt_succ_self _, (wkb (eqb hk_2) rfl rfl), hH, hS, lv_sub hl [1, 2, 0] rfl⟩
  intro n_9 ih_9 u_3 H locs ls ⟨hm_9, hu_3, hH, hS, hl⟩
  have hm_9 : (3 - u_3.toInt + 1).toNat < n_9 + 1 := hm_9
  have hu_3 : (0 ≤ u_3.toInt ∧ u_3.toInt ≤ 3) := hu_3
  have hH : TH E (tbM (mD (.inl tp) (.inl sp) (.inl nu) (.inl un) (.inl tk) (.inl xt)) (xD 660 X0) ws kp as rd sc) H := hH
  have hl : lv_has ls 3 [(0, .ref a0), (1, .int a1), (2, .int u_3)] := hl
  refine lv_iload_n F.1 F.2.1 dX7_spellStore_9 rfl (lv_at hl 2 rfl) ?_
  refine lv_iconst (v := 3) F.1 F.2.1 dX7_spellStore_10 (by decide) ?_
  refine topK (a := 3) (by decide) (fun k_4 hk_4 => ?_)
  refine b_ge (tgt := 30) F dX7_spellStore_11 (by decide) (fun c_5 => ?_) (fun c_5 => ?_)
  · skip
    have r_6 : 3 ≤ u_3.toInt ∧ u_3.toInt ≤ 3 := by have h9_ := hu_3; omega
    refine lv_aload_n F.1 F.2.1 dX7_spellStore_30 rfl (lv_at hl 0 rfl) ?_
    refine ldcwS F.1 F.2.1 F.2.2.2.2.1 (hO.1 29 _ rfl).1 dX7_spellStore_31 ?_
    refine tVv (b := a0) (As := [.ref (eX E 29)]) (rest := []) F hK hN hO (c_X7_spellWord E ws kp as rd sc un tk xt tp sp nu X0 a0 29 4 ha0 (strAt 29 rfl) hX0) mv_X7_spellWord wd_56_3 ⟨Nat.le_of_ble_eq_true rfl, Nat.le_of_ble_eq_true rfl⟩ ⟨Nat.le_of_ble_eq_true rfl, Nat.le_of_ble_eq_true rfl⟩ hH hS (tRecv hK hH (tyb ha0 (all1 rfl)) clX7) rfl hl.1 (Nat.le_of_ble_eq_true rfl) dX7_spellStore_34 (fun H locs hq hS => ?_)
    have hH := hq
    have hH : TH E (tbM (mD (.inl tp) (.inl sp) (.inl nu) (.inl un) (.inl tk) (.inl xt)) (xD 660 X0) ws kp as rd sc) H := hH
    refine lv_aload_n F.1 F.2.1 dX7_spellStore_37 rfl (lv_at hl 0 rfl) ?_
    refine lv_aload_n F.1 F.2.1 dX7_spellStore_38 rfl (lv_at hl 0 rfl) ?_
    refine lv_iload_n F.1 F.2.1 dX7_spellStore_39 rfl (lv_at hl 1 rfl) ?_
    refine lv_iconst (v := 3) F.1 F.2.1 dX7_spellStore_40 (by decide) ?_
    refine topK (a := 3) (by decide) (fun k_9 hk_9 => ?_)
    refine tVi (b := a0) (As := [.int a1, .int k_9]) (rest := [.ref a0]) F hK hN hO (c_X7_ofStore_3 E ws kp as rd sc un tk xt tp sp nu X0 a0 a1 k_9 ha0 ha1 (eqb hk_9) ((hX0).1)) mv_X7_ofStore wd_27_0 ⟨Nat.le_of_ble_eq_true rfl, Nat.le_of_ble_eq_true rfl⟩ ⟨Nat.le_of_ble_eq_true rfl, Nat.le_of_ble_eq_true rfl⟩ hH hS (tRecv hK hH (tyb ha0 (all1 rfl)) clX7) rfl hl.1 (Nat.le_of_ble_eq_true rfl) dX7_spellStore_41 (fun z_10 H locs hq hS => ?_)
    obtain ⟨f_11, f_12, hH⟩ := hq
    have hH : TH E (tbM (mD (.inl tp) (.inl sp) (.inl nu) (.inl un) (.inl tk) (.inl xt)) (xD 660 X0) ws kp as rd sc) H := hH
    refine tVv (b := a0) (As := [.int z_10]) (rest := []) F hK hN hO (c_X7_spellNumber E ws kp as rd sc un tk xt tp sp nu X0 a0 z_10 ha0 hX0) mv_X7_spellNumber wd_56_7 ⟨Nat.le_of_ble_eq_true rfl, Nat.le_of_ble_eq_true rfl⟩ ⟨Nat.le_of_ble_eq_true rfl, Nat.le_of_ble_eq_true rfl⟩ hH hS (tRecv hK hH (tyb ha0 (all1 rfl)) clX7) rfl hl.1 (Nat.le_of_ble_eq_true rfl) dX7_spellStore_44 (fun H locs hq hS => ?_)
    have hH := hq
    have hH : TH E (tbM (mD (.inl tp) (.inl sp) (.inl nu) (.inl un) (.inl tk) (.inl xt)) (xD 660 X0) ws kp as rd sc) H := hH
    exact txV F hS dX7_spellStore_47 (hH)
  · skip
    have r_7 : 0 ≤ u_3.toInt ∧ u_3.toInt ≤ 2 := by have h9_ := hu_3; omega
    refine lv_aload_n F.1 F.2.1 dX7_spellStore_14 rfl (lv_at hl 0 rfl) ?_
    refine lv_aload_n F.1 F.2.1 dX7_spellStore_15 rfl (lv_at hl 0 rfl) ?_
    refine lv_iload_n F.1 F.2.1 dX7_spellStore_16 rfl (lv_at hl 1 rfl) ?_
    refine lv_iload_n F.1 F.2.1 dX7_spellStore_17 rfl (lv_at hl 2 rfl) ?_
    refine tVi (b := a0) (As := [.int a1, .int u_3]) (rest := [.ref a0]) F hK hN hO (c_X7_ofStore_any E ws kp as rd sc un tk xt tp sp nu X0 a0 a1 u_3 ha0 ha1 (wkb r_7 rfl rfl) ((hX0).1)) mv_X7_ofStore wd_27_0 ⟨Nat.le_of_ble_eq_true rfl, Nat.le_of_ble_eq_true rfl⟩ ⟨Nat.le_of_ble_eq_true rfl, Nat.le_of_ble_eq_true rfl⟩ hH hS (tRecv hK hH (tyb ha0 (all1 rfl)) clX7) rfl hl.1 (Nat.le_of_ble_eq_true rfl) dX7_spellStore_18 (fun z_14 H locs hq hS => ?_)
    obtain ⟨f_15, hH⟩ := hq
    have hH : TH E (tbM (mD (.inl tp) (.inl sp) (.inl nu) (.inl un) (.inl tk) (.inl xt)) (xD 660 X0) ws kp as rd sc) H := hH
    refine tVv (b := a0) (As := [.int z_14]) (rest := []) F hK hN hO (c_X7_spellNumber E ws kp as rd sc un tk xt tp sp nu X0 a0 z_14 ha0 hX0) mv_X7_spellNumber wd_56_7 ⟨Nat.le_of_ble_eq_true rfl, Nat.le_of_ble_eq_true rfl⟩ ⟨Nat.le_of_ble_eq_true rfl, Nat.le_of_ble_eq_true rfl⟩ hH hS (tRecv hK hH (tyb ha0 (all1 rfl)) clX7) rfl hl.1 (Nat.le_of_ble_eq_true rfl) dX7_spellStore_21 (fun H locs hq hS => ?_)
    have hH := hq
    have hH : TH E (tbM (mD (.inl tp) (.inl sp) (.inl nu) (.inl un) (.inl tk) (.inl xt)) (xD 660 X0) ws kp as rd sc) H := hH
    obtain ⟨x_17, ex_17, hx_17⟩ := iincB (c := 1) (lo := 1) (hi := 3) r_7 rfl
    refine lv_iinc (v := x_17) (lv' := [(2, .int x_17), (0, .ref a0), (1, .int a1)]) F.1 F.2.1 dX7_spellStore_24 hl (k := 2) rfl ex_17 (by decide) rfl (fun ls hl => ?_)
    refine lv_goto (tgt := 9) F.1 F.2.1 dX7_spellStore_27 (by decide) ?_
    exact ih_9 (x_17) _ _ _ ⟨(show (3 - x_17.toInt + 1).toNat < n_9 from by omega), (wkb hx_17.2 rfl rfl), hH, hS, lv_sub hl [1, 2, 0] rfl⟩
set_option maxHeartbeats 4000000 in
set_option maxRecDepth 100000 in
theorem c_X7_letter (E : Ev) (ws : TD) (kp : TD) (as : TD) (rd : TD) (sc : TD) (un : Int × Int) (tk : Int × Int) (xt : Int × Int) (tp : Int × Int) (sp : Int × Int) (nu : Int × Int) (X0 : Nat → Int32) (a0 : Nat) (a1 : Int32) (ha0 : eT E a0 ∈ [24]) (hX0 : okR X0) : TcI E yX7_letter cX7_letter 3 .int ({ frames := 8, cells := 0, slots := 0, locals := 246 }) [.ref a0, .int a1] (fun H => TH E (tbM (mD (.inl tp) (.inl sp) (.inl nu) (.inl un) (.inl tk) (.inl xt)) (xD 660 X0) ws kp as rd sc) H) (fun v H => ((-2147483648) ≤ v.toInt ∧ v.toInt ≤ 2147483647) ∧ TH E (tbM (mD (.inl tp) (.inl sp) (.inl nu) (.inl un) (.inl tk) (.inl xt)) (xD 660 X0) ws kp as rd sc) H) := by
  refine teI (by decide) (Nat.le_of_ble_eq_true rfl) ?_
  intro p_ ev_ s mi_ below_ meth cd_ ls F hK hN hO hH hS hl
  have hH : TH E (tbM (mD (.inl tp) (.inl sp) (.inl nu) (.inl un) (.inl tk) (.inl xt)) (xD 660 X0) ws kp as rd sc) s.heap := hH
  have hl : lv_has ls 3 [(0, .ref a0), (1, .int a1)] := hl
  have hBX0 := okB hX0.1
  have hLX0 := hX0.2
  refine lv_iload_n F.1 F.2.1 dX7_letter_0 rfl (lv_at hl 1 rfl) ?_
  refine lv_iconst (v := (-1)) F.1 F.2.1 dX7_letter_1 (by decide) ?_
  refine topK (a := (-1)) (by decide) (fun k_1 hk_1 => ?_)
  refine b_ge (tgt := 7) F dX7_letter_2 (by decide) (fun c_2 => ?_) (fun c_2 => ?_)
  · skip
    have r_3 : (-1) ≤ a1.toInt ∧ a1.toInt ≤ 2147483647 := by have h9_ := (i32b a1); omega
    refine lv_aload_n F.1 F.2.1 dX7_letter_7 rfl (lv_at hl 0 rfl) ?_
    refine lv_iconst (v := 0) F.1 F.2.1 dX7_letter_8 (by decide) ?_
    refine topK (a := 0) (by decide) (fun k_5 hk_5 => ?_)
    refine tPut (j := 37) F hK hH hS (tyb ha0 (all1 rfl)) rfl (fdI (wkb (eqb hk_5) rfl rfl)) clX7 (by decide) wd_55_12 rfl rfl rfl rfl dX7_letter_9 (fun H locs hH hS => ?_)
    refine lv_aload_n F.1 F.2.1 dX7_letter_12 rfl (lv_at hl 0 rfl) ?_
    refine lv_iload_n F.1 F.2.1 dX7_letter_13 rfl (lv_at hl 1 rfl) ?_
    refine tPut (j := 38) F hK hH hS (tyb ha0 (all1 rfl)) rfl (fdI (wkb r_3 rfl rfl)) clX7 (by decide) wd_55_13 rfl rfl rfl rfl dX7_letter_14 (fun H locs hH hS => ?_)
    refine lv_aload_n F.1 F.2.1 dX7_letter_17 rfl (lv_at hl 0 rfl) ?_
    refine lv_bipush (v := (-2)) F.1 F.2.1 dX7_letter_18 (by decide) ?_
    refine topK (a := (-2)) (by decide) (fun k_6 hk_6 => ?_)
    refine tPut (j := 39) F hK hH hS (tyb ha0 (all1 rfl)) rfl (fdI (wkb (eqb hk_6) rfl rfl)) clX7 (by decide) wd_55_14 rfl rfl rfl rfl dX7_letter_20 (fun H locs hH hS => ?_)
    refine lv_iconst (v := 0) F.1 F.2.1 dX7_letter_23 (by decide) ?_
    refine topK (a := 0) (by decide) (fun k_7 hk_7 => ?_)
    refine lv_istore_n (lv' := [(2, .int k_7), (0, .ref a0), (1, .int a1)]) F.1 F.2.1 dX7_letter_24 rfl hl (by decide) rfl (fun ls hl => ?_)
    refine wloop (σ := Int32) (fun n9 x9 H locs ls => (12 - x9.toInt + 1).toNat < n9 ∧ (0 ≤ x9.toInt ∧ x9.toInt ≤ 12) ∧ TH E (tbM (mD (.inl tp) (.inl sp) (.inl nu) (.inl un) (.inl tk) (.inl xt)) (xD 660 X0) ws kp as rd sc) H ∧ va_S (eA E s.heap.size) s.heap H locs ∧ lv_has ls 3 [(0, .ref a0), (1, .int a1), (2, .int x9)]) ?_ (fun x9 H locs ls h => absurd h.1 (Nat.not_lt_zero _)) _ (k_7) ⟨Nat.lt_succ_self _, (wkb (eqb hk_7) rfl rfl), hH, hS, lv_sub hl [1, 2, 0] rfl⟩
    intro n_25 ih_25 u_8 H locs ls ⟨hm_25, hu_8, hH, hS, hl⟩
    have hm_25 : (12 - u_8.toInt + 1).toNat < n_25 + 1 := hm_25
    have hu_8 : (0 ≤ u_8.toInt ∧ u_8.toInt ≤ 12) := hu_8
    have hH : TH E (tbM (mD (.inl tp) (.inl sp) (.inl nu) (.inl un) (.inl tk) (.inl xt)) (xD 660 X0) ws kp as rd sc) H := hH
    have hl : lv_has ls 3 [(0, .ref a0), (1, .int a1), (2, .int u_8)] := hl
    refine lv_iload_n F.1 F.2.1 dX7_letter_25 rfl (lv_at hl 2 rfl) ?_
    refine lv_aload_n F.1 F.2.1 dX7_letter_26 rfl (lv_at hl 0 rfl) ?_
    refine tVi (b := a0) (As := []) (rest := [.int u_8]) F hK hN hO (c_X7_reaches E ws kp as rd sc un tk xt tp sp nu X0 a0 ha0 ((hX0).1)) mv_X7_reaches wd_28_7 ⟨Nat.le_of_ble_eq_true rfl, Nat.le_of_ble_eq_true rfl⟩ ⟨Nat.le_of_ble_eq_true rfl, Nat.le_of_ble_eq_true rfl⟩ hH hS (tRecv hK hH (tyb ha0 (all1 rfl)) clX7) rfl hl.1 (Nat.le_of_ble_eq_true rfl) dX7_letter_27 (fun z_9 H locs hq hS => ?_)
    obtain ⟨f_10, f_11, hH⟩ := hq
    have hH : TH E (tbM (mD (.inl tp) (.inl sp) (.inl nu) (.inl un) (.inl tk) (.inl xt)) (xD 660 X0) ws kp as rd sc) H := hH
    refine b_ge (tgt := 44) F dX7_letter_30 (by decide) (fun c_12 => ?_) (fun c_12 => ?_)
    · skip
      refine lv_iconst (v := 0) F.1 F.2.1 dX7_letter_44 (by decide) ?_
      refine topK (a := 0) (by decide) (fun k_15 hk_15 => ?_)
      refine lv_istore_n (lv' := [(2, .int k_15), (0, .ref a0), (1, .int a1)]) F.1 F.2.1 dX7_letter_45 rfl hl (by decide) rfl (fun ls hl => ?_)
      refine wloop (σ := Int32) (fun n9 x9 H locs ls => (14 - x9.toInt + 1).toNat < n9 ∧ (0 ≤ x9.toInt ∧ x9.toInt ≤ 14) ∧ TH E (tbM (mD (.inl tp) (.inl sp) (.inl nu) (.inl un) (.inl tk) (.inl xt)) (xD 660 X0) ws kp as rd sc) H ∧ va_S (eA E s.heap.size) s.heap H locs ∧ lv_has ls 3 [(0, .ref a0), (1, .int a1), (2, .int x9)]) ?_ (fun x9 H locs ls h => absurd h.1 (Nat.not_lt_zero _)) _ (k_15) ⟨Nat.lt_succ_self _, (wkb (eqb hk_15) rfl rfl), hH, hS, lv_sub hl [1, 2, 0] rfl⟩
      intro n_46 ih_46 u_16 H locs ls ⟨hm_46, hu_16, hH, hS, hl⟩
      have hm_46 : (14 - u_16.toInt + 1).toNat < n_46 + 1 := hm_46
      have hu_16 : (0 ≤ u_16.toInt ∧ u_16.toInt ≤ 14) := hu_16
      have hH : TH E (tbM (mD (.inl tp) (.inl sp) (.inl nu) (.inl un) (.inl tk) (.inl xt)) (xD 660 X0) ws kp as rd sc) H := hH
      have hl : lv_has ls 3 [(0, .ref a0), (1, .int a1), (2, .int u_16)] := hl
      refine lv_iload_n F.1 F.2.1 dX7_letter_46 rfl (lv_at hl 2 rfl) ?_
      refine lv_aload_n F.1 F.2.1 dX7_letter_47 rfl (lv_at hl 0 rfl) ?_
      refine tVi (b := a0) (As := []) (rest := [.int u_16]) F hK hN hO (c_X7_rights E ws kp as rd sc un tk xt tp sp nu X0 a0 ha0 ((hX0).1)) mv_X7_rights wd_19_4 ⟨Nat.le_of_ble_eq_true rfl, Nat.le_of_ble_eq_true rfl⟩ ⟨Nat.le_of_ble_eq_true rfl, Nat.le_of_ble_eq_true rfl⟩ hH hS (tRecv hK hH (tyb ha0 (all1 rfl)) clX7) rfl hl.1 (Nat.le_of_ble_eq_true rfl) dX7_letter_48 (fun z_17 H locs hq hS => ?_)
      obtain ⟨f_18, f_19, hH⟩ := hq
      have hH : TH E (tbM (mD (.inl tp) (.inl sp) (.inl nu) (.inl un) (.inl tk) (.inl xt)) (xD 660 X0) ws kp as rd sc) H := hH
      refine b_ge (tgt := 65) F dX7_letter_51 (by decide) (fun c_20 => ?_) (fun c_20 => ?_)
      · skip
        refine lv_iconst (v := 0) F.1 F.2.1 dX7_letter_65 (by decide) ?_
        refine topK (a := 0) (by decide) (fun k_23 hk_23 => ?_)
        refine lv_istore_n (lv' := [(2, .int k_23), (0, .ref a0), (1, .int a1)]) F.1 F.2.1 dX7_letter_66 rfl hl (by decide) rfl (fun ls hl => ?_)
        refine wloop (σ := Int32) (fun n9 x9 H locs ls => (4 - x9.toInt + 1).toNat < n9 ∧ (0 ≤ x9.toInt ∧ x9.toInt ≤ 4) ∧ TH E (tbM (mD (.inl tp) (.inl sp) (.inl nu) (.inl un) (.inl tk) (.inl xt)) (xD 660 X0) ws kp as rd sc) H ∧ va_S (eA E s.heap.size) s.heap H locs ∧ lv_has ls 3 [(0, .ref a0), (1, .int a1), (2, .int x9)]) ?_ (fun x9 H locs ls h => absurd h.1 (Nat.not_lt_zero _)) _ (k_23) ⟨Nat.lt_succ_self _, (wkb (eqb hk_23) rfl rfl), hH, hS, lv_sub hl [1, 2, 0] rfl⟩
        intro n_67 ih_67 u_24 H locs ls ⟨hm_67, hu_24, hH, hS, hl⟩
        have hm_67 : (4 - u_24.toInt + 1).toNat < n_67 + 1 := hm_67
        have hu_24 : (0 ≤ u_24.toInt ∧ u_24.toInt ≤ 4) := hu_24
        have hH : TH E (tbM (mD (.inl tp) (.inl sp) (.inl nu) (.inl un) (.inl tk) (.inl xt)) (xD 660 X0) ws kp as rd sc) H := hH
        have hl : lv_has ls 3 [(0, .ref a0), (1, .int a1), (2, .int u_24)] := hl
        refine lv_iload_n F.1 F.2.1 dX7_letter_67 rfl (lv_at hl 2 rfl) ?_
        refine lv_aload_n F.1 F.2.1 dX7_letter_68 rfl (lv_at hl 0 rfl) ?_
        refine tVi (b := a0) (As := []) (rest := [.int u_24]) F hK hN hO (c_X7_stores E ws kp as rd sc un tk xt tp sp nu X0 a0 ha0 ((hX0).1)) mv_X7_stores wd_26_12 ⟨Nat.le_of_ble_eq_true rfl, Nat.le_of_ble_eq_true rfl⟩ ⟨Nat.le_of_ble_eq_true rfl, Nat.le_of_ble_eq_true rfl⟩ hH hS (tRecv hK hH (tyb ha0 (all1 rfl)) clX7) rfl hl.1 (Nat.le_of_ble_eq_true rfl) dX7_letter_69 (fun z_25 H locs hq hS => ?_)
        obtain ⟨f_26, f_27, hH⟩ := hq
        have hH : TH E (tbM (mD (.inl tp) (.inl sp) (.inl nu) (.inl un) (.inl tk) (.inl xt)) (xD 660 X0) ws kp as rd sc) H := hH
        refine b_ge (tgt := 86) F dX7_letter_72 (by decide) (fun c_28 => ?_) (fun c_28 => ?_)
        · skip
          refine lv_aload_n F.1 F.2.1 dX7_letter_86 rfl (lv_at hl 0 rfl) ?_
          refine tGetR (j := 0) F hK hH (tyb ha0 (all1 rfl)) rfl (all1 rfl) clX7 (by decide) wd_6_5 dX7_letter_87 (fun q_31 hq_31 _ => ?_)
          refine lv_iconst (v := 4) F.1 F.2.1 dX7_letter_90 (by decide) ?_
          refine topK (a := 4) (by decide) (fun k_32 hk_32 => ?_)
          refine tIaldX F hK hH (tyb hq_31 (all1 rfl)) (ixb (n := 660) (eqb hk_32) rfl rfl) dX7_letter_91 (fun z_33 ez_33 => ?_)
          refine lv_bipush (v := 100) F.1 F.2.1 dX7_letter_92 (by decide) ?_
          refine topK (a := 100) (by decide) (fun k_34 hk_34 => ?_)
          refine wjoin (σ := Unit) (pcj := 114) (stj := fun x9 => []) (fun x9 H locs ls => TH E (tbM (mD (.inl tp) (.inl sp) (.inl nu) (.inl un) (.inl tk) (.inl xt)) (xD 660 X0) ws kp as rd sc) H ∧ va_S (eA E s.heap.size) s.heap H locs ∧ lv_has ls 3 [(0, .ref a0), (1, .int a1)]) (fun x9 H locs ls h_ => ?_) (fun J_114 => ?_)
          · skip
            obtain ⟨hH, hS, hl⟩ := h_
            have hH : TH E (tbM (mD (.inl tp) (.inl sp) (.inl nu) (.inl un) (.inl tk) (.inl xt)) (xD 660 X0) ws kp as rd sc) H := hH
            have hl : lv_has ls 3 [(0, .ref a0), (1, .int a1)] := hl
            show W _ _ _ _ _ _ _ _ _ _ _ _ _ _ _ (F0 _ _ _ [])
            refine lv_iload_n F.1 F.2.1 dX7_letter_114 rfl (lv_at hl 1 rfl) ?_
            refine lv_iconst (v := (-1)) F.1 F.2.1 dX7_letter_115 (by decide) ?_
            refine topK (a := (-1)) (by decide) (fun k_35 hk_35 => ?_)
            refine b_ne (tgt := 126) F dX7_letter_116 (by decide) (fun c_36 => ?_) (fun c_36 => ?_)
            · skip
              have r_37 : 0 ≤ a1.toInt ∧ a1.toInt ≤ 2147483647 := by have h9_ := r_3; omega
              refine lv_aload_n F.1 F.2.1 dX7_letter_126 rfl (lv_at hl 0 rfl) ?_
              refine tGetI (j := 39) F hK hH (tyb ha0 (all1 rfl)) rfl clX7 (by decide) wd_55_14 dX7_letter_127 (fun z_39 hz_39 => ?_)
              exact txI F hS dX7_letter_130 rfl (⟨hz_39, hH⟩)
            · skip
              have r_38 : (-1) ≤ a1.toInt ∧ a1.toInt ≤ (-1) := by have h9_ := r_3; omega
              refine lv_aload_n F.1 F.2.1 dX7_letter_119 rfl (lv_at hl 0 rfl) ?_
              refine tGetI (j := 37) F hK hH (tyb ha0 (all1 rfl)) rfl clX7 (by decide) wd_55_12 dX7_letter_120 (fun z_40 hz_40 => ?_)
              refine lv_goto (tgt := 130) F.1 F.2.1 dX7_letter_123 (by decide) ?_
              exact txI F hS dX7_letter_130 rfl (⟨hz_40, hH⟩)
          refine b_eq (tgt := 114) F dX7_letter_94 (by decide) (fun c_41 => ?_) (fun c_41 => ?_)
          · skip
            have r_42 : 100 ≤ z_33.toInt ∧ z_33.toInt ≤ 100 := by have h9_ := (i32b z_33); omega
            exact J_114 () _ _ _ ⟨hH, hS, lv_sub hl [0, 1] rfl⟩
          · skip
            refine lv_aload_n F.1 F.2.1 dX7_letter_97 rfl (lv_at hl 0 rfl) ?_
            refine ldcwS F.1 F.2.1 F.2.2.2.2.1 (hO.1 26 _ rfl).1 dX7_letter_98 ?_
            refine tVv (b := a0) (As := [.ref (eX E 26)]) (rest := []) F hK hN hO (c_X7_spellPart E ws kp as rd sc un tk xt tp sp nu X0 a0 26 3 ha0 (strAt 26 rfl) hX0) mv_X7_spellPart wd_55_19 ⟨Nat.le_of_ble_eq_true rfl, Nat.le_of_ble_eq_true rfl⟩ ⟨Nat.le_of_ble_eq_true rfl, Nat.le_of_ble_eq_true rfl⟩ hH hS (tRecv hK hH (tyb ha0 (all1 rfl)) clX7) rfl hl.1 (Nat.le_of_ble_eq_true rfl) dX7_letter_101 (fun H locs hq hS => ?_)
            have hH := hq
            have hH : TH E (tbM (mD (.inl tp) (.inl sp) (.inl nu) (.inl un) (.inl tk) (.inl xt)) (xD 660 X0) ws kp as rd sc) H := hH
            refine lv_aload_n F.1 F.2.1 dX7_letter_104 rfl (lv_at hl 0 rfl) ?_
            refine lv_aload_n F.1 F.2.1 dX7_letter_105 rfl (lv_at hl 0 rfl) ?_
            refine tGetR (j := 0) F hK hH (tyb ha0 (all1 rfl)) rfl (all1 rfl) clX7 (by decide) wd_6_5 dX7_letter_106 (fun q_44 hq_44 _ => ?_)
            refine lv_iconst (v := 4) F.1 F.2.1 dX7_letter_109 (by decide) ?_
            refine topK (a := 4) (by decide) (fun k_45 hk_45 => ?_)
            refine tIaldX F hK hH (tyb hq_44 (all1 rfl)) (ixb (n := 660) (eqb hk_45) rfl rfl) dX7_letter_110 (fun z_46 ez_46 => ?_)
            refine tVv (b := a0) (As := [.int z_46]) (rest := []) F hK hN hO (c_X7_spellNumber E ws kp as rd sc un tk xt tp sp nu X0 a0 z_46 ha0 hX0) mv_X7_spellNumber wd_56_7 ⟨Nat.le_of_ble_eq_true rfl, Nat.le_of_ble_eq_true rfl⟩ ⟨Nat.le_of_ble_eq_true rfl, Nat.le_of_ble_eq_true rfl⟩ hH hS (tRecv hK hH (tyb ha0 (all1 rfl)) clX7) rfl hl.1 (Nat.le_of_ble_eq_true rfl) dX7_letter_111 (fun H locs hq hS => ?_)
            have hH := hq
            have hH : TH E (tbM (mD (.inl tp) (.inl sp) (.inl nu) (.inl un) (.inl tk) (.inl xt)) (xD 660 X0) ws kp as rd sc) H := hH
            exact J_114 () _ _ _ ⟨hH, hS, lv_sub hl [0, 1] rfl⟩
        · skip
          have r_29 : 0 ≤ u_24.toInt ∧ u_24.toInt ≤ 3 := by have h9_ := hu_24; omega
          have r_30 : 1 ≤ z_25.toInt ∧ z_25.toInt ≤ 4 := by have h9_ := f_26; omega
          refine lv_aload_n F.1 F.2.1 dX7_letter_75 rfl (lv_at hl 0 rfl) ?_
          refine lv_iload_n F.1 F.2.1 dX7_letter_76 rfl (lv_at hl 2 rfl) ?_
          refine tVv (b := a0) (As := [.int u_24]) (rest := []) F hK hN hO (c_X7_spellStore E ws kp as rd sc un tk xt tp sp nu X0 a0 u_24 ha0 r_29 hX0) mv_X7_spellStore wd_56_15 ⟨Nat.le_of_ble_eq_true rfl, Nat.le_of_ble_eq_true rfl⟩ ⟨Nat.le_of_ble_eq_true rfl, Nat.le_of_ble_eq_true rfl⟩ hH hS (tRecv hK hH (tyb ha0 (all1 rfl)) clX7) rfl hl.1 (Nat.le_of_ble_eq_true rfl) dX7_letter_77 (fun H locs hq hS => ?_)
          have hH := hq
          have hH : TH E (tbM (mD (.inl tp) (.inl sp) (.inl nu) (.inl un) (.inl tk) (.inl xt)) (xD 660 X0) ws kp as rd sc) H := hH
          obtain ⟨x_49, ex_49, hx_49⟩ := iincB (c := 1) (lo := 1) (hi := 4) r_29 rfl
          refine lv_iinc (v := x_49) (lv' := [(2, .int x_49), (0, .ref a0), (1, .int a1)]) F.1 F.2.1 dX7_letter_80 hl (k := 2) rfl ex_49 (by decide) rfl (fun ls hl => ?_)
          refine lv_goto (tgt := 67) F.1 F.2.1 dX7_letter_83 (by decide) ?_
          exact ih_67 (x_49) _ _ _ ⟨(show (4 - x_49.toInt + 1).toNat < n_67 from by omega), (wkb hx_49.2 rfl rfl), hH, hS, lv_sub hl [1, 2, 0] rfl⟩
      · skip
        have r_21 : 0 ≤ u_16.toInt ∧ u_16.toInt ≤ 13 := by have h9_ := hu_16; omega
        have r_22 : 1 ≤ z_17.toInt ∧ z_17.toInt ≤ 14 := by have h9_ := f_18; omega
        refine lv_aload_n F.1 F.2.1 dX7_letter_54 rfl (lv_at hl 0 rfl) ?_
        refine lv_iload_n F.1 F.2.1 dX7_letter_55 rfl (lv_at hl 2 rfl) ?_
        refine tVv (b := a0) (As := [.int u_16]) (rest := []) F hK hN hO (c_X7_spellRight E ws kp as rd sc un tk xt tp sp nu X0 a0 u_16 ha0 r_21 hX0) mv_X7_spellRight wd_56_11 ⟨Nat.le_of_ble_eq_true rfl, Nat.le_of_ble_eq_true rfl⟩ ⟨Nat.le_of_ble_eq_true rfl, Nat.le_of_ble_eq_true rfl⟩ hH hS (tRecv hK hH (tyb ha0 (all1 rfl)) clX7) rfl hl.1 (Nat.le_of_ble_eq_true rfl) dX7_letter_56 (fun H locs hq hS => ?_)
        have hH := hq
        have hH : TH E (tbM (mD (.inl tp) (.inl sp) (.inl nu) (.inl un) (.inl tk) (.inl xt)) (xD 660 X0) ws kp as rd sc) H := hH
        obtain ⟨x_51, ex_51, hx_51⟩ := iincB (c := 1) (lo := 1) (hi := 14) r_21 rfl
        refine lv_iinc (v := x_51) (lv' := [(2, .int x_51), (0, .ref a0), (1, .int a1)]) F.1 F.2.1 dX7_letter_59 hl (k := 2) rfl ex_51 (by decide) rfl (fun ls hl => ?_)
        refine lv_goto (tgt := 46) F.1 F.2.1 dX7_letter_62 (by decide) ?_
        exact ih_46 (x_51) _ _ _ ⟨(show (14 - x_51.toInt + 1).toNat < n_46 from by omega), (wkb hx_51.2 rfl rfl), hH, hS, lv_sub hl [1, 2, 0] rfl⟩
    · skip
      have r_13 : 0 ≤ u_8.toInt ∧ u_8.toInt ≤ 11 := by have h9_ := hu_8; omega
      have r_14 : 1 ≤ z_9.toInt ∧ z_9.toInt ≤ 12 := by have h9_ := f_10; omega
      refine lv_aload_n F.1 F.2.1 dX7_letter_33 rfl (lv_at hl 0 rfl) ?_
      refine lv_iload_n F.1 F.2.1 dX7_letter_34 rfl (lv_at hl 2 rfl) ?_
      refine tVv (b := a0) (As := [.int u_8]) (rest := []) F hK hN hO (c_X7_spellReach E ws kp as rd sc un tk xt tp sp nu X0 a0 u_8 ha0 r_13 hX0) mv_X7_spellReach wd_55_15 ⟨Nat.le_of_ble_eq_true rfl, Nat.le_of_ble_eq_true rfl⟩ ⟨Nat.le_of_ble_eq_true rfl, Nat.le_of_ble_eq_true rfl⟩ hH hS (tRecv hK hH (tyb ha0 (all1 rfl)) clX7) rfl hl.1 (Nat.le_of_ble_eq_true rfl) dX7_letter_35 (fun H locs hq hS => ?_)
      have hH := hq
      have hH : TH E (tbM (mD (.inl tp) (.inl sp) (.inl nu) (.inl un) (.inl tk) (.inl xt)) (xD 660 X0) ws kp as rd sc) H := hH
      obtain ⟨x_53, ex_53, hx_53⟩ := iincB (c := 1) (lo := 1) (hi := 12) r_13 rfl
      refine lv_iinc (v := x_53) (lv' := [(2, .int x_53), (0, .ref a0), (1, .int a1)]) F.1 F.2.1 dX7_letter_38 hl (k := 2) rfl ex_53 (by decide) rfl (fun ls hl => ?_)
      refine lv_goto (tgt := 25) F.1 F.2.1 dX7_letter_41 (by decide) ?_
      exact ih_25 (x_53) _ _ _ ⟨(show (12 - x_53.toInt + 1).toNat < n_25 from by omega), (wkb hx_53.2 rfl rfl), hH, hS, lv_sub hl [1, 2, 0] rfl⟩
  · skip
    have r_4 : (-2147483648) ≤ a1.toInt ∧ a1.toInt ≤ (-2) := by have h9_ := (i32b a1); omega
    refine lv_iconst (v := (-1)) F.1 F.2.1 dX7_letter_5 (by decide) ?_
    refine topK (a := (-1)) (by decide) (fun k_54 hk_54 => ?_)
    exact txI F hS dX7_letter_6 rfl (⟨(wkb (eqb hk_54) rfl rfl), hH⟩)
