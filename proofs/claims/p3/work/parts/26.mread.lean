theorem dX7_fails_0 : decode cX7_fails 0 = .ok (.aload_n 0, 1) := by decide +kernel
theorem dX7_fails_1 : decode cX7_fails 1 = .ok (.bipush 8, 2) := by decide +kernel
theorem dX7_fails_3 : decode cX7_fails 3 = .ok (.iload_n 2, 1) := by decide +kernel
theorem dX7_fails_4 : decode cX7_fails 4 = .ok (.imul, 1) := by decide +kernel
theorem dX7_fails_5 : decode cX7_fails 5 = .ok (.iload_n 1, 1) := by decide +kernel
theorem dX7_fails_6 : decode cX7_fails 6 = .ok (.iadd, 1) := by decide +kernel
theorem dX7_fails_7 : decode cX7_fails 7 = .ok (.putfield 324, 3) := by decide +kernel
theorem dX7_fails_10 : decode cX7_fails 10 = .ok (.iconst 0, 1) := by decide +kernel
theorem dX7_fails_11 : decode cX7_fails 11 = .ok (.ireturn, 1) := by decide +kernel
theorem dX7_byteAt_0 : decode cX7_byteAt 0 = .ok (.iload_n 1, 1) := by decide +kernel
theorem dX7_byteAt_1 : decode cX7_byteAt 1 = .ok (.aload_n 0, 1) := by decide +kernel
theorem dX7_byteAt_2 : decode cX7_byteAt 2 = .ok (.getfield 292, 3) := by decide +kernel
theorem dX7_byteAt_5 : decode cX7_byteAt 5 = .ok (.if_icmp .ge 16, 3) := by decide +kernel
theorem dX7_byteAt_8 : decode cX7_byteAt 8 = .ok (.aload_n 0, 1) := by decide +kernel
theorem dX7_byteAt_9 : decode cX7_byteAt 9 = .ok (.getfield 79, 3) := by decide +kernel
theorem dX7_byteAt_12 : decode cX7_byteAt 12 = .ok (.iload_n 1, 1) := by decide +kernel
theorem dX7_byteAt_13 : decode cX7_byteAt 13 = .ok (.baload, 1) := by decide +kernel
theorem dX7_byteAt_14 : decode cX7_byteAt 14 = .ok (.sipush 255, 3) := by decide +kernel
theorem dX7_byteAt_17 : decode cX7_byteAt 17 = .ok (.iand, 1) := by decide +kernel
theorem dX7_byteAt_18 : decode cX7_byteAt 18 = .ok (.goto 4, 3) := by decide +kernel
theorem dX7_byteAt_21 : decode cX7_byteAt 21 = .ok (.iconst (-1), 1) := by decide +kernel
theorem dX7_byteAt_22 : decode cX7_byteAt 22 = .ok (.ireturn, 1) := by decide +kernel
theorem dX7_nextByte_0 : decode cX7_nextByte 0 = .ok (.aload_n 0, 1) := by decide +kernel
theorem dX7_nextByte_1 : decode cX7_nextByte 1 = .ok (.aload_n 0, 1) := by decide +kernel
theorem dX7_nextByte_2 : decode cX7_nextByte 2 = .ok (.getfield 318, 3) := by decide +kernel
theorem dX7_nextByte_5 : decode cX7_nextByte 5 = .ok (.invokevirtual 321, 3) := by decide +kernel
theorem dX7_nextByte_8 : decode cX7_nextByte 8 = .ok (.bipush 32, 2) := by decide +kernel
theorem dX7_nextByte_10 : decode cX7_nextByte 10 = .ok (.if_icmp .ne 16, 3) := by decide +kernel
theorem dX7_nextByte_13 : decode cX7_nextByte 13 = .ok (.aload_n 0, 1) := by decide +kernel
theorem dX7_nextByte_14 : decode cX7_nextByte 14 = .ok (.dup, 1) := by decide +kernel
theorem dX7_nextByte_15 : decode cX7_nextByte 15 = .ok (.getfield 318, 3) := by decide +kernel
theorem dX7_nextByte_18 : decode cX7_nextByte 18 = .ok (.iconst 1, 1) := by decide +kernel
theorem dX7_nextByte_19 : decode cX7_nextByte 19 = .ok (.iadd, 1) := by decide +kernel
theorem dX7_nextByte_20 : decode cX7_nextByte 20 = .ok (.putfield 318, 3) := by decide +kernel
theorem dX7_nextByte_23 : decode cX7_nextByte 23 = .ok (.goto (-23), 3) := by decide +kernel
theorem dX7_nextByte_26 : decode cX7_nextByte 26 = .ok (.aload_n 0, 1) := by decide +kernel
theorem dX7_nextByte_27 : decode cX7_nextByte 27 = .ok (.aload_n 0, 1) := by decide +kernel
theorem dX7_nextByte_28 : decode cX7_nextByte 28 = .ok (.getfield 318, 3) := by decide +kernel
theorem dX7_nextByte_31 : decode cX7_nextByte 31 = .ok (.invokevirtual 321, 3) := by decide +kernel
theorem dX7_nextByte_34 : decode cX7_nextByte 34 = .ok (.ireturn, 1) := by decide +kernel
theorem dX7_isWord_0 : decode cX7_isWord 0 = .ok (.aload_n 0, 1) := by decide +kernel
theorem dX7_isWord_1 : decode cX7_isWord 1 = .ok (.invokevirtual 327, 3) := by decide +kernel
theorem dX7_isWord_4 : decode cX7_isWord 4 = .ok (.iconst (-1), 1) := by decide +kernel
theorem dX7_isWord_5 : decode cX7_isWord 5 = .ok (.if_icmp .ne 10, 3) := by decide +kernel
theorem dX7_isWord_8 : decode cX7_isWord 8 = .ok (.aload_n 0, 1) := by decide +kernel
theorem dX7_isWord_9 : decode cX7_isWord 9 = .ok (.getfield 292, 3) := by decide +kernel
theorem dX7_isWord_12 : decode cX7_isWord 12 = .ok (.goto 7, 3) := by decide +kernel
theorem dX7_isWord_15 : decode cX7_isWord 15 = .ok (.aload_n 0, 1) := by decide +kernel
theorem dX7_isWord_16 : decode cX7_isWord 16 = .ok (.getfield 318, 3) := by decide +kernel
theorem dX7_isWord_19 : decode cX7_isWord 19 = .ok (.istore_n 2, 1) := by decide +kernel
theorem dX7_isWord_20 : decode cX7_isWord 20 = .ok (.iconst 0, 1) := by decide +kernel
theorem dX7_isWord_21 : decode cX7_isWord 21 = .ok (.istore_n 3, 1) := by decide +kernel
theorem dX7_isWord_22 : decode cX7_isWord 22 = .ok (.iload_n 3, 1) := by decide +kernel
theorem dX7_isWord_23 : decode cX7_isWord 23 = .ok (.aload_n 1, 1) := by decide +kernel
theorem dX7_isWord_24 : decode cX7_isWord 24 = .ok (.invokevirtual 330, 3) := by decide +kernel
theorem dX7_isWord_27 : decode cX7_isWord 27 = .ok (.if_icmp .ge 24, 3) := by decide +kernel
theorem dX7_isWord_30 : decode cX7_isWord 30 = .ok (.aload_n 0, 1) := by decide +kernel
theorem dX7_isWord_31 : decode cX7_isWord 31 = .ok (.iload_n 2, 1) := by decide +kernel
theorem dX7_isWord_32 : decode cX7_isWord 32 = .ok (.iload_n 3, 1) := by decide +kernel
theorem dX7_isWord_33 : decode cX7_isWord 33 = .ok (.iadd, 1) := by decide +kernel
theorem dX7_isWord_34 : decode cX7_isWord 34 = .ok (.invokevirtual 321, 3) := by decide +kernel
theorem dX7_isWord_37 : decode cX7_isWord 37 = .ok (.aload_n 1, 1) := by decide +kernel
theorem dX7_isWord_38 : decode cX7_isWord 38 = .ok (.iload_n 3, 1) := by decide +kernel
theorem dX7_isWord_39 : decode cX7_isWord 39 = .ok (.invokevirtual 335, 3) := by decide +kernel
theorem dX7_isWord_42 : decode cX7_isWord 42 = .ok (.if_icmp .ne 9, 3) := by decide +kernel
theorem dX7_isWord_45 : decode cX7_isWord 45 = .ok (.iinc 3 1, 3) := by decide +kernel
theorem dX7_isWord_48 : decode cX7_isWord 48 = .ok (.goto (-26), 3) := by decide +kernel
theorem dX7_isWord_51 : decode cX7_isWord 51 = .ok (.iload_n 3, 1) := by decide +kernel
theorem dX7_isWord_52 : decode cX7_isWord 52 = .ok (.aload_n 1, 1) := by decide +kernel
theorem dX7_isWord_53 : decode cX7_isWord 53 = .ok (.invokevirtual 330, 3) := by decide +kernel
theorem dX7_isWord_56 : decode cX7_isWord 56 = .ok (.if_icmp .ne 27, 3) := by decide +kernel
theorem dX7_isWord_59 : decode cX7_isWord 59 = .ok (.aload_n 0, 1) := by decide +kernel
theorem dX7_isWord_60 : decode cX7_isWord 60 = .ok (.iload_n 2, 1) := by decide +kernel
theorem dX7_isWord_61 : decode cX7_isWord 61 = .ok (.iload_n 3, 1) := by decide +kernel
theorem dX7_isWord_62 : decode cX7_isWord 62 = .ok (.iadd, 1) := by decide +kernel
theorem dX7_isWord_63 : decode cX7_isWord 63 = .ok (.invokevirtual 321, 3) := by decide +kernel
theorem dX7_isWord_66 : decode cX7_isWord 66 = .ok (.i2l, 1) := by decide +kernel
theorem dX7_isWord_67 : decode cX7_isWord 67 = .ok (.ldc2_w 339, 3) := by decide +kernel
theorem dX7_isWord_70 : decode cX7_isWord 70 = .ok (.ldc2_w 341, 3) := by decide +kernel
theorem dX7_isWord_73 : decode cX7_isWord 73 = .ok (.invokestatic 96, 3) := by decide +kernel
theorem dX7_isWord_76 : decode cX7_isWord 76 = .ok (.ifCond .ne 7, 3) := by decide +kernel
theorem dX7_isWord_79 : decode cX7_isWord 79 = .ok (.iconst 1, 1) := by decide +kernel
theorem dX7_isWord_80 : decode cX7_isWord 80 = .ok (.goto 4, 3) := by decide +kernel
theorem dX7_isWord_83 : decode cX7_isWord 83 = .ok (.iconst 0, 1) := by decide +kernel
theorem dX7_isWord_84 : decode cX7_isWord 84 = .ok (.ireturn, 1) := by decide +kernel
theorem dX7_takesWord_0 : decode cX7_takesWord 0 = .ok (.aload_n 0, 1) := by decide +kernel
theorem dX7_takesWord_1 : decode cX7_takesWord 1 = .ok (.aload_n 1, 1) := by decide +kernel
theorem dX7_takesWord_2 : decode cX7_takesWord 2 = .ok (.invokevirtual 343, 3) := by decide +kernel
theorem dX7_takesWord_5 : decode cX7_takesWord 5 = .ok (.istore_n 2, 1) := by decide +kernel
theorem dX7_takesWord_6 : decode cX7_takesWord 6 = .ok (.iload_n 2, 1) := by decide +kernel
theorem dX7_takesWord_7 : decode cX7_takesWord 7 = .ok (.ifCond .eq 16, 3) := by decide +kernel
theorem dX7_takesWord_10 : decode cX7_takesWord 10 = .ok (.aload_n 0, 1) := by decide +kernel
theorem dX7_takesWord_11 : decode cX7_takesWord 11 = .ok (.dup, 1) := by decide +kernel
theorem dX7_takesWord_12 : decode cX7_takesWord 12 = .ok (.getfield 318, 3) := by decide +kernel
theorem dX7_takesWord_15 : decode cX7_takesWord 15 = .ok (.aload_n 1, 1) := by decide +kernel
theorem dX7_takesWord_16 : decode cX7_takesWord 16 = .ok (.invokevirtual 330, 3) := by decide +kernel
theorem dX7_takesWord_19 : decode cX7_takesWord 19 = .ok (.iadd, 1) := by decide +kernel
theorem dX7_takesWord_20 : decode cX7_takesWord 20 = .ok (.putfield 318, 3) := by decide +kernel
theorem dX7_takesWord_23 : decode cX7_takesWord 23 = .ok (.iload_n 2, 1) := by decide +kernel
theorem dX7_takesWord_24 : decode cX7_takesWord 24 = .ok (.ireturn, 1) := by decide +kernel
theorem dX7_mustWord_0 : decode cX7_mustWord 0 = .ok (.aload_n 0, 1) := by decide +kernel
theorem dX7_mustWord_1 : decode cX7_mustWord 1 = .ok (.aload_n 1, 1) := by decide +kernel
theorem dX7_mustWord_2 : decode cX7_mustWord 2 = .ok (.invokevirtual 347, 3) := by decide +kernel
theorem dX7_mustWord_5 : decode cX7_mustWord 5 = .ok (.ifCond .ne 15, 3) := by decide +kernel
theorem dX7_mustWord_8 : decode cX7_mustWord 8 = .ok (.aload_n 0, 1) := by decide +kernel
theorem dX7_mustWord_9 : decode cX7_mustWord 9 = .ok (.iconst 1, 1) := by decide +kernel
theorem dX7_mustWord_10 : decode cX7_mustWord 10 = .ok (.aload_n 0, 1) := by decide +kernel
theorem dX7_mustWord_11 : decode cX7_mustWord 11 = .ok (.getfield 318, 3) := by decide +kernel
theorem dX7_mustWord_14 : decode cX7_mustWord 14 = .ok (.invokevirtual 350, 3) := by decide +kernel
theorem dX7_mustWord_17 : decode cX7_mustWord 17 = .ok (.ifCond .eq 7, 3) := by decide +kernel
theorem dX7_mustWord_20 : decode cX7_mustWord 20 = .ok (.iconst 1, 1) := by decide +kernel
theorem dX7_mustWord_21 : decode cX7_mustWord 21 = .ok (.goto 4, 3) := by decide +kernel
theorem dX7_mustWord_24 : decode cX7_mustWord 24 = .ok (.iconst 0, 1) := by decide +kernel
theorem dX7_mustWord_25 : decode cX7_mustWord 25 = .ok (.ireturn, 1) := by decide +kernel
theorem dX7_readsNumber_0 : decode cX7_readsNumber 0 = .ok (.aload_n 0, 1) := by decide +kernel
theorem dX7_readsNumber_1 : decode cX7_readsNumber 1 = .ok (.invokevirtual 327, 3) := by decide +kernel
theorem dX7_readsNumber_4 : decode cX7_readsNumber 4 = .ok (.i2l, 1) := by decide +kernel
theorem dX7_readsNumber_5 : decode cX7_readsNumber 5 = .ok (.ldc2_w 353, 3) := by decide +kernel
theorem dX7_readsNumber_8 : decode cX7_readsNumber 8 = .ok (.ldc2_w 355, 3) := by decide +kernel
theorem dX7_readsNumber_11 : decode cX7_readsNumber 11 = .ok (.invokestatic 96, 3) := by decide +kernel
theorem dX7_readsNumber_14 : decode cX7_readsNumber 14 = .ok (.ifCond .ne 13, 3) := by decide +kernel
theorem dX7_readsNumber_17 : decode cX7_readsNumber 17 = .ok (.aload_n 0, 1) := by decide +kernel
theorem dX7_readsNumber_18 : decode cX7_readsNumber 18 = .ok (.iconst 1, 1) := by decide +kernel
theorem dX7_readsNumber_19 : decode cX7_readsNumber 19 = .ok (.aload_n 0, 1) := by decide +kernel
theorem dX7_readsNumber_20 : decode cX7_readsNumber 20 = .ok (.getfield 318, 3) := by decide +kernel
theorem dX7_readsNumber_23 : decode cX7_readsNumber 23 = .ok (.invokevirtual 350, 3) := by decide +kernel
theorem dX7_readsNumber_26 : decode cX7_readsNumber 26 = .ok (.ireturn, 1) := by decide +kernel
theorem dX7_readsNumber_27 : decode cX7_readsNumber 27 = .ok (.aload_n 0, 1) := by decide +kernel
theorem dX7_readsNumber_28 : decode cX7_readsNumber 28 = .ok (.aload_n 0, 1) := by decide +kernel
theorem dX7_readsNumber_29 : decode cX7_readsNumber 29 = .ok (.getfield 318, 3) := by decide +kernel
theorem dX7_readsNumber_32 : decode cX7_readsNumber 32 = .ok (.putfield 357, 3) := by decide +kernel
theorem dX7_readsNumber_35 : decode cX7_readsNumber 35 = .ok (.aload_n 0, 1) := by decide +kernel
theorem dX7_readsNumber_36 : decode cX7_readsNumber 36 = .ok (.iconst 0, 1) := by decide +kernel
theorem dX7_readsNumber_37 : decode cX7_readsNumber 37 = .ok (.putfield 360, 3) := by decide +kernel
theorem dX7_readsNumber_40 : decode cX7_readsNumber 40 = .ok (.aload_n 0, 1) := by decide +kernel
theorem dX7_readsNumber_41 : decode cX7_readsNumber 41 = .ok (.aload_n 0, 1) := by decide +kernel
theorem dX7_readsNumber_42 : decode cX7_readsNumber 42 = .ok (.getfield 318, 3) := by decide +kernel
theorem dX7_readsNumber_45 : decode cX7_readsNumber 45 = .ok (.invokevirtual 321, 3) := by decide +kernel
theorem dX7_readsNumber_48 : decode cX7_readsNumber 48 = .ok (.i2l, 1) := by decide +kernel
theorem dX7_readsNumber_49 : decode cX7_readsNumber 49 = .ok (.ldc2_w 353, 3) := by decide +kernel
theorem dX7_readsNumber_52 : decode cX7_readsNumber 52 = .ok (.ldc2_w 355, 3) := by decide +kernel
theorem dX7_readsNumber_55 : decode cX7_readsNumber 55 = .ok (.invokestatic 96, 3) := by decide +kernel
theorem dX7_readsNumber_58 : decode cX7_readsNumber 58 = .ok (.ifCond .eq 49, 3) := by decide +kernel
theorem dX7_readsNumber_61 : decode cX7_readsNumber 61 = .ok (.aload_n 0, 1) := by decide +kernel
theorem dX7_readsNumber_62 : decode cX7_readsNumber 62 = .ok (.getfield 360, 3) := by decide +kernel
theorem dX7_readsNumber_65 : decode cX7_readsNumber 65 = .ok (.ldc_w 363, 3) := by decide +kernel
theorem dX7_readsNumber_68 : decode cX7_readsNumber 68 = .ok (.if_icmp .ge 26, 3) := by decide +kernel
theorem dX7_readsNumber_71 : decode cX7_readsNumber 71 = .ok (.aload_n 0, 1) := by decide +kernel
theorem dX7_readsNumber_72 : decode cX7_readsNumber 72 = .ok (.bipush 10, 2) := by decide +kernel
theorem dX7_readsNumber_74 : decode cX7_readsNumber 74 = .ok (.aload_n 0, 1) := by decide +kernel
theorem dX7_readsNumber_75 : decode cX7_readsNumber 75 = .ok (.getfield 360, 3) := by decide +kernel
theorem dX7_readsNumber_78 : decode cX7_readsNumber 78 = .ok (.imul, 1) := by decide +kernel
theorem dX7_readsNumber_79 : decode cX7_readsNumber 79 = .ok (.aload_n 0, 1) := by decide +kernel
theorem dX7_readsNumber_80 : decode cX7_readsNumber 80 = .ok (.aload_n 0, 1) := by decide +kernel
theorem dX7_readsNumber_81 : decode cX7_readsNumber 81 = .ok (.getfield 318, 3) := by decide +kernel
theorem dX7_readsNumber_84 : decode cX7_readsNumber 84 = .ok (.invokevirtual 321, 3) := by decide +kernel
theorem dX7_readsNumber_87 : decode cX7_readsNumber 87 = .ok (.iadd, 1) := by decide +kernel
theorem dX7_readsNumber_88 : decode cX7_readsNumber 88 = .ok (.bipush 48, 2) := by decide +kernel
theorem dX7_readsNumber_90 : decode cX7_readsNumber 90 = .ok (.isub, 1) := by decide +kernel
theorem dX7_readsNumber_91 : decode cX7_readsNumber 91 = .ok (.putfield 360, 3) := by decide +kernel
theorem dX7_readsNumber_94 : decode cX7_readsNumber 94 = .ok (.aload_n 0, 1) := by decide +kernel
theorem dX7_readsNumber_95 : decode cX7_readsNumber 95 = .ok (.dup, 1) := by decide +kernel
theorem dX7_readsNumber_96 : decode cX7_readsNumber 96 = .ok (.getfield 318, 3) := by decide +kernel
theorem dX7_readsNumber_99 : decode cX7_readsNumber 99 = .ok (.iconst 1, 1) := by decide +kernel
theorem dX7_readsNumber_100 : decode cX7_readsNumber 100 = .ok (.iadd, 1) := by decide +kernel
theorem dX7_readsNumber_101 : decode cX7_readsNumber 101 = .ok (.putfield 318, 3) := by decide +kernel
theorem dX7_readsNumber_104 : decode cX7_readsNumber 104 = .ok (.goto (-64), 3) := by decide +kernel
theorem dX7_readsNumber_107 : decode cX7_readsNumber 107 = .ok (.aload_n 0, 1) := by decide +kernel
theorem dX7_readsNumber_108 : decode cX7_readsNumber 108 = .ok (.getfield 360, 3) := by decide +kernel
theorem dX7_readsNumber_111 : decode cX7_readsNumber 111 = .ok (.i2l, 1) := by decide +kernel
theorem dX7_readsNumber_112 : decode cX7_readsNumber 112 = .ok (.iload_n 1, 1) := by decide +kernel
theorem dX7_readsNumber_113 : decode cX7_readsNumber 113 = .ok (.i2l, 1) := by decide +kernel
theorem dX7_readsNumber_114 : decode cX7_readsNumber 114 = .ok (.iload_n 2, 1) := by decide +kernel
theorem dX7_readsNumber_115 : decode cX7_readsNumber 115 = .ok (.i2l, 1) := by decide +kernel
theorem dX7_readsNumber_116 : decode cX7_readsNumber 116 = .ok (.invokestatic 96, 3) := by decide +kernel
theorem dX7_readsNumber_119 : decode cX7_readsNumber 119 = .ok (.ifCond .ne 15, 3) := by decide +kernel
theorem dX7_readsNumber_122 : decode cX7_readsNumber 122 = .ok (.aload_n 0, 1) := by decide +kernel
theorem dX7_readsNumber_123 : decode cX7_readsNumber 123 = .ok (.iconst 2, 1) := by decide +kernel
theorem dX7_readsNumber_124 : decode cX7_readsNumber 124 = .ok (.aload_n 0, 1) := by decide +kernel
theorem dX7_readsNumber_125 : decode cX7_readsNumber 125 = .ok (.getfield 357, 3) := by decide +kernel
theorem dX7_readsNumber_128 : decode cX7_readsNumber 128 = .ok (.invokevirtual 350, 3) := by decide +kernel
theorem dX7_readsNumber_131 : decode cX7_readsNumber 131 = .ok (.ifCond .eq 7, 3) := by decide +kernel
theorem dX7_readsNumber_134 : decode cX7_readsNumber 134 = .ok (.iconst 1, 1) := by decide +kernel
theorem dX7_readsNumber_135 : decode cX7_readsNumber 135 = .ok (.goto 4, 3) := by decide +kernel
theorem dX7_readsNumber_138 : decode cX7_readsNumber 138 = .ok (.iconst 0, 1) := by decide +kernel
theorem dX7_readsNumber_139 : decode cX7_readsNumber 139 = .ok (.ireturn, 1) := by decide +kernel
theorem dX7_readsTo_0 : decode cX7_readsTo 0 = .ok (.aload_n 0, 1) := by decide +kernel
theorem dX7_readsTo_1 : decode cX7_readsTo 1 = .ok (.iload_n 2, 1) := by decide +kernel
theorem dX7_readsTo_2 : decode cX7_readsTo 2 = .ok (.iload_n 3, 1) := by decide +kernel
theorem dX7_readsTo_3 : decode cX7_readsTo 3 = .ok (.invokevirtual 364, 3) := by decide +kernel
theorem dX7_readsTo_6 : decode cX7_readsTo 6 = .ok (.ifCond .ne 5, 3) := by decide +kernel
theorem dX7_readsTo_9 : decode cX7_readsTo 9 = .ok (.iconst 0, 1) := by decide +kernel
theorem dX7_readsTo_10 : decode cX7_readsTo 10 = .ok (.ireturn, 1) := by decide +kernel
theorem dX7_readsTo_11 : decode cX7_readsTo 11 = .ok (.aload_n 0, 1) := by decide +kernel
theorem dX7_readsTo_12 : decode cX7_readsTo 12 = .ok (.getfield 83, 3) := by decide +kernel
theorem dX7_readsTo_15 : decode cX7_readsTo 15 = .ok (.iload_n 1, 1) := by decide +kernel
theorem dX7_readsTo_16 : decode cX7_readsTo 16 = .ok (.aload_n 0, 1) := by decide +kernel
theorem dX7_readsTo_17 : decode cX7_readsTo 17 = .ok (.getfield 360, 3) := by decide +kernel
theorem dX7_readsTo_20 : decode cX7_readsTo 20 = .ok (.iastore, 1) := by decide +kernel
theorem dX7_readsTo_21 : decode cX7_readsTo 21 = .ok (.iconst 1, 1) := by decide +kernel
theorem dX7_readsTo_22 : decode cX7_readsTo 22 = .ok (.ireturn, 1) := by decide +kernel
theorem dX7_begins_0 : decode cX7_begins 0 = .ok (.aload_n 0, 1) := by decide +kernel
theorem dX7_begins_1 : decode cX7_begins 1 = .ok (.getfield 83, 3) := by decide +kernel
theorem dX7_begins_4 : decode cX7_begins 4 = .ok (.iload_n 2, 1) := by decide +kernel
theorem dX7_begins_5 : decode cX7_begins 5 = .ok (.iaload, 1) := by decide +kernel
theorem dX7_begins_6 : decode cX7_begins 6 = .ok (.iload_n 3, 1) := by decide +kernel
theorem dX7_begins_7 : decode cX7_begins 7 = .ok (.if_icmp .ne 13, 3) := by decide +kernel
theorem dX7_begins_10 : decode cX7_begins 10 = .ok (.aload_n 0, 1) := by decide +kernel
theorem dX7_begins_11 : decode cX7_begins 11 = .ok (.iconst 3, 1) := by decide +kernel
theorem dX7_begins_12 : decode cX7_begins 12 = .ok (.aload_n 0, 1) := by decide +kernel
theorem dX7_begins_13 : decode cX7_begins 13 = .ok (.getfield 318, 3) := by decide +kernel
theorem dX7_begins_16 : decode cX7_begins 16 = .ok (.invokevirtual 350, 3) := by decide +kernel
theorem dX7_begins_19 : decode cX7_begins 19 = .ok (.ireturn, 1) := by decide +kernel
theorem dX7_begins_20 : decode cX7_begins 20 = .ok (.aload_n 0, 1) := by decide +kernel
theorem dX7_begins_21 : decode cX7_begins 21 = .ok (.dup, 1) := by decide +kernel
theorem dX7_begins_22 : decode cX7_begins 22 = .ok (.getfield 318, 3) := by decide +kernel
theorem dX7_begins_25 : decode cX7_begins 25 = .ok (.aload_n 1, 1) := by decide +kernel
theorem dX7_begins_26 : decode cX7_begins 26 = .ok (.invokevirtual 330, 3) := by decide +kernel
theorem dX7_begins_29 : decode cX7_begins 29 = .ok (.iadd, 1) := by decide +kernel
theorem dX7_begins_30 : decode cX7_begins 30 = .ok (.putfield 318, 3) := by decide +kernel
theorem dX7_begins_33 : decode cX7_begins 33 = .ok (.iconst 1, 1) := by decide +kernel
theorem dX7_begins_34 : decode cX7_begins 34 = .ok (.ireturn, 1) := by decide +kernel
theorem dX7_readsReachOf_0 : decode cX7_readsReachOf 0 = .ok (.aload_n 0, 1) := by decide +kernel
theorem dX7_readsReachOf_1 : decode cX7_readsReachOf 1 = .ok (.iload_n 1, 1) := by decide +kernel
theorem dX7_readsReachOf_2 : decode cX7_readsReachOf 2 = .ok (.iconst 0, 1) := by decide +kernel
theorem dX7_readsReachOf_3 : decode cX7_readsReachOf 3 = .ok (.aload_n 0, 1) := by decide +kernel
theorem dX7_readsReachOf_4 : decode cX7_readsReachOf 4 = .ok (.getfield 83, 3) := by decide +kernel
theorem dX7_readsReachOf_7 : decode cX7_readsReachOf 7 = .ok (.iconst 0, 1) := by decide +kernel
theorem dX7_readsReachOf_8 : decode cX7_readsReachOf 8 = .ok (.iaload, 1) := by decide +kernel
theorem dX7_readsReachOf_9 : decode cX7_readsReachOf 9 = .ok (.iconst 1, 1) := by decide +kernel
theorem dX7_readsReachOf_10 : decode cX7_readsReachOf 10 = .ok (.isub, 1) := by decide +kernel
theorem dX7_readsReachOf_11 : decode cX7_readsReachOf 11 = .ok (.invokevirtual 367, 3) := by decide +kernel
theorem dX7_readsReachOf_14 : decode cX7_readsReachOf 14 = .ok (.ireturn, 1) := by decide +kernel
theorem dX7_readsAge_0 : decode cX7_readsAge 0 = .ok (.aload_n 0, 1) := by decide +kernel
theorem dX7_readsAge_1 : decode cX7_readsAge 1 = .ok (.ldc_w 383, 3) := by decide +kernel
theorem dX7_readsAge_4 : decode cX7_readsAge 4 = .ok (.invokevirtual 385, 3) := by decide +kernel
theorem dX7_readsAge_7 : decode cX7_readsAge 7 = .ok (.ifCond .eq 14, 3) := by decide +kernel
theorem dX7_readsAge_10 : decode cX7_readsAge 10 = .ok (.aload_n 0, 1) := by decide +kernel
theorem dX7_readsAge_11 : decode cX7_readsAge 11 = .ok (.iconst 0, 1) := by decide +kernel
theorem dX7_readsAge_12 : decode cX7_readsAge 12 = .ok (.sipush 9999, 3) := by decide +kernel
theorem dX7_readsAge_15 : decode cX7_readsAge 15 = .ok (.invokevirtual 364, 3) := by decide +kernel
theorem dX7_readsAge_18 : decode cX7_readsAge 18 = .ok (.ifCond .ne 5, 3) := by decide +kernel
theorem dX7_readsAge_21 : decode cX7_readsAge 21 = .ok (.iconst 0, 1) := by decide +kernel
theorem dX7_readsAge_22 : decode cX7_readsAge 22 = .ok (.ireturn, 1) := by decide +kernel
theorem dX7_readsAge_23 : decode cX7_readsAge 23 = .ok (.iconst 0, 1) := by decide +kernel
theorem dX7_readsAge_24 : decode cX7_readsAge 24 = .ok (.istore_n 2, 1) := by decide +kernel
theorem dX7_readsAge_25 : decode cX7_readsAge 25 = .ok (.iload_n 2, 1) := by decide +kernel
theorem dX7_readsAge_26 : decode cX7_readsAge 26 = .ok (.aload_n 0, 1) := by decide +kernel
theorem dX7_readsAge_27 : decode cX7_readsAge 27 = .ok (.getfield 83, 3) := by decide +kernel
theorem dX7_readsAge_30 : decode cX7_readsAge 30 = .ok (.iconst 1, 1) := by decide +kernel
theorem dX7_readsAge_31 : decode cX7_readsAge 31 = .ok (.iaload, 1) := by decide +kernel
theorem dX7_readsAge_32 : decode cX7_readsAge 32 = .ok (.if_icmp .ge 40, 3) := by decide +kernel
theorem dX7_readsAge_35 : decode cX7_readsAge 35 = .ok (.aload_n 0, 1) := by decide +kernel
theorem dX7_readsAge_36 : decode cX7_readsAge 36 = .ok (.getfield 83, 3) := by decide +kernel
theorem dX7_readsAge_39 : decode cX7_readsAge 39 = .ok (.bipush 78, 2) := by decide +kernel
theorem dX7_readsAge_41 : decode cX7_readsAge 41 = .ok (.bipush 13, 2) := by decide +kernel
theorem dX7_readsAge_43 : decode cX7_readsAge 43 = .ok (.iload_n 2, 1) := by decide +kernel
theorem dX7_readsAge_44 : decode cX7_readsAge 44 = .ok (.imul, 1) := by decide +kernel
theorem dX7_readsAge_45 : decode cX7_readsAge 45 = .ok (.iadd, 1) := by decide +kernel
theorem dX7_readsAge_46 : decode cX7_readsAge 46 = .ok (.iconst 4, 1) := by decide +kernel
theorem dX7_readsAge_47 : decode cX7_readsAge 47 = .ok (.iadd, 1) := by decide +kernel
theorem dX7_readsAge_48 : decode cX7_readsAge 48 = .ok (.iaload, 1) := by decide +kernel
theorem dX7_readsAge_49 : decode cX7_readsAge 49 = .ok (.aload_n 0, 1) := by decide +kernel
theorem dX7_readsAge_50 : decode cX7_readsAge 50 = .ok (.getfield 360, 3) := by decide +kernel
theorem dX7_readsAge_53 : decode cX7_readsAge 53 = .ok (.if_icmp .ne 13, 3) := by decide +kernel
theorem dX7_readsAge_56 : decode cX7_readsAge 56 = .ok (.aload_n 0, 1) := by decide +kernel
theorem dX7_readsAge_57 : decode cX7_readsAge 57 = .ok (.iconst 2, 1) := by decide +kernel
theorem dX7_readsAge_58 : decode cX7_readsAge 58 = .ok (.aload_n 0, 1) := by decide +kernel
theorem dX7_readsAge_59 : decode cX7_readsAge 59 = .ok (.getfield 357, 3) := by decide +kernel
theorem dX7_readsAge_62 : decode cX7_readsAge 62 = .ok (.invokevirtual 350, 3) := by decide +kernel
theorem dX7_readsAge_65 : decode cX7_readsAge 65 = .ok (.ireturn, 1) := by decide +kernel
theorem dX7_readsAge_66 : decode cX7_readsAge 66 = .ok (.iinc 2 1, 3) := by decide +kernel
theorem dX7_readsAge_69 : decode cX7_readsAge 69 = .ok (.goto (-44), 3) := by decide +kernel
theorem dX7_readsAge_72 : decode cX7_readsAge 72 = .ok (.iconst 0, 1) := by decide +kernel
theorem dX7_readsAge_73 : decode cX7_readsAge 73 = .ok (.istore_n 2, 1) := by decide +kernel
theorem dX7_readsAge_74 : decode cX7_readsAge 74 = .ok (.iload_n 2, 1) := by decide +kernel
theorem dX7_readsAge_75 : decode cX7_readsAge 75 = .ok (.aload_n 0, 1) := by decide +kernel
theorem dX7_readsAge_76 : decode cX7_readsAge 76 = .ok (.getfield 83, 3) := by decide +kernel
theorem dX7_readsAge_79 : decode cX7_readsAge 79 = .ok (.iconst 2, 1) := by decide +kernel
theorem dX7_readsAge_80 : decode cX7_readsAge 80 = .ok (.iaload, 1) := by decide +kernel
theorem dX7_readsAge_81 : decode cX7_readsAge 81 = .ok (.if_icmp .ge 41, 3) := by decide +kernel
theorem dX7_readsAge_84 : decode cX7_readsAge 84 = .ok (.aload_n 0, 1) := by decide +kernel
theorem dX7_readsAge_85 : decode cX7_readsAge 85 = .ok (.getfield 83, 3) := by decide +kernel
theorem dX7_readsAge_88 : decode cX7_readsAge 88 = .ok (.sipush 260, 3) := by decide +kernel
theorem dX7_readsAge_91 : decode cX7_readsAge 91 = .ok (.bipush 7, 2) := by decide +kernel
theorem dX7_readsAge_93 : decode cX7_readsAge 93 = .ok (.iload_n 2, 1) := by decide +kernel
theorem dX7_readsAge_94 : decode cX7_readsAge 94 = .ok (.imul, 1) := by decide +kernel
theorem dX7_readsAge_95 : decode cX7_readsAge 95 = .ok (.iadd, 1) := by decide +kernel
theorem dX7_readsAge_96 : decode cX7_readsAge 96 = .ok (.iconst 3, 1) := by decide +kernel
theorem dX7_readsAge_97 : decode cX7_readsAge 97 = .ok (.iadd, 1) := by decide +kernel
theorem dX7_readsAge_98 : decode cX7_readsAge 98 = .ok (.iaload, 1) := by decide +kernel
theorem dX7_readsAge_99 : decode cX7_readsAge 99 = .ok (.aload_n 0, 1) := by decide +kernel
theorem dX7_readsAge_100 : decode cX7_readsAge 100 = .ok (.getfield 360, 3) := by decide +kernel
theorem dX7_readsAge_103 : decode cX7_readsAge 103 = .ok (.if_icmp .ne 13, 3) := by decide +kernel
theorem dX7_readsAge_106 : decode cX7_readsAge 106 = .ok (.aload_n 0, 1) := by decide +kernel
theorem dX7_readsAge_107 : decode cX7_readsAge 107 = .ok (.iconst 2, 1) := by decide +kernel
theorem dX7_readsAge_108 : decode cX7_readsAge 108 = .ok (.aload_n 0, 1) := by decide +kernel
theorem dX7_readsAge_109 : decode cX7_readsAge 109 = .ok (.getfield 357, 3) := by decide +kernel
theorem dX7_readsAge_112 : decode cX7_readsAge 112 = .ok (.invokevirtual 350, 3) := by decide +kernel
theorem dX7_readsAge_115 : decode cX7_readsAge 115 = .ok (.ireturn, 1) := by decide +kernel
theorem dX7_readsAge_116 : decode cX7_readsAge 116 = .ok (.iinc 2 1, 3) := by decide +kernel
theorem dX7_readsAge_119 : decode cX7_readsAge 119 = .ok (.goto (-45), 3) := by decide +kernel
theorem dX7_readsAge_122 : decode cX7_readsAge 122 = .ok (.aload_n 0, 1) := by decide +kernel
theorem dX7_readsAge_123 : decode cX7_readsAge 123 = .ok (.getfield 83, 3) := by decide +kernel
theorem dX7_readsAge_126 : decode cX7_readsAge 126 = .ok (.iload_n 1, 1) := by decide +kernel
theorem dX7_readsAge_127 : decode cX7_readsAge 127 = .ok (.aload_n 0, 1) := by decide +kernel
theorem dX7_readsAge_128 : decode cX7_readsAge 128 = .ok (.getfield 360, 3) := by decide +kernel
theorem dX7_readsAge_131 : decode cX7_readsAge 131 = .ok (.iastore, 1) := by decide +kernel
theorem dX7_readsAge_132 : decode cX7_readsAge 132 = .ok (.iconst 1, 1) := by decide +kernel
theorem dX7_readsAge_133 : decode cX7_readsAge 133 = .ok (.ireturn, 1) := by decide +kernel
theorem dX7_readsBack_0 : decode cX7_readsBack 0 = .ok (.aload_n 0, 1) := by decide +kernel
theorem dX7_readsBack_1 : decode cX7_readsBack 1 = .ok (.getfield 83, 3) := by decide +kernel
theorem dX7_readsBack_4 : decode cX7_readsBack 4 = .ok (.iload_n 1, 1) := by decide +kernel
theorem dX7_readsBack_5 : decode cX7_readsBack 5 = .ok (.bipush 7, 2) := by decide +kernel
theorem dX7_readsBack_7 : decode cX7_readsBack 7 = .ok (.iadd, 1) := by decide +kernel
theorem dX7_readsBack_8 : decode cX7_readsBack 8 = .ok (.bipush (-2), 2) := by decide +kernel
theorem dX7_readsBack_10 : decode cX7_readsBack 10 = .ok (.iastore, 1) := by decide +kernel
theorem dX7_readsBack_11 : decode cX7_readsBack 11 = .ok (.aload_n 0, 1) := by decide +kernel
theorem dX7_readsBack_12 : decode cX7_readsBack 12 = .ok (.ldc_w 388, 3) := by decide +kernel
theorem dX7_readsBack_15 : decode cX7_readsBack 15 = .ok (.invokevirtual 347, 3) := by decide +kernel
theorem dX7_readsBack_18 : decode cX7_readsBack 18 = .ok (.ifCond .ne 5, 3) := by decide +kernel
theorem dX7_readsBack_21 : decode cX7_readsBack 21 = .ok (.iconst 1, 1) := by decide +kernel
theorem dX7_readsBack_22 : decode cX7_readsBack 22 = .ok (.ireturn, 1) := by decide +kernel
theorem dX7_readsBack_23 : decode cX7_readsBack 23 = .ok (.aload_n 0, 1) := by decide +kernel
theorem dX7_readsBack_24 : decode cX7_readsBack 24 = .ok (.iload_n 1, 1) := by decide +kernel
theorem dX7_readsBack_25 : decode cX7_readsBack 25 = .ok (.bipush 7, 2) := by decide +kernel
theorem dX7_readsBack_27 : decode cX7_readsBack 27 = .ok (.iadd, 1) := by decide +kernel
theorem dX7_readsBack_28 : decode cX7_readsBack 28 = .ok (.invokevirtual 378, 3) := by decide +kernel
theorem dX7_readsBack_31 : decode cX7_readsBack 31 = .ok (.ifCond .eq 35, 3) := by decide +kernel
theorem dX7_readsBack_34 : decode cX7_readsBack 34 = .ok (.aload_n 0, 1) := by decide +kernel
theorem dX7_readsBack_35 : decode cX7_readsBack 35 = .ok (.iload_n 1, 1) := by decide +kernel
theorem dX7_readsBack_36 : decode cX7_readsBack 36 = .ok (.bipush 8, 2) := by decide +kernel
theorem dX7_readsBack_38 : decode cX7_readsBack 38 = .ok (.iadd, 1) := by decide +kernel
theorem dX7_readsBack_39 : decode cX7_readsBack 39 = .ok (.iconst 0, 1) := by decide +kernel
theorem dX7_readsBack_40 : decode cX7_readsBack 40 = .ok (.bipush 100, 2) := by decide +kernel
theorem dX7_readsBack_42 : decode cX7_readsBack 42 = .ok (.invokevirtual 367, 3) := by decide +kernel
theorem dX7_readsBack_45 : decode cX7_readsBack 45 = .ok (.ifCond .eq 21, 3) := by decide +kernel
theorem dX7_readsBack_48 : decode cX7_readsBack 48 = .ok (.aload_n 0, 1) := by decide +kernel
theorem dX7_readsBack_49 : decode cX7_readsBack 49 = .ok (.iload_n 1, 1) := by decide +kernel
theorem dX7_readsBack_50 : decode cX7_readsBack 50 = .ok (.bipush 9, 2) := by decide +kernel
theorem dX7_readsBack_52 : decode cX7_readsBack 52 = .ok (.iadd, 1) := by decide +kernel
theorem dX7_readsBack_53 : decode cX7_readsBack 53 = .ok (.iconst 1, 1) := by decide +kernel
theorem dX7_readsBack_54 : decode cX7_readsBack 54 = .ok (.bipush 30, 2) := by decide +kernel
theorem dX7_readsBack_56 : decode cX7_readsBack 56 = .ok (.invokevirtual 367, 3) := by decide +kernel
theorem dX7_readsBack_59 : decode cX7_readsBack 59 = .ok (.ifCond .eq 7, 3) := by decide +kernel
theorem dX7_readsBack_62 : decode cX7_readsBack 62 = .ok (.iconst 1, 1) := by decide +kernel
theorem dX7_readsBack_63 : decode cX7_readsBack 63 = .ok (.goto 4, 3) := by decide +kernel
theorem dX7_readsBack_66 : decode cX7_readsBack 66 = .ok (.iconst 0, 1) := by decide +kernel
theorem dX7_readsBack_67 : decode cX7_readsBack 67 = .ok (.ireturn, 1) := by decide +kernel
theorem mv_X7_byteAt : MV yX7_byteAt cX7_byteAt 2 (some .int) 1 := ⟨wd_16_5, wd_16_3, wd_16_4, wd_1_5, by decide, by decide, by decide +kernel⟩
theorem mv_X7_fails : MV yX7_fails cX7_fails 3 (some .boolean) 2 := ⟨wd_17_5, wd_17_3, wd_17_4, wd_1_5, by decide, by decide, by decide +kernel⟩
theorem mv_X7_isWord : MV yX7_isWord cX7_isWord 4 (some .boolean) 1 := ⟨wd_16_13, wd_16_11, wd_16_12, wd_1_5, by decide, by decide, by decide +kernel⟩
theorem mv_X7_mustWord : MV yX7_mustWord cX7_mustWord 2 (some .boolean) 1 := ⟨wd_18_15, wd_18_13, wd_18_14, wd_1_5, by decide, by decide, by decide +kernel⟩
theorem mv_X7_nextByte : MV yX7_nextByte cX7_nextByte 1 (some .int) 0 := ⟨wd_16_1, wd_15_23, wd_16_0, wd_1_5, by decide, by decide, by decide +kernel⟩
theorem mv_X7_readsNumber : MV yX7_readsNumber cX7_readsNumber 3 (some .boolean) 2 := ⟨wd_17_22, wd_17_20, wd_17_21, wd_1_5, by decide, by decide, by decide +kernel⟩
theorem mv_X7_readsReachOf : MV yX7_readsReachOf cX7_readsReachOf 2 (some .boolean) 1 := ⟨wd_17_13, wd_17_11, wd_17_12, wd_1_5, by decide, by decide, by decide +kernel⟩
theorem mv_X7_readsTo : MV yX7_readsTo cX7_readsTo 4 (some .boolean) 3 := ⟨wd_17_17, wd_17_15, wd_17_16, wd_1_5, by decide, by decide, by decide +kernel⟩
theorem mv_X7_takesWord : MV yX7_takesWord cX7_takesWord 3 (some .boolean) 1 := ⟨wd_17_9, wd_17_7, wd_17_8, wd_1_5, by decide, by decide, by decide +kernel⟩
set_option maxHeartbeats 4000000 in
set_option maxRecDepth 100000 in
theorem c_X7_fails (E : Ev) (nw : TD) (ws : TD) (kp : TD) (as : TD) (rd : TD) (sc : TD) (un : Int × Int) (tk : Int × Int) (xt : Int × Int) (tp : Int × Int) (sp : Int × Int) (nu : Int × Int) (a0 : Nat) (a1 : Int32) (a2 : Int32) (ha0 : eT E a0 ∈ [24]) : TcI E yX7_fails cX7_fails 3 .boolean ({ frames := 1, cells := 0, slots := 0, locals := 40 }) [.ref a0, .int a1, .int a2] (fun H => TH E (tbM (mD (.inl tp) (.inl sp) (.inl nu) (.inl un) (.inl tk) (.inl xt)) nw ws kp as rd sc) H) (fun v H => (0 ≤ v.toInt ∧ v.toInt ≤ 0) ∧ TH E (tbM (mD (.inl tp) (.inl sp) (.inl nu) (.inl un) (.inl tk) (.inl xt)) nw ws kp as rd sc) H) := by
  refine teI (by decide) (Nat.le_of_ble_eq_true rfl) ?_
  intro p_ ev_ s mi_ below_ meth cd_ ls F hK hN hO hH hS hl
  have hH : TH E (tbM (mD (.inl tp) (.inl sp) (.inl nu) (.inl un) (.inl tk) (.inl xt)) nw ws kp as rd sc) s.heap := hH
  have hl : lv_has ls 3 [(0, .ref a0), (1, .int a1), (2, .int a2)] := hl
  refine lv_aload_n F.1 F.2.1 dX7_fails_0 rfl (lv_at hl 0 rfl) ?_
  refine lv_bipush (v := 8) F.1 F.2.1 dX7_fails_1 (by decide) ?_
  refine topK (a := 8) (by decide) (fun k_1 hk_1 => ?_)
  refine lv_iload_n F.1 F.2.1 dX7_fails_3 rfl (lv_at hl 2 rfl) ?_
  refine lv_imul F.1 F.2.1 dX7_fails_4 ?_
  refine topF (fun z_2 => ?_)
  refine lv_iload_n F.1 F.2.1 dX7_fails_5 rfl (lv_at hl 1 rfl) ?_
  refine lv_iadd F.1 F.2.1 dX7_fails_6 ?_
  refine topF (fun z_3 => ?_)
  refine tPut (j := 32) F hK hH hS (tyb ha0 (all1 rfl)) rfl (fdI (i32b _)) clX7 (by decide) wd_15_14 rfl rfl rfl rfl dX7_fails_7 (fun H locs hH hS => ?_)
  refine lv_iconst (v := 0) F.1 F.2.1 dX7_fails_10 (by decide) ?_
  refine topK (a := 0) (by decide) (fun k_4 hk_4 => ?_)
  exact txI F hS dX7_fails_11 (nar01 (wkb (eqb hk_4) rfl rfl)) (⟨(eqb hk_4), hH⟩)
set_option maxHeartbeats 4000000 in
set_option maxRecDepth 100000 in
theorem c_X7_byteAt (E : Ev) (nw : TD) (ws : TD) (kp : TD) (as : TD) (rd : TD) (sc : TD) (un : Int × Int) (tk : Int × Int) (xt : Int × Int) (sp : Int × Int) (nu : Int × Int) (t : Int) (a0 : Nat) (a1 : Int32) (ha0 : eT E a0 ∈ [24]) (ha1 : 0 ≤ a1.toInt ∧ a1.toInt ≤ 2147483647) (ht : 0 ≤ t ∧ t ≤ 400) : TcI E yX7_byteAt cX7_byteAt 2 .int ({ frames := 1, cells := 0, slots := 0, locals := 40 }) [.ref a0, .int a1] (fun H => TH E (tbM (mD (.inl (t, t)) (.inl sp) (.inl nu) (.inl un) (.inl tk) (.inl xt)) nw ws kp as rd sc) H) (fun v H => ((-2147483648) ≤ v.toInt ∧ v.toInt ≤ 2147483647) ∧ (a1.toInt < t ∨ v.toInt = -1) ∧ TH E (tbM (mD (.inl (t, t)) (.inl sp) (.inl nu) (.inl un) (.inl tk) (.inl xt)) nw ws kp as rd sc) H) := by
  refine teI (by decide) (Nat.le_of_ble_eq_true rfl) ?_
  intro p_ ev_ s mi_ below_ meth cd_ ls F hK hN hO hH hS hl
  have hH : TH E (tbM (mD (.inl (t, t)) (.inl sp) (.inl nu) (.inl un) (.inl tk) (.inl xt)) nw ws kp as rd sc) s.heap := hH
  have hl : lv_has ls 2 [(0, .ref a0), (1, .int a1)] := hl
  refine lv_iload_n F.1 F.2.1 dX7_byteAt_0 rfl (lv_at hl 1 rfl) ?_
  refine lv_aload_n F.1 F.2.1 dX7_byteAt_1 rfl (lv_at hl 0 rfl) ?_
  refine tGetI (j := 30) F hK hH (tyb ha0 (all1 rfl)) rfl clX7 (by decide) wd_7_21 dX7_byteAt_2 (fun z_1 hz_1 => ?_)
  have ez_1 : 0 ≤ z_1.toInt ∧ z_1.toInt ≤ 400 := by omega
  refine b_ge (tgt := 21) F dX7_byteAt_5 (by decide) (fun c_2 => ?_) (fun c_2 => ?_)
  · skip
    refine lv_iconst (v := (-1)) F.1 F.2.1 dX7_byteAt_21 (by decide) ?_
    refine topK (a := (-1)) (by decide) (fun k_5 hk_5 => ?_)
    exact txI F hS dX7_byteAt_22 rfl (⟨(wkb (eqb hk_5) rfl rfl), (by omega), hH⟩)
  · skip
    have r_3 : 0 ≤ a1.toInt ∧ a1.toInt ≤ 399 := by have h9_ := ha1; omega
    have r_4 : 1 ≤ z_1.toInt ∧ z_1.toInt ≤ 400 := by have h9_ := ez_1; omega
    refine lv_aload_n F.1 F.2.1 dX7_byteAt_8 rfl (lv_at hl 0 rfl) ?_
    refine tGetR (j := 29) F hK hH (tyb ha0 (all1 rfl)) rfl (all1 rfl) clX7 (by decide) wd_7_4 dX7_byteAt_9 (fun q_6 hq_6 _ => ?_)
    refine lv_iload_n F.1 F.2.1 dX7_byteAt_12 rfl (lv_at hl 1 rfl) ?_
    refine tBaldB F hK hH (tyb hq_6 (all1 rfl)) (ixb (n := 400) r_3 rfl rfl) dX7_byteAt_13 (fun z_7 hz_7 => ?_)
    refine lv_sipush (v := 255) F.1 F.2.1 dX7_byteAt_14 (by decide) ?_
    refine topK (a := 255) (by decide) (fun k_8 hk_8 => ?_)
    refine lv_iand F.1 F.2.1 dX7_byteAt_17 ?_
    refine topF (fun z_9 => ?_)
    refine lv_goto (tgt := 22) F.1 F.2.1 dX7_byteAt_18 (by decide) ?_
    exact txI F hS dX7_byteAt_22 rfl (⟨(i32b _), (by omega), hH⟩)
set_option maxHeartbeats 4000000 in
set_option maxRecDepth 100000 in
theorem c_X7_nextByte (E : Ev) (nw : TD) (ws : TD) (kp : TD) (as : TD) (rd : TD) (sc : TD) (un : Int × Int) (tk : Int × Int) (xt : Int × Int) (nu : Int × Int) (t : Int) (p : Int) (b : Int) (a0 : Nat) (ha0 : eT E a0 ∈ [24]) (ht : 0 ≤ t ∧ t ≤ 400) (hp : 0 ≤ p ∧ p ≤ 4000) (hb : p ≤ b ∧ 400 ≤ b ∧ b ≤ 4000) : TcI E yX7_nextByte cX7_nextByte 1 .int ({ frames := 2, cells := 0, slots := 0, locals := 61 }) [.ref a0] (fun H => TH E (tbM (mD (.inl (t, t)) (.inl (p, p)) (.inl nu) (.inl un) (.inl tk) (.inl xt)) nw ws kp as rd sc) H) (fun v H => ∃ p2 : Int, (0 ≤ p2 ∧ p2 ≤ 5000 ∧ p ≤ p2 ∧ p2 ≤ b + 0) ∧ ((-2147483648) ≤ v.toInt ∧ v.toInt ≤ 2147483647) ∧ (p2 < t ∨ v.toInt = -1) ∧ TH E (tbM (mD (.inl (t, t)) (.inl (p2, p2)) (.inl nu) (.inl un) (.inl tk) (.inl xt)) nw ws kp as rd sc) H) := by
  refine teI (by decide) (Nat.le_of_ble_eq_true rfl) ?_
  intro p_ ev_ s mi_ below_ meth cd_ ls F hK hN hO hH hS hl
  have hH : TH E (tbM (mD (.inl (t, t)) (.inl (p, p)) (.inl nu) (.inl un) (.inl tk) (.inl xt)) nw ws kp as rd sc) s.heap := hH
  have hl : lv_has ls 1 [(0, .ref a0)] := hl
  refine wloop (σ := Int) (fun n9 x9 H locs ls => (5000 - x9).toNat < n9 ∧ (0 ≤ x9 ∧ x9 ≤ 4000) ∧ (p ≤ x9) ∧ (x9 ≤ b) ∧ TH E (tbM (mD (.inl (t, t)) (.inl (x9, x9)) (.inl nu) (.inl un) (.inl tk) (.inl xt)) nw ws kp as rd sc) H ∧ va_S (eA E s.heap.size) s.heap H locs ∧ lv_has ls 1 [(0, .ref a0)]) ?_ (fun x9 H locs ls h => absurd h.1 (Nat.not_lt_zero _)) _ (p) ⟨Nat.lt_succ_self _, (show 0 ≤ p ∧ p ≤ 4000 from by omega), (show p ≤ p from by omega), (show p ≤ b from by omega), hH, hS, lv_sub hl [0] rfl⟩
  intro n_0 ih_0 g_1 H locs ls ⟨hm_0, hg_1, hcr0_0, hcr0_1, hH, hS, hl⟩
  have hm_0 : (5000 - g_1).toNat < n_0 + 1 := hm_0
  have hg_1 : (0 ≤ g_1 ∧ g_1 ≤ 4000) := hg_1
  have hcr0_0 : (p ≤ g_1) := hcr0_0
  have hcr0_1 : (g_1 ≤ b) := hcr0_1
  have hH : TH E (tbM (mD (.inl (t, t)) (.inl (g_1, g_1)) (.inl nu) (.inl un) (.inl tk) (.inl xt)) nw ws kp as rd sc) H := hH
  have hl : lv_has ls 1 [(0, .ref a0)] := hl
  refine lv_aload_n F.1 F.2.1 dX7_nextByte_0 rfl (lv_at hl 0 rfl) ?_
  refine lv_aload_n F.1 F.2.1 dX7_nextByte_1 rfl (lv_at hl 0 rfl) ?_
  refine tGetI (j := 31) F hK hH (tyb ha0 (all1 rfl)) rfl clX7 (by decide) wd_15_21 dX7_nextByte_2 (fun z_2 hz_2 => ?_)
  have ez_2 : 0 ≤ z_2.toInt ∧ z_2.toInt ≤ 4000 := by omega
  refine tVi (b := a0) (As := [.int z_2]) (rest := []) F hK hN hO (c_X7_byteAt E nw ws kp as rd sc un tk xt (g_1, g_1) nu t a0 z_2 ha0 (wkb ez_2 rfl rfl) (by omega)) mv_X7_byteAt wd_16_2 ⟨Nat.le_of_ble_eq_true rfl, Nat.le_of_ble_eq_true rfl⟩ ⟨Nat.le_of_ble_eq_true rfl, Nat.le_of_ble_eq_true rfl⟩ hH hS (tRecv hK hH (tyb ha0 (all1 rfl)) clX7) rfl hl.1 (Nat.le_of_ble_eq_true rfl) dX7_nextByte_5 (fun z_3 H locs hq hS => ?_)
  obtain ⟨f_4, f_5, hH⟩ := hq
  have hH : TH E (tbM (mD (.inl (t, t)) (.inl (g_1, g_1)) (.inl nu) (.inl un) (.inl tk) (.inl xt)) nw ws kp as rd sc) H := hH
  refine lv_bipush (v := 32) F.1 F.2.1 dX7_nextByte_8 (by decide) ?_
  refine topK (a := 32) (by decide) (fun k_6 hk_6 => ?_)
  refine b_ne (tgt := 26) F dX7_nextByte_10 (by decide) (fun c_7 => ?_) (fun c_7 => ?_)
  · skip
    refine lv_aload_n F.1 F.2.1 dX7_nextByte_26 rfl (lv_at hl 0 rfl) ?_
    refine lv_aload_n F.1 F.2.1 dX7_nextByte_27 rfl (lv_at hl 0 rfl) ?_
    refine tGetI (j := 31) F hK hH (tyb ha0 (all1 rfl)) rfl clX7 (by decide) wd_15_21 dX7_nextByte_28 (fun z_9 hz_9 => ?_)
    have ez_9 : 0 ≤ z_9.toInt ∧ z_9.toInt ≤ 4000 := by omega
    refine tVi (b := a0) (As := [.int z_9]) (rest := []) F hK hN hO (c_X7_byteAt E nw ws kp as rd sc un tk xt (g_1, g_1) nu t a0 z_9 ha0 (wkb ez_9 rfl rfl) (by omega)) mv_X7_byteAt wd_16_2 ⟨Nat.le_of_ble_eq_true rfl, Nat.le_of_ble_eq_true rfl⟩ ⟨Nat.le_of_ble_eq_true rfl, Nat.le_of_ble_eq_true rfl⟩ hH hS (tRecv hK hH (tyb ha0 (all1 rfl)) clX7) rfl hl.1 (Nat.le_of_ble_eq_true rfl) dX7_nextByte_31 (fun z_10 H locs hq hS => ?_)
    obtain ⟨f_11, f_12, hH⟩ := hq
    have hH : TH E (tbM (mD (.inl (t, t)) (.inl (g_1, g_1)) (.inl nu) (.inl un) (.inl tk) (.inl xt)) nw ws kp as rd sc) H := hH
    exact txI F hS dX7_nextByte_34 rfl (⟨g_1, ⟨by omega, by omega, by omega, by omega⟩, f_11, (by omega), hH⟩)
  · skip
    have r_8 : 32 ≤ z_3.toInt ∧ z_3.toInt ≤ 32 := by have h9_ := f_4; omega
    refine lv_aload_n F.1 F.2.1 dX7_nextByte_13 rfl (lv_at hl 0 rfl) ?_
    refine lv_dup F.1 F.2.1 dX7_nextByte_14 rfl ?_
    refine tGetI (j := 31) F hK hH (tyb ha0 (all1 rfl)) rfl clX7 (by decide) wd_15_21 dX7_nextByte_15 (fun z_13 hz_13 => ?_)
    have ez_13 : 0 ≤ z_13.toInt ∧ z_13.toInt ≤ 4000 := by omega
    refine lv_iconst (v := 1) F.1 F.2.1 dX7_nextByte_18 (by decide) ?_
    refine topK (a := 1) (by decide) (fun k_14 hk_14 => ?_)
    refine tAdd (lo := 1) (hi := 4001) F dX7_nextByte_19 ez_13 (eqb hk_14) rfl (fun z_15 hz_15 => ?_)
    obtain ⟨g_16, hg_16⟩ : ∃ y : Int, z_15.toInt = y := ⟨_, rfl⟩
    have bg_16 : 1 ≤ g_16 ∧ g_16 ≤ 4001 := by rw [← hg_16]; exact hz_15.2
    refine tPutG (j := 31) (t := 24) (fd := (.inl (g_16, g_16))) F hK hH hS (List.mem_singleton.mp ha0) (by decide) rfl rfl (fdI (by omega)) (TB1 := (tbM (mD (.inl (t, t)) (.inl (g_16, g_16)) (.inl nu) (.inl un) (.inl tk) (.inl xt)) nw ws kp as rd sc)) rfl clX7 (by decide) wd_15_21 rfl rfl rfl rfl dX7_nextByte_20 (fun H locs hH hS => ?_)
    refine lv_goto (tgt := 0) F.1 F.2.1 dX7_nextByte_23 (by decide) ?_
    exact ih_0 (g_16) _ _ _ ⟨(show (5000 - g_16).toNat < n_0 from by omega), (show 0 ≤ g_16 ∧ g_16 ≤ 4000 from by omega), (show p ≤ g_16 from by omega), (show g_16 ≤ b from by omega), hH, hS, lv_sub hl [0] rfl⟩
set_option maxHeartbeats 4000000 in
set_option maxRecDepth 100000 in
theorem c_X7_isWord (E : Ev) (nw : TD) (ws : TD) (kp : TD) (as : TD) (rd : TD) (sc : TD) (un : Int × Int) (tk : Int × Int) (xt : Int × Int) (nu : Int × Int) (t : Int) (p : Int) (b : Int) (a0 : Nat) (t1 n1 : Nat) (ha0 : eT E a0 ∈ [24]) (ha1 : strOf t1 n1) (ht : 0 ≤ t ∧ t ≤ 400) (hp : 0 ≤ p ∧ p ≤ 4000) (hb : p ≤ b ∧ 400 ≤ b ∧ b ≤ 4000) : TcI E yX7_isWord cX7_isWord 4 .boolean ({ frames := 5, cells := 0, slots := 0, locals := 181 }) [.ref a0, .ref (eX E t1)] (fun H => TH E (tbM (mD (.inl (t, t)) (.inl (p, p)) (.inl nu) (.inl un) (.inl tk) (.inl xt)) nw ws kp as rd sc) H) (fun v H => ∃ p2 : Int, (0 ≤ p2 ∧ p2 ≤ 5000 ∧ p ≤ p2 ∧ p2 ≤ b + 0) ∧ (0 ≤ v.toInt ∧ v.toInt ≤ 1) ∧ TH E (tbM (mD (.inl (t, t)) (.inl (p2, p2)) (.inl nu) (.inl un) (.inl tk) (.inl xt)) nw ws kp as rd sc) H) := by
  refine teI (by decide) (Nat.le_of_ble_eq_true rfl) ?_
  intro p_ ev_ s mi_ below_ meth cd_ ls F hK hN hO hH hS hl
  have hH : TH E (tbM (mD (.inl (t, t)) (.inl (p, p)) (.inl nu) (.inl un) (.inl tk) (.inl xt)) nw ws kp as rd sc) s.heap := hH
  have hl : lv_has ls 4 [(0, .ref a0), (1, .ref (eX E t1))] := hl
  refine lv_aload_n F.1 F.2.1 dX7_isWord_0 rfl (lv_at hl 0 rfl) ?_
  refine tVi (b := a0) (As := []) (rest := []) F hK hN hO (c_X7_nextByte E nw ws kp as rd sc un tk xt nu t p b a0 ha0 (by omega) (by omega) (by omega)) mv_X7_nextByte wd_15_22 ⟨Nat.le_of_ble_eq_true rfl, Nat.le_of_ble_eq_true rfl⟩ ⟨Nat.le_of_ble_eq_true rfl, Nat.le_of_ble_eq_true rfl⟩ hH hS (tRecv hK hH (tyb ha0 (all1 rfl)) clX7) rfl hl.1 (Nat.le_of_ble_eq_true rfl) dX7_isWord_1 (fun z_1 H locs hq hS => ?_)
  obtain ⟨g_2, hg_2, f_3, f_4, hH⟩ := hq
  have hH : TH E (tbM (mD (.inl (t, t)) (.inl (g_2, g_2)) (.inl nu) (.inl un) (.inl tk) (.inl xt)) nw ws kp as rd sc) H := hH
  refine lv_iconst (v := (-1)) F.1 F.2.1 dX7_isWord_4 (by decide) ?_
  refine topK (a := (-1)) (by decide) (fun k_5 hk_5 => ?_)
  refine b_ne (tgt := 15) F dX7_isWord_5 (by decide) (fun c_6 => ?_) (fun c_6 => ?_)
  · skip
    refine lv_aload_n F.1 F.2.1 dX7_isWord_15 rfl (lv_at hl 0 rfl) ?_
    refine tGetI (j := 31) F hK hH (tyb ha0 (all1 rfl)) rfl clX7 (by decide) wd_15_21 dX7_isWord_16 (fun z_8 hz_8 => ?_)
    have ez_8 : 0 ≤ z_8.toInt ∧ z_8.toInt ≤ 5000 := by omega
    refine lv_istore_n (lv' := [(2, .int z_8), (0, .ref a0), (1, .ref (eX E t1))]) F.1 F.2.1 dX7_isWord_19 rfl hl (by decide) rfl (fun ls hl => ?_)
    refine lv_iconst (v := 0) F.1 F.2.1 dX7_isWord_20 (by decide) ?_
    refine topK (a := 0) (by decide) (fun k_9 hk_9 => ?_)
    refine lv_istore_n (lv' := [(3, .int k_9), (2, .int z_8), (0, .ref a0), (1, .ref (eX E t1))]) F.1 F.2.1 dX7_isWord_21 rfl hl (by decide) rfl (fun ls hl => ?_)
    refine wloop (σ := Int32) (fun n9 x9 H locs ls => (9 - x9.toInt + 1).toNat < n9 ∧ (0 ≤ x9.toInt ∧ x9.toInt ≤ 9) ∧ TH E (tbM (mD (.inl (t, t)) (.inl (g_2, g_2)) (.inl nu) (.inl un) (.inl tk) (.inl xt)) nw ws kp as rd sc) H ∧ va_S (eA E s.heap.size) s.heap H locs ∧ lv_has ls 4 [(0, .ref a0), (1, .ref (eX E t1)), (2, .int z_8), (3, .int x9)]) ?_ (fun x9 H locs ls h => absurd h.1 (Nat.not_lt_zero _)) _ (k_9) ⟨Nat.lt_succ_self _, (wkb (eqb hk_9) rfl rfl), hH, hS, lv_sub hl [2, 3, 1, 0] rfl⟩
    intro n_22 ih_22 u_10 H locs ls ⟨hm_22, hu_10, hH, hS, hl⟩
    have hm_22 : (9 - u_10.toInt + 1).toNat < n_22 + 1 := hm_22
    have hu_10 : (0 ≤ u_10.toInt ∧ u_10.toInt ≤ 9) := hu_10
    have hH : TH E (tbM (mD (.inl (t, t)) (.inl (g_2, g_2)) (.inl nu) (.inl un) (.inl tk) (.inl xt)) nw ws kp as rd sc) H := hH
    have hl : lv_has ls 4 [(0, .ref a0), (1, .ref (eX E t1)), (2, .int z_8), (3, .int u_10)] := hl
    refine lv_iload_n F.1 F.2.1 dX7_isWord_22 rfl (lv_at hl 3 rfl) ?_
    refine lv_aload_n F.1 F.2.1 dX7_isWord_23 rfl (lv_at hl 1 rfl) ?_
    refine tVi (b := (eX E t1)) (As := []) (rest := [.int u_10]) F hK hN hO (c_len E (fun H => TH E (tbM (mD (.inl (t, t)) (.inl (g_2, g_2)) (.inl nu) (.inl un) (.inl tk) (.inl xt)) nw ws kp as rd sc) H) t1 n1 ha1) mv_J0_length_8abf5 wd_16_16 ⟨Nat.le_of_ble_eq_true rfl, Nat.le_of_ble_eq_true rfl⟩ ⟨Nat.le_of_ble_eq_true rfl, Nat.le_of_ble_eq_true rfl⟩ hH hS (sRecvS hO ha1 hS) rfl hl.1 (Nat.le_of_ble_eq_true rfl) dX7_isWord_24 (fun z_11 H locs hq hS => ?_)
    obtain ⟨hz_11, hH⟩ := hq
    have hH : TH E (tbM (mD (.inl (t, t)) (.inl (g_2, g_2)) (.inl nu) (.inl un) (.inl tk) (.inl xt)) nw ws kp as rd sc) H := hH
    have ez_11 : 3 ≤ z_11.toInt ∧ z_11.toInt ≤ 6 := by have h9_ := strLe ha1; omega
    refine wjoin (σ := Unit) (pcj := 51) (stj := fun x9 => []) (fun x9 H locs ls => TH E (tbM (mD (.inl (t, t)) (.inl (g_2, g_2)) (.inl nu) (.inl un) (.inl tk) (.inl xt)) nw ws kp as rd sc) H ∧ va_S (eA E s.heap.size) s.heap H locs ∧ lv_has ls 4 [(0, .ref a0), (1, .ref (eX E t1)), (2, .int z_8), (3, .int u_10)]) (fun x9 H locs ls h_ => ?_) (fun J_51 => ?_)
    · skip
      obtain ⟨hH, hS, hl⟩ := h_
      have hH : TH E (tbM (mD (.inl (t, t)) (.inl (g_2, g_2)) (.inl nu) (.inl un) (.inl tk) (.inl xt)) nw ws kp as rd sc) H := hH
      have hl : lv_has ls 4 [(0, .ref a0), (1, .ref (eX E t1)), (2, .int z_8), (3, .int u_10)] := hl
      show W _ _ _ _ _ _ _ _ _ _ _ _ _ _ _ (F0 _ _ _ [])
      refine lv_iload_n F.1 F.2.1 dX7_isWord_51 rfl (lv_at hl 3 rfl) ?_
      refine lv_aload_n F.1 F.2.1 dX7_isWord_52 rfl (lv_at hl 1 rfl) ?_
      refine tVi (b := (eX E t1)) (As := []) (rest := [.int u_10]) F hK hN hO (c_len E (fun H => TH E (tbM (mD (.inl (t, t)) (.inl (g_2, g_2)) (.inl nu) (.inl un) (.inl tk) (.inl xt)) nw ws kp as rd sc) H) t1 n1 ha1) mv_J0_length_8abf5 wd_16_16 ⟨Nat.le_of_ble_eq_true rfl, Nat.le_of_ble_eq_true rfl⟩ ⟨Nat.le_of_ble_eq_true rfl, Nat.le_of_ble_eq_true rfl⟩ hH hS (sRecvS hO ha1 hS) rfl hl.1 (Nat.le_of_ble_eq_true rfl) dX7_isWord_53 (fun z_12 H locs hq hS => ?_)
      obtain ⟨hz_12, hH⟩ := hq
      have hH : TH E (tbM (mD (.inl (t, t)) (.inl (g_2, g_2)) (.inl nu) (.inl un) (.inl tk) (.inl xt)) nw ws kp as rd sc) H := hH
      have ez_12 : 3 ≤ z_12.toInt ∧ z_12.toInt ≤ 6 := by have h9_ := strLe ha1; omega
      refine b_ne (tgt := 83) F dX7_isWord_56 (by decide) (fun c_13 => ?_) (fun c_13 => ?_)
      · skip
        refine lv_iconst (v := 0) F.1 F.2.1 dX7_isWord_83 (by decide) ?_
        refine topK (a := 0) (by decide) (fun k_15 hk_15 => ?_)
        exact txI F hS dX7_isWord_84 (nar01 (wkb (eqb hk_15) rfl rfl)) (⟨g_2, ⟨by omega, by omega, by omega, by omega⟩, (wkb (eqb hk_15) rfl rfl), hH⟩)
      · skip
        have r_14 : 3 ≤ u_10.toInt ∧ u_10.toInt ≤ 6 := by have h9_ := hu_10; omega
        refine lv_aload_n F.1 F.2.1 dX7_isWord_59 rfl (lv_at hl 0 rfl) ?_
        refine lv_iload_n F.1 F.2.1 dX7_isWord_60 rfl (lv_at hl 2 rfl) ?_
        refine lv_iload_n F.1 F.2.1 dX7_isWord_61 rfl (lv_at hl 3 rfl) ?_
        refine tAdd (lo := 3) (hi := 5006) F dX7_isWord_62 ez_8 r_14 rfl (fun z_16 hz_16 => ?_)
        refine tVi (b := a0) (As := [.int z_16]) (rest := []) F hK hN hO (c_X7_byteAt E nw ws kp as rd sc un tk xt (g_2, g_2) nu t a0 z_16 ha0 (wkb hz_16.2 rfl rfl) (by omega)) mv_X7_byteAt wd_16_2 ⟨Nat.le_of_ble_eq_true rfl, Nat.le_of_ble_eq_true rfl⟩ ⟨Nat.le_of_ble_eq_true rfl, Nat.le_of_ble_eq_true rfl⟩ hH hS (tRecv hK hH (tyb ha0 (all1 rfl)) clX7) rfl hl.1 (Nat.le_of_ble_eq_true rfl) dX7_isWord_63 (fun z_17 H locs hq hS => ?_)
        obtain ⟨f_18, f_19, hH⟩ := hq
        have hH : TH E (tbM (mD (.inl (t, t)) (.inl (g_2, g_2)) (.inl nu) (.inl un) (.inl tk) (.inl xt)) nw ws kp as rd sc) H := hH
        refine tI2l F dX7_isWord_66 (fun w_20 hw_20 => ?_)
        refine lv_ldc2 (own := RX7) (v := 97) F.1 F.2.1 F.2.2.2.2.1 (F.2.2.2.2.2.2.1 _ wd_16_14) dX7_isWord_67 ?_
        refine topKL (a := 97) (by decide) (fun j_21 hj_21 => ?_)
        refine lv_ldc2 (own := RX7) (v := 122) F.1 F.2.1 F.2.2.2.2.1 (F.2.2.2.2.2.2.1 _ wd_16_15) dX7_isWord_70 ?_
        refine topKL (a := 122) (by decide) (fun j_22 hj_22 => ?_)
        refine tSi (As := [.long w_20, .long j_21, .long j_22]) (rest := []) F hK hN hO (c_X7_in E (mD (.inl (t, t)) (.inl (g_2, g_2)) (.inl nu) (.inl un) (.inl tk) (.inl xt)) nw ws kp as rd sc w_20 j_21 j_22) ms_X7_in wd_8_10 ⟨Nat.le_of_ble_eq_true rfl, Nat.le_of_ble_eq_true rfl⟩ ⟨Nat.le_of_ble_eq_true rfl, Nat.le_of_ble_eq_true rfl⟩ hH hS rfl hl.1 (Nat.le_of_ble_eq_true rfl) dX7_isWord_73 (fun z_23 H locs hq hS => ?_)
        obtain ⟨f_24, f_25, hH⟩ := hq
        have hH : TH E (tbM (mD (.inl (t, t)) (.inl (g_2, g_2)) (.inl nu) (.inl un) (.inl tk) (.inl xt)) nw ws kp as rd sc) H := hH
        refine z_ne (tgt := 83) F dX7_isWord_76 (by decide) (fun c_26 => ?_) (fun c_26 => ?_)
        · skip
          have r_27 : 1 ≤ z_23.toInt ∧ z_23.toInt ≤ 1 := by have h9_ := f_24; omega
          have r_28 : 97 ≤ z_17.toInt ∧ z_17.toInt ≤ 122 := by have h9_ := f_18; omega
          refine lv_iconst (v := 0) F.1 F.2.1 dX7_isWord_83 (by decide) ?_
          refine topK (a := 0) (by decide) (fun k_30 hk_30 => ?_)
          exact txI F hS dX7_isWord_84 (nar01 (wkb (eqb hk_30) rfl rfl)) (⟨g_2, ⟨by omega, by omega, by omega, by omega⟩, (wkb (eqb hk_30) rfl rfl), hH⟩)
        · skip
          have r_29 : 0 ≤ z_23.toInt ∧ z_23.toInt ≤ 0 := by have h9_ := f_24; omega
          refine lv_iconst (v := 1) F.1 F.2.1 dX7_isWord_79 (by decide) ?_
          refine topK (a := 1) (by decide) (fun k_31 hk_31 => ?_)
          refine lv_goto (tgt := 84) F.1 F.2.1 dX7_isWord_80 (by decide) ?_
          exact txI F hS dX7_isWord_84 (nar01 (wkb (eqb hk_31) rfl rfl)) (⟨g_2, ⟨by omega, by omega, by omega, by omega⟩, (wkb (eqb hk_31) rfl rfl), hH⟩)
    refine b_ge (tgt := 51) F dX7_isWord_27 (by decide) (fun c_32 => ?_) (fun c_32 => ?_)
    · skip
      have r_33 : 3 ≤ u_10.toInt ∧ u_10.toInt ≤ 9 := by have h9_ := hu_10; omega
      exact J_51 () _ _ _ ⟨hH, hS, lv_sub hl [0, 1, 2, 3] rfl⟩
    · skip
      have r_34 : 0 ≤ u_10.toInt ∧ u_10.toInt ≤ 5 := by have h9_ := hu_10; omega
      refine lv_aload_n F.1 F.2.1 dX7_isWord_30 rfl (lv_at hl 0 rfl) ?_
      refine lv_iload_n F.1 F.2.1 dX7_isWord_31 rfl (lv_at hl 2 rfl) ?_
      refine lv_iload_n F.1 F.2.1 dX7_isWord_32 rfl (lv_at hl 3 rfl) ?_
      refine tAdd (lo := 0) (hi := 5005) F dX7_isWord_33 ez_8 r_34 rfl (fun z_35 hz_35 => ?_)
      refine tVi (b := a0) (As := [.int z_35]) (rest := []) F hK hN hO (c_X7_byteAt E nw ws kp as rd sc un tk xt (g_2, g_2) nu t a0 z_35 ha0 (wkb hz_35.2 rfl rfl) (by omega)) mv_X7_byteAt wd_16_2 ⟨Nat.le_of_ble_eq_true rfl, Nat.le_of_ble_eq_true rfl⟩ ⟨Nat.le_of_ble_eq_true rfl, Nat.le_of_ble_eq_true rfl⟩ hH hS (tRecv hK hH (tyb ha0 (all1 rfl)) clX7) rfl hl.1 (Nat.le_of_ble_eq_true rfl) dX7_isWord_34 (fun z_36 H locs hq hS => ?_)
      obtain ⟨f_37, f_38, hH⟩ := hq
      have hH : TH E (tbM (mD (.inl (t, t)) (.inl (g_2, g_2)) (.inl nu) (.inl un) (.inl tk) (.inl xt)) nw ws kp as rd sc) H := hH
      refine lv_aload_n F.1 F.2.1 dX7_isWord_37 rfl (lv_at hl 1 rfl) ?_
      refine lv_iload_n F.1 F.2.1 dX7_isWord_38 rfl (lv_at hl 3 rfl) ?_
      refine tVi (b := (eX E t1)) (As := [.int u_10]) (rest := [.int z_36]) F hK hN hO (c_chr E (fun H => TH E (tbM (mD (.inl (t, t)) (.inl (g_2, g_2)) (.inl nu) (.inl un) (.inl tk) (.inl xt)) nw ws kp as rd sc) H) t1 n1 ha1 u_10 (by omega) (by omega)) mv_J0_charAt_5068e wd_16_17 ⟨Nat.le_of_ble_eq_true rfl, Nat.le_of_ble_eq_true rfl⟩ ⟨Nat.le_of_ble_eq_true rfl, Nat.le_of_ble_eq_true rfl⟩ hH hS (sRecvS hO ha1 hS) rfl hl.1 (Nat.le_of_ble_eq_true rfl) dX7_isWord_39 (fun z_39 H locs hq hS => ?_)
      obtain ⟨hz_39, hH⟩ := hq
      have hH : TH E (tbM (mD (.inl (t, t)) (.inl (g_2, g_2)) (.inl nu) (.inl un) (.inl tk) (.inl xt)) nw ws kp as rd sc) H := hH
      refine b_ne (tgt := 51) F dX7_isWord_42 (by decide) (fun c_40 => ?_) (fun c_40 => ?_)
      · skip
        exact J_51 () _ _ _ ⟨hH, hS, lv_sub hl [0, 1, 2, 3] rfl⟩
      · skip
        have r_41 : 0 ≤ z_36.toInt ∧ z_36.toInt ≤ 65535 := by have h9_ := f_37; omega
        obtain ⟨x_42, ex_42, hx_42⟩ := iincB (c := 1) (lo := 1) (hi := 6) r_34 rfl
        refine lv_iinc (v := x_42) (lv' := [(3, .int x_42), (0, .ref a0), (1, .ref (eX E t1)), (2, .int z_8)]) F.1 F.2.1 dX7_isWord_45 hl (k := 3) rfl ex_42 (by decide) rfl (fun ls hl => ?_)
        refine lv_goto (tgt := 22) F.1 F.2.1 dX7_isWord_48 (by decide) ?_
        exact ih_22 (x_42) _ _ _ ⟨(show (9 - x_42.toInt + 1).toNat < n_22 from by omega), (wkb hx_42.2 rfl rfl), hH, hS, lv_sub hl [1, 2, 3, 0] rfl⟩
  · skip
    have r_7 : (-1) ≤ z_1.toInt ∧ z_1.toInt ≤ (-1) := by have h9_ := f_3; omega
    refine lv_aload_n F.1 F.2.1 dX7_isWord_8 rfl (lv_at hl 0 rfl) ?_
    refine tGetI (j := 30) F hK hH (tyb ha0 (all1 rfl)) rfl clX7 (by decide) wd_7_21 dX7_isWord_9 (fun z_43 hz_43 => ?_)
    have ez_43 : 0 ≤ z_43.toInt ∧ z_43.toInt ≤ 400 := by omega
    refine lv_goto (tgt := 19) F.1 F.2.1 dX7_isWord_12 (by decide) ?_
    refine lv_istore_n (lv' := [(2, .int z_43), (0, .ref a0), (1, .ref (eX E t1))]) F.1 F.2.1 dX7_isWord_19 rfl hl (by decide) rfl (fun ls hl => ?_)
    refine lv_iconst (v := 0) F.1 F.2.1 dX7_isWord_20 (by decide) ?_
    refine topK (a := 0) (by decide) (fun k_44 hk_44 => ?_)
    refine lv_istore_n (lv' := [(3, .int k_44), (2, .int z_43), (0, .ref a0), (1, .ref (eX E t1))]) F.1 F.2.1 dX7_isWord_21 rfl hl (by decide) rfl (fun ls hl => ?_)
    refine wloop (σ := Int32) (fun n9 x9 H locs ls => (9 - x9.toInt + 1).toNat < n9 ∧ (0 ≤ x9.toInt ∧ x9.toInt ≤ 9) ∧ TH E (tbM (mD (.inl (t, t)) (.inl (g_2, g_2)) (.inl nu) (.inl un) (.inl tk) (.inl xt)) nw ws kp as rd sc) H ∧ va_S (eA E s.heap.size) s.heap H locs ∧ lv_has ls 4 [(0, .ref a0), (1, .ref (eX E t1)), (2, .int z_43), (3, .int x9)]) ?_ (fun x9 H locs ls h => absurd h.1 (Nat.not_lt_zero _)) _ (k_44) ⟨Nat.lt_succ_self _, (wkb (eqb hk_44) rfl rfl), hH, hS, lv_sub hl [2, 3, 1, 0] rfl⟩
    intro n_22 ih_22 u_45 H locs ls ⟨hm_22, hu_45, hH, hS, hl⟩
    have hm_22 : (9 - u_45.toInt + 1).toNat < n_22 + 1 := hm_22
    have hu_45 : (0 ≤ u_45.toInt ∧ u_45.toInt ≤ 9) := hu_45
    have hH : TH E (tbM (mD (.inl (t, t)) (.inl (g_2, g_2)) (.inl nu) (.inl un) (.inl tk) (.inl xt)) nw ws kp as rd sc) H := hH
    have hl : lv_has ls 4 [(0, .ref a0), (1, .ref (eX E t1)), (2, .int z_43), (3, .int u_45)] := hl
    refine lv_iload_n F.1 F.2.1 dX7_isWord_22 rfl (lv_at hl 3 rfl) ?_
    refine lv_aload_n F.1 F.2.1 dX7_isWord_23 rfl (lv_at hl 1 rfl) ?_
    refine tVi (b := (eX E t1)) (As := []) (rest := [.int u_45]) F hK hN hO (c_len E (fun H => TH E (tbM (mD (.inl (t, t)) (.inl (g_2, g_2)) (.inl nu) (.inl un) (.inl tk) (.inl xt)) nw ws kp as rd sc) H) t1 n1 ha1) mv_J0_length_8abf5 wd_16_16 ⟨Nat.le_of_ble_eq_true rfl, Nat.le_of_ble_eq_true rfl⟩ ⟨Nat.le_of_ble_eq_true rfl, Nat.le_of_ble_eq_true rfl⟩ hH hS (sRecvS hO ha1 hS) rfl hl.1 (Nat.le_of_ble_eq_true rfl) dX7_isWord_24 (fun z_46 H locs hq hS => ?_)
    obtain ⟨hz_46, hH⟩ := hq
    have hH : TH E (tbM (mD (.inl (t, t)) (.inl (g_2, g_2)) (.inl nu) (.inl un) (.inl tk) (.inl xt)) nw ws kp as rd sc) H := hH
    have ez_46 : 3 ≤ z_46.toInt ∧ z_46.toInt ≤ 6 := by have h9_ := strLe ha1; omega
    refine wjoin (σ := Unit) (pcj := 51) (stj := fun x9 => []) (fun x9 H locs ls => TH E (tbM (mD (.inl (t, t)) (.inl (g_2, g_2)) (.inl nu) (.inl un) (.inl tk) (.inl xt)) nw ws kp as rd sc) H ∧ va_S (eA E s.heap.size) s.heap H locs ∧ lv_has ls 4 [(0, .ref a0), (1, .ref (eX E t1)), (2, .int z_43), (3, .int u_45)]) (fun x9 H locs ls h_ => ?_) (fun J_51 => ?_)
    · skip
      obtain ⟨hH, hS, hl⟩ := h_
      have hH : TH E (tbM (mD (.inl (t, t)) (.inl (g_2, g_2)) (.inl nu) (.inl un) (.inl tk) (.inl xt)) nw ws kp as rd sc) H := hH
      have hl : lv_has ls 4 [(0, .ref a0), (1, .ref (eX E t1)), (2, .int z_43), (3, .int u_45)] := hl
      show W _ _ _ _ _ _ _ _ _ _ _ _ _ _ _ (F0 _ _ _ [])
      refine lv_iload_n F.1 F.2.1 dX7_isWord_51 rfl (lv_at hl 3 rfl) ?_
      refine lv_aload_n F.1 F.2.1 dX7_isWord_52 rfl (lv_at hl 1 rfl) ?_
      refine tVi (b := (eX E t1)) (As := []) (rest := [.int u_45]) F hK hN hO (c_len E (fun H => TH E (tbM (mD (.inl (t, t)) (.inl (g_2, g_2)) (.inl nu) (.inl un) (.inl tk) (.inl xt)) nw ws kp as rd sc) H) t1 n1 ha1) mv_J0_length_8abf5 wd_16_16 ⟨Nat.le_of_ble_eq_true rfl, Nat.le_of_ble_eq_true rfl⟩ ⟨Nat.le_of_ble_eq_true rfl, Nat.le_of_ble_eq_true rfl⟩ hH hS (sRecvS hO ha1 hS) rfl hl.1 (Nat.le_of_ble_eq_true rfl) dX7_isWord_53 (fun z_47 H locs hq hS => ?_)
      obtain ⟨hz_47, hH⟩ := hq
      have hH : TH E (tbM (mD (.inl (t, t)) (.inl (g_2, g_2)) (.inl nu) (.inl un) (.inl tk) (.inl xt)) nw ws kp as rd sc) H := hH
      have ez_47 : 3 ≤ z_47.toInt ∧ z_47.toInt ≤ 6 := by have h9_ := strLe ha1; omega
      refine b_ne (tgt := 83) F dX7_isWord_56 (by decide) (fun c_48 => ?_) (fun c_48 => ?_)
      · skip
        refine lv_iconst (v := 0) F.1 F.2.1 dX7_isWord_83 (by decide) ?_
        refine topK (a := 0) (by decide) (fun k_50 hk_50 => ?_)
        exact txI F hS dX7_isWord_84 (nar01 (wkb (eqb hk_50) rfl rfl)) (⟨g_2, ⟨by omega, by omega, by omega, by omega⟩, (wkb (eqb hk_50) rfl rfl), hH⟩)
      · skip
        have r_49 : 3 ≤ u_45.toInt ∧ u_45.toInt ≤ 6 := by have h9_ := hu_45; omega
        refine lv_aload_n F.1 F.2.1 dX7_isWord_59 rfl (lv_at hl 0 rfl) ?_
        refine lv_iload_n F.1 F.2.1 dX7_isWord_60 rfl (lv_at hl 2 rfl) ?_
        refine lv_iload_n F.1 F.2.1 dX7_isWord_61 rfl (lv_at hl 3 rfl) ?_
        refine tAdd (lo := 3) (hi := 406) F dX7_isWord_62 ez_43 r_49 rfl (fun z_51 hz_51 => ?_)
        refine tVi (b := a0) (As := [.int z_51]) (rest := []) F hK hN hO (c_X7_byteAt E nw ws kp as rd sc un tk xt (g_2, g_2) nu t a0 z_51 ha0 (wkb hz_51.2 rfl rfl) (by omega)) mv_X7_byteAt wd_16_2 ⟨Nat.le_of_ble_eq_true rfl, Nat.le_of_ble_eq_true rfl⟩ ⟨Nat.le_of_ble_eq_true rfl, Nat.le_of_ble_eq_true rfl⟩ hH hS (tRecv hK hH (tyb ha0 (all1 rfl)) clX7) rfl hl.1 (Nat.le_of_ble_eq_true rfl) dX7_isWord_63 (fun z_52 H locs hq hS => ?_)
        obtain ⟨f_53, f_54, hH⟩ := hq
        have hH : TH E (tbM (mD (.inl (t, t)) (.inl (g_2, g_2)) (.inl nu) (.inl un) (.inl tk) (.inl xt)) nw ws kp as rd sc) H := hH
        refine tI2l F dX7_isWord_66 (fun w_55 hw_55 => ?_)
        refine lv_ldc2 (own := RX7) (v := 97) F.1 F.2.1 F.2.2.2.2.1 (F.2.2.2.2.2.2.1 _ wd_16_14) dX7_isWord_67 ?_
        refine topKL (a := 97) (by decide) (fun j_56 hj_56 => ?_)
        refine lv_ldc2 (own := RX7) (v := 122) F.1 F.2.1 F.2.2.2.2.1 (F.2.2.2.2.2.2.1 _ wd_16_15) dX7_isWord_70 ?_
        refine topKL (a := 122) (by decide) (fun j_57 hj_57 => ?_)
        refine tSi (As := [.long w_55, .long j_56, .long j_57]) (rest := []) F hK hN hO (c_X7_in E (mD (.inl (t, t)) (.inl (g_2, g_2)) (.inl nu) (.inl un) (.inl tk) (.inl xt)) nw ws kp as rd sc w_55 j_56 j_57) ms_X7_in wd_8_10 ⟨Nat.le_of_ble_eq_true rfl, Nat.le_of_ble_eq_true rfl⟩ ⟨Nat.le_of_ble_eq_true rfl, Nat.le_of_ble_eq_true rfl⟩ hH hS rfl hl.1 (Nat.le_of_ble_eq_true rfl) dX7_isWord_73 (fun z_58 H locs hq hS => ?_)
        obtain ⟨f_59, f_60, hH⟩ := hq
        have hH : TH E (tbM (mD (.inl (t, t)) (.inl (g_2, g_2)) (.inl nu) (.inl un) (.inl tk) (.inl xt)) nw ws kp as rd sc) H := hH
        refine z_ne (tgt := 83) F dX7_isWord_76 (by decide) (fun c_61 => ?_) (fun c_61 => ?_)
        · skip
          have r_62 : 1 ≤ z_58.toInt ∧ z_58.toInt ≤ 1 := by have h9_ := f_59; omega
          have r_63 : 97 ≤ z_52.toInt ∧ z_52.toInt ≤ 122 := by have h9_ := f_53; omega
          refine lv_iconst (v := 0) F.1 F.2.1 dX7_isWord_83 (by decide) ?_
          refine topK (a := 0) (by decide) (fun k_65 hk_65 => ?_)
          exact txI F hS dX7_isWord_84 (nar01 (wkb (eqb hk_65) rfl rfl)) (⟨g_2, ⟨by omega, by omega, by omega, by omega⟩, (wkb (eqb hk_65) rfl rfl), hH⟩)
        · skip
          have r_64 : 0 ≤ z_58.toInt ∧ z_58.toInt ≤ 0 := by have h9_ := f_59; omega
          refine lv_iconst (v := 1) F.1 F.2.1 dX7_isWord_79 (by decide) ?_
          refine topK (a := 1) (by decide) (fun k_66 hk_66 => ?_)
          refine lv_goto (tgt := 84) F.1 F.2.1 dX7_isWord_80 (by decide) ?_
          exact txI F hS dX7_isWord_84 (nar01 (wkb (eqb hk_66) rfl rfl)) (⟨g_2, ⟨by omega, by omega, by omega, by omega⟩, (wkb (eqb hk_66) rfl rfl), hH⟩)
    refine b_ge (tgt := 51) F dX7_isWord_27 (by decide) (fun c_67 => ?_) (fun c_67 => ?_)
    · skip
      have r_68 : 3 ≤ u_45.toInt ∧ u_45.toInt ≤ 9 := by have h9_ := hu_45; omega
      exact J_51 () _ _ _ ⟨hH, hS, lv_sub hl [0, 1, 2, 3] rfl⟩
    · skip
      have r_69 : 0 ≤ u_45.toInt ∧ u_45.toInt ≤ 5 := by have h9_ := hu_45; omega
      refine lv_aload_n F.1 F.2.1 dX7_isWord_30 rfl (lv_at hl 0 rfl) ?_
      refine lv_iload_n F.1 F.2.1 dX7_isWord_31 rfl (lv_at hl 2 rfl) ?_
      refine lv_iload_n F.1 F.2.1 dX7_isWord_32 rfl (lv_at hl 3 rfl) ?_
      refine tAdd (lo := 0) (hi := 405) F dX7_isWord_33 ez_43 r_69 rfl (fun z_70 hz_70 => ?_)
      refine tVi (b := a0) (As := [.int z_70]) (rest := []) F hK hN hO (c_X7_byteAt E nw ws kp as rd sc un tk xt (g_2, g_2) nu t a0 z_70 ha0 (wkb hz_70.2 rfl rfl) (by omega)) mv_X7_byteAt wd_16_2 ⟨Nat.le_of_ble_eq_true rfl, Nat.le_of_ble_eq_true rfl⟩ ⟨Nat.le_of_ble_eq_true rfl, Nat.le_of_ble_eq_true rfl⟩ hH hS (tRecv hK hH (tyb ha0 (all1 rfl)) clX7) rfl hl.1 (Nat.le_of_ble_eq_true rfl) dX7_isWord_34 (fun z_71 H locs hq hS => ?_)
      obtain ⟨f_72, f_73, hH⟩ := hq
      have hH : TH E (tbM (mD (.inl (t, t)) (.inl (g_2, g_2)) (.inl nu) (.inl un) (.inl tk) (.inl xt)) nw ws kp as rd sc) H := hH
      refine lv_aload_n F.1 F.2.1 dX7_isWord_37 rfl (lv_at hl 1 rfl) ?_
      refine lv_iload_n F.1 F.2.1 dX7_isWord_38 rfl (lv_at hl 3 rfl) ?_
      refine tVi (b := (eX E t1)) (As := [.int u_45]) (rest := [.int z_71]) F hK hN hO (c_chr E (fun H => TH E (tbM (mD (.inl (t, t)) (.inl (g_2, g_2)) (.inl nu) (.inl un) (.inl tk) (.inl xt)) nw ws kp as rd sc) H) t1 n1 ha1 u_45 (by omega) (by omega)) mv_J0_charAt_5068e wd_16_17 ⟨Nat.le_of_ble_eq_true rfl, Nat.le_of_ble_eq_true rfl⟩ ⟨Nat.le_of_ble_eq_true rfl, Nat.le_of_ble_eq_true rfl⟩ hH hS (sRecvS hO ha1 hS) rfl hl.1 (Nat.le_of_ble_eq_true rfl) dX7_isWord_39 (fun z_74 H locs hq hS => ?_)
      obtain ⟨hz_74, hH⟩ := hq
      have hH : TH E (tbM (mD (.inl (t, t)) (.inl (g_2, g_2)) (.inl nu) (.inl un) (.inl tk) (.inl xt)) nw ws kp as rd sc) H := hH
      refine b_ne (tgt := 51) F dX7_isWord_42 (by decide) (fun c_75 => ?_) (fun c_75 => ?_)
      · skip
        exact J_51 () _ _ _ ⟨hH, hS, lv_sub hl [0, 1, 2, 3] rfl⟩
      · skip
        have r_76 : 0 ≤ z_71.toInt ∧ z_71.toInt ≤ 65535 := by have h9_ := f_72; omega
        obtain ⟨x_77, ex_77, hx_77⟩ := iincB (c := 1) (lo := 1) (hi := 6) r_69 rfl
        refine lv_iinc (v := x_77) (lv' := [(3, .int x_77), (0, .ref a0), (1, .ref (eX E t1)), (2, .int z_43)]) F.1 F.2.1 dX7_isWord_45 hl (k := 3) rfl ex_77 (by decide) rfl (fun ls hl => ?_)
        refine lv_goto (tgt := 22) F.1 F.2.1 dX7_isWord_48 (by decide) ?_
        exact ih_22 (x_77) _ _ _ ⟨(show (9 - x_77.toInt + 1).toNat < n_22 from by omega), (wkb hx_77.2 rfl rfl), hH, hS, lv_sub hl [1, 2, 3, 0] rfl⟩
set_option maxHeartbeats 4000000 in
set_option maxRecDepth 100000 in
theorem c_X7_takesWord (E : Ev) (nw : TD) (ws : TD) (kp : TD) (as : TD) (rd : TD) (sc : TD) (un : Int × Int) (tk : Int × Int) (xt : Int × Int) (nu : Int × Int) (t : Int) (p : Int) (b : Int) (a0 : Nat) (t1 n1 : Nat) (ha0 : eT E a0 ∈ [24]) (ha1 : strOf t1 n1) (ht : 0 ≤ t ∧ t ≤ 400) (hp : 0 ≤ p ∧ p ≤ 4000) (hb : p ≤ b ∧ 400 ≤ b ∧ b ≤ 4000) : TcI E yX7_takesWord cX7_takesWord 3 .boolean ({ frames := 6, cells := 0, slots := 0, locals := 204 }) [.ref a0, .ref (eX E t1)] (fun H => TH E (tbM (mD (.inl (t, t)) (.inl (p, p)) (.inl nu) (.inl un) (.inl tk) (.inl xt)) nw ws kp as rd sc) H) (fun v H => ∃ p2 : Int, (0 ≤ p2 ∧ p2 ≤ 5000 ∧ p ≤ p2 ∧ p2 ≤ b + 6) ∧ (0 ≤ v.toInt ∧ v.toInt ≤ 1) ∧ TH E (tbM (mD (.inl (t, t)) (.inl (p2, p2)) (.inl nu) (.inl un) (.inl tk) (.inl xt)) nw ws kp as rd sc) H) := by
  refine teI (by decide) (Nat.le_of_ble_eq_true rfl) ?_
  intro p_ ev_ s mi_ below_ meth cd_ ls F hK hN hO hH hS hl
  have hH : TH E (tbM (mD (.inl (t, t)) (.inl (p, p)) (.inl nu) (.inl un) (.inl tk) (.inl xt)) nw ws kp as rd sc) s.heap := hH
  have hl : lv_has ls 3 [(0, .ref a0), (1, .ref (eX E t1))] := hl
  refine lv_aload_n F.1 F.2.1 dX7_takesWord_0 rfl (lv_at hl 0 rfl) ?_
  refine lv_aload_n F.1 F.2.1 dX7_takesWord_1 rfl (lv_at hl 1 rfl) ?_
  refine tVi (b := a0) (As := [.ref (eX E t1)]) (rest := []) F hK hN hO (c_X7_isWord E nw ws kp as rd sc un tk xt nu t p b a0 t1 n1 ha0 ha1 (by omega) (by omega) (by omega)) mv_X7_isWord wd_16_10 ⟨Nat.le_of_ble_eq_true rfl, Nat.le_of_ble_eq_true rfl⟩ ⟨Nat.le_of_ble_eq_true rfl, Nat.le_of_ble_eq_true rfl⟩ hH hS (tRecv hK hH (tyb ha0 (all1 rfl)) clX7) rfl hl.1 (Nat.le_of_ble_eq_true rfl) dX7_takesWord_2 (fun z_1 H locs hq hS => ?_)
  obtain ⟨g_2, hg_2, f_3, hH⟩ := hq
  have hH : TH E (tbM (mD (.inl (t, t)) (.inl (g_2, g_2)) (.inl nu) (.inl un) (.inl tk) (.inl xt)) nw ws kp as rd sc) H := hH
  refine lv_istore_n (lv' := [(2, .int z_1), (0, .ref a0), (1, .ref (eX E t1))]) F.1 F.2.1 dX7_takesWord_5 rfl hl (by decide) rfl (fun ls hl => ?_)
  refine lv_iload_n F.1 F.2.1 dX7_takesWord_6 rfl (lv_at hl 0 rfl) ?_
  refine z_eq (tgt := 23) F dX7_takesWord_7 (by decide) (fun c_4 => ?_) (fun c_4 => ?_)
  · skip
    have r_5 : 0 ≤ z_1.toInt ∧ z_1.toInt ≤ 0 := by have h9_ := f_3; omega
    refine lv_iload_n F.1 F.2.1 dX7_takesWord_23 rfl (lv_at hl 0 rfl) ?_
    exact txI F hS dX7_takesWord_24 (nar01 (wkb r_5 rfl rfl)) (⟨g_2, ⟨by omega, by omega, by omega, by omega⟩, (wkb r_5 rfl rfl), hH⟩)
  · skip
    have r_6 : 1 ≤ z_1.toInt ∧ z_1.toInt ≤ 1 := by have h9_ := f_3; omega
    refine lv_aload_n F.1 F.2.1 dX7_takesWord_10 rfl (lv_at hl 1 rfl) ?_
    refine lv_dup F.1 F.2.1 dX7_takesWord_11 rfl ?_
    refine tGetI (j := 31) F hK hH (tyb ha0 (all1 rfl)) rfl clX7 (by decide) wd_15_21 dX7_takesWord_12 (fun z_7 hz_7 => ?_)
    have ez_7 : 0 ≤ z_7.toInt ∧ z_7.toInt ≤ 5000 := by omega
    refine lv_aload_n F.1 F.2.1 dX7_takesWord_15 rfl (lv_at hl 2 rfl) ?_
    refine tVi (b := (eX E t1)) (As := []) (rest := [.int z_7, .ref a0]) F hK hN hO (c_len E (fun H => TH E (tbM (mD (.inl (t, t)) (.inl (g_2, g_2)) (.inl nu) (.inl un) (.inl tk) (.inl xt)) nw ws kp as rd sc) H) t1 n1 ha1) mv_J0_length_8abf5 wd_16_16 ⟨Nat.le_of_ble_eq_true rfl, Nat.le_of_ble_eq_true rfl⟩ ⟨Nat.le_of_ble_eq_true rfl, Nat.le_of_ble_eq_true rfl⟩ hH hS (sRecvS hO ha1 hS) rfl hl.1 (Nat.le_of_ble_eq_true rfl) dX7_takesWord_16 (fun z_8 H locs hq hS => ?_)
    obtain ⟨hz_8, hH⟩ := hq
    have hH : TH E (tbM (mD (.inl (t, t)) (.inl (g_2, g_2)) (.inl nu) (.inl un) (.inl tk) (.inl xt)) nw ws kp as rd sc) H := hH
    have ez_8 : 3 ≤ z_8.toInt ∧ z_8.toInt ≤ 6 := by have h9_ := strLe ha1; omega
    refine tAdd (lo := 3) (hi := 5006) F dX7_takesWord_19 ez_7 ez_8 rfl (fun z_9 hz_9 => ?_)
    obtain ⟨g_10, hg_10⟩ : ∃ y : Int, z_9.toInt = y := ⟨_, rfl⟩
    have bg_10 : 3 ≤ g_10 ∧ g_10 ≤ 5006 := by rw [← hg_10]; exact hz_9.2
    refine tPutG (j := 31) (t := 24) (fd := (.inl (g_10, g_10))) F hK hH hS (List.mem_singleton.mp ha0) (by decide) rfl rfl (fdI (by omega)) (TB1 := (tbM (mD (.inl (t, t)) (.inl (g_10, g_10)) (.inl nu) (.inl un) (.inl tk) (.inl xt)) nw ws kp as rd sc)) rfl clX7 (by decide) wd_15_21 rfl rfl rfl rfl dX7_takesWord_20 (fun H locs hH hS => ?_)
    refine lv_iload_n F.1 F.2.1 dX7_takesWord_23 rfl (lv_at hl 0 rfl) ?_
    exact txI F hS dX7_takesWord_24 (nar01 (wkb r_6 rfl rfl)) (⟨g_10, ⟨by omega, by omega, by omega, by omega⟩, (wkb r_6 rfl rfl), hH⟩)
set_option maxHeartbeats 4000000 in
set_option maxRecDepth 100000 in
theorem c_X7_mustWord (E : Ev) (nw : TD) (ws : TD) (kp : TD) (as : TD) (rd : TD) (sc : TD) (un : Int × Int) (tk : Int × Int) (xt : Int × Int) (nu : Int × Int) (t : Int) (p : Int) (b : Int) (a0 : Nat) (t1 n1 : Nat) (ha0 : eT E a0 ∈ [24]) (ha1 : strOf t1 n1) (ht : 0 ≤ t ∧ t ≤ 400) (hp : 0 ≤ p ∧ p ≤ 4000) (hb : p ≤ b ∧ 400 ≤ b ∧ b ≤ 4000) : TcI E yX7_mustWord cX7_mustWord 2 .boolean ({ frames := 7, cells := 0, slots := 0, locals := 226 }) [.ref a0, .ref (eX E t1)] (fun H => TH E (tbM (mD (.inl (t, t)) (.inl (p, p)) (.inl nu) (.inl un) (.inl tk) (.inl xt)) nw ws kp as rd sc) H) (fun v H => ∃ p2 : Int, (0 ≤ p2 ∧ p2 ≤ 5000 ∧ p ≤ p2 ∧ p2 ≤ b + 6) ∧ (0 ≤ v.toInt ∧ v.toInt ≤ 1) ∧ TH E (tbM (mD (.inl (t, t)) (.inl (p2, p2)) (.inl nu) (.inl un) (.inl tk) (.inl xt)) nw ws kp as rd sc) H) := by
  refine teI (by decide) (Nat.le_of_ble_eq_true rfl) ?_
  intro p_ ev_ s mi_ below_ meth cd_ ls F hK hN hO hH hS hl
  have hH : TH E (tbM (mD (.inl (t, t)) (.inl (p, p)) (.inl nu) (.inl un) (.inl tk) (.inl xt)) nw ws kp as rd sc) s.heap := hH
  have hl : lv_has ls 2 [(0, .ref a0), (1, .ref (eX E t1))] := hl
  refine lv_aload_n F.1 F.2.1 dX7_mustWord_0 rfl (lv_at hl 0 rfl) ?_
  refine lv_aload_n F.1 F.2.1 dX7_mustWord_1 rfl (lv_at hl 1 rfl) ?_
  refine tVi (b := a0) (As := [.ref (eX E t1)]) (rest := []) F hK hN hO (c_X7_takesWord E nw ws kp as rd sc un tk xt nu t p b a0 t1 n1 ha0 ha1 (by omega) (by omega) (by omega)) mv_X7_takesWord wd_17_6 ⟨Nat.le_of_ble_eq_true rfl, Nat.le_of_ble_eq_true rfl⟩ ⟨Nat.le_of_ble_eq_true rfl, Nat.le_of_ble_eq_true rfl⟩ hH hS (tRecv hK hH (tyb ha0 (all1 rfl)) clX7) rfl hl.1 (Nat.le_of_ble_eq_true rfl) dX7_mustWord_2 (fun z_1 H locs hq hS => ?_)
  obtain ⟨g_2, hg_2, f_3, hH⟩ := hq
  have hH : TH E (tbM (mD (.inl (t, t)) (.inl (g_2, g_2)) (.inl nu) (.inl un) (.inl tk) (.inl xt)) nw ws kp as rd sc) H := hH
  refine z_ne (tgt := 20) F dX7_mustWord_5 (by decide) (fun c_4 => ?_) (fun c_4 => ?_)
  · skip
    have r_5 : 1 ≤ z_1.toInt ∧ z_1.toInt ≤ 1 := by have h9_ := f_3; omega
    refine lv_iconst (v := 1) F.1 F.2.1 dX7_mustWord_20 (by decide) ?_
    refine topK (a := 1) (by decide) (fun k_7 hk_7 => ?_)
    refine lv_goto (tgt := 25) F.1 F.2.1 dX7_mustWord_21 (by decide) ?_
    exact txI F hS dX7_mustWord_25 (nar01 (wkb (eqb hk_7) rfl rfl)) (⟨g_2, ⟨by omega, by omega, by omega, by omega⟩, (wkb (eqb hk_7) rfl rfl), hH⟩)
  · skip
    have r_6 : 0 ≤ z_1.toInt ∧ z_1.toInt ≤ 0 := by have h9_ := f_3; omega
    refine lv_aload_n F.1 F.2.1 dX7_mustWord_8 rfl (lv_at hl 0 rfl) ?_
    refine lv_iconst (v := 1) F.1 F.2.1 dX7_mustWord_9 (by decide) ?_
    refine topK (a := 1) (by decide) (fun k_8 hk_8 => ?_)
    refine lv_aload_n F.1 F.2.1 dX7_mustWord_10 rfl (lv_at hl 0 rfl) ?_
    refine tGetI (j := 31) F hK hH (tyb ha0 (all1 rfl)) rfl clX7 (by decide) wd_15_21 dX7_mustWord_11 (fun z_9 hz_9 => ?_)
    have ez_9 : 0 ≤ z_9.toInt ∧ z_9.toInt ≤ 5000 := by omega
    refine tVi (b := a0) (As := [.int k_8, .int z_9]) (rest := []) F hK hN hO (c_X7_fails E nw ws kp as rd sc un tk xt (t, t) (g_2, g_2) nu a0 k_8 z_9 ha0) mv_X7_fails wd_17_2 ⟨Nat.le_of_ble_eq_true rfl, Nat.le_of_ble_eq_true rfl⟩ ⟨Nat.le_of_ble_eq_true rfl, Nat.le_of_ble_eq_true rfl⟩ hH hS (tRecv hK hH (tyb ha0 (all1 rfl)) clX7) rfl hl.1 (Nat.le_of_ble_eq_true rfl) dX7_mustWord_14 (fun z_10 H locs hq hS => ?_)
    obtain ⟨f_11, hH⟩ := hq
    have hH : TH E (tbM (mD (.inl (t, t)) (.inl (g_2, g_2)) (.inl nu) (.inl un) (.inl tk) (.inl xt)) nw ws kp as rd sc) H := hH
    refine z_eq (tgt := 24) F dX7_mustWord_17 (by decide) (fun c_12 => ?_) (fun c_12 => absurd c_12 (by omega))
    refine lv_iconst (v := 0) F.1 F.2.1 dX7_mustWord_24 (by decide) ?_
    refine topK (a := 0) (by decide) (fun k_13 hk_13 => ?_)
    exact txI F hS dX7_mustWord_25 (nar01 (wkb (eqb hk_13) rfl rfl)) (⟨g_2, ⟨by omega, by omega, by omega, by omega⟩, (wkb (eqb hk_13) rfl rfl), hH⟩)
set_option maxHeartbeats 4000000 in
set_option maxRecDepth 100000 in
theorem c_X7_readsNumber (E : Ev) (nw : TD) (ws : TD) (kp : TD) (as : TD) (rd : TD) (sc : TD) (un : Int × Int) (tk : Int × Int) (xt : Int × Int) (t : Int) (p : Int) (nu : Int) (b : Int) (a0 : Nat) (a1 : Int32) (a2 : Int32) (ha0 : eT E a0 ∈ [24]) (ht : 0 ≤ t ∧ t ≤ 400) (hp : 0 ≤ p ∧ p ≤ 4000) (hnu : (-2147483648) ≤ nu ∧ nu ≤ 2147483647) (hb : p ≤ b ∧ 400 ≤ b ∧ b ≤ 4000) : TcI E yX7_readsNumber cX7_readsNumber 3 .boolean ({ frames := 3, cells := 0, slots := 0, locals := 81 }) [.ref a0, .int a1, .int a2] (fun H => TH E (tbM (mD (.inl (t, t)) (.inl (p, p)) (.inl (nu, nu)) (.inl un) (.inl tk) (.inl xt)) nw ws kp as rd sc) H) (fun v H => ∃ p2 : Int, (0 ≤ p2 ∧ p2 ≤ 5000 ∧ p ≤ p2 ∧ p2 ≤ b + 0) ∧ ∃ nu2 : Int, ((-2147483648) ≤ nu2 ∧ nu2 ≤ 2147483647) ∧ (0 ≤ v.toInt ∧ v.toInt ≤ 1) ∧ (v.toInt = 1 → a1.toInt ≤ nu2 ∧ nu2 ≤ a2.toInt) ∧ TH E (tbM (mD (.inl (t, t)) (.inl (p2, p2)) (.inl (nu2, nu2)) (.inl un) (.inl tk) (.inl xt)) nw ws kp as rd sc) H) := by
  refine teI (by decide) (Nat.le_of_ble_eq_true rfl) ?_
  intro p_ ev_ s mi_ below_ meth cd_ ls F hK hN hO hH hS hl
  have hH : TH E (tbM (mD (.inl (t, t)) (.inl (p, p)) (.inl (nu, nu)) (.inl un) (.inl tk) (.inl xt)) nw ws kp as rd sc) s.heap := hH
  have hl : lv_has ls 3 [(0, .ref a0), (1, .int a1), (2, .int a2)] := hl
  refine lv_aload_n F.1 F.2.1 dX7_readsNumber_0 rfl (lv_at hl 0 rfl) ?_
  refine tVi (b := a0) (As := []) (rest := []) F hK hN hO (c_X7_nextByte E nw ws kp as rd sc un tk xt (nu, nu) t p b a0 ha0 (by omega) (by omega) (by omega)) mv_X7_nextByte wd_15_22 ⟨Nat.le_of_ble_eq_true rfl, Nat.le_of_ble_eq_true rfl⟩ ⟨Nat.le_of_ble_eq_true rfl, Nat.le_of_ble_eq_true rfl⟩ hH hS (tRecv hK hH (tyb ha0 (all1 rfl)) clX7) rfl hl.1 (Nat.le_of_ble_eq_true rfl) dX7_readsNumber_1 (fun z_1 H locs hq hS => ?_)
  obtain ⟨g_2, hg_2, f_3, f_4, hH⟩ := hq
  have hH : TH E (tbM (mD (.inl (t, t)) (.inl (g_2, g_2)) (.inl (nu, nu)) (.inl un) (.inl tk) (.inl xt)) nw ws kp as rd sc) H := hH
  refine tI2l F dX7_readsNumber_4 (fun w_5 hw_5 => ?_)
  refine lv_ldc2 (own := RX7) (v := 48) F.1 F.2.1 F.2.2.2.2.1 (F.2.2.2.2.2.2.1 _ wd_17_23) dX7_readsNumber_5 ?_
  refine topKL (a := 48) (by decide) (fun j_6 hj_6 => ?_)
  refine lv_ldc2 (own := RX7) (v := 57) F.1 F.2.1 F.2.2.2.2.1 (F.2.2.2.2.2.2.1 _ wd_18_0) dX7_readsNumber_8 ?_
  refine topKL (a := 57) (by decide) (fun j_7 hj_7 => ?_)
  refine tSi (As := [.long w_5, .long j_6, .long j_7]) (rest := []) F hK hN hO (c_X7_in E (mD (.inl (t, t)) (.inl (g_2, g_2)) (.inl (nu, nu)) (.inl un) (.inl tk) (.inl xt)) nw ws kp as rd sc w_5 j_6 j_7) ms_X7_in wd_8_10 ⟨Nat.le_of_ble_eq_true rfl, Nat.le_of_ble_eq_true rfl⟩ ⟨Nat.le_of_ble_eq_true rfl, Nat.le_of_ble_eq_true rfl⟩ hH hS rfl hl.1 (Nat.le_of_ble_eq_true rfl) dX7_readsNumber_11 (fun z_8 H locs hq hS => ?_)
  obtain ⟨f_9, f_10, hH⟩ := hq
  have hH : TH E (tbM (mD (.inl (t, t)) (.inl (g_2, g_2)) (.inl (nu, nu)) (.inl un) (.inl tk) (.inl xt)) nw ws kp as rd sc) H := hH
  refine z_ne (tgt := 27) F dX7_readsNumber_14 (by decide) (fun c_11 => ?_) (fun c_11 => ?_)
  · skip
    have r_12 : 1 ≤ z_8.toInt ∧ z_8.toInt ≤ 1 := by have h9_ := f_9; omega
    have r_13 : 48 ≤ z_1.toInt ∧ z_1.toInt ≤ 57 := by have h9_ := f_3; omega
    refine lv_aload_n F.1 F.2.1 dX7_readsNumber_27 rfl (lv_at hl 0 rfl) ?_
    refine lv_aload_n F.1 F.2.1 dX7_readsNumber_28 rfl (lv_at hl 0 rfl) ?_
    refine tGetI (j := 31) F hK hH (tyb ha0 (all1 rfl)) rfl clX7 (by decide) wd_15_21 dX7_readsNumber_29 (fun z_15 hz_15 => ?_)
    have ez_15 : 0 ≤ z_15.toInt ∧ z_15.toInt ≤ 5000 := by omega
    refine tPut (j := 34) F hK hH hS (tyb ha0 (all1 rfl)) rfl (fdI (wkb ez_15 rfl rfl)) clX7 (by decide) wd_18_1 rfl rfl rfl rfl dX7_readsNumber_32 (fun H locs hH hS => ?_)
    refine lv_aload_n F.1 F.2.1 dX7_readsNumber_35 rfl (lv_at hl 0 rfl) ?_
    refine lv_iconst (v := 0) F.1 F.2.1 dX7_readsNumber_36 (by decide) ?_
    refine topK (a := 0) (by decide) (fun k_16 hk_16 => ?_)
    refine tPutG (j := 33) (t := 24) (fd := (.inl (0, 0))) F hK hH hS (List.mem_singleton.mp ha0) (by decide) rfl rfl (fdI (by omega)) (TB1 := (tbM (mD (.inl (t, t)) (.inl (g_2, g_2)) (.inl (0, 0)) (.inl un) (.inl tk) (.inl xt)) nw ws kp as rd sc)) rfl clX7 (by decide) wd_17_18 rfl rfl rfl rfl dX7_readsNumber_37 (fun H locs hH hS => ?_)
    refine wloop (σ := Int × Int) (fun n9 x9 H locs ls => (5000 - x9.1).toNat < n9 ∧ (0 ≤ x9.1 ∧ x9.1 ≤ 4000) ∧ ((-2147483648) ≤ x9.2 ∧ x9.2 ≤ 2147483647) ∧ (p ≤ x9.1) ∧ (x9.1 ≤ b) ∧ TH E (tbM (mD (.inl (t, t)) (.inl (x9.1, x9.1)) (.inl (x9.2, x9.2)) (.inl un) (.inl tk) (.inl xt)) nw ws kp as rd sc) H ∧ va_S (eA E s.heap.size) s.heap H locs ∧ lv_has ls 3 [(0, .ref a0), (1, .int a1), (2, .int a2)]) ?_ (fun x9 H locs ls h => absurd h.1 (Nat.not_lt_zero _)) _ (g_2, 0) ⟨Nat.lt_succ_self _, (show 0 ≤ g_2 ∧ g_2 ≤ 4000 from by omega), (show (-2147483648) ≤ 0 ∧ 0 ≤ 2147483647 from by omega), (show p ≤ g_2 from by omega), (show g_2 ≤ b from by omega), hH, hS, lv_sub hl [0, 1, 2] rfl⟩
    intro n_40 ih_40 ⟨g_17, g_18⟩ H locs ls ⟨hm_40, hg_17, hg_18, hcr40_0, hcr40_1, hH, hS, hl⟩
    have hm_40 : (5000 - g_17).toNat < n_40 + 1 := hm_40
    have hg_17 : (0 ≤ g_17 ∧ g_17 ≤ 4000) := hg_17
    have hg_18 : ((-2147483648) ≤ g_18 ∧ g_18 ≤ 2147483647) := hg_18
    have hcr40_0 : (p ≤ g_17) := hcr40_0
    have hcr40_1 : (g_17 ≤ b) := hcr40_1
    have hH : TH E (tbM (mD (.inl (t, t)) (.inl (g_17, g_17)) (.inl (g_18, g_18)) (.inl un) (.inl tk) (.inl xt)) nw ws kp as rd sc) H := hH
    have hl : lv_has ls 3 [(0, .ref a0), (1, .int a1), (2, .int a2)] := hl
    refine lv_aload_n F.1 F.2.1 dX7_readsNumber_40 rfl (lv_at hl 0 rfl) ?_
    refine lv_aload_n F.1 F.2.1 dX7_readsNumber_41 rfl (lv_at hl 0 rfl) ?_
    refine tGetI (j := 31) F hK hH (tyb ha0 (all1 rfl)) rfl clX7 (by decide) wd_15_21 dX7_readsNumber_42 (fun z_19 hz_19 => ?_)
    have ez_19 : 0 ≤ z_19.toInt ∧ z_19.toInt ≤ 4000 := by omega
    refine tVi (b := a0) (As := [.int z_19]) (rest := []) F hK hN hO (c_X7_byteAt E nw ws kp as rd sc un tk xt (g_17, g_17) (g_18, g_18) t a0 z_19 ha0 (wkb ez_19 rfl rfl) (by omega)) mv_X7_byteAt wd_16_2 ⟨Nat.le_of_ble_eq_true rfl, Nat.le_of_ble_eq_true rfl⟩ ⟨Nat.le_of_ble_eq_true rfl, Nat.le_of_ble_eq_true rfl⟩ hH hS (tRecv hK hH (tyb ha0 (all1 rfl)) clX7) rfl hl.1 (Nat.le_of_ble_eq_true rfl) dX7_readsNumber_45 (fun z_20 H locs hq hS => ?_)
    obtain ⟨f_21, f_22, hH⟩ := hq
    have hH : TH E (tbM (mD (.inl (t, t)) (.inl (g_17, g_17)) (.inl (g_18, g_18)) (.inl un) (.inl tk) (.inl xt)) nw ws kp as rd sc) H := hH
    refine tI2l F dX7_readsNumber_48 (fun w_23 hw_23 => ?_)
    refine lv_ldc2 (own := RX7) (v := 48) F.1 F.2.1 F.2.2.2.2.1 (F.2.2.2.2.2.2.1 _ wd_17_23) dX7_readsNumber_49 ?_
    refine topKL (a := 48) (by decide) (fun j_24 hj_24 => ?_)
    refine lv_ldc2 (own := RX7) (v := 57) F.1 F.2.1 F.2.2.2.2.1 (F.2.2.2.2.2.2.1 _ wd_18_0) dX7_readsNumber_52 ?_
    refine topKL (a := 57) (by decide) (fun j_25 hj_25 => ?_)
    refine tSi (As := [.long w_23, .long j_24, .long j_25]) (rest := []) F hK hN hO (c_X7_in E (mD (.inl (t, t)) (.inl (g_17, g_17)) (.inl (g_18, g_18)) (.inl un) (.inl tk) (.inl xt)) nw ws kp as rd sc w_23 j_24 j_25) ms_X7_in wd_8_10 ⟨Nat.le_of_ble_eq_true rfl, Nat.le_of_ble_eq_true rfl⟩ ⟨Nat.le_of_ble_eq_true rfl, Nat.le_of_ble_eq_true rfl⟩ hH hS rfl hl.1 (Nat.le_of_ble_eq_true rfl) dX7_readsNumber_55 (fun z_26 H locs hq hS => ?_)
    obtain ⟨f_27, f_28, hH⟩ := hq
    have hH : TH E (tbM (mD (.inl (t, t)) (.inl (g_17, g_17)) (.inl (g_18, g_18)) (.inl un) (.inl tk) (.inl xt)) nw ws kp as rd sc) H := hH
    refine z_eq (tgt := 107) F dX7_readsNumber_58 (by decide) (fun c_29 => ?_) (fun c_29 => ?_)
    · skip
      have r_30 : 0 ≤ z_26.toInt ∧ z_26.toInt ≤ 0 := by have h9_ := f_27; omega
      refine lv_aload_n F.1 F.2.1 dX7_readsNumber_107 rfl (lv_at hl 0 rfl) ?_
      refine tGetI (j := 33) F hK hH (tyb ha0 (all1 rfl)) rfl clX7 (by decide) wd_17_18 dX7_readsNumber_108 (fun z_33 hz_33 => ?_)
      have ez_33 : (-2147483648) ≤ z_33.toInt ∧ z_33.toInt ≤ 2147483647 := by omega
      refine tI2l F dX7_readsNumber_111 (fun w_34 hw_34 => ?_)
      refine lv_iload_n F.1 F.2.1 dX7_readsNumber_112 rfl (lv_at hl 1 rfl) ?_
      refine tI2l F dX7_readsNumber_113 (fun w_35 hw_35 => ?_)
      refine lv_iload_n F.1 F.2.1 dX7_readsNumber_114 rfl (lv_at hl 2 rfl) ?_
      refine tI2l F dX7_readsNumber_115 (fun w_36 hw_36 => ?_)
      refine tSi (As := [.long w_34, .long w_35, .long w_36]) (rest := []) F hK hN hO (c_X7_in E (mD (.inl (t, t)) (.inl (g_17, g_17)) (.inl (g_18, g_18)) (.inl un) (.inl tk) (.inl xt)) nw ws kp as rd sc w_34 w_35 w_36) ms_X7_in wd_8_10 ⟨Nat.le_of_ble_eq_true rfl, Nat.le_of_ble_eq_true rfl⟩ ⟨Nat.le_of_ble_eq_true rfl, Nat.le_of_ble_eq_true rfl⟩ hH hS rfl hl.1 (Nat.le_of_ble_eq_true rfl) dX7_readsNumber_116 (fun z_37 H locs hq hS => ?_)
      obtain ⟨f_38, f_39, hH⟩ := hq
      have hH : TH E (tbM (mD (.inl (t, t)) (.inl (g_17, g_17)) (.inl (g_18, g_18)) (.inl un) (.inl tk) (.inl xt)) nw ws kp as rd sc) H := hH
      refine z_ne (tgt := 134) F dX7_readsNumber_119 (by decide) (fun c_40 => ?_) (fun c_40 => ?_)
      · skip
        have r_41 : 1 ≤ z_37.toInt ∧ z_37.toInt ≤ 1 := by have h9_ := f_38; omega
        refine lv_iconst (v := 1) F.1 F.2.1 dX7_readsNumber_134 (by decide) ?_
        refine topK (a := 1) (by decide) (fun k_43 hk_43 => ?_)
        refine lv_goto (tgt := 139) F.1 F.2.1 dX7_readsNumber_135 (by decide) ?_
        exact txI F hS dX7_readsNumber_139 (nar01 (wkb (eqb hk_43) rfl rfl)) (⟨g_17, ⟨by omega, by omega, by omega, by omega⟩, g_18, (by omega), (wkb (eqb hk_43) rfl rfl), (by omega), hH⟩)
      · skip
        have r_42 : 0 ≤ z_37.toInt ∧ z_37.toInt ≤ 0 := by have h9_ := f_38; omega
        refine lv_aload_n F.1 F.2.1 dX7_readsNumber_122 rfl (lv_at hl 0 rfl) ?_
        refine lv_iconst (v := 2) F.1 F.2.1 dX7_readsNumber_123 (by decide) ?_
        refine topK (a := 2) (by decide) (fun k_44 hk_44 => ?_)
        refine lv_aload_n F.1 F.2.1 dX7_readsNumber_124 rfl (lv_at hl 0 rfl) ?_
        refine tGetI (j := 34) F hK hH (tyb ha0 (all1 rfl)) rfl clX7 (by decide) wd_18_1 dX7_readsNumber_125 (fun z_45 hz_45 => ?_)
        refine tVi (b := a0) (As := [.int k_44, .int z_45]) (rest := []) F hK hN hO (c_X7_fails E nw ws kp as rd sc un tk xt (t, t) (g_17, g_17) (g_18, g_18) a0 k_44 z_45 ha0) mv_X7_fails wd_17_2 ⟨Nat.le_of_ble_eq_true rfl, Nat.le_of_ble_eq_true rfl⟩ ⟨Nat.le_of_ble_eq_true rfl, Nat.le_of_ble_eq_true rfl⟩ hH hS (tRecv hK hH (tyb ha0 (all1 rfl)) clX7) rfl hl.1 (Nat.le_of_ble_eq_true rfl) dX7_readsNumber_128 (fun z_46 H locs hq hS => ?_)
        obtain ⟨f_47, hH⟩ := hq
        have hH : TH E (tbM (mD (.inl (t, t)) (.inl (g_17, g_17)) (.inl (g_18, g_18)) (.inl un) (.inl tk) (.inl xt)) nw ws kp as rd sc) H := hH
        refine z_eq (tgt := 138) F dX7_readsNumber_131 (by decide) (fun c_48 => ?_) (fun c_48 => absurd c_48 (by omega))
        refine lv_iconst (v := 0) F.1 F.2.1 dX7_readsNumber_138 (by decide) ?_
        refine topK (a := 0) (by decide) (fun k_49 hk_49 => ?_)
        exact txI F hS dX7_readsNumber_139 (nar01 (wkb (eqb hk_49) rfl rfl)) (⟨g_17, ⟨by omega, by omega, by omega, by omega⟩, g_18, (by omega), (wkb (eqb hk_49) rfl rfl), (by omega), hH⟩)
    · skip
      have r_31 : 1 ≤ z_26.toInt ∧ z_26.toInt ≤ 1 := by have h9_ := f_27; omega
      have r_32 : 48 ≤ z_20.toInt ∧ z_20.toInt ≤ 57 := by have h9_ := f_21; omega
      refine lv_aload_n F.1 F.2.1 dX7_readsNumber_61 rfl (lv_at hl 0 rfl) ?_
      refine tGetI (j := 33) F hK hH (tyb ha0 (all1 rfl)) rfl clX7 (by decide) wd_17_18 dX7_readsNumber_62 (fun z_50 hz_50 => ?_)
      have ez_50 : (-2147483648) ≤ z_50.toInt ∧ z_50.toInt ≤ 2147483647 := by omega
      refine lv_ldcw (own := RX7) (v := 10000000) F.1 F.2.1 F.2.2.2.2.1 (F.2.2.2.2.2.2.1 _ wd_18_2) dX7_readsNumber_65 ?_
      refine topK (a := 10000000) (by decide) (fun k_51 hk_51 => ?_)
      refine wjoin (σ := Int) (pcj := 94) (stj := fun x9 => []) (fun x9 H locs ls => ((-2147483648) ≤ x9 ∧ x9 ≤ 2147483647) ∧ TH E (tbM (mD (.inl (t, t)) (.inl (g_17, g_17)) (.inl (x9, x9)) (.inl un) (.inl tk) (.inl xt)) nw ws kp as rd sc) H ∧ va_S (eA E s.heap.size) s.heap H locs ∧ lv_has ls 3 [(0, .ref a0), (1, .int a1), (2, .int a2)]) (fun g_52 H locs ls h_ => ?_) (fun J_94 => ?_)
      · skip
        obtain ⟨hg_52, hH, hS, hl⟩ := h_
        have hg_52 : ((-2147483648) ≤ g_52 ∧ g_52 ≤ 2147483647) := hg_52
        have hH : TH E (tbM (mD (.inl (t, t)) (.inl (g_17, g_17)) (.inl (g_52, g_52)) (.inl un) (.inl tk) (.inl xt)) nw ws kp as rd sc) H := hH
        have hl : lv_has ls 3 [(0, .ref a0), (1, .int a1), (2, .int a2)] := hl
        show W _ _ _ _ _ _ _ _ _ _ _ _ _ _ _ (F0 _ _ _ [])
        refine lv_aload_n F.1 F.2.1 dX7_readsNumber_94 rfl (lv_at hl 0 rfl) ?_
        refine lv_dup F.1 F.2.1 dX7_readsNumber_95 rfl ?_
        refine tGetI (j := 31) F hK hH (tyb ha0 (all1 rfl)) rfl clX7 (by decide) wd_15_21 dX7_readsNumber_96 (fun z_53 hz_53 => ?_)
        have ez_53 : 0 ≤ z_53.toInt ∧ z_53.toInt ≤ 4000 := by omega
        refine lv_iconst (v := 1) F.1 F.2.1 dX7_readsNumber_99 (by decide) ?_
        refine topK (a := 1) (by decide) (fun k_54 hk_54 => ?_)
        refine tAdd (lo := 1) (hi := 4001) F dX7_readsNumber_100 ez_53 (eqb hk_54) rfl (fun z_55 hz_55 => ?_)
        obtain ⟨g_56, hg_56⟩ : ∃ y : Int, z_55.toInt = y := ⟨_, rfl⟩
        have bg_56 : 1 ≤ g_56 ∧ g_56 ≤ 4001 := by rw [← hg_56]; exact hz_55.2
        refine tPutG (j := 31) (t := 24) (fd := (.inl (g_56, g_56))) F hK hH hS (List.mem_singleton.mp ha0) (by decide) rfl rfl (fdI (by omega)) (TB1 := (tbM (mD (.inl (t, t)) (.inl (g_56, g_56)) (.inl (g_52, g_52)) (.inl un) (.inl tk) (.inl xt)) nw ws kp as rd sc)) rfl clX7 (by decide) wd_15_21 rfl rfl rfl rfl dX7_readsNumber_101 (fun H locs hH hS => ?_)
        refine lv_goto (tgt := 40) F.1 F.2.1 dX7_readsNumber_104 (by decide) ?_
        exact ih_40 (g_56, g_52) _ _ _ ⟨(show (5000 - g_56).toNat < n_40 from by omega), (show 0 ≤ g_56 ∧ g_56 ≤ 4000 from by omega), (show (-2147483648) ≤ g_52 ∧ g_52 ≤ 2147483647 from by omega), (show p ≤ g_56 from by omega), (show g_56 ≤ b from by omega), hH, hS, lv_sub hl [0, 1, 2] rfl⟩
      refine b_ge (tgt := 94) F dX7_readsNumber_68 (by decide) (fun c_57 => ?_) (fun c_57 => ?_)
      · skip
        have r_58 : 10000000 ≤ z_50.toInt ∧ z_50.toInt ≤ 2147483647 := by have h9_ := ez_50; omega
        exact J_94 (g_18) _ _ _ ⟨(show (-2147483648) ≤ g_18 ∧ g_18 ≤ 2147483647 from by omega), hH, hS, lv_sub hl [0, 1, 2] rfl⟩
      · skip
        have r_59 : (-2147483648) ≤ z_50.toInt ∧ z_50.toInt ≤ 9999999 := by have h9_ := ez_50; omega
        refine lv_aload_n F.1 F.2.1 dX7_readsNumber_71 rfl (lv_at hl 0 rfl) ?_
        refine lv_bipush (v := 10) F.1 F.2.1 dX7_readsNumber_72 (by decide) ?_
        refine topK (a := 10) (by decide) (fun k_60 hk_60 => ?_)
        refine lv_aload_n F.1 F.2.1 dX7_readsNumber_74 rfl (lv_at hl 0 rfl) ?_
        refine tGetI (j := 33) F hK hH (tyb ha0 (all1 rfl)) rfl clX7 (by decide) wd_17_18 dX7_readsNumber_75 (fun z_61 hz_61 => ?_)
        have ez_61 : (-2147483648) ≤ z_61.toInt ∧ z_61.toInt ≤ 9999999 := by omega
        refine lv_imul F.1 F.2.1 dX7_readsNumber_78 ?_
        refine topF (fun z_62 => ?_)
        refine lv_aload_n F.1 F.2.1 dX7_readsNumber_79 rfl (lv_at hl 0 rfl) ?_
        refine lv_aload_n F.1 F.2.1 dX7_readsNumber_80 rfl (lv_at hl 0 rfl) ?_
        refine tGetI (j := 31) F hK hH (tyb ha0 (all1 rfl)) rfl clX7 (by decide) wd_15_21 dX7_readsNumber_81 (fun z_63 hz_63 => ?_)
        have ez_63 : 0 ≤ z_63.toInt ∧ z_63.toInt ≤ 4000 := by omega
        refine tVi (b := a0) (As := [.int z_63]) (rest := [.int z_62, .ref a0]) F hK hN hO (c_X7_byteAt E nw ws kp as rd sc un tk xt (g_17, g_17) (g_18, g_18) t a0 z_63 ha0 (wkb ez_63 rfl rfl) (by omega)) mv_X7_byteAt wd_16_2 ⟨Nat.le_of_ble_eq_true rfl, Nat.le_of_ble_eq_true rfl⟩ ⟨Nat.le_of_ble_eq_true rfl, Nat.le_of_ble_eq_true rfl⟩ hH hS (tRecv hK hH (tyb ha0 (all1 rfl)) clX7) rfl hl.1 (Nat.le_of_ble_eq_true rfl) dX7_readsNumber_84 (fun z_64 H locs hq hS => ?_)
        obtain ⟨f_65, f_66, hH⟩ := hq
        have hH : TH E (tbM (mD (.inl (t, t)) (.inl (g_17, g_17)) (.inl (g_18, g_18)) (.inl un) (.inl tk) (.inl xt)) nw ws kp as rd sc) H := hH
        refine lv_iadd F.1 F.2.1 dX7_readsNumber_87 ?_
        refine topF (fun z_67 => ?_)
        refine lv_bipush (v := 48) F.1 F.2.1 dX7_readsNumber_88 (by decide) ?_
        refine topK (a := 48) (by decide) (fun k_68 hk_68 => ?_)
        refine lv_isub F.1 F.2.1 dX7_readsNumber_90 ?_
        refine topF (fun z_69 => ?_)
        obtain ⟨g_70, hg_70⟩ : ∃ y : Int, z_69.toInt = y := ⟨_, rfl⟩
        have bg_70 : (-2147483648) ≤ g_70 ∧ g_70 ≤ 2147483647 := by rw [← hg_70]; exact (i32b _)
        refine tPutG (j := 33) (t := 24) (fd := (.inl (g_70, g_70))) F hK hH hS (List.mem_singleton.mp ha0) (by decide) rfl rfl (fdI (by omega)) (TB1 := (tbM (mD (.inl (t, t)) (.inl (g_17, g_17)) (.inl (g_70, g_70)) (.inl un) (.inl tk) (.inl xt)) nw ws kp as rd sc)) rfl clX7 (by decide) wd_17_18 rfl rfl rfl rfl dX7_readsNumber_91 (fun H locs hH hS => ?_)
        exact J_94 (g_70) _ _ _ ⟨(show (-2147483648) ≤ g_70 ∧ g_70 ≤ 2147483647 from by omega), hH, hS, lv_sub hl [0, 1, 2] rfl⟩
  · skip
    have r_14 : 0 ≤ z_8.toInt ∧ z_8.toInt ≤ 0 := by have h9_ := f_9; omega
    refine lv_aload_n F.1 F.2.1 dX7_readsNumber_17 rfl (lv_at hl 0 rfl) ?_
    refine lv_iconst (v := 1) F.1 F.2.1 dX7_readsNumber_18 (by decide) ?_
    refine topK (a := 1) (by decide) (fun k_71 hk_71 => ?_)
    refine lv_aload_n F.1 F.2.1 dX7_readsNumber_19 rfl (lv_at hl 0 rfl) ?_
    refine tGetI (j := 31) F hK hH (tyb ha0 (all1 rfl)) rfl clX7 (by decide) wd_15_21 dX7_readsNumber_20 (fun z_72 hz_72 => ?_)
    have ez_72 : 0 ≤ z_72.toInt ∧ z_72.toInt ≤ 5000 := by omega
    refine tVi (b := a0) (As := [.int k_71, .int z_72]) (rest := []) F hK hN hO (c_X7_fails E nw ws kp as rd sc un tk xt (t, t) (g_2, g_2) (nu, nu) a0 k_71 z_72 ha0) mv_X7_fails wd_17_2 ⟨Nat.le_of_ble_eq_true rfl, Nat.le_of_ble_eq_true rfl⟩ ⟨Nat.le_of_ble_eq_true rfl, Nat.le_of_ble_eq_true rfl⟩ hH hS (tRecv hK hH (tyb ha0 (all1 rfl)) clX7) rfl hl.1 (Nat.le_of_ble_eq_true rfl) dX7_readsNumber_23 (fun z_73 H locs hq hS => ?_)
    obtain ⟨f_74, hH⟩ := hq
    have hH : TH E (tbM (mD (.inl (t, t)) (.inl (g_2, g_2)) (.inl (nu, nu)) (.inl un) (.inl tk) (.inl xt)) nw ws kp as rd sc) H := hH
    exact txI F hS dX7_readsNumber_26 (nar01 (wkb f_74 rfl rfl)) (⟨g_2, ⟨by omega, by omega, by omega, by omega⟩, nu, (by omega), (wkb f_74 rfl rfl), (by omega), hH⟩)
set_option maxHeartbeats 4000000 in
set_option maxRecDepth 100000 in
theorem c_X7_readsTo (E : Ev) (nw : TD) (ws : TD) (kp : TD) (as : TD) (sc : TD) (un : Int × Int) (tk : Int × Int) (xt : Int × Int) (t : Int) (p : Int) (nu : Int) (B : Nat → Int32) (b : Int) (a0 : Nat) (a1 : Int32) (a2 : Int32) (a3 : Int32) (ha0 : eT E a0 ∈ [24]) (ht : 0 ≤ t ∧ t ≤ 400) (hp : 0 ≤ p ∧ p ≤ 4000) (hnu : (-2147483648) ≤ nu ∧ nu ≤ 2147483647) (hB : okR B) (hb : p ≤ b ∧ 400 ≤ b ∧ b ≤ 4000) (hat : 0 ≤ a1.toInt ∧ a1.toInt < 660 ∧ a1.toInt ≠ 0 ∧ a1.toInt ≠ 1 ∧ a1.toInt ≠ 2 ∧ a1.toInt ≠ 3 ∧ (a1.toInt < 78 ∨ 260 ≤ a1.toInt ∨ (a1.toInt - 78) % 13 ≠ 6)) (hp : ∀ y : Int, a2.toInt ≤ y → y ≤ a3.toInt → phi a1.toInt y) (h6e : a1.toInt = 6 → a3.toInt < a2.toInt) : TcI E yX7_readsTo cX7_readsTo 4 .boolean ({ frames := 4, cells := 0, slots := 0, locals := 103 }) [.ref a0, .int a1, .int a2, .int a3] (fun H => TH E (tbM (mD (.inl (t, t)) (.inl (p, p)) (.inl (nu, nu)) (.inl un) (.inl tk) (.inl xt)) nw ws kp as (xD 660 B) sc) H) (fun v H => ∃ p2 : Int, (0 ≤ p2 ∧ p2 ≤ 5000 ∧ p ≤ p2 ∧ p2 ≤ b + 0) ∧ ∃ nu2 : Int, ((-2147483648) ≤ nu2 ∧ nu2 ≤ 2147483647) ∧ ∃ B2 : Nat → Int32, (okR B2 ∧ gI B2 0 = gI B 0 ∧ gI B2 1 = gI B 1 ∧ gI B2 2 = gI B 2 ∧ gI B2 6 = gI B 6 ∧ gI B2 3 = gI B 3) ∧ (0 ≤ v.toInt ∧ v.toInt ≤ 1) ∧ (v.toInt = 1 → a2.toInt ≤ a3.toInt) ∧ TH E (tbM (mD (.inl (t, t)) (.inl (p2, p2)) (.inl (nu2, nu2)) (.inl un) (.inl tk) (.inl xt)) nw ws kp as (xD 660 B2) sc) H) := by
  refine teI (by decide) (Nat.le_of_ble_eq_true rfl) ?_
  intro p_ ev_ s mi_ below_ meth cd_ ls F hK hN hO hH hS hl
  have hH : TH E (tbM (mD (.inl (t, t)) (.inl (p, p)) (.inl (nu, nu)) (.inl un) (.inl tk) (.inl xt)) nw ws kp as (xD 660 B) sc) s.heap := hH
  have hl : lv_has ls 4 [(0, .ref a0), (1, .int a1), (2, .int a2), (3, .int a3)] := hl
  have hBB := (okB hB.1).1
  refine lv_aload_n F.1 F.2.1 dX7_readsTo_0 rfl (lv_at hl 0 rfl) ?_
  refine lv_iload_n F.1 F.2.1 dX7_readsTo_1 rfl (lv_at hl 2 rfl) ?_
  refine lv_iload_n F.1 F.2.1 dX7_readsTo_2 rfl (lv_at hl 3 rfl) ?_
  refine tVi (b := a0) (As := [.int a2, .int a3]) (rest := []) F hK hN hO (c_X7_readsNumber E nw ws kp as (xD 660 B) sc un tk xt t p nu b a0 a2 a3 ha0 (by omega) (by omega) (by omega) (by omega)) mv_X7_readsNumber wd_17_19 ⟨Nat.le_of_ble_eq_true rfl, Nat.le_of_ble_eq_true rfl⟩ ⟨Nat.le_of_ble_eq_true rfl, Nat.le_of_ble_eq_true rfl⟩ hH hS (tRecv hK hH (tyb ha0 (all1 rfl)) clX7) rfl hl.1 (Nat.le_of_ble_eq_true rfl) dX7_readsTo_3 (fun z_1 H locs hq hS => ?_)
  obtain ⟨g_2, hg_2, g_3, hg_3, f_4, f_5, hH⟩ := hq
  have hH : TH E (tbM (mD (.inl (t, t)) (.inl (g_2, g_2)) (.inl (g_3, g_3)) (.inl un) (.inl tk) (.inl xt)) nw ws kp as (xD 660 B) sc) H := hH
  refine z_ne (tgt := 11) F dX7_readsTo_6 (by decide) (fun c_6 => ?_) (fun c_6 => ?_)
  · skip
    have r_7 : 1 ≤ z_1.toInt ∧ z_1.toInt ≤ 1 := by have h9_ := f_4; omega
    refine lv_aload_n F.1 F.2.1 dX7_readsTo_11 rfl (lv_at hl 0 rfl) ?_
    refine tGetR (j := 36) F hK hH (tyb ha0 (all1 rfl)) rfl (all1 rfl) clX7 (by decide) wd_7_5 dX7_readsTo_12 (fun q_9 hq_9 _ => ?_)
    refine lv_iload_n F.1 F.2.1 dX7_readsTo_15 rfl (lv_at hl 1 rfl) ?_
    refine lv_aload_n F.1 F.2.1 dX7_readsTo_16 rfl (lv_at hl 0 rfl) ?_
    refine tGetI (j := 33) F hK hH (tyb ha0 (all1 rfl)) rfl clX7 (by decide) wd_17_18 dX7_readsTo_17 (fun z_10 hz_10 => ?_)
    have ez_10 : (-2147483648) ≤ z_10.toInt ∧ z_10.toInt ≤ 2147483647 := by omega
    refine tIastX (t := 29) F hK hH hS (List.mem_singleton.mp hq_9) (by decide) rfl (by omega) dX7_readsTo_20 (fun G_11 eG_11 H locs hH hS => ?_)
    have hH : TH E (tbM (mD (.inl (t, t)) (.inl (g_2, g_2)) (.inl (g_3, g_3)) (.inl un) (.inl tk) (.inl xt)) nw ws kp as (xD 660 G_11) sc) H := hH
    have n0G_11 : gI G_11 0 = gI B 0 := gI_ne eG_11 (by omega) (by omega)
    have n1G_11 : gI G_11 1 = gI B 1 := gI_ne eG_11 (by omega) (by omega)
    have n2G_11 : gI G_11 2 = gI B 2 := gI_ne eG_11 (by omega) (by omega)
    have n6G_11 : gI G_11 6 = gI B 6 := gI_ne eG_11 (by omega) (by omega)
    have n3G_11 : gI G_11 3 = gI B 3 := gI_ne eG_11 (by omega) (by omega)
    have hG_11 : okR G_11 := (okR.stM hB eG_11 (by omega) (by omega) (by omega) (hp _ (by omega) (by omega)) (by omega))
    have hBG_11 := (okB hG_11.1).1
    refine lv_iconst (v := 1) F.1 F.2.1 dX7_readsTo_21 (by decide) ?_
    refine topK (a := 1) (by decide) (fun k_12 hk_12 => ?_)
    exact txI F hS dX7_readsTo_22 (nar01 (wkb (eqb hk_12) rfl rfl)) (⟨g_2, ⟨by omega, by omega, by omega, by omega⟩, g_3, (by omega), G_11, ⟨hG_11, by omega, by omega, by omega, by omega, by omega⟩, (wkb (eqb hk_12) rfl rfl), (by omega), hH⟩)
  · skip
    have r_8 : 0 ≤ z_1.toInt ∧ z_1.toInt ≤ 0 := by have h9_ := f_4; omega
    refine lv_iconst (v := 0) F.1 F.2.1 dX7_readsTo_9 (by decide) ?_
    refine topK (a := 0) (by decide) (fun k_13 hk_13 => ?_)
    exact txI F hS dX7_readsTo_10 (nar01 (wkb (eqb hk_13) rfl rfl)) (⟨g_2, ⟨by omega, by omega, by omega, by omega⟩, g_3, (by omega), B, ⟨hB, by omega, by omega, by omega, by omega, by omega⟩, (wkb (eqb hk_13) rfl rfl), (by omega), hH⟩)
set_option maxHeartbeats 4000000 in
set_option maxRecDepth 100000 in
theorem c_X7_begins_0 (E : Ev) (nw : TD) (ws : TD) (kp : TD) (as : TD) (sc : TD) (un : Int × Int) (tk : Int × Int) (xt : Int × Int) (nu : Int × Int) (t : Int) (p : Int) (B : Nat → Int32) (b : Int) (a0 : Nat) (t1 n1 : Nat) (a2 : Int32) (a3 : Int32) (ha0 : eT E a0 ∈ [24]) (ha1 : strOf t1 n1) (ha2 : 0 ≤ a2.toInt ∧ a2.toInt ≤ 0) (ha3 : 12 ≤ a3.toInt ∧ a3.toInt ≤ 12) (ht : 0 ≤ t ∧ t ≤ 400) (hp : 0 ≤ p ∧ p ≤ 4000) (hB : okR B) (hb : p ≤ b ∧ 400 ≤ b ∧ b ≤ 4000) : TcI E yX7_begins cX7_begins 4 .boolean ({ frames := 3, cells := 0, slots := 0, locals := 100 }) [.ref a0, .ref (eX E t1), .int a2, .int a3] (fun H => TH E (tbM (mD (.inl (t, t)) (.inl (p, p)) (.inl nu) (.inl un) (.inl tk) (.inl xt)) nw ws kp as (xD 660 B) sc) H) (fun v H => ∃ p2 : Int, (0 ≤ p2 ∧ p2 ≤ 5000 ∧ p ≤ p2 ∧ p2 ≤ b + 6) ∧ (0 ≤ v.toInt ∧ v.toInt ≤ 1) ∧ (v.toInt = 1 → gI B 0 ≠ 12) ∧ TH E (tbM (mD (.inl (t, t)) (.inl (p2, p2)) (.inl nu) (.inl un) (.inl tk) (.inl xt)) nw ws kp as (xD 660 B) sc) H) := by
  refine teI (by decide) (Nat.le_of_ble_eq_true rfl) ?_
  intro p_ ev_ s mi_ below_ meth cd_ ls F hK hN hO hH hS hl
  have hH : TH E (tbM (mD (.inl (t, t)) (.inl (p, p)) (.inl nu) (.inl un) (.inl tk) (.inl xt)) nw ws kp as (xD 660 B) sc) s.heap := hH
  have hl : lv_has ls 4 [(0, .ref a0), (1, .ref (eX E t1)), (2, .int a2), (3, .int a3)] := hl
  have hBB := (okB hB.1).1
  refine lv_aload_n F.1 F.2.1 dX7_begins_0 rfl (lv_at hl 0 rfl) ?_
  refine tGetR (j := 36) F hK hH (tyb ha0 (all1 rfl)) rfl (all1 rfl) clX7 (by decide) wd_7_5 dX7_begins_1 (fun q_1 hq_1 _ => ?_)
  refine lv_iload_n F.1 F.2.1 dX7_begins_4 rfl (lv_at hl 2 rfl) ?_
  refine tIaldX F hK hH (tyb hq_1 (all1 rfl)) (ixb (n := 660) ha2 rfl rfl) dX7_begins_5 (fun z_2 ez_2 => ?_)
  have gz_2 : z_2.toInt = gI B (0) := by unfold gI; rw [ez_2, show (a2).toNatClampNeg = (0) from by show (a2).toInt.toNat = _; omega]
  have hz_2 : 0 ≤ z_2.toInt ∧ z_2.toInt ≤ 12 := (by have h9_ := okA.at (i := a2) hB.1 (by omega); rw [show gI B (a2).toNatClampNeg = z_2.toInt from by unfold gI; rw [ez_2]] at h9_; have h8_ := phi_0 h9_ (by omega); omega)
  refine lv_iload_n F.1 F.2.1 dX7_begins_6 rfl (lv_at hl 3 rfl) ?_
  refine b_ne (tgt := 20) F dX7_begins_7 (by decide) (fun c_3 => ?_) (fun c_3 => ?_)
  · skip
    have r_4 : 0 ≤ z_2.toInt ∧ z_2.toInt ≤ 11 := by have h9_ := hz_2; omega
    refine lv_aload_n F.1 F.2.1 dX7_begins_20 rfl (lv_at hl 0 rfl) ?_
    refine lv_dup F.1 F.2.1 dX7_begins_21 rfl ?_
    refine tGetI (j := 31) F hK hH (tyb ha0 (all1 rfl)) rfl clX7 (by decide) wd_15_21 dX7_begins_22 (fun z_6 hz_6 => ?_)
    have ez_6 : 0 ≤ z_6.toInt ∧ z_6.toInt ≤ 4000 := by omega
    refine lv_aload_n F.1 F.2.1 dX7_begins_25 rfl (lv_at hl 1 rfl) ?_
    refine tVi (b := (eX E t1)) (As := []) (rest := [.int z_6, .ref a0]) F hK hN hO (c_len E (fun H => TH E (tbM (mD (.inl (t, t)) (.inl (p, p)) (.inl nu) (.inl un) (.inl tk) (.inl xt)) nw ws kp as (xD 660 B) sc) H) t1 n1 ha1) mv_J0_length_8abf5 wd_16_16 ⟨Nat.le_of_ble_eq_true rfl, Nat.le_of_ble_eq_true rfl⟩ ⟨Nat.le_of_ble_eq_true rfl, Nat.le_of_ble_eq_true rfl⟩ hH hS (sRecvS hO ha1 hS) rfl hl.1 (Nat.le_of_ble_eq_true rfl) dX7_begins_26 (fun z_7 H locs hq hS => ?_)
    obtain ⟨hz_7, hH⟩ := hq
    have hH : TH E (tbM (mD (.inl (t, t)) (.inl (p, p)) (.inl nu) (.inl un) (.inl tk) (.inl xt)) nw ws kp as (xD 660 B) sc) H := hH
    have ez_7 : 3 ≤ z_7.toInt ∧ z_7.toInt ≤ 6 := by have h9_ := strLe ha1; omega
    refine tAdd (lo := 3) (hi := 4006) F dX7_begins_29 ez_6 ez_7 rfl (fun z_8 hz_8 => ?_)
    obtain ⟨g_9, hg_9⟩ : ∃ y : Int, z_8.toInt = y := ⟨_, rfl⟩
    have bg_9 : 3 ≤ g_9 ∧ g_9 ≤ 4006 := by rw [← hg_9]; exact hz_8.2
    refine tPutG (j := 31) (t := 24) (fd := (.inl (g_9, g_9))) F hK hH hS (List.mem_singleton.mp ha0) (by decide) rfl rfl (fdI (by omega)) (TB1 := (tbM (mD (.inl (t, t)) (.inl (g_9, g_9)) (.inl nu) (.inl un) (.inl tk) (.inl xt)) nw ws kp as (xD 660 B) sc)) rfl clX7 (by decide) wd_15_21 rfl rfl rfl rfl dX7_begins_30 (fun H locs hH hS => ?_)
    refine lv_iconst (v := 1) F.1 F.2.1 dX7_begins_33 (by decide) ?_
    refine topK (a := 1) (by decide) (fun k_10 hk_10 => ?_)
    exact txI F hS dX7_begins_34 (nar01 (wkb (eqb hk_10) rfl rfl)) (⟨g_9, ⟨by omega, by omega, by omega, by omega⟩, (wkb (eqb hk_10) rfl rfl), (by omega), hH⟩)
  · skip
    have r_5 : 12 ≤ z_2.toInt ∧ z_2.toInt ≤ 12 := by have h9_ := hz_2; omega
    refine lv_aload_n F.1 F.2.1 dX7_begins_10 rfl (lv_at hl 0 rfl) ?_
    refine lv_iconst (v := 3) F.1 F.2.1 dX7_begins_11 (by decide) ?_
    refine topK (a := 3) (by decide) (fun k_11 hk_11 => ?_)
    refine lv_aload_n F.1 F.2.1 dX7_begins_12 rfl (lv_at hl 0 rfl) ?_
    refine tGetI (j := 31) F hK hH (tyb ha0 (all1 rfl)) rfl clX7 (by decide) wd_15_21 dX7_begins_13 (fun z_12 hz_12 => ?_)
    have ez_12 : 0 ≤ z_12.toInt ∧ z_12.toInt ≤ 4000 := by omega
    refine tVi (b := a0) (As := [.int k_11, .int z_12]) (rest := []) F hK hN hO (c_X7_fails E nw ws kp as (xD 660 B) sc un tk xt (t, t) (p, p) nu a0 k_11 z_12 ha0) mv_X7_fails wd_17_2 ⟨Nat.le_of_ble_eq_true rfl, Nat.le_of_ble_eq_true rfl⟩ ⟨Nat.le_of_ble_eq_true rfl, Nat.le_of_ble_eq_true rfl⟩ hH hS (tRecv hK hH (tyb ha0 (all1 rfl)) clX7) rfl hl.1 (Nat.le_of_ble_eq_true rfl) dX7_begins_16 (fun z_13 H locs hq hS => ?_)
    obtain ⟨f_14, hH⟩ := hq
    have hH : TH E (tbM (mD (.inl (t, t)) (.inl (p, p)) (.inl nu) (.inl un) (.inl tk) (.inl xt)) nw ws kp as (xD 660 B) sc) H := hH
    exact txI F hS dX7_begins_19 (nar01 (wkb f_14 rfl rfl)) (⟨p, ⟨by omega, by omega, by omega, by omega⟩, (wkb f_14 rfl rfl), (by omega), hH⟩)
set_option maxHeartbeats 4000000 in
set_option maxRecDepth 100000 in
theorem c_X7_begins_1 (E : Ev) (nw : TD) (ws : TD) (kp : TD) (as : TD) (sc : TD) (un : Int × Int) (tk : Int × Int) (xt : Int × Int) (nu : Int × Int) (t : Int) (p : Int) (B : Nat → Int32) (b : Int) (a0 : Nat) (t1 n1 : Nat) (a2 : Int32) (a3 : Int32) (ha0 : eT E a0 ∈ [24]) (ha1 : strOf t1 n1) (ha2 : 1 ≤ a2.toInt ∧ a2.toInt ≤ 1) (ha3 : 14 ≤ a3.toInt ∧ a3.toInt ≤ 14) (ht : 0 ≤ t ∧ t ≤ 400) (hp : 0 ≤ p ∧ p ≤ 4000) (hB : okR B) (hb : p ≤ b ∧ 400 ≤ b ∧ b ≤ 4000) : TcI E yX7_begins cX7_begins 4 .boolean ({ frames := 3, cells := 0, slots := 0, locals := 100 }) [.ref a0, .ref (eX E t1), .int a2, .int a3] (fun H => TH E (tbM (mD (.inl (t, t)) (.inl (p, p)) (.inl nu) (.inl un) (.inl tk) (.inl xt)) nw ws kp as (xD 660 B) sc) H) (fun v H => ∃ p2 : Int, (0 ≤ p2 ∧ p2 ≤ 5000 ∧ p ≤ p2 ∧ p2 ≤ b + 6) ∧ (0 ≤ v.toInt ∧ v.toInt ≤ 1) ∧ (v.toInt = 1 → gI B 1 ≠ 14) ∧ TH E (tbM (mD (.inl (t, t)) (.inl (p2, p2)) (.inl nu) (.inl un) (.inl tk) (.inl xt)) nw ws kp as (xD 660 B) sc) H) := by
  refine teI (by decide) (Nat.le_of_ble_eq_true rfl) ?_
  intro p_ ev_ s mi_ below_ meth cd_ ls F hK hN hO hH hS hl
  have hH : TH E (tbM (mD (.inl (t, t)) (.inl (p, p)) (.inl nu) (.inl un) (.inl tk) (.inl xt)) nw ws kp as (xD 660 B) sc) s.heap := hH
  have hl : lv_has ls 4 [(0, .ref a0), (1, .ref (eX E t1)), (2, .int a2), (3, .int a3)] := hl
  have hBB := (okB hB.1).1
  refine lv_aload_n F.1 F.2.1 dX7_begins_0 rfl (lv_at hl 0 rfl) ?_
  refine tGetR (j := 36) F hK hH (tyb ha0 (all1 rfl)) rfl (all1 rfl) clX7 (by decide) wd_7_5 dX7_begins_1 (fun q_1 hq_1 _ => ?_)
  refine lv_iload_n F.1 F.2.1 dX7_begins_4 rfl (lv_at hl 2 rfl) ?_
  refine tIaldX F hK hH (tyb hq_1 (all1 rfl)) (ixb (n := 660) ha2 rfl rfl) dX7_begins_5 (fun z_2 ez_2 => ?_)
  have gz_2 : z_2.toInt = gI B (1) := by unfold gI; rw [ez_2, show (a2).toNatClampNeg = (1) from by show (a2).toInt.toNat = _; omega]
  have hz_2 : 0 ≤ z_2.toInt ∧ z_2.toInt ≤ 14 := (by have h9_ := okA.at (i := a2) hB.1 (by omega); rw [show gI B (a2).toNatClampNeg = z_2.toInt from by unfold gI; rw [ez_2]] at h9_; have h8_ := phi_1 h9_ (by omega); omega)
  refine lv_iload_n F.1 F.2.1 dX7_begins_6 rfl (lv_at hl 3 rfl) ?_
  refine b_ne (tgt := 20) F dX7_begins_7 (by decide) (fun c_3 => ?_) (fun c_3 => ?_)
  · skip
    have r_4 : 0 ≤ z_2.toInt ∧ z_2.toInt ≤ 13 := by have h9_ := hz_2; omega
    refine lv_aload_n F.1 F.2.1 dX7_begins_20 rfl (lv_at hl 0 rfl) ?_
    refine lv_dup F.1 F.2.1 dX7_begins_21 rfl ?_
    refine tGetI (j := 31) F hK hH (tyb ha0 (all1 rfl)) rfl clX7 (by decide) wd_15_21 dX7_begins_22 (fun z_6 hz_6 => ?_)
    have ez_6 : 0 ≤ z_6.toInt ∧ z_6.toInt ≤ 4000 := by omega
    refine lv_aload_n F.1 F.2.1 dX7_begins_25 rfl (lv_at hl 1 rfl) ?_
    refine tVi (b := (eX E t1)) (As := []) (rest := [.int z_6, .ref a0]) F hK hN hO (c_len E (fun H => TH E (tbM (mD (.inl (t, t)) (.inl (p, p)) (.inl nu) (.inl un) (.inl tk) (.inl xt)) nw ws kp as (xD 660 B) sc) H) t1 n1 ha1) mv_J0_length_8abf5 wd_16_16 ⟨Nat.le_of_ble_eq_true rfl, Nat.le_of_ble_eq_true rfl⟩ ⟨Nat.le_of_ble_eq_true rfl, Nat.le_of_ble_eq_true rfl⟩ hH hS (sRecvS hO ha1 hS) rfl hl.1 (Nat.le_of_ble_eq_true rfl) dX7_begins_26 (fun z_7 H locs hq hS => ?_)
    obtain ⟨hz_7, hH⟩ := hq
    have hH : TH E (tbM (mD (.inl (t, t)) (.inl (p, p)) (.inl nu) (.inl un) (.inl tk) (.inl xt)) nw ws kp as (xD 660 B) sc) H := hH
    have ez_7 : 3 ≤ z_7.toInt ∧ z_7.toInt ≤ 6 := by have h9_ := strLe ha1; omega
    refine tAdd (lo := 3) (hi := 4006) F dX7_begins_29 ez_6 ez_7 rfl (fun z_8 hz_8 => ?_)
    obtain ⟨g_9, hg_9⟩ : ∃ y : Int, z_8.toInt = y := ⟨_, rfl⟩
    have bg_9 : 3 ≤ g_9 ∧ g_9 ≤ 4006 := by rw [← hg_9]; exact hz_8.2
    refine tPutG (j := 31) (t := 24) (fd := (.inl (g_9, g_9))) F hK hH hS (List.mem_singleton.mp ha0) (by decide) rfl rfl (fdI (by omega)) (TB1 := (tbM (mD (.inl (t, t)) (.inl (g_9, g_9)) (.inl nu) (.inl un) (.inl tk) (.inl xt)) nw ws kp as (xD 660 B) sc)) rfl clX7 (by decide) wd_15_21 rfl rfl rfl rfl dX7_begins_30 (fun H locs hH hS => ?_)
    refine lv_iconst (v := 1) F.1 F.2.1 dX7_begins_33 (by decide) ?_
    refine topK (a := 1) (by decide) (fun k_10 hk_10 => ?_)
    exact txI F hS dX7_begins_34 (nar01 (wkb (eqb hk_10) rfl rfl)) (⟨g_9, ⟨by omega, by omega, by omega, by omega⟩, (wkb (eqb hk_10) rfl rfl), (by omega), hH⟩)
  · skip
    have r_5 : 14 ≤ z_2.toInt ∧ z_2.toInt ≤ 14 := by have h9_ := hz_2; omega
    refine lv_aload_n F.1 F.2.1 dX7_begins_10 rfl (lv_at hl 0 rfl) ?_
    refine lv_iconst (v := 3) F.1 F.2.1 dX7_begins_11 (by decide) ?_
    refine topK (a := 3) (by decide) (fun k_11 hk_11 => ?_)
    refine lv_aload_n F.1 F.2.1 dX7_begins_12 rfl (lv_at hl 0 rfl) ?_
    refine tGetI (j := 31) F hK hH (tyb ha0 (all1 rfl)) rfl clX7 (by decide) wd_15_21 dX7_begins_13 (fun z_12 hz_12 => ?_)
    have ez_12 : 0 ≤ z_12.toInt ∧ z_12.toInt ≤ 4000 := by omega
    refine tVi (b := a0) (As := [.int k_11, .int z_12]) (rest := []) F hK hN hO (c_X7_fails E nw ws kp as (xD 660 B) sc un tk xt (t, t) (p, p) nu a0 k_11 z_12 ha0) mv_X7_fails wd_17_2 ⟨Nat.le_of_ble_eq_true rfl, Nat.le_of_ble_eq_true rfl⟩ ⟨Nat.le_of_ble_eq_true rfl, Nat.le_of_ble_eq_true rfl⟩ hH hS (tRecv hK hH (tyb ha0 (all1 rfl)) clX7) rfl hl.1 (Nat.le_of_ble_eq_true rfl) dX7_begins_16 (fun z_13 H locs hq hS => ?_)
    obtain ⟨f_14, hH⟩ := hq
    have hH : TH E (tbM (mD (.inl (t, t)) (.inl (p, p)) (.inl nu) (.inl un) (.inl tk) (.inl xt)) nw ws kp as (xD 660 B) sc) H := hH
    exact txI F hS dX7_begins_19 (nar01 (wkb f_14 rfl rfl)) (⟨p, ⟨by omega, by omega, by omega, by omega⟩, (wkb f_14 rfl rfl), (by omega), hH⟩)
set_option maxHeartbeats 4000000 in
set_option maxRecDepth 100000 in
theorem c_X7_begins_2 (E : Ev) (nw : TD) (ws : TD) (kp : TD) (as : TD) (sc : TD) (un : Int × Int) (tk : Int × Int) (xt : Int × Int) (nu : Int × Int) (t : Int) (p : Int) (B : Nat → Int32) (b : Int) (a0 : Nat) (t1 n1 : Nat) (a2 : Int32) (a3 : Int32) (ha0 : eT E a0 ∈ [24]) (ha1 : strOf t1 n1) (ha2 : 2 ≤ a2.toInt ∧ a2.toInt ≤ 2) (ha3 : 4 ≤ a3.toInt ∧ a3.toInt ≤ 4) (ht : 0 ≤ t ∧ t ≤ 400) (hp : 0 ≤ p ∧ p ≤ 4000) (hB : okR B) (hb : p ≤ b ∧ 400 ≤ b ∧ b ≤ 4000) : TcI E yX7_begins cX7_begins 4 .boolean ({ frames := 3, cells := 0, slots := 0, locals := 100 }) [.ref a0, .ref (eX E t1), .int a2, .int a3] (fun H => TH E (tbM (mD (.inl (t, t)) (.inl (p, p)) (.inl nu) (.inl un) (.inl tk) (.inl xt)) nw ws kp as (xD 660 B) sc) H) (fun v H => ∃ p2 : Int, (0 ≤ p2 ∧ p2 ≤ 5000 ∧ p ≤ p2 ∧ p2 ≤ b + 6) ∧ (0 ≤ v.toInt ∧ v.toInt ≤ 1) ∧ (v.toInt = 1 → gI B 2 ≠ 4) ∧ TH E (tbM (mD (.inl (t, t)) (.inl (p2, p2)) (.inl nu) (.inl un) (.inl tk) (.inl xt)) nw ws kp as (xD 660 B) sc) H) := by
  refine teI (by decide) (Nat.le_of_ble_eq_true rfl) ?_
  intro p_ ev_ s mi_ below_ meth cd_ ls F hK hN hO hH hS hl
  have hH : TH E (tbM (mD (.inl (t, t)) (.inl (p, p)) (.inl nu) (.inl un) (.inl tk) (.inl xt)) nw ws kp as (xD 660 B) sc) s.heap := hH
  have hl : lv_has ls 4 [(0, .ref a0), (1, .ref (eX E t1)), (2, .int a2), (3, .int a3)] := hl
  have hBB := (okB hB.1).1
  refine lv_aload_n F.1 F.2.1 dX7_begins_0 rfl (lv_at hl 0 rfl) ?_
  refine tGetR (j := 36) F hK hH (tyb ha0 (all1 rfl)) rfl (all1 rfl) clX7 (by decide) wd_7_5 dX7_begins_1 (fun q_1 hq_1 _ => ?_)
  refine lv_iload_n F.1 F.2.1 dX7_begins_4 rfl (lv_at hl 2 rfl) ?_
  refine tIaldX F hK hH (tyb hq_1 (all1 rfl)) (ixb (n := 660) ha2 rfl rfl) dX7_begins_5 (fun z_2 ez_2 => ?_)
  have gz_2 : z_2.toInt = gI B (2) := by unfold gI; rw [ez_2, show (a2).toNatClampNeg = (2) from by show (a2).toInt.toNat = _; omega]
  have hz_2 : 0 ≤ z_2.toInt ∧ z_2.toInt ≤ 4 := (by have h9_ := okA.at (i := a2) hB.1 (by omega); rw [show gI B (a2).toNatClampNeg = z_2.toInt from by unfold gI; rw [ez_2]] at h9_; have h8_ := phi_2 h9_ (by omega); omega)
  refine lv_iload_n F.1 F.2.1 dX7_begins_6 rfl (lv_at hl 3 rfl) ?_
  refine b_ne (tgt := 20) F dX7_begins_7 (by decide) (fun c_3 => ?_) (fun c_3 => ?_)
  · skip
    have r_4 : 0 ≤ z_2.toInt ∧ z_2.toInt ≤ 3 := by have h9_ := hz_2; omega
    refine lv_aload_n F.1 F.2.1 dX7_begins_20 rfl (lv_at hl 0 rfl) ?_
    refine lv_dup F.1 F.2.1 dX7_begins_21 rfl ?_
    refine tGetI (j := 31) F hK hH (tyb ha0 (all1 rfl)) rfl clX7 (by decide) wd_15_21 dX7_begins_22 (fun z_6 hz_6 => ?_)
    have ez_6 : 0 ≤ z_6.toInt ∧ z_6.toInt ≤ 4000 := by omega
    refine lv_aload_n F.1 F.2.1 dX7_begins_25 rfl (lv_at hl 1 rfl) ?_
    refine tVi (b := (eX E t1)) (As := []) (rest := [.int z_6, .ref a0]) F hK hN hO (c_len E (fun H => TH E (tbM (mD (.inl (t, t)) (.inl (p, p)) (.inl nu) (.inl un) (.inl tk) (.inl xt)) nw ws kp as (xD 660 B) sc) H) t1 n1 ha1) mv_J0_length_8abf5 wd_16_16 ⟨Nat.le_of_ble_eq_true rfl, Nat.le_of_ble_eq_true rfl⟩ ⟨Nat.le_of_ble_eq_true rfl, Nat.le_of_ble_eq_true rfl⟩ hH hS (sRecvS hO ha1 hS) rfl hl.1 (Nat.le_of_ble_eq_true rfl) dX7_begins_26 (fun z_7 H locs hq hS => ?_)
    obtain ⟨hz_7, hH⟩ := hq
    have hH : TH E (tbM (mD (.inl (t, t)) (.inl (p, p)) (.inl nu) (.inl un) (.inl tk) (.inl xt)) nw ws kp as (xD 660 B) sc) H := hH
    have ez_7 : 3 ≤ z_7.toInt ∧ z_7.toInt ≤ 6 := by have h9_ := strLe ha1; omega
    refine tAdd (lo := 3) (hi := 4006) F dX7_begins_29 ez_6 ez_7 rfl (fun z_8 hz_8 => ?_)
    obtain ⟨g_9, hg_9⟩ : ∃ y : Int, z_8.toInt = y := ⟨_, rfl⟩
    have bg_9 : 3 ≤ g_9 ∧ g_9 ≤ 4006 := by rw [← hg_9]; exact hz_8.2
    refine tPutG (j := 31) (t := 24) (fd := (.inl (g_9, g_9))) F hK hH hS (List.mem_singleton.mp ha0) (by decide) rfl rfl (fdI (by omega)) (TB1 := (tbM (mD (.inl (t, t)) (.inl (g_9, g_9)) (.inl nu) (.inl un) (.inl tk) (.inl xt)) nw ws kp as (xD 660 B) sc)) rfl clX7 (by decide) wd_15_21 rfl rfl rfl rfl dX7_begins_30 (fun H locs hH hS => ?_)
    refine lv_iconst (v := 1) F.1 F.2.1 dX7_begins_33 (by decide) ?_
    refine topK (a := 1) (by decide) (fun k_10 hk_10 => ?_)
    exact txI F hS dX7_begins_34 (nar01 (wkb (eqb hk_10) rfl rfl)) (⟨g_9, ⟨by omega, by omega, by omega, by omega⟩, (wkb (eqb hk_10) rfl rfl), (by omega), hH⟩)
  · skip
    have r_5 : 4 ≤ z_2.toInt ∧ z_2.toInt ≤ 4 := by have h9_ := hz_2; omega
    refine lv_aload_n F.1 F.2.1 dX7_begins_10 rfl (lv_at hl 0 rfl) ?_
    refine lv_iconst (v := 3) F.1 F.2.1 dX7_begins_11 (by decide) ?_
    refine topK (a := 3) (by decide) (fun k_11 hk_11 => ?_)
    refine lv_aload_n F.1 F.2.1 dX7_begins_12 rfl (lv_at hl 0 rfl) ?_
    refine tGetI (j := 31) F hK hH (tyb ha0 (all1 rfl)) rfl clX7 (by decide) wd_15_21 dX7_begins_13 (fun z_12 hz_12 => ?_)
    have ez_12 : 0 ≤ z_12.toInt ∧ z_12.toInt ≤ 4000 := by omega
    refine tVi (b := a0) (As := [.int k_11, .int z_12]) (rest := []) F hK hN hO (c_X7_fails E nw ws kp as (xD 660 B) sc un tk xt (t, t) (p, p) nu a0 k_11 z_12 ha0) mv_X7_fails wd_17_2 ⟨Nat.le_of_ble_eq_true rfl, Nat.le_of_ble_eq_true rfl⟩ ⟨Nat.le_of_ble_eq_true rfl, Nat.le_of_ble_eq_true rfl⟩ hH hS (tRecv hK hH (tyb ha0 (all1 rfl)) clX7) rfl hl.1 (Nat.le_of_ble_eq_true rfl) dX7_begins_16 (fun z_13 H locs hq hS => ?_)
    obtain ⟨f_14, hH⟩ := hq
    have hH : TH E (tbM (mD (.inl (t, t)) (.inl (p, p)) (.inl nu) (.inl un) (.inl tk) (.inl xt)) nw ws kp as (xD 660 B) sc) H := hH
    exact txI F hS dX7_begins_19 (nar01 (wkb f_14 rfl rfl)) (⟨p, ⟨by omega, by omega, by omega, by omega⟩, (wkb f_14 rfl rfl), (by omega), hH⟩)
set_option maxHeartbeats 4000000 in
set_option maxRecDepth 100000 in
theorem c_X7_readsReachOf (E : Ev) (nw : TD) (ws : TD) (kp : TD) (as : TD) (sc : TD) (un : Int × Int) (tk : Int × Int) (xt : Int × Int) (t : Int) (p : Int) (nu : Int) (B : Nat → Int32) (b : Int) (a0 : Nat) (a1 : Int32) (ha0 : eT E a0 ∈ [24]) (ht : 0 ≤ t ∧ t ≤ 400) (hp : 0 ≤ p ∧ p ≤ 4000) (hnu : (-2147483648) ≤ nu ∧ nu ≤ 2147483647) (hB : okR B) (hb : p ≤ b ∧ 400 ≤ b ∧ b ≤ 4000) (hat : 0 ≤ a1.toInt ∧ a1.toInt < 660 ∧ a1.toInt ≠ 0 ∧ a1.toInt ≠ 1 ∧ a1.toInt ≠ 2 ∧ a1.toInt ≠ 3 ∧ (a1.toInt < 78 ∨ 260 ≤ a1.toInt ∨ (a1.toInt - 78) % 13 ≠ 6)) (hp : ∀ y : Int, 0 ≤ y → y < gI B 0 → phi a1.toInt y) (h6e : a1.toInt = 6 → gI B 0 = 0) : TcI E yX7_readsReachOf cX7_readsReachOf 2 .boolean ({ frames := 5, cells := 0, slots := 0, locals := 126 }) [.ref a0, .int a1] (fun H => TH E (tbM (mD (.inl (t, t)) (.inl (p, p)) (.inl (nu, nu)) (.inl un) (.inl tk) (.inl xt)) nw ws kp as (xD 660 B) sc) H) (fun v H => ∃ p2 : Int, (0 ≤ p2 ∧ p2 ≤ 5000 ∧ p ≤ p2 ∧ p2 ≤ b + 0) ∧ ∃ nu2 : Int, ((-2147483648) ≤ nu2 ∧ nu2 ≤ 2147483647) ∧ ∃ B2 : Nat → Int32, (okR B2 ∧ gI B2 0 = gI B 0 ∧ gI B2 1 = gI B 1 ∧ gI B2 2 = gI B 2 ∧ gI B2 6 = gI B 6 ∧ gI B2 3 = gI B 3) ∧ (0 ≤ v.toInt ∧ v.toInt ≤ 1) ∧ (v.toInt = 1 → 0 < gI B 0) ∧ TH E (tbM (mD (.inl (t, t)) (.inl (p2, p2)) (.inl (nu2, nu2)) (.inl un) (.inl tk) (.inl xt)) nw ws kp as (xD 660 B2) sc) H) := by
  refine teI (by decide) (Nat.le_of_ble_eq_true rfl) ?_
  intro p_ ev_ s mi_ below_ meth cd_ ls F hK hN hO hH hS hl
  have hH : TH E (tbM (mD (.inl (t, t)) (.inl (p, p)) (.inl (nu, nu)) (.inl un) (.inl tk) (.inl xt)) nw ws kp as (xD 660 B) sc) s.heap := hH
  have hl : lv_has ls 2 [(0, .ref a0), (1, .int a1)] := hl
  have hBB := (okB hB.1).1
  refine lv_aload_n F.1 F.2.1 dX7_readsReachOf_0 rfl (lv_at hl 0 rfl) ?_
  refine lv_iload_n F.1 F.2.1 dX7_readsReachOf_1 rfl (lv_at hl 1 rfl) ?_
  refine lv_iconst (v := 0) F.1 F.2.1 dX7_readsReachOf_2 (by decide) ?_
  refine topK (a := 0) (by decide) (fun k_1 hk_1 => ?_)
  refine lv_aload_n F.1 F.2.1 dX7_readsReachOf_3 rfl (lv_at hl 0 rfl) ?_
  refine tGetR (j := 36) F hK hH (tyb ha0 (all1 rfl)) rfl (all1 rfl) clX7 (by decide) wd_7_5 dX7_readsReachOf_4 (fun q_2 hq_2 _ => ?_)
  refine lv_iconst (v := 0) F.1 F.2.1 dX7_readsReachOf_7 (by decide) ?_
  refine topK (a := 0) (by decide) (fun k_3 hk_3 => ?_)
  refine tIaldX F hK hH (tyb hq_2 (all1 rfl)) (ixb (n := 660) (eqb hk_3) rfl rfl) dX7_readsReachOf_8 (fun z_4 ez_4 => ?_)
  have gz_4 : z_4.toInt = gI B (0) := by unfold gI; rw [ez_4, show (k_3).toNatClampNeg = (0) from by show (k_3).toInt.toNat = _; omega]
  have hz_4 : 0 ≤ z_4.toInt ∧ z_4.toInt ≤ 12 := (by have h9_ := okA.at (i := k_3) hB.1 (by omega); rw [show gI B (k_3).toNatClampNeg = z_4.toInt from by unfold gI; rw [ez_4]] at h9_; have h8_ := phi_0 h9_ (by omega); omega)
  refine lv_iconst (v := 1) F.1 F.2.1 dX7_readsReachOf_9 (by decide) ?_
  refine topK (a := 1) (by decide) (fun k_5 hk_5 => ?_)
  refine tSub (lo := (-1)) (hi := 11) F dX7_readsReachOf_10 hz_4 (eqb hk_5) rfl (fun z_6 hz_6 => ?_)
  refine tVi (b := a0) (As := [.int a1, .int k_1, .int z_6]) (rest := []) F hK hN hO (c_X7_readsTo E nw ws kp as sc un tk xt t p nu B b a0 a1 k_1 z_6 ha0 (by omega) (by omega) (by omega) hB (by omega) (by omega) (fun y_ h1_ h2_ => hp y_ (by omega) (by omega)) (by omega)) mv_X7_readsTo wd_17_14 ⟨Nat.le_of_ble_eq_true rfl, Nat.le_of_ble_eq_true rfl⟩ ⟨Nat.le_of_ble_eq_true rfl, Nat.le_of_ble_eq_true rfl⟩ hH hS (tRecv hK hH (tyb ha0 (all1 rfl)) clX7) rfl hl.1 (Nat.le_of_ble_eq_true rfl) dX7_readsReachOf_11 (fun z_7 H locs hq hS => ?_)
  obtain ⟨g_8, hg_8, g_9, hg_9, g_10, hg_10, f_11, f_12, hH⟩ := hq
  have hH : TH E (tbM (mD (.inl (t, t)) (.inl (g_8, g_8)) (.inl (g_9, g_9)) (.inl un) (.inl tk) (.inl xt)) nw ws kp as (xD 660 g_10) sc) H := hH
  have hBg_10 := (okB hg_10.1.1).1
  exact txI F hS dX7_readsReachOf_14 (nar01 f_11) (⟨g_8, ⟨by omega, by omega, by omega, by omega⟩, g_9, (by omega), g_10, ⟨hg_10.1, by omega, by omega, by omega, by omega, by omega⟩, f_11, (by omega), hH⟩)
set_option maxHeartbeats 4000000 in
set_option maxRecDepth 100000 in
theorem c_X7_readsAge (E : Ev) (nw : TD) (ws : TD) (kp : TD) (as : TD) (sc : TD) (un : Int × Int) (tk : Int × Int) (xt : Int × Int) (t : Int) (p : Int) (nu : Int) (B : Nat → Int32) (b : Int) (a0 : Nat) (a1 : Int32) (ha0 : eT E a0 ∈ [24]) (ha1 : 81 ≤ a1.toInt ∧ a1.toInt ≤ 287) (ht : 0 ≤ t ∧ t ≤ 400) (hp : 0 ≤ p ∧ p ≤ 4000) (hnu : (-2147483648) ≤ nu ∧ nu ≤ 2147483647) (hB : okR B) (hb : p ≤ b ∧ 400 ≤ b ∧ b ≤ 3900) (hat : (a1.toInt < 260 ∧ (a1.toInt - 78) % 13 = 4) ∨ (260 ≤ a1.toInt ∧ (a1.toInt - 260) % 7 = 3)) : TcI E yX7_readsAge cX7_readsAge 3 .boolean ({ frames := 8, cells := 0, slots := 0, locals := 247 }) [.ref a0, .int a1] (fun H => TH E (tbM (mD (.inl (t, t)) (.inl (p, p)) (.inl (nu, nu)) (.inl un) (.inl tk) (.inl xt)) nw ws kp as (xD 660 B) sc) H) (fun v H => ∃ p2 : Int, (0 ≤ p2 ∧ p2 ≤ 5000 ∧ p ≤ p2 ∧ p2 ≤ b + 6) ∧ ∃ nu2 : Int, ((-2147483648) ≤ nu2 ∧ nu2 ≤ 2147483647) ∧ ∃ B2 : Nat → Int32, (okR B2 ∧ gI B2 0 = gI B 0 ∧ gI B2 1 = gI B 1 ∧ gI B2 2 = gI B 2 ∧ gI B2 6 = gI B 6 ∧ gI B2 3 = gI B 3) ∧ (0 ≤ v.toInt ∧ v.toInt ≤ 1) ∧ TH E (tbM (mD (.inl (t, t)) (.inl (p2, p2)) (.inl (nu2, nu2)) (.inl un) (.inl tk) (.inl xt)) nw ws kp as (xD 660 B2) sc) H) := by
  refine teI (by decide) (Nat.le_of_ble_eq_true rfl) ?_
  intro p_ ev_ s mi_ below_ meth cd_ ls F hK hN hO hH hS hl
  have hH : TH E (tbM (mD (.inl (t, t)) (.inl (p, p)) (.inl (nu, nu)) (.inl un) (.inl tk) (.inl xt)) nw ws kp as (xD 660 B) sc) s.heap := hH
  have hl : lv_has ls 3 [(0, .ref a0), (1, .int a1)] := hl
  have hBB := (okB hB.1).1
  refine lv_aload_n F.1 F.2.1 dX7_readsAge_0 rfl (lv_at hl 0 rfl) ?_
  refine ldcwS F.1 F.2.1 F.2.2.2.2.1 (hO.1 22 _ rfl).1 dX7_readsAge_1 ?_
  refine tVi (b := a0) (As := [.ref (eX E 22)]) (rest := []) F hK hN hO (c_X7_mustWord E nw ws kp as (xD 660 B) sc un tk xt (nu, nu) t p b a0 22 3 ha0 (strAt 22 rfl) (by omega) (by omega) (by omega)) mv_X7_mustWord wd_18_12 ⟨Nat.le_of_ble_eq_true rfl, Nat.le_of_ble_eq_true rfl⟩ ⟨Nat.le_of_ble_eq_true rfl, Nat.le_of_ble_eq_true rfl⟩ hH hS (tRecv hK hH (tyb ha0 (all1 rfl)) clX7) rfl hl.1 (Nat.le_of_ble_eq_true rfl) dX7_readsAge_4 (fun z_1 H locs hq hS => ?_)
  obtain ⟨g_2, hg_2, f_3, hH⟩ := hq
  have hH : TH E (tbM (mD (.inl (t, t)) (.inl (g_2, g_2)) (.inl (nu, nu)) (.inl un) (.inl tk) (.inl xt)) nw ws kp as (xD 660 B) sc) H := hH
  refine z_eq (tgt := 21) F dX7_readsAge_7 (by decide) (fun c_4 => ?_) (fun c_4 => ?_)
  · skip
    have r_5 : 0 ≤ z_1.toInt ∧ z_1.toInt ≤ 0 := by have h9_ := f_3; omega
    refine lv_iconst (v := 0) F.1 F.2.1 dX7_readsAge_21 (by decide) ?_
    refine topK (a := 0) (by decide) (fun k_7 hk_7 => ?_)
    exact txI F hS dX7_readsAge_22 (nar01 (wkb (eqb hk_7) rfl rfl)) (⟨g_2, ⟨by omega, by omega, by omega, by omega⟩, nu, (by omega), B, ⟨hB, by omega, by omega, by omega, by omega, by omega⟩, (wkb (eqb hk_7) rfl rfl), hH⟩)
  · skip
    have r_6 : 1 ≤ z_1.toInt ∧ z_1.toInt ≤ 1 := by have h9_ := f_3; omega
    refine lv_aload_n F.1 F.2.1 dX7_readsAge_10 rfl (lv_at hl 0 rfl) ?_
    refine lv_iconst (v := 0) F.1 F.2.1 dX7_readsAge_11 (by decide) ?_
    refine topK (a := 0) (by decide) (fun k_8 hk_8 => ?_)
    refine lv_sipush (v := 9999) F.1 F.2.1 dX7_readsAge_12 (by decide) ?_
    refine topK (a := 9999) (by decide) (fun k_9 hk_9 => ?_)
    refine tVi (b := a0) (As := [.int k_8, .int k_9]) (rest := []) F hK hN hO (c_X7_readsNumber E nw ws kp as (xD 660 B) sc un tk xt t g_2 nu (b + 6) a0 k_8 k_9 ha0 (by omega) (by omega) (by omega) (by omega)) mv_X7_readsNumber wd_17_19 ⟨Nat.le_of_ble_eq_true rfl, Nat.le_of_ble_eq_true rfl⟩ ⟨Nat.le_of_ble_eq_true rfl, Nat.le_of_ble_eq_true rfl⟩ hH hS (tRecv hK hH (tyb ha0 (all1 rfl)) clX7) rfl hl.1 (Nat.le_of_ble_eq_true rfl) dX7_readsAge_15 (fun z_10 H locs hq hS => ?_)
    obtain ⟨g_11, hg_11, g_12, hg_12, f_13, f_14, hH⟩ := hq
    have hH : TH E (tbM (mD (.inl (t, t)) (.inl (g_11, g_11)) (.inl (g_12, g_12)) (.inl un) (.inl tk) (.inl xt)) nw ws kp as (xD 660 B) sc) H := hH
    refine z_ne (tgt := 23) F dX7_readsAge_18 (by decide) (fun c_15 => ?_) (fun c_15 => ?_)
    · skip
      have r_16 : 1 ≤ z_10.toInt ∧ z_10.toInt ≤ 1 := by have h9_ := f_13; omega
      refine lv_iconst (v := 0) F.1 F.2.1 dX7_readsAge_23 (by decide) ?_
      refine topK (a := 0) (by decide) (fun k_18 hk_18 => ?_)
      refine lv_istore_n (lv' := [(2, .int k_18), (0, .ref a0), (1, .int a1)]) F.1 F.2.1 dX7_readsAge_24 rfl hl (by decide) rfl (fun ls hl => ?_)
      refine wloop (σ := Int32) (fun n9 x9 H locs ls => (14 - x9.toInt + 1).toNat < n9 ∧ (0 ≤ x9.toInt ∧ x9.toInt ≤ 14) ∧ TH E (tbM (mD (.inl (t, t)) (.inl (g_11, g_11)) (.inl (g_12, g_12)) (.inl un) (.inl tk) (.inl xt)) nw ws kp as (xD 660 B) sc) H ∧ va_S (eA E s.heap.size) s.heap H locs ∧ lv_has ls 3 [(0, .ref a0), (1, .int a1), (2, .int x9)]) ?_ (fun x9 H locs ls h => absurd h.1 (Nat.not_lt_zero _)) _ (k_18) ⟨Nat.lt_succ_self _, (wkb (eqb hk_18) rfl rfl), hH, hS, lv_sub hl [1, 2, 0] rfl⟩
      intro n_25 ih_25 u_19 H locs ls ⟨hm_25, hu_19, hH, hS, hl⟩
      have hm_25 : (14 - u_19.toInt + 1).toNat < n_25 + 1 := hm_25
      have hu_19 : (0 ≤ u_19.toInt ∧ u_19.toInt ≤ 14) := hu_19
      have hH : TH E (tbM (mD (.inl (t, t)) (.inl (g_11, g_11)) (.inl (g_12, g_12)) (.inl un) (.inl tk) (.inl xt)) nw ws kp as (xD 660 B) sc) H := hH
      have hl : lv_has ls 3 [(0, .ref a0), (1, .int a1), (2, .int u_19)] := hl
      refine lv_iload_n F.1 F.2.1 dX7_readsAge_25 rfl (lv_at hl 2 rfl) ?_
      refine lv_aload_n F.1 F.2.1 dX7_readsAge_26 rfl (lv_at hl 0 rfl) ?_
      refine tGetR (j := 36) F hK hH (tyb ha0 (all1 rfl)) rfl (all1 rfl) clX7 (by decide) wd_7_5 dX7_readsAge_27 (fun q_20 hq_20 _ => ?_)
      refine lv_iconst (v := 1) F.1 F.2.1 dX7_readsAge_30 (by decide) ?_
      refine topK (a := 1) (by decide) (fun k_21 hk_21 => ?_)
      refine tIaldX F hK hH (tyb hq_20 (all1 rfl)) (ixb (n := 660) (eqb hk_21) rfl rfl) dX7_readsAge_31 (fun z_22 ez_22 => ?_)
      have gz_22 : z_22.toInt = gI B (1) := by unfold gI; rw [ez_22, show (k_21).toNatClampNeg = (1) from by show (k_21).toInt.toNat = _; omega]
      have hz_22 : 0 ≤ z_22.toInt ∧ z_22.toInt ≤ 14 := (by have h9_ := okA.at (i := k_21) hB.1 (by omega); rw [show gI B (k_21).toNatClampNeg = z_22.toInt from by unfold gI; rw [ez_22]] at h9_; have h8_ := phi_1 h9_ (by omega); omega)
      refine b_ge (tgt := 72) F dX7_readsAge_32 (by decide) (fun c_23 => ?_) (fun c_23 => ?_)
      · skip
        refine lv_iconst (v := 0) F.1 F.2.1 dX7_readsAge_72 (by decide) ?_
        refine topK (a := 0) (by decide) (fun k_26 hk_26 => ?_)
        refine lv_istore_n (lv' := [(2, .int k_26), (0, .ref a0), (1, .int a1)]) F.1 F.2.1 dX7_readsAge_73 rfl hl (by decide) rfl (fun ls hl => ?_)
        refine wloop (σ := Int32) (fun n9 x9 H locs ls => (4 - x9.toInt + 1).toNat < n9 ∧ (0 ≤ x9.toInt ∧ x9.toInt ≤ 4) ∧ TH E (tbM (mD (.inl (t, t)) (.inl (g_11, g_11)) (.inl (g_12, g_12)) (.inl un) (.inl tk) (.inl xt)) nw ws kp as (xD 660 B) sc) H ∧ va_S (eA E s.heap.size) s.heap H locs ∧ lv_has ls 3 [(0, .ref a0), (1, .int a1), (2, .int x9)]) ?_ (fun x9 H locs ls h => absurd h.1 (Nat.not_lt_zero _)) _ (k_26) ⟨Nat.lt_succ_self _, (wkb (eqb hk_26) rfl rfl), hH, hS, lv_sub hl [1, 2, 0] rfl⟩
        intro n_74 ih_74 u_27 H locs ls ⟨hm_74, hu_27, hH, hS, hl⟩
        have hm_74 : (4 - u_27.toInt + 1).toNat < n_74 + 1 := hm_74
        have hu_27 : (0 ≤ u_27.toInt ∧ u_27.toInt ≤ 4) := hu_27
        have hH : TH E (tbM (mD (.inl (t, t)) (.inl (g_11, g_11)) (.inl (g_12, g_12)) (.inl un) (.inl tk) (.inl xt)) nw ws kp as (xD 660 B) sc) H := hH
        have hl : lv_has ls 3 [(0, .ref a0), (1, .int a1), (2, .int u_27)] := hl
        refine lv_iload_n F.1 F.2.1 dX7_readsAge_74 rfl (lv_at hl 2 rfl) ?_
        refine lv_aload_n F.1 F.2.1 dX7_readsAge_75 rfl (lv_at hl 0 rfl) ?_
        refine tGetR (j := 36) F hK hH (tyb ha0 (all1 rfl)) rfl (all1 rfl) clX7 (by decide) wd_7_5 dX7_readsAge_76 (fun q_28 hq_28 _ => ?_)
        refine lv_iconst (v := 2) F.1 F.2.1 dX7_readsAge_79 (by decide) ?_
        refine topK (a := 2) (by decide) (fun k_29 hk_29 => ?_)
        refine tIaldX F hK hH (tyb hq_28 (all1 rfl)) (ixb (n := 660) (eqb hk_29) rfl rfl) dX7_readsAge_80 (fun z_30 ez_30 => ?_)
        have gz_30 : z_30.toInt = gI B (2) := by unfold gI; rw [ez_30, show (k_29).toNatClampNeg = (2) from by show (k_29).toInt.toNat = _; omega]
        have hz_30 : 0 ≤ z_30.toInt ∧ z_30.toInt ≤ 4 := (by have h9_ := okA.at (i := k_29) hB.1 (by omega); rw [show gI B (k_29).toNatClampNeg = z_30.toInt from by unfold gI; rw [ez_30]] at h9_; have h8_ := phi_2 h9_ (by omega); omega)
        refine b_ge (tgt := 122) F dX7_readsAge_81 (by decide) (fun c_31 => ?_) (fun c_31 => ?_)
        · skip
          refine lv_aload_n F.1 F.2.1 dX7_readsAge_122 rfl (lv_at hl 0 rfl) ?_
          refine tGetR (j := 36) F hK hH (tyb ha0 (all1 rfl)) rfl (all1 rfl) clX7 (by decide) wd_7_5 dX7_readsAge_123 (fun q_34 hq_34 _ => ?_)
          refine lv_iload_n F.1 F.2.1 dX7_readsAge_126 rfl (lv_at hl 1 rfl) ?_
          refine lv_aload_n F.1 F.2.1 dX7_readsAge_127 rfl (lv_at hl 0 rfl) ?_
          refine tGetI (j := 33) F hK hH (tyb ha0 (all1 rfl)) rfl clX7 (by decide) wd_17_18 dX7_readsAge_128 (fun z_35 hz_35 => ?_)
          have ez_35 : (-2147483648) ≤ z_35.toInt ∧ z_35.toInt ≤ 2147483647 := by omega
          refine tIastX (t := 29) F hK hH hS (List.mem_singleton.mp hq_34) (by decide) rfl (ixb (n := 660) ha1 rfl rfl) dX7_readsAge_131 (fun G_36 eG_36 H locs hH hS => ?_)
          have hH : TH E (tbM (mD (.inl (t, t)) (.inl (g_11, g_11)) (.inl (g_12, g_12)) (.inl un) (.inl tk) (.inl xt)) nw ws kp as (xD 660 G_36) sc) H := hH
          have n0G_36 : gI G_36 0 = gI B 0 := gI_ne eG_36 (by omega) (by omega)
          have n1G_36 : gI G_36 1 = gI B 1 := gI_ne eG_36 (by omega) (by omega)
          have n2G_36 : gI G_36 2 = gI B 2 := gI_ne eG_36 (by omega) (by omega)
          have n6G_36 : gI G_36 6 = gI B 6 := gI_ne eG_36 (by omega) (by omega)
          have n3G_36 : gI G_36 3 = gI B 3 := gI_ne eG_36 (by omega) (by omega)
          have hG_36 : okR G_36 := (okR.stM hB eG_36 (by omega) (by omega) (by omega) (phiI (by omega) (by omega) (by omega) (by omega) (by omega) (by omega) (by omega) (by omega) (by omega) (by omega) (by omega) (by omega) (by omega) (by omega) (by omega) (by omega) (by omega) (by omega)) (by omega))
          have hBG_36 := (okB hG_36.1).1
          refine lv_iconst (v := 1) F.1 F.2.1 dX7_readsAge_132 (by decide) ?_
          refine topK (a := 1) (by decide) (fun k_37 hk_37 => ?_)
          exact txI F hS dX7_readsAge_133 (nar01 (wkb (eqb hk_37) rfl rfl)) (⟨g_11, ⟨by omega, by omega, by omega, by omega⟩, g_12, (by omega), G_36, ⟨hG_36, by omega, by omega, by omega, by omega, by omega⟩, (wkb (eqb hk_37) rfl rfl), hH⟩)
        · skip
          have r_32 : 0 ≤ u_27.toInt ∧ u_27.toInt ≤ 3 := by have h9_ := hu_27; omega
          have r_33 : 1 ≤ z_30.toInt ∧ z_30.toInt ≤ 4 := by have h9_ := hz_30; omega
          refine lv_aload_n F.1 F.2.1 dX7_readsAge_84 rfl (lv_at hl 0 rfl) ?_
          refine tGetR (j := 36) F hK hH (tyb ha0 (all1 rfl)) rfl (all1 rfl) clX7 (by decide) wd_7_5 dX7_readsAge_85 (fun q_38 hq_38 _ => ?_)
          refine lv_sipush (v := 260) F.1 F.2.1 dX7_readsAge_88 (by decide) ?_
          refine topK (a := 260) (by decide) (fun k_39 hk_39 => ?_)
          refine lv_bipush (v := 7) F.1 F.2.1 dX7_readsAge_91 (by decide) ?_
          refine topK (a := 7) (by decide) (fun k_40 hk_40 => ?_)
          refine lv_iload_n F.1 F.2.1 dX7_readsAge_93 rfl (lv_at hl 2 rfl) ?_
          refine tMul (lo := 0) (hi := 21) F dX7_readsAge_94 (eqb hk_40) r_32 rfl (fun z_41 hz_41 => ?_)
          have mz_41 : z_41.toInt = 7 * u_27.toInt := by rw [hz_41.1, hk_40]
          refine tAdd (lo := 260) (hi := 281) F dX7_readsAge_95 (eqb hk_39) hz_41.2 rfl (fun z_42 hz_42 => ?_)
          refine lv_iconst (v := 3) F.1 F.2.1 dX7_readsAge_96 (by decide) ?_
          refine topK (a := 3) (by decide) (fun k_43 hk_43 => ?_)
          refine tAdd (lo := 263) (hi := 284) F dX7_readsAge_97 hz_42.2 (eqb hk_43) rfl (fun z_44 hz_44 => ?_)
          refine tIaldX F hK hH (tyb hq_38 (all1 rfl)) (ixb (n := 660) hz_44.2 rfl rfl) dX7_readsAge_98 (fun z_45 ez_45 => ?_)
          refine lv_aload_n F.1 F.2.1 dX7_readsAge_99 rfl (lv_at hl 0 rfl) ?_
          refine tGetI (j := 33) F hK hH (tyb ha0 (all1 rfl)) rfl clX7 (by decide) wd_17_18 dX7_readsAge_100 (fun z_46 hz_46 => ?_)
          have ez_46 : (-2147483648) ≤ z_46.toInt ∧ z_46.toInt ≤ 2147483647 := by omega
          refine b_ne (tgt := 116) F dX7_readsAge_103 (by decide) (fun c_47 => ?_) (fun c_47 => ?_)
          · skip
            obtain ⟨x_48, ex_48, hx_48⟩ := iincB (c := 1) (lo := 1) (hi := 4) r_32 rfl
            refine lv_iinc (v := x_48) (lv' := [(2, .int x_48), (0, .ref a0), (1, .int a1)]) F.1 F.2.1 dX7_readsAge_116 hl (k := 2) rfl ex_48 (by decide) rfl (fun ls hl => ?_)
            refine lv_goto (tgt := 74) F.1 F.2.1 dX7_readsAge_119 (by decide) ?_
            exact ih_74 (x_48) _ _ _ ⟨(show (4 - x_48.toInt + 1).toNat < n_74 from by omega), (wkb hx_48.2 rfl rfl), hH, hS, lv_sub hl [1, 2, 0] rfl⟩
          · skip
            refine lv_aload_n F.1 F.2.1 dX7_readsAge_106 rfl (lv_at hl 0 rfl) ?_
            refine lv_iconst (v := 2) F.1 F.2.1 dX7_readsAge_107 (by decide) ?_
            refine topK (a := 2) (by decide) (fun k_49 hk_49 => ?_)
            refine lv_aload_n F.1 F.2.1 dX7_readsAge_108 rfl (lv_at hl 0 rfl) ?_
            refine tGetI (j := 34) F hK hH (tyb ha0 (all1 rfl)) rfl clX7 (by decide) wd_18_1 dX7_readsAge_109 (fun z_50 hz_50 => ?_)
            refine tVi (b := a0) (As := [.int k_49, .int z_50]) (rest := []) F hK hN hO (c_X7_fails E nw ws kp as (xD 660 B) sc un tk xt (t, t) (g_11, g_11) (g_12, g_12) a0 k_49 z_50 ha0) mv_X7_fails wd_17_2 ⟨Nat.le_of_ble_eq_true rfl, Nat.le_of_ble_eq_true rfl⟩ ⟨Nat.le_of_ble_eq_true rfl, Nat.le_of_ble_eq_true rfl⟩ hH hS (tRecv hK hH (tyb ha0 (all1 rfl)) clX7) rfl hl.1 (Nat.le_of_ble_eq_true rfl) dX7_readsAge_112 (fun z_51 H locs hq hS => ?_)
            obtain ⟨f_52, hH⟩ := hq
            have hH : TH E (tbM (mD (.inl (t, t)) (.inl (g_11, g_11)) (.inl (g_12, g_12)) (.inl un) (.inl tk) (.inl xt)) nw ws kp as (xD 660 B) sc) H := hH
            exact txI F hS dX7_readsAge_115 (nar01 (wkb f_52 rfl rfl)) (⟨g_11, ⟨by omega, by omega, by omega, by omega⟩, g_12, (by omega), B, ⟨hB, by omega, by omega, by omega, by omega, by omega⟩, (wkb f_52 rfl rfl), hH⟩)
      · skip
        have r_24 : 0 ≤ u_19.toInt ∧ u_19.toInt ≤ 13 := by have h9_ := hu_19; omega
        have r_25 : 1 ≤ z_22.toInt ∧ z_22.toInt ≤ 14 := by have h9_ := hz_22; omega
        refine lv_aload_n F.1 F.2.1 dX7_readsAge_35 rfl (lv_at hl 0 rfl) ?_
        refine tGetR (j := 36) F hK hH (tyb ha0 (all1 rfl)) rfl (all1 rfl) clX7 (by decide) wd_7_5 dX7_readsAge_36 (fun q_53 hq_53 _ => ?_)
        refine lv_bipush (v := 78) F.1 F.2.1 dX7_readsAge_39 (by decide) ?_
        refine topK (a := 78) (by decide) (fun k_54 hk_54 => ?_)
        refine lv_bipush (v := 13) F.1 F.2.1 dX7_readsAge_41 (by decide) ?_
        refine topK (a := 13) (by decide) (fun k_55 hk_55 => ?_)
        refine lv_iload_n F.1 F.2.1 dX7_readsAge_43 rfl (lv_at hl 2 rfl) ?_
        refine tMul (lo := 0) (hi := 169) F dX7_readsAge_44 (eqb hk_55) r_24 rfl (fun z_56 hz_56 => ?_)
        have mz_56 : z_56.toInt = 13 * u_19.toInt := by rw [hz_56.1, hk_55]
        refine tAdd (lo := 78) (hi := 247) F dX7_readsAge_45 (eqb hk_54) hz_56.2 rfl (fun z_57 hz_57 => ?_)
        refine lv_iconst (v := 4) F.1 F.2.1 dX7_readsAge_46 (by decide) ?_
        refine topK (a := 4) (by decide) (fun k_58 hk_58 => ?_)
        refine tAdd (lo := 82) (hi := 251) F dX7_readsAge_47 hz_57.2 (eqb hk_58) rfl (fun z_59 hz_59 => ?_)
        refine tIaldX F hK hH (tyb hq_53 (all1 rfl)) (ixb (n := 660) hz_59.2 rfl rfl) dX7_readsAge_48 (fun z_60 ez_60 => ?_)
        refine lv_aload_n F.1 F.2.1 dX7_readsAge_49 rfl (lv_at hl 0 rfl) ?_
        refine tGetI (j := 33) F hK hH (tyb ha0 (all1 rfl)) rfl clX7 (by decide) wd_17_18 dX7_readsAge_50 (fun z_61 hz_61 => ?_)
        have ez_61 : (-2147483648) ≤ z_61.toInt ∧ z_61.toInt ≤ 2147483647 := by omega
        refine b_ne (tgt := 66) F dX7_readsAge_53 (by decide) (fun c_62 => ?_) (fun c_62 => ?_)
        · skip
          obtain ⟨x_63, ex_63, hx_63⟩ := iincB (c := 1) (lo := 1) (hi := 14) r_24 rfl
          refine lv_iinc (v := x_63) (lv' := [(2, .int x_63), (0, .ref a0), (1, .int a1)]) F.1 F.2.1 dX7_readsAge_66 hl (k := 2) rfl ex_63 (by decide) rfl (fun ls hl => ?_)
          refine lv_goto (tgt := 25) F.1 F.2.1 dX7_readsAge_69 (by decide) ?_
          exact ih_25 (x_63) _ _ _ ⟨(show (14 - x_63.toInt + 1).toNat < n_25 from by omega), (wkb hx_63.2 rfl rfl), hH, hS, lv_sub hl [1, 2, 0] rfl⟩
        · skip
          refine lv_aload_n F.1 F.2.1 dX7_readsAge_56 rfl (lv_at hl 0 rfl) ?_
          refine lv_iconst (v := 2) F.1 F.2.1 dX7_readsAge_57 (by decide) ?_
          refine topK (a := 2) (by decide) (fun k_64 hk_64 => ?_)
          refine lv_aload_n F.1 F.2.1 dX7_readsAge_58 rfl (lv_at hl 0 rfl) ?_
          refine tGetI (j := 34) F hK hH (tyb ha0 (all1 rfl)) rfl clX7 (by decide) wd_18_1 dX7_readsAge_59 (fun z_65 hz_65 => ?_)
          refine tVi (b := a0) (As := [.int k_64, .int z_65]) (rest := []) F hK hN hO (c_X7_fails E nw ws kp as (xD 660 B) sc un tk xt (t, t) (g_11, g_11) (g_12, g_12) a0 k_64 z_65 ha0) mv_X7_fails wd_17_2 ⟨Nat.le_of_ble_eq_true rfl, Nat.le_of_ble_eq_true rfl⟩ ⟨Nat.le_of_ble_eq_true rfl, Nat.le_of_ble_eq_true rfl⟩ hH hS (tRecv hK hH (tyb ha0 (all1 rfl)) clX7) rfl hl.1 (Nat.le_of_ble_eq_true rfl) dX7_readsAge_62 (fun z_66 H locs hq hS => ?_)
          obtain ⟨f_67, hH⟩ := hq
          have hH : TH E (tbM (mD (.inl (t, t)) (.inl (g_11, g_11)) (.inl (g_12, g_12)) (.inl un) (.inl tk) (.inl xt)) nw ws kp as (xD 660 B) sc) H := hH
          exact txI F hS dX7_readsAge_65 (nar01 (wkb f_67 rfl rfl)) (⟨g_11, ⟨by omega, by omega, by omega, by omega⟩, g_12, (by omega), B, ⟨hB, by omega, by omega, by omega, by omega, by omega⟩, (wkb f_67 rfl rfl), hH⟩)
    · skip
      have r_17 : 0 ≤ z_10.toInt ∧ z_10.toInt ≤ 0 := by have h9_ := f_13; omega
      refine lv_iconst (v := 0) F.1 F.2.1 dX7_readsAge_21 (by decide) ?_
      refine topK (a := 0) (by decide) (fun k_68 hk_68 => ?_)
      exact txI F hS dX7_readsAge_22 (nar01 (wkb (eqb hk_68) rfl rfl)) (⟨g_11, ⟨by omega, by omega, by omega, by omega⟩, g_12, (by omega), B, ⟨hB, by omega, by omega, by omega, by omega, by omega⟩, (wkb (eqb hk_68) rfl rfl), hH⟩)
set_option maxHeartbeats 4000000 in
set_option maxRecDepth 100000 in
theorem c_X7_readsBack (E : Ev) (nw : TD) (ws : TD) (kp : TD) (as : TD) (sc : TD) (un : Int × Int) (tk : Int × Int) (xt : Int × Int) (t : Int) (p : Int) (nu : Int) (B : Nat → Int32) (b : Int) (a0 : Nat) (a1 : Int32) (ha0 : eT E a0 ∈ [24]) (ha1 : 78 ≤ a1.toInt ∧ a1.toInt ≤ 247) (ht : 0 ≤ t ∧ t ≤ 400) (hp : 0 ≤ p ∧ p ≤ 4000) (hnu : (-2147483648) ≤ nu ∧ nu ≤ 2147483647) (hB : okR B) (hb : p ≤ b ∧ 400 ≤ b ∧ b ≤ 3900) (hat : (a1.toInt - 78) % 13 = 0) : TcI E yX7_readsBack cX7_readsBack 2 .boolean ({ frames := 7, cells := 0, slots := 0, locals := 226 }) [.ref a0, .int a1] (fun H => TH E (tbM (mD (.inl (t, t)) (.inl (p, p)) (.inl (nu, nu)) (.inl un) (.inl tk) (.inl xt)) nw ws kp as (xD 660 B) sc) H) (fun v H => ∃ p2 : Int, (0 ≤ p2 ∧ p2 ≤ 5000 ∧ p ≤ p2 ∧ p2 ≤ b + 6) ∧ ∃ nu2 : Int, ((-2147483648) ≤ nu2 ∧ nu2 ≤ 2147483647) ∧ ∃ B2 : Nat → Int32, (okR B2 ∧ gI B2 0 = gI B 0 ∧ gI B2 1 = gI B 1 ∧ gI B2 2 = gI B 2 ∧ gI B2 6 = gI B 6 ∧ gI B2 3 = gI B 3) ∧ (0 ≤ v.toInt ∧ v.toInt ≤ 1) ∧ TH E (tbM (mD (.inl (t, t)) (.inl (p2, p2)) (.inl (nu2, nu2)) (.inl un) (.inl tk) (.inl xt)) nw ws kp as (xD 660 B2) sc) H) := by
  refine teI (by decide) (Nat.le_of_ble_eq_true rfl) ?_
  intro p_ ev_ s mi_ below_ meth cd_ ls F hK hN hO hH hS hl
  have hH : TH E (tbM (mD (.inl (t, t)) (.inl (p, p)) (.inl (nu, nu)) (.inl un) (.inl tk) (.inl xt)) nw ws kp as (xD 660 B) sc) s.heap := hH
  have hl : lv_has ls 2 [(0, .ref a0), (1, .int a1)] := hl
  have hBB := (okB hB.1).1
  refine lv_aload_n F.1 F.2.1 dX7_readsBack_0 rfl (lv_at hl 0 rfl) ?_
  refine tGetR (j := 36) F hK hH (tyb ha0 (all1 rfl)) rfl (all1 rfl) clX7 (by decide) wd_7_5 dX7_readsBack_1 (fun q_1 hq_1 _ => ?_)
  refine lv_iload_n F.1 F.2.1 dX7_readsBack_4 rfl (lv_at hl 1 rfl) ?_
  refine lv_bipush (v := 7) F.1 F.2.1 dX7_readsBack_5 (by decide) ?_
  refine topK (a := 7) (by decide) (fun k_2 hk_2 => ?_)
  refine tAdd (lo := 85) (hi := 254) F dX7_readsBack_7 ha1 (eqb hk_2) rfl (fun z_3 hz_3 => ?_)
  refine lv_bipush (v := (-2)) F.1 F.2.1 dX7_readsBack_8 (by decide) ?_
  refine topK (a := (-2)) (by decide) (fun k_4 hk_4 => ?_)
  refine tIastX (t := 29) F hK hH hS (List.mem_singleton.mp hq_1) (by decide) rfl (ixb (n := 660) hz_3.2 rfl rfl) dX7_readsBack_10 (fun G_5 eG_5 H locs hH hS => ?_)
  have hH : TH E (tbM (mD (.inl (t, t)) (.inl (p, p)) (.inl (nu, nu)) (.inl un) (.inl tk) (.inl xt)) nw ws kp as (xD 660 G_5) sc) H := hH
  have n0G_5 : gI G_5 0 = gI B 0 := gI_ne eG_5 (by omega) (by omega)
  have n1G_5 : gI G_5 1 = gI B 1 := gI_ne eG_5 (by omega) (by omega)
  have n2G_5 : gI G_5 2 = gI B 2 := gI_ne eG_5 (by omega) (by omega)
  have n6G_5 : gI G_5 6 = gI B 6 := gI_ne eG_5 (by omega) (by omega)
  have n3G_5 : gI G_5 3 = gI B 3 := gI_ne eG_5 (by omega) (by omega)
  have hG_5 : okR G_5 := (okR.stM hB eG_5 (by omega) (by omega) (by omega) (phiI (by omega) (by omega) (by omega) (by omega) (by omega) (by omega) (by omega) (by omega) (by omega) (by omega) (by omega) (by omega) (by omega) (by omega) (by omega) (by omega) (by omega) (by omega)) (by omega))
  have hBG_5 := (okB hG_5.1).1
  refine lv_aload_n F.1 F.2.1 dX7_readsBack_11 rfl (lv_at hl 0 rfl) ?_
  refine ldcwS F.1 F.2.1 F.2.2.2.2.1 (hO.1 24 _ rfl).1 dX7_readsBack_12 ?_
  refine tVi (b := a0) (As := [.ref (eX E 24)]) (rest := []) F hK hN hO (c_X7_takesWord E nw ws kp as (xD 660 G_5) sc un tk xt (nu, nu) t p b a0 24 4 ha0 (strAt 24 rfl) (by omega) (by omega) (by omega)) mv_X7_takesWord wd_17_6 ⟨Nat.le_of_ble_eq_true rfl, Nat.le_of_ble_eq_true rfl⟩ ⟨Nat.le_of_ble_eq_true rfl, Nat.le_of_ble_eq_true rfl⟩ hH hS (tRecv hK hH (tyb ha0 (all1 rfl)) clX7) rfl hl.1 (Nat.le_of_ble_eq_true rfl) dX7_readsBack_15 (fun z_6 H locs hq hS => ?_)
  obtain ⟨g_7, hg_7, f_8, hH⟩ := hq
  have hH : TH E (tbM (mD (.inl (t, t)) (.inl (g_7, g_7)) (.inl (nu, nu)) (.inl un) (.inl tk) (.inl xt)) nw ws kp as (xD 660 G_5) sc) H := hH
  refine z_ne (tgt := 23) F dX7_readsBack_18 (by decide) (fun c_9 => ?_) (fun c_9 => ?_)
  · skip
    have r_10 : 1 ≤ z_6.toInt ∧ z_6.toInt ≤ 1 := by have h9_ := f_8; omega
    refine lv_aload_n F.1 F.2.1 dX7_readsBack_23 rfl (lv_at hl 0 rfl) ?_
    refine lv_iload_n F.1 F.2.1 dX7_readsBack_24 rfl (lv_at hl 1 rfl) ?_
    refine lv_bipush (v := 7) F.1 F.2.1 dX7_readsBack_25 (by decide) ?_
    refine topK (a := 7) (by decide) (fun k_12 hk_12 => ?_)
    refine tAdd (lo := 85) (hi := 254) F dX7_readsBack_27 ha1 (eqb hk_12) rfl (fun z_13 hz_13 => ?_)
    refine tVi (b := a0) (As := [.int z_13]) (rest := []) F hK hN hO (c_X7_readsReachOf E nw ws kp as sc un tk xt t g_7 nu G_5 (b + 6) a0 z_13 ha0 (by omega) (by omega) (by omega) hG_5 (by omega) (by omega) (by intro y_ h1_ h2_; exact (phiI (by omega) (by omega) (by omega) (by omega) (by omega) (by omega) (by omega) (by omega) (by omega) (by omega) (by omega) (by omega) (by omega) (by omega) (by omega) (by omega) (by omega) (by omega))) (by omega)) mv_X7_readsReachOf wd_17_10 ⟨Nat.le_of_ble_eq_true rfl, Nat.le_of_ble_eq_true rfl⟩ ⟨Nat.le_of_ble_eq_true rfl, Nat.le_of_ble_eq_true rfl⟩ hH hS (tRecv hK hH (tyb ha0 (all1 rfl)) clX7) rfl hl.1 (Nat.le_of_ble_eq_true rfl) dX7_readsBack_28 (fun z_14 H locs hq hS => ?_)
    obtain ⟨g_15, hg_15, g_16, hg_16, g_17, hg_17, f_18, f_19, hH⟩ := hq
    have hH : TH E (tbM (mD (.inl (t, t)) (.inl (g_15, g_15)) (.inl (g_16, g_16)) (.inl un) (.inl tk) (.inl xt)) nw ws kp as (xD 660 g_17) sc) H := hH
    have hBg_17 := (okB hg_17.1.1).1
    refine z_eq (tgt := 66) F dX7_readsBack_31 (by decide) (fun c_20 => ?_) (fun c_20 => ?_)
    · skip
      have r_21 : 0 ≤ z_14.toInt ∧ z_14.toInt ≤ 0 := by have h9_ := f_18; omega
      refine lv_iconst (v := 0) F.1 F.2.1 dX7_readsBack_66 (by decide) ?_
      refine topK (a := 0) (by decide) (fun k_23 hk_23 => ?_)
      exact txI F hS dX7_readsBack_67 (nar01 (wkb (eqb hk_23) rfl rfl)) (⟨g_15, ⟨by omega, by omega, by omega, by omega⟩, g_16, (by omega), g_17, ⟨hg_17.1, by omega, by omega, by omega, by omega, by omega⟩, (wkb (eqb hk_23) rfl rfl), hH⟩)
    · skip
      have r_22 : 1 ≤ z_14.toInt ∧ z_14.toInt ≤ 1 := by have h9_ := f_18; omega
      refine lv_aload_n F.1 F.2.1 dX7_readsBack_34 rfl (lv_at hl 0 rfl) ?_
      refine lv_iload_n F.1 F.2.1 dX7_readsBack_35 rfl (lv_at hl 1 rfl) ?_
      refine lv_bipush (v := 8) F.1 F.2.1 dX7_readsBack_36 (by decide) ?_
      refine topK (a := 8) (by decide) (fun k_24 hk_24 => ?_)
      refine tAdd (lo := 86) (hi := 255) F dX7_readsBack_38 ha1 (eqb hk_24) rfl (fun z_25 hz_25 => ?_)
      refine lv_iconst (v := 0) F.1 F.2.1 dX7_readsBack_39 (by decide) ?_
      refine topK (a := 0) (by decide) (fun k_26 hk_26 => ?_)
      refine lv_bipush (v := 100) F.1 F.2.1 dX7_readsBack_40 (by decide) ?_
      refine topK (a := 100) (by decide) (fun k_27 hk_27 => ?_)
      refine tVi (b := a0) (As := [.int z_25, .int k_26, .int k_27]) (rest := []) F hK hN hO (c_X7_readsTo E nw ws kp as sc un tk xt t g_15 g_16 g_17 (b + 6) a0 z_25 k_26 k_27 ha0 (by omega) (by omega) (by omega) hg_17.1 (by omega) (by omega) (by intro y_ h1_ h2_; exact (phiI (by omega) (by omega) (by omega) (by omega) (by omega) (by omega) (by omega) (by omega) (by omega) (by omega) (by omega) (by omega) (by omega) (by omega) (by omega) (by omega) (by omega) (by omega))) (by omega)) mv_X7_readsTo wd_17_14 ⟨Nat.le_of_ble_eq_true rfl, Nat.le_of_ble_eq_true rfl⟩ ⟨Nat.le_of_ble_eq_true rfl, Nat.le_of_ble_eq_true rfl⟩ hH hS (tRecv hK hH (tyb ha0 (all1 rfl)) clX7) rfl hl.1 (Nat.le_of_ble_eq_true rfl) dX7_readsBack_42 (fun z_28 H locs hq hS => ?_)
      obtain ⟨g_29, hg_29, g_30, hg_30, g_31, hg_31, f_32, f_33, hH⟩ := hq
      have hH : TH E (tbM (mD (.inl (t, t)) (.inl (g_29, g_29)) (.inl (g_30, g_30)) (.inl un) (.inl tk) (.inl xt)) nw ws kp as (xD 660 g_31) sc) H := hH
      have hBg_31 := (okB hg_31.1.1).1
      refine z_eq (tgt := 66) F dX7_readsBack_45 (by decide) (fun c_34 => ?_) (fun c_34 => ?_)
      · skip
        have r_35 : 0 ≤ z_28.toInt ∧ z_28.toInt ≤ 0 := by have h9_ := f_32; omega
        refine lv_iconst (v := 0) F.1 F.2.1 dX7_readsBack_66 (by decide) ?_
        refine topK (a := 0) (by decide) (fun k_37 hk_37 => ?_)
        exact txI F hS dX7_readsBack_67 (nar01 (wkb (eqb hk_37) rfl rfl)) (⟨g_29, ⟨by omega, by omega, by omega, by omega⟩, g_30, (by omega), g_31, ⟨hg_31.1, by omega, by omega, by omega, by omega, by omega⟩, (wkb (eqb hk_37) rfl rfl), hH⟩)
      · skip
        have r_36 : 1 ≤ z_28.toInt ∧ z_28.toInt ≤ 1 := by have h9_ := f_32; omega
        refine lv_aload_n F.1 F.2.1 dX7_readsBack_48 rfl (lv_at hl 0 rfl) ?_
        refine lv_iload_n F.1 F.2.1 dX7_readsBack_49 rfl (lv_at hl 1 rfl) ?_
        refine lv_bipush (v := 9) F.1 F.2.1 dX7_readsBack_50 (by decide) ?_
        refine topK (a := 9) (by decide) (fun k_38 hk_38 => ?_)
        refine tAdd (lo := 87) (hi := 256) F dX7_readsBack_52 ha1 (eqb hk_38) rfl (fun z_39 hz_39 => ?_)
        refine lv_iconst (v := 1) F.1 F.2.1 dX7_readsBack_53 (by decide) ?_
        refine topK (a := 1) (by decide) (fun k_40 hk_40 => ?_)
        refine lv_bipush (v := 30) F.1 F.2.1 dX7_readsBack_54 (by decide) ?_
        refine topK (a := 30) (by decide) (fun k_41 hk_41 => ?_)
        refine tVi (b := a0) (As := [.int z_39, .int k_40, .int k_41]) (rest := []) F hK hN hO (c_X7_readsTo E nw ws kp as sc un tk xt t g_29 g_30 g_31 (b + 6) a0 z_39 k_40 k_41 ha0 (by omega) (by omega) (by omega) hg_31.1 (by omega) (by omega) (by intro y_ h1_ h2_; exact (phiI (by omega) (by omega) (by omega) (by omega) (by omega) (by omega) (by omega) (by omega) (by omega) (by omega) (by omega) (by omega) (by omega) (by omega) (by omega) (by omega) (by omega) (by omega))) (by omega)) mv_X7_readsTo wd_17_14 ⟨Nat.le_of_ble_eq_true rfl, Nat.le_of_ble_eq_true rfl⟩ ⟨Nat.le_of_ble_eq_true rfl, Nat.le_of_ble_eq_true rfl⟩ hH hS (tRecv hK hH (tyb ha0 (all1 rfl)) clX7) rfl hl.1 (Nat.le_of_ble_eq_true rfl) dX7_readsBack_56 (fun z_42 H locs hq hS => ?_)
        obtain ⟨g_43, hg_43, g_44, hg_44, g_45, hg_45, f_46, f_47, hH⟩ := hq
        have hH : TH E (tbM (mD (.inl (t, t)) (.inl (g_43, g_43)) (.inl (g_44, g_44)) (.inl un) (.inl tk) (.inl xt)) nw ws kp as (xD 660 g_45) sc) H := hH
        have hBg_45 := (okB hg_45.1.1).1
        refine z_eq (tgt := 66) F dX7_readsBack_59 (by decide) (fun c_48 => ?_) (fun c_48 => ?_)
        · skip
          have r_49 : 0 ≤ z_42.toInt ∧ z_42.toInt ≤ 0 := by have h9_ := f_46; omega
          refine lv_iconst (v := 0) F.1 F.2.1 dX7_readsBack_66 (by decide) ?_
          refine topK (a := 0) (by decide) (fun k_51 hk_51 => ?_)
          exact txI F hS dX7_readsBack_67 (nar01 (wkb (eqb hk_51) rfl rfl)) (⟨g_43, ⟨by omega, by omega, by omega, by omega⟩, g_44, (by omega), g_45, ⟨hg_45.1, by omega, by omega, by omega, by omega, by omega⟩, (wkb (eqb hk_51) rfl rfl), hH⟩)
        · skip
          have r_50 : 1 ≤ z_42.toInt ∧ z_42.toInt ≤ 1 := by have h9_ := f_46; omega
          refine lv_iconst (v := 1) F.1 F.2.1 dX7_readsBack_62 (by decide) ?_
          refine topK (a := 1) (by decide) (fun k_52 hk_52 => ?_)
          refine lv_goto (tgt := 67) F.1 F.2.1 dX7_readsBack_63 (by decide) ?_
          exact txI F hS dX7_readsBack_67 (nar01 (wkb (eqb hk_52) rfl rfl)) (⟨g_43, ⟨by omega, by omega, by omega, by omega⟩, g_44, (by omega), g_45, ⟨hg_45.1, by omega, by omega, by omega, by omega, by omega⟩, (wkb (eqb hk_52) rfl rfl), hH⟩)
  · skip
    have r_11 : 0 ≤ z_6.toInt ∧ z_6.toInt ≤ 0 := by have h9_ := f_8; omega
    refine lv_iconst (v := 1) F.1 F.2.1 dX7_readsBack_21 (by decide) ?_
    refine topK (a := 1) (by decide) (fun k_53 hk_53 => ?_)
    exact txI F hS dX7_readsBack_22 (nar01 (wkb (eqb hk_53) rfl rfl)) (⟨g_7, ⟨by omega, by omega, by omega, by omega⟩, nu, (by omega), G_5, ⟨hG_5, by omega, by omega, by omega, by omega, by omega⟩, (wkb (eqb hk_53) rfl rfl), hH⟩)
