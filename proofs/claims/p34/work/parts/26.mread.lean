theorem dX7_fails_0 : decode cX7_fails 0 = .ok (.aload_n 0, 1) := by decide +kernel
theorem dX7_fails_1 : decode cX7_fails 1 = .ok (.bipush 8, 2) := by decide +kernel
theorem dX7_fails_3 : decode cX7_fails 3 = .ok (.iload_n 2, 1) := by decide +kernel
theorem dX7_fails_4 : decode cX7_fails 4 = .ok (.imul, 1) := by decide +kernel
theorem dX7_fails_5 : decode cX7_fails 5 = .ok (.iload_n 1, 1) := by decide +kernel
theorem dX7_fails_6 : decode cX7_fails 6 = .ok (.iadd, 1) := by decide +kernel
theorem dX7_fails_7 : decode cX7_fails 7 = .ok (.putfield 324, 3) := by decide +kernel
theorem dX7_fails_10 : decode cX7_fails 10 = .ok (.iconst 0, 1) := by decide +kernel
theorem dX7_fails_11 : decode cX7_fails 11 = .ok (.ireturn, 1) := by decide +kernel
theorem dX7_byteAt_0 : decode cX7_byteAt 0 = .ok (.iload_n 1, 1) := by decide +kernel
theorem dX7_byteAt_1 : decode cX7_byteAt 1 = .ok (.aload_n 0, 1) := by decide +kernel
theorem dX7_byteAt_2 : decode cX7_byteAt 2 = .ok (.getfield 292, 3) := by decide +kernel
theorem dX7_byteAt_5 : decode cX7_byteAt 5 = .ok (.if_icmp .ge 16, 3) := by decide +kernel
theorem dX7_byteAt_8 : decode cX7_byteAt 8 = .ok (.aload_n 0, 1) := by decide +kernel
theorem dX7_byteAt_9 : decode cX7_byteAt 9 = .ok (.getfield 79, 3) := by decide +kernel
theorem dX7_byteAt_12 : decode cX7_byteAt 12 = .ok (.iload_n 1, 1) := by decide +kernel
theorem dX7_byteAt_13 : decode cX7_byteAt 13 = .ok (.baload, 1) := by decide +kernel
theorem dX7_byteAt_14 : decode cX7_byteAt 14 = .ok (.sipush 255, 3) := by decide +kernel
theorem dX7_byteAt_17 : decode cX7_byteAt 17 = .ok (.iand, 1) := by decide +kernel
theorem dX7_byteAt_18 : decode cX7_byteAt 18 = .ok (.goto 4, 3) := by decide +kernel
theorem dX7_byteAt_21 : decode cX7_byteAt 21 = .ok (.iconst (-1), 1) := by decide +kernel
theorem dX7_byteAt_22 : decode cX7_byteAt 22 = .ok (.ireturn, 1) := by decide +kernel
theorem dX7_nextByte_0 : decode cX7_nextByte 0 = .ok (.aload_n 0, 1) := by decide +kernel
theorem dX7_nextByte_1 : decode cX7_nextByte 1 = .ok (.aload_n 0, 1) := by decide +kernel
theorem dX7_nextByte_2 : decode cX7_nextByte 2 = .ok (.getfield 318, 3) := by decide +kernel
theorem dX7_nextByte_5 : decode cX7_nextByte 5 = .ok (.invokevirtual 321, 3) := by decide +kernel
theorem dX7_nextByte_8 : decode cX7_nextByte 8 = .ok (.bipush 32, 2) := by decide +kernel
theorem dX7_nextByte_10 : decode cX7_nextByte 10 = .ok (.if_icmp .ne 16, 3) := by decide +kernel
theorem dX7_nextByte_13 : decode cX7_nextByte 13 = .ok (.aload_n 0, 1) := by decide +kernel
theorem dX7_nextByte_14 : decode cX7_nextByte 14 = .ok (.dup, 1) := by decide +kernel
theorem dX7_nextByte_15 : decode cX7_nextByte 15 = .ok (.getfield 318, 3) := by decide +kernel
theorem dX7_nextByte_18 : decode cX7_nextByte 18 = .ok (.iconst 1, 1) := by decide +kernel
theorem dX7_nextByte_19 : decode cX7_nextByte 19 = .ok (.iadd, 1) := by decide +kernel
theorem dX7_nextByte_20 : decode cX7_nextByte 20 = .ok (.putfield 318, 3) := by decide +kernel
theorem dX7_nextByte_23 : decode cX7_nextByte 23 = .ok (.goto (-23), 3) := by decide +kernel
theorem dX7_nextByte_26 : decode cX7_nextByte 26 = .ok (.aload_n 0, 1) := by decide +kernel
theorem dX7_nextByte_27 : decode cX7_nextByte 27 = .ok (.aload_n 0, 1) := by decide +kernel
theorem dX7_nextByte_28 : decode cX7_nextByte 28 = .ok (.getfield 318, 3) := by decide +kernel
theorem dX7_nextByte_31 : decode cX7_nextByte 31 = .ok (.invokevirtual 321, 3) := by decide +kernel
theorem dX7_nextByte_34 : decode cX7_nextByte 34 = .ok (.ireturn, 1) := by decide +kernel
theorem dX7_isWord_0 : decode cX7_isWord 0 = .ok (.aload_n 0, 1) := by decide +kernel
theorem dX7_isWord_1 : decode cX7_isWord 1 = .ok (.invokevirtual 327, 3) := by decide +kernel
theorem dX7_isWord_4 : decode cX7_isWord 4 = .ok (.iconst (-1), 1) := by decide +kernel
theorem dX7_isWord_5 : decode cX7_isWord 5 = .ok (.if_icmp .ne 10, 3) := by decide +kernel
theorem dX7_isWord_8 : decode cX7_isWord 8 = .ok (.aload_n 0, 1) := by decide +kernel
theorem dX7_isWord_9 : decode cX7_isWord 9 = .ok (.getfield 292, 3) := by decide +kernel
theorem dX7_isWord_12 : decode cX7_isWord 12 = .ok (.goto 7, 3) := by decide +kernel
theorem dX7_isWord_15 : decode cX7_isWord 15 = .ok (.aload_n 0, 1) := by decide +kernel
theorem dX7_isWord_16 : decode cX7_isWord 16 = .ok (.getfield 318, 3) := by decide +kernel
theorem dX7_isWord_19 : decode cX7_isWord 19 = .ok (.istore_n 2, 1) := by decide +kernel
theorem dX7_isWord_20 : decode cX7_isWord 20 = .ok (.iconst 0, 1) := by decide +kernel
theorem dX7_isWord_21 : decode cX7_isWord 21 = .ok (.istore_n 3, 1) := by decide +kernel
theorem dX7_isWord_22 : decode cX7_isWord 22 = .ok (.iload_n 3, 1) := by decide +kernel
theorem dX7_isWord_23 : decode cX7_isWord 23 = .ok (.aload_n 1, 1) := by decide +kernel
theorem dX7_isWord_24 : decode cX7_isWord 24 = .ok (.invokevirtual 330, 3) := by decide +kernel
theorem dX7_isWord_27 : decode cX7_isWord 27 = .ok (.if_icmp .ge 24, 3) := by decide +kernel
theorem dX7_isWord_30 : decode cX7_isWord 30 = .ok (.aload_n 0, 1) := by decide +kernel
theorem dX7_isWord_31 : decode cX7_isWord 31 = .ok (.iload_n 2, 1) := by decide +kernel
theorem dX7_isWord_32 : decode cX7_isWord 32 = .ok (.iload_n 3, 1) := by decide +kernel
theorem dX7_isWord_33 : decode cX7_isWord 33 = .ok (.iadd, 1) := by decide +kernel
theorem dX7_isWord_34 : decode cX7_isWord 34 = .ok (.invokevirtual 321, 3) := by decide +kernel
theorem dX7_isWord_37 : decode cX7_isWord 37 = .ok (.aload_n 1, 1) := by decide +kernel
theorem dX7_isWord_38 : decode cX7_isWord 38 = .ok (.iload_n 3, 1) := by decide +kernel
theorem dX7_isWord_39 : decode cX7_isWord 39 = .ok (.invokevirtual 335, 3) := by decide +kernel
theorem dX7_isWord_42 : decode cX7_isWord 42 = .ok (.if_icmp .ne 9, 3) := by decide +kernel
theorem dX7_isWord_45 : decode cX7_isWord 45 = .ok (.iinc 3 1, 3) := by decide +kernel
theorem dX7_isWord_48 : decode cX7_isWord 48 = .ok (.goto (-26), 3) := by decide +kernel
theorem dX7_isWord_51 : decode cX7_isWord 51 = .ok (.iload_n 3, 1) := by decide +kernel
theorem dX7_isWord_52 : decode cX7_isWord 52 = .ok (.aload_n 1, 1) := by decide +kernel
theorem dX7_isWord_53 : decode cX7_isWord 53 = .ok (.invokevirtual 330, 3) := by decide +kernel
theorem dX7_isWord_56 : decode cX7_isWord 56 = .ok (.if_icmp .ne 27, 3) := by decide +kernel
theorem dX7_isWord_59 : decode cX7_isWord 59 = .ok (.aload_n 0, 1) := by decide +kernel
theorem dX7_isWord_60 : decode cX7_isWord 60 = .ok (.iload_n 2, 1) := by decide +kernel
theorem dX7_isWord_61 : decode cX7_isWord 61 = .ok (.iload_n 3, 1) := by decide +kernel
theorem dX7_isWord_62 : decode cX7_isWord 62 = .ok (.iadd, 1) := by decide +kernel
theorem dX7_isWord_63 : decode cX7_isWord 63 = .ok (.invokevirtual 321, 3) := by decide +kernel
theorem dX7_isWord_66 : decode cX7_isWord 66 = .ok (.i2l, 1) := by decide +kernel
theorem dX7_isWord_67 : decode cX7_isWord 67 = .ok (.ldc2_w 339, 3) := by decide +kernel
theorem dX7_isWord_70 : decode cX7_isWord 70 = .ok (.ldc2_w 341, 3) := by decide +kernel
theorem dX7_isWord_73 : decode cX7_isWord 73 = .ok (.invokestatic 96, 3) := by decide +kernel
theorem dX7_isWord_76 : decode cX7_isWord 76 = .ok (.ifCond .ne 7, 3) := by decide +kernel
theorem dX7_isWord_79 : decode cX7_isWord 79 = .ok (.iconst 1, 1) := by decide +kernel
theorem dX7_isWord_80 : decode cX7_isWord 80 = .ok (.goto 4, 3) := by decide +kernel
theorem dX7_isWord_83 : decode cX7_isWord 83 = .ok (.iconst 0, 1) := by decide +kernel
theorem dX7_isWord_84 : decode cX7_isWord 84 = .ok (.ireturn, 1) := by decide +kernel
theorem dX7_takesWord_0 : decode cX7_takesWord 0 = .ok (.aload_n 0, 1) := by decide +kernel
theorem dX7_takesWord_1 : decode cX7_takesWord 1 = .ok (.aload_n 1, 1) := by decide +kernel
theorem dX7_takesWord_2 : decode cX7_takesWord 2 = .ok (.invokevirtual 343, 3) := by decide +kernel
theorem dX7_takesWord_5 : decode cX7_takesWord 5 = .ok (.istore_n 2, 1) := by decide +kernel
theorem dX7_takesWord_6 : decode cX7_takesWord 6 = .ok (.iload_n 2, 1) := by decide +kernel
theorem dX7_takesWord_7 : decode cX7_takesWord 7 = .ok (.ifCond .eq 16, 3) := by decide +kernel
theorem dX7_takesWord_10 : decode cX7_takesWord 10 = .ok (.aload_n 0, 1) := by decide +kernel
theorem dX7_takesWord_11 : decode cX7_takesWord 11 = .ok (.dup, 1) := by decide +kernel
theorem dX7_takesWord_12 : decode cX7_takesWord 12 = .ok (.getfield 318, 3) := by decide +kernel
theorem dX7_takesWord_15 : decode cX7_takesWord 15 = .ok (.aload_n 1, 1) := by decide +kernel
theorem dX7_takesWord_16 : decode cX7_takesWord 16 = .ok (.invokevirtual 330, 3) := by decide +kernel
theorem dX7_takesWord_19 : decode cX7_takesWord 19 = .ok (.iadd, 1) := by decide +kernel
theorem dX7_takesWord_20 : decode cX7_takesWord 20 = .ok (.putfield 318, 3) := by decide +kernel
theorem dX7_takesWord_23 : decode cX7_takesWord 23 = .ok (.iload_n 2, 1) := by decide +kernel
theorem dX7_takesWord_24 : decode cX7_takesWord 24 = .ok (.ireturn, 1) := by decide +kernel
theorem dX7_mustWord_0 : decode cX7_mustWord 0 = .ok (.aload_n 0, 1) := by decide +kernel
theorem dX7_mustWord_1 : decode cX7_mustWord 1 = .ok (.aload_n 1, 1) := by decide +kernel
theorem dX7_mustWord_2 : decode cX7_mustWord 2 = .ok (.invokevirtual 347, 3) := by decide +kernel
theorem dX7_mustWord_5 : decode cX7_mustWord 5 = .ok (.ifCond .ne 15, 3) := by decide +kernel
theorem dX7_mustWord_8 : decode cX7_mustWord 8 = .ok (.aload_n 0, 1) := by decide +kernel
theorem dX7_mustWord_9 : decode cX7_mustWord 9 = .ok (.iconst 1, 1) := by decide +kernel
theorem dX7_mustWord_10 : decode cX7_mustWord 10 = .ok (.aload_n 0, 1) := by decide +kernel
theorem dX7_mustWord_11 : decode cX7_mustWord 11 = .ok (.getfield 318, 3) := by decide +kernel
theorem dX7_mustWord_14 : decode cX7_mustWord 14 = .ok (.invokevirtual 350, 3) := by decide +kernel
theorem dX7_mustWord_17 : decode cX7_mustWord 17 = .ok (.ifCond .eq 7, 3) := by decide +kernel
theorem dX7_mustWord_20 : decode cX7_mustWord 20 = .ok (.iconst 1, 1) := by decide +kernel
theorem dX7_mustWord_21 : decode cX7_mustWord 21 = .ok (.goto 4, 3) := by decide +kernel
theorem dX7_mustWord_24 : decode cX7_mustWord 24 = .ok (.iconst 0, 1) := by decide +kernel
theorem dX7_mustWord_25 : decode cX7_mustWord 25 = .ok (.ireturn, 1) := by decide +kernel
theorem dX7_readsNumber_0 : decode cX7_readsNumber 0 = .ok (.aload_n 0, 1) := by decide +kernel
theorem dX7_readsNumber_1 : decode cX7_readsNumber 1 = .ok (.invokevirtual 327, 3) := by decide +kernel
theorem dX7_readsNumber_4 : decode cX7_readsNumber 4 = .ok (.i2l, 1) := by decide +kernel
theorem dX7_readsNumber_5 : decode cX7_readsNumber 5 = .ok (.ldc2_w 353, 3) := by decide +kernel
theorem dX7_readsNumber_8 : decode cX7_readsNumber 8 = .ok (.ldc2_w 355, 3) := by decide +kernel
theorem dX7_readsNumber_11 : decode cX7_readsNumber 11 = .ok (.invokestatic 96, 3) := by decide +kernel
theorem dX7_readsNumber_14 : decode cX7_readsNumber 14 = .ok (.ifCond .ne 13, 3) := by decide +kernel
theorem dX7_readsNumber_17 : decode cX7_readsNumber 17 = .ok (.aload_n 0, 1) := by decide +kernel
theorem dX7_readsNumber_18 : decode cX7_readsNumber 18 = .ok (.iconst 1, 1) := by decide +kernel
theorem dX7_readsNumber_19 : decode cX7_readsNumber 19 = .ok (.aload_n 0, 1) := by decide +kernel
theorem dX7_readsNumber_20 : decode cX7_readsNumber 20 = .ok (.getfield 318, 3) := by decide +kernel
theorem dX7_readsNumber_23 : decode cX7_readsNumber 23 = .ok (.invokevirtual 350, 3) := by decide +kernel
theorem dX7_readsNumber_26 : decode cX7_readsNumber 26 = .ok (.ireturn, 1) := by decide +kernel
theorem dX7_readsNumber_27 : decode cX7_readsNumber 27 = .ok (.aload_n 0, 1) := by decide +kernel
theorem dX7_readsNumber_28 : decode cX7_readsNumber 28 = .ok (.aload_n 0, 1) := by decide +kernel
theorem dX7_readsNumber_29 : decode cX7_readsNumber 29 = .ok (.getfield 318, 3) := by decide +kernel
theorem dX7_readsNumber_32 : decode cX7_readsNumber 32 = .ok (.putfield 357, 3) := by decide +kernel
theorem dX7_readsNumber_35 : decode cX7_readsNumber 35 = .ok (.aload_n 0, 1) := by decide +kernel
theorem dX7_readsNumber_36 : decode cX7_readsNumber 36 = .ok (.iconst 0, 1) := by decide +kernel
theorem dX7_readsNumber_37 : decode cX7_readsNumber 37 = .ok (.putfield 360, 3) := by decide +kernel
theorem dX7_readsNumber_40 : decode cX7_readsNumber 40 = .ok (.aload_n 0, 1) := by decide +kernel
theorem dX7_readsNumber_41 : decode cX7_readsNumber 41 = .ok (.aload_n 0, 1) := by decide +kernel
theorem dX7_readsNumber_42 : decode cX7_readsNumber 42 = .ok (.getfield 318, 3) := by decide +kernel
theorem dX7_readsNumber_45 : decode cX7_readsNumber 45 = .ok (.invokevirtual 321, 3) := by decide +kernel
theorem dX7_readsNumber_48 : decode cX7_readsNumber 48 = .ok (.i2l, 1) := by decide +kernel
theorem dX7_readsNumber_49 : decode cX7_readsNumber 49 = .ok (.ldc2_w 353, 3) := by decide +kernel
theorem dX7_readsNumber_52 : decode cX7_readsNumber 52 = .ok (.ldc2_w 355, 3) := by decide +kernel
theorem dX7_readsNumber_55 : decode cX7_readsNumber 55 = .ok (.invokestatic 96, 3) := by decide +kernel
theorem dX7_readsNumber_58 : decode cX7_readsNumber 58 = .ok (.ifCond .eq 49, 3) := by decide +kernel
theorem dX7_readsNumber_61 : decode cX7_readsNumber 61 = .ok (.aload_n 0, 1) := by decide +kernel
theorem dX7_readsNumber_62 : decode cX7_readsNumber 62 = .ok (.getfield 360, 3) := by decide +kernel
theorem dX7_readsNumber_65 : decode cX7_readsNumber 65 = .ok (.ldc_w 363, 3) := by decide +kernel
theorem dX7_readsNumber_68 : decode cX7_readsNumber 68 = .ok (.if_icmp .ge 26, 3) := by decide +kernel
theorem dX7_readsNumber_71 : decode cX7_readsNumber 71 = .ok (.aload_n 0, 1) := by decide +kernel
theorem dX7_readsNumber_72 : decode cX7_readsNumber 72 = .ok (.bipush 10, 2) := by decide +kernel
theorem dX7_readsNumber_74 : decode cX7_readsNumber 74 = .ok (.aload_n 0, 1) := by decide +kernel
theorem dX7_readsNumber_75 : decode cX7_readsNumber 75 = .ok (.getfield 360, 3) := by decide +kernel
theorem dX7_readsNumber_78 : decode cX7_readsNumber 78 = .ok (.imul, 1) := by decide +kernel
theorem dX7_readsNumber_79 : decode cX7_readsNumber 79 = .ok (.aload_n 0, 1) := by decide +kernel
theorem dX7_readsNumber_80 : decode cX7_readsNumber 80 = .ok (.aload_n 0, 1) := by decide +kernel
theorem dX7_readsNumber_81 : decode cX7_readsNumber 81 = .ok (.getfield 318, 3) := by decide +kernel
theorem dX7_readsNumber_84 : decode cX7_readsNumber 84 = .ok (.invokevirtual 321, 3) := by decide +kernel
theorem dX7_readsNumber_87 : decode cX7_readsNumber 87 = .ok (.iadd, 1) := by decide +kernel
theorem dX7_readsNumber_88 : decode cX7_readsNumber 88 = .ok (.bipush 48, 2) := by decide +kernel
theorem dX7_readsNumber_90 : decode cX7_readsNumber 90 = .ok (.isub, 1) := by decide +kernel
theorem dX7_readsNumber_91 : decode cX7_readsNumber 91 = .ok (.putfield 360, 3) := by decide +kernel
theorem dX7_readsNumber_94 : decode cX7_readsNumber 94 = .ok (.aload_n 0, 1) := by decide +kernel
theorem dX7_readsNumber_95 : decode cX7_readsNumber 95 = .ok (.dup, 1) := by decide +kernel
theorem dX7_readsNumber_96 : decode cX7_readsNumber 96 = .ok (.getfield 318, 3) := by decide +kernel
theorem dX7_readsNumber_99 : decode cX7_readsNumber 99 = .ok (.iconst 1, 1) := by decide +kernel
theorem dX7_readsNumber_100 : decode cX7_readsNumber 100 = .ok (.iadd, 1) := by decide +kernel
theorem dX7_readsNumber_101 : decode cX7_readsNumber 101 = .ok (.putfield 318, 3) := by decide +kernel
theorem dX7_readsNumber_104 : decode cX7_readsNumber 104 = .ok (.goto (-64), 3) := by decide +kernel
theorem dX7_readsNumber_107 : decode cX7_readsNumber 107 = .ok (.aload_n 0, 1) := by decide +kernel
theorem dX7_readsNumber_108 : decode cX7_readsNumber 108 = .ok (.getfield 360, 3) := by decide +kernel
theorem dX7_readsNumber_111 : decode cX7_readsNumber 111 = .ok (.i2l, 1) := by decide +kernel
theorem dX7_readsNumber_112 : decode cX7_readsNumber 112 = .ok (.iload_n 1, 1) := by decide +kernel
theorem dX7_readsNumber_113 : decode cX7_readsNumber 113 = .ok (.i2l, 1) := by decide +kernel
theorem dX7_readsNumber_114 : decode cX7_readsNumber 114 = .ok (.iload_n 2, 1) := by decide +kernel
theorem dX7_readsNumber_115 : decode cX7_readsNumber 115 = .ok (.i2l, 1) := by decide +kernel
theorem dX7_readsNumber_116 : decode cX7_readsNumber 116 = .ok (.invokestatic 96, 3) := by decide +kernel
theorem dX7_readsNumber_119 : decode cX7_readsNumber 119 = .ok (.ifCond .ne 15, 3) := by decide +kernel
theorem dX7_readsNumber_122 : decode cX7_readsNumber 122 = .ok (.aload_n 0, 1) := by decide +kernel
theorem dX7_readsNumber_123 : decode cX7_readsNumber 123 = .ok (.iconst 2, 1) := by decide +kernel
theorem dX7_readsNumber_124 : decode cX7_readsNumber 124 = .ok (.aload_n 0, 1) := by decide +kernel
theorem dX7_readsNumber_125 : decode cX7_readsNumber 125 = .ok (.getfield 357, 3) := by decide +kernel
theorem dX7_readsNumber_128 : decode cX7_readsNumber 128 = .ok (.invokevirtual 350, 3) := by decide +kernel
theorem dX7_readsNumber_131 : decode cX7_readsNumber 131 = .ok (.ifCond .eq 7, 3) := by decide +kernel
theorem dX7_readsNumber_134 : decode cX7_readsNumber 134 = .ok (.iconst 1, 1) := by decide +kernel
theorem dX7_readsNumber_135 : decode cX7_readsNumber 135 = .ok (.goto 4, 3) := by decide +kernel
theorem dX7_readsNumber_138 : decode cX7_readsNumber 138 = .ok (.iconst 0, 1) := by decide +kernel
theorem dX7_readsNumber_139 : decode cX7_readsNumber 139 = .ok (.ireturn, 1) := by decide +kernel
theorem dX7_readsTo_0 : decode cX7_readsTo 0 = .ok (.aload_n 0, 1) := by decide +kernel
theorem dX7_readsTo_1 : decode cX7_readsTo 1 = .ok (.iload_n 2, 1) := by decide +kernel
theorem dX7_readsTo_2 : decode cX7_readsTo 2 = .ok (.iload_n 3, 1) := by decide +kernel
theorem dX7_readsTo_3 : decode cX7_readsTo 3 = .ok (.invokevirtual 364, 3) := by decide +kernel
theorem dX7_readsTo_6 : decode cX7_readsTo 6 = .ok (.ifCond .ne 5, 3) := by decide +kernel
theorem dX7_readsTo_9 : decode cX7_readsTo 9 = .ok (.iconst 0, 1) := by decide +kernel
theorem dX7_readsTo_10 : decode cX7_readsTo 10 = .ok (.ireturn, 1) := by decide +kernel
theorem dX7_readsTo_11 : decode cX7_readsTo 11 = .ok (.aload_n 0, 1) := by decide +kernel
theorem dX7_readsTo_12 : decode cX7_readsTo 12 = .ok (.getfield 83, 3) := by decide +kernel
theorem dX7_readsTo_15 : decode cX7_readsTo 15 = .ok (.iload_n 1, 1) := by decide +kernel
theorem dX7_readsTo_16 : decode cX7_readsTo 16 = .ok (.aload_n 0, 1) := by decide +kernel
theorem dX7_readsTo_17 : decode cX7_readsTo 17 = .ok (.getfield 360, 3) := by decide +kernel
theorem dX7_readsTo_20 : decode cX7_readsTo 20 = .ok (.iastore, 1) := by decide +kernel
theorem dX7_readsTo_21 : decode cX7_readsTo 21 = .ok (.iconst 1, 1) := by decide +kernel
theorem dX7_readsTo_22 : decode cX7_readsTo 22 = .ok (.ireturn, 1) := by decide +kernel
theorem dX7_begins_0 : decode cX7_begins 0 = .ok (.aload_n 0, 1) := by decide +kernel
theorem dX7_begins_1 : decode cX7_begins 1 = .ok (.getfield 83, 3) := by decide +kernel
theorem dX7_begins_4 : decode cX7_begins 4 = .ok (.iload_n 2, 1) := by decide +kernel
theorem dX7_begins_5 : decode cX7_begins 5 = .ok (.iaload, 1) := by decide +kernel
theorem dX7_begins_6 : decode cX7_begins 6 = .ok (.iload_n 3, 1) := by decide +kernel
theorem dX7_begins_7 : decode cX7_begins 7 = .ok (.if_icmp .ne 13, 3) := by decide +kernel
theorem dX7_begins_10 : decode cX7_begins 10 = .ok (.aload_n 0, 1) := by decide +kernel
theorem dX7_begins_11 : decode cX7_begins 11 = .ok (.iconst 3, 1) := by decide +kernel
theorem dX7_begins_12 : decode cX7_begins 12 = .ok (.aload_n 0, 1) := by decide +kernel
theorem dX7_begins_13 : decode cX7_begins 13 = .ok (.getfield 318, 3) := by decide +kernel
theorem dX7_begins_16 : decode cX7_begins 16 = .ok (.invokevirtual 350, 3) := by decide +kernel
theorem dX7_begins_19 : decode cX7_begins 19 = .ok (.ireturn, 1) := by decide +kernel
theorem dX7_begins_20 : decode cX7_begins 20 = .ok (.aload_n 0, 1) := by decide +kernel
theorem dX7_begins_21 : decode cX7_begins 21 = .ok (.dup, 1) := by decide +kernel
theorem dX7_begins_22 : decode cX7_begins 22 = .ok (.getfield 318, 3) := by decide +kernel
theorem dX7_begins_25 : decode cX7_begins 25 = .ok (.aload_n 1, 1) := by decide +kernel
theorem dX7_begins_26 : decode cX7_begins 26 = .ok (.invokevirtual 330, 3) := by decide +kernel
theorem dX7_begins_29 : decode cX7_begins 29 = .ok (.iadd, 1) := by decide +kernel
theorem dX7_begins_30 : decode cX7_begins 30 = .ok (.putfield 318, 3) := by decide +kernel
theorem dX7_begins_33 : decode cX7_begins 33 = .ok (.iconst 1, 1) := by decide +kernel
theorem dX7_begins_34 : decode cX7_begins 34 = .ok (.ireturn, 1) := by decide +kernel
theorem dX7_readsReachOf_0 : decode cX7_readsReachOf 0 = .ok (.aload_n 0, 1) := by decide +kernel
theorem dX7_readsReachOf_1 : decode cX7_readsReachOf 1 = .ok (.iload_n 1, 1) := by decide +kernel
theorem dX7_readsReachOf_2 : decode cX7_readsReachOf 2 = .ok (.iconst 0, 1) := by decide +kernel
theorem dX7_readsReachOf_3 : decode cX7_readsReachOf 3 = .ok (.aload_n 0, 1) := by decide +kernel
theorem dX7_readsReachOf_4 : decode cX7_readsReachOf 4 = .ok (.getfield 83, 3) := by decide +kernel
theorem dX7_readsReachOf_7 : decode cX7_readsReachOf 7 = .ok (.iconst 0, 1) := by decide +kernel
theorem dX7_readsReachOf_8 : decode cX7_readsReachOf 8 = .ok (.iaload, 1) := by decide +kernel
theorem dX7_readsReachOf_9 : decode cX7_readsReachOf 9 = .ok (.iconst 1, 1) := by decide +kernel
theorem dX7_readsReachOf_10 : decode cX7_readsReachOf 10 = .ok (.isub, 1) := by decide +kernel
theorem dX7_readsReachOf_11 : decode cX7_readsReachOf 11 = .ok (.invokevirtual 367, 3) := by decide +kernel
theorem dX7_readsReachOf_14 : decode cX7_readsReachOf 14 = .ok (.ireturn, 1) := by decide +kernel
theorem dX7_readsAge_0 : decode cX7_readsAge 0 = .ok (.aload_n 0, 1) := by decide +kernel
theorem dX7_readsAge_1 : decode cX7_readsAge 1 = .ok (.ldc_w 383, 3) := by decide +kernel
theorem dX7_readsAge_4 : decode cX7_readsAge 4 = .ok (.invokevirtual 385, 3) := by decide +kernel
theorem dX7_readsAge_7 : decode cX7_readsAge 7 = .ok (.ifCond .eq 14, 3) := by decide +kernel
theorem dX7_readsAge_10 : decode cX7_readsAge 10 = .ok (.aload_n 0, 1) := by decide +kernel
theorem dX7_readsAge_11 : decode cX7_readsAge 11 = .ok (.iconst 0, 1) := by decide +kernel
theorem dX7_readsAge_12 : decode cX7_readsAge 12 = .ok (.sipush 9999, 3) := by decide +kernel
theorem dX7_readsAge_15 : decode cX7_readsAge 15 = .ok (.invokevirtual 364, 3) := by decide +kernel
theorem dX7_readsAge_18 : decode cX7_readsAge 18 = .ok (.ifCond .ne 5, 3) := by decide +kernel
theorem dX7_readsAge_21 : decode cX7_readsAge 21 = .ok (.iconst 0, 1) := by decide +kernel
theorem dX7_readsAge_22 : decode cX7_readsAge 22 = .ok (.ireturn, 1) := by decide +kernel
theorem dX7_readsAge_23 : decode cX7_readsAge 23 = .ok (.iconst 0, 1) := by decide +kernel
theorem dX7_readsAge_24 : decode cX7_readsAge 24 = .ok (.istore_n 2, 1) := by decide +kernel
theorem dX7_readsAge_25 : decode cX7_readsAge 25 = .ok (.iload_n 2, 1) := by decide +kernel
theorem dX7_readsAge_26 : decode cX7_readsAge 26 = .ok (.aload_n 0, 1) := by decide +kernel
theorem dX7_readsAge_27 : decode cX7_readsAge 27 = .ok (.getfield 83, 3) := by decide +kernel
theorem dX7_readsAge_30 : decode cX7_readsAge 30 = .ok (.iconst 1, 1) := by decide +kernel
theorem dX7_readsAge_31 : decode cX7_readsAge 31 = .ok (.iaload, 1) := by decide +kernel
theorem dX7_readsAge_32 : decode cX7_readsAge 32 = .ok (.if_icmp .ge 40, 3) := by decide +kernel
theorem dX7_readsAge_35 : decode cX7_readsAge 35 = .ok (.aload_n 0, 1) := by decide +kernel
theorem dX7_readsAge_36 : decode cX7_readsAge 36 = .ok (.getfield 83, 3) := by decide +kernel
theorem dX7_readsAge_39 : decode cX7_readsAge 39 = .ok (.bipush 78, 2) := by decide +kernel
theorem dX7_readsAge_41 : decode cX7_readsAge 41 = .ok (.bipush 13, 2) := by decide +kernel
theorem dX7_readsAge_43 : decode cX7_readsAge 43 = .ok (.iload_n 2, 1) := by decide +kernel
theorem dX7_readsAge_44 : decode cX7_readsAge 44 = .ok (.imul, 1) := by decide +kernel
theorem dX7_readsAge_45 : decode cX7_readsAge 45 = .ok (.iadd, 1) := by decide +kernel
theorem dX7_readsAge_46 : decode cX7_readsAge 46 = .ok (.iconst 4, 1) := by decide +kernel
theorem dX7_readsAge_47 : decode cX7_readsAge 47 = .ok (.iadd, 1) := by decide +kernel
theorem dX7_readsAge_48 : decode cX7_readsAge 48 = .ok (.iaload, 1) := by decide +kernel
theorem dX7_readsAge_49 : decode cX7_readsAge 49 = .ok (.aload_n 0, 1) := by decide +kernel
theorem dX7_readsAge_50 : decode cX7_readsAge 50 = .ok (.getfield 360, 3) := by decide +kernel
theorem dX7_readsAge_53 : decode cX7_readsAge 53 = .ok (.if_icmp .ne 13, 3) := by decide +kernel
theorem dX7_readsAge_56 : decode cX7_readsAge 56 = .ok (.aload_n 0, 1) := by decide +kernel
theorem dX7_readsAge_57 : decode cX7_readsAge 57 = .ok (.iconst 2, 1) := by decide +kernel
theorem dX7_readsAge_58 : decode cX7_readsAge 58 = .ok (.aload_n 0, 1) := by decide +kernel
theorem dX7_readsAge_59 : decode cX7_readsAge 59 = .ok (.getfield 357, 3) := by decide +kernel
theorem dX7_readsAge_62 : decode cX7_readsAge 62 = .ok (.invokevirtual 350, 3) := by decide +kernel
theorem dX7_readsAge_65 : decode cX7_readsAge 65 = .ok (.ireturn, 1) := by decide +kernel
theorem dX7_readsAge_66 : decode cX7_readsAge 66 = .ok (.iinc 2 1, 3) := by decide +kernel
theorem dX7_readsAge_69 : decode cX7_readsAge 69 = .ok (.goto (-44), 3) := by decide +kernel
theorem dX7_readsAge_72 : decode cX7_readsAge 72 = .ok (.iconst 0, 1) := by decide +kernel
theorem dX7_readsAge_73 : decode cX7_readsAge 73 = .ok (.istore_n 2, 1) := by decide +kernel
theorem dX7_readsAge_74 : decode cX7_readsAge 74 = .ok (.iload_n 2, 1) := by decide +kernel
theorem dX7_readsAge_75 : decode cX7_readsAge 75 = .ok (.aload_n 0, 1) := by decide +kernel
theorem dX7_readsAge_76 : decode cX7_readsAge 76 = .ok (.getfield 83, 3) := by decide +kernel
theorem dX7_readsAge_79 : decode cX7_readsAge 79 = .ok (.iconst 2, 1) := by decide +kernel
theorem dX7_readsAge_80 : decode cX7_readsAge 80 = .ok (.iaload, 1) := by decide +kernel
theorem dX7_readsAge_81 : decode cX7_readsAge 81 = .ok (.if_icmp .ge 41, 3) := by decide +kernel
theorem dX7_readsAge_84 : decode cX7_readsAge 84 = .ok (.aload_n 0, 1) := by decide +kernel
theorem dX7_readsAge_85 : decode cX7_readsAge 85 = .ok (.getfield 83, 3) := by decide +kernel
theorem dX7_readsAge_88 : decode cX7_readsAge 88 = .ok (.sipush 260, 3) := by decide +kernel
theorem dX7_readsAge_91 : decode cX7_readsAge 91 = .ok (.bipush 7, 2) := by decide +kernel
theorem dX7_readsAge_93 : decode cX7_readsAge 93 = .ok (.iload_n 2, 1) := by decide +kernel
theorem dX7_readsAge_94 : decode cX7_readsAge 94 = .ok (.imul, 1) := by decide +kernel
theorem dX7_readsAge_95 : decode cX7_readsAge 95 = .ok (.iadd, 1) := by decide +kernel
theorem dX7_readsAge_96 : decode cX7_readsAge 96 = .ok (.iconst 3, 1) := by decide +kernel
theorem dX7_readsAge_97 : decode cX7_readsAge 97 = .ok (.iadd, 1) := by decide +kernel
theorem dX7_readsAge_98 : decode cX7_readsAge 98 = .ok (.iaload, 1) := by decide +kernel
theorem dX7_readsAge_99 : decode cX7_readsAge 99 = .ok (.aload_n 0, 1) := by decide +kernel
theorem dX7_readsAge_100 : decode cX7_readsAge 100 = .ok (.getfield 360, 3) := by decide +kernel
theorem dX7_readsAge_103 : decode cX7_readsAge 103 = .ok (.if_icmp .ne 13, 3) := by decide +kernel
theorem dX7_readsAge_106 : decode cX7_readsAge 106 = .ok (.aload_n 0, 1) := by decide +kernel
theorem dX7_readsAge_107 : decode cX7_readsAge 107 = .ok (.iconst 2, 1) := by decide +kernel
theorem dX7_readsAge_108 : decode cX7_readsAge 108 = .ok (.aload_n 0, 1) := by decide +kernel
theorem dX7_readsAge_109 : decode cX7_readsAge 109 = .ok (.getfield 357, 3) := by decide +kernel
theorem dX7_readsAge_112 : decode cX7_readsAge 112 = .ok (.invokevirtual 350, 3) := by decide +kernel
theorem dX7_readsAge_115 : decode cX7_readsAge 115 = .ok (.ireturn, 1) := by decide +kernel
theorem dX7_readsAge_116 : decode cX7_readsAge 116 = .ok (.iinc 2 1, 3) := by decide +kernel
theorem dX7_readsAge_119 : decode cX7_readsAge 119 = .ok (.goto (-45), 3) := by decide +kernel
theorem dX7_readsAge_122 : decode cX7_readsAge 122 = .ok (.aload_n 0, 1) := by decide +kernel
theorem dX7_readsAge_123 : decode cX7_readsAge 123 = .ok (.getfield 83, 3) := by decide +kernel
theorem dX7_readsAge_126 : decode cX7_readsAge 126 = .ok (.iload_n 1, 1) := by decide +kernel
theorem dX7_readsAge_127 : decode cX7_readsAge 127 = .ok (.aload_n 0, 1) := by decide +kernel
theorem dX7_readsAge_128 : decode cX7_readsAge 128 = .ok (.getfield 360, 3) := by decide +kernel
theorem dX7_readsAge_131 : decode cX7_readsAge 131 = .ok (.iastore, 1) := by decide +kernel
theorem dX7_readsAge_132 : decode cX7_readsAge 132 = .ok (.iconst 1, 1) := by decide +kernel
theorem dX7_readsAge_133 : decode cX7_readsAge 133 = .ok (.ireturn, 1) := by decide +kernel
theorem dX7_readsBack_0 : decode cX7_readsBack 0 = .ok (.aload_n 0, 1) := by decide +kernel
theorem dX7_readsBack_1 : decode cX7_readsBack 1 = .ok (.getfield 83, 3) := by decide +kernel
theorem dX7_readsBack_4 : decode cX7_readsBack 4 = .ok (.iload_n 1, 1) := by decide +kernel
theorem dX7_readsBack_5 : decode cX7_readsBack 5 = .ok (.bipush 7, 2) := by decide +kernel
theorem dX7_readsBack_7 : decode cX7_readsBack 7 = .ok (.iadd, 1) := by decide +kernel
theorem dX7_readsBack_8 : decode cX7_readsBack 8 = .ok (.bipush (-2), 2) := by decide +kernel
theorem dX7_readsBack_10 : decode cX7_readsBack 10 = .ok (.iastore, 1) := by decide +kernel
theorem dX7_readsBack_11 : decode cX7_readsBack 11 = .ok (.aload_n 0, 1) := by decide +kernel
theorem dX7_readsBack_12 : decode cX7_readsBack 12 = .ok (.ldc_w 388, 3) := by decide +kernel
theorem dX7_readsBack_15 : decode cX7_readsBack 15 = .ok (.invokevirtual 347, 3) := by decide +kernel
theorem dX7_readsBack_18 : decode cX7_readsBack 18 = .ok (.ifCond .ne 5, 3) := by decide +kernel
theorem dX7_readsBack_21 : decode cX7_readsBack 21 = .ok (.iconst 1, 1) := by decide +kernel
theorem dX7_readsBack_22 : decode cX7_readsBack 22 = .ok (.ireturn, 1) := by decide +kernel
theorem dX7_readsBack_23 : decode cX7_readsBack 23 = .ok (.aload_n 0, 1) := by decide +kernel
theorem dX7_readsBack_24 : decode cX7_readsBack 24 = .ok (.iload_n 1, 1) := by decide +kernel
theorem dX7_readsBack_25 : decode cX7_readsBack 25 = .ok (.bipush 7, 2) := by decide +kernel
theorem dX7_readsBack_27 : decode cX7_readsBack 27 = .ok (.iadd, 1) := by decide +kernel
theorem dX7_readsBack_28 : decode cX7_readsBack 28 = .ok (.invokevirtual 378, 3) := by decide +kernel
theorem dX7_readsBack_31 : decode cX7_readsBack 31 = .ok (.ifCond .eq 35, 3) := by decide +kernel
theorem dX7_readsBack_34 : decode cX7_readsBack 34 = .ok (.aload_n 0, 1) := by decide +kernel
theorem dX7_readsBack_35 : decode cX7_readsBack 35 = .ok (.iload_n 1, 1) := by decide +kernel
theorem dX7_readsBack_36 : decode cX7_readsBack 36 = .ok (.bipush 8, 2) := by decide +kernel
theorem dX7_readsBack_38 : decode cX7_readsBack 38 = .ok (.iadd, 1) := by decide +kernel
theorem dX7_readsBack_39 : decode cX7_readsBack 39 = .ok (.iconst 0, 1) := by decide +kernel
theorem dX7_readsBack_40 : decode cX7_readsBack 40 = .ok (.bipush 100, 2) := by decide +kernel
theorem dX7_readsBack_42 : decode cX7_readsBack 42 = .ok (.invokevirtual 367, 3) := by decide +kernel
theorem dX7_readsBack_45 : decode cX7_readsBack 45 = .ok (.ifCond .eq 21, 3) := by decide +kernel
theorem dX7_readsBack_48 : decode cX7_readsBack 48 = .ok (.aload_n 0, 1) := by decide +kernel
theorem dX7_readsBack_49 : decode cX7_readsBack 49 = .ok (.iload_n 1, 1) := by decide +kernel
theorem dX7_readsBack_50 : decode cX7_readsBack 50 = .ok (.bipush 9, 2) := by decide +kernel
theorem dX7_readsBack_52 : decode cX7_readsBack 52 = .ok (.iadd, 1) := by decide +kernel
theorem dX7_readsBack_53 : decode cX7_readsBack 53 = .ok (.iconst 1, 1) := by decide +kernel
theorem dX7_readsBack_54 : decode cX7_readsBack 54 = .ok (.bipush 30, 2) := by decide +kernel
theorem dX7_readsBack_56 : decode cX7_readsBack 56 = .ok (.invokevirtual 367, 3) := by decide +kernel
theorem dX7_readsBack_59 : decode cX7_readsBack 59 = .ok (.ifCond .eq 7, 3) := by decide +kernel
theorem dX7_readsBack_62 : decode cX7_readsBack 62 = .ok (.iconst 1, 1) := by decide +kernel
theorem dX7_readsBack_63 : decode cX7_readsBack 63 = .ok (.goto 4, 3) := by decide +kernel
theorem dX7_readsBack_66 : decode cX7_readsBack 66 = .ok (.iconst 0, 1) := by decide +kernel
theorem dX7_readsBack_67 : decode cX7_readsBack 67 = .ok (.ireturn, 1) := by decide +kernel
theorem mv_X7_byteAt : MV yX7_byteAt cX7_byteAt 2 (some .int) 1 := ⟨wd_16_5, wd_16_3, wd_16_4, wd_1_5, by decide, by decide, by decide +kernel⟩
theorem mv_X7_fails : MV yX7_fails cX7_fails 3 (some .boolean) 2 := ⟨wd_17_5, wd_17_3, wd_17_4, wd_1_5, by decide, by decide, by decide +kernel⟩
theorem mv_X7_isWord : MV yX7_isWord cX7_isWord 4 (some .boolean) 1 := ⟨wd_16_13, wd_16_11, wd_16_12, wd_1_5, by decide, by decide, by decide +kernel⟩
theorem mv_X7_mustWord : MV yX7_mustWord cX7_mustWord 2 (some .boolean) 1 := ⟨wd_18_15, wd_18_13, wd_18_14, wd_1_5, by decide, by decide, by decide +kernel⟩
theorem mv_X7_nextByte : MV yX7_nextByte cX7_nextByte 1 (some .int) 0 := ⟨wd_16_1, wd_15_23, wd_16_0, wd_1_5, by decide, by decide, by decide +kernel⟩
theorem mv_X7_readsNumber : MV yX7_readsNumber cX7_readsNumber 3 (some .boolean) 2 := ⟨wd_17_22, wd_17_20, wd_17_21, wd_1_5, by decide, by decide, by decide +kernel⟩
theorem mv_X7_readsReachOf : MV yX7_readsReachOf cX7_readsReachOf 2 (some .boolean) 1 := ⟨wd_17_13, wd_17_11, wd_17_12, wd_1_5, by decide, by decide, by decide +kernel⟩
theorem mv_X7_readsTo : MV yX7_readsTo cX7_readsTo 4 (some .boolean) 3 := ⟨wd_17_17, wd_17_15, wd_17_16, wd_1_5, by decide, by decide, by decide +kernel⟩
theorem mv_X7_takesWord : MV yX7_takesWord cX7_takesWord 3 (some .boolean) 1 := ⟨wd_17_9, wd_17_7, wd_17_8, wd_1_5, by decide, by decide, by decide +kernel⟩
set_option maxHeartbeats 4000000 in
set_option maxRecDepth 100000 in
theorem c_X7_fails (E : Ev) (nw : TD) (ws : TD) (kp : TD) (as : TD) (rd : TD) (sc : TD) (ik : TD) (un : Int × Int) (tk : Int × Int) (xt : Int × Int) (t : Int) (p : Int) (wr : Int) (nu : Int) (na : Int) (iw : Int) (T : Nat → Int32) (a0 : Nat) (a1 : Int32) (a2 : Int32) (ha0 : eT E a0 ∈ [24]) (ha1 : 1 ≤ a1.toInt ∧ a1.toInt ≤ 3) (ha2 : 0 ≤ a2.toInt ∧ a2.toInt ≤ 400) (ht : 0 ≤ t ∧ t ≤ 400) (hp : 0 ≤ p ∧ p ≤ 400) (hwr : 0 ≤ wr ∧ wr ≤ 4000) (hnu : (-2147483648) ≤ nu ∧ nu ≤ 2147483647) (hna : (-2147483648) ≤ na ∧ na ≤ 2147483647) (hiw : 0 ≤ iw ∧ iw ≤ 1) (hT : ivP 400 (-128) 127 T) (hpt : p ≤ t) : TcI E yX7_fails cX7_fails 3 .boolean ({ frames := 1, cells := 0, slots := 0, locals := 40 }) [.ref a0, .int a1, .int a2] (fun H => TH E (tbM (mD (.inl (t, t)) (.inl (p, p)) (.inl (nu, nu)) (.inl un) (.inl tk) (.inl xt) (.inl (wr, wr)) (.inl (na, na)) (.inl (iw, iw))) nw ws kp as rd sc (xB 400 T) ik) H) (fun v H => ∃ wr2 : Int, (0 ≤ wr2 ∧ wr2 ≤ 4000) ∧ (0 ≤ v.toInt ∧ v.toInt ≤ 0) ∧ (wr2 = 8 * a2.toInt + a1.toInt) ∧ TH E (tbM (mD (.inl (t, t)) (.inl (p, p)) (.inl (nu, nu)) (.inl un) (.inl tk) (.inl xt) (.inl (wr2, wr2)) (.inl (na, na)) (.inl (iw, iw))) nw ws kp as rd sc (xB 400 T) ik) H) := by
  refine teI (by decide) (Nat.le_of_ble_eq_true rfl) ?_
  intro p_ ev_ s mi_ below_ meth cd_ ls F hK hN hO hH hS hl
  have hH : TH E (tbM (mD (.inl (t, t)) (.inl (p, p)) (.inl (nu, nu)) (.inl un) (.inl tk) (.inl xt) (.inl (wr, wr)) (.inl (na, na)) (.inl (iw, iw))) nw ws kp as rd sc (xB 400 T) ik) s.heap := hH
  have hl : lv_has ls 3 [(0, .ref a0), (1, .int a1), (2, .int a2)] := hl
  refine lv_aload_n F.1 F.2.1 dX7_fails_0 rfl (lv_at hl 0 rfl) ?_
  refine lv_bipush (v := 8) F.1 F.2.1 dX7_fails_1 (by decide) ?_
  refine topK (a := 8) (by decide) (fun k_1 hk_1 => ?_)
  refine lv_iload_n F.1 F.2.1 dX7_fails_3 rfl (lv_at hl 2 rfl) ?_
  refine tMul (lo := 0) (hi := 3200) F dX7_fails_4 (eqb hk_1) ha2 rfl (fun z_2 hz_2 => ?_)
  have mz_2 : z_2.toInt = 8 * a2.toInt := by rw [hz_2.1, hk_1]
  refine lv_iload_n F.1 F.2.1 dX7_fails_5 rfl (lv_at hl 1 rfl) ?_
  refine tAdd (lo := 1) (hi := 3203) F dX7_fails_6 hz_2.2 ha1 rfl (fun z_3 hz_3 => ?_)
  obtain ⟨g_4, hg_4⟩ : ∃ y : Int, z_3.toInt = y := ⟨_, rfl⟩
  have bg_4 : 1 ≤ g_4 ∧ g_4 ≤ 3203 := by rw [← hg_4]; exact hz_3.2
  refine tPutG (j := 32) (t := 24) (fd := (.inl (g_4, g_4))) F hK hH hS (List.mem_singleton.mp ha0) (by decide) rfl rfl (fdI (by omega)) (TB1 := (tbM (mD (.inl (t, t)) (.inl (p, p)) (.inl (nu, nu)) (.inl un) (.inl tk) (.inl xt) (.inl (g_4, g_4)) (.inl (na, na)) (.inl (iw, iw))) nw ws kp as rd sc (xB 400 T) ik)) rfl clX7 (by decide) wd_15_14 rfl rfl rfl rfl dX7_fails_7 (fun H locs hH hS => ?_)
  refine lv_iconst (v := 0) F.1 F.2.1 dX7_fails_10 (by decide) ?_
  refine topK (a := 0) (by decide) (fun k_5 hk_5 => ?_)
  exact txI F hS dX7_fails_11 (nar01 (wkb (eqb hk_5) rfl rfl)) (⟨g_4, (by omega), (eqb hk_5), (by omega), hH⟩)
set_option maxHeartbeats 4000000 in
set_option maxRecDepth 100000 in
theorem c_X7_byteAt (E : Ev) (nw : TD) (ws : TD) (kp : TD) (as : TD) (rd : TD) (sc : TD) (ik : TD) (un : Int × Int) (tk : Int × Int) (xt : Int × Int) (t : Int) (p : Int) (wr : Int) (nu : Int) (na : Int) (iw : Int) (T : Nat → Int32) (kq : Int) (a0 : Nat) (a1 : Int32) (ha0 : eT E a0 ∈ [24]) (ha1 : 0 ≤ a1.toInt ∧ a1.toInt ≤ 2147483647) (ht : 0 ≤ t ∧ t ≤ 400) (hp : 0 ≤ p ∧ p ≤ 400) (hwr : 0 ≤ wr ∧ wr ≤ 4000) (hnu : (-2147483648) ≤ nu ∧ nu ≤ 2147483647) (hna : (-2147483648) ≤ na ∧ na ≤ 2147483647) (hiw : 0 ≤ iw ∧ iw ≤ 1) (hT : ivP 400 (-128) 127 T) (hpt : p ≤ t) (hkq : a1.toInt = kq) : TcI E yX7_byteAt cX7_byteAt 2 .int ({ frames := 1, cells := 0, slots := 0, locals := 40 }) [.ref a0, .int a1] (fun H => TH E (tbM (mD (.inl (t, t)) (.inl (p, p)) (.inl (nu, nu)) (.inl un) (.inl tk) (.inl xt) (.inl (wr, wr)) (.inl (na, na)) (.inl (iw, iw))) nw ws kp as rd sc (xB 400 T) ik) H) (fun v H => ((-1) ≤ v.toInt ∧ v.toInt ≤ 255) ∧ (((kq < t ∧ -128 ≤ bT T (kq) ∧ bT T (kq) ≤ 127 ∧ ((0 ≤ bT T (kq) ∧ v.toInt = bT T (kq)) ∨ (bT T (kq) < 0 ∧ v.toInt = bT T (kq) + 256))) ∨ (t ≤ kq ∧ v.toInt = -1))) ∧ TH E (tbM (mD (.inl (t, t)) (.inl (p, p)) (.inl (nu, nu)) (.inl un) (.inl tk) (.inl xt) (.inl (wr, wr)) (.inl (na, na)) (.inl (iw, iw))) nw ws kp as rd sc (xB 400 T) ik) H) := by
  refine teI (by decide) (Nat.le_of_ble_eq_true rfl) ?_
  intro p_ ev_ s mi_ below_ meth cd_ ls F hK hN hO hH hS hl
  have hH : TH E (tbM (mD (.inl (t, t)) (.inl (p, p)) (.inl (nu, nu)) (.inl un) (.inl tk) (.inl xt) (.inl (wr, wr)) (.inl (na, na)) (.inl (iw, iw))) nw ws kp as rd sc (xB 400 T) ik) s.heap := hH
  have hl : lv_has ls 2 [(0, .ref a0), (1, .int a1)] := hl
  refine lv_iload_n F.1 F.2.1 dX7_byteAt_0 rfl (lv_at hl 1 rfl) ?_
  refine lv_aload_n F.1 F.2.1 dX7_byteAt_1 rfl (lv_at hl 0 rfl) ?_
  refine tGetI (j := 30) F hK hH (tyb ha0 (all1 rfl)) rfl clX7 (by decide) wd_7_21 dX7_byteAt_2 (fun z_1 hz_1 => ?_)
  have ez_1 : 0 ≤ z_1.toInt ∧ z_1.toInt ≤ 400 := by omega
  refine b_ge (tgt := 21) F dX7_byteAt_5 (by decide) (fun c_2 => ?_) (fun c_2 => ?_)
  · skip
    refine lv_iconst (v := (-1)) F.1 F.2.1 dX7_byteAt_21 (by decide) ?_
    refine topK (a := (-1)) (by decide) (fun k_5 hk_5 => ?_)
    exact txI F hS dX7_byteAt_22 rfl (⟨(wkb (eqb hk_5) rfl rfl), (by omega), hH⟩)
  · skip
    have r_3 : 0 ≤ a1.toInt ∧ a1.toInt ≤ 399 := by have h9_ := ha1; omega
    have r_4 : 1 ≤ z_1.toInt ∧ z_1.toInt ≤ 400 := by have h9_ := ez_1; omega
    refine lv_aload_n F.1 F.2.1 dX7_byteAt_8 rfl (lv_at hl 0 rfl) ?_
    refine tGetR (j := 29) F hK hH (tyb ha0 (all1 rfl)) rfl (all1 rfl) clX7 (by decide) wd_7_4 dX7_byteAt_9 (fun q_6 hq_6 _ => ?_)
    refine lv_iload_n F.1 F.2.1 dX7_byteAt_12 rfl (lv_at hl 1 rfl) ?_
    refine tBaldX F hK hH (tyb hq_6 (all1 rfl)) (ixb (n := 400) r_3 rfl rfl) dX7_byteAt_13 (fun z_7 ez_7 => ?_)
    have bz_7 : z_7.toInt = bT T (kq) := bTof ez_7 (by omega)
    have gz_7 : z_7.toInt = gI T (a1.toInt.toNat) := by unfold gI; rw [ez_7]; rfl
    have hz_7 : (-128) ≤ z_7.toInt ∧ z_7.toInt ≤ 127 := (by have h9_ := hT (a1).toNatClampNeg (cl_lt (n := 400) (by omega)); rw [← ez_7] at h9_; exact h9_)
    refine lv_sipush (v := 255) F.1 F.2.1 dX7_byteAt_14 (by decide) ?_
    refine topK (a := 255) (by decide) (fun k_8 hk_8 => ?_)
    refine lv_iand F.1 F.2.1 dX7_byteAt_17 ?_
    refine topE (fun z_9 xz_9 => ?_)
    have ha_ := and255 xz_9 (by omega) (by omega)
    refine lv_goto (tgt := 22) F.1 F.2.1 dX7_byteAt_18 (by decide) ?_
    exact txI F hS dX7_byteAt_22 rfl (⟨(by omega), (by omega), hH⟩)
set_option maxHeartbeats 4000000 in
set_option maxRecDepth 100000 in
theorem c_X7_nextByte (E : Ev) (nw : TD) (ws : TD) (kp : TD) (as : TD) (rd : TD) (sc : TD) (ik : TD) (un : Int × Int) (tk : Int × Int) (xt : Int × Int) (t : Int) (p : Int) (wr : Int) (nu : Int) (na : Int) (iw : Int) (T : Nat → Int32) (a0 : Nat) (ha0 : eT E a0 ∈ [24]) (ht : 0 ≤ t ∧ t ≤ 400) (hp : 0 ≤ p ∧ p ≤ 400) (hwr : 0 ≤ wr ∧ wr ≤ 4000) (hnu : (-2147483648) ≤ nu ∧ nu ≤ 2147483647) (hna : (-2147483648) ≤ na ∧ na ≤ 2147483647) (hiw : 0 ≤ iw ∧ iw ≤ 1) (hT : ivP 400 (-128) 127 T) (hpt : p ≤ t) : TcI E yX7_nextByte cX7_nextByte 1 .int ({ frames := 2, cells := 0, slots := 0, locals := 61 }) [.ref a0] (fun H => TH E (tbM (mD (.inl (t, t)) (.inl (p, p)) (.inl (nu, nu)) (.inl un) (.inl tk) (.inl xt) (.inl (wr, wr)) (.inl (na, na)) (.inl (iw, iw))) nw ws kp as rd sc (xB 400 T) ik) H) (fun v H => ∃ p2 : Int, (0 ≤ p2 ∧ p2 ≤ 400 ∧ p ≤ p2 ∧ p2 ≤ t ∧ p2 = rsk T t p) ∧ ((-1) ≤ v.toInt ∧ v.toInt ≤ 255) ∧ (((p2 < t ∧ -128 ≤ bT T (p2) ∧ bT T (p2) ≤ 127 ∧ ((0 ≤ bT T (p2) ∧ v.toInt = bT T (p2)) ∨ (bT T (p2) < 0 ∧ v.toInt = bT T (p2) + 256))) ∨ (t ≤ p2 ∧ v.toInt = -1))) ∧ TH E (tbM (mD (.inl (t, t)) (.inl (p2, p2)) (.inl (nu, nu)) (.inl un) (.inl tk) (.inl xt) (.inl (wr, wr)) (.inl (na, na)) (.inl (iw, iw))) nw ws kp as rd sc (xB 400 T) ik) H) := by
  refine teI (by decide) (Nat.le_of_ble_eq_true rfl) ?_
  intro p_ ev_ s mi_ below_ meth cd_ ls F hK hN hO hH hS hl
  have hH : TH E (tbM (mD (.inl (t, t)) (.inl (p, p)) (.inl (nu, nu)) (.inl un) (.inl tk) (.inl xt) (.inl (wr, wr)) (.inl (na, na)) (.inl (iw, iw))) nw ws kp as rd sc (xB 400 T) ik) s.heap := hH
  have hl : lv_has ls 1 [(0, .ref a0)] := hl
  refine wloop (σ := Int) (fun n9 x9 H locs ls => (401 - x9).toNat < n9 ∧ (0 ≤ x9 ∧ x9 ≤ 400) ∧ (rsk T t x9 = rsk T t p) ∧ (p ≤ x9) ∧ (x9 ≤ t) ∧ TH E (tbM (mD (.inl (t, t)) (.inl (x9, x9)) (.inl (nu, nu)) (.inl un) (.inl tk) (.inl xt) (.inl (wr, wr)) (.inl (na, na)) (.inl (iw, iw))) nw ws kp as rd sc (xB 400 T) ik) H ∧ va_S (eA E s.heap.size) s.heap H locs ∧ lv_has ls 1 [(0, .ref a0)]) ?_ (fun x9 H locs ls h => absurd h.1 (Nat.not_lt_zero _)) _ (p) ⟨Nat.lt_succ_self _, (show 0 ≤ p ∧ p ≤ 400 from by omega), (show rsk T t p = rsk T t p from rfl), (show p ≤ p from by omega), (show p ≤ t from by omega), hH, hS, lv_sub hl [0] rfl⟩
  intro n_0 ih_0 g_1 H locs ls ⟨hm_0, hg_1, hcr0_0, hcr0_1, hcr0_2, hH, hS, hl⟩
  have hm_0 : (401 - g_1).toNat < n_0 + 1 := hm_0
  have hg_1 : (0 ≤ g_1 ∧ g_1 ≤ 400) := hg_1
  have hcr0_0 : (rsk T t g_1 = rsk T t p) := hcr0_0
  have hcr0_1 : (p ≤ g_1) := hcr0_1
  have hcr0_2 : (g_1 ≤ t) := hcr0_2
  have hH : TH E (tbM (mD (.inl (t, t)) (.inl (g_1, g_1)) (.inl (nu, nu)) (.inl un) (.inl tk) (.inl xt) (.inl (wr, wr)) (.inl (na, na)) (.inl (iw, iw))) nw ws kp as rd sc (xB 400 T) ik) H := hH
  have hl : lv_has ls 1 [(0, .ref a0)] := hl
  refine lv_aload_n F.1 F.2.1 dX7_nextByte_0 rfl (lv_at hl 0 rfl) ?_
  refine lv_aload_n F.1 F.2.1 dX7_nextByte_1 rfl (lv_at hl 0 rfl) ?_
  refine tGetI (j := 31) F hK hH (tyb ha0 (all1 rfl)) rfl clX7 (by decide) wd_15_21 dX7_nextByte_2 (fun z_2 hz_2 => ?_)
  have ez_2 : 0 ≤ z_2.toInt ∧ z_2.toInt ≤ 400 := by omega
  refine tVi (b := a0) (As := [.int z_2]) (rest := []) F hK hN hO (c_X7_byteAt E nw ws kp as rd sc ik un tk xt t g_1 wr nu na iw T g_1 a0 z_2 ha0 (wkb ez_2 rfl rfl) (by omega) (by omega) (by omega) (by omega) (by omega) (by omega) hT (by omega) (by omega)) mv_X7_byteAt wd_16_2 ⟨Nat.le_of_ble_eq_true rfl, Nat.le_of_ble_eq_true rfl⟩ ⟨Nat.le_of_ble_eq_true rfl, Nat.le_of_ble_eq_true rfl⟩ hH hS (tRecv hK hH (tyb ha0 (all1 rfl)) clX7) rfl hl.1 (Nat.le_of_ble_eq_true rfl) dX7_nextByte_5 (fun z_3 H locs hq hS => ?_)
  obtain ⟨f_4, f_5, hH⟩ := hq
  have hH : TH E (tbM (mD (.inl (t, t)) (.inl (g_1, g_1)) (.inl (nu, nu)) (.inl un) (.inl tk) (.inl xt) (.inl (wr, wr)) (.inl (na, na)) (.inl (iw, iw))) nw ws kp as rd sc (xB 400 T) ik) H := hH
  refine lv_bipush (v := 32) F.1 F.2.1 dX7_nextByte_8 (by decide) ?_
  refine topK (a := 32) (by decide) (fun k_6 hk_6 => ?_)
  refine b_ne (tgt := 26) F dX7_nextByte_10 (by decide) (fun c_7 => ?_) (fun c_7 => ?_)
  · skip
    refine lv_aload_n F.1 F.2.1 dX7_nextByte_26 rfl (lv_at hl 0 rfl) ?_
    refine lv_aload_n F.1 F.2.1 dX7_nextByte_27 rfl (lv_at hl 0 rfl) ?_
    refine tGetI (j := 31) F hK hH (tyb ha0 (all1 rfl)) rfl clX7 (by decide) wd_15_21 dX7_nextByte_28 (fun z_9 hz_9 => ?_)
    have ez_9 : 0 ≤ z_9.toInt ∧ z_9.toInt ≤ 400 := by omega
    refine tVi (b := a0) (As := [.int z_9]) (rest := []) F hK hN hO (c_X7_byteAt E nw ws kp as rd sc ik un tk xt t g_1 wr nu na iw T g_1 a0 z_9 ha0 (wkb ez_9 rfl rfl) (by omega) (by omega) (by omega) (by omega) (by omega) (by omega) hT (by omega) (by omega)) mv_X7_byteAt wd_16_2 ⟨Nat.le_of_ble_eq_true rfl, Nat.le_of_ble_eq_true rfl⟩ ⟨Nat.le_of_ble_eq_true rfl, Nat.le_of_ble_eq_true rfl⟩ hH hS (tRecv hK hH (tyb ha0 (all1 rfl)) clX7) rfl hl.1 (Nat.le_of_ble_eq_true rfl) dX7_nextByte_31 (fun z_10 H locs hq hS => ?_)
    obtain ⟨f_11, f_12, hH⟩ := hq
    have hH : TH E (tbM (mD (.inl (t, t)) (.inl (g_1, g_1)) (.inl (nu, nu)) (.inl un) (.inl tk) (.inl xt) (.inl (wr, wr)) (.inl (na, na)) (.inl (iw, iw))) nw ws kp as rd sc (xB 400 T) ik) H := hH
    exact txI F hS dX7_nextByte_34 rfl (⟨g_1, ⟨by omega, by omega, by omega, by omega, (skip_end hcr0_0 (by omega))⟩, f_11, (by omega), hH⟩)
  · skip
    have r_8 : 32 ≤ z_3.toInt ∧ z_3.toInt ≤ 32 := by have h9_ := f_4; omega
    refine lv_aload_n F.1 F.2.1 dX7_nextByte_13 rfl (lv_at hl 0 rfl) ?_
    refine lv_dup F.1 F.2.1 dX7_nextByte_14 rfl ?_
    refine tGetI (j := 31) F hK hH (tyb ha0 (all1 rfl)) rfl clX7 (by decide) wd_15_21 dX7_nextByte_15 (fun z_13 hz_13 => ?_)
    have ez_13 : 0 ≤ z_13.toInt ∧ z_13.toInt ≤ 400 := by omega
    refine lv_iconst (v := 1) F.1 F.2.1 dX7_nextByte_18 (by decide) ?_
    refine topK (a := 1) (by decide) (fun k_14 hk_14 => ?_)
    refine tAdd (lo := 1) (hi := 401) F dX7_nextByte_19 ez_13 (eqb hk_14) rfl (fun z_15 hz_15 => ?_)
    obtain ⟨g_16, hg_16⟩ : ∃ y : Int, z_15.toInt = y := ⟨_, rfl⟩
    have bg_16 : 1 ≤ g_16 ∧ g_16 ≤ 401 := by rw [← hg_16]; exact hz_15.2
    refine tPutG (j := 31) (t := 24) (fd := (.inl (g_16, g_16))) F hK hH hS (List.mem_singleton.mp ha0) (by decide) rfl rfl (fdI (by omega)) (TB1 := (tbM (mD (.inl (t, t)) (.inl (g_16, g_16)) (.inl (nu, nu)) (.inl un) (.inl tk) (.inl xt) (.inl (wr, wr)) (.inl (na, na)) (.inl (iw, iw))) nw ws kp as rd sc (xB 400 T) ik)) rfl clX7 (by decide) wd_15_21 rfl rfl rfl rfl dX7_nextByte_20 (fun H locs hH hS => ?_)
    refine lv_goto (tgt := 0) F.1 F.2.1 dX7_nextByte_23 (by decide) ?_
    exact ih_0 (g_16) _ _ _ ⟨(show (401 - g_16).toNat < n_0 from by omega), (show 0 ≤ g_16 ∧ g_16 ≤ 400 from by omega), (show rsk T t g_16 = rsk T t p from (skip_step hcr0_0 (by omega) (by omega) (by omega))), (show p ≤ g_16 from by omega), (show g_16 ≤ t from by omega), hH, hS, lv_sub hl [0] rfl⟩
set_option maxHeartbeats 4000000 in
set_option maxRecDepth 100000 in
theorem c_X7_isWord (E : Ev) (nw : TD) (ws : TD) (kp : TD) (as : TD) (rd : TD) (sc : TD) (ik : TD) (un : Int × Int) (tk : Int × Int) (xt : Int × Int) (t : Int) (p : Int) (wr : Int) (nu : Int) (na : Int) (iw : Int) (T : Nat → Int32) (a0 : Nat) (t1 n1 : Nat) (ha0 : eT E a0 ∈ [24]) (ha1 : strOf t1 n1) (ht : 0 ≤ t ∧ t ≤ 400) (hp : 0 ≤ p ∧ p ≤ 400) (hwr : 0 ≤ wr ∧ wr ≤ 4000) (hnu : (-2147483648) ≤ nu ∧ nu ≤ 2147483647) (hna : (-2147483648) ≤ na ∧ na ≤ 2147483647) (hiw : 0 ≤ iw ∧ iw ≤ 1) (hT : ivP 400 (-128) 127 T) (hpt : p ≤ t) : TcI E yX7_isWord cX7_isWord 4 .boolean ({ frames := 5, cells := 0, slots := 0, locals := 181 }) [.ref a0, .ref (eX E t1)] (fun H => TH E (tbM (mD (.inl (t, t)) (.inl (p, p)) (.inl (nu, nu)) (.inl un) (.inl tk) (.inl xt) (.inl (wr, wr)) (.inl (na, na)) (.inl (iw, iw))) nw ws kp as rd sc (xB 400 T) ik) H) (fun v H => ∃ p2 : Int, (0 ≤ p2 ∧ p2 ≤ 400 ∧ p ≤ p2 ∧ p2 ≤ t ∧ p2 = rsk T t p) ∧ (0 ≤ v.toInt ∧ v.toInt ≤ 1) ∧ (v.toInt = jWs T t p (txW.getD t1 [])) ∧ (v.toInt = 1 → p2 + (n1 : Int) ≤ t) ∧ TH E (tbM (mD (.inl (t, t)) (.inl (p2, p2)) (.inl (nu, nu)) (.inl un) (.inl tk) (.inl xt) (.inl (wr, wr)) (.inl (na, na)) (.inl (iw, iw))) nw ws kp as rd sc (xB 400 T) ik) H) := by
  refine teI (by decide) (Nat.le_of_ble_eq_true rfl) ?_
  intro p_ ev_ s mi_ below_ meth cd_ ls F hK hN hO hH hS hl
  have hH : TH E (tbM (mD (.inl (t, t)) (.inl (p, p)) (.inl (nu, nu)) (.inl un) (.inl tk) (.inl xt) (.inl (wr, wr)) (.inl (na, na)) (.inl (iw, iw))) nw ws kp as rd sc (xB 400 T) ik) s.heap := hH
  have hl : lv_has ls 4 [(0, .ref a0), (1, .ref (eX E t1))] := hl
  refine lv_aload_n F.1 F.2.1 dX7_isWord_0 rfl (lv_at hl 0 rfl) ?_
  refine tVi (b := a0) (As := []) (rest := []) F hK hN hO (c_X7_nextByte E nw ws kp as rd sc ik un tk xt t p wr nu na iw T a0 ha0 (by omega) (by omega) (by omega) (by omega) (by omega) (by omega) hT (by omega)) mv_X7_nextByte wd_15_22 ⟨Nat.le_of_ble_eq_true rfl, Nat.le_of_ble_eq_true rfl⟩ ⟨Nat.le_of_ble_eq_true rfl, Nat.le_of_ble_eq_true rfl⟩ hH hS (tRecv hK hH (tyb ha0 (all1 rfl)) clX7) rfl hl.1 (Nat.le_of_ble_eq_true rfl) dX7_isWord_1 (fun z_1 H locs hq hS => ?_)
  obtain ⟨g_2, hg_2, f_3, f_4, hH⟩ := hq
  have hH : TH E (tbM (mD (.inl (t, t)) (.inl (g_2, g_2)) (.inl (nu, nu)) (.inl un) (.inl tk) (.inl xt) (.inl (wr, wr)) (.inl (na, na)) (.inl (iw, iw))) nw ws kp as rd sc (xB 400 T) ik) H := hH
  refine lv_iconst (v := (-1)) F.1 F.2.1 dX7_isWord_4 (by decide) ?_
  refine topK (a := (-1)) (by decide) (fun k_5 hk_5 => ?_)
  refine b_ne (tgt := 15) F dX7_isWord_5 (by decide) (fun c_6 => ?_) (fun c_6 => ?_)
  · skip
    have r_7 : 0 ≤ z_1.toInt ∧ z_1.toInt ≤ 255 := by have h9_ := f_3; omega
    refine lv_aload_n F.1 F.2.1 dX7_isWord_15 rfl (lv_at hl 0 rfl) ?_
    refine tGetI (j := 31) F hK hH (tyb ha0 (all1 rfl)) rfl clX7 (by decide) wd_15_21 dX7_isWord_16 (fun z_9 hz_9 => ?_)
    have ez_9 : 0 ≤ z_9.toInt ∧ z_9.toInt ≤ 400 := by omega
    refine lv_istore_n (lv' := [(2, .int z_9), (0, .ref a0), (1, .ref (eX E t1))]) F.1 F.2.1 dX7_isWord_19 rfl hl (by decide) rfl (fun ls hl => ?_)
    refine lv_iconst (v := 0) F.1 F.2.1 dX7_isWord_20 (by decide) ?_
    refine topK (a := 0) (by decide) (fun k_10 hk_10 => ?_)
    refine lv_istore_n (lv' := [(3, .int k_10), (2, .int z_9), (0, .ref a0), (1, .ref (eX E t1))]) F.1 F.2.1 dX7_isWord_21 rfl hl (by decide) rfl (fun ls hl => ?_)
    refine wloop (σ := Int32) (fun n9 x9 H locs ls => (9 - x9.toInt + 1).toNat < n9 ∧ (0 ≤ x9.toInt ∧ x9.toInt ≤ 9) ∧ (kM T (txW.getD t1 []) g_2 (x9.toInt)) ∧ (g_2 + x9.toInt ≤ t) ∧ (z_9.toInt = g_2) ∧ (x9.toInt ≤ (n1 : Int)) ∧ TH E (tbM (mD (.inl (t, t)) (.inl (g_2, g_2)) (.inl (nu, nu)) (.inl un) (.inl tk) (.inl xt) (.inl (wr, wr)) (.inl (na, na)) (.inl (iw, iw))) nw ws kp as rd sc (xB 400 T) ik) H ∧ va_S (eA E s.heap.size) s.heap H locs ∧ lv_has ls 4 [(0, .ref a0), (1, .ref (eX E t1)), (2, .int z_9), (3, .int x9)]) ?_ (fun x9 H locs ls h => absurd h.1 (Nat.not_lt_zero _)) _ (k_10) ⟨Nat.lt_succ_self _, (wkb (eqb hk_10) rfl rfl), (show kM T (txW.getD t1 []) g_2 (k_10.toInt) from (kM0 (by omega))), (show g_2 + k_10.toInt ≤ t from by omega), (show z_9.toInt = g_2 from by omega), (show k_10.toInt ≤ (n1 : Int) from by omega), hH, hS, lv_sub hl [2, 3, 1, 0] rfl⟩
    intro n_22 ih_22 u_11 H locs ls ⟨hm_22, hu_11, hcr22_0, hcr22_1, hcr22_2, hcr22_3, hH, hS, hl⟩
    have hm_22 : (9 - u_11.toInt + 1).toNat < n_22 + 1 := hm_22
    have hu_11 : (0 ≤ u_11.toInt ∧ u_11.toInt ≤ 9) := hu_11
    have hcr22_0 : (kM T (txW.getD t1 []) g_2 (u_11.toInt)) := hcr22_0
    have hcr22_1 : (g_2 + u_11.toInt ≤ t) := hcr22_1
    have hcr22_2 : (z_9.toInt = g_2) := hcr22_2
    have hcr22_3 : (u_11.toInt ≤ (n1 : Int)) := hcr22_3
    have hH : TH E (tbM (mD (.inl (t, t)) (.inl (g_2, g_2)) (.inl (nu, nu)) (.inl un) (.inl tk) (.inl xt) (.inl (wr, wr)) (.inl (na, na)) (.inl (iw, iw))) nw ws kp as rd sc (xB 400 T) ik) H := hH
    have hl : lv_has ls 4 [(0, .ref a0), (1, .ref (eX E t1)), (2, .int z_9), (3, .int u_11)] := hl
    refine lv_iload_n F.1 F.2.1 dX7_isWord_22 rfl (lv_at hl 3 rfl) ?_
    refine lv_aload_n F.1 F.2.1 dX7_isWord_23 rfl (lv_at hl 1 rfl) ?_
    refine tVi (b := (eX E t1)) (As := []) (rest := [.int u_11]) F hK hN hO (c_len E (fun H => TH E (tbM (mD (.inl (t, t)) (.inl (g_2, g_2)) (.inl (nu, nu)) (.inl un) (.inl tk) (.inl xt) (.inl (wr, wr)) (.inl (na, na)) (.inl (iw, iw))) nw ws kp as rd sc (xB 400 T) ik) H) t1 n1 ha1) mv_J0_length_8abf5 wd_16_16 ⟨Nat.le_of_ble_eq_true rfl, Nat.le_of_ble_eq_true rfl⟩ ⟨Nat.le_of_ble_eq_true rfl, Nat.le_of_ble_eq_true rfl⟩ hH hS (sRecvS hO ha1 hS) rfl hl.1 (Nat.le_of_ble_eq_true rfl) dX7_isWord_24 (fun z_12 H locs hq hS => ?_)
    obtain ⟨hz_12, hH⟩ := hq
    have hH : TH E (tbM (mD (.inl (t, t)) (.inl (g_2, g_2)) (.inl (nu, nu)) (.inl un) (.inl tk) (.inl xt) (.inl (wr, wr)) (.inl (na, na)) (.inl (iw, iw))) nw ws kp as rd sc (xB 400 T) ik) H := hH
    have ez_12 : 3 ≤ z_12.toInt ∧ z_12.toInt ≤ 6 := by have h9_ := strLe ha1; omega
    refine b_ge (tgt := 51) F dX7_isWord_27 (by decide) (fun c_13 => ?_) (fun c_13 => ?_)
    · skip
      have r_14 : 3 ≤ u_11.toInt ∧ u_11.toInt ≤ 9 := by have h9_ := hu_11; omega
      refine lv_iload_n F.1 F.2.1 dX7_isWord_51 rfl (lv_at hl 3 rfl) ?_
      refine lv_aload_n F.1 F.2.1 dX7_isWord_52 rfl (lv_at hl 1 rfl) ?_
      refine tVi (b := (eX E t1)) (As := []) (rest := [.int u_11]) F hK hN hO (c_len E (fun H => TH E (tbM (mD (.inl (t, t)) (.inl (g_2, g_2)) (.inl (nu, nu)) (.inl un) (.inl tk) (.inl xt) (.inl (wr, wr)) (.inl (na, na)) (.inl (iw, iw))) nw ws kp as rd sc (xB 400 T) ik) H) t1 n1 ha1) mv_J0_length_8abf5 wd_16_16 ⟨Nat.le_of_ble_eq_true rfl, Nat.le_of_ble_eq_true rfl⟩ ⟨Nat.le_of_ble_eq_true rfl, Nat.le_of_ble_eq_true rfl⟩ hH hS (sRecvS hO ha1 hS) rfl hl.1 (Nat.le_of_ble_eq_true rfl) dX7_isWord_53 (fun z_16 H locs hq hS => ?_)
      obtain ⟨hz_16, hH⟩ := hq
      have hH : TH E (tbM (mD (.inl (t, t)) (.inl (g_2, g_2)) (.inl (nu, nu)) (.inl un) (.inl tk) (.inl xt) (.inl (wr, wr)) (.inl (na, na)) (.inl (iw, iw))) nw ws kp as rd sc (xB 400 T) ik) H := hH
      have ez_16 : 3 ≤ z_16.toInt ∧ z_16.toInt ≤ 6 := by have h9_ := strLe ha1; omega
      refine b_ne (tgt := 83) F dX7_isWord_56 (by decide) (fun c_17 => ?_) (fun c_17 => ?_)
      · skip
        refine lv_iconst (v := 0) F.1 F.2.1 dX7_isWord_83 (by decide) ?_
        refine topK (a := 0) (by decide) (fun k_19 hk_19 => ?_)
        exact txI F hS dX7_isWord_84 (nar01 (wkb (eqb hk_19) rfl rfl)) (⟨g_2, ⟨by omega, by omega, by omega, by omega, hg_2.2.2.2.2⟩, (wkb (eqb hk_19) rfl rfl), (by first | exact isw_d (txN ha1) hg_2.2.2.2.2 hcr22_0 (by omega) (by omega) (by omega) (by omega) | exact isw_c (txN ha1) hg_2.2.2.2.2 (by omega) (by omega) | exact isw_b (i := u_11.toInt) (txN ha1) hg_2.2.2.2.2 (by omega) (by omega) (by omega) (by omega)), (by omega), hH⟩)
      · skip
        have r_18 : 3 ≤ u_11.toInt ∧ u_11.toInt ≤ 6 := by have h9_ := r_14; omega
        refine lv_aload_n F.1 F.2.1 dX7_isWord_59 rfl (lv_at hl 0 rfl) ?_
        refine lv_iload_n F.1 F.2.1 dX7_isWord_60 rfl (lv_at hl 2 rfl) ?_
        refine lv_iload_n F.1 F.2.1 dX7_isWord_61 rfl (lv_at hl 3 rfl) ?_
        refine tAdd (lo := 3) (hi := 406) F dX7_isWord_62 ez_9 r_18 rfl (fun z_20 hz_20 => ?_)
        refine tVi (b := a0) (As := [.int z_20]) (rest := []) F hK hN hO (c_X7_byteAt E nw ws kp as rd sc ik un tk xt t g_2 wr nu na iw T ((g_2 + (n1 : Int))) a0 z_20 ha0 (wkb hz_20.2 rfl rfl) (by omega) (by omega) (by omega) (by omega) (by omega) (by omega) hT (by omega) (by omega)) mv_X7_byteAt wd_16_2 ⟨Nat.le_of_ble_eq_true rfl, Nat.le_of_ble_eq_true rfl⟩ ⟨Nat.le_of_ble_eq_true rfl, Nat.le_of_ble_eq_true rfl⟩ hH hS (tRecv hK hH (tyb ha0 (all1 rfl)) clX7) rfl hl.1 (Nat.le_of_ble_eq_true rfl) dX7_isWord_63 (fun z_21 H locs hq hS => ?_)
        obtain ⟨f_22, f_23, hH⟩ := hq
        have hH : TH E (tbM (mD (.inl (t, t)) (.inl (g_2, g_2)) (.inl (nu, nu)) (.inl un) (.inl tk) (.inl xt) (.inl (wr, wr)) (.inl (na, na)) (.inl (iw, iw))) nw ws kp as rd sc (xB 400 T) ik) H := hH
        refine tI2l F dX7_isWord_66 (fun w_24 hw_24 => ?_)
        refine lv_ldc2 (own := RX7) (v := 97) F.1 F.2.1 F.2.2.2.2.1 (F.2.2.2.2.2.2.1 _ wd_16_14) dX7_isWord_67 ?_
        refine topKL (a := 97) (by decide) (fun j_25 hj_25 => ?_)
        refine lv_ldc2 (own := RX7) (v := 122) F.1 F.2.1 F.2.2.2.2.1 (F.2.2.2.2.2.2.1 _ wd_16_15) dX7_isWord_70 ?_
        refine topKL (a := 122) (by decide) (fun j_26 hj_26 => ?_)
        refine tSi (As := [.long w_24, .long j_25, .long j_26]) (rest := []) F hK hN hO (c_X7_in E (mD (.inl (t, t)) (.inl (g_2, g_2)) (.inl (nu, nu)) (.inl un) (.inl tk) (.inl xt) (.inl (wr, wr)) (.inl (na, na)) (.inl (iw, iw))) nw ws kp as rd sc (xB 400 T) ik w_24 j_25 j_26) ms_X7_in wd_8_10 ⟨Nat.le_of_ble_eq_true rfl, Nat.le_of_ble_eq_true rfl⟩ ⟨Nat.le_of_ble_eq_true rfl, Nat.le_of_ble_eq_true rfl⟩ hH hS rfl hl.1 (Nat.le_of_ble_eq_true rfl) dX7_isWord_73 (fun z_27 H locs hq hS => ?_)
        obtain ⟨f_28, f_29, hH⟩ := hq
        have hH : TH E (tbM (mD (.inl (t, t)) (.inl (g_2, g_2)) (.inl (nu, nu)) (.inl un) (.inl tk) (.inl xt) (.inl (wr, wr)) (.inl (na, na)) (.inl (iw, iw))) nw ws kp as rd sc (xB 400 T) ik) H := hH
        refine z_ne (tgt := 83) F dX7_isWord_76 (by decide) (fun c_30 => ?_) (fun c_30 => ?_)
        · skip
          have r_31 : 1 ≤ z_27.toInt ∧ z_27.toInt ≤ 1 := by have h9_ := f_28; omega
          have r_32 : 97 ≤ z_21.toInt ∧ z_21.toInt ≤ 122 := by have h9_ := f_22; omega
          refine lv_iconst (v := 0) F.1 F.2.1 dX7_isWord_83 (by decide) ?_
          refine topK (a := 0) (by decide) (fun k_34 hk_34 => ?_)
          exact txI F hS dX7_isWord_84 (nar01 (wkb (eqb hk_34) rfl rfl)) (⟨g_2, ⟨by omega, by omega, by omega, by omega, hg_2.2.2.2.2⟩, (wkb (eqb hk_34) rfl rfl), (by first | exact isw_d (txN ha1) hg_2.2.2.2.2 hcr22_0 (by omega) (by omega) (by omega) (by omega) | exact isw_c (txN ha1) hg_2.2.2.2.2 (by omega) (by omega) | exact isw_b (i := u_11.toInt) (txN ha1) hg_2.2.2.2.2 (by omega) (by omega) (by omega) (by omega)), (by omega), hH⟩)
        · skip
          have r_33 : 0 ≤ z_27.toInt ∧ z_27.toInt ≤ 0 := by have h9_ := f_28; omega
          refine lv_iconst (v := 1) F.1 F.2.1 dX7_isWord_79 (by decide) ?_
          refine topK (a := 1) (by decide) (fun k_35 hk_35 => ?_)
          refine lv_goto (tgt := 84) F.1 F.2.1 dX7_isWord_80 (by decide) ?_
          exact txI F hS dX7_isWord_84 (nar01 (wkb (eqb hk_35) rfl rfl)) (⟨g_2, ⟨by omega, by omega, by omega, by omega, hg_2.2.2.2.2⟩, (wkb (eqb hk_35) rfl rfl), (by first | exact isw_d (txN ha1) hg_2.2.2.2.2 hcr22_0 (by omega) (by omega) (by omega) (by omega) | exact isw_c (txN ha1) hg_2.2.2.2.2 (by omega) (by omega) | exact isw_b (i := u_11.toInt) (txN ha1) hg_2.2.2.2.2 (by omega) (by omega) (by omega) (by omega)), (by omega), hH⟩)
    · skip
      have r_15 : 0 ≤ u_11.toInt ∧ u_11.toInt ≤ 5 := by have h9_ := hu_11; omega
      refine lv_aload_n F.1 F.2.1 dX7_isWord_30 rfl (lv_at hl 0 rfl) ?_
      refine lv_iload_n F.1 F.2.1 dX7_isWord_31 rfl (lv_at hl 2 rfl) ?_
      refine lv_iload_n F.1 F.2.1 dX7_isWord_32 rfl (lv_at hl 3 rfl) ?_
      refine tAdd (lo := 0) (hi := 405) F dX7_isWord_33 ez_9 r_15 rfl (fun z_36 hz_36 => ?_)
      refine tVi (b := a0) (As := [.int z_36]) (rest := []) F hK hN hO (c_X7_byteAt E nw ws kp as rd sc ik un tk xt t g_2 wr nu na iw T (g_2 + u_11.toInt) a0 z_36 ha0 (wkb hz_36.2 rfl rfl) (by omega) (by omega) (by omega) (by omega) (by omega) (by omega) hT (by omega) (by omega)) mv_X7_byteAt wd_16_2 ⟨Nat.le_of_ble_eq_true rfl, Nat.le_of_ble_eq_true rfl⟩ ⟨Nat.le_of_ble_eq_true rfl, Nat.le_of_ble_eq_true rfl⟩ hH hS (tRecv hK hH (tyb ha0 (all1 rfl)) clX7) rfl hl.1 (Nat.le_of_ble_eq_true rfl) dX7_isWord_34 (fun z_37 H locs hq hS => ?_)
      obtain ⟨f_38, f_39, hH⟩ := hq
      have hH : TH E (tbM (mD (.inl (t, t)) (.inl (g_2, g_2)) (.inl (nu, nu)) (.inl un) (.inl tk) (.inl xt) (.inl (wr, wr)) (.inl (na, na)) (.inl (iw, iw))) nw ws kp as rd sc (xB 400 T) ik) H := hH
      refine lv_aload_n F.1 F.2.1 dX7_isWord_37 rfl (lv_at hl 1 rfl) ?_
      refine lv_iload_n F.1 F.2.1 dX7_isWord_38 rfl (lv_at hl 3 rfl) ?_
      refine tVi (b := (eX E t1)) (As := [.int u_11]) (rest := [.int z_37]) F hK hN hO (c_chr E (fun H => TH E (tbM (mD (.inl (t, t)) (.inl (g_2, g_2)) (.inl (nu, nu)) (.inl un) (.inl tk) (.inl xt) (.inl (wr, wr)) (.inl (na, na)) (.inl (iw, iw))) nw ws kp as rd sc (xB 400 T) ik) H) t1 n1 ha1 u_11 (by omega) (by omega)) mv_J0_charAt_5068e wd_16_17 ⟨Nat.le_of_ble_eq_true rfl, Nat.le_of_ble_eq_true rfl⟩ ⟨Nat.le_of_ble_eq_true rfl, Nat.le_of_ble_eq_true rfl⟩ hH hS (sRecvS hO ha1 hS) rfl hl.1 (Nat.le_of_ble_eq_true rfl) dX7_isWord_39 (fun z_40 H locs hq hS => ?_)
      obtain ⟨hz_40, hH⟩ := hq
      have hH : TH E (tbM (mD (.inl (t, t)) (.inl (g_2, g_2)) (.inl (nu, nu)) (.inl un) (.inl tk) (.inl xt) (.inl (wr, wr)) (.inl (na, na)) (.inl (iw, iw))) nw ws kp as rd sc (xB 400 T) ik) H := hH
      have kz_40 := hz_40.2
      have hz_40 := hz_40.1
      refine b_ne (tgt := 51) F dX7_isWord_42 (by decide) (fun c_41 => ?_) (fun c_41 => ?_)
      · skip
        refine lv_iload_n F.1 F.2.1 dX7_isWord_51 rfl (lv_at hl 3 rfl) ?_
        refine lv_aload_n F.1 F.2.1 dX7_isWord_52 rfl (lv_at hl 1 rfl) ?_
        refine tVi (b := (eX E t1)) (As := []) (rest := [.int u_11]) F hK hN hO (c_len E (fun H => TH E (tbM (mD (.inl (t, t)) (.inl (g_2, g_2)) (.inl (nu, nu)) (.inl un) (.inl tk) (.inl xt) (.inl (wr, wr)) (.inl (na, na)) (.inl (iw, iw))) nw ws kp as rd sc (xB 400 T) ik) H) t1 n1 ha1) mv_J0_length_8abf5 wd_16_16 ⟨Nat.le_of_ble_eq_true rfl, Nat.le_of_ble_eq_true rfl⟩ ⟨Nat.le_of_ble_eq_true rfl, Nat.le_of_ble_eq_true rfl⟩ hH hS (sRecvS hO ha1 hS) rfl hl.1 (Nat.le_of_ble_eq_true rfl) dX7_isWord_53 (fun z_43 H locs hq hS => ?_)
        obtain ⟨hz_43, hH⟩ := hq
        have hH : TH E (tbM (mD (.inl (t, t)) (.inl (g_2, g_2)) (.inl (nu, nu)) (.inl un) (.inl tk) (.inl xt) (.inl (wr, wr)) (.inl (na, na)) (.inl (iw, iw))) nw ws kp as rd sc (xB 400 T) ik) H := hH
        have ez_43 : 3 ≤ z_43.toInt ∧ z_43.toInt ≤ 6 := by have h9_ := strLe ha1; omega
        refine b_ne (tgt := 83) F dX7_isWord_56 (by decide) (fun c_44 => ?_) (fun c_44 => ?_)
        · skip
          refine lv_iconst (v := 0) F.1 F.2.1 dX7_isWord_83 (by decide) ?_
          refine topK (a := 0) (by decide) (fun k_47 hk_47 => ?_)
          exact txI F hS dX7_isWord_84 (nar01 (wkb (eqb hk_47) rfl rfl)) (⟨g_2, ⟨by omega, by omega, by omega, by omega, hg_2.2.2.2.2⟩, (wkb (eqb hk_47) rfl rfl), (by first | exact isw_d (txN ha1) hg_2.2.2.2.2 hcr22_0 (by omega) (by omega) (by omega) (by omega) | exact isw_c (txN ha1) hg_2.2.2.2.2 (by omega) (by omega) | exact isw_b (i := u_11.toInt) (txN ha1) hg_2.2.2.2.2 (by omega) (by omega) (by omega) (by omega)), (by omega), hH⟩)
        · skip
          have r_45 : 3 ≤ u_11.toInt ∧ u_11.toInt ≤ 5 := by have h9_ := r_15; omega
          have r_46 : 3 ≤ z_43.toInt ∧ z_43.toInt ≤ 5 := by have h9_ := ez_43; omega
          refine lv_aload_n F.1 F.2.1 dX7_isWord_59 rfl (lv_at hl 0 rfl) ?_
          refine lv_iload_n F.1 F.2.1 dX7_isWord_60 rfl (lv_at hl 2 rfl) ?_
          refine lv_iload_n F.1 F.2.1 dX7_isWord_61 rfl (lv_at hl 3 rfl) ?_
          refine tAdd (lo := 3) (hi := 405) F dX7_isWord_62 ez_9 r_45 rfl (fun z_48 hz_48 => ?_)
          refine tVi (b := a0) (As := [.int z_48]) (rest := []) F hK hN hO (c_X7_byteAt E nw ws kp as rd sc ik un tk xt t g_2 wr nu na iw T ((g_2 + (n1 : Int))) a0 z_48 ha0 (wkb hz_48.2 rfl rfl) (by omega) (by omega) (by omega) (by omega) (by omega) (by omega) hT (by omega) (by omega)) mv_X7_byteAt wd_16_2 ⟨Nat.le_of_ble_eq_true rfl, Nat.le_of_ble_eq_true rfl⟩ ⟨Nat.le_of_ble_eq_true rfl, Nat.le_of_ble_eq_true rfl⟩ hH hS (tRecv hK hH (tyb ha0 (all1 rfl)) clX7) rfl hl.1 (Nat.le_of_ble_eq_true rfl) dX7_isWord_63 (fun z_49 H locs hq hS => ?_)
          obtain ⟨f_50, f_51, hH⟩ := hq
          have hH : TH E (tbM (mD (.inl (t, t)) (.inl (g_2, g_2)) (.inl (nu, nu)) (.inl un) (.inl tk) (.inl xt) (.inl (wr, wr)) (.inl (na, na)) (.inl (iw, iw))) nw ws kp as rd sc (xB 400 T) ik) H := hH
          refine tI2l F dX7_isWord_66 (fun w_52 hw_52 => ?_)
          refine lv_ldc2 (own := RX7) (v := 97) F.1 F.2.1 F.2.2.2.2.1 (F.2.2.2.2.2.2.1 _ wd_16_14) dX7_isWord_67 ?_
          refine topKL (a := 97) (by decide) (fun j_53 hj_53 => ?_)
          refine lv_ldc2 (own := RX7) (v := 122) F.1 F.2.1 F.2.2.2.2.1 (F.2.2.2.2.2.2.1 _ wd_16_15) dX7_isWord_70 ?_
          refine topKL (a := 122) (by decide) (fun j_54 hj_54 => ?_)
          refine tSi (As := [.long w_52, .long j_53, .long j_54]) (rest := []) F hK hN hO (c_X7_in E (mD (.inl (t, t)) (.inl (g_2, g_2)) (.inl (nu, nu)) (.inl un) (.inl tk) (.inl xt) (.inl (wr, wr)) (.inl (na, na)) (.inl (iw, iw))) nw ws kp as rd sc (xB 400 T) ik w_52 j_53 j_54) ms_X7_in wd_8_10 ⟨Nat.le_of_ble_eq_true rfl, Nat.le_of_ble_eq_true rfl⟩ ⟨Nat.le_of_ble_eq_true rfl, Nat.le_of_ble_eq_true rfl⟩ hH hS rfl hl.1 (Nat.le_of_ble_eq_true rfl) dX7_isWord_73 (fun z_55 H locs hq hS => ?_)
          obtain ⟨f_56, f_57, hH⟩ := hq
          have hH : TH E (tbM (mD (.inl (t, t)) (.inl (g_2, g_2)) (.inl (nu, nu)) (.inl un) (.inl tk) (.inl xt) (.inl (wr, wr)) (.inl (na, na)) (.inl (iw, iw))) nw ws kp as rd sc (xB 400 T) ik) H := hH
          refine z_ne (tgt := 83) F dX7_isWord_76 (by decide) (fun c_58 => ?_) (fun c_58 => ?_)
          · skip
            have r_59 : 1 ≤ z_55.toInt ∧ z_55.toInt ≤ 1 := by have h9_ := f_56; omega
            have r_60 : 97 ≤ z_49.toInt ∧ z_49.toInt ≤ 122 := by have h9_ := f_50; omega
            refine lv_iconst (v := 0) F.1 F.2.1 dX7_isWord_83 (by decide) ?_
            refine topK (a := 0) (by decide) (fun k_62 hk_62 => ?_)
            exact txI F hS dX7_isWord_84 (nar01 (wkb (eqb hk_62) rfl rfl)) (⟨g_2, ⟨by omega, by omega, by omega, by omega, hg_2.2.2.2.2⟩, (wkb (eqb hk_62) rfl rfl), (by first | exact isw_d (txN ha1) hg_2.2.2.2.2 hcr22_0 (by omega) (by omega) (by omega) (by omega) | exact isw_c (txN ha1) hg_2.2.2.2.2 (by omega) (by omega) | exact isw_b (i := u_11.toInt) (txN ha1) hg_2.2.2.2.2 (by omega) (by omega) (by omega) (by omega)), (by omega), hH⟩)
          · skip
            have r_61 : 0 ≤ z_55.toInt ∧ z_55.toInt ≤ 0 := by have h9_ := f_56; omega
            refine lv_iconst (v := 1) F.1 F.2.1 dX7_isWord_79 (by decide) ?_
            refine topK (a := 1) (by decide) (fun k_63 hk_63 => ?_)
            refine lv_goto (tgt := 84) F.1 F.2.1 dX7_isWord_80 (by decide) ?_
            exact txI F hS dX7_isWord_84 (nar01 (wkb (eqb hk_63) rfl rfl)) (⟨g_2, ⟨by omega, by omega, by omega, by omega, hg_2.2.2.2.2⟩, (wkb (eqb hk_63) rfl rfl), (by first | exact isw_d (txN ha1) hg_2.2.2.2.2 hcr22_0 (by omega) (by omega) (by omega) (by omega) | exact isw_c (txN ha1) hg_2.2.2.2.2 (by omega) (by omega) | exact isw_b (i := u_11.toInt) (txN ha1) hg_2.2.2.2.2 (by omega) (by omega) (by omega) (by omega)), (by omega), hH⟩)
      · skip
        have r_42 : 0 ≤ z_37.toInt ∧ z_37.toInt ≤ 127 := by have h9_ := f_38; omega
        obtain ⟨x_64, ex_64, hx_64⟩ := iincB (c := 1) (lo := 1) (hi := 6) r_15 rfl
        refine lv_iinc (v := x_64) (lv' := [(3, .int x_64), (0, .ref a0), (1, .ref (eX E t1)), (2, .int z_9)]) F.1 F.2.1 dX7_isWord_45 hl (k := 3) rfl ex_64 (by decide) rfl (fun ls hl => ?_)
        refine lv_goto (tgt := 22) F.1 F.2.1 dX7_isWord_48 (by decide) ?_
        exact ih_22 (x_64) _ _ _ ⟨(show (9 - x_64.toInt + 1).toNat < n_22 from by omega), (wkb hx_64.2 rfl rfl), (show kM T (txW.getD t1 []) g_2 (x_64.toInt) from (kM_step hcr22_0 (by omega) (by omega) (by omega))), (show g_2 + x_64.toInt ≤ t from by omega), (show z_9.toInt = g_2 from by omega), (show x_64.toInt ≤ (n1 : Int) from by omega), hH, hS, lv_sub hl [1, 2, 3, 0] rfl⟩
  · skip
    have r_8 : (-1) ≤ z_1.toInt ∧ z_1.toInt ≤ (-1) := by have h9_ := f_3; omega
    refine lv_aload_n F.1 F.2.1 dX7_isWord_8 rfl (lv_at hl 0 rfl) ?_
    refine tGetI (j := 30) F hK hH (tyb ha0 (all1 rfl)) rfl clX7 (by decide) wd_7_21 dX7_isWord_9 (fun z_65 hz_65 => ?_)
    have ez_65 : 0 ≤ z_65.toInt ∧ z_65.toInt ≤ 400 := by omega
    refine lv_goto (tgt := 19) F.1 F.2.1 dX7_isWord_12 (by decide) ?_
    refine lv_istore_n (lv' := [(2, .int z_65), (0, .ref a0), (1, .ref (eX E t1))]) F.1 F.2.1 dX7_isWord_19 rfl hl (by decide) rfl (fun ls hl => ?_)
    refine lv_iconst (v := 0) F.1 F.2.1 dX7_isWord_20 (by decide) ?_
    refine topK (a := 0) (by decide) (fun k_66 hk_66 => ?_)
    refine lv_istore_n (lv' := [(3, .int k_66), (2, .int z_65), (0, .ref a0), (1, .ref (eX E t1))]) F.1 F.2.1 dX7_isWord_21 rfl hl (by decide) rfl (fun ls hl => ?_)
    refine wloop (σ := Int32) (fun n9 x9 H locs ls => (9 - x9.toInt + 1).toNat < n9 ∧ (0 ≤ x9.toInt ∧ x9.toInt ≤ 9) ∧ (kM T (txW.getD t1 []) g_2 (x9.toInt)) ∧ (g_2 + x9.toInt ≤ t) ∧ (z_65.toInt = g_2) ∧ (x9.toInt ≤ (n1 : Int)) ∧ TH E (tbM (mD (.inl (t, t)) (.inl (g_2, g_2)) (.inl (nu, nu)) (.inl un) (.inl tk) (.inl xt) (.inl (wr, wr)) (.inl (na, na)) (.inl (iw, iw))) nw ws kp as rd sc (xB 400 T) ik) H ∧ va_S (eA E s.heap.size) s.heap H locs ∧ lv_has ls 4 [(0, .ref a0), (1, .ref (eX E t1)), (2, .int z_65), (3, .int x9)]) ?_ (fun x9 H locs ls h => absurd h.1 (Nat.not_lt_zero _)) _ (k_66) ⟨Nat.lt_succ_self _, (wkb (eqb hk_66) rfl rfl), (show kM T (txW.getD t1 []) g_2 (k_66.toInt) from (kM0 (by omega))), (show g_2 + k_66.toInt ≤ t from by omega), (show z_65.toInt = g_2 from by omega), (show k_66.toInt ≤ (n1 : Int) from by omega), hH, hS, lv_sub hl [2, 3, 1, 0] rfl⟩
    intro n_22 ih_22 u_67 H locs ls ⟨hm_22, hu_67, hcr22_0, hcr22_1, hcr22_2, hcr22_3, hH, hS, hl⟩
    have hm_22 : (9 - u_67.toInt + 1).toNat < n_22 + 1 := hm_22
    have hu_67 : (0 ≤ u_67.toInt ∧ u_67.toInt ≤ 9) := hu_67
    have hcr22_0 : (kM T (txW.getD t1 []) g_2 (u_67.toInt)) := hcr22_0
    have hcr22_1 : (g_2 + u_67.toInt ≤ t) := hcr22_1
    have hcr22_2 : (z_65.toInt = g_2) := hcr22_2
    have hcr22_3 : (u_67.toInt ≤ (n1 : Int)) := hcr22_3
    have hH : TH E (tbM (mD (.inl (t, t)) (.inl (g_2, g_2)) (.inl (nu, nu)) (.inl un) (.inl tk) (.inl xt) (.inl (wr, wr)) (.inl (na, na)) (.inl (iw, iw))) nw ws kp as rd sc (xB 400 T) ik) H := hH
    have hl : lv_has ls 4 [(0, .ref a0), (1, .ref (eX E t1)), (2, .int z_65), (3, .int u_67)] := hl
    refine lv_iload_n F.1 F.2.1 dX7_isWord_22 rfl (lv_at hl 3 rfl) ?_
    refine lv_aload_n F.1 F.2.1 dX7_isWord_23 rfl (lv_at hl 1 rfl) ?_
    refine tVi (b := (eX E t1)) (As := []) (rest := [.int u_67]) F hK hN hO (c_len E (fun H => TH E (tbM (mD (.inl (t, t)) (.inl (g_2, g_2)) (.inl (nu, nu)) (.inl un) (.inl tk) (.inl xt) (.inl (wr, wr)) (.inl (na, na)) (.inl (iw, iw))) nw ws kp as rd sc (xB 400 T) ik) H) t1 n1 ha1) mv_J0_length_8abf5 wd_16_16 ⟨Nat.le_of_ble_eq_true rfl, Nat.le_of_ble_eq_true rfl⟩ ⟨Nat.le_of_ble_eq_true rfl, Nat.le_of_ble_eq_true rfl⟩ hH hS (sRecvS hO ha1 hS) rfl hl.1 (Nat.le_of_ble_eq_true rfl) dX7_isWord_24 (fun z_68 H locs hq hS => ?_)
    obtain ⟨hz_68, hH⟩ := hq
    have hH : TH E (tbM (mD (.inl (t, t)) (.inl (g_2, g_2)) (.inl (nu, nu)) (.inl un) (.inl tk) (.inl xt) (.inl (wr, wr)) (.inl (na, na)) (.inl (iw, iw))) nw ws kp as rd sc (xB 400 T) ik) H := hH
    have ez_68 : 3 ≤ z_68.toInt ∧ z_68.toInt ≤ 6 := by have h9_ := strLe ha1; omega
    refine b_ge (tgt := 51) F dX7_isWord_27 (by decide) (fun c_69 => ?_) (fun c_69 => ?_)
    · skip
      have r_70 : 3 ≤ u_67.toInt ∧ u_67.toInt ≤ 9 := by have h9_ := hu_67; omega
      refine lv_iload_n F.1 F.2.1 dX7_isWord_51 rfl (lv_at hl 3 rfl) ?_
      refine lv_aload_n F.1 F.2.1 dX7_isWord_52 rfl (lv_at hl 1 rfl) ?_
      refine tVi (b := (eX E t1)) (As := []) (rest := [.int u_67]) F hK hN hO (c_len E (fun H => TH E (tbM (mD (.inl (t, t)) (.inl (g_2, g_2)) (.inl (nu, nu)) (.inl un) (.inl tk) (.inl xt) (.inl (wr, wr)) (.inl (na, na)) (.inl (iw, iw))) nw ws kp as rd sc (xB 400 T) ik) H) t1 n1 ha1) mv_J0_length_8abf5 wd_16_16 ⟨Nat.le_of_ble_eq_true rfl, Nat.le_of_ble_eq_true rfl⟩ ⟨Nat.le_of_ble_eq_true rfl, Nat.le_of_ble_eq_true rfl⟩ hH hS (sRecvS hO ha1 hS) rfl hl.1 (Nat.le_of_ble_eq_true rfl) dX7_isWord_53 (fun z_72 H locs hq hS => ?_)
      obtain ⟨hz_72, hH⟩ := hq
      have hH : TH E (tbM (mD (.inl (t, t)) (.inl (g_2, g_2)) (.inl (nu, nu)) (.inl un) (.inl tk) (.inl xt) (.inl (wr, wr)) (.inl (na, na)) (.inl (iw, iw))) nw ws kp as rd sc (xB 400 T) ik) H := hH
      have ez_72 : 3 ≤ z_72.toInt ∧ z_72.toInt ≤ 6 := by have h9_ := strLe ha1; omega
      refine b_ne (tgt := 83) F dX7_isWord_56 (by decide) (fun c_73 => ?_) (fun c_73 => ?_)
      · skip
        refine lv_iconst (v := 0) F.1 F.2.1 dX7_isWord_83 (by decide) ?_
        refine topK (a := 0) (by decide) (fun k_75 hk_75 => ?_)
        exact txI F hS dX7_isWord_84 (nar01 (wkb (eqb hk_75) rfl rfl)) (⟨g_2, ⟨by omega, by omega, by omega, by omega, hg_2.2.2.2.2⟩, (wkb (eqb hk_75) rfl rfl), (by first | exact isw_d (txN ha1) hg_2.2.2.2.2 hcr22_0 (by omega) (by omega) (by omega) (by omega) | exact isw_c (txN ha1) hg_2.2.2.2.2 (by omega) (by omega) | exact isw_b (i := u_67.toInt) (txN ha1) hg_2.2.2.2.2 (by omega) (by omega) (by omega) (by omega)), (by omega), hH⟩)
      · skip
        have r_74 : 3 ≤ u_67.toInt ∧ u_67.toInt ≤ 6 := by have h9_ := r_70; omega
        refine lv_aload_n F.1 F.2.1 dX7_isWord_59 rfl (lv_at hl 0 rfl) ?_
        refine lv_iload_n F.1 F.2.1 dX7_isWord_60 rfl (lv_at hl 2 rfl) ?_
        refine lv_iload_n F.1 F.2.1 dX7_isWord_61 rfl (lv_at hl 3 rfl) ?_
        refine tAdd (lo := 3) (hi := 406) F dX7_isWord_62 ez_65 r_74 rfl (fun z_76 hz_76 => ?_)
        refine tVi (b := a0) (As := [.int z_76]) (rest := []) F hK hN hO (c_X7_byteAt E nw ws kp as rd sc ik un tk xt t g_2 wr nu na iw T ((g_2 + (n1 : Int))) a0 z_76 ha0 (wkb hz_76.2 rfl rfl) (by omega) (by omega) (by omega) (by omega) (by omega) (by omega) hT (by omega) (by omega)) mv_X7_byteAt wd_16_2 ⟨Nat.le_of_ble_eq_true rfl, Nat.le_of_ble_eq_true rfl⟩ ⟨Nat.le_of_ble_eq_true rfl, Nat.le_of_ble_eq_true rfl⟩ hH hS (tRecv hK hH (tyb ha0 (all1 rfl)) clX7) rfl hl.1 (Nat.le_of_ble_eq_true rfl) dX7_isWord_63 (fun z_77 H locs hq hS => ?_)
        obtain ⟨f_78, f_79, hH⟩ := hq
        have hH : TH E (tbM (mD (.inl (t, t)) (.inl (g_2, g_2)) (.inl (nu, nu)) (.inl un) (.inl tk) (.inl xt) (.inl (wr, wr)) (.inl (na, na)) (.inl (iw, iw))) nw ws kp as rd sc (xB 400 T) ik) H := hH
        refine tI2l F dX7_isWord_66 (fun w_80 hw_80 => ?_)
        refine lv_ldc2 (own := RX7) (v := 97) F.1 F.2.1 F.2.2.2.2.1 (F.2.2.2.2.2.2.1 _ wd_16_14) dX7_isWord_67 ?_
        refine topKL (a := 97) (by decide) (fun j_81 hj_81 => ?_)
        refine lv_ldc2 (own := RX7) (v := 122) F.1 F.2.1 F.2.2.2.2.1 (F.2.2.2.2.2.2.1 _ wd_16_15) dX7_isWord_70 ?_
        refine topKL (a := 122) (by decide) (fun j_82 hj_82 => ?_)
        refine tSi (As := [.long w_80, .long j_81, .long j_82]) (rest := []) F hK hN hO (c_X7_in E (mD (.inl (t, t)) (.inl (g_2, g_2)) (.inl (nu, nu)) (.inl un) (.inl tk) (.inl xt) (.inl (wr, wr)) (.inl (na, na)) (.inl (iw, iw))) nw ws kp as rd sc (xB 400 T) ik w_80 j_81 j_82) ms_X7_in wd_8_10 ⟨Nat.le_of_ble_eq_true rfl, Nat.le_of_ble_eq_true rfl⟩ ⟨Nat.le_of_ble_eq_true rfl, Nat.le_of_ble_eq_true rfl⟩ hH hS rfl hl.1 (Nat.le_of_ble_eq_true rfl) dX7_isWord_73 (fun z_83 H locs hq hS => ?_)
        obtain ⟨f_84, f_85, hH⟩ := hq
        have hH : TH E (tbM (mD (.inl (t, t)) (.inl (g_2, g_2)) (.inl (nu, nu)) (.inl un) (.inl tk) (.inl xt) (.inl (wr, wr)) (.inl (na, na)) (.inl (iw, iw))) nw ws kp as rd sc (xB 400 T) ik) H := hH
        refine z_ne (tgt := 83) F dX7_isWord_76 (by decide) (fun c_86 => ?_) (fun c_86 => ?_)
        · skip
          have r_87 : 1 ≤ z_83.toInt ∧ z_83.toInt ≤ 1 := by have h9_ := f_84; omega
          have r_88 : 97 ≤ z_77.toInt ∧ z_77.toInt ≤ 122 := by have h9_ := f_78; omega
          refine lv_iconst (v := 0) F.1 F.2.1 dX7_isWord_83 (by decide) ?_
          refine topK (a := 0) (by decide) (fun k_90 hk_90 => ?_)
          exact txI F hS dX7_isWord_84 (nar01 (wkb (eqb hk_90) rfl rfl)) (⟨g_2, ⟨by omega, by omega, by omega, by omega, hg_2.2.2.2.2⟩, (wkb (eqb hk_90) rfl rfl), (by first | exact isw_d (txN ha1) hg_2.2.2.2.2 hcr22_0 (by omega) (by omega) (by omega) (by omega) | exact isw_c (txN ha1) hg_2.2.2.2.2 (by omega) (by omega) | exact isw_b (i := u_67.toInt) (txN ha1) hg_2.2.2.2.2 (by omega) (by omega) (by omega) (by omega)), (by omega), hH⟩)
        · skip
          have r_89 : 0 ≤ z_83.toInt ∧ z_83.toInt ≤ 0 := by have h9_ := f_84; omega
          refine lv_iconst (v := 1) F.1 F.2.1 dX7_isWord_79 (by decide) ?_
          refine topK (a := 1) (by decide) (fun k_91 hk_91 => ?_)
          refine lv_goto (tgt := 84) F.1 F.2.1 dX7_isWord_80 (by decide) ?_
          exact txI F hS dX7_isWord_84 (nar01 (wkb (eqb hk_91) rfl rfl)) (⟨g_2, ⟨by omega, by omega, by omega, by omega, hg_2.2.2.2.2⟩, (wkb (eqb hk_91) rfl rfl), (by first | exact isw_d (txN ha1) hg_2.2.2.2.2 hcr22_0 (by omega) (by omega) (by omega) (by omega) | exact isw_c (txN ha1) hg_2.2.2.2.2 (by omega) (by omega) | exact isw_b (i := u_67.toInt) (txN ha1) hg_2.2.2.2.2 (by omega) (by omega) (by omega) (by omega)), (by omega), hH⟩)
    · skip
      have r_71 : 0 ≤ u_67.toInt ∧ u_67.toInt ≤ 5 := by have h9_ := hu_67; omega
      refine lv_aload_n F.1 F.2.1 dX7_isWord_30 rfl (lv_at hl 0 rfl) ?_
      refine lv_iload_n F.1 F.2.1 dX7_isWord_31 rfl (lv_at hl 2 rfl) ?_
      refine lv_iload_n F.1 F.2.1 dX7_isWord_32 rfl (lv_at hl 3 rfl) ?_
      refine tAdd (lo := 0) (hi := 405) F dX7_isWord_33 ez_65 r_71 rfl (fun z_92 hz_92 => ?_)
      refine tVi (b := a0) (As := [.int z_92]) (rest := []) F hK hN hO (c_X7_byteAt E nw ws kp as rd sc ik un tk xt t g_2 wr nu na iw T (g_2 + u_67.toInt) a0 z_92 ha0 (wkb hz_92.2 rfl rfl) (by omega) (by omega) (by omega) (by omega) (by omega) (by omega) hT (by omega) (by omega)) mv_X7_byteAt wd_16_2 ⟨Nat.le_of_ble_eq_true rfl, Nat.le_of_ble_eq_true rfl⟩ ⟨Nat.le_of_ble_eq_true rfl, Nat.le_of_ble_eq_true rfl⟩ hH hS (tRecv hK hH (tyb ha0 (all1 rfl)) clX7) rfl hl.1 (Nat.le_of_ble_eq_true rfl) dX7_isWord_34 (fun z_93 H locs hq hS => ?_)
      obtain ⟨f_94, f_95, hH⟩ := hq
      have hH : TH E (tbM (mD (.inl (t, t)) (.inl (g_2, g_2)) (.inl (nu, nu)) (.inl un) (.inl tk) (.inl xt) (.inl (wr, wr)) (.inl (na, na)) (.inl (iw, iw))) nw ws kp as rd sc (xB 400 T) ik) H := hH
      refine lv_aload_n F.1 F.2.1 dX7_isWord_37 rfl (lv_at hl 1 rfl) ?_
      refine lv_iload_n F.1 F.2.1 dX7_isWord_38 rfl (lv_at hl 3 rfl) ?_
      refine tVi (b := (eX E t1)) (As := [.int u_67]) (rest := [.int z_93]) F hK hN hO (c_chr E (fun H => TH E (tbM (mD (.inl (t, t)) (.inl (g_2, g_2)) (.inl (nu, nu)) (.inl un) (.inl tk) (.inl xt) (.inl (wr, wr)) (.inl (na, na)) (.inl (iw, iw))) nw ws kp as rd sc (xB 400 T) ik) H) t1 n1 ha1 u_67 (by omega) (by omega)) mv_J0_charAt_5068e wd_16_17 ⟨Nat.le_of_ble_eq_true rfl, Nat.le_of_ble_eq_true rfl⟩ ⟨Nat.le_of_ble_eq_true rfl, Nat.le_of_ble_eq_true rfl⟩ hH hS (sRecvS hO ha1 hS) rfl hl.1 (Nat.le_of_ble_eq_true rfl) dX7_isWord_39 (fun z_96 H locs hq hS => ?_)
      obtain ⟨hz_96, hH⟩ := hq
      have hH : TH E (tbM (mD (.inl (t, t)) (.inl (g_2, g_2)) (.inl (nu, nu)) (.inl un) (.inl tk) (.inl xt) (.inl (wr, wr)) (.inl (na, na)) (.inl (iw, iw))) nw ws kp as rd sc (xB 400 T) ik) H := hH
      have kz_96 := hz_96.2
      have hz_96 := hz_96.1
      refine b_ne (tgt := 51) F dX7_isWord_42 (by decide) (fun c_97 => ?_) (fun c_97 => ?_)
      · skip
        refine lv_iload_n F.1 F.2.1 dX7_isWord_51 rfl (lv_at hl 3 rfl) ?_
        refine lv_aload_n F.1 F.2.1 dX7_isWord_52 rfl (lv_at hl 1 rfl) ?_
        refine tVi (b := (eX E t1)) (As := []) (rest := [.int u_67]) F hK hN hO (c_len E (fun H => TH E (tbM (mD (.inl (t, t)) (.inl (g_2, g_2)) (.inl (nu, nu)) (.inl un) (.inl tk) (.inl xt) (.inl (wr, wr)) (.inl (na, na)) (.inl (iw, iw))) nw ws kp as rd sc (xB 400 T) ik) H) t1 n1 ha1) mv_J0_length_8abf5 wd_16_16 ⟨Nat.le_of_ble_eq_true rfl, Nat.le_of_ble_eq_true rfl⟩ ⟨Nat.le_of_ble_eq_true rfl, Nat.le_of_ble_eq_true rfl⟩ hH hS (sRecvS hO ha1 hS) rfl hl.1 (Nat.le_of_ble_eq_true rfl) dX7_isWord_53 (fun z_99 H locs hq hS => ?_)
        obtain ⟨hz_99, hH⟩ := hq
        have hH : TH E (tbM (mD (.inl (t, t)) (.inl (g_2, g_2)) (.inl (nu, nu)) (.inl un) (.inl tk) (.inl xt) (.inl (wr, wr)) (.inl (na, na)) (.inl (iw, iw))) nw ws kp as rd sc (xB 400 T) ik) H := hH
        have ez_99 : 3 ≤ z_99.toInt ∧ z_99.toInt ≤ 6 := by have h9_ := strLe ha1; omega
        refine b_ne (tgt := 83) F dX7_isWord_56 (by decide) (fun c_100 => ?_) (fun c_100 => ?_)
        · skip
          refine lv_iconst (v := 0) F.1 F.2.1 dX7_isWord_83 (by decide) ?_
          refine topK (a := 0) (by decide) (fun k_103 hk_103 => ?_)
          exact txI F hS dX7_isWord_84 (nar01 (wkb (eqb hk_103) rfl rfl)) (⟨g_2, ⟨by omega, by omega, by omega, by omega, hg_2.2.2.2.2⟩, (wkb (eqb hk_103) rfl rfl), (by first | exact isw_d (txN ha1) hg_2.2.2.2.2 hcr22_0 (by omega) (by omega) (by omega) (by omega) | exact isw_c (txN ha1) hg_2.2.2.2.2 (by omega) (by omega) | exact isw_b (i := u_67.toInt) (txN ha1) hg_2.2.2.2.2 (by omega) (by omega) (by omega) (by omega)), (by omega), hH⟩)
        · skip
          have r_101 : 3 ≤ u_67.toInt ∧ u_67.toInt ≤ 5 := by have h9_ := r_71; omega
          have r_102 : 3 ≤ z_99.toInt ∧ z_99.toInt ≤ 5 := by have h9_ := ez_99; omega
          refine lv_aload_n F.1 F.2.1 dX7_isWord_59 rfl (lv_at hl 0 rfl) ?_
          refine lv_iload_n F.1 F.2.1 dX7_isWord_60 rfl (lv_at hl 2 rfl) ?_
          refine lv_iload_n F.1 F.2.1 dX7_isWord_61 rfl (lv_at hl 3 rfl) ?_
          refine tAdd (lo := 3) (hi := 405) F dX7_isWord_62 ez_65 r_101 rfl (fun z_104 hz_104 => ?_)
          refine tVi (b := a0) (As := [.int z_104]) (rest := []) F hK hN hO (c_X7_byteAt E nw ws kp as rd sc ik un tk xt t g_2 wr nu na iw T ((g_2 + (n1 : Int))) a0 z_104 ha0 (wkb hz_104.2 rfl rfl) (by omega) (by omega) (by omega) (by omega) (by omega) (by omega) hT (by omega) (by omega)) mv_X7_byteAt wd_16_2 ⟨Nat.le_of_ble_eq_true rfl, Nat.le_of_ble_eq_true rfl⟩ ⟨Nat.le_of_ble_eq_true rfl, Nat.le_of_ble_eq_true rfl⟩ hH hS (tRecv hK hH (tyb ha0 (all1 rfl)) clX7) rfl hl.1 (Nat.le_of_ble_eq_true rfl) dX7_isWord_63 (fun z_105 H locs hq hS => ?_)
          obtain ⟨f_106, f_107, hH⟩ := hq
          have hH : TH E (tbM (mD (.inl (t, t)) (.inl (g_2, g_2)) (.inl (nu, nu)) (.inl un) (.inl tk) (.inl xt) (.inl (wr, wr)) (.inl (na, na)) (.inl (iw, iw))) nw ws kp as rd sc (xB 400 T) ik) H := hH
          refine tI2l F dX7_isWord_66 (fun w_108 hw_108 => ?_)
          refine lv_ldc2 (own := RX7) (v := 97) F.1 F.2.1 F.2.2.2.2.1 (F.2.2.2.2.2.2.1 _ wd_16_14) dX7_isWord_67 ?_
          refine topKL (a := 97) (by decide) (fun j_109 hj_109 => ?_)
          refine lv_ldc2 (own := RX7) (v := 122) F.1 F.2.1 F.2.2.2.2.1 (F.2.2.2.2.2.2.1 _ wd_16_15) dX7_isWord_70 ?_
          refine topKL (a := 122) (by decide) (fun j_110 hj_110 => ?_)
          refine tSi (As := [.long w_108, .long j_109, .long j_110]) (rest := []) F hK hN hO (c_X7_in E (mD (.inl (t, t)) (.inl (g_2, g_2)) (.inl (nu, nu)) (.inl un) (.inl tk) (.inl xt) (.inl (wr, wr)) (.inl (na, na)) (.inl (iw, iw))) nw ws kp as rd sc (xB 400 T) ik w_108 j_109 j_110) ms_X7_in wd_8_10 ⟨Nat.le_of_ble_eq_true rfl, Nat.le_of_ble_eq_true rfl⟩ ⟨Nat.le_of_ble_eq_true rfl, Nat.le_of_ble_eq_true rfl⟩ hH hS rfl hl.1 (Nat.le_of_ble_eq_true rfl) dX7_isWord_73 (fun z_111 H locs hq hS => ?_)
          obtain ⟨f_112, f_113, hH⟩ := hq
          have hH : TH E (tbM (mD (.inl (t, t)) (.inl (g_2, g_2)) (.inl (nu, nu)) (.inl un) (.inl tk) (.inl xt) (.inl (wr, wr)) (.inl (na, na)) (.inl (iw, iw))) nw ws kp as rd sc (xB 400 T) ik) H := hH
          refine z_ne (tgt := 83) F dX7_isWord_76 (by decide) (fun c_114 => ?_) (fun c_114 => ?_)
          · skip
            have r_115 : 1 ≤ z_111.toInt ∧ z_111.toInt ≤ 1 := by have h9_ := f_112; omega
            have r_116 : 97 ≤ z_105.toInt ∧ z_105.toInt ≤ 122 := by have h9_ := f_106; omega
            refine lv_iconst (v := 0) F.1 F.2.1 dX7_isWord_83 (by decide) ?_
            refine topK (a := 0) (by decide) (fun k_118 hk_118 => ?_)
            exact txI F hS dX7_isWord_84 (nar01 (wkb (eqb hk_118) rfl rfl)) (⟨g_2, ⟨by omega, by omega, by omega, by omega, hg_2.2.2.2.2⟩, (wkb (eqb hk_118) rfl rfl), (by first | exact isw_d (txN ha1) hg_2.2.2.2.2 hcr22_0 (by omega) (by omega) (by omega) (by omega) | exact isw_c (txN ha1) hg_2.2.2.2.2 (by omega) (by omega) | exact isw_b (i := u_67.toInt) (txN ha1) hg_2.2.2.2.2 (by omega) (by omega) (by omega) (by omega)), (by omega), hH⟩)
          · skip
            have r_117 : 0 ≤ z_111.toInt ∧ z_111.toInt ≤ 0 := by have h9_ := f_112; omega
            refine lv_iconst (v := 1) F.1 F.2.1 dX7_isWord_79 (by decide) ?_
            refine topK (a := 1) (by decide) (fun k_119 hk_119 => ?_)
            refine lv_goto (tgt := 84) F.1 F.2.1 dX7_isWord_80 (by decide) ?_
            exact txI F hS dX7_isWord_84 (nar01 (wkb (eqb hk_119) rfl rfl)) (⟨g_2, ⟨by omega, by omega, by omega, by omega, hg_2.2.2.2.2⟩, (wkb (eqb hk_119) rfl rfl), (by first | exact isw_d (txN ha1) hg_2.2.2.2.2 hcr22_0 (by omega) (by omega) (by omega) (by omega) | exact isw_c (txN ha1) hg_2.2.2.2.2 (by omega) (by omega) | exact isw_b (i := u_67.toInt) (txN ha1) hg_2.2.2.2.2 (by omega) (by omega) (by omega) (by omega)), (by omega), hH⟩)
      · skip
        have r_98 : 0 ≤ z_93.toInt ∧ z_93.toInt ≤ 127 := by have h9_ := f_94; omega
        obtain ⟨x_120, ex_120, hx_120⟩ := iincB (c := 1) (lo := 1) (hi := 6) r_71 rfl
        refine lv_iinc (v := x_120) (lv' := [(3, .int x_120), (0, .ref a0), (1, .ref (eX E t1)), (2, .int z_65)]) F.1 F.2.1 dX7_isWord_45 hl (k := 3) rfl ex_120 (by decide) rfl (fun ls hl => ?_)
        refine lv_goto (tgt := 22) F.1 F.2.1 dX7_isWord_48 (by decide) ?_
        exact ih_22 (x_120) _ _ _ ⟨(show (9 - x_120.toInt + 1).toNat < n_22 from by omega), (wkb hx_120.2 rfl rfl), (show kM T (txW.getD t1 []) g_2 (x_120.toInt) from (kM_step hcr22_0 (by omega) (by omega) (by omega))), (show g_2 + x_120.toInt ≤ t from by omega), (show z_65.toInt = g_2 from by omega), (show x_120.toInt ≤ (n1 : Int) from by omega), hH, hS, lv_sub hl [1, 2, 3, 0] rfl⟩
set_option maxHeartbeats 4000000 in
set_option maxRecDepth 100000 in
theorem c_X7_takesWord (E : Ev) (nw : TD) (ws : TD) (kp : TD) (as : TD) (rd : TD) (sc : TD) (ik : TD) (un : Int × Int) (tk : Int × Int) (xt : Int × Int) (t : Int) (p : Int) (wr : Int) (nu : Int) (na : Int) (iw : Int) (T : Nat → Int32) (a0 : Nat) (t1 n1 : Nat) (ha0 : eT E a0 ∈ [24]) (ha1 : strOf t1 n1) (ht : 0 ≤ t ∧ t ≤ 400) (hp : 0 ≤ p ∧ p ≤ 400) (hwr : 0 ≤ wr ∧ wr ≤ 4000) (hnu : (-2147483648) ≤ nu ∧ nu ≤ 2147483647) (hna : (-2147483648) ≤ na ∧ na ≤ 2147483647) (hiw : 0 ≤ iw ∧ iw ≤ 1) (hT : ivP 400 (-128) 127 T) (hpt : p ≤ t) : TcI E yX7_takesWord cX7_takesWord 3 .boolean ({ frames := 6, cells := 0, slots := 0, locals := 204 }) [.ref a0, .ref (eX E t1)] (fun H => TH E (tbM (mD (.inl (t, t)) (.inl (p, p)) (.inl (nu, nu)) (.inl un) (.inl tk) (.inl xt) (.inl (wr, wr)) (.inl (na, na)) (.inl (iw, iw))) nw ws kp as rd sc (xB 400 T) ik) H) (fun v H => ∃ p2 : Int, (0 ≤ p2 ∧ p2 ≤ 400 ∧ p ≤ p2 ∧ p2 ≤ t ∧ p2 = jWp T t p (txW.getD t1 [])) ∧ (0 ≤ v.toInt ∧ v.toInt ≤ 1) ∧ (v.toInt = jWs T t p (txW.getD t1 [])) ∧ TH E (tbM (mD (.inl (t, t)) (.inl (p2, p2)) (.inl (nu, nu)) (.inl un) (.inl tk) (.inl xt) (.inl (wr, wr)) (.inl (na, na)) (.inl (iw, iw))) nw ws kp as rd sc (xB 400 T) ik) H) := by
  refine teI (by decide) (Nat.le_of_ble_eq_true rfl) ?_
  intro p_ ev_ s mi_ below_ meth cd_ ls F hK hN hO hH hS hl
  have hH : TH E (tbM (mD (.inl (t, t)) (.inl (p, p)) (.inl (nu, nu)) (.inl un) (.inl tk) (.inl xt) (.inl (wr, wr)) (.inl (na, na)) (.inl (iw, iw))) nw ws kp as rd sc (xB 400 T) ik) s.heap := hH
  have hl : lv_has ls 3 [(0, .ref a0), (1, .ref (eX E t1))] := hl
  refine lv_aload_n F.1 F.2.1 dX7_takesWord_0 rfl (lv_at hl 0 rfl) ?_
  refine lv_aload_n F.1 F.2.1 dX7_takesWord_1 rfl (lv_at hl 1 rfl) ?_
  refine tVi (b := a0) (As := [.ref (eX E t1)]) (rest := []) F hK hN hO (c_X7_isWord E nw ws kp as rd sc ik un tk xt t p wr nu na iw T a0 t1 n1 ha0 ha1 (by omega) (by omega) (by omega) (by omega) (by omega) (by omega) hT (by omega)) mv_X7_isWord wd_16_10 ⟨Nat.le_of_ble_eq_true rfl, Nat.le_of_ble_eq_true rfl⟩ ⟨Nat.le_of_ble_eq_true rfl, Nat.le_of_ble_eq_true rfl⟩ hH hS (tRecv hK hH (tyb ha0 (all1 rfl)) clX7) rfl hl.1 (Nat.le_of_ble_eq_true rfl) dX7_takesWord_2 (fun z_1 H locs hq hS => ?_)
  obtain ⟨g_2, hg_2, f_3, f_4, f_5, hH⟩ := hq
  have hH : TH E (tbM (mD (.inl (t, t)) (.inl (g_2, g_2)) (.inl (nu, nu)) (.inl un) (.inl tk) (.inl xt) (.inl (wr, wr)) (.inl (na, na)) (.inl (iw, iw))) nw ws kp as rd sc (xB 400 T) ik) H := hH
  refine lv_istore_n (lv' := [(2, .int z_1), (0, .ref a0), (1, .ref (eX E t1))]) F.1 F.2.1 dX7_takesWord_5 rfl hl (by decide) rfl (fun ls hl => ?_)
  refine lv_iload_n F.1 F.2.1 dX7_takesWord_6 rfl (lv_at hl 0 rfl) ?_
  refine z_eq (tgt := 23) F dX7_takesWord_7 (by decide) (fun c_6 => ?_) (fun c_6 => ?_)
  · skip
    have r_7 : 0 ≤ z_1.toInt ∧ z_1.toInt ≤ 0 := by have h9_ := f_3; omega
    refine lv_iload_n F.1 F.2.1 dX7_takesWord_23 rfl (lv_at hl 0 rfl) ?_
    exact txI F hS dX7_takesWord_24 (nar01 (wkb r_7 rfl rfl)) (⟨g_2, ⟨by omega, by omega, by omega, by omega, (takes_k (txN ha1) hg_2.2.2.2.2 f_4 (by omega))⟩, (wkb r_7 rfl rfl), f_4, hH⟩)
  · skip
    have r_8 : 1 ≤ z_1.toInt ∧ z_1.toInt ≤ 1 := by have h9_ := f_3; omega
    refine lv_aload_n F.1 F.2.1 dX7_takesWord_10 rfl (lv_at hl 1 rfl) ?_
    refine lv_dup F.1 F.2.1 dX7_takesWord_11 rfl ?_
    refine tGetI (j := 31) F hK hH (tyb ha0 (all1 rfl)) rfl clX7 (by decide) wd_15_21 dX7_takesWord_12 (fun z_9 hz_9 => ?_)
    have ez_9 : 0 ≤ z_9.toInt ∧ z_9.toInt ≤ 400 := by omega
    refine lv_aload_n F.1 F.2.1 dX7_takesWord_15 rfl (lv_at hl 2 rfl) ?_
    refine tVi (b := (eX E t1)) (As := []) (rest := [.int z_9, .ref a0]) F hK hN hO (c_len E (fun H => TH E (tbM (mD (.inl (t, t)) (.inl (g_2, g_2)) (.inl (nu, nu)) (.inl un) (.inl tk) (.inl xt) (.inl (wr, wr)) (.inl (na, na)) (.inl (iw, iw))) nw ws kp as rd sc (xB 400 T) ik) H) t1 n1 ha1) mv_J0_length_8abf5 wd_16_16 ⟨Nat.le_of_ble_eq_true rfl, Nat.le_of_ble_eq_true rfl⟩ ⟨Nat.le_of_ble_eq_true rfl, Nat.le_of_ble_eq_true rfl⟩ hH hS (sRecvS hO ha1 hS) rfl hl.1 (Nat.le_of_ble_eq_true rfl) dX7_takesWord_16 (fun z_10 H locs hq hS => ?_)
    obtain ⟨hz_10, hH⟩ := hq
    have hH : TH E (tbM (mD (.inl (t, t)) (.inl (g_2, g_2)) (.inl (nu, nu)) (.inl un) (.inl tk) (.inl xt) (.inl (wr, wr)) (.inl (na, na)) (.inl (iw, iw))) nw ws kp as rd sc (xB 400 T) ik) H := hH
    have ez_10 : 3 ≤ z_10.toInt ∧ z_10.toInt ≤ 6 := by have h9_ := strLe ha1; omega
    refine tAdd (lo := 3) (hi := 406) F dX7_takesWord_19 ez_9 ez_10 rfl (fun z_11 hz_11 => ?_)
    obtain ⟨g_12, hg_12⟩ : ∃ y : Int, z_11.toInt = y := ⟨_, rfl⟩
    have bg_12 : 3 ≤ g_12 ∧ g_12 ≤ 406 := by rw [← hg_12]; exact hz_11.2
    refine tPutG (j := 31) (t := 24) (fd := (.inl (g_12, g_12))) F hK hH hS (List.mem_singleton.mp ha0) (by decide) rfl rfl (fdI (by omega)) (TB1 := (tbM (mD (.inl (t, t)) (.inl (g_12, g_12)) (.inl (nu, nu)) (.inl un) (.inl tk) (.inl xt) (.inl (wr, wr)) (.inl (na, na)) (.inl (iw, iw))) nw ws kp as rd sc (xB 400 T) ik)) rfl clX7 (by decide) wd_15_21 rfl rfl rfl rfl dX7_takesWord_20 (fun H locs hH hS => ?_)
    refine lv_iload_n F.1 F.2.1 dX7_takesWord_23 rfl (lv_at hl 0 rfl) ?_
    exact txI F hS dX7_takesWord_24 (nar01 (wkb r_8 rfl rfl)) (⟨g_12, ⟨by omega, by omega, by omega, by omega, (takes_k (txN ha1) hg_2.2.2.2.2 f_4 (by omega))⟩, (wkb r_8 rfl rfl), f_4, hH⟩)
set_option maxHeartbeats 4000000 in
set_option maxRecDepth 100000 in
theorem c_X7_mustWord (E : Ev) (nw : TD) (ws : TD) (kp : TD) (as : TD) (rd : TD) (sc : TD) (ik : TD) (un : Int × Int) (tk : Int × Int) (xt : Int × Int) (t : Int) (p : Int) (wr : Int) (nu : Int) (na : Int) (iw : Int) (T : Nat → Int32) (a0 : Nat) (t1 n1 : Nat) (ha0 : eT E a0 ∈ [24]) (ha1 : strOf t1 n1) (ht : 0 ≤ t ∧ t ≤ 400) (hp : 0 ≤ p ∧ p ≤ 400) (hwr : 0 ≤ wr ∧ wr ≤ 4000) (hnu : (-2147483648) ≤ nu ∧ nu ≤ 2147483647) (hna : (-2147483648) ≤ na ∧ na ≤ 2147483647) (hiw : 0 ≤ iw ∧ iw ≤ 1) (hT : ivP 400 (-128) 127 T) (hpt : p ≤ t) : TcI E yX7_mustWord cX7_mustWord 2 .boolean ({ frames := 7, cells := 0, slots := 0, locals := 226 }) [.ref a0, .ref (eX E t1)] (fun H => TH E (tbM (mD (.inl (t, t)) (.inl (p, p)) (.inl (nu, nu)) (.inl un) (.inl tk) (.inl xt) (.inl (wr, wr)) (.inl (na, na)) (.inl (iw, iw))) nw ws kp as rd sc (xB 400 T) ik) H) (fun v H => ∃ p2 : Int, (0 ≤ p2 ∧ p2 ≤ 400 ∧ p ≤ p2 ∧ p2 ≤ t ∧ p2 = jWp T t p (txW.getD t1 [])) ∧ ∃ wr2 : Int, (0 ≤ wr2 ∧ wr2 ≤ 4000) ∧ (0 ≤ v.toInt ∧ v.toInt ≤ 1) ∧ (v.toInt = jWs T t p (txW.getD t1 [])) ∧ (v.toInt = 1 ∨ (v.toInt = 0 ∧ wr2 = 8 * p2 + 1)) ∧ TH E (tbM (mD (.inl (t, t)) (.inl (p2, p2)) (.inl (nu, nu)) (.inl un) (.inl tk) (.inl xt) (.inl (wr2, wr2)) (.inl (na, na)) (.inl (iw, iw))) nw ws kp as rd sc (xB 400 T) ik) H) := by
  refine teI (by decide) (Nat.le_of_ble_eq_true rfl) ?_
  intro p_ ev_ s mi_ below_ meth cd_ ls F hK hN hO hH hS hl
  have hH : TH E (tbM (mD (.inl (t, t)) (.inl (p, p)) (.inl (nu, nu)) (.inl un) (.inl tk) (.inl xt) (.inl (wr, wr)) (.inl (na, na)) (.inl (iw, iw))) nw ws kp as rd sc (xB 400 T) ik) s.heap := hH
  have hl : lv_has ls 2 [(0, .ref a0), (1, .ref (eX E t1))] := hl
  refine lv_aload_n F.1 F.2.1 dX7_mustWord_0 rfl (lv_at hl 0 rfl) ?_
  refine lv_aload_n F.1 F.2.1 dX7_mustWord_1 rfl (lv_at hl 1 rfl) ?_
  refine tVi (b := a0) (As := [.ref (eX E t1)]) (rest := []) F hK hN hO (c_X7_takesWord E nw ws kp as rd sc ik un tk xt t p wr nu na iw T a0 t1 n1 ha0 ha1 (by omega) (by omega) (by omega) (by omega) (by omega) (by omega) hT (by omega)) mv_X7_takesWord wd_17_6 ⟨Nat.le_of_ble_eq_true rfl, Nat.le_of_ble_eq_true rfl⟩ ⟨Nat.le_of_ble_eq_true rfl, Nat.le_of_ble_eq_true rfl⟩ hH hS (tRecv hK hH (tyb ha0 (all1 rfl)) clX7) rfl hl.1 (Nat.le_of_ble_eq_true rfl) dX7_mustWord_2 (fun z_1 H locs hq hS => ?_)
  obtain ⟨g_2, hg_2, f_3, f_4, hH⟩ := hq
  have hH : TH E (tbM (mD (.inl (t, t)) (.inl (g_2, g_2)) (.inl (nu, nu)) (.inl un) (.inl tk) (.inl xt) (.inl (wr, wr)) (.inl (na, na)) (.inl (iw, iw))) nw ws kp as rd sc (xB 400 T) ik) H := hH
  refine z_ne (tgt := 20) F dX7_mustWord_5 (by decide) (fun c_5 => ?_) (fun c_5 => ?_)
  · skip
    have r_6 : 1 ≤ z_1.toInt ∧ z_1.toInt ≤ 1 := by have h9_ := f_3; omega
    refine lv_iconst (v := 1) F.1 F.2.1 dX7_mustWord_20 (by decide) ?_
    refine topK (a := 1) (by decide) (fun k_8 hk_8 => ?_)
    refine lv_goto (tgt := 25) F.1 F.2.1 dX7_mustWord_21 (by decide) ?_
    exact txI F hS dX7_mustWord_25 (nar01 (wkb (eqb hk_8) rfl rfl)) (⟨g_2, ⟨by omega, by omega, by omega, by omega, hg_2.2.2.2.2⟩, wr, (by omega), (wkb (eqb hk_8) rfl rfl), (by have h9_ := f_4; omega), (by omega), hH⟩)
  · skip
    have r_7 : 0 ≤ z_1.toInt ∧ z_1.toInt ≤ 0 := by have h9_ := f_3; omega
    refine lv_aload_n F.1 F.2.1 dX7_mustWord_8 rfl (lv_at hl 0 rfl) ?_
    refine lv_iconst (v := 1) F.1 F.2.1 dX7_mustWord_9 (by decide) ?_
    refine topK (a := 1) (by decide) (fun k_9 hk_9 => ?_)
    refine lv_aload_n F.1 F.2.1 dX7_mustWord_10 rfl (lv_at hl 0 rfl) ?_
    refine tGetI (j := 31) F hK hH (tyb ha0 (all1 rfl)) rfl clX7 (by decide) wd_15_21 dX7_mustWord_11 (fun z_10 hz_10 => ?_)
    have ez_10 : 0 ≤ z_10.toInt ∧ z_10.toInt ≤ 400 := by omega
    refine tVi (b := a0) (As := [.int k_9, .int z_10]) (rest := []) F hK hN hO (c_X7_fails E nw ws kp as rd sc ik un tk xt t g_2 wr nu na iw T a0 k_9 z_10 ha0 (wkb (eqb hk_9) rfl rfl) ez_10 (by omega) (by omega) (by omega) (by omega) (by omega) (by omega) hT (by omega)) mv_X7_fails wd_17_2 ⟨Nat.le_of_ble_eq_true rfl, Nat.le_of_ble_eq_true rfl⟩ ⟨Nat.le_of_ble_eq_true rfl, Nat.le_of_ble_eq_true rfl⟩ hH hS (tRecv hK hH (tyb ha0 (all1 rfl)) clX7) rfl hl.1 (Nat.le_of_ble_eq_true rfl) dX7_mustWord_14 (fun z_11 H locs hq hS => ?_)
    obtain ⟨g_12, hg_12, f_13, f_14, hH⟩ := hq
    have hH : TH E (tbM (mD (.inl (t, t)) (.inl (g_2, g_2)) (.inl (nu, nu)) (.inl un) (.inl tk) (.inl xt) (.inl (g_12, g_12)) (.inl (na, na)) (.inl (iw, iw))) nw ws kp as rd sc (xB 400 T) ik) H := hH
    refine z_eq (tgt := 24) F dX7_mustWord_17 (by decide) (fun c_15 => ?_) (fun c_15 => absurd c_15 (by omega))
    refine lv_iconst (v := 0) F.1 F.2.1 dX7_mustWord_24 (by decide) ?_
    refine topK (a := 0) (by decide) (fun k_16 hk_16 => ?_)
    exact txI F hS dX7_mustWord_25 (nar01 (wkb (eqb hk_16) rfl rfl)) (⟨g_2, ⟨by omega, by omega, by omega, by omega, hg_2.2.2.2.2⟩, g_12, (by omega), (wkb (eqb hk_16) rfl rfl), (by have h9_ := f_4; omega), (by omega), hH⟩)
set_option maxHeartbeats 4000000 in
set_option maxRecDepth 100000 in
theorem c_X7_readsNumber (E : Ev) (nw : TD) (ws : TD) (kp : TD) (as : TD) (rd : TD) (sc : TD) (ik : TD) (un : Int × Int) (tk : Int × Int) (xt : Int × Int) (t : Int) (p : Int) (wr : Int) (nu : Int) (na : Int) (iw : Int) (T : Nat → Int32) (lo : Int) (hi : Int) (a0 : Nat) (a1 : Int32) (a2 : Int32) (ha0 : eT E a0 ∈ [24]) (ht : 0 ≤ t ∧ t ≤ 400) (hp : 0 ≤ p ∧ p ≤ 400) (hwr : 0 ≤ wr ∧ wr ≤ 4000) (hnu : (-2147483648) ≤ nu ∧ nu ≤ 2147483647) (hna : (-2147483648) ≤ na ∧ na ≤ 2147483647) (hiw : 0 ≤ iw ∧ iw ≤ 1) (hT : ivP 400 (-128) 127 T) (hpt : p ≤ t) (hlo : a1.toInt = lo) (hhi : a2.toInt = hi) : TcI E yX7_readsNumber cX7_readsNumber 3 .boolean ({ frames := 3, cells := 0, slots := 0, locals := 81 }) [.ref a0, .int a1, .int a2] (fun H => TH E (tbM (mD (.inl (t, t)) (.inl (p, p)) (.inl (nu, nu)) (.inl un) (.inl tk) (.inl xt) (.inl (wr, wr)) (.inl (na, na)) (.inl (iw, iw))) nw ws kp as rd sc (xB 400 T) ik) H) (fun v H => ∃ p2 : Int, (0 ≤ p2 ∧ p2 ≤ 400 ∧ p ≤ p2 ∧ p2 ≤ t ∧ p2 = jMp T t p) ∧ ∃ nu2 : Int, ((-2147483648) ≤ nu2 ∧ nu2 ≤ 2147483647) ∧ ∃ wr2 : Int, (0 ≤ wr2 ∧ wr2 ≤ 4000) ∧ ∃ na2 : Int, ((-2147483648) ≤ na2 ∧ na2 ≤ 2147483647) ∧ (0 ≤ v.toInt ∧ v.toInt ≤ 1) ∧ (v.toInt = jMg T t p lo hi) ∧ ((v.toInt = 1 ∧ nu2 = jMv T t p ∧ na2 = rsk T t p) ∨ (v.toInt = 0 ∧ wr2 = jMw T t p)) ∧ (v.toInt = 1 → a1.toInt ≤ nu2 ∧ nu2 ≤ a2.toInt) ∧ (v.toInt = 1 → 0 ≤ na2 ∧ na2 ≤ 400) ∧ TH E (tbM (mD (.inl (t, t)) (.inl (p2, p2)) (.inl (nu2, nu2)) (.inl un) (.inl tk) (.inl xt) (.inl (wr2, wr2)) (.inl (na2, na2)) (.inl (iw, iw))) nw ws kp as rd sc (xB 400 T) ik) H) := by
  refine teI (by decide) (Nat.le_of_ble_eq_true rfl) ?_
  intro p_ ev_ s mi_ below_ meth cd_ ls F hK hN hO hH hS hl
  have hH : TH E (tbM (mD (.inl (t, t)) (.inl (p, p)) (.inl (nu, nu)) (.inl un) (.inl tk) (.inl xt) (.inl (wr, wr)) (.inl (na, na)) (.inl (iw, iw))) nw ws kp as rd sc (xB 400 T) ik) s.heap := hH
  have hl : lv_has ls 3 [(0, .ref a0), (1, .int a1), (2, .int a2)] := hl
  refine lv_aload_n F.1 F.2.1 dX7_readsNumber_0 rfl (lv_at hl 0 rfl) ?_
  refine tVi (b := a0) (As := []) (rest := []) F hK hN hO (c_X7_nextByte E nw ws kp as rd sc ik un tk xt t p wr nu na iw T a0 ha0 (by omega) (by omega) (by omega) (by omega) (by omega) (by omega) hT (by omega)) mv_X7_nextByte wd_15_22 ⟨Nat.le_of_ble_eq_true rfl, Nat.le_of_ble_eq_true rfl⟩ ⟨Nat.le_of_ble_eq_true rfl, Nat.le_of_ble_eq_true rfl⟩ hH hS (tRecv hK hH (tyb ha0 (all1 rfl)) clX7) rfl hl.1 (Nat.le_of_ble_eq_true rfl) dX7_readsNumber_1 (fun z_1 H locs hq hS => ?_)
  obtain ⟨g_2, hg_2, f_3, f_4, hH⟩ := hq
  have hH : TH E (tbM (mD (.inl (t, t)) (.inl (g_2, g_2)) (.inl (nu, nu)) (.inl un) (.inl tk) (.inl xt) (.inl (wr, wr)) (.inl (na, na)) (.inl (iw, iw))) nw ws kp as rd sc (xB 400 T) ik) H := hH
  refine tI2l F dX7_readsNumber_4 (fun w_5 hw_5 => ?_)
  refine lv_ldc2 (own := RX7) (v := 48) F.1 F.2.1 F.2.2.2.2.1 (F.2.2.2.2.2.2.1 _ wd_17_23) dX7_readsNumber_5 ?_
  refine topKL (a := 48) (by decide) (fun j_6 hj_6 => ?_)
  refine lv_ldc2 (own := RX7) (v := 57) F.1 F.2.1 F.2.2.2.2.1 (F.2.2.2.2.2.2.1 _ wd_18_0) dX7_readsNumber_8 ?_
  refine topKL (a := 57) (by decide) (fun j_7 hj_7 => ?_)
  refine tSi (As := [.long w_5, .long j_6, .long j_7]) (rest := []) F hK hN hO (c_X7_in E (mD (.inl (t, t)) (.inl (g_2, g_2)) (.inl (nu, nu)) (.inl un) (.inl tk) (.inl xt) (.inl (wr, wr)) (.inl (na, na)) (.inl (iw, iw))) nw ws kp as rd sc (xB 400 T) ik w_5 j_6 j_7) ms_X7_in wd_8_10 ⟨Nat.le_of_ble_eq_true rfl, Nat.le_of_ble_eq_true rfl⟩ ⟨Nat.le_of_ble_eq_true rfl, Nat.le_of_ble_eq_true rfl⟩ hH hS rfl hl.1 (Nat.le_of_ble_eq_true rfl) dX7_readsNumber_11 (fun z_8 H locs hq hS => ?_)
  obtain ⟨f_9, f_10, hH⟩ := hq
  have hH : TH E (tbM (mD (.inl (t, t)) (.inl (g_2, g_2)) (.inl (nu, nu)) (.inl un) (.inl tk) (.inl xt) (.inl (wr, wr)) (.inl (na, na)) (.inl (iw, iw))) nw ws kp as rd sc (xB 400 T) ik) H := hH
  refine z_ne (tgt := 27) F dX7_readsNumber_14 (by decide) (fun c_11 => ?_) (fun c_11 => ?_)
  · skip
    have r_12 : 1 ≤ z_8.toInt ∧ z_8.toInt ≤ 1 := by have h9_ := f_9; omega
    have r_13 : 48 ≤ z_1.toInt ∧ z_1.toInt ≤ 57 := by have h9_ := f_3; omega
    refine lv_aload_n F.1 F.2.1 dX7_readsNumber_27 rfl (lv_at hl 0 rfl) ?_
    refine lv_aload_n F.1 F.2.1 dX7_readsNumber_28 rfl (lv_at hl 0 rfl) ?_
    refine tGetI (j := 31) F hK hH (tyb ha0 (all1 rfl)) rfl clX7 (by decide) wd_15_21 dX7_readsNumber_29 (fun z_15 hz_15 => ?_)
    have ez_15 : 0 ≤ z_15.toInt ∧ z_15.toInt ≤ 400 := by omega
    obtain ⟨g_16, hg_16⟩ : ∃ y : Int, z_15.toInt = y := ⟨_, rfl⟩
    have bg_16 : 0 ≤ g_16 ∧ g_16 ≤ 400 := by rw [← hg_16]; exact ez_15
    refine tPutG (j := 34) (t := 24) (fd := (.inl (g_16, g_16))) F hK hH hS (List.mem_singleton.mp ha0) (by decide) rfl rfl (fdI (by omega)) (TB1 := (tbM (mD (.inl (t, t)) (.inl (g_2, g_2)) (.inl (nu, nu)) (.inl un) (.inl tk) (.inl xt) (.inl (wr, wr)) (.inl (g_16, g_16)) (.inl (iw, iw))) nw ws kp as rd sc (xB 400 T) ik)) rfl clX7 (by decide) wd_18_1 rfl rfl rfl rfl dX7_readsNumber_32 (fun H locs hH hS => ?_)
    refine lv_aload_n F.1 F.2.1 dX7_readsNumber_35 rfl (lv_at hl 0 rfl) ?_
    refine lv_iconst (v := 0) F.1 F.2.1 dX7_readsNumber_36 (by decide) ?_
    refine topK (a := 0) (by decide) (fun k_17 hk_17 => ?_)
    refine tPutG (j := 33) (t := 24) (fd := (.inl (0, 0))) F hK hH hS (List.mem_singleton.mp ha0) (by decide) rfl rfl (fdI (by omega)) (TB1 := (tbM (mD (.inl (t, t)) (.inl (g_2, g_2)) (.inl (0, 0)) (.inl un) (.inl tk) (.inl xt) (.inl (wr, wr)) (.inl (g_16, g_16)) (.inl (iw, iw))) nw ws kp as rd sc (xB 400 T) ik)) rfl clX7 (by decide) wd_17_18 rfl rfl rfl rfl dX7_readsNumber_37 (fun H locs hH hS => ?_)
    refine wloop (σ := Int × Int) (fun n9 x9 H locs ls => (401 - x9.1).toNat < n9 ∧ (0 ≤ x9.1 ∧ x9.1 ≤ 400) ∧ (0 ≤ x9.2 ∧ x9.2 ≤ 100000000) ∧ (rde T t x9.1 = rde T t g_2) ∧ (rmv T t x9.1 x9.2 = rmv T t g_2 0) ∧ (g_2 ≤ x9.1) ∧ (x9.1 ≤ t) ∧ (0 ≤ x9.2 ∧ x9.2 ≤ 100000000) ∧ TH E (tbM (mD (.inl (t, t)) (.inl (x9.1, x9.1)) (.inl (x9.2, x9.2)) (.inl un) (.inl tk) (.inl xt) (.inl (wr, wr)) (.inl (g_16, g_16)) (.inl (iw, iw))) nw ws kp as rd sc (xB 400 T) ik) H ∧ va_S (eA E s.heap.size) s.heap H locs ∧ lv_has ls 3 [(0, .ref a0), (1, .int a1), (2, .int a2)]) ?_ (fun x9 H locs ls h => absurd h.1 (Nat.not_lt_zero _)) _ (g_2, 0) ⟨Nat.lt_succ_self _, (show 0 ≤ g_2 ∧ g_2 ≤ 400 from by omega), (show 0 ≤ 0 ∧ 0 ≤ 100000000 from by omega), (show rde T t g_2 = rde T t g_2 from rfl), (show rmv T t g_2 0 = rmv T t g_2 0 from rfl), (show g_2 ≤ g_2 from by omega), (show g_2 ≤ t from by omega), (show 0 ≤ 0 ∧ 0 ≤ 100000000 from by omega), hH, hS, lv_sub hl [0, 1, 2] rfl⟩
    intro n_40 ih_40 ⟨g_18, g_19⟩ H locs ls ⟨hm_40, hg_18, hg_19, hcr40_0, hcr40_1, hcr40_2, hcr40_3, hcr40_4, hH, hS, hl⟩
    have hm_40 : (401 - g_18).toNat < n_40 + 1 := hm_40
    have hg_18 : (0 ≤ g_18 ∧ g_18 ≤ 400) := hg_18
    have hg_19 : (0 ≤ g_19 ∧ g_19 ≤ 100000000) := hg_19
    have hcr40_0 : (rde T t g_18 = rde T t g_2) := hcr40_0
    have hcr40_1 : (rmv T t g_18 g_19 = rmv T t g_2 0) := hcr40_1
    have hcr40_2 : (g_2 ≤ g_18) := hcr40_2
    have hcr40_3 : (g_18 ≤ t) := hcr40_3
    have hcr40_4 : (0 ≤ g_19 ∧ g_19 ≤ 100000000) := hcr40_4
    have hH : TH E (tbM (mD (.inl (t, t)) (.inl (g_18, g_18)) (.inl (g_19, g_19)) (.inl un) (.inl tk) (.inl xt) (.inl (wr, wr)) (.inl (g_16, g_16)) (.inl (iw, iw))) nw ws kp as rd sc (xB 400 T) ik) H := hH
    have hl : lv_has ls 3 [(0, .ref a0), (1, .int a1), (2, .int a2)] := hl
    refine lv_aload_n F.1 F.2.1 dX7_readsNumber_40 rfl (lv_at hl 0 rfl) ?_
    refine lv_aload_n F.1 F.2.1 dX7_readsNumber_41 rfl (lv_at hl 0 rfl) ?_
    refine tGetI (j := 31) F hK hH (tyb ha0 (all1 rfl)) rfl clX7 (by decide) wd_15_21 dX7_readsNumber_42 (fun z_20 hz_20 => ?_)
    have ez_20 : 0 ≤ z_20.toInt ∧ z_20.toInt ≤ 400 := by omega
    refine tVi (b := a0) (As := [.int z_20]) (rest := []) F hK hN hO (c_X7_byteAt E nw ws kp as rd sc ik un tk xt t g_18 wr g_19 g_16 iw T g_18 a0 z_20 ha0 (wkb ez_20 rfl rfl) (by omega) (by omega) (by omega) (by omega) (by omega) (by omega) hT (by omega) (by omega)) mv_X7_byteAt wd_16_2 ⟨Nat.le_of_ble_eq_true rfl, Nat.le_of_ble_eq_true rfl⟩ ⟨Nat.le_of_ble_eq_true rfl, Nat.le_of_ble_eq_true rfl⟩ hH hS (tRecv hK hH (tyb ha0 (all1 rfl)) clX7) rfl hl.1 (Nat.le_of_ble_eq_true rfl) dX7_readsNumber_45 (fun z_21 H locs hq hS => ?_)
    obtain ⟨f_22, f_23, hH⟩ := hq
    have hH : TH E (tbM (mD (.inl (t, t)) (.inl (g_18, g_18)) (.inl (g_19, g_19)) (.inl un) (.inl tk) (.inl xt) (.inl (wr, wr)) (.inl (g_16, g_16)) (.inl (iw, iw))) nw ws kp as rd sc (xB 400 T) ik) H := hH
    refine tI2l F dX7_readsNumber_48 (fun w_24 hw_24 => ?_)
    refine lv_ldc2 (own := RX7) (v := 48) F.1 F.2.1 F.2.2.2.2.1 (F.2.2.2.2.2.2.1 _ wd_17_23) dX7_readsNumber_49 ?_
    refine topKL (a := 48) (by decide) (fun j_25 hj_25 => ?_)
    refine lv_ldc2 (own := RX7) (v := 57) F.1 F.2.1 F.2.2.2.2.1 (F.2.2.2.2.2.2.1 _ wd_18_0) dX7_readsNumber_52 ?_
    refine topKL (a := 57) (by decide) (fun j_26 hj_26 => ?_)
    refine tSi (As := [.long w_24, .long j_25, .long j_26]) (rest := []) F hK hN hO (c_X7_in E (mD (.inl (t, t)) (.inl (g_18, g_18)) (.inl (g_19, g_19)) (.inl un) (.inl tk) (.inl xt) (.inl (wr, wr)) (.inl (g_16, g_16)) (.inl (iw, iw))) nw ws kp as rd sc (xB 400 T) ik w_24 j_25 j_26) ms_X7_in wd_8_10 ⟨Nat.le_of_ble_eq_true rfl, Nat.le_of_ble_eq_true rfl⟩ ⟨Nat.le_of_ble_eq_true rfl, Nat.le_of_ble_eq_true rfl⟩ hH hS rfl hl.1 (Nat.le_of_ble_eq_true rfl) dX7_readsNumber_55 (fun z_27 H locs hq hS => ?_)
    obtain ⟨f_28, f_29, hH⟩ := hq
    have hH : TH E (tbM (mD (.inl (t, t)) (.inl (g_18, g_18)) (.inl (g_19, g_19)) (.inl un) (.inl tk) (.inl xt) (.inl (wr, wr)) (.inl (g_16, g_16)) (.inl (iw, iw))) nw ws kp as rd sc (xB 400 T) ik) H := hH
    refine z_eq (tgt := 107) F dX7_readsNumber_58 (by decide) (fun c_30 => ?_) (fun c_30 => ?_)
    · skip
      have r_31 : 0 ≤ z_27.toInt ∧ z_27.toInt ≤ 0 := by have h9_ := f_28; omega
      refine lv_aload_n F.1 F.2.1 dX7_readsNumber_107 rfl (lv_at hl 0 rfl) ?_
      refine tGetI (j := 33) F hK hH (tyb ha0 (all1 rfl)) rfl clX7 (by decide) wd_17_18 dX7_readsNumber_108 (fun z_34 hz_34 => ?_)
      have ez_34 : 0 ≤ z_34.toInt ∧ z_34.toInt ≤ 100000000 := by omega
      refine tI2l F dX7_readsNumber_111 (fun w_35 hw_35 => ?_)
      refine lv_iload_n F.1 F.2.1 dX7_readsNumber_112 rfl (lv_at hl 1 rfl) ?_
      refine tI2l F dX7_readsNumber_113 (fun w_36 hw_36 => ?_)
      refine lv_iload_n F.1 F.2.1 dX7_readsNumber_114 rfl (lv_at hl 2 rfl) ?_
      refine tI2l F dX7_readsNumber_115 (fun w_37 hw_37 => ?_)
      refine tSi (As := [.long w_35, .long w_36, .long w_37]) (rest := []) F hK hN hO (c_X7_in E (mD (.inl (t, t)) (.inl (g_18, g_18)) (.inl (g_19, g_19)) (.inl un) (.inl tk) (.inl xt) (.inl (wr, wr)) (.inl (g_16, g_16)) (.inl (iw, iw))) nw ws kp as rd sc (xB 400 T) ik w_35 w_36 w_37) ms_X7_in wd_8_10 ⟨Nat.le_of_ble_eq_true rfl, Nat.le_of_ble_eq_true rfl⟩ ⟨Nat.le_of_ble_eq_true rfl, Nat.le_of_ble_eq_true rfl⟩ hH hS rfl hl.1 (Nat.le_of_ble_eq_true rfl) dX7_readsNumber_116 (fun z_38 H locs hq hS => ?_)
      obtain ⟨f_39, f_40, hH⟩ := hq
      have hH : TH E (tbM (mD (.inl (t, t)) (.inl (g_18, g_18)) (.inl (g_19, g_19)) (.inl un) (.inl tk) (.inl xt) (.inl (wr, wr)) (.inl (g_16, g_16)) (.inl (iw, iw))) nw ws kp as rd sc (xB 400 T) ik) H := hH
      refine z_ne (tgt := 134) F dX7_readsNumber_119 (by decide) (fun c_41 => ?_) (fun c_41 => ?_)
      · skip
        have r_42 : 1 ≤ z_38.toInt ∧ z_38.toInt ≤ 1 := by have h9_ := f_39; omega
        refine lv_iconst (v := 1) F.1 F.2.1 dX7_readsNumber_134 (by decide) ?_
        refine topK (a := 1) (by decide) (fun k_44 hk_44 => ?_)
        refine lv_goto (tgt := 139) F.1 F.2.1 dX7_readsNumber_135 (by decide) ?_
        exact txI F hS dX7_readsNumber_139 (nar01 (wkb (eqb hk_44) rfl rfl)) (⟨g_18, ⟨by omega, by omega, by omega, by omega, (mnum_2 (v := k_44.toInt) (wr := wr) (lo := lo) (hi := hi) hg_2.2.2.2.2 hcr40_1 hcr40_0 (by omega) (by omega) (by omega)).1⟩, g_19, (by omega), wr, (by omega), g_16, (by omega), (wkb (eqb hk_44) rfl rfl), (mnum_2 (v := k_44.toInt) (wr := wr) (lo := lo) (hi := hi) hg_2.2.2.2.2 hcr40_1 hcr40_0 (by omega) (by omega) (by omega)).2.1, (by have h9_ := (mnum_2 (v := k_44.toInt) (wr := wr) (lo := lo) (hi := hi) hg_2.2.2.2.2 hcr40_1 hcr40_0 (by omega) (by omega) (by omega)).2.2; omega), (by omega), (by omega), hH⟩)
      · skip
        have r_43 : 0 ≤ z_38.toInt ∧ z_38.toInt ≤ 0 := by have h9_ := f_39; omega
        refine lv_aload_n F.1 F.2.1 dX7_readsNumber_122 rfl (lv_at hl 0 rfl) ?_
        refine lv_iconst (v := 2) F.1 F.2.1 dX7_readsNumber_123 (by decide) ?_
        refine topK (a := 2) (by decide) (fun k_45 hk_45 => ?_)
        refine lv_aload_n F.1 F.2.1 dX7_readsNumber_124 rfl (lv_at hl 0 rfl) ?_
        refine tGetI (j := 34) F hK hH (tyb ha0 (all1 rfl)) rfl clX7 (by decide) wd_18_1 dX7_readsNumber_125 (fun z_46 hz_46 => ?_)
        have ez_46 : 0 ≤ z_46.toInt ∧ z_46.toInt ≤ 400 := by omega
        refine tVi (b := a0) (As := [.int k_45, .int z_46]) (rest := []) F hK hN hO (c_X7_fails E nw ws kp as rd sc ik un tk xt t g_18 wr g_19 g_16 iw T a0 k_45 z_46 ha0 (wkb (eqb hk_45) rfl rfl) ez_46 (by omega) (by omega) (by omega) (by omega) (by omega) (by omega) hT (by omega)) mv_X7_fails wd_17_2 ⟨Nat.le_of_ble_eq_true rfl, Nat.le_of_ble_eq_true rfl⟩ ⟨Nat.le_of_ble_eq_true rfl, Nat.le_of_ble_eq_true rfl⟩ hH hS (tRecv hK hH (tyb ha0 (all1 rfl)) clX7) rfl hl.1 (Nat.le_of_ble_eq_true rfl) dX7_readsNumber_128 (fun z_47 H locs hq hS => ?_)
        obtain ⟨g_48, hg_48, f_49, f_50, hH⟩ := hq
        have hH : TH E (tbM (mD (.inl (t, t)) (.inl (g_18, g_18)) (.inl (g_19, g_19)) (.inl un) (.inl tk) (.inl xt) (.inl (g_48, g_48)) (.inl (g_16, g_16)) (.inl (iw, iw))) nw ws kp as rd sc (xB 400 T) ik) H := hH
        refine z_eq (tgt := 138) F dX7_readsNumber_131 (by decide) (fun c_51 => ?_) (fun c_51 => absurd c_51 (by omega))
        refine lv_iconst (v := 0) F.1 F.2.1 dX7_readsNumber_138 (by decide) ?_
        refine topK (a := 0) (by decide) (fun k_52 hk_52 => ?_)
        exact txI F hS dX7_readsNumber_139 (nar01 (wkb (eqb hk_52) rfl rfl)) (⟨g_18, ⟨by omega, by omega, by omega, by omega, (mnum_2 (v := k_52.toInt) (wr := g_48) (lo := lo) (hi := hi) hg_2.2.2.2.2 hcr40_1 hcr40_0 (by omega) (by omega) (by omega)).1⟩, g_19, (by omega), g_48, (by omega), g_16, (by omega), (wkb (eqb hk_52) rfl rfl), (mnum_2 (v := k_52.toInt) (wr := g_48) (lo := lo) (hi := hi) hg_2.2.2.2.2 hcr40_1 hcr40_0 (by omega) (by omega) (by omega)).2.1, (by have h9_ := (mnum_2 (v := k_52.toInt) (wr := g_48) (lo := lo) (hi := hi) hg_2.2.2.2.2 hcr40_1 hcr40_0 (by omega) (by omega) (by omega)).2.2; omega), (by omega), (by omega), hH⟩)
    · skip
      have r_32 : 1 ≤ z_27.toInt ∧ z_27.toInt ≤ 1 := by have h9_ := f_28; omega
      have r_33 : 48 ≤ z_21.toInt ∧ z_21.toInt ≤ 57 := by have h9_ := f_22; omega
      refine lv_aload_n F.1 F.2.1 dX7_readsNumber_61 rfl (lv_at hl 0 rfl) ?_
      refine tGetI (j := 33) F hK hH (tyb ha0 (all1 rfl)) rfl clX7 (by decide) wd_17_18 dX7_readsNumber_62 (fun z_53 hz_53 => ?_)
      have ez_53 : 0 ≤ z_53.toInt ∧ z_53.toInt ≤ 100000000 := by omega
      refine lv_ldcw (own := RX7) (v := 10000000) F.1 F.2.1 F.2.2.2.2.1 (F.2.2.2.2.2.2.1 _ wd_18_2) dX7_readsNumber_65 ?_
      refine topK (a := 10000000) (by decide) (fun k_54 hk_54 => ?_)
      refine b_ge (tgt := 94) F dX7_readsNumber_68 (by decide) (fun c_55 => ?_) (fun c_55 => ?_)
      · skip
        have r_56 : 10000000 ≤ z_53.toInt ∧ z_53.toInt ≤ 100000000 := by have h9_ := ez_53; omega
        refine lv_aload_n F.1 F.2.1 dX7_readsNumber_94 rfl (lv_at hl 0 rfl) ?_
        refine lv_dup F.1 F.2.1 dX7_readsNumber_95 rfl ?_
        refine tGetI (j := 31) F hK hH (tyb ha0 (all1 rfl)) rfl clX7 (by decide) wd_15_21 dX7_readsNumber_96 (fun z_58 hz_58 => ?_)
        have ez_58 : 0 ≤ z_58.toInt ∧ z_58.toInt ≤ 400 := by omega
        refine lv_iconst (v := 1) F.1 F.2.1 dX7_readsNumber_99 (by decide) ?_
        refine topK (a := 1) (by decide) (fun k_59 hk_59 => ?_)
        refine tAdd (lo := 1) (hi := 401) F dX7_readsNumber_100 ez_58 (eqb hk_59) rfl (fun z_60 hz_60 => ?_)
        obtain ⟨g_61, hg_61⟩ : ∃ y : Int, z_60.toInt = y := ⟨_, rfl⟩
        have bg_61 : 1 ≤ g_61 ∧ g_61 ≤ 401 := by rw [← hg_61]; exact hz_60.2
        refine tPutG (j := 31) (t := 24) (fd := (.inl (g_61, g_61))) F hK hH hS (List.mem_singleton.mp ha0) (by decide) rfl rfl (fdI (by omega)) (TB1 := (tbM (mD (.inl (t, t)) (.inl (g_61, g_61)) (.inl (g_19, g_19)) (.inl un) (.inl tk) (.inl xt) (.inl (wr, wr)) (.inl (g_16, g_16)) (.inl (iw, iw))) nw ws kp as rd sc (xB 400 T) ik)) rfl clX7 (by decide) wd_15_21 rfl rfl rfl rfl dX7_readsNumber_101 (fun H locs hH hS => ?_)
        refine lv_goto (tgt := 40) F.1 F.2.1 dX7_readsNumber_104 (by decide) ?_
        exact ih_40 (g_61, g_19) _ _ _ ⟨(show (401 - g_61).toNat < n_40 from by omega), (show 0 ≤ g_61 ∧ g_61 ≤ 400 from by omega), (show 0 ≤ g_19 ∧ g_19 ≤ 100000000 from by omega), (show rde T t g_61 = rde T t g_2 from (num_sd hcr40_0 (by omega) (by omega) (by omega) (by omega))), (show rmv T t g_61 g_19 = rmv T t g_2 0 from (mnum_sv hcr40_1 (by omega) (by omega) (by omega) (by omega) (by omega))), (show g_2 ≤ g_61 from by omega), (show g_61 ≤ t from by omega), (show 0 ≤ g_19 ∧ g_19 ≤ 100000000 from by omega), hH, hS, lv_sub hl [0, 1, 2] rfl⟩
      · skip
        have r_57 : 0 ≤ z_53.toInt ∧ z_53.toInt ≤ 9999999 := by have h9_ := ez_53; omega
        refine lv_aload_n F.1 F.2.1 dX7_readsNumber_71 rfl (lv_at hl 0 rfl) ?_
        refine lv_bipush (v := 10) F.1 F.2.1 dX7_readsNumber_72 (by decide) ?_
        refine topK (a := 10) (by decide) (fun k_62 hk_62 => ?_)
        refine lv_aload_n F.1 F.2.1 dX7_readsNumber_74 rfl (lv_at hl 0 rfl) ?_
        refine tGetI (j := 33) F hK hH (tyb ha0 (all1 rfl)) rfl clX7 (by decide) wd_17_18 dX7_readsNumber_75 (fun z_63 hz_63 => ?_)
        have ez_63 : 0 ≤ z_63.toInt ∧ z_63.toInt ≤ 9999999 := by omega
        refine tMul (lo := 0) (hi := 99999990) F dX7_readsNumber_78 (eqb hk_62) ez_63 rfl (fun z_64 hz_64 => ?_)
        have mz_64 : z_64.toInt = 10 * z_63.toInt := by rw [hz_64.1, hk_62]
        refine lv_aload_n F.1 F.2.1 dX7_readsNumber_79 rfl (lv_at hl 0 rfl) ?_
        refine lv_aload_n F.1 F.2.1 dX7_readsNumber_80 rfl (lv_at hl 0 rfl) ?_
        refine tGetI (j := 31) F hK hH (tyb ha0 (all1 rfl)) rfl clX7 (by decide) wd_15_21 dX7_readsNumber_81 (fun z_65 hz_65 => ?_)
        have ez_65 : 0 ≤ z_65.toInt ∧ z_65.toInt ≤ 400 := by omega
        refine tVi (b := a0) (As := [.int z_65]) (rest := [.int z_64, .ref a0]) F hK hN hO (c_X7_byteAt E nw ws kp as rd sc ik un tk xt t g_18 wr g_19 g_16 iw T g_18 a0 z_65 ha0 (wkb ez_65 rfl rfl) (by omega) (by omega) (by omega) (by omega) (by omega) (by omega) hT (by omega) (by omega)) mv_X7_byteAt wd_16_2 ⟨Nat.le_of_ble_eq_true rfl, Nat.le_of_ble_eq_true rfl⟩ ⟨Nat.le_of_ble_eq_true rfl, Nat.le_of_ble_eq_true rfl⟩ hH hS (tRecv hK hH (tyb ha0 (all1 rfl)) clX7) rfl hl.1 (Nat.le_of_ble_eq_true rfl) dX7_readsNumber_84 (fun z_66 H locs hq hS => ?_)
        obtain ⟨f_67, f_68, hH⟩ := hq
        have hH : TH E (tbM (mD (.inl (t, t)) (.inl (g_18, g_18)) (.inl (g_19, g_19)) (.inl un) (.inl tk) (.inl xt) (.inl (wr, wr)) (.inl (g_16, g_16)) (.inl (iw, iw))) nw ws kp as rd sc (xB 400 T) ik) H := hH
        refine tAdd (lo := (-1)) (hi := 100000245) F dX7_readsNumber_87 hz_64.2 f_67 rfl (fun z_69 hz_69 => ?_)
        refine lv_bipush (v := 48) F.1 F.2.1 dX7_readsNumber_88 (by decide) ?_
        refine topK (a := 48) (by decide) (fun k_70 hk_70 => ?_)
        refine tSub (lo := (-49)) (hi := 100000197) F dX7_readsNumber_90 hz_69.2 (eqb hk_70) rfl (fun z_71 hz_71 => ?_)
        obtain ⟨g_72, hg_72⟩ : ∃ y : Int, z_71.toInt = y := ⟨_, rfl⟩
        have bg_72 : (-49) ≤ g_72 ∧ g_72 ≤ 100000197 := by rw [← hg_72]; exact hz_71.2
        refine tPutG (j := 33) (t := 24) (fd := (.inl (g_72, g_72))) F hK hH hS (List.mem_singleton.mp ha0) (by decide) rfl rfl (fdI (by omega)) (TB1 := (tbM (mD (.inl (t, t)) (.inl (g_18, g_18)) (.inl (g_72, g_72)) (.inl un) (.inl tk) (.inl xt) (.inl (wr, wr)) (.inl (g_16, g_16)) (.inl (iw, iw))) nw ws kp as rd sc (xB 400 T) ik)) rfl clX7 (by decide) wd_17_18 rfl rfl rfl rfl dX7_readsNumber_91 (fun H locs hH hS => ?_)
        refine lv_aload_n F.1 F.2.1 dX7_readsNumber_94 rfl (lv_at hl 0 rfl) ?_
        refine lv_dup F.1 F.2.1 dX7_readsNumber_95 rfl ?_
        refine tGetI (j := 31) F hK hH (tyb ha0 (all1 rfl)) rfl clX7 (by decide) wd_15_21 dX7_readsNumber_96 (fun z_73 hz_73 => ?_)
        have ez_73 : 0 ≤ z_73.toInt ∧ z_73.toInt ≤ 400 := by omega
        refine lv_iconst (v := 1) F.1 F.2.1 dX7_readsNumber_99 (by decide) ?_
        refine topK (a := 1) (by decide) (fun k_74 hk_74 => ?_)
        refine tAdd (lo := 1) (hi := 401) F dX7_readsNumber_100 ez_73 (eqb hk_74) rfl (fun z_75 hz_75 => ?_)
        obtain ⟨g_76, hg_76⟩ : ∃ y : Int, z_75.toInt = y := ⟨_, rfl⟩
        have bg_76 : 1 ≤ g_76 ∧ g_76 ≤ 401 := by rw [← hg_76]; exact hz_75.2
        refine tPutG (j := 31) (t := 24) (fd := (.inl (g_76, g_76))) F hK hH hS (List.mem_singleton.mp ha0) (by decide) rfl rfl (fdI (by omega)) (TB1 := (tbM (mD (.inl (t, t)) (.inl (g_76, g_76)) (.inl (g_72, g_72)) (.inl un) (.inl tk) (.inl xt) (.inl (wr, wr)) (.inl (g_16, g_16)) (.inl (iw, iw))) nw ws kp as rd sc (xB 400 T) ik)) rfl clX7 (by decide) wd_15_21 rfl rfl rfl rfl dX7_readsNumber_101 (fun H locs hH hS => ?_)
        refine lv_goto (tgt := 40) F.1 F.2.1 dX7_readsNumber_104 (by decide) ?_
        exact ih_40 (g_76, g_72) _ _ _ ⟨(show (401 - g_76).toNat < n_40 from by omega), (show 0 ≤ g_76 ∧ g_76 ≤ 400 from by omega), (show 0 ≤ g_72 ∧ g_72 ≤ 100000000 from by omega), (show rde T t g_76 = rde T t g_2 from (num_sd hcr40_0 (by omega) (by omega) (by omega) (by omega))), (show rmv T t g_76 g_72 = rmv T t g_2 0 from (mnum_sv hcr40_1 (by omega) (by omega) (by omega) (by omega) (by omega))), (show g_2 ≤ g_76 from by omega), (show g_76 ≤ t from by omega), (show 0 ≤ g_72 ∧ g_72 ≤ 100000000 from by omega), hH, hS, lv_sub hl [0, 1, 2] rfl⟩
  · skip
    have r_14 : 0 ≤ z_8.toInt ∧ z_8.toInt ≤ 0 := by have h9_ := f_9; omega
    refine lv_aload_n F.1 F.2.1 dX7_readsNumber_17 rfl (lv_at hl 0 rfl) ?_
    refine lv_iconst (v := 1) F.1 F.2.1 dX7_readsNumber_18 (by decide) ?_
    refine topK (a := 1) (by decide) (fun k_77 hk_77 => ?_)
    refine lv_aload_n F.1 F.2.1 dX7_readsNumber_19 rfl (lv_at hl 0 rfl) ?_
    refine tGetI (j := 31) F hK hH (tyb ha0 (all1 rfl)) rfl clX7 (by decide) wd_15_21 dX7_readsNumber_20 (fun z_78 hz_78 => ?_)
    have ez_78 : 0 ≤ z_78.toInt ∧ z_78.toInt ≤ 400 := by omega
    refine tVi (b := a0) (As := [.int k_77, .int z_78]) (rest := []) F hK hN hO (c_X7_fails E nw ws kp as rd sc ik un tk xt t g_2 wr nu na iw T a0 k_77 z_78 ha0 (wkb (eqb hk_77) rfl rfl) ez_78 (by omega) (by omega) (by omega) (by omega) (by omega) (by omega) hT (by omega)) mv_X7_fails wd_17_2 ⟨Nat.le_of_ble_eq_true rfl, Nat.le_of_ble_eq_true rfl⟩ ⟨Nat.le_of_ble_eq_true rfl, Nat.le_of_ble_eq_true rfl⟩ hH hS (tRecv hK hH (tyb ha0 (all1 rfl)) clX7) rfl hl.1 (Nat.le_of_ble_eq_true rfl) dX7_readsNumber_23 (fun z_79 H locs hq hS => ?_)
    obtain ⟨g_80, hg_80, f_81, f_82, hH⟩ := hq
    have hH : TH E (tbM (mD (.inl (t, t)) (.inl (g_2, g_2)) (.inl (nu, nu)) (.inl un) (.inl tk) (.inl xt) (.inl (g_80, g_80)) (.inl (na, na)) (.inl (iw, iw))) nw ws kp as rd sc (xB 400 T) ik) H := hH
    exact txI F hS dX7_readsNumber_26 (nar01 (wkb f_81 rfl rfl)) (⟨g_2, ⟨by omega, by omega, by omega, by omega, (mnum_1 (v := z_79.toInt) (wr := g_80) (lo := lo) (hi := hi) hg_2.2.2.2.2 (by omega) (by omega) (by omega)).1⟩, nu, (by omega), g_80, (by omega), na, (by omega), (wkb f_81 rfl rfl), (mnum_1 (v := z_79.toInt) (wr := g_80) (lo := lo) (hi := hi) hg_2.2.2.2.2 (by omega) (by omega) (by omega)).2.1, (Or.inr ⟨by omega, (mnum_1 (v := z_79.toInt) (wr := g_80) (lo := lo) (hi := hi) hg_2.2.2.2.2 (by omega) (by omega) (by omega)).2.2⟩), (by omega), (by omega), hH⟩)
set_option maxHeartbeats 4000000 in
set_option maxRecDepth 100000 in
theorem c_X7_readsTo (E : Ev) (nw : TD) (ws : TD) (kp : TD) (as : TD) (sc : TD) (ik : TD) (un : Int × Int) (tk : Int × Int) (xt : Int × Int) (t : Int) (p : Int) (wr : Int) (nu : Int) (na : Int) (iw : Int) (B : Nat → Int32) (T : Nat → Int32) (aq : Int) (lo : Int) (hi : Int) (a0 : Nat) (a1 : Int32) (a2 : Int32) (a3 : Int32) (ha0 : eT E a0 ∈ [24]) (ht : 0 ≤ t ∧ t ≤ 400) (hp : 0 ≤ p ∧ p ≤ 400) (hwr : 0 ≤ wr ∧ wr ≤ 4000) (hnu : (-2147483648) ≤ nu ∧ nu ≤ 2147483647) (hna : (-2147483648) ≤ na ∧ na ≤ 2147483647) (hiw : 0 ≤ iw ∧ iw ≤ 1) (hB : okR B) (hT : ivP 400 (-128) 127 T) (hpt : p ≤ t) (hat : 0 ≤ a1.toInt ∧ a1.toInt < 660 ∧ a1.toInt ≠ 0 ∧ a1.toInt ≠ 1 ∧ a1.toInt ≠ 2 ∧ a1.toInt ≠ 3 ∧ (a1.toInt < 78 ∨ 260 ≤ a1.toInt ∨ (a1.toInt - 78) % 13 ≠ 6)) (hp : ∀ y : Int, a2.toInt ≤ y → y ≤ a3.toInt → phi a1.toInt y) (h6e : a1.toInt = 6 → a3.toInt < a2.toInt) (haq : a1.toInt = aq) (hlo : a2.toInt = lo) (hhi : a3.toInt = hi) : TcI E yX7_readsTo cX7_readsTo 4 .boolean ({ frames := 4, cells := 0, slots := 0, locals := 103 }) [.ref a0, .int a1, .int a2, .int a3] (fun H => TH E (tbM (mD (.inl (t, t)) (.inl (p, p)) (.inl (nu, nu)) (.inl un) (.inl tk) (.inl xt) (.inl (wr, wr)) (.inl (na, na)) (.inl (iw, iw))) nw ws kp as (xD 660 B) sc (xB 400 T) ik) H) (fun v H => ∃ p2 : Int, (0 ≤ p2 ∧ p2 ≤ 400 ∧ p ≤ p2 ∧ p2 ≤ t) ∧ ∃ nu2 : Int, ((-2147483648) ≤ nu2 ∧ nu2 ≤ 2147483647) ∧ ∃ wr2 : Int, (0 ≤ wr2 ∧ wr2 ≤ 4000) ∧ ∃ na2 : Int, ((-2147483648) ≤ na2 ∧ na2 ≤ 2147483647) ∧ ∃ B2 : Nat → Int32, (okR B2 ∧ gI B2 0 = gI B 0 ∧ gI B2 1 = gI B 1 ∧ gI B2 2 = gI B 2 ∧ gI B2 6 = gI B 6 ∧ gI B2 3 = gI B 3 ∧ mRes v.toInt wr2 (p2, iw, B2) (mTo T t lo hi aq (p, iw, B))) ∧ (0 ≤ v.toInt ∧ v.toInt ≤ 1) ∧ (v.toInt = 1 → a2.toInt ≤ a3.toInt) ∧ TH E (tbM (mD (.inl (t, t)) (.inl (p2, p2)) (.inl (nu2, nu2)) (.inl un) (.inl tk) (.inl xt) (.inl (wr2, wr2)) (.inl (na2, na2)) (.inl (iw, iw))) nw ws kp as (xD 660 B2) sc (xB 400 T) ik) H) := by
  refine teI (by decide) (Nat.le_of_ble_eq_true rfl) ?_
  intro p_ ev_ s mi_ below_ meth cd_ ls F hK hN hO hH hS hl
  have hH : TH E (tbM (mD (.inl (t, t)) (.inl (p, p)) (.inl (nu, nu)) (.inl un) (.inl tk) (.inl xt) (.inl (wr, wr)) (.inl (na, na)) (.inl (iw, iw))) nw ws kp as (xD 660 B) sc (xB 400 T) ik) s.heap := hH
  have hl : lv_has ls 4 [(0, .ref a0), (1, .int a1), (2, .int a2), (3, .int a3)] := hl
  have hBB := (okB hB.1).1
  refine lv_aload_n F.1 F.2.1 dX7_readsTo_0 rfl (lv_at hl 0 rfl) ?_
  refine lv_iload_n F.1 F.2.1 dX7_readsTo_1 rfl (lv_at hl 2 rfl) ?_
  refine lv_iload_n F.1 F.2.1 dX7_readsTo_2 rfl (lv_at hl 3 rfl) ?_
  refine tVi (b := a0) (As := [.int a2, .int a3]) (rest := []) F hK hN hO (c_X7_readsNumber E nw ws kp as (xD 660 B) sc ik un tk xt t p wr nu na iw T lo hi a0 a2 a3 ha0 (by omega) (by omega) (by omega) (by omega) (by omega) (by omega) hT (by omega) (by omega) (by omega)) mv_X7_readsNumber wd_17_19 ⟨Nat.le_of_ble_eq_true rfl, Nat.le_of_ble_eq_true rfl⟩ ⟨Nat.le_of_ble_eq_true rfl, Nat.le_of_ble_eq_true rfl⟩ hH hS (tRecv hK hH (tyb ha0 (all1 rfl)) clX7) rfl hl.1 (Nat.le_of_ble_eq_true rfl) dX7_readsTo_3 (fun z_1 H locs hq hS => ?_)
  obtain ⟨g_2, hg_2, g_3, hg_3, g_4, hg_4, g_5, hg_5, f_6, f_7, f_8, f_9, f_10, hH⟩ := hq
  have hH : TH E (tbM (mD (.inl (t, t)) (.inl (g_2, g_2)) (.inl (g_3, g_3)) (.inl un) (.inl tk) (.inl xt) (.inl (g_4, g_4)) (.inl (g_5, g_5)) (.inl (iw, iw))) nw ws kp as (xD 660 B) sc (xB 400 T) ik) H := hH
  refine z_ne (tgt := 11) F dX7_readsTo_6 (by decide) (fun c_11 => ?_) (fun c_11 => ?_)
  · skip
    have r_12 : 1 ≤ z_1.toInt ∧ z_1.toInt ≤ 1 := by have h9_ := f_6; omega
    refine lv_aload_n F.1 F.2.1 dX7_readsTo_11 rfl (lv_at hl 0 rfl) ?_
    refine tGetR (j := 36) F hK hH (tyb ha0 (all1 rfl)) rfl (all1 rfl) clX7 (by decide) wd_7_5 dX7_readsTo_12 (fun q_14 hq_14 _ => ?_)
    refine lv_iload_n F.1 F.2.1 dX7_readsTo_15 rfl (lv_at hl 1 rfl) ?_
    refine lv_aload_n F.1 F.2.1 dX7_readsTo_16 rfl (lv_at hl 0 rfl) ?_
    refine tGetI (j := 33) F hK hH (tyb ha0 (all1 rfl)) rfl clX7 (by decide) wd_17_18 dX7_readsTo_17 (fun z_15 hz_15 => ?_)
    have ez_15 : (-2147483648) ≤ z_15.toInt ∧ z_15.toInt ≤ 2147483647 := by omega
    refine tIastX (t := 29) F hK hH hS (List.mem_singleton.mp hq_14) (by decide) rfl (by omega) dX7_readsTo_20 (fun G_16 eG_16 H locs hH hS => ?_)
    have hH : TH E (tbM (mD (.inl (t, t)) (.inl (g_2, g_2)) (.inl (g_3, g_3)) (.inl un) (.inl tk) (.inl xt) (.inl (g_4, g_4)) (.inl (g_5, g_5)) (.inl (iw, iw))) nw ws kp as (xD 660 G_16) sc (xB 400 T) ik) H := hH
    have n0G_16 : gI G_16 0 = gI B 0 := gI_ne eG_16 (by omega) (by omega)
    have n1G_16 : gI G_16 1 = gI B 1 := gI_ne eG_16 (by omega) (by omega)
    have n2G_16 : gI G_16 2 = gI B 2 := gI_ne eG_16 (by omega) (by omega)
    have n6G_16 : gI G_16 6 = gI B 6 := gI_ne eG_16 (by omega) (by omega)
    have n3G_16 : gI G_16 3 = gI B 3 := gI_ne eG_16 (by omega) (by omega)
    have hG_16 : okR G_16 := (okR.stM hB eG_16 (by omega) (by omega) (by omega) (hp _ (by omega) (by omega)) (by omega))
    have hBG_16 := (okB hG_16.1).1
    refine lv_iconst (v := 1) F.1 F.2.1 dX7_readsTo_21 (by decide) ?_
    refine topK (a := 1) (by decide) (fun k_17 hk_17 => ?_)
    exact txI F hS dX7_readsTo_22 (nar01 (wkb (eqb hk_17) rfl rfl)) (⟨g_2, ⟨by omega, by omega, by omega, by omega⟩, g_3, (by omega), g_4, (by omega), g_5, (by omega), G_16, ⟨hG_16, by omega, by omega, by omega, by omega, by omega, (by have h8_ : z_1.toInt = 1 := (by omega); have h7_ : g_3 = jMv T t p := (by omega); have h9_ := to_y (w := iw) (wr := g_4) (aq := aq) f_7 hg_2.2.2.2.2 h7_ (updR eG_16 (by omega) (by omega)) h8_; rw [show k_17.toInt = z_1.toInt from by omega]; exact h9_)⟩, (wkb (eqb hk_17) rfl rfl), (by omega), hH⟩)
  · skip
    have r_13 : 0 ≤ z_1.toInt ∧ z_1.toInt ≤ 0 := by have h9_ := f_6; omega
    refine lv_iconst (v := 0) F.1 F.2.1 dX7_readsTo_9 (by decide) ?_
    refine topK (a := 0) (by decide) (fun k_18 hk_18 => ?_)
    exact txI F hS dX7_readsTo_10 (nar01 (wkb (eqb hk_18) rfl rfl)) (⟨g_2, ⟨by omega, by omega, by omega, by omega⟩, g_3, (by omega), g_4, (by omega), g_5, (by omega), B, ⟨hB, by omega, by omega, by omega, by omega, by omega, (to_n f_7 (by omega) (by omega) (by omega))⟩, (wkb (eqb hk_18) rfl rfl), (by omega), hH⟩)
set_option maxHeartbeats 4000000 in
set_option maxRecDepth 100000 in
theorem c_X7_begins_0 (E : Ev) (nw : TD) (ws : TD) (kp : TD) (as : TD) (sc : TD) (ik : TD) (un : Int × Int) (tk : Int × Int) (xt : Int × Int) (t : Int) (p : Int) (wr : Int) (nu : Int) (na : Int) (iw : Int) (B : Nat → Int32) (T : Nat → Int32) (a0 : Nat) (t1 n1 : Nat) (a2 : Int32) (a3 : Int32) (ha0 : eT E a0 ∈ [24]) (ha1 : strOf t1 n1) (ha2 : 0 ≤ a2.toInt ∧ a2.toInt ≤ 0) (ha3 : 12 ≤ a3.toInt ∧ a3.toInt ≤ 12) (ht : 0 ≤ t ∧ t ≤ 400) (hp : 0 ≤ p ∧ p ≤ 400) (hwr : 0 ≤ wr ∧ wr ≤ 4000) (hnu : (-2147483648) ≤ nu ∧ nu ≤ 2147483647) (hna : (-2147483648) ≤ na ∧ na ≤ 2147483647) (hiw : 0 ≤ iw ∧ iw ≤ 1) (hB : okR B) (hT : ivP 400 (-128) 127 T) (hpt : p ≤ t) (hpl : p + (n1 : Int) ≤ t) : TcI E yX7_begins cX7_begins 4 .boolean ({ frames := 3, cells := 0, slots := 0, locals := 100 }) [.ref a0, .ref (eX E t1), .int a2, .int a3] (fun H => TH E (tbM (mD (.inl (t, t)) (.inl (p, p)) (.inl (nu, nu)) (.inl un) (.inl tk) (.inl xt) (.inl (wr, wr)) (.inl (na, na)) (.inl (iw, iw))) nw ws kp as (xD 660 B) sc (xB 400 T) ik) H) (fun v H => ∃ p2 : Int, (0 ≤ p2 ∧ p2 ≤ 400 ∧ p ≤ p2 ∧ p2 ≤ t) ∧ ∃ wr2 : Int, (0 ≤ wr2 ∧ wr2 ≤ 4000) ∧ (0 ≤ v.toInt ∧ v.toInt ≤ 1) ∧ ((v.toInt = 1 ∧ gI B 0 ≠ 12 ∧ p2 = p + (n1 : Int)) ∨ (v.toInt = 0 ∧ gI B 0 = 12 ∧ wr2 = 8 * p + 3)) ∧ TH E (tbM (mD (.inl (t, t)) (.inl (p2, p2)) (.inl (nu, nu)) (.inl un) (.inl tk) (.inl xt) (.inl (wr2, wr2)) (.inl (na, na)) (.inl (iw, iw))) nw ws kp as (xD 660 B) sc (xB 400 T) ik) H) := by
  refine teI (by decide) (Nat.le_of_ble_eq_true rfl) ?_
  intro p_ ev_ s mi_ below_ meth cd_ ls F hK hN hO hH hS hl
  have hH : TH E (tbM (mD (.inl (t, t)) (.inl (p, p)) (.inl (nu, nu)) (.inl un) (.inl tk) (.inl xt) (.inl (wr, wr)) (.inl (na, na)) (.inl (iw, iw))) nw ws kp as (xD 660 B) sc (xB 400 T) ik) s.heap := hH
  have hl : lv_has ls 4 [(0, .ref a0), (1, .ref (eX E t1)), (2, .int a2), (3, .int a3)] := hl
  have hBB := (okB hB.1).1
  refine lv_aload_n F.1 F.2.1 dX7_begins_0 rfl (lv_at hl 0 rfl) ?_
  refine tGetR (j := 36) F hK hH (tyb ha0 (all1 rfl)) rfl (all1 rfl) clX7 (by decide) wd_7_5 dX7_begins_1 (fun q_1 hq_1 _ => ?_)
  refine lv_iload_n F.1 F.2.1 dX7_begins_4 rfl (lv_at hl 2 rfl) ?_
  refine tIaldX F hK hH (tyb hq_1 (all1 rfl)) (ixb (n := 660) ha2 rfl rfl) dX7_begins_5 (fun z_2 ez_2 => ?_)
  have gz_2 : z_2.toInt = gI B (0) := by unfold gI; rw [ez_2, show (a2).toNatClampNeg = (0) from by show (a2).toInt.toNat = _; omega]
  have hz_2 : 0 ≤ z_2.toInt ∧ z_2.toInt ≤ 12 := (by have h9_ := okA.at (i := a2) hB.1 (by omega); rw [show gI B (a2).toNatClampNeg = z_2.toInt from by unfold gI; rw [ez_2]] at h9_; have h8_ := phi_0 h9_ (by omega); omega)
  refine lv_iload_n F.1 F.2.1 dX7_begins_6 rfl (lv_at hl 3 rfl) ?_
  refine b_ne (tgt := 20) F dX7_begins_7 (by decide) (fun c_3 => ?_) (fun c_3 => ?_)
  · skip
    have r_4 : 0 ≤ z_2.toInt ∧ z_2.toInt ≤ 11 := by have h9_ := hz_2; omega
    refine lv_aload_n F.1 F.2.1 dX7_begins_20 rfl (lv_at hl 0 rfl) ?_
    refine lv_dup F.1 F.2.1 dX7_begins_21 rfl ?_
    refine tGetI (j := 31) F hK hH (tyb ha0 (all1 rfl)) rfl clX7 (by decide) wd_15_21 dX7_begins_22 (fun z_6 hz_6 => ?_)
    have ez_6 : 0 ≤ z_6.toInt ∧ z_6.toInt ≤ 400 := by omega
    refine lv_aload_n F.1 F.2.1 dX7_begins_25 rfl (lv_at hl 1 rfl) ?_
    refine tVi (b := (eX E t1)) (As := []) (rest := [.int z_6, .ref a0]) F hK hN hO (c_len E (fun H => TH E (tbM (mD (.inl (t, t)) (.inl (p, p)) (.inl (nu, nu)) (.inl un) (.inl tk) (.inl xt) (.inl (wr, wr)) (.inl (na, na)) (.inl (iw, iw))) nw ws kp as (xD 660 B) sc (xB 400 T) ik) H) t1 n1 ha1) mv_J0_length_8abf5 wd_16_16 ⟨Nat.le_of_ble_eq_true rfl, Nat.le_of_ble_eq_true rfl⟩ ⟨Nat.le_of_ble_eq_true rfl, Nat.le_of_ble_eq_true rfl⟩ hH hS (sRecvS hO ha1 hS) rfl hl.1 (Nat.le_of_ble_eq_true rfl) dX7_begins_26 (fun z_7 H locs hq hS => ?_)
    obtain ⟨hz_7, hH⟩ := hq
    have hH : TH E (tbM (mD (.inl (t, t)) (.inl (p, p)) (.inl (nu, nu)) (.inl un) (.inl tk) (.inl xt) (.inl (wr, wr)) (.inl (na, na)) (.inl (iw, iw))) nw ws kp as (xD 660 B) sc (xB 400 T) ik) H := hH
    have ez_7 : 3 ≤ z_7.toInt ∧ z_7.toInt ≤ 6 := by have h9_ := strLe ha1; omega
    refine tAdd (lo := 3) (hi := 406) F dX7_begins_29 ez_6 ez_7 rfl (fun z_8 hz_8 => ?_)
    obtain ⟨g_9, hg_9⟩ : ∃ y : Int, z_8.toInt = y := ⟨_, rfl⟩
    have bg_9 : 3 ≤ g_9 ∧ g_9 ≤ 406 := by rw [← hg_9]; exact hz_8.2
    refine tPutG (j := 31) (t := 24) (fd := (.inl (g_9, g_9))) F hK hH hS (List.mem_singleton.mp ha0) (by decide) rfl rfl (fdI (by omega)) (TB1 := (tbM (mD (.inl (t, t)) (.inl (g_9, g_9)) (.inl (nu, nu)) (.inl un) (.inl tk) (.inl xt) (.inl (wr, wr)) (.inl (na, na)) (.inl (iw, iw))) nw ws kp as (xD 660 B) sc (xB 400 T) ik)) rfl clX7 (by decide) wd_15_21 rfl rfl rfl rfl dX7_begins_30 (fun H locs hH hS => ?_)
    refine lv_iconst (v := 1) F.1 F.2.1 dX7_begins_33 (by decide) ?_
    refine topK (a := 1) (by decide) (fun k_10 hk_10 => ?_)
    exact txI F hS dX7_begins_34 (nar01 (wkb (eqb hk_10) rfl rfl)) (⟨g_9, ⟨by omega, by omega, by omega, by omega⟩, wr, (by omega), (wkb (eqb hk_10) rfl rfl), (by omega), hH⟩)
  · skip
    have r_5 : 12 ≤ z_2.toInt ∧ z_2.toInt ≤ 12 := by have h9_ := hz_2; omega
    refine lv_aload_n F.1 F.2.1 dX7_begins_10 rfl (lv_at hl 0 rfl) ?_
    refine lv_iconst (v := 3) F.1 F.2.1 dX7_begins_11 (by decide) ?_
    refine topK (a := 3) (by decide) (fun k_11 hk_11 => ?_)
    refine lv_aload_n F.1 F.2.1 dX7_begins_12 rfl (lv_at hl 0 rfl) ?_
    refine tGetI (j := 31) F hK hH (tyb ha0 (all1 rfl)) rfl clX7 (by decide) wd_15_21 dX7_begins_13 (fun z_12 hz_12 => ?_)
    have ez_12 : 0 ≤ z_12.toInt ∧ z_12.toInt ≤ 400 := by omega
    refine tVi (b := a0) (As := [.int k_11, .int z_12]) (rest := []) F hK hN hO (c_X7_fails E nw ws kp as (xD 660 B) sc ik un tk xt t p wr nu na iw T a0 k_11 z_12 ha0 (wkb (eqb hk_11) rfl rfl) ez_12 (by omega) (by omega) (by omega) (by omega) (by omega) (by omega) hT (by omega)) mv_X7_fails wd_17_2 ⟨Nat.le_of_ble_eq_true rfl, Nat.le_of_ble_eq_true rfl⟩ ⟨Nat.le_of_ble_eq_true rfl, Nat.le_of_ble_eq_true rfl⟩ hH hS (tRecv hK hH (tyb ha0 (all1 rfl)) clX7) rfl hl.1 (Nat.le_of_ble_eq_true rfl) dX7_begins_16 (fun z_13 H locs hq hS => ?_)
    obtain ⟨g_14, hg_14, f_15, f_16, hH⟩ := hq
    have hH : TH E (tbM (mD (.inl (t, t)) (.inl (p, p)) (.inl (nu, nu)) (.inl un) (.inl tk) (.inl xt) (.inl (g_14, g_14)) (.inl (na, na)) (.inl (iw, iw))) nw ws kp as (xD 660 B) sc (xB 400 T) ik) H := hH
    exact txI F hS dX7_begins_19 (nar01 (wkb f_15 rfl rfl)) (⟨p, ⟨by omega, by omega, by omega, by omega⟩, g_14, (by omega), (wkb f_15 rfl rfl), (by omega), hH⟩)
set_option maxHeartbeats 4000000 in
set_option maxRecDepth 100000 in
theorem c_X7_begins_1 (E : Ev) (nw : TD) (ws : TD) (kp : TD) (as : TD) (sc : TD) (ik : TD) (un : Int × Int) (tk : Int × Int) (xt : Int × Int) (t : Int) (p : Int) (wr : Int) (nu : Int) (na : Int) (iw : Int) (B : Nat → Int32) (T : Nat → Int32) (a0 : Nat) (t1 n1 : Nat) (a2 : Int32) (a3 : Int32) (ha0 : eT E a0 ∈ [24]) (ha1 : strOf t1 n1) (ha2 : 1 ≤ a2.toInt ∧ a2.toInt ≤ 1) (ha3 : 14 ≤ a3.toInt ∧ a3.toInt ≤ 14) (ht : 0 ≤ t ∧ t ≤ 400) (hp : 0 ≤ p ∧ p ≤ 400) (hwr : 0 ≤ wr ∧ wr ≤ 4000) (hnu : (-2147483648) ≤ nu ∧ nu ≤ 2147483647) (hna : (-2147483648) ≤ na ∧ na ≤ 2147483647) (hiw : 0 ≤ iw ∧ iw ≤ 1) (hB : okR B) (hT : ivP 400 (-128) 127 T) (hpt : p ≤ t) (hpl : p + (n1 : Int) ≤ t) : TcI E yX7_begins cX7_begins 4 .boolean ({ frames := 3, cells := 0, slots := 0, locals := 100 }) [.ref a0, .ref (eX E t1), .int a2, .int a3] (fun H => TH E (tbM (mD (.inl (t, t)) (.inl (p, p)) (.inl (nu, nu)) (.inl un) (.inl tk) (.inl xt) (.inl (wr, wr)) (.inl (na, na)) (.inl (iw, iw))) nw ws kp as (xD 660 B) sc (xB 400 T) ik) H) (fun v H => ∃ p2 : Int, (0 ≤ p2 ∧ p2 ≤ 400 ∧ p ≤ p2 ∧ p2 ≤ t) ∧ ∃ wr2 : Int, (0 ≤ wr2 ∧ wr2 ≤ 4000) ∧ (0 ≤ v.toInt ∧ v.toInt ≤ 1) ∧ ((v.toInt = 1 ∧ gI B 1 ≠ 14 ∧ p2 = p + (n1 : Int)) ∨ (v.toInt = 0 ∧ gI B 1 = 14 ∧ wr2 = 8 * p + 3)) ∧ TH E (tbM (mD (.inl (t, t)) (.inl (p2, p2)) (.inl (nu, nu)) (.inl un) (.inl tk) (.inl xt) (.inl (wr2, wr2)) (.inl (na, na)) (.inl (iw, iw))) nw ws kp as (xD 660 B) sc (xB 400 T) ik) H) := by
  refine teI (by decide) (Nat.le_of_ble_eq_true rfl) ?_
  intro p_ ev_ s mi_ below_ meth cd_ ls F hK hN hO hH hS hl
  have hH : TH E (tbM (mD (.inl (t, t)) (.inl (p, p)) (.inl (nu, nu)) (.inl un) (.inl tk) (.inl xt) (.inl (wr, wr)) (.inl (na, na)) (.inl (iw, iw))) nw ws kp as (xD 660 B) sc (xB 400 T) ik) s.heap := hH
  have hl : lv_has ls 4 [(0, .ref a0), (1, .ref (eX E t1)), (2, .int a2), (3, .int a3)] := hl
  have hBB := (okB hB.1).1
  refine lv_aload_n F.1 F.2.1 dX7_begins_0 rfl (lv_at hl 0 rfl) ?_
  refine tGetR (j := 36) F hK hH (tyb ha0 (all1 rfl)) rfl (all1 rfl) clX7 (by decide) wd_7_5 dX7_begins_1 (fun q_1 hq_1 _ => ?_)
  refine lv_iload_n F.1 F.2.1 dX7_begins_4 rfl (lv_at hl 2 rfl) ?_
  refine tIaldX F hK hH (tyb hq_1 (all1 rfl)) (ixb (n := 660) ha2 rfl rfl) dX7_begins_5 (fun z_2 ez_2 => ?_)
  have gz_2 : z_2.toInt = gI B (1) := by unfold gI; rw [ez_2, show (a2).toNatClampNeg = (1) from by show (a2).toInt.toNat = _; omega]
  have hz_2 : 0 ≤ z_2.toInt ∧ z_2.toInt ≤ 14 := (by have h9_ := okA.at (i := a2) hB.1 (by omega); rw [show gI B (a2).toNatClampNeg = z_2.toInt from by unfold gI; rw [ez_2]] at h9_; have h8_ := phi_1 h9_ (by omega); omega)
  refine lv_iload_n F.1 F.2.1 dX7_begins_6 rfl (lv_at hl 3 rfl) ?_
  refine b_ne (tgt := 20) F dX7_begins_7 (by decide) (fun c_3 => ?_) (fun c_3 => ?_)
  · skip
    have r_4 : 0 ≤ z_2.toInt ∧ z_2.toInt ≤ 13 := by have h9_ := hz_2; omega
    refine lv_aload_n F.1 F.2.1 dX7_begins_20 rfl (lv_at hl 0 rfl) ?_
    refine lv_dup F.1 F.2.1 dX7_begins_21 rfl ?_
    refine tGetI (j := 31) F hK hH (tyb ha0 (all1 rfl)) rfl clX7 (by decide) wd_15_21 dX7_begins_22 (fun z_6 hz_6 => ?_)
    have ez_6 : 0 ≤ z_6.toInt ∧ z_6.toInt ≤ 400 := by omega
    refine lv_aload_n F.1 F.2.1 dX7_begins_25 rfl (lv_at hl 1 rfl) ?_
    refine tVi (b := (eX E t1)) (As := []) (rest := [.int z_6, .ref a0]) F hK hN hO (c_len E (fun H => TH E (tbM (mD (.inl (t, t)) (.inl (p, p)) (.inl (nu, nu)) (.inl un) (.inl tk) (.inl xt) (.inl (wr, wr)) (.inl (na, na)) (.inl (iw, iw))) nw ws kp as (xD 660 B) sc (xB 400 T) ik) H) t1 n1 ha1) mv_J0_length_8abf5 wd_16_16 ⟨Nat.le_of_ble_eq_true rfl, Nat.le_of_ble_eq_true rfl⟩ ⟨Nat.le_of_ble_eq_true rfl, Nat.le_of_ble_eq_true rfl⟩ hH hS (sRecvS hO ha1 hS) rfl hl.1 (Nat.le_of_ble_eq_true rfl) dX7_begins_26 (fun z_7 H locs hq hS => ?_)
    obtain ⟨hz_7, hH⟩ := hq
    have hH : TH E (tbM (mD (.inl (t, t)) (.inl (p, p)) (.inl (nu, nu)) (.inl un) (.inl tk) (.inl xt) (.inl (wr, wr)) (.inl (na, na)) (.inl (iw, iw))) nw ws kp as (xD 660 B) sc (xB 400 T) ik) H := hH
    have ez_7 : 3 ≤ z_7.toInt ∧ z_7.toInt ≤ 6 := by have h9_ := strLe ha1; omega
    refine tAdd (lo := 3) (hi := 406) F dX7_begins_29 ez_6 ez_7 rfl (fun z_8 hz_8 => ?_)
    obtain ⟨g_9, hg_9⟩ : ∃ y : Int, z_8.toInt = y := ⟨_, rfl⟩
    have bg_9 : 3 ≤ g_9 ∧ g_9 ≤ 406 := by rw [← hg_9]; exact hz_8.2
    refine tPutG (j := 31) (t := 24) (fd := (.inl (g_9, g_9))) F hK hH hS (List.mem_singleton.mp ha0) (by decide) rfl rfl (fdI (by omega)) (TB1 := (tbM (mD (.inl (t, t)) (.inl (g_9, g_9)) (.inl (nu, nu)) (.inl un) (.inl tk) (.inl xt) (.inl (wr, wr)) (.inl (na, na)) (.inl (iw, iw))) nw ws kp as (xD 660 B) sc (xB 400 T) ik)) rfl clX7 (by decide) wd_15_21 rfl rfl rfl rfl dX7_begins_30 (fun H locs hH hS => ?_)
    refine lv_iconst (v := 1) F.1 F.2.1 dX7_begins_33 (by decide) ?_
    refine topK (a := 1) (by decide) (fun k_10 hk_10 => ?_)
    exact txI F hS dX7_begins_34 (nar01 (wkb (eqb hk_10) rfl rfl)) (⟨g_9, ⟨by omega, by omega, by omega, by omega⟩, wr, (by omega), (wkb (eqb hk_10) rfl rfl), (by omega), hH⟩)
  · skip
    have r_5 : 14 ≤ z_2.toInt ∧ z_2.toInt ≤ 14 := by have h9_ := hz_2; omega
    refine lv_aload_n F.1 F.2.1 dX7_begins_10 rfl (lv_at hl 0 rfl) ?_
    refine lv_iconst (v := 3) F.1 F.2.1 dX7_begins_11 (by decide) ?_
    refine topK (a := 3) (by decide) (fun k_11 hk_11 => ?_)
    refine lv_aload_n F.1 F.2.1 dX7_begins_12 rfl (lv_at hl 0 rfl) ?_
    refine tGetI (j := 31) F hK hH (tyb ha0 (all1 rfl)) rfl clX7 (by decide) wd_15_21 dX7_begins_13 (fun z_12 hz_12 => ?_)
    have ez_12 : 0 ≤ z_12.toInt ∧ z_12.toInt ≤ 400 := by omega
    refine tVi (b := a0) (As := [.int k_11, .int z_12]) (rest := []) F hK hN hO (c_X7_fails E nw ws kp as (xD 660 B) sc ik un tk xt t p wr nu na iw T a0 k_11 z_12 ha0 (wkb (eqb hk_11) rfl rfl) ez_12 (by omega) (by omega) (by omega) (by omega) (by omega) (by omega) hT (by omega)) mv_X7_fails wd_17_2 ⟨Nat.le_of_ble_eq_true rfl, Nat.le_of_ble_eq_true rfl⟩ ⟨Nat.le_of_ble_eq_true rfl, Nat.le_of_ble_eq_true rfl⟩ hH hS (tRecv hK hH (tyb ha0 (all1 rfl)) clX7) rfl hl.1 (Nat.le_of_ble_eq_true rfl) dX7_begins_16 (fun z_13 H locs hq hS => ?_)
    obtain ⟨g_14, hg_14, f_15, f_16, hH⟩ := hq
    have hH : TH E (tbM (mD (.inl (t, t)) (.inl (p, p)) (.inl (nu, nu)) (.inl un) (.inl tk) (.inl xt) (.inl (g_14, g_14)) (.inl (na, na)) (.inl (iw, iw))) nw ws kp as (xD 660 B) sc (xB 400 T) ik) H := hH
    exact txI F hS dX7_begins_19 (nar01 (wkb f_15 rfl rfl)) (⟨p, ⟨by omega, by omega, by omega, by omega⟩, g_14, (by omega), (wkb f_15 rfl rfl), (by omega), hH⟩)
set_option maxHeartbeats 4000000 in
set_option maxRecDepth 100000 in
theorem c_X7_begins_2 (E : Ev) (nw : TD) (ws : TD) (kp : TD) (as : TD) (sc : TD) (ik : TD) (un : Int × Int) (tk : Int × Int) (xt : Int × Int) (t : Int) (p : Int) (wr : Int) (nu : Int) (na : Int) (iw : Int) (B : Nat → Int32) (T : Nat → Int32) (a0 : Nat) (t1 n1 : Nat) (a2 : Int32) (a3 : Int32) (ha0 : eT E a0 ∈ [24]) (ha1 : strOf t1 n1) (ha2 : 2 ≤ a2.toInt ∧ a2.toInt ≤ 2) (ha3 : 4 ≤ a3.toInt ∧ a3.toInt ≤ 4) (ht : 0 ≤ t ∧ t ≤ 400) (hp : 0 ≤ p ∧ p ≤ 400) (hwr : 0 ≤ wr ∧ wr ≤ 4000) (hnu : (-2147483648) ≤ nu ∧ nu ≤ 2147483647) (hna : (-2147483648) ≤ na ∧ na ≤ 2147483647) (hiw : 0 ≤ iw ∧ iw ≤ 1) (hB : okR B) (hT : ivP 400 (-128) 127 T) (hpt : p ≤ t) (hpl : p + (n1 : Int) ≤ t) : TcI E yX7_begins cX7_begins 4 .boolean ({ frames := 3, cells := 0, slots := 0, locals := 100 }) [.ref a0, .ref (eX E t1), .int a2, .int a3] (fun H => TH E (tbM (mD (.inl (t, t)) (.inl (p, p)) (.inl (nu, nu)) (.inl un) (.inl tk) (.inl xt) (.inl (wr, wr)) (.inl (na, na)) (.inl (iw, iw))) nw ws kp as (xD 660 B) sc (xB 400 T) ik) H) (fun v H => ∃ p2 : Int, (0 ≤ p2 ∧ p2 ≤ 400 ∧ p ≤ p2 ∧ p2 ≤ t) ∧ ∃ wr2 : Int, (0 ≤ wr2 ∧ wr2 ≤ 4000) ∧ (0 ≤ v.toInt ∧ v.toInt ≤ 1) ∧ ((v.toInt = 1 ∧ gI B 2 ≠ 4 ∧ p2 = p + (n1 : Int)) ∨ (v.toInt = 0 ∧ gI B 2 = 4 ∧ wr2 = 8 * p + 3)) ∧ TH E (tbM (mD (.inl (t, t)) (.inl (p2, p2)) (.inl (nu, nu)) (.inl un) (.inl tk) (.inl xt) (.inl (wr2, wr2)) (.inl (na, na)) (.inl (iw, iw))) nw ws kp as (xD 660 B) sc (xB 400 T) ik) H) := by
  refine teI (by decide) (Nat.le_of_ble_eq_true rfl) ?_
  intro p_ ev_ s mi_ below_ meth cd_ ls F hK hN hO hH hS hl
  have hH : TH E (tbM (mD (.inl (t, t)) (.inl (p, p)) (.inl (nu, nu)) (.inl un) (.inl tk) (.inl xt) (.inl (wr, wr)) (.inl (na, na)) (.inl (iw, iw))) nw ws kp as (xD 660 B) sc (xB 400 T) ik) s.heap := hH
  have hl : lv_has ls 4 [(0, .ref a0), (1, .ref (eX E t1)), (2, .int a2), (3, .int a3)] := hl
  have hBB := (okB hB.1).1
  refine lv_aload_n F.1 F.2.1 dX7_begins_0 rfl (lv_at hl 0 rfl) ?_
  refine tGetR (j := 36) F hK hH (tyb ha0 (all1 rfl)) rfl (all1 rfl) clX7 (by decide) wd_7_5 dX7_begins_1 (fun q_1 hq_1 _ => ?_)
  refine lv_iload_n F.1 F.2.1 dX7_begins_4 rfl (lv_at hl 2 rfl) ?_
  refine tIaldX F hK hH (tyb hq_1 (all1 rfl)) (ixb (n := 660) ha2 rfl rfl) dX7_begins_5 (fun z_2 ez_2 => ?_)
  have gz_2 : z_2.toInt = gI B (2) := by unfold gI; rw [ez_2, show (a2).toNatClampNeg = (2) from by show (a2).toInt.toNat = _; omega]
  have hz_2 : 0 ≤ z_2.toInt ∧ z_2.toInt ≤ 4 := (by have h9_ := okA.at (i := a2) hB.1 (by omega); rw [show gI B (a2).toNatClampNeg = z_2.toInt from by unfold gI; rw [ez_2]] at h9_; have h8_ := phi_2 h9_ (by omega); omega)
  refine lv_iload_n F.1 F.2.1 dX7_begins_6 rfl (lv_at hl 3 rfl) ?_
  refine b_ne (tgt := 20) F dX7_begins_7 (by decide) (fun c_3 => ?_) (fun c_3 => ?_)
  · skip
    have r_4 : 0 ≤ z_2.toInt ∧ z_2.toInt ≤ 3 := by have h9_ := hz_2; omega
    refine lv_aload_n F.1 F.2.1 dX7_begins_20 rfl (lv_at hl 0 rfl) ?_
    refine lv_dup F.1 F.2.1 dX7_begins_21 rfl ?_
    refine tGetI (j := 31) F hK hH (tyb ha0 (all1 rfl)) rfl clX7 (by decide) wd_15_21 dX7_begins_22 (fun z_6 hz_6 => ?_)
    have ez_6 : 0 ≤ z_6.toInt ∧ z_6.toInt ≤ 400 := by omega
    refine lv_aload_n F.1 F.2.1 dX7_begins_25 rfl (lv_at hl 1 rfl) ?_
    refine tVi (b := (eX E t1)) (As := []) (rest := [.int z_6, .ref a0]) F hK hN hO (c_len E (fun H => TH E (tbM (mD (.inl (t, t)) (.inl (p, p)) (.inl (nu, nu)) (.inl un) (.inl tk) (.inl xt) (.inl (wr, wr)) (.inl (na, na)) (.inl (iw, iw))) nw ws kp as (xD 660 B) sc (xB 400 T) ik) H) t1 n1 ha1) mv_J0_length_8abf5 wd_16_16 ⟨Nat.le_of_ble_eq_true rfl, Nat.le_of_ble_eq_true rfl⟩ ⟨Nat.le_of_ble_eq_true rfl, Nat.le_of_ble_eq_true rfl⟩ hH hS (sRecvS hO ha1 hS) rfl hl.1 (Nat.le_of_ble_eq_true rfl) dX7_begins_26 (fun z_7 H locs hq hS => ?_)
    obtain ⟨hz_7, hH⟩ := hq
    have hH : TH E (tbM (mD (.inl (t, t)) (.inl (p, p)) (.inl (nu, nu)) (.inl un) (.inl tk) (.inl xt) (.inl (wr, wr)) (.inl (na, na)) (.inl (iw, iw))) nw ws kp as (xD 660 B) sc (xB 400 T) ik) H := hH
    have ez_7 : 3 ≤ z_7.toInt ∧ z_7.toInt ≤ 6 := by have h9_ := strLe ha1; omega
    refine tAdd (lo := 3) (hi := 406) F dX7_begins_29 ez_6 ez_7 rfl (fun z_8 hz_8 => ?_)
    obtain ⟨g_9, hg_9⟩ : ∃ y : Int, z_8.toInt = y := ⟨_, rfl⟩
    have bg_9 : 3 ≤ g_9 ∧ g_9 ≤ 406 := by rw [← hg_9]; exact hz_8.2
    refine tPutG (j := 31) (t := 24) (fd := (.inl (g_9, g_9))) F hK hH hS (List.mem_singleton.mp ha0) (by decide) rfl rfl (fdI (by omega)) (TB1 := (tbM (mD (.inl (t, t)) (.inl (g_9, g_9)) (.inl (nu, nu)) (.inl un) (.inl tk) (.inl xt) (.inl (wr, wr)) (.inl (na, na)) (.inl (iw, iw))) nw ws kp as (xD 660 B) sc (xB 400 T) ik)) rfl clX7 (by decide) wd_15_21 rfl rfl rfl rfl dX7_begins_30 (fun H locs hH hS => ?_)
    refine lv_iconst (v := 1) F.1 F.2.1 dX7_begins_33 (by decide) ?_
    refine topK (a := 1) (by decide) (fun k_10 hk_10 => ?_)
    exact txI F hS dX7_begins_34 (nar01 (wkb (eqb hk_10) rfl rfl)) (⟨g_9, ⟨by omega, by omega, by omega, by omega⟩, wr, (by omega), (wkb (eqb hk_10) rfl rfl), (by omega), hH⟩)
  · skip
    have r_5 : 4 ≤ z_2.toInt ∧ z_2.toInt ≤ 4 := by have h9_ := hz_2; omega
    refine lv_aload_n F.1 F.2.1 dX7_begins_10 rfl (lv_at hl 0 rfl) ?_
    refine lv_iconst (v := 3) F.1 F.2.1 dX7_begins_11 (by decide) ?_
    refine topK (a := 3) (by decide) (fun k_11 hk_11 => ?_)
    refine lv_aload_n F.1 F.2.1 dX7_begins_12 rfl (lv_at hl 0 rfl) ?_
    refine tGetI (j := 31) F hK hH (tyb ha0 (all1 rfl)) rfl clX7 (by decide) wd_15_21 dX7_begins_13 (fun z_12 hz_12 => ?_)
    have ez_12 : 0 ≤ z_12.toInt ∧ z_12.toInt ≤ 400 := by omega
    refine tVi (b := a0) (As := [.int k_11, .int z_12]) (rest := []) F hK hN hO (c_X7_fails E nw ws kp as (xD 660 B) sc ik un tk xt t p wr nu na iw T a0 k_11 z_12 ha0 (wkb (eqb hk_11) rfl rfl) ez_12 (by omega) (by omega) (by omega) (by omega) (by omega) (by omega) hT (by omega)) mv_X7_fails wd_17_2 ⟨Nat.le_of_ble_eq_true rfl, Nat.le_of_ble_eq_true rfl⟩ ⟨Nat.le_of_ble_eq_true rfl, Nat.le_of_ble_eq_true rfl⟩ hH hS (tRecv hK hH (tyb ha0 (all1 rfl)) clX7) rfl hl.1 (Nat.le_of_ble_eq_true rfl) dX7_begins_16 (fun z_13 H locs hq hS => ?_)
    obtain ⟨g_14, hg_14, f_15, f_16, hH⟩ := hq
    have hH : TH E (tbM (mD (.inl (t, t)) (.inl (p, p)) (.inl (nu, nu)) (.inl un) (.inl tk) (.inl xt) (.inl (g_14, g_14)) (.inl (na, na)) (.inl (iw, iw))) nw ws kp as (xD 660 B) sc (xB 400 T) ik) H := hH
    exact txI F hS dX7_begins_19 (nar01 (wkb f_15 rfl rfl)) (⟨p, ⟨by omega, by omega, by omega, by omega⟩, g_14, (by omega), (wkb f_15 rfl rfl), (by omega), hH⟩)
set_option maxHeartbeats 4000000 in
set_option maxRecDepth 100000 in
theorem c_X7_readsReachOf (E : Ev) (nw : TD) (ws : TD) (kp : TD) (as : TD) (sc : TD) (ik : TD) (un : Int × Int) (tk : Int × Int) (xt : Int × Int) (t : Int) (p : Int) (wr : Int) (nu : Int) (na : Int) (iw : Int) (B : Nat → Int32) (T : Nat → Int32) (aq : Int) (ra : Int) (a0 : Nat) (a1 : Int32) (ha0 : eT E a0 ∈ [24]) (ht : 0 ≤ t ∧ t ≤ 400) (hp : 0 ≤ p ∧ p ≤ 400) (hwr : 0 ≤ wr ∧ wr ≤ 4000) (hnu : (-2147483648) ≤ nu ∧ nu ≤ 2147483647) (hna : (-2147483648) ≤ na ∧ na ≤ 2147483647) (hiw : 0 ≤ iw ∧ iw ≤ 1) (hB : okR B) (hT : ivP 400 (-128) 127 T) (hpt : p ≤ t) (hat : 0 ≤ a1.toInt ∧ a1.toInt < 660 ∧ a1.toInt ≠ 0 ∧ a1.toInt ≠ 1 ∧ a1.toInt ≠ 2 ∧ a1.toInt ≠ 3 ∧ (a1.toInt < 78 ∨ 260 ≤ a1.toInt ∨ (a1.toInt - 78) % 13 ≠ 6)) (hp : ∀ y : Int, 0 ≤ y → y < gI B 0 → phi a1.toInt y) (h6e : a1.toInt = 6 → gI B 0 = 0) (haq : a1.toInt = aq) (hra : gI B 0 = ra) : TcI E yX7_readsReachOf cX7_readsReachOf 2 .boolean ({ frames := 5, cells := 0, slots := 0, locals := 126 }) [.ref a0, .int a1] (fun H => TH E (tbM (mD (.inl (t, t)) (.inl (p, p)) (.inl (nu, nu)) (.inl un) (.inl tk) (.inl xt) (.inl (wr, wr)) (.inl (na, na)) (.inl (iw, iw))) nw ws kp as (xD 660 B) sc (xB 400 T) ik) H) (fun v H => ∃ p2 : Int, (0 ≤ p2 ∧ p2 ≤ 400 ∧ p ≤ p2 ∧ p2 ≤ t) ∧ ∃ nu2 : Int, ((-2147483648) ≤ nu2 ∧ nu2 ≤ 2147483647) ∧ ∃ wr2 : Int, (0 ≤ wr2 ∧ wr2 ≤ 4000) ∧ ∃ na2 : Int, ((-2147483648) ≤ na2 ∧ na2 ≤ 2147483647) ∧ ∃ B2 : Nat → Int32, (okR B2 ∧ gI B2 0 = gI B 0 ∧ gI B2 1 = gI B 1 ∧ gI B2 2 = gI B 2 ∧ gI B2 6 = gI B 6 ∧ gI B2 3 = gI B 3 ∧ mRes v.toInt wr2 (p2, iw, B2) (mTo T t 0 (ra - 1) aq (p, iw, B))) ∧ (0 ≤ v.toInt ∧ v.toInt ≤ 1) ∧ (v.toInt = 1 → 0 < gI B 0) ∧ TH E (tbM (mD (.inl (t, t)) (.inl (p2, p2)) (.inl (nu2, nu2)) (.inl un) (.inl tk) (.inl xt) (.inl (wr2, wr2)) (.inl (na2, na2)) (.inl (iw, iw))) nw ws kp as (xD 660 B2) sc (xB 400 T) ik) H) := by
  refine teI (by decide) (Nat.le_of_ble_eq_true rfl) ?_
  intro p_ ev_ s mi_ below_ meth cd_ ls F hK hN hO hH hS hl
  have hH : TH E (tbM (mD (.inl (t, t)) (.inl (p, p)) (.inl (nu, nu)) (.inl un) (.inl tk) (.inl xt) (.inl (wr, wr)) (.inl (na, na)) (.inl (iw, iw))) nw ws kp as (xD 660 B) sc (xB 400 T) ik) s.heap := hH
  have hl : lv_has ls 2 [(0, .ref a0), (1, .int a1)] := hl
  have hBB := (okB hB.1).1
  refine lv_aload_n F.1 F.2.1 dX7_readsReachOf_0 rfl (lv_at hl 0 rfl) ?_
  refine lv_iload_n F.1 F.2.1 dX7_readsReachOf_1 rfl (lv_at hl 1 rfl) ?_
  refine lv_iconst (v := 0) F.1 F.2.1 dX7_readsReachOf_2 (by decide) ?_
  refine topK (a := 0) (by decide) (fun k_1 hk_1 => ?_)
  refine lv_aload_n F.1 F.2.1 dX7_readsReachOf_3 rfl (lv_at hl 0 rfl) ?_
  refine tGetR (j := 36) F hK hH (tyb ha0 (all1 rfl)) rfl (all1 rfl) clX7 (by decide) wd_7_5 dX7_readsReachOf_4 (fun q_2 hq_2 _ => ?_)
  refine lv_iconst (v := 0) F.1 F.2.1 dX7_readsReachOf_7 (by decide) ?_
  refine topK (a := 0) (by decide) (fun k_3 hk_3 => ?_)
  refine tIaldX F hK hH (tyb hq_2 (all1 rfl)) (ixb (n := 660) (eqb hk_3) rfl rfl) dX7_readsReachOf_8 (fun z_4 ez_4 => ?_)
  have gz_4 : z_4.toInt = gI B (0) := by unfold gI; rw [ez_4, show (k_3).toNatClampNeg = (0) from by show (k_3).toInt.toNat = _; omega]
  have hz_4 : 0 ≤ z_4.toInt ∧ z_4.toInt ≤ 12 := (by have h9_ := okA.at (i := k_3) hB.1 (by omega); rw [show gI B (k_3).toNatClampNeg = z_4.toInt from by unfold gI; rw [ez_4]] at h9_; have h8_ := phi_0 h9_ (by omega); omega)
  refine lv_iconst (v := 1) F.1 F.2.1 dX7_readsReachOf_9 (by decide) ?_
  refine topK (a := 1) (by decide) (fun k_5 hk_5 => ?_)
  refine tSub (lo := (-1)) (hi := 11) F dX7_readsReachOf_10 hz_4 (eqb hk_5) rfl (fun z_6 hz_6 => ?_)
  refine tVi (b := a0) (As := [.int a1, .int k_1, .int z_6]) (rest := []) F hK hN hO (c_X7_readsTo E nw ws kp as sc ik un tk xt t p wr nu na iw B T aq 0 (ra - 1) a0 a1 k_1 z_6 ha0 (by omega) (by omega) (by omega) (by omega) (by omega) (by omega) hB hT (by omega) (by omega) (fun y_ h1_ h2_ => hp y_ (by omega) (by omega)) (by omega) (by omega) (by omega) (by omega)) mv_X7_readsTo wd_17_14 ⟨Nat.le_of_ble_eq_true rfl, Nat.le_of_ble_eq_true rfl⟩ ⟨Nat.le_of_ble_eq_true rfl, Nat.le_of_ble_eq_true rfl⟩ hH hS (tRecv hK hH (tyb ha0 (all1 rfl)) clX7) rfl hl.1 (Nat.le_of_ble_eq_true rfl) dX7_readsReachOf_11 (fun z_7 H locs hq hS => ?_)
  obtain ⟨g_8, hg_8, g_9, hg_9, g_10, hg_10, g_11, hg_11, g_12, hg_12, f_13, f_14, hH⟩ := hq
  have hH : TH E (tbM (mD (.inl (t, t)) (.inl (g_8, g_8)) (.inl (g_9, g_9)) (.inl un) (.inl tk) (.inl xt) (.inl (g_10, g_10)) (.inl (g_11, g_11)) (.inl (iw, iw))) nw ws kp as (xD 660 g_12) sc (xB 400 T) ik) H := hH
  have hBg_12 := (okB hg_12.1.1).1
  exact txI F hS dX7_readsReachOf_14 (nar01 f_13) (⟨g_8, ⟨by omega, by omega, by omega, by omega⟩, g_9, (by omega), g_10, (by omega), g_11, (by omega), g_12, ⟨hg_12.1, by omega, by omega, by omega, by omega, by omega, hg_12.2.2.2.2.2.2⟩, f_13, (by omega), hH⟩)
set_option maxHeartbeats 4000000 in
set_option maxRecDepth 100000 in
theorem c_X7_readsAge (E : Ev) (nw : TD) (ws : TD) (kp : TD) (as : TD) (sc : TD) (ik : TD) (un : Int × Int) (tk : Int × Int) (xt : Int × Int) (t : Int) (p : Int) (wr : Int) (nu : Int) (na : Int) (iw : Int) (B : Nat → Int32) (T : Nat → Int32) (aq : Int) (a0 : Nat) (a1 : Int32) (ha0 : eT E a0 ∈ [24]) (ha1 : 81 ≤ a1.toInt ∧ a1.toInt ≤ 287) (ht : 0 ≤ t ∧ t ≤ 400) (hp : 0 ≤ p ∧ p ≤ 400) (hwr : 0 ≤ wr ∧ wr ≤ 4000) (hnu : (-2147483648) ≤ nu ∧ nu ≤ 2147483647) (hna : (-2147483648) ≤ na ∧ na ≤ 2147483647) (hiw : 0 ≤ iw ∧ iw ≤ 1) (hB : okR B) (hT : ivP 400 (-128) 127 T) (hpt : p ≤ t) (hat : (a1.toInt < 260 ∧ (a1.toInt - 78) % 13 = 4) ∨ (260 ≤ a1.toInt ∧ (a1.toInt - 260) % 7 = 3)) (haq : a1.toInt = aq) : TcI E yX7_readsAge cX7_readsAge 3 .boolean ({ frames := 8, cells := 0, slots := 0, locals := 247 }) [.ref a0, .int a1] (fun H => TH E (tbM (mD (.inl (t, t)) (.inl (p, p)) (.inl (nu, nu)) (.inl un) (.inl tk) (.inl xt) (.inl (wr, wr)) (.inl (na, na)) (.inl (iw, iw))) nw ws kp as (xD 660 B) sc (xB 400 T) ik) H) (fun v H => ∃ p2 : Int, (0 ≤ p2 ∧ p2 ≤ 400 ∧ p ≤ p2 ∧ p2 ≤ t) ∧ ∃ nu2 : Int, ((-2147483648) ≤ nu2 ∧ nu2 ≤ 2147483647) ∧ ∃ wr2 : Int, (0 ≤ wr2 ∧ wr2 ≤ 4000) ∧ ∃ na2 : Int, ((-2147483648) ≤ na2 ∧ na2 ≤ 2147483647) ∧ ∃ B2 : Nat → Int32, (okR B2 ∧ gI B2 0 = gI B 0 ∧ gI B2 1 = gI B 1 ∧ gI B2 2 = gI B 2 ∧ gI B2 6 = gI B 6 ∧ gI B2 3 = gI B 3 ∧ mRes v.toInt wr2 (p2, iw, B2) (mAge T t aq (p, iw, B))) ∧ (0 ≤ v.toInt ∧ v.toInt ≤ 1) ∧ TH E (tbM (mD (.inl (t, t)) (.inl (p2, p2)) (.inl (nu2, nu2)) (.inl un) (.inl tk) (.inl xt) (.inl (wr2, wr2)) (.inl (na2, na2)) (.inl (iw, iw))) nw ws kp as (xD 660 B2) sc (xB 400 T) ik) H) := by
  refine teI (by decide) (Nat.le_of_ble_eq_true rfl) ?_
  intro p_ ev_ s mi_ below_ meth cd_ ls F hK hN hO hH hS hl
  have hH : TH E (tbM (mD (.inl (t, t)) (.inl (p, p)) (.inl (nu, nu)) (.inl un) (.inl tk) (.inl xt) (.inl (wr, wr)) (.inl (na, na)) (.inl (iw, iw))) nw ws kp as (xD 660 B) sc (xB 400 T) ik) s.heap := hH
  have hl : lv_has ls 3 [(0, .ref a0), (1, .int a1)] := hl
  have hBB := (okB hB.1).1
  refine lv_aload_n F.1 F.2.1 dX7_readsAge_0 rfl (lv_at hl 0 rfl) ?_
  refine ldcwS F.1 F.2.1 F.2.2.2.2.1 (hO.1 22 _ rfl).1 dX7_readsAge_1 ?_
  refine tVi (b := a0) (As := [.ref (eX E 22)]) (rest := []) F hK hN hO (c_X7_mustWord E nw ws kp as (xD 660 B) sc ik un tk xt t p wr nu na iw T a0 22 3 ha0 (strAt 22 rfl) (by omega) (by omega) (by omega) (by omega) (by omega) (by omega) hT (by omega)) mv_X7_mustWord wd_18_12 ⟨Nat.le_of_ble_eq_true rfl, Nat.le_of_ble_eq_true rfl⟩ ⟨Nat.le_of_ble_eq_true rfl, Nat.le_of_ble_eq_true rfl⟩ hH hS (tRecv hK hH (tyb ha0 (all1 rfl)) clX7) rfl hl.1 (Nat.le_of_ble_eq_true rfl) dX7_readsAge_4 (fun z_1 H locs hq hS => ?_)
  obtain ⟨g_2, hg_2, g_3, hg_3, f_4, f_5, f_6, hH⟩ := hq
  have hH : TH E (tbM (mD (.inl (t, t)) (.inl (g_2, g_2)) (.inl (nu, nu)) (.inl un) (.inl tk) (.inl xt) (.inl (g_3, g_3)) (.inl (na, na)) (.inl (iw, iw))) nw ws kp as (xD 660 B) sc (xB 400 T) ik) H := hH
  refine z_eq (tgt := 21) F dX7_readsAge_7 (by decide) (fun c_7 => ?_) (fun c_7 => ?_)
  · skip
    have r_8 : 0 ≤ z_1.toInt ∧ z_1.toInt ≤ 0 := by have h9_ := f_4; omega
    refine lv_iconst (v := 0) F.1 F.2.1 dX7_readsAge_21 (by decide) ?_
    refine topK (a := 0) (by decide) (fun k_10 hk_10 => ?_)
    exact txI F hS dX7_readsAge_22 (nar01 (wkb (eqb hk_10) rfl rfl)) (⟨g_2, ⟨by omega, by omega, by omega, by omega⟩, nu, (by omega), g_3, (by omega), na, (by omega), B, ⟨hB, by omega, by omega, by omega, by omega, by omega, (mage_1 f_5 hg_2.2.2.2.2 (by omega) (by omega) (by omega))⟩, (wkb (eqb hk_10) rfl rfl), hH⟩)
  · skip
    have r_9 : 1 ≤ z_1.toInt ∧ z_1.toInt ≤ 1 := by have h9_ := f_4; omega
    refine lv_aload_n F.1 F.2.1 dX7_readsAge_10 rfl (lv_at hl 0 rfl) ?_
    refine lv_iconst (v := 0) F.1 F.2.1 dX7_readsAge_11 (by decide) ?_
    refine topK (a := 0) (by decide) (fun k_11 hk_11 => ?_)
    refine lv_sipush (v := 9999) F.1 F.2.1 dX7_readsAge_12 (by decide) ?_
    refine topK (a := 9999) (by decide) (fun k_12 hk_12 => ?_)
    refine tVi (b := a0) (As := [.int k_11, .int k_12]) (rest := []) F hK hN hO (c_X7_readsNumber E nw ws kp as (xD 660 B) sc ik un tk xt t g_2 g_3 nu na iw T 0 9999 a0 k_11 k_12 ha0 (by omega) (by omega) (by omega) (by omega) (by omega) (by omega) hT (by omega) (by omega) (by omega)) mv_X7_readsNumber wd_17_19 ⟨Nat.le_of_ble_eq_true rfl, Nat.le_of_ble_eq_true rfl⟩ ⟨Nat.le_of_ble_eq_true rfl, Nat.le_of_ble_eq_true rfl⟩ hH hS (tRecv hK hH (tyb ha0 (all1 rfl)) clX7) rfl hl.1 (Nat.le_of_ble_eq_true rfl) dX7_readsAge_15 (fun z_13 H locs hq hS => ?_)
    obtain ⟨g_14, hg_14, g_15, hg_15, g_16, hg_16, g_17, hg_17, f_18, f_19, f_20, f_21, f_22, hH⟩ := hq
    have hH : TH E (tbM (mD (.inl (t, t)) (.inl (g_14, g_14)) (.inl (g_15, g_15)) (.inl un) (.inl tk) (.inl xt) (.inl (g_16, g_16)) (.inl (g_17, g_17)) (.inl (iw, iw))) nw ws kp as (xD 660 B) sc (xB 400 T) ik) H := hH
    refine z_ne (tgt := 23) F dX7_readsAge_18 (by decide) (fun c_23 => ?_) (fun c_23 => ?_)
    · skip
      have r_24 : 1 ≤ z_13.toInt ∧ z_13.toInt ≤ 1 := by have h9_ := f_18; omega
      refine lv_iconst (v := 0) F.1 F.2.1 dX7_readsAge_23 (by decide) ?_
      refine topK (a := 0) (by decide) (fun k_26 hk_26 => ?_)
      refine lv_istore_n (lv' := [(2, .int k_26), (0, .ref a0), (1, .int a1)]) F.1 F.2.1 dX7_readsAge_24 rfl hl (by decide) rfl (fun ls hl => ?_)
      refine wloop (σ := Int32) (fun n9 x9 H locs ls => (14 - x9.toInt + 1).toNat < n9 ∧ (0 ≤ x9.toInt ∧ x9.toInt ≤ 14) ∧ (rhas (fun t_ => B (78 + 13 * t_ + 4)) g_15 (x9.toInt).toNat = false) ∧ (x9.toInt ≤ gI B 1) ∧ TH E (tbM (mD (.inl (t, t)) (.inl (g_14, g_14)) (.inl (g_15, g_15)) (.inl un) (.inl tk) (.inl xt) (.inl (g_16, g_16)) (.inl (g_17, g_17)) (.inl (iw, iw))) nw ws kp as (xD 660 B) sc (xB 400 T) ik) H ∧ va_S (eA E s.heap.size) s.heap H locs ∧ lv_has ls 3 [(0, .ref a0), (1, .int a1), (2, .int x9)]) ?_ (fun x9 H locs ls h => absurd h.1 (Nat.not_lt_zero _)) _ (k_26) ⟨Nat.lt_succ_self _, (wkb (eqb hk_26) rfl rfl), (show rhas (fun t_ => B (78 + 13 * t_ + 4)) g_15 (k_26.toInt).toNat = false from (has_0 (by omega))), (show k_26.toInt ≤ gI B 1 from by omega), hH, hS, lv_sub hl [1, 2, 0] rfl⟩
      intro n_25 ih_25 u_27 H locs ls ⟨hm_25, hu_27, hcr25_0, hcr25_1, hH, hS, hl⟩
      have hm_25 : (14 - u_27.toInt + 1).toNat < n_25 + 1 := hm_25
      have hu_27 : (0 ≤ u_27.toInt ∧ u_27.toInt ≤ 14) := hu_27
      have hcr25_0 : (rhas (fun t_ => B (78 + 13 * t_ + 4)) g_15 (u_27.toInt).toNat = false) := hcr25_0
      have hcr25_1 : (u_27.toInt ≤ gI B 1) := hcr25_1
      have hH : TH E (tbM (mD (.inl (t, t)) (.inl (g_14, g_14)) (.inl (g_15, g_15)) (.inl un) (.inl tk) (.inl xt) (.inl (g_16, g_16)) (.inl (g_17, g_17)) (.inl (iw, iw))) nw ws kp as (xD 660 B) sc (xB 400 T) ik) H := hH
      have hl : lv_has ls 3 [(0, .ref a0), (1, .int a1), (2, .int u_27)] := hl
      refine lv_iload_n F.1 F.2.1 dX7_readsAge_25 rfl (lv_at hl 2 rfl) ?_
      refine lv_aload_n F.1 F.2.1 dX7_readsAge_26 rfl (lv_at hl 0 rfl) ?_
      refine tGetR (j := 36) F hK hH (tyb ha0 (all1 rfl)) rfl (all1 rfl) clX7 (by decide) wd_7_5 dX7_readsAge_27 (fun q_28 hq_28 _ => ?_)
      refine lv_iconst (v := 1) F.1 F.2.1 dX7_readsAge_30 (by decide) ?_
      refine topK (a := 1) (by decide) (fun k_29 hk_29 => ?_)
      refine tIaldX F hK hH (tyb hq_28 (all1 rfl)) (ixb (n := 660) (eqb hk_29) rfl rfl) dX7_readsAge_31 (fun z_30 ez_30 => ?_)
      have gz_30 : z_30.toInt = gI B (1) := by unfold gI; rw [ez_30, show (k_29).toNatClampNeg = (1) from by show (k_29).toInt.toNat = _; omega]
      have hz_30 : 0 ≤ z_30.toInt ∧ z_30.toInt ≤ 14 := (by have h9_ := okA.at (i := k_29) hB.1 (by omega); rw [show gI B (k_29).toNatClampNeg = z_30.toInt from by unfold gI; rw [ez_30]] at h9_; have h8_ := phi_1 h9_ (by omega); omega)
      refine b_ge (tgt := 72) F dX7_readsAge_32 (by decide) (fun c_31 => ?_) (fun c_31 => ?_)
      · skip
        refine lv_iconst (v := 0) F.1 F.2.1 dX7_readsAge_72 (by decide) ?_
        refine topK (a := 0) (by decide) (fun k_34 hk_34 => ?_)
        refine lv_istore_n (lv' := [(2, .int k_34), (0, .ref a0), (1, .int a1)]) F.1 F.2.1 dX7_readsAge_73 rfl hl (by decide) rfl (fun ls hl => ?_)
        refine wloop (σ := Int32) (fun n9 x9 H locs ls => (4 - x9.toInt + 1).toNat < n9 ∧ (0 ≤ x9.toInt ∧ x9.toInt ≤ 4) ∧ (rhas (fun t_ => B (78 + 13 * t_ + 4)) g_15 (gI B 1).toNat = false) ∧ (rhas (fun t_ => B (260 + 7 * t_ + 3)) g_15 (x9.toInt).toNat = false) ∧ (x9.toInt ≤ gI B 2) ∧ TH E (tbM (mD (.inl (t, t)) (.inl (g_14, g_14)) (.inl (g_15, g_15)) (.inl un) (.inl tk) (.inl xt) (.inl (g_16, g_16)) (.inl (g_17, g_17)) (.inl (iw, iw))) nw ws kp as (xD 660 B) sc (xB 400 T) ik) H ∧ va_S (eA E s.heap.size) s.heap H locs ∧ lv_has ls 3 [(0, .ref a0), (1, .int a1), (2, .int x9)]) ?_ (fun x9 H locs ls h => absurd h.1 (Nat.not_lt_zero _)) _ (k_34) ⟨Nat.lt_succ_self _, (wkb (eqb hk_34) rfl rfl), (show rhas (fun t_ => B (78 + 13 * t_ + 4)) g_15 (gI B 1).toNat = false from (has_to hcr25_0 (by omega))), (show rhas (fun t_ => B (260 + 7 * t_ + 3)) g_15 (k_34.toInt).toNat = false from (has_0 (by omega))), (show k_34.toInt ≤ gI B 2 from by omega), hH, hS, lv_sub hl [1, 2, 0] rfl⟩
        intro n_74 ih_74 u_35 H locs ls ⟨hm_74, hu_35, hcr74_0, hcr74_1, hcr74_2, hH, hS, hl⟩
        have hm_74 : (4 - u_35.toInt + 1).toNat < n_74 + 1 := hm_74
        have hu_35 : (0 ≤ u_35.toInt ∧ u_35.toInt ≤ 4) := hu_35
        have hcr74_0 : (rhas (fun t_ => B (78 + 13 * t_ + 4)) g_15 (gI B 1).toNat = false) := hcr74_0
        have hcr74_1 : (rhas (fun t_ => B (260 + 7 * t_ + 3)) g_15 (u_35.toInt).toNat = false) := hcr74_1
        have hcr74_2 : (u_35.toInt ≤ gI B 2) := hcr74_2
        have hH : TH E (tbM (mD (.inl (t, t)) (.inl (g_14, g_14)) (.inl (g_15, g_15)) (.inl un) (.inl tk) (.inl xt) (.inl (g_16, g_16)) (.inl (g_17, g_17)) (.inl (iw, iw))) nw ws kp as (xD 660 B) sc (xB 400 T) ik) H := hH
        have hl : lv_has ls 3 [(0, .ref a0), (1, .int a1), (2, .int u_35)] := hl
        refine lv_iload_n F.1 F.2.1 dX7_readsAge_74 rfl (lv_at hl 2 rfl) ?_
        refine lv_aload_n F.1 F.2.1 dX7_readsAge_75 rfl (lv_at hl 0 rfl) ?_
        refine tGetR (j := 36) F hK hH (tyb ha0 (all1 rfl)) rfl (all1 rfl) clX7 (by decide) wd_7_5 dX7_readsAge_76 (fun q_36 hq_36 _ => ?_)
        refine lv_iconst (v := 2) F.1 F.2.1 dX7_readsAge_79 (by decide) ?_
        refine topK (a := 2) (by decide) (fun k_37 hk_37 => ?_)
        refine tIaldX F hK hH (tyb hq_36 (all1 rfl)) (ixb (n := 660) (eqb hk_37) rfl rfl) dX7_readsAge_80 (fun z_38 ez_38 => ?_)
        have gz_38 : z_38.toInt = gI B (2) := by unfold gI; rw [ez_38, show (k_37).toNatClampNeg = (2) from by show (k_37).toInt.toNat = _; omega]
        have hz_38 : 0 ≤ z_38.toInt ∧ z_38.toInt ≤ 4 := (by have h9_ := okA.at (i := k_37) hB.1 (by omega); rw [show gI B (k_37).toNatClampNeg = z_38.toInt from by unfold gI; rw [ez_38]] at h9_; have h8_ := phi_2 h9_ (by omega); omega)
        refine b_ge (tgt := 122) F dX7_readsAge_81 (by decide) (fun c_39 => ?_) (fun c_39 => ?_)
        · skip
          refine lv_aload_n F.1 F.2.1 dX7_readsAge_122 rfl (lv_at hl 0 rfl) ?_
          refine tGetR (j := 36) F hK hH (tyb ha0 (all1 rfl)) rfl (all1 rfl) clX7 (by decide) wd_7_5 dX7_readsAge_123 (fun q_42 hq_42 _ => ?_)
          refine lv_iload_n F.1 F.2.1 dX7_readsAge_126 rfl (lv_at hl 1 rfl) ?_
          refine lv_aload_n F.1 F.2.1 dX7_readsAge_127 rfl (lv_at hl 0 rfl) ?_
          refine tGetI (j := 33) F hK hH (tyb ha0 (all1 rfl)) rfl clX7 (by decide) wd_17_18 dX7_readsAge_128 (fun z_43 hz_43 => ?_)
          have ez_43 : (-2147483648) ≤ z_43.toInt ∧ z_43.toInt ≤ 2147483647 := by omega
          refine tIastX (t := 29) F hK hH hS (List.mem_singleton.mp hq_42) (by decide) rfl (ixb (n := 660) ha1 rfl rfl) dX7_readsAge_131 (fun G_44 eG_44 H locs hH hS => ?_)
          have hH : TH E (tbM (mD (.inl (t, t)) (.inl (g_14, g_14)) (.inl (g_15, g_15)) (.inl un) (.inl tk) (.inl xt) (.inl (g_16, g_16)) (.inl (g_17, g_17)) (.inl (iw, iw))) nw ws kp as (xD 660 G_44) sc (xB 400 T) ik) H := hH
          have n0G_44 : gI G_44 0 = gI B 0 := gI_ne eG_44 (by omega) (by omega)
          have n1G_44 : gI G_44 1 = gI B 1 := gI_ne eG_44 (by omega) (by omega)
          have n2G_44 : gI G_44 2 = gI B 2 := gI_ne eG_44 (by omega) (by omega)
          have n6G_44 : gI G_44 6 = gI B 6 := gI_ne eG_44 (by omega) (by omega)
          have n3G_44 : gI G_44 3 = gI B 3 := gI_ne eG_44 (by omega) (by omega)
          have hG_44 : okR G_44 := (okR.stM hB eG_44 (by omega) (by omega) (by omega) (phiI (by omega) (by omega) (by omega) (by omega) (by omega) (by omega) (by omega) (by omega) (by omega) (by omega) (by omega) (by omega) (by omega) (by omega) (by omega) (by omega) (by omega) (by omega)) (by omega))
          have hBG_44 := (okB hG_44.1).1
          refine lv_iconst (v := 1) F.1 F.2.1 dX7_readsAge_132 (by decide) ?_
          refine topK (a := 1) (by decide) (fun k_45 hk_45 => ?_)
          exact txI F hS dX7_readsAge_133 (nar01 (wkb (eqb hk_45) rfl rfl)) (⟨g_14, ⟨by omega, by omega, by omega, by omega⟩, g_15, (by omega), g_16, (by omega), g_17, (by omega), G_44, ⟨hG_44, by omega, by omega, by omega, by omega, by omega, (mage_4 f_5 hg_2.2.2.2.2 f_19 hg_14.2.2.2.2 (nu := g_15) (by omega) hcr74_0 (has_to hcr74_1 (show u_35.toInt = gI B 2 from by omega)) (updR eG_44 (by omega) (by omega)) (by omega) (by omega) (by omega))⟩, (wkb (eqb hk_45) rfl rfl), hH⟩)
        · skip
          have r_40 : 0 ≤ u_35.toInt ∧ u_35.toInt ≤ 3 := by have h9_ := hu_35; omega
          have r_41 : 1 ≤ z_38.toInt ∧ z_38.toInt ≤ 4 := by have h9_ := hz_38; omega
          refine lv_aload_n F.1 F.2.1 dX7_readsAge_84 rfl (lv_at hl 0 rfl) ?_
          refine tGetR (j := 36) F hK hH (tyb ha0 (all1 rfl)) rfl (all1 rfl) clX7 (by decide) wd_7_5 dX7_readsAge_85 (fun q_46 hq_46 _ => ?_)
          refine lv_sipush (v := 260) F.1 F.2.1 dX7_readsAge_88 (by decide) ?_
          refine topK (a := 260) (by decide) (fun k_47 hk_47 => ?_)
          refine lv_bipush (v := 7) F.1 F.2.1 dX7_readsAge_91 (by decide) ?_
          refine topK (a := 7) (by decide) (fun k_48 hk_48 => ?_)
          refine lv_iload_n F.1 F.2.1 dX7_readsAge_93 rfl (lv_at hl 2 rfl) ?_
          refine tMul (lo := 0) (hi := 21) F dX7_readsAge_94 (eqb hk_48) r_40 rfl (fun z_49 hz_49 => ?_)
          have mz_49 : z_49.toInt = 7 * u_35.toInt := by rw [hz_49.1, hk_48]
          refine tAdd (lo := 260) (hi := 281) F dX7_readsAge_95 (eqb hk_47) hz_49.2 rfl (fun z_50 hz_50 => ?_)
          refine lv_iconst (v := 3) F.1 F.2.1 dX7_readsAge_96 (by decide) ?_
          refine topK (a := 3) (by decide) (fun k_51 hk_51 => ?_)
          refine tAdd (lo := 263) (hi := 284) F dX7_readsAge_97 hz_50.2 (eqb hk_51) rfl (fun z_52 hz_52 => ?_)
          refine tIaldX F hK hH (tyb hq_46 (all1 rfl)) (ixb (n := 660) hz_52.2 rfl rfl) dX7_readsAge_98 (fun z_53 ez_53 => ?_)
          refine lv_aload_n F.1 F.2.1 dX7_readsAge_99 rfl (lv_at hl 0 rfl) ?_
          refine tGetI (j := 33) F hK hH (tyb ha0 (all1 rfl)) rfl clX7 (by decide) wd_17_18 dX7_readsAge_100 (fun z_54 hz_54 => ?_)
          have ez_54 : (-2147483648) ≤ z_54.toInt ∧ z_54.toInt ≤ 2147483647 := by omega
          refine b_ne (tgt := 116) F dX7_readsAge_103 (by decide) (fun c_55 => ?_) (fun c_55 => ?_)
          · skip
            obtain ⟨x_56, ex_56, hx_56⟩ := iincB (c := 1) (lo := 1) (hi := 4) r_40 rfl
            refine lv_iinc (v := x_56) (lv' := [(2, .int x_56), (0, .ref a0), (1, .int a1)]) F.1 F.2.1 dX7_readsAge_116 hl (k := 2) rfl ex_56 (by decide) rfl (fun ls hl => ?_)
            refine lv_goto (tgt := 74) F.1 F.2.1 dX7_readsAge_119 (by decide) ?_
            exact ih_74 (x_56) _ _ _ ⟨(show (4 - x_56.toInt + 1).toNat < n_74 from by omega), (wkb hx_56.2 rfl rfl), (show rhas (fun t_ => B (78 + 13 * t_ + 4)) g_15 (gI B 1).toNat = false from hcr74_0), (show rhas (fun t_ => B (260 + 7 * t_ + 3)) g_15 (x_56.toInt).toNat = false from (hasX_step (o := 260) (s := 7) (c := 3) hcr74_1 ez_53 (by omega) (by omega) (by omega) (by omega))), (show x_56.toInt ≤ gI B 2 from by omega), hH, hS, lv_sub hl [1, 2, 0] rfl⟩
          · skip
            refine lv_aload_n F.1 F.2.1 dX7_readsAge_106 rfl (lv_at hl 0 rfl) ?_
            refine lv_iconst (v := 2) F.1 F.2.1 dX7_readsAge_107 (by decide) ?_
            refine topK (a := 2) (by decide) (fun k_57 hk_57 => ?_)
            refine lv_aload_n F.1 F.2.1 dX7_readsAge_108 rfl (lv_at hl 0 rfl) ?_
            refine tGetI (j := 34) F hK hH (tyb ha0 (all1 rfl)) rfl clX7 (by decide) wd_18_1 dX7_readsAge_109 (fun z_58 hz_58 => ?_)
            have ez_58 : (-2147483648) ≤ z_58.toInt ∧ z_58.toInt ≤ 2147483647 := by omega
            refine tVi (b := a0) (As := [.int k_57, .int z_58]) (rest := []) F hK hN hO (c_X7_fails E nw ws kp as (xD 660 B) sc ik un tk xt t g_14 g_16 g_15 g_17 iw T a0 k_57 z_58 ha0 (wkb (eqb hk_57) rfl rfl) (by omega) (by omega) (by omega) (by omega) (by omega) (by omega) (by omega) hT (by omega)) mv_X7_fails wd_17_2 ⟨Nat.le_of_ble_eq_true rfl, Nat.le_of_ble_eq_true rfl⟩ ⟨Nat.le_of_ble_eq_true rfl, Nat.le_of_ble_eq_true rfl⟩ hH hS (tRecv hK hH (tyb ha0 (all1 rfl)) clX7) rfl hl.1 (Nat.le_of_ble_eq_true rfl) dX7_readsAge_112 (fun z_59 H locs hq hS => ?_)
            obtain ⟨g_60, hg_60, f_61, f_62, hH⟩ := hq
            have hH : TH E (tbM (mD (.inl (t, t)) (.inl (g_14, g_14)) (.inl (g_15, g_15)) (.inl un) (.inl tk) (.inl xt) (.inl (g_60, g_60)) (.inl (g_17, g_17)) (.inl (iw, iw))) nw ws kp as (xD 660 B) sc (xB 400 T) ik) H := hH
            exact txI F hS dX7_readsAge_115 (nar01 (wkb f_61 rfl rfl)) (⟨g_14, ⟨by omega, by omega, by omega, by omega⟩, g_15, (by omega), g_60, (by omega), g_17, (by omega), B, ⟨hB, by omega, by omega, by omega, by omega, by omega, (mage_3 f_5 hg_2.2.2.2.2 f_19 (nu := g_15) (na := g_17) (by omega) (by omega) (Or.inr (hasX_at (o := 260) (s := 7) (c := 3) (i := u_35.toInt) ez_53 (by omega) (show u_35.toInt < gI B 2 from by omega) (by omega) (by omega))) (by omega) (by omega) (by omega) (by omega))⟩, (wkb f_61 rfl rfl), hH⟩)
      · skip
        have r_32 : 0 ≤ u_27.toInt ∧ u_27.toInt ≤ 13 := by have h9_ := hu_27; omega
        have r_33 : 1 ≤ z_30.toInt ∧ z_30.toInt ≤ 14 := by have h9_ := hz_30; omega
        refine lv_aload_n F.1 F.2.1 dX7_readsAge_35 rfl (lv_at hl 0 rfl) ?_
        refine tGetR (j := 36) F hK hH (tyb ha0 (all1 rfl)) rfl (all1 rfl) clX7 (by decide) wd_7_5 dX7_readsAge_36 (fun q_63 hq_63 _ => ?_)
        refine lv_bipush (v := 78) F.1 F.2.1 dX7_readsAge_39 (by decide) ?_
        refine topK (a := 78) (by decide) (fun k_64 hk_64 => ?_)
        refine lv_bipush (v := 13) F.1 F.2.1 dX7_readsAge_41 (by decide) ?_
        refine topK (a := 13) (by decide) (fun k_65 hk_65 => ?_)
        refine lv_iload_n F.1 F.2.1 dX7_readsAge_43 rfl (lv_at hl 2 rfl) ?_
        refine tMul (lo := 0) (hi := 169) F dX7_readsAge_44 (eqb hk_65) r_32 rfl (fun z_66 hz_66 => ?_)
        have mz_66 : z_66.toInt = 13 * u_27.toInt := by rw [hz_66.1, hk_65]
        refine tAdd (lo := 78) (hi := 247) F dX7_readsAge_45 (eqb hk_64) hz_66.2 rfl (fun z_67 hz_67 => ?_)
        refine lv_iconst (v := 4) F.1 F.2.1 dX7_readsAge_46 (by decide) ?_
        refine topK (a := 4) (by decide) (fun k_68 hk_68 => ?_)
        refine tAdd (lo := 82) (hi := 251) F dX7_readsAge_47 hz_67.2 (eqb hk_68) rfl (fun z_69 hz_69 => ?_)
        refine tIaldX F hK hH (tyb hq_63 (all1 rfl)) (ixb (n := 660) hz_69.2 rfl rfl) dX7_readsAge_48 (fun z_70 ez_70 => ?_)
        refine lv_aload_n F.1 F.2.1 dX7_readsAge_49 rfl (lv_at hl 0 rfl) ?_
        refine tGetI (j := 33) F hK hH (tyb ha0 (all1 rfl)) rfl clX7 (by decide) wd_17_18 dX7_readsAge_50 (fun z_71 hz_71 => ?_)
        have ez_71 : (-2147483648) ≤ z_71.toInt ∧ z_71.toInt ≤ 2147483647 := by omega
        refine b_ne (tgt := 66) F dX7_readsAge_53 (by decide) (fun c_72 => ?_) (fun c_72 => ?_)
        · skip
          obtain ⟨x_73, ex_73, hx_73⟩ := iincB (c := 1) (lo := 1) (hi := 14) r_32 rfl
          refine lv_iinc (v := x_73) (lv' := [(2, .int x_73), (0, .ref a0), (1, .int a1)]) F.1 F.2.1 dX7_readsAge_66 hl (k := 2) rfl ex_73 (by decide) rfl (fun ls hl => ?_)
          refine lv_goto (tgt := 25) F.1 F.2.1 dX7_readsAge_69 (by decide) ?_
          exact ih_25 (x_73) _ _ _ ⟨(show (14 - x_73.toInt + 1).toNat < n_25 from by omega), (wkb hx_73.2 rfl rfl), (show rhas (fun t_ => B (78 + 13 * t_ + 4)) g_15 (x_73.toInt).toNat = false from (hasX_step (o := 78) (s := 13) (c := 4) hcr25_0 ez_70 (by omega) (by omega) (by omega) (by omega))), (show x_73.toInt ≤ gI B 1 from by omega), hH, hS, lv_sub hl [1, 2, 0] rfl⟩
        · skip
          refine lv_aload_n F.1 F.2.1 dX7_readsAge_56 rfl (lv_at hl 0 rfl) ?_
          refine lv_iconst (v := 2) F.1 F.2.1 dX7_readsAge_57 (by decide) ?_
          refine topK (a := 2) (by decide) (fun k_74 hk_74 => ?_)
          refine lv_aload_n F.1 F.2.1 dX7_readsAge_58 rfl (lv_at hl 0 rfl) ?_
          refine tGetI (j := 34) F hK hH (tyb ha0 (all1 rfl)) rfl clX7 (by decide) wd_18_1 dX7_readsAge_59 (fun z_75 hz_75 => ?_)
          have ez_75 : (-2147483648) ≤ z_75.toInt ∧ z_75.toInt ≤ 2147483647 := by omega
          refine tVi (b := a0) (As := [.int k_74, .int z_75]) (rest := []) F hK hN hO (c_X7_fails E nw ws kp as (xD 660 B) sc ik un tk xt t g_14 g_16 g_15 g_17 iw T a0 k_74 z_75 ha0 (wkb (eqb hk_74) rfl rfl) (by omega) (by omega) (by omega) (by omega) (by omega) (by omega) (by omega) hT (by omega)) mv_X7_fails wd_17_2 ⟨Nat.le_of_ble_eq_true rfl, Nat.le_of_ble_eq_true rfl⟩ ⟨Nat.le_of_ble_eq_true rfl, Nat.le_of_ble_eq_true rfl⟩ hH hS (tRecv hK hH (tyb ha0 (all1 rfl)) clX7) rfl hl.1 (Nat.le_of_ble_eq_true rfl) dX7_readsAge_62 (fun z_76 H locs hq hS => ?_)
          obtain ⟨g_77, hg_77, f_78, f_79, hH⟩ := hq
          have hH : TH E (tbM (mD (.inl (t, t)) (.inl (g_14, g_14)) (.inl (g_15, g_15)) (.inl un) (.inl tk) (.inl xt) (.inl (g_77, g_77)) (.inl (g_17, g_17)) (.inl (iw, iw))) nw ws kp as (xD 660 B) sc (xB 400 T) ik) H := hH
          exact txI F hS dX7_readsAge_65 (nar01 (wkb f_78 rfl rfl)) (⟨g_14, ⟨by omega, by omega, by omega, by omega⟩, g_15, (by omega), g_77, (by omega), g_17, (by omega), B, ⟨hB, by omega, by omega, by omega, by omega, by omega, (mage_3 f_5 hg_2.2.2.2.2 f_19 (nu := g_15) (na := g_17) (by omega) (by omega) (Or.inl (hasX_at (o := 78) (s := 13) (c := 4) (i := u_27.toInt) ez_70 (by omega) (show u_27.toInt < gI B 1 from by omega) (by omega) (by omega))) (by omega) (by omega) (by omega) (by omega))⟩, (wkb f_78 rfl rfl), hH⟩)
    · skip
      have r_25 : 0 ≤ z_13.toInt ∧ z_13.toInt ≤ 0 := by have h9_ := f_18; omega
      refine lv_iconst (v := 0) F.1 F.2.1 dX7_readsAge_21 (by decide) ?_
      refine topK (a := 0) (by decide) (fun k_80 hk_80 => ?_)
      exact txI F hS dX7_readsAge_22 (nar01 (wkb (eqb hk_80) rfl rfl)) (⟨g_14, ⟨by omega, by omega, by omega, by omega⟩, g_15, (by omega), g_16, (by omega), g_17, (by omega), B, ⟨hB, by omega, by omega, by omega, by omega, by omega, (mage_2 f_5 hg_2.2.2.2.2 f_19 (by omega) (by omega) (by omega) (by omega))⟩, (wkb (eqb hk_80) rfl rfl), hH⟩)
set_option maxHeartbeats 4000000 in
set_option maxRecDepth 100000 in
theorem c_X7_readsBack (E : Ev) (nw : TD) (ws : TD) (kp : TD) (as : TD) (sc : TD) (ik : TD) (un : Int × Int) (tk : Int × Int) (xt : Int × Int) (t : Int) (p : Int) (wr : Int) (nu : Int) (na : Int) (iw : Int) (B : Nat → Int32) (T : Nat → Int32) (rq : Int) (a0 : Nat) (a1 : Int32) (ha0 : eT E a0 ∈ [24]) (ha1 : 78 ≤ a1.toInt ∧ a1.toInt ≤ 247) (ht : 0 ≤ t ∧ t ≤ 400) (hp : 0 ≤ p ∧ p ≤ 400) (hwr : 0 ≤ wr ∧ wr ≤ 4000) (hnu : (-2147483648) ≤ nu ∧ nu ≤ 2147483647) (hna : (-2147483648) ≤ na ∧ na ≤ 2147483647) (hiw : 0 ≤ iw ∧ iw ≤ 1) (hB : okR B) (hT : ivP 400 (-128) 127 T) (hpt : p ≤ t) (hat : (a1.toInt - 78) % 13 = 0) (hrq : a1.toInt = rq) : TcI E yX7_readsBack cX7_readsBack 2 .boolean ({ frames := 7, cells := 0, slots := 0, locals := 226 }) [.ref a0, .int a1] (fun H => TH E (tbM (mD (.inl (t, t)) (.inl (p, p)) (.inl (nu, nu)) (.inl un) (.inl tk) (.inl xt) (.inl (wr, wr)) (.inl (na, na)) (.inl (iw, iw))) nw ws kp as (xD 660 B) sc (xB 400 T) ik) H) (fun v H => ∃ p2 : Int, (0 ≤ p2 ∧ p2 ≤ 400 ∧ p ≤ p2 ∧ p2 ≤ t) ∧ ∃ nu2 : Int, ((-2147483648) ≤ nu2 ∧ nu2 ≤ 2147483647) ∧ ∃ wr2 : Int, (0 ≤ wr2 ∧ wr2 ≤ 4000) ∧ ∃ na2 : Int, ((-2147483648) ≤ na2 ∧ na2 ≤ 2147483647) ∧ ∃ B2 : Nat → Int32, (okR B2 ∧ gI B2 0 = gI B 0 ∧ gI B2 1 = gI B 1 ∧ gI B2 2 = gI B 2 ∧ gI B2 6 = gI B 6 ∧ gI B2 3 = gI B 3 ∧ mRes v.toInt wr2 (p2, iw, B2) (mBack T t rq (p, iw, B))) ∧ (0 ≤ v.toInt ∧ v.toInt ≤ 1) ∧ TH E (tbM (mD (.inl (t, t)) (.inl (p2, p2)) (.inl (nu2, nu2)) (.inl un) (.inl tk) (.inl xt) (.inl (wr2, wr2)) (.inl (na2, na2)) (.inl (iw, iw))) nw ws kp as (xD 660 B2) sc (xB 400 T) ik) H) := by
  refine teI (by decide) (Nat.le_of_ble_eq_true rfl) ?_
  intro p_ ev_ s mi_ below_ meth cd_ ls F hK hN hO hH hS hl
  have hH : TH E (tbM (mD (.inl (t, t)) (.inl (p, p)) (.inl (nu, nu)) (.inl un) (.inl tk) (.inl xt) (.inl (wr, wr)) (.inl (na, na)) (.inl (iw, iw))) nw ws kp as (xD 660 B) sc (xB 400 T) ik) s.heap := hH
  have hl : lv_has ls 2 [(0, .ref a0), (1, .int a1)] := hl
  have hBB := (okB hB.1).1
  refine lv_aload_n F.1 F.2.1 dX7_readsBack_0 rfl (lv_at hl 0 rfl) ?_
  refine tGetR (j := 36) F hK hH (tyb ha0 (all1 rfl)) rfl (all1 rfl) clX7 (by decide) wd_7_5 dX7_readsBack_1 (fun q_1 hq_1 _ => ?_)
  refine lv_iload_n F.1 F.2.1 dX7_readsBack_4 rfl (lv_at hl 1 rfl) ?_
  refine lv_bipush (v := 7) F.1 F.2.1 dX7_readsBack_5 (by decide) ?_
  refine topK (a := 7) (by decide) (fun k_2 hk_2 => ?_)
  refine tAdd (lo := 85) (hi := 254) F dX7_readsBack_7 ha1 (eqb hk_2) rfl (fun z_3 hz_3 => ?_)
  refine lv_bipush (v := (-2)) F.1 F.2.1 dX7_readsBack_8 (by decide) ?_
  refine topK (a := (-2)) (by decide) (fun k_4 hk_4 => ?_)
  refine tIastX (t := 29) F hK hH hS (List.mem_singleton.mp hq_1) (by decide) rfl (ixb (n := 660) hz_3.2 rfl rfl) dX7_readsBack_10 (fun G_5 eG_5 H locs hH hS => ?_)
  have hH : TH E (tbM (mD (.inl (t, t)) (.inl (p, p)) (.inl (nu, nu)) (.inl un) (.inl tk) (.inl xt) (.inl (wr, wr)) (.inl (na, na)) (.inl (iw, iw))) nw ws kp as (xD 660 G_5) sc (xB 400 T) ik) H := hH
  have n0G_5 : gI G_5 0 = gI B 0 := gI_ne eG_5 (by omega) (by omega)
  have n1G_5 : gI G_5 1 = gI B 1 := gI_ne eG_5 (by omega) (by omega)
  have n2G_5 : gI G_5 2 = gI B 2 := gI_ne eG_5 (by omega) (by omega)
  have n6G_5 : gI G_5 6 = gI B 6 := gI_ne eG_5 (by omega) (by omega)
  have n3G_5 : gI G_5 3 = gI B 3 := gI_ne eG_5 (by omega) (by omega)
  have hG_5 : okR G_5 := (okR.stM hB eG_5 (by omega) (by omega) (by omega) (phiI (by omega) (by omega) (by omega) (by omega) (by omega) (by omega) (by omega) (by omega) (by omega) (by omega) (by omega) (by omega) (by omega) (by omega) (by omega) (by omega) (by omega) (by omega)) (by omega))
  have hBG_5 := (okB hG_5.1).1
  refine lv_aload_n F.1 F.2.1 dX7_readsBack_11 rfl (lv_at hl 0 rfl) ?_
  refine ldcwS F.1 F.2.1 F.2.2.2.2.1 (hO.1 24 _ rfl).1 dX7_readsBack_12 ?_
  refine tVi (b := a0) (As := [.ref (eX E 24)]) (rest := []) F hK hN hO (c_X7_takesWord E nw ws kp as (xD 660 G_5) sc ik un tk xt t p wr nu na iw T a0 24 4 ha0 (strAt 24 rfl) (by omega) (by omega) (by omega) (by omega) (by omega) (by omega) hT (by omega)) mv_X7_takesWord wd_17_6 ⟨Nat.le_of_ble_eq_true rfl, Nat.le_of_ble_eq_true rfl⟩ ⟨Nat.le_of_ble_eq_true rfl, Nat.le_of_ble_eq_true rfl⟩ hH hS (tRecv hK hH (tyb ha0 (all1 rfl)) clX7) rfl hl.1 (Nat.le_of_ble_eq_true rfl) dX7_readsBack_15 (fun z_6 H locs hq hS => ?_)
  obtain ⟨g_7, hg_7, f_8, f_9, hH⟩ := hq
  have hH : TH E (tbM (mD (.inl (t, t)) (.inl (g_7, g_7)) (.inl (nu, nu)) (.inl un) (.inl tk) (.inl xt) (.inl (wr, wr)) (.inl (na, na)) (.inl (iw, iw))) nw ws kp as (xD 660 G_5) sc (xB 400 T) ik) H := hH
  refine z_ne (tgt := 23) F dX7_readsBack_18 (by decide) (fun c_10 => ?_) (fun c_10 => ?_)
  · skip
    have r_11 : 1 ≤ z_6.toInt ∧ z_6.toInt ≤ 1 := by have h9_ := f_8; omega
    refine lv_aload_n F.1 F.2.1 dX7_readsBack_23 rfl (lv_at hl 0 rfl) ?_
    refine lv_iload_n F.1 F.2.1 dX7_readsBack_24 rfl (lv_at hl 1 rfl) ?_
    refine lv_bipush (v := 7) F.1 F.2.1 dX7_readsBack_25 (by decide) ?_
    refine topK (a := 7) (by decide) (fun k_13 hk_13 => ?_)
    refine tAdd (lo := 85) (hi := 254) F dX7_readsBack_27 ha1 (eqb hk_13) rfl (fun z_14 hz_14 => ?_)
    refine tVi (b := a0) (As := [.int z_14]) (rest := []) F hK hN hO (c_X7_readsReachOf E nw ws kp as sc ik un tk xt t g_7 wr nu na iw G_5 T (rq + 7) (gI B 0) a0 z_14 ha0 (by omega) (by omega) (by omega) (by omega) (by omega) (by omega) hG_5 hT (by omega) (by omega) (by intro y_ h1_ h2_; exact (phiI (by omega) (by omega) (by omega) (by omega) (by omega) (by omega) (by omega) (by omega) (by omega) (by omega) (by omega) (by omega) (by omega) (by omega) (by omega) (by omega) (by omega) (by omega))) (by omega) (by omega) (by omega)) mv_X7_readsReachOf wd_17_10 ⟨Nat.le_of_ble_eq_true rfl, Nat.le_of_ble_eq_true rfl⟩ ⟨Nat.le_of_ble_eq_true rfl, Nat.le_of_ble_eq_true rfl⟩ hH hS (tRecv hK hH (tyb ha0 (all1 rfl)) clX7) rfl hl.1 (Nat.le_of_ble_eq_true rfl) dX7_readsBack_28 (fun z_15 H locs hq hS => ?_)
    obtain ⟨g_16, hg_16, g_17, hg_17, g_18, hg_18, g_19, hg_19, g_20, hg_20, f_21, f_22, hH⟩ := hq
    have hH : TH E (tbM (mD (.inl (t, t)) (.inl (g_16, g_16)) (.inl (g_17, g_17)) (.inl un) (.inl tk) (.inl xt) (.inl (g_18, g_18)) (.inl (g_19, g_19)) (.inl (iw, iw))) nw ws kp as (xD 660 g_20) sc (xB 400 T) ik) H := hH
    have hBg_20 := (okB hg_20.1.1).1
    refine z_eq (tgt := 66) F dX7_readsBack_31 (by decide) (fun c_23 => ?_) (fun c_23 => ?_)
    · skip
      have r_24 : 0 ≤ z_15.toInt ∧ z_15.toInt ≤ 0 := by have h9_ := f_21; omega
      refine lv_iconst (v := 0) F.1 F.2.1 dX7_readsBack_66 (by decide) ?_
      refine topK (a := 0) (by decide) (fun k_26 hk_26 => ?_)
      exact txI F hS dX7_readsBack_67 (nar01 (wkb (eqb hk_26) rfl rfl)) (⟨g_16, ⟨by omega, by omega, by omega, by omega⟩, g_17, (by omega), g_18, (by omega), g_19, (by omega), g_20, ⟨hg_20.1, by omega, by omega, by omega, by omega, by omega, (back_y (updR eG_5 (by omega) (by omega)) f_9 hg_7.2.2.2.2 (a := gI B 0) rfl (res_fail (v' := k_26.toInt) (x' := (g_16, iw, g_20)) (res_fail (v' := k_26.toInt) (x' := (g_16, iw, g_20)) hg_20.2.2.2.2.2.2 (by omega) (by omega)) (by omega) (by omega)) (by omega))⟩, (wkb (eqb hk_26) rfl rfl), hH⟩)
    · skip
      have r_25 : 1 ≤ z_15.toInt ∧ z_15.toInt ≤ 1 := by have h9_ := f_21; omega
      refine lv_aload_n F.1 F.2.1 dX7_readsBack_34 rfl (lv_at hl 0 rfl) ?_
      refine lv_iload_n F.1 F.2.1 dX7_readsBack_35 rfl (lv_at hl 1 rfl) ?_
      refine lv_bipush (v := 8) F.1 F.2.1 dX7_readsBack_36 (by decide) ?_
      refine topK (a := 8) (by decide) (fun k_27 hk_27 => ?_)
      refine tAdd (lo := 86) (hi := 255) F dX7_readsBack_38 ha1 (eqb hk_27) rfl (fun z_28 hz_28 => ?_)
      refine lv_iconst (v := 0) F.1 F.2.1 dX7_readsBack_39 (by decide) ?_
      refine topK (a := 0) (by decide) (fun k_29 hk_29 => ?_)
      refine lv_bipush (v := 100) F.1 F.2.1 dX7_readsBack_40 (by decide) ?_
      refine topK (a := 100) (by decide) (fun k_30 hk_30 => ?_)
      refine tVi (b := a0) (As := [.int z_28, .int k_29, .int k_30]) (rest := []) F hK hN hO (c_X7_readsTo E nw ws kp as sc ik un tk xt t g_16 g_18 g_17 g_19 iw g_20 T (rq + 8) 0 100 a0 z_28 k_29 k_30 ha0 (by omega) (by omega) (by omega) (by omega) (by omega) (by omega) hg_20.1 hT (by omega) (by omega) (by intro y_ h1_ h2_; exact (phiI (by omega) (by omega) (by omega) (by omega) (by omega) (by omega) (by omega) (by omega) (by omega) (by omega) (by omega) (by omega) (by omega) (by omega) (by omega) (by omega) (by omega) (by omega))) (by omega) (by omega) (by omega) (by omega)) mv_X7_readsTo wd_17_14 ⟨Nat.le_of_ble_eq_true rfl, Nat.le_of_ble_eq_true rfl⟩ ⟨Nat.le_of_ble_eq_true rfl, Nat.le_of_ble_eq_true rfl⟩ hH hS (tRecv hK hH (tyb ha0 (all1 rfl)) clX7) rfl hl.1 (Nat.le_of_ble_eq_true rfl) dX7_readsBack_42 (fun z_31 H locs hq hS => ?_)
      obtain ⟨g_32, hg_32, g_33, hg_33, g_34, hg_34, g_35, hg_35, g_36, hg_36, f_37, f_38, hH⟩ := hq
      have hH : TH E (tbM (mD (.inl (t, t)) (.inl (g_32, g_32)) (.inl (g_33, g_33)) (.inl un) (.inl tk) (.inl xt) (.inl (g_34, g_34)) (.inl (g_35, g_35)) (.inl (iw, iw))) nw ws kp as (xD 660 g_36) sc (xB 400 T) ik) H := hH
      have hBg_36 := (okB hg_36.1.1).1
      refine z_eq (tgt := 66) F dX7_readsBack_45 (by decide) (fun c_39 => ?_) (fun c_39 => ?_)
      · skip
        have r_40 : 0 ≤ z_31.toInt ∧ z_31.toInt ≤ 0 := by have h9_ := f_37; omega
        refine lv_iconst (v := 0) F.1 F.2.1 dX7_readsBack_66 (by decide) ?_
        refine topK (a := 0) (by decide) (fun k_42 hk_42 => ?_)
        exact txI F hS dX7_readsBack_67 (nar01 (wkb (eqb hk_42) rfl rfl)) (⟨g_32, ⟨by omega, by omega, by omega, by omega⟩, g_33, (by omega), g_34, (by omega), g_35, (by omega), g_36, ⟨hg_36.1, by omega, by omega, by omega, by omega, by omega, (back_y (updR eG_5 (by omega) (by omega)) f_9 hg_7.2.2.2.2 (a := gI B 0) rfl (res_fail (v' := k_42.toInt) (x' := (g_32, iw, g_36)) (res_bind hg_20.2.2.2.2.2.2 (by omega) hg_36.2.2.2.2.2.2) (by omega) (by omega)) (by omega))⟩, (wkb (eqb hk_42) rfl rfl), hH⟩)
      · skip
        have r_41 : 1 ≤ z_31.toInt ∧ z_31.toInt ≤ 1 := by have h9_ := f_37; omega
        refine lv_aload_n F.1 F.2.1 dX7_readsBack_48 rfl (lv_at hl 0 rfl) ?_
        refine lv_iload_n F.1 F.2.1 dX7_readsBack_49 rfl (lv_at hl 1 rfl) ?_
        refine lv_bipush (v := 9) F.1 F.2.1 dX7_readsBack_50 (by decide) ?_
        refine topK (a := 9) (by decide) (fun k_43 hk_43 => ?_)
        refine tAdd (lo := 87) (hi := 256) F dX7_readsBack_52 ha1 (eqb hk_43) rfl (fun z_44 hz_44 => ?_)
        refine lv_iconst (v := 1) F.1 F.2.1 dX7_readsBack_53 (by decide) ?_
        refine topK (a := 1) (by decide) (fun k_45 hk_45 => ?_)
        refine lv_bipush (v := 30) F.1 F.2.1 dX7_readsBack_54 (by decide) ?_
        refine topK (a := 30) (by decide) (fun k_46 hk_46 => ?_)
        refine tVi (b := a0) (As := [.int z_44, .int k_45, .int k_46]) (rest := []) F hK hN hO (c_X7_readsTo E nw ws kp as sc ik un tk xt t g_32 g_34 g_33 g_35 iw g_36 T (rq + 9) 1 30 a0 z_44 k_45 k_46 ha0 (by omega) (by omega) (by omega) (by omega) (by omega) (by omega) hg_36.1 hT (by omega) (by omega) (by intro y_ h1_ h2_; exact (phiI (by omega) (by omega) (by omega) (by omega) (by omega) (by omega) (by omega) (by omega) (by omega) (by omega) (by omega) (by omega) (by omega) (by omega) (by omega) (by omega) (by omega) (by omega))) (by omega) (by omega) (by omega) (by omega)) mv_X7_readsTo wd_17_14 ⟨Nat.le_of_ble_eq_true rfl, Nat.le_of_ble_eq_true rfl⟩ ⟨Nat.le_of_ble_eq_true rfl, Nat.le_of_ble_eq_true rfl⟩ hH hS (tRecv hK hH (tyb ha0 (all1 rfl)) clX7) rfl hl.1 (Nat.le_of_ble_eq_true rfl) dX7_readsBack_56 (fun z_47 H locs hq hS => ?_)
        obtain ⟨g_48, hg_48, g_49, hg_49, g_50, hg_50, g_51, hg_51, g_52, hg_52, f_53, f_54, hH⟩ := hq
        have hH : TH E (tbM (mD (.inl (t, t)) (.inl (g_48, g_48)) (.inl (g_49, g_49)) (.inl un) (.inl tk) (.inl xt) (.inl (g_50, g_50)) (.inl (g_51, g_51)) (.inl (iw, iw))) nw ws kp as (xD 660 g_52) sc (xB 400 T) ik) H := hH
        have hBg_52 := (okB hg_52.1.1).1
        refine z_eq (tgt := 66) F dX7_readsBack_59 (by decide) (fun c_55 => ?_) (fun c_55 => ?_)
        · skip
          have r_56 : 0 ≤ z_47.toInt ∧ z_47.toInt ≤ 0 := by have h9_ := f_53; omega
          refine lv_iconst (v := 0) F.1 F.2.1 dX7_readsBack_66 (by decide) ?_
          refine topK (a := 0) (by decide) (fun k_58 hk_58 => ?_)
          exact txI F hS dX7_readsBack_67 (nar01 (wkb (eqb hk_58) rfl rfl)) (⟨g_48, ⟨by omega, by omega, by omega, by omega⟩, g_49, (by omega), g_50, (by omega), g_51, (by omega), g_52, ⟨hg_52.1, by omega, by omega, by omega, by omega, by omega, (back_y (updR eG_5 (by omega) (by omega)) f_9 hg_7.2.2.2.2 (a := gI B 0) rfl (by have h9_ := (res_bind (res_bind hg_20.2.2.2.2.2.2 (by omega) hg_36.2.2.2.2.2.2) (by omega) hg_52.2.2.2.2.2.2); rw [show z_47.toInt = k_58.toInt from by omega] at h9_; exact h9_) (by omega))⟩, (wkb (eqb hk_58) rfl rfl), hH⟩)
        · skip
          have r_57 : 1 ≤ z_47.toInt ∧ z_47.toInt ≤ 1 := by have h9_ := f_53; omega
          refine lv_iconst (v := 1) F.1 F.2.1 dX7_readsBack_62 (by decide) ?_
          refine topK (a := 1) (by decide) (fun k_59 hk_59 => ?_)
          refine lv_goto (tgt := 67) F.1 F.2.1 dX7_readsBack_63 (by decide) ?_
          exact txI F hS dX7_readsBack_67 (nar01 (wkb (eqb hk_59) rfl rfl)) (⟨g_48, ⟨by omega, by omega, by omega, by omega⟩, g_49, (by omega), g_50, (by omega), g_51, (by omega), g_52, ⟨hg_52.1, by omega, by omega, by omega, by omega, by omega, (back_y (updR eG_5 (by omega) (by omega)) f_9 hg_7.2.2.2.2 (a := gI B 0) rfl (by have h9_ := (res_bind (res_bind hg_20.2.2.2.2.2.2 (by omega) hg_36.2.2.2.2.2.2) (by omega) hg_52.2.2.2.2.2.2); rw [show z_47.toInt = k_59.toInt from by omega] at h9_; exact h9_) (by omega))⟩, (wkb (eqb hk_59) rfl rfl), hH⟩)
  · skip
    have r_12 : 0 ≤ z_6.toInt ∧ z_6.toInt ≤ 0 := by have h9_ := f_8; omega
    refine lv_iconst (v := 1) F.1 F.2.1 dX7_readsBack_21 (by decide) ?_
    refine topK (a := 1) (by decide) (fun k_60 hk_60 => ?_)
    exact txI F hS dX7_readsBack_22 (nar01 (wkb (eqb hk_60) rfl rfl)) (⟨g_7, ⟨by omega, by omega, by omega, by omega⟩, nu, (by omega), wr, (by omega), na, (by omega), G_5, ⟨hG_5, by omega, by omega, by omega, by omega, by omega, (back_n (updR eG_5 (by omega) (by omega)) f_9 hg_7.2.2.2.2 (by omega) (by omega))⟩, (wkb (eqb hk_60) rfl rfl), hH⟩)
