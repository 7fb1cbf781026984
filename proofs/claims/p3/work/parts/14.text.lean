theorem dX4_put_0 : decode cX4_put 0 = .ok (.aload_n 0, 1) := by decide +kernel
theorem dX4_put_1 : decode cX4_put 1 = .ok (.getfield 23, 3) := by decide +kernel
theorem dX4_put_4 : decode cX4_put 4 = .ok (.aload_n 0, 1) := by decide +kernel
theorem dX4_put_5 : decode cX4_put 5 = .ok (.getfield 19, 3) := by decide +kernel
theorem dX4_put_8 : decode cX4_put 8 = .ok (.if_icmp .ne 8, 3) := by decide +kernel
theorem dX4_put_11 : decode cX4_put 11 = .ok (.aload_n 0, 1) := by decide +kernel
theorem dX4_put_12 : decode cX4_put 12 = .ok (.iload_n 1, 1) := by decide +kernel
theorem dX4_put_13 : decode cX4_put 13 = .ok (.putfield 26, 3) := by decide +kernel
theorem dX4_put_16 : decode cX4_put 16 = .ok (.aload_n 0, 1) := by decide +kernel
theorem dX4_put_17 : decode cX4_put 17 = .ok (.dup, 1) := by decide +kernel
theorem dX4_put_18 : decode cX4_put 18 = .ok (.getfield 23, 3) := by decide +kernel
theorem dX4_put_21 : decode cX4_put 21 = .ok (.iconst 1, 1) := by decide +kernel
theorem dX4_put_22 : decode cX4_put 22 = .ok (.iadd, 1) := by decide +kernel
theorem dX4_put_23 : decode cX4_put 23 = .ok (.putfield 23, 3) := by decide +kernel
theorem dX4_put_26 : decode cX4_put 26 = .ok (.return_, 1) := by decide +kernel
theorem dX4_putWord_0 : decode cX4_putWord 0 = .ok (.iconst 0, 1) := by decide +kernel
theorem dX4_putWord_1 : decode cX4_putWord 1 = .ok (.istore_n 2, 1) := by decide +kernel
theorem dX4_putWord_2 : decode cX4_putWord 2 = .ok (.iload_n 2, 1) := by decide +kernel
theorem dX4_putWord_3 : decode cX4_putWord 3 = .ok (.aload_n 1, 1) := by decide +kernel
theorem dX4_putWord_4 : decode cX4_putWord 4 = .ok (.invokevirtual 136, 3) := by decide +kernel
theorem dX4_putWord_7 : decode cX4_putWord 7 = .ok (.if_icmp .ge 18, 3) := by decide +kernel
theorem dX4_putWord_10 : decode cX4_putWord 10 = .ok (.aload_n 0, 1) := by decide +kernel
theorem dX4_putWord_11 : decode cX4_putWord 11 = .ok (.aload_n 1, 1) := by decide +kernel
theorem dX4_putWord_12 : decode cX4_putWord 12 = .ok (.iload_n 2, 1) := by decide +kernel
theorem dX4_putWord_13 : decode cX4_putWord 13 = .ok (.invokevirtual 142, 3) := by decide +kernel
theorem dX4_putWord_16 : decode cX4_putWord 16 = .ok (.invokevirtual 129, 3) := by decide +kernel
theorem dX4_putWord_19 : decode cX4_putWord 19 = .ok (.iinc 2 1, 3) := by decide +kernel
theorem dX4_putWord_22 : decode cX4_putWord 22 = .ok (.goto (-20), 3) := by decide +kernel
theorem dX4_putWord_25 : decode cX4_putWord 25 = .ok (.return_, 1) := by decide +kernel
theorem dX4_putNextWord_0 : decode cX4_putNextWord 0 = .ok (.aload_n 0, 1) := by decide +kernel
theorem dX4_putNextWord_1 : decode cX4_putNextWord 1 = .ok (.bipush 32, 2) := by decide +kernel
theorem dX4_putNextWord_3 : decode cX4_putNextWord 3 = .ok (.invokevirtual 129, 3) := by decide +kernel
theorem dX4_putNextWord_6 : decode cX4_putNextWord 6 = .ok (.aload_n 0, 1) := by decide +kernel
theorem dX4_putNextWord_7 : decode cX4_putNextWord 7 = .ok (.aload_n 1, 1) := by decide +kernel
theorem dX4_putNextWord_8 : decode cX4_putNextWord 8 = .ok (.invokevirtual 133, 3) := by decide +kernel
theorem dX4_putNextWord_11 : decode cX4_putNextWord 11 = .ok (.return_, 1) := by decide +kernel
theorem dX4_beginPart_0 : decode cX4_beginPart 0 = .ok (.aload_n 0, 1) := by decide +kernel
theorem dX4_beginPart_1 : decode cX4_beginPart 1 = .ok (.getfield 23, 3) := by decide +kernel
theorem dX4_beginPart_4 : decode cX4_beginPart 4 = .ok (.ifCond .le 9, 3) := by decide +kernel
theorem dX4_beginPart_7 : decode cX4_beginPart 7 = .ok (.aload_n 0, 1) := by decide +kernel
theorem dX4_beginPart_8 : decode cX4_beginPart 8 = .ok (.bipush 59, 2) := by decide +kernel
theorem dX4_beginPart_10 : decode cX4_beginPart 10 = .ok (.invokevirtual 129, 3) := by decide +kernel
theorem dX4_beginPart_13 : decode cX4_beginPart 13 = .ok (.aload_n 0, 1) := by decide +kernel
theorem dX4_beginPart_14 : decode cX4_beginPart 14 = .ok (.aload_n 1, 1) := by decide +kernel
theorem dX4_beginPart_15 : decode cX4_beginPart 15 = .ok (.invokevirtual 133, 3) := by decide +kernel
theorem dX4_beginPart_18 : decode cX4_beginPart 18 = .ok (.return_, 1) := by decide +kernel
theorem dX4_putNextNumber_0 : decode cX4_putNextNumber 0 = .ok (.aload_n 0, 1) := by decide +kernel
theorem dX4_putNextNumber_1 : decode cX4_putNextNumber 1 = .ok (.bipush 32, 2) := by decide +kernel
theorem dX4_putNextNumber_3 : decode cX4_putNextNumber 3 = .ok (.invokevirtual 129, 3) := by decide +kernel
theorem dX4_putNextNumber_6 : decode cX4_putNextNumber 6 = .ok (.iconst 0, 1) := by decide +kernel
theorem dX4_putNextNumber_7 : decode cX4_putNextNumber 7 = .ok (.istore_n 2, 1) := by decide +kernel
theorem dX4_putNextNumber_8 : decode cX4_putNextNumber 8 = .ok (.ldc 146, 2) := by decide +kernel
theorem dX4_putNextNumber_10 : decode cX4_putNextNumber 10 = .ok (.istore_n 3, 1) := by decide +kernel
theorem dX4_putNextNumber_11 : decode cX4_putNextNumber 11 = .ok (.iload_n 3, 1) := by decide +kernel
theorem dX4_putNextNumber_12 : decode cX4_putNextNumber 12 = .ok (.ifCond .le 53, 3) := by decide +kernel
theorem dX4_putNextNumber_15 : decode cX4_putNextNumber 15 = .ok (.iload_n 1, 1) := by decide +kernel
theorem dX4_putNextNumber_16 : decode cX4_putNextNumber 16 = .ok (.iload_n 3, 1) := by decide +kernel
theorem dX4_putNextNumber_17 : decode cX4_putNextNumber 17 = .ok (.idiv, 1) := by decide +kernel
theorem dX4_putNextNumber_18 : decode cX4_putNextNumber 18 = .ok (.bipush 10, 2) := by decide +kernel
theorem dX4_putNextNumber_20 : decode cX4_putNextNumber 20 = .ok (.irem, 1) := by decide +kernel
theorem dX4_putNextNumber_21 : decode cX4_putNextNumber 21 = .ok (.istore 4, 2) := by decide +kernel
theorem dX4_putNextNumber_23 : decode cX4_putNextNumber 23 = .ok (.iload_n 2, 1) := by decide +kernel
theorem dX4_putNextNumber_24 : decode cX4_putNextNumber 24 = .ok (.ifCond .ne 13, 3) := by decide +kernel
theorem dX4_putNextNumber_27 : decode cX4_putNextNumber 27 = .ok (.iload 4, 2) := by decide +kernel
theorem dX4_putNextNumber_29 : decode cX4_putNextNumber 29 = .ok (.ifCond .gt 8, 3) := by decide +kernel
theorem dX4_putNextNumber_32 : decode cX4_putNextNumber 32 = .ok (.iload_n 3, 1) := by decide +kernel
theorem dX4_putNextNumber_33 : decode cX4_putNextNumber 33 = .ok (.iconst 1, 1) := by decide +kernel
theorem dX4_putNextNumber_34 : decode cX4_putNextNumber 34 = .ok (.if_icmp .ne 7, 3) := by decide +kernel
theorem dX4_putNextNumber_37 : decode cX4_putNextNumber 37 = .ok (.iconst 1, 1) := by decide +kernel
theorem dX4_putNextNumber_38 : decode cX4_putNextNumber 38 = .ok (.goto 4, 3) := by decide +kernel
theorem dX4_putNextNumber_41 : decode cX4_putNextNumber 41 = .ok (.iconst 0, 1) := by decide +kernel
theorem dX4_putNextNumber_42 : decode cX4_putNextNumber 42 = .ok (.istore_n 2, 1) := by decide +kernel
theorem dX4_putNextNumber_43 : decode cX4_putNextNumber 43 = .ok (.iload_n 2, 1) := by decide +kernel
theorem dX4_putNextNumber_44 : decode cX4_putNextNumber 44 = .ok (.ifCond .eq 13, 3) := by decide +kernel
theorem dX4_putNextNumber_47 : decode cX4_putNextNumber 47 = .ok (.aload_n 0, 1) := by decide +kernel
theorem dX4_putNextNumber_48 : decode cX4_putNextNumber 48 = .ok (.bipush 48, 2) := by decide +kernel
theorem dX4_putNextNumber_50 : decode cX4_putNextNumber 50 = .ok (.iload 4, 2) := by decide +kernel
theorem dX4_putNextNumber_52 : decode cX4_putNextNumber 52 = .ok (.iadd, 1) := by decide +kernel
theorem dX4_putNextNumber_53 : decode cX4_putNextNumber 53 = .ok (.i2c, 1) := by decide +kernel
theorem dX4_putNextNumber_54 : decode cX4_putNextNumber 54 = .ok (.invokevirtual 129, 3) := by decide +kernel
theorem dX4_putNextNumber_57 : decode cX4_putNextNumber 57 = .ok (.iload_n 3, 1) := by decide +kernel
theorem dX4_putNextNumber_58 : decode cX4_putNextNumber 58 = .ok (.bipush 10, 2) := by decide +kernel
theorem dX4_putNextNumber_60 : decode cX4_putNextNumber 60 = .ok (.idiv, 1) := by decide +kernel
theorem dX4_putNextNumber_61 : decode cX4_putNextNumber 61 = .ok (.istore_n 3, 1) := by decide +kernel
theorem dX4_putNextNumber_62 : decode cX4_putNextNumber 62 = .ok (.goto (-51), 3) := by decide +kernel
theorem dX4_putNextNumber_65 : decode cX4_putNextNumber 65 = .ok (.return_, 1) := by decide +kernel
theorem dX4_writeStore_0 : decode cX4_writeStore 0 = .ok (.aload_n 0, 1) := by decide +kernel
theorem dX4_writeStore_1 : decode cX4_writeStore 1 = .ok (.ldc 115, 2) := by decide +kernel
theorem dX4_writeStore_3 : decode cX4_writeStore 3 = .ok (.invokevirtual 56, 3) := by decide +kernel
theorem dX4_writeStore_6 : decode cX4_writeStore 6 = .ok (.aload_n 0, 1) := by decide +kernel
theorem dX4_writeStore_7 : decode cX4_writeStore 7 = .ok (.aload_n 0, 1) := by decide +kernel
theorem dX4_writeStore_8 : decode cX4_writeStore 8 = .ok (.getfield 9, 3) := by decide +kernel
theorem dX4_writeStore_11 : decode cX4_writeStore 11 = .ok (.getfield 117, 3) := by decide +kernel
theorem dX4_writeStore_14 : decode cX4_writeStore 14 = .ok (.iload_n 1, 1) := by decide +kernel
theorem dX4_writeStore_15 : decode cX4_writeStore 15 = .ok (.iaload, 1) := by decide +kernel
theorem dX4_writeStore_16 : decode cX4_writeStore 16 = .ok (.invokevirtual 60, 3) := by decide +kernel
theorem dX4_writeStore_19 : decode cX4_writeStore 19 = .ok (.aload_n 0, 1) := by decide +kernel
theorem dX4_writeStore_20 : decode cX4_writeStore 20 = .ok (.aload_n 0, 1) := by decide +kernel
theorem dX4_writeStore_21 : decode cX4_writeStore 21 = .ok (.getfield 9, 3) := by decide +kernel
theorem dX4_writeStore_24 : decode cX4_writeStore 24 = .ok (.getfield 120, 3) := by decide +kernel
theorem dX4_writeStore_27 : decode cX4_writeStore 27 = .ok (.iload_n 1, 1) := by decide +kernel
theorem dX4_writeStore_28 : decode cX4_writeStore 28 = .ok (.iaload, 1) := by decide +kernel
theorem dX4_writeStore_29 : decode cX4_writeStore 29 = .ok (.invokevirtual 60, 3) := by decide +kernel
theorem dX4_writeStore_32 : decode cX4_writeStore 32 = .ok (.aload_n 0, 1) := by decide +kernel
theorem dX4_writeStore_33 : decode cX4_writeStore 33 = .ok (.aload_n 0, 1) := by decide +kernel
theorem dX4_writeStore_34 : decode cX4_writeStore 34 = .ok (.getfield 9, 3) := by decide +kernel
theorem dX4_writeStore_37 : decode cX4_writeStore 37 = .ok (.getfield 123, 3) := by decide +kernel
theorem dX4_writeStore_40 : decode cX4_writeStore 40 = .ok (.iload_n 1, 1) := by decide +kernel
theorem dX4_writeStore_41 : decode cX4_writeStore 41 = .ok (.iaload, 1) := by decide +kernel
theorem dX4_writeStore_42 : decode cX4_writeStore 42 = .ok (.invokevirtual 60, 3) := by decide +kernel
theorem dX4_writeStore_45 : decode cX4_writeStore 45 = .ok (.aload_n 0, 1) := by decide +kernel
theorem dX4_writeStore_46 : decode cX4_writeStore 46 = .ok (.ldc 95, 2) := by decide +kernel
theorem dX4_writeStore_48 : decode cX4_writeStore 48 = .ok (.invokevirtual 71, 3) := by decide +kernel
theorem dX4_writeStore_51 : decode cX4_writeStore 51 = .ok (.aload_n 0, 1) := by decide +kernel
theorem dX4_writeStore_52 : decode cX4_writeStore 52 = .ok (.aload_n 0, 1) := by decide +kernel
theorem dX4_writeStore_53 : decode cX4_writeStore 53 = .ok (.getfield 9, 3) := by decide +kernel
theorem dX4_writeStore_56 : decode cX4_writeStore 56 = .ok (.getfield 126, 3) := by decide +kernel
theorem dX4_writeStore_59 : decode cX4_writeStore 59 = .ok (.iload_n 1, 1) := by decide +kernel
theorem dX4_writeStore_60 : decode cX4_writeStore 60 = .ok (.iaload, 1) := by decide +kernel
theorem dX4_writeStore_61 : decode cX4_writeStore 61 = .ok (.invokevirtual 60, 3) := by decide +kernel
theorem dX4_writeStore_64 : decode cX4_writeStore 64 = .ok (.return_, 1) := by decide +kernel
theorem dX4_writeRight_0 : decode cX4_writeRight 0 = .ok (.aload_n 0, 1) := by decide +kernel
theorem dX4_writeRight_1 : decode cX4_writeRight 1 = .ok (.ldc 81, 2) := by decide +kernel
theorem dX4_writeRight_3 : decode cX4_writeRight 3 = .ok (.invokevirtual 56, 3) := by decide +kernel
theorem dX4_writeRight_6 : decode cX4_writeRight 6 = .ok (.aload_n 0, 1) := by decide +kernel
theorem dX4_writeRight_7 : decode cX4_writeRight 7 = .ok (.aload_n 0, 1) := by decide +kernel
theorem dX4_writeRight_8 : decode cX4_writeRight 8 = .ok (.getfield 15, 3) := by decide +kernel
theorem dX4_writeRight_11 : decode cX4_writeRight 11 = .ok (.getfield 83, 3) := by decide +kernel
theorem dX4_writeRight_14 : decode cX4_writeRight 14 = .ok (.iload_n 1, 1) := by decide +kernel
theorem dX4_writeRight_15 : decode cX4_writeRight 15 = .ok (.iaload, 1) := by decide +kernel
theorem dX4_writeRight_16 : decode cX4_writeRight 16 = .ok (.invokevirtual 60, 3) := by decide +kernel
theorem dX4_writeRight_19 : decode cX4_writeRight 19 = .ok (.aload_n 0, 1) := by decide +kernel
theorem dX4_writeRight_20 : decode cX4_writeRight 20 = .ok (.aload_n 0, 1) := by decide +kernel
theorem dX4_writeRight_21 : decode cX4_writeRight 21 = .ok (.getfield 9, 3) := by decide +kernel
theorem dX4_writeRight_24 : decode cX4_writeRight 24 = .ok (.getfield 86, 3) := by decide +kernel
theorem dX4_writeRight_27 : decode cX4_writeRight 27 = .ok (.iload_n 1, 1) := by decide +kernel
theorem dX4_writeRight_28 : decode cX4_writeRight 28 = .ok (.iaload, 1) := by decide +kernel
theorem dX4_writeRight_29 : decode cX4_writeRight 29 = .ok (.invokevirtual 60, 3) := by decide +kernel
theorem dX4_writeRight_32 : decode cX4_writeRight 32 = .ok (.aload_n 0, 1) := by decide +kernel
theorem dX4_writeRight_33 : decode cX4_writeRight 33 = .ok (.aload_n 0, 1) := by decide +kernel
theorem dX4_writeRight_34 : decode cX4_writeRight 34 = .ok (.getfield 9, 3) := by decide +kernel
theorem dX4_writeRight_37 : decode cX4_writeRight 37 = .ok (.getfield 89, 3) := by decide +kernel
theorem dX4_writeRight_40 : decode cX4_writeRight 40 = .ok (.iload_n 1, 1) := by decide +kernel
theorem dX4_writeRight_41 : decode cX4_writeRight 41 = .ok (.iaload, 1) := by decide +kernel
theorem dX4_writeRight_42 : decode cX4_writeRight 42 = .ok (.invokevirtual 60, 3) := by decide +kernel
theorem dX4_writeRight_45 : decode cX4_writeRight 45 = .ok (.aload_n 0, 1) := by decide +kernel
theorem dX4_writeRight_46 : decode cX4_writeRight 46 = .ok (.aload_n 0, 1) := by decide +kernel
theorem dX4_writeRight_47 : decode cX4_writeRight 47 = .ok (.getfield 9, 3) := by decide +kernel
theorem dX4_writeRight_50 : decode cX4_writeRight 50 = .ok (.getfield 92, 3) := by decide +kernel
theorem dX4_writeRight_53 : decode cX4_writeRight 53 = .ok (.iload_n 1, 1) := by decide +kernel
theorem dX4_writeRight_54 : decode cX4_writeRight 54 = .ok (.iaload, 1) := by decide +kernel
theorem dX4_writeRight_55 : decode cX4_writeRight 55 = .ok (.invokevirtual 60, 3) := by decide +kernel
theorem dX4_writeRight_58 : decode cX4_writeRight 58 = .ok (.aload_n 0, 1) := by decide +kernel
theorem dX4_writeRight_59 : decode cX4_writeRight 59 = .ok (.ldc 95, 2) := by decide +kernel
theorem dX4_writeRight_61 : decode cX4_writeRight 61 = .ok (.invokevirtual 71, 3) := by decide +kernel
theorem dX4_writeRight_64 : decode cX4_writeRight 64 = .ok (.aload_n 0, 1) := by decide +kernel
theorem dX4_writeRight_65 : decode cX4_writeRight 65 = .ok (.aload_n 0, 1) := by decide +kernel
theorem dX4_writeRight_66 : decode cX4_writeRight 66 = .ok (.getfield 15, 3) := by decide +kernel
theorem dX4_writeRight_69 : decode cX4_writeRight 69 = .ok (.getfield 97, 3) := by decide +kernel
theorem dX4_writeRight_72 : decode cX4_writeRight 72 = .ok (.iload_n 1, 1) := by decide +kernel
theorem dX4_writeRight_73 : decode cX4_writeRight 73 = .ok (.iaload, 1) := by decide +kernel
theorem dX4_writeRight_74 : decode cX4_writeRight 74 = .ok (.invokevirtual 60, 3) := by decide +kernel
theorem dX4_writeRight_77 : decode cX4_writeRight 77 = .ok (.aload_n 0, 1) := by decide +kernel
theorem dX4_writeRight_78 : decode cX4_writeRight 78 = .ok (.getfield 9, 3) := by decide +kernel
theorem dX4_writeRight_81 : decode cX4_writeRight 81 = .ok (.getfield 99, 3) := by decide +kernel
theorem dX4_writeRight_84 : decode cX4_writeRight 84 = .ok (.iload_n 1, 1) := by decide +kernel
theorem dX4_writeRight_85 : decode cX4_writeRight 85 = .ok (.iaload, 1) := by decide +kernel
theorem dX4_writeRight_86 : decode cX4_writeRight 86 = .ok (.ifCond .le 22, 3) := by decide +kernel
theorem dX4_writeRight_89 : decode cX4_writeRight 89 = .ok (.aload_n 0, 1) := by decide +kernel
theorem dX4_writeRight_90 : decode cX4_writeRight 90 = .ok (.ldc 102, 2) := by decide +kernel
theorem dX4_writeRight_92 : decode cX4_writeRight 92 = .ok (.invokevirtual 71, 3) := by decide +kernel
theorem dX4_writeRight_95 : decode cX4_writeRight 95 = .ok (.aload_n 0, 1) := by decide +kernel
theorem dX4_writeRight_96 : decode cX4_writeRight 96 = .ok (.aload_n 0, 1) := by decide +kernel
theorem dX4_writeRight_97 : decode cX4_writeRight 97 = .ok (.getfield 9, 3) := by decide +kernel
theorem dX4_writeRight_100 : decode cX4_writeRight 100 = .ok (.getfield 99, 3) := by decide +kernel
theorem dX4_writeRight_103 : decode cX4_writeRight 103 = .ok (.iload_n 1, 1) := by decide +kernel
theorem dX4_writeRight_104 : decode cX4_writeRight 104 = .ok (.iaload, 1) := by decide +kernel
theorem dX4_writeRight_105 : decode cX4_writeRight 105 = .ok (.invokevirtual 60, 3) := by decide +kernel
theorem dX4_writeRight_108 : decode cX4_writeRight 108 = .ok (.aload_n 0, 1) := by decide +kernel
theorem dX4_writeRight_109 : decode cX4_writeRight 109 = .ok (.getfield 9, 3) := by decide +kernel
theorem dX4_writeRight_112 : decode cX4_writeRight 112 = .ok (.getfield 104, 3) := by decide +kernel
theorem dX4_writeRight_115 : decode cX4_writeRight 115 = .ok (.iload_n 1, 1) := by decide +kernel
theorem dX4_writeRight_116 : decode cX4_writeRight 116 = .ok (.iaload, 1) := by decide +kernel
theorem dX4_writeRight_117 : decode cX4_writeRight 117 = .ok (.ifCond .lt 48, 3) := by decide +kernel
theorem dX4_writeRight_120 : decode cX4_writeRight 120 = .ok (.aload_n 0, 1) := by decide +kernel
theorem dX4_writeRight_121 : decode cX4_writeRight 121 = .ok (.ldc 107, 2) := by decide +kernel
theorem dX4_writeRight_123 : decode cX4_writeRight 123 = .ok (.invokevirtual 71, 3) := by decide +kernel
theorem dX4_writeRight_126 : decode cX4_writeRight 126 = .ok (.aload_n 0, 1) := by decide +kernel
theorem dX4_writeRight_127 : decode cX4_writeRight 127 = .ok (.aload_n 0, 1) := by decide +kernel
theorem dX4_writeRight_128 : decode cX4_writeRight 128 = .ok (.getfield 9, 3) := by decide +kernel
theorem dX4_writeRight_131 : decode cX4_writeRight 131 = .ok (.getfield 104, 3) := by decide +kernel
theorem dX4_writeRight_134 : decode cX4_writeRight 134 = .ok (.iload_n 1, 1) := by decide +kernel
theorem dX4_writeRight_135 : decode cX4_writeRight 135 = .ok (.iaload, 1) := by decide +kernel
theorem dX4_writeRight_136 : decode cX4_writeRight 136 = .ok (.invokevirtual 60, 3) := by decide +kernel
theorem dX4_writeRight_139 : decode cX4_writeRight 139 = .ok (.aload_n 0, 1) := by decide +kernel
theorem dX4_writeRight_140 : decode cX4_writeRight 140 = .ok (.aload_n 0, 1) := by decide +kernel
theorem dX4_writeRight_141 : decode cX4_writeRight 141 = .ok (.getfield 9, 3) := by decide +kernel
theorem dX4_writeRight_144 : decode cX4_writeRight 144 = .ok (.getfield 109, 3) := by decide +kernel
theorem dX4_writeRight_147 : decode cX4_writeRight 147 = .ok (.iload_n 1, 1) := by decide +kernel
theorem dX4_writeRight_148 : decode cX4_writeRight 148 = .ok (.iaload, 1) := by decide +kernel
theorem dX4_writeRight_149 : decode cX4_writeRight 149 = .ok (.invokevirtual 60, 3) := by decide +kernel
theorem dX4_writeRight_152 : decode cX4_writeRight 152 = .ok (.aload_n 0, 1) := by decide +kernel
theorem dX4_writeRight_153 : decode cX4_writeRight 153 = .ok (.aload_n 0, 1) := by decide +kernel
theorem dX4_writeRight_154 : decode cX4_writeRight 154 = .ok (.getfield 9, 3) := by decide +kernel
theorem dX4_writeRight_157 : decode cX4_writeRight 157 = .ok (.getfield 112, 3) := by decide +kernel
theorem dX4_writeRight_160 : decode cX4_writeRight 160 = .ok (.iload_n 1, 1) := by decide +kernel
theorem dX4_writeRight_161 : decode cX4_writeRight 161 = .ok (.iaload, 1) := by decide +kernel
theorem dX4_writeRight_162 : decode cX4_writeRight 162 = .ok (.invokevirtual 60, 3) := by decide +kernel
theorem dX4_writeRight_165 : decode cX4_writeRight 165 = .ok (.return_, 1) := by decide +kernel
theorem dX4_writeReach_0 : decode cX4_writeReach 0 = .ok (.aload_n 0, 1) := by decide +kernel
theorem dX4_writeReach_1 : decode cX4_writeReach 1 = .ok (.ldc 63, 2) := by decide +kernel
theorem dX4_writeReach_3 : decode cX4_writeReach 3 = .ok (.invokevirtual 56, 3) := by decide +kernel
theorem dX4_writeReach_6 : decode cX4_writeReach 6 = .ok (.aload_n 0, 1) := by decide +kernel
theorem dX4_writeReach_7 : decode cX4_writeReach 7 = .ok (.getfield 9, 3) := by decide +kernel
theorem dX4_writeReach_10 : decode cX4_writeReach 10 = .ok (.getfield 65, 3) := by decide +kernel
theorem dX4_writeReach_13 : decode cX4_writeReach 13 = .ok (.iload_n 1, 1) := by decide +kernel
theorem dX4_writeReach_14 : decode cX4_writeReach 14 = .ok (.iaload, 1) := by decide +kernel
theorem dX4_writeReach_15 : decode cX4_writeReach 15 = .ok (.ifCond .ge 12, 3) := by decide +kernel
theorem dX4_writeReach_18 : decode cX4_writeReach 18 = .ok (.aload_n 0, 1) := by decide +kernel
theorem dX4_writeReach_19 : decode cX4_writeReach 19 = .ok (.ldc 69, 2) := by decide +kernel
theorem dX4_writeReach_21 : decode cX4_writeReach 21 = .ok (.invokevirtual 71, 3) := by decide +kernel
theorem dX4_writeReach_24 : decode cX4_writeReach 24 = .ok (.goto 16, 3) := by decide +kernel
theorem dX4_writeReach_27 : decode cX4_writeReach 27 = .ok (.aload_n 0, 1) := by decide +kernel
theorem dX4_writeReach_28 : decode cX4_writeReach 28 = .ok (.aload_n 0, 1) := by decide +kernel
theorem dX4_writeReach_29 : decode cX4_writeReach 29 = .ok (.getfield 9, 3) := by decide +kernel
theorem dX4_writeReach_32 : decode cX4_writeReach 32 = .ok (.getfield 65, 3) := by decide +kernel
theorem dX4_writeReach_35 : decode cX4_writeReach 35 = .ok (.iload_n 1, 1) := by decide +kernel
theorem dX4_writeReach_36 : decode cX4_writeReach 36 = .ok (.iaload, 1) := by decide +kernel
theorem dX4_writeReach_37 : decode cX4_writeReach 37 = .ok (.invokevirtual 60, 3) := by decide +kernel
theorem dX4_writeReach_40 : decode cX4_writeReach 40 = .ok (.iconst 0, 1) := by decide +kernel
theorem dX4_writeReach_41 : decode cX4_writeReach 41 = .ok (.istore_n 2, 1) := by decide +kernel
theorem dX4_writeReach_42 : decode cX4_writeReach 42 = .ok (.iload_n 2, 1) := by decide +kernel
theorem dX4_writeReach_43 : decode cX4_writeReach 43 = .ok (.iconst 4, 1) := by decide +kernel
theorem dX4_writeReach_44 : decode cX4_writeReach 44 = .ok (.if_icmp .ge 26, 3) := by decide +kernel
theorem dX4_writeReach_47 : decode cX4_writeReach 47 = .ok (.aload_n 0, 1) := by decide +kernel
theorem dX4_writeReach_48 : decode cX4_writeReach 48 = .ok (.aload_n 0, 1) := by decide +kernel
theorem dX4_writeReach_49 : decode cX4_writeReach 49 = .ok (.getfield 9, 3) := by decide +kernel
theorem dX4_writeReach_52 : decode cX4_writeReach 52 = .ok (.getfield 74, 3) := by decide +kernel
theorem dX4_writeReach_55 : decode cX4_writeReach 55 = .ok (.iload_n 1, 1) := by decide +kernel
theorem dX4_writeReach_56 : decode cX4_writeReach 56 = .ok (.iconst 4, 1) := by decide +kernel
theorem dX4_writeReach_57 : decode cX4_writeReach 57 = .ok (.imul, 1) := by decide +kernel
theorem dX4_writeReach_58 : decode cX4_writeReach 58 = .ok (.iload_n 2, 1) := by decide +kernel
theorem dX4_writeReach_59 : decode cX4_writeReach 59 = .ok (.iadd, 1) := by decide +kernel
theorem dX4_writeReach_60 : decode cX4_writeReach 60 = .ok (.iaload, 1) := by decide +kernel
theorem dX4_writeReach_61 : decode cX4_writeReach 61 = .ok (.invokevirtual 60, 3) := by decide +kernel
theorem dX4_writeReach_64 : decode cX4_writeReach 64 = .ok (.iinc 2 1, 3) := by decide +kernel
theorem dX4_writeReach_67 : decode cX4_writeReach 67 = .ok (.goto (-25), 3) := by decide +kernel
theorem dX4_writeReach_70 : decode cX4_writeReach 70 = .ok (.aload_n 0, 1) := by decide +kernel
theorem dX4_writeReach_71 : decode cX4_writeReach 71 = .ok (.getfield 9, 3) := by decide +kernel
theorem dX4_writeReach_74 : decode cX4_writeReach 74 = .ok (.getfield 77, 3) := by decide +kernel
theorem dX4_writeReach_77 : decode cX4_writeReach 77 = .ok (.iload_n 1, 1) := by decide +kernel
theorem dX4_writeReach_78 : decode cX4_writeReach 78 = .ok (.iaload, 1) := by decide +kernel
theorem dX4_writeReach_79 : decode cX4_writeReach 79 = .ok (.ifCond .eq 22, 3) := by decide +kernel
theorem dX4_writeReach_82 : decode cX4_writeReach 82 = .ok (.aload_n 0, 1) := by decide +kernel
theorem dX4_writeReach_83 : decode cX4_writeReach 83 = .ok (.ldc 80, 2) := by decide +kernel
theorem dX4_writeReach_85 : decode cX4_writeReach 85 = .ok (.invokevirtual 71, 3) := by decide +kernel
theorem dX4_writeReach_88 : decode cX4_writeReach 88 = .ok (.aload_n 0, 1) := by decide +kernel
theorem dX4_writeReach_89 : decode cX4_writeReach 89 = .ok (.aload_n 0, 1) := by decide +kernel
theorem dX4_writeReach_90 : decode cX4_writeReach 90 = .ok (.getfield 9, 3) := by decide +kernel
theorem dX4_writeReach_93 : decode cX4_writeReach 93 = .ok (.getfield 77, 3) := by decide +kernel
theorem dX4_writeReach_96 : decode cX4_writeReach 96 = .ok (.iload_n 1, 1) := by decide +kernel
theorem dX4_writeReach_97 : decode cX4_writeReach 97 = .ok (.iaload, 1) := by decide +kernel
theorem dX4_writeReach_98 : decode cX4_writeReach 98 = .ok (.invokevirtual 60, 3) := by decide +kernel
theorem dX4_writeReach_101 : decode cX4_writeReach 101 = .ok (.return_, 1) := by decide +kernel
theorem dX4_write_0 : decode cX4_write 0 = .ok (.aload_n 0, 1) := by decide +kernel
theorem dX4_write_1 : decode cX4_write 1 = .ok (.aload_n 1, 1) := by decide +kernel
theorem dX4_write_2 : decode cX4_write 2 = .ok (.putfield 9, 3) := by decide +kernel
theorem dX4_write_5 : decode cX4_write 5 = .ok (.aload_n 0, 1) := by decide +kernel
theorem dX4_write_6 : decode cX4_write 6 = .ok (.aload_n 2, 1) := by decide +kernel
theorem dX4_write_7 : decode cX4_write 7 = .ok (.putfield 15, 3) := by decide +kernel
theorem dX4_write_10 : decode cX4_write 10 = .ok (.aload_n 0, 1) := by decide +kernel
theorem dX4_write_11 : decode cX4_write 11 = .ok (.iload_n 3, 1) := by decide +kernel
theorem dX4_write_12 : decode cX4_write 12 = .ok (.putfield 19, 3) := by decide +kernel
theorem dX4_write_15 : decode cX4_write 15 = .ok (.aload_n 0, 1) := by decide +kernel
theorem dX4_write_16 : decode cX4_write 16 = .ok (.iconst 0, 1) := by decide +kernel
theorem dX4_write_17 : decode cX4_write 17 = .ok (.putfield 23, 3) := by decide +kernel
theorem dX4_write_20 : decode cX4_write 20 = .ok (.aload_n 0, 1) := by decide +kernel
theorem dX4_write_21 : decode cX4_write 21 = .ok (.bipush (-2), 2) := by decide +kernel
theorem dX4_write_23 : decode cX4_write 23 = .ok (.putfield 26, 3) := by decide +kernel
theorem dX4_write_26 : decode cX4_write 26 = .ok (.iconst 0, 1) := by decide +kernel
theorem dX4_write_27 : decode cX4_write 27 = .ok (.istore 4, 2) := by decide +kernel
theorem dX4_write_29 : decode cX4_write 29 = .ok (.iload 4, 2) := by decide +kernel
theorem dX4_write_31 : decode cX4_write 31 = .ok (.aload_n 1, 1) := by decide +kernel
theorem dX4_write_32 : decode cX4_write 32 = .ok (.getfield 29, 3) := by decide +kernel
theorem dX4_write_35 : decode cX4_write 35 = .ok (.if_icmp .ge 15, 3) := by decide +kernel
theorem dX4_write_38 : decode cX4_write 38 = .ok (.aload_n 0, 1) := by decide +kernel
theorem dX4_write_39 : decode cX4_write 39 = .ok (.iload 4, 2) := by decide +kernel
theorem dX4_write_41 : decode cX4_write 41 = .ok (.invokevirtual 34, 3) := by decide +kernel
theorem dX4_write_44 : decode cX4_write 44 = .ok (.iinc 4 1, 3) := by decide +kernel
theorem dX4_write_47 : decode cX4_write 47 = .ok (.goto (-18), 3) := by decide +kernel
theorem dX4_write_50 : decode cX4_write 50 = .ok (.iconst 0, 1) := by decide +kernel
theorem dX4_write_51 : decode cX4_write 51 = .ok (.istore 4, 2) := by decide +kernel
theorem dX4_write_53 : decode cX4_write 53 = .ok (.iload 4, 2) := by decide +kernel
theorem dX4_write_55 : decode cX4_write 55 = .ok (.aload_n 1, 1) := by decide +kernel
theorem dX4_write_56 : decode cX4_write 56 = .ok (.getfield 38, 3) := by decide +kernel
theorem dX4_write_59 : decode cX4_write 59 = .ok (.if_icmp .ge 15, 3) := by decide +kernel
theorem dX4_write_62 : decode cX4_write 62 = .ok (.aload_n 0, 1) := by decide +kernel
theorem dX4_write_63 : decode cX4_write 63 = .ok (.iload 4, 2) := by decide +kernel
theorem dX4_write_65 : decode cX4_write 65 = .ok (.invokevirtual 41, 3) := by decide +kernel
theorem dX4_write_68 : decode cX4_write 68 = .ok (.iinc 4 1, 3) := by decide +kernel
theorem dX4_write_71 : decode cX4_write 71 = .ok (.goto (-18), 3) := by decide +kernel
theorem dX4_write_74 : decode cX4_write 74 = .ok (.iconst 0, 1) := by decide +kernel
theorem dX4_write_75 : decode cX4_write 75 = .ok (.istore 4, 2) := by decide +kernel
theorem dX4_write_77 : decode cX4_write 77 = .ok (.iload 4, 2) := by decide +kernel
theorem dX4_write_79 : decode cX4_write 79 = .ok (.aload_n 1, 1) := by decide +kernel
theorem dX4_write_80 : decode cX4_write 80 = .ok (.getfield 44, 3) := by decide +kernel
theorem dX4_write_83 : decode cX4_write 83 = .ok (.if_icmp .ge 15, 3) := by decide +kernel
theorem dX4_write_86 : decode cX4_write 86 = .ok (.aload_n 0, 1) := by decide +kernel
theorem dX4_write_87 : decode cX4_write 87 = .ok (.iload 4, 2) := by decide +kernel
theorem dX4_write_89 : decode cX4_write 89 = .ok (.invokevirtual 47, 3) := by decide +kernel
theorem dX4_write_92 : decode cX4_write 92 = .ok (.iinc 4 1, 3) := by decide +kernel
theorem dX4_write_95 : decode cX4_write 95 = .ok (.goto (-18), 3) := by decide +kernel
theorem dX4_write_98 : decode cX4_write 98 = .ok (.aload_n 2, 1) := by decide +kernel
theorem dX4_write_99 : decode cX4_write 99 = .ok (.getfield 50, 3) := by decide +kernel
theorem dX4_write_102 : decode cX4_write 102 = .ok (.bipush 100, 2) := by decide +kernel
theorem dX4_write_104 : decode cX4_write 104 = .ok (.if_icmp .eq 17, 3) := by decide +kernel
theorem dX4_write_107 : decode cX4_write 107 = .ok (.aload_n 0, 1) := by decide +kernel
theorem dX4_write_108 : decode cX4_write 108 = .ok (.ldc 55, 2) := by decide +kernel
theorem dX4_write_110 : decode cX4_write 110 = .ok (.invokevirtual 56, 3) := by decide +kernel
theorem dX4_write_113 : decode cX4_write 113 = .ok (.aload_n 0, 1) := by decide +kernel
theorem dX4_write_114 : decode cX4_write 114 = .ok (.aload_n 2, 1) := by decide +kernel
theorem dX4_write_115 : decode cX4_write 115 = .ok (.getfield 50, 3) := by decide +kernel
theorem dX4_write_118 : decode cX4_write 118 = .ok (.invokevirtual 60, 3) := by decide +kernel
theorem dX4_write_121 : decode cX4_write 121 = .ok (.return_, 1) := by decide +kernel
theorem dX6_letter_0 : decode cX6_letter 0 = .ok (.iload_n 1, 1) := by decide +kernel
theorem dX6_letter_1 : decode cX6_letter 1 = .ok (.iconst (-1), 1) := by decide +kernel
theorem dX6_letter_2 : decode cX6_letter 2 = .ok (.if_icmp .ge 5, 3) := by decide +kernel
theorem dX6_letter_5 : decode cX6_letter 5 = .ok (.iconst (-1), 1) := by decide +kernel
theorem dX6_letter_6 : decode cX6_letter 6 = .ok (.ireturn, 1) := by decide +kernel
theorem dX6_letter_7 : decode cX6_letter 7 = .ok (.aload_n 0, 1) := by decide +kernel
theorem dX6_letter_8 : decode cX6_letter 8 = .ok (.getfield 73, 3) := by decide +kernel
theorem dX6_letter_11 : decode cX6_letter 11 = .ok (.aload_n 0, 1) := by decide +kernel
theorem dX6_letter_12 : decode cX6_letter 12 = .ok (.getfield 16, 3) := by decide +kernel
theorem dX6_letter_15 : decode cX6_letter 15 = .ok (.aload_n 0, 1) := by decide +kernel
theorem dX6_letter_16 : decode cX6_letter 16 = .ok (.getfield 26, 3) := by decide +kernel
theorem dX6_letter_19 : decode cX6_letter 19 = .ok (.iload_n 1, 1) := by decide +kernel
theorem dX6_letter_20 : decode cX6_letter 20 = .ok (.invokevirtual 369, 3) := by decide +kernel
theorem dX6_letter_23 : decode cX6_letter 23 = .ok (.iload_n 1, 1) := by decide +kernel
theorem dX6_letter_24 : decode cX6_letter 24 = .ok (.iconst (-1), 1) := by decide +kernel
theorem dX6_letter_25 : decode cX6_letter 25 = .ok (.if_icmp .ne 11, 3) := by decide +kernel
theorem dX6_letter_28 : decode cX6_letter 28 = .ok (.aload_n 0, 1) := by decide +kernel
theorem dX6_letter_29 : decode cX6_letter 29 = .ok (.getfield 73, 3) := by decide +kernel
theorem dX6_letter_32 : decode cX6_letter 32 = .ok (.getfield 373, 3) := by decide +kernel
theorem dX6_letter_35 : decode cX6_letter 35 = .ok (.ireturn, 1) := by decide +kernel
theorem dX6_letter_36 : decode cX6_letter 36 = .ok (.iload_n 1, 1) := by decide +kernel
theorem dX6_letter_37 : decode cX6_letter 37 = .ok (.aload_n 0, 1) := by decide +kernel
theorem dX6_letter_38 : decode cX6_letter 38 = .ok (.getfield 73, 3) := by decide +kernel
theorem dX6_letter_41 : decode cX6_letter 41 = .ok (.getfield 373, 3) := by decide +kernel
theorem dX6_letter_44 : decode cX6_letter 44 = .ok (.if_icmp .ge 13, 3) := by decide +kernel
theorem dX6_letter_47 : decode cX6_letter 47 = .ok (.aload_n 0, 1) := by decide +kernel
theorem dX6_letter_48 : decode cX6_letter 48 = .ok (.getfield 73, 3) := by decide +kernel
theorem dX6_letter_51 : decode cX6_letter 51 = .ok (.getfield 376, 3) := by decide +kernel
theorem dX6_letter_54 : decode cX6_letter 54 = .ok (.goto 5, 3) := by decide +kernel
theorem dX6_letter_57 : decode cX6_letter 57 = .ok (.bipush (-2), 2) := by decide +kernel
theorem dX6_letter_59 : decode cX6_letter 59 = .ok (.ireturn, 1) := by decide +kernel
theorem dX3_blame_0 : decode cX3_blame 0 = .ok (.aload_n 0, 1) := by decide +kernel
theorem dX3_blame_1 : decode cX3_blame 1 = .ok (.getfield 37, 3) := by decide +kernel
theorem dX3_blame_4 : decode cX3_blame 4 = .ok (.ifCond .ne 13, 3) := by decide +kernel
theorem dX3_blame_7 : decode cX3_blame 7 = .ok (.aload_n 0, 1) := by decide +kernel
theorem dX3_blame_8 : decode cX3_blame 8 = .ok (.bipush 8, 2) := by decide +kernel
theorem dX3_blame_10 : decode cX3_blame 10 = .ok (.iload_n 1, 1) := by decide +kernel
theorem dX3_blame_11 : decode cX3_blame 11 = .ok (.imul, 1) := by decide +kernel
theorem dX3_blame_12 : decode cX3_blame 12 = .ok (.iload_n 2, 1) := by decide +kernel
theorem dX3_blame_13 : decode cX3_blame 13 = .ok (.iadd, 1) := by decide +kernel
theorem dX3_blame_14 : decode cX3_blame 14 = .ok (.putfield 37, 3) := by decide +kernel
theorem dX3_blame_17 : decode cX3_blame 17 = .ok (.return_, 1) := by decide +kernel
theorem dX3_skipBlanks_0 : decode cX3_skipBlanks 0 = .ok (.aload_n 0, 1) := by decide +kernel
theorem dX3_skipBlanks_1 : decode cX3_skipBlanks 1 = .ok (.getfield 34, 3) := by decide +kernel
theorem dX3_skipBlanks_4 : decode cX3_skipBlanks 4 = .ok (.aload_n 0, 1) := by decide +kernel
theorem dX3_skipBlanks_5 : decode cX3_skipBlanks 5 = .ok (.getfield 30, 3) := by decide +kernel
theorem dX3_skipBlanks_8 : decode cX3_skipBlanks 8 = .ok (.if_icmp .ge 30, 3) := by decide +kernel
theorem dX3_skipBlanks_11 : decode cX3_skipBlanks 11 = .ok (.aload_n 0, 1) := by decide +kernel
theorem dX3_skipBlanks_12 : decode cX3_skipBlanks 12 = .ok (.getfield 9, 3) := by decide +kernel
theorem dX3_skipBlanks_15 : decode cX3_skipBlanks 15 = .ok (.aload_n 0, 1) := by decide +kernel
theorem dX3_skipBlanks_16 : decode cX3_skipBlanks 16 = .ok (.getfield 34, 3) := by decide +kernel
theorem dX3_skipBlanks_19 : decode cX3_skipBlanks 19 = .ok (.baload, 1) := by decide +kernel
theorem dX3_skipBlanks_20 : decode cX3_skipBlanks 20 = .ok (.bipush 32, 2) := by decide +kernel
theorem dX3_skipBlanks_22 : decode cX3_skipBlanks 22 = .ok (.if_icmp .ne 16, 3) := by decide +kernel
theorem dX3_skipBlanks_25 : decode cX3_skipBlanks 25 = .ok (.aload_n 0, 1) := by decide +kernel
theorem dX3_skipBlanks_26 : decode cX3_skipBlanks 26 = .ok (.dup, 1) := by decide +kernel
theorem dX3_skipBlanks_27 : decode cX3_skipBlanks 27 = .ok (.getfield 34, 3) := by decide +kernel
theorem dX3_skipBlanks_30 : decode cX3_skipBlanks 30 = .ok (.iconst 1, 1) := by decide +kernel
theorem dX3_skipBlanks_31 : decode cX3_skipBlanks 31 = .ok (.iadd, 1) := by decide +kernel
theorem dX3_skipBlanks_32 : decode cX3_skipBlanks 32 = .ok (.putfield 34, 3) := by decide +kernel
theorem dX3_skipBlanks_35 : decode cX3_skipBlanks 35 = .ok (.goto (-35), 3) := by decide +kernel
theorem dX3_skipBlanks_38 : decode cX3_skipBlanks 38 = .ok (.return_, 1) := by decide +kernel
theorem dX3_isNext_0 : decode cX3_isNext 0 = .ok (.aload_n 0, 1) := by decide +kernel
theorem dX3_isNext_1 : decode cX3_isNext 1 = .ok (.invokevirtual 44, 3) := by decide +kernel
theorem dX3_isNext_4 : decode cX3_isNext 4 = .ok (.aload_n 0, 1) := by decide +kernel
theorem dX3_isNext_5 : decode cX3_isNext 5 = .ok (.getfield 34, 3) := by decide +kernel
theorem dX3_isNext_8 : decode cX3_isNext 8 = .ok (.aload_n 1, 1) := by decide +kernel
theorem dX3_isNext_9 : decode cX3_isNext 9 = .ok (.invokevirtual 168, 3) := by decide +kernel
theorem dX3_isNext_12 : decode cX3_isNext 12 = .ok (.iadd, 1) := by decide +kernel
theorem dX3_isNext_13 : decode cX3_isNext 13 = .ok (.istore_n 2, 1) := by decide +kernel
theorem dX3_isNext_14 : decode cX3_isNext 14 = .ok (.aload_n 0, 1) := by decide +kernel
theorem dX3_isNext_15 : decode cX3_isNext 15 = .ok (.getfield 37, 3) := by decide +kernel
theorem dX3_isNext_18 : decode cX3_isNext 18 = .ok (.ifCond .ne 11, 3) := by decide +kernel
theorem dX3_isNext_21 : decode cX3_isNext 21 = .ok (.iload_n 2, 1) := by decide +kernel
theorem dX3_isNext_22 : decode cX3_isNext 22 = .ok (.aload_n 0, 1) := by decide +kernel
theorem dX3_isNext_23 : decode cX3_isNext 23 = .ok (.getfield 30, 3) := by decide +kernel
theorem dX3_isNext_26 : decode cX3_isNext 26 = .ok (.if_icmp .le 5, 3) := by decide +kernel
theorem dX3_isNext_29 : decode cX3_isNext 29 = .ok (.iconst 0, 1) := by decide +kernel
theorem dX3_isNext_30 : decode cX3_isNext 30 = .ok (.ireturn, 1) := by decide +kernel
theorem dX3_isNext_31 : decode cX3_isNext 31 = .ok (.iconst 0, 1) := by decide +kernel
theorem dX3_isNext_32 : decode cX3_isNext 32 = .ok (.istore_n 3, 1) := by decide +kernel
theorem dX3_isNext_33 : decode cX3_isNext 33 = .ok (.iload_n 3, 1) := by decide +kernel
theorem dX3_isNext_34 : decode cX3_isNext 34 = .ok (.aload_n 1, 1) := by decide +kernel
theorem dX3_isNext_35 : decode cX3_isNext 35 = .ok (.invokevirtual 168, 3) := by decide +kernel
theorem dX3_isNext_38 : decode cX3_isNext 38 = .ok (.if_icmp .ge 30, 3) := by decide +kernel
theorem dX3_isNext_41 : decode cX3_isNext 41 = .ok (.aload_n 0, 1) := by decide +kernel
theorem dX3_isNext_42 : decode cX3_isNext 42 = .ok (.getfield 9, 3) := by decide +kernel
theorem dX3_isNext_45 : decode cX3_isNext 45 = .ok (.aload_n 0, 1) := by decide +kernel
theorem dX3_isNext_46 : decode cX3_isNext 46 = .ok (.getfield 34, 3) := by decide +kernel
theorem dX3_isNext_49 : decode cX3_isNext 49 = .ok (.iload_n 3, 1) := by decide +kernel
theorem dX3_isNext_50 : decode cX3_isNext 50 = .ok (.iadd, 1) := by decide +kernel
theorem dX3_isNext_51 : decode cX3_isNext 51 = .ok (.baload, 1) := by decide +kernel
theorem dX3_isNext_52 : decode cX3_isNext 52 = .ok (.aload_n 1, 1) := by decide +kernel
theorem dX3_isNext_53 : decode cX3_isNext 53 = .ok (.iload_n 3, 1) := by decide +kernel
theorem dX3_isNext_54 : decode cX3_isNext 54 = .ok (.invokevirtual 172, 3) := by decide +kernel
theorem dX3_isNext_57 : decode cX3_isNext 57 = .ok (.if_icmp .eq 5, 3) := by decide +kernel
theorem dX3_isNext_60 : decode cX3_isNext 60 = .ok (.iconst 0, 1) := by decide +kernel
theorem dX3_isNext_61 : decode cX3_isNext 61 = .ok (.ireturn, 1) := by decide +kernel
theorem dX3_isNext_62 : decode cX3_isNext 62 = .ok (.iinc 3 1, 3) := by decide +kernel
theorem dX3_isNext_65 : decode cX3_isNext 65 = .ok (.goto (-32), 3) := by decide +kernel
theorem dX3_isNext_68 : decode cX3_isNext 68 = .ok (.iload_n 2, 1) := by decide +kernel
theorem dX3_isNext_69 : decode cX3_isNext 69 = .ok (.aload_n 0, 1) := by decide +kernel
theorem dX3_isNext_70 : decode cX3_isNext 70 = .ok (.getfield 30, 3) := by decide +kernel
theorem dX3_isNext_73 : decode cX3_isNext 73 = .ok (.if_icmp .ge 27, 3) := by decide +kernel
theorem dX3_isNext_76 : decode cX3_isNext 76 = .ok (.aload_n 0, 1) := by decide +kernel
theorem dX3_isNext_77 : decode cX3_isNext 77 = .ok (.getfield 9, 3) := by decide +kernel
theorem dX3_isNext_80 : decode cX3_isNext 80 = .ok (.iload_n 2, 1) := by decide +kernel
theorem dX3_isNext_81 : decode cX3_isNext 81 = .ok (.baload, 1) := by decide +kernel
theorem dX3_isNext_82 : decode cX3_isNext 82 = .ok (.bipush 97, 2) := by decide +kernel
theorem dX3_isNext_84 : decode cX3_isNext 84 = .ok (.if_icmp .lt 16, 3) := by decide +kernel
theorem dX3_isNext_87 : decode cX3_isNext 87 = .ok (.aload_n 0, 1) := by decide +kernel
theorem dX3_isNext_88 : decode cX3_isNext 88 = .ok (.getfield 9, 3) := by decide +kernel
theorem dX3_isNext_91 : decode cX3_isNext 91 = .ok (.iload_n 2, 1) := by decide +kernel
theorem dX3_isNext_92 : decode cX3_isNext 92 = .ok (.baload, 1) := by decide +kernel
theorem dX3_isNext_93 : decode cX3_isNext 93 = .ok (.bipush 122, 2) := by decide +kernel
theorem dX3_isNext_95 : decode cX3_isNext 95 = .ok (.if_icmp .gt 5, 3) := by decide +kernel
theorem dX3_isNext_98 : decode cX3_isNext 98 = .ok (.iconst 0, 1) := by decide +kernel
theorem dX3_isNext_99 : decode cX3_isNext 99 = .ok (.ireturn, 1) := by decide +kernel
theorem dX3_isNext_100 : decode cX3_isNext 100 = .ok (.aload_n 0, 1) := by decide +kernel
theorem dX3_isNext_101 : decode cX3_isNext 101 = .ok (.iload_n 2, 1) := by decide +kernel
theorem dX3_isNext_102 : decode cX3_isNext 102 = .ok (.putfield 34, 3) := by decide +kernel
theorem dX3_isNext_105 : decode cX3_isNext 105 = .ok (.iconst 1, 1) := by decide +kernel
theorem dX3_isNext_106 : decode cX3_isNext 106 = .ok (.ireturn, 1) := by decide +kernel
theorem dX3_readNumber_0 : decode cX3_readNumber 0 = .ok (.aload_n 0, 1) := by decide +kernel
theorem dX3_readNumber_1 : decode cX3_readNumber 1 = .ok (.invokevirtual 44, 3) := by decide +kernel
theorem dX3_readNumber_4 : decode cX3_readNumber 4 = .ok (.aload_n 0, 1) := by decide +kernel
theorem dX3_readNumber_5 : decode cX3_readNumber 5 = .ok (.getfield 34, 3) := by decide +kernel
theorem dX3_readNumber_8 : decode cX3_readNumber 8 = .ok (.istore_n 3, 1) := by decide +kernel
theorem dX3_readNumber_9 : decode cX3_readNumber 9 = .ok (.iconst 0, 1) := by decide +kernel
theorem dX3_readNumber_10 : decode cX3_readNumber 10 = .ok (.istore 4, 2) := by decide +kernel
theorem dX3_readNumber_12 : decode cX3_readNumber 12 = .ok (.aload_n 0, 1) := by decide +kernel
theorem dX3_readNumber_13 : decode cX3_readNumber 13 = .ok (.getfield 34, 3) := by decide +kernel
theorem dX3_readNumber_16 : decode cX3_readNumber 16 = .ok (.aload_n 0, 1) := by decide +kernel
theorem dX3_readNumber_17 : decode cX3_readNumber 17 = .ok (.getfield 30, 3) := by decide +kernel
theorem dX3_readNumber_20 : decode cX3_readNumber 20 = .ok (.if_icmp .ge 69, 3) := by decide +kernel
theorem dX3_readNumber_23 : decode cX3_readNumber 23 = .ok (.aload_n 0, 1) := by decide +kernel
theorem dX3_readNumber_24 : decode cX3_readNumber 24 = .ok (.getfield 9, 3) := by decide +kernel
theorem dX3_readNumber_27 : decode cX3_readNumber 27 = .ok (.aload_n 0, 1) := by decide +kernel
theorem dX3_readNumber_28 : decode cX3_readNumber 28 = .ok (.getfield 34, 3) := by decide +kernel
theorem dX3_readNumber_31 : decode cX3_readNumber 31 = .ok (.baload, 1) := by decide +kernel
theorem dX3_readNumber_32 : decode cX3_readNumber 32 = .ok (.bipush 48, 2) := by decide +kernel
theorem dX3_readNumber_34 : decode cX3_readNumber 34 = .ok (.if_icmp .lt 55, 3) := by decide +kernel
theorem dX3_readNumber_37 : decode cX3_readNumber 37 = .ok (.aload_n 0, 1) := by decide +kernel
theorem dX3_readNumber_38 : decode cX3_readNumber 38 = .ok (.getfield 9, 3) := by decide +kernel
theorem dX3_readNumber_41 : decode cX3_readNumber 41 = .ok (.aload_n 0, 1) := by decide +kernel
theorem dX3_readNumber_42 : decode cX3_readNumber 42 = .ok (.getfield 34, 3) := by decide +kernel
theorem dX3_readNumber_45 : decode cX3_readNumber 45 = .ok (.baload, 1) := by decide +kernel
theorem dX3_readNumber_46 : decode cX3_readNumber 46 = .ok (.bipush 57, 2) := by decide +kernel
theorem dX3_readNumber_48 : decode cX3_readNumber 48 = .ok (.if_icmp .gt 41, 3) := by decide +kernel
theorem dX3_readNumber_51 : decode cX3_readNumber 51 = .ok (.iload 4, 2) := by decide +kernel
theorem dX3_readNumber_53 : decode cX3_readNumber 53 = .ok (.bipush 10, 2) := by decide +kernel
theorem dX3_readNumber_55 : decode cX3_readNumber 55 = .ok (.imul, 1) := by decide +kernel
theorem dX3_readNumber_56 : decode cX3_readNumber 56 = .ok (.aload_n 0, 1) := by decide +kernel
theorem dX3_readNumber_57 : decode cX3_readNumber 57 = .ok (.getfield 9, 3) := by decide +kernel
theorem dX3_readNumber_60 : decode cX3_readNumber 60 = .ok (.aload_n 0, 1) := by decide +kernel
theorem dX3_readNumber_61 : decode cX3_readNumber 61 = .ok (.getfield 34, 3) := by decide +kernel
theorem dX3_readNumber_64 : decode cX3_readNumber 64 = .ok (.baload, 1) := by decide +kernel
theorem dX3_readNumber_65 : decode cX3_readNumber 65 = .ok (.iadd, 1) := by decide +kernel
theorem dX3_readNumber_66 : decode cX3_readNumber 66 = .ok (.bipush 48, 2) := by decide +kernel
theorem dX3_readNumber_68 : decode cX3_readNumber 68 = .ok (.isub, 1) := by decide +kernel
theorem dX3_readNumber_69 : decode cX3_readNumber 69 = .ok (.ldc 167, 2) := by decide +kernel
theorem dX3_readNumber_71 : decode cX3_readNumber 71 = .ok (.invokestatic 24, 3) := by decide +kernel
theorem dX3_readNumber_74 : decode cX3_readNumber 74 = .ok (.istore 4, 2) := by decide +kernel
theorem dX3_readNumber_76 : decode cX3_readNumber 76 = .ok (.aload_n 0, 1) := by decide +kernel
theorem dX3_readNumber_77 : decode cX3_readNumber 77 = .ok (.dup, 1) := by decide +kernel
theorem dX3_readNumber_78 : decode cX3_readNumber 78 = .ok (.getfield 34, 3) := by decide +kernel
theorem dX3_readNumber_81 : decode cX3_readNumber 81 = .ok (.iconst 1, 1) := by decide +kernel
theorem dX3_readNumber_82 : decode cX3_readNumber 82 = .ok (.iadd, 1) := by decide +kernel
theorem dX3_readNumber_83 : decode cX3_readNumber 83 = .ok (.putfield 34, 3) := by decide +kernel
theorem dX3_readNumber_86 : decode cX3_readNumber 86 = .ok (.goto (-74), 3) := by decide +kernel
theorem dX3_readNumber_89 : decode cX3_readNumber 89 = .ok (.aload_n 0, 1) := by decide +kernel
theorem dX3_readNumber_90 : decode cX3_readNumber 90 = .ok (.getfield 34, 3) := by decide +kernel
theorem dX3_readNumber_93 : decode cX3_readNumber 93 = .ok (.iload_n 3, 1) := by decide +kernel
theorem dX3_readNumber_94 : decode cX3_readNumber 94 = .ok (.if_icmp .ne 11, 3) := by decide +kernel
theorem dX3_readNumber_97 : decode cX3_readNumber 97 = .ok (.aload_n 0, 1) := by decide +kernel
theorem dX3_readNumber_98 : decode cX3_readNumber 98 = .ok (.iload_n 3, 1) := by decide +kernel
theorem dX3_readNumber_99 : decode cX3_readNumber 99 = .ok (.iconst 1, 1) := by decide +kernel
theorem dX3_readNumber_100 : decode cX3_readNumber 100 = .ok (.invokevirtual 54, 3) := by decide +kernel
theorem dX3_readNumber_103 : decode cX3_readNumber 103 = .ok (.iload_n 1, 1) := by decide +kernel
theorem dX3_readNumber_104 : decode cX3_readNumber 104 = .ok (.ireturn, 1) := by decide +kernel
theorem dX3_readNumber_105 : decode cX3_readNumber 105 = .ok (.iload 4, 2) := by decide +kernel
theorem dX3_readNumber_107 : decode cX3_readNumber 107 = .ok (.iload_n 1, 1) := by decide +kernel
theorem dX3_readNumber_108 : decode cX3_readNumber 108 = .ok (.if_icmp .lt 9, 3) := by decide +kernel
theorem dX3_readNumber_111 : decode cX3_readNumber 111 = .ok (.iload 4, 2) := by decide +kernel
theorem dX3_readNumber_113 : decode cX3_readNumber 113 = .ok (.iload_n 2, 1) := by decide +kernel
theorem dX3_readNumber_114 : decode cX3_readNumber 114 = .ok (.if_icmp .le 11, 3) := by decide +kernel
theorem dX3_readNumber_117 : decode cX3_readNumber 117 = .ok (.aload_n 0, 1) := by decide +kernel
theorem dX3_readNumber_118 : decode cX3_readNumber 118 = .ok (.iload_n 3, 1) := by decide +kernel
theorem dX3_readNumber_119 : decode cX3_readNumber 119 = .ok (.iconst 2, 1) := by decide +kernel
theorem dX3_readNumber_120 : decode cX3_readNumber 120 = .ok (.invokevirtual 54, 3) := by decide +kernel
theorem dX3_readNumber_123 : decode cX3_readNumber 123 = .ok (.iload_n 1, 1) := by decide +kernel
theorem dX3_readNumber_124 : decode cX3_readNumber 124 = .ok (.ireturn, 1) := by decide +kernel
theorem dX3_readNumber_125 : decode cX3_readNumber 125 = .ok (.iload 4, 2) := by decide +kernel
theorem dX3_readNumber_127 : decode cX3_readNumber 127 = .ok (.ireturn, 1) := by decide +kernel
theorem dX3_readBetween_0 : decode cX3_readBetween 0 = .ok (.aload_n 0, 1) := by decide +kernel
theorem dX3_readBetween_1 : decode cX3_readBetween 1 = .ok (.invokevirtual 44, 3) := by decide +kernel
theorem dX3_readBetween_4 : decode cX3_readBetween 4 = .ok (.aload_n 0, 1) := by decide +kernel
theorem dX3_readBetween_5 : decode cX3_readBetween 5 = .ok (.getfield 37, 3) := by decide +kernel
theorem dX3_readBetween_8 : decode cX3_readBetween 8 = .ok (.ifCond .ne 14, 3) := by decide +kernel
theorem dX3_readBetween_11 : decode cX3_readBetween 11 = .ok (.aload_n 0, 1) := by decide +kernel
theorem dX3_readBetween_12 : decode cX3_readBetween 12 = .ok (.getfield 34, 3) := by decide +kernel
theorem dX3_readBetween_15 : decode cX3_readBetween 15 = .ok (.aload_n 0, 1) := by decide +kernel
theorem dX3_readBetween_16 : decode cX3_readBetween 16 = .ok (.getfield 30, 3) := by decide +kernel
theorem dX3_readBetween_19 : decode cX3_readBetween 19 = .ok (.if_icmp .lt 5, 3) := by decide +kernel
theorem dX3_readBetween_22 : decode cX3_readBetween 22 = .ok (.iconst 0, 1) := by decide +kernel
theorem dX3_readBetween_23 : decode cX3_readBetween 23 = .ok (.ireturn, 1) := by decide +kernel
theorem dX3_readBetween_24 : decode cX3_readBetween 24 = .ok (.aload_n 0, 1) := by decide +kernel
theorem dX3_readBetween_25 : decode cX3_readBetween 25 = .ok (.getfield 9, 3) := by decide +kernel
theorem dX3_readBetween_28 : decode cX3_readBetween 28 = .ok (.aload_n 0, 1) := by decide +kernel
theorem dX3_readBetween_29 : decode cX3_readBetween 29 = .ok (.getfield 34, 3) := by decide +kernel
theorem dX3_readBetween_32 : decode cX3_readBetween 32 = .ok (.baload, 1) := by decide +kernel
theorem dX3_readBetween_33 : decode cX3_readBetween 33 = .ok (.bipush 59, 2) := by decide +kernel
theorem dX3_readBetween_35 : decode cX3_readBetween 35 = .ok (.if_icmp .eq 14, 3) := by decide +kernel
theorem dX3_readBetween_38 : decode cX3_readBetween 38 = .ok (.aload_n 0, 1) := by decide +kernel
theorem dX3_readBetween_39 : decode cX3_readBetween 39 = .ok (.aload_n 0, 1) := by decide +kernel
theorem dX3_readBetween_40 : decode cX3_readBetween 40 = .ok (.getfield 34, 3) := by decide +kernel
theorem dX3_readBetween_43 : decode cX3_readBetween 43 = .ok (.iconst 1, 1) := by decide +kernel
theorem dX3_readBetween_44 : decode cX3_readBetween 44 = .ok (.invokevirtual 54, 3) := by decide +kernel
theorem dX3_readBetween_47 : decode cX3_readBetween 47 = .ok (.iconst 0, 1) := by decide +kernel
theorem dX3_readBetween_48 : decode cX3_readBetween 48 = .ok (.ireturn, 1) := by decide +kernel
theorem dX3_readBetween_49 : decode cX3_readBetween 49 = .ok (.aload_n 0, 1) := by decide +kernel
theorem dX3_readBetween_50 : decode cX3_readBetween 50 = .ok (.dup, 1) := by decide +kernel
theorem dX3_readBetween_51 : decode cX3_readBetween 51 = .ok (.getfield 34, 3) := by decide +kernel
theorem dX3_readBetween_54 : decode cX3_readBetween 54 = .ok (.iconst 1, 1) := by decide +kernel
theorem dX3_readBetween_55 : decode cX3_readBetween 55 = .ok (.iadd, 1) := by decide +kernel
theorem dX3_readBetween_56 : decode cX3_readBetween 56 = .ok (.putfield 34, 3) := by decide +kernel
theorem dX3_readBetween_59 : decode cX3_readBetween 59 = .ok (.iconst 1, 1) := by decide +kernel
theorem dX3_readBetween_60 : decode cX3_readBetween 60 = .ok (.ireturn, 1) := by decide +kernel
theorem dX2_clear_0 : decode cX2_clear 0 = .ok (.aload_n 0, 1) := by decide +kernel
theorem dX2_clear_1 : decode cX2_clear 1 = .ok (.iconst 0, 1) := by decide +kernel
theorem dX2_clear_2 : decode cX2_clear 2 = .ok (.putfield 64, 3) := by decide +kernel
theorem dX2_clear_5 : decode cX2_clear 5 = .ok (.aload_n 0, 1) := by decide +kernel
theorem dX2_clear_6 : decode cX2_clear 6 = .ok (.iconst 0, 1) := by decide +kernel
theorem dX2_clear_7 : decode cX2_clear 7 = .ok (.putfield 67, 3) := by decide +kernel
theorem dX2_clear_10 : decode cX2_clear 10 = .ok (.aload_n 0, 1) := by decide +kernel
theorem dX2_clear_11 : decode cX2_clear 11 = .ok (.iconst 0, 1) := by decide +kernel
theorem dX2_clear_12 : decode cX2_clear 12 = .ok (.putfield 70, 3) := by decide +kernel
theorem dX2_clear_15 : decode cX2_clear 15 = .ok (.aload_n 0, 1) := by decide +kernel
theorem dX2_clear_16 : decode cX2_clear 16 = .ok (.bipush 100, 2) := by decide +kernel
theorem dX2_clear_18 : decode cX2_clear 18 = .ok (.putfield 60, 3) := by decide +kernel
theorem dX2_clear_21 : decode cX2_clear 21 = .ok (.return_, 1) := by decide +kernel
theorem dX2_hasAge_0 : decode cX2_hasAge 0 = .ok (.iconst 0, 1) := by decide +kernel
theorem dX2_hasAge_1 : decode cX2_hasAge 1 = .ok (.istore_n 2, 1) := by decide +kernel
theorem dX2_hasAge_2 : decode cX2_hasAge 2 = .ok (.iload_n 2, 1) := by decide +kernel
theorem dX2_hasAge_3 : decode cX2_hasAge 3 = .ok (.aload_n 0, 1) := by decide +kernel
theorem dX2_hasAge_4 : decode cX2_hasAge 4 = .ok (.getfield 67, 3) := by decide +kernel
theorem dX2_hasAge_7 : decode cX2_hasAge 7 = .ok (.if_icmp .ge 21, 3) := by decide +kernel
theorem dX2_hasAge_10 : decode cX2_hasAge 10 = .ok (.aload_n 0, 1) := by decide +kernel
theorem dX2_hasAge_11 : decode cX2_hasAge 11 = .ok (.getfield 33, 3) := by decide +kernel
theorem dX2_hasAge_14 : decode cX2_hasAge 14 = .ok (.iload_n 2, 1) := by decide +kernel
theorem dX2_hasAge_15 : decode cX2_hasAge 15 = .ok (.iaload, 1) := by decide +kernel
theorem dX2_hasAge_16 : decode cX2_hasAge 16 = .ok (.iload_n 1, 1) := by decide +kernel
theorem dX2_hasAge_17 : decode cX2_hasAge 17 = .ok (.if_icmp .ne 5, 3) := by decide +kernel
theorem dX2_hasAge_20 : decode cX2_hasAge 20 = .ok (.iconst 1, 1) := by decide +kernel
theorem dX2_hasAge_21 : decode cX2_hasAge 21 = .ok (.ireturn, 1) := by decide +kernel
theorem dX2_hasAge_22 : decode cX2_hasAge 22 = .ok (.iinc 2 1, 3) := by decide +kernel
theorem dX2_hasAge_25 : decode cX2_hasAge 25 = .ok (.goto (-23), 3) := by decide +kernel
theorem dX2_hasAge_28 : decode cX2_hasAge 28 = .ok (.iconst 0, 1) := by decide +kernel
theorem dX2_hasAge_29 : decode cX2_hasAge 29 = .ok (.istore_n 2, 1) := by decide +kernel
theorem dX2_hasAge_30 : decode cX2_hasAge 30 = .ok (.iload_n 2, 1) := by decide +kernel
theorem dX2_hasAge_31 : decode cX2_hasAge 31 = .ok (.aload_n 0, 1) := by decide +kernel
theorem dX2_hasAge_32 : decode cX2_hasAge 32 = .ok (.getfield 70, 3) := by decide +kernel
theorem dX2_hasAge_35 : decode cX2_hasAge 35 = .ok (.if_icmp .ge 21, 3) := by decide +kernel
theorem dX2_hasAge_38 : decode cX2_hasAge 38 = .ok (.aload_n 0, 1) := by decide +kernel
theorem dX2_hasAge_39 : decode cX2_hasAge 39 = .ok (.getfield 57, 3) := by decide +kernel
theorem dX2_hasAge_42 : decode cX2_hasAge 42 = .ok (.iload_n 2, 1) := by decide +kernel
theorem dX2_hasAge_43 : decode cX2_hasAge 43 = .ok (.iaload, 1) := by decide +kernel
theorem dX2_hasAge_44 : decode cX2_hasAge 44 = .ok (.iload_n 1, 1) := by decide +kernel
theorem dX2_hasAge_45 : decode cX2_hasAge 45 = .ok (.if_icmp .ne 5, 3) := by decide +kernel
theorem dX2_hasAge_48 : decode cX2_hasAge 48 = .ok (.iconst 1, 1) := by decide +kernel
theorem dX2_hasAge_49 : decode cX2_hasAge 49 = .ok (.ireturn, 1) := by decide +kernel
theorem dX2_hasAge_50 : decode cX2_hasAge 50 = .ok (.iinc 2 1, 3) := by decide +kernel
theorem dX2_hasAge_53 : decode cX2_hasAge 53 = .ok (.goto (-23), 3) := by decide +kernel
theorem dX2_hasAge_56 : decode cX2_hasAge 56 = .ok (.iconst 0, 1) := by decide +kernel
theorem dX2_hasAge_57 : decode cX2_hasAge 57 = .ok (.ireturn, 1) := by decide +kernel
theorem dX3_readReachNumber_0 : decode cX3_readReachNumber 0 = .ok (.aload_n 0, 1) := by decide +kernel
theorem dX3_readReachNumber_1 : decode cX3_readReachNumber 1 = .ok (.iconst 0, 1) := by decide +kernel
theorem dX3_readReachNumber_2 : decode cX3_readReachNumber 2 = .ok (.aload_n 0, 1) := by decide +kernel
theorem dX3_readReachNumber_3 : decode cX3_readReachNumber 3 = .ok (.getfield 15, 3) := by decide +kernel
theorem dX3_readReachNumber_6 : decode cX3_readReachNumber 6 = .ok (.getfield 83, 3) := by decide +kernel
theorem dX3_readReachNumber_9 : decode cX3_readReachNumber 9 = .ok (.iconst 1, 1) := by decide +kernel
theorem dX3_readReachNumber_10 : decode cX3_readReachNumber 10 = .ok (.isub, 1) := by decide +kernel
theorem dX3_readReachNumber_11 : decode cX3_readReachNumber 11 = .ok (.invokevirtual 99, 3) := by decide +kernel
theorem dX3_readReachNumber_14 : decode cX3_readReachNumber 14 = .ok (.ireturn, 1) := by decide +kernel
theorem dX3_readAge_0 : decode cX3_readAge 0 = .ok (.aload_n 0, 1) := by decide +kernel
theorem dX3_readAge_1 : decode cX3_readAge 1 = .ok (.ldc 161, 2) := by decide +kernel
theorem dX3_readAge_3 : decode cX3_readAge 3 = .ok (.invokevirtual 60, 3) := by decide +kernel
theorem dX3_readAge_6 : decode cX3_readAge 6 = .ok (.ifCond .ne 12, 3) := by decide +kernel
theorem dX3_readAge_9 : decode cX3_readAge 9 = .ok (.aload_n 0, 1) := by decide +kernel
theorem dX3_readAge_10 : decode cX3_readAge 10 = .ok (.aload_n 0, 1) := by decide +kernel
theorem dX3_readAge_11 : decode cX3_readAge 11 = .ok (.getfield 34, 3) := by decide +kernel
theorem dX3_readAge_14 : decode cX3_readAge 14 = .ok (.iconst 1, 1) := by decide +kernel
theorem dX3_readAge_15 : decode cX3_readAge 15 = .ok (.invokevirtual 54, 3) := by decide +kernel
theorem dX3_readAge_18 : decode cX3_readAge 18 = .ok (.aload_n 0, 1) := by decide +kernel
theorem dX3_readAge_19 : decode cX3_readAge 19 = .ok (.invokevirtual 44, 3) := by decide +kernel
theorem dX3_readAge_22 : decode cX3_readAge 22 = .ok (.aload_n 0, 1) := by decide +kernel
theorem dX3_readAge_23 : decode cX3_readAge 23 = .ok (.getfield 34, 3) := by decide +kernel
theorem dX3_readAge_26 : decode cX3_readAge 26 = .ok (.istore_n 1, 1) := by decide +kernel
theorem dX3_readAge_27 : decode cX3_readAge 27 = .ok (.aload_n 0, 1) := by decide +kernel
theorem dX3_readAge_28 : decode cX3_readAge 28 = .ok (.iconst 0, 1) := by decide +kernel
theorem dX3_readAge_29 : decode cX3_readAge 29 = .ok (.sipush 9999, 3) := by decide +kernel
theorem dX3_readAge_32 : decode cX3_readAge 32 = .ok (.invokevirtual 99, 3) := by decide +kernel
theorem dX3_readAge_35 : decode cX3_readAge 35 = .ok (.istore_n 2, 1) := by decide +kernel
theorem dX3_readAge_36 : decode cX3_readAge 36 = .ok (.aload_n 0, 1) := by decide +kernel
theorem dX3_readAge_37 : decode cX3_readAge 37 = .ok (.getfield 15, 3) := by decide +kernel
theorem dX3_readAge_40 : decode cX3_readAge 40 = .ok (.iload_n 2, 1) := by decide +kernel
theorem dX3_readAge_41 : decode cX3_readAge 41 = .ok (.invokevirtual 163, 3) := by decide +kernel
theorem dX3_readAge_44 : decode cX3_readAge 44 = .ok (.ifCond .eq 9, 3) := by decide +kernel
theorem dX3_readAge_47 : decode cX3_readAge 47 = .ok (.aload_n 0, 1) := by decide +kernel
theorem dX3_readAge_48 : decode cX3_readAge 48 = .ok (.iload_n 1, 1) := by decide +kernel
theorem dX3_readAge_49 : decode cX3_readAge 49 = .ok (.iconst 2, 1) := by decide +kernel
theorem dX3_readAge_50 : decode cX3_readAge 50 = .ok (.invokevirtual 54, 3) := by decide +kernel
theorem dX3_readAge_53 : decode cX3_readAge 53 = .ok (.iload_n 2, 1) := by decide +kernel
theorem dX3_readAge_54 : decode cX3_readAge 54 = .ok (.ireturn, 1) := by decide +kernel
theorem dX3_readWet_0 : decode cX3_readWet 0 = .ok (.aload_n 0, 1) := by decide +kernel
theorem dX3_readWet_1 : decode cX3_readWet 1 = .ok (.getfield 40, 3) := by decide +kernel
theorem dX3_readWet_4 : decode cX3_readWet 4 = .ok (.ifCond .eq 10, 3) := by decide +kernel
theorem dX3_readWet_7 : decode cX3_readWet 7 = .ok (.aload_n 0, 1) := by decide +kernel
theorem dX3_readWet_8 : decode cX3_readWet 8 = .ok (.iload_n 1, 1) := by decide +kernel
theorem dX3_readWet_9 : decode cX3_readWet 9 = .ok (.iconst 3, 1) := by decide +kernel
theorem dX3_readWet_10 : decode cX3_readWet 10 = .ok (.invokevirtual 54, 3) := by decide +kernel
theorem dX3_readWet_13 : decode cX3_readWet 13 = .ok (.return_, 1) := by decide +kernel
theorem dX3_readWet_14 : decode cX3_readWet 14 = .ok (.aload_n 0, 1) := by decide +kernel
theorem dX3_readWet_15 : decode cX3_readWet 15 = .ok (.iconst 1, 1) := by decide +kernel
theorem dX3_readWet_16 : decode cX3_readWet 16 = .ok (.putfield 40, 3) := by decide +kernel
theorem dX3_readWet_19 : decode cX3_readWet 19 = .ok (.aload_n 0, 1) := by decide +kernel
theorem dX3_readWet_20 : decode cX3_readWet 20 = .ok (.getfield 15, 3) := by decide +kernel
theorem dX3_readWet_23 : decode cX3_readWet 23 = .ok (.aload_n 0, 1) := by decide +kernel
theorem dX3_readWet_24 : decode cX3_readWet 24 = .ok (.iconst 0, 1) := by decide +kernel
theorem dX3_readWet_25 : decode cX3_readWet 25 = .ok (.sipush 400, 3) := by decide +kernel
theorem dX3_readWet_28 : decode cX3_readWet 28 = .ok (.invokevirtual 99, 3) := by decide +kernel
theorem dX3_readWet_31 : decode cX3_readWet 31 = .ok (.putfield 159, 3) := by decide +kernel
theorem dX3_readWet_34 : decode cX3_readWet 34 = .ok (.return_, 1) := by decide +kernel
theorem dX3_readReach_0 : decode cX3_readReach 0 = .ok (.aload_n 0, 1) := by decide +kernel
theorem dX3_readReach_1 : decode cX3_readReach 1 = .ok (.getfield 15, 3) := by decide +kernel
theorem dX3_readReach_4 : decode cX3_readReach 4 = .ok (.getfield 83, 3) := by decide +kernel
theorem dX3_readReach_7 : decode cX3_readReach 7 = .ok (.istore_n 2, 1) := by decide +kernel
theorem dX3_readReach_8 : decode cX3_readReach 8 = .ok (.iload_n 2, 1) := by decide +kernel
theorem dX3_readReach_9 : decode cX3_readReach 9 = .ok (.bipush 12, 2) := by decide +kernel
theorem dX3_readReach_11 : decode cX3_readReach 11 = .ok (.if_icmp .lt 10, 3) := by decide +kernel
theorem dX3_readReach_14 : decode cX3_readReach 14 = .ok (.aload_n 0, 1) := by decide +kernel
theorem dX3_readReach_15 : decode cX3_readReach 15 = .ok (.iload_n 1, 1) := by decide +kernel
theorem dX3_readReach_16 : decode cX3_readReach 16 = .ok (.iconst 3, 1) := by decide +kernel
theorem dX3_readReach_17 : decode cX3_readReach 17 = .ok (.invokevirtual 54, 3) := by decide +kernel
theorem dX3_readReach_20 : decode cX3_readReach 20 = .ok (.return_, 1) := by decide +kernel
theorem dX3_readReach_21 : decode cX3_readReach 21 = .ok (.aload_n 0, 1) := by decide +kernel
theorem dX3_readReach_22 : decode cX3_readReach 22 = .ok (.getfield 15, 3) := by decide +kernel
theorem dX3_readReach_25 : decode cX3_readReach 25 = .ok (.getfield 86, 3) := by decide +kernel
theorem dX3_readReach_28 : decode cX3_readReach 28 = .ok (.iload_n 2, 1) := by decide +kernel
theorem dX3_readReach_29 : decode cX3_readReach 29 = .ok (.aload_n 0, 1) := by decide +kernel
theorem dX3_readReach_30 : decode cX3_readReach 30 = .ok (.ldc 90, 2) := by decide +kernel
theorem dX3_readReach_32 : decode cX3_readReach 32 = .ok (.invokevirtual 60, 3) := by decide +kernel
theorem dX3_readReach_35 : decode cX3_readReach 35 = .ok (.ifCond .eq 8, 3) := by decide +kernel
theorem dX3_readReach_38 : decode cX3_readReach 38 = .ok (.bipush (-2), 2) := by decide +kernel
theorem dX3_readReach_40 : decode cX3_readReach 40 = .ok (.goto 7, 3) := by decide +kernel
theorem dX3_readReach_43 : decode cX3_readReach 43 = .ok (.aload_n 0, 1) := by decide +kernel
theorem dX3_readReach_44 : decode cX3_readReach 44 = .ok (.invokevirtual 92, 3) := by decide +kernel
theorem dX3_readReach_47 : decode cX3_readReach 47 = .ok (.iastore, 1) := by decide +kernel
theorem dX3_readReach_48 : decode cX3_readReach 48 = .ok (.iconst 0, 1) := by decide +kernel
theorem dX3_readReach_49 : decode cX3_readReach 49 = .ok (.istore_n 3, 1) := by decide +kernel
theorem dX3_readReach_50 : decode cX3_readReach 50 = .ok (.iload_n 3, 1) := by decide +kernel
theorem dX3_readReach_51 : decode cX3_readReach 51 = .ok (.iconst 4, 1) := by decide +kernel
theorem dX3_readReach_52 : decode cX3_readReach 52 = .ok (.if_icmp .ge 30, 3) := by decide +kernel
theorem dX3_readReach_55 : decode cX3_readReach 55 = .ok (.aload_n 0, 1) := by decide +kernel
theorem dX3_readReach_56 : decode cX3_readReach 56 = .ok (.getfield 15, 3) := by decide +kernel
theorem dX3_readReach_59 : decode cX3_readReach 59 = .ok (.getfield 96, 3) := by decide +kernel
theorem dX3_readReach_62 : decode cX3_readReach 62 = .ok (.iload_n 2, 1) := by decide +kernel
theorem dX3_readReach_63 : decode cX3_readReach 63 = .ok (.iconst 4, 1) := by decide +kernel
theorem dX3_readReach_64 : decode cX3_readReach 64 = .ok (.imul, 1) := by decide +kernel
theorem dX3_readReach_65 : decode cX3_readReach 65 = .ok (.iload_n 3, 1) := by decide +kernel
theorem dX3_readReach_66 : decode cX3_readReach 66 = .ok (.iadd, 1) := by decide +kernel
theorem dX3_readReach_67 : decode cX3_readReach 67 = .ok (.aload_n 0, 1) := by decide +kernel
theorem dX3_readReach_68 : decode cX3_readReach 68 = .ok (.iconst 0, 1) := by decide +kernel
theorem dX3_readReach_69 : decode cX3_readReach 69 = .ok (.sipush 9999, 3) := by decide +kernel
theorem dX3_readReach_72 : decode cX3_readReach 72 = .ok (.invokevirtual 99, 3) := by decide +kernel
theorem dX3_readReach_75 : decode cX3_readReach 75 = .ok (.iastore, 1) := by decide +kernel
theorem dX3_readReach_76 : decode cX3_readReach 76 = .ok (.iinc 3 1, 3) := by decide +kernel
theorem dX3_readReach_79 : decode cX3_readReach 79 = .ok (.goto (-29), 3) := by decide +kernel
theorem dX3_readReach_82 : decode cX3_readReach 82 = .ok (.aload_n 0, 1) := by decide +kernel
theorem dX3_readReach_83 : decode cX3_readReach 83 = .ok (.getfield 15, 3) := by decide +kernel
theorem dX3_readReach_86 : decode cX3_readReach 86 = .ok (.getfield 102, 3) := by decide +kernel
theorem dX3_readReach_89 : decode cX3_readReach 89 = .ok (.iload_n 2, 1) := by decide +kernel
theorem dX3_readReach_90 : decode cX3_readReach 90 = .ok (.aload_n 0, 1) := by decide +kernel
theorem dX3_readReach_91 : decode cX3_readReach 91 = .ok (.ldc 105, 2) := by decide +kernel
theorem dX3_readReach_93 : decode cX3_readReach 93 = .ok (.invokevirtual 60, 3) := by decide +kernel
theorem dX3_readReach_96 : decode cX3_readReach 96 = .ok (.ifCond .eq 14, 3) := by decide +kernel
theorem dX3_readReach_99 : decode cX3_readReach 99 = .ok (.aload_n 0, 1) := by decide +kernel
theorem dX3_readReach_100 : decode cX3_readReach 100 = .ok (.iconst 0, 1) := by decide +kernel
theorem dX3_readReach_101 : decode cX3_readReach 101 = .ok (.sipush 9999, 3) := by decide +kernel
theorem dX3_readReach_104 : decode cX3_readReach 104 = .ok (.invokevirtual 99, 3) := by decide +kernel
theorem dX3_readReach_107 : decode cX3_readReach 107 = .ok (.goto 4, 3) := by decide +kernel
theorem dX3_readReach_110 : decode cX3_readReach 110 = .ok (.iconst 0, 1) := by decide +kernel
theorem dX3_readReach_111 : decode cX3_readReach 111 = .ok (.iastore, 1) := by decide +kernel
theorem dX3_readReach_112 : decode cX3_readReach 112 = .ok (.aload_n 0, 1) := by decide +kernel
theorem dX3_readReach_113 : decode cX3_readReach 113 = .ok (.getfield 15, 3) := by decide +kernel
theorem dX3_readReach_116 : decode cX3_readReach 116 = .ok (.dup, 1) := by decide +kernel
theorem dX3_readReach_117 : decode cX3_readReach 117 = .ok (.getfield 83, 3) := by decide +kernel
theorem dX3_readReach_120 : decode cX3_readReach 120 = .ok (.iconst 1, 1) := by decide +kernel
theorem dX3_readReach_121 : decode cX3_readReach 121 = .ok (.iadd, 1) := by decide +kernel
theorem dX3_readReach_122 : decode cX3_readReach 122 = .ok (.putfield 83, 3) := by decide +kernel
theorem dX3_readReach_125 : decode cX3_readReach 125 = .ok (.return_, 1) := by decide +kernel
theorem dX3_readRight_0 : decode cX3_readRight 0 = .ok (.aload_n 0, 1) := by decide +kernel
theorem dX3_readRight_1 : decode cX3_readRight 1 = .ok (.getfield 15, 3) := by decide +kernel
theorem dX3_readRight_4 : decode cX3_readRight 4 = .ok (.getfield 106, 3) := by decide +kernel
theorem dX3_readRight_7 : decode cX3_readRight 7 = .ok (.istore_n 2, 1) := by decide +kernel
theorem dX3_readRight_8 : decode cX3_readRight 8 = .ok (.iload_n 2, 1) := by decide +kernel
theorem dX3_readRight_9 : decode cX3_readRight 9 = .ok (.bipush 14, 2) := by decide +kernel
theorem dX3_readRight_11 : decode cX3_readRight 11 = .ok (.if_icmp .lt 10, 3) := by decide +kernel
theorem dX3_readRight_14 : decode cX3_readRight 14 = .ok (.aload_n 0, 1) := by decide +kernel
theorem dX3_readRight_15 : decode cX3_readRight 15 = .ok (.iload_n 1, 1) := by decide +kernel
theorem dX3_readRight_16 : decode cX3_readRight 16 = .ok (.iconst 3, 1) := by decide +kernel
theorem dX3_readRight_17 : decode cX3_readRight 17 = .ok (.invokevirtual 54, 3) := by decide +kernel
theorem dX3_readRight_20 : decode cX3_readRight 20 = .ok (.return_, 1) := by decide +kernel
theorem dX3_readRight_21 : decode cX3_readRight 21 = .ok (.aload_n 0, 1) := by decide +kernel
theorem dX3_readRight_22 : decode cX3_readRight 22 = .ok (.getfield 15, 3) := by decide +kernel
theorem dX3_readRight_25 : decode cX3_readRight 25 = .ok (.getfield 109, 3) := by decide +kernel
theorem dX3_readRight_28 : decode cX3_readRight 28 = .ok (.iload_n 2, 1) := by decide +kernel
theorem dX3_readRight_29 : decode cX3_readRight 29 = .ok (.aload_n 0, 1) := by decide +kernel
theorem dX3_readRight_30 : decode cX3_readRight 30 = .ok (.invokevirtual 92, 3) := by decide +kernel
theorem dX3_readRight_33 : decode cX3_readRight 33 = .ok (.iastore, 1) := by decide +kernel
theorem dX3_readRight_34 : decode cX3_readRight 34 = .ok (.aload_n 0, 1) := by decide +kernel
theorem dX3_readRight_35 : decode cX3_readRight 35 = .ok (.getfield 15, 3) := by decide +kernel
theorem dX3_readRight_38 : decode cX3_readRight 38 = .ok (.getfield 112, 3) := by decide +kernel
theorem dX3_readRight_41 : decode cX3_readRight 41 = .ok (.iload_n 2, 1) := by decide +kernel
theorem dX3_readRight_42 : decode cX3_readRight 42 = .ok (.aload_n 0, 1) := by decide +kernel
theorem dX3_readRight_43 : decode cX3_readRight 43 = .ok (.iconst 1, 1) := by decide +kernel
theorem dX3_readRight_44 : decode cX3_readRight 44 = .ok (.sipush 9999, 3) := by decide +kernel
theorem dX3_readRight_47 : decode cX3_readRight 47 = .ok (.invokevirtual 99, 3) := by decide +kernel
theorem dX3_readRight_50 : decode cX3_readRight 50 = .ok (.iastore, 1) := by decide +kernel
theorem dX3_readRight_51 : decode cX3_readRight 51 = .ok (.aload_n 0, 1) := by decide +kernel
theorem dX3_readRight_52 : decode cX3_readRight 52 = .ok (.getfield 15, 3) := by decide +kernel
theorem dX3_readRight_55 : decode cX3_readRight 55 = .ok (.getfield 115, 3) := by decide +kernel
theorem dX3_readRight_58 : decode cX3_readRight 58 = .ok (.iload_n 2, 1) := by decide +kernel
theorem dX3_readRight_59 : decode cX3_readRight 59 = .ok (.aload_n 0, 1) := by decide +kernel
theorem dX3_readRight_60 : decode cX3_readRight 60 = .ok (.iconst 0, 1) := by decide +kernel
theorem dX3_readRight_61 : decode cX3_readRight 61 = .ok (.sipush 359, 3) := by decide +kernel
theorem dX3_readRight_64 : decode cX3_readRight 64 = .ok (.invokevirtual 99, 3) := by decide +kernel
theorem dX3_readRight_67 : decode cX3_readRight 67 = .ok (.iastore, 1) := by decide +kernel
theorem dX3_readRight_68 : decode cX3_readRight 68 = .ok (.aload_n 0, 1) := by decide +kernel
theorem dX3_readRight_69 : decode cX3_readRight 69 = .ok (.getfield 15, 3) := by decide +kernel
theorem dX3_readRight_72 : decode cX3_readRight 72 = .ok (.getfield 118, 3) := by decide +kernel
theorem dX3_readRight_75 : decode cX3_readRight 75 = .ok (.iload_n 2, 1) := by decide +kernel
theorem dX3_readRight_76 : decode cX3_readRight 76 = .ok (.aload_n 0, 1) := by decide +kernel
theorem dX3_readRight_77 : decode cX3_readRight 77 = .ok (.aload_n 0, 1) := by decide +kernel
theorem dX3_readRight_78 : decode cX3_readRight 78 = .ok (.getfield 15, 3) := by decide +kernel
theorem dX3_readRight_81 : decode cX3_readRight 81 = .ok (.getfield 115, 3) := by decide +kernel
theorem dX3_readRight_84 : decode cX3_readRight 84 = .ok (.iload_n 2, 1) := by decide +kernel
theorem dX3_readRight_85 : decode cX3_readRight 85 = .ok (.iaload, 1) := by decide +kernel
theorem dX3_readRight_86 : decode cX3_readRight 86 = .ok (.sipush 359, 3) := by decide +kernel
theorem dX3_readRight_89 : decode cX3_readRight 89 = .ok (.invokevirtual 99, 3) := by decide +kernel
theorem dX3_readRight_92 : decode cX3_readRight 92 = .ok (.iastore, 1) := by decide +kernel
theorem dX3_readRight_93 : decode cX3_readRight 93 = .ok (.aload_n 0, 1) := by decide +kernel
theorem dX3_readRight_94 : decode cX3_readRight 94 = .ok (.getfield 15, 3) := by decide +kernel
theorem dX3_readRight_97 : decode cX3_readRight 97 = .ok (.getfield 121, 3) := by decide +kernel
theorem dX3_readRight_100 : decode cX3_readRight 100 = .ok (.iload_n 2, 1) := by decide +kernel
theorem dX3_readRight_101 : decode cX3_readRight 101 = .ok (.aload_n 0, 1) := by decide +kernel
theorem dX3_readRight_102 : decode cX3_readRight 102 = .ok (.invokevirtual 124, 3) := by decide +kernel
theorem dX3_readRight_105 : decode cX3_readRight 105 = .ok (.iastore, 1) := by decide +kernel
theorem dX3_readRight_106 : decode cX3_readRight 106 = .ok (.aload_n 0, 1) := by decide +kernel
theorem dX3_readRight_107 : decode cX3_readRight 107 = .ok (.getfield 15, 3) := by decide +kernel
theorem dX3_readRight_110 : decode cX3_readRight 110 = .ok (.getfield 127, 3) := by decide +kernel
theorem dX3_readRight_113 : decode cX3_readRight 113 = .ok (.iload_n 2, 1) := by decide +kernel
theorem dX3_readRight_114 : decode cX3_readRight 114 = .ok (.aload_n 0, 1) := by decide +kernel
theorem dX3_readRight_115 : decode cX3_readRight 115 = .ok (.ldc 130, 2) := by decide +kernel
theorem dX3_readRight_117 : decode cX3_readRight 117 = .ok (.invokevirtual 60, 3) := by decide +kernel
theorem dX3_readRight_120 : decode cX3_readRight 120 = .ok (.ifCond .eq 13, 3) := by decide +kernel
theorem dX3_readRight_123 : decode cX3_readRight 123 = .ok (.aload_n 0, 1) := by decide +kernel
theorem dX3_readRight_124 : decode cX3_readRight 124 = .ok (.iconst 1, 1) := by decide +kernel
theorem dX3_readRight_125 : decode cX3_readRight 125 = .ok (.ldc 132, 2) := by decide +kernel
theorem dX3_readRight_127 : decode cX3_readRight 127 = .ok (.invokevirtual 99, 3) := by decide +kernel
theorem dX3_readRight_130 : decode cX3_readRight 130 = .ok (.goto 4, 3) := by decide +kernel
theorem dX3_readRight_133 : decode cX3_readRight 133 = .ok (.iconst 0, 1) := by decide +kernel
theorem dX3_readRight_134 : decode cX3_readRight 134 = .ok (.iastore, 1) := by decide +kernel
theorem dX3_readRight_135 : decode cX3_readRight 135 = .ok (.aload_n 0, 1) := by decide +kernel
theorem dX3_readRight_136 : decode cX3_readRight 136 = .ok (.ldc 133, 2) := by decide +kernel
theorem dX3_readRight_138 : decode cX3_readRight 138 = .ok (.invokevirtual 60, 3) := by decide +kernel
theorem dX3_readRight_141 : decode cX3_readRight 141 = .ok (.istore_n 3, 1) := by decide +kernel
theorem dX3_readRight_142 : decode cX3_readRight 142 = .ok (.aload_n 0, 1) := by decide +kernel
theorem dX3_readRight_143 : decode cX3_readRight 143 = .ok (.getfield 15, 3) := by decide +kernel
theorem dX3_readRight_146 : decode cX3_readRight 146 = .ok (.getfield 135, 3) := by decide +kernel
theorem dX3_readRight_149 : decode cX3_readRight 149 = .ok (.iload_n 2, 1) := by decide +kernel
theorem dX3_readRight_150 : decode cX3_readRight 150 = .ok (.iload_n 3, 1) := by decide +kernel
theorem dX3_readRight_151 : decode cX3_readRight 151 = .ok (.ifCond .eq 10, 3) := by decide +kernel
theorem dX3_readRight_154 : decode cX3_readRight 154 = .ok (.aload_n 0, 1) := by decide +kernel
theorem dX3_readRight_155 : decode cX3_readRight 155 = .ok (.invokevirtual 92, 3) := by decide +kernel
theorem dX3_readRight_158 : decode cX3_readRight 158 = .ok (.goto 5, 3) := by decide +kernel
theorem dX3_readRight_161 : decode cX3_readRight 161 = .ok (.bipush (-2), 2) := by decide +kernel
theorem dX3_readRight_163 : decode cX3_readRight 163 = .ok (.iastore, 1) := by decide +kernel
theorem dX3_readRight_164 : decode cX3_readRight 164 = .ok (.aload_n 0, 1) := by decide +kernel
theorem dX3_readRight_165 : decode cX3_readRight 165 = .ok (.getfield 15, 3) := by decide +kernel
theorem dX3_readRight_168 : decode cX3_readRight 168 = .ok (.getfield 138, 3) := by decide +kernel
theorem dX3_readRight_171 : decode cX3_readRight 171 = .ok (.iload_n 2, 1) := by decide +kernel
theorem dX3_readRight_172 : decode cX3_readRight 172 = .ok (.iload_n 3, 1) := by decide +kernel
theorem dX3_readRight_173 : decode cX3_readRight 173 = .ok (.ifCond .eq 13, 3) := by decide +kernel
theorem dX3_readRight_176 : decode cX3_readRight 176 = .ok (.aload_n 0, 1) := by decide +kernel
theorem dX3_readRight_177 : decode cX3_readRight 177 = .ok (.iconst 0, 1) := by decide +kernel
theorem dX3_readRight_178 : decode cX3_readRight 178 = .ok (.bipush 100, 2) := by decide +kernel
theorem dX3_readRight_180 : decode cX3_readRight 180 = .ok (.invokevirtual 99, 3) := by decide +kernel
theorem dX3_readRight_183 : decode cX3_readRight 183 = .ok (.goto 4, 3) := by decide +kernel
theorem dX3_readRight_186 : decode cX3_readRight 186 = .ok (.iconst 0, 1) := by decide +kernel
theorem dX3_readRight_187 : decode cX3_readRight 187 = .ok (.iastore, 1) := by decide +kernel
theorem dX3_readRight_188 : decode cX3_readRight 188 = .ok (.aload_n 0, 1) := by decide +kernel
theorem dX3_readRight_189 : decode cX3_readRight 189 = .ok (.getfield 15, 3) := by decide +kernel
theorem dX3_readRight_192 : decode cX3_readRight 192 = .ok (.getfield 141, 3) := by decide +kernel
theorem dX3_readRight_195 : decode cX3_readRight 195 = .ok (.iload_n 2, 1) := by decide +kernel
theorem dX3_readRight_196 : decode cX3_readRight 196 = .ok (.iload_n 3, 1) := by decide +kernel
theorem dX3_readRight_197 : decode cX3_readRight 197 = .ok (.ifCond .eq 13, 3) := by decide +kernel
theorem dX3_readRight_200 : decode cX3_readRight 200 = .ok (.aload_n 0, 1) := by decide +kernel
theorem dX3_readRight_201 : decode cX3_readRight 201 = .ok (.iconst 1, 1) := by decide +kernel
theorem dX3_readRight_202 : decode cX3_readRight 202 = .ok (.bipush 30, 2) := by decide +kernel
theorem dX3_readRight_204 : decode cX3_readRight 204 = .ok (.invokevirtual 99, 3) := by decide +kernel
theorem dX3_readRight_207 : decode cX3_readRight 207 = .ok (.goto 4, 3) := by decide +kernel
theorem dX3_readRight_210 : decode cX3_readRight 210 = .ok (.iconst 0, 1) := by decide +kernel
theorem dX3_readRight_211 : decode cX3_readRight 211 = .ok (.iastore, 1) := by decide +kernel
theorem dX3_readRight_212 : decode cX3_readRight 212 = .ok (.aload_n 0, 1) := by decide +kernel
theorem dX3_readRight_213 : decode cX3_readRight 213 = .ok (.getfield 15, 3) := by decide +kernel
theorem dX3_readRight_216 : decode cX3_readRight 216 = .ok (.dup, 1) := by decide +kernel
theorem dX3_readRight_217 : decode cX3_readRight 217 = .ok (.getfield 106, 3) := by decide +kernel
theorem dX3_readRight_220 : decode cX3_readRight 220 = .ok (.iconst 1, 1) := by decide +kernel
theorem dX3_readRight_221 : decode cX3_readRight 221 = .ok (.iadd, 1) := by decide +kernel
theorem dX3_readRight_222 : decode cX3_readRight 222 = .ok (.putfield 106, 3) := by decide +kernel
theorem dX3_readRight_225 : decode cX3_readRight 225 = .ok (.return_, 1) := by decide +kernel
theorem dX3_readStore_0 : decode cX3_readStore 0 = .ok (.aload_n 0, 1) := by decide +kernel
theorem dX3_readStore_1 : decode cX3_readStore 1 = .ok (.getfield 15, 3) := by decide +kernel
theorem dX3_readStore_4 : decode cX3_readStore 4 = .ok (.getfield 144, 3) := by decide +kernel
theorem dX3_readStore_7 : decode cX3_readStore 7 = .ok (.istore_n 2, 1) := by decide +kernel
theorem dX3_readStore_8 : decode cX3_readStore 8 = .ok (.iload_n 2, 1) := by decide +kernel
theorem dX3_readStore_9 : decode cX3_readStore 9 = .ok (.iconst 4, 1) := by decide +kernel
theorem dX3_readStore_10 : decode cX3_readStore 10 = .ok (.if_icmp .lt 10, 3) := by decide +kernel
theorem dX3_readStore_13 : decode cX3_readStore 13 = .ok (.aload_n 0, 1) := by decide +kernel
theorem dX3_readStore_14 : decode cX3_readStore 14 = .ok (.iload_n 1, 1) := by decide +kernel
theorem dX3_readStore_15 : decode cX3_readStore 15 = .ok (.iconst 3, 1) := by decide +kernel
theorem dX3_readStore_16 : decode cX3_readStore 16 = .ok (.invokevirtual 54, 3) := by decide +kernel
theorem dX3_readStore_19 : decode cX3_readStore 19 = .ok (.return_, 1) := by decide +kernel
theorem dX3_readStore_20 : decode cX3_readStore 20 = .ok (.aload_n 0, 1) := by decide +kernel
theorem dX3_readStore_21 : decode cX3_readStore 21 = .ok (.getfield 15, 3) := by decide +kernel
theorem dX3_readStore_24 : decode cX3_readStore 24 = .ok (.getfield 147, 3) := by decide +kernel
theorem dX3_readStore_27 : decode cX3_readStore 27 = .ok (.iload_n 2, 1) := by decide +kernel
theorem dX3_readStore_28 : decode cX3_readStore 28 = .ok (.aload_n 0, 1) := by decide +kernel
theorem dX3_readStore_29 : decode cX3_readStore 29 = .ok (.invokevirtual 92, 3) := by decide +kernel
theorem dX3_readStore_32 : decode cX3_readStore 32 = .ok (.iastore, 1) := by decide +kernel
theorem dX3_readStore_33 : decode cX3_readStore 33 = .ok (.aload_n 0, 1) := by decide +kernel
theorem dX3_readStore_34 : decode cX3_readStore 34 = .ok (.getfield 15, 3) := by decide +kernel
theorem dX3_readStore_37 : decode cX3_readStore 37 = .ok (.getfield 150, 3) := by decide +kernel
theorem dX3_readStore_40 : decode cX3_readStore 40 = .ok (.iload_n 2, 1) := by decide +kernel
theorem dX3_readStore_41 : decode cX3_readStore 41 = .ok (.aload_n 0, 1) := by decide +kernel
theorem dX3_readStore_42 : decode cX3_readStore 42 = .ok (.iconst 1, 1) := by decide +kernel
theorem dX3_readStore_43 : decode cX3_readStore 43 = .ok (.ldc 132, 2) := by decide +kernel
theorem dX3_readStore_45 : decode cX3_readStore 45 = .ok (.invokevirtual 99, 3) := by decide +kernel
theorem dX3_readStore_48 : decode cX3_readStore 48 = .ok (.iastore, 1) := by decide +kernel
theorem dX3_readStore_49 : decode cX3_readStore 49 = .ok (.aload_n 0, 1) := by decide +kernel
theorem dX3_readStore_50 : decode cX3_readStore 50 = .ok (.getfield 15, 3) := by decide +kernel
theorem dX3_readStore_53 : decode cX3_readStore 53 = .ok (.getfield 153, 3) := by decide +kernel
theorem dX3_readStore_56 : decode cX3_readStore 56 = .ok (.iload_n 2, 1) := by decide +kernel
theorem dX3_readStore_57 : decode cX3_readStore 57 = .ok (.aload_n 0, 1) := by decide +kernel
theorem dX3_readStore_58 : decode cX3_readStore 58 = .ok (.iconst 1, 1) := by decide +kernel
theorem dX3_readStore_59 : decode cX3_readStore 59 = .ok (.sipush 9999, 3) := by decide +kernel
theorem dX3_readStore_62 : decode cX3_readStore 62 = .ok (.invokevirtual 99, 3) := by decide +kernel
theorem dX3_readStore_65 : decode cX3_readStore 65 = .ok (.iastore, 1) := by decide +kernel
theorem dX3_readStore_66 : decode cX3_readStore 66 = .ok (.aload_n 0, 1) := by decide +kernel
theorem dX3_readStore_67 : decode cX3_readStore 67 = .ok (.getfield 15, 3) := by decide +kernel
theorem dX3_readStore_70 : decode cX3_readStore 70 = .ok (.getfield 156, 3) := by decide +kernel
theorem dX3_readStore_73 : decode cX3_readStore 73 = .ok (.iload_n 2, 1) := by decide +kernel
theorem dX3_readStore_74 : decode cX3_readStore 74 = .ok (.aload_n 0, 1) := by decide +kernel
theorem dX3_readStore_75 : decode cX3_readStore 75 = .ok (.invokevirtual 124, 3) := by decide +kernel
theorem dX3_readStore_78 : decode cX3_readStore 78 = .ok (.iastore, 1) := by decide +kernel
theorem dX3_readStore_79 : decode cX3_readStore 79 = .ok (.aload_n 0, 1) := by decide +kernel
theorem dX3_readStore_80 : decode cX3_readStore 80 = .ok (.getfield 15, 3) := by decide +kernel
theorem dX3_readStore_83 : decode cX3_readStore 83 = .ok (.dup, 1) := by decide +kernel
theorem dX3_readStore_84 : decode cX3_readStore 84 = .ok (.getfield 144, 3) := by decide +kernel
theorem dX3_readStore_87 : decode cX3_readStore 87 = .ok (.iconst 1, 1) := by decide +kernel
theorem dX3_readStore_88 : decode cX3_readStore 88 = .ok (.iadd, 1) := by decide +kernel
theorem dX3_readStore_89 : decode cX3_readStore 89 = .ok (.putfield 144, 3) := by decide +kernel
theorem dX3_readStore_92 : decode cX3_readStore 92 = .ok (.return_, 1) := by decide +kernel
theorem dX3_readPart_0 : decode cX3_readPart 0 = .ok (.aload_n 0, 1) := by decide +kernel
theorem dX3_readPart_1 : decode cX3_readPart 1 = .ok (.invokevirtual 44, 3) := by decide +kernel
theorem dX3_readPart_4 : decode cX3_readPart 4 = .ok (.aload_n 0, 1) := by decide +kernel
theorem dX3_readPart_5 : decode cX3_readPart 5 = .ok (.getfield 34, 3) := by decide +kernel
theorem dX3_readPart_8 : decode cX3_readPart 8 = .ok (.istore_n 1, 1) := by decide +kernel
theorem dX3_readPart_9 : decode cX3_readPart 9 = .ok (.aload_n 0, 1) := by decide +kernel
theorem dX3_readPart_10 : decode cX3_readPart 10 = .ok (.ldc 58, 2) := by decide +kernel
theorem dX3_readPart_12 : decode cX3_readPart 12 = .ok (.invokevirtual 60, 3) := by decide +kernel
theorem dX3_readPart_15 : decode cX3_readPart 15 = .ok (.ifCond .eq 11, 3) := by decide +kernel
theorem dX3_readPart_18 : decode cX3_readPart 18 = .ok (.aload_n 0, 1) := by decide +kernel
theorem dX3_readPart_19 : decode cX3_readPart 19 = .ok (.iload_n 1, 1) := by decide +kernel
theorem dX3_readPart_20 : decode cX3_readPart 20 = .ok (.invokevirtual 64, 3) := by decide +kernel
theorem dX3_readPart_23 : decode cX3_readPart 23 = .ok (.goto 60, 3) := by decide +kernel
theorem dX3_readPart_26 : decode cX3_readPart 26 = .ok (.aload_n 0, 1) := by decide +kernel
theorem dX3_readPart_27 : decode cX3_readPart 27 = .ok (.ldc 68, 2) := by decide +kernel
theorem dX3_readPart_29 : decode cX3_readPart 29 = .ok (.invokevirtual 60, 3) := by decide +kernel
theorem dX3_readPart_32 : decode cX3_readPart 32 = .ok (.ifCond .eq 11, 3) := by decide +kernel
theorem dX3_readPart_35 : decode cX3_readPart 35 = .ok (.aload_n 0, 1) := by decide +kernel
theorem dX3_readPart_36 : decode cX3_readPart 36 = .ok (.iload_n 1, 1) := by decide +kernel
theorem dX3_readPart_37 : decode cX3_readPart 37 = .ok (.invokevirtual 70, 3) := by decide +kernel
theorem dX3_readPart_40 : decode cX3_readPart 40 = .ok (.goto 43, 3) := by decide +kernel
theorem dX3_readPart_43 : decode cX3_readPart 43 = .ok (.aload_n 0, 1) := by decide +kernel
theorem dX3_readPart_44 : decode cX3_readPart 44 = .ok (.ldc 73, 2) := by decide +kernel
theorem dX3_readPart_46 : decode cX3_readPart 46 = .ok (.invokevirtual 60, 3) := by decide +kernel
theorem dX3_readPart_49 : decode cX3_readPart 49 = .ok (.ifCond .eq 11, 3) := by decide +kernel
theorem dX3_readPart_52 : decode cX3_readPart 52 = .ok (.aload_n 0, 1) := by decide +kernel
theorem dX3_readPart_53 : decode cX3_readPart 53 = .ok (.iload_n 1, 1) := by decide +kernel
theorem dX3_readPart_54 : decode cX3_readPart 54 = .ok (.invokevirtual 75, 3) := by decide +kernel
theorem dX3_readPart_57 : decode cX3_readPart 57 = .ok (.goto 26, 3) := by decide +kernel
theorem dX3_readPart_60 : decode cX3_readPart 60 = .ok (.aload_n 0, 1) := by decide +kernel
theorem dX3_readPart_61 : decode cX3_readPart 61 = .ok (.ldc 78, 2) := by decide +kernel
theorem dX3_readPart_63 : decode cX3_readPart 63 = .ok (.invokevirtual 60, 3) := by decide +kernel
theorem dX3_readPart_66 : decode cX3_readPart 66 = .ok (.ifCond .eq 11, 3) := by decide +kernel
theorem dX3_readPart_69 : decode cX3_readPart 69 = .ok (.aload_n 0, 1) := by decide +kernel
theorem dX3_readPart_70 : decode cX3_readPart 70 = .ok (.iload_n 1, 1) := by decide +kernel
theorem dX3_readPart_71 : decode cX3_readPart 71 = .ok (.invokevirtual 80, 3) := by decide +kernel
theorem dX3_readPart_74 : decode cX3_readPart 74 = .ok (.goto 9, 3) := by decide +kernel
theorem dX3_readPart_77 : decode cX3_readPart 77 = .ok (.aload_n 0, 1) := by decide +kernel
theorem dX3_readPart_78 : decode cX3_readPart 78 = .ok (.iload_n 1, 1) := by decide +kernel
theorem dX3_readPart_79 : decode cX3_readPart 79 = .ok (.iconst 1, 1) := by decide +kernel
theorem dX3_readPart_80 : decode cX3_readPart 80 = .ok (.invokevirtual 54, 3) := by decide +kernel
theorem dX3_readPart_83 : decode cX3_readPart 83 = .ok (.return_, 1) := by decide +kernel
theorem dX3_readRiver_0 : decode cX3_readRiver 0 = .ok (.aload_n 0, 1) := by decide +kernel
theorem dX3_readRiver_1 : decode cX3_readRiver 1 = .ok (.aload_n 1, 1) := by decide +kernel
theorem dX3_readRiver_2 : decode cX3_readRiver 2 = .ok (.putfield 15, 3) := by decide +kernel
theorem dX3_readRiver_5 : decode cX3_readRiver 5 = .ok (.aload_n 0, 1) := by decide +kernel
theorem dX3_readRiver_6 : decode cX3_readRiver 6 = .ok (.getfield 15, 3) := by decide +kernel
theorem dX3_readRiver_9 : decode cX3_readRiver 9 = .ok (.invokevirtual 19, 3) := by decide +kernel
theorem dX3_readRiver_12 : decode cX3_readRiver 12 = .ok (.aload_n 0, 1) := by decide +kernel
theorem dX3_readRiver_13 : decode cX3_readRiver 13 = .ok (.iload_n 2, 1) := by decide +kernel
theorem dX3_readRiver_14 : decode cX3_readRiver 14 = .ok (.aload_n 0, 1) := by decide +kernel
theorem dX3_readRiver_15 : decode cX3_readRiver 15 = .ok (.getfield 9, 3) := by decide +kernel
theorem dX3_readRiver_18 : decode cX3_readRiver 18 = .ok (.arraylength, 1) := by decide +kernel
theorem dX3_readRiver_19 : decode cX3_readRiver 19 = .ok (.invokestatic 24, 3) := by decide +kernel
theorem dX3_readRiver_22 : decode cX3_readRiver 22 = .ok (.putfield 30, 3) := by decide +kernel
theorem dX3_readRiver_25 : decode cX3_readRiver 25 = .ok (.aload_n 0, 1) := by decide +kernel
theorem dX3_readRiver_26 : decode cX3_readRiver 26 = .ok (.iconst 0, 1) := by decide +kernel
theorem dX3_readRiver_27 : decode cX3_readRiver 27 = .ok (.putfield 34, 3) := by decide +kernel
theorem dX3_readRiver_30 : decode cX3_readRiver 30 = .ok (.aload_n 0, 1) := by decide +kernel
theorem dX3_readRiver_31 : decode cX3_readRiver 31 = .ok (.iconst 0, 1) := by decide +kernel
theorem dX3_readRiver_32 : decode cX3_readRiver 32 = .ok (.putfield 37, 3) := by decide +kernel
theorem dX3_readRiver_35 : decode cX3_readRiver 35 = .ok (.aload_n 0, 1) := by decide +kernel
theorem dX3_readRiver_36 : decode cX3_readRiver 36 = .ok (.iconst 0, 1) := by decide +kernel
theorem dX3_readRiver_37 : decode cX3_readRiver 37 = .ok (.putfield 40, 3) := by decide +kernel
theorem dX3_readRiver_40 : decode cX3_readRiver 40 = .ok (.aload_n 0, 1) := by decide +kernel
theorem dX3_readRiver_41 : decode cX3_readRiver 41 = .ok (.invokevirtual 44, 3) := by decide +kernel
theorem dX3_readRiver_44 : decode cX3_readRiver 44 = .ok (.aload_n 0, 1) := by decide +kernel
theorem dX3_readRiver_45 : decode cX3_readRiver 45 = .ok (.getfield 34, 3) := by decide +kernel
theorem dX3_readRiver_48 : decode cX3_readRiver 48 = .ok (.aload_n 0, 1) := by decide +kernel
theorem dX3_readRiver_49 : decode cX3_readRiver 49 = .ok (.getfield 30, 3) := by decide +kernel
theorem dX3_readRiver_52 : decode cX3_readRiver 52 = .ok (.if_icmp .ge 7, 3) := by decide +kernel
theorem dX3_readRiver_55 : decode cX3_readRiver 55 = .ok (.iconst 1, 1) := by decide +kernel
theorem dX3_readRiver_56 : decode cX3_readRiver 56 = .ok (.goto 4, 3) := by decide +kernel
theorem dX3_readRiver_59 : decode cX3_readRiver 59 = .ok (.iconst 0, 1) := by decide +kernel
theorem dX3_readRiver_60 : decode cX3_readRiver 60 = .ok (.istore_n 3, 1) := by decide +kernel
theorem dX3_readRiver_61 : decode cX3_readRiver 61 = .ok (.iconst 0, 1) := by decide +kernel
theorem dX3_readRiver_62 : decode cX3_readRiver 62 = .ok (.istore 4, 2) := by decide +kernel
theorem dX3_readRiver_64 : decode cX3_readRiver 64 = .ok (.iload 4, 2) := by decide +kernel
theorem dX3_readRiver_66 : decode cX3_readRiver 66 = .ok (.sipush 400, 3) := by decide +kernel
theorem dX3_readRiver_69 : decode cX3_readRiver 69 = .ok (.if_icmp .gt 22, 3) := by decide +kernel
theorem dX3_readRiver_72 : decode cX3_readRiver 72 = .ok (.iload_n 3, 1) := by decide +kernel
theorem dX3_readRiver_73 : decode cX3_readRiver 73 = .ok (.ifCond .eq 18, 3) := by decide +kernel
theorem dX3_readRiver_76 : decode cX3_readRiver 76 = .ok (.aload_n 0, 1) := by decide +kernel
theorem dX3_readRiver_77 : decode cX3_readRiver 77 = .ok (.invokevirtual 47, 3) := by decide +kernel
theorem dX3_readRiver_80 : decode cX3_readRiver 80 = .ok (.aload_n 0, 1) := by decide +kernel
theorem dX3_readRiver_81 : decode cX3_readRiver 81 = .ok (.invokevirtual 50, 3) := by decide +kernel
theorem dX3_readRiver_84 : decode cX3_readRiver 84 = .ok (.istore_n 3, 1) := by decide +kernel
theorem dX3_readRiver_85 : decode cX3_readRiver 85 = .ok (.iinc 4 1, 3) := by decide +kernel
theorem dX3_readRiver_88 : decode cX3_readRiver 88 = .ok (.goto (-24), 3) := by decide +kernel
theorem dX3_readRiver_91 : decode cX3_readRiver 91 = .ok (.aload_n 0, 1) := by decide +kernel
theorem dX3_readRiver_92 : decode cX3_readRiver 92 = .ok (.getfield 37, 3) := by decide +kernel
theorem dX3_readRiver_95 : decode cX3_readRiver 95 = .ok (.ireturn, 1) := by decide +kernel
theorem dX6_tell_0 : decode cX6_tell 0 = .ok (.aload_n 0, 1) := by decide +kernel
theorem dX6_tell_1 : decode cX6_tell 1 = .ok (.getfield 66, 3) := by decide +kernel
theorem dX6_tell_4 : decode cX6_tell 4 = .ok (.aload_n 0, 1) := by decide +kernel
theorem dX6_tell_5 : decode cX6_tell 5 = .ok (.getfield 20, 3) := by decide +kernel
theorem dX6_tell_8 : decode cX6_tell 8 = .ok (.aload_n 0, 1) := by decide +kernel
theorem dX6_tell_9 : decode cX6_tell 9 = .ok (.getfield 77, 3) := by decide +kernel
theorem dX6_tell_12 : decode cX6_tell 12 = .ok (.invokevirtual 85, 3) := by decide +kernel
theorem dX6_tell_15 : decode cX6_tell 15 = .ok (.istore_n 1, 1) := by decide +kernel
theorem dX6_tell_16 : decode cX6_tell 16 = .ok (.aload_n 0, 1) := by decide +kernel
theorem dX6_tell_17 : decode cX6_tell 17 = .ok (.iconst 0, 1) := by decide +kernel
theorem dX6_tell_18 : decode cX6_tell 18 = .ok (.putfield 77, 3) := by decide +kernel
theorem dX6_tell_21 : decode cX6_tell 21 = .ok (.iload_n 1, 1) := by decide +kernel
theorem dX6_tell_22 : decode cX6_tell 22 = .ok (.ifCond .eq 8, 3) := by decide +kernel
theorem dX6_tell_25 : decode cX6_tell 25 = .ok (.bipush (-2), 2) := by decide +kernel
theorem dX6_tell_27 : decode cX6_tell 27 = .ok (.iload_n 1, 1) := by decide +kernel
theorem dX6_tell_28 : decode cX6_tell 28 = .ok (.isub, 1) := by decide +kernel
theorem dX6_tell_29 : decode cX6_tell 29 = .ok (.ireturn, 1) := by decide +kernel
theorem dX6_tell_30 : decode cX6_tell 30 = .ok (.aload_n 0, 1) := by decide +kernel
theorem dX6_tell_31 : decode cX6_tell 31 = .ok (.getfield 20, 3) := by decide +kernel
theorem dX6_tell_34 : decode cX6_tell 34 = .ok (.astore_n 2, 1) := by decide +kernel
theorem dX6_tell_35 : decode cX6_tell 35 = .ok (.aload_n 0, 1) := by decide +kernel
theorem dX6_tell_36 : decode cX6_tell 36 = .ok (.aload_n 0, 1) := by decide +kernel
theorem dX6_tell_37 : decode cX6_tell 37 = .ok (.getfield 16, 3) := by decide +kernel
theorem dX6_tell_40 : decode cX6_tell 40 = .ok (.putfield 20, 3) := by decide +kernel
theorem dX6_tell_43 : decode cX6_tell 43 = .ok (.aload_n 0, 1) := by decide +kernel
theorem dX6_tell_44 : decode cX6_tell 44 = .ok (.aload_n 2, 1) := by decide +kernel
theorem dX6_tell_45 : decode cX6_tell 45 = .ok (.putfield 16, 3) := by decide +kernel
theorem dX6_tell_48 : decode cX6_tell 48 = .ok (.aload_n 0, 1) := by decide +kernel
theorem dX6_tell_49 : decode cX6_tell 49 = .ok (.getfield 26, 3) := by decide +kernel
theorem dX6_tell_52 : decode cX6_tell 52 = .ok (.aload_n 0, 1) := by decide +kernel
theorem dX6_tell_53 : decode cX6_tell 53 = .ok (.getfield 16, 3) := by decide +kernel
theorem dX6_tell_56 : decode cX6_tell 56 = .ok (.invokevirtual 89, 3) := by decide +kernel
theorem dX6_tell_59 : decode cX6_tell 59 = .ok (.aload_n 0, 1) := by decide +kernel
theorem dX6_tell_60 : decode cX6_tell 60 = .ok (.iconst 0, 1) := by decide +kernel
theorem dX6_tell_61 : decode cX6_tell 61 = .ok (.putfield 93, 3) := by decide +kernel
theorem dX6_tell_64 : decode cX6_tell 64 = .ok (.aload_n 0, 1) := by decide +kernel
theorem dX6_tell_65 : decode cX6_tell 65 = .ok (.getfield 16, 3) := by decide +kernel
theorem dX6_tell_68 : decode cX6_tell 68 = .ok (.getfield 96, 3) := by decide +kernel
theorem dX6_tell_71 : decode cX6_tell 71 = .ok (.ireturn, 1) := by decide +kernel
theorem mv_X2_clear : MV yX2_clear cX2_clear 1 none 0 := ⟨wd_9_10, wd_9_8, wd_9_9, wd_1_16, by decide, by decide, by decide +kernel⟩
theorem mv_X2_hasAge : MV yX2_hasAge cX2_hasAge 3 (some .boolean) 1 := ⟨wd_13_22, wd_13_20, wd_13_21, wd_1_16, by decide, by decide, by decide +kernel⟩
theorem mv_X3_blame : MV yX3_blame cX3_blame 3 none 2 := ⟨wd_12_14, wd_12_12, wd_12_13, wd_2_14, by decide, by decide, by decide +kernel⟩
theorem mv_X3_isNext : MV yX3_isNext cX3_isNext 4 (some .boolean) 1 := ⟨wd_10_1, wd_9_23, wd_10_0, wd_2_14, by decide, by decide, by decide +kernel⟩
theorem mv_X3_readAge : MV yX3_readAge cX3_readAge 3 (some .int) 0 := ⟨wd_13_18, wd_13_16, wd_13_17, wd_2_14, by decide, by decide, by decide +kernel⟩
theorem mv_X3_readBetween : MV yX3_readBetween cX3_readBetween 1 (some .boolean) 0 := ⟨wd_14_16, wd_14_14, wd_14_15, wd_2_14, by decide, by decide, by decide +kernel⟩
theorem mv_X3_readNumber : MV yX3_readNumber cX3_readNumber 5 (some .int) 2 := ⟨wd_12_22, wd_12_20, wd_12_21, wd_2_14, by decide, by decide, by decide +kernel⟩
theorem mv_X3_readPart : MV yX3_readPart cX3_readPart 2 none 0 := ⟨wd_9_21, wd_9_19, wd_9_20, wd_2_14, by decide, by decide, by decide +kernel⟩
theorem mv_X3_readReach : MV yX3_readReach cX3_readReach 4 none 1 := ⟨wd_12_6, wd_12_4, wd_12_5, wd_2_14, by decide, by decide, by decide +kernel⟩
theorem mv_X3_readReachNumber : MV yX3_readReachNumber cX3_readReachNumber 1 (some .int) 0 := ⟨wd_12_18, wd_12_16, wd_12_17, wd_2_14, by decide, by decide, by decide +kernel⟩
theorem mv_X3_readRight : MV yX3_readRight cX3_readRight 4 none 1 := ⟨wd_13_3, wd_13_1, wd_13_2, wd_2_14, by decide, by decide, by decide +kernel⟩
theorem mv_X3_readRiver : MV yX3_readRiver cX3_readRiver 5 (some .int) 2 := ⟨wd_8_22, wd_8_20, wd_8_21, wd_2_14, by decide, by decide, by decide +kernel⟩
theorem mv_X3_readStore : MV yX3_readStore cX3_readStore 3 none 1 := ⟨wd_14_2, wd_14_0, wd_14_1, wd_2_14, by decide, by decide, by decide +kernel⟩
theorem mv_X3_readWet : MV yX3_readWet cX3_readWet 2 none 1 := ⟨wd_14_11, wd_14_9, wd_14_10, wd_2_14, by decide, by decide, by decide +kernel⟩
theorem mv_X3_skipBlanks : MV yX3_skipBlanks cX3_skipBlanks 1 none 0 := ⟨wd_9_17, wd_9_15, wd_9_16, wd_2_14, by decide, by decide, by decide +kernel⟩
theorem mv_X4_beginPart : MV yX4_beginPart cX4_beginPart 2 none 1 := ⟨wd_53_15, wd_53_13, wd_53_14, wd_2_18, by decide, by decide, by decide +kernel⟩
theorem mv_X4_put : MV yX4_put cX4_put 2 none 1 := ⟨wd_53_19, wd_53_17, wd_53_18, wd_2_18, by decide, by decide, by decide +kernel⟩
theorem mv_X4_putNextNumber : MV yX4_putNextNumber cX4_putNextNumber 5 none 1 := ⟨wd_54_9, wd_54_7, wd_54_8, wd_2_18, by decide, by decide, by decide +kernel⟩
theorem mv_X4_putNextWord : MV yX4_putNextWord cX4_putNextWord 2 none 1 := ⟨wd_54_5, wd_54_3, wd_54_4, wd_2_18, by decide, by decide, by decide +kernel⟩
theorem mv_X4_putWord : MV yX4_putWord cX4_putWord 3 none 1 := ⟨wd_53_23, wd_53_21, wd_53_22, wd_2_18, by decide, by decide, by decide +kernel⟩
theorem mv_X4_write : MV yX4_write cX4_write 5 none 3 := ⟨wd_52_21, wd_52_19, wd_52_20, wd_2_18, by decide, by decide, by decide +kernel⟩
theorem mv_X4_writeReach : MV yX4_writeReach cX4_writeReach 3 none 1 := ⟨wd_53_8, wd_53_6, wd_53_7, wd_2_18, by decide, by decide, by decide +kernel⟩
theorem mv_X4_writeRight : MV yX4_writeRight cX4_writeRight 2 none 1 := ⟨wd_54_14, wd_54_12, wd_54_13, wd_2_18, by decide, by decide, by decide +kernel⟩
theorem mv_X4_writeStore : MV yX4_writeStore cX4_writeStore 2 none 1 := ⟨wd_55_3, wd_55_1, wd_55_2, wd_2_18, by decide, by decide, by decide +kernel⟩
theorem mv_X5_startAs : MV yX5_startAs cX5_startAs 3 none 1 := ⟨wd_14_20, wd_14_18, wd_14_19, wd_1_21, by decide, by decide, by decide +kernel⟩
set_option maxHeartbeats 4000000 in
set_option maxRecDepth 100000 in
theorem c_X4_put (E : Ev) (dA : TD) (dB : TD) (rc : TD) (rd : TD) (a0 : Nat) (a1 : Int32) (ha0 : eT E a0 ∈ [23]) : TcV E yX4_put cX4_put 2 ({ frames := 1, cells := 0, slots := 0, locals := 40 }) [.ref a0, .int a1] (fun H => TH E (tbC dA dB (riverD (.inl (0, 12)) (.inl (0, 14)) (.inl (0, 4))) (riverD (.inl (0, 12)) (.inl (0, 14)) (.inl (0, 4))) rc rd) H) (fun H => TH E (tbC dA dB (riverD (.inl (0, 12)) (.inl (0, 14)) (.inl (0, 4))) (riverD (.inl (0, 12)) (.inl (0, 14)) (.inl (0, 4))) rc rd) H) := by
  refine teV (by decide) (Nat.le_of_ble_eq_true rfl) ?_
  intro p_ ev_ s mi_ below_ meth cd_ ls F hK hN hO hH hS hl
  have hH : TH E (tbC dA dB (riverD (.inl (0, 12)) (.inl (0, 14)) (.inl (0, 4))) (riverD (.inl (0, 12)) (.inl (0, 14)) (.inl (0, 4))) rc rd) s.heap := hH
  have hl : lv_has ls 2 [(0, .ref a0), (1, .int a1)] := hl
  refine lv_aload_n F.1 F.2.1 dX4_put_0 rfl (lv_at hl 0 rfl) ?_
  refine tGetI (j := 3) F hK hH (tyb ha0 (all1 rfl)) rfl clX4 (by decide) wd_52_23 dX4_put_1 (fun z_1 hz_1 => ?_)
  refine lv_aload_n F.1 F.2.1 dX4_put_4 rfl (lv_at hl 0 rfl) ?_
  refine tGetI (j := 2) F hK hH (tyb ha0 (all1 rfl)) rfl clX4 (by decide) wd_52_22 dX4_put_5 (fun z_2 hz_2 => ?_)
  refine wjoin (σ := Unit) (pcj := 16) (stj := fun x9 => []) (fun x9 H locs ls => TH E (tbC dA dB (riverD (.inl (0, 12)) (.inl (0, 14)) (.inl (0, 4))) (riverD (.inl (0, 12)) (.inl (0, 14)) (.inl (0, 4))) rc rd) H ∧ va_S (eA E s.heap.size) s.heap H locs ∧ lv_has ls 2 [(0, .ref a0)]) (fun x9 H locs ls h_ => ?_) (fun J_16 => ?_)
  · skip
    obtain ⟨hH, hS, hl⟩ := h_
    have hH : TH E (tbC dA dB (riverD (.inl (0, 12)) (.inl (0, 14)) (.inl (0, 4))) (riverD (.inl (0, 12)) (.inl (0, 14)) (.inl (0, 4))) rc rd) H := hH
    have hl : lv_has ls 2 [(0, .ref a0)] := hl
    show W _ _ _ _ _ _ _ _ _ _ _ _ _ _ _ (F0 _ _ _ [])
    refine lv_aload_n F.1 F.2.1 dX4_put_16 rfl (lv_at hl 0 rfl) ?_
    refine lv_dup F.1 F.2.1 dX4_put_17 rfl ?_
    refine tGetI (j := 3) F hK hH (tyb ha0 (all1 rfl)) rfl clX4 (by decide) wd_52_23 dX4_put_18 (fun z_3 hz_3 => ?_)
    refine lv_iconst (v := 1) F.1 F.2.1 dX4_put_21 (by decide) ?_
    refine topK (a := 1) (by decide) (fun k_4 hk_4 => ?_)
    refine lv_iadd F.1 F.2.1 dX4_put_22 ?_
    refine topF (fun z_5 => ?_)
    refine tPut (j := 3) F hK hH hS (tyb ha0 (all1 rfl)) rfl (fdI (i32b _)) clX4 (by decide) wd_52_23 rfl rfl rfl rfl dX4_put_23 (fun H locs hH hS => ?_)
    exact txV F hS dX4_put_26 (hH)
  refine b_ne (tgt := 16) F dX4_put_8 (by decide) (fun c_6 => ?_) (fun c_6 => ?_)
  · skip
    exact J_16 () _ _ _ ⟨hH, hS, lv_sub hl [0] rfl⟩
  · skip
    refine lv_aload_n F.1 F.2.1 dX4_put_11 rfl (lv_at hl 0 rfl) ?_
    refine lv_iload_n F.1 F.2.1 dX4_put_12 rfl (lv_at hl 1 rfl) ?_
    refine tPut (j := 4) F hK hH hS (tyb ha0 (all1 rfl)) rfl (fdI (i32b _)) clX4 (by decide) wd_53_0 rfl rfl rfl rfl dX4_put_13 (fun H locs hH hS => ?_)
    exact J_16 () _ _ _ ⟨hH, hS, lv_sub hl [0] rfl⟩
set_option maxHeartbeats 4000000 in
set_option maxRecDepth 100000 in
theorem c_X4_putWord (E : Ev) (dA : TD) (dB : TD) (rc : TD) (rd : TD) (a0 : Nat) (t1 n1 : Nat) (ha0 : eT E a0 ∈ [23]) (ha1 : strOf t1 n1) : TcV E yX4_putWord cX4_putWord 3 ({ frames := 5, cells := 0, slots := 0, locals := 181 }) [.ref a0, .ref (eX E t1)] (fun H => TH E (tbC dA dB (riverD (.inl (0, 12)) (.inl (0, 14)) (.inl (0, 4))) (riverD (.inl (0, 12)) (.inl (0, 14)) (.inl (0, 4))) rc rd) H) (fun H => TH E (tbC dA dB (riverD (.inl (0, 12)) (.inl (0, 14)) (.inl (0, 4))) (riverD (.inl (0, 12)) (.inl (0, 14)) (.inl (0, 4))) rc rd) H) := by
  refine teV (by decide) (Nat.le_of_ble_eq_true rfl) ?_
  intro p_ ev_ s mi_ below_ meth cd_ ls F hK hN hO hH hS hl
  have hH : TH E (tbC dA dB (riverD (.inl (0, 12)) (.inl (0, 14)) (.inl (0, 4))) (riverD (.inl (0, 12)) (.inl (0, 14)) (.inl (0, 4))) rc rd) s.heap := hH
  have hl : lv_has ls 3 [(0, .ref a0), (1, .ref (eX E t1))] := hl
  refine lv_iconst (v := 0) F.1 F.2.1 dX4_putWord_0 (by decide) ?_
  refine topK (a := 0) (by decide) (fun k_1 hk_1 => ?_)
  refine lv_istore_n (lv' := [(2, .int k_1), (0, .ref a0), (1, .ref (eX E t1))]) F.1 F.2.1 dX4_putWord_1 rfl hl (by decide) rfl (fun ls hl => ?_)
  refine wloop (σ := Int32) (fun n9 x9 H locs ls => (9 - x9.toInt + 1).toNat < n9 ∧ (0 ≤ x9.toInt ∧ x9.toInt ≤ 9) ∧ TH E (tbC dA dB (riverD (.inl (0, 12)) (.inl (0, 14)) (.inl (0, 4))) (riverD (.inl (0, 12)) (.inl (0, 14)) (.inl (0, 4))) rc rd) H ∧ va_S (eA E s.heap.size) s.heap H locs ∧ lv_has ls 3 [(0, .ref a0), (1, .ref (eX E t1)), (2, .int x9)]) ?_ (fun x9 H locs ls h => absurd h.1 (Nat.not_lt_zero _)) _ (k_1) ⟨Nat.lt_succ_self _, (wkb (eqb hk_1) rfl rfl), hH, hS, lv_sub hl [1, 2, 0] rfl⟩
  intro n_2 ih_2 u_2 H locs ls ⟨hm_2, hu_2, hH, hS, hl⟩
  have hm_2 : (9 - u_2.toInt + 1).toNat < n_2 + 1 := hm_2
  have hu_2 : (0 ≤ u_2.toInt ∧ u_2.toInt ≤ 9) := hu_2
  have hH : TH E (tbC dA dB (riverD (.inl (0, 12)) (.inl (0, 14)) (.inl (0, 4))) (riverD (.inl (0, 12)) (.inl (0, 14)) (.inl (0, 4))) rc rd) H := hH
  have hl : lv_has ls 3 [(0, .ref a0), (1, .ref (eX E t1)), (2, .int u_2)] := hl
  refine lv_iload_n F.1 F.2.1 dX4_putWord_2 rfl (lv_at hl 2 rfl) ?_
  refine lv_aload_n F.1 F.2.1 dX4_putWord_3 rfl (lv_at hl 1 rfl) ?_
  refine tVi (b := (eX E t1)) (As := []) (rest := [.int u_2]) F hK hN hO (c_len E (fun H => TH E (tbC dA dB (riverD (.inl (0, 12)) (.inl (0, 14)) (.inl (0, 4))) (riverD (.inl (0, 12)) (.inl (0, 14)) (.inl (0, 4))) rc rd) H) t1 n1 ha1) mv_J0_length_8abf5 wd_54_0 ⟨Nat.le_of_ble_eq_true rfl, Nat.le_of_ble_eq_true rfl⟩ ⟨Nat.le_of_ble_eq_true rfl, Nat.le_of_ble_eq_true rfl⟩ hH hS (sRecvS hO ha1 hS) rfl hl.1 (Nat.le_of_ble_eq_true rfl) dX4_putWord_4 (fun z_3 H locs hq hS => ?_)
  obtain ⟨hz_3, hH⟩ := hq
  have hH : TH E (tbC dA dB (riverD (.inl (0, 12)) (.inl (0, 14)) (.inl (0, 4))) (riverD (.inl (0, 12)) (.inl (0, 14)) (.inl (0, 4))) rc rd) H := hH
  have ez_3 : 3 ≤ z_3.toInt ∧ z_3.toInt ≤ 6 := by have h9_ := strLe ha1; omega
  refine b_ge (tgt := 25) F dX4_putWord_7 (by decide) (fun c_4 => ?_) (fun c_4 => ?_)
  · skip
    have r_5 : 3 ≤ u_2.toInt ∧ u_2.toInt ≤ 9 := by have h9_ := hu_2; omega
    exact txV F hS dX4_putWord_25 (hH)
  · skip
    have r_6 : 0 ≤ u_2.toInt ∧ u_2.toInt ≤ 5 := by have h9_ := hu_2; omega
    refine lv_aload_n F.1 F.2.1 dX4_putWord_10 rfl (lv_at hl 0 rfl) ?_
    refine lv_aload_n F.1 F.2.1 dX4_putWord_11 rfl (lv_at hl 1 rfl) ?_
    refine lv_iload_n F.1 F.2.1 dX4_putWord_12 rfl (lv_at hl 2 rfl) ?_
    refine tVi (b := (eX E t1)) (As := [.int u_2]) (rest := [.ref a0]) F hK hN hO (c_chr E (fun H => TH E (tbC dA dB (riverD (.inl (0, 12)) (.inl (0, 14)) (.inl (0, 4))) (riverD (.inl (0, 12)) (.inl (0, 14)) (.inl (0, 4))) rc rd) H) t1 n1 ha1 u_2 (by omega) (by omega)) mv_J0_charAt_5068e wd_54_1 ⟨Nat.le_of_ble_eq_true rfl, Nat.le_of_ble_eq_true rfl⟩ ⟨Nat.le_of_ble_eq_true rfl, Nat.le_of_ble_eq_true rfl⟩ hH hS (sRecvS hO ha1 hS) rfl hl.1 (Nat.le_of_ble_eq_true rfl) dX4_putWord_13 (fun z_7 H locs hq hS => ?_)
    obtain ⟨hz_7, hH⟩ := hq
    have hH : TH E (tbC dA dB (riverD (.inl (0, 12)) (.inl (0, 14)) (.inl (0, 4))) (riverD (.inl (0, 12)) (.inl (0, 14)) (.inl (0, 4))) rc rd) H := hH
    refine tVv (b := a0) (As := [.int z_7]) (rest := []) F hK hN hO (c_X4_put E dA dB rc rd a0 z_7 ha0) mv_X4_put wd_53_16 ⟨Nat.le_of_ble_eq_true rfl, Nat.le_of_ble_eq_true rfl⟩ ⟨Nat.le_of_ble_eq_true rfl, Nat.le_of_ble_eq_true rfl⟩ hH hS (tRecv hK hH (tyb ha0 (all1 rfl)) clX4) rfl hl.1 (Nat.le_of_ble_eq_true rfl) dX4_putWord_16 (fun H locs hq hS => ?_)
    have hH := hq
    have hH : TH E (tbC dA dB (riverD (.inl (0, 12)) (.inl (0, 14)) (.inl (0, 4))) (riverD (.inl (0, 12)) (.inl (0, 14)) (.inl (0, 4))) rc rd) H := hH
    obtain ⟨x_9, ex_9, hx_9⟩ := iincB (c := 1) (lo := 1) (hi := 6) r_6 rfl
    refine lv_iinc (v := x_9) (lv' := [(2, .int x_9), (0, .ref a0), (1, .ref (eX E t1))]) F.1 F.2.1 dX4_putWord_19 hl (k := 2) rfl ex_9 (by decide) rfl (fun ls hl => ?_)
    refine lv_goto (tgt := 2) F.1 F.2.1 dX4_putWord_22 (by decide) ?_
    exact ih_2 (x_9) _ _ _ ⟨(show (9 - x_9.toInt + 1).toNat < n_2 from by omega), (wkb hx_9.2 rfl rfl), hH, hS, lv_sub hl [1, 2, 0] rfl⟩
set_option maxHeartbeats 4000000 in
set_option maxRecDepth 100000 in
theorem c_X4_putNextWord (E : Ev) (dA : TD) (dB : TD) (rc : TD) (rd : TD) (a0 : Nat) (t1 n1 : Nat) (ha0 : eT E a0 ∈ [23]) (ha1 : strOf t1 n1) : TcV E yX4_putNextWord cX4_putNextWord 2 ({ frames := 6, cells := 0, slots := 0, locals := 203 }) [.ref a0, .ref (eX E t1)] (fun H => TH E (tbC dA dB (riverD (.inl (0, 12)) (.inl (0, 14)) (.inl (0, 4))) (riverD (.inl (0, 12)) (.inl (0, 14)) (.inl (0, 4))) rc rd) H) (fun H => TH E (tbC dA dB (riverD (.inl (0, 12)) (.inl (0, 14)) (.inl (0, 4))) (riverD (.inl (0, 12)) (.inl (0, 14)) (.inl (0, 4))) rc rd) H) := by
  refine teV (by decide) (Nat.le_of_ble_eq_true rfl) ?_
  intro p_ ev_ s mi_ below_ meth cd_ ls F hK hN hO hH hS hl
  have hH : TH E (tbC dA dB (riverD (.inl (0, 12)) (.inl (0, 14)) (.inl (0, 4))) (riverD (.inl (0, 12)) (.inl (0, 14)) (.inl (0, 4))) rc rd) s.heap := hH
  have hl : lv_has ls 2 [(0, .ref a0), (1, .ref (eX E t1))] := hl
  refine lv_aload_n F.1 F.2.1 dX4_putNextWord_0 rfl (lv_at hl 0 rfl) ?_
  refine lv_bipush (v := 32) F.1 F.2.1 dX4_putNextWord_1 (by decide) ?_
  refine topK (a := 32) (by decide) (fun k_1 hk_1 => ?_)
  refine tVv (b := a0) (As := [.int k_1]) (rest := []) F hK hN hO (c_X4_put E dA dB rc rd a0 k_1 ha0) mv_X4_put wd_53_16 ⟨Nat.le_of_ble_eq_true rfl, Nat.le_of_ble_eq_true rfl⟩ ⟨Nat.le_of_ble_eq_true rfl, Nat.le_of_ble_eq_true rfl⟩ hH hS (tRecv hK hH (tyb ha0 (all1 rfl)) clX4) rfl hl.1 (Nat.le_of_ble_eq_true rfl) dX4_putNextWord_3 (fun H locs hq hS => ?_)
  have hH := hq
  have hH : TH E (tbC dA dB (riverD (.inl (0, 12)) (.inl (0, 14)) (.inl (0, 4))) (riverD (.inl (0, 12)) (.inl (0, 14)) (.inl (0, 4))) rc rd) H := hH
  refine lv_aload_n F.1 F.2.1 dX4_putNextWord_6 rfl (lv_at hl 0 rfl) ?_
  refine lv_aload_n F.1 F.2.1 dX4_putNextWord_7 rfl (lv_at hl 1 rfl) ?_
  refine tVv (b := a0) (As := [.ref (eX E t1)]) (rest := []) F hK hN hO (c_X4_putWord E dA dB rc rd a0 t1 n1 ha0 ha1) mv_X4_putWord wd_53_20 ⟨Nat.le_of_ble_eq_true rfl, Nat.le_of_ble_eq_true rfl⟩ ⟨Nat.le_of_ble_eq_true rfl, Nat.le_of_ble_eq_true rfl⟩ hH hS (tRecv hK hH (tyb ha0 (all1 rfl)) clX4) rfl hl.1 (Nat.le_of_ble_eq_true rfl) dX4_putNextWord_8 (fun H locs hq hS => ?_)
  have hH := hq
  have hH : TH E (tbC dA dB (riverD (.inl (0, 12)) (.inl (0, 14)) (.inl (0, 4))) (riverD (.inl (0, 12)) (.inl (0, 14)) (.inl (0, 4))) rc rd) H := hH
  exact txV F hS dX4_putNextWord_11 (hH)
set_option maxHeartbeats 4000000 in
set_option maxRecDepth 100000 in
theorem c_X4_beginPart (E : Ev) (dA : TD) (dB : TD) (rc : TD) (rd : TD) (a0 : Nat) (t1 n1 : Nat) (ha0 : eT E a0 ∈ [23]) (ha1 : strOf t1 n1) : TcV E yX4_beginPart cX4_beginPart 2 ({ frames := 6, cells := 0, slots := 0, locals := 203 }) [.ref a0, .ref (eX E t1)] (fun H => TH E (tbC dA dB (riverD (.inl (0, 12)) (.inl (0, 14)) (.inl (0, 4))) (riverD (.inl (0, 12)) (.inl (0, 14)) (.inl (0, 4))) rc rd) H) (fun H => TH E (tbC dA dB (riverD (.inl (0, 12)) (.inl (0, 14)) (.inl (0, 4))) (riverD (.inl (0, 12)) (.inl (0, 14)) (.inl (0, 4))) rc rd) H) := by
  refine teV (by decide) (Nat.le_of_ble_eq_true rfl) ?_
  intro p_ ev_ s mi_ below_ meth cd_ ls F hK hN hO hH hS hl
  have hH : TH E (tbC dA dB (riverD (.inl (0, 12)) (.inl (0, 14)) (.inl (0, 4))) (riverD (.inl (0, 12)) (.inl (0, 14)) (.inl (0, 4))) rc rd) s.heap := hH
  have hl : lv_has ls 2 [(0, .ref a0), (1, .ref (eX E t1))] := hl
  refine lv_aload_n F.1 F.2.1 dX4_beginPart_0 rfl (lv_at hl 0 rfl) ?_
  refine tGetI (j := 3) F hK hH (tyb ha0 (all1 rfl)) rfl clX4 (by decide) wd_52_23 dX4_beginPart_1 (fun z_1 hz_1 => ?_)
  refine z_le (tgt := 13) F dX4_beginPart_4 (by decide) (fun c_2 => ?_) (fun c_2 => ?_)
  · skip
    have r_3 : (-2147483648) ≤ z_1.toInt ∧ z_1.toInt ≤ 0 := by have h9_ := hz_1; omega
    refine lv_aload_n F.1 F.2.1 dX4_beginPart_13 rfl (lv_at hl 0 rfl) ?_
    refine lv_aload_n F.1 F.2.1 dX4_beginPart_14 rfl (lv_at hl 1 rfl) ?_
    refine tVv (b := a0) (As := [.ref (eX E t1)]) (rest := []) F hK hN hO (c_X4_putWord E dA dB rc rd a0 t1 n1 ha0 ha1) mv_X4_putWord wd_53_20 ⟨Nat.le_of_ble_eq_true rfl, Nat.le_of_ble_eq_true rfl⟩ ⟨Nat.le_of_ble_eq_true rfl, Nat.le_of_ble_eq_true rfl⟩ hH hS (tRecv hK hH (tyb ha0 (all1 rfl)) clX4) rfl hl.1 (Nat.le_of_ble_eq_true rfl) dX4_beginPart_15 (fun H locs hq hS => ?_)
    have hH := hq
    have hH : TH E (tbC dA dB (riverD (.inl (0, 12)) (.inl (0, 14)) (.inl (0, 4))) (riverD (.inl (0, 12)) (.inl (0, 14)) (.inl (0, 4))) rc rd) H := hH
    exact txV F hS dX4_beginPart_18 (hH)
  · skip
    have r_4 : 1 ≤ z_1.toInt ∧ z_1.toInt ≤ 2147483647 := by have h9_ := hz_1; omega
    refine lv_aload_n F.1 F.2.1 dX4_beginPart_7 rfl (lv_at hl 0 rfl) ?_
    refine lv_bipush (v := 59) F.1 F.2.1 dX4_beginPart_8 (by decide) ?_
    refine topK (a := 59) (by decide) (fun k_6 hk_6 => ?_)
    refine tVv (b := a0) (As := [.int k_6]) (rest := []) F hK hN hO (c_X4_put E dA dB rc rd a0 k_6 ha0) mv_X4_put wd_53_16 ⟨Nat.le_of_ble_eq_true rfl, Nat.le_of_ble_eq_true rfl⟩ ⟨Nat.le_of_ble_eq_true rfl, Nat.le_of_ble_eq_true rfl⟩ hH hS (tRecv hK hH (tyb ha0 (all1 rfl)) clX4) rfl hl.1 (Nat.le_of_ble_eq_true rfl) dX4_beginPart_10 (fun H locs hq hS => ?_)
    have hH := hq
    have hH : TH E (tbC dA dB (riverD (.inl (0, 12)) (.inl (0, 14)) (.inl (0, 4))) (riverD (.inl (0, 12)) (.inl (0, 14)) (.inl (0, 4))) rc rd) H := hH
    refine lv_aload_n F.1 F.2.1 dX4_beginPart_13 rfl (lv_at hl 0 rfl) ?_
    refine lv_aload_n F.1 F.2.1 dX4_beginPart_14 rfl (lv_at hl 1 rfl) ?_
    refine tVv (b := a0) (As := [.ref (eX E t1)]) (rest := []) F hK hN hO (c_X4_putWord E dA dB rc rd a0 t1 n1 ha0 ha1) mv_X4_putWord wd_53_20 ⟨Nat.le_of_ble_eq_true rfl, Nat.le_of_ble_eq_true rfl⟩ ⟨Nat.le_of_ble_eq_true rfl, Nat.le_of_ble_eq_true rfl⟩ hH hS (tRecv hK hH (tyb ha0 (all1 rfl)) clX4) rfl hl.1 (Nat.le_of_ble_eq_true rfl) dX4_beginPart_15 (fun H locs hq hS => ?_)
    have hH := hq
    have hH : TH E (tbC dA dB (riverD (.inl (0, 12)) (.inl (0, 14)) (.inl (0, 4))) (riverD (.inl (0, 12)) (.inl (0, 14)) (.inl (0, 4))) rc rd) H := hH
    exact txV F hS dX4_beginPart_18 (hH)
set_option maxHeartbeats 4000000 in
set_option maxRecDepth 100000 in
theorem c_X4_putNextNumber (E : Ev) (dA : TD) (dB : TD) (rc : TD) (rd : TD) (a0 : Nat) (a1 : Int32) (ha0 : eT E a0 ∈ [23]) : TcV E yX4_putNextNumber cX4_putNextNumber 5 ({ frames := 2, cells := 0, slots := 0, locals := 61 }) [.ref a0, .int a1] (fun H => TH E (tbC dA dB (riverD (.inl (0, 12)) (.inl (0, 14)) (.inl (0, 4))) (riverD (.inl (0, 12)) (.inl (0, 14)) (.inl (0, 4))) rc rd) H) (fun H => TH E (tbC dA dB (riverD (.inl (0, 12)) (.inl (0, 14)) (.inl (0, 4))) (riverD (.inl (0, 12)) (.inl (0, 14)) (.inl (0, 4))) rc rd) H) := by
  refine teV (by decide) (Nat.le_of_ble_eq_true rfl) ?_
  intro p_ ev_ s mi_ below_ meth cd_ ls F hK hN hO hH hS hl
  have hH : TH E (tbC dA dB (riverD (.inl (0, 12)) (.inl (0, 14)) (.inl (0, 4))) (riverD (.inl (0, 12)) (.inl (0, 14)) (.inl (0, 4))) rc rd) s.heap := hH
  have hl : lv_has ls 5 [(0, .ref a0), (1, .int a1)] := hl
  refine lv_aload_n F.1 F.2.1 dX4_putNextNumber_0 rfl (lv_at hl 0 rfl) ?_
  refine lv_bipush (v := 32) F.1 F.2.1 dX4_putNextNumber_1 (by decide) ?_
  refine topK (a := 32) (by decide) (fun k_1 hk_1 => ?_)
  refine tVv (b := a0) (As := [.int k_1]) (rest := []) F hK hN hO (c_X4_put E dA dB rc rd a0 k_1 ha0) mv_X4_put wd_53_16 ⟨Nat.le_of_ble_eq_true rfl, Nat.le_of_ble_eq_true rfl⟩ ⟨Nat.le_of_ble_eq_true rfl, Nat.le_of_ble_eq_true rfl⟩ hH hS (tRecv hK hH (tyb ha0 (all1 rfl)) clX4) rfl hl.1 (Nat.le_of_ble_eq_true rfl) dX4_putNextNumber_3 (fun H locs hq hS => ?_)
  have hH := hq
  have hH : TH E (tbC dA dB (riverD (.inl (0, 12)) (.inl (0, 14)) (.inl (0, 4))) (riverD (.inl (0, 12)) (.inl (0, 14)) (.inl (0, 4))) rc rd) H := hH
  refine lv_iconst (v := 0) F.1 F.2.1 dX4_putNextNumber_6 (by decide) ?_
  refine topK (a := 0) (by decide) (fun k_3 hk_3 => ?_)
  refine lv_istore_n (lv' := [(2, .int k_3), (0, .ref a0), (1, .int a1)]) F.1 F.2.1 dX4_putNextNumber_7 rfl hl (by decide) rfl (fun ls hl => ?_)
  refine lv_ldc (own := RX4) (v := 100000) F.1 F.2.1 F.2.2.2.2.1 (F.2.2.2.2.2.2.1 _ wd_54_10) dX4_putNextNumber_8 ?_
  refine topK (a := 100000) (by decide) (fun k_4 hk_4 => ?_)
  refine lv_istore_n (lv' := [(3, .int k_4), (2, .int k_3), (0, .ref a0), (1, .int a1)]) F.1 F.2.1 dX4_putNextNumber_10 rfl hl (by decide) rfl (fun ls hl => ?_)
  refine wloop (σ := Int32 × Int32) (fun n9 x9 H locs ls => (x9.2.toInt).toNat < n9 ∧ (0 ≤ x9.1.toInt ∧ x9.1.toInt ≤ 1) ∧ (0 ≤ x9.2.toInt ∧ x9.2.toInt ≤ 100000) ∧ TH E (tbC dA dB (riverD (.inl (0, 12)) (.inl (0, 14)) (.inl (0, 4))) (riverD (.inl (0, 12)) (.inl (0, 14)) (.inl (0, 4))) rc rd) H ∧ va_S (eA E s.heap.size) s.heap H locs ∧ lv_has ls 5 [(0, .ref a0), (1, .int a1), (2, .int x9.1), (3, .int x9.2)]) ?_ (fun x9 H locs ls h => absurd h.1 (Nat.not_lt_zero _)) _ (k_3, k_4) ⟨Nat.lt_succ_self _, (wkb (eqb hk_3) rfl rfl), (wkb (eqb hk_4) rfl rfl), hH, hS, lv_sub hl [2, 3, 1, 0] rfl⟩
  intro n_11 ih_11 ⟨u_5, u_6⟩ H locs ls ⟨hm_11, hu_5, hu_6, hH, hS, hl⟩
  have hm_11 : (u_6.toInt).toNat < n_11 + 1 := hm_11
  have hu_5 : (0 ≤ u_5.toInt ∧ u_5.toInt ≤ 1) := hu_5
  have hu_6 : (0 ≤ u_6.toInt ∧ u_6.toInt ≤ 100000) := hu_6
  have hH : TH E (tbC dA dB (riverD (.inl (0, 12)) (.inl (0, 14)) (.inl (0, 4))) (riverD (.inl (0, 12)) (.inl (0, 14)) (.inl (0, 4))) rc rd) H := hH
  have hl : lv_has ls 5 [(0, .ref a0), (1, .int a1), (2, .int u_5), (3, .int u_6)] := hl
  refine lv_iload_n F.1 F.2.1 dX4_putNextNumber_11 rfl (lv_at hl 3 rfl) ?_
  refine z_le (tgt := 65) F dX4_putNextNumber_12 (by decide) (fun c_7 => ?_) (fun c_7 => ?_)
  · skip
    have r_8 : 0 ≤ u_6.toInt ∧ u_6.toInt ≤ 0 := by have h9_ := hu_6; omega
    exact txV F hS dX4_putNextNumber_65 (hH)
  · skip
    have r_9 : 1 ≤ u_6.toInt ∧ u_6.toInt ≤ 100000 := by have h9_ := hu_6; omega
    refine lv_iload_n F.1 F.2.1 dX4_putNextNumber_15 rfl (lv_at hl 1 rfl) ?_
    refine lv_iload_n F.1 F.2.1 dX4_putNextNumber_16 rfl (lv_at hl 3 rfl) ?_
    refine tDivF F dX4_putNextNumber_17 (by omega) (fun z_10 => ?_)
    refine lv_bipush (v := 10) F.1 F.2.1 dX4_putNextNumber_18 (by decide) ?_
    refine topK (a := 10) (by decide) (fun k_11 hk_11 => ?_)
    refine tRemF F dX4_putNextNumber_20 (by omega) (fun z_12 => ?_)
    refine lv_istore (lv' := [(4, .int z_12), (0, .ref a0), (1, .int a1), (2, .int u_5), (3, .int u_6)]) F.1 F.2.1 dX4_putNextNumber_21 hl (by decide) rfl (fun ls hl => ?_)
    refine lv_iload_n F.1 F.2.1 dX4_putNextNumber_23 rfl (lv_at hl 3 rfl) ?_
    refine wjoin (σ := Int32) (pcj := 42) (stj := fun x9 => [.int x9]) (fun x9 H locs ls => (0 ≤ x9.toInt ∧ x9.toInt ≤ 1) ∧ TH E (tbC dA dB (riverD (.inl (0, 12)) (.inl (0, 14)) (.inl (0, 4))) (riverD (.inl (0, 12)) (.inl (0, 14)) (.inl (0, 4))) rc rd) H ∧ va_S (eA E s.heap.size) s.heap H locs ∧ lv_has ls 5 [(0, .ref a0), (1, .int a1), (3, .int u_6), (4, .int z_12)]) (fun u_13 H locs ls h_ => ?_) (fun J_42 => ?_)
    · skip
      obtain ⟨hu_13, hH, hS, hl⟩ := h_
      have hu_13 : (0 ≤ u_13.toInt ∧ u_13.toInt ≤ 1) := hu_13
      have hH : TH E (tbC dA dB (riverD (.inl (0, 12)) (.inl (0, 14)) (.inl (0, 4))) (riverD (.inl (0, 12)) (.inl (0, 14)) (.inl (0, 4))) rc rd) H := hH
      have hl : lv_has ls 5 [(0, .ref a0), (1, .int a1), (3, .int u_6), (4, .int z_12)] := hl
      show W _ _ _ _ _ _ _ _ _ _ _ _ _ _ _ (F0 _ _ _ [.int u_13])
      refine lv_istore_n (lv' := [(2, .int u_13), (0, .ref a0), (1, .int a1), (3, .int u_6), (4, .int z_12)]) F.1 F.2.1 dX4_putNextNumber_42 rfl hl (by decide) rfl (fun ls hl => ?_)
      refine lv_iload_n F.1 F.2.1 dX4_putNextNumber_43 rfl (lv_at hl 0 rfl) ?_
      refine z_eq (tgt := 57) F dX4_putNextNumber_44 (by decide) (fun c_14 => ?_) (fun c_14 => ?_)
      · skip
        have r_15 : 0 ≤ u_13.toInt ∧ u_13.toInt ≤ 0 := by have h9_ := hu_13; omega
        refine lv_iload_n F.1 F.2.1 dX4_putNextNumber_57 rfl (lv_at hl 3 rfl) ?_
        refine lv_bipush (v := 10) F.1 F.2.1 dX4_putNextNumber_58 (by decide) ?_
        refine topK (a := 10) (by decide) (fun k_17 hk_17 => ?_)
        refine tDiv (k := 10) (lo := 0) (hi := 10000) F dX4_putNextNumber_60 r_9 hk_17 rfl (fun z_18 hz_18 => ?_)
        refine lv_istore_n (lv' := [(3, .int z_18), (2, .int u_13), (0, .ref a0), (1, .int a1), (4, .int z_12)]) F.1 F.2.1 dX4_putNextNumber_61 rfl hl (by decide) rfl (fun ls hl => ?_)
        refine lv_goto (tgt := 11) F.1 F.2.1 dX4_putNextNumber_62 (by decide) ?_
        exact ih_11 (u_13, z_18) _ _ _ ⟨(show (z_18.toInt).toNat < n_11 from by omega), (wkb r_15 rfl rfl), (wkb hz_18.2 rfl rfl), hH, hS, lv_sub hl [2, 3, 1, 0] rfl⟩
      · skip
        have r_16 : 1 ≤ u_13.toInt ∧ u_13.toInt ≤ 1 := by have h9_ := hu_13; omega
        refine lv_aload_n F.1 F.2.1 dX4_putNextNumber_47 rfl (lv_at hl 1 rfl) ?_
        refine lv_bipush (v := 48) F.1 F.2.1 dX4_putNextNumber_48 (by decide) ?_
        refine topK (a := 48) (by decide) (fun k_19 hk_19 => ?_)
        refine lv_iload F.1 F.2.1 dX4_putNextNumber_50 (lv_at hl 4 rfl) ?_
        refine lv_iadd F.1 F.2.1 dX4_putNextNumber_52 ?_
        refine topF (fun z_20 => ?_)
        refine lv_i2c F.1 F.2.1 dX4_putNextNumber_53 rfl ?_
        refine topF (fun z_21 => ?_)
        refine tVv (b := a0) (As := [.int z_21]) (rest := []) F hK hN hO (c_X4_put E dA dB rc rd a0 z_21 ha0) mv_X4_put wd_53_16 ⟨Nat.le_of_ble_eq_true rfl, Nat.le_of_ble_eq_true rfl⟩ ⟨Nat.le_of_ble_eq_true rfl, Nat.le_of_ble_eq_true rfl⟩ hH hS (tRecv hK hH (tyb ha0 (all1 rfl)) clX4) rfl hl.1 (Nat.le_of_ble_eq_true rfl) dX4_putNextNumber_54 (fun H locs hq hS => ?_)
        have hH := hq
        have hH : TH E (tbC dA dB (riverD (.inl (0, 12)) (.inl (0, 14)) (.inl (0, 4))) (riverD (.inl (0, 12)) (.inl (0, 14)) (.inl (0, 4))) rc rd) H := hH
        refine lv_iload_n F.1 F.2.1 dX4_putNextNumber_57 rfl (lv_at hl 3 rfl) ?_
        refine lv_bipush (v := 10) F.1 F.2.1 dX4_putNextNumber_58 (by decide) ?_
        refine topK (a := 10) (by decide) (fun k_23 hk_23 => ?_)
        refine tDiv (k := 10) (lo := 0) (hi := 10000) F dX4_putNextNumber_60 r_9 hk_23 rfl (fun z_24 hz_24 => ?_)
        refine lv_istore_n (lv' := [(3, .int z_24), (2, .int u_13), (0, .ref a0), (1, .int a1), (4, .int z_12)]) F.1 F.2.1 dX4_putNextNumber_61 rfl hl (by decide) rfl (fun ls hl => ?_)
        refine lv_goto (tgt := 11) F.1 F.2.1 dX4_putNextNumber_62 (by decide) ?_
        exact ih_11 (u_13, z_24) _ _ _ ⟨(show (z_24.toInt).toNat < n_11 from by omega), (wkb r_16 rfl rfl), (wkb hz_24.2 rfl rfl), hH, hS, lv_sub hl [2, 3, 1, 0] rfl⟩
    refine wjoin (σ := Unit) (pcj := 37) (stj := fun x9 => []) (fun x9 H locs ls => TH E (tbC dA dB (riverD (.inl (0, 12)) (.inl (0, 14)) (.inl (0, 4))) (riverD (.inl (0, 12)) (.inl (0, 14)) (.inl (0, 4))) rc rd) H ∧ va_S (eA E s.heap.size) s.heap H locs ∧ lv_has ls 5 [(0, .ref a0), (1, .int a1), (3, .int u_6), (4, .int z_12)]) (fun x9 H locs ls h_ => ?_) (fun J_37 => ?_)
    · skip
      obtain ⟨hH, hS, hl⟩ := h_
      have hH : TH E (tbC dA dB (riverD (.inl (0, 12)) (.inl (0, 14)) (.inl (0, 4))) (riverD (.inl (0, 12)) (.inl (0, 14)) (.inl (0, 4))) rc rd) H := hH
      have hl : lv_has ls 5 [(0, .ref a0), (1, .int a1), (3, .int u_6), (4, .int z_12)] := hl
      show W _ _ _ _ _ _ _ _ _ _ _ _ _ _ _ (F0 _ _ _ [])
      refine lv_iconst (v := 1) F.1 F.2.1 dX4_putNextNumber_37 (by decide) ?_
      refine topK (a := 1) (by decide) (fun k_25 hk_25 => ?_)
      refine lv_goto (tgt := 42) F.1 F.2.1 dX4_putNextNumber_38 (by decide) ?_
      exact J_42 (k_25) _ _ _ ⟨(wkb (eqb hk_25) rfl rfl), hH, hS, lv_sub hl [0, 1, 2, 3] rfl⟩
    refine z_ne (tgt := 37) F dX4_putNextNumber_24 (by decide) (fun c_26 => ?_) (fun c_26 => ?_)
    · skip
      have r_27 : 1 ≤ u_5.toInt ∧ u_5.toInt ≤ 1 := by have h9_ := hu_5; omega
      exact J_37 () _ _ _ ⟨hH, hS, lv_sub hl [1, 2, 4, 0] rfl⟩
    · skip
      have r_28 : 0 ≤ u_5.toInt ∧ u_5.toInt ≤ 0 := by have h9_ := hu_5; omega
      refine lv_iload F.1 F.2.1 dX4_putNextNumber_27 (lv_at hl 0 rfl) ?_
      refine z_gt (tgt := 37) F dX4_putNextNumber_29 (by decide) (fun c_29 => ?_) (fun c_29 => ?_)
      · skip
        have r_30 : 1 ≤ z_12.toInt ∧ z_12.toInt ≤ 2147483647 := by have h9_ := (i32b z_12); omega
        exact J_37 () _ _ _ ⟨hH, hS, lv_sub hl [1, 2, 4, 0] rfl⟩
      · skip
        have r_31 : (-2147483648) ≤ z_12.toInt ∧ z_12.toInt ≤ 0 := by have h9_ := (i32b z_12); omega
        refine lv_iload_n F.1 F.2.1 dX4_putNextNumber_32 rfl (lv_at hl 4 rfl) ?_
        refine lv_iconst (v := 1) F.1 F.2.1 dX4_putNextNumber_33 (by decide) ?_
        refine topK (a := 1) (by decide) (fun k_32 hk_32 => ?_)
        refine b_ne (tgt := 41) F dX4_putNextNumber_34 (by decide) (fun c_33 => ?_) (fun c_33 => ?_)
        · skip
          have r_34 : 2 ≤ u_6.toInt ∧ u_6.toInt ≤ 100000 := by have h9_ := r_9; omega
          refine lv_iconst (v := 0) F.1 F.2.1 dX4_putNextNumber_41 (by decide) ?_
          refine topK (a := 0) (by decide) (fun k_36 hk_36 => ?_)
          exact J_42 (k_36) _ _ _ ⟨(wkb (eqb hk_36) rfl rfl), hH, hS, lv_sub hl [1, 2, 4, 0] rfl⟩
        · skip
          have r_35 : 1 ≤ u_6.toInt ∧ u_6.toInt ≤ 1 := by have h9_ := r_9; omega
          exact J_37 () _ _ _ ⟨hH, hS, lv_sub hl [1, 2, 4, 0] rfl⟩
set_option maxHeartbeats 4000000 in
set_option maxRecDepth 100000 in
theorem c_X4_writeStore (E : Ev) (dA : TD) (dB : TD) (rc : TD) (rd : TD) (a0 : Nat) (a1 : Int32) (ha0 : eT E a0 ∈ [23]) (ha1 : 0 ≤ a1.toInt ∧ a1.toInt ≤ 3) : TcV E yX4_writeStore cX4_writeStore 2 ({ frames := 7, cells := 0, slots := 0, locals := 224 }) [.ref a0, .int a1] (fun H => TH E (tbC dA dB (riverD (.inl (0, 12)) (.inl (0, 14)) (.inl (0, 4))) (riverD (.inl (0, 12)) (.inl (0, 14)) (.inl (0, 4))) rc rd) H) (fun H => TH E (tbC dA dB (riverD (.inl (0, 12)) (.inl (0, 14)) (.inl (0, 4))) (riverD (.inl (0, 12)) (.inl (0, 14)) (.inl (0, 4))) rc rd) H) := by
  refine teV (by decide) (Nat.le_of_ble_eq_true rfl) ?_
  intro p_ ev_ s mi_ below_ meth cd_ ls F hK hN hO hH hS hl
  have hH : TH E (tbC dA dB (riverD (.inl (0, 12)) (.inl (0, 14)) (.inl (0, 4))) (riverD (.inl (0, 12)) (.inl (0, 14)) (.inl (0, 4))) rc rd) s.heap := hH
  have hl : lv_has ls 2 [(0, .ref a0), (1, .int a1)] := hl
  refine lv_aload_n F.1 F.2.1 dX4_writeStore_0 rfl (lv_at hl 0 rfl) ?_
  refine va_ldcS F.1 F.2.1 F.2.2.2.2.1 (hO.1 16 _ rfl).1 dX4_writeStore_1 ?_
  refine tVv (b := a0) (As := [.ref (eX E 16)]) (rest := []) F hK hN hO (c_X4_beginPart E dA dB rc rd a0 16 5 ha0 (strAt 16 rfl)) mv_X4_beginPart wd_53_12 ⟨Nat.le_of_ble_eq_true rfl, Nat.le_of_ble_eq_true rfl⟩ ⟨Nat.le_of_ble_eq_true rfl, Nat.le_of_ble_eq_true rfl⟩ hH hS (tRecv hK hH (tyb ha0 (all1 rfl)) clX4) rfl hl.1 (Nat.le_of_ble_eq_true rfl) dX4_writeStore_3 (fun H locs hq hS => ?_)
  have hH := hq
  have hH : TH E (tbC dA dB (riverD (.inl (0, 12)) (.inl (0, 14)) (.inl (0, 4))) (riverD (.inl (0, 12)) (.inl (0, 14)) (.inl (0, 4))) rc rd) H := hH
  refine lv_aload_n F.1 F.2.1 dX4_writeStore_6 rfl (lv_at hl 0 rfl) ?_
  refine lv_aload_n F.1 F.2.1 dX4_writeStore_7 rfl (lv_at hl 0 rfl) ?_
  refine tGetR (j := 0) F hK hH (tyb ha0 (all1 rfl)) rfl (all2 rfl rfl) clX4 (by decide) wd_5_23 dX4_writeStore_8 (fun q_2 hq_2 _ => ?_)
  refine tGetR (j := 15) F hK hH (tyb hq_2 (all2 rfl rfl)) rfl (all1 rfl) clX2 (by decide) wd_55_4 dX4_writeStore_11 (fun q_3 hq_3 _ => ?_)
  refine lv_iload_n F.1 F.2.1 dX4_writeStore_14 rfl (lv_at hl 1 rfl) ?_
  refine tIaldB F hK hH (tyb hq_3 (all1 rfl)) (ixb (n := 4) ha1 rfl rfl) dX4_writeStore_15 (fun z_4 hz_4 => ?_)
  refine tVv (b := a0) (As := [.int z_4]) (rest := []) F hK hN hO (c_X4_putNextNumber E dA dB rc rd a0 z_4 ha0) mv_X4_putNextNumber wd_54_6 ⟨Nat.le_of_ble_eq_true rfl, Nat.le_of_ble_eq_true rfl⟩ ⟨Nat.le_of_ble_eq_true rfl, Nat.le_of_ble_eq_true rfl⟩ hH hS (tRecv hK hH (tyb ha0 (all1 rfl)) clX4) rfl hl.1 (Nat.le_of_ble_eq_true rfl) dX4_writeStore_16 (fun H locs hq hS => ?_)
  have hH := hq
  have hH : TH E (tbC dA dB (riverD (.inl (0, 12)) (.inl (0, 14)) (.inl (0, 4))) (riverD (.inl (0, 12)) (.inl (0, 14)) (.inl (0, 4))) rc rd) H := hH
  refine lv_aload_n F.1 F.2.1 dX4_writeStore_19 rfl (lv_at hl 0 rfl) ?_
  refine lv_aload_n F.1 F.2.1 dX4_writeStore_20 rfl (lv_at hl 0 rfl) ?_
  refine tGetR (j := 0) F hK hH (tyb ha0 (all1 rfl)) rfl (all2 rfl rfl) clX4 (by decide) wd_5_23 dX4_writeStore_21 (fun q_6 hq_6 _ => ?_)
  refine tGetR (j := 16) F hK hH (tyb hq_6 (all2 rfl rfl)) rfl (all1 rfl) clX2 (by decide) wd_55_5 dX4_writeStore_24 (fun q_7 hq_7 _ => ?_)
  refine lv_iload_n F.1 F.2.1 dX4_writeStore_27 rfl (lv_at hl 1 rfl) ?_
  refine tIaldB F hK hH (tyb hq_7 (all1 rfl)) (ixb (n := 4) ha1 rfl rfl) dX4_writeStore_28 (fun z_8 hz_8 => ?_)
  refine tVv (b := a0) (As := [.int z_8]) (rest := []) F hK hN hO (c_X4_putNextNumber E dA dB rc rd a0 z_8 ha0) mv_X4_putNextNumber wd_54_6 ⟨Nat.le_of_ble_eq_true rfl, Nat.le_of_ble_eq_true rfl⟩ ⟨Nat.le_of_ble_eq_true rfl, Nat.le_of_ble_eq_true rfl⟩ hH hS (tRecv hK hH (tyb ha0 (all1 rfl)) clX4) rfl hl.1 (Nat.le_of_ble_eq_true rfl) dX4_writeStore_29 (fun H locs hq hS => ?_)
  have hH := hq
  have hH : TH E (tbC dA dB (riverD (.inl (0, 12)) (.inl (0, 14)) (.inl (0, 4))) (riverD (.inl (0, 12)) (.inl (0, 14)) (.inl (0, 4))) rc rd) H := hH
  refine lv_aload_n F.1 F.2.1 dX4_writeStore_32 rfl (lv_at hl 0 rfl) ?_
  refine lv_aload_n F.1 F.2.1 dX4_writeStore_33 rfl (lv_at hl 0 rfl) ?_
  refine tGetR (j := 0) F hK hH (tyb ha0 (all1 rfl)) rfl (all2 rfl rfl) clX4 (by decide) wd_5_23 dX4_writeStore_34 (fun q_10 hq_10 _ => ?_)
  refine tGetR (j := 17) F hK hH (tyb hq_10 (all2 rfl rfl)) rfl (all1 rfl) clX2 (by decide) wd_55_6 dX4_writeStore_37 (fun q_11 hq_11 _ => ?_)
  refine lv_iload_n F.1 F.2.1 dX4_writeStore_40 rfl (lv_at hl 1 rfl) ?_
  refine tIaldB F hK hH (tyb hq_11 (all1 rfl)) (ixb (n := 4) ha1 rfl rfl) dX4_writeStore_41 (fun z_12 hz_12 => ?_)
  refine tVv (b := a0) (As := [.int z_12]) (rest := []) F hK hN hO (c_X4_putNextNumber E dA dB rc rd a0 z_12 ha0) mv_X4_putNextNumber wd_54_6 ⟨Nat.le_of_ble_eq_true rfl, Nat.le_of_ble_eq_true rfl⟩ ⟨Nat.le_of_ble_eq_true rfl, Nat.le_of_ble_eq_true rfl⟩ hH hS (tRecv hK hH (tyb ha0 (all1 rfl)) clX4) rfl hl.1 (Nat.le_of_ble_eq_true rfl) dX4_writeStore_42 (fun H locs hq hS => ?_)
  have hH := hq
  have hH : TH E (tbC dA dB (riverD (.inl (0, 12)) (.inl (0, 14)) (.inl (0, 4))) (riverD (.inl (0, 12)) (.inl (0, 14)) (.inl (0, 4))) rc rd) H := hH
  refine lv_aload_n F.1 F.2.1 dX4_writeStore_45 rfl (lv_at hl 0 rfl) ?_
  refine va_ldcS F.1 F.2.1 F.2.2.2.2.1 (hO.1 13 _ rfl).1 dX4_writeStore_46 ?_
  refine tVv (b := a0) (As := [.ref (eX E 13)]) (rest := []) F hK hN hO (c_X4_putNextWord E dA dB rc rd a0 13 3 ha0 (strAt 13 rfl)) mv_X4_putNextWord wd_54_2 ⟨Nat.le_of_ble_eq_true rfl, Nat.le_of_ble_eq_true rfl⟩ ⟨Nat.le_of_ble_eq_true rfl, Nat.le_of_ble_eq_true rfl⟩ hH hS (tRecv hK hH (tyb ha0 (all1 rfl)) clX4) rfl hl.1 (Nat.le_of_ble_eq_true rfl) dX4_writeStore_48 (fun H locs hq hS => ?_)
  have hH := hq
  have hH : TH E (tbC dA dB (riverD (.inl (0, 12)) (.inl (0, 14)) (.inl (0, 4))) (riverD (.inl (0, 12)) (.inl (0, 14)) (.inl (0, 4))) rc rd) H := hH
  refine lv_aload_n F.1 F.2.1 dX4_writeStore_51 rfl (lv_at hl 0 rfl) ?_
  refine lv_aload_n F.1 F.2.1 dX4_writeStore_52 rfl (lv_at hl 0 rfl) ?_
  refine tGetR (j := 0) F hK hH (tyb ha0 (all1 rfl)) rfl (all2 rfl rfl) clX4 (by decide) wd_5_23 dX4_writeStore_53 (fun q_15 hq_15 _ => ?_)
  refine tGetR (j := 18) F hK hH (tyb hq_15 (all2 rfl rfl)) rfl (all1 rfl) clX2 (by decide) wd_55_7 dX4_writeStore_56 (fun q_16 hq_16 _ => ?_)
  refine lv_iload_n F.1 F.2.1 dX4_writeStore_59 rfl (lv_at hl 1 rfl) ?_
  refine tIaldB F hK hH (tyb hq_16 (all1 rfl)) (ixb (n := 4) ha1 rfl rfl) dX4_writeStore_60 (fun z_17 hz_17 => ?_)
  refine tVv (b := a0) (As := [.int z_17]) (rest := []) F hK hN hO (c_X4_putNextNumber E dA dB rc rd a0 z_17 ha0) mv_X4_putNextNumber wd_54_6 ⟨Nat.le_of_ble_eq_true rfl, Nat.le_of_ble_eq_true rfl⟩ ⟨Nat.le_of_ble_eq_true rfl, Nat.le_of_ble_eq_true rfl⟩ hH hS (tRecv hK hH (tyb ha0 (all1 rfl)) clX4) rfl hl.1 (Nat.le_of_ble_eq_true rfl) dX4_writeStore_61 (fun H locs hq hS => ?_)
  have hH := hq
  have hH : TH E (tbC dA dB (riverD (.inl (0, 12)) (.inl (0, 14)) (.inl (0, 4))) (riverD (.inl (0, 12)) (.inl (0, 14)) (.inl (0, 4))) rc rd) H := hH
  exact txV F hS dX4_writeStore_64 (hH)
set_option maxHeartbeats 4000000 in
set_option maxRecDepth 100000 in
theorem c_X4_writeRight (E : Ev) (dA : TD) (dB : TD) (rc : TD) (rd : TD) (a0 : Nat) (a1 : Int32) (ha0 : eT E a0 ∈ [23]) (ha1 : 0 ≤ a1.toInt ∧ a1.toInt ≤ 13) : TcV E yX4_writeRight cX4_writeRight 2 ({ frames := 7, cells := 0, slots := 0, locals := 224 }) [.ref a0, .int a1] (fun H => TH E (tbC dA dB (riverD (.inl (0, 12)) (.inl (0, 14)) (.inl (0, 4))) (riverD (.inl (0, 12)) (.inl (0, 14)) (.inl (0, 4))) rc rd) H) (fun H => TH E (tbC dA dB (riverD (.inl (0, 12)) (.inl (0, 14)) (.inl (0, 4))) (riverD (.inl (0, 12)) (.inl (0, 14)) (.inl (0, 4))) rc rd) H) := by
  refine teV (by decide) (Nat.le_of_ble_eq_true rfl) ?_
  intro p_ ev_ s mi_ below_ meth cd_ ls F hK hN hO hH hS hl
  have hH : TH E (tbC dA dB (riverD (.inl (0, 12)) (.inl (0, 14)) (.inl (0, 4))) (riverD (.inl (0, 12)) (.inl (0, 14)) (.inl (0, 4))) rc rd) s.heap := hH
  have hl : lv_has ls 2 [(0, .ref a0), (1, .int a1)] := hl
  refine lv_aload_n F.1 F.2.1 dX4_writeRight_0 rfl (lv_at hl 0 rfl) ?_
  refine va_ldcS F.1 F.2.1 F.2.2.2.2.1 (hO.1 12 _ rfl).1 dX4_writeRight_1 ?_
  refine tVv (b := a0) (As := [.ref (eX E 12)]) (rest := []) F hK hN hO (c_X4_beginPart E dA dB rc rd a0 12 5 ha0 (strAt 12 rfl)) mv_X4_beginPart wd_53_12 ⟨Nat.le_of_ble_eq_true rfl, Nat.le_of_ble_eq_true rfl⟩ ⟨Nat.le_of_ble_eq_true rfl, Nat.le_of_ble_eq_true rfl⟩ hH hS (tRecv hK hH (tyb ha0 (all1 rfl)) clX4) rfl hl.1 (Nat.le_of_ble_eq_true rfl) dX4_writeRight_3 (fun H locs hq hS => ?_)
  have hH := hq
  have hH : TH E (tbC dA dB (riverD (.inl (0, 12)) (.inl (0, 14)) (.inl (0, 4))) (riverD (.inl (0, 12)) (.inl (0, 14)) (.inl (0, 4))) rc rd) H := hH
  refine lv_aload_n F.1 F.2.1 dX4_writeRight_6 rfl (lv_at hl 0 rfl) ?_
  refine lv_aload_n F.1 F.2.1 dX4_writeRight_7 rfl (lv_at hl 0 rfl) ?_
  refine tGetR (j := 1) F hK hH (tyb ha0 (all1 rfl)) rfl (all1 rfl) clX4 (by decide) wd_6_0 dX4_writeRight_8 (fun q_2 hq_2 _ => ?_)
  refine tGetR (j := 2) F hK hH (tyb hq_2 (all1 rfl)) rfl (all1 rfl) clX5 (by decide) wd_54_15 dX4_writeRight_11 (fun q_3 hq_3 _ => ?_)
  refine lv_iload_n F.1 F.2.1 dX4_writeRight_14 rfl (lv_at hl 1 rfl) ?_
  refine tIaldB F hK hH (tyb hq_3 (all1 rfl)) (ixb (n := 14) ha1 rfl rfl) dX4_writeRight_15 (fun z_4 hz_4 => ?_)
  refine tVv (b := a0) (As := [.int z_4]) (rest := []) F hK hN hO (c_X4_putNextNumber E dA dB rc rd a0 z_4 ha0) mv_X4_putNextNumber wd_54_6 ⟨Nat.le_of_ble_eq_true rfl, Nat.le_of_ble_eq_true rfl⟩ ⟨Nat.le_of_ble_eq_true rfl, Nat.le_of_ble_eq_true rfl⟩ hH hS (tRecv hK hH (tyb ha0 (all1 rfl)) clX4) rfl hl.1 (Nat.le_of_ble_eq_true rfl) dX4_writeRight_16 (fun H locs hq hS => ?_)
  have hH := hq
  have hH : TH E (tbC dA dB (riverD (.inl (0, 12)) (.inl (0, 14)) (.inl (0, 4))) (riverD (.inl (0, 12)) (.inl (0, 14)) (.inl (0, 4))) rc rd) H := hH
  refine lv_aload_n F.1 F.2.1 dX4_writeRight_19 rfl (lv_at hl 0 rfl) ?_
  refine lv_aload_n F.1 F.2.1 dX4_writeRight_20 rfl (lv_at hl 0 rfl) ?_
  refine tGetR (j := 0) F hK hH (tyb ha0 (all1 rfl)) rfl (all2 rfl rfl) clX4 (by decide) wd_5_23 dX4_writeRight_21 (fun q_6 hq_6 _ => ?_)
  refine tGetR (j := 6) F hK hH (tyb hq_6 (all2 rfl rfl)) rfl (all1 rfl) clX2 (by decide) wd_54_16 dX4_writeRight_24 (fun q_7 hq_7 _ => ?_)
  refine lv_iload_n F.1 F.2.1 dX4_writeRight_27 rfl (lv_at hl 1 rfl) ?_
  refine tIaldB F hK hH (tyb hq_7 (all1 rfl)) (ixb (n := 14) ha1 rfl rfl) dX4_writeRight_28 (fun z_8 hz_8 => ?_)
  refine tVv (b := a0) (As := [.int z_8]) (rest := []) F hK hN hO (c_X4_putNextNumber E dA dB rc rd a0 z_8 ha0) mv_X4_putNextNumber wd_54_6 ⟨Nat.le_of_ble_eq_true rfl, Nat.le_of_ble_eq_true rfl⟩ ⟨Nat.le_of_ble_eq_true rfl, Nat.le_of_ble_eq_true rfl⟩ hH hS (tRecv hK hH (tyb ha0 (all1 rfl)) clX4) rfl hl.1 (Nat.le_of_ble_eq_true rfl) dX4_writeRight_29 (fun H locs hq hS => ?_)
  have hH := hq
  have hH : TH E (tbC dA dB (riverD (.inl (0, 12)) (.inl (0, 14)) (.inl (0, 4))) (riverD (.inl (0, 12)) (.inl (0, 14)) (.inl (0, 4))) rc rd) H := hH
  refine lv_aload_n F.1 F.2.1 dX4_writeRight_32 rfl (lv_at hl 0 rfl) ?_
  refine lv_aload_n F.1 F.2.1 dX4_writeRight_33 rfl (lv_at hl 0 rfl) ?_
  refine tGetR (j := 0) F hK hH (tyb ha0 (all1 rfl)) rfl (all2 rfl rfl) clX4 (by decide) wd_5_23 dX4_writeRight_34 (fun q_10 hq_10 _ => ?_)
  refine tGetR (j := 7) F hK hH (tyb hq_10 (all2 rfl rfl)) rfl (all1 rfl) clX2 (by decide) wd_54_17 dX4_writeRight_37 (fun q_11 hq_11 _ => ?_)
  refine lv_iload_n F.1 F.2.1 dX4_writeRight_40 rfl (lv_at hl 1 rfl) ?_
  refine tIaldB F hK hH (tyb hq_11 (all1 rfl)) (ixb (n := 14) ha1 rfl rfl) dX4_writeRight_41 (fun z_12 hz_12 => ?_)
  refine tVv (b := a0) (As := [.int z_12]) (rest := []) F hK hN hO (c_X4_putNextNumber E dA dB rc rd a0 z_12 ha0) mv_X4_putNextNumber wd_54_6 ⟨Nat.le_of_ble_eq_true rfl, Nat.le_of_ble_eq_true rfl⟩ ⟨Nat.le_of_ble_eq_true rfl, Nat.le_of_ble_eq_true rfl⟩ hH hS (tRecv hK hH (tyb ha0 (all1 rfl)) clX4) rfl hl.1 (Nat.le_of_ble_eq_true rfl) dX4_writeRight_42 (fun H locs hq hS => ?_)
  have hH := hq
  have hH : TH E (tbC dA dB (riverD (.inl (0, 12)) (.inl (0, 14)) (.inl (0, 4))) (riverD (.inl (0, 12)) (.inl (0, 14)) (.inl (0, 4))) rc rd) H := hH
  refine lv_aload_n F.1 F.2.1 dX4_writeRight_45 rfl (lv_at hl 0 rfl) ?_
  refine lv_aload_n F.1 F.2.1 dX4_writeRight_46 rfl (lv_at hl 0 rfl) ?_
  refine tGetR (j := 0) F hK hH (tyb ha0 (all1 rfl)) rfl (all2 rfl rfl) clX4 (by decide) wd_5_23 dX4_writeRight_47 (fun q_14 hq_14 _ => ?_)
  refine tGetR (j := 8) F hK hH (tyb hq_14 (all2 rfl rfl)) rfl (all1 rfl) clX2 (by decide) wd_54_18 dX4_writeRight_50 (fun q_15 hq_15 _ => ?_)
  refine lv_iload_n F.1 F.2.1 dX4_writeRight_53 rfl (lv_at hl 1 rfl) ?_
  refine tIaldB F hK hH (tyb hq_15 (all1 rfl)) (ixb (n := 14) ha1 rfl rfl) dX4_writeRight_54 (fun z_16 hz_16 => ?_)
  refine tVv (b := a0) (As := [.int z_16]) (rest := []) F hK hN hO (c_X4_putNextNumber E dA dB rc rd a0 z_16 ha0) mv_X4_putNextNumber wd_54_6 ⟨Nat.le_of_ble_eq_true rfl, Nat.le_of_ble_eq_true rfl⟩ ⟨Nat.le_of_ble_eq_true rfl, Nat.le_of_ble_eq_true rfl⟩ hH hS (tRecv hK hH (tyb ha0 (all1 rfl)) clX4) rfl hl.1 (Nat.le_of_ble_eq_true rfl) dX4_writeRight_55 (fun H locs hq hS => ?_)
  have hH := hq
  have hH : TH E (tbC dA dB (riverD (.inl (0, 12)) (.inl (0, 14)) (.inl (0, 4))) (riverD (.inl (0, 12)) (.inl (0, 14)) (.inl (0, 4))) rc rd) H := hH
  refine lv_aload_n F.1 F.2.1 dX4_writeRight_58 rfl (lv_at hl 0 rfl) ?_
  refine va_ldcS F.1 F.2.1 F.2.2.2.2.1 (hO.1 13 _ rfl).1 dX4_writeRight_59 ?_
  refine tVv (b := a0) (As := [.ref (eX E 13)]) (rest := []) F hK hN hO (c_X4_putNextWord E dA dB rc rd a0 13 3 ha0 (strAt 13 rfl)) mv_X4_putNextWord wd_54_2 ⟨Nat.le_of_ble_eq_true rfl, Nat.le_of_ble_eq_true rfl⟩ ⟨Nat.le_of_ble_eq_true rfl, Nat.le_of_ble_eq_true rfl⟩ hH hS (tRecv hK hH (tyb ha0 (all1 rfl)) clX4) rfl hl.1 (Nat.le_of_ble_eq_true rfl) dX4_writeRight_61 (fun H locs hq hS => ?_)
  have hH := hq
  have hH : TH E (tbC dA dB (riverD (.inl (0, 12)) (.inl (0, 14)) (.inl (0, 4))) (riverD (.inl (0, 12)) (.inl (0, 14)) (.inl (0, 4))) rc rd) H := hH
  refine lv_aload_n F.1 F.2.1 dX4_writeRight_64 rfl (lv_at hl 0 rfl) ?_
  refine lv_aload_n F.1 F.2.1 dX4_writeRight_65 rfl (lv_at hl 0 rfl) ?_
  refine tGetR (j := 1) F hK hH (tyb ha0 (all1 rfl)) rfl (all1 rfl) clX4 (by decide) wd_6_0 dX4_writeRight_66 (fun q_19 hq_19 _ => ?_)
  refine tGetR (j := 3) F hK hH (tyb hq_19 (all1 rfl)) rfl (all1 rfl) clX5 (by decide) wd_54_19 dX4_writeRight_69 (fun q_20 hq_20 _ => ?_)
  refine lv_iload_n F.1 F.2.1 dX4_writeRight_72 rfl (lv_at hl 1 rfl) ?_
  refine tIaldB F hK hH (tyb hq_20 (all1 rfl)) (ixb (n := 14) ha1 rfl rfl) dX4_writeRight_73 (fun z_21 hz_21 => ?_)
  refine tVv (b := a0) (As := [.int z_21]) (rest := []) F hK hN hO (c_X4_putNextNumber E dA dB rc rd a0 z_21 ha0) mv_X4_putNextNumber wd_54_6 ⟨Nat.le_of_ble_eq_true rfl, Nat.le_of_ble_eq_true rfl⟩ ⟨Nat.le_of_ble_eq_true rfl, Nat.le_of_ble_eq_true rfl⟩ hH hS (tRecv hK hH (tyb ha0 (all1 rfl)) clX4) rfl hl.1 (Nat.le_of_ble_eq_true rfl) dX4_writeRight_74 (fun H locs hq hS => ?_)
  have hH := hq
  have hH : TH E (tbC dA dB (riverD (.inl (0, 12)) (.inl (0, 14)) (.inl (0, 4))) (riverD (.inl (0, 12)) (.inl (0, 14)) (.inl (0, 4))) rc rd) H := hH
  refine lv_aload_n F.1 F.2.1 dX4_writeRight_77 rfl (lv_at hl 0 rfl) ?_
  refine tGetR (j := 0) F hK hH (tyb ha0 (all1 rfl)) rfl (all2 rfl rfl) clX4 (by decide) wd_5_23 dX4_writeRight_78 (fun q_23 hq_23 _ => ?_)
  refine tGetR (j := 10) F hK hH (tyb hq_23 (all2 rfl rfl)) rfl (all1 rfl) clX2 (by decide) wd_54_20 dX4_writeRight_81 (fun q_24 hq_24 _ => ?_)
  refine lv_iload_n F.1 F.2.1 dX4_writeRight_84 rfl (lv_at hl 1 rfl) ?_
  refine tIaldB F hK hH (tyb hq_24 (all1 rfl)) (ixb (n := 14) ha1 rfl rfl) dX4_writeRight_85 (fun z_25 hz_25 => ?_)
  refine wjoin (σ := Unit) (pcj := 108) (stj := fun x9 => []) (fun x9 H locs ls => TH E (tbC dA dB (riverD (.inl (0, 12)) (.inl (0, 14)) (.inl (0, 4))) (riverD (.inl (0, 12)) (.inl (0, 14)) (.inl (0, 4))) rc rd) H ∧ va_S (eA E s.heap.size) s.heap H locs ∧ lv_has ls 2 [(0, .ref a0), (1, .int a1)]) (fun x9 H locs ls h_ => ?_) (fun J_108 => ?_)
  · skip
    obtain ⟨hH, hS, hl⟩ := h_
    have hH : TH E (tbC dA dB (riverD (.inl (0, 12)) (.inl (0, 14)) (.inl (0, 4))) (riverD (.inl (0, 12)) (.inl (0, 14)) (.inl (0, 4))) rc rd) H := hH
    have hl : lv_has ls 2 [(0, .ref a0), (1, .int a1)] := hl
    show W _ _ _ _ _ _ _ _ _ _ _ _ _ _ _ (F0 _ _ _ [])
    refine lv_aload_n F.1 F.2.1 dX4_writeRight_108 rfl (lv_at hl 0 rfl) ?_
    refine tGetR (j := 0) F hK hH (tyb ha0 (all1 rfl)) rfl (all2 rfl rfl) clX4 (by decide) wd_5_23 dX4_writeRight_109 (fun q_26 hq_26 _ => ?_)
    refine tGetR (j := 11) F hK hH (tyb hq_26 (all2 rfl rfl)) rfl (all1 rfl) clX2 (by decide) wd_54_21 dX4_writeRight_112 (fun q_27 hq_27 _ => ?_)
    refine lv_iload_n F.1 F.2.1 dX4_writeRight_115 rfl (lv_at hl 1 rfl) ?_
    refine tIaldB F hK hH (tyb hq_27 (all1 rfl)) (ixb (n := 14) ha1 rfl rfl) dX4_writeRight_116 (fun z_28 hz_28 => ?_)
    refine z_lt (tgt := 165) F dX4_writeRight_117 (by decide) (fun c_29 => ?_) (fun c_29 => ?_)
    · skip
      have r_30 : (-2) ≤ z_28.toInt ∧ z_28.toInt ≤ (-1) := by have h9_ := hz_28; omega
      exact txV F hS dX4_writeRight_165 (hH)
    · skip
      have r_31 : 0 ≤ z_28.toInt ∧ z_28.toInt ≤ 11 := by have h9_ := hz_28; omega
      refine lv_aload_n F.1 F.2.1 dX4_writeRight_120 rfl (lv_at hl 0 rfl) ?_
      refine va_ldcS F.1 F.2.1 F.2.2.2.2.1 (hO.1 15 _ rfl).1 dX4_writeRight_121 ?_
      refine tVv (b := a0) (As := [.ref (eX E 15)]) (rest := []) F hK hN hO (c_X4_putNextWord E dA dB rc rd a0 15 4 ha0 (strAt 15 rfl)) mv_X4_putNextWord wd_54_2 ⟨Nat.le_of_ble_eq_true rfl, Nat.le_of_ble_eq_true rfl⟩ ⟨Nat.le_of_ble_eq_true rfl, Nat.le_of_ble_eq_true rfl⟩ hH hS (tRecv hK hH (tyb ha0 (all1 rfl)) clX4) rfl hl.1 (Nat.le_of_ble_eq_true rfl) dX4_writeRight_123 (fun H locs hq hS => ?_)
      have hH := hq
      have hH : TH E (tbC dA dB (riverD (.inl (0, 12)) (.inl (0, 14)) (.inl (0, 4))) (riverD (.inl (0, 12)) (.inl (0, 14)) (.inl (0, 4))) rc rd) H := hH
      refine lv_aload_n F.1 F.2.1 dX4_writeRight_126 rfl (lv_at hl 0 rfl) ?_
      refine lv_aload_n F.1 F.2.1 dX4_writeRight_127 rfl (lv_at hl 0 rfl) ?_
      refine tGetR (j := 0) F hK hH (tyb ha0 (all1 rfl)) rfl (all2 rfl rfl) clX4 (by decide) wd_5_23 dX4_writeRight_128 (fun q_33 hq_33 _ => ?_)
      refine tGetR (j := 11) F hK hH (tyb hq_33 (all2 rfl rfl)) rfl (all1 rfl) clX2 (by decide) wd_54_21 dX4_writeRight_131 (fun q_34 hq_34 _ => ?_)
      refine lv_iload_n F.1 F.2.1 dX4_writeRight_134 rfl (lv_at hl 1 rfl) ?_
      refine tIaldB F hK hH (tyb hq_34 (all1 rfl)) (ixb (n := 14) ha1 rfl rfl) dX4_writeRight_135 (fun z_35 hz_35 => ?_)
      refine tVv (b := a0) (As := [.int z_35]) (rest := []) F hK hN hO (c_X4_putNextNumber E dA dB rc rd a0 z_35 ha0) mv_X4_putNextNumber wd_54_6 ⟨Nat.le_of_ble_eq_true rfl, Nat.le_of_ble_eq_true rfl⟩ ⟨Nat.le_of_ble_eq_true rfl, Nat.le_of_ble_eq_true rfl⟩ hH hS (tRecv hK hH (tyb ha0 (all1 rfl)) clX4) rfl hl.1 (Nat.le_of_ble_eq_true rfl) dX4_writeRight_136 (fun H locs hq hS => ?_)
      have hH := hq
      have hH : TH E (tbC dA dB (riverD (.inl (0, 12)) (.inl (0, 14)) (.inl (0, 4))) (riverD (.inl (0, 12)) (.inl (0, 14)) (.inl (0, 4))) rc rd) H := hH
      refine lv_aload_n F.1 F.2.1 dX4_writeRight_139 rfl (lv_at hl 0 rfl) ?_
      refine lv_aload_n F.1 F.2.1 dX4_writeRight_140 rfl (lv_at hl 0 rfl) ?_
      refine tGetR (j := 0) F hK hH (tyb ha0 (all1 rfl)) rfl (all2 rfl rfl) clX4 (by decide) wd_5_23 dX4_writeRight_141 (fun q_37 hq_37 _ => ?_)
      refine tGetR (j := 12) F hK hH (tyb hq_37 (all2 rfl rfl)) rfl (all1 rfl) clX2 (by decide) wd_54_22 dX4_writeRight_144 (fun q_38 hq_38 _ => ?_)
      refine lv_iload_n F.1 F.2.1 dX4_writeRight_147 rfl (lv_at hl 1 rfl) ?_
      refine tIaldB F hK hH (tyb hq_38 (all1 rfl)) (ixb (n := 14) ha1 rfl rfl) dX4_writeRight_148 (fun z_39 hz_39 => ?_)
      refine tVv (b := a0) (As := [.int z_39]) (rest := []) F hK hN hO (c_X4_putNextNumber E dA dB rc rd a0 z_39 ha0) mv_X4_putNextNumber wd_54_6 ⟨Nat.le_of_ble_eq_true rfl, Nat.le_of_ble_eq_true rfl⟩ ⟨Nat.le_of_ble_eq_true rfl, Nat.le_of_ble_eq_true rfl⟩ hH hS (tRecv hK hH (tyb ha0 (all1 rfl)) clX4) rfl hl.1 (Nat.le_of_ble_eq_true rfl) dX4_writeRight_149 (fun H locs hq hS => ?_)
      have hH := hq
      have hH : TH E (tbC dA dB (riverD (.inl (0, 12)) (.inl (0, 14)) (.inl (0, 4))) (riverD (.inl (0, 12)) (.inl (0, 14)) (.inl (0, 4))) rc rd) H := hH
      refine lv_aload_n F.1 F.2.1 dX4_writeRight_152 rfl (lv_at hl 0 rfl) ?_
      refine lv_aload_n F.1 F.2.1 dX4_writeRight_153 rfl (lv_at hl 0 rfl) ?_
      refine tGetR (j := 0) F hK hH (tyb ha0 (all1 rfl)) rfl (all2 rfl rfl) clX4 (by decide) wd_5_23 dX4_writeRight_154 (fun q_41 hq_41 _ => ?_)
      refine tGetR (j := 13) F hK hH (tyb hq_41 (all2 rfl rfl)) rfl (all1 rfl) clX2 (by decide) wd_54_23 dX4_writeRight_157 (fun q_42 hq_42 _ => ?_)
      refine lv_iload_n F.1 F.2.1 dX4_writeRight_160 rfl (lv_at hl 1 rfl) ?_
      refine tIaldB F hK hH (tyb hq_42 (all1 rfl)) (ixb (n := 14) ha1 rfl rfl) dX4_writeRight_161 (fun z_43 hz_43 => ?_)
      refine tVv (b := a0) (As := [.int z_43]) (rest := []) F hK hN hO (c_X4_putNextNumber E dA dB rc rd a0 z_43 ha0) mv_X4_putNextNumber wd_54_6 ⟨Nat.le_of_ble_eq_true rfl, Nat.le_of_ble_eq_true rfl⟩ ⟨Nat.le_of_ble_eq_true rfl, Nat.le_of_ble_eq_true rfl⟩ hH hS (tRecv hK hH (tyb ha0 (all1 rfl)) clX4) rfl hl.1 (Nat.le_of_ble_eq_true rfl) dX4_writeRight_162 (fun H locs hq hS => ?_)
      have hH := hq
      have hH : TH E (tbC dA dB (riverD (.inl (0, 12)) (.inl (0, 14)) (.inl (0, 4))) (riverD (.inl (0, 12)) (.inl (0, 14)) (.inl (0, 4))) rc rd) H := hH
      exact txV F hS dX4_writeRight_165 (hH)
  refine z_le (tgt := 108) F dX4_writeRight_86 (by decide) (fun c_45 => ?_) (fun c_45 => ?_)
  · skip
    have r_46 : (-2147483648) ≤ z_25.toInt ∧ z_25.toInt ≤ 0 := by have h9_ := hz_25; omega
    exact J_108 () _ _ _ ⟨hH, hS, lv_sub hl [0, 1] rfl⟩
  · skip
    have r_47 : 1 ≤ z_25.toInt ∧ z_25.toInt ≤ 2147483647 := by have h9_ := hz_25; omega
    refine lv_aload_n F.1 F.2.1 dX4_writeRight_89 rfl (lv_at hl 0 rfl) ?_
    refine va_ldcS F.1 F.2.1 F.2.2.2.2.1 (hO.1 14 _ rfl).1 dX4_writeRight_90 ?_
    refine tVv (b := a0) (As := [.ref (eX E 14)]) (rest := []) F hK hN hO (c_X4_putNextWord E dA dB rc rd a0 14 3 ha0 (strAt 14 rfl)) mv_X4_putNextWord wd_54_2 ⟨Nat.le_of_ble_eq_true rfl, Nat.le_of_ble_eq_true rfl⟩ ⟨Nat.le_of_ble_eq_true rfl, Nat.le_of_ble_eq_true rfl⟩ hH hS (tRecv hK hH (tyb ha0 (all1 rfl)) clX4) rfl hl.1 (Nat.le_of_ble_eq_true rfl) dX4_writeRight_92 (fun H locs hq hS => ?_)
    have hH := hq
    have hH : TH E (tbC dA dB (riverD (.inl (0, 12)) (.inl (0, 14)) (.inl (0, 4))) (riverD (.inl (0, 12)) (.inl (0, 14)) (.inl (0, 4))) rc rd) H := hH
    refine lv_aload_n F.1 F.2.1 dX4_writeRight_95 rfl (lv_at hl 0 rfl) ?_
    refine lv_aload_n F.1 F.2.1 dX4_writeRight_96 rfl (lv_at hl 0 rfl) ?_
    refine tGetR (j := 0) F hK hH (tyb ha0 (all1 rfl)) rfl (all2 rfl rfl) clX4 (by decide) wd_5_23 dX4_writeRight_97 (fun q_49 hq_49 _ => ?_)
    refine tGetR (j := 10) F hK hH (tyb hq_49 (all2 rfl rfl)) rfl (all1 rfl) clX2 (by decide) wd_54_20 dX4_writeRight_100 (fun q_50 hq_50 _ => ?_)
    refine lv_iload_n F.1 F.2.1 dX4_writeRight_103 rfl (lv_at hl 1 rfl) ?_
    refine tIaldB F hK hH (tyb hq_50 (all1 rfl)) (ixb (n := 14) ha1 rfl rfl) dX4_writeRight_104 (fun z_51 hz_51 => ?_)
    refine tVv (b := a0) (As := [.int z_51]) (rest := []) F hK hN hO (c_X4_putNextNumber E dA dB rc rd a0 z_51 ha0) mv_X4_putNextNumber wd_54_6 ⟨Nat.le_of_ble_eq_true rfl, Nat.le_of_ble_eq_true rfl⟩ ⟨Nat.le_of_ble_eq_true rfl, Nat.le_of_ble_eq_true rfl⟩ hH hS (tRecv hK hH (tyb ha0 (all1 rfl)) clX4) rfl hl.1 (Nat.le_of_ble_eq_true rfl) dX4_writeRight_105 (fun H locs hq hS => ?_)
    have hH := hq
    have hH : TH E (tbC dA dB (riverD (.inl (0, 12)) (.inl (0, 14)) (.inl (0, 4))) (riverD (.inl (0, 12)) (.inl (0, 14)) (.inl (0, 4))) rc rd) H := hH
    exact J_108 () _ _ _ ⟨hH, hS, lv_sub hl [0, 1] rfl⟩
set_option maxHeartbeats 4000000 in
set_option maxRecDepth 100000 in
theorem c_X4_writeReach (E : Ev) (dA : TD) (dB : TD) (rc : TD) (rd : TD) (a0 : Nat) (a1 : Int32) (ha0 : eT E a0 ∈ [23]) (ha1 : 0 ≤ a1.toInt ∧ a1.toInt ≤ 11) : TcV E yX4_writeReach cX4_writeReach 3 ({ frames := 7, cells := 0, slots := 0, locals := 224 }) [.ref a0, .int a1] (fun H => TH E (tbC dA dB (riverD (.inl (0, 12)) (.inl (0, 14)) (.inl (0, 4))) (riverD (.inl (0, 12)) (.inl (0, 14)) (.inl (0, 4))) rc rd) H) (fun H => TH E (tbC dA dB (riverD (.inl (0, 12)) (.inl (0, 14)) (.inl (0, 4))) (riverD (.inl (0, 12)) (.inl (0, 14)) (.inl (0, 4))) rc rd) H) := by
  refine teV (by decide) (Nat.le_of_ble_eq_true rfl) ?_
  intro p_ ev_ s mi_ below_ meth cd_ ls F hK hN hO hH hS hl
  have hH : TH E (tbC dA dB (riverD (.inl (0, 12)) (.inl (0, 14)) (.inl (0, 4))) (riverD (.inl (0, 12)) (.inl (0, 14)) (.inl (0, 4))) rc rd) s.heap := hH
  have hl : lv_has ls 3 [(0, .ref a0), (1, .int a1)] := hl
  refine lv_aload_n F.1 F.2.1 dX4_writeReach_0 rfl (lv_at hl 0 rfl) ?_
  refine va_ldcS F.1 F.2.1 F.2.2.2.2.1 (hO.1 9 _ rfl).1 dX4_writeReach_1 ?_
  refine tVv (b := a0) (As := [.ref (eX E 9)]) (rest := []) F hK hN hO (c_X4_beginPart E dA dB rc rd a0 9 5 ha0 (strAt 9 rfl)) mv_X4_beginPart wd_53_12 ⟨Nat.le_of_ble_eq_true rfl, Nat.le_of_ble_eq_true rfl⟩ ⟨Nat.le_of_ble_eq_true rfl, Nat.le_of_ble_eq_true rfl⟩ hH hS (tRecv hK hH (tyb ha0 (all1 rfl)) clX4) rfl hl.1 (Nat.le_of_ble_eq_true rfl) dX4_writeReach_3 (fun H locs hq hS => ?_)
  have hH := hq
  have hH : TH E (tbC dA dB (riverD (.inl (0, 12)) (.inl (0, 14)) (.inl (0, 4))) (riverD (.inl (0, 12)) (.inl (0, 14)) (.inl (0, 4))) rc rd) H := hH
  refine lv_aload_n F.1 F.2.1 dX4_writeReach_6 rfl (lv_at hl 0 rfl) ?_
  refine tGetR (j := 0) F hK hH (tyb ha0 (all1 rfl)) rfl (all2 rfl rfl) clX4 (by decide) wd_5_23 dX4_writeReach_7 (fun q_2 hq_2 _ => ?_)
  refine tGetR (j := 1) F hK hH (tyb hq_2 (all2 rfl rfl)) rfl (all1 rfl) clX2 (by decide) wd_53_9 dX4_writeReach_10 (fun q_3 hq_3 _ => ?_)
  refine lv_iload_n F.1 F.2.1 dX4_writeReach_13 rfl (lv_at hl 1 rfl) ?_
  refine tIaldB F hK hH (tyb hq_3 (all1 rfl)) (ixb (n := 12) ha1 rfl rfl) dX4_writeReach_14 (fun z_4 hz_4 => ?_)
  refine z_ge (tgt := 27) F dX4_writeReach_15 (by decide) (fun c_5 => ?_) (fun c_5 => ?_)
  · skip
    have r_6 : 0 ≤ z_4.toInt ∧ z_4.toInt ≤ 11 := by have h9_ := hz_4; omega
    refine lv_aload_n F.1 F.2.1 dX4_writeReach_27 rfl (lv_at hl 0 rfl) ?_
    refine lv_aload_n F.1 F.2.1 dX4_writeReach_28 rfl (lv_at hl 0 rfl) ?_
    refine tGetR (j := 0) F hK hH (tyb ha0 (all1 rfl)) rfl (all2 rfl rfl) clX4 (by decide) wd_5_23 dX4_writeReach_29 (fun q_8 hq_8 _ => ?_)
    refine tGetR (j := 1) F hK hH (tyb hq_8 (all2 rfl rfl)) rfl (all1 rfl) clX2 (by decide) wd_53_9 dX4_writeReach_32 (fun q_9 hq_9 _ => ?_)
    refine lv_iload_n F.1 F.2.1 dX4_writeReach_35 rfl (lv_at hl 1 rfl) ?_
    refine tIaldB F hK hH (tyb hq_9 (all1 rfl)) (ixb (n := 12) ha1 rfl rfl) dX4_writeReach_36 (fun z_10 hz_10 => ?_)
    refine tVv (b := a0) (As := [.int z_10]) (rest := []) F hK hN hO (c_X4_putNextNumber E dA dB rc rd a0 z_10 ha0) mv_X4_putNextNumber wd_54_6 ⟨Nat.le_of_ble_eq_true rfl, Nat.le_of_ble_eq_true rfl⟩ ⟨Nat.le_of_ble_eq_true rfl, Nat.le_of_ble_eq_true rfl⟩ hH hS (tRecv hK hH (tyb ha0 (all1 rfl)) clX4) rfl hl.1 (Nat.le_of_ble_eq_true rfl) dX4_writeReach_37 (fun H locs hq hS => ?_)
    have hH := hq
    have hH : TH E (tbC dA dB (riverD (.inl (0, 12)) (.inl (0, 14)) (.inl (0, 4))) (riverD (.inl (0, 12)) (.inl (0, 14)) (.inl (0, 4))) rc rd) H := hH
    refine lv_iconst (v := 0) F.1 F.2.1 dX4_writeReach_40 (by decide) ?_
    refine topK (a := 0) (by decide) (fun k_12 hk_12 => ?_)
    refine lv_istore_n (lv' := [(2, .int k_12), (0, .ref a0), (1, .int a1)]) F.1 F.2.1 dX4_writeReach_41 rfl hl (by decide) rfl (fun ls hl => ?_)
    refine wloop (σ := Int32) (fun n9 x9 H locs ls => (4 - x9.toInt + 1).toNat < n9 ∧ (0 ≤ x9.toInt ∧ x9.toInt ≤ 4) ∧ TH E (tbC dA dB (riverD (.inl (0, 12)) (.inl (0, 14)) (.inl (0, 4))) (riverD (.inl (0, 12)) (.inl (0, 14)) (.inl (0, 4))) rc rd) H ∧ va_S (eA E s.heap.size) s.heap H locs ∧ lv_has ls 3 [(0, .ref a0), (1, .int a1), (2, .int x9)]) ?_ (fun x9 H locs ls h => absurd h.1 (Nat.not_lt_zero _)) _ (k_12) ⟨Nat.lt_succ_self _, (wkb (eqb hk_12) rfl rfl), hH, hS, lv_sub hl [1, 2, 0] rfl⟩
    intro n_42 ih_42 u_13 H locs ls ⟨hm_42, hu_13, hH, hS, hl⟩
    have hm_42 : (4 - u_13.toInt + 1).toNat < n_42 + 1 := hm_42
    have hu_13 : (0 ≤ u_13.toInt ∧ u_13.toInt ≤ 4) := hu_13
    have hH : TH E (tbC dA dB (riverD (.inl (0, 12)) (.inl (0, 14)) (.inl (0, 4))) (riverD (.inl (0, 12)) (.inl (0, 14)) (.inl (0, 4))) rc rd) H := hH
    have hl : lv_has ls 3 [(0, .ref a0), (1, .int a1), (2, .int u_13)] := hl
    refine lv_iload_n F.1 F.2.1 dX4_writeReach_42 rfl (lv_at hl 2 rfl) ?_
    refine lv_iconst (v := 4) F.1 F.2.1 dX4_writeReach_43 (by decide) ?_
    refine topK (a := 4) (by decide) (fun k_14 hk_14 => ?_)
    refine b_ge (tgt := 70) F dX4_writeReach_44 (by decide) (fun c_15 => ?_) (fun c_15 => ?_)
    · skip
      have r_16 : 4 ≤ u_13.toInt ∧ u_13.toInt ≤ 4 := by have h9_ := hu_13; omega
      refine lv_aload_n F.1 F.2.1 dX4_writeReach_70 rfl (lv_at hl 0 rfl) ?_
      refine tGetR (j := 0) F hK hH (tyb ha0 (all1 rfl)) rfl (all2 rfl rfl) clX4 (by decide) wd_5_23 dX4_writeReach_71 (fun q_18 hq_18 _ => ?_)
      refine tGetR (j := 2) F hK hH (tyb hq_18 (all2 rfl rfl)) rfl (all1 rfl) clX2 (by decide) wd_53_11 dX4_writeReach_74 (fun q_19 hq_19 _ => ?_)
      refine lv_iload_n F.1 F.2.1 dX4_writeReach_77 rfl (lv_at hl 1 rfl) ?_
      refine tIaldB F hK hH (tyb hq_19 (all1 rfl)) (ixb (n := 12) ha1 rfl rfl) dX4_writeReach_78 (fun z_20 hz_20 => ?_)
      refine z_eq (tgt := 101) F dX4_writeReach_79 (by decide) (fun c_21 => ?_) (fun c_21 => ?_)
      · skip
        have r_22 : 0 ≤ z_20.toInt ∧ z_20.toInt ≤ 0 := by have h9_ := hz_20; omega
        exact txV F hS dX4_writeReach_101 (hH)
      · skip
        refine lv_aload_n F.1 F.2.1 dX4_writeReach_82 rfl (lv_at hl 0 rfl) ?_
        refine va_ldcS F.1 F.2.1 F.2.2.2.2.1 (hO.1 11 _ rfl).1 dX4_writeReach_83 ?_
        refine tVv (b := a0) (As := [.ref (eX E 11)]) (rest := []) F hK hN hO (c_X4_putNextWord E dA dB rc rd a0 11 4 ha0 (strAt 11 rfl)) mv_X4_putNextWord wd_54_2 ⟨Nat.le_of_ble_eq_true rfl, Nat.le_of_ble_eq_true rfl⟩ ⟨Nat.le_of_ble_eq_true rfl, Nat.le_of_ble_eq_true rfl⟩ hH hS (tRecv hK hH (tyb ha0 (all1 rfl)) clX4) rfl hl.1 (Nat.le_of_ble_eq_true rfl) dX4_writeReach_85 (fun H locs hq hS => ?_)
        have hH := hq
        have hH : TH E (tbC dA dB (riverD (.inl (0, 12)) (.inl (0, 14)) (.inl (0, 4))) (riverD (.inl (0, 12)) (.inl (0, 14)) (.inl (0, 4))) rc rd) H := hH
        refine lv_aload_n F.1 F.2.1 dX4_writeReach_88 rfl (lv_at hl 0 rfl) ?_
        refine lv_aload_n F.1 F.2.1 dX4_writeReach_89 rfl (lv_at hl 0 rfl) ?_
        refine tGetR (j := 0) F hK hH (tyb ha0 (all1 rfl)) rfl (all2 rfl rfl) clX4 (by decide) wd_5_23 dX4_writeReach_90 (fun q_24 hq_24 _ => ?_)
        refine tGetR (j := 2) F hK hH (tyb hq_24 (all2 rfl rfl)) rfl (all1 rfl) clX2 (by decide) wd_53_11 dX4_writeReach_93 (fun q_25 hq_25 _ => ?_)
        refine lv_iload_n F.1 F.2.1 dX4_writeReach_96 rfl (lv_at hl 1 rfl) ?_
        refine tIaldB F hK hH (tyb hq_25 (all1 rfl)) (ixb (n := 12) ha1 rfl rfl) dX4_writeReach_97 (fun z_26 hz_26 => ?_)
        refine tVv (b := a0) (As := [.int z_26]) (rest := []) F hK hN hO (c_X4_putNextNumber E dA dB rc rd a0 z_26 ha0) mv_X4_putNextNumber wd_54_6 ⟨Nat.le_of_ble_eq_true rfl, Nat.le_of_ble_eq_true rfl⟩ ⟨Nat.le_of_ble_eq_true rfl, Nat.le_of_ble_eq_true rfl⟩ hH hS (tRecv hK hH (tyb ha0 (all1 rfl)) clX4) rfl hl.1 (Nat.le_of_ble_eq_true rfl) dX4_writeReach_98 (fun H locs hq hS => ?_)
        have hH := hq
        have hH : TH E (tbC dA dB (riverD (.inl (0, 12)) (.inl (0, 14)) (.inl (0, 4))) (riverD (.inl (0, 12)) (.inl (0, 14)) (.inl (0, 4))) rc rd) H := hH
        exact txV F hS dX4_writeReach_101 (hH)
    · skip
      have r_17 : 0 ≤ u_13.toInt ∧ u_13.toInt ≤ 3 := by have h9_ := hu_13; omega
      refine lv_aload_n F.1 F.2.1 dX4_writeReach_47 rfl (lv_at hl 0 rfl) ?_
      refine lv_aload_n F.1 F.2.1 dX4_writeReach_48 rfl (lv_at hl 0 rfl) ?_
      refine tGetR (j := 0) F hK hH (tyb ha0 (all1 rfl)) rfl (all2 rfl rfl) clX4 (by decide) wd_5_23 dX4_writeReach_49 (fun q_28 hq_28 _ => ?_)
      refine tGetR (j := 3) F hK hH (tyb hq_28 (all2 rfl rfl)) rfl (all1 rfl) clX2 (by decide) wd_53_10 dX4_writeReach_52 (fun q_29 hq_29 _ => ?_)
      refine lv_iload_n F.1 F.2.1 dX4_writeReach_55 rfl (lv_at hl 1 rfl) ?_
      refine lv_iconst (v := 4) F.1 F.2.1 dX4_writeReach_56 (by decide) ?_
      refine topK (a := 4) (by decide) (fun k_30 hk_30 => ?_)
      refine tMul (lo := 0) (hi := 44) F dX4_writeReach_57 ha1 (eqb hk_30) rfl (fun z_31 hz_31 => ?_)
      have mz_31 : z_31.toInt = a1.toInt * 4 := by rw [hz_31.1, hk_30]
      refine lv_iload_n F.1 F.2.1 dX4_writeReach_58 rfl (lv_at hl 2 rfl) ?_
      refine tAdd (lo := 0) (hi := 47) F dX4_writeReach_59 hz_31.2 r_17 rfl (fun z_32 hz_32 => ?_)
      refine tIaldB F hK hH (tyb hq_29 (all1 rfl)) (ixb (n := 48) hz_32.2 rfl rfl) dX4_writeReach_60 (fun z_33 hz_33 => ?_)
      refine tVv (b := a0) (As := [.int z_33]) (rest := []) F hK hN hO (c_X4_putNextNumber E dA dB rc rd a0 z_33 ha0) mv_X4_putNextNumber wd_54_6 ⟨Nat.le_of_ble_eq_true rfl, Nat.le_of_ble_eq_true rfl⟩ ⟨Nat.le_of_ble_eq_true rfl, Nat.le_of_ble_eq_true rfl⟩ hH hS (tRecv hK hH (tyb ha0 (all1 rfl)) clX4) rfl hl.1 (Nat.le_of_ble_eq_true rfl) dX4_writeReach_61 (fun H locs hq hS => ?_)
      have hH := hq
      have hH : TH E (tbC dA dB (riverD (.inl (0, 12)) (.inl (0, 14)) (.inl (0, 4))) (riverD (.inl (0, 12)) (.inl (0, 14)) (.inl (0, 4))) rc rd) H := hH
      obtain ⟨x_35, ex_35, hx_35⟩ := iincB (c := 1) (lo := 1) (hi := 4) r_17 rfl
      refine lv_iinc (v := x_35) (lv' := [(2, .int x_35), (0, .ref a0), (1, .int a1)]) F.1 F.2.1 dX4_writeReach_64 hl (k := 2) rfl ex_35 (by decide) rfl (fun ls hl => ?_)
      refine lv_goto (tgt := 42) F.1 F.2.1 dX4_writeReach_67 (by decide) ?_
      exact ih_42 (x_35) _ _ _ ⟨(show (4 - x_35.toInt + 1).toNat < n_42 from by omega), (wkb hx_35.2 rfl rfl), hH, hS, lv_sub hl [1, 2, 0] rfl⟩
  · skip
    have r_7 : (-2) ≤ z_4.toInt ∧ z_4.toInt ≤ (-1) := by have h9_ := hz_4; omega
    refine lv_aload_n F.1 F.2.1 dX4_writeReach_18 rfl (lv_at hl 0 rfl) ?_
    refine va_ldcS F.1 F.2.1 F.2.2.2.2.1 (hO.1 10 _ rfl).1 dX4_writeReach_19 ?_
    refine tVv (b := a0) (As := [.ref (eX E 10)]) (rest := []) F hK hN hO (c_X4_putNextWord E dA dB rc rd a0 10 5 ha0 (strAt 10 rfl)) mv_X4_putNextWord wd_54_2 ⟨Nat.le_of_ble_eq_true rfl, Nat.le_of_ble_eq_true rfl⟩ ⟨Nat.le_of_ble_eq_true rfl, Nat.le_of_ble_eq_true rfl⟩ hH hS (tRecv hK hH (tyb ha0 (all1 rfl)) clX4) rfl hl.1 (Nat.le_of_ble_eq_true rfl) dX4_writeReach_21 (fun H locs hq hS => ?_)
    have hH := hq
    have hH : TH E (tbC dA dB (riverD (.inl (0, 12)) (.inl (0, 14)) (.inl (0, 4))) (riverD (.inl (0, 12)) (.inl (0, 14)) (.inl (0, 4))) rc rd) H := hH
    refine lv_goto (tgt := 40) F.1 F.2.1 dX4_writeReach_24 (by decide) ?_
    refine lv_iconst (v := 0) F.1 F.2.1 dX4_writeReach_40 (by decide) ?_
    refine topK (a := 0) (by decide) (fun k_37 hk_37 => ?_)
    refine lv_istore_n (lv' := [(2, .int k_37), (0, .ref a0), (1, .int a1)]) F.1 F.2.1 dX4_writeReach_41 rfl hl (by decide) rfl (fun ls hl => ?_)
    refine wloop (σ := Int32) (fun n9 x9 H locs ls => (4 - x9.toInt + 1).toNat < n9 ∧ (0 ≤ x9.toInt ∧ x9.toInt ≤ 4) ∧ TH E (tbC dA dB (riverD (.inl (0, 12)) (.inl (0, 14)) (.inl (0, 4))) (riverD (.inl (0, 12)) (.inl (0, 14)) (.inl (0, 4))) rc rd) H ∧ va_S (eA E s.heap.size) s.heap H locs ∧ lv_has ls 3 [(0, .ref a0), (1, .int a1), (2, .int x9)]) ?_ (fun x9 H locs ls h => absurd h.1 (Nat.not_lt_zero _)) _ (k_37) ⟨Nat.lt_succ_self _, (wkb (eqb hk_37) rfl rfl), hH, hS, lv_sub hl [1, 2, 0] rfl⟩
    intro n_42 ih_42 u_38 H locs ls ⟨hm_42, hu_38, hH, hS, hl⟩
    have hm_42 : (4 - u_38.toInt + 1).toNat < n_42 + 1 := hm_42
    have hu_38 : (0 ≤ u_38.toInt ∧ u_38.toInt ≤ 4) := hu_38
    have hH : TH E (tbC dA dB (riverD (.inl (0, 12)) (.inl (0, 14)) (.inl (0, 4))) (riverD (.inl (0, 12)) (.inl (0, 14)) (.inl (0, 4))) rc rd) H := hH
    have hl : lv_has ls 3 [(0, .ref a0), (1, .int a1), (2, .int u_38)] := hl
    refine lv_iload_n F.1 F.2.1 dX4_writeReach_42 rfl (lv_at hl 2 rfl) ?_
    refine lv_iconst (v := 4) F.1 F.2.1 dX4_writeReach_43 (by decide) ?_
    refine topK (a := 4) (by decide) (fun k_39 hk_39 => ?_)
    refine b_ge (tgt := 70) F dX4_writeReach_44 (by decide) (fun c_40 => ?_) (fun c_40 => ?_)
    · skip
      have r_41 : 4 ≤ u_38.toInt ∧ u_38.toInt ≤ 4 := by have h9_ := hu_38; omega
      refine lv_aload_n F.1 F.2.1 dX4_writeReach_70 rfl (lv_at hl 0 rfl) ?_
      refine tGetR (j := 0) F hK hH (tyb ha0 (all1 rfl)) rfl (all2 rfl rfl) clX4 (by decide) wd_5_23 dX4_writeReach_71 (fun q_43 hq_43 _ => ?_)
      refine tGetR (j := 2) F hK hH (tyb hq_43 (all2 rfl rfl)) rfl (all1 rfl) clX2 (by decide) wd_53_11 dX4_writeReach_74 (fun q_44 hq_44 _ => ?_)
      refine lv_iload_n F.1 F.2.1 dX4_writeReach_77 rfl (lv_at hl 1 rfl) ?_
      refine tIaldB F hK hH (tyb hq_44 (all1 rfl)) (ixb (n := 12) ha1 rfl rfl) dX4_writeReach_78 (fun z_45 hz_45 => ?_)
      refine z_eq (tgt := 101) F dX4_writeReach_79 (by decide) (fun c_46 => ?_) (fun c_46 => ?_)
      · skip
        have r_47 : 0 ≤ z_45.toInt ∧ z_45.toInt ≤ 0 := by have h9_ := hz_45; omega
        exact txV F hS dX4_writeReach_101 (hH)
      · skip
        refine lv_aload_n F.1 F.2.1 dX4_writeReach_82 rfl (lv_at hl 0 rfl) ?_
        refine va_ldcS F.1 F.2.1 F.2.2.2.2.1 (hO.1 11 _ rfl).1 dX4_writeReach_83 ?_
        refine tVv (b := a0) (As := [.ref (eX E 11)]) (rest := []) F hK hN hO (c_X4_putNextWord E dA dB rc rd a0 11 4 ha0 (strAt 11 rfl)) mv_X4_putNextWord wd_54_2 ⟨Nat.le_of_ble_eq_true rfl, Nat.le_of_ble_eq_true rfl⟩ ⟨Nat.le_of_ble_eq_true rfl, Nat.le_of_ble_eq_true rfl⟩ hH hS (tRecv hK hH (tyb ha0 (all1 rfl)) clX4) rfl hl.1 (Nat.le_of_ble_eq_true rfl) dX4_writeReach_85 (fun H locs hq hS => ?_)
        have hH := hq
        have hH : TH E (tbC dA dB (riverD (.inl (0, 12)) (.inl (0, 14)) (.inl (0, 4))) (riverD (.inl (0, 12)) (.inl (0, 14)) (.inl (0, 4))) rc rd) H := hH
        refine lv_aload_n F.1 F.2.1 dX4_writeReach_88 rfl (lv_at hl 0 rfl) ?_
        refine lv_aload_n F.1 F.2.1 dX4_writeReach_89 rfl (lv_at hl 0 rfl) ?_
        refine tGetR (j := 0) F hK hH (tyb ha0 (all1 rfl)) rfl (all2 rfl rfl) clX4 (by decide) wd_5_23 dX4_writeReach_90 (fun q_49 hq_49 _ => ?_)
        refine tGetR (j := 2) F hK hH (tyb hq_49 (all2 rfl rfl)) rfl (all1 rfl) clX2 (by decide) wd_53_11 dX4_writeReach_93 (fun q_50 hq_50 _ => ?_)
        refine lv_iload_n F.1 F.2.1 dX4_writeReach_96 rfl (lv_at hl 1 rfl) ?_
        refine tIaldB F hK hH (tyb hq_50 (all1 rfl)) (ixb (n := 12) ha1 rfl rfl) dX4_writeReach_97 (fun z_51 hz_51 => ?_)
        refine tVv (b := a0) (As := [.int z_51]) (rest := []) F hK hN hO (c_X4_putNextNumber E dA dB rc rd a0 z_51 ha0) mv_X4_putNextNumber wd_54_6 ⟨Nat.le_of_ble_eq_true rfl, Nat.le_of_ble_eq_true rfl⟩ ⟨Nat.le_of_ble_eq_true rfl, Nat.le_of_ble_eq_true rfl⟩ hH hS (tRecv hK hH (tyb ha0 (all1 rfl)) clX4) rfl hl.1 (Nat.le_of_ble_eq_true rfl) dX4_writeReach_98 (fun H locs hq hS => ?_)
        have hH := hq
        have hH : TH E (tbC dA dB (riverD (.inl (0, 12)) (.inl (0, 14)) (.inl (0, 4))) (riverD (.inl (0, 12)) (.inl (0, 14)) (.inl (0, 4))) rc rd) H := hH
        exact txV F hS dX4_writeReach_101 (hH)
    · skip
      have r_42 : 0 ≤ u_38.toInt ∧ u_38.toInt ≤ 3 := by have h9_ := hu_38; omega
      refine lv_aload_n F.1 F.2.1 dX4_writeReach_47 rfl (lv_at hl 0 rfl) ?_
      refine lv_aload_n F.1 F.2.1 dX4_writeReach_48 rfl (lv_at hl 0 rfl) ?_
      refine tGetR (j := 0) F hK hH (tyb ha0 (all1 rfl)) rfl (all2 rfl rfl) clX4 (by decide) wd_5_23 dX4_writeReach_49 (fun q_53 hq_53 _ => ?_)
      refine tGetR (j := 3) F hK hH (tyb hq_53 (all2 rfl rfl)) rfl (all1 rfl) clX2 (by decide) wd_53_10 dX4_writeReach_52 (fun q_54 hq_54 _ => ?_)
      refine lv_iload_n F.1 F.2.1 dX4_writeReach_55 rfl (lv_at hl 1 rfl) ?_
      refine lv_iconst (v := 4) F.1 F.2.1 dX4_writeReach_56 (by decide) ?_
      refine topK (a := 4) (by decide) (fun k_55 hk_55 => ?_)
      refine tMul (lo := 0) (hi := 44) F dX4_writeReach_57 ha1 (eqb hk_55) rfl (fun z_56 hz_56 => ?_)
      have mz_56 : z_56.toInt = a1.toInt * 4 := by rw [hz_56.1, hk_55]
      refine lv_iload_n F.1 F.2.1 dX4_writeReach_58 rfl (lv_at hl 2 rfl) ?_
      refine tAdd (lo := 0) (hi := 47) F dX4_writeReach_59 hz_56.2 r_42 rfl (fun z_57 hz_57 => ?_)
      refine tIaldB F hK hH (tyb hq_54 (all1 rfl)) (ixb (n := 48) hz_57.2 rfl rfl) dX4_writeReach_60 (fun z_58 hz_58 => ?_)
      refine tVv (b := a0) (As := [.int z_58]) (rest := []) F hK hN hO (c_X4_putNextNumber E dA dB rc rd a0 z_58 ha0) mv_X4_putNextNumber wd_54_6 ⟨Nat.le_of_ble_eq_true rfl, Nat.le_of_ble_eq_true rfl⟩ ⟨Nat.le_of_ble_eq_true rfl, Nat.le_of_ble_eq_true rfl⟩ hH hS (tRecv hK hH (tyb ha0 (all1 rfl)) clX4) rfl hl.1 (Nat.le_of_ble_eq_true rfl) dX4_writeReach_61 (fun H locs hq hS => ?_)
      have hH := hq
      have hH : TH E (tbC dA dB (riverD (.inl (0, 12)) (.inl (0, 14)) (.inl (0, 4))) (riverD (.inl (0, 12)) (.inl (0, 14)) (.inl (0, 4))) rc rd) H := hH
      obtain ⟨x_60, ex_60, hx_60⟩ := iincB (c := 1) (lo := 1) (hi := 4) r_42 rfl
      refine lv_iinc (v := x_60) (lv' := [(2, .int x_60), (0, .ref a0), (1, .int a1)]) F.1 F.2.1 dX4_writeReach_64 hl (k := 2) rfl ex_60 (by decide) rfl (fun ls hl => ?_)
      refine lv_goto (tgt := 42) F.1 F.2.1 dX4_writeReach_67 (by decide) ?_
      exact ih_42 (x_60) _ _ _ ⟨(show (4 - x_60.toInt + 1).toNat < n_42 from by omega), (wkb hx_60.2 rfl rfl), hH, hS, lv_sub hl [1, 2, 0] rfl⟩
set_option maxHeartbeats 4000000 in
set_option maxRecDepth 100000 in
theorem c_X4_write (E : Ev) (dA : TD) (dB : TD) (rc : TD) (rd : TD) (a0 : Nat) (a1 : Nat) (a2 : Nat) (a3 : Int32) (ha0 : eT E a0 ∈ [23]) (ha1 : eT E a1 ∈ [26, 27]) (ha2 : eT E a2 ∈ [17]) : TcV E yX4_write cX4_write 5 ({ frames := 8, cells := 0, slots := 0, locals := 246 }) [.ref a0, .ref a1, .ref a2, .int a3] (fun H => TH E (tbC dA dB (riverD (.inl (0, 12)) (.inl (0, 14)) (.inl (0, 4))) (riverD (.inl (0, 12)) (.inl (0, 14)) (.inl (0, 4))) rc rd) H) (fun H => TH E (tbC dA dB (riverD (.inl (0, 12)) (.inl (0, 14)) (.inl (0, 4))) (riverD (.inl (0, 12)) (.inl (0, 14)) (.inl (0, 4))) rc rd) H) := by
  refine teV (by decide) (Nat.le_of_ble_eq_true rfl) ?_
  intro p_ ev_ s mi_ below_ meth cd_ ls F hK hN hO hH hS hl
  have hH : TH E (tbC dA dB (riverD (.inl (0, 12)) (.inl (0, 14)) (.inl (0, 4))) (riverD (.inl (0, 12)) (.inl (0, 14)) (.inl (0, 4))) rc rd) s.heap := hH
  have hl : lv_has ls 5 [(0, .ref a0), (1, .ref a1), (2, .ref a2), (3, .int a3)] := hl
  refine lv_aload_n F.1 F.2.1 dX4_write_0 rfl (lv_at hl 0 rfl) ?_
  refine lv_aload_n F.1 F.2.1 dX4_write_1 rfl (lv_at hl 1 rfl) ?_
  refine tPut (j := 0) F hK hH hS (tyb ha0 (all1 rfl)) rfl (fdR ha1) clX4 (by decide) wd_5_23 rfl rfl rfl rfl dX4_write_2 (fun H locs hH hS => ?_)
  refine lv_aload_n F.1 F.2.1 dX4_write_5 rfl (lv_at hl 0 rfl) ?_
  refine lv_aload_n F.1 F.2.1 dX4_write_6 rfl (lv_at hl 2 rfl) ?_
  refine tPut (j := 1) F hK hH hS (tyb ha0 (all1 rfl)) rfl (fdR ha2) clX4 (by decide) wd_6_0 rfl rfl rfl rfl dX4_write_7 (fun H locs hH hS => ?_)
  refine lv_aload_n F.1 F.2.1 dX4_write_10 rfl (lv_at hl 0 rfl) ?_
  refine lv_iload_n F.1 F.2.1 dX4_write_11 rfl (lv_at hl 3 rfl) ?_
  refine tPut (j := 2) F hK hH hS (tyb ha0 (all1 rfl)) rfl (fdI (i32b _)) clX4 (by decide) wd_52_22 rfl rfl rfl rfl dX4_write_12 (fun H locs hH hS => ?_)
  refine lv_aload_n F.1 F.2.1 dX4_write_15 rfl (lv_at hl 0 rfl) ?_
  refine lv_iconst (v := 0) F.1 F.2.1 dX4_write_16 (by decide) ?_
  refine topK (a := 0) (by decide) (fun k_1 hk_1 => ?_)
  refine tPut (j := 3) F hK hH hS (tyb ha0 (all1 rfl)) rfl (fdI (wkb (eqb hk_1) rfl rfl)) clX4 (by decide) wd_52_23 rfl rfl rfl rfl dX4_write_17 (fun H locs hH hS => ?_)
  refine lv_aload_n F.1 F.2.1 dX4_write_20 rfl (lv_at hl 0 rfl) ?_
  refine lv_bipush (v := (-2)) F.1 F.2.1 dX4_write_21 (by decide) ?_
  refine topK (a := (-2)) (by decide) (fun k_2 hk_2 => ?_)
  refine tPut (j := 4) F hK hH hS (tyb ha0 (all1 rfl)) rfl (fdI (wkb (eqb hk_2) rfl rfl)) clX4 (by decide) wd_53_0 rfl rfl rfl rfl dX4_write_23 (fun H locs hH hS => ?_)
  refine lv_iconst (v := 0) F.1 F.2.1 dX4_write_26 (by decide) ?_
  refine topK (a := 0) (by decide) (fun k_3 hk_3 => ?_)
  refine lv_istore (lv' := [(4, .int k_3), (0, .ref a0), (1, .ref a1), (2, .ref a2), (3, .int a3)]) F.1 F.2.1 dX4_write_27 hl (by decide) rfl (fun ls hl => ?_)
  refine wloop (σ := Int32) (fun n9 x9 H locs ls => (12 - x9.toInt + 1).toNat < n9 ∧ (0 ≤ x9.toInt ∧ x9.toInt ≤ 12) ∧ TH E (tbC dA dB (riverD (.inl (0, 12)) (.inl (0, 14)) (.inl (0, 4))) (riverD (.inl (0, 12)) (.inl (0, 14)) (.inl (0, 4))) rc rd) H ∧ va_S (eA E s.heap.size) s.heap H locs ∧ lv_has ls 5 [(0, .ref a0), (1, .ref a1), (2, .ref a2), (4, .int x9)]) ?_ (fun x9 H locs ls h => absurd h.1 (Nat.not_lt_zero _)) _ (k_3) ⟨Nat.lt_succ_self _, (wkb (eqb hk_3) rfl rfl), hH, hS, lv_sub hl [1, 2, 3, 0] rfl⟩
  intro n_29 ih_29 u_4 H locs ls ⟨hm_29, hu_4, hH, hS, hl⟩
  have hm_29 : (12 - u_4.toInt + 1).toNat < n_29 + 1 := hm_29
  have hu_4 : (0 ≤ u_4.toInt ∧ u_4.toInt ≤ 12) := hu_4
  have hH : TH E (tbC dA dB (riverD (.inl (0, 12)) (.inl (0, 14)) (.inl (0, 4))) (riverD (.inl (0, 12)) (.inl (0, 14)) (.inl (0, 4))) rc rd) H := hH
  have hl : lv_has ls 5 [(0, .ref a0), (1, .ref a1), (2, .ref a2), (4, .int u_4)] := hl
  refine lv_iload F.1 F.2.1 dX4_write_29 (lv_at hl 3 rfl) ?_
  refine lv_aload_n F.1 F.2.1 dX4_write_31 rfl (lv_at hl 1 rfl) ?_
  refine tGetI (j := 0) F hK hH (tyb ha1 (all2 rfl rfl)) rfl clX2 (by decide) wd_53_1 dX4_write_32 (fun z_5 hz_5 => ?_)
  refine b_ge (tgt := 50) F dX4_write_35 (by decide) (fun c_6 => ?_) (fun c_6 => ?_)
  · skip
    refine lv_iconst (v := 0) F.1 F.2.1 dX4_write_50 (by decide) ?_
    refine topK (a := 0) (by decide) (fun k_9 hk_9 => ?_)
    refine lv_istore (lv' := [(4, .int k_9), (0, .ref a0), (1, .ref a1), (2, .ref a2)]) F.1 F.2.1 dX4_write_51 hl (by decide) rfl (fun ls hl => ?_)
    refine wloop (σ := Int32) (fun n9 x9 H locs ls => (14 - x9.toInt + 1).toNat < n9 ∧ (0 ≤ x9.toInt ∧ x9.toInt ≤ 14) ∧ TH E (tbC dA dB (riverD (.inl (0, 12)) (.inl (0, 14)) (.inl (0, 4))) (riverD (.inl (0, 12)) (.inl (0, 14)) (.inl (0, 4))) rc rd) H ∧ va_S (eA E s.heap.size) s.heap H locs ∧ lv_has ls 5 [(0, .ref a0), (1, .ref a1), (2, .ref a2), (4, .int x9)]) ?_ (fun x9 H locs ls h => absurd h.1 (Nat.not_lt_zero _)) _ (k_9) ⟨Nat.lt_succ_self _, (wkb (eqb hk_9) rfl rfl), hH, hS, lv_sub hl [1, 2, 3, 0] rfl⟩
    intro n_53 ih_53 u_10 H locs ls ⟨hm_53, hu_10, hH, hS, hl⟩
    have hm_53 : (14 - u_10.toInt + 1).toNat < n_53 + 1 := hm_53
    have hu_10 : (0 ≤ u_10.toInt ∧ u_10.toInt ≤ 14) := hu_10
    have hH : TH E (tbC dA dB (riverD (.inl (0, 12)) (.inl (0, 14)) (.inl (0, 4))) (riverD (.inl (0, 12)) (.inl (0, 14)) (.inl (0, 4))) rc rd) H := hH
    have hl : lv_has ls 5 [(0, .ref a0), (1, .ref a1), (2, .ref a2), (4, .int u_10)] := hl
    refine lv_iload F.1 F.2.1 dX4_write_53 (lv_at hl 3 rfl) ?_
    refine lv_aload_n F.1 F.2.1 dX4_write_55 rfl (lv_at hl 1 rfl) ?_
    refine tGetI (j := 4) F hK hH (tyb ha1 (all2 rfl rfl)) rfl clX2 (by decide) wd_53_2 dX4_write_56 (fun z_11 hz_11 => ?_)
    refine b_ge (tgt := 74) F dX4_write_59 (by decide) (fun c_12 => ?_) (fun c_12 => ?_)
    · skip
      refine lv_iconst (v := 0) F.1 F.2.1 dX4_write_74 (by decide) ?_
      refine topK (a := 0) (by decide) (fun k_15 hk_15 => ?_)
      refine lv_istore (lv' := [(4, .int k_15), (0, .ref a0), (1, .ref a1), (2, .ref a2)]) F.1 F.2.1 dX4_write_75 hl (by decide) rfl (fun ls hl => ?_)
      refine wloop (σ := Int32) (fun n9 x9 H locs ls => (4 - x9.toInt + 1).toNat < n9 ∧ (0 ≤ x9.toInt ∧ x9.toInt ≤ 4) ∧ TH E (tbC dA dB (riverD (.inl (0, 12)) (.inl (0, 14)) (.inl (0, 4))) (riverD (.inl (0, 12)) (.inl (0, 14)) (.inl (0, 4))) rc rd) H ∧ va_S (eA E s.heap.size) s.heap H locs ∧ lv_has ls 5 [(0, .ref a0), (1, .ref a1), (2, .ref a2), (4, .int x9)]) ?_ (fun x9 H locs ls h => absurd h.1 (Nat.not_lt_zero _)) _ (k_15) ⟨Nat.lt_succ_self _, (wkb (eqb hk_15) rfl rfl), hH, hS, lv_sub hl [1, 2, 3, 0] rfl⟩
      intro n_77 ih_77 u_16 H locs ls ⟨hm_77, hu_16, hH, hS, hl⟩
      have hm_77 : (4 - u_16.toInt + 1).toNat < n_77 + 1 := hm_77
      have hu_16 : (0 ≤ u_16.toInt ∧ u_16.toInt ≤ 4) := hu_16
      have hH : TH E (tbC dA dB (riverD (.inl (0, 12)) (.inl (0, 14)) (.inl (0, 4))) (riverD (.inl (0, 12)) (.inl (0, 14)) (.inl (0, 4))) rc rd) H := hH
      have hl : lv_has ls 5 [(0, .ref a0), (1, .ref a1), (2, .ref a2), (4, .int u_16)] := hl
      refine lv_iload F.1 F.2.1 dX4_write_77 (lv_at hl 3 rfl) ?_
      refine lv_aload_n F.1 F.2.1 dX4_write_79 rfl (lv_at hl 1 rfl) ?_
      refine tGetI (j := 14) F hK hH (tyb ha1 (all2 rfl rfl)) rfl clX2 (by decide) wd_53_3 dX4_write_80 (fun z_17 hz_17 => ?_)
      refine b_ge (tgt := 98) F dX4_write_83 (by decide) (fun c_18 => ?_) (fun c_18 => ?_)
      · skip
        refine lv_aload_n F.1 F.2.1 dX4_write_98 rfl (lv_at hl 2 rfl) ?_
        refine tGetI (j := 1) F hK hH (tyb ha2 (all1 rfl)) rfl clX5 (by decide) wd_53_4 dX4_write_99 (fun z_21 hz_21 => ?_)
        refine lv_bipush (v := 100) F.1 F.2.1 dX4_write_102 (by decide) ?_
        refine topK (a := 100) (by decide) (fun k_22 hk_22 => ?_)
        refine b_eq (tgt := 121) F dX4_write_104 (by decide) (fun c_23 => ?_) (fun c_23 => ?_)
        · skip
          have r_24 : 100 ≤ z_21.toInt ∧ z_21.toInt ≤ 100 := by have h9_ := hz_21; omega
          exact txV F hS dX4_write_121 (hH)
        · skip
          refine lv_aload_n F.1 F.2.1 dX4_write_107 rfl (lv_at hl 0 rfl) ?_
          refine va_ldcS F.1 F.2.1 F.2.2.2.2.1 (hO.1 17 _ rfl).1 dX4_write_108 ?_
          refine tVv (b := a0) (As := [.ref (eX E 17)]) (rest := []) F hK hN hO (c_X4_beginPart E dA dB rc rd a0 17 3 ha0 (strAt 17 rfl)) mv_X4_beginPart wd_53_12 ⟨Nat.le_of_ble_eq_true rfl, Nat.le_of_ble_eq_true rfl⟩ ⟨Nat.le_of_ble_eq_true rfl, Nat.le_of_ble_eq_true rfl⟩ hH hS (tRecv hK hH (tyb ha0 (all1 rfl)) clX4) rfl hl.1 (Nat.le_of_ble_eq_true rfl) dX4_write_110 (fun H locs hq hS => ?_)
          have hH := hq
          have hH : TH E (tbC dA dB (riverD (.inl (0, 12)) (.inl (0, 14)) (.inl (0, 4))) (riverD (.inl (0, 12)) (.inl (0, 14)) (.inl (0, 4))) rc rd) H := hH
          refine lv_aload_n F.1 F.2.1 dX4_write_113 rfl (lv_at hl 0 rfl) ?_
          refine lv_aload_n F.1 F.2.1 dX4_write_114 rfl (lv_at hl 2 rfl) ?_
          refine tGetI (j := 1) F hK hH (tyb ha2 (all1 rfl)) rfl clX5 (by decide) wd_53_4 dX4_write_115 (fun z_26 hz_26 => ?_)
          refine tVv (b := a0) (As := [.int z_26]) (rest := []) F hK hN hO (c_X4_putNextNumber E dA dB rc rd a0 z_26 ha0) mv_X4_putNextNumber wd_54_6 ⟨Nat.le_of_ble_eq_true rfl, Nat.le_of_ble_eq_true rfl⟩ ⟨Nat.le_of_ble_eq_true rfl, Nat.le_of_ble_eq_true rfl⟩ hH hS (tRecv hK hH (tyb ha0 (all1 rfl)) clX4) rfl hl.1 (Nat.le_of_ble_eq_true rfl) dX4_write_118 (fun H locs hq hS => ?_)
          have hH := hq
          have hH : TH E (tbC dA dB (riverD (.inl (0, 12)) (.inl (0, 14)) (.inl (0, 4))) (riverD (.inl (0, 12)) (.inl (0, 14)) (.inl (0, 4))) rc rd) H := hH
          exact txV F hS dX4_write_121 (hH)
      · skip
        have r_19 : 0 ≤ u_16.toInt ∧ u_16.toInt ≤ 3 := by have h9_ := hu_16; omega
        have r_20 : 1 ≤ z_17.toInt ∧ z_17.toInt ≤ 4 := by have h9_ := hz_17; omega
        refine lv_aload_n F.1 F.2.1 dX4_write_86 rfl (lv_at hl 0 rfl) ?_
        refine lv_iload F.1 F.2.1 dX4_write_87 (lv_at hl 3 rfl) ?_
        refine tVv (b := a0) (As := [.int u_16]) (rest := []) F hK hN hO (c_X4_writeStore E dA dB rc rd a0 u_16 ha0 r_19) mv_X4_writeStore wd_55_0 ⟨Nat.le_of_ble_eq_true rfl, Nat.le_of_ble_eq_true rfl⟩ ⟨Nat.le_of_ble_eq_true rfl, Nat.le_of_ble_eq_true rfl⟩ hH hS (tRecv hK hH (tyb ha0 (all1 rfl)) clX4) rfl hl.1 (Nat.le_of_ble_eq_true rfl) dX4_write_89 (fun H locs hq hS => ?_)
        have hH := hq
        have hH : TH E (tbC dA dB (riverD (.inl (0, 12)) (.inl (0, 14)) (.inl (0, 4))) (riverD (.inl (0, 12)) (.inl (0, 14)) (.inl (0, 4))) rc rd) H := hH
        obtain ⟨x_29, ex_29, hx_29⟩ := iincB (c := 1) (lo := 1) (hi := 4) r_19 rfl
        refine lv_iinc (v := x_29) (lv' := [(4, .int x_29), (0, .ref a0), (1, .ref a1), (2, .ref a2)]) F.1 F.2.1 dX4_write_92 hl (k := 3) rfl ex_29 (by decide) rfl (fun ls hl => ?_)
        refine lv_goto (tgt := 77) F.1 F.2.1 dX4_write_95 (by decide) ?_
        exact ih_77 (x_29) _ _ _ ⟨(show (4 - x_29.toInt + 1).toNat < n_77 from by omega), (wkb hx_29.2 rfl rfl), hH, hS, lv_sub hl [1, 2, 3, 0] rfl⟩
    · skip
      have r_13 : 0 ≤ u_10.toInt ∧ u_10.toInt ≤ 13 := by have h9_ := hu_10; omega
      have r_14 : 1 ≤ z_11.toInt ∧ z_11.toInt ≤ 14 := by have h9_ := hz_11; omega
      refine lv_aload_n F.1 F.2.1 dX4_write_62 rfl (lv_at hl 0 rfl) ?_
      refine lv_iload F.1 F.2.1 dX4_write_63 (lv_at hl 3 rfl) ?_
      refine tVv (b := a0) (As := [.int u_10]) (rest := []) F hK hN hO (c_X4_writeRight E dA dB rc rd a0 u_10 ha0 r_13) mv_X4_writeRight wd_54_11 ⟨Nat.le_of_ble_eq_true rfl, Nat.le_of_ble_eq_true rfl⟩ ⟨Nat.le_of_ble_eq_true rfl, Nat.le_of_ble_eq_true rfl⟩ hH hS (tRecv hK hH (tyb ha0 (all1 rfl)) clX4) rfl hl.1 (Nat.le_of_ble_eq_true rfl) dX4_write_65 (fun H locs hq hS => ?_)
      have hH := hq
      have hH : TH E (tbC dA dB (riverD (.inl (0, 12)) (.inl (0, 14)) (.inl (0, 4))) (riverD (.inl (0, 12)) (.inl (0, 14)) (.inl (0, 4))) rc rd) H := hH
      obtain ⟨x_31, ex_31, hx_31⟩ := iincB (c := 1) (lo := 1) (hi := 14) r_13 rfl
      refine lv_iinc (v := x_31) (lv' := [(4, .int x_31), (0, .ref a0), (1, .ref a1), (2, .ref a2)]) F.1 F.2.1 dX4_write_68 hl (k := 3) rfl ex_31 (by decide) rfl (fun ls hl => ?_)
      refine lv_goto (tgt := 53) F.1 F.2.1 dX4_write_71 (by decide) ?_
      exact ih_53 (x_31) _ _ _ ⟨(show (14 - x_31.toInt + 1).toNat < n_53 from by omega), (wkb hx_31.2 rfl rfl), hH, hS, lv_sub hl [1, 2, 3, 0] rfl⟩
  · skip
    have r_7 : 0 ≤ u_4.toInt ∧ u_4.toInt ≤ 11 := by have h9_ := hu_4; omega
    have r_8 : 1 ≤ z_5.toInt ∧ z_5.toInt ≤ 12 := by have h9_ := hz_5; omega
    refine lv_aload_n F.1 F.2.1 dX4_write_38 rfl (lv_at hl 0 rfl) ?_
    refine lv_iload F.1 F.2.1 dX4_write_39 (lv_at hl 3 rfl) ?_
    refine tVv (b := a0) (As := [.int u_4]) (rest := []) F hK hN hO (c_X4_writeReach E dA dB rc rd a0 u_4 ha0 r_7) mv_X4_writeReach wd_53_5 ⟨Nat.le_of_ble_eq_true rfl, Nat.le_of_ble_eq_true rfl⟩ ⟨Nat.le_of_ble_eq_true rfl, Nat.le_of_ble_eq_true rfl⟩ hH hS (tRecv hK hH (tyb ha0 (all1 rfl)) clX4) rfl hl.1 (Nat.le_of_ble_eq_true rfl) dX4_write_41 (fun H locs hq hS => ?_)
    have hH := hq
    have hH : TH E (tbC dA dB (riverD (.inl (0, 12)) (.inl (0, 14)) (.inl (0, 4))) (riverD (.inl (0, 12)) (.inl (0, 14)) (.inl (0, 4))) rc rd) H := hH
    obtain ⟨x_33, ex_33, hx_33⟩ := iincB (c := 1) (lo := 1) (hi := 12) r_7 rfl
    refine lv_iinc (v := x_33) (lv' := [(4, .int x_33), (0, .ref a0), (1, .ref a1), (2, .ref a2)]) F.1 F.2.1 dX4_write_44 hl (k := 3) rfl ex_33 (by decide) rfl (fun ls hl => ?_)
    refine lv_goto (tgt := 29) F.1 F.2.1 dX4_write_47 (by decide) ?_
    exact ih_29 (x_33) _ _ _ ⟨(show (12 - x_33.toInt + 1).toNat < n_29 from by omega), (wkb hx_33.2 rfl rfl), hH, hS, lv_sub hl [1, 2, 3, 0] rfl⟩
set_option maxHeartbeats 4000000 in
set_option maxRecDepth 100000 in
theorem c_X6_letter (E : Ev) (rd : TD) (t : Int) (a0 : Nat) (a1 : Int32) (ha0 : eT E a0 ∈ [28]) (ht : 0 ≤ t ∧ t ≤ 400) : TcI E yX6_letter cX6_letter 2 .int ({ frames := 9, cells := 0, slots := 0, locals := 270 }) [.ref a0, .int a1] (fun H => TH E (tbC (dayD (.inl (0, 18))) (dayD (.inl (0, 18))) (riverD (.inl (0, 12)) (.inl (0, 14)) (.inl (0, 4))) (riverD (.inl (0, 12)) (.inl (0, 14)) (.inl (0, 4))) (rcD (.inl (t, t))) rd) H) (fun v H => ((-2147483648) ≤ v.toInt ∧ v.toInt ≤ 2147483647) ∧ TH E (tbC (dayD (.inl (0, 18))) (dayD (.inl (0, 18))) (riverD (.inl (0, 12)) (.inl (0, 14)) (.inl (0, 4))) (riverD (.inl (0, 12)) (.inl (0, 14)) (.inl (0, 4))) (rcD (.inl (t, t))) rd) H) := by
  refine teI (by decide) (Nat.le_of_ble_eq_true rfl) ?_
  intro p_ ev_ s mi_ below_ meth cd_ ls F hK hN hO hH hS hl
  have hH : TH E (tbC (dayD (.inl (0, 18))) (dayD (.inl (0, 18))) (riverD (.inl (0, 12)) (.inl (0, 14)) (.inl (0, 4))) (riverD (.inl (0, 12)) (.inl (0, 14)) (.inl (0, 4))) (rcD (.inl (t, t))) rd) s.heap := hH
  have hl : lv_has ls 2 [(0, .ref a0), (1, .int a1)] := hl
  refine lv_iload_n F.1 F.2.1 dX6_letter_0 rfl (lv_at hl 1 rfl) ?_
  refine lv_iconst (v := (-1)) F.1 F.2.1 dX6_letter_1 (by decide) ?_
  refine topK (a := (-1)) (by decide) (fun k_1 hk_1 => ?_)
  refine b_ge (tgt := 7) F dX6_letter_2 (by decide) (fun c_2 => ?_) (fun c_2 => ?_)
  · skip
    have r_3 : (-1) ≤ a1.toInt ∧ a1.toInt ≤ 2147483647 := by have h9_ := (i32b a1); omega
    refine lv_aload_n F.1 F.2.1 dX6_letter_7 rfl (lv_at hl 0 rfl) ?_
    refine tGetR (j := 14) F hK hH (tyb ha0 (all1 rfl)) rfl (all1 rfl) clX6 (by decide) wd_2_19 dX6_letter_8 (fun q_5 hq_5 _ => ?_)
    refine lv_aload_n F.1 F.2.1 dX6_letter_11 rfl (lv_at hl 0 rfl) ?_
    refine tGetR (j := 2) F hK hH (tyb ha0 (all1 rfl)) rfl (all2 rfl rfl) clX6 (by decide) wd_1_17 dX6_letter_12 (fun q_6 hq_6 _ => ?_)
    refine lv_aload_n F.1 F.2.1 dX6_letter_15 rfl (lv_at hl 0 rfl) ?_
    refine tGetR (j := 4) F hK hH (tyb ha0 (all1 rfl)) rfl (all1 rfl) clX6 (by decide) wd_1_22 dX6_letter_16 (fun q_7 hq_7 _ => ?_)
    refine lv_iload_n F.1 F.2.1 dX6_letter_19 rfl (lv_at hl 1 rfl) ?_
    refine tVv (b := q_5) (As := [.ref q_6, .ref q_7, .int a1]) (rest := []) F hK hN hO (c_X4_write E (dayD (.inl (0, 18))) (dayD (.inl (0, 18))) (rcD (.inl (t, t))) rd q_5 q_6 q_7 a1 hq_5 hq_6 hq_7) mv_X4_write wd_52_18 ⟨Nat.le_of_ble_eq_true rfl, Nat.le_of_ble_eq_true rfl⟩ ⟨Nat.le_of_ble_eq_true rfl, Nat.le_of_ble_eq_true rfl⟩ hH hS (tRecv hK hH (tyb hq_5 (all1 rfl)) clX4) rfl hl.1 (Nat.le_of_ble_eq_true rfl) dX6_letter_20 (fun H locs hq hS => ?_)
    have hH := hq
    have hH : TH E (tbC (dayD (.inl (0, 18))) (dayD (.inl (0, 18))) (riverD (.inl (0, 12)) (.inl (0, 14)) (.inl (0, 4))) (riverD (.inl (0, 12)) (.inl (0, 14)) (.inl (0, 4))) (rcD (.inl (t, t))) rd) H := hH
    refine lv_iload_n F.1 F.2.1 dX6_letter_23 rfl (lv_at hl 1 rfl) ?_
    refine lv_iconst (v := (-1)) F.1 F.2.1 dX6_letter_24 (by decide) ?_
    refine topK (a := (-1)) (by decide) (fun k_9 hk_9 => ?_)
    refine b_ne (tgt := 36) F dX6_letter_25 (by decide) (fun c_10 => ?_) (fun c_10 => ?_)
    · skip
      have r_11 : 0 ≤ a1.toInt ∧ a1.toInt ≤ 2147483647 := by have h9_ := r_3; omega
      refine lv_iload_n F.1 F.2.1 dX6_letter_36 rfl (lv_at hl 1 rfl) ?_
      refine lv_aload_n F.1 F.2.1 dX6_letter_37 rfl (lv_at hl 0 rfl) ?_
      refine tGetR (j := 14) F hK hH (tyb ha0 (all1 rfl)) rfl (all1 rfl) clX6 (by decide) wd_2_19 dX6_letter_38 (fun q_13 hq_13 _ => ?_)
      refine tGetI (j := 3) F hK hH (tyb hq_13 (all1 rfl)) rfl clX4 (by decide) wd_52_16 dX6_letter_41 (fun z_14 hz_14 => ?_)
      refine b_ge (tgt := 57) F dX6_letter_44 (by decide) (fun c_15 => ?_) (fun c_15 => ?_)
      · skip
        refine lv_bipush (v := (-2)) F.1 F.2.1 dX6_letter_57 (by decide) ?_
        refine topK (a := (-2)) (by decide) (fun k_17 hk_17 => ?_)
        exact txI F hS dX6_letter_59 rfl (⟨(wkb (eqb hk_17) rfl rfl), hH⟩)
      · skip
        have r_16 : 1 ≤ z_14.toInt ∧ z_14.toInt ≤ 2147483647 := by have h9_ := hz_14; omega
        refine lv_aload_n F.1 F.2.1 dX6_letter_47 rfl (lv_at hl 0 rfl) ?_
        refine tGetR (j := 14) F hK hH (tyb ha0 (all1 rfl)) rfl (all1 rfl) clX6 (by decide) wd_2_19 dX6_letter_48 (fun q_18 hq_18 _ => ?_)
        refine tGetI (j := 4) F hK hH (tyb hq_18 (all1 rfl)) rfl clX4 (by decide) wd_52_17 dX6_letter_51 (fun z_19 hz_19 => ?_)
        refine lv_goto (tgt := 59) F.1 F.2.1 dX6_letter_54 (by decide) ?_
        exact txI F hS dX6_letter_59 rfl (⟨hz_19, hH⟩)
    · skip
      have r_12 : (-1) ≤ a1.toInt ∧ a1.toInt ≤ (-1) := by have h9_ := r_3; omega
      refine lv_aload_n F.1 F.2.1 dX6_letter_28 rfl (lv_at hl 0 rfl) ?_
      refine tGetR (j := 14) F hK hH (tyb ha0 (all1 rfl)) rfl (all1 rfl) clX6 (by decide) wd_2_19 dX6_letter_29 (fun q_20 hq_20 _ => ?_)
      refine tGetI (j := 3) F hK hH (tyb hq_20 (all1 rfl)) rfl clX4 (by decide) wd_52_16 dX6_letter_32 (fun z_21 hz_21 => ?_)
      exact txI F hS dX6_letter_35 rfl (⟨hz_21, hH⟩)
  · skip
    have r_4 : (-2147483648) ≤ a1.toInt ∧ a1.toInt ≤ (-2) := by have h9_ := (i32b a1); omega
    refine lv_iconst (v := (-1)) F.1 F.2.1 dX6_letter_5 (by decide) ?_
    refine topK (a := (-1)) (by decide) (fun k_22 hk_22 => ?_)
    exact txI F hS dX6_letter_6 rfl (⟨(wkb (eqb hk_22) rfl rfl), hH⟩)
set_option maxHeartbeats 4000000 in
set_option maxRecDepth 100000 in
theorem c_X3_blame (E : Ev) (dA : TD) (dB : TD) (rA : TD) (rB : TD) (rc : TD) (nd : FD) (pd : FD) (rr : FD) (a0 : Nat) (a1 : Int32) (a2 : Int32) (ha0 : eT E a0 ∈ [29]) : TcV E yX3_blame cX3_blame 3 ({ frames := 1, cells := 0, slots := 0, locals := 40 }) [.ref a0, .int a1, .int a2] (fun H => TH E (tbC dA dB rA rB rc (rdD pd nd rr)) H) (fun H => TH E (tbC dA dB rA rB rc (rdD pd nd rr)) H) := by
  refine teV (by decide) (Nat.le_of_ble_eq_true rfl) ?_
  intro p_ ev_ s mi_ below_ meth cd_ ls F hK hN hO hH hS hl
  have hH : TH E (tbC dA dB rA rB rc (rdD pd nd rr)) s.heap := hH
  have hl : lv_has ls 3 [(0, .ref a0), (1, .int a1), (2, .int a2)] := hl
  refine lv_aload_n F.1 F.2.1 dX3_blame_0 rfl (lv_at hl 0 rfl) ?_
  refine tGetI (j := 3) F hK hH (tyb ha0 (all1 rfl)) rfl clX3 (by decide) wd_9_5 dX3_blame_1 (fun z_1 hz_1 => ?_)
  refine z_ne (tgt := 17) F dX3_blame_4 (by decide) (fun c_2 => ?_) (fun c_2 => ?_)
  · skip
    exact txV F hS dX3_blame_17 (hH)
  · skip
    have r_3 : 0 ≤ z_1.toInt ∧ z_1.toInt ≤ 0 := by have h9_ := hz_1; omega
    refine lv_aload_n F.1 F.2.1 dX3_blame_7 rfl (lv_at hl 0 rfl) ?_
    refine lv_bipush (v := 8) F.1 F.2.1 dX3_blame_8 (by decide) ?_
    refine topK (a := 8) (by decide) (fun k_4 hk_4 => ?_)
    refine lv_iload_n F.1 F.2.1 dX3_blame_10 rfl (lv_at hl 1 rfl) ?_
    refine lv_imul F.1 F.2.1 dX3_blame_11 ?_
    refine topF (fun z_5 => ?_)
    refine lv_iload_n F.1 F.2.1 dX3_blame_12 rfl (lv_at hl 2 rfl) ?_
    refine lv_iadd F.1 F.2.1 dX3_blame_13 ?_
    refine topF (fun z_6 => ?_)
    refine tPut (j := 3) F hK hH hS (tyb ha0 (all1 rfl)) rfl (fdI (i32b _)) clX3 (by decide) wd_9_5 rfl rfl rfl rfl dX3_blame_14 (fun H locs hH hS => ?_)
    exact txV F hS dX3_blame_17 (hH)
set_option maxHeartbeats 4000000 in
set_option maxRecDepth 100000 in
theorem c_X3_skipBlanks (E : Ev) (dA : TD) (dB : TD) (rA : TD) (rB : TD) (rc : TD) (rr : FD) (n : Int) (p : Int) (a0 : Nat) (ha0 : eT E a0 ∈ [29]) (hn : 0 ≤ n ∧ n ≤ 400) (hp : 0 ≤ p ∧ p ≤ 400) : TcV E yX3_skipBlanks cX3_skipBlanks 1 ({ frames := 1, cells := 0, slots := 0, locals := 40 }) [.ref a0] (fun H => TH E (tbC dA dB rA rB rc (rdD (.inl (p, p)) (.inl (n, n)) rr)) H) (fun H => ∃ p2 : Int, (0 ≤ p2 ∧ p2 ≤ 400) ∧ TH E (tbC dA dB rA rB rc (rdD (.inl (p2, p2)) (.inl (n, n)) rr)) H) := by
  refine teV (by decide) (Nat.le_of_ble_eq_true rfl) ?_
  intro p_ ev_ s mi_ below_ meth cd_ ls F hK hN hO hH hS hl
  have hH : TH E (tbC dA dB rA rB rc (rdD (.inl (p, p)) (.inl (n, n)) rr)) s.heap := hH
  have hl : lv_has ls 1 [(0, .ref a0)] := hl
  refine wloop (σ := Int) (fun n9 x9 H locs ls => (400 - x9 + 1).toNat < n9 ∧ (0 ≤ x9 ∧ x9 ≤ 400) ∧ TH E (tbC dA dB rA rB rc (rdD (.inl (x9, x9)) (.inl (n, n)) rr)) H ∧ va_S (eA E s.heap.size) s.heap H locs ∧ lv_has ls 1 [(0, .ref a0)]) ?_ (fun x9 H locs ls h => absurd h.1 (Nat.not_lt_zero _)) _ (p) ⟨Nat.lt_succ_self _, (show 0 ≤ p ∧ p ≤ 400 from by omega), hH, hS, lv_sub hl [0] rfl⟩
  intro n_0 ih_0 g_1 H locs ls ⟨hm_0, hg_1, hH, hS, hl⟩
  have hm_0 : (400 - g_1 + 1).toNat < n_0 + 1 := hm_0
  have hg_1 : (0 ≤ g_1 ∧ g_1 ≤ 400) := hg_1
  have hH : TH E (tbC dA dB rA rB rc (rdD (.inl (g_1, g_1)) (.inl (n, n)) rr)) H := hH
  have hl : lv_has ls 1 [(0, .ref a0)] := hl
  refine lv_aload_n F.1 F.2.1 dX3_skipBlanks_0 rfl (lv_at hl 0 rfl) ?_
  refine tGetI (j := 2) F hK hH (tyb ha0 (all1 rfl)) rfl clX3 (by decide) wd_9_4 dX3_skipBlanks_1 (fun z_2 hz_2 => ?_)
  have ez_2 : 0 ≤ z_2.toInt ∧ z_2.toInt ≤ 400 := by omega
  refine lv_aload_n F.1 F.2.1 dX3_skipBlanks_4 rfl (lv_at hl 0 rfl) ?_
  refine tGetI (j := 1) F hK hH (tyb ha0 (all1 rfl)) rfl clX3 (by decide) wd_9_3 dX3_skipBlanks_5 (fun z_3 hz_3 => ?_)
  have ez_3 : 0 ≤ z_3.toInt ∧ z_3.toInt ≤ 400 := by omega
  refine b_ge (tgt := 38) F dX3_skipBlanks_8 (by decide) (fun c_4 => ?_) (fun c_4 => ?_)
  · skip
    exact txV F hS dX3_skipBlanks_38 (⟨g_1, (by omega), hH⟩)
  · skip
    have r_5 : 0 ≤ z_2.toInt ∧ z_2.toInt ≤ 399 := by have h9_ := ez_2; omega
    have r_6 : 1 ≤ z_3.toInt ∧ z_3.toInt ≤ 400 := by have h9_ := ez_3; omega
    refine lv_aload_n F.1 F.2.1 dX3_skipBlanks_11 rfl (lv_at hl 0 rfl) ?_
    refine tGetR (j := 0) F hK hH (tyb ha0 (all1 rfl)) rfl (all1 rfl) clX3 (by decide) wd_5_17 dX3_skipBlanks_12 (fun q_7 hq_7 _ => ?_)
    refine lv_aload_n F.1 F.2.1 dX3_skipBlanks_15 rfl (lv_at hl 0 rfl) ?_
    refine tGetI (j := 2) F hK hH (tyb ha0 (all1 rfl)) rfl clX3 (by decide) wd_9_4 dX3_skipBlanks_16 (fun z_8 hz_8 => ?_)
    have ez_8 : 0 ≤ z_8.toInt ∧ z_8.toInt ≤ 399 := by omega
    refine tBaldB F hK hH (tyb hq_7 (all1 rfl)) (ixb (n := 400) ez_8 rfl rfl) dX3_skipBlanks_19 (fun z_9 hz_9 => ?_)
    refine lv_bipush (v := 32) F.1 F.2.1 dX3_skipBlanks_20 (by decide) ?_
    refine topK (a := 32) (by decide) (fun k_10 hk_10 => ?_)
    refine b_ne (tgt := 38) F dX3_skipBlanks_22 (by decide) (fun c_11 => ?_) (fun c_11 => ?_)
    · skip
      exact txV F hS dX3_skipBlanks_38 (⟨g_1, (by omega), hH⟩)
    · skip
      have r_12 : 32 ≤ z_9.toInt ∧ z_9.toInt ≤ 32 := by have h9_ := hz_9; omega
      refine lv_aload_n F.1 F.2.1 dX3_skipBlanks_25 rfl (lv_at hl 0 rfl) ?_
      refine lv_dup F.1 F.2.1 dX3_skipBlanks_26 rfl ?_
      refine tGetI (j := 2) F hK hH (tyb ha0 (all1 rfl)) rfl clX3 (by decide) wd_9_4 dX3_skipBlanks_27 (fun z_13 hz_13 => ?_)
      have ez_13 : 0 ≤ z_13.toInt ∧ z_13.toInt ≤ 399 := by omega
      refine lv_iconst (v := 1) F.1 F.2.1 dX3_skipBlanks_30 (by decide) ?_
      refine topK (a := 1) (by decide) (fun k_14 hk_14 => ?_)
      refine tAdd (lo := 1) (hi := 400) F dX3_skipBlanks_31 ez_13 (eqb hk_14) rfl (fun z_15 hz_15 => ?_)
      obtain ⟨g_16, hg_16⟩ : ∃ y : Int, z_15.toInt = y := ⟨_, rfl⟩
      have bg_16 : 1 ≤ g_16 ∧ g_16 ≤ 400 := by rw [← hg_16]; exact hz_15.2
      refine tPutG (j := 2) (t := 29) (fd := (.inl (g_16, g_16))) F hK hH hS (List.mem_singleton.mp ha0) (by decide) rfl rfl (fdI (by omega)) (TB1 := (tbC dA dB rA rB rc (rdD (.inl (g_16, g_16)) (.inl (n, n)) rr))) rfl clX3 (by decide) wd_9_4 rfl rfl rfl rfl dX3_skipBlanks_32 (fun H locs hH hS => ?_)
      refine lv_goto (tgt := 0) F.1 F.2.1 dX3_skipBlanks_35 (by decide) ?_
      exact ih_0 (g_16) _ _ _ ⟨(show (400 - g_16 + 1).toNat < n_0 from by omega), (show 0 ≤ g_16 ∧ g_16 ≤ 400 from by omega), hH, hS, lv_sub hl [0] rfl⟩
set_option maxHeartbeats 4000000 in
set_option maxRecDepth 100000 in
theorem c_X3_isNext (E : Ev) (dA : TD) (dB : TD) (rA : TD) (rB : TD) (rc : TD) (rr : FD) (n : Int) (p : Int) (a0 : Nat) (t1 n1 : Nat) (ha0 : eT E a0 ∈ [29]) (ha1 : strOf t1 n1) (hn : 0 ≤ n ∧ n ≤ 400) (hp : 0 ≤ p ∧ p ≤ 400) : TcI E yX3_isNext cX3_isNext 4 .boolean ({ frames := 5, cells := 0, slots := 0, locals := 181 }) [.ref a0, .ref (eX E t1)] (fun H => TH E (tbC dA dB rA rB rc (rdD (.inl (p, p)) (.inl (n, n)) rr)) H) (fun v H => ∃ p2 : Int, (0 ≤ p2 ∧ p2 ≤ 400) ∧ (0 ≤ v.toInt ∧ v.toInt ≤ 1) ∧ TH E (tbC dA dB rA rB rc (rdD (.inl (p2, p2)) (.inl (n, n)) rr)) H) := by
  refine teI (by decide) (Nat.le_of_ble_eq_true rfl) ?_
  intro p_ ev_ s mi_ below_ meth cd_ ls F hK hN hO hH hS hl
  have hH : TH E (tbC dA dB rA rB rc (rdD (.inl (p, p)) (.inl (n, n)) rr)) s.heap := hH
  have hl : lv_has ls 4 [(0, .ref a0), (1, .ref (eX E t1))] := hl
  refine lv_aload_n F.1 F.2.1 dX3_isNext_0 rfl (lv_at hl 0 rfl) ?_
  refine tVv (b := a0) (As := []) (rest := []) F hK hN hO (c_X3_skipBlanks E dA dB rA rB rc rr n p a0 ha0 (by omega) (by omega)) mv_X3_skipBlanks wd_9_14 ⟨Nat.le_of_ble_eq_true rfl, Nat.le_of_ble_eq_true rfl⟩ ⟨Nat.le_of_ble_eq_true rfl, Nat.le_of_ble_eq_true rfl⟩ hH hS (tRecv hK hH (tyb ha0 (all1 rfl)) clX3) rfl hl.1 (Nat.le_of_ble_eq_true rfl) dX3_isNext_1 (fun H locs hq hS => ?_)
  obtain ⟨g_2, hg_2, hH⟩ := hq
  have hH : TH E (tbC dA dB rA rB rc (rdD (.inl (g_2, g_2)) (.inl (n, n)) rr)) H := hH
  refine lv_aload_n F.1 F.2.1 dX3_isNext_4 rfl (lv_at hl 0 rfl) ?_
  refine tGetI (j := 2) F hK hH (tyb ha0 (all1 rfl)) rfl clX3 (by decide) wd_9_4 dX3_isNext_5 (fun z_3 hz_3 => ?_)
  have ez_3 : 0 ≤ z_3.toInt ∧ z_3.toInt ≤ 400 := by omega
  refine lv_aload_n F.1 F.2.1 dX3_isNext_8 rfl (lv_at hl 1 rfl) ?_
  refine tVi (b := (eX E t1)) (As := []) (rest := [.int z_3]) F hK hN hO (c_len E (fun H => TH E (tbC dA dB rA rB rc (rdD (.inl (g_2, g_2)) (.inl (n, n)) rr)) H) t1 n1 ha1) mv_J0_length_8abf5 wd_10_2 ⟨Nat.le_of_ble_eq_true rfl, Nat.le_of_ble_eq_true rfl⟩ ⟨Nat.le_of_ble_eq_true rfl, Nat.le_of_ble_eq_true rfl⟩ hH hS (sRecvS hO ha1 hS) rfl hl.1 (Nat.le_of_ble_eq_true rfl) dX3_isNext_9 (fun z_4 H locs hq hS => ?_)
  obtain ⟨hz_4, hH⟩ := hq
  have hH : TH E (tbC dA dB rA rB rc (rdD (.inl (g_2, g_2)) (.inl (n, n)) rr)) H := hH
  have ez_4 : 3 ≤ z_4.toInt ∧ z_4.toInt ≤ 6 := by have h9_ := strLe ha1; omega
  refine tAdd (lo := 3) (hi := 406) F dX3_isNext_12 ez_3 ez_4 rfl (fun z_5 hz_5 => ?_)
  refine lv_istore_n (lv' := [(2, .int z_5), (0, .ref a0), (1, .ref (eX E t1))]) F.1 F.2.1 dX3_isNext_13 rfl hl (by decide) rfl (fun ls hl => ?_)
  refine lv_aload_n F.1 F.2.1 dX3_isNext_14 rfl (lv_at hl 1 rfl) ?_
  refine tGetI (j := 3) F hK hH (tyb ha0 (all1 rfl)) rfl clX3 (by decide) wd_9_5 dX3_isNext_15 (fun z_6 hz_6 => ?_)
  refine z_ne (tgt := 29) F dX3_isNext_18 (by decide) (fun c_7 => ?_) (fun c_7 => ?_)
  · skip
    refine lv_iconst (v := 0) F.1 F.2.1 dX3_isNext_29 (by decide) ?_
    refine topK (a := 0) (by decide) (fun k_9 hk_9 => ?_)
    exact txI F hS dX3_isNext_30 (nar01 (wkb (eqb hk_9) rfl rfl)) (⟨g_2, (by omega), (wkb (eqb hk_9) rfl rfl), hH⟩)
  · skip
    have r_8 : 0 ≤ z_6.toInt ∧ z_6.toInt ≤ 0 := by have h9_ := hz_6; omega
    refine lv_iload_n F.1 F.2.1 dX3_isNext_21 rfl (lv_at hl 0 rfl) ?_
    refine lv_aload_n F.1 F.2.1 dX3_isNext_22 rfl (lv_at hl 1 rfl) ?_
    refine tGetI (j := 1) F hK hH (tyb ha0 (all1 rfl)) rfl clX3 (by decide) wd_9_3 dX3_isNext_23 (fun z_10 hz_10 => ?_)
    have ez_10 : 0 ≤ z_10.toInt ∧ z_10.toInt ≤ 400 := by omega
    refine b_le (tgt := 31) F dX3_isNext_26 (by decide) (fun c_11 => ?_) (fun c_11 => ?_)
    · skip
      have r_12 : 3 ≤ z_5.toInt ∧ z_5.toInt ≤ 400 := by have h9_ := hz_5.2; omega
      have r_13 : 3 ≤ z_10.toInt ∧ z_10.toInt ≤ 400 := by have h9_ := ez_10; omega
      refine lv_iconst (v := 0) F.1 F.2.1 dX3_isNext_31 (by decide) ?_
      refine topK (a := 0) (by decide) (fun k_14 hk_14 => ?_)
      refine lv_istore_n (lv' := [(3, .int k_14), (2, .int z_5), (0, .ref a0), (1, .ref (eX E t1))]) F.1 F.2.1 dX3_isNext_32 rfl hl (by decide) rfl (fun ls hl => ?_)
      refine wloop (σ := Int32) (fun n9 x9 H locs ls => (9 - x9.toInt + 1).toNat < n9 ∧ (0 ≤ x9.toInt ∧ x9.toInt ≤ 9) ∧ TH E (tbC dA dB rA rB rc (rdD (.inl (g_2, g_2)) (.inl (n, n)) rr)) H ∧ va_S (eA E s.heap.size) s.heap H locs ∧ lv_has ls 4 [(0, .ref a0), (1, .ref (eX E t1)), (2, .int z_5), (3, .int x9)]) ?_ (fun x9 H locs ls h => absurd h.1 (Nat.not_lt_zero _)) _ (k_14) ⟨Nat.lt_succ_self _, (wkb (eqb hk_14) rfl rfl), hH, hS, lv_sub hl [2, 3, 1, 0] rfl⟩
      intro n_33 ih_33 u_15 H locs ls ⟨hm_33, hu_15, hH, hS, hl⟩
      have hm_33 : (9 - u_15.toInt + 1).toNat < n_33 + 1 := hm_33
      have hu_15 : (0 ≤ u_15.toInt ∧ u_15.toInt ≤ 9) := hu_15
      have hH : TH E (tbC dA dB rA rB rc (rdD (.inl (g_2, g_2)) (.inl (n, n)) rr)) H := hH
      have hl : lv_has ls 4 [(0, .ref a0), (1, .ref (eX E t1)), (2, .int z_5), (3, .int u_15)] := hl
      refine lv_iload_n F.1 F.2.1 dX3_isNext_33 rfl (lv_at hl 3 rfl) ?_
      refine lv_aload_n F.1 F.2.1 dX3_isNext_34 rfl (lv_at hl 1 rfl) ?_
      refine tVi (b := (eX E t1)) (As := []) (rest := [.int u_15]) F hK hN hO (c_len E (fun H => TH E (tbC dA dB rA rB rc (rdD (.inl (g_2, g_2)) (.inl (n, n)) rr)) H) t1 n1 ha1) mv_J0_length_8abf5 wd_10_2 ⟨Nat.le_of_ble_eq_true rfl, Nat.le_of_ble_eq_true rfl⟩ ⟨Nat.le_of_ble_eq_true rfl, Nat.le_of_ble_eq_true rfl⟩ hH hS (sRecvS hO ha1 hS) rfl hl.1 (Nat.le_of_ble_eq_true rfl) dX3_isNext_35 (fun z_16 H locs hq hS => ?_)
      obtain ⟨hz_16, hH⟩ := hq
      have hH : TH E (tbC dA dB rA rB rc (rdD (.inl (g_2, g_2)) (.inl (n, n)) rr)) H := hH
      have ez_16 : 3 ≤ z_16.toInt ∧ z_16.toInt ≤ 6 := by have h9_ := strLe ha1; omega
      refine b_ge (tgt := 68) F dX3_isNext_38 (by decide) (fun c_17 => ?_) (fun c_17 => ?_)
      · skip
        have r_18 : 3 ≤ u_15.toInt ∧ u_15.toInt ≤ 9 := by have h9_ := hu_15; omega
        refine lv_iload_n F.1 F.2.1 dX3_isNext_68 rfl (lv_at hl 2 rfl) ?_
        refine lv_aload_n F.1 F.2.1 dX3_isNext_69 rfl (lv_at hl 0 rfl) ?_
        refine tGetI (j := 1) F hK hH (tyb ha0 (all1 rfl)) rfl clX3 (by decide) wd_9_3 dX3_isNext_70 (fun z_20 hz_20 => ?_)
        have ez_20 : 3 ≤ z_20.toInt ∧ z_20.toInt ≤ 400 := by omega
        refine b_ge (tgt := 100) F dX3_isNext_73 (by decide) (fun c_21 => ?_) (fun c_21 => ?_)
        · skip
          refine lv_aload_n F.1 F.2.1 dX3_isNext_100 rfl (lv_at hl 0 rfl) ?_
          refine lv_iload_n F.1 F.2.1 dX3_isNext_101 rfl (lv_at hl 2 rfl) ?_
          obtain ⟨g_24, hg_24⟩ : ∃ y : Int, z_5.toInt = y := ⟨_, rfl⟩
          have bg_24 : 3 ≤ g_24 ∧ g_24 ≤ 400 := by rw [← hg_24]; exact r_12
          refine tPutG (j := 2) (t := 29) (fd := (.inl (g_24, g_24))) F hK hH hS (List.mem_singleton.mp ha0) (by decide) rfl rfl (fdI (by omega)) (TB1 := (tbC dA dB rA rB rc (rdD (.inl (g_24, g_24)) (.inl (n, n)) rr))) rfl clX3 (by decide) wd_9_4 rfl rfl rfl rfl dX3_isNext_102 (fun H locs hH hS => ?_)
          refine lv_iconst (v := 1) F.1 F.2.1 dX3_isNext_105 (by decide) ?_
          refine topK (a := 1) (by decide) (fun k_25 hk_25 => ?_)
          exact txI F hS dX3_isNext_106 (nar01 (wkb (eqb hk_25) rfl rfl)) (⟨g_24, (by omega), (wkb (eqb hk_25) rfl rfl), hH⟩)
        · skip
          have r_22 : 3 ≤ z_5.toInt ∧ z_5.toInt ≤ 399 := by have h9_ := r_12; omega
          have r_23 : 4 ≤ z_20.toInt ∧ z_20.toInt ≤ 400 := by have h9_ := ez_20; omega
          refine lv_aload_n F.1 F.2.1 dX3_isNext_76 rfl (lv_at hl 0 rfl) ?_
          refine tGetR (j := 0) F hK hH (tyb ha0 (all1 rfl)) rfl (all1 rfl) clX3 (by decide) wd_5_17 dX3_isNext_77 (fun q_26 hq_26 _ => ?_)
          refine lv_iload_n F.1 F.2.1 dX3_isNext_80 rfl (lv_at hl 2 rfl) ?_
          refine tBaldB F hK hH (tyb hq_26 (all1 rfl)) (ixb (n := 400) r_22 rfl rfl) dX3_isNext_81 (fun z_27 hz_27 => ?_)
          refine lv_bipush (v := 97) F.1 F.2.1 dX3_isNext_82 (by decide) ?_
          refine topK (a := 97) (by decide) (fun k_28 hk_28 => ?_)
          refine b_lt (tgt := 100) F dX3_isNext_84 (by decide) (fun c_29 => ?_) (fun c_29 => ?_)
          · skip
            have r_30 : (-128) ≤ z_27.toInt ∧ z_27.toInt ≤ 96 := by have h9_ := hz_27; omega
            refine lv_aload_n F.1 F.2.1 dX3_isNext_100 rfl (lv_at hl 0 rfl) ?_
            refine lv_iload_n F.1 F.2.1 dX3_isNext_101 rfl (lv_at hl 2 rfl) ?_
            obtain ⟨g_32, hg_32⟩ : ∃ y : Int, z_5.toInt = y := ⟨_, rfl⟩
            have bg_32 : 3 ≤ g_32 ∧ g_32 ≤ 399 := by rw [← hg_32]; exact r_22
            refine tPutG (j := 2) (t := 29) (fd := (.inl (g_32, g_32))) F hK hH hS (List.mem_singleton.mp ha0) (by decide) rfl rfl (fdI (by omega)) (TB1 := (tbC dA dB rA rB rc (rdD (.inl (g_32, g_32)) (.inl (n, n)) rr))) rfl clX3 (by decide) wd_9_4 rfl rfl rfl rfl dX3_isNext_102 (fun H locs hH hS => ?_)
            refine lv_iconst (v := 1) F.1 F.2.1 dX3_isNext_105 (by decide) ?_
            refine topK (a := 1) (by decide) (fun k_33 hk_33 => ?_)
            exact txI F hS dX3_isNext_106 (nar01 (wkb (eqb hk_33) rfl rfl)) (⟨g_32, (by omega), (wkb (eqb hk_33) rfl rfl), hH⟩)
          · skip
            have r_31 : 97 ≤ z_27.toInt ∧ z_27.toInt ≤ 127 := by have h9_ := hz_27; omega
            refine lv_aload_n F.1 F.2.1 dX3_isNext_87 rfl (lv_at hl 0 rfl) ?_
            refine tGetR (j := 0) F hK hH (tyb ha0 (all1 rfl)) rfl (all1 rfl) clX3 (by decide) wd_5_17 dX3_isNext_88 (fun q_34 hq_34 _ => ?_)
            refine lv_iload_n F.1 F.2.1 dX3_isNext_91 rfl (lv_at hl 2 rfl) ?_
            refine tBaldB F hK hH (tyb hq_34 (all1 rfl)) (ixb (n := 400) r_22 rfl rfl) dX3_isNext_92 (fun z_35 hz_35 => ?_)
            refine lv_bipush (v := 122) F.1 F.2.1 dX3_isNext_93 (by decide) ?_
            refine topK (a := 122) (by decide) (fun k_36 hk_36 => ?_)
            refine b_gt (tgt := 100) F dX3_isNext_95 (by decide) (fun c_37 => ?_) (fun c_37 => ?_)
            · skip
              have r_38 : 123 ≤ z_35.toInt ∧ z_35.toInt ≤ 127 := by have h9_ := hz_35; omega
              refine lv_aload_n F.1 F.2.1 dX3_isNext_100 rfl (lv_at hl 0 rfl) ?_
              refine lv_iload_n F.1 F.2.1 dX3_isNext_101 rfl (lv_at hl 2 rfl) ?_
              obtain ⟨g_40, hg_40⟩ : ∃ y : Int, z_5.toInt = y := ⟨_, rfl⟩
              have bg_40 : 3 ≤ g_40 ∧ g_40 ≤ 399 := by rw [← hg_40]; exact r_22
              refine tPutG (j := 2) (t := 29) (fd := (.inl (g_40, g_40))) F hK hH hS (List.mem_singleton.mp ha0) (by decide) rfl rfl (fdI (by omega)) (TB1 := (tbC dA dB rA rB rc (rdD (.inl (g_40, g_40)) (.inl (n, n)) rr))) rfl clX3 (by decide) wd_9_4 rfl rfl rfl rfl dX3_isNext_102 (fun H locs hH hS => ?_)
              refine lv_iconst (v := 1) F.1 F.2.1 dX3_isNext_105 (by decide) ?_
              refine topK (a := 1) (by decide) (fun k_41 hk_41 => ?_)
              exact txI F hS dX3_isNext_106 (nar01 (wkb (eqb hk_41) rfl rfl)) (⟨g_40, (by omega), (wkb (eqb hk_41) rfl rfl), hH⟩)
            · skip
              have r_39 : (-128) ≤ z_35.toInt ∧ z_35.toInt ≤ 122 := by have h9_ := hz_35; omega
              refine lv_iconst (v := 0) F.1 F.2.1 dX3_isNext_98 (by decide) ?_
              refine topK (a := 0) (by decide) (fun k_42 hk_42 => ?_)
              exact txI F hS dX3_isNext_99 (nar01 (wkb (eqb hk_42) rfl rfl)) (⟨g_2, (by omega), (wkb (eqb hk_42) rfl rfl), hH⟩)
      · skip
        have r_19 : 0 ≤ u_15.toInt ∧ u_15.toInt ≤ 5 := by have h9_ := hu_15; omega
        refine lv_aload_n F.1 F.2.1 dX3_isNext_41 rfl (lv_at hl 0 rfl) ?_
        refine tGetR (j := 0) F hK hH (tyb ha0 (all1 rfl)) rfl (all1 rfl) clX3 (by decide) wd_5_17 dX3_isNext_42 (fun q_43 hq_43 _ => ?_)
        refine lv_aload_n F.1 F.2.1 dX3_isNext_45 rfl (lv_at hl 0 rfl) ?_
        refine tGetI (j := 2) F hK hH (tyb ha0 (all1 rfl)) rfl clX3 (by decide) wd_9_4 dX3_isNext_46 (fun z_44 hz_44 => ?_)
        have ez_44 : 0 ≤ z_44.toInt ∧ z_44.toInt ≤ 400 := by omega
        refine lv_iload_n F.1 F.2.1 dX3_isNext_49 rfl (lv_at hl 3 rfl) ?_
        refine tAdd (lo := 0) (hi := 405) F dX3_isNext_50 ez_44 r_19 rfl (fun z_45 hz_45 => ?_)
        refine tBaldB F hK hH (tyb hq_43 (all1 rfl)) (by omega) dX3_isNext_51 (fun z_46 hz_46 => ?_)
        refine lv_aload_n F.1 F.2.1 dX3_isNext_52 rfl (lv_at hl 1 rfl) ?_
        refine lv_iload_n F.1 F.2.1 dX3_isNext_53 rfl (lv_at hl 3 rfl) ?_
        refine tVi (b := (eX E t1)) (As := [.int u_15]) (rest := [.int z_46]) F hK hN hO (c_chr E (fun H => TH E (tbC dA dB rA rB rc (rdD (.inl (g_2, g_2)) (.inl (n, n)) rr)) H) t1 n1 ha1 u_15 (by omega) (by omega)) mv_J0_charAt_5068e wd_10_14 ⟨Nat.le_of_ble_eq_true rfl, Nat.le_of_ble_eq_true rfl⟩ ⟨Nat.le_of_ble_eq_true rfl, Nat.le_of_ble_eq_true rfl⟩ hH hS (sRecvS hO ha1 hS) rfl hl.1 (Nat.le_of_ble_eq_true rfl) dX3_isNext_54 (fun z_47 H locs hq hS => ?_)
        obtain ⟨hz_47, hH⟩ := hq
        have hH : TH E (tbC dA dB rA rB rc (rdD (.inl (g_2, g_2)) (.inl (n, n)) rr)) H := hH
        refine b_eq (tgt := 62) F dX3_isNext_57 (by decide) (fun c_48 => ?_) (fun c_48 => ?_)
        · skip
          have r_49 : 0 ≤ z_46.toInt ∧ z_46.toInt ≤ 127 := by have h9_ := hz_46; omega
          have r_50 : 0 ≤ z_47.toInt ∧ z_47.toInt ≤ 127 := by have h9_ := hz_47; omega
          obtain ⟨x_51, ex_51, hx_51⟩ := iincB (c := 1) (lo := 1) (hi := 6) r_19 rfl
          refine lv_iinc (v := x_51) (lv' := [(3, .int x_51), (0, .ref a0), (1, .ref (eX E t1)), (2, .int z_5)]) F.1 F.2.1 dX3_isNext_62 hl (k := 3) rfl ex_51 (by decide) rfl (fun ls hl => ?_)
          refine lv_goto (tgt := 33) F.1 F.2.1 dX3_isNext_65 (by decide) ?_
          exact ih_33 (x_51) _ _ _ ⟨(show (9 - x_51.toInt + 1).toNat < n_33 from by omega), (wkb hx_51.2 rfl rfl), hH, hS, lv_sub hl [1, 2, 3, 0] rfl⟩
        · skip
          refine lv_iconst (v := 0) F.1 F.2.1 dX3_isNext_60 (by decide) ?_
          refine topK (a := 0) (by decide) (fun k_52 hk_52 => ?_)
          exact txI F hS dX3_isNext_61 (nar01 (wkb (eqb hk_52) rfl rfl)) (⟨g_2, (by omega), (wkb (eqb hk_52) rfl rfl), hH⟩)
    · skip
      refine lv_iconst (v := 0) F.1 F.2.1 dX3_isNext_29 (by decide) ?_
      refine topK (a := 0) (by decide) (fun k_53 hk_53 => ?_)
      exact txI F hS dX3_isNext_30 (nar01 (wkb (eqb hk_53) rfl rfl)) (⟨g_2, (by omega), (wkb (eqb hk_53) rfl rfl), hH⟩)
set_option maxHeartbeats 4000000 in
set_option maxRecDepth 100000 in
theorem c_X3_readNumber (E : Ev) (dA : TD) (dB : TD) (rA : TD) (rB : TD) (rc : TD) (rr : FD) (n : Int) (p : Int) (a0 : Nat) (a1 : Int32) (a2 : Int32) (ha0 : eT E a0 ∈ [29]) (hn : 0 ≤ n ∧ n ≤ 400) (hp : 0 ≤ p ∧ p ≤ 400) : TcI E yX3_readNumber cX3_readNumber 5 .int ({ frames := 2, cells := 0, slots := 0, locals := 62 }) [.ref a0, .int a1, .int a2] (fun H => TH E (tbC dA dB rA rB rc (rdD (.inl (p, p)) (.inl (n, n)) rr)) H) (fun v H => ∃ p2 : Int, (0 ≤ p2 ∧ p2 ≤ 400) ∧ ((-2147483648) ≤ v.toInt ∧ v.toInt ≤ 2147483647) ∧ (a1.toInt ≤ v.toInt) ∧ (v.toInt ≤ a2.toInt ∨ v.toInt = a1.toInt) ∧ TH E (tbC dA dB rA rB rc (rdD (.inl (p2, p2)) (.inl (n, n)) rr)) H) := by
  refine teI (by decide) (Nat.le_of_ble_eq_true rfl) ?_
  intro p_ ev_ s mi_ below_ meth cd_ ls F hK hN hO hH hS hl
  have hH : TH E (tbC dA dB rA rB rc (rdD (.inl (p, p)) (.inl (n, n)) rr)) s.heap := hH
  have hl : lv_has ls 5 [(0, .ref a0), (1, .int a1), (2, .int a2)] := hl
  refine lv_aload_n F.1 F.2.1 dX3_readNumber_0 rfl (lv_at hl 0 rfl) ?_
  refine tVv (b := a0) (As := []) (rest := []) F hK hN hO (c_X3_skipBlanks E dA dB rA rB rc rr n p a0 ha0 (by omega) (by omega)) mv_X3_skipBlanks wd_9_14 ⟨Nat.le_of_ble_eq_true rfl, Nat.le_of_ble_eq_true rfl⟩ ⟨Nat.le_of_ble_eq_true rfl, Nat.le_of_ble_eq_true rfl⟩ hH hS (tRecv hK hH (tyb ha0 (all1 rfl)) clX3) rfl hl.1 (Nat.le_of_ble_eq_true rfl) dX3_readNumber_1 (fun H locs hq hS => ?_)
  obtain ⟨g_2, hg_2, hH⟩ := hq
  have hH : TH E (tbC dA dB rA rB rc (rdD (.inl (g_2, g_2)) (.inl (n, n)) rr)) H := hH
  refine lv_aload_n F.1 F.2.1 dX3_readNumber_4 rfl (lv_at hl 0 rfl) ?_
  refine tGetI (j := 2) F hK hH (tyb ha0 (all1 rfl)) rfl clX3 (by decide) wd_9_4 dX3_readNumber_5 (fun z_3 hz_3 => ?_)
  have ez_3 : 0 ≤ z_3.toInt ∧ z_3.toInt ≤ 400 := by omega
  refine lv_istore_n (lv' := [(3, .int z_3), (0, .ref a0), (1, .int a1), (2, .int a2)]) F.1 F.2.1 dX3_readNumber_8 rfl hl (by decide) rfl (fun ls hl => ?_)
  refine lv_iconst (v := 0) F.1 F.2.1 dX3_readNumber_9 (by decide) ?_
  refine topK (a := 0) (by decide) (fun k_4 hk_4 => ?_)
  refine lv_istore (lv' := [(4, .int k_4), (3, .int z_3), (0, .ref a0), (1, .int a1), (2, .int a2)]) F.1 F.2.1 dX3_readNumber_10 hl (by decide) rfl (fun ls hl => ?_)
  refine wloop (σ := Int32 × Int) (fun n9 x9 H locs ls => (400 - x9.2 + 1).toNat < n9 ∧ ((-2147483648) ≤ x9.1.toInt ∧ x9.1.toInt ≤ 1000000) ∧ (0 ≤ x9.2 ∧ x9.2 ≤ 400) ∧ TH E (tbC dA dB rA rB rc (rdD (.inl (x9.2, x9.2)) (.inl (n, n)) rr)) H ∧ va_S (eA E s.heap.size) s.heap H locs ∧ lv_has ls 5 [(0, .ref a0), (1, .int a1), (2, .int a2), (3, .int z_3), (4, .int x9.1)]) ?_ (fun x9 H locs ls h => absurd h.1 (Nat.not_lt_zero _)) _ (k_4, g_2) ⟨Nat.lt_succ_self _, (wkb (eqb hk_4) rfl rfl), (show 0 ≤ g_2 ∧ g_2 ≤ 400 from by omega), hH, hS, lv_sub hl [2, 3, 4, 1, 0] rfl⟩
  intro n_12 ih_12 ⟨u_5, g_6⟩ H locs ls ⟨hm_12, hu_5, hg_6, hH, hS, hl⟩
  have hm_12 : (400 - g_6 + 1).toNat < n_12 + 1 := hm_12
  have hu_5 : ((-2147483648) ≤ u_5.toInt ∧ u_5.toInt ≤ 1000000) := hu_5
  have hg_6 : (0 ≤ g_6 ∧ g_6 ≤ 400) := hg_6
  have hH : TH E (tbC dA dB rA rB rc (rdD (.inl (g_6, g_6)) (.inl (n, n)) rr)) H := hH
  have hl : lv_has ls 5 [(0, .ref a0), (1, .int a1), (2, .int a2), (3, .int z_3), (4, .int u_5)] := hl
  refine lv_aload_n F.1 F.2.1 dX3_readNumber_12 rfl (lv_at hl 0 rfl) ?_
  refine tGetI (j := 2) F hK hH (tyb ha0 (all1 rfl)) rfl clX3 (by decide) wd_9_4 dX3_readNumber_13 (fun z_7 hz_7 => ?_)
  have ez_7 : 0 ≤ z_7.toInt ∧ z_7.toInt ≤ 400 := by omega
  refine lv_aload_n F.1 F.2.1 dX3_readNumber_16 rfl (lv_at hl 0 rfl) ?_
  refine tGetI (j := 1) F hK hH (tyb ha0 (all1 rfl)) rfl clX3 (by decide) wd_9_3 dX3_readNumber_17 (fun z_8 hz_8 => ?_)
  have ez_8 : 0 ≤ z_8.toInt ∧ z_8.toInt ≤ 400 := by omega
  refine wjoin (σ := Unit) (pcj := 89) (stj := fun x9 => []) (fun x9 H locs ls => TH E (tbC dA dB rA rB rc (rdD (.inl (g_6, g_6)) (.inl (n, n)) rr)) H ∧ va_S (eA E s.heap.size) s.heap H locs ∧ lv_has ls 5 [(0, .ref a0), (1, .int a1), (2, .int a2), (3, .int z_3), (4, .int u_5)]) (fun x9 H locs ls h_ => ?_) (fun J_89 => ?_)
  · skip
    obtain ⟨hH, hS, hl⟩ := h_
    have hH : TH E (tbC dA dB rA rB rc (rdD (.inl (g_6, g_6)) (.inl (n, n)) rr)) H := hH
    have hl : lv_has ls 5 [(0, .ref a0), (1, .int a1), (2, .int a2), (3, .int z_3), (4, .int u_5)] := hl
    show W _ _ _ _ _ _ _ _ _ _ _ _ _ _ _ (F0 _ _ _ [])
    refine lv_aload_n F.1 F.2.1 dX3_readNumber_89 rfl (lv_at hl 0 rfl) ?_
    refine tGetI (j := 2) F hK hH (tyb ha0 (all1 rfl)) rfl clX3 (by decide) wd_9_4 dX3_readNumber_90 (fun z_9 hz_9 => ?_)
    have ez_9 : 0 ≤ z_9.toInt ∧ z_9.toInt ≤ 400 := by omega
    refine lv_iload_n F.1 F.2.1 dX3_readNumber_93 rfl (lv_at hl 3 rfl) ?_
    refine b_ne (tgt := 105) F dX3_readNumber_94 (by decide) (fun c_10 => ?_) (fun c_10 => ?_)
    · skip
      refine lv_iload F.1 F.2.1 dX3_readNumber_105 (lv_at hl 4 rfl) ?_
      refine lv_iload_n F.1 F.2.1 dX3_readNumber_107 rfl (lv_at hl 1 rfl) ?_
      refine wjoin (σ := Unit) (pcj := 117) (stj := fun x9 => []) (fun x9 H locs ls => TH E (tbC dA dB rA rB rc (rdD (.inl (g_6, g_6)) (.inl (n, n)) rr)) H ∧ va_S (eA E s.heap.size) s.heap H locs ∧ lv_has ls 5 [(0, .ref a0), (1, .int a1), (3, .int z_3)]) (fun x9 H locs ls h_ => ?_) (fun J_117 => ?_)
      · skip
        obtain ⟨hH, hS, hl⟩ := h_
        have hH : TH E (tbC dA dB rA rB rc (rdD (.inl (g_6, g_6)) (.inl (n, n)) rr)) H := hH
        have hl : lv_has ls 5 [(0, .ref a0), (1, .int a1), (3, .int z_3)] := hl
        show W _ _ _ _ _ _ _ _ _ _ _ _ _ _ _ (F0 _ _ _ [])
        refine lv_aload_n F.1 F.2.1 dX3_readNumber_117 rfl (lv_at hl 0 rfl) ?_
        refine lv_iload_n F.1 F.2.1 dX3_readNumber_118 rfl (lv_at hl 2 rfl) ?_
        refine lv_iconst (v := 2) F.1 F.2.1 dX3_readNumber_119 (by decide) ?_
        refine topK (a := 2) (by decide) (fun k_11 hk_11 => ?_)
        refine tVv (b := a0) (As := [.int z_3, .int k_11]) (rest := []) F hK hN hO (c_X3_blame E dA dB rA rB rc ((.inl (n, n))) ((.inl (g_6, g_6))) rr a0 z_3 k_11 ha0) mv_X3_blame wd_12_11 ⟨Nat.le_of_ble_eq_true rfl, Nat.le_of_ble_eq_true rfl⟩ ⟨Nat.le_of_ble_eq_true rfl, Nat.le_of_ble_eq_true rfl⟩ hH hS (tRecv hK hH (tyb ha0 (all1 rfl)) clX3) rfl hl.1 (Nat.le_of_ble_eq_true rfl) dX3_readNumber_120 (fun H locs hq hS => ?_)
        have hH := hq
        have hH : TH E (tbC dA dB rA rB rc (rdD (.inl (g_6, g_6)) (.inl (n, n)) rr)) H := hH
        refine lv_iload_n F.1 F.2.1 dX3_readNumber_123 rfl (lv_at hl 1 rfl) ?_
        exact txI F hS dX3_readNumber_124 rfl (⟨g_6, (by omega), (i32b _), (by omega), (by omega), hH⟩)
      refine b_lt (tgt := 117) F dX3_readNumber_108 (by decide) (fun c_13 => ?_) (fun c_13 => ?_)
      · skip
        exact J_117 () _ _ _ ⟨hH, hS, lv_sub hl [0, 1, 3] rfl⟩
      · skip
        have r_14 : (-2147483648) ≤ a1.toInt ∧ a1.toInt ≤ 1000000 := by have h9_ := (i32b a1); omega
        refine lv_iload F.1 F.2.1 dX3_readNumber_111 (lv_at hl 4 rfl) ?_
        refine lv_iload_n F.1 F.2.1 dX3_readNumber_113 rfl (lv_at hl 2 rfl) ?_
        refine b_le (tgt := 125) F dX3_readNumber_114 (by decide) (fun c_15 => ?_) (fun c_15 => ?_)
        · skip
          refine lv_iload F.1 F.2.1 dX3_readNumber_125 (lv_at hl 4 rfl) ?_
          exact txI F hS dX3_readNumber_127 rfl (⟨g_6, (by omega), (wkb hu_5 rfl rfl), (by omega), (by omega), hH⟩)
        · skip
          have r_16 : (-2147483648) ≤ a2.toInt ∧ a2.toInt ≤ 999999 := by have h9_ := (i32b a2); omega
          exact J_117 () _ _ _ ⟨hH, hS, lv_sub hl [0, 1, 3] rfl⟩
    · skip
      refine lv_aload_n F.1 F.2.1 dX3_readNumber_97 rfl (lv_at hl 0 rfl) ?_
      refine lv_iload_n F.1 F.2.1 dX3_readNumber_98 rfl (lv_at hl 3 rfl) ?_
      refine lv_iconst (v := 1) F.1 F.2.1 dX3_readNumber_99 (by decide) ?_
      refine topK (a := 1) (by decide) (fun k_17 hk_17 => ?_)
      refine tVv (b := a0) (As := [.int z_3, .int k_17]) (rest := []) F hK hN hO (c_X3_blame E dA dB rA rB rc ((.inl (n, n))) ((.inl (g_6, g_6))) rr a0 z_3 k_17 ha0) mv_X3_blame wd_12_11 ⟨Nat.le_of_ble_eq_true rfl, Nat.le_of_ble_eq_true rfl⟩ ⟨Nat.le_of_ble_eq_true rfl, Nat.le_of_ble_eq_true rfl⟩ hH hS (tRecv hK hH (tyb ha0 (all1 rfl)) clX3) rfl hl.1 (Nat.le_of_ble_eq_true rfl) dX3_readNumber_100 (fun H locs hq hS => ?_)
      have hH := hq
      have hH : TH E (tbC dA dB rA rB rc (rdD (.inl (g_6, g_6)) (.inl (n, n)) rr)) H := hH
      refine lv_iload_n F.1 F.2.1 dX3_readNumber_103 rfl (lv_at hl 1 rfl) ?_
      exact txI F hS dX3_readNumber_104 rfl (⟨g_6, (by omega), (i32b _), (by omega), (by omega), hH⟩)
  refine b_ge (tgt := 89) F dX3_readNumber_20 (by decide) (fun c_19 => ?_) (fun c_19 => ?_)
  · skip
    exact J_89 () _ _ _ ⟨hH, hS, lv_sub hl [0, 1, 2, 3, 4] rfl⟩
  · skip
    have r_20 : 0 ≤ z_7.toInt ∧ z_7.toInt ≤ 399 := by have h9_ := ez_7; omega
    have r_21 : 1 ≤ z_8.toInt ∧ z_8.toInt ≤ 400 := by have h9_ := ez_8; omega
    refine lv_aload_n F.1 F.2.1 dX3_readNumber_23 rfl (lv_at hl 0 rfl) ?_
    refine tGetR (j := 0) F hK hH (tyb ha0 (all1 rfl)) rfl (all1 rfl) clX3 (by decide) wd_5_17 dX3_readNumber_24 (fun q_22 hq_22 _ => ?_)
    refine lv_aload_n F.1 F.2.1 dX3_readNumber_27 rfl (lv_at hl 0 rfl) ?_
    refine tGetI (j := 2) F hK hH (tyb ha0 (all1 rfl)) rfl clX3 (by decide) wd_9_4 dX3_readNumber_28 (fun z_23 hz_23 => ?_)
    have ez_23 : 0 ≤ z_23.toInt ∧ z_23.toInt ≤ 399 := by omega
    refine tBaldB F hK hH (tyb hq_22 (all1 rfl)) (ixb (n := 400) ez_23 rfl rfl) dX3_readNumber_31 (fun z_24 hz_24 => ?_)
    refine lv_bipush (v := 48) F.1 F.2.1 dX3_readNumber_32 (by decide) ?_
    refine topK (a := 48) (by decide) (fun k_25 hk_25 => ?_)
    refine b_lt (tgt := 89) F dX3_readNumber_34 (by decide) (fun c_26 => ?_) (fun c_26 => ?_)
    · skip
      have r_27 : (-128) ≤ z_24.toInt ∧ z_24.toInt ≤ 47 := by have h9_ := hz_24; omega
      exact J_89 () _ _ _ ⟨hH, hS, lv_sub hl [0, 1, 2, 3, 4] rfl⟩
    · skip
      have r_28 : 48 ≤ z_24.toInt ∧ z_24.toInt ≤ 127 := by have h9_ := hz_24; omega
      refine lv_aload_n F.1 F.2.1 dX3_readNumber_37 rfl (lv_at hl 0 rfl) ?_
      refine tGetR (j := 0) F hK hH (tyb ha0 (all1 rfl)) rfl (all1 rfl) clX3 (by decide) wd_5_17 dX3_readNumber_38 (fun q_29 hq_29 _ => ?_)
      refine lv_aload_n F.1 F.2.1 dX3_readNumber_41 rfl (lv_at hl 0 rfl) ?_
      refine tGetI (j := 2) F hK hH (tyb ha0 (all1 rfl)) rfl clX3 (by decide) wd_9_4 dX3_readNumber_42 (fun z_30 hz_30 => ?_)
      have ez_30 : 0 ≤ z_30.toInt ∧ z_30.toInt ≤ 399 := by omega
      refine tBaldB F hK hH (tyb hq_29 (all1 rfl)) (ixb (n := 400) ez_30 rfl rfl) dX3_readNumber_45 (fun z_31 hz_31 => ?_)
      refine lv_bipush (v := 57) F.1 F.2.1 dX3_readNumber_46 (by decide) ?_
      refine topK (a := 57) (by decide) (fun k_32 hk_32 => ?_)
      refine b_gt (tgt := 89) F dX3_readNumber_48 (by decide) (fun c_33 => ?_) (fun c_33 => ?_)
      · skip
        have r_34 : 58 ≤ z_31.toInt ∧ z_31.toInt ≤ 127 := by have h9_ := hz_31; omega
        exact J_89 () _ _ _ ⟨hH, hS, lv_sub hl [0, 1, 2, 3, 4] rfl⟩
      · skip
        have r_35 : (-128) ≤ z_31.toInt ∧ z_31.toInt ≤ 57 := by have h9_ := hz_31; omega
        refine lv_iload F.1 F.2.1 dX3_readNumber_51 (lv_at hl 4 rfl) ?_
        refine lv_bipush (v := 10) F.1 F.2.1 dX3_readNumber_53 (by decide) ?_
        refine topK (a := 10) (by decide) (fun k_36 hk_36 => ?_)
        refine lv_imul F.1 F.2.1 dX3_readNumber_55 ?_
        refine topF (fun z_37 => ?_)
        refine lv_aload_n F.1 F.2.1 dX3_readNumber_56 rfl (lv_at hl 0 rfl) ?_
        refine tGetR (j := 0) F hK hH (tyb ha0 (all1 rfl)) rfl (all1 rfl) clX3 (by decide) wd_5_17 dX3_readNumber_57 (fun q_38 hq_38 _ => ?_)
        refine lv_aload_n F.1 F.2.1 dX3_readNumber_60 rfl (lv_at hl 0 rfl) ?_
        refine tGetI (j := 2) F hK hH (tyb ha0 (all1 rfl)) rfl clX3 (by decide) wd_9_4 dX3_readNumber_61 (fun z_39 hz_39 => ?_)
        have ez_39 : 0 ≤ z_39.toInt ∧ z_39.toInt ≤ 399 := by omega
        refine tBaldB F hK hH (tyb hq_38 (all1 rfl)) (ixb (n := 400) ez_39 rfl rfl) dX3_readNumber_64 (fun z_40 hz_40 => ?_)
        refine lv_iadd F.1 F.2.1 dX3_readNumber_65 ?_
        refine topF (fun z_41 => ?_)
        refine lv_bipush (v := 48) F.1 F.2.1 dX3_readNumber_66 (by decide) ?_
        refine topK (a := 48) (by decide) (fun k_42 hk_42 => ?_)
        refine lv_isub F.1 F.2.1 dX3_readNumber_68 ?_
        refine topF (fun z_43 => ?_)
        refine lv_ldc (own := RX3) (v := 1000000) F.1 F.2.1 F.2.2.2.2.1 (F.2.2.2.2.2.2.1 _ wd_12_23) dX3_readNumber_69 ?_
        refine topK (a := 1000000) (by decide) (fun k_44 hk_44 => ?_)
        refine tMin (lo := (-2147483648)) (hi := 1000000) F wd_8_23 wd_9_0 wd_9_1 wd_9_2 hl.1 (Nat.le_of_ble_eq_true rfl) (Nat.le_of_ble_eq_true rfl) (Nat.le_of_ble_eq_true rfl) (Nat.le_of_ble_eq_true rfl) dX3_readNumber_71 (i32b _) (eqb hk_44) rfl (fun z_45 hz_45 => ?_)
        refine lv_istore (lv' := [(4, .int z_45), (0, .ref a0), (1, .int a1), (2, .int a2), (3, .int z_3)]) F.1 F.2.1 dX3_readNumber_74 hl (by decide) rfl (fun ls hl => ?_)
        refine lv_aload_n F.1 F.2.1 dX3_readNumber_76 rfl (lv_at hl 1 rfl) ?_
        refine lv_dup F.1 F.2.1 dX3_readNumber_77 rfl ?_
        refine tGetI (j := 2) F hK hH (tyb ha0 (all1 rfl)) rfl clX3 (by decide) wd_9_4 dX3_readNumber_78 (fun z_46 hz_46 => ?_)
        have ez_46 : 0 ≤ z_46.toInt ∧ z_46.toInt ≤ 399 := by omega
        refine lv_iconst (v := 1) F.1 F.2.1 dX3_readNumber_81 (by decide) ?_
        refine topK (a := 1) (by decide) (fun k_47 hk_47 => ?_)
        refine tAdd (lo := 1) (hi := 400) F dX3_readNumber_82 ez_46 (eqb hk_47) rfl (fun z_48 hz_48 => ?_)
        obtain ⟨g_49, hg_49⟩ : ∃ y : Int, z_48.toInt = y := ⟨_, rfl⟩
        have bg_49 : 1 ≤ g_49 ∧ g_49 ≤ 400 := by rw [← hg_49]; exact hz_48.2
        refine tPutG (j := 2) (t := 29) (fd := (.inl (g_49, g_49))) F hK hH hS (List.mem_singleton.mp ha0) (by decide) rfl rfl (fdI (by omega)) (TB1 := (tbC dA dB rA rB rc (rdD (.inl (g_49, g_49)) (.inl (n, n)) rr))) rfl clX3 (by decide) wd_9_4 rfl rfl rfl rfl dX3_readNumber_83 (fun H locs hH hS => ?_)
        refine lv_goto (tgt := 12) F.1 F.2.1 dX3_readNumber_86 (by decide) ?_
        exact ih_12 (z_45, g_49) _ _ _ ⟨(show (400 - g_49 + 1).toNat < n_12 from by omega), hz_45.2, (show 0 ≤ g_49 ∧ g_49 ≤ 400 from by omega), hH, hS, lv_sub hl [1, 2, 3, 4, 0] rfl⟩
set_option maxHeartbeats 4000000 in
set_option maxRecDepth 100000 in
theorem c_X3_readBetween (E : Ev) (dA : TD) (dB : TD) (rA : TD) (rB : TD) (rc : TD) (rr : FD) (n : Int) (p : Int) (a0 : Nat) (ha0 : eT E a0 ∈ [29]) (hn : 0 ≤ n ∧ n ≤ 400) (hp : 0 ≤ p ∧ p ≤ 400) : TcI E yX3_readBetween cX3_readBetween 1 .boolean ({ frames := 2, cells := 0, slots := 0, locals := 62 }) [.ref a0] (fun H => TH E (tbC dA dB rA rB rc (rdD (.inl (p, p)) (.inl (n, n)) rr)) H) (fun v H => ∃ p2 : Int, (0 ≤ p2 ∧ p2 ≤ 400) ∧ (0 ≤ v.toInt ∧ v.toInt ≤ 1) ∧ TH E (tbC dA dB rA rB rc (rdD (.inl (p2, p2)) (.inl (n, n)) rr)) H) := by
  refine teI (by decide) (Nat.le_of_ble_eq_true rfl) ?_
  intro p_ ev_ s mi_ below_ meth cd_ ls F hK hN hO hH hS hl
  have hH : TH E (tbC dA dB rA rB rc (rdD (.inl (p, p)) (.inl (n, n)) rr)) s.heap := hH
  have hl : lv_has ls 1 [(0, .ref a0)] := hl
  refine lv_aload_n F.1 F.2.1 dX3_readBetween_0 rfl (lv_at hl 0 rfl) ?_
  refine tVv (b := a0) (As := []) (rest := []) F hK hN hO (c_X3_skipBlanks E dA dB rA rB rc rr n p a0 ha0 (by omega) (by omega)) mv_X3_skipBlanks wd_9_14 ⟨Nat.le_of_ble_eq_true rfl, Nat.le_of_ble_eq_true rfl⟩ ⟨Nat.le_of_ble_eq_true rfl, Nat.le_of_ble_eq_true rfl⟩ hH hS (tRecv hK hH (tyb ha0 (all1 rfl)) clX3) rfl hl.1 (Nat.le_of_ble_eq_true rfl) dX3_readBetween_1 (fun H locs hq hS => ?_)
  obtain ⟨g_2, hg_2, hH⟩ := hq
  have hH : TH E (tbC dA dB rA rB rc (rdD (.inl (g_2, g_2)) (.inl (n, n)) rr)) H := hH
  refine lv_aload_n F.1 F.2.1 dX3_readBetween_4 rfl (lv_at hl 0 rfl) ?_
  refine tGetI (j := 3) F hK hH (tyb ha0 (all1 rfl)) rfl clX3 (by decide) wd_9_5 dX3_readBetween_5 (fun z_3 hz_3 => ?_)
  refine z_ne (tgt := 22) F dX3_readBetween_8 (by decide) (fun c_4 => ?_) (fun c_4 => ?_)
  · skip
    refine lv_iconst (v := 0) F.1 F.2.1 dX3_readBetween_22 (by decide) ?_
    refine topK (a := 0) (by decide) (fun k_6 hk_6 => ?_)
    exact txI F hS dX3_readBetween_23 (nar01 (wkb (eqb hk_6) rfl rfl)) (⟨g_2, (by omega), (wkb (eqb hk_6) rfl rfl), hH⟩)
  · skip
    have r_5 : 0 ≤ z_3.toInt ∧ z_3.toInt ≤ 0 := by have h9_ := hz_3; omega
    refine lv_aload_n F.1 F.2.1 dX3_readBetween_11 rfl (lv_at hl 0 rfl) ?_
    refine tGetI (j := 2) F hK hH (tyb ha0 (all1 rfl)) rfl clX3 (by decide) wd_9_4 dX3_readBetween_12 (fun z_7 hz_7 => ?_)
    have ez_7 : 0 ≤ z_7.toInt ∧ z_7.toInt ≤ 400 := by omega
    refine lv_aload_n F.1 F.2.1 dX3_readBetween_15 rfl (lv_at hl 0 rfl) ?_
    refine tGetI (j := 1) F hK hH (tyb ha0 (all1 rfl)) rfl clX3 (by decide) wd_9_3 dX3_readBetween_16 (fun z_8 hz_8 => ?_)
    have ez_8 : 0 ≤ z_8.toInt ∧ z_8.toInt ≤ 400 := by omega
    refine b_lt (tgt := 24) F dX3_readBetween_19 (by decide) (fun c_9 => ?_) (fun c_9 => ?_)
    · skip
      have r_10 : 0 ≤ z_7.toInt ∧ z_7.toInt ≤ 399 := by have h9_ := ez_7; omega
      have r_11 : 1 ≤ z_8.toInt ∧ z_8.toInt ≤ 400 := by have h9_ := ez_8; omega
      refine lv_aload_n F.1 F.2.1 dX3_readBetween_24 rfl (lv_at hl 0 rfl) ?_
      refine tGetR (j := 0) F hK hH (tyb ha0 (all1 rfl)) rfl (all1 rfl) clX3 (by decide) wd_5_17 dX3_readBetween_25 (fun q_12 hq_12 _ => ?_)
      refine lv_aload_n F.1 F.2.1 dX3_readBetween_28 rfl (lv_at hl 0 rfl) ?_
      refine tGetI (j := 2) F hK hH (tyb ha0 (all1 rfl)) rfl clX3 (by decide) wd_9_4 dX3_readBetween_29 (fun z_13 hz_13 => ?_)
      have ez_13 : 0 ≤ z_13.toInt ∧ z_13.toInt ≤ 399 := by omega
      refine tBaldB F hK hH (tyb hq_12 (all1 rfl)) (ixb (n := 400) ez_13 rfl rfl) dX3_readBetween_32 (fun z_14 hz_14 => ?_)
      refine lv_bipush (v := 59) F.1 F.2.1 dX3_readBetween_33 (by decide) ?_
      refine topK (a := 59) (by decide) (fun k_15 hk_15 => ?_)
      refine b_eq (tgt := 49) F dX3_readBetween_35 (by decide) (fun c_16 => ?_) (fun c_16 => ?_)
      · skip
        have r_17 : 59 ≤ z_14.toInt ∧ z_14.toInt ≤ 59 := by have h9_ := hz_14; omega
        refine lv_aload_n F.1 F.2.1 dX3_readBetween_49 rfl (lv_at hl 0 rfl) ?_
        refine lv_dup F.1 F.2.1 dX3_readBetween_50 rfl ?_
        refine tGetI (j := 2) F hK hH (tyb ha0 (all1 rfl)) rfl clX3 (by decide) wd_9_4 dX3_readBetween_51 (fun z_18 hz_18 => ?_)
        have ez_18 : 0 ≤ z_18.toInt ∧ z_18.toInt ≤ 399 := by omega
        refine lv_iconst (v := 1) F.1 F.2.1 dX3_readBetween_54 (by decide) ?_
        refine topK (a := 1) (by decide) (fun k_19 hk_19 => ?_)
        refine tAdd (lo := 1) (hi := 400) F dX3_readBetween_55 ez_18 (eqb hk_19) rfl (fun z_20 hz_20 => ?_)
        obtain ⟨g_21, hg_21⟩ : ∃ y : Int, z_20.toInt = y := ⟨_, rfl⟩
        have bg_21 : 1 ≤ g_21 ∧ g_21 ≤ 400 := by rw [← hg_21]; exact hz_20.2
        refine tPutG (j := 2) (t := 29) (fd := (.inl (g_21, g_21))) F hK hH hS (List.mem_singleton.mp ha0) (by decide) rfl rfl (fdI (by omega)) (TB1 := (tbC dA dB rA rB rc (rdD (.inl (g_21, g_21)) (.inl (n, n)) rr))) rfl clX3 (by decide) wd_9_4 rfl rfl rfl rfl dX3_readBetween_56 (fun H locs hH hS => ?_)
        refine lv_iconst (v := 1) F.1 F.2.1 dX3_readBetween_59 (by decide) ?_
        refine topK (a := 1) (by decide) (fun k_22 hk_22 => ?_)
        exact txI F hS dX3_readBetween_60 (nar01 (wkb (eqb hk_22) rfl rfl)) (⟨g_21, (by omega), (wkb (eqb hk_22) rfl rfl), hH⟩)
      · skip
        refine lv_aload_n F.1 F.2.1 dX3_readBetween_38 rfl (lv_at hl 0 rfl) ?_
        refine lv_aload_n F.1 F.2.1 dX3_readBetween_39 rfl (lv_at hl 0 rfl) ?_
        refine tGetI (j := 2) F hK hH (tyb ha0 (all1 rfl)) rfl clX3 (by decide) wd_9_4 dX3_readBetween_40 (fun z_23 hz_23 => ?_)
        have ez_23 : 0 ≤ z_23.toInt ∧ z_23.toInt ≤ 399 := by omega
        refine lv_iconst (v := 1) F.1 F.2.1 dX3_readBetween_43 (by decide) ?_
        refine topK (a := 1) (by decide) (fun k_24 hk_24 => ?_)
        refine tVv (b := a0) (As := [.int z_23, .int k_24]) (rest := []) F hK hN hO (c_X3_blame E dA dB rA rB rc ((.inl (n, n))) ((.inl (g_2, g_2))) rr a0 z_23 k_24 ha0) mv_X3_blame wd_12_11 ⟨Nat.le_of_ble_eq_true rfl, Nat.le_of_ble_eq_true rfl⟩ ⟨Nat.le_of_ble_eq_true rfl, Nat.le_of_ble_eq_true rfl⟩ hH hS (tRecv hK hH (tyb ha0 (all1 rfl)) clX3) rfl hl.1 (Nat.le_of_ble_eq_true rfl) dX3_readBetween_44 (fun H locs hq hS => ?_)
        have hH := hq
        have hH : TH E (tbC dA dB rA rB rc (rdD (.inl (g_2, g_2)) (.inl (n, n)) rr)) H := hH
        refine lv_iconst (v := 0) F.1 F.2.1 dX3_readBetween_47 (by decide) ?_
        refine topK (a := 0) (by decide) (fun k_26 hk_26 => ?_)
        exact txI F hS dX3_readBetween_48 (nar01 (wkb (eqb hk_26) rfl rfl)) (⟨g_2, (by omega), (wkb (eqb hk_26) rfl rfl), hH⟩)
    · skip
      refine lv_iconst (v := 0) F.1 F.2.1 dX3_readBetween_22 (by decide) ?_
      refine topK (a := 0) (by decide) (fun k_27 hk_27 => ?_)
      exact txI F hS dX3_readBetween_23 (nar01 (wkb (eqb hk_27) rfl rfl)) (⟨g_2, (by omega), (wkb (eqb hk_27) rfl rfl), hH⟩)
set_option maxHeartbeats 4000000 in
set_option maxRecDepth 100000 in
theorem c_X2_clear_1 (E : Ev) (dA : TD) (dB : TD) (rB : TD) (rc : TD) (rd : TD) (a0 : Nat) (ha0 : eT E a0 ∈ [26]) : TcV E yX2_clear cX2_clear 1 ({ frames := 1, cells := 0, slots := 0, locals := 40 }) [.ref a0] (fun H => TH E (tbC dA dB (riverD (.inl (0, 12)) (.inl (0, 14)) (.inl (0, 4))) rB rc rd) H) (fun H => TH E (tbC dA dB (riverD (.inl (0, 0)) (.inl (0, 0)) (.inl (0, 0))) rB rc rd) H) := by
  refine teV (by decide) (Nat.le_of_ble_eq_true rfl) ?_
  intro p_ ev_ s mi_ below_ meth cd_ ls F hK hN hO hH hS hl
  have hH : TH E (tbC dA dB (riverD (.inl (0, 12)) (.inl (0, 14)) (.inl (0, 4))) rB rc rd) s.heap := hH
  have hl : lv_has ls 1 [(0, .ref a0)] := hl
  refine lv_aload_n F.1 F.2.1 dX2_clear_0 rfl (lv_at hl 0 rfl) ?_
  refine lv_iconst (v := 0) F.1 F.2.1 dX2_clear_1 (by decide) ?_
  refine topK (a := 0) (by decide) (fun k_1 hk_1 => ?_)
  refine tPutG (j := 0) (t := 26) (fd := (.inl (0, 0))) F hK hH hS (List.mem_singleton.mp ha0) (by decide) rfl rfl (fdI (by omega)) (TB1 := (tbC dA dB (riverD (.inl (0, 0)) (.inl (0, 14)) (.inl (0, 4))) rB rc rd)) rfl clX2 (by decide) wd_9_11 rfl rfl rfl rfl dX2_clear_2 (fun H locs hH hS => ?_)
  refine lv_aload_n F.1 F.2.1 dX2_clear_5 rfl (lv_at hl 0 rfl) ?_
  refine lv_iconst (v := 0) F.1 F.2.1 dX2_clear_6 (by decide) ?_
  refine topK (a := 0) (by decide) (fun k_2 hk_2 => ?_)
  refine tPutG (j := 4) (t := 26) (fd := (.inl (0, 0))) F hK hH hS (List.mem_singleton.mp ha0) (by decide) rfl rfl (fdI (by omega)) (TB1 := (tbC dA dB (riverD (.inl (0, 0)) (.inl (0, 0)) (.inl (0, 4))) rB rc rd)) rfl clX2 (by decide) wd_9_12 rfl rfl rfl rfl dX2_clear_7 (fun H locs hH hS => ?_)
  refine lv_aload_n F.1 F.2.1 dX2_clear_10 rfl (lv_at hl 0 rfl) ?_
  refine lv_iconst (v := 0) F.1 F.2.1 dX2_clear_11 (by decide) ?_
  refine topK (a := 0) (by decide) (fun k_3 hk_3 => ?_)
  refine tPutG (j := 14) (t := 26) (fd := (.inl (0, 0))) F hK hH hS (List.mem_singleton.mp ha0) (by decide) rfl rfl (fdI (by omega)) (TB1 := (tbC dA dB (riverD (.inl (0, 0)) (.inl (0, 0)) (.inl (0, 0))) rB rc rd)) rfl clX2 (by decide) wd_9_13 rfl rfl rfl rfl dX2_clear_12 (fun H locs hH hS => ?_)
  refine lv_aload_n F.1 F.2.1 dX2_clear_15 rfl (lv_at hl 0 rfl) ?_
  refine lv_bipush (v := 100) F.1 F.2.1 dX2_clear_16 (by decide) ?_
  refine topK (a := 100) (by decide) (fun k_4 hk_4 => ?_)
  refine tPut (j := 19) F hK hH hS (tyb ha0 (all1 rfl)) rfl (fdI (wkb (eqb hk_4) rfl rfl)) clX2 (by decide) wd_3_15 rfl rfl rfl rfl dX2_clear_18 (fun H locs hH hS => ?_)
  exact txV F hS dX2_clear_21 (hH)
set_option maxHeartbeats 4000000 in
set_option maxRecDepth 100000 in
theorem c_X2_clear_2 (E : Ev) (dA : TD) (dB : TD) (rA : TD) (rc : TD) (rd : TD) (a0 : Nat) (ha0 : eT E a0 ∈ [27]) : TcV E yX2_clear cX2_clear 1 ({ frames := 1, cells := 0, slots := 0, locals := 40 }) [.ref a0] (fun H => TH E (tbC dA dB rA (riverD (.inl (0, 12)) (.inl (0, 14)) (.inl (0, 4))) rc rd) H) (fun H => TH E (tbC dA dB rA (riverD (.inl (0, 0)) (.inl (0, 0)) (.inl (0, 0))) rc rd) H) := by
  refine teV (by decide) (Nat.le_of_ble_eq_true rfl) ?_
  intro p_ ev_ s mi_ below_ meth cd_ ls F hK hN hO hH hS hl
  have hH : TH E (tbC dA dB rA (riverD (.inl (0, 12)) (.inl (0, 14)) (.inl (0, 4))) rc rd) s.heap := hH
  have hl : lv_has ls 1 [(0, .ref a0)] := hl
  refine lv_aload_n F.1 F.2.1 dX2_clear_0 rfl (lv_at hl 0 rfl) ?_
  refine lv_iconst (v := 0) F.1 F.2.1 dX2_clear_1 (by decide) ?_
  refine topK (a := 0) (by decide) (fun k_1 hk_1 => ?_)
  refine tPutG (j := 0) (t := 27) (fd := (.inl (0, 0))) F hK hH hS (List.mem_singleton.mp ha0) (by decide) rfl rfl (fdI (by omega)) (TB1 := (tbC dA dB rA (riverD (.inl (0, 0)) (.inl (0, 14)) (.inl (0, 4))) rc rd)) rfl clX2 (by decide) wd_9_11 rfl rfl rfl rfl dX2_clear_2 (fun H locs hH hS => ?_)
  refine lv_aload_n F.1 F.2.1 dX2_clear_5 rfl (lv_at hl 0 rfl) ?_
  refine lv_iconst (v := 0) F.1 F.2.1 dX2_clear_6 (by decide) ?_
  refine topK (a := 0) (by decide) (fun k_2 hk_2 => ?_)
  refine tPutG (j := 4) (t := 27) (fd := (.inl (0, 0))) F hK hH hS (List.mem_singleton.mp ha0) (by decide) rfl rfl (fdI (by omega)) (TB1 := (tbC dA dB rA (riverD (.inl (0, 0)) (.inl (0, 0)) (.inl (0, 4))) rc rd)) rfl clX2 (by decide) wd_9_12 rfl rfl rfl rfl dX2_clear_7 (fun H locs hH hS => ?_)
  refine lv_aload_n F.1 F.2.1 dX2_clear_10 rfl (lv_at hl 0 rfl) ?_
  refine lv_iconst (v := 0) F.1 F.2.1 dX2_clear_11 (by decide) ?_
  refine topK (a := 0) (by decide) (fun k_3 hk_3 => ?_)
  refine tPutG (j := 14) (t := 27) (fd := (.inl (0, 0))) F hK hH hS (List.mem_singleton.mp ha0) (by decide) rfl rfl (fdI (by omega)) (TB1 := (tbC dA dB rA (riverD (.inl (0, 0)) (.inl (0, 0)) (.inl (0, 0))) rc rd)) rfl clX2 (by decide) wd_9_13 rfl rfl rfl rfl dX2_clear_12 (fun H locs hH hS => ?_)
  refine lv_aload_n F.1 F.2.1 dX2_clear_15 rfl (lv_at hl 0 rfl) ?_
  refine lv_bipush (v := 100) F.1 F.2.1 dX2_clear_16 (by decide) ?_
  refine topK (a := 100) (by decide) (fun k_4 hk_4 => ?_)
  refine tPut (j := 19) F hK hH hS (tyb ha0 (all1 rfl)) rfl (fdI (wkb (eqb hk_4) rfl rfl)) clX2 (by decide) wd_3_15 rfl rfl rfl rfl dX2_clear_18 (fun H locs hH hS => ?_)
  exact txV F hS dX2_clear_21 (hH)
set_option maxHeartbeats 4000000 in
set_option maxRecDepth 100000 in
theorem c_X2_hasAge_1 (E : Ev) (dA : TD) (dB : TD) (rB : TD) (rc : TD) (rd : TD) (a : Int) (b : Int) (c : Int) (a0 : Nat) (a1 : Int32) (ha0 : eT E a0 ∈ [26]) (ha : 0 ≤ a ∧ a ≤ 12) (hb : 0 ≤ b ∧ b ≤ 14) (hc : 0 ≤ c ∧ c ≤ 4) : TcI E yX2_hasAge cX2_hasAge 3 .boolean ({ frames := 1, cells := 0, slots := 0, locals := 40 }) [.ref a0, .int a1] (fun H => TH E (tbC dA dB (riverD (.inl (a, a)) (.inl (b, b)) (.inl (c, c))) rB rc rd) H) (fun v H => (0 ≤ v.toInt ∧ v.toInt ≤ 1) ∧ TH E (tbC dA dB (riverD (.inl (a, a)) (.inl (b, b)) (.inl (c, c))) rB rc rd) H) := by
  refine teI (by decide) (Nat.le_of_ble_eq_true rfl) ?_
  intro p_ ev_ s mi_ below_ meth cd_ ls F hK hN hO hH hS hl
  have hH : TH E (tbC dA dB (riverD (.inl (a, a)) (.inl (b, b)) (.inl (c, c))) rB rc rd) s.heap := hH
  have hl : lv_has ls 3 [(0, .ref a0), (1, .int a1)] := hl
  refine lv_iconst (v := 0) F.1 F.2.1 dX2_hasAge_0 (by decide) ?_
  refine topK (a := 0) (by decide) (fun k_1 hk_1 => ?_)
  refine lv_istore_n (lv' := [(2, .int k_1), (0, .ref a0), (1, .int a1)]) F.1 F.2.1 dX2_hasAge_1 rfl hl (by decide) rfl (fun ls hl => ?_)
  refine wloop (σ := Int32) (fun n9 x9 H locs ls => (14 - x9.toInt + 1).toNat < n9 ∧ (0 ≤ x9.toInt ∧ x9.toInt ≤ 14) ∧ TH E (tbC dA dB (riverD (.inl (a, a)) (.inl (b, b)) (.inl (c, c))) rB rc rd) H ∧ va_S (eA E s.heap.size) s.heap H locs ∧ lv_has ls 3 [(0, .ref a0), (1, .int a1), (2, .int x9)]) ?_ (fun x9 H locs ls h => absurd h.1 (Nat.not_lt_zero _)) _ (k_1) ⟨Nat.lt_succ_self _, (wkb (eqb hk_1) rfl rfl), hH, hS, lv_sub hl [1, 2, 0] rfl⟩
  intro n_2 ih_2 u_2 H locs ls ⟨hm_2, hu_2, hH, hS, hl⟩
  have hm_2 : (14 - u_2.toInt + 1).toNat < n_2 + 1 := hm_2
  have hu_2 : (0 ≤ u_2.toInt ∧ u_2.toInt ≤ 14) := hu_2
  have hH : TH E (tbC dA dB (riverD (.inl (a, a)) (.inl (b, b)) (.inl (c, c))) rB rc rd) H := hH
  have hl : lv_has ls 3 [(0, .ref a0), (1, .int a1), (2, .int u_2)] := hl
  refine lv_iload_n F.1 F.2.1 dX2_hasAge_2 rfl (lv_at hl 2 rfl) ?_
  refine lv_aload_n F.1 F.2.1 dX2_hasAge_3 rfl (lv_at hl 0 rfl) ?_
  refine tGetI (j := 4) F hK hH (tyb ha0 (all1 rfl)) rfl clX2 (by decide) wd_9_12 dX2_hasAge_4 (fun z_3 hz_3 => ?_)
  have ez_3 : 0 ≤ z_3.toInt ∧ z_3.toInt ≤ 14 := by omega
  refine b_ge (tgt := 28) F dX2_hasAge_7 (by decide) (fun c_4 => ?_) (fun c_4 => ?_)
  · skip
    refine lv_iconst (v := 0) F.1 F.2.1 dX2_hasAge_28 (by decide) ?_
    refine topK (a := 0) (by decide) (fun k_7 hk_7 => ?_)
    refine lv_istore_n (lv' := [(2, .int k_7), (0, .ref a0), (1, .int a1)]) F.1 F.2.1 dX2_hasAge_29 rfl hl (by decide) rfl (fun ls hl => ?_)
    refine wloop (σ := Int32) (fun n9 x9 H locs ls => (4 - x9.toInt + 1).toNat < n9 ∧ (0 ≤ x9.toInt ∧ x9.toInt ≤ 4) ∧ TH E (tbC dA dB (riverD (.inl (a, a)) (.inl (b, b)) (.inl (c, c))) rB rc rd) H ∧ va_S (eA E s.heap.size) s.heap H locs ∧ lv_has ls 3 [(0, .ref a0), (1, .int a1), (2, .int x9)]) ?_ (fun x9 H locs ls h => absurd h.1 (Nat.not_lt_zero _)) _ (k_7) ⟨Nat.lt_succ_self _, (wkb (eqb hk_7) rfl rfl), hH, hS, lv_sub hl [1, 2, 0] rfl⟩
    intro n_30 ih_30 u_8 H locs ls ⟨hm_30, hu_8, hH, hS, hl⟩
    have hm_30 : (4 - u_8.toInt + 1).toNat < n_30 + 1 := hm_30
    have hu_8 : (0 ≤ u_8.toInt ∧ u_8.toInt ≤ 4) := hu_8
    have hH : TH E (tbC dA dB (riverD (.inl (a, a)) (.inl (b, b)) (.inl (c, c))) rB rc rd) H := hH
    have hl : lv_has ls 3 [(0, .ref a0), (1, .int a1), (2, .int u_8)] := hl
    refine lv_iload_n F.1 F.2.1 dX2_hasAge_30 rfl (lv_at hl 2 rfl) ?_
    refine lv_aload_n F.1 F.2.1 dX2_hasAge_31 rfl (lv_at hl 0 rfl) ?_
    refine tGetI (j := 14) F hK hH (tyb ha0 (all1 rfl)) rfl clX2 (by decide) wd_9_13 dX2_hasAge_32 (fun z_9 hz_9 => ?_)
    have ez_9 : 0 ≤ z_9.toInt ∧ z_9.toInt ≤ 4 := by omega
    refine b_ge (tgt := 56) F dX2_hasAge_35 (by decide) (fun c_10 => ?_) (fun c_10 => ?_)
    · skip
      refine lv_iconst (v := 0) F.1 F.2.1 dX2_hasAge_56 (by decide) ?_
      refine topK (a := 0) (by decide) (fun k_13 hk_13 => ?_)
      exact txI F hS dX2_hasAge_57 (nar01 (wkb (eqb hk_13) rfl rfl)) (⟨(wkb (eqb hk_13) rfl rfl), hH⟩)
    · skip
      have r_11 : 0 ≤ u_8.toInt ∧ u_8.toInt ≤ 3 := by have h9_ := hu_8; omega
      have r_12 : 1 ≤ z_9.toInt ∧ z_9.toInt ≤ 4 := by have h9_ := ez_9; omega
      refine lv_aload_n F.1 F.2.1 dX2_hasAge_38 rfl (lv_at hl 0 rfl) ?_
      refine tGetR (j := 18) F hK hH (tyb ha0 (all1 rfl)) rfl (all1 rfl) clX2 (by decide) wd_3_14 dX2_hasAge_39 (fun q_14 hq_14 _ => ?_)
      refine lv_iload_n F.1 F.2.1 dX2_hasAge_42 rfl (lv_at hl 2 rfl) ?_
      refine tIaldB F hK hH (tyb hq_14 (all1 rfl)) (ixb (n := 4) r_11 rfl rfl) dX2_hasAge_43 (fun z_15 hz_15 => ?_)
      refine lv_iload_n F.1 F.2.1 dX2_hasAge_44 rfl (lv_at hl 1 rfl) ?_
      refine b_ne (tgt := 50) F dX2_hasAge_45 (by decide) (fun c_16 => ?_) (fun c_16 => ?_)
      · skip
        obtain ⟨x_17, ex_17, hx_17⟩ := iincB (c := 1) (lo := 1) (hi := 4) r_11 rfl
        refine lv_iinc (v := x_17) (lv' := [(2, .int x_17), (0, .ref a0), (1, .int a1)]) F.1 F.2.1 dX2_hasAge_50 hl (k := 2) rfl ex_17 (by decide) rfl (fun ls hl => ?_)
        refine lv_goto (tgt := 30) F.1 F.2.1 dX2_hasAge_53 (by decide) ?_
        exact ih_30 (x_17) _ _ _ ⟨(show (4 - x_17.toInt + 1).toNat < n_30 from by omega), (wkb hx_17.2 rfl rfl), hH, hS, lv_sub hl [1, 2, 0] rfl⟩
      · skip
        refine lv_iconst (v := 1) F.1 F.2.1 dX2_hasAge_48 (by decide) ?_
        refine topK (a := 1) (by decide) (fun k_18 hk_18 => ?_)
        exact txI F hS dX2_hasAge_49 (nar01 (wkb (eqb hk_18) rfl rfl)) (⟨(wkb (eqb hk_18) rfl rfl), hH⟩)
  · skip
    have r_5 : 0 ≤ u_2.toInt ∧ u_2.toInt ≤ 13 := by have h9_ := hu_2; omega
    have r_6 : 1 ≤ z_3.toInt ∧ z_3.toInt ≤ 14 := by have h9_ := ez_3; omega
    refine lv_aload_n F.1 F.2.1 dX2_hasAge_10 rfl (lv_at hl 0 rfl) ?_
    refine tGetR (j := 9) F hK hH (tyb ha0 (all1 rfl)) rfl (all1 rfl) clX2 (by decide) wd_3_6 dX2_hasAge_11 (fun q_19 hq_19 _ => ?_)
    refine lv_iload_n F.1 F.2.1 dX2_hasAge_14 rfl (lv_at hl 2 rfl) ?_
    refine tIaldB F hK hH (tyb hq_19 (all1 rfl)) (ixb (n := 14) r_5 rfl rfl) dX2_hasAge_15 (fun z_20 hz_20 => ?_)
    refine lv_iload_n F.1 F.2.1 dX2_hasAge_16 rfl (lv_at hl 1 rfl) ?_
    refine b_ne (tgt := 22) F dX2_hasAge_17 (by decide) (fun c_21 => ?_) (fun c_21 => ?_)
    · skip
      obtain ⟨x_22, ex_22, hx_22⟩ := iincB (c := 1) (lo := 1) (hi := 14) r_5 rfl
      refine lv_iinc (v := x_22) (lv' := [(2, .int x_22), (0, .ref a0), (1, .int a1)]) F.1 F.2.1 dX2_hasAge_22 hl (k := 2) rfl ex_22 (by decide) rfl (fun ls hl => ?_)
      refine lv_goto (tgt := 2) F.1 F.2.1 dX2_hasAge_25 (by decide) ?_
      exact ih_2 (x_22) _ _ _ ⟨(show (14 - x_22.toInt + 1).toNat < n_2 from by omega), (wkb hx_22.2 rfl rfl), hH, hS, lv_sub hl [1, 2, 0] rfl⟩
    · skip
      refine lv_iconst (v := 1) F.1 F.2.1 dX2_hasAge_20 (by decide) ?_
      refine topK (a := 1) (by decide) (fun k_23 hk_23 => ?_)
      exact txI F hS dX2_hasAge_21 (nar01 (wkb (eqb hk_23) rfl rfl)) (⟨(wkb (eqb hk_23) rfl rfl), hH⟩)
set_option maxHeartbeats 4000000 in
set_option maxRecDepth 100000 in
theorem c_X2_hasAge_2 (E : Ev) (dA : TD) (dB : TD) (rA : TD) (rc : TD) (rd : TD) (a : Int) (b : Int) (c : Int) (a0 : Nat) (a1 : Int32) (ha0 : eT E a0 ∈ [27]) (ha : 0 ≤ a ∧ a ≤ 12) (hb : 0 ≤ b ∧ b ≤ 14) (hc : 0 ≤ c ∧ c ≤ 4) : TcI E yX2_hasAge cX2_hasAge 3 .boolean ({ frames := 1, cells := 0, slots := 0, locals := 40 }) [.ref a0, .int a1] (fun H => TH E (tbC dA dB rA (riverD (.inl (a, a)) (.inl (b, b)) (.inl (c, c))) rc rd) H) (fun v H => (0 ≤ v.toInt ∧ v.toInt ≤ 1) ∧ TH E (tbC dA dB rA (riverD (.inl (a, a)) (.inl (b, b)) (.inl (c, c))) rc rd) H) := by
  refine teI (by decide) (Nat.le_of_ble_eq_true rfl) ?_
  intro p_ ev_ s mi_ below_ meth cd_ ls F hK hN hO hH hS hl
  have hH : TH E (tbC dA dB rA (riverD (.inl (a, a)) (.inl (b, b)) (.inl (c, c))) rc rd) s.heap := hH
  have hl : lv_has ls 3 [(0, .ref a0), (1, .int a1)] := hl
  refine lv_iconst (v := 0) F.1 F.2.1 dX2_hasAge_0 (by decide) ?_
  refine topK (a := 0) (by decide) (fun k_1 hk_1 => ?_)
  refine lv_istore_n (lv' := [(2, .int k_1), (0, .ref a0), (1, .int a1)]) F.1 F.2.1 dX2_hasAge_1 rfl hl (by decide) rfl (fun ls hl => ?_)
  refine wloop (σ := Int32) (fun n9 x9 H locs ls => (14 - x9.toInt + 1).toNat < n9 ∧ (0 ≤ x9.toInt ∧ x9.toInt ≤ 14) ∧ TH E (tbC dA dB rA (riverD (.inl (a, a)) (.inl (b, b)) (.inl (c, c))) rc rd) H ∧ va_S (eA E s.heap.size) s.heap H locs ∧ lv_has ls 3 [(0, .ref a0), (1, .int a1), (2, .int x9)]) ?_ (fun x9 H locs ls h => absurd h.1 (Nat.not_lt_zero _)) _ (k_1) ⟨Nat.lt_succ_self _, (wkb (eqb hk_1) rfl rfl), hH, hS, lv_sub hl [1, 2, 0] rfl⟩
  intro n_2 ih_2 u_2 H locs ls ⟨hm_2, hu_2, hH, hS, hl⟩
  have hm_2 : (14 - u_2.toInt + 1).toNat < n_2 + 1 := hm_2
  have hu_2 : (0 ≤ u_2.toInt ∧ u_2.toInt ≤ 14) := hu_2
  have hH : TH E (tbC dA dB rA (riverD (.inl (a, a)) (.inl (b, b)) (.inl (c, c))) rc rd) H := hH
  have hl : lv_has ls 3 [(0, .ref a0), (1, .int a1), (2, .int u_2)] := hl
  refine lv_iload_n F.1 F.2.1 dX2_hasAge_2 rfl (lv_at hl 2 rfl) ?_
  refine lv_aload_n F.1 F.2.1 dX2_hasAge_3 rfl (lv_at hl 0 rfl) ?_
  refine tGetI (j := 4) F hK hH (tyb ha0 (all1 rfl)) rfl clX2 (by decide) wd_9_12 dX2_hasAge_4 (fun z_3 hz_3 => ?_)
  have ez_3 : 0 ≤ z_3.toInt ∧ z_3.toInt ≤ 14 := by omega
  refine b_ge (tgt := 28) F dX2_hasAge_7 (by decide) (fun c_4 => ?_) (fun c_4 => ?_)
  · skip
    refine lv_iconst (v := 0) F.1 F.2.1 dX2_hasAge_28 (by decide) ?_
    refine topK (a := 0) (by decide) (fun k_7 hk_7 => ?_)
    refine lv_istore_n (lv' := [(2, .int k_7), (0, .ref a0), (1, .int a1)]) F.1 F.2.1 dX2_hasAge_29 rfl hl (by decide) rfl (fun ls hl => ?_)
    refine wloop (σ := Int32) (fun n9 x9 H locs ls => (4 - x9.toInt + 1).toNat < n9 ∧ (0 ≤ x9.toInt ∧ x9.toInt ≤ 4) ∧ TH E (tbC dA dB rA (riverD (.inl (a, a)) (.inl (b, b)) (.inl (c, c))) rc rd) H ∧ va_S (eA E s.heap.size) s.heap H locs ∧ lv_has ls 3 [(0, .ref a0), (1, .int a1), (2, .int x9)]) ?_ (fun x9 H locs ls h => absurd h.1 (Nat.not_lt_zero _)) _ (k_7) ⟨Nat.lt_succ_self _, (wkb (eqb hk_7) rfl rfl), hH, hS, lv_sub hl [1, 2, 0] rfl⟩
    intro n_30 ih_30 u_8 H locs ls ⟨hm_30, hu_8, hH, hS, hl⟩
    have hm_30 : (4 - u_8.toInt + 1).toNat < n_30 + 1 := hm_30
    have hu_8 : (0 ≤ u_8.toInt ∧ u_8.toInt ≤ 4) := hu_8
    have hH : TH E (tbC dA dB rA (riverD (.inl (a, a)) (.inl (b, b)) (.inl (c, c))) rc rd) H := hH
    have hl : lv_has ls 3 [(0, .ref a0), (1, .int a1), (2, .int u_8)] := hl
    refine lv_iload_n F.1 F.2.1 dX2_hasAge_30 rfl (lv_at hl 2 rfl) ?_
    refine lv_aload_n F.1 F.2.1 dX2_hasAge_31 rfl (lv_at hl 0 rfl) ?_
    refine tGetI (j := 14) F hK hH (tyb ha0 (all1 rfl)) rfl clX2 (by decide) wd_9_13 dX2_hasAge_32 (fun z_9 hz_9 => ?_)
    have ez_9 : 0 ≤ z_9.toInt ∧ z_9.toInt ≤ 4 := by omega
    refine b_ge (tgt := 56) F dX2_hasAge_35 (by decide) (fun c_10 => ?_) (fun c_10 => ?_)
    · skip
      refine lv_iconst (v := 0) F.1 F.2.1 dX2_hasAge_56 (by decide) ?_
      refine topK (a := 0) (by decide) (fun k_13 hk_13 => ?_)
      exact txI F hS dX2_hasAge_57 (nar01 (wkb (eqb hk_13) rfl rfl)) (⟨(wkb (eqb hk_13) rfl rfl), hH⟩)
    · skip
      have r_11 : 0 ≤ u_8.toInt ∧ u_8.toInt ≤ 3 := by have h9_ := hu_8; omega
      have r_12 : 1 ≤ z_9.toInt ∧ z_9.toInt ≤ 4 := by have h9_ := ez_9; omega
      refine lv_aload_n F.1 F.2.1 dX2_hasAge_38 rfl (lv_at hl 0 rfl) ?_
      refine tGetR (j := 18) F hK hH (tyb ha0 (all1 rfl)) rfl (all1 rfl) clX2 (by decide) wd_3_14 dX2_hasAge_39 (fun q_14 hq_14 _ => ?_)
      refine lv_iload_n F.1 F.2.1 dX2_hasAge_42 rfl (lv_at hl 2 rfl) ?_
      refine tIaldB F hK hH (tyb hq_14 (all1 rfl)) (ixb (n := 4) r_11 rfl rfl) dX2_hasAge_43 (fun z_15 hz_15 => ?_)
      refine lv_iload_n F.1 F.2.1 dX2_hasAge_44 rfl (lv_at hl 1 rfl) ?_
      refine b_ne (tgt := 50) F dX2_hasAge_45 (by decide) (fun c_16 => ?_) (fun c_16 => ?_)
      · skip
        obtain ⟨x_17, ex_17, hx_17⟩ := iincB (c := 1) (lo := 1) (hi := 4) r_11 rfl
        refine lv_iinc (v := x_17) (lv' := [(2, .int x_17), (0, .ref a0), (1, .int a1)]) F.1 F.2.1 dX2_hasAge_50 hl (k := 2) rfl ex_17 (by decide) rfl (fun ls hl => ?_)
        refine lv_goto (tgt := 30) F.1 F.2.1 dX2_hasAge_53 (by decide) ?_
        exact ih_30 (x_17) _ _ _ ⟨(show (4 - x_17.toInt + 1).toNat < n_30 from by omega), (wkb hx_17.2 rfl rfl), hH, hS, lv_sub hl [1, 2, 0] rfl⟩
      · skip
        refine lv_iconst (v := 1) F.1 F.2.1 dX2_hasAge_48 (by decide) ?_
        refine topK (a := 1) (by decide) (fun k_18 hk_18 => ?_)
        exact txI F hS dX2_hasAge_49 (nar01 (wkb (eqb hk_18) rfl rfl)) (⟨(wkb (eqb hk_18) rfl rfl), hH⟩)
  · skip
    have r_5 : 0 ≤ u_2.toInt ∧ u_2.toInt ≤ 13 := by have h9_ := hu_2; omega
    have r_6 : 1 ≤ z_3.toInt ∧ z_3.toInt ≤ 14 := by have h9_ := ez_3; omega
    refine lv_aload_n F.1 F.2.1 dX2_hasAge_10 rfl (lv_at hl 0 rfl) ?_
    refine tGetR (j := 9) F hK hH (tyb ha0 (all1 rfl)) rfl (all1 rfl) clX2 (by decide) wd_3_6 dX2_hasAge_11 (fun q_19 hq_19 _ => ?_)
    refine lv_iload_n F.1 F.2.1 dX2_hasAge_14 rfl (lv_at hl 2 rfl) ?_
    refine tIaldB F hK hH (tyb hq_19 (all1 rfl)) (ixb (n := 14) r_5 rfl rfl) dX2_hasAge_15 (fun z_20 hz_20 => ?_)
    refine lv_iload_n F.1 F.2.1 dX2_hasAge_16 rfl (lv_at hl 1 rfl) ?_
    refine b_ne (tgt := 22) F dX2_hasAge_17 (by decide) (fun c_21 => ?_) (fun c_21 => ?_)
    · skip
      obtain ⟨x_22, ex_22, hx_22⟩ := iincB (c := 1) (lo := 1) (hi := 14) r_5 rfl
      refine lv_iinc (v := x_22) (lv' := [(2, .int x_22), (0, .ref a0), (1, .int a1)]) F.1 F.2.1 dX2_hasAge_22 hl (k := 2) rfl ex_22 (by decide) rfl (fun ls hl => ?_)
      refine lv_goto (tgt := 2) F.1 F.2.1 dX2_hasAge_25 (by decide) ?_
      exact ih_2 (x_22) _ _ _ ⟨(show (14 - x_22.toInt + 1).toNat < n_2 from by omega), (wkb hx_22.2 rfl rfl), hH, hS, lv_sub hl [1, 2, 0] rfl⟩
    · skip
      refine lv_iconst (v := 1) F.1 F.2.1 dX2_hasAge_20 (by decide) ?_
      refine topK (a := 1) (by decide) (fun k_23 hk_23 => ?_)
      exact txI F hS dX2_hasAge_21 (nar01 (wkb (eqb hk_23) rfl rfl)) (⟨(wkb (eqb hk_23) rfl rfl), hH⟩)
set_option maxHeartbeats 4000000 in
set_option maxRecDepth 100000 in
theorem c_X3_readReachNumber_1 (E : Ev) (dA : TD) (dB : TD) (rB : TD) (rc : TD) (a : Int) (b : Int) (c : Int) (n : Int) (p : Int) (a0 : Nat) (ha0 : eT E a0 ∈ [29]) (ha : 0 ≤ a ∧ a ≤ 12) (hb : 0 ≤ b ∧ b ≤ 14) (hc : 0 ≤ c ∧ c ≤ 4) (hn : 0 ≤ n ∧ n ≤ 400) (hp : 0 ≤ p ∧ p ≤ 400) : TcI E yX3_readReachNumber cX3_readReachNumber 1 .int ({ frames := 3, cells := 0, slots := 0, locals := 86 }) [.ref a0] (fun H => TH E (tbC dA dB (riverD (.inl (a, a)) (.inl (b, b)) (.inl (c, c))) rB rc (rdD (.inl (p, p)) (.inl (n, n)) (.inr [26]))) H) (fun v H => ∃ p2 : Int, (0 ≤ p2 ∧ p2 ≤ 400) ∧ (0 ≤ v.toInt ∧ v.toInt ≤ 11) ∧ TH E (tbC dA dB (riverD (.inl (a, a)) (.inl (b, b)) (.inl (c, c))) rB rc (rdD (.inl (p2, p2)) (.inl (n, n)) (.inr [26]))) H) := by
  refine teI (by decide) (Nat.le_of_ble_eq_true rfl) ?_
  intro p_ ev_ s mi_ below_ meth cd_ ls F hK hN hO hH hS hl
  have hH : TH E (tbC dA dB (riverD (.inl (a, a)) (.inl (b, b)) (.inl (c, c))) rB rc (rdD (.inl (p, p)) (.inl (n, n)) (.inr [26]))) s.heap := hH
  have hl : lv_has ls 1 [(0, .ref a0)] := hl
  refine lv_aload_n F.1 F.2.1 dX3_readReachNumber_0 rfl (lv_at hl 0 rfl) ?_
  refine lv_iconst (v := 0) F.1 F.2.1 dX3_readReachNumber_1 (by decide) ?_
  refine topK (a := 0) (by decide) (fun k_1 hk_1 => ?_)
  refine lv_aload_n F.1 F.2.1 dX3_readReachNumber_2 rfl (lv_at hl 0 rfl) ?_
  refine tGetR (j := 5) F hK hH (tyb ha0 (all1 rfl)) rfl (all1 rfl) clX3 (by decide) wd_5_18 dX3_readReachNumber_3 (fun q_2 hq_2 _ => ?_)
  refine tGetI (j := 0) F hK hH (tyb hq_2 (all1 rfl)) rfl clX2 (by decide) wd_12_7 dX3_readReachNumber_6 (fun z_3 hz_3 => ?_)
  have ez_3 : 0 ≤ z_3.toInt ∧ z_3.toInt ≤ 12 := by omega
  refine lv_iconst (v := 1) F.1 F.2.1 dX3_readReachNumber_9 (by decide) ?_
  refine topK (a := 1) (by decide) (fun k_4 hk_4 => ?_)
  refine tSub (lo := (-1)) (hi := 11) F dX3_readReachNumber_10 ez_3 (eqb hk_4) rfl (fun z_5 hz_5 => ?_)
  refine tVi (b := a0) (As := [.int k_1, .int z_5]) (rest := []) F hK hN hO (c_X3_readNumber E dA dB (riverD (.inl (a, a)) (.inl (b, b)) (.inl (c, c))) rB rc (.inr [26]) n p a0 k_1 z_5 ha0 (by omega) (by omega)) mv_X3_readNumber wd_12_19 ⟨Nat.le_of_ble_eq_true rfl, Nat.le_of_ble_eq_true rfl⟩ ⟨Nat.le_of_ble_eq_true rfl, Nat.le_of_ble_eq_true rfl⟩ hH hS (tRecv hK hH (tyb ha0 (all1 rfl)) clX3) rfl hl.1 (Nat.le_of_ble_eq_true rfl) dX3_readReachNumber_11 (fun z_6 H locs hq hS => ?_)
  obtain ⟨g_7, hg_7, f_8, f_9, f_10, hH⟩ := hq
  have hH : TH E (tbC dA dB (riverD (.inl (a, a)) (.inl (b, b)) (.inl (c, c))) rB rc (rdD (.inl (g_7, g_7)) (.inl (n, n)) (.inr [26]))) H := hH
  have ez_6 : 0 ≤ z_6.toInt ∧ z_6.toInt ≤ 11 := by omega
  exact txI F hS dX3_readReachNumber_14 rfl (⟨g_7, (by omega), ez_6, hH⟩)
set_option maxHeartbeats 4000000 in
set_option maxRecDepth 100000 in
theorem c_X3_readReachNumber_2 (E : Ev) (dA : TD) (dB : TD) (rA : TD) (rc : TD) (a : Int) (b : Int) (c : Int) (n : Int) (p : Int) (a0 : Nat) (ha0 : eT E a0 ∈ [29]) (ha : 0 ≤ a ∧ a ≤ 12) (hb : 0 ≤ b ∧ b ≤ 14) (hc : 0 ≤ c ∧ c ≤ 4) (hn : 0 ≤ n ∧ n ≤ 400) (hp : 0 ≤ p ∧ p ≤ 400) : TcI E yX3_readReachNumber cX3_readReachNumber 1 .int ({ frames := 3, cells := 0, slots := 0, locals := 86 }) [.ref a0] (fun H => TH E (tbC dA dB rA (riverD (.inl (a, a)) (.inl (b, b)) (.inl (c, c))) rc (rdD (.inl (p, p)) (.inl (n, n)) (.inr [27]))) H) (fun v H => ∃ p2 : Int, (0 ≤ p2 ∧ p2 ≤ 400) ∧ (0 ≤ v.toInt ∧ v.toInt ≤ 11) ∧ TH E (tbC dA dB rA (riverD (.inl (a, a)) (.inl (b, b)) (.inl (c, c))) rc (rdD (.inl (p2, p2)) (.inl (n, n)) (.inr [27]))) H) := by
  refine teI (by decide) (Nat.le_of_ble_eq_true rfl) ?_
  intro p_ ev_ s mi_ below_ meth cd_ ls F hK hN hO hH hS hl
  have hH : TH E (tbC dA dB rA (riverD (.inl (a, a)) (.inl (b, b)) (.inl (c, c))) rc (rdD (.inl (p, p)) (.inl (n, n)) (.inr [27]))) s.heap := hH
  have hl : lv_has ls 1 [(0, .ref a0)] := hl
  refine lv_aload_n F.1 F.2.1 dX3_readReachNumber_0 rfl (lv_at hl 0 rfl) ?_
  refine lv_iconst (v := 0) F.1 F.2.1 dX3_readReachNumber_1 (by decide) ?_
  refine topK (a := 0) (by decide) (fun k_1 hk_1 => ?_)
  refine lv_aload_n F.1 F.2.1 dX3_readReachNumber_2 rfl (lv_at hl 0 rfl) ?_
  refine tGetR (j := 5) F hK hH (tyb ha0 (all1 rfl)) rfl (all1 rfl) clX3 (by decide) wd_5_18 dX3_readReachNumber_3 (fun q_2 hq_2 _ => ?_)
  refine tGetI (j := 0) F hK hH (tyb hq_2 (all1 rfl)) rfl clX2 (by decide) wd_12_7 dX3_readReachNumber_6 (fun z_3 hz_3 => ?_)
  have ez_3 : 0 ≤ z_3.toInt ∧ z_3.toInt ≤ 12 := by omega
  refine lv_iconst (v := 1) F.1 F.2.1 dX3_readReachNumber_9 (by decide) ?_
  refine topK (a := 1) (by decide) (fun k_4 hk_4 => ?_)
  refine tSub (lo := (-1)) (hi := 11) F dX3_readReachNumber_10 ez_3 (eqb hk_4) rfl (fun z_5 hz_5 => ?_)
  refine tVi (b := a0) (As := [.int k_1, .int z_5]) (rest := []) F hK hN hO (c_X3_readNumber E dA dB rA (riverD (.inl (a, a)) (.inl (b, b)) (.inl (c, c))) rc (.inr [27]) n p a0 k_1 z_5 ha0 (by omega) (by omega)) mv_X3_readNumber wd_12_19 ⟨Nat.le_of_ble_eq_true rfl, Nat.le_of_ble_eq_true rfl⟩ ⟨Nat.le_of_ble_eq_true rfl, Nat.le_of_ble_eq_true rfl⟩ hH hS (tRecv hK hH (tyb ha0 (all1 rfl)) clX3) rfl hl.1 (Nat.le_of_ble_eq_true rfl) dX3_readReachNumber_11 (fun z_6 H locs hq hS => ?_)
  obtain ⟨g_7, hg_7, f_8, f_9, f_10, hH⟩ := hq
  have hH : TH E (tbC dA dB rA (riverD (.inl (a, a)) (.inl (b, b)) (.inl (c, c))) rc (rdD (.inl (g_7, g_7)) (.inl (n, n)) (.inr [27]))) H := hH
  have ez_6 : 0 ≤ z_6.toInt ∧ z_6.toInt ≤ 11 := by omega
  exact txI F hS dX3_readReachNumber_14 rfl (⟨g_7, (by omega), ez_6, hH⟩)
set_option maxHeartbeats 4000000 in
set_option maxRecDepth 100000 in
theorem c_X3_readAge_1 (E : Ev) (dA : TD) (dB : TD) (rB : TD) (rc : TD) (a : Int) (b : Int) (c : Int) (n : Int) (p : Int) (a0 : Nat) (ha0 : eT E a0 ∈ [29]) (ha : 0 ≤ a ∧ a ≤ 12) (hb : 0 ≤ b ∧ b ≤ 14) (hc : 0 ≤ c ∧ c ≤ 4) (hn : 0 ≤ n ∧ n ≤ 400) (hp : 0 ≤ p ∧ p ≤ 400) : TcI E yX3_readAge cX3_readAge 3 .int ({ frames := 6, cells := 0, slots := 0, locals := 204 }) [.ref a0] (fun H => TH E (tbC dA dB (riverD (.inl (a, a)) (.inl (b, b)) (.inl (c, c))) rB rc (rdD (.inl (p, p)) (.inl (n, n)) (.inr [26]))) H) (fun v H => ∃ p2 : Int, (0 ≤ p2 ∧ p2 ≤ 400) ∧ (0 ≤ v.toInt ∧ v.toInt ≤ 9999) ∧ TH E (tbC dA dB (riverD (.inl (a, a)) (.inl (b, b)) (.inl (c, c))) rB rc (rdD (.inl (p2, p2)) (.inl (n, n)) (.inr [26]))) H) := by
  refine teI (by decide) (Nat.le_of_ble_eq_true rfl) ?_
  intro p_ ev_ s mi_ below_ meth cd_ ls F hK hN hO hH hS hl
  have hH : TH E (tbC dA dB (riverD (.inl (a, a)) (.inl (b, b)) (.inl (c, c))) rB rc (rdD (.inl (p, p)) (.inl (n, n)) (.inr [26]))) s.heap := hH
  have hl : lv_has ls 3 [(0, .ref a0)] := hl
  refine lv_aload_n F.1 F.2.1 dX3_readAge_0 rfl (lv_at hl 0 rfl) ?_
  refine va_ldcS F.1 F.2.1 F.2.2.2.2.1 (hO.1 4 _ rfl).1 dX3_readAge_1 ?_
  refine tVi (b := a0) (As := [.ref (eX E 4)]) (rest := []) F hK hN hO (c_X3_isNext E dA dB (riverD (.inl (a, a)) (.inl (b, b)) (.inl (c, c))) rB rc (.inr [26]) n p a0 4 3 ha0 (strAt 4 rfl) (by omega) (by omega)) mv_X3_isNext wd_9_22 ⟨Nat.le_of_ble_eq_true rfl, Nat.le_of_ble_eq_true rfl⟩ ⟨Nat.le_of_ble_eq_true rfl, Nat.le_of_ble_eq_true rfl⟩ hH hS (tRecv hK hH (tyb ha0 (all1 rfl)) clX3) rfl hl.1 (Nat.le_of_ble_eq_true rfl) dX3_readAge_3 (fun z_1 H locs hq hS => ?_)
  obtain ⟨g_2, hg_2, f_3, hH⟩ := hq
  have hH : TH E (tbC dA dB (riverD (.inl (a, a)) (.inl (b, b)) (.inl (c, c))) rB rc (rdD (.inl (g_2, g_2)) (.inl (n, n)) (.inr [26]))) H := hH
  refine wjoin (σ := Unit) (pcj := 18) (stj := fun x9 => []) (fun x9 H locs ls => TH E (tbC dA dB (riverD (.inl (a, a)) (.inl (b, b)) (.inl (c, c))) rB rc (rdD (.inl (g_2, g_2)) (.inl (n, n)) (.inr [26]))) H ∧ va_S (eA E s.heap.size) s.heap H locs ∧ lv_has ls 3 [(0, .ref a0)]) (fun x9 H locs ls h_ => ?_) (fun J_18 => ?_)
  · skip
    obtain ⟨hH, hS, hl⟩ := h_
    have hH : TH E (tbC dA dB (riverD (.inl (a, a)) (.inl (b, b)) (.inl (c, c))) rB rc (rdD (.inl (g_2, g_2)) (.inl (n, n)) (.inr [26]))) H := hH
    have hl : lv_has ls 3 [(0, .ref a0)] := hl
    show W _ _ _ _ _ _ _ _ _ _ _ _ _ _ _ (F0 _ _ _ [])
    refine lv_aload_n F.1 F.2.1 dX3_readAge_18 rfl (lv_at hl 0 rfl) ?_
    refine tVv (b := a0) (As := []) (rest := []) F hK hN hO (c_X3_skipBlanks E dA dB (riverD (.inl (a, a)) (.inl (b, b)) (.inl (c, c))) rB rc (.inr [26]) n g_2 a0 ha0 (by omega) (by omega)) mv_X3_skipBlanks wd_9_14 ⟨Nat.le_of_ble_eq_true rfl, Nat.le_of_ble_eq_true rfl⟩ ⟨Nat.le_of_ble_eq_true rfl, Nat.le_of_ble_eq_true rfl⟩ hH hS (tRecv hK hH (tyb ha0 (all1 rfl)) clX3) rfl hl.1 (Nat.le_of_ble_eq_true rfl) dX3_readAge_19 (fun H locs hq hS => ?_)
    obtain ⟨g_5, hg_5, hH⟩ := hq
    have hH : TH E (tbC dA dB (riverD (.inl (a, a)) (.inl (b, b)) (.inl (c, c))) rB rc (rdD (.inl (g_5, g_5)) (.inl (n, n)) (.inr [26]))) H := hH
    refine lv_aload_n F.1 F.2.1 dX3_readAge_22 rfl (lv_at hl 0 rfl) ?_
    refine tGetI (j := 2) F hK hH (tyb ha0 (all1 rfl)) rfl clX3 (by decide) wd_9_4 dX3_readAge_23 (fun z_6 hz_6 => ?_)
    have ez_6 : 0 ≤ z_6.toInt ∧ z_6.toInt ≤ 400 := by omega
    refine lv_istore_n (lv' := [(1, .int z_6), (0, .ref a0)]) F.1 F.2.1 dX3_readAge_26 rfl hl (by decide) rfl (fun ls hl => ?_)
    refine lv_aload_n F.1 F.2.1 dX3_readAge_27 rfl (lv_at hl 1 rfl) ?_
    refine lv_iconst (v := 0) F.1 F.2.1 dX3_readAge_28 (by decide) ?_
    refine topK (a := 0) (by decide) (fun k_7 hk_7 => ?_)
    refine lv_sipush (v := 9999) F.1 F.2.1 dX3_readAge_29 (by decide) ?_
    refine topK (a := 9999) (by decide) (fun k_8 hk_8 => ?_)
    refine tVi (b := a0) (As := [.int k_7, .int k_8]) (rest := []) F hK hN hO (c_X3_readNumber E dA dB (riverD (.inl (a, a)) (.inl (b, b)) (.inl (c, c))) rB rc (.inr [26]) n g_5 a0 k_7 k_8 ha0 (by omega) (by omega)) mv_X3_readNumber wd_12_19 ⟨Nat.le_of_ble_eq_true rfl, Nat.le_of_ble_eq_true rfl⟩ ⟨Nat.le_of_ble_eq_true rfl, Nat.le_of_ble_eq_true rfl⟩ hH hS (tRecv hK hH (tyb ha0 (all1 rfl)) clX3) rfl hl.1 (Nat.le_of_ble_eq_true rfl) dX3_readAge_32 (fun z_9 H locs hq hS => ?_)
    obtain ⟨g_10, hg_10, f_11, f_12, f_13, hH⟩ := hq
    have hH : TH E (tbC dA dB (riverD (.inl (a, a)) (.inl (b, b)) (.inl (c, c))) rB rc (rdD (.inl (g_10, g_10)) (.inl (n, n)) (.inr [26]))) H := hH
    have ez_9 : 0 ≤ z_9.toInt ∧ z_9.toInt ≤ 9999 := by omega
    refine lv_istore_n (lv' := [(2, .int z_9), (1, .int z_6), (0, .ref a0)]) F.1 F.2.1 dX3_readAge_35 rfl hl (by decide) rfl (fun ls hl => ?_)
    refine lv_aload_n F.1 F.2.1 dX3_readAge_36 rfl (lv_at hl 2 rfl) ?_
    refine tGetR (j := 5) F hK hH (tyb ha0 (all1 rfl)) rfl (all1 rfl) clX3 (by decide) wd_5_18 dX3_readAge_37 (fun q_14 hq_14 _ => ?_)
    refine lv_iload_n F.1 F.2.1 dX3_readAge_40 rfl (lv_at hl 0 rfl) ?_
    refine tVi (b := q_14) (As := [.int z_9]) (rest := []) F hK hN hO (c_X2_hasAge_1 E dA dB rB rc (rdD (.inl (g_10, g_10)) (.inl (n, n)) (.inr [26])) a b c q_14 z_9 hq_14 (by omega) (by omega) (by omega)) mv_X2_hasAge wd_13_19 ⟨Nat.le_of_ble_eq_true rfl, Nat.le_of_ble_eq_true rfl⟩ ⟨Nat.le_of_ble_eq_true rfl, Nat.le_of_ble_eq_true rfl⟩ hH hS (tRecv hK hH (tyb hq_14 (all1 rfl)) clX2) rfl hl.1 (Nat.le_of_ble_eq_true rfl) dX3_readAge_41 (fun z_15 H locs hq hS => ?_)
    obtain ⟨f_16, hH⟩ := hq
    have hH : TH E (tbC dA dB (riverD (.inl (a, a)) (.inl (b, b)) (.inl (c, c))) rB rc (rdD (.inl (g_10, g_10)) (.inl (n, n)) (.inr [26]))) H := hH
    refine z_eq (tgt := 53) F dX3_readAge_44 (by decide) (fun c_17 => ?_) (fun c_17 => ?_)
    · skip
      have r_18 : 0 ≤ z_15.toInt ∧ z_15.toInt ≤ 0 := by have h9_ := f_16; omega
      refine lv_iload_n F.1 F.2.1 dX3_readAge_53 rfl (lv_at hl 0 rfl) ?_
      exact txI F hS dX3_readAge_54 rfl (⟨g_10, (by omega), ez_9, hH⟩)
    · skip
      have r_19 : 1 ≤ z_15.toInt ∧ z_15.toInt ≤ 1 := by have h9_ := f_16; omega
      refine lv_aload_n F.1 F.2.1 dX3_readAge_47 rfl (lv_at hl 2 rfl) ?_
      refine lv_iload_n F.1 F.2.1 dX3_readAge_48 rfl (lv_at hl 1 rfl) ?_
      refine lv_iconst (v := 2) F.1 F.2.1 dX3_readAge_49 (by decide) ?_
      refine topK (a := 2) (by decide) (fun k_20 hk_20 => ?_)
      refine tVv (b := a0) (As := [.int z_6, .int k_20]) (rest := []) F hK hN hO (c_X3_blame E dA dB (riverD (.inl (a, a)) (.inl (b, b)) (.inl (c, c))) rB rc ((.inl (n, n))) ((.inl (g_10, g_10))) (.inr [26]) a0 z_6 k_20 ha0) mv_X3_blame wd_12_11 ⟨Nat.le_of_ble_eq_true rfl, Nat.le_of_ble_eq_true rfl⟩ ⟨Nat.le_of_ble_eq_true rfl, Nat.le_of_ble_eq_true rfl⟩ hH hS (tRecv hK hH (tyb ha0 (all1 rfl)) clX3) rfl hl.1 (Nat.le_of_ble_eq_true rfl) dX3_readAge_50 (fun H locs hq hS => ?_)
      have hH := hq
      have hH : TH E (tbC dA dB (riverD (.inl (a, a)) (.inl (b, b)) (.inl (c, c))) rB rc (rdD (.inl (g_10, g_10)) (.inl (n, n)) (.inr [26]))) H := hH
      refine lv_iload_n F.1 F.2.1 dX3_readAge_53 rfl (lv_at hl 0 rfl) ?_
      exact txI F hS dX3_readAge_54 rfl (⟨g_10, (by omega), ez_9, hH⟩)
  refine z_ne (tgt := 18) F dX3_readAge_6 (by decide) (fun c_22 => ?_) (fun c_22 => ?_)
  · skip
    have r_23 : 1 ≤ z_1.toInt ∧ z_1.toInt ≤ 1 := by have h9_ := f_3; omega
    exact J_18 () _ _ _ ⟨hH, hS, lv_sub hl [0] rfl⟩
  · skip
    have r_24 : 0 ≤ z_1.toInt ∧ z_1.toInt ≤ 0 := by have h9_ := f_3; omega
    refine lv_aload_n F.1 F.2.1 dX3_readAge_9 rfl (lv_at hl 0 rfl) ?_
    refine lv_aload_n F.1 F.2.1 dX3_readAge_10 rfl (lv_at hl 0 rfl) ?_
    refine tGetI (j := 2) F hK hH (tyb ha0 (all1 rfl)) rfl clX3 (by decide) wd_9_4 dX3_readAge_11 (fun z_25 hz_25 => ?_)
    have ez_25 : 0 ≤ z_25.toInt ∧ z_25.toInt ≤ 400 := by omega
    refine lv_iconst (v := 1) F.1 F.2.1 dX3_readAge_14 (by decide) ?_
    refine topK (a := 1) (by decide) (fun k_26 hk_26 => ?_)
    refine tVv (b := a0) (As := [.int z_25, .int k_26]) (rest := []) F hK hN hO (c_X3_blame E dA dB (riverD (.inl (a, a)) (.inl (b, b)) (.inl (c, c))) rB rc ((.inl (n, n))) ((.inl (g_2, g_2))) (.inr [26]) a0 z_25 k_26 ha0) mv_X3_blame wd_12_11 ⟨Nat.le_of_ble_eq_true rfl, Nat.le_of_ble_eq_true rfl⟩ ⟨Nat.le_of_ble_eq_true rfl, Nat.le_of_ble_eq_true rfl⟩ hH hS (tRecv hK hH (tyb ha0 (all1 rfl)) clX3) rfl hl.1 (Nat.le_of_ble_eq_true rfl) dX3_readAge_15 (fun H locs hq hS => ?_)
    have hH := hq
    have hH : TH E (tbC dA dB (riverD (.inl (a, a)) (.inl (b, b)) (.inl (c, c))) rB rc (rdD (.inl (g_2, g_2)) (.inl (n, n)) (.inr [26]))) H := hH
    exact J_18 () _ _ _ ⟨hH, hS, lv_sub hl [0] rfl⟩
set_option maxHeartbeats 4000000 in
set_option maxRecDepth 100000 in
theorem c_X3_readAge_2 (E : Ev) (dA : TD) (dB : TD) (rA : TD) (rc : TD) (a : Int) (b : Int) (c : Int) (n : Int) (p : Int) (a0 : Nat) (ha0 : eT E a0 ∈ [29]) (ha : 0 ≤ a ∧ a ≤ 12) (hb : 0 ≤ b ∧ b ≤ 14) (hc : 0 ≤ c ∧ c ≤ 4) (hn : 0 ≤ n ∧ n ≤ 400) (hp : 0 ≤ p ∧ p ≤ 400) : TcI E yX3_readAge cX3_readAge 3 .int ({ frames := 6, cells := 0, slots := 0, locals := 204 }) [.ref a0] (fun H => TH E (tbC dA dB rA (riverD (.inl (a, a)) (.inl (b, b)) (.inl (c, c))) rc (rdD (.inl (p, p)) (.inl (n, n)) (.inr [27]))) H) (fun v H => ∃ p2 : Int, (0 ≤ p2 ∧ p2 ≤ 400) ∧ (0 ≤ v.toInt ∧ v.toInt ≤ 9999) ∧ TH E (tbC dA dB rA (riverD (.inl (a, a)) (.inl (b, b)) (.inl (c, c))) rc (rdD (.inl (p2, p2)) (.inl (n, n)) (.inr [27]))) H) := by
  refine teI (by decide) (Nat.le_of_ble_eq_true rfl) ?_
  intro p_ ev_ s mi_ below_ meth cd_ ls F hK hN hO hH hS hl
  have hH : TH E (tbC dA dB rA (riverD (.inl (a, a)) (.inl (b, b)) (.inl (c, c))) rc (rdD (.inl (p, p)) (.inl (n, n)) (.inr [27]))) s.heap := hH
  have hl : lv_has ls 3 [(0, .ref a0)] := hl
  refine lv_aload_n F.1 F.2.1 dX3_readAge_0 rfl (lv_at hl 0 rfl) ?_
  refine va_ldcS F.1 F.2.1 F.2.2.2.2.1 (hO.1 4 _ rfl).1 dX3_readAge_1 ?_
  refine tVi (b := a0) (As := [.ref (eX E 4)]) (rest := []) F hK hN hO (c_X3_isNext E dA dB rA (riverD (.inl (a, a)) (.inl (b, b)) (.inl (c, c))) rc (.inr [27]) n p a0 4 3 ha0 (strAt 4 rfl) (by omega) (by omega)) mv_X3_isNext wd_9_22 ⟨Nat.le_of_ble_eq_true rfl, Nat.le_of_ble_eq_true rfl⟩ ⟨Nat.le_of_ble_eq_true rfl, Nat.le_of_ble_eq_true rfl⟩ hH hS (tRecv hK hH (tyb ha0 (all1 rfl)) clX3) rfl hl.1 (Nat.le_of_ble_eq_true rfl) dX3_readAge_3 (fun z_1 H locs hq hS => ?_)
  obtain ⟨g_2, hg_2, f_3, hH⟩ := hq
  have hH : TH E (tbC dA dB rA (riverD (.inl (a, a)) (.inl (b, b)) (.inl (c, c))) rc (rdD (.inl (g_2, g_2)) (.inl (n, n)) (.inr [27]))) H := hH
  refine wjoin (σ := Unit) (pcj := 18) (stj := fun x9 => []) (fun x9 H locs ls => TH E (tbC dA dB rA (riverD (.inl (a, a)) (.inl (b, b)) (.inl (c, c))) rc (rdD (.inl (g_2, g_2)) (.inl (n, n)) (.inr [27]))) H ∧ va_S (eA E s.heap.size) s.heap H locs ∧ lv_has ls 3 [(0, .ref a0)]) (fun x9 H locs ls h_ => ?_) (fun J_18 => ?_)
  · skip
    obtain ⟨hH, hS, hl⟩ := h_
    have hH : TH E (tbC dA dB rA (riverD (.inl (a, a)) (.inl (b, b)) (.inl (c, c))) rc (rdD (.inl (g_2, g_2)) (.inl (n, n)) (.inr [27]))) H := hH
    have hl : lv_has ls 3 [(0, .ref a0)] := hl
    show W _ _ _ _ _ _ _ _ _ _ _ _ _ _ _ (F0 _ _ _ [])
    refine lv_aload_n F.1 F.2.1 dX3_readAge_18 rfl (lv_at hl 0 rfl) ?_
    refine tVv (b := a0) (As := []) (rest := []) F hK hN hO (c_X3_skipBlanks E dA dB rA (riverD (.inl (a, a)) (.inl (b, b)) (.inl (c, c))) rc (.inr [27]) n g_2 a0 ha0 (by omega) (by omega)) mv_X3_skipBlanks wd_9_14 ⟨Nat.le_of_ble_eq_true rfl, Nat.le_of_ble_eq_true rfl⟩ ⟨Nat.le_of_ble_eq_true rfl, Nat.le_of_ble_eq_true rfl⟩ hH hS (tRecv hK hH (tyb ha0 (all1 rfl)) clX3) rfl hl.1 (Nat.le_of_ble_eq_true rfl) dX3_readAge_19 (fun H locs hq hS => ?_)
    obtain ⟨g_5, hg_5, hH⟩ := hq
    have hH : TH E (tbC dA dB rA (riverD (.inl (a, a)) (.inl (b, b)) (.inl (c, c))) rc (rdD (.inl (g_5, g_5)) (.inl (n, n)) (.inr [27]))) H := hH
    refine lv_aload_n F.1 F.2.1 dX3_readAge_22 rfl (lv_at hl 0 rfl) ?_
    refine tGetI (j := 2) F hK hH (tyb ha0 (all1 rfl)) rfl clX3 (by decide) wd_9_4 dX3_readAge_23 (fun z_6 hz_6 => ?_)
    have ez_6 : 0 ≤ z_6.toInt ∧ z_6.toInt ≤ 400 := by omega
    refine lv_istore_n (lv' := [(1, .int z_6), (0, .ref a0)]) F.1 F.2.1 dX3_readAge_26 rfl hl (by decide) rfl (fun ls hl => ?_)
    refine lv_aload_n F.1 F.2.1 dX3_readAge_27 rfl (lv_at hl 1 rfl) ?_
    refine lv_iconst (v := 0) F.1 F.2.1 dX3_readAge_28 (by decide) ?_
    refine topK (a := 0) (by decide) (fun k_7 hk_7 => ?_)
    refine lv_sipush (v := 9999) F.1 F.2.1 dX3_readAge_29 (by decide) ?_
    refine topK (a := 9999) (by decide) (fun k_8 hk_8 => ?_)
    refine tVi (b := a0) (As := [.int k_7, .int k_8]) (rest := []) F hK hN hO (c_X3_readNumber E dA dB rA (riverD (.inl (a, a)) (.inl (b, b)) (.inl (c, c))) rc (.inr [27]) n g_5 a0 k_7 k_8 ha0 (by omega) (by omega)) mv_X3_readNumber wd_12_19 ⟨Nat.le_of_ble_eq_true rfl, Nat.le_of_ble_eq_true rfl⟩ ⟨Nat.le_of_ble_eq_true rfl, Nat.le_of_ble_eq_true rfl⟩ hH hS (tRecv hK hH (tyb ha0 (all1 rfl)) clX3) rfl hl.1 (Nat.le_of_ble_eq_true rfl) dX3_readAge_32 (fun z_9 H locs hq hS => ?_)
    obtain ⟨g_10, hg_10, f_11, f_12, f_13, hH⟩ := hq
    have hH : TH E (tbC dA dB rA (riverD (.inl (a, a)) (.inl (b, b)) (.inl (c, c))) rc (rdD (.inl (g_10, g_10)) (.inl (n, n)) (.inr [27]))) H := hH
    have ez_9 : 0 ≤ z_9.toInt ∧ z_9.toInt ≤ 9999 := by omega
    refine lv_istore_n (lv' := [(2, .int z_9), (1, .int z_6), (0, .ref a0)]) F.1 F.2.1 dX3_readAge_35 rfl hl (by decide) rfl (fun ls hl => ?_)
    refine lv_aload_n F.1 F.2.1 dX3_readAge_36 rfl (lv_at hl 2 rfl) ?_
    refine tGetR (j := 5) F hK hH (tyb ha0 (all1 rfl)) rfl (all1 rfl) clX3 (by decide) wd_5_18 dX3_readAge_37 (fun q_14 hq_14 _ => ?_)
    refine lv_iload_n F.1 F.2.1 dX3_readAge_40 rfl (lv_at hl 0 rfl) ?_
    refine tVi (b := q_14) (As := [.int z_9]) (rest := []) F hK hN hO (c_X2_hasAge_2 E dA dB rA rc (rdD (.inl (g_10, g_10)) (.inl (n, n)) (.inr [27])) a b c q_14 z_9 hq_14 (by omega) (by omega) (by omega)) mv_X2_hasAge wd_13_19 ⟨Nat.le_of_ble_eq_true rfl, Nat.le_of_ble_eq_true rfl⟩ ⟨Nat.le_of_ble_eq_true rfl, Nat.le_of_ble_eq_true rfl⟩ hH hS (tRecv hK hH (tyb hq_14 (all1 rfl)) clX2) rfl hl.1 (Nat.le_of_ble_eq_true rfl) dX3_readAge_41 (fun z_15 H locs hq hS => ?_)
    obtain ⟨f_16, hH⟩ := hq
    have hH : TH E (tbC dA dB rA (riverD (.inl (a, a)) (.inl (b, b)) (.inl (c, c))) rc (rdD (.inl (g_10, g_10)) (.inl (n, n)) (.inr [27]))) H := hH
    refine z_eq (tgt := 53) F dX3_readAge_44 (by decide) (fun c_17 => ?_) (fun c_17 => ?_)
    · skip
      have r_18 : 0 ≤ z_15.toInt ∧ z_15.toInt ≤ 0 := by have h9_ := f_16; omega
      refine lv_iload_n F.1 F.2.1 dX3_readAge_53 rfl (lv_at hl 0 rfl) ?_
      exact txI F hS dX3_readAge_54 rfl (⟨g_10, (by omega), ez_9, hH⟩)
    · skip
      have r_19 : 1 ≤ z_15.toInt ∧ z_15.toInt ≤ 1 := by have h9_ := f_16; omega
      refine lv_aload_n F.1 F.2.1 dX3_readAge_47 rfl (lv_at hl 2 rfl) ?_
      refine lv_iload_n F.1 F.2.1 dX3_readAge_48 rfl (lv_at hl 1 rfl) ?_
      refine lv_iconst (v := 2) F.1 F.2.1 dX3_readAge_49 (by decide) ?_
      refine topK (a := 2) (by decide) (fun k_20 hk_20 => ?_)
      refine tVv (b := a0) (As := [.int z_6, .int k_20]) (rest := []) F hK hN hO (c_X3_blame E dA dB rA (riverD (.inl (a, a)) (.inl (b, b)) (.inl (c, c))) rc ((.inl (n, n))) ((.inl (g_10, g_10))) (.inr [27]) a0 z_6 k_20 ha0) mv_X3_blame wd_12_11 ⟨Nat.le_of_ble_eq_true rfl, Nat.le_of_ble_eq_true rfl⟩ ⟨Nat.le_of_ble_eq_true rfl, Nat.le_of_ble_eq_true rfl⟩ hH hS (tRecv hK hH (tyb ha0 (all1 rfl)) clX3) rfl hl.1 (Nat.le_of_ble_eq_true rfl) dX3_readAge_50 (fun H locs hq hS => ?_)
      have hH := hq
      have hH : TH E (tbC dA dB rA (riverD (.inl (a, a)) (.inl (b, b)) (.inl (c, c))) rc (rdD (.inl (g_10, g_10)) (.inl (n, n)) (.inr [27]))) H := hH
      refine lv_iload_n F.1 F.2.1 dX3_readAge_53 rfl (lv_at hl 0 rfl) ?_
      exact txI F hS dX3_readAge_54 rfl (⟨g_10, (by omega), ez_9, hH⟩)
  refine z_ne (tgt := 18) F dX3_readAge_6 (by decide) (fun c_22 => ?_) (fun c_22 => ?_)
  · skip
    have r_23 : 1 ≤ z_1.toInt ∧ z_1.toInt ≤ 1 := by have h9_ := f_3; omega
    exact J_18 () _ _ _ ⟨hH, hS, lv_sub hl [0] rfl⟩
  · skip
    have r_24 : 0 ≤ z_1.toInt ∧ z_1.toInt ≤ 0 := by have h9_ := f_3; omega
    refine lv_aload_n F.1 F.2.1 dX3_readAge_9 rfl (lv_at hl 0 rfl) ?_
    refine lv_aload_n F.1 F.2.1 dX3_readAge_10 rfl (lv_at hl 0 rfl) ?_
    refine tGetI (j := 2) F hK hH (tyb ha0 (all1 rfl)) rfl clX3 (by decide) wd_9_4 dX3_readAge_11 (fun z_25 hz_25 => ?_)
    have ez_25 : 0 ≤ z_25.toInt ∧ z_25.toInt ≤ 400 := by omega
    refine lv_iconst (v := 1) F.1 F.2.1 dX3_readAge_14 (by decide) ?_
    refine topK (a := 1) (by decide) (fun k_26 hk_26 => ?_)
    refine tVv (b := a0) (As := [.int z_25, .int k_26]) (rest := []) F hK hN hO (c_X3_blame E dA dB rA (riverD (.inl (a, a)) (.inl (b, b)) (.inl (c, c))) rc ((.inl (n, n))) ((.inl (g_2, g_2))) (.inr [27]) a0 z_25 k_26 ha0) mv_X3_blame wd_12_11 ⟨Nat.le_of_ble_eq_true rfl, Nat.le_of_ble_eq_true rfl⟩ ⟨Nat.le_of_ble_eq_true rfl, Nat.le_of_ble_eq_true rfl⟩ hH hS (tRecv hK hH (tyb ha0 (all1 rfl)) clX3) rfl hl.1 (Nat.le_of_ble_eq_true rfl) dX3_readAge_15 (fun H locs hq hS => ?_)
    have hH := hq
    have hH : TH E (tbC dA dB rA (riverD (.inl (a, a)) (.inl (b, b)) (.inl (c, c))) rc (rdD (.inl (g_2, g_2)) (.inl (n, n)) (.inr [27]))) H := hH
    exact J_18 () _ _ _ ⟨hH, hS, lv_sub hl [0] rfl⟩
set_option maxHeartbeats 4000000 in
set_option maxRecDepth 100000 in
theorem c_X3_readWet_1 (E : Ev) (dA : TD) (dB : TD) (rB : TD) (rc : TD) (a : Int) (b : Int) (c : Int) (n : Int) (p : Int) (a0 : Nat) (a1 : Int32) (ha0 : eT E a0 ∈ [29]) (ha : 0 ≤ a ∧ a ≤ 12) (hb : 0 ≤ b ∧ b ≤ 14) (hc : 0 ≤ c ∧ c ≤ 4) (hn : 0 ≤ n ∧ n ≤ 400) (hp : 0 ≤ p ∧ p ≤ 400) : TcV E yX3_readWet cX3_readWet 2 ({ frames := 3, cells := 0, slots := 0, locals := 86 }) [.ref a0, .int a1] (fun H => TH E (tbC dA dB (riverD (.inl (a, a)) (.inl (b, b)) (.inl (c, c))) rB rc (rdD (.inl (p, p)) (.inl (n, n)) (.inr [26]))) H) (fun H => ∃ p2 : Int, (0 ≤ p2 ∧ p2 ≤ 400) ∧ TH E (tbC dA dB (riverD (.inl (a, a)) (.inl (b, b)) (.inl (c, c))) rB rc (rdD (.inl (p2, p2)) (.inl (n, n)) (.inr [26]))) H) := by
  refine teV (by decide) (Nat.le_of_ble_eq_true rfl) ?_
  intro p_ ev_ s mi_ below_ meth cd_ ls F hK hN hO hH hS hl
  have hH : TH E (tbC dA dB (riverD (.inl (a, a)) (.inl (b, b)) (.inl (c, c))) rB rc (rdD (.inl (p, p)) (.inl (n, n)) (.inr [26]))) s.heap := hH
  have hl : lv_has ls 2 [(0, .ref a0), (1, .int a1)] := hl
  refine lv_aload_n F.1 F.2.1 dX3_readWet_0 rfl (lv_at hl 0 rfl) ?_
  refine tGetI (j := 4) F hK hH (tyb ha0 (all1 rfl)) rfl clX3 (by decide) wd_9_6 dX3_readWet_1 (fun z_1 hz_1 => ?_)
  refine z_eq (tgt := 14) F dX3_readWet_4 (by decide) (fun c_2 => ?_) (fun c_2 => ?_)
  · skip
    have r_3 : 0 ≤ z_1.toInt ∧ z_1.toInt ≤ 0 := by have h9_ := hz_1; omega
    refine lv_aload_n F.1 F.2.1 dX3_readWet_14 rfl (lv_at hl 0 rfl) ?_
    refine lv_iconst (v := 1) F.1 F.2.1 dX3_readWet_15 (by decide) ?_
    refine topK (a := 1) (by decide) (fun k_5 hk_5 => ?_)
    refine tPut (j := 4) F hK hH hS (tyb ha0 (all1 rfl)) rfl (fdI (wkb (eqb hk_5) rfl rfl)) clX3 (by decide) wd_9_6 rfl rfl (nar01 (wkb (eqb hk_5) rfl rfl)) (fit01 (wkb (eqb hk_5) rfl rfl)) dX3_readWet_16 (fun H locs hH hS => ?_)
    refine lv_aload_n F.1 F.2.1 dX3_readWet_19 rfl (lv_at hl 0 rfl) ?_
    refine tGetR (j := 5) F hK hH (tyb ha0 (all1 rfl)) rfl (all1 rfl) clX3 (by decide) wd_5_18 dX3_readWet_20 (fun q_6 hq_6 _ => ?_)
    refine lv_aload_n F.1 F.2.1 dX3_readWet_23 rfl (lv_at hl 0 rfl) ?_
    refine lv_iconst (v := 0) F.1 F.2.1 dX3_readWet_24 (by decide) ?_
    refine topK (a := 0) (by decide) (fun k_7 hk_7 => ?_)
    refine lv_sipush (v := 400) F.1 F.2.1 dX3_readWet_25 (by decide) ?_
    refine topK (a := 400) (by decide) (fun k_8 hk_8 => ?_)
    refine tVi (b := a0) (As := [.int k_7, .int k_8]) (rest := [.ref q_6]) F hK hN hO (c_X3_readNumber E dA dB (riverD (.inl (a, a)) (.inl (b, b)) (.inl (c, c))) rB rc (.inr [26]) n p a0 k_7 k_8 ha0 (by omega) (by omega)) mv_X3_readNumber wd_12_19 ⟨Nat.le_of_ble_eq_true rfl, Nat.le_of_ble_eq_true rfl⟩ ⟨Nat.le_of_ble_eq_true rfl, Nat.le_of_ble_eq_true rfl⟩ hH hS (tRecv hK hH (tyb ha0 (all1 rfl)) clX3) rfl hl.1 (Nat.le_of_ble_eq_true rfl) dX3_readWet_28 (fun z_9 H locs hq hS => ?_)
    obtain ⟨g_10, hg_10, f_11, f_12, f_13, hH⟩ := hq
    have hH : TH E (tbC dA dB (riverD (.inl (a, a)) (.inl (b, b)) (.inl (c, c))) rB rc (rdD (.inl (g_10, g_10)) (.inl (n, n)) (.inr [26]))) H := hH
    have ez_9 : 0 ≤ z_9.toInt ∧ z_9.toInt ≤ 400 := by omega
    refine tPut (j := 19) F hK hH hS (tyb hq_6 (all1 rfl)) rfl (fdI (wkb ez_9 rfl rfl)) clX2 (by decide) wd_14_12 rfl rfl rfl rfl dX3_readWet_31 (fun H locs hH hS => ?_)
    exact txV F hS dX3_readWet_34 (⟨g_10, (by omega), hH⟩)
  · skip
    have r_4 : 1 ≤ z_1.toInt ∧ z_1.toInt ≤ 1 := by have h9_ := hz_1; omega
    refine lv_aload_n F.1 F.2.1 dX3_readWet_7 rfl (lv_at hl 0 rfl) ?_
    refine lv_iload_n F.1 F.2.1 dX3_readWet_8 rfl (lv_at hl 1 rfl) ?_
    refine lv_iconst (v := 3) F.1 F.2.1 dX3_readWet_9 (by decide) ?_
    refine topK (a := 3) (by decide) (fun k_14 hk_14 => ?_)
    refine tVv (b := a0) (As := [.int a1, .int k_14]) (rest := []) F hK hN hO (c_X3_blame E dA dB (riverD (.inl (a, a)) (.inl (b, b)) (.inl (c, c))) rB rc ((.inl (n, n))) ((.inl (p, p))) (.inr [26]) a0 a1 k_14 ha0) mv_X3_blame wd_12_11 ⟨Nat.le_of_ble_eq_true rfl, Nat.le_of_ble_eq_true rfl⟩ ⟨Nat.le_of_ble_eq_true rfl, Nat.le_of_ble_eq_true rfl⟩ hH hS (tRecv hK hH (tyb ha0 (all1 rfl)) clX3) rfl hl.1 (Nat.le_of_ble_eq_true rfl) dX3_readWet_10 (fun H locs hq hS => ?_)
    have hH := hq
    have hH : TH E (tbC dA dB (riverD (.inl (a, a)) (.inl (b, b)) (.inl (c, c))) rB rc (rdD (.inl (p, p)) (.inl (n, n)) (.inr [26]))) H := hH
    exact txV F hS dX3_readWet_13 (⟨p, (by omega), hH⟩)
set_option maxHeartbeats 4000000 in
set_option maxRecDepth 100000 in
theorem c_X3_readWet_2 (E : Ev) (dA : TD) (dB : TD) (rA : TD) (rc : TD) (a : Int) (b : Int) (c : Int) (n : Int) (p : Int) (a0 : Nat) (a1 : Int32) (ha0 : eT E a0 ∈ [29]) (ha : 0 ≤ a ∧ a ≤ 12) (hb : 0 ≤ b ∧ b ≤ 14) (hc : 0 ≤ c ∧ c ≤ 4) (hn : 0 ≤ n ∧ n ≤ 400) (hp : 0 ≤ p ∧ p ≤ 400) : TcV E yX3_readWet cX3_readWet 2 ({ frames := 3, cells := 0, slots := 0, locals := 86 }) [.ref a0, .int a1] (fun H => TH E (tbC dA dB rA (riverD (.inl (a, a)) (.inl (b, b)) (.inl (c, c))) rc (rdD (.inl (p, p)) (.inl (n, n)) (.inr [27]))) H) (fun H => ∃ p2 : Int, (0 ≤ p2 ∧ p2 ≤ 400) ∧ TH E (tbC dA dB rA (riverD (.inl (a, a)) (.inl (b, b)) (.inl (c, c))) rc (rdD (.inl (p2, p2)) (.inl (n, n)) (.inr [27]))) H) := by
  refine teV (by decide) (Nat.le_of_ble_eq_true rfl) ?_
  intro p_ ev_ s mi_ below_ meth cd_ ls F hK hN hO hH hS hl
  have hH : TH E (tbC dA dB rA (riverD (.inl (a, a)) (.inl (b, b)) (.inl (c, c))) rc (rdD (.inl (p, p)) (.inl (n, n)) (.inr [27]))) s.heap := hH
  have hl : lv_has ls 2 [(0, .ref a0), (1, .int a1)] := hl
  refine lv_aload_n F.1 F.2.1 dX3_readWet_0 rfl (lv_at hl 0 rfl) ?_
  refine tGetI (j := 4) F hK hH (tyb ha0 (all1 rfl)) rfl clX3 (by decide) wd_9_6 dX3_readWet_1 (fun z_1 hz_1 => ?_)
  refine z_eq (tgt := 14) F dX3_readWet_4 (by decide) (fun c_2 => ?_) (fun c_2 => ?_)
  · skip
    have r_3 : 0 ≤ z_1.toInt ∧ z_1.toInt ≤ 0 := by have h9_ := hz_1; omega
    refine lv_aload_n F.1 F.2.1 dX3_readWet_14 rfl (lv_at hl 0 rfl) ?_
    refine lv_iconst (v := 1) F.1 F.2.1 dX3_readWet_15 (by decide) ?_
    refine topK (a := 1) (by decide) (fun k_5 hk_5 => ?_)
    refine tPut (j := 4) F hK hH hS (tyb ha0 (all1 rfl)) rfl (fdI (wkb (eqb hk_5) rfl rfl)) clX3 (by decide) wd_9_6 rfl rfl (nar01 (wkb (eqb hk_5) rfl rfl)) (fit01 (wkb (eqb hk_5) rfl rfl)) dX3_readWet_16 (fun H locs hH hS => ?_)
    refine lv_aload_n F.1 F.2.1 dX3_readWet_19 rfl (lv_at hl 0 rfl) ?_
    refine tGetR (j := 5) F hK hH (tyb ha0 (all1 rfl)) rfl (all1 rfl) clX3 (by decide) wd_5_18 dX3_readWet_20 (fun q_6 hq_6 _ => ?_)
    refine lv_aload_n F.1 F.2.1 dX3_readWet_23 rfl (lv_at hl 0 rfl) ?_
    refine lv_iconst (v := 0) F.1 F.2.1 dX3_readWet_24 (by decide) ?_
    refine topK (a := 0) (by decide) (fun k_7 hk_7 => ?_)
    refine lv_sipush (v := 400) F.1 F.2.1 dX3_readWet_25 (by decide) ?_
    refine topK (a := 400) (by decide) (fun k_8 hk_8 => ?_)
    refine tVi (b := a0) (As := [.int k_7, .int k_8]) (rest := [.ref q_6]) F hK hN hO (c_X3_readNumber E dA dB rA (riverD (.inl (a, a)) (.inl (b, b)) (.inl (c, c))) rc (.inr [27]) n p a0 k_7 k_8 ha0 (by omega) (by omega)) mv_X3_readNumber wd_12_19 ⟨Nat.le_of_ble_eq_true rfl, Nat.le_of_ble_eq_true rfl⟩ ⟨Nat.le_of_ble_eq_true rfl, Nat.le_of_ble_eq_true rfl⟩ hH hS (tRecv hK hH (tyb ha0 (all1 rfl)) clX3) rfl hl.1 (Nat.le_of_ble_eq_true rfl) dX3_readWet_28 (fun z_9 H locs hq hS => ?_)
    obtain ⟨g_10, hg_10, f_11, f_12, f_13, hH⟩ := hq
    have hH : TH E (tbC dA dB rA (riverD (.inl (a, a)) (.inl (b, b)) (.inl (c, c))) rc (rdD (.inl (g_10, g_10)) (.inl (n, n)) (.inr [27]))) H := hH
    have ez_9 : 0 ≤ z_9.toInt ∧ z_9.toInt ≤ 400 := by omega
    refine tPut (j := 19) F hK hH hS (tyb hq_6 (all1 rfl)) rfl (fdI (wkb ez_9 rfl rfl)) clX2 (by decide) wd_14_12 rfl rfl rfl rfl dX3_readWet_31 (fun H locs hH hS => ?_)
    exact txV F hS dX3_readWet_34 (⟨g_10, (by omega), hH⟩)
  · skip
    have r_4 : 1 ≤ z_1.toInt ∧ z_1.toInt ≤ 1 := by have h9_ := hz_1; omega
    refine lv_aload_n F.1 F.2.1 dX3_readWet_7 rfl (lv_at hl 0 rfl) ?_
    refine lv_iload_n F.1 F.2.1 dX3_readWet_8 rfl (lv_at hl 1 rfl) ?_
    refine lv_iconst (v := 3) F.1 F.2.1 dX3_readWet_9 (by decide) ?_
    refine topK (a := 3) (by decide) (fun k_14 hk_14 => ?_)
    refine tVv (b := a0) (As := [.int a1, .int k_14]) (rest := []) F hK hN hO (c_X3_blame E dA dB rA (riverD (.inl (a, a)) (.inl (b, b)) (.inl (c, c))) rc ((.inl (n, n))) ((.inl (p, p))) (.inr [27]) a0 a1 k_14 ha0) mv_X3_blame wd_12_11 ⟨Nat.le_of_ble_eq_true rfl, Nat.le_of_ble_eq_true rfl⟩ ⟨Nat.le_of_ble_eq_true rfl, Nat.le_of_ble_eq_true rfl⟩ hH hS (tRecv hK hH (tyb ha0 (all1 rfl)) clX3) rfl hl.1 (Nat.le_of_ble_eq_true rfl) dX3_readWet_10 (fun H locs hq hS => ?_)
    have hH := hq
    have hH : TH E (tbC dA dB rA (riverD (.inl (a, a)) (.inl (b, b)) (.inl (c, c))) rc (rdD (.inl (p, p)) (.inl (n, n)) (.inr [27]))) H := hH
    exact txV F hS dX3_readWet_13 (⟨p, (by omega), hH⟩)
set_option maxHeartbeats 4000000 in
set_option maxRecDepth 100000 in
theorem c_X3_readReach_1 (E : Ev) (dA : TD) (dB : TD) (rB : TD) (rc : TD) (a : Int) (b : Int) (c : Int) (n : Int) (p : Int) (a0 : Nat) (a1 : Int32) (ha0 : eT E a0 ∈ [29]) (ha : 0 ≤ a ∧ a ≤ 12) (hb : 0 ≤ b ∧ b ≤ 14) (hc : 0 ≤ c ∧ c ≤ 4) (hn : 0 ≤ n ∧ n ≤ 400) (hp : 0 ≤ p ∧ p ≤ 400) : TcV E yX3_readReach cX3_readReach 4 ({ frames := 6, cells := 0, slots := 0, locals := 204 }) [.ref a0, .int a1] (fun H => TH E (tbC dA dB (riverD (.inl (a, a)) (.inl (b, b)) (.inl (c, c))) rB rc (rdD (.inl (p, p)) (.inl (n, n)) (.inr [26]))) H) (fun H => ∃ p2 : Int, (0 ≤ p2 ∧ p2 ≤ 400) ∧ ∃ a2 : Int, (0 ≤ a2 ∧ a2 ≤ 12) ∧ TH E (tbC dA dB (riverD (.inl (a2, a2)) (.inl (b, b)) (.inl (c, c))) rB rc (rdD (.inl (p2, p2)) (.inl (n, n)) (.inr [26]))) H) := by
  refine teV (by decide) (Nat.le_of_ble_eq_true rfl) ?_
  intro p_ ev_ s mi_ below_ meth cd_ ls F hK hN hO hH hS hl
  have hH : TH E (tbC dA dB (riverD (.inl (a, a)) (.inl (b, b)) (.inl (c, c))) rB rc (rdD (.inl (p, p)) (.inl (n, n)) (.inr [26]))) s.heap := hH
  have hl : lv_has ls 4 [(0, .ref a0), (1, .int a1)] := hl
  refine lv_aload_n F.1 F.2.1 dX3_readReach_0 rfl (lv_at hl 0 rfl) ?_
  refine tGetR (j := 5) F hK hH (tyb ha0 (all1 rfl)) rfl (all1 rfl) clX3 (by decide) wd_5_18 dX3_readReach_1 (fun q_1 hq_1 _ => ?_)
  refine tGetI (j := 0) F hK hH (tyb hq_1 (all1 rfl)) rfl clX2 (by decide) wd_12_7 dX3_readReach_4 (fun z_2 hz_2 => ?_)
  have ez_2 : 0 ≤ z_2.toInt ∧ z_2.toInt ≤ 12 := by omega
  refine lv_istore_n (lv' := [(2, .int z_2), (0, .ref a0), (1, .int a1)]) F.1 F.2.1 dX3_readReach_7 rfl hl (by decide) rfl (fun ls hl => ?_)
  refine lv_iload_n F.1 F.2.1 dX3_readReach_8 rfl (lv_at hl 0 rfl) ?_
  refine lv_bipush (v := 12) F.1 F.2.1 dX3_readReach_9 (by decide) ?_
  refine topK (a := 12) (by decide) (fun k_3 hk_3 => ?_)
  refine b_lt (tgt := 21) F dX3_readReach_11 (by decide) (fun c_4 => ?_) (fun c_4 => ?_)
  · skip
    have r_5 : 0 ≤ z_2.toInt ∧ z_2.toInt ≤ 11 := by have h9_ := ez_2; omega
    refine lv_aload_n F.1 F.2.1 dX3_readReach_21 rfl (lv_at hl 1 rfl) ?_
    refine tGetR (j := 5) F hK hH (tyb ha0 (all1 rfl)) rfl (all1 rfl) clX3 (by decide) wd_5_18 dX3_readReach_22 (fun q_7 hq_7 _ => ?_)
    refine tGetR (j := 1) F hK hH (tyb hq_7 (all1 rfl)) rfl (all1 rfl) clX2 (by decide) wd_12_8 dX3_readReach_25 (fun q_8 hq_8 _ => ?_)
    refine lv_iload_n F.1 F.2.1 dX3_readReach_28 rfl (lv_at hl 0 rfl) ?_
    refine lv_aload_n F.1 F.2.1 dX3_readReach_29 rfl (lv_at hl 1 rfl) ?_
    refine va_ldcS F.1 F.2.1 F.2.2.2.2.1 (hO.1 1 _ rfl).1 dX3_readReach_30 ?_
    refine tVi (b := a0) (As := [.ref (eX E 1)]) (rest := [.int z_2, .ref q_8]) F hK hN hO (c_X3_isNext E dA dB (riverD (.inl (a, a)) (.inl (b, b)) (.inl (c, c))) rB rc (.inr [26]) n p a0 1 5 ha0 (strAt 1 rfl) (by omega) (by omega)) mv_X3_isNext wd_9_22 ⟨Nat.le_of_ble_eq_true rfl, Nat.le_of_ble_eq_true rfl⟩ ⟨Nat.le_of_ble_eq_true rfl, Nat.le_of_ble_eq_true rfl⟩ hH hS (tRecv hK hH (tyb ha0 (all1 rfl)) clX3) rfl hl.1 (Nat.le_of_ble_eq_true rfl) dX3_readReach_32 (fun z_9 H locs hq hS => ?_)
    obtain ⟨g_10, hg_10, f_11, hH⟩ := hq
    have hH : TH E (tbC dA dB (riverD (.inl (a, a)) (.inl (b, b)) (.inl (c, c))) rB rc (rdD (.inl (g_10, g_10)) (.inl (n, n)) (.inr [26]))) H := hH
    refine z_eq (tgt := 43) F dX3_readReach_35 (by decide) (fun c_12 => ?_) (fun c_12 => ?_)
    · skip
      have r_13 : 0 ≤ z_9.toInt ∧ z_9.toInt ≤ 0 := by have h9_ := f_11; omega
      refine lv_aload_n F.1 F.2.1 dX3_readReach_43 rfl (lv_at hl 1 rfl) ?_
      refine tVi (b := a0) (As := []) (rest := [.int z_2, .ref q_8]) F hK hN hO (c_X3_readReachNumber_1 E dA dB rB rc a b c n g_10 a0 ha0 (by omega) (by omega) (by omega) (by omega) (by omega)) mv_X3_readReachNumber wd_12_15 ⟨Nat.le_of_ble_eq_true rfl, Nat.le_of_ble_eq_true rfl⟩ ⟨Nat.le_of_ble_eq_true rfl, Nat.le_of_ble_eq_true rfl⟩ hH hS (tRecv hK hH (tyb ha0 (all1 rfl)) clX3) rfl hl.1 (Nat.le_of_ble_eq_true rfl) dX3_readReach_44 (fun z_15 H locs hq hS => ?_)
      obtain ⟨g_16, hg_16, f_17, hH⟩ := hq
      have hH : TH E (tbC dA dB (riverD (.inl (a, a)) (.inl (b, b)) (.inl (c, c))) rB rc (rdD (.inl (g_16, g_16)) (.inl (n, n)) (.inr [26]))) H := hH
      refine tIastB F hK hH hS (tyb hq_8 (all1 rfl)) (ixb (n := 12) r_5 rfl rfl) (wkb f_17 rfl rfl) dX3_readReach_47 (fun H locs hH hS => ?_)
      refine lv_iconst (v := 0) F.1 F.2.1 dX3_readReach_48 (by decide) ?_
      refine topK (a := 0) (by decide) (fun k_18 hk_18 => ?_)
      refine lv_istore_n (lv' := [(3, .int k_18), (2, .int z_2), (0, .ref a0), (1, .int a1)]) F.1 F.2.1 dX3_readReach_49 rfl hl (by decide) rfl (fun ls hl => ?_)
      refine wloop (σ := Int32 × Int) (fun n9 x9 H locs ls => (4 - x9.1.toInt + 1).toNat < n9 ∧ (0 ≤ x9.1.toInt ∧ x9.1.toInt ≤ 4) ∧ (0 ≤ x9.2 ∧ x9.2 ≤ 400) ∧ TH E (tbC dA dB (riverD (.inl (a, a)) (.inl (b, b)) (.inl (c, c))) rB rc (rdD (.inl (x9.2, x9.2)) (.inl (n, n)) (.inr [26]))) H ∧ va_S (eA E s.heap.size) s.heap H locs ∧ lv_has ls 4 [(0, .ref a0), (2, .int z_2), (3, .int x9.1)]) ?_ (fun x9 H locs ls h => absurd h.1 (Nat.not_lt_zero _)) _ (k_18, g_16) ⟨Nat.lt_succ_self _, (wkb (eqb hk_18) rfl rfl), (show 0 ≤ g_16 ∧ g_16 ≤ 400 from by omega), hH, hS, lv_sub hl [2, 1, 0] rfl⟩
      intro n_50 ih_50 ⟨u_19, g_20⟩ H locs ls ⟨hm_50, hu_19, hg_20, hH, hS, hl⟩
      have hm_50 : (4 - u_19.toInt + 1).toNat < n_50 + 1 := hm_50
      have hu_19 : (0 ≤ u_19.toInt ∧ u_19.toInt ≤ 4) := hu_19
      have hg_20 : (0 ≤ g_20 ∧ g_20 ≤ 400) := hg_20
      have hH : TH E (tbC dA dB (riverD (.inl (a, a)) (.inl (b, b)) (.inl (c, c))) rB rc (rdD (.inl (g_20, g_20)) (.inl (n, n)) (.inr [26]))) H := hH
      have hl : lv_has ls 4 [(0, .ref a0), (2, .int z_2), (3, .int u_19)] := hl
      refine lv_iload_n F.1 F.2.1 dX3_readReach_50 rfl (lv_at hl 2 rfl) ?_
      refine lv_iconst (v := 4) F.1 F.2.1 dX3_readReach_51 (by decide) ?_
      refine topK (a := 4) (by decide) (fun k_21 hk_21 => ?_)
      refine b_ge (tgt := 82) F dX3_readReach_52 (by decide) (fun c_22 => ?_) (fun c_22 => ?_)
      · skip
        have r_23 : 4 ≤ u_19.toInt ∧ u_19.toInt ≤ 4 := by have h9_ := hu_19; omega
        refine lv_aload_n F.1 F.2.1 dX3_readReach_82 rfl (lv_at hl 0 rfl) ?_
        refine tGetR (j := 5) F hK hH (tyb ha0 (all1 rfl)) rfl (all1 rfl) clX3 (by decide) wd_5_18 dX3_readReach_83 (fun q_25 hq_25 _ => ?_)
        refine tGetR (j := 2) F hK hH (tyb hq_25 (all1 rfl)) rfl (all1 rfl) clX2 (by decide) wd_12_10 dX3_readReach_86 (fun q_26 hq_26 _ => ?_)
        refine lv_iload_n F.1 F.2.1 dX3_readReach_89 rfl (lv_at hl 1 rfl) ?_
        refine lv_aload_n F.1 F.2.1 dX3_readReach_90 rfl (lv_at hl 0 rfl) ?_
        refine va_ldcS F.1 F.2.1 F.2.2.2.2.1 (hO.1 2 _ rfl).1 dX3_readReach_91 ?_
        refine tVi (b := a0) (As := [.ref (eX E 2)]) (rest := [.int z_2, .ref q_26]) F hK hN hO (c_X3_isNext E dA dB (riverD (.inl (a, a)) (.inl (b, b)) (.inl (c, c))) rB rc (.inr [26]) n g_20 a0 2 4 ha0 (strAt 2 rfl) (by omega) (by omega)) mv_X3_isNext wd_9_22 ⟨Nat.le_of_ble_eq_true rfl, Nat.le_of_ble_eq_true rfl⟩ ⟨Nat.le_of_ble_eq_true rfl, Nat.le_of_ble_eq_true rfl⟩ hH hS (tRecv hK hH (tyb ha0 (all1 rfl)) clX3) rfl hl.1 (Nat.le_of_ble_eq_true rfl) dX3_readReach_93 (fun z_27 H locs hq hS => ?_)
        obtain ⟨g_28, hg_28, f_29, hH⟩ := hq
        have hH : TH E (tbC dA dB (riverD (.inl (a, a)) (.inl (b, b)) (.inl (c, c))) rB rc (rdD (.inl (g_28, g_28)) (.inl (n, n)) (.inr [26]))) H := hH
        refine wjoin (σ := Int32 × Int) (pcj := 111) (stj := fun x9 => [.int x9.1, .int z_2, .ref q_26]) (fun x9 H locs ls => (0 ≤ x9.1.toInt ∧ x9.1.toInt ≤ 9999) ∧ (0 ≤ x9.2 ∧ x9.2 ≤ 400) ∧ TH E (tbC dA dB (riverD (.inl (a, a)) (.inl (b, b)) (.inl (c, c))) rB rc (rdD (.inl (x9.2, x9.2)) (.inl (n, n)) (.inr [26]))) H ∧ va_S (eA E s.heap.size) s.heap H locs ∧ lv_has ls 4 [(0, .ref a0)]) (fun x9 H locs ls h_ => ?_) (fun J_111 => ?_)
        · skip
          obtain ⟨u_30, g_31⟩ := x9
          obtain ⟨hu_30, hg_31, hH, hS, hl⟩ := h_
          have hu_30 : (0 ≤ u_30.toInt ∧ u_30.toInt ≤ 9999) := hu_30
          have hg_31 : (0 ≤ g_31 ∧ g_31 ≤ 400) := hg_31
          have hH : TH E (tbC dA dB (riverD (.inl (a, a)) (.inl (b, b)) (.inl (c, c))) rB rc (rdD (.inl (g_31, g_31)) (.inl (n, n)) (.inr [26]))) H := hH
          have hl : lv_has ls 4 [(0, .ref a0)] := hl
          show W _ _ _ _ _ _ _ _ _ _ _ _ _ _ _ (F0 _ _ _ [.int u_30, .int z_2, .ref q_26])
          refine tIastB F hK hH hS (tyb hq_26 (all1 rfl)) (ixb (n := 12) r_5 rfl rfl) (wkb hu_30 rfl rfl) dX3_readReach_111 (fun H locs hH hS => ?_)
          refine lv_aload_n F.1 F.2.1 dX3_readReach_112 rfl (lv_at hl 0 rfl) ?_
          refine tGetR (j := 5) F hK hH (tyb ha0 (all1 rfl)) rfl (all1 rfl) clX3 (by decide) wd_5_18 dX3_readReach_113 (fun q_32 hq_32 _ => ?_)
          refine lv_dup F.1 F.2.1 dX3_readReach_116 rfl ?_
          refine tGetI (j := 0) F hK hH (tyb hq_32 (all1 rfl)) rfl clX2 (by decide) wd_12_7 dX3_readReach_117 (fun z_33 hz_33 => ?_)
          have ez_33 : 0 ≤ z_33.toInt ∧ z_33.toInt ≤ 11 := by omega
          refine lv_iconst (v := 1) F.1 F.2.1 dX3_readReach_120 (by decide) ?_
          refine topK (a := 1) (by decide) (fun k_34 hk_34 => ?_)
          refine tAdd (lo := 1) (hi := 12) F dX3_readReach_121 ez_33 (eqb hk_34) rfl (fun z_35 hz_35 => ?_)
          obtain ⟨g_36, hg_36⟩ : ∃ y : Int, z_35.toInt = y := ⟨_, rfl⟩
          have bg_36 : 1 ≤ g_36 ∧ g_36 ≤ 12 := by rw [← hg_36]; exact hz_35.2
          refine tPutG (j := 0) (t := 26) (fd := (.inl (g_36, g_36))) F hK hH hS (List.mem_singleton.mp hq_32) (by decide) rfl rfl (fdI (by omega)) (TB1 := (tbC dA dB (riverD (.inl (g_36, g_36)) (.inl (b, b)) (.inl (c, c))) rB rc (rdD (.inl (g_31, g_31)) (.inl (n, n)) (.inr [26])))) rfl clX2 (by decide) wd_12_7 rfl rfl rfl rfl dX3_readReach_122 (fun H locs hH hS => ?_)
          exact txV F hS dX3_readReach_125 (⟨g_31, (by omega), g_36, (by omega), hH⟩)
        refine z_eq (tgt := 110) F dX3_readReach_96 (by decide) (fun c_37 => ?_) (fun c_37 => ?_)
        · skip
          have r_38 : 0 ≤ z_27.toInt ∧ z_27.toInt ≤ 0 := by have h9_ := f_29; omega
          refine lv_iconst (v := 0) F.1 F.2.1 dX3_readReach_110 (by decide) ?_
          refine topK (a := 0) (by decide) (fun k_40 hk_40 => ?_)
          exact J_111 (k_40, g_28) _ _ _ ⟨(wkb (eqb hk_40) rfl rfl), (show 0 ≤ g_28 ∧ g_28 ≤ 400 from by omega), hH, hS, lv_sub hl [0] rfl⟩
        · skip
          have r_39 : 1 ≤ z_27.toInt ∧ z_27.toInt ≤ 1 := by have h9_ := f_29; omega
          refine lv_aload_n F.1 F.2.1 dX3_readReach_99 rfl (lv_at hl 0 rfl) ?_
          refine lv_iconst (v := 0) F.1 F.2.1 dX3_readReach_100 (by decide) ?_
          refine topK (a := 0) (by decide) (fun k_41 hk_41 => ?_)
          refine lv_sipush (v := 9999) F.1 F.2.1 dX3_readReach_101 (by decide) ?_
          refine topK (a := 9999) (by decide) (fun k_42 hk_42 => ?_)
          refine tVi (b := a0) (As := [.int k_41, .int k_42]) (rest := [.int z_2, .ref q_26]) F hK hN hO (c_X3_readNumber E dA dB (riverD (.inl (a, a)) (.inl (b, b)) (.inl (c, c))) rB rc (.inr [26]) n g_28 a0 k_41 k_42 ha0 (by omega) (by omega)) mv_X3_readNumber wd_12_19 ⟨Nat.le_of_ble_eq_true rfl, Nat.le_of_ble_eq_true rfl⟩ ⟨Nat.le_of_ble_eq_true rfl, Nat.le_of_ble_eq_true rfl⟩ hH hS (tRecv hK hH (tyb ha0 (all1 rfl)) clX3) rfl hl.1 (Nat.le_of_ble_eq_true rfl) dX3_readReach_104 (fun z_43 H locs hq hS => ?_)
          obtain ⟨g_44, hg_44, f_45, f_46, f_47, hH⟩ := hq
          have hH : TH E (tbC dA dB (riverD (.inl (a, a)) (.inl (b, b)) (.inl (c, c))) rB rc (rdD (.inl (g_44, g_44)) (.inl (n, n)) (.inr [26]))) H := hH
          have ez_43 : 0 ≤ z_43.toInt ∧ z_43.toInt ≤ 9999 := by omega
          refine lv_goto (tgt := 111) F.1 F.2.1 dX3_readReach_107 (by decide) ?_
          exact J_111 (z_43, g_44) _ _ _ ⟨ez_43, (show 0 ≤ g_44 ∧ g_44 ≤ 400 from by omega), hH, hS, lv_sub hl [0] rfl⟩
      · skip
        have r_24 : 0 ≤ u_19.toInt ∧ u_19.toInt ≤ 3 := by have h9_ := hu_19; omega
        refine lv_aload_n F.1 F.2.1 dX3_readReach_55 rfl (lv_at hl 0 rfl) ?_
        refine tGetR (j := 5) F hK hH (tyb ha0 (all1 rfl)) rfl (all1 rfl) clX3 (by decide) wd_5_18 dX3_readReach_56 (fun q_48 hq_48 _ => ?_)
        refine tGetR (j := 3) F hK hH (tyb hq_48 (all1 rfl)) rfl (all1 rfl) clX2 (by decide) wd_12_9 dX3_readReach_59 (fun q_49 hq_49 _ => ?_)
        refine lv_iload_n F.1 F.2.1 dX3_readReach_62 rfl (lv_at hl 1 rfl) ?_
        refine lv_iconst (v := 4) F.1 F.2.1 dX3_readReach_63 (by decide) ?_
        refine topK (a := 4) (by decide) (fun k_50 hk_50 => ?_)
        refine tMul (lo := 0) (hi := 44) F dX3_readReach_64 r_5 (eqb hk_50) rfl (fun z_51 hz_51 => ?_)
        have mz_51 : z_51.toInt = z_2.toInt * 4 := by rw [hz_51.1, hk_50]
        refine lv_iload_n F.1 F.2.1 dX3_readReach_65 rfl (lv_at hl 2 rfl) ?_
        refine tAdd (lo := 0) (hi := 47) F dX3_readReach_66 hz_51.2 r_24 rfl (fun z_52 hz_52 => ?_)
        refine lv_aload_n F.1 F.2.1 dX3_readReach_67 rfl (lv_at hl 0 rfl) ?_
        refine lv_iconst (v := 0) F.1 F.2.1 dX3_readReach_68 (by decide) ?_
        refine topK (a := 0) (by decide) (fun k_53 hk_53 => ?_)
        refine lv_sipush (v := 9999) F.1 F.2.1 dX3_readReach_69 (by decide) ?_
        refine topK (a := 9999) (by decide) (fun k_54 hk_54 => ?_)
        refine tVi (b := a0) (As := [.int k_53, .int k_54]) (rest := [.int z_52, .ref q_49]) F hK hN hO (c_X3_readNumber E dA dB (riverD (.inl (a, a)) (.inl (b, b)) (.inl (c, c))) rB rc (.inr [26]) n g_20 a0 k_53 k_54 ha0 (by omega) (by omega)) mv_X3_readNumber wd_12_19 ⟨Nat.le_of_ble_eq_true rfl, Nat.le_of_ble_eq_true rfl⟩ ⟨Nat.le_of_ble_eq_true rfl, Nat.le_of_ble_eq_true rfl⟩ hH hS (tRecv hK hH (tyb ha0 (all1 rfl)) clX3) rfl hl.1 (Nat.le_of_ble_eq_true rfl) dX3_readReach_72 (fun z_55 H locs hq hS => ?_)
        obtain ⟨g_56, hg_56, f_57, f_58, f_59, hH⟩ := hq
        have hH : TH E (tbC dA dB (riverD (.inl (a, a)) (.inl (b, b)) (.inl (c, c))) rB rc (rdD (.inl (g_56, g_56)) (.inl (n, n)) (.inr [26]))) H := hH
        have ez_55 : 0 ≤ z_55.toInt ∧ z_55.toInt ≤ 9999 := by omega
        refine tIastB F hK hH hS (tyb hq_49 (all1 rfl)) (ixb (n := 48) hz_52.2 rfl rfl) (wkb ez_55 rfl rfl) dX3_readReach_75 (fun H locs hH hS => ?_)
        obtain ⟨x_60, ex_60, hx_60⟩ := iincB (c := 1) (lo := 1) (hi := 4) r_24 rfl
        refine lv_iinc (v := x_60) (lv' := [(3, .int x_60), (0, .ref a0), (2, .int z_2)]) F.1 F.2.1 dX3_readReach_76 hl (k := 2) rfl ex_60 (by decide) rfl (fun ls hl => ?_)
        refine lv_goto (tgt := 50) F.1 F.2.1 dX3_readReach_79 (by decide) ?_
        exact ih_50 (x_60, g_56) _ _ _ ⟨(show (4 - x_60.toInt + 1).toNat < n_50 from by omega), (wkb hx_60.2 rfl rfl), (show 0 ≤ g_56 ∧ g_56 ≤ 400 from by omega), hH, hS, lv_sub hl [1, 2, 0] rfl⟩
    · skip
      have r_14 : 1 ≤ z_9.toInt ∧ z_9.toInt ≤ 1 := by have h9_ := f_11; omega
      refine lv_bipush (v := (-2)) F.1 F.2.1 dX3_readReach_38 (by decide) ?_
      refine topK (a := (-2)) (by decide) (fun k_61 hk_61 => ?_)
      refine lv_goto (tgt := 47) F.1 F.2.1 dX3_readReach_40 (by decide) ?_
      refine tIastB F hK hH hS (tyb hq_8 (all1 rfl)) (ixb (n := 12) r_5 rfl rfl) (wkb (eqb hk_61) rfl rfl) dX3_readReach_47 (fun H locs hH hS => ?_)
      refine lv_iconst (v := 0) F.1 F.2.1 dX3_readReach_48 (by decide) ?_
      refine topK (a := 0) (by decide) (fun k_62 hk_62 => ?_)
      refine lv_istore_n (lv' := [(3, .int k_62), (2, .int z_2), (0, .ref a0), (1, .int a1)]) F.1 F.2.1 dX3_readReach_49 rfl hl (by decide) rfl (fun ls hl => ?_)
      refine wloop (σ := Int32 × Int) (fun n9 x9 H locs ls => (4 - x9.1.toInt + 1).toNat < n9 ∧ (0 ≤ x9.1.toInt ∧ x9.1.toInt ≤ 4) ∧ (0 ≤ x9.2 ∧ x9.2 ≤ 400) ∧ TH E (tbC dA dB (riverD (.inl (a, a)) (.inl (b, b)) (.inl (c, c))) rB rc (rdD (.inl (x9.2, x9.2)) (.inl (n, n)) (.inr [26]))) H ∧ va_S (eA E s.heap.size) s.heap H locs ∧ lv_has ls 4 [(0, .ref a0), (2, .int z_2), (3, .int x9.1)]) ?_ (fun x9 H locs ls h => absurd h.1 (Nat.not_lt_zero _)) _ (k_62, g_10) ⟨Nat.lt_succ_self _, (wkb (eqb hk_62) rfl rfl), (show 0 ≤ g_10 ∧ g_10 ≤ 400 from by omega), hH, hS, lv_sub hl [2, 1, 0] rfl⟩
      intro n_50 ih_50 ⟨u_63, g_64⟩ H locs ls ⟨hm_50, hu_63, hg_64, hH, hS, hl⟩
      have hm_50 : (4 - u_63.toInt + 1).toNat < n_50 + 1 := hm_50
      have hu_63 : (0 ≤ u_63.toInt ∧ u_63.toInt ≤ 4) := hu_63
      have hg_64 : (0 ≤ g_64 ∧ g_64 ≤ 400) := hg_64
      have hH : TH E (tbC dA dB (riverD (.inl (a, a)) (.inl (b, b)) (.inl (c, c))) rB rc (rdD (.inl (g_64, g_64)) (.inl (n, n)) (.inr [26]))) H := hH
      have hl : lv_has ls 4 [(0, .ref a0), (2, .int z_2), (3, .int u_63)] := hl
      refine lv_iload_n F.1 F.2.1 dX3_readReach_50 rfl (lv_at hl 2 rfl) ?_
      refine lv_iconst (v := 4) F.1 F.2.1 dX3_readReach_51 (by decide) ?_
      refine topK (a := 4) (by decide) (fun k_65 hk_65 => ?_)
      refine b_ge (tgt := 82) F dX3_readReach_52 (by decide) (fun c_66 => ?_) (fun c_66 => ?_)
      · skip
        have r_67 : 4 ≤ u_63.toInt ∧ u_63.toInt ≤ 4 := by have h9_ := hu_63; omega
        refine lv_aload_n F.1 F.2.1 dX3_readReach_82 rfl (lv_at hl 0 rfl) ?_
        refine tGetR (j := 5) F hK hH (tyb ha0 (all1 rfl)) rfl (all1 rfl) clX3 (by decide) wd_5_18 dX3_readReach_83 (fun q_69 hq_69 _ => ?_)
        refine tGetR (j := 2) F hK hH (tyb hq_69 (all1 rfl)) rfl (all1 rfl) clX2 (by decide) wd_12_10 dX3_readReach_86 (fun q_70 hq_70 _ => ?_)
        refine lv_iload_n F.1 F.2.1 dX3_readReach_89 rfl (lv_at hl 1 rfl) ?_
        refine lv_aload_n F.1 F.2.1 dX3_readReach_90 rfl (lv_at hl 0 rfl) ?_
        refine va_ldcS F.1 F.2.1 F.2.2.2.2.1 (hO.1 2 _ rfl).1 dX3_readReach_91 ?_
        refine tVi (b := a0) (As := [.ref (eX E 2)]) (rest := [.int z_2, .ref q_70]) F hK hN hO (c_X3_isNext E dA dB (riverD (.inl (a, a)) (.inl (b, b)) (.inl (c, c))) rB rc (.inr [26]) n g_64 a0 2 4 ha0 (strAt 2 rfl) (by omega) (by omega)) mv_X3_isNext wd_9_22 ⟨Nat.le_of_ble_eq_true rfl, Nat.le_of_ble_eq_true rfl⟩ ⟨Nat.le_of_ble_eq_true rfl, Nat.le_of_ble_eq_true rfl⟩ hH hS (tRecv hK hH (tyb ha0 (all1 rfl)) clX3) rfl hl.1 (Nat.le_of_ble_eq_true rfl) dX3_readReach_93 (fun z_71 H locs hq hS => ?_)
        obtain ⟨g_72, hg_72, f_73, hH⟩ := hq
        have hH : TH E (tbC dA dB (riverD (.inl (a, a)) (.inl (b, b)) (.inl (c, c))) rB rc (rdD (.inl (g_72, g_72)) (.inl (n, n)) (.inr [26]))) H := hH
        refine wjoin (σ := Int32 × Int) (pcj := 111) (stj := fun x9 => [.int x9.1, .int z_2, .ref q_70]) (fun x9 H locs ls => (0 ≤ x9.1.toInt ∧ x9.1.toInt ≤ 9999) ∧ (0 ≤ x9.2 ∧ x9.2 ≤ 400) ∧ TH E (tbC dA dB (riverD (.inl (a, a)) (.inl (b, b)) (.inl (c, c))) rB rc (rdD (.inl (x9.2, x9.2)) (.inl (n, n)) (.inr [26]))) H ∧ va_S (eA E s.heap.size) s.heap H locs ∧ lv_has ls 4 [(0, .ref a0)]) (fun x9 H locs ls h_ => ?_) (fun J_111 => ?_)
        · skip
          obtain ⟨u_74, g_75⟩ := x9
          obtain ⟨hu_74, hg_75, hH, hS, hl⟩ := h_
          have hu_74 : (0 ≤ u_74.toInt ∧ u_74.toInt ≤ 9999) := hu_74
          have hg_75 : (0 ≤ g_75 ∧ g_75 ≤ 400) := hg_75
          have hH : TH E (tbC dA dB (riverD (.inl (a, a)) (.inl (b, b)) (.inl (c, c))) rB rc (rdD (.inl (g_75, g_75)) (.inl (n, n)) (.inr [26]))) H := hH
          have hl : lv_has ls 4 [(0, .ref a0)] := hl
          show W _ _ _ _ _ _ _ _ _ _ _ _ _ _ _ (F0 _ _ _ [.int u_74, .int z_2, .ref q_70])
          refine tIastB F hK hH hS (tyb hq_70 (all1 rfl)) (ixb (n := 12) r_5 rfl rfl) (wkb hu_74 rfl rfl) dX3_readReach_111 (fun H locs hH hS => ?_)
          refine lv_aload_n F.1 F.2.1 dX3_readReach_112 rfl (lv_at hl 0 rfl) ?_
          refine tGetR (j := 5) F hK hH (tyb ha0 (all1 rfl)) rfl (all1 rfl) clX3 (by decide) wd_5_18 dX3_readReach_113 (fun q_76 hq_76 _ => ?_)
          refine lv_dup F.1 F.2.1 dX3_readReach_116 rfl ?_
          refine tGetI (j := 0) F hK hH (tyb hq_76 (all1 rfl)) rfl clX2 (by decide) wd_12_7 dX3_readReach_117 (fun z_77 hz_77 => ?_)
          have ez_77 : 0 ≤ z_77.toInt ∧ z_77.toInt ≤ 11 := by omega
          refine lv_iconst (v := 1) F.1 F.2.1 dX3_readReach_120 (by decide) ?_
          refine topK (a := 1) (by decide) (fun k_78 hk_78 => ?_)
          refine tAdd (lo := 1) (hi := 12) F dX3_readReach_121 ez_77 (eqb hk_78) rfl (fun z_79 hz_79 => ?_)
          obtain ⟨g_80, hg_80⟩ : ∃ y : Int, z_79.toInt = y := ⟨_, rfl⟩
          have bg_80 : 1 ≤ g_80 ∧ g_80 ≤ 12 := by rw [← hg_80]; exact hz_79.2
          refine tPutG (j := 0) (t := 26) (fd := (.inl (g_80, g_80))) F hK hH hS (List.mem_singleton.mp hq_76) (by decide) rfl rfl (fdI (by omega)) (TB1 := (tbC dA dB (riverD (.inl (g_80, g_80)) (.inl (b, b)) (.inl (c, c))) rB rc (rdD (.inl (g_75, g_75)) (.inl (n, n)) (.inr [26])))) rfl clX2 (by decide) wd_12_7 rfl rfl rfl rfl dX3_readReach_122 (fun H locs hH hS => ?_)
          exact txV F hS dX3_readReach_125 (⟨g_75, (by omega), g_80, (by omega), hH⟩)
        refine z_eq (tgt := 110) F dX3_readReach_96 (by decide) (fun c_81 => ?_) (fun c_81 => ?_)
        · skip
          have r_82 : 0 ≤ z_71.toInt ∧ z_71.toInt ≤ 0 := by have h9_ := f_73; omega
          refine lv_iconst (v := 0) F.1 F.2.1 dX3_readReach_110 (by decide) ?_
          refine topK (a := 0) (by decide) (fun k_84 hk_84 => ?_)
          exact J_111 (k_84, g_72) _ _ _ ⟨(wkb (eqb hk_84) rfl rfl), (show 0 ≤ g_72 ∧ g_72 ≤ 400 from by omega), hH, hS, lv_sub hl [0] rfl⟩
        · skip
          have r_83 : 1 ≤ z_71.toInt ∧ z_71.toInt ≤ 1 := by have h9_ := f_73; omega
          refine lv_aload_n F.1 F.2.1 dX3_readReach_99 rfl (lv_at hl 0 rfl) ?_
          refine lv_iconst (v := 0) F.1 F.2.1 dX3_readReach_100 (by decide) ?_
          refine topK (a := 0) (by decide) (fun k_85 hk_85 => ?_)
          refine lv_sipush (v := 9999) F.1 F.2.1 dX3_readReach_101 (by decide) ?_
          refine topK (a := 9999) (by decide) (fun k_86 hk_86 => ?_)
          refine tVi (b := a0) (As := [.int k_85, .int k_86]) (rest := [.int z_2, .ref q_70]) F hK hN hO (c_X3_readNumber E dA dB (riverD (.inl (a, a)) (.inl (b, b)) (.inl (c, c))) rB rc (.inr [26]) n g_72 a0 k_85 k_86 ha0 (by omega) (by omega)) mv_X3_readNumber wd_12_19 ⟨Nat.le_of_ble_eq_true rfl, Nat.le_of_ble_eq_true rfl⟩ ⟨Nat.le_of_ble_eq_true rfl, Nat.le_of_ble_eq_true rfl⟩ hH hS (tRecv hK hH (tyb ha0 (all1 rfl)) clX3) rfl hl.1 (Nat.le_of_ble_eq_true rfl) dX3_readReach_104 (fun z_87 H locs hq hS => ?_)
          obtain ⟨g_88, hg_88, f_89, f_90, f_91, hH⟩ := hq
          have hH : TH E (tbC dA dB (riverD (.inl (a, a)) (.inl (b, b)) (.inl (c, c))) rB rc (rdD (.inl (g_88, g_88)) (.inl (n, n)) (.inr [26]))) H := hH
          have ez_87 : 0 ≤ z_87.toInt ∧ z_87.toInt ≤ 9999 := by omega
          refine lv_goto (tgt := 111) F.1 F.2.1 dX3_readReach_107 (by decide) ?_
          exact J_111 (z_87, g_88) _ _ _ ⟨ez_87, (show 0 ≤ g_88 ∧ g_88 ≤ 400 from by omega), hH, hS, lv_sub hl [0] rfl⟩
      · skip
        have r_68 : 0 ≤ u_63.toInt ∧ u_63.toInt ≤ 3 := by have h9_ := hu_63; omega
        refine lv_aload_n F.1 F.2.1 dX3_readReach_55 rfl (lv_at hl 0 rfl) ?_
        refine tGetR (j := 5) F hK hH (tyb ha0 (all1 rfl)) rfl (all1 rfl) clX3 (by decide) wd_5_18 dX3_readReach_56 (fun q_92 hq_92 _ => ?_)
        refine tGetR (j := 3) F hK hH (tyb hq_92 (all1 rfl)) rfl (all1 rfl) clX2 (by decide) wd_12_9 dX3_readReach_59 (fun q_93 hq_93 _ => ?_)
        refine lv_iload_n F.1 F.2.1 dX3_readReach_62 rfl (lv_at hl 1 rfl) ?_
        refine lv_iconst (v := 4) F.1 F.2.1 dX3_readReach_63 (by decide) ?_
        refine topK (a := 4) (by decide) (fun k_94 hk_94 => ?_)
        refine tMul (lo := 0) (hi := 44) F dX3_readReach_64 r_5 (eqb hk_94) rfl (fun z_95 hz_95 => ?_)
        have mz_95 : z_95.toInt = z_2.toInt * 4 := by rw [hz_95.1, hk_94]
        refine lv_iload_n F.1 F.2.1 dX3_readReach_65 rfl (lv_at hl 2 rfl) ?_
        refine tAdd (lo := 0) (hi := 47) F dX3_readReach_66 hz_95.2 r_68 rfl (fun z_96 hz_96 => ?_)
        refine lv_aload_n F.1 F.2.1 dX3_readReach_67 rfl (lv_at hl 0 rfl) ?_
        refine lv_iconst (v := 0) F.1 F.2.1 dX3_readReach_68 (by decide) ?_
        refine topK (a := 0) (by decide) (fun k_97 hk_97 => ?_)
        refine lv_sipush (v := 9999) F.1 F.2.1 dX3_readReach_69 (by decide) ?_
        refine topK (a := 9999) (by decide) (fun k_98 hk_98 => ?_)
        refine tVi (b := a0) (As := [.int k_97, .int k_98]) (rest := [.int z_96, .ref q_93]) F hK hN hO (c_X3_readNumber E dA dB (riverD (.inl (a, a)) (.inl (b, b)) (.inl (c, c))) rB rc (.inr [26]) n g_64 a0 k_97 k_98 ha0 (by omega) (by omega)) mv_X3_readNumber wd_12_19 ⟨Nat.le_of_ble_eq_true rfl, Nat.le_of_ble_eq_true rfl⟩ ⟨Nat.le_of_ble_eq_true rfl, Nat.le_of_ble_eq_true rfl⟩ hH hS (tRecv hK hH (tyb ha0 (all1 rfl)) clX3) rfl hl.1 (Nat.le_of_ble_eq_true rfl) dX3_readReach_72 (fun z_99 H locs hq hS => ?_)
        obtain ⟨g_100, hg_100, f_101, f_102, f_103, hH⟩ := hq
        have hH : TH E (tbC dA dB (riverD (.inl (a, a)) (.inl (b, b)) (.inl (c, c))) rB rc (rdD (.inl (g_100, g_100)) (.inl (n, n)) (.inr [26]))) H := hH
        have ez_99 : 0 ≤ z_99.toInt ∧ z_99.toInt ≤ 9999 := by omega
        refine tIastB F hK hH hS (tyb hq_93 (all1 rfl)) (ixb (n := 48) hz_96.2 rfl rfl) (wkb ez_99 rfl rfl) dX3_readReach_75 (fun H locs hH hS => ?_)
        obtain ⟨x_104, ex_104, hx_104⟩ := iincB (c := 1) (lo := 1) (hi := 4) r_68 rfl
        refine lv_iinc (v := x_104) (lv' := [(3, .int x_104), (0, .ref a0), (2, .int z_2)]) F.1 F.2.1 dX3_readReach_76 hl (k := 2) rfl ex_104 (by decide) rfl (fun ls hl => ?_)
        refine lv_goto (tgt := 50) F.1 F.2.1 dX3_readReach_79 (by decide) ?_
        exact ih_50 (x_104, g_100) _ _ _ ⟨(show (4 - x_104.toInt + 1).toNat < n_50 from by omega), (wkb hx_104.2 rfl rfl), (show 0 ≤ g_100 ∧ g_100 ≤ 400 from by omega), hH, hS, lv_sub hl [1, 2, 0] rfl⟩
  · skip
    have r_6 : 12 ≤ z_2.toInt ∧ z_2.toInt ≤ 12 := by have h9_ := ez_2; omega
    refine lv_aload_n F.1 F.2.1 dX3_readReach_14 rfl (lv_at hl 1 rfl) ?_
    refine lv_iload_n F.1 F.2.1 dX3_readReach_15 rfl (lv_at hl 2 rfl) ?_
    refine lv_iconst (v := 3) F.1 F.2.1 dX3_readReach_16 (by decide) ?_
    refine topK (a := 3) (by decide) (fun k_105 hk_105 => ?_)
    refine tVv (b := a0) (As := [.int a1, .int k_105]) (rest := []) F hK hN hO (c_X3_blame E dA dB (riverD (.inl (a, a)) (.inl (b, b)) (.inl (c, c))) rB rc ((.inl (n, n))) ((.inl (p, p))) (.inr [26]) a0 a1 k_105 ha0) mv_X3_blame wd_12_11 ⟨Nat.le_of_ble_eq_true rfl, Nat.le_of_ble_eq_true rfl⟩ ⟨Nat.le_of_ble_eq_true rfl, Nat.le_of_ble_eq_true rfl⟩ hH hS (tRecv hK hH (tyb ha0 (all1 rfl)) clX3) rfl hl.1 (Nat.le_of_ble_eq_true rfl) dX3_readReach_17 (fun H locs hq hS => ?_)
    have hH := hq
    have hH : TH E (tbC dA dB (riverD (.inl (a, a)) (.inl (b, b)) (.inl (c, c))) rB rc (rdD (.inl (p, p)) (.inl (n, n)) (.inr [26]))) H := hH
    exact txV F hS dX3_readReach_20 (⟨p, (by omega), a, (by omega), hH⟩)
set_option maxHeartbeats 4000000 in
set_option maxRecDepth 100000 in
theorem c_X3_readReach_2 (E : Ev) (dA : TD) (dB : TD) (rA : TD) (rc : TD) (a : Int) (b : Int) (c : Int) (n : Int) (p : Int) (a0 : Nat) (a1 : Int32) (ha0 : eT E a0 ∈ [29]) (ha : 0 ≤ a ∧ a ≤ 12) (hb : 0 ≤ b ∧ b ≤ 14) (hc : 0 ≤ c ∧ c ≤ 4) (hn : 0 ≤ n ∧ n ≤ 400) (hp : 0 ≤ p ∧ p ≤ 400) : TcV E yX3_readReach cX3_readReach 4 ({ frames := 6, cells := 0, slots := 0, locals := 204 }) [.ref a0, .int a1] (fun H => TH E (tbC dA dB rA (riverD (.inl (a, a)) (.inl (b, b)) (.inl (c, c))) rc (rdD (.inl (p, p)) (.inl (n, n)) (.inr [27]))) H) (fun H => ∃ p2 : Int, (0 ≤ p2 ∧ p2 ≤ 400) ∧ ∃ a2 : Int, (0 ≤ a2 ∧ a2 ≤ 12) ∧ TH E (tbC dA dB rA (riverD (.inl (a2, a2)) (.inl (b, b)) (.inl (c, c))) rc (rdD (.inl (p2, p2)) (.inl (n, n)) (.inr [27]))) H) := by
  refine teV (by decide) (Nat.le_of_ble_eq_true rfl) ?_
  intro p_ ev_ s mi_ below_ meth cd_ ls F hK hN hO hH hS hl
  have hH : TH E (tbC dA dB rA (riverD (.inl (a, a)) (.inl (b, b)) (.inl (c, c))) rc (rdD (.inl (p, p)) (.inl (n, n)) (.inr [27]))) s.heap := hH
  have hl : lv_has ls 4 [(0, .ref a0), (1, .int a1)] := hl
  refine lv_aload_n F.1 F.2.1 dX3_readReach_0 rfl (lv_at hl 0 rfl) ?_
  refine tGetR (j := 5) F hK hH (tyb ha0 (all1 rfl)) rfl (all1 rfl) clX3 (by decide) wd_5_18 dX3_readReach_1 (fun q_1 hq_1 _ => ?_)
  refine tGetI (j := 0) F hK hH (tyb hq_1 (all1 rfl)) rfl clX2 (by decide) wd_12_7 dX3_readReach_4 (fun z_2 hz_2 => ?_)
  have ez_2 : 0 ≤ z_2.toInt ∧ z_2.toInt ≤ 12 := by omega
  refine lv_istore_n (lv' := [(2, .int z_2), (0, .ref a0), (1, .int a1)]) F.1 F.2.1 dX3_readReach_7 rfl hl (by decide) rfl (fun ls hl => ?_)
  refine lv_iload_n F.1 F.2.1 dX3_readReach_8 rfl (lv_at hl 0 rfl) ?_
  refine lv_bipush (v := 12) F.1 F.2.1 dX3_readReach_9 (by decide) ?_
  refine topK (a := 12) (by decide) (fun k_3 hk_3 => ?_)
  refine b_lt (tgt := 21) F dX3_readReach_11 (by decide) (fun c_4 => ?_) (fun c_4 => ?_)
  · skip
    have r_5 : 0 ≤ z_2.toInt ∧ z_2.toInt ≤ 11 := by have h9_ := ez_2; omega
    refine lv_aload_n F.1 F.2.1 dX3_readReach_21 rfl (lv_at hl 1 rfl) ?_
    refine tGetR (j := 5) F hK hH (tyb ha0 (all1 rfl)) rfl (all1 rfl) clX3 (by decide) wd_5_18 dX3_readReach_22 (fun q_7 hq_7 _ => ?_)
    refine tGetR (j := 1) F hK hH (tyb hq_7 (all1 rfl)) rfl (all1 rfl) clX2 (by decide) wd_12_8 dX3_readReach_25 (fun q_8 hq_8 _ => ?_)
    refine lv_iload_n F.1 F.2.1 dX3_readReach_28 rfl (lv_at hl 0 rfl) ?_
    refine lv_aload_n F.1 F.2.1 dX3_readReach_29 rfl (lv_at hl 1 rfl) ?_
    refine va_ldcS F.1 F.2.1 F.2.2.2.2.1 (hO.1 1 _ rfl).1 dX3_readReach_30 ?_
    refine tVi (b := a0) (As := [.ref (eX E 1)]) (rest := [.int z_2, .ref q_8]) F hK hN hO (c_X3_isNext E dA dB rA (riverD (.inl (a, a)) (.inl (b, b)) (.inl (c, c))) rc (.inr [27]) n p a0 1 5 ha0 (strAt 1 rfl) (by omega) (by omega)) mv_X3_isNext wd_9_22 ⟨Nat.le_of_ble_eq_true rfl, Nat.le_of_ble_eq_true rfl⟩ ⟨Nat.le_of_ble_eq_true rfl, Nat.le_of_ble_eq_true rfl⟩ hH hS (tRecv hK hH (tyb ha0 (all1 rfl)) clX3) rfl hl.1 (Nat.le_of_ble_eq_true rfl) dX3_readReach_32 (fun z_9 H locs hq hS => ?_)
    obtain ⟨g_10, hg_10, f_11, hH⟩ := hq
    have hH : TH E (tbC dA dB rA (riverD (.inl (a, a)) (.inl (b, b)) (.inl (c, c))) rc (rdD (.inl (g_10, g_10)) (.inl (n, n)) (.inr [27]))) H := hH
    refine z_eq (tgt := 43) F dX3_readReach_35 (by decide) (fun c_12 => ?_) (fun c_12 => ?_)
    · skip
      have r_13 : 0 ≤ z_9.toInt ∧ z_9.toInt ≤ 0 := by have h9_ := f_11; omega
      refine lv_aload_n F.1 F.2.1 dX3_readReach_43 rfl (lv_at hl 1 rfl) ?_
      refine tVi (b := a0) (As := []) (rest := [.int z_2, .ref q_8]) F hK hN hO (c_X3_readReachNumber_2 E dA dB rA rc a b c n g_10 a0 ha0 (by omega) (by omega) (by omega) (by omega) (by omega)) mv_X3_readReachNumber wd_12_15 ⟨Nat.le_of_ble_eq_true rfl, Nat.le_of_ble_eq_true rfl⟩ ⟨Nat.le_of_ble_eq_true rfl, Nat.le_of_ble_eq_true rfl⟩ hH hS (tRecv hK hH (tyb ha0 (all1 rfl)) clX3) rfl hl.1 (Nat.le_of_ble_eq_true rfl) dX3_readReach_44 (fun z_15 H locs hq hS => ?_)
      obtain ⟨g_16, hg_16, f_17, hH⟩ := hq
      have hH : TH E (tbC dA dB rA (riverD (.inl (a, a)) (.inl (b, b)) (.inl (c, c))) rc (rdD (.inl (g_16, g_16)) (.inl (n, n)) (.inr [27]))) H := hH
      refine tIastB F hK hH hS (tyb hq_8 (all1 rfl)) (ixb (n := 12) r_5 rfl rfl) (wkb f_17 rfl rfl) dX3_readReach_47 (fun H locs hH hS => ?_)
      refine lv_iconst (v := 0) F.1 F.2.1 dX3_readReach_48 (by decide) ?_
      refine topK (a := 0) (by decide) (fun k_18 hk_18 => ?_)
      refine lv_istore_n (lv' := [(3, .int k_18), (2, .int z_2), (0, .ref a0), (1, .int a1)]) F.1 F.2.1 dX3_readReach_49 rfl hl (by decide) rfl (fun ls hl => ?_)
      refine wloop (σ := Int32 × Int) (fun n9 x9 H locs ls => (4 - x9.1.toInt + 1).toNat < n9 ∧ (0 ≤ x9.1.toInt ∧ x9.1.toInt ≤ 4) ∧ (0 ≤ x9.2 ∧ x9.2 ≤ 400) ∧ TH E (tbC dA dB rA (riverD (.inl (a, a)) (.inl (b, b)) (.inl (c, c))) rc (rdD (.inl (x9.2, x9.2)) (.inl (n, n)) (.inr [27]))) H ∧ va_S (eA E s.heap.size) s.heap H locs ∧ lv_has ls 4 [(0, .ref a0), (2, .int z_2), (3, .int x9.1)]) ?_ (fun x9 H locs ls h => absurd h.1 (Nat.not_lt_zero _)) _ (k_18, g_16) ⟨Nat.lt_succ_self _, (wkb (eqb hk_18) rfl rfl), (show 0 ≤ g_16 ∧ g_16 ≤ 400 from by omega), hH, hS, lv_sub hl [2, 1, 0] rfl⟩
      intro n_50 ih_50 ⟨u_19, g_20⟩ H locs ls ⟨hm_50, hu_19, hg_20, hH, hS, hl⟩
      have hm_50 : (4 - u_19.toInt + 1).toNat < n_50 + 1 := hm_50
      have hu_19 : (0 ≤ u_19.toInt ∧ u_19.toInt ≤ 4) := hu_19
      have hg_20 : (0 ≤ g_20 ∧ g_20 ≤ 400) := hg_20
      have hH : TH E (tbC dA dB rA (riverD (.inl (a, a)) (.inl (b, b)) (.inl (c, c))) rc (rdD (.inl (g_20, g_20)) (.inl (n, n)) (.inr [27]))) H := hH
      have hl : lv_has ls 4 [(0, .ref a0), (2, .int z_2), (3, .int u_19)] := hl
      refine lv_iload_n F.1 F.2.1 dX3_readReach_50 rfl (lv_at hl 2 rfl) ?_
      refine lv_iconst (v := 4) F.1 F.2.1 dX3_readReach_51 (by decide) ?_
      refine topK (a := 4) (by decide) (fun k_21 hk_21 => ?_)
      refine b_ge (tgt := 82) F dX3_readReach_52 (by decide) (fun c_22 => ?_) (fun c_22 => ?_)
      · skip
        have r_23 : 4 ≤ u_19.toInt ∧ u_19.toInt ≤ 4 := by have h9_ := hu_19; omega
        refine lv_aload_n F.1 F.2.1 dX3_readReach_82 rfl (lv_at hl 0 rfl) ?_
        refine tGetR (j := 5) F hK hH (tyb ha0 (all1 rfl)) rfl (all1 rfl) clX3 (by decide) wd_5_18 dX3_readReach_83 (fun q_25 hq_25 _ => ?_)
        refine tGetR (j := 2) F hK hH (tyb hq_25 (all1 rfl)) rfl (all1 rfl) clX2 (by decide) wd_12_10 dX3_readReach_86 (fun q_26 hq_26 _ => ?_)
        refine lv_iload_n F.1 F.2.1 dX3_readReach_89 rfl (lv_at hl 1 rfl) ?_
        refine lv_aload_n F.1 F.2.1 dX3_readReach_90 rfl (lv_at hl 0 rfl) ?_
        refine va_ldcS F.1 F.2.1 F.2.2.2.2.1 (hO.1 2 _ rfl).1 dX3_readReach_91 ?_
        refine tVi (b := a0) (As := [.ref (eX E 2)]) (rest := [.int z_2, .ref q_26]) F hK hN hO (c_X3_isNext E dA dB rA (riverD (.inl (a, a)) (.inl (b, b)) (.inl (c, c))) rc (.inr [27]) n g_20 a0 2 4 ha0 (strAt 2 rfl) (by omega) (by omega)) mv_X3_isNext wd_9_22 ⟨Nat.le_of_ble_eq_true rfl, Nat.le_of_ble_eq_true rfl⟩ ⟨Nat.le_of_ble_eq_true rfl, Nat.le_of_ble_eq_true rfl⟩ hH hS (tRecv hK hH (tyb ha0 (all1 rfl)) clX3) rfl hl.1 (Nat.le_of_ble_eq_true rfl) dX3_readReach_93 (fun z_27 H locs hq hS => ?_)
        obtain ⟨g_28, hg_28, f_29, hH⟩ := hq
        have hH : TH E (tbC dA dB rA (riverD (.inl (a, a)) (.inl (b, b)) (.inl (c, c))) rc (rdD (.inl (g_28, g_28)) (.inl (n, n)) (.inr [27]))) H := hH
        refine wjoin (σ := Int32 × Int) (pcj := 111) (stj := fun x9 => [.int x9.1, .int z_2, .ref q_26]) (fun x9 H locs ls => (0 ≤ x9.1.toInt ∧ x9.1.toInt ≤ 9999) ∧ (0 ≤ x9.2 ∧ x9.2 ≤ 400) ∧ TH E (tbC dA dB rA (riverD (.inl (a, a)) (.inl (b, b)) (.inl (c, c))) rc (rdD (.inl (x9.2, x9.2)) (.inl (n, n)) (.inr [27]))) H ∧ va_S (eA E s.heap.size) s.heap H locs ∧ lv_has ls 4 [(0, .ref a0)]) (fun x9 H locs ls h_ => ?_) (fun J_111 => ?_)
        · skip
          obtain ⟨u_30, g_31⟩ := x9
          obtain ⟨hu_30, hg_31, hH, hS, hl⟩ := h_
          have hu_30 : (0 ≤ u_30.toInt ∧ u_30.toInt ≤ 9999) := hu_30
          have hg_31 : (0 ≤ g_31 ∧ g_31 ≤ 400) := hg_31
          have hH : TH E (tbC dA dB rA (riverD (.inl (a, a)) (.inl (b, b)) (.inl (c, c))) rc (rdD (.inl (g_31, g_31)) (.inl (n, n)) (.inr [27]))) H := hH
          have hl : lv_has ls 4 [(0, .ref a0)] := hl
          show W _ _ _ _ _ _ _ _ _ _ _ _ _ _ _ (F0 _ _ _ [.int u_30, .int z_2, .ref q_26])
          refine tIastB F hK hH hS (tyb hq_26 (all1 rfl)) (ixb (n := 12) r_5 rfl rfl) (wkb hu_30 rfl rfl) dX3_readReach_111 (fun H locs hH hS => ?_)
          refine lv_aload_n F.1 F.2.1 dX3_readReach_112 rfl (lv_at hl 0 rfl) ?_
          refine tGetR (j := 5) F hK hH (tyb ha0 (all1 rfl)) rfl (all1 rfl) clX3 (by decide) wd_5_18 dX3_readReach_113 (fun q_32 hq_32 _ => ?_)
          refine lv_dup F.1 F.2.1 dX3_readReach_116 rfl ?_
          refine tGetI (j := 0) F hK hH (tyb hq_32 (all1 rfl)) rfl clX2 (by decide) wd_12_7 dX3_readReach_117 (fun z_33 hz_33 => ?_)
          have ez_33 : 0 ≤ z_33.toInt ∧ z_33.toInt ≤ 11 := by omega
          refine lv_iconst (v := 1) F.1 F.2.1 dX3_readReach_120 (by decide) ?_
          refine topK (a := 1) (by decide) (fun k_34 hk_34 => ?_)
          refine tAdd (lo := 1) (hi := 12) F dX3_readReach_121 ez_33 (eqb hk_34) rfl (fun z_35 hz_35 => ?_)
          obtain ⟨g_36, hg_36⟩ : ∃ y : Int, z_35.toInt = y := ⟨_, rfl⟩
          have bg_36 : 1 ≤ g_36 ∧ g_36 ≤ 12 := by rw [← hg_36]; exact hz_35.2
          refine tPutG (j := 0) (t := 27) (fd := (.inl (g_36, g_36))) F hK hH hS (List.mem_singleton.mp hq_32) (by decide) rfl rfl (fdI (by omega)) (TB1 := (tbC dA dB rA (riverD (.inl (g_36, g_36)) (.inl (b, b)) (.inl (c, c))) rc (rdD (.inl (g_31, g_31)) (.inl (n, n)) (.inr [27])))) rfl clX2 (by decide) wd_12_7 rfl rfl rfl rfl dX3_readReach_122 (fun H locs hH hS => ?_)
          exact txV F hS dX3_readReach_125 (⟨g_31, (by omega), g_36, (by omega), hH⟩)
        refine z_eq (tgt := 110) F dX3_readReach_96 (by decide) (fun c_37 => ?_) (fun c_37 => ?_)
        · skip
          have r_38 : 0 ≤ z_27.toInt ∧ z_27.toInt ≤ 0 := by have h9_ := f_29; omega
          refine lv_iconst (v := 0) F.1 F.2.1 dX3_readReach_110 (by decide) ?_
          refine topK (a := 0) (by decide) (fun k_40 hk_40 => ?_)
          exact J_111 (k_40, g_28) _ _ _ ⟨(wkb (eqb hk_40) rfl rfl), (show 0 ≤ g_28 ∧ g_28 ≤ 400 from by omega), hH, hS, lv_sub hl [0] rfl⟩
        · skip
          have r_39 : 1 ≤ z_27.toInt ∧ z_27.toInt ≤ 1 := by have h9_ := f_29; omega
          refine lv_aload_n F.1 F.2.1 dX3_readReach_99 rfl (lv_at hl 0 rfl) ?_
          refine lv_iconst (v := 0) F.1 F.2.1 dX3_readReach_100 (by decide) ?_
          refine topK (a := 0) (by decide) (fun k_41 hk_41 => ?_)
          refine lv_sipush (v := 9999) F.1 F.2.1 dX3_readReach_101 (by decide) ?_
          refine topK (a := 9999) (by decide) (fun k_42 hk_42 => ?_)
          refine tVi (b := a0) (As := [.int k_41, .int k_42]) (rest := [.int z_2, .ref q_26]) F hK hN hO (c_X3_readNumber E dA dB rA (riverD (.inl (a, a)) (.inl (b, b)) (.inl (c, c))) rc (.inr [27]) n g_28 a0 k_41 k_42 ha0 (by omega) (by omega)) mv_X3_readNumber wd_12_19 ⟨Nat.le_of_ble_eq_true rfl, Nat.le_of_ble_eq_true rfl⟩ ⟨Nat.le_of_ble_eq_true rfl, Nat.le_of_ble_eq_true rfl⟩ hH hS (tRecv hK hH (tyb ha0 (all1 rfl)) clX3) rfl hl.1 (Nat.le_of_ble_eq_true rfl) dX3_readReach_104 (fun z_43 H locs hq hS => ?_)
          obtain ⟨g_44, hg_44, f_45, f_46, f_47, hH⟩ := hq
          have hH : TH E (tbC dA dB rA (riverD (.inl (a, a)) (.inl (b, b)) (.inl (c, c))) rc (rdD (.inl (g_44, g_44)) (.inl (n, n)) (.inr [27]))) H := hH
          have ez_43 : 0 ≤ z_43.toInt ∧ z_43.toInt ≤ 9999 := by omega
          refine lv_goto (tgt := 111) F.1 F.2.1 dX3_readReach_107 (by decide) ?_
          exact J_111 (z_43, g_44) _ _ _ ⟨ez_43, (show 0 ≤ g_44 ∧ g_44 ≤ 400 from by omega), hH, hS, lv_sub hl [0] rfl⟩
      · skip
        have r_24 : 0 ≤ u_19.toInt ∧ u_19.toInt ≤ 3 := by have h9_ := hu_19; omega
        refine lv_aload_n F.1 F.2.1 dX3_readReach_55 rfl (lv_at hl 0 rfl) ?_
        refine tGetR (j := 5) F hK hH (tyb ha0 (all1 rfl)) rfl (all1 rfl) clX3 (by decide) wd_5_18 dX3_readReach_56 (fun q_48 hq_48 _ => ?_)
        refine tGetR (j := 3) F hK hH (tyb hq_48 (all1 rfl)) rfl (all1 rfl) clX2 (by decide) wd_12_9 dX3_readReach_59 (fun q_49 hq_49 _ => ?_)
        refine lv_iload_n F.1 F.2.1 dX3_readReach_62 rfl (lv_at hl 1 rfl) ?_
        refine lv_iconst (v := 4) F.1 F.2.1 dX3_readReach_63 (by decide) ?_
        refine topK (a := 4) (by decide) (fun k_50 hk_50 => ?_)
        refine tMul (lo := 0) (hi := 44) F dX3_readReach_64 r_5 (eqb hk_50) rfl (fun z_51 hz_51 => ?_)
        have mz_51 : z_51.toInt = z_2.toInt * 4 := by rw [hz_51.1, hk_50]
        refine lv_iload_n F.1 F.2.1 dX3_readReach_65 rfl (lv_at hl 2 rfl) ?_
        refine tAdd (lo := 0) (hi := 47) F dX3_readReach_66 hz_51.2 r_24 rfl (fun z_52 hz_52 => ?_)
        refine lv_aload_n F.1 F.2.1 dX3_readReach_67 rfl (lv_at hl 0 rfl) ?_
        refine lv_iconst (v := 0) F.1 F.2.1 dX3_readReach_68 (by decide) ?_
        refine topK (a := 0) (by decide) (fun k_53 hk_53 => ?_)
        refine lv_sipush (v := 9999) F.1 F.2.1 dX3_readReach_69 (by decide) ?_
        refine topK (a := 9999) (by decide) (fun k_54 hk_54 => ?_)
        refine tVi (b := a0) (As := [.int k_53, .int k_54]) (rest := [.int z_52, .ref q_49]) F hK hN hO (c_X3_readNumber E dA dB rA (riverD (.inl (a, a)) (.inl (b, b)) (.inl (c, c))) rc (.inr [27]) n g_20 a0 k_53 k_54 ha0 (by omega) (by omega)) mv_X3_readNumber wd_12_19 ⟨Nat.le_of_ble_eq_true rfl, Nat.le_of_ble_eq_true rfl⟩ ⟨Nat.le_of_ble_eq_true rfl, Nat.le_of_ble_eq_true rfl⟩ hH hS (tRecv hK hH (tyb ha0 (all1 rfl)) clX3) rfl hl.1 (Nat.le_of_ble_eq_true rfl) dX3_readReach_72 (fun z_55 H locs hq hS => ?_)
        obtain ⟨g_56, hg_56, f_57, f_58, f_59, hH⟩ := hq
        have hH : TH E (tbC dA dB rA (riverD (.inl (a, a)) (.inl (b, b)) (.inl (c, c))) rc (rdD (.inl (g_56, g_56)) (.inl (n, n)) (.inr [27]))) H := hH
        have ez_55 : 0 ≤ z_55.toInt ∧ z_55.toInt ≤ 9999 := by omega
        refine tIastB F hK hH hS (tyb hq_49 (all1 rfl)) (ixb (n := 48) hz_52.2 rfl rfl) (wkb ez_55 rfl rfl) dX3_readReach_75 (fun H locs hH hS => ?_)
        obtain ⟨x_60, ex_60, hx_60⟩ := iincB (c := 1) (lo := 1) (hi := 4) r_24 rfl
        refine lv_iinc (v := x_60) (lv' := [(3, .int x_60), (0, .ref a0), (2, .int z_2)]) F.1 F.2.1 dX3_readReach_76 hl (k := 2) rfl ex_60 (by decide) rfl (fun ls hl => ?_)
        refine lv_goto (tgt := 50) F.1 F.2.1 dX3_readReach_79 (by decide) ?_
        exact ih_50 (x_60, g_56) _ _ _ ⟨(show (4 - x_60.toInt + 1).toNat < n_50 from by omega), (wkb hx_60.2 rfl rfl), (show 0 ≤ g_56 ∧ g_56 ≤ 400 from by omega), hH, hS, lv_sub hl [1, 2, 0] rfl⟩
    · skip
      have r_14 : 1 ≤ z_9.toInt ∧ z_9.toInt ≤ 1 := by have h9_ := f_11; omega
      refine lv_bipush (v := (-2)) F.1 F.2.1 dX3_readReach_38 (by decide) ?_
      refine topK (a := (-2)) (by decide) (fun k_61 hk_61 => ?_)
      refine lv_goto (tgt := 47) F.1 F.2.1 dX3_readReach_40 (by decide) ?_
      refine tIastB F hK hH hS (tyb hq_8 (all1 rfl)) (ixb (n := 12) r_5 rfl rfl) (wkb (eqb hk_61) rfl rfl) dX3_readReach_47 (fun H locs hH hS => ?_)
      refine lv_iconst (v := 0) F.1 F.2.1 dX3_readReach_48 (by decide) ?_
      refine topK (a := 0) (by decide) (fun k_62 hk_62 => ?_)
      refine lv_istore_n (lv' := [(3, .int k_62), (2, .int z_2), (0, .ref a0), (1, .int a1)]) F.1 F.2.1 dX3_readReach_49 rfl hl (by decide) rfl (fun ls hl => ?_)
      refine wloop (σ := Int32 × Int) (fun n9 x9 H locs ls => (4 - x9.1.toInt + 1).toNat < n9 ∧ (0 ≤ x9.1.toInt ∧ x9.1.toInt ≤ 4) ∧ (0 ≤ x9.2 ∧ x9.2 ≤ 400) ∧ TH E (tbC dA dB rA (riverD (.inl (a, a)) (.inl (b, b)) (.inl (c, c))) rc (rdD (.inl (x9.2, x9.2)) (.inl (n, n)) (.inr [27]))) H ∧ va_S (eA E s.heap.size) s.heap H locs ∧ lv_has ls 4 [(0, .ref a0), (2, .int z_2), (3, .int x9.1)]) ?_ (fun x9 H locs ls h => absurd h.1 (Nat.not_lt_zero _)) _ (k_62, g_10) ⟨Nat.lt_succ_self _, (wkb (eqb hk_62) rfl rfl), (show 0 ≤ g_10 ∧ g_10 ≤ 400 from by omega), hH, hS, lv_sub hl [2, 1, 0] rfl⟩
      intro n_50 ih_50 ⟨u_63, g_64⟩ H locs ls ⟨hm_50, hu_63, hg_64, hH, hS, hl⟩
      have hm_50 : (4 - u_63.toInt + 1).toNat < n_50 + 1 := hm_50
      have hu_63 : (0 ≤ u_63.toInt ∧ u_63.toInt ≤ 4) := hu_63
      have hg_64 : (0 ≤ g_64 ∧ g_64 ≤ 400) := hg_64
      have hH : TH E (tbC dA dB rA (riverD (.inl (a, a)) (.inl (b, b)) (.inl (c, c))) rc (rdD (.inl (g_64, g_64)) (.inl (n, n)) (.inr [27]))) H := hH
      have hl : lv_has ls 4 [(0, .ref a0), (2, .int z_2), (3, .int u_63)] := hl
      refine lv_iload_n F.1 F.2.1 dX3_readReach_50 rfl (lv_at hl 2 rfl) ?_
      refine lv_iconst (v := 4) F.1 F.2.1 dX3_readReach_51 (by decide) ?_
      refine topK (a := 4) (by decide) (fun k_65 hk_65 => ?_)
      refine b_ge (tgt := 82) F dX3_readReach_52 (by decide) (fun c_66 => ?_) (fun c_66 => ?_)
      · skip
        have r_67 : 4 ≤ u_63.toInt ∧ u_63.toInt ≤ 4 := by have h9_ := hu_63; omega
        refine lv_aload_n F.1 F.2.1 dX3_readReach_82 rfl (lv_at hl 0 rfl) ?_
        refine tGetR (j := 5) F hK hH (tyb ha0 (all1 rfl)) rfl (all1 rfl) clX3 (by decide) wd_5_18 dX3_readReach_83 (fun q_69 hq_69 _ => ?_)
        refine tGetR (j := 2) F hK hH (tyb hq_69 (all1 rfl)) rfl (all1 rfl) clX2 (by decide) wd_12_10 dX3_readReach_86 (fun q_70 hq_70 _ => ?_)
        refine lv_iload_n F.1 F.2.1 dX3_readReach_89 rfl (lv_at hl 1 rfl) ?_
        refine lv_aload_n F.1 F.2.1 dX3_readReach_90 rfl (lv_at hl 0 rfl) ?_
        refine va_ldcS F.1 F.2.1 F.2.2.2.2.1 (hO.1 2 _ rfl).1 dX3_readReach_91 ?_
        refine tVi (b := a0) (As := [.ref (eX E 2)]) (rest := [.int z_2, .ref q_70]) F hK hN hO (c_X3_isNext E dA dB rA (riverD (.inl (a, a)) (.inl (b, b)) (.inl (c, c))) rc (.inr [27]) n g_64 a0 2 4 ha0 (strAt 2 rfl) (by omega) (by omega)) mv_X3_isNext wd_9_22 ⟨Nat.le_of_ble_eq_true rfl, Nat.le_of_ble_eq_true rfl⟩ ⟨Nat.le_of_ble_eq_true rfl, Nat.le_of_ble_eq_true rfl⟩ hH hS (tRecv hK hH (tyb ha0 (all1 rfl)) clX3) rfl hl.1 (Nat.le_of_ble_eq_true rfl) dX3_readReach_93 (fun z_71 H locs hq hS => ?_)
        obtain ⟨g_72, hg_72, f_73, hH⟩ := hq
        have hH : TH E (tbC dA dB rA (riverD (.inl (a, a)) (.inl (b, b)) (.inl (c, c))) rc (rdD (.inl (g_72, g_72)) (.inl (n, n)) (.inr [27]))) H := hH
        refine wjoin (σ := Int32 × Int) (pcj := 111) (stj := fun x9 => [.int x9.1, .int z_2, .ref q_70]) (fun x9 H locs ls => (0 ≤ x9.1.toInt ∧ x9.1.toInt ≤ 9999) ∧ (0 ≤ x9.2 ∧ x9.2 ≤ 400) ∧ TH E (tbC dA dB rA (riverD (.inl (a, a)) (.inl (b, b)) (.inl (c, c))) rc (rdD (.inl (x9.2, x9.2)) (.inl (n, n)) (.inr [27]))) H ∧ va_S (eA E s.heap.size) s.heap H locs ∧ lv_has ls 4 [(0, .ref a0)]) (fun x9 H locs ls h_ => ?_) (fun J_111 => ?_)
        · skip
          obtain ⟨u_74, g_75⟩ := x9
          obtain ⟨hu_74, hg_75, hH, hS, hl⟩ := h_
          have hu_74 : (0 ≤ u_74.toInt ∧ u_74.toInt ≤ 9999) := hu_74
          have hg_75 : (0 ≤ g_75 ∧ g_75 ≤ 400) := hg_75
          have hH : TH E (tbC dA dB rA (riverD (.inl (a, a)) (.inl (b, b)) (.inl (c, c))) rc (rdD (.inl (g_75, g_75)) (.inl (n, n)) (.inr [27]))) H := hH
          have hl : lv_has ls 4 [(0, .ref a0)] := hl
          show W _ _ _ _ _ _ _ _ _ _ _ _ _ _ _ (F0 _ _ _ [.int u_74, .int z_2, .ref q_70])
          refine tIastB F hK hH hS (tyb hq_70 (all1 rfl)) (ixb (n := 12) r_5 rfl rfl) (wkb hu_74 rfl rfl) dX3_readReach_111 (fun H locs hH hS => ?_)
          refine lv_aload_n F.1 F.2.1 dX3_readReach_112 rfl (lv_at hl 0 rfl) ?_
          refine tGetR (j := 5) F hK hH (tyb ha0 (all1 rfl)) rfl (all1 rfl) clX3 (by decide) wd_5_18 dX3_readReach_113 (fun q_76 hq_76 _ => ?_)
          refine lv_dup F.1 F.2.1 dX3_readReach_116 rfl ?_
          refine tGetI (j := 0) F hK hH (tyb hq_76 (all1 rfl)) rfl clX2 (by decide) wd_12_7 dX3_readReach_117 (fun z_77 hz_77 => ?_)
          have ez_77 : 0 ≤ z_77.toInt ∧ z_77.toInt ≤ 11 := by omega
          refine lv_iconst (v := 1) F.1 F.2.1 dX3_readReach_120 (by decide) ?_
          refine topK (a := 1) (by decide) (fun k_78 hk_78 => ?_)
          refine tAdd (lo := 1) (hi := 12) F dX3_readReach_121 ez_77 (eqb hk_78) rfl (fun z_79 hz_79 => ?_)
          obtain ⟨g_80, hg_80⟩ : ∃ y : Int, z_79.toInt = y := ⟨_, rfl⟩
          have bg_80 : 1 ≤ g_80 ∧ g_80 ≤ 12 := by rw [← hg_80]; exact hz_79.2
          refine tPutG (j := 0) (t := 27) (fd := (.inl (g_80, g_80))) F hK hH hS (List.mem_singleton.mp hq_76) (by decide) rfl rfl (fdI (by omega)) (TB1 := (tbC dA dB rA (riverD (.inl (g_80, g_80)) (.inl (b, b)) (.inl (c, c))) rc (rdD (.inl (g_75, g_75)) (.inl (n, n)) (.inr [27])))) rfl clX2 (by decide) wd_12_7 rfl rfl rfl rfl dX3_readReach_122 (fun H locs hH hS => ?_)
          exact txV F hS dX3_readReach_125 (⟨g_75, (by omega), g_80, (by omega), hH⟩)
        refine z_eq (tgt := 110) F dX3_readReach_96 (by decide) (fun c_81 => ?_) (fun c_81 => ?_)
        · skip
          have r_82 : 0 ≤ z_71.toInt ∧ z_71.toInt ≤ 0 := by have h9_ := f_73; omega
          refine lv_iconst (v := 0) F.1 F.2.1 dX3_readReach_110 (by decide) ?_
          refine topK (a := 0) (by decide) (fun k_84 hk_84 => ?_)
          exact J_111 (k_84, g_72) _ _ _ ⟨(wkb (eqb hk_84) rfl rfl), (show 0 ≤ g_72 ∧ g_72 ≤ 400 from by omega), hH, hS, lv_sub hl [0] rfl⟩
        · skip
          have r_83 : 1 ≤ z_71.toInt ∧ z_71.toInt ≤ 1 := by have h9_ := f_73; omega
          refine lv_aload_n F.1 F.2.1 dX3_readReach_99 rfl (lv_at hl 0 rfl) ?_
          refine lv_iconst (v := 0) F.1 F.2.1 dX3_readReach_100 (by decide) ?_
          refine topK (a := 0) (by decide) (fun k_85 hk_85 => ?_)
          refine lv_sipush (v := 9999) F.1 F.2.1 dX3_readReach_101 (by decide) ?_
          refine topK (a := 9999) (by decide) (fun k_86 hk_86 => ?_)
          refine tVi (b := a0) (As := [.int k_85, .int k_86]) (rest := [.int z_2, .ref q_70]) F hK hN hO (c_X3_readNumber E dA dB rA (riverD (.inl (a, a)) (.inl (b, b)) (.inl (c, c))) rc (.inr [27]) n g_72 a0 k_85 k_86 ha0 (by omega) (by omega)) mv_X3_readNumber wd_12_19 ⟨Nat.le_of_ble_eq_true rfl, Nat.le_of_ble_eq_true rfl⟩ ⟨Nat.le_of_ble_eq_true rfl, Nat.le_of_ble_eq_true rfl⟩ hH hS (tRecv hK hH (tyb ha0 (all1 rfl)) clX3) rfl hl.1 (Nat.le_of_ble_eq_true rfl) dX3_readReach_104 (fun z_87 H locs hq hS => ?_)
          obtain ⟨g_88, hg_88, f_89, f_90, f_91, hH⟩ := hq
          have hH : TH E (tbC dA dB rA (riverD (.inl (a, a)) (.inl (b, b)) (.inl (c, c))) rc (rdD (.inl (g_88, g_88)) (.inl (n, n)) (.inr [27]))) H := hH
          have ez_87 : 0 ≤ z_87.toInt ∧ z_87.toInt ≤ 9999 := by omega
          refine lv_goto (tgt := 111) F.1 F.2.1 dX3_readReach_107 (by decide) ?_
          exact J_111 (z_87, g_88) _ _ _ ⟨ez_87, (show 0 ≤ g_88 ∧ g_88 ≤ 400 from by omega), hH, hS, lv_sub hl [0] rfl⟩
      · skip
        have r_68 : 0 ≤ u_63.toInt ∧ u_63.toInt ≤ 3 := by have h9_ := hu_63; omega
        refine lv_aload_n F.1 F.2.1 dX3_readReach_55 rfl (lv_at hl 0 rfl) ?_
        refine tGetR (j := 5) F hK hH (tyb ha0 (all1 rfl)) rfl (all1 rfl) clX3 (by decide) wd_5_18 dX3_readReach_56 (fun q_92 hq_92 _ => ?_)
        refine tGetR (j := 3) F hK hH (tyb hq_92 (all1 rfl)) rfl (all1 rfl) clX2 (by decide) wd_12_9 dX3_readReach_59 (fun q_93 hq_93 _ => ?_)
        refine lv_iload_n F.1 F.2.1 dX3_readReach_62 rfl (lv_at hl 1 rfl) ?_
        refine lv_iconst (v := 4) F.1 F.2.1 dX3_readReach_63 (by decide) ?_
        refine topK (a := 4) (by decide) (fun k_94 hk_94 => ?_)
        refine tMul (lo := 0) (hi := 44) F dX3_readReach_64 r_5 (eqb hk_94) rfl (fun z_95 hz_95 => ?_)
        have mz_95 : z_95.toInt = z_2.toInt * 4 := by rw [hz_95.1, hk_94]
        refine lv_iload_n F.1 F.2.1 dX3_readReach_65 rfl (lv_at hl 2 rfl) ?_
        refine tAdd (lo := 0) (hi := 47) F dX3_readReach_66 hz_95.2 r_68 rfl (fun z_96 hz_96 => ?_)
        refine lv_aload_n F.1 F.2.1 dX3_readReach_67 rfl (lv_at hl 0 rfl) ?_
        refine lv_iconst (v := 0) F.1 F.2.1 dX3_readReach_68 (by decide) ?_
        refine topK (a := 0) (by decide) (fun k_97 hk_97 => ?_)
        refine lv_sipush (v := 9999) F.1 F.2.1 dX3_readReach_69 (by decide) ?_
        refine topK (a := 9999) (by decide) (fun k_98 hk_98 => ?_)
        refine tVi (b := a0) (As := [.int k_97, .int k_98]) (rest := [.int z_96, .ref q_93]) F hK hN hO (c_X3_readNumber E dA dB rA (riverD (.inl (a, a)) (.inl (b, b)) (.inl (c, c))) rc (.inr [27]) n g_64 a0 k_97 k_98 ha0 (by omega) (by omega)) mv_X3_readNumber wd_12_19 ⟨Nat.le_of_ble_eq_true rfl, Nat.le_of_ble_eq_true rfl⟩ ⟨Nat.le_of_ble_eq_true rfl, Nat.le_of_ble_eq_true rfl⟩ hH hS (tRecv hK hH (tyb ha0 (all1 rfl)) clX3) rfl hl.1 (Nat.le_of_ble_eq_true rfl) dX3_readReach_72 (fun z_99 H locs hq hS => ?_)
        obtain ⟨g_100, hg_100, f_101, f_102, f_103, hH⟩ := hq
        have hH : TH E (tbC dA dB rA (riverD (.inl (a, a)) (.inl (b, b)) (.inl (c, c))) rc (rdD (.inl (g_100, g_100)) (.inl (n, n)) (.inr [27]))) H := hH
        have ez_99 : 0 ≤ z_99.toInt ∧ z_99.toInt ≤ 9999 := by omega
        refine tIastB F hK hH hS (tyb hq_93 (all1 rfl)) (ixb (n := 48) hz_96.2 rfl rfl) (wkb ez_99 rfl rfl) dX3_readReach_75 (fun H locs hH hS => ?_)
        obtain ⟨x_104, ex_104, hx_104⟩ := iincB (c := 1) (lo := 1) (hi := 4) r_68 rfl
        refine lv_iinc (v := x_104) (lv' := [(3, .int x_104), (0, .ref a0), (2, .int z_2)]) F.1 F.2.1 dX3_readReach_76 hl (k := 2) rfl ex_104 (by decide) rfl (fun ls hl => ?_)
        refine lv_goto (tgt := 50) F.1 F.2.1 dX3_readReach_79 (by decide) ?_
        exact ih_50 (x_104, g_100) _ _ _ ⟨(show (4 - x_104.toInt + 1).toNat < n_50 from by omega), (wkb hx_104.2 rfl rfl), (show 0 ≤ g_100 ∧ g_100 ≤ 400 from by omega), hH, hS, lv_sub hl [1, 2, 0] rfl⟩
  · skip
    have r_6 : 12 ≤ z_2.toInt ∧ z_2.toInt ≤ 12 := by have h9_ := ez_2; omega
    refine lv_aload_n F.1 F.2.1 dX3_readReach_14 rfl (lv_at hl 1 rfl) ?_
    refine lv_iload_n F.1 F.2.1 dX3_readReach_15 rfl (lv_at hl 2 rfl) ?_
    refine lv_iconst (v := 3) F.1 F.2.1 dX3_readReach_16 (by decide) ?_
    refine topK (a := 3) (by decide) (fun k_105 hk_105 => ?_)
    refine tVv (b := a0) (As := [.int a1, .int k_105]) (rest := []) F hK hN hO (c_X3_blame E dA dB rA (riverD (.inl (a, a)) (.inl (b, b)) (.inl (c, c))) rc ((.inl (n, n))) ((.inl (p, p))) (.inr [27]) a0 a1 k_105 ha0) mv_X3_blame wd_12_11 ⟨Nat.le_of_ble_eq_true rfl, Nat.le_of_ble_eq_true rfl⟩ ⟨Nat.le_of_ble_eq_true rfl, Nat.le_of_ble_eq_true rfl⟩ hH hS (tRecv hK hH (tyb ha0 (all1 rfl)) clX3) rfl hl.1 (Nat.le_of_ble_eq_true rfl) dX3_readReach_17 (fun H locs hq hS => ?_)
    have hH := hq
    have hH : TH E (tbC dA dB rA (riverD (.inl (a, a)) (.inl (b, b)) (.inl (c, c))) rc (rdD (.inl (p, p)) (.inl (n, n)) (.inr [27]))) H := hH
    exact txV F hS dX3_readReach_20 (⟨p, (by omega), a, (by omega), hH⟩)
set_option maxHeartbeats 4000000 in
set_option maxRecDepth 100000 in
theorem c_X3_readRight_1 (E : Ev) (dA : TD) (dB : TD) (rB : TD) (rc : TD) (a : Int) (b : Int) (c : Int) (n : Int) (p : Int) (a0 : Nat) (a1 : Int32) (ha0 : eT E a0 ∈ [29]) (ha : 0 ≤ a ∧ a ≤ 12) (hb : 0 ≤ b ∧ b ≤ 14) (hc : 0 ≤ c ∧ c ≤ 4) (hn : 0 ≤ n ∧ n ≤ 400) (hp : 0 ≤ p ∧ p ≤ 400) : TcV E yX3_readRight cX3_readRight 4 ({ frames := 7, cells := 0, slots := 0, locals := 226 }) [.ref a0, .int a1] (fun H => TH E (tbC dA dB (riverD (.inl (a, a)) (.inl (b, b)) (.inl (c, c))) rB rc (rdD (.inl (p, p)) (.inl (n, n)) (.inr [26]))) H) (fun H => ∃ p2 : Int, (0 ≤ p2 ∧ p2 ≤ 400) ∧ ∃ b2 : Int, (0 ≤ b2 ∧ b2 ≤ 14) ∧ TH E (tbC dA dB (riverD (.inl (a, a)) (.inl (b2, b2)) (.inl (c, c))) rB rc (rdD (.inl (p2, p2)) (.inl (n, n)) (.inr [26]))) H) := by
  refine teV (by decide) (Nat.le_of_ble_eq_true rfl) ?_
  intro p_ ev_ s mi_ below_ meth cd_ ls F hK hN hO hH hS hl
  have hH : TH E (tbC dA dB (riverD (.inl (a, a)) (.inl (b, b)) (.inl (c, c))) rB rc (rdD (.inl (p, p)) (.inl (n, n)) (.inr [26]))) s.heap := hH
  have hl : lv_has ls 4 [(0, .ref a0), (1, .int a1)] := hl
  refine lv_aload_n F.1 F.2.1 dX3_readRight_0 rfl (lv_at hl 0 rfl) ?_
  refine tGetR (j := 5) F hK hH (tyb ha0 (all1 rfl)) rfl (all1 rfl) clX3 (by decide) wd_5_18 dX3_readRight_1 (fun q_1 hq_1 _ => ?_)
  refine tGetI (j := 4) F hK hH (tyb hq_1 (all1 rfl)) rfl clX2 (by decide) wd_13_4 dX3_readRight_4 (fun z_2 hz_2 => ?_)
  have ez_2 : 0 ≤ z_2.toInt ∧ z_2.toInt ≤ 14 := by omega
  refine lv_istore_n (lv' := [(2, .int z_2), (0, .ref a0), (1, .int a1)]) F.1 F.2.1 dX3_readRight_7 rfl hl (by decide) rfl (fun ls hl => ?_)
  refine lv_iload_n F.1 F.2.1 dX3_readRight_8 rfl (lv_at hl 0 rfl) ?_
  refine lv_bipush (v := 14) F.1 F.2.1 dX3_readRight_9 (by decide) ?_
  refine topK (a := 14) (by decide) (fun k_3 hk_3 => ?_)
  refine b_lt (tgt := 21) F dX3_readRight_11 (by decide) (fun c_4 => ?_) (fun c_4 => ?_)
  · skip
    have r_5 : 0 ≤ z_2.toInt ∧ z_2.toInt ≤ 13 := by have h9_ := ez_2; omega
    refine lv_aload_n F.1 F.2.1 dX3_readRight_21 rfl (lv_at hl 1 rfl) ?_
    refine tGetR (j := 5) F hK hH (tyb ha0 (all1 rfl)) rfl (all1 rfl) clX3 (by decide) wd_5_18 dX3_readRight_22 (fun q_7 hq_7 _ => ?_)
    refine tGetR (j := 5) F hK hH (tyb hq_7 (all1 rfl)) rfl (all1 rfl) clX2 (by decide) wd_13_5 dX3_readRight_25 (fun q_8 hq_8 _ => ?_)
    refine lv_iload_n F.1 F.2.1 dX3_readRight_28 rfl (lv_at hl 0 rfl) ?_
    refine lv_aload_n F.1 F.2.1 dX3_readRight_29 rfl (lv_at hl 1 rfl) ?_
    refine tVi (b := a0) (As := []) (rest := [.int z_2, .ref q_8]) F hK hN hO (c_X3_readReachNumber_1 E dA dB rB rc a b c n p a0 ha0 (by omega) (by omega) (by omega) (by omega) (by omega)) mv_X3_readReachNumber wd_12_15 ⟨Nat.le_of_ble_eq_true rfl, Nat.le_of_ble_eq_true rfl⟩ ⟨Nat.le_of_ble_eq_true rfl, Nat.le_of_ble_eq_true rfl⟩ hH hS (tRecv hK hH (tyb ha0 (all1 rfl)) clX3) rfl hl.1 (Nat.le_of_ble_eq_true rfl) dX3_readRight_30 (fun z_9 H locs hq hS => ?_)
    obtain ⟨g_10, hg_10, f_11, hH⟩ := hq
    have hH : TH E (tbC dA dB (riverD (.inl (a, a)) (.inl (b, b)) (.inl (c, c))) rB rc (rdD (.inl (g_10, g_10)) (.inl (n, n)) (.inr [26]))) H := hH
    refine tIastB F hK hH hS (tyb hq_8 (all1 rfl)) (ixb (n := 14) r_5 rfl rfl) f_11 dX3_readRight_33 (fun H locs hH hS => ?_)
    refine lv_aload_n F.1 F.2.1 dX3_readRight_34 rfl (lv_at hl 1 rfl) ?_
    refine tGetR (j := 5) F hK hH (tyb ha0 (all1 rfl)) rfl (all1 rfl) clX3 (by decide) wd_5_18 dX3_readRight_35 (fun q_12 hq_12 _ => ?_)
    refine tGetR (j := 6) F hK hH (tyb hq_12 (all1 rfl)) rfl (all1 rfl) clX2 (by decide) wd_13_6 dX3_readRight_38 (fun q_13 hq_13 _ => ?_)
    refine lv_iload_n F.1 F.2.1 dX3_readRight_41 rfl (lv_at hl 0 rfl) ?_
    refine lv_aload_n F.1 F.2.1 dX3_readRight_42 rfl (lv_at hl 1 rfl) ?_
    refine lv_iconst (v := 1) F.1 F.2.1 dX3_readRight_43 (by decide) ?_
    refine topK (a := 1) (by decide) (fun k_14 hk_14 => ?_)
    refine lv_sipush (v := 9999) F.1 F.2.1 dX3_readRight_44 (by decide) ?_
    refine topK (a := 9999) (by decide) (fun k_15 hk_15 => ?_)
    refine tVi (b := a0) (As := [.int k_14, .int k_15]) (rest := [.int z_2, .ref q_13]) F hK hN hO (c_X3_readNumber E dA dB (riverD (.inl (a, a)) (.inl (b, b)) (.inl (c, c))) rB rc (.inr [26]) n g_10 a0 k_14 k_15 ha0 (by omega) (by omega)) mv_X3_readNumber wd_12_19 ⟨Nat.le_of_ble_eq_true rfl, Nat.le_of_ble_eq_true rfl⟩ ⟨Nat.le_of_ble_eq_true rfl, Nat.le_of_ble_eq_true rfl⟩ hH hS (tRecv hK hH (tyb ha0 (all1 rfl)) clX3) rfl hl.1 (Nat.le_of_ble_eq_true rfl) dX3_readRight_47 (fun z_16 H locs hq hS => ?_)
    obtain ⟨g_17, hg_17, f_18, f_19, f_20, hH⟩ := hq
    have hH : TH E (tbC dA dB (riverD (.inl (a, a)) (.inl (b, b)) (.inl (c, c))) rB rc (rdD (.inl (g_17, g_17)) (.inl (n, n)) (.inr [26]))) H := hH
    have ez_16 : 1 ≤ z_16.toInt ∧ z_16.toInt ≤ 9999 := by omega
    refine tIastB F hK hH hS (tyb hq_13 (all1 rfl)) (ixb (n := 14) r_5 rfl rfl) (wkb ez_16 rfl rfl) dX3_readRight_50 (fun H locs hH hS => ?_)
    refine lv_aload_n F.1 F.2.1 dX3_readRight_51 rfl (lv_at hl 1 rfl) ?_
    refine tGetR (j := 5) F hK hH (tyb ha0 (all1 rfl)) rfl (all1 rfl) clX3 (by decide) wd_5_18 dX3_readRight_52 (fun q_21 hq_21 _ => ?_)
    refine tGetR (j := 7) F hK hH (tyb hq_21 (all1 rfl)) rfl (all1 rfl) clX2 (by decide) wd_13_7 dX3_readRight_55 (fun q_22 hq_22 _ => ?_)
    refine lv_iload_n F.1 F.2.1 dX3_readRight_58 rfl (lv_at hl 0 rfl) ?_
    refine lv_aload_n F.1 F.2.1 dX3_readRight_59 rfl (lv_at hl 1 rfl) ?_
    refine lv_iconst (v := 0) F.1 F.2.1 dX3_readRight_60 (by decide) ?_
    refine topK (a := 0) (by decide) (fun k_23 hk_23 => ?_)
    refine lv_sipush (v := 359) F.1 F.2.1 dX3_readRight_61 (by decide) ?_
    refine topK (a := 359) (by decide) (fun k_24 hk_24 => ?_)
    refine tVi (b := a0) (As := [.int k_23, .int k_24]) (rest := [.int z_2, .ref q_22]) F hK hN hO (c_X3_readNumber E dA dB (riverD (.inl (a, a)) (.inl (b, b)) (.inl (c, c))) rB rc (.inr [26]) n g_17 a0 k_23 k_24 ha0 (by omega) (by omega)) mv_X3_readNumber wd_12_19 ⟨Nat.le_of_ble_eq_true rfl, Nat.le_of_ble_eq_true rfl⟩ ⟨Nat.le_of_ble_eq_true rfl, Nat.le_of_ble_eq_true rfl⟩ hH hS (tRecv hK hH (tyb ha0 (all1 rfl)) clX3) rfl hl.1 (Nat.le_of_ble_eq_true rfl) dX3_readRight_64 (fun z_25 H locs hq hS => ?_)
    obtain ⟨g_26, hg_26, f_27, f_28, f_29, hH⟩ := hq
    have hH : TH E (tbC dA dB (riverD (.inl (a, a)) (.inl (b, b)) (.inl (c, c))) rB rc (rdD (.inl (g_26, g_26)) (.inl (n, n)) (.inr [26]))) H := hH
    have ez_25 : 0 ≤ z_25.toInt ∧ z_25.toInt ≤ 359 := by omega
    refine tIastB F hK hH hS (tyb hq_22 (all1 rfl)) (ixb (n := 14) r_5 rfl rfl) (wkb ez_25 rfl rfl) dX3_readRight_67 (fun H locs hH hS => ?_)
    refine lv_aload_n F.1 F.2.1 dX3_readRight_68 rfl (lv_at hl 1 rfl) ?_
    refine tGetR (j := 5) F hK hH (tyb ha0 (all1 rfl)) rfl (all1 rfl) clX3 (by decide) wd_5_18 dX3_readRight_69 (fun q_30 hq_30 _ => ?_)
    refine tGetR (j := 8) F hK hH (tyb hq_30 (all1 rfl)) rfl (all1 rfl) clX2 (by decide) wd_13_8 dX3_readRight_72 (fun q_31 hq_31 _ => ?_)
    refine lv_iload_n F.1 F.2.1 dX3_readRight_75 rfl (lv_at hl 0 rfl) ?_
    refine lv_aload_n F.1 F.2.1 dX3_readRight_76 rfl (lv_at hl 1 rfl) ?_
    refine lv_aload_n F.1 F.2.1 dX3_readRight_77 rfl (lv_at hl 1 rfl) ?_
    refine tGetR (j := 5) F hK hH (tyb ha0 (all1 rfl)) rfl (all1 rfl) clX3 (by decide) wd_5_18 dX3_readRight_78 (fun q_32 hq_32 _ => ?_)
    refine tGetR (j := 7) F hK hH (tyb hq_32 (all1 rfl)) rfl (all1 rfl) clX2 (by decide) wd_13_7 dX3_readRight_81 (fun q_33 hq_33 _ => ?_)
    refine lv_iload_n F.1 F.2.1 dX3_readRight_84 rfl (lv_at hl 0 rfl) ?_
    refine tIaldB F hK hH (tyb hq_33 (all1 rfl)) (ixb (n := 14) r_5 rfl rfl) dX3_readRight_85 (fun z_34 hz_34 => ?_)
    refine lv_sipush (v := 359) F.1 F.2.1 dX3_readRight_86 (by decide) ?_
    refine topK (a := 359) (by decide) (fun k_35 hk_35 => ?_)
    refine tVi (b := a0) (As := [.int z_34, .int k_35]) (rest := [.int z_2, .ref q_31]) F hK hN hO (c_X3_readNumber E dA dB (riverD (.inl (a, a)) (.inl (b, b)) (.inl (c, c))) rB rc (.inr [26]) n g_26 a0 z_34 k_35 ha0 (by omega) (by omega)) mv_X3_readNumber wd_12_19 ⟨Nat.le_of_ble_eq_true rfl, Nat.le_of_ble_eq_true rfl⟩ ⟨Nat.le_of_ble_eq_true rfl, Nat.le_of_ble_eq_true rfl⟩ hH hS (tRecv hK hH (tyb ha0 (all1 rfl)) clX3) rfl hl.1 (Nat.le_of_ble_eq_true rfl) dX3_readRight_89 (fun z_36 H locs hq hS => ?_)
    obtain ⟨g_37, hg_37, f_38, f_39, f_40, hH⟩ := hq
    have hH : TH E (tbC dA dB (riverD (.inl (a, a)) (.inl (b, b)) (.inl (c, c))) rB rc (rdD (.inl (g_37, g_37)) (.inl (n, n)) (.inr [26]))) H := hH
    have ez_36 : (-2147483648) ≤ z_36.toInt ∧ z_36.toInt ≤ 2147483647 := by omega
    refine tIastB F hK hH hS (tyb hq_31 (all1 rfl)) (ixb (n := 14) r_5 rfl rfl) ez_36 dX3_readRight_92 (fun H locs hH hS => ?_)
    refine lv_aload_n F.1 F.2.1 dX3_readRight_93 rfl (lv_at hl 1 rfl) ?_
    refine tGetR (j := 5) F hK hH (tyb ha0 (all1 rfl)) rfl (all1 rfl) clX3 (by decide) wd_5_18 dX3_readRight_94 (fun q_41 hq_41 _ => ?_)
    refine tGetR (j := 9) F hK hH (tyb hq_41 (all1 rfl)) rfl (all1 rfl) clX2 (by decide) wd_13_9 dX3_readRight_97 (fun q_42 hq_42 _ => ?_)
    refine lv_iload_n F.1 F.2.1 dX3_readRight_100 rfl (lv_at hl 0 rfl) ?_
    refine lv_aload_n F.1 F.2.1 dX3_readRight_101 rfl (lv_at hl 1 rfl) ?_
    refine tVi (b := a0) (As := []) (rest := [.int z_2, .ref q_42]) F hK hN hO (c_X3_readAge_1 E dA dB rB rc a b c n g_37 a0 ha0 (by omega) (by omega) (by omega) (by omega) (by omega)) mv_X3_readAge wd_13_15 ⟨Nat.le_of_ble_eq_true rfl, Nat.le_of_ble_eq_true rfl⟩ ⟨Nat.le_of_ble_eq_true rfl, Nat.le_of_ble_eq_true rfl⟩ hH hS (tRecv hK hH (tyb ha0 (all1 rfl)) clX3) rfl hl.1 (Nat.le_of_ble_eq_true rfl) dX3_readRight_102 (fun z_43 H locs hq hS => ?_)
    obtain ⟨g_44, hg_44, f_45, hH⟩ := hq
    have hH : TH E (tbC dA dB (riverD (.inl (a, a)) (.inl (b, b)) (.inl (c, c))) rB rc (rdD (.inl (g_44, g_44)) (.inl (n, n)) (.inr [26]))) H := hH
    refine tIastB F hK hH hS (tyb hq_42 (all1 rfl)) (ixb (n := 14) r_5 rfl rfl) (wkb f_45 rfl rfl) dX3_readRight_105 (fun H locs hH hS => ?_)
    refine lv_aload_n F.1 F.2.1 dX3_readRight_106 rfl (lv_at hl 1 rfl) ?_
    refine tGetR (j := 5) F hK hH (tyb ha0 (all1 rfl)) rfl (all1 rfl) clX3 (by decide) wd_5_18 dX3_readRight_107 (fun q_46 hq_46 _ => ?_)
    refine tGetR (j := 10) F hK hH (tyb hq_46 (all1 rfl)) rfl (all1 rfl) clX2 (by decide) wd_13_10 dX3_readRight_110 (fun q_47 hq_47 _ => ?_)
    refine lv_iload_n F.1 F.2.1 dX3_readRight_113 rfl (lv_at hl 0 rfl) ?_
    refine lv_aload_n F.1 F.2.1 dX3_readRight_114 rfl (lv_at hl 1 rfl) ?_
    refine va_ldcS F.1 F.2.1 F.2.2.2.2.1 (hO.1 5 _ rfl).1 dX3_readRight_115 ?_
    refine tVi (b := a0) (As := [.ref (eX E 5)]) (rest := [.int z_2, .ref q_47]) F hK hN hO (c_X3_isNext E dA dB (riverD (.inl (a, a)) (.inl (b, b)) (.inl (c, c))) rB rc (.inr [26]) n g_44 a0 5 3 ha0 (strAt 5 rfl) (by omega) (by omega)) mv_X3_isNext wd_9_22 ⟨Nat.le_of_ble_eq_true rfl, Nat.le_of_ble_eq_true rfl⟩ ⟨Nat.le_of_ble_eq_true rfl, Nat.le_of_ble_eq_true rfl⟩ hH hS (tRecv hK hH (tyb ha0 (all1 rfl)) clX3) rfl hl.1 (Nat.le_of_ble_eq_true rfl) dX3_readRight_117 (fun z_48 H locs hq hS => ?_)
    obtain ⟨g_49, hg_49, f_50, hH⟩ := hq
    have hH : TH E (tbC dA dB (riverD (.inl (a, a)) (.inl (b, b)) (.inl (c, c))) rB rc (rdD (.inl (g_49, g_49)) (.inl (n, n)) (.inr [26]))) H := hH
    refine wjoin (σ := Int32 × Int) (pcj := 134) (stj := fun x9 => [.int x9.1, .int z_2, .ref q_47]) (fun x9 H locs ls => (0 ≤ x9.1.toInt ∧ x9.1.toInt ≤ 999999) ∧ (0 ≤ x9.2 ∧ x9.2 ≤ 400) ∧ TH E (tbC dA dB (riverD (.inl (a, a)) (.inl (b, b)) (.inl (c, c))) rB rc (rdD (.inl (x9.2, x9.2)) (.inl (n, n)) (.inr [26]))) H ∧ va_S (eA E s.heap.size) s.heap H locs ∧ lv_has ls 4 [(0, .ref a0), (2, .int z_2)]) (fun x9 H locs ls h_ => ?_) (fun J_134 => ?_)
    · skip
      obtain ⟨u_51, g_52⟩ := x9
      obtain ⟨hu_51, hg_52, hH, hS, hl⟩ := h_
      have hu_51 : (0 ≤ u_51.toInt ∧ u_51.toInt ≤ 999999) := hu_51
      have hg_52 : (0 ≤ g_52 ∧ g_52 ≤ 400) := hg_52
      have hH : TH E (tbC dA dB (riverD (.inl (a, a)) (.inl (b, b)) (.inl (c, c))) rB rc (rdD (.inl (g_52, g_52)) (.inl (n, n)) (.inr [26]))) H := hH
      have hl : lv_has ls 4 [(0, .ref a0), (2, .int z_2)] := hl
      show W _ _ _ _ _ _ _ _ _ _ _ _ _ _ _ (F0 _ _ _ [.int u_51, .int z_2, .ref q_47])
      refine tIastB F hK hH hS (tyb hq_47 (all1 rfl)) (ixb (n := 14) r_5 rfl rfl) (wkb hu_51 rfl rfl) dX3_readRight_134 (fun H locs hH hS => ?_)
      refine lv_aload_n F.1 F.2.1 dX3_readRight_135 rfl (lv_at hl 0 rfl) ?_
      refine va_ldcS F.1 F.2.1 F.2.2.2.2.1 (hO.1 6 _ rfl).1 dX3_readRight_136 ?_
      refine tVi (b := a0) (As := [.ref (eX E 6)]) (rest := []) F hK hN hO (c_X3_isNext E dA dB (riverD (.inl (a, a)) (.inl (b, b)) (.inl (c, c))) rB rc (.inr [26]) n g_52 a0 6 4 ha0 (strAt 6 rfl) (by omega) (by omega)) mv_X3_isNext wd_9_22 ⟨Nat.le_of_ble_eq_true rfl, Nat.le_of_ble_eq_true rfl⟩ ⟨Nat.le_of_ble_eq_true rfl, Nat.le_of_ble_eq_true rfl⟩ hH hS (tRecv hK hH (tyb ha0 (all1 rfl)) clX3) rfl hl.1 (Nat.le_of_ble_eq_true rfl) dX3_readRight_138 (fun z_53 H locs hq hS => ?_)
      obtain ⟨g_54, hg_54, f_55, hH⟩ := hq
      have hH : TH E (tbC dA dB (riverD (.inl (a, a)) (.inl (b, b)) (.inl (c, c))) rB rc (rdD (.inl (g_54, g_54)) (.inl (n, n)) (.inr [26]))) H := hH
      refine lv_istore_n (lv' := [(3, .int z_53), (0, .ref a0), (2, .int z_2)]) F.1 F.2.1 dX3_readRight_141 rfl hl (by decide) rfl (fun ls hl => ?_)
      refine lv_aload_n F.1 F.2.1 dX3_readRight_142 rfl (lv_at hl 1 rfl) ?_
      refine tGetR (j := 5) F hK hH (tyb ha0 (all1 rfl)) rfl (all1 rfl) clX3 (by decide) wd_5_18 dX3_readRight_143 (fun q_56 hq_56 _ => ?_)
      refine tGetR (j := 11) F hK hH (tyb hq_56 (all1 rfl)) rfl (all1 rfl) clX2 (by decide) wd_13_12 dX3_readRight_146 (fun q_57 hq_57 _ => ?_)
      refine lv_iload_n F.1 F.2.1 dX3_readRight_149 rfl (lv_at hl 2 rfl) ?_
      refine lv_iload_n F.1 F.2.1 dX3_readRight_150 rfl (lv_at hl 0 rfl) ?_
      refine wjoin (σ := Int32 × Int) (pcj := 163) (stj := fun x9 => [.int x9.1, .int z_2, .ref q_57]) (fun x9 H locs ls => ((-2) ≤ x9.1.toInt ∧ x9.1.toInt ≤ 11) ∧ (0 ≤ x9.2 ∧ x9.2 ≤ 400) ∧ TH E (tbC dA dB (riverD (.inl (a, a)) (.inl (b, b)) (.inl (c, c))) rB rc (rdD (.inl (x9.2, x9.2)) (.inl (n, n)) (.inr [26]))) H ∧ va_S (eA E s.heap.size) s.heap H locs ∧ lv_has ls 4 [(0, .ref a0), (2, .int z_2), (3, .int z_53)]) (fun x9 H locs ls h_ => ?_) (fun J_163 => ?_)
      · skip
        obtain ⟨u_58, g_59⟩ := x9
        obtain ⟨hu_58, hg_59, hH, hS, hl⟩ := h_
        have hu_58 : ((-2) ≤ u_58.toInt ∧ u_58.toInt ≤ 11) := hu_58
        have hg_59 : (0 ≤ g_59 ∧ g_59 ≤ 400) := hg_59
        have hH : TH E (tbC dA dB (riverD (.inl (a, a)) (.inl (b, b)) (.inl (c, c))) rB rc (rdD (.inl (g_59, g_59)) (.inl (n, n)) (.inr [26]))) H := hH
        have hl : lv_has ls 4 [(0, .ref a0), (2, .int z_2), (3, .int z_53)] := hl
        show W _ _ _ _ _ _ _ _ _ _ _ _ _ _ _ (F0 _ _ _ [.int u_58, .int z_2, .ref q_57])
        refine tIastB F hK hH hS (tyb hq_57 (all1 rfl)) (ixb (n := 14) r_5 rfl rfl) hu_58 dX3_readRight_163 (fun H locs hH hS => ?_)
        refine lv_aload_n F.1 F.2.1 dX3_readRight_164 rfl (lv_at hl 0 rfl) ?_
        refine tGetR (j := 5) F hK hH (tyb ha0 (all1 rfl)) rfl (all1 rfl) clX3 (by decide) wd_5_18 dX3_readRight_165 (fun q_60 hq_60 _ => ?_)
        refine tGetR (j := 12) F hK hH (tyb hq_60 (all1 rfl)) rfl (all1 rfl) clX2 (by decide) wd_13_13 dX3_readRight_168 (fun q_61 hq_61 _ => ?_)
        refine lv_iload_n F.1 F.2.1 dX3_readRight_171 rfl (lv_at hl 1 rfl) ?_
        refine lv_iload_n F.1 F.2.1 dX3_readRight_172 rfl (lv_at hl 2 rfl) ?_
        refine wjoin (σ := Int32 × Int) (pcj := 187) (stj := fun x9 => [.int x9.1, .int z_2, .ref q_61]) (fun x9 H locs ls => (0 ≤ x9.1.toInt ∧ x9.1.toInt ≤ 100) ∧ (0 ≤ x9.2 ∧ x9.2 ≤ 400) ∧ TH E (tbC dA dB (riverD (.inl (a, a)) (.inl (b, b)) (.inl (c, c))) rB rc (rdD (.inl (x9.2, x9.2)) (.inl (n, n)) (.inr [26]))) H ∧ va_S (eA E s.heap.size) s.heap H locs ∧ lv_has ls 4 [(0, .ref a0), (2, .int z_2), (3, .int z_53)]) (fun x9 H locs ls h_ => ?_) (fun J_187 => ?_)
        · skip
          obtain ⟨u_62, g_63⟩ := x9
          obtain ⟨hu_62, hg_63, hH, hS, hl⟩ := h_
          have hu_62 : (0 ≤ u_62.toInt ∧ u_62.toInt ≤ 100) := hu_62
          have hg_63 : (0 ≤ g_63 ∧ g_63 ≤ 400) := hg_63
          have hH : TH E (tbC dA dB (riverD (.inl (a, a)) (.inl (b, b)) (.inl (c, c))) rB rc (rdD (.inl (g_63, g_63)) (.inl (n, n)) (.inr [26]))) H := hH
          have hl : lv_has ls 4 [(0, .ref a0), (2, .int z_2), (3, .int z_53)] := hl
          show W _ _ _ _ _ _ _ _ _ _ _ _ _ _ _ (F0 _ _ _ [.int u_62, .int z_2, .ref q_61])
          refine tIastB F hK hH hS (tyb hq_61 (all1 rfl)) (ixb (n := 14) r_5 rfl rfl) (wkb hu_62 rfl rfl) dX3_readRight_187 (fun H locs hH hS => ?_)
          refine lv_aload_n F.1 F.2.1 dX3_readRight_188 rfl (lv_at hl 0 rfl) ?_
          refine tGetR (j := 5) F hK hH (tyb ha0 (all1 rfl)) rfl (all1 rfl) clX3 (by decide) wd_5_18 dX3_readRight_189 (fun q_64 hq_64 _ => ?_)
          refine tGetR (j := 13) F hK hH (tyb hq_64 (all1 rfl)) rfl (all1 rfl) clX2 (by decide) wd_13_14 dX3_readRight_192 (fun q_65 hq_65 _ => ?_)
          refine lv_iload_n F.1 F.2.1 dX3_readRight_195 rfl (lv_at hl 1 rfl) ?_
          refine lv_iload_n F.1 F.2.1 dX3_readRight_196 rfl (lv_at hl 2 rfl) ?_
          refine wjoin (σ := Int32 × Int) (pcj := 211) (stj := fun x9 => [.int x9.1, .int z_2, .ref q_65]) (fun x9 H locs ls => (0 ≤ x9.1.toInt ∧ x9.1.toInt ≤ 30) ∧ (0 ≤ x9.2 ∧ x9.2 ≤ 400) ∧ TH E (tbC dA dB (riverD (.inl (a, a)) (.inl (b, b)) (.inl (c, c))) rB rc (rdD (.inl (x9.2, x9.2)) (.inl (n, n)) (.inr [26]))) H ∧ va_S (eA E s.heap.size) s.heap H locs ∧ lv_has ls 4 [(0, .ref a0)]) (fun x9 H locs ls h_ => ?_) (fun J_211 => ?_)
          · skip
            obtain ⟨u_66, g_67⟩ := x9
            obtain ⟨hu_66, hg_67, hH, hS, hl⟩ := h_
            have hu_66 : (0 ≤ u_66.toInt ∧ u_66.toInt ≤ 30) := hu_66
            have hg_67 : (0 ≤ g_67 ∧ g_67 ≤ 400) := hg_67
            have hH : TH E (tbC dA dB (riverD (.inl (a, a)) (.inl (b, b)) (.inl (c, c))) rB rc (rdD (.inl (g_67, g_67)) (.inl (n, n)) (.inr [26]))) H := hH
            have hl : lv_has ls 4 [(0, .ref a0)] := hl
            show W _ _ _ _ _ _ _ _ _ _ _ _ _ _ _ (F0 _ _ _ [.int u_66, .int z_2, .ref q_65])
            refine tIastB F hK hH hS (tyb hq_65 (all1 rfl)) (ixb (n := 14) r_5 rfl rfl) hu_66 dX3_readRight_211 (fun H locs hH hS => ?_)
            refine lv_aload_n F.1 F.2.1 dX3_readRight_212 rfl (lv_at hl 0 rfl) ?_
            refine tGetR (j := 5) F hK hH (tyb ha0 (all1 rfl)) rfl (all1 rfl) clX3 (by decide) wd_5_18 dX3_readRight_213 (fun q_68 hq_68 _ => ?_)
            refine lv_dup F.1 F.2.1 dX3_readRight_216 rfl ?_
            refine tGetI (j := 4) F hK hH (tyb hq_68 (all1 rfl)) rfl clX2 (by decide) wd_13_4 dX3_readRight_217 (fun z_69 hz_69 => ?_)
            have ez_69 : 0 ≤ z_69.toInt ∧ z_69.toInt ≤ 13 := by omega
            refine lv_iconst (v := 1) F.1 F.2.1 dX3_readRight_220 (by decide) ?_
            refine topK (a := 1) (by decide) (fun k_70 hk_70 => ?_)
            refine tAdd (lo := 1) (hi := 14) F dX3_readRight_221 ez_69 (eqb hk_70) rfl (fun z_71 hz_71 => ?_)
            obtain ⟨g_72, hg_72⟩ : ∃ y : Int, z_71.toInt = y := ⟨_, rfl⟩
            have bg_72 : 1 ≤ g_72 ∧ g_72 ≤ 14 := by rw [← hg_72]; exact hz_71.2
            refine tPutG (j := 4) (t := 26) (fd := (.inl (g_72, g_72))) F hK hH hS (List.mem_singleton.mp hq_68) (by decide) rfl rfl (fdI (by omega)) (TB1 := (tbC dA dB (riverD (.inl (a, a)) (.inl (g_72, g_72)) (.inl (c, c))) rB rc (rdD (.inl (g_67, g_67)) (.inl (n, n)) (.inr [26])))) rfl clX2 (by decide) wd_13_4 rfl rfl rfl rfl dX3_readRight_222 (fun H locs hH hS => ?_)
            exact txV F hS dX3_readRight_225 (⟨g_67, (by omega), g_72, (by omega), hH⟩)
          refine z_eq (tgt := 210) F dX3_readRight_197 (by decide) (fun c_73 => ?_) (fun c_73 => ?_)
          · skip
            have r_74 : 0 ≤ z_53.toInt ∧ z_53.toInt ≤ 0 := by have h9_ := f_55; omega
            refine lv_iconst (v := 0) F.1 F.2.1 dX3_readRight_210 (by decide) ?_
            refine topK (a := 0) (by decide) (fun k_76 hk_76 => ?_)
            exact J_211 (k_76, g_63) _ _ _ ⟨(wkb (eqb hk_76) rfl rfl), (show 0 ≤ g_63 ∧ g_63 ≤ 400 from by omega), hH, hS, lv_sub hl [0] rfl⟩
          · skip
            have r_75 : 1 ≤ z_53.toInt ∧ z_53.toInt ≤ 1 := by have h9_ := f_55; omega
            refine lv_aload_n F.1 F.2.1 dX3_readRight_200 rfl (lv_at hl 0 rfl) ?_
            refine lv_iconst (v := 1) F.1 F.2.1 dX3_readRight_201 (by decide) ?_
            refine topK (a := 1) (by decide) (fun k_77 hk_77 => ?_)
            refine lv_bipush (v := 30) F.1 F.2.1 dX3_readRight_202 (by decide) ?_
            refine topK (a := 30) (by decide) (fun k_78 hk_78 => ?_)
            refine tVi (b := a0) (As := [.int k_77, .int k_78]) (rest := [.int z_2, .ref q_65]) F hK hN hO (c_X3_readNumber E dA dB (riverD (.inl (a, a)) (.inl (b, b)) (.inl (c, c))) rB rc (.inr [26]) n g_63 a0 k_77 k_78 ha0 (by omega) (by omega)) mv_X3_readNumber wd_12_19 ⟨Nat.le_of_ble_eq_true rfl, Nat.le_of_ble_eq_true rfl⟩ ⟨Nat.le_of_ble_eq_true rfl, Nat.le_of_ble_eq_true rfl⟩ hH hS (tRecv hK hH (tyb ha0 (all1 rfl)) clX3) rfl hl.1 (Nat.le_of_ble_eq_true rfl) dX3_readRight_204 (fun z_79 H locs hq hS => ?_)
            obtain ⟨g_80, hg_80, f_81, f_82, f_83, hH⟩ := hq
            have hH : TH E (tbC dA dB (riverD (.inl (a, a)) (.inl (b, b)) (.inl (c, c))) rB rc (rdD (.inl (g_80, g_80)) (.inl (n, n)) (.inr [26]))) H := hH
            have ez_79 : 1 ≤ z_79.toInt ∧ z_79.toInt ≤ 30 := by omega
            refine lv_goto (tgt := 211) F.1 F.2.1 dX3_readRight_207 (by decide) ?_
            exact J_211 (z_79, g_80) _ _ _ ⟨(wkb ez_79 rfl rfl), (show 0 ≤ g_80 ∧ g_80 ≤ 400 from by omega), hH, hS, lv_sub hl [0] rfl⟩
        refine z_eq (tgt := 186) F dX3_readRight_173 (by decide) (fun c_84 => ?_) (fun c_84 => ?_)
        · skip
          have r_85 : 0 ≤ z_53.toInt ∧ z_53.toInt ≤ 0 := by have h9_ := f_55; omega
          refine lv_iconst (v := 0) F.1 F.2.1 dX3_readRight_186 (by decide) ?_
          refine topK (a := 0) (by decide) (fun k_87 hk_87 => ?_)
          exact J_187 (k_87, g_59) _ _ _ ⟨(wkb (eqb hk_87) rfl rfl), (show 0 ≤ g_59 ∧ g_59 ≤ 400 from by omega), hH, hS, lv_sub hl [0, 1, 2] rfl⟩
        · skip
          have r_86 : 1 ≤ z_53.toInt ∧ z_53.toInt ≤ 1 := by have h9_ := f_55; omega
          refine lv_aload_n F.1 F.2.1 dX3_readRight_176 rfl (lv_at hl 0 rfl) ?_
          refine lv_iconst (v := 0) F.1 F.2.1 dX3_readRight_177 (by decide) ?_
          refine topK (a := 0) (by decide) (fun k_88 hk_88 => ?_)
          refine lv_bipush (v := 100) F.1 F.2.1 dX3_readRight_178 (by decide) ?_
          refine topK (a := 100) (by decide) (fun k_89 hk_89 => ?_)
          refine tVi (b := a0) (As := [.int k_88, .int k_89]) (rest := [.int z_2, .ref q_61]) F hK hN hO (c_X3_readNumber E dA dB (riverD (.inl (a, a)) (.inl (b, b)) (.inl (c, c))) rB rc (.inr [26]) n g_59 a0 k_88 k_89 ha0 (by omega) (by omega)) mv_X3_readNumber wd_12_19 ⟨Nat.le_of_ble_eq_true rfl, Nat.le_of_ble_eq_true rfl⟩ ⟨Nat.le_of_ble_eq_true rfl, Nat.le_of_ble_eq_true rfl⟩ hH hS (tRecv hK hH (tyb ha0 (all1 rfl)) clX3) rfl hl.1 (Nat.le_of_ble_eq_true rfl) dX3_readRight_180 (fun z_90 H locs hq hS => ?_)
          obtain ⟨g_91, hg_91, f_92, f_93, f_94, hH⟩ := hq
          have hH : TH E (tbC dA dB (riverD (.inl (a, a)) (.inl (b, b)) (.inl (c, c))) rB rc (rdD (.inl (g_91, g_91)) (.inl (n, n)) (.inr [26]))) H := hH
          have ez_90 : 0 ≤ z_90.toInt ∧ z_90.toInt ≤ 100 := by omega
          refine lv_goto (tgt := 187) F.1 F.2.1 dX3_readRight_183 (by decide) ?_
          exact J_187 (z_90, g_91) _ _ _ ⟨ez_90, (show 0 ≤ g_91 ∧ g_91 ≤ 400 from by omega), hH, hS, lv_sub hl [0, 1, 2] rfl⟩
      refine z_eq (tgt := 161) F dX3_readRight_151 (by decide) (fun c_95 => ?_) (fun c_95 => ?_)
      · skip
        have r_96 : 0 ≤ z_53.toInt ∧ z_53.toInt ≤ 0 := by have h9_ := f_55; omega
        refine lv_bipush (v := (-2)) F.1 F.2.1 dX3_readRight_161 (by decide) ?_
        refine topK (a := (-2)) (by decide) (fun k_98 hk_98 => ?_)
        exact J_163 (k_98, g_54) _ _ _ ⟨(wkb (eqb hk_98) rfl rfl), (show 0 ≤ g_54 ∧ g_54 ≤ 400 from by omega), hH, hS, lv_sub hl [1, 2, 0] rfl⟩
      · skip
        have r_97 : 1 ≤ z_53.toInt ∧ z_53.toInt ≤ 1 := by have h9_ := f_55; omega
        refine lv_aload_n F.1 F.2.1 dX3_readRight_154 rfl (lv_at hl 1 rfl) ?_
        refine tVi (b := a0) (As := []) (rest := [.int z_2, .ref q_57]) F hK hN hO (c_X3_readReachNumber_1 E dA dB rB rc a b c n g_54 a0 ha0 (by omega) (by omega) (by omega) (by omega) (by omega)) mv_X3_readReachNumber wd_12_15 ⟨Nat.le_of_ble_eq_true rfl, Nat.le_of_ble_eq_true rfl⟩ ⟨Nat.le_of_ble_eq_true rfl, Nat.le_of_ble_eq_true rfl⟩ hH hS (tRecv hK hH (tyb ha0 (all1 rfl)) clX3) rfl hl.1 (Nat.le_of_ble_eq_true rfl) dX3_readRight_155 (fun z_99 H locs hq hS => ?_)
        obtain ⟨g_100, hg_100, f_101, hH⟩ := hq
        have hH : TH E (tbC dA dB (riverD (.inl (a, a)) (.inl (b, b)) (.inl (c, c))) rB rc (rdD (.inl (g_100, g_100)) (.inl (n, n)) (.inr [26]))) H := hH
        refine lv_goto (tgt := 163) F.1 F.2.1 dX3_readRight_158 (by decide) ?_
        exact J_163 (z_99, g_100) _ _ _ ⟨(wkb f_101 rfl rfl), (show 0 ≤ g_100 ∧ g_100 ≤ 400 from by omega), hH, hS, lv_sub hl [1, 2, 0] rfl⟩
    refine z_eq (tgt := 133) F dX3_readRight_120 (by decide) (fun c_102 => ?_) (fun c_102 => ?_)
    · skip
      have r_103 : 0 ≤ z_48.toInt ∧ z_48.toInt ≤ 0 := by have h9_ := f_50; omega
      refine lv_iconst (v := 0) F.1 F.2.1 dX3_readRight_133 (by decide) ?_
      refine topK (a := 0) (by decide) (fun k_105 hk_105 => ?_)
      exact J_134 (k_105, g_49) _ _ _ ⟨(wkb (eqb hk_105) rfl rfl), (show 0 ≤ g_49 ∧ g_49 ≤ 400 from by omega), hH, hS, lv_sub hl [1, 0] rfl⟩
    · skip
      have r_104 : 1 ≤ z_48.toInt ∧ z_48.toInt ≤ 1 := by have h9_ := f_50; omega
      refine lv_aload_n F.1 F.2.1 dX3_readRight_123 rfl (lv_at hl 1 rfl) ?_
      refine lv_iconst (v := 1) F.1 F.2.1 dX3_readRight_124 (by decide) ?_
      refine topK (a := 1) (by decide) (fun k_106 hk_106 => ?_)
      refine lv_ldc (own := RX3) (v := 999999) F.1 F.2.1 F.2.2.2.2.1 (F.2.2.2.2.2.2.1 _ wd_13_11) dX3_readRight_125 ?_
      refine topK (a := 999999) (by decide) (fun k_107 hk_107 => ?_)
      refine tVi (b := a0) (As := [.int k_106, .int k_107]) (rest := [.int z_2, .ref q_47]) F hK hN hO (c_X3_readNumber E dA dB (riverD (.inl (a, a)) (.inl (b, b)) (.inl (c, c))) rB rc (.inr [26]) n g_49 a0 k_106 k_107 ha0 (by omega) (by omega)) mv_X3_readNumber wd_12_19 ⟨Nat.le_of_ble_eq_true rfl, Nat.le_of_ble_eq_true rfl⟩ ⟨Nat.le_of_ble_eq_true rfl, Nat.le_of_ble_eq_true rfl⟩ hH hS (tRecv hK hH (tyb ha0 (all1 rfl)) clX3) rfl hl.1 (Nat.le_of_ble_eq_true rfl) dX3_readRight_127 (fun z_108 H locs hq hS => ?_)
      obtain ⟨g_109, hg_109, f_110, f_111, f_112, hH⟩ := hq
      have hH : TH E (tbC dA dB (riverD (.inl (a, a)) (.inl (b, b)) (.inl (c, c))) rB rc (rdD (.inl (g_109, g_109)) (.inl (n, n)) (.inr [26]))) H := hH
      have ez_108 : 1 ≤ z_108.toInt ∧ z_108.toInt ≤ 999999 := by omega
      refine lv_goto (tgt := 134) F.1 F.2.1 dX3_readRight_130 (by decide) ?_
      exact J_134 (z_108, g_109) _ _ _ ⟨(wkb ez_108 rfl rfl), (show 0 ≤ g_109 ∧ g_109 ≤ 400 from by omega), hH, hS, lv_sub hl [1, 0] rfl⟩
  · skip
    have r_6 : 14 ≤ z_2.toInt ∧ z_2.toInt ≤ 14 := by have h9_ := ez_2; omega
    refine lv_aload_n F.1 F.2.1 dX3_readRight_14 rfl (lv_at hl 1 rfl) ?_
    refine lv_iload_n F.1 F.2.1 dX3_readRight_15 rfl (lv_at hl 2 rfl) ?_
    refine lv_iconst (v := 3) F.1 F.2.1 dX3_readRight_16 (by decide) ?_
    refine topK (a := 3) (by decide) (fun k_113 hk_113 => ?_)
    refine tVv (b := a0) (As := [.int a1, .int k_113]) (rest := []) F hK hN hO (c_X3_blame E dA dB (riverD (.inl (a, a)) (.inl (b, b)) (.inl (c, c))) rB rc ((.inl (n, n))) ((.inl (p, p))) (.inr [26]) a0 a1 k_113 ha0) mv_X3_blame wd_12_11 ⟨Nat.le_of_ble_eq_true rfl, Nat.le_of_ble_eq_true rfl⟩ ⟨Nat.le_of_ble_eq_true rfl, Nat.le_of_ble_eq_true rfl⟩ hH hS (tRecv hK hH (tyb ha0 (all1 rfl)) clX3) rfl hl.1 (Nat.le_of_ble_eq_true rfl) dX3_readRight_17 (fun H locs hq hS => ?_)
    have hH := hq
    have hH : TH E (tbC dA dB (riverD (.inl (a, a)) (.inl (b, b)) (.inl (c, c))) rB rc (rdD (.inl (p, p)) (.inl (n, n)) (.inr [26]))) H := hH
    exact txV F hS dX3_readRight_20 (⟨p, (by omega), b, (by omega), hH⟩)
set_option maxHeartbeats 4000000 in
set_option maxRecDepth 100000 in
theorem c_X3_readRight_2 (E : Ev) (dA : TD) (dB : TD) (rA : TD) (rc : TD) (a : Int) (b : Int) (c : Int) (n : Int) (p : Int) (a0 : Nat) (a1 : Int32) (ha0 : eT E a0 ∈ [29]) (ha : 0 ≤ a ∧ a ≤ 12) (hb : 0 ≤ b ∧ b ≤ 14) (hc : 0 ≤ c ∧ c ≤ 4) (hn : 0 ≤ n ∧ n ≤ 400) (hp : 0 ≤ p ∧ p ≤ 400) : TcV E yX3_readRight cX3_readRight 4 ({ frames := 7, cells := 0, slots := 0, locals := 226 }) [.ref a0, .int a1] (fun H => TH E (tbC dA dB rA (riverD (.inl (a, a)) (.inl (b, b)) (.inl (c, c))) rc (rdD (.inl (p, p)) (.inl (n, n)) (.inr [27]))) H) (fun H => ∃ p2 : Int, (0 ≤ p2 ∧ p2 ≤ 400) ∧ ∃ b2 : Int, (0 ≤ b2 ∧ b2 ≤ 14) ∧ TH E (tbC dA dB rA (riverD (.inl (a, a)) (.inl (b2, b2)) (.inl (c, c))) rc (rdD (.inl (p2, p2)) (.inl (n, n)) (.inr [27]))) H) := by
  refine teV (by decide) (Nat.le_of_ble_eq_true rfl) ?_
  intro p_ ev_ s mi_ below_ meth cd_ ls F hK hN hO hH hS hl
  have hH : TH E (tbC dA dB rA (riverD (.inl (a, a)) (.inl (b, b)) (.inl (c, c))) rc (rdD (.inl (p, p)) (.inl (n, n)) (.inr [27]))) s.heap := hH
  have hl : lv_has ls 4 [(0, .ref a0), (1, .int a1)] := hl
  refine lv_aload_n F.1 F.2.1 dX3_readRight_0 rfl (lv_at hl 0 rfl) ?_
  refine tGetR (j := 5) F hK hH (tyb ha0 (all1 rfl)) rfl (all1 rfl) clX3 (by decide) wd_5_18 dX3_readRight_1 (fun q_1 hq_1 _ => ?_)
  refine tGetI (j := 4) F hK hH (tyb hq_1 (all1 rfl)) rfl clX2 (by decide) wd_13_4 dX3_readRight_4 (fun z_2 hz_2 => ?_)
  have ez_2 : 0 ≤ z_2.toInt ∧ z_2.toInt ≤ 14 := by omega
  refine lv_istore_n (lv' := [(2, .int z_2), (0, .ref a0), (1, .int a1)]) F.1 F.2.1 dX3_readRight_7 rfl hl (by decide) rfl (fun ls hl => ?_)
  refine lv_iload_n F.1 F.2.1 dX3_readRight_8 rfl (lv_at hl 0 rfl) ?_
  refine lv_bipush (v := 14) F.1 F.2.1 dX3_readRight_9 (by decide) ?_
  refine topK (a := 14) (by decide) (fun k_3 hk_3 => ?_)
  refine b_lt (tgt := 21) F dX3_readRight_11 (by decide) (fun c_4 => ?_) (fun c_4 => ?_)
  · skip
    have r_5 : 0 ≤ z_2.toInt ∧ z_2.toInt ≤ 13 := by have h9_ := ez_2; omega
    refine lv_aload_n F.1 F.2.1 dX3_readRight_21 rfl (lv_at hl 1 rfl) ?_
    refine tGetR (j := 5) F hK hH (tyb ha0 (all1 rfl)) rfl (all1 rfl) clX3 (by decide) wd_5_18 dX3_readRight_22 (fun q_7 hq_7 _ => ?_)
    refine tGetR (j := 5) F hK hH (tyb hq_7 (all1 rfl)) rfl (all1 rfl) clX2 (by decide) wd_13_5 dX3_readRight_25 (fun q_8 hq_8 _ => ?_)
    refine lv_iload_n F.1 F.2.1 dX3_readRight_28 rfl (lv_at hl 0 rfl) ?_
    refine lv_aload_n F.1 F.2.1 dX3_readRight_29 rfl (lv_at hl 1 rfl) ?_
    refine tVi (b := a0) (As := []) (rest := [.int z_2, .ref q_8]) F hK hN hO (c_X3_readReachNumber_2 E dA dB rA rc a b c n p a0 ha0 (by omega) (by omega) (by omega) (by omega) (by omega)) mv_X3_readReachNumber wd_12_15 ⟨Nat.le_of_ble_eq_true rfl, Nat.le_of_ble_eq_true rfl⟩ ⟨Nat.le_of_ble_eq_true rfl, Nat.le_of_ble_eq_true rfl⟩ hH hS (tRecv hK hH (tyb ha0 (all1 rfl)) clX3) rfl hl.1 (Nat.le_of_ble_eq_true rfl) dX3_readRight_30 (fun z_9 H locs hq hS => ?_)
    obtain ⟨g_10, hg_10, f_11, hH⟩ := hq
    have hH : TH E (tbC dA dB rA (riverD (.inl (a, a)) (.inl (b, b)) (.inl (c, c))) rc (rdD (.inl (g_10, g_10)) (.inl (n, n)) (.inr [27]))) H := hH
    refine tIastB F hK hH hS (tyb hq_8 (all1 rfl)) (ixb (n := 14) r_5 rfl rfl) f_11 dX3_readRight_33 (fun H locs hH hS => ?_)
    refine lv_aload_n F.1 F.2.1 dX3_readRight_34 rfl (lv_at hl 1 rfl) ?_
    refine tGetR (j := 5) F hK hH (tyb ha0 (all1 rfl)) rfl (all1 rfl) clX3 (by decide) wd_5_18 dX3_readRight_35 (fun q_12 hq_12 _ => ?_)
    refine tGetR (j := 6) F hK hH (tyb hq_12 (all1 rfl)) rfl (all1 rfl) clX2 (by decide) wd_13_6 dX3_readRight_38 (fun q_13 hq_13 _ => ?_)
    refine lv_iload_n F.1 F.2.1 dX3_readRight_41 rfl (lv_at hl 0 rfl) ?_
    refine lv_aload_n F.1 F.2.1 dX3_readRight_42 rfl (lv_at hl 1 rfl) ?_
    refine lv_iconst (v := 1) F.1 F.2.1 dX3_readRight_43 (by decide) ?_
    refine topK (a := 1) (by decide) (fun k_14 hk_14 => ?_)
    refine lv_sipush (v := 9999) F.1 F.2.1 dX3_readRight_44 (by decide) ?_
    refine topK (a := 9999) (by decide) (fun k_15 hk_15 => ?_)
    refine tVi (b := a0) (As := [.int k_14, .int k_15]) (rest := [.int z_2, .ref q_13]) F hK hN hO (c_X3_readNumber E dA dB rA (riverD (.inl (a, a)) (.inl (b, b)) (.inl (c, c))) rc (.inr [27]) n g_10 a0 k_14 k_15 ha0 (by omega) (by omega)) mv_X3_readNumber wd_12_19 ⟨Nat.le_of_ble_eq_true rfl, Nat.le_of_ble_eq_true rfl⟩ ⟨Nat.le_of_ble_eq_true rfl, Nat.le_of_ble_eq_true rfl⟩ hH hS (tRecv hK hH (tyb ha0 (all1 rfl)) clX3) rfl hl.1 (Nat.le_of_ble_eq_true rfl) dX3_readRight_47 (fun z_16 H locs hq hS => ?_)
    obtain ⟨g_17, hg_17, f_18, f_19, f_20, hH⟩ := hq
    have hH : TH E (tbC dA dB rA (riverD (.inl (a, a)) (.inl (b, b)) (.inl (c, c))) rc (rdD (.inl (g_17, g_17)) (.inl (n, n)) (.inr [27]))) H := hH
    have ez_16 : 1 ≤ z_16.toInt ∧ z_16.toInt ≤ 9999 := by omega
    refine tIastB F hK hH hS (tyb hq_13 (all1 rfl)) (ixb (n := 14) r_5 rfl rfl) (wkb ez_16 rfl rfl) dX3_readRight_50 (fun H locs hH hS => ?_)
    refine lv_aload_n F.1 F.2.1 dX3_readRight_51 rfl (lv_at hl 1 rfl) ?_
    refine tGetR (j := 5) F hK hH (tyb ha0 (all1 rfl)) rfl (all1 rfl) clX3 (by decide) wd_5_18 dX3_readRight_52 (fun q_21 hq_21 _ => ?_)
    refine tGetR (j := 7) F hK hH (tyb hq_21 (all1 rfl)) rfl (all1 rfl) clX2 (by decide) wd_13_7 dX3_readRight_55 (fun q_22 hq_22 _ => ?_)
    refine lv_iload_n F.1 F.2.1 dX3_readRight_58 rfl (lv_at hl 0 rfl) ?_
    refine lv_aload_n F.1 F.2.1 dX3_readRight_59 rfl (lv_at hl 1 rfl) ?_
    refine lv_iconst (v := 0) F.1 F.2.1 dX3_readRight_60 (by decide) ?_
    refine topK (a := 0) (by decide) (fun k_23 hk_23 => ?_)
    refine lv_sipush (v := 359) F.1 F.2.1 dX3_readRight_61 (by decide) ?_
    refine topK (a := 359) (by decide) (fun k_24 hk_24 => ?_)
    refine tVi (b := a0) (As := [.int k_23, .int k_24]) (rest := [.int z_2, .ref q_22]) F hK hN hO (c_X3_readNumber E dA dB rA (riverD (.inl (a, a)) (.inl (b, b)) (.inl (c, c))) rc (.inr [27]) n g_17 a0 k_23 k_24 ha0 (by omega) (by omega)) mv_X3_readNumber wd_12_19 ⟨Nat.le_of_ble_eq_true rfl, Nat.le_of_ble_eq_true rfl⟩ ⟨Nat.le_of_ble_eq_true rfl, Nat.le_of_ble_eq_true rfl⟩ hH hS (tRecv hK hH (tyb ha0 (all1 rfl)) clX3) rfl hl.1 (Nat.le_of_ble_eq_true rfl) dX3_readRight_64 (fun z_25 H locs hq hS => ?_)
    obtain ⟨g_26, hg_26, f_27, f_28, f_29, hH⟩ := hq
    have hH : TH E (tbC dA dB rA (riverD (.inl (a, a)) (.inl (b, b)) (.inl (c, c))) rc (rdD (.inl (g_26, g_26)) (.inl (n, n)) (.inr [27]))) H := hH
    have ez_25 : 0 ≤ z_25.toInt ∧ z_25.toInt ≤ 359 := by omega
    refine tIastB F hK hH hS (tyb hq_22 (all1 rfl)) (ixb (n := 14) r_5 rfl rfl) (wkb ez_25 rfl rfl) dX3_readRight_67 (fun H locs hH hS => ?_)
    refine lv_aload_n F.1 F.2.1 dX3_readRight_68 rfl (lv_at hl 1 rfl) ?_
    refine tGetR (j := 5) F hK hH (tyb ha0 (all1 rfl)) rfl (all1 rfl) clX3 (by decide) wd_5_18 dX3_readRight_69 (fun q_30 hq_30 _ => ?_)
    refine tGetR (j := 8) F hK hH (tyb hq_30 (all1 rfl)) rfl (all1 rfl) clX2 (by decide) wd_13_8 dX3_readRight_72 (fun q_31 hq_31 _ => ?_)
    refine lv_iload_n F.1 F.2.1 dX3_readRight_75 rfl (lv_at hl 0 rfl) ?_
    refine lv_aload_n F.1 F.2.1 dX3_readRight_76 rfl (lv_at hl 1 rfl) ?_
    refine lv_aload_n F.1 F.2.1 dX3_readRight_77 rfl (lv_at hl 1 rfl) ?_
    refine tGetR (j := 5) F hK hH (tyb ha0 (all1 rfl)) rfl (all1 rfl) clX3 (by decide) wd_5_18 dX3_readRight_78 (fun q_32 hq_32 _ => ?_)
    refine tGetR (j := 7) F hK hH (tyb hq_32 (all1 rfl)) rfl (all1 rfl) clX2 (by decide) wd_13_7 dX3_readRight_81 (fun q_33 hq_33 _ => ?_)
    refine lv_iload_n F.1 F.2.1 dX3_readRight_84 rfl (lv_at hl 0 rfl) ?_
    refine tIaldB F hK hH (tyb hq_33 (all1 rfl)) (ixb (n := 14) r_5 rfl rfl) dX3_readRight_85 (fun z_34 hz_34 => ?_)
    refine lv_sipush (v := 359) F.1 F.2.1 dX3_readRight_86 (by decide) ?_
    refine topK (a := 359) (by decide) (fun k_35 hk_35 => ?_)
    refine tVi (b := a0) (As := [.int z_34, .int k_35]) (rest := [.int z_2, .ref q_31]) F hK hN hO (c_X3_readNumber E dA dB rA (riverD (.inl (a, a)) (.inl (b, b)) (.inl (c, c))) rc (.inr [27]) n g_26 a0 z_34 k_35 ha0 (by omega) (by omega)) mv_X3_readNumber wd_12_19 ⟨Nat.le_of_ble_eq_true rfl, Nat.le_of_ble_eq_true rfl⟩ ⟨Nat.le_of_ble_eq_true rfl, Nat.le_of_ble_eq_true rfl⟩ hH hS (tRecv hK hH (tyb ha0 (all1 rfl)) clX3) rfl hl.1 (Nat.le_of_ble_eq_true rfl) dX3_readRight_89 (fun z_36 H locs hq hS => ?_)
    obtain ⟨g_37, hg_37, f_38, f_39, f_40, hH⟩ := hq
    have hH : TH E (tbC dA dB rA (riverD (.inl (a, a)) (.inl (b, b)) (.inl (c, c))) rc (rdD (.inl (g_37, g_37)) (.inl (n, n)) (.inr [27]))) H := hH
    have ez_36 : (-2147483648) ≤ z_36.toInt ∧ z_36.toInt ≤ 2147483647 := by omega
    refine tIastB F hK hH hS (tyb hq_31 (all1 rfl)) (ixb (n := 14) r_5 rfl rfl) ez_36 dX3_readRight_92 (fun H locs hH hS => ?_)
    refine lv_aload_n F.1 F.2.1 dX3_readRight_93 rfl (lv_at hl 1 rfl) ?_
    refine tGetR (j := 5) F hK hH (tyb ha0 (all1 rfl)) rfl (all1 rfl) clX3 (by decide) wd_5_18 dX3_readRight_94 (fun q_41 hq_41 _ => ?_)
    refine tGetR (j := 9) F hK hH (tyb hq_41 (all1 rfl)) rfl (all1 rfl) clX2 (by decide) wd_13_9 dX3_readRight_97 (fun q_42 hq_42 _ => ?_)
    refine lv_iload_n F.1 F.2.1 dX3_readRight_100 rfl (lv_at hl 0 rfl) ?_
    refine lv_aload_n F.1 F.2.1 dX3_readRight_101 rfl (lv_at hl 1 rfl) ?_
    refine tVi (b := a0) (As := []) (rest := [.int z_2, .ref q_42]) F hK hN hO (c_X3_readAge_2 E dA dB rA rc a b c n g_37 a0 ha0 (by omega) (by omega) (by omega) (by omega) (by omega)) mv_X3_readAge wd_13_15 ⟨Nat.le_of_ble_eq_true rfl, Nat.le_of_ble_eq_true rfl⟩ ⟨Nat.le_of_ble_eq_true rfl, Nat.le_of_ble_eq_true rfl⟩ hH hS (tRecv hK hH (tyb ha0 (all1 rfl)) clX3) rfl hl.1 (Nat.le_of_ble_eq_true rfl) dX3_readRight_102 (fun z_43 H locs hq hS => ?_)
    obtain ⟨g_44, hg_44, f_45, hH⟩ := hq
    have hH : TH E (tbC dA dB rA (riverD (.inl (a, a)) (.inl (b, b)) (.inl (c, c))) rc (rdD (.inl (g_44, g_44)) (.inl (n, n)) (.inr [27]))) H := hH
    refine tIastB F hK hH hS (tyb hq_42 (all1 rfl)) (ixb (n := 14) r_5 rfl rfl) (wkb f_45 rfl rfl) dX3_readRight_105 (fun H locs hH hS => ?_)
    refine lv_aload_n F.1 F.2.1 dX3_readRight_106 rfl (lv_at hl 1 rfl) ?_
    refine tGetR (j := 5) F hK hH (tyb ha0 (all1 rfl)) rfl (all1 rfl) clX3 (by decide) wd_5_18 dX3_readRight_107 (fun q_46 hq_46 _ => ?_)
    refine tGetR (j := 10) F hK hH (tyb hq_46 (all1 rfl)) rfl (all1 rfl) clX2 (by decide) wd_13_10 dX3_readRight_110 (fun q_47 hq_47 _ => ?_)
    refine lv_iload_n F.1 F.2.1 dX3_readRight_113 rfl (lv_at hl 0 rfl) ?_
    refine lv_aload_n F.1 F.2.1 dX3_readRight_114 rfl (lv_at hl 1 rfl) ?_
    refine va_ldcS F.1 F.2.1 F.2.2.2.2.1 (hO.1 5 _ rfl).1 dX3_readRight_115 ?_
    refine tVi (b := a0) (As := [.ref (eX E 5)]) (rest := [.int z_2, .ref q_47]) F hK hN hO (c_X3_isNext E dA dB rA (riverD (.inl (a, a)) (.inl (b, b)) (.inl (c, c))) rc (.inr [27]) n g_44 a0 5 3 ha0 (strAt 5 rfl) (by omega) (by omega)) mv_X3_isNext wd_9_22 ⟨Nat.le_of_ble_eq_true rfl, Nat.le_of_ble_eq_true rfl⟩ ⟨Nat.le_of_ble_eq_true rfl, Nat.le_of_ble_eq_true rfl⟩ hH hS (tRecv hK hH (tyb ha0 (all1 rfl)) clX3) rfl hl.1 (Nat.le_of_ble_eq_true rfl) dX3_readRight_117 (fun z_48 H locs hq hS => ?_)
    obtain ⟨g_49, hg_49, f_50, hH⟩ := hq
    have hH : TH E (tbC dA dB rA (riverD (.inl (a, a)) (.inl (b, b)) (.inl (c, c))) rc (rdD (.inl (g_49, g_49)) (.inl (n, n)) (.inr [27]))) H := hH
    refine wjoin (σ := Int32 × Int) (pcj := 134) (stj := fun x9 => [.int x9.1, .int z_2, .ref q_47]) (fun x9 H locs ls => (0 ≤ x9.1.toInt ∧ x9.1.toInt ≤ 999999) ∧ (0 ≤ x9.2 ∧ x9.2 ≤ 400) ∧ TH E (tbC dA dB rA (riverD (.inl (a, a)) (.inl (b, b)) (.inl (c, c))) rc (rdD (.inl (x9.2, x9.2)) (.inl (n, n)) (.inr [27]))) H ∧ va_S (eA E s.heap.size) s.heap H locs ∧ lv_has ls 4 [(0, .ref a0), (2, .int z_2)]) (fun x9 H locs ls h_ => ?_) (fun J_134 => ?_)
    · skip
      obtain ⟨u_51, g_52⟩ := x9
      obtain ⟨hu_51, hg_52, hH, hS, hl⟩ := h_
      have hu_51 : (0 ≤ u_51.toInt ∧ u_51.toInt ≤ 999999) := hu_51
      have hg_52 : (0 ≤ g_52 ∧ g_52 ≤ 400) := hg_52
      have hH : TH E (tbC dA dB rA (riverD (.inl (a, a)) (.inl (b, b)) (.inl (c, c))) rc (rdD (.inl (g_52, g_52)) (.inl (n, n)) (.inr [27]))) H := hH
      have hl : lv_has ls 4 [(0, .ref a0), (2, .int z_2)] := hl
      show W _ _ _ _ _ _ _ _ _ _ _ _ _ _ _ (F0 _ _ _ [.int u_51, .int z_2, .ref q_47])
      refine tIastB F hK hH hS (tyb hq_47 (all1 rfl)) (ixb (n := 14) r_5 rfl rfl) (wkb hu_51 rfl rfl) dX3_readRight_134 (fun H locs hH hS => ?_)
      refine lv_aload_n F.1 F.2.1 dX3_readRight_135 rfl (lv_at hl 0 rfl) ?_
      refine va_ldcS F.1 F.2.1 F.2.2.2.2.1 (hO.1 6 _ rfl).1 dX3_readRight_136 ?_
      refine tVi (b := a0) (As := [.ref (eX E 6)]) (rest := []) F hK hN hO (c_X3_isNext E dA dB rA (riverD (.inl (a, a)) (.inl (b, b)) (.inl (c, c))) rc (.inr [27]) n g_52 a0 6 4 ha0 (strAt 6 rfl) (by omega) (by omega)) mv_X3_isNext wd_9_22 ⟨Nat.le_of_ble_eq_true rfl, Nat.le_of_ble_eq_true rfl⟩ ⟨Nat.le_of_ble_eq_true rfl, Nat.le_of_ble_eq_true rfl⟩ hH hS (tRecv hK hH (tyb ha0 (all1 rfl)) clX3) rfl hl.1 (Nat.le_of_ble_eq_true rfl) dX3_readRight_138 (fun z_53 H locs hq hS => ?_)
      obtain ⟨g_54, hg_54, f_55, hH⟩ := hq
      have hH : TH E (tbC dA dB rA (riverD (.inl (a, a)) (.inl (b, b)) (.inl (c, c))) rc (rdD (.inl (g_54, g_54)) (.inl (n, n)) (.inr [27]))) H := hH
      refine lv_istore_n (lv' := [(3, .int z_53), (0, .ref a0), (2, .int z_2)]) F.1 F.2.1 dX3_readRight_141 rfl hl (by decide) rfl (fun ls hl => ?_)
      refine lv_aload_n F.1 F.2.1 dX3_readRight_142 rfl (lv_at hl 1 rfl) ?_
      refine tGetR (j := 5) F hK hH (tyb ha0 (all1 rfl)) rfl (all1 rfl) clX3 (by decide) wd_5_18 dX3_readRight_143 (fun q_56 hq_56 _ => ?_)
      refine tGetR (j := 11) F hK hH (tyb hq_56 (all1 rfl)) rfl (all1 rfl) clX2 (by decide) wd_13_12 dX3_readRight_146 (fun q_57 hq_57 _ => ?_)
      refine lv_iload_n F.1 F.2.1 dX3_readRight_149 rfl (lv_at hl 2 rfl) ?_
      refine lv_iload_n F.1 F.2.1 dX3_readRight_150 rfl (lv_at hl 0 rfl) ?_
      refine wjoin (σ := Int32 × Int) (pcj := 163) (stj := fun x9 => [.int x9.1, .int z_2, .ref q_57]) (fun x9 H locs ls => ((-2) ≤ x9.1.toInt ∧ x9.1.toInt ≤ 11) ∧ (0 ≤ x9.2 ∧ x9.2 ≤ 400) ∧ TH E (tbC dA dB rA (riverD (.inl (a, a)) (.inl (b, b)) (.inl (c, c))) rc (rdD (.inl (x9.2, x9.2)) (.inl (n, n)) (.inr [27]))) H ∧ va_S (eA E s.heap.size) s.heap H locs ∧ lv_has ls 4 [(0, .ref a0), (2, .int z_2), (3, .int z_53)]) (fun x9 H locs ls h_ => ?_) (fun J_163 => ?_)
      · skip
        obtain ⟨u_58, g_59⟩ := x9
        obtain ⟨hu_58, hg_59, hH, hS, hl⟩ := h_
        have hu_58 : ((-2) ≤ u_58.toInt ∧ u_58.toInt ≤ 11) := hu_58
        have hg_59 : (0 ≤ g_59 ∧ g_59 ≤ 400) := hg_59
        have hH : TH E (tbC dA dB rA (riverD (.inl (a, a)) (.inl (b, b)) (.inl (c, c))) rc (rdD (.inl (g_59, g_59)) (.inl (n, n)) (.inr [27]))) H := hH
        have hl : lv_has ls 4 [(0, .ref a0), (2, .int z_2), (3, .int z_53)] := hl
        show W _ _ _ _ _ _ _ _ _ _ _ _ _ _ _ (F0 _ _ _ [.int u_58, .int z_2, .ref q_57])
        refine tIastB F hK hH hS (tyb hq_57 (all1 rfl)) (ixb (n := 14) r_5 rfl rfl) hu_58 dX3_readRight_163 (fun H locs hH hS => ?_)
        refine lv_aload_n F.1 F.2.1 dX3_readRight_164 rfl (lv_at hl 0 rfl) ?_
        refine tGetR (j := 5) F hK hH (tyb ha0 (all1 rfl)) rfl (all1 rfl) clX3 (by decide) wd_5_18 dX3_readRight_165 (fun q_60 hq_60 _ => ?_)
        refine tGetR (j := 12) F hK hH (tyb hq_60 (all1 rfl)) rfl (all1 rfl) clX2 (by decide) wd_13_13 dX3_readRight_168 (fun q_61 hq_61 _ => ?_)
        refine lv_iload_n F.1 F.2.1 dX3_readRight_171 rfl (lv_at hl 1 rfl) ?_
        refine lv_iload_n F.1 F.2.1 dX3_readRight_172 rfl (lv_at hl 2 rfl) ?_
        refine wjoin (σ := Int32 × Int) (pcj := 187) (stj := fun x9 => [.int x9.1, .int z_2, .ref q_61]) (fun x9 H locs ls => (0 ≤ x9.1.toInt ∧ x9.1.toInt ≤ 100) ∧ (0 ≤ x9.2 ∧ x9.2 ≤ 400) ∧ TH E (tbC dA dB rA (riverD (.inl (a, a)) (.inl (b, b)) (.inl (c, c))) rc (rdD (.inl (x9.2, x9.2)) (.inl (n, n)) (.inr [27]))) H ∧ va_S (eA E s.heap.size) s.heap H locs ∧ lv_has ls 4 [(0, .ref a0), (2, .int z_2), (3, .int z_53)]) (fun x9 H locs ls h_ => ?_) (fun J_187 => ?_)
        · skip
          obtain ⟨u_62, g_63⟩ := x9
          obtain ⟨hu_62, hg_63, hH, hS, hl⟩ := h_
          have hu_62 : (0 ≤ u_62.toInt ∧ u_62.toInt ≤ 100) := hu_62
          have hg_63 : (0 ≤ g_63 ∧ g_63 ≤ 400) := hg_63
          have hH : TH E (tbC dA dB rA (riverD (.inl (a, a)) (.inl (b, b)) (.inl (c, c))) rc (rdD (.inl (g_63, g_63)) (.inl (n, n)) (.inr [27]))) H := hH
          have hl : lv_has ls 4 [(0, .ref a0), (2, .int z_2), (3, .int z_53)] := hl
          show W _ _ _ _ _ _ _ _ _ _ _ _ _ _ _ (F0 _ _ _ [.int u_62, .int z_2, .ref q_61])
          refine tIastB F hK hH hS (tyb hq_61 (all1 rfl)) (ixb (n := 14) r_5 rfl rfl) (wkb hu_62 rfl rfl) dX3_readRight_187 (fun H locs hH hS => ?_)
          refine lv_aload_n F.1 F.2.1 dX3_readRight_188 rfl (lv_at hl 0 rfl) ?_
          refine tGetR (j := 5) F hK hH (tyb ha0 (all1 rfl)) rfl (all1 rfl) clX3 (by decide) wd_5_18 dX3_readRight_189 (fun q_64 hq_64 _ => ?_)
          refine tGetR (j := 13) F hK hH (tyb hq_64 (all1 rfl)) rfl (all1 rfl) clX2 (by decide) wd_13_14 dX3_readRight_192 (fun q_65 hq_65 _ => ?_)
          refine lv_iload_n F.1 F.2.1 dX3_readRight_195 rfl (lv_at hl 1 rfl) ?_
          refine lv_iload_n F.1 F.2.1 dX3_readRight_196 rfl (lv_at hl 2 rfl) ?_
          refine wjoin (σ := Int32 × Int) (pcj := 211) (stj := fun x9 => [.int x9.1, .int z_2, .ref q_65]) (fun x9 H locs ls => (0 ≤ x9.1.toInt ∧ x9.1.toInt ≤ 30) ∧ (0 ≤ x9.2 ∧ x9.2 ≤ 400) ∧ TH E (tbC dA dB rA (riverD (.inl (a, a)) (.inl (b, b)) (.inl (c, c))) rc (rdD (.inl (x9.2, x9.2)) (.inl (n, n)) (.inr [27]))) H ∧ va_S (eA E s.heap.size) s.heap H locs ∧ lv_has ls 4 [(0, .ref a0)]) (fun x9 H locs ls h_ => ?_) (fun J_211 => ?_)
          · skip
            obtain ⟨u_66, g_67⟩ := x9
            obtain ⟨hu_66, hg_67, hH, hS, hl⟩ := h_
            have hu_66 : (0 ≤ u_66.toInt ∧ u_66.toInt ≤ 30) := hu_66
            have hg_67 : (0 ≤ g_67 ∧ g_67 ≤ 400) := hg_67
            have hH : TH E (tbC dA dB rA (riverD (.inl (a, a)) (.inl (b, b)) (.inl (c, c))) rc (rdD (.inl (g_67, g_67)) (.inl (n, n)) (.inr [27]))) H := hH
            have hl : lv_has ls 4 [(0, .ref a0)] := hl
            show W _ _ _ _ _ _ _ _ _ _ _ _ _ _ _ (F0 _ _ _ [.int u_66, .int z_2, .ref q_65])
            refine tIastB F hK hH hS (tyb hq_65 (all1 rfl)) (ixb (n := 14) r_5 rfl rfl) hu_66 dX3_readRight_211 (fun H locs hH hS => ?_)
            refine lv_aload_n F.1 F.2.1 dX3_readRight_212 rfl (lv_at hl 0 rfl) ?_
            refine tGetR (j := 5) F hK hH (tyb ha0 (all1 rfl)) rfl (all1 rfl) clX3 (by decide) wd_5_18 dX3_readRight_213 (fun q_68 hq_68 _ => ?_)
            refine lv_dup F.1 F.2.1 dX3_readRight_216 rfl ?_
            refine tGetI (j := 4) F hK hH (tyb hq_68 (all1 rfl)) rfl clX2 (by decide) wd_13_4 dX3_readRight_217 (fun z_69 hz_69 => ?_)
            have ez_69 : 0 ≤ z_69.toInt ∧ z_69.toInt ≤ 13 := by omega
            refine lv_iconst (v := 1) F.1 F.2.1 dX3_readRight_220 (by decide) ?_
            refine topK (a := 1) (by decide) (fun k_70 hk_70 => ?_)
            refine tAdd (lo := 1) (hi := 14) F dX3_readRight_221 ez_69 (eqb hk_70) rfl (fun z_71 hz_71 => ?_)
            obtain ⟨g_72, hg_72⟩ : ∃ y : Int, z_71.toInt = y := ⟨_, rfl⟩
            have bg_72 : 1 ≤ g_72 ∧ g_72 ≤ 14 := by rw [← hg_72]; exact hz_71.2
            refine tPutG (j := 4) (t := 27) (fd := (.inl (g_72, g_72))) F hK hH hS (List.mem_singleton.mp hq_68) (by decide) rfl rfl (fdI (by omega)) (TB1 := (tbC dA dB rA (riverD (.inl (a, a)) (.inl (g_72, g_72)) (.inl (c, c))) rc (rdD (.inl (g_67, g_67)) (.inl (n, n)) (.inr [27])))) rfl clX2 (by decide) wd_13_4 rfl rfl rfl rfl dX3_readRight_222 (fun H locs hH hS => ?_)
            exact txV F hS dX3_readRight_225 (⟨g_67, (by omega), g_72, (by omega), hH⟩)
          refine z_eq (tgt := 210) F dX3_readRight_197 (by decide) (fun c_73 => ?_) (fun c_73 => ?_)
          · skip
            have r_74 : 0 ≤ z_53.toInt ∧ z_53.toInt ≤ 0 := by have h9_ := f_55; omega
            refine lv_iconst (v := 0) F.1 F.2.1 dX3_readRight_210 (by decide) ?_
            refine topK (a := 0) (by decide) (fun k_76 hk_76 => ?_)
            exact J_211 (k_76, g_63) _ _ _ ⟨(wkb (eqb hk_76) rfl rfl), (show 0 ≤ g_63 ∧ g_63 ≤ 400 from by omega), hH, hS, lv_sub hl [0] rfl⟩
          · skip
            have r_75 : 1 ≤ z_53.toInt ∧ z_53.toInt ≤ 1 := by have h9_ := f_55; omega
            refine lv_aload_n F.1 F.2.1 dX3_readRight_200 rfl (lv_at hl 0 rfl) ?_
            refine lv_iconst (v := 1) F.1 F.2.1 dX3_readRight_201 (by decide) ?_
            refine topK (a := 1) (by decide) (fun k_77 hk_77 => ?_)
            refine lv_bipush (v := 30) F.1 F.2.1 dX3_readRight_202 (by decide) ?_
            refine topK (a := 30) (by decide) (fun k_78 hk_78 => ?_)
            refine tVi (b := a0) (As := [.int k_77, .int k_78]) (rest := [.int z_2, .ref q_65]) F hK hN hO (c_X3_readNumber E dA dB rA (riverD (.inl (a, a)) (.inl (b, b)) (.inl (c, c))) rc (.inr [27]) n g_63 a0 k_77 k_78 ha0 (by omega) (by omega)) mv_X3_readNumber wd_12_19 ⟨Nat.le_of_ble_eq_true rfl, Nat.le_of_ble_eq_true rfl⟩ ⟨Nat.le_of_ble_eq_true rfl, Nat.le_of_ble_eq_true rfl⟩ hH hS (tRecv hK hH (tyb ha0 (all1 rfl)) clX3) rfl hl.1 (Nat.le_of_ble_eq_true rfl) dX3_readRight_204 (fun z_79 H locs hq hS => ?_)
            obtain ⟨g_80, hg_80, f_81, f_82, f_83, hH⟩ := hq
            have hH : TH E (tbC dA dB rA (riverD (.inl (a, a)) (.inl (b, b)) (.inl (c, c))) rc (rdD (.inl (g_80, g_80)) (.inl (n, n)) (.inr [27]))) H := hH
            have ez_79 : 1 ≤ z_79.toInt ∧ z_79.toInt ≤ 30 := by omega
            refine lv_goto (tgt := 211) F.1 F.2.1 dX3_readRight_207 (by decide) ?_
            exact J_211 (z_79, g_80) _ _ _ ⟨(wkb ez_79 rfl rfl), (show 0 ≤ g_80 ∧ g_80 ≤ 400 from by omega), hH, hS, lv_sub hl [0] rfl⟩
        refine z_eq (tgt := 186) F dX3_readRight_173 (by decide) (fun c_84 => ?_) (fun c_84 => ?_)
        · skip
          have r_85 : 0 ≤ z_53.toInt ∧ z_53.toInt ≤ 0 := by have h9_ := f_55; omega
          refine lv_iconst (v := 0) F.1 F.2.1 dX3_readRight_186 (by decide) ?_
          refine topK (a := 0) (by decide) (fun k_87 hk_87 => ?_)
          exact J_187 (k_87, g_59) _ _ _ ⟨(wkb (eqb hk_87) rfl rfl), (show 0 ≤ g_59 ∧ g_59 ≤ 400 from by omega), hH, hS, lv_sub hl [0, 1, 2] rfl⟩
        · skip
          have r_86 : 1 ≤ z_53.toInt ∧ z_53.toInt ≤ 1 := by have h9_ := f_55; omega
          refine lv_aload_n F.1 F.2.1 dX3_readRight_176 rfl (lv_at hl 0 rfl) ?_
          refine lv_iconst (v := 0) F.1 F.2.1 dX3_readRight_177 (by decide) ?_
          refine topK (a := 0) (by decide) (fun k_88 hk_88 => ?_)
          refine lv_bipush (v := 100) F.1 F.2.1 dX3_readRight_178 (by decide) ?_
          refine topK (a := 100) (by decide) (fun k_89 hk_89 => ?_)
          refine tVi (b := a0) (As := [.int k_88, .int k_89]) (rest := [.int z_2, .ref q_61]) F hK hN hO (c_X3_readNumber E dA dB rA (riverD (.inl (a, a)) (.inl (b, b)) (.inl (c, c))) rc (.inr [27]) n g_59 a0 k_88 k_89 ha0 (by omega) (by omega)) mv_X3_readNumber wd_12_19 ⟨Nat.le_of_ble_eq_true rfl, Nat.le_of_ble_eq_true rfl⟩ ⟨Nat.le_of_ble_eq_true rfl, Nat.le_of_ble_eq_true rfl⟩ hH hS (tRecv hK hH (tyb ha0 (all1 rfl)) clX3) rfl hl.1 (Nat.le_of_ble_eq_true rfl) dX3_readRight_180 (fun z_90 H locs hq hS => ?_)
          obtain ⟨g_91, hg_91, f_92, f_93, f_94, hH⟩ := hq
          have hH : TH E (tbC dA dB rA (riverD (.inl (a, a)) (.inl (b, b)) (.inl (c, c))) rc (rdD (.inl (g_91, g_91)) (.inl (n, n)) (.inr [27]))) H := hH
          have ez_90 : 0 ≤ z_90.toInt ∧ z_90.toInt ≤ 100 := by omega
          refine lv_goto (tgt := 187) F.1 F.2.1 dX3_readRight_183 (by decide) ?_
          exact J_187 (z_90, g_91) _ _ _ ⟨ez_90, (show 0 ≤ g_91 ∧ g_91 ≤ 400 from by omega), hH, hS, lv_sub hl [0, 1, 2] rfl⟩
      refine z_eq (tgt := 161) F dX3_readRight_151 (by decide) (fun c_95 => ?_) (fun c_95 => ?_)
      · skip
        have r_96 : 0 ≤ z_53.toInt ∧ z_53.toInt ≤ 0 := by have h9_ := f_55; omega
        refine lv_bipush (v := (-2)) F.1 F.2.1 dX3_readRight_161 (by decide) ?_
        refine topK (a := (-2)) (by decide) (fun k_98 hk_98 => ?_)
        exact J_163 (k_98, g_54) _ _ _ ⟨(wkb (eqb hk_98) rfl rfl), (show 0 ≤ g_54 ∧ g_54 ≤ 400 from by omega), hH, hS, lv_sub hl [1, 2, 0] rfl⟩
      · skip
        have r_97 : 1 ≤ z_53.toInt ∧ z_53.toInt ≤ 1 := by have h9_ := f_55; omega
        refine lv_aload_n F.1 F.2.1 dX3_readRight_154 rfl (lv_at hl 1 rfl) ?_
        refine tVi (b := a0) (As := []) (rest := [.int z_2, .ref q_57]) F hK hN hO (c_X3_readReachNumber_2 E dA dB rA rc a b c n g_54 a0 ha0 (by omega) (by omega) (by omega) (by omega) (by omega)) mv_X3_readReachNumber wd_12_15 ⟨Nat.le_of_ble_eq_true rfl, Nat.le_of_ble_eq_true rfl⟩ ⟨Nat.le_of_ble_eq_true rfl, Nat.le_of_ble_eq_true rfl⟩ hH hS (tRecv hK hH (tyb ha0 (all1 rfl)) clX3) rfl hl.1 (Nat.le_of_ble_eq_true rfl) dX3_readRight_155 (fun z_99 H locs hq hS => ?_)
        obtain ⟨g_100, hg_100, f_101, hH⟩ := hq
        have hH : TH E (tbC dA dB rA (riverD (.inl (a, a)) (.inl (b, b)) (.inl (c, c))) rc (rdD (.inl (g_100, g_100)) (.inl (n, n)) (.inr [27]))) H := hH
        refine lv_goto (tgt := 163) F.1 F.2.1 dX3_readRight_158 (by decide) ?_
        exact J_163 (z_99, g_100) _ _ _ ⟨(wkb f_101 rfl rfl), (show 0 ≤ g_100 ∧ g_100 ≤ 400 from by omega), hH, hS, lv_sub hl [1, 2, 0] rfl⟩
    refine z_eq (tgt := 133) F dX3_readRight_120 (by decide) (fun c_102 => ?_) (fun c_102 => ?_)
    · skip
      have r_103 : 0 ≤ z_48.toInt ∧ z_48.toInt ≤ 0 := by have h9_ := f_50; omega
      refine lv_iconst (v := 0) F.1 F.2.1 dX3_readRight_133 (by decide) ?_
      refine topK (a := 0) (by decide) (fun k_105 hk_105 => ?_)
      exact J_134 (k_105, g_49) _ _ _ ⟨(wkb (eqb hk_105) rfl rfl), (show 0 ≤ g_49 ∧ g_49 ≤ 400 from by omega), hH, hS, lv_sub hl [1, 0] rfl⟩
    · skip
      have r_104 : 1 ≤ z_48.toInt ∧ z_48.toInt ≤ 1 := by have h9_ := f_50; omega
      refine lv_aload_n F.1 F.2.1 dX3_readRight_123 rfl (lv_at hl 1 rfl) ?_
      refine lv_iconst (v := 1) F.1 F.2.1 dX3_readRight_124 (by decide) ?_
      refine topK (a := 1) (by decide) (fun k_106 hk_106 => ?_)
      refine lv_ldc (own := RX3) (v := 999999) F.1 F.2.1 F.2.2.2.2.1 (F.2.2.2.2.2.2.1 _ wd_13_11) dX3_readRight_125 ?_
      refine topK (a := 999999) (by decide) (fun k_107 hk_107 => ?_)
      refine tVi (b := a0) (As := [.int k_106, .int k_107]) (rest := [.int z_2, .ref q_47]) F hK hN hO (c_X3_readNumber E dA dB rA (riverD (.inl (a, a)) (.inl (b, b)) (.inl (c, c))) rc (.inr [27]) n g_49 a0 k_106 k_107 ha0 (by omega) (by omega)) mv_X3_readNumber wd_12_19 ⟨Nat.le_of_ble_eq_true rfl, Nat.le_of_ble_eq_true rfl⟩ ⟨Nat.le_of_ble_eq_true rfl, Nat.le_of_ble_eq_true rfl⟩ hH hS (tRecv hK hH (tyb ha0 (all1 rfl)) clX3) rfl hl.1 (Nat.le_of_ble_eq_true rfl) dX3_readRight_127 (fun z_108 H locs hq hS => ?_)
      obtain ⟨g_109, hg_109, f_110, f_111, f_112, hH⟩ := hq
      have hH : TH E (tbC dA dB rA (riverD (.inl (a, a)) (.inl (b, b)) (.inl (c, c))) rc (rdD (.inl (g_109, g_109)) (.inl (n, n)) (.inr [27]))) H := hH
      have ez_108 : 1 ≤ z_108.toInt ∧ z_108.toInt ≤ 999999 := by omega
      refine lv_goto (tgt := 134) F.1 F.2.1 dX3_readRight_130 (by decide) ?_
      exact J_134 (z_108, g_109) _ _ _ ⟨(wkb ez_108 rfl rfl), (show 0 ≤ g_109 ∧ g_109 ≤ 400 from by omega), hH, hS, lv_sub hl [1, 0] rfl⟩
  · skip
    have r_6 : 14 ≤ z_2.toInt ∧ z_2.toInt ≤ 14 := by have h9_ := ez_2; omega
    refine lv_aload_n F.1 F.2.1 dX3_readRight_14 rfl (lv_at hl 1 rfl) ?_
    refine lv_iload_n F.1 F.2.1 dX3_readRight_15 rfl (lv_at hl 2 rfl) ?_
    refine lv_iconst (v := 3) F.1 F.2.1 dX3_readRight_16 (by decide) ?_
    refine topK (a := 3) (by decide) (fun k_113 hk_113 => ?_)
    refine tVv (b := a0) (As := [.int a1, .int k_113]) (rest := []) F hK hN hO (c_X3_blame E dA dB rA (riverD (.inl (a, a)) (.inl (b, b)) (.inl (c, c))) rc ((.inl (n, n))) ((.inl (p, p))) (.inr [27]) a0 a1 k_113 ha0) mv_X3_blame wd_12_11 ⟨Nat.le_of_ble_eq_true rfl, Nat.le_of_ble_eq_true rfl⟩ ⟨Nat.le_of_ble_eq_true rfl, Nat.le_of_ble_eq_true rfl⟩ hH hS (tRecv hK hH (tyb ha0 (all1 rfl)) clX3) rfl hl.1 (Nat.le_of_ble_eq_true rfl) dX3_readRight_17 (fun H locs hq hS => ?_)
    have hH := hq
    have hH : TH E (tbC dA dB rA (riverD (.inl (a, a)) (.inl (b, b)) (.inl (c, c))) rc (rdD (.inl (p, p)) (.inl (n, n)) (.inr [27]))) H := hH
    exact txV F hS dX3_readRight_20 (⟨p, (by omega), b, (by omega), hH⟩)
set_option maxHeartbeats 4000000 in
set_option maxRecDepth 100000 in
theorem c_X3_readStore_1 (E : Ev) (dA : TD) (dB : TD) (rB : TD) (rc : TD) (a : Int) (b : Int) (c : Int) (n : Int) (p : Int) (a0 : Nat) (a1 : Int32) (ha0 : eT E a0 ∈ [29]) (ha : 0 ≤ a ∧ a ≤ 12) (hb : 0 ≤ b ∧ b ≤ 14) (hc : 0 ≤ c ∧ c ≤ 4) (hn : 0 ≤ n ∧ n ≤ 400) (hp : 0 ≤ p ∧ p ≤ 400) : TcV E yX3_readStore cX3_readStore 3 ({ frames := 7, cells := 0, slots := 0, locals := 226 }) [.ref a0, .int a1] (fun H => TH E (tbC dA dB (riverD (.inl (a, a)) (.inl (b, b)) (.inl (c, c))) rB rc (rdD (.inl (p, p)) (.inl (n, n)) (.inr [26]))) H) (fun H => ∃ p2 : Int, (0 ≤ p2 ∧ p2 ≤ 400) ∧ ∃ c2 : Int, (0 ≤ c2 ∧ c2 ≤ 4) ∧ TH E (tbC dA dB (riverD (.inl (a, a)) (.inl (b, b)) (.inl (c2, c2))) rB rc (rdD (.inl (p2, p2)) (.inl (n, n)) (.inr [26]))) H) := by
  refine teV (by decide) (Nat.le_of_ble_eq_true rfl) ?_
  intro p_ ev_ s mi_ below_ meth cd_ ls F hK hN hO hH hS hl
  have hH : TH E (tbC dA dB (riverD (.inl (a, a)) (.inl (b, b)) (.inl (c, c))) rB rc (rdD (.inl (p, p)) (.inl (n, n)) (.inr [26]))) s.heap := hH
  have hl : lv_has ls 3 [(0, .ref a0), (1, .int a1)] := hl
  refine lv_aload_n F.1 F.2.1 dX3_readStore_0 rfl (lv_at hl 0 rfl) ?_
  refine tGetR (j := 5) F hK hH (tyb ha0 (all1 rfl)) rfl (all1 rfl) clX3 (by decide) wd_5_18 dX3_readStore_1 (fun q_1 hq_1 _ => ?_)
  refine tGetI (j := 14) F hK hH (tyb hq_1 (all1 rfl)) rfl clX2 (by decide) wd_14_3 dX3_readStore_4 (fun z_2 hz_2 => ?_)
  have ez_2 : 0 ≤ z_2.toInt ∧ z_2.toInt ≤ 4 := by omega
  refine lv_istore_n (lv' := [(2, .int z_2), (0, .ref a0), (1, .int a1)]) F.1 F.2.1 dX3_readStore_7 rfl hl (by decide) rfl (fun ls hl => ?_)
  refine lv_iload_n F.1 F.2.1 dX3_readStore_8 rfl (lv_at hl 0 rfl) ?_
  refine lv_iconst (v := 4) F.1 F.2.1 dX3_readStore_9 (by decide) ?_
  refine topK (a := 4) (by decide) (fun k_3 hk_3 => ?_)
  refine b_lt (tgt := 20) F dX3_readStore_10 (by decide) (fun c_4 => ?_) (fun c_4 => ?_)
  · skip
    have r_5 : 0 ≤ z_2.toInt ∧ z_2.toInt ≤ 3 := by have h9_ := ez_2; omega
    refine lv_aload_n F.1 F.2.1 dX3_readStore_20 rfl (lv_at hl 1 rfl) ?_
    refine tGetR (j := 5) F hK hH (tyb ha0 (all1 rfl)) rfl (all1 rfl) clX3 (by decide) wd_5_18 dX3_readStore_21 (fun q_7 hq_7 _ => ?_)
    refine tGetR (j := 15) F hK hH (tyb hq_7 (all1 rfl)) rfl (all1 rfl) clX2 (by decide) wd_14_4 dX3_readStore_24 (fun q_8 hq_8 _ => ?_)
    refine lv_iload_n F.1 F.2.1 dX3_readStore_27 rfl (lv_at hl 0 rfl) ?_
    refine lv_aload_n F.1 F.2.1 dX3_readStore_28 rfl (lv_at hl 1 rfl) ?_
    refine tVi (b := a0) (As := []) (rest := [.int z_2, .ref q_8]) F hK hN hO (c_X3_readReachNumber_1 E dA dB rB rc a b c n p a0 ha0 (by omega) (by omega) (by omega) (by omega) (by omega)) mv_X3_readReachNumber wd_12_15 ⟨Nat.le_of_ble_eq_true rfl, Nat.le_of_ble_eq_true rfl⟩ ⟨Nat.le_of_ble_eq_true rfl, Nat.le_of_ble_eq_true rfl⟩ hH hS (tRecv hK hH (tyb ha0 (all1 rfl)) clX3) rfl hl.1 (Nat.le_of_ble_eq_true rfl) dX3_readStore_29 (fun z_9 H locs hq hS => ?_)
    obtain ⟨g_10, hg_10, f_11, hH⟩ := hq
    have hH : TH E (tbC dA dB (riverD (.inl (a, a)) (.inl (b, b)) (.inl (c, c))) rB rc (rdD (.inl (g_10, g_10)) (.inl (n, n)) (.inr [26]))) H := hH
    refine tIastB F hK hH hS (tyb hq_8 (all1 rfl)) (ixb (n := 4) r_5 rfl rfl) f_11 dX3_readStore_32 (fun H locs hH hS => ?_)
    refine lv_aload_n F.1 F.2.1 dX3_readStore_33 rfl (lv_at hl 1 rfl) ?_
    refine tGetR (j := 5) F hK hH (tyb ha0 (all1 rfl)) rfl (all1 rfl) clX3 (by decide) wd_5_18 dX3_readStore_34 (fun q_12 hq_12 _ => ?_)
    refine tGetR (j := 16) F hK hH (tyb hq_12 (all1 rfl)) rfl (all1 rfl) clX2 (by decide) wd_14_5 dX3_readStore_37 (fun q_13 hq_13 _ => ?_)
    refine lv_iload_n F.1 F.2.1 dX3_readStore_40 rfl (lv_at hl 0 rfl) ?_
    refine lv_aload_n F.1 F.2.1 dX3_readStore_41 rfl (lv_at hl 1 rfl) ?_
    refine lv_iconst (v := 1) F.1 F.2.1 dX3_readStore_42 (by decide) ?_
    refine topK (a := 1) (by decide) (fun k_14 hk_14 => ?_)
    refine lv_ldc (own := RX3) (v := 999999) F.1 F.2.1 F.2.2.2.2.1 (F.2.2.2.2.2.2.1 _ wd_13_11) dX3_readStore_43 ?_
    refine topK (a := 999999) (by decide) (fun k_15 hk_15 => ?_)
    refine tVi (b := a0) (As := [.int k_14, .int k_15]) (rest := [.int z_2, .ref q_13]) F hK hN hO (c_X3_readNumber E dA dB (riverD (.inl (a, a)) (.inl (b, b)) (.inl (c, c))) rB rc (.inr [26]) n g_10 a0 k_14 k_15 ha0 (by omega) (by omega)) mv_X3_readNumber wd_12_19 ⟨Nat.le_of_ble_eq_true rfl, Nat.le_of_ble_eq_true rfl⟩ ⟨Nat.le_of_ble_eq_true rfl, Nat.le_of_ble_eq_true rfl⟩ hH hS (tRecv hK hH (tyb ha0 (all1 rfl)) clX3) rfl hl.1 (Nat.le_of_ble_eq_true rfl) dX3_readStore_45 (fun z_16 H locs hq hS => ?_)
    obtain ⟨g_17, hg_17, f_18, f_19, f_20, hH⟩ := hq
    have hH : TH E (tbC dA dB (riverD (.inl (a, a)) (.inl (b, b)) (.inl (c, c))) rB rc (rdD (.inl (g_17, g_17)) (.inl (n, n)) (.inr [26]))) H := hH
    have ez_16 : 1 ≤ z_16.toInt ∧ z_16.toInt ≤ 999999 := by omega
    refine tIastB F hK hH hS (tyb hq_13 (all1 rfl)) (ixb (n := 4) r_5 rfl rfl) (wkb ez_16 rfl rfl) dX3_readStore_48 (fun H locs hH hS => ?_)
    refine lv_aload_n F.1 F.2.1 dX3_readStore_49 rfl (lv_at hl 1 rfl) ?_
    refine tGetR (j := 5) F hK hH (tyb ha0 (all1 rfl)) rfl (all1 rfl) clX3 (by decide) wd_5_18 dX3_readStore_50 (fun q_21 hq_21 _ => ?_)
    refine tGetR (j := 17) F hK hH (tyb hq_21 (all1 rfl)) rfl (all1 rfl) clX2 (by decide) wd_14_6 dX3_readStore_53 (fun q_22 hq_22 _ => ?_)
    refine lv_iload_n F.1 F.2.1 dX3_readStore_56 rfl (lv_at hl 0 rfl) ?_
    refine lv_aload_n F.1 F.2.1 dX3_readStore_57 rfl (lv_at hl 1 rfl) ?_
    refine lv_iconst (v := 1) F.1 F.2.1 dX3_readStore_58 (by decide) ?_
    refine topK (a := 1) (by decide) (fun k_23 hk_23 => ?_)
    refine lv_sipush (v := 9999) F.1 F.2.1 dX3_readStore_59 (by decide) ?_
    refine topK (a := 9999) (by decide) (fun k_24 hk_24 => ?_)
    refine tVi (b := a0) (As := [.int k_23, .int k_24]) (rest := [.int z_2, .ref q_22]) F hK hN hO (c_X3_readNumber E dA dB (riverD (.inl (a, a)) (.inl (b, b)) (.inl (c, c))) rB rc (.inr [26]) n g_17 a0 k_23 k_24 ha0 (by omega) (by omega)) mv_X3_readNumber wd_12_19 ⟨Nat.le_of_ble_eq_true rfl, Nat.le_of_ble_eq_true rfl⟩ ⟨Nat.le_of_ble_eq_true rfl, Nat.le_of_ble_eq_true rfl⟩ hH hS (tRecv hK hH (tyb ha0 (all1 rfl)) clX3) rfl hl.1 (Nat.le_of_ble_eq_true rfl) dX3_readStore_62 (fun z_25 H locs hq hS => ?_)
    obtain ⟨g_26, hg_26, f_27, f_28, f_29, hH⟩ := hq
    have hH : TH E (tbC dA dB (riverD (.inl (a, a)) (.inl (b, b)) (.inl (c, c))) rB rc (rdD (.inl (g_26, g_26)) (.inl (n, n)) (.inr [26]))) H := hH
    have ez_25 : 1 ≤ z_25.toInt ∧ z_25.toInt ≤ 9999 := by omega
    refine tIastB F hK hH hS (tyb hq_22 (all1 rfl)) (ixb (n := 4) r_5 rfl rfl) (wkb ez_25 rfl rfl) dX3_readStore_65 (fun H locs hH hS => ?_)
    refine lv_aload_n F.1 F.2.1 dX3_readStore_66 rfl (lv_at hl 1 rfl) ?_
    refine tGetR (j := 5) F hK hH (tyb ha0 (all1 rfl)) rfl (all1 rfl) clX3 (by decide) wd_5_18 dX3_readStore_67 (fun q_30 hq_30 _ => ?_)
    refine tGetR (j := 18) F hK hH (tyb hq_30 (all1 rfl)) rfl (all1 rfl) clX2 (by decide) wd_14_7 dX3_readStore_70 (fun q_31 hq_31 _ => ?_)
    refine lv_iload_n F.1 F.2.1 dX3_readStore_73 rfl (lv_at hl 0 rfl) ?_
    refine lv_aload_n F.1 F.2.1 dX3_readStore_74 rfl (lv_at hl 1 rfl) ?_
    refine tVi (b := a0) (As := []) (rest := [.int z_2, .ref q_31]) F hK hN hO (c_X3_readAge_1 E dA dB rB rc a b c n g_26 a0 ha0 (by omega) (by omega) (by omega) (by omega) (by omega)) mv_X3_readAge wd_13_15 ⟨Nat.le_of_ble_eq_true rfl, Nat.le_of_ble_eq_true rfl⟩ ⟨Nat.le_of_ble_eq_true rfl, Nat.le_of_ble_eq_true rfl⟩ hH hS (tRecv hK hH (tyb ha0 (all1 rfl)) clX3) rfl hl.1 (Nat.le_of_ble_eq_true rfl) dX3_readStore_75 (fun z_32 H locs hq hS => ?_)
    obtain ⟨g_33, hg_33, f_34, hH⟩ := hq
    have hH : TH E (tbC dA dB (riverD (.inl (a, a)) (.inl (b, b)) (.inl (c, c))) rB rc (rdD (.inl (g_33, g_33)) (.inl (n, n)) (.inr [26]))) H := hH
    refine tIastB F hK hH hS (tyb hq_31 (all1 rfl)) (ixb (n := 4) r_5 rfl rfl) (wkb f_34 rfl rfl) dX3_readStore_78 (fun H locs hH hS => ?_)
    refine lv_aload_n F.1 F.2.1 dX3_readStore_79 rfl (lv_at hl 1 rfl) ?_
    refine tGetR (j := 5) F hK hH (tyb ha0 (all1 rfl)) rfl (all1 rfl) clX3 (by decide) wd_5_18 dX3_readStore_80 (fun q_35 hq_35 _ => ?_)
    refine lv_dup F.1 F.2.1 dX3_readStore_83 rfl ?_
    refine tGetI (j := 14) F hK hH (tyb hq_35 (all1 rfl)) rfl clX2 (by decide) wd_14_3 dX3_readStore_84 (fun z_36 hz_36 => ?_)
    have ez_36 : 0 ≤ z_36.toInt ∧ z_36.toInt ≤ 3 := by omega
    refine lv_iconst (v := 1) F.1 F.2.1 dX3_readStore_87 (by decide) ?_
    refine topK (a := 1) (by decide) (fun k_37 hk_37 => ?_)
    refine tAdd (lo := 1) (hi := 4) F dX3_readStore_88 ez_36 (eqb hk_37) rfl (fun z_38 hz_38 => ?_)
    obtain ⟨g_39, hg_39⟩ : ∃ y : Int, z_38.toInt = y := ⟨_, rfl⟩
    have bg_39 : 1 ≤ g_39 ∧ g_39 ≤ 4 := by rw [← hg_39]; exact hz_38.2
    refine tPutG (j := 14) (t := 26) (fd := (.inl (g_39, g_39))) F hK hH hS (List.mem_singleton.mp hq_35) (by decide) rfl rfl (fdI (by omega)) (TB1 := (tbC dA dB (riverD (.inl (a, a)) (.inl (b, b)) (.inl (g_39, g_39))) rB rc (rdD (.inl (g_33, g_33)) (.inl (n, n)) (.inr [26])))) rfl clX2 (by decide) wd_14_3 rfl rfl rfl rfl dX3_readStore_89 (fun H locs hH hS => ?_)
    exact txV F hS dX3_readStore_92 (⟨g_33, (by omega), g_39, (by omega), hH⟩)
  · skip
    have r_6 : 4 ≤ z_2.toInt ∧ z_2.toInt ≤ 4 := by have h9_ := ez_2; omega
    refine lv_aload_n F.1 F.2.1 dX3_readStore_13 rfl (lv_at hl 1 rfl) ?_
    refine lv_iload_n F.1 F.2.1 dX3_readStore_14 rfl (lv_at hl 2 rfl) ?_
    refine lv_iconst (v := 3) F.1 F.2.1 dX3_readStore_15 (by decide) ?_
    refine topK (a := 3) (by decide) (fun k_40 hk_40 => ?_)
    refine tVv (b := a0) (As := [.int a1, .int k_40]) (rest := []) F hK hN hO (c_X3_blame E dA dB (riverD (.inl (a, a)) (.inl (b, b)) (.inl (c, c))) rB rc ((.inl (n, n))) ((.inl (p, p))) (.inr [26]) a0 a1 k_40 ha0) mv_X3_blame wd_12_11 ⟨Nat.le_of_ble_eq_true rfl, Nat.le_of_ble_eq_true rfl⟩ ⟨Nat.le_of_ble_eq_true rfl, Nat.le_of_ble_eq_true rfl⟩ hH hS (tRecv hK hH (tyb ha0 (all1 rfl)) clX3) rfl hl.1 (Nat.le_of_ble_eq_true rfl) dX3_readStore_16 (fun H locs hq hS => ?_)
    have hH := hq
    have hH : TH E (tbC dA dB (riverD (.inl (a, a)) (.inl (b, b)) (.inl (c, c))) rB rc (rdD (.inl (p, p)) (.inl (n, n)) (.inr [26]))) H := hH
    exact txV F hS dX3_readStore_19 (⟨p, (by omega), c, (by omega), hH⟩)
set_option maxHeartbeats 4000000 in
set_option maxRecDepth 100000 in
theorem c_X3_readStore_2 (E : Ev) (dA : TD) (dB : TD) (rA : TD) (rc : TD) (a : Int) (b : Int) (c : Int) (n : Int) (p : Int) (a0 : Nat) (a1 : Int32) (ha0 : eT E a0 ∈ [29]) (ha : 0 ≤ a ∧ a ≤ 12) (hb : 0 ≤ b ∧ b ≤ 14) (hc : 0 ≤ c ∧ c ≤ 4) (hn : 0 ≤ n ∧ n ≤ 400) (hp : 0 ≤ p ∧ p ≤ 400) : TcV E yX3_readStore cX3_readStore 3 ({ frames := 7, cells := 0, slots := 0, locals := 226 }) [.ref a0, .int a1] (fun H => TH E (tbC dA dB rA (riverD (.inl (a, a)) (.inl (b, b)) (.inl (c, c))) rc (rdD (.inl (p, p)) (.inl (n, n)) (.inr [27]))) H) (fun H => ∃ p2 : Int, (0 ≤ p2 ∧ p2 ≤ 400) ∧ ∃ c2 : Int, (0 ≤ c2 ∧ c2 ≤ 4) ∧ TH E (tbC dA dB rA (riverD (.inl (a, a)) (.inl (b, b)) (.inl (c2, c2))) rc (rdD (.inl (p2, p2)) (.inl (n, n)) (.inr [27]))) H) := by
  refine teV (by decide) (Nat.le_of_ble_eq_true rfl) ?_
  intro p_ ev_ s mi_ below_ meth cd_ ls F hK hN hO hH hS hl
  have hH : TH E (tbC dA dB rA (riverD (.inl (a, a)) (.inl (b, b)) (.inl (c, c))) rc (rdD (.inl (p, p)) (.inl (n, n)) (.inr [27]))) s.heap := hH
  have hl : lv_has ls 3 [(0, .ref a0), (1, .int a1)] := hl
  refine lv_aload_n F.1 F.2.1 dX3_readStore_0 rfl (lv_at hl 0 rfl) ?_
  refine tGetR (j := 5) F hK hH (tyb ha0 (all1 rfl)) rfl (all1 rfl) clX3 (by decide) wd_5_18 dX3_readStore_1 (fun q_1 hq_1 _ => ?_)
  refine tGetI (j := 14) F hK hH (tyb hq_1 (all1 rfl)) rfl clX2 (by decide) wd_14_3 dX3_readStore_4 (fun z_2 hz_2 => ?_)
  have ez_2 : 0 ≤ z_2.toInt ∧ z_2.toInt ≤ 4 := by omega
  refine lv_istore_n (lv' := [(2, .int z_2), (0, .ref a0), (1, .int a1)]) F.1 F.2.1 dX3_readStore_7 rfl hl (by decide) rfl (fun ls hl => ?_)
  refine lv_iload_n F.1 F.2.1 dX3_readStore_8 rfl (lv_at hl 0 rfl) ?_
  refine lv_iconst (v := 4) F.1 F.2.1 dX3_readStore_9 (by decide) ?_
  refine topK (a := 4) (by decide) (fun k_3 hk_3 => ?_)
  refine b_lt (tgt := 20) F dX3_readStore_10 (by decide) (fun c_4 => ?_) (fun c_4 => ?_)
  · skip
    have r_5 : 0 ≤ z_2.toInt ∧ z_2.toInt ≤ 3 := by have h9_ := ez_2; omega
    refine lv_aload_n F.1 F.2.1 dX3_readStore_20 rfl (lv_at hl 1 rfl) ?_
    refine tGetR (j := 5) F hK hH (tyb ha0 (all1 rfl)) rfl (all1 rfl) clX3 (by decide) wd_5_18 dX3_readStore_21 (fun q_7 hq_7 _ => ?_)
    refine tGetR (j := 15) F hK hH (tyb hq_7 (all1 rfl)) rfl (all1 rfl) clX2 (by decide) wd_14_4 dX3_readStore_24 (fun q_8 hq_8 _ => ?_)
    refine lv_iload_n F.1 F.2.1 dX3_readStore_27 rfl (lv_at hl 0 rfl) ?_
    refine lv_aload_n F.1 F.2.1 dX3_readStore_28 rfl (lv_at hl 1 rfl) ?_
    refine tVi (b := a0) (As := []) (rest := [.int z_2, .ref q_8]) F hK hN hO (c_X3_readReachNumber_2 E dA dB rA rc a b c n p a0 ha0 (by omega) (by omega) (by omega) (by omega) (by omega)) mv_X3_readReachNumber wd_12_15 ⟨Nat.le_of_ble_eq_true rfl, Nat.le_of_ble_eq_true rfl⟩ ⟨Nat.le_of_ble_eq_true rfl, Nat.le_of_ble_eq_true rfl⟩ hH hS (tRecv hK hH (tyb ha0 (all1 rfl)) clX3) rfl hl.1 (Nat.le_of_ble_eq_true rfl) dX3_readStore_29 (fun z_9 H locs hq hS => ?_)
    obtain ⟨g_10, hg_10, f_11, hH⟩ := hq
    have hH : TH E (tbC dA dB rA (riverD (.inl (a, a)) (.inl (b, b)) (.inl (c, c))) rc (rdD (.inl (g_10, g_10)) (.inl (n, n)) (.inr [27]))) H := hH
    refine tIastB F hK hH hS (tyb hq_8 (all1 rfl)) (ixb (n := 4) r_5 rfl rfl) f_11 dX3_readStore_32 (fun H locs hH hS => ?_)
    refine lv_aload_n F.1 F.2.1 dX3_readStore_33 rfl (lv_at hl 1 rfl) ?_
    refine tGetR (j := 5) F hK hH (tyb ha0 (all1 rfl)) rfl (all1 rfl) clX3 (by decide) wd_5_18 dX3_readStore_34 (fun q_12 hq_12 _ => ?_)
    refine tGetR (j := 16) F hK hH (tyb hq_12 (all1 rfl)) rfl (all1 rfl) clX2 (by decide) wd_14_5 dX3_readStore_37 (fun q_13 hq_13 _ => ?_)
    refine lv_iload_n F.1 F.2.1 dX3_readStore_40 rfl (lv_at hl 0 rfl) ?_
    refine lv_aload_n F.1 F.2.1 dX3_readStore_41 rfl (lv_at hl 1 rfl) ?_
    refine lv_iconst (v := 1) F.1 F.2.1 dX3_readStore_42 (by decide) ?_
    refine topK (a := 1) (by decide) (fun k_14 hk_14 => ?_)
    refine lv_ldc (own := RX3) (v := 999999) F.1 F.2.1 F.2.2.2.2.1 (F.2.2.2.2.2.2.1 _ wd_13_11) dX3_readStore_43 ?_
    refine topK (a := 999999) (by decide) (fun k_15 hk_15 => ?_)
    refine tVi (b := a0) (As := [.int k_14, .int k_15]) (rest := [.int z_2, .ref q_13]) F hK hN hO (c_X3_readNumber E dA dB rA (riverD (.inl (a, a)) (.inl (b, b)) (.inl (c, c))) rc (.inr [27]) n g_10 a0 k_14 k_15 ha0 (by omega) (by omega)) mv_X3_readNumber wd_12_19 ⟨Nat.le_of_ble_eq_true rfl, Nat.le_of_ble_eq_true rfl⟩ ⟨Nat.le_of_ble_eq_true rfl, Nat.le_of_ble_eq_true rfl⟩ hH hS (tRecv hK hH (tyb ha0 (all1 rfl)) clX3) rfl hl.1 (Nat.le_of_ble_eq_true rfl) dX3_readStore_45 (fun z_16 H locs hq hS => ?_)
    obtain ⟨g_17, hg_17, f_18, f_19, f_20, hH⟩ := hq
    have hH : TH E (tbC dA dB rA (riverD (.inl (a, a)) (.inl (b, b)) (.inl (c, c))) rc (rdD (.inl (g_17, g_17)) (.inl (n, n)) (.inr [27]))) H := hH
    have ez_16 : 1 ≤ z_16.toInt ∧ z_16.toInt ≤ 999999 := by omega
    refine tIastB F hK hH hS (tyb hq_13 (all1 rfl)) (ixb (n := 4) r_5 rfl rfl) (wkb ez_16 rfl rfl) dX3_readStore_48 (fun H locs hH hS => ?_)
    refine lv_aload_n F.1 F.2.1 dX3_readStore_49 rfl (lv_at hl 1 rfl) ?_
    refine tGetR (j := 5) F hK hH (tyb ha0 (all1 rfl)) rfl (all1 rfl) clX3 (by decide) wd_5_18 dX3_readStore_50 (fun q_21 hq_21 _ => ?_)
    refine tGetR (j := 17) F hK hH (tyb hq_21 (all1 rfl)) rfl (all1 rfl) clX2 (by decide) wd_14_6 dX3_readStore_53 (fun q_22 hq_22 _ => ?_)
    refine lv_iload_n F.1 F.2.1 dX3_readStore_56 rfl (lv_at hl 0 rfl) ?_
    refine lv_aload_n F.1 F.2.1 dX3_readStore_57 rfl (lv_at hl 1 rfl) ?_
    refine lv_iconst (v := 1) F.1 F.2.1 dX3_readStore_58 (by decide) ?_
    refine topK (a := 1) (by decide) (fun k_23 hk_23 => ?_)
    refine lv_sipush (v := 9999) F.1 F.2.1 dX3_readStore_59 (by decide) ?_
    refine topK (a := 9999) (by decide) (fun k_24 hk_24 => ?_)
    refine tVi (b := a0) (As := [.int k_23, .int k_24]) (rest := [.int z_2, .ref q_22]) F hK hN hO (c_X3_readNumber E dA dB rA (riverD (.inl (a, a)) (.inl (b, b)) (.inl (c, c))) rc (.inr [27]) n g_17 a0 k_23 k_24 ha0 (by omega) (by omega)) mv_X3_readNumber wd_12_19 ⟨Nat.le_of_ble_eq_true rfl, Nat.le_of_ble_eq_true rfl⟩ ⟨Nat.le_of_ble_eq_true rfl, Nat.le_of_ble_eq_true rfl⟩ hH hS (tRecv hK hH (tyb ha0 (all1 rfl)) clX3) rfl hl.1 (Nat.le_of_ble_eq_true rfl) dX3_readStore_62 (fun z_25 H locs hq hS => ?_)
    obtain ⟨g_26, hg_26, f_27, f_28, f_29, hH⟩ := hq
    have hH : TH E (tbC dA dB rA (riverD (.inl (a, a)) (.inl (b, b)) (.inl (c, c))) rc (rdD (.inl (g_26, g_26)) (.inl (n, n)) (.inr [27]))) H := hH
    have ez_25 : 1 ≤ z_25.toInt ∧ z_25.toInt ≤ 9999 := by omega
    refine tIastB F hK hH hS (tyb hq_22 (all1 rfl)) (ixb (n := 4) r_5 rfl rfl) (wkb ez_25 rfl rfl) dX3_readStore_65 (fun H locs hH hS => ?_)
    refine lv_aload_n F.1 F.2.1 dX3_readStore_66 rfl (lv_at hl 1 rfl) ?_
    refine tGetR (j := 5) F hK hH (tyb ha0 (all1 rfl)) rfl (all1 rfl) clX3 (by decide) wd_5_18 dX3_readStore_67 (fun q_30 hq_30 _ => ?_)
    refine tGetR (j := 18) F hK hH (tyb hq_30 (all1 rfl)) rfl (all1 rfl) clX2 (by decide) wd_14_7 dX3_readStore_70 (fun q_31 hq_31 _ => ?_)
    refine lv_iload_n F.1 F.2.1 dX3_readStore_73 rfl (lv_at hl 0 rfl) ?_
    refine lv_aload_n F.1 F.2.1 dX3_readStore_74 rfl (lv_at hl 1 rfl) ?_
    refine tVi (b := a0) (As := []) (rest := [.int z_2, .ref q_31]) F hK hN hO (c_X3_readAge_2 E dA dB rA rc a b c n g_26 a0 ha0 (by omega) (by omega) (by omega) (by omega) (by omega)) mv_X3_readAge wd_13_15 ⟨Nat.le_of_ble_eq_true rfl, Nat.le_of_ble_eq_true rfl⟩ ⟨Nat.le_of_ble_eq_true rfl, Nat.le_of_ble_eq_true rfl⟩ hH hS (tRecv hK hH (tyb ha0 (all1 rfl)) clX3) rfl hl.1 (Nat.le_of_ble_eq_true rfl) dX3_readStore_75 (fun z_32 H locs hq hS => ?_)
    obtain ⟨g_33, hg_33, f_34, hH⟩ := hq
    have hH : TH E (tbC dA dB rA (riverD (.inl (a, a)) (.inl (b, b)) (.inl (c, c))) rc (rdD (.inl (g_33, g_33)) (.inl (n, n)) (.inr [27]))) H := hH
    refine tIastB F hK hH hS (tyb hq_31 (all1 rfl)) (ixb (n := 4) r_5 rfl rfl) (wkb f_34 rfl rfl) dX3_readStore_78 (fun H locs hH hS => ?_)
    refine lv_aload_n F.1 F.2.1 dX3_readStore_79 rfl (lv_at hl 1 rfl) ?_
    refine tGetR (j := 5) F hK hH (tyb ha0 (all1 rfl)) rfl (all1 rfl) clX3 (by decide) wd_5_18 dX3_readStore_80 (fun q_35 hq_35 _ => ?_)
    refine lv_dup F.1 F.2.1 dX3_readStore_83 rfl ?_
    refine tGetI (j := 14) F hK hH (tyb hq_35 (all1 rfl)) rfl clX2 (by decide) wd_14_3 dX3_readStore_84 (fun z_36 hz_36 => ?_)
    have ez_36 : 0 ≤ z_36.toInt ∧ z_36.toInt ≤ 3 := by omega
    refine lv_iconst (v := 1) F.1 F.2.1 dX3_readStore_87 (by decide) ?_
    refine topK (a := 1) (by decide) (fun k_37 hk_37 => ?_)
    refine tAdd (lo := 1) (hi := 4) F dX3_readStore_88 ez_36 (eqb hk_37) rfl (fun z_38 hz_38 => ?_)
    obtain ⟨g_39, hg_39⟩ : ∃ y : Int, z_38.toInt = y := ⟨_, rfl⟩
    have bg_39 : 1 ≤ g_39 ∧ g_39 ≤ 4 := by rw [← hg_39]; exact hz_38.2
    refine tPutG (j := 14) (t := 27) (fd := (.inl (g_39, g_39))) F hK hH hS (List.mem_singleton.mp hq_35) (by decide) rfl rfl (fdI (by omega)) (TB1 := (tbC dA dB rA (riverD (.inl (a, a)) (.inl (b, b)) (.inl (g_39, g_39))) rc (rdD (.inl (g_33, g_33)) (.inl (n, n)) (.inr [27])))) rfl clX2 (by decide) wd_14_3 rfl rfl rfl rfl dX3_readStore_89 (fun H locs hH hS => ?_)
    exact txV F hS dX3_readStore_92 (⟨g_33, (by omega), g_39, (by omega), hH⟩)
  · skip
    have r_6 : 4 ≤ z_2.toInt ∧ z_2.toInt ≤ 4 := by have h9_ := ez_2; omega
    refine lv_aload_n F.1 F.2.1 dX3_readStore_13 rfl (lv_at hl 1 rfl) ?_
    refine lv_iload_n F.1 F.2.1 dX3_readStore_14 rfl (lv_at hl 2 rfl) ?_
    refine lv_iconst (v := 3) F.1 F.2.1 dX3_readStore_15 (by decide) ?_
    refine topK (a := 3) (by decide) (fun k_40 hk_40 => ?_)
    refine tVv (b := a0) (As := [.int a1, .int k_40]) (rest := []) F hK hN hO (c_X3_blame E dA dB rA (riverD (.inl (a, a)) (.inl (b, b)) (.inl (c, c))) rc ((.inl (n, n))) ((.inl (p, p))) (.inr [27]) a0 a1 k_40 ha0) mv_X3_blame wd_12_11 ⟨Nat.le_of_ble_eq_true rfl, Nat.le_of_ble_eq_true rfl⟩ ⟨Nat.le_of_ble_eq_true rfl, Nat.le_of_ble_eq_true rfl⟩ hH hS (tRecv hK hH (tyb ha0 (all1 rfl)) clX3) rfl hl.1 (Nat.le_of_ble_eq_true rfl) dX3_readStore_16 (fun H locs hq hS => ?_)
    have hH := hq
    have hH : TH E (tbC dA dB rA (riverD (.inl (a, a)) (.inl (b, b)) (.inl (c, c))) rc (rdD (.inl (p, p)) (.inl (n, n)) (.inr [27]))) H := hH
    exact txV F hS dX3_readStore_19 (⟨p, (by omega), c, (by omega), hH⟩)
set_option maxHeartbeats 4000000 in
set_option maxRecDepth 100000 in
theorem c_X3_readPart_1 (E : Ev) (dA : TD) (dB : TD) (rB : TD) (rc : TD) (a : Int) (b : Int) (c : Int) (n : Int) (p : Int) (a0 : Nat) (ha0 : eT E a0 ∈ [29]) (ha : 0 ≤ a ∧ a ≤ 12) (hb : 0 ≤ b ∧ b ≤ 14) (hc : 0 ≤ c ∧ c ≤ 4) (hn : 0 ≤ n ∧ n ≤ 400) (hp : 0 ≤ p ∧ p ≤ 400) : TcV E yX3_readPart cX3_readPart 2 ({ frames := 8, cells := 0, slots := 0, locals := 249 }) [.ref a0] (fun H => TH E (tbC dA dB (riverD (.inl (a, a)) (.inl (b, b)) (.inl (c, c))) rB rc (rdD (.inl (p, p)) (.inl (n, n)) (.inr [26]))) H) (fun H => ∃ p2 : Int, (0 ≤ p2 ∧ p2 ≤ 400) ∧ ∃ a2 : Int, (0 ≤ a2 ∧ a2 ≤ 12) ∧ ∃ b2 : Int, (0 ≤ b2 ∧ b2 ≤ 14) ∧ ∃ c2 : Int, (0 ≤ c2 ∧ c2 ≤ 4) ∧ TH E (tbC dA dB (riverD (.inl (a2, a2)) (.inl (b2, b2)) (.inl (c2, c2))) rB rc (rdD (.inl (p2, p2)) (.inl (n, n)) (.inr [26]))) H) := by
  refine teV (by decide) (Nat.le_of_ble_eq_true rfl) ?_
  intro p_ ev_ s mi_ below_ meth cd_ ls F hK hN hO hH hS hl
  have hH : TH E (tbC dA dB (riverD (.inl (a, a)) (.inl (b, b)) (.inl (c, c))) rB rc (rdD (.inl (p, p)) (.inl (n, n)) (.inr [26]))) s.heap := hH
  have hl : lv_has ls 2 [(0, .ref a0)] := hl
  refine lv_aload_n F.1 F.2.1 dX3_readPart_0 rfl (lv_at hl 0 rfl) ?_
  refine tVv (b := a0) (As := []) (rest := []) F hK hN hO (c_X3_skipBlanks E dA dB (riverD (.inl (a, a)) (.inl (b, b)) (.inl (c, c))) rB rc (.inr [26]) n p a0 ha0 (by omega) (by omega)) mv_X3_skipBlanks wd_9_14 ⟨Nat.le_of_ble_eq_true rfl, Nat.le_of_ble_eq_true rfl⟩ ⟨Nat.le_of_ble_eq_true rfl, Nat.le_of_ble_eq_true rfl⟩ hH hS (tRecv hK hH (tyb ha0 (all1 rfl)) clX3) rfl hl.1 (Nat.le_of_ble_eq_true rfl) dX3_readPart_1 (fun H locs hq hS => ?_)
  obtain ⟨g_2, hg_2, hH⟩ := hq
  have hH : TH E (tbC dA dB (riverD (.inl (a, a)) (.inl (b, b)) (.inl (c, c))) rB rc (rdD (.inl (g_2, g_2)) (.inl (n, n)) (.inr [26]))) H := hH
  refine lv_aload_n F.1 F.2.1 dX3_readPart_4 rfl (lv_at hl 0 rfl) ?_
  refine tGetI (j := 2) F hK hH (tyb ha0 (all1 rfl)) rfl clX3 (by decide) wd_9_4 dX3_readPart_5 (fun z_3 hz_3 => ?_)
  have ez_3 : 0 ≤ z_3.toInt ∧ z_3.toInt ≤ 400 := by omega
  refine lv_istore_n (lv' := [(1, .int z_3), (0, .ref a0)]) F.1 F.2.1 dX3_readPart_8 rfl hl (by decide) rfl (fun ls hl => ?_)
  refine lv_aload_n F.1 F.2.1 dX3_readPart_9 rfl (lv_at hl 1 rfl) ?_
  refine va_ldcS F.1 F.2.1 F.2.2.2.2.1 (hO.1 0 _ rfl).1 dX3_readPart_10 ?_
  refine tVi (b := a0) (As := [.ref (eX E 0)]) (rest := []) F hK hN hO (c_X3_isNext E dA dB (riverD (.inl (a, a)) (.inl (b, b)) (.inl (c, c))) rB rc (.inr [26]) n g_2 a0 0 5 ha0 (strAt 0 rfl) (by omega) (by omega)) mv_X3_isNext wd_9_22 ⟨Nat.le_of_ble_eq_true rfl, Nat.le_of_ble_eq_true rfl⟩ ⟨Nat.le_of_ble_eq_true rfl, Nat.le_of_ble_eq_true rfl⟩ hH hS (tRecv hK hH (tyb ha0 (all1 rfl)) clX3) rfl hl.1 (Nat.le_of_ble_eq_true rfl) dX3_readPart_12 (fun z_4 H locs hq hS => ?_)
  obtain ⟨g_5, hg_5, f_6, hH⟩ := hq
  have hH : TH E (tbC dA dB (riverD (.inl (a, a)) (.inl (b, b)) (.inl (c, c))) rB rc (rdD (.inl (g_5, g_5)) (.inl (n, n)) (.inr [26]))) H := hH
  refine z_eq (tgt := 26) F dX3_readPart_15 (by decide) (fun c_7 => ?_) (fun c_7 => ?_)
  · skip
    have r_8 : 0 ≤ z_4.toInt ∧ z_4.toInt ≤ 0 := by have h9_ := f_6; omega
    refine lv_aload_n F.1 F.2.1 dX3_readPart_26 rfl (lv_at hl 1 rfl) ?_
    refine va_ldcS F.1 F.2.1 F.2.2.2.2.1 (hO.1 3 _ rfl).1 dX3_readPart_27 ?_
    refine tVi (b := a0) (As := [.ref (eX E 3)]) (rest := []) F hK hN hO (c_X3_isNext E dA dB (riverD (.inl (a, a)) (.inl (b, b)) (.inl (c, c))) rB rc (.inr [26]) n g_5 a0 3 5 ha0 (strAt 3 rfl) (by omega) (by omega)) mv_X3_isNext wd_9_22 ⟨Nat.le_of_ble_eq_true rfl, Nat.le_of_ble_eq_true rfl⟩ ⟨Nat.le_of_ble_eq_true rfl, Nat.le_of_ble_eq_true rfl⟩ hH hS (tRecv hK hH (tyb ha0 (all1 rfl)) clX3) rfl hl.1 (Nat.le_of_ble_eq_true rfl) dX3_readPart_29 (fun z_10 H locs hq hS => ?_)
    obtain ⟨g_11, hg_11, f_12, hH⟩ := hq
    have hH : TH E (tbC dA dB (riverD (.inl (a, a)) (.inl (b, b)) (.inl (c, c))) rB rc (rdD (.inl (g_11, g_11)) (.inl (n, n)) (.inr [26]))) H := hH
    refine z_eq (tgt := 43) F dX3_readPart_32 (by decide) (fun c_13 => ?_) (fun c_13 => ?_)
    · skip
      have r_14 : 0 ≤ z_10.toInt ∧ z_10.toInt ≤ 0 := by have h9_ := f_12; omega
      refine lv_aload_n F.1 F.2.1 dX3_readPart_43 rfl (lv_at hl 1 rfl) ?_
      refine va_ldcS F.1 F.2.1 F.2.2.2.2.1 (hO.1 7 _ rfl).1 dX3_readPart_44 ?_
      refine tVi (b := a0) (As := [.ref (eX E 7)]) (rest := []) F hK hN hO (c_X3_isNext E dA dB (riverD (.inl (a, a)) (.inl (b, b)) (.inl (c, c))) rB rc (.inr [26]) n g_11 a0 7 5 ha0 (strAt 7 rfl) (by omega) (by omega)) mv_X3_isNext wd_9_22 ⟨Nat.le_of_ble_eq_true rfl, Nat.le_of_ble_eq_true rfl⟩ ⟨Nat.le_of_ble_eq_true rfl, Nat.le_of_ble_eq_true rfl⟩ hH hS (tRecv hK hH (tyb ha0 (all1 rfl)) clX3) rfl hl.1 (Nat.le_of_ble_eq_true rfl) dX3_readPart_46 (fun z_16 H locs hq hS => ?_)
      obtain ⟨g_17, hg_17, f_18, hH⟩ := hq
      have hH : TH E (tbC dA dB (riverD (.inl (a, a)) (.inl (b, b)) (.inl (c, c))) rB rc (rdD (.inl (g_17, g_17)) (.inl (n, n)) (.inr [26]))) H := hH
      refine z_eq (tgt := 60) F dX3_readPart_49 (by decide) (fun c_19 => ?_) (fun c_19 => ?_)
      · skip
        have r_20 : 0 ≤ z_16.toInt ∧ z_16.toInt ≤ 0 := by have h9_ := f_18; omega
        refine lv_aload_n F.1 F.2.1 dX3_readPart_60 rfl (lv_at hl 1 rfl) ?_
        refine va_ldcS F.1 F.2.1 F.2.2.2.2.1 (hO.1 8 _ rfl).1 dX3_readPart_61 ?_
        refine tVi (b := a0) (As := [.ref (eX E 8)]) (rest := []) F hK hN hO (c_X3_isNext E dA dB (riverD (.inl (a, a)) (.inl (b, b)) (.inl (c, c))) rB rc (.inr [26]) n g_17 a0 8 3 ha0 (strAt 8 rfl) (by omega) (by omega)) mv_X3_isNext wd_9_22 ⟨Nat.le_of_ble_eq_true rfl, Nat.le_of_ble_eq_true rfl⟩ ⟨Nat.le_of_ble_eq_true rfl, Nat.le_of_ble_eq_true rfl⟩ hH hS (tRecv hK hH (tyb ha0 (all1 rfl)) clX3) rfl hl.1 (Nat.le_of_ble_eq_true rfl) dX3_readPart_63 (fun z_22 H locs hq hS => ?_)
        obtain ⟨g_23, hg_23, f_24, hH⟩ := hq
        have hH : TH E (tbC dA dB (riverD (.inl (a, a)) (.inl (b, b)) (.inl (c, c))) rB rc (rdD (.inl (g_23, g_23)) (.inl (n, n)) (.inr [26]))) H := hH
        refine z_eq (tgt := 77) F dX3_readPart_66 (by decide) (fun c_25 => ?_) (fun c_25 => ?_)
        · skip
          have r_26 : 0 ≤ z_22.toInt ∧ z_22.toInt ≤ 0 := by have h9_ := f_24; omega
          refine lv_aload_n F.1 F.2.1 dX3_readPart_77 rfl (lv_at hl 1 rfl) ?_
          refine lv_iload_n F.1 F.2.1 dX3_readPart_78 rfl (lv_at hl 0 rfl) ?_
          refine lv_iconst (v := 1) F.1 F.2.1 dX3_readPart_79 (by decide) ?_
          refine topK (a := 1) (by decide) (fun k_28 hk_28 => ?_)
          refine tVv (b := a0) (As := [.int z_3, .int k_28]) (rest := []) F hK hN hO (c_X3_blame E dA dB (riverD (.inl (a, a)) (.inl (b, b)) (.inl (c, c))) rB rc ((.inl (n, n))) ((.inl (g_23, g_23))) (.inr [26]) a0 z_3 k_28 ha0) mv_X3_blame wd_12_11 ⟨Nat.le_of_ble_eq_true rfl, Nat.le_of_ble_eq_true rfl⟩ ⟨Nat.le_of_ble_eq_true rfl, Nat.le_of_ble_eq_true rfl⟩ hH hS (tRecv hK hH (tyb ha0 (all1 rfl)) clX3) rfl hl.1 (Nat.le_of_ble_eq_true rfl) dX3_readPart_80 (fun H locs hq hS => ?_)
          have hH := hq
          have hH : TH E (tbC dA dB (riverD (.inl (a, a)) (.inl (b, b)) (.inl (c, c))) rB rc (rdD (.inl (g_23, g_23)) (.inl (n, n)) (.inr [26]))) H := hH
          exact txV F hS dX3_readPart_83 (⟨g_23, (by omega), a, (by omega), b, (by omega), c, (by omega), hH⟩)
        · skip
          have r_27 : 1 ≤ z_22.toInt ∧ z_22.toInt ≤ 1 := by have h9_ := f_24; omega
          refine lv_aload_n F.1 F.2.1 dX3_readPart_69 rfl (lv_at hl 1 rfl) ?_
          refine lv_iload_n F.1 F.2.1 dX3_readPart_70 rfl (lv_at hl 0 rfl) ?_
          refine tVv (b := a0) (As := [.int z_3]) (rest := []) F hK hN hO (c_X3_readWet_1 E dA dB rB rc a b c n g_23 a0 z_3 ha0 (by omega) (by omega) (by omega) (by omega) (by omega)) mv_X3_readWet wd_14_8 ⟨Nat.le_of_ble_eq_true rfl, Nat.le_of_ble_eq_true rfl⟩ ⟨Nat.le_of_ble_eq_true rfl, Nat.le_of_ble_eq_true rfl⟩ hH hS (tRecv hK hH (tyb ha0 (all1 rfl)) clX3) rfl hl.1 (Nat.le_of_ble_eq_true rfl) dX3_readPart_71 (fun H locs hq hS => ?_)
          obtain ⟨g_31, hg_31, hH⟩ := hq
          have hH : TH E (tbC dA dB (riverD (.inl (a, a)) (.inl (b, b)) (.inl (c, c))) rB rc (rdD (.inl (g_31, g_31)) (.inl (n, n)) (.inr [26]))) H := hH
          refine lv_goto (tgt := 83) F.1 F.2.1 dX3_readPart_74 (by decide) ?_
          exact txV F hS dX3_readPart_83 (⟨g_31, (by omega), a, (by omega), b, (by omega), c, (by omega), hH⟩)
      · skip
        have r_21 : 1 ≤ z_16.toInt ∧ z_16.toInt ≤ 1 := by have h9_ := f_18; omega
        refine lv_aload_n F.1 F.2.1 dX3_readPart_52 rfl (lv_at hl 1 rfl) ?_
        refine lv_iload_n F.1 F.2.1 dX3_readPart_53 rfl (lv_at hl 0 rfl) ?_
        refine tVv (b := a0) (As := [.int z_3]) (rest := []) F hK hN hO (c_X3_readStore_1 E dA dB rB rc a b c n g_17 a0 z_3 ha0 (by omega) (by omega) (by omega) (by omega) (by omega)) mv_X3_readStore wd_13_23 ⟨Nat.le_of_ble_eq_true rfl, Nat.le_of_ble_eq_true rfl⟩ ⟨Nat.le_of_ble_eq_true rfl, Nat.le_of_ble_eq_true rfl⟩ hH hS (tRecv hK hH (tyb ha0 (all1 rfl)) clX3) rfl hl.1 (Nat.le_of_ble_eq_true rfl) dX3_readPart_54 (fun H locs hq hS => ?_)
        obtain ⟨g_33, hg_33, g_34, hg_34, hH⟩ := hq
        have hH : TH E (tbC dA dB (riverD (.inl (a, a)) (.inl (b, b)) (.inl (g_34, g_34))) rB rc (rdD (.inl (g_33, g_33)) (.inl (n, n)) (.inr [26]))) H := hH
        refine lv_goto (tgt := 83) F.1 F.2.1 dX3_readPart_57 (by decide) ?_
        exact txV F hS dX3_readPart_83 (⟨g_33, (by omega), a, (by omega), b, (by omega), g_34, (by omega), hH⟩)
    · skip
      have r_15 : 1 ≤ z_10.toInt ∧ z_10.toInt ≤ 1 := by have h9_ := f_12; omega
      refine lv_aload_n F.1 F.2.1 dX3_readPart_35 rfl (lv_at hl 1 rfl) ?_
      refine lv_iload_n F.1 F.2.1 dX3_readPart_36 rfl (lv_at hl 0 rfl) ?_
      refine tVv (b := a0) (As := [.int z_3]) (rest := []) F hK hN hO (c_X3_readRight_1 E dA dB rB rc a b c n g_11 a0 z_3 ha0 (by omega) (by omega) (by omega) (by omega) (by omega)) mv_X3_readRight wd_13_0 ⟨Nat.le_of_ble_eq_true rfl, Nat.le_of_ble_eq_true rfl⟩ ⟨Nat.le_of_ble_eq_true rfl, Nat.le_of_ble_eq_true rfl⟩ hH hS (tRecv hK hH (tyb ha0 (all1 rfl)) clX3) rfl hl.1 (Nat.le_of_ble_eq_true rfl) dX3_readPart_37 (fun H locs hq hS => ?_)
      obtain ⟨g_36, hg_36, g_37, hg_37, hH⟩ := hq
      have hH : TH E (tbC dA dB (riverD (.inl (a, a)) (.inl (g_37, g_37)) (.inl (c, c))) rB rc (rdD (.inl (g_36, g_36)) (.inl (n, n)) (.inr [26]))) H := hH
      refine lv_goto (tgt := 83) F.1 F.2.1 dX3_readPart_40 (by decide) ?_
      exact txV F hS dX3_readPart_83 (⟨g_36, (by omega), a, (by omega), g_37, (by omega), c, (by omega), hH⟩)
  · skip
    have r_9 : 1 ≤ z_4.toInt ∧ z_4.toInt ≤ 1 := by have h9_ := f_6; omega
    refine lv_aload_n F.1 F.2.1 dX3_readPart_18 rfl (lv_at hl 1 rfl) ?_
    refine lv_iload_n F.1 F.2.1 dX3_readPart_19 rfl (lv_at hl 0 rfl) ?_
    refine tVv (b := a0) (As := [.int z_3]) (rest := []) F hK hN hO (c_X3_readReach_1 E dA dB rB rc a b c n g_5 a0 z_3 ha0 (by omega) (by omega) (by omega) (by omega) (by omega)) mv_X3_readReach wd_12_3 ⟨Nat.le_of_ble_eq_true rfl, Nat.le_of_ble_eq_true rfl⟩ ⟨Nat.le_of_ble_eq_true rfl, Nat.le_of_ble_eq_true rfl⟩ hH hS (tRecv hK hH (tyb ha0 (all1 rfl)) clX3) rfl hl.1 (Nat.le_of_ble_eq_true rfl) dX3_readPart_20 (fun H locs hq hS => ?_)
    obtain ⟨g_39, hg_39, g_40, hg_40, hH⟩ := hq
    have hH : TH E (tbC dA dB (riverD (.inl (g_40, g_40)) (.inl (b, b)) (.inl (c, c))) rB rc (rdD (.inl (g_39, g_39)) (.inl (n, n)) (.inr [26]))) H := hH
    refine lv_goto (tgt := 83) F.1 F.2.1 dX3_readPart_23 (by decide) ?_
    exact txV F hS dX3_readPart_83 (⟨g_39, (by omega), g_40, (by omega), b, (by omega), c, (by omega), hH⟩)
set_option maxHeartbeats 4000000 in
set_option maxRecDepth 100000 in
theorem c_X3_readPart_2 (E : Ev) (dA : TD) (dB : TD) (rA : TD) (rc : TD) (a : Int) (b : Int) (c : Int) (n : Int) (p : Int) (a0 : Nat) (ha0 : eT E a0 ∈ [29]) (ha : 0 ≤ a ∧ a ≤ 12) (hb : 0 ≤ b ∧ b ≤ 14) (hc : 0 ≤ c ∧ c ≤ 4) (hn : 0 ≤ n ∧ n ≤ 400) (hp : 0 ≤ p ∧ p ≤ 400) : TcV E yX3_readPart cX3_readPart 2 ({ frames := 8, cells := 0, slots := 0, locals := 249 }) [.ref a0] (fun H => TH E (tbC dA dB rA (riverD (.inl (a, a)) (.inl (b, b)) (.inl (c, c))) rc (rdD (.inl (p, p)) (.inl (n, n)) (.inr [27]))) H) (fun H => ∃ p2 : Int, (0 ≤ p2 ∧ p2 ≤ 400) ∧ ∃ a2 : Int, (0 ≤ a2 ∧ a2 ≤ 12) ∧ ∃ b2 : Int, (0 ≤ b2 ∧ b2 ≤ 14) ∧ ∃ c2 : Int, (0 ≤ c2 ∧ c2 ≤ 4) ∧ TH E (tbC dA dB rA (riverD (.inl (a2, a2)) (.inl (b2, b2)) (.inl (c2, c2))) rc (rdD (.inl (p2, p2)) (.inl (n, n)) (.inr [27]))) H) := by
  refine teV (by decide) (Nat.le_of_ble_eq_true rfl) ?_
  intro p_ ev_ s mi_ below_ meth cd_ ls F hK hN hO hH hS hl
  have hH : TH E (tbC dA dB rA (riverD (.inl (a, a)) (.inl (b, b)) (.inl (c, c))) rc (rdD (.inl (p, p)) (.inl (n, n)) (.inr [27]))) s.heap := hH
  have hl : lv_has ls 2 [(0, .ref a0)] := hl
  refine lv_aload_n F.1 F.2.1 dX3_readPart_0 rfl (lv_at hl 0 rfl) ?_
  refine tVv (b := a0) (As := []) (rest := []) F hK hN hO (c_X3_skipBlanks E dA dB rA (riverD (.inl (a, a)) (.inl (b, b)) (.inl (c, c))) rc (.inr [27]) n p a0 ha0 (by omega) (by omega)) mv_X3_skipBlanks wd_9_14 ⟨Nat.le_of_ble_eq_true rfl, Nat.le_of_ble_eq_true rfl⟩ ⟨Nat.le_of_ble_eq_true rfl, Nat.le_of_ble_eq_true rfl⟩ hH hS (tRecv hK hH (tyb ha0 (all1 rfl)) clX3) rfl hl.1 (Nat.le_of_ble_eq_true rfl) dX3_readPart_1 (fun H locs hq hS => ?_)
  obtain ⟨g_2, hg_2, hH⟩ := hq
  have hH : TH E (tbC dA dB rA (riverD (.inl (a, a)) (.inl (b, b)) (.inl (c, c))) rc (rdD (.inl (g_2, g_2)) (.inl (n, n)) (.inr [27]))) H := hH
  refine lv_aload_n F.1 F.2.1 dX3_readPart_4 rfl (lv_at hl 0 rfl) ?_
  refine tGetI (j := 2) F hK hH (tyb ha0 (all1 rfl)) rfl clX3 (by decide) wd_9_4 dX3_readPart_5 (fun z_3 hz_3 => ?_)
  have ez_3 : 0 ≤ z_3.toInt ∧ z_3.toInt ≤ 400 := by omega
  refine lv_istore_n (lv' := [(1, .int z_3), (0, .ref a0)]) F.1 F.2.1 dX3_readPart_8 rfl hl (by decide) rfl (fun ls hl => ?_)
  refine lv_aload_n F.1 F.2.1 dX3_readPart_9 rfl (lv_at hl 1 rfl) ?_
  refine va_ldcS F.1 F.2.1 F.2.2.2.2.1 (hO.1 0 _ rfl).1 dX3_readPart_10 ?_
  refine tVi (b := a0) (As := [.ref (eX E 0)]) (rest := []) F hK hN hO (c_X3_isNext E dA dB rA (riverD (.inl (a, a)) (.inl (b, b)) (.inl (c, c))) rc (.inr [27]) n g_2 a0 0 5 ha0 (strAt 0 rfl) (by omega) (by omega)) mv_X3_isNext wd_9_22 ⟨Nat.le_of_ble_eq_true rfl, Nat.le_of_ble_eq_true rfl⟩ ⟨Nat.le_of_ble_eq_true rfl, Nat.le_of_ble_eq_true rfl⟩ hH hS (tRecv hK hH (tyb ha0 (all1 rfl)) clX3) rfl hl.1 (Nat.le_of_ble_eq_true rfl) dX3_readPart_12 (fun z_4 H locs hq hS => ?_)
  obtain ⟨g_5, hg_5, f_6, hH⟩ := hq
  have hH : TH E (tbC dA dB rA (riverD (.inl (a, a)) (.inl (b, b)) (.inl (c, c))) rc (rdD (.inl (g_5, g_5)) (.inl (n, n)) (.inr [27]))) H := hH
  refine z_eq (tgt := 26) F dX3_readPart_15 (by decide) (fun c_7 => ?_) (fun c_7 => ?_)
  · skip
    have r_8 : 0 ≤ z_4.toInt ∧ z_4.toInt ≤ 0 := by have h9_ := f_6; omega
    refine lv_aload_n F.1 F.2.1 dX3_readPart_26 rfl (lv_at hl 1 rfl) ?_
    refine va_ldcS F.1 F.2.1 F.2.2.2.2.1 (hO.1 3 _ rfl).1 dX3_readPart_27 ?_
    refine tVi (b := a0) (As := [.ref (eX E 3)]) (rest := []) F hK hN hO (c_X3_isNext E dA dB rA (riverD (.inl (a, a)) (.inl (b, b)) (.inl (c, c))) rc (.inr [27]) n g_5 a0 3 5 ha0 (strAt 3 rfl) (by omega) (by omega)) mv_X3_isNext wd_9_22 ⟨Nat.le_of_ble_eq_true rfl, Nat.le_of_ble_eq_true rfl⟩ ⟨Nat.le_of_ble_eq_true rfl, Nat.le_of_ble_eq_true rfl⟩ hH hS (tRecv hK hH (tyb ha0 (all1 rfl)) clX3) rfl hl.1 (Nat.le_of_ble_eq_true rfl) dX3_readPart_29 (fun z_10 H locs hq hS => ?_)
    obtain ⟨g_11, hg_11, f_12, hH⟩ := hq
    have hH : TH E (tbC dA dB rA (riverD (.inl (a, a)) (.inl (b, b)) (.inl (c, c))) rc (rdD (.inl (g_11, g_11)) (.inl (n, n)) (.inr [27]))) H := hH
    refine z_eq (tgt := 43) F dX3_readPart_32 (by decide) (fun c_13 => ?_) (fun c_13 => ?_)
    · skip
      have r_14 : 0 ≤ z_10.toInt ∧ z_10.toInt ≤ 0 := by have h9_ := f_12; omega
      refine lv_aload_n F.1 F.2.1 dX3_readPart_43 rfl (lv_at hl 1 rfl) ?_
      refine va_ldcS F.1 F.2.1 F.2.2.2.2.1 (hO.1 7 _ rfl).1 dX3_readPart_44 ?_
      refine tVi (b := a0) (As := [.ref (eX E 7)]) (rest := []) F hK hN hO (c_X3_isNext E dA dB rA (riverD (.inl (a, a)) (.inl (b, b)) (.inl (c, c))) rc (.inr [27]) n g_11 a0 7 5 ha0 (strAt 7 rfl) (by omega) (by omega)) mv_X3_isNext wd_9_22 ⟨Nat.le_of_ble_eq_true rfl, Nat.le_of_ble_eq_true rfl⟩ ⟨Nat.le_of_ble_eq_true rfl, Nat.le_of_ble_eq_true rfl⟩ hH hS (tRecv hK hH (tyb ha0 (all1 rfl)) clX3) rfl hl.1 (Nat.le_of_ble_eq_true rfl) dX3_readPart_46 (fun z_16 H locs hq hS => ?_)
      obtain ⟨g_17, hg_17, f_18, hH⟩ := hq
      have hH : TH E (tbC dA dB rA (riverD (.inl (a, a)) (.inl (b, b)) (.inl (c, c))) rc (rdD (.inl (g_17, g_17)) (.inl (n, n)) (.inr [27]))) H := hH
      refine z_eq (tgt := 60) F dX3_readPart_49 (by decide) (fun c_19 => ?_) (fun c_19 => ?_)
      · skip
        have r_20 : 0 ≤ z_16.toInt ∧ z_16.toInt ≤ 0 := by have h9_ := f_18; omega
        refine lv_aload_n F.1 F.2.1 dX3_readPart_60 rfl (lv_at hl 1 rfl) ?_
        refine va_ldcS F.1 F.2.1 F.2.2.2.2.1 (hO.1 8 _ rfl).1 dX3_readPart_61 ?_
        refine tVi (b := a0) (As := [.ref (eX E 8)]) (rest := []) F hK hN hO (c_X3_isNext E dA dB rA (riverD (.inl (a, a)) (.inl (b, b)) (.inl (c, c))) rc (.inr [27]) n g_17 a0 8 3 ha0 (strAt 8 rfl) (by omega) (by omega)) mv_X3_isNext wd_9_22 ⟨Nat.le_of_ble_eq_true rfl, Nat.le_of_ble_eq_true rfl⟩ ⟨Nat.le_of_ble_eq_true rfl, Nat.le_of_ble_eq_true rfl⟩ hH hS (tRecv hK hH (tyb ha0 (all1 rfl)) clX3) rfl hl.1 (Nat.le_of_ble_eq_true rfl) dX3_readPart_63 (fun z_22 H locs hq hS => ?_)
        obtain ⟨g_23, hg_23, f_24, hH⟩ := hq
        have hH : TH E (tbC dA dB rA (riverD (.inl (a, a)) (.inl (b, b)) (.inl (c, c))) rc (rdD (.inl (g_23, g_23)) (.inl (n, n)) (.inr [27]))) H := hH
        refine z_eq (tgt := 77) F dX3_readPart_66 (by decide) (fun c_25 => ?_) (fun c_25 => ?_)
        · skip
          have r_26 : 0 ≤ z_22.toInt ∧ z_22.toInt ≤ 0 := by have h9_ := f_24; omega
          refine lv_aload_n F.1 F.2.1 dX3_readPart_77 rfl (lv_at hl 1 rfl) ?_
          refine lv_iload_n F.1 F.2.1 dX3_readPart_78 rfl (lv_at hl 0 rfl) ?_
          refine lv_iconst (v := 1) F.1 F.2.1 dX3_readPart_79 (by decide) ?_
          refine topK (a := 1) (by decide) (fun k_28 hk_28 => ?_)
          refine tVv (b := a0) (As := [.int z_3, .int k_28]) (rest := []) F hK hN hO (c_X3_blame E dA dB rA (riverD (.inl (a, a)) (.inl (b, b)) (.inl (c, c))) rc ((.inl (n, n))) ((.inl (g_23, g_23))) (.inr [27]) a0 z_3 k_28 ha0) mv_X3_blame wd_12_11 ⟨Nat.le_of_ble_eq_true rfl, Nat.le_of_ble_eq_true rfl⟩ ⟨Nat.le_of_ble_eq_true rfl, Nat.le_of_ble_eq_true rfl⟩ hH hS (tRecv hK hH (tyb ha0 (all1 rfl)) clX3) rfl hl.1 (Nat.le_of_ble_eq_true rfl) dX3_readPart_80 (fun H locs hq hS => ?_)
          have hH := hq
          have hH : TH E (tbC dA dB rA (riverD (.inl (a, a)) (.inl (b, b)) (.inl (c, c))) rc (rdD (.inl (g_23, g_23)) (.inl (n, n)) (.inr [27]))) H := hH
          exact txV F hS dX3_readPart_83 (⟨g_23, (by omega), a, (by omega), b, (by omega), c, (by omega), hH⟩)
        · skip
          have r_27 : 1 ≤ z_22.toInt ∧ z_22.toInt ≤ 1 := by have h9_ := f_24; omega
          refine lv_aload_n F.1 F.2.1 dX3_readPart_69 rfl (lv_at hl 1 rfl) ?_
          refine lv_iload_n F.1 F.2.1 dX3_readPart_70 rfl (lv_at hl 0 rfl) ?_
          refine tVv (b := a0) (As := [.int z_3]) (rest := []) F hK hN hO (c_X3_readWet_2 E dA dB rA rc a b c n g_23 a0 z_3 ha0 (by omega) (by omega) (by omega) (by omega) (by omega)) mv_X3_readWet wd_14_8 ⟨Nat.le_of_ble_eq_true rfl, Nat.le_of_ble_eq_true rfl⟩ ⟨Nat.le_of_ble_eq_true rfl, Nat.le_of_ble_eq_true rfl⟩ hH hS (tRecv hK hH (tyb ha0 (all1 rfl)) clX3) rfl hl.1 (Nat.le_of_ble_eq_true rfl) dX3_readPart_71 (fun H locs hq hS => ?_)
          obtain ⟨g_31, hg_31, hH⟩ := hq
          have hH : TH E (tbC dA dB rA (riverD (.inl (a, a)) (.inl (b, b)) (.inl (c, c))) rc (rdD (.inl (g_31, g_31)) (.inl (n, n)) (.inr [27]))) H := hH
          refine lv_goto (tgt := 83) F.1 F.2.1 dX3_readPart_74 (by decide) ?_
          exact txV F hS dX3_readPart_83 (⟨g_31, (by omega), a, (by omega), b, (by omega), c, (by omega), hH⟩)
      · skip
        have r_21 : 1 ≤ z_16.toInt ∧ z_16.toInt ≤ 1 := by have h9_ := f_18; omega
        refine lv_aload_n F.1 F.2.1 dX3_readPart_52 rfl (lv_at hl 1 rfl) ?_
        refine lv_iload_n F.1 F.2.1 dX3_readPart_53 rfl (lv_at hl 0 rfl) ?_
        refine tVv (b := a0) (As := [.int z_3]) (rest := []) F hK hN hO (c_X3_readStore_2 E dA dB rA rc a b c n g_17 a0 z_3 ha0 (by omega) (by omega) (by omega) (by omega) (by omega)) mv_X3_readStore wd_13_23 ⟨Nat.le_of_ble_eq_true rfl, Nat.le_of_ble_eq_true rfl⟩ ⟨Nat.le_of_ble_eq_true rfl, Nat.le_of_ble_eq_true rfl⟩ hH hS (tRecv hK hH (tyb ha0 (all1 rfl)) clX3) rfl hl.1 (Nat.le_of_ble_eq_true rfl) dX3_readPart_54 (fun H locs hq hS => ?_)
        obtain ⟨g_33, hg_33, g_34, hg_34, hH⟩ := hq
        have hH : TH E (tbC dA dB rA (riverD (.inl (a, a)) (.inl (b, b)) (.inl (g_34, g_34))) rc (rdD (.inl (g_33, g_33)) (.inl (n, n)) (.inr [27]))) H := hH
        refine lv_goto (tgt := 83) F.1 F.2.1 dX3_readPart_57 (by decide) ?_
        exact txV F hS dX3_readPart_83 (⟨g_33, (by omega), a, (by omega), b, (by omega), g_34, (by omega), hH⟩)
    · skip
      have r_15 : 1 ≤ z_10.toInt ∧ z_10.toInt ≤ 1 := by have h9_ := f_12; omega
      refine lv_aload_n F.1 F.2.1 dX3_readPart_35 rfl (lv_at hl 1 rfl) ?_
      refine lv_iload_n F.1 F.2.1 dX3_readPart_36 rfl (lv_at hl 0 rfl) ?_
      refine tVv (b := a0) (As := [.int z_3]) (rest := []) F hK hN hO (c_X3_readRight_2 E dA dB rA rc a b c n g_11 a0 z_3 ha0 (by omega) (by omega) (by omega) (by omega) (by omega)) mv_X3_readRight wd_13_0 ⟨Nat.le_of_ble_eq_true rfl, Nat.le_of_ble_eq_true rfl⟩ ⟨Nat.le_of_ble_eq_true rfl, Nat.le_of_ble_eq_true rfl⟩ hH hS (tRecv hK hH (tyb ha0 (all1 rfl)) clX3) rfl hl.1 (Nat.le_of_ble_eq_true rfl) dX3_readPart_37 (fun H locs hq hS => ?_)
      obtain ⟨g_36, hg_36, g_37, hg_37, hH⟩ := hq
      have hH : TH E (tbC dA dB rA (riverD (.inl (a, a)) (.inl (g_37, g_37)) (.inl (c, c))) rc (rdD (.inl (g_36, g_36)) (.inl (n, n)) (.inr [27]))) H := hH
      refine lv_goto (tgt := 83) F.1 F.2.1 dX3_readPart_40 (by decide) ?_
      exact txV F hS dX3_readPart_83 (⟨g_36, (by omega), a, (by omega), g_37, (by omega), c, (by omega), hH⟩)
  · skip
    have r_9 : 1 ≤ z_4.toInt ∧ z_4.toInt ≤ 1 := by have h9_ := f_6; omega
    refine lv_aload_n F.1 F.2.1 dX3_readPart_18 rfl (lv_at hl 1 rfl) ?_
    refine lv_iload_n F.1 F.2.1 dX3_readPart_19 rfl (lv_at hl 0 rfl) ?_
    refine tVv (b := a0) (As := [.int z_3]) (rest := []) F hK hN hO (c_X3_readReach_2 E dA dB rA rc a b c n g_5 a0 z_3 ha0 (by omega) (by omega) (by omega) (by omega) (by omega)) mv_X3_readReach wd_12_3 ⟨Nat.le_of_ble_eq_true rfl, Nat.le_of_ble_eq_true rfl⟩ ⟨Nat.le_of_ble_eq_true rfl, Nat.le_of_ble_eq_true rfl⟩ hH hS (tRecv hK hH (tyb ha0 (all1 rfl)) clX3) rfl hl.1 (Nat.le_of_ble_eq_true rfl) dX3_readPart_20 (fun H locs hq hS => ?_)
    obtain ⟨g_39, hg_39, g_40, hg_40, hH⟩ := hq
    have hH : TH E (tbC dA dB rA (riverD (.inl (g_40, g_40)) (.inl (b, b)) (.inl (c, c))) rc (rdD (.inl (g_39, g_39)) (.inl (n, n)) (.inr [27]))) H := hH
    refine lv_goto (tgt := 83) F.1 F.2.1 dX3_readPart_23 (by decide) ?_
    exact txV F hS dX3_readPart_83 (⟨g_39, (by omega), g_40, (by omega), b, (by omega), c, (by omega), hH⟩)
set_option maxHeartbeats 4000000 in
set_option maxRecDepth 100000 in
theorem c_X3_readRiver_1 (E : Ev) (dA : TD) (dB : TD) (rB : TD) (rc : TD) (a0 : Nat) (a1 : Nat) (a2 : Int32) (ha0 : eT E a0 ∈ [29]) (ha1 : eT E a1 ∈ [26]) (ha2 : 0 ≤ a2.toInt ∧ a2.toInt ≤ 400) : TcI E yX3_readRiver cX3_readRiver 5 .int ({ frames := 9, cells := 0, slots := 0, locals := 270 }) [.ref a0, .ref a1, .int a2] (fun H => TH E (tbC dA dB (riverD (.inl (0, 12)) (.inl (0, 14)) (.inl (0, 4))) rB rc (rdD (.inl (0, 400)) (.inl (0, 400)) (.inr [26, 27]))) H) (fun v H => ((-2147483648) ≤ v.toInt ∧ v.toInt ≤ 2147483647) ∧ TH E (tbC dA dB (riverD (.inl (0, 12)) (.inl (0, 14)) (.inl (0, 4))) rB rc (rdD (.inl (0, 400)) (.inl (0, 400)) (.inr [26, 27]))) H) := by
  refine teI (by decide) (Nat.le_of_ble_eq_true rfl) ?_
  intro p_ ev_ s mi_ below_ meth cd_ ls F hK hN hO hH hS hl
  have hH : TH E (tbC dA dB (riverD (.inl (0, 12)) (.inl (0, 14)) (.inl (0, 4))) rB rc (rdD (.inl (0, 400)) (.inl (0, 400)) (.inr [26, 27]))) s.heap := hH
  have hl : lv_has ls 5 [(0, .ref a0), (1, .ref a1), (2, .int a2)] := hl
  refine lv_aload_n F.1 F.2.1 dX3_readRiver_0 rfl (lv_at hl 0 rfl) ?_
  refine lv_aload_n F.1 F.2.1 dX3_readRiver_1 rfl (lv_at hl 1 rfl) ?_
  refine tPutG (j := 5) (t := 29) (fd := (.inr [26])) F hK hH hS (List.mem_singleton.mp ha0) (by decide) rfl rfl (fdR ha1) (TB1 := (tbC dA dB (riverD (.inl (0, 12)) (.inl (0, 14)) (.inl (0, 4))) rB rc (rdD (.inl (0, 400)) (.inl (0, 400)) (.inr [26])))) rfl clX3 (by decide) wd_5_18 rfl rfl rfl rfl dX3_readRiver_2 (fun H locs hH hS => ?_)
  refine lv_aload_n F.1 F.2.1 dX3_readRiver_5 rfl (lv_at hl 0 rfl) ?_
  refine tGetR (j := 5) F hK hH (tyb ha0 (all1 rfl)) rfl (all1 rfl) clX3 (by decide) wd_5_18 dX3_readRiver_6 (fun q_1 hq_1 _ => ?_)
  refine tVv (b := q_1) (As := []) (rest := []) F hK hN hO (c_X2_clear_1 E dA dB rB rc (rdD (.inl (0, 400)) (.inl (0, 400)) (.inr [26])) q_1 hq_1) mv_X2_clear wd_9_7 ⟨Nat.le_of_ble_eq_true rfl, Nat.le_of_ble_eq_true rfl⟩ ⟨Nat.le_of_ble_eq_true rfl, Nat.le_of_ble_eq_true rfl⟩ hH hS (tRecv hK hH (tyb hq_1 (all1 rfl)) clX2) rfl hl.1 (Nat.le_of_ble_eq_true rfl) dX3_readRiver_9 (fun H locs hq hS => ?_)
  have hH := hq
  have hH : TH E (tbC dA dB (riverD (.inl (0, 0)) (.inl (0, 0)) (.inl (0, 0))) rB rc (rdD (.inl (0, 400)) (.inl (0, 400)) (.inr [26]))) H := hH
  refine lv_aload_n F.1 F.2.1 dX3_readRiver_12 rfl (lv_at hl 0 rfl) ?_
  refine lv_iload_n F.1 F.2.1 dX3_readRiver_13 rfl (lv_at hl 2 rfl) ?_
  refine lv_aload_n F.1 F.2.1 dX3_readRiver_14 rfl (lv_at hl 0 rfl) ?_
  refine tGetR (j := 0) F hK hH (tyb ha0 (all1 rfl)) rfl (all1 rfl) clX3 (by decide) wd_5_17 dX3_readRiver_15 (fun q_3 hq_3 _ => ?_)
  refine tAlen (v := 400) F hK hH (tyb hq_3 (all1 rfl)) rfl (by decide) dX3_readRiver_18 ?_
  refine topK (a := 400) (by decide) (fun k_4 hk_4 => ?_)
  refine tMin (lo := 0) (hi := 400) F wd_8_23 wd_9_0 wd_9_1 wd_9_2 hl.1 (Nat.le_of_ble_eq_true rfl) (Nat.le_of_ble_eq_true rfl) (Nat.le_of_ble_eq_true rfl) (Nat.le_of_ble_eq_true rfl) dX3_readRiver_19 ha2 (eqb hk_4) rfl (fun z_5 hz_5 => ?_)
  obtain ⟨g_6, hg_6⟩ : ∃ y : Int, z_5.toInt = y := ⟨_, rfl⟩
  have bg_6 : 0 ≤ g_6 ∧ g_6 ≤ 400 := by rw [← hg_6]; exact hz_5.2
  refine tPutG (j := 1) (t := 29) (fd := (.inl (g_6, g_6))) F hK hH hS (List.mem_singleton.mp ha0) (by decide) rfl rfl (fdI (by omega)) (TB1 := (tbC dA dB (riverD (.inl (0, 0)) (.inl (0, 0)) (.inl (0, 0))) rB rc (rdD (.inl (0, 400)) (.inl (g_6, g_6)) (.inr [26])))) rfl clX3 (by decide) wd_9_3 rfl rfl rfl rfl dX3_readRiver_22 (fun H locs hH hS => ?_)
  refine lv_aload_n F.1 F.2.1 dX3_readRiver_25 rfl (lv_at hl 0 rfl) ?_
  refine lv_iconst (v := 0) F.1 F.2.1 dX3_readRiver_26 (by decide) ?_
  refine topK (a := 0) (by decide) (fun k_7 hk_7 => ?_)
  refine tPutG (j := 2) (t := 29) (fd := (.inl (0, 0))) F hK hH hS (List.mem_singleton.mp ha0) (by decide) rfl rfl (fdI (by omega)) (TB1 := (tbC dA dB (riverD (.inl (0, 0)) (.inl (0, 0)) (.inl (0, 0))) rB rc (rdD (.inl (0, 0)) (.inl (g_6, g_6)) (.inr [26])))) rfl clX3 (by decide) wd_9_4 rfl rfl rfl rfl dX3_readRiver_27 (fun H locs hH hS => ?_)
  refine lv_aload_n F.1 F.2.1 dX3_readRiver_30 rfl (lv_at hl 0 rfl) ?_
  refine lv_iconst (v := 0) F.1 F.2.1 dX3_readRiver_31 (by decide) ?_
  refine topK (a := 0) (by decide) (fun k_8 hk_8 => ?_)
  refine tPut (j := 3) F hK hH hS (tyb ha0 (all1 rfl)) rfl (fdI (wkb (eqb hk_8) rfl rfl)) clX3 (by decide) wd_9_5 rfl rfl rfl rfl dX3_readRiver_32 (fun H locs hH hS => ?_)
  refine lv_aload_n F.1 F.2.1 dX3_readRiver_35 rfl (lv_at hl 0 rfl) ?_
  refine lv_iconst (v := 0) F.1 F.2.1 dX3_readRiver_36 (by decide) ?_
  refine topK (a := 0) (by decide) (fun k_9 hk_9 => ?_)
  refine tPut (j := 4) F hK hH hS (tyb ha0 (all1 rfl)) rfl (fdI (wkb (eqb hk_9) rfl rfl)) clX3 (by decide) wd_9_6 rfl rfl (nar01 (wkb (eqb hk_9) rfl rfl)) (fit01 (wkb (eqb hk_9) rfl rfl)) dX3_readRiver_37 (fun H locs hH hS => ?_)
  refine lv_aload_n F.1 F.2.1 dX3_readRiver_40 rfl (lv_at hl 0 rfl) ?_
  refine tVv (b := a0) (As := []) (rest := []) F hK hN hO (c_X3_skipBlanks E dA dB (riverD (.inl (0, 0)) (.inl (0, 0)) (.inl (0, 0))) rB rc (.inr [26]) g_6 0 a0 ha0 (by omega) (by omega)) mv_X3_skipBlanks wd_9_14 ⟨Nat.le_of_ble_eq_true rfl, Nat.le_of_ble_eq_true rfl⟩ ⟨Nat.le_of_ble_eq_true rfl, Nat.le_of_ble_eq_true rfl⟩ hH hS (tRecv hK hH (tyb ha0 (all1 rfl)) clX3) rfl hl.1 (Nat.le_of_ble_eq_true rfl) dX3_readRiver_41 (fun H locs hq hS => ?_)
  obtain ⟨g_11, hg_11, hH⟩ := hq
  have hH : TH E (tbC dA dB (riverD (.inl (0, 0)) (.inl (0, 0)) (.inl (0, 0))) rB rc (rdD (.inl (g_11, g_11)) (.inl (g_6, g_6)) (.inr [26]))) H := hH
  refine lv_aload_n F.1 F.2.1 dX3_readRiver_44 rfl (lv_at hl 0 rfl) ?_
  refine tGetI (j := 2) F hK hH (tyb ha0 (all1 rfl)) rfl clX3 (by decide) wd_9_4 dX3_readRiver_45 (fun z_12 hz_12 => ?_)
  have ez_12 : 0 ≤ z_12.toInt ∧ z_12.toInt ≤ 400 := by omega
  refine lv_aload_n F.1 F.2.1 dX3_readRiver_48 rfl (lv_at hl 0 rfl) ?_
  refine tGetI (j := 1) F hK hH (tyb ha0 (all1 rfl)) rfl clX3 (by decide) wd_9_3 dX3_readRiver_49 (fun z_13 hz_13 => ?_)
  have ez_13 : 0 ≤ z_13.toInt ∧ z_13.toInt ≤ 400 := by omega
  refine b_ge (tgt := 59) F dX3_readRiver_52 (by decide) (fun c_14 => ?_) (fun c_14 => ?_)
  · skip
    refine lv_iconst (v := 0) F.1 F.2.1 dX3_readRiver_59 (by decide) ?_
    refine topK (a := 0) (by decide) (fun k_17 hk_17 => ?_)
    refine lv_istore_n (lv' := [(3, .int k_17), (0, .ref a0), (1, .ref a1), (2, .int a2)]) F.1 F.2.1 dX3_readRiver_60 rfl hl (by decide) rfl (fun ls hl => ?_)
    refine lv_iconst (v := 0) F.1 F.2.1 dX3_readRiver_61 (by decide) ?_
    refine topK (a := 0) (by decide) (fun k_18 hk_18 => ?_)
    refine lv_istore (lv' := [(4, .int k_18), (3, .int k_17), (0, .ref a0), (1, .ref a1), (2, .int a2)]) F.1 F.2.1 dX3_readRiver_62 hl (by decide) rfl (fun ls hl => ?_)
    refine wloop (σ := Int32 × Int32 × Int × Int × Int × Int) (fun n9 x9 H locs ls => (401 - x9.2.1.toInt + 1).toNat < n9 ∧ (0 ≤ x9.1.toInt ∧ x9.1.toInt ≤ 1) ∧ (0 ≤ x9.2.1.toInt ∧ x9.2.1.toInt ≤ 401) ∧ (0 ≤ x9.2.2.1 ∧ x9.2.2.1 ≤ 12) ∧ (0 ≤ x9.2.2.2.1 ∧ x9.2.2.2.1 ≤ 14) ∧ (0 ≤ x9.2.2.2.2.1 ∧ x9.2.2.2.2.1 ≤ 4) ∧ (0 ≤ x9.2.2.2.2.2 ∧ x9.2.2.2.2.2 ≤ 400) ∧ TH E (tbC dA dB (riverD (.inl (x9.2.2.1, x9.2.2.1)) (.inl (x9.2.2.2.1, x9.2.2.2.1)) (.inl (x9.2.2.2.2.1, x9.2.2.2.2.1))) rB rc (rdD (.inl (x9.2.2.2.2.2, x9.2.2.2.2.2)) (.inl (g_6, g_6)) (.inr [26]))) H ∧ va_S (eA E s.heap.size) s.heap H locs ∧ lv_has ls 5 [(0, .ref a0), (3, .int x9.1), (4, .int x9.2.1)]) ?_ (fun x9 H locs ls h => absurd h.1 (Nat.not_lt_zero _)) _ (k_17, k_18, 0, 0, 0, g_11) ⟨Nat.lt_succ_self _, (wkb (eqb hk_17) rfl rfl), (wkb (eqb hk_18) rfl rfl), (show 0 ≤ 0 ∧ 0 ≤ 12 from by omega), (show 0 ≤ 0 ∧ 0 ≤ 14 from by omega), (show 0 ≤ 0 ∧ 0 ≤ 4 from by omega), (show 0 ≤ g_11 ∧ g_11 ≤ 400 from by omega), hH, hS, lv_sub hl [2, 1, 0] rfl⟩
    intro n_64 ih_64 ⟨u_19, u_20, g_21, g_22, g_23, g_24⟩ H locs ls ⟨hm_64, hu_19, hu_20, hg_21, hg_22, hg_23, hg_24, hH, hS, hl⟩
    have hm_64 : (401 - u_20.toInt + 1).toNat < n_64 + 1 := hm_64
    have hu_19 : (0 ≤ u_19.toInt ∧ u_19.toInt ≤ 1) := hu_19
    have hu_20 : (0 ≤ u_20.toInt ∧ u_20.toInt ≤ 401) := hu_20
    have hg_21 : (0 ≤ g_21 ∧ g_21 ≤ 12) := hg_21
    have hg_22 : (0 ≤ g_22 ∧ g_22 ≤ 14) := hg_22
    have hg_23 : (0 ≤ g_23 ∧ g_23 ≤ 4) := hg_23
    have hg_24 : (0 ≤ g_24 ∧ g_24 ≤ 400) := hg_24
    have hH : TH E (tbC dA dB (riverD (.inl (g_21, g_21)) (.inl (g_22, g_22)) (.inl (g_23, g_23))) rB rc (rdD (.inl (g_24, g_24)) (.inl (g_6, g_6)) (.inr [26]))) H := hH
    have hl : lv_has ls 5 [(0, .ref a0), (3, .int u_19), (4, .int u_20)] := hl
    refine lv_iload F.1 F.2.1 dX3_readRiver_64 (lv_at hl 2 rfl) ?_
    refine lv_sipush (v := 400) F.1 F.2.1 dX3_readRiver_66 (by decide) ?_
    refine topK (a := 400) (by decide) (fun k_25 hk_25 => ?_)
    refine b_gt (tgt := 91) F dX3_readRiver_69 (by decide) (fun c_26 => ?_) (fun c_26 => ?_)
    · skip
      have r_27 : 401 ≤ u_20.toInt ∧ u_20.toInt ≤ 401 := by have h9_ := hu_20; omega
      refine lv_aload_n F.1 F.2.1 dX3_readRiver_91 rfl (lv_at hl 0 rfl) ?_
      refine tGetI (j := 3) F hK hH (tyb ha0 (all1 rfl)) rfl clX3 (by decide) wd_9_5 dX3_readRiver_92 (fun z_29 hz_29 => ?_)
      exact txI F hS dX3_readRiver_95 rfl (⟨hz_29, (TH.loose (t := 29) (TB1 := (tbC dA dB (riverD (.inl (0, 12)) (.inl (0, 14)) (.inl (0, 4))) rB rc (rdD (.inl (0, 400)) (.inl (0, 400)) (.inr [26, 27])))) (TH.loose (t := 29) (TB1 := (tbC dA dB (riverD (.inl (0, 12)) (.inl (0, 14)) (.inl (0, 4))) rB rc (rdD (.inl (0, 400)) (.inl (0, 400)) (.inr [26])))) (TH.loose (t := 29) (TB1 := (tbC dA dB (riverD (.inl (0, 12)) (.inl (0, 14)) (.inl (0, 4))) rB rc (rdD (.inl (g_24, g_24)) (.inl (0, 400)) (.inr [26])))) (TH.loose (t := 26) (TB1 := (tbC dA dB (riverD (.inl (0, 12)) (.inl (0, 14)) (.inl (0, 4))) rB rc (rdD (.inl (g_24, g_24)) (.inl (g_6, g_6)) (.inr [26])))) (TH.loose (t := 26) (TB1 := (tbC dA dB (riverD (.inl (0, 12)) (.inl (0, 14)) (.inl (g_23, g_23))) rB rc (rdD (.inl (g_24, g_24)) (.inl (g_6, g_6)) (.inr [26])))) (TH.loose (t := 26) (TB1 := (tbC dA dB (riverD (.inl (0, 12)) (.inl (g_22, g_22)) (.inl (g_23, g_23))) rB rc (rdD (.inl (g_24, g_24)) (.inl (g_6, g_6)) (.inr [26])))) hH rfl (tcLoose (j := 0) rfl (by omega)) rfl) rfl (tcLoose (j := 4) rfl (by omega)) rfl) rfl (tcLoose (j := 14) rfl (by omega)) rfl) rfl (tcLoose (j := 1) rfl (by omega)) rfl) rfl (tcLoose (j := 2) rfl (by omega)) rfl) rfl (tcLooseR (j := 5) rfl (by simp)) rfl)⟩)
    · skip
      have r_28 : 0 ≤ u_20.toInt ∧ u_20.toInt ≤ 400 := by have h9_ := hu_20; omega
      refine lv_iload_n F.1 F.2.1 dX3_readRiver_72 rfl (lv_at hl 1 rfl) ?_
      refine z_eq (tgt := 91) F dX3_readRiver_73 (by decide) (fun c_30 => ?_) (fun c_30 => ?_)
      · skip
        have r_31 : 0 ≤ u_19.toInt ∧ u_19.toInt ≤ 0 := by have h9_ := hu_19; omega
        refine lv_aload_n F.1 F.2.1 dX3_readRiver_91 rfl (lv_at hl 0 rfl) ?_
        refine tGetI (j := 3) F hK hH (tyb ha0 (all1 rfl)) rfl clX3 (by decide) wd_9_5 dX3_readRiver_92 (fun z_33 hz_33 => ?_)
        exact txI F hS dX3_readRiver_95 rfl (⟨hz_33, (TH.loose (t := 29) (TB1 := (tbC dA dB (riverD (.inl (0, 12)) (.inl (0, 14)) (.inl (0, 4))) rB rc (rdD (.inl (0, 400)) (.inl (0, 400)) (.inr [26, 27])))) (TH.loose (t := 29) (TB1 := (tbC dA dB (riverD (.inl (0, 12)) (.inl (0, 14)) (.inl (0, 4))) rB rc (rdD (.inl (0, 400)) (.inl (0, 400)) (.inr [26])))) (TH.loose (t := 29) (TB1 := (tbC dA dB (riverD (.inl (0, 12)) (.inl (0, 14)) (.inl (0, 4))) rB rc (rdD (.inl (g_24, g_24)) (.inl (0, 400)) (.inr [26])))) (TH.loose (t := 26) (TB1 := (tbC dA dB (riverD (.inl (0, 12)) (.inl (0, 14)) (.inl (0, 4))) rB rc (rdD (.inl (g_24, g_24)) (.inl (g_6, g_6)) (.inr [26])))) (TH.loose (t := 26) (TB1 := (tbC dA dB (riverD (.inl (0, 12)) (.inl (0, 14)) (.inl (g_23, g_23))) rB rc (rdD (.inl (g_24, g_24)) (.inl (g_6, g_6)) (.inr [26])))) (TH.loose (t := 26) (TB1 := (tbC dA dB (riverD (.inl (0, 12)) (.inl (g_22, g_22)) (.inl (g_23, g_23))) rB rc (rdD (.inl (g_24, g_24)) (.inl (g_6, g_6)) (.inr [26])))) hH rfl (tcLoose (j := 0) rfl (by omega)) rfl) rfl (tcLoose (j := 4) rfl (by omega)) rfl) rfl (tcLoose (j := 14) rfl (by omega)) rfl) rfl (tcLoose (j := 1) rfl (by omega)) rfl) rfl (tcLoose (j := 2) rfl (by omega)) rfl) rfl (tcLooseR (j := 5) rfl (by simp)) rfl)⟩)
      · skip
        have r_32 : 1 ≤ u_19.toInt ∧ u_19.toInt ≤ 1 := by have h9_ := hu_19; omega
        refine lv_aload_n F.1 F.2.1 dX3_readRiver_76 rfl (lv_at hl 0 rfl) ?_
        refine tVv (b := a0) (As := []) (rest := []) F hK hN hO (c_X3_readPart_1 E dA dB rB rc g_21 g_22 g_23 g_6 g_24 a0 ha0 (by omega) (by omega) (by omega) (by omega) (by omega)) mv_X3_readPart wd_9_18 ⟨Nat.le_of_ble_eq_true rfl, Nat.le_of_ble_eq_true rfl⟩ ⟨Nat.le_of_ble_eq_true rfl, Nat.le_of_ble_eq_true rfl⟩ hH hS (tRecv hK hH (tyb ha0 (all1 rfl)) clX3) rfl hl.1 (Nat.le_of_ble_eq_true rfl) dX3_readRiver_77 (fun H locs hq hS => ?_)
        obtain ⟨g_35, hg_35, g_36, hg_36, g_37, hg_37, g_38, hg_38, hH⟩ := hq
        have hH : TH E (tbC dA dB (riverD (.inl (g_36, g_36)) (.inl (g_37, g_37)) (.inl (g_38, g_38))) rB rc (rdD (.inl (g_35, g_35)) (.inl (g_6, g_6)) (.inr [26]))) H := hH
        refine lv_aload_n F.1 F.2.1 dX3_readRiver_80 rfl (lv_at hl 0 rfl) ?_
        refine tVi (b := a0) (As := []) (rest := []) F hK hN hO (c_X3_readBetween E dA dB (riverD (.inl (g_36, g_36)) (.inl (g_37, g_37)) (.inl (g_38, g_38))) rB rc (.inr [26]) g_6 g_35 a0 ha0 (by omega) (by omega)) mv_X3_readBetween wd_14_13 ⟨Nat.le_of_ble_eq_true rfl, Nat.le_of_ble_eq_true rfl⟩ ⟨Nat.le_of_ble_eq_true rfl, Nat.le_of_ble_eq_true rfl⟩ hH hS (tRecv hK hH (tyb ha0 (all1 rfl)) clX3) rfl hl.1 (Nat.le_of_ble_eq_true rfl) dX3_readRiver_81 (fun z_39 H locs hq hS => ?_)
        obtain ⟨g_40, hg_40, f_41, hH⟩ := hq
        have hH : TH E (tbC dA dB (riverD (.inl (g_36, g_36)) (.inl (g_37, g_37)) (.inl (g_38, g_38))) rB rc (rdD (.inl (g_40, g_40)) (.inl (g_6, g_6)) (.inr [26]))) H := hH
        refine lv_istore_n (lv' := [(3, .int z_39), (0, .ref a0), (4, .int u_20)]) F.1 F.2.1 dX3_readRiver_84 rfl hl (by decide) rfl (fun ls hl => ?_)
        obtain ⟨x_42, ex_42, hx_42⟩ := iincB (c := 1) (lo := 1) (hi := 401) r_28 rfl
        refine lv_iinc (v := x_42) (lv' := [(4, .int x_42), (3, .int z_39), (0, .ref a0)]) F.1 F.2.1 dX3_readRiver_85 hl (k := 2) rfl ex_42 (by decide) rfl (fun ls hl => ?_)
        refine lv_goto (tgt := 64) F.1 F.2.1 dX3_readRiver_88 (by decide) ?_
        exact ih_64 (z_39, x_42, g_36, g_37, g_38, g_40) _ _ _ ⟨(show (401 - x_42.toInt + 1).toNat < n_64 from by omega), f_41, (wkb hx_42.2 rfl rfl), (show 0 ≤ g_36 ∧ g_36 ≤ 12 from by omega), (show 0 ≤ g_37 ∧ g_37 ≤ 14 from by omega), (show 0 ≤ g_38 ∧ g_38 ≤ 4 from by omega), (show 0 ≤ g_40 ∧ g_40 ≤ 400 from by omega), hH, hS, lv_sub hl [2, 1, 0] rfl⟩
  · skip
    have r_15 : 0 ≤ z_12.toInt ∧ z_12.toInt ≤ 399 := by have h9_ := ez_12; omega
    have r_16 : 1 ≤ z_13.toInt ∧ z_13.toInt ≤ 400 := by have h9_ := ez_13; omega
    refine lv_iconst (v := 1) F.1 F.2.1 dX3_readRiver_55 (by decide) ?_
    refine topK (a := 1) (by decide) (fun k_43 hk_43 => ?_)
    refine lv_goto (tgt := 60) F.1 F.2.1 dX3_readRiver_56 (by decide) ?_
    refine lv_istore_n (lv' := [(3, .int k_43), (0, .ref a0), (1, .ref a1), (2, .int a2)]) F.1 F.2.1 dX3_readRiver_60 rfl hl (by decide) rfl (fun ls hl => ?_)
    refine lv_iconst (v := 0) F.1 F.2.1 dX3_readRiver_61 (by decide) ?_
    refine topK (a := 0) (by decide) (fun k_44 hk_44 => ?_)
    refine lv_istore (lv' := [(4, .int k_44), (3, .int k_43), (0, .ref a0), (1, .ref a1), (2, .int a2)]) F.1 F.2.1 dX3_readRiver_62 hl (by decide) rfl (fun ls hl => ?_)
    refine wloop (σ := Int32 × Int32 × Int × Int × Int × Int) (fun n9 x9 H locs ls => (401 - x9.2.1.toInt + 1).toNat < n9 ∧ (0 ≤ x9.1.toInt ∧ x9.1.toInt ≤ 1) ∧ (0 ≤ x9.2.1.toInt ∧ x9.2.1.toInt ≤ 401) ∧ (0 ≤ x9.2.2.1 ∧ x9.2.2.1 ≤ 12) ∧ (0 ≤ x9.2.2.2.1 ∧ x9.2.2.2.1 ≤ 14) ∧ (0 ≤ x9.2.2.2.2.1 ∧ x9.2.2.2.2.1 ≤ 4) ∧ (0 ≤ x9.2.2.2.2.2 ∧ x9.2.2.2.2.2 ≤ 400) ∧ TH E (tbC dA dB (riverD (.inl (x9.2.2.1, x9.2.2.1)) (.inl (x9.2.2.2.1, x9.2.2.2.1)) (.inl (x9.2.2.2.2.1, x9.2.2.2.2.1))) rB rc (rdD (.inl (x9.2.2.2.2.2, x9.2.2.2.2.2)) (.inl (g_6, g_6)) (.inr [26]))) H ∧ va_S (eA E s.heap.size) s.heap H locs ∧ lv_has ls 5 [(0, .ref a0), (3, .int x9.1), (4, .int x9.2.1)]) ?_ (fun x9 H locs ls h => absurd h.1 (Nat.not_lt_zero _)) _ (k_43, k_44, 0, 0, 0, g_11) ⟨Nat.lt_succ_self _, (wkb (eqb hk_43) rfl rfl), (wkb (eqb hk_44) rfl rfl), (show 0 ≤ 0 ∧ 0 ≤ 12 from by omega), (show 0 ≤ 0 ∧ 0 ≤ 14 from by omega), (show 0 ≤ 0 ∧ 0 ≤ 4 from by omega), (show 0 ≤ g_11 ∧ g_11 ≤ 400 from by omega), hH, hS, lv_sub hl [2, 1, 0] rfl⟩
    intro n_64 ih_64 ⟨u_45, u_46, g_47, g_48, g_49, g_50⟩ H locs ls ⟨hm_64, hu_45, hu_46, hg_47, hg_48, hg_49, hg_50, hH, hS, hl⟩
    have hm_64 : (401 - u_46.toInt + 1).toNat < n_64 + 1 := hm_64
    have hu_45 : (0 ≤ u_45.toInt ∧ u_45.toInt ≤ 1) := hu_45
    have hu_46 : (0 ≤ u_46.toInt ∧ u_46.toInt ≤ 401) := hu_46
    have hg_47 : (0 ≤ g_47 ∧ g_47 ≤ 12) := hg_47
    have hg_48 : (0 ≤ g_48 ∧ g_48 ≤ 14) := hg_48
    have hg_49 : (0 ≤ g_49 ∧ g_49 ≤ 4) := hg_49
    have hg_50 : (0 ≤ g_50 ∧ g_50 ≤ 400) := hg_50
    have hH : TH E (tbC dA dB (riverD (.inl (g_47, g_47)) (.inl (g_48, g_48)) (.inl (g_49, g_49))) rB rc (rdD (.inl (g_50, g_50)) (.inl (g_6, g_6)) (.inr [26]))) H := hH
    have hl : lv_has ls 5 [(0, .ref a0), (3, .int u_45), (4, .int u_46)] := hl
    refine lv_iload F.1 F.2.1 dX3_readRiver_64 (lv_at hl 2 rfl) ?_
    refine lv_sipush (v := 400) F.1 F.2.1 dX3_readRiver_66 (by decide) ?_
    refine topK (a := 400) (by decide) (fun k_51 hk_51 => ?_)
    refine b_gt (tgt := 91) F dX3_readRiver_69 (by decide) (fun c_52 => ?_) (fun c_52 => ?_)
    · skip
      have r_53 : 401 ≤ u_46.toInt ∧ u_46.toInt ≤ 401 := by have h9_ := hu_46; omega
      refine lv_aload_n F.1 F.2.1 dX3_readRiver_91 rfl (lv_at hl 0 rfl) ?_
      refine tGetI (j := 3) F hK hH (tyb ha0 (all1 rfl)) rfl clX3 (by decide) wd_9_5 dX3_readRiver_92 (fun z_55 hz_55 => ?_)
      exact txI F hS dX3_readRiver_95 rfl (⟨hz_55, (TH.loose (t := 29) (TB1 := (tbC dA dB (riverD (.inl (0, 12)) (.inl (0, 14)) (.inl (0, 4))) rB rc (rdD (.inl (0, 400)) (.inl (0, 400)) (.inr [26, 27])))) (TH.loose (t := 29) (TB1 := (tbC dA dB (riverD (.inl (0, 12)) (.inl (0, 14)) (.inl (0, 4))) rB rc (rdD (.inl (0, 400)) (.inl (0, 400)) (.inr [26])))) (TH.loose (t := 29) (TB1 := (tbC dA dB (riverD (.inl (0, 12)) (.inl (0, 14)) (.inl (0, 4))) rB rc (rdD (.inl (g_50, g_50)) (.inl (0, 400)) (.inr [26])))) (TH.loose (t := 26) (TB1 := (tbC dA dB (riverD (.inl (0, 12)) (.inl (0, 14)) (.inl (0, 4))) rB rc (rdD (.inl (g_50, g_50)) (.inl (g_6, g_6)) (.inr [26])))) (TH.loose (t := 26) (TB1 := (tbC dA dB (riverD (.inl (0, 12)) (.inl (0, 14)) (.inl (g_49, g_49))) rB rc (rdD (.inl (g_50, g_50)) (.inl (g_6, g_6)) (.inr [26])))) (TH.loose (t := 26) (TB1 := (tbC dA dB (riverD (.inl (0, 12)) (.inl (g_48, g_48)) (.inl (g_49, g_49))) rB rc (rdD (.inl (g_50, g_50)) (.inl (g_6, g_6)) (.inr [26])))) hH rfl (tcLoose (j := 0) rfl (by omega)) rfl) rfl (tcLoose (j := 4) rfl (by omega)) rfl) rfl (tcLoose (j := 14) rfl (by omega)) rfl) rfl (tcLoose (j := 1) rfl (by omega)) rfl) rfl (tcLoose (j := 2) rfl (by omega)) rfl) rfl (tcLooseR (j := 5) rfl (by simp)) rfl)⟩)
    · skip
      have r_54 : 0 ≤ u_46.toInt ∧ u_46.toInt ≤ 400 := by have h9_ := hu_46; omega
      refine lv_iload_n F.1 F.2.1 dX3_readRiver_72 rfl (lv_at hl 1 rfl) ?_
      refine z_eq (tgt := 91) F dX3_readRiver_73 (by decide) (fun c_56 => ?_) (fun c_56 => ?_)
      · skip
        have r_57 : 0 ≤ u_45.toInt ∧ u_45.toInt ≤ 0 := by have h9_ := hu_45; omega
        refine lv_aload_n F.1 F.2.1 dX3_readRiver_91 rfl (lv_at hl 0 rfl) ?_
        refine tGetI (j := 3) F hK hH (tyb ha0 (all1 rfl)) rfl clX3 (by decide) wd_9_5 dX3_readRiver_92 (fun z_59 hz_59 => ?_)
        exact txI F hS dX3_readRiver_95 rfl (⟨hz_59, (TH.loose (t := 29) (TB1 := (tbC dA dB (riverD (.inl (0, 12)) (.inl (0, 14)) (.inl (0, 4))) rB rc (rdD (.inl (0, 400)) (.inl (0, 400)) (.inr [26, 27])))) (TH.loose (t := 29) (TB1 := (tbC dA dB (riverD (.inl (0, 12)) (.inl (0, 14)) (.inl (0, 4))) rB rc (rdD (.inl (0, 400)) (.inl (0, 400)) (.inr [26])))) (TH.loose (t := 29) (TB1 := (tbC dA dB (riverD (.inl (0, 12)) (.inl (0, 14)) (.inl (0, 4))) rB rc (rdD (.inl (g_50, g_50)) (.inl (0, 400)) (.inr [26])))) (TH.loose (t := 26) (TB1 := (tbC dA dB (riverD (.inl (0, 12)) (.inl (0, 14)) (.inl (0, 4))) rB rc (rdD (.inl (g_50, g_50)) (.inl (g_6, g_6)) (.inr [26])))) (TH.loose (t := 26) (TB1 := (tbC dA dB (riverD (.inl (0, 12)) (.inl (0, 14)) (.inl (g_49, g_49))) rB rc (rdD (.inl (g_50, g_50)) (.inl (g_6, g_6)) (.inr [26])))) (TH.loose (t := 26) (TB1 := (tbC dA dB (riverD (.inl (0, 12)) (.inl (g_48, g_48)) (.inl (g_49, g_49))) rB rc (rdD (.inl (g_50, g_50)) (.inl (g_6, g_6)) (.inr [26])))) hH rfl (tcLoose (j := 0) rfl (by omega)) rfl) rfl (tcLoose (j := 4) rfl (by omega)) rfl) rfl (tcLoose (j := 14) rfl (by omega)) rfl) rfl (tcLoose (j := 1) rfl (by omega)) rfl) rfl (tcLoose (j := 2) rfl (by omega)) rfl) rfl (tcLooseR (j := 5) rfl (by simp)) rfl)⟩)
      · skip
        have r_58 : 1 ≤ u_45.toInt ∧ u_45.toInt ≤ 1 := by have h9_ := hu_45; omega
        refine lv_aload_n F.1 F.2.1 dX3_readRiver_76 rfl (lv_at hl 0 rfl) ?_
        refine tVv (b := a0) (As := []) (rest := []) F hK hN hO (c_X3_readPart_1 E dA dB rB rc g_47 g_48 g_49 g_6 g_50 a0 ha0 (by omega) (by omega) (by omega) (by omega) (by omega)) mv_X3_readPart wd_9_18 ⟨Nat.le_of_ble_eq_true rfl, Nat.le_of_ble_eq_true rfl⟩ ⟨Nat.le_of_ble_eq_true rfl, Nat.le_of_ble_eq_true rfl⟩ hH hS (tRecv hK hH (tyb ha0 (all1 rfl)) clX3) rfl hl.1 (Nat.le_of_ble_eq_true rfl) dX3_readRiver_77 (fun H locs hq hS => ?_)
        obtain ⟨g_61, hg_61, g_62, hg_62, g_63, hg_63, g_64, hg_64, hH⟩ := hq
        have hH : TH E (tbC dA dB (riverD (.inl (g_62, g_62)) (.inl (g_63, g_63)) (.inl (g_64, g_64))) rB rc (rdD (.inl (g_61, g_61)) (.inl (g_6, g_6)) (.inr [26]))) H := hH
        refine lv_aload_n F.1 F.2.1 dX3_readRiver_80 rfl (lv_at hl 0 rfl) ?_
        refine tVi (b := a0) (As := []) (rest := []) F hK hN hO (c_X3_readBetween E dA dB (riverD (.inl (g_62, g_62)) (.inl (g_63, g_63)) (.inl (g_64, g_64))) rB rc (.inr [26]) g_6 g_61 a0 ha0 (by omega) (by omega)) mv_X3_readBetween wd_14_13 ⟨Nat.le_of_ble_eq_true rfl, Nat.le_of_ble_eq_true rfl⟩ ⟨Nat.le_of_ble_eq_true rfl, Nat.le_of_ble_eq_true rfl⟩ hH hS (tRecv hK hH (tyb ha0 (all1 rfl)) clX3) rfl hl.1 (Nat.le_of_ble_eq_true rfl) dX3_readRiver_81 (fun z_65 H locs hq hS => ?_)
        obtain ⟨g_66, hg_66, f_67, hH⟩ := hq
        have hH : TH E (tbC dA dB (riverD (.inl (g_62, g_62)) (.inl (g_63, g_63)) (.inl (g_64, g_64))) rB rc (rdD (.inl (g_66, g_66)) (.inl (g_6, g_6)) (.inr [26]))) H := hH
        refine lv_istore_n (lv' := [(3, .int z_65), (0, .ref a0), (4, .int u_46)]) F.1 F.2.1 dX3_readRiver_84 rfl hl (by decide) rfl (fun ls hl => ?_)
        obtain ⟨x_68, ex_68, hx_68⟩ := iincB (c := 1) (lo := 1) (hi := 401) r_54 rfl
        refine lv_iinc (v := x_68) (lv' := [(4, .int x_68), (3, .int z_65), (0, .ref a0)]) F.1 F.2.1 dX3_readRiver_85 hl (k := 2) rfl ex_68 (by decide) rfl (fun ls hl => ?_)
        refine lv_goto (tgt := 64) F.1 F.2.1 dX3_readRiver_88 (by decide) ?_
        exact ih_64 (z_65, x_68, g_62, g_63, g_64, g_66) _ _ _ ⟨(show (401 - x_68.toInt + 1).toNat < n_64 from by omega), f_67, (wkb hx_68.2 rfl rfl), (show 0 ≤ g_62 ∧ g_62 ≤ 12 from by omega), (show 0 ≤ g_63 ∧ g_63 ≤ 14 from by omega), (show 0 ≤ g_64 ∧ g_64 ≤ 4 from by omega), (show 0 ≤ g_66 ∧ g_66 ≤ 400 from by omega), hH, hS, lv_sub hl [2, 1, 0] rfl⟩
set_option maxHeartbeats 4000000 in
set_option maxRecDepth 100000 in
theorem c_X3_readRiver_2 (E : Ev) (dA : TD) (dB : TD) (rA : TD) (rc : TD) (a0 : Nat) (a1 : Nat) (a2 : Int32) (ha0 : eT E a0 ∈ [29]) (ha1 : eT E a1 ∈ [27]) (ha2 : 0 ≤ a2.toInt ∧ a2.toInt ≤ 400) : TcI E yX3_readRiver cX3_readRiver 5 .int ({ frames := 9, cells := 0, slots := 0, locals := 270 }) [.ref a0, .ref a1, .int a2] (fun H => TH E (tbC dA dB rA (riverD (.inl (0, 12)) (.inl (0, 14)) (.inl (0, 4))) rc (rdD (.inl (0, 400)) (.inl (0, 400)) (.inr [26, 27]))) H) (fun v H => ((-2147483648) ≤ v.toInt ∧ v.toInt ≤ 2147483647) ∧ TH E (tbC dA dB rA (riverD (.inl (0, 12)) (.inl (0, 14)) (.inl (0, 4))) rc (rdD (.inl (0, 400)) (.inl (0, 400)) (.inr [26, 27]))) H) := by
  refine teI (by decide) (Nat.le_of_ble_eq_true rfl) ?_
  intro p_ ev_ s mi_ below_ meth cd_ ls F hK hN hO hH hS hl
  have hH : TH E (tbC dA dB rA (riverD (.inl (0, 12)) (.inl (0, 14)) (.inl (0, 4))) rc (rdD (.inl (0, 400)) (.inl (0, 400)) (.inr [26, 27]))) s.heap := hH
  have hl : lv_has ls 5 [(0, .ref a0), (1, .ref a1), (2, .int a2)] := hl
  refine lv_aload_n F.1 F.2.1 dX3_readRiver_0 rfl (lv_at hl 0 rfl) ?_
  refine lv_aload_n F.1 F.2.1 dX3_readRiver_1 rfl (lv_at hl 1 rfl) ?_
  refine tPutG (j := 5) (t := 29) (fd := (.inr [27])) F hK hH hS (List.mem_singleton.mp ha0) (by decide) rfl rfl (fdR ha1) (TB1 := (tbC dA dB rA (riverD (.inl (0, 12)) (.inl (0, 14)) (.inl (0, 4))) rc (rdD (.inl (0, 400)) (.inl (0, 400)) (.inr [27])))) rfl clX3 (by decide) wd_5_18 rfl rfl rfl rfl dX3_readRiver_2 (fun H locs hH hS => ?_)
  refine lv_aload_n F.1 F.2.1 dX3_readRiver_5 rfl (lv_at hl 0 rfl) ?_
  refine tGetR (j := 5) F hK hH (tyb ha0 (all1 rfl)) rfl (all1 rfl) clX3 (by decide) wd_5_18 dX3_readRiver_6 (fun q_1 hq_1 _ => ?_)
  refine tVv (b := q_1) (As := []) (rest := []) F hK hN hO (c_X2_clear_2 E dA dB rA rc (rdD (.inl (0, 400)) (.inl (0, 400)) (.inr [27])) q_1 hq_1) mv_X2_clear wd_9_7 ⟨Nat.le_of_ble_eq_true rfl, Nat.le_of_ble_eq_true rfl⟩ ⟨Nat.le_of_ble_eq_true rfl, Nat.le_of_ble_eq_true rfl⟩ hH hS (tRecv hK hH (tyb hq_1 (all1 rfl)) clX2) rfl hl.1 (Nat.le_of_ble_eq_true rfl) dX3_readRiver_9 (fun H locs hq hS => ?_)
  have hH := hq
  have hH : TH E (tbC dA dB rA (riverD (.inl (0, 0)) (.inl (0, 0)) (.inl (0, 0))) rc (rdD (.inl (0, 400)) (.inl (0, 400)) (.inr [27]))) H := hH
  refine lv_aload_n F.1 F.2.1 dX3_readRiver_12 rfl (lv_at hl 0 rfl) ?_
  refine lv_iload_n F.1 F.2.1 dX3_readRiver_13 rfl (lv_at hl 2 rfl) ?_
  refine lv_aload_n F.1 F.2.1 dX3_readRiver_14 rfl (lv_at hl 0 rfl) ?_
  refine tGetR (j := 0) F hK hH (tyb ha0 (all1 rfl)) rfl (all1 rfl) clX3 (by decide) wd_5_17 dX3_readRiver_15 (fun q_3 hq_3 _ => ?_)
  refine tAlen (v := 400) F hK hH (tyb hq_3 (all1 rfl)) rfl (by decide) dX3_readRiver_18 ?_
  refine topK (a := 400) (by decide) (fun k_4 hk_4 => ?_)
  refine tMin (lo := 0) (hi := 400) F wd_8_23 wd_9_0 wd_9_1 wd_9_2 hl.1 (Nat.le_of_ble_eq_true rfl) (Nat.le_of_ble_eq_true rfl) (Nat.le_of_ble_eq_true rfl) (Nat.le_of_ble_eq_true rfl) dX3_readRiver_19 ha2 (eqb hk_4) rfl (fun z_5 hz_5 => ?_)
  obtain ⟨g_6, hg_6⟩ : ∃ y : Int, z_5.toInt = y := ⟨_, rfl⟩
  have bg_6 : 0 ≤ g_6 ∧ g_6 ≤ 400 := by rw [← hg_6]; exact hz_5.2
  refine tPutG (j := 1) (t := 29) (fd := (.inl (g_6, g_6))) F hK hH hS (List.mem_singleton.mp ha0) (by decide) rfl rfl (fdI (by omega)) (TB1 := (tbC dA dB rA (riverD (.inl (0, 0)) (.inl (0, 0)) (.inl (0, 0))) rc (rdD (.inl (0, 400)) (.inl (g_6, g_6)) (.inr [27])))) rfl clX3 (by decide) wd_9_3 rfl rfl rfl rfl dX3_readRiver_22 (fun H locs hH hS => ?_)
  refine lv_aload_n F.1 F.2.1 dX3_readRiver_25 rfl (lv_at hl 0 rfl) ?_
  refine lv_iconst (v := 0) F.1 F.2.1 dX3_readRiver_26 (by decide) ?_
  refine topK (a := 0) (by decide) (fun k_7 hk_7 => ?_)
  refine tPutG (j := 2) (t := 29) (fd := (.inl (0, 0))) F hK hH hS (List.mem_singleton.mp ha0) (by decide) rfl rfl (fdI (by omega)) (TB1 := (tbC dA dB rA (riverD (.inl (0, 0)) (.inl (0, 0)) (.inl (0, 0))) rc (rdD (.inl (0, 0)) (.inl (g_6, g_6)) (.inr [27])))) rfl clX3 (by decide) wd_9_4 rfl rfl rfl rfl dX3_readRiver_27 (fun H locs hH hS => ?_)
  refine lv_aload_n F.1 F.2.1 dX3_readRiver_30 rfl (lv_at hl 0 rfl) ?_
  refine lv_iconst (v := 0) F.1 F.2.1 dX3_readRiver_31 (by decide) ?_
  refine topK (a := 0) (by decide) (fun k_8 hk_8 => ?_)
  refine tPut (j := 3) F hK hH hS (tyb ha0 (all1 rfl)) rfl (fdI (wkb (eqb hk_8) rfl rfl)) clX3 (by decide) wd_9_5 rfl rfl rfl rfl dX3_readRiver_32 (fun H locs hH hS => ?_)
  refine lv_aload_n F.1 F.2.1 dX3_readRiver_35 rfl (lv_at hl 0 rfl) ?_
  refine lv_iconst (v := 0) F.1 F.2.1 dX3_readRiver_36 (by decide) ?_
  refine topK (a := 0) (by decide) (fun k_9 hk_9 => ?_)
  refine tPut (j := 4) F hK hH hS (tyb ha0 (all1 rfl)) rfl (fdI (wkb (eqb hk_9) rfl rfl)) clX3 (by decide) wd_9_6 rfl rfl (nar01 (wkb (eqb hk_9) rfl rfl)) (fit01 (wkb (eqb hk_9) rfl rfl)) dX3_readRiver_37 (fun H locs hH hS => ?_)
  refine lv_aload_n F.1 F.2.1 dX3_readRiver_40 rfl (lv_at hl 0 rfl) ?_
  refine tVv (b := a0) (As := []) (rest := []) F hK hN hO (c_X3_skipBlanks E dA dB rA (riverD (.inl (0, 0)) (.inl (0, 0)) (.inl (0, 0))) rc (.inr [27]) g_6 0 a0 ha0 (by omega) (by omega)) mv_X3_skipBlanks wd_9_14 ⟨Nat.le_of_ble_eq_true rfl, Nat.le_of_ble_eq_true rfl⟩ ⟨Nat.le_of_ble_eq_true rfl, Nat.le_of_ble_eq_true rfl⟩ hH hS (tRecv hK hH (tyb ha0 (all1 rfl)) clX3) rfl hl.1 (Nat.le_of_ble_eq_true rfl) dX3_readRiver_41 (fun H locs hq hS => ?_)
  obtain ⟨g_11, hg_11, hH⟩ := hq
  have hH : TH E (tbC dA dB rA (riverD (.inl (0, 0)) (.inl (0, 0)) (.inl (0, 0))) rc (rdD (.inl (g_11, g_11)) (.inl (g_6, g_6)) (.inr [27]))) H := hH
  refine lv_aload_n F.1 F.2.1 dX3_readRiver_44 rfl (lv_at hl 0 rfl) ?_
  refine tGetI (j := 2) F hK hH (tyb ha0 (all1 rfl)) rfl clX3 (by decide) wd_9_4 dX3_readRiver_45 (fun z_12 hz_12 => ?_)
  have ez_12 : 0 ≤ z_12.toInt ∧ z_12.toInt ≤ 400 := by omega
  refine lv_aload_n F.1 F.2.1 dX3_readRiver_48 rfl (lv_at hl 0 rfl) ?_
  refine tGetI (j := 1) F hK hH (tyb ha0 (all1 rfl)) rfl clX3 (by decide) wd_9_3 dX3_readRiver_49 (fun z_13 hz_13 => ?_)
  have ez_13 : 0 ≤ z_13.toInt ∧ z_13.toInt ≤ 400 := by omega
  refine b_ge (tgt := 59) F dX3_readRiver_52 (by decide) (fun c_14 => ?_) (fun c_14 => ?_)
  · skip
    refine lv_iconst (v := 0) F.1 F.2.1 dX3_readRiver_59 (by decide) ?_
    refine topK (a := 0) (by decide) (fun k_17 hk_17 => ?_)
    refine lv_istore_n (lv' := [(3, .int k_17), (0, .ref a0), (1, .ref a1), (2, .int a2)]) F.1 F.2.1 dX3_readRiver_60 rfl hl (by decide) rfl (fun ls hl => ?_)
    refine lv_iconst (v := 0) F.1 F.2.1 dX3_readRiver_61 (by decide) ?_
    refine topK (a := 0) (by decide) (fun k_18 hk_18 => ?_)
    refine lv_istore (lv' := [(4, .int k_18), (3, .int k_17), (0, .ref a0), (1, .ref a1), (2, .int a2)]) F.1 F.2.1 dX3_readRiver_62 hl (by decide) rfl (fun ls hl => ?_)
    refine wloop (σ := Int32 × Int32 × Int × Int × Int × Int) (fun n9 x9 H locs ls => (401 - x9.2.1.toInt + 1).toNat < n9 ∧ (0 ≤ x9.1.toInt ∧ x9.1.toInt ≤ 1) ∧ (0 ≤ x9.2.1.toInt ∧ x9.2.1.toInt ≤ 401) ∧ (0 ≤ x9.2.2.1 ∧ x9.2.2.1 ≤ 12) ∧ (0 ≤ x9.2.2.2.1 ∧ x9.2.2.2.1 ≤ 14) ∧ (0 ≤ x9.2.2.2.2.1 ∧ x9.2.2.2.2.1 ≤ 4) ∧ (0 ≤ x9.2.2.2.2.2 ∧ x9.2.2.2.2.2 ≤ 400) ∧ TH E (tbC dA dB rA (riverD (.inl (x9.2.2.1, x9.2.2.1)) (.inl (x9.2.2.2.1, x9.2.2.2.1)) (.inl (x9.2.2.2.2.1, x9.2.2.2.2.1))) rc (rdD (.inl (x9.2.2.2.2.2, x9.2.2.2.2.2)) (.inl (g_6, g_6)) (.inr [27]))) H ∧ va_S (eA E s.heap.size) s.heap H locs ∧ lv_has ls 5 [(0, .ref a0), (3, .int x9.1), (4, .int x9.2.1)]) ?_ (fun x9 H locs ls h => absurd h.1 (Nat.not_lt_zero _)) _ (k_17, k_18, 0, 0, 0, g_11) ⟨Nat.lt_succ_self _, (wkb (eqb hk_17) rfl rfl), (wkb (eqb hk_18) rfl rfl), (show 0 ≤ 0 ∧ 0 ≤ 12 from by omega), (show 0 ≤ 0 ∧ 0 ≤ 14 from by omega), (show 0 ≤ 0 ∧ 0 ≤ 4 from by omega), (show 0 ≤ g_11 ∧ g_11 ≤ 400 from by omega), hH, hS, lv_sub hl [2, 1, 0] rfl⟩
    intro n_64 ih_64 ⟨u_19, u_20, g_21, g_22, g_23, g_24⟩ H locs ls ⟨hm_64, hu_19, hu_20, hg_21, hg_22, hg_23, hg_24, hH, hS, hl⟩
    have hm_64 : (401 - u_20.toInt + 1).toNat < n_64 + 1 := hm_64
    have hu_19 : (0 ≤ u_19.toInt ∧ u_19.toInt ≤ 1) := hu_19
    have hu_20 : (0 ≤ u_20.toInt ∧ u_20.toInt ≤ 401) := hu_20
    have hg_21 : (0 ≤ g_21 ∧ g_21 ≤ 12) := hg_21
    have hg_22 : (0 ≤ g_22 ∧ g_22 ≤ 14) := hg_22
    have hg_23 : (0 ≤ g_23 ∧ g_23 ≤ 4) := hg_23
    have hg_24 : (0 ≤ g_24 ∧ g_24 ≤ 400) := hg_24
    have hH : TH E (tbC dA dB rA (riverD (.inl (g_21, g_21)) (.inl (g_22, g_22)) (.inl (g_23, g_23))) rc (rdD (.inl (g_24, g_24)) (.inl (g_6, g_6)) (.inr [27]))) H := hH
    have hl : lv_has ls 5 [(0, .ref a0), (3, .int u_19), (4, .int u_20)] := hl
    refine lv_iload F.1 F.2.1 dX3_readRiver_64 (lv_at hl 2 rfl) ?_
    refine lv_sipush (v := 400) F.1 F.2.1 dX3_readRiver_66 (by decide) ?_
    refine topK (a := 400) (by decide) (fun k_25 hk_25 => ?_)
    refine b_gt (tgt := 91) F dX3_readRiver_69 (by decide) (fun c_26 => ?_) (fun c_26 => ?_)
    · skip
      have r_27 : 401 ≤ u_20.toInt ∧ u_20.toInt ≤ 401 := by have h9_ := hu_20; omega
      refine lv_aload_n F.1 F.2.1 dX3_readRiver_91 rfl (lv_at hl 0 rfl) ?_
      refine tGetI (j := 3) F hK hH (tyb ha0 (all1 rfl)) rfl clX3 (by decide) wd_9_5 dX3_readRiver_92 (fun z_29 hz_29 => ?_)
      exact txI F hS dX3_readRiver_95 rfl (⟨hz_29, (TH.loose (t := 29) (TB1 := (tbC dA dB rA (riverD (.inl (0, 12)) (.inl (0, 14)) (.inl (0, 4))) rc (rdD (.inl (0, 400)) (.inl (0, 400)) (.inr [26, 27])))) (TH.loose (t := 29) (TB1 := (tbC dA dB rA (riverD (.inl (0, 12)) (.inl (0, 14)) (.inl (0, 4))) rc (rdD (.inl (0, 400)) (.inl (0, 400)) (.inr [27])))) (TH.loose (t := 29) (TB1 := (tbC dA dB rA (riverD (.inl (0, 12)) (.inl (0, 14)) (.inl (0, 4))) rc (rdD (.inl (g_24, g_24)) (.inl (0, 400)) (.inr [27])))) (TH.loose (t := 27) (TB1 := (tbC dA dB rA (riverD (.inl (0, 12)) (.inl (0, 14)) (.inl (0, 4))) rc (rdD (.inl (g_24, g_24)) (.inl (g_6, g_6)) (.inr [27])))) (TH.loose (t := 27) (TB1 := (tbC dA dB rA (riverD (.inl (0, 12)) (.inl (0, 14)) (.inl (g_23, g_23))) rc (rdD (.inl (g_24, g_24)) (.inl (g_6, g_6)) (.inr [27])))) (TH.loose (t := 27) (TB1 := (tbC dA dB rA (riverD (.inl (0, 12)) (.inl (g_22, g_22)) (.inl (g_23, g_23))) rc (rdD (.inl (g_24, g_24)) (.inl (g_6, g_6)) (.inr [27])))) hH rfl (tcLoose (j := 0) rfl (by omega)) rfl) rfl (tcLoose (j := 4) rfl (by omega)) rfl) rfl (tcLoose (j := 14) rfl (by omega)) rfl) rfl (tcLoose (j := 1) rfl (by omega)) rfl) rfl (tcLoose (j := 2) rfl (by omega)) rfl) rfl (tcLooseR (j := 5) rfl (by simp)) rfl)⟩)
    · skip
      have r_28 : 0 ≤ u_20.toInt ∧ u_20.toInt ≤ 400 := by have h9_ := hu_20; omega
      refine lv_iload_n F.1 F.2.1 dX3_readRiver_72 rfl (lv_at hl 1 rfl) ?_
      refine z_eq (tgt := 91) F dX3_readRiver_73 (by decide) (fun c_30 => ?_) (fun c_30 => ?_)
      · skip
        have r_31 : 0 ≤ u_19.toInt ∧ u_19.toInt ≤ 0 := by have h9_ := hu_19; omega
        refine lv_aload_n F.1 F.2.1 dX3_readRiver_91 rfl (lv_at hl 0 rfl) ?_
        refine tGetI (j := 3) F hK hH (tyb ha0 (all1 rfl)) rfl clX3 (by decide) wd_9_5 dX3_readRiver_92 (fun z_33 hz_33 => ?_)
        exact txI F hS dX3_readRiver_95 rfl (⟨hz_33, (TH.loose (t := 29) (TB1 := (tbC dA dB rA (riverD (.inl (0, 12)) (.inl (0, 14)) (.inl (0, 4))) rc (rdD (.inl (0, 400)) (.inl (0, 400)) (.inr [26, 27])))) (TH.loose (t := 29) (TB1 := (tbC dA dB rA (riverD (.inl (0, 12)) (.inl (0, 14)) (.inl (0, 4))) rc (rdD (.inl (0, 400)) (.inl (0, 400)) (.inr [27])))) (TH.loose (t := 29) (TB1 := (tbC dA dB rA (riverD (.inl (0, 12)) (.inl (0, 14)) (.inl (0, 4))) rc (rdD (.inl (g_24, g_24)) (.inl (0, 400)) (.inr [27])))) (TH.loose (t := 27) (TB1 := (tbC dA dB rA (riverD (.inl (0, 12)) (.inl (0, 14)) (.inl (0, 4))) rc (rdD (.inl (g_24, g_24)) (.inl (g_6, g_6)) (.inr [27])))) (TH.loose (t := 27) (TB1 := (tbC dA dB rA (riverD (.inl (0, 12)) (.inl (0, 14)) (.inl (g_23, g_23))) rc (rdD (.inl (g_24, g_24)) (.inl (g_6, g_6)) (.inr [27])))) (TH.loose (t := 27) (TB1 := (tbC dA dB rA (riverD (.inl (0, 12)) (.inl (g_22, g_22)) (.inl (g_23, g_23))) rc (rdD (.inl (g_24, g_24)) (.inl (g_6, g_6)) (.inr [27])))) hH rfl (tcLoose (j := 0) rfl (by omega)) rfl) rfl (tcLoose (j := 4) rfl (by omega)) rfl) rfl (tcLoose (j := 14) rfl (by omega)) rfl) rfl (tcLoose (j := 1) rfl (by omega)) rfl) rfl (tcLoose (j := 2) rfl (by omega)) rfl) rfl (tcLooseR (j := 5) rfl (by simp)) rfl)⟩)
      · skip
        have r_32 : 1 ≤ u_19.toInt ∧ u_19.toInt ≤ 1 := by have h9_ := hu_19; omega
        refine lv_aload_n F.1 F.2.1 dX3_readRiver_76 rfl (lv_at hl 0 rfl) ?_
        refine tVv (b := a0) (As := []) (rest := []) F hK hN hO (c_X3_readPart_2 E dA dB rA rc g_21 g_22 g_23 g_6 g_24 a0 ha0 (by omega) (by omega) (by omega) (by omega) (by omega)) mv_X3_readPart wd_9_18 ⟨Nat.le_of_ble_eq_true rfl, Nat.le_of_ble_eq_true rfl⟩ ⟨Nat.le_of_ble_eq_true rfl, Nat.le_of_ble_eq_true rfl⟩ hH hS (tRecv hK hH (tyb ha0 (all1 rfl)) clX3) rfl hl.1 (Nat.le_of_ble_eq_true rfl) dX3_readRiver_77 (fun H locs hq hS => ?_)
        obtain ⟨g_35, hg_35, g_36, hg_36, g_37, hg_37, g_38, hg_38, hH⟩ := hq
        have hH : TH E (tbC dA dB rA (riverD (.inl (g_36, g_36)) (.inl (g_37, g_37)) (.inl (g_38, g_38))) rc (rdD (.inl (g_35, g_35)) (.inl (g_6, g_6)) (.inr [27]))) H := hH
        refine lv_aload_n F.1 F.2.1 dX3_readRiver_80 rfl (lv_at hl 0 rfl) ?_
        refine tVi (b := a0) (As := []) (rest := []) F hK hN hO (c_X3_readBetween E dA dB rA (riverD (.inl (g_36, g_36)) (.inl (g_37, g_37)) (.inl (g_38, g_38))) rc (.inr [27]) g_6 g_35 a0 ha0 (by omega) (by omega)) mv_X3_readBetween wd_14_13 ⟨Nat.le_of_ble_eq_true rfl, Nat.le_of_ble_eq_true rfl⟩ ⟨Nat.le_of_ble_eq_true rfl, Nat.le_of_ble_eq_true rfl⟩ hH hS (tRecv hK hH (tyb ha0 (all1 rfl)) clX3) rfl hl.1 (Nat.le_of_ble_eq_true rfl) dX3_readRiver_81 (fun z_39 H locs hq hS => ?_)
        obtain ⟨g_40, hg_40, f_41, hH⟩ := hq
        have hH : TH E (tbC dA dB rA (riverD (.inl (g_36, g_36)) (.inl (g_37, g_37)) (.inl (g_38, g_38))) rc (rdD (.inl (g_40, g_40)) (.inl (g_6, g_6)) (.inr [27]))) H := hH
        refine lv_istore_n (lv' := [(3, .int z_39), (0, .ref a0), (4, .int u_20)]) F.1 F.2.1 dX3_readRiver_84 rfl hl (by decide) rfl (fun ls hl => ?_)
        obtain ⟨x_42, ex_42, hx_42⟩ := iincB (c := 1) (lo := 1) (hi := 401) r_28 rfl
        refine lv_iinc (v := x_42) (lv' := [(4, .int x_42), (3, .int z_39), (0, .ref a0)]) F.1 F.2.1 dX3_readRiver_85 hl (k := 2) rfl ex_42 (by decide) rfl (fun ls hl => ?_)
        refine lv_goto (tgt := 64) F.1 F.2.1 dX3_readRiver_88 (by decide) ?_
        exact ih_64 (z_39, x_42, g_36, g_37, g_38, g_40) _ _ _ ⟨(show (401 - x_42.toInt + 1).toNat < n_64 from by omega), f_41, (wkb hx_42.2 rfl rfl), (show 0 ≤ g_36 ∧ g_36 ≤ 12 from by omega), (show 0 ≤ g_37 ∧ g_37 ≤ 14 from by omega), (show 0 ≤ g_38 ∧ g_38 ≤ 4 from by omega), (show 0 ≤ g_40 ∧ g_40 ≤ 400 from by omega), hH, hS, lv_sub hl [2, 1, 0] rfl⟩
  · skip
    have r_15 : 0 ≤ z_12.toInt ∧ z_12.toInt ≤ 399 := by have h9_ := ez_12; omega
    have r_16 : 1 ≤ z_13.toInt ∧ z_13.toInt ≤ 400 := by have h9_ := ez_13; omega
    refine lv_iconst (v := 1) F.1 F.2.1 dX3_readRiver_55 (by decide) ?_
    refine topK (a := 1) (by decide) (fun k_43 hk_43 => ?_)
    refine lv_goto (tgt := 60) F.1 F.2.1 dX3_readRiver_56 (by decide) ?_
    refine lv_istore_n (lv' := [(3, .int k_43), (0, .ref a0), (1, .ref a1), (2, .int a2)]) F.1 F.2.1 dX3_readRiver_60 rfl hl (by decide) rfl (fun ls hl => ?_)
    refine lv_iconst (v := 0) F.1 F.2.1 dX3_readRiver_61 (by decide) ?_
    refine topK (a := 0) (by decide) (fun k_44 hk_44 => ?_)
    refine lv_istore (lv' := [(4, .int k_44), (3, .int k_43), (0, .ref a0), (1, .ref a1), (2, .int a2)]) F.1 F.2.1 dX3_readRiver_62 hl (by decide) rfl (fun ls hl => ?_)
    refine wloop (σ := Int32 × Int32 × Int × Int × Int × Int) (fun n9 x9 H locs ls => (401 - x9.2.1.toInt + 1).toNat < n9 ∧ (0 ≤ x9.1.toInt ∧ x9.1.toInt ≤ 1) ∧ (0 ≤ x9.2.1.toInt ∧ x9.2.1.toInt ≤ 401) ∧ (0 ≤ x9.2.2.1 ∧ x9.2.2.1 ≤ 12) ∧ (0 ≤ x9.2.2.2.1 ∧ x9.2.2.2.1 ≤ 14) ∧ (0 ≤ x9.2.2.2.2.1 ∧ x9.2.2.2.2.1 ≤ 4) ∧ (0 ≤ x9.2.2.2.2.2 ∧ x9.2.2.2.2.2 ≤ 400) ∧ TH E (tbC dA dB rA (riverD (.inl (x9.2.2.1, x9.2.2.1)) (.inl (x9.2.2.2.1, x9.2.2.2.1)) (.inl (x9.2.2.2.2.1, x9.2.2.2.2.1))) rc (rdD (.inl (x9.2.2.2.2.2, x9.2.2.2.2.2)) (.inl (g_6, g_6)) (.inr [27]))) H ∧ va_S (eA E s.heap.size) s.heap H locs ∧ lv_has ls 5 [(0, .ref a0), (3, .int x9.1), (4, .int x9.2.1)]) ?_ (fun x9 H locs ls h => absurd h.1 (Nat.not_lt_zero _)) _ (k_43, k_44, 0, 0, 0, g_11) ⟨Nat.lt_succ_self _, (wkb (eqb hk_43) rfl rfl), (wkb (eqb hk_44) rfl rfl), (show 0 ≤ 0 ∧ 0 ≤ 12 from by omega), (show 0 ≤ 0 ∧ 0 ≤ 14 from by omega), (show 0 ≤ 0 ∧ 0 ≤ 4 from by omega), (show 0 ≤ g_11 ∧ g_11 ≤ 400 from by omega), hH, hS, lv_sub hl [2, 1, 0] rfl⟩
    intro n_64 ih_64 ⟨u_45, u_46, g_47, g_48, g_49, g_50⟩ H locs ls ⟨hm_64, hu_45, hu_46, hg_47, hg_48, hg_49, hg_50, hH, hS, hl⟩
    have hm_64 : (401 - u_46.toInt + 1).toNat < n_64 + 1 := hm_64
    have hu_45 : (0 ≤ u_45.toInt ∧ u_45.toInt ≤ 1) := hu_45
    have hu_46 : (0 ≤ u_46.toInt ∧ u_46.toInt ≤ 401) := hu_46
    have hg_47 : (0 ≤ g_47 ∧ g_47 ≤ 12) := hg_47
    have hg_48 : (0 ≤ g_48 ∧ g_48 ≤ 14) := hg_48
    have hg_49 : (0 ≤ g_49 ∧ g_49 ≤ 4) := hg_49
    have hg_50 : (0 ≤ g_50 ∧ g_50 ≤ 400) := hg_50
    have hH : TH E (tbC dA dB rA (riverD (.inl (g_47, g_47)) (.inl (g_48, g_48)) (.inl (g_49, g_49))) rc (rdD (.inl (g_50, g_50)) (.inl (g_6, g_6)) (.inr [27]))) H := hH
    have hl : lv_has ls 5 [(0, .ref a0), (3, .int u_45), (4, .int u_46)] := hl
    refine lv_iload F.1 F.2.1 dX3_readRiver_64 (lv_at hl 2 rfl) ?_
    refine lv_sipush (v := 400) F.1 F.2.1 dX3_readRiver_66 (by decide) ?_
    refine topK (a := 400) (by decide) (fun k_51 hk_51 => ?_)
    refine b_gt (tgt := 91) F dX3_readRiver_69 (by decide) (fun c_52 => ?_) (fun c_52 => ?_)
    · skip
      have r_53 : 401 ≤ u_46.toInt ∧ u_46.toInt ≤ 401 := by have h9_ := hu_46; omega
      refine lv_aload_n F.1 F.2.1 dX3_readRiver_91 rfl (lv_at hl 0 rfl) ?_
      refine tGetI (j := 3) F hK hH (tyb ha0 (all1 rfl)) rfl clX3 (by decide) wd_9_5 dX3_readRiver_92 (fun z_55 hz_55 => ?_)
      exact txI F hS dX3_readRiver_95 rfl (⟨hz_55, (TH.loose (t := 29) (TB1 := (tbC dA dB rA (riverD (.inl (0, 12)) (.inl (0, 14)) (.inl (0, 4))) rc (rdD (.inl (0, 400)) (.inl (0, 400)) (.inr [26, 27])))) (TH.loose (t := 29) (TB1 := (tbC dA dB rA (riverD (.inl (0, 12)) (.inl (0, 14)) (.inl (0, 4))) rc (rdD (.inl (0, 400)) (.inl (0, 400)) (.inr [27])))) (TH.loose (t := 29) (TB1 := (tbC dA dB rA (riverD (.inl (0, 12)) (.inl (0, 14)) (.inl (0, 4))) rc (rdD (.inl (g_50, g_50)) (.inl (0, 400)) (.inr [27])))) (TH.loose (t := 27) (TB1 := (tbC dA dB rA (riverD (.inl (0, 12)) (.inl (0, 14)) (.inl (0, 4))) rc (rdD (.inl (g_50, g_50)) (.inl (g_6, g_6)) (.inr [27])))) (TH.loose (t := 27) (TB1 := (tbC dA dB rA (riverD (.inl (0, 12)) (.inl (0, 14)) (.inl (g_49, g_49))) rc (rdD (.inl (g_50, g_50)) (.inl (g_6, g_6)) (.inr [27])))) (TH.loose (t := 27) (TB1 := (tbC dA dB rA (riverD (.inl (0, 12)) (.inl (g_48, g_48)) (.inl (g_49, g_49))) rc (rdD (.inl (g_50, g_50)) (.inl (g_6, g_6)) (.inr [27])))) hH rfl (tcLoose (j := 0) rfl (by omega)) rfl) rfl (tcLoose (j := 4) rfl (by omega)) rfl) rfl (tcLoose (j := 14) rfl (by omega)) rfl) rfl (tcLoose (j := 1) rfl (by omega)) rfl) rfl (tcLoose (j := 2) rfl (by omega)) rfl) rfl (tcLooseR (j := 5) rfl (by simp)) rfl)⟩)
    · skip
      have r_54 : 0 ≤ u_46.toInt ∧ u_46.toInt ≤ 400 := by have h9_ := hu_46; omega
      refine lv_iload_n F.1 F.2.1 dX3_readRiver_72 rfl (lv_at hl 1 rfl) ?_
      refine z_eq (tgt := 91) F dX3_readRiver_73 (by decide) (fun c_56 => ?_) (fun c_56 => ?_)
      · skip
        have r_57 : 0 ≤ u_45.toInt ∧ u_45.toInt ≤ 0 := by have h9_ := hu_45; omega
        refine lv_aload_n F.1 F.2.1 dX3_readRiver_91 rfl (lv_at hl 0 rfl) ?_
        refine tGetI (j := 3) F hK hH (tyb ha0 (all1 rfl)) rfl clX3 (by decide) wd_9_5 dX3_readRiver_92 (fun z_59 hz_59 => ?_)
        exact txI F hS dX3_readRiver_95 rfl (⟨hz_59, (TH.loose (t := 29) (TB1 := (tbC dA dB rA (riverD (.inl (0, 12)) (.inl (0, 14)) (.inl (0, 4))) rc (rdD (.inl (0, 400)) (.inl (0, 400)) (.inr [26, 27])))) (TH.loose (t := 29) (TB1 := (tbC dA dB rA (riverD (.inl (0, 12)) (.inl (0, 14)) (.inl (0, 4))) rc (rdD (.inl (0, 400)) (.inl (0, 400)) (.inr [27])))) (TH.loose (t := 29) (TB1 := (tbC dA dB rA (riverD (.inl (0, 12)) (.inl (0, 14)) (.inl (0, 4))) rc (rdD (.inl (g_50, g_50)) (.inl (0, 400)) (.inr [27])))) (TH.loose (t := 27) (TB1 := (tbC dA dB rA (riverD (.inl (0, 12)) (.inl (0, 14)) (.inl (0, 4))) rc (rdD (.inl (g_50, g_50)) (.inl (g_6, g_6)) (.inr [27])))) (TH.loose (t := 27) (TB1 := (tbC dA dB rA (riverD (.inl (0, 12)) (.inl (0, 14)) (.inl (g_49, g_49))) rc (rdD (.inl (g_50, g_50)) (.inl (g_6, g_6)) (.inr [27])))) (TH.loose (t := 27) (TB1 := (tbC dA dB rA (riverD (.inl (0, 12)) (.inl (g_48, g_48)) (.inl (g_49, g_49))) rc (rdD (.inl (g_50, g_50)) (.inl (g_6, g_6)) (.inr [27])))) hH rfl (tcLoose (j := 0) rfl (by omega)) rfl) rfl (tcLoose (j := 4) rfl (by omega)) rfl) rfl (tcLoose (j := 14) rfl (by omega)) rfl) rfl (tcLoose (j := 1) rfl (by omega)) rfl) rfl (tcLoose (j := 2) rfl (by omega)) rfl) rfl (tcLooseR (j := 5) rfl (by simp)) rfl)⟩)
      · skip
        have r_58 : 1 ≤ u_45.toInt ∧ u_45.toInt ≤ 1 := by have h9_ := hu_45; omega
        refine lv_aload_n F.1 F.2.1 dX3_readRiver_76 rfl (lv_at hl 0 rfl) ?_
        refine tVv (b := a0) (As := []) (rest := []) F hK hN hO (c_X3_readPart_2 E dA dB rA rc g_47 g_48 g_49 g_6 g_50 a0 ha0 (by omega) (by omega) (by omega) (by omega) (by omega)) mv_X3_readPart wd_9_18 ⟨Nat.le_of_ble_eq_true rfl, Nat.le_of_ble_eq_true rfl⟩ ⟨Nat.le_of_ble_eq_true rfl, Nat.le_of_ble_eq_true rfl⟩ hH hS (tRecv hK hH (tyb ha0 (all1 rfl)) clX3) rfl hl.1 (Nat.le_of_ble_eq_true rfl) dX3_readRiver_77 (fun H locs hq hS => ?_)
        obtain ⟨g_61, hg_61, g_62, hg_62, g_63, hg_63, g_64, hg_64, hH⟩ := hq
        have hH : TH E (tbC dA dB rA (riverD (.inl (g_62, g_62)) (.inl (g_63, g_63)) (.inl (g_64, g_64))) rc (rdD (.inl (g_61, g_61)) (.inl (g_6, g_6)) (.inr [27]))) H := hH
        refine lv_aload_n F.1 F.2.1 dX3_readRiver_80 rfl (lv_at hl 0 rfl) ?_
        refine tVi (b := a0) (As := []) (rest := []) F hK hN hO (c_X3_readBetween E dA dB rA (riverD (.inl (g_62, g_62)) (.inl (g_63, g_63)) (.inl (g_64, g_64))) rc (.inr [27]) g_6 g_61 a0 ha0 (by omega) (by omega)) mv_X3_readBetween wd_14_13 ⟨Nat.le_of_ble_eq_true rfl, Nat.le_of_ble_eq_true rfl⟩ ⟨Nat.le_of_ble_eq_true rfl, Nat.le_of_ble_eq_true rfl⟩ hH hS (tRecv hK hH (tyb ha0 (all1 rfl)) clX3) rfl hl.1 (Nat.le_of_ble_eq_true rfl) dX3_readRiver_81 (fun z_65 H locs hq hS => ?_)
        obtain ⟨g_66, hg_66, f_67, hH⟩ := hq
        have hH : TH E (tbC dA dB rA (riverD (.inl (g_62, g_62)) (.inl (g_63, g_63)) (.inl (g_64, g_64))) rc (rdD (.inl (g_66, g_66)) (.inl (g_6, g_6)) (.inr [27]))) H := hH
        refine lv_istore_n (lv' := [(3, .int z_65), (0, .ref a0), (4, .int u_46)]) F.1 F.2.1 dX3_readRiver_84 rfl hl (by decide) rfl (fun ls hl => ?_)
        obtain ⟨x_68, ex_68, hx_68⟩ := iincB (c := 1) (lo := 1) (hi := 401) r_54 rfl
        refine lv_iinc (v := x_68) (lv' := [(4, .int x_68), (3, .int z_65), (0, .ref a0)]) F.1 F.2.1 dX3_readRiver_85 hl (k := 2) rfl ex_68 (by decide) rfl (fun ls hl => ?_)
        refine lv_goto (tgt := 64) F.1 F.2.1 dX3_readRiver_88 (by decide) ?_
        exact ih_64 (z_65, x_68, g_62, g_63, g_64, g_66) _ _ _ ⟨(show (401 - x_68.toInt + 1).toNat < n_64 from by omega), f_67, (wkb hx_68.2 rfl rfl), (show 0 ≤ g_62 ∧ g_62 ≤ 12 from by omega), (show 0 ≤ g_63 ∧ g_63 ≤ 14 from by omega), (show 0 ≤ g_64 ∧ g_64 ≤ 4 from by omega), (show 0 ≤ g_66 ∧ g_66 ≤ 400 from by omega), hH, hS, lv_sub hl [2, 1, 0] rfl⟩
set_option maxHeartbeats 4000000 in
set_option maxRecDepth 100000 in
theorem c_X6_tell (E : Ev) (t : Int) (a0 : Nat) (ha0 : eT E a0 ∈ [28]) (ht : 0 ≤ t ∧ t ≤ 400) : TcI E yX6_tell cX6_tell 3 .int ({ frames := 10, cells := 0, slots := 0, locals := 294 }) [.ref a0] (fun H => TH E (tbC (dayD (.inl (0, 18))) (dayD (.inl (0, 18))) (riverD (.inl (0, 12)) (.inl (0, 14)) (.inl (0, 4))) (riverD (.inl (0, 12)) (.inl (0, 14)) (.inl (0, 4))) (rcD (.inl (t, t))) (rdD (.inl (0, 400)) (.inl (0, 400)) (.inr [26, 27]))) H) (fun v H => ((-2147483648) ≤ v.toInt ∧ v.toInt ≤ 2147483647) ∧ TH E (tbC (dayD (.inl (0, 18))) (dayD (.inl (0, 18))) (riverD (.inl (0, 12)) (.inl (0, 14)) (.inl (0, 4))) (riverD (.inl (0, 12)) (.inl (0, 14)) (.inl (0, 4))) (rcD (.inl (0, 0))) (rdD (.inl (0, 400)) (.inl (0, 400)) (.inr [26, 27]))) H) := by
  refine teI (by decide) (Nat.le_of_ble_eq_true rfl) ?_
  intro p_ ev_ s mi_ below_ meth cd_ ls F hK hN hO hH hS hl
  have hH : TH E (tbC (dayD (.inl (0, 18))) (dayD (.inl (0, 18))) (riverD (.inl (0, 12)) (.inl (0, 14)) (.inl (0, 4))) (riverD (.inl (0, 12)) (.inl (0, 14)) (.inl (0, 4))) (rcD (.inl (t, t))) (rdD (.inl (0, 400)) (.inl (0, 400)) (.inr [26, 27]))) s.heap := hH
  have hl : lv_has ls 3 [(0, .ref a0)] := hl
  refine lv_aload_n F.1 F.2.1 dX6_tell_0 rfl (lv_at hl 0 rfl) ?_
  refine tGetR (j := 13) F hK hH (tyb ha0 (all1 rfl)) rfl (all1 rfl) clX6 (by decide) wd_2_15 dX6_tell_1 (fun q_1 hq_1 _ => ?_)
  refine lv_aload_n F.1 F.2.1 dX6_tell_4 rfl (lv_at hl 0 rfl) ?_
  refine tGetR (j := 3) F hK hH (tyb ha0 (all1 rfl)) rfl (all2 rfl rfl) clX6 (by decide) wd_1_18 dX6_tell_5 (fun q_2 hq_2 _ => ?_)
  rcases memSplit hq_2 with hq_2 | hq_2
  · skip
    refine lv_aload_n F.1 F.2.1 dX6_tell_8 rfl (lv_at hl 0 rfl) ?_
    refine tGetI (j := 1) F hK hH (tyb ha0 (all1 rfl)) rfl clX6 (by decide) wd_7_12 dX6_tell_9 (fun z_3 hz_3 => ?_)
    have ez_3 : 0 ≤ z_3.toInt ∧ z_3.toInt ≤ 400 := by omega
    refine tVi (b := q_1) (As := [.ref q_2, .int z_3]) (rest := []) F hK hN hO (c_X3_readRiver_1 E (dayD (.inl (0, 18))) (dayD (.inl (0, 18))) (riverD (.inl (0, 12)) (.inl (0, 14)) (.inl (0, 4))) (rcD (.inl (t, t))) q_1 q_2 z_3 hq_1 hq_2 ez_3) mv_X3_readRiver wd_8_19 ⟨Nat.le_of_ble_eq_true rfl, Nat.le_of_ble_eq_true rfl⟩ ⟨Nat.le_of_ble_eq_true rfl, Nat.le_of_ble_eq_true rfl⟩ hH hS (tRecv hK hH (tyb hq_1 (all1 rfl)) clX3) rfl hl.1 (Nat.le_of_ble_eq_true rfl) dX6_tell_12 (fun z_4 H locs hq hS => ?_)
    obtain ⟨f_5, hH⟩ := hq
    have hH : TH E (tbC (dayD (.inl (0, 18))) (dayD (.inl (0, 18))) (riverD (.inl (0, 12)) (.inl (0, 14)) (.inl (0, 4))) (riverD (.inl (0, 12)) (.inl (0, 14)) (.inl (0, 4))) (rcD (.inl (t, t))) (rdD (.inl (0, 400)) (.inl (0, 400)) (.inr [26, 27]))) H := hH
    refine lv_istore_n (lv' := [(1, .int z_4), (0, .ref a0)]) F.1 F.2.1 dX6_tell_15 rfl hl (by decide) rfl (fun ls hl => ?_)
    refine lv_aload_n F.1 F.2.1 dX6_tell_16 rfl (lv_at hl 1 rfl) ?_
    refine lv_iconst (v := 0) F.1 F.2.1 dX6_tell_17 (by decide) ?_
    refine topK (a := 0) (by decide) (fun k_6 hk_6 => ?_)
    refine tPutG (j := 1) (t := 28) (fd := (.inl (0, 0))) F hK hH hS (List.mem_singleton.mp ha0) (by decide) rfl rfl (fdI (by omega)) (TB1 := (tbC (dayD (.inl (0, 18))) (dayD (.inl (0, 18))) (riverD (.inl (0, 12)) (.inl (0, 14)) (.inl (0, 4))) (riverD (.inl (0, 12)) (.inl (0, 14)) (.inl (0, 4))) (rcD (.inl (0, 0))) (rdD (.inl (0, 400)) (.inl (0, 400)) (.inr [26, 27])))) rfl clX6 (by decide) wd_7_12 rfl rfl rfl rfl dX6_tell_18 (fun H locs hH hS => ?_)
    refine lv_iload_n F.1 F.2.1 dX6_tell_21 rfl (lv_at hl 0 rfl) ?_
    refine z_eq (tgt := 30) F dX6_tell_22 (by decide) (fun c_7 => ?_) (fun c_7 => ?_)
    · skip
      have r_8 : 0 ≤ z_4.toInt ∧ z_4.toInt ≤ 0 := by have h9_ := f_5; omega
      refine lv_aload_n F.1 F.2.1 dX6_tell_30 rfl (lv_at hl 1 rfl) ?_
      refine tGetR (j := 3) F hK hH (tyb ha0 (all1 rfl)) rfl (all2 rfl rfl) clX6 (by decide) wd_1_18 dX6_tell_31 (fun q_9 hq_9 _ => ?_)
      refine lv_astore_n (lv' := [(2, .ref q_9), (1, .int z_4), (0, .ref a0)]) F.1 F.2.1 dX6_tell_34 rfl hl (by decide) rfl (fun ls hl => ?_)
      refine lv_aload_n F.1 F.2.1 dX6_tell_35 rfl (lv_at hl 2 rfl) ?_
      refine lv_aload_n F.1 F.2.1 dX6_tell_36 rfl (lv_at hl 2 rfl) ?_
      refine tGetR (j := 2) F hK hH (tyb ha0 (all1 rfl)) rfl (all2 rfl rfl) clX6 (by decide) wd_1_17 dX6_tell_37 (fun q_10 hq_10 _ => ?_)
      refine tPut (j := 3) F hK hH hS (tyb ha0 (all1 rfl)) rfl (fdR hq_10) clX6 (by decide) wd_1_18 rfl rfl rfl rfl dX6_tell_40 (fun H locs hH hS => ?_)
      refine lv_aload_n F.1 F.2.1 dX6_tell_43 rfl (lv_at hl 2 rfl) ?_
      refine lv_aload_n F.1 F.2.1 dX6_tell_44 rfl (lv_at hl 0 rfl) ?_
      refine tPut (j := 2) F hK hH hS (tyb ha0 (all1 rfl)) rfl (fdR hq_9) clX6 (by decide) wd_1_17 rfl rfl rfl rfl dX6_tell_45 (fun H locs hH hS => ?_)
      refine lv_aload_n F.1 F.2.1 dX6_tell_48 rfl (lv_at hl 2 rfl) ?_
      refine tGetR (j := 4) F hK hH (tyb ha0 (all1 rfl)) rfl (all1 rfl) clX6 (by decide) wd_1_22 dX6_tell_49 (fun q_11 hq_11 _ => ?_)
      refine lv_aload_n F.1 F.2.1 dX6_tell_52 rfl (lv_at hl 2 rfl) ?_
      refine tGetR (j := 2) F hK hH (tyb ha0 (all1 rfl)) rfl (all2 rfl rfl) clX6 (by decide) wd_1_17 dX6_tell_53 (fun q_12 hq_12 _ => ?_)
      refine tVv (b := q_11) (As := [.ref q_12]) (rest := []) F hK hN hO (c_X5_startAs E (dayD (.inl (0, 18))) (dayD (.inl (0, 18))) (rcD (.inl (0, 0))) (rdD (.inl (0, 400)) (.inl (0, 400)) (.inr [26, 27])) q_11 q_12 hq_11 (by have h9_ := hq_12; simp at h9_ ⊢; omega)) mv_X5_startAs wd_14_17 ⟨Nat.le_of_ble_eq_true rfl, Nat.le_of_ble_eq_true rfl⟩ ⟨Nat.le_of_ble_eq_true rfl, Nat.le_of_ble_eq_true rfl⟩ hH hS (tRecv hK hH (tyb hq_11 (all1 rfl)) clX5) rfl hl.1 (Nat.le_of_ble_eq_true rfl) dX6_tell_56 (fun H locs hq hS => ?_)
      have hH := hq
      have hH : TH E (tbC (dayD (.inl (0, 18))) (dayD (.inl (0, 18))) (riverD (.inl (0, 12)) (.inl (0, 14)) (.inl (0, 4))) (riverD (.inl (0, 12)) (.inl (0, 14)) (.inl (0, 4))) (rcD (.inl (0, 0))) (rdD (.inl (0, 400)) (.inl (0, 400)) (.inr [26, 27]))) H := hH
      refine lv_aload_n F.1 F.2.1 dX6_tell_59 rfl (lv_at hl 2 rfl) ?_
      refine lv_iconst (v := 0) F.1 F.2.1 dX6_tell_60 (by decide) ?_
      refine topK (a := 0) (by decide) (fun k_14 hk_14 => ?_)
      refine tPut (j := 7) F hK hH hS (tyb ha0 (all1 rfl)) rfl (fdI (wkb (eqb hk_14) rfl rfl)) clX6 (by decide) wd_8_17 rfl rfl rfl rfl dX6_tell_61 (fun H locs hH hS => ?_)
      refine lv_aload_n F.1 F.2.1 dX6_tell_64 rfl (lv_at hl 2 rfl) ?_
      refine tGetR (j := 2) F hK hH (tyb ha0 (all1 rfl)) rfl (all2 rfl rfl) clX6 (by decide) wd_1_17 dX6_tell_65 (fun q_15 hq_15 _ => ?_)
      refine tGetI (j := 4) F hK hH (tyb hq_15 (all2 rfl rfl)) rfl clX2 (by decide) wd_8_18 dX6_tell_68 (fun z_16 hz_16 => ?_)
      exact txI F hS dX6_tell_71 rfl (⟨(wkb hz_16 rfl rfl), hH⟩)
    · skip
      refine lv_bipush (v := (-2)) F.1 F.2.1 dX6_tell_25 (by decide) ?_
      refine topK (a := (-2)) (by decide) (fun k_17 hk_17 => ?_)
      refine lv_iload_n F.1 F.2.1 dX6_tell_27 rfl (lv_at hl 0 rfl) ?_
      refine lv_isub F.1 F.2.1 dX6_tell_28 ?_
      refine topF (fun z_18 => ?_)
      exact txI F hS dX6_tell_29 rfl (⟨(i32b _), hH⟩)
  · skip
    refine lv_aload_n F.1 F.2.1 dX6_tell_8 rfl (lv_at hl 0 rfl) ?_
    refine tGetI (j := 1) F hK hH (tyb ha0 (all1 rfl)) rfl clX6 (by decide) wd_7_12 dX6_tell_9 (fun z_19 hz_19 => ?_)
    have ez_19 : 0 ≤ z_19.toInt ∧ z_19.toInt ≤ 400 := by omega
    refine tVi (b := q_1) (As := [.ref q_2, .int z_19]) (rest := []) F hK hN hO (c_X3_readRiver_2 E (dayD (.inl (0, 18))) (dayD (.inl (0, 18))) (riverD (.inl (0, 12)) (.inl (0, 14)) (.inl (0, 4))) (rcD (.inl (t, t))) q_1 q_2 z_19 hq_1 hq_2 ez_19) mv_X3_readRiver wd_8_19 ⟨Nat.le_of_ble_eq_true rfl, Nat.le_of_ble_eq_true rfl⟩ ⟨Nat.le_of_ble_eq_true rfl, Nat.le_of_ble_eq_true rfl⟩ hH hS (tRecv hK hH (tyb hq_1 (all1 rfl)) clX3) rfl hl.1 (Nat.le_of_ble_eq_true rfl) dX6_tell_12 (fun z_20 H locs hq hS => ?_)
    obtain ⟨f_21, hH⟩ := hq
    have hH : TH E (tbC (dayD (.inl (0, 18))) (dayD (.inl (0, 18))) (riverD (.inl (0, 12)) (.inl (0, 14)) (.inl (0, 4))) (riverD (.inl (0, 12)) (.inl (0, 14)) (.inl (0, 4))) (rcD (.inl (t, t))) (rdD (.inl (0, 400)) (.inl (0, 400)) (.inr [26, 27]))) H := hH
    refine lv_istore_n (lv' := [(1, .int z_20), (0, .ref a0)]) F.1 F.2.1 dX6_tell_15 rfl hl (by decide) rfl (fun ls hl => ?_)
    refine lv_aload_n F.1 F.2.1 dX6_tell_16 rfl (lv_at hl 1 rfl) ?_
    refine lv_iconst (v := 0) F.1 F.2.1 dX6_tell_17 (by decide) ?_
    refine topK (a := 0) (by decide) (fun k_22 hk_22 => ?_)
    refine tPutG (j := 1) (t := 28) (fd := (.inl (0, 0))) F hK hH hS (List.mem_singleton.mp ha0) (by decide) rfl rfl (fdI (by omega)) (TB1 := (tbC (dayD (.inl (0, 18))) (dayD (.inl (0, 18))) (riverD (.inl (0, 12)) (.inl (0, 14)) (.inl (0, 4))) (riverD (.inl (0, 12)) (.inl (0, 14)) (.inl (0, 4))) (rcD (.inl (0, 0))) (rdD (.inl (0, 400)) (.inl (0, 400)) (.inr [26, 27])))) rfl clX6 (by decide) wd_7_12 rfl rfl rfl rfl dX6_tell_18 (fun H locs hH hS => ?_)
    refine lv_iload_n F.1 F.2.1 dX6_tell_21 rfl (lv_at hl 0 rfl) ?_
    refine z_eq (tgt := 30) F dX6_tell_22 (by decide) (fun c_23 => ?_) (fun c_23 => ?_)
    · skip
      have r_24 : 0 ≤ z_20.toInt ∧ z_20.toInt ≤ 0 := by have h9_ := f_21; omega
      refine lv_aload_n F.1 F.2.1 dX6_tell_30 rfl (lv_at hl 1 rfl) ?_
      refine tGetR (j := 3) F hK hH (tyb ha0 (all1 rfl)) rfl (all2 rfl rfl) clX6 (by decide) wd_1_18 dX6_tell_31 (fun q_25 hq_25 _ => ?_)
      refine lv_astore_n (lv' := [(2, .ref q_25), (1, .int z_20), (0, .ref a0)]) F.1 F.2.1 dX6_tell_34 rfl hl (by decide) rfl (fun ls hl => ?_)
      refine lv_aload_n F.1 F.2.1 dX6_tell_35 rfl (lv_at hl 2 rfl) ?_
      refine lv_aload_n F.1 F.2.1 dX6_tell_36 rfl (lv_at hl 2 rfl) ?_
      refine tGetR (j := 2) F hK hH (tyb ha0 (all1 rfl)) rfl (all2 rfl rfl) clX6 (by decide) wd_1_17 dX6_tell_37 (fun q_26 hq_26 _ => ?_)
      refine tPut (j := 3) F hK hH hS (tyb ha0 (all1 rfl)) rfl (fdR hq_26) clX6 (by decide) wd_1_18 rfl rfl rfl rfl dX6_tell_40 (fun H locs hH hS => ?_)
      refine lv_aload_n F.1 F.2.1 dX6_tell_43 rfl (lv_at hl 2 rfl) ?_
      refine lv_aload_n F.1 F.2.1 dX6_tell_44 rfl (lv_at hl 0 rfl) ?_
      refine tPut (j := 2) F hK hH hS (tyb ha0 (all1 rfl)) rfl (fdR hq_25) clX6 (by decide) wd_1_17 rfl rfl rfl rfl dX6_tell_45 (fun H locs hH hS => ?_)
      refine lv_aload_n F.1 F.2.1 dX6_tell_48 rfl (lv_at hl 2 rfl) ?_
      refine tGetR (j := 4) F hK hH (tyb ha0 (all1 rfl)) rfl (all1 rfl) clX6 (by decide) wd_1_22 dX6_tell_49 (fun q_27 hq_27 _ => ?_)
      refine lv_aload_n F.1 F.2.1 dX6_tell_52 rfl (lv_at hl 2 rfl) ?_
      refine tGetR (j := 2) F hK hH (tyb ha0 (all1 rfl)) rfl (all2 rfl rfl) clX6 (by decide) wd_1_17 dX6_tell_53 (fun q_28 hq_28 _ => ?_)
      refine tVv (b := q_27) (As := [.ref q_28]) (rest := []) F hK hN hO (c_X5_startAs E (dayD (.inl (0, 18))) (dayD (.inl (0, 18))) (rcD (.inl (0, 0))) (rdD (.inl (0, 400)) (.inl (0, 400)) (.inr [26, 27])) q_27 q_28 hq_27 (by have h9_ := hq_28; simp at h9_ ⊢; omega)) mv_X5_startAs wd_14_17 ⟨Nat.le_of_ble_eq_true rfl, Nat.le_of_ble_eq_true rfl⟩ ⟨Nat.le_of_ble_eq_true rfl, Nat.le_of_ble_eq_true rfl⟩ hH hS (tRecv hK hH (tyb hq_27 (all1 rfl)) clX5) rfl hl.1 (Nat.le_of_ble_eq_true rfl) dX6_tell_56 (fun H locs hq hS => ?_)
      have hH := hq
      have hH : TH E (tbC (dayD (.inl (0, 18))) (dayD (.inl (0, 18))) (riverD (.inl (0, 12)) (.inl (0, 14)) (.inl (0, 4))) (riverD (.inl (0, 12)) (.inl (0, 14)) (.inl (0, 4))) (rcD (.inl (0, 0))) (rdD (.inl (0, 400)) (.inl (0, 400)) (.inr [26, 27]))) H := hH
      refine lv_aload_n F.1 F.2.1 dX6_tell_59 rfl (lv_at hl 2 rfl) ?_
      refine lv_iconst (v := 0) F.1 F.2.1 dX6_tell_60 (by decide) ?_
      refine topK (a := 0) (by decide) (fun k_30 hk_30 => ?_)
      refine tPut (j := 7) F hK hH hS (tyb ha0 (all1 rfl)) rfl (fdI (wkb (eqb hk_30) rfl rfl)) clX6 (by decide) wd_8_17 rfl rfl rfl rfl dX6_tell_61 (fun H locs hH hS => ?_)
      refine lv_aload_n F.1 F.2.1 dX6_tell_64 rfl (lv_at hl 2 rfl) ?_
      refine tGetR (j := 2) F hK hH (tyb ha0 (all1 rfl)) rfl (all2 rfl rfl) clX6 (by decide) wd_1_17 dX6_tell_65 (fun q_31 hq_31 _ => ?_)
      refine tGetI (j := 4) F hK hH (tyb hq_31 (all2 rfl rfl)) rfl clX2 (by decide) wd_8_18 dX6_tell_68 (fun z_32 hz_32 => ?_)
      exact txI F hS dX6_tell_71 rfl (⟨(wkb hz_32 rfl rfl), hH⟩)
    · skip
      refine lv_bipush (v := (-2)) F.1 F.2.1 dX6_tell_25 (by decide) ?_
      refine topK (a := (-2)) (by decide) (fun k_33 hk_33 => ?_)
      refine lv_iload_n F.1 F.2.1 dX6_tell_27 rfl (lv_at hl 0 rfl) ?_
      refine lv_isub F.1 F.2.1 dX6_tell_28 ?_
      refine topF (fun z_34 => ?_)
      exact txI F hS dX6_tell_29 rfl (⟨(i32b _), hH⟩)
