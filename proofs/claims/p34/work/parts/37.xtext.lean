theorem dX4_put_0 : decode cX4_put 0 = .ok (.aload_n 0, 1) := by decide +kernel
theorem dX4_put_1 : decode cX4_put 1 = .ok (.getfield 23, 3) := by decide +kernel
theorem dX4_put_4 : decode cX4_put 4 = .ok (.aload_n 0, 1) := by decide +kernel
theorem dX4_put_5 : decode cX4_put 5 = .ok (.getfield 19, 3) := by decide +kernel
theorem dX4_put_8 : decode cX4_put 8 = .ok (.if_icmp .ne 8, 3) := by decide +kernel
theorem dX4_put_11 : decode cX4_put 11 = .ok (.aload_n 0, 1) := by decide +kernel
theorem dX4_put_12 : decode cX4_put 12 = .ok (.iload_n 1, 1) := by decide +kernel
theorem dX4_put_13 : decode cX4_put 13 = .ok (.putfield 26, 3) := by decide +kernel
theorem dX4_put_16 : decode cX4_put 16 = .ok (.aload_n 0, 1) := by decide +kernel
theorem dX4_put_17 : decode cX4_put 17 = .ok (.dup, 1) := by decide +kernel
theorem dX4_put_18 : decode cX4_put 18 = .ok (.getfield 23, 3) := by decide +kernel
theorem dX4_put_21 : decode cX4_put 21 = .ok (.iconst 1, 1) := by decide +kernel
theorem dX4_put_22 : decode cX4_put 22 = .ok (.iadd, 1) := by decide +kernel
theorem dX4_put_23 : decode cX4_put 23 = .ok (.putfield 23, 3) := by decide +kernel
theorem dX4_put_26 : decode cX4_put 26 = .ok (.return_, 1) := by decide +kernel
theorem dX4_putWord_0 : decode cX4_putWord 0 = .ok (.iconst 0, 1) := by decide +kernel
theorem dX4_putWord_1 : decode cX4_putWord 1 = .ok (.istore_n 2, 1) := by decide +kernel
theorem dX4_putWord_2 : decode cX4_putWord 2 = .ok (.iload_n 2, 1) := by decide +kernel
theorem dX4_putWord_3 : decode cX4_putWord 3 = .ok (.aload_n 1, 1) := by decide +kernel
theorem dX4_putWord_4 : decode cX4_putWord 4 = .ok (.invokevirtual 136, 3) := by decide +kernel
theorem dX4_putWord_7 : decode cX4_putWord 7 = .ok (.if_icmp .ge 18, 3) := by decide +kernel
theorem dX4_putWord_10 : decode cX4_putWord 10 = .ok (.aload_n 0, 1) := by decide +kernel
theorem dX4_putWord_11 : decode cX4_putWord 11 = .ok (.aload_n 1, 1) := by decide +kernel
theorem dX4_putWord_12 : decode cX4_putWord 12 = .ok (.iload_n 2, 1) := by decide +kernel
theorem dX4_putWord_13 : decode cX4_putWord 13 = .ok (.invokevirtual 142, 3) := by decide +kernel
theorem dX4_putWord_16 : decode cX4_putWord 16 = .ok (.invokevirtual 129, 3) := by decide +kernel
theorem dX4_putWord_19 : decode cX4_putWord 19 = .ok (.iinc 2 1, 3) := by decide +kernel
theorem dX4_putWord_22 : decode cX4_putWord 22 = .ok (.goto (-20), 3) := by decide +kernel
theorem dX4_putWord_25 : decode cX4_putWord 25 = .ok (.return_, 1) := by decide +kernel
theorem dX4_putNextWord_0 : decode cX4_putNextWord 0 = .ok (.aload_n 0, 1) := by decide +kernel
theorem dX4_putNextWord_1 : decode cX4_putNextWord 1 = .ok (.bipush 32, 2) := by decide +kernel
theorem dX4_putNextWord_3 : decode cX4_putNextWord 3 = .ok (.invokevirtual 129, 3) := by decide +kernel
theorem dX4_putNextWord_6 : decode cX4_putNextWord 6 = .ok (.aload_n 0, 1) := by decide +kernel
theorem dX4_putNextWord_7 : decode cX4_putNextWord 7 = .ok (.aload_n 1, 1) := by decide +kernel
theorem dX4_putNextWord_8 : decode cX4_putNextWord 8 = .ok (.invokevirtual 133, 3) := by decide +kernel
theorem dX4_putNextWord_11 : decode cX4_putNextWord 11 = .ok (.return_, 1) := by decide +kernel
theorem dX4_beginPart_0 : decode cX4_beginPart 0 = .ok (.aload_n 0, 1) := by decide +kernel
theorem dX4_beginPart_1 : decode cX4_beginPart 1 = .ok (.getfield 23, 3) := by decide +kernel
theorem dX4_beginPart_4 : decode cX4_beginPart 4 = .ok (.ifCond .le 9, 3) := by decide +kernel
theorem dX4_beginPart_7 : decode cX4_beginPart 7 = .ok (.aload_n 0, 1) := by decide +kernel
theorem dX4_beginPart_8 : decode cX4_beginPart 8 = .ok (.bipush 59, 2) := by decide +kernel
theorem dX4_beginPart_10 : decode cX4_beginPart 10 = .ok (.invokevirtual 129, 3) := by decide +kernel
theorem dX4_beginPart_13 : decode cX4_beginPart 13 = .ok (.aload_n 0, 1) := by decide +kernel
theorem dX4_beginPart_14 : decode cX4_beginPart 14 = .ok (.aload_n 1, 1) := by decide +kernel
theorem dX4_beginPart_15 : decode cX4_beginPart 15 = .ok (.invokevirtual 133, 3) := by decide +kernel
theorem dX4_beginPart_18 : decode cX4_beginPart 18 = .ok (.return_, 1) := by decide +kernel
theorem dX4_putNextNumber_0 : decode cX4_putNextNumber 0 = .ok (.aload_n 0, 1) := by decide +kernel
theorem dX4_putNextNumber_1 : decode cX4_putNextNumber 1 = .ok (.bipush 32, 2) := by decide +kernel
theorem dX4_putNextNumber_3 : decode cX4_putNextNumber 3 = .ok (.invokevirtual 129, 3) := by decide +kernel
theorem dX4_putNextNumber_6 : decode cX4_putNextNumber 6 = .ok (.iconst 0, 1) := by decide +kernel
theorem dX4_putNextNumber_7 : decode cX4_putNextNumber 7 = .ok (.istore_n 2, 1) := by decide +kernel
theorem dX4_putNextNumber_8 : decode cX4_putNextNumber 8 = .ok (.ldc 146, 2) := by decide +kernel
theorem dX4_putNextNumber_10 : decode cX4_putNextNumber 10 = .ok (.istore_n 3, 1) := by decide +kernel
theorem dX4_putNextNumber_11 : decode cX4_putNextNumber 11 = .ok (.iload_n 3, 1) := by decide +kernel
theorem dX4_putNextNumber_12 : decode cX4_putNextNumber 12 = .ok (.ifCond .le 53, 3) := by decide +kernel
theorem dX4_putNextNumber_15 : decode cX4_putNextNumber 15 = .ok (.iload_n 1, 1) := by decide +kernel
theorem dX4_putNextNumber_16 : decode cX4_putNextNumber 16 = .ok (.iload_n 3, 1) := by decide +kernel
theorem dX4_putNextNumber_17 : decode cX4_putNextNumber 17 = .ok (.idiv, 1) := by decide +kernel
theorem dX4_putNextNumber_18 : decode cX4_putNextNumber 18 = .ok (.bipush 10, 2) := by decide +kernel
theorem dX4_putNextNumber_20 : decode cX4_putNextNumber 20 = .ok (.irem, 1) := by decide +kernel
theorem dX4_putNextNumber_21 : decode cX4_putNextNumber 21 = .ok (.istore 4, 2) := by decide +kernel
theorem dX4_putNextNumber_23 : decode cX4_putNextNumber 23 = .ok (.iload_n 2, 1) := by decide +kernel
theorem dX4_putNextNumber_24 : decode cX4_putNextNumber 24 = .ok (.ifCond .ne 13, 3) := by decide +kernel
theorem dX4_putNextNumber_27 : decode cX4_putNextNumber 27 = .ok (.iload 4, 2) := by decide +kernel
theorem dX4_putNextNumber_29 : decode cX4_putNextNumber 29 = .ok (.ifCond .gt 8, 3) := by decide +kernel
theorem dX4_putNextNumber_32 : decode cX4_putNextNumber 32 = .ok (.iload_n 3, 1) := by decide +kernel
theorem dX4_putNextNumber_33 : decode cX4_putNextNumber 33 = .ok (.iconst 1, 1) := by decide +kernel
theorem dX4_putNextNumber_34 : decode cX4_putNextNumber 34 = .ok (.if_icmp .ne 7, 3) := by decide +kernel
theorem dX4_putNextNumber_37 : decode cX4_putNextNumber 37 = .ok (.iconst 1, 1) := by decide +kernel
theorem dX4_putNextNumber_38 : decode cX4_putNextNumber 38 = .ok (.goto 4, 3) := by decide +kernel
theorem dX4_putNextNumber_41 : decode cX4_putNextNumber 41 = .ok (.iconst 0, 1) := by decide +kernel
theorem dX4_putNextNumber_42 : decode cX4_putNextNumber 42 = .ok (.istore_n 2, 1) := by decide +kernel
theorem dX4_putNextNumber_43 : decode cX4_putNextNumber 43 = .ok (.iload_n 2, 1) := by decide +kernel
theorem dX4_putNextNumber_44 : decode cX4_putNextNumber 44 = .ok (.ifCond .eq 13, 3) := by decide +kernel
theorem dX4_putNextNumber_47 : decode cX4_putNextNumber 47 = .ok (.aload_n 0, 1) := by decide +kernel
theorem dX4_putNextNumber_48 : decode cX4_putNextNumber 48 = .ok (.bipush 48, 2) := by decide +kernel
theorem dX4_putNextNumber_50 : decode cX4_putNextNumber 50 = .ok (.iload 4, 2) := by decide +kernel
theorem dX4_putNextNumber_52 : decode cX4_putNextNumber 52 = .ok (.iadd, 1) := by decide +kernel
theorem dX4_putNextNumber_53 : decode cX4_putNextNumber 53 = .ok (.i2c, 1) := by decide +kernel
theorem dX4_putNextNumber_54 : decode cX4_putNextNumber 54 = .ok (.invokevirtual 129, 3) := by decide +kernel
theorem dX4_putNextNumber_57 : decode cX4_putNextNumber 57 = .ok (.iload_n 3, 1) := by decide +kernel
theorem dX4_putNextNumber_58 : decode cX4_putNextNumber 58 = .ok (.bipush 10, 2) := by decide +kernel
theorem dX4_putNextNumber_60 : decode cX4_putNextNumber 60 = .ok (.idiv, 1) := by decide +kernel
theorem dX4_putNextNumber_61 : decode cX4_putNextNumber 61 = .ok (.istore_n 3, 1) := by decide +kernel
theorem dX4_putNextNumber_62 : decode cX4_putNextNumber 62 = .ok (.goto (-51), 3) := by decide +kernel
theorem dX4_putNextNumber_65 : decode cX4_putNextNumber 65 = .ok (.return_, 1) := by decide +kernel
theorem dX4_writeStore_0 : decode cX4_writeStore 0 = .ok (.aload_n 0, 1) := by decide +kernel
theorem dX4_writeStore_1 : decode cX4_writeStore 1 = .ok (.ldc 115, 2) := by decide +kernel
theorem dX4_writeStore_3 : decode cX4_writeStore 3 = .ok (.invokevirtual 56, 3) := by decide +kernel
theorem dX4_writeStore_6 : decode cX4_writeStore 6 = .ok (.aload_n 0, 1) := by decide +kernel
theorem dX4_writeStore_7 : decode cX4_writeStore 7 = .ok (.aload_n 0, 1) := by decide +kernel
theorem dX4_writeStore_8 : decode cX4_writeStore 8 = .ok (.getfield 9, 3) := by decide +kernel
theorem dX4_writeStore_11 : decode cX4_writeStore 11 = .ok (.getfield 117, 3) := by decide +kernel
theorem dX4_writeStore_14 : decode cX4_writeStore 14 = .ok (.iload_n 1, 1) := by decide +kernel
theorem dX4_writeStore_15 : decode cX4_writeStore 15 = .ok (.iaload, 1) := by decide +kernel
theorem dX4_writeStore_16 : decode cX4_writeStore 16 = .ok (.invokevirtual 60, 3) := by decide +kernel
theorem dX4_writeStore_19 : decode cX4_writeStore 19 = .ok (.aload_n 0, 1) := by decide +kernel
theorem dX4_writeStore_20 : decode cX4_writeStore 20 = .ok (.aload_n 0, 1) := by decide +kernel
theorem dX4_writeStore_21 : decode cX4_writeStore 21 = .ok (.getfield 9, 3) := by decide +kernel
theorem dX4_writeStore_24 : decode cX4_writeStore 24 = .ok (.getfield 120, 3) := by decide +kernel
theorem dX4_writeStore_27 : decode cX4_writeStore 27 = .ok (.iload_n 1, 1) := by decide +kernel
theorem dX4_writeStore_28 : decode cX4_writeStore 28 = .ok (.iaload, 1) := by decide +kernel
theorem dX4_writeStore_29 : decode cX4_writeStore 29 = .ok (.invokevirtual 60, 3) := by decide +kernel
theorem dX4_writeStore_32 : decode cX4_writeStore 32 = .ok (.aload_n 0, 1) := by decide +kernel
theorem dX4_writeStore_33 : decode cX4_writeStore 33 = .ok (.aload_n 0, 1) := by decide +kernel
theorem dX4_writeStore_34 : decode cX4_writeStore 34 = .ok (.getfield 9, 3) := by decide +kernel
theorem dX4_writeStore_37 : decode cX4_writeStore 37 = .ok (.getfield 123, 3) := by decide +kernel
theorem dX4_writeStore_40 : decode cX4_writeStore 40 = .ok (.iload_n 1, 1) := by decide +kernel
theorem dX4_writeStore_41 : decode cX4_writeStore 41 = .ok (.iaload, 1) := by decide +kernel
theorem dX4_writeStore_42 : decode cX4_writeStore 42 = .ok (.invokevirtual 60, 3) := by decide +kernel
theorem dX4_writeStore_45 : decode cX4_writeStore 45 = .ok (.aload_n 0, 1) := by decide +kernel
theorem dX4_writeStore_46 : decode cX4_writeStore 46 = .ok (.ldc 95, 2) := by decide +kernel
theorem dX4_writeStore_48 : decode cX4_writeStore 48 = .ok (.invokevirtual 71, 3) := by decide +kernel
theorem dX4_writeStore_51 : decode cX4_writeStore 51 = .ok (.aload_n 0, 1) := by decide +kernel
theorem dX4_writeStore_52 : decode cX4_writeStore 52 = .ok (.aload_n 0, 1) := by decide +kernel
theorem dX4_writeStore_53 : decode cX4_writeStore 53 = .ok (.getfield 9, 3) := by decide +kernel
theorem dX4_writeStore_56 : decode cX4_writeStore 56 = .ok (.getfield 126, 3) := by decide +kernel
theorem dX4_writeStore_59 : decode cX4_writeStore 59 = .ok (.iload_n 1, 1) := by decide +kernel
theorem dX4_writeStore_60 : decode cX4_writeStore 60 = .ok (.iaload, 1) := by decide +kernel
theorem dX4_writeStore_61 : decode cX4_writeStore 61 = .ok (.invokevirtual 60, 3) := by decide +kernel
theorem dX4_writeStore_64 : decode cX4_writeStore 64 = .ok (.return_, 1) := by decide +kernel
theorem dX4_writeRight_0 : decode cX4_writeRight 0 = .ok (.aload_n 0, 1) := by decide +kernel
theorem dX4_writeRight_1 : decode cX4_writeRight 1 = .ok (.ldc 81, 2) := by decide +kernel
theorem dX4_writeRight_3 : decode cX4_writeRight 3 = .ok (.invokevirtual 56, 3) := by decide +kernel
theorem dX4_writeRight_6 : decode cX4_writeRight 6 = .ok (.aload_n 0, 1) := by decide +kernel
theorem dX4_writeRight_7 : decode cX4_writeRight 7 = .ok (.aload_n 0, 1) := by decide +kernel
theorem dX4_writeRight_8 : decode cX4_writeRight 8 = .ok (.getfield 15, 3) := by decide +kernel
theorem dX4_writeRight_11 : decode cX4_writeRight 11 = .ok (.getfield 83, 3) := by decide +kernel
theorem dX4_writeRight_14 : decode cX4_writeRight 14 = .ok (.iload_n 1, 1) := by decide +kernel
theorem dX4_writeRight_15 : decode cX4_writeRight 15 = .ok (.iaload, 1) := by decide +kernel
theorem dX4_writeRight_16 : decode cX4_writeRight 16 = .ok (.invokevirtual 60, 3) := by decide +kernel
theorem dX4_writeRight_19 : decode cX4_writeRight 19 = .ok (.aload_n 0, 1) := by decide +kernel
theorem dX4_writeRight_20 : decode cX4_writeRight 20 = .ok (.aload_n 0, 1) := by decide +kernel
theorem dX4_writeRight_21 : decode cX4_writeRight 21 = .ok (.getfield 9, 3) := by decide +kernel
theorem dX4_writeRight_24 : decode cX4_writeRight 24 = .ok (.getfield 86, 3) := by decide +kernel
theorem dX4_writeRight_27 : decode cX4_writeRight 27 = .ok (.iload_n 1, 1) := by decide +kernel
theorem dX4_writeRight_28 : decode cX4_writeRight 28 = .ok (.iaload, 1) := by decide +kernel
theorem dX4_writeRight_29 : decode cX4_writeRight 29 = .ok (.invokevirtual 60, 3) := by decide +kernel
theorem dX4_writeRight_32 : decode cX4_writeRight 32 = .ok (.aload_n 0, 1) := by decide +kernel
theorem dX4_writeRight_33 : decode cX4_writeRight 33 = .ok (.aload_n 0, 1) := by decide +kernel
theorem dX4_writeRight_34 : decode cX4_writeRight 34 = .ok (.getfield 9, 3) := by decide +kernel
theorem dX4_writeRight_37 : decode cX4_writeRight 37 = .ok (.getfield 89, 3) := by decide +kernel
theorem dX4_writeRight_40 : decode cX4_writeRight 40 = .ok (.iload_n 1, 1) := by decide +kernel
theorem dX4_writeRight_41 : decode cX4_writeRight 41 = .ok (.iaload, 1) := by decide +kernel
theorem dX4_writeRight_42 : decode cX4_writeRight 42 = .ok (.invokevirtual 60, 3) := by decide +kernel
theorem dX4_writeRight_45 : decode cX4_writeRight 45 = .ok (.aload_n 0, 1) := by decide +kernel
theorem dX4_writeRight_46 : decode cX4_writeRight 46 = .ok (.aload_n 0, 1) := by decide +kernel
theorem dX4_writeRight_47 : decode cX4_writeRight 47 = .ok (.getfield 9, 3) := by decide +kernel
theorem dX4_writeRight_50 : decode cX4_writeRight 50 = .ok (.getfield 92, 3) := by decide +kernel
theorem dX4_writeRight_53 : decode cX4_writeRight 53 = .ok (.iload_n 1, 1) := by decide +kernel
theorem dX4_writeRight_54 : decode cX4_writeRight 54 = .ok (.iaload, 1) := by decide +kernel
theorem dX4_writeRight_55 : decode cX4_writeRight 55 = .ok (.invokevirtual 60, 3) := by decide +kernel
theorem dX4_writeRight_58 : decode cX4_writeRight 58 = .ok (.aload_n 0, 1) := by decide +kernel
theorem dX4_writeRight_59 : decode cX4_writeRight 59 = .ok (.ldc 95, 2) := by decide +kernel
theorem dX4_writeRight_61 : decode cX4_writeRight 61 = .ok (.invokevirtual 71, 3) := by decide +kernel
theorem dX4_writeRight_64 : decode cX4_writeRight 64 = .ok (.aload_n 0, 1) := by decide +kernel
theorem dX4_writeRight_65 : decode cX4_writeRight 65 = .ok (.aload_n 0, 1) := by decide +kernel
theorem dX4_writeRight_66 : decode cX4_writeRight 66 = .ok (.getfield 15, 3) := by decide +kernel
theorem dX4_writeRight_69 : decode cX4_writeRight 69 = .ok (.getfield 97, 3) := by decide +kernel
theorem dX4_writeRight_72 : decode cX4_writeRight 72 = .ok (.iload_n 1, 1) := by decide +kernel
theorem dX4_writeRight_73 : decode cX4_writeRight 73 = .ok (.iaload, 1) := by decide +kernel
theorem dX4_writeRight_74 : decode cX4_writeRight 74 = .ok (.invokevirtual 60, 3) := by decide +kernel
theorem dX4_writeRight_77 : decode cX4_writeRight 77 = .ok (.aload_n 0, 1) := by decide +kernel
theorem dX4_writeRight_78 : decode cX4_writeRight 78 = .ok (.getfield 9, 3) := by decide +kernel
theorem dX4_writeRight_81 : decode cX4_writeRight 81 = .ok (.getfield 99, 3) := by decide +kernel
theorem dX4_writeRight_84 : decode cX4_writeRight 84 = .ok (.iload_n 1, 1) := by decide +kernel
theorem dX4_writeRight_85 : decode cX4_writeRight 85 = .ok (.iaload, 1) := by decide +kernel
theorem dX4_writeRight_86 : decode cX4_writeRight 86 = .ok (.ifCond .le 22, 3) := by decide +kernel
theorem dX4_writeRight_89 : decode cX4_writeRight 89 = .ok (.aload_n 0, 1) := by decide +kernel
theorem dX4_writeRight_90 : decode cX4_writeRight 90 = .ok (.ldc 102, 2) := by decide +kernel
theorem dX4_writeRight_92 : decode cX4_writeRight 92 = .ok (.invokevirtual 71, 3) := by decide +kernel
theorem dX4_writeRight_95 : decode cX4_writeRight 95 = .ok (.aload_n 0, 1) := by decide +kernel
theorem dX4_writeRight_96 : decode cX4_writeRight 96 = .ok (.aload_n 0, 1) := by decide +kernel
theorem dX4_writeRight_97 : decode cX4_writeRight 97 = .ok (.getfield 9, 3) := by decide +kernel
theorem dX4_writeRight_100 : decode cX4_writeRight 100 = .ok (.getfield 99, 3) := by decide +kernel
theorem dX4_writeRight_103 : decode cX4_writeRight 103 = .ok (.iload_n 1, 1) := by decide +kernel
theorem dX4_writeRight_104 : decode cX4_writeRight 104 = .ok (.iaload, 1) := by decide +kernel
theorem dX4_writeRight_105 : decode cX4_writeRight 105 = .ok (.invokevirtual 60, 3) := by decide +kernel
theorem dX4_writeRight_108 : decode cX4_writeRight 108 = .ok (.aload_n 0, 1) := by decide +kernel
theorem dX4_writeRight_109 : decode cX4_writeRight 109 = .ok (.getfield 9, 3) := by decide +kernel
theorem dX4_writeRight_112 : decode cX4_writeRight 112 = .ok (.getfield 104, 3) := by decide +kernel
theorem dX4_writeRight_115 : decode cX4_writeRight 115 = .ok (.iload_n 1, 1) := by decide +kernel
theorem dX4_writeRight_116 : decode cX4_writeRight 116 = .ok (.iaload, 1) := by decide +kernel
theorem dX4_writeRight_117 : decode cX4_writeRight 117 = .ok (.ifCond .lt 48, 3) := by decide +kernel
theorem dX4_writeRight_120 : decode cX4_writeRight 120 = .ok (.aload_n 0, 1) := by decide +kernel
theorem dX4_writeRight_121 : decode cX4_writeRight 121 = .ok (.ldc 107, 2) := by decide +kernel
theorem dX4_writeRight_123 : decode cX4_writeRight 123 = .ok (.invokevirtual 71, 3) := by decide +kernel
theorem dX4_writeRight_126 : decode cX4_writeRight 126 = .ok (.aload_n 0, 1) := by decide +kernel
theorem dX4_writeRight_127 : decode cX4_writeRight 127 = .ok (.aload_n 0, 1) := by decide +kernel
theorem dX4_writeRight_128 : decode cX4_writeRight 128 = .ok (.getfield 9, 3) := by decide +kernel
theorem dX4_writeRight_131 : decode cX4_writeRight 131 = .ok (.getfield 104, 3) := by decide +kernel
theorem dX4_writeRight_134 : decode cX4_writeRight 134 = .ok (.iload_n 1, 1) := by decide +kernel
theorem dX4_writeRight_135 : decode cX4_writeRight 135 = .ok (.iaload, 1) := by decide +kernel
theorem dX4_writeRight_136 : decode cX4_writeRight 136 = .ok (.invokevirtual 60, 3) := by decide +kernel
theorem dX4_writeRight_139 : decode cX4_writeRight 139 = .ok (.aload_n 0, 1) := by decide +kernel
theorem dX4_writeRight_140 : decode cX4_writeRight 140 = .ok (.aload_n 0, 1) := by decide +kernel
theorem dX4_writeRight_141 : decode cX4_writeRight 141 = .ok (.getfield 9, 3) := by decide +kernel
theorem dX4_writeRight_144 : decode cX4_writeRight 144 = .ok (.getfield 109, 3) := by decide +kernel
theorem dX4_writeRight_147 : decode cX4_writeRight 147 = .ok (.iload_n 1, 1) := by decide +kernel
theorem dX4_writeRight_148 : decode cX4_writeRight 148 = .ok (.iaload, 1) := by decide +kernel
theorem dX4_writeRight_149 : decode cX4_writeRight 149 = .ok (.invokevirtual 60, 3) := by decide +kernel
theorem dX4_writeRight_152 : decode cX4_writeRight 152 = .ok (.aload_n 0, 1) := by decide +kernel
theorem dX4_writeRight_153 : decode cX4_writeRight 153 = .ok (.aload_n 0, 1) := by decide +kernel
theorem dX4_writeRight_154 : decode cX4_writeRight 154 = .ok (.getfield 9, 3) := by decide +kernel
theorem dX4_writeRight_157 : decode cX4_writeRight 157 = .ok (.getfield 112, 3) := by decide +kernel
theorem dX4_writeRight_160 : decode cX4_writeRight 160 = .ok (.iload_n 1, 1) := by decide +kernel
theorem dX4_writeRight_161 : decode cX4_writeRight 161 = .ok (.iaload, 1) := by decide +kernel
theorem dX4_writeRight_162 : decode cX4_writeRight 162 = .ok (.invokevirtual 60, 3) := by decide +kernel
theorem dX4_writeRight_165 : decode cX4_writeRight 165 = .ok (.return_, 1) := by decide +kernel
theorem dX4_writeReach_0 : decode cX4_writeReach 0 = .ok (.aload_n 0, 1) := by decide +kernel
theorem dX4_writeReach_1 : decode cX4_writeReach 1 = .ok (.ldc 63, 2) := by decide +kernel
theorem dX4_writeReach_3 : decode cX4_writeReach 3 = .ok (.invokevirtual 56, 3) := by decide +kernel
theorem dX4_writeReach_6 : decode cX4_writeReach 6 = .ok (.aload_n 0, 1) := by decide +kernel
theorem dX4_writeReach_7 : decode cX4_writeReach 7 = .ok (.getfield 9, 3) := by decide +kernel
theorem dX4_writeReach_10 : decode cX4_writeReach 10 = .ok (.getfield 65, 3) := by decide +kernel
theorem dX4_writeReach_13 : decode cX4_writeReach 13 = .ok (.iload_n 1, 1) := by decide +kernel
theorem dX4_writeReach_14 : decode cX4_writeReach 14 = .ok (.iaload, 1) := by decide +kernel
theorem dX4_writeReach_15 : decode cX4_writeReach 15 = .ok (.ifCond .ge 12, 3) := by decide +kernel
theorem dX4_writeReach_18 : decode cX4_writeReach 18 = .ok (.aload_n 0, 1) := by decide +kernel
theorem dX4_writeReach_19 : decode cX4_writeReach 19 = .ok (.ldc 69, 2) := by decide +kernel
theorem dX4_writeReach_21 : decode cX4_writeReach 21 = .ok (.invokevirtual 71, 3) := by decide +kernel
theorem dX4_writeReach_24 : decode cX4_writeReach 24 = .ok (.goto 16, 3) := by decide +kernel
theorem dX4_writeReach_27 : decode cX4_writeReach 27 = .ok (.aload_n 0, 1) := by decide +kernel
theorem dX4_writeReach_28 : decode cX4_writeReach 28 = .ok (.aload_n 0, 1) := by decide +kernel
theorem dX4_writeReach_29 : decode cX4_writeReach 29 = .ok (.getfield 9, 3) := by decide +kernel
theorem dX4_writeReach_32 : decode cX4_writeReach 32 = .ok (.getfield 65, 3) := by decide +kernel
theorem dX4_writeReach_35 : decode cX4_writeReach 35 = .ok (.iload_n 1, 1) := by decide +kernel
theorem dX4_writeReach_36 : decode cX4_writeReach 36 = .ok (.iaload, 1) := by decide +kernel
theorem dX4_writeReach_37 : decode cX4_writeReach 37 = .ok (.invokevirtual 60, 3) := by decide +kernel
theorem dX4_writeReach_40 : decode cX4_writeReach 40 = .ok (.iconst 0, 1) := by decide +kernel
theorem dX4_writeReach_41 : decode cX4_writeReach 41 = .ok (.istore_n 2, 1) := by decide +kernel
theorem dX4_writeReach_42 : decode cX4_writeReach 42 = .ok (.iload_n 2, 1) := by decide +kernel
theorem dX4_writeReach_43 : decode cX4_writeReach 43 = .ok (.iconst 4, 1) := by decide +kernel
theorem dX4_writeReach_44 : decode cX4_writeReach 44 = .ok (.if_icmp .ge 26, 3) := by decide +kernel
theorem dX4_writeReach_47 : decode cX4_writeReach 47 = .ok (.aload_n 0, 1) := by decide +kernel
theorem dX4_writeReach_48 : decode cX4_writeReach 48 = .ok (.aload_n 0, 1) := by decide +kernel
theorem dX4_writeReach_49 : decode cX4_writeReach 49 = .ok (.getfield 9, 3) := by decide +kernel
theorem dX4_writeReach_52 : decode cX4_writeReach 52 = .ok (.getfield 74, 3) := by decide +kernel
theorem dX4_writeReach_55 : decode cX4_writeReach 55 = .ok (.iload_n 1, 1) := by decide +kernel
theorem dX4_writeReach_56 : decode cX4_writeReach 56 = .ok (.iconst 4, 1) := by decide +kernel
theorem dX4_writeReach_57 : decode cX4_writeReach 57 = .ok (.imul, 1) := by decide +kernel
theorem dX4_writeReach_58 : decode cX4_writeReach 58 = .ok (.iload_n 2, 1) := by decide +kernel
theorem dX4_writeReach_59 : decode cX4_writeReach 59 = .ok (.iadd, 1) := by decide +kernel
theorem dX4_writeReach_60 : decode cX4_writeReach 60 = .ok (.iaload, 1) := by decide +kernel
theorem dX4_writeReach_61 : decode cX4_writeReach 61 = .ok (.invokevirtual 60, 3) := by decide +kernel
theorem dX4_writeReach_64 : decode cX4_writeReach 64 = .ok (.iinc 2 1, 3) := by decide +kernel
theorem dX4_writeReach_67 : decode cX4_writeReach 67 = .ok (.goto (-25), 3) := by decide +kernel
theorem dX4_writeReach_70 : decode cX4_writeReach 70 = .ok (.aload_n 0, 1) := by decide +kernel
theorem dX4_writeReach_71 : decode cX4_writeReach 71 = .ok (.getfield 9, 3) := by decide +kernel
theorem dX4_writeReach_74 : decode cX4_writeReach 74 = .ok (.getfield 77, 3) := by decide +kernel
theorem dX4_writeReach_77 : decode cX4_writeReach 77 = .ok (.iload_n 1, 1) := by decide +kernel
theorem dX4_writeReach_78 : decode cX4_writeReach 78 = .ok (.iaload, 1) := by decide +kernel
theorem dX4_writeReach_79 : decode cX4_writeReach 79 = .ok (.ifCond .eq 22, 3) := by decide +kernel
theorem dX4_writeReach_82 : decode cX4_writeReach 82 = .ok (.aload_n 0, 1) := by decide +kernel
theorem dX4_writeReach_83 : decode cX4_writeReach 83 = .ok (.ldc 80, 2) := by decide +kernel
theorem dX4_writeReach_85 : decode cX4_writeReach 85 = .ok (.invokevirtual 71, 3) := by decide +kernel
theorem dX4_writeReach_88 : decode cX4_writeReach 88 = .ok (.aload_n 0, 1) := by decide +kernel
theorem dX4_writeReach_89 : decode cX4_writeReach 89 = .ok (.aload_n 0, 1) := by decide +kernel
theorem dX4_writeReach_90 : decode cX4_writeReach 90 = .ok (.getfield 9, 3) := by decide +kernel
theorem dX4_writeReach_93 : decode cX4_writeReach 93 = .ok (.getfield 77, 3) := by decide +kernel
theorem dX4_writeReach_96 : decode cX4_writeReach 96 = .ok (.iload_n 1, 1) := by decide +kernel
theorem dX4_writeReach_97 : decode cX4_writeReach 97 = .ok (.iaload, 1) := by decide +kernel
theorem dX4_writeReach_98 : decode cX4_writeReach 98 = .ok (.invokevirtual 60, 3) := by decide +kernel
theorem dX4_writeReach_101 : decode cX4_writeReach 101 = .ok (.return_, 1) := by decide +kernel
theorem dX4_write_0 : decode cX4_write 0 = .ok (.aload_n 0, 1) := by decide +kernel
theorem dX4_write_1 : decode cX4_write 1 = .ok (.aload_n 1, 1) := by decide +kernel
theorem dX4_write_2 : decode cX4_write 2 = .ok (.putfield 9, 3) := by decide +kernel
theorem dX4_write_5 : decode cX4_write 5 = .ok (.aload_n 0, 1) := by decide +kernel
theorem dX4_write_6 : decode cX4_write 6 = .ok (.aload_n 2, 1) := by decide +kernel
theorem dX4_write_7 : decode cX4_write 7 = .ok (.putfield 15, 3) := by decide +kernel
theorem dX4_write_10 : decode cX4_write 10 = .ok (.aload_n 0, 1) := by decide +kernel
theorem dX4_write_11 : decode cX4_write 11 = .ok (.iload_n 3, 1) := by decide +kernel
theorem dX4_write_12 : decode cX4_write 12 = .ok (.putfield 19, 3) := by decide +kernel
theorem dX4_write_15 : decode cX4_write 15 = .ok (.aload_n 0, 1) := by decide +kernel
theorem dX4_write_16 : decode cX4_write 16 = .ok (.iconst 0, 1) := by decide +kernel
theorem dX4_write_17 : decode cX4_write 17 = .ok (.putfield 23, 3) := by decide +kernel
theorem dX4_write_20 : decode cX4_write 20 = .ok (.aload_n 0, 1) := by decide +kernel
theorem dX4_write_21 : decode cX4_write 21 = .ok (.bipush (-2), 2) := by decide +kernel
theorem dX4_write_23 : decode cX4_write 23 = .ok (.putfield 26, 3) := by decide +kernel
theorem dX4_write_26 : decode cX4_write 26 = .ok (.iconst 0, 1) := by decide +kernel
theorem dX4_write_27 : decode cX4_write 27 = .ok (.istore 4, 2) := by decide +kernel
theorem dX4_write_29 : decode cX4_write 29 = .ok (.iload 4, 2) := by decide +kernel
theorem dX4_write_31 : decode cX4_write 31 = .ok (.aload_n 1, 1) := by decide +kernel
theorem dX4_write_32 : decode cX4_write 32 = .ok (.getfield 29, 3) := by decide +kernel
theorem dX4_write_35 : decode cX4_write 35 = .ok (.if_icmp .ge 15, 3) := by decide +kernel
theorem dX4_write_38 : decode cX4_write 38 = .ok (.aload_n 0, 1) := by decide +kernel
theorem dX4_write_39 : decode cX4_write 39 = .ok (.iload 4, 2) := by decide +kernel
theorem dX4_write_41 : decode cX4_write 41 = .ok (.invokevirtual 34, 3) := by decide +kernel
theorem dX4_write_44 : decode cX4_write 44 = .ok (.iinc 4 1, 3) := by decide +kernel
theorem dX4_write_47 : decode cX4_write 47 = .ok (.goto (-18), 3) := by decide +kernel
theorem dX4_write_50 : decode cX4_write 50 = .ok (.iconst 0, 1) := by decide +kernel
theorem dX4_write_51 : decode cX4_write 51 = .ok (.istore 4, 2) := by decide +kernel
theorem dX4_write_53 : decode cX4_write 53 = .ok (.iload 4, 2) := by decide +kernel
theorem dX4_write_55 : decode cX4_write 55 = .ok (.aload_n 1, 1) := by decide +kernel
theorem dX4_write_56 : decode cX4_write 56 = .ok (.getfield 38, 3) := by decide +kernel
theorem dX4_write_59 : decode cX4_write 59 = .ok (.if_icmp .ge 15, 3) := by decide +kernel
theorem dX4_write_62 : decode cX4_write 62 = .ok (.aload_n 0, 1) := by decide +kernel
theorem dX4_write_63 : decode cX4_write 63 = .ok (.iload 4, 2) := by decide +kernel
theorem dX4_write_65 : decode cX4_write 65 = .ok (.invokevirtual 41, 3) := by decide +kernel
theorem dX4_write_68 : decode cX4_write 68 = .ok (.iinc 4 1, 3) := by decide +kernel
theorem dX4_write_71 : decode cX4_write 71 = .ok (.goto (-18), 3) := by decide +kernel
theorem dX4_write_74 : decode cX4_write 74 = .ok (.iconst 0, 1) := by decide +kernel
theorem dX4_write_75 : decode cX4_write 75 = .ok (.istore 4, 2) := by decide +kernel
theorem dX4_write_77 : decode cX4_write 77 = .ok (.iload 4, 2) := by decide +kernel
theorem dX4_write_79 : decode cX4_write 79 = .ok (.aload_n 1, 1) := by decide +kernel
theorem dX4_write_80 : decode cX4_write 80 = .ok (.getfield 44, 3) := by decide +kernel
theorem dX4_write_83 : decode cX4_write 83 = .ok (.if_icmp .ge 15, 3) := by decide +kernel
theorem dX4_write_86 : decode cX4_write 86 = .ok (.aload_n 0, 1) := by decide +kernel
theorem dX4_write_87 : decode cX4_write 87 = .ok (.iload 4, 2) := by decide +kernel
theorem dX4_write_89 : decode cX4_write 89 = .ok (.invokevirtual 47, 3) := by decide +kernel
theorem dX4_write_92 : decode cX4_write 92 = .ok (.iinc 4 1, 3) := by decide +kernel
theorem dX4_write_95 : decode cX4_write 95 = .ok (.goto (-18), 3) := by decide +kernel
theorem dX4_write_98 : decode cX4_write 98 = .ok (.aload_n 2, 1) := by decide +kernel
theorem dX4_write_99 : decode cX4_write 99 = .ok (.getfield 50, 3) := by decide +kernel
theorem dX4_write_102 : decode cX4_write 102 = .ok (.bipush 100, 2) := by decide +kernel
theorem dX4_write_104 : decode cX4_write 104 = .ok (.if_icmp .eq 17, 3) := by decide +kernel
theorem dX4_write_107 : decode cX4_write 107 = .ok (.aload_n 0, 1) := by decide +kernel
theorem dX4_write_108 : decode cX4_write 108 = .ok (.ldc 55, 2) := by decide +kernel
theorem dX4_write_110 : decode cX4_write 110 = .ok (.invokevirtual 56, 3) := by decide +kernel
theorem dX4_write_113 : decode cX4_write 113 = .ok (.aload_n 0, 1) := by decide +kernel
theorem dX4_write_114 : decode cX4_write 114 = .ok (.aload_n 2, 1) := by decide +kernel
theorem dX4_write_115 : decode cX4_write 115 = .ok (.getfield 50, 3) := by decide +kernel
theorem dX4_write_118 : decode cX4_write 118 = .ok (.invokevirtual 60, 3) := by decide +kernel
theorem dX4_write_121 : decode cX4_write 121 = .ok (.return_, 1) := by decide +kernel
theorem dX6_letter_0 : decode cX6_letter 0 = .ok (.iload_n 1, 1) := by decide +kernel
theorem dX6_letter_1 : decode cX6_letter 1 = .ok (.iconst (-1), 1) := by decide +kernel
theorem dX6_letter_2 : decode cX6_letter 2 = .ok (.if_icmp .ge 5, 3) := by decide +kernel
theorem dX6_letter_5 : decode cX6_letter 5 = .ok (.iconst (-1), 1) := by decide +kernel
theorem dX6_letter_6 : decode cX6_letter 6 = .ok (.ireturn, 1) := by decide +kernel
theorem dX6_letter_7 : decode cX6_letter 7 = .ok (.aload_n 0, 1) := by decide +kernel
theorem dX6_letter_8 : decode cX6_letter 8 = .ok (.getfield 73, 3) := by decide +kernel
theorem dX6_letter_11 : decode cX6_letter 11 = .ok (.aload_n 0, 1) := by decide +kernel
theorem dX6_letter_12 : decode cX6_letter 12 = .ok (.getfield 16, 3) := by decide +kernel
theorem dX6_letter_15 : decode cX6_letter 15 = .ok (.aload_n 0, 1) := by decide +kernel
theorem dX6_letter_16 : decode cX6_letter 16 = .ok (.getfield 26, 3) := by decide +kernel
theorem dX6_letter_19 : decode cX6_letter 19 = .ok (.iload_n 1, 1) := by decide +kernel
theorem dX6_letter_20 : decode cX6_letter 20 = .ok (.invokevirtual 369, 3) := by decide +kernel
theorem dX6_letter_23 : decode cX6_letter 23 = .ok (.iload_n 1, 1) := by decide +kernel
theorem dX6_letter_24 : decode cX6_letter 24 = .ok (.iconst (-1), 1) := by decide +kernel
theorem dX6_letter_25 : decode cX6_letter 25 = .ok (.if_icmp .ne 11, 3) := by decide +kernel
theorem dX6_letter_28 : decode cX6_letter 28 = .ok (.aload_n 0, 1) := by decide +kernel
theorem dX6_letter_29 : decode cX6_letter 29 = .ok (.getfield 73, 3) := by decide +kernel
theorem dX6_letter_32 : decode cX6_letter 32 = .ok (.getfield 373, 3) := by decide +kernel
theorem dX6_letter_35 : decode cX6_letter 35 = .ok (.ireturn, 1) := by decide +kernel
theorem dX6_letter_36 : decode cX6_letter 36 = .ok (.iload_n 1, 1) := by decide +kernel
theorem dX6_letter_37 : decode cX6_letter 37 = .ok (.aload_n 0, 1) := by decide +kernel
theorem dX6_letter_38 : decode cX6_letter 38 = .ok (.getfield 73, 3) := by decide +kernel
theorem dX6_letter_41 : decode cX6_letter 41 = .ok (.getfield 373, 3) := by decide +kernel
theorem dX6_letter_44 : decode cX6_letter 44 = .ok (.if_icmp .ge 13, 3) := by decide +kernel
theorem dX6_letter_47 : decode cX6_letter 47 = .ok (.aload_n 0, 1) := by decide +kernel
theorem dX6_letter_48 : decode cX6_letter 48 = .ok (.getfield 73, 3) := by decide +kernel
theorem dX6_letter_51 : decode cX6_letter 51 = .ok (.getfield 376, 3) := by decide +kernel
theorem dX6_letter_54 : decode cX6_letter 54 = .ok (.goto 5, 3) := by decide +kernel
theorem dX6_letter_57 : decode cX6_letter 57 = .ok (.bipush (-2), 2) := by decide +kernel
theorem dX6_letter_59 : decode cX6_letter 59 = .ok (.ireturn, 1) := by decide +kernel
theorem dX3_blame_0 : decode cX3_blame 0 = .ok (.aload_n 0, 1) := by decide +kernel
theorem dX3_blame_1 : decode cX3_blame 1 = .ok (.getfield 37, 3) := by decide +kernel
theorem dX3_blame_4 : decode cX3_blame 4 = .ok (.ifCond .ne 13, 3) := by decide +kernel
theorem dX3_blame_7 : decode cX3_blame 7 = .ok (.aload_n 0, 1) := by decide +kernel
theorem dX3_blame_8 : decode cX3_blame 8 = .ok (.bipush 8, 2) := by decide +kernel
theorem dX3_blame_10 : decode cX3_blame 10 = .ok (.iload_n 1, 1) := by decide +kernel
theorem dX3_blame_11 : decode cX3_blame 11 = .ok (.imul, 1) := by decide +kernel
theorem dX3_blame_12 : decode cX3_blame 12 = .ok (.iload_n 2, 1) := by decide +kernel
theorem dX3_blame_13 : decode cX3_blame 13 = .ok (.iadd, 1) := by decide +kernel
theorem dX3_blame_14 : decode cX3_blame 14 = .ok (.putfield 37, 3) := by decide +kernel
theorem dX3_blame_17 : decode cX3_blame 17 = .ok (.return_, 1) := by decide +kernel
theorem dX3_skipBlanks_0 : decode cX3_skipBlanks 0 = .ok (.aload_n 0, 1) := by decide +kernel
theorem dX3_skipBlanks_1 : decode cX3_skipBlanks 1 = .ok (.getfield 34, 3) := by decide +kernel
theorem dX3_skipBlanks_4 : decode cX3_skipBlanks 4 = .ok (.aload_n 0, 1) := by decide +kernel
theorem dX3_skipBlanks_5 : decode cX3_skipBlanks 5 = .ok (.getfield 30, 3) := by decide +kernel
theorem dX3_skipBlanks_8 : decode cX3_skipBlanks 8 = .ok (.if_icmp .ge 30, 3) := by decide +kernel
theorem dX3_skipBlanks_11 : decode cX3_skipBlanks 11 = .ok (.aload_n 0, 1) := by decide +kernel
theorem dX3_skipBlanks_12 : decode cX3_skipBlanks 12 = .ok (.getfield 9, 3) := by decide +kernel
theorem dX3_skipBlanks_15 : decode cX3_skipBlanks 15 = .ok (.aload_n 0, 1) := by decide +kernel
theorem dX3_skipBlanks_16 : decode cX3_skipBlanks 16 = .ok (.getfield 34, 3) := by decide +kernel
theorem dX3_skipBlanks_19 : decode cX3_skipBlanks 19 = .ok (.baload, 1) := by decide +kernel
theorem dX3_skipBlanks_20 : decode cX3_skipBlanks 20 = .ok (.bipush 32, 2) := by decide +kernel
theorem dX3_skipBlanks_22 : decode cX3_skipBlanks 22 = .ok (.if_icmp .ne 16, 3) := by decide +kernel
theorem dX3_skipBlanks_25 : decode cX3_skipBlanks 25 = .ok (.aload_n 0, 1) := by decide +kernel
theorem dX3_skipBlanks_26 : decode cX3_skipBlanks 26 = .ok (.dup, 1) := by decide +kernel
theorem dX3_skipBlanks_27 : decode cX3_skipBlanks 27 = .ok (.getfield 34, 3) := by decide +kernel
theorem dX3_skipBlanks_30 : decode cX3_skipBlanks 30 = .ok (.iconst 1, 1) := by decide +kernel
theorem dX3_skipBlanks_31 : decode cX3_skipBlanks 31 = .ok (.iadd, 1) := by decide +kernel
theorem dX3_skipBlanks_32 : decode cX3_skipBlanks 32 = .ok (.putfield 34, 3) := by decide +kernel
theorem dX3_skipBlanks_35 : decode cX3_skipBlanks 35 = .ok (.goto (-35), 3) := by decide +kernel
theorem dX3_skipBlanks_38 : decode cX3_skipBlanks 38 = .ok (.return_, 1) := by decide +kernel
theorem dX3_isNext_0 : decode cX3_isNext 0 = .ok (.aload_n 0, 1) := by decide +kernel
theorem dX3_isNext_1 : decode cX3_isNext 1 = .ok (.invokevirtual 44, 3) := by decide +kernel
theorem dX3_isNext_4 : decode cX3_isNext 4 = .ok (.aload_n 0, 1) := by decide +kernel
theorem dX3_isNext_5 : decode cX3_isNext 5 = .ok (.getfield 34, 3) := by decide +kernel
theorem dX3_isNext_8 : decode cX3_isNext 8 = .ok (.aload_n 1, 1) := by decide +kernel
theorem dX3_isNext_9 : decode cX3_isNext 9 = .ok (.invokevirtual 168, 3) := by decide +kernel
theorem dX3_isNext_12 : decode cX3_isNext 12 = .ok (.iadd, 1) := by decide +kernel
theorem dX3_isNext_13 : decode cX3_isNext 13 = .ok (.istore_n 2, 1) := by decide +kernel
theorem dX3_isNext_14 : decode cX3_isNext 14 = .ok (.aload_n 0, 1) := by decide +kernel
theorem dX3_isNext_15 : decode cX3_isNext 15 = .ok (.getfield 37, 3) := by decide +kernel
theorem dX3_isNext_18 : decode cX3_isNext 18 = .ok (.ifCond .ne 11, 3) := by decide +kernel
theorem dX3_isNext_21 : decode cX3_isNext 21 = .ok (.iload_n 2, 1) := by decide +kernel
theorem dX3_isNext_22 : decode cX3_isNext 22 = .ok (.aload_n 0, 1) := by decide +kernel
theorem dX3_isNext_23 : decode cX3_isNext 23 = .ok (.getfield 30, 3) := by decide +kernel
theorem dX3_isNext_26 : decode cX3_isNext 26 = .ok (.if_icmp .le 5, 3) := by decide +kernel
theorem dX3_isNext_29 : decode cX3_isNext 29 = .ok (.iconst 0, 1) := by decide +kernel
theorem dX3_isNext_30 : decode cX3_isNext 30 = .ok (.ireturn, 1) := by decide +kernel
theorem dX3_isNext_31 : decode cX3_isNext 31 = .ok (.iconst 0, 1) := by decide +kernel
theorem dX3_isNext_32 : decode cX3_isNext 32 = .ok (.istore_n 3, 1) := by decide +kernel
theorem dX3_isNext_33 : decode cX3_isNext 33 = .ok (.iload_n 3, 1) := by decide +kernel
theorem dX3_isNext_34 : decode cX3_isNext 34 = .ok (.aload_n 1, 1) := by decide +kernel
theorem dX3_isNext_35 : decode cX3_isNext 35 = .ok (.invokevirtual 168, 3) := by decide +kernel
theorem dX3_isNext_38 : decode cX3_isNext 38 = .ok (.if_icmp .ge 30, 3) := by decide +kernel
theorem dX3_isNext_41 : decode cX3_isNext 41 = .ok (.aload_n 0, 1) := by decide +kernel
theorem dX3_isNext_42 : decode cX3_isNext 42 = .ok (.getfield 9, 3) := by decide +kernel
theorem dX3_isNext_45 : decode cX3_isNext 45 = .ok (.aload_n 0, 1) := by decide +kernel
theorem dX3_isNext_46 : decode cX3_isNext 46 = .ok (.getfield 34, 3) := by decide +kernel
theorem dX3_isNext_49 : decode cX3_isNext 49 = .ok (.iload_n 3, 1) := by decide +kernel
theorem dX3_isNext_50 : decode cX3_isNext 50 = .ok (.iadd, 1) := by decide +kernel
theorem dX3_isNext_51 : decode cX3_isNext 51 = .ok (.baload, 1) := by decide +kernel
theorem dX3_isNext_52 : decode cX3_isNext 52 = .ok (.aload_n 1, 1) := by decide +kernel
theorem dX3_isNext_53 : decode cX3_isNext 53 = .ok (.iload_n 3, 1) := by decide +kernel
theorem dX3_isNext_54 : decode cX3_isNext 54 = .ok (.invokevirtual 172, 3) := by decide +kernel
theorem dX3_isNext_57 : decode cX3_isNext 57 = .ok (.if_icmp .eq 5, 3) := by decide +kernel
theorem dX3_isNext_60 : decode cX3_isNext 60 = .ok (.iconst 0, 1) := by decide +kernel
theorem dX3_isNext_61 : decode cX3_isNext 61 = .ok (.ireturn, 1) := by decide +kernel
theorem dX3_isNext_62 : decode cX3_isNext 62 = .ok (.iinc 3 1, 3) := by decide +kernel
theorem dX3_isNext_65 : decode cX3_isNext 65 = .ok (.goto (-32), 3) := by decide +kernel
theorem dX3_isNext_68 : decode cX3_isNext 68 = .ok (.iload_n 2, 1) := by decide +kernel
theorem dX3_isNext_69 : decode cX3_isNext 69 = .ok (.aload_n 0, 1) := by decide +kernel
theorem dX3_isNext_70 : decode cX3_isNext 70 = .ok (.getfield 30, 3) := by decide +kernel
theorem dX3_isNext_73 : decode cX3_isNext 73 = .ok (.if_icmp .ge 27, 3) := by decide +kernel
theorem dX3_isNext_76 : decode cX3_isNext 76 = .ok (.aload_n 0, 1) := by decide +kernel
theorem dX3_isNext_77 : decode cX3_isNext 77 = .ok (.getfield 9, 3) := by decide +kernel
theorem dX3_isNext_80 : decode cX3_isNext 80 = .ok (.iload_n 2, 1) := by decide +kernel
theorem dX3_isNext_81 : decode cX3_isNext 81 = .ok (.baload, 1) := by decide +kernel
theorem dX3_isNext_82 : decode cX3_isNext 82 = .ok (.bipush 97, 2) := by decide +kernel
theorem dX3_isNext_84 : decode cX3_isNext 84 = .ok (.if_icmp .lt 16, 3) := by decide +kernel
theorem dX3_isNext_87 : decode cX3_isNext 87 = .ok (.aload_n 0, 1) := by decide +kernel
theorem dX3_isNext_88 : decode cX3_isNext 88 = .ok (.getfield 9, 3) := by decide +kernel
theorem dX3_isNext_91 : decode cX3_isNext 91 = .ok (.iload_n 2, 1) := by decide +kernel
theorem dX3_isNext_92 : decode cX3_isNext 92 = .ok (.baload, 1) := by decide +kernel
theorem dX3_isNext_93 : decode cX3_isNext 93 = .ok (.bipush 122, 2) := by decide +kernel
theorem dX3_isNext_95 : decode cX3_isNext 95 = .ok (.if_icmp .gt 5, 3) := by decide +kernel
theorem dX3_isNext_98 : decode cX3_isNext 98 = .ok (.iconst 0, 1) := by decide +kernel
theorem dX3_isNext_99 : decode cX3_isNext 99 = .ok (.ireturn, 1) := by decide +kernel
theorem dX3_isNext_100 : decode cX3_isNext 100 = .ok (.aload_n 0, 1) := by decide +kernel
theorem dX3_isNext_101 : decode cX3_isNext 101 = .ok (.iload_n 2, 1) := by decide +kernel
theorem dX3_isNext_102 : decode cX3_isNext 102 = .ok (.putfield 34, 3) := by decide +kernel
theorem dX3_isNext_105 : decode cX3_isNext 105 = .ok (.iconst 1, 1) := by decide +kernel
theorem dX3_isNext_106 : decode cX3_isNext 106 = .ok (.ireturn, 1) := by decide +kernel
theorem dX3_readNumber_0 : decode cX3_readNumber 0 = .ok (.aload_n 0, 1) := by decide +kernel
theorem dX3_readNumber_1 : decode cX3_readNumber 1 = .ok (.invokevirtual 44, 3) := by decide +kernel
theorem dX3_readNumber_4 : decode cX3_readNumber 4 = .ok (.aload_n 0, 1) := by decide +kernel
theorem dX3_readNumber_5 : decode cX3_readNumber 5 = .ok (.getfield 34, 3) := by decide +kernel
theorem dX3_readNumber_8 : decode cX3_readNumber 8 = .ok (.istore_n 3, 1) := by decide +kernel
theorem dX3_readNumber_9 : decode cX3_readNumber 9 = .ok (.iconst 0, 1) := by decide +kernel
theorem dX3_readNumber_10 : decode cX3_readNumber 10 = .ok (.istore 4, 2) := by decide +kernel
theorem dX3_readNumber_12 : decode cX3_readNumber 12 = .ok (.aload_n 0, 1) := by decide +kernel
theorem dX3_readNumber_13 : decode cX3_readNumber 13 = .ok (.getfield 34, 3) := by decide +kernel
theorem dX3_readNumber_16 : decode cX3_readNumber 16 = .ok (.aload_n 0, 1) := by decide +kernel
theorem dX3_readNumber_17 : decode cX3_readNumber 17 = .ok (.getfield 30, 3) := by decide +kernel
theorem dX3_readNumber_20 : decode cX3_readNumber 20 = .ok (.if_icmp .ge 69, 3) := by decide +kernel
theorem dX3_readNumber_23 : decode cX3_readNumber 23 = .ok (.aload_n 0, 1) := by decide +kernel
theorem dX3_readNumber_24 : decode cX3_readNumber 24 = .ok (.getfield 9, 3) := by decide +kernel
theorem dX3_readNumber_27 : decode cX3_readNumber 27 = .ok (.aload_n 0, 1) := by decide +kernel
theorem dX3_readNumber_28 : decode cX3_readNumber 28 = .ok (.getfield 34, 3) := by decide +kernel
theorem dX3_readNumber_31 : decode cX3_readNumber 31 = .ok (.baload, 1) := by decide +kernel
theorem dX3_readNumber_32 : decode cX3_readNumber 32 = .ok (.bipush 48, 2) := by decide +kernel
theorem dX3_readNumber_34 : decode cX3_readNumber 34 = .ok (.if_icmp .lt 55, 3) := by decide +kernel
theorem dX3_readNumber_37 : decode cX3_readNumber 37 = .ok (.aload_n 0, 1) := by decide +kernel
theorem dX3_readNumber_38 : decode cX3_readNumber 38 = .ok (.getfield 9, 3) := by decide +kernel
theorem dX3_readNumber_41 : decode cX3_readNumber 41 = .ok (.aload_n 0, 1) := by decide +kernel
theorem dX3_readNumber_42 : decode cX3_readNumber 42 = .ok (.getfield 34, 3) := by decide +kernel
theorem dX3_readNumber_45 : decode cX3_readNumber 45 = .ok (.baload, 1) := by decide +kernel
theorem dX3_readNumber_46 : decode cX3_readNumber 46 = .ok (.bipush 57, 2) := by decide +kernel
theorem dX3_readNumber_48 : decode cX3_readNumber 48 = .ok (.if_icmp .gt 41, 3) := by decide +kernel
theorem dX3_readNumber_51 : decode cX3_readNumber 51 = .ok (.iload 4, 2) := by decide +kernel
theorem dX3_readNumber_53 : decode cX3_readNumber 53 = .ok (.bipush 10, 2) := by decide +kernel
theorem dX3_readNumber_55 : decode cX3_readNumber 55 = .ok (.imul, 1) := by decide +kernel
theorem dX3_readNumber_56 : decode cX3_readNumber 56 = .ok (.aload_n 0, 1) := by decide +kernel
theorem dX3_readNumber_57 : decode cX3_readNumber 57 = .ok (.getfield 9, 3) := by decide +kernel
theorem dX3_readNumber_60 : decode cX3_readNumber 60 = .ok (.aload_n 0, 1) := by decide +kernel
theorem dX3_readNumber_61 : decode cX3_readNumber 61 = .ok (.getfield 34, 3) := by decide +kernel
theorem dX3_readNumber_64 : decode cX3_readNumber 64 = .ok (.baload, 1) := by decide +kernel
theorem dX3_readNumber_65 : decode cX3_readNumber 65 = .ok (.iadd, 1) := by decide +kernel
theorem dX3_readNumber_66 : decode cX3_readNumber 66 = .ok (.bipush 48, 2) := by decide +kernel
theorem dX3_readNumber_68 : decode cX3_readNumber 68 = .ok (.isub, 1) := by decide +kernel
theorem dX3_readNumber_69 : decode cX3_readNumber 69 = .ok (.ldc 167, 2) := by decide +kernel
theorem dX3_readNumber_71 : decode cX3_readNumber 71 = .ok (.invokestatic 24, 3) := by decide +kernel
theorem dX3_readNumber_74 : decode cX3_readNumber 74 = .ok (.istore 4, 2) := by decide +kernel
theorem dX3_readNumber_76 : decode cX3_readNumber 76 = .ok (.aload_n 0, 1) := by decide +kernel
theorem dX3_readNumber_77 : decode cX3_readNumber 77 = .ok (.dup, 1) := by decide +kernel
theorem dX3_readNumber_78 : decode cX3_readNumber 78 = .ok (.getfield 34, 3) := by decide +kernel
theorem dX3_readNumber_81 : decode cX3_readNumber 81 = .ok (.iconst 1, 1) := by decide +kernel
theorem dX3_readNumber_82 : decode cX3_readNumber 82 = .ok (.iadd, 1) := by decide +kernel
theorem dX3_readNumber_83 : decode cX3_readNumber 83 = .ok (.putfield 34, 3) := by decide +kernel
theorem dX3_readNumber_86 : decode cX3_readNumber 86 = .ok (.goto (-74), 3) := by decide +kernel
theorem dX3_readNumber_89 : decode cX3_readNumber 89 = .ok (.aload_n 0, 1) := by decide +kernel
theorem dX3_readNumber_90 : decode cX3_readNumber 90 = .ok (.getfield 34, 3) := by decide +kernel
theorem dX3_readNumber_93 : decode cX3_readNumber 93 = .ok (.iload_n 3, 1) := by decide +kernel
theorem dX3_readNumber_94 : decode cX3_readNumber 94 = .ok (.if_icmp .ne 11, 3) := by decide +kernel
theorem dX3_readNumber_97 : decode cX3_readNumber 97 = .ok (.aload_n 0, 1) := by decide +kernel
theorem dX3_readNumber_98 : decode cX3_readNumber 98 = .ok (.iload_n 3, 1) := by decide +kernel
theorem dX3_readNumber_99 : decode cX3_readNumber 99 = .ok (.iconst 1, 1) := by decide +kernel
theorem dX3_readNumber_100 : decode cX3_readNumber 100 = .ok (.invokevirtual 54, 3) := by decide +kernel
theorem dX3_readNumber_103 : decode cX3_readNumber 103 = .ok (.iload_n 1, 1) := by decide +kernel
theorem dX3_readNumber_104 : decode cX3_readNumber 104 = .ok (.ireturn, 1) := by decide +kernel
theorem dX3_readNumber_105 : decode cX3_readNumber 105 = .ok (.iload 4, 2) := by decide +kernel
theorem dX3_readNumber_107 : decode cX3_readNumber 107 = .ok (.iload_n 1, 1) := by decide +kernel
theorem dX3_readNumber_108 : decode cX3_readNumber 108 = .ok (.if_icmp .lt 9, 3) := by decide +kernel
theorem dX3_readNumber_111 : decode cX3_readNumber 111 = .ok (.iload 4, 2) := by decide +kernel
theorem dX3_readNumber_113 : decode cX3_readNumber 113 = .ok (.iload_n 2, 1) := by decide +kernel
theorem dX3_readNumber_114 : decode cX3_readNumber 114 = .ok (.if_icmp .le 11, 3) := by decide +kernel
theorem dX3_readNumber_117 : decode cX3_readNumber 117 = .ok (.aload_n 0, 1) := by decide +kernel
theorem dX3_readNumber_118 : decode cX3_readNumber 118 = .ok (.iload_n 3, 1) := by decide +kernel
theorem dX3_readNumber_119 : decode cX3_readNumber 119 = .ok (.iconst 2, 1) := by decide +kernel
theorem dX3_readNumber_120 : decode cX3_readNumber 120 = .ok (.invokevirtual 54, 3) := by decide +kernel
theorem dX3_readNumber_123 : decode cX3_readNumber 123 = .ok (.iload_n 1, 1) := by decide +kernel
theorem dX3_readNumber_124 : decode cX3_readNumber 124 = .ok (.ireturn, 1) := by decide +kernel
theorem dX3_readNumber_125 : decode cX3_readNumber 125 = .ok (.iload 4, 2) := by decide +kernel
theorem dX3_readNumber_127 : decode cX3_readNumber 127 = .ok (.ireturn, 1) := by decide +kernel
theorem dX3_readBetween_0 : decode cX3_readBetween 0 = .ok (.aload_n 0, 1) := by decide +kernel
theorem dX3_readBetween_1 : decode cX3_readBetween 1 = .ok (.invokevirtual 44, 3) := by decide +kernel
theorem dX3_readBetween_4 : decode cX3_readBetween 4 = .ok (.aload_n 0, 1) := by decide +kernel
theorem dX3_readBetween_5 : decode cX3_readBetween 5 = .ok (.getfield 37, 3) := by decide +kernel
theorem dX3_readBetween_8 : decode cX3_readBetween 8 = .ok (.ifCond .ne 14, 3) := by decide +kernel
theorem dX3_readBetween_11 : decode cX3_readBetween 11 = .ok (.aload_n 0, 1) := by decide +kernel
theorem dX3_readBetween_12 : decode cX3_readBetween 12 = .ok (.getfield 34, 3) := by decide +kernel
theorem dX3_readBetween_15 : decode cX3_readBetween 15 = .ok (.aload_n 0, 1) := by decide +kernel
theorem dX3_readBetween_16 : decode cX3_readBetween 16 = .ok (.getfield 30, 3) := by decide +kernel
theorem dX3_readBetween_19 : decode cX3_readBetween 19 = .ok (.if_icmp .lt 5, 3) := by decide +kernel
theorem dX3_readBetween_22 : decode cX3_readBetween 22 = .ok (.iconst 0, 1) := by decide +kernel
theorem dX3_readBetween_23 : decode cX3_readBetween 23 = .ok (.ireturn, 1) := by decide +kernel
theorem dX3_readBetween_24 : decode cX3_readBetween 24 = .ok (.aload_n 0, 1) := by decide +kernel
theorem dX3_readBetween_25 : decode cX3_readBetween 25 = .ok (.getfield 9, 3) := by decide +kernel
theorem dX3_readBetween_28 : decode cX3_readBetween 28 = .ok (.aload_n 0, 1) := by decide +kernel
theorem dX3_readBetween_29 : decode cX3_readBetween 29 = .ok (.getfield 34, 3) := by decide +kernel
theorem dX3_readBetween_32 : decode cX3_readBetween 32 = .ok (.baload, 1) := by decide +kernel
theorem dX3_readBetween_33 : decode cX3_readBetween 33 = .ok (.bipush 59, 2) := by decide +kernel
theorem dX3_readBetween_35 : decode cX3_readBetween 35 = .ok (.if_icmp .eq 14, 3) := by decide +kernel
theorem dX3_readBetween_38 : decode cX3_readBetween 38 = .ok (.aload_n 0, 1) := by decide +kernel
theorem dX3_readBetween_39 : decode cX3_readBetween 39 = .ok (.aload_n 0, 1) := by decide +kernel
theorem dX3_readBetween_40 : decode cX3_readBetween 40 = .ok (.getfield 34, 3) := by decide +kernel
theorem dX3_readBetween_43 : decode cX3_readBetween 43 = .ok (.iconst 1, 1) := by decide +kernel
theorem dX3_readBetween_44 : decode cX3_readBetween 44 = .ok (.invokevirtual 54, 3) := by decide +kernel
theorem dX3_readBetween_47 : decode cX3_readBetween 47 = .ok (.iconst 0, 1) := by decide +kernel
theorem dX3_readBetween_48 : decode cX3_readBetween 48 = .ok (.ireturn, 1) := by decide +kernel
theorem dX3_readBetween_49 : decode cX3_readBetween 49 = .ok (.aload_n 0, 1) := by decide +kernel
theorem dX3_readBetween_50 : decode cX3_readBetween 50 = .ok (.dup, 1) := by decide +kernel
theorem dX3_readBetween_51 : decode cX3_readBetween 51 = .ok (.getfield 34, 3) := by decide +kernel
theorem dX3_readBetween_54 : decode cX3_readBetween 54 = .ok (.iconst 1, 1) := by decide +kernel
theorem dX3_readBetween_55 : decode cX3_readBetween 55 = .ok (.iadd, 1) := by decide +kernel
theorem dX3_readBetween_56 : decode cX3_readBetween 56 = .ok (.putfield 34, 3) := by decide +kernel
theorem dX3_readBetween_59 : decode cX3_readBetween 59 = .ok (.iconst 1, 1) := by decide +kernel
theorem dX3_readBetween_60 : decode cX3_readBetween 60 = .ok (.ireturn, 1) := by decide +kernel
theorem dX2_clear_0 : decode cX2_clear 0 = .ok (.aload_n 0, 1) := by decide +kernel
theorem dX2_clear_1 : decode cX2_clear 1 = .ok (.iconst 0, 1) := by decide +kernel
theorem dX2_clear_2 : decode cX2_clear 2 = .ok (.putfield 64, 3) := by decide +kernel
theorem dX2_clear_5 : decode cX2_clear 5 = .ok (.aload_n 0, 1) := by decide +kernel
theorem dX2_clear_6 : decode cX2_clear 6 = .ok (.iconst 0, 1) := by decide +kernel
theorem dX2_clear_7 : decode cX2_clear 7 = .ok (.putfield 67, 3) := by decide +kernel
theorem dX2_clear_10 : decode cX2_clear 10 = .ok (.aload_n 0, 1) := by decide +kernel
theorem dX2_clear_11 : decode cX2_clear 11 = .ok (.iconst 0, 1) := by decide +kernel
theorem dX2_clear_12 : decode cX2_clear 12 = .ok (.putfield 70, 3) := by decide +kernel
theorem dX2_clear_15 : decode cX2_clear 15 = .ok (.aload_n 0, 1) := by decide +kernel
theorem dX2_clear_16 : decode cX2_clear 16 = .ok (.bipush 100, 2) := by decide +kernel
theorem dX2_clear_18 : decode cX2_clear 18 = .ok (.putfield 60, 3) := by decide +kernel
theorem dX2_clear_21 : decode cX2_clear 21 = .ok (.return_, 1) := by decide +kernel
theorem dX2_hasAge_0 : decode cX2_hasAge 0 = .ok (.iconst 0, 1) := by decide +kernel
theorem dX2_hasAge_1 : decode cX2_hasAge 1 = .ok (.istore_n 2, 1) := by decide +kernel
theorem dX2_hasAge_2 : decode cX2_hasAge 2 = .ok (.iload_n 2, 1) := by decide +kernel
theorem dX2_hasAge_3 : decode cX2_hasAge 3 = .ok (.aload_n 0, 1) := by decide +kernel
theorem dX2_hasAge_4 : decode cX2_hasAge 4 = .ok (.getfield 67, 3) := by decide +kernel
theorem dX2_hasAge_7 : decode cX2_hasAge 7 = .ok (.if_icmp .ge 21, 3) := by decide +kernel
theorem dX2_hasAge_10 : decode cX2_hasAge 10 = .ok (.aload_n 0, 1) := by decide +kernel
theorem dX2_hasAge_11 : decode cX2_hasAge 11 = .ok (.getfield 33, 3) := by decide +kernel
theorem dX2_hasAge_14 : decode cX2_hasAge 14 = .ok (.iload_n 2, 1) := by decide +kernel
theorem dX2_hasAge_15 : decode cX2_hasAge 15 = .ok (.iaload, 1) := by decide +kernel
theorem dX2_hasAge_16 : decode cX2_hasAge 16 = .ok (.iload_n 1, 1) := by decide +kernel
theorem dX2_hasAge_17 : decode cX2_hasAge 17 = .ok (.if_icmp .ne 5, 3) := by decide +kernel
theorem dX2_hasAge_20 : decode cX2_hasAge 20 = .ok (.iconst 1, 1) := by decide +kernel
theorem dX2_hasAge_21 : decode cX2_hasAge 21 = .ok (.ireturn, 1) := by decide +kernel
theorem dX2_hasAge_22 : decode cX2_hasAge 22 = .ok (.iinc 2 1, 3) := by decide +kernel
theorem dX2_hasAge_25 : decode cX2_hasAge 25 = .ok (.goto (-23), 3) := by decide +kernel
theorem dX2_hasAge_28 : decode cX2_hasAge 28 = .ok (.iconst 0, 1) := by decide +kernel
theorem dX2_hasAge_29 : decode cX2_hasAge 29 = .ok (.istore_n 2, 1) := by decide +kernel
theorem dX2_hasAge_30 : decode cX2_hasAge 30 = .ok (.iload_n 2, 1) := by decide +kernel
theorem dX2_hasAge_31 : decode cX2_hasAge 31 = .ok (.aload_n 0, 1) := by decide +kernel
theorem dX2_hasAge_32 : decode cX2_hasAge 32 = .ok (.getfield 70, 3) := by decide +kernel
theorem dX2_hasAge_35 : decode cX2_hasAge 35 = .ok (.if_icmp .ge 21, 3) := by decide +kernel
theorem dX2_hasAge_38 : decode cX2_hasAge 38 = .ok (.aload_n 0, 1) := by decide +kernel
theorem dX2_hasAge_39 : decode cX2_hasAge 39 = .ok (.getfield 57, 3) := by decide +kernel
theorem dX2_hasAge_42 : decode cX2_hasAge 42 = .ok (.iload_n 2, 1) := by decide +kernel
theorem dX2_hasAge_43 : decode cX2_hasAge 43 = .ok (.iaload, 1) := by decide +kernel
theorem dX2_hasAge_44 : decode cX2_hasAge 44 = .ok (.iload_n 1, 1) := by decide +kernel
theorem dX2_hasAge_45 : decode cX2_hasAge 45 = .ok (.if_icmp .ne 5, 3) := by decide +kernel
theorem dX2_hasAge_48 : decode cX2_hasAge 48 = .ok (.iconst 1, 1) := by decide +kernel
theorem dX2_hasAge_49 : decode cX2_hasAge 49 = .ok (.ireturn, 1) := by decide +kernel
theorem dX2_hasAge_50 : decode cX2_hasAge 50 = .ok (.iinc 2 1, 3) := by decide +kernel
theorem dX2_hasAge_53 : decode cX2_hasAge 53 = .ok (.goto (-23), 3) := by decide +kernel
theorem dX2_hasAge_56 : decode cX2_hasAge 56 = .ok (.iconst 0, 1) := by decide +kernel
theorem dX2_hasAge_57 : decode cX2_hasAge 57 = .ok (.ireturn, 1) := by decide +kernel
theorem dX3_readReachNumber_0 : decode cX3_readReachNumber 0 = .ok (.aload_n 0, 1) := by decide +kernel
theorem dX3_readReachNumber_1 : decode cX3_readReachNumber 1 = .ok (.iconst 0, 1) := by decide +kernel
theorem dX3_readReachNumber_2 : decode cX3_readReachNumber 2 = .ok (.aload_n 0, 1) := by decide +kernel
theorem dX3_readReachNumber_3 : decode cX3_readReachNumber 3 = .ok (.getfield 15, 3) := by decide +kernel
theorem dX3_readReachNumber_6 : decode cX3_readReachNumber 6 = .ok (.getfield 83, 3) := by decide +kernel
theorem dX3_readReachNumber_9 : decode cX3_readReachNumber 9 = .ok (.iconst 1, 1) := by decide +kernel
theorem dX3_readReachNumber_10 : decode cX3_readReachNumber 10 = .ok (.isub, 1) := by decide +kernel
theorem dX3_readReachNumber_11 : decode cX3_readReachNumber 11 = .ok (.invokevirtual 99, 3) := by decide +kernel
theorem dX3_readReachNumber_14 : decode cX3_readReachNumber 14 = .ok (.ireturn, 1) := by decide +kernel
theorem dX3_readAge_0 : decode cX3_readAge 0 = .ok (.aload_n 0, 1) := by decide +kernel
theorem dX3_readAge_1 : decode cX3_readAge 1 = .ok (.ldc 161, 2) := by decide +kernel
theorem dX3_readAge_3 : decode cX3_readAge 3 = .ok (.invokevirtual 60, 3) := by decide +kernel
theorem dX3_readAge_6 : decode cX3_readAge 6 = .ok (.ifCond .ne 12, 3) := by decide +kernel
theorem dX3_readAge_9 : decode cX3_readAge 9 = .ok (.aload_n 0, 1) := by decide +kernel
theorem dX3_readAge_10 : decode cX3_readAge 10 = .ok (.aload_n 0, 1) := by decide +kernel
theorem dX3_readAge_11 : decode cX3_readAge 11 = .ok (.getfield 34, 3) := by decide +kernel
theorem dX3_readAge_14 : decode cX3_readAge 14 = .ok (.iconst 1, 1) := by decide +kernel
theorem dX3_readAge_15 : decode cX3_readAge 15 = .ok (.invokevirtual 54, 3) := by decide +kernel
theorem dX3_readAge_18 : decode cX3_readAge 18 = .ok (.aload_n 0, 1) := by decide +kernel
theorem dX3_readAge_19 : decode cX3_readAge 19 = .ok (.invokevirtual 44, 3) := by decide +kernel
theorem dX3_readAge_22 : decode cX3_readAge 22 = .ok (.aload_n 0, 1) := by decide +kernel
theorem dX3_readAge_23 : decode cX3_readAge 23 = .ok (.getfield 34, 3) := by decide +kernel
theorem dX3_readAge_26 : decode cX3_readAge 26 = .ok (.istore_n 1, 1) := by decide +kernel
theorem dX3_readAge_27 : decode cX3_readAge 27 = .ok (.aload_n 0, 1) := by decide +kernel
theorem dX3_readAge_28 : decode cX3_readAge 28 = .ok (.iconst 0, 1) := by decide +kernel
theorem dX3_readAge_29 : decode cX3_readAge 29 = .ok (.sipush 9999, 3) := by decide +kernel
theorem dX3_readAge_32 : decode cX3_readAge 32 = .ok (.invokevirtual 99, 3) := by decide +kernel
theorem dX3_readAge_35 : decode cX3_readAge 35 = .ok (.istore_n 2, 1) := by decide +kernel
theorem dX3_readAge_36 : decode cX3_readAge 36 = .ok (.aload_n 0, 1) := by decide +kernel
theorem dX3_readAge_37 : decode cX3_readAge 37 = .ok (.getfield 15, 3) := by decide +kernel
theorem dX3_readAge_40 : decode cX3_readAge 40 = .ok (.iload_n 2, 1) := by decide +kernel
theorem dX3_readAge_41 : decode cX3_readAge 41 = .ok (.invokevirtual 163, 3) := by decide +kernel
theorem dX3_readAge_44 : decode cX3_readAge 44 = .ok (.ifCond .eq 9, 3) := by decide +kernel
theorem dX3_readAge_47 : decode cX3_readAge 47 = .ok (.aload_n 0, 1) := by decide +kernel
theorem dX3_readAge_48 : decode cX3_readAge 48 = .ok (.iload_n 1, 1) := by decide +kernel
theorem dX3_readAge_49 : decode cX3_readAge 49 = .ok (.iconst 2, 1) := by decide +kernel
theorem dX3_readAge_50 : decode cX3_readAge 50 = .ok (.invokevirtual 54, 3) := by decide +kernel
theorem dX3_readAge_53 : decode cX3_readAge 53 = .ok (.iload_n 2, 1) := by decide +kernel
theorem dX3_readAge_54 : decode cX3_readAge 54 = .ok (.ireturn, 1) := by decide +kernel
theorem dX3_readWet_0 : decode cX3_readWet 0 = .ok (.aload_n 0, 1) := by decide +kernel
theorem dX3_readWet_1 : decode cX3_readWet 1 = .ok (.getfield 40, 3) := by decide +kernel
theorem dX3_readWet_4 : decode cX3_readWet 4 = .ok (.ifCond .eq 10, 3) := by decide +kernel
theorem dX3_readWet_7 : decode cX3_readWet 7 = .ok (.aload_n 0, 1) := by decide +kernel
theorem dX3_readWet_8 : decode cX3_readWet 8 = .ok (.iload_n 1, 1) := by decide +kernel
theorem dX3_readWet_9 : decode cX3_readWet 9 = .ok (.iconst 3, 1) := by decide +kernel
theorem dX3_readWet_10 : decode cX3_readWet 10 = .ok (.invokevirtual 54, 3) := by decide +kernel
theorem dX3_readWet_13 : decode cX3_readWet 13 = .ok (.return_, 1) := by decide +kernel
theorem dX3_readWet_14 : decode cX3_readWet 14 = .ok (.aload_n 0, 1) := by decide +kernel
theorem dX3_readWet_15 : decode cX3_readWet 15 = .ok (.iconst 1, 1) := by decide +kernel
theorem dX3_readWet_16 : decode cX3_readWet 16 = .ok (.putfield 40, 3) := by decide +kernel
theorem dX3_readWet_19 : decode cX3_readWet 19 = .ok (.aload_n 0, 1) := by decide +kernel
theorem dX3_readWet_20 : decode cX3_readWet 20 = .ok (.getfield 15, 3) := by decide +kernel
theorem dX3_readWet_23 : decode cX3_readWet 23 = .ok (.aload_n 0, 1) := by decide +kernel
theorem dX3_readWet_24 : decode cX3_readWet 24 = .ok (.iconst 0, 1) := by decide +kernel
theorem dX3_readWet_25 : decode cX3_readWet 25 = .ok (.sipush 400, 3) := by decide +kernel
theorem dX3_readWet_28 : decode cX3_readWet 28 = .ok (.invokevirtual 99, 3) := by decide +kernel
theorem dX3_readWet_31 : decode cX3_readWet 31 = .ok (.putfield 159, 3) := by decide +kernel
theorem dX3_readWet_34 : decode cX3_readWet 34 = .ok (.return_, 1) := by decide +kernel
theorem dX3_readReach_0 : decode cX3_readReach 0 = .ok (.aload_n 0, 1) := by decide +kernel
theorem dX3_readReach_1 : decode cX3_readReach 1 = .ok (.getfield 15, 3) := by decide +kernel
theorem dX3_readReach_4 : decode cX3_readReach 4 = .ok (.getfield 83, 3) := by decide +kernel
theorem dX3_readReach_7 : decode cX3_readReach 7 = .ok (.istore_n 2, 1) := by decide +kernel
theorem dX3_readReach_8 : decode cX3_readReach 8 = .ok (.iload_n 2, 1) := by decide +kernel
theorem dX3_readReach_9 : decode cX3_readReach 9 = .ok (.bipush 12, 2) := by decide +kernel
theorem dX3_readReach_11 : decode cX3_readReach 11 = .ok (.if_icmp .lt 10, 3) := by decide +kernel
theorem dX3_readReach_14 : decode cX3_readReach 14 = .ok (.aload_n 0, 1) := by decide +kernel
theorem dX3_readReach_15 : decode cX3_readReach 15 = .ok (.iload_n 1, 1) := by decide +kernel
theorem dX3_readReach_16 : decode cX3_readReach 16 = .ok (.iconst 3, 1) := by decide +kernel
theorem dX3_readReach_17 : decode cX3_readReach 17 = .ok (.invokevirtual 54, 3) := by decide +kernel
theorem dX3_readReach_20 : decode cX3_readReach 20 = .ok (.return_, 1) := by decide +kernel
theorem dX3_readReach_21 : decode cX3_readReach 21 = .ok (.aload_n 0, 1) := by decide +kernel
theorem dX3_readReach_22 : decode cX3_readReach 22 = .ok (.getfield 15, 3) := by decide +kernel
theorem dX3_readReach_25 : decode cX3_readReach 25 = .ok (.getfield 86, 3) := by decide +kernel
theorem dX3_readReach_28 : decode cX3_readReach 28 = .ok (.iload_n 2, 1) := by decide +kernel
theorem dX3_readReach_29 : decode cX3_readReach 29 = .ok (.aload_n 0, 1) := by decide +kernel
theorem dX3_readReach_30 : decode cX3_readReach 30 = .ok (.ldc 90, 2) := by decide +kernel
theorem dX3_readReach_32 : decode cX3_readReach 32 = .ok (.invokevirtual 60, 3) := by decide +kernel
theorem dX3_readReach_35 : decode cX3_readReach 35 = .ok (.ifCond .eq 8, 3) := by decide +kernel
theorem dX3_readReach_38 : decode cX3_readReach 38 = .ok (.bipush (-2), 2) := by decide +kernel
theorem dX3_readReach_40 : decode cX3_readReach 40 = .ok (.goto 7, 3) := by decide +kernel
theorem dX3_readReach_43 : decode cX3_readReach 43 = .ok (.aload_n 0, 1) := by decide +kernel
theorem dX3_readReach_44 : decode cX3_readReach 44 = .ok (.invokevirtual 92, 3) := by decide +kernel
theorem dX3_readReach_47 : decode cX3_readReach 47 = .ok (.iastore, 1) := by decide +kernel
theorem dX3_readReach_48 : decode cX3_readReach 48 = .ok (.iconst 0, 1) := by decide +kernel
theorem dX3_readReach_49 : decode cX3_readReach 49 = .ok (.istore_n 3, 1) := by decide +kernel
theorem dX3_readReach_50 : decode cX3_readReach 50 = .ok (.iload_n 3, 1) := by decide +kernel
theorem dX3_readReach_51 : decode cX3_readReach 51 = .ok (.iconst 4, 1) := by decide +kernel
theorem dX3_readReach_52 : decode cX3_readReach 52 = .ok (.if_icmp .ge 30, 3) := by decide +kernel
theorem dX3_readReach_55 : decode cX3_readReach 55 = .ok (.aload_n 0, 1) := by decide +kernel
theorem dX3_readReach_56 : decode cX3_readReach 56 = .ok (.getfield 15, 3) := by decide +kernel
theorem dX3_readReach_59 : decode cX3_readReach 59 = .ok (.getfield 96, 3) := by decide +kernel
theorem dX3_readReach_62 : decode cX3_readReach 62 = .ok (.iload_n 2, 1) := by decide +kernel
theorem dX3_readReach_63 : decode cX3_readReach 63 = .ok (.iconst 4, 1) := by decide +kernel
theorem dX3_readReach_64 : decode cX3_readReach 64 = .ok (.imul, 1) := by decide +kernel
theorem dX3_readReach_65 : decode cX3_readReach 65 = .ok (.iload_n 3, 1) := by decide +kernel
theorem dX3_readReach_66 : decode cX3_readReach 66 = .ok (.iadd, 1) := by decide +kernel
theorem dX3_readReach_67 : decode cX3_readReach 67 = .ok (.aload_n 0, 1) := by decide +kernel
theorem dX3_readReach_68 : decode cX3_readReach 68 = .ok (.iconst 0, 1) := by decide +kernel
theorem dX3_readReach_69 : decode cX3_readReach 69 = .ok (.sipush 9999, 3) := by decide +kernel
theorem dX3_readReach_72 : decode cX3_readReach 72 = .ok (.invokevirtual 99, 3) := by decide +kernel
theorem dX3_readReach_75 : decode cX3_readReach 75 = .ok (.iastore, 1) := by decide +kernel
theorem dX3_readReach_76 : decode cX3_readReach 76 = .ok (.iinc 3 1, 3) := by decide +kernel
theorem dX3_readReach_79 : decode cX3_readReach 79 = .ok (.goto (-29), 3) := by decide +kernel
theorem dX3_readReach_82 : decode cX3_readReach 82 = .ok (.aload_n 0, 1) := by decide +kernel
theorem dX3_readReach_83 : decode cX3_readReach 83 = .ok (.getfield 15, 3) := by decide +kernel
theorem dX3_readReach_86 : decode cX3_readReach 86 = .ok (.getfield 102, 3) := by decide +kernel
theorem dX3_readReach_89 : decode cX3_readReach 89 = .ok (.iload_n 2, 1) := by decide +kernel
theorem dX3_readReach_90 : decode cX3_readReach 90 = .ok (.aload_n 0, 1) := by decide +kernel
theorem dX3_readReach_91 : decode cX3_readReach 91 = .ok (.ldc 105, 2) := by decide +kernel
theorem dX3_readReach_93 : decode cX3_readReach 93 = .ok (.invokevirtual 60, 3) := by decide +kernel
theorem dX3_readReach_96 : decode cX3_readReach 96 = .ok (.ifCond .eq 14, 3) := by decide +kernel
theorem dX3_readReach_99 : decode cX3_readReach 99 = .ok (.aload_n 0, 1) := by decide +kernel
theorem dX3_readReach_100 : decode cX3_readReach 100 = .ok (.iconst 0, 1) := by decide +kernel
theorem dX3_readReach_101 : decode cX3_readReach 101 = .ok (.sipush 9999, 3) := by decide +kernel
theorem dX3_readReach_104 : decode cX3_readReach 104 = .ok (.invokevirtual 99, 3) := by decide +kernel
theorem dX3_readReach_107 : decode cX3_readReach 107 = .ok (.goto 4, 3) := by decide +kernel
theorem dX3_readReach_110 : decode cX3_readReach 110 = .ok (.iconst 0, 1) := by decide +kernel
theorem dX3_readReach_111 : decode cX3_readReach 111 = .ok (.iastore, 1) := by decide +kernel
theorem dX3_readReach_112 : decode cX3_readReach 112 = .ok (.aload_n 0, 1) := by decide +kernel
theorem dX3_readReach_113 : decode cX3_readReach 113 = .ok (.getfield 15, 3) := by decide +kernel
theorem dX3_readReach_116 : decode cX3_readReach 116 = .ok (.dup, 1) := by decide +kernel
theorem dX3_readReach_117 : decode cX3_readReach 117 = .ok (.getfield 83, 3) := by decide +kernel
theorem dX3_readReach_120 : decode cX3_readReach 120 = .ok (.iconst 1, 1) := by decide +kernel
theorem dX3_readReach_121 : decode cX3_readReach 121 = .ok (.iadd, 1) := by decide +kernel
theorem dX3_readReach_122 : decode cX3_readReach 122 = .ok (.putfield 83, 3) := by decide +kernel
theorem dX3_readReach_125 : decode cX3_readReach 125 = .ok (.return_, 1) := by decide +kernel
theorem dX3_readRight_0 : decode cX3_readRight 0 = .ok (.aload_n 0, 1) := by decide +kernel
theorem dX3_readRight_1 : decode cX3_readRight 1 = .ok (.getfield 15, 3) := by decide +kernel
theorem dX3_readRight_4 : decode cX3_readRight 4 = .ok (.getfield 106, 3) := by decide +kernel
theorem dX3_readRight_7 : decode cX3_readRight 7 = .ok (.istore_n 2, 1) := by decide +kernel
theorem dX3_readRight_8 : decode cX3_readRight 8 = .ok (.iload_n 2, 1) := by decide +kernel
theorem dX3_readRight_9 : decode cX3_readRight 9 = .ok (.bipush 14, 2) := by decide +kernel
theorem dX3_readRight_11 : decode cX3_readRight 11 = .ok (.if_icmp .lt 10, 3) := by decide +kernel
theorem dX3_readRight_14 : decode cX3_readRight 14 = .ok (.aload_n 0, 1) := by decide +kernel
theorem dX3_readRight_15 : decode cX3_readRight 15 = .ok (.iload_n 1, 1) := by decide +kernel
theorem dX3_readRight_16 : decode cX3_readRight 16 = .ok (.iconst 3, 1) := by decide +kernel
theorem dX3_readRight_17 : decode cX3_readRight 17 = .ok (.invokevirtual 54, 3) := by decide +kernel
theorem dX3_readRight_20 : decode cX3_readRight 20 = .ok (.return_, 1) := by decide +kernel
theorem dX3_readRight_21 : decode cX3_readRight 21 = .ok (.aload_n 0, 1) := by decide +kernel
theorem dX3_readRight_22 : decode cX3_readRight 22 = .ok (.getfield 15, 3) := by decide +kernel
theorem dX3_readRight_25 : decode cX3_readRight 25 = .ok (.getfield 109, 3) := by decide +kernel
theorem dX3_readRight_28 : decode cX3_readRight 28 = .ok (.iload_n 2, 1) := by decide +kernel
theorem dX3_readRight_29 : decode cX3_readRight 29 = .ok (.aload_n 0, 1) := by decide +kernel
theorem dX3_readRight_30 : decode cX3_readRight 30 = .ok (.invokevirtual 92, 3) := by decide +kernel
theorem dX3_readRight_33 : decode cX3_readRight 33 = .ok (.iastore, 1) := by decide +kernel
theorem dX3_readRight_34 : decode cX3_readRight 34 = .ok (.aload_n 0, 1) := by decide +kernel
theorem dX3_readRight_35 : decode cX3_readRight 35 = .ok (.getfield 15, 3) := by decide +kernel
theorem dX3_readRight_38 : decode cX3_readRight 38 = .ok (.getfield 112, 3) := by decide +kernel
theorem dX3_readRight_41 : decode cX3_readRight 41 = .ok (.iload_n 2, 1) := by decide +kernel
theorem dX3_readRight_42 : decode cX3_readRight 42 = .ok (.aload_n 0, 1) := by decide +kernel
theorem dX3_readRight_43 : decode cX3_readRight 43 = .ok (.iconst 1, 1) := by decide +kernel
theorem dX3_readRight_44 : decode cX3_readRight 44 = .ok (.sipush 9999, 3) := by decide +kernel
theorem dX3_readRight_47 : decode cX3_readRight 47 = .ok (.invokevirtual 99, 3) := by decide +kernel
theorem dX3_readRight_50 : decode cX3_readRight 50 = .ok (.iastore, 1) := by decide +kernel
theorem dX3_readRight_51 : decode cX3_readRight 51 = .ok (.aload_n 0, 1) := by decide +kernel
theorem dX3_readRight_52 : decode cX3_readRight 52 = .ok (.getfield 15, 3) := by decide +kernel
theorem dX3_readRight_55 : decode cX3_readRight 55 = .ok (.getfield 115, 3) := by decide +kernel
theorem dX3_readRight_58 : decode cX3_readRight 58 = .ok (.iload_n 2, 1) := by decide +kernel
theorem dX3_readRight_59 : decode cX3_readRight 59 = .ok (.aload_n 0, 1) := by decide +kernel
theorem dX3_readRight_60 : decode cX3_readRight 60 = .ok (.iconst 0, 1) := by decide +kernel
theorem dX3_readRight_61 : decode cX3_readRight 61 = .ok (.sipush 359, 3) := by decide +kernel
theorem dX3_readRight_64 : decode cX3_readRight 64 = .ok (.invokevirtual 99, 3) := by decide +kernel
theorem dX3_readRight_67 : decode cX3_readRight 67 = .ok (.iastore, 1) := by decide +kernel
theorem dX3_readRight_68 : decode cX3_readRight 68 = .ok (.aload_n 0, 1) := by decide +kernel
theorem dX3_readRight_69 : decode cX3_readRight 69 = .ok (.getfield 15, 3) := by decide +kernel
theorem dX3_readRight_72 : decode cX3_readRight 72 = .ok (.getfield 118, 3) := by decide +kernel
theorem dX3_readRight_75 : decode cX3_readRight 75 = .ok (.iload_n 2, 1) := by decide +kernel
theorem dX3_readRight_76 : decode cX3_readRight 76 = .ok (.aload_n 0, 1) := by decide +kernel
theorem dX3_readRight_77 : decode cX3_readRight 77 = .ok (.aload_n 0, 1) := by decide +kernel
theorem dX3_readRight_78 : decode cX3_readRight 78 = .ok (.getfield 15, 3) := by decide +kernel
theorem dX3_readRight_81 : decode cX3_readRight 81 = .ok (.getfield 115, 3) := by decide +kernel
theorem dX3_readRight_84 : decode cX3_readRight 84 = .ok (.iload_n 2, 1) := by decide +kernel
theorem dX3_readRight_85 : decode cX3_readRight 85 = .ok (.iaload, 1) := by decide +kernel
theorem dX3_readRight_86 : decode cX3_readRight 86 = .ok (.sipush 359, 3) := by decide +kernel
theorem dX3_readRight_89 : decode cX3_readRight 89 = .ok (.invokevirtual 99, 3) := by decide +kernel
theorem dX3_readRight_92 : decode cX3_readRight 92 = .ok (.iastore, 1) := by decide +kernel
theorem dX3_readRight_93 : decode cX3_readRight 93 = .ok (.aload_n 0, 1) := by decide +kernel
theorem dX3_readRight_94 : decode cX3_readRight 94 = .ok (.getfield 15, 3) := by decide +kernel
theorem dX3_readRight_97 : decode cX3_readRight 97 = .ok (.getfield 121, 3) := by decide +kernel
theorem dX3_readRight_100 : decode cX3_readRight 100 = .ok (.iload_n 2, 1) := by decide +kernel
theorem dX3_readRight_101 : decode cX3_readRight 101 = .ok (.aload_n 0, 1) := by decide +kernel
theorem dX3_readRight_102 : decode cX3_readRight 102 = .ok (.invokevirtual 124, 3) := by decide +kernel
theorem dX3_readRight_105 : decode cX3_readRight 105 = .ok (.iastore, 1) := by decide +kernel
theorem dX3_readRight_106 : decode cX3_readRight 106 = .ok (.aload_n 0, 1) := by decide +kernel
theorem dX3_readRight_107 : decode cX3_readRight 107 = .ok (.getfield 15, 3) := by decide +kernel
theorem dX3_readRight_110 : decode cX3_readRight 110 = .ok (.getfield 127, 3) := by decide +kernel
theorem dX3_readRight_113 : decode cX3_readRight 113 = .ok (.iload_n 2, 1) := by decide +kernel
theorem dX3_readRight_114 : decode cX3_readRight 114 = .ok (.aload_n 0, 1) := by decide +kernel
theorem dX3_readRight_115 : decode cX3_readRight 115 = .ok (.ldc 130, 2) := by decide +kernel
theorem dX3_readRight_117 : decode cX3_readRight 117 = .ok (.invokevirtual 60, 3) := by decide +kernel
theorem dX3_readRight_120 : decode cX3_readRight 120 = .ok (.ifCond .eq 13, 3) := by decide +kernel
theorem dX3_readRight_123 : decode cX3_readRight 123 = .ok (.aload_n 0, 1) := by decide +kernel
theorem dX3_readRight_124 : decode cX3_readRight 124 = .ok (.iconst 1, 1) := by decide +kernel
theorem dX3_readRight_125 : decode cX3_readRight 125 = .ok (.ldc 132, 2) := by decide +kernel
theorem dX3_readRight_127 : decode cX3_readRight 127 = .ok (.invokevirtual 99, 3) := by decide +kernel
theorem dX3_readRight_130 : decode cX3_readRight 130 = .ok (.goto 4, 3) := by decide +kernel
theorem dX3_readRight_133 : decode cX3_readRight 133 = .ok (.iconst 0, 1) := by decide +kernel
theorem dX3_readRight_134 : decode cX3_readRight 134 = .ok (.iastore, 1) := by decide +kernel
theorem dX3_readRight_135 : decode cX3_readRight 135 = .ok (.aload_n 0, 1) := by decide +kernel
theorem dX3_readRight_136 : decode cX3_readRight 136 = .ok (.ldc 133, 2) := by decide +kernel
theorem dX3_readRight_138 : decode cX3_readRight 138 = .ok (.invokevirtual 60, 3) := by decide +kernel
theorem dX3_readRight_141 : decode cX3_readRight 141 = .ok (.istore_n 3, 1) := by decide +kernel
theorem dX3_readRight_142 : decode cX3_readRight 142 = .ok (.aload_n 0, 1) := by decide +kernel
theorem dX3_readRight_143 : decode cX3_readRight 143 = .ok (.getfield 15, 3) := by decide +kernel
theorem dX3_readRight_146 : decode cX3_readRight 146 = .ok (.getfield 135, 3) := by decide +kernel
theorem dX3_readRight_149 : decode cX3_readRight 149 = .ok (.iload_n 2, 1) := by decide +kernel
theorem dX3_readRight_150 : decode cX3_readRight 150 = .ok (.iload_n 3, 1) := by decide +kernel
theorem dX3_readRight_151 : decode cX3_readRight 151 = .ok (.ifCond .eq 10, 3) := by decide +kernel
theorem dX3_readRight_154 : decode cX3_readRight 154 = .ok (.aload_n 0, 1) := by decide +kernel
theorem dX3_readRight_155 : decode cX3_readRight 155 = .ok (.invokevirtual 92, 3) := by decide +kernel
theorem dX3_readRight_158 : decode cX3_readRight 158 = .ok (.goto 5, 3) := by decide +kernel
theorem dX3_readRight_161 : decode cX3_readRight 161 = .ok (.bipush (-2), 2) := by decide +kernel
theorem dX3_readRight_163 : decode cX3_readRight 163 = .ok (.iastore, 1) := by decide +kernel
theorem dX3_readRight_164 : decode cX3_readRight 164 = .ok (.aload_n 0, 1) := by decide +kernel
theorem dX3_readRight_165 : decode cX3_readRight 165 = .ok (.getfield 15, 3) := by decide +kernel
theorem dX3_readRight_168 : decode cX3_readRight 168 = .ok (.getfield 138, 3) := by decide +kernel
theorem dX3_readRight_171 : decode cX3_readRight 171 = .ok (.iload_n 2, 1) := by decide +kernel
theorem dX3_readRight_172 : decode cX3_readRight 172 = .ok (.iload_n 3, 1) := by decide +kernel
theorem dX3_readRight_173 : decode cX3_readRight 173 = .ok (.ifCond .eq 13, 3) := by decide +kernel
theorem dX3_readRight_176 : decode cX3_readRight 176 = .ok (.aload_n 0, 1) := by decide +kernel
theorem dX3_readRight_177 : decode cX3_readRight 177 = .ok (.iconst 0, 1) := by decide +kernel
theorem dX3_readRight_178 : decode cX3_readRight 178 = .ok (.bipush 100, 2) := by decide +kernel
theorem dX3_readRight_180 : decode cX3_readRight 180 = .ok (.invokevirtual 99, 3) := by decide +kernel
theorem dX3_readRight_183 : decode cX3_readRight 183 = .ok (.goto 4, 3) := by decide +kernel
theorem dX3_readRight_186 : decode cX3_readRight 186 = .ok (.iconst 0, 1) := by decide +kernel
theorem dX3_readRight_187 : decode cX3_readRight 187 = .ok (.iastore, 1) := by decide +kernel
theorem dX3_readRight_188 : decode cX3_readRight 188 = .ok (.aload_n 0, 1) := by decide +kernel
theorem dX3_readRight_189 : decode cX3_readRight 189 = .ok (.getfield 15, 3) := by decide +kernel
theorem dX3_readRight_192 : decode cX3_readRight 192 = .ok (.getfield 141, 3) := by decide +kernel
theorem dX3_readRight_195 : decode cX3_readRight 195 = .ok (.iload_n 2, 1) := by decide +kernel
theorem dX3_readRight_196 : decode cX3_readRight 196 = .ok (.iload_n 3, 1) := by decide +kernel
theorem dX3_readRight_197 : decode cX3_readRight 197 = .ok (.ifCond .eq 13, 3) := by decide +kernel
theorem dX3_readRight_200 : decode cX3_readRight 200 = .ok (.aload_n 0, 1) := by decide +kernel
theorem dX3_readRight_201 : decode cX3_readRight 201 = .ok (.iconst 1, 1) := by decide +kernel
theorem dX3_readRight_202 : decode cX3_readRight 202 = .ok (.bipush 30, 2) := by decide +kernel
theorem dX3_readRight_204 : decode cX3_readRight 204 = .ok (.invokevirtual 99, 3) := by decide +kernel
theorem dX3_readRight_207 : decode cX3_readRight 207 = .ok (.goto 4, 3) := by decide +kernel
theorem dX3_readRight_210 : decode cX3_readRight 210 = .ok (.iconst 0, 1) := by decide +kernel
theorem dX3_readRight_211 : decode cX3_readRight 211 = .ok (.iastore, 1) := by decide +kernel
theorem dX3_readRight_212 : decode cX3_readRight 212 = .ok (.aload_n 0, 1) := by decide +kernel
theorem dX3_readRight_213 : decode cX3_readRight 213 = .ok (.getfield 15, 3) := by decide +kernel
theorem dX3_readRight_216 : decode cX3_readRight 216 = .ok (.dup, 1) := by decide +kernel
theorem dX3_readRight_217 : decode cX3_readRight 217 = .ok (.getfield 106, 3) := by decide +kernel
theorem dX3_readRight_220 : decode cX3_readRight 220 = .ok (.iconst 1, 1) := by decide +kernel
theorem dX3_readRight_221 : decode cX3_readRight 221 = .ok (.iadd, 1) := by decide +kernel
theorem dX3_readRight_222 : decode cX3_readRight 222 = .ok (.putfield 106, 3) := by decide +kernel
theorem dX3_readRight_225 : decode cX3_readRight 225 = .ok (.return_, 1) := by decide +kernel
theorem dX3_readStore_0 : decode cX3_readStore 0 = .ok (.aload_n 0, 1) := by decide +kernel
theorem dX3_readStore_1 : decode cX3_readStore 1 = .ok (.getfield 15, 3) := by decide +kernel
theorem dX3_readStore_4 : decode cX3_readStore 4 = .ok (.getfield 144, 3) := by decide +kernel
theorem dX3_readStore_7 : decode cX3_readStore 7 = .ok (.istore_n 2, 1) := by decide +kernel
theorem dX3_readStore_8 : decode cX3_readStore 8 = .ok (.iload_n 2, 1) := by decide +kernel
theorem dX3_readStore_9 : decode cX3_readStore 9 = .ok (.iconst 4, 1) := by decide +kernel
theorem dX3_readStore_10 : decode cX3_readStore 10 = .ok (.if_icmp .lt 10, 3) := by decide +kernel
theorem dX3_readStore_13 : decode cX3_readStore 13 = .ok (.aload_n 0, 1) := by decide +kernel
theorem dX3_readStore_14 : decode cX3_readStore 14 = .ok (.iload_n 1, 1) := by decide +kernel
theorem dX3_readStore_15 : decode cX3_readStore 15 = .ok (.iconst 3, 1) := by decide +kernel
theorem dX3_readStore_16 : decode cX3_readStore 16 = .ok (.invokevirtual 54, 3) := by decide +kernel
theorem dX3_readStore_19 : decode cX3_readStore 19 = .ok (.return_, 1) := by decide +kernel
theorem dX3_readStore_20 : decode cX3_readStore 20 = .ok (.aload_n 0, 1) := by decide +kernel
theorem dX3_readStore_21 : decode cX3_readStore 21 = .ok (.getfield 15, 3) := by decide +kernel
theorem dX3_readStore_24 : decode cX3_readStore 24 = .ok (.getfield 147, 3) := by decide +kernel
theorem dX3_readStore_27 : decode cX3_readStore 27 = .ok (.iload_n 2, 1) := by decide +kernel
theorem dX3_readStore_28 : decode cX3_readStore 28 = .ok (.aload_n 0, 1) := by decide +kernel
theorem dX3_readStore_29 : decode cX3_readStore 29 = .ok (.invokevirtual 92, 3) := by decide +kernel
theorem dX3_readStore_32 : decode cX3_readStore 32 = .ok (.iastore, 1) := by decide +kernel
theorem dX3_readStore_33 : decode cX3_readStore 33 = .ok (.aload_n 0, 1) := by decide +kernel
theorem dX3_readStore_34 : decode cX3_readStore 34 = .ok (.getfield 15, 3) := by decide +kernel
theorem dX3_readStore_37 : decode cX3_readStore 37 = .ok (.getfield 150, 3) := by decide +kernel
theorem dX3_readStore_40 : decode cX3_readStore 40 = .ok (.iload_n 2, 1) := by decide +kernel
theorem dX3_readStore_41 : decode cX3_readStore 41 = .ok (.aload_n 0, 1) := by decide +kernel
theorem dX3_readStore_42 : decode cX3_readStore 42 = .ok (.iconst 1, 1) := by decide +kernel
theorem dX3_readStore_43 : decode cX3_readStore 43 = .ok (.ldc 132, 2) := by decide +kernel
theorem dX3_readStore_45 : decode cX3_readStore 45 = .ok (.invokevirtual 99, 3) := by decide +kernel
theorem dX3_readStore_48 : decode cX3_readStore 48 = .ok (.iastore, 1) := by decide +kernel
theorem dX3_readStore_49 : decode cX3_readStore 49 = .ok (.aload_n 0, 1) := by decide +kernel
theorem dX3_readStore_50 : decode cX3_readStore 50 = .ok (.getfield 15, 3) := by decide +kernel
theorem dX3_readStore_53 : decode cX3_readStore 53 = .ok (.getfield 153, 3) := by decide +kernel
theorem dX3_readStore_56 : decode cX3_readStore 56 = .ok (.iload_n 2, 1) := by decide +kernel
theorem dX3_readStore_57 : decode cX3_readStore 57 = .ok (.aload_n 0, 1) := by decide +kernel
theorem dX3_readStore_58 : decode cX3_readStore 58 = .ok (.iconst 1, 1) := by decide +kernel
theorem dX3_readStore_59 : decode cX3_readStore 59 = .ok (.sipush 9999, 3) := by decide +kernel
theorem dX3_readStore_62 : decode cX3_readStore 62 = .ok (.invokevirtual 99, 3) := by decide +kernel
theorem dX3_readStore_65 : decode cX3_readStore 65 = .ok (.iastore, 1) := by decide +kernel
theorem dX3_readStore_66 : decode cX3_readStore 66 = .ok (.aload_n 0, 1) := by decide +kernel
theorem dX3_readStore_67 : decode cX3_readStore 67 = .ok (.getfield 15, 3) := by decide +kernel
theorem dX3_readStore_70 : decode cX3_readStore 70 = .ok (.getfield 156, 3) := by decide +kernel
theorem dX3_readStore_73 : decode cX3_readStore 73 = .ok (.iload_n 2, 1) := by decide +kernel
theorem dX3_readStore_74 : decode cX3_readStore 74 = .ok (.aload_n 0, 1) := by decide +kernel
theorem dX3_readStore_75 : decode cX3_readStore 75 = .ok (.invokevirtual 124, 3) := by decide +kernel
theorem dX3_readStore_78 : decode cX3_readStore 78 = .ok (.iastore, 1) := by decide +kernel
theorem dX3_readStore_79 : decode cX3_readStore 79 = .ok (.aload_n 0, 1) := by decide +kernel
theorem dX3_readStore_80 : decode cX3_readStore 80 = .ok (.getfield 15, 3) := by decide +kernel
theorem dX3_readStore_83 : decode cX3_readStore 83 = .ok (.dup, 1) := by decide +kernel
theorem dX3_readStore_84 : decode cX3_readStore 84 = .ok (.getfield 144, 3) := by decide +kernel
theorem dX3_readStore_87 : decode cX3_readStore 87 = .ok (.iconst 1, 1) := by decide +kernel
theorem dX3_readStore_88 : decode cX3_readStore 88 = .ok (.iadd, 1) := by decide +kernel
theorem dX3_readStore_89 : decode cX3_readStore 89 = .ok (.putfield 144, 3) := by decide +kernel
theorem dX3_readStore_92 : decode cX3_readStore 92 = .ok (.return_, 1) := by decide +kernel
theorem dX3_readPart_0 : decode cX3_readPart 0 = .ok (.aload_n 0, 1) := by decide +kernel
theorem dX3_readPart_1 : decode cX3_readPart 1 = .ok (.invokevirtual 44, 3) := by decide +kernel
theorem dX3_readPart_4 : decode cX3_readPart 4 = .ok (.aload_n 0, 1) := by decide +kernel
theorem dX3_readPart_5 : decode cX3_readPart 5 = .ok (.getfield 34, 3) := by decide +kernel
theorem dX3_readPart_8 : decode cX3_readPart 8 = .ok (.istore_n 1, 1) := by decide +kernel
theorem dX3_readPart_9 : decode cX3_readPart 9 = .ok (.aload_n 0, 1) := by decide +kernel
theorem dX3_readPart_10 : decode cX3_readPart 10 = .ok (.ldc 58, 2) := by decide +kernel
theorem dX3_readPart_12 : decode cX3_readPart 12 = .ok (.invokevirtual 60, 3) := by decide +kernel
theorem dX3_readPart_15 : decode cX3_readPart 15 = .ok (.ifCond .eq 11, 3) := by decide +kernel
theorem dX3_readPart_18 : decode cX3_readPart 18 = .ok (.aload_n 0, 1) := by decide +kernel
theorem dX3_readPart_19 : decode cX3_readPart 19 = .ok (.iload_n 1, 1) := by decide +kernel
theorem dX3_readPart_20 : decode cX3_readPart 20 = .ok (.invokevirtual 64, 3) := by decide +kernel
theorem dX3_readPart_23 : decode cX3_readPart 23 = .ok (.goto 60, 3) := by decide +kernel
theorem dX3_readPart_26 : decode cX3_readPart 26 = .ok (.aload_n 0, 1) := by decide +kernel
theorem dX3_readPart_27 : decode cX3_readPart 27 = .ok (.ldc 68, 2) := by decide +kernel
theorem dX3_readPart_29 : decode cX3_readPart 29 = .ok (.invokevirtual 60, 3) := by decide +kernel
theorem dX3_readPart_32 : decode cX3_readPart 32 = .ok (.ifCond .eq 11, 3) := by decide +kernel
theorem dX3_readPart_35 : decode cX3_readPart 35 = .ok (.aload_n 0, 1) := by decide +kernel
theorem dX3_readPart_36 : decode cX3_readPart 36 = .ok (.iload_n 1, 1) := by decide +kernel
theorem dX3_readPart_37 : decode cX3_readPart 37 = .ok (.invokevirtual 70, 3) := by decide +kernel
theorem dX3_readPart_40 : decode cX3_readPart 40 = .ok (.goto 43, 3) := by decide +kernel
theorem dX3_readPart_43 : decode cX3_readPart 43 = .ok (.aload_n 0, 1) := by decide +kernel
theorem dX3_readPart_44 : decode cX3_readPart 44 = .ok (.ldc 73, 2) := by decide +kernel
theorem dX3_readPart_46 : decode cX3_readPart 46 = .ok (.invokevirtual 60, 3) := by decide +kernel
theorem dX3_readPart_49 : decode cX3_readPart 49 = .ok (.ifCond .eq 11, 3) := by decide +kernel
theorem dX3_readPart_52 : decode cX3_readPart 52 = .ok (.aload_n 0, 1) := by decide +kernel
theorem dX3_readPart_53 : decode cX3_readPart 53 = .ok (.iload_n 1, 1) := by decide +kernel
theorem dX3_readPart_54 : decode cX3_readPart 54 = .ok (.invokevirtual 75, 3) := by decide +kernel
theorem dX3_readPart_57 : decode cX3_readPart 57 = .ok (.goto 26, 3) := by decide +kernel
theorem dX3_readPart_60 : decode cX3_readPart 60 = .ok (.aload_n 0, 1) := by decide +kernel
theorem dX3_readPart_61 : decode cX3_readPart 61 = .ok (.ldc 78, 2) := by decide +kernel
theorem dX3_readPart_63 : decode cX3_readPart 63 = .ok (.invokevirtual 60, 3) := by decide +kernel
theorem dX3_readPart_66 : decode cX3_readPart 66 = .ok (.ifCond .eq 11, 3) := by decide +kernel
theorem dX3_readPart_69 : decode cX3_readPart 69 = .ok (.aload_n 0, 1) := by decide +kernel
theorem dX3_readPart_70 : decode cX3_readPart 70 = .ok (.iload_n 1, 1) := by decide +kernel
theorem dX3_readPart_71 : decode cX3_readPart 71 = .ok (.invokevirtual 80, 3) := by decide +kernel
theorem dX3_readPart_74 : decode cX3_readPart 74 = .ok (.goto 9, 3) := by decide +kernel
theorem dX3_readPart_77 : decode cX3_readPart 77 = .ok (.aload_n 0, 1) := by decide +kernel
theorem dX3_readPart_78 : decode cX3_readPart 78 = .ok (.iload_n 1, 1) := by decide +kernel
theorem dX3_readPart_79 : decode cX3_readPart 79 = .ok (.iconst 1, 1) := by decide +kernel
theorem dX3_readPart_80 : decode cX3_readPart 80 = .ok (.invokevirtual 54, 3) := by decide +kernel
theorem dX3_readPart_83 : decode cX3_readPart 83 = .ok (.return_, 1) := by decide +kernel
theorem dX3_readRiver_0 : decode cX3_readRiver 0 = .ok (.aload_n 0, 1) := by decide +kernel
theorem dX3_readRiver_1 : decode cX3_readRiver 1 = .ok (.aload_n 1, 1) := by decide +kernel
theorem dX3_readRiver_2 : decode cX3_readRiver 2 = .ok (.putfield 15, 3) := by decide +kernel
theorem dX3_readRiver_5 : decode cX3_readRiver 5 = .ok (.aload_n 0, 1) := by decide +kernel
theorem dX3_readRiver_6 : decode cX3_readRiver 6 = .ok (.getfield 15, 3) := by decide +kernel
theorem dX3_readRiver_9 : decode cX3_readRiver 9 = .ok (.invokevirtual 19, 3) := by decide +kernel
theorem dX3_readRiver_12 : decode cX3_readRiver 12 = .ok (.aload_n 0, 1) := by decide +kernel
theorem dX3_readRiver_13 : decode cX3_readRiver 13 = .ok (.iload_n 2, 1) := by decide +kernel
theorem dX3_readRiver_14 : decode cX3_readRiver 14 = .ok (.aload_n 0, 1) := by decide +kernel
theorem dX3_readRiver_15 : decode cX3_readRiver 15 = .ok (.getfield 9, 3) := by decide +kernel
theorem dX3_readRiver_18 : decode cX3_readRiver 18 = .ok (.arraylength, 1) := by decide +kernel
theorem dX3_readRiver_19 : decode cX3_readRiver 19 = .ok (.invokestatic 24, 3) := by decide +kernel
theorem dX3_readRiver_22 : decode cX3_readRiver 22 = .ok (.putfield 30, 3) := by decide +kernel
theorem dX3_readRiver_25 : decode cX3_readRiver 25 = .ok (.aload_n 0, 1) := by decide +kernel
theorem dX3_readRiver_26 : decode cX3_readRiver 26 = .ok (.iconst 0, 1) := by decide +kernel
theorem dX3_readRiver_27 : decode cX3_readRiver 27 = .ok (.putfield 34, 3) := by decide +kernel
theorem dX3_readRiver_30 : decode cX3_readRiver 30 = .ok (.aload_n 0, 1) := by decide +kernel
theorem dX3_readRiver_31 : decode cX3_readRiver 31 = .ok (.iconst 0, 1) := by decide +kernel
theorem dX3_readRiver_32 : decode cX3_readRiver 32 = .ok (.putfield 37, 3) := by decide +kernel
theorem dX3_readRiver_35 : decode cX3_readRiver 35 = .ok (.aload_n 0, 1) := by decide +kernel
theorem dX3_readRiver_36 : decode cX3_readRiver 36 = .ok (.iconst 0, 1) := by decide +kernel
theorem dX3_readRiver_37 : decode cX3_readRiver 37 = .ok (.putfield 40, 3) := by decide +kernel
theorem dX3_readRiver_40 : decode cX3_readRiver 40 = .ok (.aload_n 0, 1) := by decide +kernel
theorem dX3_readRiver_41 : decode cX3_readRiver 41 = .ok (.invokevirtual 44, 3) := by decide +kernel
theorem dX3_readRiver_44 : decode cX3_readRiver 44 = .ok (.aload_n 0, 1) := by decide +kernel
theorem dX3_readRiver_45 : decode cX3_readRiver 45 = .ok (.getfield 34, 3) := by decide +kernel
theorem dX3_readRiver_48 : decode cX3_readRiver 48 = .ok (.aload_n 0, 1) := by decide +kernel
theorem dX3_readRiver_49 : decode cX3_readRiver 49 = .ok (.getfield 30, 3) := by decide +kernel
theorem dX3_readRiver_52 : decode cX3_readRiver 52 = .ok (.if_icmp .ge 7, 3) := by decide +kernel
theorem dX3_readRiver_55 : decode cX3_readRiver 55 = .ok (.iconst 1, 1) := by decide +kernel
theorem dX3_readRiver_56 : decode cX3_readRiver 56 = .ok (.goto 4, 3) := by decide +kernel
theorem dX3_readRiver_59 : decode cX3_readRiver 59 = .ok (.iconst 0, 1) := by decide +kernel
theorem dX3_readRiver_60 : decode cX3_readRiver 60 = .ok (.istore_n 3, 1) := by decide +kernel
theorem dX3_readRiver_61 : decode cX3_readRiver 61 = .ok (.iconst 0, 1) := by decide +kernel
theorem dX3_readRiver_62 : decode cX3_readRiver 62 = .ok (.istore 4, 2) := by decide +kernel
theorem dX3_readRiver_64 : decode cX3_readRiver 64 = .ok (.iload 4, 2) := by decide +kernel
theorem dX3_readRiver_66 : decode cX3_readRiver 66 = .ok (.sipush 400, 3) := by decide +kernel
theorem dX3_readRiver_69 : decode cX3_readRiver 69 = .ok (.if_icmp .gt 22, 3) := by decide +kernel
theorem dX3_readRiver_72 : decode cX3_readRiver 72 = .ok (.iload_n 3, 1) := by decide +kernel
theorem dX3_readRiver_73 : decode cX3_readRiver 73 = .ok (.ifCond .eq 18, 3) := by decide +kernel
theorem dX3_readRiver_76 : decode cX3_readRiver 76 = .ok (.aload_n 0, 1) := by decide +kernel
theorem dX3_readRiver_77 : decode cX3_readRiver 77 = .ok (.invokevirtual 47, 3) := by decide +kernel
theorem dX3_readRiver_80 : decode cX3_readRiver 80 = .ok (.aload_n 0, 1) := by decide +kernel
theorem dX3_readRiver_81 : decode cX3_readRiver 81 = .ok (.invokevirtual 50, 3) := by decide +kernel
theorem dX3_readRiver_84 : decode cX3_readRiver 84 = .ok (.istore_n 3, 1) := by decide +kernel
theorem dX3_readRiver_85 : decode cX3_readRiver 85 = .ok (.iinc 4 1, 3) := by decide +kernel
theorem dX3_readRiver_88 : decode cX3_readRiver 88 = .ok (.goto (-24), 3) := by decide +kernel
theorem dX3_readRiver_91 : decode cX3_readRiver 91 = .ok (.aload_n 0, 1) := by decide +kernel
theorem dX3_readRiver_92 : decode cX3_readRiver 92 = .ok (.getfield 37, 3) := by decide +kernel
theorem dX3_readRiver_95 : decode cX3_readRiver 95 = .ok (.ireturn, 1) := by decide +kernel
theorem dX6_tell_0 : decode cX6_tell 0 = .ok (.aload_n 0, 1) := by decide +kernel
theorem dX6_tell_1 : decode cX6_tell 1 = .ok (.getfield 66, 3) := by decide +kernel
theorem dX6_tell_4 : decode cX6_tell 4 = .ok (.aload_n 0, 1) := by decide +kernel
theorem dX6_tell_5 : decode cX6_tell 5 = .ok (.getfield 20, 3) := by decide +kernel
theorem dX6_tell_8 : decode cX6_tell 8 = .ok (.aload_n 0, 1) := by decide +kernel
theorem dX6_tell_9 : decode cX6_tell 9 = .ok (.getfield 77, 3) := by decide +kernel
theorem dX6_tell_12 : decode cX6_tell 12 = .ok (.invokevirtual 85, 3) := by decide +kernel
theorem dX6_tell_15 : decode cX6_tell 15 = .ok (.istore_n 1, 1) := by decide +kernel
theorem dX6_tell_16 : decode cX6_tell 16 = .ok (.aload_n 0, 1) := by decide +kernel
theorem dX6_tell_17 : decode cX6_tell 17 = .ok (.iconst 0, 1) := by decide +kernel
theorem dX6_tell_18 : decode cX6_tell 18 = .ok (.putfield 77, 3) := by decide +kernel
theorem dX6_tell_21 : decode cX6_tell 21 = .ok (.iload_n 1, 1) := by decide +kernel
theorem dX6_tell_22 : decode cX6_tell 22 = .ok (.ifCond .eq 8, 3) := by decide +kernel
theorem dX6_tell_25 : decode cX6_tell 25 = .ok (.bipush (-2), 2) := by decide +kernel
theorem dX6_tell_27 : decode cX6_tell 27 = .ok (.iload_n 1, 1) := by decide +kernel
theorem dX6_tell_28 : decode cX6_tell 28 = .ok (.isub, 1) := by decide +kernel
theorem dX6_tell_29 : decode cX6_tell 29 = .ok (.ireturn, 1) := by decide +kernel
theorem dX6_tell_30 : decode cX6_tell 30 = .ok (.aload_n 0, 1) := by decide +kernel
theorem dX6_tell_31 : decode cX6_tell 31 = .ok (.getfield 20, 3) := by decide +kernel
theorem dX6_tell_34 : decode cX6_tell 34 = .ok (.astore_n 2, 1) := by decide +kernel
theorem dX6_tell_35 : decode cX6_tell 35 = .ok (.aload_n 0, 1) := by decide +kernel
theorem dX6_tell_36 : decode cX6_tell 36 = .ok (.aload_n 0, 1) := by decide +kernel
theorem dX6_tell_37 : decode cX6_tell 37 = .ok (.getfield 16, 3) := by decide +kernel
theorem dX6_tell_40 : decode cX6_tell 40 = .ok (.putfield 20, 3) := by decide +kernel
theorem dX6_tell_43 : decode cX6_tell 43 = .ok (.aload_n 0, 1) := by decide +kernel
theorem dX6_tell_44 : decode cX6_tell 44 = .ok (.aload_n 2, 1) := by decide +kernel
theorem dX6_tell_45 : decode cX6_tell 45 = .ok (.putfield 16, 3) := by decide +kernel
theorem dX6_tell_48 : decode cX6_tell 48 = .ok (.aload_n 0, 1) := by decide +kernel
theorem dX6_tell_49 : decode cX6_tell 49 = .ok (.getfield 26, 3) := by decide +kernel
theorem dX6_tell_52 : decode cX6_tell 52 = .ok (.aload_n 0, 1) := by decide +kernel
theorem dX6_tell_53 : decode cX6_tell 53 = .ok (.getfield 16, 3) := by decide +kernel
theorem dX6_tell_56 : decode cX6_tell 56 = .ok (.invokevirtual 89, 3) := by decide +kernel
theorem dX6_tell_59 : decode cX6_tell 59 = .ok (.aload_n 0, 1) := by decide +kernel
theorem dX6_tell_60 : decode cX6_tell 60 = .ok (.iconst 0, 1) := by decide +kernel
theorem dX6_tell_61 : decode cX6_tell 61 = .ok (.putfield 93, 3) := by decide +kernel
theorem dX6_tell_64 : decode cX6_tell 64 = .ok (.aload_n 0, 1) := by decide +kernel
theorem dX6_tell_65 : decode cX6_tell 65 = .ok (.getfield 16, 3) := by decide +kernel
theorem dX6_tell_68 : decode cX6_tell 68 = .ok (.getfield 96, 3) := by decide +kernel
theorem dX6_tell_71 : decode cX6_tell 71 = .ok (.ireturn, 1) := by decide +kernel
theorem dX6_putNumber_0 : decode cX6_putNumber 0 = .ok (.bipush 24, 2) := by decide +kernel
theorem dX6_putNumber_2 : decode cX6_putNumber 2 = .ok (.istore_n 2, 1) := by decide +kernel
theorem dX6_putNumber_3 : decode cX6_putNumber 3 = .ok (.iload_n 2, 1) := by decide +kernel
theorem dX6_putNumber_4 : decode cX6_putNumber 4 = .ok (.ifCond .lt 42, 3) := by decide +kernel
theorem dX6_putNumber_7 : decode cX6_putNumber 7 = .ok (.aload_n 0, 1) := by decide +kernel
theorem dX6_putNumber_8 : decode cX6_putNumber 8 = .ok (.getfield 77, 3) := by decide +kernel
theorem dX6_putNumber_11 : decode cX6_putNumber 11 = .ok (.sipush 400, 3) := by decide +kernel
theorem dX6_putNumber_14 : decode cX6_putNumber 14 = .ok (.if_icmp .ge 26, 3) := by decide +kernel
theorem dX6_putNumber_17 : decode cX6_putNumber 17 = .ok (.aload_n 0, 1) := by decide +kernel
theorem dX6_putNumber_18 : decode cX6_putNumber 18 = .ok (.getfield 9, 3) := by decide +kernel
theorem dX6_putNumber_21 : decode cX6_putNumber 21 = .ok (.aload_n 0, 1) := by decide +kernel
theorem dX6_putNumber_22 : decode cX6_putNumber 22 = .ok (.getfield 77, 3) := by decide +kernel
theorem dX6_putNumber_25 : decode cX6_putNumber 25 = .ok (.iload_n 1, 1) := by decide +kernel
theorem dX6_putNumber_26 : decode cX6_putNumber 26 = .ok (.iload_n 2, 1) := by decide +kernel
theorem dX6_putNumber_27 : decode cX6_putNumber 27 = .ok (.iushr, 1) := by decide +kernel
theorem dX6_putNumber_28 : decode cX6_putNumber 28 = .ok (.i2b, 1) := by decide +kernel
theorem dX6_putNumber_29 : decode cX6_putNumber 29 = .ok (.bastore, 1) := by decide +kernel
theorem dX6_putNumber_30 : decode cX6_putNumber 30 = .ok (.aload_n 0, 1) := by decide +kernel
theorem dX6_putNumber_31 : decode cX6_putNumber 31 = .ok (.dup, 1) := by decide +kernel
theorem dX6_putNumber_32 : decode cX6_putNumber 32 = .ok (.getfield 77, 3) := by decide +kernel
theorem dX6_putNumber_35 : decode cX6_putNumber 35 = .ok (.iconst 1, 1) := by decide +kernel
theorem dX6_putNumber_36 : decode cX6_putNumber 36 = .ok (.iadd, 1) := by decide +kernel
theorem dX6_putNumber_37 : decode cX6_putNumber 37 = .ok (.putfield 77, 3) := by decide +kernel
theorem dX6_putNumber_40 : decode cX6_putNumber 40 = .ok (.iinc 2 (-8), 3) := by decide +kernel
theorem dX6_putNumber_43 : decode cX6_putNumber 43 = .ok (.goto (-40), 3) := by decide +kernel
theorem dX6_putNumber_46 : decode cX6_putNumber 46 = .ok (.return_, 1) := by decide +kernel
theorem dX6_feed_0 : decode cX6_feed 0 = .ok (.aload_n 0, 1) := by decide +kernel
theorem dX6_feed_1 : decode cX6_feed 1 = .ok (.getfield 77, 3) := by decide +kernel
theorem dX6_feed_4 : decode cX6_feed 4 = .ok (.bipush 20, 2) := by decide +kernel
theorem dX6_feed_6 : decode cX6_feed 6 = .ok (.iadd, 1) := by decide +kernel
theorem dX6_feed_7 : decode cX6_feed 7 = .ok (.sipush 400, 3) := by decide +kernel
theorem dX6_feed_10 : decode cX6_feed 10 = .ok (.if_icmp .le 5, 3) := by decide +kernel
theorem dX6_feed_13 : decode cX6_feed 13 = .ok (.iconst (-1), 1) := by decide +kernel
theorem dX6_feed_14 : decode cX6_feed 14 = .ok (.ireturn, 1) := by decide +kernel
theorem dX6_feed_15 : decode cX6_feed 15 = .ok (.aload_n 0, 1) := by decide +kernel
theorem dX6_feed_16 : decode cX6_feed 16 = .ok (.iload_n 1, 1) := by decide +kernel
theorem dX6_feed_17 : decode cX6_feed 17 = .ok (.invokevirtual 81, 3) := by decide +kernel
theorem dX6_feed_20 : decode cX6_feed 20 = .ok (.aload_n 0, 1) := by decide +kernel
theorem dX6_feed_21 : decode cX6_feed 21 = .ok (.iload_n 2, 1) := by decide +kernel
theorem dX6_feed_22 : decode cX6_feed 22 = .ok (.invokevirtual 81, 3) := by decide +kernel
theorem dX6_feed_25 : decode cX6_feed 25 = .ok (.aload_n 0, 1) := by decide +kernel
theorem dX6_feed_26 : decode cX6_feed 26 = .ok (.iload_n 3, 1) := by decide +kernel
theorem dX6_feed_27 : decode cX6_feed 27 = .ok (.invokevirtual 81, 3) := by decide +kernel
theorem dX6_feed_30 : decode cX6_feed 30 = .ok (.aload_n 0, 1) := by decide +kernel
theorem dX6_feed_31 : decode cX6_feed 31 = .ok (.iload 4, 2) := by decide +kernel
theorem dX6_feed_33 : decode cX6_feed 33 = .ok (.invokevirtual 81, 3) := by decide +kernel
theorem dX6_feed_36 : decode cX6_feed 36 = .ok (.aload_n 0, 1) := by decide +kernel
theorem dX6_feed_37 : decode cX6_feed 37 = .ok (.iload 5, 2) := by decide +kernel
theorem dX6_feed_39 : decode cX6_feed 39 = .ok (.invokevirtual 81, 3) := by decide +kernel
theorem dX6_feed_42 : decode cX6_feed 42 = .ok (.aload_n 0, 1) := by decide +kernel
theorem dX6_feed_43 : decode cX6_feed 43 = .ok (.getfield 77, 3) := by decide +kernel
theorem dX6_feed_46 : decode cX6_feed 46 = .ok (.ireturn, 1) := by decide +kernel
theorem dX6_end_0 : decode cX6_end 0 = .ok (.iload_n 1, 1) := by decide +kernel
theorem dX6_end_1 : decode cX6_end 1 = .ok (.ifCond .lt 11, 3) := by decide +kernel
theorem dX6_end_4 : decode cX6_end 4 = .ok (.iload_n 1, 1) := by decide +kernel
theorem dX6_end_5 : decode cX6_end 5 = .ok (.aload_n 0, 1) := by decide +kernel
theorem dX6_end_6 : decode cX6_end 6 = .ok (.getfield 77, 3) := by decide +kernel
theorem dX6_end_9 : decode cX6_end 9 = .ok (.if_icmp .le 5, 3) := by decide +kernel
theorem dX6_end_12 : decode cX6_end 12 = .ok (.iconst (-1), 1) := by decide +kernel
theorem dX6_end_13 : decode cX6_end 13 = .ok (.ireturn, 1) := by decide +kernel
theorem dX6_end_14 : decode cX6_end 14 = .ok (.aload_n 0, 1) := by decide +kernel
theorem dX6_end_15 : decode cX6_end 15 = .ok (.iload_n 1, 1) := by decide +kernel
theorem dX6_end_16 : decode cX6_end 16 = .ok (.putfield 77, 3) := by decide +kernel
theorem dX6_end_19 : decode cX6_end 19 = .ok (.iload_n 1, 1) := by decide +kernel
theorem dX6_end_20 : decode cX6_end 20 = .ok (.ireturn, 1) := by decide +kernel
theorem mv_X2_clear : MV yX2_clear cX2_clear 1 none 0 := ⟨wd_9_10, wd_9_8, wd_9_9, wd_1_16, by decide, by decide, by decide +kernel⟩
theorem mv_X2_hasAge : MV yX2_hasAge cX2_hasAge 3 (some .boolean) 1 := ⟨wd_13_22, wd_13_20, wd_13_21, wd_1_16, by decide, by decide, by decide +kernel⟩
theorem mv_X3_blame : MV yX3_blame cX3_blame 3 none 2 := ⟨wd_12_14, wd_12_12, wd_12_13, wd_2_14, by decide, by decide, by decide +kernel⟩
theorem mv_X3_isNext : MV yX3_isNext cX3_isNext 4 (some .boolean) 1 := ⟨wd_10_1, wd_9_23, wd_10_0, wd_2_14, by decide, by decide, by decide +kernel⟩
theorem mv_X3_readAge : MV yX3_readAge cX3_readAge 3 (some .int) 0 := ⟨wd_13_18, wd_13_16, wd_13_17, wd_2_14, by decide, by decide, by decide +kernel⟩
theorem mv_X3_readBetween : MV yX3_readBetween cX3_readBetween 1 (some .boolean) 0 := ⟨wd_14_16, wd_14_14, wd_14_15, wd_2_14, by decide, by decide, by decide +kernel⟩
theorem mv_X3_readNumber : MV yX3_readNumber cX3_readNumber 5 (some .int) 2 := ⟨wd_12_22, wd_12_20, wd_12_21, wd_2_14, by decide, by decide, by decide +kernel⟩
theorem mv_X3_readPart : MV yX3_readPart cX3_readPart 2 none 0 := ⟨wd_9_21, wd_9_19, wd_9_20, wd_2_14, by decide, by decide, by decide +kernel⟩
theorem mv_X3_readReach : MV yX3_readReach cX3_readReach 4 none 1 := ⟨wd_12_6, wd_12_4, wd_12_5, wd_2_14, by decide, by decide, by decide +kernel⟩
theorem mv_X3_readReachNumber : MV yX3_readReachNumber cX3_readReachNumber 1 (some .int) 0 := ⟨wd_12_18, wd_12_16, wd_12_17, wd_2_14, by decide, by decide, by decide +kernel⟩
theorem mv_X3_readRight : MV yX3_readRight cX3_readRight 4 none 1 := ⟨wd_13_3, wd_13_1, wd_13_2, wd_2_14, by decide, by decide, by decide +kernel⟩
theorem mv_X3_readRiver : MV yX3_readRiver cX3_readRiver 5 (some .int) 2 := ⟨wd_8_22, wd_8_20, wd_8_21, wd_2_14, by decide, by decide, by decide +kernel⟩
theorem mv_X3_readStore : MV yX3_readStore cX3_readStore 3 none 1 := ⟨wd_14_2, wd_14_0, wd_14_1, wd_2_14, by decide, by decide, by decide +kernel⟩
theorem mv_X3_readWet : MV yX3_readWet cX3_readWet 2 none 1 := ⟨wd_14_11, wd_14_9, wd_14_10, wd_2_14, by decide, by decide, by decide +kernel⟩
theorem mv_X3_skipBlanks : MV yX3_skipBlanks cX3_skipBlanks 1 none 0 := ⟨wd_9_17, wd_9_15, wd_9_16, wd_2_14, by decide, by decide, by decide +kernel⟩
theorem mv_X4_beginPart : MV yX4_beginPart cX4_beginPart 2 none 1 := ⟨wd_53_15, wd_53_13, wd_53_14, wd_2_18, by decide, by decide, by decide +kernel⟩
theorem mv_X4_put : MV yX4_put cX4_put 2 none 1 := ⟨wd_53_19, wd_53_17, wd_53_18, wd_2_18, by decide, by decide, by decide +kernel⟩
theorem mv_X4_putNextNumber : MV yX4_putNextNumber cX4_putNextNumber 5 none 1 := ⟨wd_54_9, wd_54_7, wd_54_8, wd_2_18, by decide, by decide, by decide +kernel⟩
theorem mv_X4_putNextWord : MV yX4_putNextWord cX4_putNextWord 2 none 1 := ⟨wd_54_5, wd_54_3, wd_54_4, wd_2_18, by decide, by decide, by decide +kernel⟩
theorem mv_X4_putWord : MV yX4_putWord cX4_putWord 3 none 1 := ⟨wd_53_23, wd_53_21, wd_53_22, wd_2_18, by decide, by decide, by decide +kernel⟩
theorem mv_X4_write : MV yX4_write cX4_write 5 none 3 := ⟨wd_52_21, wd_52_19, wd_52_20, wd_2_18, by decide, by decide, by decide +kernel⟩
theorem mv_X4_writeReach : MV yX4_writeReach cX4_writeReach 3 none 1 := ⟨wd_53_8, wd_53_6, wd_53_7, wd_2_18, by decide, by decide, by decide +kernel⟩
theorem mv_X4_writeRight : MV yX4_writeRight cX4_writeRight 2 none 1 := ⟨wd_54_14, wd_54_12, wd_54_13, wd_2_18, by decide, by decide, by decide +kernel⟩
theorem mv_X4_writeStore : MV yX4_writeStore cX4_writeStore 2 none 1 := ⟨wd_55_3, wd_55_1, wd_55_2, wd_2_18, by decide, by decide, by decide +kernel⟩
theorem mv_X5_startAs : MV yX5_startAs cX5_startAs 3 none 1 := ⟨wd_14_20, wd_14_18, wd_14_19, wd_1_21, by decide, by decide, by decide +kernel⟩
theorem mv_X6_putNumber : MV yX6_putNumber cX6_putNumber 3 none 1 := ⟨wd_7_16, wd_7_14, wd_7_15, wd_1_2, by decide, by decide, by decide +kernel⟩
set_option maxHeartbeats 4000000 in
set_option maxRecDepth 100000 in
theorem c_X5_startAs_1 (E : Ev) (dA : TD) (dB : TD) (rB : TD) (rc : TD) (rd : TD) (tp : TD) (rC : TD) (rD : TD) (wd1 : TD) (wd2 : TD) (wd3 : TD) (wd4 : TD) (ws1 : TD) (ws2 : TD) (ws3 : TD) (ws4 : TD) (wi1 : TD) (wi2 : TD) (wi3 : TD) (wi4 : TD) (a : Int) (b : Int) (c : Int) (a0 : Nat) (a1 : Nat) (ha0 : eT E a0 ∈ [17]) (ha1 : eT E a1 ∈ [26]) (ha : 0 ≤ a ∧ a ≤ 12) (hb : 0 ≤ b ∧ b ≤ 14) (hc : 0 ≤ c ∧ c ≤ 4) : TcV E yX5_startAs cX5_startAs 3 ({ frames := 2, cells := 0, slots := 0, locals := 61 }) [.ref a0, .ref a1] (fun H => TH E (tbC dA dB (riverD (.inl (a, a)) (.inl (b, b)) (.inl (c, c)) 31 33 35 39 43 47) rB rc rd tp A14F A14F A4F A4F A14F A14F rC rD wd1 wd2 wd3 wd4 ws1 ws2 ws3 ws4 wi1 wi2 wi3 wi4) H) (fun H => TH E (tbC dA dB (riverD (.inl (a, a)) (.inl (b, b)) (.inl (c, c)) 31 33 35 39 43 47) rB rc rd tp A14F A14F A4F A4F A14F A14F rC rD wd1 wd2 wd3 wd4 ws1 ws2 ws3 ws4 wi1 wi2 wi3 wi4) H) := by
  refine teV (by decide) (Nat.le_of_ble_eq_true rfl) ?_
  intro p_ ev_ s mi_ below_ meth cd_ ls F hK hN hO hH hS hl
  have hH : TH E (tbC dA dB (riverD (.inl (a, a)) (.inl (b, b)) (.inl (c, c)) 31 33 35 39 43 47) rB rc rd tp A14F A14F A4F A4F A14F A14F rC rD wd1 wd2 wd3 wd4 ws1 ws2 ws3 ws4 wi1 wi2 wi3 wi4) s.heap := hH
  have hl : lv_has ls 3 [(0, .ref a0), (1, .ref a1)] := hl
  refine lv_aload_n F.1 F.2.1 dX5_startAs_0 rfl (lv_at hl 0 rfl) ?_
  refine lv_iconst (v := 0) F.1 F.2.1 dX5_startAs_1 (by decide) ?_
  refine topK (a := 0) (by decide) (fun k_1 hk_1 => ?_)
  refine tPut (j := 0) F hK hH hS (tyb ha0 (all1 rfl)) rfl (fdI (wkb (eqb hk_1) rfl rfl)) clX5 (by decide) wd_14_21 rfl rfl rfl rfl dX5_startAs_2 (fun H locs hH hS => ?_)
  refine lv_aload_n F.1 F.2.1 dX5_startAs_5 rfl (lv_at hl 0 rfl) ?_
  refine lv_aload_n F.1 F.2.1 dX5_startAs_6 rfl (lv_at hl 1 rfl) ?_
  refine tGetI (j := 19) F hK hH (tyb ha1 (all1 rfl)) rfl clX2 (by decide) wd_14_22 dX5_startAs_7 (fun z_2 hz_2 => ?_)
  refine tPut (j := 1) F hK hH hS (tyb ha0 (all1 rfl)) rfl (fdI hz_2) clX5 (by decide) wd_3_19 rfl rfl rfl rfl dX5_startAs_10 (fun H locs hH hS => ?_)
  refine lv_aload_n F.1 F.2.1 dX5_startAs_13 rfl (lv_at hl 1 rfl) ?_
  refine tGetR (j := 5) F hK hH (tyb ha1 (all1 rfl)) rfl (all1 rfl) clX2 (by decide) wd_14_23 dX5_startAs_14 (fun q_3 hq_3 _ => ?_)
  refine lv_aload_n F.1 F.2.1 dX5_startAs_17 rfl (lv_at hl 0 rfl) ?_
  refine tGetR (j := 2) F hK hH (tyb ha0 (all1 rfl)) rfl (all1 rfl) clX5 (by decide) wd_3_20 dX5_startAs_18 (fun q_4 hq_4 _ => ?_)
  refine tNv (host := RX6) (As := [.ref q_3, .ref q_4]) (rest := []) F hK hN hO (c_X6_copyRow_A14R E dA dB (riverD (.inl (a, a)) (.inl (b, b)) (.inl (c, c)) 31 33 35 39 43 47) rB rc rd tp A14F A14F A4F A4F A14F A14F rC rD wd1 wd2 wd3 wd4 ws1 ws2 ws3 ws4 wi1 wi2 wi3 wi4 q_3 q_4 hq_3 hq_4) ms_X6_copyRow hN.1.2.2.2.1 ⟨Nat.le_of_ble_eq_true rfl, Nat.le_of_ble_eq_true rfl⟩ ⟨Nat.le_of_ble_eq_true rfl, Nat.le_of_ble_eq_true rfl⟩ hH hS rfl hl.1 (Nat.le_of_ble_eq_true rfl) dX5_startAs_21 (fun H locs hq hS => ?_)
  have hH := hq
  have hH : TH E (tbC dA dB (riverD (.inl (a, a)) (.inl (b, b)) (.inl (c, c)) 31 33 35 39 43 47) rB rc rd tp A14F A14F A4F A4F A14F A14F rC rD wd1 wd2 wd3 wd4 ws1 ws2 ws3 ws4 wi1 wi2 wi3 wi4) H := hH
  refine lv_aload_n F.1 F.2.1 dX5_startAs_24 rfl (lv_at hl 1 rfl) ?_
  refine tGetR (j := 9) F hK hH (tyb ha1 (all1 rfl)) rfl (all1 rfl) clX2 (by decide) wd_15_0 dX5_startAs_25 (fun q_6 hq_6 _ => ?_)
  refine lv_aload_n F.1 F.2.1 dX5_startAs_28 rfl (lv_at hl 0 rfl) ?_
  refine tGetR (j := 3) F hK hH (tyb ha0 (all1 rfl)) rfl (all1 rfl) clX5 (by decide) wd_3_21 dX5_startAs_29 (fun q_7 hq_7 _ => ?_)
  refine tNv (host := RX6) (As := [.ref q_6, .ref q_7]) (rest := []) F hK hN hO (c_X6_copyRow_g E dA dB (riverD (.inl (a, a)) (.inl (b, b)) (.inl (c, c)) 31 33 35 39 43 47) rB rc rd tp rC rD wd1 wd2 wd3 wd4 ws1 ws2 ws3 ws4 wi1 wi2 wi3 wi4 q_6 q_7 (by have h9_ := hq_6; simp at h9_ ⊢; omega) (by have h9_ := hq_7; simp at h9_ ⊢; omega)) ms_X6_copyRow hN.1.2.2.2.1 ⟨Nat.le_of_ble_eq_true rfl, Nat.le_of_ble_eq_true rfl⟩ ⟨Nat.le_of_ble_eq_true rfl, Nat.le_of_ble_eq_true rfl⟩ hH hS rfl hl.1 (Nat.le_of_ble_eq_true rfl) dX5_startAs_32 (fun H locs hq hS => ?_)
  have hH := hq
  have hH : TH E (tbC dA dB (riverD (.inl (a, a)) (.inl (b, b)) (.inl (c, c)) 31 33 35 39 43 47) rB rc rd tp A14F A14F A4F A4F A14F A14F rC rD wd1 wd2 wd3 wd4 ws1 ws2 ws3 ws4 wi1 wi2 wi3 wi4) H := hH
  refine lv_aload_n F.1 F.2.1 dX5_startAs_35 rfl (lv_at hl 1 rfl) ?_
  refine tGetR (j := 6) F hK hH (tyb ha1 (all1 rfl)) rfl (all1 rfl) clX2 (by decide) wd_15_1 dX5_startAs_36 (fun q_9 hq_9 _ => ?_)
  refine lv_aload_n F.1 F.2.1 dX5_startAs_39 rfl (lv_at hl 0 rfl) ?_
  refine tGetR (j := 4) F hK hH (tyb ha0 (all1 rfl)) rfl (all1 rfl) clX5 (by decide) wd_3_22 dX5_startAs_40 (fun q_10 hq_10 _ => ?_)
  refine tNv (host := RX6) (As := [.ref q_9, .ref q_10]) (rest := []) F hK hN hO (c_X6_copyRow_A14F E dA dB (riverD (.inl (a, a)) (.inl (b, b)) (.inl (c, c)) 31 33 35 39 43 47) rB rc rd tp A14F A14F A4F A4F A14F A14F rC rD wd1 wd2 wd3 wd4 ws1 ws2 ws3 ws4 wi1 wi2 wi3 wi4 q_9 q_10 hq_9 hq_10) ms_X6_copyRow hN.1.2.2.2.1 ⟨Nat.le_of_ble_eq_true rfl, Nat.le_of_ble_eq_true rfl⟩ ⟨Nat.le_of_ble_eq_true rfl, Nat.le_of_ble_eq_true rfl⟩ hH hS rfl hl.1 (Nat.le_of_ble_eq_true rfl) dX5_startAs_43 (fun H locs hq hS => ?_)
  have hH := hq
  have hH : TH E (tbC dA dB (riverD (.inl (a, a)) (.inl (b, b)) (.inl (c, c)) 31 33 35 39 43 47) rB rc rd tp A14F A14F A4F A4F A14F A14F rC rD wd1 wd2 wd3 wd4 ws1 ws2 ws3 ws4 wi1 wi2 wi3 wi4) H := hH
  refine lv_aload_n F.1 F.2.1 dX5_startAs_46 rfl (lv_at hl 1 rfl) ?_
  refine tGetR (j := 10) F hK hH (tyb ha1 (all1 rfl)) rfl (all1 rfl) clX2 (by decide) wd_15_2 dX5_startAs_47 (fun q_12 hq_12 _ => ?_)
  refine lv_aload_n F.1 F.2.1 dX5_startAs_50 rfl (lv_at hl 0 rfl) ?_
  refine tGetR (j := 5) F hK hH (tyb ha0 (all1 rfl)) rfl (all1 rfl) clX5 (by decide) wd_3_23 dX5_startAs_51 (fun q_13 hq_13 _ => ?_)
  refine tNv (host := RX6) (As := [.ref q_12, .ref q_13]) (rest := []) F hK hN hO (c_X6_copyRow_A14F E dA dB (riverD (.inl (a, a)) (.inl (b, b)) (.inl (c, c)) 31 33 35 39 43 47) rB rc rd tp A14F A14F A4F A4F A14F A14F rC rD wd1 wd2 wd3 wd4 ws1 ws2 ws3 ws4 wi1 wi2 wi3 wi4 q_12 q_13 hq_12 hq_13) ms_X6_copyRow hN.1.2.2.2.1 ⟨Nat.le_of_ble_eq_true rfl, Nat.le_of_ble_eq_true rfl⟩ ⟨Nat.le_of_ble_eq_true rfl, Nat.le_of_ble_eq_true rfl⟩ hH hS rfl hl.1 (Nat.le_of_ble_eq_true rfl) dX5_startAs_54 (fun H locs hq hS => ?_)
  have hH := hq
  have hH : TH E (tbC dA dB (riverD (.inl (a, a)) (.inl (b, b)) (.inl (c, c)) 31 33 35 39 43 47) rB rc rd tp A14F A14F A4F A4F A14F A14F rC rD wd1 wd2 wd3 wd4 ws1 ws2 ws3 ws4 wi1 wi2 wi3 wi4) H := hH
  refine lv_iconst (v := 0) F.1 F.2.1 dX5_startAs_57 (by decide) ?_
  refine topK (a := 0) (by decide) (fun k_15 hk_15 => ?_)
  refine lv_istore_n (lv' := [(2, .int k_15), (0, .ref a0), (1, .ref a1)]) F.1 F.2.1 dX5_startAs_58 rfl hl (by decide) rfl (fun ls hl => ?_)
  refine wloop (σ := Int32) (fun n9 x9 H locs ls => (14 - x9.toInt + 1).toNat < n9 ∧ (0 ≤ x9.toInt ∧ x9.toInt ≤ 14) ∧ TH E (tbC dA dB (riverD (.inl (a, a)) (.inl (b, b)) (.inl (c, c)) 31 33 35 39 43 47) rB rc rd tp A14F A14F A4F A4F A14F A14F rC rD wd1 wd2 wd3 wd4 ws1 ws2 ws3 ws4 wi1 wi2 wi3 wi4) H ∧ va_S (eA E s.heap.size) s.heap H locs ∧ lv_has ls 3 [(0, .ref a0), (2, .int x9)]) ?_ (fun x9 H locs ls h => absurd h.1 (Nat.not_lt_zero _)) _ (k_15) ⟨Nat.lt_succ_self _, (wkb (eqb hk_15) rfl rfl), hH, hS, lv_sub hl [1, 0] rfl⟩
  intro n_59 ih_59 u_16 H locs ls ⟨hm_59, hu_16, hH, hS, hl⟩
  have hm_59 : (14 - u_16.toInt + 1).toNat < n_59 + 1 := hm_59
  have hu_16 : (0 ≤ u_16.toInt ∧ u_16.toInt ≤ 14) := hu_16
  have hH : TH E (tbC dA dB (riverD (.inl (a, a)) (.inl (b, b)) (.inl (c, c)) 31 33 35 39 43 47) rB rc rd tp A14F A14F A4F A4F A14F A14F rC rD wd1 wd2 wd3 wd4 ws1 ws2 ws3 ws4 wi1 wi2 wi3 wi4) H := hH
  have hl : lv_has ls 3 [(0, .ref a0), (2, .int u_16)] := hl
  refine lv_iload_n F.1 F.2.1 dX5_startAs_59 rfl (lv_at hl 1 rfl) ?_
  refine lv_bipush (v := 14) F.1 F.2.1 dX5_startAs_60 (by decide) ?_
  refine topK (a := 14) (by decide) (fun k_17 hk_17 => ?_)
  refine b_ge (tgt := 86) F dX5_startAs_62 (by decide) (fun c_18 => ?_) (fun c_18 => ?_)
  · skip
    have r_19 : 14 ≤ u_16.toInt ∧ u_16.toInt ≤ 14 := by have h9_ := hu_16; omega
    refine lv_iconst (v := 0) F.1 F.2.1 dX5_startAs_86 (by decide) ?_
    refine topK (a := 0) (by decide) (fun k_21 hk_21 => ?_)
    refine lv_istore_n (lv' := [(2, .int k_21), (0, .ref a0)]) F.1 F.2.1 dX5_startAs_87 rfl hl (by decide) rfl (fun ls hl => ?_)
    refine wloop (σ := Int32) (fun n9 x9 H locs ls => (4 - x9.toInt + 1).toNat < n9 ∧ (0 ≤ x9.toInt ∧ x9.toInt ≤ 4) ∧ TH E (tbC dA dB (riverD (.inl (a, a)) (.inl (b, b)) (.inl (c, c)) 31 33 35 39 43 47) rB rc rd tp A14F A14F A4F A4F A14F A14F rC rD wd1 wd2 wd3 wd4 ws1 ws2 ws3 ws4 wi1 wi2 wi3 wi4) H ∧ va_S (eA E s.heap.size) s.heap H locs ∧ lv_has ls 3 [(0, .ref a0), (2, .int x9)]) ?_ (fun x9 H locs ls h => absurd h.1 (Nat.not_lt_zero _)) _ (k_21) ⟨Nat.lt_succ_self _, (wkb (eqb hk_21) rfl rfl), hH, hS, lv_sub hl [1, 0] rfl⟩
    intro n_88 ih_88 u_22 H locs ls ⟨hm_88, hu_22, hH, hS, hl⟩
    have hm_88 : (4 - u_22.toInt + 1).toNat < n_88 + 1 := hm_88
    have hu_22 : (0 ≤ u_22.toInt ∧ u_22.toInt ≤ 4) := hu_22
    have hH : TH E (tbC dA dB (riverD (.inl (a, a)) (.inl (b, b)) (.inl (c, c)) 31 33 35 39 43 47) rB rc rd tp A14F A14F A4F A4F A14F A14F rC rD wd1 wd2 wd3 wd4 ws1 ws2 ws3 ws4 wi1 wi2 wi3 wi4) H := hH
    have hl : lv_has ls 3 [(0, .ref a0), (2, .int u_22)] := hl
    refine lv_iload_n F.1 F.2.1 dX5_startAs_88 rfl (lv_at hl 1 rfl) ?_
    refine lv_iconst (v := 4) F.1 F.2.1 dX5_startAs_89 (by decide) ?_
    refine topK (a := 4) (by decide) (fun k_23 hk_23 => ?_)
    refine b_ge (tgt := 121) F dX5_startAs_90 (by decide) (fun c_24 => ?_) (fun c_24 => ?_)
    · skip
      have r_25 : 4 ≤ u_22.toInt ∧ u_22.toInt ≤ 4 := by have h9_ := hu_22; omega
      refine lv_iconst (v := 0) F.1 F.2.1 dX5_startAs_121 (by decide) ?_
      refine topK (a := 0) (by decide) (fun k_27 hk_27 => ?_)
      refine lv_istore_n (lv' := [(2, .int k_27), (0, .ref a0)]) F.1 F.2.1 dX5_startAs_122 rfl hl (by decide) rfl (fun ls hl => ?_)
      refine wloop (σ := Int32) (fun n9 x9 H locs ls => (360 - x9.toInt + 1).toNat < n9 ∧ (0 ≤ x9.toInt ∧ x9.toInt ≤ 360) ∧ TH E (tbC dA dB (riverD (.inl (a, a)) (.inl (b, b)) (.inl (c, c)) 31 33 35 39 43 47) rB rc rd tp A14F A14F A4F A4F A14F A14F rC rD wd1 wd2 wd3 wd4 ws1 ws2 ws3 ws4 wi1 wi2 wi3 wi4) H ∧ va_S (eA E s.heap.size) s.heap H locs ∧ lv_has ls 3 [(0, .ref a0), (2, .int x9)]) ?_ (fun x9 H locs ls h => absurd h.1 (Nat.not_lt_zero _)) _ (k_27) ⟨Nat.lt_succ_self _, (wkb (eqb hk_27) rfl rfl), hH, hS, lv_sub hl [1, 0] rfl⟩
      intro n_123 ih_123 u_28 H locs ls ⟨hm_123, hu_28, hH, hS, hl⟩
      have hm_123 : (360 - u_28.toInt + 1).toNat < n_123 + 1 := hm_123
      have hu_28 : (0 ≤ u_28.toInt ∧ u_28.toInt ≤ 360) := hu_28
      have hH : TH E (tbC dA dB (riverD (.inl (a, a)) (.inl (b, b)) (.inl (c, c)) 31 33 35 39 43 47) rB rc rd tp A14F A14F A4F A4F A14F A14F rC rD wd1 wd2 wd3 wd4 ws1 ws2 ws3 ws4 wi1 wi2 wi3 wi4) H := hH
      have hl : lv_has ls 3 [(0, .ref a0), (2, .int u_28)] := hl
      refine lv_iload_n F.1 F.2.1 dX5_startAs_123 rfl (lv_at hl 1 rfl) ?_
      refine lv_sipush (v := 360) F.1 F.2.1 dX5_startAs_124 (by decide) ?_
      refine topK (a := 360) (by decide) (fun k_29 hk_29 => ?_)
      refine b_ge (tgt := 143) F dX5_startAs_127 (by decide) (fun c_30 => ?_) (fun c_30 => ?_)
      · skip
        have r_31 : 360 ≤ u_28.toInt ∧ u_28.toInt ≤ 360 := by have h9_ := hu_28; omega
        refine lv_iconst (v := 0) F.1 F.2.1 dX5_startAs_143 (by decide) ?_
        refine topK (a := 0) (by decide) (fun k_33 hk_33 => ?_)
        refine lv_istore_n (lv' := [(2, .int k_33), (0, .ref a0)]) F.1 F.2.1 dX5_startAs_144 rfl hl (by decide) rfl (fun ls hl => ?_)
        refine wloop (σ := Int32) (fun n9 x9 H locs ls => (9 - x9.toInt + 1).toNat < n9 ∧ (0 ≤ x9.toInt ∧ x9.toInt ≤ 9) ∧ TH E (tbC dA dB (riverD (.inl (a, a)) (.inl (b, b)) (.inl (c, c)) 31 33 35 39 43 47) rB rc rd tp A14F A14F A4F A4F A14F A14F rC rD wd1 wd2 wd3 wd4 ws1 ws2 ws3 ws4 wi1 wi2 wi3 wi4) H ∧ va_S (eA E s.heap.size) s.heap H locs ∧ lv_has ls 3 [(0, .ref a0), (2, .int x9)]) ?_ (fun x9 H locs ls h => absurd h.1 (Nat.not_lt_zero _)) _ (k_33) ⟨Nat.lt_succ_self _, (wkb (eqb hk_33) rfl rfl), hH, hS, lv_sub hl [1, 0] rfl⟩
        intro n_145 ih_145 u_34 H locs ls ⟨hm_145, hu_34, hH, hS, hl⟩
        have hm_145 : (9 - u_34.toInt + 1).toNat < n_145 + 1 := hm_145
        have hu_34 : (0 ≤ u_34.toInt ∧ u_34.toInt ≤ 9) := hu_34
        have hH : TH E (tbC dA dB (riverD (.inl (a, a)) (.inl (b, b)) (.inl (c, c)) 31 33 35 39 43 47) rB rc rd tp A14F A14F A4F A4F A14F A14F rC rD wd1 wd2 wd3 wd4 ws1 ws2 ws3 ws4 wi1 wi2 wi3 wi4) H := hH
        have hl : lv_has ls 3 [(0, .ref a0), (2, .int u_34)] := hl
        refine lv_iload_n F.1 F.2.1 dX5_startAs_145 rfl (lv_at hl 1 rfl) ?_
        refine lv_bipush (v := 6) F.1 F.2.1 dX5_startAs_146 (by decide) ?_
        refine topK (a := 6) (by decide) (fun k_35 hk_35 => ?_)
        refine b_ge (tgt := 164) F dX5_startAs_148 (by decide) (fun c_36 => ?_) (fun c_36 => ?_)
        · skip
          have r_37 : 6 ≤ u_34.toInt ∧ u_34.toInt ≤ 9 := by have h9_ := hu_34; omega
          exact txV F hS dX5_startAs_164 (hH)
        · skip
          have r_38 : 0 ≤ u_34.toInt ∧ u_34.toInt ≤ 5 := by have h9_ := hu_34; omega
          refine lv_aload_n F.1 F.2.1 dX5_startAs_151 rfl (lv_at hl 0 rfl) ?_
          refine tGetR (j := 12) F hK hH (tyb ha0 (all1 rfl)) rfl (all1 rfl) clX5 (by decide) wd_4_7 dX5_startAs_152 (fun q_39 hq_39 _ => ?_)
          refine lv_iload_n F.1 F.2.1 dX5_startAs_155 rfl (lv_at hl 1 rfl) ?_
          refine lv_lconst (v := 0) F.1 F.2.1 dX5_startAs_156 (by decide) ?_
          refine topKL (a := 0) (by decide) (fun j_40 hj_40 => ?_)
          refine tLast F hK hH hS (tyb hq_39 (all1 rfl)) (ixb (n := 6) r_38 rfl rfl) dX5_startAs_157 (fun H locs hH hS => ?_)
          obtain ⟨x_41, ex_41, hx_41⟩ := iincB (c := 1) (lo := 1) (hi := 6) r_38 rfl
          refine lv_iinc (v := x_41) (lv' := [(2, .int x_41), (0, .ref a0)]) F.1 F.2.1 dX5_startAs_158 hl (k := 1) rfl ex_41 (by decide) rfl (fun ls hl => ?_)
          refine lv_goto (tgt := 145) F.1 F.2.1 dX5_startAs_161 (by decide) ?_
          exact ih_145 (x_41) _ _ _ ⟨(show (9 - x_41.toInt + 1).toNat < n_145 from by omega), (wkb hx_41.2 rfl rfl), hH, hS, lv_sub hl [1, 0] rfl⟩
      · skip
        have r_32 : 0 ≤ u_28.toInt ∧ u_28.toInt ≤ 359 := by have h9_ := hu_28; omega
        refine lv_aload_n F.1 F.2.1 dX5_startAs_130 rfl (lv_at hl 0 rfl) ?_
        refine tGetR (j := 11) F hK hH (tyb ha0 (all1 rfl)) rfl (all1 rfl) clX5 (by decide) wd_4_5 dX5_startAs_131 (fun q_42 hq_42 _ => ?_)
        refine lv_iload_n F.1 F.2.1 dX5_startAs_134 rfl (lv_at hl 1 rfl) ?_
        refine lv_iconst (v := 0) F.1 F.2.1 dX5_startAs_135 (by decide) ?_
        refine topK (a := 0) (by decide) (fun k_43 hk_43 => ?_)
        refine tIastB F hK hH hS (tyb hq_42 (all1 rfl)) (ixb (n := 360) r_32 rfl rfl) (wkb (eqb hk_43) rfl rfl) dX5_startAs_136 (fun H locs hH hS => ?_)
        obtain ⟨x_44, ex_44, hx_44⟩ := iincB (c := 1) (lo := 1) (hi := 360) r_32 rfl
        refine lv_iinc (v := x_44) (lv' := [(2, .int x_44), (0, .ref a0)]) F.1 F.2.1 dX5_startAs_137 hl (k := 1) rfl ex_44 (by decide) rfl (fun ls hl => ?_)
        refine lv_goto (tgt := 123) F.1 F.2.1 dX5_startAs_140 (by decide) ?_
        exact ih_123 (x_44) _ _ _ ⟨(show (360 - x_44.toInt + 1).toNat < n_123 from by omega), (wkb hx_44.2 rfl rfl), hH, hS, lv_sub hl [1, 0] rfl⟩
    · skip
      have r_26 : 0 ≤ u_22.toInt ∧ u_22.toInt ≤ 3 := by have h9_ := hu_22; omega
      refine lv_aload_n F.1 F.2.1 dX5_startAs_93 rfl (lv_at hl 0 rfl) ?_
      refine tGetR (j := 8) F hK hH (tyb ha0 (all1 rfl)) rfl (all1 rfl) clX5 (by decide) wd_4_2 dX5_startAs_94 (fun q_45 hq_45 _ => ?_)
      refine lv_iload_n F.1 F.2.1 dX5_startAs_97 rfl (lv_at hl 1 rfl) ?_
      refine lv_iconst (v := 0) F.1 F.2.1 dX5_startAs_98 (by decide) ?_
      refine topK (a := 0) (by decide) (fun k_46 hk_46 => ?_)
      refine tIastB F hK hH hS (tyb hq_45 (all1 rfl)) (ixb (n := 4) r_26 rfl rfl) (wkb (eqb hk_46) rfl rfl) dX5_startAs_99 (fun H locs hH hS => ?_)
      refine lv_aload_n F.1 F.2.1 dX5_startAs_100 rfl (lv_at hl 0 rfl) ?_
      refine tGetR (j := 9) F hK hH (tyb ha0 (all1 rfl)) rfl (all1 rfl) clX5 (by decide) wd_4_3 dX5_startAs_101 (fun q_47 hq_47 _ => ?_)
      refine lv_iload_n F.1 F.2.1 dX5_startAs_104 rfl (lv_at hl 1 rfl) ?_
      refine lv_bipush (v := (-2)) F.1 F.2.1 dX5_startAs_105 (by decide) ?_
      refine topK (a := (-2)) (by decide) (fun k_48 hk_48 => ?_)
      refine tIastB F hK hH hS (tyb hq_47 (all1 rfl)) (ixb (n := 4) r_26 rfl rfl) (wkb (eqb hk_48) rfl rfl) dX5_startAs_107 (fun H locs hH hS => ?_)
      refine lv_aload_n F.1 F.2.1 dX5_startAs_108 rfl (lv_at hl 0 rfl) ?_
      refine tGetR (j := 10) F hK hH (tyb ha0 (all1 rfl)) rfl (all1 rfl) clX5 (by decide) wd_4_4 dX5_startAs_109 (fun q_49 hq_49 _ => ?_)
      refine lv_iload_n F.1 F.2.1 dX5_startAs_112 rfl (lv_at hl 1 rfl) ?_
      refine lv_iconst (v := 0) F.1 F.2.1 dX5_startAs_113 (by decide) ?_
      refine topK (a := 0) (by decide) (fun k_50 hk_50 => ?_)
      refine tIastB F hK hH hS (tyb hq_49 (all1 rfl)) (ixb (n := 4) r_26 rfl rfl) (wkb (eqb hk_50) rfl rfl) dX5_startAs_114 (fun H locs hH hS => ?_)
      obtain ⟨x_51, ex_51, hx_51⟩ := iincB (c := 1) (lo := 1) (hi := 4) r_26 rfl
      refine lv_iinc (v := x_51) (lv' := [(2, .int x_51), (0, .ref a0)]) F.1 F.2.1 dX5_startAs_115 hl (k := 1) rfl ex_51 (by decide) rfl (fun ls hl => ?_)
      refine lv_goto (tgt := 88) F.1 F.2.1 dX5_startAs_118 (by decide) ?_
      exact ih_88 (x_51) _ _ _ ⟨(show (4 - x_51.toInt + 1).toNat < n_88 from by omega), (wkb hx_51.2 rfl rfl), hH, hS, lv_sub hl [1, 0] rfl⟩
  · skip
    have r_20 : 0 ≤ u_16.toInt ∧ u_16.toInt ≤ 13 := by have h9_ := hu_16; omega
    refine lv_aload_n F.1 F.2.1 dX5_startAs_65 rfl (lv_at hl 0 rfl) ?_
    refine tGetR (j := 6) F hK hH (tyb ha0 (all1 rfl)) rfl (all1 rfl) clX5 (by decide) wd_4_0 dX5_startAs_66 (fun q_52 hq_52 _ => ?_)
    refine lv_iload_n F.1 F.2.1 dX5_startAs_69 rfl (lv_at hl 1 rfl) ?_
    refine lv_bipush (v := (-2)) F.1 F.2.1 dX5_startAs_70 (by decide) ?_
    refine topK (a := (-2)) (by decide) (fun k_53 hk_53 => ?_)
    refine tIastB F hK hH hS (tyb hq_52 (all1 rfl)) (ixb (n := 14) r_20 rfl rfl) (wkb (eqb hk_53) rfl rfl) dX5_startAs_72 (fun H locs hH hS => ?_)
    refine lv_aload_n F.1 F.2.1 dX5_startAs_73 rfl (lv_at hl 0 rfl) ?_
    refine tGetR (j := 7) F hK hH (tyb ha0 (all1 rfl)) rfl (all1 rfl) clX5 (by decide) wd_4_1 dX5_startAs_74 (fun q_54 hq_54 _ => ?_)
    refine lv_iload_n F.1 F.2.1 dX5_startAs_77 rfl (lv_at hl 1 rfl) ?_
    refine lv_iconst (v := 0) F.1 F.2.1 dX5_startAs_78 (by decide) ?_
    refine topK (a := 0) (by decide) (fun k_55 hk_55 => ?_)
    refine tIastB F hK hH hS (tyb hq_54 (all1 rfl)) (ixb (n := 14) r_20 rfl rfl) (wkb (eqb hk_55) rfl rfl) dX5_startAs_79 (fun H locs hH hS => ?_)
    obtain ⟨x_56, ex_56, hx_56⟩ := iincB (c := 1) (lo := 1) (hi := 14) r_20 rfl
    refine lv_iinc (v := x_56) (lv' := [(2, .int x_56), (0, .ref a0)]) F.1 F.2.1 dX5_startAs_80 hl (k := 1) rfl ex_56 (by decide) rfl (fun ls hl => ?_)
    refine lv_goto (tgt := 59) F.1 F.2.1 dX5_startAs_83 (by decide) ?_
    exact ih_59 (x_56) _ _ _ ⟨(show (14 - x_56.toInt + 1).toNat < n_59 from by omega), (wkb hx_56.2 rfl rfl), hH, hS, lv_sub hl [1, 0] rfl⟩
set_option maxHeartbeats 4000000 in
set_option maxRecDepth 100000 in
theorem c_X5_startAs_2 (E : Ev) (dA : TD) (dB : TD) (rA : TD) (rc : TD) (rd : TD) (tp : TD) (rC : TD) (rD : TD) (wd1 : TD) (wd2 : TD) (wd3 : TD) (wd4 : TD) (ws1 : TD) (ws2 : TD) (ws3 : TD) (ws4 : TD) (wi1 : TD) (wi2 : TD) (wi3 : TD) (wi4 : TD) (a : Int) (b : Int) (c : Int) (a0 : Nat) (a1 : Nat) (ha0 : eT E a0 ∈ [17]) (ha1 : eT E a1 ∈ [27]) (ha : 0 ≤ a ∧ a ≤ 12) (hb : 0 ≤ b ∧ b ≤ 14) (hc : 0 ≤ c ∧ c ≤ 4) : TcV E yX5_startAs cX5_startAs 3 ({ frames := 2, cells := 0, slots := 0, locals := 61 }) [.ref a0, .ref a1] (fun H => TH E (tbC dA dB rA (riverD (.inl (a, a)) (.inl (b, b)) (.inl (c, c)) 32 34 36 40 44 48) rc rd tp A14F A14F A4F A4F A14F A14F rC rD wd1 wd2 wd3 wd4 ws1 ws2 ws3 ws4 wi1 wi2 wi3 wi4) H) (fun H => TH E (tbC dA dB rA (riverD (.inl (a, a)) (.inl (b, b)) (.inl (c, c)) 32 34 36 40 44 48) rc rd tp A14F A14F A4F A4F A14F A14F rC rD wd1 wd2 wd3 wd4 ws1 ws2 ws3 ws4 wi1 wi2 wi3 wi4) H) := by
  refine teV (by decide) (Nat.le_of_ble_eq_true rfl) ?_
  intro p_ ev_ s mi_ below_ meth cd_ ls F hK hN hO hH hS hl
  have hH : TH E (tbC dA dB rA (riverD (.inl (a, a)) (.inl (b, b)) (.inl (c, c)) 32 34 36 40 44 48) rc rd tp A14F A14F A4F A4F A14F A14F rC rD wd1 wd2 wd3 wd4 ws1 ws2 ws3 ws4 wi1 wi2 wi3 wi4) s.heap := hH
  have hl : lv_has ls 3 [(0, .ref a0), (1, .ref a1)] := hl
  refine lv_aload_n F.1 F.2.1 dX5_startAs_0 rfl (lv_at hl 0 rfl) ?_
  refine lv_iconst (v := 0) F.1 F.2.1 dX5_startAs_1 (by decide) ?_
  refine topK (a := 0) (by decide) (fun k_1 hk_1 => ?_)
  refine tPut (j := 0) F hK hH hS (tyb ha0 (all1 rfl)) rfl (fdI (wkb (eqb hk_1) rfl rfl)) clX5 (by decide) wd_14_21 rfl rfl rfl rfl dX5_startAs_2 (fun H locs hH hS => ?_)
  refine lv_aload_n F.1 F.2.1 dX5_startAs_5 rfl (lv_at hl 0 rfl) ?_
  refine lv_aload_n F.1 F.2.1 dX5_startAs_6 rfl (lv_at hl 1 rfl) ?_
  refine tGetI (j := 19) F hK hH (tyb ha1 (all1 rfl)) rfl clX2 (by decide) wd_14_22 dX5_startAs_7 (fun z_2 hz_2 => ?_)
  refine tPut (j := 1) F hK hH hS (tyb ha0 (all1 rfl)) rfl (fdI hz_2) clX5 (by decide) wd_3_19 rfl rfl rfl rfl dX5_startAs_10 (fun H locs hH hS => ?_)
  refine lv_aload_n F.1 F.2.1 dX5_startAs_13 rfl (lv_at hl 1 rfl) ?_
  refine tGetR (j := 5) F hK hH (tyb ha1 (all1 rfl)) rfl (all1 rfl) clX2 (by decide) wd_14_23 dX5_startAs_14 (fun q_3 hq_3 _ => ?_)
  refine lv_aload_n F.1 F.2.1 dX5_startAs_17 rfl (lv_at hl 0 rfl) ?_
  refine tGetR (j := 2) F hK hH (tyb ha0 (all1 rfl)) rfl (all1 rfl) clX5 (by decide) wd_3_20 dX5_startAs_18 (fun q_4 hq_4 _ => ?_)
  refine tNv (host := RX6) (As := [.ref q_3, .ref q_4]) (rest := []) F hK hN hO (c_X6_copyRow_A14R E dA dB rA (riverD (.inl (a, a)) (.inl (b, b)) (.inl (c, c)) 32 34 36 40 44 48) rc rd tp A14F A14F A4F A4F A14F A14F rC rD wd1 wd2 wd3 wd4 ws1 ws2 ws3 ws4 wi1 wi2 wi3 wi4 q_3 q_4 hq_3 hq_4) ms_X6_copyRow hN.1.2.2.2.1 ⟨Nat.le_of_ble_eq_true rfl, Nat.le_of_ble_eq_true rfl⟩ ⟨Nat.le_of_ble_eq_true rfl, Nat.le_of_ble_eq_true rfl⟩ hH hS rfl hl.1 (Nat.le_of_ble_eq_true rfl) dX5_startAs_21 (fun H locs hq hS => ?_)
  have hH := hq
  have hH : TH E (tbC dA dB rA (riverD (.inl (a, a)) (.inl (b, b)) (.inl (c, c)) 32 34 36 40 44 48) rc rd tp A14F A14F A4F A4F A14F A14F rC rD wd1 wd2 wd3 wd4 ws1 ws2 ws3 ws4 wi1 wi2 wi3 wi4) H := hH
  refine lv_aload_n F.1 F.2.1 dX5_startAs_24 rfl (lv_at hl 1 rfl) ?_
  refine tGetR (j := 9) F hK hH (tyb ha1 (all1 rfl)) rfl (all1 rfl) clX2 (by decide) wd_15_0 dX5_startAs_25 (fun q_6 hq_6 _ => ?_)
  refine lv_aload_n F.1 F.2.1 dX5_startAs_28 rfl (lv_at hl 0 rfl) ?_
  refine tGetR (j := 3) F hK hH (tyb ha0 (all1 rfl)) rfl (all1 rfl) clX5 (by decide) wd_3_21 dX5_startAs_29 (fun q_7 hq_7 _ => ?_)
  refine tNv (host := RX6) (As := [.ref q_6, .ref q_7]) (rest := []) F hK hN hO (c_X6_copyRow_g E dA dB rA (riverD (.inl (a, a)) (.inl (b, b)) (.inl (c, c)) 32 34 36 40 44 48) rc rd tp rC rD wd1 wd2 wd3 wd4 ws1 ws2 ws3 ws4 wi1 wi2 wi3 wi4 q_6 q_7 (by have h9_ := hq_6; simp at h9_ ⊢; omega) (by have h9_ := hq_7; simp at h9_ ⊢; omega)) ms_X6_copyRow hN.1.2.2.2.1 ⟨Nat.le_of_ble_eq_true rfl, Nat.le_of_ble_eq_true rfl⟩ ⟨Nat.le_of_ble_eq_true rfl, Nat.le_of_ble_eq_true rfl⟩ hH hS rfl hl.1 (Nat.le_of_ble_eq_true rfl) dX5_startAs_32 (fun H locs hq hS => ?_)
  have hH := hq
  have hH : TH E (tbC dA dB rA (riverD (.inl (a, a)) (.inl (b, b)) (.inl (c, c)) 32 34 36 40 44 48) rc rd tp A14F A14F A4F A4F A14F A14F rC rD wd1 wd2 wd3 wd4 ws1 ws2 ws3 ws4 wi1 wi2 wi3 wi4) H := hH
  refine lv_aload_n F.1 F.2.1 dX5_startAs_35 rfl (lv_at hl 1 rfl) ?_
  refine tGetR (j := 6) F hK hH (tyb ha1 (all1 rfl)) rfl (all1 rfl) clX2 (by decide) wd_15_1 dX5_startAs_36 (fun q_9 hq_9 _ => ?_)
  refine lv_aload_n F.1 F.2.1 dX5_startAs_39 rfl (lv_at hl 0 rfl) ?_
  refine tGetR (j := 4) F hK hH (tyb ha0 (all1 rfl)) rfl (all1 rfl) clX5 (by decide) wd_3_22 dX5_startAs_40 (fun q_10 hq_10 _ => ?_)
  refine tNv (host := RX6) (As := [.ref q_9, .ref q_10]) (rest := []) F hK hN hO (c_X6_copyRow_A14F E dA dB rA (riverD (.inl (a, a)) (.inl (b, b)) (.inl (c, c)) 32 34 36 40 44 48) rc rd tp A14F A14F A4F A4F A14F A14F rC rD wd1 wd2 wd3 wd4 ws1 ws2 ws3 ws4 wi1 wi2 wi3 wi4 q_9 q_10 hq_9 hq_10) ms_X6_copyRow hN.1.2.2.2.1 ⟨Nat.le_of_ble_eq_true rfl, Nat.le_of_ble_eq_true rfl⟩ ⟨Nat.le_of_ble_eq_true rfl, Nat.le_of_ble_eq_true rfl⟩ hH hS rfl hl.1 (Nat.le_of_ble_eq_true rfl) dX5_startAs_43 (fun H locs hq hS => ?_)
  have hH := hq
  have hH : TH E (tbC dA dB rA (riverD (.inl (a, a)) (.inl (b, b)) (.inl (c, c)) 32 34 36 40 44 48) rc rd tp A14F A14F A4F A4F A14F A14F rC rD wd1 wd2 wd3 wd4 ws1 ws2 ws3 ws4 wi1 wi2 wi3 wi4) H := hH
  refine lv_aload_n F.1 F.2.1 dX5_startAs_46 rfl (lv_at hl 1 rfl) ?_
  refine tGetR (j := 10) F hK hH (tyb ha1 (all1 rfl)) rfl (all1 rfl) clX2 (by decide) wd_15_2 dX5_startAs_47 (fun q_12 hq_12 _ => ?_)
  refine lv_aload_n F.1 F.2.1 dX5_startAs_50 rfl (lv_at hl 0 rfl) ?_
  refine tGetR (j := 5) F hK hH (tyb ha0 (all1 rfl)) rfl (all1 rfl) clX5 (by decide) wd_3_23 dX5_startAs_51 (fun q_13 hq_13 _ => ?_)
  refine tNv (host := RX6) (As := [.ref q_12, .ref q_13]) (rest := []) F hK hN hO (c_X6_copyRow_A14F E dA dB rA (riverD (.inl (a, a)) (.inl (b, b)) (.inl (c, c)) 32 34 36 40 44 48) rc rd tp A14F A14F A4F A4F A14F A14F rC rD wd1 wd2 wd3 wd4 ws1 ws2 ws3 ws4 wi1 wi2 wi3 wi4 q_12 q_13 hq_12 hq_13) ms_X6_copyRow hN.1.2.2.2.1 ⟨Nat.le_of_ble_eq_true rfl, Nat.le_of_ble_eq_true rfl⟩ ⟨Nat.le_of_ble_eq_true rfl, Nat.le_of_ble_eq_true rfl⟩ hH hS rfl hl.1 (Nat.le_of_ble_eq_true rfl) dX5_startAs_54 (fun H locs hq hS => ?_)
  have hH := hq
  have hH : TH E (tbC dA dB rA (riverD (.inl (a, a)) (.inl (b, b)) (.inl (c, c)) 32 34 36 40 44 48) rc rd tp A14F A14F A4F A4F A14F A14F rC rD wd1 wd2 wd3 wd4 ws1 ws2 ws3 ws4 wi1 wi2 wi3 wi4) H := hH
  refine lv_iconst (v := 0) F.1 F.2.1 dX5_startAs_57 (by decide) ?_
  refine topK (a := 0) (by decide) (fun k_15 hk_15 => ?_)
  refine lv_istore_n (lv' := [(2, .int k_15), (0, .ref a0), (1, .ref a1)]) F.1 F.2.1 dX5_startAs_58 rfl hl (by decide) rfl (fun ls hl => ?_)
  refine wloop (σ := Int32) (fun n9 x9 H locs ls => (14 - x9.toInt + 1).toNat < n9 ∧ (0 ≤ x9.toInt ∧ x9.toInt ≤ 14) ∧ TH E (tbC dA dB rA (riverD (.inl (a, a)) (.inl (b, b)) (.inl (c, c)) 32 34 36 40 44 48) rc rd tp A14F A14F A4F A4F A14F A14F rC rD wd1 wd2 wd3 wd4 ws1 ws2 ws3 ws4 wi1 wi2 wi3 wi4) H ∧ va_S (eA E s.heap.size) s.heap H locs ∧ lv_has ls 3 [(0, .ref a0), (2, .int x9)]) ?_ (fun x9 H locs ls h => absurd h.1 (Nat.not_lt_zero _)) _ (k_15) ⟨Nat.lt_succ_self _, (wkb (eqb hk_15) rfl rfl), hH, hS, lv_sub hl [1, 0] rfl⟩
  intro n_59 ih_59 u_16 H locs ls ⟨hm_59, hu_16, hH, hS, hl⟩
  have hm_59 : (14 - u_16.toInt + 1).toNat < n_59 + 1 := hm_59
  have hu_16 : (0 ≤ u_16.toInt ∧ u_16.toInt ≤ 14) := hu_16
  have hH : TH E (tbC dA dB rA (riverD (.inl (a, a)) (.inl (b, b)) (.inl (c, c)) 32 34 36 40 44 48) rc rd tp A14F A14F A4F A4F A14F A14F rC rD wd1 wd2 wd3 wd4 ws1 ws2 ws3 ws4 wi1 wi2 wi3 wi4) H := hH
  have hl : lv_has ls 3 [(0, .ref a0), (2, .int u_16)] := hl
  refine lv_iload_n F.1 F.2.1 dX5_startAs_59 rfl (lv_at hl 1 rfl) ?_
  refine lv_bipush (v := 14) F.1 F.2.1 dX5_startAs_60 (by decide) ?_
  refine topK (a := 14) (by decide) (fun k_17 hk_17 => ?_)
  refine b_ge (tgt := 86) F dX5_startAs_62 (by decide) (fun c_18 => ?_) (fun c_18 => ?_)
  · skip
    have r_19 : 14 ≤ u_16.toInt ∧ u_16.toInt ≤ 14 := by have h9_ := hu_16; omega
    refine lv_iconst (v := 0) F.1 F.2.1 dX5_startAs_86 (by decide) ?_
    refine topK (a := 0) (by decide) (fun k_21 hk_21 => ?_)
    refine lv_istore_n (lv' := [(2, .int k_21), (0, .ref a0)]) F.1 F.2.1 dX5_startAs_87 rfl hl (by decide) rfl (fun ls hl => ?_)
    refine wloop (σ := Int32) (fun n9 x9 H locs ls => (4 - x9.toInt + 1).toNat < n9 ∧ (0 ≤ x9.toInt ∧ x9.toInt ≤ 4) ∧ TH E (tbC dA dB rA (riverD (.inl (a, a)) (.inl (b, b)) (.inl (c, c)) 32 34 36 40 44 48) rc rd tp A14F A14F A4F A4F A14F A14F rC rD wd1 wd2 wd3 wd4 ws1 ws2 ws3 ws4 wi1 wi2 wi3 wi4) H ∧ va_S (eA E s.heap.size) s.heap H locs ∧ lv_has ls 3 [(0, .ref a0), (2, .int x9)]) ?_ (fun x9 H locs ls h => absurd h.1 (Nat.not_lt_zero _)) _ (k_21) ⟨Nat.lt_succ_self _, (wkb (eqb hk_21) rfl rfl), hH, hS, lv_sub hl [1, 0] rfl⟩
    intro n_88 ih_88 u_22 H locs ls ⟨hm_88, hu_22, hH, hS, hl⟩
    have hm_88 : (4 - u_22.toInt + 1).toNat < n_88 + 1 := hm_88
    have hu_22 : (0 ≤ u_22.toInt ∧ u_22.toInt ≤ 4) := hu_22
    have hH : TH E (tbC dA dB rA (riverD (.inl (a, a)) (.inl (b, b)) (.inl (c, c)) 32 34 36 40 44 48) rc rd tp A14F A14F A4F A4F A14F A14F rC rD wd1 wd2 wd3 wd4 ws1 ws2 ws3 ws4 wi1 wi2 wi3 wi4) H := hH
    have hl : lv_has ls 3 [(0, .ref a0), (2, .int u_22)] := hl
    refine lv_iload_n F.1 F.2.1 dX5_startAs_88 rfl (lv_at hl 1 rfl) ?_
    refine lv_iconst (v := 4) F.1 F.2.1 dX5_startAs_89 (by decide) ?_
    refine topK (a := 4) (by decide) (fun k_23 hk_23 => ?_)
    refine b_ge (tgt := 121) F dX5_startAs_90 (by decide) (fun c_24 => ?_) (fun c_24 => ?_)
    · skip
      have r_25 : 4 ≤ u_22.toInt ∧ u_22.toInt ≤ 4 := by have h9_ := hu_22; omega
      refine lv_iconst (v := 0) F.1 F.2.1 dX5_startAs_121 (by decide) ?_
      refine topK (a := 0) (by decide) (fun k_27 hk_27 => ?_)
      refine lv_istore_n (lv' := [(2, .int k_27), (0, .ref a0)]) F.1 F.2.1 dX5_startAs_122 rfl hl (by decide) rfl (fun ls hl => ?_)
      refine wloop (σ := Int32) (fun n9 x9 H locs ls => (360 - x9.toInt + 1).toNat < n9 ∧ (0 ≤ x9.toInt ∧ x9.toInt ≤ 360) ∧ TH E (tbC dA dB rA (riverD (.inl (a, a)) (.inl (b, b)) (.inl (c, c)) 32 34 36 40 44 48) rc rd tp A14F A14F A4F A4F A14F A14F rC rD wd1 wd2 wd3 wd4 ws1 ws2 ws3 ws4 wi1 wi2 wi3 wi4) H ∧ va_S (eA E s.heap.size) s.heap H locs ∧ lv_has ls 3 [(0, .ref a0), (2, .int x9)]) ?_ (fun x9 H locs ls h => absurd h.1 (Nat.not_lt_zero _)) _ (k_27) ⟨Nat.lt_succ_self _, (wkb (eqb hk_27) rfl rfl), hH, hS, lv_sub hl [1, 0] rfl⟩
      intro n_123 ih_123 u_28 H locs ls ⟨hm_123, hu_28, hH, hS, hl⟩
      have hm_123 : (360 - u_28.toInt + 1).toNat < n_123 + 1 := hm_123
      have hu_28 : (0 ≤ u_28.toInt ∧ u_28.toInt ≤ 360) := hu_28
      have hH : TH E (tbC dA dB rA (riverD (.inl (a, a)) (.inl (b, b)) (.inl (c, c)) 32 34 36 40 44 48) rc rd tp A14F A14F A4F A4F A14F A14F rC rD wd1 wd2 wd3 wd4 ws1 ws2 ws3 ws4 wi1 wi2 wi3 wi4) H := hH
      have hl : lv_has ls 3 [(0, .ref a0), (2, .int u_28)] := hl
      refine lv_iload_n F.1 F.2.1 dX5_startAs_123 rfl (lv_at hl 1 rfl) ?_
      refine lv_sipush (v := 360) F.1 F.2.1 dX5_startAs_124 (by decide) ?_
      refine topK (a := 360) (by decide) (fun k_29 hk_29 => ?_)
      refine b_ge (tgt := 143) F dX5_startAs_127 (by decide) (fun c_30 => ?_) (fun c_30 => ?_)
      · skip
        have r_31 : 360 ≤ u_28.toInt ∧ u_28.toInt ≤ 360 := by have h9_ := hu_28; omega
        refine lv_iconst (v := 0) F.1 F.2.1 dX5_startAs_143 (by decide) ?_
        refine topK (a := 0) (by decide) (fun k_33 hk_33 => ?_)
        refine lv_istore_n (lv' := [(2, .int k_33), (0, .ref a0)]) F.1 F.2.1 dX5_startAs_144 rfl hl (by decide) rfl (fun ls hl => ?_)
        refine wloop (σ := Int32) (fun n9 x9 H locs ls => (9 - x9.toInt + 1).toNat < n9 ∧ (0 ≤ x9.toInt ∧ x9.toInt ≤ 9) ∧ TH E (tbC dA dB rA (riverD (.inl (a, a)) (.inl (b, b)) (.inl (c, c)) 32 34 36 40 44 48) rc rd tp A14F A14F A4F A4F A14F A14F rC rD wd1 wd2 wd3 wd4 ws1 ws2 ws3 ws4 wi1 wi2 wi3 wi4) H ∧ va_S (eA E s.heap.size) s.heap H locs ∧ lv_has ls 3 [(0, .ref a0), (2, .int x9)]) ?_ (fun x9 H locs ls h => absurd h.1 (Nat.not_lt_zero _)) _ (k_33) ⟨Nat.lt_succ_self _, (wkb (eqb hk_33) rfl rfl), hH, hS, lv_sub hl [1, 0] rfl⟩
        intro n_145 ih_145 u_34 H locs ls ⟨hm_145, hu_34, hH, hS, hl⟩
        have hm_145 : (9 - u_34.toInt + 1).toNat < n_145 + 1 := hm_145
        have hu_34 : (0 ≤ u_34.toInt ∧ u_34.toInt ≤ 9) := hu_34
        have hH : TH E (tbC dA dB rA (riverD (.inl (a, a)) (.inl (b, b)) (.inl (c, c)) 32 34 36 40 44 48) rc rd tp A14F A14F A4F A4F A14F A14F rC rD wd1 wd2 wd3 wd4 ws1 ws2 ws3 ws4 wi1 wi2 wi3 wi4) H := hH
        have hl : lv_has ls 3 [(0, .ref a0), (2, .int u_34)] := hl
        refine lv_iload_n F.1 F.2.1 dX5_startAs_145 rfl (lv_at hl 1 rfl) ?_
        refine lv_bipush (v := 6) F.1 F.2.1 dX5_startAs_146 (by decide) ?_
        refine topK (a := 6) (by decide) (fun k_35 hk_35 => ?_)
        refine b_ge (tgt := 164) F dX5_startAs_148 (by decide) (fun c_36 => ?_) (fun c_36 => ?_)
        · skip
          have r_37 : 6 ≤ u_34.toInt ∧ u_34.toInt ≤ 9 := by have h9_ := hu_34; omega
          exact txV F hS dX5_startAs_164 (hH)
        · skip
          have r_38 : 0 ≤ u_34.toInt ∧ u_34.toInt ≤ 5 := by have h9_ := hu_34; omega
          refine lv_aload_n F.1 F.2.1 dX5_startAs_151 rfl (lv_at hl 0 rfl) ?_
          refine tGetR (j := 12) F hK hH (tyb ha0 (all1 rfl)) rfl (all1 rfl) clX5 (by decide) wd_4_7 dX5_startAs_152 (fun q_39 hq_39 _ => ?_)
          refine lv_iload_n F.1 F.2.1 dX5_startAs_155 rfl (lv_at hl 1 rfl) ?_
          refine lv_lconst (v := 0) F.1 F.2.1 dX5_startAs_156 (by decide) ?_
          refine topKL (a := 0) (by decide) (fun j_40 hj_40 => ?_)
          refine tLast F hK hH hS (tyb hq_39 (all1 rfl)) (ixb (n := 6) r_38 rfl rfl) dX5_startAs_157 (fun H locs hH hS => ?_)
          obtain ⟨x_41, ex_41, hx_41⟩ := iincB (c := 1) (lo := 1) (hi := 6) r_38 rfl
          refine lv_iinc (v := x_41) (lv' := [(2, .int x_41), (0, .ref a0)]) F.1 F.2.1 dX5_startAs_158 hl (k := 1) rfl ex_41 (by decide) rfl (fun ls hl => ?_)
          refine lv_goto (tgt := 145) F.1 F.2.1 dX5_startAs_161 (by decide) ?_
          exact ih_145 (x_41) _ _ _ ⟨(show (9 - x_41.toInt + 1).toNat < n_145 from by omega), (wkb hx_41.2 rfl rfl), hH, hS, lv_sub hl [1, 0] rfl⟩
      · skip
        have r_32 : 0 ≤ u_28.toInt ∧ u_28.toInt ≤ 359 := by have h9_ := hu_28; omega
        refine lv_aload_n F.1 F.2.1 dX5_startAs_130 rfl (lv_at hl 0 rfl) ?_
        refine tGetR (j := 11) F hK hH (tyb ha0 (all1 rfl)) rfl (all1 rfl) clX5 (by decide) wd_4_5 dX5_startAs_131 (fun q_42 hq_42 _ => ?_)
        refine lv_iload_n F.1 F.2.1 dX5_startAs_134 rfl (lv_at hl 1 rfl) ?_
        refine lv_iconst (v := 0) F.1 F.2.1 dX5_startAs_135 (by decide) ?_
        refine topK (a := 0) (by decide) (fun k_43 hk_43 => ?_)
        refine tIastB F hK hH hS (tyb hq_42 (all1 rfl)) (ixb (n := 360) r_32 rfl rfl) (wkb (eqb hk_43) rfl rfl) dX5_startAs_136 (fun H locs hH hS => ?_)
        obtain ⟨x_44, ex_44, hx_44⟩ := iincB (c := 1) (lo := 1) (hi := 360) r_32 rfl
        refine lv_iinc (v := x_44) (lv' := [(2, .int x_44), (0, .ref a0)]) F.1 F.2.1 dX5_startAs_137 hl (k := 1) rfl ex_44 (by decide) rfl (fun ls hl => ?_)
        refine lv_goto (tgt := 123) F.1 F.2.1 dX5_startAs_140 (by decide) ?_
        exact ih_123 (x_44) _ _ _ ⟨(show (360 - x_44.toInt + 1).toNat < n_123 from by omega), (wkb hx_44.2 rfl rfl), hH, hS, lv_sub hl [1, 0] rfl⟩
    · skip
      have r_26 : 0 ≤ u_22.toInt ∧ u_22.toInt ≤ 3 := by have h9_ := hu_22; omega
      refine lv_aload_n F.1 F.2.1 dX5_startAs_93 rfl (lv_at hl 0 rfl) ?_
      refine tGetR (j := 8) F hK hH (tyb ha0 (all1 rfl)) rfl (all1 rfl) clX5 (by decide) wd_4_2 dX5_startAs_94 (fun q_45 hq_45 _ => ?_)
      refine lv_iload_n F.1 F.2.1 dX5_startAs_97 rfl (lv_at hl 1 rfl) ?_
      refine lv_iconst (v := 0) F.1 F.2.1 dX5_startAs_98 (by decide) ?_
      refine topK (a := 0) (by decide) (fun k_46 hk_46 => ?_)
      refine tIastB F hK hH hS (tyb hq_45 (all1 rfl)) (ixb (n := 4) r_26 rfl rfl) (wkb (eqb hk_46) rfl rfl) dX5_startAs_99 (fun H locs hH hS => ?_)
      refine lv_aload_n F.1 F.2.1 dX5_startAs_100 rfl (lv_at hl 0 rfl) ?_
      refine tGetR (j := 9) F hK hH (tyb ha0 (all1 rfl)) rfl (all1 rfl) clX5 (by decide) wd_4_3 dX5_startAs_101 (fun q_47 hq_47 _ => ?_)
      refine lv_iload_n F.1 F.2.1 dX5_startAs_104 rfl (lv_at hl 1 rfl) ?_
      refine lv_bipush (v := (-2)) F.1 F.2.1 dX5_startAs_105 (by decide) ?_
      refine topK (a := (-2)) (by decide) (fun k_48 hk_48 => ?_)
      refine tIastB F hK hH hS (tyb hq_47 (all1 rfl)) (ixb (n := 4) r_26 rfl rfl) (wkb (eqb hk_48) rfl rfl) dX5_startAs_107 (fun H locs hH hS => ?_)
      refine lv_aload_n F.1 F.2.1 dX5_startAs_108 rfl (lv_at hl 0 rfl) ?_
      refine tGetR (j := 10) F hK hH (tyb ha0 (all1 rfl)) rfl (all1 rfl) clX5 (by decide) wd_4_4 dX5_startAs_109 (fun q_49 hq_49 _ => ?_)
      refine lv_iload_n F.1 F.2.1 dX5_startAs_112 rfl (lv_at hl 1 rfl) ?_
      refine lv_iconst (v := 0) F.1 F.2.1 dX5_startAs_113 (by decide) ?_
      refine topK (a := 0) (by decide) (fun k_50 hk_50 => ?_)
      refine tIastB F hK hH hS (tyb hq_49 (all1 rfl)) (ixb (n := 4) r_26 rfl rfl) (wkb (eqb hk_50) rfl rfl) dX5_startAs_114 (fun H locs hH hS => ?_)
      obtain ⟨x_51, ex_51, hx_51⟩ := iincB (c := 1) (lo := 1) (hi := 4) r_26 rfl
      refine lv_iinc (v := x_51) (lv' := [(2, .int x_51), (0, .ref a0)]) F.1 F.2.1 dX5_startAs_115 hl (k := 1) rfl ex_51 (by decide) rfl (fun ls hl => ?_)
      refine lv_goto (tgt := 88) F.1 F.2.1 dX5_startAs_118 (by decide) ?_
      exact ih_88 (x_51) _ _ _ ⟨(show (4 - x_51.toInt + 1).toNat < n_88 from by omega), (wkb hx_51.2 rfl rfl), hH, hS, lv_sub hl [1, 0] rfl⟩
  · skip
    have r_20 : 0 ≤ u_16.toInt ∧ u_16.toInt ≤ 13 := by have h9_ := hu_16; omega
    refine lv_aload_n F.1 F.2.1 dX5_startAs_65 rfl (lv_at hl 0 rfl) ?_
    refine tGetR (j := 6) F hK hH (tyb ha0 (all1 rfl)) rfl (all1 rfl) clX5 (by decide) wd_4_0 dX5_startAs_66 (fun q_52 hq_52 _ => ?_)
    refine lv_iload_n F.1 F.2.1 dX5_startAs_69 rfl (lv_at hl 1 rfl) ?_
    refine lv_bipush (v := (-2)) F.1 F.2.1 dX5_startAs_70 (by decide) ?_
    refine topK (a := (-2)) (by decide) (fun k_53 hk_53 => ?_)
    refine tIastB F hK hH hS (tyb hq_52 (all1 rfl)) (ixb (n := 14) r_20 rfl rfl) (wkb (eqb hk_53) rfl rfl) dX5_startAs_72 (fun H locs hH hS => ?_)
    refine lv_aload_n F.1 F.2.1 dX5_startAs_73 rfl (lv_at hl 0 rfl) ?_
    refine tGetR (j := 7) F hK hH (tyb ha0 (all1 rfl)) rfl (all1 rfl) clX5 (by decide) wd_4_1 dX5_startAs_74 (fun q_54 hq_54 _ => ?_)
    refine lv_iload_n F.1 F.2.1 dX5_startAs_77 rfl (lv_at hl 1 rfl) ?_
    refine lv_iconst (v := 0) F.1 F.2.1 dX5_startAs_78 (by decide) ?_
    refine topK (a := 0) (by decide) (fun k_55 hk_55 => ?_)
    refine tIastB F hK hH hS (tyb hq_54 (all1 rfl)) (ixb (n := 14) r_20 rfl rfl) (wkb (eqb hk_55) rfl rfl) dX5_startAs_79 (fun H locs hH hS => ?_)
    obtain ⟨x_56, ex_56, hx_56⟩ := iincB (c := 1) (lo := 1) (hi := 14) r_20 rfl
    refine lv_iinc (v := x_56) (lv' := [(2, .int x_56), (0, .ref a0)]) F.1 F.2.1 dX5_startAs_80 hl (k := 1) rfl ex_56 (by decide) rfl (fun ls hl => ?_)
    refine lv_goto (tgt := 59) F.1 F.2.1 dX5_startAs_83 (by decide) ?_
    exact ih_59 (x_56) _ _ _ ⟨(show (14 - x_56.toInt + 1).toNat < n_59 from by omega), (wkb hx_56.2 rfl rfl), hH, hS, lv_sub hl [1, 0] rfl⟩
set_option maxHeartbeats 4000000 in
set_option maxRecDepth 100000 in
theorem c_X4_put (E : Ev) (dA : TD) (dB : TD) (rc : TD) (rd : TD) (tp : TD) (Fa1 : Int × Int) (Fb1 : Int × Int) (Fa2 : Int × Int) (Fb2 : Int × Int) (Fa3 : Int × Int) (Fb3 : Int × Int) (Fa4 : Int × Int) (Fb4 : Int × Int) (Pd1 : (Nat → Int32) → Prop) (Pd2 : (Nat → Int32) → Prop) (Pd3 : (Nat → Int32) → Prop) (Pd4 : (Nat → Int32) → Prop) (Ps1 : (Nat → Int32) → Prop) (Ps2 : (Nat → Int32) → Prop) (Ps3 : (Nat → Int32) → Prop) (Ps4 : (Nat → Int32) → Prop) (Pi1 : (Nat → Int32) → Prop) (Pi2 : (Nat → Int32) → Prop) (Pi3 : (Nat → Int32) → Prop) (Pi4 : (Nat → Int32) → Prop) (a0 : Nat) (a1 : Int32) (ha0 : eT E a0 ∈ [23]) (hFa1 : 0 ≤ Fa1.1 ∧ Fa1.2 ≤ 12) (hFb1 : 0 ≤ Fb1.1 ∧ Fb1.2 ≤ 14) (hFa2 : 0 ≤ Fa2.1 ∧ Fa2.2 ≤ 12) (hFb2 : 0 ≤ Fb2.1 ∧ Fb2.2 ≤ 14) (hFa3 : 0 ≤ Fa3.1 ∧ Fa3.2 ≤ 12) (hFb3 : 0 ≤ Fb3.1 ∧ Fb3.2 ≤ 14) (hFa4 : 0 ≤ Fa4.1 ∧ Fa4.2 ≤ 12) (hFb4 : 0 ≤ Fb4.1 ∧ Fb4.2 ≤ 14) (hPd1 : ∀ f, Pd1 f → ivP 12 (-2) 11 f) (hPd2 : ∀ f, Pd2 f → ivP 12 (-2) 11 f) (hPd3 : ∀ f, Pd3 f → ivP 12 (-2) 11 f) (hPd4 : ∀ f, Pd4 f → ivP 12 (-2) 11 f) (hPs1 : ∀ f, Ps1 f → ivP 12 (-2147483648) 2147483647 f) (hPs2 : ∀ f, Ps2 f → ivP 12 (-2147483648) 2147483647 f) (hPs3 : ∀ f, Ps3 f → ivP 12 (-2147483648) 2147483647 f) (hPs4 : ∀ f, Ps4 f → ivP 12 (-2147483648) 2147483647 f) (hPi1 : ∀ f, Pi1 f → ivP 48 (-2147483648) 2147483647 f) (hPi2 : ∀ f, Pi2 f → ivP 48 (-2147483648) 2147483647 f) (hPi3 : ∀ f, Pi3 f → ivP 48 (-2147483648) 2147483647 f) (hPi4 : ∀ f, Pi4 f → ivP 48 (-2147483648) 2147483647 f) : TcV E yX4_put cX4_put 2 ({ frames := 1, cells := 0, slots := 0, locals := 40 }) [.ref a0, .int a1] (fun H => TH E (tbC dA dB (riverD (.inl Fa1) (.inl Fb1) (.inl (0, 4)) 31 33 35 39 43 47) (riverD (.inl Fa2) (.inl Fb2) (.inl (0, 4)) 32 34 36 40 44 48) rc rd tp A14F A14F A4F A4F A14F A14F (riverD (.inl Fa3) (.inl Fb3) (.inl (0, 4)) 3 8 3 41 45 49) (riverD (.inl Fa4) (.inl Fb4) (.inl (0, 4)) 3 8 3 42 46 50) ((.inr (.inl (0, 12, Pd1)))) ((.inr (.inl (0, 12, Pd2)))) ((.inr (.inl (0, 12, Pd3)))) ((.inr (.inl (0, 12, Pd4)))) ((.inr (.inl (0, 12, Ps1)))) ((.inr (.inl (0, 12, Ps2)))) ((.inr (.inl (0, 12, Ps3)))) ((.inr (.inl (0, 12, Ps4)))) ((.inr (.inl (0, 48, Pi1)))) ((.inr (.inl (0, 48, Pi2)))) ((.inr (.inl (0, 48, Pi3)))) ((.inr (.inl (0, 48, Pi4))))) H) (fun H => TH E (tbC dA dB (riverD (.inl Fa1) (.inl Fb1) (.inl (0, 4)) 31 33 35 39 43 47) (riverD (.inl Fa2) (.inl Fb2) (.inl (0, 4)) 32 34 36 40 44 48) rc rd tp A14F A14F A4F A4F A14F A14F (riverD (.inl Fa3) (.inl Fb3) (.inl (0, 4)) 3 8 3 41 45 49) (riverD (.inl Fa4) (.inl Fb4) (.inl (0, 4)) 3 8 3 42 46 50) ((.inr (.inl (0, 12, Pd1)))) ((.inr (.inl (0, 12, Pd2)))) ((.inr (.inl (0, 12, Pd3)))) ((.inr (.inl (0, 12, Pd4)))) ((.inr (.inl (0, 12, Ps1)))) ((.inr (.inl (0, 12, Ps2)))) ((.inr (.inl (0, 12, Ps3)))) ((.inr (.inl (0, 12, Ps4)))) ((.inr (.inl (0, 48, Pi1)))) ((.inr (.inl (0, 48, Pi2)))) ((.inr (.inl (0, 48, Pi3)))) ((.inr (.inl (0, 48, Pi4))))) H) := by
  refine teV (by decide) (Nat.le_of_ble_eq_true rfl) ?_
  intro p_ ev_ s mi_ below_ meth cd_ ls F hK hN hO hH hS hl
  have hH : TH E (tbC dA dB (riverD (.inl Fa1) (.inl Fb1) (.inl (0, 4)) 31 33 35 39 43 47) (riverD (.inl Fa2) (.inl Fb2) (.inl (0, 4)) 32 34 36 40 44 48) rc rd tp A14F A14F A4F A4F A14F A14F (riverD (.inl Fa3) (.inl Fb3) (.inl (0, 4)) 3 8 3 41 45 49) (riverD (.inl Fa4) (.inl Fb4) (.inl (0, 4)) 3 8 3 42 46 50) ((.inr (.inl (0, 12, Pd1)))) ((.inr (.inl (0, 12, Pd2)))) ((.inr (.inl (0, 12, Pd3)))) ((.inr (.inl (0, 12, Pd4)))) ((.inr (.inl (0, 12, Ps1)))) ((.inr (.inl (0, 12, Ps2)))) ((.inr (.inl (0, 12, Ps3)))) ((.inr (.inl (0, 12, Ps4)))) ((.inr (.inl (0, 48, Pi1)))) ((.inr (.inl (0, 48, Pi2)))) ((.inr (.inl (0, 48, Pi3)))) ((.inr (.inl (0, 48, Pi4))))) s.heap := hH
  have hl : lv_has ls 2 [(0, .ref a0), (1, .int a1)] := hl
  refine lv_aload_n F.1 F.2.1 dX4_put_0 rfl (lv_at hl 0 rfl) ?_
  refine tGetI (j := 3) F hK hH (tyb ha0 (all1 rfl)) rfl clX4 (by decide) wd_52_23 dX4_put_1 (fun z_1 hz_1 => ?_)
  refine lv_aload_n F.1 F.2.1 dX4_put_4 rfl (lv_at hl 0 rfl) ?_
  refine tGetI (j := 2) F hK hH (tyb ha0 (all1 rfl)) rfl clX4 (by decide) wd_52_22 dX4_put_5 (fun z_2 hz_2 => ?_)
  refine wjoin (σ := Unit) (pcj := 16) (stj := fun x9 => []) (fun x9 H locs ls => TH E (tbC dA dB (riverD (.inl Fa1) (.inl Fb1) (.inl (0, 4)) 31 33 35 39 43 47) (riverD (.inl Fa2) (.inl Fb2) (.inl (0, 4)) 32 34 36 40 44 48) rc rd tp A14F A14F A4F A4F A14F A14F (riverD (.inl Fa3) (.inl Fb3) (.inl (0, 4)) 3 8 3 41 45 49) (riverD (.inl Fa4) (.inl Fb4) (.inl (0, 4)) 3 8 3 42 46 50) ((.inr (.inl (0, 12, Pd1)))) ((.inr (.inl (0, 12, Pd2)))) ((.inr (.inl (0, 12, Pd3)))) ((.inr (.inl (0, 12, Pd4)))) ((.inr (.inl (0, 12, Ps1)))) ((.inr (.inl (0, 12, Ps2)))) ((.inr (.inl (0, 12, Ps3)))) ((.inr (.inl (0, 12, Ps4)))) ((.inr (.inl (0, 48, Pi1)))) ((.inr (.inl (0, 48, Pi2)))) ((.inr (.inl (0, 48, Pi3)))) ((.inr (.inl (0, 48, Pi4))))) H ∧ va_S (eA E s.heap.size) s.heap H locs ∧ lv_has ls 2 [(0, .ref a0)]) (fun x9 H locs ls h_ => ?_) (fun J_16 => ?_)
  · skip
    obtain ⟨hH, hS, hl⟩ := h_
    have hH : TH E (tbC dA dB (riverD (.inl Fa1) (.inl Fb1) (.inl (0, 4)) 31 33 35 39 43 47) (riverD (.inl Fa2) (.inl Fb2) (.inl (0, 4)) 32 34 36 40 44 48) rc rd tp A14F A14F A4F A4F A14F A14F (riverD (.inl Fa3) (.inl Fb3) (.inl (0, 4)) 3 8 3 41 45 49) (riverD (.inl Fa4) (.inl Fb4) (.inl (0, 4)) 3 8 3 42 46 50) ((.inr (.inl (0, 12, Pd1)))) ((.inr (.inl (0, 12, Pd2)))) ((.inr (.inl (0, 12, Pd3)))) ((.inr (.inl (0, 12, Pd4)))) ((.inr (.inl (0, 12, Ps1)))) ((.inr (.inl (0, 12, Ps2)))) ((.inr (.inl (0, 12, Ps3)))) ((.inr (.inl (0, 12, Ps4)))) ((.inr (.inl (0, 48, Pi1)))) ((.inr (.inl (0, 48, Pi2)))) ((.inr (.inl (0, 48, Pi3)))) ((.inr (.inl (0, 48, Pi4))))) H := hH
    have hl : lv_has ls 2 [(0, .ref a0)] := hl
    show W _ _ _ _ _ _ _ _ _ _ _ _ _ _ _ (F0 _ _ _ [])
    refine lv_aload_n F.1 F.2.1 dX4_put_16 rfl (lv_at hl 0 rfl) ?_
    refine lv_dup F.1 F.2.1 dX4_put_17 rfl ?_
    refine tGetI (j := 3) F hK hH (tyb ha0 (all1 rfl)) rfl clX4 (by decide) wd_52_23 dX4_put_18 (fun z_3 hz_3 => ?_)
    refine lv_iconst (v := 1) F.1 F.2.1 dX4_put_21 (by decide) ?_
    refine topK (a := 1) (by decide) (fun k_4 hk_4 => ?_)
    refine lv_iadd F.1 F.2.1 dX4_put_22 ?_
    refine topF (fun z_5 => ?_)
    refine tPut (j := 3) F hK hH hS (tyb ha0 (all1 rfl)) rfl (fdI (i32b _)) clX4 (by decide) wd_52_23 rfl rfl rfl rfl dX4_put_23 (fun H locs hH hS => ?_)
    exact txV F hS dX4_put_26 (hH)
  refine b_ne (tgt := 16) F dX4_put_8 (by decide) (fun c_6 => ?_) (fun c_6 => ?_)
  · skip
    exact J_16 () _ _ _ ⟨hH, hS, lv_sub hl [0] rfl⟩
  · skip
    refine lv_aload_n F.1 F.2.1 dX4_put_11 rfl (lv_at hl 0 rfl) ?_
    refine lv_iload_n F.1 F.2.1 dX4_put_12 rfl (lv_at hl 1 rfl) ?_
    refine tPut (j := 4) F hK hH hS (tyb ha0 (all1 rfl)) rfl (fdI (i32b _)) clX4 (by decide) wd_53_0 rfl rfl rfl rfl dX4_put_13 (fun H locs hH hS => ?_)
    exact J_16 () _ _ _ ⟨hH, hS, lv_sub hl [0] rfl⟩
set_option maxHeartbeats 4000000 in
set_option maxRecDepth 100000 in
theorem c_X4_putWord (E : Ev) (dA : TD) (dB : TD) (rc : TD) (rd : TD) (tp : TD) (Fa1 : Int × Int) (Fb1 : Int × Int) (Fa2 : Int × Int) (Fb2 : Int × Int) (Fa3 : Int × Int) (Fb3 : Int × Int) (Fa4 : Int × Int) (Fb4 : Int × Int) (Pd1 : (Nat → Int32) → Prop) (Pd2 : (Nat → Int32) → Prop) (Pd3 : (Nat → Int32) → Prop) (Pd4 : (Nat → Int32) → Prop) (Ps1 : (Nat → Int32) → Prop) (Ps2 : (Nat → Int32) → Prop) (Ps3 : (Nat → Int32) → Prop) (Ps4 : (Nat → Int32) → Prop) (Pi1 : (Nat → Int32) → Prop) (Pi2 : (Nat → Int32) → Prop) (Pi3 : (Nat → Int32) → Prop) (Pi4 : (Nat → Int32) → Prop) (a0 : Nat) (t1 n1 : Nat) (ha0 : eT E a0 ∈ [23]) (ha1 : strOf t1 n1) (hFa1 : 0 ≤ Fa1.1 ∧ Fa1.2 ≤ 12) (hFb1 : 0 ≤ Fb1.1 ∧ Fb1.2 ≤ 14) (hFa2 : 0 ≤ Fa2.1 ∧ Fa2.2 ≤ 12) (hFb2 : 0 ≤ Fb2.1 ∧ Fb2.2 ≤ 14) (hFa3 : 0 ≤ Fa3.1 ∧ Fa3.2 ≤ 12) (hFb3 : 0 ≤ Fb3.1 ∧ Fb3.2 ≤ 14) (hFa4 : 0 ≤ Fa4.1 ∧ Fa4.2 ≤ 12) (hFb4 : 0 ≤ Fb4.1 ∧ Fb4.2 ≤ 14) (hPd1 : ∀ f, Pd1 f → ivP 12 (-2) 11 f) (hPd2 : ∀ f, Pd2 f → ivP 12 (-2) 11 f) (hPd3 : ∀ f, Pd3 f → ivP 12 (-2) 11 f) (hPd4 : ∀ f, Pd4 f → ivP 12 (-2) 11 f) (hPs1 : ∀ f, Ps1 f → ivP 12 (-2147483648) 2147483647 f) (hPs2 : ∀ f, Ps2 f → ivP 12 (-2147483648) 2147483647 f) (hPs3 : ∀ f, Ps3 f → ivP 12 (-2147483648) 2147483647 f) (hPs4 : ∀ f, Ps4 f → ivP 12 (-2147483648) 2147483647 f) (hPi1 : ∀ f, Pi1 f → ivP 48 (-2147483648) 2147483647 f) (hPi2 : ∀ f, Pi2 f → ivP 48 (-2147483648) 2147483647 f) (hPi3 : ∀ f, Pi3 f → ivP 48 (-2147483648) 2147483647 f) (hPi4 : ∀ f, Pi4 f → ivP 48 (-2147483648) 2147483647 f) : TcV E yX4_putWord cX4_putWord 3 ({ frames := 5, cells := 0, slots := 0, locals := 181 }) [.ref a0, .ref (eX E t1)] (fun H => TH E (tbC dA dB (riverD (.inl Fa1) (.inl Fb1) (.inl (0, 4)) 31 33 35 39 43 47) (riverD (.inl Fa2) (.inl Fb2) (.inl (0, 4)) 32 34 36 40 44 48) rc rd tp A14F A14F A4F A4F A14F A14F (riverD (.inl Fa3) (.inl Fb3) (.inl (0, 4)) 3 8 3 41 45 49) (riverD (.inl Fa4) (.inl Fb4) (.inl (0, 4)) 3 8 3 42 46 50) ((.inr (.inl (0, 12, Pd1)))) ((.inr (.inl (0, 12, Pd2)))) ((.inr (.inl (0, 12, Pd3)))) ((.inr (.inl (0, 12, Pd4)))) ((.inr (.inl (0, 12, Ps1)))) ((.inr (.inl (0, 12, Ps2)))) ((.inr (.inl (0, 12, Ps3)))) ((.inr (.inl (0, 12, Ps4)))) ((.inr (.inl (0, 48, Pi1)))) ((.inr (.inl (0, 48, Pi2)))) ((.inr (.inl (0, 48, Pi3)))) ((.inr (.inl (0, 48, Pi4))))) H) (fun H => TH E (tbC dA dB (riverD (.inl Fa1) (.inl Fb1) (.inl (0, 4)) 31 33 35 39 43 47) (riverD (.inl Fa2) (.inl Fb2) (.inl (0, 4)) 32 34 36 40 44 48) rc rd tp A14F A14F A4F A4F A14F A14F (riverD (.inl Fa3) (.inl Fb3) (.inl (0, 4)) 3 8 3 41 45 49) (riverD (.inl Fa4) (.inl Fb4) (.inl (0, 4)) 3 8 3 42 46 50) ((.inr (.inl (0, 12, Pd1)))) ((.inr (.inl (0, 12, Pd2)))) ((.inr (.inl (0, 12, Pd3)))) ((.inr (.inl (0, 12, Pd4)))) ((.inr (.inl (0, 12, Ps1)))) ((.inr (.inl (0, 12, Ps2)))) ((.inr (.inl (0, 12, Ps3)))) ((.inr (.inl (0, 12, Ps4)))) ((.inr (.inl (0, 48, Pi1)))) ((.inr (.inl (0, 48, Pi2)))) ((.inr (.inl (0, 48, Pi3)))) ((.inr (.inl (0, 48, Pi4))))) H) := by
  refine teV (by decide) (Nat.le_of_ble_eq_true rfl) ?_
  intro p_ ev_ s mi_ below_ meth cd_ ls F hK hN hO hH hS hl
  have hH : TH E (tbC dA dB (riverD (.inl Fa1) (.inl Fb1) (.inl (0, 4)) 31 33 35 39 43 47) (riverD (.inl Fa2) (.inl Fb2) (.inl (0, 4)) 32 34 36 40 44 48) rc rd tp A14F A14F A4F A4F A14F A14F (riverD (.inl Fa3) (.inl Fb3) (.inl (0, 4)) 3 8 3 41 45 49) (riverD (.inl Fa4) (.inl Fb4) (.inl (0, 4)) 3 8 3 42 46 50) ((.inr (.inl (0, 12, Pd1)))) ((.inr (.inl (0, 12, Pd2)))) ((.inr (.inl (0, 12, Pd3)))) ((.inr (.inl (0, 12, Pd4)))) ((.inr (.inl (0, 12, Ps1)))) ((.inr (.inl (0, 12, Ps2)))) ((.inr (.inl (0, 12, Ps3)))) ((.inr (.inl (0, 12, Ps4)))) ((.inr (.inl (0, 48, Pi1)))) ((.inr (.inl (0, 48, Pi2)))) ((.inr (.inl (0, 48, Pi3)))) ((.inr (.inl (0, 48, Pi4))))) s.heap := hH
  have hl : lv_has ls 3 [(0, .ref a0), (1, .ref (eX E t1))] := hl
  refine lv_iconst (v := 0) F.1 F.2.1 dX4_putWord_0 (by decide) ?_
  refine topK (a := 0) (by decide) (fun k_1 hk_1 => ?_)
  refine lv_istore_n (lv' := [(2, .int k_1), (0, .ref a0), (1, .ref (eX E t1))]) F.1 F.2.1 dX4_putWord_1 rfl hl (by decide) rfl (fun ls hl => ?_)
  refine wloop (σ := Int32) (fun n9 x9 H locs ls => (9 - x9.toInt + 1).toNat < n9 ∧ (0 ≤ x9.toInt ∧ x9.toInt ≤ 9) ∧ TH E (tbC dA dB (riverD (.inl Fa1) (.inl Fb1) (.inl (0, 4)) 31 33 35 39 43 47) (riverD (.inl Fa2) (.inl Fb2) (.inl (0, 4)) 32 34 36 40 44 48) rc rd tp A14F A14F A4F A4F A14F A14F (riverD (.inl Fa3) (.inl Fb3) (.inl (0, 4)) 3 8 3 41 45 49) (riverD (.inl Fa4) (.inl Fb4) (.inl (0, 4)) 3 8 3 42 46 50) ((.inr (.inl (0, 12, Pd1)))) ((.inr (.inl (0, 12, Pd2)))) ((.inr (.inl (0, 12, Pd3)))) ((.inr (.inl (0, 12, Pd4)))) ((.inr (.inl (0, 12, Ps1)))) ((.inr (.inl (0, 12, Ps2)))) ((.inr (.inl (0, 12, Ps3)))) ((.inr (.inl (0, 12, Ps4)))) ((.inr (.inl (0, 48, Pi1)))) ((.inr (.inl (0, 48, Pi2)))) ((.inr (.inl (0, 48, Pi3)))) ((.inr (.inl (0, 48, Pi4))))) H ∧ va_S (eA E s.heap.size) s.heap H locs ∧ lv_has ls 3 [(0, .ref a0), (1, .ref (eX E t1)), (2, .int x9)]) ?_ (fun x9 H locs ls h => absurd h.1 (Nat.not_lt_zero _)) _ (k_1) ⟨Nat.lt_succ_self _, (wkb (eqb hk_1) rfl rfl), hH, hS, lv_sub hl [1, 2, 0] rfl⟩
  intro n_2 ih_2 u_2 H locs ls ⟨hm_2, hu_2, hH, hS, hl⟩
  have hm_2 : (9 - u_2.toInt + 1).toNat < n_2 + 1 := hm_2
  have hu_2 : (0 ≤ u_2.toInt ∧ u_2.toInt ≤ 9) := hu_2
  have hH : TH E (tbC dA dB (riverD (.inl Fa1) (.inl Fb1) (.inl (0, 4)) 31 33 35 39 43 47) (riverD (.inl Fa2) (.inl Fb2) (.inl (0, 4)) 32 34 36 40 44 48) rc rd tp A14F A14F A4F A4F A14F A14F (riverD (.inl Fa3) (.inl Fb3) (.inl (0, 4)) 3 8 3 41 45 49) (riverD (.inl Fa4) (.inl Fb4) (.inl (0, 4)) 3 8 3 42 46 50) ((.inr (.inl (0, 12, Pd1)))) ((.inr (.inl (0, 12, Pd2)))) ((.inr (.inl (0, 12, Pd3)))) ((.inr (.inl (0, 12, Pd4)))) ((.inr (.inl (0, 12, Ps1)))) ((.inr (.inl (0, 12, Ps2)))) ((.inr (.inl (0, 12, Ps3)))) ((.inr (.inl (0, 12, Ps4)))) ((.inr (.inl (0, 48, Pi1)))) ((.inr (.inl (0, 48, Pi2)))) ((.inr (.inl (0, 48, Pi3)))) ((.inr (.inl (0, 48, Pi4))))) H := hH
  have hl : lv_has ls 3 [(0, .ref a0), (1, .ref (eX E t1)), (2, .int u_2)] := hl
  refine lv_iload_n F.1 F.2.1 dX4_putWord_2 rfl (lv_at hl 2 rfl) ?_
  refine lv_aload_n F.1 F.2.1 dX4_putWord_3 rfl (lv_at hl 1 rfl) ?_
  refine tVi (b := (eX E t1)) (As := []) (rest := [.int u_2]) F hK hN hO (c_len E (fun H => TH E (tbC dA dB (riverD (.inl Fa1) (.inl Fb1) (.inl (0, 4)) 31 33 35 39 43 47) (riverD (.inl Fa2) (.inl Fb2) (.inl (0, 4)) 32 34 36 40 44 48) rc rd tp A14F A14F A4F A4F A14F A14F (riverD (.inl Fa3) (.inl Fb3) (.inl (0, 4)) 3 8 3 41 45 49) (riverD (.inl Fa4) (.inl Fb4) (.inl (0, 4)) 3 8 3 42 46 50) ((.inr (.inl (0, 12, Pd1)))) ((.inr (.inl (0, 12, Pd2)))) ((.inr (.inl (0, 12, Pd3)))) ((.inr (.inl (0, 12, Pd4)))) ((.inr (.inl (0, 12, Ps1)))) ((.inr (.inl (0, 12, Ps2)))) ((.inr (.inl (0, 12, Ps3)))) ((.inr (.inl (0, 12, Ps4)))) ((.inr (.inl (0, 48, Pi1)))) ((.inr (.inl (0, 48, Pi2)))) ((.inr (.inl (0, 48, Pi3)))) ((.inr (.inl (0, 48, Pi4))))) H) t1 n1 ha1) mv_J0_length_8abf5 wd_54_0 ⟨Nat.le_of_ble_eq_true rfl, Nat.le_of_ble_eq_true rfl⟩ ⟨Nat.le_of_ble_eq_true rfl, Nat.le_of_ble_eq_true rfl⟩ hH hS (sRecvS hO ha1 hS) rfl hl.1 (Nat.le_of_ble_eq_true rfl) dX4_putWord_4 (fun z_3 H locs hq hS => ?_)
  obtain ⟨hz_3, hH⟩ := hq
  have hH : TH E (tbC dA dB (riverD (.inl Fa1) (.inl Fb1) (.inl (0, 4)) 31 33 35 39 43 47) (riverD (.inl Fa2) (.inl Fb2) (.inl (0, 4)) 32 34 36 40 44 48) rc rd tp A14F A14F A4F A4F A14F A14F (riverD (.inl Fa3) (.inl Fb3) (.inl (0, 4)) 3 8 3 41 45 49) (riverD (.inl Fa4) (.inl Fb4) (.inl (0, 4)) 3 8 3 42 46 50) ((.inr (.inl (0, 12, Pd1)))) ((.inr (.inl (0, 12, Pd2)))) ((.inr (.inl (0, 12, Pd3)))) ((.inr (.inl (0, 12, Pd4)))) ((.inr (.inl (0, 12, Ps1)))) ((.inr (.inl (0, 12, Ps2)))) ((.inr (.inl (0, 12, Ps3)))) ((.inr (.inl (0, 12, Ps4)))) ((.inr (.inl (0, 48, Pi1)))) ((.inr (.inl (0, 48, Pi2)))) ((.inr (.inl (0, 48, Pi3)))) ((.inr (.inl (0, 48, Pi4))))) H := hH
  have ez_3 : 3 ≤ z_3.toInt ∧ z_3.toInt ≤ 6 := by have h9_ := strLe ha1; omega
  refine b_ge (tgt := 25) F dX4_putWord_7 (by decide) (fun c_4 => ?_) (fun c_4 => ?_)
  · skip
    have r_5 : 3 ≤ u_2.toInt ∧ u_2.toInt ≤ 9 := by have h9_ := hu_2; omega
    exact txV F hS dX4_putWord_25 (hH)
  · skip
    have r_6 : 0 ≤ u_2.toInt ∧ u_2.toInt ≤ 5 := by have h9_ := hu_2; omega
    refine lv_aload_n F.1 F.2.1 dX4_putWord_10 rfl (lv_at hl 0 rfl) ?_
    refine lv_aload_n F.1 F.2.1 dX4_putWord_11 rfl (lv_at hl 1 rfl) ?_
    refine lv_iload_n F.1 F.2.1 dX4_putWord_12 rfl (lv_at hl 2 rfl) ?_
    refine tVi (b := (eX E t1)) (As := [.int u_2]) (rest := [.ref a0]) F hK hN hO (c_chr E (fun H => TH E (tbC dA dB (riverD (.inl Fa1) (.inl Fb1) (.inl (0, 4)) 31 33 35 39 43 47) (riverD (.inl Fa2) (.inl Fb2) (.inl (0, 4)) 32 34 36 40 44 48) rc rd tp A14F A14F A4F A4F A14F A14F (riverD (.inl Fa3) (.inl Fb3) (.inl (0, 4)) 3 8 3 41 45 49) (riverD (.inl Fa4) (.inl Fb4) (.inl (0, 4)) 3 8 3 42 46 50) ((.inr (.inl (0, 12, Pd1)))) ((.inr (.inl (0, 12, Pd2)))) ((.inr (.inl (0, 12, Pd3)))) ((.inr (.inl (0, 12, Pd4)))) ((.inr (.inl (0, 12, Ps1)))) ((.inr (.inl (0, 12, Ps2)))) ((.inr (.inl (0, 12, Ps3)))) ((.inr (.inl (0, 12, Ps4)))) ((.inr (.inl (0, 48, Pi1)))) ((.inr (.inl (0, 48, Pi2)))) ((.inr (.inl (0, 48, Pi3)))) ((.inr (.inl (0, 48, Pi4))))) H) t1 n1 ha1 u_2 (by omega) (by omega)) mv_J0_charAt_5068e wd_54_1 ⟨Nat.le_of_ble_eq_true rfl, Nat.le_of_ble_eq_true rfl⟩ ⟨Nat.le_of_ble_eq_true rfl, Nat.le_of_ble_eq_true rfl⟩ hH hS (sRecvS hO ha1 hS) rfl hl.1 (Nat.le_of_ble_eq_true rfl) dX4_putWord_13 (fun z_7 H locs hq hS => ?_)
    obtain ⟨hz_7, hH⟩ := hq
    have hH : TH E (tbC dA dB (riverD (.inl Fa1) (.inl Fb1) (.inl (0, 4)) 31 33 35 39 43 47) (riverD (.inl Fa2) (.inl Fb2) (.inl (0, 4)) 32 34 36 40 44 48) rc rd tp A14F A14F A4F A4F A14F A14F (riverD (.inl Fa3) (.inl Fb3) (.inl (0, 4)) 3 8 3 41 45 49) (riverD (.inl Fa4) (.inl Fb4) (.inl (0, 4)) 3 8 3 42 46 50) ((.inr (.inl (0, 12, Pd1)))) ((.inr (.inl (0, 12, Pd2)))) ((.inr (.inl (0, 12, Pd3)))) ((.inr (.inl (0, 12, Pd4)))) ((.inr (.inl (0, 12, Ps1)))) ((.inr (.inl (0, 12, Ps2)))) ((.inr (.inl (0, 12, Ps3)))) ((.inr (.inl (0, 12, Ps4)))) ((.inr (.inl (0, 48, Pi1)))) ((.inr (.inl (0, 48, Pi2)))) ((.inr (.inl (0, 48, Pi3)))) ((.inr (.inl (0, 48, Pi4))))) H := hH
    have kz_7 := hz_7.2
    have hz_7 := hz_7.1
    refine tVv (b := a0) (As := [.int z_7]) (rest := []) F hK hN hO (c_X4_put E dA dB rc rd tp Fa1 Fb1 Fa2 Fb2 Fa3 Fb3 Fa4 Fb4 Pd1 Pd2 Pd3 Pd4 Ps1 Ps2 Ps3 Ps4 Pi1 Pi2 Pi3 Pi4 a0 z_7 ha0 hFa1 hFb1 hFa2 hFb2 hFa3 hFb3 hFa4 hFb4 hPd1 hPd2 hPd3 hPd4 hPs1 hPs2 hPs3 hPs4 hPi1 hPi2 hPi3 hPi4) mv_X4_put wd_53_16 ⟨Nat.le_of_ble_eq_true rfl, Nat.le_of_ble_eq_true rfl⟩ ⟨Nat.le_of_ble_eq_true rfl, Nat.le_of_ble_eq_true rfl⟩ hH hS (tRecv hK hH (tyb ha0 (all1 rfl)) clX4) rfl hl.1 (Nat.le_of_ble_eq_true rfl) dX4_putWord_16 (fun H locs hq hS => ?_)
    have hH := hq
    have hH : TH E (tbC dA dB (riverD (.inl Fa1) (.inl Fb1) (.inl (0, 4)) 31 33 35 39 43 47) (riverD (.inl Fa2) (.inl Fb2) (.inl (0, 4)) 32 34 36 40 44 48) rc rd tp A14F A14F A4F A4F A14F A14F (riverD (.inl Fa3) (.inl Fb3) (.inl (0, 4)) 3 8 3 41 45 49) (riverD (.inl Fa4) (.inl Fb4) (.inl (0, 4)) 3 8 3 42 46 50) ((.inr (.inl (0, 12, Pd1)))) ((.inr (.inl (0, 12, Pd2)))) ((.inr (.inl (0, 12, Pd3)))) ((.inr (.inl (0, 12, Pd4)))) ((.inr (.inl (0, 12, Ps1)))) ((.inr (.inl (0, 12, Ps2)))) ((.inr (.inl (0, 12, Ps3)))) ((.inr (.inl (0, 12, Ps4)))) ((.inr (.inl (0, 48, Pi1)))) ((.inr (.inl (0, 48, Pi2)))) ((.inr (.inl (0, 48, Pi3)))) ((.inr (.inl (0, 48, Pi4))))) H := hH
    obtain ⟨x_9, ex_9, hx_9⟩ := iincB (c := 1) (lo := 1) (hi := 6) r_6 rfl
    refine lv_iinc (v := x_9) (lv' := [(2, .int x_9), (0, .ref a0), (1, .ref (eX E t1))]) F.1 F.2.1 dX4_putWord_19 hl (k := 2) rfl ex_9 (by decide) rfl (fun ls hl => ?_)
    refine lv_goto (tgt := 2) F.1 F.2.1 dX4_putWord_22 (by decide) ?_
    exact ih_2 (x_9) _ _ _ ⟨(show (9 - x_9.toInt + 1).toNat < n_2 from by omega), (wkb hx_9.2 rfl rfl), hH, hS, lv_sub hl [1, 2, 0] rfl⟩
set_option maxHeartbeats 4000000 in
set_option maxRecDepth 100000 in
theorem c_X4_putNextWord (E : Ev) (dA : TD) (dB : TD) (rc : TD) (rd : TD) (tp : TD) (Fa1 : Int × Int) (Fb1 : Int × Int) (Fa2 : Int × Int) (Fb2 : Int × Int) (Fa3 : Int × Int) (Fb3 : Int × Int) (Fa4 : Int × Int) (Fb4 : Int × Int) (Pd1 : (Nat → Int32) → Prop) (Pd2 : (Nat → Int32) → Prop) (Pd3 : (Nat → Int32) → Prop) (Pd4 : (Nat → Int32) → Prop) (Ps1 : (Nat → Int32) → Prop) (Ps2 : (Nat → Int32) → Prop) (Ps3 : (Nat → Int32) → Prop) (Ps4 : (Nat → Int32) → Prop) (Pi1 : (Nat → Int32) → Prop) (Pi2 : (Nat → Int32) → Prop) (Pi3 : (Nat → Int32) → Prop) (Pi4 : (Nat → Int32) → Prop) (a0 : Nat) (t1 n1 : Nat) (ha0 : eT E a0 ∈ [23]) (ha1 : strOf t1 n1) (hFa1 : 0 ≤ Fa1.1 ∧ Fa1.2 ≤ 12) (hFb1 : 0 ≤ Fb1.1 ∧ Fb1.2 ≤ 14) (hFa2 : 0 ≤ Fa2.1 ∧ Fa2.2 ≤ 12) (hFb2 : 0 ≤ Fb2.1 ∧ Fb2.2 ≤ 14) (hFa3 : 0 ≤ Fa3.1 ∧ Fa3.2 ≤ 12) (hFb3 : 0 ≤ Fb3.1 ∧ Fb3.2 ≤ 14) (hFa4 : 0 ≤ Fa4.1 ∧ Fa4.2 ≤ 12) (hFb4 : 0 ≤ Fb4.1 ∧ Fb4.2 ≤ 14) (hPd1 : ∀ f, Pd1 f → ivP 12 (-2) 11 f) (hPd2 : ∀ f, Pd2 f → ivP 12 (-2) 11 f) (hPd3 : ∀ f, Pd3 f → ivP 12 (-2) 11 f) (hPd4 : ∀ f, Pd4 f → ivP 12 (-2) 11 f) (hPs1 : ∀ f, Ps1 f → ivP 12 (-2147483648) 2147483647 f) (hPs2 : ∀ f, Ps2 f → ivP 12 (-2147483648) 2147483647 f) (hPs3 : ∀ f, Ps3 f → ivP 12 (-2147483648) 2147483647 f) (hPs4 : ∀ f, Ps4 f → ivP 12 (-2147483648) 2147483647 f) (hPi1 : ∀ f, Pi1 f → ivP 48 (-2147483648) 2147483647 f) (hPi2 : ∀ f, Pi2 f → ivP 48 (-2147483648) 2147483647 f) (hPi3 : ∀ f, Pi3 f → ivP 48 (-2147483648) 2147483647 f) (hPi4 : ∀ f, Pi4 f → ivP 48 (-2147483648) 2147483647 f) : TcV E yX4_putNextWord cX4_putNextWord 2 ({ frames := 6, cells := 0, slots := 0, locals := 203 }) [.ref a0, .ref (eX E t1)] (fun H => TH E (tbC dA dB (riverD (.inl Fa1) (.inl Fb1) (.inl (0, 4)) 31 33 35 39 43 47) (riverD (.inl Fa2) (.inl Fb2) (.inl (0, 4)) 32 34 36 40 44 48) rc rd tp A14F A14F A4F A4F A14F A14F (riverD (.inl Fa3) (.inl Fb3) (.inl (0, 4)) 3 8 3 41 45 49) (riverD (.inl Fa4) (.inl Fb4) (.inl (0, 4)) 3 8 3 42 46 50) ((.inr (.inl (0, 12, Pd1)))) ((.inr (.inl (0, 12, Pd2)))) ((.inr (.inl (0, 12, Pd3)))) ((.inr (.inl (0, 12, Pd4)))) ((.inr (.inl (0, 12, Ps1)))) ((.inr (.inl (0, 12, Ps2)))) ((.inr (.inl (0, 12, Ps3)))) ((.inr (.inl (0, 12, Ps4)))) ((.inr (.inl (0, 48, Pi1)))) ((.inr (.inl (0, 48, Pi2)))) ((.inr (.inl (0, 48, Pi3)))) ((.inr (.inl (0, 48, Pi4))))) H) (fun H => TH E (tbC dA dB (riverD (.inl Fa1) (.inl Fb1) (.inl (0, 4)) 31 33 35 39 43 47) (riverD (.inl Fa2) (.inl Fb2) (.inl (0, 4)) 32 34 36 40 44 48) rc rd tp A14F A14F A4F A4F A14F A14F (riverD (.inl Fa3) (.inl Fb3) (.inl (0, 4)) 3 8 3 41 45 49) (riverD (.inl Fa4) (.inl Fb4) (.inl (0, 4)) 3 8 3 42 46 50) ((.inr (.inl (0, 12, Pd1)))) ((.inr (.inl (0, 12, Pd2)))) ((.inr (.inl (0, 12, Pd3)))) ((.inr (.inl (0, 12, Pd4)))) ((.inr (.inl (0, 12, Ps1)))) ((.inr (.inl (0, 12, Ps2)))) ((.inr (.inl (0, 12, Ps3)))) ((.inr (.inl (0, 12, Ps4)))) ((.inr (.inl (0, 48, Pi1)))) ((.inr (.inl (0, 48, Pi2)))) ((.inr (.inl (0, 48, Pi3)))) ((.inr (.inl (0, 48, Pi4))))) H) := by
  refine teV (by decide) (Nat.le_of_ble_eq_true rfl) ?_
  intro p_ ev_ s mi_ below_ meth cd_ ls F hK hN hO hH hS hl
  have hH : TH E (tbC dA dB (riverD (.inl Fa1) (.inl Fb1) (.inl (0, 4)) 31 33 35 39 43 47) (riverD (.inl Fa2) (.inl Fb2) (.inl (0, 4)) 32 34 36 40 44 48) rc rd tp A14F A14F A4F A4F A14F A14F (riverD (.inl Fa3) (.inl Fb3) (.inl (0, 4)) 3 8 3 41 45 49) (riverD (.inl Fa4) (.inl Fb4) (.inl (0, 4)) 3 8 3 42 46 50) ((.inr (.inl (0, 12, Pd1)))) ((.inr (.inl (0, 12, Pd2)))) ((.inr (.inl (0, 12, Pd3)))) ((.inr (.inl (0, 12, Pd4)))) ((.inr (.inl (0, 12, Ps1)))) ((.inr (.inl (0, 12, Ps2)))) ((.inr (.inl (0, 12, Ps3)))) ((.inr (.inl (0, 12, Ps4)))) ((.inr (.inl (0, 48, Pi1)))) ((.inr (.inl (0, 48, Pi2)))) ((.inr (.inl (0, 48, Pi3)))) ((.inr (.inl (0, 48, Pi4))))) s.heap := hH
  have hl : lv_has ls 2 [(0, .ref a0), (1, .ref (eX E t1))] := hl
  refine lv_aload_n F.1 F.2.1 dX4_putNextWord_0 rfl (lv_at hl 0 rfl) ?_
  refine lv_bipush (v := 32) F.1 F.2.1 dX4_putNextWord_1 (by decide) ?_
  refine topK (a := 32) (by decide) (fun k_1 hk_1 => ?_)
  refine tVv (b := a0) (As := [.int k_1]) (rest := []) F hK hN hO (c_X4_put E dA dB rc rd tp Fa1 Fb1 Fa2 Fb2 Fa3 Fb3 Fa4 Fb4 Pd1 Pd2 Pd3 Pd4 Ps1 Ps2 Ps3 Ps4 Pi1 Pi2 Pi3 Pi4 a0 k_1 ha0 hFa1 hFb1 hFa2 hFb2 hFa3 hFb3 hFa4 hFb4 hPd1 hPd2 hPd3 hPd4 hPs1 hPs2 hPs3 hPs4 hPi1 hPi2 hPi3 hPi4) mv_X4_put wd_53_16 ⟨Nat.le_of_ble_eq_true rfl, Nat.le_of_ble_eq_true rfl⟩ ⟨Nat.le_of_ble_eq_true rfl, Nat.le_of_ble_eq_true rfl⟩ hH hS (tRecv hK hH (tyb ha0 (all1 rfl)) clX4) rfl hl.1 (Nat.le_of_ble_eq_true rfl) dX4_putNextWord_3 (fun H locs hq hS => ?_)
  have hH := hq
  have hH : TH E (tbC dA dB (riverD (.inl Fa1) (.inl Fb1) (.inl (0, 4)) 31 33 35 39 43 47) (riverD (.inl Fa2) (.inl Fb2) (.inl (0, 4)) 32 34 36 40 44 48) rc rd tp A14F A14F A4F A4F A14F A14F (riverD (.inl Fa3) (.inl Fb3) (.inl (0, 4)) 3 8 3 41 45 49) (riverD (.inl Fa4) (.inl Fb4) (.inl (0, 4)) 3 8 3 42 46 50) ((.inr (.inl (0, 12, Pd1)))) ((.inr (.inl (0, 12, Pd2)))) ((.inr (.inl (0, 12, Pd3)))) ((.inr (.inl (0, 12, Pd4)))) ((.inr (.inl (0, 12, Ps1)))) ((.inr (.inl (0, 12, Ps2)))) ((.inr (.inl (0, 12, Ps3)))) ((.inr (.inl (0, 12, Ps4)))) ((.inr (.inl (0, 48, Pi1)))) ((.inr (.inl (0, 48, Pi2)))) ((.inr (.inl (0, 48, Pi3)))) ((.inr (.inl (0, 48, Pi4))))) H := hH
  refine lv_aload_n F.1 F.2.1 dX4_putNextWord_6 rfl (lv_at hl 0 rfl) ?_
  refine lv_aload_n F.1 F.2.1 dX4_putNextWord_7 rfl (lv_at hl 1 rfl) ?_
  refine tVv (b := a0) (As := [.ref (eX E t1)]) (rest := []) F hK hN hO (c_X4_putWord E dA dB rc rd tp Fa1 Fb1 Fa2 Fb2 Fa3 Fb3 Fa4 Fb4 Pd1 Pd2 Pd3 Pd4 Ps1 Ps2 Ps3 Ps4 Pi1 Pi2 Pi3 Pi4 a0 t1 n1 ha0 ha1 hFa1 hFb1 hFa2 hFb2 hFa3 hFb3 hFa4 hFb4 hPd1 hPd2 hPd3 hPd4 hPs1 hPs2 hPs3 hPs4 hPi1 hPi2 hPi3 hPi4) mv_X4_putWord wd_53_20 ⟨Nat.le_of_ble_eq_true rfl, Nat.le_of_ble_eq_true rfl⟩ ⟨Nat.le_of_ble_eq_true rfl, Nat.le_of_ble_eq_true rfl⟩ hH hS (tRecv hK hH (tyb ha0 (all1 rfl)) clX4) rfl hl.1 (Nat.le_of_ble_eq_true rfl) dX4_putNextWord_8 (fun H locs hq hS => ?_)
  have hH := hq
  have hH : TH E (tbC dA dB (riverD (.inl Fa1) (.inl Fb1) (.inl (0, 4)) 31 33 35 39 43 47) (riverD (.inl Fa2) (.inl Fb2) (.inl (0, 4)) 32 34 36 40 44 48) rc rd tp A14F A14F A4F A4F A14F A14F (riverD (.inl Fa3) (.inl Fb3) (.inl (0, 4)) 3 8 3 41 45 49) (riverD (.inl Fa4) (.inl Fb4) (.inl (0, 4)) 3 8 3 42 46 50) ((.inr (.inl (0, 12, Pd1)))) ((.inr (.inl (0, 12, Pd2)))) ((.inr (.inl (0, 12, Pd3)))) ((.inr (.inl (0, 12, Pd4)))) ((.inr (.inl (0, 12, Ps1)))) ((.inr (.inl (0, 12, Ps2)))) ((.inr (.inl (0, 12, Ps3)))) ((.inr (.inl (0, 12, Ps4)))) ((.inr (.inl (0, 48, Pi1)))) ((.inr (.inl (0, 48, Pi2)))) ((.inr (.inl (0, 48, Pi3)))) ((.inr (.inl (0, 48, Pi4))))) H := hH
  exact txV F hS dX4_putNextWord_11 (hH)
set_option maxHeartbeats 4000000 in
set_option maxRecDepth 100000 in
theorem c_X4_beginPart (E : Ev) (dA : TD) (dB : TD) (rc : TD) (rd : TD) (tp : TD) (Fa1 : Int × Int) (Fb1 : Int × Int) (Fa2 : Int × Int) (Fb2 : Int × Int) (Fa3 : Int × Int) (Fb3 : Int × Int) (Fa4 : Int × Int) (Fb4 : Int × Int) (Pd1 : (Nat → Int32) → Prop) (Pd2 : (Nat → Int32) → Prop) (Pd3 : (Nat → Int32) → Prop) (Pd4 : (Nat → Int32) → Prop) (Ps1 : (Nat → Int32) → Prop) (Ps2 : (Nat → Int32) → Prop) (Ps3 : (Nat → Int32) → Prop) (Ps4 : (Nat → Int32) → Prop) (Pi1 : (Nat → Int32) → Prop) (Pi2 : (Nat → Int32) → Prop) (Pi3 : (Nat → Int32) → Prop) (Pi4 : (Nat → Int32) → Prop) (a0 : Nat) (t1 n1 : Nat) (ha0 : eT E a0 ∈ [23]) (ha1 : strOf t1 n1) (hFa1 : 0 ≤ Fa1.1 ∧ Fa1.2 ≤ 12) (hFb1 : 0 ≤ Fb1.1 ∧ Fb1.2 ≤ 14) (hFa2 : 0 ≤ Fa2.1 ∧ Fa2.2 ≤ 12) (hFb2 : 0 ≤ Fb2.1 ∧ Fb2.2 ≤ 14) (hFa3 : 0 ≤ Fa3.1 ∧ Fa3.2 ≤ 12) (hFb3 : 0 ≤ Fb3.1 ∧ Fb3.2 ≤ 14) (hFa4 : 0 ≤ Fa4.1 ∧ Fa4.2 ≤ 12) (hFb4 : 0 ≤ Fb4.1 ∧ Fb4.2 ≤ 14) (hPd1 : ∀ f, Pd1 f → ivP 12 (-2) 11 f) (hPd2 : ∀ f, Pd2 f → ivP 12 (-2) 11 f) (hPd3 : ∀ f, Pd3 f → ivP 12 (-2) 11 f) (hPd4 : ∀ f, Pd4 f → ivP 12 (-2) 11 f) (hPs1 : ∀ f, Ps1 f → ivP 12 (-2147483648) 2147483647 f) (hPs2 : ∀ f, Ps2 f → ivP 12 (-2147483648) 2147483647 f) (hPs3 : ∀ f, Ps3 f → ivP 12 (-2147483648) 2147483647 f) (hPs4 : ∀ f, Ps4 f → ivP 12 (-2147483648) 2147483647 f) (hPi1 : ∀ f, Pi1 f → ivP 48 (-2147483648) 2147483647 f) (hPi2 : ∀ f, Pi2 f → ivP 48 (-2147483648) 2147483647 f) (hPi3 : ∀ f, Pi3 f → ivP 48 (-2147483648) 2147483647 f) (hPi4 : ∀ f, Pi4 f → ivP 48 (-2147483648) 2147483647 f) : TcV E yX4_beginPart cX4_beginPart 2 ({ frames := 6, cells := 0, slots := 0, locals := 203 }) [.ref a0, .ref (eX E t1)] (fun H => TH E (tbC dA dB (riverD (.inl Fa1) (.inl Fb1) (.inl (0, 4)) 31 33 35 39 43 47) (riverD (.inl Fa2) (.inl Fb2) (.inl (0, 4)) 32 34 36 40 44 48) rc rd tp A14F A14F A4F A4F A14F A14F (riverD (.inl Fa3) (.inl Fb3) (.inl (0, 4)) 3 8 3 41 45 49) (riverD (.inl Fa4) (.inl Fb4) (.inl (0, 4)) 3 8 3 42 46 50) ((.inr (.inl (0, 12, Pd1)))) ((.inr (.inl (0, 12, Pd2)))) ((.inr (.inl (0, 12, Pd3)))) ((.inr (.inl (0, 12, Pd4)))) ((.inr (.inl (0, 12, Ps1)))) ((.inr (.inl (0, 12, Ps2)))) ((.inr (.inl (0, 12, Ps3)))) ((.inr (.inl (0, 12, Ps4)))) ((.inr (.inl (0, 48, Pi1)))) ((.inr (.inl (0, 48, Pi2)))) ((.inr (.inl (0, 48, Pi3)))) ((.inr (.inl (0, 48, Pi4))))) H) (fun H => TH E (tbC dA dB (riverD (.inl Fa1) (.inl Fb1) (.inl (0, 4)) 31 33 35 39 43 47) (riverD (.inl Fa2) (.inl Fb2) (.inl (0, 4)) 32 34 36 40 44 48) rc rd tp A14F A14F A4F A4F A14F A14F (riverD (.inl Fa3) (.inl Fb3) (.inl (0, 4)) 3 8 3 41 45 49) (riverD (.inl Fa4) (.inl Fb4) (.inl (0, 4)) 3 8 3 42 46 50) ((.inr (.inl (0, 12, Pd1)))) ((.inr (.inl (0, 12, Pd2)))) ((.inr (.inl (0, 12, Pd3)))) ((.inr (.inl (0, 12, Pd4)))) ((.inr (.inl (0, 12, Ps1)))) ((.inr (.inl (0, 12, Ps2)))) ((.inr (.inl (0, 12, Ps3)))) ((.inr (.inl (0, 12, Ps4)))) ((.inr (.inl (0, 48, Pi1)))) ((.inr (.inl (0, 48, Pi2)))) ((.inr (.inl (0, 48, Pi3)))) ((.inr (.inl (0, 48, Pi4))))) H) := by
  refine teV (by decide) (Nat.le_of_ble_eq_true rfl) ?_
  intro p_ ev_ s mi_ below_ meth cd_ ls F hK hN hO hH hS hl
  have hH : TH E (tbC dA dB (riverD (.inl Fa1) (.inl Fb1) (.inl (0, 4)) 31 33 35 39 43 47) (riverD (.inl Fa2) (.inl Fb2) (.inl (0, 4)) 32 34 36 40 44 48) rc rd tp A14F A14F A4F A4F A14F A14F (riverD (.inl Fa3) (.inl Fb3) (.inl (0, 4)) 3 8 3 41 45 49) (riverD (.inl Fa4) (.inl Fb4) (.inl (0, 4)) 3 8 3 42 46 50) ((.inr (.inl (0, 12, Pd1)))) ((.inr (.inl (0, 12, Pd2)))) ((.inr (.inl (0, 12, Pd3)))) ((.inr (.inl (0, 12, Pd4)))) ((.inr (.inl (0, 12, Ps1)))) ((.inr (.inl (0, 12, Ps2)))) ((.inr (.inl (0, 12, Ps3)))) ((.inr (.inl (0, 12, Ps4)))) ((.inr (.inl (0, 48, Pi1)))) ((.inr (.inl (0, 48, Pi2)))) ((.inr (.inl (0, 48, Pi3)))) ((.inr (.inl (0, 48, Pi4))))) s.heap := hH
  have hl : lv_has ls 2 [(0, .ref a0), (1, .ref (eX E t1))] := hl
  refine lv_aload_n F.1 F.2.1 dX4_beginPart_0 rfl (lv_at hl 0 rfl) ?_
  refine tGetI (j := 3) F hK hH (tyb ha0 (all1 rfl)) rfl clX4 (by decide) wd_52_23 dX4_beginPart_1 (fun z_1 hz_1 => ?_)
  refine z_le (tgt := 13) F dX4_beginPart_4 (by decide) (fun c_2 => ?_) (fun c_2 => ?_)
  · skip
    have r_3 : (-2147483648) ≤ z_1.toInt ∧ z_1.toInt ≤ 0 := by have h9_ := hz_1; omega
    refine lv_aload_n F.1 F.2.1 dX4_beginPart_13 rfl (lv_at hl 0 rfl) ?_
    refine lv_aload_n F.1 F.2.1 dX4_beginPart_14 rfl (lv_at hl 1 rfl) ?_
    refine tVv (b := a0) (As := [.ref (eX E t1)]) (rest := []) F hK hN hO (c_X4_putWord E dA dB rc rd tp Fa1 Fb1 Fa2 Fb2 Fa3 Fb3 Fa4 Fb4 Pd1 Pd2 Pd3 Pd4 Ps1 Ps2 Ps3 Ps4 Pi1 Pi2 Pi3 Pi4 a0 t1 n1 ha0 ha1 hFa1 hFb1 hFa2 hFb2 hFa3 hFb3 hFa4 hFb4 hPd1 hPd2 hPd3 hPd4 hPs1 hPs2 hPs3 hPs4 hPi1 hPi2 hPi3 hPi4) mv_X4_putWord wd_53_20 ⟨Nat.le_of_ble_eq_true rfl, Nat.le_of_ble_eq_true rfl⟩ ⟨Nat.le_of_ble_eq_true rfl, Nat.le_of_ble_eq_true rfl⟩ hH hS (tRecv hK hH (tyb ha0 (all1 rfl)) clX4) rfl hl.1 (Nat.le_of_ble_eq_true rfl) dX4_beginPart_15 (fun H locs hq hS => ?_)
    have hH := hq
    have hH : TH E (tbC dA dB (riverD (.inl Fa1) (.inl Fb1) (.inl (0, 4)) 31 33 35 39 43 47) (riverD (.inl Fa2) (.inl Fb2) (.inl (0, 4)) 32 34 36 40 44 48) rc rd tp A14F A14F A4F A4F A14F A14F (riverD (.inl Fa3) (.inl Fb3) (.inl (0, 4)) 3 8 3 41 45 49) (riverD (.inl Fa4) (.inl Fb4) (.inl (0, 4)) 3 8 3 42 46 50) ((.inr (.inl (0, 12, Pd1)))) ((.inr (.inl (0, 12, Pd2)))) ((.inr (.inl (0, 12, Pd3)))) ((.inr (.inl (0, 12, Pd4)))) ((.inr (.inl (0, 12, Ps1)))) ((.inr (.inl (0, 12, Ps2)))) ((.inr (.inl (0, 12, Ps3)))) ((.inr (.inl (0, 12, Ps4)))) ((.inr (.inl (0, 48, Pi1)))) ((.inr (.inl (0, 48, Pi2)))) ((.inr (.inl (0, 48, Pi3)))) ((.inr (.inl (0, 48, Pi4))))) H := hH
    exact txV F hS dX4_beginPart_18 (hH)
  · skip
    have r_4 : 1 ≤ z_1.toInt ∧ z_1.toInt ≤ 2147483647 := by have h9_ := hz_1; omega
    refine lv_aload_n F.1 F.2.1 dX4_beginPart_7 rfl (lv_at hl 0 rfl) ?_
    refine lv_bipush (v := 59) F.1 F.2.1 dX4_beginPart_8 (by decide) ?_
    refine topK (a := 59) (by decide) (fun k_6 hk_6 => ?_)
    refine tVv (b := a0) (As := [.int k_6]) (rest := []) F hK hN hO (c_X4_put E dA dB rc rd tp Fa1 Fb1 Fa2 Fb2 Fa3 Fb3 Fa4 Fb4 Pd1 Pd2 Pd3 Pd4 Ps1 Ps2 Ps3 Ps4 Pi1 Pi2 Pi3 Pi4 a0 k_6 ha0 hFa1 hFb1 hFa2 hFb2 hFa3 hFb3 hFa4 hFb4 hPd1 hPd2 hPd3 hPd4 hPs1 hPs2 hPs3 hPs4 hPi1 hPi2 hPi3 hPi4) mv_X4_put wd_53_16 ⟨Nat.le_of_ble_eq_true rfl, Nat.le_of_ble_eq_true rfl⟩ ⟨Nat.le_of_ble_eq_true rfl, Nat.le_of_ble_eq_true rfl⟩ hH hS (tRecv hK hH (tyb ha0 (all1 rfl)) clX4) rfl hl.1 (Nat.le_of_ble_eq_true rfl) dX4_beginPart_10 (fun H locs hq hS => ?_)
    have hH := hq
    have hH : TH E (tbC dA dB (riverD (.inl Fa1) (.inl Fb1) (.inl (0, 4)) 31 33 35 39 43 47) (riverD (.inl Fa2) (.inl Fb2) (.inl (0, 4)) 32 34 36 40 44 48) rc rd tp A14F A14F A4F A4F A14F A14F (riverD (.inl Fa3) (.inl Fb3) (.inl (0, 4)) 3 8 3 41 45 49) (riverD (.inl Fa4) (.inl Fb4) (.inl (0, 4)) 3 8 3 42 46 50) ((.inr (.inl (0, 12, Pd1)))) ((.inr (.inl (0, 12, Pd2)))) ((.inr (.inl (0, 12, Pd3)))) ((.inr (.inl (0, 12, Pd4)))) ((.inr (.inl (0, 12, Ps1)))) ((.inr (.inl (0, 12, Ps2)))) ((.inr (.inl (0, 12, Ps3)))) ((.inr (.inl (0, 12, Ps4)))) ((.inr (.inl (0, 48, Pi1)))) ((.inr (.inl (0, 48, Pi2)))) ((.inr (.inl (0, 48, Pi3)))) ((.inr (.inl (0, 48, Pi4))))) H := hH
    refine lv_aload_n F.1 F.2.1 dX4_beginPart_13 rfl (lv_at hl 0 rfl) ?_
    refine lv_aload_n F.1 F.2.1 dX4_beginPart_14 rfl (lv_at hl 1 rfl) ?_
    refine tVv (b := a0) (As := [.ref (eX E t1)]) (rest := []) F hK hN hO (c_X4_putWord E dA dB rc rd tp Fa1 Fb1 Fa2 Fb2 Fa3 Fb3 Fa4 Fb4 Pd1 Pd2 Pd3 Pd4 Ps1 Ps2 Ps3 Ps4 Pi1 Pi2 Pi3 Pi4 a0 t1 n1 ha0 ha1 hFa1 hFb1 hFa2 hFb2 hFa3 hFb3 hFa4 hFb4 hPd1 hPd2 hPd3 hPd4 hPs1 hPs2 hPs3 hPs4 hPi1 hPi2 hPi3 hPi4) mv_X4_putWord wd_53_20 ⟨Nat.le_of_ble_eq_true rfl, Nat.le_of_ble_eq_true rfl⟩ ⟨Nat.le_of_ble_eq_true rfl, Nat.le_of_ble_eq_true rfl⟩ hH hS (tRecv hK hH (tyb ha0 (all1 rfl)) clX4) rfl hl.1 (Nat.le_of_ble_eq_true rfl) dX4_beginPart_15 (fun H locs hq hS => ?_)
    have hH := hq
    have hH : TH E (tbC dA dB (riverD (.inl Fa1) (.inl Fb1) (.inl (0, 4)) 31 33 35 39 43 47) (riverD (.inl Fa2) (.inl Fb2) (.inl (0, 4)) 32 34 36 40 44 48) rc rd tp A14F A14F A4F A4F A14F A14F (riverD (.inl Fa3) (.inl Fb3) (.inl (0, 4)) 3 8 3 41 45 49) (riverD (.inl Fa4) (.inl Fb4) (.inl (0, 4)) 3 8 3 42 46 50) ((.inr (.inl (0, 12, Pd1)))) ((.inr (.inl (0, 12, Pd2)))) ((.inr (.inl (0, 12, Pd3)))) ((.inr (.inl (0, 12, Pd4)))) ((.inr (.inl (0, 12, Ps1)))) ((.inr (.inl (0, 12, Ps2)))) ((.inr (.inl (0, 12, Ps3)))) ((.inr (.inl (0, 12, Ps4)))) ((.inr (.inl (0, 48, Pi1)))) ((.inr (.inl (0, 48, Pi2)))) ((.inr (.inl (0, 48, Pi3)))) ((.inr (.inl (0, 48, Pi4))))) H := hH
    exact txV F hS dX4_beginPart_18 (hH)
set_option maxHeartbeats 4000000 in
set_option maxRecDepth 100000 in
theorem c_X4_putNextNumber (E : Ev) (dA : TD) (dB : TD) (rc : TD) (rd : TD) (tp : TD) (Fa1 : Int × Int) (Fb1 : Int × Int) (Fa2 : Int × Int) (Fb2 : Int × Int) (Fa3 : Int × Int) (Fb3 : Int × Int) (Fa4 : Int × Int) (Fb4 : Int × Int) (Pd1 : (Nat → Int32) → Prop) (Pd2 : (Nat → Int32) → Prop) (Pd3 : (Nat → Int32) → Prop) (Pd4 : (Nat → Int32) → Prop) (Ps1 : (Nat → Int32) → Prop) (Ps2 : (Nat → Int32) → Prop) (Ps3 : (Nat → Int32) → Prop) (Ps4 : (Nat → Int32) → Prop) (Pi1 : (Nat → Int32) → Prop) (Pi2 : (Nat → Int32) → Prop) (Pi3 : (Nat → Int32) → Prop) (Pi4 : (Nat → Int32) → Prop) (a0 : Nat) (a1 : Int32) (ha0 : eT E a0 ∈ [23]) (hFa1 : 0 ≤ Fa1.1 ∧ Fa1.2 ≤ 12) (hFb1 : 0 ≤ Fb1.1 ∧ Fb1.2 ≤ 14) (hFa2 : 0 ≤ Fa2.1 ∧ Fa2.2 ≤ 12) (hFb2 : 0 ≤ Fb2.1 ∧ Fb2.2 ≤ 14) (hFa3 : 0 ≤ Fa3.1 ∧ Fa3.2 ≤ 12) (hFb3 : 0 ≤ Fb3.1 ∧ Fb3.2 ≤ 14) (hFa4 : 0 ≤ Fa4.1 ∧ Fa4.2 ≤ 12) (hFb4 : 0 ≤ Fb4.1 ∧ Fb4.2 ≤ 14) (hPd1 : ∀ f, Pd1 f → ivP 12 (-2) 11 f) (hPd2 : ∀ f, Pd2 f → ivP 12 (-2) 11 f) (hPd3 : ∀ f, Pd3 f → ivP 12 (-2) 11 f) (hPd4 : ∀ f, Pd4 f → ivP 12 (-2) 11 f) (hPs1 : ∀ f, Ps1 f → ivP 12 (-2147483648) 2147483647 f) (hPs2 : ∀ f, Ps2 f → ivP 12 (-2147483648) 2147483647 f) (hPs3 : ∀ f, Ps3 f → ivP 12 (-2147483648) 2147483647 f) (hPs4 : ∀ f, Ps4 f → ivP 12 (-2147483648) 2147483647 f) (hPi1 : ∀ f, Pi1 f → ivP 48 (-2147483648) 2147483647 f) (hPi2 : ∀ f, Pi2 f → ivP 48 (-2147483648) 2147483647 f) (hPi3 : ∀ f, Pi3 f → ivP 48 (-2147483648) 2147483647 f) (hPi4 : ∀ f, Pi4 f → ivP 48 (-2147483648) 2147483647 f) : TcV E yX4_putNextNumber cX4_putNextNumber 5 ({ frames := 2, cells := 0, slots := 0, locals := 61 }) [.ref a0, .int a1] (fun H => TH E (tbC dA dB (riverD (.inl Fa1) (.inl Fb1) (.inl (0, 4)) 31 33 35 39 43 47) (riverD (.inl Fa2) (.inl Fb2) (.inl (0, 4)) 32 34 36 40 44 48) rc rd tp A14F A14F A4F A4F A14F A14F (riverD (.inl Fa3) (.inl Fb3) (.inl (0, 4)) 3 8 3 41 45 49) (riverD (.inl Fa4) (.inl Fb4) (.inl (0, 4)) 3 8 3 42 46 50) ((.inr (.inl (0, 12, Pd1)))) ((.inr (.inl (0, 12, Pd2)))) ((.inr (.inl (0, 12, Pd3)))) ((.inr (.inl (0, 12, Pd4)))) ((.inr (.inl (0, 12, Ps1)))) ((.inr (.inl (0, 12, Ps2)))) ((.inr (.inl (0, 12, Ps3)))) ((.inr (.inl (0, 12, Ps4)))) ((.inr (.inl (0, 48, Pi1)))) ((.inr (.inl (0, 48, Pi2)))) ((.inr (.inl (0, 48, Pi3)))) ((.inr (.inl (0, 48, Pi4))))) H) (fun H => TH E (tbC dA dB (riverD (.inl Fa1) (.inl Fb1) (.inl (0, 4)) 31 33 35 39 43 47) (riverD (.inl Fa2) (.inl Fb2) (.inl (0, 4)) 32 34 36 40 44 48) rc rd tp A14F A14F A4F A4F A14F A14F (riverD (.inl Fa3) (.inl Fb3) (.inl (0, 4)) 3 8 3 41 45 49) (riverD (.inl Fa4) (.inl Fb4) (.inl (0, 4)) 3 8 3 42 46 50) ((.inr (.inl (0, 12, Pd1)))) ((.inr (.inl (0, 12, Pd2)))) ((.inr (.inl (0, 12, Pd3)))) ((.inr (.inl (0, 12, Pd4)))) ((.inr (.inl (0, 12, Ps1)))) ((.inr (.inl (0, 12, Ps2)))) ((.inr (.inl (0, 12, Ps3)))) ((.inr (.inl (0, 12, Ps4)))) ((.inr (.inl (0, 48, Pi1)))) ((.inr (.inl (0, 48, Pi2)))) ((.inr (.inl (0, 48, Pi3)))) ((.inr (.inl (0, 48, Pi4))))) H) := by
  refine teV (by decide) (Nat.le_of_ble_eq_true rfl) ?_
  intro p_ ev_ s mi_ below_ meth cd_ ls F hK hN hO hH hS hl
  have hH : TH E (tbC dA dB (riverD (.inl Fa1) (.inl Fb1) (.inl (0, 4)) 31 33 35 39 43 47) (riverD (.inl Fa2) (.inl Fb2) (.inl (0, 4)) 32 34 36 40 44 48) rc rd tp A14F A14F A4F A4F A14F A14F (riverD (.inl Fa3) (.inl Fb3) (.inl (0, 4)) 3 8 3 41 45 49) (riverD (.inl Fa4) (.inl Fb4) (.inl (0, 4)) 3 8 3 42 46 50) ((.inr (.inl (0, 12, Pd1)))) ((.inr (.inl (0, 12, Pd2)))) ((.inr (.inl (0, 12, Pd3)))) ((.inr (.inl (0, 12, Pd4)))) ((.inr (.inl (0, 12, Ps1)))) ((.inr (.inl (0, 12, Ps2)))) ((.inr (.inl (0, 12, Ps3)))) ((.inr (.inl (0, 12, Ps4)))) ((.inr (.inl (0, 48, Pi1)))) ((.inr (.inl (0, 48, Pi2)))) ((.inr (.inl (0, 48, Pi3)))) ((.inr (.inl (0, 48, Pi4))))) s.heap := hH
  have hl : lv_has ls 5 [(0, .ref a0), (1, .int a1)] := hl
  refine lv_aload_n F.1 F.2.1 dX4_putNextNumber_0 rfl (lv_at hl 0 rfl) ?_
  refine lv_bipush (v := 32) F.1 F.2.1 dX4_putNextNumber_1 (by decide) ?_
  refine topK (a := 32) (by decide) (fun k_1 hk_1 => ?_)
  refine tVv (b := a0) (As := [.int k_1]) (rest := []) F hK hN hO (c_X4_put E dA dB rc rd tp Fa1 Fb1 Fa2 Fb2 Fa3 Fb3 Fa4 Fb4 Pd1 Pd2 Pd3 Pd4 Ps1 Ps2 Ps3 Ps4 Pi1 Pi2 Pi3 Pi4 a0 k_1 ha0 hFa1 hFb1 hFa2 hFb2 hFa3 hFb3 hFa4 hFb4 hPd1 hPd2 hPd3 hPd4 hPs1 hPs2 hPs3 hPs4 hPi1 hPi2 hPi3 hPi4) mv_X4_put wd_53_16 ⟨Nat.le_of_ble_eq_true rfl, Nat.le_of_ble_eq_true rfl⟩ ⟨Nat.le_of_ble_eq_true rfl, Nat.le_of_ble_eq_true rfl⟩ hH hS (tRecv hK hH (tyb ha0 (all1 rfl)) clX4) rfl hl.1 (Nat.le_of_ble_eq_true rfl) dX4_putNextNumber_3 (fun H locs hq hS => ?_)
  have hH := hq
  have hH : TH E (tbC dA dB (riverD (.inl Fa1) (.inl Fb1) (.inl (0, 4)) 31 33 35 39 43 47) (riverD (.inl Fa2) (.inl Fb2) (.inl (0, 4)) 32 34 36 40 44 48) rc rd tp A14F A14F A4F A4F A14F A14F (riverD (.inl Fa3) (.inl Fb3) (.inl (0, 4)) 3 8 3 41 45 49) (riverD (.inl Fa4) (.inl Fb4) (.inl (0, 4)) 3 8 3 42 46 50) ((.inr (.inl (0, 12, Pd1)))) ((.inr (.inl (0, 12, Pd2)))) ((.inr (.inl (0, 12, Pd3)))) ((.inr (.inl (0, 12, Pd4)))) ((.inr (.inl (0, 12, Ps1)))) ((.inr (.inl (0, 12, Ps2)))) ((.inr (.inl (0, 12, Ps3)))) ((.inr (.inl (0, 12, Ps4)))) ((.inr (.inl (0, 48, Pi1)))) ((.inr (.inl (0, 48, Pi2)))) ((.inr (.inl (0, 48, Pi3)))) ((.inr (.inl (0, 48, Pi4))))) H := hH
  refine lv_iconst (v := 0) F.1 F.2.1 dX4_putNextNumber_6 (by decide) ?_
  refine topK (a := 0) (by decide) (fun k_3 hk_3 => ?_)
  refine lv_istore_n (lv' := [(2, .int k_3), (0, .ref a0), (1, .int a1)]) F.1 F.2.1 dX4_putNextNumber_7 rfl hl (by decide) rfl (fun ls hl => ?_)
  refine lv_ldc (own := RX4) (v := 100000) F.1 F.2.1 F.2.2.2.2.1 (F.2.2.2.2.2.2.1 _ wd_54_10) dX4_putNextNumber_8 ?_
  refine topK (a := 100000) (by decide) (fun k_4 hk_4 => ?_)
  refine lv_istore_n (lv' := [(3, .int k_4), (2, .int k_3), (0, .ref a0), (1, .int a1)]) F.1 F.2.1 dX4_putNextNumber_10 rfl hl (by decide) rfl (fun ls hl => ?_)
  refine wloop (σ := Int32 × Int32) (fun n9 x9 H locs ls => (x9.2.toInt).toNat < n9 ∧ (0 ≤ x9.1.toInt ∧ x9.1.toInt ≤ 1) ∧ (0 ≤ x9.2.toInt ∧ x9.2.toInt ≤ 100000) ∧ TH E (tbC dA dB (riverD (.inl Fa1) (.inl Fb1) (.inl (0, 4)) 31 33 35 39 43 47) (riverD (.inl Fa2) (.inl Fb2) (.inl (0, 4)) 32 34 36 40 44 48) rc rd tp A14F A14F A4F A4F A14F A14F (riverD (.inl Fa3) (.inl Fb3) (.inl (0, 4)) 3 8 3 41 45 49) (riverD (.inl Fa4) (.inl Fb4) (.inl (0, 4)) 3 8 3 42 46 50) ((.inr (.inl (0, 12, Pd1)))) ((.inr (.inl (0, 12, Pd2)))) ((.inr (.inl (0, 12, Pd3)))) ((.inr (.inl (0, 12, Pd4)))) ((.inr (.inl (0, 12, Ps1)))) ((.inr (.inl (0, 12, Ps2)))) ((.inr (.inl (0, 12, Ps3)))) ((.inr (.inl (0, 12, Ps4)))) ((.inr (.inl (0, 48, Pi1)))) ((.inr (.inl (0, 48, Pi2)))) ((.inr (.inl (0, 48, Pi3)))) ((.inr (.inl (0, 48, Pi4))))) H ∧ va_S (eA E s.heap.size) s.heap H locs ∧ lv_has ls 5 [(0, .ref a0), (1, .int a1), (2, .int x9.1), (3, .int x9.2)]) ?_ (fun x9 H locs ls h => absurd h.1 (Nat.not_lt_zero _)) _ (k_3, k_4) ⟨Nat.lt_succ_self _, (wkb (eqb hk_3) rfl rfl), (wkb (eqb hk_4) rfl rfl), hH, hS, lv_sub hl [2, 3, 1, 0] rfl⟩
  intro n_11 ih_11 ⟨u_5, u_6⟩ H locs ls ⟨hm_11, hu_5, hu_6, hH, hS, hl⟩
  have hm_11 : (u_6.toInt).toNat < n_11 + 1 := hm_11
  have hu_5 : (0 ≤ u_5.toInt ∧ u_5.toInt ≤ 1) := hu_5
  have hu_6 : (0 ≤ u_6.toInt ∧ u_6.toInt ≤ 100000) := hu_6
  have hH : TH E (tbC dA dB (riverD (.inl Fa1) (.inl Fb1) (.inl (0, 4)) 31 33 35 39 43 47) (riverD (.inl Fa2) (.inl Fb2) (.inl (0, 4)) 32 34 36 40 44 48) rc rd tp A14F A14F A4F A4F A14F A14F (riverD (.inl Fa3) (.inl Fb3) (.inl (0, 4)) 3 8 3 41 45 49) (riverD (.inl Fa4) (.inl Fb4) (.inl (0, 4)) 3 8 3 42 46 50) ((.inr (.inl (0, 12, Pd1)))) ((.inr (.inl (0, 12, Pd2)))) ((.inr (.inl (0, 12, Pd3)))) ((.inr (.inl (0, 12, Pd4)))) ((.inr (.inl (0, 12, Ps1)))) ((.inr (.inl (0, 12, Ps2)))) ((.inr (.inl (0, 12, Ps3)))) ((.inr (.inl (0, 12, Ps4)))) ((.inr (.inl (0, 48, Pi1)))) ((.inr (.inl (0, 48, Pi2)))) ((.inr (.inl (0, 48, Pi3)))) ((.inr (.inl (0, 48, Pi4))))) H := hH
  have hl : lv_has ls 5 [(0, .ref a0), (1, .int a1), (2, .int u_5), (3, .int u_6)] := hl
  refine lv_iload_n F.1 F.2.1 dX4_putNextNumber_11 rfl (lv_at hl 3 rfl) ?_
  refine z_le (tgt := 65) F dX4_putNextNumber_12 (by decide) (fun c_7 => ?_) (fun c_7 => ?_)
  · skip
    have r_8 : 0 ≤ u_6.toInt ∧ u_6.toInt ≤ 0 := by have h9_ := hu_6; omega
    exact txV F hS dX4_putNextNumber_65 (hH)
  · skip
    have r_9 : 1 ≤ u_6.toInt ∧ u_6.toInt ≤ 100000 := by have h9_ := hu_6; omega
    refine lv_iload_n F.1 F.2.1 dX4_putNextNumber_15 rfl (lv_at hl 1 rfl) ?_
    refine lv_iload_n F.1 F.2.1 dX4_putNextNumber_16 rfl (lv_at hl 3 rfl) ?_
    refine tDivF F dX4_putNextNumber_17 (by omega) (fun z_10 => ?_)
    refine lv_bipush (v := 10) F.1 F.2.1 dX4_putNextNumber_18 (by decide) ?_
    refine topK (a := 10) (by decide) (fun k_11 hk_11 => ?_)
    refine tRemF F dX4_putNextNumber_20 (by omega) (fun z_12 => ?_)
    refine lv_istore (lv' := [(4, .int z_12), (0, .ref a0), (1, .int a1), (2, .int u_5), (3, .int u_6)]) F.1 F.2.1 dX4_putNextNumber_21 hl (by decide) rfl (fun ls hl => ?_)
    refine lv_iload_n F.1 F.2.1 dX4_putNextNumber_23 rfl (lv_at hl 3 rfl) ?_
    refine wjoin (σ := Int32) (pcj := 42) (stj := fun x9 => [.int x9]) (fun x9 H locs ls => (0 ≤ x9.toInt ∧ x9.toInt ≤ 1) ∧ TH E (tbC dA dB (riverD (.inl Fa1) (.inl Fb1) (.inl (0, 4)) 31 33 35 39 43 47) (riverD (.inl Fa2) (.inl Fb2) (.inl (0, 4)) 32 34 36 40 44 48) rc rd tp A14F A14F A4F A4F A14F A14F (riverD (.inl Fa3) (.inl Fb3) (.inl (0, 4)) 3 8 3 41 45 49) (riverD (.inl Fa4) (.inl Fb4) (.inl (0, 4)) 3 8 3 42 46 50) ((.inr (.inl (0, 12, Pd1)))) ((.inr (.inl (0, 12, Pd2)))) ((.inr (.inl (0, 12, Pd3)))) ((.inr (.inl (0, 12, Pd4)))) ((.inr (.inl (0, 12, Ps1)))) ((.inr (.inl (0, 12, Ps2)))) ((.inr (.inl (0, 12, Ps3)))) ((.inr (.inl (0, 12, Ps4)))) ((.inr (.inl (0, 48, Pi1)))) ((.inr (.inl (0, 48, Pi2)))) ((.inr (.inl (0, 48, Pi3)))) ((.inr (.inl (0, 48, Pi4))))) H ∧ va_S (eA E s.heap.size) s.heap H locs ∧ lv_has ls 5 [(0, .ref a0), (1, .int a1), (3, .int u_6), (4, .int z_12)]) (fun u_13 H locs ls h_ => ?_) (fun J_42 => ?_)
    · skip
      obtain ⟨hu_13, hH, hS, hl⟩ := h_
      have hu_13 : (0 ≤ u_13.toInt ∧ u_13.toInt ≤ 1) := hu_13
      have hH : TH E (tbC dA dB (riverD (.inl Fa1) (.inl Fb1) (.inl (0, 4)) 31 33 35 39 43 47) (riverD (.inl Fa2) (.inl Fb2) (.inl (0, 4)) 32 34 36 40 44 48) rc rd tp A14F A14F A4F A4F A14F A14F (riverD (.inl Fa3) (.inl Fb3) (.inl (0, 4)) 3 8 3 41 45 49) (riverD (.inl Fa4) (.inl Fb4) (.inl (0, 4)) 3 8 3 42 46 50) ((.inr (.inl (0, 12, Pd1)))) ((.inr (.inl (0, 12, Pd2)))) ((.inr (.inl (0, 12, Pd3)))) ((.inr (.inl (0, 12, Pd4)))) ((.inr (.inl (0, 12, Ps1)))) ((.inr (.inl (0, 12, Ps2)))) ((.inr (.inl (0, 12, Ps3)))) ((.inr (.inl (0, 12, Ps4)))) ((.inr (.inl (0, 48, Pi1)))) ((.inr (.inl (0, 48, Pi2)))) ((.inr (.inl (0, 48, Pi3)))) ((.inr (.inl (0, 48, Pi4))))) H := hH
      have hl : lv_has ls 5 [(0, .ref a0), (1, .int a1), (3, .int u_6), (4, .int z_12)] := hl
      show W _ _ _ _ _ _ _ _ _ _ _ _ _ _ _ (F0 _ _ _ [.int u_13])
      refine lv_istore_n (lv' := [(2, .int u_13), (0, .ref a0), (1, .int a1), (3, .int u_6), (4, .int z_12)]) F.1 F.2.1 dX4_putNextNumber_42 rfl hl (by decide) rfl (fun ls hl => ?_)
      refine lv_iload_n F.1 F.2.1 dX4_putNextNumber_43 rfl (lv_at hl 0 rfl) ?_
      refine z_eq (tgt := 57) F dX4_putNextNumber_44 (by decide) (fun c_14 => ?_) (fun c_14 => ?_)
      · skip
        have r_15 : 0 ≤ u_13.toInt ∧ u_13.toInt ≤ 0 := by have h9_ := hu_13; omega
        refine lv_iload_n F.1 F.2.1 dX4_putNextNumber_57 rfl (lv_at hl 3 rfl) ?_
        refine lv_bipush (v := 10) F.1 F.2.1 dX4_putNextNumber_58 (by decide) ?_
        refine topK (a := 10) (by decide) (fun k_17 hk_17 => ?_)
        refine tDiv (k := 10) (lo := 0) (hi := 10000) F dX4_putNextNumber_60 r_9 hk_17 rfl (fun z_18 hz_18 => ?_)
        refine lv_istore_n (lv' := [(3, .int z_18), (2, .int u_13), (0, .ref a0), (1, .int a1), (4, .int z_12)]) F.1 F.2.1 dX4_putNextNumber_61 rfl hl (by decide) rfl (fun ls hl => ?_)
        refine lv_goto (tgt := 11) F.1 F.2.1 dX4_putNextNumber_62 (by decide) ?_
        exact ih_11 (u_13, z_18) _ _ _ ⟨(show (z_18.toInt).toNat < n_11 from by omega), (wkb r_15 rfl rfl), (wkb hz_18.2 rfl rfl), hH, hS, lv_sub hl [2, 3, 1, 0] rfl⟩
      · skip
        have r_16 : 1 ≤ u_13.toInt ∧ u_13.toInt ≤ 1 := by have h9_ := hu_13; omega
        refine lv_aload_n F.1 F.2.1 dX4_putNextNumber_47 rfl (lv_at hl 1 rfl) ?_
        refine lv_bipush (v := 48) F.1 F.2.1 dX4_putNextNumber_48 (by decide) ?_
        refine topK (a := 48) (by decide) (fun k_19 hk_19 => ?_)
        refine lv_iload F.1 F.2.1 dX4_putNextNumber_50 (lv_at hl 4 rfl) ?_
        refine lv_iadd F.1 F.2.1 dX4_putNextNumber_52 ?_
        refine topF (fun z_20 => ?_)
        refine lv_i2c F.1 F.2.1 dX4_putNextNumber_53 rfl ?_
        refine topF (fun z_21 => ?_)
        refine tVv (b := a0) (As := [.int z_21]) (rest := []) F hK hN hO (c_X4_put E dA dB rc rd tp Fa1 Fb1 Fa2 Fb2 Fa3 Fb3 Fa4 Fb4 Pd1 Pd2 Pd3 Pd4 Ps1 Ps2 Ps3 Ps4 Pi1 Pi2 Pi3 Pi4 a0 z_21 ha0 hFa1 hFb1 hFa2 hFb2 hFa3 hFb3 hFa4 hFb4 hPd1 hPd2 hPd3 hPd4 hPs1 hPs2 hPs3 hPs4 hPi1 hPi2 hPi3 hPi4) mv_X4_put wd_53_16 ⟨Nat.le_of_ble_eq_true rfl, Nat.le_of_ble_eq_true rfl⟩ ⟨Nat.le_of_ble_eq_true rfl, Nat.le_of_ble_eq_true rfl⟩ hH hS (tRecv hK hH (tyb ha0 (all1 rfl)) clX4) rfl hl.1 (Nat.le_of_ble_eq_true rfl) dX4_putNextNumber_54 (fun H locs hq hS => ?_)
        have hH := hq
        have hH : TH E (tbC dA dB (riverD (.inl Fa1) (.inl Fb1) (.inl (0, 4)) 31 33 35 39 43 47) (riverD (.inl Fa2) (.inl Fb2) (.inl (0, 4)) 32 34 36 40 44 48) rc rd tp A14F A14F A4F A4F A14F A14F (riverD (.inl Fa3) (.inl Fb3) (.inl (0, 4)) 3 8 3 41 45 49) (riverD (.inl Fa4) (.inl Fb4) (.inl (0, 4)) 3 8 3 42 46 50) ((.inr (.inl (0, 12, Pd1)))) ((.inr (.inl (0, 12, Pd2)))) ((.inr (.inl (0, 12, Pd3)))) ((.inr (.inl (0, 12, Pd4)))) ((.inr (.inl (0, 12, Ps1)))) ((.inr (.inl (0, 12, Ps2)))) ((.inr (.inl (0, 12, Ps3)))) ((.inr (.inl (0, 12, Ps4)))) ((.inr (.inl (0, 48, Pi1)))) ((.inr (.inl (0, 48, Pi2)))) ((.inr (.inl (0, 48, Pi3)))) ((.inr (.inl (0, 48, Pi4))))) H := hH
        refine lv_iload_n F.1 F.2.1 dX4_putNextNumber_57 rfl (lv_at hl 3 rfl) ?_
        refine lv_bipush (v := 10) F.1 F.2.1 dX4_putNextNumber_58 (by decide) ?_
        refine topK (a := 10) (by decide) (fun k_23 hk_23 => ?_)
        refine tDiv (k := 10) (lo := 0) (hi := 10000) F dX4_putNextNumber_60 r_9 hk_23 rfl (fun z_24 hz_24 => ?_)
        refine lv_istore_n (lv' := [(3, .int z_24), (2, .int u_13), (0, .ref a0), (1, .int a1), (4, .int z_12)]) F.1 F.2.1 dX4_putNextNumber_61 rfl hl (by decide) rfl (fun ls hl => ?_)
        refine lv_goto (tgt := 11) F.1 F.2.1 dX4_putNextNumber_62 (by decide) ?_
        exact ih_11 (u_13, z_24) _ _ _ ⟨(show (z_24.toInt).toNat < n_11 from by omega), (wkb r_16 rfl rfl), (wkb hz_24.2 rfl rfl), hH, hS, lv_sub hl [2, 3, 1, 0] rfl⟩
    refine wjoin (σ := Unit) (pcj := 37) (stj := fun x9 => []) (fun x9 H locs ls => TH E (tbC dA dB (riverD (.inl Fa1) (.inl Fb1) (.inl (0, 4)) 31 33 35 39 43 47) (riverD (.inl Fa2) (.inl Fb2) (.inl (0, 4)) 32 34 36 40 44 48) rc rd tp A14F A14F A4F A4F A14F A14F (riverD (.inl Fa3) (.inl Fb3) (.inl (0, 4)) 3 8 3 41 45 49) (riverD (.inl Fa4) (.inl Fb4) (.inl (0, 4)) 3 8 3 42 46 50) ((.inr (.inl (0, 12, Pd1)))) ((.inr (.inl (0, 12, Pd2)))) ((.inr (.inl (0, 12, Pd3)))) ((.inr (.inl (0, 12, Pd4)))) ((.inr (.inl (0, 12, Ps1)))) ((.inr (.inl (0, 12, Ps2)))) ((.inr (.inl (0, 12, Ps3)))) ((.inr (.inl (0, 12, Ps4)))) ((.inr (.inl (0, 48, Pi1)))) ((.inr (.inl (0, 48, Pi2)))) ((.inr (.inl (0, 48, Pi3)))) ((.inr (.inl (0, 48, Pi4))))) H ∧ va_S (eA E s.heap.size) s.heap H locs ∧ lv_has ls 5 [(0, .ref a0), (1, .int a1), (3, .int u_6), (4, .int z_12)]) (fun x9 H locs ls h_ => ?_) (fun J_37 => ?_)
    · skip
      obtain ⟨hH, hS, hl⟩ := h_
      have hH : TH E (tbC dA dB (riverD (.inl Fa1) (.inl Fb1) (.inl (0, 4)) 31 33 35 39 43 47) (riverD (.inl Fa2) (.inl Fb2) (.inl (0, 4)) 32 34 36 40 44 48) rc rd tp A14F A14F A4F A4F A14F A14F (riverD (.inl Fa3) (.inl Fb3) (.inl (0, 4)) 3 8 3 41 45 49) (riverD (.inl Fa4) (.inl Fb4) (.inl (0, 4)) 3 8 3 42 46 50) ((.inr (.inl (0, 12, Pd1)))) ((.inr (.inl (0, 12, Pd2)))) ((.inr (.inl (0, 12, Pd3)))) ((.inr (.inl (0, 12, Pd4)))) ((.inr (.inl (0, 12, Ps1)))) ((.inr (.inl (0, 12, Ps2)))) ((.inr (.inl (0, 12, Ps3)))) ((.inr (.inl (0, 12, Ps4)))) ((.inr (.inl (0, 48, Pi1)))) ((.inr (.inl (0, 48, Pi2)))) ((.inr (.inl (0, 48, Pi3)))) ((.inr (.inl (0, 48, Pi4))))) H := hH
      have hl : lv_has ls 5 [(0, .ref a0), (1, .int a1), (3, .int u_6), (4, .int z_12)] := hl
      show W _ _ _ _ _ _ _ _ _ _ _ _ _ _ _ (F0 _ _ _ [])
      refine lv_iconst (v := 1) F.1 F.2.1 dX4_putNextNumber_37 (by decide) ?_
      refine topK (a := 1) (by decide) (fun k_25 hk_25 => ?_)
      refine lv_goto (tgt := 42) F.1 F.2.1 dX4_putNextNumber_38 (by decide) ?_
      exact J_42 (k_25) _ _ _ ⟨(wkb (eqb hk_25) rfl rfl), hH, hS, lv_sub hl [0, 1, 2, 3] rfl⟩
    refine z_ne (tgt := 37) F dX4_putNextNumber_24 (by decide) (fun c_26 => ?_) (fun c_26 => ?_)
    · skip
      have r_27 : 1 ≤ u_5.toInt ∧ u_5.toInt ≤ 1 := by have h9_ := hu_5; omega
      exact J_37 () _ _ _ ⟨hH, hS, lv_sub hl [1, 2, 4, 0] rfl⟩
    · skip
      have r_28 : 0 ≤ u_5.toInt ∧ u_5.toInt ≤ 0 := by have h9_ := hu_5; omega
      refine lv_iload F.1 F.2.1 dX4_putNextNumber_27 (lv_at hl 0 rfl) ?_
      refine z_gt (tgt := 37) F dX4_putNextNumber_29 (by decide) (fun c_29 => ?_) (fun c_29 => ?_)
      · skip
        have r_30 : 1 ≤ z_12.toInt ∧ z_12.toInt ≤ 2147483647 := by have h9_ := (i32b z_12); omega
        exact J_37 () _ _ _ ⟨hH, hS, lv_sub hl [1, 2, 4, 0] rfl⟩
      · skip
        have r_31 : (-2147483648) ≤ z_12.toInt ∧ z_12.toInt ≤ 0 := by have h9_ := (i32b z_12); omega
        refine lv_iload_n F.1 F.2.1 dX4_putNextNumber_32 rfl (lv_at hl 4 rfl) ?_
        refine lv_iconst (v := 1) F.1 F.2.1 dX4_putNextNumber_33 (by decide) ?_
        refine topK (a := 1) (by decide) (fun k_32 hk_32 => ?_)
        refine b_ne (tgt := 41) F dX4_putNextNumber_34 (by decide) (fun c_33 => ?_) (fun c_33 => ?_)
        · skip
          have r_34 : 2 ≤ u_6.toInt ∧ u_6.toInt ≤ 100000 := by have h9_ := r_9; omega
          refine lv_iconst (v := 0) F.1 F.2.1 dX4_putNextNumber_41 (by decide) ?_
          refine topK (a := 0) (by decide) (fun k_36 hk_36 => ?_)
          exact J_42 (k_36) _ _ _ ⟨(wkb (eqb hk_36) rfl rfl), hH, hS, lv_sub hl [1, 2, 4, 0] rfl⟩
        · skip
          have r_35 : 1 ≤ u_6.toInt ∧ u_6.toInt ≤ 1 := by have h9_ := r_9; omega
          exact J_37 () _ _ _ ⟨hH, hS, lv_sub hl [1, 2, 4, 0] rfl⟩
set_option maxHeartbeats 4000000 in
set_option maxRecDepth 100000 in
theorem c_X4_writeStore (E : Ev) (dA : TD) (dB : TD) (rc : TD) (rd : TD) (tp : TD) (Fa1 : Int × Int) (Fb1 : Int × Int) (Fa2 : Int × Int) (Fb2 : Int × Int) (Fa3 : Int × Int) (Fb3 : Int × Int) (Fa4 : Int × Int) (Fb4 : Int × Int) (Pd1 : (Nat → Int32) → Prop) (Pd2 : (Nat → Int32) → Prop) (Pd3 : (Nat → Int32) → Prop) (Pd4 : (Nat → Int32) → Prop) (Ps1 : (Nat → Int32) → Prop) (Ps2 : (Nat → Int32) → Prop) (Ps3 : (Nat → Int32) → Prop) (Ps4 : (Nat → Int32) → Prop) (Pi1 : (Nat → Int32) → Prop) (Pi2 : (Nat → Int32) → Prop) (Pi3 : (Nat → Int32) → Prop) (Pi4 : (Nat → Int32) → Prop) (a0 : Nat) (a1 : Int32) (ha0 : eT E a0 ∈ [23]) (ha1 : 0 ≤ a1.toInt ∧ a1.toInt ≤ 3) (hFa1 : 0 ≤ Fa1.1 ∧ Fa1.2 ≤ 12) (hFb1 : 0 ≤ Fb1.1 ∧ Fb1.2 ≤ 14) (hFa2 : 0 ≤ Fa2.1 ∧ Fa2.2 ≤ 12) (hFb2 : 0 ≤ Fb2.1 ∧ Fb2.2 ≤ 14) (hFa3 : 0 ≤ Fa3.1 ∧ Fa3.2 ≤ 12) (hFb3 : 0 ≤ Fb3.1 ∧ Fb3.2 ≤ 14) (hFa4 : 0 ≤ Fa4.1 ∧ Fa4.2 ≤ 12) (hFb4 : 0 ≤ Fb4.1 ∧ Fb4.2 ≤ 14) (hPd1 : ∀ f, Pd1 f → ivP 12 (-2) 11 f) (hPd2 : ∀ f, Pd2 f → ivP 12 (-2) 11 f) (hPd3 : ∀ f, Pd3 f → ivP 12 (-2) 11 f) (hPd4 : ∀ f, Pd4 f → ivP 12 (-2) 11 f) (hPs1 : ∀ f, Ps1 f → ivP 12 (-2147483648) 2147483647 f) (hPs2 : ∀ f, Ps2 f → ivP 12 (-2147483648) 2147483647 f) (hPs3 : ∀ f, Ps3 f → ivP 12 (-2147483648) 2147483647 f) (hPs4 : ∀ f, Ps4 f → ivP 12 (-2147483648) 2147483647 f) (hPi1 : ∀ f, Pi1 f → ivP 48 (-2147483648) 2147483647 f) (hPi2 : ∀ f, Pi2 f → ivP 48 (-2147483648) 2147483647 f) (hPi3 : ∀ f, Pi3 f → ivP 48 (-2147483648) 2147483647 f) (hPi4 : ∀ f, Pi4 f → ivP 48 (-2147483648) 2147483647 f) : TcV E yX4_writeStore cX4_writeStore 2 ({ frames := 7, cells := 0, slots := 0, locals := 224 }) [.ref a0, .int a1] (fun H => TH E (tbC dA dB (riverD (.inl Fa1) (.inl Fb1) (.inl (0, 4)) 31 33 35 39 43 47) (riverD (.inl Fa2) (.inl Fb2) (.inl (0, 4)) 32 34 36 40 44 48) rc rd tp A14F A14F A4F A4F A14F A14F (riverD (.inl Fa3) (.inl Fb3) (.inl (0, 4)) 3 8 3 41 45 49) (riverD (.inl Fa4) (.inl Fb4) (.inl (0, 4)) 3 8 3 42 46 50) ((.inr (.inl (0, 12, Pd1)))) ((.inr (.inl (0, 12, Pd2)))) ((.inr (.inl (0, 12, Pd3)))) ((.inr (.inl (0, 12, Pd4)))) ((.inr (.inl (0, 12, Ps1)))) ((.inr (.inl (0, 12, Ps2)))) ((.inr (.inl (0, 12, Ps3)))) ((.inr (.inl (0, 12, Ps4)))) ((.inr (.inl (0, 48, Pi1)))) ((.inr (.inl (0, 48, Pi2)))) ((.inr (.inl (0, 48, Pi3)))) ((.inr (.inl (0, 48, Pi4))))) H) (fun H => TH E (tbC dA dB (riverD (.inl Fa1) (.inl Fb1) (.inl (0, 4)) 31 33 35 39 43 47) (riverD (.inl Fa2) (.inl Fb2) (.inl (0, 4)) 32 34 36 40 44 48) rc rd tp A14F A14F A4F A4F A14F A14F (riverD (.inl Fa3) (.inl Fb3) (.inl (0, 4)) 3 8 3 41 45 49) (riverD (.inl Fa4) (.inl Fb4) (.inl (0, 4)) 3 8 3 42 46 50) ((.inr (.inl (0, 12, Pd1)))) ((.inr (.inl (0, 12, Pd2)))) ((.inr (.inl (0, 12, Pd3)))) ((.inr (.inl (0, 12, Pd4)))) ((.inr (.inl (0, 12, Ps1)))) ((.inr (.inl (0, 12, Ps2)))) ((.inr (.inl (0, 12, Ps3)))) ((.inr (.inl (0, 12, Ps4)))) ((.inr (.inl (0, 48, Pi1)))) ((.inr (.inl (0, 48, Pi2)))) ((.inr (.inl (0, 48, Pi3)))) ((.inr (.inl (0, 48, Pi4))))) H) := by
  refine teV (by decide) (Nat.le_of_ble_eq_true rfl) ?_
  intro p_ ev_ s mi_ below_ meth cd_ ls F hK hN hO hH hS hl
  have hH : TH E (tbC dA dB (riverD (.inl Fa1) (.inl Fb1) (.inl (0, 4)) 31 33 35 39 43 47) (riverD (.inl Fa2) (.inl Fb2) (.inl (0, 4)) 32 34 36 40 44 48) rc rd tp A14F A14F A4F A4F A14F A14F (riverD (.inl Fa3) (.inl Fb3) (.inl (0, 4)) 3 8 3 41 45 49) (riverD (.inl Fa4) (.inl Fb4) (.inl (0, 4)) 3 8 3 42 46 50) ((.inr (.inl (0, 12, Pd1)))) ((.inr (.inl (0, 12, Pd2)))) ((.inr (.inl (0, 12, Pd3)))) ((.inr (.inl (0, 12, Pd4)))) ((.inr (.inl (0, 12, Ps1)))) ((.inr (.inl (0, 12, Ps2)))) ((.inr (.inl (0, 12, Ps3)))) ((.inr (.inl (0, 12, Ps4)))) ((.inr (.inl (0, 48, Pi1)))) ((.inr (.inl (0, 48, Pi2)))) ((.inr (.inl (0, 48, Pi3)))) ((.inr (.inl (0, 48, Pi4))))) s.heap := hH
  have hl : lv_has ls 2 [(0, .ref a0), (1, .int a1)] := hl
  refine lv_aload_n F.1 F.2.1 dX4_writeStore_0 rfl (lv_at hl 0 rfl) ?_
  refine va_ldcS F.1 F.2.1 F.2.2.2.2.1 (hO.1 16 _ rfl).1 dX4_writeStore_1 ?_
  refine tVv (b := a0) (As := [.ref (eX E 16)]) (rest := []) F hK hN hO (c_X4_beginPart E dA dB rc rd tp Fa1 Fb1 Fa2 Fb2 Fa3 Fb3 Fa4 Fb4 Pd1 Pd2 Pd3 Pd4 Ps1 Ps2 Ps3 Ps4 Pi1 Pi2 Pi3 Pi4 a0 16 5 ha0 (strAt 16 rfl) hFa1 hFb1 hFa2 hFb2 hFa3 hFb3 hFa4 hFb4 hPd1 hPd2 hPd3 hPd4 hPs1 hPs2 hPs3 hPs4 hPi1 hPi2 hPi3 hPi4) mv_X4_beginPart wd_53_12 ⟨Nat.le_of_ble_eq_true rfl, Nat.le_of_ble_eq_true rfl⟩ ⟨Nat.le_of_ble_eq_true rfl, Nat.le_of_ble_eq_true rfl⟩ hH hS (tRecv hK hH (tyb ha0 (all1 rfl)) clX4) rfl hl.1 (Nat.le_of_ble_eq_true rfl) dX4_writeStore_3 (fun H locs hq hS => ?_)
  have hH := hq
  have hH : TH E (tbC dA dB (riverD (.inl Fa1) (.inl Fb1) (.inl (0, 4)) 31 33 35 39 43 47) (riverD (.inl Fa2) (.inl Fb2) (.inl (0, 4)) 32 34 36 40 44 48) rc rd tp A14F A14F A4F A4F A14F A14F (riverD (.inl Fa3) (.inl Fb3) (.inl (0, 4)) 3 8 3 41 45 49) (riverD (.inl Fa4) (.inl Fb4) (.inl (0, 4)) 3 8 3 42 46 50) ((.inr (.inl (0, 12, Pd1)))) ((.inr (.inl (0, 12, Pd2)))) ((.inr (.inl (0, 12, Pd3)))) ((.inr (.inl (0, 12, Pd4)))) ((.inr (.inl (0, 12, Ps1)))) ((.inr (.inl (0, 12, Ps2)))) ((.inr (.inl (0, 12, Ps3)))) ((.inr (.inl (0, 12, Ps4)))) ((.inr (.inl (0, 48, Pi1)))) ((.inr (.inl (0, 48, Pi2)))) ((.inr (.inl (0, 48, Pi3)))) ((.inr (.inl (0, 48, Pi4))))) H := hH
  refine lv_aload_n F.1 F.2.1 dX4_writeStore_6 rfl (lv_at hl 0 rfl) ?_
  refine lv_aload_n F.1 F.2.1 dX4_writeStore_7 rfl (lv_at hl 0 rfl) ?_
  refine tGetR0 (j := 0) F hK hH (tyb ha0 (all1 rfl)) rfl clX4 (by decide) wd_5_23 dX4_writeStore_8 (fun q_2 hq_2 => ?_)
  refine tGetRM (j := 15) (L := [9]) F hK hH hq_2 (alls ⟨_, _, rfl, rfl, by decide⟩ (alls1 ⟨_, _, rfl, rfl, by decide⟩)) (all1 rfl) clX2 (by decide) wd_55_4 dX4_writeStore_11 (fun q_3 hq_3 _ => ?_)
  refine lv_iload_n F.1 F.2.1 dX4_writeStore_14 rfl (lv_at hl 1 rfl) ?_
  refine tIaldB F hK hH (tyb hq_3 (all1 rfl)) (ixb (n := 4) ha1 rfl rfl) dX4_writeStore_15 (fun z_4 hz_4 => ?_)
  refine tVv (b := a0) (As := [.int z_4]) (rest := []) F hK hN hO (c_X4_putNextNumber E dA dB rc rd tp Fa1 Fb1 Fa2 Fb2 Fa3 Fb3 Fa4 Fb4 Pd1 Pd2 Pd3 Pd4 Ps1 Ps2 Ps3 Ps4 Pi1 Pi2 Pi3 Pi4 a0 z_4 ha0 hFa1 hFb1 hFa2 hFb2 hFa3 hFb3 hFa4 hFb4 hPd1 hPd2 hPd3 hPd4 hPs1 hPs2 hPs3 hPs4 hPi1 hPi2 hPi3 hPi4) mv_X4_putNextNumber wd_54_6 ⟨Nat.le_of_ble_eq_true rfl, Nat.le_of_ble_eq_true rfl⟩ ⟨Nat.le_of_ble_eq_true rfl, Nat.le_of_ble_eq_true rfl⟩ hH hS (tRecv hK hH (tyb ha0 (all1 rfl)) clX4) rfl hl.1 (Nat.le_of_ble_eq_true rfl) dX4_writeStore_16 (fun H locs hq hS => ?_)
  have hH := hq
  have hH : TH E (tbC dA dB (riverD (.inl Fa1) (.inl Fb1) (.inl (0, 4)) 31 33 35 39 43 47) (riverD (.inl Fa2) (.inl Fb2) (.inl (0, 4)) 32 34 36 40 44 48) rc rd tp A14F A14F A4F A4F A14F A14F (riverD (.inl Fa3) (.inl Fb3) (.inl (0, 4)) 3 8 3 41 45 49) (riverD (.inl Fa4) (.inl Fb4) (.inl (0, 4)) 3 8 3 42 46 50) ((.inr (.inl (0, 12, Pd1)))) ((.inr (.inl (0, 12, Pd2)))) ((.inr (.inl (0, 12, Pd3)))) ((.inr (.inl (0, 12, Pd4)))) ((.inr (.inl (0, 12, Ps1)))) ((.inr (.inl (0, 12, Ps2)))) ((.inr (.inl (0, 12, Ps3)))) ((.inr (.inl (0, 12, Ps4)))) ((.inr (.inl (0, 48, Pi1)))) ((.inr (.inl (0, 48, Pi2)))) ((.inr (.inl (0, 48, Pi3)))) ((.inr (.inl (0, 48, Pi4))))) H := hH
  refine lv_aload_n F.1 F.2.1 dX4_writeStore_19 rfl (lv_at hl 0 rfl) ?_
  refine lv_aload_n F.1 F.2.1 dX4_writeStore_20 rfl (lv_at hl 0 rfl) ?_
  refine tGetR0 (j := 0) F hK hH (tyb ha0 (all1 rfl)) rfl clX4 (by decide) wd_5_23 dX4_writeStore_21 (fun q_6 hq_6 => ?_)
  refine tGetRM (j := 16) (L := [8]) F hK hH hq_6 (alls ⟨_, _, rfl, rfl, by decide⟩ (alls1 ⟨_, _, rfl, rfl, by decide⟩)) (all1 rfl) clX2 (by decide) wd_55_5 dX4_writeStore_24 (fun q_7 hq_7 _ => ?_)
  refine lv_iload_n F.1 F.2.1 dX4_writeStore_27 rfl (lv_at hl 1 rfl) ?_
  refine tIaldB F hK hH (tyb hq_7 (all1 rfl)) (ixb (n := 4) ha1 rfl rfl) dX4_writeStore_28 (fun z_8 hz_8 => ?_)
  refine tVv (b := a0) (As := [.int z_8]) (rest := []) F hK hN hO (c_X4_putNextNumber E dA dB rc rd tp Fa1 Fb1 Fa2 Fb2 Fa3 Fb3 Fa4 Fb4 Pd1 Pd2 Pd3 Pd4 Ps1 Ps2 Ps3 Ps4 Pi1 Pi2 Pi3 Pi4 a0 z_8 ha0 hFa1 hFb1 hFa2 hFb2 hFa3 hFb3 hFa4 hFb4 hPd1 hPd2 hPd3 hPd4 hPs1 hPs2 hPs3 hPs4 hPi1 hPi2 hPi3 hPi4) mv_X4_putNextNumber wd_54_6 ⟨Nat.le_of_ble_eq_true rfl, Nat.le_of_ble_eq_true rfl⟩ ⟨Nat.le_of_ble_eq_true rfl, Nat.le_of_ble_eq_true rfl⟩ hH hS (tRecv hK hH (tyb ha0 (all1 rfl)) clX4) rfl hl.1 (Nat.le_of_ble_eq_true rfl) dX4_writeStore_29 (fun H locs hq hS => ?_)
  have hH := hq
  have hH : TH E (tbC dA dB (riverD (.inl Fa1) (.inl Fb1) (.inl (0, 4)) 31 33 35 39 43 47) (riverD (.inl Fa2) (.inl Fb2) (.inl (0, 4)) 32 34 36 40 44 48) rc rd tp A14F A14F A4F A4F A14F A14F (riverD (.inl Fa3) (.inl Fb3) (.inl (0, 4)) 3 8 3 41 45 49) (riverD (.inl Fa4) (.inl Fb4) (.inl (0, 4)) 3 8 3 42 46 50) ((.inr (.inl (0, 12, Pd1)))) ((.inr (.inl (0, 12, Pd2)))) ((.inr (.inl (0, 12, Pd3)))) ((.inr (.inl (0, 12, Pd4)))) ((.inr (.inl (0, 12, Ps1)))) ((.inr (.inl (0, 12, Ps2)))) ((.inr (.inl (0, 12, Ps3)))) ((.inr (.inl (0, 12, Ps4)))) ((.inr (.inl (0, 48, Pi1)))) ((.inr (.inl (0, 48, Pi2)))) ((.inr (.inl (0, 48, Pi3)))) ((.inr (.inl (0, 48, Pi4))))) H := hH
  refine lv_aload_n F.1 F.2.1 dX4_writeStore_32 rfl (lv_at hl 0 rfl) ?_
  refine lv_aload_n F.1 F.2.1 dX4_writeStore_33 rfl (lv_at hl 0 rfl) ?_
  refine tGetR0 (j := 0) F hK hH (tyb ha0 (all1 rfl)) rfl clX4 (by decide) wd_5_23 dX4_writeStore_34 (fun q_10 hq_10 => ?_)
  refine tGetRM (j := 17) (L := [8]) F hK hH hq_10 (alls ⟨_, _, rfl, rfl, by decide⟩ (alls1 ⟨_, _, rfl, rfl, by decide⟩)) (all1 rfl) clX2 (by decide) wd_55_6 dX4_writeStore_37 (fun q_11 hq_11 _ => ?_)
  refine lv_iload_n F.1 F.2.1 dX4_writeStore_40 rfl (lv_at hl 1 rfl) ?_
  refine tIaldB F hK hH (tyb hq_11 (all1 rfl)) (ixb (n := 4) ha1 rfl rfl) dX4_writeStore_41 (fun z_12 hz_12 => ?_)
  refine tVv (b := a0) (As := [.int z_12]) (rest := []) F hK hN hO (c_X4_putNextNumber E dA dB rc rd tp Fa1 Fb1 Fa2 Fb2 Fa3 Fb3 Fa4 Fb4 Pd1 Pd2 Pd3 Pd4 Ps1 Ps2 Ps3 Ps4 Pi1 Pi2 Pi3 Pi4 a0 z_12 ha0 hFa1 hFb1 hFa2 hFb2 hFa3 hFb3 hFa4 hFb4 hPd1 hPd2 hPd3 hPd4 hPs1 hPs2 hPs3 hPs4 hPi1 hPi2 hPi3 hPi4) mv_X4_putNextNumber wd_54_6 ⟨Nat.le_of_ble_eq_true rfl, Nat.le_of_ble_eq_true rfl⟩ ⟨Nat.le_of_ble_eq_true rfl, Nat.le_of_ble_eq_true rfl⟩ hH hS (tRecv hK hH (tyb ha0 (all1 rfl)) clX4) rfl hl.1 (Nat.le_of_ble_eq_true rfl) dX4_writeStore_42 (fun H locs hq hS => ?_)
  have hH := hq
  have hH : TH E (tbC dA dB (riverD (.inl Fa1) (.inl Fb1) (.inl (0, 4)) 31 33 35 39 43 47) (riverD (.inl Fa2) (.inl Fb2) (.inl (0, 4)) 32 34 36 40 44 48) rc rd tp A14F A14F A4F A4F A14F A14F (riverD (.inl Fa3) (.inl Fb3) (.inl (0, 4)) 3 8 3 41 45 49) (riverD (.inl Fa4) (.inl Fb4) (.inl (0, 4)) 3 8 3 42 46 50) ((.inr (.inl (0, 12, Pd1)))) ((.inr (.inl (0, 12, Pd2)))) ((.inr (.inl (0, 12, Pd3)))) ((.inr (.inl (0, 12, Pd4)))) ((.inr (.inl (0, 12, Ps1)))) ((.inr (.inl (0, 12, Ps2)))) ((.inr (.inl (0, 12, Ps3)))) ((.inr (.inl (0, 12, Ps4)))) ((.inr (.inl (0, 48, Pi1)))) ((.inr (.inl (0, 48, Pi2)))) ((.inr (.inl (0, 48, Pi3)))) ((.inr (.inl (0, 48, Pi4))))) H := hH
  refine lv_aload_n F.1 F.2.1 dX4_writeStore_45 rfl (lv_at hl 0 rfl) ?_
  refine va_ldcS F.1 F.2.1 F.2.2.2.2.1 (hO.1 13 _ rfl).1 dX4_writeStore_46 ?_
  refine tVv (b := a0) (As := [.ref (eX E 13)]) (rest := []) F hK hN hO (c_X4_putNextWord E dA dB rc rd tp Fa1 Fb1 Fa2 Fb2 Fa3 Fb3 Fa4 Fb4 Pd1 Pd2 Pd3 Pd4 Ps1 Ps2 Ps3 Ps4 Pi1 Pi2 Pi3 Pi4 a0 13 3 ha0 (strAt 13 rfl) hFa1 hFb1 hFa2 hFb2 hFa3 hFb3 hFa4 hFb4 hPd1 hPd2 hPd3 hPd4 hPs1 hPs2 hPs3 hPs4 hPi1 hPi2 hPi3 hPi4) mv_X4_putNextWord wd_54_2 ⟨Nat.le_of_ble_eq_true rfl, Nat.le_of_ble_eq_true rfl⟩ ⟨Nat.le_of_ble_eq_true rfl, Nat.le_of_ble_eq_true rfl⟩ hH hS (tRecv hK hH (tyb ha0 (all1 rfl)) clX4) rfl hl.1 (Nat.le_of_ble_eq_true rfl) dX4_writeStore_48 (fun H locs hq hS => ?_)
  have hH := hq
  have hH : TH E (tbC dA dB (riverD (.inl Fa1) (.inl Fb1) (.inl (0, 4)) 31 33 35 39 43 47) (riverD (.inl Fa2) (.inl Fb2) (.inl (0, 4)) 32 34 36 40 44 48) rc rd tp A14F A14F A4F A4F A14F A14F (riverD (.inl Fa3) (.inl Fb3) (.inl (0, 4)) 3 8 3 41 45 49) (riverD (.inl Fa4) (.inl Fb4) (.inl (0, 4)) 3 8 3 42 46 50) ((.inr (.inl (0, 12, Pd1)))) ((.inr (.inl (0, 12, Pd2)))) ((.inr (.inl (0, 12, Pd3)))) ((.inr (.inl (0, 12, Pd4)))) ((.inr (.inl (0, 12, Ps1)))) ((.inr (.inl (0, 12, Ps2)))) ((.inr (.inl (0, 12, Ps3)))) ((.inr (.inl (0, 12, Ps4)))) ((.inr (.inl (0, 48, Pi1)))) ((.inr (.inl (0, 48, Pi2)))) ((.inr (.inl (0, 48, Pi3)))) ((.inr (.inl (0, 48, Pi4))))) H := hH
  refine lv_aload_n F.1 F.2.1 dX4_writeStore_51 rfl (lv_at hl 0 rfl) ?_
  refine lv_aload_n F.1 F.2.1 dX4_writeStore_52 rfl (lv_at hl 0 rfl) ?_
  refine tGetR0 (j := 0) F hK hH (tyb ha0 (all1 rfl)) rfl clX4 (by decide) wd_5_23 dX4_writeStore_53 (fun q_15 hq_15 => ?_)
  refine tGetRM (j := 18) (L := [33, 34]) F hK hH hq_15 (alls ⟨_, _, rfl, rfl, by decide⟩ (alls1 ⟨_, _, rfl, rfl, by decide⟩)) (all2 rfl rfl) clX2 (by decide) wd_55_7 dX4_writeStore_56 (fun q_16 hq_16 _ => ?_)
  refine lv_iload_n F.1 F.2.1 dX4_writeStore_59 rfl (lv_at hl 1 rfl) ?_
  refine tIaldB F hK hH (tyb hq_16 (all2 rfl rfl)) (ixb (n := 4) ha1 rfl rfl) dX4_writeStore_60 (fun z_17 hz_17 => ?_)
  refine tVv (b := a0) (As := [.int z_17]) (rest := []) F hK hN hO (c_X4_putNextNumber E dA dB rc rd tp Fa1 Fb1 Fa2 Fb2 Fa3 Fb3 Fa4 Fb4 Pd1 Pd2 Pd3 Pd4 Ps1 Ps2 Ps3 Ps4 Pi1 Pi2 Pi3 Pi4 a0 z_17 ha0 hFa1 hFb1 hFa2 hFb2 hFa3 hFb3 hFa4 hFb4 hPd1 hPd2 hPd3 hPd4 hPs1 hPs2 hPs3 hPs4 hPi1 hPi2 hPi3 hPi4) mv_X4_putNextNumber wd_54_6 ⟨Nat.le_of_ble_eq_true rfl, Nat.le_of_ble_eq_true rfl⟩ ⟨Nat.le_of_ble_eq_true rfl, Nat.le_of_ble_eq_true rfl⟩ hH hS (tRecv hK hH (tyb ha0 (all1 rfl)) clX4) rfl hl.1 (Nat.le_of_ble_eq_true rfl) dX4_writeStore_61 (fun H locs hq hS => ?_)
  have hH := hq
  have hH : TH E (tbC dA dB (riverD (.inl Fa1) (.inl Fb1) (.inl (0, 4)) 31 33 35 39 43 47) (riverD (.inl Fa2) (.inl Fb2) (.inl (0, 4)) 32 34 36 40 44 48) rc rd tp A14F A14F A4F A4F A14F A14F (riverD (.inl Fa3) (.inl Fb3) (.inl (0, 4)) 3 8 3 41 45 49) (riverD (.inl Fa4) (.inl Fb4) (.inl (0, 4)) 3 8 3 42 46 50) ((.inr (.inl (0, 12, Pd1)))) ((.inr (.inl (0, 12, Pd2)))) ((.inr (.inl (0, 12, Pd3)))) ((.inr (.inl (0, 12, Pd4)))) ((.inr (.inl (0, 12, Ps1)))) ((.inr (.inl (0, 12, Ps2)))) ((.inr (.inl (0, 12, Ps3)))) ((.inr (.inl (0, 12, Ps4)))) ((.inr (.inl (0, 48, Pi1)))) ((.inr (.inl (0, 48, Pi2)))) ((.inr (.inl (0, 48, Pi3)))) ((.inr (.inl (0, 48, Pi4))))) H := hH
  exact txV F hS dX4_writeStore_64 (hH)
set_option maxHeartbeats 4000000 in
set_option maxRecDepth 100000 in
theorem c_X4_writeRight (E : Ev) (dA : TD) (dB : TD) (rc : TD) (rd : TD) (tp : TD) (Fa1 : Int × Int) (Fb1 : Int × Int) (Fa2 : Int × Int) (Fb2 : Int × Int) (Fa3 : Int × Int) (Fb3 : Int × Int) (Fa4 : Int × Int) (Fb4 : Int × Int) (Pd1 : (Nat → Int32) → Prop) (Pd2 : (Nat → Int32) → Prop) (Pd3 : (Nat → Int32) → Prop) (Pd4 : (Nat → Int32) → Prop) (Ps1 : (Nat → Int32) → Prop) (Ps2 : (Nat → Int32) → Prop) (Ps3 : (Nat → Int32) → Prop) (Ps4 : (Nat → Int32) → Prop) (Pi1 : (Nat → Int32) → Prop) (Pi2 : (Nat → Int32) → Prop) (Pi3 : (Nat → Int32) → Prop) (Pi4 : (Nat → Int32) → Prop) (a0 : Nat) (a1 : Int32) (ha0 : eT E a0 ∈ [23]) (ha1 : 0 ≤ a1.toInt ∧ a1.toInt ≤ 13) (hFa1 : 0 ≤ Fa1.1 ∧ Fa1.2 ≤ 12) (hFb1 : 0 ≤ Fb1.1 ∧ Fb1.2 ≤ 14) (hFa2 : 0 ≤ Fa2.1 ∧ Fa2.2 ≤ 12) (hFb2 : 0 ≤ Fb2.1 ∧ Fb2.2 ≤ 14) (hFa3 : 0 ≤ Fa3.1 ∧ Fa3.2 ≤ 12) (hFb3 : 0 ≤ Fb3.1 ∧ Fb3.2 ≤ 14) (hFa4 : 0 ≤ Fa4.1 ∧ Fa4.2 ≤ 12) (hFb4 : 0 ≤ Fb4.1 ∧ Fb4.2 ≤ 14) (hPd1 : ∀ f, Pd1 f → ivP 12 (-2) 11 f) (hPd2 : ∀ f, Pd2 f → ivP 12 (-2) 11 f) (hPd3 : ∀ f, Pd3 f → ivP 12 (-2) 11 f) (hPd4 : ∀ f, Pd4 f → ivP 12 (-2) 11 f) (hPs1 : ∀ f, Ps1 f → ivP 12 (-2147483648) 2147483647 f) (hPs2 : ∀ f, Ps2 f → ivP 12 (-2147483648) 2147483647 f) (hPs3 : ∀ f, Ps3 f → ivP 12 (-2147483648) 2147483647 f) (hPs4 : ∀ f, Ps4 f → ivP 12 (-2147483648) 2147483647 f) (hPi1 : ∀ f, Pi1 f → ivP 48 (-2147483648) 2147483647 f) (hPi2 : ∀ f, Pi2 f → ivP 48 (-2147483648) 2147483647 f) (hPi3 : ∀ f, Pi3 f → ivP 48 (-2147483648) 2147483647 f) (hPi4 : ∀ f, Pi4 f → ivP 48 (-2147483648) 2147483647 f) : TcV E yX4_writeRight cX4_writeRight 2 ({ frames := 7, cells := 0, slots := 0, locals := 224 }) [.ref a0, .int a1] (fun H => TH E (tbC dA dB (riverD (.inl Fa1) (.inl Fb1) (.inl (0, 4)) 31 33 35 39 43 47) (riverD (.inl Fa2) (.inl Fb2) (.inl (0, 4)) 32 34 36 40 44 48) rc rd tp A14F A14F A4F A4F A14F A14F (riverD (.inl Fa3) (.inl Fb3) (.inl (0, 4)) 3 8 3 41 45 49) (riverD (.inl Fa4) (.inl Fb4) (.inl (0, 4)) 3 8 3 42 46 50) ((.inr (.inl (0, 12, Pd1)))) ((.inr (.inl (0, 12, Pd2)))) ((.inr (.inl (0, 12, Pd3)))) ((.inr (.inl (0, 12, Pd4)))) ((.inr (.inl (0, 12, Ps1)))) ((.inr (.inl (0, 12, Ps2)))) ((.inr (.inl (0, 12, Ps3)))) ((.inr (.inl (0, 12, Ps4)))) ((.inr (.inl (0, 48, Pi1)))) ((.inr (.inl (0, 48, Pi2)))) ((.inr (.inl (0, 48, Pi3)))) ((.inr (.inl (0, 48, Pi4))))) H) (fun H => TH E (tbC dA dB (riverD (.inl Fa1) (.inl Fb1) (.inl (0, 4)) 31 33 35 39 43 47) (riverD (.inl Fa2) (.inl Fb2) (.inl (0, 4)) 32 34 36 40 44 48) rc rd tp A14F A14F A4F A4F A14F A14F (riverD (.inl Fa3) (.inl Fb3) (.inl (0, 4)) 3 8 3 41 45 49) (riverD (.inl Fa4) (.inl Fb4) (.inl (0, 4)) 3 8 3 42 46 50) ((.inr (.inl (0, 12, Pd1)))) ((.inr (.inl (0, 12, Pd2)))) ((.inr (.inl (0, 12, Pd3)))) ((.inr (.inl (0, 12, Pd4)))) ((.inr (.inl (0, 12, Ps1)))) ((.inr (.inl (0, 12, Ps2)))) ((.inr (.inl (0, 12, Ps3)))) ((.inr (.inl (0, 12, Ps4)))) ((.inr (.inl (0, 48, Pi1)))) ((.inr (.inl (0, 48, Pi2)))) ((.inr (.inl (0, 48, Pi3)))) ((.inr (.inl (0, 48, Pi4))))) H) := by
  refine teV (by decide) (Nat.le_of_ble_eq_true rfl) ?_
  intro p_ ev_ s mi_ below_ meth cd_ ls F hK hN hO hH hS hl
  have hH : TH E (tbC dA dB (riverD (.inl Fa1) (.inl Fb1) (.inl (0, 4)) 31 33 35 39 43 47) (riverD (.inl Fa2) (.inl Fb2) (.inl (0, 4)) 32 34 36 40 44 48) rc rd tp A14F A14F A4F A4F A14F A14F (riverD (.inl Fa3) (.inl Fb3) (.inl (0, 4)) 3 8 3 41 45 49) (riverD (.inl Fa4) (.inl Fb4) (.inl (0, 4)) 3 8 3 42 46 50) ((.inr (.inl (0, 12, Pd1)))) ((.inr (.inl (0, 12, Pd2)))) ((.inr (.inl (0, 12, Pd3)))) ((.inr (.inl (0, 12, Pd4)))) ((.inr (.inl (0, 12, Ps1)))) ((.inr (.inl (0, 12, Ps2)))) ((.inr (.inl (0, 12, Ps3)))) ((.inr (.inl (0, 12, Ps4)))) ((.inr (.inl (0, 48, Pi1)))) ((.inr (.inl (0, 48, Pi2)))) ((.inr (.inl (0, 48, Pi3)))) ((.inr (.inl (0, 48, Pi4))))) s.heap := hH
  have hl : lv_has ls 2 [(0, .ref a0), (1, .int a1)] := hl
  refine lv_aload_n F.1 F.2.1 dX4_writeRight_0 rfl (lv_at hl 0 rfl) ?_
  refine va_ldcS F.1 F.2.1 F.2.2.2.2.1 (hO.1 12 _ rfl).1 dX4_writeRight_1 ?_
  refine tVv (b := a0) (As := [.ref (eX E 12)]) (rest := []) F hK hN hO (c_X4_beginPart E dA dB rc rd tp Fa1 Fb1 Fa2 Fb2 Fa3 Fb3 Fa4 Fb4 Pd1 Pd2 Pd3 Pd4 Ps1 Ps2 Ps3 Ps4 Pi1 Pi2 Pi3 Pi4 a0 12 5 ha0 (strAt 12 rfl) hFa1 hFb1 hFa2 hFb2 hFa3 hFb3 hFa4 hFb4 hPd1 hPd2 hPd3 hPd4 hPs1 hPs2 hPs3 hPs4 hPi1 hPi2 hPi3 hPi4) mv_X4_beginPart wd_53_12 ⟨Nat.le_of_ble_eq_true rfl, Nat.le_of_ble_eq_true rfl⟩ ⟨Nat.le_of_ble_eq_true rfl, Nat.le_of_ble_eq_true rfl⟩ hH hS (tRecv hK hH (tyb ha0 (all1 rfl)) clX4) rfl hl.1 (Nat.le_of_ble_eq_true rfl) dX4_writeRight_3 (fun H locs hq hS => ?_)
  have hH := hq
  have hH : TH E (tbC dA dB (riverD (.inl Fa1) (.inl Fb1) (.inl (0, 4)) 31 33 35 39 43 47) (riverD (.inl Fa2) (.inl Fb2) (.inl (0, 4)) 32 34 36 40 44 48) rc rd tp A14F A14F A4F A4F A14F A14F (riverD (.inl Fa3) (.inl Fb3) (.inl (0, 4)) 3 8 3 41 45 49) (riverD (.inl Fa4) (.inl Fb4) (.inl (0, 4)) 3 8 3 42 46 50) ((.inr (.inl (0, 12, Pd1)))) ((.inr (.inl (0, 12, Pd2)))) ((.inr (.inl (0, 12, Pd3)))) ((.inr (.inl (0, 12, Pd4)))) ((.inr (.inl (0, 12, Ps1)))) ((.inr (.inl (0, 12, Ps2)))) ((.inr (.inl (0, 12, Ps3)))) ((.inr (.inl (0, 12, Ps4)))) ((.inr (.inl (0, 48, Pi1)))) ((.inr (.inl (0, 48, Pi2)))) ((.inr (.inl (0, 48, Pi3)))) ((.inr (.inl (0, 48, Pi4))))) H := hH
  refine lv_aload_n F.1 F.2.1 dX4_writeRight_6 rfl (lv_at hl 0 rfl) ?_
  refine lv_aload_n F.1 F.2.1 dX4_writeRight_7 rfl (lv_at hl 0 rfl) ?_
  refine tGetR (j := 1) F hK hH (tyb ha0 (all1 rfl)) rfl (all1 rfl) clX4 (by decide) wd_6_0 dX4_writeRight_8 (fun q_2 hq_2 _ => ?_)
  refine tGetR (j := 2) F hK hH (tyb hq_2 (all1 rfl)) rfl (all1 rfl) clX5 (by decide) wd_54_15 dX4_writeRight_11 (fun q_3 hq_3 _ => ?_)
  refine lv_iload_n F.1 F.2.1 dX4_writeRight_14 rfl (lv_at hl 1 rfl) ?_
  refine tIaldB F hK hH (tyb hq_3 (all1 rfl)) (ixb (n := 14) ha1 rfl rfl) dX4_writeRight_15 (fun z_4 hz_4 => ?_)
  refine tVv (b := a0) (As := [.int z_4]) (rest := []) F hK hN hO (c_X4_putNextNumber E dA dB rc rd tp Fa1 Fb1 Fa2 Fb2 Fa3 Fb3 Fa4 Fb4 Pd1 Pd2 Pd3 Pd4 Ps1 Ps2 Ps3 Ps4 Pi1 Pi2 Pi3 Pi4 a0 z_4 ha0 hFa1 hFb1 hFa2 hFb2 hFa3 hFb3 hFa4 hFb4 hPd1 hPd2 hPd3 hPd4 hPs1 hPs2 hPs3 hPs4 hPi1 hPi2 hPi3 hPi4) mv_X4_putNextNumber wd_54_6 ⟨Nat.le_of_ble_eq_true rfl, Nat.le_of_ble_eq_true rfl⟩ ⟨Nat.le_of_ble_eq_true rfl, Nat.le_of_ble_eq_true rfl⟩ hH hS (tRecv hK hH (tyb ha0 (all1 rfl)) clX4) rfl hl.1 (Nat.le_of_ble_eq_true rfl) dX4_writeRight_16 (fun H locs hq hS => ?_)
  have hH := hq
  have hH : TH E (tbC dA dB (riverD (.inl Fa1) (.inl Fb1) (.inl (0, 4)) 31 33 35 39 43 47) (riverD (.inl Fa2) (.inl Fb2) (.inl (0, 4)) 32 34 36 40 44 48) rc rd tp A14F A14F A4F A4F A14F A14F (riverD (.inl Fa3) (.inl Fb3) (.inl (0, 4)) 3 8 3 41 45 49) (riverD (.inl Fa4) (.inl Fb4) (.inl (0, 4)) 3 8 3 42 46 50) ((.inr (.inl (0, 12, Pd1)))) ((.inr (.inl (0, 12, Pd2)))) ((.inr (.inl (0, 12, Pd3)))) ((.inr (.inl (0, 12, Pd4)))) ((.inr (.inl (0, 12, Ps1)))) ((.inr (.inl (0, 12, Ps2)))) ((.inr (.inl (0, 12, Ps3)))) ((.inr (.inl (0, 12, Ps4)))) ((.inr (.inl (0, 48, Pi1)))) ((.inr (.inl (0, 48, Pi2)))) ((.inr (.inl (0, 48, Pi3)))) ((.inr (.inl (0, 48, Pi4))))) H := hH
  refine lv_aload_n F.1 F.2.1 dX4_writeRight_19 rfl (lv_at hl 0 rfl) ?_
  refine lv_aload_n F.1 F.2.1 dX4_writeRight_20 rfl (lv_at hl 0 rfl) ?_
  refine tGetR0 (j := 0) F hK hH (tyb ha0 (all1 rfl)) rfl clX4 (by decide) wd_5_23 dX4_writeRight_21 (fun q_6 hq_6 => ?_)
  refine tGetRM (j := 6) (L := [3]) F hK hH hq_6 (alls ⟨_, _, rfl, rfl, by decide⟩ (alls1 ⟨_, _, rfl, rfl, by decide⟩)) (all1 rfl) clX2 (by decide) wd_54_16 dX4_writeRight_24 (fun q_7 hq_7 _ => ?_)
  refine lv_iload_n F.1 F.2.1 dX4_writeRight_27 rfl (lv_at hl 1 rfl) ?_
  refine tIaldB F hK hH (tyb hq_7 (all1 rfl)) (ixb (n := 14) ha1 rfl rfl) dX4_writeRight_28 (fun z_8 hz_8 => ?_)
  refine tVv (b := a0) (As := [.int z_8]) (rest := []) F hK hN hO (c_X4_putNextNumber E dA dB rc rd tp Fa1 Fb1 Fa2 Fb2 Fa3 Fb3 Fa4 Fb4 Pd1 Pd2 Pd3 Pd4 Ps1 Ps2 Ps3 Ps4 Pi1 Pi2 Pi3 Pi4 a0 z_8 ha0 hFa1 hFb1 hFa2 hFb2 hFa3 hFb3 hFa4 hFb4 hPd1 hPd2 hPd3 hPd4 hPs1 hPs2 hPs3 hPs4 hPi1 hPi2 hPi3 hPi4) mv_X4_putNextNumber wd_54_6 ⟨Nat.le_of_ble_eq_true rfl, Nat.le_of_ble_eq_true rfl⟩ ⟨Nat.le_of_ble_eq_true rfl, Nat.le_of_ble_eq_true rfl⟩ hH hS (tRecv hK hH (tyb ha0 (all1 rfl)) clX4) rfl hl.1 (Nat.le_of_ble_eq_true rfl) dX4_writeRight_29 (fun H locs hq hS => ?_)
  have hH := hq
  have hH : TH E (tbC dA dB (riverD (.inl Fa1) (.inl Fb1) (.inl (0, 4)) 31 33 35 39 43 47) (riverD (.inl Fa2) (.inl Fb2) (.inl (0, 4)) 32 34 36 40 44 48) rc rd tp A14F A14F A4F A4F A14F A14F (riverD (.inl Fa3) (.inl Fb3) (.inl (0, 4)) 3 8 3 41 45 49) (riverD (.inl Fa4) (.inl Fb4) (.inl (0, 4)) 3 8 3 42 46 50) ((.inr (.inl (0, 12, Pd1)))) ((.inr (.inl (0, 12, Pd2)))) ((.inr (.inl (0, 12, Pd3)))) ((.inr (.inl (0, 12, Pd4)))) ((.inr (.inl (0, 12, Ps1)))) ((.inr (.inl (0, 12, Ps2)))) ((.inr (.inl (0, 12, Ps3)))) ((.inr (.inl (0, 12, Ps4)))) ((.inr (.inl (0, 48, Pi1)))) ((.inr (.inl (0, 48, Pi2)))) ((.inr (.inl (0, 48, Pi3)))) ((.inr (.inl (0, 48, Pi4))))) H := hH
  refine lv_aload_n F.1 F.2.1 dX4_writeRight_32 rfl (lv_at hl 0 rfl) ?_
  refine lv_aload_n F.1 F.2.1 dX4_writeRight_33 rfl (lv_at hl 0 rfl) ?_
  refine tGetR0 (j := 0) F hK hH (tyb ha0 (all1 rfl)) rfl clX4 (by decide) wd_5_23 dX4_writeRight_34 (fun q_10 hq_10 => ?_)
  refine tGetRM (j := 7) (L := [35, 36]) F hK hH hq_10 (alls ⟨_, _, rfl, rfl, by decide⟩ (alls1 ⟨_, _, rfl, rfl, by decide⟩)) (all2 rfl rfl) clX2 (by decide) wd_54_17 dX4_writeRight_37 (fun q_11 hq_11 _ => ?_)
  refine lv_iload_n F.1 F.2.1 dX4_writeRight_40 rfl (lv_at hl 1 rfl) ?_
  refine tIaldB F hK hH (tyb hq_11 (all2 rfl rfl)) (ixb (n := 14) ha1 rfl rfl) dX4_writeRight_41 (fun z_12 hz_12 => ?_)
  refine tVv (b := a0) (As := [.int z_12]) (rest := []) F hK hN hO (c_X4_putNextNumber E dA dB rc rd tp Fa1 Fb1 Fa2 Fb2 Fa3 Fb3 Fa4 Fb4 Pd1 Pd2 Pd3 Pd4 Ps1 Ps2 Ps3 Ps4 Pi1 Pi2 Pi3 Pi4 a0 z_12 ha0 hFa1 hFb1 hFa2 hFb2 hFa3 hFb3 hFa4 hFb4 hPd1 hPd2 hPd3 hPd4 hPs1 hPs2 hPs3 hPs4 hPi1 hPi2 hPi3 hPi4) mv_X4_putNextNumber wd_54_6 ⟨Nat.le_of_ble_eq_true rfl, Nat.le_of_ble_eq_true rfl⟩ ⟨Nat.le_of_ble_eq_true rfl, Nat.le_of_ble_eq_true rfl⟩ hH hS (tRecv hK hH (tyb ha0 (all1 rfl)) clX4) rfl hl.1 (Nat.le_of_ble_eq_true rfl) dX4_writeRight_42 (fun H locs hq hS => ?_)
  have hH := hq
  have hH : TH E (tbC dA dB (riverD (.inl Fa1) (.inl Fb1) (.inl (0, 4)) 31 33 35 39 43 47) (riverD (.inl Fa2) (.inl Fb2) (.inl (0, 4)) 32 34 36 40 44 48) rc rd tp A14F A14F A4F A4F A14F A14F (riverD (.inl Fa3) (.inl Fb3) (.inl (0, 4)) 3 8 3 41 45 49) (riverD (.inl Fa4) (.inl Fb4) (.inl (0, 4)) 3 8 3 42 46 50) ((.inr (.inl (0, 12, Pd1)))) ((.inr (.inl (0, 12, Pd2)))) ((.inr (.inl (0, 12, Pd3)))) ((.inr (.inl (0, 12, Pd4)))) ((.inr (.inl (0, 12, Ps1)))) ((.inr (.inl (0, 12, Ps2)))) ((.inr (.inl (0, 12, Ps3)))) ((.inr (.inl (0, 12, Ps4)))) ((.inr (.inl (0, 48, Pi1)))) ((.inr (.inl (0, 48, Pi2)))) ((.inr (.inl (0, 48, Pi3)))) ((.inr (.inl (0, 48, Pi4))))) H := hH
  refine lv_aload_n F.1 F.2.1 dX4_writeRight_45 rfl (lv_at hl 0 rfl) ?_
  refine lv_aload_n F.1 F.2.1 dX4_writeRight_46 rfl (lv_at hl 0 rfl) ?_
  refine tGetR0 (j := 0) F hK hH (tyb ha0 (all1 rfl)) rfl clX4 (by decide) wd_5_23 dX4_writeRight_47 (fun q_14 hq_14 => ?_)
  refine tGetRM (j := 8) (L := [3]) F hK hH hq_14 (alls ⟨_, _, rfl, rfl, by decide⟩ (alls1 ⟨_, _, rfl, rfl, by decide⟩)) (all1 rfl) clX2 (by decide) wd_54_18 dX4_writeRight_50 (fun q_15 hq_15 _ => ?_)
  refine lv_iload_n F.1 F.2.1 dX4_writeRight_53 rfl (lv_at hl 1 rfl) ?_
  refine tIaldB F hK hH (tyb hq_15 (all1 rfl)) (ixb (n := 14) ha1 rfl rfl) dX4_writeRight_54 (fun z_16 hz_16 => ?_)
  refine tVv (b := a0) (As := [.int z_16]) (rest := []) F hK hN hO (c_X4_putNextNumber E dA dB rc rd tp Fa1 Fb1 Fa2 Fb2 Fa3 Fb3 Fa4 Fb4 Pd1 Pd2 Pd3 Pd4 Ps1 Ps2 Ps3 Ps4 Pi1 Pi2 Pi3 Pi4 a0 z_16 ha0 hFa1 hFb1 hFa2 hFb2 hFa3 hFb3 hFa4 hFb4 hPd1 hPd2 hPd3 hPd4 hPs1 hPs2 hPs3 hPs4 hPi1 hPi2 hPi3 hPi4) mv_X4_putNextNumber wd_54_6 ⟨Nat.le_of_ble_eq_true rfl, Nat.le_of_ble_eq_true rfl⟩ ⟨Nat.le_of_ble_eq_true rfl, Nat.le_of_ble_eq_true rfl⟩ hH hS (tRecv hK hH (tyb ha0 (all1 rfl)) clX4) rfl hl.1 (Nat.le_of_ble_eq_true rfl) dX4_writeRight_55 (fun H locs hq hS => ?_)
  have hH := hq
  have hH : TH E (tbC dA dB (riverD (.inl Fa1) (.inl Fb1) (.inl (0, 4)) 31 33 35 39 43 47) (riverD (.inl Fa2) (.inl Fb2) (.inl (0, 4)) 32 34 36 40 44 48) rc rd tp A14F A14F A4F A4F A14F A14F (riverD (.inl Fa3) (.inl Fb3) (.inl (0, 4)) 3 8 3 41 45 49) (riverD (.inl Fa4) (.inl Fb4) (.inl (0, 4)) 3 8 3 42 46 50) ((.inr (.inl (0, 12, Pd1)))) ((.inr (.inl (0, 12, Pd2)))) ((.inr (.inl (0, 12, Pd3)))) ((.inr (.inl (0, 12, Pd4)))) ((.inr (.inl (0, 12, Ps1)))) ((.inr (.inl (0, 12, Ps2)))) ((.inr (.inl (0, 12, Ps3)))) ((.inr (.inl (0, 12, Ps4)))) ((.inr (.inl (0, 48, Pi1)))) ((.inr (.inl (0, 48, Pi2)))) ((.inr (.inl (0, 48, Pi3)))) ((.inr (.inl (0, 48, Pi4))))) H := hH
  refine lv_aload_n F.1 F.2.1 dX4_writeRight_58 rfl (lv_at hl 0 rfl) ?_
  refine va_ldcS F.1 F.2.1 F.2.2.2.2.1 (hO.1 13 _ rfl).1 dX4_writeRight_59 ?_
  refine tVv (b := a0) (As := [.ref (eX E 13)]) (rest := []) F hK hN hO (c_X4_putNextWord E dA dB rc rd tp Fa1 Fb1 Fa2 Fb2 Fa3 Fb3 Fa4 Fb4 Pd1 Pd2 Pd3 Pd4 Ps1 Ps2 Ps3 Ps4 Pi1 Pi2 Pi3 Pi4 a0 13 3 ha0 (strAt 13 rfl) hFa1 hFb1 hFa2 hFb2 hFa3 hFb3 hFa4 hFb4 hPd1 hPd2 hPd3 hPd4 hPs1 hPs2 hPs3 hPs4 hPi1 hPi2 hPi3 hPi4) mv_X4_putNextWord wd_54_2 ⟨Nat.le_of_ble_eq_true rfl, Nat.le_of_ble_eq_true rfl⟩ ⟨Nat.le_of_ble_eq_true rfl, Nat.le_of_ble_eq_true rfl⟩ hH hS (tRecv hK hH (tyb ha0 (all1 rfl)) clX4) rfl hl.1 (Nat.le_of_ble_eq_true rfl) dX4_writeRight_61 (fun H locs hq hS => ?_)
  have hH := hq
  have hH : TH E (tbC dA dB (riverD (.inl Fa1) (.inl Fb1) (.inl (0, 4)) 31 33 35 39 43 47) (riverD (.inl Fa2) (.inl Fb2) (.inl (0, 4)) 32 34 36 40 44 48) rc rd tp A14F A14F A4F A4F A14F A14F (riverD (.inl Fa3) (.inl Fb3) (.inl (0, 4)) 3 8 3 41 45 49) (riverD (.inl Fa4) (.inl Fb4) (.inl (0, 4)) 3 8 3 42 46 50) ((.inr (.inl (0, 12, Pd1)))) ((.inr (.inl (0, 12, Pd2)))) ((.inr (.inl (0, 12, Pd3)))) ((.inr (.inl (0, 12, Pd4)))) ((.inr (.inl (0, 12, Ps1)))) ((.inr (.inl (0, 12, Ps2)))) ((.inr (.inl (0, 12, Ps3)))) ((.inr (.inl (0, 12, Ps4)))) ((.inr (.inl (0, 48, Pi1)))) ((.inr (.inl (0, 48, Pi2)))) ((.inr (.inl (0, 48, Pi3)))) ((.inr (.inl (0, 48, Pi4))))) H := hH
  refine lv_aload_n F.1 F.2.1 dX4_writeRight_64 rfl (lv_at hl 0 rfl) ?_
  refine lv_aload_n F.1 F.2.1 dX4_writeRight_65 rfl (lv_at hl 0 rfl) ?_
  refine tGetR (j := 1) F hK hH (tyb ha0 (all1 rfl)) rfl (all1 rfl) clX4 (by decide) wd_6_0 dX4_writeRight_66 (fun q_19 hq_19 _ => ?_)
  refine tGetR (j := 3) F hK hH (tyb hq_19 (all1 rfl)) rfl (all1 rfl) clX5 (by decide) wd_54_19 dX4_writeRight_69 (fun q_20 hq_20 _ => ?_)
  refine lv_iload_n F.1 F.2.1 dX4_writeRight_72 rfl (lv_at hl 1 rfl) ?_
  refine tIaldB F hK hH (tyb hq_20 (all1 rfl)) (ixb (n := 14) ha1 rfl rfl) dX4_writeRight_73 (fun z_21 hz_21 => ?_)
  refine tVv (b := a0) (As := [.int z_21]) (rest := []) F hK hN hO (c_X4_putNextNumber E dA dB rc rd tp Fa1 Fb1 Fa2 Fb2 Fa3 Fb3 Fa4 Fb4 Pd1 Pd2 Pd3 Pd4 Ps1 Ps2 Ps3 Ps4 Pi1 Pi2 Pi3 Pi4 a0 z_21 ha0 hFa1 hFb1 hFa2 hFb2 hFa3 hFb3 hFa4 hFb4 hPd1 hPd2 hPd3 hPd4 hPs1 hPs2 hPs3 hPs4 hPi1 hPi2 hPi3 hPi4) mv_X4_putNextNumber wd_54_6 ⟨Nat.le_of_ble_eq_true rfl, Nat.le_of_ble_eq_true rfl⟩ ⟨Nat.le_of_ble_eq_true rfl, Nat.le_of_ble_eq_true rfl⟩ hH hS (tRecv hK hH (tyb ha0 (all1 rfl)) clX4) rfl hl.1 (Nat.le_of_ble_eq_true rfl) dX4_writeRight_74 (fun H locs hq hS => ?_)
  have hH := hq
  have hH : TH E (tbC dA dB (riverD (.inl Fa1) (.inl Fb1) (.inl (0, 4)) 31 33 35 39 43 47) (riverD (.inl Fa2) (.inl Fb2) (.inl (0, 4)) 32 34 36 40 44 48) rc rd tp A14F A14F A4F A4F A14F A14F (riverD (.inl Fa3) (.inl Fb3) (.inl (0, 4)) 3 8 3 41 45 49) (riverD (.inl Fa4) (.inl Fb4) (.inl (0, 4)) 3 8 3 42 46 50) ((.inr (.inl (0, 12, Pd1)))) ((.inr (.inl (0, 12, Pd2)))) ((.inr (.inl (0, 12, Pd3)))) ((.inr (.inl (0, 12, Pd4)))) ((.inr (.inl (0, 12, Ps1)))) ((.inr (.inl (0, 12, Ps2)))) ((.inr (.inl (0, 12, Ps3)))) ((.inr (.inl (0, 12, Ps4)))) ((.inr (.inl (0, 48, Pi1)))) ((.inr (.inl (0, 48, Pi2)))) ((.inr (.inl (0, 48, Pi3)))) ((.inr (.inl (0, 48, Pi4))))) H := hH
  refine lv_aload_n F.1 F.2.1 dX4_writeRight_77 rfl (lv_at hl 0 rfl) ?_
  refine tGetR0 (j := 0) F hK hH (tyb ha0 (all1 rfl)) rfl clX4 (by decide) wd_5_23 dX4_writeRight_78 (fun q_23 hq_23 => ?_)
  refine tGetRM (j := 10) (L := [3]) F hK hH hq_23 (alls ⟨_, _, rfl, rfl, by decide⟩ (alls1 ⟨_, _, rfl, rfl, by decide⟩)) (all1 rfl) clX2 (by decide) wd_54_20 dX4_writeRight_81 (fun q_24 hq_24 _ => ?_)
  refine lv_iload_n F.1 F.2.1 dX4_writeRight_84 rfl (lv_at hl 1 rfl) ?_
  refine tIaldB F hK hH (tyb hq_24 (all1 rfl)) (ixb (n := 14) ha1 rfl rfl) dX4_writeRight_85 (fun z_25 hz_25 => ?_)
  refine wjoin (σ := Unit) (pcj := 108) (stj := fun x9 => []) (fun x9 H locs ls => TH E (tbC dA dB (riverD (.inl Fa1) (.inl Fb1) (.inl (0, 4)) 31 33 35 39 43 47) (riverD (.inl Fa2) (.inl Fb2) (.inl (0, 4)) 32 34 36 40 44 48) rc rd tp A14F A14F A4F A4F A14F A14F (riverD (.inl Fa3) (.inl Fb3) (.inl (0, 4)) 3 8 3 41 45 49) (riverD (.inl Fa4) (.inl Fb4) (.inl (0, 4)) 3 8 3 42 46 50) ((.inr (.inl (0, 12, Pd1)))) ((.inr (.inl (0, 12, Pd2)))) ((.inr (.inl (0, 12, Pd3)))) ((.inr (.inl (0, 12, Pd4)))) ((.inr (.inl (0, 12, Ps1)))) ((.inr (.inl (0, 12, Ps2)))) ((.inr (.inl (0, 12, Ps3)))) ((.inr (.inl (0, 12, Ps4)))) ((.inr (.inl (0, 48, Pi1)))) ((.inr (.inl (0, 48, Pi2)))) ((.inr (.inl (0, 48, Pi3)))) ((.inr (.inl (0, 48, Pi4))))) H ∧ va_S (eA E s.heap.size) s.heap H locs ∧ lv_has ls 2 [(0, .ref a0), (1, .int a1)]) (fun x9 H locs ls h_ => ?_) (fun J_108 => ?_)
  · skip
    obtain ⟨hH, hS, hl⟩ := h_
    have hH : TH E (tbC dA dB (riverD (.inl Fa1) (.inl Fb1) (.inl (0, 4)) 31 33 35 39 43 47) (riverD (.inl Fa2) (.inl Fb2) (.inl (0, 4)) 32 34 36 40 44 48) rc rd tp A14F A14F A4F A4F A14F A14F (riverD (.inl Fa3) (.inl Fb3) (.inl (0, 4)) 3 8 3 41 45 49) (riverD (.inl Fa4) (.inl Fb4) (.inl (0, 4)) 3 8 3 42 46 50) ((.inr (.inl (0, 12, Pd1)))) ((.inr (.inl (0, 12, Pd2)))) ((.inr (.inl (0, 12, Pd3)))) ((.inr (.inl (0, 12, Pd4)))) ((.inr (.inl (0, 12, Ps1)))) ((.inr (.inl (0, 12, Ps2)))) ((.inr (.inl (0, 12, Ps3)))) ((.inr (.inl (0, 12, Ps4)))) ((.inr (.inl (0, 48, Pi1)))) ((.inr (.inl (0, 48, Pi2)))) ((.inr (.inl (0, 48, Pi3)))) ((.inr (.inl (0, 48, Pi4))))) H := hH
    have hl : lv_has ls 2 [(0, .ref a0), (1, .int a1)] := hl
    show W _ _ _ _ _ _ _ _ _ _ _ _ _ _ _ (F0 _ _ _ [])
    refine lv_aload_n F.1 F.2.1 dX4_writeRight_108 rfl (lv_at hl 0 rfl) ?_
    refine tGetR0 (j := 0) F hK hH (tyb ha0 (all1 rfl)) rfl clX4 (by decide) wd_5_23 dX4_writeRight_109 (fun q_26 hq_26 => ?_)
    refine tGetRM (j := 11) (L := [5]) F hK hH hq_26 (alls ⟨_, _, rfl, rfl, by decide⟩ (alls1 ⟨_, _, rfl, rfl, by decide⟩)) (all1 rfl) clX2 (by decide) wd_54_21 dX4_writeRight_112 (fun q_27 hq_27 _ => ?_)
    refine lv_iload_n F.1 F.2.1 dX4_writeRight_115 rfl (lv_at hl 1 rfl) ?_
    refine tIaldB F hK hH (tyb hq_27 (all1 rfl)) (ixb (n := 14) ha1 rfl rfl) dX4_writeRight_116 (fun z_28 hz_28 => ?_)
    refine z_lt (tgt := 165) F dX4_writeRight_117 (by decide) (fun c_29 => ?_) (fun c_29 => ?_)
    · skip
      have r_30 : (-2) ≤ z_28.toInt ∧ z_28.toInt ≤ (-1) := by have h9_ := hz_28; omega
      exact txV F hS dX4_writeRight_165 (hH)
    · skip
      have r_31 : 0 ≤ z_28.toInt ∧ z_28.toInt ≤ 11 := by have h9_ := hz_28; omega
      refine lv_aload_n F.1 F.2.1 dX4_writeRight_120 rfl (lv_at hl 0 rfl) ?_
      refine va_ldcS F.1 F.2.1 F.2.2.2.2.1 (hO.1 15 _ rfl).1 dX4_writeRight_121 ?_
      refine tVv (b := a0) (As := [.ref (eX E 15)]) (rest := []) F hK hN hO (c_X4_putNextWord E dA dB rc rd tp Fa1 Fb1 Fa2 Fb2 Fa3 Fb3 Fa4 Fb4 Pd1 Pd2 Pd3 Pd4 Ps1 Ps2 Ps3 Ps4 Pi1 Pi2 Pi3 Pi4 a0 15 4 ha0 (strAt 15 rfl) hFa1 hFb1 hFa2 hFb2 hFa3 hFb3 hFa4 hFb4 hPd1 hPd2 hPd3 hPd4 hPs1 hPs2 hPs3 hPs4 hPi1 hPi2 hPi3 hPi4) mv_X4_putNextWord wd_54_2 ⟨Nat.le_of_ble_eq_true rfl, Nat.le_of_ble_eq_true rfl⟩ ⟨Nat.le_of_ble_eq_true rfl, Nat.le_of_ble_eq_true rfl⟩ hH hS (tRecv hK hH (tyb ha0 (all1 rfl)) clX4) rfl hl.1 (Nat.le_of_ble_eq_true rfl) dX4_writeRight_123 (fun H locs hq hS => ?_)
      have hH := hq
      have hH : TH E (tbC dA dB (riverD (.inl Fa1) (.inl Fb1) (.inl (0, 4)) 31 33 35 39 43 47) (riverD (.inl Fa2) (.inl Fb2) (.inl (0, 4)) 32 34 36 40 44 48) rc rd tp A14F A14F A4F A4F A14F A14F (riverD (.inl Fa3) (.inl Fb3) (.inl (0, 4)) 3 8 3 41 45 49) (riverD (.inl Fa4) (.inl Fb4) (.inl (0, 4)) 3 8 3 42 46 50) ((.inr (.inl (0, 12, Pd1)))) ((.inr (.inl (0, 12, Pd2)))) ((.inr (.inl (0, 12, Pd3)))) ((.inr (.inl (0, 12, Pd4)))) ((.inr (.inl (0, 12, Ps1)))) ((.inr (.inl (0, 12, Ps2)))) ((.inr (.inl (0, 12, Ps3)))) ((.inr (.inl (0, 12, Ps4)))) ((.inr (.inl (0, 48, Pi1)))) ((.inr (.inl (0, 48, Pi2)))) ((.inr (.inl (0, 48, Pi3)))) ((.inr (.inl (0, 48, Pi4))))) H := hH
      refine lv_aload_n F.1 F.2.1 dX4_writeRight_126 rfl (lv_at hl 0 rfl) ?_
      refine lv_aload_n F.1 F.2.1 dX4_writeRight_127 rfl (lv_at hl 0 rfl) ?_
      refine tGetR0 (j := 0) F hK hH (tyb ha0 (all1 rfl)) rfl clX4 (by decide) wd_5_23 dX4_writeRight_128 (fun q_33 hq_33 => ?_)
      refine tGetRM (j := 11) (L := [5]) F hK hH hq_33 (alls ⟨_, _, rfl, rfl, by decide⟩ (alls1 ⟨_, _, rfl, rfl, by decide⟩)) (all1 rfl) clX2 (by decide) wd_54_21 dX4_writeRight_131 (fun q_34 hq_34 _ => ?_)
      refine lv_iload_n F.1 F.2.1 dX4_writeRight_134 rfl (lv_at hl 1 rfl) ?_
      refine tIaldB F hK hH (tyb hq_34 (all1 rfl)) (ixb (n := 14) ha1 rfl rfl) dX4_writeRight_135 (fun z_35 hz_35 => ?_)
      refine tVv (b := a0) (As := [.int z_35]) (rest := []) F hK hN hO (c_X4_putNextNumber E dA dB rc rd tp Fa1 Fb1 Fa2 Fb2 Fa3 Fb3 Fa4 Fb4 Pd1 Pd2 Pd3 Pd4 Ps1 Ps2 Ps3 Ps4 Pi1 Pi2 Pi3 Pi4 a0 z_35 ha0 hFa1 hFb1 hFa2 hFb2 hFa3 hFb3 hFa4 hFb4 hPd1 hPd2 hPd3 hPd4 hPs1 hPs2 hPs3 hPs4 hPi1 hPi2 hPi3 hPi4) mv_X4_putNextNumber wd_54_6 ⟨Nat.le_of_ble_eq_true rfl, Nat.le_of_ble_eq_true rfl⟩ ⟨Nat.le_of_ble_eq_true rfl, Nat.le_of_ble_eq_true rfl⟩ hH hS (tRecv hK hH (tyb ha0 (all1 rfl)) clX4) rfl hl.1 (Nat.le_of_ble_eq_true rfl) dX4_writeRight_136 (fun H locs hq hS => ?_)
      have hH := hq
      have hH : TH E (tbC dA dB (riverD (.inl Fa1) (.inl Fb1) (.inl (0, 4)) 31 33 35 39 43 47) (riverD (.inl Fa2) (.inl Fb2) (.inl (0, 4)) 32 34 36 40 44 48) rc rd tp A14F A14F A4F A4F A14F A14F (riverD (.inl Fa3) (.inl Fb3) (.inl (0, 4)) 3 8 3 41 45 49) (riverD (.inl Fa4) (.inl Fb4) (.inl (0, 4)) 3 8 3 42 46 50) ((.inr (.inl (0, 12, Pd1)))) ((.inr (.inl (0, 12, Pd2)))) ((.inr (.inl (0, 12, Pd3)))) ((.inr (.inl (0, 12, Pd4)))) ((.inr (.inl (0, 12, Ps1)))) ((.inr (.inl (0, 12, Ps2)))) ((.inr (.inl (0, 12, Ps3)))) ((.inr (.inl (0, 12, Ps4)))) ((.inr (.inl (0, 48, Pi1)))) ((.inr (.inl (0, 48, Pi2)))) ((.inr (.inl (0, 48, Pi3)))) ((.inr (.inl (0, 48, Pi4))))) H := hH
      refine lv_aload_n F.1 F.2.1 dX4_writeRight_139 rfl (lv_at hl 0 rfl) ?_
      refine lv_aload_n F.1 F.2.1 dX4_writeRight_140 rfl (lv_at hl 0 rfl) ?_
      refine tGetR0 (j := 0) F hK hH (tyb ha0 (all1 rfl)) rfl clX4 (by decide) wd_5_23 dX4_writeRight_141 (fun q_37 hq_37 => ?_)
      refine tGetRM (j := 12) (L := [3]) F hK hH hq_37 (alls ⟨_, _, rfl, rfl, by decide⟩ (alls1 ⟨_, _, rfl, rfl, by decide⟩)) (all1 rfl) clX2 (by decide) wd_54_22 dX4_writeRight_144 (fun q_38 hq_38 _ => ?_)
      refine lv_iload_n F.1 F.2.1 dX4_writeRight_147 rfl (lv_at hl 1 rfl) ?_
      refine tIaldB F hK hH (tyb hq_38 (all1 rfl)) (ixb (n := 14) ha1 rfl rfl) dX4_writeRight_148 (fun z_39 hz_39 => ?_)
      refine tVv (b := a0) (As := [.int z_39]) (rest := []) F hK hN hO (c_X4_putNextNumber E dA dB rc rd tp Fa1 Fb1 Fa2 Fb2 Fa3 Fb3 Fa4 Fb4 Pd1 Pd2 Pd3 Pd4 Ps1 Ps2 Ps3 Ps4 Pi1 Pi2 Pi3 Pi4 a0 z_39 ha0 hFa1 hFb1 hFa2 hFb2 hFa3 hFb3 hFa4 hFb4 hPd1 hPd2 hPd3 hPd4 hPs1 hPs2 hPs3 hPs4 hPi1 hPi2 hPi3 hPi4) mv_X4_putNextNumber wd_54_6 ⟨Nat.le_of_ble_eq_true rfl, Nat.le_of_ble_eq_true rfl⟩ ⟨Nat.le_of_ble_eq_true rfl, Nat.le_of_ble_eq_true rfl⟩ hH hS (tRecv hK hH (tyb ha0 (all1 rfl)) clX4) rfl hl.1 (Nat.le_of_ble_eq_true rfl) dX4_writeRight_149 (fun H locs hq hS => ?_)
      have hH := hq
      have hH : TH E (tbC dA dB (riverD (.inl Fa1) (.inl Fb1) (.inl (0, 4)) 31 33 35 39 43 47) (riverD (.inl Fa2) (.inl Fb2) (.inl (0, 4)) 32 34 36 40 44 48) rc rd tp A14F A14F A4F A4F A14F A14F (riverD (.inl Fa3) (.inl Fb3) (.inl (0, 4)) 3 8 3 41 45 49) (riverD (.inl Fa4) (.inl Fb4) (.inl (0, 4)) 3 8 3 42 46 50) ((.inr (.inl (0, 12, Pd1)))) ((.inr (.inl (0, 12, Pd2)))) ((.inr (.inl (0, 12, Pd3)))) ((.inr (.inl (0, 12, Pd4)))) ((.inr (.inl (0, 12, Ps1)))) ((.inr (.inl (0, 12, Ps2)))) ((.inr (.inl (0, 12, Ps3)))) ((.inr (.inl (0, 12, Ps4)))) ((.inr (.inl (0, 48, Pi1)))) ((.inr (.inl (0, 48, Pi2)))) ((.inr (.inl (0, 48, Pi3)))) ((.inr (.inl (0, 48, Pi4))))) H := hH
      refine lv_aload_n F.1 F.2.1 dX4_writeRight_152 rfl (lv_at hl 0 rfl) ?_
      refine lv_aload_n F.1 F.2.1 dX4_writeRight_153 rfl (lv_at hl 0 rfl) ?_
      refine tGetR0 (j := 0) F hK hH (tyb ha0 (all1 rfl)) rfl clX4 (by decide) wd_5_23 dX4_writeRight_154 (fun q_41 hq_41 => ?_)
      refine tGetRM (j := 13) (L := [6]) F hK hH hq_41 (alls ⟨_, _, rfl, rfl, by decide⟩ (alls1 ⟨_, _, rfl, rfl, by decide⟩)) (all1 rfl) clX2 (by decide) wd_54_23 dX4_writeRight_157 (fun q_42 hq_42 _ => ?_)
      refine lv_iload_n F.1 F.2.1 dX4_writeRight_160 rfl (lv_at hl 1 rfl) ?_
      refine tIaldB F hK hH (tyb hq_42 (all1 rfl)) (ixb (n := 14) ha1 rfl rfl) dX4_writeRight_161 (fun z_43 hz_43 => ?_)
      refine tVv (b := a0) (As := [.int z_43]) (rest := []) F hK hN hO (c_X4_putNextNumber E dA dB rc rd tp Fa1 Fb1 Fa2 Fb2 Fa3 Fb3 Fa4 Fb4 Pd1 Pd2 Pd3 Pd4 Ps1 Ps2 Ps3 Ps4 Pi1 Pi2 Pi3 Pi4 a0 z_43 ha0 hFa1 hFb1 hFa2 hFb2 hFa3 hFb3 hFa4 hFb4 hPd1 hPd2 hPd3 hPd4 hPs1 hPs2 hPs3 hPs4 hPi1 hPi2 hPi3 hPi4) mv_X4_putNextNumber wd_54_6 ⟨Nat.le_of_ble_eq_true rfl, Nat.le_of_ble_eq_true rfl⟩ ⟨Nat.le_of_ble_eq_true rfl, Nat.le_of_ble_eq_true rfl⟩ hH hS (tRecv hK hH (tyb ha0 (all1 rfl)) clX4) rfl hl.1 (Nat.le_of_ble_eq_true rfl) dX4_writeRight_162 (fun H locs hq hS => ?_)
      have hH := hq
      have hH : TH E (tbC dA dB (riverD (.inl Fa1) (.inl Fb1) (.inl (0, 4)) 31 33 35 39 43 47) (riverD (.inl Fa2) (.inl Fb2) (.inl (0, 4)) 32 34 36 40 44 48) rc rd tp A14F A14F A4F A4F A14F A14F (riverD (.inl Fa3) (.inl Fb3) (.inl (0, 4)) 3 8 3 41 45 49) (riverD (.inl Fa4) (.inl Fb4) (.inl (0, 4)) 3 8 3 42 46 50) ((.inr (.inl (0, 12, Pd1)))) ((.inr (.inl (0, 12, Pd2)))) ((.inr (.inl (0, 12, Pd3)))) ((.inr (.inl (0, 12, Pd4)))) ((.inr (.inl (0, 12, Ps1)))) ((.inr (.inl (0, 12, Ps2)))) ((.inr (.inl (0, 12, Ps3)))) ((.inr (.inl (0, 12, Ps4)))) ((.inr (.inl (0, 48, Pi1)))) ((.inr (.inl (0, 48, Pi2)))) ((.inr (.inl (0, 48, Pi3)))) ((.inr (.inl (0, 48, Pi4))))) H := hH
      exact txV F hS dX4_writeRight_165 (hH)
  refine z_le (tgt := 108) F dX4_writeRight_86 (by decide) (fun c_45 => ?_) (fun c_45 => ?_)
  · skip
    have r_46 : (-2147483648) ≤ z_25.toInt ∧ z_25.toInt ≤ 0 := by have h9_ := hz_25; omega
    exact J_108 () _ _ _ ⟨hH, hS, lv_sub hl [0, 1] rfl⟩
  · skip
    have r_47 : 1 ≤ z_25.toInt ∧ z_25.toInt ≤ 2147483647 := by have h9_ := hz_25; omega
    refine lv_aload_n F.1 F.2.1 dX4_writeRight_89 rfl (lv_at hl 0 rfl) ?_
    refine va_ldcS F.1 F.2.1 F.2.2.2.2.1 (hO.1 14 _ rfl).1 dX4_writeRight_90 ?_
    refine tVv (b := a0) (As := [.ref (eX E 14)]) (rest := []) F hK hN hO (c_X4_putNextWord E dA dB rc rd tp Fa1 Fb1 Fa2 Fb2 Fa3 Fb3 Fa4 Fb4 Pd1 Pd2 Pd3 Pd4 Ps1 Ps2 Ps3 Ps4 Pi1 Pi2 Pi3 Pi4 a0 14 3 ha0 (strAt 14 rfl) hFa1 hFb1 hFa2 hFb2 hFa3 hFb3 hFa4 hFb4 hPd1 hPd2 hPd3 hPd4 hPs1 hPs2 hPs3 hPs4 hPi1 hPi2 hPi3 hPi4) mv_X4_putNextWord wd_54_2 ⟨Nat.le_of_ble_eq_true rfl, Nat.le_of_ble_eq_true rfl⟩ ⟨Nat.le_of_ble_eq_true rfl, Nat.le_of_ble_eq_true rfl⟩ hH hS (tRecv hK hH (tyb ha0 (all1 rfl)) clX4) rfl hl.1 (Nat.le_of_ble_eq_true rfl) dX4_writeRight_92 (fun H locs hq hS => ?_)
    have hH := hq
    have hH : TH E (tbC dA dB (riverD (.inl Fa1) (.inl Fb1) (.inl (0, 4)) 31 33 35 39 43 47) (riverD (.inl Fa2) (.inl Fb2) (.inl (0, 4)) 32 34 36 40 44 48) rc rd tp A14F A14F A4F A4F A14F A14F (riverD (.inl Fa3) (.inl Fb3) (.inl (0, 4)) 3 8 3 41 45 49) (riverD (.inl Fa4) (.inl Fb4) (.inl (0, 4)) 3 8 3 42 46 50) ((.inr (.inl (0, 12, Pd1)))) ((.inr (.inl (0, 12, Pd2)))) ((.inr (.inl (0, 12, Pd3)))) ((.inr (.inl (0, 12, Pd4)))) ((.inr (.inl (0, 12, Ps1)))) ((.inr (.inl (0, 12, Ps2)))) ((.inr (.inl (0, 12, Ps3)))) ((.inr (.inl (0, 12, Ps4)))) ((.inr (.inl (0, 48, Pi1)))) ((.inr (.inl (0, 48, Pi2)))) ((.inr (.inl (0, 48, Pi3)))) ((.inr (.inl (0, 48, Pi4))))) H := hH
    refine lv_aload_n F.1 F.2.1 dX4_writeRight_95 rfl (lv_at hl 0 rfl) ?_
    refine lv_aload_n F.1 F.2.1 dX4_writeRight_96 rfl (lv_at hl 0 rfl) ?_
    refine tGetR0 (j := 0) F hK hH (tyb ha0 (all1 rfl)) rfl clX4 (by decide) wd_5_23 dX4_writeRight_97 (fun q_49 hq_49 => ?_)
    refine tGetRM (j := 10) (L := [3]) F hK hH hq_49 (alls ⟨_, _, rfl, rfl, by decide⟩ (alls1 ⟨_, _, rfl, rfl, by decide⟩)) (all1 rfl) clX2 (by decide) wd_54_20 dX4_writeRight_100 (fun q_50 hq_50 _ => ?_)
    refine lv_iload_n F.1 F.2.1 dX4_writeRight_103 rfl (lv_at hl 1 rfl) ?_
    refine tIaldB F hK hH (tyb hq_50 (all1 rfl)) (ixb (n := 14) ha1 rfl rfl) dX4_writeRight_104 (fun z_51 hz_51 => ?_)
    refine tVv (b := a0) (As := [.int z_51]) (rest := []) F hK hN hO (c_X4_putNextNumber E dA dB rc rd tp Fa1 Fb1 Fa2 Fb2 Fa3 Fb3 Fa4 Fb4 Pd1 Pd2 Pd3 Pd4 Ps1 Ps2 Ps3 Ps4 Pi1 Pi2 Pi3 Pi4 a0 z_51 ha0 hFa1 hFb1 hFa2 hFb2 hFa3 hFb3 hFa4 hFb4 hPd1 hPd2 hPd3 hPd4 hPs1 hPs2 hPs3 hPs4 hPi1 hPi2 hPi3 hPi4) mv_X4_putNextNumber wd_54_6 ⟨Nat.le_of_ble_eq_true rfl, Nat.le_of_ble_eq_true rfl⟩ ⟨Nat.le_of_ble_eq_true rfl, Nat.le_of_ble_eq_true rfl⟩ hH hS (tRecv hK hH (tyb ha0 (all1 rfl)) clX4) rfl hl.1 (Nat.le_of_ble_eq_true rfl) dX4_writeRight_105 (fun H locs hq hS => ?_)
    have hH := hq
    have hH : TH E (tbC dA dB (riverD (.inl Fa1) (.inl Fb1) (.inl (0, 4)) 31 33 35 39 43 47) (riverD (.inl Fa2) (.inl Fb2) (.inl (0, 4)) 32 34 36 40 44 48) rc rd tp A14F A14F A4F A4F A14F A14F (riverD (.inl Fa3) (.inl Fb3) (.inl (0, 4)) 3 8 3 41 45 49) (riverD (.inl Fa4) (.inl Fb4) (.inl (0, 4)) 3 8 3 42 46 50) ((.inr (.inl (0, 12, Pd1)))) ((.inr (.inl (0, 12, Pd2)))) ((.inr (.inl (0, 12, Pd3)))) ((.inr (.inl (0, 12, Pd4)))) ((.inr (.inl (0, 12, Ps1)))) ((.inr (.inl (0, 12, Ps2)))) ((.inr (.inl (0, 12, Ps3)))) ((.inr (.inl (0, 12, Ps4)))) ((.inr (.inl (0, 48, Pi1)))) ((.inr (.inl (0, 48, Pi2)))) ((.inr (.inl (0, 48, Pi3)))) ((.inr (.inl (0, 48, Pi4))))) H := hH
    exact J_108 () _ _ _ ⟨hH, hS, lv_sub hl [0, 1] rfl⟩
set_option maxHeartbeats 4000000 in
set_option maxRecDepth 100000 in
theorem c_X4_writeReach (E : Ev) (dA : TD) (dB : TD) (rc : TD) (rd : TD) (tp : TD) (Fa1 : Int × Int) (Fb1 : Int × Int) (Fa2 : Int × Int) (Fb2 : Int × Int) (Fa3 : Int × Int) (Fb3 : Int × Int) (Fa4 : Int × Int) (Fb4 : Int × Int) (Pd1 : (Nat → Int32) → Prop) (Pd2 : (Nat → Int32) → Prop) (Pd3 : (Nat → Int32) → Prop) (Pd4 : (Nat → Int32) → Prop) (Ps1 : (Nat → Int32) → Prop) (Ps2 : (Nat → Int32) → Prop) (Ps3 : (Nat → Int32) → Prop) (Ps4 : (Nat → Int32) → Prop) (Pi1 : (Nat → Int32) → Prop) (Pi2 : (Nat → Int32) → Prop) (Pi3 : (Nat → Int32) → Prop) (Pi4 : (Nat → Int32) → Prop) (a0 : Nat) (a1 : Int32) (ha0 : eT E a0 ∈ [23]) (ha1 : 0 ≤ a1.toInt ∧ a1.toInt ≤ 11) (hFa1 : 0 ≤ Fa1.1 ∧ Fa1.2 ≤ 12) (hFb1 : 0 ≤ Fb1.1 ∧ Fb1.2 ≤ 14) (hFa2 : 0 ≤ Fa2.1 ∧ Fa2.2 ≤ 12) (hFb2 : 0 ≤ Fb2.1 ∧ Fb2.2 ≤ 14) (hFa3 : 0 ≤ Fa3.1 ∧ Fa3.2 ≤ 12) (hFb3 : 0 ≤ Fb3.1 ∧ Fb3.2 ≤ 14) (hFa4 : 0 ≤ Fa4.1 ∧ Fa4.2 ≤ 12) (hFb4 : 0 ≤ Fb4.1 ∧ Fb4.2 ≤ 14) (hPd1 : ∀ f, Pd1 f → ivP 12 (-2) 11 f) (hPd2 : ∀ f, Pd2 f → ivP 12 (-2) 11 f) (hPd3 : ∀ f, Pd3 f → ivP 12 (-2) 11 f) (hPd4 : ∀ f, Pd4 f → ivP 12 (-2) 11 f) (hPs1 : ∀ f, Ps1 f → ivP 12 (-2147483648) 2147483647 f) (hPs2 : ∀ f, Ps2 f → ivP 12 (-2147483648) 2147483647 f) (hPs3 : ∀ f, Ps3 f → ivP 12 (-2147483648) 2147483647 f) (hPs4 : ∀ f, Ps4 f → ivP 12 (-2147483648) 2147483647 f) (hPi1 : ∀ f, Pi1 f → ivP 48 (-2147483648) 2147483647 f) (hPi2 : ∀ f, Pi2 f → ivP 48 (-2147483648) 2147483647 f) (hPi3 : ∀ f, Pi3 f → ivP 48 (-2147483648) 2147483647 f) (hPi4 : ∀ f, Pi4 f → ivP 48 (-2147483648) 2147483647 f) : TcV E yX4_writeReach cX4_writeReach 3 ({ frames := 7, cells := 0, slots := 0, locals := 224 }) [.ref a0, .int a1] (fun H => TH E (tbC dA dB (riverD (.inl Fa1) (.inl Fb1) (.inl (0, 4)) 31 33 35 39 43 47) (riverD (.inl Fa2) (.inl Fb2) (.inl (0, 4)) 32 34 36 40 44 48) rc rd tp A14F A14F A4F A4F A14F A14F (riverD (.inl Fa3) (.inl Fb3) (.inl (0, 4)) 3 8 3 41 45 49) (riverD (.inl Fa4) (.inl Fb4) (.inl (0, 4)) 3 8 3 42 46 50) ((.inr (.inl (0, 12, Pd1)))) ((.inr (.inl (0, 12, Pd2)))) ((.inr (.inl (0, 12, Pd3)))) ((.inr (.inl (0, 12, Pd4)))) ((.inr (.inl (0, 12, Ps1)))) ((.inr (.inl (0, 12, Ps2)))) ((.inr (.inl (0, 12, Ps3)))) ((.inr (.inl (0, 12, Ps4)))) ((.inr (.inl (0, 48, Pi1)))) ((.inr (.inl (0, 48, Pi2)))) ((.inr (.inl (0, 48, Pi3)))) ((.inr (.inl (0, 48, Pi4))))) H) (fun H => TH E (tbC dA dB (riverD (.inl Fa1) (.inl Fb1) (.inl (0, 4)) 31 33 35 39 43 47) (riverD (.inl Fa2) (.inl Fb2) (.inl (0, 4)) 32 34 36 40 44 48) rc rd tp A14F A14F A4F A4F A14F A14F (riverD (.inl Fa3) (.inl Fb3) (.inl (0, 4)) 3 8 3 41 45 49) (riverD (.inl Fa4) (.inl Fb4) (.inl (0, 4)) 3 8 3 42 46 50) ((.inr (.inl (0, 12, Pd1)))) ((.inr (.inl (0, 12, Pd2)))) ((.inr (.inl (0, 12, Pd3)))) ((.inr (.inl (0, 12, Pd4)))) ((.inr (.inl (0, 12, Ps1)))) ((.inr (.inl (0, 12, Ps2)))) ((.inr (.inl (0, 12, Ps3)))) ((.inr (.inl (0, 12, Ps4)))) ((.inr (.inl (0, 48, Pi1)))) ((.inr (.inl (0, 48, Pi2)))) ((.inr (.inl (0, 48, Pi3)))) ((.inr (.inl (0, 48, Pi4))))) H) := by
  refine teV (by decide) (Nat.le_of_ble_eq_true rfl) ?_
  intro p_ ev_ s mi_ below_ meth cd_ ls F hK hN hO hH hS hl
  have hH : TH E (tbC dA dB (riverD (.inl Fa1) (.inl Fb1) (.inl (0, 4)) 31 33 35 39 43 47) (riverD (.inl Fa2) (.inl Fb2) (.inl (0, 4)) 32 34 36 40 44 48) rc rd tp A14F A14F A4F A4F A14F A14F (riverD (.inl Fa3) (.inl Fb3) (.inl (0, 4)) 3 8 3 41 45 49) (riverD (.inl Fa4) (.inl Fb4) (.inl (0, 4)) 3 8 3 42 46 50) ((.inr (.inl (0, 12, Pd1)))) ((.inr (.inl (0, 12, Pd2)))) ((.inr (.inl (0, 12, Pd3)))) ((.inr (.inl (0, 12, Pd4)))) ((.inr (.inl (0, 12, Ps1)))) ((.inr (.inl (0, 12, Ps2)))) ((.inr (.inl (0, 12, Ps3)))) ((.inr (.inl (0, 12, Ps4)))) ((.inr (.inl (0, 48, Pi1)))) ((.inr (.inl (0, 48, Pi2)))) ((.inr (.inl (0, 48, Pi3)))) ((.inr (.inl (0, 48, Pi4))))) s.heap := hH
  have hl : lv_has ls 3 [(0, .ref a0), (1, .int a1)] := hl
  refine lv_aload_n F.1 F.2.1 dX4_writeReach_0 rfl (lv_at hl 0 rfl) ?_
  refine va_ldcS F.1 F.2.1 F.2.2.2.2.1 (hO.1 9 _ rfl).1 dX4_writeReach_1 ?_
  refine tVv (b := a0) (As := [.ref (eX E 9)]) (rest := []) F hK hN hO (c_X4_beginPart E dA dB rc rd tp Fa1 Fb1 Fa2 Fb2 Fa3 Fb3 Fa4 Fb4 Pd1 Pd2 Pd3 Pd4 Ps1 Ps2 Ps3 Ps4 Pi1 Pi2 Pi3 Pi4 a0 9 5 ha0 (strAt 9 rfl) hFa1 hFb1 hFa2 hFb2 hFa3 hFb3 hFa4 hFb4 hPd1 hPd2 hPd3 hPd4 hPs1 hPs2 hPs3 hPs4 hPi1 hPi2 hPi3 hPi4) mv_X4_beginPart wd_53_12 ⟨Nat.le_of_ble_eq_true rfl, Nat.le_of_ble_eq_true rfl⟩ ⟨Nat.le_of_ble_eq_true rfl, Nat.le_of_ble_eq_true rfl⟩ hH hS (tRecv hK hH (tyb ha0 (all1 rfl)) clX4) rfl hl.1 (Nat.le_of_ble_eq_true rfl) dX4_writeReach_3 (fun H locs hq hS => ?_)
  have hH := hq
  have hH : TH E (tbC dA dB (riverD (.inl Fa1) (.inl Fb1) (.inl (0, 4)) 31 33 35 39 43 47) (riverD (.inl Fa2) (.inl Fb2) (.inl (0, 4)) 32 34 36 40 44 48) rc rd tp A14F A14F A4F A4F A14F A14F (riverD (.inl Fa3) (.inl Fb3) (.inl (0, 4)) 3 8 3 41 45 49) (riverD (.inl Fa4) (.inl Fb4) (.inl (0, 4)) 3 8 3 42 46 50) ((.inr (.inl (0, 12, Pd1)))) ((.inr (.inl (0, 12, Pd2)))) ((.inr (.inl (0, 12, Pd3)))) ((.inr (.inl (0, 12, Pd4)))) ((.inr (.inl (0, 12, Ps1)))) ((.inr (.inl (0, 12, Ps2)))) ((.inr (.inl (0, 12, Ps3)))) ((.inr (.inl (0, 12, Ps4)))) ((.inr (.inl (0, 48, Pi1)))) ((.inr (.inl (0, 48, Pi2)))) ((.inr (.inl (0, 48, Pi3)))) ((.inr (.inl (0, 48, Pi4))))) H := hH
  refine lv_aload_n F.1 F.2.1 dX4_writeReach_6 rfl (lv_at hl 0 rfl) ?_
  refine tGetR0 (j := 0) F hK hH (tyb ha0 (all1 rfl)) rfl clX4 (by decide) wd_5_23 dX4_writeReach_7 (fun q_2 hq_2 => ?_)
  refine tGetRM0 (j := 1) (L := [39, 40]) F hK hH hq_2 (alls ⟨_, _, rfl, rfl, by decide⟩ (alls1 ⟨_, _, rfl, rfl, by decide⟩)) clX2 (by decide) wd_53_9 dX4_writeReach_10 (fun q_3 hq_3 => ?_)
  refine lv_iload_n F.1 F.2.1 dX4_writeReach_13 rfl (lv_at hl 1 rfl) ?_
  refine tIaldM (lo := (-2)) (hi := 11) F hK hH hq_3 (alls ⟨_, rfl, hPd1⟩ (alls1 ⟨_, rfl, hPd2⟩)) (ixb (n := 12) ha1 rfl rfl) dX4_writeReach_14 (fun z_4 hz_4 => ?_)
  refine z_ge (tgt := 27) F dX4_writeReach_15 (by decide) (fun c_5 => ?_) (fun c_5 => ?_)
  · skip
    have r_6 : 0 ≤ z_4.toInt ∧ z_4.toInt ≤ 11 := by have h9_ := hz_4; omega
    refine lv_aload_n F.1 F.2.1 dX4_writeReach_27 rfl (lv_at hl 0 rfl) ?_
    refine lv_aload_n F.1 F.2.1 dX4_writeReach_28 rfl (lv_at hl 0 rfl) ?_
    refine tGetR0 (j := 0) F hK hH (tyb ha0 (all1 rfl)) rfl clX4 (by decide) wd_5_23 dX4_writeReach_29 (fun q_8 hq_8 => ?_)
    refine tGetRM0 (j := 1) (L := [39, 40]) F hK hH hq_8 (alls ⟨_, _, rfl, rfl, by decide⟩ (alls1 ⟨_, _, rfl, rfl, by decide⟩)) clX2 (by decide) wd_53_9 dX4_writeReach_32 (fun q_9 hq_9 => ?_)
    refine lv_iload_n F.1 F.2.1 dX4_writeReach_35 rfl (lv_at hl 1 rfl) ?_
    refine tIaldM (lo := (-2)) (hi := 11) F hK hH hq_9 (alls ⟨_, rfl, hPd1⟩ (alls1 ⟨_, rfl, hPd2⟩)) (ixb (n := 12) ha1 rfl rfl) dX4_writeReach_36 (fun z_10 hz_10 => ?_)
    refine tVv (b := a0) (As := [.int z_10]) (rest := []) F hK hN hO (c_X4_putNextNumber E dA dB rc rd tp Fa1 Fb1 Fa2 Fb2 Fa3 Fb3 Fa4 Fb4 Pd1 Pd2 Pd3 Pd4 Ps1 Ps2 Ps3 Ps4 Pi1 Pi2 Pi3 Pi4 a0 z_10 ha0 hFa1 hFb1 hFa2 hFb2 hFa3 hFb3 hFa4 hFb4 hPd1 hPd2 hPd3 hPd4 hPs1 hPs2 hPs3 hPs4 hPi1 hPi2 hPi3 hPi4) mv_X4_putNextNumber wd_54_6 ⟨Nat.le_of_ble_eq_true rfl, Nat.le_of_ble_eq_true rfl⟩ ⟨Nat.le_of_ble_eq_true rfl, Nat.le_of_ble_eq_true rfl⟩ hH hS (tRecv hK hH (tyb ha0 (all1 rfl)) clX4) rfl hl.1 (Nat.le_of_ble_eq_true rfl) dX4_writeReach_37 (fun H locs hq hS => ?_)
    have hH := hq
    have hH : TH E (tbC dA dB (riverD (.inl Fa1) (.inl Fb1) (.inl (0, 4)) 31 33 35 39 43 47) (riverD (.inl Fa2) (.inl Fb2) (.inl (0, 4)) 32 34 36 40 44 48) rc rd tp A14F A14F A4F A4F A14F A14F (riverD (.inl Fa3) (.inl Fb3) (.inl (0, 4)) 3 8 3 41 45 49) (riverD (.inl Fa4) (.inl Fb4) (.inl (0, 4)) 3 8 3 42 46 50) ((.inr (.inl (0, 12, Pd1)))) ((.inr (.inl (0, 12, Pd2)))) ((.inr (.inl (0, 12, Pd3)))) ((.inr (.inl (0, 12, Pd4)))) ((.inr (.inl (0, 12, Ps1)))) ((.inr (.inl (0, 12, Ps2)))) ((.inr (.inl (0, 12, Ps3)))) ((.inr (.inl (0, 12, Ps4)))) ((.inr (.inl (0, 48, Pi1)))) ((.inr (.inl (0, 48, Pi2)))) ((.inr (.inl (0, 48, Pi3)))) ((.inr (.inl (0, 48, Pi4))))) H := hH
    refine lv_iconst (v := 0) F.1 F.2.1 dX4_writeReach_40 (by decide) ?_
    refine topK (a := 0) (by decide) (fun k_12 hk_12 => ?_)
    refine lv_istore_n (lv' := [(2, .int k_12), (0, .ref a0), (1, .int a1)]) F.1 F.2.1 dX4_writeReach_41 rfl hl (by decide) rfl (fun ls hl => ?_)
    refine wloop (σ := Int32) (fun n9 x9 H locs ls => (4 - x9.toInt + 1).toNat < n9 ∧ (0 ≤ x9.toInt ∧ x9.toInt ≤ 4) ∧ TH E (tbC dA dB (riverD (.inl Fa1) (.inl Fb1) (.inl (0, 4)) 31 33 35 39 43 47) (riverD (.inl Fa2) (.inl Fb2) (.inl (0, 4)) 32 34 36 40 44 48) rc rd tp A14F A14F A4F A4F A14F A14F (riverD (.inl Fa3) (.inl Fb3) (.inl (0, 4)) 3 8 3 41 45 49) (riverD (.inl Fa4) (.inl Fb4) (.inl (0, 4)) 3 8 3 42 46 50) ((.inr (.inl (0, 12, Pd1)))) ((.inr (.inl (0, 12, Pd2)))) ((.inr (.inl (0, 12, Pd3)))) ((.inr (.inl (0, 12, Pd4)))) ((.inr (.inl (0, 12, Ps1)))) ((.inr (.inl (0, 12, Ps2)))) ((.inr (.inl (0, 12, Ps3)))) ((.inr (.inl (0, 12, Ps4)))) ((.inr (.inl (0, 48, Pi1)))) ((.inr (.inl (0, 48, Pi2)))) ((.inr (.inl (0, 48, Pi3)))) ((.inr (.inl (0, 48, Pi4))))) H ∧ va_S (eA E s.heap.size) s.heap H locs ∧ lv_has ls 3 [(0, .ref a0), (1, .int a1), (2, .int x9)]) ?_ (fun x9 H locs ls h => absurd h.1 (Nat.not_lt_zero _)) _ (k_12) ⟨Nat.lt_succ_self _, (wkb (eqb hk_12) rfl rfl), hH, hS, lv_sub hl [1, 2, 0] rfl⟩
    intro n_42 ih_42 u_13 H locs ls ⟨hm_42, hu_13, hH, hS, hl⟩
    have hm_42 : (4 - u_13.toInt + 1).toNat < n_42 + 1 := hm_42
    have hu_13 : (0 ≤ u_13.toInt ∧ u_13.toInt ≤ 4) := hu_13
    have hH : TH E (tbC dA dB (riverD (.inl Fa1) (.inl Fb1) (.inl (0, 4)) 31 33 35 39 43 47) (riverD (.inl Fa2) (.inl Fb2) (.inl (0, 4)) 32 34 36 40 44 48) rc rd tp A14F A14F A4F A4F A14F A14F (riverD (.inl Fa3) (.inl Fb3) (.inl (0, 4)) 3 8 3 41 45 49) (riverD (.inl Fa4) (.inl Fb4) (.inl (0, 4)) 3 8 3 42 46 50) ((.inr (.inl (0, 12, Pd1)))) ((.inr (.inl (0, 12, Pd2)))) ((.inr (.inl (0, 12, Pd3)))) ((.inr (.inl (0, 12, Pd4)))) ((.inr (.inl (0, 12, Ps1)))) ((.inr (.inl (0, 12, Ps2)))) ((.inr (.inl (0, 12, Ps3)))) ((.inr (.inl (0, 12, Ps4)))) ((.inr (.inl (0, 48, Pi1)))) ((.inr (.inl (0, 48, Pi2)))) ((.inr (.inl (0, 48, Pi3)))) ((.inr (.inl (0, 48, Pi4))))) H := hH
    have hl : lv_has ls 3 [(0, .ref a0), (1, .int a1), (2, .int u_13)] := hl
    refine lv_iload_n F.1 F.2.1 dX4_writeReach_42 rfl (lv_at hl 2 rfl) ?_
    refine lv_iconst (v := 4) F.1 F.2.1 dX4_writeReach_43 (by decide) ?_
    refine topK (a := 4) (by decide) (fun k_14 hk_14 => ?_)
    refine b_ge (tgt := 70) F dX4_writeReach_44 (by decide) (fun c_15 => ?_) (fun c_15 => ?_)
    · skip
      have r_16 : 4 ≤ u_13.toInt ∧ u_13.toInt ≤ 4 := by have h9_ := hu_13; omega
      refine lv_aload_n F.1 F.2.1 dX4_writeReach_70 rfl (lv_at hl 0 rfl) ?_
      refine tGetR0 (j := 0) F hK hH (tyb ha0 (all1 rfl)) rfl clX4 (by decide) wd_5_23 dX4_writeReach_71 (fun q_18 hq_18 => ?_)
      refine tGetRM0 (j := 2) (L := [43, 44]) F hK hH hq_18 (alls ⟨_, _, rfl, rfl, by decide⟩ (alls1 ⟨_, _, rfl, rfl, by decide⟩)) clX2 (by decide) wd_53_11 dX4_writeReach_74 (fun q_19 hq_19 => ?_)
      refine lv_iload_n F.1 F.2.1 dX4_writeReach_77 rfl (lv_at hl 1 rfl) ?_
      refine tIaldM (lo := (-2147483648)) (hi := 2147483647) F hK hH hq_19 (alls ⟨_, rfl, hPs1⟩ (alls1 ⟨_, rfl, hPs2⟩)) (ixb (n := 12) ha1 rfl rfl) dX4_writeReach_78 (fun z_20 hz_20 => ?_)
      refine z_eq (tgt := 101) F dX4_writeReach_79 (by decide) (fun c_21 => ?_) (fun c_21 => ?_)
      · skip
        have r_22 : 0 ≤ z_20.toInt ∧ z_20.toInt ≤ 0 := by have h9_ := hz_20; omega
        exact txV F hS dX4_writeReach_101 (hH)
      · skip
        refine lv_aload_n F.1 F.2.1 dX4_writeReach_82 rfl (lv_at hl 0 rfl) ?_
        refine va_ldcS F.1 F.2.1 F.2.2.2.2.1 (hO.1 11 _ rfl).1 dX4_writeReach_83 ?_
        refine tVv (b := a0) (As := [.ref (eX E 11)]) (rest := []) F hK hN hO (c_X4_putNextWord E dA dB rc rd tp Fa1 Fb1 Fa2 Fb2 Fa3 Fb3 Fa4 Fb4 Pd1 Pd2 Pd3 Pd4 Ps1 Ps2 Ps3 Ps4 Pi1 Pi2 Pi3 Pi4 a0 11 4 ha0 (strAt 11 rfl) hFa1 hFb1 hFa2 hFb2 hFa3 hFb3 hFa4 hFb4 hPd1 hPd2 hPd3 hPd4 hPs1 hPs2 hPs3 hPs4 hPi1 hPi2 hPi3 hPi4) mv_X4_putNextWord wd_54_2 ⟨Nat.le_of_ble_eq_true rfl, Nat.le_of_ble_eq_true rfl⟩ ⟨Nat.le_of_ble_eq_true rfl, Nat.le_of_ble_eq_true rfl⟩ hH hS (tRecv hK hH (tyb ha0 (all1 rfl)) clX4) rfl hl.1 (Nat.le_of_ble_eq_true rfl) dX4_writeReach_85 (fun H locs hq hS => ?_)
        have hH := hq
        have hH : TH E (tbC dA dB (riverD (.inl Fa1) (.inl Fb1) (.inl (0, 4)) 31 33 35 39 43 47) (riverD (.inl Fa2) (.inl Fb2) (.inl (0, 4)) 32 34 36 40 44 48) rc rd tp A14F A14F A4F A4F A14F A14F (riverD (.inl Fa3) (.inl Fb3) (.inl (0, 4)) 3 8 3 41 45 49) (riverD (.inl Fa4) (.inl Fb4) (.inl (0, 4)) 3 8 3 42 46 50) ((.inr (.inl (0, 12, Pd1)))) ((.inr (.inl (0, 12, Pd2)))) ((.inr (.inl (0, 12, Pd3)))) ((.inr (.inl (0, 12, Pd4)))) ((.inr (.inl (0, 12, Ps1)))) ((.inr (.inl (0, 12, Ps2)))) ((.inr (.inl (0, 12, Ps3)))) ((.inr (.inl (0, 12, Ps4)))) ((.inr (.inl (0, 48, Pi1)))) ((.inr (.inl (0, 48, Pi2)))) ((.inr (.inl (0, 48, Pi3)))) ((.inr (.inl (0, 48, Pi4))))) H := hH
        refine lv_aload_n F.1 F.2.1 dX4_writeReach_88 rfl (lv_at hl 0 rfl) ?_
        refine lv_aload_n F.1 F.2.1 dX4_writeReach_89 rfl (lv_at hl 0 rfl) ?_
        refine tGetR0 (j := 0) F hK hH (tyb ha0 (all1 rfl)) rfl clX4 (by decide) wd_5_23 dX4_writeReach_90 (fun q_24 hq_24 => ?_)
        refine tGetRM0 (j := 2) (L := [43, 44]) F hK hH hq_24 (alls ⟨_, _, rfl, rfl, by decide⟩ (alls1 ⟨_, _, rfl, rfl, by decide⟩)) clX2 (by decide) wd_53_11 dX4_writeReach_93 (fun q_25 hq_25 => ?_)
        refine lv_iload_n F.1 F.2.1 dX4_writeReach_96 rfl (lv_at hl 1 rfl) ?_
        refine tIaldM (lo := (-2147483648)) (hi := 2147483647) F hK hH hq_25 (alls ⟨_, rfl, hPs1⟩ (alls1 ⟨_, rfl, hPs2⟩)) (ixb (n := 12) ha1 rfl rfl) dX4_writeReach_97 (fun z_26 hz_26 => ?_)
        refine tVv (b := a0) (As := [.int z_26]) (rest := []) F hK hN hO (c_X4_putNextNumber E dA dB rc rd tp Fa1 Fb1 Fa2 Fb2 Fa3 Fb3 Fa4 Fb4 Pd1 Pd2 Pd3 Pd4 Ps1 Ps2 Ps3 Ps4 Pi1 Pi2 Pi3 Pi4 a0 z_26 ha0 hFa1 hFb1 hFa2 hFb2 hFa3 hFb3 hFa4 hFb4 hPd1 hPd2 hPd3 hPd4 hPs1 hPs2 hPs3 hPs4 hPi1 hPi2 hPi3 hPi4) mv_X4_putNextNumber wd_54_6 ⟨Nat.le_of_ble_eq_true rfl, Nat.le_of_ble_eq_true rfl⟩ ⟨Nat.le_of_ble_eq_true rfl, Nat.le_of_ble_eq_true rfl⟩ hH hS (tRecv hK hH (tyb ha0 (all1 rfl)) clX4) rfl hl.1 (Nat.le_of_ble_eq_true rfl) dX4_writeReach_98 (fun H locs hq hS => ?_)
        have hH := hq
        have hH : TH E (tbC dA dB (riverD (.inl Fa1) (.inl Fb1) (.inl (0, 4)) 31 33 35 39 43 47) (riverD (.inl Fa2) (.inl Fb2) (.inl (0, 4)) 32 34 36 40 44 48) rc rd tp A14F A14F A4F A4F A14F A14F (riverD (.inl Fa3) (.inl Fb3) (.inl (0, 4)) 3 8 3 41 45 49) (riverD (.inl Fa4) (.inl Fb4) (.inl (0, 4)) 3 8 3 42 46 50) ((.inr (.inl (0, 12, Pd1)))) ((.inr (.inl (0, 12, Pd2)))) ((.inr (.inl (0, 12, Pd3)))) ((.inr (.inl (0, 12, Pd4)))) ((.inr (.inl (0, 12, Ps1)))) ((.inr (.inl (0, 12, Ps2)))) ((.inr (.inl (0, 12, Ps3)))) ((.inr (.inl (0, 12, Ps4)))) ((.inr (.inl (0, 48, Pi1)))) ((.inr (.inl (0, 48, Pi2)))) ((.inr (.inl (0, 48, Pi3)))) ((.inr (.inl (0, 48, Pi4))))) H := hH
        exact txV F hS dX4_writeReach_101 (hH)
    · skip
      have r_17 : 0 ≤ u_13.toInt ∧ u_13.toInt ≤ 3 := by have h9_ := hu_13; omega
      refine lv_aload_n F.1 F.2.1 dX4_writeReach_47 rfl (lv_at hl 0 rfl) ?_
      refine lv_aload_n F.1 F.2.1 dX4_writeReach_48 rfl (lv_at hl 0 rfl) ?_
      refine tGetR0 (j := 0) F hK hH (tyb ha0 (all1 rfl)) rfl clX4 (by decide) wd_5_23 dX4_writeReach_49 (fun q_28 hq_28 => ?_)
      refine tGetRM0 (j := 3) (L := [47, 48]) F hK hH hq_28 (alls ⟨_, _, rfl, rfl, by decide⟩ (alls1 ⟨_, _, rfl, rfl, by decide⟩)) clX2 (by decide) wd_53_10 dX4_writeReach_52 (fun q_29 hq_29 => ?_)
      refine lv_iload_n F.1 F.2.1 dX4_writeReach_55 rfl (lv_at hl 1 rfl) ?_
      refine lv_iconst (v := 4) F.1 F.2.1 dX4_writeReach_56 (by decide) ?_
      refine topK (a := 4) (by decide) (fun k_30 hk_30 => ?_)
      refine tMul (lo := 0) (hi := 44) F dX4_writeReach_57 ha1 (eqb hk_30) rfl (fun z_31 hz_31 => ?_)
      have mz_31 : z_31.toInt = a1.toInt * 4 := by rw [hz_31.1, hk_30]
      refine lv_iload_n F.1 F.2.1 dX4_writeReach_58 rfl (lv_at hl 2 rfl) ?_
      refine tAdd (lo := 0) (hi := 47) F dX4_writeReach_59 hz_31.2 r_17 rfl (fun z_32 hz_32 => ?_)
      refine tIaldM (lo := (-2147483648)) (hi := 2147483647) F hK hH hq_29 (alls ⟨_, rfl, hPi1⟩ (alls1 ⟨_, rfl, hPi2⟩)) (ixb (n := 48) hz_32.2 rfl rfl) dX4_writeReach_60 (fun z_33 hz_33 => ?_)
      refine tVv (b := a0) (As := [.int z_33]) (rest := []) F hK hN hO (c_X4_putNextNumber E dA dB rc rd tp Fa1 Fb1 Fa2 Fb2 Fa3 Fb3 Fa4 Fb4 Pd1 Pd2 Pd3 Pd4 Ps1 Ps2 Ps3 Ps4 Pi1 Pi2 Pi3 Pi4 a0 z_33 ha0 hFa1 hFb1 hFa2 hFb2 hFa3 hFb3 hFa4 hFb4 hPd1 hPd2 hPd3 hPd4 hPs1 hPs2 hPs3 hPs4 hPi1 hPi2 hPi3 hPi4) mv_X4_putNextNumber wd_54_6 ⟨Nat.le_of_ble_eq_true rfl, Nat.le_of_ble_eq_true rfl⟩ ⟨Nat.le_of_ble_eq_true rfl, Nat.le_of_ble_eq_true rfl⟩ hH hS (tRecv hK hH (tyb ha0 (all1 rfl)) clX4) rfl hl.1 (Nat.le_of_ble_eq_true rfl) dX4_writeReach_61 (fun H locs hq hS => ?_)
      have hH := hq
      have hH : TH E (tbC dA dB (riverD (.inl Fa1) (.inl Fb1) (.inl (0, 4)) 31 33 35 39 43 47) (riverD (.inl Fa2) (.inl Fb2) (.inl (0, 4)) 32 34 36 40 44 48) rc rd tp A14F A14F A4F A4F A14F A14F (riverD (.inl Fa3) (.inl Fb3) (.inl (0, 4)) 3 8 3 41 45 49) (riverD (.inl Fa4) (.inl Fb4) (.inl (0, 4)) 3 8 3 42 46 50) ((.inr (.inl (0, 12, Pd1)))) ((.inr (.inl (0, 12, Pd2)))) ((.inr (.inl (0, 12, Pd3)))) ((.inr (.inl (0, 12, Pd4)))) ((.inr (.inl (0, 12, Ps1)))) ((.inr (.inl (0, 12, Ps2)))) ((.inr (.inl (0, 12, Ps3)))) ((.inr (.inl (0, 12, Ps4)))) ((.inr (.inl (0, 48, Pi1)))) ((.inr (.inl (0, 48, Pi2)))) ((.inr (.inl (0, 48, Pi3)))) ((.inr (.inl (0, 48, Pi4))))) H := hH
      obtain ⟨x_35, ex_35, hx_35⟩ := iincB (c := 1) (lo := 1) (hi := 4) r_17 rfl
      refine lv_iinc (v := x_35) (lv' := [(2, .int x_35), (0, .ref a0), (1, .int a1)]) F.1 F.2.1 dX4_writeReach_64 hl (k := 2) rfl ex_35 (by decide) rfl (fun ls hl => ?_)
      refine lv_goto (tgt := 42) F.1 F.2.1 dX4_writeReach_67 (by decide) ?_
      exact ih_42 (x_35) _ _ _ ⟨(show (4 - x_35.toInt + 1).toNat < n_42 from by omega), (wkb hx_35.2 rfl rfl), hH, hS, lv_sub hl [1, 2, 0] rfl⟩
  · skip
    have r_7 : (-2) ≤ z_4.toInt ∧ z_4.toInt ≤ (-1) := by have h9_ := hz_4; omega
    refine lv_aload_n F.1 F.2.1 dX4_writeReach_18 rfl (lv_at hl 0 rfl) ?_
    refine va_ldcS F.1 F.2.1 F.2.2.2.2.1 (hO.1 10 _ rfl).1 dX4_writeReach_19 ?_
    refine tVv (b := a0) (As := [.ref (eX E 10)]) (rest := []) F hK hN hO (c_X4_putNextWord E dA dB rc rd tp Fa1 Fb1 Fa2 Fb2 Fa3 Fb3 Fa4 Fb4 Pd1 Pd2 Pd3 Pd4 Ps1 Ps2 Ps3 Ps4 Pi1 Pi2 Pi3 Pi4 a0 10 5 ha0 (strAt 10 rfl) hFa1 hFb1 hFa2 hFb2 hFa3 hFb3 hFa4 hFb4 hPd1 hPd2 hPd3 hPd4 hPs1 hPs2 hPs3 hPs4 hPi1 hPi2 hPi3 hPi4) mv_X4_putNextWord wd_54_2 ⟨Nat.le_of_ble_eq_true rfl, Nat.le_of_ble_eq_true rfl⟩ ⟨Nat.le_of_ble_eq_true rfl, Nat.le_of_ble_eq_true rfl⟩ hH hS (tRecv hK hH (tyb ha0 (all1 rfl)) clX4) rfl hl.1 (Nat.le_of_ble_eq_true rfl) dX4_writeReach_21 (fun H locs hq hS => ?_)
    have hH := hq
    have hH : TH E (tbC dA dB (riverD (.inl Fa1) (.inl Fb1) (.inl (0, 4)) 31 33 35 39 43 47) (riverD (.inl Fa2) (.inl Fb2) (.inl (0, 4)) 32 34 36 40 44 48) rc rd tp A14F A14F A4F A4F A14F A14F (riverD (.inl Fa3) (.inl Fb3) (.inl (0, 4)) 3 8 3 41 45 49) (riverD (.inl Fa4) (.inl Fb4) (.inl (0, 4)) 3 8 3 42 46 50) ((.inr (.inl (0, 12, Pd1)))) ((.inr (.inl (0, 12, Pd2)))) ((.inr (.inl (0, 12, Pd3)))) ((.inr (.inl (0, 12, Pd4)))) ((.inr (.inl (0, 12, Ps1)))) ((.inr (.inl (0, 12, Ps2)))) ((.inr (.inl (0, 12, Ps3)))) ((.inr (.inl (0, 12, Ps4)))) ((.inr (.inl (0, 48, Pi1)))) ((.inr (.inl (0, 48, Pi2)))) ((.inr (.inl (0, 48, Pi3)))) ((.inr (.inl (0, 48, Pi4))))) H := hH
    refine lv_goto (tgt := 40) F.1 F.2.1 dX4_writeReach_24 (by decide) ?_
    refine lv_iconst (v := 0) F.1 F.2.1 dX4_writeReach_40 (by decide) ?_
    refine topK (a := 0) (by decide) (fun k_37 hk_37 => ?_)
    refine lv_istore_n (lv' := [(2, .int k_37), (0, .ref a0), (1, .int a1)]) F.1 F.2.1 dX4_writeReach_41 rfl hl (by decide) rfl (fun ls hl => ?_)
    refine wloop (σ := Int32) (fun n9 x9 H locs ls => (4 - x9.toInt + 1).toNat < n9 ∧ (0 ≤ x9.toInt ∧ x9.toInt ≤ 4) ∧ TH E (tbC dA dB (riverD (.inl Fa1) (.inl Fb1) (.inl (0, 4)) 31 33 35 39 43 47) (riverD (.inl Fa2) (.inl Fb2) (.inl (0, 4)) 32 34 36 40 44 48) rc rd tp A14F A14F A4F A4F A14F A14F (riverD (.inl Fa3) (.inl Fb3) (.inl (0, 4)) 3 8 3 41 45 49) (riverD (.inl Fa4) (.inl Fb4) (.inl (0, 4)) 3 8 3 42 46 50) ((.inr (.inl (0, 12, Pd1)))) ((.inr (.inl (0, 12, Pd2)))) ((.inr (.inl (0, 12, Pd3)))) ((.inr (.inl (0, 12, Pd4)))) ((.inr (.inl (0, 12, Ps1)))) ((.inr (.inl (0, 12, Ps2)))) ((.inr (.inl (0, 12, Ps3)))) ((.inr (.inl (0, 12, Ps4)))) ((.inr (.inl (0, 48, Pi1)))) ((.inr (.inl (0, 48, Pi2)))) ((.inr (.inl (0, 48, Pi3)))) ((.inr (.inl (0, 48, Pi4))))) H ∧ va_S (eA E s.heap.size) s.heap H locs ∧ lv_has ls 3 [(0, .ref a0), (1, .int a1), (2, .int x9)]) ?_ (fun x9 H locs ls h => absurd h.1 (Nat.not_lt_zero _)) _ (k_37) ⟨Nat.lt_succ_self _, (wkb (eqb hk_37) rfl rfl), hH, hS, lv_sub hl [1, 2, 0] rfl⟩
    intro n_42 ih_42 u_38 H locs ls ⟨hm_42, hu_38, hH, hS, hl⟩
    have hm_42 : (4 - u_38.toInt + 1).toNat < n_42 + 1 := hm_42
    have hu_38 : (0 ≤ u_38.toInt ∧ u_38.toInt ≤ 4) := hu_38
    have hH : TH E (tbC dA dB (riverD (.inl Fa1) (.inl Fb1) (.inl (0, 4)) 31 33 35 39 43 47) (riverD (.inl Fa2) (.inl Fb2) (.inl (0, 4)) 32 34 36 40 44 48) rc rd tp A14F A14F A4F A4F A14F A14F (riverD (.inl Fa3) (.inl Fb3) (.inl (0, 4)) 3 8 3 41 45 49) (riverD (.inl Fa4) (.inl Fb4) (.inl (0, 4)) 3 8 3 42 46 50) ((.inr (.inl (0, 12, Pd1)))) ((.inr (.inl (0, 12, Pd2)))) ((.inr (.inl (0, 12, Pd3)))) ((.inr (.inl (0, 12, Pd4)))) ((.inr (.inl (0, 12, Ps1)))) ((.inr (.inl (0, 12, Ps2)))) ((.inr (.inl (0, 12, Ps3)))) ((.inr (.inl (0, 12, Ps4)))) ((.inr (.inl (0, 48, Pi1)))) ((.inr (.inl (0, 48, Pi2)))) ((.inr (.inl (0, 48, Pi3)))) ((.inr (.inl (0, 48, Pi4))))) H := hH
    have hl : lv_has ls 3 [(0, .ref a0), (1, .int a1), (2, .int u_38)] := hl
    refine lv_iload_n F.1 F.2.1 dX4_writeReach_42 rfl (lv_at hl 2 rfl) ?_
    refine lv_iconst (v := 4) F.1 F.2.1 dX4_writeReach_43 (by decide) ?_
    refine topK (a := 4) (by decide) (fun k_39 hk_39 => ?_)
    refine b_ge (tgt := 70) F dX4_writeReach_44 (by decide) (fun c_40 => ?_) (fun c_40 => ?_)
    · skip
      have r_41 : 4 ≤ u_38.toInt ∧ u_38.toInt ≤ 4 := by have h9_ := hu_38; omega
      refine lv_aload_n F.1 F.2.1 dX4_writeReach_70 rfl (lv_at hl 0 rfl) ?_
      refine tGetR0 (j := 0) F hK hH (tyb ha0 (all1 rfl)) rfl clX4 (by decide) wd_5_23 dX4_writeReach_71 (fun q_43 hq_43 => ?_)
      refine tGetRM0 (j := 2) (L := [43, 44]) F hK hH hq_43 (alls ⟨_, _, rfl, rfl, by decide⟩ (alls1 ⟨_, _, rfl, rfl, by decide⟩)) clX2 (by decide) wd_53_11 dX4_writeReach_74 (fun q_44 hq_44 => ?_)
      refine lv_iload_n F.1 F.2.1 dX4_writeReach_77 rfl (lv_at hl 1 rfl) ?_
      refine tIaldM (lo := (-2147483648)) (hi := 2147483647) F hK hH hq_44 (alls ⟨_, rfl, hPs1⟩ (alls1 ⟨_, rfl, hPs2⟩)) (ixb (n := 12) ha1 rfl rfl) dX4_writeReach_78 (fun z_45 hz_45 => ?_)
      refine z_eq (tgt := 101) F dX4_writeReach_79 (by decide) (fun c_46 => ?_) (fun c_46 => ?_)
      · skip
        have r_47 : 0 ≤ z_45.toInt ∧ z_45.toInt ≤ 0 := by have h9_ := hz_45; omega
        exact txV F hS dX4_writeReach_101 (hH)
      · skip
        refine lv_aload_n F.1 F.2.1 dX4_writeReach_82 rfl (lv_at hl 0 rfl) ?_
        refine va_ldcS F.1 F.2.1 F.2.2.2.2.1 (hO.1 11 _ rfl).1 dX4_writeReach_83 ?_
        refine tVv (b := a0) (As := [.ref (eX E 11)]) (rest := []) F hK hN hO (c_X4_putNextWord E dA dB rc rd tp Fa1 Fb1 Fa2 Fb2 Fa3 Fb3 Fa4 Fb4 Pd1 Pd2 Pd3 Pd4 Ps1 Ps2 Ps3 Ps4 Pi1 Pi2 Pi3 Pi4 a0 11 4 ha0 (strAt 11 rfl) hFa1 hFb1 hFa2 hFb2 hFa3 hFb3 hFa4 hFb4 hPd1 hPd2 hPd3 hPd4 hPs1 hPs2 hPs3 hPs4 hPi1 hPi2 hPi3 hPi4) mv_X4_putNextWord wd_54_2 ⟨Nat.le_of_ble_eq_true rfl, Nat.le_of_ble_eq_true rfl⟩ ⟨Nat.le_of_ble_eq_true rfl, Nat.le_of_ble_eq_true rfl⟩ hH hS (tRecv hK hH (tyb ha0 (all1 rfl)) clX4) rfl hl.1 (Nat.le_of_ble_eq_true rfl) dX4_writeReach_85 (fun H locs hq hS => ?_)
        have hH := hq
        have hH : TH E (tbC dA dB (riverD (.inl Fa1) (.inl Fb1) (.inl (0, 4)) 31 33 35 39 43 47) (riverD (.inl Fa2) (.inl Fb2) (.inl (0, 4)) 32 34 36 40 44 48) rc rd tp A14F A14F A4F A4F A14F A14F (riverD (.inl Fa3) (.inl Fb3) (.inl (0, 4)) 3 8 3 41 45 49) (riverD (.inl Fa4) (.inl Fb4) (.inl (0, 4)) 3 8 3 42 46 50) ((.inr (.inl (0, 12, Pd1)))) ((.inr (.inl (0, 12, Pd2)))) ((.inr (.inl (0, 12, Pd3)))) ((.inr (.inl (0, 12, Pd4)))) ((.inr (.inl (0, 12, Ps1)))) ((.inr (.inl (0, 12, Ps2)))) ((.inr (.inl (0, 12, Ps3)))) ((.inr (.inl (0, 12, Ps4)))) ((.inr (.inl (0, 48, Pi1)))) ((.inr (.inl (0, 48, Pi2)))) ((.inr (.inl (0, 48, Pi3)))) ((.inr (.inl (0, 48, Pi4))))) H := hH
        refine lv_aload_n F.1 F.2.1 dX4_writeReach_88 rfl (lv_at hl 0 rfl) ?_
        refine lv_aload_n F.1 F.2.1 dX4_writeReach_89 rfl (lv_at hl 0 rfl) ?_
        refine tGetR0 (j := 0) F hK hH (tyb ha0 (all1 rfl)) rfl clX4 (by decide) wd_5_23 dX4_writeReach_90 (fun q_49 hq_49 => ?_)
        refine tGetRM0 (j := 2) (L := [43, 44]) F hK hH hq_49 (alls ⟨_, _, rfl, rfl, by decide⟩ (alls1 ⟨_, _, rfl, rfl, by decide⟩)) clX2 (by decide) wd_53_11 dX4_writeReach_93 (fun q_50 hq_50 => ?_)
        refine lv_iload_n F.1 F.2.1 dX4_writeReach_96 rfl (lv_at hl 1 rfl) ?_
        refine tIaldM (lo := (-2147483648)) (hi := 2147483647) F hK hH hq_50 (alls ⟨_, rfl, hPs1⟩ (alls1 ⟨_, rfl, hPs2⟩)) (ixb (n := 12) ha1 rfl rfl) dX4_writeReach_97 (fun z_51 hz_51 => ?_)
        refine tVv (b := a0) (As := [.int z_51]) (rest := []) F hK hN hO (c_X4_putNextNumber E dA dB rc rd tp Fa1 Fb1 Fa2 Fb2 Fa3 Fb3 Fa4 Fb4 Pd1 Pd2 Pd3 Pd4 Ps1 Ps2 Ps3 Ps4 Pi1 Pi2 Pi3 Pi4 a0 z_51 ha0 hFa1 hFb1 hFa2 hFb2 hFa3 hFb3 hFa4 hFb4 hPd1 hPd2 hPd3 hPd4 hPs1 hPs2 hPs3 hPs4 hPi1 hPi2 hPi3 hPi4) mv_X4_putNextNumber wd_54_6 ⟨Nat.le_of_ble_eq_true rfl, Nat.le_of_ble_eq_true rfl⟩ ⟨Nat.le_of_ble_eq_true rfl, Nat.le_of_ble_eq_true rfl⟩ hH hS (tRecv hK hH (tyb ha0 (all1 rfl)) clX4) rfl hl.1 (Nat.le_of_ble_eq_true rfl) dX4_writeReach_98 (fun H locs hq hS => ?_)
        have hH := hq
        have hH : TH E (tbC dA dB (riverD (.inl Fa1) (.inl Fb1) (.inl (0, 4)) 31 33 35 39 43 47) (riverD (.inl Fa2) (.inl Fb2) (.inl (0, 4)) 32 34 36 40 44 48) rc rd tp A14F A14F A4F A4F A14F A14F (riverD (.inl Fa3) (.inl Fb3) (.inl (0, 4)) 3 8 3 41 45 49) (riverD (.inl Fa4) (.inl Fb4) (.inl (0, 4)) 3 8 3 42 46 50) ((.inr (.inl (0, 12, Pd1)))) ((.inr (.inl (0, 12, Pd2)))) ((.inr (.inl (0, 12, Pd3)))) ((.inr (.inl (0, 12, Pd4)))) ((.inr (.inl (0, 12, Ps1)))) ((.inr (.inl (0, 12, Ps2)))) ((.inr (.inl (0, 12, Ps3)))) ((.inr (.inl (0, 12, Ps4)))) ((.inr (.inl (0, 48, Pi1)))) ((.inr (.inl (0, 48, Pi2)))) ((.inr (.inl (0, 48, Pi3)))) ((.inr (.inl (0, 48, Pi4))))) H := hH
        exact txV F hS dX4_writeReach_101 (hH)
    · skip
      have r_42 : 0 ≤ u_38.toInt ∧ u_38.toInt ≤ 3 := by have h9_ := hu_38; omega
      refine lv_aload_n F.1 F.2.1 dX4_writeReach_47 rfl (lv_at hl 0 rfl) ?_
      refine lv_aload_n F.1 F.2.1 dX4_writeReach_48 rfl (lv_at hl 0 rfl) ?_
      refine tGetR0 (j := 0) F hK hH (tyb ha0 (all1 rfl)) rfl clX4 (by decide) wd_5_23 dX4_writeReach_49 (fun q_53 hq_53 => ?_)
      refine tGetRM0 (j := 3) (L := [47, 48]) F hK hH hq_53 (alls ⟨_, _, rfl, rfl, by decide⟩ (alls1 ⟨_, _, rfl, rfl, by decide⟩)) clX2 (by decide) wd_53_10 dX4_writeReach_52 (fun q_54 hq_54 => ?_)
      refine lv_iload_n F.1 F.2.1 dX4_writeReach_55 rfl (lv_at hl 1 rfl) ?_
      refine lv_iconst (v := 4) F.1 F.2.1 dX4_writeReach_56 (by decide) ?_
      refine topK (a := 4) (by decide) (fun k_55 hk_55 => ?_)
      refine tMul (lo := 0) (hi := 44) F dX4_writeReach_57 ha1 (eqb hk_55) rfl (fun z_56 hz_56 => ?_)
      have mz_56 : z_56.toInt = a1.toInt * 4 := by rw [hz_56.1, hk_55]
      refine lv_iload_n F.1 F.2.1 dX4_writeReach_58 rfl (lv_at hl 2 rfl) ?_
      refine tAdd (lo := 0) (hi := 47) F dX4_writeReach_59 hz_56.2 r_42 rfl (fun z_57 hz_57 => ?_)
      refine tIaldM (lo := (-2147483648)) (hi := 2147483647) F hK hH hq_54 (alls ⟨_, rfl, hPi1⟩ (alls1 ⟨_, rfl, hPi2⟩)) (ixb (n := 48) hz_57.2 rfl rfl) dX4_writeReach_60 (fun z_58 hz_58 => ?_)
      refine tVv (b := a0) (As := [.int z_58]) (rest := []) F hK hN hO (c_X4_putNextNumber E dA dB rc rd tp Fa1 Fb1 Fa2 Fb2 Fa3 Fb3 Fa4 Fb4 Pd1 Pd2 Pd3 Pd4 Ps1 Ps2 Ps3 Ps4 Pi1 Pi2 Pi3 Pi4 a0 z_58 ha0 hFa1 hFb1 hFa2 hFb2 hFa3 hFb3 hFa4 hFb4 hPd1 hPd2 hPd3 hPd4 hPs1 hPs2 hPs3 hPs4 hPi1 hPi2 hPi3 hPi4) mv_X4_putNextNumber wd_54_6 ⟨Nat.le_of_ble_eq_true rfl, Nat.le_of_ble_eq_true rfl⟩ ⟨Nat.le_of_ble_eq_true rfl, Nat.le_of_ble_eq_true rfl⟩ hH hS (tRecv hK hH (tyb ha0 (all1 rfl)) clX4) rfl hl.1 (Nat.le_of_ble_eq_true rfl) dX4_writeReach_61 (fun H locs hq hS => ?_)
      have hH := hq
      have hH : TH E (tbC dA dB (riverD (.inl Fa1) (.inl Fb1) (.inl (0, 4)) 31 33 35 39 43 47) (riverD (.inl Fa2) (.inl Fb2) (.inl (0, 4)) 32 34 36 40 44 48) rc rd tp A14F A14F A4F A4F A14F A14F (riverD (.inl Fa3) (.inl Fb3) (.inl (0, 4)) 3 8 3 41 45 49) (riverD (.inl Fa4) (.inl Fb4) (.inl (0, 4)) 3 8 3 42 46 50) ((.inr (.inl (0, 12, Pd1)))) ((.inr (.inl (0, 12, Pd2)))) ((.inr (.inl (0, 12, Pd3)))) ((.inr (.inl (0, 12, Pd4)))) ((.inr (.inl (0, 12, Ps1)))) ((.inr (.inl (0, 12, Ps2)))) ((.inr (.inl (0, 12, Ps3)))) ((.inr (.inl (0, 12, Ps4)))) ((.inr (.inl (0, 48, Pi1)))) ((.inr (.inl (0, 48, Pi2)))) ((.inr (.inl (0, 48, Pi3)))) ((.inr (.inl (0, 48, Pi4))))) H := hH
      obtain ⟨x_60, ex_60, hx_60⟩ := iincB (c := 1) (lo := 1) (hi := 4) r_42 rfl
      refine lv_iinc (v := x_60) (lv' := [(2, .int x_60), (0, .ref a0), (1, .int a1)]) F.1 F.2.1 dX4_writeReach_64 hl (k := 2) rfl ex_60 (by decide) rfl (fun ls hl => ?_)
      refine lv_goto (tgt := 42) F.1 F.2.1 dX4_writeReach_67 (by decide) ?_
      exact ih_42 (x_60) _ _ _ ⟨(show (4 - x_60.toInt + 1).toNat < n_42 from by omega), (wkb hx_60.2 rfl rfl), hH, hS, lv_sub hl [1, 2, 0] rfl⟩
set_option maxHeartbeats 4000000 in
set_option maxRecDepth 100000 in
theorem c_X4_write (E : Ev) (dA : TD) (dB : TD) (rc : TD) (rd : TD) (tp : TD) (Fa1 : Int × Int) (Fb1 : Int × Int) (Fa2 : Int × Int) (Fb2 : Int × Int) (Fa3 : Int × Int) (Fb3 : Int × Int) (Fa4 : Int × Int) (Fb4 : Int × Int) (Pd1 : (Nat → Int32) → Prop) (Pd2 : (Nat → Int32) → Prop) (Pd3 : (Nat → Int32) → Prop) (Pd4 : (Nat → Int32) → Prop) (Ps1 : (Nat → Int32) → Prop) (Ps2 : (Nat → Int32) → Prop) (Ps3 : (Nat → Int32) → Prop) (Ps4 : (Nat → Int32) → Prop) (Pi1 : (Nat → Int32) → Prop) (Pi2 : (Nat → Int32) → Prop) (Pi3 : (Nat → Int32) → Prop) (Pi4 : (Nat → Int32) → Prop) (a0 : Nat) (a1 : Nat) (a2 : Nat) (a3 : Int32) (ha0 : eT E a0 ∈ [23]) (ha1 : eT E a1 ∈ [26, 27]) (ha2 : eT E a2 ∈ [17]) (hFa1 : 0 ≤ Fa1.1 ∧ Fa1.2 ≤ 12) (hFb1 : 0 ≤ Fb1.1 ∧ Fb1.2 ≤ 14) (hFa2 : 0 ≤ Fa2.1 ∧ Fa2.2 ≤ 12) (hFb2 : 0 ≤ Fb2.1 ∧ Fb2.2 ≤ 14) (hFa3 : 0 ≤ Fa3.1 ∧ Fa3.2 ≤ 12) (hFb3 : 0 ≤ Fb3.1 ∧ Fb3.2 ≤ 14) (hFa4 : 0 ≤ Fa4.1 ∧ Fa4.2 ≤ 12) (hFb4 : 0 ≤ Fb4.1 ∧ Fb4.2 ≤ 14) (hPd1 : ∀ f, Pd1 f → ivP 12 (-2) 11 f) (hPd2 : ∀ f, Pd2 f → ivP 12 (-2) 11 f) (hPd3 : ∀ f, Pd3 f → ivP 12 (-2) 11 f) (hPd4 : ∀ f, Pd4 f → ivP 12 (-2) 11 f) (hPs1 : ∀ f, Ps1 f → ivP 12 (-2147483648) 2147483647 f) (hPs2 : ∀ f, Ps2 f → ivP 12 (-2147483648) 2147483647 f) (hPs3 : ∀ f, Ps3 f → ivP 12 (-2147483648) 2147483647 f) (hPs4 : ∀ f, Ps4 f → ivP 12 (-2147483648) 2147483647 f) (hPi1 : ∀ f, Pi1 f → ivP 48 (-2147483648) 2147483647 f) (hPi2 : ∀ f, Pi2 f → ivP 48 (-2147483648) 2147483647 f) (hPi3 : ∀ f, Pi3 f → ivP 48 (-2147483648) 2147483647 f) (hPi4 : ∀ f, Pi4 f → ivP 48 (-2147483648) 2147483647 f) : TcV E yX4_write cX4_write 5 ({ frames := 8, cells := 0, slots := 0, locals := 246 }) [.ref a0, .ref a1, .ref a2, .int a3] (fun H => TH E (tbC dA dB (riverD (.inl Fa1) (.inl Fb1) (.inl (0, 4)) 31 33 35 39 43 47) (riverD (.inl Fa2) (.inl Fb2) (.inl (0, 4)) 32 34 36 40 44 48) rc rd tp A14F A14F A4F A4F A14F A14F (riverD (.inl Fa3) (.inl Fb3) (.inl (0, 4)) 3 8 3 41 45 49) (riverD (.inl Fa4) (.inl Fb4) (.inl (0, 4)) 3 8 3 42 46 50) ((.inr (.inl (0, 12, Pd1)))) ((.inr (.inl (0, 12, Pd2)))) ((.inr (.inl (0, 12, Pd3)))) ((.inr (.inl (0, 12, Pd4)))) ((.inr (.inl (0, 12, Ps1)))) ((.inr (.inl (0, 12, Ps2)))) ((.inr (.inl (0, 12, Ps3)))) ((.inr (.inl (0, 12, Ps4)))) ((.inr (.inl (0, 48, Pi1)))) ((.inr (.inl (0, 48, Pi2)))) ((.inr (.inl (0, 48, Pi3)))) ((.inr (.inl (0, 48, Pi4))))) H) (fun H => TH E (tbC dA dB (riverD (.inl Fa1) (.inl Fb1) (.inl (0, 4)) 31 33 35 39 43 47) (riverD (.inl Fa2) (.inl Fb2) (.inl (0, 4)) 32 34 36 40 44 48) rc rd tp A14F A14F A4F A4F A14F A14F (riverD (.inl Fa3) (.inl Fb3) (.inl (0, 4)) 3 8 3 41 45 49) (riverD (.inl Fa4) (.inl Fb4) (.inl (0, 4)) 3 8 3 42 46 50) ((.inr (.inl (0, 12, Pd1)))) ((.inr (.inl (0, 12, Pd2)))) ((.inr (.inl (0, 12, Pd3)))) ((.inr (.inl (0, 12, Pd4)))) ((.inr (.inl (0, 12, Ps1)))) ((.inr (.inl (0, 12, Ps2)))) ((.inr (.inl (0, 12, Ps3)))) ((.inr (.inl (0, 12, Ps4)))) ((.inr (.inl (0, 48, Pi1)))) ((.inr (.inl (0, 48, Pi2)))) ((.inr (.inl (0, 48, Pi3)))) ((.inr (.inl (0, 48, Pi4))))) H) := by
  refine teV (by decide) (Nat.le_of_ble_eq_true rfl) ?_
  intro p_ ev_ s mi_ below_ meth cd_ ls F hK hN hO hH hS hl
  have hH : TH E (tbC dA dB (riverD (.inl Fa1) (.inl Fb1) (.inl (0, 4)) 31 33 35 39 43 47) (riverD (.inl Fa2) (.inl Fb2) (.inl (0, 4)) 32 34 36 40 44 48) rc rd tp A14F A14F A4F A4F A14F A14F (riverD (.inl Fa3) (.inl Fb3) (.inl (0, 4)) 3 8 3 41 45 49) (riverD (.inl Fa4) (.inl Fb4) (.inl (0, 4)) 3 8 3 42 46 50) ((.inr (.inl (0, 12, Pd1)))) ((.inr (.inl (0, 12, Pd2)))) ((.inr (.inl (0, 12, Pd3)))) ((.inr (.inl (0, 12, Pd4)))) ((.inr (.inl (0, 12, Ps1)))) ((.inr (.inl (0, 12, Ps2)))) ((.inr (.inl (0, 12, Ps3)))) ((.inr (.inl (0, 12, Ps4)))) ((.inr (.inl (0, 48, Pi1)))) ((.inr (.inl (0, 48, Pi2)))) ((.inr (.inl (0, 48, Pi3)))) ((.inr (.inl (0, 48, Pi4))))) s.heap := hH
  have hl : lv_has ls 5 [(0, .ref a0), (1, .ref a1), (2, .ref a2), (3, .int a3)] := hl
  refine lv_aload_n F.1 F.2.1 dX4_write_0 rfl (lv_at hl 0 rfl) ?_
  refine lv_aload_n F.1 F.2.1 dX4_write_1 rfl (lv_at hl 1 rfl) ?_
  refine tPut (j := 0) F hK hH hS (tyb ha0 (all1 rfl)) rfl (fdR ha1) clX4 (by decide) wd_5_23 rfl rfl rfl rfl dX4_write_2 (fun H locs hH hS => ?_)
  refine lv_aload_n F.1 F.2.1 dX4_write_5 rfl (lv_at hl 0 rfl) ?_
  refine lv_aload_n F.1 F.2.1 dX4_write_6 rfl (lv_at hl 2 rfl) ?_
  refine tPut (j := 1) F hK hH hS (tyb ha0 (all1 rfl)) rfl (fdR ha2) clX4 (by decide) wd_6_0 rfl rfl rfl rfl dX4_write_7 (fun H locs hH hS => ?_)
  refine lv_aload_n F.1 F.2.1 dX4_write_10 rfl (lv_at hl 0 rfl) ?_
  refine lv_iload_n F.1 F.2.1 dX4_write_11 rfl (lv_at hl 3 rfl) ?_
  refine tPut (j := 2) F hK hH hS (tyb ha0 (all1 rfl)) rfl (fdI (i32b _)) clX4 (by decide) wd_52_22 rfl rfl rfl rfl dX4_write_12 (fun H locs hH hS => ?_)
  refine lv_aload_n F.1 F.2.1 dX4_write_15 rfl (lv_at hl 0 rfl) ?_
  refine lv_iconst (v := 0) F.1 F.2.1 dX4_write_16 (by decide) ?_
  refine topK (a := 0) (by decide) (fun k_1 hk_1 => ?_)
  refine tPut (j := 3) F hK hH hS (tyb ha0 (all1 rfl)) rfl (fdI (wkb (eqb hk_1) rfl rfl)) clX4 (by decide) wd_52_23 rfl rfl rfl rfl dX4_write_17 (fun H locs hH hS => ?_)
  refine lv_aload_n F.1 F.2.1 dX4_write_20 rfl (lv_at hl 0 rfl) ?_
  refine lv_bipush (v := (-2)) F.1 F.2.1 dX4_write_21 (by decide) ?_
  refine topK (a := (-2)) (by decide) (fun k_2 hk_2 => ?_)
  refine tPut (j := 4) F hK hH hS (tyb ha0 (all1 rfl)) rfl (fdI (wkb (eqb hk_2) rfl rfl)) clX4 (by decide) wd_53_0 rfl rfl rfl rfl dX4_write_23 (fun H locs hH hS => ?_)
  refine lv_iconst (v := 0) F.1 F.2.1 dX4_write_26 (by decide) ?_
  refine topK (a := 0) (by decide) (fun k_3 hk_3 => ?_)
  refine lv_istore (lv' := [(4, .int k_3), (0, .ref a0), (1, .ref a1), (2, .ref a2), (3, .int a3)]) F.1 F.2.1 dX4_write_27 hl (by decide) rfl (fun ls hl => ?_)
  refine wloop (σ := Int32) (fun n9 x9 H locs ls => (12 - x9.toInt + 1).toNat < n9 ∧ (0 ≤ x9.toInt ∧ x9.toInt ≤ 12) ∧ TH E (tbC dA dB (riverD (.inl Fa1) (.inl Fb1) (.inl (0, 4)) 31 33 35 39 43 47) (riverD (.inl Fa2) (.inl Fb2) (.inl (0, 4)) 32 34 36 40 44 48) rc rd tp A14F A14F A4F A4F A14F A14F (riverD (.inl Fa3) (.inl Fb3) (.inl (0, 4)) 3 8 3 41 45 49) (riverD (.inl Fa4) (.inl Fb4) (.inl (0, 4)) 3 8 3 42 46 50) ((.inr (.inl (0, 12, Pd1)))) ((.inr (.inl (0, 12, Pd2)))) ((.inr (.inl (0, 12, Pd3)))) ((.inr (.inl (0, 12, Pd4)))) ((.inr (.inl (0, 12, Ps1)))) ((.inr (.inl (0, 12, Ps2)))) ((.inr (.inl (0, 12, Ps3)))) ((.inr (.inl (0, 12, Ps4)))) ((.inr (.inl (0, 48, Pi1)))) ((.inr (.inl (0, 48, Pi2)))) ((.inr (.inl (0, 48, Pi3)))) ((.inr (.inl (0, 48, Pi4))))) H ∧ va_S (eA E s.heap.size) s.heap H locs ∧ lv_has ls 5 [(0, .ref a0), (1, .ref a1), (2, .ref a2), (4, .int x9)]) ?_ (fun x9 H locs ls h => absurd h.1 (Nat.not_lt_zero _)) _ (k_3) ⟨Nat.lt_succ_self _, (wkb (eqb hk_3) rfl rfl), hH, hS, lv_sub hl [1, 2, 3, 0] rfl⟩
  intro n_29 ih_29 u_4 H locs ls ⟨hm_29, hu_4, hH, hS, hl⟩
  have hm_29 : (12 - u_4.toInt + 1).toNat < n_29 + 1 := hm_29
  have hu_4 : (0 ≤ u_4.toInt ∧ u_4.toInt ≤ 12) := hu_4
  have hH : TH E (tbC dA dB (riverD (.inl Fa1) (.inl Fb1) (.inl (0, 4)) 31 33 35 39 43 47) (riverD (.inl Fa2) (.inl Fb2) (.inl (0, 4)) 32 34 36 40 44 48) rc rd tp A14F A14F A4F A4F A14F A14F (riverD (.inl Fa3) (.inl Fb3) (.inl (0, 4)) 3 8 3 41 45 49) (riverD (.inl Fa4) (.inl Fb4) (.inl (0, 4)) 3 8 3 42 46 50) ((.inr (.inl (0, 12, Pd1)))) ((.inr (.inl (0, 12, Pd2)))) ((.inr (.inl (0, 12, Pd3)))) ((.inr (.inl (0, 12, Pd4)))) ((.inr (.inl (0, 12, Ps1)))) ((.inr (.inl (0, 12, Ps2)))) ((.inr (.inl (0, 12, Ps3)))) ((.inr (.inl (0, 12, Ps4)))) ((.inr (.inl (0, 48, Pi1)))) ((.inr (.inl (0, 48, Pi2)))) ((.inr (.inl (0, 48, Pi3)))) ((.inr (.inl (0, 48, Pi4))))) H := hH
  have hl : lv_has ls 5 [(0, .ref a0), (1, .ref a1), (2, .ref a2), (4, .int u_4)] := hl
  refine lv_iload F.1 F.2.1 dX4_write_29 (lv_at hl 3 rfl) ?_
  refine lv_aload_n F.1 F.2.1 dX4_write_31 rfl (lv_at hl 1 rfl) ?_
  refine tGetIB (j := 0) (lo := 0) (hi := 12) F hK hH ha1 (alls ⟨_, _, rfl, rfl, by have h9_ := hFa1; omega⟩ (alls1 ⟨_, _, rfl, rfl, by have h9_ := hFa2; omega⟩)) clX2 (by decide) wd_53_1 dX4_write_32 (fun z_5 hz_5 => ?_)
  refine b_ge (tgt := 50) F dX4_write_35 (by decide) (fun c_6 => ?_) (fun c_6 => ?_)
  · skip
    refine lv_iconst (v := 0) F.1 F.2.1 dX4_write_50 (by decide) ?_
    refine topK (a := 0) (by decide) (fun k_9 hk_9 => ?_)
    refine lv_istore (lv' := [(4, .int k_9), (0, .ref a0), (1, .ref a1), (2, .ref a2)]) F.1 F.2.1 dX4_write_51 hl (by decide) rfl (fun ls hl => ?_)
    refine wloop (σ := Int32) (fun n9 x9 H locs ls => (14 - x9.toInt + 1).toNat < n9 ∧ (0 ≤ x9.toInt ∧ x9.toInt ≤ 14) ∧ TH E (tbC dA dB (riverD (.inl Fa1) (.inl Fb1) (.inl (0, 4)) 31 33 35 39 43 47) (riverD (.inl Fa2) (.inl Fb2) (.inl (0, 4)) 32 34 36 40 44 48) rc rd tp A14F A14F A4F A4F A14F A14F (riverD (.inl Fa3) (.inl Fb3) (.inl (0, 4)) 3 8 3 41 45 49) (riverD (.inl Fa4) (.inl Fb4) (.inl (0, 4)) 3 8 3 42 46 50) ((.inr (.inl (0, 12, Pd1)))) ((.inr (.inl (0, 12, Pd2)))) ((.inr (.inl (0, 12, Pd3)))) ((.inr (.inl (0, 12, Pd4)))) ((.inr (.inl (0, 12, Ps1)))) ((.inr (.inl (0, 12, Ps2)))) ((.inr (.inl (0, 12, Ps3)))) ((.inr (.inl (0, 12, Ps4)))) ((.inr (.inl (0, 48, Pi1)))) ((.inr (.inl (0, 48, Pi2)))) ((.inr (.inl (0, 48, Pi3)))) ((.inr (.inl (0, 48, Pi4))))) H ∧ va_S (eA E s.heap.size) s.heap H locs ∧ lv_has ls 5 [(0, .ref a0), (1, .ref a1), (2, .ref a2), (4, .int x9)]) ?_ (fun x9 H locs ls h => absurd h.1 (Nat.not_lt_zero _)) _ (k_9) ⟨Nat.lt_succ_self _, (wkb (eqb hk_9) rfl rfl), hH, hS, lv_sub hl [1, 2, 3, 0] rfl⟩
    intro n_53 ih_53 u_10 H locs ls ⟨hm_53, hu_10, hH, hS, hl⟩
    have hm_53 : (14 - u_10.toInt + 1).toNat < n_53 + 1 := hm_53
    have hu_10 : (0 ≤ u_10.toInt ∧ u_10.toInt ≤ 14) := hu_10
    have hH : TH E (tbC dA dB (riverD (.inl Fa1) (.inl Fb1) (.inl (0, 4)) 31 33 35 39 43 47) (riverD (.inl Fa2) (.inl Fb2) (.inl (0, 4)) 32 34 36 40 44 48) rc rd tp A14F A14F A4F A4F A14F A14F (riverD (.inl Fa3) (.inl Fb3) (.inl (0, 4)) 3 8 3 41 45 49) (riverD (.inl Fa4) (.inl Fb4) (.inl (0, 4)) 3 8 3 42 46 50) ((.inr (.inl (0, 12, Pd1)))) ((.inr (.inl (0, 12, Pd2)))) ((.inr (.inl (0, 12, Pd3)))) ((.inr (.inl (0, 12, Pd4)))) ((.inr (.inl (0, 12, Ps1)))) ((.inr (.inl (0, 12, Ps2)))) ((.inr (.inl (0, 12, Ps3)))) ((.inr (.inl (0, 12, Ps4)))) ((.inr (.inl (0, 48, Pi1)))) ((.inr (.inl (0, 48, Pi2)))) ((.inr (.inl (0, 48, Pi3)))) ((.inr (.inl (0, 48, Pi4))))) H := hH
    have hl : lv_has ls 5 [(0, .ref a0), (1, .ref a1), (2, .ref a2), (4, .int u_10)] := hl
    refine lv_iload F.1 F.2.1 dX4_write_53 (lv_at hl 3 rfl) ?_
    refine lv_aload_n F.1 F.2.1 dX4_write_55 rfl (lv_at hl 1 rfl) ?_
    refine tGetIB (j := 4) (lo := 0) (hi := 14) F hK hH ha1 (alls ⟨_, _, rfl, rfl, by have h9_ := hFb1; omega⟩ (alls1 ⟨_, _, rfl, rfl, by have h9_ := hFb2; omega⟩)) clX2 (by decide) wd_53_2 dX4_write_56 (fun z_11 hz_11 => ?_)
    refine b_ge (tgt := 74) F dX4_write_59 (by decide) (fun c_12 => ?_) (fun c_12 => ?_)
    · skip
      refine lv_iconst (v := 0) F.1 F.2.1 dX4_write_74 (by decide) ?_
      refine topK (a := 0) (by decide) (fun k_15 hk_15 => ?_)
      refine lv_istore (lv' := [(4, .int k_15), (0, .ref a0), (1, .ref a1), (2, .ref a2)]) F.1 F.2.1 dX4_write_75 hl (by decide) rfl (fun ls hl => ?_)
      refine wloop (σ := Int32) (fun n9 x9 H locs ls => (4 - x9.toInt + 1).toNat < n9 ∧ (0 ≤ x9.toInt ∧ x9.toInt ≤ 4) ∧ TH E (tbC dA dB (riverD (.inl Fa1) (.inl Fb1) (.inl (0, 4)) 31 33 35 39 43 47) (riverD (.inl Fa2) (.inl Fb2) (.inl (0, 4)) 32 34 36 40 44 48) rc rd tp A14F A14F A4F A4F A14F A14F (riverD (.inl Fa3) (.inl Fb3) (.inl (0, 4)) 3 8 3 41 45 49) (riverD (.inl Fa4) (.inl Fb4) (.inl (0, 4)) 3 8 3 42 46 50) ((.inr (.inl (0, 12, Pd1)))) ((.inr (.inl (0, 12, Pd2)))) ((.inr (.inl (0, 12, Pd3)))) ((.inr (.inl (0, 12, Pd4)))) ((.inr (.inl (0, 12, Ps1)))) ((.inr (.inl (0, 12, Ps2)))) ((.inr (.inl (0, 12, Ps3)))) ((.inr (.inl (0, 12, Ps4)))) ((.inr (.inl (0, 48, Pi1)))) ((.inr (.inl (0, 48, Pi2)))) ((.inr (.inl (0, 48, Pi3)))) ((.inr (.inl (0, 48, Pi4))))) H ∧ va_S (eA E s.heap.size) s.heap H locs ∧ lv_has ls 5 [(0, .ref a0), (1, .ref a1), (2, .ref a2), (4, .int x9)]) ?_ (fun x9 H locs ls h => absurd h.1 (Nat.not_lt_zero _)) _ (k_15) ⟨Nat.lt_succ_self _, (wkb (eqb hk_15) rfl rfl), hH, hS, lv_sub hl [1, 2, 3, 0] rfl⟩
      intro n_77 ih_77 u_16 H locs ls ⟨hm_77, hu_16, hH, hS, hl⟩
      have hm_77 : (4 - u_16.toInt + 1).toNat < n_77 + 1 := hm_77
      have hu_16 : (0 ≤ u_16.toInt ∧ u_16.toInt ≤ 4) := hu_16
      have hH : TH E (tbC dA dB (riverD (.inl Fa1) (.inl Fb1) (.inl (0, 4)) 31 33 35 39 43 47) (riverD (.inl Fa2) (.inl Fb2) (.inl (0, 4)) 32 34 36 40 44 48) rc rd tp A14F A14F A4F A4F A14F A14F (riverD (.inl Fa3) (.inl Fb3) (.inl (0, 4)) 3 8 3 41 45 49) (riverD (.inl Fa4) (.inl Fb4) (.inl (0, 4)) 3 8 3 42 46 50) ((.inr (.inl (0, 12, Pd1)))) ((.inr (.inl (0, 12, Pd2)))) ((.inr (.inl (0, 12, Pd3)))) ((.inr (.inl (0, 12, Pd4)))) ((.inr (.inl (0, 12, Ps1)))) ((.inr (.inl (0, 12, Ps2)))) ((.inr (.inl (0, 12, Ps3)))) ((.inr (.inl (0, 12, Ps4)))) ((.inr (.inl (0, 48, Pi1)))) ((.inr (.inl (0, 48, Pi2)))) ((.inr (.inl (0, 48, Pi3)))) ((.inr (.inl (0, 48, Pi4))))) H := hH
      have hl : lv_has ls 5 [(0, .ref a0), (1, .ref a1), (2, .ref a2), (4, .int u_16)] := hl
      refine lv_iload F.1 F.2.1 dX4_write_77 (lv_at hl 3 rfl) ?_
      refine lv_aload_n F.1 F.2.1 dX4_write_79 rfl (lv_at hl 1 rfl) ?_
      refine tGetIM (j := 14) F hK hH ha1 (alls ⟨_, rfl, rfl⟩ (alls1 ⟨_, rfl, rfl⟩)) clX2 (by decide) wd_53_3 dX4_write_80 (fun z_17 hz_17 => ?_)
      refine b_ge (tgt := 98) F dX4_write_83 (by decide) (fun c_18 => ?_) (fun c_18 => ?_)
      · skip
        refine lv_aload_n F.1 F.2.1 dX4_write_98 rfl (lv_at hl 2 rfl) ?_
        refine tGetI (j := 1) F hK hH (tyb ha2 (all1 rfl)) rfl clX5 (by decide) wd_53_4 dX4_write_99 (fun z_21 hz_21 => ?_)
        refine lv_bipush (v := 100) F.1 F.2.1 dX4_write_102 (by decide) ?_
        refine topK (a := 100) (by decide) (fun k_22 hk_22 => ?_)
        refine b_eq (tgt := 121) F dX4_write_104 (by decide) (fun c_23 => ?_) (fun c_23 => ?_)
        · skip
          have r_24 : 100 ≤ z_21.toInt ∧ z_21.toInt ≤ 100 := by have h9_ := hz_21; omega
          exact txV F hS dX4_write_121 (hH)
        · skip
          refine lv_aload_n F.1 F.2.1 dX4_write_107 rfl (lv_at hl 0 rfl) ?_
          refine va_ldcS F.1 F.2.1 F.2.2.2.2.1 (hO.1 17 _ rfl).1 dX4_write_108 ?_
          refine tVv (b := a0) (As := [.ref (eX E 17)]) (rest := []) F hK hN hO (c_X4_beginPart E dA dB rc rd tp Fa1 Fb1 Fa2 Fb2 Fa3 Fb3 Fa4 Fb4 Pd1 Pd2 Pd3 Pd4 Ps1 Ps2 Ps3 Ps4 Pi1 Pi2 Pi3 Pi4 a0 17 3 ha0 (strAt 17 rfl) hFa1 hFb1 hFa2 hFb2 hFa3 hFb3 hFa4 hFb4 hPd1 hPd2 hPd3 hPd4 hPs1 hPs2 hPs3 hPs4 hPi1 hPi2 hPi3 hPi4) mv_X4_beginPart wd_53_12 ⟨Nat.le_of_ble_eq_true rfl, Nat.le_of_ble_eq_true rfl⟩ ⟨Nat.le_of_ble_eq_true rfl, Nat.le_of_ble_eq_true rfl⟩ hH hS (tRecv hK hH (tyb ha0 (all1 rfl)) clX4) rfl hl.1 (Nat.le_of_ble_eq_true rfl) dX4_write_110 (fun H locs hq hS => ?_)
          have hH := hq
          have hH : TH E (tbC dA dB (riverD (.inl Fa1) (.inl Fb1) (.inl (0, 4)) 31 33 35 39 43 47) (riverD (.inl Fa2) (.inl Fb2) (.inl (0, 4)) 32 34 36 40 44 48) rc rd tp A14F A14F A4F A4F A14F A14F (riverD (.inl Fa3) (.inl Fb3) (.inl (0, 4)) 3 8 3 41 45 49) (riverD (.inl Fa4) (.inl Fb4) (.inl (0, 4)) 3 8 3 42 46 50) ((.inr (.inl (0, 12, Pd1)))) ((.inr (.inl (0, 12, Pd2)))) ((.inr (.inl (0, 12, Pd3)))) ((.inr (.inl (0, 12, Pd4)))) ((.inr (.inl (0, 12, Ps1)))) ((.inr (.inl (0, 12, Ps2)))) ((.inr (.inl (0, 12, Ps3)))) ((.inr (.inl (0, 12, Ps4)))) ((.inr (.inl (0, 48, Pi1)))) ((.inr (.inl (0, 48, Pi2)))) ((.inr (.inl (0, 48, Pi3)))) ((.inr (.inl (0, 48, Pi4))))) H := hH
          refine lv_aload_n F.1 F.2.1 dX4_write_113 rfl (lv_at hl 0 rfl) ?_
          refine lv_aload_n F.1 F.2.1 dX4_write_114 rfl (lv_at hl 2 rfl) ?_
          refine tGetI (j := 1) F hK hH (tyb ha2 (all1 rfl)) rfl clX5 (by decide) wd_53_4 dX4_write_115 (fun z_26 hz_26 => ?_)
          refine tVv (b := a0) (As := [.int z_26]) (rest := []) F hK hN hO (c_X4_putNextNumber E dA dB rc rd tp Fa1 Fb1 Fa2 Fb2 Fa3 Fb3 Fa4 Fb4 Pd1 Pd2 Pd3 Pd4 Ps1 Ps2 Ps3 Ps4 Pi1 Pi2 Pi3 Pi4 a0 z_26 ha0 hFa1 hFb1 hFa2 hFb2 hFa3 hFb3 hFa4 hFb4 hPd1 hPd2 hPd3 hPd4 hPs1 hPs2 hPs3 hPs4 hPi1 hPi2 hPi3 hPi4) mv_X4_putNextNumber wd_54_6 ⟨Nat.le_of_ble_eq_true rfl, Nat.le_of_ble_eq_true rfl⟩ ⟨Nat.le_of_ble_eq_true rfl, Nat.le_of_ble_eq_true rfl⟩ hH hS (tRecv hK hH (tyb ha0 (all1 rfl)) clX4) rfl hl.1 (Nat.le_of_ble_eq_true rfl) dX4_write_118 (fun H locs hq hS => ?_)
          have hH := hq
          have hH : TH E (tbC dA dB (riverD (.inl Fa1) (.inl Fb1) (.inl (0, 4)) 31 33 35 39 43 47) (riverD (.inl Fa2) (.inl Fb2) (.inl (0, 4)) 32 34 36 40 44 48) rc rd tp A14F A14F A4F A4F A14F A14F (riverD (.inl Fa3) (.inl Fb3) (.inl (0, 4)) 3 8 3 41 45 49) (riverD (.inl Fa4) (.inl Fb4) (.inl (0, 4)) 3 8 3 42 46 50) ((.inr (.inl (0, 12, Pd1)))) ((.inr (.inl (0, 12, Pd2)))) ((.inr (.inl (0, 12, Pd3)))) ((.inr (.inl (0, 12, Pd4)))) ((.inr (.inl (0, 12, Ps1)))) ((.inr (.inl (0, 12, Ps2)))) ((.inr (.inl (0, 12, Ps3)))) ((.inr (.inl (0, 12, Ps4)))) ((.inr (.inl (0, 48, Pi1)))) ((.inr (.inl (0, 48, Pi2)))) ((.inr (.inl (0, 48, Pi3)))) ((.inr (.inl (0, 48, Pi4))))) H := hH
          exact txV F hS dX4_write_121 (hH)
      · skip
        have r_19 : 0 ≤ u_16.toInt ∧ u_16.toInt ≤ 3 := by have h9_ := hu_16; omega
        have r_20 : 1 ≤ z_17.toInt ∧ z_17.toInt ≤ 4 := by have h9_ := hz_17; omega
        refine lv_aload_n F.1 F.2.1 dX4_write_86 rfl (lv_at hl 0 rfl) ?_
        refine lv_iload F.1 F.2.1 dX4_write_87 (lv_at hl 3 rfl) ?_
        refine tVv (b := a0) (As := [.int u_16]) (rest := []) F hK hN hO (c_X4_writeStore E dA dB rc rd tp Fa1 Fb1 Fa2 Fb2 Fa3 Fb3 Fa4 Fb4 Pd1 Pd2 Pd3 Pd4 Ps1 Ps2 Ps3 Ps4 Pi1 Pi2 Pi3 Pi4 a0 u_16 ha0 r_19 hFa1 hFb1 hFa2 hFb2 hFa3 hFb3 hFa4 hFb4 hPd1 hPd2 hPd3 hPd4 hPs1 hPs2 hPs3 hPs4 hPi1 hPi2 hPi3 hPi4) mv_X4_writeStore wd_55_0 ⟨Nat.le_of_ble_eq_true rfl, Nat.le_of_ble_eq_true rfl⟩ ⟨Nat.le_of_ble_eq_true rfl, Nat.le_of_ble_eq_true rfl⟩ hH hS (tRecv hK hH (tyb ha0 (all1 rfl)) clX4) rfl hl.1 (Nat.le_of_ble_eq_true rfl) dX4_write_89 (fun H locs hq hS => ?_)
        have hH := hq
        have hH : TH E (tbC dA dB (riverD (.inl Fa1) (.inl Fb1) (.inl (0, 4)) 31 33 35 39 43 47) (riverD (.inl Fa2) (.inl Fb2) (.inl (0, 4)) 32 34 36 40 44 48) rc rd tp A14F A14F A4F A4F A14F A14F (riverD (.inl Fa3) (.inl Fb3) (.inl (0, 4)) 3 8 3 41 45 49) (riverD (.inl Fa4) (.inl Fb4) (.inl (0, 4)) 3 8 3 42 46 50) ((.inr (.inl (0, 12, Pd1)))) ((.inr (.inl (0, 12, Pd2)))) ((.inr (.inl (0, 12, Pd3)))) ((.inr (.inl (0, 12, Pd4)))) ((.inr (.inl (0, 12, Ps1)))) ((.inr (.inl (0, 12, Ps2)))) ((.inr (.inl (0, 12, Ps3)))) ((.inr (.inl (0, 12, Ps4)))) ((.inr (.inl (0, 48, Pi1)))) ((.inr (.inl (0, 48, Pi2)))) ((.inr (.inl (0, 48, Pi3)))) ((.inr (.inl (0, 48, Pi4))))) H := hH
        obtain ⟨x_29, ex_29, hx_29⟩ := iincB (c := 1) (lo := 1) (hi := 4) r_19 rfl
        refine lv_iinc (v := x_29) (lv' := [(4, .int x_29), (0, .ref a0), (1, .ref a1), (2, .ref a2)]) F.1 F.2.1 dX4_write_92 hl (k := 3) rfl ex_29 (by decide) rfl (fun ls hl => ?_)
        refine lv_goto (tgt := 77) F.1 F.2.1 dX4_write_95 (by decide) ?_
        exact ih_77 (x_29) _ _ _ ⟨(show (4 - x_29.toInt + 1).toNat < n_77 from by omega), (wkb hx_29.2 rfl rfl), hH, hS, lv_sub hl [1, 2, 3, 0] rfl⟩
    · skip
      have r_13 : 0 ≤ u_10.toInt ∧ u_10.toInt ≤ 13 := by have h9_ := hu_10; omega
      have r_14 : 1 ≤ z_11.toInt ∧ z_11.toInt ≤ 14 := by have h9_ := hz_11; omega
      refine lv_aload_n F.1 F.2.1 dX4_write_62 rfl (lv_at hl 0 rfl) ?_
      refine lv_iload F.1 F.2.1 dX4_write_63 (lv_at hl 3 rfl) ?_
      refine tVv (b := a0) (As := [.int u_10]) (rest := []) F hK hN hO (c_X4_writeRight E dA dB rc rd tp Fa1 Fb1 Fa2 Fb2 Fa3 Fb3 Fa4 Fb4 Pd1 Pd2 Pd3 Pd4 Ps1 Ps2 Ps3 Ps4 Pi1 Pi2 Pi3 Pi4 a0 u_10 ha0 r_13 hFa1 hFb1 hFa2 hFb2 hFa3 hFb3 hFa4 hFb4 hPd1 hPd2 hPd3 hPd4 hPs1 hPs2 hPs3 hPs4 hPi1 hPi2 hPi3 hPi4) mv_X4_writeRight wd_54_11 ⟨Nat.le_of_ble_eq_true rfl, Nat.le_of_ble_eq_true rfl⟩ ⟨Nat.le_of_ble_eq_true rfl, Nat.le_of_ble_eq_true rfl⟩ hH hS (tRecv hK hH (tyb ha0 (all1 rfl)) clX4) rfl hl.1 (Nat.le_of_ble_eq_true rfl) dX4_write_65 (fun H locs hq hS => ?_)
      have hH := hq
      have hH : TH E (tbC dA dB (riverD (.inl Fa1) (.inl Fb1) (.inl (0, 4)) 31 33 35 39 43 47) (riverD (.inl Fa2) (.inl Fb2) (.inl (0, 4)) 32 34 36 40 44 48) rc rd tp A14F A14F A4F A4F A14F A14F (riverD (.inl Fa3) (.inl Fb3) (.inl (0, 4)) 3 8 3 41 45 49) (riverD (.inl Fa4) (.inl Fb4) (.inl (0, 4)) 3 8 3 42 46 50) ((.inr (.inl (0, 12, Pd1)))) ((.inr (.inl (0, 12, Pd2)))) ((.inr (.inl (0, 12, Pd3)))) ((.inr (.inl (0, 12, Pd4)))) ((.inr (.inl (0, 12, Ps1)))) ((.inr (.inl (0, 12, Ps2)))) ((.inr (.inl (0, 12, Ps3)))) ((.inr (.inl (0, 12, Ps4)))) ((.inr (.inl (0, 48, Pi1)))) ((.inr (.inl (0, 48, Pi2)))) ((.inr (.inl (0, 48, Pi3)))) ((.inr (.inl (0, 48, Pi4))))) H := hH
      obtain ⟨x_31, ex_31, hx_31⟩ := iincB (c := 1) (lo := 1) (hi := 14) r_13 rfl
      refine lv_iinc (v := x_31) (lv' := [(4, .int x_31), (0, .ref a0), (1, .ref a1), (2, .ref a2)]) F.1 F.2.1 dX4_write_68 hl (k := 3) rfl ex_31 (by decide) rfl (fun ls hl => ?_)
      refine lv_goto (tgt := 53) F.1 F.2.1 dX4_write_71 (by decide) ?_
      exact ih_53 (x_31) _ _ _ ⟨(show (14 - x_31.toInt + 1).toNat < n_53 from by omega), (wkb hx_31.2 rfl rfl), hH, hS, lv_sub hl [1, 2, 3, 0] rfl⟩
  · skip
    have r_7 : 0 ≤ u_4.toInt ∧ u_4.toInt ≤ 11 := by have h9_ := hu_4; omega
    have r_8 : 1 ≤ z_5.toInt ∧ z_5.toInt ≤ 12 := by have h9_ := hz_5; omega
    refine lv_aload_n F.1 F.2.1 dX4_write_38 rfl (lv_at hl 0 rfl) ?_
    refine lv_iload F.1 F.2.1 dX4_write_39 (lv_at hl 3 rfl) ?_
    refine tVv (b := a0) (As := [.int u_4]) (rest := []) F hK hN hO (c_X4_writeReach E dA dB rc rd tp Fa1 Fb1 Fa2 Fb2 Fa3 Fb3 Fa4 Fb4 Pd1 Pd2 Pd3 Pd4 Ps1 Ps2 Ps3 Ps4 Pi1 Pi2 Pi3 Pi4 a0 u_4 ha0 r_7 hFa1 hFb1 hFa2 hFb2 hFa3 hFb3 hFa4 hFb4 hPd1 hPd2 hPd3 hPd4 hPs1 hPs2 hPs3 hPs4 hPi1 hPi2 hPi3 hPi4) mv_X4_writeReach wd_53_5 ⟨Nat.le_of_ble_eq_true rfl, Nat.le_of_ble_eq_true rfl⟩ ⟨Nat.le_of_ble_eq_true rfl, Nat.le_of_ble_eq_true rfl⟩ hH hS (tRecv hK hH (tyb ha0 (all1 rfl)) clX4) rfl hl.1 (Nat.le_of_ble_eq_true rfl) dX4_write_41 (fun H locs hq hS => ?_)
    have hH := hq
    have hH : TH E (tbC dA dB (riverD (.inl Fa1) (.inl Fb1) (.inl (0, 4)) 31 33 35 39 43 47) (riverD (.inl Fa2) (.inl Fb2) (.inl (0, 4)) 32 34 36 40 44 48) rc rd tp A14F A14F A4F A4F A14F A14F (riverD (.inl Fa3) (.inl Fb3) (.inl (0, 4)) 3 8 3 41 45 49) (riverD (.inl Fa4) (.inl Fb4) (.inl (0, 4)) 3 8 3 42 46 50) ((.inr (.inl (0, 12, Pd1)))) ((.inr (.inl (0, 12, Pd2)))) ((.inr (.inl (0, 12, Pd3)))) ((.inr (.inl (0, 12, Pd4)))) ((.inr (.inl (0, 12, Ps1)))) ((.inr (.inl (0, 12, Ps2)))) ((.inr (.inl (0, 12, Ps3)))) ((.inr (.inl (0, 12, Ps4)))) ((.inr (.inl (0, 48, Pi1)))) ((.inr (.inl (0, 48, Pi2)))) ((.inr (.inl (0, 48, Pi3)))) ((.inr (.inl (0, 48, Pi4))))) H := hH
    obtain ⟨x_33, ex_33, hx_33⟩ := iincB (c := 1) (lo := 1) (hi := 12) r_7 rfl
    refine lv_iinc (v := x_33) (lv' := [(4, .int x_33), (0, .ref a0), (1, .ref a1), (2, .ref a2)]) F.1 F.2.1 dX4_write_44 hl (k := 3) rfl ex_33 (by decide) rfl (fun ls hl => ?_)
    refine lv_goto (tgt := 29) F.1 F.2.1 dX4_write_47 (by decide) ?_
    exact ih_29 (x_33) _ _ _ ⟨(show (12 - x_33.toInt + 1).toNat < n_29 from by omega), (wkb hx_33.2 rfl rfl), hH, hS, lv_sub hl [1, 2, 3, 0] rfl⟩
set_option maxHeartbeats 4000000 in
set_option maxRecDepth 100000 in
theorem c_X6_letter (E : Ev) (rd : TD) (tp : TD) (kb : Int × Int) (Fa1 : Int × Int) (Fb1 : Int × Int) (Fa2 : Int × Int) (Fb2 : Int × Int) (Fa3 : Int × Int) (Fb3 : Int × Int) (Fa4 : Int × Int) (Fb4 : Int × Int) (kr : List Nat) (ks : List Nat) (Pd1 : (Nat → Int32) → Prop) (Pd2 : (Nat → Int32) → Prop) (Pd3 : (Nat → Int32) → Prop) (Pd4 : (Nat → Int32) → Prop) (Ps1 : (Nat → Int32) → Prop) (Ps2 : (Nat → Int32) → Prop) (Ps3 : (Nat → Int32) → Prop) (Ps4 : (Nat → Int32) → Prop) (Pi1 : (Nat → Int32) → Prop) (Pi2 : (Nat → Int32) → Prop) (Pi3 : (Nat → Int32) → Prop) (Pi4 : (Nat → Int32) → Prop) (t : Int) (a0 : Nat) (a1 : Int32) (ha0 : eT E a0 ∈ [28]) (ht : 0 ≤ t ∧ t ≤ 400) (hFa1 : 0 ≤ Fa1.1 ∧ Fa1.2 ≤ 12) (hFb1 : 0 ≤ Fb1.1 ∧ Fb1.2 ≤ 14) (hFa2 : 0 ≤ Fa2.1 ∧ Fa2.2 ≤ 12) (hFb2 : 0 ≤ Fb2.1 ∧ Fb2.2 ≤ 14) (hFa3 : 0 ≤ Fa3.1 ∧ Fa3.2 ≤ 12) (hFb3 : 0 ≤ Fb3.1 ∧ Fb3.2 ≤ 14) (hFa4 : 0 ≤ Fa4.1 ∧ Fa4.2 ≤ 12) (hFb4 : 0 ≤ Fb4.1 ∧ Fb4.2 ≤ 14) (hkr : ∀ t ∈ kr, t ∈ [26, 27]) (hks : ∀ t ∈ ks, t ∈ [26, 27]) (hPd1 : ∀ f, Pd1 f → ivP 12 (-2) 11 f) (hPd2 : ∀ f, Pd2 f → ivP 12 (-2) 11 f) (hPd3 : ∀ f, Pd3 f → ivP 12 (-2) 11 f) (hPd4 : ∀ f, Pd4 f → ivP 12 (-2) 11 f) (hPs1 : ∀ f, Ps1 f → ivP 12 (-2147483648) 2147483647 f) (hPs2 : ∀ f, Ps2 f → ivP 12 (-2147483648) 2147483647 f) (hPs3 : ∀ f, Ps3 f → ivP 12 (-2147483648) 2147483647 f) (hPs4 : ∀ f, Ps4 f → ivP 12 (-2147483648) 2147483647 f) (hPi1 : ∀ f, Pi1 f → ivP 48 (-2147483648) 2147483647 f) (hPi2 : ∀ f, Pi2 f → ivP 48 (-2147483648) 2147483647 f) (hPi3 : ∀ f, Pi3 f → ivP 48 (-2147483648) 2147483647 f) (hPi4 : ∀ f, Pi4 f → ivP 48 (-2147483648) 2147483647 f) : TcI E yX6_letter cX6_letter 2 .int ({ frames := 9, cells := 0, slots := 0, locals := 270 }) [.ref a0, .int a1] (fun H => TH E (tbC (dayD (.inl (0, 18))) (dayD (.inl (0, 18))) (riverD (.inl Fa1) (.inl Fb1) (.inl (0, 4)) 31 33 35 39 43 47) (riverD (.inl Fa2) (.inl Fb2) (.inl (0, 4)) 32 34 36 40 44 48) (rcD (.inl (t, t)) (.inr kr) (.inr ks) (.inl kb)) rd tp A14F A14F A4F A4F A14F A14F (riverD (.inl Fa3) (.inl Fb3) (.inl (0, 4)) 3 8 3 41 45 49) (riverD (.inl Fa4) (.inl Fb4) (.inl (0, 4)) 3 8 3 42 46 50) ((.inr (.inl (0, 12, Pd1)))) ((.inr (.inl (0, 12, Pd2)))) ((.inr (.inl (0, 12, Pd3)))) ((.inr (.inl (0, 12, Pd4)))) ((.inr (.inl (0, 12, Ps1)))) ((.inr (.inl (0, 12, Ps2)))) ((.inr (.inl (0, 12, Ps3)))) ((.inr (.inl (0, 12, Ps4)))) ((.inr (.inl (0, 48, Pi1)))) ((.inr (.inl (0, 48, Pi2)))) ((.inr (.inl (0, 48, Pi3)))) ((.inr (.inl (0, 48, Pi4))))) H) (fun v H => ((-2147483648) ≤ v.toInt ∧ v.toInt ≤ 2147483647) ∧ TH E (tbC (dayD (.inl (0, 18))) (dayD (.inl (0, 18))) (riverD (.inl Fa1) (.inl Fb1) (.inl (0, 4)) 31 33 35 39 43 47) (riverD (.inl Fa2) (.inl Fb2) (.inl (0, 4)) 32 34 36 40 44 48) (rcD (.inl (t, t)) (.inr kr) (.inr ks) (.inl kb)) rd tp A14F A14F A4F A4F A14F A14F (riverD (.inl Fa3) (.inl Fb3) (.inl (0, 4)) 3 8 3 41 45 49) (riverD (.inl Fa4) (.inl Fb4) (.inl (0, 4)) 3 8 3 42 46 50) ((.inr (.inl (0, 12, Pd1)))) ((.inr (.inl (0, 12, Pd2)))) ((.inr (.inl (0, 12, Pd3)))) ((.inr (.inl (0, 12, Pd4)))) ((.inr (.inl (0, 12, Ps1)))) ((.inr (.inl (0, 12, Ps2)))) ((.inr (.inl (0, 12, Ps3)))) ((.inr (.inl (0, 12, Ps4)))) ((.inr (.inl (0, 48, Pi1)))) ((.inr (.inl (0, 48, Pi2)))) ((.inr (.inl (0, 48, Pi3)))) ((.inr (.inl (0, 48, Pi4))))) H) := by
  refine teI (by decide) (Nat.le_of_ble_eq_true rfl) ?_
  intro p_ ev_ s mi_ below_ meth cd_ ls F hK hN hO hH hS hl
  have hH : TH E (tbC (dayD (.inl (0, 18))) (dayD (.inl (0, 18))) (riverD (.inl Fa1) (.inl Fb1) (.inl (0, 4)) 31 33 35 39 43 47) (riverD (.inl Fa2) (.inl Fb2) (.inl (0, 4)) 32 34 36 40 44 48) (rcD (.inl (t, t)) (.inr kr) (.inr ks) (.inl kb)) rd tp A14F A14F A4F A4F A14F A14F (riverD (.inl Fa3) (.inl Fb3) (.inl (0, 4)) 3 8 3 41 45 49) (riverD (.inl Fa4) (.inl Fb4) (.inl (0, 4)) 3 8 3 42 46 50) ((.inr (.inl (0, 12, Pd1)))) ((.inr (.inl (0, 12, Pd2)))) ((.inr (.inl (0, 12, Pd3)))) ((.inr (.inl (0, 12, Pd4)))) ((.inr (.inl (0, 12, Ps1)))) ((.inr (.inl (0, 12, Ps2)))) ((.inr (.inl (0, 12, Ps3)))) ((.inr (.inl (0, 12, Ps4)))) ((.inr (.inl (0, 48, Pi1)))) ((.inr (.inl (0, 48, Pi2)))) ((.inr (.inl (0, 48, Pi3)))) ((.inr (.inl (0, 48, Pi4))))) s.heap := hH
  have hl : lv_has ls 2 [(0, .ref a0), (1, .int a1)] := hl
  refine lv_iload_n F.1 F.2.1 dX6_letter_0 rfl (lv_at hl 1 rfl) ?_
  refine lv_iconst (v := (-1)) F.1 F.2.1 dX6_letter_1 (by decide) ?_
  refine topK (a := (-1)) (by decide) (fun k_1 hk_1 => ?_)
  refine b_ge (tgt := 7) F dX6_letter_2 (by decide) (fun c_2 => ?_) (fun c_2 => ?_)
  · skip
    have r_3 : (-1) ≤ a1.toInt ∧ a1.toInt ≤ 2147483647 := by have h9_ := (i32b a1); omega
    refine lv_aload_n F.1 F.2.1 dX6_letter_7 rfl (lv_at hl 0 rfl) ?_
    refine tGetR (j := 14) F hK hH (tyb ha0 (all1 rfl)) rfl (all1 rfl) clX6 (by decide) wd_2_19 dX6_letter_8 (fun q_5 hq_5 _ => ?_)
    refine lv_aload_n F.1 F.2.1 dX6_letter_11 rfl (lv_at hl 0 rfl) ?_
    refine tGetR0 (j := 2) F hK hH (tyb ha0 (all1 rfl)) rfl clX6 (by decide) wd_1_17 dX6_letter_12 (fun q_6 hq_6 => ?_)
    refine lv_aload_n F.1 F.2.1 dX6_letter_15 rfl (lv_at hl 0 rfl) ?_
    refine tGetR (j := 4) F hK hH (tyb ha0 (all1 rfl)) rfl (all1 rfl) clX6 (by decide) wd_1_22 dX6_letter_16 (fun q_7 hq_7 _ => ?_)
    refine lv_iload_n F.1 F.2.1 dX6_letter_19 rfl (lv_at hl 1 rfl) ?_
    refine tVv (b := q_5) (As := [.ref q_6, .ref q_7, .int a1]) (rest := []) F hK hN hO (c_X4_write E (dayD (.inl (0, 18))) (dayD (.inl (0, 18))) (rcD (.inl (t, t)) (.inr kr) (.inr ks) (.inl kb)) rd tp Fa1 Fb1 Fa2 Fb2 Fa3 Fb3 Fa4 Fb4 Pd1 Pd2 Pd3 Pd4 Ps1 Ps2 Ps3 Ps4 Pi1 Pi2 Pi3 Pi4 q_5 q_6 q_7 a1 hq_5 (hkr _ hq_6) hq_7 hFa1 hFb1 hFa2 hFb2 hFa3 hFb3 hFa4 hFb4 hPd1 hPd2 hPd3 hPd4 hPs1 hPs2 hPs3 hPs4 hPi1 hPi2 hPi3 hPi4) mv_X4_write wd_52_18 ⟨Nat.le_of_ble_eq_true rfl, Nat.le_of_ble_eq_true rfl⟩ ⟨Nat.le_of_ble_eq_true rfl, Nat.le_of_ble_eq_true rfl⟩ hH hS (tRecv hK hH (tyb hq_5 (all1 rfl)) clX4) rfl hl.1 (Nat.le_of_ble_eq_true rfl) dX6_letter_20 (fun H locs hq hS => ?_)
    have hH := hq
    have hH : TH E (tbC (dayD (.inl (0, 18))) (dayD (.inl (0, 18))) (riverD (.inl Fa1) (.inl Fb1) (.inl (0, 4)) 31 33 35 39 43 47) (riverD (.inl Fa2) (.inl Fb2) (.inl (0, 4)) 32 34 36 40 44 48) (rcD (.inl (t, t)) (.inr kr) (.inr ks) (.inl kb)) rd tp A14F A14F A4F A4F A14F A14F (riverD (.inl Fa3) (.inl Fb3) (.inl (0, 4)) 3 8 3 41 45 49) (riverD (.inl Fa4) (.inl Fb4) (.inl (0, 4)) 3 8 3 42 46 50) ((.inr (.inl (0, 12, Pd1)))) ((.inr (.inl (0, 12, Pd2)))) ((.inr (.inl (0, 12, Pd3)))) ((.inr (.inl (0, 12, Pd4)))) ((.inr (.inl (0, 12, Ps1)))) ((.inr (.inl (0, 12, Ps2)))) ((.inr (.inl (0, 12, Ps3)))) ((.inr (.inl (0, 12, Ps4)))) ((.inr (.inl (0, 48, Pi1)))) ((.inr (.inl (0, 48, Pi2)))) ((.inr (.inl (0, 48, Pi3)))) ((.inr (.inl (0, 48, Pi4))))) H := hH
    refine lv_iload_n F.1 F.2.1 dX6_letter_23 rfl (lv_at hl 1 rfl) ?_
    refine lv_iconst (v := (-1)) F.1 F.2.1 dX6_letter_24 (by decide) ?_
    refine topK (a := (-1)) (by decide) (fun k_9 hk_9 => ?_)
    refine b_ne (tgt := 36) F dX6_letter_25 (by decide) (fun c_10 => ?_) (fun c_10 => ?_)
    · skip
      have r_11 : 0 ≤ a1.toInt ∧ a1.toInt ≤ 2147483647 := by have h9_ := r_3; omega
      refine lv_iload_n F.1 F.2.1 dX6_letter_36 rfl (lv_at hl 1 rfl) ?_
      refine lv_aload_n F.1 F.2.1 dX6_letter_37 rfl (lv_at hl 0 rfl) ?_
      refine tGetR (j := 14) F hK hH (tyb ha0 (all1 rfl)) rfl (all1 rfl) clX6 (by decide) wd_2_19 dX6_letter_38 (fun q_13 hq_13 _ => ?_)
      refine tGetI (j := 3) F hK hH (tyb hq_13 (all1 rfl)) rfl clX4 (by decide) wd_52_16 dX6_letter_41 (fun z_14 hz_14 => ?_)
      refine b_ge (tgt := 57) F dX6_letter_44 (by decide) (fun c_15 => ?_) (fun c_15 => ?_)
      · skip
        refine lv_bipush (v := (-2)) F.1 F.2.1 dX6_letter_57 (by decide) ?_
        refine topK (a := (-2)) (by decide) (fun k_17 hk_17 => ?_)
        exact txI F hS dX6_letter_59 rfl (⟨(wkb (eqb hk_17) rfl rfl), hH⟩)
      · skip
        have r_16 : 1 ≤ z_14.toInt ∧ z_14.toInt ≤ 2147483647 := by have h9_ := hz_14; omega
        refine lv_aload_n F.1 F.2.1 dX6_letter_47 rfl (lv_at hl 0 rfl) ?_
        refine tGetR (j := 14) F hK hH (tyb ha0 (all1 rfl)) rfl (all1 rfl) clX6 (by decide) wd_2_19 dX6_letter_48 (fun q_18 hq_18 _ => ?_)
        refine tGetI (j := 4) F hK hH (tyb hq_18 (all1 rfl)) rfl clX4 (by decide) wd_52_17 dX6_letter_51 (fun z_19 hz_19 => ?_)
        refine lv_goto (tgt := 59) F.1 F.2.1 dX6_letter_54 (by decide) ?_
        exact txI F hS dX6_letter_59 rfl (⟨hz_19, hH⟩)
    · skip
      have r_12 : (-1) ≤ a1.toInt ∧ a1.toInt ≤ (-1) := by have h9_ := r_3; omega
      refine lv_aload_n F.1 F.2.1 dX6_letter_28 rfl (lv_at hl 0 rfl) ?_
      refine tGetR (j := 14) F hK hH (tyb ha0 (all1 rfl)) rfl (all1 rfl) clX6 (by decide) wd_2_19 dX6_letter_29 (fun q_20 hq_20 _ => ?_)
      refine tGetI (j := 3) F hK hH (tyb hq_20 (all1 rfl)) rfl clX4 (by decide) wd_52_16 dX6_letter_32 (fun z_21 hz_21 => ?_)
      exact txI F hS dX6_letter_35 rfl (⟨hz_21, hH⟩)
  · skip
    have r_4 : (-2147483648) ≤ a1.toInt ∧ a1.toInt ≤ (-2) := by have h9_ := (i32b a1); omega
    refine lv_iconst (v := (-1)) F.1 F.2.1 dX6_letter_5 (by decide) ?_
    refine topK (a := (-1)) (by decide) (fun k_22 hk_22 => ?_)
    exact txI F hS dX6_letter_6 rfl (⟨(wkb (eqb hk_22) rfl rfl), hH⟩)
set_option maxHeartbeats 4000000 in
set_option maxRecDepth 100000 in
theorem c_X3_blame (E : Ev) (dA : TD) (dB : TD) (rA : TD) (rB : TD) (rc : TD) (tp : TD) (ya : TD) (yb : TD) (yc : TD) (yd : TD) (ye : TD) (yf : TD) (rC : TD) (rD : TD) (wd1 : TD) (wd2 : TD) (wd3 : TD) (wd4 : TD) (ws1 : TD) (ws2 : TD) (ws3 : TD) (ws4 : TD) (wi1 : TD) (wi2 : TD) (wi3 : TD) (wi4 : TD) (nd : FD) (pd : FD) (wd : FD) (rr : FD) (f : Int) (wq : Int) (kq : Int) (a0 : Nat) (a1 : Int32) (a2 : Int32) (ha0 : eT E a0 ∈ [29]) (ha1 : 0 ≤ a1.toInt ∧ a1.toInt ≤ 400) (ha2 : 1 ≤ a2.toInt ∧ a2.toInt ≤ 3) (hf : 0 ≤ f ∧ f ≤ 4000) (hwq : a1.toInt = wq) (hkq : a2.toInt = kq) : TcV E yX3_blame cX3_blame 3 ({ frames := 1, cells := 0, slots := 0, locals := 40 }) [.ref a0, .int a1, .int a2] (fun H => TH E (tbC dA dB rA rB rc (rdD pd nd (.inl (f, f)) wd rr) tp ya yb yc yd ye yf rC rD wd1 wd2 wd3 wd4 ws1 ws2 ws3 ws4 wi1 wi2 wi3 wi4) H) (fun H => ∃ f2 : Int, (0 ≤ f2 ∧ f2 ≤ 4000 ∧ f2 = jBl f wq kq) ∧ TH E (tbC dA dB rA rB rc (rdD pd nd (.inl (f2, f2)) wd rr) tp ya yb yc yd ye yf rC rD wd1 wd2 wd3 wd4 ws1 ws2 ws3 ws4 wi1 wi2 wi3 wi4) H) := by
  refine teV (by decide) (Nat.le_of_ble_eq_true rfl) ?_
  intro p_ ev_ s mi_ below_ meth cd_ ls F hK hN hO hH hS hl
  have hH : TH E (tbC dA dB rA rB rc (rdD pd nd (.inl (f, f)) wd rr) tp ya yb yc yd ye yf rC rD wd1 wd2 wd3 wd4 ws1 ws2 ws3 ws4 wi1 wi2 wi3 wi4) s.heap := hH
  have hl : lv_has ls 3 [(0, .ref a0), (1, .int a1), (2, .int a2)] := hl
  refine lv_aload_n F.1 F.2.1 dX3_blame_0 rfl (lv_at hl 0 rfl) ?_
  refine tGetI (j := 3) F hK hH (tyb ha0 (all1 rfl)) rfl clX3 (by decide) wd_9_5 dX3_blame_1 (fun z_1 hz_1 => ?_)
  have ez_1 : 0 ≤ z_1.toInt ∧ z_1.toInt ≤ 4000 := by omega
  refine z_ne (tgt := 17) F dX3_blame_4 (by decide) (fun c_2 => ?_) (fun c_2 => ?_)
  · skip
    have r_3 : 1 ≤ z_1.toInt ∧ z_1.toInt ≤ 4000 := by have h9_ := ez_1; omega
    exact txV F hS dX3_blame_17 (⟨f, ⟨by omega, by omega, (kBl_of (by omega))⟩, hH⟩)
  · skip
    have r_4 : 0 ≤ z_1.toInt ∧ z_1.toInt ≤ 0 := by have h9_ := ez_1; omega
    refine lv_aload_n F.1 F.2.1 dX3_blame_7 rfl (lv_at hl 0 rfl) ?_
    refine lv_bipush (v := 8) F.1 F.2.1 dX3_blame_8 (by decide) ?_
    refine topK (a := 8) (by decide) (fun k_5 hk_5 => ?_)
    refine lv_iload_n F.1 F.2.1 dX3_blame_10 rfl (lv_at hl 1 rfl) ?_
    refine tMul (lo := 0) (hi := 3200) F dX3_blame_11 (eqb hk_5) ha1 rfl (fun z_6 hz_6 => ?_)
    have mz_6 : z_6.toInt = 8 * a1.toInt := by rw [hz_6.1, hk_5]
    refine lv_iload_n F.1 F.2.1 dX3_blame_12 rfl (lv_at hl 2 rfl) ?_
    refine tAdd (lo := 1) (hi := 3203) F dX3_blame_13 hz_6.2 ha2 rfl (fun z_7 hz_7 => ?_)
    obtain ⟨g_8, hg_8⟩ : ∃ y : Int, z_7.toInt = y := ⟨_, rfl⟩
    have bg_8 : 1 ≤ g_8 ∧ g_8 ≤ 3203 := by rw [← hg_8]; exact hz_7.2
    refine tPutG (j := 3) (t := 29) (fd := (.inl (g_8, g_8))) F hK hH hS (List.mem_singleton.mp ha0) (by decide) rfl rfl (fdI (by omega)) (TB1 := (tbC dA dB rA rB rc (rdD pd nd (.inl (g_8, g_8)) wd rr) tp ya yb yc yd ye yf rC rD wd1 wd2 wd3 wd4 ws1 ws2 ws3 ws4 wi1 wi2 wi3 wi4)) rfl clX3 (by decide) wd_9_5 rfl rfl rfl rfl dX3_blame_14 (fun H locs hH hS => ?_)
    exact txV F hS dX3_blame_17 (⟨g_8, ⟨by omega, by omega, (kBl_of (by omega))⟩, hH⟩)
set_option maxHeartbeats 4000000 in
set_option maxRecDepth 100000 in
theorem c_X3_skipBlanks (E : Ev) (dA : TD) (dB : TD) (rA : TD) (rB : TD) (rc : TD) (ya : TD) (yb : TD) (yc : TD) (yd : TD) (ye : TD) (yf : TD) (rC : TD) (rD : TD) (wd1 : TD) (wd2 : TD) (wd3 : TD) (wd4 : TD) (ws1 : TD) (ws2 : TD) (ws3 : TD) (ws4 : TD) (wi1 : TD) (wi2 : TD) (wi3 : TD) (wi4 : TD) (fd : FD) (wd : FD) (rr : FD) (n : Int) (p : Int) (T : Nat → Int32) (a0 : Nat) (ha0 : eT E a0 ∈ [29]) (hn : 0 ≤ n ∧ n ≤ 400) (hp : 0 ≤ p ∧ p ≤ 400) (hT : ivP 400 (-128) 127 T) : TcV E yX3_skipBlanks cX3_skipBlanks 1 ({ frames := 1, cells := 0, slots := 0, locals := 40 }) [.ref a0] (fun H => TH E (tbC dA dB rA rB rc (rdD (.inl (p, p)) (.inl (n, n)) fd wd rr) (xB 400 T) ya yb yc yd ye yf rC rD wd1 wd2 wd3 wd4 ws1 ws2 ws3 ws4 wi1 wi2 wi3 wi4) H) (fun H => ∃ p2 : Int, (0 ≤ p2 ∧ p2 ≤ 400 ∧ p2 = rsk T n p) ∧ TH E (tbC dA dB rA rB rc (rdD (.inl (p2, p2)) (.inl (n, n)) fd wd rr) (xB 400 T) ya yb yc yd ye yf rC rD wd1 wd2 wd3 wd4 ws1 ws2 ws3 ws4 wi1 wi2 wi3 wi4) H) := by
  refine teV (by decide) (Nat.le_of_ble_eq_true rfl) ?_
  intro p_ ev_ s mi_ below_ meth cd_ ls F hK hN hO hH hS hl
  have hH : TH E (tbC dA dB rA rB rc (rdD (.inl (p, p)) (.inl (n, n)) fd wd rr) (xB 400 T) ya yb yc yd ye yf rC rD wd1 wd2 wd3 wd4 ws1 ws2 ws3 ws4 wi1 wi2 wi3 wi4) s.heap := hH
  have hl : lv_has ls 1 [(0, .ref a0)] := hl
  refine wloop (σ := Int) (fun n9 x9 H locs ls => (400 - x9 + 1).toNat < n9 ∧ (0 ≤ x9 ∧ x9 ≤ 400) ∧ (rsk T n x9 = rsk T n p) ∧ TH E (tbC dA dB rA rB rc (rdD (.inl (x9, x9)) (.inl (n, n)) fd wd rr) (xB 400 T) ya yb yc yd ye yf rC rD wd1 wd2 wd3 wd4 ws1 ws2 ws3 ws4 wi1 wi2 wi3 wi4) H ∧ va_S (eA E s.heap.size) s.heap H locs ∧ lv_has ls 1 [(0, .ref a0)]) ?_ (fun x9 H locs ls h => absurd h.1 (Nat.not_lt_zero _)) _ (p) ⟨Nat.lt_succ_self _, (show 0 ≤ p ∧ p ≤ 400 from by omega), (show rsk T n p = rsk T n p from rfl), hH, hS, lv_sub hl [0] rfl⟩
  intro n_0 ih_0 g_1 H locs ls ⟨hm_0, hg_1, hcr0_0, hH, hS, hl⟩
  have hm_0 : (400 - g_1 + 1).toNat < n_0 + 1 := hm_0
  have hg_1 : (0 ≤ g_1 ∧ g_1 ≤ 400) := hg_1
  have hcr0_0 : (rsk T n g_1 = rsk T n p) := hcr0_0
  have hH : TH E (tbC dA dB rA rB rc (rdD (.inl (g_1, g_1)) (.inl (n, n)) fd wd rr) (xB 400 T) ya yb yc yd ye yf rC rD wd1 wd2 wd3 wd4 ws1 ws2 ws3 ws4 wi1 wi2 wi3 wi4) H := hH
  have hl : lv_has ls 1 [(0, .ref a0)] := hl
  refine lv_aload_n F.1 F.2.1 dX3_skipBlanks_0 rfl (lv_at hl 0 rfl) ?_
  refine tGetI (j := 2) F hK hH (tyb ha0 (all1 rfl)) rfl clX3 (by decide) wd_9_4 dX3_skipBlanks_1 (fun z_2 hz_2 => ?_)
  have ez_2 : 0 ≤ z_2.toInt ∧ z_2.toInt ≤ 400 := by omega
  refine lv_aload_n F.1 F.2.1 dX3_skipBlanks_4 rfl (lv_at hl 0 rfl) ?_
  refine tGetI (j := 1) F hK hH (tyb ha0 (all1 rfl)) rfl clX3 (by decide) wd_9_3 dX3_skipBlanks_5 (fun z_3 hz_3 => ?_)
  have ez_3 : 0 ≤ z_3.toInt ∧ z_3.toInt ≤ 400 := by omega
  refine b_ge (tgt := 38) F dX3_skipBlanks_8 (by decide) (fun c_4 => ?_) (fun c_4 => ?_)
  · skip
    exact txV F hS dX3_skipBlanks_38 (⟨g_1, ⟨by omega, by omega, (skip_end hcr0_0 (by omega))⟩, hH⟩)
  · skip
    have r_5 : 0 ≤ z_2.toInt ∧ z_2.toInt ≤ 399 := by have h9_ := ez_2; omega
    have r_6 : 1 ≤ z_3.toInt ∧ z_3.toInt ≤ 400 := by have h9_ := ez_3; omega
    refine lv_aload_n F.1 F.2.1 dX3_skipBlanks_11 rfl (lv_at hl 0 rfl) ?_
    refine tGetR (j := 0) F hK hH (tyb ha0 (all1 rfl)) rfl (all1 rfl) clX3 (by decide) wd_5_17 dX3_skipBlanks_12 (fun q_7 hq_7 _ => ?_)
    refine lv_aload_n F.1 F.2.1 dX3_skipBlanks_15 rfl (lv_at hl 0 rfl) ?_
    refine tGetI (j := 2) F hK hH (tyb ha0 (all1 rfl)) rfl clX3 (by decide) wd_9_4 dX3_skipBlanks_16 (fun z_8 hz_8 => ?_)
    have ez_8 : 0 ≤ z_8.toInt ∧ z_8.toInt ≤ 399 := by omega
    refine tBaldX F hK hH (tyb hq_7 (all1 rfl)) (ixb (n := 400) ez_8 rfl rfl) dX3_skipBlanks_19 (fun z_9 ez_9 => ?_)
    have bz_9 : z_9.toInt = bT T (g_1) := bTof ez_9 (by omega)
    have gz_9 : z_9.toInt = gI T (z_8.toInt.toNat) := by unfold gI; rw [ez_9]; rfl
    have hz_9 : (-128) ≤ z_9.toInt ∧ z_9.toInt ≤ 127 := (by have h9_ := hT (z_8).toNatClampNeg (cl_lt (n := 400) (by omega)); rw [← ez_9] at h9_; exact h9_)
    refine lv_bipush (v := 32) F.1 F.2.1 dX3_skipBlanks_20 (by decide) ?_
    refine topK (a := 32) (by decide) (fun k_10 hk_10 => ?_)
    refine b_ne (tgt := 38) F dX3_skipBlanks_22 (by decide) (fun c_11 => ?_) (fun c_11 => ?_)
    · skip
      exact txV F hS dX3_skipBlanks_38 (⟨g_1, ⟨by omega, by omega, (skip_end hcr0_0 (by omega))⟩, hH⟩)
    · skip
      have r_12 : 32 ≤ z_9.toInt ∧ z_9.toInt ≤ 32 := by have h9_ := hz_9; omega
      refine lv_aload_n F.1 F.2.1 dX3_skipBlanks_25 rfl (lv_at hl 0 rfl) ?_
      refine lv_dup F.1 F.2.1 dX3_skipBlanks_26 rfl ?_
      refine tGetI (j := 2) F hK hH (tyb ha0 (all1 rfl)) rfl clX3 (by decide) wd_9_4 dX3_skipBlanks_27 (fun z_13 hz_13 => ?_)
      have ez_13 : 0 ≤ z_13.toInt ∧ z_13.toInt ≤ 399 := by omega
      refine lv_iconst (v := 1) F.1 F.2.1 dX3_skipBlanks_30 (by decide) ?_
      refine topK (a := 1) (by decide) (fun k_14 hk_14 => ?_)
      refine tAdd (lo := 1) (hi := 400) F dX3_skipBlanks_31 ez_13 (eqb hk_14) rfl (fun z_15 hz_15 => ?_)
      obtain ⟨g_16, hg_16⟩ : ∃ y : Int, z_15.toInt = y := ⟨_, rfl⟩
      have bg_16 : 1 ≤ g_16 ∧ g_16 ≤ 400 := by rw [← hg_16]; exact hz_15.2
      refine tPutG (j := 2) (t := 29) (fd := (.inl (g_16, g_16))) F hK hH hS (List.mem_singleton.mp ha0) (by decide) rfl rfl (fdI (by omega)) (TB1 := (tbC dA dB rA rB rc (rdD (.inl (g_16, g_16)) (.inl (n, n)) fd wd rr) (xB 400 T) ya yb yc yd ye yf rC rD wd1 wd2 wd3 wd4 ws1 ws2 ws3 ws4 wi1 wi2 wi3 wi4)) rfl clX3 (by decide) wd_9_4 rfl rfl rfl rfl dX3_skipBlanks_32 (fun H locs hH hS => ?_)
      refine lv_goto (tgt := 0) F.1 F.2.1 dX3_skipBlanks_35 (by decide) ?_
      exact ih_0 (g_16) _ _ _ ⟨(show (400 - g_16 + 1).toNat < n_0 from by omega), (show 0 ≤ g_16 ∧ g_16 ≤ 400 from by omega), (show rsk T n g_16 = rsk T n p from (skip_step hcr0_0 (by omega) (by omega) (by omega))), hH, hS, lv_sub hl [0] rfl⟩
set_option maxHeartbeats 4000000 in
set_option maxRecDepth 100000 in
theorem c_X3_isNext (E : Ev) (dA : TD) (dB : TD) (rA : TD) (rB : TD) (rc : TD) (ya : TD) (yb : TD) (yc : TD) (yd : TD) (ye : TD) (yf : TD) (rC : TD) (rD : TD) (wd1 : TD) (wd2 : TD) (wd3 : TD) (wd4 : TD) (ws1 : TD) (ws2 : TD) (ws3 : TD) (ws4 : TD) (wi1 : TD) (wi2 : TD) (wi3 : TD) (wi4 : TD) (wd : FD) (rr : FD) (n : Int) (p : Int) (f : Int) (T : Nat → Int32) (a0 : Nat) (t1 n1 : Nat) (ha0 : eT E a0 ∈ [29]) (ha1 : strOf t1 n1) (hn : 0 ≤ n ∧ n ≤ 400) (hp : 0 ≤ p ∧ p ≤ 400) (hf : 0 ≤ f ∧ f ≤ 4000) (hT : ivP 400 (-128) 127 T) : TcI E yX3_isNext cX3_isNext 4 .boolean ({ frames := 5, cells := 0, slots := 0, locals := 181 }) [.ref a0, .ref (eX E t1)] (fun H => TH E (tbC dA dB rA rB rc (rdD (.inl (p, p)) (.inl (n, n)) (.inl (f, f)) wd rr) (xB 400 T) ya yb yc yd ye yf rC rD wd1 wd2 wd3 wd4 ws1 ws2 ws3 ws4 wi1 wi2 wi3 wi4) H) (fun v H => ∃ p2 : Int, (0 ≤ p2 ∧ p2 ≤ 400 ∧ p2 = jIp T n p f (txW.getD t1 [])) ∧ (0 ≤ v.toInt ∧ v.toInt ≤ 1) ∧ (v.toInt = jIs T n p f (txW.getD t1 [])) ∧ TH E (tbC dA dB rA rB rc (rdD (.inl (p2, p2)) (.inl (n, n)) (.inl (f, f)) wd rr) (xB 400 T) ya yb yc yd ye yf rC rD wd1 wd2 wd3 wd4 ws1 ws2 ws3 ws4 wi1 wi2 wi3 wi4) H) := by
  refine teI (by decide) (Nat.le_of_ble_eq_true rfl) ?_
  intro p_ ev_ s mi_ below_ meth cd_ ls F hK hN hO hH hS hl
  have hH : TH E (tbC dA dB rA rB rc (rdD (.inl (p, p)) (.inl (n, n)) (.inl (f, f)) wd rr) (xB 400 T) ya yb yc yd ye yf rC rD wd1 wd2 wd3 wd4 ws1 ws2 ws3 ws4 wi1 wi2 wi3 wi4) s.heap := hH
  have hl : lv_has ls 4 [(0, .ref a0), (1, .ref (eX E t1))] := hl
  refine lv_aload_n F.1 F.2.1 dX3_isNext_0 rfl (lv_at hl 0 rfl) ?_
  refine tVv (b := a0) (As := []) (rest := []) F hK hN hO (c_X3_skipBlanks E dA dB rA rB rc ya yb yc yd ye yf rC rD wd1 wd2 wd3 wd4 ws1 ws2 ws3 ws4 wi1 wi2 wi3 wi4 ((.inl (f, f))) wd rr n p T a0 ha0 (by omega) (by omega) hT) mv_X3_skipBlanks wd_9_14 ⟨Nat.le_of_ble_eq_true rfl, Nat.le_of_ble_eq_true rfl⟩ ⟨Nat.le_of_ble_eq_true rfl, Nat.le_of_ble_eq_true rfl⟩ hH hS (tRecv hK hH (tyb ha0 (all1 rfl)) clX3) rfl hl.1 (Nat.le_of_ble_eq_true rfl) dX3_isNext_1 (fun H locs hq hS => ?_)
  obtain ⟨g_2, hg_2, hH⟩ := hq
  have hH : TH E (tbC dA dB rA rB rc (rdD (.inl (g_2, g_2)) (.inl (n, n)) (.inl (f, f)) wd rr) (xB 400 T) ya yb yc yd ye yf rC rD wd1 wd2 wd3 wd4 ws1 ws2 ws3 ws4 wi1 wi2 wi3 wi4) H := hH
  refine lv_aload_n F.1 F.2.1 dX3_isNext_4 rfl (lv_at hl 0 rfl) ?_
  refine tGetI (j := 2) F hK hH (tyb ha0 (all1 rfl)) rfl clX3 (by decide) wd_9_4 dX3_isNext_5 (fun z_3 hz_3 => ?_)
  have ez_3 : 0 ≤ z_3.toInt ∧ z_3.toInt ≤ 400 := by omega
  refine lv_aload_n F.1 F.2.1 dX3_isNext_8 rfl (lv_at hl 1 rfl) ?_
  refine tVi (b := (eX E t1)) (As := []) (rest := [.int z_3]) F hK hN hO (c_len E (fun H => TH E (tbC dA dB rA rB rc (rdD (.inl (g_2, g_2)) (.inl (n, n)) (.inl (f, f)) wd rr) (xB 400 T) ya yb yc yd ye yf rC rD wd1 wd2 wd3 wd4 ws1 ws2 ws3 ws4 wi1 wi2 wi3 wi4) H) t1 n1 ha1) mv_J0_length_8abf5 wd_10_2 ⟨Nat.le_of_ble_eq_true rfl, Nat.le_of_ble_eq_true rfl⟩ ⟨Nat.le_of_ble_eq_true rfl, Nat.le_of_ble_eq_true rfl⟩ hH hS (sRecvS hO ha1 hS) rfl hl.1 (Nat.le_of_ble_eq_true rfl) dX3_isNext_9 (fun z_4 H locs hq hS => ?_)
  obtain ⟨hz_4, hH⟩ := hq
  have hH : TH E (tbC dA dB rA rB rc (rdD (.inl (g_2, g_2)) (.inl (n, n)) (.inl (f, f)) wd rr) (xB 400 T) ya yb yc yd ye yf rC rD wd1 wd2 wd3 wd4 ws1 ws2 ws3 ws4 wi1 wi2 wi3 wi4) H := hH
  have ez_4 : 3 ≤ z_4.toInt ∧ z_4.toInt ≤ 6 := by have h9_ := strLe ha1; omega
  refine tAdd (lo := 3) (hi := 406) F dX3_isNext_12 ez_3 ez_4 rfl (fun z_5 hz_5 => ?_)
  refine lv_istore_n (lv' := [(2, .int z_5), (0, .ref a0), (1, .ref (eX E t1))]) F.1 F.2.1 dX3_isNext_13 rfl hl (by decide) rfl (fun ls hl => ?_)
  refine lv_aload_n F.1 F.2.1 dX3_isNext_14 rfl (lv_at hl 1 rfl) ?_
  refine tGetI (j := 3) F hK hH (tyb ha0 (all1 rfl)) rfl clX3 (by decide) wd_9_5 dX3_isNext_15 (fun z_6 hz_6 => ?_)
  have ez_6 : 0 ≤ z_6.toInt ∧ z_6.toInt ≤ 4000 := by omega
  refine z_ne (tgt := 29) F dX3_isNext_18 (by decide) (fun c_7 => ?_) (fun c_7 => ?_)
  · skip
    have r_8 : 1 ≤ z_6.toInt ∧ z_6.toInt ≤ 4000 := by have h9_ := ez_6; omega
    refine lv_iconst (v := 0) F.1 F.2.1 dX3_isNext_29 (by decide) ?_
    refine topK (a := 0) (by decide) (fun k_10 hk_10 => ?_)
    exact txI F hS dX3_isNext_30 (nar01 (wkb (eqb hk_10) rfl rfl)) (⟨g_2, ⟨by omega, by omega, (is_a (v := k_10.toInt) (f := f) (txN ha1) hg_2.2.2 (by omega) (by omega)).1⟩, (wkb (eqb hk_10) rfl rfl), (is_a (v := k_10.toInt) (f := f) (txN ha1) hg_2.2.2 (by omega) (by omega)).2, hH⟩)
  · skip
    have r_9 : 0 ≤ z_6.toInt ∧ z_6.toInt ≤ 0 := by have h9_ := ez_6; omega
    refine lv_iload_n F.1 F.2.1 dX3_isNext_21 rfl (lv_at hl 0 rfl) ?_
    refine lv_aload_n F.1 F.2.1 dX3_isNext_22 rfl (lv_at hl 1 rfl) ?_
    refine tGetI (j := 1) F hK hH (tyb ha0 (all1 rfl)) rfl clX3 (by decide) wd_9_3 dX3_isNext_23 (fun z_11 hz_11 => ?_)
    have ez_11 : 0 ≤ z_11.toInt ∧ z_11.toInt ≤ 400 := by omega
    refine b_le (tgt := 31) F dX3_isNext_26 (by decide) (fun c_12 => ?_) (fun c_12 => ?_)
    · skip
      have r_13 : 3 ≤ z_5.toInt ∧ z_5.toInt ≤ 400 := by have h9_ := hz_5.2; omega
      have r_14 : 3 ≤ z_11.toInt ∧ z_11.toInt ≤ 400 := by have h9_ := ez_11; omega
      refine lv_iconst (v := 0) F.1 F.2.1 dX3_isNext_31 (by decide) ?_
      refine topK (a := 0) (by decide) (fun k_15 hk_15 => ?_)
      refine lv_istore_n (lv' := [(3, .int k_15), (2, .int z_5), (0, .ref a0), (1, .ref (eX E t1))]) F.1 F.2.1 dX3_isNext_32 rfl hl (by decide) rfl (fun ls hl => ?_)
      refine wloop (σ := Int32) (fun n9 x9 H locs ls => (9 - x9.toInt + 1).toNat < n9 ∧ (0 ≤ x9.toInt ∧ x9.toInt ≤ 9) ∧ (kM T (txW.getD t1 []) g_2 (x9.toInt)) ∧ TH E (tbC dA dB rA rB rc (rdD (.inl (g_2, g_2)) (.inl (n, n)) (.inl (f, f)) wd rr) (xB 400 T) ya yb yc yd ye yf rC rD wd1 wd2 wd3 wd4 ws1 ws2 ws3 ws4 wi1 wi2 wi3 wi4) H ∧ va_S (eA E s.heap.size) s.heap H locs ∧ lv_has ls 4 [(0, .ref a0), (1, .ref (eX E t1)), (2, .int z_5), (3, .int x9)]) ?_ (fun x9 H locs ls h => absurd h.1 (Nat.not_lt_zero _)) _ (k_15) ⟨Nat.lt_succ_self _, (wkb (eqb hk_15) rfl rfl), (show kM T (txW.getD t1 []) g_2 (k_15.toInt) from (kM0 (by omega))), hH, hS, lv_sub hl [2, 3, 1, 0] rfl⟩
      intro n_33 ih_33 u_16 H locs ls ⟨hm_33, hu_16, hcr33_0, hH, hS, hl⟩
      have hm_33 : (9 - u_16.toInt + 1).toNat < n_33 + 1 := hm_33
      have hu_16 : (0 ≤ u_16.toInt ∧ u_16.toInt ≤ 9) := hu_16
      have hcr33_0 : (kM T (txW.getD t1 []) g_2 (u_16.toInt)) := hcr33_0
      have hH : TH E (tbC dA dB rA rB rc (rdD (.inl (g_2, g_2)) (.inl (n, n)) (.inl (f, f)) wd rr) (xB 400 T) ya yb yc yd ye yf rC rD wd1 wd2 wd3 wd4 ws1 ws2 ws3 ws4 wi1 wi2 wi3 wi4) H := hH
      have hl : lv_has ls 4 [(0, .ref a0), (1, .ref (eX E t1)), (2, .int z_5), (3, .int u_16)] := hl
      refine lv_iload_n F.1 F.2.1 dX3_isNext_33 rfl (lv_at hl 3 rfl) ?_
      refine lv_aload_n F.1 F.2.1 dX3_isNext_34 rfl (lv_at hl 1 rfl) ?_
      refine tVi (b := (eX E t1)) (As := []) (rest := [.int u_16]) F hK hN hO (c_len E (fun H => TH E (tbC dA dB rA rB rc (rdD (.inl (g_2, g_2)) (.inl (n, n)) (.inl (f, f)) wd rr) (xB 400 T) ya yb yc yd ye yf rC rD wd1 wd2 wd3 wd4 ws1 ws2 ws3 ws4 wi1 wi2 wi3 wi4) H) t1 n1 ha1) mv_J0_length_8abf5 wd_10_2 ⟨Nat.le_of_ble_eq_true rfl, Nat.le_of_ble_eq_true rfl⟩ ⟨Nat.le_of_ble_eq_true rfl, Nat.le_of_ble_eq_true rfl⟩ hH hS (sRecvS hO ha1 hS) rfl hl.1 (Nat.le_of_ble_eq_true rfl) dX3_isNext_35 (fun z_17 H locs hq hS => ?_)
      obtain ⟨hz_17, hH⟩ := hq
      have hH : TH E (tbC dA dB rA rB rc (rdD (.inl (g_2, g_2)) (.inl (n, n)) (.inl (f, f)) wd rr) (xB 400 T) ya yb yc yd ye yf rC rD wd1 wd2 wd3 wd4 ws1 ws2 ws3 ws4 wi1 wi2 wi3 wi4) H := hH
      have ez_17 : 3 ≤ z_17.toInt ∧ z_17.toInt ≤ 6 := by have h9_ := strLe ha1; omega
      refine b_ge (tgt := 68) F dX3_isNext_38 (by decide) (fun c_18 => ?_) (fun c_18 => ?_)
      · skip
        have r_19 : 3 ≤ u_16.toInt ∧ u_16.toInt ≤ 9 := by have h9_ := hu_16; omega
        refine lv_iload_n F.1 F.2.1 dX3_isNext_68 rfl (lv_at hl 2 rfl) ?_
        refine lv_aload_n F.1 F.2.1 dX3_isNext_69 rfl (lv_at hl 0 rfl) ?_
        refine tGetI (j := 1) F hK hH (tyb ha0 (all1 rfl)) rfl clX3 (by decide) wd_9_3 dX3_isNext_70 (fun z_21 hz_21 => ?_)
        have ez_21 : 3 ≤ z_21.toInt ∧ z_21.toInt ≤ 400 := by omega
        refine b_ge (tgt := 100) F dX3_isNext_73 (by decide) (fun c_22 => ?_) (fun c_22 => ?_)
        · skip
          refine lv_aload_n F.1 F.2.1 dX3_isNext_100 rfl (lv_at hl 0 rfl) ?_
          refine lv_iload_n F.1 F.2.1 dX3_isNext_101 rfl (lv_at hl 2 rfl) ?_
          obtain ⟨g_25, hg_25⟩ : ∃ y : Int, z_5.toInt = y := ⟨_, rfl⟩
          have bg_25 : 3 ≤ g_25 ∧ g_25 ≤ 400 := by rw [← hg_25]; exact r_13
          refine tPutG (j := 2) (t := 29) (fd := (.inl (g_25, g_25))) F hK hH hS (List.mem_singleton.mp ha0) (by decide) rfl rfl (fdI (by omega)) (TB1 := (tbC dA dB rA rB rc (rdD (.inl (g_25, g_25)) (.inl (n, n)) (.inl (f, f)) wd rr) (xB 400 T) ya yb yc yd ye yf rC rD wd1 wd2 wd3 wd4 ws1 ws2 ws3 ws4 wi1 wi2 wi3 wi4)) rfl clX3 (by decide) wd_9_4 rfl rfl rfl rfl dX3_isNext_102 (fun H locs hH hS => ?_)
          refine lv_iconst (v := 1) F.1 F.2.1 dX3_isNext_105 (by decide) ?_
          refine topK (a := 1) (by decide) (fun k_26 hk_26 => ?_)
          exact txI F hS dX3_isNext_106 (nar01 (wkb (eqb hk_26) rfl rfl)) (⟨g_25, ⟨by omega, by omega, (is_d (v := k_26.toInt) (f := f) (g2 := g_25) (txN ha1) hg_2.2.2 (by omega) (by omega) hcr33_0 (by omega) (by omega) (by omega) (by omega)).1⟩, (wkb (eqb hk_26) rfl rfl), (is_d (v := k_26.toInt) (f := f) (g2 := g_25) (txN ha1) hg_2.2.2 (by omega) (by omega) hcr33_0 (by omega) (by omega) (by omega) (by omega)).2, hH⟩)
        · skip
          have r_23 : 3 ≤ z_5.toInt ∧ z_5.toInt ≤ 399 := by have h9_ := r_13; omega
          have r_24 : 4 ≤ z_21.toInt ∧ z_21.toInt ≤ 400 := by have h9_ := ez_21; omega
          refine lv_aload_n F.1 F.2.1 dX3_isNext_76 rfl (lv_at hl 0 rfl) ?_
          refine tGetR (j := 0) F hK hH (tyb ha0 (all1 rfl)) rfl (all1 rfl) clX3 (by decide) wd_5_17 dX3_isNext_77 (fun q_27 hq_27 _ => ?_)
          refine lv_iload_n F.1 F.2.1 dX3_isNext_80 rfl (lv_at hl 2 rfl) ?_
          refine tBaldX F hK hH (tyb hq_27 (all1 rfl)) (ixb (n := 400) r_23 rfl rfl) dX3_isNext_81 (fun z_28 ez_28 => ?_)
          have bz_28 : z_28.toInt = bT T (g_2 + (n1 : Int)) := bTof ez_28 (by omega)
          have gz_28 : z_28.toInt = gI T (z_5.toInt.toNat) := by unfold gI; rw [ez_28]; rfl
          have hz_28 : (-128) ≤ z_28.toInt ∧ z_28.toInt ≤ 127 := (by have h9_ := hT (z_5).toNatClampNeg (cl_lt (n := 400) (by omega)); rw [← ez_28] at h9_; exact h9_)
          refine lv_bipush (v := 97) F.1 F.2.1 dX3_isNext_82 (by decide) ?_
          refine topK (a := 97) (by decide) (fun k_29 hk_29 => ?_)
          refine b_lt (tgt := 100) F dX3_isNext_84 (by decide) (fun c_30 => ?_) (fun c_30 => ?_)
          · skip
            have r_31 : (-128) ≤ z_28.toInt ∧ z_28.toInt ≤ 96 := by have h9_ := hz_28; omega
            refine lv_aload_n F.1 F.2.1 dX3_isNext_100 rfl (lv_at hl 0 rfl) ?_
            refine lv_iload_n F.1 F.2.1 dX3_isNext_101 rfl (lv_at hl 2 rfl) ?_
            obtain ⟨g_33, hg_33⟩ : ∃ y : Int, z_5.toInt = y := ⟨_, rfl⟩
            have bg_33 : 3 ≤ g_33 ∧ g_33 ≤ 399 := by rw [← hg_33]; exact r_23
            refine tPutG (j := 2) (t := 29) (fd := (.inl (g_33, g_33))) F hK hH hS (List.mem_singleton.mp ha0) (by decide) rfl rfl (fdI (by omega)) (TB1 := (tbC dA dB rA rB rc (rdD (.inl (g_33, g_33)) (.inl (n, n)) (.inl (f, f)) wd rr) (xB 400 T) ya yb yc yd ye yf rC rD wd1 wd2 wd3 wd4 ws1 ws2 ws3 ws4 wi1 wi2 wi3 wi4)) rfl clX3 (by decide) wd_9_4 rfl rfl rfl rfl dX3_isNext_102 (fun H locs hH hS => ?_)
            refine lv_iconst (v := 1) F.1 F.2.1 dX3_isNext_105 (by decide) ?_
            refine topK (a := 1) (by decide) (fun k_34 hk_34 => ?_)
            exact txI F hS dX3_isNext_106 (nar01 (wkb (eqb hk_34) rfl rfl)) (⟨g_33, ⟨by omega, by omega, (is_d (v := k_34.toInt) (f := f) (g2 := g_33) (txN ha1) hg_2.2.2 (by omega) (by omega) hcr33_0 (by omega) (by omega) (by omega) (by omega)).1⟩, (wkb (eqb hk_34) rfl rfl), (is_d (v := k_34.toInt) (f := f) (g2 := g_33) (txN ha1) hg_2.2.2 (by omega) (by omega) hcr33_0 (by omega) (by omega) (by omega) (by omega)).2, hH⟩)
          · skip
            have r_32 : 97 ≤ z_28.toInt ∧ z_28.toInt ≤ 127 := by have h9_ := hz_28; omega
            refine lv_aload_n F.1 F.2.1 dX3_isNext_87 rfl (lv_at hl 0 rfl) ?_
            refine tGetR (j := 0) F hK hH (tyb ha0 (all1 rfl)) rfl (all1 rfl) clX3 (by decide) wd_5_17 dX3_isNext_88 (fun q_35 hq_35 _ => ?_)
            refine lv_iload_n F.1 F.2.1 dX3_isNext_91 rfl (lv_at hl 2 rfl) ?_
            refine tBaldX F hK hH (tyb hq_35 (all1 rfl)) (ixb (n := 400) r_23 rfl rfl) dX3_isNext_92 (fun z_36 ez_36 => ?_)
            have bz_36 : z_36.toInt = bT T (g_2 + (n1 : Int)) := bTof ez_36 (by omega)
            have gz_36 : z_36.toInt = gI T (z_5.toInt.toNat) := by unfold gI; rw [ez_36]; rfl
            have hz_36 : (-128) ≤ z_36.toInt ∧ z_36.toInt ≤ 127 := (by have h9_ := hT (z_5).toNatClampNeg (cl_lt (n := 400) (by omega)); rw [← ez_36] at h9_; exact h9_)
            refine lv_bipush (v := 122) F.1 F.2.1 dX3_isNext_93 (by decide) ?_
            refine topK (a := 122) (by decide) (fun k_37 hk_37 => ?_)
            refine b_gt (tgt := 100) F dX3_isNext_95 (by decide) (fun c_38 => ?_) (fun c_38 => ?_)
            · skip
              have r_39 : 123 ≤ z_36.toInt ∧ z_36.toInt ≤ 127 := by have h9_ := hz_36; omega
              refine lv_aload_n F.1 F.2.1 dX3_isNext_100 rfl (lv_at hl 0 rfl) ?_
              refine lv_iload_n F.1 F.2.1 dX3_isNext_101 rfl (lv_at hl 2 rfl) ?_
              obtain ⟨g_41, hg_41⟩ : ∃ y : Int, z_5.toInt = y := ⟨_, rfl⟩
              have bg_41 : 3 ≤ g_41 ∧ g_41 ≤ 399 := by rw [← hg_41]; exact r_23
              refine tPutG (j := 2) (t := 29) (fd := (.inl (g_41, g_41))) F hK hH hS (List.mem_singleton.mp ha0) (by decide) rfl rfl (fdI (by omega)) (TB1 := (tbC dA dB rA rB rc (rdD (.inl (g_41, g_41)) (.inl (n, n)) (.inl (f, f)) wd rr) (xB 400 T) ya yb yc yd ye yf rC rD wd1 wd2 wd3 wd4 ws1 ws2 ws3 ws4 wi1 wi2 wi3 wi4)) rfl clX3 (by decide) wd_9_4 rfl rfl rfl rfl dX3_isNext_102 (fun H locs hH hS => ?_)
              refine lv_iconst (v := 1) F.1 F.2.1 dX3_isNext_105 (by decide) ?_
              refine topK (a := 1) (by decide) (fun k_42 hk_42 => ?_)
              exact txI F hS dX3_isNext_106 (nar01 (wkb (eqb hk_42) rfl rfl)) (⟨g_41, ⟨by omega, by omega, (is_d (v := k_42.toInt) (f := f) (g2 := g_41) (txN ha1) hg_2.2.2 (by omega) (by omega) hcr33_0 (by omega) (by omega) (by omega) (by omega)).1⟩, (wkb (eqb hk_42) rfl rfl), (is_d (v := k_42.toInt) (f := f) (g2 := g_41) (txN ha1) hg_2.2.2 (by omega) (by omega) hcr33_0 (by omega) (by omega) (by omega) (by omega)).2, hH⟩)
            · skip
              have r_40 : (-128) ≤ z_36.toInt ∧ z_36.toInt ≤ 122 := by have h9_ := hz_36; omega
              refine lv_iconst (v := 0) F.1 F.2.1 dX3_isNext_98 (by decide) ?_
              refine topK (a := 0) (by decide) (fun k_43 hk_43 => ?_)
              exact txI F hS dX3_isNext_99 (nar01 (wkb (eqb hk_43) rfl rfl)) (⟨g_2, ⟨by omega, by omega, (is_c (v := k_43.toInt) (f := f) (txN ha1) hg_2.2.2 (by omega) (by omega)).1⟩, (wkb (eqb hk_43) rfl rfl), (is_c (v := k_43.toInt) (f := f) (txN ha1) hg_2.2.2 (by omega) (by omega)).2, hH⟩)
      · skip
        have r_20 : 0 ≤ u_16.toInt ∧ u_16.toInt ≤ 5 := by have h9_ := hu_16; omega
        refine lv_aload_n F.1 F.2.1 dX3_isNext_41 rfl (lv_at hl 0 rfl) ?_
        refine tGetR (j := 0) F hK hH (tyb ha0 (all1 rfl)) rfl (all1 rfl) clX3 (by decide) wd_5_17 dX3_isNext_42 (fun q_44 hq_44 _ => ?_)
        refine lv_aload_n F.1 F.2.1 dX3_isNext_45 rfl (lv_at hl 0 rfl) ?_
        refine tGetI (j := 2) F hK hH (tyb ha0 (all1 rfl)) rfl clX3 (by decide) wd_9_4 dX3_isNext_46 (fun z_45 hz_45 => ?_)
        have ez_45 : 0 ≤ z_45.toInt ∧ z_45.toInt ≤ 400 := by omega
        refine lv_iload_n F.1 F.2.1 dX3_isNext_49 rfl (lv_at hl 3 rfl) ?_
        refine tAdd (lo := 0) (hi := 405) F dX3_isNext_50 ez_45 r_20 rfl (fun z_46 hz_46 => ?_)
        refine tBaldX F hK hH (tyb hq_44 (all1 rfl)) (by omega) dX3_isNext_51 (fun z_47 ez_47 => ?_)
        have bz_47 : z_47.toInt = bT T (g_2 + u_16.toInt) := bTof ez_47 (by omega)
        have gz_47 : z_47.toInt = gI T (z_46.toInt.toNat) := by unfold gI; rw [ez_47]; rfl
        have hz_47 : (-128) ≤ z_47.toInt ∧ z_47.toInt ≤ 127 := (by have h9_ := hT (z_46).toNatClampNeg (cl_lt (n := 400) (by omega)); rw [← ez_47] at h9_; exact h9_)
        refine lv_aload_n F.1 F.2.1 dX3_isNext_52 rfl (lv_at hl 1 rfl) ?_
        refine lv_iload_n F.1 F.2.1 dX3_isNext_53 rfl (lv_at hl 3 rfl) ?_
        refine tVi (b := (eX E t1)) (As := [.int u_16]) (rest := [.int z_47]) F hK hN hO (c_chr E (fun H => TH E (tbC dA dB rA rB rc (rdD (.inl (g_2, g_2)) (.inl (n, n)) (.inl (f, f)) wd rr) (xB 400 T) ya yb yc yd ye yf rC rD wd1 wd2 wd3 wd4 ws1 ws2 ws3 ws4 wi1 wi2 wi3 wi4) H) t1 n1 ha1 u_16 (by omega) (by omega)) mv_J0_charAt_5068e wd_10_14 ⟨Nat.le_of_ble_eq_true rfl, Nat.le_of_ble_eq_true rfl⟩ ⟨Nat.le_of_ble_eq_true rfl, Nat.le_of_ble_eq_true rfl⟩ hH hS (sRecvS hO ha1 hS) rfl hl.1 (Nat.le_of_ble_eq_true rfl) dX3_isNext_54 (fun z_48 H locs hq hS => ?_)
        obtain ⟨hz_48, hH⟩ := hq
        have hH : TH E (tbC dA dB rA rB rc (rdD (.inl (g_2, g_2)) (.inl (n, n)) (.inl (f, f)) wd rr) (xB 400 T) ya yb yc yd ye yf rC rD wd1 wd2 wd3 wd4 ws1 ws2 ws3 ws4 wi1 wi2 wi3 wi4) H := hH
        have kz_48 := hz_48.2
        have hz_48 := hz_48.1
        refine b_eq (tgt := 62) F dX3_isNext_57 (by decide) (fun c_49 => ?_) (fun c_49 => ?_)
        · skip
          have r_50 : 0 ≤ z_47.toInt ∧ z_47.toInt ≤ 127 := by have h9_ := hz_47; omega
          obtain ⟨x_51, ex_51, hx_51⟩ := iincB (c := 1) (lo := 1) (hi := 6) r_20 rfl
          refine lv_iinc (v := x_51) (lv' := [(3, .int x_51), (0, .ref a0), (1, .ref (eX E t1)), (2, .int z_5)]) F.1 F.2.1 dX3_isNext_62 hl (k := 3) rfl ex_51 (by decide) rfl (fun ls hl => ?_)
          refine lv_goto (tgt := 33) F.1 F.2.1 dX3_isNext_65 (by decide) ?_
          exact ih_33 (x_51) _ _ _ ⟨(show (9 - x_51.toInt + 1).toNat < n_33 from by omega), (wkb hx_51.2 rfl rfl), (show kM T (txW.getD t1 []) g_2 (x_51.toInt) from (kM_step hcr33_0 (by omega) (by omega) (by omega))), hH, hS, lv_sub hl [1, 2, 3, 0] rfl⟩
        · skip
          refine lv_iconst (v := 0) F.1 F.2.1 dX3_isNext_60 (by decide) ?_
          refine topK (a := 0) (by decide) (fun k_52 hk_52 => ?_)
          exact txI F hS dX3_isNext_61 (nar01 (wkb (eqb hk_52) rfl rfl)) (⟨g_2, ⟨by omega, by omega, (is_b (v := k_52.toInt) (f := f) (i := u_16.toInt) (txN ha1) hg_2.2.2 (by omega) (by omega) (by omega) (by omega)).1⟩, (wkb (eqb hk_52) rfl rfl), (is_b (v := k_52.toInt) (f := f) (i := u_16.toInt) (txN ha1) hg_2.2.2 (by omega) (by omega) (by omega) (by omega)).2, hH⟩)
    · skip
      refine lv_iconst (v := 0) F.1 F.2.1 dX3_isNext_29 (by decide) ?_
      refine topK (a := 0) (by decide) (fun k_53 hk_53 => ?_)
      exact txI F hS dX3_isNext_30 (nar01 (wkb (eqb hk_53) rfl rfl)) (⟨g_2, ⟨by omega, by omega, (is_a (v := k_53.toInt) (f := f) (txN ha1) hg_2.2.2 (by omega) (by omega)).1⟩, (wkb (eqb hk_53) rfl rfl), (is_a (v := k_53.toInt) (f := f) (txN ha1) hg_2.2.2 (by omega) (by omega)).2, hH⟩)
set_option maxHeartbeats 4000000 in
set_option maxRecDepth 100000 in
theorem c_X3_readNumber (E : Ev) (dA : TD) (dB : TD) (rA : TD) (rB : TD) (rc : TD) (ya : TD) (yb : TD) (yc : TD) (yd : TD) (ye : TD) (yf : TD) (rC : TD) (rD : TD) (wd1 : TD) (wd2 : TD) (wd3 : TD) (wd4 : TD) (ws1 : TD) (ws2 : TD) (ws3 : TD) (ws4 : TD) (wi1 : TD) (wi2 : TD) (wi3 : TD) (wi4 : TD) (wd : FD) (rr : FD) (n : Int) (p : Int) (f : Int) (T : Nat → Int32) (lo : Int) (hi : Int) (a0 : Nat) (a1 : Int32) (a2 : Int32) (ha0 : eT E a0 ∈ [29]) (hn : 0 ≤ n ∧ n ≤ 400) (hp : 0 ≤ p ∧ p ≤ 400) (hf : 0 ≤ f ∧ f ≤ 4000) (hT : ivP 400 (-128) 127 T) (hlo : a1.toInt = lo) (hhi : a2.toInt = hi) : TcI E yX3_readNumber cX3_readNumber 5 .int ({ frames := 2, cells := 0, slots := 0, locals := 62 }) [.ref a0, .int a1, .int a2] (fun H => TH E (tbC dA dB rA rB rc (rdD (.inl (p, p)) (.inl (n, n)) (.inl (f, f)) wd rr) (xB 400 T) ya yb yc yd ye yf rC rD wd1 wd2 wd3 wd4 ws1 ws2 ws3 ws4 wi1 wi2 wi3 wi4) H) (fun v H => ∃ p2 : Int, (0 ≤ p2 ∧ p2 ≤ 400 ∧ p2 = jNp T n p) ∧ ∃ f2 : Int, (0 ≤ f2 ∧ f2 ≤ 4000 ∧ f2 = jNf T n p f lo hi) ∧ ((-2147483648) ≤ v.toInt ∧ v.toInt ≤ 2147483647) ∧ (a1.toInt ≤ v.toInt) ∧ (v.toInt ≤ a2.toInt ∨ v.toInt = a1.toInt) ∧ (v.toInt = jNv T n p lo hi) ∧ TH E (tbC dA dB rA rB rc (rdD (.inl (p2, p2)) (.inl (n, n)) (.inl (f2, f2)) wd rr) (xB 400 T) ya yb yc yd ye yf rC rD wd1 wd2 wd3 wd4 ws1 ws2 ws3 ws4 wi1 wi2 wi3 wi4) H) := by
  refine teI (by decide) (Nat.le_of_ble_eq_true rfl) ?_
  intro p_ ev_ s mi_ below_ meth cd_ ls F hK hN hO hH hS hl
  have hH : TH E (tbC dA dB rA rB rc (rdD (.inl (p, p)) (.inl (n, n)) (.inl (f, f)) wd rr) (xB 400 T) ya yb yc yd ye yf rC rD wd1 wd2 wd3 wd4 ws1 ws2 ws3 ws4 wi1 wi2 wi3 wi4) s.heap := hH
  have hl : lv_has ls 5 [(0, .ref a0), (1, .int a1), (2, .int a2)] := hl
  refine lv_aload_n F.1 F.2.1 dX3_readNumber_0 rfl (lv_at hl 0 rfl) ?_
  refine tVv (b := a0) (As := []) (rest := []) F hK hN hO (c_X3_skipBlanks E dA dB rA rB rc ya yb yc yd ye yf rC rD wd1 wd2 wd3 wd4 ws1 ws2 ws3 ws4 wi1 wi2 wi3 wi4 ((.inl (f, f))) wd rr n p T a0 ha0 (by omega) (by omega) hT) mv_X3_skipBlanks wd_9_14 ⟨Nat.le_of_ble_eq_true rfl, Nat.le_of_ble_eq_true rfl⟩ ⟨Nat.le_of_ble_eq_true rfl, Nat.le_of_ble_eq_true rfl⟩ hH hS (tRecv hK hH (tyb ha0 (all1 rfl)) clX3) rfl hl.1 (Nat.le_of_ble_eq_true rfl) dX3_readNumber_1 (fun H locs hq hS => ?_)
  obtain ⟨g_2, hg_2, hH⟩ := hq
  have hH : TH E (tbC dA dB rA rB rc (rdD (.inl (g_2, g_2)) (.inl (n, n)) (.inl (f, f)) wd rr) (xB 400 T) ya yb yc yd ye yf rC rD wd1 wd2 wd3 wd4 ws1 ws2 ws3 ws4 wi1 wi2 wi3 wi4) H := hH
  refine lv_aload_n F.1 F.2.1 dX3_readNumber_4 rfl (lv_at hl 0 rfl) ?_
  refine tGetI (j := 2) F hK hH (tyb ha0 (all1 rfl)) rfl clX3 (by decide) wd_9_4 dX3_readNumber_5 (fun z_3 hz_3 => ?_)
  have ez_3 : 0 ≤ z_3.toInt ∧ z_3.toInt ≤ 400 := by omega
  refine lv_istore_n (lv' := [(3, .int z_3), (0, .ref a0), (1, .int a1), (2, .int a2)]) F.1 F.2.1 dX3_readNumber_8 rfl hl (by decide) rfl (fun ls hl => ?_)
  refine lv_iconst (v := 0) F.1 F.2.1 dX3_readNumber_9 (by decide) ?_
  refine topK (a := 0) (by decide) (fun k_4 hk_4 => ?_)
  refine lv_istore (lv' := [(4, .int k_4), (3, .int z_3), (0, .ref a0), (1, .int a1), (2, .int a2)]) F.1 F.2.1 dX3_readNumber_10 hl (by decide) rfl (fun ls hl => ?_)
  refine wloop (σ := Int32 × Int) (fun n9 x9 H locs ls => (400 - x9.2 + 1).toNat < n9 ∧ (0 ≤ x9.1.toInt ∧ x9.1.toInt ≤ 1000000) ∧ (0 ≤ x9.2 ∧ x9.2 ≤ 400) ∧ (rde T n x9.2 = rde T n g_2) ∧ (rcv T n x9.2 (x9.1.toInt) = rcv T n g_2 0) ∧ TH E (tbC dA dB rA rB rc (rdD (.inl (x9.2, x9.2)) (.inl (n, n)) (.inl (f, f)) wd rr) (xB 400 T) ya yb yc yd ye yf rC rD wd1 wd2 wd3 wd4 ws1 ws2 ws3 ws4 wi1 wi2 wi3 wi4) H ∧ va_S (eA E s.heap.size) s.heap H locs ∧ lv_has ls 5 [(0, .ref a0), (1, .int a1), (2, .int a2), (3, .int z_3), (4, .int x9.1)]) ?_ (fun x9 H locs ls h => absurd h.1 (Nat.not_lt_zero _)) _ (k_4, g_2) ⟨Nat.lt_succ_self _, (wkb (eqb hk_4) rfl rfl), (show 0 ≤ g_2 ∧ g_2 ≤ 400 from by omega), (show rde T n g_2 = rde T n g_2 from rfl), (show rcv T n g_2 (k_4.toInt) = rcv T n g_2 0 from (by rw [show k_4.toInt = 0 from by omega])), hH, hS, lv_sub hl [2, 3, 4, 1, 0] rfl⟩
  intro n_12 ih_12 ⟨u_5, g_6⟩ H locs ls ⟨hm_12, hu_5, hg_6, hcr12_0, hcr12_1, hH, hS, hl⟩
  have hm_12 : (400 - g_6 + 1).toNat < n_12 + 1 := hm_12
  have hu_5 : (0 ≤ u_5.toInt ∧ u_5.toInt ≤ 1000000) := hu_5
  have hg_6 : (0 ≤ g_6 ∧ g_6 ≤ 400) := hg_6
  have hcr12_0 : (rde T n g_6 = rde T n g_2) := hcr12_0
  have hcr12_1 : (rcv T n g_6 (u_5.toInt) = rcv T n g_2 0) := hcr12_1
  have hH : TH E (tbC dA dB rA rB rc (rdD (.inl (g_6, g_6)) (.inl (n, n)) (.inl (f, f)) wd rr) (xB 400 T) ya yb yc yd ye yf rC rD wd1 wd2 wd3 wd4 ws1 ws2 ws3 ws4 wi1 wi2 wi3 wi4) H := hH
  have hl : lv_has ls 5 [(0, .ref a0), (1, .int a1), (2, .int a2), (3, .int z_3), (4, .int u_5)] := hl
  refine lv_aload_n F.1 F.2.1 dX3_readNumber_12 rfl (lv_at hl 0 rfl) ?_
  refine tGetI (j := 2) F hK hH (tyb ha0 (all1 rfl)) rfl clX3 (by decide) wd_9_4 dX3_readNumber_13 (fun z_7 hz_7 => ?_)
  have ez_7 : 0 ≤ z_7.toInt ∧ z_7.toInt ≤ 400 := by omega
  refine lv_aload_n F.1 F.2.1 dX3_readNumber_16 rfl (lv_at hl 0 rfl) ?_
  refine tGetI (j := 1) F hK hH (tyb ha0 (all1 rfl)) rfl clX3 (by decide) wd_9_3 dX3_readNumber_17 (fun z_8 hz_8 => ?_)
  have ez_8 : 0 ≤ z_8.toInt ∧ z_8.toInt ≤ 400 := by omega
  refine b_ge (tgt := 89) F dX3_readNumber_20 (by decide) (fun c_9 => ?_) (fun c_9 => ?_)
  · skip
    refine lv_aload_n F.1 F.2.1 dX3_readNumber_89 rfl (lv_at hl 0 rfl) ?_
    refine tGetI (j := 2) F hK hH (tyb ha0 (all1 rfl)) rfl clX3 (by decide) wd_9_4 dX3_readNumber_90 (fun z_12 hz_12 => ?_)
    have ez_12 : 0 ≤ z_12.toInt ∧ z_12.toInt ≤ 400 := by omega
    refine lv_iload_n F.1 F.2.1 dX3_readNumber_93 rfl (lv_at hl 3 rfl) ?_
    refine b_ne (tgt := 105) F dX3_readNumber_94 (by decide) (fun c_13 => ?_) (fun c_13 => ?_)
    · skip
      refine lv_iload F.1 F.2.1 dX3_readNumber_105 (lv_at hl 4 rfl) ?_
      refine lv_iload_n F.1 F.2.1 dX3_readNumber_107 rfl (lv_at hl 1 rfl) ?_
      refine b_lt (tgt := 117) F dX3_readNumber_108 (by decide) (fun c_14 => ?_) (fun c_14 => ?_)
      · skip
        have r_15 : 1 ≤ a1.toInt ∧ a1.toInt ≤ 2147483647 := by have h9_ := (i32b a1); omega
        refine lv_aload_n F.1 F.2.1 dX3_readNumber_117 rfl (lv_at hl 0 rfl) ?_
        refine lv_iload_n F.1 F.2.1 dX3_readNumber_118 rfl (lv_at hl 3 rfl) ?_
        refine lv_iconst (v := 2) F.1 F.2.1 dX3_readNumber_119 (by decide) ?_
        refine topK (a := 2) (by decide) (fun k_17 hk_17 => ?_)
        refine tVv (b := a0) (As := [.int z_3, .int k_17]) (rest := []) F hK hN hO (c_X3_blame E dA dB rA rB rc (xB 400 T) ya yb yc yd ye yf rC rD wd1 wd2 wd3 wd4 ws1 ws2 ws3 ws4 wi1 wi2 wi3 wi4 ((.inl (n, n))) ((.inl (g_6, g_6))) wd rr f g_2 2 a0 z_3 k_17 ha0 ez_3 (wkb (eqb hk_17) rfl rfl) (by omega) (by omega) (by omega)) mv_X3_blame wd_12_11 ⟨Nat.le_of_ble_eq_true rfl, Nat.le_of_ble_eq_true rfl⟩ ⟨Nat.le_of_ble_eq_true rfl, Nat.le_of_ble_eq_true rfl⟩ hH hS (tRecv hK hH (tyb ha0 (all1 rfl)) clX3) rfl hl.1 (Nat.le_of_ble_eq_true rfl) dX3_readNumber_120 (fun H locs hq hS => ?_)
        obtain ⟨g_19, hg_19, hH⟩ := hq
        have hH : TH E (tbC dA dB rA rB rc (rdD (.inl (g_6, g_6)) (.inl (n, n)) (.inl (g_19, g_19)) wd rr) (xB 400 T) ya yb yc yd ye yf rC rD wd1 wd2 wd3 wd4 ws1 ws2 ws3 ws4 wi1 wi2 wi3 wi4) H := hH
        refine lv_iload_n F.1 F.2.1 dX3_readNumber_123 rfl (lv_at hl 1 rfl) ?_
        exact txI F hS dX3_readNumber_124 rfl (⟨g_6, ⟨by omega, by omega, (num_p hg_2.2.2 hcr12_0 (by omega))⟩, g_19, ⟨by omega, by omega, (num_2 (v := a1.toInt)  hg_2.2.2 (num_p hg_2.2.2 hcr12_0 (by omega)) (by omega) hcr12_1 (by omega) (by omega) hg_19.2.2 (by omega)).1⟩, (wkb r_15 rfl rfl), (by omega), (by omega), (num_2 (v := a1.toInt)  hg_2.2.2 (num_p hg_2.2.2 hcr12_0 (by omega)) (by omega) hcr12_1 (by omega) (by omega) hg_19.2.2 (by omega)).2, hH⟩)
      · skip
        have r_16 : (-2147483648) ≤ a1.toInt ∧ a1.toInt ≤ 1000000 := by have h9_ := (i32b a1); omega
        refine lv_iload F.1 F.2.1 dX3_readNumber_111 (lv_at hl 4 rfl) ?_
        refine lv_iload_n F.1 F.2.1 dX3_readNumber_113 rfl (lv_at hl 2 rfl) ?_
        refine b_le (tgt := 125) F dX3_readNumber_114 (by decide) (fun c_20 => ?_) (fun c_20 => ?_)
        · skip
          have r_21 : 0 ≤ a2.toInt ∧ a2.toInt ≤ 2147483647 := by have h9_ := (i32b a2); omega
          refine lv_iload F.1 F.2.1 dX3_readNumber_125 (lv_at hl 4 rfl) ?_
          exact txI F hS dX3_readNumber_127 rfl (⟨g_6, ⟨by omega, by omega, (num_p hg_2.2.2 hcr12_0 (by omega))⟩, f, ⟨by omega, by omega, (num_3 (v := u_5.toInt)  (f := f) hg_2.2.2 (num_p hg_2.2.2 hcr12_0 (by omega)) (by omega) hcr12_1 (by omega) (by omega) (by omega)).1⟩, (wkb hu_5 rfl rfl), (by omega), (by omega), (num_3 (v := u_5.toInt)  (f := f) hg_2.2.2 (num_p hg_2.2.2 hcr12_0 (by omega)) (by omega) hcr12_1 (by omega) (by omega) (by omega)).2, hH⟩)
        · skip
          have r_22 : (-2147483648) ≤ a2.toInt ∧ a2.toInt ≤ 999999 := by have h9_ := (i32b a2); omega
          refine lv_aload_n F.1 F.2.1 dX3_readNumber_117 rfl (lv_at hl 0 rfl) ?_
          refine lv_iload_n F.1 F.2.1 dX3_readNumber_118 rfl (lv_at hl 3 rfl) ?_
          refine lv_iconst (v := 2) F.1 F.2.1 dX3_readNumber_119 (by decide) ?_
          refine topK (a := 2) (by decide) (fun k_23 hk_23 => ?_)
          refine tVv (b := a0) (As := [.int z_3, .int k_23]) (rest := []) F hK hN hO (c_X3_blame E dA dB rA rB rc (xB 400 T) ya yb yc yd ye yf rC rD wd1 wd2 wd3 wd4 ws1 ws2 ws3 ws4 wi1 wi2 wi3 wi4 ((.inl (n, n))) ((.inl (g_6, g_6))) wd rr f g_2 2 a0 z_3 k_23 ha0 ez_3 (wkb (eqb hk_23) rfl rfl) (by omega) (by omega) (by omega)) mv_X3_blame wd_12_11 ⟨Nat.le_of_ble_eq_true rfl, Nat.le_of_ble_eq_true rfl⟩ ⟨Nat.le_of_ble_eq_true rfl, Nat.le_of_ble_eq_true rfl⟩ hH hS (tRecv hK hH (tyb ha0 (all1 rfl)) clX3) rfl hl.1 (Nat.le_of_ble_eq_true rfl) dX3_readNumber_120 (fun H locs hq hS => ?_)
          obtain ⟨g_25, hg_25, hH⟩ := hq
          have hH : TH E (tbC dA dB rA rB rc (rdD (.inl (g_6, g_6)) (.inl (n, n)) (.inl (g_25, g_25)) wd rr) (xB 400 T) ya yb yc yd ye yf rC rD wd1 wd2 wd3 wd4 ws1 ws2 ws3 ws4 wi1 wi2 wi3 wi4) H := hH
          refine lv_iload_n F.1 F.2.1 dX3_readNumber_123 rfl (lv_at hl 1 rfl) ?_
          exact txI F hS dX3_readNumber_124 rfl (⟨g_6, ⟨by omega, by omega, (num_p hg_2.2.2 hcr12_0 (by omega))⟩, g_25, ⟨by omega, by omega, (num_2 (v := a1.toInt)  hg_2.2.2 (num_p hg_2.2.2 hcr12_0 (by omega)) (by omega) hcr12_1 (by omega) (by omega) hg_25.2.2 (by omega)).1⟩, (wkb r_16 rfl rfl), (by omega), (by omega), (num_2 (v := a1.toInt)  hg_2.2.2 (num_p hg_2.2.2 hcr12_0 (by omega)) (by omega) hcr12_1 (by omega) (by omega) hg_25.2.2 (by omega)).2, hH⟩)
    · skip
      refine lv_aload_n F.1 F.2.1 dX3_readNumber_97 rfl (lv_at hl 0 rfl) ?_
      refine lv_iload_n F.1 F.2.1 dX3_readNumber_98 rfl (lv_at hl 3 rfl) ?_
      refine lv_iconst (v := 1) F.1 F.2.1 dX3_readNumber_99 (by decide) ?_
      refine topK (a := 1) (by decide) (fun k_26 hk_26 => ?_)
      refine tVv (b := a0) (As := [.int z_3, .int k_26]) (rest := []) F hK hN hO (c_X3_blame E dA dB rA rB rc (xB 400 T) ya yb yc yd ye yf rC rD wd1 wd2 wd3 wd4 ws1 ws2 ws3 ws4 wi1 wi2 wi3 wi4 ((.inl (n, n))) ((.inl (g_6, g_6))) wd rr f g_2 1 a0 z_3 k_26 ha0 ez_3 (wkb (eqb hk_26) rfl rfl) (by omega) (by omega) (by omega)) mv_X3_blame wd_12_11 ⟨Nat.le_of_ble_eq_true rfl, Nat.le_of_ble_eq_true rfl⟩ ⟨Nat.le_of_ble_eq_true rfl, Nat.le_of_ble_eq_true rfl⟩ hH hS (tRecv hK hH (tyb ha0 (all1 rfl)) clX3) rfl hl.1 (Nat.le_of_ble_eq_true rfl) dX3_readNumber_100 (fun H locs hq hS => ?_)
      obtain ⟨g_28, hg_28, hH⟩ := hq
      have hH : TH E (tbC dA dB rA rB rc (rdD (.inl (g_6, g_6)) (.inl (n, n)) (.inl (g_28, g_28)) wd rr) (xB 400 T) ya yb yc yd ye yf rC rD wd1 wd2 wd3 wd4 ws1 ws2 ws3 ws4 wi1 wi2 wi3 wi4) H := hH
      refine lv_iload_n F.1 F.2.1 dX3_readNumber_103 rfl (lv_at hl 1 rfl) ?_
      exact txI F hS dX3_readNumber_104 rfl (⟨g_6, ⟨by omega, by omega, (num_p hg_2.2.2 hcr12_0 (by omega))⟩, g_28, ⟨by omega, by omega, (num_1 (v := a1.toInt)  hg_2.2.2 (num_p hg_2.2.2 hcr12_0 (by omega)) (by omega) hg_28.2.2 (by omega)).1⟩, (i32b _), (by omega), (by omega), (num_1 (v := a1.toInt)  hg_2.2.2 (num_p hg_2.2.2 hcr12_0 (by omega)) (by omega) hg_28.2.2 (by omega)).2, hH⟩)
  · skip
    have r_10 : 0 ≤ z_7.toInt ∧ z_7.toInt ≤ 399 := by have h9_ := ez_7; omega
    have r_11 : 1 ≤ z_8.toInt ∧ z_8.toInt ≤ 400 := by have h9_ := ez_8; omega
    refine lv_aload_n F.1 F.2.1 dX3_readNumber_23 rfl (lv_at hl 0 rfl) ?_
    refine tGetR (j := 0) F hK hH (tyb ha0 (all1 rfl)) rfl (all1 rfl) clX3 (by decide) wd_5_17 dX3_readNumber_24 (fun q_29 hq_29 _ => ?_)
    refine lv_aload_n F.1 F.2.1 dX3_readNumber_27 rfl (lv_at hl 0 rfl) ?_
    refine tGetI (j := 2) F hK hH (tyb ha0 (all1 rfl)) rfl clX3 (by decide) wd_9_4 dX3_readNumber_28 (fun z_30 hz_30 => ?_)
    have ez_30 : 0 ≤ z_30.toInt ∧ z_30.toInt ≤ 399 := by omega
    refine tBaldX F hK hH (tyb hq_29 (all1 rfl)) (ixb (n := 400) ez_30 rfl rfl) dX3_readNumber_31 (fun z_31 ez_31 => ?_)
    have bz_31 : z_31.toInt = bT T (g_6) := bTof ez_31 (by omega)
    have gz_31 : z_31.toInt = gI T (z_30.toInt.toNat) := by unfold gI; rw [ez_31]; rfl
    have hz_31 : (-128) ≤ z_31.toInt ∧ z_31.toInt ≤ 127 := (by have h9_ := hT (z_30).toNatClampNeg (cl_lt (n := 400) (by omega)); rw [← ez_31] at h9_; exact h9_)
    refine lv_bipush (v := 48) F.1 F.2.1 dX3_readNumber_32 (by decide) ?_
    refine topK (a := 48) (by decide) (fun k_32 hk_32 => ?_)
    refine b_lt (tgt := 89) F dX3_readNumber_34 (by decide) (fun c_33 => ?_) (fun c_33 => ?_)
    · skip
      have r_34 : (-128) ≤ z_31.toInt ∧ z_31.toInt ≤ 47 := by have h9_ := hz_31; omega
      refine lv_aload_n F.1 F.2.1 dX3_readNumber_89 rfl (lv_at hl 0 rfl) ?_
      refine tGetI (j := 2) F hK hH (tyb ha0 (all1 rfl)) rfl clX3 (by decide) wd_9_4 dX3_readNumber_90 (fun z_36 hz_36 => ?_)
      have ez_36 : 0 ≤ z_36.toInt ∧ z_36.toInt ≤ 399 := by omega
      refine lv_iload_n F.1 F.2.1 dX3_readNumber_93 rfl (lv_at hl 3 rfl) ?_
      refine b_ne (tgt := 105) F dX3_readNumber_94 (by decide) (fun c_37 => ?_) (fun c_37 => ?_)
      · skip
        refine lv_iload F.1 F.2.1 dX3_readNumber_105 (lv_at hl 4 rfl) ?_
        refine lv_iload_n F.1 F.2.1 dX3_readNumber_107 rfl (lv_at hl 1 rfl) ?_
        refine b_lt (tgt := 117) F dX3_readNumber_108 (by decide) (fun c_39 => ?_) (fun c_39 => ?_)
        · skip
          have r_40 : 1 ≤ a1.toInt ∧ a1.toInt ≤ 2147483647 := by have h9_ := (i32b a1); omega
          refine lv_aload_n F.1 F.2.1 dX3_readNumber_117 rfl (lv_at hl 0 rfl) ?_
          refine lv_iload_n F.1 F.2.1 dX3_readNumber_118 rfl (lv_at hl 3 rfl) ?_
          refine lv_iconst (v := 2) F.1 F.2.1 dX3_readNumber_119 (by decide) ?_
          refine topK (a := 2) (by decide) (fun k_42 hk_42 => ?_)
          refine tVv (b := a0) (As := [.int z_3, .int k_42]) (rest := []) F hK hN hO (c_X3_blame E dA dB rA rB rc (xB 400 T) ya yb yc yd ye yf rC rD wd1 wd2 wd3 wd4 ws1 ws2 ws3 ws4 wi1 wi2 wi3 wi4 ((.inl (n, n))) ((.inl (g_6, g_6))) wd rr f g_2 2 a0 z_3 k_42 ha0 ez_3 (wkb (eqb hk_42) rfl rfl) (by omega) (by omega) (by omega)) mv_X3_blame wd_12_11 ⟨Nat.le_of_ble_eq_true rfl, Nat.le_of_ble_eq_true rfl⟩ ⟨Nat.le_of_ble_eq_true rfl, Nat.le_of_ble_eq_true rfl⟩ hH hS (tRecv hK hH (tyb ha0 (all1 rfl)) clX3) rfl hl.1 (Nat.le_of_ble_eq_true rfl) dX3_readNumber_120 (fun H locs hq hS => ?_)
          obtain ⟨g_44, hg_44, hH⟩ := hq
          have hH : TH E (tbC dA dB rA rB rc (rdD (.inl (g_6, g_6)) (.inl (n, n)) (.inl (g_44, g_44)) wd rr) (xB 400 T) ya yb yc yd ye yf rC rD wd1 wd2 wd3 wd4 ws1 ws2 ws3 ws4 wi1 wi2 wi3 wi4) H := hH
          refine lv_iload_n F.1 F.2.1 dX3_readNumber_123 rfl (lv_at hl 1 rfl) ?_
          exact txI F hS dX3_readNumber_124 rfl (⟨g_6, ⟨by omega, by omega, (num_p hg_2.2.2 hcr12_0 (by omega))⟩, g_44, ⟨by omega, by omega, (num_2 (v := a1.toInt)  hg_2.2.2 (num_p hg_2.2.2 hcr12_0 (by omega)) (by omega) hcr12_1 (by omega) (by omega) hg_44.2.2 (by omega)).1⟩, (wkb r_40 rfl rfl), (by omega), (by omega), (num_2 (v := a1.toInt)  hg_2.2.2 (num_p hg_2.2.2 hcr12_0 (by omega)) (by omega) hcr12_1 (by omega) (by omega) hg_44.2.2 (by omega)).2, hH⟩)
        · skip
          have r_41 : (-2147483648) ≤ a1.toInt ∧ a1.toInt ≤ 1000000 := by have h9_ := (i32b a1); omega
          refine lv_iload F.1 F.2.1 dX3_readNumber_111 (lv_at hl 4 rfl) ?_
          refine lv_iload_n F.1 F.2.1 dX3_readNumber_113 rfl (lv_at hl 2 rfl) ?_
          refine b_le (tgt := 125) F dX3_readNumber_114 (by decide) (fun c_45 => ?_) (fun c_45 => ?_)
          · skip
            have r_46 : 0 ≤ a2.toInt ∧ a2.toInt ≤ 2147483647 := by have h9_ := (i32b a2); omega
            refine lv_iload F.1 F.2.1 dX3_readNumber_125 (lv_at hl 4 rfl) ?_
            exact txI F hS dX3_readNumber_127 rfl (⟨g_6, ⟨by omega, by omega, (num_p hg_2.2.2 hcr12_0 (by omega))⟩, f, ⟨by omega, by omega, (num_3 (v := u_5.toInt)  (f := f) hg_2.2.2 (num_p hg_2.2.2 hcr12_0 (by omega)) (by omega) hcr12_1 (by omega) (by omega) (by omega)).1⟩, (wkb hu_5 rfl rfl), (by omega), (by omega), (num_3 (v := u_5.toInt)  (f := f) hg_2.2.2 (num_p hg_2.2.2 hcr12_0 (by omega)) (by omega) hcr12_1 (by omega) (by omega) (by omega)).2, hH⟩)
          · skip
            have r_47 : (-2147483648) ≤ a2.toInt ∧ a2.toInt ≤ 999999 := by have h9_ := (i32b a2); omega
            refine lv_aload_n F.1 F.2.1 dX3_readNumber_117 rfl (lv_at hl 0 rfl) ?_
            refine lv_iload_n F.1 F.2.1 dX3_readNumber_118 rfl (lv_at hl 3 rfl) ?_
            refine lv_iconst (v := 2) F.1 F.2.1 dX3_readNumber_119 (by decide) ?_
            refine topK (a := 2) (by decide) (fun k_48 hk_48 => ?_)
            refine tVv (b := a0) (As := [.int z_3, .int k_48]) (rest := []) F hK hN hO (c_X3_blame E dA dB rA rB rc (xB 400 T) ya yb yc yd ye yf rC rD wd1 wd2 wd3 wd4 ws1 ws2 ws3 ws4 wi1 wi2 wi3 wi4 ((.inl (n, n))) ((.inl (g_6, g_6))) wd rr f g_2 2 a0 z_3 k_48 ha0 ez_3 (wkb (eqb hk_48) rfl rfl) (by omega) (by omega) (by omega)) mv_X3_blame wd_12_11 ⟨Nat.le_of_ble_eq_true rfl, Nat.le_of_ble_eq_true rfl⟩ ⟨Nat.le_of_ble_eq_true rfl, Nat.le_of_ble_eq_true rfl⟩ hH hS (tRecv hK hH (tyb ha0 (all1 rfl)) clX3) rfl hl.1 (Nat.le_of_ble_eq_true rfl) dX3_readNumber_120 (fun H locs hq hS => ?_)
            obtain ⟨g_50, hg_50, hH⟩ := hq
            have hH : TH E (tbC dA dB rA rB rc (rdD (.inl (g_6, g_6)) (.inl (n, n)) (.inl (g_50, g_50)) wd rr) (xB 400 T) ya yb yc yd ye yf rC rD wd1 wd2 wd3 wd4 ws1 ws2 ws3 ws4 wi1 wi2 wi3 wi4) H := hH
            refine lv_iload_n F.1 F.2.1 dX3_readNumber_123 rfl (lv_at hl 1 rfl) ?_
            exact txI F hS dX3_readNumber_124 rfl (⟨g_6, ⟨by omega, by omega, (num_p hg_2.2.2 hcr12_0 (by omega))⟩, g_50, ⟨by omega, by omega, (num_2 (v := a1.toInt)  hg_2.2.2 (num_p hg_2.2.2 hcr12_0 (by omega)) (by omega) hcr12_1 (by omega) (by omega) hg_50.2.2 (by omega)).1⟩, (wkb r_41 rfl rfl), (by omega), (by omega), (num_2 (v := a1.toInt)  hg_2.2.2 (num_p hg_2.2.2 hcr12_0 (by omega)) (by omega) hcr12_1 (by omega) (by omega) hg_50.2.2 (by omega)).2, hH⟩)
      · skip
        have r_38 : 0 ≤ z_3.toInt ∧ z_3.toInt ≤ 399 := by have h9_ := ez_3; omega
        refine lv_aload_n F.1 F.2.1 dX3_readNumber_97 rfl (lv_at hl 0 rfl) ?_
        refine lv_iload_n F.1 F.2.1 dX3_readNumber_98 rfl (lv_at hl 3 rfl) ?_
        refine lv_iconst (v := 1) F.1 F.2.1 dX3_readNumber_99 (by decide) ?_
        refine topK (a := 1) (by decide) (fun k_51 hk_51 => ?_)
        refine tVv (b := a0) (As := [.int z_3, .int k_51]) (rest := []) F hK hN hO (c_X3_blame E dA dB rA rB rc (xB 400 T) ya yb yc yd ye yf rC rD wd1 wd2 wd3 wd4 ws1 ws2 ws3 ws4 wi1 wi2 wi3 wi4 ((.inl (n, n))) ((.inl (g_6, g_6))) wd rr f g_2 1 a0 z_3 k_51 ha0 (wkb r_38 rfl rfl) (wkb (eqb hk_51) rfl rfl) (by omega) (by omega) (by omega)) mv_X3_blame wd_12_11 ⟨Nat.le_of_ble_eq_true rfl, Nat.le_of_ble_eq_true rfl⟩ ⟨Nat.le_of_ble_eq_true rfl, Nat.le_of_ble_eq_true rfl⟩ hH hS (tRecv hK hH (tyb ha0 (all1 rfl)) clX3) rfl hl.1 (Nat.le_of_ble_eq_true rfl) dX3_readNumber_100 (fun H locs hq hS => ?_)
        obtain ⟨g_53, hg_53, hH⟩ := hq
        have hH : TH E (tbC dA dB rA rB rc (rdD (.inl (g_6, g_6)) (.inl (n, n)) (.inl (g_53, g_53)) wd rr) (xB 400 T) ya yb yc yd ye yf rC rD wd1 wd2 wd3 wd4 ws1 ws2 ws3 ws4 wi1 wi2 wi3 wi4) H := hH
        refine lv_iload_n F.1 F.2.1 dX3_readNumber_103 rfl (lv_at hl 1 rfl) ?_
        exact txI F hS dX3_readNumber_104 rfl (⟨g_6, ⟨by omega, by omega, (num_p hg_2.2.2 hcr12_0 (by omega))⟩, g_53, ⟨by omega, by omega, (num_1 (v := a1.toInt)  hg_2.2.2 (num_p hg_2.2.2 hcr12_0 (by omega)) (by omega) hg_53.2.2 (by omega)).1⟩, (i32b _), (by omega), (by omega), (num_1 (v := a1.toInt)  hg_2.2.2 (num_p hg_2.2.2 hcr12_0 (by omega)) (by omega) hg_53.2.2 (by omega)).2, hH⟩)
    · skip
      have r_35 : 48 ≤ z_31.toInt ∧ z_31.toInt ≤ 127 := by have h9_ := hz_31; omega
      refine lv_aload_n F.1 F.2.1 dX3_readNumber_37 rfl (lv_at hl 0 rfl) ?_
      refine tGetR (j := 0) F hK hH (tyb ha0 (all1 rfl)) rfl (all1 rfl) clX3 (by decide) wd_5_17 dX3_readNumber_38 (fun q_54 hq_54 _ => ?_)
      refine lv_aload_n F.1 F.2.1 dX3_readNumber_41 rfl (lv_at hl 0 rfl) ?_
      refine tGetI (j := 2) F hK hH (tyb ha0 (all1 rfl)) rfl clX3 (by decide) wd_9_4 dX3_readNumber_42 (fun z_55 hz_55 => ?_)
      have ez_55 : 0 ≤ z_55.toInt ∧ z_55.toInt ≤ 399 := by omega
      refine tBaldX F hK hH (tyb hq_54 (all1 rfl)) (ixb (n := 400) ez_55 rfl rfl) dX3_readNumber_45 (fun z_56 ez_56 => ?_)
      have bz_56 : z_56.toInt = bT T (g_6) := bTof ez_56 (by omega)
      have gz_56 : z_56.toInt = gI T (z_55.toInt.toNat) := by unfold gI; rw [ez_56]; rfl
      have hz_56 : (-128) ≤ z_56.toInt ∧ z_56.toInt ≤ 127 := (by have h9_ := hT (z_55).toNatClampNeg (cl_lt (n := 400) (by omega)); rw [← ez_56] at h9_; exact h9_)
      refine lv_bipush (v := 57) F.1 F.2.1 dX3_readNumber_46 (by decide) ?_
      refine topK (a := 57) (by decide) (fun k_57 hk_57 => ?_)
      refine b_gt (tgt := 89) F dX3_readNumber_48 (by decide) (fun c_58 => ?_) (fun c_58 => ?_)
      · skip
        have r_59 : 58 ≤ z_56.toInt ∧ z_56.toInt ≤ 127 := by have h9_ := hz_56; omega
        refine lv_aload_n F.1 F.2.1 dX3_readNumber_89 rfl (lv_at hl 0 rfl) ?_
        refine tGetI (j := 2) F hK hH (tyb ha0 (all1 rfl)) rfl clX3 (by decide) wd_9_4 dX3_readNumber_90 (fun z_61 hz_61 => ?_)
        have ez_61 : 0 ≤ z_61.toInt ∧ z_61.toInt ≤ 399 := by omega
        refine lv_iload_n F.1 F.2.1 dX3_readNumber_93 rfl (lv_at hl 3 rfl) ?_
        refine b_ne (tgt := 105) F dX3_readNumber_94 (by decide) (fun c_62 => ?_) (fun c_62 => ?_)
        · skip
          refine lv_iload F.1 F.2.1 dX3_readNumber_105 (lv_at hl 4 rfl) ?_
          refine lv_iload_n F.1 F.2.1 dX3_readNumber_107 rfl (lv_at hl 1 rfl) ?_
          refine b_lt (tgt := 117) F dX3_readNumber_108 (by decide) (fun c_64 => ?_) (fun c_64 => ?_)
          · skip
            have r_65 : 1 ≤ a1.toInt ∧ a1.toInt ≤ 2147483647 := by have h9_ := (i32b a1); omega
            refine lv_aload_n F.1 F.2.1 dX3_readNumber_117 rfl (lv_at hl 0 rfl) ?_
            refine lv_iload_n F.1 F.2.1 dX3_readNumber_118 rfl (lv_at hl 3 rfl) ?_
            refine lv_iconst (v := 2) F.1 F.2.1 dX3_readNumber_119 (by decide) ?_
            refine topK (a := 2) (by decide) (fun k_67 hk_67 => ?_)
            refine tVv (b := a0) (As := [.int z_3, .int k_67]) (rest := []) F hK hN hO (c_X3_blame E dA dB rA rB rc (xB 400 T) ya yb yc yd ye yf rC rD wd1 wd2 wd3 wd4 ws1 ws2 ws3 ws4 wi1 wi2 wi3 wi4 ((.inl (n, n))) ((.inl (g_6, g_6))) wd rr f g_2 2 a0 z_3 k_67 ha0 ez_3 (wkb (eqb hk_67) rfl rfl) (by omega) (by omega) (by omega)) mv_X3_blame wd_12_11 ⟨Nat.le_of_ble_eq_true rfl, Nat.le_of_ble_eq_true rfl⟩ ⟨Nat.le_of_ble_eq_true rfl, Nat.le_of_ble_eq_true rfl⟩ hH hS (tRecv hK hH (tyb ha0 (all1 rfl)) clX3) rfl hl.1 (Nat.le_of_ble_eq_true rfl) dX3_readNumber_120 (fun H locs hq hS => ?_)
            obtain ⟨g_69, hg_69, hH⟩ := hq
            have hH : TH E (tbC dA dB rA rB rc (rdD (.inl (g_6, g_6)) (.inl (n, n)) (.inl (g_69, g_69)) wd rr) (xB 400 T) ya yb yc yd ye yf rC rD wd1 wd2 wd3 wd4 ws1 ws2 ws3 ws4 wi1 wi2 wi3 wi4) H := hH
            refine lv_iload_n F.1 F.2.1 dX3_readNumber_123 rfl (lv_at hl 1 rfl) ?_
            exact txI F hS dX3_readNumber_124 rfl (⟨g_6, ⟨by omega, by omega, (num_p hg_2.2.2 hcr12_0 (by omega))⟩, g_69, ⟨by omega, by omega, (num_2 (v := a1.toInt)  hg_2.2.2 (num_p hg_2.2.2 hcr12_0 (by omega)) (by omega) hcr12_1 (by omega) (by omega) hg_69.2.2 (by omega)).1⟩, (wkb r_65 rfl rfl), (by omega), (by omega), (num_2 (v := a1.toInt)  hg_2.2.2 (num_p hg_2.2.2 hcr12_0 (by omega)) (by omega) hcr12_1 (by omega) (by omega) hg_69.2.2 (by omega)).2, hH⟩)
          · skip
            have r_66 : (-2147483648) ≤ a1.toInt ∧ a1.toInt ≤ 1000000 := by have h9_ := (i32b a1); omega
            refine lv_iload F.1 F.2.1 dX3_readNumber_111 (lv_at hl 4 rfl) ?_
            refine lv_iload_n F.1 F.2.1 dX3_readNumber_113 rfl (lv_at hl 2 rfl) ?_
            refine b_le (tgt := 125) F dX3_readNumber_114 (by decide) (fun c_70 => ?_) (fun c_70 => ?_)
            · skip
              have r_71 : 0 ≤ a2.toInt ∧ a2.toInt ≤ 2147483647 := by have h9_ := (i32b a2); omega
              refine lv_iload F.1 F.2.1 dX3_readNumber_125 (lv_at hl 4 rfl) ?_
              exact txI F hS dX3_readNumber_127 rfl (⟨g_6, ⟨by omega, by omega, (num_p hg_2.2.2 hcr12_0 (by omega))⟩, f, ⟨by omega, by omega, (num_3 (v := u_5.toInt)  (f := f) hg_2.2.2 (num_p hg_2.2.2 hcr12_0 (by omega)) (by omega) hcr12_1 (by omega) (by omega) (by omega)).1⟩, (wkb hu_5 rfl rfl), (by omega), (by omega), (num_3 (v := u_5.toInt)  (f := f) hg_2.2.2 (num_p hg_2.2.2 hcr12_0 (by omega)) (by omega) hcr12_1 (by omega) (by omega) (by omega)).2, hH⟩)
            · skip
              have r_72 : (-2147483648) ≤ a2.toInt ∧ a2.toInt ≤ 999999 := by have h9_ := (i32b a2); omega
              refine lv_aload_n F.1 F.2.1 dX3_readNumber_117 rfl (lv_at hl 0 rfl) ?_
              refine lv_iload_n F.1 F.2.1 dX3_readNumber_118 rfl (lv_at hl 3 rfl) ?_
              refine lv_iconst (v := 2) F.1 F.2.1 dX3_readNumber_119 (by decide) ?_
              refine topK (a := 2) (by decide) (fun k_73 hk_73 => ?_)
              refine tVv (b := a0) (As := [.int z_3, .int k_73]) (rest := []) F hK hN hO (c_X3_blame E dA dB rA rB rc (xB 400 T) ya yb yc yd ye yf rC rD wd1 wd2 wd3 wd4 ws1 ws2 ws3 ws4 wi1 wi2 wi3 wi4 ((.inl (n, n))) ((.inl (g_6, g_6))) wd rr f g_2 2 a0 z_3 k_73 ha0 ez_3 (wkb (eqb hk_73) rfl rfl) (by omega) (by omega) (by omega)) mv_X3_blame wd_12_11 ⟨Nat.le_of_ble_eq_true rfl, Nat.le_of_ble_eq_true rfl⟩ ⟨Nat.le_of_ble_eq_true rfl, Nat.le_of_ble_eq_true rfl⟩ hH hS (tRecv hK hH (tyb ha0 (all1 rfl)) clX3) rfl hl.1 (Nat.le_of_ble_eq_true rfl) dX3_readNumber_120 (fun H locs hq hS => ?_)
              obtain ⟨g_75, hg_75, hH⟩ := hq
              have hH : TH E (tbC dA dB rA rB rc (rdD (.inl (g_6, g_6)) (.inl (n, n)) (.inl (g_75, g_75)) wd rr) (xB 400 T) ya yb yc yd ye yf rC rD wd1 wd2 wd3 wd4 ws1 ws2 ws3 ws4 wi1 wi2 wi3 wi4) H := hH
              refine lv_iload_n F.1 F.2.1 dX3_readNumber_123 rfl (lv_at hl 1 rfl) ?_
              exact txI F hS dX3_readNumber_124 rfl (⟨g_6, ⟨by omega, by omega, (num_p hg_2.2.2 hcr12_0 (by omega))⟩, g_75, ⟨by omega, by omega, (num_2 (v := a1.toInt)  hg_2.2.2 (num_p hg_2.2.2 hcr12_0 (by omega)) (by omega) hcr12_1 (by omega) (by omega) hg_75.2.2 (by omega)).1⟩, (wkb r_66 rfl rfl), (by omega), (by omega), (num_2 (v := a1.toInt)  hg_2.2.2 (num_p hg_2.2.2 hcr12_0 (by omega)) (by omega) hcr12_1 (by omega) (by omega) hg_75.2.2 (by omega)).2, hH⟩)
        · skip
          have r_63 : 0 ≤ z_3.toInt ∧ z_3.toInt ≤ 399 := by have h9_ := ez_3; omega
          refine lv_aload_n F.1 F.2.1 dX3_readNumber_97 rfl (lv_at hl 0 rfl) ?_
          refine lv_iload_n F.1 F.2.1 dX3_readNumber_98 rfl (lv_at hl 3 rfl) ?_
          refine lv_iconst (v := 1) F.1 F.2.1 dX3_readNumber_99 (by decide) ?_
          refine topK (a := 1) (by decide) (fun k_76 hk_76 => ?_)
          refine tVv (b := a0) (As := [.int z_3, .int k_76]) (rest := []) F hK hN hO (c_X3_blame E dA dB rA rB rc (xB 400 T) ya yb yc yd ye yf rC rD wd1 wd2 wd3 wd4 ws1 ws2 ws3 ws4 wi1 wi2 wi3 wi4 ((.inl (n, n))) ((.inl (g_6, g_6))) wd rr f g_2 1 a0 z_3 k_76 ha0 (wkb r_63 rfl rfl) (wkb (eqb hk_76) rfl rfl) (by omega) (by omega) (by omega)) mv_X3_blame wd_12_11 ⟨Nat.le_of_ble_eq_true rfl, Nat.le_of_ble_eq_true rfl⟩ ⟨Nat.le_of_ble_eq_true rfl, Nat.le_of_ble_eq_true rfl⟩ hH hS (tRecv hK hH (tyb ha0 (all1 rfl)) clX3) rfl hl.1 (Nat.le_of_ble_eq_true rfl) dX3_readNumber_100 (fun H locs hq hS => ?_)
          obtain ⟨g_78, hg_78, hH⟩ := hq
          have hH : TH E (tbC dA dB rA rB rc (rdD (.inl (g_6, g_6)) (.inl (n, n)) (.inl (g_78, g_78)) wd rr) (xB 400 T) ya yb yc yd ye yf rC rD wd1 wd2 wd3 wd4 ws1 ws2 ws3 ws4 wi1 wi2 wi3 wi4) H := hH
          refine lv_iload_n F.1 F.2.1 dX3_readNumber_103 rfl (lv_at hl 1 rfl) ?_
          exact txI F hS dX3_readNumber_104 rfl (⟨g_6, ⟨by omega, by omega, (num_p hg_2.2.2 hcr12_0 (by omega))⟩, g_78, ⟨by omega, by omega, (num_1 (v := a1.toInt)  hg_2.2.2 (num_p hg_2.2.2 hcr12_0 (by omega)) (by omega) hg_78.2.2 (by omega)).1⟩, (i32b _), (by omega), (by omega), (num_1 (v := a1.toInt)  hg_2.2.2 (num_p hg_2.2.2 hcr12_0 (by omega)) (by omega) hg_78.2.2 (by omega)).2, hH⟩)
      · skip
        have r_60 : (-128) ≤ z_56.toInt ∧ z_56.toInt ≤ 57 := by have h9_ := hz_56; omega
        refine lv_iload F.1 F.2.1 dX3_readNumber_51 (lv_at hl 4 rfl) ?_
        refine lv_bipush (v := 10) F.1 F.2.1 dX3_readNumber_53 (by decide) ?_
        refine topK (a := 10) (by decide) (fun k_79 hk_79 => ?_)
        refine tMul (lo := 0) (hi := 10000000) F dX3_readNumber_55 hu_5 (eqb hk_79) rfl (fun z_80 hz_80 => ?_)
        have mz_80 : z_80.toInt = u_5.toInt * 10 := by rw [hz_80.1, hk_79]
        refine lv_aload_n F.1 F.2.1 dX3_readNumber_56 rfl (lv_at hl 0 rfl) ?_
        refine tGetR (j := 0) F hK hH (tyb ha0 (all1 rfl)) rfl (all1 rfl) clX3 (by decide) wd_5_17 dX3_readNumber_57 (fun q_81 hq_81 _ => ?_)
        refine lv_aload_n F.1 F.2.1 dX3_readNumber_60 rfl (lv_at hl 0 rfl) ?_
        refine tGetI (j := 2) F hK hH (tyb ha0 (all1 rfl)) rfl clX3 (by decide) wd_9_4 dX3_readNumber_61 (fun z_82 hz_82 => ?_)
        have ez_82 : 0 ≤ z_82.toInt ∧ z_82.toInt ≤ 399 := by omega
        refine tBaldX F hK hH (tyb hq_81 (all1 rfl)) (ixb (n := 400) ez_82 rfl rfl) dX3_readNumber_64 (fun z_83 ez_83 => ?_)
        have bz_83 : z_83.toInt = bT T (g_6) := bTof ez_83 (by omega)
        have gz_83 : z_83.toInt = gI T (z_82.toInt.toNat) := by unfold gI; rw [ez_83]; rfl
        have hz_83 : (-128) ≤ z_83.toInt ∧ z_83.toInt ≤ 127 := (by have h9_ := hT (z_82).toNatClampNeg (cl_lt (n := 400) (by omega)); rw [← ez_83] at h9_; exact h9_)
        refine tAdd (lo := (-128)) (hi := 10000127) F dX3_readNumber_65 hz_80.2 hz_83 rfl (fun z_84 hz_84 => ?_)
        refine lv_bipush (v := 48) F.1 F.2.1 dX3_readNumber_66 (by decide) ?_
        refine topK (a := 48) (by decide) (fun k_85 hk_85 => ?_)
        refine tSub (lo := (-176)) (hi := 10000079) F dX3_readNumber_68 hz_84.2 (eqb hk_85) rfl (fun z_86 hz_86 => ?_)
        refine lv_ldc (own := RX3) (v := 1000000) F.1 F.2.1 F.2.2.2.2.1 (F.2.2.2.2.2.2.1 _ wd_12_23) dX3_readNumber_69 ?_
        refine topK (a := 1000000) (by decide) (fun k_87 hk_87 => ?_)
        refine tMin (lo := (-176)) (hi := 1000000) F wd_8_23 wd_9_0 wd_9_1 wd_9_2 hl.1 (Nat.le_of_ble_eq_true rfl) (Nat.le_of_ble_eq_true rfl) (Nat.le_of_ble_eq_true rfl) (Nat.le_of_ble_eq_true rfl) dX3_readNumber_71 hz_86.2 (eqb hk_87) rfl (fun z_88 hz_88 => ?_)
        refine lv_istore (lv' := [(4, .int z_88), (0, .ref a0), (1, .int a1), (2, .int a2), (3, .int z_3)]) F.1 F.2.1 dX3_readNumber_74 hl (by decide) rfl (fun ls hl => ?_)
        refine lv_aload_n F.1 F.2.1 dX3_readNumber_76 rfl (lv_at hl 1 rfl) ?_
        refine lv_dup F.1 F.2.1 dX3_readNumber_77 rfl ?_
        refine tGetI (j := 2) F hK hH (tyb ha0 (all1 rfl)) rfl clX3 (by decide) wd_9_4 dX3_readNumber_78 (fun z_89 hz_89 => ?_)
        have ez_89 : 0 ≤ z_89.toInt ∧ z_89.toInt ≤ 399 := by omega
        refine lv_iconst (v := 1) F.1 F.2.1 dX3_readNumber_81 (by decide) ?_
        refine topK (a := 1) (by decide) (fun k_90 hk_90 => ?_)
        refine tAdd (lo := 1) (hi := 400) F dX3_readNumber_82 ez_89 (eqb hk_90) rfl (fun z_91 hz_91 => ?_)
        obtain ⟨g_92, hg_92⟩ : ∃ y : Int, z_91.toInt = y := ⟨_, rfl⟩
        have bg_92 : 1 ≤ g_92 ∧ g_92 ≤ 400 := by rw [← hg_92]; exact hz_91.2
        refine tPutG (j := 2) (t := 29) (fd := (.inl (g_92, g_92))) F hK hH hS (List.mem_singleton.mp ha0) (by decide) rfl rfl (fdI (by omega)) (TB1 := (tbC dA dB rA rB rc (rdD (.inl (g_92, g_92)) (.inl (n, n)) (.inl (f, f)) wd rr) (xB 400 T) ya yb yc yd ye yf rC rD wd1 wd2 wd3 wd4 ws1 ws2 ws3 ws4 wi1 wi2 wi3 wi4)) rfl clX3 (by decide) wd_9_4 rfl rfl rfl rfl dX3_readNumber_83 (fun H locs hH hS => ?_)
        refine lv_goto (tgt := 12) F.1 F.2.1 dX3_readNumber_86 (by decide) ?_
        exact ih_12 (z_88, g_92) _ _ _ ⟨(show (400 - g_92 + 1).toNat < n_12 from by omega), (show 0 ≤ z_88.toInt ∧ z_88.toInt ≤ 1000000 from by omega), (show 0 ≤ g_92 ∧ g_92 ≤ 400 from by omega), (show rde T n g_92 = rde T n g_2 from (num_sd hcr12_0 (by omega) (by omega) (by omega) (by omega))), (show rcv T n g_92 (z_88.toInt) = rcv T n g_2 0 from (num_sv hcr12_1 (by omega) (by omega) (by omega) (by omega) (by omega))), hH, hS, lv_sub hl [1, 2, 3, 4, 0] rfl⟩
set_option maxHeartbeats 4000000 in
set_option maxRecDepth 100000 in
theorem c_X3_readBetween (E : Ev) (dA : TD) (dB : TD) (rA : TD) (rB : TD) (rc : TD) (ya : TD) (yb : TD) (yc : TD) (yd : TD) (ye : TD) (yf : TD) (rC : TD) (rD : TD) (wd1 : TD) (wd2 : TD) (wd3 : TD) (wd4 : TD) (ws1 : TD) (ws2 : TD) (ws3 : TD) (ws4 : TD) (wi1 : TD) (wi2 : TD) (wi3 : TD) (wi4 : TD) (wd : FD) (rr : FD) (n : Int) (p : Int) (f : Int) (T : Nat → Int32) (a0 : Nat) (ha0 : eT E a0 ∈ [29]) (hn : 0 ≤ n ∧ n ≤ 400) (hp : 0 ≤ p ∧ p ≤ 400) (hf : 0 ≤ f ∧ f ≤ 4000) (hT : ivP 400 (-128) 127 T) : TcI E yX3_readBetween cX3_readBetween 1 .boolean ({ frames := 2, cells := 0, slots := 0, locals := 62 }) [.ref a0] (fun H => TH E (tbC dA dB rA rB rc (rdD (.inl (p, p)) (.inl (n, n)) (.inl (f, f)) wd rr) (xB 400 T) ya yb yc yd ye yf rC rD wd1 wd2 wd3 wd4 ws1 ws2 ws3 ws4 wi1 wi2 wi3 wi4) H) (fun v H => ∃ p2 : Int, (0 ≤ p2 ∧ p2 ≤ 400 ∧ p2 = jBp T n p f) ∧ ∃ f2 : Int, (0 ≤ f2 ∧ f2 ≤ 4000 ∧ f2 = jBf T n p f) ∧ (0 ≤ v.toInt ∧ v.toInt ≤ 1) ∧ (v.toInt = jBv T n p f) ∧ TH E (tbC dA dB rA rB rc (rdD (.inl (p2, p2)) (.inl (n, n)) (.inl (f2, f2)) wd rr) (xB 400 T) ya yb yc yd ye yf rC rD wd1 wd2 wd3 wd4 ws1 ws2 ws3 ws4 wi1 wi2 wi3 wi4) H) := by
  refine teI (by decide) (Nat.le_of_ble_eq_true rfl) ?_
  intro p_ ev_ s mi_ below_ meth cd_ ls F hK hN hO hH hS hl
  have hH : TH E (tbC dA dB rA rB rc (rdD (.inl (p, p)) (.inl (n, n)) (.inl (f, f)) wd rr) (xB 400 T) ya yb yc yd ye yf rC rD wd1 wd2 wd3 wd4 ws1 ws2 ws3 ws4 wi1 wi2 wi3 wi4) s.heap := hH
  have hl : lv_has ls 1 [(0, .ref a0)] := hl
  refine lv_aload_n F.1 F.2.1 dX3_readBetween_0 rfl (lv_at hl 0 rfl) ?_
  refine tVv (b := a0) (As := []) (rest := []) F hK hN hO (c_X3_skipBlanks E dA dB rA rB rc ya yb yc yd ye yf rC rD wd1 wd2 wd3 wd4 ws1 ws2 ws3 ws4 wi1 wi2 wi3 wi4 ((.inl (f, f))) wd rr n p T a0 ha0 (by omega) (by omega) hT) mv_X3_skipBlanks wd_9_14 ⟨Nat.le_of_ble_eq_true rfl, Nat.le_of_ble_eq_true rfl⟩ ⟨Nat.le_of_ble_eq_true rfl, Nat.le_of_ble_eq_true rfl⟩ hH hS (tRecv hK hH (tyb ha0 (all1 rfl)) clX3) rfl hl.1 (Nat.le_of_ble_eq_true rfl) dX3_readBetween_1 (fun H locs hq hS => ?_)
  obtain ⟨g_2, hg_2, hH⟩ := hq
  have hH : TH E (tbC dA dB rA rB rc (rdD (.inl (g_2, g_2)) (.inl (n, n)) (.inl (f, f)) wd rr) (xB 400 T) ya yb yc yd ye yf rC rD wd1 wd2 wd3 wd4 ws1 ws2 ws3 ws4 wi1 wi2 wi3 wi4) H := hH
  refine lv_aload_n F.1 F.2.1 dX3_readBetween_4 rfl (lv_at hl 0 rfl) ?_
  refine tGetI (j := 3) F hK hH (tyb ha0 (all1 rfl)) rfl clX3 (by decide) wd_9_5 dX3_readBetween_5 (fun z_3 hz_3 => ?_)
  have ez_3 : 0 ≤ z_3.toInt ∧ z_3.toInt ≤ 4000 := by omega
  refine z_ne (tgt := 22) F dX3_readBetween_8 (by decide) (fun c_4 => ?_) (fun c_4 => ?_)
  · skip
    have r_5 : 1 ≤ z_3.toInt ∧ z_3.toInt ≤ 4000 := by have h9_ := ez_3; omega
    refine lv_iconst (v := 0) F.1 F.2.1 dX3_readBetween_22 (by decide) ?_
    refine topK (a := 0) (by decide) (fun k_7 hk_7 => ?_)
    exact txI F hS dX3_readBetween_23 (nar01 (wkb (eqb hk_7) rfl rfl)) (⟨g_2, ⟨by omega, by omega, (bet_k (p2 := g_2) (f2 := f) (v := k_7.toInt) (f := f) hg_2.2.2 (by omega)).1⟩, f, ⟨by omega, by omega, (bet_k (p2 := g_2) (f2 := f) (v := k_7.toInt) (f := f) hg_2.2.2 (by omega)).2.1⟩, (wkb (eqb hk_7) rfl rfl), (bet_k (p2 := g_2) (f2 := f) (v := k_7.toInt) (f := f) hg_2.2.2 (by omega)).2.2, hH⟩)
  · skip
    have r_6 : 0 ≤ z_3.toInt ∧ z_3.toInt ≤ 0 := by have h9_ := ez_3; omega
    refine lv_aload_n F.1 F.2.1 dX3_readBetween_11 rfl (lv_at hl 0 rfl) ?_
    refine tGetI (j := 2) F hK hH (tyb ha0 (all1 rfl)) rfl clX3 (by decide) wd_9_4 dX3_readBetween_12 (fun z_8 hz_8 => ?_)
    have ez_8 : 0 ≤ z_8.toInt ∧ z_8.toInt ≤ 400 := by omega
    refine lv_aload_n F.1 F.2.1 dX3_readBetween_15 rfl (lv_at hl 0 rfl) ?_
    refine tGetI (j := 1) F hK hH (tyb ha0 (all1 rfl)) rfl clX3 (by decide) wd_9_3 dX3_readBetween_16 (fun z_9 hz_9 => ?_)
    have ez_9 : 0 ≤ z_9.toInt ∧ z_9.toInt ≤ 400 := by omega
    refine b_lt (tgt := 24) F dX3_readBetween_19 (by decide) (fun c_10 => ?_) (fun c_10 => ?_)
    · skip
      have r_11 : 0 ≤ z_8.toInt ∧ z_8.toInt ≤ 399 := by have h9_ := ez_8; omega
      have r_12 : 1 ≤ z_9.toInt ∧ z_9.toInt ≤ 400 := by have h9_ := ez_9; omega
      refine lv_aload_n F.1 F.2.1 dX3_readBetween_24 rfl (lv_at hl 0 rfl) ?_
      refine tGetR (j := 0) F hK hH (tyb ha0 (all1 rfl)) rfl (all1 rfl) clX3 (by decide) wd_5_17 dX3_readBetween_25 (fun q_13 hq_13 _ => ?_)
      refine lv_aload_n F.1 F.2.1 dX3_readBetween_28 rfl (lv_at hl 0 rfl) ?_
      refine tGetI (j := 2) F hK hH (tyb ha0 (all1 rfl)) rfl clX3 (by decide) wd_9_4 dX3_readBetween_29 (fun z_14 hz_14 => ?_)
      have ez_14 : 0 ≤ z_14.toInt ∧ z_14.toInt ≤ 399 := by omega
      refine tBaldX F hK hH (tyb hq_13 (all1 rfl)) (ixb (n := 400) ez_14 rfl rfl) dX3_readBetween_32 (fun z_15 ez_15 => ?_)
      have bz_15 : z_15.toInt = bT T (g_2) := bTof ez_15 (by omega)
      have gz_15 : z_15.toInt = gI T (z_14.toInt.toNat) := by unfold gI; rw [ez_15]; rfl
      have hz_15 : (-128) ≤ z_15.toInt ∧ z_15.toInt ≤ 127 := (by have h9_ := hT (z_14).toNatClampNeg (cl_lt (n := 400) (by omega)); rw [← ez_15] at h9_; exact h9_)
      refine lv_bipush (v := 59) F.1 F.2.1 dX3_readBetween_33 (by decide) ?_
      refine topK (a := 59) (by decide) (fun k_16 hk_16 => ?_)
      refine b_eq (tgt := 49) F dX3_readBetween_35 (by decide) (fun c_17 => ?_) (fun c_17 => ?_)
      · skip
        have r_18 : 59 ≤ z_15.toInt ∧ z_15.toInt ≤ 59 := by have h9_ := hz_15; omega
        refine lv_aload_n F.1 F.2.1 dX3_readBetween_49 rfl (lv_at hl 0 rfl) ?_
        refine lv_dup F.1 F.2.1 dX3_readBetween_50 rfl ?_
        refine tGetI (j := 2) F hK hH (tyb ha0 (all1 rfl)) rfl clX3 (by decide) wd_9_4 dX3_readBetween_51 (fun z_19 hz_19 => ?_)
        have ez_19 : 0 ≤ z_19.toInt ∧ z_19.toInt ≤ 399 := by omega
        refine lv_iconst (v := 1) F.1 F.2.1 dX3_readBetween_54 (by decide) ?_
        refine topK (a := 1) (by decide) (fun k_20 hk_20 => ?_)
        refine tAdd (lo := 1) (hi := 400) F dX3_readBetween_55 ez_19 (eqb hk_20) rfl (fun z_21 hz_21 => ?_)
        obtain ⟨g_22, hg_22⟩ : ∃ y : Int, z_21.toInt = y := ⟨_, rfl⟩
        have bg_22 : 1 ≤ g_22 ∧ g_22 ≤ 400 := by rw [← hg_22]; exact hz_21.2
        refine tPutG (j := 2) (t := 29) (fd := (.inl (g_22, g_22))) F hK hH hS (List.mem_singleton.mp ha0) (by decide) rfl rfl (fdI (by omega)) (TB1 := (tbC dA dB rA rB rc (rdD (.inl (g_22, g_22)) (.inl (n, n)) (.inl (f, f)) wd rr) (xB 400 T) ya yb yc yd ye yf rC rD wd1 wd2 wd3 wd4 ws1 ws2 ws3 ws4 wi1 wi2 wi3 wi4)) rfl clX3 (by decide) wd_9_4 rfl rfl rfl rfl dX3_readBetween_56 (fun H locs hH hS => ?_)
        refine lv_iconst (v := 1) F.1 F.2.1 dX3_readBetween_59 (by decide) ?_
        refine topK (a := 1) (by decide) (fun k_23 hk_23 => ?_)
        exact txI F hS dX3_readBetween_60 (nar01 (wkb (eqb hk_23) rfl rfl)) (⟨g_22, ⟨by omega, by omega, (bet_k (p2 := g_22) (f2 := f) (v := k_23.toInt) (f := f) hg_2.2.2 (by omega)).1⟩, f, ⟨by omega, by omega, (bet_k (p2 := g_22) (f2 := f) (v := k_23.toInt) (f := f) hg_2.2.2 (by omega)).2.1⟩, (wkb (eqb hk_23) rfl rfl), (bet_k (p2 := g_22) (f2 := f) (v := k_23.toInt) (f := f) hg_2.2.2 (by omega)).2.2, hH⟩)
      · skip
        refine lv_aload_n F.1 F.2.1 dX3_readBetween_38 rfl (lv_at hl 0 rfl) ?_
        refine lv_aload_n F.1 F.2.1 dX3_readBetween_39 rfl (lv_at hl 0 rfl) ?_
        refine tGetI (j := 2) F hK hH (tyb ha0 (all1 rfl)) rfl clX3 (by decide) wd_9_4 dX3_readBetween_40 (fun z_24 hz_24 => ?_)
        have ez_24 : 0 ≤ z_24.toInt ∧ z_24.toInt ≤ 399 := by omega
        refine lv_iconst (v := 1) F.1 F.2.1 dX3_readBetween_43 (by decide) ?_
        refine topK (a := 1) (by decide) (fun k_25 hk_25 => ?_)
        refine tVv (b := a0) (As := [.int z_24, .int k_25]) (rest := []) F hK hN hO (c_X3_blame E dA dB rA rB rc (xB 400 T) ya yb yc yd ye yf rC rD wd1 wd2 wd3 wd4 ws1 ws2 ws3 ws4 wi1 wi2 wi3 wi4 ((.inl (n, n))) ((.inl (g_2, g_2))) wd rr f g_2 1 a0 z_24 k_25 ha0 (wkb ez_24 rfl rfl) (wkb (eqb hk_25) rfl rfl) (by omega) (by omega) (by omega)) mv_X3_blame wd_12_11 ⟨Nat.le_of_ble_eq_true rfl, Nat.le_of_ble_eq_true rfl⟩ ⟨Nat.le_of_ble_eq_true rfl, Nat.le_of_ble_eq_true rfl⟩ hH hS (tRecv hK hH (tyb ha0 (all1 rfl)) clX3) rfl hl.1 (Nat.le_of_ble_eq_true rfl) dX3_readBetween_44 (fun H locs hq hS => ?_)
        obtain ⟨g_27, hg_27, hH⟩ := hq
        have hH : TH E (tbC dA dB rA rB rc (rdD (.inl (g_2, g_2)) (.inl (n, n)) (.inl (g_27, g_27)) wd rr) (xB 400 T) ya yb yc yd ye yf rC rD wd1 wd2 wd3 wd4 ws1 ws2 ws3 ws4 wi1 wi2 wi3 wi4) H := hH
        refine lv_iconst (v := 0) F.1 F.2.1 dX3_readBetween_47 (by decide) ?_
        refine topK (a := 0) (by decide) (fun k_28 hk_28 => ?_)
        exact txI F hS dX3_readBetween_48 (nar01 (wkb (eqb hk_28) rfl rfl)) (⟨g_2, ⟨by omega, by omega, (bet_k (p2 := g_2) (f2 := g_27) (v := k_28.toInt) (f := f) hg_2.2.2 (by omega)).1⟩, g_27, ⟨by omega, by omega, (bet_k (p2 := g_2) (f2 := g_27) (v := k_28.toInt) (f := f) hg_2.2.2 (by omega)).2.1⟩, (wkb (eqb hk_28) rfl rfl), (bet_k (p2 := g_2) (f2 := g_27) (v := k_28.toInt) (f := f) hg_2.2.2 (by omega)).2.2, hH⟩)
    · skip
      refine lv_iconst (v := 0) F.1 F.2.1 dX3_readBetween_22 (by decide) ?_
      refine topK (a := 0) (by decide) (fun k_29 hk_29 => ?_)
      exact txI F hS dX3_readBetween_23 (nar01 (wkb (eqb hk_29) rfl rfl)) (⟨g_2, ⟨by omega, by omega, (bet_k (p2 := g_2) (f2 := f) (v := k_29.toInt) (f := f) hg_2.2.2 (by omega)).1⟩, f, ⟨by omega, by omega, (bet_k (p2 := g_2) (f2 := f) (v := k_29.toInt) (f := f) hg_2.2.2 (by omega)).2.1⟩, (wkb (eqb hk_29) rfl rfl), (bet_k (p2 := g_2) (f2 := f) (v := k_29.toInt) (f := f) hg_2.2.2 (by omega)).2.2, hH⟩)
set_option maxHeartbeats 4000000 in
set_option maxRecDepth 100000 in
theorem c_X2_clear_1 (E : Ev) (dA : TD) (dB : TD) (rB : TD) (rc : TD) (rd : TD) (tp : TD) (ya : TD) (yb : TD) (yc : TD) (yd : TD) (ye : TD) (yf : TD) (rC : TD) (rD : TD) (wd1 : TD) (wd2 : TD) (wd3 : TD) (wd4 : TD) (ws1 : TD) (ws2 : TD) (ws3 : TD) (ws4 : TD) (wi1 : TD) (wi2 : TD) (wi3 : TD) (wi4 : TD) (Fa1 : Int × Int) (Fb1 : Int × Int) (a0 : Nat) (ha0 : eT E a0 ∈ [26]) (hFa1 : 0 ≤ Fa1.1 ∧ Fa1.2 ≤ 12) (hFb1 : 0 ≤ Fb1.1 ∧ Fb1.2 ≤ 14) : TcV E yX2_clear cX2_clear 1 ({ frames := 1, cells := 0, slots := 0, locals := 40 }) [.ref a0] (fun H => TH E (tbC dA dB (riverD (.inl Fa1) (.inl Fb1) (.inl (0, 4)) 31 33 35 39 43 47) rB rc rd tp ya yb yc yd ye yf rC rD wd1 wd2 wd3 wd4 ws1 ws2 ws3 ws4 wi1 wi2 wi3 wi4) H) (fun H => TH E (tbC dA dB (riverD (.inl (0, 0)) (.inl (0, 0)) (.inl (0, 0)) 31 33 35 39 43 47) rB rc rd tp ya yb yc yd ye yf rC rD wd1 wd2 wd3 wd4 ws1 ws2 ws3 ws4 wi1 wi2 wi3 wi4) H) := by
  refine teV (by decide) (Nat.le_of_ble_eq_true rfl) ?_
  intro p_ ev_ s mi_ below_ meth cd_ ls F hK hN hO hH hS hl
  have hH : TH E (tbC dA dB (riverD (.inl Fa1) (.inl Fb1) (.inl (0, 4)) 31 33 35 39 43 47) rB rc rd tp ya yb yc yd ye yf rC rD wd1 wd2 wd3 wd4 ws1 ws2 ws3 ws4 wi1 wi2 wi3 wi4) s.heap := hH
  have hl : lv_has ls 1 [(0, .ref a0)] := hl
  refine lv_aload_n F.1 F.2.1 dX2_clear_0 rfl (lv_at hl 0 rfl) ?_
  refine lv_iconst (v := 0) F.1 F.2.1 dX2_clear_1 (by decide) ?_
  refine topK (a := 0) (by decide) (fun k_1 hk_1 => ?_)
  refine tPutG (j := 0) (t := 26) (fd := (.inl (0, 0))) F hK hH hS (List.mem_singleton.mp ha0) (by decide) rfl rfl (fdI (by omega)) (TB1 := (tbC dA dB (riverD (.inl (0, 0)) (.inl Fb1) (.inl (0, 4)) 31 33 35 39 43 47) rB rc rd tp ya yb yc yd ye yf rC rD wd1 wd2 wd3 wd4 ws1 ws2 ws3 ws4 wi1 wi2 wi3 wi4)) rfl clX2 (by decide) wd_9_11 rfl rfl rfl rfl dX2_clear_2 (fun H locs hH hS => ?_)
  refine lv_aload_n F.1 F.2.1 dX2_clear_5 rfl (lv_at hl 0 rfl) ?_
  refine lv_iconst (v := 0) F.1 F.2.1 dX2_clear_6 (by decide) ?_
  refine topK (a := 0) (by decide) (fun k_2 hk_2 => ?_)
  refine tPutG (j := 4) (t := 26) (fd := (.inl (0, 0))) F hK hH hS (List.mem_singleton.mp ha0) (by decide) rfl rfl (fdI (by omega)) (TB1 := (tbC dA dB (riverD (.inl (0, 0)) (.inl (0, 0)) (.inl (0, 4)) 31 33 35 39 43 47) rB rc rd tp ya yb yc yd ye yf rC rD wd1 wd2 wd3 wd4 ws1 ws2 ws3 ws4 wi1 wi2 wi3 wi4)) rfl clX2 (by decide) wd_9_12 rfl rfl rfl rfl dX2_clear_7 (fun H locs hH hS => ?_)
  refine lv_aload_n F.1 F.2.1 dX2_clear_10 rfl (lv_at hl 0 rfl) ?_
  refine lv_iconst (v := 0) F.1 F.2.1 dX2_clear_11 (by decide) ?_
  refine topK (a := 0) (by decide) (fun k_3 hk_3 => ?_)
  refine tPutG (j := 14) (t := 26) (fd := (.inl (0, 0))) F hK hH hS (List.mem_singleton.mp ha0) (by decide) rfl rfl (fdI (by omega)) (TB1 := (tbC dA dB (riverD (.inl (0, 0)) (.inl (0, 0)) (.inl (0, 0)) 31 33 35 39 43 47) rB rc rd tp ya yb yc yd ye yf rC rD wd1 wd2 wd3 wd4 ws1 ws2 ws3 ws4 wi1 wi2 wi3 wi4)) rfl clX2 (by decide) wd_9_13 rfl rfl rfl rfl dX2_clear_12 (fun H locs hH hS => ?_)
  refine lv_aload_n F.1 F.2.1 dX2_clear_15 rfl (lv_at hl 0 rfl) ?_
  refine lv_bipush (v := 100) F.1 F.2.1 dX2_clear_16 (by decide) ?_
  refine topK (a := 100) (by decide) (fun k_4 hk_4 => ?_)
  refine tPut (j := 19) F hK hH hS (tyb ha0 (all1 rfl)) rfl (fdI (wkb (eqb hk_4) rfl rfl)) clX2 (by decide) wd_3_15 rfl rfl rfl rfl dX2_clear_18 (fun H locs hH hS => ?_)
  exact txV F hS dX2_clear_21 (hH)
set_option maxHeartbeats 4000000 in
set_option maxRecDepth 100000 in
theorem c_X2_clear_2 (E : Ev) (dA : TD) (dB : TD) (rA : TD) (rc : TD) (rd : TD) (tp : TD) (ya : TD) (yb : TD) (yc : TD) (yd : TD) (ye : TD) (yf : TD) (rC : TD) (rD : TD) (wd1 : TD) (wd2 : TD) (wd3 : TD) (wd4 : TD) (ws1 : TD) (ws2 : TD) (ws3 : TD) (ws4 : TD) (wi1 : TD) (wi2 : TD) (wi3 : TD) (wi4 : TD) (Fa2 : Int × Int) (Fb2 : Int × Int) (a0 : Nat) (ha0 : eT E a0 ∈ [27]) (hFa2 : 0 ≤ Fa2.1 ∧ Fa2.2 ≤ 12) (hFb2 : 0 ≤ Fb2.1 ∧ Fb2.2 ≤ 14) : TcV E yX2_clear cX2_clear 1 ({ frames := 1, cells := 0, slots := 0, locals := 40 }) [.ref a0] (fun H => TH E (tbC dA dB rA (riverD (.inl Fa2) (.inl Fb2) (.inl (0, 4)) 32 34 36 40 44 48) rc rd tp ya yb yc yd ye yf rC rD wd1 wd2 wd3 wd4 ws1 ws2 ws3 ws4 wi1 wi2 wi3 wi4) H) (fun H => TH E (tbC dA dB rA (riverD (.inl (0, 0)) (.inl (0, 0)) (.inl (0, 0)) 32 34 36 40 44 48) rc rd tp ya yb yc yd ye yf rC rD wd1 wd2 wd3 wd4 ws1 ws2 ws3 ws4 wi1 wi2 wi3 wi4) H) := by
  refine teV (by decide) (Nat.le_of_ble_eq_true rfl) ?_
  intro p_ ev_ s mi_ below_ meth cd_ ls F hK hN hO hH hS hl
  have hH : TH E (tbC dA dB rA (riverD (.inl Fa2) (.inl Fb2) (.inl (0, 4)) 32 34 36 40 44 48) rc rd tp ya yb yc yd ye yf rC rD wd1 wd2 wd3 wd4 ws1 ws2 ws3 ws4 wi1 wi2 wi3 wi4) s.heap := hH
  have hl : lv_has ls 1 [(0, .ref a0)] := hl
  refine lv_aload_n F.1 F.2.1 dX2_clear_0 rfl (lv_at hl 0 rfl) ?_
  refine lv_iconst (v := 0) F.1 F.2.1 dX2_clear_1 (by decide) ?_
  refine topK (a := 0) (by decide) (fun k_1 hk_1 => ?_)
  refine tPutG (j := 0) (t := 27) (fd := (.inl (0, 0))) F hK hH hS (List.mem_singleton.mp ha0) (by decide) rfl rfl (fdI (by omega)) (TB1 := (tbC dA dB rA (riverD (.inl (0, 0)) (.inl Fb2) (.inl (0, 4)) 32 34 36 40 44 48) rc rd tp ya yb yc yd ye yf rC rD wd1 wd2 wd3 wd4 ws1 ws2 ws3 ws4 wi1 wi2 wi3 wi4)) rfl clX2 (by decide) wd_9_11 rfl rfl rfl rfl dX2_clear_2 (fun H locs hH hS => ?_)
  refine lv_aload_n F.1 F.2.1 dX2_clear_5 rfl (lv_at hl 0 rfl) ?_
  refine lv_iconst (v := 0) F.1 F.2.1 dX2_clear_6 (by decide) ?_
  refine topK (a := 0) (by decide) (fun k_2 hk_2 => ?_)
  refine tPutG (j := 4) (t := 27) (fd := (.inl (0, 0))) F hK hH hS (List.mem_singleton.mp ha0) (by decide) rfl rfl (fdI (by omega)) (TB1 := (tbC dA dB rA (riverD (.inl (0, 0)) (.inl (0, 0)) (.inl (0, 4)) 32 34 36 40 44 48) rc rd tp ya yb yc yd ye yf rC rD wd1 wd2 wd3 wd4 ws1 ws2 ws3 ws4 wi1 wi2 wi3 wi4)) rfl clX2 (by decide) wd_9_12 rfl rfl rfl rfl dX2_clear_7 (fun H locs hH hS => ?_)
  refine lv_aload_n F.1 F.2.1 dX2_clear_10 rfl (lv_at hl 0 rfl) ?_
  refine lv_iconst (v := 0) F.1 F.2.1 dX2_clear_11 (by decide) ?_
  refine topK (a := 0) (by decide) (fun k_3 hk_3 => ?_)
  refine tPutG (j := 14) (t := 27) (fd := (.inl (0, 0))) F hK hH hS (List.mem_singleton.mp ha0) (by decide) rfl rfl (fdI (by omega)) (TB1 := (tbC dA dB rA (riverD (.inl (0, 0)) (.inl (0, 0)) (.inl (0, 0)) 32 34 36 40 44 48) rc rd tp ya yb yc yd ye yf rC rD wd1 wd2 wd3 wd4 ws1 ws2 ws3 ws4 wi1 wi2 wi3 wi4)) rfl clX2 (by decide) wd_9_13 rfl rfl rfl rfl dX2_clear_12 (fun H locs hH hS => ?_)
  refine lv_aload_n F.1 F.2.1 dX2_clear_15 rfl (lv_at hl 0 rfl) ?_
  refine lv_bipush (v := 100) F.1 F.2.1 dX2_clear_16 (by decide) ?_
  refine topK (a := 100) (by decide) (fun k_4 hk_4 => ?_)
  refine tPut (j := 19) F hK hH hS (tyb ha0 (all1 rfl)) rfl (fdI (wkb (eqb hk_4) rfl rfl)) clX2 (by decide) wd_3_15 rfl rfl rfl rfl dX2_clear_18 (fun H locs hH hS => ?_)
  exact txV F hS dX2_clear_21 (hH)
set_option maxHeartbeats 4000000 in
set_option maxRecDepth 100000 in
theorem c_X2_hasAge_1 (E : Ev) (dA : TD) (dB : TD) (rB : TD) (rc : TD) (rd : TD) (tp : TD) (yb : TD) (yd : TD) (ye : TD) (yf : TD) (rC : TD) (rD : TD) (wd1 : TD) (wd2 : TD) (wd3 : TD) (wd4 : TD) (ws1 : TD) (ws2 : TD) (ws3 : TD) (ws4 : TD) (wi1 : TD) (wi2 : TD) (wi3 : TD) (wi4 : TD) (a : Int) (b : Int) (c : Int) (RA : Nat → Int32) (SA : Nat → Int32) (ag : Int) (a0 : Nat) (a1 : Int32) (ha0 : eT E a0 ∈ [26]) (ha : 0 ≤ a ∧ a ≤ 12) (hb : 0 ≤ b ∧ b ≤ 14) (hc : 0 ≤ c ∧ c ≤ 4) (hRA : ivP 14 (-2147483648) 2147483647 RA) (hSA : ivP 4 (-2147483648) 2147483647 SA) (hag : a1.toInt = ag) : TcI E yX2_hasAge cX2_hasAge 3 .boolean ({ frames := 1, cells := 0, slots := 0, locals := 40 }) [.ref a0, .int a1] (fun H => TH E (tbC dA dB (riverD (.inl (a, a)) (.inl (b, b)) (.inl (c, c)) 31 33 35 39 43 47) rB rc rd tp (xD 14 RA) yb (xD 4 SA) yd ye yf rC rD wd1 wd2 wd3 wd4 ws1 ws2 ws3 ws4 wi1 wi2 wi3 wi4) H) (fun v H => (0 ≤ v.toInt ∧ v.toInt ≤ 1) ∧ (v.toInt = jHas RA SA b c ag) ∧ TH E (tbC dA dB (riverD (.inl (a, a)) (.inl (b, b)) (.inl (c, c)) 31 33 35 39 43 47) rB rc rd tp (xD 14 RA) yb (xD 4 SA) yd ye yf rC rD wd1 wd2 wd3 wd4 ws1 ws2 ws3 ws4 wi1 wi2 wi3 wi4) H) := by
  refine teI (by decide) (Nat.le_of_ble_eq_true rfl) ?_
  intro p_ ev_ s mi_ below_ meth cd_ ls F hK hN hO hH hS hl
  have hH : TH E (tbC dA dB (riverD (.inl (a, a)) (.inl (b, b)) (.inl (c, c)) 31 33 35 39 43 47) rB rc rd tp (xD 14 RA) yb (xD 4 SA) yd ye yf rC rD wd1 wd2 wd3 wd4 ws1 ws2 ws3 ws4 wi1 wi2 wi3 wi4) s.heap := hH
  have hl : lv_has ls 3 [(0, .ref a0), (1, .int a1)] := hl
  refine lv_iconst (v := 0) F.1 F.2.1 dX2_hasAge_0 (by decide) ?_
  refine topK (a := 0) (by decide) (fun k_1 hk_1 => ?_)
  refine lv_istore_n (lv' := [(2, .int k_1), (0, .ref a0), (1, .int a1)]) F.1 F.2.1 dX2_hasAge_1 rfl hl (by decide) rfl (fun ls hl => ?_)
  refine wloop (σ := Int32) (fun n9 x9 H locs ls => (14 - x9.toInt + 1).toNat < n9 ∧ (0 ≤ x9.toInt ∧ x9.toInt ≤ 14) ∧ (rhas RA ag (x9.toInt).toNat = false) ∧ (x9.toInt ≤ b) ∧ TH E (tbC dA dB (riverD (.inl (a, a)) (.inl (b, b)) (.inl (c, c)) 31 33 35 39 43 47) rB rc rd tp (xD 14 RA) yb (xD 4 SA) yd ye yf rC rD wd1 wd2 wd3 wd4 ws1 ws2 ws3 ws4 wi1 wi2 wi3 wi4) H ∧ va_S (eA E s.heap.size) s.heap H locs ∧ lv_has ls 3 [(0, .ref a0), (1, .int a1), (2, .int x9)]) ?_ (fun x9 H locs ls h => absurd h.1 (Nat.not_lt_zero _)) _ (k_1) ⟨Nat.lt_succ_self _, (wkb (eqb hk_1) rfl rfl), (show rhas RA ag (k_1.toInt).toNat = false from (has_0 (by omega))), (show k_1.toInt ≤ b from by omega), hH, hS, lv_sub hl [1, 2, 0] rfl⟩
  intro n_2 ih_2 u_2 H locs ls ⟨hm_2, hu_2, hcr2_0, hcr2_1, hH, hS, hl⟩
  have hm_2 : (14 - u_2.toInt + 1).toNat < n_2 + 1 := hm_2
  have hu_2 : (0 ≤ u_2.toInt ∧ u_2.toInt ≤ 14) := hu_2
  have hcr2_0 : (rhas RA ag (u_2.toInt).toNat = false) := hcr2_0
  have hcr2_1 : (u_2.toInt ≤ b) := hcr2_1
  have hH : TH E (tbC dA dB (riverD (.inl (a, a)) (.inl (b, b)) (.inl (c, c)) 31 33 35 39 43 47) rB rc rd tp (xD 14 RA) yb (xD 4 SA) yd ye yf rC rD wd1 wd2 wd3 wd4 ws1 ws2 ws3 ws4 wi1 wi2 wi3 wi4) H := hH
  have hl : lv_has ls 3 [(0, .ref a0), (1, .int a1), (2, .int u_2)] := hl
  refine lv_iload_n F.1 F.2.1 dX2_hasAge_2 rfl (lv_at hl 2 rfl) ?_
  refine lv_aload_n F.1 F.2.1 dX2_hasAge_3 rfl (lv_at hl 0 rfl) ?_
  refine tGetI (j := 4) F hK hH (tyb ha0 (all1 rfl)) rfl clX2 (by decide) wd_9_12 dX2_hasAge_4 (fun z_3 hz_3 => ?_)
  have ez_3 : 0 ≤ z_3.toInt ∧ z_3.toInt ≤ 14 := by omega
  refine b_ge (tgt := 28) F dX2_hasAge_7 (by decide) (fun c_4 => ?_) (fun c_4 => ?_)
  · skip
    refine lv_iconst (v := 0) F.1 F.2.1 dX2_hasAge_28 (by decide) ?_
    refine topK (a := 0) (by decide) (fun k_7 hk_7 => ?_)
    refine lv_istore_n (lv' := [(2, .int k_7), (0, .ref a0), (1, .int a1)]) F.1 F.2.1 dX2_hasAge_29 rfl hl (by decide) rfl (fun ls hl => ?_)
    refine wloop (σ := Int32) (fun n9 x9 H locs ls => (4 - x9.toInt + 1).toNat < n9 ∧ (0 ≤ x9.toInt ∧ x9.toInt ≤ 4) ∧ (rhas RA ag b.toNat = false) ∧ (rhas SA ag (x9.toInt).toNat = false) ∧ (x9.toInt ≤ c) ∧ TH E (tbC dA dB (riverD (.inl (a, a)) (.inl (b, b)) (.inl (c, c)) 31 33 35 39 43 47) rB rc rd tp (xD 14 RA) yb (xD 4 SA) yd ye yf rC rD wd1 wd2 wd3 wd4 ws1 ws2 ws3 ws4 wi1 wi2 wi3 wi4) H ∧ va_S (eA E s.heap.size) s.heap H locs ∧ lv_has ls 3 [(0, .ref a0), (1, .int a1), (2, .int x9)]) ?_ (fun x9 H locs ls h => absurd h.1 (Nat.not_lt_zero _)) _ (k_7) ⟨Nat.lt_succ_self _, (wkb (eqb hk_7) rfl rfl), (show rhas RA ag b.toNat = false from (has_to hcr2_0 (by omega))), (show rhas SA ag (k_7.toInt).toNat = false from (has_0 (by omega))), (show k_7.toInt ≤ c from by omega), hH, hS, lv_sub hl [1, 2, 0] rfl⟩
    intro n_30 ih_30 u_8 H locs ls ⟨hm_30, hu_8, hcr30_0, hcr30_1, hcr30_2, hH, hS, hl⟩
    have hm_30 : (4 - u_8.toInt + 1).toNat < n_30 + 1 := hm_30
    have hu_8 : (0 ≤ u_8.toInt ∧ u_8.toInt ≤ 4) := hu_8
    have hcr30_0 : (rhas RA ag b.toNat = false) := hcr30_0
    have hcr30_1 : (rhas SA ag (u_8.toInt).toNat = false) := hcr30_1
    have hcr30_2 : (u_8.toInt ≤ c) := hcr30_2
    have hH : TH E (tbC dA dB (riverD (.inl (a, a)) (.inl (b, b)) (.inl (c, c)) 31 33 35 39 43 47) rB rc rd tp (xD 14 RA) yb (xD 4 SA) yd ye yf rC rD wd1 wd2 wd3 wd4 ws1 ws2 ws3 ws4 wi1 wi2 wi3 wi4) H := hH
    have hl : lv_has ls 3 [(0, .ref a0), (1, .int a1), (2, .int u_8)] := hl
    refine lv_iload_n F.1 F.2.1 dX2_hasAge_30 rfl (lv_at hl 2 rfl) ?_
    refine lv_aload_n F.1 F.2.1 dX2_hasAge_31 rfl (lv_at hl 0 rfl) ?_
    refine tGetI (j := 14) F hK hH (tyb ha0 (all1 rfl)) rfl clX2 (by decide) wd_9_13 dX2_hasAge_32 (fun z_9 hz_9 => ?_)
    have ez_9 : 0 ≤ z_9.toInt ∧ z_9.toInt ≤ 4 := by omega
    refine b_ge (tgt := 56) F dX2_hasAge_35 (by decide) (fun c_10 => ?_) (fun c_10 => ?_)
    · skip
      refine lv_iconst (v := 0) F.1 F.2.1 dX2_hasAge_56 (by decide) ?_
      refine topK (a := 0) (by decide) (fun k_13 hk_13 => ?_)
      exact txI F hS dX2_hasAge_57 (nar01 (wkb (eqb hk_13) rfl rfl)) (⟨(wkb (eqb hk_13) rfl rfl), (has_n hcr30_0 rfl hcr30_1 (by omega) (by omega)), hH⟩)
    · skip
      have r_11 : 0 ≤ u_8.toInt ∧ u_8.toInt ≤ 3 := by have h9_ := hu_8; omega
      have r_12 : 1 ≤ z_9.toInt ∧ z_9.toInt ≤ 4 := by have h9_ := ez_9; omega
      refine lv_aload_n F.1 F.2.1 dX2_hasAge_38 rfl (lv_at hl 0 rfl) ?_
      refine tGetR (j := 18) F hK hH (tyb ha0 (all1 rfl)) rfl (all1 rfl) clX2 (by decide) wd_3_14 dX2_hasAge_39 (fun q_14 hq_14 _ => ?_)
      refine lv_iload_n F.1 F.2.1 dX2_hasAge_42 rfl (lv_at hl 2 rfl) ?_
      refine tIaldX F hK hH (tyb hq_14 (all1 rfl)) (ixb (n := 4) r_11 rfl rfl) dX2_hasAge_43 (fun z_15 ez_15 => ?_)
      have gz_15 : z_15.toInt = gI SA (u_8.toInt.toNat) := by unfold gI; rw [ez_15]; rfl
      have hz_15 : (-2147483648) ≤ z_15.toInt ∧ z_15.toInt ≤ 2147483647 := (by have h9_ := hSA (u_8).toNatClampNeg (cl_lt (n := 4) (by omega)); rw [← ez_15] at h9_; exact h9_)
      refine lv_iload_n F.1 F.2.1 dX2_hasAge_44 rfl (lv_at hl 1 rfl) ?_
      refine b_ne (tgt := 50) F dX2_hasAge_45 (by decide) (fun c_16 => ?_) (fun c_16 => ?_)
      · skip
        obtain ⟨x_17, ex_17, hx_17⟩ := iincB (c := 1) (lo := 1) (hi := 4) r_11 rfl
        refine lv_iinc (v := x_17) (lv' := [(2, .int x_17), (0, .ref a0), (1, .int a1)]) F.1 F.2.1 dX2_hasAge_50 hl (k := 2) rfl ex_17 (by decide) rfl (fun ls hl => ?_)
        refine lv_goto (tgt := 30) F.1 F.2.1 dX2_hasAge_53 (by decide) ?_
        exact ih_30 (x_17) _ _ _ ⟨(show (4 - x_17.toInt + 1).toNat < n_30 from by omega), (wkb hx_17.2 rfl rfl), (show rhas RA ag b.toNat = false from hcr30_0), (show rhas SA ag (x_17.toInt).toNat = false from (has_step hcr30_1 (by omega) (by omega) rfl ez_15 (by omega))), (show x_17.toInt ≤ c from by omega), hH, hS, lv_sub hl [1, 2, 0] rfl⟩
      · skip
        refine lv_iconst (v := 1) F.1 F.2.1 dX2_hasAge_48 (by decide) ?_
        refine topK (a := 1) (by decide) (fun k_18 hk_18 => ?_)
        exact txI F hS dX2_hasAge_49 (nar01 (wkb (eqb hk_18) rfl rfl)) (⟨(wkb (eqb hk_18) rfl rfl), (has_y2 (has_at (by omega) (by omega) rfl ez_15 (by omega)) (by omega)), hH⟩)
  · skip
    have r_5 : 0 ≤ u_2.toInt ∧ u_2.toInt ≤ 13 := by have h9_ := hu_2; omega
    have r_6 : 1 ≤ z_3.toInt ∧ z_3.toInt ≤ 14 := by have h9_ := ez_3; omega
    refine lv_aload_n F.1 F.2.1 dX2_hasAge_10 rfl (lv_at hl 0 rfl) ?_
    refine tGetR (j := 9) F hK hH (tyb ha0 (all1 rfl)) rfl (all1 rfl) clX2 (by decide) wd_3_6 dX2_hasAge_11 (fun q_19 hq_19 _ => ?_)
    refine lv_iload_n F.1 F.2.1 dX2_hasAge_14 rfl (lv_at hl 2 rfl) ?_
    refine tIaldX F hK hH (tyb hq_19 (all1 rfl)) (ixb (n := 14) r_5 rfl rfl) dX2_hasAge_15 (fun z_20 ez_20 => ?_)
    have gz_20 : z_20.toInt = gI RA (u_2.toInt.toNat) := by unfold gI; rw [ez_20]; rfl
    have hz_20 : (-2147483648) ≤ z_20.toInt ∧ z_20.toInt ≤ 2147483647 := (by have h9_ := hRA (u_2).toNatClampNeg (cl_lt (n := 14) (by omega)); rw [← ez_20] at h9_; exact h9_)
    refine lv_iload_n F.1 F.2.1 dX2_hasAge_16 rfl (lv_at hl 1 rfl) ?_
    refine b_ne (tgt := 22) F dX2_hasAge_17 (by decide) (fun c_21 => ?_) (fun c_21 => ?_)
    · skip
      obtain ⟨x_22, ex_22, hx_22⟩ := iincB (c := 1) (lo := 1) (hi := 14) r_5 rfl
      refine lv_iinc (v := x_22) (lv' := [(2, .int x_22), (0, .ref a0), (1, .int a1)]) F.1 F.2.1 dX2_hasAge_22 hl (k := 2) rfl ex_22 (by decide) rfl (fun ls hl => ?_)
      refine lv_goto (tgt := 2) F.1 F.2.1 dX2_hasAge_25 (by decide) ?_
      exact ih_2 (x_22) _ _ _ ⟨(show (14 - x_22.toInt + 1).toNat < n_2 from by omega), (wkb hx_22.2 rfl rfl), (show rhas RA ag (x_22.toInt).toNat = false from (has_step hcr2_0 (by omega) (by omega) rfl ez_20 (by omega))), (show x_22.toInt ≤ b from by omega), hH, hS, lv_sub hl [1, 2, 0] rfl⟩
    · skip
      refine lv_iconst (v := 1) F.1 F.2.1 dX2_hasAge_20 (by decide) ?_
      refine topK (a := 1) (by decide) (fun k_23 hk_23 => ?_)
      exact txI F hS dX2_hasAge_21 (nar01 (wkb (eqb hk_23) rfl rfl)) (⟨(wkb (eqb hk_23) rfl rfl), (has_y1 (has_at (by omega) (by omega) rfl ez_20 (by omega)) (by omega)), hH⟩)
set_option maxHeartbeats 4000000 in
set_option maxRecDepth 100000 in
theorem c_X2_hasAge_2 (E : Ev) (dA : TD) (dB : TD) (rA : TD) (rc : TD) (rd : TD) (tp : TD) (ya : TD) (yc : TD) (ye : TD) (yf : TD) (rC : TD) (rD : TD) (wd1 : TD) (wd2 : TD) (wd3 : TD) (wd4 : TD) (ws1 : TD) (ws2 : TD) (ws3 : TD) (ws4 : TD) (wi1 : TD) (wi2 : TD) (wi3 : TD) (wi4 : TD) (a : Int) (b : Int) (c : Int) (RA : Nat → Int32) (SA : Nat → Int32) (ag : Int) (a0 : Nat) (a1 : Int32) (ha0 : eT E a0 ∈ [27]) (ha : 0 ≤ a ∧ a ≤ 12) (hb : 0 ≤ b ∧ b ≤ 14) (hc : 0 ≤ c ∧ c ≤ 4) (hRA : ivP 14 (-2147483648) 2147483647 RA) (hSA : ivP 4 (-2147483648) 2147483647 SA) (hag : a1.toInt = ag) : TcI E yX2_hasAge cX2_hasAge 3 .boolean ({ frames := 1, cells := 0, slots := 0, locals := 40 }) [.ref a0, .int a1] (fun H => TH E (tbC dA dB rA (riverD (.inl (a, a)) (.inl (b, b)) (.inl (c, c)) 32 34 36 40 44 48) rc rd tp ya (xD 14 RA) yc (xD 4 SA) ye yf rC rD wd1 wd2 wd3 wd4 ws1 ws2 ws3 ws4 wi1 wi2 wi3 wi4) H) (fun v H => (0 ≤ v.toInt ∧ v.toInt ≤ 1) ∧ (v.toInt = jHas RA SA b c ag) ∧ TH E (tbC dA dB rA (riverD (.inl (a, a)) (.inl (b, b)) (.inl (c, c)) 32 34 36 40 44 48) rc rd tp ya (xD 14 RA) yc (xD 4 SA) ye yf rC rD wd1 wd2 wd3 wd4 ws1 ws2 ws3 ws4 wi1 wi2 wi3 wi4) H) := by
  refine teI (by decide) (Nat.le_of_ble_eq_true rfl) ?_
  intro p_ ev_ s mi_ below_ meth cd_ ls F hK hN hO hH hS hl
  have hH : TH E (tbC dA dB rA (riverD (.inl (a, a)) (.inl (b, b)) (.inl (c, c)) 32 34 36 40 44 48) rc rd tp ya (xD 14 RA) yc (xD 4 SA) ye yf rC rD wd1 wd2 wd3 wd4 ws1 ws2 ws3 ws4 wi1 wi2 wi3 wi4) s.heap := hH
  have hl : lv_has ls 3 [(0, .ref a0), (1, .int a1)] := hl
  refine lv_iconst (v := 0) F.1 F.2.1 dX2_hasAge_0 (by decide) ?_
  refine topK (a := 0) (by decide) (fun k_1 hk_1 => ?_)
  refine lv_istore_n (lv' := [(2, .int k_1), (0, .ref a0), (1, .int a1)]) F.1 F.2.1 dX2_hasAge_1 rfl hl (by decide) rfl (fun ls hl => ?_)
  refine wloop (σ := Int32) (fun n9 x9 H locs ls => (14 - x9.toInt + 1).toNat < n9 ∧ (0 ≤ x9.toInt ∧ x9.toInt ≤ 14) ∧ (rhas RA ag (x9.toInt).toNat = false) ∧ (x9.toInt ≤ b) ∧ TH E (tbC dA dB rA (riverD (.inl (a, a)) (.inl (b, b)) (.inl (c, c)) 32 34 36 40 44 48) rc rd tp ya (xD 14 RA) yc (xD 4 SA) ye yf rC rD wd1 wd2 wd3 wd4 ws1 ws2 ws3 ws4 wi1 wi2 wi3 wi4) H ∧ va_S (eA E s.heap.size) s.heap H locs ∧ lv_has ls 3 [(0, .ref a0), (1, .int a1), (2, .int x9)]) ?_ (fun x9 H locs ls h => absurd h.1 (Nat.not_lt_zero _)) _ (k_1) ⟨Nat.lt_succ_self _, (wkb (eqb hk_1) rfl rfl), (show rhas RA ag (k_1.toInt).toNat = false from (has_0 (by omega))), (show k_1.toInt ≤ b from by omega), hH, hS, lv_sub hl [1, 2, 0] rfl⟩
  intro n_2 ih_2 u_2 H locs ls ⟨hm_2, hu_2, hcr2_0, hcr2_1, hH, hS, hl⟩
  have hm_2 : (14 - u_2.toInt + 1).toNat < n_2 + 1 := hm_2
  have hu_2 : (0 ≤ u_2.toInt ∧ u_2.toInt ≤ 14) := hu_2
  have hcr2_0 : (rhas RA ag (u_2.toInt).toNat = false) := hcr2_0
  have hcr2_1 : (u_2.toInt ≤ b) := hcr2_1
  have hH : TH E (tbC dA dB rA (riverD (.inl (a, a)) (.inl (b, b)) (.inl (c, c)) 32 34 36 40 44 48) rc rd tp ya (xD 14 RA) yc (xD 4 SA) ye yf rC rD wd1 wd2 wd3 wd4 ws1 ws2 ws3 ws4 wi1 wi2 wi3 wi4) H := hH
  have hl : lv_has ls 3 [(0, .ref a0), (1, .int a1), (2, .int u_2)] := hl
  refine lv_iload_n F.1 F.2.1 dX2_hasAge_2 rfl (lv_at hl 2 rfl) ?_
  refine lv_aload_n F.1 F.2.1 dX2_hasAge_3 rfl (lv_at hl 0 rfl) ?_
  refine tGetI (j := 4) F hK hH (tyb ha0 (all1 rfl)) rfl clX2 (by decide) wd_9_12 dX2_hasAge_4 (fun z_3 hz_3 => ?_)
  have ez_3 : 0 ≤ z_3.toInt ∧ z_3.toInt ≤ 14 := by omega
  refine b_ge (tgt := 28) F dX2_hasAge_7 (by decide) (fun c_4 => ?_) (fun c_4 => ?_)
  · skip
    refine lv_iconst (v := 0) F.1 F.2.1 dX2_hasAge_28 (by decide) ?_
    refine topK (a := 0) (by decide) (fun k_7 hk_7 => ?_)
    refine lv_istore_n (lv' := [(2, .int k_7), (0, .ref a0), (1, .int a1)]) F.1 F.2.1 dX2_hasAge_29 rfl hl (by decide) rfl (fun ls hl => ?_)
    refine wloop (σ := Int32) (fun n9 x9 H locs ls => (4 - x9.toInt + 1).toNat < n9 ∧ (0 ≤ x9.toInt ∧ x9.toInt ≤ 4) ∧ (rhas RA ag b.toNat = false) ∧ (rhas SA ag (x9.toInt).toNat = false) ∧ (x9.toInt ≤ c) ∧ TH E (tbC dA dB rA (riverD (.inl (a, a)) (.inl (b, b)) (.inl (c, c)) 32 34 36 40 44 48) rc rd tp ya (xD 14 RA) yc (xD 4 SA) ye yf rC rD wd1 wd2 wd3 wd4 ws1 ws2 ws3 ws4 wi1 wi2 wi3 wi4) H ∧ va_S (eA E s.heap.size) s.heap H locs ∧ lv_has ls 3 [(0, .ref a0), (1, .int a1), (2, .int x9)]) ?_ (fun x9 H locs ls h => absurd h.1 (Nat.not_lt_zero _)) _ (k_7) ⟨Nat.lt_succ_self _, (wkb (eqb hk_7) rfl rfl), (show rhas RA ag b.toNat = false from (has_to hcr2_0 (by omega))), (show rhas SA ag (k_7.toInt).toNat = false from (has_0 (by omega))), (show k_7.toInt ≤ c from by omega), hH, hS, lv_sub hl [1, 2, 0] rfl⟩
    intro n_30 ih_30 u_8 H locs ls ⟨hm_30, hu_8, hcr30_0, hcr30_1, hcr30_2, hH, hS, hl⟩
    have hm_30 : (4 - u_8.toInt + 1).toNat < n_30 + 1 := hm_30
    have hu_8 : (0 ≤ u_8.toInt ∧ u_8.toInt ≤ 4) := hu_8
    have hcr30_0 : (rhas RA ag b.toNat = false) := hcr30_0
    have hcr30_1 : (rhas SA ag (u_8.toInt).toNat = false) := hcr30_1
    have hcr30_2 : (u_8.toInt ≤ c) := hcr30_2
    have hH : TH E (tbC dA dB rA (riverD (.inl (a, a)) (.inl (b, b)) (.inl (c, c)) 32 34 36 40 44 48) rc rd tp ya (xD 14 RA) yc (xD 4 SA) ye yf rC rD wd1 wd2 wd3 wd4 ws1 ws2 ws3 ws4 wi1 wi2 wi3 wi4) H := hH
    have hl : lv_has ls 3 [(0, .ref a0), (1, .int a1), (2, .int u_8)] := hl
    refine lv_iload_n F.1 F.2.1 dX2_hasAge_30 rfl (lv_at hl 2 rfl) ?_
    refine lv_aload_n F.1 F.2.1 dX2_hasAge_31 rfl (lv_at hl 0 rfl) ?_
    refine tGetI (j := 14) F hK hH (tyb ha0 (all1 rfl)) rfl clX2 (by decide) wd_9_13 dX2_hasAge_32 (fun z_9 hz_9 => ?_)
    have ez_9 : 0 ≤ z_9.toInt ∧ z_9.toInt ≤ 4 := by omega
    refine b_ge (tgt := 56) F dX2_hasAge_35 (by decide) (fun c_10 => ?_) (fun c_10 => ?_)
    · skip
      refine lv_iconst (v := 0) F.1 F.2.1 dX2_hasAge_56 (by decide) ?_
      refine topK (a := 0) (by decide) (fun k_13 hk_13 => ?_)
      exact txI F hS dX2_hasAge_57 (nar01 (wkb (eqb hk_13) rfl rfl)) (⟨(wkb (eqb hk_13) rfl rfl), (has_n hcr30_0 rfl hcr30_1 (by omega) (by omega)), hH⟩)
    · skip
      have r_11 : 0 ≤ u_8.toInt ∧ u_8.toInt ≤ 3 := by have h9_ := hu_8; omega
      have r_12 : 1 ≤ z_9.toInt ∧ z_9.toInt ≤ 4 := by have h9_ := ez_9; omega
      refine lv_aload_n F.1 F.2.1 dX2_hasAge_38 rfl (lv_at hl 0 rfl) ?_
      refine tGetR (j := 18) F hK hH (tyb ha0 (all1 rfl)) rfl (all1 rfl) clX2 (by decide) wd_3_14 dX2_hasAge_39 (fun q_14 hq_14 _ => ?_)
      refine lv_iload_n F.1 F.2.1 dX2_hasAge_42 rfl (lv_at hl 2 rfl) ?_
      refine tIaldX F hK hH (tyb hq_14 (all1 rfl)) (ixb (n := 4) r_11 rfl rfl) dX2_hasAge_43 (fun z_15 ez_15 => ?_)
      have gz_15 : z_15.toInt = gI SA (u_8.toInt.toNat) := by unfold gI; rw [ez_15]; rfl
      have hz_15 : (-2147483648) ≤ z_15.toInt ∧ z_15.toInt ≤ 2147483647 := (by have h9_ := hSA (u_8).toNatClampNeg (cl_lt (n := 4) (by omega)); rw [← ez_15] at h9_; exact h9_)
      refine lv_iload_n F.1 F.2.1 dX2_hasAge_44 rfl (lv_at hl 1 rfl) ?_
      refine b_ne (tgt := 50) F dX2_hasAge_45 (by decide) (fun c_16 => ?_) (fun c_16 => ?_)
      · skip
        obtain ⟨x_17, ex_17, hx_17⟩ := iincB (c := 1) (lo := 1) (hi := 4) r_11 rfl
        refine lv_iinc (v := x_17) (lv' := [(2, .int x_17), (0, .ref a0), (1, .int a1)]) F.1 F.2.1 dX2_hasAge_50 hl (k := 2) rfl ex_17 (by decide) rfl (fun ls hl => ?_)
        refine lv_goto (tgt := 30) F.1 F.2.1 dX2_hasAge_53 (by decide) ?_
        exact ih_30 (x_17) _ _ _ ⟨(show (4 - x_17.toInt + 1).toNat < n_30 from by omega), (wkb hx_17.2 rfl rfl), (show rhas RA ag b.toNat = false from hcr30_0), (show rhas SA ag (x_17.toInt).toNat = false from (has_step hcr30_1 (by omega) (by omega) rfl ez_15 (by omega))), (show x_17.toInt ≤ c from by omega), hH, hS, lv_sub hl [1, 2, 0] rfl⟩
      · skip
        refine lv_iconst (v := 1) F.1 F.2.1 dX2_hasAge_48 (by decide) ?_
        refine topK (a := 1) (by decide) (fun k_18 hk_18 => ?_)
        exact txI F hS dX2_hasAge_49 (nar01 (wkb (eqb hk_18) rfl rfl)) (⟨(wkb (eqb hk_18) rfl rfl), (has_y2 (has_at (by omega) (by omega) rfl ez_15 (by omega)) (by omega)), hH⟩)
  · skip
    have r_5 : 0 ≤ u_2.toInt ∧ u_2.toInt ≤ 13 := by have h9_ := hu_2; omega
    have r_6 : 1 ≤ z_3.toInt ∧ z_3.toInt ≤ 14 := by have h9_ := ez_3; omega
    refine lv_aload_n F.1 F.2.1 dX2_hasAge_10 rfl (lv_at hl 0 rfl) ?_
    refine tGetR (j := 9) F hK hH (tyb ha0 (all1 rfl)) rfl (all1 rfl) clX2 (by decide) wd_3_6 dX2_hasAge_11 (fun q_19 hq_19 _ => ?_)
    refine lv_iload_n F.1 F.2.1 dX2_hasAge_14 rfl (lv_at hl 2 rfl) ?_
    refine tIaldX F hK hH (tyb hq_19 (all1 rfl)) (ixb (n := 14) r_5 rfl rfl) dX2_hasAge_15 (fun z_20 ez_20 => ?_)
    have gz_20 : z_20.toInt = gI RA (u_2.toInt.toNat) := by unfold gI; rw [ez_20]; rfl
    have hz_20 : (-2147483648) ≤ z_20.toInt ∧ z_20.toInt ≤ 2147483647 := (by have h9_ := hRA (u_2).toNatClampNeg (cl_lt (n := 14) (by omega)); rw [← ez_20] at h9_; exact h9_)
    refine lv_iload_n F.1 F.2.1 dX2_hasAge_16 rfl (lv_at hl 1 rfl) ?_
    refine b_ne (tgt := 22) F dX2_hasAge_17 (by decide) (fun c_21 => ?_) (fun c_21 => ?_)
    · skip
      obtain ⟨x_22, ex_22, hx_22⟩ := iincB (c := 1) (lo := 1) (hi := 14) r_5 rfl
      refine lv_iinc (v := x_22) (lv' := [(2, .int x_22), (0, .ref a0), (1, .int a1)]) F.1 F.2.1 dX2_hasAge_22 hl (k := 2) rfl ex_22 (by decide) rfl (fun ls hl => ?_)
      refine lv_goto (tgt := 2) F.1 F.2.1 dX2_hasAge_25 (by decide) ?_
      exact ih_2 (x_22) _ _ _ ⟨(show (14 - x_22.toInt + 1).toNat < n_2 from by omega), (wkb hx_22.2 rfl rfl), (show rhas RA ag (x_22.toInt).toNat = false from (has_step hcr2_0 (by omega) (by omega) rfl ez_20 (by omega))), (show x_22.toInt ≤ b from by omega), hH, hS, lv_sub hl [1, 2, 0] rfl⟩
    · skip
      refine lv_iconst (v := 1) F.1 F.2.1 dX2_hasAge_20 (by decide) ?_
      refine topK (a := 1) (by decide) (fun k_23 hk_23 => ?_)
      exact txI F hS dX2_hasAge_21 (nar01 (wkb (eqb hk_23) rfl rfl)) (⟨(wkb (eqb hk_23) rfl rfl), (has_y1 (has_at (by omega) (by omega) rfl ez_20 (by omega)) (by omega)), hH⟩)
set_option maxHeartbeats 4000000 in
set_option maxRecDepth 100000 in
theorem c_X3_readReachNumber_1 (E : Ev) (dA : TD) (dB : TD) (rB : TD) (rc : TD) (yb : TD) (yd : TD) (ye : TD) (yf : TD) (rC : TD) (rD : TD) (wd1 : TD) (wd2 : TD) (wd3 : TD) (wd4 : TD) (ws1 : TD) (ws2 : TD) (ws3 : TD) (ws4 : TD) (wi1 : TD) (wi2 : TD) (wi3 : TD) (wi4 : TD) (a : Int) (b : Int) (c : Int) (n : Int) (p : Int) (f : Int) (w : Int) (T : Nat → Int32) (RA : Nat → Int32) (SA : Nat → Int32) (a0 : Nat) (ha0 : eT E a0 ∈ [29]) (ha : 0 ≤ a ∧ a ≤ 12) (hb : 0 ≤ b ∧ b ≤ 14) (hc : 0 ≤ c ∧ c ≤ 4) (hn : 0 ≤ n ∧ n ≤ 400) (hp : 0 ≤ p ∧ p ≤ 400) (hf : 0 ≤ f ∧ f ≤ 4000) (hw : 0 ≤ w ∧ w ≤ 1) (hT : ivP 400 (-128) 127 T) (hRA : ivP 14 (-2147483648) 2147483647 RA) (hSA : ivP 4 (-2147483648) 2147483647 SA) : TcI E yX3_readReachNumber cX3_readReachNumber 1 .int ({ frames := 3, cells := 0, slots := 0, locals := 86 }) [.ref a0] (fun H => TH E (tbC dA dB (riverD (.inl (a, a)) (.inl (b, b)) (.inl (c, c)) 31 33 35 39 43 47) rB rc (rdD (.inl (p, p)) (.inl (n, n)) (.inl (f, f)) (.inl (w, w)) (.inr [26])) (xB 400 T) (xD 14 RA) yb (xD 4 SA) yd ye yf rC rD wd1 wd2 wd3 wd4 ws1 ws2 ws3 ws4 wi1 wi2 wi3 wi4) H) (fun v H => ∃ p2 : Int, (0 ≤ p2 ∧ p2 ≤ 400 ∧ p2 = jNp T n p) ∧ ∃ f2 : Int, (0 ≤ f2 ∧ f2 ≤ 4000 ∧ f2 = jNf T n p f 0 (a - 1)) ∧ (0 ≤ v.toInt ∧ v.toInt ≤ 11) ∧ (v.toInt = jNv T n p 0 (a - 1)) ∧ TH E (tbC dA dB (riverD (.inl (a, a)) (.inl (b, b)) (.inl (c, c)) 31 33 35 39 43 47) rB rc (rdD (.inl (p2, p2)) (.inl (n, n)) (.inl (f2, f2)) (.inl (w, w)) (.inr [26])) (xB 400 T) (xD 14 RA) yb (xD 4 SA) yd ye yf rC rD wd1 wd2 wd3 wd4 ws1 ws2 ws3 ws4 wi1 wi2 wi3 wi4) H) := by
  refine teI (by decide) (Nat.le_of_ble_eq_true rfl) ?_
  intro p_ ev_ s mi_ below_ meth cd_ ls F hK hN hO hH hS hl
  have hH : TH E (tbC dA dB (riverD (.inl (a, a)) (.inl (b, b)) (.inl (c, c)) 31 33 35 39 43 47) rB rc (rdD (.inl (p, p)) (.inl (n, n)) (.inl (f, f)) (.inl (w, w)) (.inr [26])) (xB 400 T) (xD 14 RA) yb (xD 4 SA) yd ye yf rC rD wd1 wd2 wd3 wd4 ws1 ws2 ws3 ws4 wi1 wi2 wi3 wi4) s.heap := hH
  have hl : lv_has ls 1 [(0, .ref a0)] := hl
  refine lv_aload_n F.1 F.2.1 dX3_readReachNumber_0 rfl (lv_at hl 0 rfl) ?_
  refine lv_iconst (v := 0) F.1 F.2.1 dX3_readReachNumber_1 (by decide) ?_
  refine topK (a := 0) (by decide) (fun k_1 hk_1 => ?_)
  refine lv_aload_n F.1 F.2.1 dX3_readReachNumber_2 rfl (lv_at hl 0 rfl) ?_
  refine tGetR (j := 5) F hK hH (tyb ha0 (all1 rfl)) rfl (all1 rfl) clX3 (by decide) wd_5_18 dX3_readReachNumber_3 (fun q_2 hq_2 _ => ?_)
  refine tGetI (j := 0) F hK hH (tyb hq_2 (all1 rfl)) rfl clX2 (by decide) wd_12_7 dX3_readReachNumber_6 (fun z_3 hz_3 => ?_)
  have ez_3 : 0 ≤ z_3.toInt ∧ z_3.toInt ≤ 12 := by omega
  refine lv_iconst (v := 1) F.1 F.2.1 dX3_readReachNumber_9 (by decide) ?_
  refine topK (a := 1) (by decide) (fun k_4 hk_4 => ?_)
  refine tSub (lo := (-1)) (hi := 11) F dX3_readReachNumber_10 ez_3 (eqb hk_4) rfl (fun z_5 hz_5 => ?_)
  refine tVi (b := a0) (As := [.int k_1, .int z_5]) (rest := []) F hK hN hO (c_X3_readNumber E dA dB (riverD (.inl (a, a)) (.inl (b, b)) (.inl (c, c)) 31 33 35 39 43 47) rB rc (xD 14 RA) yb (xD 4 SA) yd ye yf rC rD wd1 wd2 wd3 wd4 ws1 ws2 ws3 ws4 wi1 wi2 wi3 wi4 ((.inl (w, w))) (.inr [26]) n p f T 0 (a - 1) a0 k_1 z_5 ha0 (by omega) (by omega) (by omega) hT (by omega) (by omega)) mv_X3_readNumber wd_12_19 ⟨Nat.le_of_ble_eq_true rfl, Nat.le_of_ble_eq_true rfl⟩ ⟨Nat.le_of_ble_eq_true rfl, Nat.le_of_ble_eq_true rfl⟩ hH hS (tRecv hK hH (tyb ha0 (all1 rfl)) clX3) rfl hl.1 (Nat.le_of_ble_eq_true rfl) dX3_readReachNumber_11 (fun z_6 H locs hq hS => ?_)
  obtain ⟨g_7, hg_7, g_8, hg_8, f_9, f_10, f_11, f_12, hH⟩ := hq
  have hH : TH E (tbC dA dB (riverD (.inl (a, a)) (.inl (b, b)) (.inl (c, c)) 31 33 35 39 43 47) rB rc (rdD (.inl (g_7, g_7)) (.inl (n, n)) (.inl (g_8, g_8)) (.inl (w, w)) (.inr [26])) (xB 400 T) (xD 14 RA) yb (xD 4 SA) yd ye yf rC rD wd1 wd2 wd3 wd4 ws1 ws2 ws3 ws4 wi1 wi2 wi3 wi4) H := hH
  have ez_6 : 0 ≤ z_6.toInt ∧ z_6.toInt ≤ 11 := by omega
  exact txI F hS dX3_readReachNumber_14 rfl (⟨g_7, ⟨by omega, by omega, hg_7.2.2⟩, g_8, ⟨by omega, by omega, hg_8.2.2⟩, ez_6, f_12, hH⟩)
set_option maxHeartbeats 4000000 in
set_option maxRecDepth 100000 in
theorem c_X3_readReachNumber_2 (E : Ev) (dA : TD) (dB : TD) (rA : TD) (rc : TD) (ya : TD) (yc : TD) (ye : TD) (yf : TD) (rC : TD) (rD : TD) (wd1 : TD) (wd2 : TD) (wd3 : TD) (wd4 : TD) (ws1 : TD) (ws2 : TD) (ws3 : TD) (ws4 : TD) (wi1 : TD) (wi2 : TD) (wi3 : TD) (wi4 : TD) (a : Int) (b : Int) (c : Int) (n : Int) (p : Int) (f : Int) (w : Int) (T : Nat → Int32) (RA : Nat → Int32) (SA : Nat → Int32) (a0 : Nat) (ha0 : eT E a0 ∈ [29]) (ha : 0 ≤ a ∧ a ≤ 12) (hb : 0 ≤ b ∧ b ≤ 14) (hc : 0 ≤ c ∧ c ≤ 4) (hn : 0 ≤ n ∧ n ≤ 400) (hp : 0 ≤ p ∧ p ≤ 400) (hf : 0 ≤ f ∧ f ≤ 4000) (hw : 0 ≤ w ∧ w ≤ 1) (hT : ivP 400 (-128) 127 T) (hRA : ivP 14 (-2147483648) 2147483647 RA) (hSA : ivP 4 (-2147483648) 2147483647 SA) : TcI E yX3_readReachNumber cX3_readReachNumber 1 .int ({ frames := 3, cells := 0, slots := 0, locals := 86 }) [.ref a0] (fun H => TH E (tbC dA dB rA (riverD (.inl (a, a)) (.inl (b, b)) (.inl (c, c)) 32 34 36 40 44 48) rc (rdD (.inl (p, p)) (.inl (n, n)) (.inl (f, f)) (.inl (w, w)) (.inr [27])) (xB 400 T) ya (xD 14 RA) yc (xD 4 SA) ye yf rC rD wd1 wd2 wd3 wd4 ws1 ws2 ws3 ws4 wi1 wi2 wi3 wi4) H) (fun v H => ∃ p2 : Int, (0 ≤ p2 ∧ p2 ≤ 400 ∧ p2 = jNp T n p) ∧ ∃ f2 : Int, (0 ≤ f2 ∧ f2 ≤ 4000 ∧ f2 = jNf T n p f 0 (a - 1)) ∧ (0 ≤ v.toInt ∧ v.toInt ≤ 11) ∧ (v.toInt = jNv T n p 0 (a - 1)) ∧ TH E (tbC dA dB rA (riverD (.inl (a, a)) (.inl (b, b)) (.inl (c, c)) 32 34 36 40 44 48) rc (rdD (.inl (p2, p2)) (.inl (n, n)) (.inl (f2, f2)) (.inl (w, w)) (.inr [27])) (xB 400 T) ya (xD 14 RA) yc (xD 4 SA) ye yf rC rD wd1 wd2 wd3 wd4 ws1 ws2 ws3 ws4 wi1 wi2 wi3 wi4) H) := by
  refine teI (by decide) (Nat.le_of_ble_eq_true rfl) ?_
  intro p_ ev_ s mi_ below_ meth cd_ ls F hK hN hO hH hS hl
  have hH : TH E (tbC dA dB rA (riverD (.inl (a, a)) (.inl (b, b)) (.inl (c, c)) 32 34 36 40 44 48) rc (rdD (.inl (p, p)) (.inl (n, n)) (.inl (f, f)) (.inl (w, w)) (.inr [27])) (xB 400 T) ya (xD 14 RA) yc (xD 4 SA) ye yf rC rD wd1 wd2 wd3 wd4 ws1 ws2 ws3 ws4 wi1 wi2 wi3 wi4) s.heap := hH
  have hl : lv_has ls 1 [(0, .ref a0)] := hl
  refine lv_aload_n F.1 F.2.1 dX3_readReachNumber_0 rfl (lv_at hl 0 rfl) ?_
  refine lv_iconst (v := 0) F.1 F.2.1 dX3_readReachNumber_1 (by decide) ?_
  refine topK (a := 0) (by decide) (fun k_1 hk_1 => ?_)
  refine lv_aload_n F.1 F.2.1 dX3_readReachNumber_2 rfl (lv_at hl 0 rfl) ?_
  refine tGetR (j := 5) F hK hH (tyb ha0 (all1 rfl)) rfl (all1 rfl) clX3 (by decide) wd_5_18 dX3_readReachNumber_3 (fun q_2 hq_2 _ => ?_)
  refine tGetI (j := 0) F hK hH (tyb hq_2 (all1 rfl)) rfl clX2 (by decide) wd_12_7 dX3_readReachNumber_6 (fun z_3 hz_3 => ?_)
  have ez_3 : 0 ≤ z_3.toInt ∧ z_3.toInt ≤ 12 := by omega
  refine lv_iconst (v := 1) F.1 F.2.1 dX3_readReachNumber_9 (by decide) ?_
  refine topK (a := 1) (by decide) (fun k_4 hk_4 => ?_)
  refine tSub (lo := (-1)) (hi := 11) F dX3_readReachNumber_10 ez_3 (eqb hk_4) rfl (fun z_5 hz_5 => ?_)
  refine tVi (b := a0) (As := [.int k_1, .int z_5]) (rest := []) F hK hN hO (c_X3_readNumber E dA dB rA (riverD (.inl (a, a)) (.inl (b, b)) (.inl (c, c)) 32 34 36 40 44 48) rc ya (xD 14 RA) yc (xD 4 SA) ye yf rC rD wd1 wd2 wd3 wd4 ws1 ws2 ws3 ws4 wi1 wi2 wi3 wi4 ((.inl (w, w))) (.inr [27]) n p f T 0 (a - 1) a0 k_1 z_5 ha0 (by omega) (by omega) (by omega) hT (by omega) (by omega)) mv_X3_readNumber wd_12_19 ⟨Nat.le_of_ble_eq_true rfl, Nat.le_of_ble_eq_true rfl⟩ ⟨Nat.le_of_ble_eq_true rfl, Nat.le_of_ble_eq_true rfl⟩ hH hS (tRecv hK hH (tyb ha0 (all1 rfl)) clX3) rfl hl.1 (Nat.le_of_ble_eq_true rfl) dX3_readReachNumber_11 (fun z_6 H locs hq hS => ?_)
  obtain ⟨g_7, hg_7, g_8, hg_8, f_9, f_10, f_11, f_12, hH⟩ := hq
  have hH : TH E (tbC dA dB rA (riverD (.inl (a, a)) (.inl (b, b)) (.inl (c, c)) 32 34 36 40 44 48) rc (rdD (.inl (g_7, g_7)) (.inl (n, n)) (.inl (g_8, g_8)) (.inl (w, w)) (.inr [27])) (xB 400 T) ya (xD 14 RA) yc (xD 4 SA) ye yf rC rD wd1 wd2 wd3 wd4 ws1 ws2 ws3 ws4 wi1 wi2 wi3 wi4) H := hH
  have ez_6 : 0 ≤ z_6.toInt ∧ z_6.toInt ≤ 11 := by omega
  exact txI F hS dX3_readReachNumber_14 rfl (⟨g_7, ⟨by omega, by omega, hg_7.2.2⟩, g_8, ⟨by omega, by omega, hg_8.2.2⟩, ez_6, f_12, hH⟩)
set_option maxHeartbeats 4000000 in
set_option maxRecDepth 100000 in
theorem c_X3_readAge_1 (E : Ev) (dA : TD) (dB : TD) (rB : TD) (rc : TD) (yb : TD) (yd : TD) (ye : TD) (yf : TD) (rC : TD) (rD : TD) (wd1 : TD) (wd2 : TD) (wd3 : TD) (wd4 : TD) (ws1 : TD) (ws2 : TD) (ws3 : TD) (ws4 : TD) (wi1 : TD) (wi2 : TD) (wi3 : TD) (wi4 : TD) (a : Int) (b : Int) (c : Int) (n : Int) (p : Int) (f : Int) (w : Int) (T : Nat → Int32) (RA : Nat → Int32) (SA : Nat → Int32) (a0 : Nat) (ha0 : eT E a0 ∈ [29]) (ha : 0 ≤ a ∧ a ≤ 12) (hb : 0 ≤ b ∧ b ≤ 14) (hc : 0 ≤ c ∧ c ≤ 4) (hn : 0 ≤ n ∧ n ≤ 400) (hp : 0 ≤ p ∧ p ≤ 400) (hf : 0 ≤ f ∧ f ≤ 4000) (hw : 0 ≤ w ∧ w ≤ 1) (hT : ivP 400 (-128) 127 T) (hRA : ivP 14 (-2147483648) 2147483647 RA) (hSA : ivP 4 (-2147483648) 2147483647 SA) : TcI E yX3_readAge cX3_readAge 3 .int ({ frames := 6, cells := 0, slots := 0, locals := 204 }) [.ref a0] (fun H => TH E (tbC dA dB (riverD (.inl (a, a)) (.inl (b, b)) (.inl (c, c)) 31 33 35 39 43 47) rB rc (rdD (.inl (p, p)) (.inl (n, n)) (.inl (f, f)) (.inl (w, w)) (.inr [26])) (xB 400 T) (xD 14 RA) yb (xD 4 SA) yd ye yf rC rD wd1 wd2 wd3 wd4 ws1 ws2 ws3 ws4 wi1 wi2 wi3 wi4) H) (fun v H => ∃ p2 : Int, (0 ≤ p2 ∧ p2 ≤ 400 ∧ p2 = jAp T n b c RA SA p f) ∧ ∃ f2 : Int, (0 ≤ f2 ∧ f2 ≤ 4000 ∧ f2 = jAf T n b c RA SA p f) ∧ (0 ≤ v.toInt ∧ v.toInt ≤ 9999) ∧ (v.toInt = jAv T n b c RA SA p f) ∧ TH E (tbC dA dB (riverD (.inl (a, a)) (.inl (b, b)) (.inl (c, c)) 31 33 35 39 43 47) rB rc (rdD (.inl (p2, p2)) (.inl (n, n)) (.inl (f2, f2)) (.inl (w, w)) (.inr [26])) (xB 400 T) (xD 14 RA) yb (xD 4 SA) yd ye yf rC rD wd1 wd2 wd3 wd4 ws1 ws2 ws3 ws4 wi1 wi2 wi3 wi4) H) := by
  refine teI (by decide) (Nat.le_of_ble_eq_true rfl) ?_
  intro p_ ev_ s mi_ below_ meth cd_ ls F hK hN hO hH hS hl
  have hH : TH E (tbC dA dB (riverD (.inl (a, a)) (.inl (b, b)) (.inl (c, c)) 31 33 35 39 43 47) rB rc (rdD (.inl (p, p)) (.inl (n, n)) (.inl (f, f)) (.inl (w, w)) (.inr [26])) (xB 400 T) (xD 14 RA) yb (xD 4 SA) yd ye yf rC rD wd1 wd2 wd3 wd4 ws1 ws2 ws3 ws4 wi1 wi2 wi3 wi4) s.heap := hH
  have hl : lv_has ls 3 [(0, .ref a0)] := hl
  refine lv_aload_n F.1 F.2.1 dX3_readAge_0 rfl (lv_at hl 0 rfl) ?_
  refine va_ldcS F.1 F.2.1 F.2.2.2.2.1 (hO.1 4 _ rfl).1 dX3_readAge_1 ?_
  refine tVi (b := a0) (As := [.ref (eX E 4)]) (rest := []) F hK hN hO (c_X3_isNext E dA dB (riverD (.inl (a, a)) (.inl (b, b)) (.inl (c, c)) 31 33 35 39 43 47) rB rc (xD 14 RA) yb (xD 4 SA) yd ye yf rC rD wd1 wd2 wd3 wd4 ws1 ws2 ws3 ws4 wi1 wi2 wi3 wi4 ((.inl (w, w))) (.inr [26]) n p f T a0 4 3 ha0 (strAt 4 rfl) (by omega) (by omega) (by omega) hT) mv_X3_isNext wd_9_22 ⟨Nat.le_of_ble_eq_true rfl, Nat.le_of_ble_eq_true rfl⟩ ⟨Nat.le_of_ble_eq_true rfl, Nat.le_of_ble_eq_true rfl⟩ hH hS (tRecv hK hH (tyb ha0 (all1 rfl)) clX3) rfl hl.1 (Nat.le_of_ble_eq_true rfl) dX3_readAge_3 (fun z_1 H locs hq hS => ?_)
  obtain ⟨g_2, hg_2, f_3, f_4, hH⟩ := hq
  have hH : TH E (tbC dA dB (riverD (.inl (a, a)) (.inl (b, b)) (.inl (c, c)) 31 33 35 39 43 47) rB rc (rdD (.inl (g_2, g_2)) (.inl (n, n)) (.inl (f, f)) (.inl (w, w)) (.inr [26])) (xB 400 T) (xD 14 RA) yb (xD 4 SA) yd ye yf rC rD wd1 wd2 wd3 wd4 ws1 ws2 ws3 ws4 wi1 wi2 wi3 wi4) H := hH
  refine z_ne (tgt := 18) F dX3_readAge_6 (by decide) (fun c_5 => ?_) (fun c_5 => ?_)
  · skip
    have r_6 : 1 ≤ z_1.toInt ∧ z_1.toInt ≤ 1 := by have h9_ := f_3; omega
    refine lv_aload_n F.1 F.2.1 dX3_readAge_18 rfl (lv_at hl 0 rfl) ?_
    refine tVv (b := a0) (As := []) (rest := []) F hK hN hO (c_X3_skipBlanks E dA dB (riverD (.inl (a, a)) (.inl (b, b)) (.inl (c, c)) 31 33 35 39 43 47) rB rc (xD 14 RA) yb (xD 4 SA) yd ye yf rC rD wd1 wd2 wd3 wd4 ws1 ws2 ws3 ws4 wi1 wi2 wi3 wi4 ((.inl (f, f))) ((.inl (w, w))) (.inr [26]) n g_2 T a0 ha0 (by omega) (by omega) hT) mv_X3_skipBlanks wd_9_14 ⟨Nat.le_of_ble_eq_true rfl, Nat.le_of_ble_eq_true rfl⟩ ⟨Nat.le_of_ble_eq_true rfl, Nat.le_of_ble_eq_true rfl⟩ hH hS (tRecv hK hH (tyb ha0 (all1 rfl)) clX3) rfl hl.1 (Nat.le_of_ble_eq_true rfl) dX3_readAge_19 (fun H locs hq hS => ?_)
    obtain ⟨g_9, hg_9, hH⟩ := hq
    have hH : TH E (tbC dA dB (riverD (.inl (a, a)) (.inl (b, b)) (.inl (c, c)) 31 33 35 39 43 47) rB rc (rdD (.inl (g_9, g_9)) (.inl (n, n)) (.inl (f, f)) (.inl (w, w)) (.inr [26])) (xB 400 T) (xD 14 RA) yb (xD 4 SA) yd ye yf rC rD wd1 wd2 wd3 wd4 ws1 ws2 ws3 ws4 wi1 wi2 wi3 wi4) H := hH
    refine lv_aload_n F.1 F.2.1 dX3_readAge_22 rfl (lv_at hl 0 rfl) ?_
    refine tGetI (j := 2) F hK hH (tyb ha0 (all1 rfl)) rfl clX3 (by decide) wd_9_4 dX3_readAge_23 (fun z_10 hz_10 => ?_)
    have ez_10 : 0 ≤ z_10.toInt ∧ z_10.toInt ≤ 400 := by omega
    refine lv_istore_n (lv' := [(1, .int z_10), (0, .ref a0)]) F.1 F.2.1 dX3_readAge_26 rfl hl (by decide) rfl (fun ls hl => ?_)
    refine lv_aload_n F.1 F.2.1 dX3_readAge_27 rfl (lv_at hl 1 rfl) ?_
    refine lv_iconst (v := 0) F.1 F.2.1 dX3_readAge_28 (by decide) ?_
    refine topK (a := 0) (by decide) (fun k_11 hk_11 => ?_)
    refine lv_sipush (v := 9999) F.1 F.2.1 dX3_readAge_29 (by decide) ?_
    refine topK (a := 9999) (by decide) (fun k_12 hk_12 => ?_)
    refine tVi (b := a0) (As := [.int k_11, .int k_12]) (rest := []) F hK hN hO (c_X3_readNumber E dA dB (riverD (.inl (a, a)) (.inl (b, b)) (.inl (c, c)) 31 33 35 39 43 47) rB rc (xD 14 RA) yb (xD 4 SA) yd ye yf rC rD wd1 wd2 wd3 wd4 ws1 ws2 ws3 ws4 wi1 wi2 wi3 wi4 ((.inl (w, w))) (.inr [26]) n g_9 f T 0 9999 a0 k_11 k_12 ha0 (by omega) (by omega) (by omega) hT (by omega) (by omega)) mv_X3_readNumber wd_12_19 ⟨Nat.le_of_ble_eq_true rfl, Nat.le_of_ble_eq_true rfl⟩ ⟨Nat.le_of_ble_eq_true rfl, Nat.le_of_ble_eq_true rfl⟩ hH hS (tRecv hK hH (tyb ha0 (all1 rfl)) clX3) rfl hl.1 (Nat.le_of_ble_eq_true rfl) dX3_readAge_32 (fun z_13 H locs hq hS => ?_)
    obtain ⟨g_14, hg_14, g_15, hg_15, f_16, f_17, f_18, f_19, hH⟩ := hq
    have hH : TH E (tbC dA dB (riverD (.inl (a, a)) (.inl (b, b)) (.inl (c, c)) 31 33 35 39 43 47) rB rc (rdD (.inl (g_14, g_14)) (.inl (n, n)) (.inl (g_15, g_15)) (.inl (w, w)) (.inr [26])) (xB 400 T) (xD 14 RA) yb (xD 4 SA) yd ye yf rC rD wd1 wd2 wd3 wd4 ws1 ws2 ws3 ws4 wi1 wi2 wi3 wi4) H := hH
    have ez_13 : 0 ≤ z_13.toInt ∧ z_13.toInt ≤ 9999 := by omega
    refine lv_istore_n (lv' := [(2, .int z_13), (1, .int z_10), (0, .ref a0)]) F.1 F.2.1 dX3_readAge_35 rfl hl (by decide) rfl (fun ls hl => ?_)
    refine lv_aload_n F.1 F.2.1 dX3_readAge_36 rfl (lv_at hl 2 rfl) ?_
    refine tGetR (j := 5) F hK hH (tyb ha0 (all1 rfl)) rfl (all1 rfl) clX3 (by decide) wd_5_18 dX3_readAge_37 (fun q_20 hq_20 _ => ?_)
    refine lv_iload_n F.1 F.2.1 dX3_readAge_40 rfl (lv_at hl 0 rfl) ?_
    refine tVi (b := q_20) (As := [.int z_13]) (rest := []) F hK hN hO (c_X2_hasAge_1 E dA dB rB rc (rdD (.inl (g_14, g_14)) (.inl (n, n)) (.inl (g_15, g_15)) (.inl (w, w)) (.inr [26])) (xB 400 T) yb yd ye yf rC rD wd1 wd2 wd3 wd4 ws1 ws2 ws3 ws4 wi1 wi2 wi3 wi4 a b c RA SA z_13.toInt q_20 z_13 hq_20 (by omega) (by omega) (by omega) hRA hSA (by omega)) mv_X2_hasAge wd_13_19 ⟨Nat.le_of_ble_eq_true rfl, Nat.le_of_ble_eq_true rfl⟩ ⟨Nat.le_of_ble_eq_true rfl, Nat.le_of_ble_eq_true rfl⟩ hH hS (tRecv hK hH (tyb hq_20 (all1 rfl)) clX2) rfl hl.1 (Nat.le_of_ble_eq_true rfl) dX3_readAge_41 (fun z_21 H locs hq hS => ?_)
    obtain ⟨f_22, f_23, hH⟩ := hq
    have hH : TH E (tbC dA dB (riverD (.inl (a, a)) (.inl (b, b)) (.inl (c, c)) 31 33 35 39 43 47) rB rc (rdD (.inl (g_14, g_14)) (.inl (n, n)) (.inl (g_15, g_15)) (.inl (w, w)) (.inr [26])) (xB 400 T) (xD 14 RA) yb (xD 4 SA) yd ye yf rC rD wd1 wd2 wd3 wd4 ws1 ws2 ws3 ws4 wi1 wi2 wi3 wi4) H := hH
    refine z_eq (tgt := 53) F dX3_readAge_44 (by decide) (fun c_24 => ?_) (fun c_24 => ?_)
    · skip
      have r_25 : 0 ≤ z_21.toInt ∧ z_21.toInt ≤ 0 := by have h9_ := f_22; omega
      refine lv_iload_n F.1 F.2.1 dX3_readAge_53 rfl (lv_at hl 0 rfl) ?_
      exact txI F hS dX3_readAge_54 rfl (⟨g_14, ⟨by omega, by omega, (age_k (f4 := g_15) f_4 hg_2.2.2 hg_9.2.2 hg_14.2.2 hg_15.2.2 f_19 f_23 (by omega) (by omega)).1⟩, g_15, ⟨by omega, by omega, (age_k (f4 := g_15) f_4 hg_2.2.2 hg_9.2.2 hg_14.2.2 hg_15.2.2 f_19 f_23 (by omega) (by omega)).2.1⟩, ez_13, (age_k (f4 := g_15) f_4 hg_2.2.2 hg_9.2.2 hg_14.2.2 hg_15.2.2 f_19 f_23 (by omega) (by omega)).2.2, hH⟩)
    · skip
      have r_26 : 1 ≤ z_21.toInt ∧ z_21.toInt ≤ 1 := by have h9_ := f_22; omega
      refine lv_aload_n F.1 F.2.1 dX3_readAge_47 rfl (lv_at hl 2 rfl) ?_
      refine lv_iload_n F.1 F.2.1 dX3_readAge_48 rfl (lv_at hl 1 rfl) ?_
      refine lv_iconst (v := 2) F.1 F.2.1 dX3_readAge_49 (by decide) ?_
      refine topK (a := 2) (by decide) (fun k_27 hk_27 => ?_)
      refine tVv (b := a0) (As := [.int z_10, .int k_27]) (rest := []) F hK hN hO (c_X3_blame E dA dB (riverD (.inl (a, a)) (.inl (b, b)) (.inl (c, c)) 31 33 35 39 43 47) rB rc (xB 400 T) (xD 14 RA) yb (xD 4 SA) yd ye yf rC rD wd1 wd2 wd3 wd4 ws1 ws2 ws3 ws4 wi1 wi2 wi3 wi4 ((.inl (n, n))) ((.inl (g_14, g_14))) ((.inl (w, w))) (.inr [26]) g_15 g_9 2 a0 z_10 k_27 ha0 ez_10 (wkb (eqb hk_27) rfl rfl) (by omega) (by omega) (by omega)) mv_X3_blame wd_12_11 ⟨Nat.le_of_ble_eq_true rfl, Nat.le_of_ble_eq_true rfl⟩ ⟨Nat.le_of_ble_eq_true rfl, Nat.le_of_ble_eq_true rfl⟩ hH hS (tRecv hK hH (tyb ha0 (all1 rfl)) clX3) rfl hl.1 (Nat.le_of_ble_eq_true rfl) dX3_readAge_50 (fun H locs hq hS => ?_)
      obtain ⟨g_29, hg_29, hH⟩ := hq
      have hH : TH E (tbC dA dB (riverD (.inl (a, a)) (.inl (b, b)) (.inl (c, c)) 31 33 35 39 43 47) rB rc (rdD (.inl (g_14, g_14)) (.inl (n, n)) (.inl (g_29, g_29)) (.inl (w, w)) (.inr [26])) (xB 400 T) (xD 14 RA) yb (xD 4 SA) yd ye yf rC rD wd1 wd2 wd3 wd4 ws1 ws2 ws3 ws4 wi1 wi2 wi3 wi4) H := hH
      refine lv_iload_n F.1 F.2.1 dX3_readAge_53 rfl (lv_at hl 0 rfl) ?_
      exact txI F hS dX3_readAge_54 rfl (⟨g_14, ⟨by omega, by omega, (age_k (f4 := g_29) f_4 hg_2.2.2 hg_9.2.2 hg_14.2.2 hg_15.2.2 f_19 f_23 (by omega) (by omega)).1⟩, g_29, ⟨by omega, by omega, (age_k (f4 := g_29) f_4 hg_2.2.2 hg_9.2.2 hg_14.2.2 hg_15.2.2 f_19 f_23 (by omega) (by omega)).2.1⟩, ez_13, (age_k (f4 := g_29) f_4 hg_2.2.2 hg_9.2.2 hg_14.2.2 hg_15.2.2 f_19 f_23 (by omega) (by omega)).2.2, hH⟩)
  · skip
    have r_7 : 0 ≤ z_1.toInt ∧ z_1.toInt ≤ 0 := by have h9_ := f_3; omega
    refine lv_aload_n F.1 F.2.1 dX3_readAge_9 rfl (lv_at hl 0 rfl) ?_
    refine lv_aload_n F.1 F.2.1 dX3_readAge_10 rfl (lv_at hl 0 rfl) ?_
    refine tGetI (j := 2) F hK hH (tyb ha0 (all1 rfl)) rfl clX3 (by decide) wd_9_4 dX3_readAge_11 (fun z_30 hz_30 => ?_)
    have ez_30 : 0 ≤ z_30.toInt ∧ z_30.toInt ≤ 400 := by omega
    refine lv_iconst (v := 1) F.1 F.2.1 dX3_readAge_14 (by decide) ?_
    refine topK (a := 1) (by decide) (fun k_31 hk_31 => ?_)
    refine tVv (b := a0) (As := [.int z_30, .int k_31]) (rest := []) F hK hN hO (c_X3_blame E dA dB (riverD (.inl (a, a)) (.inl (b, b)) (.inl (c, c)) 31 33 35 39 43 47) rB rc (xB 400 T) (xD 14 RA) yb (xD 4 SA) yd ye yf rC rD wd1 wd2 wd3 wd4 ws1 ws2 ws3 ws4 wi1 wi2 wi3 wi4 ((.inl (n, n))) ((.inl (g_2, g_2))) ((.inl (w, w))) (.inr [26]) f g_2 1 a0 z_30 k_31 ha0 ez_30 (wkb (eqb hk_31) rfl rfl) (by omega) (by omega) (by omega)) mv_X3_blame wd_12_11 ⟨Nat.le_of_ble_eq_true rfl, Nat.le_of_ble_eq_true rfl⟩ ⟨Nat.le_of_ble_eq_true rfl, Nat.le_of_ble_eq_true rfl⟩ hH hS (tRecv hK hH (tyb ha0 (all1 rfl)) clX3) rfl hl.1 (Nat.le_of_ble_eq_true rfl) dX3_readAge_15 (fun H locs hq hS => ?_)
    obtain ⟨g_33, hg_33, hH⟩ := hq
    have hH : TH E (tbC dA dB (riverD (.inl (a, a)) (.inl (b, b)) (.inl (c, c)) 31 33 35 39 43 47) rB rc (rdD (.inl (g_2, g_2)) (.inl (n, n)) (.inl (g_33, g_33)) (.inl (w, w)) (.inr [26])) (xB 400 T) (xD 14 RA) yb (xD 4 SA) yd ye yf rC rD wd1 wd2 wd3 wd4 ws1 ws2 ws3 ws4 wi1 wi2 wi3 wi4) H := hH
    refine lv_aload_n F.1 F.2.1 dX3_readAge_18 rfl (lv_at hl 0 rfl) ?_
    refine tVv (b := a0) (As := []) (rest := []) F hK hN hO (c_X3_skipBlanks E dA dB (riverD (.inl (a, a)) (.inl (b, b)) (.inl (c, c)) 31 33 35 39 43 47) rB rc (xD 14 RA) yb (xD 4 SA) yd ye yf rC rD wd1 wd2 wd3 wd4 ws1 ws2 ws3 ws4 wi1 wi2 wi3 wi4 ((.inl (g_33, g_33))) ((.inl (w, w))) (.inr [26]) n g_2 T a0 ha0 (by omega) (by omega) hT) mv_X3_skipBlanks wd_9_14 ⟨Nat.le_of_ble_eq_true rfl, Nat.le_of_ble_eq_true rfl⟩ ⟨Nat.le_of_ble_eq_true rfl, Nat.le_of_ble_eq_true rfl⟩ hH hS (tRecv hK hH (tyb ha0 (all1 rfl)) clX3) rfl hl.1 (Nat.le_of_ble_eq_true rfl) dX3_readAge_19 (fun H locs hq hS => ?_)
    obtain ⟨g_35, hg_35, hH⟩ := hq
    have hH : TH E (tbC dA dB (riverD (.inl (a, a)) (.inl (b, b)) (.inl (c, c)) 31 33 35 39 43 47) rB rc (rdD (.inl (g_35, g_35)) (.inl (n, n)) (.inl (g_33, g_33)) (.inl (w, w)) (.inr [26])) (xB 400 T) (xD 14 RA) yb (xD 4 SA) yd ye yf rC rD wd1 wd2 wd3 wd4 ws1 ws2 ws3 ws4 wi1 wi2 wi3 wi4) H := hH
    refine lv_aload_n F.1 F.2.1 dX3_readAge_22 rfl (lv_at hl 0 rfl) ?_
    refine tGetI (j := 2) F hK hH (tyb ha0 (all1 rfl)) rfl clX3 (by decide) wd_9_4 dX3_readAge_23 (fun z_36 hz_36 => ?_)
    have ez_36 : 0 ≤ z_36.toInt ∧ z_36.toInt ≤ 400 := by omega
    refine lv_istore_n (lv' := [(1, .int z_36), (0, .ref a0)]) F.1 F.2.1 dX3_readAge_26 rfl hl (by decide) rfl (fun ls hl => ?_)
    refine lv_aload_n F.1 F.2.1 dX3_readAge_27 rfl (lv_at hl 1 rfl) ?_
    refine lv_iconst (v := 0) F.1 F.2.1 dX3_readAge_28 (by decide) ?_
    refine topK (a := 0) (by decide) (fun k_37 hk_37 => ?_)
    refine lv_sipush (v := 9999) F.1 F.2.1 dX3_readAge_29 (by decide) ?_
    refine topK (a := 9999) (by decide) (fun k_38 hk_38 => ?_)
    refine tVi (b := a0) (As := [.int k_37, .int k_38]) (rest := []) F hK hN hO (c_X3_readNumber E dA dB (riverD (.inl (a, a)) (.inl (b, b)) (.inl (c, c)) 31 33 35 39 43 47) rB rc (xD 14 RA) yb (xD 4 SA) yd ye yf rC rD wd1 wd2 wd3 wd4 ws1 ws2 ws3 ws4 wi1 wi2 wi3 wi4 ((.inl (w, w))) (.inr [26]) n g_35 g_33 T 0 9999 a0 k_37 k_38 ha0 (by omega) (by omega) (by omega) hT (by omega) (by omega)) mv_X3_readNumber wd_12_19 ⟨Nat.le_of_ble_eq_true rfl, Nat.le_of_ble_eq_true rfl⟩ ⟨Nat.le_of_ble_eq_true rfl, Nat.le_of_ble_eq_true rfl⟩ hH hS (tRecv hK hH (tyb ha0 (all1 rfl)) clX3) rfl hl.1 (Nat.le_of_ble_eq_true rfl) dX3_readAge_32 (fun z_39 H locs hq hS => ?_)
    obtain ⟨g_40, hg_40, g_41, hg_41, f_42, f_43, f_44, f_45, hH⟩ := hq
    have hH : TH E (tbC dA dB (riverD (.inl (a, a)) (.inl (b, b)) (.inl (c, c)) 31 33 35 39 43 47) rB rc (rdD (.inl (g_40, g_40)) (.inl (n, n)) (.inl (g_41, g_41)) (.inl (w, w)) (.inr [26])) (xB 400 T) (xD 14 RA) yb (xD 4 SA) yd ye yf rC rD wd1 wd2 wd3 wd4 ws1 ws2 ws3 ws4 wi1 wi2 wi3 wi4) H := hH
    have ez_39 : 0 ≤ z_39.toInt ∧ z_39.toInt ≤ 9999 := by omega
    refine lv_istore_n (lv' := [(2, .int z_39), (1, .int z_36), (0, .ref a0)]) F.1 F.2.1 dX3_readAge_35 rfl hl (by decide) rfl (fun ls hl => ?_)
    refine lv_aload_n F.1 F.2.1 dX3_readAge_36 rfl (lv_at hl 2 rfl) ?_
    refine tGetR (j := 5) F hK hH (tyb ha0 (all1 rfl)) rfl (all1 rfl) clX3 (by decide) wd_5_18 dX3_readAge_37 (fun q_46 hq_46 _ => ?_)
    refine lv_iload_n F.1 F.2.1 dX3_readAge_40 rfl (lv_at hl 0 rfl) ?_
    refine tVi (b := q_46) (As := [.int z_39]) (rest := []) F hK hN hO (c_X2_hasAge_1 E dA dB rB rc (rdD (.inl (g_40, g_40)) (.inl (n, n)) (.inl (g_41, g_41)) (.inl (w, w)) (.inr [26])) (xB 400 T) yb yd ye yf rC rD wd1 wd2 wd3 wd4 ws1 ws2 ws3 ws4 wi1 wi2 wi3 wi4 a b c RA SA z_39.toInt q_46 z_39 hq_46 (by omega) (by omega) (by omega) hRA hSA (by omega)) mv_X2_hasAge wd_13_19 ⟨Nat.le_of_ble_eq_true rfl, Nat.le_of_ble_eq_true rfl⟩ ⟨Nat.le_of_ble_eq_true rfl, Nat.le_of_ble_eq_true rfl⟩ hH hS (tRecv hK hH (tyb hq_46 (all1 rfl)) clX2) rfl hl.1 (Nat.le_of_ble_eq_true rfl) dX3_readAge_41 (fun z_47 H locs hq hS => ?_)
    obtain ⟨f_48, f_49, hH⟩ := hq
    have hH : TH E (tbC dA dB (riverD (.inl (a, a)) (.inl (b, b)) (.inl (c, c)) 31 33 35 39 43 47) rB rc (rdD (.inl (g_40, g_40)) (.inl (n, n)) (.inl (g_41, g_41)) (.inl (w, w)) (.inr [26])) (xB 400 T) (xD 14 RA) yb (xD 4 SA) yd ye yf rC rD wd1 wd2 wd3 wd4 ws1 ws2 ws3 ws4 wi1 wi2 wi3 wi4) H := hH
    refine z_eq (tgt := 53) F dX3_readAge_44 (by decide) (fun c_50 => ?_) (fun c_50 => ?_)
    · skip
      have r_51 : 0 ≤ z_47.toInt ∧ z_47.toInt ≤ 0 := by have h9_ := f_48; omega
      refine lv_iload_n F.1 F.2.1 dX3_readAge_53 rfl (lv_at hl 0 rfl) ?_
      exact txI F hS dX3_readAge_54 rfl (⟨g_40, ⟨by omega, by omega, (age_k (f4 := g_41) f_4 hg_2.2.2 hg_35.2.2 hg_40.2.2 hg_41.2.2 f_45 f_49 (by omega) (by omega)).1⟩, g_41, ⟨by omega, by omega, (age_k (f4 := g_41) f_4 hg_2.2.2 hg_35.2.2 hg_40.2.2 hg_41.2.2 f_45 f_49 (by omega) (by omega)).2.1⟩, ez_39, (age_k (f4 := g_41) f_4 hg_2.2.2 hg_35.2.2 hg_40.2.2 hg_41.2.2 f_45 f_49 (by omega) (by omega)).2.2, hH⟩)
    · skip
      have r_52 : 1 ≤ z_47.toInt ∧ z_47.toInt ≤ 1 := by have h9_ := f_48; omega
      refine lv_aload_n F.1 F.2.1 dX3_readAge_47 rfl (lv_at hl 2 rfl) ?_
      refine lv_iload_n F.1 F.2.1 dX3_readAge_48 rfl (lv_at hl 1 rfl) ?_
      refine lv_iconst (v := 2) F.1 F.2.1 dX3_readAge_49 (by decide) ?_
      refine topK (a := 2) (by decide) (fun k_53 hk_53 => ?_)
      refine tVv (b := a0) (As := [.int z_36, .int k_53]) (rest := []) F hK hN hO (c_X3_blame E dA dB (riverD (.inl (a, a)) (.inl (b, b)) (.inl (c, c)) 31 33 35 39 43 47) rB rc (xB 400 T) (xD 14 RA) yb (xD 4 SA) yd ye yf rC rD wd1 wd2 wd3 wd4 ws1 ws2 ws3 ws4 wi1 wi2 wi3 wi4 ((.inl (n, n))) ((.inl (g_40, g_40))) ((.inl (w, w))) (.inr [26]) g_41 g_35 2 a0 z_36 k_53 ha0 ez_36 (wkb (eqb hk_53) rfl rfl) (by omega) (by omega) (by omega)) mv_X3_blame wd_12_11 ⟨Nat.le_of_ble_eq_true rfl, Nat.le_of_ble_eq_true rfl⟩ ⟨Nat.le_of_ble_eq_true rfl, Nat.le_of_ble_eq_true rfl⟩ hH hS (tRecv hK hH (tyb ha0 (all1 rfl)) clX3) rfl hl.1 (Nat.le_of_ble_eq_true rfl) dX3_readAge_50 (fun H locs hq hS => ?_)
      obtain ⟨g_55, hg_55, hH⟩ := hq
      have hH : TH E (tbC dA dB (riverD (.inl (a, a)) (.inl (b, b)) (.inl (c, c)) 31 33 35 39 43 47) rB rc (rdD (.inl (g_40, g_40)) (.inl (n, n)) (.inl (g_55, g_55)) (.inl (w, w)) (.inr [26])) (xB 400 T) (xD 14 RA) yb (xD 4 SA) yd ye yf rC rD wd1 wd2 wd3 wd4 ws1 ws2 ws3 ws4 wi1 wi2 wi3 wi4) H := hH
      refine lv_iload_n F.1 F.2.1 dX3_readAge_53 rfl (lv_at hl 0 rfl) ?_
      exact txI F hS dX3_readAge_54 rfl (⟨g_40, ⟨by omega, by omega, (age_k (f4 := g_55) f_4 hg_2.2.2 hg_35.2.2 hg_40.2.2 hg_41.2.2 f_45 f_49 (by omega) (by omega)).1⟩, g_55, ⟨by omega, by omega, (age_k (f4 := g_55) f_4 hg_2.2.2 hg_35.2.2 hg_40.2.2 hg_41.2.2 f_45 f_49 (by omega) (by omega)).2.1⟩, ez_39, (age_k (f4 := g_55) f_4 hg_2.2.2 hg_35.2.2 hg_40.2.2 hg_41.2.2 f_45 f_49 (by omega) (by omega)).2.2, hH⟩)
set_option maxHeartbeats 4000000 in
set_option maxRecDepth 100000 in
theorem c_X3_readAge_2 (E : Ev) (dA : TD) (dB : TD) (rA : TD) (rc : TD) (ya : TD) (yc : TD) (ye : TD) (yf : TD) (rC : TD) (rD : TD) (wd1 : TD) (wd2 : TD) (wd3 : TD) (wd4 : TD) (ws1 : TD) (ws2 : TD) (ws3 : TD) (ws4 : TD) (wi1 : TD) (wi2 : TD) (wi3 : TD) (wi4 : TD) (a : Int) (b : Int) (c : Int) (n : Int) (p : Int) (f : Int) (w : Int) (T : Nat → Int32) (RA : Nat → Int32) (SA : Nat → Int32) (a0 : Nat) (ha0 : eT E a0 ∈ [29]) (ha : 0 ≤ a ∧ a ≤ 12) (hb : 0 ≤ b ∧ b ≤ 14) (hc : 0 ≤ c ∧ c ≤ 4) (hn : 0 ≤ n ∧ n ≤ 400) (hp : 0 ≤ p ∧ p ≤ 400) (hf : 0 ≤ f ∧ f ≤ 4000) (hw : 0 ≤ w ∧ w ≤ 1) (hT : ivP 400 (-128) 127 T) (hRA : ivP 14 (-2147483648) 2147483647 RA) (hSA : ivP 4 (-2147483648) 2147483647 SA) : TcI E yX3_readAge cX3_readAge 3 .int ({ frames := 6, cells := 0, slots := 0, locals := 204 }) [.ref a0] (fun H => TH E (tbC dA dB rA (riverD (.inl (a, a)) (.inl (b, b)) (.inl (c, c)) 32 34 36 40 44 48) rc (rdD (.inl (p, p)) (.inl (n, n)) (.inl (f, f)) (.inl (w, w)) (.inr [27])) (xB 400 T) ya (xD 14 RA) yc (xD 4 SA) ye yf rC rD wd1 wd2 wd3 wd4 ws1 ws2 ws3 ws4 wi1 wi2 wi3 wi4) H) (fun v H => ∃ p2 : Int, (0 ≤ p2 ∧ p2 ≤ 400 ∧ p2 = jAp T n b c RA SA p f) ∧ ∃ f2 : Int, (0 ≤ f2 ∧ f2 ≤ 4000 ∧ f2 = jAf T n b c RA SA p f) ∧ (0 ≤ v.toInt ∧ v.toInt ≤ 9999) ∧ (v.toInt = jAv T n b c RA SA p f) ∧ TH E (tbC dA dB rA (riverD (.inl (a, a)) (.inl (b, b)) (.inl (c, c)) 32 34 36 40 44 48) rc (rdD (.inl (p2, p2)) (.inl (n, n)) (.inl (f2, f2)) (.inl (w, w)) (.inr [27])) (xB 400 T) ya (xD 14 RA) yc (xD 4 SA) ye yf rC rD wd1 wd2 wd3 wd4 ws1 ws2 ws3 ws4 wi1 wi2 wi3 wi4) H) := by
  refine teI (by decide) (Nat.le_of_ble_eq_true rfl) ?_
  intro p_ ev_ s mi_ below_ meth cd_ ls F hK hN hO hH hS hl
  have hH : TH E (tbC dA dB rA (riverD (.inl (a, a)) (.inl (b, b)) (.inl (c, c)) 32 34 36 40 44 48) rc (rdD (.inl (p, p)) (.inl (n, n)) (.inl (f, f)) (.inl (w, w)) (.inr [27])) (xB 400 T) ya (xD 14 RA) yc (xD 4 SA) ye yf rC rD wd1 wd2 wd3 wd4 ws1 ws2 ws3 ws4 wi1 wi2 wi3 wi4) s.heap := hH
  have hl : lv_has ls 3 [(0, .ref a0)] := hl
  refine lv_aload_n F.1 F.2.1 dX3_readAge_0 rfl (lv_at hl 0 rfl) ?_
  refine va_ldcS F.1 F.2.1 F.2.2.2.2.1 (hO.1 4 _ rfl).1 dX3_readAge_1 ?_
  refine tVi (b := a0) (As := [.ref (eX E 4)]) (rest := []) F hK hN hO (c_X3_isNext E dA dB rA (riverD (.inl (a, a)) (.inl (b, b)) (.inl (c, c)) 32 34 36 40 44 48) rc ya (xD 14 RA) yc (xD 4 SA) ye yf rC rD wd1 wd2 wd3 wd4 ws1 ws2 ws3 ws4 wi1 wi2 wi3 wi4 ((.inl (w, w))) (.inr [27]) n p f T a0 4 3 ha0 (strAt 4 rfl) (by omega) (by omega) (by omega) hT) mv_X3_isNext wd_9_22 ⟨Nat.le_of_ble_eq_true rfl, Nat.le_of_ble_eq_true rfl⟩ ⟨Nat.le_of_ble_eq_true rfl, Nat.le_of_ble_eq_true rfl⟩ hH hS (tRecv hK hH (tyb ha0 (all1 rfl)) clX3) rfl hl.1 (Nat.le_of_ble_eq_true rfl) dX3_readAge_3 (fun z_1 H locs hq hS => ?_)
  obtain ⟨g_2, hg_2, f_3, f_4, hH⟩ := hq
  have hH : TH E (tbC dA dB rA (riverD (.inl (a, a)) (.inl (b, b)) (.inl (c, c)) 32 34 36 40 44 48) rc (rdD (.inl (g_2, g_2)) (.inl (n, n)) (.inl (f, f)) (.inl (w, w)) (.inr [27])) (xB 400 T) ya (xD 14 RA) yc (xD 4 SA) ye yf rC rD wd1 wd2 wd3 wd4 ws1 ws2 ws3 ws4 wi1 wi2 wi3 wi4) H := hH
  refine z_ne (tgt := 18) F dX3_readAge_6 (by decide) (fun c_5 => ?_) (fun c_5 => ?_)
  · skip
    have r_6 : 1 ≤ z_1.toInt ∧ z_1.toInt ≤ 1 := by have h9_ := f_3; omega
    refine lv_aload_n F.1 F.2.1 dX3_readAge_18 rfl (lv_at hl 0 rfl) ?_
    refine tVv (b := a0) (As := []) (rest := []) F hK hN hO (c_X3_skipBlanks E dA dB rA (riverD (.inl (a, a)) (.inl (b, b)) (.inl (c, c)) 32 34 36 40 44 48) rc ya (xD 14 RA) yc (xD 4 SA) ye yf rC rD wd1 wd2 wd3 wd4 ws1 ws2 ws3 ws4 wi1 wi2 wi3 wi4 ((.inl (f, f))) ((.inl (w, w))) (.inr [27]) n g_2 T a0 ha0 (by omega) (by omega) hT) mv_X3_skipBlanks wd_9_14 ⟨Nat.le_of_ble_eq_true rfl, Nat.le_of_ble_eq_true rfl⟩ ⟨Nat.le_of_ble_eq_true rfl, Nat.le_of_ble_eq_true rfl⟩ hH hS (tRecv hK hH (tyb ha0 (all1 rfl)) clX3) rfl hl.1 (Nat.le_of_ble_eq_true rfl) dX3_readAge_19 (fun H locs hq hS => ?_)
    obtain ⟨g_9, hg_9, hH⟩ := hq
    have hH : TH E (tbC dA dB rA (riverD (.inl (a, a)) (.inl (b, b)) (.inl (c, c)) 32 34 36 40 44 48) rc (rdD (.inl (g_9, g_9)) (.inl (n, n)) (.inl (f, f)) (.inl (w, w)) (.inr [27])) (xB 400 T) ya (xD 14 RA) yc (xD 4 SA) ye yf rC rD wd1 wd2 wd3 wd4 ws1 ws2 ws3 ws4 wi1 wi2 wi3 wi4) H := hH
    refine lv_aload_n F.1 F.2.1 dX3_readAge_22 rfl (lv_at hl 0 rfl) ?_
    refine tGetI (j := 2) F hK hH (tyb ha0 (all1 rfl)) rfl clX3 (by decide) wd_9_4 dX3_readAge_23 (fun z_10 hz_10 => ?_)
    have ez_10 : 0 ≤ z_10.toInt ∧ z_10.toInt ≤ 400 := by omega
    refine lv_istore_n (lv' := [(1, .int z_10), (0, .ref a0)]) F.1 F.2.1 dX3_readAge_26 rfl hl (by decide) rfl (fun ls hl => ?_)
    refine lv_aload_n F.1 F.2.1 dX3_readAge_27 rfl (lv_at hl 1 rfl) ?_
    refine lv_iconst (v := 0) F.1 F.2.1 dX3_readAge_28 (by decide) ?_
    refine topK (a := 0) (by decide) (fun k_11 hk_11 => ?_)
    refine lv_sipush (v := 9999) F.1 F.2.1 dX3_readAge_29 (by decide) ?_
    refine topK (a := 9999) (by decide) (fun k_12 hk_12 => ?_)
    refine tVi (b := a0) (As := [.int k_11, .int k_12]) (rest := []) F hK hN hO (c_X3_readNumber E dA dB rA (riverD (.inl (a, a)) (.inl (b, b)) (.inl (c, c)) 32 34 36 40 44 48) rc ya (xD 14 RA) yc (xD 4 SA) ye yf rC rD wd1 wd2 wd3 wd4 ws1 ws2 ws3 ws4 wi1 wi2 wi3 wi4 ((.inl (w, w))) (.inr [27]) n g_9 f T 0 9999 a0 k_11 k_12 ha0 (by omega) (by omega) (by omega) hT (by omega) (by omega)) mv_X3_readNumber wd_12_19 ⟨Nat.le_of_ble_eq_true rfl, Nat.le_of_ble_eq_true rfl⟩ ⟨Nat.le_of_ble_eq_true rfl, Nat.le_of_ble_eq_true rfl⟩ hH hS (tRecv hK hH (tyb ha0 (all1 rfl)) clX3) rfl hl.1 (Nat.le_of_ble_eq_true rfl) dX3_readAge_32 (fun z_13 H locs hq hS => ?_)
    obtain ⟨g_14, hg_14, g_15, hg_15, f_16, f_17, f_18, f_19, hH⟩ := hq
    have hH : TH E (tbC dA dB rA (riverD (.inl (a, a)) (.inl (b, b)) (.inl (c, c)) 32 34 36 40 44 48) rc (rdD (.inl (g_14, g_14)) (.inl (n, n)) (.inl (g_15, g_15)) (.inl (w, w)) (.inr [27])) (xB 400 T) ya (xD 14 RA) yc (xD 4 SA) ye yf rC rD wd1 wd2 wd3 wd4 ws1 ws2 ws3 ws4 wi1 wi2 wi3 wi4) H := hH
    have ez_13 : 0 ≤ z_13.toInt ∧ z_13.toInt ≤ 9999 := by omega
    refine lv_istore_n (lv' := [(2, .int z_13), (1, .int z_10), (0, .ref a0)]) F.1 F.2.1 dX3_readAge_35 rfl hl (by decide) rfl (fun ls hl => ?_)
    refine lv_aload_n F.1 F.2.1 dX3_readAge_36 rfl (lv_at hl 2 rfl) ?_
    refine tGetR (j := 5) F hK hH (tyb ha0 (all1 rfl)) rfl (all1 rfl) clX3 (by decide) wd_5_18 dX3_readAge_37 (fun q_20 hq_20 _ => ?_)
    refine lv_iload_n F.1 F.2.1 dX3_readAge_40 rfl (lv_at hl 0 rfl) ?_
    refine tVi (b := q_20) (As := [.int z_13]) (rest := []) F hK hN hO (c_X2_hasAge_2 E dA dB rA rc (rdD (.inl (g_14, g_14)) (.inl (n, n)) (.inl (g_15, g_15)) (.inl (w, w)) (.inr [27])) (xB 400 T) ya yc ye yf rC rD wd1 wd2 wd3 wd4 ws1 ws2 ws3 ws4 wi1 wi2 wi3 wi4 a b c RA SA z_13.toInt q_20 z_13 hq_20 (by omega) (by omega) (by omega) hRA hSA (by omega)) mv_X2_hasAge wd_13_19 ⟨Nat.le_of_ble_eq_true rfl, Nat.le_of_ble_eq_true rfl⟩ ⟨Nat.le_of_ble_eq_true rfl, Nat.le_of_ble_eq_true rfl⟩ hH hS (tRecv hK hH (tyb hq_20 (all1 rfl)) clX2) rfl hl.1 (Nat.le_of_ble_eq_true rfl) dX3_readAge_41 (fun z_21 H locs hq hS => ?_)
    obtain ⟨f_22, f_23, hH⟩ := hq
    have hH : TH E (tbC dA dB rA (riverD (.inl (a, a)) (.inl (b, b)) (.inl (c, c)) 32 34 36 40 44 48) rc (rdD (.inl (g_14, g_14)) (.inl (n, n)) (.inl (g_15, g_15)) (.inl (w, w)) (.inr [27])) (xB 400 T) ya (xD 14 RA) yc (xD 4 SA) ye yf rC rD wd1 wd2 wd3 wd4 ws1 ws2 ws3 ws4 wi1 wi2 wi3 wi4) H := hH
    refine z_eq (tgt := 53) F dX3_readAge_44 (by decide) (fun c_24 => ?_) (fun c_24 => ?_)
    · skip
      have r_25 : 0 ≤ z_21.toInt ∧ z_21.toInt ≤ 0 := by have h9_ := f_22; omega
      refine lv_iload_n F.1 F.2.1 dX3_readAge_53 rfl (lv_at hl 0 rfl) ?_
      exact txI F hS dX3_readAge_54 rfl (⟨g_14, ⟨by omega, by omega, (age_k (f4 := g_15) f_4 hg_2.2.2 hg_9.2.2 hg_14.2.2 hg_15.2.2 f_19 f_23 (by omega) (by omega)).1⟩, g_15, ⟨by omega, by omega, (age_k (f4 := g_15) f_4 hg_2.2.2 hg_9.2.2 hg_14.2.2 hg_15.2.2 f_19 f_23 (by omega) (by omega)).2.1⟩, ez_13, (age_k (f4 := g_15) f_4 hg_2.2.2 hg_9.2.2 hg_14.2.2 hg_15.2.2 f_19 f_23 (by omega) (by omega)).2.2, hH⟩)
    · skip
      have r_26 : 1 ≤ z_21.toInt ∧ z_21.toInt ≤ 1 := by have h9_ := f_22; omega
      refine lv_aload_n F.1 F.2.1 dX3_readAge_47 rfl (lv_at hl 2 rfl) ?_
      refine lv_iload_n F.1 F.2.1 dX3_readAge_48 rfl (lv_at hl 1 rfl) ?_
      refine lv_iconst (v := 2) F.1 F.2.1 dX3_readAge_49 (by decide) ?_
      refine topK (a := 2) (by decide) (fun k_27 hk_27 => ?_)
      refine tVv (b := a0) (As := [.int z_10, .int k_27]) (rest := []) F hK hN hO (c_X3_blame E dA dB rA (riverD (.inl (a, a)) (.inl (b, b)) (.inl (c, c)) 32 34 36 40 44 48) rc (xB 400 T) ya (xD 14 RA) yc (xD 4 SA) ye yf rC rD wd1 wd2 wd3 wd4 ws1 ws2 ws3 ws4 wi1 wi2 wi3 wi4 ((.inl (n, n))) ((.inl (g_14, g_14))) ((.inl (w, w))) (.inr [27]) g_15 g_9 2 a0 z_10 k_27 ha0 ez_10 (wkb (eqb hk_27) rfl rfl) (by omega) (by omega) (by omega)) mv_X3_blame wd_12_11 ⟨Nat.le_of_ble_eq_true rfl, Nat.le_of_ble_eq_true rfl⟩ ⟨Nat.le_of_ble_eq_true rfl, Nat.le_of_ble_eq_true rfl⟩ hH hS (tRecv hK hH (tyb ha0 (all1 rfl)) clX3) rfl hl.1 (Nat.le_of_ble_eq_true rfl) dX3_readAge_50 (fun H locs hq hS => ?_)
      obtain ⟨g_29, hg_29, hH⟩ := hq
      have hH : TH E (tbC dA dB rA (riverD (.inl (a, a)) (.inl (b, b)) (.inl (c, c)) 32 34 36 40 44 48) rc (rdD (.inl (g_14, g_14)) (.inl (n, n)) (.inl (g_29, g_29)) (.inl (w, w)) (.inr [27])) (xB 400 T) ya (xD 14 RA) yc (xD 4 SA) ye yf rC rD wd1 wd2 wd3 wd4 ws1 ws2 ws3 ws4 wi1 wi2 wi3 wi4) H := hH
      refine lv_iload_n F.1 F.2.1 dX3_readAge_53 rfl (lv_at hl 0 rfl) ?_
      exact txI F hS dX3_readAge_54 rfl (⟨g_14, ⟨by omega, by omega, (age_k (f4 := g_29) f_4 hg_2.2.2 hg_9.2.2 hg_14.2.2 hg_15.2.2 f_19 f_23 (by omega) (by omega)).1⟩, g_29, ⟨by omega, by omega, (age_k (f4 := g_29) f_4 hg_2.2.2 hg_9.2.2 hg_14.2.2 hg_15.2.2 f_19 f_23 (by omega) (by omega)).2.1⟩, ez_13, (age_k (f4 := g_29) f_4 hg_2.2.2 hg_9.2.2 hg_14.2.2 hg_15.2.2 f_19 f_23 (by omega) (by omega)).2.2, hH⟩)
  · skip
    have r_7 : 0 ≤ z_1.toInt ∧ z_1.toInt ≤ 0 := by have h9_ := f_3; omega
    refine lv_aload_n F.1 F.2.1 dX3_readAge_9 rfl (lv_at hl 0 rfl) ?_
    refine lv_aload_n F.1 F.2.1 dX3_readAge_10 rfl (lv_at hl 0 rfl) ?_
    refine tGetI (j := 2) F hK hH (tyb ha0 (all1 rfl)) rfl clX3 (by decide) wd_9_4 dX3_readAge_11 (fun z_30 hz_30 => ?_)
    have ez_30 : 0 ≤ z_30.toInt ∧ z_30.toInt ≤ 400 := by omega
    refine lv_iconst (v := 1) F.1 F.2.1 dX3_readAge_14 (by decide) ?_
    refine topK (a := 1) (by decide) (fun k_31 hk_31 => ?_)
    refine tVv (b := a0) (As := [.int z_30, .int k_31]) (rest := []) F hK hN hO (c_X3_blame E dA dB rA (riverD (.inl (a, a)) (.inl (b, b)) (.inl (c, c)) 32 34 36 40 44 48) rc (xB 400 T) ya (xD 14 RA) yc (xD 4 SA) ye yf rC rD wd1 wd2 wd3 wd4 ws1 ws2 ws3 ws4 wi1 wi2 wi3 wi4 ((.inl (n, n))) ((.inl (g_2, g_2))) ((.inl (w, w))) (.inr [27]) f g_2 1 a0 z_30 k_31 ha0 ez_30 (wkb (eqb hk_31) rfl rfl) (by omega) (by omega) (by omega)) mv_X3_blame wd_12_11 ⟨Nat.le_of_ble_eq_true rfl, Nat.le_of_ble_eq_true rfl⟩ ⟨Nat.le_of_ble_eq_true rfl, Nat.le_of_ble_eq_true rfl⟩ hH hS (tRecv hK hH (tyb ha0 (all1 rfl)) clX3) rfl hl.1 (Nat.le_of_ble_eq_true rfl) dX3_readAge_15 (fun H locs hq hS => ?_)
    obtain ⟨g_33, hg_33, hH⟩ := hq
    have hH : TH E (tbC dA dB rA (riverD (.inl (a, a)) (.inl (b, b)) (.inl (c, c)) 32 34 36 40 44 48) rc (rdD (.inl (g_2, g_2)) (.inl (n, n)) (.inl (g_33, g_33)) (.inl (w, w)) (.inr [27])) (xB 400 T) ya (xD 14 RA) yc (xD 4 SA) ye yf rC rD wd1 wd2 wd3 wd4 ws1 ws2 ws3 ws4 wi1 wi2 wi3 wi4) H := hH
    refine lv_aload_n F.1 F.2.1 dX3_readAge_18 rfl (lv_at hl 0 rfl) ?_
    refine tVv (b := a0) (As := []) (rest := []) F hK hN hO (c_X3_skipBlanks E dA dB rA (riverD (.inl (a, a)) (.inl (b, b)) (.inl (c, c)) 32 34 36 40 44 48) rc ya (xD 14 RA) yc (xD 4 SA) ye yf rC rD wd1 wd2 wd3 wd4 ws1 ws2 ws3 ws4 wi1 wi2 wi3 wi4 ((.inl (g_33, g_33))) ((.inl (w, w))) (.inr [27]) n g_2 T a0 ha0 (by omega) (by omega) hT) mv_X3_skipBlanks wd_9_14 ⟨Nat.le_of_ble_eq_true rfl, Nat.le_of_ble_eq_true rfl⟩ ⟨Nat.le_of_ble_eq_true rfl, Nat.le_of_ble_eq_true rfl⟩ hH hS (tRecv hK hH (tyb ha0 (all1 rfl)) clX3) rfl hl.1 (Nat.le_of_ble_eq_true rfl) dX3_readAge_19 (fun H locs hq hS => ?_)
    obtain ⟨g_35, hg_35, hH⟩ := hq
    have hH : TH E (tbC dA dB rA (riverD (.inl (a, a)) (.inl (b, b)) (.inl (c, c)) 32 34 36 40 44 48) rc (rdD (.inl (g_35, g_35)) (.inl (n, n)) (.inl (g_33, g_33)) (.inl (w, w)) (.inr [27])) (xB 400 T) ya (xD 14 RA) yc (xD 4 SA) ye yf rC rD wd1 wd2 wd3 wd4 ws1 ws2 ws3 ws4 wi1 wi2 wi3 wi4) H := hH
    refine lv_aload_n F.1 F.2.1 dX3_readAge_22 rfl (lv_at hl 0 rfl) ?_
    refine tGetI (j := 2) F hK hH (tyb ha0 (all1 rfl)) rfl clX3 (by decide) wd_9_4 dX3_readAge_23 (fun z_36 hz_36 => ?_)
    have ez_36 : 0 ≤ z_36.toInt ∧ z_36.toInt ≤ 400 := by omega
    refine lv_istore_n (lv' := [(1, .int z_36), (0, .ref a0)]) F.1 F.2.1 dX3_readAge_26 rfl hl (by decide) rfl (fun ls hl => ?_)
    refine lv_aload_n F.1 F.2.1 dX3_readAge_27 rfl (lv_at hl 1 rfl) ?_
    refine lv_iconst (v := 0) F.1 F.2.1 dX3_readAge_28 (by decide) ?_
    refine topK (a := 0) (by decide) (fun k_37 hk_37 => ?_)
    refine lv_sipush (v := 9999) F.1 F.2.1 dX3_readAge_29 (by decide) ?_
    refine topK (a := 9999) (by decide) (fun k_38 hk_38 => ?_)
    refine tVi (b := a0) (As := [.int k_37, .int k_38]) (rest := []) F hK hN hO (c_X3_readNumber E dA dB rA (riverD (.inl (a, a)) (.inl (b, b)) (.inl (c, c)) 32 34 36 40 44 48) rc ya (xD 14 RA) yc (xD 4 SA) ye yf rC rD wd1 wd2 wd3 wd4 ws1 ws2 ws3 ws4 wi1 wi2 wi3 wi4 ((.inl (w, w))) (.inr [27]) n g_35 g_33 T 0 9999 a0 k_37 k_38 ha0 (by omega) (by omega) (by omega) hT (by omega) (by omega)) mv_X3_readNumber wd_12_19 ⟨Nat.le_of_ble_eq_true rfl, Nat.le_of_ble_eq_true rfl⟩ ⟨Nat.le_of_ble_eq_true rfl, Nat.le_of_ble_eq_true rfl⟩ hH hS (tRecv hK hH (tyb ha0 (all1 rfl)) clX3) rfl hl.1 (Nat.le_of_ble_eq_true rfl) dX3_readAge_32 (fun z_39 H locs hq hS => ?_)
    obtain ⟨g_40, hg_40, g_41, hg_41, f_42, f_43, f_44, f_45, hH⟩ := hq
    have hH : TH E (tbC dA dB rA (riverD (.inl (a, a)) (.inl (b, b)) (.inl (c, c)) 32 34 36 40 44 48) rc (rdD (.inl (g_40, g_40)) (.inl (n, n)) (.inl (g_41, g_41)) (.inl (w, w)) (.inr [27])) (xB 400 T) ya (xD 14 RA) yc (xD 4 SA) ye yf rC rD wd1 wd2 wd3 wd4 ws1 ws2 ws3 ws4 wi1 wi2 wi3 wi4) H := hH
    have ez_39 : 0 ≤ z_39.toInt ∧ z_39.toInt ≤ 9999 := by omega
    refine lv_istore_n (lv' := [(2, .int z_39), (1, .int z_36), (0, .ref a0)]) F.1 F.2.1 dX3_readAge_35 rfl hl (by decide) rfl (fun ls hl => ?_)
    refine lv_aload_n F.1 F.2.1 dX3_readAge_36 rfl (lv_at hl 2 rfl) ?_
    refine tGetR (j := 5) F hK hH (tyb ha0 (all1 rfl)) rfl (all1 rfl) clX3 (by decide) wd_5_18 dX3_readAge_37 (fun q_46 hq_46 _ => ?_)
    refine lv_iload_n F.1 F.2.1 dX3_readAge_40 rfl (lv_at hl 0 rfl) ?_
    refine tVi (b := q_46) (As := [.int z_39]) (rest := []) F hK hN hO (c_X2_hasAge_2 E dA dB rA rc (rdD (.inl (g_40, g_40)) (.inl (n, n)) (.inl (g_41, g_41)) (.inl (w, w)) (.inr [27])) (xB 400 T) ya yc ye yf rC rD wd1 wd2 wd3 wd4 ws1 ws2 ws3 ws4 wi1 wi2 wi3 wi4 a b c RA SA z_39.toInt q_46 z_39 hq_46 (by omega) (by omega) (by omega) hRA hSA (by omega)) mv_X2_hasAge wd_13_19 ⟨Nat.le_of_ble_eq_true rfl, Nat.le_of_ble_eq_true rfl⟩ ⟨Nat.le_of_ble_eq_true rfl, Nat.le_of_ble_eq_true rfl⟩ hH hS (tRecv hK hH (tyb hq_46 (all1 rfl)) clX2) rfl hl.1 (Nat.le_of_ble_eq_true rfl) dX3_readAge_41 (fun z_47 H locs hq hS => ?_)
    obtain ⟨f_48, f_49, hH⟩ := hq
    have hH : TH E (tbC dA dB rA (riverD (.inl (a, a)) (.inl (b, b)) (.inl (c, c)) 32 34 36 40 44 48) rc (rdD (.inl (g_40, g_40)) (.inl (n, n)) (.inl (g_41, g_41)) (.inl (w, w)) (.inr [27])) (xB 400 T) ya (xD 14 RA) yc (xD 4 SA) ye yf rC rD wd1 wd2 wd3 wd4 ws1 ws2 ws3 ws4 wi1 wi2 wi3 wi4) H := hH
    refine z_eq (tgt := 53) F dX3_readAge_44 (by decide) (fun c_50 => ?_) (fun c_50 => ?_)
    · skip
      have r_51 : 0 ≤ z_47.toInt ∧ z_47.toInt ≤ 0 := by have h9_ := f_48; omega
      refine lv_iload_n F.1 F.2.1 dX3_readAge_53 rfl (lv_at hl 0 rfl) ?_
      exact txI F hS dX3_readAge_54 rfl (⟨g_40, ⟨by omega, by omega, (age_k (f4 := g_41) f_4 hg_2.2.2 hg_35.2.2 hg_40.2.2 hg_41.2.2 f_45 f_49 (by omega) (by omega)).1⟩, g_41, ⟨by omega, by omega, (age_k (f4 := g_41) f_4 hg_2.2.2 hg_35.2.2 hg_40.2.2 hg_41.2.2 f_45 f_49 (by omega) (by omega)).2.1⟩, ez_39, (age_k (f4 := g_41) f_4 hg_2.2.2 hg_35.2.2 hg_40.2.2 hg_41.2.2 f_45 f_49 (by omega) (by omega)).2.2, hH⟩)
    · skip
      have r_52 : 1 ≤ z_47.toInt ∧ z_47.toInt ≤ 1 := by have h9_ := f_48; omega
      refine lv_aload_n F.1 F.2.1 dX3_readAge_47 rfl (lv_at hl 2 rfl) ?_
      refine lv_iload_n F.1 F.2.1 dX3_readAge_48 rfl (lv_at hl 1 rfl) ?_
      refine lv_iconst (v := 2) F.1 F.2.1 dX3_readAge_49 (by decide) ?_
      refine topK (a := 2) (by decide) (fun k_53 hk_53 => ?_)
      refine tVv (b := a0) (As := [.int z_36, .int k_53]) (rest := []) F hK hN hO (c_X3_blame E dA dB rA (riverD (.inl (a, a)) (.inl (b, b)) (.inl (c, c)) 32 34 36 40 44 48) rc (xB 400 T) ya (xD 14 RA) yc (xD 4 SA) ye yf rC rD wd1 wd2 wd3 wd4 ws1 ws2 ws3 ws4 wi1 wi2 wi3 wi4 ((.inl (n, n))) ((.inl (g_40, g_40))) ((.inl (w, w))) (.inr [27]) g_41 g_35 2 a0 z_36 k_53 ha0 ez_36 (wkb (eqb hk_53) rfl rfl) (by omega) (by omega) (by omega)) mv_X3_blame wd_12_11 ⟨Nat.le_of_ble_eq_true rfl, Nat.le_of_ble_eq_true rfl⟩ ⟨Nat.le_of_ble_eq_true rfl, Nat.le_of_ble_eq_true rfl⟩ hH hS (tRecv hK hH (tyb ha0 (all1 rfl)) clX3) rfl hl.1 (Nat.le_of_ble_eq_true rfl) dX3_readAge_50 (fun H locs hq hS => ?_)
      obtain ⟨g_55, hg_55, hH⟩ := hq
      have hH : TH E (tbC dA dB rA (riverD (.inl (a, a)) (.inl (b, b)) (.inl (c, c)) 32 34 36 40 44 48) rc (rdD (.inl (g_40, g_40)) (.inl (n, n)) (.inl (g_55, g_55)) (.inl (w, w)) (.inr [27])) (xB 400 T) ya (xD 14 RA) yc (xD 4 SA) ye yf rC rD wd1 wd2 wd3 wd4 ws1 ws2 ws3 ws4 wi1 wi2 wi3 wi4) H := hH
      refine lv_iload_n F.1 F.2.1 dX3_readAge_53 rfl (lv_at hl 0 rfl) ?_
      exact txI F hS dX3_readAge_54 rfl (⟨g_40, ⟨by omega, by omega, (age_k (f4 := g_55) f_4 hg_2.2.2 hg_35.2.2 hg_40.2.2 hg_41.2.2 f_45 f_49 (by omega) (by omega)).1⟩, g_55, ⟨by omega, by omega, (age_k (f4 := g_55) f_4 hg_2.2.2 hg_35.2.2 hg_40.2.2 hg_41.2.2 f_45 f_49 (by omega) (by omega)).2.1⟩, ez_39, (age_k (f4 := g_55) f_4 hg_2.2.2 hg_35.2.2 hg_40.2.2 hg_41.2.2 f_45 f_49 (by omega) (by omega)).2.2, hH⟩)
set_option maxHeartbeats 4000000 in
set_option maxRecDepth 100000 in
theorem c_X3_readWet_1 (E : Ev) (dA : TD) (dB : TD) (rB : TD) (rc : TD) (yb : TD) (yd : TD) (ye : TD) (yf : TD) (rC : TD) (rD : TD) (wd1 : TD) (wd2 : TD) (wd3 : TD) (wd4 : TD) (ws1 : TD) (ws2 : TD) (ws3 : TD) (ws4 : TD) (wi1 : TD) (wi2 : TD) (wi3 : TD) (wi4 : TD) (a : Int) (b : Int) (c : Int) (n : Int) (p : Int) (f : Int) (w : Int) (T : Nat → Int32) (RA : Nat → Int32) (SA : Nat → Int32) (st : Int) (a0 : Nat) (a1 : Int32) (ha0 : eT E a0 ∈ [29]) (ha1 : 0 ≤ a1.toInt ∧ a1.toInt ≤ 400) (ha : 0 ≤ a ∧ a ≤ 12) (hb : 0 ≤ b ∧ b ≤ 14) (hc : 0 ≤ c ∧ c ≤ 4) (hn : 0 ≤ n ∧ n ≤ 400) (hp : 0 ≤ p ∧ p ≤ 400) (hf : 0 ≤ f ∧ f ≤ 4000) (hw : 0 ≤ w ∧ w ≤ 1) (hT : ivP 400 (-128) 127 T) (hRA : ivP 14 (-2147483648) 2147483647 RA) (hSA : ivP 4 (-2147483648) 2147483647 SA) (hst : a1.toInt = st) : TcV E yX3_readWet cX3_readWet 2 ({ frames := 3, cells := 0, slots := 0, locals := 86 }) [.ref a0, .int a1] (fun H => TH E (tbC dA dB (riverD (.inl (a, a)) (.inl (b, b)) (.inl (c, c)) 31 33 35 39 43 47) rB rc (rdD (.inl (p, p)) (.inl (n, n)) (.inl (f, f)) (.inl (w, w)) (.inr [26])) (xB 400 T) (xD 14 RA) yb (xD 4 SA) yd ye yf rC rD wd1 wd2 wd3 wd4 ws1 ws2 ws3 ws4 wi1 wi2 wi3 wi4) H) (fun H => ∃ p2 : Int, (0 ≤ p2 ∧ p2 ≤ 400) ∧ ∃ f2 : Int, (0 ≤ f2 ∧ f2 ≤ 4000) ∧ ∃ w2 : Int, (0 ≤ w2 ∧ w2 ≤ 1 ∧ (p2, f2, w2, a, b, c, RA, SA) = kWet T n st (p, f, w, a, b, c, RA, SA)) ∧ TH E (tbC dA dB (riverD (.inl (a, a)) (.inl (b, b)) (.inl (c, c)) 31 33 35 39 43 47) rB rc (rdD (.inl (p2, p2)) (.inl (n, n)) (.inl (f2, f2)) (.inl (w2, w2)) (.inr [26])) (xB 400 T) (xD 14 RA) yb (xD 4 SA) yd ye yf rC rD wd1 wd2 wd3 wd4 ws1 ws2 ws3 ws4 wi1 wi2 wi3 wi4) H) := by
  refine teV (by decide) (Nat.le_of_ble_eq_true rfl) ?_
  intro p_ ev_ s mi_ below_ meth cd_ ls F hK hN hO hH hS hl
  have hH : TH E (tbC dA dB (riverD (.inl (a, a)) (.inl (b, b)) (.inl (c, c)) 31 33 35 39 43 47) rB rc (rdD (.inl (p, p)) (.inl (n, n)) (.inl (f, f)) (.inl (w, w)) (.inr [26])) (xB 400 T) (xD 14 RA) yb (xD 4 SA) yd ye yf rC rD wd1 wd2 wd3 wd4 ws1 ws2 ws3 ws4 wi1 wi2 wi3 wi4) s.heap := hH
  have hl : lv_has ls 2 [(0, .ref a0), (1, .int a1)] := hl
  refine lv_aload_n F.1 F.2.1 dX3_readWet_0 rfl (lv_at hl 0 rfl) ?_
  refine tGetI (j := 4) F hK hH (tyb ha0 (all1 rfl)) rfl clX3 (by decide) wd_9_6 dX3_readWet_1 (fun z_1 hz_1 => ?_)
  have ez_1 : 0 ≤ z_1.toInt ∧ z_1.toInt ≤ 1 := by omega
  refine z_eq (tgt := 14) F dX3_readWet_4 (by decide) (fun c_2 => ?_) (fun c_2 => ?_)
  · skip
    have r_3 : 0 ≤ z_1.toInt ∧ z_1.toInt ≤ 0 := by have h9_ := ez_1; omega
    refine lv_aload_n F.1 F.2.1 dX3_readWet_14 rfl (lv_at hl 0 rfl) ?_
    refine lv_iconst (v := 1) F.1 F.2.1 dX3_readWet_15 (by decide) ?_
    refine topK (a := 1) (by decide) (fun k_5 hk_5 => ?_)
    refine tPutG (j := 4) (t := 29) (fd := (.inl (1, 1))) F hK hH hS (List.mem_singleton.mp ha0) (by decide) rfl rfl (fdI (by omega)) (TB1 := (tbC dA dB (riverD (.inl (a, a)) (.inl (b, b)) (.inl (c, c)) 31 33 35 39 43 47) rB rc (rdD (.inl (p, p)) (.inl (n, n)) (.inl (f, f)) (.inl (1, 1)) (.inr [26])) (xB 400 T) (xD 14 RA) yb (xD 4 SA) yd ye yf rC rD wd1 wd2 wd3 wd4 ws1 ws2 ws3 ws4 wi1 wi2 wi3 wi4)) rfl clX3 (by decide) wd_9_6 rfl rfl (nar01 (wkb (eqb hk_5) rfl rfl)) (fit01 (wkb (eqb hk_5) rfl rfl)) dX3_readWet_16 (fun H locs hH hS => ?_)
    refine lv_aload_n F.1 F.2.1 dX3_readWet_19 rfl (lv_at hl 0 rfl) ?_
    refine tGetR (j := 5) F hK hH (tyb ha0 (all1 rfl)) rfl (all1 rfl) clX3 (by decide) wd_5_18 dX3_readWet_20 (fun q_6 hq_6 _ => ?_)
    refine lv_aload_n F.1 F.2.1 dX3_readWet_23 rfl (lv_at hl 0 rfl) ?_
    refine lv_iconst (v := 0) F.1 F.2.1 dX3_readWet_24 (by decide) ?_
    refine topK (a := 0) (by decide) (fun k_7 hk_7 => ?_)
    refine lv_sipush (v := 400) F.1 F.2.1 dX3_readWet_25 (by decide) ?_
    refine topK (a := 400) (by decide) (fun k_8 hk_8 => ?_)
    refine tVi (b := a0) (As := [.int k_7, .int k_8]) (rest := [.ref q_6]) F hK hN hO (c_X3_readNumber E dA dB (riverD (.inl (a, a)) (.inl (b, b)) (.inl (c, c)) 31 33 35 39 43 47) rB rc (xD 14 RA) yb (xD 4 SA) yd ye yf rC rD wd1 wd2 wd3 wd4 ws1 ws2 ws3 ws4 wi1 wi2 wi3 wi4 ((.inl (1, 1))) (.inr [26]) n p f T 0 400 a0 k_7 k_8 ha0 (by omega) (by omega) (by omega) hT (by omega) (by omega)) mv_X3_readNumber wd_12_19 ⟨Nat.le_of_ble_eq_true rfl, Nat.le_of_ble_eq_true rfl⟩ ⟨Nat.le_of_ble_eq_true rfl, Nat.le_of_ble_eq_true rfl⟩ hH hS (tRecv hK hH (tyb ha0 (all1 rfl)) clX3) rfl hl.1 (Nat.le_of_ble_eq_true rfl) dX3_readWet_28 (fun z_9 H locs hq hS => ?_)
    obtain ⟨g_10, hg_10, g_11, hg_11, f_12, f_13, f_14, f_15, hH⟩ := hq
    have hH : TH E (tbC dA dB (riverD (.inl (a, a)) (.inl (b, b)) (.inl (c, c)) 31 33 35 39 43 47) rB rc (rdD (.inl (g_10, g_10)) (.inl (n, n)) (.inl (g_11, g_11)) (.inl (1, 1)) (.inr [26])) (xB 400 T) (xD 14 RA) yb (xD 4 SA) yd ye yf rC rD wd1 wd2 wd3 wd4 ws1 ws2 ws3 ws4 wi1 wi2 wi3 wi4) H := hH
    have ez_9 : 0 ≤ z_9.toInt ∧ z_9.toInt ≤ 400 := by omega
    refine tPut (j := 19) F hK hH hS (tyb hq_6 (all1 rfl)) rfl (fdI (wkb ez_9 rfl rfl)) clX2 (by decide) wd_14_12 rfl rfl rfl rfl dX3_readWet_31 (fun H locs hH hS => ?_)
    exact txV F hS dX3_readWet_34 (⟨g_10, (by omega), g_11, (by omega), 1, ⟨by omega, by omega, (wet_b (by omega) hg_10.2.2 hg_11.2.2)⟩, hH⟩)
  · skip
    have r_4 : 1 ≤ z_1.toInt ∧ z_1.toInt ≤ 1 := by have h9_ := ez_1; omega
    refine lv_aload_n F.1 F.2.1 dX3_readWet_7 rfl (lv_at hl 0 rfl) ?_
    refine lv_iload_n F.1 F.2.1 dX3_readWet_8 rfl (lv_at hl 1 rfl) ?_
    refine lv_iconst (v := 3) F.1 F.2.1 dX3_readWet_9 (by decide) ?_
    refine topK (a := 3) (by decide) (fun k_16 hk_16 => ?_)
    refine tVv (b := a0) (As := [.int a1, .int k_16]) (rest := []) F hK hN hO (c_X3_blame E dA dB (riverD (.inl (a, a)) (.inl (b, b)) (.inl (c, c)) 31 33 35 39 43 47) rB rc (xB 400 T) (xD 14 RA) yb (xD 4 SA) yd ye yf rC rD wd1 wd2 wd3 wd4 ws1 ws2 ws3 ws4 wi1 wi2 wi3 wi4 ((.inl (n, n))) ((.inl (p, p))) ((.inl (w, w))) (.inr [26]) f st 3 a0 a1 k_16 ha0 ha1 (wkb (eqb hk_16) rfl rfl) (by omega) (by omega) (by omega)) mv_X3_blame wd_12_11 ⟨Nat.le_of_ble_eq_true rfl, Nat.le_of_ble_eq_true rfl⟩ ⟨Nat.le_of_ble_eq_true rfl, Nat.le_of_ble_eq_true rfl⟩ hH hS (tRecv hK hH (tyb ha0 (all1 rfl)) clX3) rfl hl.1 (Nat.le_of_ble_eq_true rfl) dX3_readWet_10 (fun H locs hq hS => ?_)
    obtain ⟨g_18, hg_18, hH⟩ := hq
    have hH : TH E (tbC dA dB (riverD (.inl (a, a)) (.inl (b, b)) (.inl (c, c)) 31 33 35 39 43 47) rB rc (rdD (.inl (p, p)) (.inl (n, n)) (.inl (g_18, g_18)) (.inl (w, w)) (.inr [26])) (xB 400 T) (xD 14 RA) yb (xD 4 SA) yd ye yf rC rD wd1 wd2 wd3 wd4 ws1 ws2 ws3 ws4 wi1 wi2 wi3 wi4) H := hH
    exact txV F hS dX3_readWet_13 (⟨p, (by omega), g_18, (by omega), w, ⟨by omega, by omega, (wet_a (by omega) hg_18.2.2)⟩, hH⟩)
set_option maxHeartbeats 4000000 in
set_option maxRecDepth 100000 in
theorem c_X3_readWet_2 (E : Ev) (dA : TD) (dB : TD) (rA : TD) (rc : TD) (ya : TD) (yc : TD) (ye : TD) (yf : TD) (rC : TD) (rD : TD) (wd1 : TD) (wd2 : TD) (wd3 : TD) (wd4 : TD) (ws1 : TD) (ws2 : TD) (ws3 : TD) (ws4 : TD) (wi1 : TD) (wi2 : TD) (wi3 : TD) (wi4 : TD) (a : Int) (b : Int) (c : Int) (n : Int) (p : Int) (f : Int) (w : Int) (T : Nat → Int32) (RA : Nat → Int32) (SA : Nat → Int32) (st : Int) (a0 : Nat) (a1 : Int32) (ha0 : eT E a0 ∈ [29]) (ha1 : 0 ≤ a1.toInt ∧ a1.toInt ≤ 400) (ha : 0 ≤ a ∧ a ≤ 12) (hb : 0 ≤ b ∧ b ≤ 14) (hc : 0 ≤ c ∧ c ≤ 4) (hn : 0 ≤ n ∧ n ≤ 400) (hp : 0 ≤ p ∧ p ≤ 400) (hf : 0 ≤ f ∧ f ≤ 4000) (hw : 0 ≤ w ∧ w ≤ 1) (hT : ivP 400 (-128) 127 T) (hRA : ivP 14 (-2147483648) 2147483647 RA) (hSA : ivP 4 (-2147483648) 2147483647 SA) (hst : a1.toInt = st) : TcV E yX3_readWet cX3_readWet 2 ({ frames := 3, cells := 0, slots := 0, locals := 86 }) [.ref a0, .int a1] (fun H => TH E (tbC dA dB rA (riverD (.inl (a, a)) (.inl (b, b)) (.inl (c, c)) 32 34 36 40 44 48) rc (rdD (.inl (p, p)) (.inl (n, n)) (.inl (f, f)) (.inl (w, w)) (.inr [27])) (xB 400 T) ya (xD 14 RA) yc (xD 4 SA) ye yf rC rD wd1 wd2 wd3 wd4 ws1 ws2 ws3 ws4 wi1 wi2 wi3 wi4) H) (fun H => ∃ p2 : Int, (0 ≤ p2 ∧ p2 ≤ 400) ∧ ∃ f2 : Int, (0 ≤ f2 ∧ f2 ≤ 4000) ∧ ∃ w2 : Int, (0 ≤ w2 ∧ w2 ≤ 1 ∧ (p2, f2, w2, a, b, c, RA, SA) = kWet T n st (p, f, w, a, b, c, RA, SA)) ∧ TH E (tbC dA dB rA (riverD (.inl (a, a)) (.inl (b, b)) (.inl (c, c)) 32 34 36 40 44 48) rc (rdD (.inl (p2, p2)) (.inl (n, n)) (.inl (f2, f2)) (.inl (w2, w2)) (.inr [27])) (xB 400 T) ya (xD 14 RA) yc (xD 4 SA) ye yf rC rD wd1 wd2 wd3 wd4 ws1 ws2 ws3 ws4 wi1 wi2 wi3 wi4) H) := by
  refine teV (by decide) (Nat.le_of_ble_eq_true rfl) ?_
  intro p_ ev_ s mi_ below_ meth cd_ ls F hK hN hO hH hS hl
  have hH : TH E (tbC dA dB rA (riverD (.inl (a, a)) (.inl (b, b)) (.inl (c, c)) 32 34 36 40 44 48) rc (rdD (.inl (p, p)) (.inl (n, n)) (.inl (f, f)) (.inl (w, w)) (.inr [27])) (xB 400 T) ya (xD 14 RA) yc (xD 4 SA) ye yf rC rD wd1 wd2 wd3 wd4 ws1 ws2 ws3 ws4 wi1 wi2 wi3 wi4) s.heap := hH
  have hl : lv_has ls 2 [(0, .ref a0), (1, .int a1)] := hl
  refine lv_aload_n F.1 F.2.1 dX3_readWet_0 rfl (lv_at hl 0 rfl) ?_
  refine tGetI (j := 4) F hK hH (tyb ha0 (all1 rfl)) rfl clX3 (by decide) wd_9_6 dX3_readWet_1 (fun z_1 hz_1 => ?_)
  have ez_1 : 0 ≤ z_1.toInt ∧ z_1.toInt ≤ 1 := by omega
  refine z_eq (tgt := 14) F dX3_readWet_4 (by decide) (fun c_2 => ?_) (fun c_2 => ?_)
  · skip
    have r_3 : 0 ≤ z_1.toInt ∧ z_1.toInt ≤ 0 := by have h9_ := ez_1; omega
    refine lv_aload_n F.1 F.2.1 dX3_readWet_14 rfl (lv_at hl 0 rfl) ?_
    refine lv_iconst (v := 1) F.1 F.2.1 dX3_readWet_15 (by decide) ?_
    refine topK (a := 1) (by decide) (fun k_5 hk_5 => ?_)
    refine tPutG (j := 4) (t := 29) (fd := (.inl (1, 1))) F hK hH hS (List.mem_singleton.mp ha0) (by decide) rfl rfl (fdI (by omega)) (TB1 := (tbC dA dB rA (riverD (.inl (a, a)) (.inl (b, b)) (.inl (c, c)) 32 34 36 40 44 48) rc (rdD (.inl (p, p)) (.inl (n, n)) (.inl (f, f)) (.inl (1, 1)) (.inr [27])) (xB 400 T) ya (xD 14 RA) yc (xD 4 SA) ye yf rC rD wd1 wd2 wd3 wd4 ws1 ws2 ws3 ws4 wi1 wi2 wi3 wi4)) rfl clX3 (by decide) wd_9_6 rfl rfl (nar01 (wkb (eqb hk_5) rfl rfl)) (fit01 (wkb (eqb hk_5) rfl rfl)) dX3_readWet_16 (fun H locs hH hS => ?_)
    refine lv_aload_n F.1 F.2.1 dX3_readWet_19 rfl (lv_at hl 0 rfl) ?_
    refine tGetR (j := 5) F hK hH (tyb ha0 (all1 rfl)) rfl (all1 rfl) clX3 (by decide) wd_5_18 dX3_readWet_20 (fun q_6 hq_6 _ => ?_)
    refine lv_aload_n F.1 F.2.1 dX3_readWet_23 rfl (lv_at hl 0 rfl) ?_
    refine lv_iconst (v := 0) F.1 F.2.1 dX3_readWet_24 (by decide) ?_
    refine topK (a := 0) (by decide) (fun k_7 hk_7 => ?_)
    refine lv_sipush (v := 400) F.1 F.2.1 dX3_readWet_25 (by decide) ?_
    refine topK (a := 400) (by decide) (fun k_8 hk_8 => ?_)
    refine tVi (b := a0) (As := [.int k_7, .int k_8]) (rest := [.ref q_6]) F hK hN hO (c_X3_readNumber E dA dB rA (riverD (.inl (a, a)) (.inl (b, b)) (.inl (c, c)) 32 34 36 40 44 48) rc ya (xD 14 RA) yc (xD 4 SA) ye yf rC rD wd1 wd2 wd3 wd4 ws1 ws2 ws3 ws4 wi1 wi2 wi3 wi4 ((.inl (1, 1))) (.inr [27]) n p f T 0 400 a0 k_7 k_8 ha0 (by omega) (by omega) (by omega) hT (by omega) (by omega)) mv_X3_readNumber wd_12_19 ⟨Nat.le_of_ble_eq_true rfl, Nat.le_of_ble_eq_true rfl⟩ ⟨Nat.le_of_ble_eq_true rfl, Nat.le_of_ble_eq_true rfl⟩ hH hS (tRecv hK hH (tyb ha0 (all1 rfl)) clX3) rfl hl.1 (Nat.le_of_ble_eq_true rfl) dX3_readWet_28 (fun z_9 H locs hq hS => ?_)
    obtain ⟨g_10, hg_10, g_11, hg_11, f_12, f_13, f_14, f_15, hH⟩ := hq
    have hH : TH E (tbC dA dB rA (riverD (.inl (a, a)) (.inl (b, b)) (.inl (c, c)) 32 34 36 40 44 48) rc (rdD (.inl (g_10, g_10)) (.inl (n, n)) (.inl (g_11, g_11)) (.inl (1, 1)) (.inr [27])) (xB 400 T) ya (xD 14 RA) yc (xD 4 SA) ye yf rC rD wd1 wd2 wd3 wd4 ws1 ws2 ws3 ws4 wi1 wi2 wi3 wi4) H := hH
    have ez_9 : 0 ≤ z_9.toInt ∧ z_9.toInt ≤ 400 := by omega
    refine tPut (j := 19) F hK hH hS (tyb hq_6 (all1 rfl)) rfl (fdI (wkb ez_9 rfl rfl)) clX2 (by decide) wd_14_12 rfl rfl rfl rfl dX3_readWet_31 (fun H locs hH hS => ?_)
    exact txV F hS dX3_readWet_34 (⟨g_10, (by omega), g_11, (by omega), 1, ⟨by omega, by omega, (wet_b (by omega) hg_10.2.2 hg_11.2.2)⟩, hH⟩)
  · skip
    have r_4 : 1 ≤ z_1.toInt ∧ z_1.toInt ≤ 1 := by have h9_ := ez_1; omega
    refine lv_aload_n F.1 F.2.1 dX3_readWet_7 rfl (lv_at hl 0 rfl) ?_
    refine lv_iload_n F.1 F.2.1 dX3_readWet_8 rfl (lv_at hl 1 rfl) ?_
    refine lv_iconst (v := 3) F.1 F.2.1 dX3_readWet_9 (by decide) ?_
    refine topK (a := 3) (by decide) (fun k_16 hk_16 => ?_)
    refine tVv (b := a0) (As := [.int a1, .int k_16]) (rest := []) F hK hN hO (c_X3_blame E dA dB rA (riverD (.inl (a, a)) (.inl (b, b)) (.inl (c, c)) 32 34 36 40 44 48) rc (xB 400 T) ya (xD 14 RA) yc (xD 4 SA) ye yf rC rD wd1 wd2 wd3 wd4 ws1 ws2 ws3 ws4 wi1 wi2 wi3 wi4 ((.inl (n, n))) ((.inl (p, p))) ((.inl (w, w))) (.inr [27]) f st 3 a0 a1 k_16 ha0 ha1 (wkb (eqb hk_16) rfl rfl) (by omega) (by omega) (by omega)) mv_X3_blame wd_12_11 ⟨Nat.le_of_ble_eq_true rfl, Nat.le_of_ble_eq_true rfl⟩ ⟨Nat.le_of_ble_eq_true rfl, Nat.le_of_ble_eq_true rfl⟩ hH hS (tRecv hK hH (tyb ha0 (all1 rfl)) clX3) rfl hl.1 (Nat.le_of_ble_eq_true rfl) dX3_readWet_10 (fun H locs hq hS => ?_)
    obtain ⟨g_18, hg_18, hH⟩ := hq
    have hH : TH E (tbC dA dB rA (riverD (.inl (a, a)) (.inl (b, b)) (.inl (c, c)) 32 34 36 40 44 48) rc (rdD (.inl (p, p)) (.inl (n, n)) (.inl (g_18, g_18)) (.inl (w, w)) (.inr [27])) (xB 400 T) ya (xD 14 RA) yc (xD 4 SA) ye yf rC rD wd1 wd2 wd3 wd4 ws1 ws2 ws3 ws4 wi1 wi2 wi3 wi4) H := hH
    exact txV F hS dX3_readWet_13 (⟨p, (by omega), g_18, (by omega), w, ⟨by omega, by omega, (wet_a (by omega) hg_18.2.2)⟩, hH⟩)
set_option maxHeartbeats 4000000 in
set_option maxRecDepth 100000 in
theorem c_X3_readReach_1 (E : Ev) (dA : TD) (dB : TD) (rB : TD) (rc : TD) (yb : TD) (yd : TD) (ye : TD) (yf : TD) (rC : TD) (rD : TD) (wd2 : TD) (wd3 : TD) (wd4 : TD) (ws2 : TD) (ws3 : TD) (ws4 : TD) (wi2 : TD) (wi3 : TD) (wi4 : TD) (a : Int) (b : Int) (c : Int) (n : Int) (p : Int) (f : Int) (w : Int) (T : Nat → Int32) (RA : Nat → Int32) (SA : Nat → Int32) (D : Nat → Int32) (Kn : Nat → Int32) (Q : Nat → Int32) (st : Int) (a0 : Nat) (a1 : Int32) (ha0 : eT E a0 ∈ [29]) (ha1 : 0 ≤ a1.toInt ∧ a1.toInt ≤ 400) (ha : 0 ≤ a ∧ a ≤ 12) (hb : 0 ≤ b ∧ b ≤ 14) (hc : 0 ≤ c ∧ c ≤ 4) (hn : 0 ≤ n ∧ n ≤ 400) (hp : 0 ≤ p ∧ p ≤ 400) (hf : 0 ≤ f ∧ f ≤ 4000) (hw : 0 ≤ w ∧ w ≤ 1) (hT : ivP 400 (-128) 127 T) (hRA : ivP 14 (-2147483648) 2147483647 RA) (hSA : ivP 4 (-2147483648) 2147483647 SA) (hD : ivP 12 (-2) 11 D) (hKn : ivP 12 (-2147483648) 2147483647 Kn) (hQ : ivP 48 (-2147483648) 2147483647 Q) (hst : a1.toInt = st) : TcV E yX3_readReach cX3_readReach 4 ({ frames := 6, cells := 0, slots := 0, locals := 204 }) [.ref a0, .int a1] (fun H => TH E (tbC dA dB (riverD (.inl (a, a)) (.inl (b, b)) (.inl (c, c)) 31 33 35 39 43 47) rB rc (rdD (.inl (p, p)) (.inl (n, n)) (.inl (f, f)) (.inl (w, w)) (.inr [26])) (xB 400 T) (xD 14 RA) yb (xD 4 SA) yd ye yf rC rD (xD 12 D) wd2 wd3 wd4 (xD 12 Kn) ws2 ws3 ws4 (xD 48 Q) wi2 wi3 wi4) H) (fun H => ∃ p2 : Int, (0 ≤ p2 ∧ p2 ≤ 400) ∧ ∃ f2 : Int, (0 ≤ f2 ∧ f2 ≤ 4000) ∧ ∃ a2 : Int, (0 ≤ a2 ∧ a2 ≤ 12) ∧ ∃ D2 : Nat → Int32, (ivP 12 (-2) 11 D2) ∧ ∃ Kn2 : Nat → Int32, (ivP 12 (-2147483648) 2147483647 Kn2) ∧ ∃ Q2 : Nat → Int32, (ivP 48 (-2147483648) 2147483647 Q2 ∧ (p2, f2, w, a2, b, c, D2, Q2, Kn2, RA, SA) = cReach T n st (p, f, w, a, b, c, D, Q, Kn, RA, SA)) ∧ TH E (tbC dA dB (riverD (.inl (a2, a2)) (.inl (b, b)) (.inl (c, c)) 31 33 35 39 43 47) rB rc (rdD (.inl (p2, p2)) (.inl (n, n)) (.inl (f2, f2)) (.inl (w, w)) (.inr [26])) (xB 400 T) (xD 14 RA) yb (xD 4 SA) yd ye yf rC rD (xD 12 D2) wd2 wd3 wd4 (xD 12 Kn2) ws2 ws3 ws4 (xD 48 Q2) wi2 wi3 wi4) H) := by
  refine teV (by decide) (Nat.le_of_ble_eq_true rfl) ?_
  intro p_ ev_ s mi_ below_ meth cd_ ls F hK hN hO hH hS hl
  have hH : TH E (tbC dA dB (riverD (.inl (a, a)) (.inl (b, b)) (.inl (c, c)) 31 33 35 39 43 47) rB rc (rdD (.inl (p, p)) (.inl (n, n)) (.inl (f, f)) (.inl (w, w)) (.inr [26])) (xB 400 T) (xD 14 RA) yb (xD 4 SA) yd ye yf rC rD (xD 12 D) wd2 wd3 wd4 (xD 12 Kn) ws2 ws3 ws4 (xD 48 Q) wi2 wi3 wi4) s.heap := hH
  have hl : lv_has ls 4 [(0, .ref a0), (1, .int a1)] := hl
  refine lv_aload_n F.1 F.2.1 dX3_readReach_0 rfl (lv_at hl 0 rfl) ?_
  refine tGetR (j := 5) F hK hH (tyb ha0 (all1 rfl)) rfl (all1 rfl) clX3 (by decide) wd_5_18 dX3_readReach_1 (fun q_1 hq_1 _ => ?_)
  refine tGetI (j := 0) F hK hH (tyb hq_1 (all1 rfl)) rfl clX2 (by decide) wd_12_7 dX3_readReach_4 (fun z_2 hz_2 => ?_)
  have ez_2 : 0 ≤ z_2.toInt ∧ z_2.toInt ≤ 12 := by omega
  refine lv_istore_n (lv' := [(2, .int z_2), (0, .ref a0), (1, .int a1)]) F.1 F.2.1 dX3_readReach_7 rfl hl (by decide) rfl (fun ls hl => ?_)
  refine lv_iload_n F.1 F.2.1 dX3_readReach_8 rfl (lv_at hl 0 rfl) ?_
  refine lv_bipush (v := 12) F.1 F.2.1 dX3_readReach_9 (by decide) ?_
  refine topK (a := 12) (by decide) (fun k_3 hk_3 => ?_)
  refine b_lt (tgt := 21) F dX3_readReach_11 (by decide) (fun c_4 => ?_) (fun c_4 => ?_)
  · skip
    have r_5 : 0 ≤ z_2.toInt ∧ z_2.toInt ≤ 11 := by have h9_ := ez_2; omega
    refine lv_aload_n F.1 F.2.1 dX3_readReach_21 rfl (lv_at hl 1 rfl) ?_
    refine tGetR (j := 5) F hK hH (tyb ha0 (all1 rfl)) rfl (all1 rfl) clX3 (by decide) wd_5_18 dX3_readReach_22 (fun q_7 hq_7 _ => ?_)
    refine tGetR (j := 1) F hK hH (tyb hq_7 (all1 rfl)) rfl (all1 rfl) clX2 (by decide) wd_12_8 dX3_readReach_25 (fun q_8 hq_8 _ => ?_)
    refine lv_iload_n F.1 F.2.1 dX3_readReach_28 rfl (lv_at hl 0 rfl) ?_
    refine lv_aload_n F.1 F.2.1 dX3_readReach_29 rfl (lv_at hl 1 rfl) ?_
    refine va_ldcS F.1 F.2.1 F.2.2.2.2.1 (hO.1 1 _ rfl).1 dX3_readReach_30 ?_
    refine tVi (b := a0) (As := [.ref (eX E 1)]) (rest := [.int z_2, .ref q_8]) F hK hN hO (c_X3_isNext E dA dB (riverD (.inl (a, a)) (.inl (b, b)) (.inl (c, c)) 31 33 35 39 43 47) rB rc (xD 14 RA) yb (xD 4 SA) yd ye yf rC rD (xD 12 D) wd2 wd3 wd4 (xD 12 Kn) ws2 ws3 ws4 (xD 48 Q) wi2 wi3 wi4 ((.inl (w, w))) (.inr [26]) n p f T a0 1 5 ha0 (strAt 1 rfl) (by omega) (by omega) (by omega) hT) mv_X3_isNext wd_9_22 ⟨Nat.le_of_ble_eq_true rfl, Nat.le_of_ble_eq_true rfl⟩ ⟨Nat.le_of_ble_eq_true rfl, Nat.le_of_ble_eq_true rfl⟩ hH hS (tRecv hK hH (tyb ha0 (all1 rfl)) clX3) rfl hl.1 (Nat.le_of_ble_eq_true rfl) dX3_readReach_32 (fun z_9 H locs hq hS => ?_)
    obtain ⟨g_10, hg_10, f_11, f_12, hH⟩ := hq
    have hH : TH E (tbC dA dB (riverD (.inl (a, a)) (.inl (b, b)) (.inl (c, c)) 31 33 35 39 43 47) rB rc (rdD (.inl (g_10, g_10)) (.inl (n, n)) (.inl (f, f)) (.inl (w, w)) (.inr [26])) (xB 400 T) (xD 14 RA) yb (xD 4 SA) yd ye yf rC rD (xD 12 D) wd2 wd3 wd4 (xD 12 Kn) ws2 ws3 ws4 (xD 48 Q) wi2 wi3 wi4) H := hH
    refine z_eq (tgt := 43) F dX3_readReach_35 (by decide) (fun c_13 => ?_) (fun c_13 => ?_)
    · skip
      have r_14 : 0 ≤ z_9.toInt ∧ z_9.toInt ≤ 0 := by have h9_ := f_11; omega
      refine lv_aload_n F.1 F.2.1 dX3_readReach_43 rfl (lv_at hl 1 rfl) ?_
      refine tVi (b := a0) (As := []) (rest := [.int z_2, .ref q_8]) F hK hN hO (c_X3_readReachNumber_1 E dA dB rB rc yb yd ye yf rC rD (xD 12 D) wd2 wd3 wd4 (xD 12 Kn) ws2 ws3 ws4 (xD 48 Q) wi2 wi3 wi4 a b c n g_10 f w T RA SA a0 ha0 (by omega) (by omega) (by omega) (by omega) (by omega) (by omega) (by omega) hT hRA hSA) mv_X3_readReachNumber wd_12_15 ⟨Nat.le_of_ble_eq_true rfl, Nat.le_of_ble_eq_true rfl⟩ ⟨Nat.le_of_ble_eq_true rfl, Nat.le_of_ble_eq_true rfl⟩ hH hS (tRecv hK hH (tyb ha0 (all1 rfl)) clX3) rfl hl.1 (Nat.le_of_ble_eq_true rfl) dX3_readReach_44 (fun z_16 H locs hq hS => ?_)
      obtain ⟨g_17, hg_17, g_18, hg_18, f_19, f_20, hH⟩ := hq
      have hH : TH E (tbC dA dB (riverD (.inl (a, a)) (.inl (b, b)) (.inl (c, c)) 31 33 35 39 43 47) rB rc (rdD (.inl (g_17, g_17)) (.inl (n, n)) (.inl (g_18, g_18)) (.inl (w, w)) (.inr [26])) (xB 400 T) (xD 14 RA) yb (xD 4 SA) yd ye yf rC rD (xD 12 D) wd2 wd3 wd4 (xD 12 Kn) ws2 ws3 ws4 (xD 48 Q) wi2 wi3 wi4) H := hH
      refine tIastX (t := 39) F hK hH hS (List.mem_singleton.mp hq_8) (by decide) rfl (ixb (n := 12) r_5 rfl rfl) dX3_readReach_47 (fun G_21 eG_21 H locs hH hS => ?_)
      have hH : TH E (tbC dA dB (riverD (.inl (a, a)) (.inl (b, b)) (.inl (c, c)) 31 33 35 39 43 47) rB rc (rdD (.inl (g_17, g_17)) (.inl (n, n)) (.inl (g_18, g_18)) (.inl (w, w)) (.inr [26])) (xB 400 T) (xD 14 RA) yb (xD 4 SA) yd ye yf rC rD (xD 12 G_21) wd2 wd3 wd4 (xD 12 Kn) ws2 ws3 ws4 (xD 48 Q) wi2 wi3 wi4) H := hH
      have hG_21 : ivP 12 (-2) 11 G_21 := (ivP_updE hD eG_21 (by omega))
      refine lv_iconst (v := 0) F.1 F.2.1 dX3_readReach_48 (by decide) ?_
      refine topK (a := 0) (by decide) (fun k_22 hk_22 => ?_)
      refine lv_istore_n (lv' := [(3, .int k_22), (2, .int z_2), (0, .ref a0), (1, .int a1)]) F.1 F.2.1 dX3_readReach_49 rfl hl (by decide) rfl (fun ls hl => ?_)
      refine wloop (σ := Int32 × Int × Int × (Nat → Int32)) (fun n9 x9 H locs ls => (4 - x9.1.toInt + 1).toNat < n9 ∧ (0 ≤ x9.1.toInt ∧ x9.1.toInt ≤ 4) ∧ (0 ≤ x9.2.1 ∧ x9.2.1 ≤ 400) ∧ (0 ≤ x9.2.2.1 ∧ x9.2.2.1 ≤ 4000) ∧ (ivP 48 (-2147483648) 2147483647 x9.2.2.2) ∧ (x9.2.1 = jQp T n g_17 g_18 (x9.1.toInt)) ∧ (x9.2.2.1 = jQf T n g_17 g_18 (x9.1.toInt)) ∧ (x9.2.2.2 = jQr T n a g_17 g_18 (x9.1.toInt) Q) ∧ TH E (tbC dA dB (riverD (.inl (a, a)) (.inl (b, b)) (.inl (c, c)) 31 33 35 39 43 47) rB rc (rdD (.inl (x9.2.1, x9.2.1)) (.inl (n, n)) (.inl (x9.2.2.1, x9.2.2.1)) (.inl (w, w)) (.inr [26])) (xB 400 T) (xD 14 RA) yb (xD 4 SA) yd ye yf rC rD (xD 12 G_21) wd2 wd3 wd4 (xD 12 Kn) ws2 ws3 ws4 (xD 48 x9.2.2.2) wi2 wi3 wi4) H ∧ va_S (eA E s.heap.size) s.heap H locs ∧ lv_has ls 4 [(0, .ref a0), (2, .int z_2), (3, .int x9.1)]) ?_ (fun x9 H locs ls h => absurd h.1 (Nat.not_lt_zero _)) _ (k_22, g_17, g_18, Q) ⟨Nat.lt_succ_self _, (wkb (eqb hk_22) rfl rfl), (show 0 ≤ g_17 ∧ g_17 ≤ 400 from by omega), (show 0 ≤ g_18 ∧ g_18 ≤ 4000 from by omega), hQ, (show g_17 = jQp T n g_17 g_18 (k_22.toInt) from (kQ0 (by omega)).1), (show g_18 = jQf T n g_17 g_18 (k_22.toInt) from (kQ0 (by omega)).2), (show Q = jQr T n a g_17 g_18 (k_22.toInt) Q from (jQr0 (by omega))), hH, hS, lv_sub hl [2, 1, 0] rfl⟩
      intro n_50 ih_50 ⟨u_23, g_24, g_25, G_26⟩ H locs ls ⟨hm_50, hu_23, hg_24, hg_25, hG_26, hcr50_0, hcr50_1, hcr50_2, hH, hS, hl⟩
      have hm_50 : (4 - u_23.toInt + 1).toNat < n_50 + 1 := hm_50
      have hu_23 : (0 ≤ u_23.toInt ∧ u_23.toInt ≤ 4) := hu_23
      have hg_24 : (0 ≤ g_24 ∧ g_24 ≤ 400) := hg_24
      have hg_25 : (0 ≤ g_25 ∧ g_25 ≤ 4000) := hg_25
      have hG_26 : (ivP 48 (-2147483648) 2147483647 G_26) := hG_26
      have hcr50_0 : (g_24 = jQp T n g_17 g_18 (u_23.toInt)) := hcr50_0
      have hcr50_1 : (g_25 = jQf T n g_17 g_18 (u_23.toInt)) := hcr50_1
      have hcr50_2 : (G_26 = jQr T n a g_17 g_18 (u_23.toInt) Q) := hcr50_2
      have hH : TH E (tbC dA dB (riverD (.inl (a, a)) (.inl (b, b)) (.inl (c, c)) 31 33 35 39 43 47) rB rc (rdD (.inl (g_24, g_24)) (.inl (n, n)) (.inl (g_25, g_25)) (.inl (w, w)) (.inr [26])) (xB 400 T) (xD 14 RA) yb (xD 4 SA) yd ye yf rC rD (xD 12 G_21) wd2 wd3 wd4 (xD 12 Kn) ws2 ws3 ws4 (xD 48 G_26) wi2 wi3 wi4) H := hH
      have hl : lv_has ls 4 [(0, .ref a0), (2, .int z_2), (3, .int u_23)] := hl
      refine lv_iload_n F.1 F.2.1 dX3_readReach_50 rfl (lv_at hl 2 rfl) ?_
      refine lv_iconst (v := 4) F.1 F.2.1 dX3_readReach_51 (by decide) ?_
      refine topK (a := 4) (by decide) (fun k_27 hk_27 => ?_)
      refine b_ge (tgt := 82) F dX3_readReach_52 (by decide) (fun c_28 => ?_) (fun c_28 => ?_)
      · skip
        have r_29 : 4 ≤ u_23.toInt ∧ u_23.toInt ≤ 4 := by have h9_ := hu_23; omega
        refine lv_aload_n F.1 F.2.1 dX3_readReach_82 rfl (lv_at hl 0 rfl) ?_
        refine tGetR (j := 5) F hK hH (tyb ha0 (all1 rfl)) rfl (all1 rfl) clX3 (by decide) wd_5_18 dX3_readReach_83 (fun q_31 hq_31 _ => ?_)
        refine tGetR (j := 2) F hK hH (tyb hq_31 (all1 rfl)) rfl (all1 rfl) clX2 (by decide) wd_12_10 dX3_readReach_86 (fun q_32 hq_32 _ => ?_)
        refine lv_iload_n F.1 F.2.1 dX3_readReach_89 rfl (lv_at hl 1 rfl) ?_
        refine lv_aload_n F.1 F.2.1 dX3_readReach_90 rfl (lv_at hl 0 rfl) ?_
        refine va_ldcS F.1 F.2.1 F.2.2.2.2.1 (hO.1 2 _ rfl).1 dX3_readReach_91 ?_
        refine tVi (b := a0) (As := [.ref (eX E 2)]) (rest := [.int z_2, .ref q_32]) F hK hN hO (c_X3_isNext E dA dB (riverD (.inl (a, a)) (.inl (b, b)) (.inl (c, c)) 31 33 35 39 43 47) rB rc (xD 14 RA) yb (xD 4 SA) yd ye yf rC rD (xD 12 G_21) wd2 wd3 wd4 (xD 12 Kn) ws2 ws3 ws4 (xD 48 G_26) wi2 wi3 wi4 ((.inl (w, w))) (.inr [26]) n g_24 g_25 T a0 2 4 ha0 (strAt 2 rfl) (by omega) (by omega) (by omega) hT) mv_X3_isNext wd_9_22 ⟨Nat.le_of_ble_eq_true rfl, Nat.le_of_ble_eq_true rfl⟩ ⟨Nat.le_of_ble_eq_true rfl, Nat.le_of_ble_eq_true rfl⟩ hH hS (tRecv hK hH (tyb ha0 (all1 rfl)) clX3) rfl hl.1 (Nat.le_of_ble_eq_true rfl) dX3_readReach_93 (fun z_33 H locs hq hS => ?_)
        obtain ⟨g_34, hg_34, f_35, f_36, hH⟩ := hq
        have hH : TH E (tbC dA dB (riverD (.inl (a, a)) (.inl (b, b)) (.inl (c, c)) 31 33 35 39 43 47) rB rc (rdD (.inl (g_34, g_34)) (.inl (n, n)) (.inl (g_25, g_25)) (.inl (w, w)) (.inr [26])) (xB 400 T) (xD 14 RA) yb (xD 4 SA) yd ye yf rC rD (xD 12 G_21) wd2 wd3 wd4 (xD 12 Kn) ws2 ws3 ws4 (xD 48 G_26) wi2 wi3 wi4) H := hH
        refine z_eq (tgt := 110) F dX3_readReach_96 (by decide) (fun c_37 => ?_) (fun c_37 => ?_)
        · skip
          have r_38 : 0 ≤ z_33.toInt ∧ z_33.toInt ≤ 0 := by have h9_ := f_35; omega
          refine lv_iconst (v := 0) F.1 F.2.1 dX3_readReach_110 (by decide) ?_
          refine topK (a := 0) (by decide) (fun k_40 hk_40 => ?_)
          refine tIastX (t := 43) F hK hH hS (List.mem_singleton.mp hq_32) (by decide) rfl (ixb (n := 12) r_5 rfl rfl) dX3_readReach_111 (fun G_41 eG_41 H locs hH hS => ?_)
          have hH : TH E (tbC dA dB (riverD (.inl (a, a)) (.inl (b, b)) (.inl (c, c)) 31 33 35 39 43 47) rB rc (rdD (.inl (g_34, g_34)) (.inl (n, n)) (.inl (g_25, g_25)) (.inl (w, w)) (.inr [26])) (xB 400 T) (xD 14 RA) yb (xD 4 SA) yd ye yf rC rD (xD 12 G_21) wd2 wd3 wd4 (xD 12 G_41) ws2 ws3 ws4 (xD 48 G_26) wi2 wi3 wi4) H := hH
          have hG_41 : ivP 12 (-2147483648) 2147483647 G_41 := (ivP_updE hKn eG_41 (i32b _))
          refine lv_aload_n F.1 F.2.1 dX3_readReach_112 rfl (lv_at hl 0 rfl) ?_
          refine tGetR (j := 5) F hK hH (tyb ha0 (all1 rfl)) rfl (all1 rfl) clX3 (by decide) wd_5_18 dX3_readReach_113 (fun q_42 hq_42 _ => ?_)
          refine lv_dup F.1 F.2.1 dX3_readReach_116 rfl ?_
          refine tGetI (j := 0) F hK hH (tyb hq_42 (all1 rfl)) rfl clX2 (by decide) wd_12_7 dX3_readReach_117 (fun z_43 hz_43 => ?_)
          have ez_43 : 0 ≤ z_43.toInt ∧ z_43.toInt ≤ 11 := by omega
          refine lv_iconst (v := 1) F.1 F.2.1 dX3_readReach_120 (by decide) ?_
          refine topK (a := 1) (by decide) (fun k_44 hk_44 => ?_)
          refine tAdd (lo := 1) (hi := 12) F dX3_readReach_121 ez_43 (eqb hk_44) rfl (fun z_45 hz_45 => ?_)
          obtain ⟨g_46, hg_46⟩ : ∃ y : Int, z_45.toInt = y := ⟨_, rfl⟩
          have bg_46 : 1 ≤ g_46 ∧ g_46 ≤ 12 := by rw [← hg_46]; exact hz_45.2
          refine tPutG (j := 0) (t := 26) (fd := (.inl (g_46, g_46))) F hK hH hS (List.mem_singleton.mp hq_42) (by decide) rfl rfl (fdI (by omega)) (TB1 := (tbC dA dB (riverD (.inl (g_46, g_46)) (.inl (b, b)) (.inl (c, c)) 31 33 35 39 43 47) rB rc (rdD (.inl (g_34, g_34)) (.inl (n, n)) (.inl (g_25, g_25)) (.inl (w, w)) (.inr [26])) (xB 400 T) (xD 14 RA) yb (xD 4 SA) yd ye yf rC rD (xD 12 G_21) wd2 wd3 wd4 (xD 12 G_41) ws2 ws3 ws4 (xD 48 G_26) wi2 wi3 wi4)) rfl clX2 (by decide) wd_12_7 rfl rfl rfl rfl dX3_readReach_122 (fun H locs hH hS => ?_)
          exact txV F hS dX3_readReach_125 (⟨g_34, (by omega), g_25, (by omega), g_46, (by omega), G_21, hG_21, G_41, hG_41, G_26, ⟨hG_26, (reach_b3 f_12 hg_10.2.2 hcr50_0 hcr50_1 f_36 hg_34.2.2 (updR eG_21 (by omega) rfl) hcr50_2 (updR eG_41 (by omega) rfl) (by omega) (by omega) (by omega) (by omega) (by omega))⟩, hH⟩)
        · skip
          have r_39 : 1 ≤ z_33.toInt ∧ z_33.toInt ≤ 1 := by have h9_ := f_35; omega
          refine lv_aload_n F.1 F.2.1 dX3_readReach_99 rfl (lv_at hl 0 rfl) ?_
          refine lv_iconst (v := 0) F.1 F.2.1 dX3_readReach_100 (by decide) ?_
          refine topK (a := 0) (by decide) (fun k_47 hk_47 => ?_)
          refine lv_sipush (v := 9999) F.1 F.2.1 dX3_readReach_101 (by decide) ?_
          refine topK (a := 9999) (by decide) (fun k_48 hk_48 => ?_)
          refine tVi (b := a0) (As := [.int k_47, .int k_48]) (rest := [.int z_2, .ref q_32]) F hK hN hO (c_X3_readNumber E dA dB (riverD (.inl (a, a)) (.inl (b, b)) (.inl (c, c)) 31 33 35 39 43 47) rB rc (xD 14 RA) yb (xD 4 SA) yd ye yf rC rD (xD 12 G_21) wd2 wd3 wd4 (xD 12 Kn) ws2 ws3 ws4 (xD 48 G_26) wi2 wi3 wi4 ((.inl (w, w))) (.inr [26]) n g_34 g_25 T 0 9999 a0 k_47 k_48 ha0 (by omega) (by omega) (by omega) hT (by omega) (by omega)) mv_X3_readNumber wd_12_19 ⟨Nat.le_of_ble_eq_true rfl, Nat.le_of_ble_eq_true rfl⟩ ⟨Nat.le_of_ble_eq_true rfl, Nat.le_of_ble_eq_true rfl⟩ hH hS (tRecv hK hH (tyb ha0 (all1 rfl)) clX3) rfl hl.1 (Nat.le_of_ble_eq_true rfl) dX3_readReach_104 (fun z_49 H locs hq hS => ?_)
          obtain ⟨g_50, hg_50, g_51, hg_51, f_52, f_53, f_54, f_55, hH⟩ := hq
          have hH : TH E (tbC dA dB (riverD (.inl (a, a)) (.inl (b, b)) (.inl (c, c)) 31 33 35 39 43 47) rB rc (rdD (.inl (g_50, g_50)) (.inl (n, n)) (.inl (g_51, g_51)) (.inl (w, w)) (.inr [26])) (xB 400 T) (xD 14 RA) yb (xD 4 SA) yd ye yf rC rD (xD 12 G_21) wd2 wd3 wd4 (xD 12 Kn) ws2 ws3 ws4 (xD 48 G_26) wi2 wi3 wi4) H := hH
          have ez_49 : 0 ≤ z_49.toInt ∧ z_49.toInt ≤ 9999 := by omega
          refine lv_goto (tgt := 111) F.1 F.2.1 dX3_readReach_107 (by decide) ?_
          refine tIastX (t := 43) F hK hH hS (List.mem_singleton.mp hq_32) (by decide) rfl (ixb (n := 12) r_5 rfl rfl) dX3_readReach_111 (fun G_56 eG_56 H locs hH hS => ?_)
          have hH : TH E (tbC dA dB (riverD (.inl (a, a)) (.inl (b, b)) (.inl (c, c)) 31 33 35 39 43 47) rB rc (rdD (.inl (g_50, g_50)) (.inl (n, n)) (.inl (g_51, g_51)) (.inl (w, w)) (.inr [26])) (xB 400 T) (xD 14 RA) yb (xD 4 SA) yd ye yf rC rD (xD 12 G_21) wd2 wd3 wd4 (xD 12 G_56) ws2 ws3 ws4 (xD 48 G_26) wi2 wi3 wi4) H := hH
          have hG_56 : ivP 12 (-2147483648) 2147483647 G_56 := (ivP_updE hKn eG_56 (i32b _))
          refine lv_aload_n F.1 F.2.1 dX3_readReach_112 rfl (lv_at hl 0 rfl) ?_
          refine tGetR (j := 5) F hK hH (tyb ha0 (all1 rfl)) rfl (all1 rfl) clX3 (by decide) wd_5_18 dX3_readReach_113 (fun q_57 hq_57 _ => ?_)
          refine lv_dup F.1 F.2.1 dX3_readReach_116 rfl ?_
          refine tGetI (j := 0) F hK hH (tyb hq_57 (all1 rfl)) rfl clX2 (by decide) wd_12_7 dX3_readReach_117 (fun z_58 hz_58 => ?_)
          have ez_58 : 0 ≤ z_58.toInt ∧ z_58.toInt ≤ 11 := by omega
          refine lv_iconst (v := 1) F.1 F.2.1 dX3_readReach_120 (by decide) ?_
          refine topK (a := 1) (by decide) (fun k_59 hk_59 => ?_)
          refine tAdd (lo := 1) (hi := 12) F dX3_readReach_121 ez_58 (eqb hk_59) rfl (fun z_60 hz_60 => ?_)
          obtain ⟨g_61, hg_61⟩ : ∃ y : Int, z_60.toInt = y := ⟨_, rfl⟩
          have bg_61 : 1 ≤ g_61 ∧ g_61 ≤ 12 := by rw [← hg_61]; exact hz_60.2
          refine tPutG (j := 0) (t := 26) (fd := (.inl (g_61, g_61))) F hK hH hS (List.mem_singleton.mp hq_57) (by decide) rfl rfl (fdI (by omega)) (TB1 := (tbC dA dB (riverD (.inl (g_61, g_61)) (.inl (b, b)) (.inl (c, c)) 31 33 35 39 43 47) rB rc (rdD (.inl (g_50, g_50)) (.inl (n, n)) (.inl (g_51, g_51)) (.inl (w, w)) (.inr [26])) (xB 400 T) (xD 14 RA) yb (xD 4 SA) yd ye yf rC rD (xD 12 G_21) wd2 wd3 wd4 (xD 12 G_56) ws2 ws3 ws4 (xD 48 G_26) wi2 wi3 wi4)) rfl clX2 (by decide) wd_12_7 rfl rfl rfl rfl dX3_readReach_122 (fun H locs hH hS => ?_)
          exact txV F hS dX3_readReach_125 (⟨g_50, (by omega), g_51, (by omega), g_61, (by omega), G_21, hG_21, G_56, hG_56, G_26, ⟨hG_26, (reach_b3 f_12 hg_10.2.2 hcr50_0 hcr50_1 f_36 hg_34.2.2 (updR eG_21 (by omega) rfl) hcr50_2 (updR eG_56 (by omega) rfl) (by omega) (by omega) (by omega) (by omega) (by omega))⟩, hH⟩)
      · skip
        have r_30 : 0 ≤ u_23.toInt ∧ u_23.toInt ≤ 3 := by have h9_ := hu_23; omega
        refine lv_aload_n F.1 F.2.1 dX3_readReach_55 rfl (lv_at hl 0 rfl) ?_
        refine tGetR (j := 5) F hK hH (tyb ha0 (all1 rfl)) rfl (all1 rfl) clX3 (by decide) wd_5_18 dX3_readReach_56 (fun q_62 hq_62 _ => ?_)
        refine tGetR (j := 3) F hK hH (tyb hq_62 (all1 rfl)) rfl (all1 rfl) clX2 (by decide) wd_12_9 dX3_readReach_59 (fun q_63 hq_63 _ => ?_)
        refine lv_iload_n F.1 F.2.1 dX3_readReach_62 rfl (lv_at hl 1 rfl) ?_
        refine lv_iconst (v := 4) F.1 F.2.1 dX3_readReach_63 (by decide) ?_
        refine topK (a := 4) (by decide) (fun k_64 hk_64 => ?_)
        refine tMul (lo := 0) (hi := 44) F dX3_readReach_64 r_5 (eqb hk_64) rfl (fun z_65 hz_65 => ?_)
        have mz_65 : z_65.toInt = z_2.toInt * 4 := by rw [hz_65.1, hk_64]
        refine lv_iload_n F.1 F.2.1 dX3_readReach_65 rfl (lv_at hl 2 rfl) ?_
        refine tAdd (lo := 0) (hi := 47) F dX3_readReach_66 hz_65.2 r_30 rfl (fun z_66 hz_66 => ?_)
        refine lv_aload_n F.1 F.2.1 dX3_readReach_67 rfl (lv_at hl 0 rfl) ?_
        refine lv_iconst (v := 0) F.1 F.2.1 dX3_readReach_68 (by decide) ?_
        refine topK (a := 0) (by decide) (fun k_67 hk_67 => ?_)
        refine lv_sipush (v := 9999) F.1 F.2.1 dX3_readReach_69 (by decide) ?_
        refine topK (a := 9999) (by decide) (fun k_68 hk_68 => ?_)
        refine tVi (b := a0) (As := [.int k_67, .int k_68]) (rest := [.int z_66, .ref q_63]) F hK hN hO (c_X3_readNumber E dA dB (riverD (.inl (a, a)) (.inl (b, b)) (.inl (c, c)) 31 33 35 39 43 47) rB rc (xD 14 RA) yb (xD 4 SA) yd ye yf rC rD (xD 12 G_21) wd2 wd3 wd4 (xD 12 Kn) ws2 ws3 ws4 (xD 48 G_26) wi2 wi3 wi4 ((.inl (w, w))) (.inr [26]) n g_24 g_25 T 0 9999 a0 k_67 k_68 ha0 (by omega) (by omega) (by omega) hT (by omega) (by omega)) mv_X3_readNumber wd_12_19 ⟨Nat.le_of_ble_eq_true rfl, Nat.le_of_ble_eq_true rfl⟩ ⟨Nat.le_of_ble_eq_true rfl, Nat.le_of_ble_eq_true rfl⟩ hH hS (tRecv hK hH (tyb ha0 (all1 rfl)) clX3) rfl hl.1 (Nat.le_of_ble_eq_true rfl) dX3_readReach_72 (fun z_69 H locs hq hS => ?_)
        obtain ⟨g_70, hg_70, g_71, hg_71, f_72, f_73, f_74, f_75, hH⟩ := hq
        have hH : TH E (tbC dA dB (riverD (.inl (a, a)) (.inl (b, b)) (.inl (c, c)) 31 33 35 39 43 47) rB rc (rdD (.inl (g_70, g_70)) (.inl (n, n)) (.inl (g_71, g_71)) (.inl (w, w)) (.inr [26])) (xB 400 T) (xD 14 RA) yb (xD 4 SA) yd ye yf rC rD (xD 12 G_21) wd2 wd3 wd4 (xD 12 Kn) ws2 ws3 ws4 (xD 48 G_26) wi2 wi3 wi4) H := hH
        have ez_69 : 0 ≤ z_69.toInt ∧ z_69.toInt ≤ 9999 := by omega
        refine tIastX (t := 47) F hK hH hS (List.mem_singleton.mp hq_63) (by decide) rfl (ixb (n := 48) hz_66.2 rfl rfl) dX3_readReach_75 (fun G_76 eG_76 H locs hH hS => ?_)
        have hH : TH E (tbC dA dB (riverD (.inl (a, a)) (.inl (b, b)) (.inl (c, c)) 31 33 35 39 43 47) rB rc (rdD (.inl (g_70, g_70)) (.inl (n, n)) (.inl (g_71, g_71)) (.inl (w, w)) (.inr [26])) (xB 400 T) (xD 14 RA) yb (xD 4 SA) yd ye yf rC rD (xD 12 G_21) wd2 wd3 wd4 (xD 12 Kn) ws2 ws3 ws4 (xD 48 G_76) wi2 wi3 wi4) H := hH
        have hG_76 : ivP 48 (-2147483648) 2147483647 G_76 := (ivP_updE hG_26 eG_76 (i32b _))
        obtain ⟨x_77, ex_77, hx_77⟩ := iincB (c := 1) (lo := 1) (hi := 4) r_30 rfl
        refine lv_iinc (v := x_77) (lv' := [(3, .int x_77), (0, .ref a0), (2, .int z_2)]) F.1 F.2.1 dX3_readReach_76 hl (k := 2) rfl ex_77 (by decide) rfl (fun ls hl => ?_)
        refine lv_goto (tgt := 50) F.1 F.2.1 dX3_readReach_79 (by decide) ?_
        exact ih_50 (x_77, g_70, g_71, G_76) _ _ _ ⟨(show (4 - x_77.toInt + 1).toNat < n_50 from by omega), (wkb hx_77.2 rfl rfl), (show 0 ≤ g_70 ∧ g_70 ≤ 400 from by omega), (show 0 ≤ g_71 ∧ g_71 ≤ 4000 from by omega), hG_76, (show g_70 = jQp T n g_17 g_18 (x_77.toInt) from (kQ_step hcr50_0 hcr50_1 (by omega) (by omega) hg_70.2.2 hg_71.2.2).1), (show g_71 = jQf T n g_17 g_18 (x_77.toInt) from (kQ_step hcr50_0 hcr50_1 (by omega) (by omega) hg_70.2.2 hg_71.2.2).2), (show G_76 = jQr T n a g_17 g_18 (x_77.toInt) Q from (jQr_step (k := z_66.toInt) hcr50_0 hcr50_2 (updR eG_76 (by omega) rfl) (by omega) f_75 (by omega) (by omega))), hH, hS, lv_sub hl [1, 2, 0] rfl⟩
    · skip
      have r_15 : 1 ≤ z_9.toInt ∧ z_9.toInt ≤ 1 := by have h9_ := f_11; omega
      refine lv_bipush (v := (-2)) F.1 F.2.1 dX3_readReach_38 (by decide) ?_
      refine topK (a := (-2)) (by decide) (fun k_78 hk_78 => ?_)
      refine lv_goto (tgt := 47) F.1 F.2.1 dX3_readReach_40 (by decide) ?_
      refine tIastX (t := 39) F hK hH hS (List.mem_singleton.mp hq_8) (by decide) rfl (ixb (n := 12) r_5 rfl rfl) dX3_readReach_47 (fun G_79 eG_79 H locs hH hS => ?_)
      have hH : TH E (tbC dA dB (riverD (.inl (a, a)) (.inl (b, b)) (.inl (c, c)) 31 33 35 39 43 47) rB rc (rdD (.inl (g_10, g_10)) (.inl (n, n)) (.inl (f, f)) (.inl (w, w)) (.inr [26])) (xB 400 T) (xD 14 RA) yb (xD 4 SA) yd ye yf rC rD (xD 12 G_79) wd2 wd3 wd4 (xD 12 Kn) ws2 ws3 ws4 (xD 48 Q) wi2 wi3 wi4) H := hH
      have hG_79 : ivP 12 (-2) 11 G_79 := (ivP_updE hD eG_79 (by omega))
      refine lv_iconst (v := 0) F.1 F.2.1 dX3_readReach_48 (by decide) ?_
      refine topK (a := 0) (by decide) (fun k_80 hk_80 => ?_)
      refine lv_istore_n (lv' := [(3, .int k_80), (2, .int z_2), (0, .ref a0), (1, .int a1)]) F.1 F.2.1 dX3_readReach_49 rfl hl (by decide) rfl (fun ls hl => ?_)
      refine wloop (σ := Int32 × Int × Int × (Nat → Int32)) (fun n9 x9 H locs ls => (4 - x9.1.toInt + 1).toNat < n9 ∧ (0 ≤ x9.1.toInt ∧ x9.1.toInt ≤ 4) ∧ (0 ≤ x9.2.1 ∧ x9.2.1 ≤ 400) ∧ (0 ≤ x9.2.2.1 ∧ x9.2.2.1 ≤ 4000) ∧ (ivP 48 (-2147483648) 2147483647 x9.2.2.2) ∧ (x9.2.1 = jQp T n g_10 f (x9.1.toInt)) ∧ (x9.2.2.1 = jQf T n g_10 f (x9.1.toInt)) ∧ (x9.2.2.2 = jQr T n a g_10 f (x9.1.toInt) Q) ∧ TH E (tbC dA dB (riverD (.inl (a, a)) (.inl (b, b)) (.inl (c, c)) 31 33 35 39 43 47) rB rc (rdD (.inl (x9.2.1, x9.2.1)) (.inl (n, n)) (.inl (x9.2.2.1, x9.2.2.1)) (.inl (w, w)) (.inr [26])) (xB 400 T) (xD 14 RA) yb (xD 4 SA) yd ye yf rC rD (xD 12 G_79) wd2 wd3 wd4 (xD 12 Kn) ws2 ws3 ws4 (xD 48 x9.2.2.2) wi2 wi3 wi4) H ∧ va_S (eA E s.heap.size) s.heap H locs ∧ lv_has ls 4 [(0, .ref a0), (2, .int z_2), (3, .int x9.1)]) ?_ (fun x9 H locs ls h => absurd h.1 (Nat.not_lt_zero _)) _ (k_80, g_10, f, Q) ⟨Nat.lt_succ_self _, (wkb (eqb hk_80) rfl rfl), (show 0 ≤ g_10 ∧ g_10 ≤ 400 from by omega), (show 0 ≤ f ∧ f ≤ 4000 from by omega), hQ, (show g_10 = jQp T n g_10 f (k_80.toInt) from (kQ0 (by omega)).1), (show f = jQf T n g_10 f (k_80.toInt) from (kQ0 (by omega)).2), (show Q = jQr T n a g_10 f (k_80.toInt) Q from (jQr0 (by omega))), hH, hS, lv_sub hl [2, 1, 0] rfl⟩
      intro n_50 ih_50 ⟨u_81, g_82, g_83, G_84⟩ H locs ls ⟨hm_50, hu_81, hg_82, hg_83, hG_84, hcr50_0, hcr50_1, hcr50_2, hH, hS, hl⟩
      have hm_50 : (4 - u_81.toInt + 1).toNat < n_50 + 1 := hm_50
      have hu_81 : (0 ≤ u_81.toInt ∧ u_81.toInt ≤ 4) := hu_81
      have hg_82 : (0 ≤ g_82 ∧ g_82 ≤ 400) := hg_82
      have hg_83 : (0 ≤ g_83 ∧ g_83 ≤ 4000) := hg_83
      have hG_84 : (ivP 48 (-2147483648) 2147483647 G_84) := hG_84
      have hcr50_0 : (g_82 = jQp T n g_10 f (u_81.toInt)) := hcr50_0
      have hcr50_1 : (g_83 = jQf T n g_10 f (u_81.toInt)) := hcr50_1
      have hcr50_2 : (G_84 = jQr T n a g_10 f (u_81.toInt) Q) := hcr50_2
      have hH : TH E (tbC dA dB (riverD (.inl (a, a)) (.inl (b, b)) (.inl (c, c)) 31 33 35 39 43 47) rB rc (rdD (.inl (g_82, g_82)) (.inl (n, n)) (.inl (g_83, g_83)) (.inl (w, w)) (.inr [26])) (xB 400 T) (xD 14 RA) yb (xD 4 SA) yd ye yf rC rD (xD 12 G_79) wd2 wd3 wd4 (xD 12 Kn) ws2 ws3 ws4 (xD 48 G_84) wi2 wi3 wi4) H := hH
      have hl : lv_has ls 4 [(0, .ref a0), (2, .int z_2), (3, .int u_81)] := hl
      refine lv_iload_n F.1 F.2.1 dX3_readReach_50 rfl (lv_at hl 2 rfl) ?_
      refine lv_iconst (v := 4) F.1 F.2.1 dX3_readReach_51 (by decide) ?_
      refine topK (a := 4) (by decide) (fun k_85 hk_85 => ?_)
      refine b_ge (tgt := 82) F dX3_readReach_52 (by decide) (fun c_86 => ?_) (fun c_86 => ?_)
      · skip
        have r_87 : 4 ≤ u_81.toInt ∧ u_81.toInt ≤ 4 := by have h9_ := hu_81; omega
        refine lv_aload_n F.1 F.2.1 dX3_readReach_82 rfl (lv_at hl 0 rfl) ?_
        refine tGetR (j := 5) F hK hH (tyb ha0 (all1 rfl)) rfl (all1 rfl) clX3 (by decide) wd_5_18 dX3_readReach_83 (fun q_89 hq_89 _ => ?_)
        refine tGetR (j := 2) F hK hH (tyb hq_89 (all1 rfl)) rfl (all1 rfl) clX2 (by decide) wd_12_10 dX3_readReach_86 (fun q_90 hq_90 _ => ?_)
        refine lv_iload_n F.1 F.2.1 dX3_readReach_89 rfl (lv_at hl 1 rfl) ?_
        refine lv_aload_n F.1 F.2.1 dX3_readReach_90 rfl (lv_at hl 0 rfl) ?_
        refine va_ldcS F.1 F.2.1 F.2.2.2.2.1 (hO.1 2 _ rfl).1 dX3_readReach_91 ?_
        refine tVi (b := a0) (As := [.ref (eX E 2)]) (rest := [.int z_2, .ref q_90]) F hK hN hO (c_X3_isNext E dA dB (riverD (.inl (a, a)) (.inl (b, b)) (.inl (c, c)) 31 33 35 39 43 47) rB rc (xD 14 RA) yb (xD 4 SA) yd ye yf rC rD (xD 12 G_79) wd2 wd3 wd4 (xD 12 Kn) ws2 ws3 ws4 (xD 48 G_84) wi2 wi3 wi4 ((.inl (w, w))) (.inr [26]) n g_82 g_83 T a0 2 4 ha0 (strAt 2 rfl) (by omega) (by omega) (by omega) hT) mv_X3_isNext wd_9_22 ⟨Nat.le_of_ble_eq_true rfl, Nat.le_of_ble_eq_true rfl⟩ ⟨Nat.le_of_ble_eq_true rfl, Nat.le_of_ble_eq_true rfl⟩ hH hS (tRecv hK hH (tyb ha0 (all1 rfl)) clX3) rfl hl.1 (Nat.le_of_ble_eq_true rfl) dX3_readReach_93 (fun z_91 H locs hq hS => ?_)
        obtain ⟨g_92, hg_92, f_93, f_94, hH⟩ := hq
        have hH : TH E (tbC dA dB (riverD (.inl (a, a)) (.inl (b, b)) (.inl (c, c)) 31 33 35 39 43 47) rB rc (rdD (.inl (g_92, g_92)) (.inl (n, n)) (.inl (g_83, g_83)) (.inl (w, w)) (.inr [26])) (xB 400 T) (xD 14 RA) yb (xD 4 SA) yd ye yf rC rD (xD 12 G_79) wd2 wd3 wd4 (xD 12 Kn) ws2 ws3 ws4 (xD 48 G_84) wi2 wi3 wi4) H := hH
        refine z_eq (tgt := 110) F dX3_readReach_96 (by decide) (fun c_95 => ?_) (fun c_95 => ?_)
        · skip
          have r_96 : 0 ≤ z_91.toInt ∧ z_91.toInt ≤ 0 := by have h9_ := f_93; omega
          refine lv_iconst (v := 0) F.1 F.2.1 dX3_readReach_110 (by decide) ?_
          refine topK (a := 0) (by decide) (fun k_98 hk_98 => ?_)
          refine tIastX (t := 43) F hK hH hS (List.mem_singleton.mp hq_90) (by decide) rfl (ixb (n := 12) r_5 rfl rfl) dX3_readReach_111 (fun G_99 eG_99 H locs hH hS => ?_)
          have hH : TH E (tbC dA dB (riverD (.inl (a, a)) (.inl (b, b)) (.inl (c, c)) 31 33 35 39 43 47) rB rc (rdD (.inl (g_92, g_92)) (.inl (n, n)) (.inl (g_83, g_83)) (.inl (w, w)) (.inr [26])) (xB 400 T) (xD 14 RA) yb (xD 4 SA) yd ye yf rC rD (xD 12 G_79) wd2 wd3 wd4 (xD 12 G_99) ws2 ws3 ws4 (xD 48 G_84) wi2 wi3 wi4) H := hH
          have hG_99 : ivP 12 (-2147483648) 2147483647 G_99 := (ivP_updE hKn eG_99 (i32b _))
          refine lv_aload_n F.1 F.2.1 dX3_readReach_112 rfl (lv_at hl 0 rfl) ?_
          refine tGetR (j := 5) F hK hH (tyb ha0 (all1 rfl)) rfl (all1 rfl) clX3 (by decide) wd_5_18 dX3_readReach_113 (fun q_100 hq_100 _ => ?_)
          refine lv_dup F.1 F.2.1 dX3_readReach_116 rfl ?_
          refine tGetI (j := 0) F hK hH (tyb hq_100 (all1 rfl)) rfl clX2 (by decide) wd_12_7 dX3_readReach_117 (fun z_101 hz_101 => ?_)
          have ez_101 : 0 ≤ z_101.toInt ∧ z_101.toInt ≤ 11 := by omega
          refine lv_iconst (v := 1) F.1 F.2.1 dX3_readReach_120 (by decide) ?_
          refine topK (a := 1) (by decide) (fun k_102 hk_102 => ?_)
          refine tAdd (lo := 1) (hi := 12) F dX3_readReach_121 ez_101 (eqb hk_102) rfl (fun z_103 hz_103 => ?_)
          obtain ⟨g_104, hg_104⟩ : ∃ y : Int, z_103.toInt = y := ⟨_, rfl⟩
          have bg_104 : 1 ≤ g_104 ∧ g_104 ≤ 12 := by rw [← hg_104]; exact hz_103.2
          refine tPutG (j := 0) (t := 26) (fd := (.inl (g_104, g_104))) F hK hH hS (List.mem_singleton.mp hq_100) (by decide) rfl rfl (fdI (by omega)) (TB1 := (tbC dA dB (riverD (.inl (g_104, g_104)) (.inl (b, b)) (.inl (c, c)) 31 33 35 39 43 47) rB rc (rdD (.inl (g_92, g_92)) (.inl (n, n)) (.inl (g_83, g_83)) (.inl (w, w)) (.inr [26])) (xB 400 T) (xD 14 RA) yb (xD 4 SA) yd ye yf rC rD (xD 12 G_79) wd2 wd3 wd4 (xD 12 G_99) ws2 ws3 ws4 (xD 48 G_84) wi2 wi3 wi4)) rfl clX2 (by decide) wd_12_7 rfl rfl rfl rfl dX3_readReach_122 (fun H locs hH hS => ?_)
          exact txV F hS dX3_readReach_125 (⟨g_92, (by omega), g_83, (by omega), g_104, (by omega), G_79, hG_79, G_99, hG_99, G_84, ⟨hG_84, (reach_b3 f_12 hg_10.2.2 hcr50_0 hcr50_1 f_94 hg_92.2.2 (updR eG_79 (by omega) rfl) hcr50_2 (updR eG_99 (by omega) rfl) (by omega) (by omega) (by omega) (by omega) (by omega))⟩, hH⟩)
        · skip
          have r_97 : 1 ≤ z_91.toInt ∧ z_91.toInt ≤ 1 := by have h9_ := f_93; omega
          refine lv_aload_n F.1 F.2.1 dX3_readReach_99 rfl (lv_at hl 0 rfl) ?_
          refine lv_iconst (v := 0) F.1 F.2.1 dX3_readReach_100 (by decide) ?_
          refine topK (a := 0) (by decide) (fun k_105 hk_105 => ?_)
          refine lv_sipush (v := 9999) F.1 F.2.1 dX3_readReach_101 (by decide) ?_
          refine topK (a := 9999) (by decide) (fun k_106 hk_106 => ?_)
          refine tVi (b := a0) (As := [.int k_105, .int k_106]) (rest := [.int z_2, .ref q_90]) F hK hN hO (c_X3_readNumber E dA dB (riverD (.inl (a, a)) (.inl (b, b)) (.inl (c, c)) 31 33 35 39 43 47) rB rc (xD 14 RA) yb (xD 4 SA) yd ye yf rC rD (xD 12 G_79) wd2 wd3 wd4 (xD 12 Kn) ws2 ws3 ws4 (xD 48 G_84) wi2 wi3 wi4 ((.inl (w, w))) (.inr [26]) n g_92 g_83 T 0 9999 a0 k_105 k_106 ha0 (by omega) (by omega) (by omega) hT (by omega) (by omega)) mv_X3_readNumber wd_12_19 ⟨Nat.le_of_ble_eq_true rfl, Nat.le_of_ble_eq_true rfl⟩ ⟨Nat.le_of_ble_eq_true rfl, Nat.le_of_ble_eq_true rfl⟩ hH hS (tRecv hK hH (tyb ha0 (all1 rfl)) clX3) rfl hl.1 (Nat.le_of_ble_eq_true rfl) dX3_readReach_104 (fun z_107 H locs hq hS => ?_)
          obtain ⟨g_108, hg_108, g_109, hg_109, f_110, f_111, f_112, f_113, hH⟩ := hq
          have hH : TH E (tbC dA dB (riverD (.inl (a, a)) (.inl (b, b)) (.inl (c, c)) 31 33 35 39 43 47) rB rc (rdD (.inl (g_108, g_108)) (.inl (n, n)) (.inl (g_109, g_109)) (.inl (w, w)) (.inr [26])) (xB 400 T) (xD 14 RA) yb (xD 4 SA) yd ye yf rC rD (xD 12 G_79) wd2 wd3 wd4 (xD 12 Kn) ws2 ws3 ws4 (xD 48 G_84) wi2 wi3 wi4) H := hH
          have ez_107 : 0 ≤ z_107.toInt ∧ z_107.toInt ≤ 9999 := by omega
          refine lv_goto (tgt := 111) F.1 F.2.1 dX3_readReach_107 (by decide) ?_
          refine tIastX (t := 43) F hK hH hS (List.mem_singleton.mp hq_90) (by decide) rfl (ixb (n := 12) r_5 rfl rfl) dX3_readReach_111 (fun G_114 eG_114 H locs hH hS => ?_)
          have hH : TH E (tbC dA dB (riverD (.inl (a, a)) (.inl (b, b)) (.inl (c, c)) 31 33 35 39 43 47) rB rc (rdD (.inl (g_108, g_108)) (.inl (n, n)) (.inl (g_109, g_109)) (.inl (w, w)) (.inr [26])) (xB 400 T) (xD 14 RA) yb (xD 4 SA) yd ye yf rC rD (xD 12 G_79) wd2 wd3 wd4 (xD 12 G_114) ws2 ws3 ws4 (xD 48 G_84) wi2 wi3 wi4) H := hH
          have hG_114 : ivP 12 (-2147483648) 2147483647 G_114 := (ivP_updE hKn eG_114 (i32b _))
          refine lv_aload_n F.1 F.2.1 dX3_readReach_112 rfl (lv_at hl 0 rfl) ?_
          refine tGetR (j := 5) F hK hH (tyb ha0 (all1 rfl)) rfl (all1 rfl) clX3 (by decide) wd_5_18 dX3_readReach_113 (fun q_115 hq_115 _ => ?_)
          refine lv_dup F.1 F.2.1 dX3_readReach_116 rfl ?_
          refine tGetI (j := 0) F hK hH (tyb hq_115 (all1 rfl)) rfl clX2 (by decide) wd_12_7 dX3_readReach_117 (fun z_116 hz_116 => ?_)
          have ez_116 : 0 ≤ z_116.toInt ∧ z_116.toInt ≤ 11 := by omega
          refine lv_iconst (v := 1) F.1 F.2.1 dX3_readReach_120 (by decide) ?_
          refine topK (a := 1) (by decide) (fun k_117 hk_117 => ?_)
          refine tAdd (lo := 1) (hi := 12) F dX3_readReach_121 ez_116 (eqb hk_117) rfl (fun z_118 hz_118 => ?_)
          obtain ⟨g_119, hg_119⟩ : ∃ y : Int, z_118.toInt = y := ⟨_, rfl⟩
          have bg_119 : 1 ≤ g_119 ∧ g_119 ≤ 12 := by rw [← hg_119]; exact hz_118.2
          refine tPutG (j := 0) (t := 26) (fd := (.inl (g_119, g_119))) F hK hH hS (List.mem_singleton.mp hq_115) (by decide) rfl rfl (fdI (by omega)) (TB1 := (tbC dA dB (riverD (.inl (g_119, g_119)) (.inl (b, b)) (.inl (c, c)) 31 33 35 39 43 47) rB rc (rdD (.inl (g_108, g_108)) (.inl (n, n)) (.inl (g_109, g_109)) (.inl (w, w)) (.inr [26])) (xB 400 T) (xD 14 RA) yb (xD 4 SA) yd ye yf rC rD (xD 12 G_79) wd2 wd3 wd4 (xD 12 G_114) ws2 ws3 ws4 (xD 48 G_84) wi2 wi3 wi4)) rfl clX2 (by decide) wd_12_7 rfl rfl rfl rfl dX3_readReach_122 (fun H locs hH hS => ?_)
          exact txV F hS dX3_readReach_125 (⟨g_108, (by omega), g_109, (by omega), g_119, (by omega), G_79, hG_79, G_114, hG_114, G_84, ⟨hG_84, (reach_b3 f_12 hg_10.2.2 hcr50_0 hcr50_1 f_94 hg_92.2.2 (updR eG_79 (by omega) rfl) hcr50_2 (updR eG_114 (by omega) rfl) (by omega) (by omega) (by omega) (by omega) (by omega))⟩, hH⟩)
      · skip
        have r_88 : 0 ≤ u_81.toInt ∧ u_81.toInt ≤ 3 := by have h9_ := hu_81; omega
        refine lv_aload_n F.1 F.2.1 dX3_readReach_55 rfl (lv_at hl 0 rfl) ?_
        refine tGetR (j := 5) F hK hH (tyb ha0 (all1 rfl)) rfl (all1 rfl) clX3 (by decide) wd_5_18 dX3_readReach_56 (fun q_120 hq_120 _ => ?_)
        refine tGetR (j := 3) F hK hH (tyb hq_120 (all1 rfl)) rfl (all1 rfl) clX2 (by decide) wd_12_9 dX3_readReach_59 (fun q_121 hq_121 _ => ?_)
        refine lv_iload_n F.1 F.2.1 dX3_readReach_62 rfl (lv_at hl 1 rfl) ?_
        refine lv_iconst (v := 4) F.1 F.2.1 dX3_readReach_63 (by decide) ?_
        refine topK (a := 4) (by decide) (fun k_122 hk_122 => ?_)
        refine tMul (lo := 0) (hi := 44) F dX3_readReach_64 r_5 (eqb hk_122) rfl (fun z_123 hz_123 => ?_)
        have mz_123 : z_123.toInt = z_2.toInt * 4 := by rw [hz_123.1, hk_122]
        refine lv_iload_n F.1 F.2.1 dX3_readReach_65 rfl (lv_at hl 2 rfl) ?_
        refine tAdd (lo := 0) (hi := 47) F dX3_readReach_66 hz_123.2 r_88 rfl (fun z_124 hz_124 => ?_)
        refine lv_aload_n F.1 F.2.1 dX3_readReach_67 rfl (lv_at hl 0 rfl) ?_
        refine lv_iconst (v := 0) F.1 F.2.1 dX3_readReach_68 (by decide) ?_
        refine topK (a := 0) (by decide) (fun k_125 hk_125 => ?_)
        refine lv_sipush (v := 9999) F.1 F.2.1 dX3_readReach_69 (by decide) ?_
        refine topK (a := 9999) (by decide) (fun k_126 hk_126 => ?_)
        refine tVi (b := a0) (As := [.int k_125, .int k_126]) (rest := [.int z_124, .ref q_121]) F hK hN hO (c_X3_readNumber E dA dB (riverD (.inl (a, a)) (.inl (b, b)) (.inl (c, c)) 31 33 35 39 43 47) rB rc (xD 14 RA) yb (xD 4 SA) yd ye yf rC rD (xD 12 G_79) wd2 wd3 wd4 (xD 12 Kn) ws2 ws3 ws4 (xD 48 G_84) wi2 wi3 wi4 ((.inl (w, w))) (.inr [26]) n g_82 g_83 T 0 9999 a0 k_125 k_126 ha0 (by omega) (by omega) (by omega) hT (by omega) (by omega)) mv_X3_readNumber wd_12_19 ⟨Nat.le_of_ble_eq_true rfl, Nat.le_of_ble_eq_true rfl⟩ ⟨Nat.le_of_ble_eq_true rfl, Nat.le_of_ble_eq_true rfl⟩ hH hS (tRecv hK hH (tyb ha0 (all1 rfl)) clX3) rfl hl.1 (Nat.le_of_ble_eq_true rfl) dX3_readReach_72 (fun z_127 H locs hq hS => ?_)
        obtain ⟨g_128, hg_128, g_129, hg_129, f_130, f_131, f_132, f_133, hH⟩ := hq
        have hH : TH E (tbC dA dB (riverD (.inl (a, a)) (.inl (b, b)) (.inl (c, c)) 31 33 35 39 43 47) rB rc (rdD (.inl (g_128, g_128)) (.inl (n, n)) (.inl (g_129, g_129)) (.inl (w, w)) (.inr [26])) (xB 400 T) (xD 14 RA) yb (xD 4 SA) yd ye yf rC rD (xD 12 G_79) wd2 wd3 wd4 (xD 12 Kn) ws2 ws3 ws4 (xD 48 G_84) wi2 wi3 wi4) H := hH
        have ez_127 : 0 ≤ z_127.toInt ∧ z_127.toInt ≤ 9999 := by omega
        refine tIastX (t := 47) F hK hH hS (List.mem_singleton.mp hq_121) (by decide) rfl (ixb (n := 48) hz_124.2 rfl rfl) dX3_readReach_75 (fun G_134 eG_134 H locs hH hS => ?_)
        have hH : TH E (tbC dA dB (riverD (.inl (a, a)) (.inl (b, b)) (.inl (c, c)) 31 33 35 39 43 47) rB rc (rdD (.inl (g_128, g_128)) (.inl (n, n)) (.inl (g_129, g_129)) (.inl (w, w)) (.inr [26])) (xB 400 T) (xD 14 RA) yb (xD 4 SA) yd ye yf rC rD (xD 12 G_79) wd2 wd3 wd4 (xD 12 Kn) ws2 ws3 ws4 (xD 48 G_134) wi2 wi3 wi4) H := hH
        have hG_134 : ivP 48 (-2147483648) 2147483647 G_134 := (ivP_updE hG_84 eG_134 (i32b _))
        obtain ⟨x_135, ex_135, hx_135⟩ := iincB (c := 1) (lo := 1) (hi := 4) r_88 rfl
        refine lv_iinc (v := x_135) (lv' := [(3, .int x_135), (0, .ref a0), (2, .int z_2)]) F.1 F.2.1 dX3_readReach_76 hl (k := 2) rfl ex_135 (by decide) rfl (fun ls hl => ?_)
        refine lv_goto (tgt := 50) F.1 F.2.1 dX3_readReach_79 (by decide) ?_
        exact ih_50 (x_135, g_128, g_129, G_134) _ _ _ ⟨(show (4 - x_135.toInt + 1).toNat < n_50 from by omega), (wkb hx_135.2 rfl rfl), (show 0 ≤ g_128 ∧ g_128 ≤ 400 from by omega), (show 0 ≤ g_129 ∧ g_129 ≤ 4000 from by omega), hG_134, (show g_128 = jQp T n g_10 f (x_135.toInt) from (kQ_step hcr50_0 hcr50_1 (by omega) (by omega) hg_128.2.2 hg_129.2.2).1), (show g_129 = jQf T n g_10 f (x_135.toInt) from (kQ_step hcr50_0 hcr50_1 (by omega) (by omega) hg_128.2.2 hg_129.2.2).2), (show G_134 = jQr T n a g_10 f (x_135.toInt) Q from (jQr_step (k := z_124.toInt) hcr50_0 hcr50_2 (updR eG_134 (by omega) rfl) (by omega) f_133 (by omega) (by omega))), hH, hS, lv_sub hl [1, 2, 0] rfl⟩
  · skip
    have r_6 : 12 ≤ z_2.toInt ∧ z_2.toInt ≤ 12 := by have h9_ := ez_2; omega
    refine lv_aload_n F.1 F.2.1 dX3_readReach_14 rfl (lv_at hl 1 rfl) ?_
    refine lv_iload_n F.1 F.2.1 dX3_readReach_15 rfl (lv_at hl 2 rfl) ?_
    refine lv_iconst (v := 3) F.1 F.2.1 dX3_readReach_16 (by decide) ?_
    refine topK (a := 3) (by decide) (fun k_136 hk_136 => ?_)
    refine tVv (b := a0) (As := [.int a1, .int k_136]) (rest := []) F hK hN hO (c_X3_blame E dA dB (riverD (.inl (a, a)) (.inl (b, b)) (.inl (c, c)) 31 33 35 39 43 47) rB rc (xB 400 T) (xD 14 RA) yb (xD 4 SA) yd ye yf rC rD (xD 12 D) wd2 wd3 wd4 (xD 12 Kn) ws2 ws3 ws4 (xD 48 Q) wi2 wi3 wi4 ((.inl (n, n))) ((.inl (p, p))) ((.inl (w, w))) (.inr [26]) f st 3 a0 a1 k_136 ha0 ha1 (wkb (eqb hk_136) rfl rfl) (by omega) (by omega) (by omega)) mv_X3_blame wd_12_11 ⟨Nat.le_of_ble_eq_true rfl, Nat.le_of_ble_eq_true rfl⟩ ⟨Nat.le_of_ble_eq_true rfl, Nat.le_of_ble_eq_true rfl⟩ hH hS (tRecv hK hH (tyb ha0 (all1 rfl)) clX3) rfl hl.1 (Nat.le_of_ble_eq_true rfl) dX3_readReach_17 (fun H locs hq hS => ?_)
    obtain ⟨g_138, hg_138, hH⟩ := hq
    have hH : TH E (tbC dA dB (riverD (.inl (a, a)) (.inl (b, b)) (.inl (c, c)) 31 33 35 39 43 47) rB rc (rdD (.inl (p, p)) (.inl (n, n)) (.inl (g_138, g_138)) (.inl (w, w)) (.inr [26])) (xB 400 T) (xD 14 RA) yb (xD 4 SA) yd ye yf rC rD (xD 12 D) wd2 wd3 wd4 (xD 12 Kn) ws2 ws3 ws4 (xD 48 Q) wi2 wi3 wi4) H := hH
    exact txV F hS dX3_readReach_20 (⟨p, (by omega), g_138, (by omega), a, (by omega), D, hD, Kn, hKn, Q, ⟨hQ, (reach_a3 (by omega) hg_138.2.2)⟩, hH⟩)
set_option maxHeartbeats 4000000 in
set_option maxRecDepth 100000 in
theorem c_X3_readReach_2 (E : Ev) (dA : TD) (dB : TD) (rA : TD) (rc : TD) (ya : TD) (yc : TD) (ye : TD) (yf : TD) (rC : TD) (rD : TD) (wd1 : TD) (wd3 : TD) (wd4 : TD) (ws1 : TD) (ws3 : TD) (ws4 : TD) (wi1 : TD) (wi3 : TD) (wi4 : TD) (a : Int) (b : Int) (c : Int) (n : Int) (p : Int) (f : Int) (w : Int) (T : Nat → Int32) (RA : Nat → Int32) (SA : Nat → Int32) (D : Nat → Int32) (Kn : Nat → Int32) (Q : Nat → Int32) (st : Int) (a0 : Nat) (a1 : Int32) (ha0 : eT E a0 ∈ [29]) (ha1 : 0 ≤ a1.toInt ∧ a1.toInt ≤ 400) (ha : 0 ≤ a ∧ a ≤ 12) (hb : 0 ≤ b ∧ b ≤ 14) (hc : 0 ≤ c ∧ c ≤ 4) (hn : 0 ≤ n ∧ n ≤ 400) (hp : 0 ≤ p ∧ p ≤ 400) (hf : 0 ≤ f ∧ f ≤ 4000) (hw : 0 ≤ w ∧ w ≤ 1) (hT : ivP 400 (-128) 127 T) (hRA : ivP 14 (-2147483648) 2147483647 RA) (hSA : ivP 4 (-2147483648) 2147483647 SA) (hD : ivP 12 (-2) 11 D) (hKn : ivP 12 (-2147483648) 2147483647 Kn) (hQ : ivP 48 (-2147483648) 2147483647 Q) (hst : a1.toInt = st) : TcV E yX3_readReach cX3_readReach 4 ({ frames := 6, cells := 0, slots := 0, locals := 204 }) [.ref a0, .int a1] (fun H => TH E (tbC dA dB rA (riverD (.inl (a, a)) (.inl (b, b)) (.inl (c, c)) 32 34 36 40 44 48) rc (rdD (.inl (p, p)) (.inl (n, n)) (.inl (f, f)) (.inl (w, w)) (.inr [27])) (xB 400 T) ya (xD 14 RA) yc (xD 4 SA) ye yf rC rD wd1 (xD 12 D) wd3 wd4 ws1 (xD 12 Kn) ws3 ws4 wi1 (xD 48 Q) wi3 wi4) H) (fun H => ∃ p2 : Int, (0 ≤ p2 ∧ p2 ≤ 400) ∧ ∃ f2 : Int, (0 ≤ f2 ∧ f2 ≤ 4000) ∧ ∃ a2 : Int, (0 ≤ a2 ∧ a2 ≤ 12) ∧ ∃ D2 : Nat → Int32, (ivP 12 (-2) 11 D2) ∧ ∃ Kn2 : Nat → Int32, (ivP 12 (-2147483648) 2147483647 Kn2) ∧ ∃ Q2 : Nat → Int32, (ivP 48 (-2147483648) 2147483647 Q2 ∧ (p2, f2, w, a2, b, c, D2, Q2, Kn2, RA, SA) = cReach T n st (p, f, w, a, b, c, D, Q, Kn, RA, SA)) ∧ TH E (tbC dA dB rA (riverD (.inl (a2, a2)) (.inl (b, b)) (.inl (c, c)) 32 34 36 40 44 48) rc (rdD (.inl (p2, p2)) (.inl (n, n)) (.inl (f2, f2)) (.inl (w, w)) (.inr [27])) (xB 400 T) ya (xD 14 RA) yc (xD 4 SA) ye yf rC rD wd1 (xD 12 D2) wd3 wd4 ws1 (xD 12 Kn2) ws3 ws4 wi1 (xD 48 Q2) wi3 wi4) H) := by
  refine teV (by decide) (Nat.le_of_ble_eq_true rfl) ?_
  intro p_ ev_ s mi_ below_ meth cd_ ls F hK hN hO hH hS hl
  have hH : TH E (tbC dA dB rA (riverD (.inl (a, a)) (.inl (b, b)) (.inl (c, c)) 32 34 36 40 44 48) rc (rdD (.inl (p, p)) (.inl (n, n)) (.inl (f, f)) (.inl (w, w)) (.inr [27])) (xB 400 T) ya (xD 14 RA) yc (xD 4 SA) ye yf rC rD wd1 (xD 12 D) wd3 wd4 ws1 (xD 12 Kn) ws3 ws4 wi1 (xD 48 Q) wi3 wi4) s.heap := hH
  have hl : lv_has ls 4 [(0, .ref a0), (1, .int a1)] := hl
  refine lv_aload_n F.1 F.2.1 dX3_readReach_0 rfl (lv_at hl 0 rfl) ?_
  refine tGetR (j := 5) F hK hH (tyb ha0 (all1 rfl)) rfl (all1 rfl) clX3 (by decide) wd_5_18 dX3_readReach_1 (fun q_1 hq_1 _ => ?_)
  refine tGetI (j := 0) F hK hH (tyb hq_1 (all1 rfl)) rfl clX2 (by decide) wd_12_7 dX3_readReach_4 (fun z_2 hz_2 => ?_)
  have ez_2 : 0 ≤ z_2.toInt ∧ z_2.toInt ≤ 12 := by omega
  refine lv_istore_n (lv' := [(2, .int z_2), (0, .ref a0), (1, .int a1)]) F.1 F.2.1 dX3_readReach_7 rfl hl (by decide) rfl (fun ls hl => ?_)
  refine lv_iload_n F.1 F.2.1 dX3_readReach_8 rfl (lv_at hl 0 rfl) ?_
  refine lv_bipush (v := 12) F.1 F.2.1 dX3_readReach_9 (by decide) ?_
  refine topK (a := 12) (by decide) (fun k_3 hk_3 => ?_)
  refine b_lt (tgt := 21) F dX3_readReach_11 (by decide) (fun c_4 => ?_) (fun c_4 => ?_)
  · skip
    have r_5 : 0 ≤ z_2.toInt ∧ z_2.toInt ≤ 11 := by have h9_ := ez_2; omega
    refine lv_aload_n F.1 F.2.1 dX3_readReach_21 rfl (lv_at hl 1 rfl) ?_
    refine tGetR (j := 5) F hK hH (tyb ha0 (all1 rfl)) rfl (all1 rfl) clX3 (by decide) wd_5_18 dX3_readReach_22 (fun q_7 hq_7 _ => ?_)
    refine tGetR (j := 1) F hK hH (tyb hq_7 (all1 rfl)) rfl (all1 rfl) clX2 (by decide) wd_12_8 dX3_readReach_25 (fun q_8 hq_8 _ => ?_)
    refine lv_iload_n F.1 F.2.1 dX3_readReach_28 rfl (lv_at hl 0 rfl) ?_
    refine lv_aload_n F.1 F.2.1 dX3_readReach_29 rfl (lv_at hl 1 rfl) ?_
    refine va_ldcS F.1 F.2.1 F.2.2.2.2.1 (hO.1 1 _ rfl).1 dX3_readReach_30 ?_
    refine tVi (b := a0) (As := [.ref (eX E 1)]) (rest := [.int z_2, .ref q_8]) F hK hN hO (c_X3_isNext E dA dB rA (riverD (.inl (a, a)) (.inl (b, b)) (.inl (c, c)) 32 34 36 40 44 48) rc ya (xD 14 RA) yc (xD 4 SA) ye yf rC rD wd1 (xD 12 D) wd3 wd4 ws1 (xD 12 Kn) ws3 ws4 wi1 (xD 48 Q) wi3 wi4 ((.inl (w, w))) (.inr [27]) n p f T a0 1 5 ha0 (strAt 1 rfl) (by omega) (by omega) (by omega) hT) mv_X3_isNext wd_9_22 ⟨Nat.le_of_ble_eq_true rfl, Nat.le_of_ble_eq_true rfl⟩ ⟨Nat.le_of_ble_eq_true rfl, Nat.le_of_ble_eq_true rfl⟩ hH hS (tRecv hK hH (tyb ha0 (all1 rfl)) clX3) rfl hl.1 (Nat.le_of_ble_eq_true rfl) dX3_readReach_32 (fun z_9 H locs hq hS => ?_)
    obtain ⟨g_10, hg_10, f_11, f_12, hH⟩ := hq
    have hH : TH E (tbC dA dB rA (riverD (.inl (a, a)) (.inl (b, b)) (.inl (c, c)) 32 34 36 40 44 48) rc (rdD (.inl (g_10, g_10)) (.inl (n, n)) (.inl (f, f)) (.inl (w, w)) (.inr [27])) (xB 400 T) ya (xD 14 RA) yc (xD 4 SA) ye yf rC rD wd1 (xD 12 D) wd3 wd4 ws1 (xD 12 Kn) ws3 ws4 wi1 (xD 48 Q) wi3 wi4) H := hH
    refine z_eq (tgt := 43) F dX3_readReach_35 (by decide) (fun c_13 => ?_) (fun c_13 => ?_)
    · skip
      have r_14 : 0 ≤ z_9.toInt ∧ z_9.toInt ≤ 0 := by have h9_ := f_11; omega
      refine lv_aload_n F.1 F.2.1 dX3_readReach_43 rfl (lv_at hl 1 rfl) ?_
      refine tVi (b := a0) (As := []) (rest := [.int z_2, .ref q_8]) F hK hN hO (c_X3_readReachNumber_2 E dA dB rA rc ya yc ye yf rC rD wd1 (xD 12 D) wd3 wd4 ws1 (xD 12 Kn) ws3 ws4 wi1 (xD 48 Q) wi3 wi4 a b c n g_10 f w T RA SA a0 ha0 (by omega) (by omega) (by omega) (by omega) (by omega) (by omega) (by omega) hT hRA hSA) mv_X3_readReachNumber wd_12_15 ⟨Nat.le_of_ble_eq_true rfl, Nat.le_of_ble_eq_true rfl⟩ ⟨Nat.le_of_ble_eq_true rfl, Nat.le_of_ble_eq_true rfl⟩ hH hS (tRecv hK hH (tyb ha0 (all1 rfl)) clX3) rfl hl.1 (Nat.le_of_ble_eq_true rfl) dX3_readReach_44 (fun z_16 H locs hq hS => ?_)
      obtain ⟨g_17, hg_17, g_18, hg_18, f_19, f_20, hH⟩ := hq
      have hH : TH E (tbC dA dB rA (riverD (.inl (a, a)) (.inl (b, b)) (.inl (c, c)) 32 34 36 40 44 48) rc (rdD (.inl (g_17, g_17)) (.inl (n, n)) (.inl (g_18, g_18)) (.inl (w, w)) (.inr [27])) (xB 400 T) ya (xD 14 RA) yc (xD 4 SA) ye yf rC rD wd1 (xD 12 D) wd3 wd4 ws1 (xD 12 Kn) ws3 ws4 wi1 (xD 48 Q) wi3 wi4) H := hH
      refine tIastX (t := 40) F hK hH hS (List.mem_singleton.mp hq_8) (by decide) rfl (ixb (n := 12) r_5 rfl rfl) dX3_readReach_47 (fun G_21 eG_21 H locs hH hS => ?_)
      have hH : TH E (tbC dA dB rA (riverD (.inl (a, a)) (.inl (b, b)) (.inl (c, c)) 32 34 36 40 44 48) rc (rdD (.inl (g_17, g_17)) (.inl (n, n)) (.inl (g_18, g_18)) (.inl (w, w)) (.inr [27])) (xB 400 T) ya (xD 14 RA) yc (xD 4 SA) ye yf rC rD wd1 (xD 12 G_21) wd3 wd4 ws1 (xD 12 Kn) ws3 ws4 wi1 (xD 48 Q) wi3 wi4) H := hH
      have hG_21 : ivP 12 (-2) 11 G_21 := (ivP_updE hD eG_21 (by omega))
      refine lv_iconst (v := 0) F.1 F.2.1 dX3_readReach_48 (by decide) ?_
      refine topK (a := 0) (by decide) (fun k_22 hk_22 => ?_)
      refine lv_istore_n (lv' := [(3, .int k_22), (2, .int z_2), (0, .ref a0), (1, .int a1)]) F.1 F.2.1 dX3_readReach_49 rfl hl (by decide) rfl (fun ls hl => ?_)
      refine wloop (σ := Int32 × Int × Int × (Nat → Int32)) (fun n9 x9 H locs ls => (4 - x9.1.toInt + 1).toNat < n9 ∧ (0 ≤ x9.1.toInt ∧ x9.1.toInt ≤ 4) ∧ (0 ≤ x9.2.1 ∧ x9.2.1 ≤ 400) ∧ (0 ≤ x9.2.2.1 ∧ x9.2.2.1 ≤ 4000) ∧ (ivP 48 (-2147483648) 2147483647 x9.2.2.2) ∧ (x9.2.1 = jQp T n g_17 g_18 (x9.1.toInt)) ∧ (x9.2.2.1 = jQf T n g_17 g_18 (x9.1.toInt)) ∧ (x9.2.2.2 = jQr T n a g_17 g_18 (x9.1.toInt) Q) ∧ TH E (tbC dA dB rA (riverD (.inl (a, a)) (.inl (b, b)) (.inl (c, c)) 32 34 36 40 44 48) rc (rdD (.inl (x9.2.1, x9.2.1)) (.inl (n, n)) (.inl (x9.2.2.1, x9.2.2.1)) (.inl (w, w)) (.inr [27])) (xB 400 T) ya (xD 14 RA) yc (xD 4 SA) ye yf rC rD wd1 (xD 12 G_21) wd3 wd4 ws1 (xD 12 Kn) ws3 ws4 wi1 (xD 48 x9.2.2.2) wi3 wi4) H ∧ va_S (eA E s.heap.size) s.heap H locs ∧ lv_has ls 4 [(0, .ref a0), (2, .int z_2), (3, .int x9.1)]) ?_ (fun x9 H locs ls h => absurd h.1 (Nat.not_lt_zero _)) _ (k_22, g_17, g_18, Q) ⟨Nat.lt_succ_self _, (wkb (eqb hk_22) rfl rfl), (show 0 ≤ g_17 ∧ g_17 ≤ 400 from by omega), (show 0 ≤ g_18 ∧ g_18 ≤ 4000 from by omega), hQ, (show g_17 = jQp T n g_17 g_18 (k_22.toInt) from (kQ0 (by omega)).1), (show g_18 = jQf T n g_17 g_18 (k_22.toInt) from (kQ0 (by omega)).2), (show Q = jQr T n a g_17 g_18 (k_22.toInt) Q from (jQr0 (by omega))), hH, hS, lv_sub hl [2, 1, 0] rfl⟩
      intro n_50 ih_50 ⟨u_23, g_24, g_25, G_26⟩ H locs ls ⟨hm_50, hu_23, hg_24, hg_25, hG_26, hcr50_0, hcr50_1, hcr50_2, hH, hS, hl⟩
      have hm_50 : (4 - u_23.toInt + 1).toNat < n_50 + 1 := hm_50
      have hu_23 : (0 ≤ u_23.toInt ∧ u_23.toInt ≤ 4) := hu_23
      have hg_24 : (0 ≤ g_24 ∧ g_24 ≤ 400) := hg_24
      have hg_25 : (0 ≤ g_25 ∧ g_25 ≤ 4000) := hg_25
      have hG_26 : (ivP 48 (-2147483648) 2147483647 G_26) := hG_26
      have hcr50_0 : (g_24 = jQp T n g_17 g_18 (u_23.toInt)) := hcr50_0
      have hcr50_1 : (g_25 = jQf T n g_17 g_18 (u_23.toInt)) := hcr50_1
      have hcr50_2 : (G_26 = jQr T n a g_17 g_18 (u_23.toInt) Q) := hcr50_2
      have hH : TH E (tbC dA dB rA (riverD (.inl (a, a)) (.inl (b, b)) (.inl (c, c)) 32 34 36 40 44 48) rc (rdD (.inl (g_24, g_24)) (.inl (n, n)) (.inl (g_25, g_25)) (.inl (w, w)) (.inr [27])) (xB 400 T) ya (xD 14 RA) yc (xD 4 SA) ye yf rC rD wd1 (xD 12 G_21) wd3 wd4 ws1 (xD 12 Kn) ws3 ws4 wi1 (xD 48 G_26) wi3 wi4) H := hH
      have hl : lv_has ls 4 [(0, .ref a0), (2, .int z_2), (3, .int u_23)] := hl
      refine lv_iload_n F.1 F.2.1 dX3_readReach_50 rfl (lv_at hl 2 rfl) ?_
      refine lv_iconst (v := 4) F.1 F.2.1 dX3_readReach_51 (by decide) ?_
      refine topK (a := 4) (by decide) (fun k_27 hk_27 => ?_)
      refine b_ge (tgt := 82) F dX3_readReach_52 (by decide) (fun c_28 => ?_) (fun c_28 => ?_)
      · skip
        have r_29 : 4 ≤ u_23.toInt ∧ u_23.toInt ≤ 4 := by have h9_ := hu_23; omega
        refine lv_aload_n F.1 F.2.1 dX3_readReach_82 rfl (lv_at hl 0 rfl) ?_
        refine tGetR (j := 5) F hK hH (tyb ha0 (all1 rfl)) rfl (all1 rfl) clX3 (by decide) wd_5_18 dX3_readReach_83 (fun q_31 hq_31 _ => ?_)
        refine tGetR (j := 2) F hK hH (tyb hq_31 (all1 rfl)) rfl (all1 rfl) clX2 (by decide) wd_12_10 dX3_readReach_86 (fun q_32 hq_32 _ => ?_)
        refine lv_iload_n F.1 F.2.1 dX3_readReach_89 rfl (lv_at hl 1 rfl) ?_
        refine lv_aload_n F.1 F.2.1 dX3_readReach_90 rfl (lv_at hl 0 rfl) ?_
        refine va_ldcS F.1 F.2.1 F.2.2.2.2.1 (hO.1 2 _ rfl).1 dX3_readReach_91 ?_
        refine tVi (b := a0) (As := [.ref (eX E 2)]) (rest := [.int z_2, .ref q_32]) F hK hN hO (c_X3_isNext E dA dB rA (riverD (.inl (a, a)) (.inl (b, b)) (.inl (c, c)) 32 34 36 40 44 48) rc ya (xD 14 RA) yc (xD 4 SA) ye yf rC rD wd1 (xD 12 G_21) wd3 wd4 ws1 (xD 12 Kn) ws3 ws4 wi1 (xD 48 G_26) wi3 wi4 ((.inl (w, w))) (.inr [27]) n g_24 g_25 T a0 2 4 ha0 (strAt 2 rfl) (by omega) (by omega) (by omega) hT) mv_X3_isNext wd_9_22 ⟨Nat.le_of_ble_eq_true rfl, Nat.le_of_ble_eq_true rfl⟩ ⟨Nat.le_of_ble_eq_true rfl, Nat.le_of_ble_eq_true rfl⟩ hH hS (tRecv hK hH (tyb ha0 (all1 rfl)) clX3) rfl hl.1 (Nat.le_of_ble_eq_true rfl) dX3_readReach_93 (fun z_33 H locs hq hS => ?_)
        obtain ⟨g_34, hg_34, f_35, f_36, hH⟩ := hq
        have hH : TH E (tbC dA dB rA (riverD (.inl (a, a)) (.inl (b, b)) (.inl (c, c)) 32 34 36 40 44 48) rc (rdD (.inl (g_34, g_34)) (.inl (n, n)) (.inl (g_25, g_25)) (.inl (w, w)) (.inr [27])) (xB 400 T) ya (xD 14 RA) yc (xD 4 SA) ye yf rC rD wd1 (xD 12 G_21) wd3 wd4 ws1 (xD 12 Kn) ws3 ws4 wi1 (xD 48 G_26) wi3 wi4) H := hH
        refine z_eq (tgt := 110) F dX3_readReach_96 (by decide) (fun c_37 => ?_) (fun c_37 => ?_)
        · skip
          have r_38 : 0 ≤ z_33.toInt ∧ z_33.toInt ≤ 0 := by have h9_ := f_35; omega
          refine lv_iconst (v := 0) F.1 F.2.1 dX3_readReach_110 (by decide) ?_
          refine topK (a := 0) (by decide) (fun k_40 hk_40 => ?_)
          refine tIastX (t := 44) F hK hH hS (List.mem_singleton.mp hq_32) (by decide) rfl (ixb (n := 12) r_5 rfl rfl) dX3_readReach_111 (fun G_41 eG_41 H locs hH hS => ?_)
          have hH : TH E (tbC dA dB rA (riverD (.inl (a, a)) (.inl (b, b)) (.inl (c, c)) 32 34 36 40 44 48) rc (rdD (.inl (g_34, g_34)) (.inl (n, n)) (.inl (g_25, g_25)) (.inl (w, w)) (.inr [27])) (xB 400 T) ya (xD 14 RA) yc (xD 4 SA) ye yf rC rD wd1 (xD 12 G_21) wd3 wd4 ws1 (xD 12 G_41) ws3 ws4 wi1 (xD 48 G_26) wi3 wi4) H := hH
          have hG_41 : ivP 12 (-2147483648) 2147483647 G_41 := (ivP_updE hKn eG_41 (i32b _))
          refine lv_aload_n F.1 F.2.1 dX3_readReach_112 rfl (lv_at hl 0 rfl) ?_
          refine tGetR (j := 5) F hK hH (tyb ha0 (all1 rfl)) rfl (all1 rfl) clX3 (by decide) wd_5_18 dX3_readReach_113 (fun q_42 hq_42 _ => ?_)
          refine lv_dup F.1 F.2.1 dX3_readReach_116 rfl ?_
          refine tGetI (j := 0) F hK hH (tyb hq_42 (all1 rfl)) rfl clX2 (by decide) wd_12_7 dX3_readReach_117 (fun z_43 hz_43 => ?_)
          have ez_43 : 0 ≤ z_43.toInt ∧ z_43.toInt ≤ 11 := by omega
          refine lv_iconst (v := 1) F.1 F.2.1 dX3_readReach_120 (by decide) ?_
          refine topK (a := 1) (by decide) (fun k_44 hk_44 => ?_)
          refine tAdd (lo := 1) (hi := 12) F dX3_readReach_121 ez_43 (eqb hk_44) rfl (fun z_45 hz_45 => ?_)
          obtain ⟨g_46, hg_46⟩ : ∃ y : Int, z_45.toInt = y := ⟨_, rfl⟩
          have bg_46 : 1 ≤ g_46 ∧ g_46 ≤ 12 := by rw [← hg_46]; exact hz_45.2
          refine tPutG (j := 0) (t := 27) (fd := (.inl (g_46, g_46))) F hK hH hS (List.mem_singleton.mp hq_42) (by decide) rfl rfl (fdI (by omega)) (TB1 := (tbC dA dB rA (riverD (.inl (g_46, g_46)) (.inl (b, b)) (.inl (c, c)) 32 34 36 40 44 48) rc (rdD (.inl (g_34, g_34)) (.inl (n, n)) (.inl (g_25, g_25)) (.inl (w, w)) (.inr [27])) (xB 400 T) ya (xD 14 RA) yc (xD 4 SA) ye yf rC rD wd1 (xD 12 G_21) wd3 wd4 ws1 (xD 12 G_41) ws3 ws4 wi1 (xD 48 G_26) wi3 wi4)) rfl clX2 (by decide) wd_12_7 rfl rfl rfl rfl dX3_readReach_122 (fun H locs hH hS => ?_)
          exact txV F hS dX3_readReach_125 (⟨g_34, (by omega), g_25, (by omega), g_46, (by omega), G_21, hG_21, G_41, hG_41, G_26, ⟨hG_26, (reach_b3 f_12 hg_10.2.2 hcr50_0 hcr50_1 f_36 hg_34.2.2 (updR eG_21 (by omega) rfl) hcr50_2 (updR eG_41 (by omega) rfl) (by omega) (by omega) (by omega) (by omega) (by omega))⟩, hH⟩)
        · skip
          have r_39 : 1 ≤ z_33.toInt ∧ z_33.toInt ≤ 1 := by have h9_ := f_35; omega
          refine lv_aload_n F.1 F.2.1 dX3_readReach_99 rfl (lv_at hl 0 rfl) ?_
          refine lv_iconst (v := 0) F.1 F.2.1 dX3_readReach_100 (by decide) ?_
          refine topK (a := 0) (by decide) (fun k_47 hk_47 => ?_)
          refine lv_sipush (v := 9999) F.1 F.2.1 dX3_readReach_101 (by decide) ?_
          refine topK (a := 9999) (by decide) (fun k_48 hk_48 => ?_)
          refine tVi (b := a0) (As := [.int k_47, .int k_48]) (rest := [.int z_2, .ref q_32]) F hK hN hO (c_X3_readNumber E dA dB rA (riverD (.inl (a, a)) (.inl (b, b)) (.inl (c, c)) 32 34 36 40 44 48) rc ya (xD 14 RA) yc (xD 4 SA) ye yf rC rD wd1 (xD 12 G_21) wd3 wd4 ws1 (xD 12 Kn) ws3 ws4 wi1 (xD 48 G_26) wi3 wi4 ((.inl (w, w))) (.inr [27]) n g_34 g_25 T 0 9999 a0 k_47 k_48 ha0 (by omega) (by omega) (by omega) hT (by omega) (by omega)) mv_X3_readNumber wd_12_19 ⟨Nat.le_of_ble_eq_true rfl, Nat.le_of_ble_eq_true rfl⟩ ⟨Nat.le_of_ble_eq_true rfl, Nat.le_of_ble_eq_true rfl⟩ hH hS (tRecv hK hH (tyb ha0 (all1 rfl)) clX3) rfl hl.1 (Nat.le_of_ble_eq_true rfl) dX3_readReach_104 (fun z_49 H locs hq hS => ?_)
          obtain ⟨g_50, hg_50, g_51, hg_51, f_52, f_53, f_54, f_55, hH⟩ := hq
          have hH : TH E (tbC dA dB rA (riverD (.inl (a, a)) (.inl (b, b)) (.inl (c, c)) 32 34 36 40 44 48) rc (rdD (.inl (g_50, g_50)) (.inl (n, n)) (.inl (g_51, g_51)) (.inl (w, w)) (.inr [27])) (xB 400 T) ya (xD 14 RA) yc (xD 4 SA) ye yf rC rD wd1 (xD 12 G_21) wd3 wd4 ws1 (xD 12 Kn) ws3 ws4 wi1 (xD 48 G_26) wi3 wi4) H := hH
          have ez_49 : 0 ≤ z_49.toInt ∧ z_49.toInt ≤ 9999 := by omega
          refine lv_goto (tgt := 111) F.1 F.2.1 dX3_readReach_107 (by decide) ?_
          refine tIastX (t := 44) F hK hH hS (List.mem_singleton.mp hq_32) (by decide) rfl (ixb (n := 12) r_5 rfl rfl) dX3_readReach_111 (fun G_56 eG_56 H locs hH hS => ?_)
          have hH : TH E (tbC dA dB rA (riverD (.inl (a, a)) (.inl (b, b)) (.inl (c, c)) 32 34 36 40 44 48) rc (rdD (.inl (g_50, g_50)) (.inl (n, n)) (.inl (g_51, g_51)) (.inl (w, w)) (.inr [27])) (xB 400 T) ya (xD 14 RA) yc (xD 4 SA) ye yf rC rD wd1 (xD 12 G_21) wd3 wd4 ws1 (xD 12 G_56) ws3 ws4 wi1 (xD 48 G_26) wi3 wi4) H := hH
          have hG_56 : ivP 12 (-2147483648) 2147483647 G_56 := (ivP_updE hKn eG_56 (i32b _))
          refine lv_aload_n F.1 F.2.1 dX3_readReach_112 rfl (lv_at hl 0 rfl) ?_
          refine tGetR (j := 5) F hK hH (tyb ha0 (all1 rfl)) rfl (all1 rfl) clX3 (by decide) wd_5_18 dX3_readReach_113 (fun q_57 hq_57 _ => ?_)
          refine lv_dup F.1 F.2.1 dX3_readReach_116 rfl ?_
          refine tGetI (j := 0) F hK hH (tyb hq_57 (all1 rfl)) rfl clX2 (by decide) wd_12_7 dX3_readReach_117 (fun z_58 hz_58 => ?_)
          have ez_58 : 0 ≤ z_58.toInt ∧ z_58.toInt ≤ 11 := by omega
          refine lv_iconst (v := 1) F.1 F.2.1 dX3_readReach_120 (by decide) ?_
          refine topK (a := 1) (by decide) (fun k_59 hk_59 => ?_)
          refine tAdd (lo := 1) (hi := 12) F dX3_readReach_121 ez_58 (eqb hk_59) rfl (fun z_60 hz_60 => ?_)
          obtain ⟨g_61, hg_61⟩ : ∃ y : Int, z_60.toInt = y := ⟨_, rfl⟩
          have bg_61 : 1 ≤ g_61 ∧ g_61 ≤ 12 := by rw [← hg_61]; exact hz_60.2
          refine tPutG (j := 0) (t := 27) (fd := (.inl (g_61, g_61))) F hK hH hS (List.mem_singleton.mp hq_57) (by decide) rfl rfl (fdI (by omega)) (TB1 := (tbC dA dB rA (riverD (.inl (g_61, g_61)) (.inl (b, b)) (.inl (c, c)) 32 34 36 40 44 48) rc (rdD (.inl (g_50, g_50)) (.inl (n, n)) (.inl (g_51, g_51)) (.inl (w, w)) (.inr [27])) (xB 400 T) ya (xD 14 RA) yc (xD 4 SA) ye yf rC rD wd1 (xD 12 G_21) wd3 wd4 ws1 (xD 12 G_56) ws3 ws4 wi1 (xD 48 G_26) wi3 wi4)) rfl clX2 (by decide) wd_12_7 rfl rfl rfl rfl dX3_readReach_122 (fun H locs hH hS => ?_)
          exact txV F hS dX3_readReach_125 (⟨g_50, (by omega), g_51, (by omega), g_61, (by omega), G_21, hG_21, G_56, hG_56, G_26, ⟨hG_26, (reach_b3 f_12 hg_10.2.2 hcr50_0 hcr50_1 f_36 hg_34.2.2 (updR eG_21 (by omega) rfl) hcr50_2 (updR eG_56 (by omega) rfl) (by omega) (by omega) (by omega) (by omega) (by omega))⟩, hH⟩)
      · skip
        have r_30 : 0 ≤ u_23.toInt ∧ u_23.toInt ≤ 3 := by have h9_ := hu_23; omega
        refine lv_aload_n F.1 F.2.1 dX3_readReach_55 rfl (lv_at hl 0 rfl) ?_
        refine tGetR (j := 5) F hK hH (tyb ha0 (all1 rfl)) rfl (all1 rfl) clX3 (by decide) wd_5_18 dX3_readReach_56 (fun q_62 hq_62 _ => ?_)
        refine tGetR (j := 3) F hK hH (tyb hq_62 (all1 rfl)) rfl (all1 rfl) clX2 (by decide) wd_12_9 dX3_readReach_59 (fun q_63 hq_63 _ => ?_)
        refine lv_iload_n F.1 F.2.1 dX3_readReach_62 rfl (lv_at hl 1 rfl) ?_
        refine lv_iconst (v := 4) F.1 F.2.1 dX3_readReach_63 (by decide) ?_
        refine topK (a := 4) (by decide) (fun k_64 hk_64 => ?_)
        refine tMul (lo := 0) (hi := 44) F dX3_readReach_64 r_5 (eqb hk_64) rfl (fun z_65 hz_65 => ?_)
        have mz_65 : z_65.toInt = z_2.toInt * 4 := by rw [hz_65.1, hk_64]
        refine lv_iload_n F.1 F.2.1 dX3_readReach_65 rfl (lv_at hl 2 rfl) ?_
        refine tAdd (lo := 0) (hi := 47) F dX3_readReach_66 hz_65.2 r_30 rfl (fun z_66 hz_66 => ?_)
        refine lv_aload_n F.1 F.2.1 dX3_readReach_67 rfl (lv_at hl 0 rfl) ?_
        refine lv_iconst (v := 0) F.1 F.2.1 dX3_readReach_68 (by decide) ?_
        refine topK (a := 0) (by decide) (fun k_67 hk_67 => ?_)
        refine lv_sipush (v := 9999) F.1 F.2.1 dX3_readReach_69 (by decide) ?_
        refine topK (a := 9999) (by decide) (fun k_68 hk_68 => ?_)
        refine tVi (b := a0) (As := [.int k_67, .int k_68]) (rest := [.int z_66, .ref q_63]) F hK hN hO (c_X3_readNumber E dA dB rA (riverD (.inl (a, a)) (.inl (b, b)) (.inl (c, c)) 32 34 36 40 44 48) rc ya (xD 14 RA) yc (xD 4 SA) ye yf rC rD wd1 (xD 12 G_21) wd3 wd4 ws1 (xD 12 Kn) ws3 ws4 wi1 (xD 48 G_26) wi3 wi4 ((.inl (w, w))) (.inr [27]) n g_24 g_25 T 0 9999 a0 k_67 k_68 ha0 (by omega) (by omega) (by omega) hT (by omega) (by omega)) mv_X3_readNumber wd_12_19 ⟨Nat.le_of_ble_eq_true rfl, Nat.le_of_ble_eq_true rfl⟩ ⟨Nat.le_of_ble_eq_true rfl, Nat.le_of_ble_eq_true rfl⟩ hH hS (tRecv hK hH (tyb ha0 (all1 rfl)) clX3) rfl hl.1 (Nat.le_of_ble_eq_true rfl) dX3_readReach_72 (fun z_69 H locs hq hS => ?_)
        obtain ⟨g_70, hg_70, g_71, hg_71, f_72, f_73, f_74, f_75, hH⟩ := hq
        have hH : TH E (tbC dA dB rA (riverD (.inl (a, a)) (.inl (b, b)) (.inl (c, c)) 32 34 36 40 44 48) rc (rdD (.inl (g_70, g_70)) (.inl (n, n)) (.inl (g_71, g_71)) (.inl (w, w)) (.inr [27])) (xB 400 T) ya (xD 14 RA) yc (xD 4 SA) ye yf rC rD wd1 (xD 12 G_21) wd3 wd4 ws1 (xD 12 Kn) ws3 ws4 wi1 (xD 48 G_26) wi3 wi4) H := hH
        have ez_69 : 0 ≤ z_69.toInt ∧ z_69.toInt ≤ 9999 := by omega
        refine tIastX (t := 48) F hK hH hS (List.mem_singleton.mp hq_63) (by decide) rfl (ixb (n := 48) hz_66.2 rfl rfl) dX3_readReach_75 (fun G_76 eG_76 H locs hH hS => ?_)
        have hH : TH E (tbC dA dB rA (riverD (.inl (a, a)) (.inl (b, b)) (.inl (c, c)) 32 34 36 40 44 48) rc (rdD (.inl (g_70, g_70)) (.inl (n, n)) (.inl (g_71, g_71)) (.inl (w, w)) (.inr [27])) (xB 400 T) ya (xD 14 RA) yc (xD 4 SA) ye yf rC rD wd1 (xD 12 G_21) wd3 wd4 ws1 (xD 12 Kn) ws3 ws4 wi1 (xD 48 G_76) wi3 wi4) H := hH
        have hG_76 : ivP 48 (-2147483648) 2147483647 G_76 := (ivP_updE hG_26 eG_76 (i32b _))
        obtain ⟨x_77, ex_77, hx_77⟩ := iincB (c := 1) (lo := 1) (hi := 4) r_30 rfl
        refine lv_iinc (v := x_77) (lv' := [(3, .int x_77), (0, .ref a0), (2, .int z_2)]) F.1 F.2.1 dX3_readReach_76 hl (k := 2) rfl ex_77 (by decide) rfl (fun ls hl => ?_)
        refine lv_goto (tgt := 50) F.1 F.2.1 dX3_readReach_79 (by decide) ?_
        exact ih_50 (x_77, g_70, g_71, G_76) _ _ _ ⟨(show (4 - x_77.toInt + 1).toNat < n_50 from by omega), (wkb hx_77.2 rfl rfl), (show 0 ≤ g_70 ∧ g_70 ≤ 400 from by omega), (show 0 ≤ g_71 ∧ g_71 ≤ 4000 from by omega), hG_76, (show g_70 = jQp T n g_17 g_18 (x_77.toInt) from (kQ_step hcr50_0 hcr50_1 (by omega) (by omega) hg_70.2.2 hg_71.2.2).1), (show g_71 = jQf T n g_17 g_18 (x_77.toInt) from (kQ_step hcr50_0 hcr50_1 (by omega) (by omega) hg_70.2.2 hg_71.2.2).2), (show G_76 = jQr T n a g_17 g_18 (x_77.toInt) Q from (jQr_step (k := z_66.toInt) hcr50_0 hcr50_2 (updR eG_76 (by omega) rfl) (by omega) f_75 (by omega) (by omega))), hH, hS, lv_sub hl [1, 2, 0] rfl⟩
    · skip
      have r_15 : 1 ≤ z_9.toInt ∧ z_9.toInt ≤ 1 := by have h9_ := f_11; omega
      refine lv_bipush (v := (-2)) F.1 F.2.1 dX3_readReach_38 (by decide) ?_
      refine topK (a := (-2)) (by decide) (fun k_78 hk_78 => ?_)
      refine lv_goto (tgt := 47) F.1 F.2.1 dX3_readReach_40 (by decide) ?_
      refine tIastX (t := 40) F hK hH hS (List.mem_singleton.mp hq_8) (by decide) rfl (ixb (n := 12) r_5 rfl rfl) dX3_readReach_47 (fun G_79 eG_79 H locs hH hS => ?_)
      have hH : TH E (tbC dA dB rA (riverD (.inl (a, a)) (.inl (b, b)) (.inl (c, c)) 32 34 36 40 44 48) rc (rdD (.inl (g_10, g_10)) (.inl (n, n)) (.inl (f, f)) (.inl (w, w)) (.inr [27])) (xB 400 T) ya (xD 14 RA) yc (xD 4 SA) ye yf rC rD wd1 (xD 12 G_79) wd3 wd4 ws1 (xD 12 Kn) ws3 ws4 wi1 (xD 48 Q) wi3 wi4) H := hH
      have hG_79 : ivP 12 (-2) 11 G_79 := (ivP_updE hD eG_79 (by omega))
      refine lv_iconst (v := 0) F.1 F.2.1 dX3_readReach_48 (by decide) ?_
      refine topK (a := 0) (by decide) (fun k_80 hk_80 => ?_)
      refine lv_istore_n (lv' := [(3, .int k_80), (2, .int z_2), (0, .ref a0), (1, .int a1)]) F.1 F.2.1 dX3_readReach_49 rfl hl (by decide) rfl (fun ls hl => ?_)
      refine wloop (σ := Int32 × Int × Int × (Nat → Int32)) (fun n9 x9 H locs ls => (4 - x9.1.toInt + 1).toNat < n9 ∧ (0 ≤ x9.1.toInt ∧ x9.1.toInt ≤ 4) ∧ (0 ≤ x9.2.1 ∧ x9.2.1 ≤ 400) ∧ (0 ≤ x9.2.2.1 ∧ x9.2.2.1 ≤ 4000) ∧ (ivP 48 (-2147483648) 2147483647 x9.2.2.2) ∧ (x9.2.1 = jQp T n g_10 f (x9.1.toInt)) ∧ (x9.2.2.1 = jQf T n g_10 f (x9.1.toInt)) ∧ (x9.2.2.2 = jQr T n a g_10 f (x9.1.toInt) Q) ∧ TH E (tbC dA dB rA (riverD (.inl (a, a)) (.inl (b, b)) (.inl (c, c)) 32 34 36 40 44 48) rc (rdD (.inl (x9.2.1, x9.2.1)) (.inl (n, n)) (.inl (x9.2.2.1, x9.2.2.1)) (.inl (w, w)) (.inr [27])) (xB 400 T) ya (xD 14 RA) yc (xD 4 SA) ye yf rC rD wd1 (xD 12 G_79) wd3 wd4 ws1 (xD 12 Kn) ws3 ws4 wi1 (xD 48 x9.2.2.2) wi3 wi4) H ∧ va_S (eA E s.heap.size) s.heap H locs ∧ lv_has ls 4 [(0, .ref a0), (2, .int z_2), (3, .int x9.1)]) ?_ (fun x9 H locs ls h => absurd h.1 (Nat.not_lt_zero _)) _ (k_80, g_10, f, Q) ⟨Nat.lt_succ_self _, (wkb (eqb hk_80) rfl rfl), (show 0 ≤ g_10 ∧ g_10 ≤ 400 from by omega), (show 0 ≤ f ∧ f ≤ 4000 from by omega), hQ, (show g_10 = jQp T n g_10 f (k_80.toInt) from (kQ0 (by omega)).1), (show f = jQf T n g_10 f (k_80.toInt) from (kQ0 (by omega)).2), (show Q = jQr T n a g_10 f (k_80.toInt) Q from (jQr0 (by omega))), hH, hS, lv_sub hl [2, 1, 0] rfl⟩
      intro n_50 ih_50 ⟨u_81, g_82, g_83, G_84⟩ H locs ls ⟨hm_50, hu_81, hg_82, hg_83, hG_84, hcr50_0, hcr50_1, hcr50_2, hH, hS, hl⟩
      have hm_50 : (4 - u_81.toInt + 1).toNat < n_50 + 1 := hm_50
      have hu_81 : (0 ≤ u_81.toInt ∧ u_81.toInt ≤ 4) := hu_81
      have hg_82 : (0 ≤ g_82 ∧ g_82 ≤ 400) := hg_82
      have hg_83 : (0 ≤ g_83 ∧ g_83 ≤ 4000) := hg_83
      have hG_84 : (ivP 48 (-2147483648) 2147483647 G_84) := hG_84
      have hcr50_0 : (g_82 = jQp T n g_10 f (u_81.toInt)) := hcr50_0
      have hcr50_1 : (g_83 = jQf T n g_10 f (u_81.toInt)) := hcr50_1
      have hcr50_2 : (G_84 = jQr T n a g_10 f (u_81.toInt) Q) := hcr50_2
      have hH : TH E (tbC dA dB rA (riverD (.inl (a, a)) (.inl (b, b)) (.inl (c, c)) 32 34 36 40 44 48) rc (rdD (.inl (g_82, g_82)) (.inl (n, n)) (.inl (g_83, g_83)) (.inl (w, w)) (.inr [27])) (xB 400 T) ya (xD 14 RA) yc (xD 4 SA) ye yf rC rD wd1 (xD 12 G_79) wd3 wd4 ws1 (xD 12 Kn) ws3 ws4 wi1 (xD 48 G_84) wi3 wi4) H := hH
      have hl : lv_has ls 4 [(0, .ref a0), (2, .int z_2), (3, .int u_81)] := hl
      refine lv_iload_n F.1 F.2.1 dX3_readReach_50 rfl (lv_at hl 2 rfl) ?_
      refine lv_iconst (v := 4) F.1 F.2.1 dX3_readReach_51 (by decide) ?_
      refine topK (a := 4) (by decide) (fun k_85 hk_85 => ?_)
      refine b_ge (tgt := 82) F dX3_readReach_52 (by decide) (fun c_86 => ?_) (fun c_86 => ?_)
      · skip
        have r_87 : 4 ≤ u_81.toInt ∧ u_81.toInt ≤ 4 := by have h9_ := hu_81; omega
        refine lv_aload_n F.1 F.2.1 dX3_readReach_82 rfl (lv_at hl 0 rfl) ?_
        refine tGetR (j := 5) F hK hH (tyb ha0 (all1 rfl)) rfl (all1 rfl) clX3 (by decide) wd_5_18 dX3_readReach_83 (fun q_89 hq_89 _ => ?_)
        refine tGetR (j := 2) F hK hH (tyb hq_89 (all1 rfl)) rfl (all1 rfl) clX2 (by decide) wd_12_10 dX3_readReach_86 (fun q_90 hq_90 _ => ?_)
        refine lv_iload_n F.1 F.2.1 dX3_readReach_89 rfl (lv_at hl 1 rfl) ?_
        refine lv_aload_n F.1 F.2.1 dX3_readReach_90 rfl (lv_at hl 0 rfl) ?_
        refine va_ldcS F.1 F.2.1 F.2.2.2.2.1 (hO.1 2 _ rfl).1 dX3_readReach_91 ?_
        refine tVi (b := a0) (As := [.ref (eX E 2)]) (rest := [.int z_2, .ref q_90]) F hK hN hO (c_X3_isNext E dA dB rA (riverD (.inl (a, a)) (.inl (b, b)) (.inl (c, c)) 32 34 36 40 44 48) rc ya (xD 14 RA) yc (xD 4 SA) ye yf rC rD wd1 (xD 12 G_79) wd3 wd4 ws1 (xD 12 Kn) ws3 ws4 wi1 (xD 48 G_84) wi3 wi4 ((.inl (w, w))) (.inr [27]) n g_82 g_83 T a0 2 4 ha0 (strAt 2 rfl) (by omega) (by omega) (by omega) hT) mv_X3_isNext wd_9_22 ⟨Nat.le_of_ble_eq_true rfl, Nat.le_of_ble_eq_true rfl⟩ ⟨Nat.le_of_ble_eq_true rfl, Nat.le_of_ble_eq_true rfl⟩ hH hS (tRecv hK hH (tyb ha0 (all1 rfl)) clX3) rfl hl.1 (Nat.le_of_ble_eq_true rfl) dX3_readReach_93 (fun z_91 H locs hq hS => ?_)
        obtain ⟨g_92, hg_92, f_93, f_94, hH⟩ := hq
        have hH : TH E (tbC dA dB rA (riverD (.inl (a, a)) (.inl (b, b)) (.inl (c, c)) 32 34 36 40 44 48) rc (rdD (.inl (g_92, g_92)) (.inl (n, n)) (.inl (g_83, g_83)) (.inl (w, w)) (.inr [27])) (xB 400 T) ya (xD 14 RA) yc (xD 4 SA) ye yf rC rD wd1 (xD 12 G_79) wd3 wd4 ws1 (xD 12 Kn) ws3 ws4 wi1 (xD 48 G_84) wi3 wi4) H := hH
        refine z_eq (tgt := 110) F dX3_readReach_96 (by decide) (fun c_95 => ?_) (fun c_95 => ?_)
        · skip
          have r_96 : 0 ≤ z_91.toInt ∧ z_91.toInt ≤ 0 := by have h9_ := f_93; omega
          refine lv_iconst (v := 0) F.1 F.2.1 dX3_readReach_110 (by decide) ?_
          refine topK (a := 0) (by decide) (fun k_98 hk_98 => ?_)
          refine tIastX (t := 44) F hK hH hS (List.mem_singleton.mp hq_90) (by decide) rfl (ixb (n := 12) r_5 rfl rfl) dX3_readReach_111 (fun G_99 eG_99 H locs hH hS => ?_)
          have hH : TH E (tbC dA dB rA (riverD (.inl (a, a)) (.inl (b, b)) (.inl (c, c)) 32 34 36 40 44 48) rc (rdD (.inl (g_92, g_92)) (.inl (n, n)) (.inl (g_83, g_83)) (.inl (w, w)) (.inr [27])) (xB 400 T) ya (xD 14 RA) yc (xD 4 SA) ye yf rC rD wd1 (xD 12 G_79) wd3 wd4 ws1 (xD 12 G_99) ws3 ws4 wi1 (xD 48 G_84) wi3 wi4) H := hH
          have hG_99 : ivP 12 (-2147483648) 2147483647 G_99 := (ivP_updE hKn eG_99 (i32b _))
          refine lv_aload_n F.1 F.2.1 dX3_readReach_112 rfl (lv_at hl 0 rfl) ?_
          refine tGetR (j := 5) F hK hH (tyb ha0 (all1 rfl)) rfl (all1 rfl) clX3 (by decide) wd_5_18 dX3_readReach_113 (fun q_100 hq_100 _ => ?_)
          refine lv_dup F.1 F.2.1 dX3_readReach_116 rfl ?_
          refine tGetI (j := 0) F hK hH (tyb hq_100 (all1 rfl)) rfl clX2 (by decide) wd_12_7 dX3_readReach_117 (fun z_101 hz_101 => ?_)
          have ez_101 : 0 ≤ z_101.toInt ∧ z_101.toInt ≤ 11 := by omega
          refine lv_iconst (v := 1) F.1 F.2.1 dX3_readReach_120 (by decide) ?_
          refine topK (a := 1) (by decide) (fun k_102 hk_102 => ?_)
          refine tAdd (lo := 1) (hi := 12) F dX3_readReach_121 ez_101 (eqb hk_102) rfl (fun z_103 hz_103 => ?_)
          obtain ⟨g_104, hg_104⟩ : ∃ y : Int, z_103.toInt = y := ⟨_, rfl⟩
          have bg_104 : 1 ≤ g_104 ∧ g_104 ≤ 12 := by rw [← hg_104]; exact hz_103.2
          refine tPutG (j := 0) (t := 27) (fd := (.inl (g_104, g_104))) F hK hH hS (List.mem_singleton.mp hq_100) (by decide) rfl rfl (fdI (by omega)) (TB1 := (tbC dA dB rA (riverD (.inl (g_104, g_104)) (.inl (b, b)) (.inl (c, c)) 32 34 36 40 44 48) rc (rdD (.inl (g_92, g_92)) (.inl (n, n)) (.inl (g_83, g_83)) (.inl (w, w)) (.inr [27])) (xB 400 T) ya (xD 14 RA) yc (xD 4 SA) ye yf rC rD wd1 (xD 12 G_79) wd3 wd4 ws1 (xD 12 G_99) ws3 ws4 wi1 (xD 48 G_84) wi3 wi4)) rfl clX2 (by decide) wd_12_7 rfl rfl rfl rfl dX3_readReach_122 (fun H locs hH hS => ?_)
          exact txV F hS dX3_readReach_125 (⟨g_92, (by omega), g_83, (by omega), g_104, (by omega), G_79, hG_79, G_99, hG_99, G_84, ⟨hG_84, (reach_b3 f_12 hg_10.2.2 hcr50_0 hcr50_1 f_94 hg_92.2.2 (updR eG_79 (by omega) rfl) hcr50_2 (updR eG_99 (by omega) rfl) (by omega) (by omega) (by omega) (by omega) (by omega))⟩, hH⟩)
        · skip
          have r_97 : 1 ≤ z_91.toInt ∧ z_91.toInt ≤ 1 := by have h9_ := f_93; omega
          refine lv_aload_n F.1 F.2.1 dX3_readReach_99 rfl (lv_at hl 0 rfl) ?_
          refine lv_iconst (v := 0) F.1 F.2.1 dX3_readReach_100 (by decide) ?_
          refine topK (a := 0) (by decide) (fun k_105 hk_105 => ?_)
          refine lv_sipush (v := 9999) F.1 F.2.1 dX3_readReach_101 (by decide) ?_
          refine topK (a := 9999) (by decide) (fun k_106 hk_106 => ?_)
          refine tVi (b := a0) (As := [.int k_105, .int k_106]) (rest := [.int z_2, .ref q_90]) F hK hN hO (c_X3_readNumber E dA dB rA (riverD (.inl (a, a)) (.inl (b, b)) (.inl (c, c)) 32 34 36 40 44 48) rc ya (xD 14 RA) yc (xD 4 SA) ye yf rC rD wd1 (xD 12 G_79) wd3 wd4 ws1 (xD 12 Kn) ws3 ws4 wi1 (xD 48 G_84) wi3 wi4 ((.inl (w, w))) (.inr [27]) n g_92 g_83 T 0 9999 a0 k_105 k_106 ha0 (by omega) (by omega) (by omega) hT (by omega) (by omega)) mv_X3_readNumber wd_12_19 ⟨Nat.le_of_ble_eq_true rfl, Nat.le_of_ble_eq_true rfl⟩ ⟨Nat.le_of_ble_eq_true rfl, Nat.le_of_ble_eq_true rfl⟩ hH hS (tRecv hK hH (tyb ha0 (all1 rfl)) clX3) rfl hl.1 (Nat.le_of_ble_eq_true rfl) dX3_readReach_104 (fun z_107 H locs hq hS => ?_)
          obtain ⟨g_108, hg_108, g_109, hg_109, f_110, f_111, f_112, f_113, hH⟩ := hq
          have hH : TH E (tbC dA dB rA (riverD (.inl (a, a)) (.inl (b, b)) (.inl (c, c)) 32 34 36 40 44 48) rc (rdD (.inl (g_108, g_108)) (.inl (n, n)) (.inl (g_109, g_109)) (.inl (w, w)) (.inr [27])) (xB 400 T) ya (xD 14 RA) yc (xD 4 SA) ye yf rC rD wd1 (xD 12 G_79) wd3 wd4 ws1 (xD 12 Kn) ws3 ws4 wi1 (xD 48 G_84) wi3 wi4) H := hH
          have ez_107 : 0 ≤ z_107.toInt ∧ z_107.toInt ≤ 9999 := by omega
          refine lv_goto (tgt := 111) F.1 F.2.1 dX3_readReach_107 (by decide) ?_
          refine tIastX (t := 44) F hK hH hS (List.mem_singleton.mp hq_90) (by decide) rfl (ixb (n := 12) r_5 rfl rfl) dX3_readReach_111 (fun G_114 eG_114 H locs hH hS => ?_)
          have hH : TH E (tbC dA dB rA (riverD (.inl (a, a)) (.inl (b, b)) (.inl (c, c)) 32 34 36 40 44 48) rc (rdD (.inl (g_108, g_108)) (.inl (n, n)) (.inl (g_109, g_109)) (.inl (w, w)) (.inr [27])) (xB 400 T) ya (xD 14 RA) yc (xD 4 SA) ye yf rC rD wd1 (xD 12 G_79) wd3 wd4 ws1 (xD 12 G_114) ws3 ws4 wi1 (xD 48 G_84) wi3 wi4) H := hH
          have hG_114 : ivP 12 (-2147483648) 2147483647 G_114 := (ivP_updE hKn eG_114 (i32b _))
          refine lv_aload_n F.1 F.2.1 dX3_readReach_112 rfl (lv_at hl 0 rfl) ?_
          refine tGetR (j := 5) F hK hH (tyb ha0 (all1 rfl)) rfl (all1 rfl) clX3 (by decide) wd_5_18 dX3_readReach_113 (fun q_115 hq_115 _ => ?_)
          refine lv_dup F.1 F.2.1 dX3_readReach_116 rfl ?_
          refine tGetI (j := 0) F hK hH (tyb hq_115 (all1 rfl)) rfl clX2 (by decide) wd_12_7 dX3_readReach_117 (fun z_116 hz_116 => ?_)
          have ez_116 : 0 ≤ z_116.toInt ∧ z_116.toInt ≤ 11 := by omega
          refine lv_iconst (v := 1) F.1 F.2.1 dX3_readReach_120 (by decide) ?_
          refine topK (a := 1) (by decide) (fun k_117 hk_117 => ?_)
          refine tAdd (lo := 1) (hi := 12) F dX3_readReach_121 ez_116 (eqb hk_117) rfl (fun z_118 hz_118 => ?_)
          obtain ⟨g_119, hg_119⟩ : ∃ y : Int, z_118.toInt = y := ⟨_, rfl⟩
          have bg_119 : 1 ≤ g_119 ∧ g_119 ≤ 12 := by rw [← hg_119]; exact hz_118.2
          refine tPutG (j := 0) (t := 27) (fd := (.inl (g_119, g_119))) F hK hH hS (List.mem_singleton.mp hq_115) (by decide) rfl rfl (fdI (by omega)) (TB1 := (tbC dA dB rA (riverD (.inl (g_119, g_119)) (.inl (b, b)) (.inl (c, c)) 32 34 36 40 44 48) rc (rdD (.inl (g_108, g_108)) (.inl (n, n)) (.inl (g_109, g_109)) (.inl (w, w)) (.inr [27])) (xB 400 T) ya (xD 14 RA) yc (xD 4 SA) ye yf rC rD wd1 (xD 12 G_79) wd3 wd4 ws1 (xD 12 G_114) ws3 ws4 wi1 (xD 48 G_84) wi3 wi4)) rfl clX2 (by decide) wd_12_7 rfl rfl rfl rfl dX3_readReach_122 (fun H locs hH hS => ?_)
          exact txV F hS dX3_readReach_125 (⟨g_108, (by omega), g_109, (by omega), g_119, (by omega), G_79, hG_79, G_114, hG_114, G_84, ⟨hG_84, (reach_b3 f_12 hg_10.2.2 hcr50_0 hcr50_1 f_94 hg_92.2.2 (updR eG_79 (by omega) rfl) hcr50_2 (updR eG_114 (by omega) rfl) (by omega) (by omega) (by omega) (by omega) (by omega))⟩, hH⟩)
      · skip
        have r_88 : 0 ≤ u_81.toInt ∧ u_81.toInt ≤ 3 := by have h9_ := hu_81; omega
        refine lv_aload_n F.1 F.2.1 dX3_readReach_55 rfl (lv_at hl 0 rfl) ?_
        refine tGetR (j := 5) F hK hH (tyb ha0 (all1 rfl)) rfl (all1 rfl) clX3 (by decide) wd_5_18 dX3_readReach_56 (fun q_120 hq_120 _ => ?_)
        refine tGetR (j := 3) F hK hH (tyb hq_120 (all1 rfl)) rfl (all1 rfl) clX2 (by decide) wd_12_9 dX3_readReach_59 (fun q_121 hq_121 _ => ?_)
        refine lv_iload_n F.1 F.2.1 dX3_readReach_62 rfl (lv_at hl 1 rfl) ?_
        refine lv_iconst (v := 4) F.1 F.2.1 dX3_readReach_63 (by decide) ?_
        refine topK (a := 4) (by decide) (fun k_122 hk_122 => ?_)
        refine tMul (lo := 0) (hi := 44) F dX3_readReach_64 r_5 (eqb hk_122) rfl (fun z_123 hz_123 => ?_)
        have mz_123 : z_123.toInt = z_2.toInt * 4 := by rw [hz_123.1, hk_122]
        refine lv_iload_n F.1 F.2.1 dX3_readReach_65 rfl (lv_at hl 2 rfl) ?_
        refine tAdd (lo := 0) (hi := 47) F dX3_readReach_66 hz_123.2 r_88 rfl (fun z_124 hz_124 => ?_)
        refine lv_aload_n F.1 F.2.1 dX3_readReach_67 rfl (lv_at hl 0 rfl) ?_
        refine lv_iconst (v := 0) F.1 F.2.1 dX3_readReach_68 (by decide) ?_
        refine topK (a := 0) (by decide) (fun k_125 hk_125 => ?_)
        refine lv_sipush (v := 9999) F.1 F.2.1 dX3_readReach_69 (by decide) ?_
        refine topK (a := 9999) (by decide) (fun k_126 hk_126 => ?_)
        refine tVi (b := a0) (As := [.int k_125, .int k_126]) (rest := [.int z_124, .ref q_121]) F hK hN hO (c_X3_readNumber E dA dB rA (riverD (.inl (a, a)) (.inl (b, b)) (.inl (c, c)) 32 34 36 40 44 48) rc ya (xD 14 RA) yc (xD 4 SA) ye yf rC rD wd1 (xD 12 G_79) wd3 wd4 ws1 (xD 12 Kn) ws3 ws4 wi1 (xD 48 G_84) wi3 wi4 ((.inl (w, w))) (.inr [27]) n g_82 g_83 T 0 9999 a0 k_125 k_126 ha0 (by omega) (by omega) (by omega) hT (by omega) (by omega)) mv_X3_readNumber wd_12_19 ⟨Nat.le_of_ble_eq_true rfl, Nat.le_of_ble_eq_true rfl⟩ ⟨Nat.le_of_ble_eq_true rfl, Nat.le_of_ble_eq_true rfl⟩ hH hS (tRecv hK hH (tyb ha0 (all1 rfl)) clX3) rfl hl.1 (Nat.le_of_ble_eq_true rfl) dX3_readReach_72 (fun z_127 H locs hq hS => ?_)
        obtain ⟨g_128, hg_128, g_129, hg_129, f_130, f_131, f_132, f_133, hH⟩ := hq
        have hH : TH E (tbC dA dB rA (riverD (.inl (a, a)) (.inl (b, b)) (.inl (c, c)) 32 34 36 40 44 48) rc (rdD (.inl (g_128, g_128)) (.inl (n, n)) (.inl (g_129, g_129)) (.inl (w, w)) (.inr [27])) (xB 400 T) ya (xD 14 RA) yc (xD 4 SA) ye yf rC rD wd1 (xD 12 G_79) wd3 wd4 ws1 (xD 12 Kn) ws3 ws4 wi1 (xD 48 G_84) wi3 wi4) H := hH
        have ez_127 : 0 ≤ z_127.toInt ∧ z_127.toInt ≤ 9999 := by omega
        refine tIastX (t := 48) F hK hH hS (List.mem_singleton.mp hq_121) (by decide) rfl (ixb (n := 48) hz_124.2 rfl rfl) dX3_readReach_75 (fun G_134 eG_134 H locs hH hS => ?_)
        have hH : TH E (tbC dA dB rA (riverD (.inl (a, a)) (.inl (b, b)) (.inl (c, c)) 32 34 36 40 44 48) rc (rdD (.inl (g_128, g_128)) (.inl (n, n)) (.inl (g_129, g_129)) (.inl (w, w)) (.inr [27])) (xB 400 T) ya (xD 14 RA) yc (xD 4 SA) ye yf rC rD wd1 (xD 12 G_79) wd3 wd4 ws1 (xD 12 Kn) ws3 ws4 wi1 (xD 48 G_134) wi3 wi4) H := hH
        have hG_134 : ivP 48 (-2147483648) 2147483647 G_134 := (ivP_updE hG_84 eG_134 (i32b _))
        obtain ⟨x_135, ex_135, hx_135⟩ := iincB (c := 1) (lo := 1) (hi := 4) r_88 rfl
        refine lv_iinc (v := x_135) (lv' := [(3, .int x_135), (0, .ref a0), (2, .int z_2)]) F.1 F.2.1 dX3_readReach_76 hl (k := 2) rfl ex_135 (by decide) rfl (fun ls hl => ?_)
        refine lv_goto (tgt := 50) F.1 F.2.1 dX3_readReach_79 (by decide) ?_
        exact ih_50 (x_135, g_128, g_129, G_134) _ _ _ ⟨(show (4 - x_135.toInt + 1).toNat < n_50 from by omega), (wkb hx_135.2 rfl rfl), (show 0 ≤ g_128 ∧ g_128 ≤ 400 from by omega), (show 0 ≤ g_129 ∧ g_129 ≤ 4000 from by omega), hG_134, (show g_128 = jQp T n g_10 f (x_135.toInt) from (kQ_step hcr50_0 hcr50_1 (by omega) (by omega) hg_128.2.2 hg_129.2.2).1), (show g_129 = jQf T n g_10 f (x_135.toInt) from (kQ_step hcr50_0 hcr50_1 (by omega) (by omega) hg_128.2.2 hg_129.2.2).2), (show G_134 = jQr T n a g_10 f (x_135.toInt) Q from (jQr_step (k := z_124.toInt) hcr50_0 hcr50_2 (updR eG_134 (by omega) rfl) (by omega) f_133 (by omega) (by omega))), hH, hS, lv_sub hl [1, 2, 0] rfl⟩
  · skip
    have r_6 : 12 ≤ z_2.toInt ∧ z_2.toInt ≤ 12 := by have h9_ := ez_2; omega
    refine lv_aload_n F.1 F.2.1 dX3_readReach_14 rfl (lv_at hl 1 rfl) ?_
    refine lv_iload_n F.1 F.2.1 dX3_readReach_15 rfl (lv_at hl 2 rfl) ?_
    refine lv_iconst (v := 3) F.1 F.2.1 dX3_readReach_16 (by decide) ?_
    refine topK (a := 3) (by decide) (fun k_136 hk_136 => ?_)
    refine tVv (b := a0) (As := [.int a1, .int k_136]) (rest := []) F hK hN hO (c_X3_blame E dA dB rA (riverD (.inl (a, a)) (.inl (b, b)) (.inl (c, c)) 32 34 36 40 44 48) rc (xB 400 T) ya (xD 14 RA) yc (xD 4 SA) ye yf rC rD wd1 (xD 12 D) wd3 wd4 ws1 (xD 12 Kn) ws3 ws4 wi1 (xD 48 Q) wi3 wi4 ((.inl (n, n))) ((.inl (p, p))) ((.inl (w, w))) (.inr [27]) f st 3 a0 a1 k_136 ha0 ha1 (wkb (eqb hk_136) rfl rfl) (by omega) (by omega) (by omega)) mv_X3_blame wd_12_11 ⟨Nat.le_of_ble_eq_true rfl, Nat.le_of_ble_eq_true rfl⟩ ⟨Nat.le_of_ble_eq_true rfl, Nat.le_of_ble_eq_true rfl⟩ hH hS (tRecv hK hH (tyb ha0 (all1 rfl)) clX3) rfl hl.1 (Nat.le_of_ble_eq_true rfl) dX3_readReach_17 (fun H locs hq hS => ?_)
    obtain ⟨g_138, hg_138, hH⟩ := hq
    have hH : TH E (tbC dA dB rA (riverD (.inl (a, a)) (.inl (b, b)) (.inl (c, c)) 32 34 36 40 44 48) rc (rdD (.inl (p, p)) (.inl (n, n)) (.inl (g_138, g_138)) (.inl (w, w)) (.inr [27])) (xB 400 T) ya (xD 14 RA) yc (xD 4 SA) ye yf rC rD wd1 (xD 12 D) wd3 wd4 ws1 (xD 12 Kn) ws3 ws4 wi1 (xD 48 Q) wi3 wi4) H := hH
    exact txV F hS dX3_readReach_20 (⟨p, (by omega), g_138, (by omega), a, (by omega), D, hD, Kn, hKn, Q, ⟨hQ, (reach_a3 (by omega) hg_138.2.2)⟩, hH⟩)
set_option maxHeartbeats 4000000 in
set_option maxRecDepth 100000 in
theorem c_X3_readRight_1 (E : Ev) (dA : TD) (dB : TD) (rB : TD) (rc : TD) (yb : TD) (yd : TD) (yf : TD) (rC : TD) (rD : TD) (wd1 : TD) (wd2 : TD) (wd3 : TD) (wd4 : TD) (ws1 : TD) (ws2 : TD) (ws3 : TD) (ws4 : TD) (wi1 : TD) (wi2 : TD) (wi3 : TD) (wi4 : TD) (a : Int) (b : Int) (c : Int) (n : Int) (p : Int) (f : Int) (w : Int) (T : Nat → Int32) (RA : Nat → Int32) (SA : Nat → Int32) (st : Int) (a0 : Nat) (a1 : Int32) (ha0 : eT E a0 ∈ [29]) (ha1 : 0 ≤ a1.toInt ∧ a1.toInt ≤ 400) (ha : 0 ≤ a ∧ a ≤ 12) (hb : 0 ≤ b ∧ b ≤ 14) (hc : 0 ≤ c ∧ c ≤ 4) (hn : 0 ≤ n ∧ n ≤ 400) (hp : 0 ≤ p ∧ p ≤ 400) (hf : 0 ≤ f ∧ f ≤ 4000) (hw : 0 ≤ w ∧ w ≤ 1) (hT : ivP 400 (-128) 127 T) (hRA : ivP 14 (-2147483648) 2147483647 RA) (hSA : ivP 4 (-2147483648) 2147483647 SA) (hst : a1.toInt = st) : TcV E yX3_readRight cX3_readRight 4 ({ frames := 7, cells := 0, slots := 0, locals := 226 }) [.ref a0, .int a1] (fun H => TH E (tbC dA dB (riverD (.inl (a, a)) (.inl (b, b)) (.inl (c, c)) 31 33 35 39 43 47) rB rc (rdD (.inl (p, p)) (.inl (n, n)) (.inl (f, f)) (.inl (w, w)) (.inr [26])) (xB 400 T) (xD 14 RA) yb (xD 4 SA) yd A14F yf rC rD wd1 wd2 wd3 wd4 ws1 ws2 ws3 ws4 wi1 wi2 wi3 wi4) H) (fun H => ∃ p2 : Int, (0 ≤ p2 ∧ p2 ≤ 400) ∧ ∃ f2 : Int, (0 ≤ f2 ∧ f2 ≤ 4000) ∧ ∃ b2 : Int, (0 ≤ b2 ∧ b2 ≤ 14) ∧ ∃ RA2 : Nat → Int32, (ivP 14 (-2147483648) 2147483647 RA2 ∧ (p2, f2, w, a, b2, c, RA2, SA) = kRight T n st (p, f, w, a, b, c, RA, SA)) ∧ TH E (tbC dA dB (riverD (.inl (a, a)) (.inl (b2, b2)) (.inl (c, c)) 31 33 35 39 43 47) rB rc (rdD (.inl (p2, p2)) (.inl (n, n)) (.inl (f2, f2)) (.inl (w, w)) (.inr [26])) (xB 400 T) (xD 14 RA2) yb (xD 4 SA) yd A14F yf rC rD wd1 wd2 wd3 wd4 ws1 ws2 ws3 ws4 wi1 wi2 wi3 wi4) H) := by
  refine teV (by decide) (Nat.le_of_ble_eq_true rfl) ?_
  intro p_ ev_ s mi_ below_ meth cd_ ls F hK hN hO hH hS hl
  have hH : TH E (tbC dA dB (riverD (.inl (a, a)) (.inl (b, b)) (.inl (c, c)) 31 33 35 39 43 47) rB rc (rdD (.inl (p, p)) (.inl (n, n)) (.inl (f, f)) (.inl (w, w)) (.inr [26])) (xB 400 T) (xD 14 RA) yb (xD 4 SA) yd A14F yf rC rD wd1 wd2 wd3 wd4 ws1 ws2 ws3 ws4 wi1 wi2 wi3 wi4) s.heap := hH
  have hl : lv_has ls 4 [(0, .ref a0), (1, .int a1)] := hl
  refine lv_aload_n F.1 F.2.1 dX3_readRight_0 rfl (lv_at hl 0 rfl) ?_
  refine tGetR (j := 5) F hK hH (tyb ha0 (all1 rfl)) rfl (all1 rfl) clX3 (by decide) wd_5_18 dX3_readRight_1 (fun q_1 hq_1 _ => ?_)
  refine tGetI (j := 4) F hK hH (tyb hq_1 (all1 rfl)) rfl clX2 (by decide) wd_13_4 dX3_readRight_4 (fun z_2 hz_2 => ?_)
  have ez_2 : 0 ≤ z_2.toInt ∧ z_2.toInt ≤ 14 := by omega
  refine lv_istore_n (lv' := [(2, .int z_2), (0, .ref a0), (1, .int a1)]) F.1 F.2.1 dX3_readRight_7 rfl hl (by decide) rfl (fun ls hl => ?_)
  refine lv_iload_n F.1 F.2.1 dX3_readRight_8 rfl (lv_at hl 0 rfl) ?_
  refine lv_bipush (v := 14) F.1 F.2.1 dX3_readRight_9 (by decide) ?_
  refine topK (a := 14) (by decide) (fun k_3 hk_3 => ?_)
  refine b_lt (tgt := 21) F dX3_readRight_11 (by decide) (fun c_4 => ?_) (fun c_4 => ?_)
  · skip
    have r_5 : 0 ≤ z_2.toInt ∧ z_2.toInt ≤ 13 := by have h9_ := ez_2; omega
    refine lv_aload_n F.1 F.2.1 dX3_readRight_21 rfl (lv_at hl 1 rfl) ?_
    refine tGetR (j := 5) F hK hH (tyb ha0 (all1 rfl)) rfl (all1 rfl) clX3 (by decide) wd_5_18 dX3_readRight_22 (fun q_7 hq_7 _ => ?_)
    refine tGetR (j := 5) F hK hH (tyb hq_7 (all1 rfl)) rfl (all1 rfl) clX2 (by decide) wd_13_5 dX3_readRight_25 (fun q_8 hq_8 _ => ?_)
    refine lv_iload_n F.1 F.2.1 dX3_readRight_28 rfl (lv_at hl 0 rfl) ?_
    refine lv_aload_n F.1 F.2.1 dX3_readRight_29 rfl (lv_at hl 1 rfl) ?_
    refine tVi (b := a0) (As := []) (rest := [.int z_2, .ref q_8]) F hK hN hO (c_X3_readReachNumber_1 E dA dB rB rc yb yd A14F yf rC rD wd1 wd2 wd3 wd4 ws1 ws2 ws3 ws4 wi1 wi2 wi3 wi4 a b c n p f w T RA SA a0 ha0 (by omega) (by omega) (by omega) (by omega) (by omega) (by omega) (by omega) hT hRA hSA) mv_X3_readReachNumber wd_12_15 ⟨Nat.le_of_ble_eq_true rfl, Nat.le_of_ble_eq_true rfl⟩ ⟨Nat.le_of_ble_eq_true rfl, Nat.le_of_ble_eq_true rfl⟩ hH hS (tRecv hK hH (tyb ha0 (all1 rfl)) clX3) rfl hl.1 (Nat.le_of_ble_eq_true rfl) dX3_readRight_30 (fun z_9 H locs hq hS => ?_)
    obtain ⟨g_10, hg_10, g_11, hg_11, f_12, f_13, hH⟩ := hq
    have hH : TH E (tbC dA dB (riverD (.inl (a, a)) (.inl (b, b)) (.inl (c, c)) 31 33 35 39 43 47) rB rc (rdD (.inl (g_10, g_10)) (.inl (n, n)) (.inl (g_11, g_11)) (.inl (w, w)) (.inr [26])) (xB 400 T) (xD 14 RA) yb (xD 4 SA) yd A14F yf rC rD wd1 wd2 wd3 wd4 ws1 ws2 ws3 ws4 wi1 wi2 wi3 wi4) H := hH
    refine tIastB F hK hH hS (tyb hq_8 (all1 rfl)) (ixb (n := 14) r_5 rfl rfl) f_12 dX3_readRight_33 (fun H locs hH hS => ?_)
    refine lv_aload_n F.1 F.2.1 dX3_readRight_34 rfl (lv_at hl 1 rfl) ?_
    refine tGetR (j := 5) F hK hH (tyb ha0 (all1 rfl)) rfl (all1 rfl) clX3 (by decide) wd_5_18 dX3_readRight_35 (fun q_14 hq_14 _ => ?_)
    refine tGetR (j := 6) F hK hH (tyb hq_14 (all1 rfl)) rfl (all1 rfl) clX2 (by decide) wd_13_6 dX3_readRight_38 (fun q_15 hq_15 _ => ?_)
    refine lv_iload_n F.1 F.2.1 dX3_readRight_41 rfl (lv_at hl 0 rfl) ?_
    refine lv_aload_n F.1 F.2.1 dX3_readRight_42 rfl (lv_at hl 1 rfl) ?_
    refine lv_iconst (v := 1) F.1 F.2.1 dX3_readRight_43 (by decide) ?_
    refine topK (a := 1) (by decide) (fun k_16 hk_16 => ?_)
    refine lv_sipush (v := 9999) F.1 F.2.1 dX3_readRight_44 (by decide) ?_
    refine topK (a := 9999) (by decide) (fun k_17 hk_17 => ?_)
    refine tVi (b := a0) (As := [.int k_16, .int k_17]) (rest := [.int z_2, .ref q_15]) F hK hN hO (c_X3_readNumber E dA dB (riverD (.inl (a, a)) (.inl (b, b)) (.inl (c, c)) 31 33 35 39 43 47) rB rc (xD 14 RA) yb (xD 4 SA) yd A14F yf rC rD wd1 wd2 wd3 wd4 ws1 ws2 ws3 ws4 wi1 wi2 wi3 wi4 ((.inl (w, w))) (.inr [26]) n g_10 g_11 T 1 9999 a0 k_16 k_17 ha0 (by omega) (by omega) (by omega) hT (by omega) (by omega)) mv_X3_readNumber wd_12_19 ⟨Nat.le_of_ble_eq_true rfl, Nat.le_of_ble_eq_true rfl⟩ ⟨Nat.le_of_ble_eq_true rfl, Nat.le_of_ble_eq_true rfl⟩ hH hS (tRecv hK hH (tyb ha0 (all1 rfl)) clX3) rfl hl.1 (Nat.le_of_ble_eq_true rfl) dX3_readRight_47 (fun z_18 H locs hq hS => ?_)
    obtain ⟨g_19, hg_19, g_20, hg_20, f_21, f_22, f_23, f_24, hH⟩ := hq
    have hH : TH E (tbC dA dB (riverD (.inl (a, a)) (.inl (b, b)) (.inl (c, c)) 31 33 35 39 43 47) rB rc (rdD (.inl (g_19, g_19)) (.inl (n, n)) (.inl (g_20, g_20)) (.inl (w, w)) (.inr [26])) (xB 400 T) (xD 14 RA) yb (xD 4 SA) yd A14F yf rC rD wd1 wd2 wd3 wd4 ws1 ws2 ws3 ws4 wi1 wi2 wi3 wi4) H := hH
    have ez_18 : 1 ≤ z_18.toInt ∧ z_18.toInt ≤ 9999 := by omega
    refine tIastB F hK hH hS (tyb hq_15 (all1 rfl)) (ixb (n := 14) r_5 rfl rfl) (wkb ez_18 rfl rfl) dX3_readRight_50 (fun H locs hH hS => ?_)
    refine lv_aload_n F.1 F.2.1 dX3_readRight_51 rfl (lv_at hl 1 rfl) ?_
    refine tGetR (j := 5) F hK hH (tyb ha0 (all1 rfl)) rfl (all1 rfl) clX3 (by decide) wd_5_18 dX3_readRight_52 (fun q_25 hq_25 _ => ?_)
    refine tGetR (j := 7) F hK hH (tyb hq_25 (all1 rfl)) rfl (all1 rfl) clX2 (by decide) wd_13_7 dX3_readRight_55 (fun q_26 hq_26 _ => ?_)
    obtain ⟨S_27, hS_27, hH⟩ := TH.pin (t := 35) hH rfl ⟨q_26, List.mem_singleton.mp hq_26⟩ (by decide)
    have hH : TH E (tbC dA dB (riverD (.inl (a, a)) (.inl (b, b)) (.inl (c, c)) 31 33 35 39 43 47) rB rc (rdD (.inl (g_19, g_19)) (.inl (n, n)) (.inl (g_20, g_20)) (.inl (w, w)) (.inr [26])) (xB 400 T) (xD 14 RA) yb (xD 4 SA) yd (xD 14 S_27) yf rC rD wd1 wd2 wd3 wd4 ws1 ws2 ws3 ws4 wi1 wi2 wi3 wi4) H := hH
    refine lv_iload_n F.1 F.2.1 dX3_readRight_58 rfl (lv_at hl 0 rfl) ?_
    refine lv_aload_n F.1 F.2.1 dX3_readRight_59 rfl (lv_at hl 1 rfl) ?_
    refine lv_iconst (v := 0) F.1 F.2.1 dX3_readRight_60 (by decide) ?_
    refine topK (a := 0) (by decide) (fun k_28 hk_28 => ?_)
    refine lv_sipush (v := 359) F.1 F.2.1 dX3_readRight_61 (by decide) ?_
    refine topK (a := 359) (by decide) (fun k_29 hk_29 => ?_)
    refine tVi (b := a0) (As := [.int k_28, .int k_29]) (rest := [.int z_2, .ref q_26]) F hK hN hO (c_X3_readNumber E dA dB (riverD (.inl (a, a)) (.inl (b, b)) (.inl (c, c)) 31 33 35 39 43 47) rB rc (xD 14 RA) yb (xD 4 SA) yd (xD 14 S_27) yf rC rD wd1 wd2 wd3 wd4 ws1 ws2 ws3 ws4 wi1 wi2 wi3 wi4 ((.inl (w, w))) (.inr [26]) n g_19 g_20 T 0 359 a0 k_28 k_29 ha0 (by omega) (by omega) (by omega) hT (by omega) (by omega)) mv_X3_readNumber wd_12_19 ⟨Nat.le_of_ble_eq_true rfl, Nat.le_of_ble_eq_true rfl⟩ ⟨Nat.le_of_ble_eq_true rfl, Nat.le_of_ble_eq_true rfl⟩ hH hS (tRecv hK hH (tyb ha0 (all1 rfl)) clX3) rfl hl.1 (Nat.le_of_ble_eq_true rfl) dX3_readRight_64 (fun z_30 H locs hq hS => ?_)
    obtain ⟨g_31, hg_31, g_32, hg_32, f_33, f_34, f_35, f_36, hH⟩ := hq
    have hH : TH E (tbC dA dB (riverD (.inl (a, a)) (.inl (b, b)) (.inl (c, c)) 31 33 35 39 43 47) rB rc (rdD (.inl (g_31, g_31)) (.inl (n, n)) (.inl (g_32, g_32)) (.inl (w, w)) (.inr [26])) (xB 400 T) (xD 14 RA) yb (xD 4 SA) yd (xD 14 S_27) yf rC rD wd1 wd2 wd3 wd4 ws1 ws2 ws3 ws4 wi1 wi2 wi3 wi4) H := hH
    have ez_30 : 0 ≤ z_30.toInt ∧ z_30.toInt ≤ 359 := by omega
    refine tIastX (t := 35) F hK hH hS (List.mem_singleton.mp hq_26) (by decide) rfl (ixb (n := 14) r_5 rfl rfl) dX3_readRight_67 (fun G_37 eG_37 H locs hH hS => ?_)
    have hH : TH E (tbC dA dB (riverD (.inl (a, a)) (.inl (b, b)) (.inl (c, c)) 31 33 35 39 43 47) rB rc (rdD (.inl (g_31, g_31)) (.inl (n, n)) (.inl (g_32, g_32)) (.inl (w, w)) (.inr [26])) (xB 400 T) (xD 14 RA) yb (xD 4 SA) yd (xD 14 G_37) yf rC rD wd1 wd2 wd3 wd4 ws1 ws2 ws3 ws4 wi1 wi2 wi3 wi4) H := hH
    have hG_37 : ivP 14 (-2147483648) 2147483647 G_37 := (ivP_updE hS_27 eG_37 (i32b _))
    refine lv_aload_n F.1 F.2.1 dX3_readRight_68 rfl (lv_at hl 1 rfl) ?_
    refine tGetR (j := 5) F hK hH (tyb ha0 (all1 rfl)) rfl (all1 rfl) clX3 (by decide) wd_5_18 dX3_readRight_69 (fun q_38 hq_38 _ => ?_)
    refine tGetR (j := 8) F hK hH (tyb hq_38 (all1 rfl)) rfl (all1 rfl) clX2 (by decide) wd_13_8 dX3_readRight_72 (fun q_39 hq_39 _ => ?_)
    refine lv_iload_n F.1 F.2.1 dX3_readRight_75 rfl (lv_at hl 0 rfl) ?_
    refine lv_aload_n F.1 F.2.1 dX3_readRight_76 rfl (lv_at hl 1 rfl) ?_
    refine lv_aload_n F.1 F.2.1 dX3_readRight_77 rfl (lv_at hl 1 rfl) ?_
    refine tGetR (j := 5) F hK hH (tyb ha0 (all1 rfl)) rfl (all1 rfl) clX3 (by decide) wd_5_18 dX3_readRight_78 (fun q_40 hq_40 _ => ?_)
    refine tGetR (j := 7) F hK hH (tyb hq_40 (all1 rfl)) rfl (all1 rfl) clX2 (by decide) wd_13_7 dX3_readRight_81 (fun q_41 hq_41 _ => ?_)
    refine lv_iload_n F.1 F.2.1 dX3_readRight_84 rfl (lv_at hl 0 rfl) ?_
    refine tIaldX F hK hH (tyb hq_41 (all1 rfl)) (ixb (n := 14) r_5 rfl rfl) dX3_readRight_85 (fun z_42 ez_42 => ?_)
    have qz_42 : z_42.toInt = z_30.toInt := by rw [ez_42, eG_37]; simp [upd]
    have hz_42 : 0 ≤ z_42.toInt ∧ z_42.toInt ≤ 359 := (by omega)
    refine lv_sipush (v := 359) F.1 F.2.1 dX3_readRight_86 (by decide) ?_
    refine topK (a := 359) (by decide) (fun k_43 hk_43 => ?_)
    refine tVi (b := a0) (As := [.int z_42, .int k_43]) (rest := [.int z_2, .ref q_39]) F hK hN hO (c_X3_readNumber E dA dB (riverD (.inl (a, a)) (.inl (b, b)) (.inl (c, c)) 31 33 35 39 43 47) rB rc (xD 14 RA) yb (xD 4 SA) yd (xD 14 G_37) yf rC rD wd1 wd2 wd3 wd4 ws1 ws2 ws3 ws4 wi1 wi2 wi3 wi4 ((.inl (w, w))) (.inr [26]) n g_31 g_32 T (jNv T n g_19 0 359) 359 a0 z_42 k_43 ha0 (by omega) (by omega) (by omega) hT (by omega) (by omega)) mv_X3_readNumber wd_12_19 ⟨Nat.le_of_ble_eq_true rfl, Nat.le_of_ble_eq_true rfl⟩ ⟨Nat.le_of_ble_eq_true rfl, Nat.le_of_ble_eq_true rfl⟩ hH hS (tRecv hK hH (tyb ha0 (all1 rfl)) clX3) rfl hl.1 (Nat.le_of_ble_eq_true rfl) dX3_readRight_89 (fun z_44 H locs hq hS => ?_)
    obtain ⟨g_45, hg_45, g_46, hg_46, f_47, f_48, f_49, f_50, hH⟩ := hq
    have hH : TH E (tbC dA dB (riverD (.inl (a, a)) (.inl (b, b)) (.inl (c, c)) 31 33 35 39 43 47) rB rc (rdD (.inl (g_45, g_45)) (.inl (n, n)) (.inl (g_46, g_46)) (.inl (w, w)) (.inr [26])) (xB 400 T) (xD 14 RA) yb (xD 4 SA) yd (xD 14 G_37) yf rC rD wd1 wd2 wd3 wd4 ws1 ws2 ws3 ws4 wi1 wi2 wi3 wi4) H := hH
    have ez_44 : 0 ≤ z_44.toInt ∧ z_44.toInt ≤ 359 := by omega
    refine tIastB F hK hH hS (tyb hq_39 (all1 rfl)) (ixb (n := 14) r_5 rfl rfl) (wkb ez_44 rfl rfl) dX3_readRight_92 (fun H locs hH hS => ?_)
    refine lv_aload_n F.1 F.2.1 dX3_readRight_93 rfl (lv_at hl 1 rfl) ?_
    refine tGetR (j := 5) F hK hH (tyb ha0 (all1 rfl)) rfl (all1 rfl) clX3 (by decide) wd_5_18 dX3_readRight_94 (fun q_51 hq_51 _ => ?_)
    refine tGetR (j := 9) F hK hH (tyb hq_51 (all1 rfl)) rfl (all1 rfl) clX2 (by decide) wd_13_9 dX3_readRight_97 (fun q_52 hq_52 _ => ?_)
    refine lv_iload_n F.1 F.2.1 dX3_readRight_100 rfl (lv_at hl 0 rfl) ?_
    refine lv_aload_n F.1 F.2.1 dX3_readRight_101 rfl (lv_at hl 1 rfl) ?_
    refine tVi (b := a0) (As := []) (rest := [.int z_2, .ref q_52]) F hK hN hO (c_X3_readAge_1 E dA dB rB rc yb yd (xD 14 G_37) yf rC rD wd1 wd2 wd3 wd4 ws1 ws2 ws3 ws4 wi1 wi2 wi3 wi4 a b c n g_45 g_46 w T RA SA a0 ha0 (by omega) (by omega) (by omega) (by omega) (by omega) (by omega) (by omega) hT hRA hSA) mv_X3_readAge wd_13_15 ⟨Nat.le_of_ble_eq_true rfl, Nat.le_of_ble_eq_true rfl⟩ ⟨Nat.le_of_ble_eq_true rfl, Nat.le_of_ble_eq_true rfl⟩ hH hS (tRecv hK hH (tyb ha0 (all1 rfl)) clX3) rfl hl.1 (Nat.le_of_ble_eq_true rfl) dX3_readRight_102 (fun z_53 H locs hq hS => ?_)
    obtain ⟨g_54, hg_54, g_55, hg_55, f_56, f_57, hH⟩ := hq
    have hH : TH E (tbC dA dB (riverD (.inl (a, a)) (.inl (b, b)) (.inl (c, c)) 31 33 35 39 43 47) rB rc (rdD (.inl (g_54, g_54)) (.inl (n, n)) (.inl (g_55, g_55)) (.inl (w, w)) (.inr [26])) (xB 400 T) (xD 14 RA) yb (xD 4 SA) yd (xD 14 G_37) yf rC rD wd1 wd2 wd3 wd4 ws1 ws2 ws3 ws4 wi1 wi2 wi3 wi4) H := hH
    refine tIastX (t := 31) F hK hH hS (List.mem_singleton.mp hq_52) (by decide) rfl (ixb (n := 14) r_5 rfl rfl) dX3_readRight_105 (fun G_58 eG_58 H locs hH hS => ?_)
    have hH : TH E (tbC dA dB (riverD (.inl (a, a)) (.inl (b, b)) (.inl (c, c)) 31 33 35 39 43 47) rB rc (rdD (.inl (g_54, g_54)) (.inl (n, n)) (.inl (g_55, g_55)) (.inl (w, w)) (.inr [26])) (xB 400 T) (xD 14 G_58) yb (xD 4 SA) yd (xD 14 G_37) yf rC rD wd1 wd2 wd3 wd4 ws1 ws2 ws3 ws4 wi1 wi2 wi3 wi4) H := hH
    have hG_58 : ivP 14 (-2147483648) 2147483647 G_58 := (ivP_updE hRA eG_58 (i32b _))
    refine lv_aload_n F.1 F.2.1 dX3_readRight_106 rfl (lv_at hl 1 rfl) ?_
    refine tGetR (j := 5) F hK hH (tyb ha0 (all1 rfl)) rfl (all1 rfl) clX3 (by decide) wd_5_18 dX3_readRight_107 (fun q_59 hq_59 _ => ?_)
    refine tGetR (j := 10) F hK hH (tyb hq_59 (all1 rfl)) rfl (all1 rfl) clX2 (by decide) wd_13_10 dX3_readRight_110 (fun q_60 hq_60 _ => ?_)
    refine lv_iload_n F.1 F.2.1 dX3_readRight_113 rfl (lv_at hl 0 rfl) ?_
    refine lv_aload_n F.1 F.2.1 dX3_readRight_114 rfl (lv_at hl 1 rfl) ?_
    refine va_ldcS F.1 F.2.1 F.2.2.2.2.1 (hO.1 5 _ rfl).1 dX3_readRight_115 ?_
    refine tVi (b := a0) (As := [.ref (eX E 5)]) (rest := [.int z_2, .ref q_60]) F hK hN hO (c_X3_isNext E dA dB (riverD (.inl (a, a)) (.inl (b, b)) (.inl (c, c)) 31 33 35 39 43 47) rB rc (xD 14 G_58) yb (xD 4 SA) yd (xD 14 G_37) yf rC rD wd1 wd2 wd3 wd4 ws1 ws2 ws3 ws4 wi1 wi2 wi3 wi4 ((.inl (w, w))) (.inr [26]) n g_54 g_55 T a0 5 3 ha0 (strAt 5 rfl) (by omega) (by omega) (by omega) hT) mv_X3_isNext wd_9_22 ⟨Nat.le_of_ble_eq_true rfl, Nat.le_of_ble_eq_true rfl⟩ ⟨Nat.le_of_ble_eq_true rfl, Nat.le_of_ble_eq_true rfl⟩ hH hS (tRecv hK hH (tyb ha0 (all1 rfl)) clX3) rfl hl.1 (Nat.le_of_ble_eq_true rfl) dX3_readRight_117 (fun z_61 H locs hq hS => ?_)
    obtain ⟨g_62, hg_62, f_63, f_64, hH⟩ := hq
    have hH : TH E (tbC dA dB (riverD (.inl (a, a)) (.inl (b, b)) (.inl (c, c)) 31 33 35 39 43 47) rB rc (rdD (.inl (g_62, g_62)) (.inl (n, n)) (.inl (g_55, g_55)) (.inl (w, w)) (.inr [26])) (xB 400 T) (xD 14 G_58) yb (xD 4 SA) yd (xD 14 G_37) yf rC rD wd1 wd2 wd3 wd4 ws1 ws2 ws3 ws4 wi1 wi2 wi3 wi4) H := hH
    refine z_eq (tgt := 133) F dX3_readRight_120 (by decide) (fun c_65 => ?_) (fun c_65 => ?_)
    · skip
      have r_66 : 0 ≤ z_61.toInt ∧ z_61.toInt ≤ 0 := by have h9_ := f_63; omega
      refine lv_iconst (v := 0) F.1 F.2.1 dX3_readRight_133 (by decide) ?_
      refine topK (a := 0) (by decide) (fun k_68 hk_68 => ?_)
      refine tIastB F hK hH hS (tyb hq_60 (all1 rfl)) (ixb (n := 14) r_5 rfl rfl) (wkb (eqb hk_68) rfl rfl) dX3_readRight_134 (fun H locs hH hS => ?_)
      refine lv_aload_n F.1 F.2.1 dX3_readRight_135 rfl (lv_at hl 1 rfl) ?_
      refine va_ldcS F.1 F.2.1 F.2.2.2.2.1 (hO.1 6 _ rfl).1 dX3_readRight_136 ?_
      refine tVi (b := a0) (As := [.ref (eX E 6)]) (rest := []) F hK hN hO (c_X3_isNext E dA dB (riverD (.inl (a, a)) (.inl (b, b)) (.inl (c, c)) 31 33 35 39 43 47) rB rc (xD 14 G_58) yb (xD 4 SA) yd (xD 14 G_37) yf rC rD wd1 wd2 wd3 wd4 ws1 ws2 ws3 ws4 wi1 wi2 wi3 wi4 ((.inl (w, w))) (.inr [26]) n g_62 g_55 T a0 6 4 ha0 (strAt 6 rfl) (by omega) (by omega) (by omega) hT) mv_X3_isNext wd_9_22 ⟨Nat.le_of_ble_eq_true rfl, Nat.le_of_ble_eq_true rfl⟩ ⟨Nat.le_of_ble_eq_true rfl, Nat.le_of_ble_eq_true rfl⟩ hH hS (tRecv hK hH (tyb ha0 (all1 rfl)) clX3) rfl hl.1 (Nat.le_of_ble_eq_true rfl) dX3_readRight_138 (fun z_69 H locs hq hS => ?_)
      obtain ⟨g_70, hg_70, f_71, f_72, hH⟩ := hq
      have hH : TH E (tbC dA dB (riverD (.inl (a, a)) (.inl (b, b)) (.inl (c, c)) 31 33 35 39 43 47) rB rc (rdD (.inl (g_70, g_70)) (.inl (n, n)) (.inl (g_55, g_55)) (.inl (w, w)) (.inr [26])) (xB 400 T) (xD 14 G_58) yb (xD 4 SA) yd (xD 14 G_37) yf rC rD wd1 wd2 wd3 wd4 ws1 ws2 ws3 ws4 wi1 wi2 wi3 wi4) H := hH
      refine lv_istore_n (lv' := [(3, .int z_69), (2, .int z_2), (0, .ref a0), (1, .int a1)]) F.1 F.2.1 dX3_readRight_141 rfl hl (by decide) rfl (fun ls hl => ?_)
      refine lv_aload_n F.1 F.2.1 dX3_readRight_142 rfl (lv_at hl 2 rfl) ?_
      refine tGetR (j := 5) F hK hH (tyb ha0 (all1 rfl)) rfl (all1 rfl) clX3 (by decide) wd_5_18 dX3_readRight_143 (fun q_73 hq_73 _ => ?_)
      refine tGetR (j := 11) F hK hH (tyb hq_73 (all1 rfl)) rfl (all1 rfl) clX2 (by decide) wd_13_12 dX3_readRight_146 (fun q_74 hq_74 _ => ?_)
      refine lv_iload_n F.1 F.2.1 dX3_readRight_149 rfl (lv_at hl 1 rfl) ?_
      refine lv_iload_n F.1 F.2.1 dX3_readRight_150 rfl (lv_at hl 0 rfl) ?_
      refine z_eq (tgt := 161) F dX3_readRight_151 (by decide) (fun c_75 => ?_) (fun c_75 => ?_)
      · skip
        have r_76 : 0 ≤ z_69.toInt ∧ z_69.toInt ≤ 0 := by have h9_ := f_71; omega
        refine lv_bipush (v := (-2)) F.1 F.2.1 dX3_readRight_161 (by decide) ?_
        refine topK (a := (-2)) (by decide) (fun k_78 hk_78 => ?_)
        refine tIastB F hK hH hS (tyb hq_74 (all1 rfl)) (ixb (n := 14) r_5 rfl rfl) (wkb (eqb hk_78) rfl rfl) dX3_readRight_163 (fun H locs hH hS => ?_)
        refine lv_aload_n F.1 F.2.1 dX3_readRight_164 rfl (lv_at hl 2 rfl) ?_
        refine tGetR (j := 5) F hK hH (tyb ha0 (all1 rfl)) rfl (all1 rfl) clX3 (by decide) wd_5_18 dX3_readRight_165 (fun q_79 hq_79 _ => ?_)
        refine tGetR (j := 12) F hK hH (tyb hq_79 (all1 rfl)) rfl (all1 rfl) clX2 (by decide) wd_13_13 dX3_readRight_168 (fun q_80 hq_80 _ => ?_)
        refine lv_iload_n F.1 F.2.1 dX3_readRight_171 rfl (lv_at hl 1 rfl) ?_
        refine lv_iload_n F.1 F.2.1 dX3_readRight_172 rfl (lv_at hl 0 rfl) ?_
        refine z_eq (tgt := 186) F dX3_readRight_173 (by decide) (fun c_81 => ?_) (fun c_81 => absurd c_81 (by omega))
        refine lv_iconst (v := 0) F.1 F.2.1 dX3_readRight_186 (by decide) ?_
        refine topK (a := 0) (by decide) (fun k_82 hk_82 => ?_)
        refine tIastB F hK hH hS (tyb hq_80 (all1 rfl)) (ixb (n := 14) r_5 rfl rfl) (wkb (eqb hk_82) rfl rfl) dX3_readRight_187 (fun H locs hH hS => ?_)
        refine lv_aload_n F.1 F.2.1 dX3_readRight_188 rfl (lv_at hl 2 rfl) ?_
        refine tGetR (j := 5) F hK hH (tyb ha0 (all1 rfl)) rfl (all1 rfl) clX3 (by decide) wd_5_18 dX3_readRight_189 (fun q_83 hq_83 _ => ?_)
        refine tGetR (j := 13) F hK hH (tyb hq_83 (all1 rfl)) rfl (all1 rfl) clX2 (by decide) wd_13_14 dX3_readRight_192 (fun q_84 hq_84 _ => ?_)
        refine lv_iload_n F.1 F.2.1 dX3_readRight_195 rfl (lv_at hl 1 rfl) ?_
        refine lv_iload_n F.1 F.2.1 dX3_readRight_196 rfl (lv_at hl 0 rfl) ?_
        refine z_eq (tgt := 210) F dX3_readRight_197 (by decide) (fun c_85 => ?_) (fun c_85 => absurd c_85 (by omega))
        refine lv_iconst (v := 0) F.1 F.2.1 dX3_readRight_210 (by decide) ?_
        refine topK (a := 0) (by decide) (fun k_86 hk_86 => ?_)
        refine tIastB F hK hH hS (tyb hq_84 (all1 rfl)) (ixb (n := 14) r_5 rfl rfl) (wkb (eqb hk_86) rfl rfl) dX3_readRight_211 (fun H locs hH hS => ?_)
        refine lv_aload_n F.1 F.2.1 dX3_readRight_212 rfl (lv_at hl 2 rfl) ?_
        refine tGetR (j := 5) F hK hH (tyb ha0 (all1 rfl)) rfl (all1 rfl) clX3 (by decide) wd_5_18 dX3_readRight_213 (fun q_87 hq_87 _ => ?_)
        refine lv_dup F.1 F.2.1 dX3_readRight_216 rfl ?_
        refine tGetI (j := 4) F hK hH (tyb hq_87 (all1 rfl)) rfl clX2 (by decide) wd_13_4 dX3_readRight_217 (fun z_88 hz_88 => ?_)
        have ez_88 : 0 ≤ z_88.toInt ∧ z_88.toInt ≤ 13 := by omega
        refine lv_iconst (v := 1) F.1 F.2.1 dX3_readRight_220 (by decide) ?_
        refine topK (a := 1) (by decide) (fun k_89 hk_89 => ?_)
        refine tAdd (lo := 1) (hi := 14) F dX3_readRight_221 ez_88 (eqb hk_89) rfl (fun z_90 hz_90 => ?_)
        obtain ⟨g_91, hg_91⟩ : ∃ y : Int, z_90.toInt = y := ⟨_, rfl⟩
        have bg_91 : 1 ≤ g_91 ∧ g_91 ≤ 14 := by rw [← hg_91]; exact hz_90.2
        refine tPutG (j := 4) (t := 26) (fd := (.inl (g_91, g_91))) F hK hH hS (List.mem_singleton.mp hq_87) (by decide) rfl rfl (fdI (by omega)) (TB1 := (tbC dA dB (riverD (.inl (a, a)) (.inl (g_91, g_91)) (.inl (c, c)) 31 33 35 39 43 47) rB rc (rdD (.inl (g_70, g_70)) (.inl (n, n)) (.inl (g_55, g_55)) (.inl (w, w)) (.inr [26])) (xB 400 T) (xD 14 G_58) yb (xD 4 SA) yd (xD 14 G_37) yf rC rD wd1 wd2 wd3 wd4 ws1 ws2 ws3 ws4 wi1 wi2 wi3 wi4)) rfl clX2 (by decide) wd_13_4 rfl rfl rfl rfl dX3_readRight_222 (fun H locs hH hS => ?_)
        exact txV F hS dX3_readRight_225 (⟨g_70, (by omega), g_55, (by omega), g_91, (by omega), G_58, ⟨hG_58, (right_n hg_10.2.2 hg_11.2.2 hg_19.2.2 hg_20.2.2 hg_31.2.2 hg_32.2.2 hg_45.2.2 hg_46.2.2 hg_54.2.2 hg_55.2.2 f_57 f_64 hg_62.2.2 f_72 hg_70.2.2 (updR eG_58 (by omega) rfl) (by omega) (by omega) (by omega) (by omega))⟩, (TH.unpin (t := 35) (TB1 := (tbC dA dB (riverD (.inl (a, a)) (.inl (g_91, g_91)) (.inl (c, c)) 31 33 35 39 43 47) rB rc (rdD (.inl (g_70, g_70)) (.inl (n, n)) (.inl (g_55, g_55)) (.inl (w, w)) (.inr [26])) (xB 400 T) (xD 14 G_58) yb (xD 4 SA) yd A14F yf rC rD wd1 wd2 wd3 wd4 ws1 ws2 ws3 ws4 wi1 wi2 wi3 wi4)) hH rfl hG_37 rfl)⟩)
      · skip
        have r_77 : 1 ≤ z_69.toInt ∧ z_69.toInt ≤ 1 := by have h9_ := f_71; omega
        refine lv_aload_n F.1 F.2.1 dX3_readRight_154 rfl (lv_at hl 2 rfl) ?_
        refine tVi (b := a0) (As := []) (rest := [.int z_2, .ref q_74]) F hK hN hO (c_X3_readReachNumber_1 E dA dB rB rc yb yd (xD 14 G_37) yf rC rD wd1 wd2 wd3 wd4 ws1 ws2 ws3 ws4 wi1 wi2 wi3 wi4 a b c n g_70 g_55 w T G_58 SA a0 ha0 (by omega) (by omega) (by omega) (by omega) (by omega) (by omega) (by omega) hT hG_58 hSA) mv_X3_readReachNumber wd_12_15 ⟨Nat.le_of_ble_eq_true rfl, Nat.le_of_ble_eq_true rfl⟩ ⟨Nat.le_of_ble_eq_true rfl, Nat.le_of_ble_eq_true rfl⟩ hH hS (tRecv hK hH (tyb ha0 (all1 rfl)) clX3) rfl hl.1 (Nat.le_of_ble_eq_true rfl) dX3_readRight_155 (fun z_92 H locs hq hS => ?_)
        obtain ⟨g_93, hg_93, g_94, hg_94, f_95, f_96, hH⟩ := hq
        have hH : TH E (tbC dA dB (riverD (.inl (a, a)) (.inl (b, b)) (.inl (c, c)) 31 33 35 39 43 47) rB rc (rdD (.inl (g_93, g_93)) (.inl (n, n)) (.inl (g_94, g_94)) (.inl (w, w)) (.inr [26])) (xB 400 T) (xD 14 G_58) yb (xD 4 SA) yd (xD 14 G_37) yf rC rD wd1 wd2 wd3 wd4 ws1 ws2 ws3 ws4 wi1 wi2 wi3 wi4) H := hH
        refine lv_goto (tgt := 163) F.1 F.2.1 dX3_readRight_158 (by decide) ?_
        refine tIastB F hK hH hS (tyb hq_74 (all1 rfl)) (ixb (n := 14) r_5 rfl rfl) (wkb f_95 rfl rfl) dX3_readRight_163 (fun H locs hH hS => ?_)
        refine lv_aload_n F.1 F.2.1 dX3_readRight_164 rfl (lv_at hl 2 rfl) ?_
        refine tGetR (j := 5) F hK hH (tyb ha0 (all1 rfl)) rfl (all1 rfl) clX3 (by decide) wd_5_18 dX3_readRight_165 (fun q_97 hq_97 _ => ?_)
        refine tGetR (j := 12) F hK hH (tyb hq_97 (all1 rfl)) rfl (all1 rfl) clX2 (by decide) wd_13_13 dX3_readRight_168 (fun q_98 hq_98 _ => ?_)
        refine lv_iload_n F.1 F.2.1 dX3_readRight_171 rfl (lv_at hl 1 rfl) ?_
        refine lv_iload_n F.1 F.2.1 dX3_readRight_172 rfl (lv_at hl 0 rfl) ?_
        refine z_eq (tgt := 186) F dX3_readRight_173 (by decide) (fun c_99 => absurd c_99 (by omega)) (fun c_99 => ?_)
        refine lv_aload_n F.1 F.2.1 dX3_readRight_176 rfl (lv_at hl 2 rfl) ?_
        refine lv_iconst (v := 0) F.1 F.2.1 dX3_readRight_177 (by decide) ?_
        refine topK (a := 0) (by decide) (fun k_100 hk_100 => ?_)
        refine lv_bipush (v := 100) F.1 F.2.1 dX3_readRight_178 (by decide) ?_
        refine topK (a := 100) (by decide) (fun k_101 hk_101 => ?_)
        refine tVi (b := a0) (As := [.int k_100, .int k_101]) (rest := [.int z_2, .ref q_98]) F hK hN hO (c_X3_readNumber E dA dB (riverD (.inl (a, a)) (.inl (b, b)) (.inl (c, c)) 31 33 35 39 43 47) rB rc (xD 14 G_58) yb (xD 4 SA) yd (xD 14 G_37) yf rC rD wd1 wd2 wd3 wd4 ws1 ws2 ws3 ws4 wi1 wi2 wi3 wi4 ((.inl (w, w))) (.inr [26]) n g_93 g_94 T 0 100 a0 k_100 k_101 ha0 (by omega) (by omega) (by omega) hT (by omega) (by omega)) mv_X3_readNumber wd_12_19 ⟨Nat.le_of_ble_eq_true rfl, Nat.le_of_ble_eq_true rfl⟩ ⟨Nat.le_of_ble_eq_true rfl, Nat.le_of_ble_eq_true rfl⟩ hH hS (tRecv hK hH (tyb ha0 (all1 rfl)) clX3) rfl hl.1 (Nat.le_of_ble_eq_true rfl) dX3_readRight_180 (fun z_102 H locs hq hS => ?_)
        obtain ⟨g_103, hg_103, g_104, hg_104, f_105, f_106, f_107, f_108, hH⟩ := hq
        have hH : TH E (tbC dA dB (riverD (.inl (a, a)) (.inl (b, b)) (.inl (c, c)) 31 33 35 39 43 47) rB rc (rdD (.inl (g_103, g_103)) (.inl (n, n)) (.inl (g_104, g_104)) (.inl (w, w)) (.inr [26])) (xB 400 T) (xD 14 G_58) yb (xD 4 SA) yd (xD 14 G_37) yf rC rD wd1 wd2 wd3 wd4 ws1 ws2 ws3 ws4 wi1 wi2 wi3 wi4) H := hH
        have ez_102 : 0 ≤ z_102.toInt ∧ z_102.toInt ≤ 100 := by omega
        refine lv_goto (tgt := 187) F.1 F.2.1 dX3_readRight_183 (by decide) ?_
        refine tIastB F hK hH hS (tyb hq_98 (all1 rfl)) (ixb (n := 14) r_5 rfl rfl) (wkb ez_102 rfl rfl) dX3_readRight_187 (fun H locs hH hS => ?_)
        refine lv_aload_n F.1 F.2.1 dX3_readRight_188 rfl (lv_at hl 2 rfl) ?_
        refine tGetR (j := 5) F hK hH (tyb ha0 (all1 rfl)) rfl (all1 rfl) clX3 (by decide) wd_5_18 dX3_readRight_189 (fun q_109 hq_109 _ => ?_)
        refine tGetR (j := 13) F hK hH (tyb hq_109 (all1 rfl)) rfl (all1 rfl) clX2 (by decide) wd_13_14 dX3_readRight_192 (fun q_110 hq_110 _ => ?_)
        refine lv_iload_n F.1 F.2.1 dX3_readRight_195 rfl (lv_at hl 1 rfl) ?_
        refine lv_iload_n F.1 F.2.1 dX3_readRight_196 rfl (lv_at hl 0 rfl) ?_
        refine z_eq (tgt := 210) F dX3_readRight_197 (by decide) (fun c_111 => absurd c_111 (by omega)) (fun c_111 => ?_)
        refine lv_aload_n F.1 F.2.1 dX3_readRight_200 rfl (lv_at hl 2 rfl) ?_
        refine lv_iconst (v := 1) F.1 F.2.1 dX3_readRight_201 (by decide) ?_
        refine topK (a := 1) (by decide) (fun k_112 hk_112 => ?_)
        refine lv_bipush (v := 30) F.1 F.2.1 dX3_readRight_202 (by decide) ?_
        refine topK (a := 30) (by decide) (fun k_113 hk_113 => ?_)
        refine tVi (b := a0) (As := [.int k_112, .int k_113]) (rest := [.int z_2, .ref q_110]) F hK hN hO (c_X3_readNumber E dA dB (riverD (.inl (a, a)) (.inl (b, b)) (.inl (c, c)) 31 33 35 39 43 47) rB rc (xD 14 G_58) yb (xD 4 SA) yd (xD 14 G_37) yf rC rD wd1 wd2 wd3 wd4 ws1 ws2 ws3 ws4 wi1 wi2 wi3 wi4 ((.inl (w, w))) (.inr [26]) n g_103 g_104 T 1 30 a0 k_112 k_113 ha0 (by omega) (by omega) (by omega) hT (by omega) (by omega)) mv_X3_readNumber wd_12_19 ⟨Nat.le_of_ble_eq_true rfl, Nat.le_of_ble_eq_true rfl⟩ ⟨Nat.le_of_ble_eq_true rfl, Nat.le_of_ble_eq_true rfl⟩ hH hS (tRecv hK hH (tyb ha0 (all1 rfl)) clX3) rfl hl.1 (Nat.le_of_ble_eq_true rfl) dX3_readRight_204 (fun z_114 H locs hq hS => ?_)
        obtain ⟨g_115, hg_115, g_116, hg_116, f_117, f_118, f_119, f_120, hH⟩ := hq
        have hH : TH E (tbC dA dB (riverD (.inl (a, a)) (.inl (b, b)) (.inl (c, c)) 31 33 35 39 43 47) rB rc (rdD (.inl (g_115, g_115)) (.inl (n, n)) (.inl (g_116, g_116)) (.inl (w, w)) (.inr [26])) (xB 400 T) (xD 14 G_58) yb (xD 4 SA) yd (xD 14 G_37) yf rC rD wd1 wd2 wd3 wd4 ws1 ws2 ws3 ws4 wi1 wi2 wi3 wi4) H := hH
        have ez_114 : 1 ≤ z_114.toInt ∧ z_114.toInt ≤ 30 := by omega
        refine lv_goto (tgt := 211) F.1 F.2.1 dX3_readRight_207 (by decide) ?_
        refine tIastB F hK hH hS (tyb hq_110 (all1 rfl)) (ixb (n := 14) r_5 rfl rfl) (wkb ez_114 rfl rfl) dX3_readRight_211 (fun H locs hH hS => ?_)
        refine lv_aload_n F.1 F.2.1 dX3_readRight_212 rfl (lv_at hl 2 rfl) ?_
        refine tGetR (j := 5) F hK hH (tyb ha0 (all1 rfl)) rfl (all1 rfl) clX3 (by decide) wd_5_18 dX3_readRight_213 (fun q_121 hq_121 _ => ?_)
        refine lv_dup F.1 F.2.1 dX3_readRight_216 rfl ?_
        refine tGetI (j := 4) F hK hH (tyb hq_121 (all1 rfl)) rfl clX2 (by decide) wd_13_4 dX3_readRight_217 (fun z_122 hz_122 => ?_)
        have ez_122 : 0 ≤ z_122.toInt ∧ z_122.toInt ≤ 13 := by omega
        refine lv_iconst (v := 1) F.1 F.2.1 dX3_readRight_220 (by decide) ?_
        refine topK (a := 1) (by decide) (fun k_123 hk_123 => ?_)
        refine tAdd (lo := 1) (hi := 14) F dX3_readRight_221 ez_122 (eqb hk_123) rfl (fun z_124 hz_124 => ?_)
        obtain ⟨g_125, hg_125⟩ : ∃ y : Int, z_124.toInt = y := ⟨_, rfl⟩
        have bg_125 : 1 ≤ g_125 ∧ g_125 ≤ 14 := by rw [← hg_125]; exact hz_124.2
        refine tPutG (j := 4) (t := 26) (fd := (.inl (g_125, g_125))) F hK hH hS (List.mem_singleton.mp hq_121) (by decide) rfl rfl (fdI (by omega)) (TB1 := (tbC dA dB (riverD (.inl (a, a)) (.inl (g_125, g_125)) (.inl (c, c)) 31 33 35 39 43 47) rB rc (rdD (.inl (g_115, g_115)) (.inl (n, n)) (.inl (g_116, g_116)) (.inl (w, w)) (.inr [26])) (xB 400 T) (xD 14 G_58) yb (xD 4 SA) yd (xD 14 G_37) yf rC rD wd1 wd2 wd3 wd4 ws1 ws2 ws3 ws4 wi1 wi2 wi3 wi4)) rfl clX2 (by decide) wd_13_4 rfl rfl rfl rfl dX3_readRight_222 (fun H locs hH hS => ?_)
        exact txV F hS dX3_readRight_225 (⟨g_115, (by omega), g_116, (by omega), g_125, (by omega), G_58, ⟨hG_58, (right_y hg_10.2.2 hg_11.2.2 hg_19.2.2 hg_20.2.2 hg_31.2.2 hg_32.2.2 hg_45.2.2 hg_46.2.2 hg_54.2.2 hg_55.2.2 f_57 f_64 hg_62.2.2 f_72 hg_70.2.2 (updR eG_58 (by omega) rfl) hg_93.2.2 hg_94.2.2 hg_103.2.2 hg_104.2.2 hg_115.2.2 hg_116.2.2 (by omega) (by omega) (by omega) (by omega))⟩, (TH.unpin (t := 35) (TB1 := (tbC dA dB (riverD (.inl (a, a)) (.inl (g_125, g_125)) (.inl (c, c)) 31 33 35 39 43 47) rB rc (rdD (.inl (g_115, g_115)) (.inl (n, n)) (.inl (g_116, g_116)) (.inl (w, w)) (.inr [26])) (xB 400 T) (xD 14 G_58) yb (xD 4 SA) yd A14F yf rC rD wd1 wd2 wd3 wd4 ws1 ws2 ws3 ws4 wi1 wi2 wi3 wi4)) hH rfl hG_37 rfl)⟩)
    · skip
      have r_67 : 1 ≤ z_61.toInt ∧ z_61.toInt ≤ 1 := by have h9_ := f_63; omega
      refine lv_aload_n F.1 F.2.1 dX3_readRight_123 rfl (lv_at hl 1 rfl) ?_
      refine lv_iconst (v := 1) F.1 F.2.1 dX3_readRight_124 (by decide) ?_
      refine topK (a := 1) (by decide) (fun k_126 hk_126 => ?_)
      refine lv_ldc (own := RX3) (v := 999999) F.1 F.2.1 F.2.2.2.2.1 (F.2.2.2.2.2.2.1 _ wd_13_11) dX3_readRight_125 ?_
      refine topK (a := 999999) (by decide) (fun k_127 hk_127 => ?_)
      refine tVi (b := a0) (As := [.int k_126, .int k_127]) (rest := [.int z_2, .ref q_60]) F hK hN hO (c_X3_readNumber E dA dB (riverD (.inl (a, a)) (.inl (b, b)) (.inl (c, c)) 31 33 35 39 43 47) rB rc (xD 14 G_58) yb (xD 4 SA) yd (xD 14 G_37) yf rC rD wd1 wd2 wd3 wd4 ws1 ws2 ws3 ws4 wi1 wi2 wi3 wi4 ((.inl (w, w))) (.inr [26]) n g_62 g_55 T 1 999999 a0 k_126 k_127 ha0 (by omega) (by omega) (by omega) hT (by omega) (by omega)) mv_X3_readNumber wd_12_19 ⟨Nat.le_of_ble_eq_true rfl, Nat.le_of_ble_eq_true rfl⟩ ⟨Nat.le_of_ble_eq_true rfl, Nat.le_of_ble_eq_true rfl⟩ hH hS (tRecv hK hH (tyb ha0 (all1 rfl)) clX3) rfl hl.1 (Nat.le_of_ble_eq_true rfl) dX3_readRight_127 (fun z_128 H locs hq hS => ?_)
      obtain ⟨g_129, hg_129, g_130, hg_130, f_131, f_132, f_133, f_134, hH⟩ := hq
      have hH : TH E (tbC dA dB (riverD (.inl (a, a)) (.inl (b, b)) (.inl (c, c)) 31 33 35 39 43 47) rB rc (rdD (.inl (g_129, g_129)) (.inl (n, n)) (.inl (g_130, g_130)) (.inl (w, w)) (.inr [26])) (xB 400 T) (xD 14 G_58) yb (xD 4 SA) yd (xD 14 G_37) yf rC rD wd1 wd2 wd3 wd4 ws1 ws2 ws3 ws4 wi1 wi2 wi3 wi4) H := hH
      have ez_128 : 1 ≤ z_128.toInt ∧ z_128.toInt ≤ 999999 := by omega
      refine lv_goto (tgt := 134) F.1 F.2.1 dX3_readRight_130 (by decide) ?_
      refine tIastB F hK hH hS (tyb hq_60 (all1 rfl)) (ixb (n := 14) r_5 rfl rfl) (wkb ez_128 rfl rfl) dX3_readRight_134 (fun H locs hH hS => ?_)
      refine lv_aload_n F.1 F.2.1 dX3_readRight_135 rfl (lv_at hl 1 rfl) ?_
      refine va_ldcS F.1 F.2.1 F.2.2.2.2.1 (hO.1 6 _ rfl).1 dX3_readRight_136 ?_
      refine tVi (b := a0) (As := [.ref (eX E 6)]) (rest := []) F hK hN hO (c_X3_isNext E dA dB (riverD (.inl (a, a)) (.inl (b, b)) (.inl (c, c)) 31 33 35 39 43 47) rB rc (xD 14 G_58) yb (xD 4 SA) yd (xD 14 G_37) yf rC rD wd1 wd2 wd3 wd4 ws1 ws2 ws3 ws4 wi1 wi2 wi3 wi4 ((.inl (w, w))) (.inr [26]) n g_129 g_130 T a0 6 4 ha0 (strAt 6 rfl) (by omega) (by omega) (by omega) hT) mv_X3_isNext wd_9_22 ⟨Nat.le_of_ble_eq_true rfl, Nat.le_of_ble_eq_true rfl⟩ ⟨Nat.le_of_ble_eq_true rfl, Nat.le_of_ble_eq_true rfl⟩ hH hS (tRecv hK hH (tyb ha0 (all1 rfl)) clX3) rfl hl.1 (Nat.le_of_ble_eq_true rfl) dX3_readRight_138 (fun z_135 H locs hq hS => ?_)
      obtain ⟨g_136, hg_136, f_137, f_138, hH⟩ := hq
      have hH : TH E (tbC dA dB (riverD (.inl (a, a)) (.inl (b, b)) (.inl (c, c)) 31 33 35 39 43 47) rB rc (rdD (.inl (g_136, g_136)) (.inl (n, n)) (.inl (g_130, g_130)) (.inl (w, w)) (.inr [26])) (xB 400 T) (xD 14 G_58) yb (xD 4 SA) yd (xD 14 G_37) yf rC rD wd1 wd2 wd3 wd4 ws1 ws2 ws3 ws4 wi1 wi2 wi3 wi4) H := hH
      refine lv_istore_n (lv' := [(3, .int z_135), (2, .int z_2), (0, .ref a0), (1, .int a1)]) F.1 F.2.1 dX3_readRight_141 rfl hl (by decide) rfl (fun ls hl => ?_)
      refine lv_aload_n F.1 F.2.1 dX3_readRight_142 rfl (lv_at hl 2 rfl) ?_
      refine tGetR (j := 5) F hK hH (tyb ha0 (all1 rfl)) rfl (all1 rfl) clX3 (by decide) wd_5_18 dX3_readRight_143 (fun q_139 hq_139 _ => ?_)
      refine tGetR (j := 11) F hK hH (tyb hq_139 (all1 rfl)) rfl (all1 rfl) clX2 (by decide) wd_13_12 dX3_readRight_146 (fun q_140 hq_140 _ => ?_)
      refine lv_iload_n F.1 F.2.1 dX3_readRight_149 rfl (lv_at hl 1 rfl) ?_
      refine lv_iload_n F.1 F.2.1 dX3_readRight_150 rfl (lv_at hl 0 rfl) ?_
      refine z_eq (tgt := 161) F dX3_readRight_151 (by decide) (fun c_141 => ?_) (fun c_141 => ?_)
      · skip
        have r_142 : 0 ≤ z_135.toInt ∧ z_135.toInt ≤ 0 := by have h9_ := f_137; omega
        refine lv_bipush (v := (-2)) F.1 F.2.1 dX3_readRight_161 (by decide) ?_
        refine topK (a := (-2)) (by decide) (fun k_144 hk_144 => ?_)
        refine tIastB F hK hH hS (tyb hq_140 (all1 rfl)) (ixb (n := 14) r_5 rfl rfl) (wkb (eqb hk_144) rfl rfl) dX3_readRight_163 (fun H locs hH hS => ?_)
        refine lv_aload_n F.1 F.2.1 dX3_readRight_164 rfl (lv_at hl 2 rfl) ?_
        refine tGetR (j := 5) F hK hH (tyb ha0 (all1 rfl)) rfl (all1 rfl) clX3 (by decide) wd_5_18 dX3_readRight_165 (fun q_145 hq_145 _ => ?_)
        refine tGetR (j := 12) F hK hH (tyb hq_145 (all1 rfl)) rfl (all1 rfl) clX2 (by decide) wd_13_13 dX3_readRight_168 (fun q_146 hq_146 _ => ?_)
        refine lv_iload_n F.1 F.2.1 dX3_readRight_171 rfl (lv_at hl 1 rfl) ?_
        refine lv_iload_n F.1 F.2.1 dX3_readRight_172 rfl (lv_at hl 0 rfl) ?_
        refine z_eq (tgt := 186) F dX3_readRight_173 (by decide) (fun c_147 => ?_) (fun c_147 => absurd c_147 (by omega))
        refine lv_iconst (v := 0) F.1 F.2.1 dX3_readRight_186 (by decide) ?_
        refine topK (a := 0) (by decide) (fun k_148 hk_148 => ?_)
        refine tIastB F hK hH hS (tyb hq_146 (all1 rfl)) (ixb (n := 14) r_5 rfl rfl) (wkb (eqb hk_148) rfl rfl) dX3_readRight_187 (fun H locs hH hS => ?_)
        refine lv_aload_n F.1 F.2.1 dX3_readRight_188 rfl (lv_at hl 2 rfl) ?_
        refine tGetR (j := 5) F hK hH (tyb ha0 (all1 rfl)) rfl (all1 rfl) clX3 (by decide) wd_5_18 dX3_readRight_189 (fun q_149 hq_149 _ => ?_)
        refine tGetR (j := 13) F hK hH (tyb hq_149 (all1 rfl)) rfl (all1 rfl) clX2 (by decide) wd_13_14 dX3_readRight_192 (fun q_150 hq_150 _ => ?_)
        refine lv_iload_n F.1 F.2.1 dX3_readRight_195 rfl (lv_at hl 1 rfl) ?_
        refine lv_iload_n F.1 F.2.1 dX3_readRight_196 rfl (lv_at hl 0 rfl) ?_
        refine z_eq (tgt := 210) F dX3_readRight_197 (by decide) (fun c_151 => ?_) (fun c_151 => absurd c_151 (by omega))
        refine lv_iconst (v := 0) F.1 F.2.1 dX3_readRight_210 (by decide) ?_
        refine topK (a := 0) (by decide) (fun k_152 hk_152 => ?_)
        refine tIastB F hK hH hS (tyb hq_150 (all1 rfl)) (ixb (n := 14) r_5 rfl rfl) (wkb (eqb hk_152) rfl rfl) dX3_readRight_211 (fun H locs hH hS => ?_)
        refine lv_aload_n F.1 F.2.1 dX3_readRight_212 rfl (lv_at hl 2 rfl) ?_
        refine tGetR (j := 5) F hK hH (tyb ha0 (all1 rfl)) rfl (all1 rfl) clX3 (by decide) wd_5_18 dX3_readRight_213 (fun q_153 hq_153 _ => ?_)
        refine lv_dup F.1 F.2.1 dX3_readRight_216 rfl ?_
        refine tGetI (j := 4) F hK hH (tyb hq_153 (all1 rfl)) rfl clX2 (by decide) wd_13_4 dX3_readRight_217 (fun z_154 hz_154 => ?_)
        have ez_154 : 0 ≤ z_154.toInt ∧ z_154.toInt ≤ 13 := by omega
        refine lv_iconst (v := 1) F.1 F.2.1 dX3_readRight_220 (by decide) ?_
        refine topK (a := 1) (by decide) (fun k_155 hk_155 => ?_)
        refine tAdd (lo := 1) (hi := 14) F dX3_readRight_221 ez_154 (eqb hk_155) rfl (fun z_156 hz_156 => ?_)
        obtain ⟨g_157, hg_157⟩ : ∃ y : Int, z_156.toInt = y := ⟨_, rfl⟩
        have bg_157 : 1 ≤ g_157 ∧ g_157 ≤ 14 := by rw [← hg_157]; exact hz_156.2
        refine tPutG (j := 4) (t := 26) (fd := (.inl (g_157, g_157))) F hK hH hS (List.mem_singleton.mp hq_153) (by decide) rfl rfl (fdI (by omega)) (TB1 := (tbC dA dB (riverD (.inl (a, a)) (.inl (g_157, g_157)) (.inl (c, c)) 31 33 35 39 43 47) rB rc (rdD (.inl (g_136, g_136)) (.inl (n, n)) (.inl (g_130, g_130)) (.inl (w, w)) (.inr [26])) (xB 400 T) (xD 14 G_58) yb (xD 4 SA) yd (xD 14 G_37) yf rC rD wd1 wd2 wd3 wd4 ws1 ws2 ws3 ws4 wi1 wi2 wi3 wi4)) rfl clX2 (by decide) wd_13_4 rfl rfl rfl rfl dX3_readRight_222 (fun H locs hH hS => ?_)
        exact txV F hS dX3_readRight_225 (⟨g_136, (by omega), g_130, (by omega), g_157, (by omega), G_58, ⟨hG_58, (right_n hg_10.2.2 hg_11.2.2 hg_19.2.2 hg_20.2.2 hg_31.2.2 hg_32.2.2 hg_45.2.2 hg_46.2.2 hg_54.2.2 hg_55.2.2 f_57 f_64 hg_62.2.2 f_138 hg_136.2.2 (updR eG_58 (by omega) rfl) (by omega) (by omega) (by omega) (by omega))⟩, (TH.unpin (t := 35) (TB1 := (tbC dA dB (riverD (.inl (a, a)) (.inl (g_157, g_157)) (.inl (c, c)) 31 33 35 39 43 47) rB rc (rdD (.inl (g_136, g_136)) (.inl (n, n)) (.inl (g_130, g_130)) (.inl (w, w)) (.inr [26])) (xB 400 T) (xD 14 G_58) yb (xD 4 SA) yd A14F yf rC rD wd1 wd2 wd3 wd4 ws1 ws2 ws3 ws4 wi1 wi2 wi3 wi4)) hH rfl hG_37 rfl)⟩)
      · skip
        have r_143 : 1 ≤ z_135.toInt ∧ z_135.toInt ≤ 1 := by have h9_ := f_137; omega
        refine lv_aload_n F.1 F.2.1 dX3_readRight_154 rfl (lv_at hl 2 rfl) ?_
        refine tVi (b := a0) (As := []) (rest := [.int z_2, .ref q_140]) F hK hN hO (c_X3_readReachNumber_1 E dA dB rB rc yb yd (xD 14 G_37) yf rC rD wd1 wd2 wd3 wd4 ws1 ws2 ws3 ws4 wi1 wi2 wi3 wi4 a b c n g_136 g_130 w T G_58 SA a0 ha0 (by omega) (by omega) (by omega) (by omega) (by omega) (by omega) (by omega) hT hG_58 hSA) mv_X3_readReachNumber wd_12_15 ⟨Nat.le_of_ble_eq_true rfl, Nat.le_of_ble_eq_true rfl⟩ ⟨Nat.le_of_ble_eq_true rfl, Nat.le_of_ble_eq_true rfl⟩ hH hS (tRecv hK hH (tyb ha0 (all1 rfl)) clX3) rfl hl.1 (Nat.le_of_ble_eq_true rfl) dX3_readRight_155 (fun z_158 H locs hq hS => ?_)
        obtain ⟨g_159, hg_159, g_160, hg_160, f_161, f_162, hH⟩ := hq
        have hH : TH E (tbC dA dB (riverD (.inl (a, a)) (.inl (b, b)) (.inl (c, c)) 31 33 35 39 43 47) rB rc (rdD (.inl (g_159, g_159)) (.inl (n, n)) (.inl (g_160, g_160)) (.inl (w, w)) (.inr [26])) (xB 400 T) (xD 14 G_58) yb (xD 4 SA) yd (xD 14 G_37) yf rC rD wd1 wd2 wd3 wd4 ws1 ws2 ws3 ws4 wi1 wi2 wi3 wi4) H := hH
        refine lv_goto (tgt := 163) F.1 F.2.1 dX3_readRight_158 (by decide) ?_
        refine tIastB F hK hH hS (tyb hq_140 (all1 rfl)) (ixb (n := 14) r_5 rfl rfl) (wkb f_161 rfl rfl) dX3_readRight_163 (fun H locs hH hS => ?_)
        refine lv_aload_n F.1 F.2.1 dX3_readRight_164 rfl (lv_at hl 2 rfl) ?_
        refine tGetR (j := 5) F hK hH (tyb ha0 (all1 rfl)) rfl (all1 rfl) clX3 (by decide) wd_5_18 dX3_readRight_165 (fun q_163 hq_163 _ => ?_)
        refine tGetR (j := 12) F hK hH (tyb hq_163 (all1 rfl)) rfl (all1 rfl) clX2 (by decide) wd_13_13 dX3_readRight_168 (fun q_164 hq_164 _ => ?_)
        refine lv_iload_n F.1 F.2.1 dX3_readRight_171 rfl (lv_at hl 1 rfl) ?_
        refine lv_iload_n F.1 F.2.1 dX3_readRight_172 rfl (lv_at hl 0 rfl) ?_
        refine z_eq (tgt := 186) F dX3_readRight_173 (by decide) (fun c_165 => absurd c_165 (by omega)) (fun c_165 => ?_)
        refine lv_aload_n F.1 F.2.1 dX3_readRight_176 rfl (lv_at hl 2 rfl) ?_
        refine lv_iconst (v := 0) F.1 F.2.1 dX3_readRight_177 (by decide) ?_
        refine topK (a := 0) (by decide) (fun k_166 hk_166 => ?_)
        refine lv_bipush (v := 100) F.1 F.2.1 dX3_readRight_178 (by decide) ?_
        refine topK (a := 100) (by decide) (fun k_167 hk_167 => ?_)
        refine tVi (b := a0) (As := [.int k_166, .int k_167]) (rest := [.int z_2, .ref q_164]) F hK hN hO (c_X3_readNumber E dA dB (riverD (.inl (a, a)) (.inl (b, b)) (.inl (c, c)) 31 33 35 39 43 47) rB rc (xD 14 G_58) yb (xD 4 SA) yd (xD 14 G_37) yf rC rD wd1 wd2 wd3 wd4 ws1 ws2 ws3 ws4 wi1 wi2 wi3 wi4 ((.inl (w, w))) (.inr [26]) n g_159 g_160 T 0 100 a0 k_166 k_167 ha0 (by omega) (by omega) (by omega) hT (by omega) (by omega)) mv_X3_readNumber wd_12_19 ⟨Nat.le_of_ble_eq_true rfl, Nat.le_of_ble_eq_true rfl⟩ ⟨Nat.le_of_ble_eq_true rfl, Nat.le_of_ble_eq_true rfl⟩ hH hS (tRecv hK hH (tyb ha0 (all1 rfl)) clX3) rfl hl.1 (Nat.le_of_ble_eq_true rfl) dX3_readRight_180 (fun z_168 H locs hq hS => ?_)
        obtain ⟨g_169, hg_169, g_170, hg_170, f_171, f_172, f_173, f_174, hH⟩ := hq
        have hH : TH E (tbC dA dB (riverD (.inl (a, a)) (.inl (b, b)) (.inl (c, c)) 31 33 35 39 43 47) rB rc (rdD (.inl (g_169, g_169)) (.inl (n, n)) (.inl (g_170, g_170)) (.inl (w, w)) (.inr [26])) (xB 400 T) (xD 14 G_58) yb (xD 4 SA) yd (xD 14 G_37) yf rC rD wd1 wd2 wd3 wd4 ws1 ws2 ws3 ws4 wi1 wi2 wi3 wi4) H := hH
        have ez_168 : 0 ≤ z_168.toInt ∧ z_168.toInt ≤ 100 := by omega
        refine lv_goto (tgt := 187) F.1 F.2.1 dX3_readRight_183 (by decide) ?_
        refine tIastB F hK hH hS (tyb hq_164 (all1 rfl)) (ixb (n := 14) r_5 rfl rfl) (wkb ez_168 rfl rfl) dX3_readRight_187 (fun H locs hH hS => ?_)
        refine lv_aload_n F.1 F.2.1 dX3_readRight_188 rfl (lv_at hl 2 rfl) ?_
        refine tGetR (j := 5) F hK hH (tyb ha0 (all1 rfl)) rfl (all1 rfl) clX3 (by decide) wd_5_18 dX3_readRight_189 (fun q_175 hq_175 _ => ?_)
        refine tGetR (j := 13) F hK hH (tyb hq_175 (all1 rfl)) rfl (all1 rfl) clX2 (by decide) wd_13_14 dX3_readRight_192 (fun q_176 hq_176 _ => ?_)
        refine lv_iload_n F.1 F.2.1 dX3_readRight_195 rfl (lv_at hl 1 rfl) ?_
        refine lv_iload_n F.1 F.2.1 dX3_readRight_196 rfl (lv_at hl 0 rfl) ?_
        refine z_eq (tgt := 210) F dX3_readRight_197 (by decide) (fun c_177 => absurd c_177 (by omega)) (fun c_177 => ?_)
        refine lv_aload_n F.1 F.2.1 dX3_readRight_200 rfl (lv_at hl 2 rfl) ?_
        refine lv_iconst (v := 1) F.1 F.2.1 dX3_readRight_201 (by decide) ?_
        refine topK (a := 1) (by decide) (fun k_178 hk_178 => ?_)
        refine lv_bipush (v := 30) F.1 F.2.1 dX3_readRight_202 (by decide) ?_
        refine topK (a := 30) (by decide) (fun k_179 hk_179 => ?_)
        refine tVi (b := a0) (As := [.int k_178, .int k_179]) (rest := [.int z_2, .ref q_176]) F hK hN hO (c_X3_readNumber E dA dB (riverD (.inl (a, a)) (.inl (b, b)) (.inl (c, c)) 31 33 35 39 43 47) rB rc (xD 14 G_58) yb (xD 4 SA) yd (xD 14 G_37) yf rC rD wd1 wd2 wd3 wd4 ws1 ws2 ws3 ws4 wi1 wi2 wi3 wi4 ((.inl (w, w))) (.inr [26]) n g_169 g_170 T 1 30 a0 k_178 k_179 ha0 (by omega) (by omega) (by omega) hT (by omega) (by omega)) mv_X3_readNumber wd_12_19 ⟨Nat.le_of_ble_eq_true rfl, Nat.le_of_ble_eq_true rfl⟩ ⟨Nat.le_of_ble_eq_true rfl, Nat.le_of_ble_eq_true rfl⟩ hH hS (tRecv hK hH (tyb ha0 (all1 rfl)) clX3) rfl hl.1 (Nat.le_of_ble_eq_true rfl) dX3_readRight_204 (fun z_180 H locs hq hS => ?_)
        obtain ⟨g_181, hg_181, g_182, hg_182, f_183, f_184, f_185, f_186, hH⟩ := hq
        have hH : TH E (tbC dA dB (riverD (.inl (a, a)) (.inl (b, b)) (.inl (c, c)) 31 33 35 39 43 47) rB rc (rdD (.inl (g_181, g_181)) (.inl (n, n)) (.inl (g_182, g_182)) (.inl (w, w)) (.inr [26])) (xB 400 T) (xD 14 G_58) yb (xD 4 SA) yd (xD 14 G_37) yf rC rD wd1 wd2 wd3 wd4 ws1 ws2 ws3 ws4 wi1 wi2 wi3 wi4) H := hH
        have ez_180 : 1 ≤ z_180.toInt ∧ z_180.toInt ≤ 30 := by omega
        refine lv_goto (tgt := 211) F.1 F.2.1 dX3_readRight_207 (by decide) ?_
        refine tIastB F hK hH hS (tyb hq_176 (all1 rfl)) (ixb (n := 14) r_5 rfl rfl) (wkb ez_180 rfl rfl) dX3_readRight_211 (fun H locs hH hS => ?_)
        refine lv_aload_n F.1 F.2.1 dX3_readRight_212 rfl (lv_at hl 2 rfl) ?_
        refine tGetR (j := 5) F hK hH (tyb ha0 (all1 rfl)) rfl (all1 rfl) clX3 (by decide) wd_5_18 dX3_readRight_213 (fun q_187 hq_187 _ => ?_)
        refine lv_dup F.1 F.2.1 dX3_readRight_216 rfl ?_
        refine tGetI (j := 4) F hK hH (tyb hq_187 (all1 rfl)) rfl clX2 (by decide) wd_13_4 dX3_readRight_217 (fun z_188 hz_188 => ?_)
        have ez_188 : 0 ≤ z_188.toInt ∧ z_188.toInt ≤ 13 := by omega
        refine lv_iconst (v := 1) F.1 F.2.1 dX3_readRight_220 (by decide) ?_
        refine topK (a := 1) (by decide) (fun k_189 hk_189 => ?_)
        refine tAdd (lo := 1) (hi := 14) F dX3_readRight_221 ez_188 (eqb hk_189) rfl (fun z_190 hz_190 => ?_)
        obtain ⟨g_191, hg_191⟩ : ∃ y : Int, z_190.toInt = y := ⟨_, rfl⟩
        have bg_191 : 1 ≤ g_191 ∧ g_191 ≤ 14 := by rw [← hg_191]; exact hz_190.2
        refine tPutG (j := 4) (t := 26) (fd := (.inl (g_191, g_191))) F hK hH hS (List.mem_singleton.mp hq_187) (by decide) rfl rfl (fdI (by omega)) (TB1 := (tbC dA dB (riverD (.inl (a, a)) (.inl (g_191, g_191)) (.inl (c, c)) 31 33 35 39 43 47) rB rc (rdD (.inl (g_181, g_181)) (.inl (n, n)) (.inl (g_182, g_182)) (.inl (w, w)) (.inr [26])) (xB 400 T) (xD 14 G_58) yb (xD 4 SA) yd (xD 14 G_37) yf rC rD wd1 wd2 wd3 wd4 ws1 ws2 ws3 ws4 wi1 wi2 wi3 wi4)) rfl clX2 (by decide) wd_13_4 rfl rfl rfl rfl dX3_readRight_222 (fun H locs hH hS => ?_)
        exact txV F hS dX3_readRight_225 (⟨g_181, (by omega), g_182, (by omega), g_191, (by omega), G_58, ⟨hG_58, (right_y hg_10.2.2 hg_11.2.2 hg_19.2.2 hg_20.2.2 hg_31.2.2 hg_32.2.2 hg_45.2.2 hg_46.2.2 hg_54.2.2 hg_55.2.2 f_57 f_64 hg_62.2.2 f_138 hg_136.2.2 (updR eG_58 (by omega) rfl) hg_159.2.2 hg_160.2.2 hg_169.2.2 hg_170.2.2 hg_181.2.2 hg_182.2.2 (by omega) (by omega) (by omega) (by omega))⟩, (TH.unpin (t := 35) (TB1 := (tbC dA dB (riverD (.inl (a, a)) (.inl (g_191, g_191)) (.inl (c, c)) 31 33 35 39 43 47) rB rc (rdD (.inl (g_181, g_181)) (.inl (n, n)) (.inl (g_182, g_182)) (.inl (w, w)) (.inr [26])) (xB 400 T) (xD 14 G_58) yb (xD 4 SA) yd A14F yf rC rD wd1 wd2 wd3 wd4 ws1 ws2 ws3 ws4 wi1 wi2 wi3 wi4)) hH rfl hG_37 rfl)⟩)
  · skip
    have r_6 : 14 ≤ z_2.toInt ∧ z_2.toInt ≤ 14 := by have h9_ := ez_2; omega
    refine lv_aload_n F.1 F.2.1 dX3_readRight_14 rfl (lv_at hl 1 rfl) ?_
    refine lv_iload_n F.1 F.2.1 dX3_readRight_15 rfl (lv_at hl 2 rfl) ?_
    refine lv_iconst (v := 3) F.1 F.2.1 dX3_readRight_16 (by decide) ?_
    refine topK (a := 3) (by decide) (fun k_192 hk_192 => ?_)
    refine tVv (b := a0) (As := [.int a1, .int k_192]) (rest := []) F hK hN hO (c_X3_blame E dA dB (riverD (.inl (a, a)) (.inl (b, b)) (.inl (c, c)) 31 33 35 39 43 47) rB rc (xB 400 T) (xD 14 RA) yb (xD 4 SA) yd A14F yf rC rD wd1 wd2 wd3 wd4 ws1 ws2 ws3 ws4 wi1 wi2 wi3 wi4 ((.inl (n, n))) ((.inl (p, p))) ((.inl (w, w))) (.inr [26]) f st 3 a0 a1 k_192 ha0 ha1 (wkb (eqb hk_192) rfl rfl) (by omega) (by omega) (by omega)) mv_X3_blame wd_12_11 ⟨Nat.le_of_ble_eq_true rfl, Nat.le_of_ble_eq_true rfl⟩ ⟨Nat.le_of_ble_eq_true rfl, Nat.le_of_ble_eq_true rfl⟩ hH hS (tRecv hK hH (tyb ha0 (all1 rfl)) clX3) rfl hl.1 (Nat.le_of_ble_eq_true rfl) dX3_readRight_17 (fun H locs hq hS => ?_)
    obtain ⟨g_194, hg_194, hH⟩ := hq
    have hH : TH E (tbC dA dB (riverD (.inl (a, a)) (.inl (b, b)) (.inl (c, c)) 31 33 35 39 43 47) rB rc (rdD (.inl (p, p)) (.inl (n, n)) (.inl (g_194, g_194)) (.inl (w, w)) (.inr [26])) (xB 400 T) (xD 14 RA) yb (xD 4 SA) yd A14F yf rC rD wd1 wd2 wd3 wd4 ws1 ws2 ws3 ws4 wi1 wi2 wi3 wi4) H := hH
    exact txV F hS dX3_readRight_20 (⟨p, (by omega), g_194, (by omega), b, (by omega), RA, ⟨hRA, (right_a (by omega) hg_194.2.2)⟩, hH⟩)
set_option maxHeartbeats 4000000 in
set_option maxRecDepth 100000 in
theorem c_X3_readRight_2 (E : Ev) (dA : TD) (dB : TD) (rA : TD) (rc : TD) (ya : TD) (yc : TD) (ye : TD) (rC : TD) (rD : TD) (wd1 : TD) (wd2 : TD) (wd3 : TD) (wd4 : TD) (ws1 : TD) (ws2 : TD) (ws3 : TD) (ws4 : TD) (wi1 : TD) (wi2 : TD) (wi3 : TD) (wi4 : TD) (a : Int) (b : Int) (c : Int) (n : Int) (p : Int) (f : Int) (w : Int) (T : Nat → Int32) (RA : Nat → Int32) (SA : Nat → Int32) (st : Int) (a0 : Nat) (a1 : Int32) (ha0 : eT E a0 ∈ [29]) (ha1 : 0 ≤ a1.toInt ∧ a1.toInt ≤ 400) (ha : 0 ≤ a ∧ a ≤ 12) (hb : 0 ≤ b ∧ b ≤ 14) (hc : 0 ≤ c ∧ c ≤ 4) (hn : 0 ≤ n ∧ n ≤ 400) (hp : 0 ≤ p ∧ p ≤ 400) (hf : 0 ≤ f ∧ f ≤ 4000) (hw : 0 ≤ w ∧ w ≤ 1) (hT : ivP 400 (-128) 127 T) (hRA : ivP 14 (-2147483648) 2147483647 RA) (hSA : ivP 4 (-2147483648) 2147483647 SA) (hst : a1.toInt = st) : TcV E yX3_readRight cX3_readRight 4 ({ frames := 7, cells := 0, slots := 0, locals := 226 }) [.ref a0, .int a1] (fun H => TH E (tbC dA dB rA (riverD (.inl (a, a)) (.inl (b, b)) (.inl (c, c)) 32 34 36 40 44 48) rc (rdD (.inl (p, p)) (.inl (n, n)) (.inl (f, f)) (.inl (w, w)) (.inr [27])) (xB 400 T) ya (xD 14 RA) yc (xD 4 SA) ye A14F rC rD wd1 wd2 wd3 wd4 ws1 ws2 ws3 ws4 wi1 wi2 wi3 wi4) H) (fun H => ∃ p2 : Int, (0 ≤ p2 ∧ p2 ≤ 400) ∧ ∃ f2 : Int, (0 ≤ f2 ∧ f2 ≤ 4000) ∧ ∃ b2 : Int, (0 ≤ b2 ∧ b2 ≤ 14) ∧ ∃ RA2 : Nat → Int32, (ivP 14 (-2147483648) 2147483647 RA2 ∧ (p2, f2, w, a, b2, c, RA2, SA) = kRight T n st (p, f, w, a, b, c, RA, SA)) ∧ TH E (tbC dA dB rA (riverD (.inl (a, a)) (.inl (b2, b2)) (.inl (c, c)) 32 34 36 40 44 48) rc (rdD (.inl (p2, p2)) (.inl (n, n)) (.inl (f2, f2)) (.inl (w, w)) (.inr [27])) (xB 400 T) ya (xD 14 RA2) yc (xD 4 SA) ye A14F rC rD wd1 wd2 wd3 wd4 ws1 ws2 ws3 ws4 wi1 wi2 wi3 wi4) H) := by
  refine teV (by decide) (Nat.le_of_ble_eq_true rfl) ?_
  intro p_ ev_ s mi_ below_ meth cd_ ls F hK hN hO hH hS hl
  have hH : TH E (tbC dA dB rA (riverD (.inl (a, a)) (.inl (b, b)) (.inl (c, c)) 32 34 36 40 44 48) rc (rdD (.inl (p, p)) (.inl (n, n)) (.inl (f, f)) (.inl (w, w)) (.inr [27])) (xB 400 T) ya (xD 14 RA) yc (xD 4 SA) ye A14F rC rD wd1 wd2 wd3 wd4 ws1 ws2 ws3 ws4 wi1 wi2 wi3 wi4) s.heap := hH
  have hl : lv_has ls 4 [(0, .ref a0), (1, .int a1)] := hl
  refine lv_aload_n F.1 F.2.1 dX3_readRight_0 rfl (lv_at hl 0 rfl) ?_
  refine tGetR (j := 5) F hK hH (tyb ha0 (all1 rfl)) rfl (all1 rfl) clX3 (by decide) wd_5_18 dX3_readRight_1 (fun q_1 hq_1 _ => ?_)
  refine tGetI (j := 4) F hK hH (tyb hq_1 (all1 rfl)) rfl clX2 (by decide) wd_13_4 dX3_readRight_4 (fun z_2 hz_2 => ?_)
  have ez_2 : 0 ≤ z_2.toInt ∧ z_2.toInt ≤ 14 := by omega
  refine lv_istore_n (lv' := [(2, .int z_2), (0, .ref a0), (1, .int a1)]) F.1 F.2.1 dX3_readRight_7 rfl hl (by decide) rfl (fun ls hl => ?_)
  refine lv_iload_n F.1 F.2.1 dX3_readRight_8 rfl (lv_at hl 0 rfl) ?_
  refine lv_bipush (v := 14) F.1 F.2.1 dX3_readRight_9 (by decide) ?_
  refine topK (a := 14) (by decide) (fun k_3 hk_3 => ?_)
  refine b_lt (tgt := 21) F dX3_readRight_11 (by decide) (fun c_4 => ?_) (fun c_4 => ?_)
  · skip
    have r_5 : 0 ≤ z_2.toInt ∧ z_2.toInt ≤ 13 := by have h9_ := ez_2; omega
    refine lv_aload_n F.1 F.2.1 dX3_readRight_21 rfl (lv_at hl 1 rfl) ?_
    refine tGetR (j := 5) F hK hH (tyb ha0 (all1 rfl)) rfl (all1 rfl) clX3 (by decide) wd_5_18 dX3_readRight_22 (fun q_7 hq_7 _ => ?_)
    refine tGetR (j := 5) F hK hH (tyb hq_7 (all1 rfl)) rfl (all1 rfl) clX2 (by decide) wd_13_5 dX3_readRight_25 (fun q_8 hq_8 _ => ?_)
    refine lv_iload_n F.1 F.2.1 dX3_readRight_28 rfl (lv_at hl 0 rfl) ?_
    refine lv_aload_n F.1 F.2.1 dX3_readRight_29 rfl (lv_at hl 1 rfl) ?_
    refine tVi (b := a0) (As := []) (rest := [.int z_2, .ref q_8]) F hK hN hO (c_X3_readReachNumber_2 E dA dB rA rc ya yc ye A14F rC rD wd1 wd2 wd3 wd4 ws1 ws2 ws3 ws4 wi1 wi2 wi3 wi4 a b c n p f w T RA SA a0 ha0 (by omega) (by omega) (by omega) (by omega) (by omega) (by omega) (by omega) hT hRA hSA) mv_X3_readReachNumber wd_12_15 ⟨Nat.le_of_ble_eq_true rfl, Nat.le_of_ble_eq_true rfl⟩ ⟨Nat.le_of_ble_eq_true rfl, Nat.le_of_ble_eq_true rfl⟩ hH hS (tRecv hK hH (tyb ha0 (all1 rfl)) clX3) rfl hl.1 (Nat.le_of_ble_eq_true rfl) dX3_readRight_30 (fun z_9 H locs hq hS => ?_)
    obtain ⟨g_10, hg_10, g_11, hg_11, f_12, f_13, hH⟩ := hq
    have hH : TH E (tbC dA dB rA (riverD (.inl (a, a)) (.inl (b, b)) (.inl (c, c)) 32 34 36 40 44 48) rc (rdD (.inl (g_10, g_10)) (.inl (n, n)) (.inl (g_11, g_11)) (.inl (w, w)) (.inr [27])) (xB 400 T) ya (xD 14 RA) yc (xD 4 SA) ye A14F rC rD wd1 wd2 wd3 wd4 ws1 ws2 ws3 ws4 wi1 wi2 wi3 wi4) H := hH
    refine tIastB F hK hH hS (tyb hq_8 (all1 rfl)) (ixb (n := 14) r_5 rfl rfl) f_12 dX3_readRight_33 (fun H locs hH hS => ?_)
    refine lv_aload_n F.1 F.2.1 dX3_readRight_34 rfl (lv_at hl 1 rfl) ?_
    refine tGetR (j := 5) F hK hH (tyb ha0 (all1 rfl)) rfl (all1 rfl) clX3 (by decide) wd_5_18 dX3_readRight_35 (fun q_14 hq_14 _ => ?_)
    refine tGetR (j := 6) F hK hH (tyb hq_14 (all1 rfl)) rfl (all1 rfl) clX2 (by decide) wd_13_6 dX3_readRight_38 (fun q_15 hq_15 _ => ?_)
    refine lv_iload_n F.1 F.2.1 dX3_readRight_41 rfl (lv_at hl 0 rfl) ?_
    refine lv_aload_n F.1 F.2.1 dX3_readRight_42 rfl (lv_at hl 1 rfl) ?_
    refine lv_iconst (v := 1) F.1 F.2.1 dX3_readRight_43 (by decide) ?_
    refine topK (a := 1) (by decide) (fun k_16 hk_16 => ?_)
    refine lv_sipush (v := 9999) F.1 F.2.1 dX3_readRight_44 (by decide) ?_
    refine topK (a := 9999) (by decide) (fun k_17 hk_17 => ?_)
    refine tVi (b := a0) (As := [.int k_16, .int k_17]) (rest := [.int z_2, .ref q_15]) F hK hN hO (c_X3_readNumber E dA dB rA (riverD (.inl (a, a)) (.inl (b, b)) (.inl (c, c)) 32 34 36 40 44 48) rc ya (xD 14 RA) yc (xD 4 SA) ye A14F rC rD wd1 wd2 wd3 wd4 ws1 ws2 ws3 ws4 wi1 wi2 wi3 wi4 ((.inl (w, w))) (.inr [27]) n g_10 g_11 T 1 9999 a0 k_16 k_17 ha0 (by omega) (by omega) (by omega) hT (by omega) (by omega)) mv_X3_readNumber wd_12_19 ⟨Nat.le_of_ble_eq_true rfl, Nat.le_of_ble_eq_true rfl⟩ ⟨Nat.le_of_ble_eq_true rfl, Nat.le_of_ble_eq_true rfl⟩ hH hS (tRecv hK hH (tyb ha0 (all1 rfl)) clX3) rfl hl.1 (Nat.le_of_ble_eq_true rfl) dX3_readRight_47 (fun z_18 H locs hq hS => ?_)
    obtain ⟨g_19, hg_19, g_20, hg_20, f_21, f_22, f_23, f_24, hH⟩ := hq
    have hH : TH E (tbC dA dB rA (riverD (.inl (a, a)) (.inl (b, b)) (.inl (c, c)) 32 34 36 40 44 48) rc (rdD (.inl (g_19, g_19)) (.inl (n, n)) (.inl (g_20, g_20)) (.inl (w, w)) (.inr [27])) (xB 400 T) ya (xD 14 RA) yc (xD 4 SA) ye A14F rC rD wd1 wd2 wd3 wd4 ws1 ws2 ws3 ws4 wi1 wi2 wi3 wi4) H := hH
    have ez_18 : 1 ≤ z_18.toInt ∧ z_18.toInt ≤ 9999 := by omega
    refine tIastB F hK hH hS (tyb hq_15 (all1 rfl)) (ixb (n := 14) r_5 rfl rfl) (wkb ez_18 rfl rfl) dX3_readRight_50 (fun H locs hH hS => ?_)
    refine lv_aload_n F.1 F.2.1 dX3_readRight_51 rfl (lv_at hl 1 rfl) ?_
    refine tGetR (j := 5) F hK hH (tyb ha0 (all1 rfl)) rfl (all1 rfl) clX3 (by decide) wd_5_18 dX3_readRight_52 (fun q_25 hq_25 _ => ?_)
    refine tGetR (j := 7) F hK hH (tyb hq_25 (all1 rfl)) rfl (all1 rfl) clX2 (by decide) wd_13_7 dX3_readRight_55 (fun q_26 hq_26 _ => ?_)
    obtain ⟨S_27, hS_27, hH⟩ := TH.pin (t := 36) hH rfl ⟨q_26, List.mem_singleton.mp hq_26⟩ (by decide)
    have hH : TH E (tbC dA dB rA (riverD (.inl (a, a)) (.inl (b, b)) (.inl (c, c)) 32 34 36 40 44 48) rc (rdD (.inl (g_19, g_19)) (.inl (n, n)) (.inl (g_20, g_20)) (.inl (w, w)) (.inr [27])) (xB 400 T) ya (xD 14 RA) yc (xD 4 SA) ye (xD 14 S_27) rC rD wd1 wd2 wd3 wd4 ws1 ws2 ws3 ws4 wi1 wi2 wi3 wi4) H := hH
    refine lv_iload_n F.1 F.2.1 dX3_readRight_58 rfl (lv_at hl 0 rfl) ?_
    refine lv_aload_n F.1 F.2.1 dX3_readRight_59 rfl (lv_at hl 1 rfl) ?_
    refine lv_iconst (v := 0) F.1 F.2.1 dX3_readRight_60 (by decide) ?_
    refine topK (a := 0) (by decide) (fun k_28 hk_28 => ?_)
    refine lv_sipush (v := 359) F.1 F.2.1 dX3_readRight_61 (by decide) ?_
    refine topK (a := 359) (by decide) (fun k_29 hk_29 => ?_)
    refine tVi (b := a0) (As := [.int k_28, .int k_29]) (rest := [.int z_2, .ref q_26]) F hK hN hO (c_X3_readNumber E dA dB rA (riverD (.inl (a, a)) (.inl (b, b)) (.inl (c, c)) 32 34 36 40 44 48) rc ya (xD 14 RA) yc (xD 4 SA) ye (xD 14 S_27) rC rD wd1 wd2 wd3 wd4 ws1 ws2 ws3 ws4 wi1 wi2 wi3 wi4 ((.inl (w, w))) (.inr [27]) n g_19 g_20 T 0 359 a0 k_28 k_29 ha0 (by omega) (by omega) (by omega) hT (by omega) (by omega)) mv_X3_readNumber wd_12_19 ⟨Nat.le_of_ble_eq_true rfl, Nat.le_of_ble_eq_true rfl⟩ ⟨Nat.le_of_ble_eq_true rfl, Nat.le_of_ble_eq_true rfl⟩ hH hS (tRecv hK hH (tyb ha0 (all1 rfl)) clX3) rfl hl.1 (Nat.le_of_ble_eq_true rfl) dX3_readRight_64 (fun z_30 H locs hq hS => ?_)
    obtain ⟨g_31, hg_31, g_32, hg_32, f_33, f_34, f_35, f_36, hH⟩ := hq
    have hH : TH E (tbC dA dB rA (riverD (.inl (a, a)) (.inl (b, b)) (.inl (c, c)) 32 34 36 40 44 48) rc (rdD (.inl (g_31, g_31)) (.inl (n, n)) (.inl (g_32, g_32)) (.inl (w, w)) (.inr [27])) (xB 400 T) ya (xD 14 RA) yc (xD 4 SA) ye (xD 14 S_27) rC rD wd1 wd2 wd3 wd4 ws1 ws2 ws3 ws4 wi1 wi2 wi3 wi4) H := hH
    have ez_30 : 0 ≤ z_30.toInt ∧ z_30.toInt ≤ 359 := by omega
    refine tIastX (t := 36) F hK hH hS (List.mem_singleton.mp hq_26) (by decide) rfl (ixb (n := 14) r_5 rfl rfl) dX3_readRight_67 (fun G_37 eG_37 H locs hH hS => ?_)
    have hH : TH E (tbC dA dB rA (riverD (.inl (a, a)) (.inl (b, b)) (.inl (c, c)) 32 34 36 40 44 48) rc (rdD (.inl (g_31, g_31)) (.inl (n, n)) (.inl (g_32, g_32)) (.inl (w, w)) (.inr [27])) (xB 400 T) ya (xD 14 RA) yc (xD 4 SA) ye (xD 14 G_37) rC rD wd1 wd2 wd3 wd4 ws1 ws2 ws3 ws4 wi1 wi2 wi3 wi4) H := hH
    have hG_37 : ivP 14 (-2147483648) 2147483647 G_37 := (ivP_updE hS_27 eG_37 (i32b _))
    refine lv_aload_n F.1 F.2.1 dX3_readRight_68 rfl (lv_at hl 1 rfl) ?_
    refine tGetR (j := 5) F hK hH (tyb ha0 (all1 rfl)) rfl (all1 rfl) clX3 (by decide) wd_5_18 dX3_readRight_69 (fun q_38 hq_38 _ => ?_)
    refine tGetR (j := 8) F hK hH (tyb hq_38 (all1 rfl)) rfl (all1 rfl) clX2 (by decide) wd_13_8 dX3_readRight_72 (fun q_39 hq_39 _ => ?_)
    refine lv_iload_n F.1 F.2.1 dX3_readRight_75 rfl (lv_at hl 0 rfl) ?_
    refine lv_aload_n F.1 F.2.1 dX3_readRight_76 rfl (lv_at hl 1 rfl) ?_
    refine lv_aload_n F.1 F.2.1 dX3_readRight_77 rfl (lv_at hl 1 rfl) ?_
    refine tGetR (j := 5) F hK hH (tyb ha0 (all1 rfl)) rfl (all1 rfl) clX3 (by decide) wd_5_18 dX3_readRight_78 (fun q_40 hq_40 _ => ?_)
    refine tGetR (j := 7) F hK hH (tyb hq_40 (all1 rfl)) rfl (all1 rfl) clX2 (by decide) wd_13_7 dX3_readRight_81 (fun q_41 hq_41 _ => ?_)
    refine lv_iload_n F.1 F.2.1 dX3_readRight_84 rfl (lv_at hl 0 rfl) ?_
    refine tIaldX F hK hH (tyb hq_41 (all1 rfl)) (ixb (n := 14) r_5 rfl rfl) dX3_readRight_85 (fun z_42 ez_42 => ?_)
    have qz_42 : z_42.toInt = z_30.toInt := by rw [ez_42, eG_37]; simp [upd]
    have hz_42 : 0 ≤ z_42.toInt ∧ z_42.toInt ≤ 359 := (by omega)
    refine lv_sipush (v := 359) F.1 F.2.1 dX3_readRight_86 (by decide) ?_
    refine topK (a := 359) (by decide) (fun k_43 hk_43 => ?_)
    refine tVi (b := a0) (As := [.int z_42, .int k_43]) (rest := [.int z_2, .ref q_39]) F hK hN hO (c_X3_readNumber E dA dB rA (riverD (.inl (a, a)) (.inl (b, b)) (.inl (c, c)) 32 34 36 40 44 48) rc ya (xD 14 RA) yc (xD 4 SA) ye (xD 14 G_37) rC rD wd1 wd2 wd3 wd4 ws1 ws2 ws3 ws4 wi1 wi2 wi3 wi4 ((.inl (w, w))) (.inr [27]) n g_31 g_32 T (jNv T n g_19 0 359) 359 a0 z_42 k_43 ha0 (by omega) (by omega) (by omega) hT (by omega) (by omega)) mv_X3_readNumber wd_12_19 ⟨Nat.le_of_ble_eq_true rfl, Nat.le_of_ble_eq_true rfl⟩ ⟨Nat.le_of_ble_eq_true rfl, Nat.le_of_ble_eq_true rfl⟩ hH hS (tRecv hK hH (tyb ha0 (all1 rfl)) clX3) rfl hl.1 (Nat.le_of_ble_eq_true rfl) dX3_readRight_89 (fun z_44 H locs hq hS => ?_)
    obtain ⟨g_45, hg_45, g_46, hg_46, f_47, f_48, f_49, f_50, hH⟩ := hq
    have hH : TH E (tbC dA dB rA (riverD (.inl (a, a)) (.inl (b, b)) (.inl (c, c)) 32 34 36 40 44 48) rc (rdD (.inl (g_45, g_45)) (.inl (n, n)) (.inl (g_46, g_46)) (.inl (w, w)) (.inr [27])) (xB 400 T) ya (xD 14 RA) yc (xD 4 SA) ye (xD 14 G_37) rC rD wd1 wd2 wd3 wd4 ws1 ws2 ws3 ws4 wi1 wi2 wi3 wi4) H := hH
    have ez_44 : 0 ≤ z_44.toInt ∧ z_44.toInt ≤ 359 := by omega
    refine tIastB F hK hH hS (tyb hq_39 (all1 rfl)) (ixb (n := 14) r_5 rfl rfl) (wkb ez_44 rfl rfl) dX3_readRight_92 (fun H locs hH hS => ?_)
    refine lv_aload_n F.1 F.2.1 dX3_readRight_93 rfl (lv_at hl 1 rfl) ?_
    refine tGetR (j := 5) F hK hH (tyb ha0 (all1 rfl)) rfl (all1 rfl) clX3 (by decide) wd_5_18 dX3_readRight_94 (fun q_51 hq_51 _ => ?_)
    refine tGetR (j := 9) F hK hH (tyb hq_51 (all1 rfl)) rfl (all1 rfl) clX2 (by decide) wd_13_9 dX3_readRight_97 (fun q_52 hq_52 _ => ?_)
    refine lv_iload_n F.1 F.2.1 dX3_readRight_100 rfl (lv_at hl 0 rfl) ?_
    refine lv_aload_n F.1 F.2.1 dX3_readRight_101 rfl (lv_at hl 1 rfl) ?_
    refine tVi (b := a0) (As := []) (rest := [.int z_2, .ref q_52]) F hK hN hO (c_X3_readAge_2 E dA dB rA rc ya yc ye (xD 14 G_37) rC rD wd1 wd2 wd3 wd4 ws1 ws2 ws3 ws4 wi1 wi2 wi3 wi4 a b c n g_45 g_46 w T RA SA a0 ha0 (by omega) (by omega) (by omega) (by omega) (by omega) (by omega) (by omega) hT hRA hSA) mv_X3_readAge wd_13_15 ⟨Nat.le_of_ble_eq_true rfl, Nat.le_of_ble_eq_true rfl⟩ ⟨Nat.le_of_ble_eq_true rfl, Nat.le_of_ble_eq_true rfl⟩ hH hS (tRecv hK hH (tyb ha0 (all1 rfl)) clX3) rfl hl.1 (Nat.le_of_ble_eq_true rfl) dX3_readRight_102 (fun z_53 H locs hq hS => ?_)
    obtain ⟨g_54, hg_54, g_55, hg_55, f_56, f_57, hH⟩ := hq
    have hH : TH E (tbC dA dB rA (riverD (.inl (a, a)) (.inl (b, b)) (.inl (c, c)) 32 34 36 40 44 48) rc (rdD (.inl (g_54, g_54)) (.inl (n, n)) (.inl (g_55, g_55)) (.inl (w, w)) (.inr [27])) (xB 400 T) ya (xD 14 RA) yc (xD 4 SA) ye (xD 14 G_37) rC rD wd1 wd2 wd3 wd4 ws1 ws2 ws3 ws4 wi1 wi2 wi3 wi4) H := hH
    refine tIastX (t := 32) F hK hH hS (List.mem_singleton.mp hq_52) (by decide) rfl (ixb (n := 14) r_5 rfl rfl) dX3_readRight_105 (fun G_58 eG_58 H locs hH hS => ?_)
    have hH : TH E (tbC dA dB rA (riverD (.inl (a, a)) (.inl (b, b)) (.inl (c, c)) 32 34 36 40 44 48) rc (rdD (.inl (g_54, g_54)) (.inl (n, n)) (.inl (g_55, g_55)) (.inl (w, w)) (.inr [27])) (xB 400 T) ya (xD 14 G_58) yc (xD 4 SA) ye (xD 14 G_37) rC rD wd1 wd2 wd3 wd4 ws1 ws2 ws3 ws4 wi1 wi2 wi3 wi4) H := hH
    have hG_58 : ivP 14 (-2147483648) 2147483647 G_58 := (ivP_updE hRA eG_58 (i32b _))
    refine lv_aload_n F.1 F.2.1 dX3_readRight_106 rfl (lv_at hl 1 rfl) ?_
    refine tGetR (j := 5) F hK hH (tyb ha0 (all1 rfl)) rfl (all1 rfl) clX3 (by decide) wd_5_18 dX3_readRight_107 (fun q_59 hq_59 _ => ?_)
    refine tGetR (j := 10) F hK hH (tyb hq_59 (all1 rfl)) rfl (all1 rfl) clX2 (by decide) wd_13_10 dX3_readRight_110 (fun q_60 hq_60 _ => ?_)
    refine lv_iload_n F.1 F.2.1 dX3_readRight_113 rfl (lv_at hl 0 rfl) ?_
    refine lv_aload_n F.1 F.2.1 dX3_readRight_114 rfl (lv_at hl 1 rfl) ?_
    refine va_ldcS F.1 F.2.1 F.2.2.2.2.1 (hO.1 5 _ rfl).1 dX3_readRight_115 ?_
    refine tVi (b := a0) (As := [.ref (eX E 5)]) (rest := [.int z_2, .ref q_60]) F hK hN hO (c_X3_isNext E dA dB rA (riverD (.inl (a, a)) (.inl (b, b)) (.inl (c, c)) 32 34 36 40 44 48) rc ya (xD 14 G_58) yc (xD 4 SA) ye (xD 14 G_37) rC rD wd1 wd2 wd3 wd4 ws1 ws2 ws3 ws4 wi1 wi2 wi3 wi4 ((.inl (w, w))) (.inr [27]) n g_54 g_55 T a0 5 3 ha0 (strAt 5 rfl) (by omega) (by omega) (by omega) hT) mv_X3_isNext wd_9_22 ⟨Nat.le_of_ble_eq_true rfl, Nat.le_of_ble_eq_true rfl⟩ ⟨Nat.le_of_ble_eq_true rfl, Nat.le_of_ble_eq_true rfl⟩ hH hS (tRecv hK hH (tyb ha0 (all1 rfl)) clX3) rfl hl.1 (Nat.le_of_ble_eq_true rfl) dX3_readRight_117 (fun z_61 H locs hq hS => ?_)
    obtain ⟨g_62, hg_62, f_63, f_64, hH⟩ := hq
    have hH : TH E (tbC dA dB rA (riverD (.inl (a, a)) (.inl (b, b)) (.inl (c, c)) 32 34 36 40 44 48) rc (rdD (.inl (g_62, g_62)) (.inl (n, n)) (.inl (g_55, g_55)) (.inl (w, w)) (.inr [27])) (xB 400 T) ya (xD 14 G_58) yc (xD 4 SA) ye (xD 14 G_37) rC rD wd1 wd2 wd3 wd4 ws1 ws2 ws3 ws4 wi1 wi2 wi3 wi4) H := hH
    refine z_eq (tgt := 133) F dX3_readRight_120 (by decide) (fun c_65 => ?_) (fun c_65 => ?_)
    · skip
      have r_66 : 0 ≤ z_61.toInt ∧ z_61.toInt ≤ 0 := by have h9_ := f_63; omega
      refine lv_iconst (v := 0) F.1 F.2.1 dX3_readRight_133 (by decide) ?_
      refine topK (a := 0) (by decide) (fun k_68 hk_68 => ?_)
      refine tIastB F hK hH hS (tyb hq_60 (all1 rfl)) (ixb (n := 14) r_5 rfl rfl) (wkb (eqb hk_68) rfl rfl) dX3_readRight_134 (fun H locs hH hS => ?_)
      refine lv_aload_n F.1 F.2.1 dX3_readRight_135 rfl (lv_at hl 1 rfl) ?_
      refine va_ldcS F.1 F.2.1 F.2.2.2.2.1 (hO.1 6 _ rfl).1 dX3_readRight_136 ?_
      refine tVi (b := a0) (As := [.ref (eX E 6)]) (rest := []) F hK hN hO (c_X3_isNext E dA dB rA (riverD (.inl (a, a)) (.inl (b, b)) (.inl (c, c)) 32 34 36 40 44 48) rc ya (xD 14 G_58) yc (xD 4 SA) ye (xD 14 G_37) rC rD wd1 wd2 wd3 wd4 ws1 ws2 ws3 ws4 wi1 wi2 wi3 wi4 ((.inl (w, w))) (.inr [27]) n g_62 g_55 T a0 6 4 ha0 (strAt 6 rfl) (by omega) (by omega) (by omega) hT) mv_X3_isNext wd_9_22 ⟨Nat.le_of_ble_eq_true rfl, Nat.le_of_ble_eq_true rfl⟩ ⟨Nat.le_of_ble_eq_true rfl, Nat.le_of_ble_eq_true rfl⟩ hH hS (tRecv hK hH (tyb ha0 (all1 rfl)) clX3) rfl hl.1 (Nat.le_of_ble_eq_true rfl) dX3_readRight_138 (fun z_69 H locs hq hS => ?_)
      obtain ⟨g_70, hg_70, f_71, f_72, hH⟩ := hq
      have hH : TH E (tbC dA dB rA (riverD (.inl (a, a)) (.inl (b, b)) (.inl (c, c)) 32 34 36 40 44 48) rc (rdD (.inl (g_70, g_70)) (.inl (n, n)) (.inl (g_55, g_55)) (.inl (w, w)) (.inr [27])) (xB 400 T) ya (xD 14 G_58) yc (xD 4 SA) ye (xD 14 G_37) rC rD wd1 wd2 wd3 wd4 ws1 ws2 ws3 ws4 wi1 wi2 wi3 wi4) H := hH
      refine lv_istore_n (lv' := [(3, .int z_69), (2, .int z_2), (0, .ref a0), (1, .int a1)]) F.1 F.2.1 dX3_readRight_141 rfl hl (by decide) rfl (fun ls hl => ?_)
      refine lv_aload_n F.1 F.2.1 dX3_readRight_142 rfl (lv_at hl 2 rfl) ?_
      refine tGetR (j := 5) F hK hH (tyb ha0 (all1 rfl)) rfl (all1 rfl) clX3 (by decide) wd_5_18 dX3_readRight_143 (fun q_73 hq_73 _ => ?_)
      refine tGetR (j := 11) F hK hH (tyb hq_73 (all1 rfl)) rfl (all1 rfl) clX2 (by decide) wd_13_12 dX3_readRight_146 (fun q_74 hq_74 _ => ?_)
      refine lv_iload_n F.1 F.2.1 dX3_readRight_149 rfl (lv_at hl 1 rfl) ?_
      refine lv_iload_n F.1 F.2.1 dX3_readRight_150 rfl (lv_at hl 0 rfl) ?_
      refine z_eq (tgt := 161) F dX3_readRight_151 (by decide) (fun c_75 => ?_) (fun c_75 => ?_)
      · skip
        have r_76 : 0 ≤ z_69.toInt ∧ z_69.toInt ≤ 0 := by have h9_ := f_71; omega
        refine lv_bipush (v := (-2)) F.1 F.2.1 dX3_readRight_161 (by decide) ?_
        refine topK (a := (-2)) (by decide) (fun k_78 hk_78 => ?_)
        refine tIastB F hK hH hS (tyb hq_74 (all1 rfl)) (ixb (n := 14) r_5 rfl rfl) (wkb (eqb hk_78) rfl rfl) dX3_readRight_163 (fun H locs hH hS => ?_)
        refine lv_aload_n F.1 F.2.1 dX3_readRight_164 rfl (lv_at hl 2 rfl) ?_
        refine tGetR (j := 5) F hK hH (tyb ha0 (all1 rfl)) rfl (all1 rfl) clX3 (by decide) wd_5_18 dX3_readRight_165 (fun q_79 hq_79 _ => ?_)
        refine tGetR (j := 12) F hK hH (tyb hq_79 (all1 rfl)) rfl (all1 rfl) clX2 (by decide) wd_13_13 dX3_readRight_168 (fun q_80 hq_80 _ => ?_)
        refine lv_iload_n F.1 F.2.1 dX3_readRight_171 rfl (lv_at hl 1 rfl) ?_
        refine lv_iload_n F.1 F.2.1 dX3_readRight_172 rfl (lv_at hl 0 rfl) ?_
        refine z_eq (tgt := 186) F dX3_readRight_173 (by decide) (fun c_81 => ?_) (fun c_81 => absurd c_81 (by omega))
        refine lv_iconst (v := 0) F.1 F.2.1 dX3_readRight_186 (by decide) ?_
        refine topK (a := 0) (by decide) (fun k_82 hk_82 => ?_)
        refine tIastB F hK hH hS (tyb hq_80 (all1 rfl)) (ixb (n := 14) r_5 rfl rfl) (wkb (eqb hk_82) rfl rfl) dX3_readRight_187 (fun H locs hH hS => ?_)
        refine lv_aload_n F.1 F.2.1 dX3_readRight_188 rfl (lv_at hl 2 rfl) ?_
        refine tGetR (j := 5) F hK hH (tyb ha0 (all1 rfl)) rfl (all1 rfl) clX3 (by decide) wd_5_18 dX3_readRight_189 (fun q_83 hq_83 _ => ?_)
        refine tGetR (j := 13) F hK hH (tyb hq_83 (all1 rfl)) rfl (all1 rfl) clX2 (by decide) wd_13_14 dX3_readRight_192 (fun q_84 hq_84 _ => ?_)
        refine lv_iload_n F.1 F.2.1 dX3_readRight_195 rfl (lv_at hl 1 rfl) ?_
        refine lv_iload_n F.1 F.2.1 dX3_readRight_196 rfl (lv_at hl 0 rfl) ?_
        refine z_eq (tgt := 210) F dX3_readRight_197 (by decide) (fun c_85 => ?_) (fun c_85 => absurd c_85 (by omega))
        refine lv_iconst (v := 0) F.1 F.2.1 dX3_readRight_210 (by decide) ?_
        refine topK (a := 0) (by decide) (fun k_86 hk_86 => ?_)
        refine tIastB F hK hH hS (tyb hq_84 (all1 rfl)) (ixb (n := 14) r_5 rfl rfl) (wkb (eqb hk_86) rfl rfl) dX3_readRight_211 (fun H locs hH hS => ?_)
        refine lv_aload_n F.1 F.2.1 dX3_readRight_212 rfl (lv_at hl 2 rfl) ?_
        refine tGetR (j := 5) F hK hH (tyb ha0 (all1 rfl)) rfl (all1 rfl) clX3 (by decide) wd_5_18 dX3_readRight_213 (fun q_87 hq_87 _ => ?_)
        refine lv_dup F.1 F.2.1 dX3_readRight_216 rfl ?_
        refine tGetI (j := 4) F hK hH (tyb hq_87 (all1 rfl)) rfl clX2 (by decide) wd_13_4 dX3_readRight_217 (fun z_88 hz_88 => ?_)
        have ez_88 : 0 ≤ z_88.toInt ∧ z_88.toInt ≤ 13 := by omega
        refine lv_iconst (v := 1) F.1 F.2.1 dX3_readRight_220 (by decide) ?_
        refine topK (a := 1) (by decide) (fun k_89 hk_89 => ?_)
        refine tAdd (lo := 1) (hi := 14) F dX3_readRight_221 ez_88 (eqb hk_89) rfl (fun z_90 hz_90 => ?_)
        obtain ⟨g_91, hg_91⟩ : ∃ y : Int, z_90.toInt = y := ⟨_, rfl⟩
        have bg_91 : 1 ≤ g_91 ∧ g_91 ≤ 14 := by rw [← hg_91]; exact hz_90.2
        refine tPutG (j := 4) (t := 27) (fd := (.inl (g_91, g_91))) F hK hH hS (List.mem_singleton.mp hq_87) (by decide) rfl rfl (fdI (by omega)) (TB1 := (tbC dA dB rA (riverD (.inl (a, a)) (.inl (g_91, g_91)) (.inl (c, c)) 32 34 36 40 44 48) rc (rdD (.inl (g_70, g_70)) (.inl (n, n)) (.inl (g_55, g_55)) (.inl (w, w)) (.inr [27])) (xB 400 T) ya (xD 14 G_58) yc (xD 4 SA) ye (xD 14 G_37) rC rD wd1 wd2 wd3 wd4 ws1 ws2 ws3 ws4 wi1 wi2 wi3 wi4)) rfl clX2 (by decide) wd_13_4 rfl rfl rfl rfl dX3_readRight_222 (fun H locs hH hS => ?_)
        exact txV F hS dX3_readRight_225 (⟨g_70, (by omega), g_55, (by omega), g_91, (by omega), G_58, ⟨hG_58, (right_n hg_10.2.2 hg_11.2.2 hg_19.2.2 hg_20.2.2 hg_31.2.2 hg_32.2.2 hg_45.2.2 hg_46.2.2 hg_54.2.2 hg_55.2.2 f_57 f_64 hg_62.2.2 f_72 hg_70.2.2 (updR eG_58 (by omega) rfl) (by omega) (by omega) (by omega) (by omega))⟩, (TH.unpin (t := 36) (TB1 := (tbC dA dB rA (riverD (.inl (a, a)) (.inl (g_91, g_91)) (.inl (c, c)) 32 34 36 40 44 48) rc (rdD (.inl (g_70, g_70)) (.inl (n, n)) (.inl (g_55, g_55)) (.inl (w, w)) (.inr [27])) (xB 400 T) ya (xD 14 G_58) yc (xD 4 SA) ye A14F rC rD wd1 wd2 wd3 wd4 ws1 ws2 ws3 ws4 wi1 wi2 wi3 wi4)) hH rfl hG_37 rfl)⟩)
      · skip
        have r_77 : 1 ≤ z_69.toInt ∧ z_69.toInt ≤ 1 := by have h9_ := f_71; omega
        refine lv_aload_n F.1 F.2.1 dX3_readRight_154 rfl (lv_at hl 2 rfl) ?_
        refine tVi (b := a0) (As := []) (rest := [.int z_2, .ref q_74]) F hK hN hO (c_X3_readReachNumber_2 E dA dB rA rc ya yc ye (xD 14 G_37) rC rD wd1 wd2 wd3 wd4 ws1 ws2 ws3 ws4 wi1 wi2 wi3 wi4 a b c n g_70 g_55 w T G_58 SA a0 ha0 (by omega) (by omega) (by omega) (by omega) (by omega) (by omega) (by omega) hT hG_58 hSA) mv_X3_readReachNumber wd_12_15 ⟨Nat.le_of_ble_eq_true rfl, Nat.le_of_ble_eq_true rfl⟩ ⟨Nat.le_of_ble_eq_true rfl, Nat.le_of_ble_eq_true rfl⟩ hH hS (tRecv hK hH (tyb ha0 (all1 rfl)) clX3) rfl hl.1 (Nat.le_of_ble_eq_true rfl) dX3_readRight_155 (fun z_92 H locs hq hS => ?_)
        obtain ⟨g_93, hg_93, g_94, hg_94, f_95, f_96, hH⟩ := hq
        have hH : TH E (tbC dA dB rA (riverD (.inl (a, a)) (.inl (b, b)) (.inl (c, c)) 32 34 36 40 44 48) rc (rdD (.inl (g_93, g_93)) (.inl (n, n)) (.inl (g_94, g_94)) (.inl (w, w)) (.inr [27])) (xB 400 T) ya (xD 14 G_58) yc (xD 4 SA) ye (xD 14 G_37) rC rD wd1 wd2 wd3 wd4 ws1 ws2 ws3 ws4 wi1 wi2 wi3 wi4) H := hH
        refine lv_goto (tgt := 163) F.1 F.2.1 dX3_readRight_158 (by decide) ?_
        refine tIastB F hK hH hS (tyb hq_74 (all1 rfl)) (ixb (n := 14) r_5 rfl rfl) (wkb f_95 rfl rfl) dX3_readRight_163 (fun H locs hH hS => ?_)
        refine lv_aload_n F.1 F.2.1 dX3_readRight_164 rfl (lv_at hl 2 rfl) ?_
        refine tGetR (j := 5) F hK hH (tyb ha0 (all1 rfl)) rfl (all1 rfl) clX3 (by decide) wd_5_18 dX3_readRight_165 (fun q_97 hq_97 _ => ?_)
        refine tGetR (j := 12) F hK hH (tyb hq_97 (all1 rfl)) rfl (all1 rfl) clX2 (by decide) wd_13_13 dX3_readRight_168 (fun q_98 hq_98 _ => ?_)
        refine lv_iload_n F.1 F.2.1 dX3_readRight_171 rfl (lv_at hl 1 rfl) ?_
        refine lv_iload_n F.1 F.2.1 dX3_readRight_172 rfl (lv_at hl 0 rfl) ?_
        refine z_eq (tgt := 186) F dX3_readRight_173 (by decide) (fun c_99 => absurd c_99 (by omega)) (fun c_99 => ?_)
        refine lv_aload_n F.1 F.2.1 dX3_readRight_176 rfl (lv_at hl 2 rfl) ?_
        refine lv_iconst (v := 0) F.1 F.2.1 dX3_readRight_177 (by decide) ?_
        refine topK (a := 0) (by decide) (fun k_100 hk_100 => ?_)
        refine lv_bipush (v := 100) F.1 F.2.1 dX3_readRight_178 (by decide) ?_
        refine topK (a := 100) (by decide) (fun k_101 hk_101 => ?_)
        refine tVi (b := a0) (As := [.int k_100, .int k_101]) (rest := [.int z_2, .ref q_98]) F hK hN hO (c_X3_readNumber E dA dB rA (riverD (.inl (a, a)) (.inl (b, b)) (.inl (c, c)) 32 34 36 40 44 48) rc ya (xD 14 G_58) yc (xD 4 SA) ye (xD 14 G_37) rC rD wd1 wd2 wd3 wd4 ws1 ws2 ws3 ws4 wi1 wi2 wi3 wi4 ((.inl (w, w))) (.inr [27]) n g_93 g_94 T 0 100 a0 k_100 k_101 ha0 (by omega) (by omega) (by omega) hT (by omega) (by omega)) mv_X3_readNumber wd_12_19 ⟨Nat.le_of_ble_eq_true rfl, Nat.le_of_ble_eq_true rfl⟩ ⟨Nat.le_of_ble_eq_true rfl, Nat.le_of_ble_eq_true rfl⟩ hH hS (tRecv hK hH (tyb ha0 (all1 rfl)) clX3) rfl hl.1 (Nat.le_of_ble_eq_true rfl) dX3_readRight_180 (fun z_102 H locs hq hS => ?_)
        obtain ⟨g_103, hg_103, g_104, hg_104, f_105, f_106, f_107, f_108, hH⟩ := hq
        have hH : TH E (tbC dA dB rA (riverD (.inl (a, a)) (.inl (b, b)) (.inl (c, c)) 32 34 36 40 44 48) rc (rdD (.inl (g_103, g_103)) (.inl (n, n)) (.inl (g_104, g_104)) (.inl (w, w)) (.inr [27])) (xB 400 T) ya (xD 14 G_58) yc (xD 4 SA) ye (xD 14 G_37) rC rD wd1 wd2 wd3 wd4 ws1 ws2 ws3 ws4 wi1 wi2 wi3 wi4) H := hH
        have ez_102 : 0 ≤ z_102.toInt ∧ z_102.toInt ≤ 100 := by omega
        refine lv_goto (tgt := 187) F.1 F.2.1 dX3_readRight_183 (by decide) ?_
        refine tIastB F hK hH hS (tyb hq_98 (all1 rfl)) (ixb (n := 14) r_5 rfl rfl) (wkb ez_102 rfl rfl) dX3_readRight_187 (fun H locs hH hS => ?_)
        refine lv_aload_n F.1 F.2.1 dX3_readRight_188 rfl (lv_at hl 2 rfl) ?_
        refine tGetR (j := 5) F hK hH (tyb ha0 (all1 rfl)) rfl (all1 rfl) clX3 (by decide) wd_5_18 dX3_readRight_189 (fun q_109 hq_109 _ => ?_)
        refine tGetR (j := 13) F hK hH (tyb hq_109 (all1 rfl)) rfl (all1 rfl) clX2 (by decide) wd_13_14 dX3_readRight_192 (fun q_110 hq_110 _ => ?_)
        refine lv_iload_n F.1 F.2.1 dX3_readRight_195 rfl (lv_at hl 1 rfl) ?_
        refine lv_iload_n F.1 F.2.1 dX3_readRight_196 rfl (lv_at hl 0 rfl) ?_
        refine z_eq (tgt := 210) F dX3_readRight_197 (by decide) (fun c_111 => absurd c_111 (by omega)) (fun c_111 => ?_)
        refine lv_aload_n F.1 F.2.1 dX3_readRight_200 rfl (lv_at hl 2 rfl) ?_
        refine lv_iconst (v := 1) F.1 F.2.1 dX3_readRight_201 (by decide) ?_
        refine topK (a := 1) (by decide) (fun k_112 hk_112 => ?_)
        refine lv_bipush (v := 30) F.1 F.2.1 dX3_readRight_202 (by decide) ?_
        refine topK (a := 30) (by decide) (fun k_113 hk_113 => ?_)
        refine tVi (b := a0) (As := [.int k_112, .int k_113]) (rest := [.int z_2, .ref q_110]) F hK hN hO (c_X3_readNumber E dA dB rA (riverD (.inl (a, a)) (.inl (b, b)) (.inl (c, c)) 32 34 36 40 44 48) rc ya (xD 14 G_58) yc (xD 4 SA) ye (xD 14 G_37) rC rD wd1 wd2 wd3 wd4 ws1 ws2 ws3 ws4 wi1 wi2 wi3 wi4 ((.inl (w, w))) (.inr [27]) n g_103 g_104 T 1 30 a0 k_112 k_113 ha0 (by omega) (by omega) (by omega) hT (by omega) (by omega)) mv_X3_readNumber wd_12_19 ⟨Nat.le_of_ble_eq_true rfl, Nat.le_of_ble_eq_true rfl⟩ ⟨Nat.le_of_ble_eq_true rfl, Nat.le_of_ble_eq_true rfl⟩ hH hS (tRecv hK hH (tyb ha0 (all1 rfl)) clX3) rfl hl.1 (Nat.le_of_ble_eq_true rfl) dX3_readRight_204 (fun z_114 H locs hq hS => ?_)
        obtain ⟨g_115, hg_115, g_116, hg_116, f_117, f_118, f_119, f_120, hH⟩ := hq
        have hH : TH E (tbC dA dB rA (riverD (.inl (a, a)) (.inl (b, b)) (.inl (c, c)) 32 34 36 40 44 48) rc (rdD (.inl (g_115, g_115)) (.inl (n, n)) (.inl (g_116, g_116)) (.inl (w, w)) (.inr [27])) (xB 400 T) ya (xD 14 G_58) yc (xD 4 SA) ye (xD 14 G_37) rC rD wd1 wd2 wd3 wd4 ws1 ws2 ws3 ws4 wi1 wi2 wi3 wi4) H := hH
        have ez_114 : 1 ≤ z_114.toInt ∧ z_114.toInt ≤ 30 := by omega
        refine lv_goto (tgt := 211) F.1 F.2.1 dX3_readRight_207 (by decide) ?_
        refine tIastB F hK hH hS (tyb hq_110 (all1 rfl)) (ixb (n := 14) r_5 rfl rfl) (wkb ez_114 rfl rfl) dX3_readRight_211 (fun H locs hH hS => ?_)
        refine lv_aload_n F.1 F.2.1 dX3_readRight_212 rfl (lv_at hl 2 rfl) ?_
        refine tGetR (j := 5) F hK hH (tyb ha0 (all1 rfl)) rfl (all1 rfl) clX3 (by decide) wd_5_18 dX3_readRight_213 (fun q_121 hq_121 _ => ?_)
        refine lv_dup F.1 F.2.1 dX3_readRight_216 rfl ?_
        refine tGetI (j := 4) F hK hH (tyb hq_121 (all1 rfl)) rfl clX2 (by decide) wd_13_4 dX3_readRight_217 (fun z_122 hz_122 => ?_)
        have ez_122 : 0 ≤ z_122.toInt ∧ z_122.toInt ≤ 13 := by omega
        refine lv_iconst (v := 1) F.1 F.2.1 dX3_readRight_220 (by decide) ?_
        refine topK (a := 1) (by decide) (fun k_123 hk_123 => ?_)
        refine tAdd (lo := 1) (hi := 14) F dX3_readRight_221 ez_122 (eqb hk_123) rfl (fun z_124 hz_124 => ?_)
        obtain ⟨g_125, hg_125⟩ : ∃ y : Int, z_124.toInt = y := ⟨_, rfl⟩
        have bg_125 : 1 ≤ g_125 ∧ g_125 ≤ 14 := by rw [← hg_125]; exact hz_124.2
        refine tPutG (j := 4) (t := 27) (fd := (.inl (g_125, g_125))) F hK hH hS (List.mem_singleton.mp hq_121) (by decide) rfl rfl (fdI (by omega)) (TB1 := (tbC dA dB rA (riverD (.inl (a, a)) (.inl (g_125, g_125)) (.inl (c, c)) 32 34 36 40 44 48) rc (rdD (.inl (g_115, g_115)) (.inl (n, n)) (.inl (g_116, g_116)) (.inl (w, w)) (.inr [27])) (xB 400 T) ya (xD 14 G_58) yc (xD 4 SA) ye (xD 14 G_37) rC rD wd1 wd2 wd3 wd4 ws1 ws2 ws3 ws4 wi1 wi2 wi3 wi4)) rfl clX2 (by decide) wd_13_4 rfl rfl rfl rfl dX3_readRight_222 (fun H locs hH hS => ?_)
        exact txV F hS dX3_readRight_225 (⟨g_115, (by omega), g_116, (by omega), g_125, (by omega), G_58, ⟨hG_58, (right_y hg_10.2.2 hg_11.2.2 hg_19.2.2 hg_20.2.2 hg_31.2.2 hg_32.2.2 hg_45.2.2 hg_46.2.2 hg_54.2.2 hg_55.2.2 f_57 f_64 hg_62.2.2 f_72 hg_70.2.2 (updR eG_58 (by omega) rfl) hg_93.2.2 hg_94.2.2 hg_103.2.2 hg_104.2.2 hg_115.2.2 hg_116.2.2 (by omega) (by omega) (by omega) (by omega))⟩, (TH.unpin (t := 36) (TB1 := (tbC dA dB rA (riverD (.inl (a, a)) (.inl (g_125, g_125)) (.inl (c, c)) 32 34 36 40 44 48) rc (rdD (.inl (g_115, g_115)) (.inl (n, n)) (.inl (g_116, g_116)) (.inl (w, w)) (.inr [27])) (xB 400 T) ya (xD 14 G_58) yc (xD 4 SA) ye A14F rC rD wd1 wd2 wd3 wd4 ws1 ws2 ws3 ws4 wi1 wi2 wi3 wi4)) hH rfl hG_37 rfl)⟩)
    · skip
      have r_67 : 1 ≤ z_61.toInt ∧ z_61.toInt ≤ 1 := by have h9_ := f_63; omega
      refine lv_aload_n F.1 F.2.1 dX3_readRight_123 rfl (lv_at hl 1 rfl) ?_
      refine lv_iconst (v := 1) F.1 F.2.1 dX3_readRight_124 (by decide) ?_
      refine topK (a := 1) (by decide) (fun k_126 hk_126 => ?_)
      refine lv_ldc (own := RX3) (v := 999999) F.1 F.2.1 F.2.2.2.2.1 (F.2.2.2.2.2.2.1 _ wd_13_11) dX3_readRight_125 ?_
      refine topK (a := 999999) (by decide) (fun k_127 hk_127 => ?_)
      refine tVi (b := a0) (As := [.int k_126, .int k_127]) (rest := [.int z_2, .ref q_60]) F hK hN hO (c_X3_readNumber E dA dB rA (riverD (.inl (a, a)) (.inl (b, b)) (.inl (c, c)) 32 34 36 40 44 48) rc ya (xD 14 G_58) yc (xD 4 SA) ye (xD 14 G_37) rC rD wd1 wd2 wd3 wd4 ws1 ws2 ws3 ws4 wi1 wi2 wi3 wi4 ((.inl (w, w))) (.inr [27]) n g_62 g_55 T 1 999999 a0 k_126 k_127 ha0 (by omega) (by omega) (by omega) hT (by omega) (by omega)) mv_X3_readNumber wd_12_19 ⟨Nat.le_of_ble_eq_true rfl, Nat.le_of_ble_eq_true rfl⟩ ⟨Nat.le_of_ble_eq_true rfl, Nat.le_of_ble_eq_true rfl⟩ hH hS (tRecv hK hH (tyb ha0 (all1 rfl)) clX3) rfl hl.1 (Nat.le_of_ble_eq_true rfl) dX3_readRight_127 (fun z_128 H locs hq hS => ?_)
      obtain ⟨g_129, hg_129, g_130, hg_130, f_131, f_132, f_133, f_134, hH⟩ := hq
      have hH : TH E (tbC dA dB rA (riverD (.inl (a, a)) (.inl (b, b)) (.inl (c, c)) 32 34 36 40 44 48) rc (rdD (.inl (g_129, g_129)) (.inl (n, n)) (.inl (g_130, g_130)) (.inl (w, w)) (.inr [27])) (xB 400 T) ya (xD 14 G_58) yc (xD 4 SA) ye (xD 14 G_37) rC rD wd1 wd2 wd3 wd4 ws1 ws2 ws3 ws4 wi1 wi2 wi3 wi4) H := hH
      have ez_128 : 1 ≤ z_128.toInt ∧ z_128.toInt ≤ 999999 := by omega
      refine lv_goto (tgt := 134) F.1 F.2.1 dX3_readRight_130 (by decide) ?_
      refine tIastB F hK hH hS (tyb hq_60 (all1 rfl)) (ixb (n := 14) r_5 rfl rfl) (wkb ez_128 rfl rfl) dX3_readRight_134 (fun H locs hH hS => ?_)
      refine lv_aload_n F.1 F.2.1 dX3_readRight_135 rfl (lv_at hl 1 rfl) ?_
      refine va_ldcS F.1 F.2.1 F.2.2.2.2.1 (hO.1 6 _ rfl).1 dX3_readRight_136 ?_
      refine tVi (b := a0) (As := [.ref (eX E 6)]) (rest := []) F hK hN hO (c_X3_isNext E dA dB rA (riverD (.inl (a, a)) (.inl (b, b)) (.inl (c, c)) 32 34 36 40 44 48) rc ya (xD 14 G_58) yc (xD 4 SA) ye (xD 14 G_37) rC rD wd1 wd2 wd3 wd4 ws1 ws2 ws3 ws4 wi1 wi2 wi3 wi4 ((.inl (w, w))) (.inr [27]) n g_129 g_130 T a0 6 4 ha0 (strAt 6 rfl) (by omega) (by omega) (by omega) hT) mv_X3_isNext wd_9_22 ⟨Nat.le_of_ble_eq_true rfl, Nat.le_of_ble_eq_true rfl⟩ ⟨Nat.le_of_ble_eq_true rfl, Nat.le_of_ble_eq_true rfl⟩ hH hS (tRecv hK hH (tyb ha0 (all1 rfl)) clX3) rfl hl.1 (Nat.le_of_ble_eq_true rfl) dX3_readRight_138 (fun z_135 H locs hq hS => ?_)
      obtain ⟨g_136, hg_136, f_137, f_138, hH⟩ := hq
      have hH : TH E (tbC dA dB rA (riverD (.inl (a, a)) (.inl (b, b)) (.inl (c, c)) 32 34 36 40 44 48) rc (rdD (.inl (g_136, g_136)) (.inl (n, n)) (.inl (g_130, g_130)) (.inl (w, w)) (.inr [27])) (xB 400 T) ya (xD 14 G_58) yc (xD 4 SA) ye (xD 14 G_37) rC rD wd1 wd2 wd3 wd4 ws1 ws2 ws3 ws4 wi1 wi2 wi3 wi4) H := hH
      refine lv_istore_n (lv' := [(3, .int z_135), (2, .int z_2), (0, .ref a0), (1, .int a1)]) F.1 F.2.1 dX3_readRight_141 rfl hl (by decide) rfl (fun ls hl => ?_)
      refine lv_aload_n F.1 F.2.1 dX3_readRight_142 rfl (lv_at hl 2 rfl) ?_
      refine tGetR (j := 5) F hK hH (tyb ha0 (all1 rfl)) rfl (all1 rfl) clX3 (by decide) wd_5_18 dX3_readRight_143 (fun q_139 hq_139 _ => ?_)
      refine tGetR (j := 11) F hK hH (tyb hq_139 (all1 rfl)) rfl (all1 rfl) clX2 (by decide) wd_13_12 dX3_readRight_146 (fun q_140 hq_140 _ => ?_)
      refine lv_iload_n F.1 F.2.1 dX3_readRight_149 rfl (lv_at hl 1 rfl) ?_
      refine lv_iload_n F.1 F.2.1 dX3_readRight_150 rfl (lv_at hl 0 rfl) ?_
      refine z_eq (tgt := 161) F dX3_readRight_151 (by decide) (fun c_141 => ?_) (fun c_141 => ?_)
      · skip
        have r_142 : 0 ≤ z_135.toInt ∧ z_135.toInt ≤ 0 := by have h9_ := f_137; omega
        refine lv_bipush (v := (-2)) F.1 F.2.1 dX3_readRight_161 (by decide) ?_
        refine topK (a := (-2)) (by decide) (fun k_144 hk_144 => ?_)
        refine tIastB F hK hH hS (tyb hq_140 (all1 rfl)) (ixb (n := 14) r_5 rfl rfl) (wkb (eqb hk_144) rfl rfl) dX3_readRight_163 (fun H locs hH hS => ?_)
        refine lv_aload_n F.1 F.2.1 dX3_readRight_164 rfl (lv_at hl 2 rfl) ?_
        refine tGetR (j := 5) F hK hH (tyb ha0 (all1 rfl)) rfl (all1 rfl) clX3 (by decide) wd_5_18 dX3_readRight_165 (fun q_145 hq_145 _ => ?_)
        refine tGetR (j := 12) F hK hH (tyb hq_145 (all1 rfl)) rfl (all1 rfl) clX2 (by decide) wd_13_13 dX3_readRight_168 (fun q_146 hq_146 _ => ?_)
        refine lv_iload_n F.1 F.2.1 dX3_readRight_171 rfl (lv_at hl 1 rfl) ?_
        refine lv_iload_n F.1 F.2.1 dX3_readRight_172 rfl (lv_at hl 0 rfl) ?_
        refine z_eq (tgt := 186) F dX3_readRight_173 (by decide) (fun c_147 => ?_) (fun c_147 => absurd c_147 (by omega))
        refine lv_iconst (v := 0) F.1 F.2.1 dX3_readRight_186 (by decide) ?_
        refine topK (a := 0) (by decide) (fun k_148 hk_148 => ?_)
        refine tIastB F hK hH hS (tyb hq_146 (all1 rfl)) (ixb (n := 14) r_5 rfl rfl) (wkb (eqb hk_148) rfl rfl) dX3_readRight_187 (fun H locs hH hS => ?_)
        refine lv_aload_n F.1 F.2.1 dX3_readRight_188 rfl (lv_at hl 2 rfl) ?_
        refine tGetR (j := 5) F hK hH (tyb ha0 (all1 rfl)) rfl (all1 rfl) clX3 (by decide) wd_5_18 dX3_readRight_189 (fun q_149 hq_149 _ => ?_)
        refine tGetR (j := 13) F hK hH (tyb hq_149 (all1 rfl)) rfl (all1 rfl) clX2 (by decide) wd_13_14 dX3_readRight_192 (fun q_150 hq_150 _ => ?_)
        refine lv_iload_n F.1 F.2.1 dX3_readRight_195 rfl (lv_at hl 1 rfl) ?_
        refine lv_iload_n F.1 F.2.1 dX3_readRight_196 rfl (lv_at hl 0 rfl) ?_
        refine z_eq (tgt := 210) F dX3_readRight_197 (by decide) (fun c_151 => ?_) (fun c_151 => absurd c_151 (by omega))
        refine lv_iconst (v := 0) F.1 F.2.1 dX3_readRight_210 (by decide) ?_
        refine topK (a := 0) (by decide) (fun k_152 hk_152 => ?_)
        refine tIastB F hK hH hS (tyb hq_150 (all1 rfl)) (ixb (n := 14) r_5 rfl rfl) (wkb (eqb hk_152) rfl rfl) dX3_readRight_211 (fun H locs hH hS => ?_)
        refine lv_aload_n F.1 F.2.1 dX3_readRight_212 rfl (lv_at hl 2 rfl) ?_
        refine tGetR (j := 5) F hK hH (tyb ha0 (all1 rfl)) rfl (all1 rfl) clX3 (by decide) wd_5_18 dX3_readRight_213 (fun q_153 hq_153 _ => ?_)
        refine lv_dup F.1 F.2.1 dX3_readRight_216 rfl ?_
        refine tGetI (j := 4) F hK hH (tyb hq_153 (all1 rfl)) rfl clX2 (by decide) wd_13_4 dX3_readRight_217 (fun z_154 hz_154 => ?_)
        have ez_154 : 0 ≤ z_154.toInt ∧ z_154.toInt ≤ 13 := by omega
        refine lv_iconst (v := 1) F.1 F.2.1 dX3_readRight_220 (by decide) ?_
        refine topK (a := 1) (by decide) (fun k_155 hk_155 => ?_)
        refine tAdd (lo := 1) (hi := 14) F dX3_readRight_221 ez_154 (eqb hk_155) rfl (fun z_156 hz_156 => ?_)
        obtain ⟨g_157, hg_157⟩ : ∃ y : Int, z_156.toInt = y := ⟨_, rfl⟩
        have bg_157 : 1 ≤ g_157 ∧ g_157 ≤ 14 := by rw [← hg_157]; exact hz_156.2
        refine tPutG (j := 4) (t := 27) (fd := (.inl (g_157, g_157))) F hK hH hS (List.mem_singleton.mp hq_153) (by decide) rfl rfl (fdI (by omega)) (TB1 := (tbC dA dB rA (riverD (.inl (a, a)) (.inl (g_157, g_157)) (.inl (c, c)) 32 34 36 40 44 48) rc (rdD (.inl (g_136, g_136)) (.inl (n, n)) (.inl (g_130, g_130)) (.inl (w, w)) (.inr [27])) (xB 400 T) ya (xD 14 G_58) yc (xD 4 SA) ye (xD 14 G_37) rC rD wd1 wd2 wd3 wd4 ws1 ws2 ws3 ws4 wi1 wi2 wi3 wi4)) rfl clX2 (by decide) wd_13_4 rfl rfl rfl rfl dX3_readRight_222 (fun H locs hH hS => ?_)
        exact txV F hS dX3_readRight_225 (⟨g_136, (by omega), g_130, (by omega), g_157, (by omega), G_58, ⟨hG_58, (right_n hg_10.2.2 hg_11.2.2 hg_19.2.2 hg_20.2.2 hg_31.2.2 hg_32.2.2 hg_45.2.2 hg_46.2.2 hg_54.2.2 hg_55.2.2 f_57 f_64 hg_62.2.2 f_138 hg_136.2.2 (updR eG_58 (by omega) rfl) (by omega) (by omega) (by omega) (by omega))⟩, (TH.unpin (t := 36) (TB1 := (tbC dA dB rA (riverD (.inl (a, a)) (.inl (g_157, g_157)) (.inl (c, c)) 32 34 36 40 44 48) rc (rdD (.inl (g_136, g_136)) (.inl (n, n)) (.inl (g_130, g_130)) (.inl (w, w)) (.inr [27])) (xB 400 T) ya (xD 14 G_58) yc (xD 4 SA) ye A14F rC rD wd1 wd2 wd3 wd4 ws1 ws2 ws3 ws4 wi1 wi2 wi3 wi4)) hH rfl hG_37 rfl)⟩)
      · skip
        have r_143 : 1 ≤ z_135.toInt ∧ z_135.toInt ≤ 1 := by have h9_ := f_137; omega
        refine lv_aload_n F.1 F.2.1 dX3_readRight_154 rfl (lv_at hl 2 rfl) ?_
        refine tVi (b := a0) (As := []) (rest := [.int z_2, .ref q_140]) F hK hN hO (c_X3_readReachNumber_2 E dA dB rA rc ya yc ye (xD 14 G_37) rC rD wd1 wd2 wd3 wd4 ws1 ws2 ws3 ws4 wi1 wi2 wi3 wi4 a b c n g_136 g_130 w T G_58 SA a0 ha0 (by omega) (by omega) (by omega) (by omega) (by omega) (by omega) (by omega) hT hG_58 hSA) mv_X3_readReachNumber wd_12_15 ⟨Nat.le_of_ble_eq_true rfl, Nat.le_of_ble_eq_true rfl⟩ ⟨Nat.le_of_ble_eq_true rfl, Nat.le_of_ble_eq_true rfl⟩ hH hS (tRecv hK hH (tyb ha0 (all1 rfl)) clX3) rfl hl.1 (Nat.le_of_ble_eq_true rfl) dX3_readRight_155 (fun z_158 H locs hq hS => ?_)
        obtain ⟨g_159, hg_159, g_160, hg_160, f_161, f_162, hH⟩ := hq
        have hH : TH E (tbC dA dB rA (riverD (.inl (a, a)) (.inl (b, b)) (.inl (c, c)) 32 34 36 40 44 48) rc (rdD (.inl (g_159, g_159)) (.inl (n, n)) (.inl (g_160, g_160)) (.inl (w, w)) (.inr [27])) (xB 400 T) ya (xD 14 G_58) yc (xD 4 SA) ye (xD 14 G_37) rC rD wd1 wd2 wd3 wd4 ws1 ws2 ws3 ws4 wi1 wi2 wi3 wi4) H := hH
        refine lv_goto (tgt := 163) F.1 F.2.1 dX3_readRight_158 (by decide) ?_
        refine tIastB F hK hH hS (tyb hq_140 (all1 rfl)) (ixb (n := 14) r_5 rfl rfl) (wkb f_161 rfl rfl) dX3_readRight_163 (fun H locs hH hS => ?_)
        refine lv_aload_n F.1 F.2.1 dX3_readRight_164 rfl (lv_at hl 2 rfl) ?_
        refine tGetR (j := 5) F hK hH (tyb ha0 (all1 rfl)) rfl (all1 rfl) clX3 (by decide) wd_5_18 dX3_readRight_165 (fun q_163 hq_163 _ => ?_)
        refine tGetR (j := 12) F hK hH (tyb hq_163 (all1 rfl)) rfl (all1 rfl) clX2 (by decide) wd_13_13 dX3_readRight_168 (fun q_164 hq_164 _ => ?_)
        refine lv_iload_n F.1 F.2.1 dX3_readRight_171 rfl (lv_at hl 1 rfl) ?_
        refine lv_iload_n F.1 F.2.1 dX3_readRight_172 rfl (lv_at hl 0 rfl) ?_
        refine z_eq (tgt := 186) F dX3_readRight_173 (by decide) (fun c_165 => absurd c_165 (by omega)) (fun c_165 => ?_)
        refine lv_aload_n F.1 F.2.1 dX3_readRight_176 rfl (lv_at hl 2 rfl) ?_
        refine lv_iconst (v := 0) F.1 F.2.1 dX3_readRight_177 (by decide) ?_
        refine topK (a := 0) (by decide) (fun k_166 hk_166 => ?_)
        refine lv_bipush (v := 100) F.1 F.2.1 dX3_readRight_178 (by decide) ?_
        refine topK (a := 100) (by decide) (fun k_167 hk_167 => ?_)
        refine tVi (b := a0) (As := [.int k_166, .int k_167]) (rest := [.int z_2, .ref q_164]) F hK hN hO (c_X3_readNumber E dA dB rA (riverD (.inl (a, a)) (.inl (b, b)) (.inl (c, c)) 32 34 36 40 44 48) rc ya (xD 14 G_58) yc (xD 4 SA) ye (xD 14 G_37) rC rD wd1 wd2 wd3 wd4 ws1 ws2 ws3 ws4 wi1 wi2 wi3 wi4 ((.inl (w, w))) (.inr [27]) n g_159 g_160 T 0 100 a0 k_166 k_167 ha0 (by omega) (by omega) (by omega) hT (by omega) (by omega)) mv_X3_readNumber wd_12_19 ⟨Nat.le_of_ble_eq_true rfl, Nat.le_of_ble_eq_true rfl⟩ ⟨Nat.le_of_ble_eq_true rfl, Nat.le_of_ble_eq_true rfl⟩ hH hS (tRecv hK hH (tyb ha0 (all1 rfl)) clX3) rfl hl.1 (Nat.le_of_ble_eq_true rfl) dX3_readRight_180 (fun z_168 H locs hq hS => ?_)
        obtain ⟨g_169, hg_169, g_170, hg_170, f_171, f_172, f_173, f_174, hH⟩ := hq
        have hH : TH E (tbC dA dB rA (riverD (.inl (a, a)) (.inl (b, b)) (.inl (c, c)) 32 34 36 40 44 48) rc (rdD (.inl (g_169, g_169)) (.inl (n, n)) (.inl (g_170, g_170)) (.inl (w, w)) (.inr [27])) (xB 400 T) ya (xD 14 G_58) yc (xD 4 SA) ye (xD 14 G_37) rC rD wd1 wd2 wd3 wd4 ws1 ws2 ws3 ws4 wi1 wi2 wi3 wi4) H := hH
        have ez_168 : 0 ≤ z_168.toInt ∧ z_168.toInt ≤ 100 := by omega
        refine lv_goto (tgt := 187) F.1 F.2.1 dX3_readRight_183 (by decide) ?_
        refine tIastB F hK hH hS (tyb hq_164 (all1 rfl)) (ixb (n := 14) r_5 rfl rfl) (wkb ez_168 rfl rfl) dX3_readRight_187 (fun H locs hH hS => ?_)
        refine lv_aload_n F.1 F.2.1 dX3_readRight_188 rfl (lv_at hl 2 rfl) ?_
        refine tGetR (j := 5) F hK hH (tyb ha0 (all1 rfl)) rfl (all1 rfl) clX3 (by decide) wd_5_18 dX3_readRight_189 (fun q_175 hq_175 _ => ?_)
        refine tGetR (j := 13) F hK hH (tyb hq_175 (all1 rfl)) rfl (all1 rfl) clX2 (by decide) wd_13_14 dX3_readRight_192 (fun q_176 hq_176 _ => ?_)
        refine lv_iload_n F.1 F.2.1 dX3_readRight_195 rfl (lv_at hl 1 rfl) ?_
        refine lv_iload_n F.1 F.2.1 dX3_readRight_196 rfl (lv_at hl 0 rfl) ?_
        refine z_eq (tgt := 210) F dX3_readRight_197 (by decide) (fun c_177 => absurd c_177 (by omega)) (fun c_177 => ?_)
        refine lv_aload_n F.1 F.2.1 dX3_readRight_200 rfl (lv_at hl 2 rfl) ?_
        refine lv_iconst (v := 1) F.1 F.2.1 dX3_readRight_201 (by decide) ?_
        refine topK (a := 1) (by decide) (fun k_178 hk_178 => ?_)
        refine lv_bipush (v := 30) F.1 F.2.1 dX3_readRight_202 (by decide) ?_
        refine topK (a := 30) (by decide) (fun k_179 hk_179 => ?_)
        refine tVi (b := a0) (As := [.int k_178, .int k_179]) (rest := [.int z_2, .ref q_176]) F hK hN hO (c_X3_readNumber E dA dB rA (riverD (.inl (a, a)) (.inl (b, b)) (.inl (c, c)) 32 34 36 40 44 48) rc ya (xD 14 G_58) yc (xD 4 SA) ye (xD 14 G_37) rC rD wd1 wd2 wd3 wd4 ws1 ws2 ws3 ws4 wi1 wi2 wi3 wi4 ((.inl (w, w))) (.inr [27]) n g_169 g_170 T 1 30 a0 k_178 k_179 ha0 (by omega) (by omega) (by omega) hT (by omega) (by omega)) mv_X3_readNumber wd_12_19 ⟨Nat.le_of_ble_eq_true rfl, Nat.le_of_ble_eq_true rfl⟩ ⟨Nat.le_of_ble_eq_true rfl, Nat.le_of_ble_eq_true rfl⟩ hH hS (tRecv hK hH (tyb ha0 (all1 rfl)) clX3) rfl hl.1 (Nat.le_of_ble_eq_true rfl) dX3_readRight_204 (fun z_180 H locs hq hS => ?_)
        obtain ⟨g_181, hg_181, g_182, hg_182, f_183, f_184, f_185, f_186, hH⟩ := hq
        have hH : TH E (tbC dA dB rA (riverD (.inl (a, a)) (.inl (b, b)) (.inl (c, c)) 32 34 36 40 44 48) rc (rdD (.inl (g_181, g_181)) (.inl (n, n)) (.inl (g_182, g_182)) (.inl (w, w)) (.inr [27])) (xB 400 T) ya (xD 14 G_58) yc (xD 4 SA) ye (xD 14 G_37) rC rD wd1 wd2 wd3 wd4 ws1 ws2 ws3 ws4 wi1 wi2 wi3 wi4) H := hH
        have ez_180 : 1 ≤ z_180.toInt ∧ z_180.toInt ≤ 30 := by omega
        refine lv_goto (tgt := 211) F.1 F.2.1 dX3_readRight_207 (by decide) ?_
        refine tIastB F hK hH hS (tyb hq_176 (all1 rfl)) (ixb (n := 14) r_5 rfl rfl) (wkb ez_180 rfl rfl) dX3_readRight_211 (fun H locs hH hS => ?_)
        refine lv_aload_n F.1 F.2.1 dX3_readRight_212 rfl (lv_at hl 2 rfl) ?_
        refine tGetR (j := 5) F hK hH (tyb ha0 (all1 rfl)) rfl (all1 rfl) clX3 (by decide) wd_5_18 dX3_readRight_213 (fun q_187 hq_187 _ => ?_)
        refine lv_dup F.1 F.2.1 dX3_readRight_216 rfl ?_
        refine tGetI (j := 4) F hK hH (tyb hq_187 (all1 rfl)) rfl clX2 (by decide) wd_13_4 dX3_readRight_217 (fun z_188 hz_188 => ?_)
        have ez_188 : 0 ≤ z_188.toInt ∧ z_188.toInt ≤ 13 := by omega
        refine lv_iconst (v := 1) F.1 F.2.1 dX3_readRight_220 (by decide) ?_
        refine topK (a := 1) (by decide) (fun k_189 hk_189 => ?_)
        refine tAdd (lo := 1) (hi := 14) F dX3_readRight_221 ez_188 (eqb hk_189) rfl (fun z_190 hz_190 => ?_)
        obtain ⟨g_191, hg_191⟩ : ∃ y : Int, z_190.toInt = y := ⟨_, rfl⟩
        have bg_191 : 1 ≤ g_191 ∧ g_191 ≤ 14 := by rw [← hg_191]; exact hz_190.2
        refine tPutG (j := 4) (t := 27) (fd := (.inl (g_191, g_191))) F hK hH hS (List.mem_singleton.mp hq_187) (by decide) rfl rfl (fdI (by omega)) (TB1 := (tbC dA dB rA (riverD (.inl (a, a)) (.inl (g_191, g_191)) (.inl (c, c)) 32 34 36 40 44 48) rc (rdD (.inl (g_181, g_181)) (.inl (n, n)) (.inl (g_182, g_182)) (.inl (w, w)) (.inr [27])) (xB 400 T) ya (xD 14 G_58) yc (xD 4 SA) ye (xD 14 G_37) rC rD wd1 wd2 wd3 wd4 ws1 ws2 ws3 ws4 wi1 wi2 wi3 wi4)) rfl clX2 (by decide) wd_13_4 rfl rfl rfl rfl dX3_readRight_222 (fun H locs hH hS => ?_)
        exact txV F hS dX3_readRight_225 (⟨g_181, (by omega), g_182, (by omega), g_191, (by omega), G_58, ⟨hG_58, (right_y hg_10.2.2 hg_11.2.2 hg_19.2.2 hg_20.2.2 hg_31.2.2 hg_32.2.2 hg_45.2.2 hg_46.2.2 hg_54.2.2 hg_55.2.2 f_57 f_64 hg_62.2.2 f_138 hg_136.2.2 (updR eG_58 (by omega) rfl) hg_159.2.2 hg_160.2.2 hg_169.2.2 hg_170.2.2 hg_181.2.2 hg_182.2.2 (by omega) (by omega) (by omega) (by omega))⟩, (TH.unpin (t := 36) (TB1 := (tbC dA dB rA (riverD (.inl (a, a)) (.inl (g_191, g_191)) (.inl (c, c)) 32 34 36 40 44 48) rc (rdD (.inl (g_181, g_181)) (.inl (n, n)) (.inl (g_182, g_182)) (.inl (w, w)) (.inr [27])) (xB 400 T) ya (xD 14 G_58) yc (xD 4 SA) ye A14F rC rD wd1 wd2 wd3 wd4 ws1 ws2 ws3 ws4 wi1 wi2 wi3 wi4)) hH rfl hG_37 rfl)⟩)
  · skip
    have r_6 : 14 ≤ z_2.toInt ∧ z_2.toInt ≤ 14 := by have h9_ := ez_2; omega
    refine lv_aload_n F.1 F.2.1 dX3_readRight_14 rfl (lv_at hl 1 rfl) ?_
    refine lv_iload_n F.1 F.2.1 dX3_readRight_15 rfl (lv_at hl 2 rfl) ?_
    refine lv_iconst (v := 3) F.1 F.2.1 dX3_readRight_16 (by decide) ?_
    refine topK (a := 3) (by decide) (fun k_192 hk_192 => ?_)
    refine tVv (b := a0) (As := [.int a1, .int k_192]) (rest := []) F hK hN hO (c_X3_blame E dA dB rA (riverD (.inl (a, a)) (.inl (b, b)) (.inl (c, c)) 32 34 36 40 44 48) rc (xB 400 T) ya (xD 14 RA) yc (xD 4 SA) ye A14F rC rD wd1 wd2 wd3 wd4 ws1 ws2 ws3 ws4 wi1 wi2 wi3 wi4 ((.inl (n, n))) ((.inl (p, p))) ((.inl (w, w))) (.inr [27]) f st 3 a0 a1 k_192 ha0 ha1 (wkb (eqb hk_192) rfl rfl) (by omega) (by omega) (by omega)) mv_X3_blame wd_12_11 ⟨Nat.le_of_ble_eq_true rfl, Nat.le_of_ble_eq_true rfl⟩ ⟨Nat.le_of_ble_eq_true rfl, Nat.le_of_ble_eq_true rfl⟩ hH hS (tRecv hK hH (tyb ha0 (all1 rfl)) clX3) rfl hl.1 (Nat.le_of_ble_eq_true rfl) dX3_readRight_17 (fun H locs hq hS => ?_)
    obtain ⟨g_194, hg_194, hH⟩ := hq
    have hH : TH E (tbC dA dB rA (riverD (.inl (a, a)) (.inl (b, b)) (.inl (c, c)) 32 34 36 40 44 48) rc (rdD (.inl (p, p)) (.inl (n, n)) (.inl (g_194, g_194)) (.inl (w, w)) (.inr [27])) (xB 400 T) ya (xD 14 RA) yc (xD 4 SA) ye A14F rC rD wd1 wd2 wd3 wd4 ws1 ws2 ws3 ws4 wi1 wi2 wi3 wi4) H := hH
    exact txV F hS dX3_readRight_20 (⟨p, (by omega), g_194, (by omega), b, (by omega), RA, ⟨hRA, (right_a (by omega) hg_194.2.2)⟩, hH⟩)
set_option maxHeartbeats 4000000 in
set_option maxRecDepth 100000 in
theorem c_X3_readStore_1 (E : Ev) (dA : TD) (dB : TD) (rB : TD) (rc : TD) (yb : TD) (yd : TD) (ye : TD) (yf : TD) (rC : TD) (rD : TD) (wd1 : TD) (wd2 : TD) (wd3 : TD) (wd4 : TD) (ws1 : TD) (ws2 : TD) (ws3 : TD) (ws4 : TD) (wi1 : TD) (wi2 : TD) (wi3 : TD) (wi4 : TD) (a : Int) (b : Int) (c : Int) (n : Int) (p : Int) (f : Int) (w : Int) (T : Nat → Int32) (RA : Nat → Int32) (SA : Nat → Int32) (st : Int) (a0 : Nat) (a1 : Int32) (ha0 : eT E a0 ∈ [29]) (ha1 : 0 ≤ a1.toInt ∧ a1.toInt ≤ 400) (ha : 0 ≤ a ∧ a ≤ 12) (hb : 0 ≤ b ∧ b ≤ 14) (hc : 0 ≤ c ∧ c ≤ 4) (hn : 0 ≤ n ∧ n ≤ 400) (hp : 0 ≤ p ∧ p ≤ 400) (hf : 0 ≤ f ∧ f ≤ 4000) (hw : 0 ≤ w ∧ w ≤ 1) (hT : ivP 400 (-128) 127 T) (hRA : ivP 14 (-2147483648) 2147483647 RA) (hSA : ivP 4 (-2147483648) 2147483647 SA) (hst : a1.toInt = st) : TcV E yX3_readStore cX3_readStore 3 ({ frames := 7, cells := 0, slots := 0, locals := 226 }) [.ref a0, .int a1] (fun H => TH E (tbC dA dB (riverD (.inl (a, a)) (.inl (b, b)) (.inl (c, c)) 31 33 35 39 43 47) rB rc (rdD (.inl (p, p)) (.inl (n, n)) (.inl (f, f)) (.inl (w, w)) (.inr [26])) (xB 400 T) (xD 14 RA) yb (xD 4 SA) yd ye yf rC rD wd1 wd2 wd3 wd4 ws1 ws2 ws3 ws4 wi1 wi2 wi3 wi4) H) (fun H => ∃ p2 : Int, (0 ≤ p2 ∧ p2 ≤ 400) ∧ ∃ f2 : Int, (0 ≤ f2 ∧ f2 ≤ 4000) ∧ ∃ c2 : Int, (0 ≤ c2 ∧ c2 ≤ 4) ∧ ∃ SA2 : Nat → Int32, (ivP 4 (-2147483648) 2147483647 SA2 ∧ (p2, f2, w, a, b, c2, RA, SA2) = kStore T n st (p, f, w, a, b, c, RA, SA)) ∧ TH E (tbC dA dB (riverD (.inl (a, a)) (.inl (b, b)) (.inl (c2, c2)) 31 33 35 39 43 47) rB rc (rdD (.inl (p2, p2)) (.inl (n, n)) (.inl (f2, f2)) (.inl (w, w)) (.inr [26])) (xB 400 T) (xD 14 RA) yb (xD 4 SA2) yd ye yf rC rD wd1 wd2 wd3 wd4 ws1 ws2 ws3 ws4 wi1 wi2 wi3 wi4) H) := by
  refine teV (by decide) (Nat.le_of_ble_eq_true rfl) ?_
  intro p_ ev_ s mi_ below_ meth cd_ ls F hK hN hO hH hS hl
  have hH : TH E (tbC dA dB (riverD (.inl (a, a)) (.inl (b, b)) (.inl (c, c)) 31 33 35 39 43 47) rB rc (rdD (.inl (p, p)) (.inl (n, n)) (.inl (f, f)) (.inl (w, w)) (.inr [26])) (xB 400 T) (xD 14 RA) yb (xD 4 SA) yd ye yf rC rD wd1 wd2 wd3 wd4 ws1 ws2 ws3 ws4 wi1 wi2 wi3 wi4) s.heap := hH
  have hl : lv_has ls 3 [(0, .ref a0), (1, .int a1)] := hl
  refine lv_aload_n F.1 F.2.1 dX3_readStore_0 rfl (lv_at hl 0 rfl) ?_
  refine tGetR (j := 5) F hK hH (tyb ha0 (all1 rfl)) rfl (all1 rfl) clX3 (by decide) wd_5_18 dX3_readStore_1 (fun q_1 hq_1 _ => ?_)
  refine tGetI (j := 14) F hK hH (tyb hq_1 (all1 rfl)) rfl clX2 (by decide) wd_14_3 dX3_readStore_4 (fun z_2 hz_2 => ?_)
  have ez_2 : 0 ≤ z_2.toInt ∧ z_2.toInt ≤ 4 := by omega
  refine lv_istore_n (lv' := [(2, .int z_2), (0, .ref a0), (1, .int a1)]) F.1 F.2.1 dX3_readStore_7 rfl hl (by decide) rfl (fun ls hl => ?_)
  refine lv_iload_n F.1 F.2.1 dX3_readStore_8 rfl (lv_at hl 0 rfl) ?_
  refine lv_iconst (v := 4) F.1 F.2.1 dX3_readStore_9 (by decide) ?_
  refine topK (a := 4) (by decide) (fun k_3 hk_3 => ?_)
  refine b_lt (tgt := 20) F dX3_readStore_10 (by decide) (fun c_4 => ?_) (fun c_4 => ?_)
  · skip
    have r_5 : 0 ≤ z_2.toInt ∧ z_2.toInt ≤ 3 := by have h9_ := ez_2; omega
    refine lv_aload_n F.1 F.2.1 dX3_readStore_20 rfl (lv_at hl 1 rfl) ?_
    refine tGetR (j := 5) F hK hH (tyb ha0 (all1 rfl)) rfl (all1 rfl) clX3 (by decide) wd_5_18 dX3_readStore_21 (fun q_7 hq_7 _ => ?_)
    refine tGetR (j := 15) F hK hH (tyb hq_7 (all1 rfl)) rfl (all1 rfl) clX2 (by decide) wd_14_4 dX3_readStore_24 (fun q_8 hq_8 _ => ?_)
    refine lv_iload_n F.1 F.2.1 dX3_readStore_27 rfl (lv_at hl 0 rfl) ?_
    refine lv_aload_n F.1 F.2.1 dX3_readStore_28 rfl (lv_at hl 1 rfl) ?_
    refine tVi (b := a0) (As := []) (rest := [.int z_2, .ref q_8]) F hK hN hO (c_X3_readReachNumber_1 E dA dB rB rc yb yd ye yf rC rD wd1 wd2 wd3 wd4 ws1 ws2 ws3 ws4 wi1 wi2 wi3 wi4 a b c n p f w T RA SA a0 ha0 (by omega) (by omega) (by omega) (by omega) (by omega) (by omega) (by omega) hT hRA hSA) mv_X3_readReachNumber wd_12_15 ⟨Nat.le_of_ble_eq_true rfl, Nat.le_of_ble_eq_true rfl⟩ ⟨Nat.le_of_ble_eq_true rfl, Nat.le_of_ble_eq_true rfl⟩ hH hS (tRecv hK hH (tyb ha0 (all1 rfl)) clX3) rfl hl.1 (Nat.le_of_ble_eq_true rfl) dX3_readStore_29 (fun z_9 H locs hq hS => ?_)
    obtain ⟨g_10, hg_10, g_11, hg_11, f_12, f_13, hH⟩ := hq
    have hH : TH E (tbC dA dB (riverD (.inl (a, a)) (.inl (b, b)) (.inl (c, c)) 31 33 35 39 43 47) rB rc (rdD (.inl (g_10, g_10)) (.inl (n, n)) (.inl (g_11, g_11)) (.inl (w, w)) (.inr [26])) (xB 400 T) (xD 14 RA) yb (xD 4 SA) yd ye yf rC rD wd1 wd2 wd3 wd4 ws1 ws2 ws3 ws4 wi1 wi2 wi3 wi4) H := hH
    refine tIastB F hK hH hS (tyb hq_8 (all1 rfl)) (ixb (n := 4) r_5 rfl rfl) f_12 dX3_readStore_32 (fun H locs hH hS => ?_)
    refine lv_aload_n F.1 F.2.1 dX3_readStore_33 rfl (lv_at hl 1 rfl) ?_
    refine tGetR (j := 5) F hK hH (tyb ha0 (all1 rfl)) rfl (all1 rfl) clX3 (by decide) wd_5_18 dX3_readStore_34 (fun q_14 hq_14 _ => ?_)
    refine tGetR (j := 16) F hK hH (tyb hq_14 (all1 rfl)) rfl (all1 rfl) clX2 (by decide) wd_14_5 dX3_readStore_37 (fun q_15 hq_15 _ => ?_)
    refine lv_iload_n F.1 F.2.1 dX3_readStore_40 rfl (lv_at hl 0 rfl) ?_
    refine lv_aload_n F.1 F.2.1 dX3_readStore_41 rfl (lv_at hl 1 rfl) ?_
    refine lv_iconst (v := 1) F.1 F.2.1 dX3_readStore_42 (by decide) ?_
    refine topK (a := 1) (by decide) (fun k_16 hk_16 => ?_)
    refine lv_ldc (own := RX3) (v := 999999) F.1 F.2.1 F.2.2.2.2.1 (F.2.2.2.2.2.2.1 _ wd_13_11) dX3_readStore_43 ?_
    refine topK (a := 999999) (by decide) (fun k_17 hk_17 => ?_)
    refine tVi (b := a0) (As := [.int k_16, .int k_17]) (rest := [.int z_2, .ref q_15]) F hK hN hO (c_X3_readNumber E dA dB (riverD (.inl (a, a)) (.inl (b, b)) (.inl (c, c)) 31 33 35 39 43 47) rB rc (xD 14 RA) yb (xD 4 SA) yd ye yf rC rD wd1 wd2 wd3 wd4 ws1 ws2 ws3 ws4 wi1 wi2 wi3 wi4 ((.inl (w, w))) (.inr [26]) n g_10 g_11 T 1 999999 a0 k_16 k_17 ha0 (by omega) (by omega) (by omega) hT (by omega) (by omega)) mv_X3_readNumber wd_12_19 ⟨Nat.le_of_ble_eq_true rfl, Nat.le_of_ble_eq_true rfl⟩ ⟨Nat.le_of_ble_eq_true rfl, Nat.le_of_ble_eq_true rfl⟩ hH hS (tRecv hK hH (tyb ha0 (all1 rfl)) clX3) rfl hl.1 (Nat.le_of_ble_eq_true rfl) dX3_readStore_45 (fun z_18 H locs hq hS => ?_)
    obtain ⟨g_19, hg_19, g_20, hg_20, f_21, f_22, f_23, f_24, hH⟩ := hq
    have hH : TH E (tbC dA dB (riverD (.inl (a, a)) (.inl (b, b)) (.inl (c, c)) 31 33 35 39 43 47) rB rc (rdD (.inl (g_19, g_19)) (.inl (n, n)) (.inl (g_20, g_20)) (.inl (w, w)) (.inr [26])) (xB 400 T) (xD 14 RA) yb (xD 4 SA) yd ye yf rC rD wd1 wd2 wd3 wd4 ws1 ws2 ws3 ws4 wi1 wi2 wi3 wi4) H := hH
    have ez_18 : 1 ≤ z_18.toInt ∧ z_18.toInt ≤ 999999 := by omega
    refine tIastB F hK hH hS (tyb hq_15 (all1 rfl)) (ixb (n := 4) r_5 rfl rfl) (wkb ez_18 rfl rfl) dX3_readStore_48 (fun H locs hH hS => ?_)
    refine lv_aload_n F.1 F.2.1 dX3_readStore_49 rfl (lv_at hl 1 rfl) ?_
    refine tGetR (j := 5) F hK hH (tyb ha0 (all1 rfl)) rfl (all1 rfl) clX3 (by decide) wd_5_18 dX3_readStore_50 (fun q_25 hq_25 _ => ?_)
    refine tGetR (j := 17) F hK hH (tyb hq_25 (all1 rfl)) rfl (all1 rfl) clX2 (by decide) wd_14_6 dX3_readStore_53 (fun q_26 hq_26 _ => ?_)
    refine lv_iload_n F.1 F.2.1 dX3_readStore_56 rfl (lv_at hl 0 rfl) ?_
    refine lv_aload_n F.1 F.2.1 dX3_readStore_57 rfl (lv_at hl 1 rfl) ?_
    refine lv_iconst (v := 1) F.1 F.2.1 dX3_readStore_58 (by decide) ?_
    refine topK (a := 1) (by decide) (fun k_27 hk_27 => ?_)
    refine lv_sipush (v := 9999) F.1 F.2.1 dX3_readStore_59 (by decide) ?_
    refine topK (a := 9999) (by decide) (fun k_28 hk_28 => ?_)
    refine tVi (b := a0) (As := [.int k_27, .int k_28]) (rest := [.int z_2, .ref q_26]) F hK hN hO (c_X3_readNumber E dA dB (riverD (.inl (a, a)) (.inl (b, b)) (.inl (c, c)) 31 33 35 39 43 47) rB rc (xD 14 RA) yb (xD 4 SA) yd ye yf rC rD wd1 wd2 wd3 wd4 ws1 ws2 ws3 ws4 wi1 wi2 wi3 wi4 ((.inl (w, w))) (.inr [26]) n g_19 g_20 T 1 9999 a0 k_27 k_28 ha0 (by omega) (by omega) (by omega) hT (by omega) (by omega)) mv_X3_readNumber wd_12_19 ⟨Nat.le_of_ble_eq_true rfl, Nat.le_of_ble_eq_true rfl⟩ ⟨Nat.le_of_ble_eq_true rfl, Nat.le_of_ble_eq_true rfl⟩ hH hS (tRecv hK hH (tyb ha0 (all1 rfl)) clX3) rfl hl.1 (Nat.le_of_ble_eq_true rfl) dX3_readStore_62 (fun z_29 H locs hq hS => ?_)
    obtain ⟨g_30, hg_30, g_31, hg_31, f_32, f_33, f_34, f_35, hH⟩ := hq
    have hH : TH E (tbC dA dB (riverD (.inl (a, a)) (.inl (b, b)) (.inl (c, c)) 31 33 35 39 43 47) rB rc (rdD (.inl (g_30, g_30)) (.inl (n, n)) (.inl (g_31, g_31)) (.inl (w, w)) (.inr [26])) (xB 400 T) (xD 14 RA) yb (xD 4 SA) yd ye yf rC rD wd1 wd2 wd3 wd4 ws1 ws2 ws3 ws4 wi1 wi2 wi3 wi4) H := hH
    have ez_29 : 1 ≤ z_29.toInt ∧ z_29.toInt ≤ 9999 := by omega
    refine tIastB F hK hH hS (tyb hq_26 (all1 rfl)) (ixb (n := 4) r_5 rfl rfl) (wkb ez_29 rfl rfl) dX3_readStore_65 (fun H locs hH hS => ?_)
    refine lv_aload_n F.1 F.2.1 dX3_readStore_66 rfl (lv_at hl 1 rfl) ?_
    refine tGetR (j := 5) F hK hH (tyb ha0 (all1 rfl)) rfl (all1 rfl) clX3 (by decide) wd_5_18 dX3_readStore_67 (fun q_36 hq_36 _ => ?_)
    refine tGetR (j := 18) F hK hH (tyb hq_36 (all1 rfl)) rfl (all1 rfl) clX2 (by decide) wd_14_7 dX3_readStore_70 (fun q_37 hq_37 _ => ?_)
    refine lv_iload_n F.1 F.2.1 dX3_readStore_73 rfl (lv_at hl 0 rfl) ?_
    refine lv_aload_n F.1 F.2.1 dX3_readStore_74 rfl (lv_at hl 1 rfl) ?_
    refine tVi (b := a0) (As := []) (rest := [.int z_2, .ref q_37]) F hK hN hO (c_X3_readAge_1 E dA dB rB rc yb yd ye yf rC rD wd1 wd2 wd3 wd4 ws1 ws2 ws3 ws4 wi1 wi2 wi3 wi4 a b c n g_30 g_31 w T RA SA a0 ha0 (by omega) (by omega) (by omega) (by omega) (by omega) (by omega) (by omega) hT hRA hSA) mv_X3_readAge wd_13_15 ⟨Nat.le_of_ble_eq_true rfl, Nat.le_of_ble_eq_true rfl⟩ ⟨Nat.le_of_ble_eq_true rfl, Nat.le_of_ble_eq_true rfl⟩ hH hS (tRecv hK hH (tyb ha0 (all1 rfl)) clX3) rfl hl.1 (Nat.le_of_ble_eq_true rfl) dX3_readStore_75 (fun z_38 H locs hq hS => ?_)
    obtain ⟨g_39, hg_39, g_40, hg_40, f_41, f_42, hH⟩ := hq
    have hH : TH E (tbC dA dB (riverD (.inl (a, a)) (.inl (b, b)) (.inl (c, c)) 31 33 35 39 43 47) rB rc (rdD (.inl (g_39, g_39)) (.inl (n, n)) (.inl (g_40, g_40)) (.inl (w, w)) (.inr [26])) (xB 400 T) (xD 14 RA) yb (xD 4 SA) yd ye yf rC rD wd1 wd2 wd3 wd4 ws1 ws2 ws3 ws4 wi1 wi2 wi3 wi4) H := hH
    refine tIastX (t := 33) F hK hH hS (List.mem_singleton.mp hq_37) (by decide) rfl (ixb (n := 4) r_5 rfl rfl) dX3_readStore_78 (fun G_43 eG_43 H locs hH hS => ?_)
    have hH : TH E (tbC dA dB (riverD (.inl (a, a)) (.inl (b, b)) (.inl (c, c)) 31 33 35 39 43 47) rB rc (rdD (.inl (g_39, g_39)) (.inl (n, n)) (.inl (g_40, g_40)) (.inl (w, w)) (.inr [26])) (xB 400 T) (xD 14 RA) yb (xD 4 G_43) yd ye yf rC rD wd1 wd2 wd3 wd4 ws1 ws2 ws3 ws4 wi1 wi2 wi3 wi4) H := hH
    have hG_43 : ivP 4 (-2147483648) 2147483647 G_43 := (ivP_updE hSA eG_43 (i32b _))
    refine lv_aload_n F.1 F.2.1 dX3_readStore_79 rfl (lv_at hl 1 rfl) ?_
    refine tGetR (j := 5) F hK hH (tyb ha0 (all1 rfl)) rfl (all1 rfl) clX3 (by decide) wd_5_18 dX3_readStore_80 (fun q_44 hq_44 _ => ?_)
    refine lv_dup F.1 F.2.1 dX3_readStore_83 rfl ?_
    refine tGetI (j := 14) F hK hH (tyb hq_44 (all1 rfl)) rfl clX2 (by decide) wd_14_3 dX3_readStore_84 (fun z_45 hz_45 => ?_)
    have ez_45 : 0 ≤ z_45.toInt ∧ z_45.toInt ≤ 3 := by omega
    refine lv_iconst (v := 1) F.1 F.2.1 dX3_readStore_87 (by decide) ?_
    refine topK (a := 1) (by decide) (fun k_46 hk_46 => ?_)
    refine tAdd (lo := 1) (hi := 4) F dX3_readStore_88 ez_45 (eqb hk_46) rfl (fun z_47 hz_47 => ?_)
    obtain ⟨g_48, hg_48⟩ : ∃ y : Int, z_47.toInt = y := ⟨_, rfl⟩
    have bg_48 : 1 ≤ g_48 ∧ g_48 ≤ 4 := by rw [← hg_48]; exact hz_47.2
    refine tPutG (j := 14) (t := 26) (fd := (.inl (g_48, g_48))) F hK hH hS (List.mem_singleton.mp hq_44) (by decide) rfl rfl (fdI (by omega)) (TB1 := (tbC dA dB (riverD (.inl (a, a)) (.inl (b, b)) (.inl (g_48, g_48)) 31 33 35 39 43 47) rB rc (rdD (.inl (g_39, g_39)) (.inl (n, n)) (.inl (g_40, g_40)) (.inl (w, w)) (.inr [26])) (xB 400 T) (xD 14 RA) yb (xD 4 G_43) yd ye yf rC rD wd1 wd2 wd3 wd4 ws1 ws2 ws3 ws4 wi1 wi2 wi3 wi4)) rfl clX2 (by decide) wd_14_3 rfl rfl rfl rfl dX3_readStore_89 (fun H locs hH hS => ?_)
    exact txV F hS dX3_readStore_92 (⟨g_39, (by omega), g_40, (by omega), g_48, (by omega), G_43, ⟨hG_43, (store_b hg_10.2.2 hg_11.2.2 hg_19.2.2 hg_20.2.2 hg_30.2.2 hg_31.2.2 hg_39.2.2 hg_40.2.2 f_42 (updR eG_43 (by omega) rfl) (by omega) (by omega))⟩, hH⟩)
  · skip
    have r_6 : 4 ≤ z_2.toInt ∧ z_2.toInt ≤ 4 := by have h9_ := ez_2; omega
    refine lv_aload_n F.1 F.2.1 dX3_readStore_13 rfl (lv_at hl 1 rfl) ?_
    refine lv_iload_n F.1 F.2.1 dX3_readStore_14 rfl (lv_at hl 2 rfl) ?_
    refine lv_iconst (v := 3) F.1 F.2.1 dX3_readStore_15 (by decide) ?_
    refine topK (a := 3) (by decide) (fun k_49 hk_49 => ?_)
    refine tVv (b := a0) (As := [.int a1, .int k_49]) (rest := []) F hK hN hO (c_X3_blame E dA dB (riverD (.inl (a, a)) (.inl (b, b)) (.inl (c, c)) 31 33 35 39 43 47) rB rc (xB 400 T) (xD 14 RA) yb (xD 4 SA) yd ye yf rC rD wd1 wd2 wd3 wd4 ws1 ws2 ws3 ws4 wi1 wi2 wi3 wi4 ((.inl (n, n))) ((.inl (p, p))) ((.inl (w, w))) (.inr [26]) f st 3 a0 a1 k_49 ha0 ha1 (wkb (eqb hk_49) rfl rfl) (by omega) (by omega) (by omega)) mv_X3_blame wd_12_11 ⟨Nat.le_of_ble_eq_true rfl, Nat.le_of_ble_eq_true rfl⟩ ⟨Nat.le_of_ble_eq_true rfl, Nat.le_of_ble_eq_true rfl⟩ hH hS (tRecv hK hH (tyb ha0 (all1 rfl)) clX3) rfl hl.1 (Nat.le_of_ble_eq_true rfl) dX3_readStore_16 (fun H locs hq hS => ?_)
    obtain ⟨g_51, hg_51, hH⟩ := hq
    have hH : TH E (tbC dA dB (riverD (.inl (a, a)) (.inl (b, b)) (.inl (c, c)) 31 33 35 39 43 47) rB rc (rdD (.inl (p, p)) (.inl (n, n)) (.inl (g_51, g_51)) (.inl (w, w)) (.inr [26])) (xB 400 T) (xD 14 RA) yb (xD 4 SA) yd ye yf rC rD wd1 wd2 wd3 wd4 ws1 ws2 ws3 ws4 wi1 wi2 wi3 wi4) H := hH
    exact txV F hS dX3_readStore_19 (⟨p, (by omega), g_51, (by omega), c, (by omega), SA, ⟨hSA, (store_a (by omega) hg_51.2.2)⟩, hH⟩)
set_option maxHeartbeats 4000000 in
set_option maxRecDepth 100000 in
theorem c_X3_readStore_2 (E : Ev) (dA : TD) (dB : TD) (rA : TD) (rc : TD) (ya : TD) (yc : TD) (ye : TD) (yf : TD) (rC : TD) (rD : TD) (wd1 : TD) (wd2 : TD) (wd3 : TD) (wd4 : TD) (ws1 : TD) (ws2 : TD) (ws3 : TD) (ws4 : TD) (wi1 : TD) (wi2 : TD) (wi3 : TD) (wi4 : TD) (a : Int) (b : Int) (c : Int) (n : Int) (p : Int) (f : Int) (w : Int) (T : Nat → Int32) (RA : Nat → Int32) (SA : Nat → Int32) (st : Int) (a0 : Nat) (a1 : Int32) (ha0 : eT E a0 ∈ [29]) (ha1 : 0 ≤ a1.toInt ∧ a1.toInt ≤ 400) (ha : 0 ≤ a ∧ a ≤ 12) (hb : 0 ≤ b ∧ b ≤ 14) (hc : 0 ≤ c ∧ c ≤ 4) (hn : 0 ≤ n ∧ n ≤ 400) (hp : 0 ≤ p ∧ p ≤ 400) (hf : 0 ≤ f ∧ f ≤ 4000) (hw : 0 ≤ w ∧ w ≤ 1) (hT : ivP 400 (-128) 127 T) (hRA : ivP 14 (-2147483648) 2147483647 RA) (hSA : ivP 4 (-2147483648) 2147483647 SA) (hst : a1.toInt = st) : TcV E yX3_readStore cX3_readStore 3 ({ frames := 7, cells := 0, slots := 0, locals := 226 }) [.ref a0, .int a1] (fun H => TH E (tbC dA dB rA (riverD (.inl (a, a)) (.inl (b, b)) (.inl (c, c)) 32 34 36 40 44 48) rc (rdD (.inl (p, p)) (.inl (n, n)) (.inl (f, f)) (.inl (w, w)) (.inr [27])) (xB 400 T) ya (xD 14 RA) yc (xD 4 SA) ye yf rC rD wd1 wd2 wd3 wd4 ws1 ws2 ws3 ws4 wi1 wi2 wi3 wi4) H) (fun H => ∃ p2 : Int, (0 ≤ p2 ∧ p2 ≤ 400) ∧ ∃ f2 : Int, (0 ≤ f2 ∧ f2 ≤ 4000) ∧ ∃ c2 : Int, (0 ≤ c2 ∧ c2 ≤ 4) ∧ ∃ SA2 : Nat → Int32, (ivP 4 (-2147483648) 2147483647 SA2 ∧ (p2, f2, w, a, b, c2, RA, SA2) = kStore T n st (p, f, w, a, b, c, RA, SA)) ∧ TH E (tbC dA dB rA (riverD (.inl (a, a)) (.inl (b, b)) (.inl (c2, c2)) 32 34 36 40 44 48) rc (rdD (.inl (p2, p2)) (.inl (n, n)) (.inl (f2, f2)) (.inl (w, w)) (.inr [27])) (xB 400 T) ya (xD 14 RA) yc (xD 4 SA2) ye yf rC rD wd1 wd2 wd3 wd4 ws1 ws2 ws3 ws4 wi1 wi2 wi3 wi4) H) := by
  refine teV (by decide) (Nat.le_of_ble_eq_true rfl) ?_
  intro p_ ev_ s mi_ below_ meth cd_ ls F hK hN hO hH hS hl
  have hH : TH E (tbC dA dB rA (riverD (.inl (a, a)) (.inl (b, b)) (.inl (c, c)) 32 34 36 40 44 48) rc (rdD (.inl (p, p)) (.inl (n, n)) (.inl (f, f)) (.inl (w, w)) (.inr [27])) (xB 400 T) ya (xD 14 RA) yc (xD 4 SA) ye yf rC rD wd1 wd2 wd3 wd4 ws1 ws2 ws3 ws4 wi1 wi2 wi3 wi4) s.heap := hH
  have hl : lv_has ls 3 [(0, .ref a0), (1, .int a1)] := hl
  refine lv_aload_n F.1 F.2.1 dX3_readStore_0 rfl (lv_at hl 0 rfl) ?_
  refine tGetR (j := 5) F hK hH (tyb ha0 (all1 rfl)) rfl (all1 rfl) clX3 (by decide) wd_5_18 dX3_readStore_1 (fun q_1 hq_1 _ => ?_)
  refine tGetI (j := 14) F hK hH (tyb hq_1 (all1 rfl)) rfl clX2 (by decide) wd_14_3 dX3_readStore_4 (fun z_2 hz_2 => ?_)
  have ez_2 : 0 ≤ z_2.toInt ∧ z_2.toInt ≤ 4 := by omega
  refine lv_istore_n (lv' := [(2, .int z_2), (0, .ref a0), (1, .int a1)]) F.1 F.2.1 dX3_readStore_7 rfl hl (by decide) rfl (fun ls hl => ?_)
  refine lv_iload_n F.1 F.2.1 dX3_readStore_8 rfl (lv_at hl 0 rfl) ?_
  refine lv_iconst (v := 4) F.1 F.2.1 dX3_readStore_9 (by decide) ?_
  refine topK (a := 4) (by decide) (fun k_3 hk_3 => ?_)
  refine b_lt (tgt := 20) F dX3_readStore_10 (by decide) (fun c_4 => ?_) (fun c_4 => ?_)
  · skip
    have r_5 : 0 ≤ z_2.toInt ∧ z_2.toInt ≤ 3 := by have h9_ := ez_2; omega
    refine lv_aload_n F.1 F.2.1 dX3_readStore_20 rfl (lv_at hl 1 rfl) ?_
    refine tGetR (j := 5) F hK hH (tyb ha0 (all1 rfl)) rfl (all1 rfl) clX3 (by decide) wd_5_18 dX3_readStore_21 (fun q_7 hq_7 _ => ?_)
    refine tGetR (j := 15) F hK hH (tyb hq_7 (all1 rfl)) rfl (all1 rfl) clX2 (by decide) wd_14_4 dX3_readStore_24 (fun q_8 hq_8 _ => ?_)
    refine lv_iload_n F.1 F.2.1 dX3_readStore_27 rfl (lv_at hl 0 rfl) ?_
    refine lv_aload_n F.1 F.2.1 dX3_readStore_28 rfl (lv_at hl 1 rfl) ?_
    refine tVi (b := a0) (As := []) (rest := [.int z_2, .ref q_8]) F hK hN hO (c_X3_readReachNumber_2 E dA dB rA rc ya yc ye yf rC rD wd1 wd2 wd3 wd4 ws1 ws2 ws3 ws4 wi1 wi2 wi3 wi4 a b c n p f w T RA SA a0 ha0 (by omega) (by omega) (by omega) (by omega) (by omega) (by omega) (by omega) hT hRA hSA) mv_X3_readReachNumber wd_12_15 ⟨Nat.le_of_ble_eq_true rfl, Nat.le_of_ble_eq_true rfl⟩ ⟨Nat.le_of_ble_eq_true rfl, Nat.le_of_ble_eq_true rfl⟩ hH hS (tRecv hK hH (tyb ha0 (all1 rfl)) clX3) rfl hl.1 (Nat.le_of_ble_eq_true rfl) dX3_readStore_29 (fun z_9 H locs hq hS => ?_)
    obtain ⟨g_10, hg_10, g_11, hg_11, f_12, f_13, hH⟩ := hq
    have hH : TH E (tbC dA dB rA (riverD (.inl (a, a)) (.inl (b, b)) (.inl (c, c)) 32 34 36 40 44 48) rc (rdD (.inl (g_10, g_10)) (.inl (n, n)) (.inl (g_11, g_11)) (.inl (w, w)) (.inr [27])) (xB 400 T) ya (xD 14 RA) yc (xD 4 SA) ye yf rC rD wd1 wd2 wd3 wd4 ws1 ws2 ws3 ws4 wi1 wi2 wi3 wi4) H := hH
    refine tIastB F hK hH hS (tyb hq_8 (all1 rfl)) (ixb (n := 4) r_5 rfl rfl) f_12 dX3_readStore_32 (fun H locs hH hS => ?_)
    refine lv_aload_n F.1 F.2.1 dX3_readStore_33 rfl (lv_at hl 1 rfl) ?_
    refine tGetR (j := 5) F hK hH (tyb ha0 (all1 rfl)) rfl (all1 rfl) clX3 (by decide) wd_5_18 dX3_readStore_34 (fun q_14 hq_14 _ => ?_)
    refine tGetR (j := 16) F hK hH (tyb hq_14 (all1 rfl)) rfl (all1 rfl) clX2 (by decide) wd_14_5 dX3_readStore_37 (fun q_15 hq_15 _ => ?_)
    refine lv_iload_n F.1 F.2.1 dX3_readStore_40 rfl (lv_at hl 0 rfl) ?_
    refine lv_aload_n F.1 F.2.1 dX3_readStore_41 rfl (lv_at hl 1 rfl) ?_
    refine lv_iconst (v := 1) F.1 F.2.1 dX3_readStore_42 (by decide) ?_
    refine topK (a := 1) (by decide) (fun k_16 hk_16 => ?_)
    refine lv_ldc (own := RX3) (v := 999999) F.1 F.2.1 F.2.2.2.2.1 (F.2.2.2.2.2.2.1 _ wd_13_11) dX3_readStore_43 ?_
    refine topK (a := 999999) (by decide) (fun k_17 hk_17 => ?_)
    refine tVi (b := a0) (As := [.int k_16, .int k_17]) (rest := [.int z_2, .ref q_15]) F hK hN hO (c_X3_readNumber E dA dB rA (riverD (.inl (a, a)) (.inl (b, b)) (.inl (c, c)) 32 34 36 40 44 48) rc ya (xD 14 RA) yc (xD 4 SA) ye yf rC rD wd1 wd2 wd3 wd4 ws1 ws2 ws3 ws4 wi1 wi2 wi3 wi4 ((.inl (w, w))) (.inr [27]) n g_10 g_11 T 1 999999 a0 k_16 k_17 ha0 (by omega) (by omega) (by omega) hT (by omega) (by omega)) mv_X3_readNumber wd_12_19 ⟨Nat.le_of_ble_eq_true rfl, Nat.le_of_ble_eq_true rfl⟩ ⟨Nat.le_of_ble_eq_true rfl, Nat.le_of_ble_eq_true rfl⟩ hH hS (tRecv hK hH (tyb ha0 (all1 rfl)) clX3) rfl hl.1 (Nat.le_of_ble_eq_true rfl) dX3_readStore_45 (fun z_18 H locs hq hS => ?_)
    obtain ⟨g_19, hg_19, g_20, hg_20, f_21, f_22, f_23, f_24, hH⟩ := hq
    have hH : TH E (tbC dA dB rA (riverD (.inl (a, a)) (.inl (b, b)) (.inl (c, c)) 32 34 36 40 44 48) rc (rdD (.inl (g_19, g_19)) (.inl (n, n)) (.inl (g_20, g_20)) (.inl (w, w)) (.inr [27])) (xB 400 T) ya (xD 14 RA) yc (xD 4 SA) ye yf rC rD wd1 wd2 wd3 wd4 ws1 ws2 ws3 ws4 wi1 wi2 wi3 wi4) H := hH
    have ez_18 : 1 ≤ z_18.toInt ∧ z_18.toInt ≤ 999999 := by omega
    refine tIastB F hK hH hS (tyb hq_15 (all1 rfl)) (ixb (n := 4) r_5 rfl rfl) (wkb ez_18 rfl rfl) dX3_readStore_48 (fun H locs hH hS => ?_)
    refine lv_aload_n F.1 F.2.1 dX3_readStore_49 rfl (lv_at hl 1 rfl) ?_
    refine tGetR (j := 5) F hK hH (tyb ha0 (all1 rfl)) rfl (all1 rfl) clX3 (by decide) wd_5_18 dX3_readStore_50 (fun q_25 hq_25 _ => ?_)
    refine tGetR (j := 17) F hK hH (tyb hq_25 (all1 rfl)) rfl (all1 rfl) clX2 (by decide) wd_14_6 dX3_readStore_53 (fun q_26 hq_26 _ => ?_)
    refine lv_iload_n F.1 F.2.1 dX3_readStore_56 rfl (lv_at hl 0 rfl) ?_
    refine lv_aload_n F.1 F.2.1 dX3_readStore_57 rfl (lv_at hl 1 rfl) ?_
    refine lv_iconst (v := 1) F.1 F.2.1 dX3_readStore_58 (by decide) ?_
    refine topK (a := 1) (by decide) (fun k_27 hk_27 => ?_)
    refine lv_sipush (v := 9999) F.1 F.2.1 dX3_readStore_59 (by decide) ?_
    refine topK (a := 9999) (by decide) (fun k_28 hk_28 => ?_)
    refine tVi (b := a0) (As := [.int k_27, .int k_28]) (rest := [.int z_2, .ref q_26]) F hK hN hO (c_X3_readNumber E dA dB rA (riverD (.inl (a, a)) (.inl (b, b)) (.inl (c, c)) 32 34 36 40 44 48) rc ya (xD 14 RA) yc (xD 4 SA) ye yf rC rD wd1 wd2 wd3 wd4 ws1 ws2 ws3 ws4 wi1 wi2 wi3 wi4 ((.inl (w, w))) (.inr [27]) n g_19 g_20 T 1 9999 a0 k_27 k_28 ha0 (by omega) (by omega) (by omega) hT (by omega) (by omega)) mv_X3_readNumber wd_12_19 ⟨Nat.le_of_ble_eq_true rfl, Nat.le_of_ble_eq_true rfl⟩ ⟨Nat.le_of_ble_eq_true rfl, Nat.le_of_ble_eq_true rfl⟩ hH hS (tRecv hK hH (tyb ha0 (all1 rfl)) clX3) rfl hl.1 (Nat.le_of_ble_eq_true rfl) dX3_readStore_62 (fun z_29 H locs hq hS => ?_)
    obtain ⟨g_30, hg_30, g_31, hg_31, f_32, f_33, f_34, f_35, hH⟩ := hq
    have hH : TH E (tbC dA dB rA (riverD (.inl (a, a)) (.inl (b, b)) (.inl (c, c)) 32 34 36 40 44 48) rc (rdD (.inl (g_30, g_30)) (.inl (n, n)) (.inl (g_31, g_31)) (.inl (w, w)) (.inr [27])) (xB 400 T) ya (xD 14 RA) yc (xD 4 SA) ye yf rC rD wd1 wd2 wd3 wd4 ws1 ws2 ws3 ws4 wi1 wi2 wi3 wi4) H := hH
    have ez_29 : 1 ≤ z_29.toInt ∧ z_29.toInt ≤ 9999 := by omega
    refine tIastB F hK hH hS (tyb hq_26 (all1 rfl)) (ixb (n := 4) r_5 rfl rfl) (wkb ez_29 rfl rfl) dX3_readStore_65 (fun H locs hH hS => ?_)
    refine lv_aload_n F.1 F.2.1 dX3_readStore_66 rfl (lv_at hl 1 rfl) ?_
    refine tGetR (j := 5) F hK hH (tyb ha0 (all1 rfl)) rfl (all1 rfl) clX3 (by decide) wd_5_18 dX3_readStore_67 (fun q_36 hq_36 _ => ?_)
    refine tGetR (j := 18) F hK hH (tyb hq_36 (all1 rfl)) rfl (all1 rfl) clX2 (by decide) wd_14_7 dX3_readStore_70 (fun q_37 hq_37 _ => ?_)
    refine lv_iload_n F.1 F.2.1 dX3_readStore_73 rfl (lv_at hl 0 rfl) ?_
    refine lv_aload_n F.1 F.2.1 dX3_readStore_74 rfl (lv_at hl 1 rfl) ?_
    refine tVi (b := a0) (As := []) (rest := [.int z_2, .ref q_37]) F hK hN hO (c_X3_readAge_2 E dA dB rA rc ya yc ye yf rC rD wd1 wd2 wd3 wd4 ws1 ws2 ws3 ws4 wi1 wi2 wi3 wi4 a b c n g_30 g_31 w T RA SA a0 ha0 (by omega) (by omega) (by omega) (by omega) (by omega) (by omega) (by omega) hT hRA hSA) mv_X3_readAge wd_13_15 ⟨Nat.le_of_ble_eq_true rfl, Nat.le_of_ble_eq_true rfl⟩ ⟨Nat.le_of_ble_eq_true rfl, Nat.le_of_ble_eq_true rfl⟩ hH hS (tRecv hK hH (tyb ha0 (all1 rfl)) clX3) rfl hl.1 (Nat.le_of_ble_eq_true rfl) dX3_readStore_75 (fun z_38 H locs hq hS => ?_)
    obtain ⟨g_39, hg_39, g_40, hg_40, f_41, f_42, hH⟩ := hq
    have hH : TH E (tbC dA dB rA (riverD (.inl (a, a)) (.inl (b, b)) (.inl (c, c)) 32 34 36 40 44 48) rc (rdD (.inl (g_39, g_39)) (.inl (n, n)) (.inl (g_40, g_40)) (.inl (w, w)) (.inr [27])) (xB 400 T) ya (xD 14 RA) yc (xD 4 SA) ye yf rC rD wd1 wd2 wd3 wd4 ws1 ws2 ws3 ws4 wi1 wi2 wi3 wi4) H := hH
    refine tIastX (t := 34) F hK hH hS (List.mem_singleton.mp hq_37) (by decide) rfl (ixb (n := 4) r_5 rfl rfl) dX3_readStore_78 (fun G_43 eG_43 H locs hH hS => ?_)
    have hH : TH E (tbC dA dB rA (riverD (.inl (a, a)) (.inl (b, b)) (.inl (c, c)) 32 34 36 40 44 48) rc (rdD (.inl (g_39, g_39)) (.inl (n, n)) (.inl (g_40, g_40)) (.inl (w, w)) (.inr [27])) (xB 400 T) ya (xD 14 RA) yc (xD 4 G_43) ye yf rC rD wd1 wd2 wd3 wd4 ws1 ws2 ws3 ws4 wi1 wi2 wi3 wi4) H := hH
    have hG_43 : ivP 4 (-2147483648) 2147483647 G_43 := (ivP_updE hSA eG_43 (i32b _))
    refine lv_aload_n F.1 F.2.1 dX3_readStore_79 rfl (lv_at hl 1 rfl) ?_
    refine tGetR (j := 5) F hK hH (tyb ha0 (all1 rfl)) rfl (all1 rfl) clX3 (by decide) wd_5_18 dX3_readStore_80 (fun q_44 hq_44 _ => ?_)
    refine lv_dup F.1 F.2.1 dX3_readStore_83 rfl ?_
    refine tGetI (j := 14) F hK hH (tyb hq_44 (all1 rfl)) rfl clX2 (by decide) wd_14_3 dX3_readStore_84 (fun z_45 hz_45 => ?_)
    have ez_45 : 0 ≤ z_45.toInt ∧ z_45.toInt ≤ 3 := by omega
    refine lv_iconst (v := 1) F.1 F.2.1 dX3_readStore_87 (by decide) ?_
    refine topK (a := 1) (by decide) (fun k_46 hk_46 => ?_)
    refine tAdd (lo := 1) (hi := 4) F dX3_readStore_88 ez_45 (eqb hk_46) rfl (fun z_47 hz_47 => ?_)
    obtain ⟨g_48, hg_48⟩ : ∃ y : Int, z_47.toInt = y := ⟨_, rfl⟩
    have bg_48 : 1 ≤ g_48 ∧ g_48 ≤ 4 := by rw [← hg_48]; exact hz_47.2
    refine tPutG (j := 14) (t := 27) (fd := (.inl (g_48, g_48))) F hK hH hS (List.mem_singleton.mp hq_44) (by decide) rfl rfl (fdI (by omega)) (TB1 := (tbC dA dB rA (riverD (.inl (a, a)) (.inl (b, b)) (.inl (g_48, g_48)) 32 34 36 40 44 48) rc (rdD (.inl (g_39, g_39)) (.inl (n, n)) (.inl (g_40, g_40)) (.inl (w, w)) (.inr [27])) (xB 400 T) ya (xD 14 RA) yc (xD 4 G_43) ye yf rC rD wd1 wd2 wd3 wd4 ws1 ws2 ws3 ws4 wi1 wi2 wi3 wi4)) rfl clX2 (by decide) wd_14_3 rfl rfl rfl rfl dX3_readStore_89 (fun H locs hH hS => ?_)
    exact txV F hS dX3_readStore_92 (⟨g_39, (by omega), g_40, (by omega), g_48, (by omega), G_43, ⟨hG_43, (store_b hg_10.2.2 hg_11.2.2 hg_19.2.2 hg_20.2.2 hg_30.2.2 hg_31.2.2 hg_39.2.2 hg_40.2.2 f_42 (updR eG_43 (by omega) rfl) (by omega) (by omega))⟩, hH⟩)
  · skip
    have r_6 : 4 ≤ z_2.toInt ∧ z_2.toInt ≤ 4 := by have h9_ := ez_2; omega
    refine lv_aload_n F.1 F.2.1 dX3_readStore_13 rfl (lv_at hl 1 rfl) ?_
    refine lv_iload_n F.1 F.2.1 dX3_readStore_14 rfl (lv_at hl 2 rfl) ?_
    refine lv_iconst (v := 3) F.1 F.2.1 dX3_readStore_15 (by decide) ?_
    refine topK (a := 3) (by decide) (fun k_49 hk_49 => ?_)
    refine tVv (b := a0) (As := [.int a1, .int k_49]) (rest := []) F hK hN hO (c_X3_blame E dA dB rA (riverD (.inl (a, a)) (.inl (b, b)) (.inl (c, c)) 32 34 36 40 44 48) rc (xB 400 T) ya (xD 14 RA) yc (xD 4 SA) ye yf rC rD wd1 wd2 wd3 wd4 ws1 ws2 ws3 ws4 wi1 wi2 wi3 wi4 ((.inl (n, n))) ((.inl (p, p))) ((.inl (w, w))) (.inr [27]) f st 3 a0 a1 k_49 ha0 ha1 (wkb (eqb hk_49) rfl rfl) (by omega) (by omega) (by omega)) mv_X3_blame wd_12_11 ⟨Nat.le_of_ble_eq_true rfl, Nat.le_of_ble_eq_true rfl⟩ ⟨Nat.le_of_ble_eq_true rfl, Nat.le_of_ble_eq_true rfl⟩ hH hS (tRecv hK hH (tyb ha0 (all1 rfl)) clX3) rfl hl.1 (Nat.le_of_ble_eq_true rfl) dX3_readStore_16 (fun H locs hq hS => ?_)
    obtain ⟨g_51, hg_51, hH⟩ := hq
    have hH : TH E (tbC dA dB rA (riverD (.inl (a, a)) (.inl (b, b)) (.inl (c, c)) 32 34 36 40 44 48) rc (rdD (.inl (p, p)) (.inl (n, n)) (.inl (g_51, g_51)) (.inl (w, w)) (.inr [27])) (xB 400 T) ya (xD 14 RA) yc (xD 4 SA) ye yf rC rD wd1 wd2 wd3 wd4 ws1 ws2 ws3 ws4 wi1 wi2 wi3 wi4) H := hH
    exact txV F hS dX3_readStore_19 (⟨p, (by omega), g_51, (by omega), c, (by omega), SA, ⟨hSA, (store_a (by omega) hg_51.2.2)⟩, hH⟩)
set_option maxHeartbeats 4000000 in
set_option maxRecDepth 100000 in
theorem c_X3_readPart_1 (E : Ev) (dA : TD) (dB : TD) (rB : TD) (rc : TD) (yb : TD) (yd : TD) (yf : TD) (rC : TD) (rD : TD) (wd2 : TD) (wd3 : TD) (wd4 : TD) (ws2 : TD) (ws3 : TD) (ws4 : TD) (wi2 : TD) (wi3 : TD) (wi4 : TD) (a : Int) (b : Int) (c : Int) (n : Int) (p : Int) (f : Int) (w : Int) (T : Nat → Int32) (RA : Nat → Int32) (SA : Nat → Int32) (D : Nat → Int32) (Kn : Nat → Int32) (Q : Nat → Int32) (a0 : Nat) (ha0 : eT E a0 ∈ [29]) (ha : 0 ≤ a ∧ a ≤ 12) (hb : 0 ≤ b ∧ b ≤ 14) (hc : 0 ≤ c ∧ c ≤ 4) (hn : 0 ≤ n ∧ n ≤ 400) (hp : 0 ≤ p ∧ p ≤ 400) (hf : 0 ≤ f ∧ f ≤ 4000) (hw : 0 ≤ w ∧ w ≤ 1) (hT : ivP 400 (-128) 127 T) (hRA : ivP 14 (-2147483648) 2147483647 RA) (hSA : ivP 4 (-2147483648) 2147483647 SA) (hD : ivP 12 (-2) 11 D) (hKn : ivP 12 (-2147483648) 2147483647 Kn) (hQ : ivP 48 (-2147483648) 2147483647 Q) : TcV E yX3_readPart cX3_readPart 2 ({ frames := 8, cells := 0, slots := 0, locals := 249 }) [.ref a0] (fun H => TH E (tbC dA dB (riverD (.inl (a, a)) (.inl (b, b)) (.inl (c, c)) 31 33 35 39 43 47) rB rc (rdD (.inl (p, p)) (.inl (n, n)) (.inl (f, f)) (.inl (w, w)) (.inr [26])) (xB 400 T) (xD 14 RA) yb (xD 4 SA) yd A14F yf rC rD (xD 12 D) wd2 wd3 wd4 (xD 12 Kn) ws2 ws3 ws4 (xD 48 Q) wi2 wi3 wi4) H) (fun H => ∃ p2 : Int, (0 ≤ p2 ∧ p2 ≤ 400) ∧ ∃ f2 : Int, (0 ≤ f2 ∧ f2 ≤ 4000) ∧ ∃ w2 : Int, (0 ≤ w2 ∧ w2 ≤ 1) ∧ ∃ a2 : Int, (0 ≤ a2 ∧ a2 ≤ 12) ∧ ∃ b2 : Int, (0 ≤ b2 ∧ b2 ≤ 14) ∧ ∃ c2 : Int, (0 ≤ c2 ∧ c2 ≤ 4) ∧ ∃ D2 : Nat → Int32, (ivP 12 (-2) 11 D2) ∧ ∃ Kn2 : Nat → Int32, (ivP 12 (-2147483648) 2147483647 Kn2) ∧ ∃ Q2 : Nat → Int32, (ivP 48 (-2147483648) 2147483647 Q2) ∧ ∃ RA2 : Nat → Int32, (ivP 14 (-2147483648) 2147483647 RA2) ∧ ∃ SA2 : Nat → Int32, (ivP 4 (-2147483648) 2147483647 SA2 ∧ (p2, f2, w2, a2, b2, c2, D2, Q2, Kn2, RA2, SA2) = cPart T n (p, f, w, a, b, c, D, Q, Kn, RA, SA)) ∧ TH E (tbC dA dB (riverD (.inl (a2, a2)) (.inl (b2, b2)) (.inl (c2, c2)) 31 33 35 39 43 47) rB rc (rdD (.inl (p2, p2)) (.inl (n, n)) (.inl (f2, f2)) (.inl (w2, w2)) (.inr [26])) (xB 400 T) (xD 14 RA2) yb (xD 4 SA2) yd A14F yf rC rD (xD 12 D2) wd2 wd3 wd4 (xD 12 Kn2) ws2 ws3 ws4 (xD 48 Q2) wi2 wi3 wi4) H) := by
  refine teV (by decide) (Nat.le_of_ble_eq_true rfl) ?_
  intro p_ ev_ s mi_ below_ meth cd_ ls F hK hN hO hH hS hl
  have hH : TH E (tbC dA dB (riverD (.inl (a, a)) (.inl (b, b)) (.inl (c, c)) 31 33 35 39 43 47) rB rc (rdD (.inl (p, p)) (.inl (n, n)) (.inl (f, f)) (.inl (w, w)) (.inr [26])) (xB 400 T) (xD 14 RA) yb (xD 4 SA) yd A14F yf rC rD (xD 12 D) wd2 wd3 wd4 (xD 12 Kn) ws2 ws3 ws4 (xD 48 Q) wi2 wi3 wi4) s.heap := hH
  have hl : lv_has ls 2 [(0, .ref a0)] := hl
  refine lv_aload_n F.1 F.2.1 dX3_readPart_0 rfl (lv_at hl 0 rfl) ?_
  refine tVv (b := a0) (As := []) (rest := []) F hK hN hO (c_X3_skipBlanks E dA dB (riverD (.inl (a, a)) (.inl (b, b)) (.inl (c, c)) 31 33 35 39 43 47) rB rc (xD 14 RA) yb (xD 4 SA) yd A14F yf rC rD (xD 12 D) wd2 wd3 wd4 (xD 12 Kn) ws2 ws3 ws4 (xD 48 Q) wi2 wi3 wi4 ((.inl (f, f))) ((.inl (w, w))) (.inr [26]) n p T a0 ha0 (by omega) (by omega) hT) mv_X3_skipBlanks wd_9_14 ⟨Nat.le_of_ble_eq_true rfl, Nat.le_of_ble_eq_true rfl⟩ ⟨Nat.le_of_ble_eq_true rfl, Nat.le_of_ble_eq_true rfl⟩ hH hS (tRecv hK hH (tyb ha0 (all1 rfl)) clX3) rfl hl.1 (Nat.le_of_ble_eq_true rfl) dX3_readPart_1 (fun H locs hq hS => ?_)
  obtain ⟨g_2, hg_2, hH⟩ := hq
  have hH : TH E (tbC dA dB (riverD (.inl (a, a)) (.inl (b, b)) (.inl (c, c)) 31 33 35 39 43 47) rB rc (rdD (.inl (g_2, g_2)) (.inl (n, n)) (.inl (f, f)) (.inl (w, w)) (.inr [26])) (xB 400 T) (xD 14 RA) yb (xD 4 SA) yd A14F yf rC rD (xD 12 D) wd2 wd3 wd4 (xD 12 Kn) ws2 ws3 ws4 (xD 48 Q) wi2 wi3 wi4) H := hH
  refine lv_aload_n F.1 F.2.1 dX3_readPart_4 rfl (lv_at hl 0 rfl) ?_
  refine tGetI (j := 2) F hK hH (tyb ha0 (all1 rfl)) rfl clX3 (by decide) wd_9_4 dX3_readPart_5 (fun z_3 hz_3 => ?_)
  have ez_3 : 0 ≤ z_3.toInt ∧ z_3.toInt ≤ 400 := by omega
  refine lv_istore_n (lv' := [(1, .int z_3), (0, .ref a0)]) F.1 F.2.1 dX3_readPart_8 rfl hl (by decide) rfl (fun ls hl => ?_)
  refine lv_aload_n F.1 F.2.1 dX3_readPart_9 rfl (lv_at hl 1 rfl) ?_
  refine va_ldcS F.1 F.2.1 F.2.2.2.2.1 (hO.1 0 _ rfl).1 dX3_readPart_10 ?_
  refine tVi (b := a0) (As := [.ref (eX E 0)]) (rest := []) F hK hN hO (c_X3_isNext E dA dB (riverD (.inl (a, a)) (.inl (b, b)) (.inl (c, c)) 31 33 35 39 43 47) rB rc (xD 14 RA) yb (xD 4 SA) yd A14F yf rC rD (xD 12 D) wd2 wd3 wd4 (xD 12 Kn) ws2 ws3 ws4 (xD 48 Q) wi2 wi3 wi4 ((.inl (w, w))) (.inr [26]) n g_2 f T a0 0 5 ha0 (strAt 0 rfl) (by omega) (by omega) (by omega) hT) mv_X3_isNext wd_9_22 ⟨Nat.le_of_ble_eq_true rfl, Nat.le_of_ble_eq_true rfl⟩ ⟨Nat.le_of_ble_eq_true rfl, Nat.le_of_ble_eq_true rfl⟩ hH hS (tRecv hK hH (tyb ha0 (all1 rfl)) clX3) rfl hl.1 (Nat.le_of_ble_eq_true rfl) dX3_readPart_12 (fun z_4 H locs hq hS => ?_)
  obtain ⟨g_5, hg_5, f_6, f_7, hH⟩ := hq
  have hH : TH E (tbC dA dB (riverD (.inl (a, a)) (.inl (b, b)) (.inl (c, c)) 31 33 35 39 43 47) rB rc (rdD (.inl (g_5, g_5)) (.inl (n, n)) (.inl (f, f)) (.inl (w, w)) (.inr [26])) (xB 400 T) (xD 14 RA) yb (xD 4 SA) yd A14F yf rC rD (xD 12 D) wd2 wd3 wd4 (xD 12 Kn) ws2 ws3 ws4 (xD 48 Q) wi2 wi3 wi4) H := hH
  refine z_eq (tgt := 26) F dX3_readPart_15 (by decide) (fun c_8 => ?_) (fun c_8 => ?_)
  · skip
    have r_9 : 0 ≤ z_4.toInt ∧ z_4.toInt ≤ 0 := by have h9_ := f_6; omega
    refine lv_aload_n F.1 F.2.1 dX3_readPart_26 rfl (lv_at hl 1 rfl) ?_
    refine va_ldcS F.1 F.2.1 F.2.2.2.2.1 (hO.1 3 _ rfl).1 dX3_readPart_27 ?_
    refine tVi (b := a0) (As := [.ref (eX E 3)]) (rest := []) F hK hN hO (c_X3_isNext E dA dB (riverD (.inl (a, a)) (.inl (b, b)) (.inl (c, c)) 31 33 35 39 43 47) rB rc (xD 14 RA) yb (xD 4 SA) yd A14F yf rC rD (xD 12 D) wd2 wd3 wd4 (xD 12 Kn) ws2 ws3 ws4 (xD 48 Q) wi2 wi3 wi4 ((.inl (w, w))) (.inr [26]) n g_5 f T a0 3 5 ha0 (strAt 3 rfl) (by omega) (by omega) (by omega) hT) mv_X3_isNext wd_9_22 ⟨Nat.le_of_ble_eq_true rfl, Nat.le_of_ble_eq_true rfl⟩ ⟨Nat.le_of_ble_eq_true rfl, Nat.le_of_ble_eq_true rfl⟩ hH hS (tRecv hK hH (tyb ha0 (all1 rfl)) clX3) rfl hl.1 (Nat.le_of_ble_eq_true rfl) dX3_readPart_29 (fun z_11 H locs hq hS => ?_)
    obtain ⟨g_12, hg_12, f_13, f_14, hH⟩ := hq
    have hH : TH E (tbC dA dB (riverD (.inl (a, a)) (.inl (b, b)) (.inl (c, c)) 31 33 35 39 43 47) rB rc (rdD (.inl (g_12, g_12)) (.inl (n, n)) (.inl (f, f)) (.inl (w, w)) (.inr [26])) (xB 400 T) (xD 14 RA) yb (xD 4 SA) yd A14F yf rC rD (xD 12 D) wd2 wd3 wd4 (xD 12 Kn) ws2 ws3 ws4 (xD 48 Q) wi2 wi3 wi4) H := hH
    refine z_eq (tgt := 43) F dX3_readPart_32 (by decide) (fun c_15 => ?_) (fun c_15 => ?_)
    · skip
      have r_16 : 0 ≤ z_11.toInt ∧ z_11.toInt ≤ 0 := by have h9_ := f_13; omega
      refine lv_aload_n F.1 F.2.1 dX3_readPart_43 rfl (lv_at hl 1 rfl) ?_
      refine va_ldcS F.1 F.2.1 F.2.2.2.2.1 (hO.1 7 _ rfl).1 dX3_readPart_44 ?_
      refine tVi (b := a0) (As := [.ref (eX E 7)]) (rest := []) F hK hN hO (c_X3_isNext E dA dB (riverD (.inl (a, a)) (.inl (b, b)) (.inl (c, c)) 31 33 35 39 43 47) rB rc (xD 14 RA) yb (xD 4 SA) yd A14F yf rC rD (xD 12 D) wd2 wd3 wd4 (xD 12 Kn) ws2 ws3 ws4 (xD 48 Q) wi2 wi3 wi4 ((.inl (w, w))) (.inr [26]) n g_12 f T a0 7 5 ha0 (strAt 7 rfl) (by omega) (by omega) (by omega) hT) mv_X3_isNext wd_9_22 ⟨Nat.le_of_ble_eq_true rfl, Nat.le_of_ble_eq_true rfl⟩ ⟨Nat.le_of_ble_eq_true rfl, Nat.le_of_ble_eq_true rfl⟩ hH hS (tRecv hK hH (tyb ha0 (all1 rfl)) clX3) rfl hl.1 (Nat.le_of_ble_eq_true rfl) dX3_readPart_46 (fun z_18 H locs hq hS => ?_)
      obtain ⟨g_19, hg_19, f_20, f_21, hH⟩ := hq
      have hH : TH E (tbC dA dB (riverD (.inl (a, a)) (.inl (b, b)) (.inl (c, c)) 31 33 35 39 43 47) rB rc (rdD (.inl (g_19, g_19)) (.inl (n, n)) (.inl (f, f)) (.inl (w, w)) (.inr [26])) (xB 400 T) (xD 14 RA) yb (xD 4 SA) yd A14F yf rC rD (xD 12 D) wd2 wd3 wd4 (xD 12 Kn) ws2 ws3 ws4 (xD 48 Q) wi2 wi3 wi4) H := hH
      refine z_eq (tgt := 60) F dX3_readPart_49 (by decide) (fun c_22 => ?_) (fun c_22 => ?_)
      · skip
        have r_23 : 0 ≤ z_18.toInt ∧ z_18.toInt ≤ 0 := by have h9_ := f_20; omega
        refine lv_aload_n F.1 F.2.1 dX3_readPart_60 rfl (lv_at hl 1 rfl) ?_
        refine va_ldcS F.1 F.2.1 F.2.2.2.2.1 (hO.1 8 _ rfl).1 dX3_readPart_61 ?_
        refine tVi (b := a0) (As := [.ref (eX E 8)]) (rest := []) F hK hN hO (c_X3_isNext E dA dB (riverD (.inl (a, a)) (.inl (b, b)) (.inl (c, c)) 31 33 35 39 43 47) rB rc (xD 14 RA) yb (xD 4 SA) yd A14F yf rC rD (xD 12 D) wd2 wd3 wd4 (xD 12 Kn) ws2 ws3 ws4 (xD 48 Q) wi2 wi3 wi4 ((.inl (w, w))) (.inr [26]) n g_19 f T a0 8 3 ha0 (strAt 8 rfl) (by omega) (by omega) (by omega) hT) mv_X3_isNext wd_9_22 ⟨Nat.le_of_ble_eq_true rfl, Nat.le_of_ble_eq_true rfl⟩ ⟨Nat.le_of_ble_eq_true rfl, Nat.le_of_ble_eq_true rfl⟩ hH hS (tRecv hK hH (tyb ha0 (all1 rfl)) clX3) rfl hl.1 (Nat.le_of_ble_eq_true rfl) dX3_readPart_63 (fun z_25 H locs hq hS => ?_)
        obtain ⟨g_26, hg_26, f_27, f_28, hH⟩ := hq
        have hH : TH E (tbC dA dB (riverD (.inl (a, a)) (.inl (b, b)) (.inl (c, c)) 31 33 35 39 43 47) rB rc (rdD (.inl (g_26, g_26)) (.inl (n, n)) (.inl (f, f)) (.inl (w, w)) (.inr [26])) (xB 400 T) (xD 14 RA) yb (xD 4 SA) yd A14F yf rC rD (xD 12 D) wd2 wd3 wd4 (xD 12 Kn) ws2 ws3 ws4 (xD 48 Q) wi2 wi3 wi4) H := hH
        refine z_eq (tgt := 77) F dX3_readPart_66 (by decide) (fun c_29 => ?_) (fun c_29 => ?_)
        · skip
          have r_30 : 0 ≤ z_25.toInt ∧ z_25.toInt ≤ 0 := by have h9_ := f_27; omega
          refine lv_aload_n F.1 F.2.1 dX3_readPart_77 rfl (lv_at hl 1 rfl) ?_
          refine lv_iload_n F.1 F.2.1 dX3_readPart_78 rfl (lv_at hl 0 rfl) ?_
          refine lv_iconst (v := 1) F.1 F.2.1 dX3_readPart_79 (by decide) ?_
          refine topK (a := 1) (by decide) (fun k_32 hk_32 => ?_)
          refine tVv (b := a0) (As := [.int z_3, .int k_32]) (rest := []) F hK hN hO (c_X3_blame E dA dB (riverD (.inl (a, a)) (.inl (b, b)) (.inl (c, c)) 31 33 35 39 43 47) rB rc (xB 400 T) (xD 14 RA) yb (xD 4 SA) yd A14F yf rC rD (xD 12 D) wd2 wd3 wd4 (xD 12 Kn) ws2 ws3 ws4 (xD 48 Q) wi2 wi3 wi4 ((.inl (n, n))) ((.inl (g_26, g_26))) ((.inl (w, w))) (.inr [26]) f g_2 1 a0 z_3 k_32 ha0 ez_3 (wkb (eqb hk_32) rfl rfl) (by omega) (by omega) (by omega)) mv_X3_blame wd_12_11 ⟨Nat.le_of_ble_eq_true rfl, Nat.le_of_ble_eq_true rfl⟩ ⟨Nat.le_of_ble_eq_true rfl, Nat.le_of_ble_eq_true rfl⟩ hH hS (tRecv hK hH (tyb ha0 (all1 rfl)) clX3) rfl hl.1 (Nat.le_of_ble_eq_true rfl) dX3_readPart_80 (fun H locs hq hS => ?_)
          obtain ⟨g_34, hg_34, hH⟩ := hq
          have hH : TH E (tbC dA dB (riverD (.inl (a, a)) (.inl (b, b)) (.inl (c, c)) 31 33 35 39 43 47) rB rc (rdD (.inl (g_26, g_26)) (.inl (n, n)) (.inl (g_34, g_34)) (.inl (w, w)) (.inr [26])) (xB 400 T) (xD 14 RA) yb (xD 4 SA) yd A14F yf rC rD (xD 12 D) wd2 wd3 wd4 (xD 12 Kn) ws2 ws3 ws4 (xD 48 Q) wi2 wi3 wi4) H := hH
          exact txV F hS dX3_readPart_83 (⟨g_26, (by omega), g_34, (by omega), w, (by omega), a, (by omega), b, (by omega), c, (by omega), D, hD, Kn, hKn, Q, hQ, RA, hRA, SA, ⟨hSA, (part3_5 hg_2.2.2 f_7 hg_5.2.2 f_14 hg_12.2.2 f_21 hg_19.2.2 f_28 hg_26.2.2 hg_34.2.2 (by omega) (by omega) (by omega) (by omega))⟩, hH⟩)
        · skip
          have r_31 : 1 ≤ z_25.toInt ∧ z_25.toInt ≤ 1 := by have h9_ := f_27; omega
          refine lv_aload_n F.1 F.2.1 dX3_readPart_69 rfl (lv_at hl 1 rfl) ?_
          refine lv_iload_n F.1 F.2.1 dX3_readPart_70 rfl (lv_at hl 0 rfl) ?_
          refine tVv (b := a0) (As := [.int z_3]) (rest := []) F hK hN hO (c_X3_readWet_1 E dA dB rB rc yb yd A14F yf rC rD (xD 12 D) wd2 wd3 wd4 (xD 12 Kn) ws2 ws3 ws4 (xD 48 Q) wi2 wi3 wi4 a b c n g_26 f w T RA SA g_2 a0 z_3 ha0 ez_3 (by omega) (by omega) (by omega) (by omega) (by omega) (by omega) (by omega) hT hRA hSA (by omega)) mv_X3_readWet wd_14_8 ⟨Nat.le_of_ble_eq_true rfl, Nat.le_of_ble_eq_true rfl⟩ ⟨Nat.le_of_ble_eq_true rfl, Nat.le_of_ble_eq_true rfl⟩ hH hS (tRecv hK hH (tyb ha0 (all1 rfl)) clX3) rfl hl.1 (Nat.le_of_ble_eq_true rfl) dX3_readPart_71 (fun H locs hq hS => ?_)
          obtain ⟨g_36, hg_36, g_37, hg_37, g_38, hg_38, hH⟩ := hq
          have hH : TH E (tbC dA dB (riverD (.inl (a, a)) (.inl (b, b)) (.inl (c, c)) 31 33 35 39 43 47) rB rc (rdD (.inl (g_36, g_36)) (.inl (n, n)) (.inl (g_37, g_37)) (.inl (g_38, g_38)) (.inr [26])) (xB 400 T) (xD 14 RA) yb (xD 4 SA) yd A14F yf rC rD (xD 12 D) wd2 wd3 wd4 (xD 12 Kn) ws2 ws3 ws4 (xD 48 Q) wi2 wi3 wi4) H := hH
          refine lv_goto (tgt := 83) F.1 F.2.1 dX3_readPart_74 (by decide) ?_
          exact txV F hS dX3_readPart_83 (⟨g_36, (by omega), g_37, (by omega), g_38, (by omega), a, (by omega), b, (by omega), c, (by omega), D, hD, Kn, hKn, Q, hQ, RA, hRA, SA, ⟨hSA, (part3_4 hg_2.2.2 f_7 hg_5.2.2 f_14 hg_12.2.2 f_21 hg_19.2.2 f_28 hg_26.2.2 (lift_wet hg_38.2.2) (by omega) (by omega) (by omega) (by omega))⟩, hH⟩)
      · skip
        have r_24 : 1 ≤ z_18.toInt ∧ z_18.toInt ≤ 1 := by have h9_ := f_20; omega
        refine lv_aload_n F.1 F.2.1 dX3_readPart_52 rfl (lv_at hl 1 rfl) ?_
        refine lv_iload_n F.1 F.2.1 dX3_readPart_53 rfl (lv_at hl 0 rfl) ?_
        refine tVv (b := a0) (As := [.int z_3]) (rest := []) F hK hN hO (c_X3_readStore_1 E dA dB rB rc yb yd A14F yf rC rD (xD 12 D) wd2 wd3 wd4 (xD 12 Kn) ws2 ws3 ws4 (xD 48 Q) wi2 wi3 wi4 a b c n g_19 f w T RA SA g_2 a0 z_3 ha0 ez_3 (by omega) (by omega) (by omega) (by omega) (by omega) (by omega) (by omega) hT hRA hSA (by omega)) mv_X3_readStore wd_13_23 ⟨Nat.le_of_ble_eq_true rfl, Nat.le_of_ble_eq_true rfl⟩ ⟨Nat.le_of_ble_eq_true rfl, Nat.le_of_ble_eq_true rfl⟩ hH hS (tRecv hK hH (tyb ha0 (all1 rfl)) clX3) rfl hl.1 (Nat.le_of_ble_eq_true rfl) dX3_readPart_54 (fun H locs hq hS => ?_)
        obtain ⟨g_40, hg_40, g_41, hg_41, g_42, hg_42, g_43, hg_43, hH⟩ := hq
        have hH : TH E (tbC dA dB (riverD (.inl (a, a)) (.inl (b, b)) (.inl (g_42, g_42)) 31 33 35 39 43 47) rB rc (rdD (.inl (g_40, g_40)) (.inl (n, n)) (.inl (g_41, g_41)) (.inl (w, w)) (.inr [26])) (xB 400 T) (xD 14 RA) yb (xD 4 g_43) yd A14F yf rC rD (xD 12 D) wd2 wd3 wd4 (xD 12 Kn) ws2 ws3 ws4 (xD 48 Q) wi2 wi3 wi4) H := hH
        refine lv_goto (tgt := 83) F.1 F.2.1 dX3_readPart_57 (by decide) ?_
        exact txV F hS dX3_readPart_83 (⟨g_40, (by omega), g_41, (by omega), w, (by omega), a, (by omega), b, (by omega), g_42, (by omega), D, hD, Kn, hKn, Q, hQ, RA, hRA, g_43, ⟨hg_43.1, (part3_3 hg_2.2.2 f_7 hg_5.2.2 f_14 hg_12.2.2 f_21 hg_19.2.2 (lift_store hg_43.2) (by omega) (by omega) (by omega))⟩, hH⟩)
    · skip
      have r_17 : 1 ≤ z_11.toInt ∧ z_11.toInt ≤ 1 := by have h9_ := f_13; omega
      refine lv_aload_n F.1 F.2.1 dX3_readPart_35 rfl (lv_at hl 1 rfl) ?_
      refine lv_iload_n F.1 F.2.1 dX3_readPart_36 rfl (lv_at hl 0 rfl) ?_
      refine tVv (b := a0) (As := [.int z_3]) (rest := []) F hK hN hO (c_X3_readRight_1 E dA dB rB rc yb yd yf rC rD (xD 12 D) wd2 wd3 wd4 (xD 12 Kn) ws2 ws3 ws4 (xD 48 Q) wi2 wi3 wi4 a b c n g_12 f w T RA SA g_2 a0 z_3 ha0 ez_3 (by omega) (by omega) (by omega) (by omega) (by omega) (by omega) (by omega) hT hRA hSA (by omega)) mv_X3_readRight wd_13_0 ⟨Nat.le_of_ble_eq_true rfl, Nat.le_of_ble_eq_true rfl⟩ ⟨Nat.le_of_ble_eq_true rfl, Nat.le_of_ble_eq_true rfl⟩ hH hS (tRecv hK hH (tyb ha0 (all1 rfl)) clX3) rfl hl.1 (Nat.le_of_ble_eq_true rfl) dX3_readPart_37 (fun H locs hq hS => ?_)
      obtain ⟨g_45, hg_45, g_46, hg_46, g_47, hg_47, g_48, hg_48, hH⟩ := hq
      have hH : TH E (tbC dA dB (riverD (.inl (a, a)) (.inl (g_47, g_47)) (.inl (c, c)) 31 33 35 39 43 47) rB rc (rdD (.inl (g_45, g_45)) (.inl (n, n)) (.inl (g_46, g_46)) (.inl (w, w)) (.inr [26])) (xB 400 T) (xD 14 g_48) yb (xD 4 SA) yd A14F yf rC rD (xD 12 D) wd2 wd3 wd4 (xD 12 Kn) ws2 ws3 ws4 (xD 48 Q) wi2 wi3 wi4) H := hH
      refine lv_goto (tgt := 83) F.1 F.2.1 dX3_readPart_40 (by decide) ?_
      exact txV F hS dX3_readPart_83 (⟨g_45, (by omega), g_46, (by omega), w, (by omega), a, (by omega), g_47, (by omega), c, (by omega), D, hD, Kn, hKn, Q, hQ, g_48, hg_48.1, SA, ⟨hSA, (part3_2 hg_2.2.2 f_7 hg_5.2.2 f_14 hg_12.2.2 (lift_right hg_48.2) (by omega) (by omega))⟩, hH⟩)
  · skip
    have r_10 : 1 ≤ z_4.toInt ∧ z_4.toInt ≤ 1 := by have h9_ := f_6; omega
    refine lv_aload_n F.1 F.2.1 dX3_readPart_18 rfl (lv_at hl 1 rfl) ?_
    refine lv_iload_n F.1 F.2.1 dX3_readPart_19 rfl (lv_at hl 0 rfl) ?_
    refine tVv (b := a0) (As := [.int z_3]) (rest := []) F hK hN hO (c_X3_readReach_1 E dA dB rB rc yb yd A14F yf rC rD wd2 wd3 wd4 ws2 ws3 ws4 wi2 wi3 wi4 a b c n g_5 f w T RA SA D Kn Q g_2 a0 z_3 ha0 ez_3 (by omega) (by omega) (by omega) (by omega) (by omega) (by omega) (by omega) hT hRA hSA hD hKn hQ (by omega)) mv_X3_readReach wd_12_3 ⟨Nat.le_of_ble_eq_true rfl, Nat.le_of_ble_eq_true rfl⟩ ⟨Nat.le_of_ble_eq_true rfl, Nat.le_of_ble_eq_true rfl⟩ hH hS (tRecv hK hH (tyb ha0 (all1 rfl)) clX3) rfl hl.1 (Nat.le_of_ble_eq_true rfl) dX3_readPart_20 (fun H locs hq hS => ?_)
    obtain ⟨g_50, hg_50, g_51, hg_51, g_52, hg_52, g_53, hg_53, g_54, hg_54, g_55, hg_55, hH⟩ := hq
    have hH : TH E (tbC dA dB (riverD (.inl (g_52, g_52)) (.inl (b, b)) (.inl (c, c)) 31 33 35 39 43 47) rB rc (rdD (.inl (g_50, g_50)) (.inl (n, n)) (.inl (g_51, g_51)) (.inl (w, w)) (.inr [26])) (xB 400 T) (xD 14 RA) yb (xD 4 SA) yd A14F yf rC rD (xD 12 g_53) wd2 wd3 wd4 (xD 12 g_54) ws2 ws3 ws4 (xD 48 g_55) wi2 wi3 wi4) H := hH
    refine lv_goto (tgt := 83) F.1 F.2.1 dX3_readPart_23 (by decide) ?_
    exact txV F hS dX3_readPart_83 (⟨g_50, (by omega), g_51, (by omega), w, (by omega), g_52, (by omega), b, (by omega), c, (by omega), g_53, hg_53, g_54, hg_54, g_55, hg_55.1, RA, hRA, SA, ⟨hSA, (part3_1 hg_2.2.2 f_7 hg_5.2.2 hg_55.2 (by omega))⟩, hH⟩)
set_option maxHeartbeats 4000000 in
set_option maxRecDepth 100000 in
theorem c_X3_readPart_2 (E : Ev) (dA : TD) (dB : TD) (rA : TD) (rc : TD) (ya : TD) (yc : TD) (ye : TD) (rC : TD) (rD : TD) (wd1 : TD) (wd3 : TD) (wd4 : TD) (ws1 : TD) (ws3 : TD) (ws4 : TD) (wi1 : TD) (wi3 : TD) (wi4 : TD) (a : Int) (b : Int) (c : Int) (n : Int) (p : Int) (f : Int) (w : Int) (T : Nat → Int32) (RA : Nat → Int32) (SA : Nat → Int32) (D : Nat → Int32) (Kn : Nat → Int32) (Q : Nat → Int32) (a0 : Nat) (ha0 : eT E a0 ∈ [29]) (ha : 0 ≤ a ∧ a ≤ 12) (hb : 0 ≤ b ∧ b ≤ 14) (hc : 0 ≤ c ∧ c ≤ 4) (hn : 0 ≤ n ∧ n ≤ 400) (hp : 0 ≤ p ∧ p ≤ 400) (hf : 0 ≤ f ∧ f ≤ 4000) (hw : 0 ≤ w ∧ w ≤ 1) (hT : ivP 400 (-128) 127 T) (hRA : ivP 14 (-2147483648) 2147483647 RA) (hSA : ivP 4 (-2147483648) 2147483647 SA) (hD : ivP 12 (-2) 11 D) (hKn : ivP 12 (-2147483648) 2147483647 Kn) (hQ : ivP 48 (-2147483648) 2147483647 Q) : TcV E yX3_readPart cX3_readPart 2 ({ frames := 8, cells := 0, slots := 0, locals := 249 }) [.ref a0] (fun H => TH E (tbC dA dB rA (riverD (.inl (a, a)) (.inl (b, b)) (.inl (c, c)) 32 34 36 40 44 48) rc (rdD (.inl (p, p)) (.inl (n, n)) (.inl (f, f)) (.inl (w, w)) (.inr [27])) (xB 400 T) ya (xD 14 RA) yc (xD 4 SA) ye A14F rC rD wd1 (xD 12 D) wd3 wd4 ws1 (xD 12 Kn) ws3 ws4 wi1 (xD 48 Q) wi3 wi4) H) (fun H => ∃ p2 : Int, (0 ≤ p2 ∧ p2 ≤ 400) ∧ ∃ f2 : Int, (0 ≤ f2 ∧ f2 ≤ 4000) ∧ ∃ w2 : Int, (0 ≤ w2 ∧ w2 ≤ 1) ∧ ∃ a2 : Int, (0 ≤ a2 ∧ a2 ≤ 12) ∧ ∃ b2 : Int, (0 ≤ b2 ∧ b2 ≤ 14) ∧ ∃ c2 : Int, (0 ≤ c2 ∧ c2 ≤ 4) ∧ ∃ D2 : Nat → Int32, (ivP 12 (-2) 11 D2) ∧ ∃ Kn2 : Nat → Int32, (ivP 12 (-2147483648) 2147483647 Kn2) ∧ ∃ Q2 : Nat → Int32, (ivP 48 (-2147483648) 2147483647 Q2) ∧ ∃ RA2 : Nat → Int32, (ivP 14 (-2147483648) 2147483647 RA2) ∧ ∃ SA2 : Nat → Int32, (ivP 4 (-2147483648) 2147483647 SA2 ∧ (p2, f2, w2, a2, b2, c2, D2, Q2, Kn2, RA2, SA2) = cPart T n (p, f, w, a, b, c, D, Q, Kn, RA, SA)) ∧ TH E (tbC dA dB rA (riverD (.inl (a2, a2)) (.inl (b2, b2)) (.inl (c2, c2)) 32 34 36 40 44 48) rc (rdD (.inl (p2, p2)) (.inl (n, n)) (.inl (f2, f2)) (.inl (w2, w2)) (.inr [27])) (xB 400 T) ya (xD 14 RA2) yc (xD 4 SA2) ye A14F rC rD wd1 (xD 12 D2) wd3 wd4 ws1 (xD 12 Kn2) ws3 ws4 wi1 (xD 48 Q2) wi3 wi4) H) := by
  refine teV (by decide) (Nat.le_of_ble_eq_true rfl) ?_
  intro p_ ev_ s mi_ below_ meth cd_ ls F hK hN hO hH hS hl
  have hH : TH E (tbC dA dB rA (riverD (.inl (a, a)) (.inl (b, b)) (.inl (c, c)) 32 34 36 40 44 48) rc (rdD (.inl (p, p)) (.inl (n, n)) (.inl (f, f)) (.inl (w, w)) (.inr [27])) (xB 400 T) ya (xD 14 RA) yc (xD 4 SA) ye A14F rC rD wd1 (xD 12 D) wd3 wd4 ws1 (xD 12 Kn) ws3 ws4 wi1 (xD 48 Q) wi3 wi4) s.heap := hH
  have hl : lv_has ls 2 [(0, .ref a0)] := hl
  refine lv_aload_n F.1 F.2.1 dX3_readPart_0 rfl (lv_at hl 0 rfl) ?_
  refine tVv (b := a0) (As := []) (rest := []) F hK hN hO (c_X3_skipBlanks E dA dB rA (riverD (.inl (a, a)) (.inl (b, b)) (.inl (c, c)) 32 34 36 40 44 48) rc ya (xD 14 RA) yc (xD 4 SA) ye A14F rC rD wd1 (xD 12 D) wd3 wd4 ws1 (xD 12 Kn) ws3 ws4 wi1 (xD 48 Q) wi3 wi4 ((.inl (f, f))) ((.inl (w, w))) (.inr [27]) n p T a0 ha0 (by omega) (by omega) hT) mv_X3_skipBlanks wd_9_14 ⟨Nat.le_of_ble_eq_true rfl, Nat.le_of_ble_eq_true rfl⟩ ⟨Nat.le_of_ble_eq_true rfl, Nat.le_of_ble_eq_true rfl⟩ hH hS (tRecv hK hH (tyb ha0 (all1 rfl)) clX3) rfl hl.1 (Nat.le_of_ble_eq_true rfl) dX3_readPart_1 (fun H locs hq hS => ?_)
  obtain ⟨g_2, hg_2, hH⟩ := hq
  have hH : TH E (tbC dA dB rA (riverD (.inl (a, a)) (.inl (b, b)) (.inl (c, c)) 32 34 36 40 44 48) rc (rdD (.inl (g_2, g_2)) (.inl (n, n)) (.inl (f, f)) (.inl (w, w)) (.inr [27])) (xB 400 T) ya (xD 14 RA) yc (xD 4 SA) ye A14F rC rD wd1 (xD 12 D) wd3 wd4 ws1 (xD 12 Kn) ws3 ws4 wi1 (xD 48 Q) wi3 wi4) H := hH
  refine lv_aload_n F.1 F.2.1 dX3_readPart_4 rfl (lv_at hl 0 rfl) ?_
  refine tGetI (j := 2) F hK hH (tyb ha0 (all1 rfl)) rfl clX3 (by decide) wd_9_4 dX3_readPart_5 (fun z_3 hz_3 => ?_)
  have ez_3 : 0 ≤ z_3.toInt ∧ z_3.toInt ≤ 400 := by omega
  refine lv_istore_n (lv' := [(1, .int z_3), (0, .ref a0)]) F.1 F.2.1 dX3_readPart_8 rfl hl (by decide) rfl (fun ls hl => ?_)
  refine lv_aload_n F.1 F.2.1 dX3_readPart_9 rfl (lv_at hl 1 rfl) ?_
  refine va_ldcS F.1 F.2.1 F.2.2.2.2.1 (hO.1 0 _ rfl).1 dX3_readPart_10 ?_
  refine tVi (b := a0) (As := [.ref (eX E 0)]) (rest := []) F hK hN hO (c_X3_isNext E dA dB rA (riverD (.inl (a, a)) (.inl (b, b)) (.inl (c, c)) 32 34 36 40 44 48) rc ya (xD 14 RA) yc (xD 4 SA) ye A14F rC rD wd1 (xD 12 D) wd3 wd4 ws1 (xD 12 Kn) ws3 ws4 wi1 (xD 48 Q) wi3 wi4 ((.inl (w, w))) (.inr [27]) n g_2 f T a0 0 5 ha0 (strAt 0 rfl) (by omega) (by omega) (by omega) hT) mv_X3_isNext wd_9_22 ⟨Nat.le_of_ble_eq_true rfl, Nat.le_of_ble_eq_true rfl⟩ ⟨Nat.le_of_ble_eq_true rfl, Nat.le_of_ble_eq_true rfl⟩ hH hS (tRecv hK hH (tyb ha0 (all1 rfl)) clX3) rfl hl.1 (Nat.le_of_ble_eq_true rfl) dX3_readPart_12 (fun z_4 H locs hq hS => ?_)
  obtain ⟨g_5, hg_5, f_6, f_7, hH⟩ := hq
  have hH : TH E (tbC dA dB rA (riverD (.inl (a, a)) (.inl (b, b)) (.inl (c, c)) 32 34 36 40 44 48) rc (rdD (.inl (g_5, g_5)) (.inl (n, n)) (.inl (f, f)) (.inl (w, w)) (.inr [27])) (xB 400 T) ya (xD 14 RA) yc (xD 4 SA) ye A14F rC rD wd1 (xD 12 D) wd3 wd4 ws1 (xD 12 Kn) ws3 ws4 wi1 (xD 48 Q) wi3 wi4) H := hH
  refine z_eq (tgt := 26) F dX3_readPart_15 (by decide) (fun c_8 => ?_) (fun c_8 => ?_)
  · skip
    have r_9 : 0 ≤ z_4.toInt ∧ z_4.toInt ≤ 0 := by have h9_ := f_6; omega
    refine lv_aload_n F.1 F.2.1 dX3_readPart_26 rfl (lv_at hl 1 rfl) ?_
    refine va_ldcS F.1 F.2.1 F.2.2.2.2.1 (hO.1 3 _ rfl).1 dX3_readPart_27 ?_
    refine tVi (b := a0) (As := [.ref (eX E 3)]) (rest := []) F hK hN hO (c_X3_isNext E dA dB rA (riverD (.inl (a, a)) (.inl (b, b)) (.inl (c, c)) 32 34 36 40 44 48) rc ya (xD 14 RA) yc (xD 4 SA) ye A14F rC rD wd1 (xD 12 D) wd3 wd4 ws1 (xD 12 Kn) ws3 ws4 wi1 (xD 48 Q) wi3 wi4 ((.inl (w, w))) (.inr [27]) n g_5 f T a0 3 5 ha0 (strAt 3 rfl) (by omega) (by omega) (by omega) hT) mv_X3_isNext wd_9_22 ⟨Nat.le_of_ble_eq_true rfl, Nat.le_of_ble_eq_true rfl⟩ ⟨Nat.le_of_ble_eq_true rfl, Nat.le_of_ble_eq_true rfl⟩ hH hS (tRecv hK hH (tyb ha0 (all1 rfl)) clX3) rfl hl.1 (Nat.le_of_ble_eq_true rfl) dX3_readPart_29 (fun z_11 H locs hq hS => ?_)
    obtain ⟨g_12, hg_12, f_13, f_14, hH⟩ := hq
    have hH : TH E (tbC dA dB rA (riverD (.inl (a, a)) (.inl (b, b)) (.inl (c, c)) 32 34 36 40 44 48) rc (rdD (.inl (g_12, g_12)) (.inl (n, n)) (.inl (f, f)) (.inl (w, w)) (.inr [27])) (xB 400 T) ya (xD 14 RA) yc (xD 4 SA) ye A14F rC rD wd1 (xD 12 D) wd3 wd4 ws1 (xD 12 Kn) ws3 ws4 wi1 (xD 48 Q) wi3 wi4) H := hH
    refine z_eq (tgt := 43) F dX3_readPart_32 (by decide) (fun c_15 => ?_) (fun c_15 => ?_)
    · skip
      have r_16 : 0 ≤ z_11.toInt ∧ z_11.toInt ≤ 0 := by have h9_ := f_13; omega
      refine lv_aload_n F.1 F.2.1 dX3_readPart_43 rfl (lv_at hl 1 rfl) ?_
      refine va_ldcS F.1 F.2.1 F.2.2.2.2.1 (hO.1 7 _ rfl).1 dX3_readPart_44 ?_
      refine tVi (b := a0) (As := [.ref (eX E 7)]) (rest := []) F hK hN hO (c_X3_isNext E dA dB rA (riverD (.inl (a, a)) (.inl (b, b)) (.inl (c, c)) 32 34 36 40 44 48) rc ya (xD 14 RA) yc (xD 4 SA) ye A14F rC rD wd1 (xD 12 D) wd3 wd4 ws1 (xD 12 Kn) ws3 ws4 wi1 (xD 48 Q) wi3 wi4 ((.inl (w, w))) (.inr [27]) n g_12 f T a0 7 5 ha0 (strAt 7 rfl) (by omega) (by omega) (by omega) hT) mv_X3_isNext wd_9_22 ⟨Nat.le_of_ble_eq_true rfl, Nat.le_of_ble_eq_true rfl⟩ ⟨Nat.le_of_ble_eq_true rfl, Nat.le_of_ble_eq_true rfl⟩ hH hS (tRecv hK hH (tyb ha0 (all1 rfl)) clX3) rfl hl.1 (Nat.le_of_ble_eq_true rfl) dX3_readPart_46 (fun z_18 H locs hq hS => ?_)
      obtain ⟨g_19, hg_19, f_20, f_21, hH⟩ := hq
      have hH : TH E (tbC dA dB rA (riverD (.inl (a, a)) (.inl (b, b)) (.inl (c, c)) 32 34 36 40 44 48) rc (rdD (.inl (g_19, g_19)) (.inl (n, n)) (.inl (f, f)) (.inl (w, w)) (.inr [27])) (xB 400 T) ya (xD 14 RA) yc (xD 4 SA) ye A14F rC rD wd1 (xD 12 D) wd3 wd4 ws1 (xD 12 Kn) ws3 ws4 wi1 (xD 48 Q) wi3 wi4) H := hH
      refine z_eq (tgt := 60) F dX3_readPart_49 (by decide) (fun c_22 => ?_) (fun c_22 => ?_)
      · skip
        have r_23 : 0 ≤ z_18.toInt ∧ z_18.toInt ≤ 0 := by have h9_ := f_20; omega
        refine lv_aload_n F.1 F.2.1 dX3_readPart_60 rfl (lv_at hl 1 rfl) ?_
        refine va_ldcS F.1 F.2.1 F.2.2.2.2.1 (hO.1 8 _ rfl).1 dX3_readPart_61 ?_
        refine tVi (b := a0) (As := [.ref (eX E 8)]) (rest := []) F hK hN hO (c_X3_isNext E dA dB rA (riverD (.inl (a, a)) (.inl (b, b)) (.inl (c, c)) 32 34 36 40 44 48) rc ya (xD 14 RA) yc (xD 4 SA) ye A14F rC rD wd1 (xD 12 D) wd3 wd4 ws1 (xD 12 Kn) ws3 ws4 wi1 (xD 48 Q) wi3 wi4 ((.inl (w, w))) (.inr [27]) n g_19 f T a0 8 3 ha0 (strAt 8 rfl) (by omega) (by omega) (by omega) hT) mv_X3_isNext wd_9_22 ⟨Nat.le_of_ble_eq_true rfl, Nat.le_of_ble_eq_true rfl⟩ ⟨Nat.le_of_ble_eq_true rfl, Nat.le_of_ble_eq_true rfl⟩ hH hS (tRecv hK hH (tyb ha0 (all1 rfl)) clX3) rfl hl.1 (Nat.le_of_ble_eq_true rfl) dX3_readPart_63 (fun z_25 H locs hq hS => ?_)
        obtain ⟨g_26, hg_26, f_27, f_28, hH⟩ := hq
        have hH : TH E (tbC dA dB rA (riverD (.inl (a, a)) (.inl (b, b)) (.inl (c, c)) 32 34 36 40 44 48) rc (rdD (.inl (g_26, g_26)) (.inl (n, n)) (.inl (f, f)) (.inl (w, w)) (.inr [27])) (xB 400 T) ya (xD 14 RA) yc (xD 4 SA) ye A14F rC rD wd1 (xD 12 D) wd3 wd4 ws1 (xD 12 Kn) ws3 ws4 wi1 (xD 48 Q) wi3 wi4) H := hH
        refine z_eq (tgt := 77) F dX3_readPart_66 (by decide) (fun c_29 => ?_) (fun c_29 => ?_)
        · skip
          have r_30 : 0 ≤ z_25.toInt ∧ z_25.toInt ≤ 0 := by have h9_ := f_27; omega
          refine lv_aload_n F.1 F.2.1 dX3_readPart_77 rfl (lv_at hl 1 rfl) ?_
          refine lv_iload_n F.1 F.2.1 dX3_readPart_78 rfl (lv_at hl 0 rfl) ?_
          refine lv_iconst (v := 1) F.1 F.2.1 dX3_readPart_79 (by decide) ?_
          refine topK (a := 1) (by decide) (fun k_32 hk_32 => ?_)
          refine tVv (b := a0) (As := [.int z_3, .int k_32]) (rest := []) F hK hN hO (c_X3_blame E dA dB rA (riverD (.inl (a, a)) (.inl (b, b)) (.inl (c, c)) 32 34 36 40 44 48) rc (xB 400 T) ya (xD 14 RA) yc (xD 4 SA) ye A14F rC rD wd1 (xD 12 D) wd3 wd4 ws1 (xD 12 Kn) ws3 ws4 wi1 (xD 48 Q) wi3 wi4 ((.inl (n, n))) ((.inl (g_26, g_26))) ((.inl (w, w))) (.inr [27]) f g_2 1 a0 z_3 k_32 ha0 ez_3 (wkb (eqb hk_32) rfl rfl) (by omega) (by omega) (by omega)) mv_X3_blame wd_12_11 ⟨Nat.le_of_ble_eq_true rfl, Nat.le_of_ble_eq_true rfl⟩ ⟨Nat.le_of_ble_eq_true rfl, Nat.le_of_ble_eq_true rfl⟩ hH hS (tRecv hK hH (tyb ha0 (all1 rfl)) clX3) rfl hl.1 (Nat.le_of_ble_eq_true rfl) dX3_readPart_80 (fun H locs hq hS => ?_)
          obtain ⟨g_34, hg_34, hH⟩ := hq
          have hH : TH E (tbC dA dB rA (riverD (.inl (a, a)) (.inl (b, b)) (.inl (c, c)) 32 34 36 40 44 48) rc (rdD (.inl (g_26, g_26)) (.inl (n, n)) (.inl (g_34, g_34)) (.inl (w, w)) (.inr [27])) (xB 400 T) ya (xD 14 RA) yc (xD 4 SA) ye A14F rC rD wd1 (xD 12 D) wd3 wd4 ws1 (xD 12 Kn) ws3 ws4 wi1 (xD 48 Q) wi3 wi4) H := hH
          exact txV F hS dX3_readPart_83 (⟨g_26, (by omega), g_34, (by omega), w, (by omega), a, (by omega), b, (by omega), c, (by omega), D, hD, Kn, hKn, Q, hQ, RA, hRA, SA, ⟨hSA, (part3_5 hg_2.2.2 f_7 hg_5.2.2 f_14 hg_12.2.2 f_21 hg_19.2.2 f_28 hg_26.2.2 hg_34.2.2 (by omega) (by omega) (by omega) (by omega))⟩, hH⟩)
        · skip
          have r_31 : 1 ≤ z_25.toInt ∧ z_25.toInt ≤ 1 := by have h9_ := f_27; omega
          refine lv_aload_n F.1 F.2.1 dX3_readPart_69 rfl (lv_at hl 1 rfl) ?_
          refine lv_iload_n F.1 F.2.1 dX3_readPart_70 rfl (lv_at hl 0 rfl) ?_
          refine tVv (b := a0) (As := [.int z_3]) (rest := []) F hK hN hO (c_X3_readWet_2 E dA dB rA rc ya yc ye A14F rC rD wd1 (xD 12 D) wd3 wd4 ws1 (xD 12 Kn) ws3 ws4 wi1 (xD 48 Q) wi3 wi4 a b c n g_26 f w T RA SA g_2 a0 z_3 ha0 ez_3 (by omega) (by omega) (by omega) (by omega) (by omega) (by omega) (by omega) hT hRA hSA (by omega)) mv_X3_readWet wd_14_8 ⟨Nat.le_of_ble_eq_true rfl, Nat.le_of_ble_eq_true rfl⟩ ⟨Nat.le_of_ble_eq_true rfl, Nat.le_of_ble_eq_true rfl⟩ hH hS (tRecv hK hH (tyb ha0 (all1 rfl)) clX3) rfl hl.1 (Nat.le_of_ble_eq_true rfl) dX3_readPart_71 (fun H locs hq hS => ?_)
          obtain ⟨g_36, hg_36, g_37, hg_37, g_38, hg_38, hH⟩ := hq
          have hH : TH E (tbC dA dB rA (riverD (.inl (a, a)) (.inl (b, b)) (.inl (c, c)) 32 34 36 40 44 48) rc (rdD (.inl (g_36, g_36)) (.inl (n, n)) (.inl (g_37, g_37)) (.inl (g_38, g_38)) (.inr [27])) (xB 400 T) ya (xD 14 RA) yc (xD 4 SA) ye A14F rC rD wd1 (xD 12 D) wd3 wd4 ws1 (xD 12 Kn) ws3 ws4 wi1 (xD 48 Q) wi3 wi4) H := hH
          refine lv_goto (tgt := 83) F.1 F.2.1 dX3_readPart_74 (by decide) ?_
          exact txV F hS dX3_readPart_83 (⟨g_36, (by omega), g_37, (by omega), g_38, (by omega), a, (by omega), b, (by omega), c, (by omega), D, hD, Kn, hKn, Q, hQ, RA, hRA, SA, ⟨hSA, (part3_4 hg_2.2.2 f_7 hg_5.2.2 f_14 hg_12.2.2 f_21 hg_19.2.2 f_28 hg_26.2.2 (lift_wet hg_38.2.2) (by omega) (by omega) (by omega) (by omega))⟩, hH⟩)
      · skip
        have r_24 : 1 ≤ z_18.toInt ∧ z_18.toInt ≤ 1 := by have h9_ := f_20; omega
        refine lv_aload_n F.1 F.2.1 dX3_readPart_52 rfl (lv_at hl 1 rfl) ?_
        refine lv_iload_n F.1 F.2.1 dX3_readPart_53 rfl (lv_at hl 0 rfl) ?_
        refine tVv (b := a0) (As := [.int z_3]) (rest := []) F hK hN hO (c_X3_readStore_2 E dA dB rA rc ya yc ye A14F rC rD wd1 (xD 12 D) wd3 wd4 ws1 (xD 12 Kn) ws3 ws4 wi1 (xD 48 Q) wi3 wi4 a b c n g_19 f w T RA SA g_2 a0 z_3 ha0 ez_3 (by omega) (by omega) (by omega) (by omega) (by omega) (by omega) (by omega) hT hRA hSA (by omega)) mv_X3_readStore wd_13_23 ⟨Nat.le_of_ble_eq_true rfl, Nat.le_of_ble_eq_true rfl⟩ ⟨Nat.le_of_ble_eq_true rfl, Nat.le_of_ble_eq_true rfl⟩ hH hS (tRecv hK hH (tyb ha0 (all1 rfl)) clX3) rfl hl.1 (Nat.le_of_ble_eq_true rfl) dX3_readPart_54 (fun H locs hq hS => ?_)
        obtain ⟨g_40, hg_40, g_41, hg_41, g_42, hg_42, g_43, hg_43, hH⟩ := hq
        have hH : TH E (tbC dA dB rA (riverD (.inl (a, a)) (.inl (b, b)) (.inl (g_42, g_42)) 32 34 36 40 44 48) rc (rdD (.inl (g_40, g_40)) (.inl (n, n)) (.inl (g_41, g_41)) (.inl (w, w)) (.inr [27])) (xB 400 T) ya (xD 14 RA) yc (xD 4 g_43) ye A14F rC rD wd1 (xD 12 D) wd3 wd4 ws1 (xD 12 Kn) ws3 ws4 wi1 (xD 48 Q) wi3 wi4) H := hH
        refine lv_goto (tgt := 83) F.1 F.2.1 dX3_readPart_57 (by decide) ?_
        exact txV F hS dX3_readPart_83 (⟨g_40, (by omega), g_41, (by omega), w, (by omega), a, (by omega), b, (by omega), g_42, (by omega), D, hD, Kn, hKn, Q, hQ, RA, hRA, g_43, ⟨hg_43.1, (part3_3 hg_2.2.2 f_7 hg_5.2.2 f_14 hg_12.2.2 f_21 hg_19.2.2 (lift_store hg_43.2) (by omega) (by omega) (by omega))⟩, hH⟩)
    · skip
      have r_17 : 1 ≤ z_11.toInt ∧ z_11.toInt ≤ 1 := by have h9_ := f_13; omega
      refine lv_aload_n F.1 F.2.1 dX3_readPart_35 rfl (lv_at hl 1 rfl) ?_
      refine lv_iload_n F.1 F.2.1 dX3_readPart_36 rfl (lv_at hl 0 rfl) ?_
      refine tVv (b := a0) (As := [.int z_3]) (rest := []) F hK hN hO (c_X3_readRight_2 E dA dB rA rc ya yc ye rC rD wd1 (xD 12 D) wd3 wd4 ws1 (xD 12 Kn) ws3 ws4 wi1 (xD 48 Q) wi3 wi4 a b c n g_12 f w T RA SA g_2 a0 z_3 ha0 ez_3 (by omega) (by omega) (by omega) (by omega) (by omega) (by omega) (by omega) hT hRA hSA (by omega)) mv_X3_readRight wd_13_0 ⟨Nat.le_of_ble_eq_true rfl, Nat.le_of_ble_eq_true rfl⟩ ⟨Nat.le_of_ble_eq_true rfl, Nat.le_of_ble_eq_true rfl⟩ hH hS (tRecv hK hH (tyb ha0 (all1 rfl)) clX3) rfl hl.1 (Nat.le_of_ble_eq_true rfl) dX3_readPart_37 (fun H locs hq hS => ?_)
      obtain ⟨g_45, hg_45, g_46, hg_46, g_47, hg_47, g_48, hg_48, hH⟩ := hq
      have hH : TH E (tbC dA dB rA (riverD (.inl (a, a)) (.inl (g_47, g_47)) (.inl (c, c)) 32 34 36 40 44 48) rc (rdD (.inl (g_45, g_45)) (.inl (n, n)) (.inl (g_46, g_46)) (.inl (w, w)) (.inr [27])) (xB 400 T) ya (xD 14 g_48) yc (xD 4 SA) ye A14F rC rD wd1 (xD 12 D) wd3 wd4 ws1 (xD 12 Kn) ws3 ws4 wi1 (xD 48 Q) wi3 wi4) H := hH
      refine lv_goto (tgt := 83) F.1 F.2.1 dX3_readPart_40 (by decide) ?_
      exact txV F hS dX3_readPart_83 (⟨g_45, (by omega), g_46, (by omega), w, (by omega), a, (by omega), g_47, (by omega), c, (by omega), D, hD, Kn, hKn, Q, hQ, g_48, hg_48.1, SA, ⟨hSA, (part3_2 hg_2.2.2 f_7 hg_5.2.2 f_14 hg_12.2.2 (lift_right hg_48.2) (by omega) (by omega))⟩, hH⟩)
  · skip
    have r_10 : 1 ≤ z_4.toInt ∧ z_4.toInt ≤ 1 := by have h9_ := f_6; omega
    refine lv_aload_n F.1 F.2.1 dX3_readPart_18 rfl (lv_at hl 1 rfl) ?_
    refine lv_iload_n F.1 F.2.1 dX3_readPart_19 rfl (lv_at hl 0 rfl) ?_
    refine tVv (b := a0) (As := [.int z_3]) (rest := []) F hK hN hO (c_X3_readReach_2 E dA dB rA rc ya yc ye A14F rC rD wd1 wd3 wd4 ws1 ws3 ws4 wi1 wi3 wi4 a b c n g_5 f w T RA SA D Kn Q g_2 a0 z_3 ha0 ez_3 (by omega) (by omega) (by omega) (by omega) (by omega) (by omega) (by omega) hT hRA hSA hD hKn hQ (by omega)) mv_X3_readReach wd_12_3 ⟨Nat.le_of_ble_eq_true rfl, Nat.le_of_ble_eq_true rfl⟩ ⟨Nat.le_of_ble_eq_true rfl, Nat.le_of_ble_eq_true rfl⟩ hH hS (tRecv hK hH (tyb ha0 (all1 rfl)) clX3) rfl hl.1 (Nat.le_of_ble_eq_true rfl) dX3_readPart_20 (fun H locs hq hS => ?_)
    obtain ⟨g_50, hg_50, g_51, hg_51, g_52, hg_52, g_53, hg_53, g_54, hg_54, g_55, hg_55, hH⟩ := hq
    have hH : TH E (tbC dA dB rA (riverD (.inl (g_52, g_52)) (.inl (b, b)) (.inl (c, c)) 32 34 36 40 44 48) rc (rdD (.inl (g_50, g_50)) (.inl (n, n)) (.inl (g_51, g_51)) (.inl (w, w)) (.inr [27])) (xB 400 T) ya (xD 14 RA) yc (xD 4 SA) ye A14F rC rD wd1 (xD 12 g_53) wd3 wd4 ws1 (xD 12 g_54) ws3 ws4 wi1 (xD 48 g_55) wi3 wi4) H := hH
    refine lv_goto (tgt := 83) F.1 F.2.1 dX3_readPart_23 (by decide) ?_
    exact txV F hS dX3_readPart_83 (⟨g_50, (by omega), g_51, (by omega), w, (by omega), g_52, (by omega), b, (by omega), c, (by omega), g_53, hg_53, g_54, hg_54, g_55, hg_55.1, RA, hRA, SA, ⟨hSA, (part3_1 hg_2.2.2 f_7 hg_5.2.2 hg_55.2 (by omega))⟩, hH⟩)
set_option maxHeartbeats 4000000 in
set_option maxRecDepth 100000 in
theorem c_X3_readRiver_1 (E : Ev) (dA : TD) (dB : TD) (rB : TD) (rc : TD) (rC : TD) (rD : TD) (wd2 : TD) (wd3 : TD) (wd4 : TD) (ws2 : TD) (ws3 : TD) (ws4 : TD) (wi2 : TD) (wi3 : TD) (wi4 : TD) (Fa1 : Int × Int) (Fb1 : Int × Int) (T : Nat → Int32) (D : Nat → Int32) (Kn : Nat → Int32) (Q : Nat → Int32) (nq : Int) (a0 : Nat) (a1 : Nat) (a2 : Int32) (ha0 : eT E a0 ∈ [29]) (ha1 : eT E a1 ∈ [26]) (ha2 : 0 ≤ a2.toInt ∧ a2.toInt ≤ 400) (hT : ivP 400 (-128) 127 T) (hD : ivP 12 (-2) 11 D) (hKn : ivP 12 (-2147483648) 2147483647 Kn) (hQ : ivP 48 (-2147483648) 2147483647 Q) (hFa1 : 0 ≤ Fa1.1 ∧ Fa1.2 ≤ 12) (hFb1 : 0 ≤ Fb1.1 ∧ Fb1.2 ≤ 14) (hnq : a2.toInt = nq) : TcI E yX3_readRiver cX3_readRiver 5 .int ({ frames := 9, cells := 0, slots := 0, locals := 270 }) [.ref a0, .ref a1, .int a2] (fun H => TH E (tbC dA dB (riverD (.inl Fa1) (.inl Fb1) (.inl (0, 4)) 31 33 35 39 43 47) rB rc (rdD (.inl (0, 400)) (.inl (0, 400)) (.inl (0, 4000)) (.inl (0, 1)) (.inr [26, 27])) (xB 400 T) A14F A14F A4F A4F A14F A14F rC rD (xD 12 D) wd2 wd3 wd4 (xD 12 Kn) ws2 ws3 ws4 (xD 48 Q) wi2 wi3 wi4) H) (fun v H => ∃ a2 : Int, (0 ≤ a2 ∧ a2 ≤ 12) ∧ ∃ b2 : Int, (0 ≤ b2 ∧ b2 ≤ 14) ∧ ∃ c2 : Int, (0 ≤ c2 ∧ c2 ≤ 4) ∧ ∃ D2 : Nat → Int32, (ivP 12 (-2) 11 D2) ∧ ∃ Kn2 : Nat → Int32, (ivP 12 (-2147483648) 2147483647 Kn2) ∧ ∃ Q2 : Nat → Int32, (ivP 48 (-2147483648) 2147483647 Q2) ∧ (0 ≤ v.toInt ∧ v.toInt ≤ 4000) ∧ (∃ R0 S0 : Nat → Int32, v.toInt = (kRun T nq R0 S0).2.1 ∧ b2 = (kRun T nq R0 S0).2.2.2.2.1 ∧ cRow3 (cRun T nq D Q Kn R0 S0) a2 b2 D2 Q2 Kn2) ∧ TH E (tbC dA dB (riverD (.inl (a2, a2)) (.inl (b2, b2)) (.inl (c2, c2)) 31 33 35 39 43 47) rB rc (rdD (.inl (0, 400)) (.inl (0, 400)) (.inl (0, 4000)) (.inl (0, 1)) (.inr [26, 27])) (xB 400 T) A14F A14F A4F A4F A14F A14F rC rD (xD 12 D2) wd2 wd3 wd4 (xD 12 Kn2) ws2 ws3 ws4 (xD 48 Q2) wi2 wi3 wi4) H) := by
  refine teI (by decide) (Nat.le_of_ble_eq_true rfl) ?_
  intro p_ ev_ s mi_ below_ meth cd_ ls F hK hN hO hH hS hl
  have hH : TH E (tbC dA dB (riverD (.inl Fa1) (.inl Fb1) (.inl (0, 4)) 31 33 35 39 43 47) rB rc (rdD (.inl (0, 400)) (.inl (0, 400)) (.inl (0, 4000)) (.inl (0, 1)) (.inr [26, 27])) (xB 400 T) A14F A14F A4F A4F A14F A14F rC rD (xD 12 D) wd2 wd3 wd4 (xD 12 Kn) ws2 ws3 ws4 (xD 48 Q) wi2 wi3 wi4) s.heap := hH
  have hl : lv_has ls 5 [(0, .ref a0), (1, .ref a1), (2, .int a2)] := hl
  refine lv_aload_n F.1 F.2.1 dX3_readRiver_0 rfl (lv_at hl 0 rfl) ?_
  refine lv_aload_n F.1 F.2.1 dX3_readRiver_1 rfl (lv_at hl 1 rfl) ?_
  refine tPutG (j := 5) (t := 29) (fd := (.inr [26])) F hK hH hS (List.mem_singleton.mp ha0) (by decide) rfl rfl (fdR ha1) (TB1 := (tbC dA dB (riverD (.inl Fa1) (.inl Fb1) (.inl (0, 4)) 31 33 35 39 43 47) rB rc (rdD (.inl (0, 400)) (.inl (0, 400)) (.inl (0, 4000)) (.inl (0, 1)) (.inr [26])) (xB 400 T) A14F A14F A4F A4F A14F A14F rC rD (xD 12 D) wd2 wd3 wd4 (xD 12 Kn) ws2 ws3 ws4 (xD 48 Q) wi2 wi3 wi4)) rfl clX3 (by decide) wd_5_18 rfl rfl rfl rfl dX3_readRiver_2 (fun H locs hH hS => ?_)
  refine lv_aload_n F.1 F.2.1 dX3_readRiver_5 rfl (lv_at hl 0 rfl) ?_
  refine tGetR (j := 5) F hK hH (tyb ha0 (all1 rfl)) rfl (all1 rfl) clX3 (by decide) wd_5_18 dX3_readRiver_6 (fun q_1 hq_1 _ => ?_)
  refine tVv (b := q_1) (As := []) (rest := []) F hK hN hO (c_X2_clear_1 E dA dB rB rc (rdD (.inl (0, 400)) (.inl (0, 400)) (.inl (0, 4000)) (.inl (0, 1)) (.inr [26])) (xB 400 T) A14F A14F A4F A4F A14F A14F rC rD (xD 12 D) wd2 wd3 wd4 (xD 12 Kn) ws2 ws3 ws4 (xD 48 Q) wi2 wi3 wi4 Fa1 Fb1 q_1 hq_1 hFa1 hFb1) mv_X2_clear wd_9_7 ⟨Nat.le_of_ble_eq_true rfl, Nat.le_of_ble_eq_true rfl⟩ ⟨Nat.le_of_ble_eq_true rfl, Nat.le_of_ble_eq_true rfl⟩ hH hS (tRecv hK hH (tyb hq_1 (all1 rfl)) clX2) rfl hl.1 (Nat.le_of_ble_eq_true rfl) dX3_readRiver_9 (fun H locs hq hS => ?_)
  have hH := hq
  have hH : TH E (tbC dA dB (riverD (.inl (0, 0)) (.inl (0, 0)) (.inl (0, 0)) 31 33 35 39 43 47) rB rc (rdD (.inl (0, 400)) (.inl (0, 400)) (.inl (0, 4000)) (.inl (0, 1)) (.inr [26])) (xB 400 T) A14F A14F A4F A4F A14F A14F rC rD (xD 12 D) wd2 wd3 wd4 (xD 12 Kn) ws2 ws3 ws4 (xD 48 Q) wi2 wi3 wi4) H := hH
  obtain ⟨RA_, hRA_, hH⟩ := TH.pin0 (t := 31) (fun _ => 0) hH rfl (by decide) (fun j hj => by show _ ≤ (0 : Int32).toInt ∧ (0 : Int32).toInt ≤ _; decide)
  obtain ⟨SA_, hSA_, hH⟩ := TH.pin0 (t := 33) (fun _ => 0) hH rfl (by decide) (fun j hj => by show _ ≤ (0 : Int32).toInt ∧ (0 : Int32).toInt ≤ _; decide)
  have hH : TH E (tbC dA dB (riverD (.inl (0, 0)) (.inl (0, 0)) (.inl (0, 0)) 31 33 35 39 43 47) rB rc (rdD (.inl (0, 400)) (.inl (0, 400)) (.inl (0, 4000)) (.inl (0, 1)) (.inr [26])) (xB 400 T) (xD 14 RA_) A14F (xD 4 SA_) A4F A14F A14F rC rD (xD 12 D) wd2 wd3 wd4 (xD 12 Kn) ws2 ws3 ws4 (xD 48 Q) wi2 wi3 wi4) H := hH
  refine lv_aload_n F.1 F.2.1 dX3_readRiver_12 rfl (lv_at hl 0 rfl) ?_
  refine lv_iload_n F.1 F.2.1 dX3_readRiver_13 rfl (lv_at hl 2 rfl) ?_
  refine lv_aload_n F.1 F.2.1 dX3_readRiver_14 rfl (lv_at hl 0 rfl) ?_
  refine tGetR (j := 0) F hK hH (tyb ha0 (all1 rfl)) rfl (all1 rfl) clX3 (by decide) wd_5_17 dX3_readRiver_15 (fun q_3 hq_3 _ => ?_)
  refine tAlen (v := 400) F hK hH (tyb hq_3 (all1 rfl)) rfl (by decide) dX3_readRiver_18 ?_
  refine topK (a := 400) (by decide) (fun k_4 hk_4 => ?_)
  refine tMin (lo := 0) (hi := 400) F wd_8_23 wd_9_0 wd_9_1 wd_9_2 hl.1 (Nat.le_of_ble_eq_true rfl) (Nat.le_of_ble_eq_true rfl) (Nat.le_of_ble_eq_true rfl) (Nat.le_of_ble_eq_true rfl) dX3_readRiver_19 ha2 (eqb hk_4) rfl (fun z_5 hz_5 => ?_)
  refine tPutG (j := 1) (t := 29) (fd := (.inl (nq, nq))) F hK hH hS (List.mem_singleton.mp ha0) (by decide) rfl rfl (fdI (by omega)) (TB1 := (tbC dA dB (riverD (.inl (0, 0)) (.inl (0, 0)) (.inl (0, 0)) 31 33 35 39 43 47) rB rc (rdD (.inl (0, 400)) (.inl (nq, nq)) (.inl (0, 4000)) (.inl (0, 1)) (.inr [26])) (xB 400 T) (xD 14 RA_) A14F (xD 4 SA_) A4F A14F A14F rC rD (xD 12 D) wd2 wd3 wd4 (xD 12 Kn) ws2 ws3 ws4 (xD 48 Q) wi2 wi3 wi4)) rfl clX3 (by decide) wd_9_3 rfl rfl rfl rfl dX3_readRiver_22 (fun H locs hH hS => ?_)
  refine lv_aload_n F.1 F.2.1 dX3_readRiver_25 rfl (lv_at hl 0 rfl) ?_
  refine lv_iconst (v := 0) F.1 F.2.1 dX3_readRiver_26 (by decide) ?_
  refine topK (a := 0) (by decide) (fun k_6 hk_6 => ?_)
  refine tPutG (j := 2) (t := 29) (fd := (.inl (0, 0))) F hK hH hS (List.mem_singleton.mp ha0) (by decide) rfl rfl (fdI (by omega)) (TB1 := (tbC dA dB (riverD (.inl (0, 0)) (.inl (0, 0)) (.inl (0, 0)) 31 33 35 39 43 47) rB rc (rdD (.inl (0, 0)) (.inl (nq, nq)) (.inl (0, 4000)) (.inl (0, 1)) (.inr [26])) (xB 400 T) (xD 14 RA_) A14F (xD 4 SA_) A4F A14F A14F rC rD (xD 12 D) wd2 wd3 wd4 (xD 12 Kn) ws2 ws3 ws4 (xD 48 Q) wi2 wi3 wi4)) rfl clX3 (by decide) wd_9_4 rfl rfl rfl rfl dX3_readRiver_27 (fun H locs hH hS => ?_)
  refine lv_aload_n F.1 F.2.1 dX3_readRiver_30 rfl (lv_at hl 0 rfl) ?_
  refine lv_iconst (v := 0) F.1 F.2.1 dX3_readRiver_31 (by decide) ?_
  refine topK (a := 0) (by decide) (fun k_7 hk_7 => ?_)
  refine tPutG (j := 3) (t := 29) (fd := (.inl (0, 0))) F hK hH hS (List.mem_singleton.mp ha0) (by decide) rfl rfl (fdI (by omega)) (TB1 := (tbC dA dB (riverD (.inl (0, 0)) (.inl (0, 0)) (.inl (0, 0)) 31 33 35 39 43 47) rB rc (rdD (.inl (0, 0)) (.inl (nq, nq)) (.inl (0, 0)) (.inl (0, 1)) (.inr [26])) (xB 400 T) (xD 14 RA_) A14F (xD 4 SA_) A4F A14F A14F rC rD (xD 12 D) wd2 wd3 wd4 (xD 12 Kn) ws2 ws3 ws4 (xD 48 Q) wi2 wi3 wi4)) rfl clX3 (by decide) wd_9_5 rfl rfl rfl rfl dX3_readRiver_32 (fun H locs hH hS => ?_)
  refine lv_aload_n F.1 F.2.1 dX3_readRiver_35 rfl (lv_at hl 0 rfl) ?_
  refine lv_iconst (v := 0) F.1 F.2.1 dX3_readRiver_36 (by decide) ?_
  refine topK (a := 0) (by decide) (fun k_8 hk_8 => ?_)
  refine tPutG (j := 4) (t := 29) (fd := (.inl (0, 0))) F hK hH hS (List.mem_singleton.mp ha0) (by decide) rfl rfl (fdI (by omega)) (TB1 := (tbC dA dB (riverD (.inl (0, 0)) (.inl (0, 0)) (.inl (0, 0)) 31 33 35 39 43 47) rB rc (rdD (.inl (0, 0)) (.inl (nq, nq)) (.inl (0, 0)) (.inl (0, 0)) (.inr [26])) (xB 400 T) (xD 14 RA_) A14F (xD 4 SA_) A4F A14F A14F rC rD (xD 12 D) wd2 wd3 wd4 (xD 12 Kn) ws2 ws3 ws4 (xD 48 Q) wi2 wi3 wi4)) rfl clX3 (by decide) wd_9_6 rfl rfl (nar01 (wkb (eqb hk_8) rfl rfl)) (fit01 (wkb (eqb hk_8) rfl rfl)) dX3_readRiver_37 (fun H locs hH hS => ?_)
  refine lv_aload_n F.1 F.2.1 dX3_readRiver_40 rfl (lv_at hl 0 rfl) ?_
  refine tVv (b := a0) (As := []) (rest := []) F hK hN hO (c_X3_skipBlanks E dA dB (riverD (.inl (0, 0)) (.inl (0, 0)) (.inl (0, 0)) 31 33 35 39 43 47) rB rc (xD 14 RA_) A14F (xD 4 SA_) A4F A14F A14F rC rD (xD 12 D) wd2 wd3 wd4 (xD 12 Kn) ws2 ws3 ws4 (xD 48 Q) wi2 wi3 wi4 ((.inl (0, 0))) ((.inl (0, 0))) (.inr [26]) nq 0 T a0 ha0 (by omega) (by omega) hT) mv_X3_skipBlanks wd_9_14 ⟨Nat.le_of_ble_eq_true rfl, Nat.le_of_ble_eq_true rfl⟩ ⟨Nat.le_of_ble_eq_true rfl, Nat.le_of_ble_eq_true rfl⟩ hH hS (tRecv hK hH (tyb ha0 (all1 rfl)) clX3) rfl hl.1 (Nat.le_of_ble_eq_true rfl) dX3_readRiver_41 (fun H locs hq hS => ?_)
  obtain ⟨g_10, hg_10, hH⟩ := hq
  have hH : TH E (tbC dA dB (riverD (.inl (0, 0)) (.inl (0, 0)) (.inl (0, 0)) 31 33 35 39 43 47) rB rc (rdD (.inl (g_10, g_10)) (.inl (nq, nq)) (.inl (0, 0)) (.inl (0, 0)) (.inr [26])) (xB 400 T) (xD 14 RA_) A14F (xD 4 SA_) A4F A14F A14F rC rD (xD 12 D) wd2 wd3 wd4 (xD 12 Kn) ws2 ws3 ws4 (xD 48 Q) wi2 wi3 wi4) H := hH
  refine lv_aload_n F.1 F.2.1 dX3_readRiver_44 rfl (lv_at hl 0 rfl) ?_
  refine tGetI (j := 2) F hK hH (tyb ha0 (all1 rfl)) rfl clX3 (by decide) wd_9_4 dX3_readRiver_45 (fun z_11 hz_11 => ?_)
  have ez_11 : 0 ≤ z_11.toInt ∧ z_11.toInt ≤ 400 := by omega
  refine lv_aload_n F.1 F.2.1 dX3_readRiver_48 rfl (lv_at hl 0 rfl) ?_
  refine tGetI (j := 1) F hK hH (tyb ha0 (all1 rfl)) rfl clX3 (by decide) wd_9_3 dX3_readRiver_49 (fun z_12 hz_12 => ?_)
  have ez_12 : 0 ≤ z_12.toInt ∧ z_12.toInt ≤ 400 := by omega
  refine b_ge (tgt := 59) F dX3_readRiver_52 (by decide) (fun c_13 => ?_) (fun c_13 => ?_)
  · skip
    refine lv_iconst (v := 0) F.1 F.2.1 dX3_readRiver_59 (by decide) ?_
    refine topK (a := 0) (by decide) (fun k_16 hk_16 => ?_)
    refine lv_istore_n (lv' := [(3, .int k_16), (0, .ref a0), (1, .ref a1), (2, .int a2)]) F.1 F.2.1 dX3_readRiver_60 rfl hl (by decide) rfl (fun ls hl => ?_)
    refine lv_iconst (v := 0) F.1 F.2.1 dX3_readRiver_61 (by decide) ?_
    refine topK (a := 0) (by decide) (fun k_17 hk_17 => ?_)
    refine lv_istore (lv' := [(4, .int k_17), (3, .int k_16), (0, .ref a0), (1, .ref a1), (2, .int a2)]) F.1 F.2.1 dX3_readRiver_62 hl (by decide) rfl (fun ls hl => ?_)
    refine wloop (σ := Int32 × Int32 × Int × Int × Int × Int × Int × Int × (Nat → Int32) × (Nat → Int32) × (Nat → Int32) × (Nat → Int32) × (Nat → Int32)) (fun n9 x9 H locs ls => (401 - x9.2.1.toInt + 1).toNat < n9 ∧ (0 ≤ x9.1.toInt ∧ x9.1.toInt ≤ 1) ∧ (0 ≤ x9.2.1.toInt ∧ x9.2.1.toInt ≤ 401) ∧ (0 ≤ x9.2.2.1 ∧ x9.2.2.1 ≤ 12) ∧ (0 ≤ x9.2.2.2.1 ∧ x9.2.2.2.1 ≤ 14) ∧ (0 ≤ x9.2.2.2.2.1 ∧ x9.2.2.2.2.1 ≤ 4) ∧ (0 ≤ x9.2.2.2.2.2.1 ∧ x9.2.2.2.2.2.1 ≤ 400) ∧ (0 ≤ x9.2.2.2.2.2.2.1 ∧ x9.2.2.2.2.2.2.1 ≤ 4000) ∧ (0 ≤ x9.2.2.2.2.2.2.2.1 ∧ x9.2.2.2.2.2.2.2.1 ≤ 1) ∧ (ivP 14 (-2147483648) 2147483647 x9.2.2.2.2.2.2.2.2.1) ∧ (ivP 4 (-2147483648) 2147483647 x9.2.2.2.2.2.2.2.2.2.1) ∧ (ivP 12 (-2) 11 x9.2.2.2.2.2.2.2.2.2.2.1) ∧ (ivP 12 (-2147483648) 2147483647 x9.2.2.2.2.2.2.2.2.2.2.2.1) ∧ (ivP 48 (-2147483648) 2147483647 x9.2.2.2.2.2.2.2.2.2.2.2.2) ∧ (cW T nq (401 - (x9.2.1.toInt)).toNat (x9.1.toInt) (x9.2.2.2.2.2.1, x9.2.2.2.2.2.2.1, x9.2.2.2.2.2.2.2.1, x9.2.2.1, x9.2.2.2.1, x9.2.2.2.2.1, x9.2.2.2.2.2.2.2.2.2.2.1, x9.2.2.2.2.2.2.2.2.2.2.2.2, x9.2.2.2.2.2.2.2.2.2.2.2.1, x9.2.2.2.2.2.2.2.2.1, x9.2.2.2.2.2.2.2.2.2.1) = cRun T nq D Q Kn RA_ SA_) ∧ TH E (tbC dA dB (riverD (.inl (x9.2.2.1, x9.2.2.1)) (.inl (x9.2.2.2.1, x9.2.2.2.1)) (.inl (x9.2.2.2.2.1, x9.2.2.2.2.1)) 31 33 35 39 43 47) rB rc (rdD (.inl (x9.2.2.2.2.2.1, x9.2.2.2.2.2.1)) (.inl (nq, nq)) (.inl (x9.2.2.2.2.2.2.1, x9.2.2.2.2.2.2.1)) (.inl (x9.2.2.2.2.2.2.2.1, x9.2.2.2.2.2.2.2.1)) (.inr [26])) (xB 400 T) (xD 14 x9.2.2.2.2.2.2.2.2.1) A14F (xD 4 x9.2.2.2.2.2.2.2.2.2.1) A4F A14F A14F rC rD (xD 12 x9.2.2.2.2.2.2.2.2.2.2.1) wd2 wd3 wd4 (xD 12 x9.2.2.2.2.2.2.2.2.2.2.2.1) ws2 ws3 ws4 (xD 48 x9.2.2.2.2.2.2.2.2.2.2.2.2) wi2 wi3 wi4) H ∧ va_S (eA E s.heap.size) s.heap H locs ∧ lv_has ls 5 [(0, .ref a0), (3, .int x9.1), (4, .int x9.2.1)]) ?_ (fun x9 H locs ls h => absurd h.1 (Nat.not_lt_zero _)) _ (k_16, k_17, 0, 0, 0, g_10, 0, 0, RA_, SA_, D, Kn, Q) ⟨Nat.lt_succ_self _, (wkb (eqb hk_16) rfl rfl), (wkb (eqb hk_17) rfl rfl), (show 0 ≤ 0 ∧ 0 ≤ 12 from by omega), (show 0 ≤ 0 ∧ 0 ≤ 14 from by omega), (show 0 ≤ 0 ∧ 0 ≤ 4 from by omega), (show 0 ≤ g_10 ∧ g_10 ≤ 400 from by omega), (show 0 ≤ 0 ∧ 0 ≤ 4000 from by omega), (show 0 ≤ 0 ∧ 0 ≤ 1 from by omega), hRA_, hSA_, hD, hKn, hQ, (show cW T nq (401 - (k_17.toInt)).toNat (k_16.toInt) (g_10, 0, 0, 0, 0, 0, D, Q, Kn, RA_, SA_) = cRun T nq D Q Kn RA_ SA_ from (by rw [show (401 - k_17.toInt).toNat = 401 from by omega]; exact run3_init hg_10.2.2 (by omega))), hH, hS, lv_sub hl [2, 1, 0] rfl⟩
    intro n_64 ih_64 ⟨u_18, u_19, g_20, g_21, g_22, g_23, g_24, g_25, G_26, G_27, G_28, G_29, G_30⟩ H locs ls ⟨hm_64, hu_18, hu_19, hg_20, hg_21, hg_22, hg_23, hg_24, hg_25, hG_26, hG_27, hG_28, hG_29, hG_30, hcr64_0, hH, hS, hl⟩
    have hm_64 : (401 - u_19.toInt + 1).toNat < n_64 + 1 := hm_64
    have hu_18 : (0 ≤ u_18.toInt ∧ u_18.toInt ≤ 1) := hu_18
    have hu_19 : (0 ≤ u_19.toInt ∧ u_19.toInt ≤ 401) := hu_19
    have hg_20 : (0 ≤ g_20 ∧ g_20 ≤ 12) := hg_20
    have hg_21 : (0 ≤ g_21 ∧ g_21 ≤ 14) := hg_21
    have hg_22 : (0 ≤ g_22 ∧ g_22 ≤ 4) := hg_22
    have hg_23 : (0 ≤ g_23 ∧ g_23 ≤ 400) := hg_23
    have hg_24 : (0 ≤ g_24 ∧ g_24 ≤ 4000) := hg_24
    have hg_25 : (0 ≤ g_25 ∧ g_25 ≤ 1) := hg_25
    have hG_26 : (ivP 14 (-2147483648) 2147483647 G_26) := hG_26
    have hG_27 : (ivP 4 (-2147483648) 2147483647 G_27) := hG_27
    have hG_28 : (ivP 12 (-2) 11 G_28) := hG_28
    have hG_29 : (ivP 12 (-2147483648) 2147483647 G_29) := hG_29
    have hG_30 : (ivP 48 (-2147483648) 2147483647 G_30) := hG_30
    have hcr64_0 : (cW T nq (401 - (u_19.toInt)).toNat (u_18.toInt) (g_23, g_24, g_25, g_20, g_21, g_22, G_28, G_30, G_29, G_26, G_27) = cRun T nq D Q Kn RA_ SA_) := hcr64_0
    have hH : TH E (tbC dA dB (riverD (.inl (g_20, g_20)) (.inl (g_21, g_21)) (.inl (g_22, g_22)) 31 33 35 39 43 47) rB rc (rdD (.inl (g_23, g_23)) (.inl (nq, nq)) (.inl (g_24, g_24)) (.inl (g_25, g_25)) (.inr [26])) (xB 400 T) (xD 14 G_26) A14F (xD 4 G_27) A4F A14F A14F rC rD (xD 12 G_28) wd2 wd3 wd4 (xD 12 G_29) ws2 ws3 ws4 (xD 48 G_30) wi2 wi3 wi4) H := hH
    have hl : lv_has ls 5 [(0, .ref a0), (3, .int u_18), (4, .int u_19)] := hl
    refine lv_iload F.1 F.2.1 dX3_readRiver_64 (lv_at hl 2 rfl) ?_
    refine lv_sipush (v := 400) F.1 F.2.1 dX3_readRiver_66 (by decide) ?_
    refine topK (a := 400) (by decide) (fun k_31 hk_31 => ?_)
    refine b_gt (tgt := 91) F dX3_readRiver_69 (by decide) (fun c_32 => ?_) (fun c_32 => ?_)
    · skip
      have r_33 : 401 ≤ u_19.toInt ∧ u_19.toInt ≤ 401 := by have h9_ := hu_19; omega
      refine lv_aload_n F.1 F.2.1 dX3_readRiver_91 rfl (lv_at hl 0 rfl) ?_
      refine tGetI (j := 3) F hK hH (tyb ha0 (all1 rfl)) rfl clX3 (by decide) wd_9_5 dX3_readRiver_92 (fun z_35 hz_35 => ?_)
      have ez_35 : 0 ≤ z_35.toInt ∧ z_35.toInt ≤ 4000 := by omega
      exact txI F hS dX3_readRiver_95 rfl (⟨g_20, (by omega), g_21, (by omega), g_22, (by omega), G_28, hG_28, G_29, hG_29, G_30, hG_30, ez_35, ⟨RA_, SA_, by rw [run_c (D := D) (Q := Q) (K := Kn), ← run3_end hcr64_0 (by omega)]; exact ⟨(show _ = _ by show _ = g_24; omega), rfl, rfl, rfl, rfl, rfl, rfl⟩⟩, (TH.unpin (t := 33) (TB1 := (tbC dA dB (riverD (.inl (g_20, g_20)) (.inl (g_21, g_21)) (.inl (g_22, g_22)) 31 33 35 39 43 47) rB rc (rdD (.inl (0, 400)) (.inl (0, 400)) (.inl (0, 4000)) (.inl (0, 1)) (.inr [26, 27])) (xB 400 T) A14F A14F A4F A4F A14F A14F rC rD (xD 12 G_28) wd2 wd3 wd4 (xD 12 G_29) ws2 ws3 ws4 (xD 48 G_30) wi2 wi3 wi4)) (TH.unpin (t := 31) (TB1 := (tbC dA dB (riverD (.inl (g_20, g_20)) (.inl (g_21, g_21)) (.inl (g_22, g_22)) 31 33 35 39 43 47) rB rc (rdD (.inl (0, 400)) (.inl (0, 400)) (.inl (0, 4000)) (.inl (0, 1)) (.inr [26, 27])) (xB 400 T) A14F A14F (xD 4 G_27) A4F A14F A14F rC rD (xD 12 G_28) wd2 wd3 wd4 (xD 12 G_29) ws2 ws3 ws4 (xD 48 G_30) wi2 wi3 wi4)) (TH.loose (t := 29) (TB1 := (tbC dA dB (riverD (.inl (g_20, g_20)) (.inl (g_21, g_21)) (.inl (g_22, g_22)) 31 33 35 39 43 47) rB rc (rdD (.inl (0, 400)) (.inl (0, 400)) (.inl (0, 4000)) (.inl (0, 1)) (.inr [26, 27])) (xB 400 T) (xD 14 G_26) A14F (xD 4 G_27) A4F A14F A14F rC rD (xD 12 G_28) wd2 wd3 wd4 (xD 12 G_29) ws2 ws3 ws4 (xD 48 G_30) wi2 wi3 wi4)) (TH.loose (t := 29) (TB1 := (tbC dA dB (riverD (.inl (g_20, g_20)) (.inl (g_21, g_21)) (.inl (g_22, g_22)) 31 33 35 39 43 47) rB rc (rdD (.inl (0, 400)) (.inl (0, 400)) (.inl (0, 4000)) (.inl (0, 1)) (.inr [26])) (xB 400 T) (xD 14 G_26) A14F (xD 4 G_27) A4F A14F A14F rC rD (xD 12 G_28) wd2 wd3 wd4 (xD 12 G_29) ws2 ws3 ws4 (xD 48 G_30) wi2 wi3 wi4)) (TH.loose (t := 29) (TB1 := (tbC dA dB (riverD (.inl (g_20, g_20)) (.inl (g_21, g_21)) (.inl (g_22, g_22)) 31 33 35 39 43 47) rB rc (rdD (.inl (0, 400)) (.inl (0, 400)) (.inl (0, 4000)) (.inl (g_25, g_25)) (.inr [26])) (xB 400 T) (xD 14 G_26) A14F (xD 4 G_27) A4F A14F A14F rC rD (xD 12 G_28) wd2 wd3 wd4 (xD 12 G_29) ws2 ws3 ws4 (xD 48 G_30) wi2 wi3 wi4)) (TH.loose (t := 29) (TB1 := (tbC dA dB (riverD (.inl (g_20, g_20)) (.inl (g_21, g_21)) (.inl (g_22, g_22)) 31 33 35 39 43 47) rB rc (rdD (.inl (0, 400)) (.inl (0, 400)) (.inl (g_24, g_24)) (.inl (g_25, g_25)) (.inr [26])) (xB 400 T) (xD 14 G_26) A14F (xD 4 G_27) A4F A14F A14F rC rD (xD 12 G_28) wd2 wd3 wd4 (xD 12 G_29) ws2 ws3 ws4 (xD 48 G_30) wi2 wi3 wi4)) (TH.loose (t := 29) (TB1 := (tbC dA dB (riverD (.inl (g_20, g_20)) (.inl (g_21, g_21)) (.inl (g_22, g_22)) 31 33 35 39 43 47) rB rc (rdD (.inl (g_23, g_23)) (.inl (0, 400)) (.inl (g_24, g_24)) (.inl (g_25, g_25)) (.inr [26])) (xB 400 T) (xD 14 G_26) A14F (xD 4 G_27) A4F A14F A14F rC rD (xD 12 G_28) wd2 wd3 wd4 (xD 12 G_29) ws2 ws3 ws4 (xD 48 G_30) wi2 wi3 wi4)) hH rfl (tcLoose (j := 1) rfl (by omega)) rfl) rfl (tcLoose (j := 2) rfl (by omega)) rfl) rfl (tcLoose (j := 3) rfl (by omega)) rfl) rfl (tcLoose (j := 4) rfl (by omega)) rfl) rfl (tcLooseR (j := 5) rfl (by simp)) rfl) rfl hG_26 rfl) rfl hG_27 rfl)⟩)
    · skip
      have r_34 : 0 ≤ u_19.toInt ∧ u_19.toInt ≤ 400 := by have h9_ := hu_19; omega
      refine lv_iload_n F.1 F.2.1 dX3_readRiver_72 rfl (lv_at hl 1 rfl) ?_
      refine z_eq (tgt := 91) F dX3_readRiver_73 (by decide) (fun c_36 => ?_) (fun c_36 => ?_)
      · skip
        have r_37 : 0 ≤ u_18.toInt ∧ u_18.toInt ≤ 0 := by have h9_ := hu_18; omega
        refine lv_aload_n F.1 F.2.1 dX3_readRiver_91 rfl (lv_at hl 0 rfl) ?_
        refine tGetI (j := 3) F hK hH (tyb ha0 (all1 rfl)) rfl clX3 (by decide) wd_9_5 dX3_readRiver_92 (fun z_39 hz_39 => ?_)
        have ez_39 : 0 ≤ z_39.toInt ∧ z_39.toInt ≤ 4000 := by omega
        exact txI F hS dX3_readRiver_95 rfl (⟨g_20, (by omega), g_21, (by omega), g_22, (by omega), G_28, hG_28, G_29, hG_29, G_30, hG_30, ez_39, ⟨RA_, SA_, by rw [run_c (D := D) (Q := Q) (K := Kn), ← run3_end hcr64_0 (by omega)]; exact ⟨(show _ = _ by show _ = g_24; omega), rfl, rfl, rfl, rfl, rfl, rfl⟩⟩, (TH.unpin (t := 33) (TB1 := (tbC dA dB (riverD (.inl (g_20, g_20)) (.inl (g_21, g_21)) (.inl (g_22, g_22)) 31 33 35 39 43 47) rB rc (rdD (.inl (0, 400)) (.inl (0, 400)) (.inl (0, 4000)) (.inl (0, 1)) (.inr [26, 27])) (xB 400 T) A14F A14F A4F A4F A14F A14F rC rD (xD 12 G_28) wd2 wd3 wd4 (xD 12 G_29) ws2 ws3 ws4 (xD 48 G_30) wi2 wi3 wi4)) (TH.unpin (t := 31) (TB1 := (tbC dA dB (riverD (.inl (g_20, g_20)) (.inl (g_21, g_21)) (.inl (g_22, g_22)) 31 33 35 39 43 47) rB rc (rdD (.inl (0, 400)) (.inl (0, 400)) (.inl (0, 4000)) (.inl (0, 1)) (.inr [26, 27])) (xB 400 T) A14F A14F (xD 4 G_27) A4F A14F A14F rC rD (xD 12 G_28) wd2 wd3 wd4 (xD 12 G_29) ws2 ws3 ws4 (xD 48 G_30) wi2 wi3 wi4)) (TH.loose (t := 29) (TB1 := (tbC dA dB (riverD (.inl (g_20, g_20)) (.inl (g_21, g_21)) (.inl (g_22, g_22)) 31 33 35 39 43 47) rB rc (rdD (.inl (0, 400)) (.inl (0, 400)) (.inl (0, 4000)) (.inl (0, 1)) (.inr [26, 27])) (xB 400 T) (xD 14 G_26) A14F (xD 4 G_27) A4F A14F A14F rC rD (xD 12 G_28) wd2 wd3 wd4 (xD 12 G_29) ws2 ws3 ws4 (xD 48 G_30) wi2 wi3 wi4)) (TH.loose (t := 29) (TB1 := (tbC dA dB (riverD (.inl (g_20, g_20)) (.inl (g_21, g_21)) (.inl (g_22, g_22)) 31 33 35 39 43 47) rB rc (rdD (.inl (0, 400)) (.inl (0, 400)) (.inl (0, 4000)) (.inl (0, 1)) (.inr [26])) (xB 400 T) (xD 14 G_26) A14F (xD 4 G_27) A4F A14F A14F rC rD (xD 12 G_28) wd2 wd3 wd4 (xD 12 G_29) ws2 ws3 ws4 (xD 48 G_30) wi2 wi3 wi4)) (TH.loose (t := 29) (TB1 := (tbC dA dB (riverD (.inl (g_20, g_20)) (.inl (g_21, g_21)) (.inl (g_22, g_22)) 31 33 35 39 43 47) rB rc (rdD (.inl (0, 400)) (.inl (0, 400)) (.inl (0, 4000)) (.inl (g_25, g_25)) (.inr [26])) (xB 400 T) (xD 14 G_26) A14F (xD 4 G_27) A4F A14F A14F rC rD (xD 12 G_28) wd2 wd3 wd4 (xD 12 G_29) ws2 ws3 ws4 (xD 48 G_30) wi2 wi3 wi4)) (TH.loose (t := 29) (TB1 := (tbC dA dB (riverD (.inl (g_20, g_20)) (.inl (g_21, g_21)) (.inl (g_22, g_22)) 31 33 35 39 43 47) rB rc (rdD (.inl (0, 400)) (.inl (0, 400)) (.inl (g_24, g_24)) (.inl (g_25, g_25)) (.inr [26])) (xB 400 T) (xD 14 G_26) A14F (xD 4 G_27) A4F A14F A14F rC rD (xD 12 G_28) wd2 wd3 wd4 (xD 12 G_29) ws2 ws3 ws4 (xD 48 G_30) wi2 wi3 wi4)) (TH.loose (t := 29) (TB1 := (tbC dA dB (riverD (.inl (g_20, g_20)) (.inl (g_21, g_21)) (.inl (g_22, g_22)) 31 33 35 39 43 47) rB rc (rdD (.inl (g_23, g_23)) (.inl (0, 400)) (.inl (g_24, g_24)) (.inl (g_25, g_25)) (.inr [26])) (xB 400 T) (xD 14 G_26) A14F (xD 4 G_27) A4F A14F A14F rC rD (xD 12 G_28) wd2 wd3 wd4 (xD 12 G_29) ws2 ws3 ws4 (xD 48 G_30) wi2 wi3 wi4)) hH rfl (tcLoose (j := 1) rfl (by omega)) rfl) rfl (tcLoose (j := 2) rfl (by omega)) rfl) rfl (tcLoose (j := 3) rfl (by omega)) rfl) rfl (tcLoose (j := 4) rfl (by omega)) rfl) rfl (tcLooseR (j := 5) rfl (by simp)) rfl) rfl hG_26 rfl) rfl hG_27 rfl)⟩)
      · skip
        have r_38 : 1 ≤ u_18.toInt ∧ u_18.toInt ≤ 1 := by have h9_ := hu_18; omega
        refine lv_aload_n F.1 F.2.1 dX3_readRiver_76 rfl (lv_at hl 0 rfl) ?_
        refine tVv (b := a0) (As := []) (rest := []) F hK hN hO (c_X3_readPart_1 E dA dB rB rc A14F A4F A14F rC rD wd2 wd3 wd4 ws2 ws3 ws4 wi2 wi3 wi4 g_20 g_21 g_22 nq g_23 g_24 g_25 T G_26 G_27 G_28 G_29 G_30 a0 ha0 (by omega) (by omega) (by omega) (by omega) (by omega) (by omega) (by omega) hT hG_26 hG_27 hG_28 hG_29 hG_30) mv_X3_readPart wd_9_18 ⟨Nat.le_of_ble_eq_true rfl, Nat.le_of_ble_eq_true rfl⟩ ⟨Nat.le_of_ble_eq_true rfl, Nat.le_of_ble_eq_true rfl⟩ hH hS (tRecv hK hH (tyb ha0 (all1 rfl)) clX3) rfl hl.1 (Nat.le_of_ble_eq_true rfl) dX3_readRiver_77 (fun H locs hq hS => ?_)
        obtain ⟨g_41, hg_41, g_42, hg_42, g_43, hg_43, g_44, hg_44, g_45, hg_45, g_46, hg_46, g_47, hg_47, g_48, hg_48, g_49, hg_49, g_50, hg_50, g_51, hg_51, hH⟩ := hq
        have hH : TH E (tbC dA dB (riverD (.inl (g_44, g_44)) (.inl (g_45, g_45)) (.inl (g_46, g_46)) 31 33 35 39 43 47) rB rc (rdD (.inl (g_41, g_41)) (.inl (nq, nq)) (.inl (g_42, g_42)) (.inl (g_43, g_43)) (.inr [26])) (xB 400 T) (xD 14 g_50) A14F (xD 4 g_51) A4F A14F A14F rC rD (xD 12 g_47) wd2 wd3 wd4 (xD 12 g_48) ws2 ws3 ws4 (xD 48 g_49) wi2 wi3 wi4) H := hH
        refine lv_aload_n F.1 F.2.1 dX3_readRiver_80 rfl (lv_at hl 0 rfl) ?_
        refine tVi (b := a0) (As := []) (rest := []) F hK hN hO (c_X3_readBetween E dA dB (riverD (.inl (g_44, g_44)) (.inl (g_45, g_45)) (.inl (g_46, g_46)) 31 33 35 39 43 47) rB rc (xD 14 g_50) A14F (xD 4 g_51) A4F A14F A14F rC rD (xD 12 g_47) wd2 wd3 wd4 (xD 12 g_48) ws2 ws3 ws4 (xD 48 g_49) wi2 wi3 wi4 ((.inl (g_43, g_43))) (.inr [26]) nq g_41 g_42 T a0 ha0 (by omega) (by omega) (by omega) hT) mv_X3_readBetween wd_14_13 ⟨Nat.le_of_ble_eq_true rfl, Nat.le_of_ble_eq_true rfl⟩ ⟨Nat.le_of_ble_eq_true rfl, Nat.le_of_ble_eq_true rfl⟩ hH hS (tRecv hK hH (tyb ha0 (all1 rfl)) clX3) rfl hl.1 (Nat.le_of_ble_eq_true rfl) dX3_readRiver_81 (fun z_52 H locs hq hS => ?_)
        obtain ⟨g_53, hg_53, g_54, hg_54, f_55, f_56, hH⟩ := hq
        have hH : TH E (tbC dA dB (riverD (.inl (g_44, g_44)) (.inl (g_45, g_45)) (.inl (g_46, g_46)) 31 33 35 39 43 47) rB rc (rdD (.inl (g_53, g_53)) (.inl (nq, nq)) (.inl (g_54, g_54)) (.inl (g_43, g_43)) (.inr [26])) (xB 400 T) (xD 14 g_50) A14F (xD 4 g_51) A4F A14F A14F rC rD (xD 12 g_47) wd2 wd3 wd4 (xD 12 g_48) ws2 ws3 ws4 (xD 48 g_49) wi2 wi3 wi4) H := hH
        refine lv_istore_n (lv' := [(3, .int z_52), (0, .ref a0), (4, .int u_19)]) F.1 F.2.1 dX3_readRiver_84 rfl hl (by decide) rfl (fun ls hl => ?_)
        obtain ⟨x_57, ex_57, hx_57⟩ := iincB (c := 1) (lo := 1) (hi := 401) r_34 rfl
        refine lv_iinc (v := x_57) (lv' := [(4, .int x_57), (3, .int z_52), (0, .ref a0)]) F.1 F.2.1 dX3_readRiver_85 hl (k := 2) rfl ex_57 (by decide) rfl (fun ls hl => ?_)
        refine lv_goto (tgt := 64) F.1 F.2.1 dX3_readRiver_88 (by decide) ?_
        exact ih_64 (z_52, x_57, g_44, g_45, g_46, g_53, g_54, g_43, g_50, g_51, g_47, g_48, g_49) _ _ _ ⟨(show (401 - x_57.toInt + 1).toNat < n_64 from by omega), f_55, (wkb hx_57.2 rfl rfl), (show 0 ≤ g_44 ∧ g_44 ≤ 12 from by omega), (show 0 ≤ g_45 ∧ g_45 ≤ 14 from by omega), (show 0 ≤ g_46 ∧ g_46 ≤ 4 from by omega), (show 0 ≤ g_53 ∧ g_53 ≤ 400 from by omega), (show 0 ≤ g_54 ∧ g_54 ≤ 4000 from by omega), (show 0 ≤ g_43 ∧ g_43 ≤ 1 from by omega), hg_50, hg_51.1, hg_47, hg_48, hg_49, (show cW T nq (401 - (x_57.toInt)).toNat (z_52.toInt) (g_53, g_54, g_43, g_44, g_45, g_46, g_47, g_49, g_48, g_50, g_51) = cRun T nq D Q Kn RA_ SA_ from (run3_step hcr64_0 hg_51.2 hg_53.2.2 hg_54.2.2 f_56 (by omega) (by omega))), hH, hS, lv_sub hl [2, 1, 0] rfl⟩
  · skip
    have r_14 : 0 ≤ z_11.toInt ∧ z_11.toInt ≤ 399 := by have h9_ := ez_11; omega
    have r_15 : 1 ≤ z_12.toInt ∧ z_12.toInt ≤ 400 := by have h9_ := ez_12; omega
    refine lv_iconst (v := 1) F.1 F.2.1 dX3_readRiver_55 (by decide) ?_
    refine topK (a := 1) (by decide) (fun k_58 hk_58 => ?_)
    refine lv_goto (tgt := 60) F.1 F.2.1 dX3_readRiver_56 (by decide) ?_
    refine lv_istore_n (lv' := [(3, .int k_58), (0, .ref a0), (1, .ref a1), (2, .int a2)]) F.1 F.2.1 dX3_readRiver_60 rfl hl (by decide) rfl (fun ls hl => ?_)
    refine lv_iconst (v := 0) F.1 F.2.1 dX3_readRiver_61 (by decide) ?_
    refine topK (a := 0) (by decide) (fun k_59 hk_59 => ?_)
    refine lv_istore (lv' := [(4, .int k_59), (3, .int k_58), (0, .ref a0), (1, .ref a1), (2, .int a2)]) F.1 F.2.1 dX3_readRiver_62 hl (by decide) rfl (fun ls hl => ?_)
    refine wloop (σ := Int32 × Int32 × Int × Int × Int × Int × Int × Int × (Nat → Int32) × (Nat → Int32) × (Nat → Int32) × (Nat → Int32) × (Nat → Int32)) (fun n9 x9 H locs ls => (401 - x9.2.1.toInt + 1).toNat < n9 ∧ (0 ≤ x9.1.toInt ∧ x9.1.toInt ≤ 1) ∧ (0 ≤ x9.2.1.toInt ∧ x9.2.1.toInt ≤ 401) ∧ (0 ≤ x9.2.2.1 ∧ x9.2.2.1 ≤ 12) ∧ (0 ≤ x9.2.2.2.1 ∧ x9.2.2.2.1 ≤ 14) ∧ (0 ≤ x9.2.2.2.2.1 ∧ x9.2.2.2.2.1 ≤ 4) ∧ (0 ≤ x9.2.2.2.2.2.1 ∧ x9.2.2.2.2.2.1 ≤ 400) ∧ (0 ≤ x9.2.2.2.2.2.2.1 ∧ x9.2.2.2.2.2.2.1 ≤ 4000) ∧ (0 ≤ x9.2.2.2.2.2.2.2.1 ∧ x9.2.2.2.2.2.2.2.1 ≤ 1) ∧ (ivP 14 (-2147483648) 2147483647 x9.2.2.2.2.2.2.2.2.1) ∧ (ivP 4 (-2147483648) 2147483647 x9.2.2.2.2.2.2.2.2.2.1) ∧ (ivP 12 (-2) 11 x9.2.2.2.2.2.2.2.2.2.2.1) ∧ (ivP 12 (-2147483648) 2147483647 x9.2.2.2.2.2.2.2.2.2.2.2.1) ∧ (ivP 48 (-2147483648) 2147483647 x9.2.2.2.2.2.2.2.2.2.2.2.2) ∧ (cW T nq (401 - (x9.2.1.toInt)).toNat (x9.1.toInt) (x9.2.2.2.2.2.1, x9.2.2.2.2.2.2.1, x9.2.2.2.2.2.2.2.1, x9.2.2.1, x9.2.2.2.1, x9.2.2.2.2.1, x9.2.2.2.2.2.2.2.2.2.2.1, x9.2.2.2.2.2.2.2.2.2.2.2.2, x9.2.2.2.2.2.2.2.2.2.2.2.1, x9.2.2.2.2.2.2.2.2.1, x9.2.2.2.2.2.2.2.2.2.1) = cRun T nq D Q Kn RA_ SA_) ∧ TH E (tbC dA dB (riverD (.inl (x9.2.2.1, x9.2.2.1)) (.inl (x9.2.2.2.1, x9.2.2.2.1)) (.inl (x9.2.2.2.2.1, x9.2.2.2.2.1)) 31 33 35 39 43 47) rB rc (rdD (.inl (x9.2.2.2.2.2.1, x9.2.2.2.2.2.1)) (.inl (nq, nq)) (.inl (x9.2.2.2.2.2.2.1, x9.2.2.2.2.2.2.1)) (.inl (x9.2.2.2.2.2.2.2.1, x9.2.2.2.2.2.2.2.1)) (.inr [26])) (xB 400 T) (xD 14 x9.2.2.2.2.2.2.2.2.1) A14F (xD 4 x9.2.2.2.2.2.2.2.2.2.1) A4F A14F A14F rC rD (xD 12 x9.2.2.2.2.2.2.2.2.2.2.1) wd2 wd3 wd4 (xD 12 x9.2.2.2.2.2.2.2.2.2.2.2.1) ws2 ws3 ws4 (xD 48 x9.2.2.2.2.2.2.2.2.2.2.2.2) wi2 wi3 wi4) H ∧ va_S (eA E s.heap.size) s.heap H locs ∧ lv_has ls 5 [(0, .ref a0), (3, .int x9.1), (4, .int x9.2.1)]) ?_ (fun x9 H locs ls h => absurd h.1 (Nat.not_lt_zero _)) _ (k_58, k_59, 0, 0, 0, g_10, 0, 0, RA_, SA_, D, Kn, Q) ⟨Nat.lt_succ_self _, (wkb (eqb hk_58) rfl rfl), (wkb (eqb hk_59) rfl rfl), (show 0 ≤ 0 ∧ 0 ≤ 12 from by omega), (show 0 ≤ 0 ∧ 0 ≤ 14 from by omega), (show 0 ≤ 0 ∧ 0 ≤ 4 from by omega), (show 0 ≤ g_10 ∧ g_10 ≤ 400 from by omega), (show 0 ≤ 0 ∧ 0 ≤ 4000 from by omega), (show 0 ≤ 0 ∧ 0 ≤ 1 from by omega), hRA_, hSA_, hD, hKn, hQ, (show cW T nq (401 - (k_59.toInt)).toNat (k_58.toInt) (g_10, 0, 0, 0, 0, 0, D, Q, Kn, RA_, SA_) = cRun T nq D Q Kn RA_ SA_ from (by rw [show (401 - k_59.toInt).toNat = 401 from by omega]; exact run3_init hg_10.2.2 (by omega))), hH, hS, lv_sub hl [2, 1, 0] rfl⟩
    intro n_64 ih_64 ⟨u_60, u_61, g_62, g_63, g_64, g_65, g_66, g_67, G_68, G_69, G_70, G_71, G_72⟩ H locs ls ⟨hm_64, hu_60, hu_61, hg_62, hg_63, hg_64, hg_65, hg_66, hg_67, hG_68, hG_69, hG_70, hG_71, hG_72, hcr64_0, hH, hS, hl⟩
    have hm_64 : (401 - u_61.toInt + 1).toNat < n_64 + 1 := hm_64
    have hu_60 : (0 ≤ u_60.toInt ∧ u_60.toInt ≤ 1) := hu_60
    have hu_61 : (0 ≤ u_61.toInt ∧ u_61.toInt ≤ 401) := hu_61
    have hg_62 : (0 ≤ g_62 ∧ g_62 ≤ 12) := hg_62
    have hg_63 : (0 ≤ g_63 ∧ g_63 ≤ 14) := hg_63
    have hg_64 : (0 ≤ g_64 ∧ g_64 ≤ 4) := hg_64
    have hg_65 : (0 ≤ g_65 ∧ g_65 ≤ 400) := hg_65
    have hg_66 : (0 ≤ g_66 ∧ g_66 ≤ 4000) := hg_66
    have hg_67 : (0 ≤ g_67 ∧ g_67 ≤ 1) := hg_67
    have hG_68 : (ivP 14 (-2147483648) 2147483647 G_68) := hG_68
    have hG_69 : (ivP 4 (-2147483648) 2147483647 G_69) := hG_69
    have hG_70 : (ivP 12 (-2) 11 G_70) := hG_70
    have hG_71 : (ivP 12 (-2147483648) 2147483647 G_71) := hG_71
    have hG_72 : (ivP 48 (-2147483648) 2147483647 G_72) := hG_72
    have hcr64_0 : (cW T nq (401 - (u_61.toInt)).toNat (u_60.toInt) (g_65, g_66, g_67, g_62, g_63, g_64, G_70, G_72, G_71, G_68, G_69) = cRun T nq D Q Kn RA_ SA_) := hcr64_0
    have hH : TH E (tbC dA dB (riverD (.inl (g_62, g_62)) (.inl (g_63, g_63)) (.inl (g_64, g_64)) 31 33 35 39 43 47) rB rc (rdD (.inl (g_65, g_65)) (.inl (nq, nq)) (.inl (g_66, g_66)) (.inl (g_67, g_67)) (.inr [26])) (xB 400 T) (xD 14 G_68) A14F (xD 4 G_69) A4F A14F A14F rC rD (xD 12 G_70) wd2 wd3 wd4 (xD 12 G_71) ws2 ws3 ws4 (xD 48 G_72) wi2 wi3 wi4) H := hH
    have hl : lv_has ls 5 [(0, .ref a0), (3, .int u_60), (4, .int u_61)] := hl
    refine lv_iload F.1 F.2.1 dX3_readRiver_64 (lv_at hl 2 rfl) ?_
    refine lv_sipush (v := 400) F.1 F.2.1 dX3_readRiver_66 (by decide) ?_
    refine topK (a := 400) (by decide) (fun k_73 hk_73 => ?_)
    refine b_gt (tgt := 91) F dX3_readRiver_69 (by decide) (fun c_74 => ?_) (fun c_74 => ?_)
    · skip
      have r_75 : 401 ≤ u_61.toInt ∧ u_61.toInt ≤ 401 := by have h9_ := hu_61; omega
      refine lv_aload_n F.1 F.2.1 dX3_readRiver_91 rfl (lv_at hl 0 rfl) ?_
      refine tGetI (j := 3) F hK hH (tyb ha0 (all1 rfl)) rfl clX3 (by decide) wd_9_5 dX3_readRiver_92 (fun z_77 hz_77 => ?_)
      have ez_77 : 0 ≤ z_77.toInt ∧ z_77.toInt ≤ 4000 := by omega
      exact txI F hS dX3_readRiver_95 rfl (⟨g_62, (by omega), g_63, (by omega), g_64, (by omega), G_70, hG_70, G_71, hG_71, G_72, hG_72, ez_77, ⟨RA_, SA_, by rw [run_c (D := D) (Q := Q) (K := Kn), ← run3_end hcr64_0 (by omega)]; exact ⟨(show _ = _ by show _ = g_66; omega), rfl, rfl, rfl, rfl, rfl, rfl⟩⟩, (TH.unpin (t := 33) (TB1 := (tbC dA dB (riverD (.inl (g_62, g_62)) (.inl (g_63, g_63)) (.inl (g_64, g_64)) 31 33 35 39 43 47) rB rc (rdD (.inl (0, 400)) (.inl (0, 400)) (.inl (0, 4000)) (.inl (0, 1)) (.inr [26, 27])) (xB 400 T) A14F A14F A4F A4F A14F A14F rC rD (xD 12 G_70) wd2 wd3 wd4 (xD 12 G_71) ws2 ws3 ws4 (xD 48 G_72) wi2 wi3 wi4)) (TH.unpin (t := 31) (TB1 := (tbC dA dB (riverD (.inl (g_62, g_62)) (.inl (g_63, g_63)) (.inl (g_64, g_64)) 31 33 35 39 43 47) rB rc (rdD (.inl (0, 400)) (.inl (0, 400)) (.inl (0, 4000)) (.inl (0, 1)) (.inr [26, 27])) (xB 400 T) A14F A14F (xD 4 G_69) A4F A14F A14F rC rD (xD 12 G_70) wd2 wd3 wd4 (xD 12 G_71) ws2 ws3 ws4 (xD 48 G_72) wi2 wi3 wi4)) (TH.loose (t := 29) (TB1 := (tbC dA dB (riverD (.inl (g_62, g_62)) (.inl (g_63, g_63)) (.inl (g_64, g_64)) 31 33 35 39 43 47) rB rc (rdD (.inl (0, 400)) (.inl (0, 400)) (.inl (0, 4000)) (.inl (0, 1)) (.inr [26, 27])) (xB 400 T) (xD 14 G_68) A14F (xD 4 G_69) A4F A14F A14F rC rD (xD 12 G_70) wd2 wd3 wd4 (xD 12 G_71) ws2 ws3 ws4 (xD 48 G_72) wi2 wi3 wi4)) (TH.loose (t := 29) (TB1 := (tbC dA dB (riverD (.inl (g_62, g_62)) (.inl (g_63, g_63)) (.inl (g_64, g_64)) 31 33 35 39 43 47) rB rc (rdD (.inl (0, 400)) (.inl (0, 400)) (.inl (0, 4000)) (.inl (0, 1)) (.inr [26])) (xB 400 T) (xD 14 G_68) A14F (xD 4 G_69) A4F A14F A14F rC rD (xD 12 G_70) wd2 wd3 wd4 (xD 12 G_71) ws2 ws3 ws4 (xD 48 G_72) wi2 wi3 wi4)) (TH.loose (t := 29) (TB1 := (tbC dA dB (riverD (.inl (g_62, g_62)) (.inl (g_63, g_63)) (.inl (g_64, g_64)) 31 33 35 39 43 47) rB rc (rdD (.inl (0, 400)) (.inl (0, 400)) (.inl (0, 4000)) (.inl (g_67, g_67)) (.inr [26])) (xB 400 T) (xD 14 G_68) A14F (xD 4 G_69) A4F A14F A14F rC rD (xD 12 G_70) wd2 wd3 wd4 (xD 12 G_71) ws2 ws3 ws4 (xD 48 G_72) wi2 wi3 wi4)) (TH.loose (t := 29) (TB1 := (tbC dA dB (riverD (.inl (g_62, g_62)) (.inl (g_63, g_63)) (.inl (g_64, g_64)) 31 33 35 39 43 47) rB rc (rdD (.inl (0, 400)) (.inl (0, 400)) (.inl (g_66, g_66)) (.inl (g_67, g_67)) (.inr [26])) (xB 400 T) (xD 14 G_68) A14F (xD 4 G_69) A4F A14F A14F rC rD (xD 12 G_70) wd2 wd3 wd4 (xD 12 G_71) ws2 ws3 ws4 (xD 48 G_72) wi2 wi3 wi4)) (TH.loose (t := 29) (TB1 := (tbC dA dB (riverD (.inl (g_62, g_62)) (.inl (g_63, g_63)) (.inl (g_64, g_64)) 31 33 35 39 43 47) rB rc (rdD (.inl (g_65, g_65)) (.inl (0, 400)) (.inl (g_66, g_66)) (.inl (g_67, g_67)) (.inr [26])) (xB 400 T) (xD 14 G_68) A14F (xD 4 G_69) A4F A14F A14F rC rD (xD 12 G_70) wd2 wd3 wd4 (xD 12 G_71) ws2 ws3 ws4 (xD 48 G_72) wi2 wi3 wi4)) hH rfl (tcLoose (j := 1) rfl (by omega)) rfl) rfl (tcLoose (j := 2) rfl (by omega)) rfl) rfl (tcLoose (j := 3) rfl (by omega)) rfl) rfl (tcLoose (j := 4) rfl (by omega)) rfl) rfl (tcLooseR (j := 5) rfl (by simp)) rfl) rfl hG_68 rfl) rfl hG_69 rfl)⟩)
    · skip
      have r_76 : 0 ≤ u_61.toInt ∧ u_61.toInt ≤ 400 := by have h9_ := hu_61; omega
      refine lv_iload_n F.1 F.2.1 dX3_readRiver_72 rfl (lv_at hl 1 rfl) ?_
      refine z_eq (tgt := 91) F dX3_readRiver_73 (by decide) (fun c_78 => ?_) (fun c_78 => ?_)
      · skip
        have r_79 : 0 ≤ u_60.toInt ∧ u_60.toInt ≤ 0 := by have h9_ := hu_60; omega
        refine lv_aload_n F.1 F.2.1 dX3_readRiver_91 rfl (lv_at hl 0 rfl) ?_
        refine tGetI (j := 3) F hK hH (tyb ha0 (all1 rfl)) rfl clX3 (by decide) wd_9_5 dX3_readRiver_92 (fun z_81 hz_81 => ?_)
        have ez_81 : 0 ≤ z_81.toInt ∧ z_81.toInt ≤ 4000 := by omega
        exact txI F hS dX3_readRiver_95 rfl (⟨g_62, (by omega), g_63, (by omega), g_64, (by omega), G_70, hG_70, G_71, hG_71, G_72, hG_72, ez_81, ⟨RA_, SA_, by rw [run_c (D := D) (Q := Q) (K := Kn), ← run3_end hcr64_0 (by omega)]; exact ⟨(show _ = _ by show _ = g_66; omega), rfl, rfl, rfl, rfl, rfl, rfl⟩⟩, (TH.unpin (t := 33) (TB1 := (tbC dA dB (riverD (.inl (g_62, g_62)) (.inl (g_63, g_63)) (.inl (g_64, g_64)) 31 33 35 39 43 47) rB rc (rdD (.inl (0, 400)) (.inl (0, 400)) (.inl (0, 4000)) (.inl (0, 1)) (.inr [26, 27])) (xB 400 T) A14F A14F A4F A4F A14F A14F rC rD (xD 12 G_70) wd2 wd3 wd4 (xD 12 G_71) ws2 ws3 ws4 (xD 48 G_72) wi2 wi3 wi4)) (TH.unpin (t := 31) (TB1 := (tbC dA dB (riverD (.inl (g_62, g_62)) (.inl (g_63, g_63)) (.inl (g_64, g_64)) 31 33 35 39 43 47) rB rc (rdD (.inl (0, 400)) (.inl (0, 400)) (.inl (0, 4000)) (.inl (0, 1)) (.inr [26, 27])) (xB 400 T) A14F A14F (xD 4 G_69) A4F A14F A14F rC rD (xD 12 G_70) wd2 wd3 wd4 (xD 12 G_71) ws2 ws3 ws4 (xD 48 G_72) wi2 wi3 wi4)) (TH.loose (t := 29) (TB1 := (tbC dA dB (riverD (.inl (g_62, g_62)) (.inl (g_63, g_63)) (.inl (g_64, g_64)) 31 33 35 39 43 47) rB rc (rdD (.inl (0, 400)) (.inl (0, 400)) (.inl (0, 4000)) (.inl (0, 1)) (.inr [26, 27])) (xB 400 T) (xD 14 G_68) A14F (xD 4 G_69) A4F A14F A14F rC rD (xD 12 G_70) wd2 wd3 wd4 (xD 12 G_71) ws2 ws3 ws4 (xD 48 G_72) wi2 wi3 wi4)) (TH.loose (t := 29) (TB1 := (tbC dA dB (riverD (.inl (g_62, g_62)) (.inl (g_63, g_63)) (.inl (g_64, g_64)) 31 33 35 39 43 47) rB rc (rdD (.inl (0, 400)) (.inl (0, 400)) (.inl (0, 4000)) (.inl (0, 1)) (.inr [26])) (xB 400 T) (xD 14 G_68) A14F (xD 4 G_69) A4F A14F A14F rC rD (xD 12 G_70) wd2 wd3 wd4 (xD 12 G_71) ws2 ws3 ws4 (xD 48 G_72) wi2 wi3 wi4)) (TH.loose (t := 29) (TB1 := (tbC dA dB (riverD (.inl (g_62, g_62)) (.inl (g_63, g_63)) (.inl (g_64, g_64)) 31 33 35 39 43 47) rB rc (rdD (.inl (0, 400)) (.inl (0, 400)) (.inl (0, 4000)) (.inl (g_67, g_67)) (.inr [26])) (xB 400 T) (xD 14 G_68) A14F (xD 4 G_69) A4F A14F A14F rC rD (xD 12 G_70) wd2 wd3 wd4 (xD 12 G_71) ws2 ws3 ws4 (xD 48 G_72) wi2 wi3 wi4)) (TH.loose (t := 29) (TB1 := (tbC dA dB (riverD (.inl (g_62, g_62)) (.inl (g_63, g_63)) (.inl (g_64, g_64)) 31 33 35 39 43 47) rB rc (rdD (.inl (0, 400)) (.inl (0, 400)) (.inl (g_66, g_66)) (.inl (g_67, g_67)) (.inr [26])) (xB 400 T) (xD 14 G_68) A14F (xD 4 G_69) A4F A14F A14F rC rD (xD 12 G_70) wd2 wd3 wd4 (xD 12 G_71) ws2 ws3 ws4 (xD 48 G_72) wi2 wi3 wi4)) (TH.loose (t := 29) (TB1 := (tbC dA dB (riverD (.inl (g_62, g_62)) (.inl (g_63, g_63)) (.inl (g_64, g_64)) 31 33 35 39 43 47) rB rc (rdD (.inl (g_65, g_65)) (.inl (0, 400)) (.inl (g_66, g_66)) (.inl (g_67, g_67)) (.inr [26])) (xB 400 T) (xD 14 G_68) A14F (xD 4 G_69) A4F A14F A14F rC rD (xD 12 G_70) wd2 wd3 wd4 (xD 12 G_71) ws2 ws3 ws4 (xD 48 G_72) wi2 wi3 wi4)) hH rfl (tcLoose (j := 1) rfl (by omega)) rfl) rfl (tcLoose (j := 2) rfl (by omega)) rfl) rfl (tcLoose (j := 3) rfl (by omega)) rfl) rfl (tcLoose (j := 4) rfl (by omega)) rfl) rfl (tcLooseR (j := 5) rfl (by simp)) rfl) rfl hG_68 rfl) rfl hG_69 rfl)⟩)
      · skip
        have r_80 : 1 ≤ u_60.toInt ∧ u_60.toInt ≤ 1 := by have h9_ := hu_60; omega
        refine lv_aload_n F.1 F.2.1 dX3_readRiver_76 rfl (lv_at hl 0 rfl) ?_
        refine tVv (b := a0) (As := []) (rest := []) F hK hN hO (c_X3_readPart_1 E dA dB rB rc A14F A4F A14F rC rD wd2 wd3 wd4 ws2 ws3 ws4 wi2 wi3 wi4 g_62 g_63 g_64 nq g_65 g_66 g_67 T G_68 G_69 G_70 G_71 G_72 a0 ha0 (by omega) (by omega) (by omega) (by omega) (by omega) (by omega) (by omega) hT hG_68 hG_69 hG_70 hG_71 hG_72) mv_X3_readPart wd_9_18 ⟨Nat.le_of_ble_eq_true rfl, Nat.le_of_ble_eq_true rfl⟩ ⟨Nat.le_of_ble_eq_true rfl, Nat.le_of_ble_eq_true rfl⟩ hH hS (tRecv hK hH (tyb ha0 (all1 rfl)) clX3) rfl hl.1 (Nat.le_of_ble_eq_true rfl) dX3_readRiver_77 (fun H locs hq hS => ?_)
        obtain ⟨g_83, hg_83, g_84, hg_84, g_85, hg_85, g_86, hg_86, g_87, hg_87, g_88, hg_88, g_89, hg_89, g_90, hg_90, g_91, hg_91, g_92, hg_92, g_93, hg_93, hH⟩ := hq
        have hH : TH E (tbC dA dB (riverD (.inl (g_86, g_86)) (.inl (g_87, g_87)) (.inl (g_88, g_88)) 31 33 35 39 43 47) rB rc (rdD (.inl (g_83, g_83)) (.inl (nq, nq)) (.inl (g_84, g_84)) (.inl (g_85, g_85)) (.inr [26])) (xB 400 T) (xD 14 g_92) A14F (xD 4 g_93) A4F A14F A14F rC rD (xD 12 g_89) wd2 wd3 wd4 (xD 12 g_90) ws2 ws3 ws4 (xD 48 g_91) wi2 wi3 wi4) H := hH
        refine lv_aload_n F.1 F.2.1 dX3_readRiver_80 rfl (lv_at hl 0 rfl) ?_
        refine tVi (b := a0) (As := []) (rest := []) F hK hN hO (c_X3_readBetween E dA dB (riverD (.inl (g_86, g_86)) (.inl (g_87, g_87)) (.inl (g_88, g_88)) 31 33 35 39 43 47) rB rc (xD 14 g_92) A14F (xD 4 g_93) A4F A14F A14F rC rD (xD 12 g_89) wd2 wd3 wd4 (xD 12 g_90) ws2 ws3 ws4 (xD 48 g_91) wi2 wi3 wi4 ((.inl (g_85, g_85))) (.inr [26]) nq g_83 g_84 T a0 ha0 (by omega) (by omega) (by omega) hT) mv_X3_readBetween wd_14_13 ⟨Nat.le_of_ble_eq_true rfl, Nat.le_of_ble_eq_true rfl⟩ ⟨Nat.le_of_ble_eq_true rfl, Nat.le_of_ble_eq_true rfl⟩ hH hS (tRecv hK hH (tyb ha0 (all1 rfl)) clX3) rfl hl.1 (Nat.le_of_ble_eq_true rfl) dX3_readRiver_81 (fun z_94 H locs hq hS => ?_)
        obtain ⟨g_95, hg_95, g_96, hg_96, f_97, f_98, hH⟩ := hq
        have hH : TH E (tbC dA dB (riverD (.inl (g_86, g_86)) (.inl (g_87, g_87)) (.inl (g_88, g_88)) 31 33 35 39 43 47) rB rc (rdD (.inl (g_95, g_95)) (.inl (nq, nq)) (.inl (g_96, g_96)) (.inl (g_85, g_85)) (.inr [26])) (xB 400 T) (xD 14 g_92) A14F (xD 4 g_93) A4F A14F A14F rC rD (xD 12 g_89) wd2 wd3 wd4 (xD 12 g_90) ws2 ws3 ws4 (xD 48 g_91) wi2 wi3 wi4) H := hH
        refine lv_istore_n (lv' := [(3, .int z_94), (0, .ref a0), (4, .int u_61)]) F.1 F.2.1 dX3_readRiver_84 rfl hl (by decide) rfl (fun ls hl => ?_)
        obtain ⟨x_99, ex_99, hx_99⟩ := iincB (c := 1) (lo := 1) (hi := 401) r_76 rfl
        refine lv_iinc (v := x_99) (lv' := [(4, .int x_99), (3, .int z_94), (0, .ref a0)]) F.1 F.2.1 dX3_readRiver_85 hl (k := 2) rfl ex_99 (by decide) rfl (fun ls hl => ?_)
        refine lv_goto (tgt := 64) F.1 F.2.1 dX3_readRiver_88 (by decide) ?_
        exact ih_64 (z_94, x_99, g_86, g_87, g_88, g_95, g_96, g_85, g_92, g_93, g_89, g_90, g_91) _ _ _ ⟨(show (401 - x_99.toInt + 1).toNat < n_64 from by omega), f_97, (wkb hx_99.2 rfl rfl), (show 0 ≤ g_86 ∧ g_86 ≤ 12 from by omega), (show 0 ≤ g_87 ∧ g_87 ≤ 14 from by omega), (show 0 ≤ g_88 ∧ g_88 ≤ 4 from by omega), (show 0 ≤ g_95 ∧ g_95 ≤ 400 from by omega), (show 0 ≤ g_96 ∧ g_96 ≤ 4000 from by omega), (show 0 ≤ g_85 ∧ g_85 ≤ 1 from by omega), hg_92, hg_93.1, hg_89, hg_90, hg_91, (show cW T nq (401 - (x_99.toInt)).toNat (z_94.toInt) (g_95, g_96, g_85, g_86, g_87, g_88, g_89, g_91, g_90, g_92, g_93) = cRun T nq D Q Kn RA_ SA_ from (run3_step hcr64_0 hg_93.2 hg_95.2.2 hg_96.2.2 f_98 (by omega) (by omega))), hH, hS, lv_sub hl [2, 1, 0] rfl⟩
set_option maxHeartbeats 4000000 in
set_option maxRecDepth 100000 in
theorem c_X3_readRiver_2 (E : Ev) (dA : TD) (dB : TD) (rA : TD) (rc : TD) (rC : TD) (rD : TD) (wd1 : TD) (wd3 : TD) (wd4 : TD) (ws1 : TD) (ws3 : TD) (ws4 : TD) (wi1 : TD) (wi3 : TD) (wi4 : TD) (Fa2 : Int × Int) (Fb2 : Int × Int) (T : Nat → Int32) (D : Nat → Int32) (Kn : Nat → Int32) (Q : Nat → Int32) (nq : Int) (a0 : Nat) (a1 : Nat) (a2 : Int32) (ha0 : eT E a0 ∈ [29]) (ha1 : eT E a1 ∈ [27]) (ha2 : 0 ≤ a2.toInt ∧ a2.toInt ≤ 400) (hT : ivP 400 (-128) 127 T) (hD : ivP 12 (-2) 11 D) (hKn : ivP 12 (-2147483648) 2147483647 Kn) (hQ : ivP 48 (-2147483648) 2147483647 Q) (hFa2 : 0 ≤ Fa2.1 ∧ Fa2.2 ≤ 12) (hFb2 : 0 ≤ Fb2.1 ∧ Fb2.2 ≤ 14) (hnq : a2.toInt = nq) : TcI E yX3_readRiver cX3_readRiver 5 .int ({ frames := 9, cells := 0, slots := 0, locals := 270 }) [.ref a0, .ref a1, .int a2] (fun H => TH E (tbC dA dB rA (riverD (.inl Fa2) (.inl Fb2) (.inl (0, 4)) 32 34 36 40 44 48) rc (rdD (.inl (0, 400)) (.inl (0, 400)) (.inl (0, 4000)) (.inl (0, 1)) (.inr [26, 27])) (xB 400 T) A14F A14F A4F A4F A14F A14F rC rD wd1 (xD 12 D) wd3 wd4 ws1 (xD 12 Kn) ws3 ws4 wi1 (xD 48 Q) wi3 wi4) H) (fun v H => ∃ a2 : Int, (0 ≤ a2 ∧ a2 ≤ 12) ∧ ∃ b2 : Int, (0 ≤ b2 ∧ b2 ≤ 14) ∧ ∃ c2 : Int, (0 ≤ c2 ∧ c2 ≤ 4) ∧ ∃ D2 : Nat → Int32, (ivP 12 (-2) 11 D2) ∧ ∃ Kn2 : Nat → Int32, (ivP 12 (-2147483648) 2147483647 Kn2) ∧ ∃ Q2 : Nat → Int32, (ivP 48 (-2147483648) 2147483647 Q2) ∧ (0 ≤ v.toInt ∧ v.toInt ≤ 4000) ∧ (∃ R0 S0 : Nat → Int32, v.toInt = (kRun T nq R0 S0).2.1 ∧ b2 = (kRun T nq R0 S0).2.2.2.2.1 ∧ cRow3 (cRun T nq D Q Kn R0 S0) a2 b2 D2 Q2 Kn2) ∧ TH E (tbC dA dB rA (riverD (.inl (a2, a2)) (.inl (b2, b2)) (.inl (c2, c2)) 32 34 36 40 44 48) rc (rdD (.inl (0, 400)) (.inl (0, 400)) (.inl (0, 4000)) (.inl (0, 1)) (.inr [26, 27])) (xB 400 T) A14F A14F A4F A4F A14F A14F rC rD wd1 (xD 12 D2) wd3 wd4 ws1 (xD 12 Kn2) ws3 ws4 wi1 (xD 48 Q2) wi3 wi4) H) := by
  refine teI (by decide) (Nat.le_of_ble_eq_true rfl) ?_
  intro p_ ev_ s mi_ below_ meth cd_ ls F hK hN hO hH hS hl
  have hH : TH E (tbC dA dB rA (riverD (.inl Fa2) (.inl Fb2) (.inl (0, 4)) 32 34 36 40 44 48) rc (rdD (.inl (0, 400)) (.inl (0, 400)) (.inl (0, 4000)) (.inl (0, 1)) (.inr [26, 27])) (xB 400 T) A14F A14F A4F A4F A14F A14F rC rD wd1 (xD 12 D) wd3 wd4 ws1 (xD 12 Kn) ws3 ws4 wi1 (xD 48 Q) wi3 wi4) s.heap := hH
  have hl : lv_has ls 5 [(0, .ref a0), (1, .ref a1), (2, .int a2)] := hl
  refine lv_aload_n F.1 F.2.1 dX3_readRiver_0 rfl (lv_at hl 0 rfl) ?_
  refine lv_aload_n F.1 F.2.1 dX3_readRiver_1 rfl (lv_at hl 1 rfl) ?_
  refine tPutG (j := 5) (t := 29) (fd := (.inr [27])) F hK hH hS (List.mem_singleton.mp ha0) (by decide) rfl rfl (fdR ha1) (TB1 := (tbC dA dB rA (riverD (.inl Fa2) (.inl Fb2) (.inl (0, 4)) 32 34 36 40 44 48) rc (rdD (.inl (0, 400)) (.inl (0, 400)) (.inl (0, 4000)) (.inl (0, 1)) (.inr [27])) (xB 400 T) A14F A14F A4F A4F A14F A14F rC rD wd1 (xD 12 D) wd3 wd4 ws1 (xD 12 Kn) ws3 ws4 wi1 (xD 48 Q) wi3 wi4)) rfl clX3 (by decide) wd_5_18 rfl rfl rfl rfl dX3_readRiver_2 (fun H locs hH hS => ?_)
  refine lv_aload_n F.1 F.2.1 dX3_readRiver_5 rfl (lv_at hl 0 rfl) ?_
  refine tGetR (j := 5) F hK hH (tyb ha0 (all1 rfl)) rfl (all1 rfl) clX3 (by decide) wd_5_18 dX3_readRiver_6 (fun q_1 hq_1 _ => ?_)
  refine tVv (b := q_1) (As := []) (rest := []) F hK hN hO (c_X2_clear_2 E dA dB rA rc (rdD (.inl (0, 400)) (.inl (0, 400)) (.inl (0, 4000)) (.inl (0, 1)) (.inr [27])) (xB 400 T) A14F A14F A4F A4F A14F A14F rC rD wd1 (xD 12 D) wd3 wd4 ws1 (xD 12 Kn) ws3 ws4 wi1 (xD 48 Q) wi3 wi4 Fa2 Fb2 q_1 hq_1 hFa2 hFb2) mv_X2_clear wd_9_7 ⟨Nat.le_of_ble_eq_true rfl, Nat.le_of_ble_eq_true rfl⟩ ⟨Nat.le_of_ble_eq_true rfl, Nat.le_of_ble_eq_true rfl⟩ hH hS (tRecv hK hH (tyb hq_1 (all1 rfl)) clX2) rfl hl.1 (Nat.le_of_ble_eq_true rfl) dX3_readRiver_9 (fun H locs hq hS => ?_)
  have hH := hq
  have hH : TH E (tbC dA dB rA (riverD (.inl (0, 0)) (.inl (0, 0)) (.inl (0, 0)) 32 34 36 40 44 48) rc (rdD (.inl (0, 400)) (.inl (0, 400)) (.inl (0, 4000)) (.inl (0, 1)) (.inr [27])) (xB 400 T) A14F A14F A4F A4F A14F A14F rC rD wd1 (xD 12 D) wd3 wd4 ws1 (xD 12 Kn) ws3 ws4 wi1 (xD 48 Q) wi3 wi4) H := hH
  obtain ⟨RA_, hRA_, hH⟩ := TH.pin0 (t := 32) (fun _ => 0) hH rfl (by decide) (fun j hj => by show _ ≤ (0 : Int32).toInt ∧ (0 : Int32).toInt ≤ _; decide)
  obtain ⟨SA_, hSA_, hH⟩ := TH.pin0 (t := 34) (fun _ => 0) hH rfl (by decide) (fun j hj => by show _ ≤ (0 : Int32).toInt ∧ (0 : Int32).toInt ≤ _; decide)
  have hH : TH E (tbC dA dB rA (riverD (.inl (0, 0)) (.inl (0, 0)) (.inl (0, 0)) 32 34 36 40 44 48) rc (rdD (.inl (0, 400)) (.inl (0, 400)) (.inl (0, 4000)) (.inl (0, 1)) (.inr [27])) (xB 400 T) A14F (xD 14 RA_) A4F (xD 4 SA_) A14F A14F rC rD wd1 (xD 12 D) wd3 wd4 ws1 (xD 12 Kn) ws3 ws4 wi1 (xD 48 Q) wi3 wi4) H := hH
  refine lv_aload_n F.1 F.2.1 dX3_readRiver_12 rfl (lv_at hl 0 rfl) ?_
  refine lv_iload_n F.1 F.2.1 dX3_readRiver_13 rfl (lv_at hl 2 rfl) ?_
  refine lv_aload_n F.1 F.2.1 dX3_readRiver_14 rfl (lv_at hl 0 rfl) ?_
  refine tGetR (j := 0) F hK hH (tyb ha0 (all1 rfl)) rfl (all1 rfl) clX3 (by decide) wd_5_17 dX3_readRiver_15 (fun q_3 hq_3 _ => ?_)
  refine tAlen (v := 400) F hK hH (tyb hq_3 (all1 rfl)) rfl (by decide) dX3_readRiver_18 ?_
  refine topK (a := 400) (by decide) (fun k_4 hk_4 => ?_)
  refine tMin (lo := 0) (hi := 400) F wd_8_23 wd_9_0 wd_9_1 wd_9_2 hl.1 (Nat.le_of_ble_eq_true rfl) (Nat.le_of_ble_eq_true rfl) (Nat.le_of_ble_eq_true rfl) (Nat.le_of_ble_eq_true rfl) dX3_readRiver_19 ha2 (eqb hk_4) rfl (fun z_5 hz_5 => ?_)
  refine tPutG (j := 1) (t := 29) (fd := (.inl (nq, nq))) F hK hH hS (List.mem_singleton.mp ha0) (by decide) rfl rfl (fdI (by omega)) (TB1 := (tbC dA dB rA (riverD (.inl (0, 0)) (.inl (0, 0)) (.inl (0, 0)) 32 34 36 40 44 48) rc (rdD (.inl (0, 400)) (.inl (nq, nq)) (.inl (0, 4000)) (.inl (0, 1)) (.inr [27])) (xB 400 T) A14F (xD 14 RA_) A4F (xD 4 SA_) A14F A14F rC rD wd1 (xD 12 D) wd3 wd4 ws1 (xD 12 Kn) ws3 ws4 wi1 (xD 48 Q) wi3 wi4)) rfl clX3 (by decide) wd_9_3 rfl rfl rfl rfl dX3_readRiver_22 (fun H locs hH hS => ?_)
  refine lv_aload_n F.1 F.2.1 dX3_readRiver_25 rfl (lv_at hl 0 rfl) ?_
  refine lv_iconst (v := 0) F.1 F.2.1 dX3_readRiver_26 (by decide) ?_
  refine topK (a := 0) (by decide) (fun k_6 hk_6 => ?_)
  refine tPutG (j := 2) (t := 29) (fd := (.inl (0, 0))) F hK hH hS (List.mem_singleton.mp ha0) (by decide) rfl rfl (fdI (by omega)) (TB1 := (tbC dA dB rA (riverD (.inl (0, 0)) (.inl (0, 0)) (.inl (0, 0)) 32 34 36 40 44 48) rc (rdD (.inl (0, 0)) (.inl (nq, nq)) (.inl (0, 4000)) (.inl (0, 1)) (.inr [27])) (xB 400 T) A14F (xD 14 RA_) A4F (xD 4 SA_) A14F A14F rC rD wd1 (xD 12 D) wd3 wd4 ws1 (xD 12 Kn) ws3 ws4 wi1 (xD 48 Q) wi3 wi4)) rfl clX3 (by decide) wd_9_4 rfl rfl rfl rfl dX3_readRiver_27 (fun H locs hH hS => ?_)
  refine lv_aload_n F.1 F.2.1 dX3_readRiver_30 rfl (lv_at hl 0 rfl) ?_
  refine lv_iconst (v := 0) F.1 F.2.1 dX3_readRiver_31 (by decide) ?_
  refine topK (a := 0) (by decide) (fun k_7 hk_7 => ?_)
  refine tPutG (j := 3) (t := 29) (fd := (.inl (0, 0))) F hK hH hS (List.mem_singleton.mp ha0) (by decide) rfl rfl (fdI (by omega)) (TB1 := (tbC dA dB rA (riverD (.inl (0, 0)) (.inl (0, 0)) (.inl (0, 0)) 32 34 36 40 44 48) rc (rdD (.inl (0, 0)) (.inl (nq, nq)) (.inl (0, 0)) (.inl (0, 1)) (.inr [27])) (xB 400 T) A14F (xD 14 RA_) A4F (xD 4 SA_) A14F A14F rC rD wd1 (xD 12 D) wd3 wd4 ws1 (xD 12 Kn) ws3 ws4 wi1 (xD 48 Q) wi3 wi4)) rfl clX3 (by decide) wd_9_5 rfl rfl rfl rfl dX3_readRiver_32 (fun H locs hH hS => ?_)
  refine lv_aload_n F.1 F.2.1 dX3_readRiver_35 rfl (lv_at hl 0 rfl) ?_
  refine lv_iconst (v := 0) F.1 F.2.1 dX3_readRiver_36 (by decide) ?_
  refine topK (a := 0) (by decide) (fun k_8 hk_8 => ?_)
  refine tPutG (j := 4) (t := 29) (fd := (.inl (0, 0))) F hK hH hS (List.mem_singleton.mp ha0) (by decide) rfl rfl (fdI (by omega)) (TB1 := (tbC dA dB rA (riverD (.inl (0, 0)) (.inl (0, 0)) (.inl (0, 0)) 32 34 36 40 44 48) rc (rdD (.inl (0, 0)) (.inl (nq, nq)) (.inl (0, 0)) (.inl (0, 0)) (.inr [27])) (xB 400 T) A14F (xD 14 RA_) A4F (xD 4 SA_) A14F A14F rC rD wd1 (xD 12 D) wd3 wd4 ws1 (xD 12 Kn) ws3 ws4 wi1 (xD 48 Q) wi3 wi4)) rfl clX3 (by decide) wd_9_6 rfl rfl (nar01 (wkb (eqb hk_8) rfl rfl)) (fit01 (wkb (eqb hk_8) rfl rfl)) dX3_readRiver_37 (fun H locs hH hS => ?_)
  refine lv_aload_n F.1 F.2.1 dX3_readRiver_40 rfl (lv_at hl 0 rfl) ?_
  refine tVv (b := a0) (As := []) (rest := []) F hK hN hO (c_X3_skipBlanks E dA dB rA (riverD (.inl (0, 0)) (.inl (0, 0)) (.inl (0, 0)) 32 34 36 40 44 48) rc A14F (xD 14 RA_) A4F (xD 4 SA_) A14F A14F rC rD wd1 (xD 12 D) wd3 wd4 ws1 (xD 12 Kn) ws3 ws4 wi1 (xD 48 Q) wi3 wi4 ((.inl (0, 0))) ((.inl (0, 0))) (.inr [27]) nq 0 T a0 ha0 (by omega) (by omega) hT) mv_X3_skipBlanks wd_9_14 ⟨Nat.le_of_ble_eq_true rfl, Nat.le_of_ble_eq_true rfl⟩ ⟨Nat.le_of_ble_eq_true rfl, Nat.le_of_ble_eq_true rfl⟩ hH hS (tRecv hK hH (tyb ha0 (all1 rfl)) clX3) rfl hl.1 (Nat.le_of_ble_eq_true rfl) dX3_readRiver_41 (fun H locs hq hS => ?_)
  obtain ⟨g_10, hg_10, hH⟩ := hq
  have hH : TH E (tbC dA dB rA (riverD (.inl (0, 0)) (.inl (0, 0)) (.inl (0, 0)) 32 34 36 40 44 48) rc (rdD (.inl (g_10, g_10)) (.inl (nq, nq)) (.inl (0, 0)) (.inl (0, 0)) (.inr [27])) (xB 400 T) A14F (xD 14 RA_) A4F (xD 4 SA_) A14F A14F rC rD wd1 (xD 12 D) wd3 wd4 ws1 (xD 12 Kn) ws3 ws4 wi1 (xD 48 Q) wi3 wi4) H := hH
  refine lv_aload_n F.1 F.2.1 dX3_readRiver_44 rfl (lv_at hl 0 rfl) ?_
  refine tGetI (j := 2) F hK hH (tyb ha0 (all1 rfl)) rfl clX3 (by decide) wd_9_4 dX3_readRiver_45 (fun z_11 hz_11 => ?_)
  have ez_11 : 0 ≤ z_11.toInt ∧ z_11.toInt ≤ 400 := by omega
  refine lv_aload_n F.1 F.2.1 dX3_readRiver_48 rfl (lv_at hl 0 rfl) ?_
  refine tGetI (j := 1) F hK hH (tyb ha0 (all1 rfl)) rfl clX3 (by decide) wd_9_3 dX3_readRiver_49 (fun z_12 hz_12 => ?_)
  have ez_12 : 0 ≤ z_12.toInt ∧ z_12.toInt ≤ 400 := by omega
  refine b_ge (tgt := 59) F dX3_readRiver_52 (by decide) (fun c_13 => ?_) (fun c_13 => ?_)
  · skip
    refine lv_iconst (v := 0) F.1 F.2.1 dX3_readRiver_59 (by decide) ?_
    refine topK (a := 0) (by decide) (fun k_16 hk_16 => ?_)
    refine lv_istore_n (lv' := [(3, .int k_16), (0, .ref a0), (1, .ref a1), (2, .int a2)]) F.1 F.2.1 dX3_readRiver_60 rfl hl (by decide) rfl (fun ls hl => ?_)
    refine lv_iconst (v := 0) F.1 F.2.1 dX3_readRiver_61 (by decide) ?_
    refine topK (a := 0) (by decide) (fun k_17 hk_17 => ?_)
    refine lv_istore (lv' := [(4, .int k_17), (3, .int k_16), (0, .ref a0), (1, .ref a1), (2, .int a2)]) F.1 F.2.1 dX3_readRiver_62 hl (by decide) rfl (fun ls hl => ?_)
    refine wloop (σ := Int32 × Int32 × Int × Int × Int × Int × Int × Int × (Nat → Int32) × (Nat → Int32) × (Nat → Int32) × (Nat → Int32) × (Nat → Int32)) (fun n9 x9 H locs ls => (401 - x9.2.1.toInt + 1).toNat < n9 ∧ (0 ≤ x9.1.toInt ∧ x9.1.toInt ≤ 1) ∧ (0 ≤ x9.2.1.toInt ∧ x9.2.1.toInt ≤ 401) ∧ (0 ≤ x9.2.2.1 ∧ x9.2.2.1 ≤ 12) ∧ (0 ≤ x9.2.2.2.1 ∧ x9.2.2.2.1 ≤ 14) ∧ (0 ≤ x9.2.2.2.2.1 ∧ x9.2.2.2.2.1 ≤ 4) ∧ (0 ≤ x9.2.2.2.2.2.1 ∧ x9.2.2.2.2.2.1 ≤ 400) ∧ (0 ≤ x9.2.2.2.2.2.2.1 ∧ x9.2.2.2.2.2.2.1 ≤ 4000) ∧ (0 ≤ x9.2.2.2.2.2.2.2.1 ∧ x9.2.2.2.2.2.2.2.1 ≤ 1) ∧ (ivP 14 (-2147483648) 2147483647 x9.2.2.2.2.2.2.2.2.1) ∧ (ivP 4 (-2147483648) 2147483647 x9.2.2.2.2.2.2.2.2.2.1) ∧ (ivP 12 (-2) 11 x9.2.2.2.2.2.2.2.2.2.2.1) ∧ (ivP 12 (-2147483648) 2147483647 x9.2.2.2.2.2.2.2.2.2.2.2.1) ∧ (ivP 48 (-2147483648) 2147483647 x9.2.2.2.2.2.2.2.2.2.2.2.2) ∧ (cW T nq (401 - (x9.2.1.toInt)).toNat (x9.1.toInt) (x9.2.2.2.2.2.1, x9.2.2.2.2.2.2.1, x9.2.2.2.2.2.2.2.1, x9.2.2.1, x9.2.2.2.1, x9.2.2.2.2.1, x9.2.2.2.2.2.2.2.2.2.2.1, x9.2.2.2.2.2.2.2.2.2.2.2.2, x9.2.2.2.2.2.2.2.2.2.2.2.1, x9.2.2.2.2.2.2.2.2.1, x9.2.2.2.2.2.2.2.2.2.1) = cRun T nq D Q Kn RA_ SA_) ∧ TH E (tbC dA dB rA (riverD (.inl (x9.2.2.1, x9.2.2.1)) (.inl (x9.2.2.2.1, x9.2.2.2.1)) (.inl (x9.2.2.2.2.1, x9.2.2.2.2.1)) 32 34 36 40 44 48) rc (rdD (.inl (x9.2.2.2.2.2.1, x9.2.2.2.2.2.1)) (.inl (nq, nq)) (.inl (x9.2.2.2.2.2.2.1, x9.2.2.2.2.2.2.1)) (.inl (x9.2.2.2.2.2.2.2.1, x9.2.2.2.2.2.2.2.1)) (.inr [27])) (xB 400 T) A14F (xD 14 x9.2.2.2.2.2.2.2.2.1) A4F (xD 4 x9.2.2.2.2.2.2.2.2.2.1) A14F A14F rC rD wd1 (xD 12 x9.2.2.2.2.2.2.2.2.2.2.1) wd3 wd4 ws1 (xD 12 x9.2.2.2.2.2.2.2.2.2.2.2.1) ws3 ws4 wi1 (xD 48 x9.2.2.2.2.2.2.2.2.2.2.2.2) wi3 wi4) H ∧ va_S (eA E s.heap.size) s.heap H locs ∧ lv_has ls 5 [(0, .ref a0), (3, .int x9.1), (4, .int x9.2.1)]) ?_ (fun x9 H locs ls h => absurd h.1 (Nat.not_lt_zero _)) _ (k_16, k_17, 0, 0, 0, g_10, 0, 0, RA_, SA_, D, Kn, Q) ⟨Nat.lt_succ_self _, (wkb (eqb hk_16) rfl rfl), (wkb (eqb hk_17) rfl rfl), (show 0 ≤ 0 ∧ 0 ≤ 12 from by omega), (show 0 ≤ 0 ∧ 0 ≤ 14 from by omega), (show 0 ≤ 0 ∧ 0 ≤ 4 from by omega), (show 0 ≤ g_10 ∧ g_10 ≤ 400 from by omega), (show 0 ≤ 0 ∧ 0 ≤ 4000 from by omega), (show 0 ≤ 0 ∧ 0 ≤ 1 from by omega), hRA_, hSA_, hD, hKn, hQ, (show cW T nq (401 - (k_17.toInt)).toNat (k_16.toInt) (g_10, 0, 0, 0, 0, 0, D, Q, Kn, RA_, SA_) = cRun T nq D Q Kn RA_ SA_ from (by rw [show (401 - k_17.toInt).toNat = 401 from by omega]; exact run3_init hg_10.2.2 (by omega))), hH, hS, lv_sub hl [2, 1, 0] rfl⟩
    intro n_64 ih_64 ⟨u_18, u_19, g_20, g_21, g_22, g_23, g_24, g_25, G_26, G_27, G_28, G_29, G_30⟩ H locs ls ⟨hm_64, hu_18, hu_19, hg_20, hg_21, hg_22, hg_23, hg_24, hg_25, hG_26, hG_27, hG_28, hG_29, hG_30, hcr64_0, hH, hS, hl⟩
    have hm_64 : (401 - u_19.toInt + 1).toNat < n_64 + 1 := hm_64
    have hu_18 : (0 ≤ u_18.toInt ∧ u_18.toInt ≤ 1) := hu_18
    have hu_19 : (0 ≤ u_19.toInt ∧ u_19.toInt ≤ 401) := hu_19
    have hg_20 : (0 ≤ g_20 ∧ g_20 ≤ 12) := hg_20
    have hg_21 : (0 ≤ g_21 ∧ g_21 ≤ 14) := hg_21
    have hg_22 : (0 ≤ g_22 ∧ g_22 ≤ 4) := hg_22
    have hg_23 : (0 ≤ g_23 ∧ g_23 ≤ 400) := hg_23
    have hg_24 : (0 ≤ g_24 ∧ g_24 ≤ 4000) := hg_24
    have hg_25 : (0 ≤ g_25 ∧ g_25 ≤ 1) := hg_25
    have hG_26 : (ivP 14 (-2147483648) 2147483647 G_26) := hG_26
    have hG_27 : (ivP 4 (-2147483648) 2147483647 G_27) := hG_27
    have hG_28 : (ivP 12 (-2) 11 G_28) := hG_28
    have hG_29 : (ivP 12 (-2147483648) 2147483647 G_29) := hG_29
    have hG_30 : (ivP 48 (-2147483648) 2147483647 G_30) := hG_30
    have hcr64_0 : (cW T nq (401 - (u_19.toInt)).toNat (u_18.toInt) (g_23, g_24, g_25, g_20, g_21, g_22, G_28, G_30, G_29, G_26, G_27) = cRun T nq D Q Kn RA_ SA_) := hcr64_0
    have hH : TH E (tbC dA dB rA (riverD (.inl (g_20, g_20)) (.inl (g_21, g_21)) (.inl (g_22, g_22)) 32 34 36 40 44 48) rc (rdD (.inl (g_23, g_23)) (.inl (nq, nq)) (.inl (g_24, g_24)) (.inl (g_25, g_25)) (.inr [27])) (xB 400 T) A14F (xD 14 G_26) A4F (xD 4 G_27) A14F A14F rC rD wd1 (xD 12 G_28) wd3 wd4 ws1 (xD 12 G_29) ws3 ws4 wi1 (xD 48 G_30) wi3 wi4) H := hH
    have hl : lv_has ls 5 [(0, .ref a0), (3, .int u_18), (4, .int u_19)] := hl
    refine lv_iload F.1 F.2.1 dX3_readRiver_64 (lv_at hl 2 rfl) ?_
    refine lv_sipush (v := 400) F.1 F.2.1 dX3_readRiver_66 (by decide) ?_
    refine topK (a := 400) (by decide) (fun k_31 hk_31 => ?_)
    refine b_gt (tgt := 91) F dX3_readRiver_69 (by decide) (fun c_32 => ?_) (fun c_32 => ?_)
    · skip
      have r_33 : 401 ≤ u_19.toInt ∧ u_19.toInt ≤ 401 := by have h9_ := hu_19; omega
      refine lv_aload_n F.1 F.2.1 dX3_readRiver_91 rfl (lv_at hl 0 rfl) ?_
      refine tGetI (j := 3) F hK hH (tyb ha0 (all1 rfl)) rfl clX3 (by decide) wd_9_5 dX3_readRiver_92 (fun z_35 hz_35 => ?_)
      have ez_35 : 0 ≤ z_35.toInt ∧ z_35.toInt ≤ 4000 := by omega
      exact txI F hS dX3_readRiver_95 rfl (⟨g_20, (by omega), g_21, (by omega), g_22, (by omega), G_28, hG_28, G_29, hG_29, G_30, hG_30, ez_35, ⟨RA_, SA_, by rw [run_c (D := D) (Q := Q) (K := Kn), ← run3_end hcr64_0 (by omega)]; exact ⟨(show _ = _ by show _ = g_24; omega), rfl, rfl, rfl, rfl, rfl, rfl⟩⟩, (TH.unpin (t := 34) (TB1 := (tbC dA dB rA (riverD (.inl (g_20, g_20)) (.inl (g_21, g_21)) (.inl (g_22, g_22)) 32 34 36 40 44 48) rc (rdD (.inl (0, 400)) (.inl (0, 400)) (.inl (0, 4000)) (.inl (0, 1)) (.inr [26, 27])) (xB 400 T) A14F A14F A4F A4F A14F A14F rC rD wd1 (xD 12 G_28) wd3 wd4 ws1 (xD 12 G_29) ws3 ws4 wi1 (xD 48 G_30) wi3 wi4)) (TH.unpin (t := 32) (TB1 := (tbC dA dB rA (riverD (.inl (g_20, g_20)) (.inl (g_21, g_21)) (.inl (g_22, g_22)) 32 34 36 40 44 48) rc (rdD (.inl (0, 400)) (.inl (0, 400)) (.inl (0, 4000)) (.inl (0, 1)) (.inr [26, 27])) (xB 400 T) A14F A14F A4F (xD 4 G_27) A14F A14F rC rD wd1 (xD 12 G_28) wd3 wd4 ws1 (xD 12 G_29) ws3 ws4 wi1 (xD 48 G_30) wi3 wi4)) (TH.loose (t := 29) (TB1 := (tbC dA dB rA (riverD (.inl (g_20, g_20)) (.inl (g_21, g_21)) (.inl (g_22, g_22)) 32 34 36 40 44 48) rc (rdD (.inl (0, 400)) (.inl (0, 400)) (.inl (0, 4000)) (.inl (0, 1)) (.inr [26, 27])) (xB 400 T) A14F (xD 14 G_26) A4F (xD 4 G_27) A14F A14F rC rD wd1 (xD 12 G_28) wd3 wd4 ws1 (xD 12 G_29) ws3 ws4 wi1 (xD 48 G_30) wi3 wi4)) (TH.loose (t := 29) (TB1 := (tbC dA dB rA (riverD (.inl (g_20, g_20)) (.inl (g_21, g_21)) (.inl (g_22, g_22)) 32 34 36 40 44 48) rc (rdD (.inl (0, 400)) (.inl (0, 400)) (.inl (0, 4000)) (.inl (0, 1)) (.inr [27])) (xB 400 T) A14F (xD 14 G_26) A4F (xD 4 G_27) A14F A14F rC rD wd1 (xD 12 G_28) wd3 wd4 ws1 (xD 12 G_29) ws3 ws4 wi1 (xD 48 G_30) wi3 wi4)) (TH.loose (t := 29) (TB1 := (tbC dA dB rA (riverD (.inl (g_20, g_20)) (.inl (g_21, g_21)) (.inl (g_22, g_22)) 32 34 36 40 44 48) rc (rdD (.inl (0, 400)) (.inl (0, 400)) (.inl (0, 4000)) (.inl (g_25, g_25)) (.inr [27])) (xB 400 T) A14F (xD 14 G_26) A4F (xD 4 G_27) A14F A14F rC rD wd1 (xD 12 G_28) wd3 wd4 ws1 (xD 12 G_29) ws3 ws4 wi1 (xD 48 G_30) wi3 wi4)) (TH.loose (t := 29) (TB1 := (tbC dA dB rA (riverD (.inl (g_20, g_20)) (.inl (g_21, g_21)) (.inl (g_22, g_22)) 32 34 36 40 44 48) rc (rdD (.inl (0, 400)) (.inl (0, 400)) (.inl (g_24, g_24)) (.inl (g_25, g_25)) (.inr [27])) (xB 400 T) A14F (xD 14 G_26) A4F (xD 4 G_27) A14F A14F rC rD wd1 (xD 12 G_28) wd3 wd4 ws1 (xD 12 G_29) ws3 ws4 wi1 (xD 48 G_30) wi3 wi4)) (TH.loose (t := 29) (TB1 := (tbC dA dB rA (riverD (.inl (g_20, g_20)) (.inl (g_21, g_21)) (.inl (g_22, g_22)) 32 34 36 40 44 48) rc (rdD (.inl (g_23, g_23)) (.inl (0, 400)) (.inl (g_24, g_24)) (.inl (g_25, g_25)) (.inr [27])) (xB 400 T) A14F (xD 14 G_26) A4F (xD 4 G_27) A14F A14F rC rD wd1 (xD 12 G_28) wd3 wd4 ws1 (xD 12 G_29) ws3 ws4 wi1 (xD 48 G_30) wi3 wi4)) hH rfl (tcLoose (j := 1) rfl (by omega)) rfl) rfl (tcLoose (j := 2) rfl (by omega)) rfl) rfl (tcLoose (j := 3) rfl (by omega)) rfl) rfl (tcLoose (j := 4) rfl (by omega)) rfl) rfl (tcLooseR (j := 5) rfl (by simp)) rfl) rfl hG_26 rfl) rfl hG_27 rfl)⟩)
    · skip
      have r_34 : 0 ≤ u_19.toInt ∧ u_19.toInt ≤ 400 := by have h9_ := hu_19; omega
      refine lv_iload_n F.1 F.2.1 dX3_readRiver_72 rfl (lv_at hl 1 rfl) ?_
      refine z_eq (tgt := 91) F dX3_readRiver_73 (by decide) (fun c_36 => ?_) (fun c_36 => ?_)
      · skip
        have r_37 : 0 ≤ u_18.toInt ∧ u_18.toInt ≤ 0 := by have h9_ := hu_18; omega
        refine lv_aload_n F.1 F.2.1 dX3_readRiver_91 rfl (lv_at hl 0 rfl) ?_
        refine tGetI (j := 3) F hK hH (tyb ha0 (all1 rfl)) rfl clX3 (by decide) wd_9_5 dX3_readRiver_92 (fun z_39 hz_39 => ?_)
        have ez_39 : 0 ≤ z_39.toInt ∧ z_39.toInt ≤ 4000 := by omega
        exact txI F hS dX3_readRiver_95 rfl (⟨g_20, (by omega), g_21, (by omega), g_22, (by omega), G_28, hG_28, G_29, hG_29, G_30, hG_30, ez_39, ⟨RA_, SA_, by rw [run_c (D := D) (Q := Q) (K := Kn), ← run3_end hcr64_0 (by omega)]; exact ⟨(show _ = _ by show _ = g_24; omega), rfl, rfl, rfl, rfl, rfl, rfl⟩⟩, (TH.unpin (t := 34) (TB1 := (tbC dA dB rA (riverD (.inl (g_20, g_20)) (.inl (g_21, g_21)) (.inl (g_22, g_22)) 32 34 36 40 44 48) rc (rdD (.inl (0, 400)) (.inl (0, 400)) (.inl (0, 4000)) (.inl (0, 1)) (.inr [26, 27])) (xB 400 T) A14F A14F A4F A4F A14F A14F rC rD wd1 (xD 12 G_28) wd3 wd4 ws1 (xD 12 G_29) ws3 ws4 wi1 (xD 48 G_30) wi3 wi4)) (TH.unpin (t := 32) (TB1 := (tbC dA dB rA (riverD (.inl (g_20, g_20)) (.inl (g_21, g_21)) (.inl (g_22, g_22)) 32 34 36 40 44 48) rc (rdD (.inl (0, 400)) (.inl (0, 400)) (.inl (0, 4000)) (.inl (0, 1)) (.inr [26, 27])) (xB 400 T) A14F A14F A4F (xD 4 G_27) A14F A14F rC rD wd1 (xD 12 G_28) wd3 wd4 ws1 (xD 12 G_29) ws3 ws4 wi1 (xD 48 G_30) wi3 wi4)) (TH.loose (t := 29) (TB1 := (tbC dA dB rA (riverD (.inl (g_20, g_20)) (.inl (g_21, g_21)) (.inl (g_22, g_22)) 32 34 36 40 44 48) rc (rdD (.inl (0, 400)) (.inl (0, 400)) (.inl (0, 4000)) (.inl (0, 1)) (.inr [26, 27])) (xB 400 T) A14F (xD 14 G_26) A4F (xD 4 G_27) A14F A14F rC rD wd1 (xD 12 G_28) wd3 wd4 ws1 (xD 12 G_29) ws3 ws4 wi1 (xD 48 G_30) wi3 wi4)) (TH.loose (t := 29) (TB1 := (tbC dA dB rA (riverD (.inl (g_20, g_20)) (.inl (g_21, g_21)) (.inl (g_22, g_22)) 32 34 36 40 44 48) rc (rdD (.inl (0, 400)) (.inl (0, 400)) (.inl (0, 4000)) (.inl (0, 1)) (.inr [27])) (xB 400 T) A14F (xD 14 G_26) A4F (xD 4 G_27) A14F A14F rC rD wd1 (xD 12 G_28) wd3 wd4 ws1 (xD 12 G_29) ws3 ws4 wi1 (xD 48 G_30) wi3 wi4)) (TH.loose (t := 29) (TB1 := (tbC dA dB rA (riverD (.inl (g_20, g_20)) (.inl (g_21, g_21)) (.inl (g_22, g_22)) 32 34 36 40 44 48) rc (rdD (.inl (0, 400)) (.inl (0, 400)) (.inl (0, 4000)) (.inl (g_25, g_25)) (.inr [27])) (xB 400 T) A14F (xD 14 G_26) A4F (xD 4 G_27) A14F A14F rC rD wd1 (xD 12 G_28) wd3 wd4 ws1 (xD 12 G_29) ws3 ws4 wi1 (xD 48 G_30) wi3 wi4)) (TH.loose (t := 29) (TB1 := (tbC dA dB rA (riverD (.inl (g_20, g_20)) (.inl (g_21, g_21)) (.inl (g_22, g_22)) 32 34 36 40 44 48) rc (rdD (.inl (0, 400)) (.inl (0, 400)) (.inl (g_24, g_24)) (.inl (g_25, g_25)) (.inr [27])) (xB 400 T) A14F (xD 14 G_26) A4F (xD 4 G_27) A14F A14F rC rD wd1 (xD 12 G_28) wd3 wd4 ws1 (xD 12 G_29) ws3 ws4 wi1 (xD 48 G_30) wi3 wi4)) (TH.loose (t := 29) (TB1 := (tbC dA dB rA (riverD (.inl (g_20, g_20)) (.inl (g_21, g_21)) (.inl (g_22, g_22)) 32 34 36 40 44 48) rc (rdD (.inl (g_23, g_23)) (.inl (0, 400)) (.inl (g_24, g_24)) (.inl (g_25, g_25)) (.inr [27])) (xB 400 T) A14F (xD 14 G_26) A4F (xD 4 G_27) A14F A14F rC rD wd1 (xD 12 G_28) wd3 wd4 ws1 (xD 12 G_29) ws3 ws4 wi1 (xD 48 G_30) wi3 wi4)) hH rfl (tcLoose (j := 1) rfl (by omega)) rfl) rfl (tcLoose (j := 2) rfl (by omega)) rfl) rfl (tcLoose (j := 3) rfl (by omega)) rfl) rfl (tcLoose (j := 4) rfl (by omega)) rfl) rfl (tcLooseR (j := 5) rfl (by simp)) rfl) rfl hG_26 rfl) rfl hG_27 rfl)⟩)
      · skip
        have r_38 : 1 ≤ u_18.toInt ∧ u_18.toInt ≤ 1 := by have h9_ := hu_18; omega
        refine lv_aload_n F.1 F.2.1 dX3_readRiver_76 rfl (lv_at hl 0 rfl) ?_
        refine tVv (b := a0) (As := []) (rest := []) F hK hN hO (c_X3_readPart_2 E dA dB rA rc A14F A4F A14F rC rD wd1 wd3 wd4 ws1 ws3 ws4 wi1 wi3 wi4 g_20 g_21 g_22 nq g_23 g_24 g_25 T G_26 G_27 G_28 G_29 G_30 a0 ha0 (by omega) (by omega) (by omega) (by omega) (by omega) (by omega) (by omega) hT hG_26 hG_27 hG_28 hG_29 hG_30) mv_X3_readPart wd_9_18 ⟨Nat.le_of_ble_eq_true rfl, Nat.le_of_ble_eq_true rfl⟩ ⟨Nat.le_of_ble_eq_true rfl, Nat.le_of_ble_eq_true rfl⟩ hH hS (tRecv hK hH (tyb ha0 (all1 rfl)) clX3) rfl hl.1 (Nat.le_of_ble_eq_true rfl) dX3_readRiver_77 (fun H locs hq hS => ?_)
        obtain ⟨g_41, hg_41, g_42, hg_42, g_43, hg_43, g_44, hg_44, g_45, hg_45, g_46, hg_46, g_47, hg_47, g_48, hg_48, g_49, hg_49, g_50, hg_50, g_51, hg_51, hH⟩ := hq
        have hH : TH E (tbC dA dB rA (riverD (.inl (g_44, g_44)) (.inl (g_45, g_45)) (.inl (g_46, g_46)) 32 34 36 40 44 48) rc (rdD (.inl (g_41, g_41)) (.inl (nq, nq)) (.inl (g_42, g_42)) (.inl (g_43, g_43)) (.inr [27])) (xB 400 T) A14F (xD 14 g_50) A4F (xD 4 g_51) A14F A14F rC rD wd1 (xD 12 g_47) wd3 wd4 ws1 (xD 12 g_48) ws3 ws4 wi1 (xD 48 g_49) wi3 wi4) H := hH
        refine lv_aload_n F.1 F.2.1 dX3_readRiver_80 rfl (lv_at hl 0 rfl) ?_
        refine tVi (b := a0) (As := []) (rest := []) F hK hN hO (c_X3_readBetween E dA dB rA (riverD (.inl (g_44, g_44)) (.inl (g_45, g_45)) (.inl (g_46, g_46)) 32 34 36 40 44 48) rc A14F (xD 14 g_50) A4F (xD 4 g_51) A14F A14F rC rD wd1 (xD 12 g_47) wd3 wd4 ws1 (xD 12 g_48) ws3 ws4 wi1 (xD 48 g_49) wi3 wi4 ((.inl (g_43, g_43))) (.inr [27]) nq g_41 g_42 T a0 ha0 (by omega) (by omega) (by omega) hT) mv_X3_readBetween wd_14_13 ⟨Nat.le_of_ble_eq_true rfl, Nat.le_of_ble_eq_true rfl⟩ ⟨Nat.le_of_ble_eq_true rfl, Nat.le_of_ble_eq_true rfl⟩ hH hS (tRecv hK hH (tyb ha0 (all1 rfl)) clX3) rfl hl.1 (Nat.le_of_ble_eq_true rfl) dX3_readRiver_81 (fun z_52 H locs hq hS => ?_)
        obtain ⟨g_53, hg_53, g_54, hg_54, f_55, f_56, hH⟩ := hq
        have hH : TH E (tbC dA dB rA (riverD (.inl (g_44, g_44)) (.inl (g_45, g_45)) (.inl (g_46, g_46)) 32 34 36 40 44 48) rc (rdD (.inl (g_53, g_53)) (.inl (nq, nq)) (.inl (g_54, g_54)) (.inl (g_43, g_43)) (.inr [27])) (xB 400 T) A14F (xD 14 g_50) A4F (xD 4 g_51) A14F A14F rC rD wd1 (xD 12 g_47) wd3 wd4 ws1 (xD 12 g_48) ws3 ws4 wi1 (xD 48 g_49) wi3 wi4) H := hH
        refine lv_istore_n (lv' := [(3, .int z_52), (0, .ref a0), (4, .int u_19)]) F.1 F.2.1 dX3_readRiver_84 rfl hl (by decide) rfl (fun ls hl => ?_)
        obtain ⟨x_57, ex_57, hx_57⟩ := iincB (c := 1) (lo := 1) (hi := 401) r_34 rfl
        refine lv_iinc (v := x_57) (lv' := [(4, .int x_57), (3, .int z_52), (0, .ref a0)]) F.1 F.2.1 dX3_readRiver_85 hl (k := 2) rfl ex_57 (by decide) rfl (fun ls hl => ?_)
        refine lv_goto (tgt := 64) F.1 F.2.1 dX3_readRiver_88 (by decide) ?_
        exact ih_64 (z_52, x_57, g_44, g_45, g_46, g_53, g_54, g_43, g_50, g_51, g_47, g_48, g_49) _ _ _ ⟨(show (401 - x_57.toInt + 1).toNat < n_64 from by omega), f_55, (wkb hx_57.2 rfl rfl), (show 0 ≤ g_44 ∧ g_44 ≤ 12 from by omega), (show 0 ≤ g_45 ∧ g_45 ≤ 14 from by omega), (show 0 ≤ g_46 ∧ g_46 ≤ 4 from by omega), (show 0 ≤ g_53 ∧ g_53 ≤ 400 from by omega), (show 0 ≤ g_54 ∧ g_54 ≤ 4000 from by omega), (show 0 ≤ g_43 ∧ g_43 ≤ 1 from by omega), hg_50, hg_51.1, hg_47, hg_48, hg_49, (show cW T nq (401 - (x_57.toInt)).toNat (z_52.toInt) (g_53, g_54, g_43, g_44, g_45, g_46, g_47, g_49, g_48, g_50, g_51) = cRun T nq D Q Kn RA_ SA_ from (run3_step hcr64_0 hg_51.2 hg_53.2.2 hg_54.2.2 f_56 (by omega) (by omega))), hH, hS, lv_sub hl [2, 1, 0] rfl⟩
  · skip
    have r_14 : 0 ≤ z_11.toInt ∧ z_11.toInt ≤ 399 := by have h9_ := ez_11; omega
    have r_15 : 1 ≤ z_12.toInt ∧ z_12.toInt ≤ 400 := by have h9_ := ez_12; omega
    refine lv_iconst (v := 1) F.1 F.2.1 dX3_readRiver_55 (by decide) ?_
    refine topK (a := 1) (by decide) (fun k_58 hk_58 => ?_)
    refine lv_goto (tgt := 60) F.1 F.2.1 dX3_readRiver_56 (by decide) ?_
    refine lv_istore_n (lv' := [(3, .int k_58), (0, .ref a0), (1, .ref a1), (2, .int a2)]) F.1 F.2.1 dX3_readRiver_60 rfl hl (by decide) rfl (fun ls hl => ?_)
    refine lv_iconst (v := 0) F.1 F.2.1 dX3_readRiver_61 (by decide) ?_
    refine topK (a := 0) (by decide) (fun k_59 hk_59 => ?_)
    refine lv_istore (lv' := [(4, .int k_59), (3, .int k_58), (0, .ref a0), (1, .ref a1), (2, .int a2)]) F.1 F.2.1 dX3_readRiver_62 hl (by decide) rfl (fun ls hl => ?_)
    refine wloop (σ := Int32 × Int32 × Int × Int × Int × Int × Int × Int × (Nat → Int32) × (Nat → Int32) × (Nat → Int32) × (Nat → Int32) × (Nat → Int32)) (fun n9 x9 H locs ls => (401 - x9.2.1.toInt + 1).toNat < n9 ∧ (0 ≤ x9.1.toInt ∧ x9.1.toInt ≤ 1) ∧ (0 ≤ x9.2.1.toInt ∧ x9.2.1.toInt ≤ 401) ∧ (0 ≤ x9.2.2.1 ∧ x9.2.2.1 ≤ 12) ∧ (0 ≤ x9.2.2.2.1 ∧ x9.2.2.2.1 ≤ 14) ∧ (0 ≤ x9.2.2.2.2.1 ∧ x9.2.2.2.2.1 ≤ 4) ∧ (0 ≤ x9.2.2.2.2.2.1 ∧ x9.2.2.2.2.2.1 ≤ 400) ∧ (0 ≤ x9.2.2.2.2.2.2.1 ∧ x9.2.2.2.2.2.2.1 ≤ 4000) ∧ (0 ≤ x9.2.2.2.2.2.2.2.1 ∧ x9.2.2.2.2.2.2.2.1 ≤ 1) ∧ (ivP 14 (-2147483648) 2147483647 x9.2.2.2.2.2.2.2.2.1) ∧ (ivP 4 (-2147483648) 2147483647 x9.2.2.2.2.2.2.2.2.2.1) ∧ (ivP 12 (-2) 11 x9.2.2.2.2.2.2.2.2.2.2.1) ∧ (ivP 12 (-2147483648) 2147483647 x9.2.2.2.2.2.2.2.2.2.2.2.1) ∧ (ivP 48 (-2147483648) 2147483647 x9.2.2.2.2.2.2.2.2.2.2.2.2) ∧ (cW T nq (401 - (x9.2.1.toInt)).toNat (x9.1.toInt) (x9.2.2.2.2.2.1, x9.2.2.2.2.2.2.1, x9.2.2.2.2.2.2.2.1, x9.2.2.1, x9.2.2.2.1, x9.2.2.2.2.1, x9.2.2.2.2.2.2.2.2.2.2.1, x9.2.2.2.2.2.2.2.2.2.2.2.2, x9.2.2.2.2.2.2.2.2.2.2.2.1, x9.2.2.2.2.2.2.2.2.1, x9.2.2.2.2.2.2.2.2.2.1) = cRun T nq D Q Kn RA_ SA_) ∧ TH E (tbC dA dB rA (riverD (.inl (x9.2.2.1, x9.2.2.1)) (.inl (x9.2.2.2.1, x9.2.2.2.1)) (.inl (x9.2.2.2.2.1, x9.2.2.2.2.1)) 32 34 36 40 44 48) rc (rdD (.inl (x9.2.2.2.2.2.1, x9.2.2.2.2.2.1)) (.inl (nq, nq)) (.inl (x9.2.2.2.2.2.2.1, x9.2.2.2.2.2.2.1)) (.inl (x9.2.2.2.2.2.2.2.1, x9.2.2.2.2.2.2.2.1)) (.inr [27])) (xB 400 T) A14F (xD 14 x9.2.2.2.2.2.2.2.2.1) A4F (xD 4 x9.2.2.2.2.2.2.2.2.2.1) A14F A14F rC rD wd1 (xD 12 x9.2.2.2.2.2.2.2.2.2.2.1) wd3 wd4 ws1 (xD 12 x9.2.2.2.2.2.2.2.2.2.2.2.1) ws3 ws4 wi1 (xD 48 x9.2.2.2.2.2.2.2.2.2.2.2.2) wi3 wi4) H ∧ va_S (eA E s.heap.size) s.heap H locs ∧ lv_has ls 5 [(0, .ref a0), (3, .int x9.1), (4, .int x9.2.1)]) ?_ (fun x9 H locs ls h => absurd h.1 (Nat.not_lt_zero _)) _ (k_58, k_59, 0, 0, 0, g_10, 0, 0, RA_, SA_, D, Kn, Q) ⟨Nat.lt_succ_self _, (wkb (eqb hk_58) rfl rfl), (wkb (eqb hk_59) rfl rfl), (show 0 ≤ 0 ∧ 0 ≤ 12 from by omega), (show 0 ≤ 0 ∧ 0 ≤ 14 from by omega), (show 0 ≤ 0 ∧ 0 ≤ 4 from by omega), (show 0 ≤ g_10 ∧ g_10 ≤ 400 from by omega), (show 0 ≤ 0 ∧ 0 ≤ 4000 from by omega), (show 0 ≤ 0 ∧ 0 ≤ 1 from by omega), hRA_, hSA_, hD, hKn, hQ, (show cW T nq (401 - (k_59.toInt)).toNat (k_58.toInt) (g_10, 0, 0, 0, 0, 0, D, Q, Kn, RA_, SA_) = cRun T nq D Q Kn RA_ SA_ from (by rw [show (401 - k_59.toInt).toNat = 401 from by omega]; exact run3_init hg_10.2.2 (by omega))), hH, hS, lv_sub hl [2, 1, 0] rfl⟩
    intro n_64 ih_64 ⟨u_60, u_61, g_62, g_63, g_64, g_65, g_66, g_67, G_68, G_69, G_70, G_71, G_72⟩ H locs ls ⟨hm_64, hu_60, hu_61, hg_62, hg_63, hg_64, hg_65, hg_66, hg_67, hG_68, hG_69, hG_70, hG_71, hG_72, hcr64_0, hH, hS, hl⟩
    have hm_64 : (401 - u_61.toInt + 1).toNat < n_64 + 1 := hm_64
    have hu_60 : (0 ≤ u_60.toInt ∧ u_60.toInt ≤ 1) := hu_60
    have hu_61 : (0 ≤ u_61.toInt ∧ u_61.toInt ≤ 401) := hu_61
    have hg_62 : (0 ≤ g_62 ∧ g_62 ≤ 12) := hg_62
    have hg_63 : (0 ≤ g_63 ∧ g_63 ≤ 14) := hg_63
    have hg_64 : (0 ≤ g_64 ∧ g_64 ≤ 4) := hg_64
    have hg_65 : (0 ≤ g_65 ∧ g_65 ≤ 400) := hg_65
    have hg_66 : (0 ≤ g_66 ∧ g_66 ≤ 4000) := hg_66
    have hg_67 : (0 ≤ g_67 ∧ g_67 ≤ 1) := hg_67
    have hG_68 : (ivP 14 (-2147483648) 2147483647 G_68) := hG_68
    have hG_69 : (ivP 4 (-2147483648) 2147483647 G_69) := hG_69
    have hG_70 : (ivP 12 (-2) 11 G_70) := hG_70
    have hG_71 : (ivP 12 (-2147483648) 2147483647 G_71) := hG_71
    have hG_72 : (ivP 48 (-2147483648) 2147483647 G_72) := hG_72
    have hcr64_0 : (cW T nq (401 - (u_61.toInt)).toNat (u_60.toInt) (g_65, g_66, g_67, g_62, g_63, g_64, G_70, G_72, G_71, G_68, G_69) = cRun T nq D Q Kn RA_ SA_) := hcr64_0
    have hH : TH E (tbC dA dB rA (riverD (.inl (g_62, g_62)) (.inl (g_63, g_63)) (.inl (g_64, g_64)) 32 34 36 40 44 48) rc (rdD (.inl (g_65, g_65)) (.inl (nq, nq)) (.inl (g_66, g_66)) (.inl (g_67, g_67)) (.inr [27])) (xB 400 T) A14F (xD 14 G_68) A4F (xD 4 G_69) A14F A14F rC rD wd1 (xD 12 G_70) wd3 wd4 ws1 (xD 12 G_71) ws3 ws4 wi1 (xD 48 G_72) wi3 wi4) H := hH
    have hl : lv_has ls 5 [(0, .ref a0), (3, .int u_60), (4, .int u_61)] := hl
    refine lv_iload F.1 F.2.1 dX3_readRiver_64 (lv_at hl 2 rfl) ?_
    refine lv_sipush (v := 400) F.1 F.2.1 dX3_readRiver_66 (by decide) ?_
    refine topK (a := 400) (by decide) (fun k_73 hk_73 => ?_)
    refine b_gt (tgt := 91) F dX3_readRiver_69 (by decide) (fun c_74 => ?_) (fun c_74 => ?_)
    · skip
      have r_75 : 401 ≤ u_61.toInt ∧ u_61.toInt ≤ 401 := by have h9_ := hu_61; omega
      refine lv_aload_n F.1 F.2.1 dX3_readRiver_91 rfl (lv_at hl 0 rfl) ?_
      refine tGetI (j := 3) F hK hH (tyb ha0 (all1 rfl)) rfl clX3 (by decide) wd_9_5 dX3_readRiver_92 (fun z_77 hz_77 => ?_)
      have ez_77 : 0 ≤ z_77.toInt ∧ z_77.toInt ≤ 4000 := by omega
      exact txI F hS dX3_readRiver_95 rfl (⟨g_62, (by omega), g_63, (by omega), g_64, (by omega), G_70, hG_70, G_71, hG_71, G_72, hG_72, ez_77, ⟨RA_, SA_, by rw [run_c (D := D) (Q := Q) (K := Kn), ← run3_end hcr64_0 (by omega)]; exact ⟨(show _ = _ by show _ = g_66; omega), rfl, rfl, rfl, rfl, rfl, rfl⟩⟩, (TH.unpin (t := 34) (TB1 := (tbC dA dB rA (riverD (.inl (g_62, g_62)) (.inl (g_63, g_63)) (.inl (g_64, g_64)) 32 34 36 40 44 48) rc (rdD (.inl (0, 400)) (.inl (0, 400)) (.inl (0, 4000)) (.inl (0, 1)) (.inr [26, 27])) (xB 400 T) A14F A14F A4F A4F A14F A14F rC rD wd1 (xD 12 G_70) wd3 wd4 ws1 (xD 12 G_71) ws3 ws4 wi1 (xD 48 G_72) wi3 wi4)) (TH.unpin (t := 32) (TB1 := (tbC dA dB rA (riverD (.inl (g_62, g_62)) (.inl (g_63, g_63)) (.inl (g_64, g_64)) 32 34 36 40 44 48) rc (rdD (.inl (0, 400)) (.inl (0, 400)) (.inl (0, 4000)) (.inl (0, 1)) (.inr [26, 27])) (xB 400 T) A14F A14F A4F (xD 4 G_69) A14F A14F rC rD wd1 (xD 12 G_70) wd3 wd4 ws1 (xD 12 G_71) ws3 ws4 wi1 (xD 48 G_72) wi3 wi4)) (TH.loose (t := 29) (TB1 := (tbC dA dB rA (riverD (.inl (g_62, g_62)) (.inl (g_63, g_63)) (.inl (g_64, g_64)) 32 34 36 40 44 48) rc (rdD (.inl (0, 400)) (.inl (0, 400)) (.inl (0, 4000)) (.inl (0, 1)) (.inr [26, 27])) (xB 400 T) A14F (xD 14 G_68) A4F (xD 4 G_69) A14F A14F rC rD wd1 (xD 12 G_70) wd3 wd4 ws1 (xD 12 G_71) ws3 ws4 wi1 (xD 48 G_72) wi3 wi4)) (TH.loose (t := 29) (TB1 := (tbC dA dB rA (riverD (.inl (g_62, g_62)) (.inl (g_63, g_63)) (.inl (g_64, g_64)) 32 34 36 40 44 48) rc (rdD (.inl (0, 400)) (.inl (0, 400)) (.inl (0, 4000)) (.inl (0, 1)) (.inr [27])) (xB 400 T) A14F (xD 14 G_68) A4F (xD 4 G_69) A14F A14F rC rD wd1 (xD 12 G_70) wd3 wd4 ws1 (xD 12 G_71) ws3 ws4 wi1 (xD 48 G_72) wi3 wi4)) (TH.loose (t := 29) (TB1 := (tbC dA dB rA (riverD (.inl (g_62, g_62)) (.inl (g_63, g_63)) (.inl (g_64, g_64)) 32 34 36 40 44 48) rc (rdD (.inl (0, 400)) (.inl (0, 400)) (.inl (0, 4000)) (.inl (g_67, g_67)) (.inr [27])) (xB 400 T) A14F (xD 14 G_68) A4F (xD 4 G_69) A14F A14F rC rD wd1 (xD 12 G_70) wd3 wd4 ws1 (xD 12 G_71) ws3 ws4 wi1 (xD 48 G_72) wi3 wi4)) (TH.loose (t := 29) (TB1 := (tbC dA dB rA (riverD (.inl (g_62, g_62)) (.inl (g_63, g_63)) (.inl (g_64, g_64)) 32 34 36 40 44 48) rc (rdD (.inl (0, 400)) (.inl (0, 400)) (.inl (g_66, g_66)) (.inl (g_67, g_67)) (.inr [27])) (xB 400 T) A14F (xD 14 G_68) A4F (xD 4 G_69) A14F A14F rC rD wd1 (xD 12 G_70) wd3 wd4 ws1 (xD 12 G_71) ws3 ws4 wi1 (xD 48 G_72) wi3 wi4)) (TH.loose (t := 29) (TB1 := (tbC dA dB rA (riverD (.inl (g_62, g_62)) (.inl (g_63, g_63)) (.inl (g_64, g_64)) 32 34 36 40 44 48) rc (rdD (.inl (g_65, g_65)) (.inl (0, 400)) (.inl (g_66, g_66)) (.inl (g_67, g_67)) (.inr [27])) (xB 400 T) A14F (xD 14 G_68) A4F (xD 4 G_69) A14F A14F rC rD wd1 (xD 12 G_70) wd3 wd4 ws1 (xD 12 G_71) ws3 ws4 wi1 (xD 48 G_72) wi3 wi4)) hH rfl (tcLoose (j := 1) rfl (by omega)) rfl) rfl (tcLoose (j := 2) rfl (by omega)) rfl) rfl (tcLoose (j := 3) rfl (by omega)) rfl) rfl (tcLoose (j := 4) rfl (by omega)) rfl) rfl (tcLooseR (j := 5) rfl (by simp)) rfl) rfl hG_68 rfl) rfl hG_69 rfl)⟩)
    · skip
      have r_76 : 0 ≤ u_61.toInt ∧ u_61.toInt ≤ 400 := by have h9_ := hu_61; omega
      refine lv_iload_n F.1 F.2.1 dX3_readRiver_72 rfl (lv_at hl 1 rfl) ?_
      refine z_eq (tgt := 91) F dX3_readRiver_73 (by decide) (fun c_78 => ?_) (fun c_78 => ?_)
      · skip
        have r_79 : 0 ≤ u_60.toInt ∧ u_60.toInt ≤ 0 := by have h9_ := hu_60; omega
        refine lv_aload_n F.1 F.2.1 dX3_readRiver_91 rfl (lv_at hl 0 rfl) ?_
        refine tGetI (j := 3) F hK hH (tyb ha0 (all1 rfl)) rfl clX3 (by decide) wd_9_5 dX3_readRiver_92 (fun z_81 hz_81 => ?_)
        have ez_81 : 0 ≤ z_81.toInt ∧ z_81.toInt ≤ 4000 := by omega
        exact txI F hS dX3_readRiver_95 rfl (⟨g_62, (by omega), g_63, (by omega), g_64, (by omega), G_70, hG_70, G_71, hG_71, G_72, hG_72, ez_81, ⟨RA_, SA_, by rw [run_c (D := D) (Q := Q) (K := Kn), ← run3_end hcr64_0 (by omega)]; exact ⟨(show _ = _ by show _ = g_66; omega), rfl, rfl, rfl, rfl, rfl, rfl⟩⟩, (TH.unpin (t := 34) (TB1 := (tbC dA dB rA (riverD (.inl (g_62, g_62)) (.inl (g_63, g_63)) (.inl (g_64, g_64)) 32 34 36 40 44 48) rc (rdD (.inl (0, 400)) (.inl (0, 400)) (.inl (0, 4000)) (.inl (0, 1)) (.inr [26, 27])) (xB 400 T) A14F A14F A4F A4F A14F A14F rC rD wd1 (xD 12 G_70) wd3 wd4 ws1 (xD 12 G_71) ws3 ws4 wi1 (xD 48 G_72) wi3 wi4)) (TH.unpin (t := 32) (TB1 := (tbC dA dB rA (riverD (.inl (g_62, g_62)) (.inl (g_63, g_63)) (.inl (g_64, g_64)) 32 34 36 40 44 48) rc (rdD (.inl (0, 400)) (.inl (0, 400)) (.inl (0, 4000)) (.inl (0, 1)) (.inr [26, 27])) (xB 400 T) A14F A14F A4F (xD 4 G_69) A14F A14F rC rD wd1 (xD 12 G_70) wd3 wd4 ws1 (xD 12 G_71) ws3 ws4 wi1 (xD 48 G_72) wi3 wi4)) (TH.loose (t := 29) (TB1 := (tbC dA dB rA (riverD (.inl (g_62, g_62)) (.inl (g_63, g_63)) (.inl (g_64, g_64)) 32 34 36 40 44 48) rc (rdD (.inl (0, 400)) (.inl (0, 400)) (.inl (0, 4000)) (.inl (0, 1)) (.inr [26, 27])) (xB 400 T) A14F (xD 14 G_68) A4F (xD 4 G_69) A14F A14F rC rD wd1 (xD 12 G_70) wd3 wd4 ws1 (xD 12 G_71) ws3 ws4 wi1 (xD 48 G_72) wi3 wi4)) (TH.loose (t := 29) (TB1 := (tbC dA dB rA (riverD (.inl (g_62, g_62)) (.inl (g_63, g_63)) (.inl (g_64, g_64)) 32 34 36 40 44 48) rc (rdD (.inl (0, 400)) (.inl (0, 400)) (.inl (0, 4000)) (.inl (0, 1)) (.inr [27])) (xB 400 T) A14F (xD 14 G_68) A4F (xD 4 G_69) A14F A14F rC rD wd1 (xD 12 G_70) wd3 wd4 ws1 (xD 12 G_71) ws3 ws4 wi1 (xD 48 G_72) wi3 wi4)) (TH.loose (t := 29) (TB1 := (tbC dA dB rA (riverD (.inl (g_62, g_62)) (.inl (g_63, g_63)) (.inl (g_64, g_64)) 32 34 36 40 44 48) rc (rdD (.inl (0, 400)) (.inl (0, 400)) (.inl (0, 4000)) (.inl (g_67, g_67)) (.inr [27])) (xB 400 T) A14F (xD 14 G_68) A4F (xD 4 G_69) A14F A14F rC rD wd1 (xD 12 G_70) wd3 wd4 ws1 (xD 12 G_71) ws3 ws4 wi1 (xD 48 G_72) wi3 wi4)) (TH.loose (t := 29) (TB1 := (tbC dA dB rA (riverD (.inl (g_62, g_62)) (.inl (g_63, g_63)) (.inl (g_64, g_64)) 32 34 36 40 44 48) rc (rdD (.inl (0, 400)) (.inl (0, 400)) (.inl (g_66, g_66)) (.inl (g_67, g_67)) (.inr [27])) (xB 400 T) A14F (xD 14 G_68) A4F (xD 4 G_69) A14F A14F rC rD wd1 (xD 12 G_70) wd3 wd4 ws1 (xD 12 G_71) ws3 ws4 wi1 (xD 48 G_72) wi3 wi4)) (TH.loose (t := 29) (TB1 := (tbC dA dB rA (riverD (.inl (g_62, g_62)) (.inl (g_63, g_63)) (.inl (g_64, g_64)) 32 34 36 40 44 48) rc (rdD (.inl (g_65, g_65)) (.inl (0, 400)) (.inl (g_66, g_66)) (.inl (g_67, g_67)) (.inr [27])) (xB 400 T) A14F (xD 14 G_68) A4F (xD 4 G_69) A14F A14F rC rD wd1 (xD 12 G_70) wd3 wd4 ws1 (xD 12 G_71) ws3 ws4 wi1 (xD 48 G_72) wi3 wi4)) hH rfl (tcLoose (j := 1) rfl (by omega)) rfl) rfl (tcLoose (j := 2) rfl (by omega)) rfl) rfl (tcLoose (j := 3) rfl (by omega)) rfl) rfl (tcLoose (j := 4) rfl (by omega)) rfl) rfl (tcLooseR (j := 5) rfl (by simp)) rfl) rfl hG_68 rfl) rfl hG_69 rfl)⟩)
      · skip
        have r_80 : 1 ≤ u_60.toInt ∧ u_60.toInt ≤ 1 := by have h9_ := hu_60; omega
        refine lv_aload_n F.1 F.2.1 dX3_readRiver_76 rfl (lv_at hl 0 rfl) ?_
        refine tVv (b := a0) (As := []) (rest := []) F hK hN hO (c_X3_readPart_2 E dA dB rA rc A14F A4F A14F rC rD wd1 wd3 wd4 ws1 ws3 ws4 wi1 wi3 wi4 g_62 g_63 g_64 nq g_65 g_66 g_67 T G_68 G_69 G_70 G_71 G_72 a0 ha0 (by omega) (by omega) (by omega) (by omega) (by omega) (by omega) (by omega) hT hG_68 hG_69 hG_70 hG_71 hG_72) mv_X3_readPart wd_9_18 ⟨Nat.le_of_ble_eq_true rfl, Nat.le_of_ble_eq_true rfl⟩ ⟨Nat.le_of_ble_eq_true rfl, Nat.le_of_ble_eq_true rfl⟩ hH hS (tRecv hK hH (tyb ha0 (all1 rfl)) clX3) rfl hl.1 (Nat.le_of_ble_eq_true rfl) dX3_readRiver_77 (fun H locs hq hS => ?_)
        obtain ⟨g_83, hg_83, g_84, hg_84, g_85, hg_85, g_86, hg_86, g_87, hg_87, g_88, hg_88, g_89, hg_89, g_90, hg_90, g_91, hg_91, g_92, hg_92, g_93, hg_93, hH⟩ := hq
        have hH : TH E (tbC dA dB rA (riverD (.inl (g_86, g_86)) (.inl (g_87, g_87)) (.inl (g_88, g_88)) 32 34 36 40 44 48) rc (rdD (.inl (g_83, g_83)) (.inl (nq, nq)) (.inl (g_84, g_84)) (.inl (g_85, g_85)) (.inr [27])) (xB 400 T) A14F (xD 14 g_92) A4F (xD 4 g_93) A14F A14F rC rD wd1 (xD 12 g_89) wd3 wd4 ws1 (xD 12 g_90) ws3 ws4 wi1 (xD 48 g_91) wi3 wi4) H := hH
        refine lv_aload_n F.1 F.2.1 dX3_readRiver_80 rfl (lv_at hl 0 rfl) ?_
        refine tVi (b := a0) (As := []) (rest := []) F hK hN hO (c_X3_readBetween E dA dB rA (riverD (.inl (g_86, g_86)) (.inl (g_87, g_87)) (.inl (g_88, g_88)) 32 34 36 40 44 48) rc A14F (xD 14 g_92) A4F (xD 4 g_93) A14F A14F rC rD wd1 (xD 12 g_89) wd3 wd4 ws1 (xD 12 g_90) ws3 ws4 wi1 (xD 48 g_91) wi3 wi4 ((.inl (g_85, g_85))) (.inr [27]) nq g_83 g_84 T a0 ha0 (by omega) (by omega) (by omega) hT) mv_X3_readBetween wd_14_13 ⟨Nat.le_of_ble_eq_true rfl, Nat.le_of_ble_eq_true rfl⟩ ⟨Nat.le_of_ble_eq_true rfl, Nat.le_of_ble_eq_true rfl⟩ hH hS (tRecv hK hH (tyb ha0 (all1 rfl)) clX3) rfl hl.1 (Nat.le_of_ble_eq_true rfl) dX3_readRiver_81 (fun z_94 H locs hq hS => ?_)
        obtain ⟨g_95, hg_95, g_96, hg_96, f_97, f_98, hH⟩ := hq
        have hH : TH E (tbC dA dB rA (riverD (.inl (g_86, g_86)) (.inl (g_87, g_87)) (.inl (g_88, g_88)) 32 34 36 40 44 48) rc (rdD (.inl (g_95, g_95)) (.inl (nq, nq)) (.inl (g_96, g_96)) (.inl (g_85, g_85)) (.inr [27])) (xB 400 T) A14F (xD 14 g_92) A4F (xD 4 g_93) A14F A14F rC rD wd1 (xD 12 g_89) wd3 wd4 ws1 (xD 12 g_90) ws3 ws4 wi1 (xD 48 g_91) wi3 wi4) H := hH
        refine lv_istore_n (lv' := [(3, .int z_94), (0, .ref a0), (4, .int u_61)]) F.1 F.2.1 dX3_readRiver_84 rfl hl (by decide) rfl (fun ls hl => ?_)
        obtain ⟨x_99, ex_99, hx_99⟩ := iincB (c := 1) (lo := 1) (hi := 401) r_76 rfl
        refine lv_iinc (v := x_99) (lv' := [(4, .int x_99), (3, .int z_94), (0, .ref a0)]) F.1 F.2.1 dX3_readRiver_85 hl (k := 2) rfl ex_99 (by decide) rfl (fun ls hl => ?_)
        refine lv_goto (tgt := 64) F.1 F.2.1 dX3_readRiver_88 (by decide) ?_
        exact ih_64 (z_94, x_99, g_86, g_87, g_88, g_95, g_96, g_85, g_92, g_93, g_89, g_90, g_91) _ _ _ ⟨(show (401 - x_99.toInt + 1).toNat < n_64 from by omega), f_97, (wkb hx_99.2 rfl rfl), (show 0 ≤ g_86 ∧ g_86 ≤ 12 from by omega), (show 0 ≤ g_87 ∧ g_87 ≤ 14 from by omega), (show 0 ≤ g_88 ∧ g_88 ≤ 4 from by omega), (show 0 ≤ g_95 ∧ g_95 ≤ 400 from by omega), (show 0 ≤ g_96 ∧ g_96 ≤ 4000 from by omega), (show 0 ≤ g_85 ∧ g_85 ≤ 1 from by omega), hg_92, hg_93.1, hg_89, hg_90, hg_91, (show cW T nq (401 - (x_99.toInt)).toNat (z_94.toInt) (g_95, g_96, g_85, g_86, g_87, g_88, g_89, g_91, g_90, g_92, g_93) = cRun T nq D Q Kn RA_ SA_ from (run3_step hcr64_0 hg_93.2 hg_95.2.2 hg_96.2.2 f_98 (by omega) (by omega))), hH, hS, lv_sub hl [2, 1, 0] rfl⟩
set_option maxHeartbeats 4000000 in
set_option maxRecDepth 100000 in
theorem c_X6_tell_1 (E : Ev) (kb : Int × Int) (Fa1 : Int × Int) (Fb1 : Int × Int) (Fa2 : Int × Int) (Fb2 : Int × Int) (Fa3 : Int × Int) (Fb3 : Int × Int) (Fa4 : Int × Int) (Fb4 : Int × Int) (Pd2 : (Nat → Int32) → Prop) (Pd3 : (Nat → Int32) → Prop) (Pd4 : (Nat → Int32) → Prop) (Ps2 : (Nat → Int32) → Prop) (Ps3 : (Nat → Int32) → Prop) (Ps4 : (Nat → Int32) → Prop) (Pi2 : (Nat → Int32) → Prop) (Pi3 : (Nat → Int32) → Prop) (Pi4 : (Nat → Int32) → Prop) (t : Int) (T : Nat → Int32) (D : Nat → Int32) (Kn : Nat → Int32) (Q : Nat → Int32) (a0 : Nat) (ha0 : eT E a0 ∈ [28]) (ht : 0 ≤ t ∧ t ≤ 400) (hT : ivP 400 (-128) 127 T) (hD : ivP 12 (-2) 11 D) (hKn : ivP 12 (-2147483648) 2147483647 Kn) (hQ : ivP 48 (-2147483648) 2147483647 Q) (hFa1 : 0 ≤ Fa1.1 ∧ Fa1.2 ≤ 12) (hFb1 : 0 ≤ Fb1.1 ∧ Fb1.2 ≤ 14) (hFa2 : 0 ≤ Fa2.1 ∧ Fa2.2 ≤ 12) (hFb2 : 0 ≤ Fb2.1 ∧ Fb2.2 ≤ 14) (hFa3 : 0 ≤ Fa3.1 ∧ Fa3.2 ≤ 12) (hFb3 : 0 ≤ Fb3.1 ∧ Fb3.2 ≤ 14) (hFa4 : 0 ≤ Fa4.1 ∧ Fa4.2 ≤ 12) (hFb4 : 0 ≤ Fb4.1 ∧ Fb4.2 ≤ 14) (hPd2 : ∀ f, Pd2 f → ivP 12 (-2) 11 f) (hPd3 : ∀ f, Pd3 f → ivP 12 (-2) 11 f) (hPd4 : ∀ f, Pd4 f → ivP 12 (-2) 11 f) (hPs2 : ∀ f, Ps2 f → ivP 12 (-2147483648) 2147483647 f) (hPs3 : ∀ f, Ps3 f → ivP 12 (-2147483648) 2147483647 f) (hPs4 : ∀ f, Ps4 f → ivP 12 (-2147483648) 2147483647 f) (hPi2 : ∀ f, Pi2 f → ivP 48 (-2147483648) 2147483647 f) (hPi3 : ∀ f, Pi3 f → ivP 48 (-2147483648) 2147483647 f) (hPi4 : ∀ f, Pi4 f → ivP 48 (-2147483648) 2147483647 f) : TcI E yX6_tell cX6_tell 3 .int ({ frames := 10, cells := 0, slots := 0, locals := 294 }) [.ref a0] (fun H => TH E (tbC (dayD (.inl (0, 18))) (dayD (.inl (0, 18))) (riverD (.inl Fa1) (.inl Fb1) (.inl (0, 4)) 31 33 35 39 43 47) (riverD (.inl Fa2) (.inl Fb2) (.inl (0, 4)) 32 34 36 40 44 48) (rcD (.inl (t, t)) (.inr [27]) (.inr [26]) (.inl kb)) (rdD (.inl (0, 400)) (.inl (0, 400)) (.inl (0, 4000)) (.inl (0, 1)) (.inr [26, 27])) (xB 400 T) A14F A14F A4F A4F A14F A14F (riverD (.inl Fa3) (.inl Fb3) (.inl (0, 4)) 3 8 3 41 45 49) (riverD (.inl Fa4) (.inl Fb4) (.inl (0, 4)) 3 8 3 42 46 50) (xD 12 D) ((.inr (.inl (0, 12, Pd2)))) ((.inr (.inl (0, 12, Pd3)))) ((.inr (.inl (0, 12, Pd4)))) (xD 12 Kn) ((.inr (.inl (0, 12, Ps2)))) ((.inr (.inl (0, 12, Ps3)))) ((.inr (.inl (0, 12, Ps4)))) (xD 48 Q) ((.inr (.inl (0, 48, Pi2)))) ((.inr (.inl (0, 48, Pi3)))) ((.inr (.inl (0, 48, Pi4))))) H) (fun v H => ∃ a2 : Int, (0 ≤ a2 ∧ a2 ≤ 12) ∧ ∃ b2 : Int, (0 ≤ b2 ∧ b2 ≤ 14) ∧ ∃ D2 : Nat → Int32, (ivP 12 (-2) 11 D2) ∧ ∃ Kn2 : Nat → Int32, (ivP 12 (-2147483648) 2147483647 Kn2) ∧ ∃ Q2 : Nat → Int32, (ivP 48 (-2147483648) 2147483647 Q2) ∧ ((-2147483648) ≤ v.toInt ∧ v.toInt ≤ 2147483647) ∧ (0 ≤ v.toInt → b2 = v.toInt) ∧ (∃ R0 S0 : Nat → Int32, v.toInt = kTell T t R0 S0 ∧ cRow3 (cRun T t D Q Kn R0 S0) a2 b2 D2 Q2 Kn2) ∧ TH E (tbC (dayD (.inl (0, 18))) (dayD (.inl (0, 18))) (riverD (.inl (a2, a2)) (.inl (b2, b2)) (.inl (0, 4)) 31 33 35 39 43 47) (riverD (.inl Fa2) (.inl Fb2) (.inl (0, 4)) 32 34 36 40 44 48) (rcD (.inl (0, 0)) (.inr (tlr v.toInt 27 26)) (.inr (tlr v.toInt 26 27)) (.inl kb)) (rdD (.inl (0, 400)) (.inl (0, 400)) (.inl (0, 4000)) (.inl (0, 1)) (.inr [26, 27])) (xB 400 T) A14F A14F A4F A4F A14F A14F (riverD (.inl Fa3) (.inl Fb3) (.inl (0, 4)) 3 8 3 41 45 49) (riverD (.inl Fa4) (.inl Fb4) (.inl (0, 4)) 3 8 3 42 46 50) (xD 12 D2) ((.inr (.inl (0, 12, Pd2)))) ((.inr (.inl (0, 12, Pd3)))) ((.inr (.inl (0, 12, Pd4)))) (xD 12 Kn2) ((.inr (.inl (0, 12, Ps2)))) ((.inr (.inl (0, 12, Ps3)))) ((.inr (.inl (0, 12, Ps4)))) (xD 48 Q2) ((.inr (.inl (0, 48, Pi2)))) ((.inr (.inl (0, 48, Pi3)))) ((.inr (.inl (0, 48, Pi4))))) H) := by
  refine teI (by decide) (Nat.le_of_ble_eq_true rfl) ?_
  intro p_ ev_ s mi_ below_ meth cd_ ls F hK hN hO hH hS hl
  have hH : TH E (tbC (dayD (.inl (0, 18))) (dayD (.inl (0, 18))) (riverD (.inl Fa1) (.inl Fb1) (.inl (0, 4)) 31 33 35 39 43 47) (riverD (.inl Fa2) (.inl Fb2) (.inl (0, 4)) 32 34 36 40 44 48) (rcD (.inl (t, t)) (.inr [27]) (.inr [26]) (.inl kb)) (rdD (.inl (0, 400)) (.inl (0, 400)) (.inl (0, 4000)) (.inl (0, 1)) (.inr [26, 27])) (xB 400 T) A14F A14F A4F A4F A14F A14F (riverD (.inl Fa3) (.inl Fb3) (.inl (0, 4)) 3 8 3 41 45 49) (riverD (.inl Fa4) (.inl Fb4) (.inl (0, 4)) 3 8 3 42 46 50) (xD 12 D) ((.inr (.inl (0, 12, Pd2)))) ((.inr (.inl (0, 12, Pd3)))) ((.inr (.inl (0, 12, Pd4)))) (xD 12 Kn) ((.inr (.inl (0, 12, Ps2)))) ((.inr (.inl (0, 12, Ps3)))) ((.inr (.inl (0, 12, Ps4)))) (xD 48 Q) ((.inr (.inl (0, 48, Pi2)))) ((.inr (.inl (0, 48, Pi3)))) ((.inr (.inl (0, 48, Pi4))))) s.heap := hH
  have hl : lv_has ls 3 [(0, .ref a0)] := hl
  refine lv_aload_n F.1 F.2.1 dX6_tell_0 rfl (lv_at hl 0 rfl) ?_
  refine tGetR (j := 13) F hK hH (tyb ha0 (all1 rfl)) rfl (all1 rfl) clX6 (by decide) wd_2_15 dX6_tell_1 (fun q_1 hq_1 _ => ?_)
  refine lv_aload_n F.1 F.2.1 dX6_tell_4 rfl (lv_at hl 0 rfl) ?_
  refine tGetR (j := 3) F hK hH (tyb ha0 (all1 rfl)) rfl (all1 rfl) clX6 (by decide) wd_1_18 dX6_tell_5 (fun q_2 hq_2 _ => ?_)
  refine lv_aload_n F.1 F.2.1 dX6_tell_8 rfl (lv_at hl 0 rfl) ?_
  refine tGetI (j := 1) F hK hH (tyb ha0 (all1 rfl)) rfl clX6 (by decide) wd_7_12 dX6_tell_9 (fun z_3 hz_3 => ?_)
  have ez_3 : 0 ≤ z_3.toInt ∧ z_3.toInt ≤ 400 := by omega
  refine tVi (b := q_1) (As := [.ref q_2, .int z_3]) (rest := []) F hK hN hO (c_X3_readRiver_1 E (dayD (.inl (0, 18))) (dayD (.inl (0, 18))) (riverD (.inl Fa2) (.inl Fb2) (.inl (0, 4)) 32 34 36 40 44 48) (rcD (.inl (t, t)) (.inr [27]) (.inr [26]) (.inl kb)) (riverD (.inl Fa3) (.inl Fb3) (.inl (0, 4)) 3 8 3 41 45 49) (riverD (.inl Fa4) (.inl Fb4) (.inl (0, 4)) 3 8 3 42 46 50) ((.inr (.inl (0, 12, Pd2)))) ((.inr (.inl (0, 12, Pd3)))) ((.inr (.inl (0, 12, Pd4)))) ((.inr (.inl (0, 12, Ps2)))) ((.inr (.inl (0, 12, Ps3)))) ((.inr (.inl (0, 12, Ps4)))) ((.inr (.inl (0, 48, Pi2)))) ((.inr (.inl (0, 48, Pi3)))) ((.inr (.inl (0, 48, Pi4)))) Fa1 Fb1 T D Kn Q t q_1 q_2 z_3 hq_1 hq_2 ez_3 hT hD hKn hQ hFa1 hFb1 (by omega)) mv_X3_readRiver wd_8_19 ⟨Nat.le_of_ble_eq_true rfl, Nat.le_of_ble_eq_true rfl⟩ ⟨Nat.le_of_ble_eq_true rfl, Nat.le_of_ble_eq_true rfl⟩ hH hS (tRecv hK hH (tyb hq_1 (all1 rfl)) clX3) rfl hl.1 (Nat.le_of_ble_eq_true rfl) dX6_tell_12 (fun z_4 H locs hq hS => ?_)
  obtain ⟨g_5, hg_5, g_6, hg_6, g_7, hg_7, g_8, hg_8, g_9, hg_9, g_10, hg_10, f_11, f_12, hH⟩ := hq
  have hH : TH E (tbC (dayD (.inl (0, 18))) (dayD (.inl (0, 18))) (riverD (.inl (g_5, g_5)) (.inl (g_6, g_6)) (.inl (g_7, g_7)) 31 33 35 39 43 47) (riverD (.inl Fa2) (.inl Fb2) (.inl (0, 4)) 32 34 36 40 44 48) (rcD (.inl (t, t)) (.inr [27]) (.inr [26]) (.inl kb)) (rdD (.inl (0, 400)) (.inl (0, 400)) (.inl (0, 4000)) (.inl (0, 1)) (.inr [26, 27])) (xB 400 T) A14F A14F A4F A4F A14F A14F (riverD (.inl Fa3) (.inl Fb3) (.inl (0, 4)) 3 8 3 41 45 49) (riverD (.inl Fa4) (.inl Fb4) (.inl (0, 4)) 3 8 3 42 46 50) (xD 12 g_8) ((.inr (.inl (0, 12, Pd2)))) ((.inr (.inl (0, 12, Pd3)))) ((.inr (.inl (0, 12, Pd4)))) (xD 12 g_9) ((.inr (.inl (0, 12, Ps2)))) ((.inr (.inl (0, 12, Ps3)))) ((.inr (.inl (0, 12, Ps4)))) (xD 48 g_10) ((.inr (.inl (0, 48, Pi2)))) ((.inr (.inl (0, 48, Pi3)))) ((.inr (.inl (0, 48, Pi4))))) H := hH
  refine lv_istore_n (lv' := [(1, .int z_4), (0, .ref a0)]) F.1 F.2.1 dX6_tell_15 rfl hl (by decide) rfl (fun ls hl => ?_)
  refine lv_aload_n F.1 F.2.1 dX6_tell_16 rfl (lv_at hl 1 rfl) ?_
  refine lv_iconst (v := 0) F.1 F.2.1 dX6_tell_17 (by decide) ?_
  refine topK (a := 0) (by decide) (fun k_13 hk_13 => ?_)
  refine tPutG (j := 1) (t := 28) (fd := (.inl (0, 0))) F hK hH hS (List.mem_singleton.mp ha0) (by decide) rfl rfl (fdI (by omega)) (TB1 := (tbC (dayD (.inl (0, 18))) (dayD (.inl (0, 18))) (riverD (.inl (g_5, g_5)) (.inl (g_6, g_6)) (.inl (g_7, g_7)) 31 33 35 39 43 47) (riverD (.inl Fa2) (.inl Fb2) (.inl (0, 4)) 32 34 36 40 44 48) (rcD (.inl (0, 0)) (.inr [27]) (.inr [26]) (.inl kb)) (rdD (.inl (0, 400)) (.inl (0, 400)) (.inl (0, 4000)) (.inl (0, 1)) (.inr [26, 27])) (xB 400 T) A14F A14F A4F A4F A14F A14F (riverD (.inl Fa3) (.inl Fb3) (.inl (0, 4)) 3 8 3 41 45 49) (riverD (.inl Fa4) (.inl Fb4) (.inl (0, 4)) 3 8 3 42 46 50) (xD 12 g_8) ((.inr (.inl (0, 12, Pd2)))) ((.inr (.inl (0, 12, Pd3)))) ((.inr (.inl (0, 12, Pd4)))) (xD 12 g_9) ((.inr (.inl (0, 12, Ps2)))) ((.inr (.inl (0, 12, Ps3)))) ((.inr (.inl (0, 12, Ps4)))) (xD 48 g_10) ((.inr (.inl (0, 48, Pi2)))) ((.inr (.inl (0, 48, Pi3)))) ((.inr (.inl (0, 48, Pi4)))))) rfl clX6 (by decide) wd_7_12 rfl rfl rfl rfl dX6_tell_18 (fun H locs hH hS => ?_)
  refine lv_iload_n F.1 F.2.1 dX6_tell_21 rfl (lv_at hl 0 rfl) ?_
  refine z_eq (tgt := 30) F dX6_tell_22 (by decide) (fun c_14 => ?_) (fun c_14 => ?_)
  · skip
    have r_15 : 0 ≤ z_4.toInt ∧ z_4.toInt ≤ 0 := by have h9_ := f_11; omega
    refine lv_aload_n F.1 F.2.1 dX6_tell_30 rfl (lv_at hl 1 rfl) ?_
    refine tGetR (j := 3) F hK hH (tyb ha0 (all1 rfl)) rfl (all1 rfl) clX6 (by decide) wd_1_18 dX6_tell_31 (fun q_17 hq_17 _ => ?_)
    refine lv_astore_n (lv' := [(2, .ref q_17), (1, .int z_4), (0, .ref a0)]) F.1 F.2.1 dX6_tell_34 rfl hl (by decide) rfl (fun ls hl => ?_)
    refine lv_aload_n F.1 F.2.1 dX6_tell_35 rfl (lv_at hl 2 rfl) ?_
    refine lv_aload_n F.1 F.2.1 dX6_tell_36 rfl (lv_at hl 2 rfl) ?_
    refine tGetR (j := 2) F hK hH (tyb ha0 (all1 rfl)) rfl (all1 rfl) clX6 (by decide) wd_1_17 dX6_tell_37 (fun q_18 hq_18 _ => ?_)
    refine tPutG (j := 3) (t := 28) (fd := (.inr [27])) F hK hH hS (List.mem_singleton.mp ha0) (by decide) rfl rfl (fdR hq_18) (TB1 := (tbC (dayD (.inl (0, 18))) (dayD (.inl (0, 18))) (riverD (.inl (g_5, g_5)) (.inl (g_6, g_6)) (.inl (g_7, g_7)) 31 33 35 39 43 47) (riverD (.inl Fa2) (.inl Fb2) (.inl (0, 4)) 32 34 36 40 44 48) (rcD (.inl (0, 0)) (.inr [27]) (.inr [27]) (.inl kb)) (rdD (.inl (0, 400)) (.inl (0, 400)) (.inl (0, 4000)) (.inl (0, 1)) (.inr [26, 27])) (xB 400 T) A14F A14F A4F A4F A14F A14F (riverD (.inl Fa3) (.inl Fb3) (.inl (0, 4)) 3 8 3 41 45 49) (riverD (.inl Fa4) (.inl Fb4) (.inl (0, 4)) 3 8 3 42 46 50) (xD 12 g_8) ((.inr (.inl (0, 12, Pd2)))) ((.inr (.inl (0, 12, Pd3)))) ((.inr (.inl (0, 12, Pd4)))) (xD 12 g_9) ((.inr (.inl (0, 12, Ps2)))) ((.inr (.inl (0, 12, Ps3)))) ((.inr (.inl (0, 12, Ps4)))) (xD 48 g_10) ((.inr (.inl (0, 48, Pi2)))) ((.inr (.inl (0, 48, Pi3)))) ((.inr (.inl (0, 48, Pi4)))))) rfl clX6 (by decide) wd_1_18 rfl rfl rfl rfl dX6_tell_40 (fun H locs hH hS => ?_)
    refine lv_aload_n F.1 F.2.1 dX6_tell_43 rfl (lv_at hl 2 rfl) ?_
    refine lv_aload_n F.1 F.2.1 dX6_tell_44 rfl (lv_at hl 0 rfl) ?_
    refine tPutG (j := 2) (t := 28) (fd := (.inr [26])) F hK hH hS (List.mem_singleton.mp ha0) (by decide) rfl rfl (fdR hq_17) (TB1 := (tbC (dayD (.inl (0, 18))) (dayD (.inl (0, 18))) (riverD (.inl (g_5, g_5)) (.inl (g_6, g_6)) (.inl (g_7, g_7)) 31 33 35 39 43 47) (riverD (.inl Fa2) (.inl Fb2) (.inl (0, 4)) 32 34 36 40 44 48) (rcD (.inl (0, 0)) (.inr [26]) (.inr [27]) (.inl kb)) (rdD (.inl (0, 400)) (.inl (0, 400)) (.inl (0, 4000)) (.inl (0, 1)) (.inr [26, 27])) (xB 400 T) A14F A14F A4F A4F A14F A14F (riverD (.inl Fa3) (.inl Fb3) (.inl (0, 4)) 3 8 3 41 45 49) (riverD (.inl Fa4) (.inl Fb4) (.inl (0, 4)) 3 8 3 42 46 50) (xD 12 g_8) ((.inr (.inl (0, 12, Pd2)))) ((.inr (.inl (0, 12, Pd3)))) ((.inr (.inl (0, 12, Pd4)))) (xD 12 g_9) ((.inr (.inl (0, 12, Ps2)))) ((.inr (.inl (0, 12, Ps3)))) ((.inr (.inl (0, 12, Ps4)))) (xD 48 g_10) ((.inr (.inl (0, 48, Pi2)))) ((.inr (.inl (0, 48, Pi3)))) ((.inr (.inl (0, 48, Pi4)))))) rfl clX6 (by decide) wd_1_17 rfl rfl rfl rfl dX6_tell_45 (fun H locs hH hS => ?_)
    refine lv_aload_n F.1 F.2.1 dX6_tell_48 rfl (lv_at hl 2 rfl) ?_
    refine tGetR (j := 4) F hK hH (tyb ha0 (all1 rfl)) rfl (all1 rfl) clX6 (by decide) wd_1_22 dX6_tell_49 (fun q_19 hq_19 _ => ?_)
    refine lv_aload_n F.1 F.2.1 dX6_tell_52 rfl (lv_at hl 2 rfl) ?_
    refine tGetR (j := 2) F hK hH (tyb ha0 (all1 rfl)) rfl (all1 rfl) clX6 (by decide) wd_1_17 dX6_tell_53 (fun q_20 hq_20 _ => ?_)
    refine tVv (b := q_19) (As := [.ref q_20]) (rest := []) F hK hN hO (c_X5_startAs_1 E (dayD (.inl (0, 18))) (dayD (.inl (0, 18))) (riverD (.inl Fa2) (.inl Fb2) (.inl (0, 4)) 32 34 36 40 44 48) (rcD (.inl (0, 0)) (.inr [26]) (.inr [27]) (.inl kb)) (rdD (.inl (0, 400)) (.inl (0, 400)) (.inl (0, 4000)) (.inl (0, 1)) (.inr [26, 27])) (xB 400 T) (riverD (.inl Fa3) (.inl Fb3) (.inl (0, 4)) 3 8 3 41 45 49) (riverD (.inl Fa4) (.inl Fb4) (.inl (0, 4)) 3 8 3 42 46 50) (xD 12 g_8) ((.inr (.inl (0, 12, Pd2)))) ((.inr (.inl (0, 12, Pd3)))) ((.inr (.inl (0, 12, Pd4)))) (xD 12 g_9) ((.inr (.inl (0, 12, Ps2)))) ((.inr (.inl (0, 12, Ps3)))) ((.inr (.inl (0, 12, Ps4)))) (xD 48 g_10) ((.inr (.inl (0, 48, Pi2)))) ((.inr (.inl (0, 48, Pi3)))) ((.inr (.inl (0, 48, Pi4)))) g_5 g_6 g_7 q_19 q_20 hq_19 hq_20 (by omega) (by omega) (by omega)) mv_X5_startAs wd_14_17 ⟨Nat.le_of_ble_eq_true rfl, Nat.le_of_ble_eq_true rfl⟩ ⟨Nat.le_of_ble_eq_true rfl, Nat.le_of_ble_eq_true rfl⟩ hH hS (tRecv hK hH (tyb hq_19 (all1 rfl)) clX5) rfl hl.1 (Nat.le_of_ble_eq_true rfl) dX6_tell_56 (fun H locs hq hS => ?_)
    have hH := hq
    have hH : TH E (tbC (dayD (.inl (0, 18))) (dayD (.inl (0, 18))) (riverD (.inl (g_5, g_5)) (.inl (g_6, g_6)) (.inl (g_7, g_7)) 31 33 35 39 43 47) (riverD (.inl Fa2) (.inl Fb2) (.inl (0, 4)) 32 34 36 40 44 48) (rcD (.inl (0, 0)) (.inr [26]) (.inr [27]) (.inl kb)) (rdD (.inl (0, 400)) (.inl (0, 400)) (.inl (0, 4000)) (.inl (0, 1)) (.inr [26, 27])) (xB 400 T) A14F A14F A4F A4F A14F A14F (riverD (.inl Fa3) (.inl Fb3) (.inl (0, 4)) 3 8 3 41 45 49) (riverD (.inl Fa4) (.inl Fb4) (.inl (0, 4)) 3 8 3 42 46 50) (xD 12 g_8) ((.inr (.inl (0, 12, Pd2)))) ((.inr (.inl (0, 12, Pd3)))) ((.inr (.inl (0, 12, Pd4)))) (xD 12 g_9) ((.inr (.inl (0, 12, Ps2)))) ((.inr (.inl (0, 12, Ps3)))) ((.inr (.inl (0, 12, Ps4)))) (xD 48 g_10) ((.inr (.inl (0, 48, Pi2)))) ((.inr (.inl (0, 48, Pi3)))) ((.inr (.inl (0, 48, Pi4))))) H := hH
    refine lv_aload_n F.1 F.2.1 dX6_tell_59 rfl (lv_at hl 2 rfl) ?_
    refine lv_iconst (v := 0) F.1 F.2.1 dX6_tell_60 (by decide) ?_
    refine topK (a := 0) (by decide) (fun k_22 hk_22 => ?_)
    refine tPut (j := 7) F hK hH hS (tyb ha0 (all1 rfl)) rfl (fdI (wkb (eqb hk_22) rfl rfl)) clX6 (by decide) wd_8_17 rfl rfl rfl rfl dX6_tell_61 (fun H locs hH hS => ?_)
    refine lv_aload_n F.1 F.2.1 dX6_tell_64 rfl (lv_at hl 2 rfl) ?_
    refine tGetR (j := 2) F hK hH (tyb ha0 (all1 rfl)) rfl (all1 rfl) clX6 (by decide) wd_1_17 dX6_tell_65 (fun q_23 hq_23 _ => ?_)
    refine tGetI (j := 4) F hK hH (tyb hq_23 (all1 rfl)) rfl clX2 (by decide) wd_8_18 dX6_tell_68 (fun z_24 hz_24 => ?_)
    have ez_24 : 0 ≤ z_24.toInt ∧ z_24.toInt ≤ 14 := by omega
    exact txI F hS dX6_tell_71 rfl (⟨g_5, (by omega), g_6, (by omega), g_8, hg_8, g_9, hg_9, g_10, hg_10, (wkb ez_24 rfl rfl), (by omega), (by obtain ⟨R0_, S0_, h1_, h2_, h3_⟩ := f_12; exact ⟨R0_, S0_, tell_g h1_ h2_ (by omega) (by omega), h3_⟩), (by rw [tlr_p (x := z_24.toInt) (a := 27) (b := 26) (by omega), tlr_p (x := z_24.toInt) (a := 26) (b := 27) (by omega)]; exact (TH.loose (t := 26) (TB1 := (tbC (dayD (.inl (0, 18))) (dayD (.inl (0, 18))) (riverD (.inl (g_5, g_5)) (.inl (g_6, g_6)) (.inl (0, 4)) 31 33 35 39 43 47) (riverD (.inl Fa2) (.inl Fb2) (.inl (0, 4)) 32 34 36 40 44 48) (rcD (.inl (0, 0)) (.inr [26]) (.inr [27]) (.inl kb)) (rdD (.inl (0, 400)) (.inl (0, 400)) (.inl (0, 4000)) (.inl (0, 1)) (.inr [26, 27])) (xB 400 T) A14F A14F A4F A4F A14F A14F (riverD (.inl Fa3) (.inl Fb3) (.inl (0, 4)) 3 8 3 41 45 49) (riverD (.inl Fa4) (.inl Fb4) (.inl (0, 4)) 3 8 3 42 46 50) (xD 12 g_8) ((.inr (.inl (0, 12, Pd2)))) ((.inr (.inl (0, 12, Pd3)))) ((.inr (.inl (0, 12, Pd4)))) (xD 12 g_9) ((.inr (.inl (0, 12, Ps2)))) ((.inr (.inl (0, 12, Ps3)))) ((.inr (.inl (0, 12, Ps4)))) (xD 48 g_10) ((.inr (.inl (0, 48, Pi2)))) ((.inr (.inl (0, 48, Pi3)))) ((.inr (.inl (0, 48, Pi4)))))) hH rfl (tcLoose (j := 14) rfl (by omega)) rfl))⟩)
  · skip
    have r_16 : 1 ≤ z_4.toInt ∧ z_4.toInt ≤ 4000 := by have h9_ := f_11; omega
    refine lv_bipush (v := (-2)) F.1 F.2.1 dX6_tell_25 (by decide) ?_
    refine topK (a := (-2)) (by decide) (fun k_25 hk_25 => ?_)
    refine lv_iload_n F.1 F.2.1 dX6_tell_27 rfl (lv_at hl 0 rfl) ?_
    refine tSub (lo := (-4002)) (hi := (-3)) F dX6_tell_28 (eqb hk_25) r_16 rfl (fun z_26 hz_26 => ?_)
    exact txI F hS dX6_tell_29 rfl (⟨g_5, (by omega), g_6, (by omega), g_8, hg_8, g_9, hg_9, g_10, hg_10, (wkb hz_26.2 rfl rfl), (by omega), (by obtain ⟨R0_, S0_, h1_, h2_, h3_⟩ := f_12; exact ⟨R0_, S0_, tell_f h1_ (by omega) (by omega), h3_⟩), (by rw [tlr_n (x := z_26.toInt) (a := 27) (b := 26) (by omega), tlr_n (x := z_26.toInt) (a := 26) (b := 27) (by omega)]; exact (TH.loose (t := 26) (TB1 := (tbC (dayD (.inl (0, 18))) (dayD (.inl (0, 18))) (riverD (.inl (g_5, g_5)) (.inl (g_6, g_6)) (.inl (0, 4)) 31 33 35 39 43 47) (riverD (.inl Fa2) (.inl Fb2) (.inl (0, 4)) 32 34 36 40 44 48) (rcD (.inl (0, 0)) (.inr [27]) (.inr [26]) (.inl kb)) (rdD (.inl (0, 400)) (.inl (0, 400)) (.inl (0, 4000)) (.inl (0, 1)) (.inr [26, 27])) (xB 400 T) A14F A14F A4F A4F A14F A14F (riverD (.inl Fa3) (.inl Fb3) (.inl (0, 4)) 3 8 3 41 45 49) (riverD (.inl Fa4) (.inl Fb4) (.inl (0, 4)) 3 8 3 42 46 50) (xD 12 g_8) ((.inr (.inl (0, 12, Pd2)))) ((.inr (.inl (0, 12, Pd3)))) ((.inr (.inl (0, 12, Pd4)))) (xD 12 g_9) ((.inr (.inl (0, 12, Ps2)))) ((.inr (.inl (0, 12, Ps3)))) ((.inr (.inl (0, 12, Ps4)))) (xD 48 g_10) ((.inr (.inl (0, 48, Pi2)))) ((.inr (.inl (0, 48, Pi3)))) ((.inr (.inl (0, 48, Pi4)))))) hH rfl (tcLoose (j := 14) rfl (by omega)) rfl))⟩)
set_option maxHeartbeats 4000000 in
set_option maxRecDepth 100000 in
theorem c_X6_tell_2 (E : Ev) (kb : Int × Int) (Fa1 : Int × Int) (Fb1 : Int × Int) (Fa2 : Int × Int) (Fb2 : Int × Int) (Fa3 : Int × Int) (Fb3 : Int × Int) (Fa4 : Int × Int) (Fb4 : Int × Int) (Pd1 : (Nat → Int32) → Prop) (Pd3 : (Nat → Int32) → Prop) (Pd4 : (Nat → Int32) → Prop) (Ps1 : (Nat → Int32) → Prop) (Ps3 : (Nat → Int32) → Prop) (Ps4 : (Nat → Int32) → Prop) (Pi1 : (Nat → Int32) → Prop) (Pi3 : (Nat → Int32) → Prop) (Pi4 : (Nat → Int32) → Prop) (t : Int) (T : Nat → Int32) (D : Nat → Int32) (Kn : Nat → Int32) (Q : Nat → Int32) (a0 : Nat) (ha0 : eT E a0 ∈ [28]) (ht : 0 ≤ t ∧ t ≤ 400) (hT : ivP 400 (-128) 127 T) (hD : ivP 12 (-2) 11 D) (hKn : ivP 12 (-2147483648) 2147483647 Kn) (hQ : ivP 48 (-2147483648) 2147483647 Q) (hFa1 : 0 ≤ Fa1.1 ∧ Fa1.2 ≤ 12) (hFb1 : 0 ≤ Fb1.1 ∧ Fb1.2 ≤ 14) (hFa2 : 0 ≤ Fa2.1 ∧ Fa2.2 ≤ 12) (hFb2 : 0 ≤ Fb2.1 ∧ Fb2.2 ≤ 14) (hFa3 : 0 ≤ Fa3.1 ∧ Fa3.2 ≤ 12) (hFb3 : 0 ≤ Fb3.1 ∧ Fb3.2 ≤ 14) (hFa4 : 0 ≤ Fa4.1 ∧ Fa4.2 ≤ 12) (hFb4 : 0 ≤ Fb4.1 ∧ Fb4.2 ≤ 14) (hPd1 : ∀ f, Pd1 f → ivP 12 (-2) 11 f) (hPd3 : ∀ f, Pd3 f → ivP 12 (-2) 11 f) (hPd4 : ∀ f, Pd4 f → ivP 12 (-2) 11 f) (hPs1 : ∀ f, Ps1 f → ivP 12 (-2147483648) 2147483647 f) (hPs3 : ∀ f, Ps3 f → ivP 12 (-2147483648) 2147483647 f) (hPs4 : ∀ f, Ps4 f → ivP 12 (-2147483648) 2147483647 f) (hPi1 : ∀ f, Pi1 f → ivP 48 (-2147483648) 2147483647 f) (hPi3 : ∀ f, Pi3 f → ivP 48 (-2147483648) 2147483647 f) (hPi4 : ∀ f, Pi4 f → ivP 48 (-2147483648) 2147483647 f) : TcI E yX6_tell cX6_tell 3 .int ({ frames := 10, cells := 0, slots := 0, locals := 294 }) [.ref a0] (fun H => TH E (tbC (dayD (.inl (0, 18))) (dayD (.inl (0, 18))) (riverD (.inl Fa1) (.inl Fb1) (.inl (0, 4)) 31 33 35 39 43 47) (riverD (.inl Fa2) (.inl Fb2) (.inl (0, 4)) 32 34 36 40 44 48) (rcD (.inl (t, t)) (.inr [26]) (.inr [27]) (.inl kb)) (rdD (.inl (0, 400)) (.inl (0, 400)) (.inl (0, 4000)) (.inl (0, 1)) (.inr [26, 27])) (xB 400 T) A14F A14F A4F A4F A14F A14F (riverD (.inl Fa3) (.inl Fb3) (.inl (0, 4)) 3 8 3 41 45 49) (riverD (.inl Fa4) (.inl Fb4) (.inl (0, 4)) 3 8 3 42 46 50) ((.inr (.inl (0, 12, Pd1)))) (xD 12 D) ((.inr (.inl (0, 12, Pd3)))) ((.inr (.inl (0, 12, Pd4)))) ((.inr (.inl (0, 12, Ps1)))) (xD 12 Kn) ((.inr (.inl (0, 12, Ps3)))) ((.inr (.inl (0, 12, Ps4)))) ((.inr (.inl (0, 48, Pi1)))) (xD 48 Q) ((.inr (.inl (0, 48, Pi3)))) ((.inr (.inl (0, 48, Pi4))))) H) (fun v H => ∃ a2 : Int, (0 ≤ a2 ∧ a2 ≤ 12) ∧ ∃ b2 : Int, (0 ≤ b2 ∧ b2 ≤ 14) ∧ ∃ D2 : Nat → Int32, (ivP 12 (-2) 11 D2) ∧ ∃ Kn2 : Nat → Int32, (ivP 12 (-2147483648) 2147483647 Kn2) ∧ ∃ Q2 : Nat → Int32, (ivP 48 (-2147483648) 2147483647 Q2) ∧ ((-2147483648) ≤ v.toInt ∧ v.toInt ≤ 2147483647) ∧ (0 ≤ v.toInt → b2 = v.toInt) ∧ (∃ R0 S0 : Nat → Int32, v.toInt = kTell T t R0 S0 ∧ cRow3 (cRun T t D Q Kn R0 S0) a2 b2 D2 Q2 Kn2) ∧ TH E (tbC (dayD (.inl (0, 18))) (dayD (.inl (0, 18))) (riverD (.inl Fa1) (.inl Fb1) (.inl (0, 4)) 31 33 35 39 43 47) (riverD (.inl (a2, a2)) (.inl (b2, b2)) (.inl (0, 4)) 32 34 36 40 44 48) (rcD (.inl (0, 0)) (.inr (tlr v.toInt 26 27)) (.inr (tlr v.toInt 27 26)) (.inl kb)) (rdD (.inl (0, 400)) (.inl (0, 400)) (.inl (0, 4000)) (.inl (0, 1)) (.inr [26, 27])) (xB 400 T) A14F A14F A4F A4F A14F A14F (riverD (.inl Fa3) (.inl Fb3) (.inl (0, 4)) 3 8 3 41 45 49) (riverD (.inl Fa4) (.inl Fb4) (.inl (0, 4)) 3 8 3 42 46 50) ((.inr (.inl (0, 12, Pd1)))) (xD 12 D2) ((.inr (.inl (0, 12, Pd3)))) ((.inr (.inl (0, 12, Pd4)))) ((.inr (.inl (0, 12, Ps1)))) (xD 12 Kn2) ((.inr (.inl (0, 12, Ps3)))) ((.inr (.inl (0, 12, Ps4)))) ((.inr (.inl (0, 48, Pi1)))) (xD 48 Q2) ((.inr (.inl (0, 48, Pi3)))) ((.inr (.inl (0, 48, Pi4))))) H) := by
  refine teI (by decide) (Nat.le_of_ble_eq_true rfl) ?_
  intro p_ ev_ s mi_ below_ meth cd_ ls F hK hN hO hH hS hl
  have hH : TH E (tbC (dayD (.inl (0, 18))) (dayD (.inl (0, 18))) (riverD (.inl Fa1) (.inl Fb1) (.inl (0, 4)) 31 33 35 39 43 47) (riverD (.inl Fa2) (.inl Fb2) (.inl (0, 4)) 32 34 36 40 44 48) (rcD (.inl (t, t)) (.inr [26]) (.inr [27]) (.inl kb)) (rdD (.inl (0, 400)) (.inl (0, 400)) (.inl (0, 4000)) (.inl (0, 1)) (.inr [26, 27])) (xB 400 T) A14F A14F A4F A4F A14F A14F (riverD (.inl Fa3) (.inl Fb3) (.inl (0, 4)) 3 8 3 41 45 49) (riverD (.inl Fa4) (.inl Fb4) (.inl (0, 4)) 3 8 3 42 46 50) ((.inr (.inl (0, 12, Pd1)))) (xD 12 D) ((.inr (.inl (0, 12, Pd3)))) ((.inr (.inl (0, 12, Pd4)))) ((.inr (.inl (0, 12, Ps1)))) (xD 12 Kn) ((.inr (.inl (0, 12, Ps3)))) ((.inr (.inl (0, 12, Ps4)))) ((.inr (.inl (0, 48, Pi1)))) (xD 48 Q) ((.inr (.inl (0, 48, Pi3)))) ((.inr (.inl (0, 48, Pi4))))) s.heap := hH
  have hl : lv_has ls 3 [(0, .ref a0)] := hl
  refine lv_aload_n F.1 F.2.1 dX6_tell_0 rfl (lv_at hl 0 rfl) ?_
  refine tGetR (j := 13) F hK hH (tyb ha0 (all1 rfl)) rfl (all1 rfl) clX6 (by decide) wd_2_15 dX6_tell_1 (fun q_1 hq_1 _ => ?_)
  refine lv_aload_n F.1 F.2.1 dX6_tell_4 rfl (lv_at hl 0 rfl) ?_
  refine tGetR (j := 3) F hK hH (tyb ha0 (all1 rfl)) rfl (all1 rfl) clX6 (by decide) wd_1_18 dX6_tell_5 (fun q_2 hq_2 _ => ?_)
  refine lv_aload_n F.1 F.2.1 dX6_tell_8 rfl (lv_at hl 0 rfl) ?_
  refine tGetI (j := 1) F hK hH (tyb ha0 (all1 rfl)) rfl clX6 (by decide) wd_7_12 dX6_tell_9 (fun z_3 hz_3 => ?_)
  have ez_3 : 0 ≤ z_3.toInt ∧ z_3.toInt ≤ 400 := by omega
  refine tVi (b := q_1) (As := [.ref q_2, .int z_3]) (rest := []) F hK hN hO (c_X3_readRiver_2 E (dayD (.inl (0, 18))) (dayD (.inl (0, 18))) (riverD (.inl Fa1) (.inl Fb1) (.inl (0, 4)) 31 33 35 39 43 47) (rcD (.inl (t, t)) (.inr [26]) (.inr [27]) (.inl kb)) (riverD (.inl Fa3) (.inl Fb3) (.inl (0, 4)) 3 8 3 41 45 49) (riverD (.inl Fa4) (.inl Fb4) (.inl (0, 4)) 3 8 3 42 46 50) ((.inr (.inl (0, 12, Pd1)))) ((.inr (.inl (0, 12, Pd3)))) ((.inr (.inl (0, 12, Pd4)))) ((.inr (.inl (0, 12, Ps1)))) ((.inr (.inl (0, 12, Ps3)))) ((.inr (.inl (0, 12, Ps4)))) ((.inr (.inl (0, 48, Pi1)))) ((.inr (.inl (0, 48, Pi3)))) ((.inr (.inl (0, 48, Pi4)))) Fa2 Fb2 T D Kn Q t q_1 q_2 z_3 hq_1 hq_2 ez_3 hT hD hKn hQ hFa2 hFb2 (by omega)) mv_X3_readRiver wd_8_19 ⟨Nat.le_of_ble_eq_true rfl, Nat.le_of_ble_eq_true rfl⟩ ⟨Nat.le_of_ble_eq_true rfl, Nat.le_of_ble_eq_true rfl⟩ hH hS (tRecv hK hH (tyb hq_1 (all1 rfl)) clX3) rfl hl.1 (Nat.le_of_ble_eq_true rfl) dX6_tell_12 (fun z_4 H locs hq hS => ?_)
  obtain ⟨g_5, hg_5, g_6, hg_6, g_7, hg_7, g_8, hg_8, g_9, hg_9, g_10, hg_10, f_11, f_12, hH⟩ := hq
  have hH : TH E (tbC (dayD (.inl (0, 18))) (dayD (.inl (0, 18))) (riverD (.inl Fa1) (.inl Fb1) (.inl (0, 4)) 31 33 35 39 43 47) (riverD (.inl (g_5, g_5)) (.inl (g_6, g_6)) (.inl (g_7, g_7)) 32 34 36 40 44 48) (rcD (.inl (t, t)) (.inr [26]) (.inr [27]) (.inl kb)) (rdD (.inl (0, 400)) (.inl (0, 400)) (.inl (0, 4000)) (.inl (0, 1)) (.inr [26, 27])) (xB 400 T) A14F A14F A4F A4F A14F A14F (riverD (.inl Fa3) (.inl Fb3) (.inl (0, 4)) 3 8 3 41 45 49) (riverD (.inl Fa4) (.inl Fb4) (.inl (0, 4)) 3 8 3 42 46 50) ((.inr (.inl (0, 12, Pd1)))) (xD 12 g_8) ((.inr (.inl (0, 12, Pd3)))) ((.inr (.inl (0, 12, Pd4)))) ((.inr (.inl (0, 12, Ps1)))) (xD 12 g_9) ((.inr (.inl (0, 12, Ps3)))) ((.inr (.inl (0, 12, Ps4)))) ((.inr (.inl (0, 48, Pi1)))) (xD 48 g_10) ((.inr (.inl (0, 48, Pi3)))) ((.inr (.inl (0, 48, Pi4))))) H := hH
  refine lv_istore_n (lv' := [(1, .int z_4), (0, .ref a0)]) F.1 F.2.1 dX6_tell_15 rfl hl (by decide) rfl (fun ls hl => ?_)
  refine lv_aload_n F.1 F.2.1 dX6_tell_16 rfl (lv_at hl 1 rfl) ?_
  refine lv_iconst (v := 0) F.1 F.2.1 dX6_tell_17 (by decide) ?_
  refine topK (a := 0) (by decide) (fun k_13 hk_13 => ?_)
  refine tPutG (j := 1) (t := 28) (fd := (.inl (0, 0))) F hK hH hS (List.mem_singleton.mp ha0) (by decide) rfl rfl (fdI (by omega)) (TB1 := (tbC (dayD (.inl (0, 18))) (dayD (.inl (0, 18))) (riverD (.inl Fa1) (.inl Fb1) (.inl (0, 4)) 31 33 35 39 43 47) (riverD (.inl (g_5, g_5)) (.inl (g_6, g_6)) (.inl (g_7, g_7)) 32 34 36 40 44 48) (rcD (.inl (0, 0)) (.inr [26]) (.inr [27]) (.inl kb)) (rdD (.inl (0, 400)) (.inl (0, 400)) (.inl (0, 4000)) (.inl (0, 1)) (.inr [26, 27])) (xB 400 T) A14F A14F A4F A4F A14F A14F (riverD (.inl Fa3) (.inl Fb3) (.inl (0, 4)) 3 8 3 41 45 49) (riverD (.inl Fa4) (.inl Fb4) (.inl (0, 4)) 3 8 3 42 46 50) ((.inr (.inl (0, 12, Pd1)))) (xD 12 g_8) ((.inr (.inl (0, 12, Pd3)))) ((.inr (.inl (0, 12, Pd4)))) ((.inr (.inl (0, 12, Ps1)))) (xD 12 g_9) ((.inr (.inl (0, 12, Ps3)))) ((.inr (.inl (0, 12, Ps4)))) ((.inr (.inl (0, 48, Pi1)))) (xD 48 g_10) ((.inr (.inl (0, 48, Pi3)))) ((.inr (.inl (0, 48, Pi4)))))) rfl clX6 (by decide) wd_7_12 rfl rfl rfl rfl dX6_tell_18 (fun H locs hH hS => ?_)
  refine lv_iload_n F.1 F.2.1 dX6_tell_21 rfl (lv_at hl 0 rfl) ?_
  refine z_eq (tgt := 30) F dX6_tell_22 (by decide) (fun c_14 => ?_) (fun c_14 => ?_)
  · skip
    have r_15 : 0 ≤ z_4.toInt ∧ z_4.toInt ≤ 0 := by have h9_ := f_11; omega
    refine lv_aload_n F.1 F.2.1 dX6_tell_30 rfl (lv_at hl 1 rfl) ?_
    refine tGetR (j := 3) F hK hH (tyb ha0 (all1 rfl)) rfl (all1 rfl) clX6 (by decide) wd_1_18 dX6_tell_31 (fun q_17 hq_17 _ => ?_)
    refine lv_astore_n (lv' := [(2, .ref q_17), (1, .int z_4), (0, .ref a0)]) F.1 F.2.1 dX6_tell_34 rfl hl (by decide) rfl (fun ls hl => ?_)
    refine lv_aload_n F.1 F.2.1 dX6_tell_35 rfl (lv_at hl 2 rfl) ?_
    refine lv_aload_n F.1 F.2.1 dX6_tell_36 rfl (lv_at hl 2 rfl) ?_
    refine tGetR (j := 2) F hK hH (tyb ha0 (all1 rfl)) rfl (all1 rfl) clX6 (by decide) wd_1_17 dX6_tell_37 (fun q_18 hq_18 _ => ?_)
    refine tPutG (j := 3) (t := 28) (fd := (.inr [26])) F hK hH hS (List.mem_singleton.mp ha0) (by decide) rfl rfl (fdR hq_18) (TB1 := (tbC (dayD (.inl (0, 18))) (dayD (.inl (0, 18))) (riverD (.inl Fa1) (.inl Fb1) (.inl (0, 4)) 31 33 35 39 43 47) (riverD (.inl (g_5, g_5)) (.inl (g_6, g_6)) (.inl (g_7, g_7)) 32 34 36 40 44 48) (rcD (.inl (0, 0)) (.inr [26]) (.inr [26]) (.inl kb)) (rdD (.inl (0, 400)) (.inl (0, 400)) (.inl (0, 4000)) (.inl (0, 1)) (.inr [26, 27])) (xB 400 T) A14F A14F A4F A4F A14F A14F (riverD (.inl Fa3) (.inl Fb3) (.inl (0, 4)) 3 8 3 41 45 49) (riverD (.inl Fa4) (.inl Fb4) (.inl (0, 4)) 3 8 3 42 46 50) ((.inr (.inl (0, 12, Pd1)))) (xD 12 g_8) ((.inr (.inl (0, 12, Pd3)))) ((.inr (.inl (0, 12, Pd4)))) ((.inr (.inl (0, 12, Ps1)))) (xD 12 g_9) ((.inr (.inl (0, 12, Ps3)))) ((.inr (.inl (0, 12, Ps4)))) ((.inr (.inl (0, 48, Pi1)))) (xD 48 g_10) ((.inr (.inl (0, 48, Pi3)))) ((.inr (.inl (0, 48, Pi4)))))) rfl clX6 (by decide) wd_1_18 rfl rfl rfl rfl dX6_tell_40 (fun H locs hH hS => ?_)
    refine lv_aload_n F.1 F.2.1 dX6_tell_43 rfl (lv_at hl 2 rfl) ?_
    refine lv_aload_n F.1 F.2.1 dX6_tell_44 rfl (lv_at hl 0 rfl) ?_
    refine tPutG (j := 2) (t := 28) (fd := (.inr [27])) F hK hH hS (List.mem_singleton.mp ha0) (by decide) rfl rfl (fdR hq_17) (TB1 := (tbC (dayD (.inl (0, 18))) (dayD (.inl (0, 18))) (riverD (.inl Fa1) (.inl Fb1) (.inl (0, 4)) 31 33 35 39 43 47) (riverD (.inl (g_5, g_5)) (.inl (g_6, g_6)) (.inl (g_7, g_7)) 32 34 36 40 44 48) (rcD (.inl (0, 0)) (.inr [27]) (.inr [26]) (.inl kb)) (rdD (.inl (0, 400)) (.inl (0, 400)) (.inl (0, 4000)) (.inl (0, 1)) (.inr [26, 27])) (xB 400 T) A14F A14F A4F A4F A14F A14F (riverD (.inl Fa3) (.inl Fb3) (.inl (0, 4)) 3 8 3 41 45 49) (riverD (.inl Fa4) (.inl Fb4) (.inl (0, 4)) 3 8 3 42 46 50) ((.inr (.inl (0, 12, Pd1)))) (xD 12 g_8) ((.inr (.inl (0, 12, Pd3)))) ((.inr (.inl (0, 12, Pd4)))) ((.inr (.inl (0, 12, Ps1)))) (xD 12 g_9) ((.inr (.inl (0, 12, Ps3)))) ((.inr (.inl (0, 12, Ps4)))) ((.inr (.inl (0, 48, Pi1)))) (xD 48 g_10) ((.inr (.inl (0, 48, Pi3)))) ((.inr (.inl (0, 48, Pi4)))))) rfl clX6 (by decide) wd_1_17 rfl rfl rfl rfl dX6_tell_45 (fun H locs hH hS => ?_)
    refine lv_aload_n F.1 F.2.1 dX6_tell_48 rfl (lv_at hl 2 rfl) ?_
    refine tGetR (j := 4) F hK hH (tyb ha0 (all1 rfl)) rfl (all1 rfl) clX6 (by decide) wd_1_22 dX6_tell_49 (fun q_19 hq_19 _ => ?_)
    refine lv_aload_n F.1 F.2.1 dX6_tell_52 rfl (lv_at hl 2 rfl) ?_
    refine tGetR (j := 2) F hK hH (tyb ha0 (all1 rfl)) rfl (all1 rfl) clX6 (by decide) wd_1_17 dX6_tell_53 (fun q_20 hq_20 _ => ?_)
    refine tVv (b := q_19) (As := [.ref q_20]) (rest := []) F hK hN hO (c_X5_startAs_2 E (dayD (.inl (0, 18))) (dayD (.inl (0, 18))) (riverD (.inl Fa1) (.inl Fb1) (.inl (0, 4)) 31 33 35 39 43 47) (rcD (.inl (0, 0)) (.inr [27]) (.inr [26]) (.inl kb)) (rdD (.inl (0, 400)) (.inl (0, 400)) (.inl (0, 4000)) (.inl (0, 1)) (.inr [26, 27])) (xB 400 T) (riverD (.inl Fa3) (.inl Fb3) (.inl (0, 4)) 3 8 3 41 45 49) (riverD (.inl Fa4) (.inl Fb4) (.inl (0, 4)) 3 8 3 42 46 50) ((.inr (.inl (0, 12, Pd1)))) (xD 12 g_8) ((.inr (.inl (0, 12, Pd3)))) ((.inr (.inl (0, 12, Pd4)))) ((.inr (.inl (0, 12, Ps1)))) (xD 12 g_9) ((.inr (.inl (0, 12, Ps3)))) ((.inr (.inl (0, 12, Ps4)))) ((.inr (.inl (0, 48, Pi1)))) (xD 48 g_10) ((.inr (.inl (0, 48, Pi3)))) ((.inr (.inl (0, 48, Pi4)))) g_5 g_6 g_7 q_19 q_20 hq_19 hq_20 (by omega) (by omega) (by omega)) mv_X5_startAs wd_14_17 ⟨Nat.le_of_ble_eq_true rfl, Nat.le_of_ble_eq_true rfl⟩ ⟨Nat.le_of_ble_eq_true rfl, Nat.le_of_ble_eq_true rfl⟩ hH hS (tRecv hK hH (tyb hq_19 (all1 rfl)) clX5) rfl hl.1 (Nat.le_of_ble_eq_true rfl) dX6_tell_56 (fun H locs hq hS => ?_)
    have hH := hq
    have hH : TH E (tbC (dayD (.inl (0, 18))) (dayD (.inl (0, 18))) (riverD (.inl Fa1) (.inl Fb1) (.inl (0, 4)) 31 33 35 39 43 47) (riverD (.inl (g_5, g_5)) (.inl (g_6, g_6)) (.inl (g_7, g_7)) 32 34 36 40 44 48) (rcD (.inl (0, 0)) (.inr [27]) (.inr [26]) (.inl kb)) (rdD (.inl (0, 400)) (.inl (0, 400)) (.inl (0, 4000)) (.inl (0, 1)) (.inr [26, 27])) (xB 400 T) A14F A14F A4F A4F A14F A14F (riverD (.inl Fa3) (.inl Fb3) (.inl (0, 4)) 3 8 3 41 45 49) (riverD (.inl Fa4) (.inl Fb4) (.inl (0, 4)) 3 8 3 42 46 50) ((.inr (.inl (0, 12, Pd1)))) (xD 12 g_8) ((.inr (.inl (0, 12, Pd3)))) ((.inr (.inl (0, 12, Pd4)))) ((.inr (.inl (0, 12, Ps1)))) (xD 12 g_9) ((.inr (.inl (0, 12, Ps3)))) ((.inr (.inl (0, 12, Ps4)))) ((.inr (.inl (0, 48, Pi1)))) (xD 48 g_10) ((.inr (.inl (0, 48, Pi3)))) ((.inr (.inl (0, 48, Pi4))))) H := hH
    refine lv_aload_n F.1 F.2.1 dX6_tell_59 rfl (lv_at hl 2 rfl) ?_
    refine lv_iconst (v := 0) F.1 F.2.1 dX6_tell_60 (by decide) ?_
    refine topK (a := 0) (by decide) (fun k_22 hk_22 => ?_)
    refine tPut (j := 7) F hK hH hS (tyb ha0 (all1 rfl)) rfl (fdI (wkb (eqb hk_22) rfl rfl)) clX6 (by decide) wd_8_17 rfl rfl rfl rfl dX6_tell_61 (fun H locs hH hS => ?_)
    refine lv_aload_n F.1 F.2.1 dX6_tell_64 rfl (lv_at hl 2 rfl) ?_
    refine tGetR (j := 2) F hK hH (tyb ha0 (all1 rfl)) rfl (all1 rfl) clX6 (by decide) wd_1_17 dX6_tell_65 (fun q_23 hq_23 _ => ?_)
    refine tGetI (j := 4) F hK hH (tyb hq_23 (all1 rfl)) rfl clX2 (by decide) wd_8_18 dX6_tell_68 (fun z_24 hz_24 => ?_)
    have ez_24 : 0 ≤ z_24.toInt ∧ z_24.toInt ≤ 14 := by omega
    exact txI F hS dX6_tell_71 rfl (⟨g_5, (by omega), g_6, (by omega), g_8, hg_8, g_9, hg_9, g_10, hg_10, (wkb ez_24 rfl rfl), (by omega), (by obtain ⟨R0_, S0_, h1_, h2_, h3_⟩ := f_12; exact ⟨R0_, S0_, tell_g h1_ h2_ (by omega) (by omega), h3_⟩), (by rw [tlr_p (x := z_24.toInt) (a := 26) (b := 27) (by omega), tlr_p (x := z_24.toInt) (a := 27) (b := 26) (by omega)]; exact (TH.loose (t := 27) (TB1 := (tbC (dayD (.inl (0, 18))) (dayD (.inl (0, 18))) (riverD (.inl Fa1) (.inl Fb1) (.inl (0, 4)) 31 33 35 39 43 47) (riverD (.inl (g_5, g_5)) (.inl (g_6, g_6)) (.inl (0, 4)) 32 34 36 40 44 48) (rcD (.inl (0, 0)) (.inr [27]) (.inr [26]) (.inl kb)) (rdD (.inl (0, 400)) (.inl (0, 400)) (.inl (0, 4000)) (.inl (0, 1)) (.inr [26, 27])) (xB 400 T) A14F A14F A4F A4F A14F A14F (riverD (.inl Fa3) (.inl Fb3) (.inl (0, 4)) 3 8 3 41 45 49) (riverD (.inl Fa4) (.inl Fb4) (.inl (0, 4)) 3 8 3 42 46 50) ((.inr (.inl (0, 12, Pd1)))) (xD 12 g_8) ((.inr (.inl (0, 12, Pd3)))) ((.inr (.inl (0, 12, Pd4)))) ((.inr (.inl (0, 12, Ps1)))) (xD 12 g_9) ((.inr (.inl (0, 12, Ps3)))) ((.inr (.inl (0, 12, Ps4)))) ((.inr (.inl (0, 48, Pi1)))) (xD 48 g_10) ((.inr (.inl (0, 48, Pi3)))) ((.inr (.inl (0, 48, Pi4)))))) hH rfl (tcLoose (j := 14) rfl (by omega)) rfl))⟩)
  · skip
    have r_16 : 1 ≤ z_4.toInt ∧ z_4.toInt ≤ 4000 := by have h9_ := f_11; omega
    refine lv_bipush (v := (-2)) F.1 F.2.1 dX6_tell_25 (by decide) ?_
    refine topK (a := (-2)) (by decide) (fun k_25 hk_25 => ?_)
    refine lv_iload_n F.1 F.2.1 dX6_tell_27 rfl (lv_at hl 0 rfl) ?_
    refine tSub (lo := (-4002)) (hi := (-3)) F dX6_tell_28 (eqb hk_25) r_16 rfl (fun z_26 hz_26 => ?_)
    exact txI F hS dX6_tell_29 rfl (⟨g_5, (by omega), g_6, (by omega), g_8, hg_8, g_9, hg_9, g_10, hg_10, (wkb hz_26.2 rfl rfl), (by omega), (by obtain ⟨R0_, S0_, h1_, h2_, h3_⟩ := f_12; exact ⟨R0_, S0_, tell_f h1_ (by omega) (by omega), h3_⟩), (by rw [tlr_n (x := z_26.toInt) (a := 26) (b := 27) (by omega), tlr_n (x := z_26.toInt) (a := 27) (b := 26) (by omega)]; exact (TH.loose (t := 27) (TB1 := (tbC (dayD (.inl (0, 18))) (dayD (.inl (0, 18))) (riverD (.inl Fa1) (.inl Fb1) (.inl (0, 4)) 31 33 35 39 43 47) (riverD (.inl (g_5, g_5)) (.inl (g_6, g_6)) (.inl (0, 4)) 32 34 36 40 44 48) (rcD (.inl (0, 0)) (.inr [26]) (.inr [27]) (.inl kb)) (rdD (.inl (0, 400)) (.inl (0, 400)) (.inl (0, 4000)) (.inl (0, 1)) (.inr [26, 27])) (xB 400 T) A14F A14F A4F A4F A14F A14F (riverD (.inl Fa3) (.inl Fb3) (.inl (0, 4)) 3 8 3 41 45 49) (riverD (.inl Fa4) (.inl Fb4) (.inl (0, 4)) 3 8 3 42 46 50) ((.inr (.inl (0, 12, Pd1)))) (xD 12 g_8) ((.inr (.inl (0, 12, Pd3)))) ((.inr (.inl (0, 12, Pd4)))) ((.inr (.inl (0, 12, Ps1)))) (xD 12 g_9) ((.inr (.inl (0, 12, Ps3)))) ((.inr (.inl (0, 12, Ps4)))) ((.inr (.inl (0, 48, Pi1)))) (xD 48 g_10) ((.inr (.inl (0, 48, Pi3)))) ((.inr (.inl (0, 48, Pi4)))))) hH rfl (tcLoose (j := 14) rfl (by omega)) rfl))⟩)
set_option maxHeartbeats 4000000 in
set_option maxRecDepth 100000 in
theorem c_X6_putNumber (E : Ev) (dA : TD) (dB : TD) (rA : TD) (rB : TD) (rd : TD) (ya : TD) (yb : TD) (yc : TD) (yd : TD) (ye : TD) (yf : TD) (rC : TD) (rD : TD) (wd1 : TD) (wd2 : TD) (wd3 : TD) (wd4 : TD) (ws1 : TD) (ws2 : TD) (ws3 : TD) (ws4 : TD) (wi1 : TD) (wi2 : TD) (wi3 : TD) (wi4 : TD) (kb : Int × Int) (kr : List Nat) (ks : List Nat) (t : Int) (T : Nat → Int32) (a0 : Nat) (a1 : Int32) (ha0 : eT E a0 ∈ [28]) (ht : 0 ≤ t ∧ t ≤ 396) (hT : ivP 400 (-128) 127 T) (hkr : ∀ t ∈ kr, t ∈ [26, 27]) (hks : ∀ t ∈ ks, t ∈ [26, 27]) : TcV E yX6_putNumber cX6_putNumber 3 ({ frames := 1, cells := 0, slots := 0, locals := 40 }) [.ref a0, .int a1] (fun H => TH E (tbC dA dB rA rB (rcD (.inl (t, t)) (.inr kr) (.inr ks) (.inl kb)) rd (xB 400 T) ya yb yc yd ye yf rC rD wd1 wd2 wd3 wd4 ws1 ws2 ws3 ws4 wi1 wi2 wi3 wi4) H) (fun H => ∃ T2 : Nat → Int32, (ivP 400 (-128) 127 T2 ∧ T2 = putF T t a1 4) ∧ TH E (tbC dA dB rA rB (rcD (.inl ((t + 4), (t + 4))) (.inr kr) (.inr ks) (.inl kb)) rd (xB 400 T2) ya yb yc yd ye yf rC rD wd1 wd2 wd3 wd4 ws1 ws2 ws3 ws4 wi1 wi2 wi3 wi4) H) := by
  refine teV (by decide) (Nat.le_of_ble_eq_true rfl) ?_
  intro p_ ev_ s mi_ below_ meth cd_ ls F hK hN hO hH hS hl
  have hH : TH E (tbC dA dB rA rB (rcD (.inl (t, t)) (.inr kr) (.inr ks) (.inl kb)) rd (xB 400 T) ya yb yc yd ye yf rC rD wd1 wd2 wd3 wd4 ws1 ws2 ws3 ws4 wi1 wi2 wi3 wi4) s.heap := hH
  have hl : lv_has ls 3 [(0, .ref a0), (1, .int a1)] := hl
  refine lv_bipush (v := 24) F.1 F.2.1 dX6_putNumber_0 (by decide) ?_
  refine topK (a := 24) (by decide) (fun k_1 hk_1 => ?_)
  refine lv_istore_n (lv' := [(2, .int k_1), (0, .ref a0), (1, .int a1)]) F.1 F.2.1 dX6_putNumber_2 rfl hl (by decide) rfl (fun ls hl => ?_)
  refine wloop (σ := Int32 × Int × (Nat → Int32)) (fun n9 x9 H locs ls => (x9.1.toInt - (-8) + 1).toNat < n9 ∧ ((-8) ≤ x9.1.toInt ∧ x9.1.toInt ≤ 24) ∧ (0 ≤ x9.2.1 ∧ x9.2.1 ≤ 400) ∧ (ivP 400 (-128) 127 x9.2.2) ∧ (8 * x9.2.1 + x9.1.toInt = 8 * t + 24) ∧ (x9.2.2 = putF T t a1 (x9.2.1 - t)) ∧ TH E (tbC dA dB rA rB (rcD (.inl (x9.2.1, x9.2.1)) (.inr kr) (.inr ks) (.inl kb)) rd (xB 400 x9.2.2) ya yb yc yd ye yf rC rD wd1 wd2 wd3 wd4 ws1 ws2 ws3 ws4 wi1 wi2 wi3 wi4) H ∧ va_S (eA E s.heap.size) s.heap H locs ∧ lv_has ls 3 [(0, .ref a0), (1, .int a1), (2, .int x9.1)]) ?_ (fun x9 H locs ls h => absurd h.1 (Nat.not_lt_zero _)) _ (k_1, t, T) ⟨Nat.lt_succ_self _, (wkb (eqb hk_1) rfl rfl), (show 0 ≤ t ∧ t ≤ 400 from by omega), hT, (show 8 * t + k_1.toInt = 8 * t + 24 from by omega), (show T = putF T t a1 (t - t) from (put_0 (by omega))), hH, hS, lv_sub hl [1, 2, 0] rfl⟩
  intro n_3 ih_3 ⟨u_2, g_3, G_4⟩ H locs ls ⟨hm_3, hu_2, hg_3, hG_4, hcr3_0, hcr3_1, hH, hS, hl⟩
  have hm_3 : (u_2.toInt - (-8) + 1).toNat < n_3 + 1 := hm_3
  have hu_2 : ((-8) ≤ u_2.toInt ∧ u_2.toInt ≤ 24) := hu_2
  have hg_3 : (0 ≤ g_3 ∧ g_3 ≤ 400) := hg_3
  have hG_4 : (ivP 400 (-128) 127 G_4) := hG_4
  have hcr3_0 : (8 * g_3 + u_2.toInt = 8 * t + 24) := hcr3_0
  have hcr3_1 : (G_4 = putF T t a1 (g_3 - t)) := hcr3_1
  have hH : TH E (tbC dA dB rA rB (rcD (.inl (g_3, g_3)) (.inr kr) (.inr ks) (.inl kb)) rd (xB 400 G_4) ya yb yc yd ye yf rC rD wd1 wd2 wd3 wd4 ws1 ws2 ws3 ws4 wi1 wi2 wi3 wi4) H := hH
  have hl : lv_has ls 3 [(0, .ref a0), (1, .int a1), (2, .int u_2)] := hl
  refine lv_iload_n F.1 F.2.1 dX6_putNumber_3 rfl (lv_at hl 2 rfl) ?_
  refine z_lt (tgt := 46) F dX6_putNumber_4 (by decide) (fun c_5 => ?_) (fun c_5 => ?_)
  · skip
    have r_6 : (-8) ≤ u_2.toInt ∧ u_2.toInt ≤ (-1) := by have h9_ := hu_2; omega
    have e_8 : g_3 = (t + 4) := by omega
    rw [e_8] at hH
    exact txV F hS dX6_putNumber_46 (⟨G_4, ⟨hG_4, (put_end hcr3_1 (by omega))⟩, hH⟩)
  · skip
    have r_7 : 0 ≤ u_2.toInt ∧ u_2.toInt ≤ 24 := by have h9_ := hu_2; omega
    refine lv_aload_n F.1 F.2.1 dX6_putNumber_7 rfl (lv_at hl 0 rfl) ?_
    refine tGetI (j := 1) F hK hH (tyb ha0 (all1 rfl)) rfl clX6 (by decide) wd_7_12 dX6_putNumber_8 (fun z_9 hz_9 => ?_)
    have ez_9 : 0 ≤ z_9.toInt ∧ z_9.toInt ≤ 400 := by omega
    refine lv_sipush (v := 400) F.1 F.2.1 dX6_putNumber_11 (by decide) ?_
    refine topK (a := 400) (by decide) (fun k_10 hk_10 => ?_)
    refine b_ge (tgt := 40) F dX6_putNumber_14 (by decide) (fun c_11 => absurd c_11 (by omega)) (fun c_11 => ?_)
    have r_12 : 0 ≤ z_9.toInt ∧ z_9.toInt ≤ 399 := by have h9_ := ez_9; omega
    refine lv_aload_n F.1 F.2.1 dX6_putNumber_17 rfl (lv_at hl 0 rfl) ?_
    refine tGetR (j := 0) F hK hH (tyb ha0 (all1 rfl)) rfl (all1 rfl) clX6 (by decide) wd_1_13 dX6_putNumber_18 (fun q_13 hq_13 _ => ?_)
    refine lv_aload_n F.1 F.2.1 dX6_putNumber_21 rfl (lv_at hl 0 rfl) ?_
    refine tGetI (j := 1) F hK hH (tyb ha0 (all1 rfl)) rfl clX6 (by decide) wd_7_12 dX6_putNumber_22 (fun z_14 hz_14 => ?_)
    have ez_14 : 0 ≤ z_14.toInt ∧ z_14.toInt ≤ 399 := by omega
    refine lv_iload_n F.1 F.2.1 dX6_putNumber_25 rfl (lv_at hl 1 rfl) ?_
    refine lv_iload_n F.1 F.2.1 dX6_putNumber_26 rfl (lv_at hl 2 rfl) ?_
    refine lv_iushr F.1 F.2.1 dX6_putNumber_27 rfl ?_
    refine topE (fun z_15 xz_15 => ?_)
    refine lv_i2b F.1 F.2.1 dX6_putNumber_28 rfl ?_
    refine topE (fun z_16 xz_16 => ?_)
    refine tBastX (t := 30) F hK hH hS (List.mem_singleton.mp hq_13) (by decide) rfl (ixb (n := 400) ez_14 rfl rfl) dX6_putNumber_29 (fun G_17 eG_17 H locs hH hS => ?_)
    have hH : TH E (tbC dA dB rA rB (rcD (.inl (g_3, g_3)) (.inr kr) (.inr ks) (.inl kb)) rd (xB 400 G_17) ya yb yc yd ye yf rC rD wd1 wd2 wd3 wd4 ws1 ws2 ws3 ws4 wi1 wi2 wi3 wi4) H := hH
    have hG_17 : ivP 400 (-128) 127 G_17 := (ivP_updE hG_4 eG_17 (narB _))
    refine lv_aload_n F.1 F.2.1 dX6_putNumber_30 rfl (lv_at hl 0 rfl) ?_
    refine lv_dup F.1 F.2.1 dX6_putNumber_31 rfl ?_
    refine tGetI (j := 1) F hK hH (tyb ha0 (all1 rfl)) rfl clX6 (by decide) wd_7_12 dX6_putNumber_32 (fun z_18 hz_18 => ?_)
    have ez_18 : 0 ≤ z_18.toInt ∧ z_18.toInt ≤ 399 := by omega
    refine lv_iconst (v := 1) F.1 F.2.1 dX6_putNumber_35 (by decide) ?_
    refine topK (a := 1) (by decide) (fun k_19 hk_19 => ?_)
    refine tAdd (lo := 1) (hi := 400) F dX6_putNumber_36 ez_18 (eqb hk_19) rfl (fun z_20 hz_20 => ?_)
    obtain ⟨g_21, hg_21⟩ : ∃ y : Int, z_20.toInt = y := ⟨_, rfl⟩
    have bg_21 : 1 ≤ g_21 ∧ g_21 ≤ 400 := by rw [← hg_21]; exact hz_20.2
    refine tPutG (j := 1) (t := 28) (fd := (.inl (g_21, g_21))) F hK hH hS (List.mem_singleton.mp ha0) (by decide) rfl rfl (fdI (by omega)) (TB1 := (tbC dA dB rA rB (rcD (.inl (g_21, g_21)) (.inr kr) (.inr ks) (.inl kb)) rd (xB 400 G_17) ya yb yc yd ye yf rC rD wd1 wd2 wd3 wd4 ws1 ws2 ws3 ws4 wi1 wi2 wi3 wi4)) rfl clX6 (by decide) wd_7_12 rfl rfl rfl rfl dX6_putNumber_37 (fun H locs hH hS => ?_)
    obtain ⟨x_22, ex_22, hx_22⟩ := iincB (c := (-8)) (lo := (-8)) (hi := 16) r_7 rfl
    refine lv_iinc (v := x_22) (lv' := [(2, .int x_22), (0, .ref a0), (1, .int a1)]) F.1 F.2.1 dX6_putNumber_40 hl (k := 2) rfl ex_22 (by decide) rfl (fun ls hl => ?_)
    refine lv_goto (tgt := 3) F.1 F.2.1 dX6_putNumber_43 (by decide) ?_
    exact ih_3 (x_22, g_21, G_17) _ _ _ ⟨(show (x_22.toInt - (-8) + 1).toNat < n_3 from by omega), (wkb hx_22.2 rfl rfl), (show 0 ≤ g_21 ∧ g_21 ≤ 400 from by omega), hG_17, (show 8 * g_21 + x_22.toInt = 8 * t + 24 from by omega), (show G_17 = putF T t a1 (g_21 - t) from (put_step hcr3_1 eG_17 (cls_byte xz_15 xz_16 (by omega) (by omega)) (by omega) (by omega) (by omega) (by omega))), hH, hS, lv_sub hl [1, 2, 0] rfl⟩
set_option maxHeartbeats 4000000 in
set_option maxRecDepth 100000 in
theorem c_X6_feed (E : Ev) (dA : TD) (dB : TD) (rA : TD) (rB : TD) (rd : TD) (ya : TD) (yb : TD) (yc : TD) (yd : TD) (ye : TD) (yf : TD) (rC : TD) (rD : TD) (wd1 : TD) (wd2 : TD) (wd3 : TD) (wd4 : TD) (ws1 : TD) (ws2 : TD) (ws3 : TD) (ws4 : TD) (wi1 : TD) (wi2 : TD) (wi3 : TD) (wi4 : TD) (kb : Int × Int) (kr : List Nat) (ks : List Nat) (t : Int) (T : Nat → Int32) (a0 : Nat) (a1 : Int32) (a2 : Int32) (a3 : Int32) (a4 : Int32) (a5 : Int32) (ha0 : eT E a0 ∈ [28]) (ht : 0 ≤ t ∧ t ≤ 400) (hT : ivP 400 (-128) 127 T) (hkr : ∀ t ∈ kr, t ∈ [26, 27]) (hks : ∀ t ∈ ks, t ∈ [26, 27]) : TcI E yX6_feed cX6_feed 6 .int ({ frames := 2, cells := 0, slots := 0, locals := 62 }) [.ref a0, .int a1, .int a2, .int a3, .int a4, .int a5] (fun H => TH E (tbC dA dB rA rB (rcD (.inl (t, t)) (.inr kr) (.inr ks) (.inl kb)) rd (xB 400 T) ya yb yc yd ye yf rC rD wd1 wd2 wd3 wd4 ws1 ws2 ws3 ws4 wi1 wi2 wi3 wi4) H) (fun v H => ∃ t2 : Int, (0 ≤ t2 ∧ t2 ≤ 400) ∧ ∃ T2 : Nat → Int32, (ivP 400 (-128) 127 T2 ∧ T2 = feedT T t a1 a2 a3 a4 a5) ∧ ((-2147483648) ≤ v.toInt ∧ v.toInt ≤ 2147483647) ∧ ((t + 20 ≤ 400 ∧ t2 = t + 20 ∧ v.toInt = t2) ∨ (400 < t + 20 ∧ t2 = t ∧ v.toInt = -1)) ∧ TH E (tbC dA dB rA rB (rcD (.inl (t2, t2)) (.inr kr) (.inr ks) (.inl kb)) rd (xB 400 T2) ya yb yc yd ye yf rC rD wd1 wd2 wd3 wd4 ws1 ws2 ws3 ws4 wi1 wi2 wi3 wi4) H) := by
  refine teI (by decide) (Nat.le_of_ble_eq_true rfl) ?_
  intro p_ ev_ s mi_ below_ meth cd_ ls F hK hN hO hH hS hl
  have hH : TH E (tbC dA dB rA rB (rcD (.inl (t, t)) (.inr kr) (.inr ks) (.inl kb)) rd (xB 400 T) ya yb yc yd ye yf rC rD wd1 wd2 wd3 wd4 ws1 ws2 ws3 ws4 wi1 wi2 wi3 wi4) s.heap := hH
  have hl : lv_has ls 6 [(0, .ref a0), (1, .int a1), (2, .int a2), (3, .int a3), (4, .int a4), (5, .int a5)] := hl
  refine lv_aload_n F.1 F.2.1 dX6_feed_0 rfl (lv_at hl 0 rfl) ?_
  refine tGetI (j := 1) F hK hH (tyb ha0 (all1 rfl)) rfl clX6 (by decide) wd_7_12 dX6_feed_1 (fun z_1 hz_1 => ?_)
  have ez_1 : 0 ≤ z_1.toInt ∧ z_1.toInt ≤ 400 := by omega
  refine lv_bipush (v := 20) F.1 F.2.1 dX6_feed_4 (by decide) ?_
  refine topK (a := 20) (by decide) (fun k_2 hk_2 => ?_)
  refine tAdd (lo := 20) (hi := 420) F dX6_feed_6 ez_1 (eqb hk_2) rfl (fun z_3 hz_3 => ?_)
  refine lv_sipush (v := 400) F.1 F.2.1 dX6_feed_7 (by decide) ?_
  refine topK (a := 400) (by decide) (fun k_4 hk_4 => ?_)
  refine b_le (tgt := 15) F dX6_feed_10 (by decide) (fun c_5 => ?_) (fun c_5 => ?_)
  · skip
    have r_6 : 20 ≤ z_3.toInt ∧ z_3.toInt ≤ 400 := by have h9_ := hz_3.2; omega
    refine lv_aload_n F.1 F.2.1 dX6_feed_15 rfl (lv_at hl 0 rfl) ?_
    refine lv_iload_n F.1 F.2.1 dX6_feed_16 rfl (lv_at hl 1 rfl) ?_
    refine tVv (b := a0) (As := [.int a1]) (rest := []) F hK hN hO (c_X6_putNumber E dA dB rA rB rd ya yb yc yd ye yf rC rD wd1 wd2 wd3 wd4 ws1 ws2 ws3 ws4 wi1 wi2 wi3 wi4 kb kr ks t T a0 a1 ha0 (by omega) hT hkr hks) mv_X6_putNumber wd_7_13 ⟨Nat.le_of_ble_eq_true rfl, Nat.le_of_ble_eq_true rfl⟩ ⟨Nat.le_of_ble_eq_true rfl, Nat.le_of_ble_eq_true rfl⟩ hH hS (tRecv hK hH (tyb ha0 (all1 rfl)) clX6) rfl hl.1 (Nat.le_of_ble_eq_true rfl) dX6_feed_17 (fun H locs hq hS => ?_)
    obtain ⟨g_9, hg_9, hH⟩ := hq
    have hH : TH E (tbC dA dB rA rB (rcD (.inl ((t + 4), (t + 4))) (.inr kr) (.inr ks) (.inl kb)) rd (xB 400 g_9) ya yb yc yd ye yf rC rD wd1 wd2 wd3 wd4 ws1 ws2 ws3 ws4 wi1 wi2 wi3 wi4) H := hH
    refine lv_aload_n F.1 F.2.1 dX6_feed_20 rfl (lv_at hl 0 rfl) ?_
    refine lv_iload_n F.1 F.2.1 dX6_feed_21 rfl (lv_at hl 2 rfl) ?_
    refine tVv (b := a0) (As := [.int a2]) (rest := []) F hK hN hO (c_X6_putNumber E dA dB rA rB rd ya yb yc yd ye yf rC rD wd1 wd2 wd3 wd4 ws1 ws2 ws3 ws4 wi1 wi2 wi3 wi4 kb kr ks (t + 4) g_9 a0 a2 ha0 (by omega) hg_9.1 hkr hks) mv_X6_putNumber wd_7_13 ⟨Nat.le_of_ble_eq_true rfl, Nat.le_of_ble_eq_true rfl⟩ ⟨Nat.le_of_ble_eq_true rfl, Nat.le_of_ble_eq_true rfl⟩ hH hS (tRecv hK hH (tyb ha0 (all1 rfl)) clX6) rfl hl.1 (Nat.le_of_ble_eq_true rfl) dX6_feed_22 (fun H locs hq hS => ?_)
    obtain ⟨g_11, hg_11, hH⟩ := hq
    have hH : TH E (tbC dA dB rA rB (rcD (.inl (((t + 4) + 4), ((t + 4) + 4))) (.inr kr) (.inr ks) (.inl kb)) rd (xB 400 g_11) ya yb yc yd ye yf rC rD wd1 wd2 wd3 wd4 ws1 ws2 ws3 ws4 wi1 wi2 wi3 wi4) H := hH
    refine lv_aload_n F.1 F.2.1 dX6_feed_25 rfl (lv_at hl 0 rfl) ?_
    refine lv_iload_n F.1 F.2.1 dX6_feed_26 rfl (lv_at hl 3 rfl) ?_
    refine tVv (b := a0) (As := [.int a3]) (rest := []) F hK hN hO (c_X6_putNumber E dA dB rA rB rd ya yb yc yd ye yf rC rD wd1 wd2 wd3 wd4 ws1 ws2 ws3 ws4 wi1 wi2 wi3 wi4 kb kr ks (((t + 4) + 4)) g_11 a0 a3 ha0 (by omega) hg_11.1 hkr hks) mv_X6_putNumber wd_7_13 ⟨Nat.le_of_ble_eq_true rfl, Nat.le_of_ble_eq_true rfl⟩ ⟨Nat.le_of_ble_eq_true rfl, Nat.le_of_ble_eq_true rfl⟩ hH hS (tRecv hK hH (tyb ha0 (all1 rfl)) clX6) rfl hl.1 (Nat.le_of_ble_eq_true rfl) dX6_feed_27 (fun H locs hq hS => ?_)
    obtain ⟨g_13, hg_13, hH⟩ := hq
    have hH : TH E (tbC dA dB rA rB (rcD (.inl ((((t + 4) + 4) + 4), (((t + 4) + 4) + 4))) (.inr kr) (.inr ks) (.inl kb)) rd (xB 400 g_13) ya yb yc yd ye yf rC rD wd1 wd2 wd3 wd4 ws1 ws2 ws3 ws4 wi1 wi2 wi3 wi4) H := hH
    refine lv_aload_n F.1 F.2.1 dX6_feed_30 rfl (lv_at hl 0 rfl) ?_
    refine lv_iload F.1 F.2.1 dX6_feed_31 (lv_at hl 4 rfl) ?_
    refine tVv (b := a0) (As := [.int a4]) (rest := []) F hK hN hO (c_X6_putNumber E dA dB rA rB rd ya yb yc yd ye yf rC rD wd1 wd2 wd3 wd4 ws1 ws2 ws3 ws4 wi1 wi2 wi3 wi4 kb kr ks ((((t + 4) + 4) + 4)) g_13 a0 a4 ha0 (by omega) hg_13.1 hkr hks) mv_X6_putNumber wd_7_13 ⟨Nat.le_of_ble_eq_true rfl, Nat.le_of_ble_eq_true rfl⟩ ⟨Nat.le_of_ble_eq_true rfl, Nat.le_of_ble_eq_true rfl⟩ hH hS (tRecv hK hH (tyb ha0 (all1 rfl)) clX6) rfl hl.1 (Nat.le_of_ble_eq_true rfl) dX6_feed_33 (fun H locs hq hS => ?_)
    obtain ⟨g_15, hg_15, hH⟩ := hq
    have hH : TH E (tbC dA dB rA rB (rcD (.inl (((((t + 4) + 4) + 4) + 4), ((((t + 4) + 4) + 4) + 4))) (.inr kr) (.inr ks) (.inl kb)) rd (xB 400 g_15) ya yb yc yd ye yf rC rD wd1 wd2 wd3 wd4 ws1 ws2 ws3 ws4 wi1 wi2 wi3 wi4) H := hH
    refine lv_aload_n F.1 F.2.1 dX6_feed_36 rfl (lv_at hl 0 rfl) ?_
    refine lv_iload F.1 F.2.1 dX6_feed_37 (lv_at hl 5 rfl) ?_
    refine tVv (b := a0) (As := [.int a5]) (rest := []) F hK hN hO (c_X6_putNumber E dA dB rA rB rd ya yb yc yd ye yf rC rD wd1 wd2 wd3 wd4 ws1 ws2 ws3 ws4 wi1 wi2 wi3 wi4 kb kr ks (((((t + 4) + 4) + 4) + 4)) g_15 a0 a5 ha0 (by omega) hg_15.1 hkr hks) mv_X6_putNumber wd_7_13 ⟨Nat.le_of_ble_eq_true rfl, Nat.le_of_ble_eq_true rfl⟩ ⟨Nat.le_of_ble_eq_true rfl, Nat.le_of_ble_eq_true rfl⟩ hH hS (tRecv hK hH (tyb ha0 (all1 rfl)) clX6) rfl hl.1 (Nat.le_of_ble_eq_true rfl) dX6_feed_39 (fun H locs hq hS => ?_)
    obtain ⟨g_17, hg_17, hH⟩ := hq
    have hH : TH E (tbC dA dB rA rB (rcD (.inl ((((((t + 4) + 4) + 4) + 4) + 4), (((((t + 4) + 4) + 4) + 4) + 4))) (.inr kr) (.inr ks) (.inl kb)) rd (xB 400 g_17) ya yb yc yd ye yf rC rD wd1 wd2 wd3 wd4 ws1 ws2 ws3 ws4 wi1 wi2 wi3 wi4) H := hH
    refine lv_aload_n F.1 F.2.1 dX6_feed_42 rfl (lv_at hl 0 rfl) ?_
    refine tGetI (j := 1) F hK hH (tyb ha0 (all1 rfl)) rfl clX6 (by decide) wd_7_12 dX6_feed_43 (fun z_18 hz_18 => ?_)
    have ez_18 : 20 ≤ z_18.toInt ∧ z_18.toInt ≤ 420 := by omega
    exact txI F hS dX6_feed_46 rfl (⟨(((((t + 4) + 4) + 4) + 4) + 4), (by omega), g_17, ⟨hg_17.1, (feed_yes hg_9.2 hg_11.2 hg_13.2 hg_15.2 hg_17.2 (by omega) (by omega) (by omega) (by omega) (by omega))⟩, (wkb ez_18 rfl rfl), (by omega), hH⟩)
  · skip
    have r_7 : 401 ≤ z_3.toInt ∧ z_3.toInt ≤ 420 := by have h9_ := hz_3.2; omega
    refine lv_iconst (v := (-1)) F.1 F.2.1 dX6_feed_13 (by decide) ?_
    refine topK (a := (-1)) (by decide) (fun k_19 hk_19 => ?_)
    exact txI F hS dX6_feed_14 rfl (⟨t, (by omega), T, ⟨hT, (feed_no (by omega))⟩, (wkb (eqb hk_19) rfl rfl), (by omega), hH⟩)
set_option maxHeartbeats 4000000 in
set_option maxRecDepth 100000 in
theorem c_X6_end (E : Ev) (dA : TD) (dB : TD) (rA : TD) (rB : TD) (rd : TD) (tp : TD) (ya : TD) (yb : TD) (yc : TD) (yd : TD) (ye : TD) (yf : TD) (rC : TD) (rD : TD) (wd1 : TD) (wd2 : TD) (wd3 : TD) (wd4 : TD) (ws1 : TD) (ws2 : TD) (ws3 : TD) (ws4 : TD) (wi1 : TD) (wi2 : TD) (wi3 : TD) (wi4 : TD) (kb : Int × Int) (kr : List Nat) (ks : List Nat) (t : Int) (a0 : Nat) (a1 : Int32) (ha0 : eT E a0 ∈ [28]) (ht : 0 ≤ t ∧ t ≤ 400) (hkr : ∀ t ∈ kr, t ∈ [26, 27]) (hks : ∀ t ∈ ks, t ∈ [26, 27]) : TcI E yX6_end cX6_end 2 .int ({ frames := 1, cells := 0, slots := 0, locals := 40 }) [.ref a0, .int a1] (fun H => TH E (tbC dA dB rA rB (rcD (.inl (t, t)) (.inr kr) (.inr ks) (.inl kb)) rd tp ya yb yc yd ye yf rC rD wd1 wd2 wd3 wd4 ws1 ws2 ws3 ws4 wi1 wi2 wi3 wi4) H) (fun v H => ∃ t2 : Int, (0 ≤ t2 ∧ t2 ≤ 400) ∧ ((-2147483648) ≤ v.toInt ∧ v.toInt ≤ 2147483647) ∧ ((0 ≤ a1.toInt ∧ a1.toInt ≤ t ∧ t2 = a1.toInt ∧ v.toInt = a1.toInt) ∨ ((a1.toInt < 0 ∨ t < a1.toInt) ∧ t2 = t ∧ v.toInt = -1)) ∧ TH E (tbC dA dB rA rB (rcD (.inl (t2, t2)) (.inr kr) (.inr ks) (.inl kb)) rd tp ya yb yc yd ye yf rC rD wd1 wd2 wd3 wd4 ws1 ws2 ws3 ws4 wi1 wi2 wi3 wi4) H) := by
  refine teI (by decide) (Nat.le_of_ble_eq_true rfl) ?_
  intro p_ ev_ s mi_ below_ meth cd_ ls F hK hN hO hH hS hl
  have hH : TH E (tbC dA dB rA rB (rcD (.inl (t, t)) (.inr kr) (.inr ks) (.inl kb)) rd tp ya yb yc yd ye yf rC rD wd1 wd2 wd3 wd4 ws1 ws2 ws3 ws4 wi1 wi2 wi3 wi4) s.heap := hH
  have hl : lv_has ls 2 [(0, .ref a0), (1, .int a1)] := hl
  refine lv_iload_n F.1 F.2.1 dX6_end_0 rfl (lv_at hl 1 rfl) ?_
  refine z_lt (tgt := 12) F dX6_end_1 (by decide) (fun c_1 => ?_) (fun c_1 => ?_)
  · skip
    have r_2 : (-2147483648) ≤ a1.toInt ∧ a1.toInt ≤ (-1) := by have h9_ := (i32b a1); omega
    refine lv_iconst (v := (-1)) F.1 F.2.1 dX6_end_12 (by decide) ?_
    refine topK (a := (-1)) (by decide) (fun k_4 hk_4 => ?_)
    exact txI F hS dX6_end_13 rfl (⟨t, (by omega), (wkb (eqb hk_4) rfl rfl), (by omega), hH⟩)
  · skip
    have r_3 : 0 ≤ a1.toInt ∧ a1.toInt ≤ 2147483647 := by have h9_ := (i32b a1); omega
    refine lv_iload_n F.1 F.2.1 dX6_end_4 rfl (lv_at hl 1 rfl) ?_
    refine lv_aload_n F.1 F.2.1 dX6_end_5 rfl (lv_at hl 0 rfl) ?_
    refine tGetI (j := 1) F hK hH (tyb ha0 (all1 rfl)) rfl clX6 (by decide) wd_7_12 dX6_end_6 (fun z_5 hz_5 => ?_)
    have ez_5 : 0 ≤ z_5.toInt ∧ z_5.toInt ≤ 400 := by omega
    refine b_le (tgt := 14) F dX6_end_9 (by decide) (fun c_6 => ?_) (fun c_6 => ?_)
    · skip
      have r_7 : 0 ≤ a1.toInt ∧ a1.toInt ≤ 400 := by have h9_ := r_3; omega
      refine lv_aload_n F.1 F.2.1 dX6_end_14 rfl (lv_at hl 0 rfl) ?_
      refine lv_iload_n F.1 F.2.1 dX6_end_15 rfl (lv_at hl 1 rfl) ?_
      obtain ⟨g_9, hg_9⟩ : ∃ y : Int, a1.toInt = y := ⟨_, rfl⟩
      have bg_9 : 0 ≤ g_9 ∧ g_9 ≤ 400 := by rw [← hg_9]; exact r_7
      refine tPutG (j := 1) (t := 28) (fd := (.inl (g_9, g_9))) F hK hH hS (List.mem_singleton.mp ha0) (by decide) rfl rfl (fdI (by omega)) (TB1 := (tbC dA dB rA rB (rcD (.inl (g_9, g_9)) (.inr kr) (.inr ks) (.inl kb)) rd tp ya yb yc yd ye yf rC rD wd1 wd2 wd3 wd4 ws1 ws2 ws3 ws4 wi1 wi2 wi3 wi4)) rfl clX6 (by decide) wd_7_12 rfl rfl rfl rfl dX6_end_16 (fun H locs hH hS => ?_)
      refine lv_iload_n F.1 F.2.1 dX6_end_19 rfl (lv_at hl 1 rfl) ?_
      exact txI F hS dX6_end_20 rfl (⟨g_9, (by omega), (wkb r_7 rfl rfl), (by omega), hH⟩)
    · skip
      have r_8 : 1 ≤ a1.toInt ∧ a1.toInt ≤ 2147483647 := by have h9_ := r_3; omega
      refine lv_iconst (v := (-1)) F.1 F.2.1 dX6_end_12 (by decide) ?_
      refine topK (a := (-1)) (by decide) (fun k_10 hk_10 => ?_)
      exact txI F hS dX6_end_13 rfl (⟨t, (by omega), (wkb (eqb hk_10) rfl rfl), (by omega), hH⟩)
