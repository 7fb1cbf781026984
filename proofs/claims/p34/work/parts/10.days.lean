theorem dX6_copyRow_0 : decode cX6_copyRow 0 = .ok (.aload_n 0, 1) := by decide +kernel
theorem dX6_copyRow_1 : decode cX6_copyRow 1 = .ok (.iconst 0, 1) := by decide +kernel
theorem dX6_copyRow_2 : decode cX6_copyRow 2 = .ok (.aload_n 1, 1) := by decide +kernel
theorem dX6_copyRow_3 : decode cX6_copyRow 3 = .ok (.iconst 0, 1) := by decide +kernel
theorem dX6_copyRow_4 : decode cX6_copyRow 4 = .ok (.aload_n 0, 1) := by decide +kernel
theorem dX6_copyRow_5 : decode cX6_copyRow 5 = .ok (.arraylength, 1) := by decide +kernel
theorem dX6_copyRow_6 : decode cX6_copyRow 6 = .ok (.aload_n 1, 1) := by decide +kernel
theorem dX6_copyRow_7 : decode cX6_copyRow 7 = .ok (.arraylength, 1) := by decide +kernel
theorem dX6_copyRow_8 : decode cX6_copyRow 8 = .ok (.invokestatic 172, 3) := by decide +kernel
theorem dX6_copyRow_11 : decode cX6_copyRow 11 = .ok (.invokestatic 410, 3) := by decide +kernel
theorem dX6_copyRow_14 : decode cX6_copyRow 14 = .ok (.return_, 1) := by decide +kernel
theorem dX2_runsTo_0 : decode cX2_runsTo 0 = .ok (.iload_n 1, 1) := by decide +kernel
theorem dX2_runsTo_1 : decode cX2_runsTo 1 = .ok (.istore_n 3, 1) := by decide +kernel
theorem dX2_runsTo_2 : decode cX2_runsTo 2 = .ok (.iconst 0, 1) := by decide +kernel
theorem dX2_runsTo_3 : decode cX2_runsTo 3 = .ok (.istore 4, 2) := by decide +kernel
theorem dX2_runsTo_5 : decode cX2_runsTo 5 = .ok (.iload 4, 2) := by decide +kernel
theorem dX2_runsTo_7 : decode cX2_runsTo 7 = .ok (.bipush 12, 2) := by decide +kernel
theorem dX2_runsTo_9 : decode cX2_runsTo 9 = .ok (.if_icmp .ge 27, 3) := by decide +kernel
theorem dX2_runsTo_12 : decode cX2_runsTo 12 = .ok (.iload_n 3, 1) := by decide +kernel
theorem dX2_runsTo_13 : decode cX2_runsTo 13 = .ok (.ifCond .lt 23, 3) := by decide +kernel
theorem dX2_runsTo_16 : decode cX2_runsTo 16 = .ok (.iload_n 3, 1) := by decide +kernel
theorem dX2_runsTo_17 : decode cX2_runsTo 17 = .ok (.iload_n 2, 1) := by decide +kernel
theorem dX2_runsTo_18 : decode cX2_runsTo 18 = .ok (.if_icmp .ne 5, 3) := by decide +kernel
theorem dX2_runsTo_21 : decode cX2_runsTo 21 = .ok (.iconst 1, 1) := by decide +kernel
theorem dX2_runsTo_22 : decode cX2_runsTo 22 = .ok (.ireturn, 1) := by decide +kernel
theorem dX2_runsTo_23 : decode cX2_runsTo 23 = .ok (.aload_n 0, 1) := by decide +kernel
theorem dX2_runsTo_24 : decode cX2_runsTo 24 = .ok (.getfield 9, 3) := by decide +kernel
theorem dX2_runsTo_27 : decode cX2_runsTo 27 = .ok (.iload_n 3, 1) := by decide +kernel
theorem dX2_runsTo_28 : decode cX2_runsTo 28 = .ok (.iaload, 1) := by decide +kernel
theorem dX2_runsTo_29 : decode cX2_runsTo 29 = .ok (.istore_n 3, 1) := by decide +kernel
theorem dX2_runsTo_30 : decode cX2_runsTo 30 = .ok (.iinc 4 1, 3) := by decide +kernel
theorem dX2_runsTo_33 : decode cX2_runsTo 33 = .ok (.goto (-28), 3) := by decide +kernel
theorem dX2_runsTo_36 : decode cX2_runsTo 36 = .ok (.iconst 0, 1) := by decide +kernel
theorem dX2_runsTo_37 : decode cX2_runsTo 37 = .ok (.ireturn, 1) := by decide +kernel
theorem dX2_countToMouth_0 : decode cX2_countToMouth 0 = .ok (.iload_n 1, 1) := by decide +kernel
theorem dX2_countToMouth_1 : decode cX2_countToMouth 1 = .ok (.istore_n 2, 1) := by decide +kernel
theorem dX2_countToMouth_2 : decode cX2_countToMouth 2 = .ok (.iconst 0, 1) := by decide +kernel
theorem dX2_countToMouth_3 : decode cX2_countToMouth 3 = .ok (.istore_n 3, 1) := by decide +kernel
theorem dX2_countToMouth_4 : decode cX2_countToMouth 4 = .ok (.iconst 0, 1) := by decide +kernel
theorem dX2_countToMouth_5 : decode cX2_countToMouth 5 = .ok (.istore 4, 2) := by decide +kernel
theorem dX2_countToMouth_7 : decode cX2_countToMouth 7 = .ok (.iload 4, 2) := by decide +kernel
theorem dX2_countToMouth_9 : decode cX2_countToMouth 9 = .ok (.bipush 12, 2) := by decide +kernel
theorem dX2_countToMouth_11 : decode cX2_countToMouth 11 = .ok (.if_icmp .ge 23, 3) := by decide +kernel
theorem dX2_countToMouth_14 : decode cX2_countToMouth 14 = .ok (.iload_n 2, 1) := by decide +kernel
theorem dX2_countToMouth_15 : decode cX2_countToMouth 15 = .ok (.ifCond .lt 19, 3) := by decide +kernel
theorem dX2_countToMouth_18 : decode cX2_countToMouth 18 = .ok (.iinc 3 1, 3) := by decide +kernel
theorem dX2_countToMouth_21 : decode cX2_countToMouth 21 = .ok (.aload_n 0, 1) := by decide +kernel
theorem dX2_countToMouth_22 : decode cX2_countToMouth 22 = .ok (.getfield 9, 3) := by decide +kernel
theorem dX2_countToMouth_25 : decode cX2_countToMouth 25 = .ok (.iload_n 2, 1) := by decide +kernel
theorem dX2_countToMouth_26 : decode cX2_countToMouth 26 = .ok (.iaload, 1) := by decide +kernel
theorem dX2_countToMouth_27 : decode cX2_countToMouth 27 = .ok (.istore_n 2, 1) := by decide +kernel
theorem dX2_countToMouth_28 : decode cX2_countToMouth 28 = .ok (.iinc 4 1, 3) := by decide +kernel
theorem dX2_countToMouth_31 : decode cX2_countToMouth 31 = .ok (.goto (-24), 3) := by decide +kernel
theorem dX2_countToMouth_34 : decode cX2_countToMouth 34 = .ok (.iload_n 3, 1) := by decide +kernel
theorem dX2_countToMouth_35 : decode cX2_countToMouth 35 = .ok (.ireturn, 1) := by decide +kernel
theorem dX2_countInto_0 : decode cX2_countInto 0 = .ok (.iconst 0, 1) := by decide +kernel
theorem dX2_countInto_1 : decode cX2_countInto 1 = .ok (.istore_n 2, 1) := by decide +kernel
theorem dX2_countInto_2 : decode cX2_countInto 2 = .ok (.iconst 0, 1) := by decide +kernel
theorem dX2_countInto_3 : decode cX2_countInto 3 = .ok (.istore_n 3, 1) := by decide +kernel
theorem dX2_countInto_4 : decode cX2_countInto 4 = .ok (.iload_n 3, 1) := by decide +kernel
theorem dX2_countInto_5 : decode cX2_countInto 5 = .ok (.aload_n 0, 1) := by decide +kernel
theorem dX2_countInto_6 : decode cX2_countInto 6 = .ok (.getfield 64, 3) := by decide +kernel
theorem dX2_countInto_9 : decode cX2_countInto 9 = .ok (.if_icmp .ge 22, 3) := by decide +kernel
theorem dX2_countInto_12 : decode cX2_countInto 12 = .ok (.aload_n 0, 1) := by decide +kernel
theorem dX2_countInto_13 : decode cX2_countInto 13 = .ok (.getfield 9, 3) := by decide +kernel
theorem dX2_countInto_16 : decode cX2_countInto 16 = .ok (.iload_n 3, 1) := by decide +kernel
theorem dX2_countInto_17 : decode cX2_countInto 17 = .ok (.iaload, 1) := by decide +kernel
theorem dX2_countInto_18 : decode cX2_countInto 18 = .ok (.iload_n 1, 1) := by decide +kernel
theorem dX2_countInto_19 : decode cX2_countInto 19 = .ok (.if_icmp .ne 6, 3) := by decide +kernel
theorem dX2_countInto_22 : decode cX2_countInto 22 = .ok (.iinc 2 1, 3) := by decide +kernel
theorem dX2_countInto_25 : decode cX2_countInto 25 = .ok (.iinc 3 1, 3) := by decide +kernel
theorem dX2_countInto_28 : decode cX2_countInto 28 = .ok (.goto (-24), 3) := by decide +kernel
theorem dX2_countInto_31 : decode cX2_countInto 31 = .ok (.iload_n 2, 1) := by decide +kernel
theorem dX2_countInto_32 : decode cX2_countInto 32 = .ok (.ireturn, 1) := by decide +kernel
theorem dX2_copyOf_0 : decode cX2_copyOf 0 = .ok (.aload_n 0, 1) := by decide +kernel
theorem dX2_copyOf_1 : decode cX2_copyOf 1 = .ok (.aload_n 1, 1) := by decide +kernel
theorem dX2_copyOf_2 : decode cX2_copyOf 2 = .ok (.getfield 64, 3) := by decide +kernel
theorem dX2_copyOf_5 : decode cX2_copyOf 5 = .ok (.putfield 64, 3) := by decide +kernel
theorem dX2_copyOf_8 : decode cX2_copyOf 8 = .ok (.aload_n 0, 1) := by decide +kernel
theorem dX2_copyOf_9 : decode cX2_copyOf 9 = .ok (.aload_n 1, 1) := by decide +kernel
theorem dX2_copyOf_10 : decode cX2_copyOf 10 = .ok (.getfield 67, 3) := by decide +kernel
theorem dX2_copyOf_13 : decode cX2_copyOf 13 = .ok (.putfield 67, 3) := by decide +kernel
theorem dX2_copyOf_16 : decode cX2_copyOf 16 = .ok (.aload_n 0, 1) := by decide +kernel
theorem dX2_copyOf_17 : decode cX2_copyOf 17 = .ok (.aload_n 1, 1) := by decide +kernel
theorem dX2_copyOf_18 : decode cX2_copyOf 18 = .ok (.getfield 70, 3) := by decide +kernel
theorem dX2_copyOf_21 : decode cX2_copyOf 21 = .ok (.putfield 70, 3) := by decide +kernel
theorem dX2_copyOf_24 : decode cX2_copyOf 24 = .ok (.aload_n 0, 1) := by decide +kernel
theorem dX2_copyOf_25 : decode cX2_copyOf 25 = .ok (.aload_n 1, 1) := by decide +kernel
theorem dX2_copyOf_26 : decode cX2_copyOf 26 = .ok (.getfield 60, 3) := by decide +kernel
theorem dX2_copyOf_29 : decode cX2_copyOf 29 = .ok (.putfield 60, 3) := by decide +kernel
theorem dX2_copyOf_32 : decode cX2_copyOf 32 = .ok (.aload_n 1, 1) := by decide +kernel
theorem dX2_copyOf_33 : decode cX2_copyOf 33 = .ok (.getfield 9, 3) := by decide +kernel
theorem dX2_copyOf_36 : decode cX2_copyOf 36 = .ok (.aload_n 0, 1) := by decide +kernel
theorem dX2_copyOf_37 : decode cX2_copyOf 37 = .ok (.getfield 9, 3) := by decide +kernel
theorem dX2_copyOf_40 : decode cX2_copyOf 40 = .ok (.invokestatic 73, 3) := by decide +kernel
theorem dX2_copyOf_43 : decode cX2_copyOf 43 = .ok (.aload_n 1, 1) := by decide +kernel
theorem dX2_copyOf_44 : decode cX2_copyOf 44 = .ok (.getfield 15, 3) := by decide +kernel
theorem dX2_copyOf_47 : decode cX2_copyOf 47 = .ok (.aload_n 0, 1) := by decide +kernel
theorem dX2_copyOf_48 : decode cX2_copyOf 48 = .ok (.getfield 15, 3) := by decide +kernel
theorem dX2_copyOf_51 : decode cX2_copyOf 51 = .ok (.invokestatic 73, 3) := by decide +kernel
theorem dX2_copyOf_54 : decode cX2_copyOf 54 = .ok (.aload_n 1, 1) := by decide +kernel
theorem dX2_copyOf_55 : decode cX2_copyOf 55 = .ok (.getfield 18, 3) := by decide +kernel
theorem dX2_copyOf_58 : decode cX2_copyOf 58 = .ok (.aload_n 0, 1) := by decide +kernel
theorem dX2_copyOf_59 : decode cX2_copyOf 59 = .ok (.getfield 18, 3) := by decide +kernel
theorem dX2_copyOf_62 : decode cX2_copyOf 62 = .ok (.invokestatic 73, 3) := by decide +kernel
theorem dX2_copyOf_65 : decode cX2_copyOf 65 = .ok (.aload_n 1, 1) := by decide +kernel
theorem dX2_copyOf_66 : decode cX2_copyOf 66 = .ok (.getfield 21, 3) := by decide +kernel
theorem dX2_copyOf_69 : decode cX2_copyOf 69 = .ok (.aload_n 0, 1) := by decide +kernel
theorem dX2_copyOf_70 : decode cX2_copyOf 70 = .ok (.getfield 21, 3) := by decide +kernel
theorem dX2_copyOf_73 : decode cX2_copyOf 73 = .ok (.invokestatic 73, 3) := by decide +kernel
theorem dX2_copyOf_76 : decode cX2_copyOf 76 = .ok (.aload_n 1, 1) := by decide +kernel
theorem dX2_copyOf_77 : decode cX2_copyOf 77 = .ok (.getfield 24, 3) := by decide +kernel
theorem dX2_copyOf_80 : decode cX2_copyOf 80 = .ok (.aload_n 0, 1) := by decide +kernel
theorem dX2_copyOf_81 : decode cX2_copyOf 81 = .ok (.getfield 24, 3) := by decide +kernel
theorem dX2_copyOf_84 : decode cX2_copyOf 84 = .ok (.invokestatic 73, 3) := by decide +kernel
theorem dX2_copyOf_87 : decode cX2_copyOf 87 = .ok (.aload_n 1, 1) := by decide +kernel
theorem dX2_copyOf_88 : decode cX2_copyOf 88 = .ok (.getfield 27, 3) := by decide +kernel
theorem dX2_copyOf_91 : decode cX2_copyOf 91 = .ok (.aload_n 0, 1) := by decide +kernel
theorem dX2_copyOf_92 : decode cX2_copyOf 92 = .ok (.getfield 27, 3) := by decide +kernel
theorem dX2_copyOf_95 : decode cX2_copyOf 95 = .ok (.invokestatic 73, 3) := by decide +kernel
theorem dX2_copyOf_98 : decode cX2_copyOf 98 = .ok (.aload_n 1, 1) := by decide +kernel
theorem dX2_copyOf_99 : decode cX2_copyOf 99 = .ok (.getfield 30, 3) := by decide +kernel
theorem dX2_copyOf_102 : decode cX2_copyOf 102 = .ok (.aload_n 0, 1) := by decide +kernel
theorem dX2_copyOf_103 : decode cX2_copyOf 103 = .ok (.getfield 30, 3) := by decide +kernel
theorem dX2_copyOf_106 : decode cX2_copyOf 106 = .ok (.invokestatic 73, 3) := by decide +kernel
theorem dX2_copyOf_109 : decode cX2_copyOf 109 = .ok (.aload_n 1, 1) := by decide +kernel
theorem dX2_copyOf_110 : decode cX2_copyOf 110 = .ok (.getfield 33, 3) := by decide +kernel
theorem dX2_copyOf_113 : decode cX2_copyOf 113 = .ok (.aload_n 0, 1) := by decide +kernel
theorem dX2_copyOf_114 : decode cX2_copyOf 114 = .ok (.getfield 33, 3) := by decide +kernel
theorem dX2_copyOf_117 : decode cX2_copyOf 117 = .ok (.invokestatic 73, 3) := by decide +kernel
theorem dX2_copyOf_120 : decode cX2_copyOf 120 = .ok (.aload_n 1, 1) := by decide +kernel
theorem dX2_copyOf_121 : decode cX2_copyOf 121 = .ok (.getfield 36, 3) := by decide +kernel
theorem dX2_copyOf_124 : decode cX2_copyOf 124 = .ok (.aload_n 0, 1) := by decide +kernel
theorem dX2_copyOf_125 : decode cX2_copyOf 125 = .ok (.getfield 36, 3) := by decide +kernel
theorem dX2_copyOf_128 : decode cX2_copyOf 128 = .ok (.invokestatic 73, 3) := by decide +kernel
theorem dX2_copyOf_131 : decode cX2_copyOf 131 = .ok (.aload_n 1, 1) := by decide +kernel
theorem dX2_copyOf_132 : decode cX2_copyOf 132 = .ok (.getfield 39, 3) := by decide +kernel
theorem dX2_copyOf_135 : decode cX2_copyOf 135 = .ok (.aload_n 0, 1) := by decide +kernel
theorem dX2_copyOf_136 : decode cX2_copyOf 136 = .ok (.getfield 39, 3) := by decide +kernel
theorem dX2_copyOf_139 : decode cX2_copyOf 139 = .ok (.invokestatic 73, 3) := by decide +kernel
theorem dX2_copyOf_142 : decode cX2_copyOf 142 = .ok (.aload_n 1, 1) := by decide +kernel
theorem dX2_copyOf_143 : decode cX2_copyOf 143 = .ok (.getfield 42, 3) := by decide +kernel
theorem dX2_copyOf_146 : decode cX2_copyOf 146 = .ok (.aload_n 0, 1) := by decide +kernel
theorem dX2_copyOf_147 : decode cX2_copyOf 147 = .ok (.getfield 42, 3) := by decide +kernel
theorem dX2_copyOf_150 : decode cX2_copyOf 150 = .ok (.invokestatic 73, 3) := by decide +kernel
theorem dX2_copyOf_153 : decode cX2_copyOf 153 = .ok (.aload_n 1, 1) := by decide +kernel
theorem dX2_copyOf_154 : decode cX2_copyOf 154 = .ok (.getfield 45, 3) := by decide +kernel
theorem dX2_copyOf_157 : decode cX2_copyOf 157 = .ok (.aload_n 0, 1) := by decide +kernel
theorem dX2_copyOf_158 : decode cX2_copyOf 158 = .ok (.getfield 45, 3) := by decide +kernel
theorem dX2_copyOf_161 : decode cX2_copyOf 161 = .ok (.invokestatic 73, 3) := by decide +kernel
theorem dX2_copyOf_164 : decode cX2_copyOf 164 = .ok (.aload_n 1, 1) := by decide +kernel
theorem dX2_copyOf_165 : decode cX2_copyOf 165 = .ok (.getfield 48, 3) := by decide +kernel
theorem dX2_copyOf_168 : decode cX2_copyOf 168 = .ok (.aload_n 0, 1) := by decide +kernel
theorem dX2_copyOf_169 : decode cX2_copyOf 169 = .ok (.getfield 48, 3) := by decide +kernel
theorem dX2_copyOf_172 : decode cX2_copyOf 172 = .ok (.invokestatic 73, 3) := by decide +kernel
theorem dX2_copyOf_175 : decode cX2_copyOf 175 = .ok (.aload_n 1, 1) := by decide +kernel
theorem dX2_copyOf_176 : decode cX2_copyOf 176 = .ok (.getfield 51, 3) := by decide +kernel
theorem dX2_copyOf_179 : decode cX2_copyOf 179 = .ok (.aload_n 0, 1) := by decide +kernel
theorem dX2_copyOf_180 : decode cX2_copyOf 180 = .ok (.getfield 51, 3) := by decide +kernel
theorem dX2_copyOf_183 : decode cX2_copyOf 183 = .ok (.invokestatic 73, 3) := by decide +kernel
theorem dX2_copyOf_186 : decode cX2_copyOf 186 = .ok (.aload_n 1, 1) := by decide +kernel
theorem dX2_copyOf_187 : decode cX2_copyOf 187 = .ok (.getfield 54, 3) := by decide +kernel
theorem dX2_copyOf_190 : decode cX2_copyOf 190 = .ok (.aload_n 0, 1) := by decide +kernel
theorem dX2_copyOf_191 : decode cX2_copyOf 191 = .ok (.getfield 54, 3) := by decide +kernel
theorem dX2_copyOf_194 : decode cX2_copyOf 194 = .ok (.invokestatic 73, 3) := by decide +kernel
theorem dX2_copyOf_197 : decode cX2_copyOf 197 = .ok (.aload_n 1, 1) := by decide +kernel
theorem dX2_copyOf_198 : decode cX2_copyOf 198 = .ok (.getfield 57, 3) := by decide +kernel
theorem dX2_copyOf_201 : decode cX2_copyOf 201 = .ok (.aload_n 0, 1) := by decide +kernel
theorem dX2_copyOf_202 : decode cX2_copyOf 202 = .ok (.getfield 57, 3) := by decide +kernel
theorem dX2_copyOf_205 : decode cX2_copyOf 205 = .ok (.invokestatic 73, 3) := by decide +kernel
theorem dX2_copyOf_208 : decode cX2_copyOf 208 = .ok (.return_, 1) := by decide +kernel
theorem dX5_copyOf_0 : decode cX5_copyOf 0 = .ok (.aload_n 0, 1) := by decide +kernel
theorem dX5_copyOf_1 : decode cX5_copyOf 1 = .ok (.aload_n 1, 1) := by decide +kernel
theorem dX5_copyOf_2 : decode cX5_copyOf 2 = .ok (.getfield 50, 3) := by decide +kernel
theorem dX5_copyOf_5 : decode cX5_copyOf 5 = .ok (.putfield 50, 3) := by decide +kernel
theorem dX5_copyOf_8 : decode cX5_copyOf 8 = .ok (.aload_n 0, 1) := by decide +kernel
theorem dX5_copyOf_9 : decode cX5_copyOf 9 = .ok (.aload_n 1, 1) := by decide +kernel
theorem dX5_copyOf_10 : decode cX5_copyOf 10 = .ok (.getfield 9, 3) := by decide +kernel
theorem dX5_copyOf_13 : decode cX5_copyOf 13 = .ok (.putfield 9, 3) := by decide +kernel
theorem dX5_copyOf_16 : decode cX5_copyOf 16 = .ok (.aload_n 1, 1) := by decide +kernel
theorem dX5_copyOf_17 : decode cX5_copyOf 17 = .ok (.getfield 15, 3) := by decide +kernel
theorem dX5_copyOf_20 : decode cX5_copyOf 20 = .ok (.aload_n 0, 1) := by decide +kernel
theorem dX5_copyOf_21 : decode cX5_copyOf 21 = .ok (.getfield 15, 3) := by decide +kernel
theorem dX5_copyOf_24 : decode cX5_copyOf 24 = .ok (.invokestatic 59, 3) := by decide +kernel
theorem dX5_copyOf_27 : decode cX5_copyOf 27 = .ok (.aload_n 1, 1) := by decide +kernel
theorem dX5_copyOf_28 : decode cX5_copyOf 28 = .ok (.getfield 19, 3) := by decide +kernel
theorem dX5_copyOf_31 : decode cX5_copyOf 31 = .ok (.aload_n 0, 1) := by decide +kernel
theorem dX5_copyOf_32 : decode cX5_copyOf 32 = .ok (.getfield 19, 3) := by decide +kernel
theorem dX5_copyOf_35 : decode cX5_copyOf 35 = .ok (.invokestatic 59, 3) := by decide +kernel
theorem dX5_copyOf_38 : decode cX5_copyOf 38 = .ok (.aload_n 1, 1) := by decide +kernel
theorem dX5_copyOf_39 : decode cX5_copyOf 39 = .ok (.getfield 22, 3) := by decide +kernel
theorem dX5_copyOf_42 : decode cX5_copyOf 42 = .ok (.aload_n 0, 1) := by decide +kernel
theorem dX5_copyOf_43 : decode cX5_copyOf 43 = .ok (.getfield 22, 3) := by decide +kernel
theorem dX5_copyOf_46 : decode cX5_copyOf 46 = .ok (.invokestatic 59, 3) := by decide +kernel
theorem dX5_copyOf_49 : decode cX5_copyOf 49 = .ok (.aload_n 1, 1) := by decide +kernel
theorem dX5_copyOf_50 : decode cX5_copyOf 50 = .ok (.getfield 25, 3) := by decide +kernel
theorem dX5_copyOf_53 : decode cX5_copyOf 53 = .ok (.aload_n 0, 1) := by decide +kernel
theorem dX5_copyOf_54 : decode cX5_copyOf 54 = .ok (.getfield 25, 3) := by decide +kernel
theorem dX5_copyOf_57 : decode cX5_copyOf 57 = .ok (.invokestatic 59, 3) := by decide +kernel
theorem dX5_copyOf_60 : decode cX5_copyOf 60 = .ok (.aload_n 1, 1) := by decide +kernel
theorem dX5_copyOf_61 : decode cX5_copyOf 61 = .ok (.getfield 28, 3) := by decide +kernel
theorem dX5_copyOf_64 : decode cX5_copyOf 64 = .ok (.aload_n 0, 1) := by decide +kernel
theorem dX5_copyOf_65 : decode cX5_copyOf 65 = .ok (.getfield 28, 3) := by decide +kernel
theorem dX5_copyOf_68 : decode cX5_copyOf 68 = .ok (.invokestatic 59, 3) := by decide +kernel
theorem dX5_copyOf_71 : decode cX5_copyOf 71 = .ok (.aload_n 1, 1) := by decide +kernel
theorem dX5_copyOf_72 : decode cX5_copyOf 72 = .ok (.getfield 31, 3) := by decide +kernel
theorem dX5_copyOf_75 : decode cX5_copyOf 75 = .ok (.aload_n 0, 1) := by decide +kernel
theorem dX5_copyOf_76 : decode cX5_copyOf 76 = .ok (.getfield 31, 3) := by decide +kernel
theorem dX5_copyOf_79 : decode cX5_copyOf 79 = .ok (.invokestatic 59, 3) := by decide +kernel
theorem dX5_copyOf_82 : decode cX5_copyOf 82 = .ok (.aload_n 1, 1) := by decide +kernel
theorem dX5_copyOf_83 : decode cX5_copyOf 83 = .ok (.getfield 34, 3) := by decide +kernel
theorem dX5_copyOf_86 : decode cX5_copyOf 86 = .ok (.aload_n 0, 1) := by decide +kernel
theorem dX5_copyOf_87 : decode cX5_copyOf 87 = .ok (.getfield 34, 3) := by decide +kernel
theorem dX5_copyOf_90 : decode cX5_copyOf 90 = .ok (.invokestatic 59, 3) := by decide +kernel
theorem dX5_copyOf_93 : decode cX5_copyOf 93 = .ok (.aload_n 1, 1) := by decide +kernel
theorem dX5_copyOf_94 : decode cX5_copyOf 94 = .ok (.getfield 37, 3) := by decide +kernel
theorem dX5_copyOf_97 : decode cX5_copyOf 97 = .ok (.aload_n 0, 1) := by decide +kernel
theorem dX5_copyOf_98 : decode cX5_copyOf 98 = .ok (.getfield 37, 3) := by decide +kernel
theorem dX5_copyOf_101 : decode cX5_copyOf 101 = .ok (.invokestatic 59, 3) := by decide +kernel
theorem dX5_copyOf_104 : decode cX5_copyOf 104 = .ok (.aload_n 1, 1) := by decide +kernel
theorem dX5_copyOf_105 : decode cX5_copyOf 105 = .ok (.getfield 40, 3) := by decide +kernel
theorem dX5_copyOf_108 : decode cX5_copyOf 108 = .ok (.aload_n 0, 1) := by decide +kernel
theorem dX5_copyOf_109 : decode cX5_copyOf 109 = .ok (.getfield 40, 3) := by decide +kernel
theorem dX5_copyOf_112 : decode cX5_copyOf 112 = .ok (.invokestatic 59, 3) := by decide +kernel
theorem dX5_copyOf_115 : decode cX5_copyOf 115 = .ok (.aload_n 1, 1) := by decide +kernel
theorem dX5_copyOf_116 : decode cX5_copyOf 116 = .ok (.getfield 43, 3) := by decide +kernel
theorem dX5_copyOf_119 : decode cX5_copyOf 119 = .ok (.aload_n 0, 1) := by decide +kernel
theorem dX5_copyOf_120 : decode cX5_copyOf 120 = .ok (.getfield 43, 3) := by decide +kernel
theorem dX5_copyOf_123 : decode cX5_copyOf 123 = .ok (.invokestatic 59, 3) := by decide +kernel
theorem dX5_copyOf_126 : decode cX5_copyOf 126 = .ok (.aload_n 1, 1) := by decide +kernel
theorem dX5_copyOf_127 : decode cX5_copyOf 127 = .ok (.getfield 46, 3) := by decide +kernel
theorem dX5_copyOf_130 : decode cX5_copyOf 130 = .ok (.iconst 0, 1) := by decide +kernel
theorem dX5_copyOf_131 : decode cX5_copyOf 131 = .ok (.aload_n 0, 1) := by decide +kernel
theorem dX5_copyOf_132 : decode cX5_copyOf 132 = .ok (.getfield 46, 3) := by decide +kernel
theorem dX5_copyOf_135 : decode cX5_copyOf 135 = .ok (.iconst 0, 1) := by decide +kernel
theorem dX5_copyOf_136 : decode cX5_copyOf 136 = .ok (.bipush 6, 2) := by decide +kernel
theorem dX5_copyOf_138 : decode cX5_copyOf 138 = .ok (.invokestatic 72, 3) := by decide +kernel
theorem dX5_copyOf_141 : decode cX5_copyOf 141 = .ok (.return_, 1) := by decide +kernel
theorem dX5_startAs_0 : decode cX5_startAs 0 = .ok (.aload_n 0, 1) := by decide +kernel
theorem dX5_startAs_1 : decode cX5_startAs 1 = .ok (.iconst 0, 1) := by decide +kernel
theorem dX5_startAs_2 : decode cX5_startAs 2 = .ok (.putfield 50, 3) := by decide +kernel
theorem dX5_startAs_5 : decode cX5_startAs 5 = .ok (.aload_n 0, 1) := by decide +kernel
theorem dX5_startAs_6 : decode cX5_startAs 6 = .ok (.aload_n 1, 1) := by decide +kernel
theorem dX5_startAs_7 : decode cX5_startAs 7 = .ok (.getfield 53, 3) := by decide +kernel
theorem dX5_startAs_10 : decode cX5_startAs 10 = .ok (.putfield 9, 3) := by decide +kernel
theorem dX5_startAs_13 : decode cX5_startAs 13 = .ok (.aload_n 1, 1) := by decide +kernel
theorem dX5_startAs_14 : decode cX5_startAs 14 = .ok (.getfield 56, 3) := by decide +kernel
theorem dX5_startAs_17 : decode cX5_startAs 17 = .ok (.aload_n 0, 1) := by decide +kernel
theorem dX5_startAs_18 : decode cX5_startAs 18 = .ok (.getfield 15, 3) := by decide +kernel
theorem dX5_startAs_21 : decode cX5_startAs 21 = .ok (.invokestatic 59, 3) := by decide +kernel
theorem dX5_startAs_24 : decode cX5_startAs 24 = .ok (.aload_n 1, 1) := by decide +kernel
theorem dX5_startAs_25 : decode cX5_startAs 25 = .ok (.getfield 63, 3) := by decide +kernel
theorem dX5_startAs_28 : decode cX5_startAs 28 = .ok (.aload_n 0, 1) := by decide +kernel
theorem dX5_startAs_29 : decode cX5_startAs 29 = .ok (.getfield 19, 3) := by decide +kernel
theorem dX5_startAs_32 : decode cX5_startAs 32 = .ok (.invokestatic 59, 3) := by decide +kernel
theorem dX5_startAs_35 : decode cX5_startAs 35 = .ok (.aload_n 1, 1) := by decide +kernel
theorem dX5_startAs_36 : decode cX5_startAs 36 = .ok (.getfield 66, 3) := by decide +kernel
theorem dX5_startAs_39 : decode cX5_startAs 39 = .ok (.aload_n 0, 1) := by decide +kernel
theorem dX5_startAs_40 : decode cX5_startAs 40 = .ok (.getfield 22, 3) := by decide +kernel
theorem dX5_startAs_43 : decode cX5_startAs 43 = .ok (.invokestatic 59, 3) := by decide +kernel
theorem dX5_startAs_46 : decode cX5_startAs 46 = .ok (.aload_n 1, 1) := by decide +kernel
theorem dX5_startAs_47 : decode cX5_startAs 47 = .ok (.getfield 69, 3) := by decide +kernel
theorem dX5_startAs_50 : decode cX5_startAs 50 = .ok (.aload_n 0, 1) := by decide +kernel
theorem dX5_startAs_51 : decode cX5_startAs 51 = .ok (.getfield 25, 3) := by decide +kernel
theorem dX5_startAs_54 : decode cX5_startAs 54 = .ok (.invokestatic 59, 3) := by decide +kernel
theorem dX5_startAs_57 : decode cX5_startAs 57 = .ok (.iconst 0, 1) := by decide +kernel
theorem dX5_startAs_58 : decode cX5_startAs 58 = .ok (.istore_n 2, 1) := by decide +kernel
theorem dX5_startAs_59 : decode cX5_startAs 59 = .ok (.iload_n 2, 1) := by decide +kernel
theorem dX5_startAs_60 : decode cX5_startAs 60 = .ok (.bipush 14, 2) := by decide +kernel
theorem dX5_startAs_62 : decode cX5_startAs 62 = .ok (.if_icmp .ge 24, 3) := by decide +kernel
theorem dX5_startAs_65 : decode cX5_startAs 65 = .ok (.aload_n 0, 1) := by decide +kernel
theorem dX5_startAs_66 : decode cX5_startAs 66 = .ok (.getfield 28, 3) := by decide +kernel
theorem dX5_startAs_69 : decode cX5_startAs 69 = .ok (.iload_n 2, 1) := by decide +kernel
theorem dX5_startAs_70 : decode cX5_startAs 70 = .ok (.bipush (-2), 2) := by decide +kernel
theorem dX5_startAs_72 : decode cX5_startAs 72 = .ok (.iastore, 1) := by decide +kernel
theorem dX5_startAs_73 : decode cX5_startAs 73 = .ok (.aload_n 0, 1) := by decide +kernel
theorem dX5_startAs_74 : decode cX5_startAs 74 = .ok (.getfield 31, 3) := by decide +kernel
theorem dX5_startAs_77 : decode cX5_startAs 77 = .ok (.iload_n 2, 1) := by decide +kernel
theorem dX5_startAs_78 : decode cX5_startAs 78 = .ok (.iconst 0, 1) := by decide +kernel
theorem dX5_startAs_79 : decode cX5_startAs 79 = .ok (.iastore, 1) := by decide +kernel
theorem dX5_startAs_80 : decode cX5_startAs 80 = .ok (.iinc 2 1, 3) := by decide +kernel
theorem dX5_startAs_83 : decode cX5_startAs 83 = .ok (.goto (-24), 3) := by decide +kernel
theorem dX5_startAs_86 : decode cX5_startAs 86 = .ok (.iconst 0, 1) := by decide +kernel
theorem dX5_startAs_87 : decode cX5_startAs 87 = .ok (.istore_n 2, 1) := by decide +kernel
theorem dX5_startAs_88 : decode cX5_startAs 88 = .ok (.iload_n 2, 1) := by decide +kernel
theorem dX5_startAs_89 : decode cX5_startAs 89 = .ok (.iconst 4, 1) := by decide +kernel
theorem dX5_startAs_90 : decode cX5_startAs 90 = .ok (.if_icmp .ge 31, 3) := by decide +kernel
theorem dX5_startAs_93 : decode cX5_startAs 93 = .ok (.aload_n 0, 1) := by decide +kernel
theorem dX5_startAs_94 : decode cX5_startAs 94 = .ok (.getfield 34, 3) := by decide +kernel
theorem dX5_startAs_97 : decode cX5_startAs 97 = .ok (.iload_n 2, 1) := by decide +kernel
theorem dX5_startAs_98 : decode cX5_startAs 98 = .ok (.iconst 0, 1) := by decide +kernel
theorem dX5_startAs_99 : decode cX5_startAs 99 = .ok (.iastore, 1) := by decide +kernel
theorem dX5_startAs_100 : decode cX5_startAs 100 = .ok (.aload_n 0, 1) := by decide +kernel
theorem dX5_startAs_101 : decode cX5_startAs 101 = .ok (.getfield 37, 3) := by decide +kernel
theorem dX5_startAs_104 : decode cX5_startAs 104 = .ok (.iload_n 2, 1) := by decide +kernel
theorem dX5_startAs_105 : decode cX5_startAs 105 = .ok (.bipush (-2), 2) := by decide +kernel
theorem dX5_startAs_107 : decode cX5_startAs 107 = .ok (.iastore, 1) := by decide +kernel
theorem dX5_startAs_108 : decode cX5_startAs 108 = .ok (.aload_n 0, 1) := by decide +kernel
theorem dX5_startAs_109 : decode cX5_startAs 109 = .ok (.getfield 40, 3) := by decide +kernel
theorem dX5_startAs_112 : decode cX5_startAs 112 = .ok (.iload_n 2, 1) := by decide +kernel
theorem dX5_startAs_113 : decode cX5_startAs 113 = .ok (.iconst 0, 1) := by decide +kernel
theorem dX5_startAs_114 : decode cX5_startAs 114 = .ok (.iastore, 1) := by decide +kernel
theorem dX5_startAs_115 : decode cX5_startAs 115 = .ok (.iinc 2 1, 3) := by decide +kernel
theorem dX5_startAs_118 : decode cX5_startAs 118 = .ok (.goto (-30), 3) := by decide +kernel
theorem dX5_startAs_121 : decode cX5_startAs 121 = .ok (.iconst 0, 1) := by decide +kernel
theorem dX5_startAs_122 : decode cX5_startAs 122 = .ok (.istore_n 2, 1) := by decide +kernel
theorem dX5_startAs_123 : decode cX5_startAs 123 = .ok (.iload_n 2, 1) := by decide +kernel
theorem dX5_startAs_124 : decode cX5_startAs 124 = .ok (.sipush 360, 3) := by decide +kernel
theorem dX5_startAs_127 : decode cX5_startAs 127 = .ok (.if_icmp .ge 16, 3) := by decide +kernel
theorem dX5_startAs_130 : decode cX5_startAs 130 = .ok (.aload_n 0, 1) := by decide +kernel
theorem dX5_startAs_131 : decode cX5_startAs 131 = .ok (.getfield 43, 3) := by decide +kernel
theorem dX5_startAs_134 : decode cX5_startAs 134 = .ok (.iload_n 2, 1) := by decide +kernel
theorem dX5_startAs_135 : decode cX5_startAs 135 = .ok (.iconst 0, 1) := by decide +kernel
theorem dX5_startAs_136 : decode cX5_startAs 136 = .ok (.iastore, 1) := by decide +kernel
theorem dX5_startAs_137 : decode cX5_startAs 137 = .ok (.iinc 2 1, 3) := by decide +kernel
theorem dX5_startAs_140 : decode cX5_startAs 140 = .ok (.goto (-17), 3) := by decide +kernel
theorem dX5_startAs_143 : decode cX5_startAs 143 = .ok (.iconst 0, 1) := by decide +kernel
theorem dX5_startAs_144 : decode cX5_startAs 144 = .ok (.istore_n 2, 1) := by decide +kernel
theorem dX5_startAs_145 : decode cX5_startAs 145 = .ok (.iload_n 2, 1) := by decide +kernel
theorem dX5_startAs_146 : decode cX5_startAs 146 = .ok (.bipush 6, 2) := by decide +kernel
theorem dX5_startAs_148 : decode cX5_startAs 148 = .ok (.if_icmp .ge 16, 3) := by decide +kernel
theorem dX5_startAs_151 : decode cX5_startAs 151 = .ok (.aload_n 0, 1) := by decide +kernel
theorem dX5_startAs_152 : decode cX5_startAs 152 = .ok (.getfield 46, 3) := by decide +kernel
theorem dX5_startAs_155 : decode cX5_startAs 155 = .ok (.iload_n 2, 1) := by decide +kernel
theorem dX5_startAs_156 : decode cX5_startAs 156 = .ok (.lconst 0, 1) := by decide +kernel
theorem dX5_startAs_157 : decode cX5_startAs 157 = .ok (.lastore, 1) := by decide +kernel
theorem dX5_startAs_158 : decode cX5_startAs 158 = .ok (.iinc 2 1, 3) := by decide +kernel
theorem dX5_startAs_161 : decode cX5_startAs 161 = .ok (.goto (-16), 3) := by decide +kernel
theorem dX5_startAs_164 : decode cX5_startAs 164 = .ok (.return_, 1) := by decide +kernel
theorem dX5_tradeAges_0 : decode cX5_tradeAges 0 = .ok (.aload_n 0, 1) := by decide +kernel
theorem dX5_tradeAges_1 : decode cX5_tradeAges 1 = .ok (.getfield 19, 3) := by decide +kernel
theorem dX5_tradeAges_4 : decode cX5_tradeAges 4 = .ok (.iload_n 1, 1) := by decide +kernel
theorem dX5_tradeAges_5 : decode cX5_tradeAges 5 = .ok (.iaload, 1) := by decide +kernel
theorem dX5_tradeAges_6 : decode cX5_tradeAges 6 = .ok (.istore_n 3, 1) := by decide +kernel
theorem dX5_tradeAges_7 : decode cX5_tradeAges 7 = .ok (.aload_n 0, 1) := by decide +kernel
theorem dX5_tradeAges_8 : decode cX5_tradeAges 8 = .ok (.getfield 19, 3) := by decide +kernel
theorem dX5_tradeAges_11 : decode cX5_tradeAges 11 = .ok (.iload_n 1, 1) := by decide +kernel
theorem dX5_tradeAges_12 : decode cX5_tradeAges 12 = .ok (.aload_n 0, 1) := by decide +kernel
theorem dX5_tradeAges_13 : decode cX5_tradeAges 13 = .ok (.getfield 19, 3) := by decide +kernel
theorem dX5_tradeAges_16 : decode cX5_tradeAges 16 = .ok (.iload_n 2, 1) := by decide +kernel
theorem dX5_tradeAges_17 : decode cX5_tradeAges 17 = .ok (.iaload, 1) := by decide +kernel
theorem dX5_tradeAges_18 : decode cX5_tradeAges 18 = .ok (.iastore, 1) := by decide +kernel
theorem dX5_tradeAges_19 : decode cX5_tradeAges 19 = .ok (.aload_n 0, 1) := by decide +kernel
theorem dX5_tradeAges_20 : decode cX5_tradeAges 20 = .ok (.getfield 19, 3) := by decide +kernel
theorem dX5_tradeAges_23 : decode cX5_tradeAges 23 = .ok (.iload_n 2, 1) := by decide +kernel
theorem dX5_tradeAges_24 : decode cX5_tradeAges 24 = .ok (.iload_n 3, 1) := by decide +kernel
theorem dX5_tradeAges_25 : decode cX5_tradeAges 25 = .ok (.iastore, 1) := by decide +kernel
theorem dX5_tradeAges_26 : decode cX5_tradeAges 26 = .ok (.return_, 1) := by decide +kernel
theorem dX5_wayRow_0 : decode cX5_wayRow 0 = .ok (.aload_n 0, 1) := by decide +kernel
theorem dX5_wayRow_1 : decode cX5_wayRow 1 = .ok (.getfield 50, 3) := by decide +kernel
theorem dX5_wayRow_4 : decode cX5_wayRow 4 = .ok (.iload_n 1, 1) := by decide +kernel
theorem dX5_wayRow_5 : decode cX5_wayRow 5 = .ok (.iadd, 1) := by decide +kernel
theorem dX5_wayRow_6 : decode cX5_wayRow 6 = .ok (.bipush 30, 2) := by decide +kernel
theorem dX5_wayRow_8 : decode cX5_wayRow 8 = .ok (.irem, 1) := by decide +kernel
theorem dX5_wayRow_9 : decode cX5_wayRow 9 = .ok (.bipush 12, 2) := by decide +kernel
theorem dX5_wayRow_11 : decode cX5_wayRow 11 = .ok (.imul, 1) := by decide +kernel
theorem dX5_wayRow_12 : decode cX5_wayRow 12 = .ok (.ireturn, 1) := by decide +kernel
theorem dX5_inStores_0 : decode cX5_inStores 0 = .ok (.lconst 0, 1) := by decide +kernel
theorem dX5_inStores_1 : decode cX5_inStores 1 = .ok (.lstore_n 2, 1) := by decide +kernel
theorem dX5_inStores_2 : decode cX5_inStores 2 = .ok (.iconst 0, 1) := by decide +kernel
theorem dX5_inStores_3 : decode cX5_inStores 3 = .ok (.istore 4, 2) := by decide +kernel
theorem dX5_inStores_5 : decode cX5_inStores 5 = .ok (.iload 4, 2) := by decide +kernel
theorem dX5_inStores_7 : decode cX5_inStores 7 = .ok (.aload_n 1, 1) := by decide +kernel
theorem dX5_inStores_8 : decode cX5_inStores 8 = .ok (.getfield 78, 3) := by decide +kernel
theorem dX5_inStores_11 : decode cX5_inStores 11 = .ok (.if_icmp .ge 20, 3) := by decide +kernel
theorem dX5_inStores_14 : decode cX5_inStores 14 = .ok (.lload_n 2, 1) := by decide +kernel
theorem dX5_inStores_15 : decode cX5_inStores 15 = .ok (.aload_n 0, 1) := by decide +kernel
theorem dX5_inStores_16 : decode cX5_inStores 16 = .ok (.getfield 34, 3) := by decide +kernel
theorem dX5_inStores_19 : decode cX5_inStores 19 = .ok (.iload 4, 2) := by decide +kernel
theorem dX5_inStores_21 : decode cX5_inStores 21 = .ok (.iaload, 1) := by decide +kernel
theorem dX5_inStores_22 : decode cX5_inStores 22 = .ok (.i2l, 1) := by decide +kernel
theorem dX5_inStores_23 : decode cX5_inStores 23 = .ok (.ladd, 1) := by decide +kernel
theorem dX5_inStores_24 : decode cX5_inStores 24 = .ok (.lstore_n 2, 1) := by decide +kernel
theorem dX5_inStores_25 : decode cX5_inStores 25 = .ok (.iinc 4 1, 3) := by decide +kernel
theorem dX5_inStores_28 : decode cX5_inStores 28 = .ok (.goto (-23), 3) := by decide +kernel
theorem dX5_inStores_31 : decode cX5_inStores 31 = .ok (.lload_n 2, 1) := by decide +kernel
theorem dX5_inStores_32 : decode cX5_inStores 32 = .ok (.lreturn, 1) := by decide +kernel
theorem dX5_onItsWay_0 : decode cX5_onItsWay 0 = .ok (.lconst 0, 1) := by decide +kernel
theorem dX5_onItsWay_1 : decode cX5_onItsWay 1 = .ok (.lstore_n 1, 1) := by decide +kernel
theorem dX5_onItsWay_2 : decode cX5_onItsWay 2 = .ok (.iconst 0, 1) := by decide +kernel
theorem dX5_onItsWay_3 : decode cX5_onItsWay 3 = .ok (.istore_n 3, 1) := by decide +kernel
theorem dX5_onItsWay_4 : decode cX5_onItsWay 4 = .ok (.iload_n 3, 1) := by decide +kernel
theorem dX5_onItsWay_5 : decode cX5_onItsWay 5 = .ok (.sipush 360, 3) := by decide +kernel
theorem dX5_onItsWay_8 : decode cX5_onItsWay 8 = .ok (.if_icmp .ge 19, 3) := by decide +kernel
theorem dX5_onItsWay_11 : decode cX5_onItsWay 11 = .ok (.lload_n 1, 1) := by decide +kernel
theorem dX5_onItsWay_12 : decode cX5_onItsWay 12 = .ok (.aload_n 0, 1) := by decide +kernel
theorem dX5_onItsWay_13 : decode cX5_onItsWay 13 = .ok (.getfield 43, 3) := by decide +kernel
theorem dX5_onItsWay_16 : decode cX5_onItsWay 16 = .ok (.iload_n 3, 1) := by decide +kernel
theorem dX5_onItsWay_17 : decode cX5_onItsWay 17 = .ok (.iaload, 1) := by decide +kernel
theorem dX5_onItsWay_18 : decode cX5_onItsWay 18 = .ok (.i2l, 1) := by decide +kernel
theorem dX5_onItsWay_19 : decode cX5_onItsWay 19 = .ok (.ladd, 1) := by decide +kernel
theorem dX5_onItsWay_20 : decode cX5_onItsWay 20 = .ok (.lstore_n 1, 1) := by decide +kernel
theorem dX5_onItsWay_21 : decode cX5_onItsWay 21 = .ok (.iinc 3 1, 3) := by decide +kernel
theorem dX5_onItsWay_24 : decode cX5_onItsWay 24 = .ok (.goto (-20), 3) := by decide +kernel
theorem dX5_onItsWay_27 : decode cX5_onItsWay 27 = .ok (.lload_n 1, 1) := by decide +kernel
theorem dX5_onItsWay_28 : decode cX5_onItsWay 28 = .ok (.lreturn, 1) := by decide +kernel
theorem dX0_ageOf_0 : decode cX0_ageOf 0 = .ok (.iload_n 1, 1) := by decide +kernel
theorem dX0_ageOf_1 : decode cX0_ageOf 1 = .ok (.bipush 14, 2) := by decide +kernel
theorem dX0_ageOf_3 : decode cX0_ageOf 3 = .ok (.if_icmp .ge 15, 3) := by decide +kernel
theorem dX0_ageOf_6 : decode cX0_ageOf 6 = .ok (.aload_n 0, 1) := by decide +kernel
theorem dX0_ageOf_7 : decode cX0_ageOf 7 = .ok (.getfield 50, 3) := by decide +kernel
theorem dX0_ageOf_10 : decode cX0_ageOf 10 = .ok (.getfield 81, 3) := by decide +kernel
theorem dX0_ageOf_13 : decode cX0_ageOf 13 = .ok (.iload_n 1, 1) := by decide +kernel
theorem dX0_ageOf_14 : decode cX0_ageOf 14 = .ok (.iaload, 1) := by decide +kernel
theorem dX0_ageOf_15 : decode cX0_ageOf 15 = .ok (.goto 15, 3) := by decide +kernel
theorem dX0_ageOf_18 : decode cX0_ageOf 18 = .ok (.aload_n 0, 1) := by decide +kernel
theorem dX0_ageOf_19 : decode cX0_ageOf 19 = .ok (.getfield 46, 3) := by decide +kernel
theorem dX0_ageOf_22 : decode cX0_ageOf 22 = .ok (.getfield 84, 3) := by decide +kernel
theorem dX0_ageOf_25 : decode cX0_ageOf 25 = .ok (.iload_n 1, 1) := by decide +kernel
theorem dX0_ageOf_26 : decode cX0_ageOf 26 = .ok (.bipush 14, 2) := by decide +kernel
theorem dX0_ageOf_28 : decode cX0_ageOf 28 = .ok (.isub, 1) := by decide +kernel
theorem dX0_ageOf_29 : decode cX0_ageOf 29 = .ok (.iaload, 1) := by decide +kernel
theorem dX0_ageOf_30 : decode cX0_ageOf 30 = .ok (.ireturn, 1) := by decide +kernel
theorem dX0_enqueue_0 : decode cX0_enqueue 0 = .ok (.aload_n 0, 1) := by decide +kernel
theorem dX0_enqueue_1 : decode cX0_enqueue 1 = .ok (.getfield 54, 3) := by decide +kernel
theorem dX0_enqueue_4 : decode cX0_enqueue 4 = .ok (.istore_n 2, 1) := by decide +kernel
theorem dX0_enqueue_5 : decode cX0_enqueue 5 = .ok (.iload_n 2, 1) := by decide +kernel
theorem dX0_enqueue_6 : decode cX0_enqueue 6 = .ok (.ifCond .le 43, 3) := by decide +kernel
theorem dX0_enqueue_9 : decode cX0_enqueue 9 = .ok (.aload_n 0, 1) := by decide +kernel
theorem dX0_enqueue_10 : decode cX0_enqueue 10 = .ok (.aload_n 0, 1) := by decide +kernel
theorem dX0_enqueue_11 : decode cX0_enqueue 11 = .ok (.getfield 9, 3) := by decide +kernel
theorem dX0_enqueue_14 : decode cX0_enqueue 14 = .ok (.iload_n 2, 1) := by decide +kernel
theorem dX0_enqueue_15 : decode cX0_enqueue 15 = .ok (.iconst 1, 1) := by decide +kernel
theorem dX0_enqueue_16 : decode cX0_enqueue 16 = .ok (.isub, 1) := by decide +kernel
theorem dX0_enqueue_17 : decode cX0_enqueue 17 = .ok (.iaload, 1) := by decide +kernel
theorem dX0_enqueue_18 : decode cX0_enqueue 18 = .ok (.invokevirtual 77, 3) := by decide +kernel
theorem dX0_enqueue_21 : decode cX0_enqueue 21 = .ok (.aload_n 0, 1) := by decide +kernel
theorem dX0_enqueue_22 : decode cX0_enqueue 22 = .ok (.iload_n 1, 1) := by decide +kernel
theorem dX0_enqueue_23 : decode cX0_enqueue 23 = .ok (.invokevirtual 77, 3) := by decide +kernel
theorem dX0_enqueue_26 : decode cX0_enqueue 26 = .ok (.if_icmp .le 23, 3) := by decide +kernel
theorem dX0_enqueue_29 : decode cX0_enqueue 29 = .ok (.aload_n 0, 1) := by decide +kernel
theorem dX0_enqueue_30 : decode cX0_enqueue 30 = .ok (.getfield 9, 3) := by decide +kernel
theorem dX0_enqueue_33 : decode cX0_enqueue 33 = .ok (.iload_n 2, 1) := by decide +kernel
theorem dX0_enqueue_34 : decode cX0_enqueue 34 = .ok (.aload_n 0, 1) := by decide +kernel
theorem dX0_enqueue_35 : decode cX0_enqueue 35 = .ok (.getfield 9, 3) := by decide +kernel
theorem dX0_enqueue_38 : decode cX0_enqueue 38 = .ok (.iload_n 2, 1) := by decide +kernel
theorem dX0_enqueue_39 : decode cX0_enqueue 39 = .ok (.iconst 1, 1) := by decide +kernel
theorem dX0_enqueue_40 : decode cX0_enqueue 40 = .ok (.isub, 1) := by decide +kernel
theorem dX0_enqueue_41 : decode cX0_enqueue 41 = .ok (.iaload, 1) := by decide +kernel
theorem dX0_enqueue_42 : decode cX0_enqueue 42 = .ok (.iastore, 1) := by decide +kernel
theorem dX0_enqueue_43 : decode cX0_enqueue 43 = .ok (.iinc 2 (-1), 3) := by decide +kernel
theorem dX0_enqueue_46 : decode cX0_enqueue 46 = .ok (.goto (-41), 3) := by decide +kernel
theorem dX0_enqueue_49 : decode cX0_enqueue 49 = .ok (.aload_n 0, 1) := by decide +kernel
theorem dX0_enqueue_50 : decode cX0_enqueue 50 = .ok (.getfield 9, 3) := by decide +kernel
theorem dX0_enqueue_53 : decode cX0_enqueue 53 = .ok (.iload_n 2, 1) := by decide +kernel
theorem dX0_enqueue_54 : decode cX0_enqueue 54 = .ok (.iload_n 1, 1) := by decide +kernel
theorem dX0_enqueue_55 : decode cX0_enqueue 55 = .ok (.iastore, 1) := by decide +kernel
theorem dX0_enqueue_56 : decode cX0_enqueue 56 = .ok (.aload_n 0, 1) := by decide +kernel
theorem dX0_enqueue_57 : decode cX0_enqueue 57 = .ok (.dup, 1) := by decide +kernel
theorem dX0_enqueue_58 : decode cX0_enqueue 58 = .ok (.getfield 54, 3) := by decide +kernel
theorem dX0_enqueue_61 : decode cX0_enqueue 61 = .ok (.iconst 1, 1) := by decide +kernel
theorem dX0_enqueue_62 : decode cX0_enqueue 62 = .ok (.iadd, 1) := by decide +kernel
theorem dX0_enqueue_63 : decode cX0_enqueue 63 = .ok (.putfield 54, 3) := by decide +kernel
theorem dX0_enqueue_66 : decode cX0_enqueue 66 = .ok (.return_, 1) := by decide +kernel
theorem dX0_open_0 : decode cX0_open 0 = .ok (.aload_n 0, 1) := by decide +kernel
theorem dX0_open_1 : decode cX0_open 1 = .ok (.aload_n 1, 1) := by decide +kernel
theorem dX0_open_2 : decode cX0_open 2 = .ok (.putfield 46, 3) := by decide +kernel
theorem dX0_open_5 : decode cX0_open 5 = .ok (.aload_n 0, 1) := by decide +kernel
theorem dX0_open_6 : decode cX0_open 6 = .ok (.aload_n 2, 1) := by decide +kernel
theorem dX0_open_7 : decode cX0_open 7 = .ok (.putfield 50, 3) := by decide +kernel
theorem dX0_open_10 : decode cX0_open 10 = .ok (.aload_n 0, 1) := by decide +kernel
theorem dX0_open_11 : decode cX0_open 11 = .ok (.iconst 0, 1) := by decide +kernel
theorem dX0_open_12 : decode cX0_open 12 = .ok (.putfield 54, 3) := by decide +kernel
theorem dX0_open_15 : decode cX0_open 15 = .ok (.iconst 0, 1) := by decide +kernel
theorem dX0_open_16 : decode cX0_open 16 = .ok (.istore_n 3, 1) := by decide +kernel
theorem dX0_open_17 : decode cX0_open 17 = .ok (.iload_n 3, 1) := by decide +kernel
theorem dX0_open_18 : decode cX0_open 18 = .ok (.aload_n 1, 1) := by decide +kernel
theorem dX0_open_19 : decode cX0_open 19 = .ok (.getfield 57, 3) := by decide +kernel
theorem dX0_open_22 : decode cX0_open 22 = .ok (.if_icmp .ge 26, 3) := by decide +kernel
theorem dX0_open_25 : decode cX0_open 25 = .ok (.aload_n 0, 1) := by decide +kernel
theorem dX0_open_26 : decode cX0_open 26 = .ok (.getfield 15, 3) := by decide +kernel
theorem dX0_open_29 : decode cX0_open 29 = .ok (.iload_n 3, 1) := by decide +kernel
theorem dX0_open_30 : decode cX0_open 30 = .ok (.aload_n 2, 1) := by decide +kernel
theorem dX0_open_31 : decode cX0_open 31 = .ok (.getfield 62, 3) := by decide +kernel
theorem dX0_open_34 : decode cX0_open 34 = .ok (.iload_n 3, 1) := by decide +kernel
theorem dX0_open_35 : decode cX0_open 35 = .ok (.iaload, 1) := by decide +kernel
theorem dX0_open_36 : decode cX0_open 36 = .ok (.iastore, 1) := by decide +kernel
theorem dX0_open_37 : decode cX0_open 37 = .ok (.aload_n 0, 1) := by decide +kernel
theorem dX0_open_38 : decode cX0_open 38 = .ok (.iload_n 3, 1) := by decide +kernel
theorem dX0_open_39 : decode cX0_open 39 = .ok (.invokevirtual 67, 3) := by decide +kernel
theorem dX0_open_42 : decode cX0_open 42 = .ok (.iinc 3 1, 3) := by decide +kernel
theorem dX0_open_45 : decode cX0_open 45 = .ok (.goto (-28), 3) := by decide +kernel
theorem dX0_open_48 : decode cX0_open 48 = .ok (.iconst 0, 1) := by decide +kernel
theorem dX0_open_49 : decode cX0_open 49 = .ok (.istore_n 3, 1) := by decide +kernel
theorem dX0_open_50 : decode cX0_open 50 = .ok (.iload_n 3, 1) := by decide +kernel
theorem dX0_open_51 : decode cX0_open 51 = .ok (.aload_n 1, 1) := by decide +kernel
theorem dX0_open_52 : decode cX0_open 52 = .ok (.getfield 71, 3) := by decide +kernel
theorem dX0_open_55 : decode cX0_open 55 = .ok (.if_icmp .ge 32, 3) := by decide +kernel
theorem dX0_open_58 : decode cX0_open 58 = .ok (.aload_n 0, 1) := by decide +kernel
theorem dX0_open_59 : decode cX0_open 59 = .ok (.getfield 15, 3) := by decide +kernel
theorem dX0_open_62 : decode cX0_open 62 = .ok (.bipush 14, 2) := by decide +kernel
theorem dX0_open_64 : decode cX0_open 64 = .ok (.iload_n 3, 1) := by decide +kernel
theorem dX0_open_65 : decode cX0_open 65 = .ok (.iadd, 1) := by decide +kernel
theorem dX0_open_66 : decode cX0_open 66 = .ok (.aload_n 1, 1) := by decide +kernel
theorem dX0_open_67 : decode cX0_open 67 = .ok (.getfield 74, 3) := by decide +kernel
theorem dX0_open_70 : decode cX0_open 70 = .ok (.iload_n 3, 1) := by decide +kernel
theorem dX0_open_71 : decode cX0_open 71 = .ok (.iaload, 1) := by decide +kernel
theorem dX0_open_72 : decode cX0_open 72 = .ok (.iastore, 1) := by decide +kernel
theorem dX0_open_73 : decode cX0_open 73 = .ok (.aload_n 0, 1) := by decide +kernel
theorem dX0_open_74 : decode cX0_open 74 = .ok (.bipush 14, 2) := by decide +kernel
theorem dX0_open_76 : decode cX0_open 76 = .ok (.iload_n 3, 1) := by decide +kernel
theorem dX0_open_77 : decode cX0_open 77 = .ok (.iadd, 1) := by decide +kernel
theorem dX0_open_78 : decode cX0_open 78 = .ok (.invokevirtual 67, 3) := by decide +kernel
theorem dX0_open_81 : decode cX0_open 81 = .ok (.iinc 3 1, 3) := by decide +kernel
theorem dX0_open_84 : decode cX0_open 84 = .ok (.goto (-34), 3) := by decide +kernel
theorem dX0_open_87 : decode cX0_open 87 = .ok (.return_, 1) := by decide +kernel
theorem dX0_wantOfRight_0 : decode cX0_wantOfRight 0 = .ok (.aload_n 0, 1) := by decide +kernel
theorem dX0_wantOfRight_1 : decode cX0_wantOfRight 1 = .ok (.getfield 50, 3) := by decide +kernel
theorem dX0_wantOfRight_4 : decode cX0_wantOfRight 4 = .ok (.getfield 138, 3) := by decide +kernel
theorem dX0_wantOfRight_7 : decode cX0_wantOfRight 7 = .ok (.aload_n 0, 1) := by decide +kernel
theorem dX0_wantOfRight_8 : decode cX0_wantOfRight 8 = .ok (.getfield 46, 3) := by decide +kernel
theorem dX0_wantOfRight_11 : decode cX0_wantOfRight 11 = .ok (.getfield 141, 3) := by decide +kernel
theorem dX0_wantOfRight_14 : decode cX0_wantOfRight 14 = .ok (.iload_n 1, 1) := by decide +kernel
theorem dX0_wantOfRight_15 : decode cX0_wantOfRight 15 = .ok (.iaload, 1) := by decide +kernel
theorem dX0_wantOfRight_16 : decode cX0_wantOfRight 16 = .ok (.if_icmp .lt 22, 3) := by decide +kernel
theorem dX0_wantOfRight_19 : decode cX0_wantOfRight 19 = .ok (.aload_n 0, 1) := by decide +kernel
theorem dX0_wantOfRight_20 : decode cX0_wantOfRight 20 = .ok (.getfield 50, 3) := by decide +kernel
theorem dX0_wantOfRight_23 : decode cX0_wantOfRight 23 = .ok (.getfield 138, 3) := by decide +kernel
theorem dX0_wantOfRight_26 : decode cX0_wantOfRight 26 = .ok (.aload_n 0, 1) := by decide +kernel
theorem dX0_wantOfRight_27 : decode cX0_wantOfRight 27 = .ok (.getfield 46, 3) := by decide +kernel
theorem dX0_wantOfRight_30 : decode cX0_wantOfRight 30 = .ok (.getfield 144, 3) := by decide +kernel
theorem dX0_wantOfRight_33 : decode cX0_wantOfRight 33 = .ok (.iload_n 1, 1) := by decide +kernel
theorem dX0_wantOfRight_34 : decode cX0_wantOfRight 34 = .ok (.iaload, 1) := by decide +kernel
theorem dX0_wantOfRight_35 : decode cX0_wantOfRight 35 = .ok (.if_icmp .le 5, 3) := by decide +kernel
theorem dX0_wantOfRight_38 : decode cX0_wantOfRight 38 = .ok (.iconst 0, 1) := by decide +kernel
theorem dX0_wantOfRight_39 : decode cX0_wantOfRight 39 = .ok (.ireturn, 1) := by decide +kernel
theorem dX0_wantOfRight_40 : decode cX0_wantOfRight 40 = .ok (.aload_n 0, 1) := by decide +kernel
theorem dX0_wantOfRight_41 : decode cX0_wantOfRight 41 = .ok (.getfield 50, 3) := by decide +kernel
theorem dX0_wantOfRight_44 : decode cX0_wantOfRight 44 = .ok (.getfield 147, 3) := by decide +kernel
theorem dX0_wantOfRight_47 : decode cX0_wantOfRight 47 = .ok (.iload_n 1, 1) := by decide +kernel
theorem dX0_wantOfRight_48 : decode cX0_wantOfRight 48 = .ok (.iaload, 1) := by decide +kernel
theorem dX0_wantOfRight_49 : decode cX0_wantOfRight 49 = .ok (.istore_n 2, 1) := by decide +kernel
theorem dX0_wantOfRight_50 : decode cX0_wantOfRight 50 = .ok (.aload_n 0, 1) := by decide +kernel
theorem dX0_wantOfRight_51 : decode cX0_wantOfRight 51 = .ok (.getfield 46, 3) := by decide +kernel
theorem dX0_wantOfRight_54 : decode cX0_wantOfRight 54 = .ok (.getfield 150, 3) := by decide +kernel
theorem dX0_wantOfRight_57 : decode cX0_wantOfRight 57 = .ok (.iload_n 1, 1) := by decide +kernel
theorem dX0_wantOfRight_58 : decode cX0_wantOfRight 58 = .ok (.iaload, 1) := by decide +kernel
theorem dX0_wantOfRight_59 : decode cX0_wantOfRight 59 = .ok (.ifCond .le 19, 3) := by decide +kernel
theorem dX0_wantOfRight_62 : decode cX0_wantOfRight 62 = .ok (.iload_n 2, 1) := by decide +kernel
theorem dX0_wantOfRight_63 : decode cX0_wantOfRight 63 = .ok (.aload_n 0, 1) := by decide +kernel
theorem dX0_wantOfRight_64 : decode cX0_wantOfRight 64 = .ok (.getfield 50, 3) := by decide +kernel
theorem dX0_wantOfRight_67 : decode cX0_wantOfRight 67 = .ok (.getfield 153, 3) := by decide +kernel
theorem dX0_wantOfRight_70 : decode cX0_wantOfRight 70 = .ok (.iload_n 1, 1) := by decide +kernel
theorem dX0_wantOfRight_71 : decode cX0_wantOfRight 71 = .ok (.iaload, 1) := by decide +kernel
theorem dX0_wantOfRight_72 : decode cX0_wantOfRight 72 = .ok (.invokestatic 111, 3) := by decide +kernel
theorem dX0_wantOfRight_75 : decode cX0_wantOfRight 75 = .ok (.goto 4, 3) := by decide +kernel
theorem dX0_wantOfRight_78 : decode cX0_wantOfRight 78 = .ok (.iload_n 2, 1) := by decide +kernel
theorem dX0_wantOfRight_79 : decode cX0_wantOfRight 79 = .ok (.ireturn, 1) := by decide +kernel
theorem dX0_inflowOf_0 : decode cX0_inflowOf 0 = .ok (.aload_n 0, 1) := by decide +kernel
theorem dX0_inflowOf_1 : decode cX0_inflowOf 1 = .ok (.getfield 50, 3) := by decide +kernel
theorem dX0_inflowOf_4 : decode cX0_inflowOf 4 = .ok (.getfield 138, 3) := by decide +kernel
theorem dX0_inflowOf_7 : decode cX0_inflowOf 7 = .ok (.bipush 90, 2) := by decide +kernel
theorem dX0_inflowOf_9 : decode cX0_inflowOf 9 = .ok (.idiv, 1) := by decide +kernel
theorem dX0_inflowOf_10 : decode cX0_inflowOf 10 = .ok (.istore_n 2, 1) := by decide +kernel
theorem dX0_inflowOf_11 : decode cX0_inflowOf 11 = .ok (.aload_n 0, 1) := by decide +kernel
theorem dX0_inflowOf_12 : decode cX0_inflowOf 12 = .ok (.getfield 46, 3) := by decide +kernel
theorem dX0_inflowOf_15 : decode cX0_inflowOf 15 = .ok (.getfield 156, 3) := by decide +kernel
theorem dX0_inflowOf_18 : decode cX0_inflowOf 18 = .ok (.iload_n 1, 1) := by decide +kernel
theorem dX0_inflowOf_19 : decode cX0_inflowOf 19 = .ok (.iconst 4, 1) := by decide +kernel
theorem dX0_inflowOf_20 : decode cX0_inflowOf 20 = .ok (.imul, 1) := by decide +kernel
theorem dX0_inflowOf_21 : decode cX0_inflowOf 21 = .ok (.iload_n 2, 1) := by decide +kernel
theorem dX0_inflowOf_22 : decode cX0_inflowOf 22 = .ok (.iadd, 1) := by decide +kernel
theorem dX0_inflowOf_23 : decode cX0_inflowOf 23 = .ok (.iaload, 1) := by decide +kernel
theorem dX0_inflowOf_24 : decode cX0_inflowOf 24 = .ok (.aload_n 0, 1) := by decide +kernel
theorem dX0_inflowOf_25 : decode cX0_inflowOf 25 = .ok (.getfield 50, 3) := by decide +kernel
theorem dX0_inflowOf_28 : decode cX0_inflowOf 28 = .ok (.getfield 159, 3) := by decide +kernel
theorem dX0_inflowOf_31 : decode cX0_inflowOf 31 = .ok (.imul, 1) := by decide +kernel
theorem dX0_inflowOf_32 : decode cX0_inflowOf 32 = .ok (.bipush 100, 2) := by decide +kernel
theorem dX0_inflowOf_34 : decode cX0_inflowOf 34 = .ok (.idiv, 1) := by decide +kernel
theorem dX0_inflowOf_35 : decode cX0_inflowOf 35 = .ok (.ireturn, 1) := by decide +kernel
theorem dX0_backOf_0 : decode cX0_backOf 0 = .ok (.aload_n 0, 1) := by decide +kernel
theorem dX0_backOf_1 : decode cX0_backOf 1 = .ok (.getfield 50, 3) := by decide +kernel
theorem dX0_backOf_4 : decode cX0_backOf 4 = .ok (.getfield 162, 3) := by decide +kernel
theorem dX0_backOf_7 : decode cX0_backOf 7 = .ok (.aload_n 0, 1) := by decide +kernel
theorem dX0_backOf_8 : decode cX0_backOf 8 = .ok (.getfield 50, 3) := by decide +kernel
theorem dX0_backOf_11 : decode cX0_backOf 11 = .ok (.iconst 0, 1) := by decide +kernel
theorem dX0_backOf_12 : decode cX0_backOf 12 = .ok (.invokevirtual 165, 3) := by decide +kernel
theorem dX0_backOf_15 : decode cX0_backOf 15 = .ok (.iload_n 1, 1) := by decide +kernel
theorem dX0_backOf_16 : decode cX0_backOf 16 = .ok (.iadd, 1) := by decide +kernel
theorem dX0_backOf_17 : decode cX0_backOf 17 = .ok (.iaload, 1) := by decide +kernel
theorem dX0_backOf_18 : decode cX0_backOf 18 = .ok (.ireturn, 1) := by decide +kernel
theorem dX0_bringWater_0 : decode cX0_bringWater 0 = .ok (.iconst 0, 1) := by decide +kernel
theorem dX0_bringWater_1 : decode cX0_bringWater 1 = .ok (.istore_n 1, 1) := by decide +kernel
theorem dX0_bringWater_2 : decode cX0_bringWater 2 = .ok (.iload_n 1, 1) := by decide +kernel
theorem dX0_bringWater_3 : decode cX0_bringWater 3 = .ok (.aload_n 0, 1) := by decide +kernel
theorem dX0_bringWater_4 : decode cX0_bringWater 4 = .ok (.getfield 46, 3) := by decide +kernel
theorem dX0_bringWater_7 : decode cX0_bringWater 7 = .ok (.getfield 57, 3) := by decide +kernel
theorem dX0_bringWater_10 : decode cX0_bringWater 10 = .ok (.if_icmp .ge 20, 3) := by decide +kernel
theorem dX0_bringWater_13 : decode cX0_bringWater 13 = .ok (.aload_n 0, 1) := by decide +kernel
theorem dX0_bringWater_14 : decode cX0_bringWater 14 = .ok (.getfield 24, 3) := by decide +kernel
theorem dX0_bringWater_17 : decode cX0_bringWater 17 = .ok (.iload_n 1, 1) := by decide +kernel
theorem dX0_bringWater_18 : decode cX0_bringWater 18 = .ok (.aload_n 0, 1) := by decide +kernel
theorem dX0_bringWater_19 : decode cX0_bringWater 19 = .ok (.iload_n 1, 1) := by decide +kernel
theorem dX0_bringWater_20 : decode cX0_bringWater 20 = .ok (.invokevirtual 99, 3) := by decide +kernel
theorem dX0_bringWater_23 : decode cX0_bringWater 23 = .ok (.iastore, 1) := by decide +kernel
theorem dX0_bringWater_24 : decode cX0_bringWater 24 = .ok (.iinc 1 1, 3) := by decide +kernel
theorem dX0_bringWater_27 : decode cX0_bringWater 27 = .ok (.goto (-25), 3) := by decide +kernel
theorem dX0_bringWater_30 : decode cX0_bringWater 30 = .ok (.iconst 0, 1) := by decide +kernel
theorem dX0_bringWater_31 : decode cX0_bringWater 31 = .ok (.istore_n 1, 1) := by decide +kernel
theorem dX0_bringWater_32 : decode cX0_bringWater 32 = .ok (.iload_n 1, 1) := by decide +kernel
theorem dX0_bringWater_33 : decode cX0_bringWater 33 = .ok (.aload_n 0, 1) := by decide +kernel
theorem dX0_bringWater_34 : decode cX0_bringWater 34 = .ok (.getfield 46, 3) := by decide +kernel
theorem dX0_bringWater_37 : decode cX0_bringWater 37 = .ok (.getfield 71, 3) := by decide +kernel
theorem dX0_bringWater_40 : decode cX0_bringWater 40 = .ok (.if_icmp .ge 49, 3) := by decide +kernel
theorem dX0_bringWater_43 : decode cX0_bringWater 43 = .ok (.aload_n 0, 1) := by decide +kernel
theorem dX0_bringWater_44 : decode cX0_bringWater 44 = .ok (.getfield 24, 3) := by decide +kernel
theorem dX0_bringWater_47 : decode cX0_bringWater 47 = .ok (.bipush 14, 2) := by decide +kernel
theorem dX0_bringWater_49 : decode cX0_bringWater 49 = .ok (.iload_n 1, 1) := by decide +kernel
theorem dX0_bringWater_50 : decode cX0_bringWater 50 = .ok (.iadd, 1) := by decide +kernel
theorem dX0_bringWater_51 : decode cX0_bringWater 51 = .ok (.aload_n 0, 1) := by decide +kernel
theorem dX0_bringWater_52 : decode cX0_bringWater 52 = .ok (.getfield 46, 3) := by decide +kernel
theorem dX0_bringWater_55 : decode cX0_bringWater 55 = .ok (.getfield 102, 3) := by decide +kernel
theorem dX0_bringWater_58 : decode cX0_bringWater 58 = .ok (.iload_n 1, 1) := by decide +kernel
theorem dX0_bringWater_59 : decode cX0_bringWater 59 = .ok (.iaload, 1) := by decide +kernel
theorem dX0_bringWater_60 : decode cX0_bringWater 60 = .ok (.aload_n 0, 1) := by decide +kernel
theorem dX0_bringWater_61 : decode cX0_bringWater 61 = .ok (.getfield 46, 3) := by decide +kernel
theorem dX0_bringWater_64 : decode cX0_bringWater 64 = .ok (.getfield 105, 3) := by decide +kernel
theorem dX0_bringWater_67 : decode cX0_bringWater 67 = .ok (.iload_n 1, 1) := by decide +kernel
theorem dX0_bringWater_68 : decode cX0_bringWater 68 = .ok (.iaload, 1) := by decide +kernel
theorem dX0_bringWater_69 : decode cX0_bringWater 69 = .ok (.aload_n 0, 1) := by decide +kernel
theorem dX0_bringWater_70 : decode cX0_bringWater 70 = .ok (.getfield 50, 3) := by decide +kernel
theorem dX0_bringWater_73 : decode cX0_bringWater 73 = .ok (.getfield 108, 3) := by decide +kernel
theorem dX0_bringWater_76 : decode cX0_bringWater 76 = .ok (.iload_n 1, 1) := by decide +kernel
theorem dX0_bringWater_77 : decode cX0_bringWater 77 = .ok (.iaload, 1) := by decide +kernel
theorem dX0_bringWater_78 : decode cX0_bringWater 78 = .ok (.isub, 1) := by decide +kernel
theorem dX0_bringWater_79 : decode cX0_bringWater 79 = .ok (.invokestatic 111, 3) := by decide +kernel
theorem dX0_bringWater_82 : decode cX0_bringWater 82 = .ok (.iastore, 1) := by decide +kernel
theorem dX0_bringWater_83 : decode cX0_bringWater 83 = .ok (.iinc 1 1, 3) := by decide +kernel
theorem dX0_bringWater_86 : decode cX0_bringWater 86 = .ok (.goto (-54), 3) := by decide +kernel
theorem dX0_bringWater_89 : decode cX0_bringWater 89 = .ok (.iconst 0, 1) := by decide +kernel
theorem dX0_bringWater_90 : decode cX0_bringWater 90 = .ok (.istore_n 1, 1) := by decide +kernel
theorem dX0_bringWater_91 : decode cX0_bringWater 91 = .ok (.iload_n 1, 1) := by decide +kernel
theorem dX0_bringWater_92 : decode cX0_bringWater 92 = .ok (.aload_n 0, 1) := by decide +kernel
theorem dX0_bringWater_93 : decode cX0_bringWater 93 = .ok (.getfield 46, 3) := by decide +kernel
theorem dX0_bringWater_96 : decode cX0_bringWater 96 = .ok (.getfield 117, 3) := by decide +kernel
theorem dX0_bringWater_99 : decode cX0_bringWater 99 = .ok (.if_icmp .ge 47, 3) := by decide +kernel
theorem dX0_bringWater_102 : decode cX0_bringWater 102 = .ok (.aload_n 0, 1) := by decide +kernel
theorem dX0_bringWater_103 : decode cX0_bringWater 103 = .ok (.getfield 18, 3) := by decide +kernel
theorem dX0_bringWater_106 : decode cX0_bringWater 106 = .ok (.iload_n 1, 1) := by decide +kernel
theorem dX0_bringWater_107 : decode cX0_bringWater 107 = .ok (.aload_n 0, 1) := by decide +kernel
theorem dX0_bringWater_108 : decode cX0_bringWater 108 = .ok (.iload_n 1, 1) := by decide +kernel
theorem dX0_bringWater_109 : decode cX0_bringWater 109 = .ok (.invokevirtual 120, 3) := by decide +kernel
theorem dX0_bringWater_112 : decode cX0_bringWater 112 = .ok (.aload_n 0, 1) := by decide +kernel
theorem dX0_bringWater_113 : decode cX0_bringWater 113 = .ok (.iload_n 1, 1) := by decide +kernel
theorem dX0_bringWater_114 : decode cX0_bringWater 114 = .ok (.invokevirtual 123, 3) := by decide +kernel
theorem dX0_bringWater_117 : decode cX0_bringWater 117 = .ok (.iadd, 1) := by decide +kernel
theorem dX0_bringWater_118 : decode cX0_bringWater 118 = .ok (.iastore, 1) := by decide +kernel
theorem dX0_bringWater_119 : decode cX0_bringWater 119 = .ok (.iload_n 1, 1) := by decide +kernel
theorem dX0_bringWater_120 : decode cX0_bringWater 120 = .ok (.aload_n 0, 1) := by decide +kernel
theorem dX0_bringWater_121 : decode cX0_bringWater 121 = .ok (.getfield 42, 3) := by decide +kernel
theorem dX0_bringWater_124 : decode cX0_bringWater 124 = .ok (.if_icmp .ne 16, 3) := by decide +kernel
theorem dX0_bringWater_127 : decode cX0_bringWater 127 = .ok (.aload_n 0, 1) := by decide +kernel
theorem dX0_bringWater_128 : decode cX0_bringWater 128 = .ok (.getfield 18, 3) := by decide +kernel
theorem dX0_bringWater_131 : decode cX0_bringWater 131 = .ok (.iload_n 1, 1) := by decide +kernel
theorem dX0_bringWater_132 : decode cX0_bringWater 132 = .ok (.dup2, 1) := by decide +kernel
theorem dX0_bringWater_133 : decode cX0_bringWater 133 = .ok (.iaload, 1) := by decide +kernel
theorem dX0_bringWater_134 : decode cX0_bringWater 134 = .ok (.aload_n 0, 1) := by decide +kernel
theorem dX0_bringWater_135 : decode cX0_bringWater 135 = .ok (.getfield 126, 3) := by decide +kernel
theorem dX0_bringWater_138 : decode cX0_bringWater 138 = .ok (.iadd, 1) := by decide +kernel
theorem dX0_bringWater_139 : decode cX0_bringWater 139 = .ok (.iastore, 1) := by decide +kernel
theorem dX0_bringWater_140 : decode cX0_bringWater 140 = .ok (.iinc 1 1, 3) := by decide +kernel
theorem dX0_bringWater_143 : decode cX0_bringWater 143 = .ok (.goto (-52), 3) := by decide +kernel
theorem dX0_bringWater_146 : decode cX0_bringWater 146 = .ok (.aload_n 0, 1) := by decide +kernel
theorem dX0_bringWater_147 : decode cX0_bringWater 147 = .ok (.getfield 46, 3) := by decide +kernel
theorem dX0_bringWater_150 : decode cX0_bringWater 150 = .ok (.getfield 117, 3) := by decide +kernel
theorem dX0_bringWater_153 : decode cX0_bringWater 153 = .ok (.iconst 1, 1) := by decide +kernel
theorem dX0_bringWater_154 : decode cX0_bringWater 154 = .ok (.isub, 1) := by decide +kernel
theorem dX0_bringWater_155 : decode cX0_bringWater 155 = .ok (.istore_n 1, 1) := by decide +kernel
theorem dX0_bringWater_156 : decode cX0_bringWater 156 = .ok (.iload_n 1, 1) := by decide +kernel
theorem dX0_bringWater_157 : decode cX0_bringWater 157 = .ok (.ifCond .lt 64, 3) := by decide +kernel
theorem dX0_bringWater_160 : decode cX0_bringWater 160 = .ok (.aload_n 0, 1) := by decide +kernel
theorem dX0_bringWater_161 : decode cX0_bringWater 161 = .ok (.getfield 21, 3) := by decide +kernel
theorem dX0_bringWater_164 : decode cX0_bringWater 164 = .ok (.iload_n 1, 1) := by decide +kernel
theorem dX0_bringWater_165 : decode cX0_bringWater 165 = .ok (.iconst 0, 1) := by decide +kernel
theorem dX0_bringWater_166 : decode cX0_bringWater 166 = .ok (.aload_n 0, 1) := by decide +kernel
theorem dX0_bringWater_167 : decode cX0_bringWater 167 = .ok (.getfield 18, 3) := by decide +kernel
theorem dX0_bringWater_170 : decode cX0_bringWater 170 = .ok (.iload_n 1, 1) := by decide +kernel
theorem dX0_bringWater_171 : decode cX0_bringWater 171 = .ok (.iaload, 1) := by decide +kernel
theorem dX0_bringWater_172 : decode cX0_bringWater 172 = .ok (.aload_n 0, 1) := by decide +kernel
theorem dX0_bringWater_173 : decode cX0_bringWater 173 = .ok (.getfield 46, 3) := by decide +kernel
theorem dX0_bringWater_176 : decode cX0_bringWater 176 = .ok (.getfield 129, 3) := by decide +kernel
theorem dX0_bringWater_179 : decode cX0_bringWater 179 = .ok (.iload_n 1, 1) := by decide +kernel
theorem dX0_bringWater_180 : decode cX0_bringWater 180 = .ok (.iaload, 1) := by decide +kernel
theorem dX0_bringWater_181 : decode cX0_bringWater 181 = .ok (.isub, 1) := by decide +kernel
theorem dX0_bringWater_182 : decode cX0_bringWater 182 = .ok (.invokestatic 132, 3) := by decide +kernel
theorem dX0_bringWater_185 : decode cX0_bringWater 185 = .ok (.iastore, 1) := by decide +kernel
theorem dX0_bringWater_186 : decode cX0_bringWater 186 = .ok (.aload_n 0, 1) := by decide +kernel
theorem dX0_bringWater_187 : decode cX0_bringWater 187 = .ok (.getfield 46, 3) := by decide +kernel
theorem dX0_bringWater_190 : decode cX0_bringWater 190 = .ok (.getfield 135, 3) := by decide +kernel
theorem dX0_bringWater_193 : decode cX0_bringWater 193 = .ok (.iload_n 1, 1) := by decide +kernel
theorem dX0_bringWater_194 : decode cX0_bringWater 194 = .ok (.iaload, 1) := by decide +kernel
theorem dX0_bringWater_195 : decode cX0_bringWater 195 = .ok (.istore_n 2, 1) := by decide +kernel
theorem dX0_bringWater_196 : decode cX0_bringWater 196 = .ok (.iload_n 2, 1) := by decide +kernel
theorem dX0_bringWater_197 : decode cX0_bringWater 197 = .ok (.ifCond .lt 18, 3) := by decide +kernel
theorem dX0_bringWater_200 : decode cX0_bringWater 200 = .ok (.aload_n 0, 1) := by decide +kernel
theorem dX0_bringWater_201 : decode cX0_bringWater 201 = .ok (.getfield 18, 3) := by decide +kernel
theorem dX0_bringWater_204 : decode cX0_bringWater 204 = .ok (.iload_n 2, 1) := by decide +kernel
theorem dX0_bringWater_205 : decode cX0_bringWater 205 = .ok (.dup2, 1) := by decide +kernel
theorem dX0_bringWater_206 : decode cX0_bringWater 206 = .ok (.iaload, 1) := by decide +kernel
theorem dX0_bringWater_207 : decode cX0_bringWater 207 = .ok (.aload_n 0, 1) := by decide +kernel
theorem dX0_bringWater_208 : decode cX0_bringWater 208 = .ok (.getfield 21, 3) := by decide +kernel
theorem dX0_bringWater_211 : decode cX0_bringWater 211 = .ok (.iload_n 1, 1) := by decide +kernel
theorem dX0_bringWater_212 : decode cX0_bringWater 212 = .ok (.iaload, 1) := by decide +kernel
theorem dX0_bringWater_213 : decode cX0_bringWater 213 = .ok (.iadd, 1) := by decide +kernel
theorem dX0_bringWater_214 : decode cX0_bringWater 214 = .ok (.iastore, 1) := by decide +kernel
theorem dX0_bringWater_215 : decode cX0_bringWater 215 = .ok (.iinc 1 (-1), 3) := by decide +kernel
theorem dX0_bringWater_218 : decode cX0_bringWater 218 = .ok (.goto (-62), 3) := by decide +kernel
theorem dX0_bringWater_221 : decode cX0_bringWater 221 = .ok (.return_, 1) := by decide +kernel
theorem dX0_change_0 : decode cX0_change 0 = .ok (.iload_n 1, 1) := by decide +kernel
theorem dX0_change_1 : decode cX0_change 1 = .ok (.istore_n 3, 1) := by decide +kernel
theorem dX0_change_2 : decode cX0_change 2 = .ok (.iload_n 2, 1) := by decide +kernel
theorem dX0_change_3 : decode cX0_change 3 = .ok (.istore 4, 2) := by decide +kernel
theorem dX0_change_5 : decode cX0_change 5 = .ok (.iconst 0, 1) := by decide +kernel
theorem dX0_change_6 : decode cX0_change 6 = .ok (.istore 5, 2) := by decide +kernel
theorem dX0_change_8 : decode cX0_change 8 = .ok (.iload 5, 2) := by decide +kernel
theorem dX0_change_10 : decode cX0_change 10 = .ok (.bipush 12, 2) := by decide +kernel
theorem dX0_change_12 : decode cX0_change 12 = .ok (.if_icmp .ge 93, 3) := by decide +kernel
theorem dX0_change_15 : decode cX0_change 15 = .ok (.iload_n 3, 1) := by decide +kernel
theorem dX0_change_16 : decode cX0_change 16 = .ok (.ifCond .lt 89, 3) := by decide +kernel
theorem dX0_change_19 : decode cX0_change 19 = .ok (.iload 4, 2) := by decide +kernel
theorem dX0_change_21 : decode cX0_change 21 = .ok (.ifCond .eq 84, 3) := by decide +kernel
theorem dX0_change_24 : decode cX0_change 24 = .ok (.aload_n 0, 1) := by decide +kernel
theorem dX0_change_25 : decode cX0_change 25 = .ok (.getfield 21, 3) := by decide +kernel
theorem dX0_change_28 : decode cX0_change 28 = .ok (.iload_n 3, 1) := by decide +kernel
theorem dX0_change_29 : decode cX0_change 29 = .ok (.iaload, 1) := by decide +kernel
theorem dX0_change_30 : decode cX0_change 30 = .ok (.istore 6, 2) := by decide +kernel
theorem dX0_change_32 : decode cX0_change 32 = .ok (.aload_n 0, 1) := by decide +kernel
theorem dX0_change_33 : decode cX0_change 33 = .ok (.getfield 18, 3) := by decide +kernel
theorem dX0_change_36 : decode cX0_change 36 = .ok (.iload_n 3, 1) := by decide +kernel
theorem dX0_change_37 : decode cX0_change 37 = .ok (.dup2, 1) := by decide +kernel
theorem dX0_change_38 : decode cX0_change 38 = .ok (.iaload, 1) := by decide +kernel
theorem dX0_change_39 : decode cX0_change 39 = .ok (.iload 4, 2) := by decide +kernel
theorem dX0_change_41 : decode cX0_change 41 = .ok (.iadd, 1) := by decide +kernel
theorem dX0_change_42 : decode cX0_change 42 = .ok (.iastore, 1) := by decide +kernel
theorem dX0_change_43 : decode cX0_change 43 = .ok (.aload_n 0, 1) := by decide +kernel
theorem dX0_change_44 : decode cX0_change 44 = .ok (.getfield 18, 3) := by decide +kernel
theorem dX0_change_47 : decode cX0_change 47 = .ok (.iload_n 3, 1) := by decide +kernel
theorem dX0_change_48 : decode cX0_change 48 = .ok (.iaload, 1) := by decide +kernel
theorem dX0_change_49 : decode cX0_change 49 = .ok (.aload_n 0, 1) := by decide +kernel
theorem dX0_change_50 : decode cX0_change 50 = .ok (.getfield 46, 3) := by decide +kernel
theorem dX0_change_53 : decode cX0_change 53 = .ok (.getfield 129, 3) := by decide +kernel
theorem dX0_change_56 : decode cX0_change 56 = .ok (.iload_n 3, 1) := by decide +kernel
theorem dX0_change_57 : decode cX0_change 57 = .ok (.iaload, 1) := by decide +kernel
theorem dX0_change_58 : decode cX0_change 58 = .ok (.isub, 1) := by decide +kernel
theorem dX0_change_59 : decode cX0_change 59 = .ok (.istore 7, 2) := by decide +kernel
theorem dX0_change_61 : decode cX0_change 61 = .ok (.aload_n 0, 1) := by decide +kernel
theorem dX0_change_62 : decode cX0_change 62 = .ok (.getfield 21, 3) := by decide +kernel
theorem dX0_change_65 : decode cX0_change 65 = .ok (.iload_n 3, 1) := by decide +kernel
theorem dX0_change_66 : decode cX0_change 66 = .ok (.iload 7, 2) := by decide +kernel
theorem dX0_change_68 : decode cX0_change 68 = .ok (.ifCond .le 8, 3) := by decide +kernel
theorem dX0_change_71 : decode cX0_change 71 = .ok (.iload 7, 2) := by decide +kernel
theorem dX0_change_73 : decode cX0_change 73 = .ok (.goto 4, 3) := by decide +kernel
theorem dX0_change_76 : decode cX0_change 76 = .ok (.iconst 0, 1) := by decide +kernel
theorem dX0_change_77 : decode cX0_change 77 = .ok (.iastore, 1) := by decide +kernel
theorem dX0_change_78 : decode cX0_change 78 = .ok (.aload_n 0, 1) := by decide +kernel
theorem dX0_change_79 : decode cX0_change 79 = .ok (.getfield 21, 3) := by decide +kernel
theorem dX0_change_82 : decode cX0_change 82 = .ok (.iload_n 3, 1) := by decide +kernel
theorem dX0_change_83 : decode cX0_change 83 = .ok (.iaload, 1) := by decide +kernel
theorem dX0_change_84 : decode cX0_change 84 = .ok (.iload 6, 2) := by decide +kernel
theorem dX0_change_86 : decode cX0_change 86 = .ok (.isub, 1) := by decide +kernel
theorem dX0_change_87 : decode cX0_change 87 = .ok (.istore 4, 2) := by decide +kernel
theorem dX0_change_89 : decode cX0_change 89 = .ok (.aload_n 0, 1) := by decide +kernel
theorem dX0_change_90 : decode cX0_change 90 = .ok (.getfield 46, 3) := by decide +kernel
theorem dX0_change_93 : decode cX0_change 93 = .ok (.getfield 135, 3) := by decide +kernel
theorem dX0_change_96 : decode cX0_change 96 = .ok (.iload_n 3, 1) := by decide +kernel
theorem dX0_change_97 : decode cX0_change 97 = .ok (.iaload, 1) := by decide +kernel
theorem dX0_change_98 : decode cX0_change 98 = .ok (.istore_n 3, 1) := by decide +kernel
theorem dX0_change_99 : decode cX0_change 99 = .ok (.iinc 5 1, 3) := by decide +kernel
theorem dX0_change_102 : decode cX0_change 102 = .ok (.goto (-94), 3) := by decide +kernel
theorem dX0_change_105 : decode cX0_change 105 = .ok (.return_, 1) := by decide +kernel
theorem dX0_takeMost_0 : decode cX0_takeMost 0 = .ok (.iload_n 2, 1) := by decide +kernel
theorem dX0_takeMost_1 : decode cX0_takeMost 1 = .ok (.istore 4, 2) := by decide +kernel
theorem dX0_takeMost_3 : decode cX0_takeMost 3 = .ok (.iload_n 2, 1) := by decide +kernel
theorem dX0_takeMost_4 : decode cX0_takeMost 4 = .ok (.istore 5, 2) := by decide +kernel
theorem dX0_takeMost_6 : decode cX0_takeMost 6 = .ok (.iload_n 1, 1) := by decide +kernel
theorem dX0_takeMost_7 : decode cX0_takeMost 7 = .ok (.istore 6, 2) := by decide +kernel
theorem dX0_takeMost_9 : decode cX0_takeMost 9 = .ok (.iconst 0, 1) := by decide +kernel
theorem dX0_takeMost_10 : decode cX0_takeMost 10 = .ok (.istore 7, 2) := by decide +kernel
theorem dX0_takeMost_12 : decode cX0_takeMost 12 = .ok (.iload 7, 2) := by decide +kernel
theorem dX0_takeMost_14 : decode cX0_takeMost 14 = .ok (.bipush 12, 2) := by decide +kernel
theorem dX0_takeMost_16 : decode cX0_takeMost 16 = .ok (.if_icmp .ge 83, 3) := by decide +kernel
theorem dX0_takeMost_19 : decode cX0_takeMost 19 = .ok (.iload 6, 2) := by decide +kernel
theorem dX0_takeMost_21 : decode cX0_takeMost 21 = .ok (.ifCond .lt 78, 3) := by decide +kernel
theorem dX0_takeMost_24 : decode cX0_takeMost 24 = .ok (.iload 6, 2) := by decide +kernel
theorem dX0_takeMost_26 : decode cX0_takeMost 26 = .ok (.iload_n 3, 1) := by decide +kernel
theorem dX0_takeMost_27 : decode cX0_takeMost 27 = .ok (.if_icmp .eq 72, 3) := by decide +kernel
theorem dX0_takeMost_30 : decode cX0_takeMost 30 = .ok (.iload 5, 2) := by decide +kernel
theorem dX0_takeMost_32 : decode cX0_takeMost 32 = .ok (.ifCond .le 67, 3) := by decide +kernel
theorem dX0_takeMost_35 : decode cX0_takeMost 35 = .ok (.iload 5, 2) := by decide +kernel
theorem dX0_takeMost_37 : decode cX0_takeMost 37 = .ok (.aload_n 0, 1) := by decide +kernel
theorem dX0_takeMost_38 : decode cX0_takeMost 38 = .ok (.getfield 18, 3) := by decide +kernel
theorem dX0_takeMost_41 : decode cX0_takeMost 41 = .ok (.iload 6, 2) := by decide +kernel
theorem dX0_takeMost_43 : decode cX0_takeMost 43 = .ok (.iaload, 1) := by decide +kernel
theorem dX0_takeMost_44 : decode cX0_takeMost 44 = .ok (.if_icmp .le 16, 3) := by decide +kernel
theorem dX0_takeMost_47 : decode cX0_takeMost 47 = .ok (.aload_n 0, 1) := by decide +kernel
theorem dX0_takeMost_48 : decode cX0_takeMost 48 = .ok (.getfield 18, 3) := by decide +kernel
theorem dX0_takeMost_51 : decode cX0_takeMost 51 = .ok (.iload 6, 2) := by decide +kernel
theorem dX0_takeMost_53 : decode cX0_takeMost 53 = .ok (.iaload, 1) := by decide +kernel
theorem dX0_takeMost_54 : decode cX0_takeMost 54 = .ok (.istore 4, 2) := by decide +kernel
theorem dX0_takeMost_56 : decode cX0_takeMost 56 = .ok (.iload 4, 2) := by decide +kernel
theorem dX0_takeMost_58 : decode cX0_takeMost 58 = .ok (.istore 5, 2) := by decide +kernel
theorem dX0_takeMost_60 : decode cX0_takeMost 60 = .ok (.iload 5, 2) := by decide +kernel
theorem dX0_takeMost_62 : decode cX0_takeMost 62 = .ok (.aload_n 0, 1) := by decide +kernel
theorem dX0_takeMost_63 : decode cX0_takeMost 63 = .ok (.getfield 21, 3) := by decide +kernel
theorem dX0_takeMost_66 : decode cX0_takeMost 66 = .ok (.iload 6, 2) := by decide +kernel
theorem dX0_takeMost_68 : decode cX0_takeMost 68 = .ok (.iaload, 1) := by decide +kernel
theorem dX0_takeMost_69 : decode cX0_takeMost 69 = .ok (.if_icmp .le 12, 3) := by decide +kernel
theorem dX0_takeMost_72 : decode cX0_takeMost 72 = .ok (.aload_n 0, 1) := by decide +kernel
theorem dX0_takeMost_73 : decode cX0_takeMost 73 = .ok (.getfield 21, 3) := by decide +kernel
theorem dX0_takeMost_76 : decode cX0_takeMost 76 = .ok (.iload 6, 2) := by decide +kernel
theorem dX0_takeMost_78 : decode cX0_takeMost 78 = .ok (.iaload, 1) := by decide +kernel
theorem dX0_takeMost_79 : decode cX0_takeMost 79 = .ok (.istore 5, 2) := by decide +kernel
theorem dX0_takeMost_81 : decode cX0_takeMost 81 = .ok (.aload_n 0, 1) := by decide +kernel
theorem dX0_takeMost_82 : decode cX0_takeMost 82 = .ok (.getfield 46, 3) := by decide +kernel
theorem dX0_takeMost_85 : decode cX0_takeMost 85 = .ok (.getfield 135, 3) := by decide +kernel
theorem dX0_takeMost_88 : decode cX0_takeMost 88 = .ok (.iload 6, 2) := by decide +kernel
theorem dX0_takeMost_90 : decode cX0_takeMost 90 = .ok (.iaload, 1) := by decide +kernel
theorem dX0_takeMost_91 : decode cX0_takeMost 91 = .ok (.istore 6, 2) := by decide +kernel
theorem dX0_takeMost_93 : decode cX0_takeMost 93 = .ok (.iinc 7 1, 3) := by decide +kernel
theorem dX0_takeMost_96 : decode cX0_takeMost 96 = .ok (.goto (-84), 3) := by decide +kernel
theorem dX0_takeMost_99 : decode cX0_takeMost 99 = .ok (.aload_n 0, 1) := by decide +kernel
theorem dX0_takeMost_100 : decode cX0_takeMost 100 = .ok (.iload_n 1, 1) := by decide +kernel
theorem dX0_takeMost_101 : decode cX0_takeMost 101 = .ok (.iload 4, 2) := by decide +kernel
theorem dX0_takeMost_103 : decode cX0_takeMost 103 = .ok (.ineg, 1) := by decide +kernel
theorem dX0_takeMost_104 : decode cX0_takeMost 104 = .ok (.invokevirtual 182, 3) := by decide +kernel
theorem dX0_takeMost_107 : decode cX0_takeMost 107 = .ok (.iload 4, 2) := by decide +kernel
theorem dX0_takeMost_109 : decode cX0_takeMost 109 = .ok (.ireturn, 1) := by decide +kernel
theorem dX0_takeByAge_0 : decode cX0_takeByAge 0 = .ok (.iconst 0, 1) := by decide +kernel
theorem dX0_takeByAge_1 : decode cX0_takeByAge 1 = .ok (.istore_n 2, 1) := by decide +kernel
theorem dX0_takeByAge_2 : decode cX0_takeByAge 2 = .ok (.iload_n 2, 1) := by decide +kernel
theorem dX0_takeByAge_3 : decode cX0_takeByAge 3 = .ok (.aload_n 0, 1) := by decide +kernel
theorem dX0_takeByAge_4 : decode cX0_takeByAge 4 = .ok (.getfield 54, 3) := by decide +kernel
theorem dX0_takeByAge_7 : decode cX0_takeByAge 7 = .ok (.if_icmp .ge 48, 3) := by decide +kernel
theorem dX0_takeByAge_10 : decode cX0_takeByAge 10 = .ok (.aload_n 0, 1) := by decide +kernel
theorem dX0_takeByAge_11 : decode cX0_takeByAge 11 = .ok (.getfield 9, 3) := by decide +kernel
theorem dX0_takeByAge_14 : decode cX0_takeByAge 14 = .ok (.iload_n 2, 1) := by decide +kernel
theorem dX0_takeByAge_15 : decode cX0_takeByAge 15 = .ok (.iaload, 1) := by decide +kernel
theorem dX0_takeByAge_16 : decode cX0_takeByAge 16 = .ok (.istore_n 3, 1) := by decide +kernel
theorem dX0_takeByAge_17 : decode cX0_takeByAge 17 = .ok (.aload_n 0, 1) := by decide +kernel
theorem dX0_takeByAge_18 : decode cX0_takeByAge 18 = .ok (.getfield 27, 3) := by decide +kernel
theorem dX0_takeByAge_21 : decode cX0_takeByAge 21 = .ok (.iload_n 3, 1) := by decide +kernel
theorem dX0_takeByAge_22 : decode cX0_takeByAge 22 = .ok (.iload_n 3, 1) := by decide +kernel
theorem dX0_takeByAge_23 : decode cX0_takeByAge 23 = .ok (.iload_n 1, 1) := by decide +kernel
theorem dX0_takeByAge_24 : decode cX0_takeByAge 24 = .ok (.if_icmp .ne 7, 3) := by decide +kernel
theorem dX0_takeByAge_27 : decode cX0_takeByAge 27 = .ok (.iconst 0, 1) := by decide +kernel
theorem dX0_takeByAge_28 : decode cX0_takeByAge 28 = .ok (.goto 20, 3) := by decide +kernel
theorem dX0_takeByAge_31 : decode cX0_takeByAge 31 = .ok (.aload_n 0, 1) := by decide +kernel
theorem dX0_takeByAge_32 : decode cX0_takeByAge 32 = .ok (.aload_n 0, 1) := by decide +kernel
theorem dX0_takeByAge_33 : decode cX0_takeByAge 33 = .ok (.getfield 15, 3) := by decide +kernel
theorem dX0_takeByAge_36 : decode cX0_takeByAge 36 = .ok (.iload_n 3, 1) := by decide +kernel
theorem dX0_takeByAge_37 : decode cX0_takeByAge 37 = .ok (.iaload, 1) := by decide +kernel
theorem dX0_takeByAge_38 : decode cX0_takeByAge 38 = .ok (.aload_n 0, 1) := by decide +kernel
theorem dX0_takeByAge_39 : decode cX0_takeByAge 39 = .ok (.getfield 24, 3) := by decide +kernel
theorem dX0_takeByAge_42 : decode cX0_takeByAge 42 = .ok (.iload_n 3, 1) := by decide +kernel
theorem dX0_takeByAge_43 : decode cX0_takeByAge 43 = .ok (.iaload, 1) := by decide +kernel
theorem dX0_takeByAge_44 : decode cX0_takeByAge 44 = .ok (.iconst (-1), 1) := by decide +kernel
theorem dX0_takeByAge_45 : decode cX0_takeByAge 45 = .ok (.invokevirtual 168, 3) := by decide +kernel
theorem dX0_takeByAge_48 : decode cX0_takeByAge 48 = .ok (.iastore, 1) := by decide +kernel
theorem dX0_takeByAge_49 : decode cX0_takeByAge 49 = .ok (.iinc 2 1, 3) := by decide +kernel
theorem dX0_takeByAge_52 : decode cX0_takeByAge 52 = .ok (.goto (-50), 3) := by decide +kernel
theorem dX0_takeByAge_55 : decode cX0_takeByAge 55 = .ok (.return_, 1) := by decide +kernel
theorem dX0_mostAlone_0 : decode cX0_mostAlone 0 = .ok (.aload_n 0, 1) := by decide +kernel
theorem dX0_mostAlone_1 : decode cX0_mostAlone 1 = .ok (.invokevirtual 87, 3) := by decide +kernel
theorem dX0_mostAlone_4 : decode cX0_mostAlone 4 = .ok (.aload_n 0, 1) := by decide +kernel
theorem dX0_mostAlone_5 : decode cX0_mostAlone 5 = .ok (.aload_n 0, 1) := by decide +kernel
theorem dX0_mostAlone_6 : decode cX0_mostAlone 6 = .ok (.getfield 15, 3) := by decide +kernel
theorem dX0_mostAlone_9 : decode cX0_mostAlone 9 = .ok (.iload_n 1, 1) := by decide +kernel
theorem dX0_mostAlone_10 : decode cX0_mostAlone 10 = .ok (.iaload, 1) := by decide +kernel
theorem dX0_mostAlone_11 : decode cX0_mostAlone 11 = .ok (.aload_n 0, 1) := by decide +kernel
theorem dX0_mostAlone_12 : decode cX0_mostAlone 12 = .ok (.getfield 24, 3) := by decide +kernel
theorem dX0_mostAlone_15 : decode cX0_mostAlone 15 = .ok (.iload_n 1, 1) := by decide +kernel
theorem dX0_mostAlone_16 : decode cX0_mostAlone 16 = .ok (.iaload, 1) := by decide +kernel
theorem dX0_mostAlone_17 : decode cX0_mostAlone 17 = .ok (.iconst (-1), 1) := by decide +kernel
theorem dX0_mostAlone_18 : decode cX0_mostAlone 18 = .ok (.invokevirtual 168, 3) := by decide +kernel
theorem dX0_mostAlone_21 : decode cX0_mostAlone 21 = .ok (.ireturn, 1) := by decide +kernel
theorem dX0_takenBy_0 : decode cX0_takenBy 0 = .ok (.aload_n 0, 1) := by decide +kernel
theorem dX0_takenBy_1 : decode cX0_takenBy 1 = .ok (.getfield 27, 3) := by decide +kernel
theorem dX0_takenBy_4 : decode cX0_takenBy 4 = .ok (.iload_n 1, 1) := by decide +kernel
theorem dX0_takenBy_5 : decode cX0_takenBy 5 = .ok (.iaload, 1) := by decide +kernel
theorem dX0_takenBy_6 : decode cX0_takenBy 6 = .ok (.aload_n 0, 1) := by decide +kernel
theorem dX0_takenBy_7 : decode cX0_takenBy 7 = .ok (.getfield 30, 3) := by decide +kernel
theorem dX0_takenBy_10 : decode cX0_takenBy 10 = .ok (.iload_n 1, 1) := by decide +kernel
theorem dX0_takenBy_11 : decode cX0_takenBy 11 = .ok (.iaload, 1) := by decide +kernel
theorem dX0_takenBy_12 : decode cX0_takenBy 12 = .ok (.iadd, 1) := by decide +kernel
theorem dX0_takenBy_13 : decode cX0_takenBy 13 = .ok (.aload_n 0, 1) := by decide +kernel
theorem dX0_takenBy_14 : decode cX0_takenBy 14 = .ok (.getfield 33, 3) := by decide +kernel
theorem dX0_takenBy_17 : decode cX0_takenBy 17 = .ok (.iload_n 1, 1) := by decide +kernel
theorem dX0_takenBy_18 : decode cX0_takenBy 18 = .ok (.iaload, 1) := by decide +kernel
theorem dX0_takenBy_19 : decode cX0_takenBy 19 = .ok (.iadd, 1) := by decide +kernel
theorem dX0_takenBy_20 : decode cX0_takenBy 20 = .ok (.ireturn, 1) := by decide +kernel
theorem dX0_missing_0 : decode cX0_missing 0 = .ok (.aload_n 0, 1) := by decide +kernel
theorem dX0_missing_1 : decode cX0_missing 1 = .ok (.getfield 24, 3) := by decide +kernel
theorem dX0_missing_4 : decode cX0_missing 4 = .ok (.iload_n 1, 1) := by decide +kernel
theorem dX0_missing_5 : decode cX0_missing 5 = .ok (.iaload, 1) := by decide +kernel
theorem dX0_missing_6 : decode cX0_missing 6 = .ok (.aload_n 0, 1) := by decide +kernel
theorem dX0_missing_7 : decode cX0_missing 7 = .ok (.iload_n 1, 1) := by decide +kernel
theorem dX0_missing_8 : decode cX0_missing 8 = .ok (.invokevirtual 192, 3) := by decide +kernel
theorem dX0_missing_11 : decode cX0_missing 11 = .ok (.isub, 1) := by decide +kernel
theorem dX0_missing_12 : decode cX0_missing 12 = .ok (.ireturn, 1) := by decide +kernel
theorem dX0_takeByOrders_0 : decode cX0_takeByOrders 0 = .ok (.iconst 0, 1) := by decide +kernel
theorem dX0_takeByOrders_1 : decode cX0_takeByOrders 1 = .ok (.istore_n 1, 1) := by decide +kernel
theorem dX0_takeByOrders_2 : decode cX0_takeByOrders 2 = .ok (.iload_n 1, 1) := by decide +kernel
theorem dX0_takeByOrders_3 : decode cX0_takeByOrders 3 = .ok (.aload_n 0, 1) := by decide +kernel
theorem dX0_takeByOrders_4 : decode cX0_takeByOrders 4 = .ok (.getfield 46, 3) := by decide +kernel
theorem dX0_takeByOrders_7 : decode cX0_takeByOrders 7 = .ok (.getfield 57, 3) := by decide +kernel
theorem dX0_takeByOrders_10 : decode cX0_takeByOrders 10 = .ok (.if_icmp .ge 23, 3) := by decide +kernel
theorem dX0_takeByOrders_13 : decode cX0_takeByOrders 13 = .ok (.aload_n 0, 1) := by decide +kernel
theorem dX0_takeByOrders_14 : decode cX0_takeByOrders 14 = .ok (.getfield 30, 3) := by decide +kernel
theorem dX0_takeByOrders_17 : decode cX0_takeByOrders 17 = .ok (.iload_n 1, 1) := by decide +kernel
theorem dX0_takeByOrders_18 : decode cX0_takeByOrders 18 = .ok (.iconst 0, 1) := by decide +kernel
theorem dX0_takeByOrders_19 : decode cX0_takeByOrders 19 = .ok (.iastore, 1) := by decide +kernel
theorem dX0_takeByOrders_20 : decode cX0_takeByOrders 20 = .ok (.aload_n 0, 1) := by decide +kernel
theorem dX0_takeByOrders_21 : decode cX0_takeByOrders 21 = .ok (.getfield 33, 3) := by decide +kernel
theorem dX0_takeByOrders_24 : decode cX0_takeByOrders 24 = .ok (.iload_n 1, 1) := by decide +kernel
theorem dX0_takeByOrders_25 : decode cX0_takeByOrders 25 = .ok (.iconst 0, 1) := by decide +kernel
theorem dX0_takeByOrders_26 : decode cX0_takeByOrders 26 = .ok (.iastore, 1) := by decide +kernel
theorem dX0_takeByOrders_27 : decode cX0_takeByOrders 27 = .ok (.iinc 1 1, 3) := by decide +kernel
theorem dX0_takeByOrders_30 : decode cX0_takeByOrders 30 = .ok (.goto (-28), 3) := by decide +kernel
theorem dX0_takeByOrders_33 : decode cX0_takeByOrders 33 = .ok (.iconst 0, 1) := by decide +kernel
theorem dX0_takeByOrders_34 : decode cX0_takeByOrders 34 = .ok (.istore_n 1, 1) := by decide +kernel
theorem dX0_takeByOrders_35 : decode cX0_takeByOrders 35 = .ok (.iload_n 1, 1) := by decide +kernel
theorem dX0_takeByOrders_36 : decode cX0_takeByOrders 36 = .ok (.aload_n 0, 1) := by decide +kernel
theorem dX0_takeByOrders_37 : decode cX0_takeByOrders 37 = .ok (.getfield 46, 3) := by decide +kernel
theorem dX0_takeByOrders_40 : decode cX0_takeByOrders 40 = .ok (.getfield 71, 3) := by decide +kernel
theorem dX0_takeByOrders_43 : decode cX0_takeByOrders 43 = .ok (.if_icmp .ge 127, 3) := by decide +kernel
theorem dX0_takeByOrders_46 : decode cX0_takeByOrders 46 = .ok (.aload_n 0, 1) := by decide +kernel
theorem dX0_takeByOrders_47 : decode cX0_takeByOrders 47 = .ok (.getfield 50, 3) := by decide +kernel
theorem dX0_takeByOrders_50 : decode cX0_takeByOrders 50 = .ok (.getfield 172, 3) := by decide +kernel
theorem dX0_takeByOrders_53 : decode cX0_takeByOrders 53 = .ok (.iload_n 1, 1) := by decide +kernel
theorem dX0_takeByOrders_54 : decode cX0_takeByOrders 54 = .ok (.iaload, 1) := by decide +kernel
theorem dX0_takeByOrders_55 : decode cX0_takeByOrders 55 = .ok (.istore_n 2, 1) := by decide +kernel
theorem dX0_takeByOrders_56 : decode cX0_takeByOrders 56 = .ok (.aload_n 0, 1) := by decide +kernel
theorem dX0_takeByOrders_57 : decode cX0_takeByOrders 57 = .ok (.getfield 36, 3) := by decide +kernel
theorem dX0_takeByOrders_60 : decode cX0_takeByOrders 60 = .ok (.iload_n 1, 1) := by decide +kernel
theorem dX0_takeByOrders_61 : decode cX0_takeByOrders 61 = .ok (.iconst 0, 1) := by decide +kernel
theorem dX0_takeByOrders_62 : decode cX0_takeByOrders 62 = .ok (.iastore, 1) := by decide +kernel
theorem dX0_takeByOrders_63 : decode cX0_takeByOrders 63 = .ok (.iload_n 2, 1) := by decide +kernel
theorem dX0_takeByOrders_64 : decode cX0_takeByOrders 64 = .ok (.ifCond .lt 100, 3) := by decide +kernel
theorem dX0_takeByOrders_67 : decode cX0_takeByOrders 67 = .ok (.aload_n 0, 1) := by decide +kernel
theorem dX0_takeByOrders_68 : decode cX0_takeByOrders 68 = .ok (.getfield 46, 3) := by decide +kernel
theorem dX0_takeByOrders_71 : decode cX0_takeByOrders 71 = .ok (.aload_n 0, 1) := by decide +kernel
theorem dX0_takeByOrders_72 : decode cX0_takeByOrders 72 = .ok (.getfield 46, 3) := by decide +kernel
theorem dX0_takeByOrders_75 : decode cX0_takeByOrders 75 = .ok (.getfield 74, 3) := by decide +kernel
theorem dX0_takeByOrders_78 : decode cX0_takeByOrders 78 = .ok (.iload_n 1, 1) := by decide +kernel
theorem dX0_takeByOrders_79 : decode cX0_takeByOrders 79 = .ok (.iaload, 1) := by decide +kernel
theorem dX0_takeByOrders_80 : decode cX0_takeByOrders 80 = .ok (.aload_n 0, 1) := by decide +kernel
theorem dX0_takeByOrders_81 : decode cX0_takeByOrders 81 = .ok (.getfield 15, 3) := by decide +kernel
theorem dX0_takeByOrders_84 : decode cX0_takeByOrders 84 = .ok (.iload_n 2, 1) := by decide +kernel
theorem dX0_takeByOrders_85 : decode cX0_takeByOrders 85 = .ok (.iaload, 1) := by decide +kernel
theorem dX0_takeByOrders_86 : decode cX0_takeByOrders 86 = .ok (.invokevirtual 175, 3) := by decide +kernel
theorem dX0_takeByOrders_89 : decode cX0_takeByOrders 89 = .ok (.ifCond .eq 75, 3) := by decide +kernel
theorem dX0_takeByOrders_92 : decode cX0_takeByOrders 92 = .ok (.aload_n 0, 1) := by decide +kernel
theorem dX0_takeByOrders_93 : decode cX0_takeByOrders 93 = .ok (.getfield 50, 3) := by decide +kernel
theorem dX0_takeByOrders_96 : decode cX0_takeByOrders 96 = .ok (.getfield 179, 3) := by decide +kernel
theorem dX0_takeByOrders_99 : decode cX0_takeByOrders 99 = .ok (.iload_n 1, 1) := by decide +kernel
theorem dX0_takeByOrders_100 : decode cX0_takeByOrders 100 = .ok (.iaload, 1) := by decide +kernel
theorem dX0_takeByOrders_101 : decode cX0_takeByOrders 101 = .ok (.aload_n 0, 1) := by decide +kernel
theorem dX0_takeByOrders_102 : decode cX0_takeByOrders 102 = .ok (.getfield 50, 3) := by decide +kernel
theorem dX0_takeByOrders_105 : decode cX0_takeByOrders 105 = .ok (.getfield 108, 3) := by decide +kernel
theorem dX0_takeByOrders_108 : decode cX0_takeByOrders 108 = .ok (.iload_n 1, 1) := by decide +kernel
theorem dX0_takeByOrders_109 : decode cX0_takeByOrders 109 = .ok (.iaload, 1) := by decide +kernel
theorem dX0_takeByOrders_110 : decode cX0_takeByOrders 110 = .ok (.invokestatic 111, 3) := by decide +kernel
theorem dX0_takeByOrders_113 : decode cX0_takeByOrders 113 = .ok (.istore_n 3, 1) := by decide +kernel
theorem dX0_takeByOrders_114 : decode cX0_takeByOrders 114 = .ok (.aload_n 0, 1) := by decide +kernel
theorem dX0_takeByOrders_115 : decode cX0_takeByOrders 115 = .ok (.getfield 36, 3) := by decide +kernel
theorem dX0_takeByOrders_118 : decode cX0_takeByOrders 118 = .ok (.iload_n 1, 1) := by decide +kernel
theorem dX0_takeByOrders_119 : decode cX0_takeByOrders 119 = .ok (.iload_n 3, 1) := by decide +kernel
theorem dX0_takeByOrders_120 : decode cX0_takeByOrders 120 = .ok (.iastore, 1) := by decide +kernel
theorem dX0_takeByOrders_121 : decode cX0_takeByOrders 121 = .ok (.aload_n 0, 1) := by decide +kernel
theorem dX0_takeByOrders_122 : decode cX0_takeByOrders 122 = .ok (.aload_n 0, 1) := by decide +kernel
theorem dX0_takeByOrders_123 : decode cX0_takeByOrders 123 = .ok (.getfield 46, 3) := by decide +kernel
theorem dX0_takeByOrders_126 : decode cX0_takeByOrders 126 = .ok (.getfield 74, 3) := by decide +kernel
theorem dX0_takeByOrders_129 : decode cX0_takeByOrders 129 = .ok (.iload_n 1, 1) := by decide +kernel
theorem dX0_takeByOrders_130 : decode cX0_takeByOrders 130 = .ok (.iaload, 1) := by decide +kernel
theorem dX0_takeByOrders_131 : decode cX0_takeByOrders 131 = .ok (.iload_n 3, 1) := by decide +kernel
theorem dX0_takeByOrders_132 : decode cX0_takeByOrders 132 = .ok (.invokevirtual 182, 3) := by decide +kernel
theorem dX0_takeByOrders_135 : decode cX0_takeByOrders 135 = .ok (.aload_n 0, 1) := by decide +kernel
theorem dX0_takeByOrders_136 : decode cX0_takeByOrders 136 = .ok (.getfield 30, 3) := by decide +kernel
theorem dX0_takeByOrders_139 : decode cX0_takeByOrders 139 = .ok (.iload_n 2, 1) := by decide +kernel
theorem dX0_takeByOrders_140 : decode cX0_takeByOrders 140 = .ok (.dup2, 1) := by decide +kernel
theorem dX0_takeByOrders_141 : decode cX0_takeByOrders 141 = .ok (.iaload, 1) := by decide +kernel
theorem dX0_takeByOrders_142 : decode cX0_takeByOrders 142 = .ok (.aload_n 0, 1) := by decide +kernel
theorem dX0_takeByOrders_143 : decode cX0_takeByOrders 143 = .ok (.aload_n 0, 1) := by decide +kernel
theorem dX0_takeByOrders_144 : decode cX0_takeByOrders 144 = .ok (.getfield 15, 3) := by decide +kernel
theorem dX0_takeByOrders_147 : decode cX0_takeByOrders 147 = .ok (.iload_n 2, 1) := by decide +kernel
theorem dX0_takeByOrders_148 : decode cX0_takeByOrders 148 = .ok (.iaload, 1) := by decide +kernel
theorem dX0_takeByOrders_149 : decode cX0_takeByOrders 149 = .ok (.iload_n 3, 1) := by decide +kernel
theorem dX0_takeByOrders_150 : decode cX0_takeByOrders 150 = .ok (.aload_n 0, 1) := by decide +kernel
theorem dX0_takeByOrders_151 : decode cX0_takeByOrders 151 = .ok (.iload_n 2, 1) := by decide +kernel
theorem dX0_takeByOrders_152 : decode cX0_takeByOrders 152 = .ok (.invokevirtual 186, 3) := by decide +kernel
theorem dX0_takeByOrders_155 : decode cX0_takeByOrders 155 = .ok (.invokestatic 111, 3) := by decide +kernel
theorem dX0_takeByOrders_158 : decode cX0_takeByOrders 158 = .ok (.iconst (-1), 1) := by decide +kernel
theorem dX0_takeByOrders_159 : decode cX0_takeByOrders 159 = .ok (.invokevirtual 168, 3) := by decide +kernel
theorem dX0_takeByOrders_162 : decode cX0_takeByOrders 162 = .ok (.iadd, 1) := by decide +kernel
theorem dX0_takeByOrders_163 : decode cX0_takeByOrders 163 = .ok (.iastore, 1) := by decide +kernel
theorem dX0_takeByOrders_164 : decode cX0_takeByOrders 164 = .ok (.iinc 1 1, 3) := by decide +kernel
theorem dX0_takeByOrders_167 : decode cX0_takeByOrders 167 = .ok (.goto (-132), 3) := by decide +kernel
theorem dX0_takeByOrders_170 : decode cX0_takeByOrders 170 = .ok (.return_, 1) := by decide +kernel
theorem dX0_takeByBarters_0 : decode cX0_takeByBarters 0 = .ok (.iconst 0, 1) := by decide +kernel
theorem dX0_takeByBarters_1 : decode cX0_takeByBarters 1 = .ok (.istore_n 1, 1) := by decide +kernel
theorem dX0_takeByBarters_2 : decode cX0_takeByBarters 2 = .ok (.iload_n 1, 1) := by decide +kernel
theorem dX0_takeByBarters_3 : decode cX0_takeByBarters 3 = .ok (.aload_n 0, 1) := by decide +kernel
theorem dX0_takeByBarters_4 : decode cX0_takeByBarters 4 = .ok (.getfield 46, 3) := by decide +kernel
theorem dX0_takeByBarters_7 : decode cX0_takeByBarters 7 = .ok (.getfield 71, 3) := by decide +kernel
theorem dX0_takeByBarters_10 : decode cX0_takeByBarters 10 = .ok (.if_icmp .ge 16, 3) := by decide +kernel
theorem dX0_takeByBarters_13 : decode cX0_takeByBarters 13 = .ok (.aload_n 0, 1) := by decide +kernel
theorem dX0_takeByBarters_14 : decode cX0_takeByBarters 14 = .ok (.getfield 39, 3) := by decide +kernel
theorem dX0_takeByBarters_17 : decode cX0_takeByBarters 17 = .ok (.iload_n 1, 1) := by decide +kernel
theorem dX0_takeByBarters_18 : decode cX0_takeByBarters 18 = .ok (.iconst 0, 1) := by decide +kernel
theorem dX0_takeByBarters_19 : decode cX0_takeByBarters 19 = .ok (.iastore, 1) := by decide +kernel
theorem dX0_takeByBarters_20 : decode cX0_takeByBarters 20 = .ok (.iinc 1 1, 3) := by decide +kernel
theorem dX0_takeByBarters_23 : decode cX0_takeByBarters 23 = .ok (.goto (-21), 3) := by decide +kernel
theorem dX0_takeByBarters_26 : decode cX0_takeByBarters 26 = .ok (.iconst 0, 1) := by decide +kernel
theorem dX0_takeByBarters_27 : decode cX0_takeByBarters 27 = .ok (.istore_n 1, 1) := by decide +kernel
theorem dX0_takeByBarters_28 : decode cX0_takeByBarters 28 = .ok (.iload_n 1, 1) := by decide +kernel
theorem dX0_takeByBarters_29 : decode cX0_takeByBarters 29 = .ok (.aload_n 0, 1) := by decide +kernel
theorem dX0_takeByBarters_30 : decode cX0_takeByBarters 30 = .ok (.getfield 46, 3) := by decide +kernel
theorem dX0_takeByBarters_33 : decode cX0_takeByBarters 33 = .ok (.getfield 57, 3) := by decide +kernel
theorem dX0_takeByBarters_36 : decode cX0_takeByBarters 36 = .ok (.if_icmp .ge 133, 3) := by decide +kernel
theorem dX0_takeByBarters_39 : decode cX0_takeByBarters 39 = .ok (.aload_n 0, 1) := by decide +kernel
theorem dX0_takeByBarters_40 : decode cX0_takeByBarters 40 = .ok (.getfield 50, 3) := by decide +kernel
theorem dX0_takeByBarters_43 : decode cX0_takeByBarters 43 = .ok (.getfield 189, 3) := by decide +kernel
theorem dX0_takeByBarters_46 : decode cX0_takeByBarters 46 = .ok (.iload_n 1, 1) := by decide +kernel
theorem dX0_takeByBarters_47 : decode cX0_takeByBarters 47 = .ok (.iaload, 1) := by decide +kernel
theorem dX0_takeByBarters_48 : decode cX0_takeByBarters 48 = .ok (.istore_n 2, 1) := by decide +kernel
theorem dX0_takeByBarters_49 : decode cX0_takeByBarters 49 = .ok (.iload_n 2, 1) := by decide +kernel
theorem dX0_takeByBarters_50 : decode cX0_takeByBarters 50 = .ok (.ifCond .lt 113, 3) := by decide +kernel
theorem dX0_takeByBarters_53 : decode cX0_takeByBarters 53 = .ok (.aload_n 0, 1) := by decide +kernel
theorem dX0_takeByBarters_54 : decode cX0_takeByBarters 54 = .ok (.getfield 46, 3) := by decide +kernel
theorem dX0_takeByBarters_57 : decode cX0_takeByBarters 57 = .ok (.aload_n 0, 1) := by decide +kernel
theorem dX0_takeByBarters_58 : decode cX0_takeByBarters 58 = .ok (.getfield 15, 3) := by decide +kernel
theorem dX0_takeByBarters_61 : decode cX0_takeByBarters 61 = .ok (.iload_n 1, 1) := by decide +kernel
theorem dX0_takeByBarters_62 : decode cX0_takeByBarters 62 = .ok (.iaload, 1) := by decide +kernel
theorem dX0_takeByBarters_63 : decode cX0_takeByBarters 63 = .ok (.aload_n 0, 1) := by decide +kernel
theorem dX0_takeByBarters_64 : decode cX0_takeByBarters 64 = .ok (.getfield 46, 3) := by decide +kernel
theorem dX0_takeByBarters_67 : decode cX0_takeByBarters 67 = .ok (.getfield 74, 3) := by decide +kernel
theorem dX0_takeByBarters_70 : decode cX0_takeByBarters 70 = .ok (.iload_n 2, 1) := by decide +kernel
theorem dX0_takeByBarters_71 : decode cX0_takeByBarters 71 = .ok (.iaload, 1) := by decide +kernel
theorem dX0_takeByBarters_72 : decode cX0_takeByBarters 72 = .ok (.invokevirtual 175, 3) := by decide +kernel
theorem dX0_takeByBarters_75 : decode cX0_takeByBarters 75 = .ok (.ifCond .eq 88, 3) := by decide +kernel
theorem dX0_takeByBarters_78 : decode cX0_takeByBarters 78 = .ok (.aload_n 0, 1) := by decide +kernel
theorem dX0_takeByBarters_79 : decode cX0_takeByBarters 79 = .ok (.getfield 50, 3) := by decide +kernel
theorem dX0_takeByBarters_82 : decode cX0_takeByBarters 82 = .ok (.getfield 108, 3) := by decide +kernel
theorem dX0_takeByBarters_85 : decode cX0_takeByBarters 85 = .ok (.iload_n 2, 1) := by decide +kernel
theorem dX0_takeByBarters_86 : decode cX0_takeByBarters 86 = .ok (.iaload, 1) := by decide +kernel
theorem dX0_takeByBarters_87 : decode cX0_takeByBarters 87 = .ok (.aload_n 0, 1) := by decide +kernel
theorem dX0_takeByBarters_88 : decode cX0_takeByBarters 88 = .ok (.getfield 36, 3) := by decide +kernel
theorem dX0_takeByBarters_91 : decode cX0_takeByBarters 91 = .ok (.iload_n 2, 1) := by decide +kernel
theorem dX0_takeByBarters_92 : decode cX0_takeByBarters 92 = .ok (.iaload, 1) := by decide +kernel
theorem dX0_takeByBarters_93 : decode cX0_takeByBarters 93 = .ok (.isub, 1) := by decide +kernel
theorem dX0_takeByBarters_94 : decode cX0_takeByBarters 94 = .ok (.aload_n 0, 1) := by decide +kernel
theorem dX0_takeByBarters_95 : decode cX0_takeByBarters 95 = .ok (.getfield 39, 3) := by decide +kernel
theorem dX0_takeByBarters_98 : decode cX0_takeByBarters 98 = .ok (.iload_n 2, 1) := by decide +kernel
theorem dX0_takeByBarters_99 : decode cX0_takeByBarters 99 = .ok (.iaload, 1) := by decide +kernel
theorem dX0_takeByBarters_100 : decode cX0_takeByBarters 100 = .ok (.isub, 1) := by decide +kernel
theorem dX0_takeByBarters_101 : decode cX0_takeByBarters 101 = .ok (.istore_n 3, 1) := by decide +kernel
theorem dX0_takeByBarters_102 : decode cX0_takeByBarters 102 = .ok (.aload_n 0, 1) := by decide +kernel
theorem dX0_takeByBarters_103 : decode cX0_takeByBarters 103 = .ok (.getfield 46, 3) := by decide +kernel
theorem dX0_takeByBarters_106 : decode cX0_takeByBarters 106 = .ok (.getfield 74, 3) := by decide +kernel
theorem dX0_takeByBarters_109 : decode cX0_takeByBarters 109 = .ok (.iload_n 2, 1) := by decide +kernel
theorem dX0_takeByBarters_110 : decode cX0_takeByBarters 110 = .ok (.iaload, 1) := by decide +kernel
theorem dX0_takeByBarters_111 : decode cX0_takeByBarters 111 = .ok (.istore 4, 2) := by decide +kernel
theorem dX0_takeByBarters_113 : decode cX0_takeByBarters 113 = .ok (.aload_n 0, 1) := by decide +kernel
theorem dX0_takeByBarters_114 : decode cX0_takeByBarters 114 = .ok (.aload_n 0, 1) := by decide +kernel
theorem dX0_takeByBarters_115 : decode cX0_takeByBarters 115 = .ok (.getfield 15, 3) := by decide +kernel
theorem dX0_takeByBarters_118 : decode cX0_takeByBarters 118 = .ok (.iload_n 1, 1) := by decide +kernel
theorem dX0_takeByBarters_119 : decode cX0_takeByBarters 119 = .ok (.iaload, 1) := by decide +kernel
theorem dX0_takeByBarters_120 : decode cX0_takeByBarters 120 = .ok (.iload_n 3, 1) := by decide +kernel
theorem dX0_takeByBarters_121 : decode cX0_takeByBarters 121 = .ok (.aload_n 0, 1) := by decide +kernel
theorem dX0_takeByBarters_122 : decode cX0_takeByBarters 122 = .ok (.iload_n 1, 1) := by decide +kernel
theorem dX0_takeByBarters_123 : decode cX0_takeByBarters 123 = .ok (.invokevirtual 186, 3) := by decide +kernel
theorem dX0_takeByBarters_126 : decode cX0_takeByBarters 126 = .ok (.invokestatic 111, 3) := by decide +kernel
theorem dX0_takeByBarters_129 : decode cX0_takeByBarters 129 = .ok (.iload 4, 2) := by decide +kernel
theorem dX0_takeByBarters_131 : decode cX0_takeByBarters 131 = .ok (.invokevirtual 168, 3) := by decide +kernel
theorem dX0_takeByBarters_134 : decode cX0_takeByBarters 134 = .ok (.istore 5, 2) := by decide +kernel
theorem dX0_takeByBarters_136 : decode cX0_takeByBarters 136 = .ok (.aload_n 0, 1) := by decide +kernel
theorem dX0_takeByBarters_137 : decode cX0_takeByBarters 137 = .ok (.iload 4, 2) := by decide +kernel
theorem dX0_takeByBarters_139 : decode cX0_takeByBarters 139 = .ok (.iload 5, 2) := by decide +kernel
theorem dX0_takeByBarters_141 : decode cX0_takeByBarters 141 = .ok (.invokevirtual 182, 3) := by decide +kernel
theorem dX0_takeByBarters_144 : decode cX0_takeByBarters 144 = .ok (.aload_n 0, 1) := by decide +kernel
theorem dX0_takeByBarters_145 : decode cX0_takeByBarters 145 = .ok (.getfield 39, 3) := by decide +kernel
theorem dX0_takeByBarters_148 : decode cX0_takeByBarters 148 = .ok (.iload_n 2, 1) := by decide +kernel
theorem dX0_takeByBarters_149 : decode cX0_takeByBarters 149 = .ok (.dup2, 1) := by decide +kernel
theorem dX0_takeByBarters_150 : decode cX0_takeByBarters 150 = .ok (.iaload, 1) := by decide +kernel
theorem dX0_takeByBarters_151 : decode cX0_takeByBarters 151 = .ok (.iload 5, 2) := by decide +kernel
theorem dX0_takeByBarters_153 : decode cX0_takeByBarters 153 = .ok (.iadd, 1) := by decide +kernel
theorem dX0_takeByBarters_154 : decode cX0_takeByBarters 154 = .ok (.iastore, 1) := by decide +kernel
theorem dX0_takeByBarters_155 : decode cX0_takeByBarters 155 = .ok (.aload_n 0, 1) := by decide +kernel
theorem dX0_takeByBarters_156 : decode cX0_takeByBarters 156 = .ok (.getfield 33, 3) := by decide +kernel
theorem dX0_takeByBarters_159 : decode cX0_takeByBarters 159 = .ok (.iload_n 1, 1) := by decide +kernel
theorem dX0_takeByBarters_160 : decode cX0_takeByBarters 160 = .ok (.iload 5, 2) := by decide +kernel
theorem dX0_takeByBarters_162 : decode cX0_takeByBarters 162 = .ok (.iastore, 1) := by decide +kernel
theorem dX0_takeByBarters_163 : decode cX0_takeByBarters 163 = .ok (.iinc 1 1, 3) := by decide +kernel
theorem dX0_takeByBarters_166 : decode cX0_takeByBarters 166 = .ok (.goto (-138), 3) := by decide +kernel
theorem dX0_takeByBarters_169 : decode cX0_takeByBarters 169 = .ok (.return_, 1) := by decide +kernel
theorem dX0_work_0 : decode cX0_work 0 = .ok (.aload_n 0, 1) := by decide +kernel
theorem dX0_work_1 : decode cX0_work 1 = .ok (.invokevirtual 87, 3) := by decide +kernel
theorem dX0_work_4 : decode cX0_work 4 = .ok (.aload_n 0, 1) := by decide +kernel
theorem dX0_work_5 : decode cX0_work 5 = .ok (.iconst (-1), 1) := by decide +kernel
theorem dX0_work_6 : decode cX0_work 6 = .ok (.invokevirtual 90, 3) := by decide +kernel
theorem dX0_work_9 : decode cX0_work 9 = .ok (.aload_n 0, 1) := by decide +kernel
theorem dX0_work_10 : decode cX0_work 10 = .ok (.invokevirtual 93, 3) := by decide +kernel
theorem dX0_work_13 : decode cX0_work 13 = .ok (.aload_n 0, 1) := by decide +kernel
theorem dX0_work_14 : decode cX0_work 14 = .ok (.invokevirtual 96, 3) := by decide +kernel
theorem dX0_work_17 : decode cX0_work 17 = .ok (.return_, 1) := by decide +kernel
theorem dX0_isShort_0 : decode cX0_isShort 0 = .ok (.aload_n 0, 1) := by decide +kernel
theorem dX0_isShort_1 : decode cX0_isShort 1 = .ok (.iload_n 1, 1) := by decide +kernel
theorem dX0_isShort_2 : decode cX0_isShort 2 = .ok (.invokevirtual 186, 3) := by decide +kernel
theorem dX0_isShort_5 : decode cX0_isShort 5 = .ok (.ifCond .le 7, 3) := by decide +kernel
theorem dX0_isShort_8 : decode cX0_isShort 8 = .ok (.iconst 1, 1) := by decide +kernel
theorem dX0_isShort_9 : decode cX0_isShort 9 = .ok (.goto 4, 3) := by decide +kernel
theorem dX0_isShort_12 : decode cX0_isShort 12 = .ok (.iconst 0, 1) := by decide +kernel
theorem dX0_isShort_13 : decode cX0_isShort 13 = .ok (.ireturn, 1) := by decide +kernel
theorem dX0_someCalls_0 : decode cX0_someCalls 0 = .ok (.iconst 0, 1) := by decide +kernel
theorem dX0_someCalls_1 : decode cX0_someCalls 1 = .ok (.istore_n 1, 1) := by decide +kernel
theorem dX0_someCalls_2 : decode cX0_someCalls 2 = .ok (.iload_n 1, 1) := by decide +kernel
theorem dX0_someCalls_3 : decode cX0_someCalls 3 = .ok (.aload_n 0, 1) := by decide +kernel
theorem dX0_someCalls_4 : decode cX0_someCalls 4 = .ok (.getfield 46, 3) := by decide +kernel
theorem dX0_someCalls_7 : decode cX0_someCalls 7 = .ok (.getfield 57, 3) := by decide +kernel
theorem dX0_someCalls_10 : decode cX0_someCalls 10 = .ok (.if_icmp .ge 19, 3) := by decide +kernel
theorem dX0_someCalls_13 : decode cX0_someCalls 13 = .ok (.aload_n 0, 1) := by decide +kernel
theorem dX0_someCalls_14 : decode cX0_someCalls 14 = .ok (.iload_n 1, 1) := by decide +kernel
theorem dX0_someCalls_15 : decode cX0_someCalls 15 = .ok (.invokevirtual 195, 3) := by decide +kernel
theorem dX0_someCalls_18 : decode cX0_someCalls 18 = .ok (.ifCond .eq 5, 3) := by decide +kernel
theorem dX0_someCalls_21 : decode cX0_someCalls 21 = .ok (.iconst 1, 1) := by decide +kernel
theorem dX0_someCalls_22 : decode cX0_someCalls 22 = .ok (.ireturn, 1) := by decide +kernel
theorem dX0_someCalls_23 : decode cX0_someCalls 23 = .ok (.iinc 1 1, 3) := by decide +kernel
theorem dX0_someCalls_26 : decode cX0_someCalls 26 = .ok (.goto (-24), 3) := by decide +kernel
theorem dX0_someCalls_29 : decode cX0_someCalls 29 = .ok (.iconst 0, 1) := by decide +kernel
theorem dX0_someCalls_30 : decode cX0_someCalls 30 = .ok (.ireturn, 1) := by decide +kernel
theorem dX0_takenAt_0 : decode cX0_takenAt 0 = .ok (.iconst 0, 1) := by decide +kernel
theorem dX0_takenAt_1 : decode cX0_takenAt 1 = .ok (.istore_n 2, 1) := by decide +kernel
theorem dX0_takenAt_2 : decode cX0_takenAt 2 = .ok (.iconst 0, 1) := by decide +kernel
theorem dX0_takenAt_3 : decode cX0_takenAt 3 = .ok (.istore_n 3, 1) := by decide +kernel
theorem dX0_takenAt_4 : decode cX0_takenAt 4 = .ok (.iload_n 3, 1) := by decide +kernel
theorem dX0_takenAt_5 : decode cX0_takenAt 5 = .ok (.aload_n 0, 1) := by decide +kernel
theorem dX0_takenAt_6 : decode cX0_takenAt 6 = .ok (.getfield 54, 3) := by decide +kernel
theorem dX0_takenAt_9 : decode cX0_takenAt 9 = .ok (.if_icmp .ge 54, 3) := by decide +kernel
theorem dX0_takenAt_12 : decode cX0_takenAt 12 = .ok (.aload_n 0, 1) := by decide +kernel
theorem dX0_takenAt_13 : decode cX0_takenAt 13 = .ok (.getfield 9, 3) := by decide +kernel
theorem dX0_takenAt_16 : decode cX0_takenAt 16 = .ok (.iload_n 3, 1) := by decide +kernel
theorem dX0_takenAt_17 : decode cX0_takenAt 17 = .ok (.iaload, 1) := by decide +kernel
theorem dX0_takenAt_18 : decode cX0_takenAt 18 = .ok (.istore 4, 2) := by decide +kernel
theorem dX0_takenAt_20 : decode cX0_takenAt 20 = .ok (.aload_n 0, 1) := by decide +kernel
theorem dX0_takenAt_21 : decode cX0_takenAt 21 = .ok (.getfield 15, 3) := by decide +kernel
theorem dX0_takenAt_24 : decode cX0_takenAt 24 = .ok (.iload 4, 2) := by decide +kernel
theorem dX0_takenAt_26 : decode cX0_takenAt 26 = .ok (.iaload, 1) := by decide +kernel
theorem dX0_takenAt_27 : decode cX0_takenAt 27 = .ok (.iload_n 1, 1) := by decide +kernel
theorem dX0_takenAt_28 : decode cX0_takenAt 28 = .ok (.if_icmp .ne 29, 3) := by decide +kernel
theorem dX0_takenAt_31 : decode cX0_takenAt 31 = .ok (.iload_n 2, 1) := by decide +kernel
theorem dX0_takenAt_32 : decode cX0_takenAt 32 = .ok (.iload 4, 2) := by decide +kernel
theorem dX0_takenAt_34 : decode cX0_takenAt 34 = .ok (.bipush 14, 2) := by decide +kernel
theorem dX0_takenAt_36 : decode cX0_takenAt 36 = .ok (.if_icmp .ge 12, 3) := by decide +kernel
theorem dX0_takenAt_39 : decode cX0_takenAt 39 = .ok (.aload_n 0, 1) := by decide +kernel
theorem dX0_takenAt_40 : decode cX0_takenAt 40 = .ok (.iload 4, 2) := by decide +kernel
theorem dX0_takenAt_42 : decode cX0_takenAt 42 = .ok (.invokevirtual 192, 3) := by decide +kernel
theorem dX0_takenAt_45 : decode cX0_takenAt 45 = .ok (.goto 10, 3) := by decide +kernel
theorem dX0_takenAt_48 : decode cX0_takenAt 48 = .ok (.aload_n 0, 1) := by decide +kernel
theorem dX0_takenAt_49 : decode cX0_takenAt 49 = .ok (.getfield 27, 3) := by decide +kernel
theorem dX0_takenAt_52 : decode cX0_takenAt 52 = .ok (.iload 4, 2) := by decide +kernel
theorem dX0_takenAt_54 : decode cX0_takenAt 54 = .ok (.iaload, 1) := by decide +kernel
theorem dX0_takenAt_55 : decode cX0_takenAt 55 = .ok (.iadd, 1) := by decide +kernel
theorem dX0_takenAt_56 : decode cX0_takenAt 56 = .ok (.istore_n 2, 1) := by decide +kernel
theorem dX0_takenAt_57 : decode cX0_takenAt 57 = .ok (.iinc 3 1, 3) := by decide +kernel
theorem dX0_takenAt_60 : decode cX0_takenAt 60 = .ok (.goto (-56), 3) := by decide +kernel
theorem dX0_takenAt_63 : decode cX0_takenAt 63 = .ok (.iload_n 2, 1) := by decide +kernel
theorem dX0_takenAt_64 : decode cX0_takenAt 64 = .ok (.ireturn, 1) := by decide +kernel
theorem dX0_filledInto_0 : decode cX0_filledInto 0 = .ok (.aload_n 0, 1) := by decide +kernel
theorem dX0_filledInto_1 : decode cX0_filledInto 1 = .ok (.getfield 27, 3) := by decide +kernel
theorem dX0_filledInto_4 : decode cX0_filledInto 4 = .ok (.bipush 14, 2) := by decide +kernel
theorem dX0_filledInto_6 : decode cX0_filledInto 6 = .ok (.iload_n 1, 1) := by decide +kernel
theorem dX0_filledInto_7 : decode cX0_filledInto 7 = .ok (.iadd, 1) := by decide +kernel
theorem dX0_filledInto_8 : decode cX0_filledInto 8 = .ok (.iaload, 1) := by decide +kernel
theorem dX0_filledInto_9 : decode cX0_filledInto 9 = .ok (.ireturn, 1) := by decide +kernel
theorem dX0_contentBehind_0 : decode cX0_contentBehind 0 = .ok (.aload_n 0, 1) := by decide +kernel
theorem dX0_contentBehind_1 : decode cX0_contentBehind 1 = .ok (.getfield 50, 3) := by decide +kernel
theorem dX0_contentBehind_4 : decode cX0_contentBehind 4 = .ok (.getfield 108, 3) := by decide +kernel
theorem dX0_contentBehind_7 : decode cX0_contentBehind 7 = .ok (.iload_n 1, 1) := by decide +kernel
theorem dX0_contentBehind_8 : decode cX0_contentBehind 8 = .ok (.iaload, 1) := by decide +kernel
theorem dX0_contentBehind_9 : decode cX0_contentBehind 9 = .ok (.aload_n 0, 1) := by decide +kernel
theorem dX0_contentBehind_10 : decode cX0_contentBehind 10 = .ok (.iload_n 1, 1) := by decide +kernel
theorem dX0_contentBehind_11 : decode cX0_contentBehind 11 = .ok (.invokevirtual 199, 3) := by decide +kernel
theorem dX0_contentBehind_14 : decode cX0_contentBehind 14 = .ok (.iadd, 1) := by decide +kernel
theorem dX0_contentBehind_15 : decode cX0_contentBehind 15 = .ok (.aload_n 0, 1) := by decide +kernel
theorem dX0_contentBehind_16 : decode cX0_contentBehind 16 = .ok (.getfield 36, 3) := by decide +kernel
theorem dX0_contentBehind_19 : decode cX0_contentBehind 19 = .ok (.iload_n 1, 1) := by decide +kernel
theorem dX0_contentBehind_20 : decode cX0_contentBehind 20 = .ok (.iaload, 1) := by decide +kernel
theorem dX0_contentBehind_21 : decode cX0_contentBehind 21 = .ok (.isub, 1) := by decide +kernel
theorem dX0_contentBehind_22 : decode cX0_contentBehind 22 = .ok (.aload_n 0, 1) := by decide +kernel
theorem dX0_contentBehind_23 : decode cX0_contentBehind 23 = .ok (.getfield 39, 3) := by decide +kernel
theorem dX0_contentBehind_26 : decode cX0_contentBehind 26 = .ok (.iload_n 1, 1) := by decide +kernel
theorem dX0_contentBehind_27 : decode cX0_contentBehind 27 = .ok (.iaload, 1) := by decide +kernel
theorem dX0_contentBehind_28 : decode cX0_contentBehind 28 = .ok (.isub, 1) := by decide +kernel
theorem dX0_contentBehind_29 : decode cX0_contentBehind 29 = .ok (.ireturn, 1) := by decide +kernel
theorem dX0_passReaches_0 : decode cX0_passReaches 0 = .ok (.aload_n 0, 1) := by decide +kernel
theorem dX0_passReaches_1 : decode cX0_passReaches 1 = .ok (.getfield 50, 3) := by decide +kernel
theorem dX0_passReaches_4 : decode cX0_passReaches 4 = .ok (.iconst 0, 1) := by decide +kernel
theorem dX0_passReaches_5 : decode cX0_passReaches 5 = .ok (.invokevirtual 165, 3) := by decide +kernel
theorem dX0_passReaches_8 : decode cX0_passReaches 8 = .ok (.istore_n 1, 1) := by decide +kernel
theorem dX0_passReaches_9 : decode cX0_passReaches 9 = .ok (.iconst 0, 1) := by decide +kernel
theorem dX0_passReaches_10 : decode cX0_passReaches 10 = .ok (.istore_n 2, 1) := by decide +kernel
theorem dX0_passReaches_11 : decode cX0_passReaches 11 = .ok (.iload_n 2, 1) := by decide +kernel
theorem dX0_passReaches_12 : decode cX0_passReaches 12 = .ok (.aload_n 0, 1) := by decide +kernel
theorem dX0_passReaches_13 : decode cX0_passReaches 13 = .ok (.getfield 46, 3) := by decide +kernel
theorem dX0_passReaches_16 : decode cX0_passReaches 16 = .ok (.getfield 117, 3) := by decide +kernel
theorem dX0_passReaches_19 : decode cX0_passReaches 19 = .ok (.if_icmp .ge 120, 3) := by decide +kernel
theorem dX0_passReaches_22 : decode cX0_passReaches 22 = .ok (.aload_n 0, 1) := by decide +kernel
theorem dX0_passReaches_23 : decode cX0_passReaches 23 = .ok (.getfield 50, 3) := by decide +kernel
theorem dX0_passReaches_26 : decode cX0_passReaches 26 = .ok (.getfield 211, 3) := by decide +kernel
theorem dX0_passReaches_29 : decode cX0_passReaches 29 = .ok (.iconst 0, 1) := by decide +kernel
theorem dX0_passReaches_30 : decode cX0_passReaches 30 = .ok (.dup2, 1) := by decide +kernel
theorem dX0_passReaches_31 : decode cX0_passReaches 31 = .ok (.laload, 1) := by decide +kernel
theorem dX0_passReaches_32 : decode cX0_passReaches 32 = .ok (.aload_n 0, 1) := by decide +kernel
theorem dX0_passReaches_33 : decode cX0_passReaches 33 = .ok (.iload_n 2, 1) := by decide +kernel
theorem dX0_passReaches_34 : decode cX0_passReaches 34 = .ok (.invokevirtual 120, 3) := by decide +kernel
theorem dX0_passReaches_37 : decode cX0_passReaches 37 = .ok (.i2l, 1) := by decide +kernel
theorem dX0_passReaches_38 : decode cX0_passReaches 38 = .ok (.ladd, 1) := by decide +kernel
theorem dX0_passReaches_39 : decode cX0_passReaches 39 = .ok (.lastore, 1) := by decide +kernel
theorem dX0_passReaches_40 : decode cX0_passReaches 40 = .ok (.aload_n 0, 1) := by decide +kernel
theorem dX0_passReaches_41 : decode cX0_passReaches 41 = .ok (.getfield 50, 3) := by decide +kernel
theorem dX0_passReaches_44 : decode cX0_passReaches 44 = .ok (.getfield 211, 3) := by decide +kernel
theorem dX0_passReaches_47 : decode cX0_passReaches 47 = .ok (.iconst 4, 1) := by decide +kernel
theorem dX0_passReaches_48 : decode cX0_passReaches 48 = .ok (.dup2, 1) := by decide +kernel
theorem dX0_passReaches_49 : decode cX0_passReaches 49 = .ok (.laload, 1) := by decide +kernel
theorem dX0_passReaches_50 : decode cX0_passReaches 50 = .ok (.aload_n 0, 1) := by decide +kernel
theorem dX0_passReaches_51 : decode cX0_passReaches 51 = .ok (.getfield 50, 3) := by decide +kernel
theorem dX0_passReaches_54 : decode cX0_passReaches 54 = .ok (.getfield 162, 3) := by decide +kernel
theorem dX0_passReaches_57 : decode cX0_passReaches 57 = .ok (.iload_n 1, 1) := by decide +kernel
theorem dX0_passReaches_58 : decode cX0_passReaches 58 = .ok (.iload_n 2, 1) := by decide +kernel
theorem dX0_passReaches_59 : decode cX0_passReaches 59 = .ok (.iadd, 1) := by decide +kernel
theorem dX0_passReaches_60 : decode cX0_passReaches 60 = .ok (.iaload, 1) := by decide +kernel
theorem dX0_passReaches_61 : decode cX0_passReaches 61 = .ok (.i2l, 1) := by decide +kernel
theorem dX0_passReaches_62 : decode cX0_passReaches 62 = .ok (.ladd, 1) := by decide +kernel
theorem dX0_passReaches_63 : decode cX0_passReaches 63 = .ok (.lastore, 1) := by decide +kernel
theorem dX0_passReaches_64 : decode cX0_passReaches 64 = .ok (.aload_n 0, 1) := by decide +kernel
theorem dX0_passReaches_65 : decode cX0_passReaches 65 = .ok (.getfield 50, 3) := by decide +kernel
theorem dX0_passReaches_68 : decode cX0_passReaches 68 = .ok (.getfield 211, 3) := by decide +kernel
theorem dX0_passReaches_71 : decode cX0_passReaches 71 = .ok (.iconst 2, 1) := by decide +kernel
theorem dX0_passReaches_72 : decode cX0_passReaches 72 = .ok (.dup2, 1) := by decide +kernel
theorem dX0_passReaches_73 : decode cX0_passReaches 73 = .ok (.laload, 1) := by decide +kernel
theorem dX0_passReaches_74 : decode cX0_passReaches 74 = .ok (.aload_n 0, 1) := by decide +kernel
theorem dX0_passReaches_75 : decode cX0_passReaches 75 = .ok (.getfield 18, 3) := by decide +kernel
theorem dX0_passReaches_78 : decode cX0_passReaches 78 = .ok (.iload_n 2, 1) := by decide +kernel
theorem dX0_passReaches_79 : decode cX0_passReaches 79 = .ok (.iaload, 1) := by decide +kernel
theorem dX0_passReaches_80 : decode cX0_passReaches 80 = .ok (.aload_n 0, 1) := by decide +kernel
theorem dX0_passReaches_81 : decode cX0_passReaches 81 = .ok (.getfield 21, 3) := by decide +kernel
theorem dX0_passReaches_84 : decode cX0_passReaches 84 = .ok (.iload_n 2, 1) := by decide +kernel
theorem dX0_passReaches_85 : decode cX0_passReaches 85 = .ok (.iaload, 1) := by decide +kernel
theorem dX0_passReaches_86 : decode cX0_passReaches 86 = .ok (.isub, 1) := by decide +kernel
theorem dX0_passReaches_87 : decode cX0_passReaches 87 = .ok (.i2l, 1) := by decide +kernel
theorem dX0_passReaches_88 : decode cX0_passReaches 88 = .ok (.ladd, 1) := by decide +kernel
theorem dX0_passReaches_89 : decode cX0_passReaches 89 = .ok (.lastore, 1) := by decide +kernel
theorem dX0_passReaches_90 : decode cX0_passReaches 90 = .ok (.aload_n 0, 1) := by decide +kernel
theorem dX0_passReaches_91 : decode cX0_passReaches 91 = .ok (.getfield 46, 3) := by decide +kernel
theorem dX0_passReaches_94 : decode cX0_passReaches 94 = .ok (.getfield 135, 3) := by decide +kernel
theorem dX0_passReaches_97 : decode cX0_passReaches 97 = .ok (.iload_n 2, 1) := by decide +kernel
theorem dX0_passReaches_98 : decode cX0_passReaches 98 = .ok (.iaload, 1) := by decide +kernel
theorem dX0_passReaches_99 : decode cX0_passReaches 99 = .ok (.ifCond .ge 22, 3) := by decide +kernel
theorem dX0_passReaches_102 : decode cX0_passReaches 102 = .ok (.aload_n 0, 1) := by decide +kernel
theorem dX0_passReaches_103 : decode cX0_passReaches 103 = .ok (.getfield 50, 3) := by decide +kernel
theorem dX0_passReaches_106 : decode cX0_passReaches 106 = .ok (.getfield 211, 3) := by decide +kernel
theorem dX0_passReaches_109 : decode cX0_passReaches 109 = .ok (.iconst 1, 1) := by decide +kernel
theorem dX0_passReaches_110 : decode cX0_passReaches 110 = .ok (.dup2, 1) := by decide +kernel
theorem dX0_passReaches_111 : decode cX0_passReaches 111 = .ok (.laload, 1) := by decide +kernel
theorem dX0_passReaches_112 : decode cX0_passReaches 112 = .ok (.aload_n 0, 1) := by decide +kernel
theorem dX0_passReaches_113 : decode cX0_passReaches 113 = .ok (.getfield 21, 3) := by decide +kernel
theorem dX0_passReaches_116 : decode cX0_passReaches 116 = .ok (.iload_n 2, 1) := by decide +kernel
theorem dX0_passReaches_117 : decode cX0_passReaches 117 = .ok (.iaload, 1) := by decide +kernel
theorem dX0_passReaches_118 : decode cX0_passReaches 118 = .ok (.i2l, 1) := by decide +kernel
theorem dX0_passReaches_119 : decode cX0_passReaches 119 = .ok (.ladd, 1) := by decide +kernel
theorem dX0_passReaches_120 : decode cX0_passReaches 120 = .ok (.lastore, 1) := by decide +kernel
theorem dX0_passReaches_121 : decode cX0_passReaches 121 = .ok (.aload_n 0, 1) := by decide +kernel
theorem dX0_passReaches_122 : decode cX0_passReaches 122 = .ok (.getfield 50, 3) := by decide +kernel
theorem dX0_passReaches_125 : decode cX0_passReaches 125 = .ok (.getfield 162, 3) := by decide +kernel
theorem dX0_passReaches_128 : decode cX0_passReaches 128 = .ok (.iload_n 1, 1) := by decide +kernel
theorem dX0_passReaches_129 : decode cX0_passReaches 129 = .ok (.iload_n 2, 1) := by decide +kernel
theorem dX0_passReaches_130 : decode cX0_passReaches 130 = .ok (.iadd, 1) := by decide +kernel
theorem dX0_passReaches_131 : decode cX0_passReaches 131 = .ok (.iconst 0, 1) := by decide +kernel
theorem dX0_passReaches_132 : decode cX0_passReaches 132 = .ok (.iastore, 1) := by decide +kernel
theorem dX0_passReaches_133 : decode cX0_passReaches 133 = .ok (.iinc 2 1, 3) := by decide +kernel
theorem dX0_passReaches_136 : decode cX0_passReaches 136 = .ok (.goto (-125), 3) := by decide +kernel
theorem dX0_passReaches_139 : decode cX0_passReaches 139 = .ok (.return_, 1) := by decide +kernel
theorem dX0_passRight_0 : decode cX0_passRight 0 = .ok (.aload_n 0, 1) := by decide +kernel
theorem dX0_passRight_1 : decode cX0_passRight 1 = .ok (.iload_n 1, 1) := by decide +kernel
theorem dX0_passRight_2 : decode cX0_passRight 2 = .ok (.invokevirtual 192, 3) := by decide +kernel
theorem dX0_passRight_5 : decode cX0_passRight 5 = .ok (.istore_n 2, 1) := by decide +kernel
theorem dX0_passRight_6 : decode cX0_passRight 6 = .ok (.aload_n 0, 1) := by decide +kernel
theorem dX0_passRight_7 : decode cX0_passRight 7 = .ok (.getfield 46, 3) := by decide +kernel
theorem dX0_passRight_10 : decode cX0_passRight 10 = .ok (.getfield 150, 3) := by decide +kernel
theorem dX0_passRight_13 : decode cX0_passRight 13 = .ok (.iload_n 1, 1) := by decide +kernel
theorem dX0_passRight_14 : decode cX0_passRight 14 = .ok (.iaload, 1) := by decide +kernel
theorem dX0_passRight_15 : decode cX0_passRight 15 = .ok (.ifCond .le 16, 3) := by decide +kernel
theorem dX0_passRight_18 : decode cX0_passRight 18 = .ok (.aload_n 0, 1) := by decide +kernel
theorem dX0_passRight_19 : decode cX0_passRight 19 = .ok (.getfield 50, 3) := by decide +kernel
theorem dX0_passRight_22 : decode cX0_passRight 22 = .ok (.getfield 153, 3) := by decide +kernel
theorem dX0_passRight_25 : decode cX0_passRight 25 = .ok (.iload_n 1, 1) := by decide +kernel
theorem dX0_passRight_26 : decode cX0_passRight 26 = .ok (.dup2, 1) := by decide +kernel
theorem dX0_passRight_27 : decode cX0_passRight 27 = .ok (.iaload, 1) := by decide +kernel
theorem dX0_passRight_28 : decode cX0_passRight 28 = .ok (.iload_n 2, 1) := by decide +kernel
theorem dX0_passRight_29 : decode cX0_passRight 29 = .ok (.isub, 1) := by decide +kernel
theorem dX0_passRight_30 : decode cX0_passRight 30 = .ok (.iastore, 1) := by decide +kernel
theorem dX0_passRight_31 : decode cX0_passRight 31 = .ok (.aload_n 0, 1) := by decide +kernel
theorem dX0_passRight_32 : decode cX0_passRight 32 = .ok (.getfield 50, 3) := by decide +kernel
theorem dX0_passRight_35 : decode cX0_passRight 35 = .ok (.getfield 219, 3) := by decide +kernel
theorem dX0_passRight_38 : decode cX0_passRight 38 = .ok (.iload_n 1, 1) := by decide +kernel
theorem dX0_passRight_39 : decode cX0_passRight 39 = .ok (.dup2, 1) := by decide +kernel
theorem dX0_passRight_40 : decode cX0_passRight 40 = .ok (.iaload, 1) := by decide +kernel
theorem dX0_passRight_41 : decode cX0_passRight 41 = .ok (.iload_n 2, 1) := by decide +kernel
theorem dX0_passRight_42 : decode cX0_passRight 42 = .ok (.iadd, 1) := by decide +kernel
theorem dX0_passRight_43 : decode cX0_passRight 43 = .ok (.iastore, 1) := by decide +kernel
theorem dX0_passRight_44 : decode cX0_passRight 44 = .ok (.aload_n 0, 1) := by decide +kernel
theorem dX0_passRight_45 : decode cX0_passRight 45 = .ok (.getfield 50, 3) := by decide +kernel
theorem dX0_passRight_48 : decode cX0_passRight 48 = .ok (.getfield 211, 3) := by decide +kernel
theorem dX0_passRight_51 : decode cX0_passRight 51 = .ok (.iconst 3, 1) := by decide +kernel
theorem dX0_passRight_52 : decode cX0_passRight 52 = .ok (.dup2, 1) := by decide +kernel
theorem dX0_passRight_53 : decode cX0_passRight 53 = .ok (.laload, 1) := by decide +kernel
theorem dX0_passRight_54 : decode cX0_passRight 54 = .ok (.iload_n 2, 1) := by decide +kernel
theorem dX0_passRight_55 : decode cX0_passRight 55 = .ok (.i2l, 1) := by decide +kernel
theorem dX0_passRight_56 : decode cX0_passRight 56 = .ok (.ladd, 1) := by decide +kernel
theorem dX0_passRight_57 : decode cX0_passRight 57 = .ok (.lastore, 1) := by decide +kernel
theorem dX0_passRight_58 : decode cX0_passRight 58 = .ok (.aload_n 0, 1) := by decide +kernel
theorem dX0_passRight_59 : decode cX0_passRight 59 = .ok (.getfield 46, 3) := by decide +kernel
theorem dX0_passRight_62 : decode cX0_passRight 62 = .ok (.getfield 222, 3) := by decide +kernel
theorem dX0_passRight_65 : decode cX0_passRight 65 = .ok (.iload_n 1, 1) := by decide +kernel
theorem dX0_passRight_66 : decode cX0_passRight 66 = .ok (.iaload, 1) := by decide +kernel
theorem dX0_passRight_67 : decode cX0_passRight 67 = .ok (.istore_n 3, 1) := by decide +kernel
theorem dX0_passRight_68 : decode cX0_passRight 68 = .ok (.iload_n 3, 1) := by decide +kernel
theorem dX0_passRight_69 : decode cX0_passRight 69 = .ok (.ifCond .lt 50, 3) := by decide +kernel
theorem dX0_passRight_72 : decode cX0_passRight 72 = .ok (.aload_n 0, 1) := by decide +kernel
theorem dX0_passRight_73 : decode cX0_passRight 73 = .ok (.getfield 50, 3) := by decide +kernel
theorem dX0_passRight_76 : decode cX0_passRight 76 = .ok (.aload_n 0, 1) := by decide +kernel
theorem dX0_passRight_77 : decode cX0_passRight 77 = .ok (.getfield 46, 3) := by decide +kernel
theorem dX0_passRight_80 : decode cX0_passRight 80 = .ok (.getfield 225, 3) := by decide +kernel
theorem dX0_passRight_83 : decode cX0_passRight 83 = .ok (.iload_n 1, 1) := by decide +kernel
theorem dX0_passRight_84 : decode cX0_passRight 84 = .ok (.iaload, 1) := by decide +kernel
theorem dX0_passRight_85 : decode cX0_passRight 85 = .ok (.invokevirtual 165, 3) := by decide +kernel
theorem dX0_passRight_88 : decode cX0_passRight 88 = .ok (.istore 4, 2) := by decide +kernel
theorem dX0_passRight_90 : decode cX0_passRight 90 = .ok (.aload_n 0, 1) := by decide +kernel
theorem dX0_passRight_91 : decode cX0_passRight 91 = .ok (.getfield 50, 3) := by decide +kernel
theorem dX0_passRight_94 : decode cX0_passRight 94 = .ok (.getfield 162, 3) := by decide +kernel
theorem dX0_passRight_97 : decode cX0_passRight 97 = .ok (.iload 4, 2) := by decide +kernel
theorem dX0_passRight_99 : decode cX0_passRight 99 = .ok (.iload_n 3, 1) := by decide +kernel
theorem dX0_passRight_100 : decode cX0_passRight 100 = .ok (.iadd, 1) := by decide +kernel
theorem dX0_passRight_101 : decode cX0_passRight 101 = .ok (.dup2, 1) := by decide +kernel
theorem dX0_passRight_102 : decode cX0_passRight 102 = .ok (.iaload, 1) := by decide +kernel
theorem dX0_passRight_103 : decode cX0_passRight 103 = .ok (.iload_n 2, 1) := by decide +kernel
theorem dX0_passRight_104 : decode cX0_passRight 104 = .ok (.aload_n 0, 1) := by decide +kernel
theorem dX0_passRight_105 : decode cX0_passRight 105 = .ok (.getfield 46, 3) := by decide +kernel
theorem dX0_passRight_108 : decode cX0_passRight 108 = .ok (.getfield 228, 3) := by decide +kernel
theorem dX0_passRight_111 : decode cX0_passRight 111 = .ok (.iload_n 1, 1) := by decide +kernel
theorem dX0_passRight_112 : decode cX0_passRight 112 = .ok (.iaload, 1) := by decide +kernel
theorem dX0_passRight_113 : decode cX0_passRight 113 = .ok (.imul, 1) := by decide +kernel
theorem dX0_passRight_114 : decode cX0_passRight 114 = .ok (.bipush 100, 2) := by decide +kernel
theorem dX0_passRight_116 : decode cX0_passRight 116 = .ok (.idiv, 1) := by decide +kernel
theorem dX0_passRight_117 : decode cX0_passRight 117 = .ok (.iadd, 1) := by decide +kernel
theorem dX0_passRight_118 : decode cX0_passRight 118 = .ok (.iastore, 1) := by decide +kernel
theorem dX0_passRight_119 : decode cX0_passRight 119 = .ok (.return_, 1) := by decide +kernel
theorem ms_X6_copyRow : MS yX6_copyRow cX6_copyRow 2 none 2 := ⟨wd_15_4, wd_15_3, wd_1_2, by decide, by decide, by decide +kernel⟩
theorem mv_X0_ageOf : MV yX0_ageOf cX0_ageOf 2 (some .int) 1 := ⟨wd_20_15, wd_20_13, wd_20_14, wd_2_6, by decide, by decide, by decide +kernel⟩
theorem mv_X0_backOf : MV yX0_backOf cX0_backOf 2 (some .int) 1 := ⟨wd_22_8, wd_22_6, wd_22_7, wd_2_6, by decide, by decide, by decide +kernel⟩
theorem mv_X0_bringWater : MV yX0_bringWater cX0_bringWater 3 none 0 := ⟨wd_21_1, wd_20_23, wd_21_0, wd_2_6, by decide, by decide, by decide +kernel⟩
theorem mv_X0_change : MV yX0_change cX0_change 8 none 2 := ⟨wd_23_1, wd_22_23, wd_23_0, wd_2_6, by decide, by decide, by decide +kernel⟩
theorem mv_X0_contentBehind : MV yX0_contentBehind cX0_contentBehind 2 (some .int) 1 := ⟨wd_24_21, wd_24_19, wd_24_20, wd_2_6, by decide, by decide, by decide +kernel⟩
theorem mv_X0_enqueue : MV yX0_enqueue cX0_enqueue 3 none 1 := ⟨wd_20_11, wd_20_9, wd_20_10, wd_2_6, by decide, by decide, by decide +kernel⟩
theorem mv_X0_filledInto : MV yX0_filledInto cX0_filledInto 2 (some .int) 1 := ⟨wd_25_1, wd_24_23, wd_25_0, wd_2_6, by decide, by decide, by decide +kernel⟩
theorem mv_X0_inflowOf : MV yX0_inflowOf cX0_inflowOf 3 (some .int) 1 := ⟨wd_22_2, wd_22_0, wd_22_1, wd_2_6, by decide, by decide, by decide +kernel⟩
theorem mv_X0_isShort : MV yX0_isShort cX0_isShort 2 (some .boolean) 1 := ⟨wd_36_3, wd_36_1, wd_36_2, wd_2_6, by decide, by decide, by decide +kernel⟩
theorem mv_X0_missing : MV yX0_missing cX0_missing 2 (some .int) 1 := ⟨wd_23_15, wd_23_13, wd_23_14, wd_2_6, by decide, by decide, by decide +kernel⟩
theorem mv_X0_passReaches : MV yX0_passReaches cX0_passReaches 3 none 0 := ⟨wd_24_9, wd_24_7, wd_24_8, wd_2_6, by decide, by decide, by decide +kernel⟩
theorem mv_X0_passRight : MV yX0_passRight cX0_passRight 5 none 1 := ⟨wd_24_13, wd_24_11, wd_24_12, wd_2_6, by decide, by decide, by decide +kernel⟩
theorem mv_X0_takeByAge : MV yX0_takeByAge cX0_takeByAge 4 none 1 := ⟨wd_22_17, wd_22_15, wd_22_16, wd_2_6, by decide, by decide, by decide +kernel⟩
theorem mv_X0_takeByBarters : MV yX0_takeByBarters cX0_takeByBarters 6 none 0 := ⟨wd_23_23, wd_23_21, wd_23_22, wd_2_6, by decide, by decide, by decide +kernel⟩
theorem mv_X0_takeByOrders : MV yX0_takeByOrders cX0_takeByOrders 4 none 0 := ⟨wd_23_5, wd_23_3, wd_23_4, wd_2_6, by decide, by decide, by decide +kernel⟩
theorem mv_X0_takeMost : MV yX0_takeMost cX0_takeMost 8 (some .int) 3 := ⟨wd_22_21, wd_22_19, wd_22_20, wd_2_6, by decide, by decide, by decide +kernel⟩
theorem mv_X0_takenBy : MV yX0_takenBy cX0_takenBy 2 (some .int) 1 := ⟨wd_23_19, wd_23_17, wd_23_18, wd_2_6, by decide, by decide, by decide +kernel⟩
theorem mv_X0_wantOfRight : MV yX0_wantOfRight cX0_wantOfRight 3 (some .int) 1 := ⟨wd_21_16, wd_21_14, wd_21_15, wd_2_6, by decide, by decide, by decide +kernel⟩
theorem mv_X2_runsTo : MV yX2_runsTo cX2_runsTo 5 (some .boolean) 2 := ⟨wd_23_11, wd_23_9, wd_23_10, wd_1_16, by decide, by decide, by decide +kernel⟩
theorem mv_X5_wayRow : MV yX5_wayRow cX5_wayRow 2 (some .int) 1 := ⟨wd_22_13, wd_22_11, wd_22_12, wd_1_21, by decide, by decide, by decide +kernel⟩
set_option maxHeartbeats 4000000 in
set_option maxRecDepth 100000 in
theorem c_X6_copyRow_A12F (E : Ev) (dA : TD) (dB : TD) (rA : TD) (rB : TD) (rc : TD) (rd : TD) (tp : TD) (ya : TD) (yb : TD) (yc : TD) (yd : TD) (ye : TD) (yf : TD) (rC : TD) (rD : TD) (wd1 : TD) (wd2 : TD) (wd3 : TD) (wd4 : TD) (ws1 : TD) (ws2 : TD) (ws3 : TD) (ws4 : TD) (wi1 : TD) (wi2 : TD) (wi3 : TD) (wi4 : TD) (a0 : Nat) (a1 : Nat) (ha0 : eT E a0 ∈ [0]) (ha1 : eT E a1 ∈ [0]) : TcV E yX6_copyRow cX6_copyRow 2 ({ frames := 1, cells := 0, slots := 0, locals := 40 }) [.ref a0, .ref a1] (fun H => TH E (tbC dA dB rA rB rc rd tp ya yb yc yd ye yf rC rD wd1 wd2 wd3 wd4 ws1 ws2 ws3 ws4 wi1 wi2 wi3 wi4) H) (fun H => TH E (tbC dA dB rA rB rc rd tp ya yb yc yd ye yf rC rD wd1 wd2 wd3 wd4 ws1 ws2 ws3 ws4 wi1 wi2 wi3 wi4) H) := by
  refine teV (by decide) (Nat.le_of_ble_eq_true rfl) ?_
  intro p_ ev_ s mi_ below_ meth cd_ ls F hK hN hO hH hS hl
  have hH : TH E (tbC dA dB rA rB rc rd tp ya yb yc yd ye yf rC rD wd1 wd2 wd3 wd4 ws1 ws2 ws3 ws4 wi1 wi2 wi3 wi4) s.heap := hH
  have hl : lv_has ls 2 [(0, .ref a0), (1, .ref a1)] := hl
  refine lv_aload_n F.1 F.2.1 dX6_copyRow_0 rfl (lv_at hl 0 rfl) ?_
  refine lv_iconst (v := 0) F.1 F.2.1 dX6_copyRow_1 (by decide) ?_
  refine topK (a := 0) (by decide) (fun k_1 hk_1 => ?_)
  refine lv_aload_n F.1 F.2.1 dX6_copyRow_2 rfl (lv_at hl 1 rfl) ?_
  refine lv_iconst (v := 0) F.1 F.2.1 dX6_copyRow_3 (by decide) ?_
  refine topK (a := 0) (by decide) (fun k_2 hk_2 => ?_)
  refine lv_aload_n F.1 F.2.1 dX6_copyRow_4 rfl (lv_at hl 0 rfl) ?_
  refine tAlen (v := 12) F hK hH (tyb ha0 (all1 rfl)) rfl (by decide) dX6_copyRow_5 ?_
  refine topK (a := 12) (by decide) (fun k_3 hk_3 => ?_)
  refine lv_aload_n F.1 F.2.1 dX6_copyRow_6 rfl (lv_at hl 1 rfl) ?_
  refine tAlen (v := 12) F hK hH (tyb ha1 (all1 rfl)) rfl (by decide) dX6_copyRow_7 ?_
  refine topK (a := 12) (by decide) (fun k_4 hk_4 => ?_)
  refine tMin (lo := 12) (hi := 12) F wd_15_5 wd_9_0 wd_9_1 wd_9_2 hl.1 (Nat.le_of_ble_eq_true rfl) (Nat.le_of_ble_eq_true rfl) (Nat.le_of_ble_eq_true rfl) (Nat.le_of_ble_eq_true rfl) dX6_copyRow_8 (eqb hk_3) (eqb hk_4) rfl (fun z_5 hz_5 => ?_)
  have en_ : z_5 = 12 := swe (by have h9_ := hz_5.2; rw [show ((12 : Int32)).toInt = 12 by decide]; omega)
  have ep_ : k_2 = 0 := swe (by have h9_ := (eqb hk_2); rw [show ((0 : Int32)).toInt = 0 by decide]; omega)
  have eq_ : k_1 = 0 := swe (by have h9_ := (eqb hk_1); rw [show ((0 : Int32)).toInt = 0 by decide]; omega)
  subst en_ ep_ eq_
  refine tCopyI (ty := .int) (k0 := 0) F wd_15_6 wd_15_7 wd_15_8 wd_15_9 hK hH hS (tyb ha0 (all1 rfl)) (tyb ha1 (all1 rfl)) (by decide) (by decide) hl.1 (Nat.le_of_ble_eq_true rfl) (Nat.le_of_ble_eq_true rfl) dX6_copyRow_11 (fun H locs hH hS => ?_)
  exact txV F hS dX6_copyRow_14 (hH)
set_option maxHeartbeats 4000000 in
set_option maxRecDepth 100000 in
theorem c_X6_copyRow_A12D (E : Ev) (dA : TD) (dB : TD) (rA : TD) (rB : TD) (rc : TD) (rd : TD) (tp : TD) (ya : TD) (yb : TD) (yc : TD) (yd : TD) (ye : TD) (yf : TD) (rC : TD) (rD : TD) (wd1 : TD) (wd2 : TD) (wd3 : TD) (wd4 : TD) (ws1 : TD) (ws2 : TD) (ws3 : TD) (ws4 : TD) (wi1 : TD) (wi2 : TD) (wi3 : TD) (wi4 : TD) (a0 : Nat) (a1 : Nat) (ha0 : eT E a0 ∈ [1]) (ha1 : eT E a1 ∈ [1]) : TcV E yX6_copyRow cX6_copyRow 2 ({ frames := 1, cells := 0, slots := 0, locals := 40 }) [.ref a0, .ref a1] (fun H => TH E (tbC dA dB rA rB rc rd tp ya yb yc yd ye yf rC rD wd1 wd2 wd3 wd4 ws1 ws2 ws3 ws4 wi1 wi2 wi3 wi4) H) (fun H => TH E (tbC dA dB rA rB rc rd tp ya yb yc yd ye yf rC rD wd1 wd2 wd3 wd4 ws1 ws2 ws3 ws4 wi1 wi2 wi3 wi4) H) := by
  refine teV (by decide) (Nat.le_of_ble_eq_true rfl) ?_
  intro p_ ev_ s mi_ below_ meth cd_ ls F hK hN hO hH hS hl
  have hH : TH E (tbC dA dB rA rB rc rd tp ya yb yc yd ye yf rC rD wd1 wd2 wd3 wd4 ws1 ws2 ws3 ws4 wi1 wi2 wi3 wi4) s.heap := hH
  have hl : lv_has ls 2 [(0, .ref a0), (1, .ref a1)] := hl
  refine lv_aload_n F.1 F.2.1 dX6_copyRow_0 rfl (lv_at hl 0 rfl) ?_
  refine lv_iconst (v := 0) F.1 F.2.1 dX6_copyRow_1 (by decide) ?_
  refine topK (a := 0) (by decide) (fun k_1 hk_1 => ?_)
  refine lv_aload_n F.1 F.2.1 dX6_copyRow_2 rfl (lv_at hl 1 rfl) ?_
  refine lv_iconst (v := 0) F.1 F.2.1 dX6_copyRow_3 (by decide) ?_
  refine topK (a := 0) (by decide) (fun k_2 hk_2 => ?_)
  refine lv_aload_n F.1 F.2.1 dX6_copyRow_4 rfl (lv_at hl 0 rfl) ?_
  refine tAlen (v := 12) F hK hH (tyb ha0 (all1 rfl)) rfl (by decide) dX6_copyRow_5 ?_
  refine topK (a := 12) (by decide) (fun k_3 hk_3 => ?_)
  refine lv_aload_n F.1 F.2.1 dX6_copyRow_6 rfl (lv_at hl 1 rfl) ?_
  refine tAlen (v := 12) F hK hH (tyb ha1 (all1 rfl)) rfl (by decide) dX6_copyRow_7 ?_
  refine topK (a := 12) (by decide) (fun k_4 hk_4 => ?_)
  refine tMin (lo := 12) (hi := 12) F wd_15_5 wd_9_0 wd_9_1 wd_9_2 hl.1 (Nat.le_of_ble_eq_true rfl) (Nat.le_of_ble_eq_true rfl) (Nat.le_of_ble_eq_true rfl) (Nat.le_of_ble_eq_true rfl) dX6_copyRow_8 (eqb hk_3) (eqb hk_4) rfl (fun z_5 hz_5 => ?_)
  have en_ : z_5 = 12 := swe (by have h9_ := hz_5.2; rw [show ((12 : Int32)).toInt = 12 by decide]; omega)
  have ep_ : k_2 = 0 := swe (by have h9_ := (eqb hk_2); rw [show ((0 : Int32)).toInt = 0 by decide]; omega)
  have eq_ : k_1 = 0 := swe (by have h9_ := (eqb hk_1); rw [show ((0 : Int32)).toInt = 0 by decide]; omega)
  subst en_ ep_ eq_
  refine tCopyI (ty := .int) (k0 := 0) F wd_15_6 wd_15_7 wd_15_8 wd_15_9 hK hH hS (tyb ha0 (all1 rfl)) (tyb ha1 (all1 rfl)) (by decide) (by decide) hl.1 (Nat.le_of_ble_eq_true rfl) (Nat.le_of_ble_eq_true rfl) dX6_copyRow_11 (fun H locs hH hS => ?_)
  exact txV F hS dX6_copyRow_14 (hH)
set_option maxHeartbeats 4000000 in
set_option maxRecDepth 100000 in
theorem c_X6_copyRow_A48F (E : Ev) (dA : TD) (dB : TD) (rA : TD) (rB : TD) (rc : TD) (rd : TD) (tp : TD) (ya : TD) (yb : TD) (yc : TD) (yd : TD) (ye : TD) (yf : TD) (rC : TD) (rD : TD) (wd1 : TD) (wd2 : TD) (wd3 : TD) (wd4 : TD) (ws1 : TD) (ws2 : TD) (ws3 : TD) (ws4 : TD) (wi1 : TD) (wi2 : TD) (wi3 : TD) (wi4 : TD) (a0 : Nat) (a1 : Nat) (ha0 : eT E a0 ∈ [2]) (ha1 : eT E a1 ∈ [2]) : TcV E yX6_copyRow cX6_copyRow 2 ({ frames := 1, cells := 0, slots := 0, locals := 40 }) [.ref a0, .ref a1] (fun H => TH E (tbC dA dB rA rB rc rd tp ya yb yc yd ye yf rC rD wd1 wd2 wd3 wd4 ws1 ws2 ws3 ws4 wi1 wi2 wi3 wi4) H) (fun H => TH E (tbC dA dB rA rB rc rd tp ya yb yc yd ye yf rC rD wd1 wd2 wd3 wd4 ws1 ws2 ws3 ws4 wi1 wi2 wi3 wi4) H) := by
  refine teV (by decide) (Nat.le_of_ble_eq_true rfl) ?_
  intro p_ ev_ s mi_ below_ meth cd_ ls F hK hN hO hH hS hl
  have hH : TH E (tbC dA dB rA rB rc rd tp ya yb yc yd ye yf rC rD wd1 wd2 wd3 wd4 ws1 ws2 ws3 ws4 wi1 wi2 wi3 wi4) s.heap := hH
  have hl : lv_has ls 2 [(0, .ref a0), (1, .ref a1)] := hl
  refine lv_aload_n F.1 F.2.1 dX6_copyRow_0 rfl (lv_at hl 0 rfl) ?_
  refine lv_iconst (v := 0) F.1 F.2.1 dX6_copyRow_1 (by decide) ?_
  refine topK (a := 0) (by decide) (fun k_1 hk_1 => ?_)
  refine lv_aload_n F.1 F.2.1 dX6_copyRow_2 rfl (lv_at hl 1 rfl) ?_
  refine lv_iconst (v := 0) F.1 F.2.1 dX6_copyRow_3 (by decide) ?_
  refine topK (a := 0) (by decide) (fun k_2 hk_2 => ?_)
  refine lv_aload_n F.1 F.2.1 dX6_copyRow_4 rfl (lv_at hl 0 rfl) ?_
  refine tAlen (v := 48) F hK hH (tyb ha0 (all1 rfl)) rfl (by decide) dX6_copyRow_5 ?_
  refine topK (a := 48) (by decide) (fun k_3 hk_3 => ?_)
  refine lv_aload_n F.1 F.2.1 dX6_copyRow_6 rfl (lv_at hl 1 rfl) ?_
  refine tAlen (v := 48) F hK hH (tyb ha1 (all1 rfl)) rfl (by decide) dX6_copyRow_7 ?_
  refine topK (a := 48) (by decide) (fun k_4 hk_4 => ?_)
  refine tMin (lo := 48) (hi := 48) F wd_15_5 wd_9_0 wd_9_1 wd_9_2 hl.1 (Nat.le_of_ble_eq_true rfl) (Nat.le_of_ble_eq_true rfl) (Nat.le_of_ble_eq_true rfl) (Nat.le_of_ble_eq_true rfl) dX6_copyRow_8 (eqb hk_3) (eqb hk_4) rfl (fun z_5 hz_5 => ?_)
  have en_ : z_5 = 48 := swe (by have h9_ := hz_5.2; rw [show ((48 : Int32)).toInt = 48 by decide]; omega)
  have ep_ : k_2 = 0 := swe (by have h9_ := (eqb hk_2); rw [show ((0 : Int32)).toInt = 0 by decide]; omega)
  have eq_ : k_1 = 0 := swe (by have h9_ := (eqb hk_1); rw [show ((0 : Int32)).toInt = 0 by decide]; omega)
  subst en_ ep_ eq_
  refine tCopyI (ty := .int) (k0 := 0) F wd_15_6 wd_15_7 wd_15_8 wd_15_9 hK hH hS (tyb ha0 (all1 rfl)) (tyb ha1 (all1 rfl)) (by decide) (by decide) hl.1 (Nat.le_of_ble_eq_true rfl) (Nat.le_of_ble_eq_true rfl) dX6_copyRow_11 (fun H locs hH hS => ?_)
  exact txV F hS dX6_copyRow_14 (hH)
set_option maxHeartbeats 4000000 in
set_option maxRecDepth 100000 in
theorem c_X6_copyRow_A14F (E : Ev) (dA : TD) (dB : TD) (rA : TD) (rB : TD) (rc : TD) (rd : TD) (tp : TD) (ya : TD) (yb : TD) (yc : TD) (yd : TD) (ye : TD) (yf : TD) (rC : TD) (rD : TD) (wd1 : TD) (wd2 : TD) (wd3 : TD) (wd4 : TD) (ws1 : TD) (ws2 : TD) (ws3 : TD) (ws4 : TD) (wi1 : TD) (wi2 : TD) (wi3 : TD) (wi4 : TD) (a0 : Nat) (a1 : Nat) (ha0 : eT E a0 ∈ [3]) (ha1 : eT E a1 ∈ [3]) : TcV E yX6_copyRow cX6_copyRow 2 ({ frames := 1, cells := 0, slots := 0, locals := 40 }) [.ref a0, .ref a1] (fun H => TH E (tbC dA dB rA rB rc rd tp ya yb yc yd ye yf rC rD wd1 wd2 wd3 wd4 ws1 ws2 ws3 ws4 wi1 wi2 wi3 wi4) H) (fun H => TH E (tbC dA dB rA rB rc rd tp ya yb yc yd ye yf rC rD wd1 wd2 wd3 wd4 ws1 ws2 ws3 ws4 wi1 wi2 wi3 wi4) H) := by
  refine teV (by decide) (Nat.le_of_ble_eq_true rfl) ?_
  intro p_ ev_ s mi_ below_ meth cd_ ls F hK hN hO hH hS hl
  have hH : TH E (tbC dA dB rA rB rc rd tp ya yb yc yd ye yf rC rD wd1 wd2 wd3 wd4 ws1 ws2 ws3 ws4 wi1 wi2 wi3 wi4) s.heap := hH
  have hl : lv_has ls 2 [(0, .ref a0), (1, .ref a1)] := hl
  refine lv_aload_n F.1 F.2.1 dX6_copyRow_0 rfl (lv_at hl 0 rfl) ?_
  refine lv_iconst (v := 0) F.1 F.2.1 dX6_copyRow_1 (by decide) ?_
  refine topK (a := 0) (by decide) (fun k_1 hk_1 => ?_)
  refine lv_aload_n F.1 F.2.1 dX6_copyRow_2 rfl (lv_at hl 1 rfl) ?_
  refine lv_iconst (v := 0) F.1 F.2.1 dX6_copyRow_3 (by decide) ?_
  refine topK (a := 0) (by decide) (fun k_2 hk_2 => ?_)
  refine lv_aload_n F.1 F.2.1 dX6_copyRow_4 rfl (lv_at hl 0 rfl) ?_
  refine tAlen (v := 14) F hK hH (tyb ha0 (all1 rfl)) rfl (by decide) dX6_copyRow_5 ?_
  refine topK (a := 14) (by decide) (fun k_3 hk_3 => ?_)
  refine lv_aload_n F.1 F.2.1 dX6_copyRow_6 rfl (lv_at hl 1 rfl) ?_
  refine tAlen (v := 14) F hK hH (tyb ha1 (all1 rfl)) rfl (by decide) dX6_copyRow_7 ?_
  refine topK (a := 14) (by decide) (fun k_4 hk_4 => ?_)
  refine tMin (lo := 14) (hi := 14) F wd_15_5 wd_9_0 wd_9_1 wd_9_2 hl.1 (Nat.le_of_ble_eq_true rfl) (Nat.le_of_ble_eq_true rfl) (Nat.le_of_ble_eq_true rfl) (Nat.le_of_ble_eq_true rfl) dX6_copyRow_8 (eqb hk_3) (eqb hk_4) rfl (fun z_5 hz_5 => ?_)
  have en_ : z_5 = 14 := swe (by have h9_ := hz_5.2; rw [show ((14 : Int32)).toInt = 14 by decide]; omega)
  have ep_ : k_2 = 0 := swe (by have h9_ := (eqb hk_2); rw [show ((0 : Int32)).toInt = 0 by decide]; omega)
  have eq_ : k_1 = 0 := swe (by have h9_ := (eqb hk_1); rw [show ((0 : Int32)).toInt = 0 by decide]; omega)
  subst en_ ep_ eq_
  refine tCopyI (ty := .int) (k0 := 0) F wd_15_6 wd_15_7 wd_15_8 wd_15_9 hK hH hS (tyb ha0 (all1 rfl)) (tyb ha1 (all1 rfl)) (by decide) (by decide) hl.1 (Nat.le_of_ble_eq_true rfl) (Nat.le_of_ble_eq_true rfl) dX6_copyRow_11 (fun H locs hH hS => ?_)
  exact txV F hS dX6_copyRow_14 (hH)
set_option maxHeartbeats 4000000 in
set_option maxRecDepth 100000 in
theorem c_X6_copyRow_A14R (E : Ev) (dA : TD) (dB : TD) (rA : TD) (rB : TD) (rc : TD) (rd : TD) (tp : TD) (ya : TD) (yb : TD) (yc : TD) (yd : TD) (ye : TD) (yf : TD) (rC : TD) (rD : TD) (wd1 : TD) (wd2 : TD) (wd3 : TD) (wd4 : TD) (ws1 : TD) (ws2 : TD) (ws3 : TD) (ws4 : TD) (wi1 : TD) (wi2 : TD) (wi3 : TD) (wi4 : TD) (a0 : Nat) (a1 : Nat) (ha0 : eT E a0 ∈ [4]) (ha1 : eT E a1 ∈ [4]) : TcV E yX6_copyRow cX6_copyRow 2 ({ frames := 1, cells := 0, slots := 0, locals := 40 }) [.ref a0, .ref a1] (fun H => TH E (tbC dA dB rA rB rc rd tp ya yb yc yd ye yf rC rD wd1 wd2 wd3 wd4 ws1 ws2 ws3 ws4 wi1 wi2 wi3 wi4) H) (fun H => TH E (tbC dA dB rA rB rc rd tp ya yb yc yd ye yf rC rD wd1 wd2 wd3 wd4 ws1 ws2 ws3 ws4 wi1 wi2 wi3 wi4) H) := by
  refine teV (by decide) (Nat.le_of_ble_eq_true rfl) ?_
  intro p_ ev_ s mi_ below_ meth cd_ ls F hK hN hO hH hS hl
  have hH : TH E (tbC dA dB rA rB rc rd tp ya yb yc yd ye yf rC rD wd1 wd2 wd3 wd4 ws1 ws2 ws3 ws4 wi1 wi2 wi3 wi4) s.heap := hH
  have hl : lv_has ls 2 [(0, .ref a0), (1, .ref a1)] := hl
  refine lv_aload_n F.1 F.2.1 dX6_copyRow_0 rfl (lv_at hl 0 rfl) ?_
  refine lv_iconst (v := 0) F.1 F.2.1 dX6_copyRow_1 (by decide) ?_
  refine topK (a := 0) (by decide) (fun k_1 hk_1 => ?_)
  refine lv_aload_n F.1 F.2.1 dX6_copyRow_2 rfl (lv_at hl 1 rfl) ?_
  refine lv_iconst (v := 0) F.1 F.2.1 dX6_copyRow_3 (by decide) ?_
  refine topK (a := 0) (by decide) (fun k_2 hk_2 => ?_)
  refine lv_aload_n F.1 F.2.1 dX6_copyRow_4 rfl (lv_at hl 0 rfl) ?_
  refine tAlen (v := 14) F hK hH (tyb ha0 (all1 rfl)) rfl (by decide) dX6_copyRow_5 ?_
  refine topK (a := 14) (by decide) (fun k_3 hk_3 => ?_)
  refine lv_aload_n F.1 F.2.1 dX6_copyRow_6 rfl (lv_at hl 1 rfl) ?_
  refine tAlen (v := 14) F hK hH (tyb ha1 (all1 rfl)) rfl (by decide) dX6_copyRow_7 ?_
  refine topK (a := 14) (by decide) (fun k_4 hk_4 => ?_)
  refine tMin (lo := 14) (hi := 14) F wd_15_5 wd_9_0 wd_9_1 wd_9_2 hl.1 (Nat.le_of_ble_eq_true rfl) (Nat.le_of_ble_eq_true rfl) (Nat.le_of_ble_eq_true rfl) (Nat.le_of_ble_eq_true rfl) dX6_copyRow_8 (eqb hk_3) (eqb hk_4) rfl (fun z_5 hz_5 => ?_)
  have en_ : z_5 = 14 := swe (by have h9_ := hz_5.2; rw [show ((14 : Int32)).toInt = 14 by decide]; omega)
  have ep_ : k_2 = 0 := swe (by have h9_ := (eqb hk_2); rw [show ((0 : Int32)).toInt = 0 by decide]; omega)
  have eq_ : k_1 = 0 := swe (by have h9_ := (eqb hk_1); rw [show ((0 : Int32)).toInt = 0 by decide]; omega)
  subst en_ ep_ eq_
  refine tCopyI (ty := .int) (k0 := 0) F wd_15_6 wd_15_7 wd_15_8 wd_15_9 hK hH hS (tyb ha0 (all1 rfl)) (tyb ha1 (all1 rfl)) (by decide) (by decide) hl.1 (Nat.le_of_ble_eq_true rfl) (Nat.le_of_ble_eq_true rfl) dX6_copyRow_11 (fun H locs hH hS => ?_)
  exact txV F hS dX6_copyRow_14 (hH)
set_option maxHeartbeats 4000000 in
set_option maxRecDepth 100000 in
theorem c_X6_copyRow_A14B (E : Ev) (dA : TD) (dB : TD) (rA : TD) (rB : TD) (rc : TD) (rd : TD) (tp : TD) (ya : TD) (yb : TD) (yc : TD) (yd : TD) (ye : TD) (yf : TD) (rC : TD) (rD : TD) (wd1 : TD) (wd2 : TD) (wd3 : TD) (wd4 : TD) (ws1 : TD) (ws2 : TD) (ws3 : TD) (ws4 : TD) (wi1 : TD) (wi2 : TD) (wi3 : TD) (wi4 : TD) (a0 : Nat) (a1 : Nat) (ha0 : eT E a0 ∈ [5]) (ha1 : eT E a1 ∈ [5]) : TcV E yX6_copyRow cX6_copyRow 2 ({ frames := 1, cells := 0, slots := 0, locals := 40 }) [.ref a0, .ref a1] (fun H => TH E (tbC dA dB rA rB rc rd tp ya yb yc yd ye yf rC rD wd1 wd2 wd3 wd4 ws1 ws2 ws3 ws4 wi1 wi2 wi3 wi4) H) (fun H => TH E (tbC dA dB rA rB rc rd tp ya yb yc yd ye yf rC rD wd1 wd2 wd3 wd4 ws1 ws2 ws3 ws4 wi1 wi2 wi3 wi4) H) := by
  refine teV (by decide) (Nat.le_of_ble_eq_true rfl) ?_
  intro p_ ev_ s mi_ below_ meth cd_ ls F hK hN hO hH hS hl
  have hH : TH E (tbC dA dB rA rB rc rd tp ya yb yc yd ye yf rC rD wd1 wd2 wd3 wd4 ws1 ws2 ws3 ws4 wi1 wi2 wi3 wi4) s.heap := hH
  have hl : lv_has ls 2 [(0, .ref a0), (1, .ref a1)] := hl
  refine lv_aload_n F.1 F.2.1 dX6_copyRow_0 rfl (lv_at hl 0 rfl) ?_
  refine lv_iconst (v := 0) F.1 F.2.1 dX6_copyRow_1 (by decide) ?_
  refine topK (a := 0) (by decide) (fun k_1 hk_1 => ?_)
  refine lv_aload_n F.1 F.2.1 dX6_copyRow_2 rfl (lv_at hl 1 rfl) ?_
  refine lv_iconst (v := 0) F.1 F.2.1 dX6_copyRow_3 (by decide) ?_
  refine topK (a := 0) (by decide) (fun k_2 hk_2 => ?_)
  refine lv_aload_n F.1 F.2.1 dX6_copyRow_4 rfl (lv_at hl 0 rfl) ?_
  refine tAlen (v := 14) F hK hH (tyb ha0 (all1 rfl)) rfl (by decide) dX6_copyRow_5 ?_
  refine topK (a := 14) (by decide) (fun k_3 hk_3 => ?_)
  refine lv_aload_n F.1 F.2.1 dX6_copyRow_6 rfl (lv_at hl 1 rfl) ?_
  refine tAlen (v := 14) F hK hH (tyb ha1 (all1 rfl)) rfl (by decide) dX6_copyRow_7 ?_
  refine topK (a := 14) (by decide) (fun k_4 hk_4 => ?_)
  refine tMin (lo := 14) (hi := 14) F wd_15_5 wd_9_0 wd_9_1 wd_9_2 hl.1 (Nat.le_of_ble_eq_true rfl) (Nat.le_of_ble_eq_true rfl) (Nat.le_of_ble_eq_true rfl) (Nat.le_of_ble_eq_true rfl) dX6_copyRow_8 (eqb hk_3) (eqb hk_4) rfl (fun z_5 hz_5 => ?_)
  have en_ : z_5 = 14 := swe (by have h9_ := hz_5.2; rw [show ((14 : Int32)).toInt = 14 by decide]; omega)
  have ep_ : k_2 = 0 := swe (by have h9_ := (eqb hk_2); rw [show ((0 : Int32)).toInt = 0 by decide]; omega)
  have eq_ : k_1 = 0 := swe (by have h9_ := (eqb hk_1); rw [show ((0 : Int32)).toInt = 0 by decide]; omega)
  subst en_ ep_ eq_
  refine tCopyI (ty := .int) (k0 := 0) F wd_15_6 wd_15_7 wd_15_8 wd_15_9 hK hH hS (tyb ha0 (all1 rfl)) (tyb ha1 (all1 rfl)) (by decide) (by decide) hl.1 (Nat.le_of_ble_eq_true rfl) (Nat.le_of_ble_eq_true rfl) dX6_copyRow_11 (fun H locs hH hS => ?_)
  exact txV F hS dX6_copyRow_14 (hH)
set_option maxHeartbeats 4000000 in
set_option maxRecDepth 100000 in
theorem c_X6_copyRow_A14L (E : Ev) (dA : TD) (dB : TD) (rA : TD) (rB : TD) (rc : TD) (rd : TD) (tp : TD) (ya : TD) (yb : TD) (yc : TD) (yd : TD) (ye : TD) (yf : TD) (rC : TD) (rD : TD) (wd1 : TD) (wd2 : TD) (wd3 : TD) (wd4 : TD) (ws1 : TD) (ws2 : TD) (ws3 : TD) (ws4 : TD) (wi1 : TD) (wi2 : TD) (wi3 : TD) (wi4 : TD) (a0 : Nat) (a1 : Nat) (ha0 : eT E a0 ∈ [6]) (ha1 : eT E a1 ∈ [6]) : TcV E yX6_copyRow cX6_copyRow 2 ({ frames := 1, cells := 0, slots := 0, locals := 40 }) [.ref a0, .ref a1] (fun H => TH E (tbC dA dB rA rB rc rd tp ya yb yc yd ye yf rC rD wd1 wd2 wd3 wd4 ws1 ws2 ws3 ws4 wi1 wi2 wi3 wi4) H) (fun H => TH E (tbC dA dB rA rB rc rd tp ya yb yc yd ye yf rC rD wd1 wd2 wd3 wd4 ws1 ws2 ws3 ws4 wi1 wi2 wi3 wi4) H) := by
  refine teV (by decide) (Nat.le_of_ble_eq_true rfl) ?_
  intro p_ ev_ s mi_ below_ meth cd_ ls F hK hN hO hH hS hl
  have hH : TH E (tbC dA dB rA rB rc rd tp ya yb yc yd ye yf rC rD wd1 wd2 wd3 wd4 ws1 ws2 ws3 ws4 wi1 wi2 wi3 wi4) s.heap := hH
  have hl : lv_has ls 2 [(0, .ref a0), (1, .ref a1)] := hl
  refine lv_aload_n F.1 F.2.1 dX6_copyRow_0 rfl (lv_at hl 0 rfl) ?_
  refine lv_iconst (v := 0) F.1 F.2.1 dX6_copyRow_1 (by decide) ?_
  refine topK (a := 0) (by decide) (fun k_1 hk_1 => ?_)
  refine lv_aload_n F.1 F.2.1 dX6_copyRow_2 rfl (lv_at hl 1 rfl) ?_
  refine lv_iconst (v := 0) F.1 F.2.1 dX6_copyRow_3 (by decide) ?_
  refine topK (a := 0) (by decide) (fun k_2 hk_2 => ?_)
  refine lv_aload_n F.1 F.2.1 dX6_copyRow_4 rfl (lv_at hl 0 rfl) ?_
  refine tAlen (v := 14) F hK hH (tyb ha0 (all1 rfl)) rfl (by decide) dX6_copyRow_5 ?_
  refine topK (a := 14) (by decide) (fun k_3 hk_3 => ?_)
  refine lv_aload_n F.1 F.2.1 dX6_copyRow_6 rfl (lv_at hl 1 rfl) ?_
  refine tAlen (v := 14) F hK hH (tyb ha1 (all1 rfl)) rfl (by decide) dX6_copyRow_7 ?_
  refine topK (a := 14) (by decide) (fun k_4 hk_4 => ?_)
  refine tMin (lo := 14) (hi := 14) F wd_15_5 wd_9_0 wd_9_1 wd_9_2 hl.1 (Nat.le_of_ble_eq_true rfl) (Nat.le_of_ble_eq_true rfl) (Nat.le_of_ble_eq_true rfl) (Nat.le_of_ble_eq_true rfl) dX6_copyRow_8 (eqb hk_3) (eqb hk_4) rfl (fun z_5 hz_5 => ?_)
  have en_ : z_5 = 14 := swe (by have h9_ := hz_5.2; rw [show ((14 : Int32)).toInt = 14 by decide]; omega)
  have ep_ : k_2 = 0 := swe (by have h9_ := (eqb hk_2); rw [show ((0 : Int32)).toInt = 0 by decide]; omega)
  have eq_ : k_1 = 0 := swe (by have h9_ := (eqb hk_1); rw [show ((0 : Int32)).toInt = 0 by decide]; omega)
  subst en_ ep_ eq_
  refine tCopyI (ty := .int) (k0 := 0) F wd_15_6 wd_15_7 wd_15_8 wd_15_9 hK hH hS (tyb ha0 (all1 rfl)) (tyb ha1 (all1 rfl)) (by decide) (by decide) hl.1 (Nat.le_of_ble_eq_true rfl) (Nat.le_of_ble_eq_true rfl) dX6_copyRow_11 (fun H locs hH hS => ?_)
  exact txV F hS dX6_copyRow_14 (hH)
set_option maxHeartbeats 4000000 in
set_option maxRecDepth 100000 in
theorem c_X6_copyRow_A14O (E : Ev) (dA : TD) (dB : TD) (rA : TD) (rB : TD) (rc : TD) (rd : TD) (tp : TD) (ya : TD) (yb : TD) (yc : TD) (yd : TD) (ye : TD) (yf : TD) (rC : TD) (rD : TD) (wd1 : TD) (wd2 : TD) (wd3 : TD) (wd4 : TD) (ws1 : TD) (ws2 : TD) (ws3 : TD) (ws4 : TD) (wi1 : TD) (wi2 : TD) (wi3 : TD) (wi4 : TD) (a0 : Nat) (a1 : Nat) (ha0 : eT E a0 ∈ [7]) (ha1 : eT E a1 ∈ [7]) : TcV E yX6_copyRow cX6_copyRow 2 ({ frames := 1, cells := 0, slots := 0, locals := 40 }) [.ref a0, .ref a1] (fun H => TH E (tbC dA dB rA rB rc rd tp ya yb yc yd ye yf rC rD wd1 wd2 wd3 wd4 ws1 ws2 ws3 ws4 wi1 wi2 wi3 wi4) H) (fun H => TH E (tbC dA dB rA rB rc rd tp ya yb yc yd ye yf rC rD wd1 wd2 wd3 wd4 ws1 ws2 ws3 ws4 wi1 wi2 wi3 wi4) H) := by
  refine teV (by decide) (Nat.le_of_ble_eq_true rfl) ?_
  intro p_ ev_ s mi_ below_ meth cd_ ls F hK hN hO hH hS hl
  have hH : TH E (tbC dA dB rA rB rc rd tp ya yb yc yd ye yf rC rD wd1 wd2 wd3 wd4 ws1 ws2 ws3 ws4 wi1 wi2 wi3 wi4) s.heap := hH
  have hl : lv_has ls 2 [(0, .ref a0), (1, .ref a1)] := hl
  refine lv_aload_n F.1 F.2.1 dX6_copyRow_0 rfl (lv_at hl 0 rfl) ?_
  refine lv_iconst (v := 0) F.1 F.2.1 dX6_copyRow_1 (by decide) ?_
  refine topK (a := 0) (by decide) (fun k_1 hk_1 => ?_)
  refine lv_aload_n F.1 F.2.1 dX6_copyRow_2 rfl (lv_at hl 1 rfl) ?_
  refine lv_iconst (v := 0) F.1 F.2.1 dX6_copyRow_3 (by decide) ?_
  refine topK (a := 0) (by decide) (fun k_2 hk_2 => ?_)
  refine lv_aload_n F.1 F.2.1 dX6_copyRow_4 rfl (lv_at hl 0 rfl) ?_
  refine tAlen (v := 14) F hK hH (tyb ha0 (all1 rfl)) rfl (by decide) dX6_copyRow_5 ?_
  refine topK (a := 14) (by decide) (fun k_3 hk_3 => ?_)
  refine lv_aload_n F.1 F.2.1 dX6_copyRow_6 rfl (lv_at hl 1 rfl) ?_
  refine tAlen (v := 14) F hK hH (tyb ha1 (all1 rfl)) rfl (by decide) dX6_copyRow_7 ?_
  refine topK (a := 14) (by decide) (fun k_4 hk_4 => ?_)
  refine tMin (lo := 14) (hi := 14) F wd_15_5 wd_9_0 wd_9_1 wd_9_2 hl.1 (Nat.le_of_ble_eq_true rfl) (Nat.le_of_ble_eq_true rfl) (Nat.le_of_ble_eq_true rfl) (Nat.le_of_ble_eq_true rfl) dX6_copyRow_8 (eqb hk_3) (eqb hk_4) rfl (fun z_5 hz_5 => ?_)
  have en_ : z_5 = 14 := swe (by have h9_ := hz_5.2; rw [show ((14 : Int32)).toInt = 14 by decide]; omega)
  have ep_ : k_2 = 0 := swe (by have h9_ := (eqb hk_2); rw [show ((0 : Int32)).toInt = 0 by decide]; omega)
  have eq_ : k_1 = 0 := swe (by have h9_ := (eqb hk_1); rw [show ((0 : Int32)).toInt = 0 by decide]; omega)
  subst en_ ep_ eq_
  refine tCopyI (ty := .int) (k0 := 0) F wd_15_6 wd_15_7 wd_15_8 wd_15_9 hK hH hS (tyb ha0 (all1 rfl)) (tyb ha1 (all1 rfl)) (by decide) (by decide) hl.1 (Nat.le_of_ble_eq_true rfl) (Nat.le_of_ble_eq_true rfl) dX6_copyRow_11 (fun H locs hH hS => ?_)
  exact txV F hS dX6_copyRow_14 (hH)
set_option maxHeartbeats 4000000 in
set_option maxRecDepth 100000 in
theorem c_X6_copyRow_A4F (E : Ev) (dA : TD) (dB : TD) (rA : TD) (rB : TD) (rc : TD) (rd : TD) (tp : TD) (ya : TD) (yb : TD) (yc : TD) (yd : TD) (ye : TD) (yf : TD) (rC : TD) (rD : TD) (wd1 : TD) (wd2 : TD) (wd3 : TD) (wd4 : TD) (ws1 : TD) (ws2 : TD) (ws3 : TD) (ws4 : TD) (wi1 : TD) (wi2 : TD) (wi3 : TD) (wi4 : TD) (a0 : Nat) (a1 : Nat) (ha0 : eT E a0 ∈ [8]) (ha1 : eT E a1 ∈ [8]) : TcV E yX6_copyRow cX6_copyRow 2 ({ frames := 1, cells := 0, slots := 0, locals := 40 }) [.ref a0, .ref a1] (fun H => TH E (tbC dA dB rA rB rc rd tp ya yb yc yd ye yf rC rD wd1 wd2 wd3 wd4 ws1 ws2 ws3 ws4 wi1 wi2 wi3 wi4) H) (fun H => TH E (tbC dA dB rA rB rc rd tp ya yb yc yd ye yf rC rD wd1 wd2 wd3 wd4 ws1 ws2 ws3 ws4 wi1 wi2 wi3 wi4) H) := by
  refine teV (by decide) (Nat.le_of_ble_eq_true rfl) ?_
  intro p_ ev_ s mi_ below_ meth cd_ ls F hK hN hO hH hS hl
  have hH : TH E (tbC dA dB rA rB rc rd tp ya yb yc yd ye yf rC rD wd1 wd2 wd3 wd4 ws1 ws2 ws3 ws4 wi1 wi2 wi3 wi4) s.heap := hH
  have hl : lv_has ls 2 [(0, .ref a0), (1, .ref a1)] := hl
  refine lv_aload_n F.1 F.2.1 dX6_copyRow_0 rfl (lv_at hl 0 rfl) ?_
  refine lv_iconst (v := 0) F.1 F.2.1 dX6_copyRow_1 (by decide) ?_
  refine topK (a := 0) (by decide) (fun k_1 hk_1 => ?_)
  refine lv_aload_n F.1 F.2.1 dX6_copyRow_2 rfl (lv_at hl 1 rfl) ?_
  refine lv_iconst (v := 0) F.1 F.2.1 dX6_copyRow_3 (by decide) ?_
  refine topK (a := 0) (by decide) (fun k_2 hk_2 => ?_)
  refine lv_aload_n F.1 F.2.1 dX6_copyRow_4 rfl (lv_at hl 0 rfl) ?_
  refine tAlen (v := 4) F hK hH (tyb ha0 (all1 rfl)) rfl (by decide) dX6_copyRow_5 ?_
  refine topK (a := 4) (by decide) (fun k_3 hk_3 => ?_)
  refine lv_aload_n F.1 F.2.1 dX6_copyRow_6 rfl (lv_at hl 1 rfl) ?_
  refine tAlen (v := 4) F hK hH (tyb ha1 (all1 rfl)) rfl (by decide) dX6_copyRow_7 ?_
  refine topK (a := 4) (by decide) (fun k_4 hk_4 => ?_)
  refine tMin (lo := 4) (hi := 4) F wd_15_5 wd_9_0 wd_9_1 wd_9_2 hl.1 (Nat.le_of_ble_eq_true rfl) (Nat.le_of_ble_eq_true rfl) (Nat.le_of_ble_eq_true rfl) (Nat.le_of_ble_eq_true rfl) dX6_copyRow_8 (eqb hk_3) (eqb hk_4) rfl (fun z_5 hz_5 => ?_)
  have en_ : z_5 = 4 := swe (by have h9_ := hz_5.2; rw [show ((4 : Int32)).toInt = 4 by decide]; omega)
  have ep_ : k_2 = 0 := swe (by have h9_ := (eqb hk_2); rw [show ((0 : Int32)).toInt = 0 by decide]; omega)
  have eq_ : k_1 = 0 := swe (by have h9_ := (eqb hk_1); rw [show ((0 : Int32)).toInt = 0 by decide]; omega)
  subst en_ ep_ eq_
  refine tCopyI (ty := .int) (k0 := 0) F wd_15_6 wd_15_7 wd_15_8 wd_15_9 hK hH hS (tyb ha0 (all1 rfl)) (tyb ha1 (all1 rfl)) (by decide) (by decide) hl.1 (Nat.le_of_ble_eq_true rfl) (Nat.le_of_ble_eq_true rfl) dX6_copyRow_11 (fun H locs hH hS => ?_)
  exact txV F hS dX6_copyRow_14 (hH)
set_option maxHeartbeats 4000000 in
set_option maxRecDepth 100000 in
theorem c_X6_copyRow_A4R (E : Ev) (dA : TD) (dB : TD) (rA : TD) (rB : TD) (rc : TD) (rd : TD) (tp : TD) (ya : TD) (yb : TD) (yc : TD) (yd : TD) (ye : TD) (yf : TD) (rC : TD) (rD : TD) (wd1 : TD) (wd2 : TD) (wd3 : TD) (wd4 : TD) (ws1 : TD) (ws2 : TD) (ws3 : TD) (ws4 : TD) (wi1 : TD) (wi2 : TD) (wi3 : TD) (wi4 : TD) (a0 : Nat) (a1 : Nat) (ha0 : eT E a0 ∈ [9]) (ha1 : eT E a1 ∈ [9]) : TcV E yX6_copyRow cX6_copyRow 2 ({ frames := 1, cells := 0, slots := 0, locals := 40 }) [.ref a0, .ref a1] (fun H => TH E (tbC dA dB rA rB rc rd tp ya yb yc yd ye yf rC rD wd1 wd2 wd3 wd4 ws1 ws2 ws3 ws4 wi1 wi2 wi3 wi4) H) (fun H => TH E (tbC dA dB rA rB rc rd tp ya yb yc yd ye yf rC rD wd1 wd2 wd3 wd4 ws1 ws2 ws3 ws4 wi1 wi2 wi3 wi4) H) := by
  refine teV (by decide) (Nat.le_of_ble_eq_true rfl) ?_
  intro p_ ev_ s mi_ below_ meth cd_ ls F hK hN hO hH hS hl
  have hH : TH E (tbC dA dB rA rB rc rd tp ya yb yc yd ye yf rC rD wd1 wd2 wd3 wd4 ws1 ws2 ws3 ws4 wi1 wi2 wi3 wi4) s.heap := hH
  have hl : lv_has ls 2 [(0, .ref a0), (1, .ref a1)] := hl
  refine lv_aload_n F.1 F.2.1 dX6_copyRow_0 rfl (lv_at hl 0 rfl) ?_
  refine lv_iconst (v := 0) F.1 F.2.1 dX6_copyRow_1 (by decide) ?_
  refine topK (a := 0) (by decide) (fun k_1 hk_1 => ?_)
  refine lv_aload_n F.1 F.2.1 dX6_copyRow_2 rfl (lv_at hl 1 rfl) ?_
  refine lv_iconst (v := 0) F.1 F.2.1 dX6_copyRow_3 (by decide) ?_
  refine topK (a := 0) (by decide) (fun k_2 hk_2 => ?_)
  refine lv_aload_n F.1 F.2.1 dX6_copyRow_4 rfl (lv_at hl 0 rfl) ?_
  refine tAlen (v := 4) F hK hH (tyb ha0 (all1 rfl)) rfl (by decide) dX6_copyRow_5 ?_
  refine topK (a := 4) (by decide) (fun k_3 hk_3 => ?_)
  refine lv_aload_n F.1 F.2.1 dX6_copyRow_6 rfl (lv_at hl 1 rfl) ?_
  refine tAlen (v := 4) F hK hH (tyb ha1 (all1 rfl)) rfl (by decide) dX6_copyRow_7 ?_
  refine topK (a := 4) (by decide) (fun k_4 hk_4 => ?_)
  refine tMin (lo := 4) (hi := 4) F wd_15_5 wd_9_0 wd_9_1 wd_9_2 hl.1 (Nat.le_of_ble_eq_true rfl) (Nat.le_of_ble_eq_true rfl) (Nat.le_of_ble_eq_true rfl) (Nat.le_of_ble_eq_true rfl) dX6_copyRow_8 (eqb hk_3) (eqb hk_4) rfl (fun z_5 hz_5 => ?_)
  have en_ : z_5 = 4 := swe (by have h9_ := hz_5.2; rw [show ((4 : Int32)).toInt = 4 by decide]; omega)
  have ep_ : k_2 = 0 := swe (by have h9_ := (eqb hk_2); rw [show ((0 : Int32)).toInt = 0 by decide]; omega)
  have eq_ : k_1 = 0 := swe (by have h9_ := (eqb hk_1); rw [show ((0 : Int32)).toInt = 0 by decide]; omega)
  subst en_ ep_ eq_
  refine tCopyI (ty := .int) (k0 := 0) F wd_15_6 wd_15_7 wd_15_8 wd_15_9 hK hH hS (tyb ha0 (all1 rfl)) (tyb ha1 (all1 rfl)) (by decide) (by decide) hl.1 (Nat.le_of_ble_eq_true rfl) (Nat.le_of_ble_eq_true rfl) dX6_copyRow_11 (fun H locs hH hS => ?_)
  exact txV F hS dX6_copyRow_14 (hH)
set_option maxHeartbeats 4000000 in
set_option maxRecDepth 100000 in
theorem c_X6_copyRow_A4O (E : Ev) (dA : TD) (dB : TD) (rA : TD) (rB : TD) (rc : TD) (rd : TD) (tp : TD) (ya : TD) (yb : TD) (yc : TD) (yd : TD) (ye : TD) (yf : TD) (rC : TD) (rD : TD) (wd1 : TD) (wd2 : TD) (wd3 : TD) (wd4 : TD) (ws1 : TD) (ws2 : TD) (ws3 : TD) (ws4 : TD) (wi1 : TD) (wi2 : TD) (wi3 : TD) (wi4 : TD) (a0 : Nat) (a1 : Nat) (ha0 : eT E a0 ∈ [10]) (ha1 : eT E a1 ∈ [10]) : TcV E yX6_copyRow cX6_copyRow 2 ({ frames := 1, cells := 0, slots := 0, locals := 40 }) [.ref a0, .ref a1] (fun H => TH E (tbC dA dB rA rB rc rd tp ya yb yc yd ye yf rC rD wd1 wd2 wd3 wd4 ws1 ws2 ws3 ws4 wi1 wi2 wi3 wi4) H) (fun H => TH E (tbC dA dB rA rB rc rd tp ya yb yc yd ye yf rC rD wd1 wd2 wd3 wd4 ws1 ws2 ws3 ws4 wi1 wi2 wi3 wi4) H) := by
  refine teV (by decide) (Nat.le_of_ble_eq_true rfl) ?_
  intro p_ ev_ s mi_ below_ meth cd_ ls F hK hN hO hH hS hl
  have hH : TH E (tbC dA dB rA rB rc rd tp ya yb yc yd ye yf rC rD wd1 wd2 wd3 wd4 ws1 ws2 ws3 ws4 wi1 wi2 wi3 wi4) s.heap := hH
  have hl : lv_has ls 2 [(0, .ref a0), (1, .ref a1)] := hl
  refine lv_aload_n F.1 F.2.1 dX6_copyRow_0 rfl (lv_at hl 0 rfl) ?_
  refine lv_iconst (v := 0) F.1 F.2.1 dX6_copyRow_1 (by decide) ?_
  refine topK (a := 0) (by decide) (fun k_1 hk_1 => ?_)
  refine lv_aload_n F.1 F.2.1 dX6_copyRow_2 rfl (lv_at hl 1 rfl) ?_
  refine lv_iconst (v := 0) F.1 F.2.1 dX6_copyRow_3 (by decide) ?_
  refine topK (a := 0) (by decide) (fun k_2 hk_2 => ?_)
  refine lv_aload_n F.1 F.2.1 dX6_copyRow_4 rfl (lv_at hl 0 rfl) ?_
  refine tAlen (v := 4) F hK hH (tyb ha0 (all1 rfl)) rfl (by decide) dX6_copyRow_5 ?_
  refine topK (a := 4) (by decide) (fun k_3 hk_3 => ?_)
  refine lv_aload_n F.1 F.2.1 dX6_copyRow_6 rfl (lv_at hl 1 rfl) ?_
  refine tAlen (v := 4) F hK hH (tyb ha1 (all1 rfl)) rfl (by decide) dX6_copyRow_7 ?_
  refine topK (a := 4) (by decide) (fun k_4 hk_4 => ?_)
  refine tMin (lo := 4) (hi := 4) F wd_15_5 wd_9_0 wd_9_1 wd_9_2 hl.1 (Nat.le_of_ble_eq_true rfl) (Nat.le_of_ble_eq_true rfl) (Nat.le_of_ble_eq_true rfl) (Nat.le_of_ble_eq_true rfl) dX6_copyRow_8 (eqb hk_3) (eqb hk_4) rfl (fun z_5 hz_5 => ?_)
  have en_ : z_5 = 4 := swe (by have h9_ := hz_5.2; rw [show ((4 : Int32)).toInt = 4 by decide]; omega)
  have ep_ : k_2 = 0 := swe (by have h9_ := (eqb hk_2); rw [show ((0 : Int32)).toInt = 0 by decide]; omega)
  have eq_ : k_1 = 0 := swe (by have h9_ := (eqb hk_1); rw [show ((0 : Int32)).toInt = 0 by decide]; omega)
  subst en_ ep_ eq_
  refine tCopyI (ty := .int) (k0 := 0) F wd_15_6 wd_15_7 wd_15_8 wd_15_9 hK hH hS (tyb ha0 (all1 rfl)) (tyb ha1 (all1 rfl)) (by decide) (by decide) hl.1 (Nat.le_of_ble_eq_true rfl) (Nat.le_of_ble_eq_true rfl) dX6_copyRow_11 (fun H locs hH hS => ?_)
  exact txV F hS dX6_copyRow_14 (hH)
set_option maxHeartbeats 4000000 in
set_option maxRecDepth 100000 in
theorem c_X6_copyRow_A360F (E : Ev) (dA : TD) (dB : TD) (rA : TD) (rB : TD) (rc : TD) (rd : TD) (tp : TD) (ya : TD) (yb : TD) (yc : TD) (yd : TD) (ye : TD) (yf : TD) (rC : TD) (rD : TD) (wd1 : TD) (wd2 : TD) (wd3 : TD) (wd4 : TD) (ws1 : TD) (ws2 : TD) (ws3 : TD) (ws4 : TD) (wi1 : TD) (wi2 : TD) (wi3 : TD) (wi4 : TD) (a0 : Nat) (a1 : Nat) (ha0 : eT E a0 ∈ [11]) (ha1 : eT E a1 ∈ [11]) : TcV E yX6_copyRow cX6_copyRow 2 ({ frames := 1, cells := 0, slots := 0, locals := 40 }) [.ref a0, .ref a1] (fun H => TH E (tbC dA dB rA rB rc rd tp ya yb yc yd ye yf rC rD wd1 wd2 wd3 wd4 ws1 ws2 ws3 ws4 wi1 wi2 wi3 wi4) H) (fun H => TH E (tbC dA dB rA rB rc rd tp ya yb yc yd ye yf rC rD wd1 wd2 wd3 wd4 ws1 ws2 ws3 ws4 wi1 wi2 wi3 wi4) H) := by
  refine teV (by decide) (Nat.le_of_ble_eq_true rfl) ?_
  intro p_ ev_ s mi_ below_ meth cd_ ls F hK hN hO hH hS hl
  have hH : TH E (tbC dA dB rA rB rc rd tp ya yb yc yd ye yf rC rD wd1 wd2 wd3 wd4 ws1 ws2 ws3 ws4 wi1 wi2 wi3 wi4) s.heap := hH
  have hl : lv_has ls 2 [(0, .ref a0), (1, .ref a1)] := hl
  refine lv_aload_n F.1 F.2.1 dX6_copyRow_0 rfl (lv_at hl 0 rfl) ?_
  refine lv_iconst (v := 0) F.1 F.2.1 dX6_copyRow_1 (by decide) ?_
  refine topK (a := 0) (by decide) (fun k_1 hk_1 => ?_)
  refine lv_aload_n F.1 F.2.1 dX6_copyRow_2 rfl (lv_at hl 1 rfl) ?_
  refine lv_iconst (v := 0) F.1 F.2.1 dX6_copyRow_3 (by decide) ?_
  refine topK (a := 0) (by decide) (fun k_2 hk_2 => ?_)
  refine lv_aload_n F.1 F.2.1 dX6_copyRow_4 rfl (lv_at hl 0 rfl) ?_
  refine tAlen (v := 360) F hK hH (tyb ha0 (all1 rfl)) rfl (by decide) dX6_copyRow_5 ?_
  refine topK (a := 360) (by decide) (fun k_3 hk_3 => ?_)
  refine lv_aload_n F.1 F.2.1 dX6_copyRow_6 rfl (lv_at hl 1 rfl) ?_
  refine tAlen (v := 360) F hK hH (tyb ha1 (all1 rfl)) rfl (by decide) dX6_copyRow_7 ?_
  refine topK (a := 360) (by decide) (fun k_4 hk_4 => ?_)
  refine tMin (lo := 360) (hi := 360) F wd_15_5 wd_9_0 wd_9_1 wd_9_2 hl.1 (Nat.le_of_ble_eq_true rfl) (Nat.le_of_ble_eq_true rfl) (Nat.le_of_ble_eq_true rfl) (Nat.le_of_ble_eq_true rfl) dX6_copyRow_8 (eqb hk_3) (eqb hk_4) rfl (fun z_5 hz_5 => ?_)
  have en_ : z_5 = 360 := swe (by have h9_ := hz_5.2; rw [show ((360 : Int32)).toInt = 360 by decide]; omega)
  have ep_ : k_2 = 0 := swe (by have h9_ := (eqb hk_2); rw [show ((0 : Int32)).toInt = 0 by decide]; omega)
  have eq_ : k_1 = 0 := swe (by have h9_ := (eqb hk_1); rw [show ((0 : Int32)).toInt = 0 by decide]; omega)
  subst en_ ep_ eq_
  refine tCopyI (ty := .int) (k0 := 0) F wd_15_6 wd_15_7 wd_15_8 wd_15_9 hK hH hS (tyb ha0 (all1 rfl)) (tyb ha1 (all1 rfl)) (by decide) (by decide) hl.1 (Nat.le_of_ble_eq_true rfl) (Nat.le_of_ble_eq_true rfl) dX6_copyRow_11 (fun H locs hH hS => ?_)
  exact txV F hS dX6_copyRow_14 (hH)
set_option maxHeartbeats 4000000 in
set_option maxRecDepth 100000 in
theorem c_X6_copyRow_g (E : Ev) (dA : TD) (dB : TD) (rA : TD) (rB : TD) (rc : TD) (rd : TD) (tp : TD) (rC : TD) (rD : TD) (wd1 : TD) (wd2 : TD) (wd3 : TD) (wd4 : TD) (ws1 : TD) (ws2 : TD) (ws3 : TD) (ws4 : TD) (wi1 : TD) (wi2 : TD) (wi3 : TD) (wi4 : TD) (a0 : Nat) (a1 : Nat) (ha0 : eT E a0 ∈ [3, 31, 32]) (ha1 : eT E a1 ∈ [3, 31, 32]) : TcV E yX6_copyRow cX6_copyRow 2 ({ frames := 1, cells := 0, slots := 0, locals := 40 }) [.ref a0, .ref a1] (fun H => TH E (tbC dA dB rA rB rc rd tp A14F A14F A4F A4F A14F A14F rC rD wd1 wd2 wd3 wd4 ws1 ws2 ws3 ws4 wi1 wi2 wi3 wi4) H) (fun H => TH E (tbC dA dB rA rB rc rd tp A14F A14F A4F A4F A14F A14F rC rD wd1 wd2 wd3 wd4 ws1 ws2 ws3 ws4 wi1 wi2 wi3 wi4) H) := by
  refine teV (by decide) (Nat.le_of_ble_eq_true rfl) ?_
  intro p_ ev_ s mi_ below_ meth cd_ ls F hK hN hO hH hS hl
  have hH : TH E (tbC dA dB rA rB rc rd tp A14F A14F A4F A4F A14F A14F rC rD wd1 wd2 wd3 wd4 ws1 ws2 ws3 ws4 wi1 wi2 wi3 wi4) s.heap := hH
  have hl : lv_has ls 2 [(0, .ref a0), (1, .ref a1)] := hl
  refine lv_aload_n F.1 F.2.1 dX6_copyRow_0 rfl (lv_at hl 0 rfl) ?_
  refine lv_iconst (v := 0) F.1 F.2.1 dX6_copyRow_1 (by decide) ?_
  refine topK (a := 0) (by decide) (fun k_1 hk_1 => ?_)
  refine lv_aload_n F.1 F.2.1 dX6_copyRow_2 rfl (lv_at hl 1 rfl) ?_
  refine lv_iconst (v := 0) F.1 F.2.1 dX6_copyRow_3 (by decide) ?_
  refine topK (a := 0) (by decide) (fun k_2 hk_2 => ?_)
  refine lv_aload_n F.1 F.2.1 dX6_copyRow_4 rfl (lv_at hl 0 rfl) ?_
  refine tAlen (v := 14) F hK hH (tyb ha0 (all3 rfl rfl rfl)) rfl (by decide) dX6_copyRow_5 ?_
  refine topK (a := 14) (by decide) (fun k_3 hk_3 => ?_)
  refine lv_aload_n F.1 F.2.1 dX6_copyRow_6 rfl (lv_at hl 1 rfl) ?_
  refine tAlen (v := 14) F hK hH (tyb ha1 (all3 rfl rfl rfl)) rfl (by decide) dX6_copyRow_7 ?_
  refine topK (a := 14) (by decide) (fun k_4 hk_4 => ?_)
  refine tMin (lo := 14) (hi := 14) F wd_15_5 wd_9_0 wd_9_1 wd_9_2 hl.1 (Nat.le_of_ble_eq_true rfl) (Nat.le_of_ble_eq_true rfl) (Nat.le_of_ble_eq_true rfl) (Nat.le_of_ble_eq_true rfl) dX6_copyRow_8 (eqb hk_3) (eqb hk_4) rfl (fun z_5 hz_5 => ?_)
  have en_ : z_5 = 14 := swe (by have h9_ := hz_5.2; rw [show ((14 : Int32)).toInt = 14 by decide]; omega)
  have ep_ : k_2 = 0 := swe (by have h9_ := (eqb hk_2); rw [show ((0 : Int32)).toInt = 0 by decide]; omega)
  have eq_ : k_1 = 0 := swe (by have h9_ := (eqb hk_1); rw [show ((0 : Int32)).toInt = 0 by decide]; omega)
  subst en_ ep_ eq_
  refine tCopyI (ty := .int) (k0 := 0) F wd_15_6 wd_15_7 wd_15_8 wd_15_9 hK hH hS (tyb ha0 (all3 rfl rfl rfl)) (tyb ha1 (all3 rfl rfl rfl)) (by decide) (by decide) hl.1 (Nat.le_of_ble_eq_true rfl) (Nat.le_of_ble_eq_true rfl) dX6_copyRow_11 (fun H locs hH hS => ?_)
  exact txV F hS dX6_copyRow_14 (hH)
set_option maxHeartbeats 4000000 in
set_option maxRecDepth 100000 in
theorem c_X6_copyRow_f (E : Ev) (dA : TD) (dB : TD) (rA : TD) (rB : TD) (rc : TD) (rd : TD) (tp : TD) (rC : TD) (rD : TD) (wd1 : TD) (wd2 : TD) (wd3 : TD) (wd4 : TD) (ws1 : TD) (ws2 : TD) (ws3 : TD) (ws4 : TD) (wi1 : TD) (wi2 : TD) (wi3 : TD) (wi4 : TD) (a0 : Nat) (a1 : Nat) (ha0 : eT E a0 ∈ [3, 35, 36]) (ha1 : eT E a1 ∈ [3, 35, 36]) : TcV E yX6_copyRow cX6_copyRow 2 ({ frames := 1, cells := 0, slots := 0, locals := 40 }) [.ref a0, .ref a1] (fun H => TH E (tbC dA dB rA rB rc rd tp A14F A14F A4F A4F A14F A14F rC rD wd1 wd2 wd3 wd4 ws1 ws2 ws3 ws4 wi1 wi2 wi3 wi4) H) (fun H => TH E (tbC dA dB rA rB rc rd tp A14F A14F A4F A4F A14F A14F rC rD wd1 wd2 wd3 wd4 ws1 ws2 ws3 ws4 wi1 wi2 wi3 wi4) H) := by
  refine teV (by decide) (Nat.le_of_ble_eq_true rfl) ?_
  intro p_ ev_ s mi_ below_ meth cd_ ls F hK hN hO hH hS hl
  have hH : TH E (tbC dA dB rA rB rc rd tp A14F A14F A4F A4F A14F A14F rC rD wd1 wd2 wd3 wd4 ws1 ws2 ws3 ws4 wi1 wi2 wi3 wi4) s.heap := hH
  have hl : lv_has ls 2 [(0, .ref a0), (1, .ref a1)] := hl
  refine lv_aload_n F.1 F.2.1 dX6_copyRow_0 rfl (lv_at hl 0 rfl) ?_
  refine lv_iconst (v := 0) F.1 F.2.1 dX6_copyRow_1 (by decide) ?_
  refine topK (a := 0) (by decide) (fun k_1 hk_1 => ?_)
  refine lv_aload_n F.1 F.2.1 dX6_copyRow_2 rfl (lv_at hl 1 rfl) ?_
  refine lv_iconst (v := 0) F.1 F.2.1 dX6_copyRow_3 (by decide) ?_
  refine topK (a := 0) (by decide) (fun k_2 hk_2 => ?_)
  refine lv_aload_n F.1 F.2.1 dX6_copyRow_4 rfl (lv_at hl 0 rfl) ?_
  refine tAlen (v := 14) F hK hH (tyb ha0 (all3 rfl rfl rfl)) rfl (by decide) dX6_copyRow_5 ?_
  refine topK (a := 14) (by decide) (fun k_3 hk_3 => ?_)
  refine lv_aload_n F.1 F.2.1 dX6_copyRow_6 rfl (lv_at hl 1 rfl) ?_
  refine tAlen (v := 14) F hK hH (tyb ha1 (all3 rfl rfl rfl)) rfl (by decide) dX6_copyRow_7 ?_
  refine topK (a := 14) (by decide) (fun k_4 hk_4 => ?_)
  refine tMin (lo := 14) (hi := 14) F wd_15_5 wd_9_0 wd_9_1 wd_9_2 hl.1 (Nat.le_of_ble_eq_true rfl) (Nat.le_of_ble_eq_true rfl) (Nat.le_of_ble_eq_true rfl) (Nat.le_of_ble_eq_true rfl) dX6_copyRow_8 (eqb hk_3) (eqb hk_4) rfl (fun z_5 hz_5 => ?_)
  have en_ : z_5 = 14 := swe (by have h9_ := hz_5.2; rw [show ((14 : Int32)).toInt = 14 by decide]; omega)
  have ep_ : k_2 = 0 := swe (by have h9_ := (eqb hk_2); rw [show ((0 : Int32)).toInt = 0 by decide]; omega)
  have eq_ : k_1 = 0 := swe (by have h9_ := (eqb hk_1); rw [show ((0 : Int32)).toInt = 0 by decide]; omega)
  subst en_ ep_ eq_
  refine tCopyI (ty := .int) (k0 := 0) F wd_15_6 wd_15_7 wd_15_8 wd_15_9 hK hH hS (tyb ha0 (all3 rfl rfl rfl)) (tyb ha1 (all3 rfl rfl rfl)) (by decide) (by decide) hl.1 (Nat.le_of_ble_eq_true rfl) (Nat.le_of_ble_eq_true rfl) dX6_copyRow_11 (fun H locs hH hS => ?_)
  exact txV F hS dX6_copyRow_14 (hH)
set_option maxHeartbeats 4000000 in
set_option maxRecDepth 100000 in
theorem c_X6_copyRow_s (E : Ev) (dA : TD) (dB : TD) (rA : TD) (rB : TD) (rc : TD) (rd : TD) (tp : TD) (rC : TD) (rD : TD) (wd1 : TD) (wd2 : TD) (wd3 : TD) (wd4 : TD) (ws1 : TD) (ws2 : TD) (ws3 : TD) (ws4 : TD) (wi1 : TD) (wi2 : TD) (wi3 : TD) (wi4 : TD) (a0 : Nat) (a1 : Nat) (ha0 : eT E a0 ∈ [8, 33, 34]) (ha1 : eT E a1 ∈ [8, 33, 34]) : TcV E yX6_copyRow cX6_copyRow 2 ({ frames := 1, cells := 0, slots := 0, locals := 40 }) [.ref a0, .ref a1] (fun H => TH E (tbC dA dB rA rB rc rd tp A14F A14F A4F A4F A14F A14F rC rD wd1 wd2 wd3 wd4 ws1 ws2 ws3 ws4 wi1 wi2 wi3 wi4) H) (fun H => TH E (tbC dA dB rA rB rc rd tp A14F A14F A4F A4F A14F A14F rC rD wd1 wd2 wd3 wd4 ws1 ws2 ws3 ws4 wi1 wi2 wi3 wi4) H) := by
  refine teV (by decide) (Nat.le_of_ble_eq_true rfl) ?_
  intro p_ ev_ s mi_ below_ meth cd_ ls F hK hN hO hH hS hl
  have hH : TH E (tbC dA dB rA rB rc rd tp A14F A14F A4F A4F A14F A14F rC rD wd1 wd2 wd3 wd4 ws1 ws2 ws3 ws4 wi1 wi2 wi3 wi4) s.heap := hH
  have hl : lv_has ls 2 [(0, .ref a0), (1, .ref a1)] := hl
  refine lv_aload_n F.1 F.2.1 dX6_copyRow_0 rfl (lv_at hl 0 rfl) ?_
  refine lv_iconst (v := 0) F.1 F.2.1 dX6_copyRow_1 (by decide) ?_
  refine topK (a := 0) (by decide) (fun k_1 hk_1 => ?_)
  refine lv_aload_n F.1 F.2.1 dX6_copyRow_2 rfl (lv_at hl 1 rfl) ?_
  refine lv_iconst (v := 0) F.1 F.2.1 dX6_copyRow_3 (by decide) ?_
  refine topK (a := 0) (by decide) (fun k_2 hk_2 => ?_)
  refine lv_aload_n F.1 F.2.1 dX6_copyRow_4 rfl (lv_at hl 0 rfl) ?_
  refine tAlen (v := 4) F hK hH (tyb ha0 (all3 rfl rfl rfl)) rfl (by decide) dX6_copyRow_5 ?_
  refine topK (a := 4) (by decide) (fun k_3 hk_3 => ?_)
  refine lv_aload_n F.1 F.2.1 dX6_copyRow_6 rfl (lv_at hl 1 rfl) ?_
  refine tAlen (v := 4) F hK hH (tyb ha1 (all3 rfl rfl rfl)) rfl (by decide) dX6_copyRow_7 ?_
  refine topK (a := 4) (by decide) (fun k_4 hk_4 => ?_)
  refine tMin (lo := 4) (hi := 4) F wd_15_5 wd_9_0 wd_9_1 wd_9_2 hl.1 (Nat.le_of_ble_eq_true rfl) (Nat.le_of_ble_eq_true rfl) (Nat.le_of_ble_eq_true rfl) (Nat.le_of_ble_eq_true rfl) dX6_copyRow_8 (eqb hk_3) (eqb hk_4) rfl (fun z_5 hz_5 => ?_)
  have en_ : z_5 = 4 := swe (by have h9_ := hz_5.2; rw [show ((4 : Int32)).toInt = 4 by decide]; omega)
  have ep_ : k_2 = 0 := swe (by have h9_ := (eqb hk_2); rw [show ((0 : Int32)).toInt = 0 by decide]; omega)
  have eq_ : k_1 = 0 := swe (by have h9_ := (eqb hk_1); rw [show ((0 : Int32)).toInt = 0 by decide]; omega)
  subst en_ ep_ eq_
  refine tCopyI (ty := .int) (k0 := 0) F wd_15_6 wd_15_7 wd_15_8 wd_15_9 hK hH hS (tyb ha0 (all3 rfl rfl rfl)) (tyb ha1 (all3 rfl rfl rfl)) (by decide) (by decide) hl.1 (Nat.le_of_ble_eq_true rfl) (Nat.le_of_ble_eq_true rfl) dX6_copyRow_11 (fun H locs hH hS => ?_)
  exact txV F hS dX6_copyRow_14 (hH)
set_option maxHeartbeats 4000000 in
set_option maxRecDepth 100000 in
theorem c_X6_copyRow_pd (E : Ev) (dA : TD) (dB : TD) (rA : TD) (rB : TD) (rc : TD) (rd : TD) (tp : TD) (ya : TD) (yb : TD) (yc : TD) (yd : TD) (ye : TD) (yf : TD) (rC : TD) (rD : TD) (ws1 : TD) (ws2 : TD) (ws3 : TD) (ws4 : TD) (wi1 : TD) (wi2 : TD) (wi3 : TD) (wi4 : TD) (a0 : Nat) (a1 : Nat) (ha0 : eT E a0 ∈ [39, 40, 41, 42]) (ha1 : eT E a1 ∈ [39, 40, 41, 42]) : TcV E yX6_copyRow cX6_copyRow 2 ({ frames := 1, cells := 0, slots := 0, locals := 40 }) [.ref a0, .ref a1] (fun H => TH E (tbC dA dB rA rB rc rd tp ya yb yc yd ye yf rC rD A12D A12D A12D A12D ws1 ws2 ws3 ws4 wi1 wi2 wi3 wi4) H) (fun H => TH E (tbC dA dB rA rB rc rd tp ya yb yc yd ye yf rC rD A12D A12D A12D A12D ws1 ws2 ws3 ws4 wi1 wi2 wi3 wi4) H) := by
  refine teV (by decide) (Nat.le_of_ble_eq_true rfl) ?_
  intro p_ ev_ s mi_ below_ meth cd_ ls F hK hN hO hH hS hl
  have hH : TH E (tbC dA dB rA rB rc rd tp ya yb yc yd ye yf rC rD A12D A12D A12D A12D ws1 ws2 ws3 ws4 wi1 wi2 wi3 wi4) s.heap := hH
  have hl : lv_has ls 2 [(0, .ref a0), (1, .ref a1)] := hl
  refine lv_aload_n F.1 F.2.1 dX6_copyRow_0 rfl (lv_at hl 0 rfl) ?_
  refine lv_iconst (v := 0) F.1 F.2.1 dX6_copyRow_1 (by decide) ?_
  refine topK (a := 0) (by decide) (fun k_1 hk_1 => ?_)
  refine lv_aload_n F.1 F.2.1 dX6_copyRow_2 rfl (lv_at hl 1 rfl) ?_
  refine lv_iconst (v := 0) F.1 F.2.1 dX6_copyRow_3 (by decide) ?_
  refine topK (a := 0) (by decide) (fun k_2 hk_2 => ?_)
  refine lv_aload_n F.1 F.2.1 dX6_copyRow_4 rfl (lv_at hl 0 rfl) ?_
  refine tAlen (v := 12) F hK hH (tyb ha0 (alls rfl (alls rfl (alls rfl (alls1 rfl))))) rfl (by decide) dX6_copyRow_5 ?_
  refine topK (a := 12) (by decide) (fun k_3 hk_3 => ?_)
  refine lv_aload_n F.1 F.2.1 dX6_copyRow_6 rfl (lv_at hl 1 rfl) ?_
  refine tAlen (v := 12) F hK hH (tyb ha1 (alls rfl (alls rfl (alls rfl (alls1 rfl))))) rfl (by decide) dX6_copyRow_7 ?_
  refine topK (a := 12) (by decide) (fun k_4 hk_4 => ?_)
  refine tMin (lo := 12) (hi := 12) F wd_15_5 wd_9_0 wd_9_1 wd_9_2 hl.1 (Nat.le_of_ble_eq_true rfl) (Nat.le_of_ble_eq_true rfl) (Nat.le_of_ble_eq_true rfl) (Nat.le_of_ble_eq_true rfl) dX6_copyRow_8 (eqb hk_3) (eqb hk_4) rfl (fun z_5 hz_5 => ?_)
  have en_ : z_5 = 12 := swe (by have h9_ := hz_5.2; rw [show ((12 : Int32)).toInt = 12 by decide]; omega)
  have ep_ : k_2 = 0 := swe (by have h9_ := (eqb hk_2); rw [show ((0 : Int32)).toInt = 0 by decide]; omega)
  have eq_ : k_1 = 0 := swe (by have h9_ := (eqb hk_1); rw [show ((0 : Int32)).toInt = 0 by decide]; omega)
  subst en_ ep_ eq_
  refine tCopyI (ty := .int) (k0 := 0) F wd_15_6 wd_15_7 wd_15_8 wd_15_9 hK hH hS (tyb ha0 (alls rfl (alls rfl (alls rfl (alls1 rfl))))) (tyb ha1 (alls rfl (alls rfl (alls rfl (alls1 rfl))))) (by decide) (by decide) hl.1 (Nat.le_of_ble_eq_true rfl) (Nat.le_of_ble_eq_true rfl) dX6_copyRow_11 (fun H locs hH hS => ?_)
  exact txV F hS dX6_copyRow_14 (hH)
set_option maxHeartbeats 4000000 in
set_option maxRecDepth 100000 in
theorem c_X6_copyRow_ps (E : Ev) (dA : TD) (dB : TD) (rA : TD) (rB : TD) (rc : TD) (rd : TD) (tp : TD) (ya : TD) (yb : TD) (yc : TD) (yd : TD) (ye : TD) (yf : TD) (rC : TD) (rD : TD) (wd1 : TD) (wd2 : TD) (wd3 : TD) (wd4 : TD) (wi1 : TD) (wi2 : TD) (wi3 : TD) (wi4 : TD) (a0 : Nat) (a1 : Nat) (ha0 : eT E a0 ∈ [43, 44, 45, 46]) (ha1 : eT E a1 ∈ [43, 44, 45, 46]) : TcV E yX6_copyRow cX6_copyRow 2 ({ frames := 1, cells := 0, slots := 0, locals := 40 }) [.ref a0, .ref a1] (fun H => TH E (tbC dA dB rA rB rc rd tp ya yb yc yd ye yf rC rD wd1 wd2 wd3 wd4 A12F A12F A12F A12F wi1 wi2 wi3 wi4) H) (fun H => TH E (tbC dA dB rA rB rc rd tp ya yb yc yd ye yf rC rD wd1 wd2 wd3 wd4 A12F A12F A12F A12F wi1 wi2 wi3 wi4) H) := by
  refine teV (by decide) (Nat.le_of_ble_eq_true rfl) ?_
  intro p_ ev_ s mi_ below_ meth cd_ ls F hK hN hO hH hS hl
  have hH : TH E (tbC dA dB rA rB rc rd tp ya yb yc yd ye yf rC rD wd1 wd2 wd3 wd4 A12F A12F A12F A12F wi1 wi2 wi3 wi4) s.heap := hH
  have hl : lv_has ls 2 [(0, .ref a0), (1, .ref a1)] := hl
  refine lv_aload_n F.1 F.2.1 dX6_copyRow_0 rfl (lv_at hl 0 rfl) ?_
  refine lv_iconst (v := 0) F.1 F.2.1 dX6_copyRow_1 (by decide) ?_
  refine topK (a := 0) (by decide) (fun k_1 hk_1 => ?_)
  refine lv_aload_n F.1 F.2.1 dX6_copyRow_2 rfl (lv_at hl 1 rfl) ?_
  refine lv_iconst (v := 0) F.1 F.2.1 dX6_copyRow_3 (by decide) ?_
  refine topK (a := 0) (by decide) (fun k_2 hk_2 => ?_)
  refine lv_aload_n F.1 F.2.1 dX6_copyRow_4 rfl (lv_at hl 0 rfl) ?_
  refine tAlen (v := 12) F hK hH (tyb ha0 (alls rfl (alls rfl (alls rfl (alls1 rfl))))) rfl (by decide) dX6_copyRow_5 ?_
  refine topK (a := 12) (by decide) (fun k_3 hk_3 => ?_)
  refine lv_aload_n F.1 F.2.1 dX6_copyRow_6 rfl (lv_at hl 1 rfl) ?_
  refine tAlen (v := 12) F hK hH (tyb ha1 (alls rfl (alls rfl (alls rfl (alls1 rfl))))) rfl (by decide) dX6_copyRow_7 ?_
  refine topK (a := 12) (by decide) (fun k_4 hk_4 => ?_)
  refine tMin (lo := 12) (hi := 12) F wd_15_5 wd_9_0 wd_9_1 wd_9_2 hl.1 (Nat.le_of_ble_eq_true rfl) (Nat.le_of_ble_eq_true rfl) (Nat.le_of_ble_eq_true rfl) (Nat.le_of_ble_eq_true rfl) dX6_copyRow_8 (eqb hk_3) (eqb hk_4) rfl (fun z_5 hz_5 => ?_)
  have en_ : z_5 = 12 := swe (by have h9_ := hz_5.2; rw [show ((12 : Int32)).toInt = 12 by decide]; omega)
  have ep_ : k_2 = 0 := swe (by have h9_ := (eqb hk_2); rw [show ((0 : Int32)).toInt = 0 by decide]; omega)
  have eq_ : k_1 = 0 := swe (by have h9_ := (eqb hk_1); rw [show ((0 : Int32)).toInt = 0 by decide]; omega)
  subst en_ ep_ eq_
  refine tCopyI (ty := .int) (k0 := 0) F wd_15_6 wd_15_7 wd_15_8 wd_15_9 hK hH hS (tyb ha0 (alls rfl (alls rfl (alls rfl (alls1 rfl))))) (tyb ha1 (alls rfl (alls rfl (alls rfl (alls1 rfl))))) (by decide) (by decide) hl.1 (Nat.le_of_ble_eq_true rfl) (Nat.le_of_ble_eq_true rfl) dX6_copyRow_11 (fun H locs hH hS => ?_)
  exact txV F hS dX6_copyRow_14 (hH)
set_option maxHeartbeats 4000000 in
set_option maxRecDepth 100000 in
theorem c_X6_copyRow_pi (E : Ev) (dA : TD) (dB : TD) (rA : TD) (rB : TD) (rc : TD) (rd : TD) (tp : TD) (ya : TD) (yb : TD) (yc : TD) (yd : TD) (ye : TD) (yf : TD) (rC : TD) (rD : TD) (wd1 : TD) (wd2 : TD) (wd3 : TD) (wd4 : TD) (ws1 : TD) (ws2 : TD) (ws3 : TD) (ws4 : TD) (a0 : Nat) (a1 : Nat) (ha0 : eT E a0 ∈ [47, 48, 49, 50]) (ha1 : eT E a1 ∈ [47, 48, 49, 50]) : TcV E yX6_copyRow cX6_copyRow 2 ({ frames := 1, cells := 0, slots := 0, locals := 40 }) [.ref a0, .ref a1] (fun H => TH E (tbC dA dB rA rB rc rd tp ya yb yc yd ye yf rC rD wd1 wd2 wd3 wd4 ws1 ws2 ws3 ws4 A48F A48F A48F A48F) H) (fun H => TH E (tbC dA dB rA rB rc rd tp ya yb yc yd ye yf rC rD wd1 wd2 wd3 wd4 ws1 ws2 ws3 ws4 A48F A48F A48F A48F) H) := by
  refine teV (by decide) (Nat.le_of_ble_eq_true rfl) ?_
  intro p_ ev_ s mi_ below_ meth cd_ ls F hK hN hO hH hS hl
  have hH : TH E (tbC dA dB rA rB rc rd tp ya yb yc yd ye yf rC rD wd1 wd2 wd3 wd4 ws1 ws2 ws3 ws4 A48F A48F A48F A48F) s.heap := hH
  have hl : lv_has ls 2 [(0, .ref a0), (1, .ref a1)] := hl
  refine lv_aload_n F.1 F.2.1 dX6_copyRow_0 rfl (lv_at hl 0 rfl) ?_
  refine lv_iconst (v := 0) F.1 F.2.1 dX6_copyRow_1 (by decide) ?_
  refine topK (a := 0) (by decide) (fun k_1 hk_1 => ?_)
  refine lv_aload_n F.1 F.2.1 dX6_copyRow_2 rfl (lv_at hl 1 rfl) ?_
  refine lv_iconst (v := 0) F.1 F.2.1 dX6_copyRow_3 (by decide) ?_
  refine topK (a := 0) (by decide) (fun k_2 hk_2 => ?_)
  refine lv_aload_n F.1 F.2.1 dX6_copyRow_4 rfl (lv_at hl 0 rfl) ?_
  refine tAlen (v := 48) F hK hH (tyb ha0 (alls rfl (alls rfl (alls rfl (alls1 rfl))))) rfl (by decide) dX6_copyRow_5 ?_
  refine topK (a := 48) (by decide) (fun k_3 hk_3 => ?_)
  refine lv_aload_n F.1 F.2.1 dX6_copyRow_6 rfl (lv_at hl 1 rfl) ?_
  refine tAlen (v := 48) F hK hH (tyb ha1 (alls rfl (alls rfl (alls rfl (alls1 rfl))))) rfl (by decide) dX6_copyRow_7 ?_
  refine topK (a := 48) (by decide) (fun k_4 hk_4 => ?_)
  refine tMin (lo := 48) (hi := 48) F wd_15_5 wd_9_0 wd_9_1 wd_9_2 hl.1 (Nat.le_of_ble_eq_true rfl) (Nat.le_of_ble_eq_true rfl) (Nat.le_of_ble_eq_true rfl) (Nat.le_of_ble_eq_true rfl) dX6_copyRow_8 (eqb hk_3) (eqb hk_4) rfl (fun z_5 hz_5 => ?_)
  have en_ : z_5 = 48 := swe (by have h9_ := hz_5.2; rw [show ((48 : Int32)).toInt = 48 by decide]; omega)
  have ep_ : k_2 = 0 := swe (by have h9_ := (eqb hk_2); rw [show ((0 : Int32)).toInt = 0 by decide]; omega)
  have eq_ : k_1 = 0 := swe (by have h9_ := (eqb hk_1); rw [show ((0 : Int32)).toInt = 0 by decide]; omega)
  subst en_ ep_ eq_
  refine tCopyI (ty := .int) (k0 := 0) F wd_15_6 wd_15_7 wd_15_8 wd_15_9 hK hH hS (tyb ha0 (alls rfl (alls rfl (alls rfl (alls1 rfl))))) (tyb ha1 (alls rfl (alls rfl (alls rfl (alls1 rfl))))) (by decide) (by decide) hl.1 (Nat.le_of_ble_eq_true rfl) (Nat.le_of_ble_eq_true rfl) dX6_copyRow_11 (fun H locs hH hS => ?_)
  exact txV F hS dX6_copyRow_14 (hH)
set_option maxHeartbeats 4000000 in
set_option maxRecDepth 100000 in
theorem c_X2_runsTo (E : Ev) (dA : TD) (dB : TD) (rc : TD) (rd : TD) (tp : TD) (Fa1 : Int × Int) (Fb1 : Int × Int) (Fa2 : Int × Int) (Fb2 : Int × Int) (Fa3 : Int × Int) (Fb3 : Int × Int) (Fa4 : Int × Int) (Fb4 : Int × Int) (Pd1 : (Nat → Int32) → Prop) (Pd2 : (Nat → Int32) → Prop) (Pd3 : (Nat → Int32) → Prop) (Pd4 : (Nat → Int32) → Prop) (Ps1 : (Nat → Int32) → Prop) (Ps2 : (Nat → Int32) → Prop) (Ps3 : (Nat → Int32) → Prop) (Ps4 : (Nat → Int32) → Prop) (Pi1 : (Nat → Int32) → Prop) (Pi2 : (Nat → Int32) → Prop) (Pi3 : (Nat → Int32) → Prop) (Pi4 : (Nat → Int32) → Prop) (a0 : Nat) (a1 : Int32) (a2 : Int32) (ha0 : eT E a0 ∈ [26, 27, 37, 38]) (ha1 : (-2) ≤ a1.toInt ∧ a1.toInt ≤ 11) (hFa1 : 0 ≤ Fa1.1 ∧ Fa1.2 ≤ 12) (hFb1 : 0 ≤ Fb1.1 ∧ Fb1.2 ≤ 14) (hFa2 : 0 ≤ Fa2.1 ∧ Fa2.2 ≤ 12) (hFb2 : 0 ≤ Fb2.1 ∧ Fb2.2 ≤ 14) (hFa3 : 0 ≤ Fa3.1 ∧ Fa3.2 ≤ 12) (hFb3 : 0 ≤ Fb3.1 ∧ Fb3.2 ≤ 14) (hFa4 : 0 ≤ Fa4.1 ∧ Fa4.2 ≤ 12) (hFb4 : 0 ≤ Fb4.1 ∧ Fb4.2 ≤ 14) (hPd1 : ∀ f, Pd1 f → ivP 12 (-2) 11 f) (hPd2 : ∀ f, Pd2 f → ivP 12 (-2) 11 f) (hPd3 : ∀ f, Pd3 f → ivP 12 (-2) 11 f) (hPd4 : ∀ f, Pd4 f → ivP 12 (-2) 11 f) (hPs1 : ∀ f, Ps1 f → ivP 12 (-2147483648) 2147483647 f) (hPs2 : ∀ f, Ps2 f → ivP 12 (-2147483648) 2147483647 f) (hPs3 : ∀ f, Ps3 f → ivP 12 (-2147483648) 2147483647 f) (hPs4 : ∀ f, Ps4 f → ivP 12 (-2147483648) 2147483647 f) (hPi1 : ∀ f, Pi1 f → ivP 48 (-2147483648) 2147483647 f) (hPi2 : ∀ f, Pi2 f → ivP 48 (-2147483648) 2147483647 f) (hPi3 : ∀ f, Pi3 f → ivP 48 (-2147483648) 2147483647 f) (hPi4 : ∀ f, Pi4 f → ivP 48 (-2147483648) 2147483647 f) : TcI E yX2_runsTo cX2_runsTo 5 .boolean ({ frames := 1, cells := 0, slots := 0, locals := 40 }) [.ref a0, .int a1, .int a2] (fun H => TH E (tbC dA dB (riverD (.inl Fa1) (.inl Fb1) (.inl (0, 4)) 31 33 35 39 43 47) (riverD (.inl Fa2) (.inl Fb2) (.inl (0, 4)) 32 34 36 40 44 48) rc rd tp A14F A14F A4F A4F A14F A14F (riverD (.inl Fa3) (.inl Fb3) (.inl (0, 4)) 3 8 3 41 45 49) (riverD (.inl Fa4) (.inl Fb4) (.inl (0, 4)) 3 8 3 42 46 50) ((.inr (.inl (0, 12, Pd1)))) ((.inr (.inl (0, 12, Pd2)))) ((.inr (.inl (0, 12, Pd3)))) ((.inr (.inl (0, 12, Pd4)))) ((.inr (.inl (0, 12, Ps1)))) ((.inr (.inl (0, 12, Ps2)))) ((.inr (.inl (0, 12, Ps3)))) ((.inr (.inl (0, 12, Ps4)))) ((.inr (.inl (0, 48, Pi1)))) ((.inr (.inl (0, 48, Pi2)))) ((.inr (.inl (0, 48, Pi3)))) ((.inr (.inl (0, 48, Pi4))))) H) (fun v H => (0 ≤ v.toInt ∧ v.toInt ≤ 1) ∧ TH E (tbC dA dB (riverD (.inl Fa1) (.inl Fb1) (.inl (0, 4)) 31 33 35 39 43 47) (riverD (.inl Fa2) (.inl Fb2) (.inl (0, 4)) 32 34 36 40 44 48) rc rd tp A14F A14F A4F A4F A14F A14F (riverD (.inl Fa3) (.inl Fb3) (.inl (0, 4)) 3 8 3 41 45 49) (riverD (.inl Fa4) (.inl Fb4) (.inl (0, 4)) 3 8 3 42 46 50) ((.inr (.inl (0, 12, Pd1)))) ((.inr (.inl (0, 12, Pd2)))) ((.inr (.inl (0, 12, Pd3)))) ((.inr (.inl (0, 12, Pd4)))) ((.inr (.inl (0, 12, Ps1)))) ((.inr (.inl (0, 12, Ps2)))) ((.inr (.inl (0, 12, Ps3)))) ((.inr (.inl (0, 12, Ps4)))) ((.inr (.inl (0, 48, Pi1)))) ((.inr (.inl (0, 48, Pi2)))) ((.inr (.inl (0, 48, Pi3)))) ((.inr (.inl (0, 48, Pi4))))) H) := by
  refine teI (by decide) (Nat.le_of_ble_eq_true rfl) ?_
  intro p_ ev_ s mi_ below_ meth cd_ ls F hK hN hO hH hS hl
  have hH : TH E (tbC dA dB (riverD (.inl Fa1) (.inl Fb1) (.inl (0, 4)) 31 33 35 39 43 47) (riverD (.inl Fa2) (.inl Fb2) (.inl (0, 4)) 32 34 36 40 44 48) rc rd tp A14F A14F A4F A4F A14F A14F (riverD (.inl Fa3) (.inl Fb3) (.inl (0, 4)) 3 8 3 41 45 49) (riverD (.inl Fa4) (.inl Fb4) (.inl (0, 4)) 3 8 3 42 46 50) ((.inr (.inl (0, 12, Pd1)))) ((.inr (.inl (0, 12, Pd2)))) ((.inr (.inl (0, 12, Pd3)))) ((.inr (.inl (0, 12, Pd4)))) ((.inr (.inl (0, 12, Ps1)))) ((.inr (.inl (0, 12, Ps2)))) ((.inr (.inl (0, 12, Ps3)))) ((.inr (.inl (0, 12, Ps4)))) ((.inr (.inl (0, 48, Pi1)))) ((.inr (.inl (0, 48, Pi2)))) ((.inr (.inl (0, 48, Pi3)))) ((.inr (.inl (0, 48, Pi4))))) s.heap := hH
  have hl : lv_has ls 5 [(0, .ref a0), (1, .int a1), (2, .int a2)] := hl
  refine lv_iload_n F.1 F.2.1 dX2_runsTo_0 rfl (lv_at hl 1 rfl) ?_
  refine lv_istore_n (lv' := [(3, .int a1), (0, .ref a0), (1, .int a1), (2, .int a2)]) F.1 F.2.1 dX2_runsTo_1 rfl hl (by decide) rfl (fun ls hl => ?_)
  refine lv_iconst (v := 0) F.1 F.2.1 dX2_runsTo_2 (by decide) ?_
  refine topK (a := 0) (by decide) (fun k_1 hk_1 => ?_)
  refine lv_istore (lv' := [(4, .int k_1), (3, .int a1), (0, .ref a0), (1, .int a1), (2, .int a2)]) F.1 F.2.1 dX2_runsTo_3 hl (by decide) rfl (fun ls hl => ?_)
  refine wloop (σ := Int32 × Int32) (fun n9 x9 H locs ls => (12 - x9.2.toInt + 1).toNat < n9 ∧ ((-2) ≤ x9.1.toInt ∧ x9.1.toInt ≤ 11) ∧ (0 ≤ x9.2.toInt ∧ x9.2.toInt ≤ 12) ∧ TH E (tbC dA dB (riverD (.inl Fa1) (.inl Fb1) (.inl (0, 4)) 31 33 35 39 43 47) (riverD (.inl Fa2) (.inl Fb2) (.inl (0, 4)) 32 34 36 40 44 48) rc rd tp A14F A14F A4F A4F A14F A14F (riverD (.inl Fa3) (.inl Fb3) (.inl (0, 4)) 3 8 3 41 45 49) (riverD (.inl Fa4) (.inl Fb4) (.inl (0, 4)) 3 8 3 42 46 50) ((.inr (.inl (0, 12, Pd1)))) ((.inr (.inl (0, 12, Pd2)))) ((.inr (.inl (0, 12, Pd3)))) ((.inr (.inl (0, 12, Pd4)))) ((.inr (.inl (0, 12, Ps1)))) ((.inr (.inl (0, 12, Ps2)))) ((.inr (.inl (0, 12, Ps3)))) ((.inr (.inl (0, 12, Ps4)))) ((.inr (.inl (0, 48, Pi1)))) ((.inr (.inl (0, 48, Pi2)))) ((.inr (.inl (0, 48, Pi3)))) ((.inr (.inl (0, 48, Pi4))))) H ∧ va_S (eA E s.heap.size) s.heap H locs ∧ lv_has ls 5 [(0, .ref a0), (2, .int a2), (3, .int x9.1), (4, .int x9.2)]) ?_ (fun x9 H locs ls h => absurd h.1 (Nat.not_lt_zero _)) _ (a1, k_1) ⟨Nat.lt_succ_self _, ha1, (wkb (eqb hk_1) rfl rfl), hH, hS, lv_sub hl [2, 4, 1, 0] rfl⟩
  intro n_5 ih_5 ⟨u_2, u_3⟩ H locs ls ⟨hm_5, hu_2, hu_3, hH, hS, hl⟩
  have hm_5 : (12 - u_3.toInt + 1).toNat < n_5 + 1 := hm_5
  have hu_2 : ((-2) ≤ u_2.toInt ∧ u_2.toInt ≤ 11) := hu_2
  have hu_3 : (0 ≤ u_3.toInt ∧ u_3.toInt ≤ 12) := hu_3
  have hH : TH E (tbC dA dB (riverD (.inl Fa1) (.inl Fb1) (.inl (0, 4)) 31 33 35 39 43 47) (riverD (.inl Fa2) (.inl Fb2) (.inl (0, 4)) 32 34 36 40 44 48) rc rd tp A14F A14F A4F A4F A14F A14F (riverD (.inl Fa3) (.inl Fb3) (.inl (0, 4)) 3 8 3 41 45 49) (riverD (.inl Fa4) (.inl Fb4) (.inl (0, 4)) 3 8 3 42 46 50) ((.inr (.inl (0, 12, Pd1)))) ((.inr (.inl (0, 12, Pd2)))) ((.inr (.inl (0, 12, Pd3)))) ((.inr (.inl (0, 12, Pd4)))) ((.inr (.inl (0, 12, Ps1)))) ((.inr (.inl (0, 12, Ps2)))) ((.inr (.inl (0, 12, Ps3)))) ((.inr (.inl (0, 12, Ps4)))) ((.inr (.inl (0, 48, Pi1)))) ((.inr (.inl (0, 48, Pi2)))) ((.inr (.inl (0, 48, Pi3)))) ((.inr (.inl (0, 48, Pi4))))) H := hH
  have hl : lv_has ls 5 [(0, .ref a0), (2, .int a2), (3, .int u_2), (4, .int u_3)] := hl
  refine lv_iload F.1 F.2.1 dX2_runsTo_5 (lv_at hl 3 rfl) ?_
  refine lv_bipush (v := 12) F.1 F.2.1 dX2_runsTo_7 (by decide) ?_
  refine topK (a := 12) (by decide) (fun k_4 hk_4 => ?_)
  refine b_ge (tgt := 36) F dX2_runsTo_9 (by decide) (fun c_5 => ?_) (fun c_5 => ?_)
  · skip
    have r_6 : 12 ≤ u_3.toInt ∧ u_3.toInt ≤ 12 := by have h9_ := hu_3; omega
    refine lv_iconst (v := 0) F.1 F.2.1 dX2_runsTo_36 (by decide) ?_
    refine topK (a := 0) (by decide) (fun k_8 hk_8 => ?_)
    exact txI F hS dX2_runsTo_37 (nar01 (wkb (eqb hk_8) rfl rfl)) (⟨(wkb (eqb hk_8) rfl rfl), hH⟩)
  · skip
    have r_7 : 0 ≤ u_3.toInt ∧ u_3.toInt ≤ 11 := by have h9_ := hu_3; omega
    refine lv_iload_n F.1 F.2.1 dX2_runsTo_12 rfl (lv_at hl 2 rfl) ?_
    refine z_lt (tgt := 36) F dX2_runsTo_13 (by decide) (fun c_9 => ?_) (fun c_9 => ?_)
    · skip
      have r_10 : (-2) ≤ u_2.toInt ∧ u_2.toInt ≤ (-1) := by have h9_ := hu_2; omega
      refine lv_iconst (v := 0) F.1 F.2.1 dX2_runsTo_36 (by decide) ?_
      refine topK (a := 0) (by decide) (fun k_12 hk_12 => ?_)
      exact txI F hS dX2_runsTo_37 (nar01 (wkb (eqb hk_12) rfl rfl)) (⟨(wkb (eqb hk_12) rfl rfl), hH⟩)
    · skip
      have r_11 : 0 ≤ u_2.toInt ∧ u_2.toInt ≤ 11 := by have h9_ := hu_2; omega
      refine lv_iload_n F.1 F.2.1 dX2_runsTo_16 rfl (lv_at hl 2 rfl) ?_
      refine lv_iload_n F.1 F.2.1 dX2_runsTo_17 rfl (lv_at hl 1 rfl) ?_
      refine b_ne (tgt := 23) F dX2_runsTo_18 (by decide) (fun c_13 => ?_) (fun c_13 => ?_)
      · skip
        refine lv_aload_n F.1 F.2.1 dX2_runsTo_23 rfl (lv_at hl 0 rfl) ?_
        refine tGetRM0 (j := 1) (L := [39, 40, 41, 42]) F hK hH ha0 (alls ⟨_, _, rfl, rfl, by decide⟩ (alls ⟨_, _, rfl, rfl, by decide⟩ (alls ⟨_, _, rfl, rfl, by decide⟩ (alls1 ⟨_, _, rfl, rfl, by decide⟩)))) clX2 (by decide) wd_2_23 dX2_runsTo_24 (fun q_15 hq_15 => ?_)
        refine lv_iload_n F.1 F.2.1 dX2_runsTo_27 rfl (lv_at hl 2 rfl) ?_
        refine tIaldM (lo := (-2)) (hi := 11) F hK hH hq_15 (alls ⟨_, rfl, hPd1⟩ (alls ⟨_, rfl, hPd2⟩ (alls ⟨_, rfl, hPd3⟩ (alls1 ⟨_, rfl, hPd4⟩)))) (ixb (n := 12) r_11 rfl rfl) dX2_runsTo_28 (fun z_16 hz_16 => ?_)
        refine lv_istore_n (lv' := [(3, .int z_16), (0, .ref a0), (2, .int a2), (4, .int u_3)]) F.1 F.2.1 dX2_runsTo_29 rfl hl (by decide) rfl (fun ls hl => ?_)
        obtain ⟨x_17, ex_17, hx_17⟩ := iincB (c := 1) (lo := 1) (hi := 12) r_7 rfl
        refine lv_iinc (v := x_17) (lv' := [(4, .int x_17), (3, .int z_16), (0, .ref a0), (2, .int a2)]) F.1 F.2.1 dX2_runsTo_30 hl (k := 3) rfl ex_17 (by decide) rfl (fun ls hl => ?_)
        refine lv_goto (tgt := 5) F.1 F.2.1 dX2_runsTo_33 (by decide) ?_
        exact ih_5 (z_16, x_17) _ _ _ ⟨(show (12 - x_17.toInt + 1).toNat < n_5 from by omega), hz_16, (wkb hx_17.2 rfl rfl), hH, hS, lv_sub hl [2, 3, 1, 0] rfl⟩
      · skip
        have r_14 : 0 ≤ a2.toInt ∧ a2.toInt ≤ 11 := by have h9_ := (i32b a2); omega
        refine lv_iconst (v := 1) F.1 F.2.1 dX2_runsTo_21 (by decide) ?_
        refine topK (a := 1) (by decide) (fun k_18 hk_18 => ?_)
        exact txI F hS dX2_runsTo_22 (nar01 (wkb (eqb hk_18) rfl rfl)) (⟨(wkb (eqb hk_18) rfl rfl), hH⟩)
set_option maxHeartbeats 4000000 in
set_option maxRecDepth 100000 in
theorem c_X2_countToMouth (E : Ev) (dA : TD) (dB : TD) (rc : TD) (rd : TD) (tp : TD) (Fa1 : Int × Int) (Fb1 : Int × Int) (Fa2 : Int × Int) (Fb2 : Int × Int) (Fa3 : Int × Int) (Fb3 : Int × Int) (Fa4 : Int × Int) (Fb4 : Int × Int) (Pd1 : (Nat → Int32) → Prop) (Pd2 : (Nat → Int32) → Prop) (Pd3 : (Nat → Int32) → Prop) (Pd4 : (Nat → Int32) → Prop) (Ps1 : (Nat → Int32) → Prop) (Ps2 : (Nat → Int32) → Prop) (Ps3 : (Nat → Int32) → Prop) (Ps4 : (Nat → Int32) → Prop) (Pi1 : (Nat → Int32) → Prop) (Pi2 : (Nat → Int32) → Prop) (Pi3 : (Nat → Int32) → Prop) (Pi4 : (Nat → Int32) → Prop) (a0 : Nat) (a1 : Int32) (ha0 : eT E a0 ∈ [26, 27, 37, 38]) (ha1 : (-2) ≤ a1.toInt ∧ a1.toInt ≤ 11) (hFa1 : 0 ≤ Fa1.1 ∧ Fa1.2 ≤ 12) (hFb1 : 0 ≤ Fb1.1 ∧ Fb1.2 ≤ 14) (hFa2 : 0 ≤ Fa2.1 ∧ Fa2.2 ≤ 12) (hFb2 : 0 ≤ Fb2.1 ∧ Fb2.2 ≤ 14) (hFa3 : 0 ≤ Fa3.1 ∧ Fa3.2 ≤ 12) (hFb3 : 0 ≤ Fb3.1 ∧ Fb3.2 ≤ 14) (hFa4 : 0 ≤ Fa4.1 ∧ Fa4.2 ≤ 12) (hFb4 : 0 ≤ Fb4.1 ∧ Fb4.2 ≤ 14) (hPd1 : ∀ f, Pd1 f → ivP 12 (-2) 11 f) (hPd2 : ∀ f, Pd2 f → ivP 12 (-2) 11 f) (hPd3 : ∀ f, Pd3 f → ivP 12 (-2) 11 f) (hPd4 : ∀ f, Pd4 f → ivP 12 (-2) 11 f) (hPs1 : ∀ f, Ps1 f → ivP 12 (-2147483648) 2147483647 f) (hPs2 : ∀ f, Ps2 f → ivP 12 (-2147483648) 2147483647 f) (hPs3 : ∀ f, Ps3 f → ivP 12 (-2147483648) 2147483647 f) (hPs4 : ∀ f, Ps4 f → ivP 12 (-2147483648) 2147483647 f) (hPi1 : ∀ f, Pi1 f → ivP 48 (-2147483648) 2147483647 f) (hPi2 : ∀ f, Pi2 f → ivP 48 (-2147483648) 2147483647 f) (hPi3 : ∀ f, Pi3 f → ivP 48 (-2147483648) 2147483647 f) (hPi4 : ∀ f, Pi4 f → ivP 48 (-2147483648) 2147483647 f) : TcI E yX2_countToMouth cX2_countToMouth 5 .int ({ frames := 1, cells := 0, slots := 0, locals := 40 }) [.ref a0, .int a1] (fun H => TH E (tbC dA dB (riverD (.inl Fa1) (.inl Fb1) (.inl (0, 4)) 31 33 35 39 43 47) (riverD (.inl Fa2) (.inl Fb2) (.inl (0, 4)) 32 34 36 40 44 48) rc rd tp A14F A14F A4F A4F A14F A14F (riverD (.inl Fa3) (.inl Fb3) (.inl (0, 4)) 3 8 3 41 45 49) (riverD (.inl Fa4) (.inl Fb4) (.inl (0, 4)) 3 8 3 42 46 50) ((.inr (.inl (0, 12, Pd1)))) ((.inr (.inl (0, 12, Pd2)))) ((.inr (.inl (0, 12, Pd3)))) ((.inr (.inl (0, 12, Pd4)))) ((.inr (.inl (0, 12, Ps1)))) ((.inr (.inl (0, 12, Ps2)))) ((.inr (.inl (0, 12, Ps3)))) ((.inr (.inl (0, 12, Ps4)))) ((.inr (.inl (0, 48, Pi1)))) ((.inr (.inl (0, 48, Pi2)))) ((.inr (.inl (0, 48, Pi3)))) ((.inr (.inl (0, 48, Pi4))))) H) (fun v H => ((-2147483648) ≤ v.toInt ∧ v.toInt ≤ 2147483647) ∧ TH E (tbC dA dB (riverD (.inl Fa1) (.inl Fb1) (.inl (0, 4)) 31 33 35 39 43 47) (riverD (.inl Fa2) (.inl Fb2) (.inl (0, 4)) 32 34 36 40 44 48) rc rd tp A14F A14F A4F A4F A14F A14F (riverD (.inl Fa3) (.inl Fb3) (.inl (0, 4)) 3 8 3 41 45 49) (riverD (.inl Fa4) (.inl Fb4) (.inl (0, 4)) 3 8 3 42 46 50) ((.inr (.inl (0, 12, Pd1)))) ((.inr (.inl (0, 12, Pd2)))) ((.inr (.inl (0, 12, Pd3)))) ((.inr (.inl (0, 12, Pd4)))) ((.inr (.inl (0, 12, Ps1)))) ((.inr (.inl (0, 12, Ps2)))) ((.inr (.inl (0, 12, Ps3)))) ((.inr (.inl (0, 12, Ps4)))) ((.inr (.inl (0, 48, Pi1)))) ((.inr (.inl (0, 48, Pi2)))) ((.inr (.inl (0, 48, Pi3)))) ((.inr (.inl (0, 48, Pi4))))) H) := by
  refine teI (by decide) (Nat.le_of_ble_eq_true rfl) ?_
  intro p_ ev_ s mi_ below_ meth cd_ ls F hK hN hO hH hS hl
  have hH : TH E (tbC dA dB (riverD (.inl Fa1) (.inl Fb1) (.inl (0, 4)) 31 33 35 39 43 47) (riverD (.inl Fa2) (.inl Fb2) (.inl (0, 4)) 32 34 36 40 44 48) rc rd tp A14F A14F A4F A4F A14F A14F (riverD (.inl Fa3) (.inl Fb3) (.inl (0, 4)) 3 8 3 41 45 49) (riverD (.inl Fa4) (.inl Fb4) (.inl (0, 4)) 3 8 3 42 46 50) ((.inr (.inl (0, 12, Pd1)))) ((.inr (.inl (0, 12, Pd2)))) ((.inr (.inl (0, 12, Pd3)))) ((.inr (.inl (0, 12, Pd4)))) ((.inr (.inl (0, 12, Ps1)))) ((.inr (.inl (0, 12, Ps2)))) ((.inr (.inl (0, 12, Ps3)))) ((.inr (.inl (0, 12, Ps4)))) ((.inr (.inl (0, 48, Pi1)))) ((.inr (.inl (0, 48, Pi2)))) ((.inr (.inl (0, 48, Pi3)))) ((.inr (.inl (0, 48, Pi4))))) s.heap := hH
  have hl : lv_has ls 5 [(0, .ref a0), (1, .int a1)] := hl
  refine lv_iload_n F.1 F.2.1 dX2_countToMouth_0 rfl (lv_at hl 1 rfl) ?_
  refine lv_istore_n (lv' := [(2, .int a1), (0, .ref a0), (1, .int a1)]) F.1 F.2.1 dX2_countToMouth_1 rfl hl (by decide) rfl (fun ls hl => ?_)
  refine lv_iconst (v := 0) F.1 F.2.1 dX2_countToMouth_2 (by decide) ?_
  refine topK (a := 0) (by decide) (fun k_1 hk_1 => ?_)
  refine lv_istore_n (lv' := [(3, .int k_1), (2, .int a1), (0, .ref a0), (1, .int a1)]) F.1 F.2.1 dX2_countToMouth_3 rfl hl (by decide) rfl (fun ls hl => ?_)
  refine lv_iconst (v := 0) F.1 F.2.1 dX2_countToMouth_4 (by decide) ?_
  refine topK (a := 0) (by decide) (fun k_2 hk_2 => ?_)
  refine lv_istore (lv' := [(4, .int k_2), (3, .int k_1), (2, .int a1), (0, .ref a0), (1, .int a1)]) F.1 F.2.1 dX2_countToMouth_5 hl (by decide) rfl (fun ls hl => ?_)
  refine wloop (σ := Int32 × Int32 × Int32) (fun n9 x9 H locs ls => (12 - x9.2.2.toInt + 1).toNat < n9 ∧ ((-2) ≤ x9.1.toInt ∧ x9.1.toInt ≤ 11) ∧ (0 ≤ x9.2.2.toInt ∧ x9.2.2.toInt ≤ 12) ∧ TH E (tbC dA dB (riverD (.inl Fa1) (.inl Fb1) (.inl (0, 4)) 31 33 35 39 43 47) (riverD (.inl Fa2) (.inl Fb2) (.inl (0, 4)) 32 34 36 40 44 48) rc rd tp A14F A14F A4F A4F A14F A14F (riverD (.inl Fa3) (.inl Fb3) (.inl (0, 4)) 3 8 3 41 45 49) (riverD (.inl Fa4) (.inl Fb4) (.inl (0, 4)) 3 8 3 42 46 50) ((.inr (.inl (0, 12, Pd1)))) ((.inr (.inl (0, 12, Pd2)))) ((.inr (.inl (0, 12, Pd3)))) ((.inr (.inl (0, 12, Pd4)))) ((.inr (.inl (0, 12, Ps1)))) ((.inr (.inl (0, 12, Ps2)))) ((.inr (.inl (0, 12, Ps3)))) ((.inr (.inl (0, 12, Ps4)))) ((.inr (.inl (0, 48, Pi1)))) ((.inr (.inl (0, 48, Pi2)))) ((.inr (.inl (0, 48, Pi3)))) ((.inr (.inl (0, 48, Pi4))))) H ∧ va_S (eA E s.heap.size) s.heap H locs ∧ lv_has ls 5 [(0, .ref a0), (2, .int x9.1), (3, .int x9.2.1), (4, .int x9.2.2)]) ?_ (fun x9 H locs ls h => absurd h.1 (Nat.not_lt_zero _)) _ (a1, k_1, k_2) ⟨Nat.lt_succ_self _, ha1, (wkb (eqb hk_2) rfl rfl), hH, hS, lv_sub hl [3, 2, 1, 0] rfl⟩
  intro n_7 ih_7 ⟨u_3, u_4, u_5⟩ H locs ls ⟨hm_7, hu_3, hu_5, hH, hS, hl⟩
  have hm_7 : (12 - u_5.toInt + 1).toNat < n_7 + 1 := hm_7
  have hu_3 : ((-2) ≤ u_3.toInt ∧ u_3.toInt ≤ 11) := hu_3
  have hu_5 : (0 ≤ u_5.toInt ∧ u_5.toInt ≤ 12) := hu_5
  have hH : TH E (tbC dA dB (riverD (.inl Fa1) (.inl Fb1) (.inl (0, 4)) 31 33 35 39 43 47) (riverD (.inl Fa2) (.inl Fb2) (.inl (0, 4)) 32 34 36 40 44 48) rc rd tp A14F A14F A4F A4F A14F A14F (riverD (.inl Fa3) (.inl Fb3) (.inl (0, 4)) 3 8 3 41 45 49) (riverD (.inl Fa4) (.inl Fb4) (.inl (0, 4)) 3 8 3 42 46 50) ((.inr (.inl (0, 12, Pd1)))) ((.inr (.inl (0, 12, Pd2)))) ((.inr (.inl (0, 12, Pd3)))) ((.inr (.inl (0, 12, Pd4)))) ((.inr (.inl (0, 12, Ps1)))) ((.inr (.inl (0, 12, Ps2)))) ((.inr (.inl (0, 12, Ps3)))) ((.inr (.inl (0, 12, Ps4)))) ((.inr (.inl (0, 48, Pi1)))) ((.inr (.inl (0, 48, Pi2)))) ((.inr (.inl (0, 48, Pi3)))) ((.inr (.inl (0, 48, Pi4))))) H := hH
  have hl : lv_has ls 5 [(0, .ref a0), (2, .int u_3), (3, .int u_4), (4, .int u_5)] := hl
  refine lv_iload F.1 F.2.1 dX2_countToMouth_7 (lv_at hl 3 rfl) ?_
  refine lv_bipush (v := 12) F.1 F.2.1 dX2_countToMouth_9 (by decide) ?_
  refine topK (a := 12) (by decide) (fun k_6 hk_6 => ?_)
  refine b_ge (tgt := 34) F dX2_countToMouth_11 (by decide) (fun c_7 => ?_) (fun c_7 => ?_)
  · skip
    have r_8 : 12 ≤ u_5.toInt ∧ u_5.toInt ≤ 12 := by have h9_ := hu_5; omega
    refine lv_iload_n F.1 F.2.1 dX2_countToMouth_34 rfl (lv_at hl 2 rfl) ?_
    exact txI F hS dX2_countToMouth_35 rfl (⟨(i32b _), hH⟩)
  · skip
    have r_9 : 0 ≤ u_5.toInt ∧ u_5.toInt ≤ 11 := by have h9_ := hu_5; omega
    refine lv_iload_n F.1 F.2.1 dX2_countToMouth_14 rfl (lv_at hl 1 rfl) ?_
    refine z_lt (tgt := 34) F dX2_countToMouth_15 (by decide) (fun c_10 => ?_) (fun c_10 => ?_)
    · skip
      have r_11 : (-2) ≤ u_3.toInt ∧ u_3.toInt ≤ (-1) := by have h9_ := hu_3; omega
      refine lv_iload_n F.1 F.2.1 dX2_countToMouth_34 rfl (lv_at hl 2 rfl) ?_
      exact txI F hS dX2_countToMouth_35 rfl (⟨(i32b _), hH⟩)
    · skip
      have r_12 : 0 ≤ u_3.toInt ∧ u_3.toInt ≤ 11 := by have h9_ := hu_3; omega
      obtain ⟨x_13, ex_13⟩ := iincF u_4 1
      refine lv_iinc (v := x_13) (lv' := [(3, .int x_13), (0, .ref a0), (2, .int u_3), (4, .int u_5)]) F.1 F.2.1 dX2_countToMouth_18 hl (k := 2) rfl ex_13 (by decide) rfl (fun ls hl => ?_)
      refine lv_aload_n F.1 F.2.1 dX2_countToMouth_21 rfl (lv_at hl 1 rfl) ?_
      refine tGetRM0 (j := 1) (L := [39, 40, 41, 42]) F hK hH ha0 (alls ⟨_, _, rfl, rfl, by decide⟩ (alls ⟨_, _, rfl, rfl, by decide⟩ (alls ⟨_, _, rfl, rfl, by decide⟩ (alls1 ⟨_, _, rfl, rfl, by decide⟩)))) clX2 (by decide) wd_2_23 dX2_countToMouth_22 (fun q_14 hq_14 => ?_)
      refine lv_iload_n F.1 F.2.1 dX2_countToMouth_25 rfl (lv_at hl 2 rfl) ?_
      refine tIaldM (lo := (-2)) (hi := 11) F hK hH hq_14 (alls ⟨_, rfl, hPd1⟩ (alls ⟨_, rfl, hPd2⟩ (alls ⟨_, rfl, hPd3⟩ (alls1 ⟨_, rfl, hPd4⟩)))) (ixb (n := 12) r_12 rfl rfl) dX2_countToMouth_26 (fun z_15 hz_15 => ?_)
      refine lv_istore_n (lv' := [(2, .int z_15), (3, .int x_13), (0, .ref a0), (4, .int u_5)]) F.1 F.2.1 dX2_countToMouth_27 rfl hl (by decide) rfl (fun ls hl => ?_)
      obtain ⟨x_16, ex_16, hx_16⟩ := iincB (c := 1) (lo := 1) (hi := 12) r_9 rfl
      refine lv_iinc (v := x_16) (lv' := [(4, .int x_16), (2, .int z_15), (3, .int x_13), (0, .ref a0)]) F.1 F.2.1 dX2_countToMouth_28 hl (k := 3) rfl ex_16 (by decide) rfl (fun ls hl => ?_)
      refine lv_goto (tgt := 7) F.1 F.2.1 dX2_countToMouth_31 (by decide) ?_
      exact ih_7 (z_15, x_13, x_16) _ _ _ ⟨(show (12 - x_16.toInt + 1).toNat < n_7 from by omega), hz_15, (wkb hx_16.2 rfl rfl), hH, hS, lv_sub hl [3, 1, 2, 0] rfl⟩
set_option maxHeartbeats 4000000 in
set_option maxRecDepth 100000 in
theorem c_X2_countInto (E : Ev) (dA : TD) (dB : TD) (rc : TD) (rd : TD) (tp : TD) (Fa1 : Int × Int) (Fb1 : Int × Int) (Fa2 : Int × Int) (Fb2 : Int × Int) (Fa3 : Int × Int) (Fb3 : Int × Int) (Fa4 : Int × Int) (Fb4 : Int × Int) (Pd1 : (Nat → Int32) → Prop) (Pd2 : (Nat → Int32) → Prop) (Pd3 : (Nat → Int32) → Prop) (Pd4 : (Nat → Int32) → Prop) (Ps1 : (Nat → Int32) → Prop) (Ps2 : (Nat → Int32) → Prop) (Ps3 : (Nat → Int32) → Prop) (Ps4 : (Nat → Int32) → Prop) (Pi1 : (Nat → Int32) → Prop) (Pi2 : (Nat → Int32) → Prop) (Pi3 : (Nat → Int32) → Prop) (Pi4 : (Nat → Int32) → Prop) (a0 : Nat) (a1 : Int32) (ha0 : eT E a0 ∈ [26, 27, 37, 38]) (hFa1 : 0 ≤ Fa1.1 ∧ Fa1.2 ≤ 12) (hFb1 : 0 ≤ Fb1.1 ∧ Fb1.2 ≤ 14) (hFa2 : 0 ≤ Fa2.1 ∧ Fa2.2 ≤ 12) (hFb2 : 0 ≤ Fb2.1 ∧ Fb2.2 ≤ 14) (hFa3 : 0 ≤ Fa3.1 ∧ Fa3.2 ≤ 12) (hFb3 : 0 ≤ Fb3.1 ∧ Fb3.2 ≤ 14) (hFa4 : 0 ≤ Fa4.1 ∧ Fa4.2 ≤ 12) (hFb4 : 0 ≤ Fb4.1 ∧ Fb4.2 ≤ 14) (hPd1 : ∀ f, Pd1 f → ivP 12 (-2) 11 f) (hPd2 : ∀ f, Pd2 f → ivP 12 (-2) 11 f) (hPd3 : ∀ f, Pd3 f → ivP 12 (-2) 11 f) (hPd4 : ∀ f, Pd4 f → ivP 12 (-2) 11 f) (hPs1 : ∀ f, Ps1 f → ivP 12 (-2147483648) 2147483647 f) (hPs2 : ∀ f, Ps2 f → ivP 12 (-2147483648) 2147483647 f) (hPs3 : ∀ f, Ps3 f → ivP 12 (-2147483648) 2147483647 f) (hPs4 : ∀ f, Ps4 f → ivP 12 (-2147483648) 2147483647 f) (hPi1 : ∀ f, Pi1 f → ivP 48 (-2147483648) 2147483647 f) (hPi2 : ∀ f, Pi2 f → ivP 48 (-2147483648) 2147483647 f) (hPi3 : ∀ f, Pi3 f → ivP 48 (-2147483648) 2147483647 f) (hPi4 : ∀ f, Pi4 f → ivP 48 (-2147483648) 2147483647 f) : TcI E yX2_countInto cX2_countInto 4 .int ({ frames := 1, cells := 0, slots := 0, locals := 40 }) [.ref a0, .int a1] (fun H => TH E (tbC dA dB (riverD (.inl Fa1) (.inl Fb1) (.inl (0, 4)) 31 33 35 39 43 47) (riverD (.inl Fa2) (.inl Fb2) (.inl (0, 4)) 32 34 36 40 44 48) rc rd tp A14F A14F A4F A4F A14F A14F (riverD (.inl Fa3) (.inl Fb3) (.inl (0, 4)) 3 8 3 41 45 49) (riverD (.inl Fa4) (.inl Fb4) (.inl (0, 4)) 3 8 3 42 46 50) ((.inr (.inl (0, 12, Pd1)))) ((.inr (.inl (0, 12, Pd2)))) ((.inr (.inl (0, 12, Pd3)))) ((.inr (.inl (0, 12, Pd4)))) ((.inr (.inl (0, 12, Ps1)))) ((.inr (.inl (0, 12, Ps2)))) ((.inr (.inl (0, 12, Ps3)))) ((.inr (.inl (0, 12, Ps4)))) ((.inr (.inl (0, 48, Pi1)))) ((.inr (.inl (0, 48, Pi2)))) ((.inr (.inl (0, 48, Pi3)))) ((.inr (.inl (0, 48, Pi4))))) H) (fun v H => ((-2147483648) ≤ v.toInt ∧ v.toInt ≤ 2147483647) ∧ TH E (tbC dA dB (riverD (.inl Fa1) (.inl Fb1) (.inl (0, 4)) 31 33 35 39 43 47) (riverD (.inl Fa2) (.inl Fb2) (.inl (0, 4)) 32 34 36 40 44 48) rc rd tp A14F A14F A4F A4F A14F A14F (riverD (.inl Fa3) (.inl Fb3) (.inl (0, 4)) 3 8 3 41 45 49) (riverD (.inl Fa4) (.inl Fb4) (.inl (0, 4)) 3 8 3 42 46 50) ((.inr (.inl (0, 12, Pd1)))) ((.inr (.inl (0, 12, Pd2)))) ((.inr (.inl (0, 12, Pd3)))) ((.inr (.inl (0, 12, Pd4)))) ((.inr (.inl (0, 12, Ps1)))) ((.inr (.inl (0, 12, Ps2)))) ((.inr (.inl (0, 12, Ps3)))) ((.inr (.inl (0, 12, Ps4)))) ((.inr (.inl (0, 48, Pi1)))) ((.inr (.inl (0, 48, Pi2)))) ((.inr (.inl (0, 48, Pi3)))) ((.inr (.inl (0, 48, Pi4))))) H) := by
  refine teI (by decide) (Nat.le_of_ble_eq_true rfl) ?_
  intro p_ ev_ s mi_ below_ meth cd_ ls F hK hN hO hH hS hl
  have hH : TH E (tbC dA dB (riverD (.inl Fa1) (.inl Fb1) (.inl (0, 4)) 31 33 35 39 43 47) (riverD (.inl Fa2) (.inl Fb2) (.inl (0, 4)) 32 34 36 40 44 48) rc rd tp A14F A14F A4F A4F A14F A14F (riverD (.inl Fa3) (.inl Fb3) (.inl (0, 4)) 3 8 3 41 45 49) (riverD (.inl Fa4) (.inl Fb4) (.inl (0, 4)) 3 8 3 42 46 50) ((.inr (.inl (0, 12, Pd1)))) ((.inr (.inl (0, 12, Pd2)))) ((.inr (.inl (0, 12, Pd3)))) ((.inr (.inl (0, 12, Pd4)))) ((.inr (.inl (0, 12, Ps1)))) ((.inr (.inl (0, 12, Ps2)))) ((.inr (.inl (0, 12, Ps3)))) ((.inr (.inl (0, 12, Ps4)))) ((.inr (.inl (0, 48, Pi1)))) ((.inr (.inl (0, 48, Pi2)))) ((.inr (.inl (0, 48, Pi3)))) ((.inr (.inl (0, 48, Pi4))))) s.heap := hH
  have hl : lv_has ls 4 [(0, .ref a0), (1, .int a1)] := hl
  refine lv_iconst (v := 0) F.1 F.2.1 dX2_countInto_0 (by decide) ?_
  refine topK (a := 0) (by decide) (fun k_1 hk_1 => ?_)
  refine lv_istore_n (lv' := [(2, .int k_1), (0, .ref a0), (1, .int a1)]) F.1 F.2.1 dX2_countInto_1 rfl hl (by decide) rfl (fun ls hl => ?_)
  refine lv_iconst (v := 0) F.1 F.2.1 dX2_countInto_2 (by decide) ?_
  refine topK (a := 0) (by decide) (fun k_2 hk_2 => ?_)
  refine lv_istore_n (lv' := [(3, .int k_2), (2, .int k_1), (0, .ref a0), (1, .int a1)]) F.1 F.2.1 dX2_countInto_3 rfl hl (by decide) rfl (fun ls hl => ?_)
  refine wloop (σ := Int32 × Int32) (fun n9 x9 H locs ls => (12 - x9.2.toInt + 1).toNat < n9 ∧ (0 ≤ x9.2.toInt ∧ x9.2.toInt ≤ 12) ∧ TH E (tbC dA dB (riverD (.inl Fa1) (.inl Fb1) (.inl (0, 4)) 31 33 35 39 43 47) (riverD (.inl Fa2) (.inl Fb2) (.inl (0, 4)) 32 34 36 40 44 48) rc rd tp A14F A14F A4F A4F A14F A14F (riverD (.inl Fa3) (.inl Fb3) (.inl (0, 4)) 3 8 3 41 45 49) (riverD (.inl Fa4) (.inl Fb4) (.inl (0, 4)) 3 8 3 42 46 50) ((.inr (.inl (0, 12, Pd1)))) ((.inr (.inl (0, 12, Pd2)))) ((.inr (.inl (0, 12, Pd3)))) ((.inr (.inl (0, 12, Pd4)))) ((.inr (.inl (0, 12, Ps1)))) ((.inr (.inl (0, 12, Ps2)))) ((.inr (.inl (0, 12, Ps3)))) ((.inr (.inl (0, 12, Ps4)))) ((.inr (.inl (0, 48, Pi1)))) ((.inr (.inl (0, 48, Pi2)))) ((.inr (.inl (0, 48, Pi3)))) ((.inr (.inl (0, 48, Pi4))))) H ∧ va_S (eA E s.heap.size) s.heap H locs ∧ lv_has ls 4 [(0, .ref a0), (1, .int a1), (2, .int x9.1), (3, .int x9.2)]) ?_ (fun x9 H locs ls h => absurd h.1 (Nat.not_lt_zero _)) _ (k_1, k_2) ⟨Nat.lt_succ_self _, (wkb (eqb hk_2) rfl rfl), hH, hS, lv_sub hl [2, 3, 1, 0] rfl⟩
  intro n_4 ih_4 ⟨u_3, u_4⟩ H locs ls ⟨hm_4, hu_4, hH, hS, hl⟩
  have hm_4 : (12 - u_4.toInt + 1).toNat < n_4 + 1 := hm_4
  have hu_4 : (0 ≤ u_4.toInt ∧ u_4.toInt ≤ 12) := hu_4
  have hH : TH E (tbC dA dB (riverD (.inl Fa1) (.inl Fb1) (.inl (0, 4)) 31 33 35 39 43 47) (riverD (.inl Fa2) (.inl Fb2) (.inl (0, 4)) 32 34 36 40 44 48) rc rd tp A14F A14F A4F A4F A14F A14F (riverD (.inl Fa3) (.inl Fb3) (.inl (0, 4)) 3 8 3 41 45 49) (riverD (.inl Fa4) (.inl Fb4) (.inl (0, 4)) 3 8 3 42 46 50) ((.inr (.inl (0, 12, Pd1)))) ((.inr (.inl (0, 12, Pd2)))) ((.inr (.inl (0, 12, Pd3)))) ((.inr (.inl (0, 12, Pd4)))) ((.inr (.inl (0, 12, Ps1)))) ((.inr (.inl (0, 12, Ps2)))) ((.inr (.inl (0, 12, Ps3)))) ((.inr (.inl (0, 12, Ps4)))) ((.inr (.inl (0, 48, Pi1)))) ((.inr (.inl (0, 48, Pi2)))) ((.inr (.inl (0, 48, Pi3)))) ((.inr (.inl (0, 48, Pi4))))) H := hH
  have hl : lv_has ls 4 [(0, .ref a0), (1, .int a1), (2, .int u_3), (3, .int u_4)] := hl
  refine lv_iload_n F.1 F.2.1 dX2_countInto_4 rfl (lv_at hl 3 rfl) ?_
  refine lv_aload_n F.1 F.2.1 dX2_countInto_5 rfl (lv_at hl 0 rfl) ?_
  refine tGetIB (j := 0) (lo := 0) (hi := 12) F hK hH ha0 (alls ⟨_, _, rfl, rfl, by have h9_ := hFa1; omega⟩ (alls ⟨_, _, rfl, rfl, by have h9_ := hFa2; omega⟩ (alls ⟨_, _, rfl, rfl, by have h9_ := hFa3; omega⟩ (alls1 ⟨_, _, rfl, rfl, by have h9_ := hFa4; omega⟩)))) clX2 (by decide) wd_9_11 dX2_countInto_6 (fun z_5 hz_5 => ?_)
  refine b_ge (tgt := 31) F dX2_countInto_9 (by decide) (fun c_6 => ?_) (fun c_6 => ?_)
  · skip
    refine lv_iload_n F.1 F.2.1 dX2_countInto_31 rfl (lv_at hl 2 rfl) ?_
    exact txI F hS dX2_countInto_32 rfl (⟨(i32b _), hH⟩)
  · skip
    have r_7 : 0 ≤ u_4.toInt ∧ u_4.toInt ≤ 11 := by have h9_ := hu_4; omega
    have r_8 : 1 ≤ z_5.toInt ∧ z_5.toInt ≤ 12 := by have h9_ := hz_5; omega
    refine lv_aload_n F.1 F.2.1 dX2_countInto_12 rfl (lv_at hl 0 rfl) ?_
    refine tGetRM0 (j := 1) (L := [39, 40, 41, 42]) F hK hH ha0 (alls ⟨_, _, rfl, rfl, by decide⟩ (alls ⟨_, _, rfl, rfl, by decide⟩ (alls ⟨_, _, rfl, rfl, by decide⟩ (alls1 ⟨_, _, rfl, rfl, by decide⟩)))) clX2 (by decide) wd_2_23 dX2_countInto_13 (fun q_9 hq_9 => ?_)
    refine lv_iload_n F.1 F.2.1 dX2_countInto_16 rfl (lv_at hl 3 rfl) ?_
    refine tIaldM (lo := (-2)) (hi := 11) F hK hH hq_9 (alls ⟨_, rfl, hPd1⟩ (alls ⟨_, rfl, hPd2⟩ (alls ⟨_, rfl, hPd3⟩ (alls1 ⟨_, rfl, hPd4⟩)))) (ixb (n := 12) r_7 rfl rfl) dX2_countInto_17 (fun z_10 hz_10 => ?_)
    refine lv_iload_n F.1 F.2.1 dX2_countInto_18 rfl (lv_at hl 1 rfl) ?_
    refine b_ne (tgt := 25) F dX2_countInto_19 (by decide) (fun c_11 => ?_) (fun c_11 => ?_)
    · skip
      obtain ⟨x_13, ex_13, hx_13⟩ := iincB (c := 1) (lo := 1) (hi := 12) r_7 rfl
      refine lv_iinc (v := x_13) (lv' := [(3, .int x_13), (0, .ref a0), (1, .int a1), (2, .int u_3)]) F.1 F.2.1 dX2_countInto_25 hl (k := 3) rfl ex_13 (by decide) rfl (fun ls hl => ?_)
      refine lv_goto (tgt := 4) F.1 F.2.1 dX2_countInto_28 (by decide) ?_
      exact ih_4 (u_3, x_13) _ _ _ ⟨(show (12 - x_13.toInt + 1).toNat < n_4 from by omega), (wkb hx_13.2 rfl rfl), hH, hS, lv_sub hl [1, 2, 3, 0] rfl⟩
    · skip
      have r_12 : (-2) ≤ a1.toInt ∧ a1.toInt ≤ 11 := by have h9_ := (i32b a1); omega
      obtain ⟨x_14, ex_14⟩ := iincF u_3 1
      refine lv_iinc (v := x_14) (lv' := [(2, .int x_14), (0, .ref a0), (1, .int a1), (3, .int u_4)]) F.1 F.2.1 dX2_countInto_22 hl (k := 2) rfl ex_14 (by decide) rfl (fun ls hl => ?_)
      obtain ⟨x_15, ex_15, hx_15⟩ := iincB (c := 1) (lo := 1) (hi := 12) r_7 rfl
      refine lv_iinc (v := x_15) (lv' := [(3, .int x_15), (2, .int x_14), (0, .ref a0), (1, .int a1)]) F.1 F.2.1 dX2_countInto_25 hl (k := 3) rfl ex_15 (by decide) rfl (fun ls hl => ?_)
      refine lv_goto (tgt := 4) F.1 F.2.1 dX2_countInto_28 (by decide) ?_
      exact ih_4 (x_14, x_15) _ _ _ ⟨(show (12 - x_15.toInt + 1).toNat < n_4 from by omega), (wkb hx_15.2 rfl rfl), hH, hS, lv_sub hl [2, 3, 1, 0] rfl⟩
set_option maxHeartbeats 4000000 in
set_option maxRecDepth 100000 in
theorem c_X2_copyOf_37_26 (E : Ev) (dA : TD) (dB : TD) (rB : TD) (rc : TD) (rd : TD) (tp : TD) (rD : TD) (Fa3 : Int × Int) (Fb3 : Int × Int) (a : Int) (b : Int) (a0 : Nat) (a1 : Nat) (ha0 : eT E a0 ∈ [37]) (ha1 : eT E a1 ∈ [26]) (ha : 0 ≤ a ∧ a ≤ 12) (hb : 0 ≤ b ∧ b ≤ 14) (hFa3 : 0 ≤ Fa3.1 ∧ Fa3.2 ≤ 12) (hFb3 : 0 ≤ Fb3.1 ∧ Fb3.2 ≤ 14) : TcV E yX2_copyOf cX2_copyOf 2 ({ frames := 2, cells := 0, slots := 0, locals := 61 }) [.ref a0, .ref a1] (fun H => TH E (tbC dA dB (riverD (.inl (a, a)) (.inl (b, b)) (.inl (0, 4)) 31 33 35 39 43 47) rB rc rd tp A14F A14F A4F A4F A14F A14F (riverD (.inl Fa3) (.inl Fb3) (.inl (0, 4)) 3 8 3 41 45 49) rD A12D A12D A12D A12D A12F A12F A12F A12F A48F A48F A48F A48F) H) (fun H => TH E (tbC dA dB (riverD (.inl (a, a)) (.inl (b, b)) (.inl (0, 4)) 31 33 35 39 43 47) rB rc rd tp A14F A14F A4F A4F A14F A14F (riverD (.inl (a, a)) (.inl (b, b)) (.inl (0, 4)) 3 8 3 41 45 49) rD A12D A12D A12D A12D A12F A12F A12F A12F A48F A48F A48F A48F) H) := by
  refine teV (by decide) (Nat.le_of_ble_eq_true rfl) ?_
  intro p_ ev_ s mi_ below_ meth cd_ ls F hK hN hO hH hS hl
  have hH : TH E (tbC dA dB (riverD (.inl (a, a)) (.inl (b, b)) (.inl (0, 4)) 31 33 35 39 43 47) rB rc rd tp A14F A14F A4F A4F A14F A14F (riverD (.inl Fa3) (.inl Fb3) (.inl (0, 4)) 3 8 3 41 45 49) rD A12D A12D A12D A12D A12F A12F A12F A12F A48F A48F A48F A48F) s.heap := hH
  have hl : lv_has ls 2 [(0, .ref a0), (1, .ref a1)] := hl
  refine lv_aload_n F.1 F.2.1 dX2_copyOf_0 rfl (lv_at hl 0 rfl) ?_
  refine lv_aload_n F.1 F.2.1 dX2_copyOf_1 rfl (lv_at hl 1 rfl) ?_
  refine tGetI (j := 0) F hK hH (tyb ha1 (all1 rfl)) rfl clX2 (by decide) wd_9_11 dX2_copyOf_2 (fun z_1 hz_1 => ?_)
  have ez_1 : 0 ≤ z_1.toInt ∧ z_1.toInt ≤ 12 := by omega
  refine tPutG (j := 0) (t := 37) (fd := (.inl (a, a))) F hK hH hS (List.mem_singleton.mp ha0) (by decide) rfl rfl (fdI (by omega)) (TB1 := (tbC dA dB (riverD (.inl (a, a)) (.inl (b, b)) (.inl (0, 4)) 31 33 35 39 43 47) rB rc rd tp A14F A14F A4F A4F A14F A14F (riverD (.inl (a, a)) (.inl Fb3) (.inl (0, 4)) 3 8 3 41 45 49) rD A12D A12D A12D A12D A12F A12F A12F A12F A48F A48F A48F A48F)) rfl clX2 (by decide) wd_9_11 rfl rfl rfl rfl dX2_copyOf_5 (fun H locs hH hS => ?_)
  refine lv_aload_n F.1 F.2.1 dX2_copyOf_8 rfl (lv_at hl 0 rfl) ?_
  refine lv_aload_n F.1 F.2.1 dX2_copyOf_9 rfl (lv_at hl 1 rfl) ?_
  refine tGetI (j := 4) F hK hH (tyb ha1 (all1 rfl)) rfl clX2 (by decide) wd_9_12 dX2_copyOf_10 (fun z_2 hz_2 => ?_)
  have ez_2 : 0 ≤ z_2.toInt ∧ z_2.toInt ≤ 14 := by omega
  refine tPutG (j := 4) (t := 37) (fd := (.inl (b, b))) F hK hH hS (List.mem_singleton.mp ha0) (by decide) rfl rfl (fdI (by omega)) (TB1 := (tbC dA dB (riverD (.inl (a, a)) (.inl (b, b)) (.inl (0, 4)) 31 33 35 39 43 47) rB rc rd tp A14F A14F A4F A4F A14F A14F (riverD (.inl (a, a)) (.inl (b, b)) (.inl (0, 4)) 3 8 3 41 45 49) rD A12D A12D A12D A12D A12F A12F A12F A12F A48F A48F A48F A48F)) rfl clX2 (by decide) wd_9_12 rfl rfl rfl rfl dX2_copyOf_13 (fun H locs hH hS => ?_)
  refine lv_aload_n F.1 F.2.1 dX2_copyOf_16 rfl (lv_at hl 0 rfl) ?_
  refine lv_aload_n F.1 F.2.1 dX2_copyOf_17 rfl (lv_at hl 1 rfl) ?_
  refine tGetI (j := 14) F hK hH (tyb ha1 (all1 rfl)) rfl clX2 (by decide) wd_9_13 dX2_copyOf_18 (fun z_3 hz_3 => ?_)
  refine tPut (j := 14) F hK hH hS (tyb ha0 (all1 rfl)) rfl (fdI hz_3) clX2 (by decide) wd_9_13 rfl rfl rfl rfl dX2_copyOf_21 (fun H locs hH hS => ?_)
  refine lv_aload_n F.1 F.2.1 dX2_copyOf_24 rfl (lv_at hl 0 rfl) ?_
  refine lv_aload_n F.1 F.2.1 dX2_copyOf_25 rfl (lv_at hl 1 rfl) ?_
  refine tGetI (j := 19) F hK hH (tyb ha1 (all1 rfl)) rfl clX2 (by decide) wd_3_15 dX2_copyOf_26 (fun z_4 hz_4 => ?_)
  refine tPut (j := 19) F hK hH hS (tyb ha0 (all1 rfl)) rfl (fdI hz_4) clX2 (by decide) wd_3_15 rfl rfl rfl rfl dX2_copyOf_29 (fun H locs hH hS => ?_)
  refine lv_aload_n F.1 F.2.1 dX2_copyOf_32 rfl (lv_at hl 1 rfl) ?_
  refine tGetR (j := 1) F hK hH (tyb ha1 (all1 rfl)) rfl (all1 rfl) clX2 (by decide) wd_2_23 dX2_copyOf_33 (fun q_5 hq_5 _ => ?_)
  refine lv_aload_n F.1 F.2.1 dX2_copyOf_36 rfl (lv_at hl 0 rfl) ?_
  refine tGetR (j := 1) F hK hH (tyb ha0 (all1 rfl)) rfl (all1 rfl) clX2 (by decide) wd_2_23 dX2_copyOf_37 (fun q_6 hq_6 _ => ?_)
  refine tNv (host := RX6) (As := [.ref q_5, .ref q_6]) (rest := []) F hK hN hO (c_X6_copyRow_pd E dA dB (riverD (.inl (a, a)) (.inl (b, b)) (.inl (0, 4)) 31 33 35 39 43 47) rB rc rd tp A14F A14F A4F A4F A14F A14F (riverD (.inl (a, a)) (.inl (b, b)) (.inl (0, 4)) 3 8 3 41 45 49) rD A12F A12F A12F A12F A48F A48F A48F A48F q_5 q_6 (by have h9_ := hq_5; simp at h9_ ⊢; omega) (by have h9_ := hq_6; simp at h9_ ⊢; omega)) ms_X6_copyRow hN.1.2.2.2.2.2 ⟨Nat.le_of_ble_eq_true rfl, Nat.le_of_ble_eq_true rfl⟩ ⟨Nat.le_of_ble_eq_true rfl, Nat.le_of_ble_eq_true rfl⟩ hH hS rfl hl.1 (Nat.le_of_ble_eq_true rfl) dX2_copyOf_40 (fun H locs hq hS => ?_)
  have hH := hq
  have hH : TH E (tbC dA dB (riverD (.inl (a, a)) (.inl (b, b)) (.inl (0, 4)) 31 33 35 39 43 47) rB rc rd tp A14F A14F A4F A4F A14F A14F (riverD (.inl (a, a)) (.inl (b, b)) (.inl (0, 4)) 3 8 3 41 45 49) rD A12D A12D A12D A12D A12F A12F A12F A12F A48F A48F A48F A48F) H := hH
  refine lv_aload_n F.1 F.2.1 dX2_copyOf_43 rfl (lv_at hl 1 rfl) ?_
  refine tGetR (j := 2) F hK hH (tyb ha1 (all1 rfl)) rfl (all1 rfl) clX2 (by decide) wd_3_0 dX2_copyOf_44 (fun q_8 hq_8 _ => ?_)
  refine lv_aload_n F.1 F.2.1 dX2_copyOf_47 rfl (lv_at hl 0 rfl) ?_
  refine tGetR (j := 2) F hK hH (tyb ha0 (all1 rfl)) rfl (all1 rfl) clX2 (by decide) wd_3_0 dX2_copyOf_48 (fun q_9 hq_9 _ => ?_)
  refine tNv (host := RX6) (As := [.ref q_8, .ref q_9]) (rest := []) F hK hN hO (c_X6_copyRow_ps E dA dB (riverD (.inl (a, a)) (.inl (b, b)) (.inl (0, 4)) 31 33 35 39 43 47) rB rc rd tp A14F A14F A4F A4F A14F A14F (riverD (.inl (a, a)) (.inl (b, b)) (.inl (0, 4)) 3 8 3 41 45 49) rD A12D A12D A12D A12D A48F A48F A48F A48F q_8 q_9 (by have h9_ := hq_8; simp at h9_ ⊢; omega) (by have h9_ := hq_9; simp at h9_ ⊢; omega)) ms_X6_copyRow hN.1.2.2.2.2.2 ⟨Nat.le_of_ble_eq_true rfl, Nat.le_of_ble_eq_true rfl⟩ ⟨Nat.le_of_ble_eq_true rfl, Nat.le_of_ble_eq_true rfl⟩ hH hS rfl hl.1 (Nat.le_of_ble_eq_true rfl) dX2_copyOf_51 (fun H locs hq hS => ?_)
  have hH := hq
  have hH : TH E (tbC dA dB (riverD (.inl (a, a)) (.inl (b, b)) (.inl (0, 4)) 31 33 35 39 43 47) rB rc rd tp A14F A14F A4F A4F A14F A14F (riverD (.inl (a, a)) (.inl (b, b)) (.inl (0, 4)) 3 8 3 41 45 49) rD A12D A12D A12D A12D A12F A12F A12F A12F A48F A48F A48F A48F) H := hH
  refine lv_aload_n F.1 F.2.1 dX2_copyOf_54 rfl (lv_at hl 1 rfl) ?_
  refine tGetR (j := 3) F hK hH (tyb ha1 (all1 rfl)) rfl (all1 rfl) clX2 (by decide) wd_3_1 dX2_copyOf_55 (fun q_11 hq_11 _ => ?_)
  refine lv_aload_n F.1 F.2.1 dX2_copyOf_58 rfl (lv_at hl 0 rfl) ?_
  refine tGetR (j := 3) F hK hH (tyb ha0 (all1 rfl)) rfl (all1 rfl) clX2 (by decide) wd_3_1 dX2_copyOf_59 (fun q_12 hq_12 _ => ?_)
  refine tNv (host := RX6) (As := [.ref q_11, .ref q_12]) (rest := []) F hK hN hO (c_X6_copyRow_pi E dA dB (riverD (.inl (a, a)) (.inl (b, b)) (.inl (0, 4)) 31 33 35 39 43 47) rB rc rd tp A14F A14F A4F A4F A14F A14F (riverD (.inl (a, a)) (.inl (b, b)) (.inl (0, 4)) 3 8 3 41 45 49) rD A12D A12D A12D A12D A12F A12F A12F A12F q_11 q_12 (by have h9_ := hq_11; simp at h9_ ⊢; omega) (by have h9_ := hq_12; simp at h9_ ⊢; omega)) ms_X6_copyRow hN.1.2.2.2.2.2 ⟨Nat.le_of_ble_eq_true rfl, Nat.le_of_ble_eq_true rfl⟩ ⟨Nat.le_of_ble_eq_true rfl, Nat.le_of_ble_eq_true rfl⟩ hH hS rfl hl.1 (Nat.le_of_ble_eq_true rfl) dX2_copyOf_62 (fun H locs hq hS => ?_)
  have hH := hq
  have hH : TH E (tbC dA dB (riverD (.inl (a, a)) (.inl (b, b)) (.inl (0, 4)) 31 33 35 39 43 47) rB rc rd tp A14F A14F A4F A4F A14F A14F (riverD (.inl (a, a)) (.inl (b, b)) (.inl (0, 4)) 3 8 3 41 45 49) rD A12D A12D A12D A12D A12F A12F A12F A12F A48F A48F A48F A48F) H := hH
  refine lv_aload_n F.1 F.2.1 dX2_copyOf_65 rfl (lv_at hl 1 rfl) ?_
  refine tGetR (j := 5) F hK hH (tyb ha1 (all1 rfl)) rfl (all1 rfl) clX2 (by decide) wd_3_2 dX2_copyOf_66 (fun q_14 hq_14 _ => ?_)
  refine lv_aload_n F.1 F.2.1 dX2_copyOf_69 rfl (lv_at hl 0 rfl) ?_
  refine tGetR (j := 5) F hK hH (tyb ha0 (all1 rfl)) rfl (all1 rfl) clX2 (by decide) wd_3_2 dX2_copyOf_70 (fun q_15 hq_15 _ => ?_)
  refine tNv (host := RX6) (As := [.ref q_14, .ref q_15]) (rest := []) F hK hN hO (c_X6_copyRow_A14R E dA dB (riverD (.inl (a, a)) (.inl (b, b)) (.inl (0, 4)) 31 33 35 39 43 47) rB rc rd tp A14F A14F A4F A4F A14F A14F (riverD (.inl (a, a)) (.inl (b, b)) (.inl (0, 4)) 3 8 3 41 45 49) rD A12D A12D A12D A12D A12F A12F A12F A12F A48F A48F A48F A48F q_14 q_15 hq_14 hq_15) ms_X6_copyRow hN.1.2.2.2.2.2 ⟨Nat.le_of_ble_eq_true rfl, Nat.le_of_ble_eq_true rfl⟩ ⟨Nat.le_of_ble_eq_true rfl, Nat.le_of_ble_eq_true rfl⟩ hH hS rfl hl.1 (Nat.le_of_ble_eq_true rfl) dX2_copyOf_73 (fun H locs hq hS => ?_)
  have hH := hq
  have hH : TH E (tbC dA dB (riverD (.inl (a, a)) (.inl (b, b)) (.inl (0, 4)) 31 33 35 39 43 47) rB rc rd tp A14F A14F A4F A4F A14F A14F (riverD (.inl (a, a)) (.inl (b, b)) (.inl (0, 4)) 3 8 3 41 45 49) rD A12D A12D A12D A12D A12F A12F A12F A12F A48F A48F A48F A48F) H := hH
  refine lv_aload_n F.1 F.2.1 dX2_copyOf_76 rfl (lv_at hl 1 rfl) ?_
  refine tGetR (j := 6) F hK hH (tyb ha1 (all1 rfl)) rfl (all1 rfl) clX2 (by decide) wd_3_3 dX2_copyOf_77 (fun q_17 hq_17 _ => ?_)
  refine lv_aload_n F.1 F.2.1 dX2_copyOf_80 rfl (lv_at hl 0 rfl) ?_
  refine tGetR (j := 6) F hK hH (tyb ha0 (all1 rfl)) rfl (all1 rfl) clX2 (by decide) wd_3_3 dX2_copyOf_81 (fun q_18 hq_18 _ => ?_)
  refine tNv (host := RX6) (As := [.ref q_17, .ref q_18]) (rest := []) F hK hN hO (c_X6_copyRow_A14F E dA dB (riverD (.inl (a, a)) (.inl (b, b)) (.inl (0, 4)) 31 33 35 39 43 47) rB rc rd tp A14F A14F A4F A4F A14F A14F (riverD (.inl (a, a)) (.inl (b, b)) (.inl (0, 4)) 3 8 3 41 45 49) rD A12D A12D A12D A12D A12F A12F A12F A12F A48F A48F A48F A48F q_17 q_18 hq_17 hq_18) ms_X6_copyRow hN.1.2.2.2.2.2 ⟨Nat.le_of_ble_eq_true rfl, Nat.le_of_ble_eq_true rfl⟩ ⟨Nat.le_of_ble_eq_true rfl, Nat.le_of_ble_eq_true rfl⟩ hH hS rfl hl.1 (Nat.le_of_ble_eq_true rfl) dX2_copyOf_84 (fun H locs hq hS => ?_)
  have hH := hq
  have hH : TH E (tbC dA dB (riverD (.inl (a, a)) (.inl (b, b)) (.inl (0, 4)) 31 33 35 39 43 47) rB rc rd tp A14F A14F A4F A4F A14F A14F (riverD (.inl (a, a)) (.inl (b, b)) (.inl (0, 4)) 3 8 3 41 45 49) rD A12D A12D A12D A12D A12F A12F A12F A12F A48F A48F A48F A48F) H := hH
  refine lv_aload_n F.1 F.2.1 dX2_copyOf_87 rfl (lv_at hl 1 rfl) ?_
  refine tGetR (j := 7) F hK hH (tyb ha1 (all1 rfl)) rfl (all1 rfl) clX2 (by decide) wd_3_4 dX2_copyOf_88 (fun q_20 hq_20 _ => ?_)
  refine lv_aload_n F.1 F.2.1 dX2_copyOf_91 rfl (lv_at hl 0 rfl) ?_
  refine tGetR (j := 7) F hK hH (tyb ha0 (all1 rfl)) rfl (all1 rfl) clX2 (by decide) wd_3_4 dX2_copyOf_92 (fun q_21 hq_21 _ => ?_)
  refine tNv (host := RX6) (As := [.ref q_20, .ref q_21]) (rest := []) F hK hN hO (c_X6_copyRow_f E dA dB (riverD (.inl (a, a)) (.inl (b, b)) (.inl (0, 4)) 31 33 35 39 43 47) rB rc rd tp (riverD (.inl (a, a)) (.inl (b, b)) (.inl (0, 4)) 3 8 3 41 45 49) rD A12D A12D A12D A12D A12F A12F A12F A12F A48F A48F A48F A48F q_20 q_21 (by have h9_ := hq_20; simp at h9_ ⊢; omega) (by have h9_ := hq_21; simp at h9_ ⊢; omega)) ms_X6_copyRow hN.1.2.2.2.2.2 ⟨Nat.le_of_ble_eq_true rfl, Nat.le_of_ble_eq_true rfl⟩ ⟨Nat.le_of_ble_eq_true rfl, Nat.le_of_ble_eq_true rfl⟩ hH hS rfl hl.1 (Nat.le_of_ble_eq_true rfl) dX2_copyOf_95 (fun H locs hq hS => ?_)
  have hH := hq
  have hH : TH E (tbC dA dB (riverD (.inl (a, a)) (.inl (b, b)) (.inl (0, 4)) 31 33 35 39 43 47) rB rc rd tp A14F A14F A4F A4F A14F A14F (riverD (.inl (a, a)) (.inl (b, b)) (.inl (0, 4)) 3 8 3 41 45 49) rD A12D A12D A12D A12D A12F A12F A12F A12F A48F A48F A48F A48F) H := hH
  refine lv_aload_n F.1 F.2.1 dX2_copyOf_98 rfl (lv_at hl 1 rfl) ?_
  refine tGetR (j := 8) F hK hH (tyb ha1 (all1 rfl)) rfl (all1 rfl) clX2 (by decide) wd_3_5 dX2_copyOf_99 (fun q_23 hq_23 _ => ?_)
  refine lv_aload_n F.1 F.2.1 dX2_copyOf_102 rfl (lv_at hl 0 rfl) ?_
  refine tGetR (j := 8) F hK hH (tyb ha0 (all1 rfl)) rfl (all1 rfl) clX2 (by decide) wd_3_5 dX2_copyOf_103 (fun q_24 hq_24 _ => ?_)
  refine tNv (host := RX6) (As := [.ref q_23, .ref q_24]) (rest := []) F hK hN hO (c_X6_copyRow_A14F E dA dB (riverD (.inl (a, a)) (.inl (b, b)) (.inl (0, 4)) 31 33 35 39 43 47) rB rc rd tp A14F A14F A4F A4F A14F A14F (riverD (.inl (a, a)) (.inl (b, b)) (.inl (0, 4)) 3 8 3 41 45 49) rD A12D A12D A12D A12D A12F A12F A12F A12F A48F A48F A48F A48F q_23 q_24 hq_23 hq_24) ms_X6_copyRow hN.1.2.2.2.2.2 ⟨Nat.le_of_ble_eq_true rfl, Nat.le_of_ble_eq_true rfl⟩ ⟨Nat.le_of_ble_eq_true rfl, Nat.le_of_ble_eq_true rfl⟩ hH hS rfl hl.1 (Nat.le_of_ble_eq_true rfl) dX2_copyOf_106 (fun H locs hq hS => ?_)
  have hH := hq
  have hH : TH E (tbC dA dB (riverD (.inl (a, a)) (.inl (b, b)) (.inl (0, 4)) 31 33 35 39 43 47) rB rc rd tp A14F A14F A4F A4F A14F A14F (riverD (.inl (a, a)) (.inl (b, b)) (.inl (0, 4)) 3 8 3 41 45 49) rD A12D A12D A12D A12D A12F A12F A12F A12F A48F A48F A48F A48F) H := hH
  refine lv_aload_n F.1 F.2.1 dX2_copyOf_109 rfl (lv_at hl 1 rfl) ?_
  refine tGetR (j := 9) F hK hH (tyb ha1 (all1 rfl)) rfl (all1 rfl) clX2 (by decide) wd_3_6 dX2_copyOf_110 (fun q_26 hq_26 _ => ?_)
  refine lv_aload_n F.1 F.2.1 dX2_copyOf_113 rfl (lv_at hl 0 rfl) ?_
  refine tGetR (j := 9) F hK hH (tyb ha0 (all1 rfl)) rfl (all1 rfl) clX2 (by decide) wd_3_6 dX2_copyOf_114 (fun q_27 hq_27 _ => ?_)
  refine tNv (host := RX6) (As := [.ref q_26, .ref q_27]) (rest := []) F hK hN hO (c_X6_copyRow_g E dA dB (riverD (.inl (a, a)) (.inl (b, b)) (.inl (0, 4)) 31 33 35 39 43 47) rB rc rd tp (riverD (.inl (a, a)) (.inl (b, b)) (.inl (0, 4)) 3 8 3 41 45 49) rD A12D A12D A12D A12D A12F A12F A12F A12F A48F A48F A48F A48F q_26 q_27 (by have h9_ := hq_26; simp at h9_ ⊢; omega) (by have h9_ := hq_27; simp at h9_ ⊢; omega)) ms_X6_copyRow hN.1.2.2.2.2.2 ⟨Nat.le_of_ble_eq_true rfl, Nat.le_of_ble_eq_true rfl⟩ ⟨Nat.le_of_ble_eq_true rfl, Nat.le_of_ble_eq_true rfl⟩ hH hS rfl hl.1 (Nat.le_of_ble_eq_true rfl) dX2_copyOf_117 (fun H locs hq hS => ?_)
  have hH := hq
  have hH : TH E (tbC dA dB (riverD (.inl (a, a)) (.inl (b, b)) (.inl (0, 4)) 31 33 35 39 43 47) rB rc rd tp A14F A14F A4F A4F A14F A14F (riverD (.inl (a, a)) (.inl (b, b)) (.inl (0, 4)) 3 8 3 41 45 49) rD A12D A12D A12D A12D A12F A12F A12F A12F A48F A48F A48F A48F) H := hH
  refine lv_aload_n F.1 F.2.1 dX2_copyOf_120 rfl (lv_at hl 1 rfl) ?_
  refine tGetR (j := 10) F hK hH (tyb ha1 (all1 rfl)) rfl (all1 rfl) clX2 (by decide) wd_3_7 dX2_copyOf_121 (fun q_29 hq_29 _ => ?_)
  refine lv_aload_n F.1 F.2.1 dX2_copyOf_124 rfl (lv_at hl 0 rfl) ?_
  refine tGetR (j := 10) F hK hH (tyb ha0 (all1 rfl)) rfl (all1 rfl) clX2 (by decide) wd_3_7 dX2_copyOf_125 (fun q_30 hq_30 _ => ?_)
  refine tNv (host := RX6) (As := [.ref q_29, .ref q_30]) (rest := []) F hK hN hO (c_X6_copyRow_A14F E dA dB (riverD (.inl (a, a)) (.inl (b, b)) (.inl (0, 4)) 31 33 35 39 43 47) rB rc rd tp A14F A14F A4F A4F A14F A14F (riverD (.inl (a, a)) (.inl (b, b)) (.inl (0, 4)) 3 8 3 41 45 49) rD A12D A12D A12D A12D A12F A12F A12F A12F A48F A48F A48F A48F q_29 q_30 hq_29 hq_30) ms_X6_copyRow hN.1.2.2.2.2.2 ⟨Nat.le_of_ble_eq_true rfl, Nat.le_of_ble_eq_true rfl⟩ ⟨Nat.le_of_ble_eq_true rfl, Nat.le_of_ble_eq_true rfl⟩ hH hS rfl hl.1 (Nat.le_of_ble_eq_true rfl) dX2_copyOf_128 (fun H locs hq hS => ?_)
  have hH := hq
  have hH : TH E (tbC dA dB (riverD (.inl (a, a)) (.inl (b, b)) (.inl (0, 4)) 31 33 35 39 43 47) rB rc rd tp A14F A14F A4F A4F A14F A14F (riverD (.inl (a, a)) (.inl (b, b)) (.inl (0, 4)) 3 8 3 41 45 49) rD A12D A12D A12D A12D A12F A12F A12F A12F A48F A48F A48F A48F) H := hH
  refine lv_aload_n F.1 F.2.1 dX2_copyOf_131 rfl (lv_at hl 1 rfl) ?_
  refine tGetR (j := 11) F hK hH (tyb ha1 (all1 rfl)) rfl (all1 rfl) clX2 (by decide) wd_3_8 dX2_copyOf_132 (fun q_32 hq_32 _ => ?_)
  refine lv_aload_n F.1 F.2.1 dX2_copyOf_135 rfl (lv_at hl 0 rfl) ?_
  refine tGetR (j := 11) F hK hH (tyb ha0 (all1 rfl)) rfl (all1 rfl) clX2 (by decide) wd_3_8 dX2_copyOf_136 (fun q_33 hq_33 _ => ?_)
  refine tNv (host := RX6) (As := [.ref q_32, .ref q_33]) (rest := []) F hK hN hO (c_X6_copyRow_A14B E dA dB (riverD (.inl (a, a)) (.inl (b, b)) (.inl (0, 4)) 31 33 35 39 43 47) rB rc rd tp A14F A14F A4F A4F A14F A14F (riverD (.inl (a, a)) (.inl (b, b)) (.inl (0, 4)) 3 8 3 41 45 49) rD A12D A12D A12D A12D A12F A12F A12F A12F A48F A48F A48F A48F q_32 q_33 hq_32 hq_33) ms_X6_copyRow hN.1.2.2.2.2.2 ⟨Nat.le_of_ble_eq_true rfl, Nat.le_of_ble_eq_true rfl⟩ ⟨Nat.le_of_ble_eq_true rfl, Nat.le_of_ble_eq_true rfl⟩ hH hS rfl hl.1 (Nat.le_of_ble_eq_true rfl) dX2_copyOf_139 (fun H locs hq hS => ?_)
  have hH := hq
  have hH : TH E (tbC dA dB (riverD (.inl (a, a)) (.inl (b, b)) (.inl (0, 4)) 31 33 35 39 43 47) rB rc rd tp A14F A14F A4F A4F A14F A14F (riverD (.inl (a, a)) (.inl (b, b)) (.inl (0, 4)) 3 8 3 41 45 49) rD A12D A12D A12D A12D A12F A12F A12F A12F A48F A48F A48F A48F) H := hH
  refine lv_aload_n F.1 F.2.1 dX2_copyOf_142 rfl (lv_at hl 1 rfl) ?_
  refine tGetR (j := 12) F hK hH (tyb ha1 (all1 rfl)) rfl (all1 rfl) clX2 (by decide) wd_3_9 dX2_copyOf_143 (fun q_35 hq_35 _ => ?_)
  refine lv_aload_n F.1 F.2.1 dX2_copyOf_146 rfl (lv_at hl 0 rfl) ?_
  refine tGetR (j := 12) F hK hH (tyb ha0 (all1 rfl)) rfl (all1 rfl) clX2 (by decide) wd_3_9 dX2_copyOf_147 (fun q_36 hq_36 _ => ?_)
  refine tNv (host := RX6) (As := [.ref q_35, .ref q_36]) (rest := []) F hK hN hO (c_X6_copyRow_A14F E dA dB (riverD (.inl (a, a)) (.inl (b, b)) (.inl (0, 4)) 31 33 35 39 43 47) rB rc rd tp A14F A14F A4F A4F A14F A14F (riverD (.inl (a, a)) (.inl (b, b)) (.inl (0, 4)) 3 8 3 41 45 49) rD A12D A12D A12D A12D A12F A12F A12F A12F A48F A48F A48F A48F q_35 q_36 hq_35 hq_36) ms_X6_copyRow hN.1.2.2.2.2.2 ⟨Nat.le_of_ble_eq_true rfl, Nat.le_of_ble_eq_true rfl⟩ ⟨Nat.le_of_ble_eq_true rfl, Nat.le_of_ble_eq_true rfl⟩ hH hS rfl hl.1 (Nat.le_of_ble_eq_true rfl) dX2_copyOf_150 (fun H locs hq hS => ?_)
  have hH := hq
  have hH : TH E (tbC dA dB (riverD (.inl (a, a)) (.inl (b, b)) (.inl (0, 4)) 31 33 35 39 43 47) rB rc rd tp A14F A14F A4F A4F A14F A14F (riverD (.inl (a, a)) (.inl (b, b)) (.inl (0, 4)) 3 8 3 41 45 49) rD A12D A12D A12D A12D A12F A12F A12F A12F A48F A48F A48F A48F) H := hH
  refine lv_aload_n F.1 F.2.1 dX2_copyOf_153 rfl (lv_at hl 1 rfl) ?_
  refine tGetR (j := 13) F hK hH (tyb ha1 (all1 rfl)) rfl (all1 rfl) clX2 (by decide) wd_3_10 dX2_copyOf_154 (fun q_38 hq_38 _ => ?_)
  refine lv_aload_n F.1 F.2.1 dX2_copyOf_157 rfl (lv_at hl 0 rfl) ?_
  refine tGetR (j := 13) F hK hH (tyb ha0 (all1 rfl)) rfl (all1 rfl) clX2 (by decide) wd_3_10 dX2_copyOf_158 (fun q_39 hq_39 _ => ?_)
  refine tNv (host := RX6) (As := [.ref q_38, .ref q_39]) (rest := []) F hK hN hO (c_X6_copyRow_A14L E dA dB (riverD (.inl (a, a)) (.inl (b, b)) (.inl (0, 4)) 31 33 35 39 43 47) rB rc rd tp A14F A14F A4F A4F A14F A14F (riverD (.inl (a, a)) (.inl (b, b)) (.inl (0, 4)) 3 8 3 41 45 49) rD A12D A12D A12D A12D A12F A12F A12F A12F A48F A48F A48F A48F q_38 q_39 hq_38 hq_39) ms_X6_copyRow hN.1.2.2.2.2.2 ⟨Nat.le_of_ble_eq_true rfl, Nat.le_of_ble_eq_true rfl⟩ ⟨Nat.le_of_ble_eq_true rfl, Nat.le_of_ble_eq_true rfl⟩ hH hS rfl hl.1 (Nat.le_of_ble_eq_true rfl) dX2_copyOf_161 (fun H locs hq hS => ?_)
  have hH := hq
  have hH : TH E (tbC dA dB (riverD (.inl (a, a)) (.inl (b, b)) (.inl (0, 4)) 31 33 35 39 43 47) rB rc rd tp A14F A14F A4F A4F A14F A14F (riverD (.inl (a, a)) (.inl (b, b)) (.inl (0, 4)) 3 8 3 41 45 49) rD A12D A12D A12D A12D A12F A12F A12F A12F A48F A48F A48F A48F) H := hH
  refine lv_aload_n F.1 F.2.1 dX2_copyOf_164 rfl (lv_at hl 1 rfl) ?_
  refine tGetR (j := 15) F hK hH (tyb ha1 (all1 rfl)) rfl (all1 rfl) clX2 (by decide) wd_3_11 dX2_copyOf_165 (fun q_41 hq_41 _ => ?_)
  refine lv_aload_n F.1 F.2.1 dX2_copyOf_168 rfl (lv_at hl 0 rfl) ?_
  refine tGetR (j := 15) F hK hH (tyb ha0 (all1 rfl)) rfl (all1 rfl) clX2 (by decide) wd_3_11 dX2_copyOf_169 (fun q_42 hq_42 _ => ?_)
  refine tNv (host := RX6) (As := [.ref q_41, .ref q_42]) (rest := []) F hK hN hO (c_X6_copyRow_A4R E dA dB (riverD (.inl (a, a)) (.inl (b, b)) (.inl (0, 4)) 31 33 35 39 43 47) rB rc rd tp A14F A14F A4F A4F A14F A14F (riverD (.inl (a, a)) (.inl (b, b)) (.inl (0, 4)) 3 8 3 41 45 49) rD A12D A12D A12D A12D A12F A12F A12F A12F A48F A48F A48F A48F q_41 q_42 hq_41 hq_42) ms_X6_copyRow hN.1.2.2.2.2.2 ⟨Nat.le_of_ble_eq_true rfl, Nat.le_of_ble_eq_true rfl⟩ ⟨Nat.le_of_ble_eq_true rfl, Nat.le_of_ble_eq_true rfl⟩ hH hS rfl hl.1 (Nat.le_of_ble_eq_true rfl) dX2_copyOf_172 (fun H locs hq hS => ?_)
  have hH := hq
  have hH : TH E (tbC dA dB (riverD (.inl (a, a)) (.inl (b, b)) (.inl (0, 4)) 31 33 35 39 43 47) rB rc rd tp A14F A14F A4F A4F A14F A14F (riverD (.inl (a, a)) (.inl (b, b)) (.inl (0, 4)) 3 8 3 41 45 49) rD A12D A12D A12D A12D A12F A12F A12F A12F A48F A48F A48F A48F) H := hH
  refine lv_aload_n F.1 F.2.1 dX2_copyOf_175 rfl (lv_at hl 1 rfl) ?_
  refine tGetR (j := 16) F hK hH (tyb ha1 (all1 rfl)) rfl (all1 rfl) clX2 (by decide) wd_3_12 dX2_copyOf_176 (fun q_44 hq_44 _ => ?_)
  refine lv_aload_n F.1 F.2.1 dX2_copyOf_179 rfl (lv_at hl 0 rfl) ?_
  refine tGetR (j := 16) F hK hH (tyb ha0 (all1 rfl)) rfl (all1 rfl) clX2 (by decide) wd_3_12 dX2_copyOf_180 (fun q_45 hq_45 _ => ?_)
  refine tNv (host := RX6) (As := [.ref q_44, .ref q_45]) (rest := []) F hK hN hO (c_X6_copyRow_A4F E dA dB (riverD (.inl (a, a)) (.inl (b, b)) (.inl (0, 4)) 31 33 35 39 43 47) rB rc rd tp A14F A14F A4F A4F A14F A14F (riverD (.inl (a, a)) (.inl (b, b)) (.inl (0, 4)) 3 8 3 41 45 49) rD A12D A12D A12D A12D A12F A12F A12F A12F A48F A48F A48F A48F q_44 q_45 hq_44 hq_45) ms_X6_copyRow hN.1.2.2.2.2.2 ⟨Nat.le_of_ble_eq_true rfl, Nat.le_of_ble_eq_true rfl⟩ ⟨Nat.le_of_ble_eq_true rfl, Nat.le_of_ble_eq_true rfl⟩ hH hS rfl hl.1 (Nat.le_of_ble_eq_true rfl) dX2_copyOf_183 (fun H locs hq hS => ?_)
  have hH := hq
  have hH : TH E (tbC dA dB (riverD (.inl (a, a)) (.inl (b, b)) (.inl (0, 4)) 31 33 35 39 43 47) rB rc rd tp A14F A14F A4F A4F A14F A14F (riverD (.inl (a, a)) (.inl (b, b)) (.inl (0, 4)) 3 8 3 41 45 49) rD A12D A12D A12D A12D A12F A12F A12F A12F A48F A48F A48F A48F) H := hH
  refine lv_aload_n F.1 F.2.1 dX2_copyOf_186 rfl (lv_at hl 1 rfl) ?_
  refine tGetR (j := 17) F hK hH (tyb ha1 (all1 rfl)) rfl (all1 rfl) clX2 (by decide) wd_3_13 dX2_copyOf_187 (fun q_47 hq_47 _ => ?_)
  refine lv_aload_n F.1 F.2.1 dX2_copyOf_190 rfl (lv_at hl 0 rfl) ?_
  refine tGetR (j := 17) F hK hH (tyb ha0 (all1 rfl)) rfl (all1 rfl) clX2 (by decide) wd_3_13 dX2_copyOf_191 (fun q_48 hq_48 _ => ?_)
  refine tNv (host := RX6) (As := [.ref q_47, .ref q_48]) (rest := []) F hK hN hO (c_X6_copyRow_A4F E dA dB (riverD (.inl (a, a)) (.inl (b, b)) (.inl (0, 4)) 31 33 35 39 43 47) rB rc rd tp A14F A14F A4F A4F A14F A14F (riverD (.inl (a, a)) (.inl (b, b)) (.inl (0, 4)) 3 8 3 41 45 49) rD A12D A12D A12D A12D A12F A12F A12F A12F A48F A48F A48F A48F q_47 q_48 hq_47 hq_48) ms_X6_copyRow hN.1.2.2.2.2.2 ⟨Nat.le_of_ble_eq_true rfl, Nat.le_of_ble_eq_true rfl⟩ ⟨Nat.le_of_ble_eq_true rfl, Nat.le_of_ble_eq_true rfl⟩ hH hS rfl hl.1 (Nat.le_of_ble_eq_true rfl) dX2_copyOf_194 (fun H locs hq hS => ?_)
  have hH := hq
  have hH : TH E (tbC dA dB (riverD (.inl (a, a)) (.inl (b, b)) (.inl (0, 4)) 31 33 35 39 43 47) rB rc rd tp A14F A14F A4F A4F A14F A14F (riverD (.inl (a, a)) (.inl (b, b)) (.inl (0, 4)) 3 8 3 41 45 49) rD A12D A12D A12D A12D A12F A12F A12F A12F A48F A48F A48F A48F) H := hH
  refine lv_aload_n F.1 F.2.1 dX2_copyOf_197 rfl (lv_at hl 1 rfl) ?_
  refine tGetR (j := 18) F hK hH (tyb ha1 (all1 rfl)) rfl (all1 rfl) clX2 (by decide) wd_3_14 dX2_copyOf_198 (fun q_50 hq_50 _ => ?_)
  refine lv_aload_n F.1 F.2.1 dX2_copyOf_201 rfl (lv_at hl 0 rfl) ?_
  refine tGetR (j := 18) F hK hH (tyb ha0 (all1 rfl)) rfl (all1 rfl) clX2 (by decide) wd_3_14 dX2_copyOf_202 (fun q_51 hq_51 _ => ?_)
  refine tNv (host := RX6) (As := [.ref q_50, .ref q_51]) (rest := []) F hK hN hO (c_X6_copyRow_s E dA dB (riverD (.inl (a, a)) (.inl (b, b)) (.inl (0, 4)) 31 33 35 39 43 47) rB rc rd tp (riverD (.inl (a, a)) (.inl (b, b)) (.inl (0, 4)) 3 8 3 41 45 49) rD A12D A12D A12D A12D A12F A12F A12F A12F A48F A48F A48F A48F q_50 q_51 (by have h9_ := hq_50; simp at h9_ ⊢; omega) (by have h9_ := hq_51; simp at h9_ ⊢; omega)) ms_X6_copyRow hN.1.2.2.2.2.2 ⟨Nat.le_of_ble_eq_true rfl, Nat.le_of_ble_eq_true rfl⟩ ⟨Nat.le_of_ble_eq_true rfl, Nat.le_of_ble_eq_true rfl⟩ hH hS rfl hl.1 (Nat.le_of_ble_eq_true rfl) dX2_copyOf_205 (fun H locs hq hS => ?_)
  have hH := hq
  have hH : TH E (tbC dA dB (riverD (.inl (a, a)) (.inl (b, b)) (.inl (0, 4)) 31 33 35 39 43 47) rB rc rd tp A14F A14F A4F A4F A14F A14F (riverD (.inl (a, a)) (.inl (b, b)) (.inl (0, 4)) 3 8 3 41 45 49) rD A12D A12D A12D A12D A12F A12F A12F A12F A48F A48F A48F A48F) H := hH
  exact txV F hS dX2_copyOf_208 (hH)
set_option maxHeartbeats 4000000 in
set_option maxRecDepth 100000 in
theorem c_X2_copyOf_37_27 (E : Ev) (dA : TD) (dB : TD) (rA : TD) (rc : TD) (rd : TD) (tp : TD) (rD : TD) (Fa3 : Int × Int) (Fb3 : Int × Int) (a : Int) (b : Int) (a0 : Nat) (a1 : Nat) (ha0 : eT E a0 ∈ [37]) (ha1 : eT E a1 ∈ [27]) (ha : 0 ≤ a ∧ a ≤ 12) (hb : 0 ≤ b ∧ b ≤ 14) (hFa3 : 0 ≤ Fa3.1 ∧ Fa3.2 ≤ 12) (hFb3 : 0 ≤ Fb3.1 ∧ Fb3.2 ≤ 14) : TcV E yX2_copyOf cX2_copyOf 2 ({ frames := 2, cells := 0, slots := 0, locals := 61 }) [.ref a0, .ref a1] (fun H => TH E (tbC dA dB rA (riverD (.inl (a, a)) (.inl (b, b)) (.inl (0, 4)) 32 34 36 40 44 48) rc rd tp A14F A14F A4F A4F A14F A14F (riverD (.inl Fa3) (.inl Fb3) (.inl (0, 4)) 3 8 3 41 45 49) rD A12D A12D A12D A12D A12F A12F A12F A12F A48F A48F A48F A48F) H) (fun H => TH E (tbC dA dB rA (riverD (.inl (a, a)) (.inl (b, b)) (.inl (0, 4)) 32 34 36 40 44 48) rc rd tp A14F A14F A4F A4F A14F A14F (riverD (.inl (a, a)) (.inl (b, b)) (.inl (0, 4)) 3 8 3 41 45 49) rD A12D A12D A12D A12D A12F A12F A12F A12F A48F A48F A48F A48F) H) := by
  refine teV (by decide) (Nat.le_of_ble_eq_true rfl) ?_
  intro p_ ev_ s mi_ below_ meth cd_ ls F hK hN hO hH hS hl
  have hH : TH E (tbC dA dB rA (riverD (.inl (a, a)) (.inl (b, b)) (.inl (0, 4)) 32 34 36 40 44 48) rc rd tp A14F A14F A4F A4F A14F A14F (riverD (.inl Fa3) (.inl Fb3) (.inl (0, 4)) 3 8 3 41 45 49) rD A12D A12D A12D A12D A12F A12F A12F A12F A48F A48F A48F A48F) s.heap := hH
  have hl : lv_has ls 2 [(0, .ref a0), (1, .ref a1)] := hl
  refine lv_aload_n F.1 F.2.1 dX2_copyOf_0 rfl (lv_at hl 0 rfl) ?_
  refine lv_aload_n F.1 F.2.1 dX2_copyOf_1 rfl (lv_at hl 1 rfl) ?_
  refine tGetI (j := 0) F hK hH (tyb ha1 (all1 rfl)) rfl clX2 (by decide) wd_9_11 dX2_copyOf_2 (fun z_1 hz_1 => ?_)
  have ez_1 : 0 ≤ z_1.toInt ∧ z_1.toInt ≤ 12 := by omega
  refine tPutG (j := 0) (t := 37) (fd := (.inl (a, a))) F hK hH hS (List.mem_singleton.mp ha0) (by decide) rfl rfl (fdI (by omega)) (TB1 := (tbC dA dB rA (riverD (.inl (a, a)) (.inl (b, b)) (.inl (0, 4)) 32 34 36 40 44 48) rc rd tp A14F A14F A4F A4F A14F A14F (riverD (.inl (a, a)) (.inl Fb3) (.inl (0, 4)) 3 8 3 41 45 49) rD A12D A12D A12D A12D A12F A12F A12F A12F A48F A48F A48F A48F)) rfl clX2 (by decide) wd_9_11 rfl rfl rfl rfl dX2_copyOf_5 (fun H locs hH hS => ?_)
  refine lv_aload_n F.1 F.2.1 dX2_copyOf_8 rfl (lv_at hl 0 rfl) ?_
  refine lv_aload_n F.1 F.2.1 dX2_copyOf_9 rfl (lv_at hl 1 rfl) ?_
  refine tGetI (j := 4) F hK hH (tyb ha1 (all1 rfl)) rfl clX2 (by decide) wd_9_12 dX2_copyOf_10 (fun z_2 hz_2 => ?_)
  have ez_2 : 0 ≤ z_2.toInt ∧ z_2.toInt ≤ 14 := by omega
  refine tPutG (j := 4) (t := 37) (fd := (.inl (b, b))) F hK hH hS (List.mem_singleton.mp ha0) (by decide) rfl rfl (fdI (by omega)) (TB1 := (tbC dA dB rA (riverD (.inl (a, a)) (.inl (b, b)) (.inl (0, 4)) 32 34 36 40 44 48) rc rd tp A14F A14F A4F A4F A14F A14F (riverD (.inl (a, a)) (.inl (b, b)) (.inl (0, 4)) 3 8 3 41 45 49) rD A12D A12D A12D A12D A12F A12F A12F A12F A48F A48F A48F A48F)) rfl clX2 (by decide) wd_9_12 rfl rfl rfl rfl dX2_copyOf_13 (fun H locs hH hS => ?_)
  refine lv_aload_n F.1 F.2.1 dX2_copyOf_16 rfl (lv_at hl 0 rfl) ?_
  refine lv_aload_n F.1 F.2.1 dX2_copyOf_17 rfl (lv_at hl 1 rfl) ?_
  refine tGetI (j := 14) F hK hH (tyb ha1 (all1 rfl)) rfl clX2 (by decide) wd_9_13 dX2_copyOf_18 (fun z_3 hz_3 => ?_)
  refine tPut (j := 14) F hK hH hS (tyb ha0 (all1 rfl)) rfl (fdI hz_3) clX2 (by decide) wd_9_13 rfl rfl rfl rfl dX2_copyOf_21 (fun H locs hH hS => ?_)
  refine lv_aload_n F.1 F.2.1 dX2_copyOf_24 rfl (lv_at hl 0 rfl) ?_
  refine lv_aload_n F.1 F.2.1 dX2_copyOf_25 rfl (lv_at hl 1 rfl) ?_
  refine tGetI (j := 19) F hK hH (tyb ha1 (all1 rfl)) rfl clX2 (by decide) wd_3_15 dX2_copyOf_26 (fun z_4 hz_4 => ?_)
  refine tPut (j := 19) F hK hH hS (tyb ha0 (all1 rfl)) rfl (fdI hz_4) clX2 (by decide) wd_3_15 rfl rfl rfl rfl dX2_copyOf_29 (fun H locs hH hS => ?_)
  refine lv_aload_n F.1 F.2.1 dX2_copyOf_32 rfl (lv_at hl 1 rfl) ?_
  refine tGetR (j := 1) F hK hH (tyb ha1 (all1 rfl)) rfl (all1 rfl) clX2 (by decide) wd_2_23 dX2_copyOf_33 (fun q_5 hq_5 _ => ?_)
  refine lv_aload_n F.1 F.2.1 dX2_copyOf_36 rfl (lv_at hl 0 rfl) ?_
  refine tGetR (j := 1) F hK hH (tyb ha0 (all1 rfl)) rfl (all1 rfl) clX2 (by decide) wd_2_23 dX2_copyOf_37 (fun q_6 hq_6 _ => ?_)
  refine tNv (host := RX6) (As := [.ref q_5, .ref q_6]) (rest := []) F hK hN hO (c_X6_copyRow_pd E dA dB rA (riverD (.inl (a, a)) (.inl (b, b)) (.inl (0, 4)) 32 34 36 40 44 48) rc rd tp A14F A14F A4F A4F A14F A14F (riverD (.inl (a, a)) (.inl (b, b)) (.inl (0, 4)) 3 8 3 41 45 49) rD A12F A12F A12F A12F A48F A48F A48F A48F q_5 q_6 (by have h9_ := hq_5; simp at h9_ ⊢; omega) (by have h9_ := hq_6; simp at h9_ ⊢; omega)) ms_X6_copyRow hN.1.2.2.2.2.2 ⟨Nat.le_of_ble_eq_true rfl, Nat.le_of_ble_eq_true rfl⟩ ⟨Nat.le_of_ble_eq_true rfl, Nat.le_of_ble_eq_true rfl⟩ hH hS rfl hl.1 (Nat.le_of_ble_eq_true rfl) dX2_copyOf_40 (fun H locs hq hS => ?_)
  have hH := hq
  have hH : TH E (tbC dA dB rA (riverD (.inl (a, a)) (.inl (b, b)) (.inl (0, 4)) 32 34 36 40 44 48) rc rd tp A14F A14F A4F A4F A14F A14F (riverD (.inl (a, a)) (.inl (b, b)) (.inl (0, 4)) 3 8 3 41 45 49) rD A12D A12D A12D A12D A12F A12F A12F A12F A48F A48F A48F A48F) H := hH
  refine lv_aload_n F.1 F.2.1 dX2_copyOf_43 rfl (lv_at hl 1 rfl) ?_
  refine tGetR (j := 2) F hK hH (tyb ha1 (all1 rfl)) rfl (all1 rfl) clX2 (by decide) wd_3_0 dX2_copyOf_44 (fun q_8 hq_8 _ => ?_)
  refine lv_aload_n F.1 F.2.1 dX2_copyOf_47 rfl (lv_at hl 0 rfl) ?_
  refine tGetR (j := 2) F hK hH (tyb ha0 (all1 rfl)) rfl (all1 rfl) clX2 (by decide) wd_3_0 dX2_copyOf_48 (fun q_9 hq_9 _ => ?_)
  refine tNv (host := RX6) (As := [.ref q_8, .ref q_9]) (rest := []) F hK hN hO (c_X6_copyRow_ps E dA dB rA (riverD (.inl (a, a)) (.inl (b, b)) (.inl (0, 4)) 32 34 36 40 44 48) rc rd tp A14F A14F A4F A4F A14F A14F (riverD (.inl (a, a)) (.inl (b, b)) (.inl (0, 4)) 3 8 3 41 45 49) rD A12D A12D A12D A12D A48F A48F A48F A48F q_8 q_9 (by have h9_ := hq_8; simp at h9_ ⊢; omega) (by have h9_ := hq_9; simp at h9_ ⊢; omega)) ms_X6_copyRow hN.1.2.2.2.2.2 ⟨Nat.le_of_ble_eq_true rfl, Nat.le_of_ble_eq_true rfl⟩ ⟨Nat.le_of_ble_eq_true rfl, Nat.le_of_ble_eq_true rfl⟩ hH hS rfl hl.1 (Nat.le_of_ble_eq_true rfl) dX2_copyOf_51 (fun H locs hq hS => ?_)
  have hH := hq
  have hH : TH E (tbC dA dB rA (riverD (.inl (a, a)) (.inl (b, b)) (.inl (0, 4)) 32 34 36 40 44 48) rc rd tp A14F A14F A4F A4F A14F A14F (riverD (.inl (a, a)) (.inl (b, b)) (.inl (0, 4)) 3 8 3 41 45 49) rD A12D A12D A12D A12D A12F A12F A12F A12F A48F A48F A48F A48F) H := hH
  refine lv_aload_n F.1 F.2.1 dX2_copyOf_54 rfl (lv_at hl 1 rfl) ?_
  refine tGetR (j := 3) F hK hH (tyb ha1 (all1 rfl)) rfl (all1 rfl) clX2 (by decide) wd_3_1 dX2_copyOf_55 (fun q_11 hq_11 _ => ?_)
  refine lv_aload_n F.1 F.2.1 dX2_copyOf_58 rfl (lv_at hl 0 rfl) ?_
  refine tGetR (j := 3) F hK hH (tyb ha0 (all1 rfl)) rfl (all1 rfl) clX2 (by decide) wd_3_1 dX2_copyOf_59 (fun q_12 hq_12 _ => ?_)
  refine tNv (host := RX6) (As := [.ref q_11, .ref q_12]) (rest := []) F hK hN hO (c_X6_copyRow_pi E dA dB rA (riverD (.inl (a, a)) (.inl (b, b)) (.inl (0, 4)) 32 34 36 40 44 48) rc rd tp A14F A14F A4F A4F A14F A14F (riverD (.inl (a, a)) (.inl (b, b)) (.inl (0, 4)) 3 8 3 41 45 49) rD A12D A12D A12D A12D A12F A12F A12F A12F q_11 q_12 (by have h9_ := hq_11; simp at h9_ ⊢; omega) (by have h9_ := hq_12; simp at h9_ ⊢; omega)) ms_X6_copyRow hN.1.2.2.2.2.2 ⟨Nat.le_of_ble_eq_true rfl, Nat.le_of_ble_eq_true rfl⟩ ⟨Nat.le_of_ble_eq_true rfl, Nat.le_of_ble_eq_true rfl⟩ hH hS rfl hl.1 (Nat.le_of_ble_eq_true rfl) dX2_copyOf_62 (fun H locs hq hS => ?_)
  have hH := hq
  have hH : TH E (tbC dA dB rA (riverD (.inl (a, a)) (.inl (b, b)) (.inl (0, 4)) 32 34 36 40 44 48) rc rd tp A14F A14F A4F A4F A14F A14F (riverD (.inl (a, a)) (.inl (b, b)) (.inl (0, 4)) 3 8 3 41 45 49) rD A12D A12D A12D A12D A12F A12F A12F A12F A48F A48F A48F A48F) H := hH
  refine lv_aload_n F.1 F.2.1 dX2_copyOf_65 rfl (lv_at hl 1 rfl) ?_
  refine tGetR (j := 5) F hK hH (tyb ha1 (all1 rfl)) rfl (all1 rfl) clX2 (by decide) wd_3_2 dX2_copyOf_66 (fun q_14 hq_14 _ => ?_)
  refine lv_aload_n F.1 F.2.1 dX2_copyOf_69 rfl (lv_at hl 0 rfl) ?_
  refine tGetR (j := 5) F hK hH (tyb ha0 (all1 rfl)) rfl (all1 rfl) clX2 (by decide) wd_3_2 dX2_copyOf_70 (fun q_15 hq_15 _ => ?_)
  refine tNv (host := RX6) (As := [.ref q_14, .ref q_15]) (rest := []) F hK hN hO (c_X6_copyRow_A14R E dA dB rA (riverD (.inl (a, a)) (.inl (b, b)) (.inl (0, 4)) 32 34 36 40 44 48) rc rd tp A14F A14F A4F A4F A14F A14F (riverD (.inl (a, a)) (.inl (b, b)) (.inl (0, 4)) 3 8 3 41 45 49) rD A12D A12D A12D A12D A12F A12F A12F A12F A48F A48F A48F A48F q_14 q_15 hq_14 hq_15) ms_X6_copyRow hN.1.2.2.2.2.2 ⟨Nat.le_of_ble_eq_true rfl, Nat.le_of_ble_eq_true rfl⟩ ⟨Nat.le_of_ble_eq_true rfl, Nat.le_of_ble_eq_true rfl⟩ hH hS rfl hl.1 (Nat.le_of_ble_eq_true rfl) dX2_copyOf_73 (fun H locs hq hS => ?_)
  have hH := hq
  have hH : TH E (tbC dA dB rA (riverD (.inl (a, a)) (.inl (b, b)) (.inl (0, 4)) 32 34 36 40 44 48) rc rd tp A14F A14F A4F A4F A14F A14F (riverD (.inl (a, a)) (.inl (b, b)) (.inl (0, 4)) 3 8 3 41 45 49) rD A12D A12D A12D A12D A12F A12F A12F A12F A48F A48F A48F A48F) H := hH
  refine lv_aload_n F.1 F.2.1 dX2_copyOf_76 rfl (lv_at hl 1 rfl) ?_
  refine tGetR (j := 6) F hK hH (tyb ha1 (all1 rfl)) rfl (all1 rfl) clX2 (by decide) wd_3_3 dX2_copyOf_77 (fun q_17 hq_17 _ => ?_)
  refine lv_aload_n F.1 F.2.1 dX2_copyOf_80 rfl (lv_at hl 0 rfl) ?_
  refine tGetR (j := 6) F hK hH (tyb ha0 (all1 rfl)) rfl (all1 rfl) clX2 (by decide) wd_3_3 dX2_copyOf_81 (fun q_18 hq_18 _ => ?_)
  refine tNv (host := RX6) (As := [.ref q_17, .ref q_18]) (rest := []) F hK hN hO (c_X6_copyRow_A14F E dA dB rA (riverD (.inl (a, a)) (.inl (b, b)) (.inl (0, 4)) 32 34 36 40 44 48) rc rd tp A14F A14F A4F A4F A14F A14F (riverD (.inl (a, a)) (.inl (b, b)) (.inl (0, 4)) 3 8 3 41 45 49) rD A12D A12D A12D A12D A12F A12F A12F A12F A48F A48F A48F A48F q_17 q_18 hq_17 hq_18) ms_X6_copyRow hN.1.2.2.2.2.2 ⟨Nat.le_of_ble_eq_true rfl, Nat.le_of_ble_eq_true rfl⟩ ⟨Nat.le_of_ble_eq_true rfl, Nat.le_of_ble_eq_true rfl⟩ hH hS rfl hl.1 (Nat.le_of_ble_eq_true rfl) dX2_copyOf_84 (fun H locs hq hS => ?_)
  have hH := hq
  have hH : TH E (tbC dA dB rA (riverD (.inl (a, a)) (.inl (b, b)) (.inl (0, 4)) 32 34 36 40 44 48) rc rd tp A14F A14F A4F A4F A14F A14F (riverD (.inl (a, a)) (.inl (b, b)) (.inl (0, 4)) 3 8 3 41 45 49) rD A12D A12D A12D A12D A12F A12F A12F A12F A48F A48F A48F A48F) H := hH
  refine lv_aload_n F.1 F.2.1 dX2_copyOf_87 rfl (lv_at hl 1 rfl) ?_
  refine tGetR (j := 7) F hK hH (tyb ha1 (all1 rfl)) rfl (all1 rfl) clX2 (by decide) wd_3_4 dX2_copyOf_88 (fun q_20 hq_20 _ => ?_)
  refine lv_aload_n F.1 F.2.1 dX2_copyOf_91 rfl (lv_at hl 0 rfl) ?_
  refine tGetR (j := 7) F hK hH (tyb ha0 (all1 rfl)) rfl (all1 rfl) clX2 (by decide) wd_3_4 dX2_copyOf_92 (fun q_21 hq_21 _ => ?_)
  refine tNv (host := RX6) (As := [.ref q_20, .ref q_21]) (rest := []) F hK hN hO (c_X6_copyRow_f E dA dB rA (riverD (.inl (a, a)) (.inl (b, b)) (.inl (0, 4)) 32 34 36 40 44 48) rc rd tp (riverD (.inl (a, a)) (.inl (b, b)) (.inl (0, 4)) 3 8 3 41 45 49) rD A12D A12D A12D A12D A12F A12F A12F A12F A48F A48F A48F A48F q_20 q_21 (by have h9_ := hq_20; simp at h9_ ⊢; omega) (by have h9_ := hq_21; simp at h9_ ⊢; omega)) ms_X6_copyRow hN.1.2.2.2.2.2 ⟨Nat.le_of_ble_eq_true rfl, Nat.le_of_ble_eq_true rfl⟩ ⟨Nat.le_of_ble_eq_true rfl, Nat.le_of_ble_eq_true rfl⟩ hH hS rfl hl.1 (Nat.le_of_ble_eq_true rfl) dX2_copyOf_95 (fun H locs hq hS => ?_)
  have hH := hq
  have hH : TH E (tbC dA dB rA (riverD (.inl (a, a)) (.inl (b, b)) (.inl (0, 4)) 32 34 36 40 44 48) rc rd tp A14F A14F A4F A4F A14F A14F (riverD (.inl (a, a)) (.inl (b, b)) (.inl (0, 4)) 3 8 3 41 45 49) rD A12D A12D A12D A12D A12F A12F A12F A12F A48F A48F A48F A48F) H := hH
  refine lv_aload_n F.1 F.2.1 dX2_copyOf_98 rfl (lv_at hl 1 rfl) ?_
  refine tGetR (j := 8) F hK hH (tyb ha1 (all1 rfl)) rfl (all1 rfl) clX2 (by decide) wd_3_5 dX2_copyOf_99 (fun q_23 hq_23 _ => ?_)
  refine lv_aload_n F.1 F.2.1 dX2_copyOf_102 rfl (lv_at hl 0 rfl) ?_
  refine tGetR (j := 8) F hK hH (tyb ha0 (all1 rfl)) rfl (all1 rfl) clX2 (by decide) wd_3_5 dX2_copyOf_103 (fun q_24 hq_24 _ => ?_)
  refine tNv (host := RX6) (As := [.ref q_23, .ref q_24]) (rest := []) F hK hN hO (c_X6_copyRow_A14F E dA dB rA (riverD (.inl (a, a)) (.inl (b, b)) (.inl (0, 4)) 32 34 36 40 44 48) rc rd tp A14F A14F A4F A4F A14F A14F (riverD (.inl (a, a)) (.inl (b, b)) (.inl (0, 4)) 3 8 3 41 45 49) rD A12D A12D A12D A12D A12F A12F A12F A12F A48F A48F A48F A48F q_23 q_24 hq_23 hq_24) ms_X6_copyRow hN.1.2.2.2.2.2 ⟨Nat.le_of_ble_eq_true rfl, Nat.le_of_ble_eq_true rfl⟩ ⟨Nat.le_of_ble_eq_true rfl, Nat.le_of_ble_eq_true rfl⟩ hH hS rfl hl.1 (Nat.le_of_ble_eq_true rfl) dX2_copyOf_106 (fun H locs hq hS => ?_)
  have hH := hq
  have hH : TH E (tbC dA dB rA (riverD (.inl (a, a)) (.inl (b, b)) (.inl (0, 4)) 32 34 36 40 44 48) rc rd tp A14F A14F A4F A4F A14F A14F (riverD (.inl (a, a)) (.inl (b, b)) (.inl (0, 4)) 3 8 3 41 45 49) rD A12D A12D A12D A12D A12F A12F A12F A12F A48F A48F A48F A48F) H := hH
  refine lv_aload_n F.1 F.2.1 dX2_copyOf_109 rfl (lv_at hl 1 rfl) ?_
  refine tGetR (j := 9) F hK hH (tyb ha1 (all1 rfl)) rfl (all1 rfl) clX2 (by decide) wd_3_6 dX2_copyOf_110 (fun q_26 hq_26 _ => ?_)
  refine lv_aload_n F.1 F.2.1 dX2_copyOf_113 rfl (lv_at hl 0 rfl) ?_
  refine tGetR (j := 9) F hK hH (tyb ha0 (all1 rfl)) rfl (all1 rfl) clX2 (by decide) wd_3_6 dX2_copyOf_114 (fun q_27 hq_27 _ => ?_)
  refine tNv (host := RX6) (As := [.ref q_26, .ref q_27]) (rest := []) F hK hN hO (c_X6_copyRow_g E dA dB rA (riverD (.inl (a, a)) (.inl (b, b)) (.inl (0, 4)) 32 34 36 40 44 48) rc rd tp (riverD (.inl (a, a)) (.inl (b, b)) (.inl (0, 4)) 3 8 3 41 45 49) rD A12D A12D A12D A12D A12F A12F A12F A12F A48F A48F A48F A48F q_26 q_27 (by have h9_ := hq_26; simp at h9_ ⊢; omega) (by have h9_ := hq_27; simp at h9_ ⊢; omega)) ms_X6_copyRow hN.1.2.2.2.2.2 ⟨Nat.le_of_ble_eq_true rfl, Nat.le_of_ble_eq_true rfl⟩ ⟨Nat.le_of_ble_eq_true rfl, Nat.le_of_ble_eq_true rfl⟩ hH hS rfl hl.1 (Nat.le_of_ble_eq_true rfl) dX2_copyOf_117 (fun H locs hq hS => ?_)
  have hH := hq
  have hH : TH E (tbC dA dB rA (riverD (.inl (a, a)) (.inl (b, b)) (.inl (0, 4)) 32 34 36 40 44 48) rc rd tp A14F A14F A4F A4F A14F A14F (riverD (.inl (a, a)) (.inl (b, b)) (.inl (0, 4)) 3 8 3 41 45 49) rD A12D A12D A12D A12D A12F A12F A12F A12F A48F A48F A48F A48F) H := hH
  refine lv_aload_n F.1 F.2.1 dX2_copyOf_120 rfl (lv_at hl 1 rfl) ?_
  refine tGetR (j := 10) F hK hH (tyb ha1 (all1 rfl)) rfl (all1 rfl) clX2 (by decide) wd_3_7 dX2_copyOf_121 (fun q_29 hq_29 _ => ?_)
  refine lv_aload_n F.1 F.2.1 dX2_copyOf_124 rfl (lv_at hl 0 rfl) ?_
  refine tGetR (j := 10) F hK hH (tyb ha0 (all1 rfl)) rfl (all1 rfl) clX2 (by decide) wd_3_7 dX2_copyOf_125 (fun q_30 hq_30 _ => ?_)
  refine tNv (host := RX6) (As := [.ref q_29, .ref q_30]) (rest := []) F hK hN hO (c_X6_copyRow_A14F E dA dB rA (riverD (.inl (a, a)) (.inl (b, b)) (.inl (0, 4)) 32 34 36 40 44 48) rc rd tp A14F A14F A4F A4F A14F A14F (riverD (.inl (a, a)) (.inl (b, b)) (.inl (0, 4)) 3 8 3 41 45 49) rD A12D A12D A12D A12D A12F A12F A12F A12F A48F A48F A48F A48F q_29 q_30 hq_29 hq_30) ms_X6_copyRow hN.1.2.2.2.2.2 ⟨Nat.le_of_ble_eq_true rfl, Nat.le_of_ble_eq_true rfl⟩ ⟨Nat.le_of_ble_eq_true rfl, Nat.le_of_ble_eq_true rfl⟩ hH hS rfl hl.1 (Nat.le_of_ble_eq_true rfl) dX2_copyOf_128 (fun H locs hq hS => ?_)
  have hH := hq
  have hH : TH E (tbC dA dB rA (riverD (.inl (a, a)) (.inl (b, b)) (.inl (0, 4)) 32 34 36 40 44 48) rc rd tp A14F A14F A4F A4F A14F A14F (riverD (.inl (a, a)) (.inl (b, b)) (.inl (0, 4)) 3 8 3 41 45 49) rD A12D A12D A12D A12D A12F A12F A12F A12F A48F A48F A48F A48F) H := hH
  refine lv_aload_n F.1 F.2.1 dX2_copyOf_131 rfl (lv_at hl 1 rfl) ?_
  refine tGetR (j := 11) F hK hH (tyb ha1 (all1 rfl)) rfl (all1 rfl) clX2 (by decide) wd_3_8 dX2_copyOf_132 (fun q_32 hq_32 _ => ?_)
  refine lv_aload_n F.1 F.2.1 dX2_copyOf_135 rfl (lv_at hl 0 rfl) ?_
  refine tGetR (j := 11) F hK hH (tyb ha0 (all1 rfl)) rfl (all1 rfl) clX2 (by decide) wd_3_8 dX2_copyOf_136 (fun q_33 hq_33 _ => ?_)
  refine tNv (host := RX6) (As := [.ref q_32, .ref q_33]) (rest := []) F hK hN hO (c_X6_copyRow_A14B E dA dB rA (riverD (.inl (a, a)) (.inl (b, b)) (.inl (0, 4)) 32 34 36 40 44 48) rc rd tp A14F A14F A4F A4F A14F A14F (riverD (.inl (a, a)) (.inl (b, b)) (.inl (0, 4)) 3 8 3 41 45 49) rD A12D A12D A12D A12D A12F A12F A12F A12F A48F A48F A48F A48F q_32 q_33 hq_32 hq_33) ms_X6_copyRow hN.1.2.2.2.2.2 ⟨Nat.le_of_ble_eq_true rfl, Nat.le_of_ble_eq_true rfl⟩ ⟨Nat.le_of_ble_eq_true rfl, Nat.le_of_ble_eq_true rfl⟩ hH hS rfl hl.1 (Nat.le_of_ble_eq_true rfl) dX2_copyOf_139 (fun H locs hq hS => ?_)
  have hH := hq
  have hH : TH E (tbC dA dB rA (riverD (.inl (a, a)) (.inl (b, b)) (.inl (0, 4)) 32 34 36 40 44 48) rc rd tp A14F A14F A4F A4F A14F A14F (riverD (.inl (a, a)) (.inl (b, b)) (.inl (0, 4)) 3 8 3 41 45 49) rD A12D A12D A12D A12D A12F A12F A12F A12F A48F A48F A48F A48F) H := hH
  refine lv_aload_n F.1 F.2.1 dX2_copyOf_142 rfl (lv_at hl 1 rfl) ?_
  refine tGetR (j := 12) F hK hH (tyb ha1 (all1 rfl)) rfl (all1 rfl) clX2 (by decide) wd_3_9 dX2_copyOf_143 (fun q_35 hq_35 _ => ?_)
  refine lv_aload_n F.1 F.2.1 dX2_copyOf_146 rfl (lv_at hl 0 rfl) ?_
  refine tGetR (j := 12) F hK hH (tyb ha0 (all1 rfl)) rfl (all1 rfl) clX2 (by decide) wd_3_9 dX2_copyOf_147 (fun q_36 hq_36 _ => ?_)
  refine tNv (host := RX6) (As := [.ref q_35, .ref q_36]) (rest := []) F hK hN hO (c_X6_copyRow_A14F E dA dB rA (riverD (.inl (a, a)) (.inl (b, b)) (.inl (0, 4)) 32 34 36 40 44 48) rc rd tp A14F A14F A4F A4F A14F A14F (riverD (.inl (a, a)) (.inl (b, b)) (.inl (0, 4)) 3 8 3 41 45 49) rD A12D A12D A12D A12D A12F A12F A12F A12F A48F A48F A48F A48F q_35 q_36 hq_35 hq_36) ms_X6_copyRow hN.1.2.2.2.2.2 ⟨Nat.le_of_ble_eq_true rfl, Nat.le_of_ble_eq_true rfl⟩ ⟨Nat.le_of_ble_eq_true rfl, Nat.le_of_ble_eq_true rfl⟩ hH hS rfl hl.1 (Nat.le_of_ble_eq_true rfl) dX2_copyOf_150 (fun H locs hq hS => ?_)
  have hH := hq
  have hH : TH E (tbC dA dB rA (riverD (.inl (a, a)) (.inl (b, b)) (.inl (0, 4)) 32 34 36 40 44 48) rc rd tp A14F A14F A4F A4F A14F A14F (riverD (.inl (a, a)) (.inl (b, b)) (.inl (0, 4)) 3 8 3 41 45 49) rD A12D A12D A12D A12D A12F A12F A12F A12F A48F A48F A48F A48F) H := hH
  refine lv_aload_n F.1 F.2.1 dX2_copyOf_153 rfl (lv_at hl 1 rfl) ?_
  refine tGetR (j := 13) F hK hH (tyb ha1 (all1 rfl)) rfl (all1 rfl) clX2 (by decide) wd_3_10 dX2_copyOf_154 (fun q_38 hq_38 _ => ?_)
  refine lv_aload_n F.1 F.2.1 dX2_copyOf_157 rfl (lv_at hl 0 rfl) ?_
  refine tGetR (j := 13) F hK hH (tyb ha0 (all1 rfl)) rfl (all1 rfl) clX2 (by decide) wd_3_10 dX2_copyOf_158 (fun q_39 hq_39 _ => ?_)
  refine tNv (host := RX6) (As := [.ref q_38, .ref q_39]) (rest := []) F hK hN hO (c_X6_copyRow_A14L E dA dB rA (riverD (.inl (a, a)) (.inl (b, b)) (.inl (0, 4)) 32 34 36 40 44 48) rc rd tp A14F A14F A4F A4F A14F A14F (riverD (.inl (a, a)) (.inl (b, b)) (.inl (0, 4)) 3 8 3 41 45 49) rD A12D A12D A12D A12D A12F A12F A12F A12F A48F A48F A48F A48F q_38 q_39 hq_38 hq_39) ms_X6_copyRow hN.1.2.2.2.2.2 ⟨Nat.le_of_ble_eq_true rfl, Nat.le_of_ble_eq_true rfl⟩ ⟨Nat.le_of_ble_eq_true rfl, Nat.le_of_ble_eq_true rfl⟩ hH hS rfl hl.1 (Nat.le_of_ble_eq_true rfl) dX2_copyOf_161 (fun H locs hq hS => ?_)
  have hH := hq
  have hH : TH E (tbC dA dB rA (riverD (.inl (a, a)) (.inl (b, b)) (.inl (0, 4)) 32 34 36 40 44 48) rc rd tp A14F A14F A4F A4F A14F A14F (riverD (.inl (a, a)) (.inl (b, b)) (.inl (0, 4)) 3 8 3 41 45 49) rD A12D A12D A12D A12D A12F A12F A12F A12F A48F A48F A48F A48F) H := hH
  refine lv_aload_n F.1 F.2.1 dX2_copyOf_164 rfl (lv_at hl 1 rfl) ?_
  refine tGetR (j := 15) F hK hH (tyb ha1 (all1 rfl)) rfl (all1 rfl) clX2 (by decide) wd_3_11 dX2_copyOf_165 (fun q_41 hq_41 _ => ?_)
  refine lv_aload_n F.1 F.2.1 dX2_copyOf_168 rfl (lv_at hl 0 rfl) ?_
  refine tGetR (j := 15) F hK hH (tyb ha0 (all1 rfl)) rfl (all1 rfl) clX2 (by decide) wd_3_11 dX2_copyOf_169 (fun q_42 hq_42 _ => ?_)
  refine tNv (host := RX6) (As := [.ref q_41, .ref q_42]) (rest := []) F hK hN hO (c_X6_copyRow_A4R E dA dB rA (riverD (.inl (a, a)) (.inl (b, b)) (.inl (0, 4)) 32 34 36 40 44 48) rc rd tp A14F A14F A4F A4F A14F A14F (riverD (.inl (a, a)) (.inl (b, b)) (.inl (0, 4)) 3 8 3 41 45 49) rD A12D A12D A12D A12D A12F A12F A12F A12F A48F A48F A48F A48F q_41 q_42 hq_41 hq_42) ms_X6_copyRow hN.1.2.2.2.2.2 ⟨Nat.le_of_ble_eq_true rfl, Nat.le_of_ble_eq_true rfl⟩ ⟨Nat.le_of_ble_eq_true rfl, Nat.le_of_ble_eq_true rfl⟩ hH hS rfl hl.1 (Nat.le_of_ble_eq_true rfl) dX2_copyOf_172 (fun H locs hq hS => ?_)
  have hH := hq
  have hH : TH E (tbC dA dB rA (riverD (.inl (a, a)) (.inl (b, b)) (.inl (0, 4)) 32 34 36 40 44 48) rc rd tp A14F A14F A4F A4F A14F A14F (riverD (.inl (a, a)) (.inl (b, b)) (.inl (0, 4)) 3 8 3 41 45 49) rD A12D A12D A12D A12D A12F A12F A12F A12F A48F A48F A48F A48F) H := hH
  refine lv_aload_n F.1 F.2.1 dX2_copyOf_175 rfl (lv_at hl 1 rfl) ?_
  refine tGetR (j := 16) F hK hH (tyb ha1 (all1 rfl)) rfl (all1 rfl) clX2 (by decide) wd_3_12 dX2_copyOf_176 (fun q_44 hq_44 _ => ?_)
  refine lv_aload_n F.1 F.2.1 dX2_copyOf_179 rfl (lv_at hl 0 rfl) ?_
  refine tGetR (j := 16) F hK hH (tyb ha0 (all1 rfl)) rfl (all1 rfl) clX2 (by decide) wd_3_12 dX2_copyOf_180 (fun q_45 hq_45 _ => ?_)
  refine tNv (host := RX6) (As := [.ref q_44, .ref q_45]) (rest := []) F hK hN hO (c_X6_copyRow_A4F E dA dB rA (riverD (.inl (a, a)) (.inl (b, b)) (.inl (0, 4)) 32 34 36 40 44 48) rc rd tp A14F A14F A4F A4F A14F A14F (riverD (.inl (a, a)) (.inl (b, b)) (.inl (0, 4)) 3 8 3 41 45 49) rD A12D A12D A12D A12D A12F A12F A12F A12F A48F A48F A48F A48F q_44 q_45 hq_44 hq_45) ms_X6_copyRow hN.1.2.2.2.2.2 ⟨Nat.le_of_ble_eq_true rfl, Nat.le_of_ble_eq_true rfl⟩ ⟨Nat.le_of_ble_eq_true rfl, Nat.le_of_ble_eq_true rfl⟩ hH hS rfl hl.1 (Nat.le_of_ble_eq_true rfl) dX2_copyOf_183 (fun H locs hq hS => ?_)
  have hH := hq
  have hH : TH E (tbC dA dB rA (riverD (.inl (a, a)) (.inl (b, b)) (.inl (0, 4)) 32 34 36 40 44 48) rc rd tp A14F A14F A4F A4F A14F A14F (riverD (.inl (a, a)) (.inl (b, b)) (.inl (0, 4)) 3 8 3 41 45 49) rD A12D A12D A12D A12D A12F A12F A12F A12F A48F A48F A48F A48F) H := hH
  refine lv_aload_n F.1 F.2.1 dX2_copyOf_186 rfl (lv_at hl 1 rfl) ?_
  refine tGetR (j := 17) F hK hH (tyb ha1 (all1 rfl)) rfl (all1 rfl) clX2 (by decide) wd_3_13 dX2_copyOf_187 (fun q_47 hq_47 _ => ?_)
  refine lv_aload_n F.1 F.2.1 dX2_copyOf_190 rfl (lv_at hl 0 rfl) ?_
  refine tGetR (j := 17) F hK hH (tyb ha0 (all1 rfl)) rfl (all1 rfl) clX2 (by decide) wd_3_13 dX2_copyOf_191 (fun q_48 hq_48 _ => ?_)
  refine tNv (host := RX6) (As := [.ref q_47, .ref q_48]) (rest := []) F hK hN hO (c_X6_copyRow_A4F E dA dB rA (riverD (.inl (a, a)) (.inl (b, b)) (.inl (0, 4)) 32 34 36 40 44 48) rc rd tp A14F A14F A4F A4F A14F A14F (riverD (.inl (a, a)) (.inl (b, b)) (.inl (0, 4)) 3 8 3 41 45 49) rD A12D A12D A12D A12D A12F A12F A12F A12F A48F A48F A48F A48F q_47 q_48 hq_47 hq_48) ms_X6_copyRow hN.1.2.2.2.2.2 ⟨Nat.le_of_ble_eq_true rfl, Nat.le_of_ble_eq_true rfl⟩ ⟨Nat.le_of_ble_eq_true rfl, Nat.le_of_ble_eq_true rfl⟩ hH hS rfl hl.1 (Nat.le_of_ble_eq_true rfl) dX2_copyOf_194 (fun H locs hq hS => ?_)
  have hH := hq
  have hH : TH E (tbC dA dB rA (riverD (.inl (a, a)) (.inl (b, b)) (.inl (0, 4)) 32 34 36 40 44 48) rc rd tp A14F A14F A4F A4F A14F A14F (riverD (.inl (a, a)) (.inl (b, b)) (.inl (0, 4)) 3 8 3 41 45 49) rD A12D A12D A12D A12D A12F A12F A12F A12F A48F A48F A48F A48F) H := hH
  refine lv_aload_n F.1 F.2.1 dX2_copyOf_197 rfl (lv_at hl 1 rfl) ?_
  refine tGetR (j := 18) F hK hH (tyb ha1 (all1 rfl)) rfl (all1 rfl) clX2 (by decide) wd_3_14 dX2_copyOf_198 (fun q_50 hq_50 _ => ?_)
  refine lv_aload_n F.1 F.2.1 dX2_copyOf_201 rfl (lv_at hl 0 rfl) ?_
  refine tGetR (j := 18) F hK hH (tyb ha0 (all1 rfl)) rfl (all1 rfl) clX2 (by decide) wd_3_14 dX2_copyOf_202 (fun q_51 hq_51 _ => ?_)
  refine tNv (host := RX6) (As := [.ref q_50, .ref q_51]) (rest := []) F hK hN hO (c_X6_copyRow_s E dA dB rA (riverD (.inl (a, a)) (.inl (b, b)) (.inl (0, 4)) 32 34 36 40 44 48) rc rd tp (riverD (.inl (a, a)) (.inl (b, b)) (.inl (0, 4)) 3 8 3 41 45 49) rD A12D A12D A12D A12D A12F A12F A12F A12F A48F A48F A48F A48F q_50 q_51 (by have h9_ := hq_50; simp at h9_ ⊢; omega) (by have h9_ := hq_51; simp at h9_ ⊢; omega)) ms_X6_copyRow hN.1.2.2.2.2.2 ⟨Nat.le_of_ble_eq_true rfl, Nat.le_of_ble_eq_true rfl⟩ ⟨Nat.le_of_ble_eq_true rfl, Nat.le_of_ble_eq_true rfl⟩ hH hS rfl hl.1 (Nat.le_of_ble_eq_true rfl) dX2_copyOf_205 (fun H locs hq hS => ?_)
  have hH := hq
  have hH : TH E (tbC dA dB rA (riverD (.inl (a, a)) (.inl (b, b)) (.inl (0, 4)) 32 34 36 40 44 48) rc rd tp A14F A14F A4F A4F A14F A14F (riverD (.inl (a, a)) (.inl (b, b)) (.inl (0, 4)) 3 8 3 41 45 49) rD A12D A12D A12D A12D A12F A12F A12F A12F A48F A48F A48F A48F) H := hH
  exact txV F hS dX2_copyOf_208 (hH)
set_option maxHeartbeats 4000000 in
set_option maxRecDepth 100000 in
theorem c_X2_copyOf_38_26 (E : Ev) (dA : TD) (dB : TD) (rB : TD) (rc : TD) (rd : TD) (tp : TD) (rC : TD) (Fa4 : Int × Int) (Fb4 : Int × Int) (a : Int) (b : Int) (a0 : Nat) (a1 : Nat) (ha0 : eT E a0 ∈ [38]) (ha1 : eT E a1 ∈ [26]) (ha : 0 ≤ a ∧ a ≤ 12) (hb : 0 ≤ b ∧ b ≤ 14) (hFa4 : 0 ≤ Fa4.1 ∧ Fa4.2 ≤ 12) (hFb4 : 0 ≤ Fb4.1 ∧ Fb4.2 ≤ 14) : TcV E yX2_copyOf cX2_copyOf 2 ({ frames := 2, cells := 0, slots := 0, locals := 61 }) [.ref a0, .ref a1] (fun H => TH E (tbC dA dB (riverD (.inl (a, a)) (.inl (b, b)) (.inl (0, 4)) 31 33 35 39 43 47) rB rc rd tp A14F A14F A4F A4F A14F A14F rC (riverD (.inl Fa4) (.inl Fb4) (.inl (0, 4)) 3 8 3 42 46 50) A12D A12D A12D A12D A12F A12F A12F A12F A48F A48F A48F A48F) H) (fun H => TH E (tbC dA dB (riverD (.inl (a, a)) (.inl (b, b)) (.inl (0, 4)) 31 33 35 39 43 47) rB rc rd tp A14F A14F A4F A4F A14F A14F rC (riverD (.inl (a, a)) (.inl (b, b)) (.inl (0, 4)) 3 8 3 42 46 50) A12D A12D A12D A12D A12F A12F A12F A12F A48F A48F A48F A48F) H) := by
  refine teV (by decide) (Nat.le_of_ble_eq_true rfl) ?_
  intro p_ ev_ s mi_ below_ meth cd_ ls F hK hN hO hH hS hl
  have hH : TH E (tbC dA dB (riverD (.inl (a, a)) (.inl (b, b)) (.inl (0, 4)) 31 33 35 39 43 47) rB rc rd tp A14F A14F A4F A4F A14F A14F rC (riverD (.inl Fa4) (.inl Fb4) (.inl (0, 4)) 3 8 3 42 46 50) A12D A12D A12D A12D A12F A12F A12F A12F A48F A48F A48F A48F) s.heap := hH
  have hl : lv_has ls 2 [(0, .ref a0), (1, .ref a1)] := hl
  refine lv_aload_n F.1 F.2.1 dX2_copyOf_0 rfl (lv_at hl 0 rfl) ?_
  refine lv_aload_n F.1 F.2.1 dX2_copyOf_1 rfl (lv_at hl 1 rfl) ?_
  refine tGetI (j := 0) F hK hH (tyb ha1 (all1 rfl)) rfl clX2 (by decide) wd_9_11 dX2_copyOf_2 (fun z_1 hz_1 => ?_)
  have ez_1 : 0 ≤ z_1.toInt ∧ z_1.toInt ≤ 12 := by omega
  refine tPutG (j := 0) (t := 38) (fd := (.inl (a, a))) F hK hH hS (List.mem_singleton.mp ha0) (by decide) rfl rfl (fdI (by omega)) (TB1 := (tbC dA dB (riverD (.inl (a, a)) (.inl (b, b)) (.inl (0, 4)) 31 33 35 39 43 47) rB rc rd tp A14F A14F A4F A4F A14F A14F rC (riverD (.inl (a, a)) (.inl Fb4) (.inl (0, 4)) 3 8 3 42 46 50) A12D A12D A12D A12D A12F A12F A12F A12F A48F A48F A48F A48F)) rfl clX2 (by decide) wd_9_11 rfl rfl rfl rfl dX2_copyOf_5 (fun H locs hH hS => ?_)
  refine lv_aload_n F.1 F.2.1 dX2_copyOf_8 rfl (lv_at hl 0 rfl) ?_
  refine lv_aload_n F.1 F.2.1 dX2_copyOf_9 rfl (lv_at hl 1 rfl) ?_
  refine tGetI (j := 4) F hK hH (tyb ha1 (all1 rfl)) rfl clX2 (by decide) wd_9_12 dX2_copyOf_10 (fun z_2 hz_2 => ?_)
  have ez_2 : 0 ≤ z_2.toInt ∧ z_2.toInt ≤ 14 := by omega
  refine tPutG (j := 4) (t := 38) (fd := (.inl (b, b))) F hK hH hS (List.mem_singleton.mp ha0) (by decide) rfl rfl (fdI (by omega)) (TB1 := (tbC dA dB (riverD (.inl (a, a)) (.inl (b, b)) (.inl (0, 4)) 31 33 35 39 43 47) rB rc rd tp A14F A14F A4F A4F A14F A14F rC (riverD (.inl (a, a)) (.inl (b, b)) (.inl (0, 4)) 3 8 3 42 46 50) A12D A12D A12D A12D A12F A12F A12F A12F A48F A48F A48F A48F)) rfl clX2 (by decide) wd_9_12 rfl rfl rfl rfl dX2_copyOf_13 (fun H locs hH hS => ?_)
  refine lv_aload_n F.1 F.2.1 dX2_copyOf_16 rfl (lv_at hl 0 rfl) ?_
  refine lv_aload_n F.1 F.2.1 dX2_copyOf_17 rfl (lv_at hl 1 rfl) ?_
  refine tGetI (j := 14) F hK hH (tyb ha1 (all1 rfl)) rfl clX2 (by decide) wd_9_13 dX2_copyOf_18 (fun z_3 hz_3 => ?_)
  refine tPut (j := 14) F hK hH hS (tyb ha0 (all1 rfl)) rfl (fdI hz_3) clX2 (by decide) wd_9_13 rfl rfl rfl rfl dX2_copyOf_21 (fun H locs hH hS => ?_)
  refine lv_aload_n F.1 F.2.1 dX2_copyOf_24 rfl (lv_at hl 0 rfl) ?_
  refine lv_aload_n F.1 F.2.1 dX2_copyOf_25 rfl (lv_at hl 1 rfl) ?_
  refine tGetI (j := 19) F hK hH (tyb ha1 (all1 rfl)) rfl clX2 (by decide) wd_3_15 dX2_copyOf_26 (fun z_4 hz_4 => ?_)
  refine tPut (j := 19) F hK hH hS (tyb ha0 (all1 rfl)) rfl (fdI hz_4) clX2 (by decide) wd_3_15 rfl rfl rfl rfl dX2_copyOf_29 (fun H locs hH hS => ?_)
  refine lv_aload_n F.1 F.2.1 dX2_copyOf_32 rfl (lv_at hl 1 rfl) ?_
  refine tGetR (j := 1) F hK hH (tyb ha1 (all1 rfl)) rfl (all1 rfl) clX2 (by decide) wd_2_23 dX2_copyOf_33 (fun q_5 hq_5 _ => ?_)
  refine lv_aload_n F.1 F.2.1 dX2_copyOf_36 rfl (lv_at hl 0 rfl) ?_
  refine tGetR (j := 1) F hK hH (tyb ha0 (all1 rfl)) rfl (all1 rfl) clX2 (by decide) wd_2_23 dX2_copyOf_37 (fun q_6 hq_6 _ => ?_)
  refine tNv (host := RX6) (As := [.ref q_5, .ref q_6]) (rest := []) F hK hN hO (c_X6_copyRow_pd E dA dB (riverD (.inl (a, a)) (.inl (b, b)) (.inl (0, 4)) 31 33 35 39 43 47) rB rc rd tp A14F A14F A4F A4F A14F A14F rC (riverD (.inl (a, a)) (.inl (b, b)) (.inl (0, 4)) 3 8 3 42 46 50) A12F A12F A12F A12F A48F A48F A48F A48F q_5 q_6 (by have h9_ := hq_5; simp at h9_ ⊢; omega) (by have h9_ := hq_6; simp at h9_ ⊢; omega)) ms_X6_copyRow hN.1.2.2.2.2.2 ⟨Nat.le_of_ble_eq_true rfl, Nat.le_of_ble_eq_true rfl⟩ ⟨Nat.le_of_ble_eq_true rfl, Nat.le_of_ble_eq_true rfl⟩ hH hS rfl hl.1 (Nat.le_of_ble_eq_true rfl) dX2_copyOf_40 (fun H locs hq hS => ?_)
  have hH := hq
  have hH : TH E (tbC dA dB (riverD (.inl (a, a)) (.inl (b, b)) (.inl (0, 4)) 31 33 35 39 43 47) rB rc rd tp A14F A14F A4F A4F A14F A14F rC (riverD (.inl (a, a)) (.inl (b, b)) (.inl (0, 4)) 3 8 3 42 46 50) A12D A12D A12D A12D A12F A12F A12F A12F A48F A48F A48F A48F) H := hH
  refine lv_aload_n F.1 F.2.1 dX2_copyOf_43 rfl (lv_at hl 1 rfl) ?_
  refine tGetR (j := 2) F hK hH (tyb ha1 (all1 rfl)) rfl (all1 rfl) clX2 (by decide) wd_3_0 dX2_copyOf_44 (fun q_8 hq_8 _ => ?_)
  refine lv_aload_n F.1 F.2.1 dX2_copyOf_47 rfl (lv_at hl 0 rfl) ?_
  refine tGetR (j := 2) F hK hH (tyb ha0 (all1 rfl)) rfl (all1 rfl) clX2 (by decide) wd_3_0 dX2_copyOf_48 (fun q_9 hq_9 _ => ?_)
  refine tNv (host := RX6) (As := [.ref q_8, .ref q_9]) (rest := []) F hK hN hO (c_X6_copyRow_ps E dA dB (riverD (.inl (a, a)) (.inl (b, b)) (.inl (0, 4)) 31 33 35 39 43 47) rB rc rd tp A14F A14F A4F A4F A14F A14F rC (riverD (.inl (a, a)) (.inl (b, b)) (.inl (0, 4)) 3 8 3 42 46 50) A12D A12D A12D A12D A48F A48F A48F A48F q_8 q_9 (by have h9_ := hq_8; simp at h9_ ⊢; omega) (by have h9_ := hq_9; simp at h9_ ⊢; omega)) ms_X6_copyRow hN.1.2.2.2.2.2 ⟨Nat.le_of_ble_eq_true rfl, Nat.le_of_ble_eq_true rfl⟩ ⟨Nat.le_of_ble_eq_true rfl, Nat.le_of_ble_eq_true rfl⟩ hH hS rfl hl.1 (Nat.le_of_ble_eq_true rfl) dX2_copyOf_51 (fun H locs hq hS => ?_)
  have hH := hq
  have hH : TH E (tbC dA dB (riverD (.inl (a, a)) (.inl (b, b)) (.inl (0, 4)) 31 33 35 39 43 47) rB rc rd tp A14F A14F A4F A4F A14F A14F rC (riverD (.inl (a, a)) (.inl (b, b)) (.inl (0, 4)) 3 8 3 42 46 50) A12D A12D A12D A12D A12F A12F A12F A12F A48F A48F A48F A48F) H := hH
  refine lv_aload_n F.1 F.2.1 dX2_copyOf_54 rfl (lv_at hl 1 rfl) ?_
  refine tGetR (j := 3) F hK hH (tyb ha1 (all1 rfl)) rfl (all1 rfl) clX2 (by decide) wd_3_1 dX2_copyOf_55 (fun q_11 hq_11 _ => ?_)
  refine lv_aload_n F.1 F.2.1 dX2_copyOf_58 rfl (lv_at hl 0 rfl) ?_
  refine tGetR (j := 3) F hK hH (tyb ha0 (all1 rfl)) rfl (all1 rfl) clX2 (by decide) wd_3_1 dX2_copyOf_59 (fun q_12 hq_12 _ => ?_)
  refine tNv (host := RX6) (As := [.ref q_11, .ref q_12]) (rest := []) F hK hN hO (c_X6_copyRow_pi E dA dB (riverD (.inl (a, a)) (.inl (b, b)) (.inl (0, 4)) 31 33 35 39 43 47) rB rc rd tp A14F A14F A4F A4F A14F A14F rC (riverD (.inl (a, a)) (.inl (b, b)) (.inl (0, 4)) 3 8 3 42 46 50) A12D A12D A12D A12D A12F A12F A12F A12F q_11 q_12 (by have h9_ := hq_11; simp at h9_ ⊢; omega) (by have h9_ := hq_12; simp at h9_ ⊢; omega)) ms_X6_copyRow hN.1.2.2.2.2.2 ⟨Nat.le_of_ble_eq_true rfl, Nat.le_of_ble_eq_true rfl⟩ ⟨Nat.le_of_ble_eq_true rfl, Nat.le_of_ble_eq_true rfl⟩ hH hS rfl hl.1 (Nat.le_of_ble_eq_true rfl) dX2_copyOf_62 (fun H locs hq hS => ?_)
  have hH := hq
  have hH : TH E (tbC dA dB (riverD (.inl (a, a)) (.inl (b, b)) (.inl (0, 4)) 31 33 35 39 43 47) rB rc rd tp A14F A14F A4F A4F A14F A14F rC (riverD (.inl (a, a)) (.inl (b, b)) (.inl (0, 4)) 3 8 3 42 46 50) A12D A12D A12D A12D A12F A12F A12F A12F A48F A48F A48F A48F) H := hH
  refine lv_aload_n F.1 F.2.1 dX2_copyOf_65 rfl (lv_at hl 1 rfl) ?_
  refine tGetR (j := 5) F hK hH (tyb ha1 (all1 rfl)) rfl (all1 rfl) clX2 (by decide) wd_3_2 dX2_copyOf_66 (fun q_14 hq_14 _ => ?_)
  refine lv_aload_n F.1 F.2.1 dX2_copyOf_69 rfl (lv_at hl 0 rfl) ?_
  refine tGetR (j := 5) F hK hH (tyb ha0 (all1 rfl)) rfl (all1 rfl) clX2 (by decide) wd_3_2 dX2_copyOf_70 (fun q_15 hq_15 _ => ?_)
  refine tNv (host := RX6) (As := [.ref q_14, .ref q_15]) (rest := []) F hK hN hO (c_X6_copyRow_A14R E dA dB (riverD (.inl (a, a)) (.inl (b, b)) (.inl (0, 4)) 31 33 35 39 43 47) rB rc rd tp A14F A14F A4F A4F A14F A14F rC (riverD (.inl (a, a)) (.inl (b, b)) (.inl (0, 4)) 3 8 3 42 46 50) A12D A12D A12D A12D A12F A12F A12F A12F A48F A48F A48F A48F q_14 q_15 hq_14 hq_15) ms_X6_copyRow hN.1.2.2.2.2.2 ⟨Nat.le_of_ble_eq_true rfl, Nat.le_of_ble_eq_true rfl⟩ ⟨Nat.le_of_ble_eq_true rfl, Nat.le_of_ble_eq_true rfl⟩ hH hS rfl hl.1 (Nat.le_of_ble_eq_true rfl) dX2_copyOf_73 (fun H locs hq hS => ?_)
  have hH := hq
  have hH : TH E (tbC dA dB (riverD (.inl (a, a)) (.inl (b, b)) (.inl (0, 4)) 31 33 35 39 43 47) rB rc rd tp A14F A14F A4F A4F A14F A14F rC (riverD (.inl (a, a)) (.inl (b, b)) (.inl (0, 4)) 3 8 3 42 46 50) A12D A12D A12D A12D A12F A12F A12F A12F A48F A48F A48F A48F) H := hH
  refine lv_aload_n F.1 F.2.1 dX2_copyOf_76 rfl (lv_at hl 1 rfl) ?_
  refine tGetR (j := 6) F hK hH (tyb ha1 (all1 rfl)) rfl (all1 rfl) clX2 (by decide) wd_3_3 dX2_copyOf_77 (fun q_17 hq_17 _ => ?_)
  refine lv_aload_n F.1 F.2.1 dX2_copyOf_80 rfl (lv_at hl 0 rfl) ?_
  refine tGetR (j := 6) F hK hH (tyb ha0 (all1 rfl)) rfl (all1 rfl) clX2 (by decide) wd_3_3 dX2_copyOf_81 (fun q_18 hq_18 _ => ?_)
  refine tNv (host := RX6) (As := [.ref q_17, .ref q_18]) (rest := []) F hK hN hO (c_X6_copyRow_A14F E dA dB (riverD (.inl (a, a)) (.inl (b, b)) (.inl (0, 4)) 31 33 35 39 43 47) rB rc rd tp A14F A14F A4F A4F A14F A14F rC (riverD (.inl (a, a)) (.inl (b, b)) (.inl (0, 4)) 3 8 3 42 46 50) A12D A12D A12D A12D A12F A12F A12F A12F A48F A48F A48F A48F q_17 q_18 hq_17 hq_18) ms_X6_copyRow hN.1.2.2.2.2.2 ⟨Nat.le_of_ble_eq_true rfl, Nat.le_of_ble_eq_true rfl⟩ ⟨Nat.le_of_ble_eq_true rfl, Nat.le_of_ble_eq_true rfl⟩ hH hS rfl hl.1 (Nat.le_of_ble_eq_true rfl) dX2_copyOf_84 (fun H locs hq hS => ?_)
  have hH := hq
  have hH : TH E (tbC dA dB (riverD (.inl (a, a)) (.inl (b, b)) (.inl (0, 4)) 31 33 35 39 43 47) rB rc rd tp A14F A14F A4F A4F A14F A14F rC (riverD (.inl (a, a)) (.inl (b, b)) (.inl (0, 4)) 3 8 3 42 46 50) A12D A12D A12D A12D A12F A12F A12F A12F A48F A48F A48F A48F) H := hH
  refine lv_aload_n F.1 F.2.1 dX2_copyOf_87 rfl (lv_at hl 1 rfl) ?_
  refine tGetR (j := 7) F hK hH (tyb ha1 (all1 rfl)) rfl (all1 rfl) clX2 (by decide) wd_3_4 dX2_copyOf_88 (fun q_20 hq_20 _ => ?_)
  refine lv_aload_n F.1 F.2.1 dX2_copyOf_91 rfl (lv_at hl 0 rfl) ?_
  refine tGetR (j := 7) F hK hH (tyb ha0 (all1 rfl)) rfl (all1 rfl) clX2 (by decide) wd_3_4 dX2_copyOf_92 (fun q_21 hq_21 _ => ?_)
  refine tNv (host := RX6) (As := [.ref q_20, .ref q_21]) (rest := []) F hK hN hO (c_X6_copyRow_f E dA dB (riverD (.inl (a, a)) (.inl (b, b)) (.inl (0, 4)) 31 33 35 39 43 47) rB rc rd tp rC (riverD (.inl (a, a)) (.inl (b, b)) (.inl (0, 4)) 3 8 3 42 46 50) A12D A12D A12D A12D A12F A12F A12F A12F A48F A48F A48F A48F q_20 q_21 (by have h9_ := hq_20; simp at h9_ ⊢; omega) (by have h9_ := hq_21; simp at h9_ ⊢; omega)) ms_X6_copyRow hN.1.2.2.2.2.2 ⟨Nat.le_of_ble_eq_true rfl, Nat.le_of_ble_eq_true rfl⟩ ⟨Nat.le_of_ble_eq_true rfl, Nat.le_of_ble_eq_true rfl⟩ hH hS rfl hl.1 (Nat.le_of_ble_eq_true rfl) dX2_copyOf_95 (fun H locs hq hS => ?_)
  have hH := hq
  have hH : TH E (tbC dA dB (riverD (.inl (a, a)) (.inl (b, b)) (.inl (0, 4)) 31 33 35 39 43 47) rB rc rd tp A14F A14F A4F A4F A14F A14F rC (riverD (.inl (a, a)) (.inl (b, b)) (.inl (0, 4)) 3 8 3 42 46 50) A12D A12D A12D A12D A12F A12F A12F A12F A48F A48F A48F A48F) H := hH
  refine lv_aload_n F.1 F.2.1 dX2_copyOf_98 rfl (lv_at hl 1 rfl) ?_
  refine tGetR (j := 8) F hK hH (tyb ha1 (all1 rfl)) rfl (all1 rfl) clX2 (by decide) wd_3_5 dX2_copyOf_99 (fun q_23 hq_23 _ => ?_)
  refine lv_aload_n F.1 F.2.1 dX2_copyOf_102 rfl (lv_at hl 0 rfl) ?_
  refine tGetR (j := 8) F hK hH (tyb ha0 (all1 rfl)) rfl (all1 rfl) clX2 (by decide) wd_3_5 dX2_copyOf_103 (fun q_24 hq_24 _ => ?_)
  refine tNv (host := RX6) (As := [.ref q_23, .ref q_24]) (rest := []) F hK hN hO (c_X6_copyRow_A14F E dA dB (riverD (.inl (a, a)) (.inl (b, b)) (.inl (0, 4)) 31 33 35 39 43 47) rB rc rd tp A14F A14F A4F A4F A14F A14F rC (riverD (.inl (a, a)) (.inl (b, b)) (.inl (0, 4)) 3 8 3 42 46 50) A12D A12D A12D A12D A12F A12F A12F A12F A48F A48F A48F A48F q_23 q_24 hq_23 hq_24) ms_X6_copyRow hN.1.2.2.2.2.2 ⟨Nat.le_of_ble_eq_true rfl, Nat.le_of_ble_eq_true rfl⟩ ⟨Nat.le_of_ble_eq_true rfl, Nat.le_of_ble_eq_true rfl⟩ hH hS rfl hl.1 (Nat.le_of_ble_eq_true rfl) dX2_copyOf_106 (fun H locs hq hS => ?_)
  have hH := hq
  have hH : TH E (tbC dA dB (riverD (.inl (a, a)) (.inl (b, b)) (.inl (0, 4)) 31 33 35 39 43 47) rB rc rd tp A14F A14F A4F A4F A14F A14F rC (riverD (.inl (a, a)) (.inl (b, b)) (.inl (0, 4)) 3 8 3 42 46 50) A12D A12D A12D A12D A12F A12F A12F A12F A48F A48F A48F A48F) H := hH
  refine lv_aload_n F.1 F.2.1 dX2_copyOf_109 rfl (lv_at hl 1 rfl) ?_
  refine tGetR (j := 9) F hK hH (tyb ha1 (all1 rfl)) rfl (all1 rfl) clX2 (by decide) wd_3_6 dX2_copyOf_110 (fun q_26 hq_26 _ => ?_)
  refine lv_aload_n F.1 F.2.1 dX2_copyOf_113 rfl (lv_at hl 0 rfl) ?_
  refine tGetR (j := 9) F hK hH (tyb ha0 (all1 rfl)) rfl (all1 rfl) clX2 (by decide) wd_3_6 dX2_copyOf_114 (fun q_27 hq_27 _ => ?_)
  refine tNv (host := RX6) (As := [.ref q_26, .ref q_27]) (rest := []) F hK hN hO (c_X6_copyRow_g E dA dB (riverD (.inl (a, a)) (.inl (b, b)) (.inl (0, 4)) 31 33 35 39 43 47) rB rc rd tp rC (riverD (.inl (a, a)) (.inl (b, b)) (.inl (0, 4)) 3 8 3 42 46 50) A12D A12D A12D A12D A12F A12F A12F A12F A48F A48F A48F A48F q_26 q_27 (by have h9_ := hq_26; simp at h9_ ⊢; omega) (by have h9_ := hq_27; simp at h9_ ⊢; omega)) ms_X6_copyRow hN.1.2.2.2.2.2 ⟨Nat.le_of_ble_eq_true rfl, Nat.le_of_ble_eq_true rfl⟩ ⟨Nat.le_of_ble_eq_true rfl, Nat.le_of_ble_eq_true rfl⟩ hH hS rfl hl.1 (Nat.le_of_ble_eq_true rfl) dX2_copyOf_117 (fun H locs hq hS => ?_)
  have hH := hq
  have hH : TH E (tbC dA dB (riverD (.inl (a, a)) (.inl (b, b)) (.inl (0, 4)) 31 33 35 39 43 47) rB rc rd tp A14F A14F A4F A4F A14F A14F rC (riverD (.inl (a, a)) (.inl (b, b)) (.inl (0, 4)) 3 8 3 42 46 50) A12D A12D A12D A12D A12F A12F A12F A12F A48F A48F A48F A48F) H := hH
  refine lv_aload_n F.1 F.2.1 dX2_copyOf_120 rfl (lv_at hl 1 rfl) ?_
  refine tGetR (j := 10) F hK hH (tyb ha1 (all1 rfl)) rfl (all1 rfl) clX2 (by decide) wd_3_7 dX2_copyOf_121 (fun q_29 hq_29 _ => ?_)
  refine lv_aload_n F.1 F.2.1 dX2_copyOf_124 rfl (lv_at hl 0 rfl) ?_
  refine tGetR (j := 10) F hK hH (tyb ha0 (all1 rfl)) rfl (all1 rfl) clX2 (by decide) wd_3_7 dX2_copyOf_125 (fun q_30 hq_30 _ => ?_)
  refine tNv (host := RX6) (As := [.ref q_29, .ref q_30]) (rest := []) F hK hN hO (c_X6_copyRow_A14F E dA dB (riverD (.inl (a, a)) (.inl (b, b)) (.inl (0, 4)) 31 33 35 39 43 47) rB rc rd tp A14F A14F A4F A4F A14F A14F rC (riverD (.inl (a, a)) (.inl (b, b)) (.inl (0, 4)) 3 8 3 42 46 50) A12D A12D A12D A12D A12F A12F A12F A12F A48F A48F A48F A48F q_29 q_30 hq_29 hq_30) ms_X6_copyRow hN.1.2.2.2.2.2 ⟨Nat.le_of_ble_eq_true rfl, Nat.le_of_ble_eq_true rfl⟩ ⟨Nat.le_of_ble_eq_true rfl, Nat.le_of_ble_eq_true rfl⟩ hH hS rfl hl.1 (Nat.le_of_ble_eq_true rfl) dX2_copyOf_128 (fun H locs hq hS => ?_)
  have hH := hq
  have hH : TH E (tbC dA dB (riverD (.inl (a, a)) (.inl (b, b)) (.inl (0, 4)) 31 33 35 39 43 47) rB rc rd tp A14F A14F A4F A4F A14F A14F rC (riverD (.inl (a, a)) (.inl (b, b)) (.inl (0, 4)) 3 8 3 42 46 50) A12D A12D A12D A12D A12F A12F A12F A12F A48F A48F A48F A48F) H := hH
  refine lv_aload_n F.1 F.2.1 dX2_copyOf_131 rfl (lv_at hl 1 rfl) ?_
  refine tGetR (j := 11) F hK hH (tyb ha1 (all1 rfl)) rfl (all1 rfl) clX2 (by decide) wd_3_8 dX2_copyOf_132 (fun q_32 hq_32 _ => ?_)
  refine lv_aload_n F.1 F.2.1 dX2_copyOf_135 rfl (lv_at hl 0 rfl) ?_
  refine tGetR (j := 11) F hK hH (tyb ha0 (all1 rfl)) rfl (all1 rfl) clX2 (by decide) wd_3_8 dX2_copyOf_136 (fun q_33 hq_33 _ => ?_)
  refine tNv (host := RX6) (As := [.ref q_32, .ref q_33]) (rest := []) F hK hN hO (c_X6_copyRow_A14B E dA dB (riverD (.inl (a, a)) (.inl (b, b)) (.inl (0, 4)) 31 33 35 39 43 47) rB rc rd tp A14F A14F A4F A4F A14F A14F rC (riverD (.inl (a, a)) (.inl (b, b)) (.inl (0, 4)) 3 8 3 42 46 50) A12D A12D A12D A12D A12F A12F A12F A12F A48F A48F A48F A48F q_32 q_33 hq_32 hq_33) ms_X6_copyRow hN.1.2.2.2.2.2 ⟨Nat.le_of_ble_eq_true rfl, Nat.le_of_ble_eq_true rfl⟩ ⟨Nat.le_of_ble_eq_true rfl, Nat.le_of_ble_eq_true rfl⟩ hH hS rfl hl.1 (Nat.le_of_ble_eq_true rfl) dX2_copyOf_139 (fun H locs hq hS => ?_)
  have hH := hq
  have hH : TH E (tbC dA dB (riverD (.inl (a, a)) (.inl (b, b)) (.inl (0, 4)) 31 33 35 39 43 47) rB rc rd tp A14F A14F A4F A4F A14F A14F rC (riverD (.inl (a, a)) (.inl (b, b)) (.inl (0, 4)) 3 8 3 42 46 50) A12D A12D A12D A12D A12F A12F A12F A12F A48F A48F A48F A48F) H := hH
  refine lv_aload_n F.1 F.2.1 dX2_copyOf_142 rfl (lv_at hl 1 rfl) ?_
  refine tGetR (j := 12) F hK hH (tyb ha1 (all1 rfl)) rfl (all1 rfl) clX2 (by decide) wd_3_9 dX2_copyOf_143 (fun q_35 hq_35 _ => ?_)
  refine lv_aload_n F.1 F.2.1 dX2_copyOf_146 rfl (lv_at hl 0 rfl) ?_
  refine tGetR (j := 12) F hK hH (tyb ha0 (all1 rfl)) rfl (all1 rfl) clX2 (by decide) wd_3_9 dX2_copyOf_147 (fun q_36 hq_36 _ => ?_)
  refine tNv (host := RX6) (As := [.ref q_35, .ref q_36]) (rest := []) F hK hN hO (c_X6_copyRow_A14F E dA dB (riverD (.inl (a, a)) (.inl (b, b)) (.inl (0, 4)) 31 33 35 39 43 47) rB rc rd tp A14F A14F A4F A4F A14F A14F rC (riverD (.inl (a, a)) (.inl (b, b)) (.inl (0, 4)) 3 8 3 42 46 50) A12D A12D A12D A12D A12F A12F A12F A12F A48F A48F A48F A48F q_35 q_36 hq_35 hq_36) ms_X6_copyRow hN.1.2.2.2.2.2 ⟨Nat.le_of_ble_eq_true rfl, Nat.le_of_ble_eq_true rfl⟩ ⟨Nat.le_of_ble_eq_true rfl, Nat.le_of_ble_eq_true rfl⟩ hH hS rfl hl.1 (Nat.le_of_ble_eq_true rfl) dX2_copyOf_150 (fun H locs hq hS => ?_)
  have hH := hq
  have hH : TH E (tbC dA dB (riverD (.inl (a, a)) (.inl (b, b)) (.inl (0, 4)) 31 33 35 39 43 47) rB rc rd tp A14F A14F A4F A4F A14F A14F rC (riverD (.inl (a, a)) (.inl (b, b)) (.inl (0, 4)) 3 8 3 42 46 50) A12D A12D A12D A12D A12F A12F A12F A12F A48F A48F A48F A48F) H := hH
  refine lv_aload_n F.1 F.2.1 dX2_copyOf_153 rfl (lv_at hl 1 rfl) ?_
  refine tGetR (j := 13) F hK hH (tyb ha1 (all1 rfl)) rfl (all1 rfl) clX2 (by decide) wd_3_10 dX2_copyOf_154 (fun q_38 hq_38 _ => ?_)
  refine lv_aload_n F.1 F.2.1 dX2_copyOf_157 rfl (lv_at hl 0 rfl) ?_
  refine tGetR (j := 13) F hK hH (tyb ha0 (all1 rfl)) rfl (all1 rfl) clX2 (by decide) wd_3_10 dX2_copyOf_158 (fun q_39 hq_39 _ => ?_)
  refine tNv (host := RX6) (As := [.ref q_38, .ref q_39]) (rest := []) F hK hN hO (c_X6_copyRow_A14L E dA dB (riverD (.inl (a, a)) (.inl (b, b)) (.inl (0, 4)) 31 33 35 39 43 47) rB rc rd tp A14F A14F A4F A4F A14F A14F rC (riverD (.inl (a, a)) (.inl (b, b)) (.inl (0, 4)) 3 8 3 42 46 50) A12D A12D A12D A12D A12F A12F A12F A12F A48F A48F A48F A48F q_38 q_39 hq_38 hq_39) ms_X6_copyRow hN.1.2.2.2.2.2 ⟨Nat.le_of_ble_eq_true rfl, Nat.le_of_ble_eq_true rfl⟩ ⟨Nat.le_of_ble_eq_true rfl, Nat.le_of_ble_eq_true rfl⟩ hH hS rfl hl.1 (Nat.le_of_ble_eq_true rfl) dX2_copyOf_161 (fun H locs hq hS => ?_)
  have hH := hq
  have hH : TH E (tbC dA dB (riverD (.inl (a, a)) (.inl (b, b)) (.inl (0, 4)) 31 33 35 39 43 47) rB rc rd tp A14F A14F A4F A4F A14F A14F rC (riverD (.inl (a, a)) (.inl (b, b)) (.inl (0, 4)) 3 8 3 42 46 50) A12D A12D A12D A12D A12F A12F A12F A12F A48F A48F A48F A48F) H := hH
  refine lv_aload_n F.1 F.2.1 dX2_copyOf_164 rfl (lv_at hl 1 rfl) ?_
  refine tGetR (j := 15) F hK hH (tyb ha1 (all1 rfl)) rfl (all1 rfl) clX2 (by decide) wd_3_11 dX2_copyOf_165 (fun q_41 hq_41 _ => ?_)
  refine lv_aload_n F.1 F.2.1 dX2_copyOf_168 rfl (lv_at hl 0 rfl) ?_
  refine tGetR (j := 15) F hK hH (tyb ha0 (all1 rfl)) rfl (all1 rfl) clX2 (by decide) wd_3_11 dX2_copyOf_169 (fun q_42 hq_42 _ => ?_)
  refine tNv (host := RX6) (As := [.ref q_41, .ref q_42]) (rest := []) F hK hN hO (c_X6_copyRow_A4R E dA dB (riverD (.inl (a, a)) (.inl (b, b)) (.inl (0, 4)) 31 33 35 39 43 47) rB rc rd tp A14F A14F A4F A4F A14F A14F rC (riverD (.inl (a, a)) (.inl (b, b)) (.inl (0, 4)) 3 8 3 42 46 50) A12D A12D A12D A12D A12F A12F A12F A12F A48F A48F A48F A48F q_41 q_42 hq_41 hq_42) ms_X6_copyRow hN.1.2.2.2.2.2 ⟨Nat.le_of_ble_eq_true rfl, Nat.le_of_ble_eq_true rfl⟩ ⟨Nat.le_of_ble_eq_true rfl, Nat.le_of_ble_eq_true rfl⟩ hH hS rfl hl.1 (Nat.le_of_ble_eq_true rfl) dX2_copyOf_172 (fun H locs hq hS => ?_)
  have hH := hq
  have hH : TH E (tbC dA dB (riverD (.inl (a, a)) (.inl (b, b)) (.inl (0, 4)) 31 33 35 39 43 47) rB rc rd tp A14F A14F A4F A4F A14F A14F rC (riverD (.inl (a, a)) (.inl (b, b)) (.inl (0, 4)) 3 8 3 42 46 50) A12D A12D A12D A12D A12F A12F A12F A12F A48F A48F A48F A48F) H := hH
  refine lv_aload_n F.1 F.2.1 dX2_copyOf_175 rfl (lv_at hl 1 rfl) ?_
  refine tGetR (j := 16) F hK hH (tyb ha1 (all1 rfl)) rfl (all1 rfl) clX2 (by decide) wd_3_12 dX2_copyOf_176 (fun q_44 hq_44 _ => ?_)
  refine lv_aload_n F.1 F.2.1 dX2_copyOf_179 rfl (lv_at hl 0 rfl) ?_
  refine tGetR (j := 16) F hK hH (tyb ha0 (all1 rfl)) rfl (all1 rfl) clX2 (by decide) wd_3_12 dX2_copyOf_180 (fun q_45 hq_45 _ => ?_)
  refine tNv (host := RX6) (As := [.ref q_44, .ref q_45]) (rest := []) F hK hN hO (c_X6_copyRow_A4F E dA dB (riverD (.inl (a, a)) (.inl (b, b)) (.inl (0, 4)) 31 33 35 39 43 47) rB rc rd tp A14F A14F A4F A4F A14F A14F rC (riverD (.inl (a, a)) (.inl (b, b)) (.inl (0, 4)) 3 8 3 42 46 50) A12D A12D A12D A12D A12F A12F A12F A12F A48F A48F A48F A48F q_44 q_45 hq_44 hq_45) ms_X6_copyRow hN.1.2.2.2.2.2 ⟨Nat.le_of_ble_eq_true rfl, Nat.le_of_ble_eq_true rfl⟩ ⟨Nat.le_of_ble_eq_true rfl, Nat.le_of_ble_eq_true rfl⟩ hH hS rfl hl.1 (Nat.le_of_ble_eq_true rfl) dX2_copyOf_183 (fun H locs hq hS => ?_)
  have hH := hq
  have hH : TH E (tbC dA dB (riverD (.inl (a, a)) (.inl (b, b)) (.inl (0, 4)) 31 33 35 39 43 47) rB rc rd tp A14F A14F A4F A4F A14F A14F rC (riverD (.inl (a, a)) (.inl (b, b)) (.inl (0, 4)) 3 8 3 42 46 50) A12D A12D A12D A12D A12F A12F A12F A12F A48F A48F A48F A48F) H := hH
  refine lv_aload_n F.1 F.2.1 dX2_copyOf_186 rfl (lv_at hl 1 rfl) ?_
  refine tGetR (j := 17) F hK hH (tyb ha1 (all1 rfl)) rfl (all1 rfl) clX2 (by decide) wd_3_13 dX2_copyOf_187 (fun q_47 hq_47 _ => ?_)
  refine lv_aload_n F.1 F.2.1 dX2_copyOf_190 rfl (lv_at hl 0 rfl) ?_
  refine tGetR (j := 17) F hK hH (tyb ha0 (all1 rfl)) rfl (all1 rfl) clX2 (by decide) wd_3_13 dX2_copyOf_191 (fun q_48 hq_48 _ => ?_)
  refine tNv (host := RX6) (As := [.ref q_47, .ref q_48]) (rest := []) F hK hN hO (c_X6_copyRow_A4F E dA dB (riverD (.inl (a, a)) (.inl (b, b)) (.inl (0, 4)) 31 33 35 39 43 47) rB rc rd tp A14F A14F A4F A4F A14F A14F rC (riverD (.inl (a, a)) (.inl (b, b)) (.inl (0, 4)) 3 8 3 42 46 50) A12D A12D A12D A12D A12F A12F A12F A12F A48F A48F A48F A48F q_47 q_48 hq_47 hq_48) ms_X6_copyRow hN.1.2.2.2.2.2 ⟨Nat.le_of_ble_eq_true rfl, Nat.le_of_ble_eq_true rfl⟩ ⟨Nat.le_of_ble_eq_true rfl, Nat.le_of_ble_eq_true rfl⟩ hH hS rfl hl.1 (Nat.le_of_ble_eq_true rfl) dX2_copyOf_194 (fun H locs hq hS => ?_)
  have hH := hq
  have hH : TH E (tbC dA dB (riverD (.inl (a, a)) (.inl (b, b)) (.inl (0, 4)) 31 33 35 39 43 47) rB rc rd tp A14F A14F A4F A4F A14F A14F rC (riverD (.inl (a, a)) (.inl (b, b)) (.inl (0, 4)) 3 8 3 42 46 50) A12D A12D A12D A12D A12F A12F A12F A12F A48F A48F A48F A48F) H := hH
  refine lv_aload_n F.1 F.2.1 dX2_copyOf_197 rfl (lv_at hl 1 rfl) ?_
  refine tGetR (j := 18) F hK hH (tyb ha1 (all1 rfl)) rfl (all1 rfl) clX2 (by decide) wd_3_14 dX2_copyOf_198 (fun q_50 hq_50 _ => ?_)
  refine lv_aload_n F.1 F.2.1 dX2_copyOf_201 rfl (lv_at hl 0 rfl) ?_
  refine tGetR (j := 18) F hK hH (tyb ha0 (all1 rfl)) rfl (all1 rfl) clX2 (by decide) wd_3_14 dX2_copyOf_202 (fun q_51 hq_51 _ => ?_)
  refine tNv (host := RX6) (As := [.ref q_50, .ref q_51]) (rest := []) F hK hN hO (c_X6_copyRow_s E dA dB (riverD (.inl (a, a)) (.inl (b, b)) (.inl (0, 4)) 31 33 35 39 43 47) rB rc rd tp rC (riverD (.inl (a, a)) (.inl (b, b)) (.inl (0, 4)) 3 8 3 42 46 50) A12D A12D A12D A12D A12F A12F A12F A12F A48F A48F A48F A48F q_50 q_51 (by have h9_ := hq_50; simp at h9_ ⊢; omega) (by have h9_ := hq_51; simp at h9_ ⊢; omega)) ms_X6_copyRow hN.1.2.2.2.2.2 ⟨Nat.le_of_ble_eq_true rfl, Nat.le_of_ble_eq_true rfl⟩ ⟨Nat.le_of_ble_eq_true rfl, Nat.le_of_ble_eq_true rfl⟩ hH hS rfl hl.1 (Nat.le_of_ble_eq_true rfl) dX2_copyOf_205 (fun H locs hq hS => ?_)
  have hH := hq
  have hH : TH E (tbC dA dB (riverD (.inl (a, a)) (.inl (b, b)) (.inl (0, 4)) 31 33 35 39 43 47) rB rc rd tp A14F A14F A4F A4F A14F A14F rC (riverD (.inl (a, a)) (.inl (b, b)) (.inl (0, 4)) 3 8 3 42 46 50) A12D A12D A12D A12D A12F A12F A12F A12F A48F A48F A48F A48F) H := hH
  exact txV F hS dX2_copyOf_208 (hH)
set_option maxHeartbeats 4000000 in
set_option maxRecDepth 100000 in
theorem c_X2_copyOf_38_27 (E : Ev) (dA : TD) (dB : TD) (rA : TD) (rc : TD) (rd : TD) (tp : TD) (rC : TD) (Fa4 : Int × Int) (Fb4 : Int × Int) (a : Int) (b : Int) (a0 : Nat) (a1 : Nat) (ha0 : eT E a0 ∈ [38]) (ha1 : eT E a1 ∈ [27]) (ha : 0 ≤ a ∧ a ≤ 12) (hb : 0 ≤ b ∧ b ≤ 14) (hFa4 : 0 ≤ Fa4.1 ∧ Fa4.2 ≤ 12) (hFb4 : 0 ≤ Fb4.1 ∧ Fb4.2 ≤ 14) : TcV E yX2_copyOf cX2_copyOf 2 ({ frames := 2, cells := 0, slots := 0, locals := 61 }) [.ref a0, .ref a1] (fun H => TH E (tbC dA dB rA (riverD (.inl (a, a)) (.inl (b, b)) (.inl (0, 4)) 32 34 36 40 44 48) rc rd tp A14F A14F A4F A4F A14F A14F rC (riverD (.inl Fa4) (.inl Fb4) (.inl (0, 4)) 3 8 3 42 46 50) A12D A12D A12D A12D A12F A12F A12F A12F A48F A48F A48F A48F) H) (fun H => TH E (tbC dA dB rA (riverD (.inl (a, a)) (.inl (b, b)) (.inl (0, 4)) 32 34 36 40 44 48) rc rd tp A14F A14F A4F A4F A14F A14F rC (riverD (.inl (a, a)) (.inl (b, b)) (.inl (0, 4)) 3 8 3 42 46 50) A12D A12D A12D A12D A12F A12F A12F A12F A48F A48F A48F A48F) H) := by
  refine teV (by decide) (Nat.le_of_ble_eq_true rfl) ?_
  intro p_ ev_ s mi_ below_ meth cd_ ls F hK hN hO hH hS hl
  have hH : TH E (tbC dA dB rA (riverD (.inl (a, a)) (.inl (b, b)) (.inl (0, 4)) 32 34 36 40 44 48) rc rd tp A14F A14F A4F A4F A14F A14F rC (riverD (.inl Fa4) (.inl Fb4) (.inl (0, 4)) 3 8 3 42 46 50) A12D A12D A12D A12D A12F A12F A12F A12F A48F A48F A48F A48F) s.heap := hH
  have hl : lv_has ls 2 [(0, .ref a0), (1, .ref a1)] := hl
  refine lv_aload_n F.1 F.2.1 dX2_copyOf_0 rfl (lv_at hl 0 rfl) ?_
  refine lv_aload_n F.1 F.2.1 dX2_copyOf_1 rfl (lv_at hl 1 rfl) ?_
  refine tGetI (j := 0) F hK hH (tyb ha1 (all1 rfl)) rfl clX2 (by decide) wd_9_11 dX2_copyOf_2 (fun z_1 hz_1 => ?_)
  have ez_1 : 0 ≤ z_1.toInt ∧ z_1.toInt ≤ 12 := by omega
  refine tPutG (j := 0) (t := 38) (fd := (.inl (a, a))) F hK hH hS (List.mem_singleton.mp ha0) (by decide) rfl rfl (fdI (by omega)) (TB1 := (tbC dA dB rA (riverD (.inl (a, a)) (.inl (b, b)) (.inl (0, 4)) 32 34 36 40 44 48) rc rd tp A14F A14F A4F A4F A14F A14F rC (riverD (.inl (a, a)) (.inl Fb4) (.inl (0, 4)) 3 8 3 42 46 50) A12D A12D A12D A12D A12F A12F A12F A12F A48F A48F A48F A48F)) rfl clX2 (by decide) wd_9_11 rfl rfl rfl rfl dX2_copyOf_5 (fun H locs hH hS => ?_)
  refine lv_aload_n F.1 F.2.1 dX2_copyOf_8 rfl (lv_at hl 0 rfl) ?_
  refine lv_aload_n F.1 F.2.1 dX2_copyOf_9 rfl (lv_at hl 1 rfl) ?_
  refine tGetI (j := 4) F hK hH (tyb ha1 (all1 rfl)) rfl clX2 (by decide) wd_9_12 dX2_copyOf_10 (fun z_2 hz_2 => ?_)
  have ez_2 : 0 ≤ z_2.toInt ∧ z_2.toInt ≤ 14 := by omega
  refine tPutG (j := 4) (t := 38) (fd := (.inl (b, b))) F hK hH hS (List.mem_singleton.mp ha0) (by decide) rfl rfl (fdI (by omega)) (TB1 := (tbC dA dB rA (riverD (.inl (a, a)) (.inl (b, b)) (.inl (0, 4)) 32 34 36 40 44 48) rc rd tp A14F A14F A4F A4F A14F A14F rC (riverD (.inl (a, a)) (.inl (b, b)) (.inl (0, 4)) 3 8 3 42 46 50) A12D A12D A12D A12D A12F A12F A12F A12F A48F A48F A48F A48F)) rfl clX2 (by decide) wd_9_12 rfl rfl rfl rfl dX2_copyOf_13 (fun H locs hH hS => ?_)
  refine lv_aload_n F.1 F.2.1 dX2_copyOf_16 rfl (lv_at hl 0 rfl) ?_
  refine lv_aload_n F.1 F.2.1 dX2_copyOf_17 rfl (lv_at hl 1 rfl) ?_
  refine tGetI (j := 14) F hK hH (tyb ha1 (all1 rfl)) rfl clX2 (by decide) wd_9_13 dX2_copyOf_18 (fun z_3 hz_3 => ?_)
  refine tPut (j := 14) F hK hH hS (tyb ha0 (all1 rfl)) rfl (fdI hz_3) clX2 (by decide) wd_9_13 rfl rfl rfl rfl dX2_copyOf_21 (fun H locs hH hS => ?_)
  refine lv_aload_n F.1 F.2.1 dX2_copyOf_24 rfl (lv_at hl 0 rfl) ?_
  refine lv_aload_n F.1 F.2.1 dX2_copyOf_25 rfl (lv_at hl 1 rfl) ?_
  refine tGetI (j := 19) F hK hH (tyb ha1 (all1 rfl)) rfl clX2 (by decide) wd_3_15 dX2_copyOf_26 (fun z_4 hz_4 => ?_)
  refine tPut (j := 19) F hK hH hS (tyb ha0 (all1 rfl)) rfl (fdI hz_4) clX2 (by decide) wd_3_15 rfl rfl rfl rfl dX2_copyOf_29 (fun H locs hH hS => ?_)
  refine lv_aload_n F.1 F.2.1 dX2_copyOf_32 rfl (lv_at hl 1 rfl) ?_
  refine tGetR (j := 1) F hK hH (tyb ha1 (all1 rfl)) rfl (all1 rfl) clX2 (by decide) wd_2_23 dX2_copyOf_33 (fun q_5 hq_5 _ => ?_)
  refine lv_aload_n F.1 F.2.1 dX2_copyOf_36 rfl (lv_at hl 0 rfl) ?_
  refine tGetR (j := 1) F hK hH (tyb ha0 (all1 rfl)) rfl (all1 rfl) clX2 (by decide) wd_2_23 dX2_copyOf_37 (fun q_6 hq_6 _ => ?_)
  refine tNv (host := RX6) (As := [.ref q_5, .ref q_6]) (rest := []) F hK hN hO (c_X6_copyRow_pd E dA dB rA (riverD (.inl (a, a)) (.inl (b, b)) (.inl (0, 4)) 32 34 36 40 44 48) rc rd tp A14F A14F A4F A4F A14F A14F rC (riverD (.inl (a, a)) (.inl (b, b)) (.inl (0, 4)) 3 8 3 42 46 50) A12F A12F A12F A12F A48F A48F A48F A48F q_5 q_6 (by have h9_ := hq_5; simp at h9_ ⊢; omega) (by have h9_ := hq_6; simp at h9_ ⊢; omega)) ms_X6_copyRow hN.1.2.2.2.2.2 ⟨Nat.le_of_ble_eq_true rfl, Nat.le_of_ble_eq_true rfl⟩ ⟨Nat.le_of_ble_eq_true rfl, Nat.le_of_ble_eq_true rfl⟩ hH hS rfl hl.1 (Nat.le_of_ble_eq_true rfl) dX2_copyOf_40 (fun H locs hq hS => ?_)
  have hH := hq
  have hH : TH E (tbC dA dB rA (riverD (.inl (a, a)) (.inl (b, b)) (.inl (0, 4)) 32 34 36 40 44 48) rc rd tp A14F A14F A4F A4F A14F A14F rC (riverD (.inl (a, a)) (.inl (b, b)) (.inl (0, 4)) 3 8 3 42 46 50) A12D A12D A12D A12D A12F A12F A12F A12F A48F A48F A48F A48F) H := hH
  refine lv_aload_n F.1 F.2.1 dX2_copyOf_43 rfl (lv_at hl 1 rfl) ?_
  refine tGetR (j := 2) F hK hH (tyb ha1 (all1 rfl)) rfl (all1 rfl) clX2 (by decide) wd_3_0 dX2_copyOf_44 (fun q_8 hq_8 _ => ?_)
  refine lv_aload_n F.1 F.2.1 dX2_copyOf_47 rfl (lv_at hl 0 rfl) ?_
  refine tGetR (j := 2) F hK hH (tyb ha0 (all1 rfl)) rfl (all1 rfl) clX2 (by decide) wd_3_0 dX2_copyOf_48 (fun q_9 hq_9 _ => ?_)
  refine tNv (host := RX6) (As := [.ref q_8, .ref q_9]) (rest := []) F hK hN hO (c_X6_copyRow_ps E dA dB rA (riverD (.inl (a, a)) (.inl (b, b)) (.inl (0, 4)) 32 34 36 40 44 48) rc rd tp A14F A14F A4F A4F A14F A14F rC (riverD (.inl (a, a)) (.inl (b, b)) (.inl (0, 4)) 3 8 3 42 46 50) A12D A12D A12D A12D A48F A48F A48F A48F q_8 q_9 (by have h9_ := hq_8; simp at h9_ ⊢; omega) (by have h9_ := hq_9; simp at h9_ ⊢; omega)) ms_X6_copyRow hN.1.2.2.2.2.2 ⟨Nat.le_of_ble_eq_true rfl, Nat.le_of_ble_eq_true rfl⟩ ⟨Nat.le_of_ble_eq_true rfl, Nat.le_of_ble_eq_true rfl⟩ hH hS rfl hl.1 (Nat.le_of_ble_eq_true rfl) dX2_copyOf_51 (fun H locs hq hS => ?_)
  have hH := hq
  have hH : TH E (tbC dA dB rA (riverD (.inl (a, a)) (.inl (b, b)) (.inl (0, 4)) 32 34 36 40 44 48) rc rd tp A14F A14F A4F A4F A14F A14F rC (riverD (.inl (a, a)) (.inl (b, b)) (.inl (0, 4)) 3 8 3 42 46 50) A12D A12D A12D A12D A12F A12F A12F A12F A48F A48F A48F A48F) H := hH
  refine lv_aload_n F.1 F.2.1 dX2_copyOf_54 rfl (lv_at hl 1 rfl) ?_
  refine tGetR (j := 3) F hK hH (tyb ha1 (all1 rfl)) rfl (all1 rfl) clX2 (by decide) wd_3_1 dX2_copyOf_55 (fun q_11 hq_11 _ => ?_)
  refine lv_aload_n F.1 F.2.1 dX2_copyOf_58 rfl (lv_at hl 0 rfl) ?_
  refine tGetR (j := 3) F hK hH (tyb ha0 (all1 rfl)) rfl (all1 rfl) clX2 (by decide) wd_3_1 dX2_copyOf_59 (fun q_12 hq_12 _ => ?_)
  refine tNv (host := RX6) (As := [.ref q_11, .ref q_12]) (rest := []) F hK hN hO (c_X6_copyRow_pi E dA dB rA (riverD (.inl (a, a)) (.inl (b, b)) (.inl (0, 4)) 32 34 36 40 44 48) rc rd tp A14F A14F A4F A4F A14F A14F rC (riverD (.inl (a, a)) (.inl (b, b)) (.inl (0, 4)) 3 8 3 42 46 50) A12D A12D A12D A12D A12F A12F A12F A12F q_11 q_12 (by have h9_ := hq_11; simp at h9_ ⊢; omega) (by have h9_ := hq_12; simp at h9_ ⊢; omega)) ms_X6_copyRow hN.1.2.2.2.2.2 ⟨Nat.le_of_ble_eq_true rfl, Nat.le_of_ble_eq_true rfl⟩ ⟨Nat.le_of_ble_eq_true rfl, Nat.le_of_ble_eq_true rfl⟩ hH hS rfl hl.1 (Nat.le_of_ble_eq_true rfl) dX2_copyOf_62 (fun H locs hq hS => ?_)
  have hH := hq
  have hH : TH E (tbC dA dB rA (riverD (.inl (a, a)) (.inl (b, b)) (.inl (0, 4)) 32 34 36 40 44 48) rc rd tp A14F A14F A4F A4F A14F A14F rC (riverD (.inl (a, a)) (.inl (b, b)) (.inl (0, 4)) 3 8 3 42 46 50) A12D A12D A12D A12D A12F A12F A12F A12F A48F A48F A48F A48F) H := hH
  refine lv_aload_n F.1 F.2.1 dX2_copyOf_65 rfl (lv_at hl 1 rfl) ?_
  refine tGetR (j := 5) F hK hH (tyb ha1 (all1 rfl)) rfl (all1 rfl) clX2 (by decide) wd_3_2 dX2_copyOf_66 (fun q_14 hq_14 _ => ?_)
  refine lv_aload_n F.1 F.2.1 dX2_copyOf_69 rfl (lv_at hl 0 rfl) ?_
  refine tGetR (j := 5) F hK hH (tyb ha0 (all1 rfl)) rfl (all1 rfl) clX2 (by decide) wd_3_2 dX2_copyOf_70 (fun q_15 hq_15 _ => ?_)
  refine tNv (host := RX6) (As := [.ref q_14, .ref q_15]) (rest := []) F hK hN hO (c_X6_copyRow_A14R E dA dB rA (riverD (.inl (a, a)) (.inl (b, b)) (.inl (0, 4)) 32 34 36 40 44 48) rc rd tp A14F A14F A4F A4F A14F A14F rC (riverD (.inl (a, a)) (.inl (b, b)) (.inl (0, 4)) 3 8 3 42 46 50) A12D A12D A12D A12D A12F A12F A12F A12F A48F A48F A48F A48F q_14 q_15 hq_14 hq_15) ms_X6_copyRow hN.1.2.2.2.2.2 ⟨Nat.le_of_ble_eq_true rfl, Nat.le_of_ble_eq_true rfl⟩ ⟨Nat.le_of_ble_eq_true rfl, Nat.le_of_ble_eq_true rfl⟩ hH hS rfl hl.1 (Nat.le_of_ble_eq_true rfl) dX2_copyOf_73 (fun H locs hq hS => ?_)
  have hH := hq
  have hH : TH E (tbC dA dB rA (riverD (.inl (a, a)) (.inl (b, b)) (.inl (0, 4)) 32 34 36 40 44 48) rc rd tp A14F A14F A4F A4F A14F A14F rC (riverD (.inl (a, a)) (.inl (b, b)) (.inl (0, 4)) 3 8 3 42 46 50) A12D A12D A12D A12D A12F A12F A12F A12F A48F A48F A48F A48F) H := hH
  refine lv_aload_n F.1 F.2.1 dX2_copyOf_76 rfl (lv_at hl 1 rfl) ?_
  refine tGetR (j := 6) F hK hH (tyb ha1 (all1 rfl)) rfl (all1 rfl) clX2 (by decide) wd_3_3 dX2_copyOf_77 (fun q_17 hq_17 _ => ?_)
  refine lv_aload_n F.1 F.2.1 dX2_copyOf_80 rfl (lv_at hl 0 rfl) ?_
  refine tGetR (j := 6) F hK hH (tyb ha0 (all1 rfl)) rfl (all1 rfl) clX2 (by decide) wd_3_3 dX2_copyOf_81 (fun q_18 hq_18 _ => ?_)
  refine tNv (host := RX6) (As := [.ref q_17, .ref q_18]) (rest := []) F hK hN hO (c_X6_copyRow_A14F E dA dB rA (riverD (.inl (a, a)) (.inl (b, b)) (.inl (0, 4)) 32 34 36 40 44 48) rc rd tp A14F A14F A4F A4F A14F A14F rC (riverD (.inl (a, a)) (.inl (b, b)) (.inl (0, 4)) 3 8 3 42 46 50) A12D A12D A12D A12D A12F A12F A12F A12F A48F A48F A48F A48F q_17 q_18 hq_17 hq_18) ms_X6_copyRow hN.1.2.2.2.2.2 ⟨Nat.le_of_ble_eq_true rfl, Nat.le_of_ble_eq_true rfl⟩ ⟨Nat.le_of_ble_eq_true rfl, Nat.le_of_ble_eq_true rfl⟩ hH hS rfl hl.1 (Nat.le_of_ble_eq_true rfl) dX2_copyOf_84 (fun H locs hq hS => ?_)
  have hH := hq
  have hH : TH E (tbC dA dB rA (riverD (.inl (a, a)) (.inl (b, b)) (.inl (0, 4)) 32 34 36 40 44 48) rc rd tp A14F A14F A4F A4F A14F A14F rC (riverD (.inl (a, a)) (.inl (b, b)) (.inl (0, 4)) 3 8 3 42 46 50) A12D A12D A12D A12D A12F A12F A12F A12F A48F A48F A48F A48F) H := hH
  refine lv_aload_n F.1 F.2.1 dX2_copyOf_87 rfl (lv_at hl 1 rfl) ?_
  refine tGetR (j := 7) F hK hH (tyb ha1 (all1 rfl)) rfl (all1 rfl) clX2 (by decide) wd_3_4 dX2_copyOf_88 (fun q_20 hq_20 _ => ?_)
  refine lv_aload_n F.1 F.2.1 dX2_copyOf_91 rfl (lv_at hl 0 rfl) ?_
  refine tGetR (j := 7) F hK hH (tyb ha0 (all1 rfl)) rfl (all1 rfl) clX2 (by decide) wd_3_4 dX2_copyOf_92 (fun q_21 hq_21 _ => ?_)
  refine tNv (host := RX6) (As := [.ref q_20, .ref q_21]) (rest := []) F hK hN hO (c_X6_copyRow_f E dA dB rA (riverD (.inl (a, a)) (.inl (b, b)) (.inl (0, 4)) 32 34 36 40 44 48) rc rd tp rC (riverD (.inl (a, a)) (.inl (b, b)) (.inl (0, 4)) 3 8 3 42 46 50) A12D A12D A12D A12D A12F A12F A12F A12F A48F A48F A48F A48F q_20 q_21 (by have h9_ := hq_20; simp at h9_ ⊢; omega) (by have h9_ := hq_21; simp at h9_ ⊢; omega)) ms_X6_copyRow hN.1.2.2.2.2.2 ⟨Nat.le_of_ble_eq_true rfl, Nat.le_of_ble_eq_true rfl⟩ ⟨Nat.le_of_ble_eq_true rfl, Nat.le_of_ble_eq_true rfl⟩ hH hS rfl hl.1 (Nat.le_of_ble_eq_true rfl) dX2_copyOf_95 (fun H locs hq hS => ?_)
  have hH := hq
  have hH : TH E (tbC dA dB rA (riverD (.inl (a, a)) (.inl (b, b)) (.inl (0, 4)) 32 34 36 40 44 48) rc rd tp A14F A14F A4F A4F A14F A14F rC (riverD (.inl (a, a)) (.inl (b, b)) (.inl (0, 4)) 3 8 3 42 46 50) A12D A12D A12D A12D A12F A12F A12F A12F A48F A48F A48F A48F) H := hH
  refine lv_aload_n F.1 F.2.1 dX2_copyOf_98 rfl (lv_at hl 1 rfl) ?_
  refine tGetR (j := 8) F hK hH (tyb ha1 (all1 rfl)) rfl (all1 rfl) clX2 (by decide) wd_3_5 dX2_copyOf_99 (fun q_23 hq_23 _ => ?_)
  refine lv_aload_n F.1 F.2.1 dX2_copyOf_102 rfl (lv_at hl 0 rfl) ?_
  refine tGetR (j := 8) F hK hH (tyb ha0 (all1 rfl)) rfl (all1 rfl) clX2 (by decide) wd_3_5 dX2_copyOf_103 (fun q_24 hq_24 _ => ?_)
  refine tNv (host := RX6) (As := [.ref q_23, .ref q_24]) (rest := []) F hK hN hO (c_X6_copyRow_A14F E dA dB rA (riverD (.inl (a, a)) (.inl (b, b)) (.inl (0, 4)) 32 34 36 40 44 48) rc rd tp A14F A14F A4F A4F A14F A14F rC (riverD (.inl (a, a)) (.inl (b, b)) (.inl (0, 4)) 3 8 3 42 46 50) A12D A12D A12D A12D A12F A12F A12F A12F A48F A48F A48F A48F q_23 q_24 hq_23 hq_24) ms_X6_copyRow hN.1.2.2.2.2.2 ⟨Nat.le_of_ble_eq_true rfl, Nat.le_of_ble_eq_true rfl⟩ ⟨Nat.le_of_ble_eq_true rfl, Nat.le_of_ble_eq_true rfl⟩ hH hS rfl hl.1 (Nat.le_of_ble_eq_true rfl) dX2_copyOf_106 (fun H locs hq hS => ?_)
  have hH := hq
  have hH : TH E (tbC dA dB rA (riverD (.inl (a, a)) (.inl (b, b)) (.inl (0, 4)) 32 34 36 40 44 48) rc rd tp A14F A14F A4F A4F A14F A14F rC (riverD (.inl (a, a)) (.inl (b, b)) (.inl (0, 4)) 3 8 3 42 46 50) A12D A12D A12D A12D A12F A12F A12F A12F A48F A48F A48F A48F) H := hH
  refine lv_aload_n F.1 F.2.1 dX2_copyOf_109 rfl (lv_at hl 1 rfl) ?_
  refine tGetR (j := 9) F hK hH (tyb ha1 (all1 rfl)) rfl (all1 rfl) clX2 (by decide) wd_3_6 dX2_copyOf_110 (fun q_26 hq_26 _ => ?_)
  refine lv_aload_n F.1 F.2.1 dX2_copyOf_113 rfl (lv_at hl 0 rfl) ?_
  refine tGetR (j := 9) F hK hH (tyb ha0 (all1 rfl)) rfl (all1 rfl) clX2 (by decide) wd_3_6 dX2_copyOf_114 (fun q_27 hq_27 _ => ?_)
  refine tNv (host := RX6) (As := [.ref q_26, .ref q_27]) (rest := []) F hK hN hO (c_X6_copyRow_g E dA dB rA (riverD (.inl (a, a)) (.inl (b, b)) (.inl (0, 4)) 32 34 36 40 44 48) rc rd tp rC (riverD (.inl (a, a)) (.inl (b, b)) (.inl (0, 4)) 3 8 3 42 46 50) A12D A12D A12D A12D A12F A12F A12F A12F A48F A48F A48F A48F q_26 q_27 (by have h9_ := hq_26; simp at h9_ ⊢; omega) (by have h9_ := hq_27; simp at h9_ ⊢; omega)) ms_X6_copyRow hN.1.2.2.2.2.2 ⟨Nat.le_of_ble_eq_true rfl, Nat.le_of_ble_eq_true rfl⟩ ⟨Nat.le_of_ble_eq_true rfl, Nat.le_of_ble_eq_true rfl⟩ hH hS rfl hl.1 (Nat.le_of_ble_eq_true rfl) dX2_copyOf_117 (fun H locs hq hS => ?_)
  have hH := hq
  have hH : TH E (tbC dA dB rA (riverD (.inl (a, a)) (.inl (b, b)) (.inl (0, 4)) 32 34 36 40 44 48) rc rd tp A14F A14F A4F A4F A14F A14F rC (riverD (.inl (a, a)) (.inl (b, b)) (.inl (0, 4)) 3 8 3 42 46 50) A12D A12D A12D A12D A12F A12F A12F A12F A48F A48F A48F A48F) H := hH
  refine lv_aload_n F.1 F.2.1 dX2_copyOf_120 rfl (lv_at hl 1 rfl) ?_
  refine tGetR (j := 10) F hK hH (tyb ha1 (all1 rfl)) rfl (all1 rfl) clX2 (by decide) wd_3_7 dX2_copyOf_121 (fun q_29 hq_29 _ => ?_)
  refine lv_aload_n F.1 F.2.1 dX2_copyOf_124 rfl (lv_at hl 0 rfl) ?_
  refine tGetR (j := 10) F hK hH (tyb ha0 (all1 rfl)) rfl (all1 rfl) clX2 (by decide) wd_3_7 dX2_copyOf_125 (fun q_30 hq_30 _ => ?_)
  refine tNv (host := RX6) (As := [.ref q_29, .ref q_30]) (rest := []) F hK hN hO (c_X6_copyRow_A14F E dA dB rA (riverD (.inl (a, a)) (.inl (b, b)) (.inl (0, 4)) 32 34 36 40 44 48) rc rd tp A14F A14F A4F A4F A14F A14F rC (riverD (.inl (a, a)) (.inl (b, b)) (.inl (0, 4)) 3 8 3 42 46 50) A12D A12D A12D A12D A12F A12F A12F A12F A48F A48F A48F A48F q_29 q_30 hq_29 hq_30) ms_X6_copyRow hN.1.2.2.2.2.2 ⟨Nat.le_of_ble_eq_true rfl, Nat.le_of_ble_eq_true rfl⟩ ⟨Nat.le_of_ble_eq_true rfl, Nat.le_of_ble_eq_true rfl⟩ hH hS rfl hl.1 (Nat.le_of_ble_eq_true rfl) dX2_copyOf_128 (fun H locs hq hS => ?_)
  have hH := hq
  have hH : TH E (tbC dA dB rA (riverD (.inl (a, a)) (.inl (b, b)) (.inl (0, 4)) 32 34 36 40 44 48) rc rd tp A14F A14F A4F A4F A14F A14F rC (riverD (.inl (a, a)) (.inl (b, b)) (.inl (0, 4)) 3 8 3 42 46 50) A12D A12D A12D A12D A12F A12F A12F A12F A48F A48F A48F A48F) H := hH
  refine lv_aload_n F.1 F.2.1 dX2_copyOf_131 rfl (lv_at hl 1 rfl) ?_
  refine tGetR (j := 11) F hK hH (tyb ha1 (all1 rfl)) rfl (all1 rfl) clX2 (by decide) wd_3_8 dX2_copyOf_132 (fun q_32 hq_32 _ => ?_)
  refine lv_aload_n F.1 F.2.1 dX2_copyOf_135 rfl (lv_at hl 0 rfl) ?_
  refine tGetR (j := 11) F hK hH (tyb ha0 (all1 rfl)) rfl (all1 rfl) clX2 (by decide) wd_3_8 dX2_copyOf_136 (fun q_33 hq_33 _ => ?_)
  refine tNv (host := RX6) (As := [.ref q_32, .ref q_33]) (rest := []) F hK hN hO (c_X6_copyRow_A14B E dA dB rA (riverD (.inl (a, a)) (.inl (b, b)) (.inl (0, 4)) 32 34 36 40 44 48) rc rd tp A14F A14F A4F A4F A14F A14F rC (riverD (.inl (a, a)) (.inl (b, b)) (.inl (0, 4)) 3 8 3 42 46 50) A12D A12D A12D A12D A12F A12F A12F A12F A48F A48F A48F A48F q_32 q_33 hq_32 hq_33) ms_X6_copyRow hN.1.2.2.2.2.2 ⟨Nat.le_of_ble_eq_true rfl, Nat.le_of_ble_eq_true rfl⟩ ⟨Nat.le_of_ble_eq_true rfl, Nat.le_of_ble_eq_true rfl⟩ hH hS rfl hl.1 (Nat.le_of_ble_eq_true rfl) dX2_copyOf_139 (fun H locs hq hS => ?_)
  have hH := hq
  have hH : TH E (tbC dA dB rA (riverD (.inl (a, a)) (.inl (b, b)) (.inl (0, 4)) 32 34 36 40 44 48) rc rd tp A14F A14F A4F A4F A14F A14F rC (riverD (.inl (a, a)) (.inl (b, b)) (.inl (0, 4)) 3 8 3 42 46 50) A12D A12D A12D A12D A12F A12F A12F A12F A48F A48F A48F A48F) H := hH
  refine lv_aload_n F.1 F.2.1 dX2_copyOf_142 rfl (lv_at hl 1 rfl) ?_
  refine tGetR (j := 12) F hK hH (tyb ha1 (all1 rfl)) rfl (all1 rfl) clX2 (by decide) wd_3_9 dX2_copyOf_143 (fun q_35 hq_35 _ => ?_)
  refine lv_aload_n F.1 F.2.1 dX2_copyOf_146 rfl (lv_at hl 0 rfl) ?_
  refine tGetR (j := 12) F hK hH (tyb ha0 (all1 rfl)) rfl (all1 rfl) clX2 (by decide) wd_3_9 dX2_copyOf_147 (fun q_36 hq_36 _ => ?_)
  refine tNv (host := RX6) (As := [.ref q_35, .ref q_36]) (rest := []) F hK hN hO (c_X6_copyRow_A14F E dA dB rA (riverD (.inl (a, a)) (.inl (b, b)) (.inl (0, 4)) 32 34 36 40 44 48) rc rd tp A14F A14F A4F A4F A14F A14F rC (riverD (.inl (a, a)) (.inl (b, b)) (.inl (0, 4)) 3 8 3 42 46 50) A12D A12D A12D A12D A12F A12F A12F A12F A48F A48F A48F A48F q_35 q_36 hq_35 hq_36) ms_X6_copyRow hN.1.2.2.2.2.2 ⟨Nat.le_of_ble_eq_true rfl, Nat.le_of_ble_eq_true rfl⟩ ⟨Nat.le_of_ble_eq_true rfl, Nat.le_of_ble_eq_true rfl⟩ hH hS rfl hl.1 (Nat.le_of_ble_eq_true rfl) dX2_copyOf_150 (fun H locs hq hS => ?_)
  have hH := hq
  have hH : TH E (tbC dA dB rA (riverD (.inl (a, a)) (.inl (b, b)) (.inl (0, 4)) 32 34 36 40 44 48) rc rd tp A14F A14F A4F A4F A14F A14F rC (riverD (.inl (a, a)) (.inl (b, b)) (.inl (0, 4)) 3 8 3 42 46 50) A12D A12D A12D A12D A12F A12F A12F A12F A48F A48F A48F A48F) H := hH
  refine lv_aload_n F.1 F.2.1 dX2_copyOf_153 rfl (lv_at hl 1 rfl) ?_
  refine tGetR (j := 13) F hK hH (tyb ha1 (all1 rfl)) rfl (all1 rfl) clX2 (by decide) wd_3_10 dX2_copyOf_154 (fun q_38 hq_38 _ => ?_)
  refine lv_aload_n F.1 F.2.1 dX2_copyOf_157 rfl (lv_at hl 0 rfl) ?_
  refine tGetR (j := 13) F hK hH (tyb ha0 (all1 rfl)) rfl (all1 rfl) clX2 (by decide) wd_3_10 dX2_copyOf_158 (fun q_39 hq_39 _ => ?_)
  refine tNv (host := RX6) (As := [.ref q_38, .ref q_39]) (rest := []) F hK hN hO (c_X6_copyRow_A14L E dA dB rA (riverD (.inl (a, a)) (.inl (b, b)) (.inl (0, 4)) 32 34 36 40 44 48) rc rd tp A14F A14F A4F A4F A14F A14F rC (riverD (.inl (a, a)) (.inl (b, b)) (.inl (0, 4)) 3 8 3 42 46 50) A12D A12D A12D A12D A12F A12F A12F A12F A48F A48F A48F A48F q_38 q_39 hq_38 hq_39) ms_X6_copyRow hN.1.2.2.2.2.2 ⟨Nat.le_of_ble_eq_true rfl, Nat.le_of_ble_eq_true rfl⟩ ⟨Nat.le_of_ble_eq_true rfl, Nat.le_of_ble_eq_true rfl⟩ hH hS rfl hl.1 (Nat.le_of_ble_eq_true rfl) dX2_copyOf_161 (fun H locs hq hS => ?_)
  have hH := hq
  have hH : TH E (tbC dA dB rA (riverD (.inl (a, a)) (.inl (b, b)) (.inl (0, 4)) 32 34 36 40 44 48) rc rd tp A14F A14F A4F A4F A14F A14F rC (riverD (.inl (a, a)) (.inl (b, b)) (.inl (0, 4)) 3 8 3 42 46 50) A12D A12D A12D A12D A12F A12F A12F A12F A48F A48F A48F A48F) H := hH
  refine lv_aload_n F.1 F.2.1 dX2_copyOf_164 rfl (lv_at hl 1 rfl) ?_
  refine tGetR (j := 15) F hK hH (tyb ha1 (all1 rfl)) rfl (all1 rfl) clX2 (by decide) wd_3_11 dX2_copyOf_165 (fun q_41 hq_41 _ => ?_)
  refine lv_aload_n F.1 F.2.1 dX2_copyOf_168 rfl (lv_at hl 0 rfl) ?_
  refine tGetR (j := 15) F hK hH (tyb ha0 (all1 rfl)) rfl (all1 rfl) clX2 (by decide) wd_3_11 dX2_copyOf_169 (fun q_42 hq_42 _ => ?_)
  refine tNv (host := RX6) (As := [.ref q_41, .ref q_42]) (rest := []) F hK hN hO (c_X6_copyRow_A4R E dA dB rA (riverD (.inl (a, a)) (.inl (b, b)) (.inl (0, 4)) 32 34 36 40 44 48) rc rd tp A14F A14F A4F A4F A14F A14F rC (riverD (.inl (a, a)) (.inl (b, b)) (.inl (0, 4)) 3 8 3 42 46 50) A12D A12D A12D A12D A12F A12F A12F A12F A48F A48F A48F A48F q_41 q_42 hq_41 hq_42) ms_X6_copyRow hN.1.2.2.2.2.2 ⟨Nat.le_of_ble_eq_true rfl, Nat.le_of_ble_eq_true rfl⟩ ⟨Nat.le_of_ble_eq_true rfl, Nat.le_of_ble_eq_true rfl⟩ hH hS rfl hl.1 (Nat.le_of_ble_eq_true rfl) dX2_copyOf_172 (fun H locs hq hS => ?_)
  have hH := hq
  have hH : TH E (tbC dA dB rA (riverD (.inl (a, a)) (.inl (b, b)) (.inl (0, 4)) 32 34 36 40 44 48) rc rd tp A14F A14F A4F A4F A14F A14F rC (riverD (.inl (a, a)) (.inl (b, b)) (.inl (0, 4)) 3 8 3 42 46 50) A12D A12D A12D A12D A12F A12F A12F A12F A48F A48F A48F A48F) H := hH
  refine lv_aload_n F.1 F.2.1 dX2_copyOf_175 rfl (lv_at hl 1 rfl) ?_
  refine tGetR (j := 16) F hK hH (tyb ha1 (all1 rfl)) rfl (all1 rfl) clX2 (by decide) wd_3_12 dX2_copyOf_176 (fun q_44 hq_44 _ => ?_)
  refine lv_aload_n F.1 F.2.1 dX2_copyOf_179 rfl (lv_at hl 0 rfl) ?_
  refine tGetR (j := 16) F hK hH (tyb ha0 (all1 rfl)) rfl (all1 rfl) clX2 (by decide) wd_3_12 dX2_copyOf_180 (fun q_45 hq_45 _ => ?_)
  refine tNv (host := RX6) (As := [.ref q_44, .ref q_45]) (rest := []) F hK hN hO (c_X6_copyRow_A4F E dA dB rA (riverD (.inl (a, a)) (.inl (b, b)) (.inl (0, 4)) 32 34 36 40 44 48) rc rd tp A14F A14F A4F A4F A14F A14F rC (riverD (.inl (a, a)) (.inl (b, b)) (.inl (0, 4)) 3 8 3 42 46 50) A12D A12D A12D A12D A12F A12F A12F A12F A48F A48F A48F A48F q_44 q_45 hq_44 hq_45) ms_X6_copyRow hN.1.2.2.2.2.2 ⟨Nat.le_of_ble_eq_true rfl, Nat.le_of_ble_eq_true rfl⟩ ⟨Nat.le_of_ble_eq_true rfl, Nat.le_of_ble_eq_true rfl⟩ hH hS rfl hl.1 (Nat.le_of_ble_eq_true rfl) dX2_copyOf_183 (fun H locs hq hS => ?_)
  have hH := hq
  have hH : TH E (tbC dA dB rA (riverD (.inl (a, a)) (.inl (b, b)) (.inl (0, 4)) 32 34 36 40 44 48) rc rd tp A14F A14F A4F A4F A14F A14F rC (riverD (.inl (a, a)) (.inl (b, b)) (.inl (0, 4)) 3 8 3 42 46 50) A12D A12D A12D A12D A12F A12F A12F A12F A48F A48F A48F A48F) H := hH
  refine lv_aload_n F.1 F.2.1 dX2_copyOf_186 rfl (lv_at hl 1 rfl) ?_
  refine tGetR (j := 17) F hK hH (tyb ha1 (all1 rfl)) rfl (all1 rfl) clX2 (by decide) wd_3_13 dX2_copyOf_187 (fun q_47 hq_47 _ => ?_)
  refine lv_aload_n F.1 F.2.1 dX2_copyOf_190 rfl (lv_at hl 0 rfl) ?_
  refine tGetR (j := 17) F hK hH (tyb ha0 (all1 rfl)) rfl (all1 rfl) clX2 (by decide) wd_3_13 dX2_copyOf_191 (fun q_48 hq_48 _ => ?_)
  refine tNv (host := RX6) (As := [.ref q_47, .ref q_48]) (rest := []) F hK hN hO (c_X6_copyRow_A4F E dA dB rA (riverD (.inl (a, a)) (.inl (b, b)) (.inl (0, 4)) 32 34 36 40 44 48) rc rd tp A14F A14F A4F A4F A14F A14F rC (riverD (.inl (a, a)) (.inl (b, b)) (.inl (0, 4)) 3 8 3 42 46 50) A12D A12D A12D A12D A12F A12F A12F A12F A48F A48F A48F A48F q_47 q_48 hq_47 hq_48) ms_X6_copyRow hN.1.2.2.2.2.2 ⟨Nat.le_of_ble_eq_true rfl, Nat.le_of_ble_eq_true rfl⟩ ⟨Nat.le_of_ble_eq_true rfl, Nat.le_of_ble_eq_true rfl⟩ hH hS rfl hl.1 (Nat.le_of_ble_eq_true rfl) dX2_copyOf_194 (fun H locs hq hS => ?_)
  have hH := hq
  have hH : TH E (tbC dA dB rA (riverD (.inl (a, a)) (.inl (b, b)) (.inl (0, 4)) 32 34 36 40 44 48) rc rd tp A14F A14F A4F A4F A14F A14F rC (riverD (.inl (a, a)) (.inl (b, b)) (.inl (0, 4)) 3 8 3 42 46 50) A12D A12D A12D A12D A12F A12F A12F A12F A48F A48F A48F A48F) H := hH
  refine lv_aload_n F.1 F.2.1 dX2_copyOf_197 rfl (lv_at hl 1 rfl) ?_
  refine tGetR (j := 18) F hK hH (tyb ha1 (all1 rfl)) rfl (all1 rfl) clX2 (by decide) wd_3_14 dX2_copyOf_198 (fun q_50 hq_50 _ => ?_)
  refine lv_aload_n F.1 F.2.1 dX2_copyOf_201 rfl (lv_at hl 0 rfl) ?_
  refine tGetR (j := 18) F hK hH (tyb ha0 (all1 rfl)) rfl (all1 rfl) clX2 (by decide) wd_3_14 dX2_copyOf_202 (fun q_51 hq_51 _ => ?_)
  refine tNv (host := RX6) (As := [.ref q_50, .ref q_51]) (rest := []) F hK hN hO (c_X6_copyRow_s E dA dB rA (riverD (.inl (a, a)) (.inl (b, b)) (.inl (0, 4)) 32 34 36 40 44 48) rc rd tp rC (riverD (.inl (a, a)) (.inl (b, b)) (.inl (0, 4)) 3 8 3 42 46 50) A12D A12D A12D A12D A12F A12F A12F A12F A48F A48F A48F A48F q_50 q_51 (by have h9_ := hq_50; simp at h9_ ⊢; omega) (by have h9_ := hq_51; simp at h9_ ⊢; omega)) ms_X6_copyRow hN.1.2.2.2.2.2 ⟨Nat.le_of_ble_eq_true rfl, Nat.le_of_ble_eq_true rfl⟩ ⟨Nat.le_of_ble_eq_true rfl, Nat.le_of_ble_eq_true rfl⟩ hH hS rfl hl.1 (Nat.le_of_ble_eq_true rfl) dX2_copyOf_205 (fun H locs hq hS => ?_)
  have hH := hq
  have hH : TH E (tbC dA dB rA (riverD (.inl (a, a)) (.inl (b, b)) (.inl (0, 4)) 32 34 36 40 44 48) rc rd tp A14F A14F A4F A4F A14F A14F rC (riverD (.inl (a, a)) (.inl (b, b)) (.inl (0, 4)) 3 8 3 42 46 50) A12D A12D A12D A12D A12F A12F A12F A12F A48F A48F A48F A48F) H := hH
  exact txV F hS dX2_copyOf_208 (hH)
set_option maxHeartbeats 4000000 in
set_option maxRecDepth 100000 in
theorem c_X2_copyOf_26_37 (E : Ev) (dA : TD) (dB : TD) (rB : TD) (rc : TD) (rd : TD) (tp : TD) (rD : TD) (Fa1 : Int × Int) (Fb1 : Int × Int) (a : Int) (b : Int) (a0 : Nat) (a1 : Nat) (ha0 : eT E a0 ∈ [26]) (ha1 : eT E a1 ∈ [37]) (ha : 0 ≤ a ∧ a ≤ 12) (hb : 0 ≤ b ∧ b ≤ 14) (hFa1 : 0 ≤ Fa1.1 ∧ Fa1.2 ≤ 12) (hFb1 : 0 ≤ Fb1.1 ∧ Fb1.2 ≤ 14) : TcV E yX2_copyOf cX2_copyOf 2 ({ frames := 2, cells := 0, slots := 0, locals := 61 }) [.ref a0, .ref a1] (fun H => TH E (tbC dA dB (riverD (.inl Fa1) (.inl Fb1) (.inl (0, 4)) 31 33 35 39 43 47) rB rc rd tp A14F A14F A4F A4F A14F A14F (riverD (.inl (a, a)) (.inl (b, b)) (.inl (0, 4)) 3 8 3 41 45 49) rD A12D A12D A12D A12D A12F A12F A12F A12F A48F A48F A48F A48F) H) (fun H => TH E (tbC dA dB (riverD (.inl (a, a)) (.inl (b, b)) (.inl (0, 4)) 31 33 35 39 43 47) rB rc rd tp A14F A14F A4F A4F A14F A14F (riverD (.inl (a, a)) (.inl (b, b)) (.inl (0, 4)) 3 8 3 41 45 49) rD A12D A12D A12D A12D A12F A12F A12F A12F A48F A48F A48F A48F) H) := by
  refine teV (by decide) (Nat.le_of_ble_eq_true rfl) ?_
  intro p_ ev_ s mi_ below_ meth cd_ ls F hK hN hO hH hS hl
  have hH : TH E (tbC dA dB (riverD (.inl Fa1) (.inl Fb1) (.inl (0, 4)) 31 33 35 39 43 47) rB rc rd tp A14F A14F A4F A4F A14F A14F (riverD (.inl (a, a)) (.inl (b, b)) (.inl (0, 4)) 3 8 3 41 45 49) rD A12D A12D A12D A12D A12F A12F A12F A12F A48F A48F A48F A48F) s.heap := hH
  have hl : lv_has ls 2 [(0, .ref a0), (1, .ref a1)] := hl
  refine lv_aload_n F.1 F.2.1 dX2_copyOf_0 rfl (lv_at hl 0 rfl) ?_
  refine lv_aload_n F.1 F.2.1 dX2_copyOf_1 rfl (lv_at hl 1 rfl) ?_
  refine tGetI (j := 0) F hK hH (tyb ha1 (all1 rfl)) rfl clX2 (by decide) wd_9_11 dX2_copyOf_2 (fun z_1 hz_1 => ?_)
  have ez_1 : 0 ≤ z_1.toInt ∧ z_1.toInt ≤ 12 := by omega
  refine tPutG (j := 0) (t := 26) (fd := (.inl (a, a))) F hK hH hS (List.mem_singleton.mp ha0) (by decide) rfl rfl (fdI (by omega)) (TB1 := (tbC dA dB (riverD (.inl (a, a)) (.inl Fb1) (.inl (0, 4)) 31 33 35 39 43 47) rB rc rd tp A14F A14F A4F A4F A14F A14F (riverD (.inl (a, a)) (.inl (b, b)) (.inl (0, 4)) 3 8 3 41 45 49) rD A12D A12D A12D A12D A12F A12F A12F A12F A48F A48F A48F A48F)) rfl clX2 (by decide) wd_9_11 rfl rfl rfl rfl dX2_copyOf_5 (fun H locs hH hS => ?_)
  refine lv_aload_n F.1 F.2.1 dX2_copyOf_8 rfl (lv_at hl 0 rfl) ?_
  refine lv_aload_n F.1 F.2.1 dX2_copyOf_9 rfl (lv_at hl 1 rfl) ?_
  refine tGetI (j := 4) F hK hH (tyb ha1 (all1 rfl)) rfl clX2 (by decide) wd_9_12 dX2_copyOf_10 (fun z_2 hz_2 => ?_)
  have ez_2 : 0 ≤ z_2.toInt ∧ z_2.toInt ≤ 14 := by omega
  refine tPutG (j := 4) (t := 26) (fd := (.inl (b, b))) F hK hH hS (List.mem_singleton.mp ha0) (by decide) rfl rfl (fdI (by omega)) (TB1 := (tbC dA dB (riverD (.inl (a, a)) (.inl (b, b)) (.inl (0, 4)) 31 33 35 39 43 47) rB rc rd tp A14F A14F A4F A4F A14F A14F (riverD (.inl (a, a)) (.inl (b, b)) (.inl (0, 4)) 3 8 3 41 45 49) rD A12D A12D A12D A12D A12F A12F A12F A12F A48F A48F A48F A48F)) rfl clX2 (by decide) wd_9_12 rfl rfl rfl rfl dX2_copyOf_13 (fun H locs hH hS => ?_)
  refine lv_aload_n F.1 F.2.1 dX2_copyOf_16 rfl (lv_at hl 0 rfl) ?_
  refine lv_aload_n F.1 F.2.1 dX2_copyOf_17 rfl (lv_at hl 1 rfl) ?_
  refine tGetI (j := 14) F hK hH (tyb ha1 (all1 rfl)) rfl clX2 (by decide) wd_9_13 dX2_copyOf_18 (fun z_3 hz_3 => ?_)
  refine tPut (j := 14) F hK hH hS (tyb ha0 (all1 rfl)) rfl (fdI hz_3) clX2 (by decide) wd_9_13 rfl rfl rfl rfl dX2_copyOf_21 (fun H locs hH hS => ?_)
  refine lv_aload_n F.1 F.2.1 dX2_copyOf_24 rfl (lv_at hl 0 rfl) ?_
  refine lv_aload_n F.1 F.2.1 dX2_copyOf_25 rfl (lv_at hl 1 rfl) ?_
  refine tGetI (j := 19) F hK hH (tyb ha1 (all1 rfl)) rfl clX2 (by decide) wd_3_15 dX2_copyOf_26 (fun z_4 hz_4 => ?_)
  refine tPut (j := 19) F hK hH hS (tyb ha0 (all1 rfl)) rfl (fdI hz_4) clX2 (by decide) wd_3_15 rfl rfl rfl rfl dX2_copyOf_29 (fun H locs hH hS => ?_)
  refine lv_aload_n F.1 F.2.1 dX2_copyOf_32 rfl (lv_at hl 1 rfl) ?_
  refine tGetR (j := 1) F hK hH (tyb ha1 (all1 rfl)) rfl (all1 rfl) clX2 (by decide) wd_2_23 dX2_copyOf_33 (fun q_5 hq_5 _ => ?_)
  refine lv_aload_n F.1 F.2.1 dX2_copyOf_36 rfl (lv_at hl 0 rfl) ?_
  refine tGetR (j := 1) F hK hH (tyb ha0 (all1 rfl)) rfl (all1 rfl) clX2 (by decide) wd_2_23 dX2_copyOf_37 (fun q_6 hq_6 _ => ?_)
  refine tNv (host := RX6) (As := [.ref q_5, .ref q_6]) (rest := []) F hK hN hO (c_X6_copyRow_pd E dA dB (riverD (.inl (a, a)) (.inl (b, b)) (.inl (0, 4)) 31 33 35 39 43 47) rB rc rd tp A14F A14F A4F A4F A14F A14F (riverD (.inl (a, a)) (.inl (b, b)) (.inl (0, 4)) 3 8 3 41 45 49) rD A12F A12F A12F A12F A48F A48F A48F A48F q_5 q_6 (by have h9_ := hq_5; simp at h9_ ⊢; omega) (by have h9_ := hq_6; simp at h9_ ⊢; omega)) ms_X6_copyRow hN.1.2.2.2.2.2 ⟨Nat.le_of_ble_eq_true rfl, Nat.le_of_ble_eq_true rfl⟩ ⟨Nat.le_of_ble_eq_true rfl, Nat.le_of_ble_eq_true rfl⟩ hH hS rfl hl.1 (Nat.le_of_ble_eq_true rfl) dX2_copyOf_40 (fun H locs hq hS => ?_)
  have hH := hq
  have hH : TH E (tbC dA dB (riverD (.inl (a, a)) (.inl (b, b)) (.inl (0, 4)) 31 33 35 39 43 47) rB rc rd tp A14F A14F A4F A4F A14F A14F (riverD (.inl (a, a)) (.inl (b, b)) (.inl (0, 4)) 3 8 3 41 45 49) rD A12D A12D A12D A12D A12F A12F A12F A12F A48F A48F A48F A48F) H := hH
  refine lv_aload_n F.1 F.2.1 dX2_copyOf_43 rfl (lv_at hl 1 rfl) ?_
  refine tGetR (j := 2) F hK hH (tyb ha1 (all1 rfl)) rfl (all1 rfl) clX2 (by decide) wd_3_0 dX2_copyOf_44 (fun q_8 hq_8 _ => ?_)
  refine lv_aload_n F.1 F.2.1 dX2_copyOf_47 rfl (lv_at hl 0 rfl) ?_
  refine tGetR (j := 2) F hK hH (tyb ha0 (all1 rfl)) rfl (all1 rfl) clX2 (by decide) wd_3_0 dX2_copyOf_48 (fun q_9 hq_9 _ => ?_)
  refine tNv (host := RX6) (As := [.ref q_8, .ref q_9]) (rest := []) F hK hN hO (c_X6_copyRow_ps E dA dB (riverD (.inl (a, a)) (.inl (b, b)) (.inl (0, 4)) 31 33 35 39 43 47) rB rc rd tp A14F A14F A4F A4F A14F A14F (riverD (.inl (a, a)) (.inl (b, b)) (.inl (0, 4)) 3 8 3 41 45 49) rD A12D A12D A12D A12D A48F A48F A48F A48F q_8 q_9 (by have h9_ := hq_8; simp at h9_ ⊢; omega) (by have h9_ := hq_9; simp at h9_ ⊢; omega)) ms_X6_copyRow hN.1.2.2.2.2.2 ⟨Nat.le_of_ble_eq_true rfl, Nat.le_of_ble_eq_true rfl⟩ ⟨Nat.le_of_ble_eq_true rfl, Nat.le_of_ble_eq_true rfl⟩ hH hS rfl hl.1 (Nat.le_of_ble_eq_true rfl) dX2_copyOf_51 (fun H locs hq hS => ?_)
  have hH := hq
  have hH : TH E (tbC dA dB (riverD (.inl (a, a)) (.inl (b, b)) (.inl (0, 4)) 31 33 35 39 43 47) rB rc rd tp A14F A14F A4F A4F A14F A14F (riverD (.inl (a, a)) (.inl (b, b)) (.inl (0, 4)) 3 8 3 41 45 49) rD A12D A12D A12D A12D A12F A12F A12F A12F A48F A48F A48F A48F) H := hH
  refine lv_aload_n F.1 F.2.1 dX2_copyOf_54 rfl (lv_at hl 1 rfl) ?_
  refine tGetR (j := 3) F hK hH (tyb ha1 (all1 rfl)) rfl (all1 rfl) clX2 (by decide) wd_3_1 dX2_copyOf_55 (fun q_11 hq_11 _ => ?_)
  refine lv_aload_n F.1 F.2.1 dX2_copyOf_58 rfl (lv_at hl 0 rfl) ?_
  refine tGetR (j := 3) F hK hH (tyb ha0 (all1 rfl)) rfl (all1 rfl) clX2 (by decide) wd_3_1 dX2_copyOf_59 (fun q_12 hq_12 _ => ?_)
  refine tNv (host := RX6) (As := [.ref q_11, .ref q_12]) (rest := []) F hK hN hO (c_X6_copyRow_pi E dA dB (riverD (.inl (a, a)) (.inl (b, b)) (.inl (0, 4)) 31 33 35 39 43 47) rB rc rd tp A14F A14F A4F A4F A14F A14F (riverD (.inl (a, a)) (.inl (b, b)) (.inl (0, 4)) 3 8 3 41 45 49) rD A12D A12D A12D A12D A12F A12F A12F A12F q_11 q_12 (by have h9_ := hq_11; simp at h9_ ⊢; omega) (by have h9_ := hq_12; simp at h9_ ⊢; omega)) ms_X6_copyRow hN.1.2.2.2.2.2 ⟨Nat.le_of_ble_eq_true rfl, Nat.le_of_ble_eq_true rfl⟩ ⟨Nat.le_of_ble_eq_true rfl, Nat.le_of_ble_eq_true rfl⟩ hH hS rfl hl.1 (Nat.le_of_ble_eq_true rfl) dX2_copyOf_62 (fun H locs hq hS => ?_)
  have hH := hq
  have hH : TH E (tbC dA dB (riverD (.inl (a, a)) (.inl (b, b)) (.inl (0, 4)) 31 33 35 39 43 47) rB rc rd tp A14F A14F A4F A4F A14F A14F (riverD (.inl (a, a)) (.inl (b, b)) (.inl (0, 4)) 3 8 3 41 45 49) rD A12D A12D A12D A12D A12F A12F A12F A12F A48F A48F A48F A48F) H := hH
  refine lv_aload_n F.1 F.2.1 dX2_copyOf_65 rfl (lv_at hl 1 rfl) ?_
  refine tGetR (j := 5) F hK hH (tyb ha1 (all1 rfl)) rfl (all1 rfl) clX2 (by decide) wd_3_2 dX2_copyOf_66 (fun q_14 hq_14 _ => ?_)
  refine lv_aload_n F.1 F.2.1 dX2_copyOf_69 rfl (lv_at hl 0 rfl) ?_
  refine tGetR (j := 5) F hK hH (tyb ha0 (all1 rfl)) rfl (all1 rfl) clX2 (by decide) wd_3_2 dX2_copyOf_70 (fun q_15 hq_15 _ => ?_)
  refine tNv (host := RX6) (As := [.ref q_14, .ref q_15]) (rest := []) F hK hN hO (c_X6_copyRow_A14R E dA dB (riverD (.inl (a, a)) (.inl (b, b)) (.inl (0, 4)) 31 33 35 39 43 47) rB rc rd tp A14F A14F A4F A4F A14F A14F (riverD (.inl (a, a)) (.inl (b, b)) (.inl (0, 4)) 3 8 3 41 45 49) rD A12D A12D A12D A12D A12F A12F A12F A12F A48F A48F A48F A48F q_14 q_15 hq_14 hq_15) ms_X6_copyRow hN.1.2.2.2.2.2 ⟨Nat.le_of_ble_eq_true rfl, Nat.le_of_ble_eq_true rfl⟩ ⟨Nat.le_of_ble_eq_true rfl, Nat.le_of_ble_eq_true rfl⟩ hH hS rfl hl.1 (Nat.le_of_ble_eq_true rfl) dX2_copyOf_73 (fun H locs hq hS => ?_)
  have hH := hq
  have hH : TH E (tbC dA dB (riverD (.inl (a, a)) (.inl (b, b)) (.inl (0, 4)) 31 33 35 39 43 47) rB rc rd tp A14F A14F A4F A4F A14F A14F (riverD (.inl (a, a)) (.inl (b, b)) (.inl (0, 4)) 3 8 3 41 45 49) rD A12D A12D A12D A12D A12F A12F A12F A12F A48F A48F A48F A48F) H := hH
  refine lv_aload_n F.1 F.2.1 dX2_copyOf_76 rfl (lv_at hl 1 rfl) ?_
  refine tGetR (j := 6) F hK hH (tyb ha1 (all1 rfl)) rfl (all1 rfl) clX2 (by decide) wd_3_3 dX2_copyOf_77 (fun q_17 hq_17 _ => ?_)
  refine lv_aload_n F.1 F.2.1 dX2_copyOf_80 rfl (lv_at hl 0 rfl) ?_
  refine tGetR (j := 6) F hK hH (tyb ha0 (all1 rfl)) rfl (all1 rfl) clX2 (by decide) wd_3_3 dX2_copyOf_81 (fun q_18 hq_18 _ => ?_)
  refine tNv (host := RX6) (As := [.ref q_17, .ref q_18]) (rest := []) F hK hN hO (c_X6_copyRow_A14F E dA dB (riverD (.inl (a, a)) (.inl (b, b)) (.inl (0, 4)) 31 33 35 39 43 47) rB rc rd tp A14F A14F A4F A4F A14F A14F (riverD (.inl (a, a)) (.inl (b, b)) (.inl (0, 4)) 3 8 3 41 45 49) rD A12D A12D A12D A12D A12F A12F A12F A12F A48F A48F A48F A48F q_17 q_18 hq_17 hq_18) ms_X6_copyRow hN.1.2.2.2.2.2 ⟨Nat.le_of_ble_eq_true rfl, Nat.le_of_ble_eq_true rfl⟩ ⟨Nat.le_of_ble_eq_true rfl, Nat.le_of_ble_eq_true rfl⟩ hH hS rfl hl.1 (Nat.le_of_ble_eq_true rfl) dX2_copyOf_84 (fun H locs hq hS => ?_)
  have hH := hq
  have hH : TH E (tbC dA dB (riverD (.inl (a, a)) (.inl (b, b)) (.inl (0, 4)) 31 33 35 39 43 47) rB rc rd tp A14F A14F A4F A4F A14F A14F (riverD (.inl (a, a)) (.inl (b, b)) (.inl (0, 4)) 3 8 3 41 45 49) rD A12D A12D A12D A12D A12F A12F A12F A12F A48F A48F A48F A48F) H := hH
  refine lv_aload_n F.1 F.2.1 dX2_copyOf_87 rfl (lv_at hl 1 rfl) ?_
  refine tGetR (j := 7) F hK hH (tyb ha1 (all1 rfl)) rfl (all1 rfl) clX2 (by decide) wd_3_4 dX2_copyOf_88 (fun q_20 hq_20 _ => ?_)
  refine lv_aload_n F.1 F.2.1 dX2_copyOf_91 rfl (lv_at hl 0 rfl) ?_
  refine tGetR (j := 7) F hK hH (tyb ha0 (all1 rfl)) rfl (all1 rfl) clX2 (by decide) wd_3_4 dX2_copyOf_92 (fun q_21 hq_21 _ => ?_)
  refine tNv (host := RX6) (As := [.ref q_20, .ref q_21]) (rest := []) F hK hN hO (c_X6_copyRow_f E dA dB (riverD (.inl (a, a)) (.inl (b, b)) (.inl (0, 4)) 31 33 35 39 43 47) rB rc rd tp (riverD (.inl (a, a)) (.inl (b, b)) (.inl (0, 4)) 3 8 3 41 45 49) rD A12D A12D A12D A12D A12F A12F A12F A12F A48F A48F A48F A48F q_20 q_21 (by have h9_ := hq_20; simp at h9_ ⊢; omega) (by have h9_ := hq_21; simp at h9_ ⊢; omega)) ms_X6_copyRow hN.1.2.2.2.2.2 ⟨Nat.le_of_ble_eq_true rfl, Nat.le_of_ble_eq_true rfl⟩ ⟨Nat.le_of_ble_eq_true rfl, Nat.le_of_ble_eq_true rfl⟩ hH hS rfl hl.1 (Nat.le_of_ble_eq_true rfl) dX2_copyOf_95 (fun H locs hq hS => ?_)
  have hH := hq
  have hH : TH E (tbC dA dB (riverD (.inl (a, a)) (.inl (b, b)) (.inl (0, 4)) 31 33 35 39 43 47) rB rc rd tp A14F A14F A4F A4F A14F A14F (riverD (.inl (a, a)) (.inl (b, b)) (.inl (0, 4)) 3 8 3 41 45 49) rD A12D A12D A12D A12D A12F A12F A12F A12F A48F A48F A48F A48F) H := hH
  refine lv_aload_n F.1 F.2.1 dX2_copyOf_98 rfl (lv_at hl 1 rfl) ?_
  refine tGetR (j := 8) F hK hH (tyb ha1 (all1 rfl)) rfl (all1 rfl) clX2 (by decide) wd_3_5 dX2_copyOf_99 (fun q_23 hq_23 _ => ?_)
  refine lv_aload_n F.1 F.2.1 dX2_copyOf_102 rfl (lv_at hl 0 rfl) ?_
  refine tGetR (j := 8) F hK hH (tyb ha0 (all1 rfl)) rfl (all1 rfl) clX2 (by decide) wd_3_5 dX2_copyOf_103 (fun q_24 hq_24 _ => ?_)
  refine tNv (host := RX6) (As := [.ref q_23, .ref q_24]) (rest := []) F hK hN hO (c_X6_copyRow_A14F E dA dB (riverD (.inl (a, a)) (.inl (b, b)) (.inl (0, 4)) 31 33 35 39 43 47) rB rc rd tp A14F A14F A4F A4F A14F A14F (riverD (.inl (a, a)) (.inl (b, b)) (.inl (0, 4)) 3 8 3 41 45 49) rD A12D A12D A12D A12D A12F A12F A12F A12F A48F A48F A48F A48F q_23 q_24 hq_23 hq_24) ms_X6_copyRow hN.1.2.2.2.2.2 ⟨Nat.le_of_ble_eq_true rfl, Nat.le_of_ble_eq_true rfl⟩ ⟨Nat.le_of_ble_eq_true rfl, Nat.le_of_ble_eq_true rfl⟩ hH hS rfl hl.1 (Nat.le_of_ble_eq_true rfl) dX2_copyOf_106 (fun H locs hq hS => ?_)
  have hH := hq
  have hH : TH E (tbC dA dB (riverD (.inl (a, a)) (.inl (b, b)) (.inl (0, 4)) 31 33 35 39 43 47) rB rc rd tp A14F A14F A4F A4F A14F A14F (riverD (.inl (a, a)) (.inl (b, b)) (.inl (0, 4)) 3 8 3 41 45 49) rD A12D A12D A12D A12D A12F A12F A12F A12F A48F A48F A48F A48F) H := hH
  refine lv_aload_n F.1 F.2.1 dX2_copyOf_109 rfl (lv_at hl 1 rfl) ?_
  refine tGetR (j := 9) F hK hH (tyb ha1 (all1 rfl)) rfl (all1 rfl) clX2 (by decide) wd_3_6 dX2_copyOf_110 (fun q_26 hq_26 _ => ?_)
  refine lv_aload_n F.1 F.2.1 dX2_copyOf_113 rfl (lv_at hl 0 rfl) ?_
  refine tGetR (j := 9) F hK hH (tyb ha0 (all1 rfl)) rfl (all1 rfl) clX2 (by decide) wd_3_6 dX2_copyOf_114 (fun q_27 hq_27 _ => ?_)
  refine tNv (host := RX6) (As := [.ref q_26, .ref q_27]) (rest := []) F hK hN hO (c_X6_copyRow_g E dA dB (riverD (.inl (a, a)) (.inl (b, b)) (.inl (0, 4)) 31 33 35 39 43 47) rB rc rd tp (riverD (.inl (a, a)) (.inl (b, b)) (.inl (0, 4)) 3 8 3 41 45 49) rD A12D A12D A12D A12D A12F A12F A12F A12F A48F A48F A48F A48F q_26 q_27 (by have h9_ := hq_26; simp at h9_ ⊢; omega) (by have h9_ := hq_27; simp at h9_ ⊢; omega)) ms_X6_copyRow hN.1.2.2.2.2.2 ⟨Nat.le_of_ble_eq_true rfl, Nat.le_of_ble_eq_true rfl⟩ ⟨Nat.le_of_ble_eq_true rfl, Nat.le_of_ble_eq_true rfl⟩ hH hS rfl hl.1 (Nat.le_of_ble_eq_true rfl) dX2_copyOf_117 (fun H locs hq hS => ?_)
  have hH := hq
  have hH : TH E (tbC dA dB (riverD (.inl (a, a)) (.inl (b, b)) (.inl (0, 4)) 31 33 35 39 43 47) rB rc rd tp A14F A14F A4F A4F A14F A14F (riverD (.inl (a, a)) (.inl (b, b)) (.inl (0, 4)) 3 8 3 41 45 49) rD A12D A12D A12D A12D A12F A12F A12F A12F A48F A48F A48F A48F) H := hH
  refine lv_aload_n F.1 F.2.1 dX2_copyOf_120 rfl (lv_at hl 1 rfl) ?_
  refine tGetR (j := 10) F hK hH (tyb ha1 (all1 rfl)) rfl (all1 rfl) clX2 (by decide) wd_3_7 dX2_copyOf_121 (fun q_29 hq_29 _ => ?_)
  refine lv_aload_n F.1 F.2.1 dX2_copyOf_124 rfl (lv_at hl 0 rfl) ?_
  refine tGetR (j := 10) F hK hH (tyb ha0 (all1 rfl)) rfl (all1 rfl) clX2 (by decide) wd_3_7 dX2_copyOf_125 (fun q_30 hq_30 _ => ?_)
  refine tNv (host := RX6) (As := [.ref q_29, .ref q_30]) (rest := []) F hK hN hO (c_X6_copyRow_A14F E dA dB (riverD (.inl (a, a)) (.inl (b, b)) (.inl (0, 4)) 31 33 35 39 43 47) rB rc rd tp A14F A14F A4F A4F A14F A14F (riverD (.inl (a, a)) (.inl (b, b)) (.inl (0, 4)) 3 8 3 41 45 49) rD A12D A12D A12D A12D A12F A12F A12F A12F A48F A48F A48F A48F q_29 q_30 hq_29 hq_30) ms_X6_copyRow hN.1.2.2.2.2.2 ⟨Nat.le_of_ble_eq_true rfl, Nat.le_of_ble_eq_true rfl⟩ ⟨Nat.le_of_ble_eq_true rfl, Nat.le_of_ble_eq_true rfl⟩ hH hS rfl hl.1 (Nat.le_of_ble_eq_true rfl) dX2_copyOf_128 (fun H locs hq hS => ?_)
  have hH := hq
  have hH : TH E (tbC dA dB (riverD (.inl (a, a)) (.inl (b, b)) (.inl (0, 4)) 31 33 35 39 43 47) rB rc rd tp A14F A14F A4F A4F A14F A14F (riverD (.inl (a, a)) (.inl (b, b)) (.inl (0, 4)) 3 8 3 41 45 49) rD A12D A12D A12D A12D A12F A12F A12F A12F A48F A48F A48F A48F) H := hH
  refine lv_aload_n F.1 F.2.1 dX2_copyOf_131 rfl (lv_at hl 1 rfl) ?_
  refine tGetR (j := 11) F hK hH (tyb ha1 (all1 rfl)) rfl (all1 rfl) clX2 (by decide) wd_3_8 dX2_copyOf_132 (fun q_32 hq_32 _ => ?_)
  refine lv_aload_n F.1 F.2.1 dX2_copyOf_135 rfl (lv_at hl 0 rfl) ?_
  refine tGetR (j := 11) F hK hH (tyb ha0 (all1 rfl)) rfl (all1 rfl) clX2 (by decide) wd_3_8 dX2_copyOf_136 (fun q_33 hq_33 _ => ?_)
  refine tNv (host := RX6) (As := [.ref q_32, .ref q_33]) (rest := []) F hK hN hO (c_X6_copyRow_A14B E dA dB (riverD (.inl (a, a)) (.inl (b, b)) (.inl (0, 4)) 31 33 35 39 43 47) rB rc rd tp A14F A14F A4F A4F A14F A14F (riverD (.inl (a, a)) (.inl (b, b)) (.inl (0, 4)) 3 8 3 41 45 49) rD A12D A12D A12D A12D A12F A12F A12F A12F A48F A48F A48F A48F q_32 q_33 hq_32 hq_33) ms_X6_copyRow hN.1.2.2.2.2.2 ⟨Nat.le_of_ble_eq_true rfl, Nat.le_of_ble_eq_true rfl⟩ ⟨Nat.le_of_ble_eq_true rfl, Nat.le_of_ble_eq_true rfl⟩ hH hS rfl hl.1 (Nat.le_of_ble_eq_true rfl) dX2_copyOf_139 (fun H locs hq hS => ?_)
  have hH := hq
  have hH : TH E (tbC dA dB (riverD (.inl (a, a)) (.inl (b, b)) (.inl (0, 4)) 31 33 35 39 43 47) rB rc rd tp A14F A14F A4F A4F A14F A14F (riverD (.inl (a, a)) (.inl (b, b)) (.inl (0, 4)) 3 8 3 41 45 49) rD A12D A12D A12D A12D A12F A12F A12F A12F A48F A48F A48F A48F) H := hH
  refine lv_aload_n F.1 F.2.1 dX2_copyOf_142 rfl (lv_at hl 1 rfl) ?_
  refine tGetR (j := 12) F hK hH (tyb ha1 (all1 rfl)) rfl (all1 rfl) clX2 (by decide) wd_3_9 dX2_copyOf_143 (fun q_35 hq_35 _ => ?_)
  refine lv_aload_n F.1 F.2.1 dX2_copyOf_146 rfl (lv_at hl 0 rfl) ?_
  refine tGetR (j := 12) F hK hH (tyb ha0 (all1 rfl)) rfl (all1 rfl) clX2 (by decide) wd_3_9 dX2_copyOf_147 (fun q_36 hq_36 _ => ?_)
  refine tNv (host := RX6) (As := [.ref q_35, .ref q_36]) (rest := []) F hK hN hO (c_X6_copyRow_A14F E dA dB (riverD (.inl (a, a)) (.inl (b, b)) (.inl (0, 4)) 31 33 35 39 43 47) rB rc rd tp A14F A14F A4F A4F A14F A14F (riverD (.inl (a, a)) (.inl (b, b)) (.inl (0, 4)) 3 8 3 41 45 49) rD A12D A12D A12D A12D A12F A12F A12F A12F A48F A48F A48F A48F q_35 q_36 hq_35 hq_36) ms_X6_copyRow hN.1.2.2.2.2.2 ⟨Nat.le_of_ble_eq_true rfl, Nat.le_of_ble_eq_true rfl⟩ ⟨Nat.le_of_ble_eq_true rfl, Nat.le_of_ble_eq_true rfl⟩ hH hS rfl hl.1 (Nat.le_of_ble_eq_true rfl) dX2_copyOf_150 (fun H locs hq hS => ?_)
  have hH := hq
  have hH : TH E (tbC dA dB (riverD (.inl (a, a)) (.inl (b, b)) (.inl (0, 4)) 31 33 35 39 43 47) rB rc rd tp A14F A14F A4F A4F A14F A14F (riverD (.inl (a, a)) (.inl (b, b)) (.inl (0, 4)) 3 8 3 41 45 49) rD A12D A12D A12D A12D A12F A12F A12F A12F A48F A48F A48F A48F) H := hH
  refine lv_aload_n F.1 F.2.1 dX2_copyOf_153 rfl (lv_at hl 1 rfl) ?_
  refine tGetR (j := 13) F hK hH (tyb ha1 (all1 rfl)) rfl (all1 rfl) clX2 (by decide) wd_3_10 dX2_copyOf_154 (fun q_38 hq_38 _ => ?_)
  refine lv_aload_n F.1 F.2.1 dX2_copyOf_157 rfl (lv_at hl 0 rfl) ?_
  refine tGetR (j := 13) F hK hH (tyb ha0 (all1 rfl)) rfl (all1 rfl) clX2 (by decide) wd_3_10 dX2_copyOf_158 (fun q_39 hq_39 _ => ?_)
  refine tNv (host := RX6) (As := [.ref q_38, .ref q_39]) (rest := []) F hK hN hO (c_X6_copyRow_A14L E dA dB (riverD (.inl (a, a)) (.inl (b, b)) (.inl (0, 4)) 31 33 35 39 43 47) rB rc rd tp A14F A14F A4F A4F A14F A14F (riverD (.inl (a, a)) (.inl (b, b)) (.inl (0, 4)) 3 8 3 41 45 49) rD A12D A12D A12D A12D A12F A12F A12F A12F A48F A48F A48F A48F q_38 q_39 hq_38 hq_39) ms_X6_copyRow hN.1.2.2.2.2.2 ⟨Nat.le_of_ble_eq_true rfl, Nat.le_of_ble_eq_true rfl⟩ ⟨Nat.le_of_ble_eq_true rfl, Nat.le_of_ble_eq_true rfl⟩ hH hS rfl hl.1 (Nat.le_of_ble_eq_true rfl) dX2_copyOf_161 (fun H locs hq hS => ?_)
  have hH := hq
  have hH : TH E (tbC dA dB (riverD (.inl (a, a)) (.inl (b, b)) (.inl (0, 4)) 31 33 35 39 43 47) rB rc rd tp A14F A14F A4F A4F A14F A14F (riverD (.inl (a, a)) (.inl (b, b)) (.inl (0, 4)) 3 8 3 41 45 49) rD A12D A12D A12D A12D A12F A12F A12F A12F A48F A48F A48F A48F) H := hH
  refine lv_aload_n F.1 F.2.1 dX2_copyOf_164 rfl (lv_at hl 1 rfl) ?_
  refine tGetR (j := 15) F hK hH (tyb ha1 (all1 rfl)) rfl (all1 rfl) clX2 (by decide) wd_3_11 dX2_copyOf_165 (fun q_41 hq_41 _ => ?_)
  refine lv_aload_n F.1 F.2.1 dX2_copyOf_168 rfl (lv_at hl 0 rfl) ?_
  refine tGetR (j := 15) F hK hH (tyb ha0 (all1 rfl)) rfl (all1 rfl) clX2 (by decide) wd_3_11 dX2_copyOf_169 (fun q_42 hq_42 _ => ?_)
  refine tNv (host := RX6) (As := [.ref q_41, .ref q_42]) (rest := []) F hK hN hO (c_X6_copyRow_A4R E dA dB (riverD (.inl (a, a)) (.inl (b, b)) (.inl (0, 4)) 31 33 35 39 43 47) rB rc rd tp A14F A14F A4F A4F A14F A14F (riverD (.inl (a, a)) (.inl (b, b)) (.inl (0, 4)) 3 8 3 41 45 49) rD A12D A12D A12D A12D A12F A12F A12F A12F A48F A48F A48F A48F q_41 q_42 hq_41 hq_42) ms_X6_copyRow hN.1.2.2.2.2.2 ⟨Nat.le_of_ble_eq_true rfl, Nat.le_of_ble_eq_true rfl⟩ ⟨Nat.le_of_ble_eq_true rfl, Nat.le_of_ble_eq_true rfl⟩ hH hS rfl hl.1 (Nat.le_of_ble_eq_true rfl) dX2_copyOf_172 (fun H locs hq hS => ?_)
  have hH := hq
  have hH : TH E (tbC dA dB (riverD (.inl (a, a)) (.inl (b, b)) (.inl (0, 4)) 31 33 35 39 43 47) rB rc rd tp A14F A14F A4F A4F A14F A14F (riverD (.inl (a, a)) (.inl (b, b)) (.inl (0, 4)) 3 8 3 41 45 49) rD A12D A12D A12D A12D A12F A12F A12F A12F A48F A48F A48F A48F) H := hH
  refine lv_aload_n F.1 F.2.1 dX2_copyOf_175 rfl (lv_at hl 1 rfl) ?_
  refine tGetR (j := 16) F hK hH (tyb ha1 (all1 rfl)) rfl (all1 rfl) clX2 (by decide) wd_3_12 dX2_copyOf_176 (fun q_44 hq_44 _ => ?_)
  refine lv_aload_n F.1 F.2.1 dX2_copyOf_179 rfl (lv_at hl 0 rfl) ?_
  refine tGetR (j := 16) F hK hH (tyb ha0 (all1 rfl)) rfl (all1 rfl) clX2 (by decide) wd_3_12 dX2_copyOf_180 (fun q_45 hq_45 _ => ?_)
  refine tNv (host := RX6) (As := [.ref q_44, .ref q_45]) (rest := []) F hK hN hO (c_X6_copyRow_A4F E dA dB (riverD (.inl (a, a)) (.inl (b, b)) (.inl (0, 4)) 31 33 35 39 43 47) rB rc rd tp A14F A14F A4F A4F A14F A14F (riverD (.inl (a, a)) (.inl (b, b)) (.inl (0, 4)) 3 8 3 41 45 49) rD A12D A12D A12D A12D A12F A12F A12F A12F A48F A48F A48F A48F q_44 q_45 hq_44 hq_45) ms_X6_copyRow hN.1.2.2.2.2.2 ⟨Nat.le_of_ble_eq_true rfl, Nat.le_of_ble_eq_true rfl⟩ ⟨Nat.le_of_ble_eq_true rfl, Nat.le_of_ble_eq_true rfl⟩ hH hS rfl hl.1 (Nat.le_of_ble_eq_true rfl) dX2_copyOf_183 (fun H locs hq hS => ?_)
  have hH := hq
  have hH : TH E (tbC dA dB (riverD (.inl (a, a)) (.inl (b, b)) (.inl (0, 4)) 31 33 35 39 43 47) rB rc rd tp A14F A14F A4F A4F A14F A14F (riverD (.inl (a, a)) (.inl (b, b)) (.inl (0, 4)) 3 8 3 41 45 49) rD A12D A12D A12D A12D A12F A12F A12F A12F A48F A48F A48F A48F) H := hH
  refine lv_aload_n F.1 F.2.1 dX2_copyOf_186 rfl (lv_at hl 1 rfl) ?_
  refine tGetR (j := 17) F hK hH (tyb ha1 (all1 rfl)) rfl (all1 rfl) clX2 (by decide) wd_3_13 dX2_copyOf_187 (fun q_47 hq_47 _ => ?_)
  refine lv_aload_n F.1 F.2.1 dX2_copyOf_190 rfl (lv_at hl 0 rfl) ?_
  refine tGetR (j := 17) F hK hH (tyb ha0 (all1 rfl)) rfl (all1 rfl) clX2 (by decide) wd_3_13 dX2_copyOf_191 (fun q_48 hq_48 _ => ?_)
  refine tNv (host := RX6) (As := [.ref q_47, .ref q_48]) (rest := []) F hK hN hO (c_X6_copyRow_A4F E dA dB (riverD (.inl (a, a)) (.inl (b, b)) (.inl (0, 4)) 31 33 35 39 43 47) rB rc rd tp A14F A14F A4F A4F A14F A14F (riverD (.inl (a, a)) (.inl (b, b)) (.inl (0, 4)) 3 8 3 41 45 49) rD A12D A12D A12D A12D A12F A12F A12F A12F A48F A48F A48F A48F q_47 q_48 hq_47 hq_48) ms_X6_copyRow hN.1.2.2.2.2.2 ⟨Nat.le_of_ble_eq_true rfl, Nat.le_of_ble_eq_true rfl⟩ ⟨Nat.le_of_ble_eq_true rfl, Nat.le_of_ble_eq_true rfl⟩ hH hS rfl hl.1 (Nat.le_of_ble_eq_true rfl) dX2_copyOf_194 (fun H locs hq hS => ?_)
  have hH := hq
  have hH : TH E (tbC dA dB (riverD (.inl (a, a)) (.inl (b, b)) (.inl (0, 4)) 31 33 35 39 43 47) rB rc rd tp A14F A14F A4F A4F A14F A14F (riverD (.inl (a, a)) (.inl (b, b)) (.inl (0, 4)) 3 8 3 41 45 49) rD A12D A12D A12D A12D A12F A12F A12F A12F A48F A48F A48F A48F) H := hH
  refine lv_aload_n F.1 F.2.1 dX2_copyOf_197 rfl (lv_at hl 1 rfl) ?_
  refine tGetR (j := 18) F hK hH (tyb ha1 (all1 rfl)) rfl (all1 rfl) clX2 (by decide) wd_3_14 dX2_copyOf_198 (fun q_50 hq_50 _ => ?_)
  refine lv_aload_n F.1 F.2.1 dX2_copyOf_201 rfl (lv_at hl 0 rfl) ?_
  refine tGetR (j := 18) F hK hH (tyb ha0 (all1 rfl)) rfl (all1 rfl) clX2 (by decide) wd_3_14 dX2_copyOf_202 (fun q_51 hq_51 _ => ?_)
  refine tNv (host := RX6) (As := [.ref q_50, .ref q_51]) (rest := []) F hK hN hO (c_X6_copyRow_s E dA dB (riverD (.inl (a, a)) (.inl (b, b)) (.inl (0, 4)) 31 33 35 39 43 47) rB rc rd tp (riverD (.inl (a, a)) (.inl (b, b)) (.inl (0, 4)) 3 8 3 41 45 49) rD A12D A12D A12D A12D A12F A12F A12F A12F A48F A48F A48F A48F q_50 q_51 (by have h9_ := hq_50; simp at h9_ ⊢; omega) (by have h9_ := hq_51; simp at h9_ ⊢; omega)) ms_X6_copyRow hN.1.2.2.2.2.2 ⟨Nat.le_of_ble_eq_true rfl, Nat.le_of_ble_eq_true rfl⟩ ⟨Nat.le_of_ble_eq_true rfl, Nat.le_of_ble_eq_true rfl⟩ hH hS rfl hl.1 (Nat.le_of_ble_eq_true rfl) dX2_copyOf_205 (fun H locs hq hS => ?_)
  have hH := hq
  have hH : TH E (tbC dA dB (riverD (.inl (a, a)) (.inl (b, b)) (.inl (0, 4)) 31 33 35 39 43 47) rB rc rd tp A14F A14F A4F A4F A14F A14F (riverD (.inl (a, a)) (.inl (b, b)) (.inl (0, 4)) 3 8 3 41 45 49) rD A12D A12D A12D A12D A12F A12F A12F A12F A48F A48F A48F A48F) H := hH
  exact txV F hS dX2_copyOf_208 (hH)
set_option maxHeartbeats 4000000 in
set_option maxRecDepth 100000 in
theorem c_X2_copyOf_26_38 (E : Ev) (dA : TD) (dB : TD) (rB : TD) (rc : TD) (rd : TD) (tp : TD) (rC : TD) (Fa1 : Int × Int) (Fb1 : Int × Int) (a : Int) (b : Int) (a0 : Nat) (a1 : Nat) (ha0 : eT E a0 ∈ [26]) (ha1 : eT E a1 ∈ [38]) (ha : 0 ≤ a ∧ a ≤ 12) (hb : 0 ≤ b ∧ b ≤ 14) (hFa1 : 0 ≤ Fa1.1 ∧ Fa1.2 ≤ 12) (hFb1 : 0 ≤ Fb1.1 ∧ Fb1.2 ≤ 14) : TcV E yX2_copyOf cX2_copyOf 2 ({ frames := 2, cells := 0, slots := 0, locals := 61 }) [.ref a0, .ref a1] (fun H => TH E (tbC dA dB (riverD (.inl Fa1) (.inl Fb1) (.inl (0, 4)) 31 33 35 39 43 47) rB rc rd tp A14F A14F A4F A4F A14F A14F rC (riverD (.inl (a, a)) (.inl (b, b)) (.inl (0, 4)) 3 8 3 42 46 50) A12D A12D A12D A12D A12F A12F A12F A12F A48F A48F A48F A48F) H) (fun H => TH E (tbC dA dB (riverD (.inl (a, a)) (.inl (b, b)) (.inl (0, 4)) 31 33 35 39 43 47) rB rc rd tp A14F A14F A4F A4F A14F A14F rC (riverD (.inl (a, a)) (.inl (b, b)) (.inl (0, 4)) 3 8 3 42 46 50) A12D A12D A12D A12D A12F A12F A12F A12F A48F A48F A48F A48F) H) := by
  refine teV (by decide) (Nat.le_of_ble_eq_true rfl) ?_
  intro p_ ev_ s mi_ below_ meth cd_ ls F hK hN hO hH hS hl
  have hH : TH E (tbC dA dB (riverD (.inl Fa1) (.inl Fb1) (.inl (0, 4)) 31 33 35 39 43 47) rB rc rd tp A14F A14F A4F A4F A14F A14F rC (riverD (.inl (a, a)) (.inl (b, b)) (.inl (0, 4)) 3 8 3 42 46 50) A12D A12D A12D A12D A12F A12F A12F A12F A48F A48F A48F A48F) s.heap := hH
  have hl : lv_has ls 2 [(0, .ref a0), (1, .ref a1)] := hl
  refine lv_aload_n F.1 F.2.1 dX2_copyOf_0 rfl (lv_at hl 0 rfl) ?_
  refine lv_aload_n F.1 F.2.1 dX2_copyOf_1 rfl (lv_at hl 1 rfl) ?_
  refine tGetI (j := 0) F hK hH (tyb ha1 (all1 rfl)) rfl clX2 (by decide) wd_9_11 dX2_copyOf_2 (fun z_1 hz_1 => ?_)
  have ez_1 : 0 ≤ z_1.toInt ∧ z_1.toInt ≤ 12 := by omega
  refine tPutG (j := 0) (t := 26) (fd := (.inl (a, a))) F hK hH hS (List.mem_singleton.mp ha0) (by decide) rfl rfl (fdI (by omega)) (TB1 := (tbC dA dB (riverD (.inl (a, a)) (.inl Fb1) (.inl (0, 4)) 31 33 35 39 43 47) rB rc rd tp A14F A14F A4F A4F A14F A14F rC (riverD (.inl (a, a)) (.inl (b, b)) (.inl (0, 4)) 3 8 3 42 46 50) A12D A12D A12D A12D A12F A12F A12F A12F A48F A48F A48F A48F)) rfl clX2 (by decide) wd_9_11 rfl rfl rfl rfl dX2_copyOf_5 (fun H locs hH hS => ?_)
  refine lv_aload_n F.1 F.2.1 dX2_copyOf_8 rfl (lv_at hl 0 rfl) ?_
  refine lv_aload_n F.1 F.2.1 dX2_copyOf_9 rfl (lv_at hl 1 rfl) ?_
  refine tGetI (j := 4) F hK hH (tyb ha1 (all1 rfl)) rfl clX2 (by decide) wd_9_12 dX2_copyOf_10 (fun z_2 hz_2 => ?_)
  have ez_2 : 0 ≤ z_2.toInt ∧ z_2.toInt ≤ 14 := by omega
  refine tPutG (j := 4) (t := 26) (fd := (.inl (b, b))) F hK hH hS (List.mem_singleton.mp ha0) (by decide) rfl rfl (fdI (by omega)) (TB1 := (tbC dA dB (riverD (.inl (a, a)) (.inl (b, b)) (.inl (0, 4)) 31 33 35 39 43 47) rB rc rd tp A14F A14F A4F A4F A14F A14F rC (riverD (.inl (a, a)) (.inl (b, b)) (.inl (0, 4)) 3 8 3 42 46 50) A12D A12D A12D A12D A12F A12F A12F A12F A48F A48F A48F A48F)) rfl clX2 (by decide) wd_9_12 rfl rfl rfl rfl dX2_copyOf_13 (fun H locs hH hS => ?_)
  refine lv_aload_n F.1 F.2.1 dX2_copyOf_16 rfl (lv_at hl 0 rfl) ?_
  refine lv_aload_n F.1 F.2.1 dX2_copyOf_17 rfl (lv_at hl 1 rfl) ?_
  refine tGetI (j := 14) F hK hH (tyb ha1 (all1 rfl)) rfl clX2 (by decide) wd_9_13 dX2_copyOf_18 (fun z_3 hz_3 => ?_)
  refine tPut (j := 14) F hK hH hS (tyb ha0 (all1 rfl)) rfl (fdI hz_3) clX2 (by decide) wd_9_13 rfl rfl rfl rfl dX2_copyOf_21 (fun H locs hH hS => ?_)
  refine lv_aload_n F.1 F.2.1 dX2_copyOf_24 rfl (lv_at hl 0 rfl) ?_
  refine lv_aload_n F.1 F.2.1 dX2_copyOf_25 rfl (lv_at hl 1 rfl) ?_
  refine tGetI (j := 19) F hK hH (tyb ha1 (all1 rfl)) rfl clX2 (by decide) wd_3_15 dX2_copyOf_26 (fun z_4 hz_4 => ?_)
  refine tPut (j := 19) F hK hH hS (tyb ha0 (all1 rfl)) rfl (fdI hz_4) clX2 (by decide) wd_3_15 rfl rfl rfl rfl dX2_copyOf_29 (fun H locs hH hS => ?_)
  refine lv_aload_n F.1 F.2.1 dX2_copyOf_32 rfl (lv_at hl 1 rfl) ?_
  refine tGetR (j := 1) F hK hH (tyb ha1 (all1 rfl)) rfl (all1 rfl) clX2 (by decide) wd_2_23 dX2_copyOf_33 (fun q_5 hq_5 _ => ?_)
  refine lv_aload_n F.1 F.2.1 dX2_copyOf_36 rfl (lv_at hl 0 rfl) ?_
  refine tGetR (j := 1) F hK hH (tyb ha0 (all1 rfl)) rfl (all1 rfl) clX2 (by decide) wd_2_23 dX2_copyOf_37 (fun q_6 hq_6 _ => ?_)
  refine tNv (host := RX6) (As := [.ref q_5, .ref q_6]) (rest := []) F hK hN hO (c_X6_copyRow_pd E dA dB (riverD (.inl (a, a)) (.inl (b, b)) (.inl (0, 4)) 31 33 35 39 43 47) rB rc rd tp A14F A14F A4F A4F A14F A14F rC (riverD (.inl (a, a)) (.inl (b, b)) (.inl (0, 4)) 3 8 3 42 46 50) A12F A12F A12F A12F A48F A48F A48F A48F q_5 q_6 (by have h9_ := hq_5; simp at h9_ ⊢; omega) (by have h9_ := hq_6; simp at h9_ ⊢; omega)) ms_X6_copyRow hN.1.2.2.2.2.2 ⟨Nat.le_of_ble_eq_true rfl, Nat.le_of_ble_eq_true rfl⟩ ⟨Nat.le_of_ble_eq_true rfl, Nat.le_of_ble_eq_true rfl⟩ hH hS rfl hl.1 (Nat.le_of_ble_eq_true rfl) dX2_copyOf_40 (fun H locs hq hS => ?_)
  have hH := hq
  have hH : TH E (tbC dA dB (riverD (.inl (a, a)) (.inl (b, b)) (.inl (0, 4)) 31 33 35 39 43 47) rB rc rd tp A14F A14F A4F A4F A14F A14F rC (riverD (.inl (a, a)) (.inl (b, b)) (.inl (0, 4)) 3 8 3 42 46 50) A12D A12D A12D A12D A12F A12F A12F A12F A48F A48F A48F A48F) H := hH
  refine lv_aload_n F.1 F.2.1 dX2_copyOf_43 rfl (lv_at hl 1 rfl) ?_
  refine tGetR (j := 2) F hK hH (tyb ha1 (all1 rfl)) rfl (all1 rfl) clX2 (by decide) wd_3_0 dX2_copyOf_44 (fun q_8 hq_8 _ => ?_)
  refine lv_aload_n F.1 F.2.1 dX2_copyOf_47 rfl (lv_at hl 0 rfl) ?_
  refine tGetR (j := 2) F hK hH (tyb ha0 (all1 rfl)) rfl (all1 rfl) clX2 (by decide) wd_3_0 dX2_copyOf_48 (fun q_9 hq_9 _ => ?_)
  refine tNv (host := RX6) (As := [.ref q_8, .ref q_9]) (rest := []) F hK hN hO (c_X6_copyRow_ps E dA dB (riverD (.inl (a, a)) (.inl (b, b)) (.inl (0, 4)) 31 33 35 39 43 47) rB rc rd tp A14F A14F A4F A4F A14F A14F rC (riverD (.inl (a, a)) (.inl (b, b)) (.inl (0, 4)) 3 8 3 42 46 50) A12D A12D A12D A12D A48F A48F A48F A48F q_8 q_9 (by have h9_ := hq_8; simp at h9_ ⊢; omega) (by have h9_ := hq_9; simp at h9_ ⊢; omega)) ms_X6_copyRow hN.1.2.2.2.2.2 ⟨Nat.le_of_ble_eq_true rfl, Nat.le_of_ble_eq_true rfl⟩ ⟨Nat.le_of_ble_eq_true rfl, Nat.le_of_ble_eq_true rfl⟩ hH hS rfl hl.1 (Nat.le_of_ble_eq_true rfl) dX2_copyOf_51 (fun H locs hq hS => ?_)
  have hH := hq
  have hH : TH E (tbC dA dB (riverD (.inl (a, a)) (.inl (b, b)) (.inl (0, 4)) 31 33 35 39 43 47) rB rc rd tp A14F A14F A4F A4F A14F A14F rC (riverD (.inl (a, a)) (.inl (b, b)) (.inl (0, 4)) 3 8 3 42 46 50) A12D A12D A12D A12D A12F A12F A12F A12F A48F A48F A48F A48F) H := hH
  refine lv_aload_n F.1 F.2.1 dX2_copyOf_54 rfl (lv_at hl 1 rfl) ?_
  refine tGetR (j := 3) F hK hH (tyb ha1 (all1 rfl)) rfl (all1 rfl) clX2 (by decide) wd_3_1 dX2_copyOf_55 (fun q_11 hq_11 _ => ?_)
  refine lv_aload_n F.1 F.2.1 dX2_copyOf_58 rfl (lv_at hl 0 rfl) ?_
  refine tGetR (j := 3) F hK hH (tyb ha0 (all1 rfl)) rfl (all1 rfl) clX2 (by decide) wd_3_1 dX2_copyOf_59 (fun q_12 hq_12 _ => ?_)
  refine tNv (host := RX6) (As := [.ref q_11, .ref q_12]) (rest := []) F hK hN hO (c_X6_copyRow_pi E dA dB (riverD (.inl (a, a)) (.inl (b, b)) (.inl (0, 4)) 31 33 35 39 43 47) rB rc rd tp A14F A14F A4F A4F A14F A14F rC (riverD (.inl (a, a)) (.inl (b, b)) (.inl (0, 4)) 3 8 3 42 46 50) A12D A12D A12D A12D A12F A12F A12F A12F q_11 q_12 (by have h9_ := hq_11; simp at h9_ ⊢; omega) (by have h9_ := hq_12; simp at h9_ ⊢; omega)) ms_X6_copyRow hN.1.2.2.2.2.2 ⟨Nat.le_of_ble_eq_true rfl, Nat.le_of_ble_eq_true rfl⟩ ⟨Nat.le_of_ble_eq_true rfl, Nat.le_of_ble_eq_true rfl⟩ hH hS rfl hl.1 (Nat.le_of_ble_eq_true rfl) dX2_copyOf_62 (fun H locs hq hS => ?_)
  have hH := hq
  have hH : TH E (tbC dA dB (riverD (.inl (a, a)) (.inl (b, b)) (.inl (0, 4)) 31 33 35 39 43 47) rB rc rd tp A14F A14F A4F A4F A14F A14F rC (riverD (.inl (a, a)) (.inl (b, b)) (.inl (0, 4)) 3 8 3 42 46 50) A12D A12D A12D A12D A12F A12F A12F A12F A48F A48F A48F A48F) H := hH
  refine lv_aload_n F.1 F.2.1 dX2_copyOf_65 rfl (lv_at hl 1 rfl) ?_
  refine tGetR (j := 5) F hK hH (tyb ha1 (all1 rfl)) rfl (all1 rfl) clX2 (by decide) wd_3_2 dX2_copyOf_66 (fun q_14 hq_14 _ => ?_)
  refine lv_aload_n F.1 F.2.1 dX2_copyOf_69 rfl (lv_at hl 0 rfl) ?_
  refine tGetR (j := 5) F hK hH (tyb ha0 (all1 rfl)) rfl (all1 rfl) clX2 (by decide) wd_3_2 dX2_copyOf_70 (fun q_15 hq_15 _ => ?_)
  refine tNv (host := RX6) (As := [.ref q_14, .ref q_15]) (rest := []) F hK hN hO (c_X6_copyRow_A14R E dA dB (riverD (.inl (a, a)) (.inl (b, b)) (.inl (0, 4)) 31 33 35 39 43 47) rB rc rd tp A14F A14F A4F A4F A14F A14F rC (riverD (.inl (a, a)) (.inl (b, b)) (.inl (0, 4)) 3 8 3 42 46 50) A12D A12D A12D A12D A12F A12F A12F A12F A48F A48F A48F A48F q_14 q_15 hq_14 hq_15) ms_X6_copyRow hN.1.2.2.2.2.2 ⟨Nat.le_of_ble_eq_true rfl, Nat.le_of_ble_eq_true rfl⟩ ⟨Nat.le_of_ble_eq_true rfl, Nat.le_of_ble_eq_true rfl⟩ hH hS rfl hl.1 (Nat.le_of_ble_eq_true rfl) dX2_copyOf_73 (fun H locs hq hS => ?_)
  have hH := hq
  have hH : TH E (tbC dA dB (riverD (.inl (a, a)) (.inl (b, b)) (.inl (0, 4)) 31 33 35 39 43 47) rB rc rd tp A14F A14F A4F A4F A14F A14F rC (riverD (.inl (a, a)) (.inl (b, b)) (.inl (0, 4)) 3 8 3 42 46 50) A12D A12D A12D A12D A12F A12F A12F A12F A48F A48F A48F A48F) H := hH
  refine lv_aload_n F.1 F.2.1 dX2_copyOf_76 rfl (lv_at hl 1 rfl) ?_
  refine tGetR (j := 6) F hK hH (tyb ha1 (all1 rfl)) rfl (all1 rfl) clX2 (by decide) wd_3_3 dX2_copyOf_77 (fun q_17 hq_17 _ => ?_)
  refine lv_aload_n F.1 F.2.1 dX2_copyOf_80 rfl (lv_at hl 0 rfl) ?_
  refine tGetR (j := 6) F hK hH (tyb ha0 (all1 rfl)) rfl (all1 rfl) clX2 (by decide) wd_3_3 dX2_copyOf_81 (fun q_18 hq_18 _ => ?_)
  refine tNv (host := RX6) (As := [.ref q_17, .ref q_18]) (rest := []) F hK hN hO (c_X6_copyRow_A14F E dA dB (riverD (.inl (a, a)) (.inl (b, b)) (.inl (0, 4)) 31 33 35 39 43 47) rB rc rd tp A14F A14F A4F A4F A14F A14F rC (riverD (.inl (a, a)) (.inl (b, b)) (.inl (0, 4)) 3 8 3 42 46 50) A12D A12D A12D A12D A12F A12F A12F A12F A48F A48F A48F A48F q_17 q_18 hq_17 hq_18) ms_X6_copyRow hN.1.2.2.2.2.2 ⟨Nat.le_of_ble_eq_true rfl, Nat.le_of_ble_eq_true rfl⟩ ⟨Nat.le_of_ble_eq_true rfl, Nat.le_of_ble_eq_true rfl⟩ hH hS rfl hl.1 (Nat.le_of_ble_eq_true rfl) dX2_copyOf_84 (fun H locs hq hS => ?_)
  have hH := hq
  have hH : TH E (tbC dA dB (riverD (.inl (a, a)) (.inl (b, b)) (.inl (0, 4)) 31 33 35 39 43 47) rB rc rd tp A14F A14F A4F A4F A14F A14F rC (riverD (.inl (a, a)) (.inl (b, b)) (.inl (0, 4)) 3 8 3 42 46 50) A12D A12D A12D A12D A12F A12F A12F A12F A48F A48F A48F A48F) H := hH
  refine lv_aload_n F.1 F.2.1 dX2_copyOf_87 rfl (lv_at hl 1 rfl) ?_
  refine tGetR (j := 7) F hK hH (tyb ha1 (all1 rfl)) rfl (all1 rfl) clX2 (by decide) wd_3_4 dX2_copyOf_88 (fun q_20 hq_20 _ => ?_)
  refine lv_aload_n F.1 F.2.1 dX2_copyOf_91 rfl (lv_at hl 0 rfl) ?_
  refine tGetR (j := 7) F hK hH (tyb ha0 (all1 rfl)) rfl (all1 rfl) clX2 (by decide) wd_3_4 dX2_copyOf_92 (fun q_21 hq_21 _ => ?_)
  refine tNv (host := RX6) (As := [.ref q_20, .ref q_21]) (rest := []) F hK hN hO (c_X6_copyRow_f E dA dB (riverD (.inl (a, a)) (.inl (b, b)) (.inl (0, 4)) 31 33 35 39 43 47) rB rc rd tp rC (riverD (.inl (a, a)) (.inl (b, b)) (.inl (0, 4)) 3 8 3 42 46 50) A12D A12D A12D A12D A12F A12F A12F A12F A48F A48F A48F A48F q_20 q_21 (by have h9_ := hq_20; simp at h9_ ⊢; omega) (by have h9_ := hq_21; simp at h9_ ⊢; omega)) ms_X6_copyRow hN.1.2.2.2.2.2 ⟨Nat.le_of_ble_eq_true rfl, Nat.le_of_ble_eq_true rfl⟩ ⟨Nat.le_of_ble_eq_true rfl, Nat.le_of_ble_eq_true rfl⟩ hH hS rfl hl.1 (Nat.le_of_ble_eq_true rfl) dX2_copyOf_95 (fun H locs hq hS => ?_)
  have hH := hq
  have hH : TH E (tbC dA dB (riverD (.inl (a, a)) (.inl (b, b)) (.inl (0, 4)) 31 33 35 39 43 47) rB rc rd tp A14F A14F A4F A4F A14F A14F rC (riverD (.inl (a, a)) (.inl (b, b)) (.inl (0, 4)) 3 8 3 42 46 50) A12D A12D A12D A12D A12F A12F A12F A12F A48F A48F A48F A48F) H := hH
  refine lv_aload_n F.1 F.2.1 dX2_copyOf_98 rfl (lv_at hl 1 rfl) ?_
  refine tGetR (j := 8) F hK hH (tyb ha1 (all1 rfl)) rfl (all1 rfl) clX2 (by decide) wd_3_5 dX2_copyOf_99 (fun q_23 hq_23 _ => ?_)
  refine lv_aload_n F.1 F.2.1 dX2_copyOf_102 rfl (lv_at hl 0 rfl) ?_
  refine tGetR (j := 8) F hK hH (tyb ha0 (all1 rfl)) rfl (all1 rfl) clX2 (by decide) wd_3_5 dX2_copyOf_103 (fun q_24 hq_24 _ => ?_)
  refine tNv (host := RX6) (As := [.ref q_23, .ref q_24]) (rest := []) F hK hN hO (c_X6_copyRow_A14F E dA dB (riverD (.inl (a, a)) (.inl (b, b)) (.inl (0, 4)) 31 33 35 39 43 47) rB rc rd tp A14F A14F A4F A4F A14F A14F rC (riverD (.inl (a, a)) (.inl (b, b)) (.inl (0, 4)) 3 8 3 42 46 50) A12D A12D A12D A12D A12F A12F A12F A12F A48F A48F A48F A48F q_23 q_24 hq_23 hq_24) ms_X6_copyRow hN.1.2.2.2.2.2 ⟨Nat.le_of_ble_eq_true rfl, Nat.le_of_ble_eq_true rfl⟩ ⟨Nat.le_of_ble_eq_true rfl, Nat.le_of_ble_eq_true rfl⟩ hH hS rfl hl.1 (Nat.le_of_ble_eq_true rfl) dX2_copyOf_106 (fun H locs hq hS => ?_)
  have hH := hq
  have hH : TH E (tbC dA dB (riverD (.inl (a, a)) (.inl (b, b)) (.inl (0, 4)) 31 33 35 39 43 47) rB rc rd tp A14F A14F A4F A4F A14F A14F rC (riverD (.inl (a, a)) (.inl (b, b)) (.inl (0, 4)) 3 8 3 42 46 50) A12D A12D A12D A12D A12F A12F A12F A12F A48F A48F A48F A48F) H := hH
  refine lv_aload_n F.1 F.2.1 dX2_copyOf_109 rfl (lv_at hl 1 rfl) ?_
  refine tGetR (j := 9) F hK hH (tyb ha1 (all1 rfl)) rfl (all1 rfl) clX2 (by decide) wd_3_6 dX2_copyOf_110 (fun q_26 hq_26 _ => ?_)
  refine lv_aload_n F.1 F.2.1 dX2_copyOf_113 rfl (lv_at hl 0 rfl) ?_
  refine tGetR (j := 9) F hK hH (tyb ha0 (all1 rfl)) rfl (all1 rfl) clX2 (by decide) wd_3_6 dX2_copyOf_114 (fun q_27 hq_27 _ => ?_)
  refine tNv (host := RX6) (As := [.ref q_26, .ref q_27]) (rest := []) F hK hN hO (c_X6_copyRow_g E dA dB (riverD (.inl (a, a)) (.inl (b, b)) (.inl (0, 4)) 31 33 35 39 43 47) rB rc rd tp rC (riverD (.inl (a, a)) (.inl (b, b)) (.inl (0, 4)) 3 8 3 42 46 50) A12D A12D A12D A12D A12F A12F A12F A12F A48F A48F A48F A48F q_26 q_27 (by have h9_ := hq_26; simp at h9_ ⊢; omega) (by have h9_ := hq_27; simp at h9_ ⊢; omega)) ms_X6_copyRow hN.1.2.2.2.2.2 ⟨Nat.le_of_ble_eq_true rfl, Nat.le_of_ble_eq_true rfl⟩ ⟨Nat.le_of_ble_eq_true rfl, Nat.le_of_ble_eq_true rfl⟩ hH hS rfl hl.1 (Nat.le_of_ble_eq_true rfl) dX2_copyOf_117 (fun H locs hq hS => ?_)
  have hH := hq
  have hH : TH E (tbC dA dB (riverD (.inl (a, a)) (.inl (b, b)) (.inl (0, 4)) 31 33 35 39 43 47) rB rc rd tp A14F A14F A4F A4F A14F A14F rC (riverD (.inl (a, a)) (.inl (b, b)) (.inl (0, 4)) 3 8 3 42 46 50) A12D A12D A12D A12D A12F A12F A12F A12F A48F A48F A48F A48F) H := hH
  refine lv_aload_n F.1 F.2.1 dX2_copyOf_120 rfl (lv_at hl 1 rfl) ?_
  refine tGetR (j := 10) F hK hH (tyb ha1 (all1 rfl)) rfl (all1 rfl) clX2 (by decide) wd_3_7 dX2_copyOf_121 (fun q_29 hq_29 _ => ?_)
  refine lv_aload_n F.1 F.2.1 dX2_copyOf_124 rfl (lv_at hl 0 rfl) ?_
  refine tGetR (j := 10) F hK hH (tyb ha0 (all1 rfl)) rfl (all1 rfl) clX2 (by decide) wd_3_7 dX2_copyOf_125 (fun q_30 hq_30 _ => ?_)
  refine tNv (host := RX6) (As := [.ref q_29, .ref q_30]) (rest := []) F hK hN hO (c_X6_copyRow_A14F E dA dB (riverD (.inl (a, a)) (.inl (b, b)) (.inl (0, 4)) 31 33 35 39 43 47) rB rc rd tp A14F A14F A4F A4F A14F A14F rC (riverD (.inl (a, a)) (.inl (b, b)) (.inl (0, 4)) 3 8 3 42 46 50) A12D A12D A12D A12D A12F A12F A12F A12F A48F A48F A48F A48F q_29 q_30 hq_29 hq_30) ms_X6_copyRow hN.1.2.2.2.2.2 ⟨Nat.le_of_ble_eq_true rfl, Nat.le_of_ble_eq_true rfl⟩ ⟨Nat.le_of_ble_eq_true rfl, Nat.le_of_ble_eq_true rfl⟩ hH hS rfl hl.1 (Nat.le_of_ble_eq_true rfl) dX2_copyOf_128 (fun H locs hq hS => ?_)
  have hH := hq
  have hH : TH E (tbC dA dB (riverD (.inl (a, a)) (.inl (b, b)) (.inl (0, 4)) 31 33 35 39 43 47) rB rc rd tp A14F A14F A4F A4F A14F A14F rC (riverD (.inl (a, a)) (.inl (b, b)) (.inl (0, 4)) 3 8 3 42 46 50) A12D A12D A12D A12D A12F A12F A12F A12F A48F A48F A48F A48F) H := hH
  refine lv_aload_n F.1 F.2.1 dX2_copyOf_131 rfl (lv_at hl 1 rfl) ?_
  refine tGetR (j := 11) F hK hH (tyb ha1 (all1 rfl)) rfl (all1 rfl) clX2 (by decide) wd_3_8 dX2_copyOf_132 (fun q_32 hq_32 _ => ?_)
  refine lv_aload_n F.1 F.2.1 dX2_copyOf_135 rfl (lv_at hl 0 rfl) ?_
  refine tGetR (j := 11) F hK hH (tyb ha0 (all1 rfl)) rfl (all1 rfl) clX2 (by decide) wd_3_8 dX2_copyOf_136 (fun q_33 hq_33 _ => ?_)
  refine tNv (host := RX6) (As := [.ref q_32, .ref q_33]) (rest := []) F hK hN hO (c_X6_copyRow_A14B E dA dB (riverD (.inl (a, a)) (.inl (b, b)) (.inl (0, 4)) 31 33 35 39 43 47) rB rc rd tp A14F A14F A4F A4F A14F A14F rC (riverD (.inl (a, a)) (.inl (b, b)) (.inl (0, 4)) 3 8 3 42 46 50) A12D A12D A12D A12D A12F A12F A12F A12F A48F A48F A48F A48F q_32 q_33 hq_32 hq_33) ms_X6_copyRow hN.1.2.2.2.2.2 ⟨Nat.le_of_ble_eq_true rfl, Nat.le_of_ble_eq_true rfl⟩ ⟨Nat.le_of_ble_eq_true rfl, Nat.le_of_ble_eq_true rfl⟩ hH hS rfl hl.1 (Nat.le_of_ble_eq_true rfl) dX2_copyOf_139 (fun H locs hq hS => ?_)
  have hH := hq
  have hH : TH E (tbC dA dB (riverD (.inl (a, a)) (.inl (b, b)) (.inl (0, 4)) 31 33 35 39 43 47) rB rc rd tp A14F A14F A4F A4F A14F A14F rC (riverD (.inl (a, a)) (.inl (b, b)) (.inl (0, 4)) 3 8 3 42 46 50) A12D A12D A12D A12D A12F A12F A12F A12F A48F A48F A48F A48F) H := hH
  refine lv_aload_n F.1 F.2.1 dX2_copyOf_142 rfl (lv_at hl 1 rfl) ?_
  refine tGetR (j := 12) F hK hH (tyb ha1 (all1 rfl)) rfl (all1 rfl) clX2 (by decide) wd_3_9 dX2_copyOf_143 (fun q_35 hq_35 _ => ?_)
  refine lv_aload_n F.1 F.2.1 dX2_copyOf_146 rfl (lv_at hl 0 rfl) ?_
  refine tGetR (j := 12) F hK hH (tyb ha0 (all1 rfl)) rfl (all1 rfl) clX2 (by decide) wd_3_9 dX2_copyOf_147 (fun q_36 hq_36 _ => ?_)
  refine tNv (host := RX6) (As := [.ref q_35, .ref q_36]) (rest := []) F hK hN hO (c_X6_copyRow_A14F E dA dB (riverD (.inl (a, a)) (.inl (b, b)) (.inl (0, 4)) 31 33 35 39 43 47) rB rc rd tp A14F A14F A4F A4F A14F A14F rC (riverD (.inl (a, a)) (.inl (b, b)) (.inl (0, 4)) 3 8 3 42 46 50) A12D A12D A12D A12D A12F A12F A12F A12F A48F A48F A48F A48F q_35 q_36 hq_35 hq_36) ms_X6_copyRow hN.1.2.2.2.2.2 ⟨Nat.le_of_ble_eq_true rfl, Nat.le_of_ble_eq_true rfl⟩ ⟨Nat.le_of_ble_eq_true rfl, Nat.le_of_ble_eq_true rfl⟩ hH hS rfl hl.1 (Nat.le_of_ble_eq_true rfl) dX2_copyOf_150 (fun H locs hq hS => ?_)
  have hH := hq
  have hH : TH E (tbC dA dB (riverD (.inl (a, a)) (.inl (b, b)) (.inl (0, 4)) 31 33 35 39 43 47) rB rc rd tp A14F A14F A4F A4F A14F A14F rC (riverD (.inl (a, a)) (.inl (b, b)) (.inl (0, 4)) 3 8 3 42 46 50) A12D A12D A12D A12D A12F A12F A12F A12F A48F A48F A48F A48F) H := hH
  refine lv_aload_n F.1 F.2.1 dX2_copyOf_153 rfl (lv_at hl 1 rfl) ?_
  refine tGetR (j := 13) F hK hH (tyb ha1 (all1 rfl)) rfl (all1 rfl) clX2 (by decide) wd_3_10 dX2_copyOf_154 (fun q_38 hq_38 _ => ?_)
  refine lv_aload_n F.1 F.2.1 dX2_copyOf_157 rfl (lv_at hl 0 rfl) ?_
  refine tGetR (j := 13) F hK hH (tyb ha0 (all1 rfl)) rfl (all1 rfl) clX2 (by decide) wd_3_10 dX2_copyOf_158 (fun q_39 hq_39 _ => ?_)
  refine tNv (host := RX6) (As := [.ref q_38, .ref q_39]) (rest := []) F hK hN hO (c_X6_copyRow_A14L E dA dB (riverD (.inl (a, a)) (.inl (b, b)) (.inl (0, 4)) 31 33 35 39 43 47) rB rc rd tp A14F A14F A4F A4F A14F A14F rC (riverD (.inl (a, a)) (.inl (b, b)) (.inl (0, 4)) 3 8 3 42 46 50) A12D A12D A12D A12D A12F A12F A12F A12F A48F A48F A48F A48F q_38 q_39 hq_38 hq_39) ms_X6_copyRow hN.1.2.2.2.2.2 ⟨Nat.le_of_ble_eq_true rfl, Nat.le_of_ble_eq_true rfl⟩ ⟨Nat.le_of_ble_eq_true rfl, Nat.le_of_ble_eq_true rfl⟩ hH hS rfl hl.1 (Nat.le_of_ble_eq_true rfl) dX2_copyOf_161 (fun H locs hq hS => ?_)
  have hH := hq
  have hH : TH E (tbC dA dB (riverD (.inl (a, a)) (.inl (b, b)) (.inl (0, 4)) 31 33 35 39 43 47) rB rc rd tp A14F A14F A4F A4F A14F A14F rC (riverD (.inl (a, a)) (.inl (b, b)) (.inl (0, 4)) 3 8 3 42 46 50) A12D A12D A12D A12D A12F A12F A12F A12F A48F A48F A48F A48F) H := hH
  refine lv_aload_n F.1 F.2.1 dX2_copyOf_164 rfl (lv_at hl 1 rfl) ?_
  refine tGetR (j := 15) F hK hH (tyb ha1 (all1 rfl)) rfl (all1 rfl) clX2 (by decide) wd_3_11 dX2_copyOf_165 (fun q_41 hq_41 _ => ?_)
  refine lv_aload_n F.1 F.2.1 dX2_copyOf_168 rfl (lv_at hl 0 rfl) ?_
  refine tGetR (j := 15) F hK hH (tyb ha0 (all1 rfl)) rfl (all1 rfl) clX2 (by decide) wd_3_11 dX2_copyOf_169 (fun q_42 hq_42 _ => ?_)
  refine tNv (host := RX6) (As := [.ref q_41, .ref q_42]) (rest := []) F hK hN hO (c_X6_copyRow_A4R E dA dB (riverD (.inl (a, a)) (.inl (b, b)) (.inl (0, 4)) 31 33 35 39 43 47) rB rc rd tp A14F A14F A4F A4F A14F A14F rC (riverD (.inl (a, a)) (.inl (b, b)) (.inl (0, 4)) 3 8 3 42 46 50) A12D A12D A12D A12D A12F A12F A12F A12F A48F A48F A48F A48F q_41 q_42 hq_41 hq_42) ms_X6_copyRow hN.1.2.2.2.2.2 ⟨Nat.le_of_ble_eq_true rfl, Nat.le_of_ble_eq_true rfl⟩ ⟨Nat.le_of_ble_eq_true rfl, Nat.le_of_ble_eq_true rfl⟩ hH hS rfl hl.1 (Nat.le_of_ble_eq_true rfl) dX2_copyOf_172 (fun H locs hq hS => ?_)
  have hH := hq
  have hH : TH E (tbC dA dB (riverD (.inl (a, a)) (.inl (b, b)) (.inl (0, 4)) 31 33 35 39 43 47) rB rc rd tp A14F A14F A4F A4F A14F A14F rC (riverD (.inl (a, a)) (.inl (b, b)) (.inl (0, 4)) 3 8 3 42 46 50) A12D A12D A12D A12D A12F A12F A12F A12F A48F A48F A48F A48F) H := hH
  refine lv_aload_n F.1 F.2.1 dX2_copyOf_175 rfl (lv_at hl 1 rfl) ?_
  refine tGetR (j := 16) F hK hH (tyb ha1 (all1 rfl)) rfl (all1 rfl) clX2 (by decide) wd_3_12 dX2_copyOf_176 (fun q_44 hq_44 _ => ?_)
  refine lv_aload_n F.1 F.2.1 dX2_copyOf_179 rfl (lv_at hl 0 rfl) ?_
  refine tGetR (j := 16) F hK hH (tyb ha0 (all1 rfl)) rfl (all1 rfl) clX2 (by decide) wd_3_12 dX2_copyOf_180 (fun q_45 hq_45 _ => ?_)
  refine tNv (host := RX6) (As := [.ref q_44, .ref q_45]) (rest := []) F hK hN hO (c_X6_copyRow_A4F E dA dB (riverD (.inl (a, a)) (.inl (b, b)) (.inl (0, 4)) 31 33 35 39 43 47) rB rc rd tp A14F A14F A4F A4F A14F A14F rC (riverD (.inl (a, a)) (.inl (b, b)) (.inl (0, 4)) 3 8 3 42 46 50) A12D A12D A12D A12D A12F A12F A12F A12F A48F A48F A48F A48F q_44 q_45 hq_44 hq_45) ms_X6_copyRow hN.1.2.2.2.2.2 ⟨Nat.le_of_ble_eq_true rfl, Nat.le_of_ble_eq_true rfl⟩ ⟨Nat.le_of_ble_eq_true rfl, Nat.le_of_ble_eq_true rfl⟩ hH hS rfl hl.1 (Nat.le_of_ble_eq_true rfl) dX2_copyOf_183 (fun H locs hq hS => ?_)
  have hH := hq
  have hH : TH E (tbC dA dB (riverD (.inl (a, a)) (.inl (b, b)) (.inl (0, 4)) 31 33 35 39 43 47) rB rc rd tp A14F A14F A4F A4F A14F A14F rC (riverD (.inl (a, a)) (.inl (b, b)) (.inl (0, 4)) 3 8 3 42 46 50) A12D A12D A12D A12D A12F A12F A12F A12F A48F A48F A48F A48F) H := hH
  refine lv_aload_n F.1 F.2.1 dX2_copyOf_186 rfl (lv_at hl 1 rfl) ?_
  refine tGetR (j := 17) F hK hH (tyb ha1 (all1 rfl)) rfl (all1 rfl) clX2 (by decide) wd_3_13 dX2_copyOf_187 (fun q_47 hq_47 _ => ?_)
  refine lv_aload_n F.1 F.2.1 dX2_copyOf_190 rfl (lv_at hl 0 rfl) ?_
  refine tGetR (j := 17) F hK hH (tyb ha0 (all1 rfl)) rfl (all1 rfl) clX2 (by decide) wd_3_13 dX2_copyOf_191 (fun q_48 hq_48 _ => ?_)
  refine tNv (host := RX6) (As := [.ref q_47, .ref q_48]) (rest := []) F hK hN hO (c_X6_copyRow_A4F E dA dB (riverD (.inl (a, a)) (.inl (b, b)) (.inl (0, 4)) 31 33 35 39 43 47) rB rc rd tp A14F A14F A4F A4F A14F A14F rC (riverD (.inl (a, a)) (.inl (b, b)) (.inl (0, 4)) 3 8 3 42 46 50) A12D A12D A12D A12D A12F A12F A12F A12F A48F A48F A48F A48F q_47 q_48 hq_47 hq_48) ms_X6_copyRow hN.1.2.2.2.2.2 ⟨Nat.le_of_ble_eq_true rfl, Nat.le_of_ble_eq_true rfl⟩ ⟨Nat.le_of_ble_eq_true rfl, Nat.le_of_ble_eq_true rfl⟩ hH hS rfl hl.1 (Nat.le_of_ble_eq_true rfl) dX2_copyOf_194 (fun H locs hq hS => ?_)
  have hH := hq
  have hH : TH E (tbC dA dB (riverD (.inl (a, a)) (.inl (b, b)) (.inl (0, 4)) 31 33 35 39 43 47) rB rc rd tp A14F A14F A4F A4F A14F A14F rC (riverD (.inl (a, a)) (.inl (b, b)) (.inl (0, 4)) 3 8 3 42 46 50) A12D A12D A12D A12D A12F A12F A12F A12F A48F A48F A48F A48F) H := hH
  refine lv_aload_n F.1 F.2.1 dX2_copyOf_197 rfl (lv_at hl 1 rfl) ?_
  refine tGetR (j := 18) F hK hH (tyb ha1 (all1 rfl)) rfl (all1 rfl) clX2 (by decide) wd_3_14 dX2_copyOf_198 (fun q_50 hq_50 _ => ?_)
  refine lv_aload_n F.1 F.2.1 dX2_copyOf_201 rfl (lv_at hl 0 rfl) ?_
  refine tGetR (j := 18) F hK hH (tyb ha0 (all1 rfl)) rfl (all1 rfl) clX2 (by decide) wd_3_14 dX2_copyOf_202 (fun q_51 hq_51 _ => ?_)
  refine tNv (host := RX6) (As := [.ref q_50, .ref q_51]) (rest := []) F hK hN hO (c_X6_copyRow_s E dA dB (riverD (.inl (a, a)) (.inl (b, b)) (.inl (0, 4)) 31 33 35 39 43 47) rB rc rd tp rC (riverD (.inl (a, a)) (.inl (b, b)) (.inl (0, 4)) 3 8 3 42 46 50) A12D A12D A12D A12D A12F A12F A12F A12F A48F A48F A48F A48F q_50 q_51 (by have h9_ := hq_50; simp at h9_ ⊢; omega) (by have h9_ := hq_51; simp at h9_ ⊢; omega)) ms_X6_copyRow hN.1.2.2.2.2.2 ⟨Nat.le_of_ble_eq_true rfl, Nat.le_of_ble_eq_true rfl⟩ ⟨Nat.le_of_ble_eq_true rfl, Nat.le_of_ble_eq_true rfl⟩ hH hS rfl hl.1 (Nat.le_of_ble_eq_true rfl) dX2_copyOf_205 (fun H locs hq hS => ?_)
  have hH := hq
  have hH : TH E (tbC dA dB (riverD (.inl (a, a)) (.inl (b, b)) (.inl (0, 4)) 31 33 35 39 43 47) rB rc rd tp A14F A14F A4F A4F A14F A14F rC (riverD (.inl (a, a)) (.inl (b, b)) (.inl (0, 4)) 3 8 3 42 46 50) A12D A12D A12D A12D A12F A12F A12F A12F A48F A48F A48F A48F) H := hH
  exact txV F hS dX2_copyOf_208 (hH)
set_option maxHeartbeats 4000000 in
set_option maxRecDepth 100000 in
theorem c_X2_copyOf_27_37 (E : Ev) (dA : TD) (dB : TD) (rA : TD) (rc : TD) (rd : TD) (tp : TD) (rD : TD) (Fa2 : Int × Int) (Fb2 : Int × Int) (a : Int) (b : Int) (a0 : Nat) (a1 : Nat) (ha0 : eT E a0 ∈ [27]) (ha1 : eT E a1 ∈ [37]) (ha : 0 ≤ a ∧ a ≤ 12) (hb : 0 ≤ b ∧ b ≤ 14) (hFa2 : 0 ≤ Fa2.1 ∧ Fa2.2 ≤ 12) (hFb2 : 0 ≤ Fb2.1 ∧ Fb2.2 ≤ 14) : TcV E yX2_copyOf cX2_copyOf 2 ({ frames := 2, cells := 0, slots := 0, locals := 61 }) [.ref a0, .ref a1] (fun H => TH E (tbC dA dB rA (riverD (.inl Fa2) (.inl Fb2) (.inl (0, 4)) 32 34 36 40 44 48) rc rd tp A14F A14F A4F A4F A14F A14F (riverD (.inl (a, a)) (.inl (b, b)) (.inl (0, 4)) 3 8 3 41 45 49) rD A12D A12D A12D A12D A12F A12F A12F A12F A48F A48F A48F A48F) H) (fun H => TH E (tbC dA dB rA (riverD (.inl (a, a)) (.inl (b, b)) (.inl (0, 4)) 32 34 36 40 44 48) rc rd tp A14F A14F A4F A4F A14F A14F (riverD (.inl (a, a)) (.inl (b, b)) (.inl (0, 4)) 3 8 3 41 45 49) rD A12D A12D A12D A12D A12F A12F A12F A12F A48F A48F A48F A48F) H) := by
  refine teV (by decide) (Nat.le_of_ble_eq_true rfl) ?_
  intro p_ ev_ s mi_ below_ meth cd_ ls F hK hN hO hH hS hl
  have hH : TH E (tbC dA dB rA (riverD (.inl Fa2) (.inl Fb2) (.inl (0, 4)) 32 34 36 40 44 48) rc rd tp A14F A14F A4F A4F A14F A14F (riverD (.inl (a, a)) (.inl (b, b)) (.inl (0, 4)) 3 8 3 41 45 49) rD A12D A12D A12D A12D A12F A12F A12F A12F A48F A48F A48F A48F) s.heap := hH
  have hl : lv_has ls 2 [(0, .ref a0), (1, .ref a1)] := hl
  refine lv_aload_n F.1 F.2.1 dX2_copyOf_0 rfl (lv_at hl 0 rfl) ?_
  refine lv_aload_n F.1 F.2.1 dX2_copyOf_1 rfl (lv_at hl 1 rfl) ?_
  refine tGetI (j := 0) F hK hH (tyb ha1 (all1 rfl)) rfl clX2 (by decide) wd_9_11 dX2_copyOf_2 (fun z_1 hz_1 => ?_)
  have ez_1 : 0 ≤ z_1.toInt ∧ z_1.toInt ≤ 12 := by omega
  refine tPutG (j := 0) (t := 27) (fd := (.inl (a, a))) F hK hH hS (List.mem_singleton.mp ha0) (by decide) rfl rfl (fdI (by omega)) (TB1 := (tbC dA dB rA (riverD (.inl (a, a)) (.inl Fb2) (.inl (0, 4)) 32 34 36 40 44 48) rc rd tp A14F A14F A4F A4F A14F A14F (riverD (.inl (a, a)) (.inl (b, b)) (.inl (0, 4)) 3 8 3 41 45 49) rD A12D A12D A12D A12D A12F A12F A12F A12F A48F A48F A48F A48F)) rfl clX2 (by decide) wd_9_11 rfl rfl rfl rfl dX2_copyOf_5 (fun H locs hH hS => ?_)
  refine lv_aload_n F.1 F.2.1 dX2_copyOf_8 rfl (lv_at hl 0 rfl) ?_
  refine lv_aload_n F.1 F.2.1 dX2_copyOf_9 rfl (lv_at hl 1 rfl) ?_
  refine tGetI (j := 4) F hK hH (tyb ha1 (all1 rfl)) rfl clX2 (by decide) wd_9_12 dX2_copyOf_10 (fun z_2 hz_2 => ?_)
  have ez_2 : 0 ≤ z_2.toInt ∧ z_2.toInt ≤ 14 := by omega
  refine tPutG (j := 4) (t := 27) (fd := (.inl (b, b))) F hK hH hS (List.mem_singleton.mp ha0) (by decide) rfl rfl (fdI (by omega)) (TB1 := (tbC dA dB rA (riverD (.inl (a, a)) (.inl (b, b)) (.inl (0, 4)) 32 34 36 40 44 48) rc rd tp A14F A14F A4F A4F A14F A14F (riverD (.inl (a, a)) (.inl (b, b)) (.inl (0, 4)) 3 8 3 41 45 49) rD A12D A12D A12D A12D A12F A12F A12F A12F A48F A48F A48F A48F)) rfl clX2 (by decide) wd_9_12 rfl rfl rfl rfl dX2_copyOf_13 (fun H locs hH hS => ?_)
  refine lv_aload_n F.1 F.2.1 dX2_copyOf_16 rfl (lv_at hl 0 rfl) ?_
  refine lv_aload_n F.1 F.2.1 dX2_copyOf_17 rfl (lv_at hl 1 rfl) ?_
  refine tGetI (j := 14) F hK hH (tyb ha1 (all1 rfl)) rfl clX2 (by decide) wd_9_13 dX2_copyOf_18 (fun z_3 hz_3 => ?_)
  refine tPut (j := 14) F hK hH hS (tyb ha0 (all1 rfl)) rfl (fdI hz_3) clX2 (by decide) wd_9_13 rfl rfl rfl rfl dX2_copyOf_21 (fun H locs hH hS => ?_)
  refine lv_aload_n F.1 F.2.1 dX2_copyOf_24 rfl (lv_at hl 0 rfl) ?_
  refine lv_aload_n F.1 F.2.1 dX2_copyOf_25 rfl (lv_at hl 1 rfl) ?_
  refine tGetI (j := 19) F hK hH (tyb ha1 (all1 rfl)) rfl clX2 (by decide) wd_3_15 dX2_copyOf_26 (fun z_4 hz_4 => ?_)
  refine tPut (j := 19) F hK hH hS (tyb ha0 (all1 rfl)) rfl (fdI hz_4) clX2 (by decide) wd_3_15 rfl rfl rfl rfl dX2_copyOf_29 (fun H locs hH hS => ?_)
  refine lv_aload_n F.1 F.2.1 dX2_copyOf_32 rfl (lv_at hl 1 rfl) ?_
  refine tGetR (j := 1) F hK hH (tyb ha1 (all1 rfl)) rfl (all1 rfl) clX2 (by decide) wd_2_23 dX2_copyOf_33 (fun q_5 hq_5 _ => ?_)
  refine lv_aload_n F.1 F.2.1 dX2_copyOf_36 rfl (lv_at hl 0 rfl) ?_
  refine tGetR (j := 1) F hK hH (tyb ha0 (all1 rfl)) rfl (all1 rfl) clX2 (by decide) wd_2_23 dX2_copyOf_37 (fun q_6 hq_6 _ => ?_)
  refine tNv (host := RX6) (As := [.ref q_5, .ref q_6]) (rest := []) F hK hN hO (c_X6_copyRow_pd E dA dB rA (riverD (.inl (a, a)) (.inl (b, b)) (.inl (0, 4)) 32 34 36 40 44 48) rc rd tp A14F A14F A4F A4F A14F A14F (riverD (.inl (a, a)) (.inl (b, b)) (.inl (0, 4)) 3 8 3 41 45 49) rD A12F A12F A12F A12F A48F A48F A48F A48F q_5 q_6 (by have h9_ := hq_5; simp at h9_ ⊢; omega) (by have h9_ := hq_6; simp at h9_ ⊢; omega)) ms_X6_copyRow hN.1.2.2.2.2.2 ⟨Nat.le_of_ble_eq_true rfl, Nat.le_of_ble_eq_true rfl⟩ ⟨Nat.le_of_ble_eq_true rfl, Nat.le_of_ble_eq_true rfl⟩ hH hS rfl hl.1 (Nat.le_of_ble_eq_true rfl) dX2_copyOf_40 (fun H locs hq hS => ?_)
  have hH := hq
  have hH : TH E (tbC dA dB rA (riverD (.inl (a, a)) (.inl (b, b)) (.inl (0, 4)) 32 34 36 40 44 48) rc rd tp A14F A14F A4F A4F A14F A14F (riverD (.inl (a, a)) (.inl (b, b)) (.inl (0, 4)) 3 8 3 41 45 49) rD A12D A12D A12D A12D A12F A12F A12F A12F A48F A48F A48F A48F) H := hH
  refine lv_aload_n F.1 F.2.1 dX2_copyOf_43 rfl (lv_at hl 1 rfl) ?_
  refine tGetR (j := 2) F hK hH (tyb ha1 (all1 rfl)) rfl (all1 rfl) clX2 (by decide) wd_3_0 dX2_copyOf_44 (fun q_8 hq_8 _ => ?_)
  refine lv_aload_n F.1 F.2.1 dX2_copyOf_47 rfl (lv_at hl 0 rfl) ?_
  refine tGetR (j := 2) F hK hH (tyb ha0 (all1 rfl)) rfl (all1 rfl) clX2 (by decide) wd_3_0 dX2_copyOf_48 (fun q_9 hq_9 _ => ?_)
  refine tNv (host := RX6) (As := [.ref q_8, .ref q_9]) (rest := []) F hK hN hO (c_X6_copyRow_ps E dA dB rA (riverD (.inl (a, a)) (.inl (b, b)) (.inl (0, 4)) 32 34 36 40 44 48) rc rd tp A14F A14F A4F A4F A14F A14F (riverD (.inl (a, a)) (.inl (b, b)) (.inl (0, 4)) 3 8 3 41 45 49) rD A12D A12D A12D A12D A48F A48F A48F A48F q_8 q_9 (by have h9_ := hq_8; simp at h9_ ⊢; omega) (by have h9_ := hq_9; simp at h9_ ⊢; omega)) ms_X6_copyRow hN.1.2.2.2.2.2 ⟨Nat.le_of_ble_eq_true rfl, Nat.le_of_ble_eq_true rfl⟩ ⟨Nat.le_of_ble_eq_true rfl, Nat.le_of_ble_eq_true rfl⟩ hH hS rfl hl.1 (Nat.le_of_ble_eq_true rfl) dX2_copyOf_51 (fun H locs hq hS => ?_)
  have hH := hq
  have hH : TH E (tbC dA dB rA (riverD (.inl (a, a)) (.inl (b, b)) (.inl (0, 4)) 32 34 36 40 44 48) rc rd tp A14F A14F A4F A4F A14F A14F (riverD (.inl (a, a)) (.inl (b, b)) (.inl (0, 4)) 3 8 3 41 45 49) rD A12D A12D A12D A12D A12F A12F A12F A12F A48F A48F A48F A48F) H := hH
  refine lv_aload_n F.1 F.2.1 dX2_copyOf_54 rfl (lv_at hl 1 rfl) ?_
  refine tGetR (j := 3) F hK hH (tyb ha1 (all1 rfl)) rfl (all1 rfl) clX2 (by decide) wd_3_1 dX2_copyOf_55 (fun q_11 hq_11 _ => ?_)
  refine lv_aload_n F.1 F.2.1 dX2_copyOf_58 rfl (lv_at hl 0 rfl) ?_
  refine tGetR (j := 3) F hK hH (tyb ha0 (all1 rfl)) rfl (all1 rfl) clX2 (by decide) wd_3_1 dX2_copyOf_59 (fun q_12 hq_12 _ => ?_)
  refine tNv (host := RX6) (As := [.ref q_11, .ref q_12]) (rest := []) F hK hN hO (c_X6_copyRow_pi E dA dB rA (riverD (.inl (a, a)) (.inl (b, b)) (.inl (0, 4)) 32 34 36 40 44 48) rc rd tp A14F A14F A4F A4F A14F A14F (riverD (.inl (a, a)) (.inl (b, b)) (.inl (0, 4)) 3 8 3 41 45 49) rD A12D A12D A12D A12D A12F A12F A12F A12F q_11 q_12 (by have h9_ := hq_11; simp at h9_ ⊢; omega) (by have h9_ := hq_12; simp at h9_ ⊢; omega)) ms_X6_copyRow hN.1.2.2.2.2.2 ⟨Nat.le_of_ble_eq_true rfl, Nat.le_of_ble_eq_true rfl⟩ ⟨Nat.le_of_ble_eq_true rfl, Nat.le_of_ble_eq_true rfl⟩ hH hS rfl hl.1 (Nat.le_of_ble_eq_true rfl) dX2_copyOf_62 (fun H locs hq hS => ?_)
  have hH := hq
  have hH : TH E (tbC dA dB rA (riverD (.inl (a, a)) (.inl (b, b)) (.inl (0, 4)) 32 34 36 40 44 48) rc rd tp A14F A14F A4F A4F A14F A14F (riverD (.inl (a, a)) (.inl (b, b)) (.inl (0, 4)) 3 8 3 41 45 49) rD A12D A12D A12D A12D A12F A12F A12F A12F A48F A48F A48F A48F) H := hH
  refine lv_aload_n F.1 F.2.1 dX2_copyOf_65 rfl (lv_at hl 1 rfl) ?_
  refine tGetR (j := 5) F hK hH (tyb ha1 (all1 rfl)) rfl (all1 rfl) clX2 (by decide) wd_3_2 dX2_copyOf_66 (fun q_14 hq_14 _ => ?_)
  refine lv_aload_n F.1 F.2.1 dX2_copyOf_69 rfl (lv_at hl 0 rfl) ?_
  refine tGetR (j := 5) F hK hH (tyb ha0 (all1 rfl)) rfl (all1 rfl) clX2 (by decide) wd_3_2 dX2_copyOf_70 (fun q_15 hq_15 _ => ?_)
  refine tNv (host := RX6) (As := [.ref q_14, .ref q_15]) (rest := []) F hK hN hO (c_X6_copyRow_A14R E dA dB rA (riverD (.inl (a, a)) (.inl (b, b)) (.inl (0, 4)) 32 34 36 40 44 48) rc rd tp A14F A14F A4F A4F A14F A14F (riverD (.inl (a, a)) (.inl (b, b)) (.inl (0, 4)) 3 8 3 41 45 49) rD A12D A12D A12D A12D A12F A12F A12F A12F A48F A48F A48F A48F q_14 q_15 hq_14 hq_15) ms_X6_copyRow hN.1.2.2.2.2.2 ⟨Nat.le_of_ble_eq_true rfl, Nat.le_of_ble_eq_true rfl⟩ ⟨Nat.le_of_ble_eq_true rfl, Nat.le_of_ble_eq_true rfl⟩ hH hS rfl hl.1 (Nat.le_of_ble_eq_true rfl) dX2_copyOf_73 (fun H locs hq hS => ?_)
  have hH := hq
  have hH : TH E (tbC dA dB rA (riverD (.inl (a, a)) (.inl (b, b)) (.inl (0, 4)) 32 34 36 40 44 48) rc rd tp A14F A14F A4F A4F A14F A14F (riverD (.inl (a, a)) (.inl (b, b)) (.inl (0, 4)) 3 8 3 41 45 49) rD A12D A12D A12D A12D A12F A12F A12F A12F A48F A48F A48F A48F) H := hH
  refine lv_aload_n F.1 F.2.1 dX2_copyOf_76 rfl (lv_at hl 1 rfl) ?_
  refine tGetR (j := 6) F hK hH (tyb ha1 (all1 rfl)) rfl (all1 rfl) clX2 (by decide) wd_3_3 dX2_copyOf_77 (fun q_17 hq_17 _ => ?_)
  refine lv_aload_n F.1 F.2.1 dX2_copyOf_80 rfl (lv_at hl 0 rfl) ?_
  refine tGetR (j := 6) F hK hH (tyb ha0 (all1 rfl)) rfl (all1 rfl) clX2 (by decide) wd_3_3 dX2_copyOf_81 (fun q_18 hq_18 _ => ?_)
  refine tNv (host := RX6) (As := [.ref q_17, .ref q_18]) (rest := []) F hK hN hO (c_X6_copyRow_A14F E dA dB rA (riverD (.inl (a, a)) (.inl (b, b)) (.inl (0, 4)) 32 34 36 40 44 48) rc rd tp A14F A14F A4F A4F A14F A14F (riverD (.inl (a, a)) (.inl (b, b)) (.inl (0, 4)) 3 8 3 41 45 49) rD A12D A12D A12D A12D A12F A12F A12F A12F A48F A48F A48F A48F q_17 q_18 hq_17 hq_18) ms_X6_copyRow hN.1.2.2.2.2.2 ⟨Nat.le_of_ble_eq_true rfl, Nat.le_of_ble_eq_true rfl⟩ ⟨Nat.le_of_ble_eq_true rfl, Nat.le_of_ble_eq_true rfl⟩ hH hS rfl hl.1 (Nat.le_of_ble_eq_true rfl) dX2_copyOf_84 (fun H locs hq hS => ?_)
  have hH := hq
  have hH : TH E (tbC dA dB rA (riverD (.inl (a, a)) (.inl (b, b)) (.inl (0, 4)) 32 34 36 40 44 48) rc rd tp A14F A14F A4F A4F A14F A14F (riverD (.inl (a, a)) (.inl (b, b)) (.inl (0, 4)) 3 8 3 41 45 49) rD A12D A12D A12D A12D A12F A12F A12F A12F A48F A48F A48F A48F) H := hH
  refine lv_aload_n F.1 F.2.1 dX2_copyOf_87 rfl (lv_at hl 1 rfl) ?_
  refine tGetR (j := 7) F hK hH (tyb ha1 (all1 rfl)) rfl (all1 rfl) clX2 (by decide) wd_3_4 dX2_copyOf_88 (fun q_20 hq_20 _ => ?_)
  refine lv_aload_n F.1 F.2.1 dX2_copyOf_91 rfl (lv_at hl 0 rfl) ?_
  refine tGetR (j := 7) F hK hH (tyb ha0 (all1 rfl)) rfl (all1 rfl) clX2 (by decide) wd_3_4 dX2_copyOf_92 (fun q_21 hq_21 _ => ?_)
  refine tNv (host := RX6) (As := [.ref q_20, .ref q_21]) (rest := []) F hK hN hO (c_X6_copyRow_f E dA dB rA (riverD (.inl (a, a)) (.inl (b, b)) (.inl (0, 4)) 32 34 36 40 44 48) rc rd tp (riverD (.inl (a, a)) (.inl (b, b)) (.inl (0, 4)) 3 8 3 41 45 49) rD A12D A12D A12D A12D A12F A12F A12F A12F A48F A48F A48F A48F q_20 q_21 (by have h9_ := hq_20; simp at h9_ ⊢; omega) (by have h9_ := hq_21; simp at h9_ ⊢; omega)) ms_X6_copyRow hN.1.2.2.2.2.2 ⟨Nat.le_of_ble_eq_true rfl, Nat.le_of_ble_eq_true rfl⟩ ⟨Nat.le_of_ble_eq_true rfl, Nat.le_of_ble_eq_true rfl⟩ hH hS rfl hl.1 (Nat.le_of_ble_eq_true rfl) dX2_copyOf_95 (fun H locs hq hS => ?_)
  have hH := hq
  have hH : TH E (tbC dA dB rA (riverD (.inl (a, a)) (.inl (b, b)) (.inl (0, 4)) 32 34 36 40 44 48) rc rd tp A14F A14F A4F A4F A14F A14F (riverD (.inl (a, a)) (.inl (b, b)) (.inl (0, 4)) 3 8 3 41 45 49) rD A12D A12D A12D A12D A12F A12F A12F A12F A48F A48F A48F A48F) H := hH
  refine lv_aload_n F.1 F.2.1 dX2_copyOf_98 rfl (lv_at hl 1 rfl) ?_
  refine tGetR (j := 8) F hK hH (tyb ha1 (all1 rfl)) rfl (all1 rfl) clX2 (by decide) wd_3_5 dX2_copyOf_99 (fun q_23 hq_23 _ => ?_)
  refine lv_aload_n F.1 F.2.1 dX2_copyOf_102 rfl (lv_at hl 0 rfl) ?_
  refine tGetR (j := 8) F hK hH (tyb ha0 (all1 rfl)) rfl (all1 rfl) clX2 (by decide) wd_3_5 dX2_copyOf_103 (fun q_24 hq_24 _ => ?_)
  refine tNv (host := RX6) (As := [.ref q_23, .ref q_24]) (rest := []) F hK hN hO (c_X6_copyRow_A14F E dA dB rA (riverD (.inl (a, a)) (.inl (b, b)) (.inl (0, 4)) 32 34 36 40 44 48) rc rd tp A14F A14F A4F A4F A14F A14F (riverD (.inl (a, a)) (.inl (b, b)) (.inl (0, 4)) 3 8 3 41 45 49) rD A12D A12D A12D A12D A12F A12F A12F A12F A48F A48F A48F A48F q_23 q_24 hq_23 hq_24) ms_X6_copyRow hN.1.2.2.2.2.2 ⟨Nat.le_of_ble_eq_true rfl, Nat.le_of_ble_eq_true rfl⟩ ⟨Nat.le_of_ble_eq_true rfl, Nat.le_of_ble_eq_true rfl⟩ hH hS rfl hl.1 (Nat.le_of_ble_eq_true rfl) dX2_copyOf_106 (fun H locs hq hS => ?_)
  have hH := hq
  have hH : TH E (tbC dA dB rA (riverD (.inl (a, a)) (.inl (b, b)) (.inl (0, 4)) 32 34 36 40 44 48) rc rd tp A14F A14F A4F A4F A14F A14F (riverD (.inl (a, a)) (.inl (b, b)) (.inl (0, 4)) 3 8 3 41 45 49) rD A12D A12D A12D A12D A12F A12F A12F A12F A48F A48F A48F A48F) H := hH
  refine lv_aload_n F.1 F.2.1 dX2_copyOf_109 rfl (lv_at hl 1 rfl) ?_
  refine tGetR (j := 9) F hK hH (tyb ha1 (all1 rfl)) rfl (all1 rfl) clX2 (by decide) wd_3_6 dX2_copyOf_110 (fun q_26 hq_26 _ => ?_)
  refine lv_aload_n F.1 F.2.1 dX2_copyOf_113 rfl (lv_at hl 0 rfl) ?_
  refine tGetR (j := 9) F hK hH (tyb ha0 (all1 rfl)) rfl (all1 rfl) clX2 (by decide) wd_3_6 dX2_copyOf_114 (fun q_27 hq_27 _ => ?_)
  refine tNv (host := RX6) (As := [.ref q_26, .ref q_27]) (rest := []) F hK hN hO (c_X6_copyRow_g E dA dB rA (riverD (.inl (a, a)) (.inl (b, b)) (.inl (0, 4)) 32 34 36 40 44 48) rc rd tp (riverD (.inl (a, a)) (.inl (b, b)) (.inl (0, 4)) 3 8 3 41 45 49) rD A12D A12D A12D A12D A12F A12F A12F A12F A48F A48F A48F A48F q_26 q_27 (by have h9_ := hq_26; simp at h9_ ⊢; omega) (by have h9_ := hq_27; simp at h9_ ⊢; omega)) ms_X6_copyRow hN.1.2.2.2.2.2 ⟨Nat.le_of_ble_eq_true rfl, Nat.le_of_ble_eq_true rfl⟩ ⟨Nat.le_of_ble_eq_true rfl, Nat.le_of_ble_eq_true rfl⟩ hH hS rfl hl.1 (Nat.le_of_ble_eq_true rfl) dX2_copyOf_117 (fun H locs hq hS => ?_)
  have hH := hq
  have hH : TH E (tbC dA dB rA (riverD (.inl (a, a)) (.inl (b, b)) (.inl (0, 4)) 32 34 36 40 44 48) rc rd tp A14F A14F A4F A4F A14F A14F (riverD (.inl (a, a)) (.inl (b, b)) (.inl (0, 4)) 3 8 3 41 45 49) rD A12D A12D A12D A12D A12F A12F A12F A12F A48F A48F A48F A48F) H := hH
  refine lv_aload_n F.1 F.2.1 dX2_copyOf_120 rfl (lv_at hl 1 rfl) ?_
  refine tGetR (j := 10) F hK hH (tyb ha1 (all1 rfl)) rfl (all1 rfl) clX2 (by decide) wd_3_7 dX2_copyOf_121 (fun q_29 hq_29 _ => ?_)
  refine lv_aload_n F.1 F.2.1 dX2_copyOf_124 rfl (lv_at hl 0 rfl) ?_
  refine tGetR (j := 10) F hK hH (tyb ha0 (all1 rfl)) rfl (all1 rfl) clX2 (by decide) wd_3_7 dX2_copyOf_125 (fun q_30 hq_30 _ => ?_)
  refine tNv (host := RX6) (As := [.ref q_29, .ref q_30]) (rest := []) F hK hN hO (c_X6_copyRow_A14F E dA dB rA (riverD (.inl (a, a)) (.inl (b, b)) (.inl (0, 4)) 32 34 36 40 44 48) rc rd tp A14F A14F A4F A4F A14F A14F (riverD (.inl (a, a)) (.inl (b, b)) (.inl (0, 4)) 3 8 3 41 45 49) rD A12D A12D A12D A12D A12F A12F A12F A12F A48F A48F A48F A48F q_29 q_30 hq_29 hq_30) ms_X6_copyRow hN.1.2.2.2.2.2 ⟨Nat.le_of_ble_eq_true rfl, Nat.le_of_ble_eq_true rfl⟩ ⟨Nat.le_of_ble_eq_true rfl, Nat.le_of_ble_eq_true rfl⟩ hH hS rfl hl.1 (Nat.le_of_ble_eq_true rfl) dX2_copyOf_128 (fun H locs hq hS => ?_)
  have hH := hq
  have hH : TH E (tbC dA dB rA (riverD (.inl (a, a)) (.inl (b, b)) (.inl (0, 4)) 32 34 36 40 44 48) rc rd tp A14F A14F A4F A4F A14F A14F (riverD (.inl (a, a)) (.inl (b, b)) (.inl (0, 4)) 3 8 3 41 45 49) rD A12D A12D A12D A12D A12F A12F A12F A12F A48F A48F A48F A48F) H := hH
  refine lv_aload_n F.1 F.2.1 dX2_copyOf_131 rfl (lv_at hl 1 rfl) ?_
  refine tGetR (j := 11) F hK hH (tyb ha1 (all1 rfl)) rfl (all1 rfl) clX2 (by decide) wd_3_8 dX2_copyOf_132 (fun q_32 hq_32 _ => ?_)
  refine lv_aload_n F.1 F.2.1 dX2_copyOf_135 rfl (lv_at hl 0 rfl) ?_
  refine tGetR (j := 11) F hK hH (tyb ha0 (all1 rfl)) rfl (all1 rfl) clX2 (by decide) wd_3_8 dX2_copyOf_136 (fun q_33 hq_33 _ => ?_)
  refine tNv (host := RX6) (As := [.ref q_32, .ref q_33]) (rest := []) F hK hN hO (c_X6_copyRow_A14B E dA dB rA (riverD (.inl (a, a)) (.inl (b, b)) (.inl (0, 4)) 32 34 36 40 44 48) rc rd tp A14F A14F A4F A4F A14F A14F (riverD (.inl (a, a)) (.inl (b, b)) (.inl (0, 4)) 3 8 3 41 45 49) rD A12D A12D A12D A12D A12F A12F A12F A12F A48F A48F A48F A48F q_32 q_33 hq_32 hq_33) ms_X6_copyRow hN.1.2.2.2.2.2 ⟨Nat.le_of_ble_eq_true rfl, Nat.le_of_ble_eq_true rfl⟩ ⟨Nat.le_of_ble_eq_true rfl, Nat.le_of_ble_eq_true rfl⟩ hH hS rfl hl.1 (Nat.le_of_ble_eq_true rfl) dX2_copyOf_139 (fun H locs hq hS => ?_)
  have hH := hq
  have hH : TH E (tbC dA dB rA (riverD (.inl (a, a)) (.inl (b, b)) (.inl (0, 4)) 32 34 36 40 44 48) rc rd tp A14F A14F A4F A4F A14F A14F (riverD (.inl (a, a)) (.inl (b, b)) (.inl (0, 4)) 3 8 3 41 45 49) rD A12D A12D A12D A12D A12F A12F A12F A12F A48F A48F A48F A48F) H := hH
  refine lv_aload_n F.1 F.2.1 dX2_copyOf_142 rfl (lv_at hl 1 rfl) ?_
  refine tGetR (j := 12) F hK hH (tyb ha1 (all1 rfl)) rfl (all1 rfl) clX2 (by decide) wd_3_9 dX2_copyOf_143 (fun q_35 hq_35 _ => ?_)
  refine lv_aload_n F.1 F.2.1 dX2_copyOf_146 rfl (lv_at hl 0 rfl) ?_
  refine tGetR (j := 12) F hK hH (tyb ha0 (all1 rfl)) rfl (all1 rfl) clX2 (by decide) wd_3_9 dX2_copyOf_147 (fun q_36 hq_36 _ => ?_)
  refine tNv (host := RX6) (As := [.ref q_35, .ref q_36]) (rest := []) F hK hN hO (c_X6_copyRow_A14F E dA dB rA (riverD (.inl (a, a)) (.inl (b, b)) (.inl (0, 4)) 32 34 36 40 44 48) rc rd tp A14F A14F A4F A4F A14F A14F (riverD (.inl (a, a)) (.inl (b, b)) (.inl (0, 4)) 3 8 3 41 45 49) rD A12D A12D A12D A12D A12F A12F A12F A12F A48F A48F A48F A48F q_35 q_36 hq_35 hq_36) ms_X6_copyRow hN.1.2.2.2.2.2 ⟨Nat.le_of_ble_eq_true rfl, Nat.le_of_ble_eq_true rfl⟩ ⟨Nat.le_of_ble_eq_true rfl, Nat.le_of_ble_eq_true rfl⟩ hH hS rfl hl.1 (Nat.le_of_ble_eq_true rfl) dX2_copyOf_150 (fun H locs hq hS => ?_)
  have hH := hq
  have hH : TH E (tbC dA dB rA (riverD (.inl (a, a)) (.inl (b, b)) (.inl (0, 4)) 32 34 36 40 44 48) rc rd tp A14F A14F A4F A4F A14F A14F (riverD (.inl (a, a)) (.inl (b, b)) (.inl (0, 4)) 3 8 3 41 45 49) rD A12D A12D A12D A12D A12F A12F A12F A12F A48F A48F A48F A48F) H := hH
  refine lv_aload_n F.1 F.2.1 dX2_copyOf_153 rfl (lv_at hl 1 rfl) ?_
  refine tGetR (j := 13) F hK hH (tyb ha1 (all1 rfl)) rfl (all1 rfl) clX2 (by decide) wd_3_10 dX2_copyOf_154 (fun q_38 hq_38 _ => ?_)
  refine lv_aload_n F.1 F.2.1 dX2_copyOf_157 rfl (lv_at hl 0 rfl) ?_
  refine tGetR (j := 13) F hK hH (tyb ha0 (all1 rfl)) rfl (all1 rfl) clX2 (by decide) wd_3_10 dX2_copyOf_158 (fun q_39 hq_39 _ => ?_)
  refine tNv (host := RX6) (As := [.ref q_38, .ref q_39]) (rest := []) F hK hN hO (c_X6_copyRow_A14L E dA dB rA (riverD (.inl (a, a)) (.inl (b, b)) (.inl (0, 4)) 32 34 36 40 44 48) rc rd tp A14F A14F A4F A4F A14F A14F (riverD (.inl (a, a)) (.inl (b, b)) (.inl (0, 4)) 3 8 3 41 45 49) rD A12D A12D A12D A12D A12F A12F A12F A12F A48F A48F A48F A48F q_38 q_39 hq_38 hq_39) ms_X6_copyRow hN.1.2.2.2.2.2 ⟨Nat.le_of_ble_eq_true rfl, Nat.le_of_ble_eq_true rfl⟩ ⟨Nat.le_of_ble_eq_true rfl, Nat.le_of_ble_eq_true rfl⟩ hH hS rfl hl.1 (Nat.le_of_ble_eq_true rfl) dX2_copyOf_161 (fun H locs hq hS => ?_)
  have hH := hq
  have hH : TH E (tbC dA dB rA (riverD (.inl (a, a)) (.inl (b, b)) (.inl (0, 4)) 32 34 36 40 44 48) rc rd tp A14F A14F A4F A4F A14F A14F (riverD (.inl (a, a)) (.inl (b, b)) (.inl (0, 4)) 3 8 3 41 45 49) rD A12D A12D A12D A12D A12F A12F A12F A12F A48F A48F A48F A48F) H := hH
  refine lv_aload_n F.1 F.2.1 dX2_copyOf_164 rfl (lv_at hl 1 rfl) ?_
  refine tGetR (j := 15) F hK hH (tyb ha1 (all1 rfl)) rfl (all1 rfl) clX2 (by decide) wd_3_11 dX2_copyOf_165 (fun q_41 hq_41 _ => ?_)
  refine lv_aload_n F.1 F.2.1 dX2_copyOf_168 rfl (lv_at hl 0 rfl) ?_
  refine tGetR (j := 15) F hK hH (tyb ha0 (all1 rfl)) rfl (all1 rfl) clX2 (by decide) wd_3_11 dX2_copyOf_169 (fun q_42 hq_42 _ => ?_)
  refine tNv (host := RX6) (As := [.ref q_41, .ref q_42]) (rest := []) F hK hN hO (c_X6_copyRow_A4R E dA dB rA (riverD (.inl (a, a)) (.inl (b, b)) (.inl (0, 4)) 32 34 36 40 44 48) rc rd tp A14F A14F A4F A4F A14F A14F (riverD (.inl (a, a)) (.inl (b, b)) (.inl (0, 4)) 3 8 3 41 45 49) rD A12D A12D A12D A12D A12F A12F A12F A12F A48F A48F A48F A48F q_41 q_42 hq_41 hq_42) ms_X6_copyRow hN.1.2.2.2.2.2 ⟨Nat.le_of_ble_eq_true rfl, Nat.le_of_ble_eq_true rfl⟩ ⟨Nat.le_of_ble_eq_true rfl, Nat.le_of_ble_eq_true rfl⟩ hH hS rfl hl.1 (Nat.le_of_ble_eq_true rfl) dX2_copyOf_172 (fun H locs hq hS => ?_)
  have hH := hq
  have hH : TH E (tbC dA dB rA (riverD (.inl (a, a)) (.inl (b, b)) (.inl (0, 4)) 32 34 36 40 44 48) rc rd tp A14F A14F A4F A4F A14F A14F (riverD (.inl (a, a)) (.inl (b, b)) (.inl (0, 4)) 3 8 3 41 45 49) rD A12D A12D A12D A12D A12F A12F A12F A12F A48F A48F A48F A48F) H := hH
  refine lv_aload_n F.1 F.2.1 dX2_copyOf_175 rfl (lv_at hl 1 rfl) ?_
  refine tGetR (j := 16) F hK hH (tyb ha1 (all1 rfl)) rfl (all1 rfl) clX2 (by decide) wd_3_12 dX2_copyOf_176 (fun q_44 hq_44 _ => ?_)
  refine lv_aload_n F.1 F.2.1 dX2_copyOf_179 rfl (lv_at hl 0 rfl) ?_
  refine tGetR (j := 16) F hK hH (tyb ha0 (all1 rfl)) rfl (all1 rfl) clX2 (by decide) wd_3_12 dX2_copyOf_180 (fun q_45 hq_45 _ => ?_)
  refine tNv (host := RX6) (As := [.ref q_44, .ref q_45]) (rest := []) F hK hN hO (c_X6_copyRow_A4F E dA dB rA (riverD (.inl (a, a)) (.inl (b, b)) (.inl (0, 4)) 32 34 36 40 44 48) rc rd tp A14F A14F A4F A4F A14F A14F (riverD (.inl (a, a)) (.inl (b, b)) (.inl (0, 4)) 3 8 3 41 45 49) rD A12D A12D A12D A12D A12F A12F A12F A12F A48F A48F A48F A48F q_44 q_45 hq_44 hq_45) ms_X6_copyRow hN.1.2.2.2.2.2 ⟨Nat.le_of_ble_eq_true rfl, Nat.le_of_ble_eq_true rfl⟩ ⟨Nat.le_of_ble_eq_true rfl, Nat.le_of_ble_eq_true rfl⟩ hH hS rfl hl.1 (Nat.le_of_ble_eq_true rfl) dX2_copyOf_183 (fun H locs hq hS => ?_)
  have hH := hq
  have hH : TH E (tbC dA dB rA (riverD (.inl (a, a)) (.inl (b, b)) (.inl (0, 4)) 32 34 36 40 44 48) rc rd tp A14F A14F A4F A4F A14F A14F (riverD (.inl (a, a)) (.inl (b, b)) (.inl (0, 4)) 3 8 3 41 45 49) rD A12D A12D A12D A12D A12F A12F A12F A12F A48F A48F A48F A48F) H := hH
  refine lv_aload_n F.1 F.2.1 dX2_copyOf_186 rfl (lv_at hl 1 rfl) ?_
  refine tGetR (j := 17) F hK hH (tyb ha1 (all1 rfl)) rfl (all1 rfl) clX2 (by decide) wd_3_13 dX2_copyOf_187 (fun q_47 hq_47 _ => ?_)
  refine lv_aload_n F.1 F.2.1 dX2_copyOf_190 rfl (lv_at hl 0 rfl) ?_
  refine tGetR (j := 17) F hK hH (tyb ha0 (all1 rfl)) rfl (all1 rfl) clX2 (by decide) wd_3_13 dX2_copyOf_191 (fun q_48 hq_48 _ => ?_)
  refine tNv (host := RX6) (As := [.ref q_47, .ref q_48]) (rest := []) F hK hN hO (c_X6_copyRow_A4F E dA dB rA (riverD (.inl (a, a)) (.inl (b, b)) (.inl (0, 4)) 32 34 36 40 44 48) rc rd tp A14F A14F A4F A4F A14F A14F (riverD (.inl (a, a)) (.inl (b, b)) (.inl (0, 4)) 3 8 3 41 45 49) rD A12D A12D A12D A12D A12F A12F A12F A12F A48F A48F A48F A48F q_47 q_48 hq_47 hq_48) ms_X6_copyRow hN.1.2.2.2.2.2 ⟨Nat.le_of_ble_eq_true rfl, Nat.le_of_ble_eq_true rfl⟩ ⟨Nat.le_of_ble_eq_true rfl, Nat.le_of_ble_eq_true rfl⟩ hH hS rfl hl.1 (Nat.le_of_ble_eq_true rfl) dX2_copyOf_194 (fun H locs hq hS => ?_)
  have hH := hq
  have hH : TH E (tbC dA dB rA (riverD (.inl (a, a)) (.inl (b, b)) (.inl (0, 4)) 32 34 36 40 44 48) rc rd tp A14F A14F A4F A4F A14F A14F (riverD (.inl (a, a)) (.inl (b, b)) (.inl (0, 4)) 3 8 3 41 45 49) rD A12D A12D A12D A12D A12F A12F A12F A12F A48F A48F A48F A48F) H := hH
  refine lv_aload_n F.1 F.2.1 dX2_copyOf_197 rfl (lv_at hl 1 rfl) ?_
  refine tGetR (j := 18) F hK hH (tyb ha1 (all1 rfl)) rfl (all1 rfl) clX2 (by decide) wd_3_14 dX2_copyOf_198 (fun q_50 hq_50 _ => ?_)
  refine lv_aload_n F.1 F.2.1 dX2_copyOf_201 rfl (lv_at hl 0 rfl) ?_
  refine tGetR (j := 18) F hK hH (tyb ha0 (all1 rfl)) rfl (all1 rfl) clX2 (by decide) wd_3_14 dX2_copyOf_202 (fun q_51 hq_51 _ => ?_)
  refine tNv (host := RX6) (As := [.ref q_50, .ref q_51]) (rest := []) F hK hN hO (c_X6_copyRow_s E dA dB rA (riverD (.inl (a, a)) (.inl (b, b)) (.inl (0, 4)) 32 34 36 40 44 48) rc rd tp (riverD (.inl (a, a)) (.inl (b, b)) (.inl (0, 4)) 3 8 3 41 45 49) rD A12D A12D A12D A12D A12F A12F A12F A12F A48F A48F A48F A48F q_50 q_51 (by have h9_ := hq_50; simp at h9_ ⊢; omega) (by have h9_ := hq_51; simp at h9_ ⊢; omega)) ms_X6_copyRow hN.1.2.2.2.2.2 ⟨Nat.le_of_ble_eq_true rfl, Nat.le_of_ble_eq_true rfl⟩ ⟨Nat.le_of_ble_eq_true rfl, Nat.le_of_ble_eq_true rfl⟩ hH hS rfl hl.1 (Nat.le_of_ble_eq_true rfl) dX2_copyOf_205 (fun H locs hq hS => ?_)
  have hH := hq
  have hH : TH E (tbC dA dB rA (riverD (.inl (a, a)) (.inl (b, b)) (.inl (0, 4)) 32 34 36 40 44 48) rc rd tp A14F A14F A4F A4F A14F A14F (riverD (.inl (a, a)) (.inl (b, b)) (.inl (0, 4)) 3 8 3 41 45 49) rD A12D A12D A12D A12D A12F A12F A12F A12F A48F A48F A48F A48F) H := hH
  exact txV F hS dX2_copyOf_208 (hH)
set_option maxHeartbeats 4000000 in
set_option maxRecDepth 100000 in
theorem c_X2_copyOf_27_38 (E : Ev) (dA : TD) (dB : TD) (rA : TD) (rc : TD) (rd : TD) (tp : TD) (rC : TD) (Fa2 : Int × Int) (Fb2 : Int × Int) (a : Int) (b : Int) (a0 : Nat) (a1 : Nat) (ha0 : eT E a0 ∈ [27]) (ha1 : eT E a1 ∈ [38]) (ha : 0 ≤ a ∧ a ≤ 12) (hb : 0 ≤ b ∧ b ≤ 14) (hFa2 : 0 ≤ Fa2.1 ∧ Fa2.2 ≤ 12) (hFb2 : 0 ≤ Fb2.1 ∧ Fb2.2 ≤ 14) : TcV E yX2_copyOf cX2_copyOf 2 ({ frames := 2, cells := 0, slots := 0, locals := 61 }) [.ref a0, .ref a1] (fun H => TH E (tbC dA dB rA (riverD (.inl Fa2) (.inl Fb2) (.inl (0, 4)) 32 34 36 40 44 48) rc rd tp A14F A14F A4F A4F A14F A14F rC (riverD (.inl (a, a)) (.inl (b, b)) (.inl (0, 4)) 3 8 3 42 46 50) A12D A12D A12D A12D A12F A12F A12F A12F A48F A48F A48F A48F) H) (fun H => TH E (tbC dA dB rA (riverD (.inl (a, a)) (.inl (b, b)) (.inl (0, 4)) 32 34 36 40 44 48) rc rd tp A14F A14F A4F A4F A14F A14F rC (riverD (.inl (a, a)) (.inl (b, b)) (.inl (0, 4)) 3 8 3 42 46 50) A12D A12D A12D A12D A12F A12F A12F A12F A48F A48F A48F A48F) H) := by
  refine teV (by decide) (Nat.le_of_ble_eq_true rfl) ?_
  intro p_ ev_ s mi_ below_ meth cd_ ls F hK hN hO hH hS hl
  have hH : TH E (tbC dA dB rA (riverD (.inl Fa2) (.inl Fb2) (.inl (0, 4)) 32 34 36 40 44 48) rc rd tp A14F A14F A4F A4F A14F A14F rC (riverD (.inl (a, a)) (.inl (b, b)) (.inl (0, 4)) 3 8 3 42 46 50) A12D A12D A12D A12D A12F A12F A12F A12F A48F A48F A48F A48F) s.heap := hH
  have hl : lv_has ls 2 [(0, .ref a0), (1, .ref a1)] := hl
  refine lv_aload_n F.1 F.2.1 dX2_copyOf_0 rfl (lv_at hl 0 rfl) ?_
  refine lv_aload_n F.1 F.2.1 dX2_copyOf_1 rfl (lv_at hl 1 rfl) ?_
  refine tGetI (j := 0) F hK hH (tyb ha1 (all1 rfl)) rfl clX2 (by decide) wd_9_11 dX2_copyOf_2 (fun z_1 hz_1 => ?_)
  have ez_1 : 0 ≤ z_1.toInt ∧ z_1.toInt ≤ 12 := by omega
  refine tPutG (j := 0) (t := 27) (fd := (.inl (a, a))) F hK hH hS (List.mem_singleton.mp ha0) (by decide) rfl rfl (fdI (by omega)) (TB1 := (tbC dA dB rA (riverD (.inl (a, a)) (.inl Fb2) (.inl (0, 4)) 32 34 36 40 44 48) rc rd tp A14F A14F A4F A4F A14F A14F rC (riverD (.inl (a, a)) (.inl (b, b)) (.inl (0, 4)) 3 8 3 42 46 50) A12D A12D A12D A12D A12F A12F A12F A12F A48F A48F A48F A48F)) rfl clX2 (by decide) wd_9_11 rfl rfl rfl rfl dX2_copyOf_5 (fun H locs hH hS => ?_)
  refine lv_aload_n F.1 F.2.1 dX2_copyOf_8 rfl (lv_at hl 0 rfl) ?_
  refine lv_aload_n F.1 F.2.1 dX2_copyOf_9 rfl (lv_at hl 1 rfl) ?_
  refine tGetI (j := 4) F hK hH (tyb ha1 (all1 rfl)) rfl clX2 (by decide) wd_9_12 dX2_copyOf_10 (fun z_2 hz_2 => ?_)
  have ez_2 : 0 ≤ z_2.toInt ∧ z_2.toInt ≤ 14 := by omega
  refine tPutG (j := 4) (t := 27) (fd := (.inl (b, b))) F hK hH hS (List.mem_singleton.mp ha0) (by decide) rfl rfl (fdI (by omega)) (TB1 := (tbC dA dB rA (riverD (.inl (a, a)) (.inl (b, b)) (.inl (0, 4)) 32 34 36 40 44 48) rc rd tp A14F A14F A4F A4F A14F A14F rC (riverD (.inl (a, a)) (.inl (b, b)) (.inl (0, 4)) 3 8 3 42 46 50) A12D A12D A12D A12D A12F A12F A12F A12F A48F A48F A48F A48F)) rfl clX2 (by decide) wd_9_12 rfl rfl rfl rfl dX2_copyOf_13 (fun H locs hH hS => ?_)
  refine lv_aload_n F.1 F.2.1 dX2_copyOf_16 rfl (lv_at hl 0 rfl) ?_
  refine lv_aload_n F.1 F.2.1 dX2_copyOf_17 rfl (lv_at hl 1 rfl) ?_
  refine tGetI (j := 14) F hK hH (tyb ha1 (all1 rfl)) rfl clX2 (by decide) wd_9_13 dX2_copyOf_18 (fun z_3 hz_3 => ?_)
  refine tPut (j := 14) F hK hH hS (tyb ha0 (all1 rfl)) rfl (fdI hz_3) clX2 (by decide) wd_9_13 rfl rfl rfl rfl dX2_copyOf_21 (fun H locs hH hS => ?_)
  refine lv_aload_n F.1 F.2.1 dX2_copyOf_24 rfl (lv_at hl 0 rfl) ?_
  refine lv_aload_n F.1 F.2.1 dX2_copyOf_25 rfl (lv_at hl 1 rfl) ?_
  refine tGetI (j := 19) F hK hH (tyb ha1 (all1 rfl)) rfl clX2 (by decide) wd_3_15 dX2_copyOf_26 (fun z_4 hz_4 => ?_)
  refine tPut (j := 19) F hK hH hS (tyb ha0 (all1 rfl)) rfl (fdI hz_4) clX2 (by decide) wd_3_15 rfl rfl rfl rfl dX2_copyOf_29 (fun H locs hH hS => ?_)
  refine lv_aload_n F.1 F.2.1 dX2_copyOf_32 rfl (lv_at hl 1 rfl) ?_
  refine tGetR (j := 1) F hK hH (tyb ha1 (all1 rfl)) rfl (all1 rfl) clX2 (by decide) wd_2_23 dX2_copyOf_33 (fun q_5 hq_5 _ => ?_)
  refine lv_aload_n F.1 F.2.1 dX2_copyOf_36 rfl (lv_at hl 0 rfl) ?_
  refine tGetR (j := 1) F hK hH (tyb ha0 (all1 rfl)) rfl (all1 rfl) clX2 (by decide) wd_2_23 dX2_copyOf_37 (fun q_6 hq_6 _ => ?_)
  refine tNv (host := RX6) (As := [.ref q_5, .ref q_6]) (rest := []) F hK hN hO (c_X6_copyRow_pd E dA dB rA (riverD (.inl (a, a)) (.inl (b, b)) (.inl (0, 4)) 32 34 36 40 44 48) rc rd tp A14F A14F A4F A4F A14F A14F rC (riverD (.inl (a, a)) (.inl (b, b)) (.inl (0, 4)) 3 8 3 42 46 50) A12F A12F A12F A12F A48F A48F A48F A48F q_5 q_6 (by have h9_ := hq_5; simp at h9_ ⊢; omega) (by have h9_ := hq_6; simp at h9_ ⊢; omega)) ms_X6_copyRow hN.1.2.2.2.2.2 ⟨Nat.le_of_ble_eq_true rfl, Nat.le_of_ble_eq_true rfl⟩ ⟨Nat.le_of_ble_eq_true rfl, Nat.le_of_ble_eq_true rfl⟩ hH hS rfl hl.1 (Nat.le_of_ble_eq_true rfl) dX2_copyOf_40 (fun H locs hq hS => ?_)
  have hH := hq
  have hH : TH E (tbC dA dB rA (riverD (.inl (a, a)) (.inl (b, b)) (.inl (0, 4)) 32 34 36 40 44 48) rc rd tp A14F A14F A4F A4F A14F A14F rC (riverD (.inl (a, a)) (.inl (b, b)) (.inl (0, 4)) 3 8 3 42 46 50) A12D A12D A12D A12D A12F A12F A12F A12F A48F A48F A48F A48F) H := hH
  refine lv_aload_n F.1 F.2.1 dX2_copyOf_43 rfl (lv_at hl 1 rfl) ?_
  refine tGetR (j := 2) F hK hH (tyb ha1 (all1 rfl)) rfl (all1 rfl) clX2 (by decide) wd_3_0 dX2_copyOf_44 (fun q_8 hq_8 _ => ?_)
  refine lv_aload_n F.1 F.2.1 dX2_copyOf_47 rfl (lv_at hl 0 rfl) ?_
  refine tGetR (j := 2) F hK hH (tyb ha0 (all1 rfl)) rfl (all1 rfl) clX2 (by decide) wd_3_0 dX2_copyOf_48 (fun q_9 hq_9 _ => ?_)
  refine tNv (host := RX6) (As := [.ref q_8, .ref q_9]) (rest := []) F hK hN hO (c_X6_copyRow_ps E dA dB rA (riverD (.inl (a, a)) (.inl (b, b)) (.inl (0, 4)) 32 34 36 40 44 48) rc rd tp A14F A14F A4F A4F A14F A14F rC (riverD (.inl (a, a)) (.inl (b, b)) (.inl (0, 4)) 3 8 3 42 46 50) A12D A12D A12D A12D A48F A48F A48F A48F q_8 q_9 (by have h9_ := hq_8; simp at h9_ ⊢; omega) (by have h9_ := hq_9; simp at h9_ ⊢; omega)) ms_X6_copyRow hN.1.2.2.2.2.2 ⟨Nat.le_of_ble_eq_true rfl, Nat.le_of_ble_eq_true rfl⟩ ⟨Nat.le_of_ble_eq_true rfl, Nat.le_of_ble_eq_true rfl⟩ hH hS rfl hl.1 (Nat.le_of_ble_eq_true rfl) dX2_copyOf_51 (fun H locs hq hS => ?_)
  have hH := hq
  have hH : TH E (tbC dA dB rA (riverD (.inl (a, a)) (.inl (b, b)) (.inl (0, 4)) 32 34 36 40 44 48) rc rd tp A14F A14F A4F A4F A14F A14F rC (riverD (.inl (a, a)) (.inl (b, b)) (.inl (0, 4)) 3 8 3 42 46 50) A12D A12D A12D A12D A12F A12F A12F A12F A48F A48F A48F A48F) H := hH
  refine lv_aload_n F.1 F.2.1 dX2_copyOf_54 rfl (lv_at hl 1 rfl) ?_
  refine tGetR (j := 3) F hK hH (tyb ha1 (all1 rfl)) rfl (all1 rfl) clX2 (by decide) wd_3_1 dX2_copyOf_55 (fun q_11 hq_11 _ => ?_)
  refine lv_aload_n F.1 F.2.1 dX2_copyOf_58 rfl (lv_at hl 0 rfl) ?_
  refine tGetR (j := 3) F hK hH (tyb ha0 (all1 rfl)) rfl (all1 rfl) clX2 (by decide) wd_3_1 dX2_copyOf_59 (fun q_12 hq_12 _ => ?_)
  refine tNv (host := RX6) (As := [.ref q_11, .ref q_12]) (rest := []) F hK hN hO (c_X6_copyRow_pi E dA dB rA (riverD (.inl (a, a)) (.inl (b, b)) (.inl (0, 4)) 32 34 36 40 44 48) rc rd tp A14F A14F A4F A4F A14F A14F rC (riverD (.inl (a, a)) (.inl (b, b)) (.inl (0, 4)) 3 8 3 42 46 50) A12D A12D A12D A12D A12F A12F A12F A12F q_11 q_12 (by have h9_ := hq_11; simp at h9_ ⊢; omega) (by have h9_ := hq_12; simp at h9_ ⊢; omega)) ms_X6_copyRow hN.1.2.2.2.2.2 ⟨Nat.le_of_ble_eq_true rfl, Nat.le_of_ble_eq_true rfl⟩ ⟨Nat.le_of_ble_eq_true rfl, Nat.le_of_ble_eq_true rfl⟩ hH hS rfl hl.1 (Nat.le_of_ble_eq_true rfl) dX2_copyOf_62 (fun H locs hq hS => ?_)
  have hH := hq
  have hH : TH E (tbC dA dB rA (riverD (.inl (a, a)) (.inl (b, b)) (.inl (0, 4)) 32 34 36 40 44 48) rc rd tp A14F A14F A4F A4F A14F A14F rC (riverD (.inl (a, a)) (.inl (b, b)) (.inl (0, 4)) 3 8 3 42 46 50) A12D A12D A12D A12D A12F A12F A12F A12F A48F A48F A48F A48F) H := hH
  refine lv_aload_n F.1 F.2.1 dX2_copyOf_65 rfl (lv_at hl 1 rfl) ?_
  refine tGetR (j := 5) F hK hH (tyb ha1 (all1 rfl)) rfl (all1 rfl) clX2 (by decide) wd_3_2 dX2_copyOf_66 (fun q_14 hq_14 _ => ?_)
  refine lv_aload_n F.1 F.2.1 dX2_copyOf_69 rfl (lv_at hl 0 rfl) ?_
  refine tGetR (j := 5) F hK hH (tyb ha0 (all1 rfl)) rfl (all1 rfl) clX2 (by decide) wd_3_2 dX2_copyOf_70 (fun q_15 hq_15 _ => ?_)
  refine tNv (host := RX6) (As := [.ref q_14, .ref q_15]) (rest := []) F hK hN hO (c_X6_copyRow_A14R E dA dB rA (riverD (.inl (a, a)) (.inl (b, b)) (.inl (0, 4)) 32 34 36 40 44 48) rc rd tp A14F A14F A4F A4F A14F A14F rC (riverD (.inl (a, a)) (.inl (b, b)) (.inl (0, 4)) 3 8 3 42 46 50) A12D A12D A12D A12D A12F A12F A12F A12F A48F A48F A48F A48F q_14 q_15 hq_14 hq_15) ms_X6_copyRow hN.1.2.2.2.2.2 ⟨Nat.le_of_ble_eq_true rfl, Nat.le_of_ble_eq_true rfl⟩ ⟨Nat.le_of_ble_eq_true rfl, Nat.le_of_ble_eq_true rfl⟩ hH hS rfl hl.1 (Nat.le_of_ble_eq_true rfl) dX2_copyOf_73 (fun H locs hq hS => ?_)
  have hH := hq
  have hH : TH E (tbC dA dB rA (riverD (.inl (a, a)) (.inl (b, b)) (.inl (0, 4)) 32 34 36 40 44 48) rc rd tp A14F A14F A4F A4F A14F A14F rC (riverD (.inl (a, a)) (.inl (b, b)) (.inl (0, 4)) 3 8 3 42 46 50) A12D A12D A12D A12D A12F A12F A12F A12F A48F A48F A48F A48F) H := hH
  refine lv_aload_n F.1 F.2.1 dX2_copyOf_76 rfl (lv_at hl 1 rfl) ?_
  refine tGetR (j := 6) F hK hH (tyb ha1 (all1 rfl)) rfl (all1 rfl) clX2 (by decide) wd_3_3 dX2_copyOf_77 (fun q_17 hq_17 _ => ?_)
  refine lv_aload_n F.1 F.2.1 dX2_copyOf_80 rfl (lv_at hl 0 rfl) ?_
  refine tGetR (j := 6) F hK hH (tyb ha0 (all1 rfl)) rfl (all1 rfl) clX2 (by decide) wd_3_3 dX2_copyOf_81 (fun q_18 hq_18 _ => ?_)
  refine tNv (host := RX6) (As := [.ref q_17, .ref q_18]) (rest := []) F hK hN hO (c_X6_copyRow_A14F E dA dB rA (riverD (.inl (a, a)) (.inl (b, b)) (.inl (0, 4)) 32 34 36 40 44 48) rc rd tp A14F A14F A4F A4F A14F A14F rC (riverD (.inl (a, a)) (.inl (b, b)) (.inl (0, 4)) 3 8 3 42 46 50) A12D A12D A12D A12D A12F A12F A12F A12F A48F A48F A48F A48F q_17 q_18 hq_17 hq_18) ms_X6_copyRow hN.1.2.2.2.2.2 ⟨Nat.le_of_ble_eq_true rfl, Nat.le_of_ble_eq_true rfl⟩ ⟨Nat.le_of_ble_eq_true rfl, Nat.le_of_ble_eq_true rfl⟩ hH hS rfl hl.1 (Nat.le_of_ble_eq_true rfl) dX2_copyOf_84 (fun H locs hq hS => ?_)
  have hH := hq
  have hH : TH E (tbC dA dB rA (riverD (.inl (a, a)) (.inl (b, b)) (.inl (0, 4)) 32 34 36 40 44 48) rc rd tp A14F A14F A4F A4F A14F A14F rC (riverD (.inl (a, a)) (.inl (b, b)) (.inl (0, 4)) 3 8 3 42 46 50) A12D A12D A12D A12D A12F A12F A12F A12F A48F A48F A48F A48F) H := hH
  refine lv_aload_n F.1 F.2.1 dX2_copyOf_87 rfl (lv_at hl 1 rfl) ?_
  refine tGetR (j := 7) F hK hH (tyb ha1 (all1 rfl)) rfl (all1 rfl) clX2 (by decide) wd_3_4 dX2_copyOf_88 (fun q_20 hq_20 _ => ?_)
  refine lv_aload_n F.1 F.2.1 dX2_copyOf_91 rfl (lv_at hl 0 rfl) ?_
  refine tGetR (j := 7) F hK hH (tyb ha0 (all1 rfl)) rfl (all1 rfl) clX2 (by decide) wd_3_4 dX2_copyOf_92 (fun q_21 hq_21 _ => ?_)
  refine tNv (host := RX6) (As := [.ref q_20, .ref q_21]) (rest := []) F hK hN hO (c_X6_copyRow_f E dA dB rA (riverD (.inl (a, a)) (.inl (b, b)) (.inl (0, 4)) 32 34 36 40 44 48) rc rd tp rC (riverD (.inl (a, a)) (.inl (b, b)) (.inl (0, 4)) 3 8 3 42 46 50) A12D A12D A12D A12D A12F A12F A12F A12F A48F A48F A48F A48F q_20 q_21 (by have h9_ := hq_20; simp at h9_ ⊢; omega) (by have h9_ := hq_21; simp at h9_ ⊢; omega)) ms_X6_copyRow hN.1.2.2.2.2.2 ⟨Nat.le_of_ble_eq_true rfl, Nat.le_of_ble_eq_true rfl⟩ ⟨Nat.le_of_ble_eq_true rfl, Nat.le_of_ble_eq_true rfl⟩ hH hS rfl hl.1 (Nat.le_of_ble_eq_true rfl) dX2_copyOf_95 (fun H locs hq hS => ?_)
  have hH := hq
  have hH : TH E (tbC dA dB rA (riverD (.inl (a, a)) (.inl (b, b)) (.inl (0, 4)) 32 34 36 40 44 48) rc rd tp A14F A14F A4F A4F A14F A14F rC (riverD (.inl (a, a)) (.inl (b, b)) (.inl (0, 4)) 3 8 3 42 46 50) A12D A12D A12D A12D A12F A12F A12F A12F A48F A48F A48F A48F) H := hH
  refine lv_aload_n F.1 F.2.1 dX2_copyOf_98 rfl (lv_at hl 1 rfl) ?_
  refine tGetR (j := 8) F hK hH (tyb ha1 (all1 rfl)) rfl (all1 rfl) clX2 (by decide) wd_3_5 dX2_copyOf_99 (fun q_23 hq_23 _ => ?_)
  refine lv_aload_n F.1 F.2.1 dX2_copyOf_102 rfl (lv_at hl 0 rfl) ?_
  refine tGetR (j := 8) F hK hH (tyb ha0 (all1 rfl)) rfl (all1 rfl) clX2 (by decide) wd_3_5 dX2_copyOf_103 (fun q_24 hq_24 _ => ?_)
  refine tNv (host := RX6) (As := [.ref q_23, .ref q_24]) (rest := []) F hK hN hO (c_X6_copyRow_A14F E dA dB rA (riverD (.inl (a, a)) (.inl (b, b)) (.inl (0, 4)) 32 34 36 40 44 48) rc rd tp A14F A14F A4F A4F A14F A14F rC (riverD (.inl (a, a)) (.inl (b, b)) (.inl (0, 4)) 3 8 3 42 46 50) A12D A12D A12D A12D A12F A12F A12F A12F A48F A48F A48F A48F q_23 q_24 hq_23 hq_24) ms_X6_copyRow hN.1.2.2.2.2.2 ⟨Nat.le_of_ble_eq_true rfl, Nat.le_of_ble_eq_true rfl⟩ ⟨Nat.le_of_ble_eq_true rfl, Nat.le_of_ble_eq_true rfl⟩ hH hS rfl hl.1 (Nat.le_of_ble_eq_true rfl) dX2_copyOf_106 (fun H locs hq hS => ?_)
  have hH := hq
  have hH : TH E (tbC dA dB rA (riverD (.inl (a, a)) (.inl (b, b)) (.inl (0, 4)) 32 34 36 40 44 48) rc rd tp A14F A14F A4F A4F A14F A14F rC (riverD (.inl (a, a)) (.inl (b, b)) (.inl (0, 4)) 3 8 3 42 46 50) A12D A12D A12D A12D A12F A12F A12F A12F A48F A48F A48F A48F) H := hH
  refine lv_aload_n F.1 F.2.1 dX2_copyOf_109 rfl (lv_at hl 1 rfl) ?_
  refine tGetR (j := 9) F hK hH (tyb ha1 (all1 rfl)) rfl (all1 rfl) clX2 (by decide) wd_3_6 dX2_copyOf_110 (fun q_26 hq_26 _ => ?_)
  refine lv_aload_n F.1 F.2.1 dX2_copyOf_113 rfl (lv_at hl 0 rfl) ?_
  refine tGetR (j := 9) F hK hH (tyb ha0 (all1 rfl)) rfl (all1 rfl) clX2 (by decide) wd_3_6 dX2_copyOf_114 (fun q_27 hq_27 _ => ?_)
  refine tNv (host := RX6) (As := [.ref q_26, .ref q_27]) (rest := []) F hK hN hO (c_X6_copyRow_g E dA dB rA (riverD (.inl (a, a)) (.inl (b, b)) (.inl (0, 4)) 32 34 36 40 44 48) rc rd tp rC (riverD (.inl (a, a)) (.inl (b, b)) (.inl (0, 4)) 3 8 3 42 46 50) A12D A12D A12D A12D A12F A12F A12F A12F A48F A48F A48F A48F q_26 q_27 (by have h9_ := hq_26; simp at h9_ ⊢; omega) (by have h9_ := hq_27; simp at h9_ ⊢; omega)) ms_X6_copyRow hN.1.2.2.2.2.2 ⟨Nat.le_of_ble_eq_true rfl, Nat.le_of_ble_eq_true rfl⟩ ⟨Nat.le_of_ble_eq_true rfl, Nat.le_of_ble_eq_true rfl⟩ hH hS rfl hl.1 (Nat.le_of_ble_eq_true rfl) dX2_copyOf_117 (fun H locs hq hS => ?_)
  have hH := hq
  have hH : TH E (tbC dA dB rA (riverD (.inl (a, a)) (.inl (b, b)) (.inl (0, 4)) 32 34 36 40 44 48) rc rd tp A14F A14F A4F A4F A14F A14F rC (riverD (.inl (a, a)) (.inl (b, b)) (.inl (0, 4)) 3 8 3 42 46 50) A12D A12D A12D A12D A12F A12F A12F A12F A48F A48F A48F A48F) H := hH
  refine lv_aload_n F.1 F.2.1 dX2_copyOf_120 rfl (lv_at hl 1 rfl) ?_
  refine tGetR (j := 10) F hK hH (tyb ha1 (all1 rfl)) rfl (all1 rfl) clX2 (by decide) wd_3_7 dX2_copyOf_121 (fun q_29 hq_29 _ => ?_)
  refine lv_aload_n F.1 F.2.1 dX2_copyOf_124 rfl (lv_at hl 0 rfl) ?_
  refine tGetR (j := 10) F hK hH (tyb ha0 (all1 rfl)) rfl (all1 rfl) clX2 (by decide) wd_3_7 dX2_copyOf_125 (fun q_30 hq_30 _ => ?_)
  refine tNv (host := RX6) (As := [.ref q_29, .ref q_30]) (rest := []) F hK hN hO (c_X6_copyRow_A14F E dA dB rA (riverD (.inl (a, a)) (.inl (b, b)) (.inl (0, 4)) 32 34 36 40 44 48) rc rd tp A14F A14F A4F A4F A14F A14F rC (riverD (.inl (a, a)) (.inl (b, b)) (.inl (0, 4)) 3 8 3 42 46 50) A12D A12D A12D A12D A12F A12F A12F A12F A48F A48F A48F A48F q_29 q_30 hq_29 hq_30) ms_X6_copyRow hN.1.2.2.2.2.2 ⟨Nat.le_of_ble_eq_true rfl, Nat.le_of_ble_eq_true rfl⟩ ⟨Nat.le_of_ble_eq_true rfl, Nat.le_of_ble_eq_true rfl⟩ hH hS rfl hl.1 (Nat.le_of_ble_eq_true rfl) dX2_copyOf_128 (fun H locs hq hS => ?_)
  have hH := hq
  have hH : TH E (tbC dA dB rA (riverD (.inl (a, a)) (.inl (b, b)) (.inl (0, 4)) 32 34 36 40 44 48) rc rd tp A14F A14F A4F A4F A14F A14F rC (riverD (.inl (a, a)) (.inl (b, b)) (.inl (0, 4)) 3 8 3 42 46 50) A12D A12D A12D A12D A12F A12F A12F A12F A48F A48F A48F A48F) H := hH
  refine lv_aload_n F.1 F.2.1 dX2_copyOf_131 rfl (lv_at hl 1 rfl) ?_
  refine tGetR (j := 11) F hK hH (tyb ha1 (all1 rfl)) rfl (all1 rfl) clX2 (by decide) wd_3_8 dX2_copyOf_132 (fun q_32 hq_32 _ => ?_)
  refine lv_aload_n F.1 F.2.1 dX2_copyOf_135 rfl (lv_at hl 0 rfl) ?_
  refine tGetR (j := 11) F hK hH (tyb ha0 (all1 rfl)) rfl (all1 rfl) clX2 (by decide) wd_3_8 dX2_copyOf_136 (fun q_33 hq_33 _ => ?_)
  refine tNv (host := RX6) (As := [.ref q_32, .ref q_33]) (rest := []) F hK hN hO (c_X6_copyRow_A14B E dA dB rA (riverD (.inl (a, a)) (.inl (b, b)) (.inl (0, 4)) 32 34 36 40 44 48) rc rd tp A14F A14F A4F A4F A14F A14F rC (riverD (.inl (a, a)) (.inl (b, b)) (.inl (0, 4)) 3 8 3 42 46 50) A12D A12D A12D A12D A12F A12F A12F A12F A48F A48F A48F A48F q_32 q_33 hq_32 hq_33) ms_X6_copyRow hN.1.2.2.2.2.2 ⟨Nat.le_of_ble_eq_true rfl, Nat.le_of_ble_eq_true rfl⟩ ⟨Nat.le_of_ble_eq_true rfl, Nat.le_of_ble_eq_true rfl⟩ hH hS rfl hl.1 (Nat.le_of_ble_eq_true rfl) dX2_copyOf_139 (fun H locs hq hS => ?_)
  have hH := hq
  have hH : TH E (tbC dA dB rA (riverD (.inl (a, a)) (.inl (b, b)) (.inl (0, 4)) 32 34 36 40 44 48) rc rd tp A14F A14F A4F A4F A14F A14F rC (riverD (.inl (a, a)) (.inl (b, b)) (.inl (0, 4)) 3 8 3 42 46 50) A12D A12D A12D A12D A12F A12F A12F A12F A48F A48F A48F A48F) H := hH
  refine lv_aload_n F.1 F.2.1 dX2_copyOf_142 rfl (lv_at hl 1 rfl) ?_
  refine tGetR (j := 12) F hK hH (tyb ha1 (all1 rfl)) rfl (all1 rfl) clX2 (by decide) wd_3_9 dX2_copyOf_143 (fun q_35 hq_35 _ => ?_)
  refine lv_aload_n F.1 F.2.1 dX2_copyOf_146 rfl (lv_at hl 0 rfl) ?_
  refine tGetR (j := 12) F hK hH (tyb ha0 (all1 rfl)) rfl (all1 rfl) clX2 (by decide) wd_3_9 dX2_copyOf_147 (fun q_36 hq_36 _ => ?_)
  refine tNv (host := RX6) (As := [.ref q_35, .ref q_36]) (rest := []) F hK hN hO (c_X6_copyRow_A14F E dA dB rA (riverD (.inl (a, a)) (.inl (b, b)) (.inl (0, 4)) 32 34 36 40 44 48) rc rd tp A14F A14F A4F A4F A14F A14F rC (riverD (.inl (a, a)) (.inl (b, b)) (.inl (0, 4)) 3 8 3 42 46 50) A12D A12D A12D A12D A12F A12F A12F A12F A48F A48F A48F A48F q_35 q_36 hq_35 hq_36) ms_X6_copyRow hN.1.2.2.2.2.2 ⟨Nat.le_of_ble_eq_true rfl, Nat.le_of_ble_eq_true rfl⟩ ⟨Nat.le_of_ble_eq_true rfl, Nat.le_of_ble_eq_true rfl⟩ hH hS rfl hl.1 (Nat.le_of_ble_eq_true rfl) dX2_copyOf_150 (fun H locs hq hS => ?_)
  have hH := hq
  have hH : TH E (tbC dA dB rA (riverD (.inl (a, a)) (.inl (b, b)) (.inl (0, 4)) 32 34 36 40 44 48) rc rd tp A14F A14F A4F A4F A14F A14F rC (riverD (.inl (a, a)) (.inl (b, b)) (.inl (0, 4)) 3 8 3 42 46 50) A12D A12D A12D A12D A12F A12F A12F A12F A48F A48F A48F A48F) H := hH
  refine lv_aload_n F.1 F.2.1 dX2_copyOf_153 rfl (lv_at hl 1 rfl) ?_
  refine tGetR (j := 13) F hK hH (tyb ha1 (all1 rfl)) rfl (all1 rfl) clX2 (by decide) wd_3_10 dX2_copyOf_154 (fun q_38 hq_38 _ => ?_)
  refine lv_aload_n F.1 F.2.1 dX2_copyOf_157 rfl (lv_at hl 0 rfl) ?_
  refine tGetR (j := 13) F hK hH (tyb ha0 (all1 rfl)) rfl (all1 rfl) clX2 (by decide) wd_3_10 dX2_copyOf_158 (fun q_39 hq_39 _ => ?_)
  refine tNv (host := RX6) (As := [.ref q_38, .ref q_39]) (rest := []) F hK hN hO (c_X6_copyRow_A14L E dA dB rA (riverD (.inl (a, a)) (.inl (b, b)) (.inl (0, 4)) 32 34 36 40 44 48) rc rd tp A14F A14F A4F A4F A14F A14F rC (riverD (.inl (a, a)) (.inl (b, b)) (.inl (0, 4)) 3 8 3 42 46 50) A12D A12D A12D A12D A12F A12F A12F A12F A48F A48F A48F A48F q_38 q_39 hq_38 hq_39) ms_X6_copyRow hN.1.2.2.2.2.2 ⟨Nat.le_of_ble_eq_true rfl, Nat.le_of_ble_eq_true rfl⟩ ⟨Nat.le_of_ble_eq_true rfl, Nat.le_of_ble_eq_true rfl⟩ hH hS rfl hl.1 (Nat.le_of_ble_eq_true rfl) dX2_copyOf_161 (fun H locs hq hS => ?_)
  have hH := hq
  have hH : TH E (tbC dA dB rA (riverD (.inl (a, a)) (.inl (b, b)) (.inl (0, 4)) 32 34 36 40 44 48) rc rd tp A14F A14F A4F A4F A14F A14F rC (riverD (.inl (a, a)) (.inl (b, b)) (.inl (0, 4)) 3 8 3 42 46 50) A12D A12D A12D A12D A12F A12F A12F A12F A48F A48F A48F A48F) H := hH
  refine lv_aload_n F.1 F.2.1 dX2_copyOf_164 rfl (lv_at hl 1 rfl) ?_
  refine tGetR (j := 15) F hK hH (tyb ha1 (all1 rfl)) rfl (all1 rfl) clX2 (by decide) wd_3_11 dX2_copyOf_165 (fun q_41 hq_41 _ => ?_)
  refine lv_aload_n F.1 F.2.1 dX2_copyOf_168 rfl (lv_at hl 0 rfl) ?_
  refine tGetR (j := 15) F hK hH (tyb ha0 (all1 rfl)) rfl (all1 rfl) clX2 (by decide) wd_3_11 dX2_copyOf_169 (fun q_42 hq_42 _ => ?_)
  refine tNv (host := RX6) (As := [.ref q_41, .ref q_42]) (rest := []) F hK hN hO (c_X6_copyRow_A4R E dA dB rA (riverD (.inl (a, a)) (.inl (b, b)) (.inl (0, 4)) 32 34 36 40 44 48) rc rd tp A14F A14F A4F A4F A14F A14F rC (riverD (.inl (a, a)) (.inl (b, b)) (.inl (0, 4)) 3 8 3 42 46 50) A12D A12D A12D A12D A12F A12F A12F A12F A48F A48F A48F A48F q_41 q_42 hq_41 hq_42) ms_X6_copyRow hN.1.2.2.2.2.2 ⟨Nat.le_of_ble_eq_true rfl, Nat.le_of_ble_eq_true rfl⟩ ⟨Nat.le_of_ble_eq_true rfl, Nat.le_of_ble_eq_true rfl⟩ hH hS rfl hl.1 (Nat.le_of_ble_eq_true rfl) dX2_copyOf_172 (fun H locs hq hS => ?_)
  have hH := hq
  have hH : TH E (tbC dA dB rA (riverD (.inl (a, a)) (.inl (b, b)) (.inl (0, 4)) 32 34 36 40 44 48) rc rd tp A14F A14F A4F A4F A14F A14F rC (riverD (.inl (a, a)) (.inl (b, b)) (.inl (0, 4)) 3 8 3 42 46 50) A12D A12D A12D A12D A12F A12F A12F A12F A48F A48F A48F A48F) H := hH
  refine lv_aload_n F.1 F.2.1 dX2_copyOf_175 rfl (lv_at hl 1 rfl) ?_
  refine tGetR (j := 16) F hK hH (tyb ha1 (all1 rfl)) rfl (all1 rfl) clX2 (by decide) wd_3_12 dX2_copyOf_176 (fun q_44 hq_44 _ => ?_)
  refine lv_aload_n F.1 F.2.1 dX2_copyOf_179 rfl (lv_at hl 0 rfl) ?_
  refine tGetR (j := 16) F hK hH (tyb ha0 (all1 rfl)) rfl (all1 rfl) clX2 (by decide) wd_3_12 dX2_copyOf_180 (fun q_45 hq_45 _ => ?_)
  refine tNv (host := RX6) (As := [.ref q_44, .ref q_45]) (rest := []) F hK hN hO (c_X6_copyRow_A4F E dA dB rA (riverD (.inl (a, a)) (.inl (b, b)) (.inl (0, 4)) 32 34 36 40 44 48) rc rd tp A14F A14F A4F A4F A14F A14F rC (riverD (.inl (a, a)) (.inl (b, b)) (.inl (0, 4)) 3 8 3 42 46 50) A12D A12D A12D A12D A12F A12F A12F A12F A48F A48F A48F A48F q_44 q_45 hq_44 hq_45) ms_X6_copyRow hN.1.2.2.2.2.2 ⟨Nat.le_of_ble_eq_true rfl, Nat.le_of_ble_eq_true rfl⟩ ⟨Nat.le_of_ble_eq_true rfl, Nat.le_of_ble_eq_true rfl⟩ hH hS rfl hl.1 (Nat.le_of_ble_eq_true rfl) dX2_copyOf_183 (fun H locs hq hS => ?_)
  have hH := hq
  have hH : TH E (tbC dA dB rA (riverD (.inl (a, a)) (.inl (b, b)) (.inl (0, 4)) 32 34 36 40 44 48) rc rd tp A14F A14F A4F A4F A14F A14F rC (riverD (.inl (a, a)) (.inl (b, b)) (.inl (0, 4)) 3 8 3 42 46 50) A12D A12D A12D A12D A12F A12F A12F A12F A48F A48F A48F A48F) H := hH
  refine lv_aload_n F.1 F.2.1 dX2_copyOf_186 rfl (lv_at hl 1 rfl) ?_
  refine tGetR (j := 17) F hK hH (tyb ha1 (all1 rfl)) rfl (all1 rfl) clX2 (by decide) wd_3_13 dX2_copyOf_187 (fun q_47 hq_47 _ => ?_)
  refine lv_aload_n F.1 F.2.1 dX2_copyOf_190 rfl (lv_at hl 0 rfl) ?_
  refine tGetR (j := 17) F hK hH (tyb ha0 (all1 rfl)) rfl (all1 rfl) clX2 (by decide) wd_3_13 dX2_copyOf_191 (fun q_48 hq_48 _ => ?_)
  refine tNv (host := RX6) (As := [.ref q_47, .ref q_48]) (rest := []) F hK hN hO (c_X6_copyRow_A4F E dA dB rA (riverD (.inl (a, a)) (.inl (b, b)) (.inl (0, 4)) 32 34 36 40 44 48) rc rd tp A14F A14F A4F A4F A14F A14F rC (riverD (.inl (a, a)) (.inl (b, b)) (.inl (0, 4)) 3 8 3 42 46 50) A12D A12D A12D A12D A12F A12F A12F A12F A48F A48F A48F A48F q_47 q_48 hq_47 hq_48) ms_X6_copyRow hN.1.2.2.2.2.2 ⟨Nat.le_of_ble_eq_true rfl, Nat.le_of_ble_eq_true rfl⟩ ⟨Nat.le_of_ble_eq_true rfl, Nat.le_of_ble_eq_true rfl⟩ hH hS rfl hl.1 (Nat.le_of_ble_eq_true rfl) dX2_copyOf_194 (fun H locs hq hS => ?_)
  have hH := hq
  have hH : TH E (tbC dA dB rA (riverD (.inl (a, a)) (.inl (b, b)) (.inl (0, 4)) 32 34 36 40 44 48) rc rd tp A14F A14F A4F A4F A14F A14F rC (riverD (.inl (a, a)) (.inl (b, b)) (.inl (0, 4)) 3 8 3 42 46 50) A12D A12D A12D A12D A12F A12F A12F A12F A48F A48F A48F A48F) H := hH
  refine lv_aload_n F.1 F.2.1 dX2_copyOf_197 rfl (lv_at hl 1 rfl) ?_
  refine tGetR (j := 18) F hK hH (tyb ha1 (all1 rfl)) rfl (all1 rfl) clX2 (by decide) wd_3_14 dX2_copyOf_198 (fun q_50 hq_50 _ => ?_)
  refine lv_aload_n F.1 F.2.1 dX2_copyOf_201 rfl (lv_at hl 0 rfl) ?_
  refine tGetR (j := 18) F hK hH (tyb ha0 (all1 rfl)) rfl (all1 rfl) clX2 (by decide) wd_3_14 dX2_copyOf_202 (fun q_51 hq_51 _ => ?_)
  refine tNv (host := RX6) (As := [.ref q_50, .ref q_51]) (rest := []) F hK hN hO (c_X6_copyRow_s E dA dB rA (riverD (.inl (a, a)) (.inl (b, b)) (.inl (0, 4)) 32 34 36 40 44 48) rc rd tp rC (riverD (.inl (a, a)) (.inl (b, b)) (.inl (0, 4)) 3 8 3 42 46 50) A12D A12D A12D A12D A12F A12F A12F A12F A48F A48F A48F A48F q_50 q_51 (by have h9_ := hq_50; simp at h9_ ⊢; omega) (by have h9_ := hq_51; simp at h9_ ⊢; omega)) ms_X6_copyRow hN.1.2.2.2.2.2 ⟨Nat.le_of_ble_eq_true rfl, Nat.le_of_ble_eq_true rfl⟩ ⟨Nat.le_of_ble_eq_true rfl, Nat.le_of_ble_eq_true rfl⟩ hH hS rfl hl.1 (Nat.le_of_ble_eq_true rfl) dX2_copyOf_205 (fun H locs hq hS => ?_)
  have hH := hq
  have hH : TH E (tbC dA dB rA (riverD (.inl (a, a)) (.inl (b, b)) (.inl (0, 4)) 32 34 36 40 44 48) rc rd tp A14F A14F A4F A4F A14F A14F rC (riverD (.inl (a, a)) (.inl (b, b)) (.inl (0, 4)) 3 8 3 42 46 50) A12D A12D A12D A12D A12F A12F A12F A12F A48F A48F A48F A48F) H := hH
  exact txV F hS dX2_copyOf_208 (hH)
set_option maxHeartbeats 4000000 in
set_option maxRecDepth 100000 in
theorem c_X5_copyOf (E : Ev) (dA : TD) (dB : TD) (rA : TD) (rB : TD) (rc : TD) (rd : TD) (tp : TD) (ya : TD) (yb : TD) (yc : TD) (yd : TD) (ye : TD) (yf : TD) (rC : TD) (rD : TD) (wd1 : TD) (wd2 : TD) (wd3 : TD) (wd4 : TD) (ws1 : TD) (ws2 : TD) (ws3 : TD) (ws4 : TD) (wi1 : TD) (wi2 : TD) (wi3 : TD) (wi4 : TD) (a0 : Nat) (a1 : Nat) (ha0 : eT E a0 ∈ [17]) (ha1 : eT E a1 ∈ [17]) : TcV E yX5_copyOf cX5_copyOf 2 ({ frames := 2, cells := 0, slots := 0, locals := 61 }) [.ref a0, .ref a1] (fun H => TH E (tbC dA dB rA rB rc rd tp ya yb yc yd ye yf rC rD wd1 wd2 wd3 wd4 ws1 ws2 ws3 ws4 wi1 wi2 wi3 wi4) H) (fun H => TH E (tbC dA dB rA rB rc rd tp ya yb yc yd ye yf rC rD wd1 wd2 wd3 wd4 ws1 ws2 ws3 ws4 wi1 wi2 wi3 wi4) H) := by
  refine teV (by decide) (Nat.le_of_ble_eq_true rfl) ?_
  intro p_ ev_ s mi_ below_ meth cd_ ls F hK hN hO hH hS hl
  have hH : TH E (tbC dA dB rA rB rc rd tp ya yb yc yd ye yf rC rD wd1 wd2 wd3 wd4 ws1 ws2 ws3 ws4 wi1 wi2 wi3 wi4) s.heap := hH
  have hl : lv_has ls 2 [(0, .ref a0), (1, .ref a1)] := hl
  refine lv_aload_n F.1 F.2.1 dX5_copyOf_0 rfl (lv_at hl 0 rfl) ?_
  refine lv_aload_n F.1 F.2.1 dX5_copyOf_1 rfl (lv_at hl 1 rfl) ?_
  refine tGetI (j := 0) F hK hH (tyb ha1 (all1 rfl)) rfl clX5 (by decide) wd_14_21 dX5_copyOf_2 (fun z_1 hz_1 => ?_)
  refine tPut (j := 0) F hK hH hS (tyb ha0 (all1 rfl)) rfl (fdI hz_1) clX5 (by decide) wd_14_21 rfl rfl rfl rfl dX5_copyOf_5 (fun H locs hH hS => ?_)
  refine lv_aload_n F.1 F.2.1 dX5_copyOf_8 rfl (lv_at hl 0 rfl) ?_
  refine lv_aload_n F.1 F.2.1 dX5_copyOf_9 rfl (lv_at hl 1 rfl) ?_
  refine tGetI (j := 1) F hK hH (tyb ha1 (all1 rfl)) rfl clX5 (by decide) wd_3_19 dX5_copyOf_10 (fun z_2 hz_2 => ?_)
  refine tPut (j := 1) F hK hH hS (tyb ha0 (all1 rfl)) rfl (fdI hz_2) clX5 (by decide) wd_3_19 rfl rfl rfl rfl dX5_copyOf_13 (fun H locs hH hS => ?_)
  refine lv_aload_n F.1 F.2.1 dX5_copyOf_16 rfl (lv_at hl 1 rfl) ?_
  refine tGetR (j := 2) F hK hH (tyb ha1 (all1 rfl)) rfl (all1 rfl) clX5 (by decide) wd_3_20 dX5_copyOf_17 (fun q_3 hq_3 _ => ?_)
  refine lv_aload_n F.1 F.2.1 dX5_copyOf_20 rfl (lv_at hl 0 rfl) ?_
  refine tGetR (j := 2) F hK hH (tyb ha0 (all1 rfl)) rfl (all1 rfl) clX5 (by decide) wd_3_20 dX5_copyOf_21 (fun q_4 hq_4 _ => ?_)
  refine tNv (host := RX6) (As := [.ref q_3, .ref q_4]) (rest := []) F hK hN hO (c_X6_copyRow_A14R E dA dB rA rB rc rd tp ya yb yc yd ye yf rC rD wd1 wd2 wd3 wd4 ws1 ws2 ws3 ws4 wi1 wi2 wi3 wi4 q_3 q_4 hq_3 hq_4) ms_X6_copyRow hN.1.2.2.2.1 ⟨Nat.le_of_ble_eq_true rfl, Nat.le_of_ble_eq_true rfl⟩ ⟨Nat.le_of_ble_eq_true rfl, Nat.le_of_ble_eq_true rfl⟩ hH hS rfl hl.1 (Nat.le_of_ble_eq_true rfl) dX5_copyOf_24 (fun H locs hq hS => ?_)
  have hH := hq
  have hH : TH E (tbC dA dB rA rB rc rd tp ya yb yc yd ye yf rC rD wd1 wd2 wd3 wd4 ws1 ws2 ws3 ws4 wi1 wi2 wi3 wi4) H := hH
  refine lv_aload_n F.1 F.2.1 dX5_copyOf_27 rfl (lv_at hl 1 rfl) ?_
  refine tGetR (j := 3) F hK hH (tyb ha1 (all1 rfl)) rfl (all1 rfl) clX5 (by decide) wd_3_21 dX5_copyOf_28 (fun q_6 hq_6 _ => ?_)
  refine lv_aload_n F.1 F.2.1 dX5_copyOf_31 rfl (lv_at hl 0 rfl) ?_
  refine tGetR (j := 3) F hK hH (tyb ha0 (all1 rfl)) rfl (all1 rfl) clX5 (by decide) wd_3_21 dX5_copyOf_32 (fun q_7 hq_7 _ => ?_)
  refine tNv (host := RX6) (As := [.ref q_6, .ref q_7]) (rest := []) F hK hN hO (c_X6_copyRow_A14F E dA dB rA rB rc rd tp ya yb yc yd ye yf rC rD wd1 wd2 wd3 wd4 ws1 ws2 ws3 ws4 wi1 wi2 wi3 wi4 q_6 q_7 hq_6 hq_7) ms_X6_copyRow hN.1.2.2.2.1 ⟨Nat.le_of_ble_eq_true rfl, Nat.le_of_ble_eq_true rfl⟩ ⟨Nat.le_of_ble_eq_true rfl, Nat.le_of_ble_eq_true rfl⟩ hH hS rfl hl.1 (Nat.le_of_ble_eq_true rfl) dX5_copyOf_35 (fun H locs hq hS => ?_)
  have hH := hq
  have hH : TH E (tbC dA dB rA rB rc rd tp ya yb yc yd ye yf rC rD wd1 wd2 wd3 wd4 ws1 ws2 ws3 ws4 wi1 wi2 wi3 wi4) H := hH
  refine lv_aload_n F.1 F.2.1 dX5_copyOf_38 rfl (lv_at hl 1 rfl) ?_
  refine tGetR (j := 4) F hK hH (tyb ha1 (all1 rfl)) rfl (all1 rfl) clX5 (by decide) wd_3_22 dX5_copyOf_39 (fun q_9 hq_9 _ => ?_)
  refine lv_aload_n F.1 F.2.1 dX5_copyOf_42 rfl (lv_at hl 0 rfl) ?_
  refine tGetR (j := 4) F hK hH (tyb ha0 (all1 rfl)) rfl (all1 rfl) clX5 (by decide) wd_3_22 dX5_copyOf_43 (fun q_10 hq_10 _ => ?_)
  refine tNv (host := RX6) (As := [.ref q_9, .ref q_10]) (rest := []) F hK hN hO (c_X6_copyRow_A14F E dA dB rA rB rc rd tp ya yb yc yd ye yf rC rD wd1 wd2 wd3 wd4 ws1 ws2 ws3 ws4 wi1 wi2 wi3 wi4 q_9 q_10 hq_9 hq_10) ms_X6_copyRow hN.1.2.2.2.1 ⟨Nat.le_of_ble_eq_true rfl, Nat.le_of_ble_eq_true rfl⟩ ⟨Nat.le_of_ble_eq_true rfl, Nat.le_of_ble_eq_true rfl⟩ hH hS rfl hl.1 (Nat.le_of_ble_eq_true rfl) dX5_copyOf_46 (fun H locs hq hS => ?_)
  have hH := hq
  have hH : TH E (tbC dA dB rA rB rc rd tp ya yb yc yd ye yf rC rD wd1 wd2 wd3 wd4 ws1 ws2 ws3 ws4 wi1 wi2 wi3 wi4) H := hH
  refine lv_aload_n F.1 F.2.1 dX5_copyOf_49 rfl (lv_at hl 1 rfl) ?_
  refine tGetR (j := 5) F hK hH (tyb ha1 (all1 rfl)) rfl (all1 rfl) clX5 (by decide) wd_3_23 dX5_copyOf_50 (fun q_12 hq_12 _ => ?_)
  refine lv_aload_n F.1 F.2.1 dX5_copyOf_53 rfl (lv_at hl 0 rfl) ?_
  refine tGetR (j := 5) F hK hH (tyb ha0 (all1 rfl)) rfl (all1 rfl) clX5 (by decide) wd_3_23 dX5_copyOf_54 (fun q_13 hq_13 _ => ?_)
  refine tNv (host := RX6) (As := [.ref q_12, .ref q_13]) (rest := []) F hK hN hO (c_X6_copyRow_A14F E dA dB rA rB rc rd tp ya yb yc yd ye yf rC rD wd1 wd2 wd3 wd4 ws1 ws2 ws3 ws4 wi1 wi2 wi3 wi4 q_12 q_13 hq_12 hq_13) ms_X6_copyRow hN.1.2.2.2.1 ⟨Nat.le_of_ble_eq_true rfl, Nat.le_of_ble_eq_true rfl⟩ ⟨Nat.le_of_ble_eq_true rfl, Nat.le_of_ble_eq_true rfl⟩ hH hS rfl hl.1 (Nat.le_of_ble_eq_true rfl) dX5_copyOf_57 (fun H locs hq hS => ?_)
  have hH := hq
  have hH : TH E (tbC dA dB rA rB rc rd tp ya yb yc yd ye yf rC rD wd1 wd2 wd3 wd4 ws1 ws2 ws3 ws4 wi1 wi2 wi3 wi4) H := hH
  refine lv_aload_n F.1 F.2.1 dX5_copyOf_60 rfl (lv_at hl 1 rfl) ?_
  refine tGetR (j := 6) F hK hH (tyb ha1 (all1 rfl)) rfl (all1 rfl) clX5 (by decide) wd_4_0 dX5_copyOf_61 (fun q_15 hq_15 _ => ?_)
  refine lv_aload_n F.1 F.2.1 dX5_copyOf_64 rfl (lv_at hl 0 rfl) ?_
  refine tGetR (j := 6) F hK hH (tyb ha0 (all1 rfl)) rfl (all1 rfl) clX5 (by decide) wd_4_0 dX5_copyOf_65 (fun q_16 hq_16 _ => ?_)
  refine tNv (host := RX6) (As := [.ref q_15, .ref q_16]) (rest := []) F hK hN hO (c_X6_copyRow_A14O E dA dB rA rB rc rd tp ya yb yc yd ye yf rC rD wd1 wd2 wd3 wd4 ws1 ws2 ws3 ws4 wi1 wi2 wi3 wi4 q_15 q_16 hq_15 hq_16) ms_X6_copyRow hN.1.2.2.2.1 ⟨Nat.le_of_ble_eq_true rfl, Nat.le_of_ble_eq_true rfl⟩ ⟨Nat.le_of_ble_eq_true rfl, Nat.le_of_ble_eq_true rfl⟩ hH hS rfl hl.1 (Nat.le_of_ble_eq_true rfl) dX5_copyOf_68 (fun H locs hq hS => ?_)
  have hH := hq
  have hH : TH E (tbC dA dB rA rB rc rd tp ya yb yc yd ye yf rC rD wd1 wd2 wd3 wd4 ws1 ws2 ws3 ws4 wi1 wi2 wi3 wi4) H := hH
  refine lv_aload_n F.1 F.2.1 dX5_copyOf_71 rfl (lv_at hl 1 rfl) ?_
  refine tGetR (j := 7) F hK hH (tyb ha1 (all1 rfl)) rfl (all1 rfl) clX5 (by decide) wd_4_1 dX5_copyOf_72 (fun q_18 hq_18 _ => ?_)
  refine lv_aload_n F.1 F.2.1 dX5_copyOf_75 rfl (lv_at hl 0 rfl) ?_
  refine tGetR (j := 7) F hK hH (tyb ha0 (all1 rfl)) rfl (all1 rfl) clX5 (by decide) wd_4_1 dX5_copyOf_76 (fun q_19 hq_19 _ => ?_)
  refine tNv (host := RX6) (As := [.ref q_18, .ref q_19]) (rest := []) F hK hN hO (c_X6_copyRow_A14F E dA dB rA rB rc rd tp ya yb yc yd ye yf rC rD wd1 wd2 wd3 wd4 ws1 ws2 ws3 ws4 wi1 wi2 wi3 wi4 q_18 q_19 hq_18 hq_19) ms_X6_copyRow hN.1.2.2.2.1 ⟨Nat.le_of_ble_eq_true rfl, Nat.le_of_ble_eq_true rfl⟩ ⟨Nat.le_of_ble_eq_true rfl, Nat.le_of_ble_eq_true rfl⟩ hH hS rfl hl.1 (Nat.le_of_ble_eq_true rfl) dX5_copyOf_79 (fun H locs hq hS => ?_)
  have hH := hq
  have hH : TH E (tbC dA dB rA rB rc rd tp ya yb yc yd ye yf rC rD wd1 wd2 wd3 wd4 ws1 ws2 ws3 ws4 wi1 wi2 wi3 wi4) H := hH
  refine lv_aload_n F.1 F.2.1 dX5_copyOf_82 rfl (lv_at hl 1 rfl) ?_
  refine tGetR (j := 8) F hK hH (tyb ha1 (all1 rfl)) rfl (all1 rfl) clX5 (by decide) wd_4_2 dX5_copyOf_83 (fun q_21 hq_21 _ => ?_)
  refine lv_aload_n F.1 F.2.1 dX5_copyOf_86 rfl (lv_at hl 0 rfl) ?_
  refine tGetR (j := 8) F hK hH (tyb ha0 (all1 rfl)) rfl (all1 rfl) clX5 (by decide) wd_4_2 dX5_copyOf_87 (fun q_22 hq_22 _ => ?_)
  refine tNv (host := RX6) (As := [.ref q_21, .ref q_22]) (rest := []) F hK hN hO (c_X6_copyRow_A4F E dA dB rA rB rc rd tp ya yb yc yd ye yf rC rD wd1 wd2 wd3 wd4 ws1 ws2 ws3 ws4 wi1 wi2 wi3 wi4 q_21 q_22 hq_21 hq_22) ms_X6_copyRow hN.1.2.2.2.1 ⟨Nat.le_of_ble_eq_true rfl, Nat.le_of_ble_eq_true rfl⟩ ⟨Nat.le_of_ble_eq_true rfl, Nat.le_of_ble_eq_true rfl⟩ hH hS rfl hl.1 (Nat.le_of_ble_eq_true rfl) dX5_copyOf_90 (fun H locs hq hS => ?_)
  have hH := hq
  have hH : TH E (tbC dA dB rA rB rc rd tp ya yb yc yd ye yf rC rD wd1 wd2 wd3 wd4 ws1 ws2 ws3 ws4 wi1 wi2 wi3 wi4) H := hH
  refine lv_aload_n F.1 F.2.1 dX5_copyOf_93 rfl (lv_at hl 1 rfl) ?_
  refine tGetR (j := 9) F hK hH (tyb ha1 (all1 rfl)) rfl (all1 rfl) clX5 (by decide) wd_4_3 dX5_copyOf_94 (fun q_24 hq_24 _ => ?_)
  refine lv_aload_n F.1 F.2.1 dX5_copyOf_97 rfl (lv_at hl 0 rfl) ?_
  refine tGetR (j := 9) F hK hH (tyb ha0 (all1 rfl)) rfl (all1 rfl) clX5 (by decide) wd_4_3 dX5_copyOf_98 (fun q_25 hq_25 _ => ?_)
  refine tNv (host := RX6) (As := [.ref q_24, .ref q_25]) (rest := []) F hK hN hO (c_X6_copyRow_A4O E dA dB rA rB rc rd tp ya yb yc yd ye yf rC rD wd1 wd2 wd3 wd4 ws1 ws2 ws3 ws4 wi1 wi2 wi3 wi4 q_24 q_25 hq_24 hq_25) ms_X6_copyRow hN.1.2.2.2.1 ⟨Nat.le_of_ble_eq_true rfl, Nat.le_of_ble_eq_true rfl⟩ ⟨Nat.le_of_ble_eq_true rfl, Nat.le_of_ble_eq_true rfl⟩ hH hS rfl hl.1 (Nat.le_of_ble_eq_true rfl) dX5_copyOf_101 (fun H locs hq hS => ?_)
  have hH := hq
  have hH : TH E (tbC dA dB rA rB rc rd tp ya yb yc yd ye yf rC rD wd1 wd2 wd3 wd4 ws1 ws2 ws3 ws4 wi1 wi2 wi3 wi4) H := hH
  refine lv_aload_n F.1 F.2.1 dX5_copyOf_104 rfl (lv_at hl 1 rfl) ?_
  refine tGetR (j := 10) F hK hH (tyb ha1 (all1 rfl)) rfl (all1 rfl) clX5 (by decide) wd_4_4 dX5_copyOf_105 (fun q_27 hq_27 _ => ?_)
  refine lv_aload_n F.1 F.2.1 dX5_copyOf_108 rfl (lv_at hl 0 rfl) ?_
  refine tGetR (j := 10) F hK hH (tyb ha0 (all1 rfl)) rfl (all1 rfl) clX5 (by decide) wd_4_4 dX5_copyOf_109 (fun q_28 hq_28 _ => ?_)
  refine tNv (host := RX6) (As := [.ref q_27, .ref q_28]) (rest := []) F hK hN hO (c_X6_copyRow_A4F E dA dB rA rB rc rd tp ya yb yc yd ye yf rC rD wd1 wd2 wd3 wd4 ws1 ws2 ws3 ws4 wi1 wi2 wi3 wi4 q_27 q_28 hq_27 hq_28) ms_X6_copyRow hN.1.2.2.2.1 ⟨Nat.le_of_ble_eq_true rfl, Nat.le_of_ble_eq_true rfl⟩ ⟨Nat.le_of_ble_eq_true rfl, Nat.le_of_ble_eq_true rfl⟩ hH hS rfl hl.1 (Nat.le_of_ble_eq_true rfl) dX5_copyOf_112 (fun H locs hq hS => ?_)
  have hH := hq
  have hH : TH E (tbC dA dB rA rB rc rd tp ya yb yc yd ye yf rC rD wd1 wd2 wd3 wd4 ws1 ws2 ws3 ws4 wi1 wi2 wi3 wi4) H := hH
  refine lv_aload_n F.1 F.2.1 dX5_copyOf_115 rfl (lv_at hl 1 rfl) ?_
  refine tGetR (j := 11) F hK hH (tyb ha1 (all1 rfl)) rfl (all1 rfl) clX5 (by decide) wd_4_5 dX5_copyOf_116 (fun q_30 hq_30 _ => ?_)
  refine lv_aload_n F.1 F.2.1 dX5_copyOf_119 rfl (lv_at hl 0 rfl) ?_
  refine tGetR (j := 11) F hK hH (tyb ha0 (all1 rfl)) rfl (all1 rfl) clX5 (by decide) wd_4_5 dX5_copyOf_120 (fun q_31 hq_31 _ => ?_)
  refine tNv (host := RX6) (As := [.ref q_30, .ref q_31]) (rest := []) F hK hN hO (c_X6_copyRow_A360F E dA dB rA rB rc rd tp ya yb yc yd ye yf rC rD wd1 wd2 wd3 wd4 ws1 ws2 ws3 ws4 wi1 wi2 wi3 wi4 q_30 q_31 hq_30 hq_31) ms_X6_copyRow hN.1.2.2.2.1 ⟨Nat.le_of_ble_eq_true rfl, Nat.le_of_ble_eq_true rfl⟩ ⟨Nat.le_of_ble_eq_true rfl, Nat.le_of_ble_eq_true rfl⟩ hH hS rfl hl.1 (Nat.le_of_ble_eq_true rfl) dX5_copyOf_123 (fun H locs hq hS => ?_)
  have hH := hq
  have hH : TH E (tbC dA dB rA rB rc rd tp ya yb yc yd ye yf rC rD wd1 wd2 wd3 wd4 ws1 ws2 ws3 ws4 wi1 wi2 wi3 wi4) H := hH
  refine lv_aload_n F.1 F.2.1 dX5_copyOf_126 rfl (lv_at hl 1 rfl) ?_
  refine tGetR (j := 12) F hK hH (tyb ha1 (all1 rfl)) rfl (all1 rfl) clX5 (by decide) wd_4_7 dX5_copyOf_127 (fun q_33 hq_33 _ => ?_)
  refine lv_iconst (v := 0) F.1 F.2.1 dX5_copyOf_130 (by decide) ?_
  refine topK (a := 0) (by decide) (fun k_34 hk_34 => ?_)
  refine lv_aload_n F.1 F.2.1 dX5_copyOf_131 rfl (lv_at hl 0 rfl) ?_
  refine tGetR (j := 12) F hK hH (tyb ha0 (all1 rfl)) rfl (all1 rfl) clX5 (by decide) wd_4_7 dX5_copyOf_132 (fun q_35 hq_35 _ => ?_)
  refine lv_iconst (v := 0) F.1 F.2.1 dX5_copyOf_135 (by decide) ?_
  refine topK (a := 0) (by decide) (fun k_36 hk_36 => ?_)
  refine lv_bipush (v := 6) F.1 F.2.1 dX5_copyOf_136 (by decide) ?_
  refine topK (a := 6) (by decide) (fun k_37 hk_37 => ?_)
  have en_ : k_37 = 6 := swe (by have h9_ := (eqb hk_37); rw [show ((6 : Int32)).toInt = 6 by decide]; omega)
  have ep_ : k_36 = 0 := swe (by have h9_ := (eqb hk_36); rw [show ((0 : Int32)).toInt = 0 by decide]; omega)
  have eq_ : k_34 = 0 := swe (by have h9_ := (eqb hk_34); rw [show ((0 : Int32)).toInt = 0 by decide]; omega)
  subst en_ ep_ eq_
  refine tCopyL F wd_19_22 wd_15_7 wd_15_8 wd_15_9 hK hH hS (tyb hq_33 (all1 rfl)) (tyb hq_35 (all1 rfl)) (by decide) (by decide) hl.1 (Nat.le_of_ble_eq_true rfl) (Nat.le_of_ble_eq_true rfl) dX5_copyOf_138 (fun H locs hH hS => ?_)
  exact txV F hS dX5_copyOf_141 (hH)
set_option maxHeartbeats 4000000 in
set_option maxRecDepth 100000 in
theorem c_X5_startAs (E : Ev) (dA : TD) (dB : TD) (rc : TD) (rd : TD) (tp : TD) (Fa1 : Int × Int) (Fb1 : Int × Int) (Fa2 : Int × Int) (Fb2 : Int × Int) (Fa3 : Int × Int) (Fb3 : Int × Int) (Fa4 : Int × Int) (Fb4 : Int × Int) (Pd1 : (Nat → Int32) → Prop) (Pd2 : (Nat → Int32) → Prop) (Pd3 : (Nat → Int32) → Prop) (Pd4 : (Nat → Int32) → Prop) (Ps1 : (Nat → Int32) → Prop) (Ps2 : (Nat → Int32) → Prop) (Ps3 : (Nat → Int32) → Prop) (Ps4 : (Nat → Int32) → Prop) (Pi1 : (Nat → Int32) → Prop) (Pi2 : (Nat → Int32) → Prop) (Pi3 : (Nat → Int32) → Prop) (Pi4 : (Nat → Int32) → Prop) (a0 : Nat) (a1 : Nat) (ha0 : eT E a0 ∈ [17]) (ha1 : eT E a1 ∈ [26, 27, 37, 38]) (hFa1 : 0 ≤ Fa1.1 ∧ Fa1.2 ≤ 12) (hFb1 : 0 ≤ Fb1.1 ∧ Fb1.2 ≤ 14) (hFa2 : 0 ≤ Fa2.1 ∧ Fa2.2 ≤ 12) (hFb2 : 0 ≤ Fb2.1 ∧ Fb2.2 ≤ 14) (hFa3 : 0 ≤ Fa3.1 ∧ Fa3.2 ≤ 12) (hFb3 : 0 ≤ Fb3.1 ∧ Fb3.2 ≤ 14) (hFa4 : 0 ≤ Fa4.1 ∧ Fa4.2 ≤ 12) (hFb4 : 0 ≤ Fb4.1 ∧ Fb4.2 ≤ 14) (hPd1 : ∀ f, Pd1 f → ivP 12 (-2) 11 f) (hPd2 : ∀ f, Pd2 f → ivP 12 (-2) 11 f) (hPd3 : ∀ f, Pd3 f → ivP 12 (-2) 11 f) (hPd4 : ∀ f, Pd4 f → ivP 12 (-2) 11 f) (hPs1 : ∀ f, Ps1 f → ivP 12 (-2147483648) 2147483647 f) (hPs2 : ∀ f, Ps2 f → ivP 12 (-2147483648) 2147483647 f) (hPs3 : ∀ f, Ps3 f → ivP 12 (-2147483648) 2147483647 f) (hPs4 : ∀ f, Ps4 f → ivP 12 (-2147483648) 2147483647 f) (hPi1 : ∀ f, Pi1 f → ivP 48 (-2147483648) 2147483647 f) (hPi2 : ∀ f, Pi2 f → ivP 48 (-2147483648) 2147483647 f) (hPi3 : ∀ f, Pi3 f → ivP 48 (-2147483648) 2147483647 f) (hPi4 : ∀ f, Pi4 f → ivP 48 (-2147483648) 2147483647 f) : TcV E yX5_startAs cX5_startAs 3 ({ frames := 2, cells := 0, slots := 0, locals := 61 }) [.ref a0, .ref a1] (fun H => TH E (tbC dA dB (riverD (.inl Fa1) (.inl Fb1) (.inl (0, 4)) 31 33 35 39 43 47) (riverD (.inl Fa2) (.inl Fb2) (.inl (0, 4)) 32 34 36 40 44 48) rc rd tp A14F A14F A4F A4F A14F A14F (riverD (.inl Fa3) (.inl Fb3) (.inl (0, 4)) 3 8 3 41 45 49) (riverD (.inl Fa4) (.inl Fb4) (.inl (0, 4)) 3 8 3 42 46 50) ((.inr (.inl (0, 12, Pd1)))) ((.inr (.inl (0, 12, Pd2)))) ((.inr (.inl (0, 12, Pd3)))) ((.inr (.inl (0, 12, Pd4)))) ((.inr (.inl (0, 12, Ps1)))) ((.inr (.inl (0, 12, Ps2)))) ((.inr (.inl (0, 12, Ps3)))) ((.inr (.inl (0, 12, Ps4)))) ((.inr (.inl (0, 48, Pi1)))) ((.inr (.inl (0, 48, Pi2)))) ((.inr (.inl (0, 48, Pi3)))) ((.inr (.inl (0, 48, Pi4))))) H) (fun H => TH E (tbC dA dB (riverD (.inl Fa1) (.inl Fb1) (.inl (0, 4)) 31 33 35 39 43 47) (riverD (.inl Fa2) (.inl Fb2) (.inl (0, 4)) 32 34 36 40 44 48) rc rd tp A14F A14F A4F A4F A14F A14F (riverD (.inl Fa3) (.inl Fb3) (.inl (0, 4)) 3 8 3 41 45 49) (riverD (.inl Fa4) (.inl Fb4) (.inl (0, 4)) 3 8 3 42 46 50) ((.inr (.inl (0, 12, Pd1)))) ((.inr (.inl (0, 12, Pd2)))) ((.inr (.inl (0, 12, Pd3)))) ((.inr (.inl (0, 12, Pd4)))) ((.inr (.inl (0, 12, Ps1)))) ((.inr (.inl (0, 12, Ps2)))) ((.inr (.inl (0, 12, Ps3)))) ((.inr (.inl (0, 12, Ps4)))) ((.inr (.inl (0, 48, Pi1)))) ((.inr (.inl (0, 48, Pi2)))) ((.inr (.inl (0, 48, Pi3)))) ((.inr (.inl (0, 48, Pi4))))) H) := by
  refine teV (by decide) (Nat.le_of_ble_eq_true rfl) ?_
  intro p_ ev_ s mi_ below_ meth cd_ ls F hK hN hO hH hS hl
  have hH : TH E (tbC dA dB (riverD (.inl Fa1) (.inl Fb1) (.inl (0, 4)) 31 33 35 39 43 47) (riverD (.inl Fa2) (.inl Fb2) (.inl (0, 4)) 32 34 36 40 44 48) rc rd tp A14F A14F A4F A4F A14F A14F (riverD (.inl Fa3) (.inl Fb3) (.inl (0, 4)) 3 8 3 41 45 49) (riverD (.inl Fa4) (.inl Fb4) (.inl (0, 4)) 3 8 3 42 46 50) ((.inr (.inl (0, 12, Pd1)))) ((.inr (.inl (0, 12, Pd2)))) ((.inr (.inl (0, 12, Pd3)))) ((.inr (.inl (0, 12, Pd4)))) ((.inr (.inl (0, 12, Ps1)))) ((.inr (.inl (0, 12, Ps2)))) ((.inr (.inl (0, 12, Ps3)))) ((.inr (.inl (0, 12, Ps4)))) ((.inr (.inl (0, 48, Pi1)))) ((.inr (.inl (0, 48, Pi2)))) ((.inr (.inl (0, 48, Pi3)))) ((.inr (.inl (0, 48, Pi4))))) s.heap := hH
  have hl : lv_has ls 3 [(0, .ref a0), (1, .ref a1)] := hl
  refine lv_aload_n F.1 F.2.1 dX5_startAs_0 rfl (lv_at hl 0 rfl) ?_
  refine lv_iconst (v := 0) F.1 F.2.1 dX5_startAs_1 (by decide) ?_
  refine topK (a := 0) (by decide) (fun k_1 hk_1 => ?_)
  refine tPut (j := 0) F hK hH hS (tyb ha0 (all1 rfl)) rfl (fdI (wkb (eqb hk_1) rfl rfl)) clX5 (by decide) wd_14_21 rfl rfl rfl rfl dX5_startAs_2 (fun H locs hH hS => ?_)
  refine lv_aload_n F.1 F.2.1 dX5_startAs_5 rfl (lv_at hl 0 rfl) ?_
  refine lv_aload_n F.1 F.2.1 dX5_startAs_6 rfl (lv_at hl 1 rfl) ?_
  refine tGetIM (j := 19) F hK hH ha1 (alls ⟨_, rfl, rfl⟩ (alls ⟨_, rfl, rfl⟩ (alls ⟨_, rfl, rfl⟩ (alls1 ⟨_, rfl, rfl⟩)))) clX2 (by decide) wd_14_22 dX5_startAs_7 (fun z_2 hz_2 => ?_)
  refine tPut (j := 1) F hK hH hS (tyb ha0 (all1 rfl)) rfl (fdI hz_2) clX5 (by decide) wd_3_19 rfl rfl rfl rfl dX5_startAs_10 (fun H locs hH hS => ?_)
  refine lv_aload_n F.1 F.2.1 dX5_startAs_13 rfl (lv_at hl 1 rfl) ?_
  refine tGetRM (j := 5) (L := [4]) F hK hH ha1 (alls ⟨_, _, rfl, rfl, by decide⟩ (alls ⟨_, _, rfl, rfl, by decide⟩ (alls ⟨_, _, rfl, rfl, by decide⟩ (alls1 ⟨_, _, rfl, rfl, by decide⟩)))) (all1 rfl) clX2 (by decide) wd_14_23 dX5_startAs_14 (fun q_3 hq_3 _ => ?_)
  refine lv_aload_n F.1 F.2.1 dX5_startAs_17 rfl (lv_at hl 0 rfl) ?_
  refine tGetR (j := 2) F hK hH (tyb ha0 (all1 rfl)) rfl (all1 rfl) clX5 (by decide) wd_3_20 dX5_startAs_18 (fun q_4 hq_4 _ => ?_)
  refine tNv (host := RX6) (As := [.ref q_3, .ref q_4]) (rest := []) F hK hN hO (c_X6_copyRow_A14R E dA dB (riverD (.inl Fa1) (.inl Fb1) (.inl (0, 4)) 31 33 35 39 43 47) (riverD (.inl Fa2) (.inl Fb2) (.inl (0, 4)) 32 34 36 40 44 48) rc rd tp A14F A14F A4F A4F A14F A14F (riverD (.inl Fa3) (.inl Fb3) (.inl (0, 4)) 3 8 3 41 45 49) (riverD (.inl Fa4) (.inl Fb4) (.inl (0, 4)) 3 8 3 42 46 50) ((.inr (.inl (0, 12, Pd1)))) ((.inr (.inl (0, 12, Pd2)))) ((.inr (.inl (0, 12, Pd3)))) ((.inr (.inl (0, 12, Pd4)))) ((.inr (.inl (0, 12, Ps1)))) ((.inr (.inl (0, 12, Ps2)))) ((.inr (.inl (0, 12, Ps3)))) ((.inr (.inl (0, 12, Ps4)))) ((.inr (.inl (0, 48, Pi1)))) ((.inr (.inl (0, 48, Pi2)))) ((.inr (.inl (0, 48, Pi3)))) ((.inr (.inl (0, 48, Pi4)))) q_3 q_4 hq_3 hq_4) ms_X6_copyRow hN.1.2.2.2.1 ⟨Nat.le_of_ble_eq_true rfl, Nat.le_of_ble_eq_true rfl⟩ ⟨Nat.le_of_ble_eq_true rfl, Nat.le_of_ble_eq_true rfl⟩ hH hS rfl hl.1 (Nat.le_of_ble_eq_true rfl) dX5_startAs_21 (fun H locs hq hS => ?_)
  have hH := hq
  have hH : TH E (tbC dA dB (riverD (.inl Fa1) (.inl Fb1) (.inl (0, 4)) 31 33 35 39 43 47) (riverD (.inl Fa2) (.inl Fb2) (.inl (0, 4)) 32 34 36 40 44 48) rc rd tp A14F A14F A4F A4F A14F A14F (riverD (.inl Fa3) (.inl Fb3) (.inl (0, 4)) 3 8 3 41 45 49) (riverD (.inl Fa4) (.inl Fb4) (.inl (0, 4)) 3 8 3 42 46 50) ((.inr (.inl (0, 12, Pd1)))) ((.inr (.inl (0, 12, Pd2)))) ((.inr (.inl (0, 12, Pd3)))) ((.inr (.inl (0, 12, Pd4)))) ((.inr (.inl (0, 12, Ps1)))) ((.inr (.inl (0, 12, Ps2)))) ((.inr (.inl (0, 12, Ps3)))) ((.inr (.inl (0, 12, Ps4)))) ((.inr (.inl (0, 48, Pi1)))) ((.inr (.inl (0, 48, Pi2)))) ((.inr (.inl (0, 48, Pi3)))) ((.inr (.inl (0, 48, Pi4))))) H := hH
  refine lv_aload_n F.1 F.2.1 dX5_startAs_24 rfl (lv_at hl 1 rfl) ?_
  refine tGetRM (j := 9) (L := [3, 31, 32]) F hK hH ha1 (alls ⟨_, _, rfl, rfl, by decide⟩ (alls ⟨_, _, rfl, rfl, by decide⟩ (alls ⟨_, _, rfl, rfl, by decide⟩ (alls1 ⟨_, _, rfl, rfl, by decide⟩)))) (all3 rfl rfl rfl) clX2 (by decide) wd_15_0 dX5_startAs_25 (fun q_6 hq_6 _ => ?_)
  refine lv_aload_n F.1 F.2.1 dX5_startAs_28 rfl (lv_at hl 0 rfl) ?_
  refine tGetR (j := 3) F hK hH (tyb ha0 (all1 rfl)) rfl (all1 rfl) clX5 (by decide) wd_3_21 dX5_startAs_29 (fun q_7 hq_7 _ => ?_)
  refine tNv (host := RX6) (As := [.ref q_6, .ref q_7]) (rest := []) F hK hN hO (c_X6_copyRow_g E dA dB (riverD (.inl Fa1) (.inl Fb1) (.inl (0, 4)) 31 33 35 39 43 47) (riverD (.inl Fa2) (.inl Fb2) (.inl (0, 4)) 32 34 36 40 44 48) rc rd tp (riverD (.inl Fa3) (.inl Fb3) (.inl (0, 4)) 3 8 3 41 45 49) (riverD (.inl Fa4) (.inl Fb4) (.inl (0, 4)) 3 8 3 42 46 50) ((.inr (.inl (0, 12, Pd1)))) ((.inr (.inl (0, 12, Pd2)))) ((.inr (.inl (0, 12, Pd3)))) ((.inr (.inl (0, 12, Pd4)))) ((.inr (.inl (0, 12, Ps1)))) ((.inr (.inl (0, 12, Ps2)))) ((.inr (.inl (0, 12, Ps3)))) ((.inr (.inl (0, 12, Ps4)))) ((.inr (.inl (0, 48, Pi1)))) ((.inr (.inl (0, 48, Pi2)))) ((.inr (.inl (0, 48, Pi3)))) ((.inr (.inl (0, 48, Pi4)))) q_6 q_7 hq_6 (by have h9_ := hq_7; simp at h9_ ⊢; omega)) ms_X6_copyRow hN.1.2.2.2.1 ⟨Nat.le_of_ble_eq_true rfl, Nat.le_of_ble_eq_true rfl⟩ ⟨Nat.le_of_ble_eq_true rfl, Nat.le_of_ble_eq_true rfl⟩ hH hS rfl hl.1 (Nat.le_of_ble_eq_true rfl) dX5_startAs_32 (fun H locs hq hS => ?_)
  have hH := hq
  have hH : TH E (tbC dA dB (riverD (.inl Fa1) (.inl Fb1) (.inl (0, 4)) 31 33 35 39 43 47) (riverD (.inl Fa2) (.inl Fb2) (.inl (0, 4)) 32 34 36 40 44 48) rc rd tp A14F A14F A4F A4F A14F A14F (riverD (.inl Fa3) (.inl Fb3) (.inl (0, 4)) 3 8 3 41 45 49) (riverD (.inl Fa4) (.inl Fb4) (.inl (0, 4)) 3 8 3 42 46 50) ((.inr (.inl (0, 12, Pd1)))) ((.inr (.inl (0, 12, Pd2)))) ((.inr (.inl (0, 12, Pd3)))) ((.inr (.inl (0, 12, Pd4)))) ((.inr (.inl (0, 12, Ps1)))) ((.inr (.inl (0, 12, Ps2)))) ((.inr (.inl (0, 12, Ps3)))) ((.inr (.inl (0, 12, Ps4)))) ((.inr (.inl (0, 48, Pi1)))) ((.inr (.inl (0, 48, Pi2)))) ((.inr (.inl (0, 48, Pi3)))) ((.inr (.inl (0, 48, Pi4))))) H := hH
  refine lv_aload_n F.1 F.2.1 dX5_startAs_35 rfl (lv_at hl 1 rfl) ?_
  refine tGetRM (j := 6) (L := [3]) F hK hH ha1 (alls ⟨_, _, rfl, rfl, by decide⟩ (alls ⟨_, _, rfl, rfl, by decide⟩ (alls ⟨_, _, rfl, rfl, by decide⟩ (alls1 ⟨_, _, rfl, rfl, by decide⟩)))) (all1 rfl) clX2 (by decide) wd_15_1 dX5_startAs_36 (fun q_9 hq_9 _ => ?_)
  refine lv_aload_n F.1 F.2.1 dX5_startAs_39 rfl (lv_at hl 0 rfl) ?_
  refine tGetR (j := 4) F hK hH (tyb ha0 (all1 rfl)) rfl (all1 rfl) clX5 (by decide) wd_3_22 dX5_startAs_40 (fun q_10 hq_10 _ => ?_)
  refine tNv (host := RX6) (As := [.ref q_9, .ref q_10]) (rest := []) F hK hN hO (c_X6_copyRow_A14F E dA dB (riverD (.inl Fa1) (.inl Fb1) (.inl (0, 4)) 31 33 35 39 43 47) (riverD (.inl Fa2) (.inl Fb2) (.inl (0, 4)) 32 34 36 40 44 48) rc rd tp A14F A14F A4F A4F A14F A14F (riverD (.inl Fa3) (.inl Fb3) (.inl (0, 4)) 3 8 3 41 45 49) (riverD (.inl Fa4) (.inl Fb4) (.inl (0, 4)) 3 8 3 42 46 50) ((.inr (.inl (0, 12, Pd1)))) ((.inr (.inl (0, 12, Pd2)))) ((.inr (.inl (0, 12, Pd3)))) ((.inr (.inl (0, 12, Pd4)))) ((.inr (.inl (0, 12, Ps1)))) ((.inr (.inl (0, 12, Ps2)))) ((.inr (.inl (0, 12, Ps3)))) ((.inr (.inl (0, 12, Ps4)))) ((.inr (.inl (0, 48, Pi1)))) ((.inr (.inl (0, 48, Pi2)))) ((.inr (.inl (0, 48, Pi3)))) ((.inr (.inl (0, 48, Pi4)))) q_9 q_10 hq_9 hq_10) ms_X6_copyRow hN.1.2.2.2.1 ⟨Nat.le_of_ble_eq_true rfl, Nat.le_of_ble_eq_true rfl⟩ ⟨Nat.le_of_ble_eq_true rfl, Nat.le_of_ble_eq_true rfl⟩ hH hS rfl hl.1 (Nat.le_of_ble_eq_true rfl) dX5_startAs_43 (fun H locs hq hS => ?_)
  have hH := hq
  have hH : TH E (tbC dA dB (riverD (.inl Fa1) (.inl Fb1) (.inl (0, 4)) 31 33 35 39 43 47) (riverD (.inl Fa2) (.inl Fb2) (.inl (0, 4)) 32 34 36 40 44 48) rc rd tp A14F A14F A4F A4F A14F A14F (riverD (.inl Fa3) (.inl Fb3) (.inl (0, 4)) 3 8 3 41 45 49) (riverD (.inl Fa4) (.inl Fb4) (.inl (0, 4)) 3 8 3 42 46 50) ((.inr (.inl (0, 12, Pd1)))) ((.inr (.inl (0, 12, Pd2)))) ((.inr (.inl (0, 12, Pd3)))) ((.inr (.inl (0, 12, Pd4)))) ((.inr (.inl (0, 12, Ps1)))) ((.inr (.inl (0, 12, Ps2)))) ((.inr (.inl (0, 12, Ps3)))) ((.inr (.inl (0, 12, Ps4)))) ((.inr (.inl (0, 48, Pi1)))) ((.inr (.inl (0, 48, Pi2)))) ((.inr (.inl (0, 48, Pi3)))) ((.inr (.inl (0, 48, Pi4))))) H := hH
  refine lv_aload_n F.1 F.2.1 dX5_startAs_46 rfl (lv_at hl 1 rfl) ?_
  refine tGetRM (j := 10) (L := [3]) F hK hH ha1 (alls ⟨_, _, rfl, rfl, by decide⟩ (alls ⟨_, _, rfl, rfl, by decide⟩ (alls ⟨_, _, rfl, rfl, by decide⟩ (alls1 ⟨_, _, rfl, rfl, by decide⟩)))) (all1 rfl) clX2 (by decide) wd_15_2 dX5_startAs_47 (fun q_12 hq_12 _ => ?_)
  refine lv_aload_n F.1 F.2.1 dX5_startAs_50 rfl (lv_at hl 0 rfl) ?_
  refine tGetR (j := 5) F hK hH (tyb ha0 (all1 rfl)) rfl (all1 rfl) clX5 (by decide) wd_3_23 dX5_startAs_51 (fun q_13 hq_13 _ => ?_)
  refine tNv (host := RX6) (As := [.ref q_12, .ref q_13]) (rest := []) F hK hN hO (c_X6_copyRow_A14F E dA dB (riverD (.inl Fa1) (.inl Fb1) (.inl (0, 4)) 31 33 35 39 43 47) (riverD (.inl Fa2) (.inl Fb2) (.inl (0, 4)) 32 34 36 40 44 48) rc rd tp A14F A14F A4F A4F A14F A14F (riverD (.inl Fa3) (.inl Fb3) (.inl (0, 4)) 3 8 3 41 45 49) (riverD (.inl Fa4) (.inl Fb4) (.inl (0, 4)) 3 8 3 42 46 50) ((.inr (.inl (0, 12, Pd1)))) ((.inr (.inl (0, 12, Pd2)))) ((.inr (.inl (0, 12, Pd3)))) ((.inr (.inl (0, 12, Pd4)))) ((.inr (.inl (0, 12, Ps1)))) ((.inr (.inl (0, 12, Ps2)))) ((.inr (.inl (0, 12, Ps3)))) ((.inr (.inl (0, 12, Ps4)))) ((.inr (.inl (0, 48, Pi1)))) ((.inr (.inl (0, 48, Pi2)))) ((.inr (.inl (0, 48, Pi3)))) ((.inr (.inl (0, 48, Pi4)))) q_12 q_13 hq_12 hq_13) ms_X6_copyRow hN.1.2.2.2.1 ⟨Nat.le_of_ble_eq_true rfl, Nat.le_of_ble_eq_true rfl⟩ ⟨Nat.le_of_ble_eq_true rfl, Nat.le_of_ble_eq_true rfl⟩ hH hS rfl hl.1 (Nat.le_of_ble_eq_true rfl) dX5_startAs_54 (fun H locs hq hS => ?_)
  have hH := hq
  have hH : TH E (tbC dA dB (riverD (.inl Fa1) (.inl Fb1) (.inl (0, 4)) 31 33 35 39 43 47) (riverD (.inl Fa2) (.inl Fb2) (.inl (0, 4)) 32 34 36 40 44 48) rc rd tp A14F A14F A4F A4F A14F A14F (riverD (.inl Fa3) (.inl Fb3) (.inl (0, 4)) 3 8 3 41 45 49) (riverD (.inl Fa4) (.inl Fb4) (.inl (0, 4)) 3 8 3 42 46 50) ((.inr (.inl (0, 12, Pd1)))) ((.inr (.inl (0, 12, Pd2)))) ((.inr (.inl (0, 12, Pd3)))) ((.inr (.inl (0, 12, Pd4)))) ((.inr (.inl (0, 12, Ps1)))) ((.inr (.inl (0, 12, Ps2)))) ((.inr (.inl (0, 12, Ps3)))) ((.inr (.inl (0, 12, Ps4)))) ((.inr (.inl (0, 48, Pi1)))) ((.inr (.inl (0, 48, Pi2)))) ((.inr (.inl (0, 48, Pi3)))) ((.inr (.inl (0, 48, Pi4))))) H := hH
  refine lv_iconst (v := 0) F.1 F.2.1 dX5_startAs_57 (by decide) ?_
  refine topK (a := 0) (by decide) (fun k_15 hk_15 => ?_)
  refine lv_istore_n (lv' := [(2, .int k_15), (0, .ref a0), (1, .ref a1)]) F.1 F.2.1 dX5_startAs_58 rfl hl (by decide) rfl (fun ls hl => ?_)
  refine wloop (σ := Int32) (fun n9 x9 H locs ls => (14 - x9.toInt + 1).toNat < n9 ∧ (0 ≤ x9.toInt ∧ x9.toInt ≤ 14) ∧ TH E (tbC dA dB (riverD (.inl Fa1) (.inl Fb1) (.inl (0, 4)) 31 33 35 39 43 47) (riverD (.inl Fa2) (.inl Fb2) (.inl (0, 4)) 32 34 36 40 44 48) rc rd tp A14F A14F A4F A4F A14F A14F (riverD (.inl Fa3) (.inl Fb3) (.inl (0, 4)) 3 8 3 41 45 49) (riverD (.inl Fa4) (.inl Fb4) (.inl (0, 4)) 3 8 3 42 46 50) ((.inr (.inl (0, 12, Pd1)))) ((.inr (.inl (0, 12, Pd2)))) ((.inr (.inl (0, 12, Pd3)))) ((.inr (.inl (0, 12, Pd4)))) ((.inr (.inl (0, 12, Ps1)))) ((.inr (.inl (0, 12, Ps2)))) ((.inr (.inl (0, 12, Ps3)))) ((.inr (.inl (0, 12, Ps4)))) ((.inr (.inl (0, 48, Pi1)))) ((.inr (.inl (0, 48, Pi2)))) ((.inr (.inl (0, 48, Pi3)))) ((.inr (.inl (0, 48, Pi4))))) H ∧ va_S (eA E s.heap.size) s.heap H locs ∧ lv_has ls 3 [(0, .ref a0), (2, .int x9)]) ?_ (fun x9 H locs ls h => absurd h.1 (Nat.not_lt_zero _)) _ (k_15) ⟨Nat.lt_succ_self _, (wkb (eqb hk_15) rfl rfl), hH, hS, lv_sub hl [1, 0] rfl⟩
  intro n_59 ih_59 u_16 H locs ls ⟨hm_59, hu_16, hH, hS, hl⟩
  have hm_59 : (14 - u_16.toInt + 1).toNat < n_59 + 1 := hm_59
  have hu_16 : (0 ≤ u_16.toInt ∧ u_16.toInt ≤ 14) := hu_16
  have hH : TH E (tbC dA dB (riverD (.inl Fa1) (.inl Fb1) (.inl (0, 4)) 31 33 35 39 43 47) (riverD (.inl Fa2) (.inl Fb2) (.inl (0, 4)) 32 34 36 40 44 48) rc rd tp A14F A14F A4F A4F A14F A14F (riverD (.inl Fa3) (.inl Fb3) (.inl (0, 4)) 3 8 3 41 45 49) (riverD (.inl Fa4) (.inl Fb4) (.inl (0, 4)) 3 8 3 42 46 50) ((.inr (.inl (0, 12, Pd1)))) ((.inr (.inl (0, 12, Pd2)))) ((.inr (.inl (0, 12, Pd3)))) ((.inr (.inl (0, 12, Pd4)))) ((.inr (.inl (0, 12, Ps1)))) ((.inr (.inl (0, 12, Ps2)))) ((.inr (.inl (0, 12, Ps3)))) ((.inr (.inl (0, 12, Ps4)))) ((.inr (.inl (0, 48, Pi1)))) ((.inr (.inl (0, 48, Pi2)))) ((.inr (.inl (0, 48, Pi3)))) ((.inr (.inl (0, 48, Pi4))))) H := hH
  have hl : lv_has ls 3 [(0, .ref a0), (2, .int u_16)] := hl
  refine lv_iload_n F.1 F.2.1 dX5_startAs_59 rfl (lv_at hl 1 rfl) ?_
  refine lv_bipush (v := 14) F.1 F.2.1 dX5_startAs_60 (by decide) ?_
  refine topK (a := 14) (by decide) (fun k_17 hk_17 => ?_)
  refine b_ge (tgt := 86) F dX5_startAs_62 (by decide) (fun c_18 => ?_) (fun c_18 => ?_)
  · skip
    have r_19 : 14 ≤ u_16.toInt ∧ u_16.toInt ≤ 14 := by have h9_ := hu_16; omega
    refine lv_iconst (v := 0) F.1 F.2.1 dX5_startAs_86 (by decide) ?_
    refine topK (a := 0) (by decide) (fun k_21 hk_21 => ?_)
    refine lv_istore_n (lv' := [(2, .int k_21), (0, .ref a0)]) F.1 F.2.1 dX5_startAs_87 rfl hl (by decide) rfl (fun ls hl => ?_)
    refine wloop (σ := Int32) (fun n9 x9 H locs ls => (4 - x9.toInt + 1).toNat < n9 ∧ (0 ≤ x9.toInt ∧ x9.toInt ≤ 4) ∧ TH E (tbC dA dB (riverD (.inl Fa1) (.inl Fb1) (.inl (0, 4)) 31 33 35 39 43 47) (riverD (.inl Fa2) (.inl Fb2) (.inl (0, 4)) 32 34 36 40 44 48) rc rd tp A14F A14F A4F A4F A14F A14F (riverD (.inl Fa3) (.inl Fb3) (.inl (0, 4)) 3 8 3 41 45 49) (riverD (.inl Fa4) (.inl Fb4) (.inl (0, 4)) 3 8 3 42 46 50) ((.inr (.inl (0, 12, Pd1)))) ((.inr (.inl (0, 12, Pd2)))) ((.inr (.inl (0, 12, Pd3)))) ((.inr (.inl (0, 12, Pd4)))) ((.inr (.inl (0, 12, Ps1)))) ((.inr (.inl (0, 12, Ps2)))) ((.inr (.inl (0, 12, Ps3)))) ((.inr (.inl (0, 12, Ps4)))) ((.inr (.inl (0, 48, Pi1)))) ((.inr (.inl (0, 48, Pi2)))) ((.inr (.inl (0, 48, Pi3)))) ((.inr (.inl (0, 48, Pi4))))) H ∧ va_S (eA E s.heap.size) s.heap H locs ∧ lv_has ls 3 [(0, .ref a0), (2, .int x9)]) ?_ (fun x9 H locs ls h => absurd h.1 (Nat.not_lt_zero _)) _ (k_21) ⟨Nat.lt_succ_self _, (wkb (eqb hk_21) rfl rfl), hH, hS, lv_sub hl [1, 0] rfl⟩
    intro n_88 ih_88 u_22 H locs ls ⟨hm_88, hu_22, hH, hS, hl⟩
    have hm_88 : (4 - u_22.toInt + 1).toNat < n_88 + 1 := hm_88
    have hu_22 : (0 ≤ u_22.toInt ∧ u_22.toInt ≤ 4) := hu_22
    have hH : TH E (tbC dA dB (riverD (.inl Fa1) (.inl Fb1) (.inl (0, 4)) 31 33 35 39 43 47) (riverD (.inl Fa2) (.inl Fb2) (.inl (0, 4)) 32 34 36 40 44 48) rc rd tp A14F A14F A4F A4F A14F A14F (riverD (.inl Fa3) (.inl Fb3) (.inl (0, 4)) 3 8 3 41 45 49) (riverD (.inl Fa4) (.inl Fb4) (.inl (0, 4)) 3 8 3 42 46 50) ((.inr (.inl (0, 12, Pd1)))) ((.inr (.inl (0, 12, Pd2)))) ((.inr (.inl (0, 12, Pd3)))) ((.inr (.inl (0, 12, Pd4)))) ((.inr (.inl (0, 12, Ps1)))) ((.inr (.inl (0, 12, Ps2)))) ((.inr (.inl (0, 12, Ps3)))) ((.inr (.inl (0, 12, Ps4)))) ((.inr (.inl (0, 48, Pi1)))) ((.inr (.inl (0, 48, Pi2)))) ((.inr (.inl (0, 48, Pi3)))) ((.inr (.inl (0, 48, Pi4))))) H := hH
    have hl : lv_has ls 3 [(0, .ref a0), (2, .int u_22)] := hl
    refine lv_iload_n F.1 F.2.1 dX5_startAs_88 rfl (lv_at hl 1 rfl) ?_
    refine lv_iconst (v := 4) F.1 F.2.1 dX5_startAs_89 (by decide) ?_
    refine topK (a := 4) (by decide) (fun k_23 hk_23 => ?_)
    refine b_ge (tgt := 121) F dX5_startAs_90 (by decide) (fun c_24 => ?_) (fun c_24 => ?_)
    · skip
      have r_25 : 4 ≤ u_22.toInt ∧ u_22.toInt ≤ 4 := by have h9_ := hu_22; omega
      refine lv_iconst (v := 0) F.1 F.2.1 dX5_startAs_121 (by decide) ?_
      refine topK (a := 0) (by decide) (fun k_27 hk_27 => ?_)
      refine lv_istore_n (lv' := [(2, .int k_27), (0, .ref a0)]) F.1 F.2.1 dX5_startAs_122 rfl hl (by decide) rfl (fun ls hl => ?_)
      refine wloop (σ := Int32) (fun n9 x9 H locs ls => (360 - x9.toInt + 1).toNat < n9 ∧ (0 ≤ x9.toInt ∧ x9.toInt ≤ 360) ∧ TH E (tbC dA dB (riverD (.inl Fa1) (.inl Fb1) (.inl (0, 4)) 31 33 35 39 43 47) (riverD (.inl Fa2) (.inl Fb2) (.inl (0, 4)) 32 34 36 40 44 48) rc rd tp A14F A14F A4F A4F A14F A14F (riverD (.inl Fa3) (.inl Fb3) (.inl (0, 4)) 3 8 3 41 45 49) (riverD (.inl Fa4) (.inl Fb4) (.inl (0, 4)) 3 8 3 42 46 50) ((.inr (.inl (0, 12, Pd1)))) ((.inr (.inl (0, 12, Pd2)))) ((.inr (.inl (0, 12, Pd3)))) ((.inr (.inl (0, 12, Pd4)))) ((.inr (.inl (0, 12, Ps1)))) ((.inr (.inl (0, 12, Ps2)))) ((.inr (.inl (0, 12, Ps3)))) ((.inr (.inl (0, 12, Ps4)))) ((.inr (.inl (0, 48, Pi1)))) ((.inr (.inl (0, 48, Pi2)))) ((.inr (.inl (0, 48, Pi3)))) ((.inr (.inl (0, 48, Pi4))))) H ∧ va_S (eA E s.heap.size) s.heap H locs ∧ lv_has ls 3 [(0, .ref a0), (2, .int x9)]) ?_ (fun x9 H locs ls h => absurd h.1 (Nat.not_lt_zero _)) _ (k_27) ⟨Nat.lt_succ_self _, (wkb (eqb hk_27) rfl rfl), hH, hS, lv_sub hl [1, 0] rfl⟩
      intro n_123 ih_123 u_28 H locs ls ⟨hm_123, hu_28, hH, hS, hl⟩
      have hm_123 : (360 - u_28.toInt + 1).toNat < n_123 + 1 := hm_123
      have hu_28 : (0 ≤ u_28.toInt ∧ u_28.toInt ≤ 360) := hu_28
      have hH : TH E (tbC dA dB (riverD (.inl Fa1) (.inl Fb1) (.inl (0, 4)) 31 33 35 39 43 47) (riverD (.inl Fa2) (.inl Fb2) (.inl (0, 4)) 32 34 36 40 44 48) rc rd tp A14F A14F A4F A4F A14F A14F (riverD (.inl Fa3) (.inl Fb3) (.inl (0, 4)) 3 8 3 41 45 49) (riverD (.inl Fa4) (.inl Fb4) (.inl (0, 4)) 3 8 3 42 46 50) ((.inr (.inl (0, 12, Pd1)))) ((.inr (.inl (0, 12, Pd2)))) ((.inr (.inl (0, 12, Pd3)))) ((.inr (.inl (0, 12, Pd4)))) ((.inr (.inl (0, 12, Ps1)))) ((.inr (.inl (0, 12, Ps2)))) ((.inr (.inl (0, 12, Ps3)))) ((.inr (.inl (0, 12, Ps4)))) ((.inr (.inl (0, 48, Pi1)))) ((.inr (.inl (0, 48, Pi2)))) ((.inr (.inl (0, 48, Pi3)))) ((.inr (.inl (0, 48, Pi4))))) H := hH
      have hl : lv_has ls 3 [(0, .ref a0), (2, .int u_28)] := hl
      refine lv_iload_n F.1 F.2.1 dX5_startAs_123 rfl (lv_at hl 1 rfl) ?_
      refine lv_sipush (v := 360) F.1 F.2.1 dX5_startAs_124 (by decide) ?_
      refine topK (a := 360) (by decide) (fun k_29 hk_29 => ?_)
      refine b_ge (tgt := 143) F dX5_startAs_127 (by decide) (fun c_30 => ?_) (fun c_30 => ?_)
      · skip
        have r_31 : 360 ≤ u_28.toInt ∧ u_28.toInt ≤ 360 := by have h9_ := hu_28; omega
        refine lv_iconst (v := 0) F.1 F.2.1 dX5_startAs_143 (by decide) ?_
        refine topK (a := 0) (by decide) (fun k_33 hk_33 => ?_)
        refine lv_istore_n (lv' := [(2, .int k_33), (0, .ref a0)]) F.1 F.2.1 dX5_startAs_144 rfl hl (by decide) rfl (fun ls hl => ?_)
        refine wloop (σ := Int32) (fun n9 x9 H locs ls => (9 - x9.toInt + 1).toNat < n9 ∧ (0 ≤ x9.toInt ∧ x9.toInt ≤ 9) ∧ TH E (tbC dA dB (riverD (.inl Fa1) (.inl Fb1) (.inl (0, 4)) 31 33 35 39 43 47) (riverD (.inl Fa2) (.inl Fb2) (.inl (0, 4)) 32 34 36 40 44 48) rc rd tp A14F A14F A4F A4F A14F A14F (riverD (.inl Fa3) (.inl Fb3) (.inl (0, 4)) 3 8 3 41 45 49) (riverD (.inl Fa4) (.inl Fb4) (.inl (0, 4)) 3 8 3 42 46 50) ((.inr (.inl (0, 12, Pd1)))) ((.inr (.inl (0, 12, Pd2)))) ((.inr (.inl (0, 12, Pd3)))) ((.inr (.inl (0, 12, Pd4)))) ((.inr (.inl (0, 12, Ps1)))) ((.inr (.inl (0, 12, Ps2)))) ((.inr (.inl (0, 12, Ps3)))) ((.inr (.inl (0, 12, Ps4)))) ((.inr (.inl (0, 48, Pi1)))) ((.inr (.inl (0, 48, Pi2)))) ((.inr (.inl (0, 48, Pi3)))) ((.inr (.inl (0, 48, Pi4))))) H ∧ va_S (eA E s.heap.size) s.heap H locs ∧ lv_has ls 3 [(0, .ref a0), (2, .int x9)]) ?_ (fun x9 H locs ls h => absurd h.1 (Nat.not_lt_zero _)) _ (k_33) ⟨Nat.lt_succ_self _, (wkb (eqb hk_33) rfl rfl), hH, hS, lv_sub hl [1, 0] rfl⟩
        intro n_145 ih_145 u_34 H locs ls ⟨hm_145, hu_34, hH, hS, hl⟩
        have hm_145 : (9 - u_34.toInt + 1).toNat < n_145 + 1 := hm_145
        have hu_34 : (0 ≤ u_34.toInt ∧ u_34.toInt ≤ 9) := hu_34
        have hH : TH E (tbC dA dB (riverD (.inl Fa1) (.inl Fb1) (.inl (0, 4)) 31 33 35 39 43 47) (riverD (.inl Fa2) (.inl Fb2) (.inl (0, 4)) 32 34 36 40 44 48) rc rd tp A14F A14F A4F A4F A14F A14F (riverD (.inl Fa3) (.inl Fb3) (.inl (0, 4)) 3 8 3 41 45 49) (riverD (.inl Fa4) (.inl Fb4) (.inl (0, 4)) 3 8 3 42 46 50) ((.inr (.inl (0, 12, Pd1)))) ((.inr (.inl (0, 12, Pd2)))) ((.inr (.inl (0, 12, Pd3)))) ((.inr (.inl (0, 12, Pd4)))) ((.inr (.inl (0, 12, Ps1)))) ((.inr (.inl (0, 12, Ps2)))) ((.inr (.inl (0, 12, Ps3)))) ((.inr (.inl (0, 12, Ps4)))) ((.inr (.inl (0, 48, Pi1)))) ((.inr (.inl (0, 48, Pi2)))) ((.inr (.inl (0, 48, Pi3)))) ((.inr (.inl (0, 48, Pi4))))) H := hH
        have hl : lv_has ls 3 [(0, .ref a0), (2, .int u_34)] := hl
        refine lv_iload_n F.1 F.2.1 dX5_startAs_145 rfl (lv_at hl 1 rfl) ?_
        refine lv_bipush (v := 6) F.1 F.2.1 dX5_startAs_146 (by decide) ?_
        refine topK (a := 6) (by decide) (fun k_35 hk_35 => ?_)
        refine b_ge (tgt := 164) F dX5_startAs_148 (by decide) (fun c_36 => ?_) (fun c_36 => ?_)
        · skip
          have r_37 : 6 ≤ u_34.toInt ∧ u_34.toInt ≤ 9 := by have h9_ := hu_34; omega
          exact txV F hS dX5_startAs_164 (hH)
        · skip
          have r_38 : 0 ≤ u_34.toInt ∧ u_34.toInt ≤ 5 := by have h9_ := hu_34; omega
          refine lv_aload_n F.1 F.2.1 dX5_startAs_151 rfl (lv_at hl 0 rfl) ?_
          refine tGetR (j := 12) F hK hH (tyb ha0 (all1 rfl)) rfl (all1 rfl) clX5 (by decide) wd_4_7 dX5_startAs_152 (fun q_39 hq_39 _ => ?_)
          refine lv_iload_n F.1 F.2.1 dX5_startAs_155 rfl (lv_at hl 1 rfl) ?_
          refine lv_lconst (v := 0) F.1 F.2.1 dX5_startAs_156 (by decide) ?_
          refine topKL (a := 0) (by decide) (fun j_40 hj_40 => ?_)
          refine tLast F hK hH hS (tyb hq_39 (all1 rfl)) (ixb (n := 6) r_38 rfl rfl) dX5_startAs_157 (fun H locs hH hS => ?_)
          obtain ⟨x_41, ex_41, hx_41⟩ := iincB (c := 1) (lo := 1) (hi := 6) r_38 rfl
          refine lv_iinc (v := x_41) (lv' := [(2, .int x_41), (0, .ref a0)]) F.1 F.2.1 dX5_startAs_158 hl (k := 1) rfl ex_41 (by decide) rfl (fun ls hl => ?_)
          refine lv_goto (tgt := 145) F.1 F.2.1 dX5_startAs_161 (by decide) ?_
          exact ih_145 (x_41) _ _ _ ⟨(show (9 - x_41.toInt + 1).toNat < n_145 from by omega), (wkb hx_41.2 rfl rfl), hH, hS, lv_sub hl [1, 0] rfl⟩
      · skip
        have r_32 : 0 ≤ u_28.toInt ∧ u_28.toInt ≤ 359 := by have h9_ := hu_28; omega
        refine lv_aload_n F.1 F.2.1 dX5_startAs_130 rfl (lv_at hl 0 rfl) ?_
        refine tGetR (j := 11) F hK hH (tyb ha0 (all1 rfl)) rfl (all1 rfl) clX5 (by decide) wd_4_5 dX5_startAs_131 (fun q_42 hq_42 _ => ?_)
        refine lv_iload_n F.1 F.2.1 dX5_startAs_134 rfl (lv_at hl 1 rfl) ?_
        refine lv_iconst (v := 0) F.1 F.2.1 dX5_startAs_135 (by decide) ?_
        refine topK (a := 0) (by decide) (fun k_43 hk_43 => ?_)
        refine tIastB F hK hH hS (tyb hq_42 (all1 rfl)) (ixb (n := 360) r_32 rfl rfl) (wkb (eqb hk_43) rfl rfl) dX5_startAs_136 (fun H locs hH hS => ?_)
        obtain ⟨x_44, ex_44, hx_44⟩ := iincB (c := 1) (lo := 1) (hi := 360) r_32 rfl
        refine lv_iinc (v := x_44) (lv' := [(2, .int x_44), (0, .ref a0)]) F.1 F.2.1 dX5_startAs_137 hl (k := 1) rfl ex_44 (by decide) rfl (fun ls hl => ?_)
        refine lv_goto (tgt := 123) F.1 F.2.1 dX5_startAs_140 (by decide) ?_
        exact ih_123 (x_44) _ _ _ ⟨(show (360 - x_44.toInt + 1).toNat < n_123 from by omega), (wkb hx_44.2 rfl rfl), hH, hS, lv_sub hl [1, 0] rfl⟩
    · skip
      have r_26 : 0 ≤ u_22.toInt ∧ u_22.toInt ≤ 3 := by have h9_ := hu_22; omega
      refine lv_aload_n F.1 F.2.1 dX5_startAs_93 rfl (lv_at hl 0 rfl) ?_
      refine tGetR (j := 8) F hK hH (tyb ha0 (all1 rfl)) rfl (all1 rfl) clX5 (by decide) wd_4_2 dX5_startAs_94 (fun q_45 hq_45 _ => ?_)
      refine lv_iload_n F.1 F.2.1 dX5_startAs_97 rfl (lv_at hl 1 rfl) ?_
      refine lv_iconst (v := 0) F.1 F.2.1 dX5_startAs_98 (by decide) ?_
      refine topK (a := 0) (by decide) (fun k_46 hk_46 => ?_)
      refine tIastB F hK hH hS (tyb hq_45 (all1 rfl)) (ixb (n := 4) r_26 rfl rfl) (wkb (eqb hk_46) rfl rfl) dX5_startAs_99 (fun H locs hH hS => ?_)
      refine lv_aload_n F.1 F.2.1 dX5_startAs_100 rfl (lv_at hl 0 rfl) ?_
      refine tGetR (j := 9) F hK hH (tyb ha0 (all1 rfl)) rfl (all1 rfl) clX5 (by decide) wd_4_3 dX5_startAs_101 (fun q_47 hq_47 _ => ?_)
      refine lv_iload_n F.1 F.2.1 dX5_startAs_104 rfl (lv_at hl 1 rfl) ?_
      refine lv_bipush (v := (-2)) F.1 F.2.1 dX5_startAs_105 (by decide) ?_
      refine topK (a := (-2)) (by decide) (fun k_48 hk_48 => ?_)
      refine tIastB F hK hH hS (tyb hq_47 (all1 rfl)) (ixb (n := 4) r_26 rfl rfl) (wkb (eqb hk_48) rfl rfl) dX5_startAs_107 (fun H locs hH hS => ?_)
      refine lv_aload_n F.1 F.2.1 dX5_startAs_108 rfl (lv_at hl 0 rfl) ?_
      refine tGetR (j := 10) F hK hH (tyb ha0 (all1 rfl)) rfl (all1 rfl) clX5 (by decide) wd_4_4 dX5_startAs_109 (fun q_49 hq_49 _ => ?_)
      refine lv_iload_n F.1 F.2.1 dX5_startAs_112 rfl (lv_at hl 1 rfl) ?_
      refine lv_iconst (v := 0) F.1 F.2.1 dX5_startAs_113 (by decide) ?_
      refine topK (a := 0) (by decide) (fun k_50 hk_50 => ?_)
      refine tIastB F hK hH hS (tyb hq_49 (all1 rfl)) (ixb (n := 4) r_26 rfl rfl) (wkb (eqb hk_50) rfl rfl) dX5_startAs_114 (fun H locs hH hS => ?_)
      obtain ⟨x_51, ex_51, hx_51⟩ := iincB (c := 1) (lo := 1) (hi := 4) r_26 rfl
      refine lv_iinc (v := x_51) (lv' := [(2, .int x_51), (0, .ref a0)]) F.1 F.2.1 dX5_startAs_115 hl (k := 1) rfl ex_51 (by decide) rfl (fun ls hl => ?_)
      refine lv_goto (tgt := 88) F.1 F.2.1 dX5_startAs_118 (by decide) ?_
      exact ih_88 (x_51) _ _ _ ⟨(show (4 - x_51.toInt + 1).toNat < n_88 from by omega), (wkb hx_51.2 rfl rfl), hH, hS, lv_sub hl [1, 0] rfl⟩
  · skip
    have r_20 : 0 ≤ u_16.toInt ∧ u_16.toInt ≤ 13 := by have h9_ := hu_16; omega
    refine lv_aload_n F.1 F.2.1 dX5_startAs_65 rfl (lv_at hl 0 rfl) ?_
    refine tGetR (j := 6) F hK hH (tyb ha0 (all1 rfl)) rfl (all1 rfl) clX5 (by decide) wd_4_0 dX5_startAs_66 (fun q_52 hq_52 _ => ?_)
    refine lv_iload_n F.1 F.2.1 dX5_startAs_69 rfl (lv_at hl 1 rfl) ?_
    refine lv_bipush (v := (-2)) F.1 F.2.1 dX5_startAs_70 (by decide) ?_
    refine topK (a := (-2)) (by decide) (fun k_53 hk_53 => ?_)
    refine tIastB F hK hH hS (tyb hq_52 (all1 rfl)) (ixb (n := 14) r_20 rfl rfl) (wkb (eqb hk_53) rfl rfl) dX5_startAs_72 (fun H locs hH hS => ?_)
    refine lv_aload_n F.1 F.2.1 dX5_startAs_73 rfl (lv_at hl 0 rfl) ?_
    refine tGetR (j := 7) F hK hH (tyb ha0 (all1 rfl)) rfl (all1 rfl) clX5 (by decide) wd_4_1 dX5_startAs_74 (fun q_54 hq_54 _ => ?_)
    refine lv_iload_n F.1 F.2.1 dX5_startAs_77 rfl (lv_at hl 1 rfl) ?_
    refine lv_iconst (v := 0) F.1 F.2.1 dX5_startAs_78 (by decide) ?_
    refine topK (a := 0) (by decide) (fun k_55 hk_55 => ?_)
    refine tIastB F hK hH hS (tyb hq_54 (all1 rfl)) (ixb (n := 14) r_20 rfl rfl) (wkb (eqb hk_55) rfl rfl) dX5_startAs_79 (fun H locs hH hS => ?_)
    obtain ⟨x_56, ex_56, hx_56⟩ := iincB (c := 1) (lo := 1) (hi := 14) r_20 rfl
    refine lv_iinc (v := x_56) (lv' := [(2, .int x_56), (0, .ref a0)]) F.1 F.2.1 dX5_startAs_80 hl (k := 1) rfl ex_56 (by decide) rfl (fun ls hl => ?_)
    refine lv_goto (tgt := 59) F.1 F.2.1 dX5_startAs_83 (by decide) ?_
    exact ih_59 (x_56) _ _ _ ⟨(show (14 - x_56.toInt + 1).toNat < n_59 from by omega), (wkb hx_56.2 rfl rfl), hH, hS, lv_sub hl [1, 0] rfl⟩
set_option maxHeartbeats 4000000 in
set_option maxRecDepth 100000 in
theorem c_X5_tradeAges (E : Ev) (dA : TD) (dB : TD) (rA : TD) (rB : TD) (rc : TD) (rd : TD) (tp : TD) (ya : TD) (yb : TD) (yc : TD) (yd : TD) (ye : TD) (yf : TD) (rC : TD) (rD : TD) (wd1 : TD) (wd2 : TD) (wd3 : TD) (wd4 : TD) (ws1 : TD) (ws2 : TD) (ws3 : TD) (ws4 : TD) (wi1 : TD) (wi2 : TD) (wi3 : TD) (wi4 : TD) (a0 : Nat) (a1 : Int32) (a2 : Int32) (ha0 : eT E a0 ∈ [17]) (ha1 : 0 ≤ a1.toInt ∧ a1.toInt ≤ 13) (ha2 : 0 ≤ a2.toInt ∧ a2.toInt ≤ 13) : TcV E yX5_tradeAges cX5_tradeAges 4 ({ frames := 1, cells := 0, slots := 0, locals := 40 }) [.ref a0, .int a1, .int a2] (fun H => TH E (tbC dA dB rA rB rc rd tp ya yb yc yd ye yf rC rD wd1 wd2 wd3 wd4 ws1 ws2 ws3 ws4 wi1 wi2 wi3 wi4) H) (fun H => TH E (tbC dA dB rA rB rc rd tp ya yb yc yd ye yf rC rD wd1 wd2 wd3 wd4 ws1 ws2 ws3 ws4 wi1 wi2 wi3 wi4) H) := by
  refine teV (by decide) (Nat.le_of_ble_eq_true rfl) ?_
  intro p_ ev_ s mi_ below_ meth cd_ ls F hK hN hO hH hS hl
  have hH : TH E (tbC dA dB rA rB rc rd tp ya yb yc yd ye yf rC rD wd1 wd2 wd3 wd4 ws1 ws2 ws3 ws4 wi1 wi2 wi3 wi4) s.heap := hH
  have hl : lv_has ls 4 [(0, .ref a0), (1, .int a1), (2, .int a2)] := hl
  refine lv_aload_n F.1 F.2.1 dX5_tradeAges_0 rfl (lv_at hl 0 rfl) ?_
  refine tGetR (j := 3) F hK hH (tyb ha0 (all1 rfl)) rfl (all1 rfl) clX5 (by decide) wd_3_21 dX5_tradeAges_1 (fun q_1 hq_1 _ => ?_)
  refine lv_iload_n F.1 F.2.1 dX5_tradeAges_4 rfl (lv_at hl 1 rfl) ?_
  refine tIaldB F hK hH (tyb hq_1 (all1 rfl)) (ixb (n := 14) ha1 rfl rfl) dX5_tradeAges_5 (fun z_2 hz_2 => ?_)
  refine lv_istore_n (lv' := [(3, .int z_2), (0, .ref a0), (1, .int a1), (2, .int a2)]) F.1 F.2.1 dX5_tradeAges_6 rfl hl (by decide) rfl (fun ls hl => ?_)
  refine lv_aload_n F.1 F.2.1 dX5_tradeAges_7 rfl (lv_at hl 1 rfl) ?_
  refine tGetR (j := 3) F hK hH (tyb ha0 (all1 rfl)) rfl (all1 rfl) clX5 (by decide) wd_3_21 dX5_tradeAges_8 (fun q_3 hq_3 _ => ?_)
  refine lv_iload_n F.1 F.2.1 dX5_tradeAges_11 rfl (lv_at hl 2 rfl) ?_
  refine lv_aload_n F.1 F.2.1 dX5_tradeAges_12 rfl (lv_at hl 1 rfl) ?_
  refine tGetR (j := 3) F hK hH (tyb ha0 (all1 rfl)) rfl (all1 rfl) clX5 (by decide) wd_3_21 dX5_tradeAges_13 (fun q_4 hq_4 _ => ?_)
  refine lv_iload_n F.1 F.2.1 dX5_tradeAges_16 rfl (lv_at hl 3 rfl) ?_
  refine tIaldB F hK hH (tyb hq_4 (all1 rfl)) (ixb (n := 14) ha2 rfl rfl) dX5_tradeAges_17 (fun z_5 hz_5 => ?_)
  refine tIastB F hK hH hS (tyb hq_3 (all1 rfl)) (ixb (n := 14) ha1 rfl rfl) hz_5 dX5_tradeAges_18 (fun H locs hH hS => ?_)
  refine lv_aload_n F.1 F.2.1 dX5_tradeAges_19 rfl (lv_at hl 1 rfl) ?_
  refine tGetR (j := 3) F hK hH (tyb ha0 (all1 rfl)) rfl (all1 rfl) clX5 (by decide) wd_3_21 dX5_tradeAges_20 (fun q_6 hq_6 _ => ?_)
  refine lv_iload_n F.1 F.2.1 dX5_tradeAges_23 rfl (lv_at hl 3 rfl) ?_
  refine lv_iload_n F.1 F.2.1 dX5_tradeAges_24 rfl (lv_at hl 0 rfl) ?_
  refine tIastB F hK hH hS (tyb hq_6 (all1 rfl)) (ixb (n := 14) ha2 rfl rfl) hz_2 dX5_tradeAges_25 (fun H locs hH hS => ?_)
  exact txV F hS dX5_tradeAges_26 (hH)
set_option maxHeartbeats 4000000 in
set_option maxRecDepth 100000 in
theorem c_X5_wayRow (E : Ev) (dA : TD) (dB : TD) (rA : TD) (rB : TD) (rc : TD) (rd : TD) (tp : TD) (ya : TD) (yb : TD) (yc : TD) (yd : TD) (ye : TD) (yf : TD) (rC : TD) (rD : TD) (wd1 : TD) (wd2 : TD) (wd3 : TD) (wd4 : TD) (ws1 : TD) (ws2 : TD) (ws3 : TD) (ws4 : TD) (wi1 : TD) (wi2 : TD) (wi3 : TD) (wi4 : TD) (a0 : Nat) (a1 : Int32) (ha0 : eT E a0 ∈ [17]) (ha1 : 0 ≤ a1.toInt ∧ a1.toInt ≤ 30) : TcI E yX5_wayRow cX5_wayRow 2 .int ({ frames := 1, cells := 0, slots := 0, locals := 40 }) [.ref a0, .int a1] (fun H => TH E (tbC dA dB rA rB rc rd tp ya yb yc yd ye yf rC rD wd1 wd2 wd3 wd4 ws1 ws2 ws3 ws4 wi1 wi2 wi3 wi4) H) (fun v H => (0 ≤ v.toInt ∧ v.toInt ≤ 348) ∧ TH E (tbC dA dB rA rB rc rd tp ya yb yc yd ye yf rC rD wd1 wd2 wd3 wd4 ws1 ws2 ws3 ws4 wi1 wi2 wi3 wi4) H) := by
  refine teI (by decide) (Nat.le_of_ble_eq_true rfl) ?_
  intro p_ ev_ s mi_ below_ meth cd_ ls F hK hN hO hH hS hl
  have hH : TH E (tbC dA dB rA rB rc rd tp ya yb yc yd ye yf rC rD wd1 wd2 wd3 wd4 ws1 ws2 ws3 ws4 wi1 wi2 wi3 wi4) s.heap := hH
  have hl : lv_has ls 2 [(0, .ref a0), (1, .int a1)] := hl
  refine lv_aload_n F.1 F.2.1 dX5_wayRow_0 rfl (lv_at hl 0 rfl) ?_
  refine tGetI (j := 0) F hK hH (tyb ha0 (all1 rfl)) rfl clX5 (by decide) wd_14_21 dX5_wayRow_1 (fun z_1 hz_1 => ?_)
  refine lv_iload_n F.1 F.2.1 dX5_wayRow_4 rfl (lv_at hl 1 rfl) ?_
  refine tAdd (lo := 0) (hi := 389) F dX5_wayRow_5 hz_1 ha1 rfl (fun z_2 hz_2 => ?_)
  refine lv_bipush (v := 30) F.1 F.2.1 dX5_wayRow_6 (by decide) ?_
  refine topK (a := 30) (by decide) (fun k_3 hk_3 => ?_)
  refine tRem (k := 30) (hi := 29) F dX5_wayRow_8 hz_2.2 hk_3 rfl (fun z_4 hz_4 => ?_)
  refine lv_bipush (v := 12) F.1 F.2.1 dX5_wayRow_9 (by decide) ?_
  refine topK (a := 12) (by decide) (fun k_5 hk_5 => ?_)
  refine tMul (lo := 0) (hi := 348) F dX5_wayRow_11 hz_4.2 (eqb hk_5) rfl (fun z_6 hz_6 => ?_)
  have mz_6 : z_6.toInt = z_4.toInt * 12 := by rw [hz_6.1, hk_5]
  exact txI F hS dX5_wayRow_12 rfl (⟨hz_6.2, hH⟩)
set_option maxHeartbeats 4000000 in
set_option maxRecDepth 100000 in
theorem c_X5_inStores (E : Ev) (dA : TD) (dB : TD) (rc : TD) (rd : TD) (tp : TD) (Fa1 : Int × Int) (Fb1 : Int × Int) (Fa2 : Int × Int) (Fb2 : Int × Int) (Fa3 : Int × Int) (Fb3 : Int × Int) (Fa4 : Int × Int) (Fb4 : Int × Int) (Pd1 : (Nat → Int32) → Prop) (Pd2 : (Nat → Int32) → Prop) (Pd3 : (Nat → Int32) → Prop) (Pd4 : (Nat → Int32) → Prop) (Ps1 : (Nat → Int32) → Prop) (Ps2 : (Nat → Int32) → Prop) (Ps3 : (Nat → Int32) → Prop) (Ps4 : (Nat → Int32) → Prop) (Pi1 : (Nat → Int32) → Prop) (Pi2 : (Nat → Int32) → Prop) (Pi3 : (Nat → Int32) → Prop) (Pi4 : (Nat → Int32) → Prop) (a0 : Nat) (a1 : Nat) (ha0 : eT E a0 ∈ [17]) (ha1 : eT E a1 ∈ [26, 27, 37, 38]) (hFa1 : 0 ≤ Fa1.1 ∧ Fa1.2 ≤ 12) (hFb1 : 0 ≤ Fb1.1 ∧ Fb1.2 ≤ 14) (hFa2 : 0 ≤ Fa2.1 ∧ Fa2.2 ≤ 12) (hFb2 : 0 ≤ Fb2.1 ∧ Fb2.2 ≤ 14) (hFa3 : 0 ≤ Fa3.1 ∧ Fa3.2 ≤ 12) (hFb3 : 0 ≤ Fb3.1 ∧ Fb3.2 ≤ 14) (hFa4 : 0 ≤ Fa4.1 ∧ Fa4.2 ≤ 12) (hFb4 : 0 ≤ Fb4.1 ∧ Fb4.2 ≤ 14) (hPd1 : ∀ f, Pd1 f → ivP 12 (-2) 11 f) (hPd2 : ∀ f, Pd2 f → ivP 12 (-2) 11 f) (hPd3 : ∀ f, Pd3 f → ivP 12 (-2) 11 f) (hPd4 : ∀ f, Pd4 f → ivP 12 (-2) 11 f) (hPs1 : ∀ f, Ps1 f → ivP 12 (-2147483648) 2147483647 f) (hPs2 : ∀ f, Ps2 f → ivP 12 (-2147483648) 2147483647 f) (hPs3 : ∀ f, Ps3 f → ivP 12 (-2147483648) 2147483647 f) (hPs4 : ∀ f, Ps4 f → ivP 12 (-2147483648) 2147483647 f) (hPi1 : ∀ f, Pi1 f → ivP 48 (-2147483648) 2147483647 f) (hPi2 : ∀ f, Pi2 f → ivP 48 (-2147483648) 2147483647 f) (hPi3 : ∀ f, Pi3 f → ivP 48 (-2147483648) 2147483647 f) (hPi4 : ∀ f, Pi4 f → ivP 48 (-2147483648) 2147483647 f) : TcL E yX5_inStores cX5_inStores 5 ({ frames := 1, cells := 0, slots := 0, locals := 40 }) [.ref a0, .ref a1] (fun H => TH E (tbC dA dB (riverD (.inl Fa1) (.inl Fb1) (.inl (0, 4)) 31 33 35 39 43 47) (riverD (.inl Fa2) (.inl Fb2) (.inl (0, 4)) 32 34 36 40 44 48) rc rd tp A14F A14F A4F A4F A14F A14F (riverD (.inl Fa3) (.inl Fb3) (.inl (0, 4)) 3 8 3 41 45 49) (riverD (.inl Fa4) (.inl Fb4) (.inl (0, 4)) 3 8 3 42 46 50) ((.inr (.inl (0, 12, Pd1)))) ((.inr (.inl (0, 12, Pd2)))) ((.inr (.inl (0, 12, Pd3)))) ((.inr (.inl (0, 12, Pd4)))) ((.inr (.inl (0, 12, Ps1)))) ((.inr (.inl (0, 12, Ps2)))) ((.inr (.inl (0, 12, Ps3)))) ((.inr (.inl (0, 12, Ps4)))) ((.inr (.inl (0, 48, Pi1)))) ((.inr (.inl (0, 48, Pi2)))) ((.inr (.inl (0, 48, Pi3)))) ((.inr (.inl (0, 48, Pi4))))) H) (fun v H => TH E (tbC dA dB (riverD (.inl Fa1) (.inl Fb1) (.inl (0, 4)) 31 33 35 39 43 47) (riverD (.inl Fa2) (.inl Fb2) (.inl (0, 4)) 32 34 36 40 44 48) rc rd tp A14F A14F A4F A4F A14F A14F (riverD (.inl Fa3) (.inl Fb3) (.inl (0, 4)) 3 8 3 41 45 49) (riverD (.inl Fa4) (.inl Fb4) (.inl (0, 4)) 3 8 3 42 46 50) ((.inr (.inl (0, 12, Pd1)))) ((.inr (.inl (0, 12, Pd2)))) ((.inr (.inl (0, 12, Pd3)))) ((.inr (.inl (0, 12, Pd4)))) ((.inr (.inl (0, 12, Ps1)))) ((.inr (.inl (0, 12, Ps2)))) ((.inr (.inl (0, 12, Ps3)))) ((.inr (.inl (0, 12, Ps4)))) ((.inr (.inl (0, 48, Pi1)))) ((.inr (.inl (0, 48, Pi2)))) ((.inr (.inl (0, 48, Pi3)))) ((.inr (.inl (0, 48, Pi4))))) H) := by
  refine teL (by decide) (Nat.le_of_ble_eq_true rfl) ?_
  intro p_ ev_ s mi_ below_ meth cd_ ls F hK hN hO hH hS hl
  have hH : TH E (tbC dA dB (riverD (.inl Fa1) (.inl Fb1) (.inl (0, 4)) 31 33 35 39 43 47) (riverD (.inl Fa2) (.inl Fb2) (.inl (0, 4)) 32 34 36 40 44 48) rc rd tp A14F A14F A4F A4F A14F A14F (riverD (.inl Fa3) (.inl Fb3) (.inl (0, 4)) 3 8 3 41 45 49) (riverD (.inl Fa4) (.inl Fb4) (.inl (0, 4)) 3 8 3 42 46 50) ((.inr (.inl (0, 12, Pd1)))) ((.inr (.inl (0, 12, Pd2)))) ((.inr (.inl (0, 12, Pd3)))) ((.inr (.inl (0, 12, Pd4)))) ((.inr (.inl (0, 12, Ps1)))) ((.inr (.inl (0, 12, Ps2)))) ((.inr (.inl (0, 12, Ps3)))) ((.inr (.inl (0, 12, Ps4)))) ((.inr (.inl (0, 48, Pi1)))) ((.inr (.inl (0, 48, Pi2)))) ((.inr (.inl (0, 48, Pi3)))) ((.inr (.inl (0, 48, Pi4))))) s.heap := hH
  have hl : lv_has ls 5 [(0, .ref a0), (1, .ref a1)] := hl
  refine lv_lconst (v := 0) F.1 F.2.1 dX5_inStores_0 (by decide) ?_
  refine topKL (a := 0) (by decide) (fun j_1 hj_1 => ?_)
  refine lv_lstore_n (lv' := [(2, .long j_1), (0, .ref a0), (1, .ref a1)]) F.1 F.2.1 dX5_inStores_1 rfl hl (by decide) rfl (fun ls hl => ?_)
  refine lv_iconst (v := 0) F.1 F.2.1 dX5_inStores_2 (by decide) ?_
  refine topK (a := 0) (by decide) (fun k_2 hk_2 => ?_)
  refine lv_istore (lv' := [(4, .int k_2), (2, .long j_1), (0, .ref a0), (1, .ref a1)]) F.1 F.2.1 dX5_inStores_3 hl (by decide) rfl (fun ls hl => ?_)
  refine wloop (σ := Int64 × Int32) (fun n9 x9 H locs ls => (4 - x9.2.toInt + 1).toNat < n9 ∧ (0 ≤ x9.2.toInt ∧ x9.2.toInt ≤ 4) ∧ TH E (tbC dA dB (riverD (.inl Fa1) (.inl Fb1) (.inl (0, 4)) 31 33 35 39 43 47) (riverD (.inl Fa2) (.inl Fb2) (.inl (0, 4)) 32 34 36 40 44 48) rc rd tp A14F A14F A4F A4F A14F A14F (riverD (.inl Fa3) (.inl Fb3) (.inl (0, 4)) 3 8 3 41 45 49) (riverD (.inl Fa4) (.inl Fb4) (.inl (0, 4)) 3 8 3 42 46 50) ((.inr (.inl (0, 12, Pd1)))) ((.inr (.inl (0, 12, Pd2)))) ((.inr (.inl (0, 12, Pd3)))) ((.inr (.inl (0, 12, Pd4)))) ((.inr (.inl (0, 12, Ps1)))) ((.inr (.inl (0, 12, Ps2)))) ((.inr (.inl (0, 12, Ps3)))) ((.inr (.inl (0, 12, Ps4)))) ((.inr (.inl (0, 48, Pi1)))) ((.inr (.inl (0, 48, Pi2)))) ((.inr (.inl (0, 48, Pi3)))) ((.inr (.inl (0, 48, Pi4))))) H ∧ va_S (eA E s.heap.size) s.heap H locs ∧ lv_has ls 5 [(0, .ref a0), (1, .ref a1), (2, .long x9.1), (4, .int x9.2)]) ?_ (fun x9 H locs ls h => absurd h.1 (Nat.not_lt_zero _)) _ (j_1, k_2) ⟨Nat.lt_succ_self _, (wkb (eqb hk_2) rfl rfl), hH, hS, lv_sub hl [2, 3, 1, 0] rfl⟩
  intro n_5 ih_5 ⟨w_3, u_4⟩ H locs ls ⟨hm_5, hu_4, hH, hS, hl⟩
  have hm_5 : (4 - u_4.toInt + 1).toNat < n_5 + 1 := hm_5
  have hu_4 : (0 ≤ u_4.toInt ∧ u_4.toInt ≤ 4) := hu_4
  have hH : TH E (tbC dA dB (riverD (.inl Fa1) (.inl Fb1) (.inl (0, 4)) 31 33 35 39 43 47) (riverD (.inl Fa2) (.inl Fb2) (.inl (0, 4)) 32 34 36 40 44 48) rc rd tp A14F A14F A4F A4F A14F A14F (riverD (.inl Fa3) (.inl Fb3) (.inl (0, 4)) 3 8 3 41 45 49) (riverD (.inl Fa4) (.inl Fb4) (.inl (0, 4)) 3 8 3 42 46 50) ((.inr (.inl (0, 12, Pd1)))) ((.inr (.inl (0, 12, Pd2)))) ((.inr (.inl (0, 12, Pd3)))) ((.inr (.inl (0, 12, Pd4)))) ((.inr (.inl (0, 12, Ps1)))) ((.inr (.inl (0, 12, Ps2)))) ((.inr (.inl (0, 12, Ps3)))) ((.inr (.inl (0, 12, Ps4)))) ((.inr (.inl (0, 48, Pi1)))) ((.inr (.inl (0, 48, Pi2)))) ((.inr (.inl (0, 48, Pi3)))) ((.inr (.inl (0, 48, Pi4))))) H := hH
  have hl : lv_has ls 5 [(0, .ref a0), (1, .ref a1), (2, .long w_3), (4, .int u_4)] := hl
  refine lv_iload F.1 F.2.1 dX5_inStores_5 (lv_at hl 3 rfl) ?_
  refine lv_aload_n F.1 F.2.1 dX5_inStores_7 rfl (lv_at hl 1 rfl) ?_
  refine tGetIM (j := 14) F hK hH ha1 (alls ⟨_, rfl, rfl⟩ (alls ⟨_, rfl, rfl⟩ (alls ⟨_, rfl, rfl⟩ (alls1 ⟨_, rfl, rfl⟩)))) clX2 (by decide) wd_50_11 dX5_inStores_8 (fun z_5 hz_5 => ?_)
  refine b_ge (tgt := 31) F dX5_inStores_11 (by decide) (fun c_6 => ?_) (fun c_6 => ?_)
  · skip
    refine lv_lload_n F.1 F.2.1 dX5_inStores_31 rfl (lv_at hl 2 rfl) ?_
    exact txL F hS dX5_inStores_32 (hH)
  · skip
    have r_7 : 0 ≤ u_4.toInt ∧ u_4.toInt ≤ 3 := by have h9_ := hu_4; omega
    have r_8 : 1 ≤ z_5.toInt ∧ z_5.toInt ≤ 4 := by have h9_ := hz_5; omega
    refine lv_lload_n F.1 F.2.1 dX5_inStores_14 rfl (lv_at hl 2 rfl) ?_
    refine lv_aload_n F.1 F.2.1 dX5_inStores_15 rfl (lv_at hl 0 rfl) ?_
    refine tGetR (j := 8) F hK hH (tyb ha0 (all1 rfl)) rfl (all1 rfl) clX5 (by decide) wd_4_2 dX5_inStores_16 (fun q_9 hq_9 _ => ?_)
    refine lv_iload F.1 F.2.1 dX5_inStores_19 (lv_at hl 3 rfl) ?_
    refine tIaldB F hK hH (tyb hq_9 (all1 rfl)) (ixb (n := 4) r_7 rfl rfl) dX5_inStores_21 (fun z_10 hz_10 => ?_)
    refine tI2l F dX5_inStores_22 (fun w_11 hw_11 => ?_)
    refine lv_ladd F.1 F.2.1 dX5_inStores_23 ?_
    refine topFL (fun w_12 => ?_)
    refine lv_lstore_n (lv' := [(2, .long w_12), (0, .ref a0), (1, .ref a1), (4, .int u_4)]) F.1 F.2.1 dX5_inStores_24 rfl hl (by decide) rfl (fun ls hl => ?_)
    obtain ⟨x_13, ex_13, hx_13⟩ := iincB (c := 1) (lo := 1) (hi := 4) r_7 rfl
    refine lv_iinc (v := x_13) (lv' := [(4, .int x_13), (2, .long w_12), (0, .ref a0), (1, .ref a1)]) F.1 F.2.1 dX5_inStores_25 hl (k := 3) rfl ex_13 (by decide) rfl (fun ls hl => ?_)
    refine lv_goto (tgt := 5) F.1 F.2.1 dX5_inStores_28 (by decide) ?_
    exact ih_5 (w_12, x_13) _ _ _ ⟨(show (4 - x_13.toInt + 1).toNat < n_5 from by omega), (wkb hx_13.2 rfl rfl), hH, hS, lv_sub hl [2, 3, 1, 0] rfl⟩
set_option maxHeartbeats 4000000 in
set_option maxRecDepth 100000 in
theorem c_X5_onItsWay (E : Ev) (dA : TD) (dB : TD) (rA : TD) (rB : TD) (rc : TD) (rd : TD) (tp : TD) (ya : TD) (yb : TD) (yc : TD) (yd : TD) (ye : TD) (yf : TD) (rC : TD) (rD : TD) (wd1 : TD) (wd2 : TD) (wd3 : TD) (wd4 : TD) (ws1 : TD) (ws2 : TD) (ws3 : TD) (ws4 : TD) (wi1 : TD) (wi2 : TD) (wi3 : TD) (wi4 : TD) (a0 : Nat) (ha0 : eT E a0 ∈ [17]) : TcL E yX5_onItsWay cX5_onItsWay 4 ({ frames := 1, cells := 0, slots := 0, locals := 40 }) [.ref a0] (fun H => TH E (tbC dA dB rA rB rc rd tp ya yb yc yd ye yf rC rD wd1 wd2 wd3 wd4 ws1 ws2 ws3 ws4 wi1 wi2 wi3 wi4) H) (fun v H => TH E (tbC dA dB rA rB rc rd tp ya yb yc yd ye yf rC rD wd1 wd2 wd3 wd4 ws1 ws2 ws3 ws4 wi1 wi2 wi3 wi4) H) := by
  refine teL (by decide) (Nat.le_of_ble_eq_true rfl) ?_
  intro p_ ev_ s mi_ below_ meth cd_ ls F hK hN hO hH hS hl
  have hH : TH E (tbC dA dB rA rB rc rd tp ya yb yc yd ye yf rC rD wd1 wd2 wd3 wd4 ws1 ws2 ws3 ws4 wi1 wi2 wi3 wi4) s.heap := hH
  have hl : lv_has ls 4 [(0, .ref a0)] := hl
  refine lv_lconst (v := 0) F.1 F.2.1 dX5_onItsWay_0 (by decide) ?_
  refine topKL (a := 0) (by decide) (fun j_1 hj_1 => ?_)
  refine lv_lstore_n (lv' := [(1, .long j_1), (0, .ref a0)]) F.1 F.2.1 dX5_onItsWay_1 rfl hl (by decide) rfl (fun ls hl => ?_)
  refine lv_iconst (v := 0) F.1 F.2.1 dX5_onItsWay_2 (by decide) ?_
  refine topK (a := 0) (by decide) (fun k_2 hk_2 => ?_)
  refine lv_istore_n (lv' := [(3, .int k_2), (1, .long j_1), (0, .ref a0)]) F.1 F.2.1 dX5_onItsWay_3 rfl hl (by decide) rfl (fun ls hl => ?_)
  refine wloop (σ := Int64 × Int32) (fun n9 x9 H locs ls => (360 - x9.2.toInt + 1).toNat < n9 ∧ (0 ≤ x9.2.toInt ∧ x9.2.toInt ≤ 360) ∧ TH E (tbC dA dB rA rB rc rd tp ya yb yc yd ye yf rC rD wd1 wd2 wd3 wd4 ws1 ws2 ws3 ws4 wi1 wi2 wi3 wi4) H ∧ va_S (eA E s.heap.size) s.heap H locs ∧ lv_has ls 4 [(0, .ref a0), (1, .long x9.1), (3, .int x9.2)]) ?_ (fun x9 H locs ls h => absurd h.1 (Nat.not_lt_zero _)) _ (j_1, k_2) ⟨Nat.lt_succ_self _, (wkb (eqb hk_2) rfl rfl), hH, hS, lv_sub hl [2, 1, 0] rfl⟩
  intro n_4 ih_4 ⟨w_3, u_4⟩ H locs ls ⟨hm_4, hu_4, hH, hS, hl⟩
  have hm_4 : (360 - u_4.toInt + 1).toNat < n_4 + 1 := hm_4
  have hu_4 : (0 ≤ u_4.toInt ∧ u_4.toInt ≤ 360) := hu_4
  have hH : TH E (tbC dA dB rA rB rc rd tp ya yb yc yd ye yf rC rD wd1 wd2 wd3 wd4 ws1 ws2 ws3 ws4 wi1 wi2 wi3 wi4) H := hH
  have hl : lv_has ls 4 [(0, .ref a0), (1, .long w_3), (3, .int u_4)] := hl
  refine lv_iload_n F.1 F.2.1 dX5_onItsWay_4 rfl (lv_at hl 2 rfl) ?_
  refine lv_sipush (v := 360) F.1 F.2.1 dX5_onItsWay_5 (by decide) ?_
  refine topK (a := 360) (by decide) (fun k_5 hk_5 => ?_)
  refine b_ge (tgt := 27) F dX5_onItsWay_8 (by decide) (fun c_6 => ?_) (fun c_6 => ?_)
  · skip
    have r_7 : 360 ≤ u_4.toInt ∧ u_4.toInt ≤ 360 := by have h9_ := hu_4; omega
    refine lv_lload_n F.1 F.2.1 dX5_onItsWay_27 rfl (lv_at hl 1 rfl) ?_
    exact txL F hS dX5_onItsWay_28 (hH)
  · skip
    have r_8 : 0 ≤ u_4.toInt ∧ u_4.toInt ≤ 359 := by have h9_ := hu_4; omega
    refine lv_lload_n F.1 F.2.1 dX5_onItsWay_11 rfl (lv_at hl 1 rfl) ?_
    refine lv_aload_n F.1 F.2.1 dX5_onItsWay_12 rfl (lv_at hl 0 rfl) ?_
    refine tGetR (j := 11) F hK hH (tyb ha0 (all1 rfl)) rfl (all1 rfl) clX5 (by decide) wd_4_5 dX5_onItsWay_13 (fun q_9 hq_9 _ => ?_)
    refine lv_iload_n F.1 F.2.1 dX5_onItsWay_16 rfl (lv_at hl 2 rfl) ?_
    refine tIaldB F hK hH (tyb hq_9 (all1 rfl)) (ixb (n := 360) r_8 rfl rfl) dX5_onItsWay_17 (fun z_10 hz_10 => ?_)
    refine tI2l F dX5_onItsWay_18 (fun w_11 hw_11 => ?_)
    refine lv_ladd F.1 F.2.1 dX5_onItsWay_19 ?_
    refine topFL (fun w_12 => ?_)
    refine lv_lstore_n (lv' := [(1, .long w_12), (0, .ref a0), (3, .int u_4)]) F.1 F.2.1 dX5_onItsWay_20 rfl hl (by decide) rfl (fun ls hl => ?_)
    obtain ⟨x_13, ex_13, hx_13⟩ := iincB (c := 1) (lo := 1) (hi := 360) r_8 rfl
    refine lv_iinc (v := x_13) (lv' := [(3, .int x_13), (1, .long w_12), (0, .ref a0)]) F.1 F.2.1 dX5_onItsWay_21 hl (k := 2) rfl ex_13 (by decide) rfl (fun ls hl => ?_)
    refine lv_goto (tgt := 4) F.1 F.2.1 dX5_onItsWay_24 (by decide) ?_
    exact ih_4 (w_12, x_13) _ _ _ ⟨(show (360 - x_13.toInt + 1).toNat < n_4 from by omega), (wkb hx_13.2 rfl rfl), hH, hS, lv_sub hl [2, 1, 0] rfl⟩
set_option maxHeartbeats 4000000 in
set_option maxRecDepth 100000 in
theorem c_X0_ageOf_A (E : Ev) (dB : TD) (rc : TD) (rd : TD) (tp : TD) (qd : FD) (Fa1 : Int × Int) (Fb1 : Int × Int) (Fa2 : Int × Int) (Fb2 : Int × Int) (Fa3 : Int × Int) (Fb3 : Int × Int) (Fa4 : Int × Int) (Fb4 : Int × Int) (Pd1 : (Nat → Int32) → Prop) (Pd2 : (Nat → Int32) → Prop) (Pd3 : (Nat → Int32) → Prop) (Pd4 : (Nat → Int32) → Prop) (Ps1 : (Nat → Int32) → Prop) (Ps2 : (Nat → Int32) → Prop) (Ps3 : (Nat → Int32) → Prop) (Ps4 : (Nat → Int32) → Prop) (Pi1 : (Nat → Int32) → Prop) (Pi2 : (Nat → Int32) → Prop) (Pi3 : (Nat → Int32) → Prop) (Pi4 : (Nat → Int32) → Prop) (a0 : Nat) (a1 : Int32) (ha0 : eT E a0 ∈ [24]) (ha1 : 0 ≤ a1.toInt ∧ a1.toInt ≤ 17) (hFa1 : 0 ≤ Fa1.1 ∧ Fa1.2 ≤ 12) (hFb1 : 0 ≤ Fb1.1 ∧ Fb1.2 ≤ 14) (hFa2 : 0 ≤ Fa2.1 ∧ Fa2.2 ≤ 12) (hFb2 : 0 ≤ Fb2.1 ∧ Fb2.2 ≤ 14) (hFa3 : 0 ≤ Fa3.1 ∧ Fa3.2 ≤ 12) (hFb3 : 0 ≤ Fb3.1 ∧ Fb3.2 ≤ 14) (hFa4 : 0 ≤ Fa4.1 ∧ Fa4.2 ≤ 12) (hFb4 : 0 ≤ Fb4.1 ∧ Fb4.2 ≤ 14) (hPd1 : ∀ f, Pd1 f → ivP 12 (-2) 11 f) (hPd2 : ∀ f, Pd2 f → ivP 12 (-2) 11 f) (hPd3 : ∀ f, Pd3 f → ivP 12 (-2) 11 f) (hPd4 : ∀ f, Pd4 f → ivP 12 (-2) 11 f) (hPs1 : ∀ f, Ps1 f → ivP 12 (-2147483648) 2147483647 f) (hPs2 : ∀ f, Ps2 f → ivP 12 (-2147483648) 2147483647 f) (hPs3 : ∀ f, Ps3 f → ivP 12 (-2147483648) 2147483647 f) (hPs4 : ∀ f, Ps4 f → ivP 12 (-2147483648) 2147483647 f) (hPi1 : ∀ f, Pi1 f → ivP 48 (-2147483648) 2147483647 f) (hPi2 : ∀ f, Pi2 f → ivP 48 (-2147483648) 2147483647 f) (hPi3 : ∀ f, Pi3 f → ivP 48 (-2147483648) 2147483647 f) (hPi4 : ∀ f, Pi4 f → ivP 48 (-2147483648) 2147483647 f) : TcI E yX0_ageOf cX0_ageOf 2 .int ({ frames := 1, cells := 0, slots := 0, locals := 40 }) [.ref a0, .int a1] (fun H => TH E (tbC (dayD qd) dB (riverD (.inl Fa1) (.inl Fb1) (.inl (0, 4)) 31 33 35 39 43 47) (riverD (.inl Fa2) (.inl Fb2) (.inl (0, 4)) 32 34 36 40 44 48) rc rd tp A14F A14F A4F A4F A14F A14F (riverD (.inl Fa3) (.inl Fb3) (.inl (0, 4)) 3 8 3 41 45 49) (riverD (.inl Fa4) (.inl Fb4) (.inl (0, 4)) 3 8 3 42 46 50) ((.inr (.inl (0, 12, Pd1)))) ((.inr (.inl (0, 12, Pd2)))) ((.inr (.inl (0, 12, Pd3)))) ((.inr (.inl (0, 12, Pd4)))) ((.inr (.inl (0, 12, Ps1)))) ((.inr (.inl (0, 12, Ps2)))) ((.inr (.inl (0, 12, Ps3)))) ((.inr (.inl (0, 12, Ps4)))) ((.inr (.inl (0, 48, Pi1)))) ((.inr (.inl (0, 48, Pi2)))) ((.inr (.inl (0, 48, Pi3)))) ((.inr (.inl (0, 48, Pi4))))) H) (fun v H => ((-2147483648) ≤ v.toInt ∧ v.toInt ≤ 2147483647) ∧ TH E (tbC (dayD qd) dB (riverD (.inl Fa1) (.inl Fb1) (.inl (0, 4)) 31 33 35 39 43 47) (riverD (.inl Fa2) (.inl Fb2) (.inl (0, 4)) 32 34 36 40 44 48) rc rd tp A14F A14F A4F A4F A14F A14F (riverD (.inl Fa3) (.inl Fb3) (.inl (0, 4)) 3 8 3 41 45 49) (riverD (.inl Fa4) (.inl Fb4) (.inl (0, 4)) 3 8 3 42 46 50) ((.inr (.inl (0, 12, Pd1)))) ((.inr (.inl (0, 12, Pd2)))) ((.inr (.inl (0, 12, Pd3)))) ((.inr (.inl (0, 12, Pd4)))) ((.inr (.inl (0, 12, Ps1)))) ((.inr (.inl (0, 12, Ps2)))) ((.inr (.inl (0, 12, Ps3)))) ((.inr (.inl (0, 12, Ps4)))) ((.inr (.inl (0, 48, Pi1)))) ((.inr (.inl (0, 48, Pi2)))) ((.inr (.inl (0, 48, Pi3)))) ((.inr (.inl (0, 48, Pi4))))) H) := by
  refine teI (by decide) (Nat.le_of_ble_eq_true rfl) ?_
  intro p_ ev_ s mi_ below_ meth cd_ ls F hK hN hO hH hS hl
  have hH : TH E (tbC (dayD qd) dB (riverD (.inl Fa1) (.inl Fb1) (.inl (0, 4)) 31 33 35 39 43 47) (riverD (.inl Fa2) (.inl Fb2) (.inl (0, 4)) 32 34 36 40 44 48) rc rd tp A14F A14F A4F A4F A14F A14F (riverD (.inl Fa3) (.inl Fb3) (.inl (0, 4)) 3 8 3 41 45 49) (riverD (.inl Fa4) (.inl Fb4) (.inl (0, 4)) 3 8 3 42 46 50) ((.inr (.inl (0, 12, Pd1)))) ((.inr (.inl (0, 12, Pd2)))) ((.inr (.inl (0, 12, Pd3)))) ((.inr (.inl (0, 12, Pd4)))) ((.inr (.inl (0, 12, Ps1)))) ((.inr (.inl (0, 12, Ps2)))) ((.inr (.inl (0, 12, Ps3)))) ((.inr (.inl (0, 12, Ps4)))) ((.inr (.inl (0, 48, Pi1)))) ((.inr (.inl (0, 48, Pi2)))) ((.inr (.inl (0, 48, Pi3)))) ((.inr (.inl (0, 48, Pi4))))) s.heap := hH
  have hl : lv_has ls 2 [(0, .ref a0), (1, .int a1)] := hl
  refine lv_iload_n F.1 F.2.1 dX0_ageOf_0 rfl (lv_at hl 1 rfl) ?_
  refine lv_bipush (v := 14) F.1 F.2.1 dX0_ageOf_1 (by decide) ?_
  refine topK (a := 14) (by decide) (fun k_1 hk_1 => ?_)
  refine b_ge (tgt := 18) F dX0_ageOf_3 (by decide) (fun c_2 => ?_) (fun c_2 => ?_)
  · skip
    have r_3 : 14 ≤ a1.toInt ∧ a1.toInt ≤ 17 := by have h9_ := ha1; omega
    refine lv_aload_n F.1 F.2.1 dX0_ageOf_18 rfl (lv_at hl 0 rfl) ?_
    refine tGetR0 (j := 0) F hK hH (tyb ha0 (all1 rfl)) rfl clX0 (by decide) wd_4_23 dX0_ageOf_19 (fun q_5 hq_5 => ?_)
    refine tGetRM (j := 18) (L := [33, 34]) F hK hH hq_5 (alls ⟨_, _, rfl, rfl, by decide⟩ (alls1 ⟨_, _, rfl, rfl, by decide⟩)) (all2 rfl rfl) clX2 (by decide) wd_20_17 dX0_ageOf_22 (fun q_6 hq_6 _ => ?_)
    refine lv_iload_n F.1 F.2.1 dX0_ageOf_25 rfl (lv_at hl 1 rfl) ?_
    refine lv_bipush (v := 14) F.1 F.2.1 dX0_ageOf_26 (by decide) ?_
    refine topK (a := 14) (by decide) (fun k_7 hk_7 => ?_)
    refine tSub (lo := 0) (hi := 3) F dX0_ageOf_28 r_3 (eqb hk_7) rfl (fun z_8 hz_8 => ?_)
    refine tIaldB F hK hH (tyb hq_6 (all2 rfl rfl)) (ixb (n := 4) hz_8.2 rfl rfl) dX0_ageOf_29 (fun z_9 hz_9 => ?_)
    exact txI F hS dX0_ageOf_30 rfl (⟨hz_9, hH⟩)
  · skip
    have r_4 : 0 ≤ a1.toInt ∧ a1.toInt ≤ 13 := by have h9_ := ha1; omega
    refine lv_aload_n F.1 F.2.1 dX0_ageOf_6 rfl (lv_at hl 0 rfl) ?_
    refine tGetR (j := 1) F hK hH (tyb ha0 (all1 rfl)) rfl (all1 rfl) clX0 (by decide) wd_5_0 dX0_ageOf_7 (fun q_10 hq_10 _ => ?_)
    refine tGetR (j := 3) F hK hH (tyb hq_10 (all1 rfl)) rfl (all1 rfl) clX5 (by decide) wd_20_16 dX0_ageOf_10 (fun q_11 hq_11 _ => ?_)
    refine lv_iload_n F.1 F.2.1 dX0_ageOf_13 rfl (lv_at hl 1 rfl) ?_
    refine tIaldB F hK hH (tyb hq_11 (all1 rfl)) (ixb (n := 14) r_4 rfl rfl) dX0_ageOf_14 (fun z_12 hz_12 => ?_)
    refine lv_goto (tgt := 30) F.1 F.2.1 dX0_ageOf_15 (by decide) ?_
    exact txI F hS dX0_ageOf_30 rfl (⟨hz_12, hH⟩)
set_option maxHeartbeats 4000000 in
set_option maxRecDepth 100000 in
theorem c_X0_ageOf_B (E : Ev) (dA : TD) (rc : TD) (rd : TD) (tp : TD) (qd : FD) (Fa1 : Int × Int) (Fb1 : Int × Int) (Fa2 : Int × Int) (Fb2 : Int × Int) (Fa3 : Int × Int) (Fb3 : Int × Int) (Fa4 : Int × Int) (Fb4 : Int × Int) (Pd1 : (Nat → Int32) → Prop) (Pd2 : (Nat → Int32) → Prop) (Pd3 : (Nat → Int32) → Prop) (Pd4 : (Nat → Int32) → Prop) (Ps1 : (Nat → Int32) → Prop) (Ps2 : (Nat → Int32) → Prop) (Ps3 : (Nat → Int32) → Prop) (Ps4 : (Nat → Int32) → Prop) (Pi1 : (Nat → Int32) → Prop) (Pi2 : (Nat → Int32) → Prop) (Pi3 : (Nat → Int32) → Prop) (Pi4 : (Nat → Int32) → Prop) (a0 : Nat) (a1 : Int32) (ha0 : eT E a0 ∈ [25]) (ha1 : 0 ≤ a1.toInt ∧ a1.toInt ≤ 17) (hFa1 : 0 ≤ Fa1.1 ∧ Fa1.2 ≤ 12) (hFb1 : 0 ≤ Fb1.1 ∧ Fb1.2 ≤ 14) (hFa2 : 0 ≤ Fa2.1 ∧ Fa2.2 ≤ 12) (hFb2 : 0 ≤ Fb2.1 ∧ Fb2.2 ≤ 14) (hFa3 : 0 ≤ Fa3.1 ∧ Fa3.2 ≤ 12) (hFb3 : 0 ≤ Fb3.1 ∧ Fb3.2 ≤ 14) (hFa4 : 0 ≤ Fa4.1 ∧ Fa4.2 ≤ 12) (hFb4 : 0 ≤ Fb4.1 ∧ Fb4.2 ≤ 14) (hPd1 : ∀ f, Pd1 f → ivP 12 (-2) 11 f) (hPd2 : ∀ f, Pd2 f → ivP 12 (-2) 11 f) (hPd3 : ∀ f, Pd3 f → ivP 12 (-2) 11 f) (hPd4 : ∀ f, Pd4 f → ivP 12 (-2) 11 f) (hPs1 : ∀ f, Ps1 f → ivP 12 (-2147483648) 2147483647 f) (hPs2 : ∀ f, Ps2 f → ivP 12 (-2147483648) 2147483647 f) (hPs3 : ∀ f, Ps3 f → ivP 12 (-2147483648) 2147483647 f) (hPs4 : ∀ f, Ps4 f → ivP 12 (-2147483648) 2147483647 f) (hPi1 : ∀ f, Pi1 f → ivP 48 (-2147483648) 2147483647 f) (hPi2 : ∀ f, Pi2 f → ivP 48 (-2147483648) 2147483647 f) (hPi3 : ∀ f, Pi3 f → ivP 48 (-2147483648) 2147483647 f) (hPi4 : ∀ f, Pi4 f → ivP 48 (-2147483648) 2147483647 f) : TcI E yX0_ageOf cX0_ageOf 2 .int ({ frames := 1, cells := 0, slots := 0, locals := 40 }) [.ref a0, .int a1] (fun H => TH E (tbC dA (dayD qd) (riverD (.inl Fa1) (.inl Fb1) (.inl (0, 4)) 31 33 35 39 43 47) (riverD (.inl Fa2) (.inl Fb2) (.inl (0, 4)) 32 34 36 40 44 48) rc rd tp A14F A14F A4F A4F A14F A14F (riverD (.inl Fa3) (.inl Fb3) (.inl (0, 4)) 3 8 3 41 45 49) (riverD (.inl Fa4) (.inl Fb4) (.inl (0, 4)) 3 8 3 42 46 50) ((.inr (.inl (0, 12, Pd1)))) ((.inr (.inl (0, 12, Pd2)))) ((.inr (.inl (0, 12, Pd3)))) ((.inr (.inl (0, 12, Pd4)))) ((.inr (.inl (0, 12, Ps1)))) ((.inr (.inl (0, 12, Ps2)))) ((.inr (.inl (0, 12, Ps3)))) ((.inr (.inl (0, 12, Ps4)))) ((.inr (.inl (0, 48, Pi1)))) ((.inr (.inl (0, 48, Pi2)))) ((.inr (.inl (0, 48, Pi3)))) ((.inr (.inl (0, 48, Pi4))))) H) (fun v H => ((-2147483648) ≤ v.toInt ∧ v.toInt ≤ 2147483647) ∧ TH E (tbC dA (dayD qd) (riverD (.inl Fa1) (.inl Fb1) (.inl (0, 4)) 31 33 35 39 43 47) (riverD (.inl Fa2) (.inl Fb2) (.inl (0, 4)) 32 34 36 40 44 48) rc rd tp A14F A14F A4F A4F A14F A14F (riverD (.inl Fa3) (.inl Fb3) (.inl (0, 4)) 3 8 3 41 45 49) (riverD (.inl Fa4) (.inl Fb4) (.inl (0, 4)) 3 8 3 42 46 50) ((.inr (.inl (0, 12, Pd1)))) ((.inr (.inl (0, 12, Pd2)))) ((.inr (.inl (0, 12, Pd3)))) ((.inr (.inl (0, 12, Pd4)))) ((.inr (.inl (0, 12, Ps1)))) ((.inr (.inl (0, 12, Ps2)))) ((.inr (.inl (0, 12, Ps3)))) ((.inr (.inl (0, 12, Ps4)))) ((.inr (.inl (0, 48, Pi1)))) ((.inr (.inl (0, 48, Pi2)))) ((.inr (.inl (0, 48, Pi3)))) ((.inr (.inl (0, 48, Pi4))))) H) := by
  refine teI (by decide) (Nat.le_of_ble_eq_true rfl) ?_
  intro p_ ev_ s mi_ below_ meth cd_ ls F hK hN hO hH hS hl
  have hH : TH E (tbC dA (dayD qd) (riverD (.inl Fa1) (.inl Fb1) (.inl (0, 4)) 31 33 35 39 43 47) (riverD (.inl Fa2) (.inl Fb2) (.inl (0, 4)) 32 34 36 40 44 48) rc rd tp A14F A14F A4F A4F A14F A14F (riverD (.inl Fa3) (.inl Fb3) (.inl (0, 4)) 3 8 3 41 45 49) (riverD (.inl Fa4) (.inl Fb4) (.inl (0, 4)) 3 8 3 42 46 50) ((.inr (.inl (0, 12, Pd1)))) ((.inr (.inl (0, 12, Pd2)))) ((.inr (.inl (0, 12, Pd3)))) ((.inr (.inl (0, 12, Pd4)))) ((.inr (.inl (0, 12, Ps1)))) ((.inr (.inl (0, 12, Ps2)))) ((.inr (.inl (0, 12, Ps3)))) ((.inr (.inl (0, 12, Ps4)))) ((.inr (.inl (0, 48, Pi1)))) ((.inr (.inl (0, 48, Pi2)))) ((.inr (.inl (0, 48, Pi3)))) ((.inr (.inl (0, 48, Pi4))))) s.heap := hH
  have hl : lv_has ls 2 [(0, .ref a0), (1, .int a1)] := hl
  refine lv_iload_n F.1 F.2.1 dX0_ageOf_0 rfl (lv_at hl 1 rfl) ?_
  refine lv_bipush (v := 14) F.1 F.2.1 dX0_ageOf_1 (by decide) ?_
  refine topK (a := 14) (by decide) (fun k_1 hk_1 => ?_)
  refine b_ge (tgt := 18) F dX0_ageOf_3 (by decide) (fun c_2 => ?_) (fun c_2 => ?_)
  · skip
    have r_3 : 14 ≤ a1.toInt ∧ a1.toInt ≤ 17 := by have h9_ := ha1; omega
    refine lv_aload_n F.1 F.2.1 dX0_ageOf_18 rfl (lv_at hl 0 rfl) ?_
    refine tGetR0 (j := 0) F hK hH (tyb ha0 (all1 rfl)) rfl clX0 (by decide) wd_4_23 dX0_ageOf_19 (fun q_5 hq_5 => ?_)
    refine tGetRM (j := 18) (L := [33, 34]) F hK hH hq_5 (alls ⟨_, _, rfl, rfl, by decide⟩ (alls1 ⟨_, _, rfl, rfl, by decide⟩)) (all2 rfl rfl) clX2 (by decide) wd_20_17 dX0_ageOf_22 (fun q_6 hq_6 _ => ?_)
    refine lv_iload_n F.1 F.2.1 dX0_ageOf_25 rfl (lv_at hl 1 rfl) ?_
    refine lv_bipush (v := 14) F.1 F.2.1 dX0_ageOf_26 (by decide) ?_
    refine topK (a := 14) (by decide) (fun k_7 hk_7 => ?_)
    refine tSub (lo := 0) (hi := 3) F dX0_ageOf_28 r_3 (eqb hk_7) rfl (fun z_8 hz_8 => ?_)
    refine tIaldB F hK hH (tyb hq_6 (all2 rfl rfl)) (ixb (n := 4) hz_8.2 rfl rfl) dX0_ageOf_29 (fun z_9 hz_9 => ?_)
    exact txI F hS dX0_ageOf_30 rfl (⟨hz_9, hH⟩)
  · skip
    have r_4 : 0 ≤ a1.toInt ∧ a1.toInt ≤ 13 := by have h9_ := ha1; omega
    refine lv_aload_n F.1 F.2.1 dX0_ageOf_6 rfl (lv_at hl 0 rfl) ?_
    refine tGetR (j := 1) F hK hH (tyb ha0 (all1 rfl)) rfl (all1 rfl) clX0 (by decide) wd_5_0 dX0_ageOf_7 (fun q_10 hq_10 _ => ?_)
    refine tGetR (j := 3) F hK hH (tyb hq_10 (all1 rfl)) rfl (all1 rfl) clX5 (by decide) wd_20_16 dX0_ageOf_10 (fun q_11 hq_11 _ => ?_)
    refine lv_iload_n F.1 F.2.1 dX0_ageOf_13 rfl (lv_at hl 1 rfl) ?_
    refine tIaldB F hK hH (tyb hq_11 (all1 rfl)) (ixb (n := 14) r_4 rfl rfl) dX0_ageOf_14 (fun z_12 hz_12 => ?_)
    refine lv_goto (tgt := 30) F.1 F.2.1 dX0_ageOf_15 (by decide) ?_
    exact txI F hS dX0_ageOf_30 rfl (⟨hz_12, hH⟩)
set_option maxHeartbeats 4000000 in
set_option maxRecDepth 100000 in
theorem c_X0_enqueue_A (E : Ev) (dB : TD) (rc : TD) (rd : TD) (tp : TD) (Fa1 : Int × Int) (Fb1 : Int × Int) (Fa2 : Int × Int) (Fb2 : Int × Int) (Fa3 : Int × Int) (Fb3 : Int × Int) (Fa4 : Int × Int) (Fb4 : Int × Int) (Pd1 : (Nat → Int32) → Prop) (Pd2 : (Nat → Int32) → Prop) (Pd3 : (Nat → Int32) → Prop) (Pd4 : (Nat → Int32) → Prop) (Ps1 : (Nat → Int32) → Prop) (Ps2 : (Nat → Int32) → Prop) (Ps3 : (Nat → Int32) → Prop) (Ps4 : (Nat → Int32) → Prop) (Pi1 : (Nat → Int32) → Prop) (Pi2 : (Nat → Int32) → Prop) (Pi3 : (Nat → Int32) → Prop) (Pi4 : (Nat → Int32) → Prop) (q : Int) (a0 : Nat) (a1 : Int32) (ha0 : eT E a0 ∈ [24]) (ha1 : 0 ≤ a1.toInt ∧ a1.toInt ≤ 17) (hq : 0 ≤ q ∧ q ≤ 17) (hFa1 : 0 ≤ Fa1.1 ∧ Fa1.2 ≤ 12) (hFb1 : 0 ≤ Fb1.1 ∧ Fb1.2 ≤ 14) (hFa2 : 0 ≤ Fa2.1 ∧ Fa2.2 ≤ 12) (hFb2 : 0 ≤ Fb2.1 ∧ Fb2.2 ≤ 14) (hFa3 : 0 ≤ Fa3.1 ∧ Fa3.2 ≤ 12) (hFb3 : 0 ≤ Fb3.1 ∧ Fb3.2 ≤ 14) (hFa4 : 0 ≤ Fa4.1 ∧ Fa4.2 ≤ 12) (hFb4 : 0 ≤ Fb4.1 ∧ Fb4.2 ≤ 14) (hPd1 : ∀ f, Pd1 f → ivP 12 (-2) 11 f) (hPd2 : ∀ f, Pd2 f → ivP 12 (-2) 11 f) (hPd3 : ∀ f, Pd3 f → ivP 12 (-2) 11 f) (hPd4 : ∀ f, Pd4 f → ivP 12 (-2) 11 f) (hPs1 : ∀ f, Ps1 f → ivP 12 (-2147483648) 2147483647 f) (hPs2 : ∀ f, Ps2 f → ivP 12 (-2147483648) 2147483647 f) (hPs3 : ∀ f, Ps3 f → ivP 12 (-2147483648) 2147483647 f) (hPs4 : ∀ f, Ps4 f → ivP 12 (-2147483648) 2147483647 f) (hPi1 : ∀ f, Pi1 f → ivP 48 (-2147483648) 2147483647 f) (hPi2 : ∀ f, Pi2 f → ivP 48 (-2147483648) 2147483647 f) (hPi3 : ∀ f, Pi3 f → ivP 48 (-2147483648) 2147483647 f) (hPi4 : ∀ f, Pi4 f → ivP 48 (-2147483648) 2147483647 f) : TcV E yX0_enqueue cX0_enqueue 3 ({ frames := 2, cells := 0, slots := 0, locals := 61 }) [.ref a0, .int a1] (fun H => TH E (tbC (dayD (.inl (q, q))) dB (riverD (.inl Fa1) (.inl Fb1) (.inl (0, 4)) 31 33 35 39 43 47) (riverD (.inl Fa2) (.inl Fb2) (.inl (0, 4)) 32 34 36 40 44 48) rc rd tp A14F A14F A4F A4F A14F A14F (riverD (.inl Fa3) (.inl Fb3) (.inl (0, 4)) 3 8 3 41 45 49) (riverD (.inl Fa4) (.inl Fb4) (.inl (0, 4)) 3 8 3 42 46 50) ((.inr (.inl (0, 12, Pd1)))) ((.inr (.inl (0, 12, Pd2)))) ((.inr (.inl (0, 12, Pd3)))) ((.inr (.inl (0, 12, Pd4)))) ((.inr (.inl (0, 12, Ps1)))) ((.inr (.inl (0, 12, Ps2)))) ((.inr (.inl (0, 12, Ps3)))) ((.inr (.inl (0, 12, Ps4)))) ((.inr (.inl (0, 48, Pi1)))) ((.inr (.inl (0, 48, Pi2)))) ((.inr (.inl (0, 48, Pi3)))) ((.inr (.inl (0, 48, Pi4))))) H) (fun H => TH E (tbC (dayD (.inl ((q + 1), (q + 1)))) dB (riverD (.inl Fa1) (.inl Fb1) (.inl (0, 4)) 31 33 35 39 43 47) (riverD (.inl Fa2) (.inl Fb2) (.inl (0, 4)) 32 34 36 40 44 48) rc rd tp A14F A14F A4F A4F A14F A14F (riverD (.inl Fa3) (.inl Fb3) (.inl (0, 4)) 3 8 3 41 45 49) (riverD (.inl Fa4) (.inl Fb4) (.inl (0, 4)) 3 8 3 42 46 50) ((.inr (.inl (0, 12, Pd1)))) ((.inr (.inl (0, 12, Pd2)))) ((.inr (.inl (0, 12, Pd3)))) ((.inr (.inl (0, 12, Pd4)))) ((.inr (.inl (0, 12, Ps1)))) ((.inr (.inl (0, 12, Ps2)))) ((.inr (.inl (0, 12, Ps3)))) ((.inr (.inl (0, 12, Ps4)))) ((.inr (.inl (0, 48, Pi1)))) ((.inr (.inl (0, 48, Pi2)))) ((.inr (.inl (0, 48, Pi3)))) ((.inr (.inl (0, 48, Pi4))))) H) := by
  refine teV (by decide) (Nat.le_of_ble_eq_true rfl) ?_
  intro p_ ev_ s mi_ below_ meth cd_ ls F hK hN hO hH hS hl
  have hH : TH E (tbC (dayD (.inl (q, q))) dB (riverD (.inl Fa1) (.inl Fb1) (.inl (0, 4)) 31 33 35 39 43 47) (riverD (.inl Fa2) (.inl Fb2) (.inl (0, 4)) 32 34 36 40 44 48) rc rd tp A14F A14F A4F A4F A14F A14F (riverD (.inl Fa3) (.inl Fb3) (.inl (0, 4)) 3 8 3 41 45 49) (riverD (.inl Fa4) (.inl Fb4) (.inl (0, 4)) 3 8 3 42 46 50) ((.inr (.inl (0, 12, Pd1)))) ((.inr (.inl (0, 12, Pd2)))) ((.inr (.inl (0, 12, Pd3)))) ((.inr (.inl (0, 12, Pd4)))) ((.inr (.inl (0, 12, Ps1)))) ((.inr (.inl (0, 12, Ps2)))) ((.inr (.inl (0, 12, Ps3)))) ((.inr (.inl (0, 12, Ps4)))) ((.inr (.inl (0, 48, Pi1)))) ((.inr (.inl (0, 48, Pi2)))) ((.inr (.inl (0, 48, Pi3)))) ((.inr (.inl (0, 48, Pi4))))) s.heap := hH
  have hl : lv_has ls 3 [(0, .ref a0), (1, .int a1)] := hl
  refine lv_aload_n F.1 F.2.1 dX0_enqueue_0 rfl (lv_at hl 0 rfl) ?_
  refine tGetI (j := 3) F hK hH (tyb ha0 (all1 rfl)) rfl clX0 (by decide) wd_20_3 dX0_enqueue_1 (fun z_1 hz_1 => ?_)
  have ez_1 : 0 ≤ z_1.toInt ∧ z_1.toInt ≤ 17 := by omega
  refine lv_istore_n (lv' := [(2, .int z_1), (0, .ref a0), (1, .int a1)]) F.1 F.2.1 dX0_enqueue_4 rfl hl (by decide) rfl (fun ls hl => ?_)
  refine wloop (σ := Int32) (fun n9 x9 H locs ls => (x9.toInt - 0 + 1).toNat < n9 ∧ (0 ≤ x9.toInt ∧ x9.toInt ≤ 17) ∧ TH E (tbC (dayD (.inl (q, q))) dB (riverD (.inl Fa1) (.inl Fb1) (.inl (0, 4)) 31 33 35 39 43 47) (riverD (.inl Fa2) (.inl Fb2) (.inl (0, 4)) 32 34 36 40 44 48) rc rd tp A14F A14F A4F A4F A14F A14F (riverD (.inl Fa3) (.inl Fb3) (.inl (0, 4)) 3 8 3 41 45 49) (riverD (.inl Fa4) (.inl Fb4) (.inl (0, 4)) 3 8 3 42 46 50) ((.inr (.inl (0, 12, Pd1)))) ((.inr (.inl (0, 12, Pd2)))) ((.inr (.inl (0, 12, Pd3)))) ((.inr (.inl (0, 12, Pd4)))) ((.inr (.inl (0, 12, Ps1)))) ((.inr (.inl (0, 12, Ps2)))) ((.inr (.inl (0, 12, Ps3)))) ((.inr (.inl (0, 12, Ps4)))) ((.inr (.inl (0, 48, Pi1)))) ((.inr (.inl (0, 48, Pi2)))) ((.inr (.inl (0, 48, Pi3)))) ((.inr (.inl (0, 48, Pi4))))) H ∧ va_S (eA E s.heap.size) s.heap H locs ∧ lv_has ls 3 [(0, .ref a0), (1, .int a1), (2, .int x9)]) ?_ (fun x9 H locs ls h => absurd h.1 (Nat.not_lt_zero _)) _ (z_1) ⟨Nat.lt_succ_self _, ez_1, hH, hS, lv_sub hl [1, 2, 0] rfl⟩
  intro n_5 ih_5 u_2 H locs ls ⟨hm_5, hu_2, hH, hS, hl⟩
  have hm_5 : (u_2.toInt - 0 + 1).toNat < n_5 + 1 := hm_5
  have hu_2 : (0 ≤ u_2.toInt ∧ u_2.toInt ≤ 17) := hu_2
  have hH : TH E (tbC (dayD (.inl (q, q))) dB (riverD (.inl Fa1) (.inl Fb1) (.inl (0, 4)) 31 33 35 39 43 47) (riverD (.inl Fa2) (.inl Fb2) (.inl (0, 4)) 32 34 36 40 44 48) rc rd tp A14F A14F A4F A4F A14F A14F (riverD (.inl Fa3) (.inl Fb3) (.inl (0, 4)) 3 8 3 41 45 49) (riverD (.inl Fa4) (.inl Fb4) (.inl (0, 4)) 3 8 3 42 46 50) ((.inr (.inl (0, 12, Pd1)))) ((.inr (.inl (0, 12, Pd2)))) ((.inr (.inl (0, 12, Pd3)))) ((.inr (.inl (0, 12, Pd4)))) ((.inr (.inl (0, 12, Ps1)))) ((.inr (.inl (0, 12, Ps2)))) ((.inr (.inl (0, 12, Ps3)))) ((.inr (.inl (0, 12, Ps4)))) ((.inr (.inl (0, 48, Pi1)))) ((.inr (.inl (0, 48, Pi2)))) ((.inr (.inl (0, 48, Pi3)))) ((.inr (.inl (0, 48, Pi4))))) H := hH
  have hl : lv_has ls 3 [(0, .ref a0), (1, .int a1), (2, .int u_2)] := hl
  refine lv_iload_n F.1 F.2.1 dX0_enqueue_5 rfl (lv_at hl 2 rfl) ?_
  refine wjoin (σ := Unit) (pcj := 49) (stj := fun x9 => []) (fun x9 H locs ls => TH E (tbC (dayD (.inl (q, q))) dB (riverD (.inl Fa1) (.inl Fb1) (.inl (0, 4)) 31 33 35 39 43 47) (riverD (.inl Fa2) (.inl Fb2) (.inl (0, 4)) 32 34 36 40 44 48) rc rd tp A14F A14F A4F A4F A14F A14F (riverD (.inl Fa3) (.inl Fb3) (.inl (0, 4)) 3 8 3 41 45 49) (riverD (.inl Fa4) (.inl Fb4) (.inl (0, 4)) 3 8 3 42 46 50) ((.inr (.inl (0, 12, Pd1)))) ((.inr (.inl (0, 12, Pd2)))) ((.inr (.inl (0, 12, Pd3)))) ((.inr (.inl (0, 12, Pd4)))) ((.inr (.inl (0, 12, Ps1)))) ((.inr (.inl (0, 12, Ps2)))) ((.inr (.inl (0, 12, Ps3)))) ((.inr (.inl (0, 12, Ps4)))) ((.inr (.inl (0, 48, Pi1)))) ((.inr (.inl (0, 48, Pi2)))) ((.inr (.inl (0, 48, Pi3)))) ((.inr (.inl (0, 48, Pi4))))) H ∧ va_S (eA E s.heap.size) s.heap H locs ∧ lv_has ls 3 [(0, .ref a0), (1, .int a1), (2, .int u_2)]) (fun x9 H locs ls h_ => ?_) (fun J_49 => ?_)
  · skip
    obtain ⟨hH, hS, hl⟩ := h_
    have hH : TH E (tbC (dayD (.inl (q, q))) dB (riverD (.inl Fa1) (.inl Fb1) (.inl (0, 4)) 31 33 35 39 43 47) (riverD (.inl Fa2) (.inl Fb2) (.inl (0, 4)) 32 34 36 40 44 48) rc rd tp A14F A14F A4F A4F A14F A14F (riverD (.inl Fa3) (.inl Fb3) (.inl (0, 4)) 3 8 3 41 45 49) (riverD (.inl Fa4) (.inl Fb4) (.inl (0, 4)) 3 8 3 42 46 50) ((.inr (.inl (0, 12, Pd1)))) ((.inr (.inl (0, 12, Pd2)))) ((.inr (.inl (0, 12, Pd3)))) ((.inr (.inl (0, 12, Pd4)))) ((.inr (.inl (0, 12, Ps1)))) ((.inr (.inl (0, 12, Ps2)))) ((.inr (.inl (0, 12, Ps3)))) ((.inr (.inl (0, 12, Ps4)))) ((.inr (.inl (0, 48, Pi1)))) ((.inr (.inl (0, 48, Pi2)))) ((.inr (.inl (0, 48, Pi3)))) ((.inr (.inl (0, 48, Pi4))))) H := hH
    have hl : lv_has ls 3 [(0, .ref a0), (1, .int a1), (2, .int u_2)] := hl
    show W _ _ _ _ _ _ _ _ _ _ _ _ _ _ _ (F0 _ _ _ [])
    refine lv_aload_n F.1 F.2.1 dX0_enqueue_49 rfl (lv_at hl 0 rfl) ?_
    refine tGetR (j := 2) F hK hH (tyb ha0 (all1 rfl)) rfl (all1 rfl) clX0 (by decide) wd_4_12 dX0_enqueue_50 (fun q_3 hq_3 _ => ?_)
    refine lv_iload_n F.1 F.2.1 dX0_enqueue_53 rfl (lv_at hl 2 rfl) ?_
    refine lv_iload_n F.1 F.2.1 dX0_enqueue_54 rfl (lv_at hl 1 rfl) ?_
    refine tIastB F hK hH hS (tyb hq_3 (all1 rfl)) (ixb (n := 18) hu_2 rfl rfl) ha1 dX0_enqueue_55 (fun H locs hH hS => ?_)
    refine lv_aload_n F.1 F.2.1 dX0_enqueue_56 rfl (lv_at hl 0 rfl) ?_
    refine lv_dup F.1 F.2.1 dX0_enqueue_57 rfl ?_
    refine tGetI (j := 3) F hK hH (tyb ha0 (all1 rfl)) rfl clX0 (by decide) wd_20_3 dX0_enqueue_58 (fun z_4 hz_4 => ?_)
    have ez_4 : 0 ≤ z_4.toInt ∧ z_4.toInt ≤ 17 := by omega
    refine lv_iconst (v := 1) F.1 F.2.1 dX0_enqueue_61 (by decide) ?_
    refine topK (a := 1) (by decide) (fun k_5 hk_5 => ?_)
    refine tAdd (lo := 1) (hi := 18) F dX0_enqueue_62 ez_4 (eqb hk_5) rfl (fun z_6 hz_6 => ?_)
    obtain ⟨g_7, hg_7⟩ : ∃ y : Int, z_6.toInt = y := ⟨_, rfl⟩
    have bg_7 : 1 ≤ g_7 ∧ g_7 ≤ 18 := by rw [← hg_7]; exact hz_6.2
    refine tPutG (j := 3) (t := 24) (fd := (.inl (g_7, g_7))) F hK hH hS (List.mem_singleton.mp ha0) (by decide) rfl rfl (fdI (by omega)) (TB1 := (tbC (dayD (.inl (g_7, g_7))) dB (riverD (.inl Fa1) (.inl Fb1) (.inl (0, 4)) 31 33 35 39 43 47) (riverD (.inl Fa2) (.inl Fb2) (.inl (0, 4)) 32 34 36 40 44 48) rc rd tp A14F A14F A4F A4F A14F A14F (riverD (.inl Fa3) (.inl Fb3) (.inl (0, 4)) 3 8 3 41 45 49) (riverD (.inl Fa4) (.inl Fb4) (.inl (0, 4)) 3 8 3 42 46 50) ((.inr (.inl (0, 12, Pd1)))) ((.inr (.inl (0, 12, Pd2)))) ((.inr (.inl (0, 12, Pd3)))) ((.inr (.inl (0, 12, Pd4)))) ((.inr (.inl (0, 12, Ps1)))) ((.inr (.inl (0, 12, Ps2)))) ((.inr (.inl (0, 12, Ps3)))) ((.inr (.inl (0, 12, Ps4)))) ((.inr (.inl (0, 48, Pi1)))) ((.inr (.inl (0, 48, Pi2)))) ((.inr (.inl (0, 48, Pi3)))) ((.inr (.inl (0, 48, Pi4)))))) rfl clX0 (by decide) wd_20_3 rfl rfl rfl rfl dX0_enqueue_63 (fun H locs hH hS => ?_)
    have e_8 : g_7 = (q + 1) := by omega
    rw [e_8] at hH
    exact txV F hS dX0_enqueue_66 (hH)
  refine z_le (tgt := 49) F dX0_enqueue_6 (by decide) (fun c_9 => ?_) (fun c_9 => ?_)
  · skip
    have r_10 : 0 ≤ u_2.toInt ∧ u_2.toInt ≤ 0 := by have h9_ := hu_2; omega
    exact J_49 () _ _ _ ⟨hH, hS, lv_sub hl [0, 1, 2] rfl⟩
  · skip
    have r_11 : 1 ≤ u_2.toInt ∧ u_2.toInt ≤ 17 := by have h9_ := hu_2; omega
    refine lv_aload_n F.1 F.2.1 dX0_enqueue_9 rfl (lv_at hl 0 rfl) ?_
    refine lv_aload_n F.1 F.2.1 dX0_enqueue_10 rfl (lv_at hl 0 rfl) ?_
    refine tGetR (j := 2) F hK hH (tyb ha0 (all1 rfl)) rfl (all1 rfl) clX0 (by decide) wd_4_12 dX0_enqueue_11 (fun q_12 hq_12 _ => ?_)
    refine lv_iload_n F.1 F.2.1 dX0_enqueue_14 rfl (lv_at hl 2 rfl) ?_
    refine lv_iconst (v := 1) F.1 F.2.1 dX0_enqueue_15 (by decide) ?_
    refine topK (a := 1) (by decide) (fun k_13 hk_13 => ?_)
    refine tSub (lo := 0) (hi := 16) F dX0_enqueue_16 r_11 (eqb hk_13) rfl (fun z_14 hz_14 => ?_)
    refine tIaldB F hK hH (tyb hq_12 (all1 rfl)) (ixb (n := 18) hz_14.2 rfl rfl) dX0_enqueue_17 (fun z_15 hz_15 => ?_)
    refine tVi (b := a0) (As := [.int z_15]) (rest := []) F hK hN hO (c_X0_ageOf_A E dB rc rd tp ((.inl (q, q))) Fa1 Fb1 Fa2 Fb2 Fa3 Fb3 Fa4 Fb4 Pd1 Pd2 Pd3 Pd4 Ps1 Ps2 Ps3 Ps4 Pi1 Pi2 Pi3 Pi4 a0 z_15 ha0 hz_15 hFa1 hFb1 hFa2 hFb2 hFa3 hFb3 hFa4 hFb4 hPd1 hPd2 hPd3 hPd4 hPs1 hPs2 hPs3 hPs4 hPi1 hPi2 hPi3 hPi4) mv_X0_ageOf wd_20_12 ⟨Nat.le_of_ble_eq_true rfl, Nat.le_of_ble_eq_true rfl⟩ ⟨Nat.le_of_ble_eq_true rfl, Nat.le_of_ble_eq_true rfl⟩ hH hS (tRecv hK hH (tyb ha0 (all1 rfl)) clX0) rfl hl.1 (Nat.le_of_ble_eq_true rfl) dX0_enqueue_18 (fun z_16 H locs hq hS => ?_)
    obtain ⟨f_17, hH⟩ := hq
    have hH : TH E (tbC (dayD (.inl (q, q))) dB (riverD (.inl Fa1) (.inl Fb1) (.inl (0, 4)) 31 33 35 39 43 47) (riverD (.inl Fa2) (.inl Fb2) (.inl (0, 4)) 32 34 36 40 44 48) rc rd tp A14F A14F A4F A4F A14F A14F (riverD (.inl Fa3) (.inl Fb3) (.inl (0, 4)) 3 8 3 41 45 49) (riverD (.inl Fa4) (.inl Fb4) (.inl (0, 4)) 3 8 3 42 46 50) ((.inr (.inl (0, 12, Pd1)))) ((.inr (.inl (0, 12, Pd2)))) ((.inr (.inl (0, 12, Pd3)))) ((.inr (.inl (0, 12, Pd4)))) ((.inr (.inl (0, 12, Ps1)))) ((.inr (.inl (0, 12, Ps2)))) ((.inr (.inl (0, 12, Ps3)))) ((.inr (.inl (0, 12, Ps4)))) ((.inr (.inl (0, 48, Pi1)))) ((.inr (.inl (0, 48, Pi2)))) ((.inr (.inl (0, 48, Pi3)))) ((.inr (.inl (0, 48, Pi4))))) H := hH
    refine lv_aload_n F.1 F.2.1 dX0_enqueue_21 rfl (lv_at hl 0 rfl) ?_
    refine lv_iload_n F.1 F.2.1 dX0_enqueue_22 rfl (lv_at hl 1 rfl) ?_
    refine tVi (b := a0) (As := [.int a1]) (rest := [.int z_16]) F hK hN hO (c_X0_ageOf_A E dB rc rd tp ((.inl (q, q))) Fa1 Fb1 Fa2 Fb2 Fa3 Fb3 Fa4 Fb4 Pd1 Pd2 Pd3 Pd4 Ps1 Ps2 Ps3 Ps4 Pi1 Pi2 Pi3 Pi4 a0 a1 ha0 ha1 hFa1 hFb1 hFa2 hFb2 hFa3 hFb3 hFa4 hFb4 hPd1 hPd2 hPd3 hPd4 hPs1 hPs2 hPs3 hPs4 hPi1 hPi2 hPi3 hPi4) mv_X0_ageOf wd_20_12 ⟨Nat.le_of_ble_eq_true rfl, Nat.le_of_ble_eq_true rfl⟩ ⟨Nat.le_of_ble_eq_true rfl, Nat.le_of_ble_eq_true rfl⟩ hH hS (tRecv hK hH (tyb ha0 (all1 rfl)) clX0) rfl hl.1 (Nat.le_of_ble_eq_true rfl) dX0_enqueue_23 (fun z_18 H locs hq hS => ?_)
    obtain ⟨f_19, hH⟩ := hq
    have hH : TH E (tbC (dayD (.inl (q, q))) dB (riverD (.inl Fa1) (.inl Fb1) (.inl (0, 4)) 31 33 35 39 43 47) (riverD (.inl Fa2) (.inl Fb2) (.inl (0, 4)) 32 34 36 40 44 48) rc rd tp A14F A14F A4F A4F A14F A14F (riverD (.inl Fa3) (.inl Fb3) (.inl (0, 4)) 3 8 3 41 45 49) (riverD (.inl Fa4) (.inl Fb4) (.inl (0, 4)) 3 8 3 42 46 50) ((.inr (.inl (0, 12, Pd1)))) ((.inr (.inl (0, 12, Pd2)))) ((.inr (.inl (0, 12, Pd3)))) ((.inr (.inl (0, 12, Pd4)))) ((.inr (.inl (0, 12, Ps1)))) ((.inr (.inl (0, 12, Ps2)))) ((.inr (.inl (0, 12, Ps3)))) ((.inr (.inl (0, 12, Ps4)))) ((.inr (.inl (0, 48, Pi1)))) ((.inr (.inl (0, 48, Pi2)))) ((.inr (.inl (0, 48, Pi3)))) ((.inr (.inl (0, 48, Pi4))))) H := hH
    refine b_le (tgt := 49) F dX0_enqueue_26 (by decide) (fun c_20 => ?_) (fun c_20 => ?_)
    · skip
      exact J_49 () _ _ _ ⟨hH, hS, lv_sub hl [0, 1, 2] rfl⟩
    · skip
      refine lv_aload_n F.1 F.2.1 dX0_enqueue_29 rfl (lv_at hl 0 rfl) ?_
      refine tGetR (j := 2) F hK hH (tyb ha0 (all1 rfl)) rfl (all1 rfl) clX0 (by decide) wd_4_12 dX0_enqueue_30 (fun q_21 hq_21 _ => ?_)
      refine lv_iload_n F.1 F.2.1 dX0_enqueue_33 rfl (lv_at hl 2 rfl) ?_
      refine lv_aload_n F.1 F.2.1 dX0_enqueue_34 rfl (lv_at hl 0 rfl) ?_
      refine tGetR (j := 2) F hK hH (tyb ha0 (all1 rfl)) rfl (all1 rfl) clX0 (by decide) wd_4_12 dX0_enqueue_35 (fun q_22 hq_22 _ => ?_)
      refine lv_iload_n F.1 F.2.1 dX0_enqueue_38 rfl (lv_at hl 2 rfl) ?_
      refine lv_iconst (v := 1) F.1 F.2.1 dX0_enqueue_39 (by decide) ?_
      refine topK (a := 1) (by decide) (fun k_23 hk_23 => ?_)
      refine tSub (lo := 0) (hi := 16) F dX0_enqueue_40 r_11 (eqb hk_23) rfl (fun z_24 hz_24 => ?_)
      refine tIaldB F hK hH (tyb hq_22 (all1 rfl)) (ixb (n := 18) hz_24.2 rfl rfl) dX0_enqueue_41 (fun z_25 hz_25 => ?_)
      refine tIastB F hK hH hS (tyb hq_21 (all1 rfl)) (ixb (n := 18) r_11 rfl rfl) hz_25 dX0_enqueue_42 (fun H locs hH hS => ?_)
      obtain ⟨x_26, ex_26, hx_26⟩ := iincB (c := (-1)) (lo := 0) (hi := 16) r_11 rfl
      refine lv_iinc (v := x_26) (lv' := [(2, .int x_26), (0, .ref a0), (1, .int a1)]) F.1 F.2.1 dX0_enqueue_43 hl (k := 2) rfl ex_26 (by decide) rfl (fun ls hl => ?_)
      refine lv_goto (tgt := 5) F.1 F.2.1 dX0_enqueue_46 (by decide) ?_
      exact ih_5 (x_26) _ _ _ ⟨(show (x_26.toInt - 0 + 1).toNat < n_5 from by omega), (wkb hx_26.2 rfl rfl), hH, hS, lv_sub hl [1, 2, 0] rfl⟩
set_option maxHeartbeats 4000000 in
set_option maxRecDepth 100000 in
theorem c_X0_enqueue_B (E : Ev) (dA : TD) (rc : TD) (rd : TD) (tp : TD) (Fa1 : Int × Int) (Fb1 : Int × Int) (Fa2 : Int × Int) (Fb2 : Int × Int) (Fa3 : Int × Int) (Fb3 : Int × Int) (Fa4 : Int × Int) (Fb4 : Int × Int) (Pd1 : (Nat → Int32) → Prop) (Pd2 : (Nat → Int32) → Prop) (Pd3 : (Nat → Int32) → Prop) (Pd4 : (Nat → Int32) → Prop) (Ps1 : (Nat → Int32) → Prop) (Ps2 : (Nat → Int32) → Prop) (Ps3 : (Nat → Int32) → Prop) (Ps4 : (Nat → Int32) → Prop) (Pi1 : (Nat → Int32) → Prop) (Pi2 : (Nat → Int32) → Prop) (Pi3 : (Nat → Int32) → Prop) (Pi4 : (Nat → Int32) → Prop) (q : Int) (a0 : Nat) (a1 : Int32) (ha0 : eT E a0 ∈ [25]) (ha1 : 0 ≤ a1.toInt ∧ a1.toInt ≤ 17) (hq : 0 ≤ q ∧ q ≤ 17) (hFa1 : 0 ≤ Fa1.1 ∧ Fa1.2 ≤ 12) (hFb1 : 0 ≤ Fb1.1 ∧ Fb1.2 ≤ 14) (hFa2 : 0 ≤ Fa2.1 ∧ Fa2.2 ≤ 12) (hFb2 : 0 ≤ Fb2.1 ∧ Fb2.2 ≤ 14) (hFa3 : 0 ≤ Fa3.1 ∧ Fa3.2 ≤ 12) (hFb3 : 0 ≤ Fb3.1 ∧ Fb3.2 ≤ 14) (hFa4 : 0 ≤ Fa4.1 ∧ Fa4.2 ≤ 12) (hFb4 : 0 ≤ Fb4.1 ∧ Fb4.2 ≤ 14) (hPd1 : ∀ f, Pd1 f → ivP 12 (-2) 11 f) (hPd2 : ∀ f, Pd2 f → ivP 12 (-2) 11 f) (hPd3 : ∀ f, Pd3 f → ivP 12 (-2) 11 f) (hPd4 : ∀ f, Pd4 f → ivP 12 (-2) 11 f) (hPs1 : ∀ f, Ps1 f → ivP 12 (-2147483648) 2147483647 f) (hPs2 : ∀ f, Ps2 f → ivP 12 (-2147483648) 2147483647 f) (hPs3 : ∀ f, Ps3 f → ivP 12 (-2147483648) 2147483647 f) (hPs4 : ∀ f, Ps4 f → ivP 12 (-2147483648) 2147483647 f) (hPi1 : ∀ f, Pi1 f → ivP 48 (-2147483648) 2147483647 f) (hPi2 : ∀ f, Pi2 f → ivP 48 (-2147483648) 2147483647 f) (hPi3 : ∀ f, Pi3 f → ivP 48 (-2147483648) 2147483647 f) (hPi4 : ∀ f, Pi4 f → ivP 48 (-2147483648) 2147483647 f) : TcV E yX0_enqueue cX0_enqueue 3 ({ frames := 2, cells := 0, slots := 0, locals := 61 }) [.ref a0, .int a1] (fun H => TH E (tbC dA (dayD (.inl (q, q))) (riverD (.inl Fa1) (.inl Fb1) (.inl (0, 4)) 31 33 35 39 43 47) (riverD (.inl Fa2) (.inl Fb2) (.inl (0, 4)) 32 34 36 40 44 48) rc rd tp A14F A14F A4F A4F A14F A14F (riverD (.inl Fa3) (.inl Fb3) (.inl (0, 4)) 3 8 3 41 45 49) (riverD (.inl Fa4) (.inl Fb4) (.inl (0, 4)) 3 8 3 42 46 50) ((.inr (.inl (0, 12, Pd1)))) ((.inr (.inl (0, 12, Pd2)))) ((.inr (.inl (0, 12, Pd3)))) ((.inr (.inl (0, 12, Pd4)))) ((.inr (.inl (0, 12, Ps1)))) ((.inr (.inl (0, 12, Ps2)))) ((.inr (.inl (0, 12, Ps3)))) ((.inr (.inl (0, 12, Ps4)))) ((.inr (.inl (0, 48, Pi1)))) ((.inr (.inl (0, 48, Pi2)))) ((.inr (.inl (0, 48, Pi3)))) ((.inr (.inl (0, 48, Pi4))))) H) (fun H => TH E (tbC dA (dayD (.inl ((q + 1), (q + 1)))) (riverD (.inl Fa1) (.inl Fb1) (.inl (0, 4)) 31 33 35 39 43 47) (riverD (.inl Fa2) (.inl Fb2) (.inl (0, 4)) 32 34 36 40 44 48) rc rd tp A14F A14F A4F A4F A14F A14F (riverD (.inl Fa3) (.inl Fb3) (.inl (0, 4)) 3 8 3 41 45 49) (riverD (.inl Fa4) (.inl Fb4) (.inl (0, 4)) 3 8 3 42 46 50) ((.inr (.inl (0, 12, Pd1)))) ((.inr (.inl (0, 12, Pd2)))) ((.inr (.inl (0, 12, Pd3)))) ((.inr (.inl (0, 12, Pd4)))) ((.inr (.inl (0, 12, Ps1)))) ((.inr (.inl (0, 12, Ps2)))) ((.inr (.inl (0, 12, Ps3)))) ((.inr (.inl (0, 12, Ps4)))) ((.inr (.inl (0, 48, Pi1)))) ((.inr (.inl (0, 48, Pi2)))) ((.inr (.inl (0, 48, Pi3)))) ((.inr (.inl (0, 48, Pi4))))) H) := by
  refine teV (by decide) (Nat.le_of_ble_eq_true rfl) ?_
  intro p_ ev_ s mi_ below_ meth cd_ ls F hK hN hO hH hS hl
  have hH : TH E (tbC dA (dayD (.inl (q, q))) (riverD (.inl Fa1) (.inl Fb1) (.inl (0, 4)) 31 33 35 39 43 47) (riverD (.inl Fa2) (.inl Fb2) (.inl (0, 4)) 32 34 36 40 44 48) rc rd tp A14F A14F A4F A4F A14F A14F (riverD (.inl Fa3) (.inl Fb3) (.inl (0, 4)) 3 8 3 41 45 49) (riverD (.inl Fa4) (.inl Fb4) (.inl (0, 4)) 3 8 3 42 46 50) ((.inr (.inl (0, 12, Pd1)))) ((.inr (.inl (0, 12, Pd2)))) ((.inr (.inl (0, 12, Pd3)))) ((.inr (.inl (0, 12, Pd4)))) ((.inr (.inl (0, 12, Ps1)))) ((.inr (.inl (0, 12, Ps2)))) ((.inr (.inl (0, 12, Ps3)))) ((.inr (.inl (0, 12, Ps4)))) ((.inr (.inl (0, 48, Pi1)))) ((.inr (.inl (0, 48, Pi2)))) ((.inr (.inl (0, 48, Pi3)))) ((.inr (.inl (0, 48, Pi4))))) s.heap := hH
  have hl : lv_has ls 3 [(0, .ref a0), (1, .int a1)] := hl
  refine lv_aload_n F.1 F.2.1 dX0_enqueue_0 rfl (lv_at hl 0 rfl) ?_
  refine tGetI (j := 3) F hK hH (tyb ha0 (all1 rfl)) rfl clX0 (by decide) wd_20_3 dX0_enqueue_1 (fun z_1 hz_1 => ?_)
  have ez_1 : 0 ≤ z_1.toInt ∧ z_1.toInt ≤ 17 := by omega
  refine lv_istore_n (lv' := [(2, .int z_1), (0, .ref a0), (1, .int a1)]) F.1 F.2.1 dX0_enqueue_4 rfl hl (by decide) rfl (fun ls hl => ?_)
  refine wloop (σ := Int32) (fun n9 x9 H locs ls => (x9.toInt - 0 + 1).toNat < n9 ∧ (0 ≤ x9.toInt ∧ x9.toInt ≤ 17) ∧ TH E (tbC dA (dayD (.inl (q, q))) (riverD (.inl Fa1) (.inl Fb1) (.inl (0, 4)) 31 33 35 39 43 47) (riverD (.inl Fa2) (.inl Fb2) (.inl (0, 4)) 32 34 36 40 44 48) rc rd tp A14F A14F A4F A4F A14F A14F (riverD (.inl Fa3) (.inl Fb3) (.inl (0, 4)) 3 8 3 41 45 49) (riverD (.inl Fa4) (.inl Fb4) (.inl (0, 4)) 3 8 3 42 46 50) ((.inr (.inl (0, 12, Pd1)))) ((.inr (.inl (0, 12, Pd2)))) ((.inr (.inl (0, 12, Pd3)))) ((.inr (.inl (0, 12, Pd4)))) ((.inr (.inl (0, 12, Ps1)))) ((.inr (.inl (0, 12, Ps2)))) ((.inr (.inl (0, 12, Ps3)))) ((.inr (.inl (0, 12, Ps4)))) ((.inr (.inl (0, 48, Pi1)))) ((.inr (.inl (0, 48, Pi2)))) ((.inr (.inl (0, 48, Pi3)))) ((.inr (.inl (0, 48, Pi4))))) H ∧ va_S (eA E s.heap.size) s.heap H locs ∧ lv_has ls 3 [(0, .ref a0), (1, .int a1), (2, .int x9)]) ?_ (fun x9 H locs ls h => absurd h.1 (Nat.not_lt_zero _)) _ (z_1) ⟨Nat.lt_succ_self _, ez_1, hH, hS, lv_sub hl [1, 2, 0] rfl⟩
  intro n_5 ih_5 u_2 H locs ls ⟨hm_5, hu_2, hH, hS, hl⟩
  have hm_5 : (u_2.toInt - 0 + 1).toNat < n_5 + 1 := hm_5
  have hu_2 : (0 ≤ u_2.toInt ∧ u_2.toInt ≤ 17) := hu_2
  have hH : TH E (tbC dA (dayD (.inl (q, q))) (riverD (.inl Fa1) (.inl Fb1) (.inl (0, 4)) 31 33 35 39 43 47) (riverD (.inl Fa2) (.inl Fb2) (.inl (0, 4)) 32 34 36 40 44 48) rc rd tp A14F A14F A4F A4F A14F A14F (riverD (.inl Fa3) (.inl Fb3) (.inl (0, 4)) 3 8 3 41 45 49) (riverD (.inl Fa4) (.inl Fb4) (.inl (0, 4)) 3 8 3 42 46 50) ((.inr (.inl (0, 12, Pd1)))) ((.inr (.inl (0, 12, Pd2)))) ((.inr (.inl (0, 12, Pd3)))) ((.inr (.inl (0, 12, Pd4)))) ((.inr (.inl (0, 12, Ps1)))) ((.inr (.inl (0, 12, Ps2)))) ((.inr (.inl (0, 12, Ps3)))) ((.inr (.inl (0, 12, Ps4)))) ((.inr (.inl (0, 48, Pi1)))) ((.inr (.inl (0, 48, Pi2)))) ((.inr (.inl (0, 48, Pi3)))) ((.inr (.inl (0, 48, Pi4))))) H := hH
  have hl : lv_has ls 3 [(0, .ref a0), (1, .int a1), (2, .int u_2)] := hl
  refine lv_iload_n F.1 F.2.1 dX0_enqueue_5 rfl (lv_at hl 2 rfl) ?_
  refine wjoin (σ := Unit) (pcj := 49) (stj := fun x9 => []) (fun x9 H locs ls => TH E (tbC dA (dayD (.inl (q, q))) (riverD (.inl Fa1) (.inl Fb1) (.inl (0, 4)) 31 33 35 39 43 47) (riverD (.inl Fa2) (.inl Fb2) (.inl (0, 4)) 32 34 36 40 44 48) rc rd tp A14F A14F A4F A4F A14F A14F (riverD (.inl Fa3) (.inl Fb3) (.inl (0, 4)) 3 8 3 41 45 49) (riverD (.inl Fa4) (.inl Fb4) (.inl (0, 4)) 3 8 3 42 46 50) ((.inr (.inl (0, 12, Pd1)))) ((.inr (.inl (0, 12, Pd2)))) ((.inr (.inl (0, 12, Pd3)))) ((.inr (.inl (0, 12, Pd4)))) ((.inr (.inl (0, 12, Ps1)))) ((.inr (.inl (0, 12, Ps2)))) ((.inr (.inl (0, 12, Ps3)))) ((.inr (.inl (0, 12, Ps4)))) ((.inr (.inl (0, 48, Pi1)))) ((.inr (.inl (0, 48, Pi2)))) ((.inr (.inl (0, 48, Pi3)))) ((.inr (.inl (0, 48, Pi4))))) H ∧ va_S (eA E s.heap.size) s.heap H locs ∧ lv_has ls 3 [(0, .ref a0), (1, .int a1), (2, .int u_2)]) (fun x9 H locs ls h_ => ?_) (fun J_49 => ?_)
  · skip
    obtain ⟨hH, hS, hl⟩ := h_
    have hH : TH E (tbC dA (dayD (.inl (q, q))) (riverD (.inl Fa1) (.inl Fb1) (.inl (0, 4)) 31 33 35 39 43 47) (riverD (.inl Fa2) (.inl Fb2) (.inl (0, 4)) 32 34 36 40 44 48) rc rd tp A14F A14F A4F A4F A14F A14F (riverD (.inl Fa3) (.inl Fb3) (.inl (0, 4)) 3 8 3 41 45 49) (riverD (.inl Fa4) (.inl Fb4) (.inl (0, 4)) 3 8 3 42 46 50) ((.inr (.inl (0, 12, Pd1)))) ((.inr (.inl (0, 12, Pd2)))) ((.inr (.inl (0, 12, Pd3)))) ((.inr (.inl (0, 12, Pd4)))) ((.inr (.inl (0, 12, Ps1)))) ((.inr (.inl (0, 12, Ps2)))) ((.inr (.inl (0, 12, Ps3)))) ((.inr (.inl (0, 12, Ps4)))) ((.inr (.inl (0, 48, Pi1)))) ((.inr (.inl (0, 48, Pi2)))) ((.inr (.inl (0, 48, Pi3)))) ((.inr (.inl (0, 48, Pi4))))) H := hH
    have hl : lv_has ls 3 [(0, .ref a0), (1, .int a1), (2, .int u_2)] := hl
    show W _ _ _ _ _ _ _ _ _ _ _ _ _ _ _ (F0 _ _ _ [])
    refine lv_aload_n F.1 F.2.1 dX0_enqueue_49 rfl (lv_at hl 0 rfl) ?_
    refine tGetR (j := 2) F hK hH (tyb ha0 (all1 rfl)) rfl (all1 rfl) clX0 (by decide) wd_4_12 dX0_enqueue_50 (fun q_3 hq_3 _ => ?_)
    refine lv_iload_n F.1 F.2.1 dX0_enqueue_53 rfl (lv_at hl 2 rfl) ?_
    refine lv_iload_n F.1 F.2.1 dX0_enqueue_54 rfl (lv_at hl 1 rfl) ?_
    refine tIastB F hK hH hS (tyb hq_3 (all1 rfl)) (ixb (n := 18) hu_2 rfl rfl) ha1 dX0_enqueue_55 (fun H locs hH hS => ?_)
    refine lv_aload_n F.1 F.2.1 dX0_enqueue_56 rfl (lv_at hl 0 rfl) ?_
    refine lv_dup F.1 F.2.1 dX0_enqueue_57 rfl ?_
    refine tGetI (j := 3) F hK hH (tyb ha0 (all1 rfl)) rfl clX0 (by decide) wd_20_3 dX0_enqueue_58 (fun z_4 hz_4 => ?_)
    have ez_4 : 0 ≤ z_4.toInt ∧ z_4.toInt ≤ 17 := by omega
    refine lv_iconst (v := 1) F.1 F.2.1 dX0_enqueue_61 (by decide) ?_
    refine topK (a := 1) (by decide) (fun k_5 hk_5 => ?_)
    refine tAdd (lo := 1) (hi := 18) F dX0_enqueue_62 ez_4 (eqb hk_5) rfl (fun z_6 hz_6 => ?_)
    obtain ⟨g_7, hg_7⟩ : ∃ y : Int, z_6.toInt = y := ⟨_, rfl⟩
    have bg_7 : 1 ≤ g_7 ∧ g_7 ≤ 18 := by rw [← hg_7]; exact hz_6.2
    refine tPutG (j := 3) (t := 25) (fd := (.inl (g_7, g_7))) F hK hH hS (List.mem_singleton.mp ha0) (by decide) rfl rfl (fdI (by omega)) (TB1 := (tbC dA (dayD (.inl (g_7, g_7))) (riverD (.inl Fa1) (.inl Fb1) (.inl (0, 4)) 31 33 35 39 43 47) (riverD (.inl Fa2) (.inl Fb2) (.inl (0, 4)) 32 34 36 40 44 48) rc rd tp A14F A14F A4F A4F A14F A14F (riverD (.inl Fa3) (.inl Fb3) (.inl (0, 4)) 3 8 3 41 45 49) (riverD (.inl Fa4) (.inl Fb4) (.inl (0, 4)) 3 8 3 42 46 50) ((.inr (.inl (0, 12, Pd1)))) ((.inr (.inl (0, 12, Pd2)))) ((.inr (.inl (0, 12, Pd3)))) ((.inr (.inl (0, 12, Pd4)))) ((.inr (.inl (0, 12, Ps1)))) ((.inr (.inl (0, 12, Ps2)))) ((.inr (.inl (0, 12, Ps3)))) ((.inr (.inl (0, 12, Ps4)))) ((.inr (.inl (0, 48, Pi1)))) ((.inr (.inl (0, 48, Pi2)))) ((.inr (.inl (0, 48, Pi3)))) ((.inr (.inl (0, 48, Pi4)))))) rfl clX0 (by decide) wd_20_3 rfl rfl rfl rfl dX0_enqueue_63 (fun H locs hH hS => ?_)
    have e_8 : g_7 = (q + 1) := by omega
    rw [e_8] at hH
    exact txV F hS dX0_enqueue_66 (hH)
  refine z_le (tgt := 49) F dX0_enqueue_6 (by decide) (fun c_9 => ?_) (fun c_9 => ?_)
  · skip
    have r_10 : 0 ≤ u_2.toInt ∧ u_2.toInt ≤ 0 := by have h9_ := hu_2; omega
    exact J_49 () _ _ _ ⟨hH, hS, lv_sub hl [0, 1, 2] rfl⟩
  · skip
    have r_11 : 1 ≤ u_2.toInt ∧ u_2.toInt ≤ 17 := by have h9_ := hu_2; omega
    refine lv_aload_n F.1 F.2.1 dX0_enqueue_9 rfl (lv_at hl 0 rfl) ?_
    refine lv_aload_n F.1 F.2.1 dX0_enqueue_10 rfl (lv_at hl 0 rfl) ?_
    refine tGetR (j := 2) F hK hH (tyb ha0 (all1 rfl)) rfl (all1 rfl) clX0 (by decide) wd_4_12 dX0_enqueue_11 (fun q_12 hq_12 _ => ?_)
    refine lv_iload_n F.1 F.2.1 dX0_enqueue_14 rfl (lv_at hl 2 rfl) ?_
    refine lv_iconst (v := 1) F.1 F.2.1 dX0_enqueue_15 (by decide) ?_
    refine topK (a := 1) (by decide) (fun k_13 hk_13 => ?_)
    refine tSub (lo := 0) (hi := 16) F dX0_enqueue_16 r_11 (eqb hk_13) rfl (fun z_14 hz_14 => ?_)
    refine tIaldB F hK hH (tyb hq_12 (all1 rfl)) (ixb (n := 18) hz_14.2 rfl rfl) dX0_enqueue_17 (fun z_15 hz_15 => ?_)
    refine tVi (b := a0) (As := [.int z_15]) (rest := []) F hK hN hO (c_X0_ageOf_B E dA rc rd tp ((.inl (q, q))) Fa1 Fb1 Fa2 Fb2 Fa3 Fb3 Fa4 Fb4 Pd1 Pd2 Pd3 Pd4 Ps1 Ps2 Ps3 Ps4 Pi1 Pi2 Pi3 Pi4 a0 z_15 ha0 hz_15 hFa1 hFb1 hFa2 hFb2 hFa3 hFb3 hFa4 hFb4 hPd1 hPd2 hPd3 hPd4 hPs1 hPs2 hPs3 hPs4 hPi1 hPi2 hPi3 hPi4) mv_X0_ageOf wd_20_12 ⟨Nat.le_of_ble_eq_true rfl, Nat.le_of_ble_eq_true rfl⟩ ⟨Nat.le_of_ble_eq_true rfl, Nat.le_of_ble_eq_true rfl⟩ hH hS (tRecv hK hH (tyb ha0 (all1 rfl)) clX0) rfl hl.1 (Nat.le_of_ble_eq_true rfl) dX0_enqueue_18 (fun z_16 H locs hq hS => ?_)
    obtain ⟨f_17, hH⟩ := hq
    have hH : TH E (tbC dA (dayD (.inl (q, q))) (riverD (.inl Fa1) (.inl Fb1) (.inl (0, 4)) 31 33 35 39 43 47) (riverD (.inl Fa2) (.inl Fb2) (.inl (0, 4)) 32 34 36 40 44 48) rc rd tp A14F A14F A4F A4F A14F A14F (riverD (.inl Fa3) (.inl Fb3) (.inl (0, 4)) 3 8 3 41 45 49) (riverD (.inl Fa4) (.inl Fb4) (.inl (0, 4)) 3 8 3 42 46 50) ((.inr (.inl (0, 12, Pd1)))) ((.inr (.inl (0, 12, Pd2)))) ((.inr (.inl (0, 12, Pd3)))) ((.inr (.inl (0, 12, Pd4)))) ((.inr (.inl (0, 12, Ps1)))) ((.inr (.inl (0, 12, Ps2)))) ((.inr (.inl (0, 12, Ps3)))) ((.inr (.inl (0, 12, Ps4)))) ((.inr (.inl (0, 48, Pi1)))) ((.inr (.inl (0, 48, Pi2)))) ((.inr (.inl (0, 48, Pi3)))) ((.inr (.inl (0, 48, Pi4))))) H := hH
    refine lv_aload_n F.1 F.2.1 dX0_enqueue_21 rfl (lv_at hl 0 rfl) ?_
    refine lv_iload_n F.1 F.2.1 dX0_enqueue_22 rfl (lv_at hl 1 rfl) ?_
    refine tVi (b := a0) (As := [.int a1]) (rest := [.int z_16]) F hK hN hO (c_X0_ageOf_B E dA rc rd tp ((.inl (q, q))) Fa1 Fb1 Fa2 Fb2 Fa3 Fb3 Fa4 Fb4 Pd1 Pd2 Pd3 Pd4 Ps1 Ps2 Ps3 Ps4 Pi1 Pi2 Pi3 Pi4 a0 a1 ha0 ha1 hFa1 hFb1 hFa2 hFb2 hFa3 hFb3 hFa4 hFb4 hPd1 hPd2 hPd3 hPd4 hPs1 hPs2 hPs3 hPs4 hPi1 hPi2 hPi3 hPi4) mv_X0_ageOf wd_20_12 ⟨Nat.le_of_ble_eq_true rfl, Nat.le_of_ble_eq_true rfl⟩ ⟨Nat.le_of_ble_eq_true rfl, Nat.le_of_ble_eq_true rfl⟩ hH hS (tRecv hK hH (tyb ha0 (all1 rfl)) clX0) rfl hl.1 (Nat.le_of_ble_eq_true rfl) dX0_enqueue_23 (fun z_18 H locs hq hS => ?_)
    obtain ⟨f_19, hH⟩ := hq
    have hH : TH E (tbC dA (dayD (.inl (q, q))) (riverD (.inl Fa1) (.inl Fb1) (.inl (0, 4)) 31 33 35 39 43 47) (riverD (.inl Fa2) (.inl Fb2) (.inl (0, 4)) 32 34 36 40 44 48) rc rd tp A14F A14F A4F A4F A14F A14F (riverD (.inl Fa3) (.inl Fb3) (.inl (0, 4)) 3 8 3 41 45 49) (riverD (.inl Fa4) (.inl Fb4) (.inl (0, 4)) 3 8 3 42 46 50) ((.inr (.inl (0, 12, Pd1)))) ((.inr (.inl (0, 12, Pd2)))) ((.inr (.inl (0, 12, Pd3)))) ((.inr (.inl (0, 12, Pd4)))) ((.inr (.inl (0, 12, Ps1)))) ((.inr (.inl (0, 12, Ps2)))) ((.inr (.inl (0, 12, Ps3)))) ((.inr (.inl (0, 12, Ps4)))) ((.inr (.inl (0, 48, Pi1)))) ((.inr (.inl (0, 48, Pi2)))) ((.inr (.inl (0, 48, Pi3)))) ((.inr (.inl (0, 48, Pi4))))) H := hH
    refine b_le (tgt := 49) F dX0_enqueue_26 (by decide) (fun c_20 => ?_) (fun c_20 => ?_)
    · skip
      exact J_49 () _ _ _ ⟨hH, hS, lv_sub hl [0, 1, 2] rfl⟩
    · skip
      refine lv_aload_n F.1 F.2.1 dX0_enqueue_29 rfl (lv_at hl 0 rfl) ?_
      refine tGetR (j := 2) F hK hH (tyb ha0 (all1 rfl)) rfl (all1 rfl) clX0 (by decide) wd_4_12 dX0_enqueue_30 (fun q_21 hq_21 _ => ?_)
      refine lv_iload_n F.1 F.2.1 dX0_enqueue_33 rfl (lv_at hl 2 rfl) ?_
      refine lv_aload_n F.1 F.2.1 dX0_enqueue_34 rfl (lv_at hl 0 rfl) ?_
      refine tGetR (j := 2) F hK hH (tyb ha0 (all1 rfl)) rfl (all1 rfl) clX0 (by decide) wd_4_12 dX0_enqueue_35 (fun q_22 hq_22 _ => ?_)
      refine lv_iload_n F.1 F.2.1 dX0_enqueue_38 rfl (lv_at hl 2 rfl) ?_
      refine lv_iconst (v := 1) F.1 F.2.1 dX0_enqueue_39 (by decide) ?_
      refine topK (a := 1) (by decide) (fun k_23 hk_23 => ?_)
      refine tSub (lo := 0) (hi := 16) F dX0_enqueue_40 r_11 (eqb hk_23) rfl (fun z_24 hz_24 => ?_)
      refine tIaldB F hK hH (tyb hq_22 (all1 rfl)) (ixb (n := 18) hz_24.2 rfl rfl) dX0_enqueue_41 (fun z_25 hz_25 => ?_)
      refine tIastB F hK hH hS (tyb hq_21 (all1 rfl)) (ixb (n := 18) r_11 rfl rfl) hz_25 dX0_enqueue_42 (fun H locs hH hS => ?_)
      obtain ⟨x_26, ex_26, hx_26⟩ := iincB (c := (-1)) (lo := 0) (hi := 16) r_11 rfl
      refine lv_iinc (v := x_26) (lv' := [(2, .int x_26), (0, .ref a0), (1, .int a1)]) F.1 F.2.1 dX0_enqueue_43 hl (k := 2) rfl ex_26 (by decide) rfl (fun ls hl => ?_)
      refine lv_goto (tgt := 5) F.1 F.2.1 dX0_enqueue_46 (by decide) ?_
      exact ih_5 (x_26) _ _ _ ⟨(show (x_26.toInt - 0 + 1).toNat < n_5 from by omega), (wkb hx_26.2 rfl rfl), hH, hS, lv_sub hl [1, 2, 0] rfl⟩
set_option maxHeartbeats 4000000 in
set_option maxRecDepth 100000 in
theorem c_X0_open_A (E : Ev) (dB : TD) (rc : TD) (rd : TD) (tp : TD) (Fa1 : Int × Int) (Fb1 : Int × Int) (Fa2 : Int × Int) (Fb2 : Int × Int) (Fa3 : Int × Int) (Fb3 : Int × Int) (Fa4 : Int × Int) (Fb4 : Int × Int) (Pd1 : (Nat → Int32) → Prop) (Pd2 : (Nat → Int32) → Prop) (Pd3 : (Nat → Int32) → Prop) (Pd4 : (Nat → Int32) → Prop) (Ps1 : (Nat → Int32) → Prop) (Ps2 : (Nat → Int32) → Prop) (Ps3 : (Nat → Int32) → Prop) (Ps4 : (Nat → Int32) → Prop) (Pi1 : (Nat → Int32) → Prop) (Pi2 : (Nat → Int32) → Prop) (Pi3 : (Nat → Int32) → Prop) (Pi4 : (Nat → Int32) → Prop) (a0 : Nat) (a1 : Nat) (a2 : Nat) (ha0 : eT E a0 ∈ [24]) (ha1 : eT E a1 ∈ [26, 27]) (ha2 : eT E a2 ∈ [17]) (hFa1 : 0 ≤ Fa1.1 ∧ Fa1.2 ≤ 12) (hFb1 : 0 ≤ Fb1.1 ∧ Fb1.2 ≤ 14) (hFa2 : 0 ≤ Fa2.1 ∧ Fa2.2 ≤ 12) (hFb2 : 0 ≤ Fb2.1 ∧ Fb2.2 ≤ 14) (hFa3 : 0 ≤ Fa3.1 ∧ Fa3.2 ≤ 12) (hFb3 : 0 ≤ Fb3.1 ∧ Fb3.2 ≤ 14) (hFa4 : 0 ≤ Fa4.1 ∧ Fa4.2 ≤ 12) (hFb4 : 0 ≤ Fb4.1 ∧ Fb4.2 ≤ 14) (hPd1 : ∀ f, Pd1 f → ivP 12 (-2) 11 f) (hPd2 : ∀ f, Pd2 f → ivP 12 (-2) 11 f) (hPd3 : ∀ f, Pd3 f → ivP 12 (-2) 11 f) (hPd4 : ∀ f, Pd4 f → ivP 12 (-2) 11 f) (hPs1 : ∀ f, Ps1 f → ivP 12 (-2147483648) 2147483647 f) (hPs2 : ∀ f, Ps2 f → ivP 12 (-2147483648) 2147483647 f) (hPs3 : ∀ f, Ps3 f → ivP 12 (-2147483648) 2147483647 f) (hPs4 : ∀ f, Ps4 f → ivP 12 (-2147483648) 2147483647 f) (hPi1 : ∀ f, Pi1 f → ivP 48 (-2147483648) 2147483647 f) (hPi2 : ∀ f, Pi2 f → ivP 48 (-2147483648) 2147483647 f) (hPi3 : ∀ f, Pi3 f → ivP 48 (-2147483648) 2147483647 f) (hPi4 : ∀ f, Pi4 f → ivP 48 (-2147483648) 2147483647 f) : TcV E yX0_open cX0_open 4 ({ frames := 3, cells := 0, slots := 0, locals := 83 }) [.ref a0, .ref a1, .ref a2] (fun H => TH E (tbC (dayD (.inl (0, 18))) dB (riverD (.inl Fa1) (.inl Fb1) (.inl (0, 4)) 31 33 35 39 43 47) (riverD (.inl Fa2) (.inl Fb2) (.inl (0, 4)) 32 34 36 40 44 48) rc rd tp A14F A14F A4F A4F A14F A14F (riverD (.inl Fa3) (.inl Fb3) (.inl (0, 4)) 3 8 3 41 45 49) (riverD (.inl Fa4) (.inl Fb4) (.inl (0, 4)) 3 8 3 42 46 50) ((.inr (.inl (0, 12, Pd1)))) ((.inr (.inl (0, 12, Pd2)))) ((.inr (.inl (0, 12, Pd3)))) ((.inr (.inl (0, 12, Pd4)))) ((.inr (.inl (0, 12, Ps1)))) ((.inr (.inl (0, 12, Ps2)))) ((.inr (.inl (0, 12, Ps3)))) ((.inr (.inl (0, 12, Ps4)))) ((.inr (.inl (0, 48, Pi1)))) ((.inr (.inl (0, 48, Pi2)))) ((.inr (.inl (0, 48, Pi3)))) ((.inr (.inl (0, 48, Pi4))))) H) (fun H => TH E (tbC (dayD (.inl (0, 18))) dB (riverD (.inl Fa1) (.inl Fb1) (.inl (0, 4)) 31 33 35 39 43 47) (riverD (.inl Fa2) (.inl Fb2) (.inl (0, 4)) 32 34 36 40 44 48) rc rd tp A14F A14F A4F A4F A14F A14F (riverD (.inl Fa3) (.inl Fb3) (.inl (0, 4)) 3 8 3 41 45 49) (riverD (.inl Fa4) (.inl Fb4) (.inl (0, 4)) 3 8 3 42 46 50) ((.inr (.inl (0, 12, Pd1)))) ((.inr (.inl (0, 12, Pd2)))) ((.inr (.inl (0, 12, Pd3)))) ((.inr (.inl (0, 12, Pd4)))) ((.inr (.inl (0, 12, Ps1)))) ((.inr (.inl (0, 12, Ps2)))) ((.inr (.inl (0, 12, Ps3)))) ((.inr (.inl (0, 12, Ps4)))) ((.inr (.inl (0, 48, Pi1)))) ((.inr (.inl (0, 48, Pi2)))) ((.inr (.inl (0, 48, Pi3)))) ((.inr (.inl (0, 48, Pi4))))) H) := by
  refine teV (by decide) (Nat.le_of_ble_eq_true rfl) ?_
  intro p_ ev_ s mi_ below_ meth cd_ ls F hK hN hO hH hS hl
  have hH : TH E (tbC (dayD (.inl (0, 18))) dB (riverD (.inl Fa1) (.inl Fb1) (.inl (0, 4)) 31 33 35 39 43 47) (riverD (.inl Fa2) (.inl Fb2) (.inl (0, 4)) 32 34 36 40 44 48) rc rd tp A14F A14F A4F A4F A14F A14F (riverD (.inl Fa3) (.inl Fb3) (.inl (0, 4)) 3 8 3 41 45 49) (riverD (.inl Fa4) (.inl Fb4) (.inl (0, 4)) 3 8 3 42 46 50) ((.inr (.inl (0, 12, Pd1)))) ((.inr (.inl (0, 12, Pd2)))) ((.inr (.inl (0, 12, Pd3)))) ((.inr (.inl (0, 12, Pd4)))) ((.inr (.inl (0, 12, Ps1)))) ((.inr (.inl (0, 12, Ps2)))) ((.inr (.inl (0, 12, Ps3)))) ((.inr (.inl (0, 12, Ps4)))) ((.inr (.inl (0, 48, Pi1)))) ((.inr (.inl (0, 48, Pi2)))) ((.inr (.inl (0, 48, Pi3)))) ((.inr (.inl (0, 48, Pi4))))) s.heap := hH
  have hl : lv_has ls 4 [(0, .ref a0), (1, .ref a1), (2, .ref a2)] := hl
  refine lv_aload_n F.1 F.2.1 dX0_open_0 rfl (lv_at hl 0 rfl) ?_
  refine lv_aload_n F.1 F.2.1 dX0_open_1 rfl (lv_at hl 1 rfl) ?_
  refine tPut (j := 0) F hK hH hS (tyb ha0 (all1 rfl)) rfl (fdR ha1) clX0 (by decide) wd_4_23 rfl rfl rfl rfl dX0_open_2 (fun H locs hH hS => ?_)
  refine lv_aload_n F.1 F.2.1 dX0_open_5 rfl (lv_at hl 0 rfl) ?_
  refine lv_aload_n F.1 F.2.1 dX0_open_6 rfl (lv_at hl 2 rfl) ?_
  refine tPut (j := 1) F hK hH hS (tyb ha0 (all1 rfl)) rfl (fdR ha2) clX0 (by decide) wd_5_0 rfl rfl rfl rfl dX0_open_7 (fun H locs hH hS => ?_)
  refine lv_aload_n F.1 F.2.1 dX0_open_10 rfl (lv_at hl 0 rfl) ?_
  refine lv_iconst (v := 0) F.1 F.2.1 dX0_open_11 (by decide) ?_
  refine topK (a := 0) (by decide) (fun k_1 hk_1 => ?_)
  refine tPutG (j := 3) (t := 24) (fd := (.inl (0, 0))) F hK hH hS (List.mem_singleton.mp ha0) (by decide) rfl rfl (fdI (by omega)) (TB1 := (tbC (dayD (.inl (0, 0))) dB (riverD (.inl Fa1) (.inl Fb1) (.inl (0, 4)) 31 33 35 39 43 47) (riverD (.inl Fa2) (.inl Fb2) (.inl (0, 4)) 32 34 36 40 44 48) rc rd tp A14F A14F A4F A4F A14F A14F (riverD (.inl Fa3) (.inl Fb3) (.inl (0, 4)) 3 8 3 41 45 49) (riverD (.inl Fa4) (.inl Fb4) (.inl (0, 4)) 3 8 3 42 46 50) ((.inr (.inl (0, 12, Pd1)))) ((.inr (.inl (0, 12, Pd2)))) ((.inr (.inl (0, 12, Pd3)))) ((.inr (.inl (0, 12, Pd4)))) ((.inr (.inl (0, 12, Ps1)))) ((.inr (.inl (0, 12, Ps2)))) ((.inr (.inl (0, 12, Ps3)))) ((.inr (.inl (0, 12, Ps4)))) ((.inr (.inl (0, 48, Pi1)))) ((.inr (.inl (0, 48, Pi2)))) ((.inr (.inl (0, 48, Pi3)))) ((.inr (.inl (0, 48, Pi4)))))) rfl clX0 (by decide) wd_20_3 rfl rfl rfl rfl dX0_open_12 (fun H locs hH hS => ?_)
  refine lv_iconst (v := 0) F.1 F.2.1 dX0_open_15 (by decide) ?_
  refine topK (a := 0) (by decide) (fun k_2 hk_2 => ?_)
  refine lv_istore_n (lv' := [(3, .int k_2), (0, .ref a0), (1, .ref a1), (2, .ref a2)]) F.1 F.2.1 dX0_open_16 rfl hl (by decide) rfl (fun ls hl => ?_)
  refine wloop (σ := Int32 × Int) (fun n9 x9 H locs ls => (14 - x9.1.toInt + 1).toNat < n9 ∧ (0 ≤ x9.1.toInt ∧ x9.1.toInt ≤ 14) ∧ (0 ≤ x9.2 ∧ x9.2 ≤ 14) ∧ (x9.2 ≤ x9.1.toInt) ∧ TH E (tbC (dayD (.inl (x9.2, x9.2))) dB (riverD (.inl Fa1) (.inl Fb1) (.inl (0, 4)) 31 33 35 39 43 47) (riverD (.inl Fa2) (.inl Fb2) (.inl (0, 4)) 32 34 36 40 44 48) rc rd tp A14F A14F A4F A4F A14F A14F (riverD (.inl Fa3) (.inl Fb3) (.inl (0, 4)) 3 8 3 41 45 49) (riverD (.inl Fa4) (.inl Fb4) (.inl (0, 4)) 3 8 3 42 46 50) ((.inr (.inl (0, 12, Pd1)))) ((.inr (.inl (0, 12, Pd2)))) ((.inr (.inl (0, 12, Pd3)))) ((.inr (.inl (0, 12, Pd4)))) ((.inr (.inl (0, 12, Ps1)))) ((.inr (.inl (0, 12, Ps2)))) ((.inr (.inl (0, 12, Ps3)))) ((.inr (.inl (0, 12, Ps4)))) ((.inr (.inl (0, 48, Pi1)))) ((.inr (.inl (0, 48, Pi2)))) ((.inr (.inl (0, 48, Pi3)))) ((.inr (.inl (0, 48, Pi4))))) H ∧ va_S (eA E s.heap.size) s.heap H locs ∧ lv_has ls 4 [(0, .ref a0), (1, .ref a1), (2, .ref a2), (3, .int x9.1)]) ?_ (fun x9 H locs ls h => absurd h.1 (Nat.not_lt_zero _)) _ (k_2, 0) ⟨Nat.lt_succ_self _, (wkb (eqb hk_2) rfl rfl), (show 0 ≤ 0 ∧ 0 ≤ 14 from by omega), (show 0 ≤ k_2.toInt from by omega), hH, hS, lv_sub hl [1, 2, 3, 0] rfl⟩
  intro n_17 ih_17 ⟨u_3, g_4⟩ H locs ls ⟨hm_17, hu_3, hg_4, hcr17_0, hH, hS, hl⟩
  have hm_17 : (14 - u_3.toInt + 1).toNat < n_17 + 1 := hm_17
  have hu_3 : (0 ≤ u_3.toInt ∧ u_3.toInt ≤ 14) := hu_3
  have hg_4 : (0 ≤ g_4 ∧ g_4 ≤ 14) := hg_4
  have hcr17_0 : (g_4 ≤ u_3.toInt) := hcr17_0
  have hH : TH E (tbC (dayD (.inl (g_4, g_4))) dB (riverD (.inl Fa1) (.inl Fb1) (.inl (0, 4)) 31 33 35 39 43 47) (riverD (.inl Fa2) (.inl Fb2) (.inl (0, 4)) 32 34 36 40 44 48) rc rd tp A14F A14F A4F A4F A14F A14F (riverD (.inl Fa3) (.inl Fb3) (.inl (0, 4)) 3 8 3 41 45 49) (riverD (.inl Fa4) (.inl Fb4) (.inl (0, 4)) 3 8 3 42 46 50) ((.inr (.inl (0, 12, Pd1)))) ((.inr (.inl (0, 12, Pd2)))) ((.inr (.inl (0, 12, Pd3)))) ((.inr (.inl (0, 12, Pd4)))) ((.inr (.inl (0, 12, Ps1)))) ((.inr (.inl (0, 12, Ps2)))) ((.inr (.inl (0, 12, Ps3)))) ((.inr (.inl (0, 12, Ps4)))) ((.inr (.inl (0, 48, Pi1)))) ((.inr (.inl (0, 48, Pi2)))) ((.inr (.inl (0, 48, Pi3)))) ((.inr (.inl (0, 48, Pi4))))) H := hH
  have hl : lv_has ls 4 [(0, .ref a0), (1, .ref a1), (2, .ref a2), (3, .int u_3)] := hl
  refine lv_iload_n F.1 F.2.1 dX0_open_17 rfl (lv_at hl 3 rfl) ?_
  refine lv_aload_n F.1 F.2.1 dX0_open_18 rfl (lv_at hl 1 rfl) ?_
  refine tGetIB (j := 4) (lo := 0) (hi := 14) F hK hH ha1 (alls ⟨_, _, rfl, rfl, by have h9_ := hFb1; omega⟩ (alls1 ⟨_, _, rfl, rfl, by have h9_ := hFb2; omega⟩)) clX2 (by decide) wd_20_4 dX0_open_19 (fun z_5 hz_5 => ?_)
  refine b_ge (tgt := 48) F dX0_open_22 (by decide) (fun c_6 => ?_) (fun c_6 => ?_)
  · skip
    refine lv_iconst (v := 0) F.1 F.2.1 dX0_open_48 (by decide) ?_
    refine topK (a := 0) (by decide) (fun k_9 hk_9 => ?_)
    refine lv_istore_n (lv' := [(3, .int k_9), (0, .ref a0), (1, .ref a1), (2, .ref a2)]) F.1 F.2.1 dX0_open_49 rfl hl (by decide) rfl (fun ls hl => ?_)
    refine wloop (σ := Int32 × Int) (fun n9 x9 H locs ls => (4 - x9.1.toInt + 1).toNat < n9 ∧ (0 ≤ x9.1.toInt ∧ x9.1.toInt ≤ 4) ∧ (0 ≤ x9.2 ∧ x9.2 ≤ 18) ∧ (x9.2 ≤ x9.1.toInt + 14) ∧ TH E (tbC (dayD (.inl (x9.2, x9.2))) dB (riverD (.inl Fa1) (.inl Fb1) (.inl (0, 4)) 31 33 35 39 43 47) (riverD (.inl Fa2) (.inl Fb2) (.inl (0, 4)) 32 34 36 40 44 48) rc rd tp A14F A14F A4F A4F A14F A14F (riverD (.inl Fa3) (.inl Fb3) (.inl (0, 4)) 3 8 3 41 45 49) (riverD (.inl Fa4) (.inl Fb4) (.inl (0, 4)) 3 8 3 42 46 50) ((.inr (.inl (0, 12, Pd1)))) ((.inr (.inl (0, 12, Pd2)))) ((.inr (.inl (0, 12, Pd3)))) ((.inr (.inl (0, 12, Pd4)))) ((.inr (.inl (0, 12, Ps1)))) ((.inr (.inl (0, 12, Ps2)))) ((.inr (.inl (0, 12, Ps3)))) ((.inr (.inl (0, 12, Ps4)))) ((.inr (.inl (0, 48, Pi1)))) ((.inr (.inl (0, 48, Pi2)))) ((.inr (.inl (0, 48, Pi3)))) ((.inr (.inl (0, 48, Pi4))))) H ∧ va_S (eA E s.heap.size) s.heap H locs ∧ lv_has ls 4 [(0, .ref a0), (1, .ref a1), (3, .int x9.1)]) ?_ (fun x9 H locs ls h => absurd h.1 (Nat.not_lt_zero _)) _ (k_9, g_4) ⟨Nat.lt_succ_self _, (wkb (eqb hk_9) rfl rfl), (show 0 ≤ g_4 ∧ g_4 ≤ 18 from by omega), (show g_4 ≤ k_9.toInt + 14 from by omega), hH, hS, lv_sub hl [1, 2, 0] rfl⟩
    intro n_50 ih_50 ⟨u_10, g_11⟩ H locs ls ⟨hm_50, hu_10, hg_11, hcr50_0, hH, hS, hl⟩
    have hm_50 : (4 - u_10.toInt + 1).toNat < n_50 + 1 := hm_50
    have hu_10 : (0 ≤ u_10.toInt ∧ u_10.toInt ≤ 4) := hu_10
    have hg_11 : (0 ≤ g_11 ∧ g_11 ≤ 18) := hg_11
    have hcr50_0 : (g_11 ≤ u_10.toInt + 14) := hcr50_0
    have hH : TH E (tbC (dayD (.inl (g_11, g_11))) dB (riverD (.inl Fa1) (.inl Fb1) (.inl (0, 4)) 31 33 35 39 43 47) (riverD (.inl Fa2) (.inl Fb2) (.inl (0, 4)) 32 34 36 40 44 48) rc rd tp A14F A14F A4F A4F A14F A14F (riverD (.inl Fa3) (.inl Fb3) (.inl (0, 4)) 3 8 3 41 45 49) (riverD (.inl Fa4) (.inl Fb4) (.inl (0, 4)) 3 8 3 42 46 50) ((.inr (.inl (0, 12, Pd1)))) ((.inr (.inl (0, 12, Pd2)))) ((.inr (.inl (0, 12, Pd3)))) ((.inr (.inl (0, 12, Pd4)))) ((.inr (.inl (0, 12, Ps1)))) ((.inr (.inl (0, 12, Ps2)))) ((.inr (.inl (0, 12, Ps3)))) ((.inr (.inl (0, 12, Ps4)))) ((.inr (.inl (0, 48, Pi1)))) ((.inr (.inl (0, 48, Pi2)))) ((.inr (.inl (0, 48, Pi3)))) ((.inr (.inl (0, 48, Pi4))))) H := hH
    have hl : lv_has ls 4 [(0, .ref a0), (1, .ref a1), (3, .int u_10)] := hl
    refine lv_iload_n F.1 F.2.1 dX0_open_50 rfl (lv_at hl 2 rfl) ?_
    refine lv_aload_n F.1 F.2.1 dX0_open_51 rfl (lv_at hl 1 rfl) ?_
    refine tGetIM (j := 14) F hK hH ha1 (alls ⟨_, rfl, rfl⟩ (alls1 ⟨_, rfl, rfl⟩)) clX2 (by decide) wd_20_6 dX0_open_52 (fun z_12 hz_12 => ?_)
    refine b_ge (tgt := 87) F dX0_open_55 (by decide) (fun c_13 => ?_) (fun c_13 => ?_)
    · skip
      exact txV F hS dX0_open_87 ((TH.loose (t := 24) (TB1 := (tbC (dayD (.inl (0, 18))) dB (riverD (.inl Fa1) (.inl Fb1) (.inl (0, 4)) 31 33 35 39 43 47) (riverD (.inl Fa2) (.inl Fb2) (.inl (0, 4)) 32 34 36 40 44 48) rc rd tp A14F A14F A4F A4F A14F A14F (riverD (.inl Fa3) (.inl Fb3) (.inl (0, 4)) 3 8 3 41 45 49) (riverD (.inl Fa4) (.inl Fb4) (.inl (0, 4)) 3 8 3 42 46 50) ((.inr (.inl (0, 12, Pd1)))) ((.inr (.inl (0, 12, Pd2)))) ((.inr (.inl (0, 12, Pd3)))) ((.inr (.inl (0, 12, Pd4)))) ((.inr (.inl (0, 12, Ps1)))) ((.inr (.inl (0, 12, Ps2)))) ((.inr (.inl (0, 12, Ps3)))) ((.inr (.inl (0, 12, Ps4)))) ((.inr (.inl (0, 48, Pi1)))) ((.inr (.inl (0, 48, Pi2)))) ((.inr (.inl (0, 48, Pi3)))) ((.inr (.inl (0, 48, Pi4)))))) hH rfl (tcLoose (j := 3) rfl (by omega)) rfl))
    · skip
      have r_14 : 0 ≤ u_10.toInt ∧ u_10.toInt ≤ 3 := by have h9_ := hu_10; omega
      have r_15 : 1 ≤ z_12.toInt ∧ z_12.toInt ≤ 4 := by have h9_ := hz_12; omega
      refine lv_aload_n F.1 F.2.1 dX0_open_58 rfl (lv_at hl 0 rfl) ?_
      refine tGetR (j := 4) F hK hH (tyb ha0 (all1 rfl)) rfl (all1 rfl) clX0 (by decide) wd_4_13 dX0_open_59 (fun q_16 hq_16 _ => ?_)
      refine lv_bipush (v := 14) F.1 F.2.1 dX0_open_62 (by decide) ?_
      refine topK (a := 14) (by decide) (fun k_17 hk_17 => ?_)
      refine lv_iload_n F.1 F.2.1 dX0_open_64 rfl (lv_at hl 2 rfl) ?_
      refine tAdd (lo := 14) (hi := 17) F dX0_open_65 (eqb hk_17) r_14 rfl (fun z_18 hz_18 => ?_)
      refine lv_aload_n F.1 F.2.1 dX0_open_66 rfl (lv_at hl 1 rfl) ?_
      refine tGetRM (j := 15) (L := [9]) F hK hH ha1 (alls ⟨_, _, rfl, rfl, by decide⟩ (alls1 ⟨_, _, rfl, rfl, by decide⟩)) (all1 rfl) clX2 (by decide) wd_20_7 dX0_open_67 (fun q_19 hq_19 _ => ?_)
      refine lv_iload_n F.1 F.2.1 dX0_open_70 rfl (lv_at hl 2 rfl) ?_
      refine tIaldB F hK hH (tyb hq_19 (all1 rfl)) (ixb (n := 4) r_14 rfl rfl) dX0_open_71 (fun z_20 hz_20 => ?_)
      refine tIastB F hK hH hS (tyb hq_16 (all1 rfl)) (ixb (n := 18) hz_18.2 rfl rfl) hz_20 dX0_open_72 (fun H locs hH hS => ?_)
      refine lv_aload_n F.1 F.2.1 dX0_open_73 rfl (lv_at hl 0 rfl) ?_
      refine lv_bipush (v := 14) F.1 F.2.1 dX0_open_74 (by decide) ?_
      refine topK (a := 14) (by decide) (fun k_21 hk_21 => ?_)
      refine lv_iload_n F.1 F.2.1 dX0_open_76 rfl (lv_at hl 2 rfl) ?_
      refine tAdd (lo := 14) (hi := 17) F dX0_open_77 (eqb hk_21) r_14 rfl (fun z_22 hz_22 => ?_)
      refine tVv (b := a0) (As := [.int z_22]) (rest := []) F hK hN hO (c_X0_enqueue_A E dB rc rd tp Fa1 Fb1 Fa2 Fb2 Fa3 Fb3 Fa4 Fb4 Pd1 Pd2 Pd3 Pd4 Ps1 Ps2 Ps3 Ps4 Pi1 Pi2 Pi3 Pi4 g_11 a0 z_22 ha0 (wkb hz_22.2 rfl rfl) (by omega) hFa1 hFb1 hFa2 hFb2 hFa3 hFb3 hFa4 hFb4 hPd1 hPd2 hPd3 hPd4 hPs1 hPs2 hPs3 hPs4 hPi1 hPi2 hPi3 hPi4) mv_X0_enqueue wd_20_8 ⟨Nat.le_of_ble_eq_true rfl, Nat.le_of_ble_eq_true rfl⟩ ⟨Nat.le_of_ble_eq_true rfl, Nat.le_of_ble_eq_true rfl⟩ hH hS (tRecv hK hH (tyb ha0 (all1 rfl)) clX0) rfl hl.1 (Nat.le_of_ble_eq_true rfl) dX0_open_78 (fun H locs hq hS => ?_)
      have hH := hq
      have hH : TH E (tbC (dayD (.inl ((g_11 + 1), (g_11 + 1)))) dB (riverD (.inl Fa1) (.inl Fb1) (.inl (0, 4)) 31 33 35 39 43 47) (riverD (.inl Fa2) (.inl Fb2) (.inl (0, 4)) 32 34 36 40 44 48) rc rd tp A14F A14F A4F A4F A14F A14F (riverD (.inl Fa3) (.inl Fb3) (.inl (0, 4)) 3 8 3 41 45 49) (riverD (.inl Fa4) (.inl Fb4) (.inl (0, 4)) 3 8 3 42 46 50) ((.inr (.inl (0, 12, Pd1)))) ((.inr (.inl (0, 12, Pd2)))) ((.inr (.inl (0, 12, Pd3)))) ((.inr (.inl (0, 12, Pd4)))) ((.inr (.inl (0, 12, Ps1)))) ((.inr (.inl (0, 12, Ps2)))) ((.inr (.inl (0, 12, Ps3)))) ((.inr (.inl (0, 12, Ps4)))) ((.inr (.inl (0, 48, Pi1)))) ((.inr (.inl (0, 48, Pi2)))) ((.inr (.inl (0, 48, Pi3)))) ((.inr (.inl (0, 48, Pi4))))) H := hH
      obtain ⟨x_24, ex_24, hx_24⟩ := iincB (c := 1) (lo := 1) (hi := 4) r_14 rfl
      refine lv_iinc (v := x_24) (lv' := [(3, .int x_24), (0, .ref a0), (1, .ref a1)]) F.1 F.2.1 dX0_open_81 hl (k := 2) rfl ex_24 (by decide) rfl (fun ls hl => ?_)
      refine lv_goto (tgt := 50) F.1 F.2.1 dX0_open_84 (by decide) ?_
      exact ih_50 (x_24, (g_11 + 1)) _ _ _ ⟨(show (4 - x_24.toInt + 1).toNat < n_50 from by omega), (wkb hx_24.2 rfl rfl), (show 0 ≤ (g_11 + 1) ∧ (g_11 + 1) ≤ 18 from by omega), (show (g_11 + 1) ≤ x_24.toInt + 14 from by omega), hH, hS, lv_sub hl [1, 2, 0] rfl⟩
  · skip
    have r_7 : 0 ≤ u_3.toInt ∧ u_3.toInt ≤ 13 := by have h9_ := hu_3; omega
    have r_8 : 1 ≤ z_5.toInt ∧ z_5.toInt ≤ 14 := by have h9_ := hz_5; omega
    refine lv_aload_n F.1 F.2.1 dX0_open_25 rfl (lv_at hl 0 rfl) ?_
    refine tGetR (j := 4) F hK hH (tyb ha0 (all1 rfl)) rfl (all1 rfl) clX0 (by decide) wd_4_13 dX0_open_26 (fun q_25 hq_25 _ => ?_)
    refine lv_iload_n F.1 F.2.1 dX0_open_29 rfl (lv_at hl 3 rfl) ?_
    refine lv_aload_n F.1 F.2.1 dX0_open_30 rfl (lv_at hl 2 rfl) ?_
    refine tGetR (j := 2) F hK hH (tyb ha2 (all1 rfl)) rfl (all1 rfl) clX5 (by decide) wd_20_5 dX0_open_31 (fun q_26 hq_26 _ => ?_)
    refine lv_iload_n F.1 F.2.1 dX0_open_34 rfl (lv_at hl 3 rfl) ?_
    refine tIaldB F hK hH (tyb hq_26 (all1 rfl)) (ixb (n := 14) r_7 rfl rfl) dX0_open_35 (fun z_27 hz_27 => ?_)
    refine tIastB F hK hH hS (tyb hq_25 (all1 rfl)) (ixb (n := 18) r_7 rfl rfl) hz_27 dX0_open_36 (fun H locs hH hS => ?_)
    refine lv_aload_n F.1 F.2.1 dX0_open_37 rfl (lv_at hl 0 rfl) ?_
    refine lv_iload_n F.1 F.2.1 dX0_open_38 rfl (lv_at hl 3 rfl) ?_
    refine tVv (b := a0) (As := [.int u_3]) (rest := []) F hK hN hO (c_X0_enqueue_A E dB rc rd tp Fa1 Fb1 Fa2 Fb2 Fa3 Fb3 Fa4 Fb4 Pd1 Pd2 Pd3 Pd4 Ps1 Ps2 Ps3 Ps4 Pi1 Pi2 Pi3 Pi4 g_4 a0 u_3 ha0 (wkb r_7 rfl rfl) (by omega) hFa1 hFb1 hFa2 hFb2 hFa3 hFb3 hFa4 hFb4 hPd1 hPd2 hPd3 hPd4 hPs1 hPs2 hPs3 hPs4 hPi1 hPi2 hPi3 hPi4) mv_X0_enqueue wd_20_8 ⟨Nat.le_of_ble_eq_true rfl, Nat.le_of_ble_eq_true rfl⟩ ⟨Nat.le_of_ble_eq_true rfl, Nat.le_of_ble_eq_true rfl⟩ hH hS (tRecv hK hH (tyb ha0 (all1 rfl)) clX0) rfl hl.1 (Nat.le_of_ble_eq_true rfl) dX0_open_39 (fun H locs hq hS => ?_)
    have hH := hq
    have hH : TH E (tbC (dayD (.inl ((g_4 + 1), (g_4 + 1)))) dB (riverD (.inl Fa1) (.inl Fb1) (.inl (0, 4)) 31 33 35 39 43 47) (riverD (.inl Fa2) (.inl Fb2) (.inl (0, 4)) 32 34 36 40 44 48) rc rd tp A14F A14F A4F A4F A14F A14F (riverD (.inl Fa3) (.inl Fb3) (.inl (0, 4)) 3 8 3 41 45 49) (riverD (.inl Fa4) (.inl Fb4) (.inl (0, 4)) 3 8 3 42 46 50) ((.inr (.inl (0, 12, Pd1)))) ((.inr (.inl (0, 12, Pd2)))) ((.inr (.inl (0, 12, Pd3)))) ((.inr (.inl (0, 12, Pd4)))) ((.inr (.inl (0, 12, Ps1)))) ((.inr (.inl (0, 12, Ps2)))) ((.inr (.inl (0, 12, Ps3)))) ((.inr (.inl (0, 12, Ps4)))) ((.inr (.inl (0, 48, Pi1)))) ((.inr (.inl (0, 48, Pi2)))) ((.inr (.inl (0, 48, Pi3)))) ((.inr (.inl (0, 48, Pi4))))) H := hH
    obtain ⟨x_29, ex_29, hx_29⟩ := iincB (c := 1) (lo := 1) (hi := 14) r_7 rfl
    refine lv_iinc (v := x_29) (lv' := [(3, .int x_29), (0, .ref a0), (1, .ref a1), (2, .ref a2)]) F.1 F.2.1 dX0_open_42 hl (k := 3) rfl ex_29 (by decide) rfl (fun ls hl => ?_)
    refine lv_goto (tgt := 17) F.1 F.2.1 dX0_open_45 (by decide) ?_
    exact ih_17 (x_29, (g_4 + 1)) _ _ _ ⟨(show (14 - x_29.toInt + 1).toNat < n_17 from by omega), (wkb hx_29.2 rfl rfl), (show 0 ≤ (g_4 + 1) ∧ (g_4 + 1) ≤ 14 from by omega), (show (g_4 + 1) ≤ x_29.toInt from by omega), hH, hS, lv_sub hl [1, 2, 3, 0] rfl⟩
set_option maxHeartbeats 4000000 in
set_option maxRecDepth 100000 in
theorem c_X0_open_B (E : Ev) (dA : TD) (rc : TD) (rd : TD) (tp : TD) (Fa1 : Int × Int) (Fb1 : Int × Int) (Fa2 : Int × Int) (Fb2 : Int × Int) (Fa3 : Int × Int) (Fb3 : Int × Int) (Fa4 : Int × Int) (Fb4 : Int × Int) (Pd1 : (Nat → Int32) → Prop) (Pd2 : (Nat → Int32) → Prop) (Pd3 : (Nat → Int32) → Prop) (Pd4 : (Nat → Int32) → Prop) (Ps1 : (Nat → Int32) → Prop) (Ps2 : (Nat → Int32) → Prop) (Ps3 : (Nat → Int32) → Prop) (Ps4 : (Nat → Int32) → Prop) (Pi1 : (Nat → Int32) → Prop) (Pi2 : (Nat → Int32) → Prop) (Pi3 : (Nat → Int32) → Prop) (Pi4 : (Nat → Int32) → Prop) (a0 : Nat) (a1 : Nat) (a2 : Nat) (ha0 : eT E a0 ∈ [25]) (ha1 : eT E a1 ∈ [26, 27]) (ha2 : eT E a2 ∈ [17]) (hFa1 : 0 ≤ Fa1.1 ∧ Fa1.2 ≤ 12) (hFb1 : 0 ≤ Fb1.1 ∧ Fb1.2 ≤ 14) (hFa2 : 0 ≤ Fa2.1 ∧ Fa2.2 ≤ 12) (hFb2 : 0 ≤ Fb2.1 ∧ Fb2.2 ≤ 14) (hFa3 : 0 ≤ Fa3.1 ∧ Fa3.2 ≤ 12) (hFb3 : 0 ≤ Fb3.1 ∧ Fb3.2 ≤ 14) (hFa4 : 0 ≤ Fa4.1 ∧ Fa4.2 ≤ 12) (hFb4 : 0 ≤ Fb4.1 ∧ Fb4.2 ≤ 14) (hPd1 : ∀ f, Pd1 f → ivP 12 (-2) 11 f) (hPd2 : ∀ f, Pd2 f → ivP 12 (-2) 11 f) (hPd3 : ∀ f, Pd3 f → ivP 12 (-2) 11 f) (hPd4 : ∀ f, Pd4 f → ivP 12 (-2) 11 f) (hPs1 : ∀ f, Ps1 f → ivP 12 (-2147483648) 2147483647 f) (hPs2 : ∀ f, Ps2 f → ivP 12 (-2147483648) 2147483647 f) (hPs3 : ∀ f, Ps3 f → ivP 12 (-2147483648) 2147483647 f) (hPs4 : ∀ f, Ps4 f → ivP 12 (-2147483648) 2147483647 f) (hPi1 : ∀ f, Pi1 f → ivP 48 (-2147483648) 2147483647 f) (hPi2 : ∀ f, Pi2 f → ivP 48 (-2147483648) 2147483647 f) (hPi3 : ∀ f, Pi3 f → ivP 48 (-2147483648) 2147483647 f) (hPi4 : ∀ f, Pi4 f → ivP 48 (-2147483648) 2147483647 f) : TcV E yX0_open cX0_open 4 ({ frames := 3, cells := 0, slots := 0, locals := 83 }) [.ref a0, .ref a1, .ref a2] (fun H => TH E (tbC dA (dayD (.inl (0, 18))) (riverD (.inl Fa1) (.inl Fb1) (.inl (0, 4)) 31 33 35 39 43 47) (riverD (.inl Fa2) (.inl Fb2) (.inl (0, 4)) 32 34 36 40 44 48) rc rd tp A14F A14F A4F A4F A14F A14F (riverD (.inl Fa3) (.inl Fb3) (.inl (0, 4)) 3 8 3 41 45 49) (riverD (.inl Fa4) (.inl Fb4) (.inl (0, 4)) 3 8 3 42 46 50) ((.inr (.inl (0, 12, Pd1)))) ((.inr (.inl (0, 12, Pd2)))) ((.inr (.inl (0, 12, Pd3)))) ((.inr (.inl (0, 12, Pd4)))) ((.inr (.inl (0, 12, Ps1)))) ((.inr (.inl (0, 12, Ps2)))) ((.inr (.inl (0, 12, Ps3)))) ((.inr (.inl (0, 12, Ps4)))) ((.inr (.inl (0, 48, Pi1)))) ((.inr (.inl (0, 48, Pi2)))) ((.inr (.inl (0, 48, Pi3)))) ((.inr (.inl (0, 48, Pi4))))) H) (fun H => TH E (tbC dA (dayD (.inl (0, 18))) (riverD (.inl Fa1) (.inl Fb1) (.inl (0, 4)) 31 33 35 39 43 47) (riverD (.inl Fa2) (.inl Fb2) (.inl (0, 4)) 32 34 36 40 44 48) rc rd tp A14F A14F A4F A4F A14F A14F (riverD (.inl Fa3) (.inl Fb3) (.inl (0, 4)) 3 8 3 41 45 49) (riverD (.inl Fa4) (.inl Fb4) (.inl (0, 4)) 3 8 3 42 46 50) ((.inr (.inl (0, 12, Pd1)))) ((.inr (.inl (0, 12, Pd2)))) ((.inr (.inl (0, 12, Pd3)))) ((.inr (.inl (0, 12, Pd4)))) ((.inr (.inl (0, 12, Ps1)))) ((.inr (.inl (0, 12, Ps2)))) ((.inr (.inl (0, 12, Ps3)))) ((.inr (.inl (0, 12, Ps4)))) ((.inr (.inl (0, 48, Pi1)))) ((.inr (.inl (0, 48, Pi2)))) ((.inr (.inl (0, 48, Pi3)))) ((.inr (.inl (0, 48, Pi4))))) H) := by
  refine teV (by decide) (Nat.le_of_ble_eq_true rfl) ?_
  intro p_ ev_ s mi_ below_ meth cd_ ls F hK hN hO hH hS hl
  have hH : TH E (tbC dA (dayD (.inl (0, 18))) (riverD (.inl Fa1) (.inl Fb1) (.inl (0, 4)) 31 33 35 39 43 47) (riverD (.inl Fa2) (.inl Fb2) (.inl (0, 4)) 32 34 36 40 44 48) rc rd tp A14F A14F A4F A4F A14F A14F (riverD (.inl Fa3) (.inl Fb3) (.inl (0, 4)) 3 8 3 41 45 49) (riverD (.inl Fa4) (.inl Fb4) (.inl (0, 4)) 3 8 3 42 46 50) ((.inr (.inl (0, 12, Pd1)))) ((.inr (.inl (0, 12, Pd2)))) ((.inr (.inl (0, 12, Pd3)))) ((.inr (.inl (0, 12, Pd4)))) ((.inr (.inl (0, 12, Ps1)))) ((.inr (.inl (0, 12, Ps2)))) ((.inr (.inl (0, 12, Ps3)))) ((.inr (.inl (0, 12, Ps4)))) ((.inr (.inl (0, 48, Pi1)))) ((.inr (.inl (0, 48, Pi2)))) ((.inr (.inl (0, 48, Pi3)))) ((.inr (.inl (0, 48, Pi4))))) s.heap := hH
  have hl : lv_has ls 4 [(0, .ref a0), (1, .ref a1), (2, .ref a2)] := hl
  refine lv_aload_n F.1 F.2.1 dX0_open_0 rfl (lv_at hl 0 rfl) ?_
  refine lv_aload_n F.1 F.2.1 dX0_open_1 rfl (lv_at hl 1 rfl) ?_
  refine tPut (j := 0) F hK hH hS (tyb ha0 (all1 rfl)) rfl (fdR ha1) clX0 (by decide) wd_4_23 rfl rfl rfl rfl dX0_open_2 (fun H locs hH hS => ?_)
  refine lv_aload_n F.1 F.2.1 dX0_open_5 rfl (lv_at hl 0 rfl) ?_
  refine lv_aload_n F.1 F.2.1 dX0_open_6 rfl (lv_at hl 2 rfl) ?_
  refine tPut (j := 1) F hK hH hS (tyb ha0 (all1 rfl)) rfl (fdR ha2) clX0 (by decide) wd_5_0 rfl rfl rfl rfl dX0_open_7 (fun H locs hH hS => ?_)
  refine lv_aload_n F.1 F.2.1 dX0_open_10 rfl (lv_at hl 0 rfl) ?_
  refine lv_iconst (v := 0) F.1 F.2.1 dX0_open_11 (by decide) ?_
  refine topK (a := 0) (by decide) (fun k_1 hk_1 => ?_)
  refine tPutG (j := 3) (t := 25) (fd := (.inl (0, 0))) F hK hH hS (List.mem_singleton.mp ha0) (by decide) rfl rfl (fdI (by omega)) (TB1 := (tbC dA (dayD (.inl (0, 0))) (riverD (.inl Fa1) (.inl Fb1) (.inl (0, 4)) 31 33 35 39 43 47) (riverD (.inl Fa2) (.inl Fb2) (.inl (0, 4)) 32 34 36 40 44 48) rc rd tp A14F A14F A4F A4F A14F A14F (riverD (.inl Fa3) (.inl Fb3) (.inl (0, 4)) 3 8 3 41 45 49) (riverD (.inl Fa4) (.inl Fb4) (.inl (0, 4)) 3 8 3 42 46 50) ((.inr (.inl (0, 12, Pd1)))) ((.inr (.inl (0, 12, Pd2)))) ((.inr (.inl (0, 12, Pd3)))) ((.inr (.inl (0, 12, Pd4)))) ((.inr (.inl (0, 12, Ps1)))) ((.inr (.inl (0, 12, Ps2)))) ((.inr (.inl (0, 12, Ps3)))) ((.inr (.inl (0, 12, Ps4)))) ((.inr (.inl (0, 48, Pi1)))) ((.inr (.inl (0, 48, Pi2)))) ((.inr (.inl (0, 48, Pi3)))) ((.inr (.inl (0, 48, Pi4)))))) rfl clX0 (by decide) wd_20_3 rfl rfl rfl rfl dX0_open_12 (fun H locs hH hS => ?_)
  refine lv_iconst (v := 0) F.1 F.2.1 dX0_open_15 (by decide) ?_
  refine topK (a := 0) (by decide) (fun k_2 hk_2 => ?_)
  refine lv_istore_n (lv' := [(3, .int k_2), (0, .ref a0), (1, .ref a1), (2, .ref a2)]) F.1 F.2.1 dX0_open_16 rfl hl (by decide) rfl (fun ls hl => ?_)
  refine wloop (σ := Int32 × Int) (fun n9 x9 H locs ls => (14 - x9.1.toInt + 1).toNat < n9 ∧ (0 ≤ x9.1.toInt ∧ x9.1.toInt ≤ 14) ∧ (0 ≤ x9.2 ∧ x9.2 ≤ 14) ∧ (x9.2 ≤ x9.1.toInt) ∧ TH E (tbC dA (dayD (.inl (x9.2, x9.2))) (riverD (.inl Fa1) (.inl Fb1) (.inl (0, 4)) 31 33 35 39 43 47) (riverD (.inl Fa2) (.inl Fb2) (.inl (0, 4)) 32 34 36 40 44 48) rc rd tp A14F A14F A4F A4F A14F A14F (riverD (.inl Fa3) (.inl Fb3) (.inl (0, 4)) 3 8 3 41 45 49) (riverD (.inl Fa4) (.inl Fb4) (.inl (0, 4)) 3 8 3 42 46 50) ((.inr (.inl (0, 12, Pd1)))) ((.inr (.inl (0, 12, Pd2)))) ((.inr (.inl (0, 12, Pd3)))) ((.inr (.inl (0, 12, Pd4)))) ((.inr (.inl (0, 12, Ps1)))) ((.inr (.inl (0, 12, Ps2)))) ((.inr (.inl (0, 12, Ps3)))) ((.inr (.inl (0, 12, Ps4)))) ((.inr (.inl (0, 48, Pi1)))) ((.inr (.inl (0, 48, Pi2)))) ((.inr (.inl (0, 48, Pi3)))) ((.inr (.inl (0, 48, Pi4))))) H ∧ va_S (eA E s.heap.size) s.heap H locs ∧ lv_has ls 4 [(0, .ref a0), (1, .ref a1), (2, .ref a2), (3, .int x9.1)]) ?_ (fun x9 H locs ls h => absurd h.1 (Nat.not_lt_zero _)) _ (k_2, 0) ⟨Nat.lt_succ_self _, (wkb (eqb hk_2) rfl rfl), (show 0 ≤ 0 ∧ 0 ≤ 14 from by omega), (show 0 ≤ k_2.toInt from by omega), hH, hS, lv_sub hl [1, 2, 3, 0] rfl⟩
  intro n_17 ih_17 ⟨u_3, g_4⟩ H locs ls ⟨hm_17, hu_3, hg_4, hcr17_0, hH, hS, hl⟩
  have hm_17 : (14 - u_3.toInt + 1).toNat < n_17 + 1 := hm_17
  have hu_3 : (0 ≤ u_3.toInt ∧ u_3.toInt ≤ 14) := hu_3
  have hg_4 : (0 ≤ g_4 ∧ g_4 ≤ 14) := hg_4
  have hcr17_0 : (g_4 ≤ u_3.toInt) := hcr17_0
  have hH : TH E (tbC dA (dayD (.inl (g_4, g_4))) (riverD (.inl Fa1) (.inl Fb1) (.inl (0, 4)) 31 33 35 39 43 47) (riverD (.inl Fa2) (.inl Fb2) (.inl (0, 4)) 32 34 36 40 44 48) rc rd tp A14F A14F A4F A4F A14F A14F (riverD (.inl Fa3) (.inl Fb3) (.inl (0, 4)) 3 8 3 41 45 49) (riverD (.inl Fa4) (.inl Fb4) (.inl (0, 4)) 3 8 3 42 46 50) ((.inr (.inl (0, 12, Pd1)))) ((.inr (.inl (0, 12, Pd2)))) ((.inr (.inl (0, 12, Pd3)))) ((.inr (.inl (0, 12, Pd4)))) ((.inr (.inl (0, 12, Ps1)))) ((.inr (.inl (0, 12, Ps2)))) ((.inr (.inl (0, 12, Ps3)))) ((.inr (.inl (0, 12, Ps4)))) ((.inr (.inl (0, 48, Pi1)))) ((.inr (.inl (0, 48, Pi2)))) ((.inr (.inl (0, 48, Pi3)))) ((.inr (.inl (0, 48, Pi4))))) H := hH
  have hl : lv_has ls 4 [(0, .ref a0), (1, .ref a1), (2, .ref a2), (3, .int u_3)] := hl
  refine lv_iload_n F.1 F.2.1 dX0_open_17 rfl (lv_at hl 3 rfl) ?_
  refine lv_aload_n F.1 F.2.1 dX0_open_18 rfl (lv_at hl 1 rfl) ?_
  refine tGetIB (j := 4) (lo := 0) (hi := 14) F hK hH ha1 (alls ⟨_, _, rfl, rfl, by have h9_ := hFb1; omega⟩ (alls1 ⟨_, _, rfl, rfl, by have h9_ := hFb2; omega⟩)) clX2 (by decide) wd_20_4 dX0_open_19 (fun z_5 hz_5 => ?_)
  refine b_ge (tgt := 48) F dX0_open_22 (by decide) (fun c_6 => ?_) (fun c_6 => ?_)
  · skip
    refine lv_iconst (v := 0) F.1 F.2.1 dX0_open_48 (by decide) ?_
    refine topK (a := 0) (by decide) (fun k_9 hk_9 => ?_)
    refine lv_istore_n (lv' := [(3, .int k_9), (0, .ref a0), (1, .ref a1), (2, .ref a2)]) F.1 F.2.1 dX0_open_49 rfl hl (by decide) rfl (fun ls hl => ?_)
    refine wloop (σ := Int32 × Int) (fun n9 x9 H locs ls => (4 - x9.1.toInt + 1).toNat < n9 ∧ (0 ≤ x9.1.toInt ∧ x9.1.toInt ≤ 4) ∧ (0 ≤ x9.2 ∧ x9.2 ≤ 18) ∧ (x9.2 ≤ x9.1.toInt + 14) ∧ TH E (tbC dA (dayD (.inl (x9.2, x9.2))) (riverD (.inl Fa1) (.inl Fb1) (.inl (0, 4)) 31 33 35 39 43 47) (riverD (.inl Fa2) (.inl Fb2) (.inl (0, 4)) 32 34 36 40 44 48) rc rd tp A14F A14F A4F A4F A14F A14F (riverD (.inl Fa3) (.inl Fb3) (.inl (0, 4)) 3 8 3 41 45 49) (riverD (.inl Fa4) (.inl Fb4) (.inl (0, 4)) 3 8 3 42 46 50) ((.inr (.inl (0, 12, Pd1)))) ((.inr (.inl (0, 12, Pd2)))) ((.inr (.inl (0, 12, Pd3)))) ((.inr (.inl (0, 12, Pd4)))) ((.inr (.inl (0, 12, Ps1)))) ((.inr (.inl (0, 12, Ps2)))) ((.inr (.inl (0, 12, Ps3)))) ((.inr (.inl (0, 12, Ps4)))) ((.inr (.inl (0, 48, Pi1)))) ((.inr (.inl (0, 48, Pi2)))) ((.inr (.inl (0, 48, Pi3)))) ((.inr (.inl (0, 48, Pi4))))) H ∧ va_S (eA E s.heap.size) s.heap H locs ∧ lv_has ls 4 [(0, .ref a0), (1, .ref a1), (3, .int x9.1)]) ?_ (fun x9 H locs ls h => absurd h.1 (Nat.not_lt_zero _)) _ (k_9, g_4) ⟨Nat.lt_succ_self _, (wkb (eqb hk_9) rfl rfl), (show 0 ≤ g_4 ∧ g_4 ≤ 18 from by omega), (show g_4 ≤ k_9.toInt + 14 from by omega), hH, hS, lv_sub hl [1, 2, 0] rfl⟩
    intro n_50 ih_50 ⟨u_10, g_11⟩ H locs ls ⟨hm_50, hu_10, hg_11, hcr50_0, hH, hS, hl⟩
    have hm_50 : (4 - u_10.toInt + 1).toNat < n_50 + 1 := hm_50
    have hu_10 : (0 ≤ u_10.toInt ∧ u_10.toInt ≤ 4) := hu_10
    have hg_11 : (0 ≤ g_11 ∧ g_11 ≤ 18) := hg_11
    have hcr50_0 : (g_11 ≤ u_10.toInt + 14) := hcr50_0
    have hH : TH E (tbC dA (dayD (.inl (g_11, g_11))) (riverD (.inl Fa1) (.inl Fb1) (.inl (0, 4)) 31 33 35 39 43 47) (riverD (.inl Fa2) (.inl Fb2) (.inl (0, 4)) 32 34 36 40 44 48) rc rd tp A14F A14F A4F A4F A14F A14F (riverD (.inl Fa3) (.inl Fb3) (.inl (0, 4)) 3 8 3 41 45 49) (riverD (.inl Fa4) (.inl Fb4) (.inl (0, 4)) 3 8 3 42 46 50) ((.inr (.inl (0, 12, Pd1)))) ((.inr (.inl (0, 12, Pd2)))) ((.inr (.inl (0, 12, Pd3)))) ((.inr (.inl (0, 12, Pd4)))) ((.inr (.inl (0, 12, Ps1)))) ((.inr (.inl (0, 12, Ps2)))) ((.inr (.inl (0, 12, Ps3)))) ((.inr (.inl (0, 12, Ps4)))) ((.inr (.inl (0, 48, Pi1)))) ((.inr (.inl (0, 48, Pi2)))) ((.inr (.inl (0, 48, Pi3)))) ((.inr (.inl (0, 48, Pi4))))) H := hH
    have hl : lv_has ls 4 [(0, .ref a0), (1, .ref a1), (3, .int u_10)] := hl
    refine lv_iload_n F.1 F.2.1 dX0_open_50 rfl (lv_at hl 2 rfl) ?_
    refine lv_aload_n F.1 F.2.1 dX0_open_51 rfl (lv_at hl 1 rfl) ?_
    refine tGetIM (j := 14) F hK hH ha1 (alls ⟨_, rfl, rfl⟩ (alls1 ⟨_, rfl, rfl⟩)) clX2 (by decide) wd_20_6 dX0_open_52 (fun z_12 hz_12 => ?_)
    refine b_ge (tgt := 87) F dX0_open_55 (by decide) (fun c_13 => ?_) (fun c_13 => ?_)
    · skip
      exact txV F hS dX0_open_87 ((TH.loose (t := 25) (TB1 := (tbC dA (dayD (.inl (0, 18))) (riverD (.inl Fa1) (.inl Fb1) (.inl (0, 4)) 31 33 35 39 43 47) (riverD (.inl Fa2) (.inl Fb2) (.inl (0, 4)) 32 34 36 40 44 48) rc rd tp A14F A14F A4F A4F A14F A14F (riverD (.inl Fa3) (.inl Fb3) (.inl (0, 4)) 3 8 3 41 45 49) (riverD (.inl Fa4) (.inl Fb4) (.inl (0, 4)) 3 8 3 42 46 50) ((.inr (.inl (0, 12, Pd1)))) ((.inr (.inl (0, 12, Pd2)))) ((.inr (.inl (0, 12, Pd3)))) ((.inr (.inl (0, 12, Pd4)))) ((.inr (.inl (0, 12, Ps1)))) ((.inr (.inl (0, 12, Ps2)))) ((.inr (.inl (0, 12, Ps3)))) ((.inr (.inl (0, 12, Ps4)))) ((.inr (.inl (0, 48, Pi1)))) ((.inr (.inl (0, 48, Pi2)))) ((.inr (.inl (0, 48, Pi3)))) ((.inr (.inl (0, 48, Pi4)))))) hH rfl (tcLoose (j := 3) rfl (by omega)) rfl))
    · skip
      have r_14 : 0 ≤ u_10.toInt ∧ u_10.toInt ≤ 3 := by have h9_ := hu_10; omega
      have r_15 : 1 ≤ z_12.toInt ∧ z_12.toInt ≤ 4 := by have h9_ := hz_12; omega
      refine lv_aload_n F.1 F.2.1 dX0_open_58 rfl (lv_at hl 0 rfl) ?_
      refine tGetR (j := 4) F hK hH (tyb ha0 (all1 rfl)) rfl (all1 rfl) clX0 (by decide) wd_4_13 dX0_open_59 (fun q_16 hq_16 _ => ?_)
      refine lv_bipush (v := 14) F.1 F.2.1 dX0_open_62 (by decide) ?_
      refine topK (a := 14) (by decide) (fun k_17 hk_17 => ?_)
      refine lv_iload_n F.1 F.2.1 dX0_open_64 rfl (lv_at hl 2 rfl) ?_
      refine tAdd (lo := 14) (hi := 17) F dX0_open_65 (eqb hk_17) r_14 rfl (fun z_18 hz_18 => ?_)
      refine lv_aload_n F.1 F.2.1 dX0_open_66 rfl (lv_at hl 1 rfl) ?_
      refine tGetRM (j := 15) (L := [9]) F hK hH ha1 (alls ⟨_, _, rfl, rfl, by decide⟩ (alls1 ⟨_, _, rfl, rfl, by decide⟩)) (all1 rfl) clX2 (by decide) wd_20_7 dX0_open_67 (fun q_19 hq_19 _ => ?_)
      refine lv_iload_n F.1 F.2.1 dX0_open_70 rfl (lv_at hl 2 rfl) ?_
      refine tIaldB F hK hH (tyb hq_19 (all1 rfl)) (ixb (n := 4) r_14 rfl rfl) dX0_open_71 (fun z_20 hz_20 => ?_)
      refine tIastB F hK hH hS (tyb hq_16 (all1 rfl)) (ixb (n := 18) hz_18.2 rfl rfl) hz_20 dX0_open_72 (fun H locs hH hS => ?_)
      refine lv_aload_n F.1 F.2.1 dX0_open_73 rfl (lv_at hl 0 rfl) ?_
      refine lv_bipush (v := 14) F.1 F.2.1 dX0_open_74 (by decide) ?_
      refine topK (a := 14) (by decide) (fun k_21 hk_21 => ?_)
      refine lv_iload_n F.1 F.2.1 dX0_open_76 rfl (lv_at hl 2 rfl) ?_
      refine tAdd (lo := 14) (hi := 17) F dX0_open_77 (eqb hk_21) r_14 rfl (fun z_22 hz_22 => ?_)
      refine tVv (b := a0) (As := [.int z_22]) (rest := []) F hK hN hO (c_X0_enqueue_B E dA rc rd tp Fa1 Fb1 Fa2 Fb2 Fa3 Fb3 Fa4 Fb4 Pd1 Pd2 Pd3 Pd4 Ps1 Ps2 Ps3 Ps4 Pi1 Pi2 Pi3 Pi4 g_11 a0 z_22 ha0 (wkb hz_22.2 rfl rfl) (by omega) hFa1 hFb1 hFa2 hFb2 hFa3 hFb3 hFa4 hFb4 hPd1 hPd2 hPd3 hPd4 hPs1 hPs2 hPs3 hPs4 hPi1 hPi2 hPi3 hPi4) mv_X0_enqueue wd_20_8 ⟨Nat.le_of_ble_eq_true rfl, Nat.le_of_ble_eq_true rfl⟩ ⟨Nat.le_of_ble_eq_true rfl, Nat.le_of_ble_eq_true rfl⟩ hH hS (tRecv hK hH (tyb ha0 (all1 rfl)) clX0) rfl hl.1 (Nat.le_of_ble_eq_true rfl) dX0_open_78 (fun H locs hq hS => ?_)
      have hH := hq
      have hH : TH E (tbC dA (dayD (.inl ((g_11 + 1), (g_11 + 1)))) (riverD (.inl Fa1) (.inl Fb1) (.inl (0, 4)) 31 33 35 39 43 47) (riverD (.inl Fa2) (.inl Fb2) (.inl (0, 4)) 32 34 36 40 44 48) rc rd tp A14F A14F A4F A4F A14F A14F (riverD (.inl Fa3) (.inl Fb3) (.inl (0, 4)) 3 8 3 41 45 49) (riverD (.inl Fa4) (.inl Fb4) (.inl (0, 4)) 3 8 3 42 46 50) ((.inr (.inl (0, 12, Pd1)))) ((.inr (.inl (0, 12, Pd2)))) ((.inr (.inl (0, 12, Pd3)))) ((.inr (.inl (0, 12, Pd4)))) ((.inr (.inl (0, 12, Ps1)))) ((.inr (.inl (0, 12, Ps2)))) ((.inr (.inl (0, 12, Ps3)))) ((.inr (.inl (0, 12, Ps4)))) ((.inr (.inl (0, 48, Pi1)))) ((.inr (.inl (0, 48, Pi2)))) ((.inr (.inl (0, 48, Pi3)))) ((.inr (.inl (0, 48, Pi4))))) H := hH
      obtain ⟨x_24, ex_24, hx_24⟩ := iincB (c := 1) (lo := 1) (hi := 4) r_14 rfl
      refine lv_iinc (v := x_24) (lv' := [(3, .int x_24), (0, .ref a0), (1, .ref a1)]) F.1 F.2.1 dX0_open_81 hl (k := 2) rfl ex_24 (by decide) rfl (fun ls hl => ?_)
      refine lv_goto (tgt := 50) F.1 F.2.1 dX0_open_84 (by decide) ?_
      exact ih_50 (x_24, (g_11 + 1)) _ _ _ ⟨(show (4 - x_24.toInt + 1).toNat < n_50 from by omega), (wkb hx_24.2 rfl rfl), (show 0 ≤ (g_11 + 1) ∧ (g_11 + 1) ≤ 18 from by omega), (show (g_11 + 1) ≤ x_24.toInt + 14 from by omega), hH, hS, lv_sub hl [1, 2, 0] rfl⟩
  · skip
    have r_7 : 0 ≤ u_3.toInt ∧ u_3.toInt ≤ 13 := by have h9_ := hu_3; omega
    have r_8 : 1 ≤ z_5.toInt ∧ z_5.toInt ≤ 14 := by have h9_ := hz_5; omega
    refine lv_aload_n F.1 F.2.1 dX0_open_25 rfl (lv_at hl 0 rfl) ?_
    refine tGetR (j := 4) F hK hH (tyb ha0 (all1 rfl)) rfl (all1 rfl) clX0 (by decide) wd_4_13 dX0_open_26 (fun q_25 hq_25 _ => ?_)
    refine lv_iload_n F.1 F.2.1 dX0_open_29 rfl (lv_at hl 3 rfl) ?_
    refine lv_aload_n F.1 F.2.1 dX0_open_30 rfl (lv_at hl 2 rfl) ?_
    refine tGetR (j := 2) F hK hH (tyb ha2 (all1 rfl)) rfl (all1 rfl) clX5 (by decide) wd_20_5 dX0_open_31 (fun q_26 hq_26 _ => ?_)
    refine lv_iload_n F.1 F.2.1 dX0_open_34 rfl (lv_at hl 3 rfl) ?_
    refine tIaldB F hK hH (tyb hq_26 (all1 rfl)) (ixb (n := 14) r_7 rfl rfl) dX0_open_35 (fun z_27 hz_27 => ?_)
    refine tIastB F hK hH hS (tyb hq_25 (all1 rfl)) (ixb (n := 18) r_7 rfl rfl) hz_27 dX0_open_36 (fun H locs hH hS => ?_)
    refine lv_aload_n F.1 F.2.1 dX0_open_37 rfl (lv_at hl 0 rfl) ?_
    refine lv_iload_n F.1 F.2.1 dX0_open_38 rfl (lv_at hl 3 rfl) ?_
    refine tVv (b := a0) (As := [.int u_3]) (rest := []) F hK hN hO (c_X0_enqueue_B E dA rc rd tp Fa1 Fb1 Fa2 Fb2 Fa3 Fb3 Fa4 Fb4 Pd1 Pd2 Pd3 Pd4 Ps1 Ps2 Ps3 Ps4 Pi1 Pi2 Pi3 Pi4 g_4 a0 u_3 ha0 (wkb r_7 rfl rfl) (by omega) hFa1 hFb1 hFa2 hFb2 hFa3 hFb3 hFa4 hFb4 hPd1 hPd2 hPd3 hPd4 hPs1 hPs2 hPs3 hPs4 hPi1 hPi2 hPi3 hPi4) mv_X0_enqueue wd_20_8 ⟨Nat.le_of_ble_eq_true rfl, Nat.le_of_ble_eq_true rfl⟩ ⟨Nat.le_of_ble_eq_true rfl, Nat.le_of_ble_eq_true rfl⟩ hH hS (tRecv hK hH (tyb ha0 (all1 rfl)) clX0) rfl hl.1 (Nat.le_of_ble_eq_true rfl) dX0_open_39 (fun H locs hq hS => ?_)
    have hH := hq
    have hH : TH E (tbC dA (dayD (.inl ((g_4 + 1), (g_4 + 1)))) (riverD (.inl Fa1) (.inl Fb1) (.inl (0, 4)) 31 33 35 39 43 47) (riverD (.inl Fa2) (.inl Fb2) (.inl (0, 4)) 32 34 36 40 44 48) rc rd tp A14F A14F A4F A4F A14F A14F (riverD (.inl Fa3) (.inl Fb3) (.inl (0, 4)) 3 8 3 41 45 49) (riverD (.inl Fa4) (.inl Fb4) (.inl (0, 4)) 3 8 3 42 46 50) ((.inr (.inl (0, 12, Pd1)))) ((.inr (.inl (0, 12, Pd2)))) ((.inr (.inl (0, 12, Pd3)))) ((.inr (.inl (0, 12, Pd4)))) ((.inr (.inl (0, 12, Ps1)))) ((.inr (.inl (0, 12, Ps2)))) ((.inr (.inl (0, 12, Ps3)))) ((.inr (.inl (0, 12, Ps4)))) ((.inr (.inl (0, 48, Pi1)))) ((.inr (.inl (0, 48, Pi2)))) ((.inr (.inl (0, 48, Pi3)))) ((.inr (.inl (0, 48, Pi4))))) H := hH
    obtain ⟨x_29, ex_29, hx_29⟩ := iincB (c := 1) (lo := 1) (hi := 14) r_7 rfl
    refine lv_iinc (v := x_29) (lv' := [(3, .int x_29), (0, .ref a0), (1, .ref a1), (2, .ref a2)]) F.1 F.2.1 dX0_open_42 hl (k := 3) rfl ex_29 (by decide) rfl (fun ls hl => ?_)
    refine lv_goto (tgt := 17) F.1 F.2.1 dX0_open_45 (by decide) ?_
    exact ih_17 (x_29, (g_4 + 1)) _ _ _ ⟨(show (14 - x_29.toInt + 1).toNat < n_17 from by omega), (wkb hx_29.2 rfl rfl), (show 0 ≤ (g_4 + 1) ∧ (g_4 + 1) ≤ 14 from by omega), (show (g_4 + 1) ≤ x_29.toInt from by omega), hH, hS, lv_sub hl [1, 2, 3, 0] rfl⟩
set_option maxHeartbeats 4000000 in
set_option maxRecDepth 100000 in
theorem c_X0_wantOfRight (E : Ev) (rc : TD) (rd : TD) (tp : TD) (Fa1 : Int × Int) (Fb1 : Int × Int) (Fa2 : Int × Int) (Fb2 : Int × Int) (Fa3 : Int × Int) (Fb3 : Int × Int) (Fa4 : Int × Int) (Fb4 : Int × Int) (Pd1 : (Nat → Int32) → Prop) (Pd2 : (Nat → Int32) → Prop) (Pd3 : (Nat → Int32) → Prop) (Pd4 : (Nat → Int32) → Prop) (Ps1 : (Nat → Int32) → Prop) (Ps2 : (Nat → Int32) → Prop) (Ps3 : (Nat → Int32) → Prop) (Ps4 : (Nat → Int32) → Prop) (Pi1 : (Nat → Int32) → Prop) (Pi2 : (Nat → Int32) → Prop) (Pi3 : (Nat → Int32) → Prop) (Pi4 : (Nat → Int32) → Prop) (a0 : Nat) (a1 : Int32) (ha0 : eT E a0 ∈ [24, 25]) (ha1 : 0 ≤ a1.toInt ∧ a1.toInt ≤ 13) (hFa1 : 0 ≤ Fa1.1 ∧ Fa1.2 ≤ 12) (hFb1 : 0 ≤ Fb1.1 ∧ Fb1.2 ≤ 14) (hFa2 : 0 ≤ Fa2.1 ∧ Fa2.2 ≤ 12) (hFb2 : 0 ≤ Fb2.1 ∧ Fb2.2 ≤ 14) (hFa3 : 0 ≤ Fa3.1 ∧ Fa3.2 ≤ 12) (hFb3 : 0 ≤ Fb3.1 ∧ Fb3.2 ≤ 14) (hFa4 : 0 ≤ Fa4.1 ∧ Fa4.2 ≤ 12) (hFb4 : 0 ≤ Fb4.1 ∧ Fb4.2 ≤ 14) (hPd1 : ∀ f, Pd1 f → ivP 12 (-2) 11 f) (hPd2 : ∀ f, Pd2 f → ivP 12 (-2) 11 f) (hPd3 : ∀ f, Pd3 f → ivP 12 (-2) 11 f) (hPd4 : ∀ f, Pd4 f → ivP 12 (-2) 11 f) (hPs1 : ∀ f, Ps1 f → ivP 12 (-2147483648) 2147483647 f) (hPs2 : ∀ f, Ps2 f → ivP 12 (-2147483648) 2147483647 f) (hPs3 : ∀ f, Ps3 f → ivP 12 (-2147483648) 2147483647 f) (hPs4 : ∀ f, Ps4 f → ivP 12 (-2147483648) 2147483647 f) (hPi1 : ∀ f, Pi1 f → ivP 48 (-2147483648) 2147483647 f) (hPi2 : ∀ f, Pi2 f → ivP 48 (-2147483648) 2147483647 f) (hPi3 : ∀ f, Pi3 f → ivP 48 (-2147483648) 2147483647 f) (hPi4 : ∀ f, Pi4 f → ivP 48 (-2147483648) 2147483647 f) : TcI E yX0_wantOfRight cX0_wantOfRight 3 .int ({ frames := 1, cells := 0, slots := 0, locals := 40 }) [.ref a0, .int a1] (fun H => TH E (tbC (dayD (.inl (0, 18))) (dayD (.inl (0, 18))) (riverD (.inl Fa1) (.inl Fb1) (.inl (0, 4)) 31 33 35 39 43 47) (riverD (.inl Fa2) (.inl Fb2) (.inl (0, 4)) 32 34 36 40 44 48) rc rd tp A14F A14F A4F A4F A14F A14F (riverD (.inl Fa3) (.inl Fb3) (.inl (0, 4)) 3 8 3 41 45 49) (riverD (.inl Fa4) (.inl Fb4) (.inl (0, 4)) 3 8 3 42 46 50) ((.inr (.inl (0, 12, Pd1)))) ((.inr (.inl (0, 12, Pd2)))) ((.inr (.inl (0, 12, Pd3)))) ((.inr (.inl (0, 12, Pd4)))) ((.inr (.inl (0, 12, Ps1)))) ((.inr (.inl (0, 12, Ps2)))) ((.inr (.inl (0, 12, Ps3)))) ((.inr (.inl (0, 12, Ps4)))) ((.inr (.inl (0, 48, Pi1)))) ((.inr (.inl (0, 48, Pi2)))) ((.inr (.inl (0, 48, Pi3)))) ((.inr (.inl (0, 48, Pi4))))) H) (fun v H => ((-2147483648) ≤ v.toInt ∧ v.toInt ≤ 2147483647) ∧ TH E (tbC (dayD (.inl (0, 18))) (dayD (.inl (0, 18))) (riverD (.inl Fa1) (.inl Fb1) (.inl (0, 4)) 31 33 35 39 43 47) (riverD (.inl Fa2) (.inl Fb2) (.inl (0, 4)) 32 34 36 40 44 48) rc rd tp A14F A14F A4F A4F A14F A14F (riverD (.inl Fa3) (.inl Fb3) (.inl (0, 4)) 3 8 3 41 45 49) (riverD (.inl Fa4) (.inl Fb4) (.inl (0, 4)) 3 8 3 42 46 50) ((.inr (.inl (0, 12, Pd1)))) ((.inr (.inl (0, 12, Pd2)))) ((.inr (.inl (0, 12, Pd3)))) ((.inr (.inl (0, 12, Pd4)))) ((.inr (.inl (0, 12, Ps1)))) ((.inr (.inl (0, 12, Ps2)))) ((.inr (.inl (0, 12, Ps3)))) ((.inr (.inl (0, 12, Ps4)))) ((.inr (.inl (0, 48, Pi1)))) ((.inr (.inl (0, 48, Pi2)))) ((.inr (.inl (0, 48, Pi3)))) ((.inr (.inl (0, 48, Pi4))))) H) := by
  refine teI (by decide) (Nat.le_of_ble_eq_true rfl) ?_
  intro p_ ev_ s mi_ below_ meth cd_ ls F hK hN hO hH hS hl
  have hH : TH E (tbC (dayD (.inl (0, 18))) (dayD (.inl (0, 18))) (riverD (.inl Fa1) (.inl Fb1) (.inl (0, 4)) 31 33 35 39 43 47) (riverD (.inl Fa2) (.inl Fb2) (.inl (0, 4)) 32 34 36 40 44 48) rc rd tp A14F A14F A4F A4F A14F A14F (riverD (.inl Fa3) (.inl Fb3) (.inl (0, 4)) 3 8 3 41 45 49) (riverD (.inl Fa4) (.inl Fb4) (.inl (0, 4)) 3 8 3 42 46 50) ((.inr (.inl (0, 12, Pd1)))) ((.inr (.inl (0, 12, Pd2)))) ((.inr (.inl (0, 12, Pd3)))) ((.inr (.inl (0, 12, Pd4)))) ((.inr (.inl (0, 12, Ps1)))) ((.inr (.inl (0, 12, Ps2)))) ((.inr (.inl (0, 12, Ps3)))) ((.inr (.inl (0, 12, Ps4)))) ((.inr (.inl (0, 48, Pi1)))) ((.inr (.inl (0, 48, Pi2)))) ((.inr (.inl (0, 48, Pi3)))) ((.inr (.inl (0, 48, Pi4))))) s.heap := hH
  have hl : lv_has ls 3 [(0, .ref a0), (1, .int a1)] := hl
  refine lv_aload_n F.1 F.2.1 dX0_wantOfRight_0 rfl (lv_at hl 0 rfl) ?_
  refine tGetR (j := 1) F hK hH (tyb ha0 (all2 rfl rfl)) rfl (all1 rfl) clX0 (by decide) wd_5_0 dX0_wantOfRight_1 (fun q_1 hq_1 _ => ?_)
  refine tGetI (j := 0) F hK hH (tyb hq_1 (all1 rfl)) rfl clX5 (by decide) wd_21_17 dX0_wantOfRight_4 (fun z_2 hz_2 => ?_)
  refine lv_aload_n F.1 F.2.1 dX0_wantOfRight_7 rfl (lv_at hl 0 rfl) ?_
  refine tGetR0 (j := 0) F hK hH (tyb ha0 (all2 rfl rfl)) rfl clX0 (by decide) wd_4_23 dX0_wantOfRight_8 (fun q_3 hq_3 => ?_)
  refine tGetRM (j := 7) (L := [35, 36]) F hK hH hq_3 (alls ⟨_, _, rfl, rfl, by decide⟩ (alls1 ⟨_, _, rfl, rfl, by decide⟩)) (all2 rfl rfl) clX2 (by decide) wd_21_18 dX0_wantOfRight_11 (fun q_4 hq_4 _ => ?_)
  refine lv_iload_n F.1 F.2.1 dX0_wantOfRight_14 rfl (lv_at hl 1 rfl) ?_
  refine tIaldB F hK hH (tyb hq_4 (all2 rfl rfl)) (ixb (n := 14) ha1 rfl rfl) dX0_wantOfRight_15 (fun z_5 hz_5 => ?_)
  refine b_lt (tgt := 38) F dX0_wantOfRight_16 (by decide) (fun c_6 => ?_) (fun c_6 => ?_)
  · skip
    have r_7 : 1 ≤ z_5.toInt ∧ z_5.toInt ≤ 2147483647 := by have h9_ := hz_5; omega
    refine lv_iconst (v := 0) F.1 F.2.1 dX0_wantOfRight_38 (by decide) ?_
    refine topK (a := 0) (by decide) (fun k_9 hk_9 => ?_)
    exact txI F hS dX0_wantOfRight_39 rfl (⟨(wkb (eqb hk_9) rfl rfl), hH⟩)
  · skip
    have r_8 : (-2147483648) ≤ z_5.toInt ∧ z_5.toInt ≤ 359 := by have h9_ := hz_5; omega
    refine lv_aload_n F.1 F.2.1 dX0_wantOfRight_19 rfl (lv_at hl 0 rfl) ?_
    refine tGetR (j := 1) F hK hH (tyb ha0 (all2 rfl rfl)) rfl (all1 rfl) clX0 (by decide) wd_5_0 dX0_wantOfRight_20 (fun q_10 hq_10 _ => ?_)
    refine tGetI (j := 0) F hK hH (tyb hq_10 (all1 rfl)) rfl clX5 (by decide) wd_21_17 dX0_wantOfRight_23 (fun z_11 hz_11 => ?_)
    refine lv_aload_n F.1 F.2.1 dX0_wantOfRight_26 rfl (lv_at hl 0 rfl) ?_
    refine tGetR0 (j := 0) F hK hH (tyb ha0 (all2 rfl rfl)) rfl clX0 (by decide) wd_4_23 dX0_wantOfRight_27 (fun q_12 hq_12 => ?_)
    refine tGetRM (j := 8) (L := [3]) F hK hH hq_12 (alls ⟨_, _, rfl, rfl, by decide⟩ (alls1 ⟨_, _, rfl, rfl, by decide⟩)) (all1 rfl) clX2 (by decide) wd_21_19 dX0_wantOfRight_30 (fun q_13 hq_13 _ => ?_)
    refine lv_iload_n F.1 F.2.1 dX0_wantOfRight_33 rfl (lv_at hl 1 rfl) ?_
    refine tIaldB F hK hH (tyb hq_13 (all1 rfl)) (ixb (n := 14) ha1 rfl rfl) dX0_wantOfRight_34 (fun z_14 hz_14 => ?_)
    refine b_le (tgt := 40) F dX0_wantOfRight_35 (by decide) (fun c_15 => ?_) (fun c_15 => ?_)
    · skip
      have r_16 : 0 ≤ z_14.toInt ∧ z_14.toInt ≤ 2147483647 := by have h9_ := hz_14; omega
      refine lv_aload_n F.1 F.2.1 dX0_wantOfRight_40 rfl (lv_at hl 0 rfl) ?_
      refine tGetR (j := 1) F hK hH (tyb ha0 (all2 rfl rfl)) rfl (all1 rfl) clX0 (by decide) wd_5_0 dX0_wantOfRight_41 (fun q_18 hq_18 _ => ?_)
      refine tGetR (j := 4) F hK hH (tyb hq_18 (all1 rfl)) rfl (all1 rfl) clX5 (by decide) wd_21_20 dX0_wantOfRight_44 (fun q_19 hq_19 _ => ?_)
      refine lv_iload_n F.1 F.2.1 dX0_wantOfRight_47 rfl (lv_at hl 1 rfl) ?_
      refine tIaldB F hK hH (tyb hq_19 (all1 rfl)) (ixb (n := 14) ha1 rfl rfl) dX0_wantOfRight_48 (fun z_20 hz_20 => ?_)
      refine lv_istore_n (lv' := [(2, .int z_20), (0, .ref a0), (1, .int a1)]) F.1 F.2.1 dX0_wantOfRight_49 rfl hl (by decide) rfl (fun ls hl => ?_)
      refine lv_aload_n F.1 F.2.1 dX0_wantOfRight_50 rfl (lv_at hl 1 rfl) ?_
      refine tGetR0 (j := 0) F hK hH (tyb ha0 (all2 rfl rfl)) rfl clX0 (by decide) wd_4_23 dX0_wantOfRight_51 (fun q_21 hq_21 => ?_)
      refine tGetRM (j := 10) (L := [3]) F hK hH hq_21 (alls ⟨_, _, rfl, rfl, by decide⟩ (alls1 ⟨_, _, rfl, rfl, by decide⟩)) (all1 rfl) clX2 (by decide) wd_21_21 dX0_wantOfRight_54 (fun q_22 hq_22 _ => ?_)
      refine lv_iload_n F.1 F.2.1 dX0_wantOfRight_57 rfl (lv_at hl 2 rfl) ?_
      refine tIaldB F hK hH (tyb hq_22 (all1 rfl)) (ixb (n := 14) ha1 rfl rfl) dX0_wantOfRight_58 (fun z_23 hz_23 => ?_)
      refine z_le (tgt := 78) F dX0_wantOfRight_59 (by decide) (fun c_24 => ?_) (fun c_24 => ?_)
      · skip
        have r_25 : (-2147483648) ≤ z_23.toInt ∧ z_23.toInt ≤ 0 := by have h9_ := hz_23; omega
        refine lv_iload_n F.1 F.2.1 dX0_wantOfRight_78 rfl (lv_at hl 0 rfl) ?_
        exact txI F hS dX0_wantOfRight_79 rfl (⟨hz_20, hH⟩)
      · skip
        have r_26 : 1 ≤ z_23.toInt ∧ z_23.toInt ≤ 2147483647 := by have h9_ := hz_23; omega
        refine lv_iload_n F.1 F.2.1 dX0_wantOfRight_62 rfl (lv_at hl 0 rfl) ?_
        refine lv_aload_n F.1 F.2.1 dX0_wantOfRight_63 rfl (lv_at hl 1 rfl) ?_
        refine tGetR (j := 1) F hK hH (tyb ha0 (all2 rfl rfl)) rfl (all1 rfl) clX0 (by decide) wd_5_0 dX0_wantOfRight_64 (fun q_27 hq_27 _ => ?_)
        refine tGetR (j := 5) F hK hH (tyb hq_27 (all1 rfl)) rfl (all1 rfl) clX5 (by decide) wd_21_22 dX0_wantOfRight_67 (fun q_28 hq_28 _ => ?_)
        refine lv_iload_n F.1 F.2.1 dX0_wantOfRight_70 rfl (lv_at hl 2 rfl) ?_
        refine tIaldB F hK hH (tyb hq_28 (all1 rfl)) (ixb (n := 14) ha1 rfl rfl) dX0_wantOfRight_71 (fun z_29 hz_29 => ?_)
        refine tMin (lo := (-2147483648)) (hi := 2147483647) F wd_21_5 wd_9_0 wd_9_1 wd_9_2 hl.1 (Nat.le_of_ble_eq_true rfl) (Nat.le_of_ble_eq_true rfl) (Nat.le_of_ble_eq_true rfl) (Nat.le_of_ble_eq_true rfl) dX0_wantOfRight_72 hz_20 hz_29 rfl (fun z_30 hz_30 => ?_)
        refine lv_goto (tgt := 79) F.1 F.2.1 dX0_wantOfRight_75 (by decide) ?_
        exact txI F hS dX0_wantOfRight_79 rfl (⟨hz_30.2, hH⟩)
    · skip
      have r_17 : (-2147483648) ≤ z_14.toInt ∧ z_14.toInt ≤ 358 := by have h9_ := hz_14; omega
      refine lv_iconst (v := 0) F.1 F.2.1 dX0_wantOfRight_38 (by decide) ?_
      refine topK (a := 0) (by decide) (fun k_31 hk_31 => ?_)
      exact txI F hS dX0_wantOfRight_39 rfl (⟨(wkb (eqb hk_31) rfl rfl), hH⟩)
set_option maxHeartbeats 4000000 in
set_option maxRecDepth 100000 in
theorem c_X0_inflowOf (E : Ev) (rc : TD) (rd : TD) (tp : TD) (Fa1 : Int × Int) (Fb1 : Int × Int) (Fa2 : Int × Int) (Fb2 : Int × Int) (Fa3 : Int × Int) (Fb3 : Int × Int) (Fa4 : Int × Int) (Fb4 : Int × Int) (Pd1 : (Nat → Int32) → Prop) (Pd2 : (Nat → Int32) → Prop) (Pd3 : (Nat → Int32) → Prop) (Pd4 : (Nat → Int32) → Prop) (Ps1 : (Nat → Int32) → Prop) (Ps2 : (Nat → Int32) → Prop) (Ps3 : (Nat → Int32) → Prop) (Ps4 : (Nat → Int32) → Prop) (Pi1 : (Nat → Int32) → Prop) (Pi2 : (Nat → Int32) → Prop) (Pi3 : (Nat → Int32) → Prop) (Pi4 : (Nat → Int32) → Prop) (a0 : Nat) (a1 : Int32) (ha0 : eT E a0 ∈ [24, 25]) (ha1 : 0 ≤ a1.toInt ∧ a1.toInt ≤ 11) (hFa1 : 0 ≤ Fa1.1 ∧ Fa1.2 ≤ 12) (hFb1 : 0 ≤ Fb1.1 ∧ Fb1.2 ≤ 14) (hFa2 : 0 ≤ Fa2.1 ∧ Fa2.2 ≤ 12) (hFb2 : 0 ≤ Fb2.1 ∧ Fb2.2 ≤ 14) (hFa3 : 0 ≤ Fa3.1 ∧ Fa3.2 ≤ 12) (hFb3 : 0 ≤ Fb3.1 ∧ Fb3.2 ≤ 14) (hFa4 : 0 ≤ Fa4.1 ∧ Fa4.2 ≤ 12) (hFb4 : 0 ≤ Fb4.1 ∧ Fb4.2 ≤ 14) (hPd1 : ∀ f, Pd1 f → ivP 12 (-2) 11 f) (hPd2 : ∀ f, Pd2 f → ivP 12 (-2) 11 f) (hPd3 : ∀ f, Pd3 f → ivP 12 (-2) 11 f) (hPd4 : ∀ f, Pd4 f → ivP 12 (-2) 11 f) (hPs1 : ∀ f, Ps1 f → ivP 12 (-2147483648) 2147483647 f) (hPs2 : ∀ f, Ps2 f → ivP 12 (-2147483648) 2147483647 f) (hPs3 : ∀ f, Ps3 f → ivP 12 (-2147483648) 2147483647 f) (hPs4 : ∀ f, Ps4 f → ivP 12 (-2147483648) 2147483647 f) (hPi1 : ∀ f, Pi1 f → ivP 48 (-2147483648) 2147483647 f) (hPi2 : ∀ f, Pi2 f → ivP 48 (-2147483648) 2147483647 f) (hPi3 : ∀ f, Pi3 f → ivP 48 (-2147483648) 2147483647 f) (hPi4 : ∀ f, Pi4 f → ivP 48 (-2147483648) 2147483647 f) : TcI E yX0_inflowOf cX0_inflowOf 3 .int ({ frames := 1, cells := 0, slots := 0, locals := 40 }) [.ref a0, .int a1] (fun H => TH E (tbC (dayD (.inl (0, 18))) (dayD (.inl (0, 18))) (riverD (.inl Fa1) (.inl Fb1) (.inl (0, 4)) 31 33 35 39 43 47) (riverD (.inl Fa2) (.inl Fb2) (.inl (0, 4)) 32 34 36 40 44 48) rc rd tp A14F A14F A4F A4F A14F A14F (riverD (.inl Fa3) (.inl Fb3) (.inl (0, 4)) 3 8 3 41 45 49) (riverD (.inl Fa4) (.inl Fb4) (.inl (0, 4)) 3 8 3 42 46 50) ((.inr (.inl (0, 12, Pd1)))) ((.inr (.inl (0, 12, Pd2)))) ((.inr (.inl (0, 12, Pd3)))) ((.inr (.inl (0, 12, Pd4)))) ((.inr (.inl (0, 12, Ps1)))) ((.inr (.inl (0, 12, Ps2)))) ((.inr (.inl (0, 12, Ps3)))) ((.inr (.inl (0, 12, Ps4)))) ((.inr (.inl (0, 48, Pi1)))) ((.inr (.inl (0, 48, Pi2)))) ((.inr (.inl (0, 48, Pi3)))) ((.inr (.inl (0, 48, Pi4))))) H) (fun v H => ((-2147483648) ≤ v.toInt ∧ v.toInt ≤ 2147483647) ∧ TH E (tbC (dayD (.inl (0, 18))) (dayD (.inl (0, 18))) (riverD (.inl Fa1) (.inl Fb1) (.inl (0, 4)) 31 33 35 39 43 47) (riverD (.inl Fa2) (.inl Fb2) (.inl (0, 4)) 32 34 36 40 44 48) rc rd tp A14F A14F A4F A4F A14F A14F (riverD (.inl Fa3) (.inl Fb3) (.inl (0, 4)) 3 8 3 41 45 49) (riverD (.inl Fa4) (.inl Fb4) (.inl (0, 4)) 3 8 3 42 46 50) ((.inr (.inl (0, 12, Pd1)))) ((.inr (.inl (0, 12, Pd2)))) ((.inr (.inl (0, 12, Pd3)))) ((.inr (.inl (0, 12, Pd4)))) ((.inr (.inl (0, 12, Ps1)))) ((.inr (.inl (0, 12, Ps2)))) ((.inr (.inl (0, 12, Ps3)))) ((.inr (.inl (0, 12, Ps4)))) ((.inr (.inl (0, 48, Pi1)))) ((.inr (.inl (0, 48, Pi2)))) ((.inr (.inl (0, 48, Pi3)))) ((.inr (.inl (0, 48, Pi4))))) H) := by
  refine teI (by decide) (Nat.le_of_ble_eq_true rfl) ?_
  intro p_ ev_ s mi_ below_ meth cd_ ls F hK hN hO hH hS hl
  have hH : TH E (tbC (dayD (.inl (0, 18))) (dayD (.inl (0, 18))) (riverD (.inl Fa1) (.inl Fb1) (.inl (0, 4)) 31 33 35 39 43 47) (riverD (.inl Fa2) (.inl Fb2) (.inl (0, 4)) 32 34 36 40 44 48) rc rd tp A14F A14F A4F A4F A14F A14F (riverD (.inl Fa3) (.inl Fb3) (.inl (0, 4)) 3 8 3 41 45 49) (riverD (.inl Fa4) (.inl Fb4) (.inl (0, 4)) 3 8 3 42 46 50) ((.inr (.inl (0, 12, Pd1)))) ((.inr (.inl (0, 12, Pd2)))) ((.inr (.inl (0, 12, Pd3)))) ((.inr (.inl (0, 12, Pd4)))) ((.inr (.inl (0, 12, Ps1)))) ((.inr (.inl (0, 12, Ps2)))) ((.inr (.inl (0, 12, Ps3)))) ((.inr (.inl (0, 12, Ps4)))) ((.inr (.inl (0, 48, Pi1)))) ((.inr (.inl (0, 48, Pi2)))) ((.inr (.inl (0, 48, Pi3)))) ((.inr (.inl (0, 48, Pi4))))) s.heap := hH
  have hl : lv_has ls 3 [(0, .ref a0), (1, .int a1)] := hl
  refine lv_aload_n F.1 F.2.1 dX0_inflowOf_0 rfl (lv_at hl 0 rfl) ?_
  refine tGetR (j := 1) F hK hH (tyb ha0 (all2 rfl rfl)) rfl (all1 rfl) clX0 (by decide) wd_5_0 dX0_inflowOf_1 (fun q_1 hq_1 _ => ?_)
  refine tGetI (j := 0) F hK hH (tyb hq_1 (all1 rfl)) rfl clX5 (by decide) wd_21_17 dX0_inflowOf_4 (fun z_2 hz_2 => ?_)
  refine lv_bipush (v := 90) F.1 F.2.1 dX0_inflowOf_7 (by decide) ?_
  refine topK (a := 90) (by decide) (fun k_3 hk_3 => ?_)
  refine tDiv (k := 90) (lo := 0) (hi := 3) F dX0_inflowOf_9 hz_2 hk_3 rfl (fun z_4 hz_4 => ?_)
  refine lv_istore_n (lv' := [(2, .int z_4), (0, .ref a0), (1, .int a1)]) F.1 F.2.1 dX0_inflowOf_10 rfl hl (by decide) rfl (fun ls hl => ?_)
  refine lv_aload_n F.1 F.2.1 dX0_inflowOf_11 rfl (lv_at hl 1 rfl) ?_
  refine tGetR0 (j := 0) F hK hH (tyb ha0 (all2 rfl rfl)) rfl clX0 (by decide) wd_4_23 dX0_inflowOf_12 (fun q_5 hq_5 => ?_)
  refine tGetRM0 (j := 3) (L := [47, 48]) F hK hH hq_5 (alls ⟨_, _, rfl, rfl, by decide⟩ (alls1 ⟨_, _, rfl, rfl, by decide⟩)) clX2 (by decide) wd_22_3 dX0_inflowOf_15 (fun q_6 hq_6 => ?_)
  refine lv_iload_n F.1 F.2.1 dX0_inflowOf_18 rfl (lv_at hl 2 rfl) ?_
  refine lv_iconst (v := 4) F.1 F.2.1 dX0_inflowOf_19 (by decide) ?_
  refine topK (a := 4) (by decide) (fun k_7 hk_7 => ?_)
  refine tMul (lo := 0) (hi := 44) F dX0_inflowOf_20 ha1 (eqb hk_7) rfl (fun z_8 hz_8 => ?_)
  have mz_8 : z_8.toInt = a1.toInt * 4 := by rw [hz_8.1, hk_7]
  refine lv_iload_n F.1 F.2.1 dX0_inflowOf_21 rfl (lv_at hl 0 rfl) ?_
  refine tAdd (lo := 0) (hi := 47) F dX0_inflowOf_22 hz_8.2 hz_4.2 rfl (fun z_9 hz_9 => ?_)
  refine tIaldM (lo := (-2147483648)) (hi := 2147483647) F hK hH hq_6 (alls ⟨_, rfl, hPi1⟩ (alls1 ⟨_, rfl, hPi2⟩)) (ixb (n := 48) hz_9.2 rfl rfl) dX0_inflowOf_23 (fun z_10 hz_10 => ?_)
  refine lv_aload_n F.1 F.2.1 dX0_inflowOf_24 rfl (lv_at hl 1 rfl) ?_
  refine tGetR (j := 1) F hK hH (tyb ha0 (all2 rfl rfl)) rfl (all1 rfl) clX0 (by decide) wd_5_0 dX0_inflowOf_25 (fun q_11 hq_11 _ => ?_)
  refine tGetI (j := 1) F hK hH (tyb hq_11 (all1 rfl)) rfl clX5 (by decide) wd_22_4 dX0_inflowOf_28 (fun z_12 hz_12 => ?_)
  refine lv_imul F.1 F.2.1 dX0_inflowOf_31 ?_
  refine topF (fun z_13 => ?_)
  refine lv_bipush (v := 100) F.1 F.2.1 dX0_inflowOf_32 (by decide) ?_
  refine topK (a := 100) (by decide) (fun k_14 hk_14 => ?_)
  refine tDivF F dX0_inflowOf_34 (by omega) (fun z_15 => ?_)
  exact txI F hS dX0_inflowOf_35 rfl (⟨(i32b _), hH⟩)
set_option maxHeartbeats 4000000 in
set_option maxRecDepth 100000 in
theorem c_X0_backOf (E : Ev) (rc : TD) (rd : TD) (tp : TD) (Fa1 : Int × Int) (Fb1 : Int × Int) (Fa2 : Int × Int) (Fb2 : Int × Int) (Fa3 : Int × Int) (Fb3 : Int × Int) (Fa4 : Int × Int) (Fb4 : Int × Int) (Pd1 : (Nat → Int32) → Prop) (Pd2 : (Nat → Int32) → Prop) (Pd3 : (Nat → Int32) → Prop) (Pd4 : (Nat → Int32) → Prop) (Ps1 : (Nat → Int32) → Prop) (Ps2 : (Nat → Int32) → Prop) (Ps3 : (Nat → Int32) → Prop) (Ps4 : (Nat → Int32) → Prop) (Pi1 : (Nat → Int32) → Prop) (Pi2 : (Nat → Int32) → Prop) (Pi3 : (Nat → Int32) → Prop) (Pi4 : (Nat → Int32) → Prop) (a0 : Nat) (a1 : Int32) (ha0 : eT E a0 ∈ [24, 25]) (ha1 : 0 ≤ a1.toInt ∧ a1.toInt ≤ 11) (hFa1 : 0 ≤ Fa1.1 ∧ Fa1.2 ≤ 12) (hFb1 : 0 ≤ Fb1.1 ∧ Fb1.2 ≤ 14) (hFa2 : 0 ≤ Fa2.1 ∧ Fa2.2 ≤ 12) (hFb2 : 0 ≤ Fb2.1 ∧ Fb2.2 ≤ 14) (hFa3 : 0 ≤ Fa3.1 ∧ Fa3.2 ≤ 12) (hFb3 : 0 ≤ Fb3.1 ∧ Fb3.2 ≤ 14) (hFa4 : 0 ≤ Fa4.1 ∧ Fa4.2 ≤ 12) (hFb4 : 0 ≤ Fb4.1 ∧ Fb4.2 ≤ 14) (hPd1 : ∀ f, Pd1 f → ivP 12 (-2) 11 f) (hPd2 : ∀ f, Pd2 f → ivP 12 (-2) 11 f) (hPd3 : ∀ f, Pd3 f → ivP 12 (-2) 11 f) (hPd4 : ∀ f, Pd4 f → ivP 12 (-2) 11 f) (hPs1 : ∀ f, Ps1 f → ivP 12 (-2147483648) 2147483647 f) (hPs2 : ∀ f, Ps2 f → ivP 12 (-2147483648) 2147483647 f) (hPs3 : ∀ f, Ps3 f → ivP 12 (-2147483648) 2147483647 f) (hPs4 : ∀ f, Ps4 f → ivP 12 (-2147483648) 2147483647 f) (hPi1 : ∀ f, Pi1 f → ivP 48 (-2147483648) 2147483647 f) (hPi2 : ∀ f, Pi2 f → ivP 48 (-2147483648) 2147483647 f) (hPi3 : ∀ f, Pi3 f → ivP 48 (-2147483648) 2147483647 f) (hPi4 : ∀ f, Pi4 f → ivP 48 (-2147483648) 2147483647 f) : TcI E yX0_backOf cX0_backOf 2 .int ({ frames := 2, cells := 0, slots := 0, locals := 61 }) [.ref a0, .int a1] (fun H => TH E (tbC (dayD (.inl (0, 18))) (dayD (.inl (0, 18))) (riverD (.inl Fa1) (.inl Fb1) (.inl (0, 4)) 31 33 35 39 43 47) (riverD (.inl Fa2) (.inl Fb2) (.inl (0, 4)) 32 34 36 40 44 48) rc rd tp A14F A14F A4F A4F A14F A14F (riverD (.inl Fa3) (.inl Fb3) (.inl (0, 4)) 3 8 3 41 45 49) (riverD (.inl Fa4) (.inl Fb4) (.inl (0, 4)) 3 8 3 42 46 50) ((.inr (.inl (0, 12, Pd1)))) ((.inr (.inl (0, 12, Pd2)))) ((.inr (.inl (0, 12, Pd3)))) ((.inr (.inl (0, 12, Pd4)))) ((.inr (.inl (0, 12, Ps1)))) ((.inr (.inl (0, 12, Ps2)))) ((.inr (.inl (0, 12, Ps3)))) ((.inr (.inl (0, 12, Ps4)))) ((.inr (.inl (0, 48, Pi1)))) ((.inr (.inl (0, 48, Pi2)))) ((.inr (.inl (0, 48, Pi3)))) ((.inr (.inl (0, 48, Pi4))))) H) (fun v H => ((-2147483648) ≤ v.toInt ∧ v.toInt ≤ 2147483647) ∧ TH E (tbC (dayD (.inl (0, 18))) (dayD (.inl (0, 18))) (riverD (.inl Fa1) (.inl Fb1) (.inl (0, 4)) 31 33 35 39 43 47) (riverD (.inl Fa2) (.inl Fb2) (.inl (0, 4)) 32 34 36 40 44 48) rc rd tp A14F A14F A4F A4F A14F A14F (riverD (.inl Fa3) (.inl Fb3) (.inl (0, 4)) 3 8 3 41 45 49) (riverD (.inl Fa4) (.inl Fb4) (.inl (0, 4)) 3 8 3 42 46 50) ((.inr (.inl (0, 12, Pd1)))) ((.inr (.inl (0, 12, Pd2)))) ((.inr (.inl (0, 12, Pd3)))) ((.inr (.inl (0, 12, Pd4)))) ((.inr (.inl (0, 12, Ps1)))) ((.inr (.inl (0, 12, Ps2)))) ((.inr (.inl (0, 12, Ps3)))) ((.inr (.inl (0, 12, Ps4)))) ((.inr (.inl (0, 48, Pi1)))) ((.inr (.inl (0, 48, Pi2)))) ((.inr (.inl (0, 48, Pi3)))) ((.inr (.inl (0, 48, Pi4))))) H) := by
  refine teI (by decide) (Nat.le_of_ble_eq_true rfl) ?_
  intro p_ ev_ s mi_ below_ meth cd_ ls F hK hN hO hH hS hl
  have hH : TH E (tbC (dayD (.inl (0, 18))) (dayD (.inl (0, 18))) (riverD (.inl Fa1) (.inl Fb1) (.inl (0, 4)) 31 33 35 39 43 47) (riverD (.inl Fa2) (.inl Fb2) (.inl (0, 4)) 32 34 36 40 44 48) rc rd tp A14F A14F A4F A4F A14F A14F (riverD (.inl Fa3) (.inl Fb3) (.inl (0, 4)) 3 8 3 41 45 49) (riverD (.inl Fa4) (.inl Fb4) (.inl (0, 4)) 3 8 3 42 46 50) ((.inr (.inl (0, 12, Pd1)))) ((.inr (.inl (0, 12, Pd2)))) ((.inr (.inl (0, 12, Pd3)))) ((.inr (.inl (0, 12, Pd4)))) ((.inr (.inl (0, 12, Ps1)))) ((.inr (.inl (0, 12, Ps2)))) ((.inr (.inl (0, 12, Ps3)))) ((.inr (.inl (0, 12, Ps4)))) ((.inr (.inl (0, 48, Pi1)))) ((.inr (.inl (0, 48, Pi2)))) ((.inr (.inl (0, 48, Pi3)))) ((.inr (.inl (0, 48, Pi4))))) s.heap := hH
  have hl : lv_has ls 2 [(0, .ref a0), (1, .int a1)] := hl
  refine lv_aload_n F.1 F.2.1 dX0_backOf_0 rfl (lv_at hl 0 rfl) ?_
  refine tGetR (j := 1) F hK hH (tyb ha0 (all2 rfl rfl)) rfl (all1 rfl) clX0 (by decide) wd_5_0 dX0_backOf_1 (fun q_1 hq_1 _ => ?_)
  refine tGetR (j := 11) F hK hH (tyb hq_1 (all1 rfl)) rfl (all1 rfl) clX5 (by decide) wd_22_9 dX0_backOf_4 (fun q_2 hq_2 _ => ?_)
  refine lv_aload_n F.1 F.2.1 dX0_backOf_7 rfl (lv_at hl 0 rfl) ?_
  refine tGetR (j := 1) F hK hH (tyb ha0 (all2 rfl rfl)) rfl (all1 rfl) clX0 (by decide) wd_5_0 dX0_backOf_8 (fun q_3 hq_3 _ => ?_)
  refine lv_iconst (v := 0) F.1 F.2.1 dX0_backOf_11 (by decide) ?_
  refine topK (a := 0) (by decide) (fun k_4 hk_4 => ?_)
  refine tVi (b := q_3) (As := [.int k_4]) (rest := [.ref q_2]) F hK hN hO (c_X5_wayRow E (dayD (.inl (0, 18))) (dayD (.inl (0, 18))) (riverD (.inl Fa1) (.inl Fb1) (.inl (0, 4)) 31 33 35 39 43 47) (riverD (.inl Fa2) (.inl Fb2) (.inl (0, 4)) 32 34 36 40 44 48) rc rd tp A14F A14F A4F A4F A14F A14F (riverD (.inl Fa3) (.inl Fb3) (.inl (0, 4)) 3 8 3 41 45 49) (riverD (.inl Fa4) (.inl Fb4) (.inl (0, 4)) 3 8 3 42 46 50) ((.inr (.inl (0, 12, Pd1)))) ((.inr (.inl (0, 12, Pd2)))) ((.inr (.inl (0, 12, Pd3)))) ((.inr (.inl (0, 12, Pd4)))) ((.inr (.inl (0, 12, Ps1)))) ((.inr (.inl (0, 12, Ps2)))) ((.inr (.inl (0, 12, Ps3)))) ((.inr (.inl (0, 12, Ps4)))) ((.inr (.inl (0, 48, Pi1)))) ((.inr (.inl (0, 48, Pi2)))) ((.inr (.inl (0, 48, Pi3)))) ((.inr (.inl (0, 48, Pi4)))) q_3 k_4 hq_3 (wkb (eqb hk_4) rfl rfl)) mv_X5_wayRow wd_22_10 ⟨Nat.le_of_ble_eq_true rfl, Nat.le_of_ble_eq_true rfl⟩ ⟨Nat.le_of_ble_eq_true rfl, Nat.le_of_ble_eq_true rfl⟩ hH hS (tRecv hK hH (tyb hq_3 (all1 rfl)) clX5) rfl hl.1 (Nat.le_of_ble_eq_true rfl) dX0_backOf_12 (fun z_5 H locs hq hS => ?_)
  obtain ⟨f_6, hH⟩ := hq
  have hH : TH E (tbC (dayD (.inl (0, 18))) (dayD (.inl (0, 18))) (riverD (.inl Fa1) (.inl Fb1) (.inl (0, 4)) 31 33 35 39 43 47) (riverD (.inl Fa2) (.inl Fb2) (.inl (0, 4)) 32 34 36 40 44 48) rc rd tp A14F A14F A4F A4F A14F A14F (riverD (.inl Fa3) (.inl Fb3) (.inl (0, 4)) 3 8 3 41 45 49) (riverD (.inl Fa4) (.inl Fb4) (.inl (0, 4)) 3 8 3 42 46 50) ((.inr (.inl (0, 12, Pd1)))) ((.inr (.inl (0, 12, Pd2)))) ((.inr (.inl (0, 12, Pd3)))) ((.inr (.inl (0, 12, Pd4)))) ((.inr (.inl (0, 12, Ps1)))) ((.inr (.inl (0, 12, Ps2)))) ((.inr (.inl (0, 12, Ps3)))) ((.inr (.inl (0, 12, Ps4)))) ((.inr (.inl (0, 48, Pi1)))) ((.inr (.inl (0, 48, Pi2)))) ((.inr (.inl (0, 48, Pi3)))) ((.inr (.inl (0, 48, Pi4))))) H := hH
  refine lv_iload_n F.1 F.2.1 dX0_backOf_15 rfl (lv_at hl 1 rfl) ?_
  refine tAdd (lo := 0) (hi := 359) F dX0_backOf_16 f_6 ha1 rfl (fun z_7 hz_7 => ?_)
  refine tIaldB F hK hH (tyb hq_2 (all1 rfl)) (ixb (n := 360) hz_7.2 rfl rfl) dX0_backOf_17 (fun z_8 hz_8 => ?_)
  exact txI F hS dX0_backOf_18 rfl (⟨hz_8, hH⟩)
set_option maxHeartbeats 4000000 in
set_option maxRecDepth 100000 in
theorem c_X0_bringWater (E : Ev) (rc : TD) (rd : TD) (tp : TD) (Fa1 : Int × Int) (Fb1 : Int × Int) (Fa2 : Int × Int) (Fb2 : Int × Int) (Fa3 : Int × Int) (Fb3 : Int × Int) (Fa4 : Int × Int) (Fb4 : Int × Int) (Pd1 : (Nat → Int32) → Prop) (Pd2 : (Nat → Int32) → Prop) (Pd3 : (Nat → Int32) → Prop) (Pd4 : (Nat → Int32) → Prop) (Ps1 : (Nat → Int32) → Prop) (Ps2 : (Nat → Int32) → Prop) (Ps3 : (Nat → Int32) → Prop) (Ps4 : (Nat → Int32) → Prop) (Pi1 : (Nat → Int32) → Prop) (Pi2 : (Nat → Int32) → Prop) (Pi3 : (Nat → Int32) → Prop) (Pi4 : (Nat → Int32) → Prop) (a0 : Nat) (ha0 : eT E a0 ∈ [24, 25]) (hFa1 : 0 ≤ Fa1.1 ∧ Fa1.2 ≤ 12) (hFb1 : 0 ≤ Fb1.1 ∧ Fb1.2 ≤ 14) (hFa2 : 0 ≤ Fa2.1 ∧ Fa2.2 ≤ 12) (hFb2 : 0 ≤ Fb2.1 ∧ Fb2.2 ≤ 14) (hFa3 : 0 ≤ Fa3.1 ∧ Fa3.2 ≤ 12) (hFb3 : 0 ≤ Fb3.1 ∧ Fb3.2 ≤ 14) (hFa4 : 0 ≤ Fa4.1 ∧ Fa4.2 ≤ 12) (hFb4 : 0 ≤ Fb4.1 ∧ Fb4.2 ≤ 14) (hPd1 : ∀ f, Pd1 f → ivP 12 (-2) 11 f) (hPd2 : ∀ f, Pd2 f → ivP 12 (-2) 11 f) (hPd3 : ∀ f, Pd3 f → ivP 12 (-2) 11 f) (hPd4 : ∀ f, Pd4 f → ivP 12 (-2) 11 f) (hPs1 : ∀ f, Ps1 f → ivP 12 (-2147483648) 2147483647 f) (hPs2 : ∀ f, Ps2 f → ivP 12 (-2147483648) 2147483647 f) (hPs3 : ∀ f, Ps3 f → ivP 12 (-2147483648) 2147483647 f) (hPs4 : ∀ f, Ps4 f → ivP 12 (-2147483648) 2147483647 f) (hPi1 : ∀ f, Pi1 f → ivP 48 (-2147483648) 2147483647 f) (hPi2 : ∀ f, Pi2 f → ivP 48 (-2147483648) 2147483647 f) (hPi3 : ∀ f, Pi3 f → ivP 48 (-2147483648) 2147483647 f) (hPi4 : ∀ f, Pi4 f → ivP 48 (-2147483648) 2147483647 f) : TcV E yX0_bringWater cX0_bringWater 3 ({ frames := 3, cells := 0, slots := 0, locals := 82 }) [.ref a0] (fun H => TH E (tbC (dayD (.inl (0, 18))) (dayD (.inl (0, 18))) (riverD (.inl Fa1) (.inl Fb1) (.inl (0, 4)) 31 33 35 39 43 47) (riverD (.inl Fa2) (.inl Fb2) (.inl (0, 4)) 32 34 36 40 44 48) rc rd tp A14F A14F A4F A4F A14F A14F (riverD (.inl Fa3) (.inl Fb3) (.inl (0, 4)) 3 8 3 41 45 49) (riverD (.inl Fa4) (.inl Fb4) (.inl (0, 4)) 3 8 3 42 46 50) ((.inr (.inl (0, 12, Pd1)))) ((.inr (.inl (0, 12, Pd2)))) ((.inr (.inl (0, 12, Pd3)))) ((.inr (.inl (0, 12, Pd4)))) ((.inr (.inl (0, 12, Ps1)))) ((.inr (.inl (0, 12, Ps2)))) ((.inr (.inl (0, 12, Ps3)))) ((.inr (.inl (0, 12, Ps4)))) ((.inr (.inl (0, 48, Pi1)))) ((.inr (.inl (0, 48, Pi2)))) ((.inr (.inl (0, 48, Pi3)))) ((.inr (.inl (0, 48, Pi4))))) H) (fun H => TH E (tbC (dayD (.inl (0, 18))) (dayD (.inl (0, 18))) (riverD (.inl Fa1) (.inl Fb1) (.inl (0, 4)) 31 33 35 39 43 47) (riverD (.inl Fa2) (.inl Fb2) (.inl (0, 4)) 32 34 36 40 44 48) rc rd tp A14F A14F A4F A4F A14F A14F (riverD (.inl Fa3) (.inl Fb3) (.inl (0, 4)) 3 8 3 41 45 49) (riverD (.inl Fa4) (.inl Fb4) (.inl (0, 4)) 3 8 3 42 46 50) ((.inr (.inl (0, 12, Pd1)))) ((.inr (.inl (0, 12, Pd2)))) ((.inr (.inl (0, 12, Pd3)))) ((.inr (.inl (0, 12, Pd4)))) ((.inr (.inl (0, 12, Ps1)))) ((.inr (.inl (0, 12, Ps2)))) ((.inr (.inl (0, 12, Ps3)))) ((.inr (.inl (0, 12, Ps4)))) ((.inr (.inl (0, 48, Pi1)))) ((.inr (.inl (0, 48, Pi2)))) ((.inr (.inl (0, 48, Pi3)))) ((.inr (.inl (0, 48, Pi4))))) H) := by
  refine teV (by decide) (Nat.le_of_ble_eq_true rfl) ?_
  intro p_ ev_ s mi_ below_ meth cd_ ls F hK hN hO hH hS hl
  have hH : TH E (tbC (dayD (.inl (0, 18))) (dayD (.inl (0, 18))) (riverD (.inl Fa1) (.inl Fb1) (.inl (0, 4)) 31 33 35 39 43 47) (riverD (.inl Fa2) (.inl Fb2) (.inl (0, 4)) 32 34 36 40 44 48) rc rd tp A14F A14F A4F A4F A14F A14F (riverD (.inl Fa3) (.inl Fb3) (.inl (0, 4)) 3 8 3 41 45 49) (riverD (.inl Fa4) (.inl Fb4) (.inl (0, 4)) 3 8 3 42 46 50) ((.inr (.inl (0, 12, Pd1)))) ((.inr (.inl (0, 12, Pd2)))) ((.inr (.inl (0, 12, Pd3)))) ((.inr (.inl (0, 12, Pd4)))) ((.inr (.inl (0, 12, Ps1)))) ((.inr (.inl (0, 12, Ps2)))) ((.inr (.inl (0, 12, Ps3)))) ((.inr (.inl (0, 12, Ps4)))) ((.inr (.inl (0, 48, Pi1)))) ((.inr (.inl (0, 48, Pi2)))) ((.inr (.inl (0, 48, Pi3)))) ((.inr (.inl (0, 48, Pi4))))) s.heap := hH
  have hl : lv_has ls 3 [(0, .ref a0)] := hl
  refine lv_iconst (v := 0) F.1 F.2.1 dX0_bringWater_0 (by decide) ?_
  refine topK (a := 0) (by decide) (fun k_1 hk_1 => ?_)
  refine lv_istore_n (lv' := [(1, .int k_1), (0, .ref a0)]) F.1 F.2.1 dX0_bringWater_1 rfl hl (by decide) rfl (fun ls hl => ?_)
  refine wloop (σ := Int32) (fun n9 x9 H locs ls => (14 - x9.toInt + 1).toNat < n9 ∧ (0 ≤ x9.toInt ∧ x9.toInt ≤ 14) ∧ TH E (tbC (dayD (.inl (0, 18))) (dayD (.inl (0, 18))) (riverD (.inl Fa1) (.inl Fb1) (.inl (0, 4)) 31 33 35 39 43 47) (riverD (.inl Fa2) (.inl Fb2) (.inl (0, 4)) 32 34 36 40 44 48) rc rd tp A14F A14F A4F A4F A14F A14F (riverD (.inl Fa3) (.inl Fb3) (.inl (0, 4)) 3 8 3 41 45 49) (riverD (.inl Fa4) (.inl Fb4) (.inl (0, 4)) 3 8 3 42 46 50) ((.inr (.inl (0, 12, Pd1)))) ((.inr (.inl (0, 12, Pd2)))) ((.inr (.inl (0, 12, Pd3)))) ((.inr (.inl (0, 12, Pd4)))) ((.inr (.inl (0, 12, Ps1)))) ((.inr (.inl (0, 12, Ps2)))) ((.inr (.inl (0, 12, Ps3)))) ((.inr (.inl (0, 12, Ps4)))) ((.inr (.inl (0, 48, Pi1)))) ((.inr (.inl (0, 48, Pi2)))) ((.inr (.inl (0, 48, Pi3)))) ((.inr (.inl (0, 48, Pi4))))) H ∧ va_S (eA E s.heap.size) s.heap H locs ∧ lv_has ls 3 [(0, .ref a0), (1, .int x9)]) ?_ (fun x9 H locs ls h => absurd h.1 (Nat.not_lt_zero _)) _ (k_1) ⟨Nat.lt_succ_self _, (wkb (eqb hk_1) rfl rfl), hH, hS, lv_sub hl [1, 0] rfl⟩
  intro n_2 ih_2 u_2 H locs ls ⟨hm_2, hu_2, hH, hS, hl⟩
  have hm_2 : (14 - u_2.toInt + 1).toNat < n_2 + 1 := hm_2
  have hu_2 : (0 ≤ u_2.toInt ∧ u_2.toInt ≤ 14) := hu_2
  have hH : TH E (tbC (dayD (.inl (0, 18))) (dayD (.inl (0, 18))) (riverD (.inl Fa1) (.inl Fb1) (.inl (0, 4)) 31 33 35 39 43 47) (riverD (.inl Fa2) (.inl Fb2) (.inl (0, 4)) 32 34 36 40 44 48) rc rd tp A14F A14F A4F A4F A14F A14F (riverD (.inl Fa3) (.inl Fb3) (.inl (0, 4)) 3 8 3 41 45 49) (riverD (.inl Fa4) (.inl Fb4) (.inl (0, 4)) 3 8 3 42 46 50) ((.inr (.inl (0, 12, Pd1)))) ((.inr (.inl (0, 12, Pd2)))) ((.inr (.inl (0, 12, Pd3)))) ((.inr (.inl (0, 12, Pd4)))) ((.inr (.inl (0, 12, Ps1)))) ((.inr (.inl (0, 12, Ps2)))) ((.inr (.inl (0, 12, Ps3)))) ((.inr (.inl (0, 12, Ps4)))) ((.inr (.inl (0, 48, Pi1)))) ((.inr (.inl (0, 48, Pi2)))) ((.inr (.inl (0, 48, Pi3)))) ((.inr (.inl (0, 48, Pi4))))) H := hH
  have hl : lv_has ls 3 [(0, .ref a0), (1, .int u_2)] := hl
  refine lv_iload_n F.1 F.2.1 dX0_bringWater_2 rfl (lv_at hl 1 rfl) ?_
  refine lv_aload_n F.1 F.2.1 dX0_bringWater_3 rfl (lv_at hl 0 rfl) ?_
  refine tGetR0 (j := 0) F hK hH (tyb ha0 (all2 rfl rfl)) rfl clX0 (by decide) wd_4_23 dX0_bringWater_4 (fun q_3 hq_3 => ?_)
  refine tGetIB (j := 4) (lo := 0) (hi := 14) F hK hH hq_3 (alls ⟨_, _, rfl, rfl, by have h9_ := hFb1; omega⟩ (alls1 ⟨_, _, rfl, rfl, by have h9_ := hFb2; omega⟩)) clX2 (by decide) wd_20_4 dX0_bringWater_7 (fun z_4 hz_4 => ?_)
  refine b_ge (tgt := 30) F dX0_bringWater_10 (by decide) (fun c_5 => ?_) (fun c_5 => ?_)
  · skip
    refine lv_iconst (v := 0) F.1 F.2.1 dX0_bringWater_30 (by decide) ?_
    refine topK (a := 0) (by decide) (fun k_8 hk_8 => ?_)
    refine lv_istore_n (lv' := [(1, .int k_8), (0, .ref a0)]) F.1 F.2.1 dX0_bringWater_31 rfl hl (by decide) rfl (fun ls hl => ?_)
    refine wloop (σ := Int32) (fun n9 x9 H locs ls => (4 - x9.toInt + 1).toNat < n9 ∧ (0 ≤ x9.toInt ∧ x9.toInt ≤ 4) ∧ TH E (tbC (dayD (.inl (0, 18))) (dayD (.inl (0, 18))) (riverD (.inl Fa1) (.inl Fb1) (.inl (0, 4)) 31 33 35 39 43 47) (riverD (.inl Fa2) (.inl Fb2) (.inl (0, 4)) 32 34 36 40 44 48) rc rd tp A14F A14F A4F A4F A14F A14F (riverD (.inl Fa3) (.inl Fb3) (.inl (0, 4)) 3 8 3 41 45 49) (riverD (.inl Fa4) (.inl Fb4) (.inl (0, 4)) 3 8 3 42 46 50) ((.inr (.inl (0, 12, Pd1)))) ((.inr (.inl (0, 12, Pd2)))) ((.inr (.inl (0, 12, Pd3)))) ((.inr (.inl (0, 12, Pd4)))) ((.inr (.inl (0, 12, Ps1)))) ((.inr (.inl (0, 12, Ps2)))) ((.inr (.inl (0, 12, Ps3)))) ((.inr (.inl (0, 12, Ps4)))) ((.inr (.inl (0, 48, Pi1)))) ((.inr (.inl (0, 48, Pi2)))) ((.inr (.inl (0, 48, Pi3)))) ((.inr (.inl (0, 48, Pi4))))) H ∧ va_S (eA E s.heap.size) s.heap H locs ∧ lv_has ls 3 [(0, .ref a0), (1, .int x9)]) ?_ (fun x9 H locs ls h => absurd h.1 (Nat.not_lt_zero _)) _ (k_8) ⟨Nat.lt_succ_self _, (wkb (eqb hk_8) rfl rfl), hH, hS, lv_sub hl [1, 0] rfl⟩
    intro n_32 ih_32 u_9 H locs ls ⟨hm_32, hu_9, hH, hS, hl⟩
    have hm_32 : (4 - u_9.toInt + 1).toNat < n_32 + 1 := hm_32
    have hu_9 : (0 ≤ u_9.toInt ∧ u_9.toInt ≤ 4) := hu_9
    have hH : TH E (tbC (dayD (.inl (0, 18))) (dayD (.inl (0, 18))) (riverD (.inl Fa1) (.inl Fb1) (.inl (0, 4)) 31 33 35 39 43 47) (riverD (.inl Fa2) (.inl Fb2) (.inl (0, 4)) 32 34 36 40 44 48) rc rd tp A14F A14F A4F A4F A14F A14F (riverD (.inl Fa3) (.inl Fb3) (.inl (0, 4)) 3 8 3 41 45 49) (riverD (.inl Fa4) (.inl Fb4) (.inl (0, 4)) 3 8 3 42 46 50) ((.inr (.inl (0, 12, Pd1)))) ((.inr (.inl (0, 12, Pd2)))) ((.inr (.inl (0, 12, Pd3)))) ((.inr (.inl (0, 12, Pd4)))) ((.inr (.inl (0, 12, Ps1)))) ((.inr (.inl (0, 12, Ps2)))) ((.inr (.inl (0, 12, Ps3)))) ((.inr (.inl (0, 12, Ps4)))) ((.inr (.inl (0, 48, Pi1)))) ((.inr (.inl (0, 48, Pi2)))) ((.inr (.inl (0, 48, Pi3)))) ((.inr (.inl (0, 48, Pi4))))) H := hH
    have hl : lv_has ls 3 [(0, .ref a0), (1, .int u_9)] := hl
    refine lv_iload_n F.1 F.2.1 dX0_bringWater_32 rfl (lv_at hl 1 rfl) ?_
    refine lv_aload_n F.1 F.2.1 dX0_bringWater_33 rfl (lv_at hl 0 rfl) ?_
    refine tGetR0 (j := 0) F hK hH (tyb ha0 (all2 rfl rfl)) rfl clX0 (by decide) wd_4_23 dX0_bringWater_34 (fun q_10 hq_10 => ?_)
    refine tGetIM (j := 14) F hK hH hq_10 (alls ⟨_, rfl, rfl⟩ (alls1 ⟨_, rfl, rfl⟩)) clX2 (by decide) wd_20_6 dX0_bringWater_37 (fun z_11 hz_11 => ?_)
    refine b_ge (tgt := 89) F dX0_bringWater_40 (by decide) (fun c_12 => ?_) (fun c_12 => ?_)
    · skip
      refine lv_iconst (v := 0) F.1 F.2.1 dX0_bringWater_89 (by decide) ?_
      refine topK (a := 0) (by decide) (fun k_15 hk_15 => ?_)
      refine lv_istore_n (lv' := [(1, .int k_15), (0, .ref a0)]) F.1 F.2.1 dX0_bringWater_90 rfl hl (by decide) rfl (fun ls hl => ?_)
      refine wloop (σ := Int32) (fun n9 x9 H locs ls => (12 - x9.toInt + 1).toNat < n9 ∧ (0 ≤ x9.toInt ∧ x9.toInt ≤ 12) ∧ TH E (tbC (dayD (.inl (0, 18))) (dayD (.inl (0, 18))) (riverD (.inl Fa1) (.inl Fb1) (.inl (0, 4)) 31 33 35 39 43 47) (riverD (.inl Fa2) (.inl Fb2) (.inl (0, 4)) 32 34 36 40 44 48) rc rd tp A14F A14F A4F A4F A14F A14F (riverD (.inl Fa3) (.inl Fb3) (.inl (0, 4)) 3 8 3 41 45 49) (riverD (.inl Fa4) (.inl Fb4) (.inl (0, 4)) 3 8 3 42 46 50) ((.inr (.inl (0, 12, Pd1)))) ((.inr (.inl (0, 12, Pd2)))) ((.inr (.inl (0, 12, Pd3)))) ((.inr (.inl (0, 12, Pd4)))) ((.inr (.inl (0, 12, Ps1)))) ((.inr (.inl (0, 12, Ps2)))) ((.inr (.inl (0, 12, Ps3)))) ((.inr (.inl (0, 12, Ps4)))) ((.inr (.inl (0, 48, Pi1)))) ((.inr (.inl (0, 48, Pi2)))) ((.inr (.inl (0, 48, Pi3)))) ((.inr (.inl (0, 48, Pi4))))) H ∧ va_S (eA E s.heap.size) s.heap H locs ∧ lv_has ls 3 [(0, .ref a0), (1, .int x9)]) ?_ (fun x9 H locs ls h => absurd h.1 (Nat.not_lt_zero _)) _ (k_15) ⟨Nat.lt_succ_self _, (wkb (eqb hk_15) rfl rfl), hH, hS, lv_sub hl [1, 0] rfl⟩
      intro n_91 ih_91 u_16 H locs ls ⟨hm_91, hu_16, hH, hS, hl⟩
      have hm_91 : (12 - u_16.toInt + 1).toNat < n_91 + 1 := hm_91
      have hu_16 : (0 ≤ u_16.toInt ∧ u_16.toInt ≤ 12) := hu_16
      have hH : TH E (tbC (dayD (.inl (0, 18))) (dayD (.inl (0, 18))) (riverD (.inl Fa1) (.inl Fb1) (.inl (0, 4)) 31 33 35 39 43 47) (riverD (.inl Fa2) (.inl Fb2) (.inl (0, 4)) 32 34 36 40 44 48) rc rd tp A14F A14F A4F A4F A14F A14F (riverD (.inl Fa3) (.inl Fb3) (.inl (0, 4)) 3 8 3 41 45 49) (riverD (.inl Fa4) (.inl Fb4) (.inl (0, 4)) 3 8 3 42 46 50) ((.inr (.inl (0, 12, Pd1)))) ((.inr (.inl (0, 12, Pd2)))) ((.inr (.inl (0, 12, Pd3)))) ((.inr (.inl (0, 12, Pd4)))) ((.inr (.inl (0, 12, Ps1)))) ((.inr (.inl (0, 12, Ps2)))) ((.inr (.inl (0, 12, Ps3)))) ((.inr (.inl (0, 12, Ps4)))) ((.inr (.inl (0, 48, Pi1)))) ((.inr (.inl (0, 48, Pi2)))) ((.inr (.inl (0, 48, Pi3)))) ((.inr (.inl (0, 48, Pi4))))) H := hH
      have hl : lv_has ls 3 [(0, .ref a0), (1, .int u_16)] := hl
      refine lv_iload_n F.1 F.2.1 dX0_bringWater_91 rfl (lv_at hl 1 rfl) ?_
      refine lv_aload_n F.1 F.2.1 dX0_bringWater_92 rfl (lv_at hl 0 rfl) ?_
      refine tGetR0 (j := 0) F hK hH (tyb ha0 (all2 rfl rfl)) rfl clX0 (by decide) wd_4_23 dX0_bringWater_93 (fun q_17 hq_17 => ?_)
      refine tGetIB (j := 0) (lo := 0) (hi := 12) F hK hH hq_17 (alls ⟨_, _, rfl, rfl, by have h9_ := hFa1; omega⟩ (alls1 ⟨_, _, rfl, rfl, by have h9_ := hFa2; omega⟩)) clX2 (by decide) wd_21_6 dX0_bringWater_96 (fun z_18 hz_18 => ?_)
      refine b_ge (tgt := 146) F dX0_bringWater_99 (by decide) (fun c_19 => ?_) (fun c_19 => ?_)
      · skip
        refine lv_aload_n F.1 F.2.1 dX0_bringWater_146 rfl (lv_at hl 0 rfl) ?_
        refine tGetR0 (j := 0) F hK hH (tyb ha0 (all2 rfl rfl)) rfl clX0 (by decide) wd_4_23 dX0_bringWater_147 (fun q_22 hq_22 => ?_)
        refine tGetIB (j := 0) (lo := 0) (hi := 12) F hK hH hq_22 (alls ⟨_, _, rfl, rfl, by have h9_ := hFa1; omega⟩ (alls1 ⟨_, _, rfl, rfl, by have h9_ := hFa2; omega⟩)) clX2 (by decide) wd_21_6 dX0_bringWater_150 (fun z_23 hz_23 => ?_)
        refine lv_iconst (v := 1) F.1 F.2.1 dX0_bringWater_153 (by decide) ?_
        refine topK (a := 1) (by decide) (fun k_24 hk_24 => ?_)
        refine tSub (lo := (-1)) (hi := 11) F dX0_bringWater_154 hz_23 (eqb hk_24) rfl (fun z_25 hz_25 => ?_)
        refine lv_istore_n (lv' := [(1, .int z_25), (0, .ref a0)]) F.1 F.2.1 dX0_bringWater_155 rfl hl (by decide) rfl (fun ls hl => ?_)
        refine wloop (σ := Int32) (fun n9 x9 H locs ls => (x9.toInt - (-1) + 1).toNat < n9 ∧ ((-1) ≤ x9.toInt ∧ x9.toInt ≤ 11) ∧ TH E (tbC (dayD (.inl (0, 18))) (dayD (.inl (0, 18))) (riverD (.inl Fa1) (.inl Fb1) (.inl (0, 4)) 31 33 35 39 43 47) (riverD (.inl Fa2) (.inl Fb2) (.inl (0, 4)) 32 34 36 40 44 48) rc rd tp A14F A14F A4F A4F A14F A14F (riverD (.inl Fa3) (.inl Fb3) (.inl (0, 4)) 3 8 3 41 45 49) (riverD (.inl Fa4) (.inl Fb4) (.inl (0, 4)) 3 8 3 42 46 50) ((.inr (.inl (0, 12, Pd1)))) ((.inr (.inl (0, 12, Pd2)))) ((.inr (.inl (0, 12, Pd3)))) ((.inr (.inl (0, 12, Pd4)))) ((.inr (.inl (0, 12, Ps1)))) ((.inr (.inl (0, 12, Ps2)))) ((.inr (.inl (0, 12, Ps3)))) ((.inr (.inl (0, 12, Ps4)))) ((.inr (.inl (0, 48, Pi1)))) ((.inr (.inl (0, 48, Pi2)))) ((.inr (.inl (0, 48, Pi3)))) ((.inr (.inl (0, 48, Pi4))))) H ∧ va_S (eA E s.heap.size) s.heap H locs ∧ lv_has ls 3 [(0, .ref a0), (1, .int x9)]) ?_ (fun x9 H locs ls h => absurd h.1 (Nat.not_lt_zero _)) _ (z_25) ⟨Nat.lt_succ_self _, hz_25.2, hH, hS, lv_sub hl [1, 0] rfl⟩
        intro n_156 ih_156 u_26 H locs ls ⟨hm_156, hu_26, hH, hS, hl⟩
        have hm_156 : (u_26.toInt - (-1) + 1).toNat < n_156 + 1 := hm_156
        have hu_26 : ((-1) ≤ u_26.toInt ∧ u_26.toInt ≤ 11) := hu_26
        have hH : TH E (tbC (dayD (.inl (0, 18))) (dayD (.inl (0, 18))) (riverD (.inl Fa1) (.inl Fb1) (.inl (0, 4)) 31 33 35 39 43 47) (riverD (.inl Fa2) (.inl Fb2) (.inl (0, 4)) 32 34 36 40 44 48) rc rd tp A14F A14F A4F A4F A14F A14F (riverD (.inl Fa3) (.inl Fb3) (.inl (0, 4)) 3 8 3 41 45 49) (riverD (.inl Fa4) (.inl Fb4) (.inl (0, 4)) 3 8 3 42 46 50) ((.inr (.inl (0, 12, Pd1)))) ((.inr (.inl (0, 12, Pd2)))) ((.inr (.inl (0, 12, Pd3)))) ((.inr (.inl (0, 12, Pd4)))) ((.inr (.inl (0, 12, Ps1)))) ((.inr (.inl (0, 12, Ps2)))) ((.inr (.inl (0, 12, Ps3)))) ((.inr (.inl (0, 12, Ps4)))) ((.inr (.inl (0, 48, Pi1)))) ((.inr (.inl (0, 48, Pi2)))) ((.inr (.inl (0, 48, Pi3)))) ((.inr (.inl (0, 48, Pi4))))) H := hH
        have hl : lv_has ls 3 [(0, .ref a0), (1, .int u_26)] := hl
        refine lv_iload_n F.1 F.2.1 dX0_bringWater_156 rfl (lv_at hl 1 rfl) ?_
        refine z_lt (tgt := 221) F dX0_bringWater_157 (by decide) (fun c_27 => ?_) (fun c_27 => ?_)
        · skip
          have r_28 : (-1) ≤ u_26.toInt ∧ u_26.toInt ≤ (-1) := by have h9_ := hu_26; omega
          exact txV F hS dX0_bringWater_221 (hH)
        · skip
          have r_29 : 0 ≤ u_26.toInt ∧ u_26.toInt ≤ 11 := by have h9_ := hu_26; omega
          refine lv_aload_n F.1 F.2.1 dX0_bringWater_160 rfl (lv_at hl 0 rfl) ?_
          refine tGetR (j := 6) F hK hH (tyb ha0 (all2 rfl rfl)) rfl (all1 rfl) clX0 (by decide) wd_4_15 dX0_bringWater_161 (fun q_30 hq_30 _ => ?_)
          refine lv_iload_n F.1 F.2.1 dX0_bringWater_164 rfl (lv_at hl 1 rfl) ?_
          refine lv_iconst (v := 0) F.1 F.2.1 dX0_bringWater_165 (by decide) ?_
          refine topK (a := 0) (by decide) (fun k_31 hk_31 => ?_)
          refine lv_aload_n F.1 F.2.1 dX0_bringWater_166 rfl (lv_at hl 0 rfl) ?_
          refine tGetR (j := 5) F hK hH (tyb ha0 (all2 rfl rfl)) rfl (all1 rfl) clX0 (by decide) wd_4_14 dX0_bringWater_167 (fun q_32 hq_32 _ => ?_)
          refine lv_iload_n F.1 F.2.1 dX0_bringWater_170 rfl (lv_at hl 1 rfl) ?_
          refine tIaldB F hK hH (tyb hq_32 (all1 rfl)) (ixb (n := 12) r_29 rfl rfl) dX0_bringWater_171 (fun z_33 hz_33 => ?_)
          refine lv_aload_n F.1 F.2.1 dX0_bringWater_172 rfl (lv_at hl 0 rfl) ?_
          refine tGetR0 (j := 0) F hK hH (tyb ha0 (all2 rfl rfl)) rfl clX0 (by decide) wd_4_23 dX0_bringWater_173 (fun q_34 hq_34 => ?_)
          refine tGetRM0 (j := 2) (L := [43, 44]) F hK hH hq_34 (alls ⟨_, _, rfl, rfl, by decide⟩ (alls1 ⟨_, _, rfl, rfl, by decide⟩)) clX2 (by decide) wd_21_8 dX0_bringWater_176 (fun q_35 hq_35 => ?_)
          refine lv_iload_n F.1 F.2.1 dX0_bringWater_179 rfl (lv_at hl 1 rfl) ?_
          refine tIaldM (lo := (-2147483648)) (hi := 2147483647) F hK hH hq_35 (alls ⟨_, rfl, hPs1⟩ (alls1 ⟨_, rfl, hPs2⟩)) (ixb (n := 12) r_29 rfl rfl) dX0_bringWater_180 (fun z_36 hz_36 => ?_)
          refine lv_isub F.1 F.2.1 dX0_bringWater_181 ?_
          refine topF (fun z_37 => ?_)
          refine tMax (lo := 0) (hi := 2147483647) F wd_21_9 wd_21_10 wd_9_1 wd_21_11 hl.1 (Nat.le_of_ble_eq_true rfl) (Nat.le_of_ble_eq_true rfl) (Nat.le_of_ble_eq_true rfl) (Nat.le_of_ble_eq_true rfl) dX0_bringWater_182 (eqb hk_31) (i32b _) rfl (fun z_38 hz_38 => ?_)
          refine tIastB F hK hH hS (tyb hq_30 (all1 rfl)) (ixb (n := 12) r_29 rfl rfl) (wkb hz_38.2 rfl rfl) dX0_bringWater_185 (fun H locs hH hS => ?_)
          refine lv_aload_n F.1 F.2.1 dX0_bringWater_186 rfl (lv_at hl 0 rfl) ?_
          refine tGetR0 (j := 0) F hK hH (tyb ha0 (all2 rfl rfl)) rfl clX0 (by decide) wd_4_23 dX0_bringWater_187 (fun q_39 hq_39 => ?_)
          refine tGetRM0 (j := 1) (L := [39, 40]) F hK hH hq_39 (alls ⟨_, _, rfl, rfl, by decide⟩ (alls1 ⟨_, _, rfl, rfl, by decide⟩)) clX2 (by decide) wd_21_12 dX0_bringWater_190 (fun q_40 hq_40 => ?_)
          refine lv_iload_n F.1 F.2.1 dX0_bringWater_193 rfl (lv_at hl 1 rfl) ?_
          refine tIaldM (lo := (-2)) (hi := 11) F hK hH hq_40 (alls ⟨_, rfl, hPd1⟩ (alls1 ⟨_, rfl, hPd2⟩)) (ixb (n := 12) r_29 rfl rfl) dX0_bringWater_194 (fun z_41 hz_41 => ?_)
          refine lv_istore_n (lv' := [(2, .int z_41), (0, .ref a0), (1, .int u_26)]) F.1 F.2.1 dX0_bringWater_195 rfl hl (by decide) rfl (fun ls hl => ?_)
          refine lv_iload_n F.1 F.2.1 dX0_bringWater_196 rfl (lv_at hl 0 rfl) ?_
          refine z_lt (tgt := 215) F dX0_bringWater_197 (by decide) (fun c_42 => ?_) (fun c_42 => ?_)
          · skip
            have r_43 : (-2) ≤ z_41.toInt ∧ z_41.toInt ≤ (-1) := by have h9_ := hz_41; omega
            obtain ⟨x_45, ex_45, hx_45⟩ := iincB (c := (-1)) (lo := (-1)) (hi := 10) r_29 rfl
            refine lv_iinc (v := x_45) (lv' := [(1, .int x_45), (2, .int z_41), (0, .ref a0)]) F.1 F.2.1 dX0_bringWater_215 hl (k := 2) rfl ex_45 (by decide) rfl (fun ls hl => ?_)
            refine lv_goto (tgt := 156) F.1 F.2.1 dX0_bringWater_218 (by decide) ?_
            exact ih_156 (x_45) _ _ _ ⟨(show (x_45.toInt - (-1) + 1).toNat < n_156 from by omega), (wkb hx_45.2 rfl rfl), hH, hS, lv_sub hl [2, 0] rfl⟩
          · skip
            have r_44 : 0 ≤ z_41.toInt ∧ z_41.toInt ≤ 11 := by have h9_ := hz_41; omega
            refine lv_aload_n F.1 F.2.1 dX0_bringWater_200 rfl (lv_at hl 1 rfl) ?_
            refine tGetR (j := 5) F hK hH (tyb ha0 (all2 rfl rfl)) rfl (all1 rfl) clX0 (by decide) wd_4_14 dX0_bringWater_201 (fun q_46 hq_46 _ => ?_)
            refine lv_iload_n F.1 F.2.1 dX0_bringWater_204 rfl (lv_at hl 0 rfl) ?_
            refine lv_dup2_11 F.1 F.2.1 dX0_bringWater_205 rfl rfl ?_
            refine tIaldB F hK hH (tyb hq_46 (all1 rfl)) (ixb (n := 12) r_44 rfl rfl) dX0_bringWater_206 (fun z_47 hz_47 => ?_)
            refine lv_aload_n F.1 F.2.1 dX0_bringWater_207 rfl (lv_at hl 1 rfl) ?_
            refine tGetR (j := 6) F hK hH (tyb ha0 (all2 rfl rfl)) rfl (all1 rfl) clX0 (by decide) wd_4_15 dX0_bringWater_208 (fun q_48 hq_48 _ => ?_)
            refine lv_iload_n F.1 F.2.1 dX0_bringWater_211 rfl (lv_at hl 2 rfl) ?_
            refine tIaldB F hK hH (tyb hq_48 (all1 rfl)) (ixb (n := 12) r_29 rfl rfl) dX0_bringWater_212 (fun z_49 hz_49 => ?_)
            refine lv_iadd F.1 F.2.1 dX0_bringWater_213 ?_
            refine topF (fun z_50 => ?_)
            refine tIastB F hK hH hS (tyb hq_46 (all1 rfl)) (ixb (n := 12) r_44 rfl rfl) (i32b _) dX0_bringWater_214 (fun H locs hH hS => ?_)
            obtain ⟨x_51, ex_51, hx_51⟩ := iincB (c := (-1)) (lo := (-1)) (hi := 10) r_29 rfl
            refine lv_iinc (v := x_51) (lv' := [(1, .int x_51), (2, .int z_41), (0, .ref a0)]) F.1 F.2.1 dX0_bringWater_215 hl (k := 2) rfl ex_51 (by decide) rfl (fun ls hl => ?_)
            refine lv_goto (tgt := 156) F.1 F.2.1 dX0_bringWater_218 (by decide) ?_
            exact ih_156 (x_51) _ _ _ ⟨(show (x_51.toInt - (-1) + 1).toNat < n_156 from by omega), (wkb hx_51.2 rfl rfl), hH, hS, lv_sub hl [2, 0] rfl⟩
      · skip
        have r_20 : 0 ≤ u_16.toInt ∧ u_16.toInt ≤ 11 := by have h9_ := hu_16; omega
        have r_21 : 1 ≤ z_18.toInt ∧ z_18.toInt ≤ 12 := by have h9_ := hz_18; omega
        refine lv_aload_n F.1 F.2.1 dX0_bringWater_102 rfl (lv_at hl 0 rfl) ?_
        refine tGetR (j := 5) F hK hH (tyb ha0 (all2 rfl rfl)) rfl (all1 rfl) clX0 (by decide) wd_4_14 dX0_bringWater_103 (fun q_52 hq_52 _ => ?_)
        refine lv_iload_n F.1 F.2.1 dX0_bringWater_106 rfl (lv_at hl 1 rfl) ?_
        refine lv_aload_n F.1 F.2.1 dX0_bringWater_107 rfl (lv_at hl 0 rfl) ?_
        refine lv_iload_n F.1 F.2.1 dX0_bringWater_108 rfl (lv_at hl 1 rfl) ?_
        refine tVi (b := a0) (As := [.int u_16]) (rest := [.int u_16, .ref q_52]) F hK hN hO (c_X0_inflowOf E rc rd tp Fa1 Fb1 Fa2 Fb2 Fa3 Fb3 Fa4 Fb4 Pd1 Pd2 Pd3 Pd4 Ps1 Ps2 Ps3 Ps4 Pi1 Pi2 Pi3 Pi4 a0 u_16 ha0 r_20 hFa1 hFb1 hFa2 hFb2 hFa3 hFb3 hFa4 hFb4 hPd1 hPd2 hPd3 hPd4 hPs1 hPs2 hPs3 hPs4 hPi1 hPi2 hPi3 hPi4) mv_X0_inflowOf wd_21_23 ⟨Nat.le_of_ble_eq_true rfl, Nat.le_of_ble_eq_true rfl⟩ ⟨Nat.le_of_ble_eq_true rfl, Nat.le_of_ble_eq_true rfl⟩ hH hS (tRecv hK hH (tyb ha0 (all2 rfl rfl)) clX0) rfl hl.1 (Nat.le_of_ble_eq_true rfl) dX0_bringWater_109 (fun z_53 H locs hq hS => ?_)
        obtain ⟨f_54, hH⟩ := hq
        have hH : TH E (tbC (dayD (.inl (0, 18))) (dayD (.inl (0, 18))) (riverD (.inl Fa1) (.inl Fb1) (.inl (0, 4)) 31 33 35 39 43 47) (riverD (.inl Fa2) (.inl Fb2) (.inl (0, 4)) 32 34 36 40 44 48) rc rd tp A14F A14F A4F A4F A14F A14F (riverD (.inl Fa3) (.inl Fb3) (.inl (0, 4)) 3 8 3 41 45 49) (riverD (.inl Fa4) (.inl Fb4) (.inl (0, 4)) 3 8 3 42 46 50) ((.inr (.inl (0, 12, Pd1)))) ((.inr (.inl (0, 12, Pd2)))) ((.inr (.inl (0, 12, Pd3)))) ((.inr (.inl (0, 12, Pd4)))) ((.inr (.inl (0, 12, Ps1)))) ((.inr (.inl (0, 12, Ps2)))) ((.inr (.inl (0, 12, Ps3)))) ((.inr (.inl (0, 12, Ps4)))) ((.inr (.inl (0, 48, Pi1)))) ((.inr (.inl (0, 48, Pi2)))) ((.inr (.inl (0, 48, Pi3)))) ((.inr (.inl (0, 48, Pi4))))) H := hH
        refine lv_aload_n F.1 F.2.1 dX0_bringWater_112 rfl (lv_at hl 0 rfl) ?_
        refine lv_iload_n F.1 F.2.1 dX0_bringWater_113 rfl (lv_at hl 1 rfl) ?_
        refine tVi (b := a0) (As := [.int u_16]) (rest := [.int z_53, .int u_16, .ref q_52]) F hK hN hO (c_X0_backOf E rc rd tp Fa1 Fb1 Fa2 Fb2 Fa3 Fb3 Fa4 Fb4 Pd1 Pd2 Pd3 Pd4 Ps1 Ps2 Ps3 Ps4 Pi1 Pi2 Pi3 Pi4 a0 u_16 ha0 r_20 hFa1 hFb1 hFa2 hFb2 hFa3 hFb3 hFa4 hFb4 hPd1 hPd2 hPd3 hPd4 hPs1 hPs2 hPs3 hPs4 hPi1 hPi2 hPi3 hPi4) mv_X0_backOf wd_22_5 ⟨Nat.le_of_ble_eq_true rfl, Nat.le_of_ble_eq_true rfl⟩ ⟨Nat.le_of_ble_eq_true rfl, Nat.le_of_ble_eq_true rfl⟩ hH hS (tRecv hK hH (tyb ha0 (all2 rfl rfl)) clX0) rfl hl.1 (Nat.le_of_ble_eq_true rfl) dX0_bringWater_114 (fun z_55 H locs hq hS => ?_)
        obtain ⟨f_56, hH⟩ := hq
        have hH : TH E (tbC (dayD (.inl (0, 18))) (dayD (.inl (0, 18))) (riverD (.inl Fa1) (.inl Fb1) (.inl (0, 4)) 31 33 35 39 43 47) (riverD (.inl Fa2) (.inl Fb2) (.inl (0, 4)) 32 34 36 40 44 48) rc rd tp A14F A14F A4F A4F A14F A14F (riverD (.inl Fa3) (.inl Fb3) (.inl (0, 4)) 3 8 3 41 45 49) (riverD (.inl Fa4) (.inl Fb4) (.inl (0, 4)) 3 8 3 42 46 50) ((.inr (.inl (0, 12, Pd1)))) ((.inr (.inl (0, 12, Pd2)))) ((.inr (.inl (0, 12, Pd3)))) ((.inr (.inl (0, 12, Pd4)))) ((.inr (.inl (0, 12, Ps1)))) ((.inr (.inl (0, 12, Ps2)))) ((.inr (.inl (0, 12, Ps3)))) ((.inr (.inl (0, 12, Ps4)))) ((.inr (.inl (0, 48, Pi1)))) ((.inr (.inl (0, 48, Pi2)))) ((.inr (.inl (0, 48, Pi3)))) ((.inr (.inl (0, 48, Pi4))))) H := hH
        refine lv_iadd F.1 F.2.1 dX0_bringWater_117 ?_
        refine topF (fun z_57 => ?_)
        refine tIastB F hK hH hS (tyb hq_52 (all1 rfl)) (ixb (n := 12) r_20 rfl rfl) (i32b _) dX0_bringWater_118 (fun H locs hH hS => ?_)
        refine lv_iload_n F.1 F.2.1 dX0_bringWater_119 rfl (lv_at hl 1 rfl) ?_
        refine lv_aload_n F.1 F.2.1 dX0_bringWater_120 rfl (lv_at hl 0 rfl) ?_
        refine tGetI (j := 13) F hK hH (tyb ha0 (all2 rfl rfl)) rfl clX0 (by decide) wd_4_22 dX0_bringWater_121 (fun z_58 hz_58 => ?_)
        refine b_ne (tgt := 140) F dX0_bringWater_124 (by decide) (fun c_59 => ?_) (fun c_59 => ?_)
        · skip
          obtain ⟨x_61, ex_61, hx_61⟩ := iincB (c := 1) (lo := 1) (hi := 12) r_20 rfl
          refine lv_iinc (v := x_61) (lv' := [(1, .int x_61), (0, .ref a0)]) F.1 F.2.1 dX0_bringWater_140 hl (k := 1) rfl ex_61 (by decide) rfl (fun ls hl => ?_)
          refine lv_goto (tgt := 91) F.1 F.2.1 dX0_bringWater_143 (by decide) ?_
          exact ih_91 (x_61) _ _ _ ⟨(show (12 - x_61.toInt + 1).toNat < n_91 from by omega), (wkb hx_61.2 rfl rfl), hH, hS, lv_sub hl [1, 0] rfl⟩
        · skip
          have r_60 : 0 ≤ z_58.toInt ∧ z_58.toInt ≤ 11 := by have h9_ := hz_58; omega
          refine lv_aload_n F.1 F.2.1 dX0_bringWater_127 rfl (lv_at hl 0 rfl) ?_
          refine tGetR (j := 5) F hK hH (tyb ha0 (all2 rfl rfl)) rfl (all1 rfl) clX0 (by decide) wd_4_14 dX0_bringWater_128 (fun q_62 hq_62 _ => ?_)
          refine lv_iload_n F.1 F.2.1 dX0_bringWater_131 rfl (lv_at hl 1 rfl) ?_
          refine lv_dup2_11 F.1 F.2.1 dX0_bringWater_132 rfl rfl ?_
          refine tIaldB F hK hH (tyb hq_62 (all1 rfl)) (ixb (n := 12) r_20 rfl rfl) dX0_bringWater_133 (fun z_63 hz_63 => ?_)
          refine lv_aload_n F.1 F.2.1 dX0_bringWater_134 rfl (lv_at hl 0 rfl) ?_
          refine tGetI (j := 14) F hK hH (tyb ha0 (all2 rfl rfl)) rfl clX0 (by decide) wd_21_7 dX0_bringWater_135 (fun z_64 hz_64 => ?_)
          refine lv_iadd F.1 F.2.1 dX0_bringWater_138 ?_
          refine topF (fun z_65 => ?_)
          refine tIastB F hK hH hS (tyb hq_62 (all1 rfl)) (ixb (n := 12) r_20 rfl rfl) (i32b _) dX0_bringWater_139 (fun H locs hH hS => ?_)
          obtain ⟨x_66, ex_66, hx_66⟩ := iincB (c := 1) (lo := 1) (hi := 12) r_20 rfl
          refine lv_iinc (v := x_66) (lv' := [(1, .int x_66), (0, .ref a0)]) F.1 F.2.1 dX0_bringWater_140 hl (k := 1) rfl ex_66 (by decide) rfl (fun ls hl => ?_)
          refine lv_goto (tgt := 91) F.1 F.2.1 dX0_bringWater_143 (by decide) ?_
          exact ih_91 (x_66) _ _ _ ⟨(show (12 - x_66.toInt + 1).toNat < n_91 from by omega), (wkb hx_66.2 rfl rfl), hH, hS, lv_sub hl [1, 0] rfl⟩
    · skip
      have r_13 : 0 ≤ u_9.toInt ∧ u_9.toInt ≤ 3 := by have h9_ := hu_9; omega
      have r_14 : 1 ≤ z_11.toInt ∧ z_11.toInt ≤ 4 := by have h9_ := hz_11; omega
      refine lv_aload_n F.1 F.2.1 dX0_bringWater_43 rfl (lv_at hl 0 rfl) ?_
      refine tGetR (j := 7) F hK hH (tyb ha0 (all2 rfl rfl)) rfl (all1 rfl) clX0 (by decide) wd_4_16 dX0_bringWater_44 (fun q_67 hq_67 _ => ?_)
      refine lv_bipush (v := 14) F.1 F.2.1 dX0_bringWater_47 (by decide) ?_
      refine topK (a := 14) (by decide) (fun k_68 hk_68 => ?_)
      refine lv_iload_n F.1 F.2.1 dX0_bringWater_49 rfl (lv_at hl 1 rfl) ?_
      refine tAdd (lo := 14) (hi := 17) F dX0_bringWater_50 (eqb hk_68) r_13 rfl (fun z_69 hz_69 => ?_)
      refine lv_aload_n F.1 F.2.1 dX0_bringWater_51 rfl (lv_at hl 0 rfl) ?_
      refine tGetR0 (j := 0) F hK hH (tyb ha0 (all2 rfl rfl)) rfl clX0 (by decide) wd_4_23 dX0_bringWater_52 (fun q_70 hq_70 => ?_)
      refine tGetRM (j := 17) (L := [8]) F hK hH hq_70 (alls ⟨_, _, rfl, rfl, by decide⟩ (alls1 ⟨_, _, rfl, rfl, by decide⟩)) (all1 rfl) clX2 (by decide) wd_21_2 dX0_bringWater_55 (fun q_71 hq_71 _ => ?_)
      refine lv_iload_n F.1 F.2.1 dX0_bringWater_58 rfl (lv_at hl 1 rfl) ?_
      refine tIaldB F hK hH (tyb hq_71 (all1 rfl)) (ixb (n := 4) r_13 rfl rfl) dX0_bringWater_59 (fun z_72 hz_72 => ?_)
      refine lv_aload_n F.1 F.2.1 dX0_bringWater_60 rfl (lv_at hl 0 rfl) ?_
      refine tGetR0 (j := 0) F hK hH (tyb ha0 (all2 rfl rfl)) rfl clX0 (by decide) wd_4_23 dX0_bringWater_61 (fun q_73 hq_73 => ?_)
      refine tGetRM (j := 16) (L := [8]) F hK hH hq_73 (alls ⟨_, _, rfl, rfl, by decide⟩ (alls1 ⟨_, _, rfl, rfl, by decide⟩)) (all1 rfl) clX2 (by decide) wd_21_3 dX0_bringWater_64 (fun q_74 hq_74 _ => ?_)
      refine lv_iload_n F.1 F.2.1 dX0_bringWater_67 rfl (lv_at hl 1 rfl) ?_
      refine tIaldB F hK hH (tyb hq_74 (all1 rfl)) (ixb (n := 4) r_13 rfl rfl) dX0_bringWater_68 (fun z_75 hz_75 => ?_)
      refine lv_aload_n F.1 F.2.1 dX0_bringWater_69 rfl (lv_at hl 0 rfl) ?_
      refine tGetR (j := 1) F hK hH (tyb ha0 (all2 rfl rfl)) rfl (all1 rfl) clX0 (by decide) wd_5_0 dX0_bringWater_70 (fun q_76 hq_76 _ => ?_)
      refine tGetR (j := 8) F hK hH (tyb hq_76 (all1 rfl)) rfl (all1 rfl) clX5 (by decide) wd_21_4 dX0_bringWater_73 (fun q_77 hq_77 _ => ?_)
      refine lv_iload_n F.1 F.2.1 dX0_bringWater_76 rfl (lv_at hl 1 rfl) ?_
      refine tIaldB F hK hH (tyb hq_77 (all1 rfl)) (ixb (n := 4) r_13 rfl rfl) dX0_bringWater_77 (fun z_78 hz_78 => ?_)
      refine lv_isub F.1 F.2.1 dX0_bringWater_78 ?_
      refine topF (fun z_79 => ?_)
      refine tMin (lo := (-2147483648)) (hi := 2147483647) F wd_21_5 wd_9_0 wd_9_1 wd_9_2 hl.1 (Nat.le_of_ble_eq_true rfl) (Nat.le_of_ble_eq_true rfl) (Nat.le_of_ble_eq_true rfl) (Nat.le_of_ble_eq_true rfl) dX0_bringWater_79 hz_72 (i32b _) rfl (fun z_80 hz_80 => ?_)
      refine tIastB F hK hH hS (tyb hq_67 (all1 rfl)) (ixb (n := 18) hz_69.2 rfl rfl) hz_80.2 dX0_bringWater_82 (fun H locs hH hS => ?_)
      obtain ⟨x_81, ex_81, hx_81⟩ := iincB (c := 1) (lo := 1) (hi := 4) r_13 rfl
      refine lv_iinc (v := x_81) (lv' := [(1, .int x_81), (0, .ref a0)]) F.1 F.2.1 dX0_bringWater_83 hl (k := 1) rfl ex_81 (by decide) rfl (fun ls hl => ?_)
      refine lv_goto (tgt := 32) F.1 F.2.1 dX0_bringWater_86 (by decide) ?_
      exact ih_32 (x_81) _ _ _ ⟨(show (4 - x_81.toInt + 1).toNat < n_32 from by omega), (wkb hx_81.2 rfl rfl), hH, hS, lv_sub hl [1, 0] rfl⟩
  · skip
    have r_6 : 0 ≤ u_2.toInt ∧ u_2.toInt ≤ 13 := by have h9_ := hu_2; omega
    have r_7 : 1 ≤ z_4.toInt ∧ z_4.toInt ≤ 14 := by have h9_ := hz_4; omega
    refine lv_aload_n F.1 F.2.1 dX0_bringWater_13 rfl (lv_at hl 0 rfl) ?_
    refine tGetR (j := 7) F hK hH (tyb ha0 (all2 rfl rfl)) rfl (all1 rfl) clX0 (by decide) wd_4_16 dX0_bringWater_14 (fun q_82 hq_82 _ => ?_)
    refine lv_iload_n F.1 F.2.1 dX0_bringWater_17 rfl (lv_at hl 1 rfl) ?_
    refine lv_aload_n F.1 F.2.1 dX0_bringWater_18 rfl (lv_at hl 0 rfl) ?_
    refine lv_iload_n F.1 F.2.1 dX0_bringWater_19 rfl (lv_at hl 1 rfl) ?_
    refine tVi (b := a0) (As := [.int u_2]) (rest := [.int u_2, .ref q_82]) F hK hN hO (c_X0_wantOfRight E rc rd tp Fa1 Fb1 Fa2 Fb2 Fa3 Fb3 Fa4 Fb4 Pd1 Pd2 Pd3 Pd4 Ps1 Ps2 Ps3 Ps4 Pi1 Pi2 Pi3 Pi4 a0 u_2 ha0 r_6 hFa1 hFb1 hFa2 hFb2 hFa3 hFb3 hFa4 hFb4 hPd1 hPd2 hPd3 hPd4 hPs1 hPs2 hPs3 hPs4 hPi1 hPi2 hPi3 hPi4) mv_X0_wantOfRight wd_21_13 ⟨Nat.le_of_ble_eq_true rfl, Nat.le_of_ble_eq_true rfl⟩ ⟨Nat.le_of_ble_eq_true rfl, Nat.le_of_ble_eq_true rfl⟩ hH hS (tRecv hK hH (tyb ha0 (all2 rfl rfl)) clX0) rfl hl.1 (Nat.le_of_ble_eq_true rfl) dX0_bringWater_20 (fun z_83 H locs hq hS => ?_)
    obtain ⟨f_84, hH⟩ := hq
    have hH : TH E (tbC (dayD (.inl (0, 18))) (dayD (.inl (0, 18))) (riverD (.inl Fa1) (.inl Fb1) (.inl (0, 4)) 31 33 35 39 43 47) (riverD (.inl Fa2) (.inl Fb2) (.inl (0, 4)) 32 34 36 40 44 48) rc rd tp A14F A14F A4F A4F A14F A14F (riverD (.inl Fa3) (.inl Fb3) (.inl (0, 4)) 3 8 3 41 45 49) (riverD (.inl Fa4) (.inl Fb4) (.inl (0, 4)) 3 8 3 42 46 50) ((.inr (.inl (0, 12, Pd1)))) ((.inr (.inl (0, 12, Pd2)))) ((.inr (.inl (0, 12, Pd3)))) ((.inr (.inl (0, 12, Pd4)))) ((.inr (.inl (0, 12, Ps1)))) ((.inr (.inl (0, 12, Ps2)))) ((.inr (.inl (0, 12, Ps3)))) ((.inr (.inl (0, 12, Ps4)))) ((.inr (.inl (0, 48, Pi1)))) ((.inr (.inl (0, 48, Pi2)))) ((.inr (.inl (0, 48, Pi3)))) ((.inr (.inl (0, 48, Pi4))))) H := hH
    refine tIastB F hK hH hS (tyb hq_82 (all1 rfl)) (ixb (n := 18) r_6 rfl rfl) f_84 dX0_bringWater_23 (fun H locs hH hS => ?_)
    obtain ⟨x_85, ex_85, hx_85⟩ := iincB (c := 1) (lo := 1) (hi := 14) r_6 rfl
    refine lv_iinc (v := x_85) (lv' := [(1, .int x_85), (0, .ref a0)]) F.1 F.2.1 dX0_bringWater_24 hl (k := 1) rfl ex_85 (by decide) rfl (fun ls hl => ?_)
    refine lv_goto (tgt := 2) F.1 F.2.1 dX0_bringWater_27 (by decide) ?_
    exact ih_2 (x_85) _ _ _ ⟨(show (14 - x_85.toInt + 1).toNat < n_2 from by omega), (wkb hx_85.2 rfl rfl), hH, hS, lv_sub hl [1, 0] rfl⟩
set_option maxHeartbeats 4000000 in
set_option maxRecDepth 100000 in
theorem c_X0_change (E : Ev) (rc : TD) (rd : TD) (tp : TD) (Fa1 : Int × Int) (Fb1 : Int × Int) (Fa2 : Int × Int) (Fb2 : Int × Int) (Fa3 : Int × Int) (Fb3 : Int × Int) (Fa4 : Int × Int) (Fb4 : Int × Int) (Pd1 : (Nat → Int32) → Prop) (Pd2 : (Nat → Int32) → Prop) (Pd3 : (Nat → Int32) → Prop) (Pd4 : (Nat → Int32) → Prop) (Ps1 : (Nat → Int32) → Prop) (Ps2 : (Nat → Int32) → Prop) (Ps3 : (Nat → Int32) → Prop) (Ps4 : (Nat → Int32) → Prop) (Pi1 : (Nat → Int32) → Prop) (Pi2 : (Nat → Int32) → Prop) (Pi3 : (Nat → Int32) → Prop) (Pi4 : (Nat → Int32) → Prop) (a0 : Nat) (a1 : Int32) (a2 : Int32) (ha0 : eT E a0 ∈ [24, 25]) (ha1 : 0 ≤ a1.toInt ∧ a1.toInt ≤ 11) (hFa1 : 0 ≤ Fa1.1 ∧ Fa1.2 ≤ 12) (hFb1 : 0 ≤ Fb1.1 ∧ Fb1.2 ≤ 14) (hFa2 : 0 ≤ Fa2.1 ∧ Fa2.2 ≤ 12) (hFb2 : 0 ≤ Fb2.1 ∧ Fb2.2 ≤ 14) (hFa3 : 0 ≤ Fa3.1 ∧ Fa3.2 ≤ 12) (hFb3 : 0 ≤ Fb3.1 ∧ Fb3.2 ≤ 14) (hFa4 : 0 ≤ Fa4.1 ∧ Fa4.2 ≤ 12) (hFb4 : 0 ≤ Fb4.1 ∧ Fb4.2 ≤ 14) (hPd1 : ∀ f, Pd1 f → ivP 12 (-2) 11 f) (hPd2 : ∀ f, Pd2 f → ivP 12 (-2) 11 f) (hPd3 : ∀ f, Pd3 f → ivP 12 (-2) 11 f) (hPd4 : ∀ f, Pd4 f → ivP 12 (-2) 11 f) (hPs1 : ∀ f, Ps1 f → ivP 12 (-2147483648) 2147483647 f) (hPs2 : ∀ f, Ps2 f → ivP 12 (-2147483648) 2147483647 f) (hPs3 : ∀ f, Ps3 f → ivP 12 (-2147483648) 2147483647 f) (hPs4 : ∀ f, Ps4 f → ivP 12 (-2147483648) 2147483647 f) (hPi1 : ∀ f, Pi1 f → ivP 48 (-2147483648) 2147483647 f) (hPi2 : ∀ f, Pi2 f → ivP 48 (-2147483648) 2147483647 f) (hPi3 : ∀ f, Pi3 f → ivP 48 (-2147483648) 2147483647 f) (hPi4 : ∀ f, Pi4 f → ivP 48 (-2147483648) 2147483647 f) : TcV E yX0_change cX0_change 8 ({ frames := 1, cells := 0, slots := 0, locals := 40 }) [.ref a0, .int a1, .int a2] (fun H => TH E (tbC (dayD (.inl (0, 18))) (dayD (.inl (0, 18))) (riverD (.inl Fa1) (.inl Fb1) (.inl (0, 4)) 31 33 35 39 43 47) (riverD (.inl Fa2) (.inl Fb2) (.inl (0, 4)) 32 34 36 40 44 48) rc rd tp A14F A14F A4F A4F A14F A14F (riverD (.inl Fa3) (.inl Fb3) (.inl (0, 4)) 3 8 3 41 45 49) (riverD (.inl Fa4) (.inl Fb4) (.inl (0, 4)) 3 8 3 42 46 50) ((.inr (.inl (0, 12, Pd1)))) ((.inr (.inl (0, 12, Pd2)))) ((.inr (.inl (0, 12, Pd3)))) ((.inr (.inl (0, 12, Pd4)))) ((.inr (.inl (0, 12, Ps1)))) ((.inr (.inl (0, 12, Ps2)))) ((.inr (.inl (0, 12, Ps3)))) ((.inr (.inl (0, 12, Ps4)))) ((.inr (.inl (0, 48, Pi1)))) ((.inr (.inl (0, 48, Pi2)))) ((.inr (.inl (0, 48, Pi3)))) ((.inr (.inl (0, 48, Pi4))))) H) (fun H => TH E (tbC (dayD (.inl (0, 18))) (dayD (.inl (0, 18))) (riverD (.inl Fa1) (.inl Fb1) (.inl (0, 4)) 31 33 35 39 43 47) (riverD (.inl Fa2) (.inl Fb2) (.inl (0, 4)) 32 34 36 40 44 48) rc rd tp A14F A14F A4F A4F A14F A14F (riverD (.inl Fa3) (.inl Fb3) (.inl (0, 4)) 3 8 3 41 45 49) (riverD (.inl Fa4) (.inl Fb4) (.inl (0, 4)) 3 8 3 42 46 50) ((.inr (.inl (0, 12, Pd1)))) ((.inr (.inl (0, 12, Pd2)))) ((.inr (.inl (0, 12, Pd3)))) ((.inr (.inl (0, 12, Pd4)))) ((.inr (.inl (0, 12, Ps1)))) ((.inr (.inl (0, 12, Ps2)))) ((.inr (.inl (0, 12, Ps3)))) ((.inr (.inl (0, 12, Ps4)))) ((.inr (.inl (0, 48, Pi1)))) ((.inr (.inl (0, 48, Pi2)))) ((.inr (.inl (0, 48, Pi3)))) ((.inr (.inl (0, 48, Pi4))))) H) := by
  refine teV (by decide) (Nat.le_of_ble_eq_true rfl) ?_
  intro p_ ev_ s mi_ below_ meth cd_ ls F hK hN hO hH hS hl
  have hH : TH E (tbC (dayD (.inl (0, 18))) (dayD (.inl (0, 18))) (riverD (.inl Fa1) (.inl Fb1) (.inl (0, 4)) 31 33 35 39 43 47) (riverD (.inl Fa2) (.inl Fb2) (.inl (0, 4)) 32 34 36 40 44 48) rc rd tp A14F A14F A4F A4F A14F A14F (riverD (.inl Fa3) (.inl Fb3) (.inl (0, 4)) 3 8 3 41 45 49) (riverD (.inl Fa4) (.inl Fb4) (.inl (0, 4)) 3 8 3 42 46 50) ((.inr (.inl (0, 12, Pd1)))) ((.inr (.inl (0, 12, Pd2)))) ((.inr (.inl (0, 12, Pd3)))) ((.inr (.inl (0, 12, Pd4)))) ((.inr (.inl (0, 12, Ps1)))) ((.inr (.inl (0, 12, Ps2)))) ((.inr (.inl (0, 12, Ps3)))) ((.inr (.inl (0, 12, Ps4)))) ((.inr (.inl (0, 48, Pi1)))) ((.inr (.inl (0, 48, Pi2)))) ((.inr (.inl (0, 48, Pi3)))) ((.inr (.inl (0, 48, Pi4))))) s.heap := hH
  have hl : lv_has ls 8 [(0, .ref a0), (1, .int a1), (2, .int a2)] := hl
  refine lv_iload_n F.1 F.2.1 dX0_change_0 rfl (lv_at hl 1 rfl) ?_
  refine lv_istore_n (lv' := [(3, .int a1), (0, .ref a0), (1, .int a1), (2, .int a2)]) F.1 F.2.1 dX0_change_1 rfl hl (by decide) rfl (fun ls hl => ?_)
  refine lv_iload_n F.1 F.2.1 dX0_change_2 rfl (lv_at hl 3 rfl) ?_
  refine lv_istore (lv' := [(4, .int a2), (3, .int a1), (0, .ref a0), (1, .int a1), (2, .int a2)]) F.1 F.2.1 dX0_change_3 hl (by decide) rfl (fun ls hl => ?_)
  refine lv_iconst (v := 0) F.1 F.2.1 dX0_change_5 (by decide) ?_
  refine topK (a := 0) (by decide) (fun k_1 hk_1 => ?_)
  refine lv_istore (lv' := [(5, .int k_1), (4, .int a2), (3, .int a1), (0, .ref a0), (1, .int a1), (2, .int a2)]) F.1 F.2.1 dX0_change_6 hl (by decide) rfl (fun ls hl => ?_)
  refine wloop (σ := Int32 × Int32 × Int32) (fun n9 x9 H locs ls => (12 - x9.2.2.toInt + 1).toNat < n9 ∧ ((-2) ≤ x9.1.toInt ∧ x9.1.toInt ≤ 11) ∧ (0 ≤ x9.2.2.toInt ∧ x9.2.2.toInt ≤ 12) ∧ TH E (tbC (dayD (.inl (0, 18))) (dayD (.inl (0, 18))) (riverD (.inl Fa1) (.inl Fb1) (.inl (0, 4)) 31 33 35 39 43 47) (riverD (.inl Fa2) (.inl Fb2) (.inl (0, 4)) 32 34 36 40 44 48) rc rd tp A14F A14F A4F A4F A14F A14F (riverD (.inl Fa3) (.inl Fb3) (.inl (0, 4)) 3 8 3 41 45 49) (riverD (.inl Fa4) (.inl Fb4) (.inl (0, 4)) 3 8 3 42 46 50) ((.inr (.inl (0, 12, Pd1)))) ((.inr (.inl (0, 12, Pd2)))) ((.inr (.inl (0, 12, Pd3)))) ((.inr (.inl (0, 12, Pd4)))) ((.inr (.inl (0, 12, Ps1)))) ((.inr (.inl (0, 12, Ps2)))) ((.inr (.inl (0, 12, Ps3)))) ((.inr (.inl (0, 12, Ps4)))) ((.inr (.inl (0, 48, Pi1)))) ((.inr (.inl (0, 48, Pi2)))) ((.inr (.inl (0, 48, Pi3)))) ((.inr (.inl (0, 48, Pi4))))) H ∧ va_S (eA E s.heap.size) s.heap H locs ∧ lv_has ls 8 [(0, .ref a0), (3, .int x9.1), (4, .int x9.2.1), (5, .int x9.2.2)]) ?_ (fun x9 H locs ls h => absurd h.1 (Nat.not_lt_zero _)) _ (a1, a2, k_1) ⟨Nat.lt_succ_self _, (wkb ha1 rfl rfl), (wkb (eqb hk_1) rfl rfl), hH, hS, lv_sub hl [3, 2, 1, 0] rfl⟩
  intro n_8 ih_8 ⟨u_2, u_3, u_4⟩ H locs ls ⟨hm_8, hu_2, hu_4, hH, hS, hl⟩
  have hm_8 : (12 - u_4.toInt + 1).toNat < n_8 + 1 := hm_8
  have hu_2 : ((-2) ≤ u_2.toInt ∧ u_2.toInt ≤ 11) := hu_2
  have hu_4 : (0 ≤ u_4.toInt ∧ u_4.toInt ≤ 12) := hu_4
  have hH : TH E (tbC (dayD (.inl (0, 18))) (dayD (.inl (0, 18))) (riverD (.inl Fa1) (.inl Fb1) (.inl (0, 4)) 31 33 35 39 43 47) (riverD (.inl Fa2) (.inl Fb2) (.inl (0, 4)) 32 34 36 40 44 48) rc rd tp A14F A14F A4F A4F A14F A14F (riverD (.inl Fa3) (.inl Fb3) (.inl (0, 4)) 3 8 3 41 45 49) (riverD (.inl Fa4) (.inl Fb4) (.inl (0, 4)) 3 8 3 42 46 50) ((.inr (.inl (0, 12, Pd1)))) ((.inr (.inl (0, 12, Pd2)))) ((.inr (.inl (0, 12, Pd3)))) ((.inr (.inl (0, 12, Pd4)))) ((.inr (.inl (0, 12, Ps1)))) ((.inr (.inl (0, 12, Ps2)))) ((.inr (.inl (0, 12, Ps3)))) ((.inr (.inl (0, 12, Ps4)))) ((.inr (.inl (0, 48, Pi1)))) ((.inr (.inl (0, 48, Pi2)))) ((.inr (.inl (0, 48, Pi3)))) ((.inr (.inl (0, 48, Pi4))))) H := hH
  have hl : lv_has ls 8 [(0, .ref a0), (3, .int u_2), (4, .int u_3), (5, .int u_4)] := hl
  refine lv_iload F.1 F.2.1 dX0_change_8 (lv_at hl 3 rfl) ?_
  refine lv_bipush (v := 12) F.1 F.2.1 dX0_change_10 (by decide) ?_
  refine topK (a := 12) (by decide) (fun k_5 hk_5 => ?_)
  refine b_ge (tgt := 105) F dX0_change_12 (by decide) (fun c_6 => ?_) (fun c_6 => ?_)
  · skip
    have r_7 : 12 ≤ u_4.toInt ∧ u_4.toInt ≤ 12 := by have h9_ := hu_4; omega
    exact txV F hS dX0_change_105 (hH)
  · skip
    have r_8 : 0 ≤ u_4.toInt ∧ u_4.toInt ≤ 11 := by have h9_ := hu_4; omega
    refine lv_iload_n F.1 F.2.1 dX0_change_15 rfl (lv_at hl 1 rfl) ?_
    refine z_lt (tgt := 105) F dX0_change_16 (by decide) (fun c_9 => ?_) (fun c_9 => ?_)
    · skip
      have r_10 : (-2) ≤ u_2.toInt ∧ u_2.toInt ≤ (-1) := by have h9_ := hu_2; omega
      exact txV F hS dX0_change_105 (hH)
    · skip
      have r_11 : 0 ≤ u_2.toInt ∧ u_2.toInt ≤ 11 := by have h9_ := hu_2; omega
      refine lv_iload F.1 F.2.1 dX0_change_19 (lv_at hl 2 rfl) ?_
      refine z_eq (tgt := 105) F dX0_change_21 (by decide) (fun c_12 => ?_) (fun c_12 => ?_)
      · skip
        have r_13 : 0 ≤ u_3.toInt ∧ u_3.toInt ≤ 0 := by have h9_ := (i32b u_3); omega
        exact txV F hS dX0_change_105 (hH)
      · skip
        refine lv_aload_n F.1 F.2.1 dX0_change_24 rfl (lv_at hl 0 rfl) ?_
        refine tGetR (j := 6) F hK hH (tyb ha0 (all2 rfl rfl)) rfl (all1 rfl) clX0 (by decide) wd_4_15 dX0_change_25 (fun q_14 hq_14 _ => ?_)
        refine lv_iload_n F.1 F.2.1 dX0_change_28 rfl (lv_at hl 1 rfl) ?_
        refine tIaldB F hK hH (tyb hq_14 (all1 rfl)) (ixb (n := 12) r_11 rfl rfl) dX0_change_29 (fun z_15 hz_15 => ?_)
        refine lv_istore (lv' := [(6, .int z_15), (0, .ref a0), (3, .int u_2), (4, .int u_3), (5, .int u_4)]) F.1 F.2.1 dX0_change_30 hl (by decide) rfl (fun ls hl => ?_)
        refine lv_aload_n F.1 F.2.1 dX0_change_32 rfl (lv_at hl 1 rfl) ?_
        refine tGetR (j := 5) F hK hH (tyb ha0 (all2 rfl rfl)) rfl (all1 rfl) clX0 (by decide) wd_4_14 dX0_change_33 (fun q_16 hq_16 _ => ?_)
        refine lv_iload_n F.1 F.2.1 dX0_change_36 rfl (lv_at hl 2 rfl) ?_
        refine lv_dup2_11 F.1 F.2.1 dX0_change_37 rfl rfl ?_
        refine tIaldB F hK hH (tyb hq_16 (all1 rfl)) (ixb (n := 12) r_11 rfl rfl) dX0_change_38 (fun z_17 hz_17 => ?_)
        refine lv_iload F.1 F.2.1 dX0_change_39 (lv_at hl 3 rfl) ?_
        refine lv_iadd F.1 F.2.1 dX0_change_41 ?_
        refine topF (fun z_18 => ?_)
        refine tIastB F hK hH hS (tyb hq_16 (all1 rfl)) (ixb (n := 12) r_11 rfl rfl) (i32b _) dX0_change_42 (fun H locs hH hS => ?_)
        refine lv_aload_n F.1 F.2.1 dX0_change_43 rfl (lv_at hl 1 rfl) ?_
        refine tGetR (j := 5) F hK hH (tyb ha0 (all2 rfl rfl)) rfl (all1 rfl) clX0 (by decide) wd_4_14 dX0_change_44 (fun q_19 hq_19 _ => ?_)
        refine lv_iload_n F.1 F.2.1 dX0_change_47 rfl (lv_at hl 2 rfl) ?_
        refine tIaldB F hK hH (tyb hq_19 (all1 rfl)) (ixb (n := 12) r_11 rfl rfl) dX0_change_48 (fun z_20 hz_20 => ?_)
        refine lv_aload_n F.1 F.2.1 dX0_change_49 rfl (lv_at hl 1 rfl) ?_
        refine tGetR0 (j := 0) F hK hH (tyb ha0 (all2 rfl rfl)) rfl clX0 (by decide) wd_4_23 dX0_change_50 (fun q_21 hq_21 => ?_)
        refine tGetRM0 (j := 2) (L := [43, 44]) F hK hH hq_21 (alls ⟨_, _, rfl, rfl, by decide⟩ (alls1 ⟨_, _, rfl, rfl, by decide⟩)) clX2 (by decide) wd_21_8 dX0_change_53 (fun q_22 hq_22 => ?_)
        refine lv_iload_n F.1 F.2.1 dX0_change_56 rfl (lv_at hl 2 rfl) ?_
        refine tIaldM (lo := (-2147483648)) (hi := 2147483647) F hK hH hq_22 (alls ⟨_, rfl, hPs1⟩ (alls1 ⟨_, rfl, hPs2⟩)) (ixb (n := 12) r_11 rfl rfl) dX0_change_57 (fun z_23 hz_23 => ?_)
        refine lv_isub F.1 F.2.1 dX0_change_58 ?_
        refine topF (fun z_24 => ?_)
        refine lv_istore (lv' := [(7, .int z_24), (6, .int z_15), (0, .ref a0), (3, .int u_2), (4, .int u_3), (5, .int u_4)]) F.1 F.2.1 dX0_change_59 hl (by decide) rfl (fun ls hl => ?_)
        refine lv_aload_n F.1 F.2.1 dX0_change_61 rfl (lv_at hl 2 rfl) ?_
        refine tGetR (j := 6) F hK hH (tyb ha0 (all2 rfl rfl)) rfl (all1 rfl) clX0 (by decide) wd_4_15 dX0_change_62 (fun q_25 hq_25 _ => ?_)
        refine lv_iload_n F.1 F.2.1 dX0_change_65 rfl (lv_at hl 3 rfl) ?_
        refine lv_iload F.1 F.2.1 dX0_change_66 (lv_at hl 0 rfl) ?_
        refine wjoin (σ := Int32) (pcj := 77) (stj := fun x9 => [.int x9, .int u_2, .ref q_25]) (fun x9 H locs ls => (0 ≤ x9.toInt ∧ x9.toInt ≤ 2147483647) ∧ TH E (tbC (dayD (.inl (0, 18))) (dayD (.inl (0, 18))) (riverD (.inl Fa1) (.inl Fb1) (.inl (0, 4)) 31 33 35 39 43 47) (riverD (.inl Fa2) (.inl Fb2) (.inl (0, 4)) 32 34 36 40 44 48) rc rd tp A14F A14F A4F A4F A14F A14F (riverD (.inl Fa3) (.inl Fb3) (.inl (0, 4)) 3 8 3 41 45 49) (riverD (.inl Fa4) (.inl Fb4) (.inl (0, 4)) 3 8 3 42 46 50) ((.inr (.inl (0, 12, Pd1)))) ((.inr (.inl (0, 12, Pd2)))) ((.inr (.inl (0, 12, Pd3)))) ((.inr (.inl (0, 12, Pd4)))) ((.inr (.inl (0, 12, Ps1)))) ((.inr (.inl (0, 12, Ps2)))) ((.inr (.inl (0, 12, Ps3)))) ((.inr (.inl (0, 12, Ps4)))) ((.inr (.inl (0, 48, Pi1)))) ((.inr (.inl (0, 48, Pi2)))) ((.inr (.inl (0, 48, Pi3)))) ((.inr (.inl (0, 48, Pi4))))) H ∧ va_S (eA E s.heap.size) s.heap H locs ∧ lv_has ls 8 [(0, .ref a0), (3, .int u_2), (5, .int u_4), (6, .int z_15)]) (fun u_26 H locs ls h_ => ?_) (fun J_77 => ?_)
        · skip
          obtain ⟨hu_26, hH, hS, hl⟩ := h_
          have hu_26 : (0 ≤ u_26.toInt ∧ u_26.toInt ≤ 2147483647) := hu_26
          have hH : TH E (tbC (dayD (.inl (0, 18))) (dayD (.inl (0, 18))) (riverD (.inl Fa1) (.inl Fb1) (.inl (0, 4)) 31 33 35 39 43 47) (riverD (.inl Fa2) (.inl Fb2) (.inl (0, 4)) 32 34 36 40 44 48) rc rd tp A14F A14F A4F A4F A14F A14F (riverD (.inl Fa3) (.inl Fb3) (.inl (0, 4)) 3 8 3 41 45 49) (riverD (.inl Fa4) (.inl Fb4) (.inl (0, 4)) 3 8 3 42 46 50) ((.inr (.inl (0, 12, Pd1)))) ((.inr (.inl (0, 12, Pd2)))) ((.inr (.inl (0, 12, Pd3)))) ((.inr (.inl (0, 12, Pd4)))) ((.inr (.inl (0, 12, Ps1)))) ((.inr (.inl (0, 12, Ps2)))) ((.inr (.inl (0, 12, Ps3)))) ((.inr (.inl (0, 12, Ps4)))) ((.inr (.inl (0, 48, Pi1)))) ((.inr (.inl (0, 48, Pi2)))) ((.inr (.inl (0, 48, Pi3)))) ((.inr (.inl (0, 48, Pi4))))) H := hH
          have hl : lv_has ls 8 [(0, .ref a0), (3, .int u_2), (5, .int u_4), (6, .int z_15)] := hl
          show W _ _ _ _ _ _ _ _ _ _ _ _ _ _ _ (F0 _ _ _ [.int u_26, .int u_2, .ref q_25])
          refine tIastB F hK hH hS (tyb hq_25 (all1 rfl)) (ixb (n := 12) r_11 rfl rfl) (wkb hu_26 rfl rfl) dX0_change_77 (fun H locs hH hS => ?_)
          refine lv_aload_n F.1 F.2.1 dX0_change_78 rfl (lv_at hl 0 rfl) ?_
          refine tGetR (j := 6) F hK hH (tyb ha0 (all2 rfl rfl)) rfl (all1 rfl) clX0 (by decide) wd_4_15 dX0_change_79 (fun q_27 hq_27 _ => ?_)
          refine lv_iload_n F.1 F.2.1 dX0_change_82 rfl (lv_at hl 1 rfl) ?_
          refine tIaldB F hK hH (tyb hq_27 (all1 rfl)) (ixb (n := 12) r_11 rfl rfl) dX0_change_83 (fun z_28 hz_28 => ?_)
          refine lv_iload F.1 F.2.1 dX0_change_84 (lv_at hl 3 rfl) ?_
          refine lv_isub F.1 F.2.1 dX0_change_86 ?_
          refine topF (fun z_29 => ?_)
          refine lv_istore (lv' := [(4, .int z_29), (0, .ref a0), (3, .int u_2), (5, .int u_4), (6, .int z_15)]) F.1 F.2.1 dX0_change_87 hl (by decide) rfl (fun ls hl => ?_)
          refine lv_aload_n F.1 F.2.1 dX0_change_89 rfl (lv_at hl 1 rfl) ?_
          refine tGetR0 (j := 0) F hK hH (tyb ha0 (all2 rfl rfl)) rfl clX0 (by decide) wd_4_23 dX0_change_90 (fun q_30 hq_30 => ?_)
          refine tGetRM0 (j := 1) (L := [39, 40]) F hK hH hq_30 (alls ⟨_, _, rfl, rfl, by decide⟩ (alls1 ⟨_, _, rfl, rfl, by decide⟩)) clX2 (by decide) wd_21_12 dX0_change_93 (fun q_31 hq_31 => ?_)
          refine lv_iload_n F.1 F.2.1 dX0_change_96 rfl (lv_at hl 2 rfl) ?_
          refine tIaldM (lo := (-2)) (hi := 11) F hK hH hq_31 (alls ⟨_, rfl, hPd1⟩ (alls1 ⟨_, rfl, hPd2⟩)) (ixb (n := 12) r_11 rfl rfl) dX0_change_97 (fun z_32 hz_32 => ?_)
          refine lv_istore_n (lv' := [(3, .int z_32), (4, .int z_29), (0, .ref a0), (5, .int u_4), (6, .int z_15)]) F.1 F.2.1 dX0_change_98 rfl hl (by decide) rfl (fun ls hl => ?_)
          obtain ⟨x_33, ex_33, hx_33⟩ := iincB (c := 1) (lo := 1) (hi := 12) r_8 rfl
          refine lv_iinc (v := x_33) (lv' := [(5, .int x_33), (3, .int z_32), (4, .int z_29), (0, .ref a0), (6, .int z_15)]) F.1 F.2.1 dX0_change_99 hl (k := 3) rfl ex_33 (by decide) rfl (fun ls hl => ?_)
          refine lv_goto (tgt := 8) F.1 F.2.1 dX0_change_102 (by decide) ?_
          exact ih_8 (z_32, z_29, x_33) _ _ _ ⟨(show (12 - x_33.toInt + 1).toNat < n_8 from by omega), hz_32, (wkb hx_33.2 rfl rfl), hH, hS, lv_sub hl [3, 1, 2, 0] rfl⟩
        refine z_le (tgt := 76) F dX0_change_68 (by decide) (fun c_34 => ?_) (fun c_34 => ?_)
        · skip
          have r_35 : (-2147483648) ≤ z_24.toInt ∧ z_24.toInt ≤ 0 := by have h9_ := (i32b z_24); omega
          refine lv_iconst (v := 0) F.1 F.2.1 dX0_change_76 (by decide) ?_
          refine topK (a := 0) (by decide) (fun k_37 hk_37 => ?_)
          exact J_77 (k_37) _ _ _ ⟨(wkb (eqb hk_37) rfl rfl), hH, hS, lv_sub hl [2, 3, 5, 1] rfl⟩
        · skip
          have r_36 : 1 ≤ z_24.toInt ∧ z_24.toInt ≤ 2147483647 := by have h9_ := (i32b z_24); omega
          refine lv_iload F.1 F.2.1 dX0_change_71 (lv_at hl 0 rfl) ?_
          refine lv_goto (tgt := 77) F.1 F.2.1 dX0_change_73 (by decide) ?_
          exact J_77 (z_24) _ _ _ ⟨(wkb r_36 rfl rfl), hH, hS, lv_sub hl [2, 3, 5, 1] rfl⟩
set_option maxHeartbeats 4000000 in
set_option maxRecDepth 100000 in
theorem c_X0_takeMost (E : Ev) (rc : TD) (rd : TD) (tp : TD) (Fa1 : Int × Int) (Fb1 : Int × Int) (Fa2 : Int × Int) (Fb2 : Int × Int) (Fa3 : Int × Int) (Fb3 : Int × Int) (Fa4 : Int × Int) (Fb4 : Int × Int) (Pd1 : (Nat → Int32) → Prop) (Pd2 : (Nat → Int32) → Prop) (Pd3 : (Nat → Int32) → Prop) (Pd4 : (Nat → Int32) → Prop) (Ps1 : (Nat → Int32) → Prop) (Ps2 : (Nat → Int32) → Prop) (Ps3 : (Nat → Int32) → Prop) (Ps4 : (Nat → Int32) → Prop) (Pi1 : (Nat → Int32) → Prop) (Pi2 : (Nat → Int32) → Prop) (Pi3 : (Nat → Int32) → Prop) (Pi4 : (Nat → Int32) → Prop) (a0 : Nat) (a1 : Int32) (a2 : Int32) (a3 : Int32) (ha0 : eT E a0 ∈ [24, 25]) (ha1 : 0 ≤ a1.toInt ∧ a1.toInt ≤ 11) (hFa1 : 0 ≤ Fa1.1 ∧ Fa1.2 ≤ 12) (hFb1 : 0 ≤ Fb1.1 ∧ Fb1.2 ≤ 14) (hFa2 : 0 ≤ Fa2.1 ∧ Fa2.2 ≤ 12) (hFb2 : 0 ≤ Fb2.1 ∧ Fb2.2 ≤ 14) (hFa3 : 0 ≤ Fa3.1 ∧ Fa3.2 ≤ 12) (hFb3 : 0 ≤ Fb3.1 ∧ Fb3.2 ≤ 14) (hFa4 : 0 ≤ Fa4.1 ∧ Fa4.2 ≤ 12) (hFb4 : 0 ≤ Fb4.1 ∧ Fb4.2 ≤ 14) (hPd1 : ∀ f, Pd1 f → ivP 12 (-2) 11 f) (hPd2 : ∀ f, Pd2 f → ivP 12 (-2) 11 f) (hPd3 : ∀ f, Pd3 f → ivP 12 (-2) 11 f) (hPd4 : ∀ f, Pd4 f → ivP 12 (-2) 11 f) (hPs1 : ∀ f, Ps1 f → ivP 12 (-2147483648) 2147483647 f) (hPs2 : ∀ f, Ps2 f → ivP 12 (-2147483648) 2147483647 f) (hPs3 : ∀ f, Ps3 f → ivP 12 (-2147483648) 2147483647 f) (hPs4 : ∀ f, Ps4 f → ivP 12 (-2147483648) 2147483647 f) (hPi1 : ∀ f, Pi1 f → ivP 48 (-2147483648) 2147483647 f) (hPi2 : ∀ f, Pi2 f → ivP 48 (-2147483648) 2147483647 f) (hPi3 : ∀ f, Pi3 f → ivP 48 (-2147483648) 2147483647 f) (hPi4 : ∀ f, Pi4 f → ivP 48 (-2147483648) 2147483647 f) : TcI E yX0_takeMost cX0_takeMost 8 .int ({ frames := 2, cells := 0, slots := 0, locals := 67 }) [.ref a0, .int a1, .int a2, .int a3] (fun H => TH E (tbC (dayD (.inl (0, 18))) (dayD (.inl (0, 18))) (riverD (.inl Fa1) (.inl Fb1) (.inl (0, 4)) 31 33 35 39 43 47) (riverD (.inl Fa2) (.inl Fb2) (.inl (0, 4)) 32 34 36 40 44 48) rc rd tp A14F A14F A4F A4F A14F A14F (riverD (.inl Fa3) (.inl Fb3) (.inl (0, 4)) 3 8 3 41 45 49) (riverD (.inl Fa4) (.inl Fb4) (.inl (0, 4)) 3 8 3 42 46 50) ((.inr (.inl (0, 12, Pd1)))) ((.inr (.inl (0, 12, Pd2)))) ((.inr (.inl (0, 12, Pd3)))) ((.inr (.inl (0, 12, Pd4)))) ((.inr (.inl (0, 12, Ps1)))) ((.inr (.inl (0, 12, Ps2)))) ((.inr (.inl (0, 12, Ps3)))) ((.inr (.inl (0, 12, Ps4)))) ((.inr (.inl (0, 48, Pi1)))) ((.inr (.inl (0, 48, Pi2)))) ((.inr (.inl (0, 48, Pi3)))) ((.inr (.inl (0, 48, Pi4))))) H) (fun v H => ((-2147483648) ≤ v.toInt ∧ v.toInt ≤ 2147483647) ∧ TH E (tbC (dayD (.inl (0, 18))) (dayD (.inl (0, 18))) (riverD (.inl Fa1) (.inl Fb1) (.inl (0, 4)) 31 33 35 39 43 47) (riverD (.inl Fa2) (.inl Fb2) (.inl (0, 4)) 32 34 36 40 44 48) rc rd tp A14F A14F A4F A4F A14F A14F (riverD (.inl Fa3) (.inl Fb3) (.inl (0, 4)) 3 8 3 41 45 49) (riverD (.inl Fa4) (.inl Fb4) (.inl (0, 4)) 3 8 3 42 46 50) ((.inr (.inl (0, 12, Pd1)))) ((.inr (.inl (0, 12, Pd2)))) ((.inr (.inl (0, 12, Pd3)))) ((.inr (.inl (0, 12, Pd4)))) ((.inr (.inl (0, 12, Ps1)))) ((.inr (.inl (0, 12, Ps2)))) ((.inr (.inl (0, 12, Ps3)))) ((.inr (.inl (0, 12, Ps4)))) ((.inr (.inl (0, 48, Pi1)))) ((.inr (.inl (0, 48, Pi2)))) ((.inr (.inl (0, 48, Pi3)))) ((.inr (.inl (0, 48, Pi4))))) H) := by
  refine teI (by decide) (Nat.le_of_ble_eq_true rfl) ?_
  intro p_ ev_ s mi_ below_ meth cd_ ls F hK hN hO hH hS hl
  have hH : TH E (tbC (dayD (.inl (0, 18))) (dayD (.inl (0, 18))) (riverD (.inl Fa1) (.inl Fb1) (.inl (0, 4)) 31 33 35 39 43 47) (riverD (.inl Fa2) (.inl Fb2) (.inl (0, 4)) 32 34 36 40 44 48) rc rd tp A14F A14F A4F A4F A14F A14F (riverD (.inl Fa3) (.inl Fb3) (.inl (0, 4)) 3 8 3 41 45 49) (riverD (.inl Fa4) (.inl Fb4) (.inl (0, 4)) 3 8 3 42 46 50) ((.inr (.inl (0, 12, Pd1)))) ((.inr (.inl (0, 12, Pd2)))) ((.inr (.inl (0, 12, Pd3)))) ((.inr (.inl (0, 12, Pd4)))) ((.inr (.inl (0, 12, Ps1)))) ((.inr (.inl (0, 12, Ps2)))) ((.inr (.inl (0, 12, Ps3)))) ((.inr (.inl (0, 12, Ps4)))) ((.inr (.inl (0, 48, Pi1)))) ((.inr (.inl (0, 48, Pi2)))) ((.inr (.inl (0, 48, Pi3)))) ((.inr (.inl (0, 48, Pi4))))) s.heap := hH
  have hl : lv_has ls 8 [(0, .ref a0), (1, .int a1), (2, .int a2), (3, .int a3)] := hl
  refine lv_iload_n F.1 F.2.1 dX0_takeMost_0 rfl (lv_at hl 2 rfl) ?_
  refine lv_istore (lv' := [(4, .int a2), (0, .ref a0), (1, .int a1), (2, .int a2), (3, .int a3)]) F.1 F.2.1 dX0_takeMost_1 hl (by decide) rfl (fun ls hl => ?_)
  refine lv_iload_n F.1 F.2.1 dX0_takeMost_3 rfl (lv_at hl 3 rfl) ?_
  refine lv_istore (lv' := [(5, .int a2), (4, .int a2), (0, .ref a0), (1, .int a1), (2, .int a2), (3, .int a3)]) F.1 F.2.1 dX0_takeMost_4 hl (by decide) rfl (fun ls hl => ?_)
  refine lv_iload_n F.1 F.2.1 dX0_takeMost_6 rfl (lv_at hl 3 rfl) ?_
  refine lv_istore (lv' := [(6, .int a1), (5, .int a2), (4, .int a2), (0, .ref a0), (1, .int a1), (2, .int a2), (3, .int a3)]) F.1 F.2.1 dX0_takeMost_7 hl (by decide) rfl (fun ls hl => ?_)
  refine lv_iconst (v := 0) F.1 F.2.1 dX0_takeMost_9 (by decide) ?_
  refine topK (a := 0) (by decide) (fun k_1 hk_1 => ?_)
  refine lv_istore (lv' := [(7, .int k_1), (6, .int a1), (5, .int a2), (4, .int a2), (0, .ref a0), (1, .int a1), (2, .int a2), (3, .int a3)]) F.1 F.2.1 dX0_takeMost_10 hl (by decide) rfl (fun ls hl => ?_)
  refine wloop (σ := Int32 × Int32 × Int32 × Int32) (fun n9 x9 H locs ls => (12 - x9.2.2.2.toInt + 1).toNat < n9 ∧ ((-2) ≤ x9.2.2.1.toInt ∧ x9.2.2.1.toInt ≤ 11) ∧ (0 ≤ x9.2.2.2.toInt ∧ x9.2.2.2.toInt ≤ 12) ∧ TH E (tbC (dayD (.inl (0, 18))) (dayD (.inl (0, 18))) (riverD (.inl Fa1) (.inl Fb1) (.inl (0, 4)) 31 33 35 39 43 47) (riverD (.inl Fa2) (.inl Fb2) (.inl (0, 4)) 32 34 36 40 44 48) rc rd tp A14F A14F A4F A4F A14F A14F (riverD (.inl Fa3) (.inl Fb3) (.inl (0, 4)) 3 8 3 41 45 49) (riverD (.inl Fa4) (.inl Fb4) (.inl (0, 4)) 3 8 3 42 46 50) ((.inr (.inl (0, 12, Pd1)))) ((.inr (.inl (0, 12, Pd2)))) ((.inr (.inl (0, 12, Pd3)))) ((.inr (.inl (0, 12, Pd4)))) ((.inr (.inl (0, 12, Ps1)))) ((.inr (.inl (0, 12, Ps2)))) ((.inr (.inl (0, 12, Ps3)))) ((.inr (.inl (0, 12, Ps4)))) ((.inr (.inl (0, 48, Pi1)))) ((.inr (.inl (0, 48, Pi2)))) ((.inr (.inl (0, 48, Pi3)))) ((.inr (.inl (0, 48, Pi4))))) H ∧ va_S (eA E s.heap.size) s.heap H locs ∧ lv_has ls 8 [(0, .ref a0), (1, .int a1), (3, .int a3), (4, .int x9.1), (5, .int x9.2.1), (6, .int x9.2.2.1), (7, .int x9.2.2.2)]) ?_ (fun x9 H locs ls h => absurd h.1 (Nat.not_lt_zero _)) _ (a2, a2, a1, k_1) ⟨Nat.lt_succ_self _, (wkb ha1 rfl rfl), (wkb (eqb hk_1) rfl rfl), hH, hS, lv_sub hl [4, 5, 7, 3, 2, 1, 0] rfl⟩
  intro n_12 ih_12 ⟨u_2, u_3, u_4, u_5⟩ H locs ls ⟨hm_12, hu_4, hu_5, hH, hS, hl⟩
  have hm_12 : (12 - u_5.toInt + 1).toNat < n_12 + 1 := hm_12
  have hu_4 : ((-2) ≤ u_4.toInt ∧ u_4.toInt ≤ 11) := hu_4
  have hu_5 : (0 ≤ u_5.toInt ∧ u_5.toInt ≤ 12) := hu_5
  have hH : TH E (tbC (dayD (.inl (0, 18))) (dayD (.inl (0, 18))) (riverD (.inl Fa1) (.inl Fb1) (.inl (0, 4)) 31 33 35 39 43 47) (riverD (.inl Fa2) (.inl Fb2) (.inl (0, 4)) 32 34 36 40 44 48) rc rd tp A14F A14F A4F A4F A14F A14F (riverD (.inl Fa3) (.inl Fb3) (.inl (0, 4)) 3 8 3 41 45 49) (riverD (.inl Fa4) (.inl Fb4) (.inl (0, 4)) 3 8 3 42 46 50) ((.inr (.inl (0, 12, Pd1)))) ((.inr (.inl (0, 12, Pd2)))) ((.inr (.inl (0, 12, Pd3)))) ((.inr (.inl (0, 12, Pd4)))) ((.inr (.inl (0, 12, Ps1)))) ((.inr (.inl (0, 12, Ps2)))) ((.inr (.inl (0, 12, Ps3)))) ((.inr (.inl (0, 12, Ps4)))) ((.inr (.inl (0, 48, Pi1)))) ((.inr (.inl (0, 48, Pi2)))) ((.inr (.inl (0, 48, Pi3)))) ((.inr (.inl (0, 48, Pi4))))) H := hH
  have hl : lv_has ls 8 [(0, .ref a0), (1, .int a1), (3, .int a3), (4, .int u_2), (5, .int u_3), (6, .int u_4), (7, .int u_5)] := hl
  refine lv_iload F.1 F.2.1 dX0_takeMost_12 (lv_at hl 6 rfl) ?_
  refine lv_bipush (v := 12) F.1 F.2.1 dX0_takeMost_14 (by decide) ?_
  refine topK (a := 12) (by decide) (fun k_6 hk_6 => ?_)
  refine wjoin (σ := Unit) (pcj := 99) (stj := fun x9 => []) (fun x9 H locs ls => TH E (tbC (dayD (.inl (0, 18))) (dayD (.inl (0, 18))) (riverD (.inl Fa1) (.inl Fb1) (.inl (0, 4)) 31 33 35 39 43 47) (riverD (.inl Fa2) (.inl Fb2) (.inl (0, 4)) 32 34 36 40 44 48) rc rd tp A14F A14F A4F A4F A14F A14F (riverD (.inl Fa3) (.inl Fb3) (.inl (0, 4)) 3 8 3 41 45 49) (riverD (.inl Fa4) (.inl Fb4) (.inl (0, 4)) 3 8 3 42 46 50) ((.inr (.inl (0, 12, Pd1)))) ((.inr (.inl (0, 12, Pd2)))) ((.inr (.inl (0, 12, Pd3)))) ((.inr (.inl (0, 12, Pd4)))) ((.inr (.inl (0, 12, Ps1)))) ((.inr (.inl (0, 12, Ps2)))) ((.inr (.inl (0, 12, Ps3)))) ((.inr (.inl (0, 12, Ps4)))) ((.inr (.inl (0, 48, Pi1)))) ((.inr (.inl (0, 48, Pi2)))) ((.inr (.inl (0, 48, Pi3)))) ((.inr (.inl (0, 48, Pi4))))) H ∧ va_S (eA E s.heap.size) s.heap H locs ∧ lv_has ls 8 [(0, .ref a0), (1, .int a1), (4, .int u_2)]) (fun x9 H locs ls h_ => ?_) (fun J_99 => ?_)
  · skip
    obtain ⟨hH, hS, hl⟩ := h_
    have hH : TH E (tbC (dayD (.inl (0, 18))) (dayD (.inl (0, 18))) (riverD (.inl Fa1) (.inl Fb1) (.inl (0, 4)) 31 33 35 39 43 47) (riverD (.inl Fa2) (.inl Fb2) (.inl (0, 4)) 32 34 36 40 44 48) rc rd tp A14F A14F A4F A4F A14F A14F (riverD (.inl Fa3) (.inl Fb3) (.inl (0, 4)) 3 8 3 41 45 49) (riverD (.inl Fa4) (.inl Fb4) (.inl (0, 4)) 3 8 3 42 46 50) ((.inr (.inl (0, 12, Pd1)))) ((.inr (.inl (0, 12, Pd2)))) ((.inr (.inl (0, 12, Pd3)))) ((.inr (.inl (0, 12, Pd4)))) ((.inr (.inl (0, 12, Ps1)))) ((.inr (.inl (0, 12, Ps2)))) ((.inr (.inl (0, 12, Ps3)))) ((.inr (.inl (0, 12, Ps4)))) ((.inr (.inl (0, 48, Pi1)))) ((.inr (.inl (0, 48, Pi2)))) ((.inr (.inl (0, 48, Pi3)))) ((.inr (.inl (0, 48, Pi4))))) H := hH
    have hl : lv_has ls 8 [(0, .ref a0), (1, .int a1), (4, .int u_2)] := hl
    show W _ _ _ _ _ _ _ _ _ _ _ _ _ _ _ (F0 _ _ _ [])
    refine lv_aload_n F.1 F.2.1 dX0_takeMost_99 rfl (lv_at hl 0 rfl) ?_
    refine lv_iload_n F.1 F.2.1 dX0_takeMost_100 rfl (lv_at hl 1 rfl) ?_
    refine lv_iload F.1 F.2.1 dX0_takeMost_101 (lv_at hl 2 rfl) ?_
    refine lv_ineg F.1 F.2.1 dX0_takeMost_103 ?_
    refine topF (fun z_7 => ?_)
    refine tVv (b := a0) (As := [.int a1, .int z_7]) (rest := []) F hK hN hO (c_X0_change E rc rd tp Fa1 Fb1 Fa2 Fb2 Fa3 Fb3 Fa4 Fb4 Pd1 Pd2 Pd3 Pd4 Ps1 Ps2 Ps3 Ps4 Pi1 Pi2 Pi3 Pi4 a0 a1 z_7 ha0 ha1 hFa1 hFb1 hFa2 hFb2 hFa3 hFb3 hFa4 hFb4 hPd1 hPd2 hPd3 hPd4 hPs1 hPs2 hPs3 hPs4 hPi1 hPi2 hPi3 hPi4) mv_X0_change wd_22_22 ⟨Nat.le_of_ble_eq_true rfl, Nat.le_of_ble_eq_true rfl⟩ ⟨Nat.le_of_ble_eq_true rfl, Nat.le_of_ble_eq_true rfl⟩ hH hS (tRecv hK hH (tyb ha0 (all2 rfl rfl)) clX0) rfl hl.1 (Nat.le_of_ble_eq_true rfl) dX0_takeMost_104 (fun H locs hq hS => ?_)
    have hH := hq
    have hH : TH E (tbC (dayD (.inl (0, 18))) (dayD (.inl (0, 18))) (riverD (.inl Fa1) (.inl Fb1) (.inl (0, 4)) 31 33 35 39 43 47) (riverD (.inl Fa2) (.inl Fb2) (.inl (0, 4)) 32 34 36 40 44 48) rc rd tp A14F A14F A4F A4F A14F A14F (riverD (.inl Fa3) (.inl Fb3) (.inl (0, 4)) 3 8 3 41 45 49) (riverD (.inl Fa4) (.inl Fb4) (.inl (0, 4)) 3 8 3 42 46 50) ((.inr (.inl (0, 12, Pd1)))) ((.inr (.inl (0, 12, Pd2)))) ((.inr (.inl (0, 12, Pd3)))) ((.inr (.inl (0, 12, Pd4)))) ((.inr (.inl (0, 12, Ps1)))) ((.inr (.inl (0, 12, Ps2)))) ((.inr (.inl (0, 12, Ps3)))) ((.inr (.inl (0, 12, Ps4)))) ((.inr (.inl (0, 48, Pi1)))) ((.inr (.inl (0, 48, Pi2)))) ((.inr (.inl (0, 48, Pi3)))) ((.inr (.inl (0, 48, Pi4))))) H := hH
    refine lv_iload F.1 F.2.1 dX0_takeMost_107 (lv_at hl 2 rfl) ?_
    exact txI F hS dX0_takeMost_109 rfl (⟨(i32b _), hH⟩)
  refine b_ge (tgt := 99) F dX0_takeMost_16 (by decide) (fun c_9 => ?_) (fun c_9 => ?_)
  · skip
    have r_10 : 12 ≤ u_5.toInt ∧ u_5.toInt ≤ 12 := by have h9_ := hu_5; omega
    exact J_99 () _ _ _ ⟨hH, hS, lv_sub hl [0, 1, 3] rfl⟩
  · skip
    have r_11 : 0 ≤ u_5.toInt ∧ u_5.toInt ≤ 11 := by have h9_ := hu_5; omega
    refine lv_iload F.1 F.2.1 dX0_takeMost_19 (lv_at hl 5 rfl) ?_
    refine z_lt (tgt := 99) F dX0_takeMost_21 (by decide) (fun c_12 => ?_) (fun c_12 => ?_)
    · skip
      have r_13 : (-2) ≤ u_4.toInt ∧ u_4.toInt ≤ (-1) := by have h9_ := hu_4; omega
      exact J_99 () _ _ _ ⟨hH, hS, lv_sub hl [0, 1, 3] rfl⟩
    · skip
      have r_14 : 0 ≤ u_4.toInt ∧ u_4.toInt ≤ 11 := by have h9_ := hu_4; omega
      refine lv_iload F.1 F.2.1 dX0_takeMost_24 (lv_at hl 5 rfl) ?_
      refine lv_iload_n F.1 F.2.1 dX0_takeMost_26 rfl (lv_at hl 2 rfl) ?_
      refine b_eq (tgt := 99) F dX0_takeMost_27 (by decide) (fun c_15 => ?_) (fun c_15 => ?_)
      · skip
        have r_16 : 0 ≤ a3.toInt ∧ a3.toInt ≤ 11 := by have h9_ := (i32b a3); omega
        exact J_99 () _ _ _ ⟨hH, hS, lv_sub hl [0, 1, 3] rfl⟩
      · skip
        refine lv_iload F.1 F.2.1 dX0_takeMost_30 (lv_at hl 4 rfl) ?_
        refine z_le (tgt := 99) F dX0_takeMost_32 (by decide) (fun c_17 => ?_) (fun c_17 => ?_)
        · skip
          have r_18 : (-2147483648) ≤ u_3.toInt ∧ u_3.toInt ≤ 0 := by have h9_ := (i32b u_3); omega
          exact J_99 () _ _ _ ⟨hH, hS, lv_sub hl [0, 1, 3] rfl⟩
        · skip
          have r_19 : 1 ≤ u_3.toInt ∧ u_3.toInt ≤ 2147483647 := by have h9_ := (i32b u_3); omega
          refine lv_iload F.1 F.2.1 dX0_takeMost_35 (lv_at hl 4 rfl) ?_
          refine lv_aload_n F.1 F.2.1 dX0_takeMost_37 rfl (lv_at hl 0 rfl) ?_
          refine tGetR (j := 5) F hK hH (tyb ha0 (all2 rfl rfl)) rfl (all1 rfl) clX0 (by decide) wd_4_14 dX0_takeMost_38 (fun q_20 hq_20 _ => ?_)
          refine lv_iload F.1 F.2.1 dX0_takeMost_41 (lv_at hl 5 rfl) ?_
          refine tIaldB F hK hH (tyb hq_20 (all1 rfl)) (ixb (n := 12) r_14 rfl rfl) dX0_takeMost_43 (fun z_21 hz_21 => ?_)
          refine wjoin (σ := Int32 × Int32 × Int32) (pcj := 60) (stj := fun x9 => []) (fun x9 H locs ls => (0 ≤ x9.2.2.toInt ∧ x9.2.2.toInt ≤ 11) ∧ TH E (tbC (dayD (.inl (0, 18))) (dayD (.inl (0, 18))) (riverD (.inl Fa1) (.inl Fb1) (.inl (0, 4)) 31 33 35 39 43 47) (riverD (.inl Fa2) (.inl Fb2) (.inl (0, 4)) 32 34 36 40 44 48) rc rd tp A14F A14F A4F A4F A14F A14F (riverD (.inl Fa3) (.inl Fb3) (.inl (0, 4)) 3 8 3 41 45 49) (riverD (.inl Fa4) (.inl Fb4) (.inl (0, 4)) 3 8 3 42 46 50) ((.inr (.inl (0, 12, Pd1)))) ((.inr (.inl (0, 12, Pd2)))) ((.inr (.inl (0, 12, Pd3)))) ((.inr (.inl (0, 12, Pd4)))) ((.inr (.inl (0, 12, Ps1)))) ((.inr (.inl (0, 12, Ps2)))) ((.inr (.inl (0, 12, Ps3)))) ((.inr (.inl (0, 12, Ps4)))) ((.inr (.inl (0, 48, Pi1)))) ((.inr (.inl (0, 48, Pi2)))) ((.inr (.inl (0, 48, Pi3)))) ((.inr (.inl (0, 48, Pi4))))) H ∧ va_S (eA E s.heap.size) s.heap H locs ∧ lv_has ls 8 [(0, .ref a0), (1, .int a1), (3, .int a3), (4, .int x9.1), (5, .int x9.2.1), (6, .int x9.2.2), (7, .int u_5)]) (fun x9 H locs ls h_ => ?_) (fun J_60 => ?_)
          · skip
            obtain ⟨u_22, u_23, u_24⟩ := x9
            obtain ⟨hu_24, hH, hS, hl⟩ := h_
            have hu_24 : (0 ≤ u_24.toInt ∧ u_24.toInt ≤ 11) := hu_24
            have hH : TH E (tbC (dayD (.inl (0, 18))) (dayD (.inl (0, 18))) (riverD (.inl Fa1) (.inl Fb1) (.inl (0, 4)) 31 33 35 39 43 47) (riverD (.inl Fa2) (.inl Fb2) (.inl (0, 4)) 32 34 36 40 44 48) rc rd tp A14F A14F A4F A4F A14F A14F (riverD (.inl Fa3) (.inl Fb3) (.inl (0, 4)) 3 8 3 41 45 49) (riverD (.inl Fa4) (.inl Fb4) (.inl (0, 4)) 3 8 3 42 46 50) ((.inr (.inl (0, 12, Pd1)))) ((.inr (.inl (0, 12, Pd2)))) ((.inr (.inl (0, 12, Pd3)))) ((.inr (.inl (0, 12, Pd4)))) ((.inr (.inl (0, 12, Ps1)))) ((.inr (.inl (0, 12, Ps2)))) ((.inr (.inl (0, 12, Ps3)))) ((.inr (.inl (0, 12, Ps4)))) ((.inr (.inl (0, 48, Pi1)))) ((.inr (.inl (0, 48, Pi2)))) ((.inr (.inl (0, 48, Pi3)))) ((.inr (.inl (0, 48, Pi4))))) H := hH
            have hl : lv_has ls 8 [(0, .ref a0), (1, .int a1), (3, .int a3), (4, .int u_22), (5, .int u_23), (6, .int u_24), (7, .int u_5)] := hl
            show W _ _ _ _ _ _ _ _ _ _ _ _ _ _ _ (F0 _ _ _ [])
            refine lv_iload F.1 F.2.1 dX0_takeMost_60 (lv_at hl 4 rfl) ?_
            refine lv_aload_n F.1 F.2.1 dX0_takeMost_62 rfl (lv_at hl 0 rfl) ?_
            refine tGetR (j := 6) F hK hH (tyb ha0 (all2 rfl rfl)) rfl (all1 rfl) clX0 (by decide) wd_4_15 dX0_takeMost_63 (fun q_25 hq_25 _ => ?_)
            refine lv_iload F.1 F.2.1 dX0_takeMost_66 (lv_at hl 5 rfl) ?_
            refine tIaldB F hK hH (tyb hq_25 (all1 rfl)) (ixb (n := 12) hu_24 rfl rfl) dX0_takeMost_68 (fun z_26 hz_26 => ?_)
            refine wjoin (σ := Int32 × Int32) (pcj := 81) (stj := fun x9 => []) (fun x9 H locs ls => (0 ≤ x9.2.toInt ∧ x9.2.toInt ≤ 11) ∧ TH E (tbC (dayD (.inl (0, 18))) (dayD (.inl (0, 18))) (riverD (.inl Fa1) (.inl Fb1) (.inl (0, 4)) 31 33 35 39 43 47) (riverD (.inl Fa2) (.inl Fb2) (.inl (0, 4)) 32 34 36 40 44 48) rc rd tp A14F A14F A4F A4F A14F A14F (riverD (.inl Fa3) (.inl Fb3) (.inl (0, 4)) 3 8 3 41 45 49) (riverD (.inl Fa4) (.inl Fb4) (.inl (0, 4)) 3 8 3 42 46 50) ((.inr (.inl (0, 12, Pd1)))) ((.inr (.inl (0, 12, Pd2)))) ((.inr (.inl (0, 12, Pd3)))) ((.inr (.inl (0, 12, Pd4)))) ((.inr (.inl (0, 12, Ps1)))) ((.inr (.inl (0, 12, Ps2)))) ((.inr (.inl (0, 12, Ps3)))) ((.inr (.inl (0, 12, Ps4)))) ((.inr (.inl (0, 48, Pi1)))) ((.inr (.inl (0, 48, Pi2)))) ((.inr (.inl (0, 48, Pi3)))) ((.inr (.inl (0, 48, Pi4))))) H ∧ va_S (eA E s.heap.size) s.heap H locs ∧ lv_has ls 8 [(0, .ref a0), (1, .int a1), (3, .int a3), (4, .int u_22), (5, .int x9.1), (6, .int x9.2), (7, .int u_5)]) (fun x9 H locs ls h_ => ?_) (fun J_81 => ?_)
            · skip
              obtain ⟨u_27, u_28⟩ := x9
              obtain ⟨hu_28, hH, hS, hl⟩ := h_
              have hu_28 : (0 ≤ u_28.toInt ∧ u_28.toInt ≤ 11) := hu_28
              have hH : TH E (tbC (dayD (.inl (0, 18))) (dayD (.inl (0, 18))) (riverD (.inl Fa1) (.inl Fb1) (.inl (0, 4)) 31 33 35 39 43 47) (riverD (.inl Fa2) (.inl Fb2) (.inl (0, 4)) 32 34 36 40 44 48) rc rd tp A14F A14F A4F A4F A14F A14F (riverD (.inl Fa3) (.inl Fb3) (.inl (0, 4)) 3 8 3 41 45 49) (riverD (.inl Fa4) (.inl Fb4) (.inl (0, 4)) 3 8 3 42 46 50) ((.inr (.inl (0, 12, Pd1)))) ((.inr (.inl (0, 12, Pd2)))) ((.inr (.inl (0, 12, Pd3)))) ((.inr (.inl (0, 12, Pd4)))) ((.inr (.inl (0, 12, Ps1)))) ((.inr (.inl (0, 12, Ps2)))) ((.inr (.inl (0, 12, Ps3)))) ((.inr (.inl (0, 12, Ps4)))) ((.inr (.inl (0, 48, Pi1)))) ((.inr (.inl (0, 48, Pi2)))) ((.inr (.inl (0, 48, Pi3)))) ((.inr (.inl (0, 48, Pi4))))) H := hH
              have hl : lv_has ls 8 [(0, .ref a0), (1, .int a1), (3, .int a3), (4, .int u_22), (5, .int u_27), (6, .int u_28), (7, .int u_5)] := hl
              show W _ _ _ _ _ _ _ _ _ _ _ _ _ _ _ (F0 _ _ _ [])
              refine lv_aload_n F.1 F.2.1 dX0_takeMost_81 rfl (lv_at hl 0 rfl) ?_
              refine tGetR0 (j := 0) F hK hH (tyb ha0 (all2 rfl rfl)) rfl clX0 (by decide) wd_4_23 dX0_takeMost_82 (fun q_29 hq_29 => ?_)
              refine tGetRM0 (j := 1) (L := [39, 40]) F hK hH hq_29 (alls ⟨_, _, rfl, rfl, by decide⟩ (alls1 ⟨_, _, rfl, rfl, by decide⟩)) clX2 (by decide) wd_21_12 dX0_takeMost_85 (fun q_30 hq_30 => ?_)
              refine lv_iload F.1 F.2.1 dX0_takeMost_88 (lv_at hl 5 rfl) ?_
              refine tIaldM (lo := (-2)) (hi := 11) F hK hH hq_30 (alls ⟨_, rfl, hPd1⟩ (alls1 ⟨_, rfl, hPd2⟩)) (ixb (n := 12) hu_28 rfl rfl) dX0_takeMost_90 (fun z_31 hz_31 => ?_)
              refine lv_istore (lv' := [(6, .int z_31), (0, .ref a0), (1, .int a1), (3, .int a3), (4, .int u_22), (5, .int u_27), (7, .int u_5)]) F.1 F.2.1 dX0_takeMost_91 hl (by decide) rfl (fun ls hl => ?_)
              obtain ⟨x_32, ex_32, hx_32⟩ := iincB (c := 1) (lo := 1) (hi := 12) r_11 rfl
              refine lv_iinc (v := x_32) (lv' := [(7, .int x_32), (6, .int z_31), (0, .ref a0), (1, .int a1), (3, .int a3), (4, .int u_22), (5, .int u_27)]) F.1 F.2.1 dX0_takeMost_93 hl (k := 6) rfl ex_32 (by decide) rfl (fun ls hl => ?_)
              refine lv_goto (tgt := 12) F.1 F.2.1 dX0_takeMost_96 (by decide) ?_
              exact ih_12 (u_22, u_27, z_31, x_32) _ _ _ ⟨(show (12 - x_32.toInt + 1).toNat < n_12 from by omega), hz_31, (wkb hx_32.2 rfl rfl), hH, hS, lv_sub hl [2, 3, 4, 5, 6, 1, 0] rfl⟩
            refine b_le (tgt := 81) F dX0_takeMost_69 (by decide) (fun c_33 => ?_) (fun c_33 => ?_)
            · skip
              exact J_81 (u_23, u_24) _ _ _ ⟨hu_24, hH, hS, lv_sub hl [0, 1, 2, 3, 4, 5, 6] rfl⟩
            · skip
              refine lv_aload_n F.1 F.2.1 dX0_takeMost_72 rfl (lv_at hl 0 rfl) ?_
              refine tGetR (j := 6) F hK hH (tyb ha0 (all2 rfl rfl)) rfl (all1 rfl) clX0 (by decide) wd_4_15 dX0_takeMost_73 (fun q_34 hq_34 _ => ?_)
              refine lv_iload F.1 F.2.1 dX0_takeMost_76 (lv_at hl 5 rfl) ?_
              refine tIaldB F hK hH (tyb hq_34 (all1 rfl)) (ixb (n := 12) hu_24 rfl rfl) dX0_takeMost_78 (fun z_35 hz_35 => ?_)
              refine lv_istore (lv' := [(5, .int z_35), (0, .ref a0), (1, .int a1), (3, .int a3), (4, .int u_22), (6, .int u_24), (7, .int u_5)]) F.1 F.2.1 dX0_takeMost_79 hl (by decide) rfl (fun ls hl => ?_)
              exact J_81 (z_35, u_24) _ _ _ ⟨hu_24, hH, hS, lv_sub hl [1, 2, 3, 4, 0, 5, 6] rfl⟩
          refine b_le (tgt := 60) F dX0_takeMost_44 (by decide) (fun c_36 => ?_) (fun c_36 => ?_)
          · skip
            have r_37 : 1 ≤ z_21.toInt ∧ z_21.toInt ≤ 2147483647 := by have h9_ := hz_21; omega
            exact J_60 (u_2, u_3, u_4) _ _ _ ⟨r_14, hH, hS, lv_sub hl [0, 1, 2, 3, 4, 5, 6] rfl⟩
          · skip
            refine lv_aload_n F.1 F.2.1 dX0_takeMost_47 rfl (lv_at hl 0 rfl) ?_
            refine tGetR (j := 5) F hK hH (tyb ha0 (all2 rfl rfl)) rfl (all1 rfl) clX0 (by decide) wd_4_14 dX0_takeMost_48 (fun q_38 hq_38 _ => ?_)
            refine lv_iload F.1 F.2.1 dX0_takeMost_51 (lv_at hl 5 rfl) ?_
            refine tIaldB F hK hH (tyb hq_38 (all1 rfl)) (ixb (n := 12) r_14 rfl rfl) dX0_takeMost_53 (fun z_39 hz_39 => ?_)
            refine lv_istore (lv' := [(4, .int z_39), (0, .ref a0), (1, .int a1), (3, .int a3), (5, .int u_3), (6, .int u_4), (7, .int u_5)]) F.1 F.2.1 dX0_takeMost_54 hl (by decide) rfl (fun ls hl => ?_)
            refine lv_iload F.1 F.2.1 dX0_takeMost_56 (lv_at hl 0 rfl) ?_
            refine lv_istore (lv' := [(5, .int z_39), (4, .int z_39), (0, .ref a0), (1, .int a1), (3, .int a3), (6, .int u_4), (7, .int u_5)]) F.1 F.2.1 dX0_takeMost_58 hl (by decide) rfl (fun ls hl => ?_)
            exact J_60 (z_39, z_39, u_4) _ _ _ ⟨r_14, hH, hS, lv_sub hl [2, 3, 4, 1, 0, 5, 6] rfl⟩
set_option maxHeartbeats 4000000 in
set_option maxRecDepth 100000 in
theorem c_X0_takeByAge (E : Ev) (rc : TD) (rd : TD) (tp : TD) (Fa1 : Int × Int) (Fb1 : Int × Int) (Fa2 : Int × Int) (Fb2 : Int × Int) (Fa3 : Int × Int) (Fb3 : Int × Int) (Fa4 : Int × Int) (Fb4 : Int × Int) (Pd1 : (Nat → Int32) → Prop) (Pd2 : (Nat → Int32) → Prop) (Pd3 : (Nat → Int32) → Prop) (Pd4 : (Nat → Int32) → Prop) (Ps1 : (Nat → Int32) → Prop) (Ps2 : (Nat → Int32) → Prop) (Ps3 : (Nat → Int32) → Prop) (Ps4 : (Nat → Int32) → Prop) (Pi1 : (Nat → Int32) → Prop) (Pi2 : (Nat → Int32) → Prop) (Pi3 : (Nat → Int32) → Prop) (Pi4 : (Nat → Int32) → Prop) (a0 : Nat) (a1 : Int32) (ha0 : eT E a0 ∈ [24, 25]) (hFa1 : 0 ≤ Fa1.1 ∧ Fa1.2 ≤ 12) (hFb1 : 0 ≤ Fb1.1 ∧ Fb1.2 ≤ 14) (hFa2 : 0 ≤ Fa2.1 ∧ Fa2.2 ≤ 12) (hFb2 : 0 ≤ Fb2.1 ∧ Fb2.2 ≤ 14) (hFa3 : 0 ≤ Fa3.1 ∧ Fa3.2 ≤ 12) (hFb3 : 0 ≤ Fb3.1 ∧ Fb3.2 ≤ 14) (hFa4 : 0 ≤ Fa4.1 ∧ Fa4.2 ≤ 12) (hFb4 : 0 ≤ Fb4.1 ∧ Fb4.2 ≤ 14) (hPd1 : ∀ f, Pd1 f → ivP 12 (-2) 11 f) (hPd2 : ∀ f, Pd2 f → ivP 12 (-2) 11 f) (hPd3 : ∀ f, Pd3 f → ivP 12 (-2) 11 f) (hPd4 : ∀ f, Pd4 f → ivP 12 (-2) 11 f) (hPs1 : ∀ f, Ps1 f → ivP 12 (-2147483648) 2147483647 f) (hPs2 : ∀ f, Ps2 f → ivP 12 (-2147483648) 2147483647 f) (hPs3 : ∀ f, Ps3 f → ivP 12 (-2147483648) 2147483647 f) (hPs4 : ∀ f, Ps4 f → ivP 12 (-2147483648) 2147483647 f) (hPi1 : ∀ f, Pi1 f → ivP 48 (-2147483648) 2147483647 f) (hPi2 : ∀ f, Pi2 f → ivP 48 (-2147483648) 2147483647 f) (hPi3 : ∀ f, Pi3 f → ivP 48 (-2147483648) 2147483647 f) (hPi4 : ∀ f, Pi4 f → ivP 48 (-2147483648) 2147483647 f) : TcV E yX0_takeByAge cX0_takeByAge 4 ({ frames := 3, cells := 0, slots := 0, locals := 94 }) [.ref a0, .int a1] (fun H => TH E (tbC (dayD (.inl (0, 18))) (dayD (.inl (0, 18))) (riverD (.inl Fa1) (.inl Fb1) (.inl (0, 4)) 31 33 35 39 43 47) (riverD (.inl Fa2) (.inl Fb2) (.inl (0, 4)) 32 34 36 40 44 48) rc rd tp A14F A14F A4F A4F A14F A14F (riverD (.inl Fa3) (.inl Fb3) (.inl (0, 4)) 3 8 3 41 45 49) (riverD (.inl Fa4) (.inl Fb4) (.inl (0, 4)) 3 8 3 42 46 50) ((.inr (.inl (0, 12, Pd1)))) ((.inr (.inl (0, 12, Pd2)))) ((.inr (.inl (0, 12, Pd3)))) ((.inr (.inl (0, 12, Pd4)))) ((.inr (.inl (0, 12, Ps1)))) ((.inr (.inl (0, 12, Ps2)))) ((.inr (.inl (0, 12, Ps3)))) ((.inr (.inl (0, 12, Ps4)))) ((.inr (.inl (0, 48, Pi1)))) ((.inr (.inl (0, 48, Pi2)))) ((.inr (.inl (0, 48, Pi3)))) ((.inr (.inl (0, 48, Pi4))))) H) (fun H => TH E (tbC (dayD (.inl (0, 18))) (dayD (.inl (0, 18))) (riverD (.inl Fa1) (.inl Fb1) (.inl (0, 4)) 31 33 35 39 43 47) (riverD (.inl Fa2) (.inl Fb2) (.inl (0, 4)) 32 34 36 40 44 48) rc rd tp A14F A14F A4F A4F A14F A14F (riverD (.inl Fa3) (.inl Fb3) (.inl (0, 4)) 3 8 3 41 45 49) (riverD (.inl Fa4) (.inl Fb4) (.inl (0, 4)) 3 8 3 42 46 50) ((.inr (.inl (0, 12, Pd1)))) ((.inr (.inl (0, 12, Pd2)))) ((.inr (.inl (0, 12, Pd3)))) ((.inr (.inl (0, 12, Pd4)))) ((.inr (.inl (0, 12, Ps1)))) ((.inr (.inl (0, 12, Ps2)))) ((.inr (.inl (0, 12, Ps3)))) ((.inr (.inl (0, 12, Ps4)))) ((.inr (.inl (0, 48, Pi1)))) ((.inr (.inl (0, 48, Pi2)))) ((.inr (.inl (0, 48, Pi3)))) ((.inr (.inl (0, 48, Pi4))))) H) := by
  refine teV (by decide) (Nat.le_of_ble_eq_true rfl) ?_
  intro p_ ev_ s mi_ below_ meth cd_ ls F hK hN hO hH hS hl
  have hH : TH E (tbC (dayD (.inl (0, 18))) (dayD (.inl (0, 18))) (riverD (.inl Fa1) (.inl Fb1) (.inl (0, 4)) 31 33 35 39 43 47) (riverD (.inl Fa2) (.inl Fb2) (.inl (0, 4)) 32 34 36 40 44 48) rc rd tp A14F A14F A4F A4F A14F A14F (riverD (.inl Fa3) (.inl Fb3) (.inl (0, 4)) 3 8 3 41 45 49) (riverD (.inl Fa4) (.inl Fb4) (.inl (0, 4)) 3 8 3 42 46 50) ((.inr (.inl (0, 12, Pd1)))) ((.inr (.inl (0, 12, Pd2)))) ((.inr (.inl (0, 12, Pd3)))) ((.inr (.inl (0, 12, Pd4)))) ((.inr (.inl (0, 12, Ps1)))) ((.inr (.inl (0, 12, Ps2)))) ((.inr (.inl (0, 12, Ps3)))) ((.inr (.inl (0, 12, Ps4)))) ((.inr (.inl (0, 48, Pi1)))) ((.inr (.inl (0, 48, Pi2)))) ((.inr (.inl (0, 48, Pi3)))) ((.inr (.inl (0, 48, Pi4))))) s.heap := hH
  have hl : lv_has ls 4 [(0, .ref a0), (1, .int a1)] := hl
  refine lv_iconst (v := 0) F.1 F.2.1 dX0_takeByAge_0 (by decide) ?_
  refine topK (a := 0) (by decide) (fun k_1 hk_1 => ?_)
  refine lv_istore_n (lv' := [(2, .int k_1), (0, .ref a0), (1, .int a1)]) F.1 F.2.1 dX0_takeByAge_1 rfl hl (by decide) rfl (fun ls hl => ?_)
  refine wloop (σ := Int32) (fun n9 x9 H locs ls => (18 - x9.toInt + 1).toNat < n9 ∧ (0 ≤ x9.toInt ∧ x9.toInt ≤ 18) ∧ TH E (tbC (dayD (.inl (0, 18))) (dayD (.inl (0, 18))) (riverD (.inl Fa1) (.inl Fb1) (.inl (0, 4)) 31 33 35 39 43 47) (riverD (.inl Fa2) (.inl Fb2) (.inl (0, 4)) 32 34 36 40 44 48) rc rd tp A14F A14F A4F A4F A14F A14F (riverD (.inl Fa3) (.inl Fb3) (.inl (0, 4)) 3 8 3 41 45 49) (riverD (.inl Fa4) (.inl Fb4) (.inl (0, 4)) 3 8 3 42 46 50) ((.inr (.inl (0, 12, Pd1)))) ((.inr (.inl (0, 12, Pd2)))) ((.inr (.inl (0, 12, Pd3)))) ((.inr (.inl (0, 12, Pd4)))) ((.inr (.inl (0, 12, Ps1)))) ((.inr (.inl (0, 12, Ps2)))) ((.inr (.inl (0, 12, Ps3)))) ((.inr (.inl (0, 12, Ps4)))) ((.inr (.inl (0, 48, Pi1)))) ((.inr (.inl (0, 48, Pi2)))) ((.inr (.inl (0, 48, Pi3)))) ((.inr (.inl (0, 48, Pi4))))) H ∧ va_S (eA E s.heap.size) s.heap H locs ∧ lv_has ls 4 [(0, .ref a0), (1, .int a1), (2, .int x9)]) ?_ (fun x9 H locs ls h => absurd h.1 (Nat.not_lt_zero _)) _ (k_1) ⟨Nat.lt_succ_self _, (wkb (eqb hk_1) rfl rfl), hH, hS, lv_sub hl [1, 2, 0] rfl⟩
  intro n_2 ih_2 u_2 H locs ls ⟨hm_2, hu_2, hH, hS, hl⟩
  have hm_2 : (18 - u_2.toInt + 1).toNat < n_2 + 1 := hm_2
  have hu_2 : (0 ≤ u_2.toInt ∧ u_2.toInt ≤ 18) := hu_2
  have hH : TH E (tbC (dayD (.inl (0, 18))) (dayD (.inl (0, 18))) (riverD (.inl Fa1) (.inl Fb1) (.inl (0, 4)) 31 33 35 39 43 47) (riverD (.inl Fa2) (.inl Fb2) (.inl (0, 4)) 32 34 36 40 44 48) rc rd tp A14F A14F A4F A4F A14F A14F (riverD (.inl Fa3) (.inl Fb3) (.inl (0, 4)) 3 8 3 41 45 49) (riverD (.inl Fa4) (.inl Fb4) (.inl (0, 4)) 3 8 3 42 46 50) ((.inr (.inl (0, 12, Pd1)))) ((.inr (.inl (0, 12, Pd2)))) ((.inr (.inl (0, 12, Pd3)))) ((.inr (.inl (0, 12, Pd4)))) ((.inr (.inl (0, 12, Ps1)))) ((.inr (.inl (0, 12, Ps2)))) ((.inr (.inl (0, 12, Ps3)))) ((.inr (.inl (0, 12, Ps4)))) ((.inr (.inl (0, 48, Pi1)))) ((.inr (.inl (0, 48, Pi2)))) ((.inr (.inl (0, 48, Pi3)))) ((.inr (.inl (0, 48, Pi4))))) H := hH
  have hl : lv_has ls 4 [(0, .ref a0), (1, .int a1), (2, .int u_2)] := hl
  refine lv_iload_n F.1 F.2.1 dX0_takeByAge_2 rfl (lv_at hl 2 rfl) ?_
  refine lv_aload_n F.1 F.2.1 dX0_takeByAge_3 rfl (lv_at hl 0 rfl) ?_
  refine tGetI (j := 3) F hK hH (tyb ha0 (all2 rfl rfl)) rfl clX0 (by decide) wd_20_3 dX0_takeByAge_4 (fun z_3 hz_3 => ?_)
  refine b_ge (tgt := 55) F dX0_takeByAge_7 (by decide) (fun c_4 => ?_) (fun c_4 => ?_)
  · skip
    exact txV F hS dX0_takeByAge_55 (hH)
  · skip
    have r_5 : 0 ≤ u_2.toInt ∧ u_2.toInt ≤ 17 := by have h9_ := hu_2; omega
    have r_6 : 1 ≤ z_3.toInt ∧ z_3.toInt ≤ 18 := by have h9_ := hz_3; omega
    refine lv_aload_n F.1 F.2.1 dX0_takeByAge_10 rfl (lv_at hl 0 rfl) ?_
    refine tGetR (j := 2) F hK hH (tyb ha0 (all2 rfl rfl)) rfl (all1 rfl) clX0 (by decide) wd_4_12 dX0_takeByAge_11 (fun q_7 hq_7 _ => ?_)
    refine lv_iload_n F.1 F.2.1 dX0_takeByAge_14 rfl (lv_at hl 2 rfl) ?_
    refine tIaldB F hK hH (tyb hq_7 (all1 rfl)) (ixb (n := 18) r_5 rfl rfl) dX0_takeByAge_15 (fun z_8 hz_8 => ?_)
    refine lv_istore_n (lv' := [(3, .int z_8), (0, .ref a0), (1, .int a1), (2, .int u_2)]) F.1 F.2.1 dX0_takeByAge_16 rfl hl (by decide) rfl (fun ls hl => ?_)
    refine lv_aload_n F.1 F.2.1 dX0_takeByAge_17 rfl (lv_at hl 1 rfl) ?_
    refine tGetR (j := 8) F hK hH (tyb ha0 (all2 rfl rfl)) rfl (all1 rfl) clX0 (by decide) wd_4_17 dX0_takeByAge_18 (fun q_9 hq_9 _ => ?_)
    refine lv_iload_n F.1 F.2.1 dX0_takeByAge_21 rfl (lv_at hl 0 rfl) ?_
    refine lv_iload_n F.1 F.2.1 dX0_takeByAge_22 rfl (lv_at hl 0 rfl) ?_
    refine lv_iload_n F.1 F.2.1 dX0_takeByAge_23 rfl (lv_at hl 2 rfl) ?_
    refine b_ne (tgt := 31) F dX0_takeByAge_24 (by decide) (fun c_10 => ?_) (fun c_10 => ?_)
    · skip
      refine lv_aload_n F.1 F.2.1 dX0_takeByAge_31 rfl (lv_at hl 1 rfl) ?_
      refine lv_aload_n F.1 F.2.1 dX0_takeByAge_32 rfl (lv_at hl 1 rfl) ?_
      refine tGetR (j := 4) F hK hH (tyb ha0 (all2 rfl rfl)) rfl (all1 rfl) clX0 (by decide) wd_4_13 dX0_takeByAge_33 (fun q_12 hq_12 _ => ?_)
      refine lv_iload_n F.1 F.2.1 dX0_takeByAge_36 rfl (lv_at hl 0 rfl) ?_
      refine tIaldB F hK hH (tyb hq_12 (all1 rfl)) (ixb (n := 18) hz_8 rfl rfl) dX0_takeByAge_37 (fun z_13 hz_13 => ?_)
      refine lv_aload_n F.1 F.2.1 dX0_takeByAge_38 rfl (lv_at hl 1 rfl) ?_
      refine tGetR (j := 7) F hK hH (tyb ha0 (all2 rfl rfl)) rfl (all1 rfl) clX0 (by decide) wd_4_16 dX0_takeByAge_39 (fun q_14 hq_14 _ => ?_)
      refine lv_iload_n F.1 F.2.1 dX0_takeByAge_42 rfl (lv_at hl 0 rfl) ?_
      refine tIaldB F hK hH (tyb hq_14 (all1 rfl)) (ixb (n := 18) hz_8 rfl rfl) dX0_takeByAge_43 (fun z_15 hz_15 => ?_)
      refine lv_iconst (v := (-1)) F.1 F.2.1 dX0_takeByAge_44 (by decide) ?_
      refine topK (a := (-1)) (by decide) (fun k_16 hk_16 => ?_)
      refine tVi (b := a0) (As := [.int z_13, .int z_15, .int k_16]) (rest := [.int z_8, .ref q_9]) F hK hN hO (c_X0_takeMost E rc rd tp Fa1 Fb1 Fa2 Fb2 Fa3 Fb3 Fa4 Fb4 Pd1 Pd2 Pd3 Pd4 Ps1 Ps2 Ps3 Ps4 Pi1 Pi2 Pi3 Pi4 a0 z_13 z_15 k_16 ha0 hz_13 hFa1 hFb1 hFa2 hFb2 hFa3 hFb3 hFa4 hFb4 hPd1 hPd2 hPd3 hPd4 hPs1 hPs2 hPs3 hPs4 hPi1 hPi2 hPi3 hPi4) mv_X0_takeMost wd_22_18 ⟨Nat.le_of_ble_eq_true rfl, Nat.le_of_ble_eq_true rfl⟩ ⟨Nat.le_of_ble_eq_true rfl, Nat.le_of_ble_eq_true rfl⟩ hH hS (tRecv hK hH (tyb ha0 (all2 rfl rfl)) clX0) rfl hl.1 (Nat.le_of_ble_eq_true rfl) dX0_takeByAge_45 (fun z_17 H locs hq hS => ?_)
      obtain ⟨f_18, hH⟩ := hq
      have hH : TH E (tbC (dayD (.inl (0, 18))) (dayD (.inl (0, 18))) (riverD (.inl Fa1) (.inl Fb1) (.inl (0, 4)) 31 33 35 39 43 47) (riverD (.inl Fa2) (.inl Fb2) (.inl (0, 4)) 32 34 36 40 44 48) rc rd tp A14F A14F A4F A4F A14F A14F (riverD (.inl Fa3) (.inl Fb3) (.inl (0, 4)) 3 8 3 41 45 49) (riverD (.inl Fa4) (.inl Fb4) (.inl (0, 4)) 3 8 3 42 46 50) ((.inr (.inl (0, 12, Pd1)))) ((.inr (.inl (0, 12, Pd2)))) ((.inr (.inl (0, 12, Pd3)))) ((.inr (.inl (0, 12, Pd4)))) ((.inr (.inl (0, 12, Ps1)))) ((.inr (.inl (0, 12, Ps2)))) ((.inr (.inl (0, 12, Ps3)))) ((.inr (.inl (0, 12, Ps4)))) ((.inr (.inl (0, 48, Pi1)))) ((.inr (.inl (0, 48, Pi2)))) ((.inr (.inl (0, 48, Pi3)))) ((.inr (.inl (0, 48, Pi4))))) H := hH
      refine tIastB F hK hH hS (tyb hq_9 (all1 rfl)) (ixb (n := 18) hz_8 rfl rfl) f_18 dX0_takeByAge_48 (fun H locs hH hS => ?_)
      obtain ⟨x_19, ex_19, hx_19⟩ := iincB (c := 1) (lo := 1) (hi := 18) r_5 rfl
      refine lv_iinc (v := x_19) (lv' := [(2, .int x_19), (3, .int z_8), (0, .ref a0), (1, .int a1)]) F.1 F.2.1 dX0_takeByAge_49 hl (k := 3) rfl ex_19 (by decide) rfl (fun ls hl => ?_)
      refine lv_goto (tgt := 2) F.1 F.2.1 dX0_takeByAge_52 (by decide) ?_
      exact ih_2 (x_19) _ _ _ ⟨(show (18 - x_19.toInt + 1).toNat < n_2 from by omega), (wkb hx_19.2 rfl rfl), hH, hS, lv_sub hl [2, 3, 0] rfl⟩
    · skip
      have r_11 : 0 ≤ a1.toInt ∧ a1.toInt ≤ 17 := by have h9_ := (i32b a1); omega
      refine lv_iconst (v := 0) F.1 F.2.1 dX0_takeByAge_27 (by decide) ?_
      refine topK (a := 0) (by decide) (fun k_20 hk_20 => ?_)
      refine lv_goto (tgt := 48) F.1 F.2.1 dX0_takeByAge_28 (by decide) ?_
      refine tIastB F hK hH hS (tyb hq_9 (all1 rfl)) (ixb (n := 18) hz_8 rfl rfl) (wkb (eqb hk_20) rfl rfl) dX0_takeByAge_48 (fun H locs hH hS => ?_)
      obtain ⟨x_21, ex_21, hx_21⟩ := iincB (c := 1) (lo := 1) (hi := 18) r_5 rfl
      refine lv_iinc (v := x_21) (lv' := [(2, .int x_21), (3, .int z_8), (0, .ref a0), (1, .int a1)]) F.1 F.2.1 dX0_takeByAge_49 hl (k := 3) rfl ex_21 (by decide) rfl (fun ls hl => ?_)
      refine lv_goto (tgt := 2) F.1 F.2.1 dX0_takeByAge_52 (by decide) ?_
      exact ih_2 (x_21) _ _ _ ⟨(show (18 - x_21.toInt + 1).toNat < n_2 from by omega), (wkb hx_21.2 rfl rfl), hH, hS, lv_sub hl [2, 3, 0] rfl⟩
set_option maxHeartbeats 4000000 in
set_option maxRecDepth 100000 in
theorem c_X0_mostAlone (E : Ev) (rc : TD) (rd : TD) (tp : TD) (Fa1 : Int × Int) (Fb1 : Int × Int) (Fa2 : Int × Int) (Fb2 : Int × Int) (Fa3 : Int × Int) (Fb3 : Int × Int) (Fa4 : Int × Int) (Fb4 : Int × Int) (Pd1 : (Nat → Int32) → Prop) (Pd2 : (Nat → Int32) → Prop) (Pd3 : (Nat → Int32) → Prop) (Pd4 : (Nat → Int32) → Prop) (Ps1 : (Nat → Int32) → Prop) (Ps2 : (Nat → Int32) → Prop) (Ps3 : (Nat → Int32) → Prop) (Ps4 : (Nat → Int32) → Prop) (Pi1 : (Nat → Int32) → Prop) (Pi2 : (Nat → Int32) → Prop) (Pi3 : (Nat → Int32) → Prop) (Pi4 : (Nat → Int32) → Prop) (a0 : Nat) (a1 : Int32) (ha0 : eT E a0 ∈ [24, 25]) (ha1 : 0 ≤ a1.toInt ∧ a1.toInt ≤ 13) (hFa1 : 0 ≤ Fa1.1 ∧ Fa1.2 ≤ 12) (hFb1 : 0 ≤ Fb1.1 ∧ Fb1.2 ≤ 14) (hFa2 : 0 ≤ Fa2.1 ∧ Fa2.2 ≤ 12) (hFb2 : 0 ≤ Fb2.1 ∧ Fb2.2 ≤ 14) (hFa3 : 0 ≤ Fa3.1 ∧ Fa3.2 ≤ 12) (hFb3 : 0 ≤ Fb3.1 ∧ Fb3.2 ≤ 14) (hFa4 : 0 ≤ Fa4.1 ∧ Fa4.2 ≤ 12) (hFb4 : 0 ≤ Fb4.1 ∧ Fb4.2 ≤ 14) (hPd1 : ∀ f, Pd1 f → ivP 12 (-2) 11 f) (hPd2 : ∀ f, Pd2 f → ivP 12 (-2) 11 f) (hPd3 : ∀ f, Pd3 f → ivP 12 (-2) 11 f) (hPd4 : ∀ f, Pd4 f → ivP 12 (-2) 11 f) (hPs1 : ∀ f, Ps1 f → ivP 12 (-2147483648) 2147483647 f) (hPs2 : ∀ f, Ps2 f → ivP 12 (-2147483648) 2147483647 f) (hPs3 : ∀ f, Ps3 f → ivP 12 (-2147483648) 2147483647 f) (hPs4 : ∀ f, Ps4 f → ivP 12 (-2147483648) 2147483647 f) (hPi1 : ∀ f, Pi1 f → ivP 48 (-2147483648) 2147483647 f) (hPi2 : ∀ f, Pi2 f → ivP 48 (-2147483648) 2147483647 f) (hPi3 : ∀ f, Pi3 f → ivP 48 (-2147483648) 2147483647 f) (hPi4 : ∀ f, Pi4 f → ivP 48 (-2147483648) 2147483647 f) : TcI E yX0_mostAlone cX0_mostAlone 2 .int ({ frames := 4, cells := 0, slots := 0, locals := 104 }) [.ref a0, .int a1] (fun H => TH E (tbC (dayD (.inl (0, 18))) (dayD (.inl (0, 18))) (riverD (.inl Fa1) (.inl Fb1) (.inl (0, 4)) 31 33 35 39 43 47) (riverD (.inl Fa2) (.inl Fb2) (.inl (0, 4)) 32 34 36 40 44 48) rc rd tp A14F A14F A4F A4F A14F A14F (riverD (.inl Fa3) (.inl Fb3) (.inl (0, 4)) 3 8 3 41 45 49) (riverD (.inl Fa4) (.inl Fb4) (.inl (0, 4)) 3 8 3 42 46 50) ((.inr (.inl (0, 12, Pd1)))) ((.inr (.inl (0, 12, Pd2)))) ((.inr (.inl (0, 12, Pd3)))) ((.inr (.inl (0, 12, Pd4)))) ((.inr (.inl (0, 12, Ps1)))) ((.inr (.inl (0, 12, Ps2)))) ((.inr (.inl (0, 12, Ps3)))) ((.inr (.inl (0, 12, Ps4)))) ((.inr (.inl (0, 48, Pi1)))) ((.inr (.inl (0, 48, Pi2)))) ((.inr (.inl (0, 48, Pi3)))) ((.inr (.inl (0, 48, Pi4))))) H) (fun v H => ((-2147483648) ≤ v.toInt ∧ v.toInt ≤ 2147483647) ∧ TH E (tbC (dayD (.inl (0, 18))) (dayD (.inl (0, 18))) (riverD (.inl Fa1) (.inl Fb1) (.inl (0, 4)) 31 33 35 39 43 47) (riverD (.inl Fa2) (.inl Fb2) (.inl (0, 4)) 32 34 36 40 44 48) rc rd tp A14F A14F A4F A4F A14F A14F (riverD (.inl Fa3) (.inl Fb3) (.inl (0, 4)) 3 8 3 41 45 49) (riverD (.inl Fa4) (.inl Fb4) (.inl (0, 4)) 3 8 3 42 46 50) ((.inr (.inl (0, 12, Pd1)))) ((.inr (.inl (0, 12, Pd2)))) ((.inr (.inl (0, 12, Pd3)))) ((.inr (.inl (0, 12, Pd4)))) ((.inr (.inl (0, 12, Ps1)))) ((.inr (.inl (0, 12, Ps2)))) ((.inr (.inl (0, 12, Ps3)))) ((.inr (.inl (0, 12, Ps4)))) ((.inr (.inl (0, 48, Pi1)))) ((.inr (.inl (0, 48, Pi2)))) ((.inr (.inl (0, 48, Pi3)))) ((.inr (.inl (0, 48, Pi4))))) H) := by
  refine teI (by decide) (Nat.le_of_ble_eq_true rfl) ?_
  intro p_ ev_ s mi_ below_ meth cd_ ls F hK hN hO hH hS hl
  have hH : TH E (tbC (dayD (.inl (0, 18))) (dayD (.inl (0, 18))) (riverD (.inl Fa1) (.inl Fb1) (.inl (0, 4)) 31 33 35 39 43 47) (riverD (.inl Fa2) (.inl Fb2) (.inl (0, 4)) 32 34 36 40 44 48) rc rd tp A14F A14F A4F A4F A14F A14F (riverD (.inl Fa3) (.inl Fb3) (.inl (0, 4)) 3 8 3 41 45 49) (riverD (.inl Fa4) (.inl Fb4) (.inl (0, 4)) 3 8 3 42 46 50) ((.inr (.inl (0, 12, Pd1)))) ((.inr (.inl (0, 12, Pd2)))) ((.inr (.inl (0, 12, Pd3)))) ((.inr (.inl (0, 12, Pd4)))) ((.inr (.inl (0, 12, Ps1)))) ((.inr (.inl (0, 12, Ps2)))) ((.inr (.inl (0, 12, Ps3)))) ((.inr (.inl (0, 12, Ps4)))) ((.inr (.inl (0, 48, Pi1)))) ((.inr (.inl (0, 48, Pi2)))) ((.inr (.inl (0, 48, Pi3)))) ((.inr (.inl (0, 48, Pi4))))) s.heap := hH
  have hl : lv_has ls 2 [(0, .ref a0), (1, .int a1)] := hl
  refine lv_aload_n F.1 F.2.1 dX0_mostAlone_0 rfl (lv_at hl 0 rfl) ?_
  refine tVv (b := a0) (As := []) (rest := []) F hK hN hO (c_X0_bringWater E rc rd tp Fa1 Fb1 Fa2 Fb2 Fa3 Fb3 Fa4 Fb4 Pd1 Pd2 Pd3 Pd4 Ps1 Ps2 Ps3 Ps4 Pi1 Pi2 Pi3 Pi4 a0 ha0 hFa1 hFb1 hFa2 hFb2 hFa3 hFb3 hFa4 hFb4 hPd1 hPd2 hPd3 hPd4 hPs1 hPs2 hPs3 hPs4 hPi1 hPi2 hPi3 hPi4) mv_X0_bringWater wd_20_22 ⟨Nat.le_of_ble_eq_true rfl, Nat.le_of_ble_eq_true rfl⟩ ⟨Nat.le_of_ble_eq_true rfl, Nat.le_of_ble_eq_true rfl⟩ hH hS (tRecv hK hH (tyb ha0 (all2 rfl rfl)) clX0) rfl hl.1 (Nat.le_of_ble_eq_true rfl) dX0_mostAlone_1 (fun H locs hq hS => ?_)
  have hH := hq
  have hH : TH E (tbC (dayD (.inl (0, 18))) (dayD (.inl (0, 18))) (riverD (.inl Fa1) (.inl Fb1) (.inl (0, 4)) 31 33 35 39 43 47) (riverD (.inl Fa2) (.inl Fb2) (.inl (0, 4)) 32 34 36 40 44 48) rc rd tp A14F A14F A4F A4F A14F A14F (riverD (.inl Fa3) (.inl Fb3) (.inl (0, 4)) 3 8 3 41 45 49) (riverD (.inl Fa4) (.inl Fb4) (.inl (0, 4)) 3 8 3 42 46 50) ((.inr (.inl (0, 12, Pd1)))) ((.inr (.inl (0, 12, Pd2)))) ((.inr (.inl (0, 12, Pd3)))) ((.inr (.inl (0, 12, Pd4)))) ((.inr (.inl (0, 12, Ps1)))) ((.inr (.inl (0, 12, Ps2)))) ((.inr (.inl (0, 12, Ps3)))) ((.inr (.inl (0, 12, Ps4)))) ((.inr (.inl (0, 48, Pi1)))) ((.inr (.inl (0, 48, Pi2)))) ((.inr (.inl (0, 48, Pi3)))) ((.inr (.inl (0, 48, Pi4))))) H := hH
  refine lv_aload_n F.1 F.2.1 dX0_mostAlone_4 rfl (lv_at hl 0 rfl) ?_
  refine lv_aload_n F.1 F.2.1 dX0_mostAlone_5 rfl (lv_at hl 0 rfl) ?_
  refine tGetR (j := 4) F hK hH (tyb ha0 (all2 rfl rfl)) rfl (all1 rfl) clX0 (by decide) wd_4_13 dX0_mostAlone_6 (fun q_2 hq_2 _ => ?_)
  refine lv_iload_n F.1 F.2.1 dX0_mostAlone_9 rfl (lv_at hl 1 rfl) ?_
  refine tIaldB F hK hH (tyb hq_2 (all1 rfl)) (ixb (n := 18) ha1 rfl rfl) dX0_mostAlone_10 (fun z_3 hz_3 => ?_)
  refine lv_aload_n F.1 F.2.1 dX0_mostAlone_11 rfl (lv_at hl 0 rfl) ?_
  refine tGetR (j := 7) F hK hH (tyb ha0 (all2 rfl rfl)) rfl (all1 rfl) clX0 (by decide) wd_4_16 dX0_mostAlone_12 (fun q_4 hq_4 _ => ?_)
  refine lv_iload_n F.1 F.2.1 dX0_mostAlone_15 rfl (lv_at hl 1 rfl) ?_
  refine tIaldB F hK hH (tyb hq_4 (all1 rfl)) (ixb (n := 18) ha1 rfl rfl) dX0_mostAlone_16 (fun z_5 hz_5 => ?_)
  refine lv_iconst (v := (-1)) F.1 F.2.1 dX0_mostAlone_17 (by decide) ?_
  refine topK (a := (-1)) (by decide) (fun k_6 hk_6 => ?_)
  refine tVi (b := a0) (As := [.int z_3, .int z_5, .int k_6]) (rest := []) F hK hN hO (c_X0_takeMost E rc rd tp Fa1 Fb1 Fa2 Fb2 Fa3 Fb3 Fa4 Fb4 Pd1 Pd2 Pd3 Pd4 Ps1 Ps2 Ps3 Ps4 Pi1 Pi2 Pi3 Pi4 a0 z_3 z_5 k_6 ha0 hz_3 hFa1 hFb1 hFa2 hFb2 hFa3 hFb3 hFa4 hFb4 hPd1 hPd2 hPd3 hPd4 hPs1 hPs2 hPs3 hPs4 hPi1 hPi2 hPi3 hPi4) mv_X0_takeMost wd_22_18 ⟨Nat.le_of_ble_eq_true rfl, Nat.le_of_ble_eq_true rfl⟩ ⟨Nat.le_of_ble_eq_true rfl, Nat.le_of_ble_eq_true rfl⟩ hH hS (tRecv hK hH (tyb ha0 (all2 rfl rfl)) clX0) rfl hl.1 (Nat.le_of_ble_eq_true rfl) dX0_mostAlone_18 (fun z_7 H locs hq hS => ?_)
  obtain ⟨f_8, hH⟩ := hq
  have hH : TH E (tbC (dayD (.inl (0, 18))) (dayD (.inl (0, 18))) (riverD (.inl Fa1) (.inl Fb1) (.inl (0, 4)) 31 33 35 39 43 47) (riverD (.inl Fa2) (.inl Fb2) (.inl (0, 4)) 32 34 36 40 44 48) rc rd tp A14F A14F A4F A4F A14F A14F (riverD (.inl Fa3) (.inl Fb3) (.inl (0, 4)) 3 8 3 41 45 49) (riverD (.inl Fa4) (.inl Fb4) (.inl (0, 4)) 3 8 3 42 46 50) ((.inr (.inl (0, 12, Pd1)))) ((.inr (.inl (0, 12, Pd2)))) ((.inr (.inl (0, 12, Pd3)))) ((.inr (.inl (0, 12, Pd4)))) ((.inr (.inl (0, 12, Ps1)))) ((.inr (.inl (0, 12, Ps2)))) ((.inr (.inl (0, 12, Ps3)))) ((.inr (.inl (0, 12, Ps4)))) ((.inr (.inl (0, 48, Pi1)))) ((.inr (.inl (0, 48, Pi2)))) ((.inr (.inl (0, 48, Pi3)))) ((.inr (.inl (0, 48, Pi4))))) H := hH
  exact txI F hS dX0_mostAlone_21 rfl (⟨f_8, hH⟩)
set_option maxHeartbeats 4000000 in
set_option maxRecDepth 100000 in
theorem c_X0_takenBy (E : Ev) (rc : TD) (rd : TD) (tp : TD) (Fa1 : Int × Int) (Fb1 : Int × Int) (Fa2 : Int × Int) (Fb2 : Int × Int) (Fa3 : Int × Int) (Fb3 : Int × Int) (Fa4 : Int × Int) (Fb4 : Int × Int) (Pd1 : (Nat → Int32) → Prop) (Pd2 : (Nat → Int32) → Prop) (Pd3 : (Nat → Int32) → Prop) (Pd4 : (Nat → Int32) → Prop) (Ps1 : (Nat → Int32) → Prop) (Ps2 : (Nat → Int32) → Prop) (Ps3 : (Nat → Int32) → Prop) (Ps4 : (Nat → Int32) → Prop) (Pi1 : (Nat → Int32) → Prop) (Pi2 : (Nat → Int32) → Prop) (Pi3 : (Nat → Int32) → Prop) (Pi4 : (Nat → Int32) → Prop) (a0 : Nat) (a1 : Int32) (ha0 : eT E a0 ∈ [24, 25]) (ha1 : 0 ≤ a1.toInt ∧ a1.toInt ≤ 13) (hFa1 : 0 ≤ Fa1.1 ∧ Fa1.2 ≤ 12) (hFb1 : 0 ≤ Fb1.1 ∧ Fb1.2 ≤ 14) (hFa2 : 0 ≤ Fa2.1 ∧ Fa2.2 ≤ 12) (hFb2 : 0 ≤ Fb2.1 ∧ Fb2.2 ≤ 14) (hFa3 : 0 ≤ Fa3.1 ∧ Fa3.2 ≤ 12) (hFb3 : 0 ≤ Fb3.1 ∧ Fb3.2 ≤ 14) (hFa4 : 0 ≤ Fa4.1 ∧ Fa4.2 ≤ 12) (hFb4 : 0 ≤ Fb4.1 ∧ Fb4.2 ≤ 14) (hPd1 : ∀ f, Pd1 f → ivP 12 (-2) 11 f) (hPd2 : ∀ f, Pd2 f → ivP 12 (-2) 11 f) (hPd3 : ∀ f, Pd3 f → ivP 12 (-2) 11 f) (hPd4 : ∀ f, Pd4 f → ivP 12 (-2) 11 f) (hPs1 : ∀ f, Ps1 f → ivP 12 (-2147483648) 2147483647 f) (hPs2 : ∀ f, Ps2 f → ivP 12 (-2147483648) 2147483647 f) (hPs3 : ∀ f, Ps3 f → ivP 12 (-2147483648) 2147483647 f) (hPs4 : ∀ f, Ps4 f → ivP 12 (-2147483648) 2147483647 f) (hPi1 : ∀ f, Pi1 f → ivP 48 (-2147483648) 2147483647 f) (hPi2 : ∀ f, Pi2 f → ivP 48 (-2147483648) 2147483647 f) (hPi3 : ∀ f, Pi3 f → ivP 48 (-2147483648) 2147483647 f) (hPi4 : ∀ f, Pi4 f → ivP 48 (-2147483648) 2147483647 f) : TcI E yX0_takenBy cX0_takenBy 2 .int ({ frames := 1, cells := 0, slots := 0, locals := 40 }) [.ref a0, .int a1] (fun H => TH E (tbC (dayD (.inl (0, 18))) (dayD (.inl (0, 18))) (riverD (.inl Fa1) (.inl Fb1) (.inl (0, 4)) 31 33 35 39 43 47) (riverD (.inl Fa2) (.inl Fb2) (.inl (0, 4)) 32 34 36 40 44 48) rc rd tp A14F A14F A4F A4F A14F A14F (riverD (.inl Fa3) (.inl Fb3) (.inl (0, 4)) 3 8 3 41 45 49) (riverD (.inl Fa4) (.inl Fb4) (.inl (0, 4)) 3 8 3 42 46 50) ((.inr (.inl (0, 12, Pd1)))) ((.inr (.inl (0, 12, Pd2)))) ((.inr (.inl (0, 12, Pd3)))) ((.inr (.inl (0, 12, Pd4)))) ((.inr (.inl (0, 12, Ps1)))) ((.inr (.inl (0, 12, Ps2)))) ((.inr (.inl (0, 12, Ps3)))) ((.inr (.inl (0, 12, Ps4)))) ((.inr (.inl (0, 48, Pi1)))) ((.inr (.inl (0, 48, Pi2)))) ((.inr (.inl (0, 48, Pi3)))) ((.inr (.inl (0, 48, Pi4))))) H) (fun v H => ((-2147483648) ≤ v.toInt ∧ v.toInt ≤ 2147483647) ∧ TH E (tbC (dayD (.inl (0, 18))) (dayD (.inl (0, 18))) (riverD (.inl Fa1) (.inl Fb1) (.inl (0, 4)) 31 33 35 39 43 47) (riverD (.inl Fa2) (.inl Fb2) (.inl (0, 4)) 32 34 36 40 44 48) rc rd tp A14F A14F A4F A4F A14F A14F (riverD (.inl Fa3) (.inl Fb3) (.inl (0, 4)) 3 8 3 41 45 49) (riverD (.inl Fa4) (.inl Fb4) (.inl (0, 4)) 3 8 3 42 46 50) ((.inr (.inl (0, 12, Pd1)))) ((.inr (.inl (0, 12, Pd2)))) ((.inr (.inl (0, 12, Pd3)))) ((.inr (.inl (0, 12, Pd4)))) ((.inr (.inl (0, 12, Ps1)))) ((.inr (.inl (0, 12, Ps2)))) ((.inr (.inl (0, 12, Ps3)))) ((.inr (.inl (0, 12, Ps4)))) ((.inr (.inl (0, 48, Pi1)))) ((.inr (.inl (0, 48, Pi2)))) ((.inr (.inl (0, 48, Pi3)))) ((.inr (.inl (0, 48, Pi4))))) H) := by
  refine teI (by decide) (Nat.le_of_ble_eq_true rfl) ?_
  intro p_ ev_ s mi_ below_ meth cd_ ls F hK hN hO hH hS hl
  have hH : TH E (tbC (dayD (.inl (0, 18))) (dayD (.inl (0, 18))) (riverD (.inl Fa1) (.inl Fb1) (.inl (0, 4)) 31 33 35 39 43 47) (riverD (.inl Fa2) (.inl Fb2) (.inl (0, 4)) 32 34 36 40 44 48) rc rd tp A14F A14F A4F A4F A14F A14F (riverD (.inl Fa3) (.inl Fb3) (.inl (0, 4)) 3 8 3 41 45 49) (riverD (.inl Fa4) (.inl Fb4) (.inl (0, 4)) 3 8 3 42 46 50) ((.inr (.inl (0, 12, Pd1)))) ((.inr (.inl (0, 12, Pd2)))) ((.inr (.inl (0, 12, Pd3)))) ((.inr (.inl (0, 12, Pd4)))) ((.inr (.inl (0, 12, Ps1)))) ((.inr (.inl (0, 12, Ps2)))) ((.inr (.inl (0, 12, Ps3)))) ((.inr (.inl (0, 12, Ps4)))) ((.inr (.inl (0, 48, Pi1)))) ((.inr (.inl (0, 48, Pi2)))) ((.inr (.inl (0, 48, Pi3)))) ((.inr (.inl (0, 48, Pi4))))) s.heap := hH
  have hl : lv_has ls 2 [(0, .ref a0), (1, .int a1)] := hl
  refine lv_aload_n F.1 F.2.1 dX0_takenBy_0 rfl (lv_at hl 0 rfl) ?_
  refine tGetR (j := 8) F hK hH (tyb ha0 (all2 rfl rfl)) rfl (all1 rfl) clX0 (by decide) wd_4_17 dX0_takenBy_1 (fun q_1 hq_1 _ => ?_)
  refine lv_iload_n F.1 F.2.1 dX0_takenBy_4 rfl (lv_at hl 1 rfl) ?_
  refine tIaldB F hK hH (tyb hq_1 (all1 rfl)) (ixb (n := 18) ha1 rfl rfl) dX0_takenBy_5 (fun z_2 hz_2 => ?_)
  refine lv_aload_n F.1 F.2.1 dX0_takenBy_6 rfl (lv_at hl 0 rfl) ?_
  refine tGetR (j := 9) F hK hH (tyb ha0 (all2 rfl rfl)) rfl (all1 rfl) clX0 (by decide) wd_4_18 dX0_takenBy_7 (fun q_3 hq_3 _ => ?_)
  refine lv_iload_n F.1 F.2.1 dX0_takenBy_10 rfl (lv_at hl 1 rfl) ?_
  refine tIaldB F hK hH (tyb hq_3 (all1 rfl)) (ixb (n := 14) ha1 rfl rfl) dX0_takenBy_11 (fun z_4 hz_4 => ?_)
  refine lv_iadd F.1 F.2.1 dX0_takenBy_12 ?_
  refine topF (fun z_5 => ?_)
  refine lv_aload_n F.1 F.2.1 dX0_takenBy_13 rfl (lv_at hl 0 rfl) ?_
  refine tGetR (j := 10) F hK hH (tyb ha0 (all2 rfl rfl)) rfl (all1 rfl) clX0 (by decide) wd_4_19 dX0_takenBy_14 (fun q_6 hq_6 _ => ?_)
  refine lv_iload_n F.1 F.2.1 dX0_takenBy_17 rfl (lv_at hl 1 rfl) ?_
  refine tIaldB F hK hH (tyb hq_6 (all1 rfl)) (ixb (n := 14) ha1 rfl rfl) dX0_takenBy_18 (fun z_7 hz_7 => ?_)
  refine lv_iadd F.1 F.2.1 dX0_takenBy_19 ?_
  refine topF (fun z_8 => ?_)
  exact txI F hS dX0_takenBy_20 rfl (⟨(i32b _), hH⟩)
set_option maxHeartbeats 4000000 in
set_option maxRecDepth 100000 in
theorem c_X0_missing (E : Ev) (rc : TD) (rd : TD) (tp : TD) (Fa1 : Int × Int) (Fb1 : Int × Int) (Fa2 : Int × Int) (Fb2 : Int × Int) (Fa3 : Int × Int) (Fb3 : Int × Int) (Fa4 : Int × Int) (Fb4 : Int × Int) (Pd1 : (Nat → Int32) → Prop) (Pd2 : (Nat → Int32) → Prop) (Pd3 : (Nat → Int32) → Prop) (Pd4 : (Nat → Int32) → Prop) (Ps1 : (Nat → Int32) → Prop) (Ps2 : (Nat → Int32) → Prop) (Ps3 : (Nat → Int32) → Prop) (Ps4 : (Nat → Int32) → Prop) (Pi1 : (Nat → Int32) → Prop) (Pi2 : (Nat → Int32) → Prop) (Pi3 : (Nat → Int32) → Prop) (Pi4 : (Nat → Int32) → Prop) (a0 : Nat) (a1 : Int32) (ha0 : eT E a0 ∈ [24, 25]) (ha1 : 0 ≤ a1.toInt ∧ a1.toInt ≤ 13) (hFa1 : 0 ≤ Fa1.1 ∧ Fa1.2 ≤ 12) (hFb1 : 0 ≤ Fb1.1 ∧ Fb1.2 ≤ 14) (hFa2 : 0 ≤ Fa2.1 ∧ Fa2.2 ≤ 12) (hFb2 : 0 ≤ Fb2.1 ∧ Fb2.2 ≤ 14) (hFa3 : 0 ≤ Fa3.1 ∧ Fa3.2 ≤ 12) (hFb3 : 0 ≤ Fb3.1 ∧ Fb3.2 ≤ 14) (hFa4 : 0 ≤ Fa4.1 ∧ Fa4.2 ≤ 12) (hFb4 : 0 ≤ Fb4.1 ∧ Fb4.2 ≤ 14) (hPd1 : ∀ f, Pd1 f → ivP 12 (-2) 11 f) (hPd2 : ∀ f, Pd2 f → ivP 12 (-2) 11 f) (hPd3 : ∀ f, Pd3 f → ivP 12 (-2) 11 f) (hPd4 : ∀ f, Pd4 f → ivP 12 (-2) 11 f) (hPs1 : ∀ f, Ps1 f → ivP 12 (-2147483648) 2147483647 f) (hPs2 : ∀ f, Ps2 f → ivP 12 (-2147483648) 2147483647 f) (hPs3 : ∀ f, Ps3 f → ivP 12 (-2147483648) 2147483647 f) (hPs4 : ∀ f, Ps4 f → ivP 12 (-2147483648) 2147483647 f) (hPi1 : ∀ f, Pi1 f → ivP 48 (-2147483648) 2147483647 f) (hPi2 : ∀ f, Pi2 f → ivP 48 (-2147483648) 2147483647 f) (hPi3 : ∀ f, Pi3 f → ivP 48 (-2147483648) 2147483647 f) (hPi4 : ∀ f, Pi4 f → ivP 48 (-2147483648) 2147483647 f) : TcI E yX0_missing cX0_missing 2 .int ({ frames := 2, cells := 0, slots := 0, locals := 61 }) [.ref a0, .int a1] (fun H => TH E (tbC (dayD (.inl (0, 18))) (dayD (.inl (0, 18))) (riverD (.inl Fa1) (.inl Fb1) (.inl (0, 4)) 31 33 35 39 43 47) (riverD (.inl Fa2) (.inl Fb2) (.inl (0, 4)) 32 34 36 40 44 48) rc rd tp A14F A14F A4F A4F A14F A14F (riverD (.inl Fa3) (.inl Fb3) (.inl (0, 4)) 3 8 3 41 45 49) (riverD (.inl Fa4) (.inl Fb4) (.inl (0, 4)) 3 8 3 42 46 50) ((.inr (.inl (0, 12, Pd1)))) ((.inr (.inl (0, 12, Pd2)))) ((.inr (.inl (0, 12, Pd3)))) ((.inr (.inl (0, 12, Pd4)))) ((.inr (.inl (0, 12, Ps1)))) ((.inr (.inl (0, 12, Ps2)))) ((.inr (.inl (0, 12, Ps3)))) ((.inr (.inl (0, 12, Ps4)))) ((.inr (.inl (0, 48, Pi1)))) ((.inr (.inl (0, 48, Pi2)))) ((.inr (.inl (0, 48, Pi3)))) ((.inr (.inl (0, 48, Pi4))))) H) (fun v H => ((-2147483648) ≤ v.toInt ∧ v.toInt ≤ 2147483647) ∧ TH E (tbC (dayD (.inl (0, 18))) (dayD (.inl (0, 18))) (riverD (.inl Fa1) (.inl Fb1) (.inl (0, 4)) 31 33 35 39 43 47) (riverD (.inl Fa2) (.inl Fb2) (.inl (0, 4)) 32 34 36 40 44 48) rc rd tp A14F A14F A4F A4F A14F A14F (riverD (.inl Fa3) (.inl Fb3) (.inl (0, 4)) 3 8 3 41 45 49) (riverD (.inl Fa4) (.inl Fb4) (.inl (0, 4)) 3 8 3 42 46 50) ((.inr (.inl (0, 12, Pd1)))) ((.inr (.inl (0, 12, Pd2)))) ((.inr (.inl (0, 12, Pd3)))) ((.inr (.inl (0, 12, Pd4)))) ((.inr (.inl (0, 12, Ps1)))) ((.inr (.inl (0, 12, Ps2)))) ((.inr (.inl (0, 12, Ps3)))) ((.inr (.inl (0, 12, Ps4)))) ((.inr (.inl (0, 48, Pi1)))) ((.inr (.inl (0, 48, Pi2)))) ((.inr (.inl (0, 48, Pi3)))) ((.inr (.inl (0, 48, Pi4))))) H) := by
  refine teI (by decide) (Nat.le_of_ble_eq_true rfl) ?_
  intro p_ ev_ s mi_ below_ meth cd_ ls F hK hN hO hH hS hl
  have hH : TH E (tbC (dayD (.inl (0, 18))) (dayD (.inl (0, 18))) (riverD (.inl Fa1) (.inl Fb1) (.inl (0, 4)) 31 33 35 39 43 47) (riverD (.inl Fa2) (.inl Fb2) (.inl (0, 4)) 32 34 36 40 44 48) rc rd tp A14F A14F A4F A4F A14F A14F (riverD (.inl Fa3) (.inl Fb3) (.inl (0, 4)) 3 8 3 41 45 49) (riverD (.inl Fa4) (.inl Fb4) (.inl (0, 4)) 3 8 3 42 46 50) ((.inr (.inl (0, 12, Pd1)))) ((.inr (.inl (0, 12, Pd2)))) ((.inr (.inl (0, 12, Pd3)))) ((.inr (.inl (0, 12, Pd4)))) ((.inr (.inl (0, 12, Ps1)))) ((.inr (.inl (0, 12, Ps2)))) ((.inr (.inl (0, 12, Ps3)))) ((.inr (.inl (0, 12, Ps4)))) ((.inr (.inl (0, 48, Pi1)))) ((.inr (.inl (0, 48, Pi2)))) ((.inr (.inl (0, 48, Pi3)))) ((.inr (.inl (0, 48, Pi4))))) s.heap := hH
  have hl : lv_has ls 2 [(0, .ref a0), (1, .int a1)] := hl
  refine lv_aload_n F.1 F.2.1 dX0_missing_0 rfl (lv_at hl 0 rfl) ?_
  refine tGetR (j := 7) F hK hH (tyb ha0 (all2 rfl rfl)) rfl (all1 rfl) clX0 (by decide) wd_4_16 dX0_missing_1 (fun q_1 hq_1 _ => ?_)
  refine lv_iload_n F.1 F.2.1 dX0_missing_4 rfl (lv_at hl 1 rfl) ?_
  refine tIaldB F hK hH (tyb hq_1 (all1 rfl)) (ixb (n := 18) ha1 rfl rfl) dX0_missing_5 (fun z_2 hz_2 => ?_)
  refine lv_aload_n F.1 F.2.1 dX0_missing_6 rfl (lv_at hl 0 rfl) ?_
  refine lv_iload_n F.1 F.2.1 dX0_missing_7 rfl (lv_at hl 1 rfl) ?_
  refine tVi (b := a0) (As := [.int a1]) (rest := [.int z_2]) F hK hN hO (c_X0_takenBy E rc rd tp Fa1 Fb1 Fa2 Fb2 Fa3 Fb3 Fa4 Fb4 Pd1 Pd2 Pd3 Pd4 Ps1 Ps2 Ps3 Ps4 Pi1 Pi2 Pi3 Pi4 a0 a1 ha0 ha1 hFa1 hFb1 hFa2 hFb2 hFa3 hFb3 hFa4 hFb4 hPd1 hPd2 hPd3 hPd4 hPs1 hPs2 hPs3 hPs4 hPi1 hPi2 hPi3 hPi4) mv_X0_takenBy wd_23_16 ⟨Nat.le_of_ble_eq_true rfl, Nat.le_of_ble_eq_true rfl⟩ ⟨Nat.le_of_ble_eq_true rfl, Nat.le_of_ble_eq_true rfl⟩ hH hS (tRecv hK hH (tyb ha0 (all2 rfl rfl)) clX0) rfl hl.1 (Nat.le_of_ble_eq_true rfl) dX0_missing_8 (fun z_3 H locs hq hS => ?_)
  obtain ⟨f_4, hH⟩ := hq
  have hH : TH E (tbC (dayD (.inl (0, 18))) (dayD (.inl (0, 18))) (riverD (.inl Fa1) (.inl Fb1) (.inl (0, 4)) 31 33 35 39 43 47) (riverD (.inl Fa2) (.inl Fb2) (.inl (0, 4)) 32 34 36 40 44 48) rc rd tp A14F A14F A4F A4F A14F A14F (riverD (.inl Fa3) (.inl Fb3) (.inl (0, 4)) 3 8 3 41 45 49) (riverD (.inl Fa4) (.inl Fb4) (.inl (0, 4)) 3 8 3 42 46 50) ((.inr (.inl (0, 12, Pd1)))) ((.inr (.inl (0, 12, Pd2)))) ((.inr (.inl (0, 12, Pd3)))) ((.inr (.inl (0, 12, Pd4)))) ((.inr (.inl (0, 12, Ps1)))) ((.inr (.inl (0, 12, Ps2)))) ((.inr (.inl (0, 12, Ps3)))) ((.inr (.inl (0, 12, Ps4)))) ((.inr (.inl (0, 48, Pi1)))) ((.inr (.inl (0, 48, Pi2)))) ((.inr (.inl (0, 48, Pi3)))) ((.inr (.inl (0, 48, Pi4))))) H := hH
  refine lv_isub F.1 F.2.1 dX0_missing_11 ?_
  refine topF (fun z_5 => ?_)
  exact txI F hS dX0_missing_12 rfl (⟨(i32b _), hH⟩)
set_option maxHeartbeats 4000000 in
set_option maxRecDepth 100000 in
theorem c_X0_takeByOrders (E : Ev) (rc : TD) (rd : TD) (tp : TD) (Fa1 : Int × Int) (Fb1 : Int × Int) (Fa2 : Int × Int) (Fb2 : Int × Int) (Fa3 : Int × Int) (Fb3 : Int × Int) (Fa4 : Int × Int) (Fb4 : Int × Int) (Pd1 : (Nat → Int32) → Prop) (Pd2 : (Nat → Int32) → Prop) (Pd3 : (Nat → Int32) → Prop) (Pd4 : (Nat → Int32) → Prop) (Ps1 : (Nat → Int32) → Prop) (Ps2 : (Nat → Int32) → Prop) (Ps3 : (Nat → Int32) → Prop) (Ps4 : (Nat → Int32) → Prop) (Pi1 : (Nat → Int32) → Prop) (Pi2 : (Nat → Int32) → Prop) (Pi3 : (Nat → Int32) → Prop) (Pi4 : (Nat → Int32) → Prop) (a0 : Nat) (ha0 : eT E a0 ∈ [24, 25]) (hFa1 : 0 ≤ Fa1.1 ∧ Fa1.2 ≤ 12) (hFb1 : 0 ≤ Fb1.1 ∧ Fb1.2 ≤ 14) (hFa2 : 0 ≤ Fa2.1 ∧ Fa2.2 ≤ 12) (hFb2 : 0 ≤ Fb2.1 ∧ Fb2.2 ≤ 14) (hFa3 : 0 ≤ Fa3.1 ∧ Fa3.2 ≤ 12) (hFb3 : 0 ≤ Fb3.1 ∧ Fb3.2 ≤ 14) (hFa4 : 0 ≤ Fa4.1 ∧ Fa4.2 ≤ 12) (hFb4 : 0 ≤ Fb4.1 ∧ Fb4.2 ≤ 14) (hPd1 : ∀ f, Pd1 f → ivP 12 (-2) 11 f) (hPd2 : ∀ f, Pd2 f → ivP 12 (-2) 11 f) (hPd3 : ∀ f, Pd3 f → ivP 12 (-2) 11 f) (hPd4 : ∀ f, Pd4 f → ivP 12 (-2) 11 f) (hPs1 : ∀ f, Ps1 f → ivP 12 (-2147483648) 2147483647 f) (hPs2 : ∀ f, Ps2 f → ivP 12 (-2147483648) 2147483647 f) (hPs3 : ∀ f, Ps3 f → ivP 12 (-2147483648) 2147483647 f) (hPs4 : ∀ f, Ps4 f → ivP 12 (-2147483648) 2147483647 f) (hPi1 : ∀ f, Pi1 f → ivP 48 (-2147483648) 2147483647 f) (hPi2 : ∀ f, Pi2 f → ivP 48 (-2147483648) 2147483647 f) (hPi3 : ∀ f, Pi3 f → ivP 48 (-2147483648) 2147483647 f) (hPi4 : ∀ f, Pi4 f → ivP 48 (-2147483648) 2147483647 f) : TcV E yX0_takeByOrders cX0_takeByOrders 4 ({ frames := 3, cells := 0, slots := 0, locals := 94 }) [.ref a0] (fun H => TH E (tbC (dayD (.inl (0, 18))) (dayD (.inl (0, 18))) (riverD (.inl Fa1) (.inl Fb1) (.inl (0, 4)) 31 33 35 39 43 47) (riverD (.inl Fa2) (.inl Fb2) (.inl (0, 4)) 32 34 36 40 44 48) rc rd tp A14F A14F A4F A4F A14F A14F (riverD (.inl Fa3) (.inl Fb3) (.inl (0, 4)) 3 8 3 41 45 49) (riverD (.inl Fa4) (.inl Fb4) (.inl (0, 4)) 3 8 3 42 46 50) ((.inr (.inl (0, 12, Pd1)))) ((.inr (.inl (0, 12, Pd2)))) ((.inr (.inl (0, 12, Pd3)))) ((.inr (.inl (0, 12, Pd4)))) ((.inr (.inl (0, 12, Ps1)))) ((.inr (.inl (0, 12, Ps2)))) ((.inr (.inl (0, 12, Ps3)))) ((.inr (.inl (0, 12, Ps4)))) ((.inr (.inl (0, 48, Pi1)))) ((.inr (.inl (0, 48, Pi2)))) ((.inr (.inl (0, 48, Pi3)))) ((.inr (.inl (0, 48, Pi4))))) H) (fun H => TH E (tbC (dayD (.inl (0, 18))) (dayD (.inl (0, 18))) (riverD (.inl Fa1) (.inl Fb1) (.inl (0, 4)) 31 33 35 39 43 47) (riverD (.inl Fa2) (.inl Fb2) (.inl (0, 4)) 32 34 36 40 44 48) rc rd tp A14F A14F A4F A4F A14F A14F (riverD (.inl Fa3) (.inl Fb3) (.inl (0, 4)) 3 8 3 41 45 49) (riverD (.inl Fa4) (.inl Fb4) (.inl (0, 4)) 3 8 3 42 46 50) ((.inr (.inl (0, 12, Pd1)))) ((.inr (.inl (0, 12, Pd2)))) ((.inr (.inl (0, 12, Pd3)))) ((.inr (.inl (0, 12, Pd4)))) ((.inr (.inl (0, 12, Ps1)))) ((.inr (.inl (0, 12, Ps2)))) ((.inr (.inl (0, 12, Ps3)))) ((.inr (.inl (0, 12, Ps4)))) ((.inr (.inl (0, 48, Pi1)))) ((.inr (.inl (0, 48, Pi2)))) ((.inr (.inl (0, 48, Pi3)))) ((.inr (.inl (0, 48, Pi4))))) H) := by
  refine teV (by decide) (Nat.le_of_ble_eq_true rfl) ?_
  intro p_ ev_ s mi_ below_ meth cd_ ls F hK hN hO hH hS hl
  have hH : TH E (tbC (dayD (.inl (0, 18))) (dayD (.inl (0, 18))) (riverD (.inl Fa1) (.inl Fb1) (.inl (0, 4)) 31 33 35 39 43 47) (riverD (.inl Fa2) (.inl Fb2) (.inl (0, 4)) 32 34 36 40 44 48) rc rd tp A14F A14F A4F A4F A14F A14F (riverD (.inl Fa3) (.inl Fb3) (.inl (0, 4)) 3 8 3 41 45 49) (riverD (.inl Fa4) (.inl Fb4) (.inl (0, 4)) 3 8 3 42 46 50) ((.inr (.inl (0, 12, Pd1)))) ((.inr (.inl (0, 12, Pd2)))) ((.inr (.inl (0, 12, Pd3)))) ((.inr (.inl (0, 12, Pd4)))) ((.inr (.inl (0, 12, Ps1)))) ((.inr (.inl (0, 12, Ps2)))) ((.inr (.inl (0, 12, Ps3)))) ((.inr (.inl (0, 12, Ps4)))) ((.inr (.inl (0, 48, Pi1)))) ((.inr (.inl (0, 48, Pi2)))) ((.inr (.inl (0, 48, Pi3)))) ((.inr (.inl (0, 48, Pi4))))) s.heap := hH
  have hl : lv_has ls 4 [(0, .ref a0)] := hl
  refine lv_iconst (v := 0) F.1 F.2.1 dX0_takeByOrders_0 (by decide) ?_
  refine topK (a := 0) (by decide) (fun k_1 hk_1 => ?_)
  refine lv_istore_n (lv' := [(1, .int k_1), (0, .ref a0)]) F.1 F.2.1 dX0_takeByOrders_1 rfl hl (by decide) rfl (fun ls hl => ?_)
  refine wloop (σ := Int32) (fun n9 x9 H locs ls => (14 - x9.toInt + 1).toNat < n9 ∧ (0 ≤ x9.toInt ∧ x9.toInt ≤ 14) ∧ TH E (tbC (dayD (.inl (0, 18))) (dayD (.inl (0, 18))) (riverD (.inl Fa1) (.inl Fb1) (.inl (0, 4)) 31 33 35 39 43 47) (riverD (.inl Fa2) (.inl Fb2) (.inl (0, 4)) 32 34 36 40 44 48) rc rd tp A14F A14F A4F A4F A14F A14F (riverD (.inl Fa3) (.inl Fb3) (.inl (0, 4)) 3 8 3 41 45 49) (riverD (.inl Fa4) (.inl Fb4) (.inl (0, 4)) 3 8 3 42 46 50) ((.inr (.inl (0, 12, Pd1)))) ((.inr (.inl (0, 12, Pd2)))) ((.inr (.inl (0, 12, Pd3)))) ((.inr (.inl (0, 12, Pd4)))) ((.inr (.inl (0, 12, Ps1)))) ((.inr (.inl (0, 12, Ps2)))) ((.inr (.inl (0, 12, Ps3)))) ((.inr (.inl (0, 12, Ps4)))) ((.inr (.inl (0, 48, Pi1)))) ((.inr (.inl (0, 48, Pi2)))) ((.inr (.inl (0, 48, Pi3)))) ((.inr (.inl (0, 48, Pi4))))) H ∧ va_S (eA E s.heap.size) s.heap H locs ∧ lv_has ls 4 [(0, .ref a0), (1, .int x9)]) ?_ (fun x9 H locs ls h => absurd h.1 (Nat.not_lt_zero _)) _ (k_1) ⟨Nat.lt_succ_self _, (wkb (eqb hk_1) rfl rfl), hH, hS, lv_sub hl [1, 0] rfl⟩
  intro n_2 ih_2 u_2 H locs ls ⟨hm_2, hu_2, hH, hS, hl⟩
  have hm_2 : (14 - u_2.toInt + 1).toNat < n_2 + 1 := hm_2
  have hu_2 : (0 ≤ u_2.toInt ∧ u_2.toInt ≤ 14) := hu_2
  have hH : TH E (tbC (dayD (.inl (0, 18))) (dayD (.inl (0, 18))) (riverD (.inl Fa1) (.inl Fb1) (.inl (0, 4)) 31 33 35 39 43 47) (riverD (.inl Fa2) (.inl Fb2) (.inl (0, 4)) 32 34 36 40 44 48) rc rd tp A14F A14F A4F A4F A14F A14F (riverD (.inl Fa3) (.inl Fb3) (.inl (0, 4)) 3 8 3 41 45 49) (riverD (.inl Fa4) (.inl Fb4) (.inl (0, 4)) 3 8 3 42 46 50) ((.inr (.inl (0, 12, Pd1)))) ((.inr (.inl (0, 12, Pd2)))) ((.inr (.inl (0, 12, Pd3)))) ((.inr (.inl (0, 12, Pd4)))) ((.inr (.inl (0, 12, Ps1)))) ((.inr (.inl (0, 12, Ps2)))) ((.inr (.inl (0, 12, Ps3)))) ((.inr (.inl (0, 12, Ps4)))) ((.inr (.inl (0, 48, Pi1)))) ((.inr (.inl (0, 48, Pi2)))) ((.inr (.inl (0, 48, Pi3)))) ((.inr (.inl (0, 48, Pi4))))) H := hH
  have hl : lv_has ls 4 [(0, .ref a0), (1, .int u_2)] := hl
  refine lv_iload_n F.1 F.2.1 dX0_takeByOrders_2 rfl (lv_at hl 1 rfl) ?_
  refine lv_aload_n F.1 F.2.1 dX0_takeByOrders_3 rfl (lv_at hl 0 rfl) ?_
  refine tGetR0 (j := 0) F hK hH (tyb ha0 (all2 rfl rfl)) rfl clX0 (by decide) wd_4_23 dX0_takeByOrders_4 (fun q_3 hq_3 => ?_)
  refine tGetIB (j := 4) (lo := 0) (hi := 14) F hK hH hq_3 (alls ⟨_, _, rfl, rfl, by have h9_ := hFb1; omega⟩ (alls1 ⟨_, _, rfl, rfl, by have h9_ := hFb2; omega⟩)) clX2 (by decide) wd_20_4 dX0_takeByOrders_7 (fun z_4 hz_4 => ?_)
  refine b_ge (tgt := 33) F dX0_takeByOrders_10 (by decide) (fun c_5 => ?_) (fun c_5 => ?_)
  · skip
    refine lv_iconst (v := 0) F.1 F.2.1 dX0_takeByOrders_33 (by decide) ?_
    refine topK (a := 0) (by decide) (fun k_8 hk_8 => ?_)
    refine lv_istore_n (lv' := [(1, .int k_8), (0, .ref a0)]) F.1 F.2.1 dX0_takeByOrders_34 rfl hl (by decide) rfl (fun ls hl => ?_)
    refine wloop (σ := Int32) (fun n9 x9 H locs ls => (4 - x9.toInt + 1).toNat < n9 ∧ (0 ≤ x9.toInt ∧ x9.toInt ≤ 4) ∧ TH E (tbC (dayD (.inl (0, 18))) (dayD (.inl (0, 18))) (riverD (.inl Fa1) (.inl Fb1) (.inl (0, 4)) 31 33 35 39 43 47) (riverD (.inl Fa2) (.inl Fb2) (.inl (0, 4)) 32 34 36 40 44 48) rc rd tp A14F A14F A4F A4F A14F A14F (riverD (.inl Fa3) (.inl Fb3) (.inl (0, 4)) 3 8 3 41 45 49) (riverD (.inl Fa4) (.inl Fb4) (.inl (0, 4)) 3 8 3 42 46 50) ((.inr (.inl (0, 12, Pd1)))) ((.inr (.inl (0, 12, Pd2)))) ((.inr (.inl (0, 12, Pd3)))) ((.inr (.inl (0, 12, Pd4)))) ((.inr (.inl (0, 12, Ps1)))) ((.inr (.inl (0, 12, Ps2)))) ((.inr (.inl (0, 12, Ps3)))) ((.inr (.inl (0, 12, Ps4)))) ((.inr (.inl (0, 48, Pi1)))) ((.inr (.inl (0, 48, Pi2)))) ((.inr (.inl (0, 48, Pi3)))) ((.inr (.inl (0, 48, Pi4))))) H ∧ va_S (eA E s.heap.size) s.heap H locs ∧ lv_has ls 4 [(0, .ref a0), (1, .int x9)]) ?_ (fun x9 H locs ls h => absurd h.1 (Nat.not_lt_zero _)) _ (k_8) ⟨Nat.lt_succ_self _, (wkb (eqb hk_8) rfl rfl), hH, hS, lv_sub hl [1, 0] rfl⟩
    intro n_35 ih_35 u_9 H locs ls ⟨hm_35, hu_9, hH, hS, hl⟩
    have hm_35 : (4 - u_9.toInt + 1).toNat < n_35 + 1 := hm_35
    have hu_9 : (0 ≤ u_9.toInt ∧ u_9.toInt ≤ 4) := hu_9
    have hH : TH E (tbC (dayD (.inl (0, 18))) (dayD (.inl (0, 18))) (riverD (.inl Fa1) (.inl Fb1) (.inl (0, 4)) 31 33 35 39 43 47) (riverD (.inl Fa2) (.inl Fb2) (.inl (0, 4)) 32 34 36 40 44 48) rc rd tp A14F A14F A4F A4F A14F A14F (riverD (.inl Fa3) (.inl Fb3) (.inl (0, 4)) 3 8 3 41 45 49) (riverD (.inl Fa4) (.inl Fb4) (.inl (0, 4)) 3 8 3 42 46 50) ((.inr (.inl (0, 12, Pd1)))) ((.inr (.inl (0, 12, Pd2)))) ((.inr (.inl (0, 12, Pd3)))) ((.inr (.inl (0, 12, Pd4)))) ((.inr (.inl (0, 12, Ps1)))) ((.inr (.inl (0, 12, Ps2)))) ((.inr (.inl (0, 12, Ps3)))) ((.inr (.inl (0, 12, Ps4)))) ((.inr (.inl (0, 48, Pi1)))) ((.inr (.inl (0, 48, Pi2)))) ((.inr (.inl (0, 48, Pi3)))) ((.inr (.inl (0, 48, Pi4))))) H := hH
    have hl : lv_has ls 4 [(0, .ref a0), (1, .int u_9)] := hl
    refine lv_iload_n F.1 F.2.1 dX0_takeByOrders_35 rfl (lv_at hl 1 rfl) ?_
    refine lv_aload_n F.1 F.2.1 dX0_takeByOrders_36 rfl (lv_at hl 0 rfl) ?_
    refine tGetR0 (j := 0) F hK hH (tyb ha0 (all2 rfl rfl)) rfl clX0 (by decide) wd_4_23 dX0_takeByOrders_37 (fun q_10 hq_10 => ?_)
    refine tGetIM (j := 14) F hK hH hq_10 (alls ⟨_, rfl, rfl⟩ (alls1 ⟨_, rfl, rfl⟩)) clX2 (by decide) wd_20_6 dX0_takeByOrders_40 (fun z_11 hz_11 => ?_)
    refine b_ge (tgt := 170) F dX0_takeByOrders_43 (by decide) (fun c_12 => ?_) (fun c_12 => ?_)
    · skip
      exact txV F hS dX0_takeByOrders_170 (hH)
    · skip
      have r_13 : 0 ≤ u_9.toInt ∧ u_9.toInt ≤ 3 := by have h9_ := hu_9; omega
      have r_14 : 1 ≤ z_11.toInt ∧ z_11.toInt ≤ 4 := by have h9_ := hz_11; omega
      refine lv_aload_n F.1 F.2.1 dX0_takeByOrders_46 rfl (lv_at hl 0 rfl) ?_
      refine tGetR (j := 1) F hK hH (tyb ha0 (all2 rfl rfl)) rfl (all1 rfl) clX0 (by decide) wd_5_0 dX0_takeByOrders_47 (fun q_15 hq_15 _ => ?_)
      refine tGetR (j := 9) F hK hH (tyb hq_15 (all1 rfl)) rfl (all1 rfl) clX5 (by decide) wd_23_6 dX0_takeByOrders_50 (fun q_16 hq_16 _ => ?_)
      refine lv_iload_n F.1 F.2.1 dX0_takeByOrders_53 rfl (lv_at hl 1 rfl) ?_
      refine tIaldB F hK hH (tyb hq_16 (all1 rfl)) (ixb (n := 4) r_13 rfl rfl) dX0_takeByOrders_54 (fun z_17 hz_17 => ?_)
      refine lv_istore_n (lv' := [(2, .int z_17), (0, .ref a0), (1, .int u_9)]) F.1 F.2.1 dX0_takeByOrders_55 rfl hl (by decide) rfl (fun ls hl => ?_)
      refine lv_aload_n F.1 F.2.1 dX0_takeByOrders_56 rfl (lv_at hl 1 rfl) ?_
      refine tGetR (j := 11) F hK hH (tyb ha0 (all2 rfl rfl)) rfl (all1 rfl) clX0 (by decide) wd_4_20 dX0_takeByOrders_57 (fun q_18 hq_18 _ => ?_)
      refine lv_iload_n F.1 F.2.1 dX0_takeByOrders_60 rfl (lv_at hl 2 rfl) ?_
      refine lv_iconst (v := 0) F.1 F.2.1 dX0_takeByOrders_61 (by decide) ?_
      refine topK (a := 0) (by decide) (fun k_19 hk_19 => ?_)
      refine tIastB F hK hH hS (tyb hq_18 (all1 rfl)) (ixb (n := 4) r_13 rfl rfl) (wkb (eqb hk_19) rfl rfl) dX0_takeByOrders_62 (fun H locs hH hS => ?_)
      refine lv_iload_n F.1 F.2.1 dX0_takeByOrders_63 rfl (lv_at hl 0 rfl) ?_
      refine z_lt (tgt := 164) F dX0_takeByOrders_64 (by decide) (fun c_20 => ?_) (fun c_20 => ?_)
      · skip
        have r_21 : (-2) ≤ z_17.toInt ∧ z_17.toInt ≤ (-1) := by have h9_ := hz_17; omega
        obtain ⟨x_23, ex_23, hx_23⟩ := iincB (c := 1) (lo := 1) (hi := 4) r_13 rfl
        refine lv_iinc (v := x_23) (lv' := [(1, .int x_23), (2, .int z_17), (0, .ref a0)]) F.1 F.2.1 dX0_takeByOrders_164 hl (k := 2) rfl ex_23 (by decide) rfl (fun ls hl => ?_)
        refine lv_goto (tgt := 35) F.1 F.2.1 dX0_takeByOrders_167 (by decide) ?_
        exact ih_35 (x_23) _ _ _ ⟨(show (4 - x_23.toInt + 1).toNat < n_35 from by omega), (wkb hx_23.2 rfl rfl), hH, hS, lv_sub hl [2, 0] rfl⟩
      · skip
        have r_22 : 0 ≤ z_17.toInt ∧ z_17.toInt ≤ 13 := by have h9_ := hz_17; omega
        refine lv_aload_n F.1 F.2.1 dX0_takeByOrders_67 rfl (lv_at hl 1 rfl) ?_
        refine tGetR0 (j := 0) F hK hH (tyb ha0 (all2 rfl rfl)) rfl clX0 (by decide) wd_4_23 dX0_takeByOrders_68 (fun q_24 hq_24 => ?_)
        refine lv_aload_n F.1 F.2.1 dX0_takeByOrders_71 rfl (lv_at hl 1 rfl) ?_
        refine tGetR0 (j := 0) F hK hH (tyb ha0 (all2 rfl rfl)) rfl clX0 (by decide) wd_4_23 dX0_takeByOrders_72 (fun q_25 hq_25 => ?_)
        refine tGetRM (j := 15) (L := [9]) F hK hH hq_25 (alls ⟨_, _, rfl, rfl, by decide⟩ (alls1 ⟨_, _, rfl, rfl, by decide⟩)) (all1 rfl) clX2 (by decide) wd_20_7 dX0_takeByOrders_75 (fun q_26 hq_26 _ => ?_)
        refine lv_iload_n F.1 F.2.1 dX0_takeByOrders_78 rfl (lv_at hl 2 rfl) ?_
        refine tIaldB F hK hH (tyb hq_26 (all1 rfl)) (ixb (n := 4) r_13 rfl rfl) dX0_takeByOrders_79 (fun z_27 hz_27 => ?_)
        refine lv_aload_n F.1 F.2.1 dX0_takeByOrders_80 rfl (lv_at hl 1 rfl) ?_
        refine tGetR (j := 4) F hK hH (tyb ha0 (all2 rfl rfl)) rfl (all1 rfl) clX0 (by decide) wd_4_13 dX0_takeByOrders_81 (fun q_28 hq_28 _ => ?_)
        refine lv_iload_n F.1 F.2.1 dX0_takeByOrders_84 rfl (lv_at hl 0 rfl) ?_
        refine tIaldB F hK hH (tyb hq_28 (all1 rfl)) (ixb (n := 18) r_22 rfl rfl) dX0_takeByOrders_85 (fun z_29 hz_29 => ?_)
        refine tVi (b := q_24) (As := [.int z_27, .int z_29]) (rest := []) F hK hN hO (c_X2_runsTo E (dayD (.inl (0, 18))) (dayD (.inl (0, 18))) rc rd tp Fa1 Fb1 Fa2 Fb2 Fa3 Fb3 Fa4 Fb4 Pd1 Pd2 Pd3 Pd4 Ps1 Ps2 Ps3 Ps4 Pi1 Pi2 Pi3 Pi4 q_24 z_27 z_29 (by have h9_ := hq_24; simp at h9_ ⊢; omega) (wkb hz_27 rfl rfl) hFa1 hFb1 hFa2 hFb2 hFa3 hFb3 hFa4 hFb4 hPd1 hPd2 hPd3 hPd4 hPs1 hPs2 hPs3 hPs4 hPi1 hPi2 hPi3 hPi4) mv_X2_runsTo wd_23_8 ⟨Nat.le_of_ble_eq_true rfl, Nat.le_of_ble_eq_true rfl⟩ ⟨Nat.le_of_ble_eq_true rfl, Nat.le_of_ble_eq_true rfl⟩ hH hS (tRecvM hK hH hq_24 (alls ⟨_, rfl⟩ (alls1 ⟨_, rfl⟩)) clX2) rfl hl.1 (Nat.le_of_ble_eq_true rfl) dX0_takeByOrders_86 (fun z_30 H locs hq hS => ?_)
        obtain ⟨f_31, hH⟩ := hq
        have hH : TH E (tbC (dayD (.inl (0, 18))) (dayD (.inl (0, 18))) (riverD (.inl Fa1) (.inl Fb1) (.inl (0, 4)) 31 33 35 39 43 47) (riverD (.inl Fa2) (.inl Fb2) (.inl (0, 4)) 32 34 36 40 44 48) rc rd tp A14F A14F A4F A4F A14F A14F (riverD (.inl Fa3) (.inl Fb3) (.inl (0, 4)) 3 8 3 41 45 49) (riverD (.inl Fa4) (.inl Fb4) (.inl (0, 4)) 3 8 3 42 46 50) ((.inr (.inl (0, 12, Pd1)))) ((.inr (.inl (0, 12, Pd2)))) ((.inr (.inl (0, 12, Pd3)))) ((.inr (.inl (0, 12, Pd4)))) ((.inr (.inl (0, 12, Ps1)))) ((.inr (.inl (0, 12, Ps2)))) ((.inr (.inl (0, 12, Ps3)))) ((.inr (.inl (0, 12, Ps4)))) ((.inr (.inl (0, 48, Pi1)))) ((.inr (.inl (0, 48, Pi2)))) ((.inr (.inl (0, 48, Pi3)))) ((.inr (.inl (0, 48, Pi4))))) H := hH
        refine z_eq (tgt := 164) F dX0_takeByOrders_89 (by decide) (fun c_32 => ?_) (fun c_32 => ?_)
        · skip
          have r_33 : 0 ≤ z_30.toInt ∧ z_30.toInt ≤ 0 := by have h9_ := f_31; omega
          obtain ⟨x_35, ex_35, hx_35⟩ := iincB (c := 1) (lo := 1) (hi := 4) r_13 rfl
          refine lv_iinc (v := x_35) (lv' := [(1, .int x_35), (2, .int z_17), (0, .ref a0)]) F.1 F.2.1 dX0_takeByOrders_164 hl (k := 2) rfl ex_35 (by decide) rfl (fun ls hl => ?_)
          refine lv_goto (tgt := 35) F.1 F.2.1 dX0_takeByOrders_167 (by decide) ?_
          exact ih_35 (x_35) _ _ _ ⟨(show (4 - x_35.toInt + 1).toNat < n_35 from by omega), (wkb hx_35.2 rfl rfl), hH, hS, lv_sub hl [2, 0] rfl⟩
        · skip
          have r_34 : 1 ≤ z_30.toInt ∧ z_30.toInt ≤ 1 := by have h9_ := f_31; omega
          refine lv_aload_n F.1 F.2.1 dX0_takeByOrders_92 rfl (lv_at hl 1 rfl) ?_
          refine tGetR (j := 1) F hK hH (tyb ha0 (all2 rfl rfl)) rfl (all1 rfl) clX0 (by decide) wd_5_0 dX0_takeByOrders_93 (fun q_36 hq_36 _ => ?_)
          refine tGetR (j := 10) F hK hH (tyb hq_36 (all1 rfl)) rfl (all1 rfl) clX5 (by decide) wd_23_7 dX0_takeByOrders_96 (fun q_37 hq_37 _ => ?_)
          refine lv_iload_n F.1 F.2.1 dX0_takeByOrders_99 rfl (lv_at hl 2 rfl) ?_
          refine tIaldB F hK hH (tyb hq_37 (all1 rfl)) (ixb (n := 4) r_13 rfl rfl) dX0_takeByOrders_100 (fun z_38 hz_38 => ?_)
          refine lv_aload_n F.1 F.2.1 dX0_takeByOrders_101 rfl (lv_at hl 1 rfl) ?_
          refine tGetR (j := 1) F hK hH (tyb ha0 (all2 rfl rfl)) rfl (all1 rfl) clX0 (by decide) wd_5_0 dX0_takeByOrders_102 (fun q_39 hq_39 _ => ?_)
          refine tGetR (j := 8) F hK hH (tyb hq_39 (all1 rfl)) rfl (all1 rfl) clX5 (by decide) wd_21_4 dX0_takeByOrders_105 (fun q_40 hq_40 _ => ?_)
          refine lv_iload_n F.1 F.2.1 dX0_takeByOrders_108 rfl (lv_at hl 2 rfl) ?_
          refine tIaldB F hK hH (tyb hq_40 (all1 rfl)) (ixb (n := 4) r_13 rfl rfl) dX0_takeByOrders_109 (fun z_41 hz_41 => ?_)
          refine tMin (lo := (-2147483648)) (hi := 2147483647) F wd_21_5 wd_9_0 wd_9_1 wd_9_2 hl.1 (Nat.le_of_ble_eq_true rfl) (Nat.le_of_ble_eq_true rfl) (Nat.le_of_ble_eq_true rfl) (Nat.le_of_ble_eq_true rfl) dX0_takeByOrders_110 hz_38 hz_41 rfl (fun z_42 hz_42 => ?_)
          refine lv_istore_n (lv' := [(3, .int z_42), (2, .int z_17), (0, .ref a0), (1, .int u_9)]) F.1 F.2.1 dX0_takeByOrders_113 rfl hl (by decide) rfl (fun ls hl => ?_)
          refine lv_aload_n F.1 F.2.1 dX0_takeByOrders_114 rfl (lv_at hl 2 rfl) ?_
          refine tGetR (j := 11) F hK hH (tyb ha0 (all2 rfl rfl)) rfl (all1 rfl) clX0 (by decide) wd_4_20 dX0_takeByOrders_115 (fun q_43 hq_43 _ => ?_)
          refine lv_iload_n F.1 F.2.1 dX0_takeByOrders_118 rfl (lv_at hl 3 rfl) ?_
          refine lv_iload_n F.1 F.2.1 dX0_takeByOrders_119 rfl (lv_at hl 0 rfl) ?_
          refine tIastB F hK hH hS (tyb hq_43 (all1 rfl)) (ixb (n := 4) r_13 rfl rfl) hz_42.2 dX0_takeByOrders_120 (fun H locs hH hS => ?_)
          refine lv_aload_n F.1 F.2.1 dX0_takeByOrders_121 rfl (lv_at hl 2 rfl) ?_
          refine lv_aload_n F.1 F.2.1 dX0_takeByOrders_122 rfl (lv_at hl 2 rfl) ?_
          refine tGetR0 (j := 0) F hK hH (tyb ha0 (all2 rfl rfl)) rfl clX0 (by decide) wd_4_23 dX0_takeByOrders_123 (fun q_44 hq_44 => ?_)
          refine tGetRM (j := 15) (L := [9]) F hK hH hq_44 (alls ⟨_, _, rfl, rfl, by decide⟩ (alls1 ⟨_, _, rfl, rfl, by decide⟩)) (all1 rfl) clX2 (by decide) wd_20_7 dX0_takeByOrders_126 (fun q_45 hq_45 _ => ?_)
          refine lv_iload_n F.1 F.2.1 dX0_takeByOrders_129 rfl (lv_at hl 3 rfl) ?_
          refine tIaldB F hK hH (tyb hq_45 (all1 rfl)) (ixb (n := 4) r_13 rfl rfl) dX0_takeByOrders_130 (fun z_46 hz_46 => ?_)
          refine lv_iload_n F.1 F.2.1 dX0_takeByOrders_131 rfl (lv_at hl 0 rfl) ?_
          refine tVv (b := a0) (As := [.int z_46, .int z_42]) (rest := []) F hK hN hO (c_X0_change E rc rd tp Fa1 Fb1 Fa2 Fb2 Fa3 Fb3 Fa4 Fb4 Pd1 Pd2 Pd3 Pd4 Ps1 Ps2 Ps3 Ps4 Pi1 Pi2 Pi3 Pi4 a0 z_46 z_42 ha0 hz_46 hFa1 hFb1 hFa2 hFb2 hFa3 hFb3 hFa4 hFb4 hPd1 hPd2 hPd3 hPd4 hPs1 hPs2 hPs3 hPs4 hPi1 hPi2 hPi3 hPi4) mv_X0_change wd_22_22 ⟨Nat.le_of_ble_eq_true rfl, Nat.le_of_ble_eq_true rfl⟩ ⟨Nat.le_of_ble_eq_true rfl, Nat.le_of_ble_eq_true rfl⟩ hH hS (tRecv hK hH (tyb ha0 (all2 rfl rfl)) clX0) rfl hl.1 (Nat.le_of_ble_eq_true rfl) dX0_takeByOrders_132 (fun H locs hq hS => ?_)
          have hH := hq
          have hH : TH E (tbC (dayD (.inl (0, 18))) (dayD (.inl (0, 18))) (riverD (.inl Fa1) (.inl Fb1) (.inl (0, 4)) 31 33 35 39 43 47) (riverD (.inl Fa2) (.inl Fb2) (.inl (0, 4)) 32 34 36 40 44 48) rc rd tp A14F A14F A4F A4F A14F A14F (riverD (.inl Fa3) (.inl Fb3) (.inl (0, 4)) 3 8 3 41 45 49) (riverD (.inl Fa4) (.inl Fb4) (.inl (0, 4)) 3 8 3 42 46 50) ((.inr (.inl (0, 12, Pd1)))) ((.inr (.inl (0, 12, Pd2)))) ((.inr (.inl (0, 12, Pd3)))) ((.inr (.inl (0, 12, Pd4)))) ((.inr (.inl (0, 12, Ps1)))) ((.inr (.inl (0, 12, Ps2)))) ((.inr (.inl (0, 12, Ps3)))) ((.inr (.inl (0, 12, Ps4)))) ((.inr (.inl (0, 48, Pi1)))) ((.inr (.inl (0, 48, Pi2)))) ((.inr (.inl (0, 48, Pi3)))) ((.inr (.inl (0, 48, Pi4))))) H := hH
          refine lv_aload_n F.1 F.2.1 dX0_takeByOrders_135 rfl (lv_at hl 2 rfl) ?_
          refine tGetR (j := 9) F hK hH (tyb ha0 (all2 rfl rfl)) rfl (all1 rfl) clX0 (by decide) wd_4_18 dX0_takeByOrders_136 (fun q_48 hq_48 _ => ?_)
          refine lv_iload_n F.1 F.2.1 dX0_takeByOrders_139 rfl (lv_at hl 1 rfl) ?_
          refine lv_dup2_11 F.1 F.2.1 dX0_takeByOrders_140 rfl rfl ?_
          refine tIaldB F hK hH (tyb hq_48 (all1 rfl)) (ixb (n := 14) r_22 rfl rfl) dX0_takeByOrders_141 (fun z_49 hz_49 => ?_)
          refine lv_aload_n F.1 F.2.1 dX0_takeByOrders_142 rfl (lv_at hl 2 rfl) ?_
          refine lv_aload_n F.1 F.2.1 dX0_takeByOrders_143 rfl (lv_at hl 2 rfl) ?_
          refine tGetR (j := 4) F hK hH (tyb ha0 (all2 rfl rfl)) rfl (all1 rfl) clX0 (by decide) wd_4_13 dX0_takeByOrders_144 (fun q_50 hq_50 _ => ?_)
          refine lv_iload_n F.1 F.2.1 dX0_takeByOrders_147 rfl (lv_at hl 1 rfl) ?_
          refine tIaldB F hK hH (tyb hq_50 (all1 rfl)) (ixb (n := 18) r_22 rfl rfl) dX0_takeByOrders_148 (fun z_51 hz_51 => ?_)
          refine lv_iload_n F.1 F.2.1 dX0_takeByOrders_149 rfl (lv_at hl 0 rfl) ?_
          refine lv_aload_n F.1 F.2.1 dX0_takeByOrders_150 rfl (lv_at hl 2 rfl) ?_
          refine lv_iload_n F.1 F.2.1 dX0_takeByOrders_151 rfl (lv_at hl 1 rfl) ?_
          refine tVi (b := a0) (As := [.int z_17]) (rest := [.int z_42, .int z_51, .ref a0, .int z_49, .int z_17, .ref q_48]) F hK hN hO (c_X0_missing E rc rd tp Fa1 Fb1 Fa2 Fb2 Fa3 Fb3 Fa4 Fb4 Pd1 Pd2 Pd3 Pd4 Ps1 Ps2 Ps3 Ps4 Pi1 Pi2 Pi3 Pi4 a0 z_17 ha0 r_22 hFa1 hFb1 hFa2 hFb2 hFa3 hFb3 hFa4 hFb4 hPd1 hPd2 hPd3 hPd4 hPs1 hPs2 hPs3 hPs4 hPi1 hPi2 hPi3 hPi4) mv_X0_missing wd_23_12 ⟨Nat.le_of_ble_eq_true rfl, Nat.le_of_ble_eq_true rfl⟩ ⟨Nat.le_of_ble_eq_true rfl, Nat.le_of_ble_eq_true rfl⟩ hH hS (tRecv hK hH (tyb ha0 (all2 rfl rfl)) clX0) rfl hl.1 (Nat.le_of_ble_eq_true rfl) dX0_takeByOrders_152 (fun z_52 H locs hq hS => ?_)
          obtain ⟨f_53, hH⟩ := hq
          have hH : TH E (tbC (dayD (.inl (0, 18))) (dayD (.inl (0, 18))) (riverD (.inl Fa1) (.inl Fb1) (.inl (0, 4)) 31 33 35 39 43 47) (riverD (.inl Fa2) (.inl Fb2) (.inl (0, 4)) 32 34 36 40 44 48) rc rd tp A14F A14F A4F A4F A14F A14F (riverD (.inl Fa3) (.inl Fb3) (.inl (0, 4)) 3 8 3 41 45 49) (riverD (.inl Fa4) (.inl Fb4) (.inl (0, 4)) 3 8 3 42 46 50) ((.inr (.inl (0, 12, Pd1)))) ((.inr (.inl (0, 12, Pd2)))) ((.inr (.inl (0, 12, Pd3)))) ((.inr (.inl (0, 12, Pd4)))) ((.inr (.inl (0, 12, Ps1)))) ((.inr (.inl (0, 12, Ps2)))) ((.inr (.inl (0, 12, Ps3)))) ((.inr (.inl (0, 12, Ps4)))) ((.inr (.inl (0, 48, Pi1)))) ((.inr (.inl (0, 48, Pi2)))) ((.inr (.inl (0, 48, Pi3)))) ((.inr (.inl (0, 48, Pi4))))) H := hH
          refine tMin (lo := (-2147483648)) (hi := 2147483647) F wd_21_5 wd_9_0 wd_9_1 wd_9_2 hl.1 (Nat.le_of_ble_eq_true rfl) (Nat.le_of_ble_eq_true rfl) (Nat.le_of_ble_eq_true rfl) (Nat.le_of_ble_eq_true rfl) dX0_takeByOrders_155 hz_42.2 f_53 rfl (fun z_54 hz_54 => ?_)
          refine lv_iconst (v := (-1)) F.1 F.2.1 dX0_takeByOrders_158 (by decide) ?_
          refine topK (a := (-1)) (by decide) (fun k_55 hk_55 => ?_)
          refine tVi (b := a0) (As := [.int z_51, .int z_54, .int k_55]) (rest := [.int z_49, .int z_17, .ref q_48]) F hK hN hO (c_X0_takeMost E rc rd tp Fa1 Fb1 Fa2 Fb2 Fa3 Fb3 Fa4 Fb4 Pd1 Pd2 Pd3 Pd4 Ps1 Ps2 Ps3 Ps4 Pi1 Pi2 Pi3 Pi4 a0 z_51 z_54 k_55 ha0 hz_51 hFa1 hFb1 hFa2 hFb2 hFa3 hFb3 hFa4 hFb4 hPd1 hPd2 hPd3 hPd4 hPs1 hPs2 hPs3 hPs4 hPi1 hPi2 hPi3 hPi4) mv_X0_takeMost wd_22_18 ⟨Nat.le_of_ble_eq_true rfl, Nat.le_of_ble_eq_true rfl⟩ ⟨Nat.le_of_ble_eq_true rfl, Nat.le_of_ble_eq_true rfl⟩ hH hS (tRecv hK hH (tyb ha0 (all2 rfl rfl)) clX0) rfl hl.1 (Nat.le_of_ble_eq_true rfl) dX0_takeByOrders_159 (fun z_56 H locs hq hS => ?_)
          obtain ⟨f_57, hH⟩ := hq
          have hH : TH E (tbC (dayD (.inl (0, 18))) (dayD (.inl (0, 18))) (riverD (.inl Fa1) (.inl Fb1) (.inl (0, 4)) 31 33 35 39 43 47) (riverD (.inl Fa2) (.inl Fb2) (.inl (0, 4)) 32 34 36 40 44 48) rc rd tp A14F A14F A4F A4F A14F A14F (riverD (.inl Fa3) (.inl Fb3) (.inl (0, 4)) 3 8 3 41 45 49) (riverD (.inl Fa4) (.inl Fb4) (.inl (0, 4)) 3 8 3 42 46 50) ((.inr (.inl (0, 12, Pd1)))) ((.inr (.inl (0, 12, Pd2)))) ((.inr (.inl (0, 12, Pd3)))) ((.inr (.inl (0, 12, Pd4)))) ((.inr (.inl (0, 12, Ps1)))) ((.inr (.inl (0, 12, Ps2)))) ((.inr (.inl (0, 12, Ps3)))) ((.inr (.inl (0, 12, Ps4)))) ((.inr (.inl (0, 48, Pi1)))) ((.inr (.inl (0, 48, Pi2)))) ((.inr (.inl (0, 48, Pi3)))) ((.inr (.inl (0, 48, Pi4))))) H := hH
          refine lv_iadd F.1 F.2.1 dX0_takeByOrders_162 ?_
          refine topF (fun z_58 => ?_)
          refine tIastB F hK hH hS (tyb hq_48 (all1 rfl)) (ixb (n := 14) r_22 rfl rfl) (i32b _) dX0_takeByOrders_163 (fun H locs hH hS => ?_)
          obtain ⟨x_59, ex_59, hx_59⟩ := iincB (c := 1) (lo := 1) (hi := 4) r_13 rfl
          refine lv_iinc (v := x_59) (lv' := [(1, .int x_59), (3, .int z_42), (2, .int z_17), (0, .ref a0)]) F.1 F.2.1 dX0_takeByOrders_164 hl (k := 3) rfl ex_59 (by decide) rfl (fun ls hl => ?_)
          refine lv_goto (tgt := 35) F.1 F.2.1 dX0_takeByOrders_167 (by decide) ?_
          exact ih_35 (x_59) _ _ _ ⟨(show (4 - x_59.toInt + 1).toNat < n_35 from by omega), (wkb hx_59.2 rfl rfl), hH, hS, lv_sub hl [3, 0] rfl⟩
  · skip
    have r_6 : 0 ≤ u_2.toInt ∧ u_2.toInt ≤ 13 := by have h9_ := hu_2; omega
    have r_7 : 1 ≤ z_4.toInt ∧ z_4.toInt ≤ 14 := by have h9_ := hz_4; omega
    refine lv_aload_n F.1 F.2.1 dX0_takeByOrders_13 rfl (lv_at hl 0 rfl) ?_
    refine tGetR (j := 9) F hK hH (tyb ha0 (all2 rfl rfl)) rfl (all1 rfl) clX0 (by decide) wd_4_18 dX0_takeByOrders_14 (fun q_60 hq_60 _ => ?_)
    refine lv_iload_n F.1 F.2.1 dX0_takeByOrders_17 rfl (lv_at hl 1 rfl) ?_
    refine lv_iconst (v := 0) F.1 F.2.1 dX0_takeByOrders_18 (by decide) ?_
    refine topK (a := 0) (by decide) (fun k_61 hk_61 => ?_)
    refine tIastB F hK hH hS (tyb hq_60 (all1 rfl)) (ixb (n := 14) r_6 rfl rfl) (wkb (eqb hk_61) rfl rfl) dX0_takeByOrders_19 (fun H locs hH hS => ?_)
    refine lv_aload_n F.1 F.2.1 dX0_takeByOrders_20 rfl (lv_at hl 0 rfl) ?_
    refine tGetR (j := 10) F hK hH (tyb ha0 (all2 rfl rfl)) rfl (all1 rfl) clX0 (by decide) wd_4_19 dX0_takeByOrders_21 (fun q_62 hq_62 _ => ?_)
    refine lv_iload_n F.1 F.2.1 dX0_takeByOrders_24 rfl (lv_at hl 1 rfl) ?_
    refine lv_iconst (v := 0) F.1 F.2.1 dX0_takeByOrders_25 (by decide) ?_
    refine topK (a := 0) (by decide) (fun k_63 hk_63 => ?_)
    refine tIastB F hK hH hS (tyb hq_62 (all1 rfl)) (ixb (n := 14) r_6 rfl rfl) (wkb (eqb hk_63) rfl rfl) dX0_takeByOrders_26 (fun H locs hH hS => ?_)
    obtain ⟨x_64, ex_64, hx_64⟩ := iincB (c := 1) (lo := 1) (hi := 14) r_6 rfl
    refine lv_iinc (v := x_64) (lv' := [(1, .int x_64), (0, .ref a0)]) F.1 F.2.1 dX0_takeByOrders_27 hl (k := 1) rfl ex_64 (by decide) rfl (fun ls hl => ?_)
    refine lv_goto (tgt := 2) F.1 F.2.1 dX0_takeByOrders_30 (by decide) ?_
    exact ih_2 (x_64) _ _ _ ⟨(show (14 - x_64.toInt + 1).toNat < n_2 from by omega), (wkb hx_64.2 rfl rfl), hH, hS, lv_sub hl [1, 0] rfl⟩
set_option maxHeartbeats 4000000 in
set_option maxRecDepth 100000 in
theorem c_X0_takeByBarters (E : Ev) (rc : TD) (rd : TD) (tp : TD) (Fa1 : Int × Int) (Fb1 : Int × Int) (Fa2 : Int × Int) (Fb2 : Int × Int) (Fa3 : Int × Int) (Fb3 : Int × Int) (Fa4 : Int × Int) (Fb4 : Int × Int) (Pd1 : (Nat → Int32) → Prop) (Pd2 : (Nat → Int32) → Prop) (Pd3 : (Nat → Int32) → Prop) (Pd4 : (Nat → Int32) → Prop) (Ps1 : (Nat → Int32) → Prop) (Ps2 : (Nat → Int32) → Prop) (Ps3 : (Nat → Int32) → Prop) (Ps4 : (Nat → Int32) → Prop) (Pi1 : (Nat → Int32) → Prop) (Pi2 : (Nat → Int32) → Prop) (Pi3 : (Nat → Int32) → Prop) (Pi4 : (Nat → Int32) → Prop) (a0 : Nat) (ha0 : eT E a0 ∈ [24, 25]) (hFa1 : 0 ≤ Fa1.1 ∧ Fa1.2 ≤ 12) (hFb1 : 0 ≤ Fb1.1 ∧ Fb1.2 ≤ 14) (hFa2 : 0 ≤ Fa2.1 ∧ Fa2.2 ≤ 12) (hFb2 : 0 ≤ Fb2.1 ∧ Fb2.2 ≤ 14) (hFa3 : 0 ≤ Fa3.1 ∧ Fa3.2 ≤ 12) (hFb3 : 0 ≤ Fb3.1 ∧ Fb3.2 ≤ 14) (hFa4 : 0 ≤ Fa4.1 ∧ Fa4.2 ≤ 12) (hFb4 : 0 ≤ Fb4.1 ∧ Fb4.2 ≤ 14) (hPd1 : ∀ f, Pd1 f → ivP 12 (-2) 11 f) (hPd2 : ∀ f, Pd2 f → ivP 12 (-2) 11 f) (hPd3 : ∀ f, Pd3 f → ivP 12 (-2) 11 f) (hPd4 : ∀ f, Pd4 f → ivP 12 (-2) 11 f) (hPs1 : ∀ f, Ps1 f → ivP 12 (-2147483648) 2147483647 f) (hPs2 : ∀ f, Ps2 f → ivP 12 (-2147483648) 2147483647 f) (hPs3 : ∀ f, Ps3 f → ivP 12 (-2147483648) 2147483647 f) (hPs4 : ∀ f, Ps4 f → ivP 12 (-2147483648) 2147483647 f) (hPi1 : ∀ f, Pi1 f → ivP 48 (-2147483648) 2147483647 f) (hPi2 : ∀ f, Pi2 f → ivP 48 (-2147483648) 2147483647 f) (hPi3 : ∀ f, Pi3 f → ivP 48 (-2147483648) 2147483647 f) (hPi4 : ∀ f, Pi4 f → ivP 48 (-2147483648) 2147483647 f) : TcV E yX0_takeByBarters cX0_takeByBarters 6 ({ frames := 3, cells := 0, slots := 0, locals := 94 }) [.ref a0] (fun H => TH E (tbC (dayD (.inl (0, 18))) (dayD (.inl (0, 18))) (riverD (.inl Fa1) (.inl Fb1) (.inl (0, 4)) 31 33 35 39 43 47) (riverD (.inl Fa2) (.inl Fb2) (.inl (0, 4)) 32 34 36 40 44 48) rc rd tp A14F A14F A4F A4F A14F A14F (riverD (.inl Fa3) (.inl Fb3) (.inl (0, 4)) 3 8 3 41 45 49) (riverD (.inl Fa4) (.inl Fb4) (.inl (0, 4)) 3 8 3 42 46 50) ((.inr (.inl (0, 12, Pd1)))) ((.inr (.inl (0, 12, Pd2)))) ((.inr (.inl (0, 12, Pd3)))) ((.inr (.inl (0, 12, Pd4)))) ((.inr (.inl (0, 12, Ps1)))) ((.inr (.inl (0, 12, Ps2)))) ((.inr (.inl (0, 12, Ps3)))) ((.inr (.inl (0, 12, Ps4)))) ((.inr (.inl (0, 48, Pi1)))) ((.inr (.inl (0, 48, Pi2)))) ((.inr (.inl (0, 48, Pi3)))) ((.inr (.inl (0, 48, Pi4))))) H) (fun H => TH E (tbC (dayD (.inl (0, 18))) (dayD (.inl (0, 18))) (riverD (.inl Fa1) (.inl Fb1) (.inl (0, 4)) 31 33 35 39 43 47) (riverD (.inl Fa2) (.inl Fb2) (.inl (0, 4)) 32 34 36 40 44 48) rc rd tp A14F A14F A4F A4F A14F A14F (riverD (.inl Fa3) (.inl Fb3) (.inl (0, 4)) 3 8 3 41 45 49) (riverD (.inl Fa4) (.inl Fb4) (.inl (0, 4)) 3 8 3 42 46 50) ((.inr (.inl (0, 12, Pd1)))) ((.inr (.inl (0, 12, Pd2)))) ((.inr (.inl (0, 12, Pd3)))) ((.inr (.inl (0, 12, Pd4)))) ((.inr (.inl (0, 12, Ps1)))) ((.inr (.inl (0, 12, Ps2)))) ((.inr (.inl (0, 12, Ps3)))) ((.inr (.inl (0, 12, Ps4)))) ((.inr (.inl (0, 48, Pi1)))) ((.inr (.inl (0, 48, Pi2)))) ((.inr (.inl (0, 48, Pi3)))) ((.inr (.inl (0, 48, Pi4))))) H) := by
  refine teV (by decide) (Nat.le_of_ble_eq_true rfl) ?_
  intro p_ ev_ s mi_ below_ meth cd_ ls F hK hN hO hH hS hl
  have hH : TH E (tbC (dayD (.inl (0, 18))) (dayD (.inl (0, 18))) (riverD (.inl Fa1) (.inl Fb1) (.inl (0, 4)) 31 33 35 39 43 47) (riverD (.inl Fa2) (.inl Fb2) (.inl (0, 4)) 32 34 36 40 44 48) rc rd tp A14F A14F A4F A4F A14F A14F (riverD (.inl Fa3) (.inl Fb3) (.inl (0, 4)) 3 8 3 41 45 49) (riverD (.inl Fa4) (.inl Fb4) (.inl (0, 4)) 3 8 3 42 46 50) ((.inr (.inl (0, 12, Pd1)))) ((.inr (.inl (0, 12, Pd2)))) ((.inr (.inl (0, 12, Pd3)))) ((.inr (.inl (0, 12, Pd4)))) ((.inr (.inl (0, 12, Ps1)))) ((.inr (.inl (0, 12, Ps2)))) ((.inr (.inl (0, 12, Ps3)))) ((.inr (.inl (0, 12, Ps4)))) ((.inr (.inl (0, 48, Pi1)))) ((.inr (.inl (0, 48, Pi2)))) ((.inr (.inl (0, 48, Pi3)))) ((.inr (.inl (0, 48, Pi4))))) s.heap := hH
  have hl : lv_has ls 6 [(0, .ref a0)] := hl
  refine lv_iconst (v := 0) F.1 F.2.1 dX0_takeByBarters_0 (by decide) ?_
  refine topK (a := 0) (by decide) (fun k_1 hk_1 => ?_)
  refine lv_istore_n (lv' := [(1, .int k_1), (0, .ref a0)]) F.1 F.2.1 dX0_takeByBarters_1 rfl hl (by decide) rfl (fun ls hl => ?_)
  refine wloop (σ := Int32) (fun n9 x9 H locs ls => (4 - x9.toInt + 1).toNat < n9 ∧ (0 ≤ x9.toInt ∧ x9.toInt ≤ 4) ∧ TH E (tbC (dayD (.inl (0, 18))) (dayD (.inl (0, 18))) (riverD (.inl Fa1) (.inl Fb1) (.inl (0, 4)) 31 33 35 39 43 47) (riverD (.inl Fa2) (.inl Fb2) (.inl (0, 4)) 32 34 36 40 44 48) rc rd tp A14F A14F A4F A4F A14F A14F (riverD (.inl Fa3) (.inl Fb3) (.inl (0, 4)) 3 8 3 41 45 49) (riverD (.inl Fa4) (.inl Fb4) (.inl (0, 4)) 3 8 3 42 46 50) ((.inr (.inl (0, 12, Pd1)))) ((.inr (.inl (0, 12, Pd2)))) ((.inr (.inl (0, 12, Pd3)))) ((.inr (.inl (0, 12, Pd4)))) ((.inr (.inl (0, 12, Ps1)))) ((.inr (.inl (0, 12, Ps2)))) ((.inr (.inl (0, 12, Ps3)))) ((.inr (.inl (0, 12, Ps4)))) ((.inr (.inl (0, 48, Pi1)))) ((.inr (.inl (0, 48, Pi2)))) ((.inr (.inl (0, 48, Pi3)))) ((.inr (.inl (0, 48, Pi4))))) H ∧ va_S (eA E s.heap.size) s.heap H locs ∧ lv_has ls 6 [(0, .ref a0), (1, .int x9)]) ?_ (fun x9 H locs ls h => absurd h.1 (Nat.not_lt_zero _)) _ (k_1) ⟨Nat.lt_succ_self _, (wkb (eqb hk_1) rfl rfl), hH, hS, lv_sub hl [1, 0] rfl⟩
  intro n_2 ih_2 u_2 H locs ls ⟨hm_2, hu_2, hH, hS, hl⟩
  have hm_2 : (4 - u_2.toInt + 1).toNat < n_2 + 1 := hm_2
  have hu_2 : (0 ≤ u_2.toInt ∧ u_2.toInt ≤ 4) := hu_2
  have hH : TH E (tbC (dayD (.inl (0, 18))) (dayD (.inl (0, 18))) (riverD (.inl Fa1) (.inl Fb1) (.inl (0, 4)) 31 33 35 39 43 47) (riverD (.inl Fa2) (.inl Fb2) (.inl (0, 4)) 32 34 36 40 44 48) rc rd tp A14F A14F A4F A4F A14F A14F (riverD (.inl Fa3) (.inl Fb3) (.inl (0, 4)) 3 8 3 41 45 49) (riverD (.inl Fa4) (.inl Fb4) (.inl (0, 4)) 3 8 3 42 46 50) ((.inr (.inl (0, 12, Pd1)))) ((.inr (.inl (0, 12, Pd2)))) ((.inr (.inl (0, 12, Pd3)))) ((.inr (.inl (0, 12, Pd4)))) ((.inr (.inl (0, 12, Ps1)))) ((.inr (.inl (0, 12, Ps2)))) ((.inr (.inl (0, 12, Ps3)))) ((.inr (.inl (0, 12, Ps4)))) ((.inr (.inl (0, 48, Pi1)))) ((.inr (.inl (0, 48, Pi2)))) ((.inr (.inl (0, 48, Pi3)))) ((.inr (.inl (0, 48, Pi4))))) H := hH
  have hl : lv_has ls 6 [(0, .ref a0), (1, .int u_2)] := hl
  refine lv_iload_n F.1 F.2.1 dX0_takeByBarters_2 rfl (lv_at hl 1 rfl) ?_
  refine lv_aload_n F.1 F.2.1 dX0_takeByBarters_3 rfl (lv_at hl 0 rfl) ?_
  refine tGetR0 (j := 0) F hK hH (tyb ha0 (all2 rfl rfl)) rfl clX0 (by decide) wd_4_23 dX0_takeByBarters_4 (fun q_3 hq_3 => ?_)
  refine tGetIM (j := 14) F hK hH hq_3 (alls ⟨_, rfl, rfl⟩ (alls1 ⟨_, rfl, rfl⟩)) clX2 (by decide) wd_20_6 dX0_takeByBarters_7 (fun z_4 hz_4 => ?_)
  refine b_ge (tgt := 26) F dX0_takeByBarters_10 (by decide) (fun c_5 => ?_) (fun c_5 => ?_)
  · skip
    refine lv_iconst (v := 0) F.1 F.2.1 dX0_takeByBarters_26 (by decide) ?_
    refine topK (a := 0) (by decide) (fun k_8 hk_8 => ?_)
    refine lv_istore_n (lv' := [(1, .int k_8), (0, .ref a0)]) F.1 F.2.1 dX0_takeByBarters_27 rfl hl (by decide) rfl (fun ls hl => ?_)
    refine wloop (σ := Int32) (fun n9 x9 H locs ls => (14 - x9.toInt + 1).toNat < n9 ∧ (0 ≤ x9.toInt ∧ x9.toInt ≤ 14) ∧ TH E (tbC (dayD (.inl (0, 18))) (dayD (.inl (0, 18))) (riverD (.inl Fa1) (.inl Fb1) (.inl (0, 4)) 31 33 35 39 43 47) (riverD (.inl Fa2) (.inl Fb2) (.inl (0, 4)) 32 34 36 40 44 48) rc rd tp A14F A14F A4F A4F A14F A14F (riverD (.inl Fa3) (.inl Fb3) (.inl (0, 4)) 3 8 3 41 45 49) (riverD (.inl Fa4) (.inl Fb4) (.inl (0, 4)) 3 8 3 42 46 50) ((.inr (.inl (0, 12, Pd1)))) ((.inr (.inl (0, 12, Pd2)))) ((.inr (.inl (0, 12, Pd3)))) ((.inr (.inl (0, 12, Pd4)))) ((.inr (.inl (0, 12, Ps1)))) ((.inr (.inl (0, 12, Ps2)))) ((.inr (.inl (0, 12, Ps3)))) ((.inr (.inl (0, 12, Ps4)))) ((.inr (.inl (0, 48, Pi1)))) ((.inr (.inl (0, 48, Pi2)))) ((.inr (.inl (0, 48, Pi3)))) ((.inr (.inl (0, 48, Pi4))))) H ∧ va_S (eA E s.heap.size) s.heap H locs ∧ lv_has ls 6 [(0, .ref a0), (1, .int x9)]) ?_ (fun x9 H locs ls h => absurd h.1 (Nat.not_lt_zero _)) _ (k_8) ⟨Nat.lt_succ_self _, (wkb (eqb hk_8) rfl rfl), hH, hS, lv_sub hl [1, 0] rfl⟩
    intro n_28 ih_28 u_9 H locs ls ⟨hm_28, hu_9, hH, hS, hl⟩
    have hm_28 : (14 - u_9.toInt + 1).toNat < n_28 + 1 := hm_28
    have hu_9 : (0 ≤ u_9.toInt ∧ u_9.toInt ≤ 14) := hu_9
    have hH : TH E (tbC (dayD (.inl (0, 18))) (dayD (.inl (0, 18))) (riverD (.inl Fa1) (.inl Fb1) (.inl (0, 4)) 31 33 35 39 43 47) (riverD (.inl Fa2) (.inl Fb2) (.inl (0, 4)) 32 34 36 40 44 48) rc rd tp A14F A14F A4F A4F A14F A14F (riverD (.inl Fa3) (.inl Fb3) (.inl (0, 4)) 3 8 3 41 45 49) (riverD (.inl Fa4) (.inl Fb4) (.inl (0, 4)) 3 8 3 42 46 50) ((.inr (.inl (0, 12, Pd1)))) ((.inr (.inl (0, 12, Pd2)))) ((.inr (.inl (0, 12, Pd3)))) ((.inr (.inl (0, 12, Pd4)))) ((.inr (.inl (0, 12, Ps1)))) ((.inr (.inl (0, 12, Ps2)))) ((.inr (.inl (0, 12, Ps3)))) ((.inr (.inl (0, 12, Ps4)))) ((.inr (.inl (0, 48, Pi1)))) ((.inr (.inl (0, 48, Pi2)))) ((.inr (.inl (0, 48, Pi3)))) ((.inr (.inl (0, 48, Pi4))))) H := hH
    have hl : lv_has ls 6 [(0, .ref a0), (1, .int u_9)] := hl
    refine lv_iload_n F.1 F.2.1 dX0_takeByBarters_28 rfl (lv_at hl 1 rfl) ?_
    refine lv_aload_n F.1 F.2.1 dX0_takeByBarters_29 rfl (lv_at hl 0 rfl) ?_
    refine tGetR0 (j := 0) F hK hH (tyb ha0 (all2 rfl rfl)) rfl clX0 (by decide) wd_4_23 dX0_takeByBarters_30 (fun q_10 hq_10 => ?_)
    refine tGetIB (j := 4) (lo := 0) (hi := 14) F hK hH hq_10 (alls ⟨_, _, rfl, rfl, by have h9_ := hFb1; omega⟩ (alls1 ⟨_, _, rfl, rfl, by have h9_ := hFb2; omega⟩)) clX2 (by decide) wd_20_4 dX0_takeByBarters_33 (fun z_11 hz_11 => ?_)
    refine b_ge (tgt := 169) F dX0_takeByBarters_36 (by decide) (fun c_12 => ?_) (fun c_12 => ?_)
    · skip
      exact txV F hS dX0_takeByBarters_169 (hH)
    · skip
      have r_13 : 0 ≤ u_9.toInt ∧ u_9.toInt ≤ 13 := by have h9_ := hu_9; omega
      have r_14 : 1 ≤ z_11.toInt ∧ z_11.toInt ≤ 14 := by have h9_ := hz_11; omega
      refine lv_aload_n F.1 F.2.1 dX0_takeByBarters_39 rfl (lv_at hl 0 rfl) ?_
      refine tGetR (j := 1) F hK hH (tyb ha0 (all2 rfl rfl)) rfl (all1 rfl) clX0 (by decide) wd_5_0 dX0_takeByBarters_40 (fun q_15 hq_15 _ => ?_)
      refine tGetR (j := 6) F hK hH (tyb hq_15 (all1 rfl)) rfl (all1 rfl) clX5 (by decide) wd_24_0 dX0_takeByBarters_43 (fun q_16 hq_16 _ => ?_)
      refine lv_iload_n F.1 F.2.1 dX0_takeByBarters_46 rfl (lv_at hl 1 rfl) ?_
      refine tIaldB F hK hH (tyb hq_16 (all1 rfl)) (ixb (n := 14) r_13 rfl rfl) dX0_takeByBarters_47 (fun z_17 hz_17 => ?_)
      refine lv_istore_n (lv' := [(2, .int z_17), (0, .ref a0), (1, .int u_9)]) F.1 F.2.1 dX0_takeByBarters_48 rfl hl (by decide) rfl (fun ls hl => ?_)
      refine lv_iload_n F.1 F.2.1 dX0_takeByBarters_49 rfl (lv_at hl 0 rfl) ?_
      refine z_lt (tgt := 163) F dX0_takeByBarters_50 (by decide) (fun c_18 => ?_) (fun c_18 => ?_)
      · skip
        have r_19 : (-2) ≤ z_17.toInt ∧ z_17.toInt ≤ (-1) := by have h9_ := hz_17; omega
        obtain ⟨x_21, ex_21, hx_21⟩ := iincB (c := 1) (lo := 1) (hi := 14) r_13 rfl
        refine lv_iinc (v := x_21) (lv' := [(1, .int x_21), (2, .int z_17), (0, .ref a0)]) F.1 F.2.1 dX0_takeByBarters_163 hl (k := 2) rfl ex_21 (by decide) rfl (fun ls hl => ?_)
        refine lv_goto (tgt := 28) F.1 F.2.1 dX0_takeByBarters_166 (by decide) ?_
        exact ih_28 (x_21) _ _ _ ⟨(show (14 - x_21.toInt + 1).toNat < n_28 from by omega), (wkb hx_21.2 rfl rfl), hH, hS, lv_sub hl [2, 0] rfl⟩
      · skip
        have r_20 : 0 ≤ z_17.toInt ∧ z_17.toInt ≤ 3 := by have h9_ := hz_17; omega
        refine lv_aload_n F.1 F.2.1 dX0_takeByBarters_53 rfl (lv_at hl 1 rfl) ?_
        refine tGetR0 (j := 0) F hK hH (tyb ha0 (all2 rfl rfl)) rfl clX0 (by decide) wd_4_23 dX0_takeByBarters_54 (fun q_22 hq_22 => ?_)
        refine lv_aload_n F.1 F.2.1 dX0_takeByBarters_57 rfl (lv_at hl 1 rfl) ?_
        refine tGetR (j := 4) F hK hH (tyb ha0 (all2 rfl rfl)) rfl (all1 rfl) clX0 (by decide) wd_4_13 dX0_takeByBarters_58 (fun q_23 hq_23 _ => ?_)
        refine lv_iload_n F.1 F.2.1 dX0_takeByBarters_61 rfl (lv_at hl 2 rfl) ?_
        refine tIaldB F hK hH (tyb hq_23 (all1 rfl)) (ixb (n := 18) r_13 rfl rfl) dX0_takeByBarters_62 (fun z_24 hz_24 => ?_)
        refine lv_aload_n F.1 F.2.1 dX0_takeByBarters_63 rfl (lv_at hl 1 rfl) ?_
        refine tGetR0 (j := 0) F hK hH (tyb ha0 (all2 rfl rfl)) rfl clX0 (by decide) wd_4_23 dX0_takeByBarters_64 (fun q_25 hq_25 => ?_)
        refine tGetRM (j := 15) (L := [9]) F hK hH hq_25 (alls ⟨_, _, rfl, rfl, by decide⟩ (alls1 ⟨_, _, rfl, rfl, by decide⟩)) (all1 rfl) clX2 (by decide) wd_20_7 dX0_takeByBarters_67 (fun q_26 hq_26 _ => ?_)
        refine lv_iload_n F.1 F.2.1 dX0_takeByBarters_70 rfl (lv_at hl 0 rfl) ?_
        refine tIaldB F hK hH (tyb hq_26 (all1 rfl)) (ixb (n := 4) r_20 rfl rfl) dX0_takeByBarters_71 (fun z_27 hz_27 => ?_)
        refine tVi (b := q_22) (As := [.int z_24, .int z_27]) (rest := []) F hK hN hO (c_X2_runsTo E (dayD (.inl (0, 18))) (dayD (.inl (0, 18))) rc rd tp Fa1 Fb1 Fa2 Fb2 Fa3 Fb3 Fa4 Fb4 Pd1 Pd2 Pd3 Pd4 Ps1 Ps2 Ps3 Ps4 Pi1 Pi2 Pi3 Pi4 q_22 z_24 z_27 (by have h9_ := hq_22; simp at h9_ ⊢; omega) (wkb hz_24 rfl rfl) hFa1 hFb1 hFa2 hFb2 hFa3 hFb3 hFa4 hFb4 hPd1 hPd2 hPd3 hPd4 hPs1 hPs2 hPs3 hPs4 hPi1 hPi2 hPi3 hPi4) mv_X2_runsTo wd_23_8 ⟨Nat.le_of_ble_eq_true rfl, Nat.le_of_ble_eq_true rfl⟩ ⟨Nat.le_of_ble_eq_true rfl, Nat.le_of_ble_eq_true rfl⟩ hH hS (tRecvM hK hH hq_22 (alls ⟨_, rfl⟩ (alls1 ⟨_, rfl⟩)) clX2) rfl hl.1 (Nat.le_of_ble_eq_true rfl) dX0_takeByBarters_72 (fun z_28 H locs hq hS => ?_)
        obtain ⟨f_29, hH⟩ := hq
        have hH : TH E (tbC (dayD (.inl (0, 18))) (dayD (.inl (0, 18))) (riverD (.inl Fa1) (.inl Fb1) (.inl (0, 4)) 31 33 35 39 43 47) (riverD (.inl Fa2) (.inl Fb2) (.inl (0, 4)) 32 34 36 40 44 48) rc rd tp A14F A14F A4F A4F A14F A14F (riverD (.inl Fa3) (.inl Fb3) (.inl (0, 4)) 3 8 3 41 45 49) (riverD (.inl Fa4) (.inl Fb4) (.inl (0, 4)) 3 8 3 42 46 50) ((.inr (.inl (0, 12, Pd1)))) ((.inr (.inl (0, 12, Pd2)))) ((.inr (.inl (0, 12, Pd3)))) ((.inr (.inl (0, 12, Pd4)))) ((.inr (.inl (0, 12, Ps1)))) ((.inr (.inl (0, 12, Ps2)))) ((.inr (.inl (0, 12, Ps3)))) ((.inr (.inl (0, 12, Ps4)))) ((.inr (.inl (0, 48, Pi1)))) ((.inr (.inl (0, 48, Pi2)))) ((.inr (.inl (0, 48, Pi3)))) ((.inr (.inl (0, 48, Pi4))))) H := hH
        refine z_eq (tgt := 163) F dX0_takeByBarters_75 (by decide) (fun c_30 => ?_) (fun c_30 => ?_)
        · skip
          have r_31 : 0 ≤ z_28.toInt ∧ z_28.toInt ≤ 0 := by have h9_ := f_29; omega
          obtain ⟨x_33, ex_33, hx_33⟩ := iincB (c := 1) (lo := 1) (hi := 14) r_13 rfl
          refine lv_iinc (v := x_33) (lv' := [(1, .int x_33), (2, .int z_17), (0, .ref a0)]) F.1 F.2.1 dX0_takeByBarters_163 hl (k := 2) rfl ex_33 (by decide) rfl (fun ls hl => ?_)
          refine lv_goto (tgt := 28) F.1 F.2.1 dX0_takeByBarters_166 (by decide) ?_
          exact ih_28 (x_33) _ _ _ ⟨(show (14 - x_33.toInt + 1).toNat < n_28 from by omega), (wkb hx_33.2 rfl rfl), hH, hS, lv_sub hl [2, 0] rfl⟩
        · skip
          have r_32 : 1 ≤ z_28.toInt ∧ z_28.toInt ≤ 1 := by have h9_ := f_29; omega
          refine lv_aload_n F.1 F.2.1 dX0_takeByBarters_78 rfl (lv_at hl 1 rfl) ?_
          refine tGetR (j := 1) F hK hH (tyb ha0 (all2 rfl rfl)) rfl (all1 rfl) clX0 (by decide) wd_5_0 dX0_takeByBarters_79 (fun q_34 hq_34 _ => ?_)
          refine tGetR (j := 8) F hK hH (tyb hq_34 (all1 rfl)) rfl (all1 rfl) clX5 (by decide) wd_21_4 dX0_takeByBarters_82 (fun q_35 hq_35 _ => ?_)
          refine lv_iload_n F.1 F.2.1 dX0_takeByBarters_85 rfl (lv_at hl 0 rfl) ?_
          refine tIaldB F hK hH (tyb hq_35 (all1 rfl)) (ixb (n := 4) r_20 rfl rfl) dX0_takeByBarters_86 (fun z_36 hz_36 => ?_)
          refine lv_aload_n F.1 F.2.1 dX0_takeByBarters_87 rfl (lv_at hl 1 rfl) ?_
          refine tGetR (j := 11) F hK hH (tyb ha0 (all2 rfl rfl)) rfl (all1 rfl) clX0 (by decide) wd_4_20 dX0_takeByBarters_88 (fun q_37 hq_37 _ => ?_)
          refine lv_iload_n F.1 F.2.1 dX0_takeByBarters_91 rfl (lv_at hl 0 rfl) ?_
          refine tIaldB F hK hH (tyb hq_37 (all1 rfl)) (ixb (n := 4) r_20 rfl rfl) dX0_takeByBarters_92 (fun z_38 hz_38 => ?_)
          refine lv_isub F.1 F.2.1 dX0_takeByBarters_93 ?_
          refine topF (fun z_39 => ?_)
          refine lv_aload_n F.1 F.2.1 dX0_takeByBarters_94 rfl (lv_at hl 1 rfl) ?_
          refine tGetR (j := 12) F hK hH (tyb ha0 (all2 rfl rfl)) rfl (all1 rfl) clX0 (by decide) wd_4_21 dX0_takeByBarters_95 (fun q_40 hq_40 _ => ?_)
          refine lv_iload_n F.1 F.2.1 dX0_takeByBarters_98 rfl (lv_at hl 0 rfl) ?_
          refine tIaldB F hK hH (tyb hq_40 (all1 rfl)) (ixb (n := 4) r_20 rfl rfl) dX0_takeByBarters_99 (fun z_41 hz_41 => ?_)
          refine lv_isub F.1 F.2.1 dX0_takeByBarters_100 ?_
          refine topF (fun z_42 => ?_)
          refine lv_istore_n (lv' := [(3, .int z_42), (2, .int z_17), (0, .ref a0), (1, .int u_9)]) F.1 F.2.1 dX0_takeByBarters_101 rfl hl (by decide) rfl (fun ls hl => ?_)
          refine lv_aload_n F.1 F.2.1 dX0_takeByBarters_102 rfl (lv_at hl 2 rfl) ?_
          refine tGetR0 (j := 0) F hK hH (tyb ha0 (all2 rfl rfl)) rfl clX0 (by decide) wd_4_23 dX0_takeByBarters_103 (fun q_43 hq_43 => ?_)
          refine tGetRM (j := 15) (L := [9]) F hK hH hq_43 (alls ⟨_, _, rfl, rfl, by decide⟩ (alls1 ⟨_, _, rfl, rfl, by decide⟩)) (all1 rfl) clX2 (by decide) wd_20_7 dX0_takeByBarters_106 (fun q_44 hq_44 _ => ?_)
          refine lv_iload_n F.1 F.2.1 dX0_takeByBarters_109 rfl (lv_at hl 1 rfl) ?_
          refine tIaldB F hK hH (tyb hq_44 (all1 rfl)) (ixb (n := 4) r_20 rfl rfl) dX0_takeByBarters_110 (fun z_45 hz_45 => ?_)
          refine lv_istore (lv' := [(4, .int z_45), (3, .int z_42), (2, .int z_17), (0, .ref a0), (1, .int u_9)]) F.1 F.2.1 dX0_takeByBarters_111 hl (by decide) rfl (fun ls hl => ?_)
          refine lv_aload_n F.1 F.2.1 dX0_takeByBarters_113 rfl (lv_at hl 3 rfl) ?_
          refine lv_aload_n F.1 F.2.1 dX0_takeByBarters_114 rfl (lv_at hl 3 rfl) ?_
          refine tGetR (j := 4) F hK hH (tyb ha0 (all2 rfl rfl)) rfl (all1 rfl) clX0 (by decide) wd_4_13 dX0_takeByBarters_115 (fun q_46 hq_46 _ => ?_)
          refine lv_iload_n F.1 F.2.1 dX0_takeByBarters_118 rfl (lv_at hl 4 rfl) ?_
          refine tIaldB F hK hH (tyb hq_46 (all1 rfl)) (ixb (n := 18) r_13 rfl rfl) dX0_takeByBarters_119 (fun z_47 hz_47 => ?_)
          refine lv_iload_n F.1 F.2.1 dX0_takeByBarters_120 rfl (lv_at hl 1 rfl) ?_
          refine lv_aload_n F.1 F.2.1 dX0_takeByBarters_121 rfl (lv_at hl 3 rfl) ?_
          refine lv_iload_n F.1 F.2.1 dX0_takeByBarters_122 rfl (lv_at hl 4 rfl) ?_
          refine tVi (b := a0) (As := [.int u_9]) (rest := [.int z_42, .int z_47, .ref a0]) F hK hN hO (c_X0_missing E rc rd tp Fa1 Fb1 Fa2 Fb2 Fa3 Fb3 Fa4 Fb4 Pd1 Pd2 Pd3 Pd4 Ps1 Ps2 Ps3 Ps4 Pi1 Pi2 Pi3 Pi4 a0 u_9 ha0 r_13 hFa1 hFb1 hFa2 hFb2 hFa3 hFb3 hFa4 hFb4 hPd1 hPd2 hPd3 hPd4 hPs1 hPs2 hPs3 hPs4 hPi1 hPi2 hPi3 hPi4) mv_X0_missing wd_23_12 ⟨Nat.le_of_ble_eq_true rfl, Nat.le_of_ble_eq_true rfl⟩ ⟨Nat.le_of_ble_eq_true rfl, Nat.le_of_ble_eq_true rfl⟩ hH hS (tRecv hK hH (tyb ha0 (all2 rfl rfl)) clX0) rfl hl.1 (Nat.le_of_ble_eq_true rfl) dX0_takeByBarters_123 (fun z_48 H locs hq hS => ?_)
          obtain ⟨f_49, hH⟩ := hq
          have hH : TH E (tbC (dayD (.inl (0, 18))) (dayD (.inl (0, 18))) (riverD (.inl Fa1) (.inl Fb1) (.inl (0, 4)) 31 33 35 39 43 47) (riverD (.inl Fa2) (.inl Fb2) (.inl (0, 4)) 32 34 36 40 44 48) rc rd tp A14F A14F A4F A4F A14F A14F (riverD (.inl Fa3) (.inl Fb3) (.inl (0, 4)) 3 8 3 41 45 49) (riverD (.inl Fa4) (.inl Fb4) (.inl (0, 4)) 3 8 3 42 46 50) ((.inr (.inl (0, 12, Pd1)))) ((.inr (.inl (0, 12, Pd2)))) ((.inr (.inl (0, 12, Pd3)))) ((.inr (.inl (0, 12, Pd4)))) ((.inr (.inl (0, 12, Ps1)))) ((.inr (.inl (0, 12, Ps2)))) ((.inr (.inl (0, 12, Ps3)))) ((.inr (.inl (0, 12, Ps4)))) ((.inr (.inl (0, 48, Pi1)))) ((.inr (.inl (0, 48, Pi2)))) ((.inr (.inl (0, 48, Pi3)))) ((.inr (.inl (0, 48, Pi4))))) H := hH
          refine tMin (lo := (-2147483648)) (hi := 2147483647) F wd_21_5 wd_9_0 wd_9_1 wd_9_2 hl.1 (Nat.le_of_ble_eq_true rfl) (Nat.le_of_ble_eq_true rfl) (Nat.le_of_ble_eq_true rfl) (Nat.le_of_ble_eq_true rfl) dX0_takeByBarters_126 (i32b _) f_49 rfl (fun z_50 hz_50 => ?_)
          refine lv_iload F.1 F.2.1 dX0_takeByBarters_129 (lv_at hl 0 rfl) ?_
          refine tVi (b := a0) (As := [.int z_47, .int z_50, .int z_45]) (rest := []) F hK hN hO (c_X0_takeMost E rc rd tp Fa1 Fb1 Fa2 Fb2 Fa3 Fb3 Fa4 Fb4 Pd1 Pd2 Pd3 Pd4 Ps1 Ps2 Ps3 Ps4 Pi1 Pi2 Pi3 Pi4 a0 z_47 z_50 z_45 ha0 hz_47 hFa1 hFb1 hFa2 hFb2 hFa3 hFb3 hFa4 hFb4 hPd1 hPd2 hPd3 hPd4 hPs1 hPs2 hPs3 hPs4 hPi1 hPi2 hPi3 hPi4) mv_X0_takeMost wd_22_18 ⟨Nat.le_of_ble_eq_true rfl, Nat.le_of_ble_eq_true rfl⟩ ⟨Nat.le_of_ble_eq_true rfl, Nat.le_of_ble_eq_true rfl⟩ hH hS (tRecv hK hH (tyb ha0 (all2 rfl rfl)) clX0) rfl hl.1 (Nat.le_of_ble_eq_true rfl) dX0_takeByBarters_131 (fun z_51 H locs hq hS => ?_)
          obtain ⟨f_52, hH⟩ := hq
          have hH : TH E (tbC (dayD (.inl (0, 18))) (dayD (.inl (0, 18))) (riverD (.inl Fa1) (.inl Fb1) (.inl (0, 4)) 31 33 35 39 43 47) (riverD (.inl Fa2) (.inl Fb2) (.inl (0, 4)) 32 34 36 40 44 48) rc rd tp A14F A14F A4F A4F A14F A14F (riverD (.inl Fa3) (.inl Fb3) (.inl (0, 4)) 3 8 3 41 45 49) (riverD (.inl Fa4) (.inl Fb4) (.inl (0, 4)) 3 8 3 42 46 50) ((.inr (.inl (0, 12, Pd1)))) ((.inr (.inl (0, 12, Pd2)))) ((.inr (.inl (0, 12, Pd3)))) ((.inr (.inl (0, 12, Pd4)))) ((.inr (.inl (0, 12, Ps1)))) ((.inr (.inl (0, 12, Ps2)))) ((.inr (.inl (0, 12, Ps3)))) ((.inr (.inl (0, 12, Ps4)))) ((.inr (.inl (0, 48, Pi1)))) ((.inr (.inl (0, 48, Pi2)))) ((.inr (.inl (0, 48, Pi3)))) ((.inr (.inl (0, 48, Pi4))))) H := hH
          refine lv_istore (lv' := [(5, .int z_51), (4, .int z_45), (3, .int z_42), (2, .int z_17), (0, .ref a0), (1, .int u_9)]) F.1 F.2.1 dX0_takeByBarters_134 hl (by decide) rfl (fun ls hl => ?_)
          refine lv_aload_n F.1 F.2.1 dX0_takeByBarters_136 rfl (lv_at hl 4 rfl) ?_
          refine lv_iload F.1 F.2.1 dX0_takeByBarters_137 (lv_at hl 1 rfl) ?_
          refine lv_iload F.1 F.2.1 dX0_takeByBarters_139 (lv_at hl 0 rfl) ?_
          refine tVv (b := a0) (As := [.int z_45, .int z_51]) (rest := []) F hK hN hO (c_X0_change E rc rd tp Fa1 Fb1 Fa2 Fb2 Fa3 Fb3 Fa4 Fb4 Pd1 Pd2 Pd3 Pd4 Ps1 Ps2 Ps3 Ps4 Pi1 Pi2 Pi3 Pi4 a0 z_45 z_51 ha0 hz_45 hFa1 hFb1 hFa2 hFb2 hFa3 hFb3 hFa4 hFb4 hPd1 hPd2 hPd3 hPd4 hPs1 hPs2 hPs3 hPs4 hPi1 hPi2 hPi3 hPi4) mv_X0_change wd_22_22 ⟨Nat.le_of_ble_eq_true rfl, Nat.le_of_ble_eq_true rfl⟩ ⟨Nat.le_of_ble_eq_true rfl, Nat.le_of_ble_eq_true rfl⟩ hH hS (tRecv hK hH (tyb ha0 (all2 rfl rfl)) clX0) rfl hl.1 (Nat.le_of_ble_eq_true rfl) dX0_takeByBarters_141 (fun H locs hq hS => ?_)
          have hH := hq
          have hH : TH E (tbC (dayD (.inl (0, 18))) (dayD (.inl (0, 18))) (riverD (.inl Fa1) (.inl Fb1) (.inl (0, 4)) 31 33 35 39 43 47) (riverD (.inl Fa2) (.inl Fb2) (.inl (0, 4)) 32 34 36 40 44 48) rc rd tp A14F A14F A4F A4F A14F A14F (riverD (.inl Fa3) (.inl Fb3) (.inl (0, 4)) 3 8 3 41 45 49) (riverD (.inl Fa4) (.inl Fb4) (.inl (0, 4)) 3 8 3 42 46 50) ((.inr (.inl (0, 12, Pd1)))) ((.inr (.inl (0, 12, Pd2)))) ((.inr (.inl (0, 12, Pd3)))) ((.inr (.inl (0, 12, Pd4)))) ((.inr (.inl (0, 12, Ps1)))) ((.inr (.inl (0, 12, Ps2)))) ((.inr (.inl (0, 12, Ps3)))) ((.inr (.inl (0, 12, Ps4)))) ((.inr (.inl (0, 48, Pi1)))) ((.inr (.inl (0, 48, Pi2)))) ((.inr (.inl (0, 48, Pi3)))) ((.inr (.inl (0, 48, Pi4))))) H := hH
          refine lv_aload_n F.1 F.2.1 dX0_takeByBarters_144 rfl (lv_at hl 4 rfl) ?_
          refine tGetR (j := 12) F hK hH (tyb ha0 (all2 rfl rfl)) rfl (all1 rfl) clX0 (by decide) wd_4_21 dX0_takeByBarters_145 (fun q_54 hq_54 _ => ?_)
          refine lv_iload_n F.1 F.2.1 dX0_takeByBarters_148 rfl (lv_at hl 3 rfl) ?_
          refine lv_dup2_11 F.1 F.2.1 dX0_takeByBarters_149 rfl rfl ?_
          refine tIaldB F hK hH (tyb hq_54 (all1 rfl)) (ixb (n := 4) r_20 rfl rfl) dX0_takeByBarters_150 (fun z_55 hz_55 => ?_)
          refine lv_iload F.1 F.2.1 dX0_takeByBarters_151 (lv_at hl 0 rfl) ?_
          refine lv_iadd F.1 F.2.1 dX0_takeByBarters_153 ?_
          refine topF (fun z_56 => ?_)
          refine tIastB F hK hH hS (tyb hq_54 (all1 rfl)) (ixb (n := 4) r_20 rfl rfl) (i32b _) dX0_takeByBarters_154 (fun H locs hH hS => ?_)
          refine lv_aload_n F.1 F.2.1 dX0_takeByBarters_155 rfl (lv_at hl 4 rfl) ?_
          refine tGetR (j := 10) F hK hH (tyb ha0 (all2 rfl rfl)) rfl (all1 rfl) clX0 (by decide) wd_4_19 dX0_takeByBarters_156 (fun q_57 hq_57 _ => ?_)
          refine lv_iload_n F.1 F.2.1 dX0_takeByBarters_159 rfl (lv_at hl 5 rfl) ?_
          refine lv_iload F.1 F.2.1 dX0_takeByBarters_160 (lv_at hl 0 rfl) ?_
          refine tIastB F hK hH hS (tyb hq_57 (all1 rfl)) (ixb (n := 14) r_13 rfl rfl) f_52 dX0_takeByBarters_162 (fun H locs hH hS => ?_)
          obtain ⟨x_58, ex_58, hx_58⟩ := iincB (c := 1) (lo := 1) (hi := 14) r_13 rfl
          refine lv_iinc (v := x_58) (lv' := [(1, .int x_58), (5, .int z_51), (4, .int z_45), (3, .int z_42), (2, .int z_17), (0, .ref a0)]) F.1 F.2.1 dX0_takeByBarters_163 hl (k := 5) rfl ex_58 (by decide) rfl (fun ls hl => ?_)
          refine lv_goto (tgt := 28) F.1 F.2.1 dX0_takeByBarters_166 (by decide) ?_
          exact ih_28 (x_58) _ _ _ ⟨(show (14 - x_58.toInt + 1).toNat < n_28 from by omega), (wkb hx_58.2 rfl rfl), hH, hS, lv_sub hl [5, 0] rfl⟩
  · skip
    have r_6 : 0 ≤ u_2.toInt ∧ u_2.toInt ≤ 3 := by have h9_ := hu_2; omega
    have r_7 : 1 ≤ z_4.toInt ∧ z_4.toInt ≤ 4 := by have h9_ := hz_4; omega
    refine lv_aload_n F.1 F.2.1 dX0_takeByBarters_13 rfl (lv_at hl 0 rfl) ?_
    refine tGetR (j := 12) F hK hH (tyb ha0 (all2 rfl rfl)) rfl (all1 rfl) clX0 (by decide) wd_4_21 dX0_takeByBarters_14 (fun q_59 hq_59 _ => ?_)
    refine lv_iload_n F.1 F.2.1 dX0_takeByBarters_17 rfl (lv_at hl 1 rfl) ?_
    refine lv_iconst (v := 0) F.1 F.2.1 dX0_takeByBarters_18 (by decide) ?_
    refine topK (a := 0) (by decide) (fun k_60 hk_60 => ?_)
    refine tIastB F hK hH hS (tyb hq_59 (all1 rfl)) (ixb (n := 4) r_6 rfl rfl) (wkb (eqb hk_60) rfl rfl) dX0_takeByBarters_19 (fun H locs hH hS => ?_)
    obtain ⟨x_61, ex_61, hx_61⟩ := iincB (c := 1) (lo := 1) (hi := 4) r_6 rfl
    refine lv_iinc (v := x_61) (lv' := [(1, .int x_61), (0, .ref a0)]) F.1 F.2.1 dX0_takeByBarters_20 hl (k := 1) rfl ex_61 (by decide) rfl (fun ls hl => ?_)
    refine lv_goto (tgt := 2) F.1 F.2.1 dX0_takeByBarters_23 (by decide) ?_
    exact ih_2 (x_61) _ _ _ ⟨(show (4 - x_61.toInt + 1).toNat < n_2 from by omega), (wkb hx_61.2 rfl rfl), hH, hS, lv_sub hl [1, 0] rfl⟩
set_option maxHeartbeats 4000000 in
set_option maxRecDepth 100000 in
theorem c_X0_work (E : Ev) (rc : TD) (rd : TD) (tp : TD) (Fa1 : Int × Int) (Fb1 : Int × Int) (Fa2 : Int × Int) (Fb2 : Int × Int) (Fa3 : Int × Int) (Fb3 : Int × Int) (Fa4 : Int × Int) (Fb4 : Int × Int) (Pd1 : (Nat → Int32) → Prop) (Pd2 : (Nat → Int32) → Prop) (Pd3 : (Nat → Int32) → Prop) (Pd4 : (Nat → Int32) → Prop) (Ps1 : (Nat → Int32) → Prop) (Ps2 : (Nat → Int32) → Prop) (Ps3 : (Nat → Int32) → Prop) (Ps4 : (Nat → Int32) → Prop) (Pi1 : (Nat → Int32) → Prop) (Pi2 : (Nat → Int32) → Prop) (Pi3 : (Nat → Int32) → Prop) (Pi4 : (Nat → Int32) → Prop) (a0 : Nat) (ha0 : eT E a0 ∈ [24, 25]) (hFa1 : 0 ≤ Fa1.1 ∧ Fa1.2 ≤ 12) (hFb1 : 0 ≤ Fb1.1 ∧ Fb1.2 ≤ 14) (hFa2 : 0 ≤ Fa2.1 ∧ Fa2.2 ≤ 12) (hFb2 : 0 ≤ Fb2.1 ∧ Fb2.2 ≤ 14) (hFa3 : 0 ≤ Fa3.1 ∧ Fa3.2 ≤ 12) (hFb3 : 0 ≤ Fb3.1 ∧ Fb3.2 ≤ 14) (hFa4 : 0 ≤ Fa4.1 ∧ Fa4.2 ≤ 12) (hFb4 : 0 ≤ Fb4.1 ∧ Fb4.2 ≤ 14) (hPd1 : ∀ f, Pd1 f → ivP 12 (-2) 11 f) (hPd2 : ∀ f, Pd2 f → ivP 12 (-2) 11 f) (hPd3 : ∀ f, Pd3 f → ivP 12 (-2) 11 f) (hPd4 : ∀ f, Pd4 f → ivP 12 (-2) 11 f) (hPs1 : ∀ f, Ps1 f → ivP 12 (-2147483648) 2147483647 f) (hPs2 : ∀ f, Ps2 f → ivP 12 (-2147483648) 2147483647 f) (hPs3 : ∀ f, Ps3 f → ivP 12 (-2147483648) 2147483647 f) (hPs4 : ∀ f, Ps4 f → ivP 12 (-2147483648) 2147483647 f) (hPi1 : ∀ f, Pi1 f → ivP 48 (-2147483648) 2147483647 f) (hPi2 : ∀ f, Pi2 f → ivP 48 (-2147483648) 2147483647 f) (hPi3 : ∀ f, Pi3 f → ivP 48 (-2147483648) 2147483647 f) (hPi4 : ∀ f, Pi4 f → ivP 48 (-2147483648) 2147483647 f) : TcV E yX0_work cX0_work 1 ({ frames := 4, cells := 0, slots := 0, locals := 119 }) [.ref a0] (fun H => TH E (tbC (dayD (.inl (0, 18))) (dayD (.inl (0, 18))) (riverD (.inl Fa1) (.inl Fb1) (.inl (0, 4)) 31 33 35 39 43 47) (riverD (.inl Fa2) (.inl Fb2) (.inl (0, 4)) 32 34 36 40 44 48) rc rd tp A14F A14F A4F A4F A14F A14F (riverD (.inl Fa3) (.inl Fb3) (.inl (0, 4)) 3 8 3 41 45 49) (riverD (.inl Fa4) (.inl Fb4) (.inl (0, 4)) 3 8 3 42 46 50) ((.inr (.inl (0, 12, Pd1)))) ((.inr (.inl (0, 12, Pd2)))) ((.inr (.inl (0, 12, Pd3)))) ((.inr (.inl (0, 12, Pd4)))) ((.inr (.inl (0, 12, Ps1)))) ((.inr (.inl (0, 12, Ps2)))) ((.inr (.inl (0, 12, Ps3)))) ((.inr (.inl (0, 12, Ps4)))) ((.inr (.inl (0, 48, Pi1)))) ((.inr (.inl (0, 48, Pi2)))) ((.inr (.inl (0, 48, Pi3)))) ((.inr (.inl (0, 48, Pi4))))) H) (fun H => TH E (tbC (dayD (.inl (0, 18))) (dayD (.inl (0, 18))) (riverD (.inl Fa1) (.inl Fb1) (.inl (0, 4)) 31 33 35 39 43 47) (riverD (.inl Fa2) (.inl Fb2) (.inl (0, 4)) 32 34 36 40 44 48) rc rd tp A14F A14F A4F A4F A14F A14F (riverD (.inl Fa3) (.inl Fb3) (.inl (0, 4)) 3 8 3 41 45 49) (riverD (.inl Fa4) (.inl Fb4) (.inl (0, 4)) 3 8 3 42 46 50) ((.inr (.inl (0, 12, Pd1)))) ((.inr (.inl (0, 12, Pd2)))) ((.inr (.inl (0, 12, Pd3)))) ((.inr (.inl (0, 12, Pd4)))) ((.inr (.inl (0, 12, Ps1)))) ((.inr (.inl (0, 12, Ps2)))) ((.inr (.inl (0, 12, Ps3)))) ((.inr (.inl (0, 12, Ps4)))) ((.inr (.inl (0, 48, Pi1)))) ((.inr (.inl (0, 48, Pi2)))) ((.inr (.inl (0, 48, Pi3)))) ((.inr (.inl (0, 48, Pi4))))) H) := by
  refine teV (by decide) (Nat.le_of_ble_eq_true rfl) ?_
  intro p_ ev_ s mi_ below_ meth cd_ ls F hK hN hO hH hS hl
  have hH : TH E (tbC (dayD (.inl (0, 18))) (dayD (.inl (0, 18))) (riverD (.inl Fa1) (.inl Fb1) (.inl (0, 4)) 31 33 35 39 43 47) (riverD (.inl Fa2) (.inl Fb2) (.inl (0, 4)) 32 34 36 40 44 48) rc rd tp A14F A14F A4F A4F A14F A14F (riverD (.inl Fa3) (.inl Fb3) (.inl (0, 4)) 3 8 3 41 45 49) (riverD (.inl Fa4) (.inl Fb4) (.inl (0, 4)) 3 8 3 42 46 50) ((.inr (.inl (0, 12, Pd1)))) ((.inr (.inl (0, 12, Pd2)))) ((.inr (.inl (0, 12, Pd3)))) ((.inr (.inl (0, 12, Pd4)))) ((.inr (.inl (0, 12, Ps1)))) ((.inr (.inl (0, 12, Ps2)))) ((.inr (.inl (0, 12, Ps3)))) ((.inr (.inl (0, 12, Ps4)))) ((.inr (.inl (0, 48, Pi1)))) ((.inr (.inl (0, 48, Pi2)))) ((.inr (.inl (0, 48, Pi3)))) ((.inr (.inl (0, 48, Pi4))))) s.heap := hH
  have hl : lv_has ls 1 [(0, .ref a0)] := hl
  refine lv_aload_n F.1 F.2.1 dX0_work_0 rfl (lv_at hl 0 rfl) ?_
  refine tVv (b := a0) (As := []) (rest := []) F hK hN hO (c_X0_bringWater E rc rd tp Fa1 Fb1 Fa2 Fb2 Fa3 Fb3 Fa4 Fb4 Pd1 Pd2 Pd3 Pd4 Ps1 Ps2 Ps3 Ps4 Pi1 Pi2 Pi3 Pi4 a0 ha0 hFa1 hFb1 hFa2 hFb2 hFa3 hFb3 hFa4 hFb4 hPd1 hPd2 hPd3 hPd4 hPs1 hPs2 hPs3 hPs4 hPi1 hPi2 hPi3 hPi4) mv_X0_bringWater wd_20_22 ⟨Nat.le_of_ble_eq_true rfl, Nat.le_of_ble_eq_true rfl⟩ ⟨Nat.le_of_ble_eq_true rfl, Nat.le_of_ble_eq_true rfl⟩ hH hS (tRecv hK hH (tyb ha0 (all2 rfl rfl)) clX0) rfl hl.1 (Nat.le_of_ble_eq_true rfl) dX0_work_1 (fun H locs hq hS => ?_)
  have hH := hq
  have hH : TH E (tbC (dayD (.inl (0, 18))) (dayD (.inl (0, 18))) (riverD (.inl Fa1) (.inl Fb1) (.inl (0, 4)) 31 33 35 39 43 47) (riverD (.inl Fa2) (.inl Fb2) (.inl (0, 4)) 32 34 36 40 44 48) rc rd tp A14F A14F A4F A4F A14F A14F (riverD (.inl Fa3) (.inl Fb3) (.inl (0, 4)) 3 8 3 41 45 49) (riverD (.inl Fa4) (.inl Fb4) (.inl (0, 4)) 3 8 3 42 46 50) ((.inr (.inl (0, 12, Pd1)))) ((.inr (.inl (0, 12, Pd2)))) ((.inr (.inl (0, 12, Pd3)))) ((.inr (.inl (0, 12, Pd4)))) ((.inr (.inl (0, 12, Ps1)))) ((.inr (.inl (0, 12, Ps2)))) ((.inr (.inl (0, 12, Ps3)))) ((.inr (.inl (0, 12, Ps4)))) ((.inr (.inl (0, 48, Pi1)))) ((.inr (.inl (0, 48, Pi2)))) ((.inr (.inl (0, 48, Pi3)))) ((.inr (.inl (0, 48, Pi4))))) H := hH
  refine lv_aload_n F.1 F.2.1 dX0_work_4 rfl (lv_at hl 0 rfl) ?_
  refine lv_iconst (v := (-1)) F.1 F.2.1 dX0_work_5 (by decide) ?_
  refine topK (a := (-1)) (by decide) (fun k_2 hk_2 => ?_)
  refine tVv (b := a0) (As := [.int k_2]) (rest := []) F hK hN hO (c_X0_takeByAge E rc rd tp Fa1 Fb1 Fa2 Fb2 Fa3 Fb3 Fa4 Fb4 Pd1 Pd2 Pd3 Pd4 Ps1 Ps2 Ps3 Ps4 Pi1 Pi2 Pi3 Pi4 a0 k_2 ha0 hFa1 hFb1 hFa2 hFb2 hFa3 hFb3 hFa4 hFb4 hPd1 hPd2 hPd3 hPd4 hPs1 hPs2 hPs3 hPs4 hPi1 hPi2 hPi3 hPi4) mv_X0_takeByAge wd_22_14 ⟨Nat.le_of_ble_eq_true rfl, Nat.le_of_ble_eq_true rfl⟩ ⟨Nat.le_of_ble_eq_true rfl, Nat.le_of_ble_eq_true rfl⟩ hH hS (tRecv hK hH (tyb ha0 (all2 rfl rfl)) clX0) rfl hl.1 (Nat.le_of_ble_eq_true rfl) dX0_work_6 (fun H locs hq hS => ?_)
  have hH := hq
  have hH : TH E (tbC (dayD (.inl (0, 18))) (dayD (.inl (0, 18))) (riverD (.inl Fa1) (.inl Fb1) (.inl (0, 4)) 31 33 35 39 43 47) (riverD (.inl Fa2) (.inl Fb2) (.inl (0, 4)) 32 34 36 40 44 48) rc rd tp A14F A14F A4F A4F A14F A14F (riverD (.inl Fa3) (.inl Fb3) (.inl (0, 4)) 3 8 3 41 45 49) (riverD (.inl Fa4) (.inl Fb4) (.inl (0, 4)) 3 8 3 42 46 50) ((.inr (.inl (0, 12, Pd1)))) ((.inr (.inl (0, 12, Pd2)))) ((.inr (.inl (0, 12, Pd3)))) ((.inr (.inl (0, 12, Pd4)))) ((.inr (.inl (0, 12, Ps1)))) ((.inr (.inl (0, 12, Ps2)))) ((.inr (.inl (0, 12, Ps3)))) ((.inr (.inl (0, 12, Ps4)))) ((.inr (.inl (0, 48, Pi1)))) ((.inr (.inl (0, 48, Pi2)))) ((.inr (.inl (0, 48, Pi3)))) ((.inr (.inl (0, 48, Pi4))))) H := hH
  refine lv_aload_n F.1 F.2.1 dX0_work_9 rfl (lv_at hl 0 rfl) ?_
  refine tVv (b := a0) (As := []) (rest := []) F hK hN hO (c_X0_takeByOrders E rc rd tp Fa1 Fb1 Fa2 Fb2 Fa3 Fb3 Fa4 Fb4 Pd1 Pd2 Pd3 Pd4 Ps1 Ps2 Ps3 Ps4 Pi1 Pi2 Pi3 Pi4 a0 ha0 hFa1 hFb1 hFa2 hFb2 hFa3 hFb3 hFa4 hFb4 hPd1 hPd2 hPd3 hPd4 hPs1 hPs2 hPs3 hPs4 hPi1 hPi2 hPi3 hPi4) mv_X0_takeByOrders wd_23_2 ⟨Nat.le_of_ble_eq_true rfl, Nat.le_of_ble_eq_true rfl⟩ ⟨Nat.le_of_ble_eq_true rfl, Nat.le_of_ble_eq_true rfl⟩ hH hS (tRecv hK hH (tyb ha0 (all2 rfl rfl)) clX0) rfl hl.1 (Nat.le_of_ble_eq_true rfl) dX0_work_10 (fun H locs hq hS => ?_)
  have hH := hq
  have hH : TH E (tbC (dayD (.inl (0, 18))) (dayD (.inl (0, 18))) (riverD (.inl Fa1) (.inl Fb1) (.inl (0, 4)) 31 33 35 39 43 47) (riverD (.inl Fa2) (.inl Fb2) (.inl (0, 4)) 32 34 36 40 44 48) rc rd tp A14F A14F A4F A4F A14F A14F (riverD (.inl Fa3) (.inl Fb3) (.inl (0, 4)) 3 8 3 41 45 49) (riverD (.inl Fa4) (.inl Fb4) (.inl (0, 4)) 3 8 3 42 46 50) ((.inr (.inl (0, 12, Pd1)))) ((.inr (.inl (0, 12, Pd2)))) ((.inr (.inl (0, 12, Pd3)))) ((.inr (.inl (0, 12, Pd4)))) ((.inr (.inl (0, 12, Ps1)))) ((.inr (.inl (0, 12, Ps2)))) ((.inr (.inl (0, 12, Ps3)))) ((.inr (.inl (0, 12, Ps4)))) ((.inr (.inl (0, 48, Pi1)))) ((.inr (.inl (0, 48, Pi2)))) ((.inr (.inl (0, 48, Pi3)))) ((.inr (.inl (0, 48, Pi4))))) H := hH
  refine lv_aload_n F.1 F.2.1 dX0_work_13 rfl (lv_at hl 0 rfl) ?_
  refine tVv (b := a0) (As := []) (rest := []) F hK hN hO (c_X0_takeByBarters E rc rd tp Fa1 Fb1 Fa2 Fb2 Fa3 Fb3 Fa4 Fb4 Pd1 Pd2 Pd3 Pd4 Ps1 Ps2 Ps3 Ps4 Pi1 Pi2 Pi3 Pi4 a0 ha0 hFa1 hFb1 hFa2 hFb2 hFa3 hFb3 hFa4 hFb4 hPd1 hPd2 hPd3 hPd4 hPs1 hPs2 hPs3 hPs4 hPi1 hPi2 hPi3 hPi4) mv_X0_takeByBarters wd_23_20 ⟨Nat.le_of_ble_eq_true rfl, Nat.le_of_ble_eq_true rfl⟩ ⟨Nat.le_of_ble_eq_true rfl, Nat.le_of_ble_eq_true rfl⟩ hH hS (tRecv hK hH (tyb ha0 (all2 rfl rfl)) clX0) rfl hl.1 (Nat.le_of_ble_eq_true rfl) dX0_work_14 (fun H locs hq hS => ?_)
  have hH := hq
  have hH : TH E (tbC (dayD (.inl (0, 18))) (dayD (.inl (0, 18))) (riverD (.inl Fa1) (.inl Fb1) (.inl (0, 4)) 31 33 35 39 43 47) (riverD (.inl Fa2) (.inl Fb2) (.inl (0, 4)) 32 34 36 40 44 48) rc rd tp A14F A14F A4F A4F A14F A14F (riverD (.inl Fa3) (.inl Fb3) (.inl (0, 4)) 3 8 3 41 45 49) (riverD (.inl Fa4) (.inl Fb4) (.inl (0, 4)) 3 8 3 42 46 50) ((.inr (.inl (0, 12, Pd1)))) ((.inr (.inl (0, 12, Pd2)))) ((.inr (.inl (0, 12, Pd3)))) ((.inr (.inl (0, 12, Pd4)))) ((.inr (.inl (0, 12, Ps1)))) ((.inr (.inl (0, 12, Ps2)))) ((.inr (.inl (0, 12, Ps3)))) ((.inr (.inl (0, 12, Ps4)))) ((.inr (.inl (0, 48, Pi1)))) ((.inr (.inl (0, 48, Pi2)))) ((.inr (.inl (0, 48, Pi3)))) ((.inr (.inl (0, 48, Pi4))))) H := hH
  exact txV F hS dX0_work_17 (hH)
set_option maxHeartbeats 4000000 in
set_option maxRecDepth 100000 in
theorem c_X0_isShort (E : Ev) (rc : TD) (rd : TD) (tp : TD) (Fa1 : Int × Int) (Fb1 : Int × Int) (Fa2 : Int × Int) (Fb2 : Int × Int) (Fa3 : Int × Int) (Fb3 : Int × Int) (Fa4 : Int × Int) (Fb4 : Int × Int) (Pd1 : (Nat → Int32) → Prop) (Pd2 : (Nat → Int32) → Prop) (Pd3 : (Nat → Int32) → Prop) (Pd4 : (Nat → Int32) → Prop) (Ps1 : (Nat → Int32) → Prop) (Ps2 : (Nat → Int32) → Prop) (Ps3 : (Nat → Int32) → Prop) (Ps4 : (Nat → Int32) → Prop) (Pi1 : (Nat → Int32) → Prop) (Pi2 : (Nat → Int32) → Prop) (Pi3 : (Nat → Int32) → Prop) (Pi4 : (Nat → Int32) → Prop) (a0 : Nat) (a1 : Int32) (ha0 : eT E a0 ∈ [24, 25]) (ha1 : 0 ≤ a1.toInt ∧ a1.toInt ≤ 13) (hFa1 : 0 ≤ Fa1.1 ∧ Fa1.2 ≤ 12) (hFb1 : 0 ≤ Fb1.1 ∧ Fb1.2 ≤ 14) (hFa2 : 0 ≤ Fa2.1 ∧ Fa2.2 ≤ 12) (hFb2 : 0 ≤ Fb2.1 ∧ Fb2.2 ≤ 14) (hFa3 : 0 ≤ Fa3.1 ∧ Fa3.2 ≤ 12) (hFb3 : 0 ≤ Fb3.1 ∧ Fb3.2 ≤ 14) (hFa4 : 0 ≤ Fa4.1 ∧ Fa4.2 ≤ 12) (hFb4 : 0 ≤ Fb4.1 ∧ Fb4.2 ≤ 14) (hPd1 : ∀ f, Pd1 f → ivP 12 (-2) 11 f) (hPd2 : ∀ f, Pd2 f → ivP 12 (-2) 11 f) (hPd3 : ∀ f, Pd3 f → ivP 12 (-2) 11 f) (hPd4 : ∀ f, Pd4 f → ivP 12 (-2) 11 f) (hPs1 : ∀ f, Ps1 f → ivP 12 (-2147483648) 2147483647 f) (hPs2 : ∀ f, Ps2 f → ivP 12 (-2147483648) 2147483647 f) (hPs3 : ∀ f, Ps3 f → ivP 12 (-2147483648) 2147483647 f) (hPs4 : ∀ f, Ps4 f → ivP 12 (-2147483648) 2147483647 f) (hPi1 : ∀ f, Pi1 f → ivP 48 (-2147483648) 2147483647 f) (hPi2 : ∀ f, Pi2 f → ivP 48 (-2147483648) 2147483647 f) (hPi3 : ∀ f, Pi3 f → ivP 48 (-2147483648) 2147483647 f) (hPi4 : ∀ f, Pi4 f → ivP 48 (-2147483648) 2147483647 f) : TcI E yX0_isShort cX0_isShort 2 .boolean ({ frames := 3, cells := 0, slots := 0, locals := 82 }) [.ref a0, .int a1] (fun H => TH E (tbC (dayD (.inl (0, 18))) (dayD (.inl (0, 18))) (riverD (.inl Fa1) (.inl Fb1) (.inl (0, 4)) 31 33 35 39 43 47) (riverD (.inl Fa2) (.inl Fb2) (.inl (0, 4)) 32 34 36 40 44 48) rc rd tp A14F A14F A4F A4F A14F A14F (riverD (.inl Fa3) (.inl Fb3) (.inl (0, 4)) 3 8 3 41 45 49) (riverD (.inl Fa4) (.inl Fb4) (.inl (0, 4)) 3 8 3 42 46 50) ((.inr (.inl (0, 12, Pd1)))) ((.inr (.inl (0, 12, Pd2)))) ((.inr (.inl (0, 12, Pd3)))) ((.inr (.inl (0, 12, Pd4)))) ((.inr (.inl (0, 12, Ps1)))) ((.inr (.inl (0, 12, Ps2)))) ((.inr (.inl (0, 12, Ps3)))) ((.inr (.inl (0, 12, Ps4)))) ((.inr (.inl (0, 48, Pi1)))) ((.inr (.inl (0, 48, Pi2)))) ((.inr (.inl (0, 48, Pi3)))) ((.inr (.inl (0, 48, Pi4))))) H) (fun v H => (0 ≤ v.toInt ∧ v.toInt ≤ 1) ∧ TH E (tbC (dayD (.inl (0, 18))) (dayD (.inl (0, 18))) (riverD (.inl Fa1) (.inl Fb1) (.inl (0, 4)) 31 33 35 39 43 47) (riverD (.inl Fa2) (.inl Fb2) (.inl (0, 4)) 32 34 36 40 44 48) rc rd tp A14F A14F A4F A4F A14F A14F (riverD (.inl Fa3) (.inl Fb3) (.inl (0, 4)) 3 8 3 41 45 49) (riverD (.inl Fa4) (.inl Fb4) (.inl (0, 4)) 3 8 3 42 46 50) ((.inr (.inl (0, 12, Pd1)))) ((.inr (.inl (0, 12, Pd2)))) ((.inr (.inl (0, 12, Pd3)))) ((.inr (.inl (0, 12, Pd4)))) ((.inr (.inl (0, 12, Ps1)))) ((.inr (.inl (0, 12, Ps2)))) ((.inr (.inl (0, 12, Ps3)))) ((.inr (.inl (0, 12, Ps4)))) ((.inr (.inl (0, 48, Pi1)))) ((.inr (.inl (0, 48, Pi2)))) ((.inr (.inl (0, 48, Pi3)))) ((.inr (.inl (0, 48, Pi4))))) H) := by
  refine teI (by decide) (Nat.le_of_ble_eq_true rfl) ?_
  intro p_ ev_ s mi_ below_ meth cd_ ls F hK hN hO hH hS hl
  have hH : TH E (tbC (dayD (.inl (0, 18))) (dayD (.inl (0, 18))) (riverD (.inl Fa1) (.inl Fb1) (.inl (0, 4)) 31 33 35 39 43 47) (riverD (.inl Fa2) (.inl Fb2) (.inl (0, 4)) 32 34 36 40 44 48) rc rd tp A14F A14F A4F A4F A14F A14F (riverD (.inl Fa3) (.inl Fb3) (.inl (0, 4)) 3 8 3 41 45 49) (riverD (.inl Fa4) (.inl Fb4) (.inl (0, 4)) 3 8 3 42 46 50) ((.inr (.inl (0, 12, Pd1)))) ((.inr (.inl (0, 12, Pd2)))) ((.inr (.inl (0, 12, Pd3)))) ((.inr (.inl (0, 12, Pd4)))) ((.inr (.inl (0, 12, Ps1)))) ((.inr (.inl (0, 12, Ps2)))) ((.inr (.inl (0, 12, Ps3)))) ((.inr (.inl (0, 12, Ps4)))) ((.inr (.inl (0, 48, Pi1)))) ((.inr (.inl (0, 48, Pi2)))) ((.inr (.inl (0, 48, Pi3)))) ((.inr (.inl (0, 48, Pi4))))) s.heap := hH
  have hl : lv_has ls 2 [(0, .ref a0), (1, .int a1)] := hl
  refine lv_aload_n F.1 F.2.1 dX0_isShort_0 rfl (lv_at hl 0 rfl) ?_
  refine lv_iload_n F.1 F.2.1 dX0_isShort_1 rfl (lv_at hl 1 rfl) ?_
  refine tVi (b := a0) (As := [.int a1]) (rest := []) F hK hN hO (c_X0_missing E rc rd tp Fa1 Fb1 Fa2 Fb2 Fa3 Fb3 Fa4 Fb4 Pd1 Pd2 Pd3 Pd4 Ps1 Ps2 Ps3 Ps4 Pi1 Pi2 Pi3 Pi4 a0 a1 ha0 ha1 hFa1 hFb1 hFa2 hFb2 hFa3 hFb3 hFa4 hFb4 hPd1 hPd2 hPd3 hPd4 hPs1 hPs2 hPs3 hPs4 hPi1 hPi2 hPi3 hPi4) mv_X0_missing wd_23_12 ⟨Nat.le_of_ble_eq_true rfl, Nat.le_of_ble_eq_true rfl⟩ ⟨Nat.le_of_ble_eq_true rfl, Nat.le_of_ble_eq_true rfl⟩ hH hS (tRecv hK hH (tyb ha0 (all2 rfl rfl)) clX0) rfl hl.1 (Nat.le_of_ble_eq_true rfl) dX0_isShort_2 (fun z_1 H locs hq hS => ?_)
  obtain ⟨f_2, hH⟩ := hq
  have hH : TH E (tbC (dayD (.inl (0, 18))) (dayD (.inl (0, 18))) (riverD (.inl Fa1) (.inl Fb1) (.inl (0, 4)) 31 33 35 39 43 47) (riverD (.inl Fa2) (.inl Fb2) (.inl (0, 4)) 32 34 36 40 44 48) rc rd tp A14F A14F A4F A4F A14F A14F (riverD (.inl Fa3) (.inl Fb3) (.inl (0, 4)) 3 8 3 41 45 49) (riverD (.inl Fa4) (.inl Fb4) (.inl (0, 4)) 3 8 3 42 46 50) ((.inr (.inl (0, 12, Pd1)))) ((.inr (.inl (0, 12, Pd2)))) ((.inr (.inl (0, 12, Pd3)))) ((.inr (.inl (0, 12, Pd4)))) ((.inr (.inl (0, 12, Ps1)))) ((.inr (.inl (0, 12, Ps2)))) ((.inr (.inl (0, 12, Ps3)))) ((.inr (.inl (0, 12, Ps4)))) ((.inr (.inl (0, 48, Pi1)))) ((.inr (.inl (0, 48, Pi2)))) ((.inr (.inl (0, 48, Pi3)))) ((.inr (.inl (0, 48, Pi4))))) H := hH
  refine z_le (tgt := 12) F dX0_isShort_5 (by decide) (fun c_3 => ?_) (fun c_3 => ?_)
  · skip
    have r_4 : (-2147483648) ≤ z_1.toInt ∧ z_1.toInt ≤ 0 := by have h9_ := f_2; omega
    refine lv_iconst (v := 0) F.1 F.2.1 dX0_isShort_12 (by decide) ?_
    refine topK (a := 0) (by decide) (fun k_6 hk_6 => ?_)
    exact txI F hS dX0_isShort_13 (nar01 (wkb (eqb hk_6) rfl rfl)) (⟨(wkb (eqb hk_6) rfl rfl), hH⟩)
  · skip
    have r_5 : 1 ≤ z_1.toInt ∧ z_1.toInt ≤ 2147483647 := by have h9_ := f_2; omega
    refine lv_iconst (v := 1) F.1 F.2.1 dX0_isShort_8 (by decide) ?_
    refine topK (a := 1) (by decide) (fun k_7 hk_7 => ?_)
    refine lv_goto (tgt := 13) F.1 F.2.1 dX0_isShort_9 (by decide) ?_
    exact txI F hS dX0_isShort_13 (nar01 (wkb (eqb hk_7) rfl rfl)) (⟨(wkb (eqb hk_7) rfl rfl), hH⟩)
set_option maxHeartbeats 4000000 in
set_option maxRecDepth 100000 in
theorem c_X0_someCalls (E : Ev) (rc : TD) (rd : TD) (tp : TD) (Fa1 : Int × Int) (Fb1 : Int × Int) (Fa2 : Int × Int) (Fb2 : Int × Int) (Fa3 : Int × Int) (Fb3 : Int × Int) (Fa4 : Int × Int) (Fb4 : Int × Int) (Pd1 : (Nat → Int32) → Prop) (Pd2 : (Nat → Int32) → Prop) (Pd3 : (Nat → Int32) → Prop) (Pd4 : (Nat → Int32) → Prop) (Ps1 : (Nat → Int32) → Prop) (Ps2 : (Nat → Int32) → Prop) (Ps3 : (Nat → Int32) → Prop) (Ps4 : (Nat → Int32) → Prop) (Pi1 : (Nat → Int32) → Prop) (Pi2 : (Nat → Int32) → Prop) (Pi3 : (Nat → Int32) → Prop) (Pi4 : (Nat → Int32) → Prop) (a0 : Nat) (ha0 : eT E a0 ∈ [24, 25]) (hFa1 : 0 ≤ Fa1.1 ∧ Fa1.2 ≤ 12) (hFb1 : 0 ≤ Fb1.1 ∧ Fb1.2 ≤ 14) (hFa2 : 0 ≤ Fa2.1 ∧ Fa2.2 ≤ 12) (hFb2 : 0 ≤ Fb2.1 ∧ Fb2.2 ≤ 14) (hFa3 : 0 ≤ Fa3.1 ∧ Fa3.2 ≤ 12) (hFb3 : 0 ≤ Fb3.1 ∧ Fb3.2 ≤ 14) (hFa4 : 0 ≤ Fa4.1 ∧ Fa4.2 ≤ 12) (hFb4 : 0 ≤ Fb4.1 ∧ Fb4.2 ≤ 14) (hPd1 : ∀ f, Pd1 f → ivP 12 (-2) 11 f) (hPd2 : ∀ f, Pd2 f → ivP 12 (-2) 11 f) (hPd3 : ∀ f, Pd3 f → ivP 12 (-2) 11 f) (hPd4 : ∀ f, Pd4 f → ivP 12 (-2) 11 f) (hPs1 : ∀ f, Ps1 f → ivP 12 (-2147483648) 2147483647 f) (hPs2 : ∀ f, Ps2 f → ivP 12 (-2147483648) 2147483647 f) (hPs3 : ∀ f, Ps3 f → ivP 12 (-2147483648) 2147483647 f) (hPs4 : ∀ f, Ps4 f → ivP 12 (-2147483648) 2147483647 f) (hPi1 : ∀ f, Pi1 f → ivP 48 (-2147483648) 2147483647 f) (hPi2 : ∀ f, Pi2 f → ivP 48 (-2147483648) 2147483647 f) (hPi3 : ∀ f, Pi3 f → ivP 48 (-2147483648) 2147483647 f) (hPi4 : ∀ f, Pi4 f → ivP 48 (-2147483648) 2147483647 f) : TcI E yX0_someCalls cX0_someCalls 2 .boolean ({ frames := 4, cells := 0, slots := 0, locals := 103 }) [.ref a0] (fun H => TH E (tbC (dayD (.inl (0, 18))) (dayD (.inl (0, 18))) (riverD (.inl Fa1) (.inl Fb1) (.inl (0, 4)) 31 33 35 39 43 47) (riverD (.inl Fa2) (.inl Fb2) (.inl (0, 4)) 32 34 36 40 44 48) rc rd tp A14F A14F A4F A4F A14F A14F (riverD (.inl Fa3) (.inl Fb3) (.inl (0, 4)) 3 8 3 41 45 49) (riverD (.inl Fa4) (.inl Fb4) (.inl (0, 4)) 3 8 3 42 46 50) ((.inr (.inl (0, 12, Pd1)))) ((.inr (.inl (0, 12, Pd2)))) ((.inr (.inl (0, 12, Pd3)))) ((.inr (.inl (0, 12, Pd4)))) ((.inr (.inl (0, 12, Ps1)))) ((.inr (.inl (0, 12, Ps2)))) ((.inr (.inl (0, 12, Ps3)))) ((.inr (.inl (0, 12, Ps4)))) ((.inr (.inl (0, 48, Pi1)))) ((.inr (.inl (0, 48, Pi2)))) ((.inr (.inl (0, 48, Pi3)))) ((.inr (.inl (0, 48, Pi4))))) H) (fun v H => (0 ≤ v.toInt ∧ v.toInt ≤ 1) ∧ TH E (tbC (dayD (.inl (0, 18))) (dayD (.inl (0, 18))) (riverD (.inl Fa1) (.inl Fb1) (.inl (0, 4)) 31 33 35 39 43 47) (riverD (.inl Fa2) (.inl Fb2) (.inl (0, 4)) 32 34 36 40 44 48) rc rd tp A14F A14F A4F A4F A14F A14F (riverD (.inl Fa3) (.inl Fb3) (.inl (0, 4)) 3 8 3 41 45 49) (riverD (.inl Fa4) (.inl Fb4) (.inl (0, 4)) 3 8 3 42 46 50) ((.inr (.inl (0, 12, Pd1)))) ((.inr (.inl (0, 12, Pd2)))) ((.inr (.inl (0, 12, Pd3)))) ((.inr (.inl (0, 12, Pd4)))) ((.inr (.inl (0, 12, Ps1)))) ((.inr (.inl (0, 12, Ps2)))) ((.inr (.inl (0, 12, Ps3)))) ((.inr (.inl (0, 12, Ps4)))) ((.inr (.inl (0, 48, Pi1)))) ((.inr (.inl (0, 48, Pi2)))) ((.inr (.inl (0, 48, Pi3)))) ((.inr (.inl (0, 48, Pi4))))) H) := by
  refine teI (by decide) (Nat.le_of_ble_eq_true rfl) ?_
  intro p_ ev_ s mi_ below_ meth cd_ ls F hK hN hO hH hS hl
  have hH : TH E (tbC (dayD (.inl (0, 18))) (dayD (.inl (0, 18))) (riverD (.inl Fa1) (.inl Fb1) (.inl (0, 4)) 31 33 35 39 43 47) (riverD (.inl Fa2) (.inl Fb2) (.inl (0, 4)) 32 34 36 40 44 48) rc rd tp A14F A14F A4F A4F A14F A14F (riverD (.inl Fa3) (.inl Fb3) (.inl (0, 4)) 3 8 3 41 45 49) (riverD (.inl Fa4) (.inl Fb4) (.inl (0, 4)) 3 8 3 42 46 50) ((.inr (.inl (0, 12, Pd1)))) ((.inr (.inl (0, 12, Pd2)))) ((.inr (.inl (0, 12, Pd3)))) ((.inr (.inl (0, 12, Pd4)))) ((.inr (.inl (0, 12, Ps1)))) ((.inr (.inl (0, 12, Ps2)))) ((.inr (.inl (0, 12, Ps3)))) ((.inr (.inl (0, 12, Ps4)))) ((.inr (.inl (0, 48, Pi1)))) ((.inr (.inl (0, 48, Pi2)))) ((.inr (.inl (0, 48, Pi3)))) ((.inr (.inl (0, 48, Pi4))))) s.heap := hH
  have hl : lv_has ls 2 [(0, .ref a0)] := hl
  refine lv_iconst (v := 0) F.1 F.2.1 dX0_someCalls_0 (by decide) ?_
  refine topK (a := 0) (by decide) (fun k_1 hk_1 => ?_)
  refine lv_istore_n (lv' := [(1, .int k_1), (0, .ref a0)]) F.1 F.2.1 dX0_someCalls_1 rfl hl (by decide) rfl (fun ls hl => ?_)
  refine wloop (σ := Int32) (fun n9 x9 H locs ls => (14 - x9.toInt + 1).toNat < n9 ∧ (0 ≤ x9.toInt ∧ x9.toInt ≤ 14) ∧ TH E (tbC (dayD (.inl (0, 18))) (dayD (.inl (0, 18))) (riverD (.inl Fa1) (.inl Fb1) (.inl (0, 4)) 31 33 35 39 43 47) (riverD (.inl Fa2) (.inl Fb2) (.inl (0, 4)) 32 34 36 40 44 48) rc rd tp A14F A14F A4F A4F A14F A14F (riverD (.inl Fa3) (.inl Fb3) (.inl (0, 4)) 3 8 3 41 45 49) (riverD (.inl Fa4) (.inl Fb4) (.inl (0, 4)) 3 8 3 42 46 50) ((.inr (.inl (0, 12, Pd1)))) ((.inr (.inl (0, 12, Pd2)))) ((.inr (.inl (0, 12, Pd3)))) ((.inr (.inl (0, 12, Pd4)))) ((.inr (.inl (0, 12, Ps1)))) ((.inr (.inl (0, 12, Ps2)))) ((.inr (.inl (0, 12, Ps3)))) ((.inr (.inl (0, 12, Ps4)))) ((.inr (.inl (0, 48, Pi1)))) ((.inr (.inl (0, 48, Pi2)))) ((.inr (.inl (0, 48, Pi3)))) ((.inr (.inl (0, 48, Pi4))))) H ∧ va_S (eA E s.heap.size) s.heap H locs ∧ lv_has ls 2 [(0, .ref a0), (1, .int x9)]) ?_ (fun x9 H locs ls h => absurd h.1 (Nat.not_lt_zero _)) _ (k_1) ⟨Nat.lt_succ_self _, (wkb (eqb hk_1) rfl rfl), hH, hS, lv_sub hl [1, 0] rfl⟩
  intro n_2 ih_2 u_2 H locs ls ⟨hm_2, hu_2, hH, hS, hl⟩
  have hm_2 : (14 - u_2.toInt + 1).toNat < n_2 + 1 := hm_2
  have hu_2 : (0 ≤ u_2.toInt ∧ u_2.toInt ≤ 14) := hu_2
  have hH : TH E (tbC (dayD (.inl (0, 18))) (dayD (.inl (0, 18))) (riverD (.inl Fa1) (.inl Fb1) (.inl (0, 4)) 31 33 35 39 43 47) (riverD (.inl Fa2) (.inl Fb2) (.inl (0, 4)) 32 34 36 40 44 48) rc rd tp A14F A14F A4F A4F A14F A14F (riverD (.inl Fa3) (.inl Fb3) (.inl (0, 4)) 3 8 3 41 45 49) (riverD (.inl Fa4) (.inl Fb4) (.inl (0, 4)) 3 8 3 42 46 50) ((.inr (.inl (0, 12, Pd1)))) ((.inr (.inl (0, 12, Pd2)))) ((.inr (.inl (0, 12, Pd3)))) ((.inr (.inl (0, 12, Pd4)))) ((.inr (.inl (0, 12, Ps1)))) ((.inr (.inl (0, 12, Ps2)))) ((.inr (.inl (0, 12, Ps3)))) ((.inr (.inl (0, 12, Ps4)))) ((.inr (.inl (0, 48, Pi1)))) ((.inr (.inl (0, 48, Pi2)))) ((.inr (.inl (0, 48, Pi3)))) ((.inr (.inl (0, 48, Pi4))))) H := hH
  have hl : lv_has ls 2 [(0, .ref a0), (1, .int u_2)] := hl
  refine lv_iload_n F.1 F.2.1 dX0_someCalls_2 rfl (lv_at hl 1 rfl) ?_
  refine lv_aload_n F.1 F.2.1 dX0_someCalls_3 rfl (lv_at hl 0 rfl) ?_
  refine tGetR0 (j := 0) F hK hH (tyb ha0 (all2 rfl rfl)) rfl clX0 (by decide) wd_4_23 dX0_someCalls_4 (fun q_3 hq_3 => ?_)
  refine tGetIB (j := 4) (lo := 0) (hi := 14) F hK hH hq_3 (alls ⟨_, _, rfl, rfl, by have h9_ := hFb1; omega⟩ (alls1 ⟨_, _, rfl, rfl, by have h9_ := hFb2; omega⟩)) clX2 (by decide) wd_20_4 dX0_someCalls_7 (fun z_4 hz_4 => ?_)
  refine b_ge (tgt := 29) F dX0_someCalls_10 (by decide) (fun c_5 => ?_) (fun c_5 => ?_)
  · skip
    refine lv_iconst (v := 0) F.1 F.2.1 dX0_someCalls_29 (by decide) ?_
    refine topK (a := 0) (by decide) (fun k_8 hk_8 => ?_)
    exact txI F hS dX0_someCalls_30 (nar01 (wkb (eqb hk_8) rfl rfl)) (⟨(wkb (eqb hk_8) rfl rfl), hH⟩)
  · skip
    have r_6 : 0 ≤ u_2.toInt ∧ u_2.toInt ≤ 13 := by have h9_ := hu_2; omega
    have r_7 : 1 ≤ z_4.toInt ∧ z_4.toInt ≤ 14 := by have h9_ := hz_4; omega
    refine lv_aload_n F.1 F.2.1 dX0_someCalls_13 rfl (lv_at hl 0 rfl) ?_
    refine lv_iload_n F.1 F.2.1 dX0_someCalls_14 rfl (lv_at hl 1 rfl) ?_
    refine tVi (b := a0) (As := [.int u_2]) (rest := []) F hK hN hO (c_X0_isShort E rc rd tp Fa1 Fb1 Fa2 Fb2 Fa3 Fb3 Fa4 Fb4 Pd1 Pd2 Pd3 Pd4 Ps1 Ps2 Ps3 Ps4 Pi1 Pi2 Pi3 Pi4 a0 u_2 ha0 r_6 hFa1 hFb1 hFa2 hFb2 hFa3 hFb3 hFa4 hFb4 hPd1 hPd2 hPd3 hPd4 hPs1 hPs2 hPs3 hPs4 hPi1 hPi2 hPi3 hPi4) mv_X0_isShort wd_36_0 ⟨Nat.le_of_ble_eq_true rfl, Nat.le_of_ble_eq_true rfl⟩ ⟨Nat.le_of_ble_eq_true rfl, Nat.le_of_ble_eq_true rfl⟩ hH hS (tRecv hK hH (tyb ha0 (all2 rfl rfl)) clX0) rfl hl.1 (Nat.le_of_ble_eq_true rfl) dX0_someCalls_15 (fun z_9 H locs hq hS => ?_)
    obtain ⟨f_10, hH⟩ := hq
    have hH : TH E (tbC (dayD (.inl (0, 18))) (dayD (.inl (0, 18))) (riverD (.inl Fa1) (.inl Fb1) (.inl (0, 4)) 31 33 35 39 43 47) (riverD (.inl Fa2) (.inl Fb2) (.inl (0, 4)) 32 34 36 40 44 48) rc rd tp A14F A14F A4F A4F A14F A14F (riverD (.inl Fa3) (.inl Fb3) (.inl (0, 4)) 3 8 3 41 45 49) (riverD (.inl Fa4) (.inl Fb4) (.inl (0, 4)) 3 8 3 42 46 50) ((.inr (.inl (0, 12, Pd1)))) ((.inr (.inl (0, 12, Pd2)))) ((.inr (.inl (0, 12, Pd3)))) ((.inr (.inl (0, 12, Pd4)))) ((.inr (.inl (0, 12, Ps1)))) ((.inr (.inl (0, 12, Ps2)))) ((.inr (.inl (0, 12, Ps3)))) ((.inr (.inl (0, 12, Ps4)))) ((.inr (.inl (0, 48, Pi1)))) ((.inr (.inl (0, 48, Pi2)))) ((.inr (.inl (0, 48, Pi3)))) ((.inr (.inl (0, 48, Pi4))))) H := hH
    refine z_eq (tgt := 23) F dX0_someCalls_18 (by decide) (fun c_11 => ?_) (fun c_11 => ?_)
    · skip
      have r_12 : 0 ≤ z_9.toInt ∧ z_9.toInt ≤ 0 := by have h9_ := f_10; omega
      obtain ⟨x_14, ex_14, hx_14⟩ := iincB (c := 1) (lo := 1) (hi := 14) r_6 rfl
      refine lv_iinc (v := x_14) (lv' := [(1, .int x_14), (0, .ref a0)]) F.1 F.2.1 dX0_someCalls_23 hl (k := 1) rfl ex_14 (by decide) rfl (fun ls hl => ?_)
      refine lv_goto (tgt := 2) F.1 F.2.1 dX0_someCalls_26 (by decide) ?_
      exact ih_2 (x_14) _ _ _ ⟨(show (14 - x_14.toInt + 1).toNat < n_2 from by omega), (wkb hx_14.2 rfl rfl), hH, hS, lv_sub hl [1, 0] rfl⟩
    · skip
      have r_13 : 1 ≤ z_9.toInt ∧ z_9.toInt ≤ 1 := by have h9_ := f_10; omega
      refine lv_iconst (v := 1) F.1 F.2.1 dX0_someCalls_21 (by decide) ?_
      refine topK (a := 1) (by decide) (fun k_15 hk_15 => ?_)
      exact txI F hS dX0_someCalls_22 (nar01 (wkb (eqb hk_15) rfl rfl)) (⟨(wkb (eqb hk_15) rfl rfl), hH⟩)
set_option maxHeartbeats 4000000 in
set_option maxRecDepth 100000 in
theorem c_X0_takenAt (E : Ev) (rc : TD) (rd : TD) (tp : TD) (Fa1 : Int × Int) (Fb1 : Int × Int) (Fa2 : Int × Int) (Fb2 : Int × Int) (Fa3 : Int × Int) (Fb3 : Int × Int) (Fa4 : Int × Int) (Fb4 : Int × Int) (Pd1 : (Nat → Int32) → Prop) (Pd2 : (Nat → Int32) → Prop) (Pd3 : (Nat → Int32) → Prop) (Pd4 : (Nat → Int32) → Prop) (Ps1 : (Nat → Int32) → Prop) (Ps2 : (Nat → Int32) → Prop) (Ps3 : (Nat → Int32) → Prop) (Ps4 : (Nat → Int32) → Prop) (Pi1 : (Nat → Int32) → Prop) (Pi2 : (Nat → Int32) → Prop) (Pi3 : (Nat → Int32) → Prop) (Pi4 : (Nat → Int32) → Prop) (a0 : Nat) (a1 : Int32) (ha0 : eT E a0 ∈ [24, 25]) (hFa1 : 0 ≤ Fa1.1 ∧ Fa1.2 ≤ 12) (hFb1 : 0 ≤ Fb1.1 ∧ Fb1.2 ≤ 14) (hFa2 : 0 ≤ Fa2.1 ∧ Fa2.2 ≤ 12) (hFb2 : 0 ≤ Fb2.1 ∧ Fb2.2 ≤ 14) (hFa3 : 0 ≤ Fa3.1 ∧ Fa3.2 ≤ 12) (hFb3 : 0 ≤ Fb3.1 ∧ Fb3.2 ≤ 14) (hFa4 : 0 ≤ Fa4.1 ∧ Fa4.2 ≤ 12) (hFb4 : 0 ≤ Fb4.1 ∧ Fb4.2 ≤ 14) (hPd1 : ∀ f, Pd1 f → ivP 12 (-2) 11 f) (hPd2 : ∀ f, Pd2 f → ivP 12 (-2) 11 f) (hPd3 : ∀ f, Pd3 f → ivP 12 (-2) 11 f) (hPd4 : ∀ f, Pd4 f → ivP 12 (-2) 11 f) (hPs1 : ∀ f, Ps1 f → ivP 12 (-2147483648) 2147483647 f) (hPs2 : ∀ f, Ps2 f → ivP 12 (-2147483648) 2147483647 f) (hPs3 : ∀ f, Ps3 f → ivP 12 (-2147483648) 2147483647 f) (hPs4 : ∀ f, Ps4 f → ivP 12 (-2147483648) 2147483647 f) (hPi1 : ∀ f, Pi1 f → ivP 48 (-2147483648) 2147483647 f) (hPi2 : ∀ f, Pi2 f → ivP 48 (-2147483648) 2147483647 f) (hPi3 : ∀ f, Pi3 f → ivP 48 (-2147483648) 2147483647 f) (hPi4 : ∀ f, Pi4 f → ivP 48 (-2147483648) 2147483647 f) : TcI E yX0_takenAt cX0_takenAt 5 .int ({ frames := 2, cells := 0, slots := 0, locals := 61 }) [.ref a0, .int a1] (fun H => TH E (tbC (dayD (.inl (0, 18))) (dayD (.inl (0, 18))) (riverD (.inl Fa1) (.inl Fb1) (.inl (0, 4)) 31 33 35 39 43 47) (riverD (.inl Fa2) (.inl Fb2) (.inl (0, 4)) 32 34 36 40 44 48) rc rd tp A14F A14F A4F A4F A14F A14F (riverD (.inl Fa3) (.inl Fb3) (.inl (0, 4)) 3 8 3 41 45 49) (riverD (.inl Fa4) (.inl Fb4) (.inl (0, 4)) 3 8 3 42 46 50) ((.inr (.inl (0, 12, Pd1)))) ((.inr (.inl (0, 12, Pd2)))) ((.inr (.inl (0, 12, Pd3)))) ((.inr (.inl (0, 12, Pd4)))) ((.inr (.inl (0, 12, Ps1)))) ((.inr (.inl (0, 12, Ps2)))) ((.inr (.inl (0, 12, Ps3)))) ((.inr (.inl (0, 12, Ps4)))) ((.inr (.inl (0, 48, Pi1)))) ((.inr (.inl (0, 48, Pi2)))) ((.inr (.inl (0, 48, Pi3)))) ((.inr (.inl (0, 48, Pi4))))) H) (fun v H => ((-2147483648) ≤ v.toInt ∧ v.toInt ≤ 2147483647) ∧ TH E (tbC (dayD (.inl (0, 18))) (dayD (.inl (0, 18))) (riverD (.inl Fa1) (.inl Fb1) (.inl (0, 4)) 31 33 35 39 43 47) (riverD (.inl Fa2) (.inl Fb2) (.inl (0, 4)) 32 34 36 40 44 48) rc rd tp A14F A14F A4F A4F A14F A14F (riverD (.inl Fa3) (.inl Fb3) (.inl (0, 4)) 3 8 3 41 45 49) (riverD (.inl Fa4) (.inl Fb4) (.inl (0, 4)) 3 8 3 42 46 50) ((.inr (.inl (0, 12, Pd1)))) ((.inr (.inl (0, 12, Pd2)))) ((.inr (.inl (0, 12, Pd3)))) ((.inr (.inl (0, 12, Pd4)))) ((.inr (.inl (0, 12, Ps1)))) ((.inr (.inl (0, 12, Ps2)))) ((.inr (.inl (0, 12, Ps3)))) ((.inr (.inl (0, 12, Ps4)))) ((.inr (.inl (0, 48, Pi1)))) ((.inr (.inl (0, 48, Pi2)))) ((.inr (.inl (0, 48, Pi3)))) ((.inr (.inl (0, 48, Pi4))))) H) := by
  refine teI (by decide) (Nat.le_of_ble_eq_true rfl) ?_
  intro p_ ev_ s mi_ below_ meth cd_ ls F hK hN hO hH hS hl
  have hH : TH E (tbC (dayD (.inl (0, 18))) (dayD (.inl (0, 18))) (riverD (.inl Fa1) (.inl Fb1) (.inl (0, 4)) 31 33 35 39 43 47) (riverD (.inl Fa2) (.inl Fb2) (.inl (0, 4)) 32 34 36 40 44 48) rc rd tp A14F A14F A4F A4F A14F A14F (riverD (.inl Fa3) (.inl Fb3) (.inl (0, 4)) 3 8 3 41 45 49) (riverD (.inl Fa4) (.inl Fb4) (.inl (0, 4)) 3 8 3 42 46 50) ((.inr (.inl (0, 12, Pd1)))) ((.inr (.inl (0, 12, Pd2)))) ((.inr (.inl (0, 12, Pd3)))) ((.inr (.inl (0, 12, Pd4)))) ((.inr (.inl (0, 12, Ps1)))) ((.inr (.inl (0, 12, Ps2)))) ((.inr (.inl (0, 12, Ps3)))) ((.inr (.inl (0, 12, Ps4)))) ((.inr (.inl (0, 48, Pi1)))) ((.inr (.inl (0, 48, Pi2)))) ((.inr (.inl (0, 48, Pi3)))) ((.inr (.inl (0, 48, Pi4))))) s.heap := hH
  have hl : lv_has ls 5 [(0, .ref a0), (1, .int a1)] := hl
  refine lv_iconst (v := 0) F.1 F.2.1 dX0_takenAt_0 (by decide) ?_
  refine topK (a := 0) (by decide) (fun k_1 hk_1 => ?_)
  refine lv_istore_n (lv' := [(2, .int k_1), (0, .ref a0), (1, .int a1)]) F.1 F.2.1 dX0_takenAt_1 rfl hl (by decide) rfl (fun ls hl => ?_)
  refine lv_iconst (v := 0) F.1 F.2.1 dX0_takenAt_2 (by decide) ?_
  refine topK (a := 0) (by decide) (fun k_2 hk_2 => ?_)
  refine lv_istore_n (lv' := [(3, .int k_2), (2, .int k_1), (0, .ref a0), (1, .int a1)]) F.1 F.2.1 dX0_takenAt_3 rfl hl (by decide) rfl (fun ls hl => ?_)
  refine wloop (σ := Int32 × Int32) (fun n9 x9 H locs ls => (18 - x9.2.toInt + 1).toNat < n9 ∧ (0 ≤ x9.2.toInt ∧ x9.2.toInt ≤ 18) ∧ TH E (tbC (dayD (.inl (0, 18))) (dayD (.inl (0, 18))) (riverD (.inl Fa1) (.inl Fb1) (.inl (0, 4)) 31 33 35 39 43 47) (riverD (.inl Fa2) (.inl Fb2) (.inl (0, 4)) 32 34 36 40 44 48) rc rd tp A14F A14F A4F A4F A14F A14F (riverD (.inl Fa3) (.inl Fb3) (.inl (0, 4)) 3 8 3 41 45 49) (riverD (.inl Fa4) (.inl Fb4) (.inl (0, 4)) 3 8 3 42 46 50) ((.inr (.inl (0, 12, Pd1)))) ((.inr (.inl (0, 12, Pd2)))) ((.inr (.inl (0, 12, Pd3)))) ((.inr (.inl (0, 12, Pd4)))) ((.inr (.inl (0, 12, Ps1)))) ((.inr (.inl (0, 12, Ps2)))) ((.inr (.inl (0, 12, Ps3)))) ((.inr (.inl (0, 12, Ps4)))) ((.inr (.inl (0, 48, Pi1)))) ((.inr (.inl (0, 48, Pi2)))) ((.inr (.inl (0, 48, Pi3)))) ((.inr (.inl (0, 48, Pi4))))) H ∧ va_S (eA E s.heap.size) s.heap H locs ∧ lv_has ls 5 [(0, .ref a0), (1, .int a1), (2, .int x9.1), (3, .int x9.2)]) ?_ (fun x9 H locs ls h => absurd h.1 (Nat.not_lt_zero _)) _ (k_1, k_2) ⟨Nat.lt_succ_self _, (wkb (eqb hk_2) rfl rfl), hH, hS, lv_sub hl [2, 3, 1, 0] rfl⟩
  intro n_4 ih_4 ⟨u_3, u_4⟩ H locs ls ⟨hm_4, hu_4, hH, hS, hl⟩
  have hm_4 : (18 - u_4.toInt + 1).toNat < n_4 + 1 := hm_4
  have hu_4 : (0 ≤ u_4.toInt ∧ u_4.toInt ≤ 18) := hu_4
  have hH : TH E (tbC (dayD (.inl (0, 18))) (dayD (.inl (0, 18))) (riverD (.inl Fa1) (.inl Fb1) (.inl (0, 4)) 31 33 35 39 43 47) (riverD (.inl Fa2) (.inl Fb2) (.inl (0, 4)) 32 34 36 40 44 48) rc rd tp A14F A14F A4F A4F A14F A14F (riverD (.inl Fa3) (.inl Fb3) (.inl (0, 4)) 3 8 3 41 45 49) (riverD (.inl Fa4) (.inl Fb4) (.inl (0, 4)) 3 8 3 42 46 50) ((.inr (.inl (0, 12, Pd1)))) ((.inr (.inl (0, 12, Pd2)))) ((.inr (.inl (0, 12, Pd3)))) ((.inr (.inl (0, 12, Pd4)))) ((.inr (.inl (0, 12, Ps1)))) ((.inr (.inl (0, 12, Ps2)))) ((.inr (.inl (0, 12, Ps3)))) ((.inr (.inl (0, 12, Ps4)))) ((.inr (.inl (0, 48, Pi1)))) ((.inr (.inl (0, 48, Pi2)))) ((.inr (.inl (0, 48, Pi3)))) ((.inr (.inl (0, 48, Pi4))))) H := hH
  have hl : lv_has ls 5 [(0, .ref a0), (1, .int a1), (2, .int u_3), (3, .int u_4)] := hl
  refine lv_iload_n F.1 F.2.1 dX0_takenAt_4 rfl (lv_at hl 3 rfl) ?_
  refine lv_aload_n F.1 F.2.1 dX0_takenAt_5 rfl (lv_at hl 0 rfl) ?_
  refine tGetI (j := 3) F hK hH (tyb ha0 (all2 rfl rfl)) rfl clX0 (by decide) wd_20_3 dX0_takenAt_6 (fun z_5 hz_5 => ?_)
  refine b_ge (tgt := 63) F dX0_takenAt_9 (by decide) (fun c_6 => ?_) (fun c_6 => ?_)
  · skip
    refine lv_iload_n F.1 F.2.1 dX0_takenAt_63 rfl (lv_at hl 2 rfl) ?_
    exact txI F hS dX0_takenAt_64 rfl (⟨(i32b _), hH⟩)
  · skip
    have r_7 : 0 ≤ u_4.toInt ∧ u_4.toInt ≤ 17 := by have h9_ := hu_4; omega
    have r_8 : 1 ≤ z_5.toInt ∧ z_5.toInt ≤ 18 := by have h9_ := hz_5; omega
    refine lv_aload_n F.1 F.2.1 dX0_takenAt_12 rfl (lv_at hl 0 rfl) ?_
    refine tGetR (j := 2) F hK hH (tyb ha0 (all2 rfl rfl)) rfl (all1 rfl) clX0 (by decide) wd_4_12 dX0_takenAt_13 (fun q_9 hq_9 _ => ?_)
    refine lv_iload_n F.1 F.2.1 dX0_takenAt_16 rfl (lv_at hl 3 rfl) ?_
    refine tIaldB F hK hH (tyb hq_9 (all1 rfl)) (ixb (n := 18) r_7 rfl rfl) dX0_takenAt_17 (fun z_10 hz_10 => ?_)
    refine lv_istore (lv' := [(4, .int z_10), (0, .ref a0), (1, .int a1), (2, .int u_3), (3, .int u_4)]) F.1 F.2.1 dX0_takenAt_18 hl (by decide) rfl (fun ls hl => ?_)
    refine lv_aload_n F.1 F.2.1 dX0_takenAt_20 rfl (lv_at hl 1 rfl) ?_
    refine tGetR (j := 4) F hK hH (tyb ha0 (all2 rfl rfl)) rfl (all1 rfl) clX0 (by decide) wd_4_13 dX0_takenAt_21 (fun q_11 hq_11 _ => ?_)
    refine lv_iload F.1 F.2.1 dX0_takenAt_24 (lv_at hl 0 rfl) ?_
    refine tIaldB F hK hH (tyb hq_11 (all1 rfl)) (ixb (n := 18) hz_10 rfl rfl) dX0_takenAt_26 (fun z_12 hz_12 => ?_)
    refine lv_iload_n F.1 F.2.1 dX0_takenAt_27 rfl (lv_at hl 2 rfl) ?_
    refine b_ne (tgt := 57) F dX0_takenAt_28 (by decide) (fun c_13 => ?_) (fun c_13 => ?_)
    · skip
      obtain ⟨x_15, ex_15, hx_15⟩ := iincB (c := 1) (lo := 1) (hi := 18) r_7 rfl
      refine lv_iinc (v := x_15) (lv' := [(3, .int x_15), (4, .int z_10), (0, .ref a0), (1, .int a1), (2, .int u_3)]) F.1 F.2.1 dX0_takenAt_57 hl (k := 4) rfl ex_15 (by decide) rfl (fun ls hl => ?_)
      refine lv_goto (tgt := 4) F.1 F.2.1 dX0_takenAt_60 (by decide) ?_
      exact ih_4 (u_3, x_15) _ _ _ ⟨(show (18 - x_15.toInt + 1).toNat < n_4 from by omega), (wkb hx_15.2 rfl rfl), hH, hS, lv_sub hl [2, 3, 4, 0] rfl⟩
    · skip
      have r_14 : 0 ≤ a1.toInt ∧ a1.toInt ≤ 11 := by have h9_ := (i32b a1); omega
      refine lv_iload_n F.1 F.2.1 dX0_takenAt_31 rfl (lv_at hl 3 rfl) ?_
      refine lv_iload F.1 F.2.1 dX0_takenAt_32 (lv_at hl 0 rfl) ?_
      refine lv_bipush (v := 14) F.1 F.2.1 dX0_takenAt_34 (by decide) ?_
      refine topK (a := 14) (by decide) (fun k_16 hk_16 => ?_)
      refine b_ge (tgt := 48) F dX0_takenAt_36 (by decide) (fun c_17 => ?_) (fun c_17 => ?_)
      · skip
        have r_18 : 14 ≤ z_10.toInt ∧ z_10.toInt ≤ 17 := by have h9_ := hz_10; omega
        refine lv_aload_n F.1 F.2.1 dX0_takenAt_48 rfl (lv_at hl 1 rfl) ?_
        refine tGetR (j := 8) F hK hH (tyb ha0 (all2 rfl rfl)) rfl (all1 rfl) clX0 (by decide) wd_4_17 dX0_takenAt_49 (fun q_20 hq_20 _ => ?_)
        refine lv_iload F.1 F.2.1 dX0_takenAt_52 (lv_at hl 0 rfl) ?_
        refine tIaldB F hK hH (tyb hq_20 (all1 rfl)) (ixb (n := 18) r_18 rfl rfl) dX0_takenAt_54 (fun z_21 hz_21 => ?_)
        refine lv_iadd F.1 F.2.1 dX0_takenAt_55 ?_
        refine topF (fun z_22 => ?_)
        refine lv_istore_n (lv' := [(2, .int z_22), (4, .int z_10), (0, .ref a0), (1, .int a1), (3, .int u_4)]) F.1 F.2.1 dX0_takenAt_56 rfl hl (by decide) rfl (fun ls hl => ?_)
        obtain ⟨x_23, ex_23, hx_23⟩ := iincB (c := 1) (lo := 1) (hi := 18) r_7 rfl
        refine lv_iinc (v := x_23) (lv' := [(3, .int x_23), (2, .int z_22), (4, .int z_10), (0, .ref a0), (1, .int a1)]) F.1 F.2.1 dX0_takenAt_57 hl (k := 4) rfl ex_23 (by decide) rfl (fun ls hl => ?_)
        refine lv_goto (tgt := 4) F.1 F.2.1 dX0_takenAt_60 (by decide) ?_
        exact ih_4 (z_22, x_23) _ _ _ ⟨(show (18 - x_23.toInt + 1).toNat < n_4 from by omega), (wkb hx_23.2 rfl rfl), hH, hS, lv_sub hl [3, 4, 1, 0] rfl⟩
      · skip
        have r_19 : 0 ≤ z_10.toInt ∧ z_10.toInt ≤ 13 := by have h9_ := hz_10; omega
        refine lv_aload_n F.1 F.2.1 dX0_takenAt_39 rfl (lv_at hl 1 rfl) ?_
        refine lv_iload F.1 F.2.1 dX0_takenAt_40 (lv_at hl 0 rfl) ?_
        refine tVi (b := a0) (As := [.int z_10]) (rest := [.int u_3]) F hK hN hO (c_X0_takenBy E rc rd tp Fa1 Fb1 Fa2 Fb2 Fa3 Fb3 Fa4 Fb4 Pd1 Pd2 Pd3 Pd4 Ps1 Ps2 Ps3 Ps4 Pi1 Pi2 Pi3 Pi4 a0 z_10 ha0 r_19 hFa1 hFb1 hFa2 hFb2 hFa3 hFb3 hFa4 hFb4 hPd1 hPd2 hPd3 hPd4 hPs1 hPs2 hPs3 hPs4 hPi1 hPi2 hPi3 hPi4) mv_X0_takenBy wd_23_16 ⟨Nat.le_of_ble_eq_true rfl, Nat.le_of_ble_eq_true rfl⟩ ⟨Nat.le_of_ble_eq_true rfl, Nat.le_of_ble_eq_true rfl⟩ hH hS (tRecv hK hH (tyb ha0 (all2 rfl rfl)) clX0) rfl hl.1 (Nat.le_of_ble_eq_true rfl) dX0_takenAt_42 (fun z_24 H locs hq hS => ?_)
        obtain ⟨f_25, hH⟩ := hq
        have hH : TH E (tbC (dayD (.inl (0, 18))) (dayD (.inl (0, 18))) (riverD (.inl Fa1) (.inl Fb1) (.inl (0, 4)) 31 33 35 39 43 47) (riverD (.inl Fa2) (.inl Fb2) (.inl (0, 4)) 32 34 36 40 44 48) rc rd tp A14F A14F A4F A4F A14F A14F (riverD (.inl Fa3) (.inl Fb3) (.inl (0, 4)) 3 8 3 41 45 49) (riverD (.inl Fa4) (.inl Fb4) (.inl (0, 4)) 3 8 3 42 46 50) ((.inr (.inl (0, 12, Pd1)))) ((.inr (.inl (0, 12, Pd2)))) ((.inr (.inl (0, 12, Pd3)))) ((.inr (.inl (0, 12, Pd4)))) ((.inr (.inl (0, 12, Ps1)))) ((.inr (.inl (0, 12, Ps2)))) ((.inr (.inl (0, 12, Ps3)))) ((.inr (.inl (0, 12, Ps4)))) ((.inr (.inl (0, 48, Pi1)))) ((.inr (.inl (0, 48, Pi2)))) ((.inr (.inl (0, 48, Pi3)))) ((.inr (.inl (0, 48, Pi4))))) H := hH
        refine lv_goto (tgt := 55) F.1 F.2.1 dX0_takenAt_45 (by decide) ?_
        refine lv_iadd F.1 F.2.1 dX0_takenAt_55 ?_
        refine topF (fun z_26 => ?_)
        refine lv_istore_n (lv' := [(2, .int z_26), (4, .int z_10), (0, .ref a0), (1, .int a1), (3, .int u_4)]) F.1 F.2.1 dX0_takenAt_56 rfl hl (by decide) rfl (fun ls hl => ?_)
        obtain ⟨x_27, ex_27, hx_27⟩ := iincB (c := 1) (lo := 1) (hi := 18) r_7 rfl
        refine lv_iinc (v := x_27) (lv' := [(3, .int x_27), (2, .int z_26), (4, .int z_10), (0, .ref a0), (1, .int a1)]) F.1 F.2.1 dX0_takenAt_57 hl (k := 4) rfl ex_27 (by decide) rfl (fun ls hl => ?_)
        refine lv_goto (tgt := 4) F.1 F.2.1 dX0_takenAt_60 (by decide) ?_
        exact ih_4 (z_26, x_27) _ _ _ ⟨(show (18 - x_27.toInt + 1).toNat < n_4 from by omega), (wkb hx_27.2 rfl rfl), hH, hS, lv_sub hl [3, 4, 1, 0] rfl⟩
set_option maxHeartbeats 4000000 in
set_option maxRecDepth 100000 in
theorem c_X0_filledInto (E : Ev) (rc : TD) (rd : TD) (tp : TD) (Fa1 : Int × Int) (Fb1 : Int × Int) (Fa2 : Int × Int) (Fb2 : Int × Int) (Fa3 : Int × Int) (Fb3 : Int × Int) (Fa4 : Int × Int) (Fb4 : Int × Int) (Pd1 : (Nat → Int32) → Prop) (Pd2 : (Nat → Int32) → Prop) (Pd3 : (Nat → Int32) → Prop) (Pd4 : (Nat → Int32) → Prop) (Ps1 : (Nat → Int32) → Prop) (Ps2 : (Nat → Int32) → Prop) (Ps3 : (Nat → Int32) → Prop) (Ps4 : (Nat → Int32) → Prop) (Pi1 : (Nat → Int32) → Prop) (Pi2 : (Nat → Int32) → Prop) (Pi3 : (Nat → Int32) → Prop) (Pi4 : (Nat → Int32) → Prop) (a0 : Nat) (a1 : Int32) (ha0 : eT E a0 ∈ [24, 25]) (ha1 : 0 ≤ a1.toInt ∧ a1.toInt ≤ 3) (hFa1 : 0 ≤ Fa1.1 ∧ Fa1.2 ≤ 12) (hFb1 : 0 ≤ Fb1.1 ∧ Fb1.2 ≤ 14) (hFa2 : 0 ≤ Fa2.1 ∧ Fa2.2 ≤ 12) (hFb2 : 0 ≤ Fb2.1 ∧ Fb2.2 ≤ 14) (hFa3 : 0 ≤ Fa3.1 ∧ Fa3.2 ≤ 12) (hFb3 : 0 ≤ Fb3.1 ∧ Fb3.2 ≤ 14) (hFa4 : 0 ≤ Fa4.1 ∧ Fa4.2 ≤ 12) (hFb4 : 0 ≤ Fb4.1 ∧ Fb4.2 ≤ 14) (hPd1 : ∀ f, Pd1 f → ivP 12 (-2) 11 f) (hPd2 : ∀ f, Pd2 f → ivP 12 (-2) 11 f) (hPd3 : ∀ f, Pd3 f → ivP 12 (-2) 11 f) (hPd4 : ∀ f, Pd4 f → ivP 12 (-2) 11 f) (hPs1 : ∀ f, Ps1 f → ivP 12 (-2147483648) 2147483647 f) (hPs2 : ∀ f, Ps2 f → ivP 12 (-2147483648) 2147483647 f) (hPs3 : ∀ f, Ps3 f → ivP 12 (-2147483648) 2147483647 f) (hPs4 : ∀ f, Ps4 f → ivP 12 (-2147483648) 2147483647 f) (hPi1 : ∀ f, Pi1 f → ivP 48 (-2147483648) 2147483647 f) (hPi2 : ∀ f, Pi2 f → ivP 48 (-2147483648) 2147483647 f) (hPi3 : ∀ f, Pi3 f → ivP 48 (-2147483648) 2147483647 f) (hPi4 : ∀ f, Pi4 f → ivP 48 (-2147483648) 2147483647 f) : TcI E yX0_filledInto cX0_filledInto 2 .int ({ frames := 1, cells := 0, slots := 0, locals := 40 }) [.ref a0, .int a1] (fun H => TH E (tbC (dayD (.inl (0, 18))) (dayD (.inl (0, 18))) (riverD (.inl Fa1) (.inl Fb1) (.inl (0, 4)) 31 33 35 39 43 47) (riverD (.inl Fa2) (.inl Fb2) (.inl (0, 4)) 32 34 36 40 44 48) rc rd tp A14F A14F A4F A4F A14F A14F (riverD (.inl Fa3) (.inl Fb3) (.inl (0, 4)) 3 8 3 41 45 49) (riverD (.inl Fa4) (.inl Fb4) (.inl (0, 4)) 3 8 3 42 46 50) ((.inr (.inl (0, 12, Pd1)))) ((.inr (.inl (0, 12, Pd2)))) ((.inr (.inl (0, 12, Pd3)))) ((.inr (.inl (0, 12, Pd4)))) ((.inr (.inl (0, 12, Ps1)))) ((.inr (.inl (0, 12, Ps2)))) ((.inr (.inl (0, 12, Ps3)))) ((.inr (.inl (0, 12, Ps4)))) ((.inr (.inl (0, 48, Pi1)))) ((.inr (.inl (0, 48, Pi2)))) ((.inr (.inl (0, 48, Pi3)))) ((.inr (.inl (0, 48, Pi4))))) H) (fun v H => ((-2147483648) ≤ v.toInt ∧ v.toInt ≤ 2147483647) ∧ TH E (tbC (dayD (.inl (0, 18))) (dayD (.inl (0, 18))) (riverD (.inl Fa1) (.inl Fb1) (.inl (0, 4)) 31 33 35 39 43 47) (riverD (.inl Fa2) (.inl Fb2) (.inl (0, 4)) 32 34 36 40 44 48) rc rd tp A14F A14F A4F A4F A14F A14F (riverD (.inl Fa3) (.inl Fb3) (.inl (0, 4)) 3 8 3 41 45 49) (riverD (.inl Fa4) (.inl Fb4) (.inl (0, 4)) 3 8 3 42 46 50) ((.inr (.inl (0, 12, Pd1)))) ((.inr (.inl (0, 12, Pd2)))) ((.inr (.inl (0, 12, Pd3)))) ((.inr (.inl (0, 12, Pd4)))) ((.inr (.inl (0, 12, Ps1)))) ((.inr (.inl (0, 12, Ps2)))) ((.inr (.inl (0, 12, Ps3)))) ((.inr (.inl (0, 12, Ps4)))) ((.inr (.inl (0, 48, Pi1)))) ((.inr (.inl (0, 48, Pi2)))) ((.inr (.inl (0, 48, Pi3)))) ((.inr (.inl (0, 48, Pi4))))) H) := by
  refine teI (by decide) (Nat.le_of_ble_eq_true rfl) ?_
  intro p_ ev_ s mi_ below_ meth cd_ ls F hK hN hO hH hS hl
  have hH : TH E (tbC (dayD (.inl (0, 18))) (dayD (.inl (0, 18))) (riverD (.inl Fa1) (.inl Fb1) (.inl (0, 4)) 31 33 35 39 43 47) (riverD (.inl Fa2) (.inl Fb2) (.inl (0, 4)) 32 34 36 40 44 48) rc rd tp A14F A14F A4F A4F A14F A14F (riverD (.inl Fa3) (.inl Fb3) (.inl (0, 4)) 3 8 3 41 45 49) (riverD (.inl Fa4) (.inl Fb4) (.inl (0, 4)) 3 8 3 42 46 50) ((.inr (.inl (0, 12, Pd1)))) ((.inr (.inl (0, 12, Pd2)))) ((.inr (.inl (0, 12, Pd3)))) ((.inr (.inl (0, 12, Pd4)))) ((.inr (.inl (0, 12, Ps1)))) ((.inr (.inl (0, 12, Ps2)))) ((.inr (.inl (0, 12, Ps3)))) ((.inr (.inl (0, 12, Ps4)))) ((.inr (.inl (0, 48, Pi1)))) ((.inr (.inl (0, 48, Pi2)))) ((.inr (.inl (0, 48, Pi3)))) ((.inr (.inl (0, 48, Pi4))))) s.heap := hH
  have hl : lv_has ls 2 [(0, .ref a0), (1, .int a1)] := hl
  refine lv_aload_n F.1 F.2.1 dX0_filledInto_0 rfl (lv_at hl 0 rfl) ?_
  refine tGetR (j := 8) F hK hH (tyb ha0 (all2 rfl rfl)) rfl (all1 rfl) clX0 (by decide) wd_4_17 dX0_filledInto_1 (fun q_1 hq_1 _ => ?_)
  refine lv_bipush (v := 14) F.1 F.2.1 dX0_filledInto_4 (by decide) ?_
  refine topK (a := 14) (by decide) (fun k_2 hk_2 => ?_)
  refine lv_iload_n F.1 F.2.1 dX0_filledInto_6 rfl (lv_at hl 1 rfl) ?_
  refine tAdd (lo := 14) (hi := 17) F dX0_filledInto_7 (eqb hk_2) ha1 rfl (fun z_3 hz_3 => ?_)
  refine tIaldB F hK hH (tyb hq_1 (all1 rfl)) (ixb (n := 18) hz_3.2 rfl rfl) dX0_filledInto_8 (fun z_4 hz_4 => ?_)
  exact txI F hS dX0_filledInto_9 rfl (⟨hz_4, hH⟩)
set_option maxHeartbeats 4000000 in
set_option maxRecDepth 100000 in
theorem c_X0_contentBehind (E : Ev) (rc : TD) (rd : TD) (tp : TD) (Fa1 : Int × Int) (Fb1 : Int × Int) (Fa2 : Int × Int) (Fb2 : Int × Int) (Fa3 : Int × Int) (Fb3 : Int × Int) (Fa4 : Int × Int) (Fb4 : Int × Int) (Pd1 : (Nat → Int32) → Prop) (Pd2 : (Nat → Int32) → Prop) (Pd3 : (Nat → Int32) → Prop) (Pd4 : (Nat → Int32) → Prop) (Ps1 : (Nat → Int32) → Prop) (Ps2 : (Nat → Int32) → Prop) (Ps3 : (Nat → Int32) → Prop) (Ps4 : (Nat → Int32) → Prop) (Pi1 : (Nat → Int32) → Prop) (Pi2 : (Nat → Int32) → Prop) (Pi3 : (Nat → Int32) → Prop) (Pi4 : (Nat → Int32) → Prop) (a0 : Nat) (a1 : Int32) (ha0 : eT E a0 ∈ [24, 25]) (ha1 : 0 ≤ a1.toInt ∧ a1.toInt ≤ 3) (hFa1 : 0 ≤ Fa1.1 ∧ Fa1.2 ≤ 12) (hFb1 : 0 ≤ Fb1.1 ∧ Fb1.2 ≤ 14) (hFa2 : 0 ≤ Fa2.1 ∧ Fa2.2 ≤ 12) (hFb2 : 0 ≤ Fb2.1 ∧ Fb2.2 ≤ 14) (hFa3 : 0 ≤ Fa3.1 ∧ Fa3.2 ≤ 12) (hFb3 : 0 ≤ Fb3.1 ∧ Fb3.2 ≤ 14) (hFa4 : 0 ≤ Fa4.1 ∧ Fa4.2 ≤ 12) (hFb4 : 0 ≤ Fb4.1 ∧ Fb4.2 ≤ 14) (hPd1 : ∀ f, Pd1 f → ivP 12 (-2) 11 f) (hPd2 : ∀ f, Pd2 f → ivP 12 (-2) 11 f) (hPd3 : ∀ f, Pd3 f → ivP 12 (-2) 11 f) (hPd4 : ∀ f, Pd4 f → ivP 12 (-2) 11 f) (hPs1 : ∀ f, Ps1 f → ivP 12 (-2147483648) 2147483647 f) (hPs2 : ∀ f, Ps2 f → ivP 12 (-2147483648) 2147483647 f) (hPs3 : ∀ f, Ps3 f → ivP 12 (-2147483648) 2147483647 f) (hPs4 : ∀ f, Ps4 f → ivP 12 (-2147483648) 2147483647 f) (hPi1 : ∀ f, Pi1 f → ivP 48 (-2147483648) 2147483647 f) (hPi2 : ∀ f, Pi2 f → ivP 48 (-2147483648) 2147483647 f) (hPi3 : ∀ f, Pi3 f → ivP 48 (-2147483648) 2147483647 f) (hPi4 : ∀ f, Pi4 f → ivP 48 (-2147483648) 2147483647 f) : TcI E yX0_contentBehind cX0_contentBehind 2 .int ({ frames := 2, cells := 0, slots := 0, locals := 61 }) [.ref a0, .int a1] (fun H => TH E (tbC (dayD (.inl (0, 18))) (dayD (.inl (0, 18))) (riverD (.inl Fa1) (.inl Fb1) (.inl (0, 4)) 31 33 35 39 43 47) (riverD (.inl Fa2) (.inl Fb2) (.inl (0, 4)) 32 34 36 40 44 48) rc rd tp A14F A14F A4F A4F A14F A14F (riverD (.inl Fa3) (.inl Fb3) (.inl (0, 4)) 3 8 3 41 45 49) (riverD (.inl Fa4) (.inl Fb4) (.inl (0, 4)) 3 8 3 42 46 50) ((.inr (.inl (0, 12, Pd1)))) ((.inr (.inl (0, 12, Pd2)))) ((.inr (.inl (0, 12, Pd3)))) ((.inr (.inl (0, 12, Pd4)))) ((.inr (.inl (0, 12, Ps1)))) ((.inr (.inl (0, 12, Ps2)))) ((.inr (.inl (0, 12, Ps3)))) ((.inr (.inl (0, 12, Ps4)))) ((.inr (.inl (0, 48, Pi1)))) ((.inr (.inl (0, 48, Pi2)))) ((.inr (.inl (0, 48, Pi3)))) ((.inr (.inl (0, 48, Pi4))))) H) (fun v H => ((-2147483648) ≤ v.toInt ∧ v.toInt ≤ 2147483647) ∧ TH E (tbC (dayD (.inl (0, 18))) (dayD (.inl (0, 18))) (riverD (.inl Fa1) (.inl Fb1) (.inl (0, 4)) 31 33 35 39 43 47) (riverD (.inl Fa2) (.inl Fb2) (.inl (0, 4)) 32 34 36 40 44 48) rc rd tp A14F A14F A4F A4F A14F A14F (riverD (.inl Fa3) (.inl Fb3) (.inl (0, 4)) 3 8 3 41 45 49) (riverD (.inl Fa4) (.inl Fb4) (.inl (0, 4)) 3 8 3 42 46 50) ((.inr (.inl (0, 12, Pd1)))) ((.inr (.inl (0, 12, Pd2)))) ((.inr (.inl (0, 12, Pd3)))) ((.inr (.inl (0, 12, Pd4)))) ((.inr (.inl (0, 12, Ps1)))) ((.inr (.inl (0, 12, Ps2)))) ((.inr (.inl (0, 12, Ps3)))) ((.inr (.inl (0, 12, Ps4)))) ((.inr (.inl (0, 48, Pi1)))) ((.inr (.inl (0, 48, Pi2)))) ((.inr (.inl (0, 48, Pi3)))) ((.inr (.inl (0, 48, Pi4))))) H) := by
  refine teI (by decide) (Nat.le_of_ble_eq_true rfl) ?_
  intro p_ ev_ s mi_ below_ meth cd_ ls F hK hN hO hH hS hl
  have hH : TH E (tbC (dayD (.inl (0, 18))) (dayD (.inl (0, 18))) (riverD (.inl Fa1) (.inl Fb1) (.inl (0, 4)) 31 33 35 39 43 47) (riverD (.inl Fa2) (.inl Fb2) (.inl (0, 4)) 32 34 36 40 44 48) rc rd tp A14F A14F A4F A4F A14F A14F (riverD (.inl Fa3) (.inl Fb3) (.inl (0, 4)) 3 8 3 41 45 49) (riverD (.inl Fa4) (.inl Fb4) (.inl (0, 4)) 3 8 3 42 46 50) ((.inr (.inl (0, 12, Pd1)))) ((.inr (.inl (0, 12, Pd2)))) ((.inr (.inl (0, 12, Pd3)))) ((.inr (.inl (0, 12, Pd4)))) ((.inr (.inl (0, 12, Ps1)))) ((.inr (.inl (0, 12, Ps2)))) ((.inr (.inl (0, 12, Ps3)))) ((.inr (.inl (0, 12, Ps4)))) ((.inr (.inl (0, 48, Pi1)))) ((.inr (.inl (0, 48, Pi2)))) ((.inr (.inl (0, 48, Pi3)))) ((.inr (.inl (0, 48, Pi4))))) s.heap := hH
  have hl : lv_has ls 2 [(0, .ref a0), (1, .int a1)] := hl
  refine lv_aload_n F.1 F.2.1 dX0_contentBehind_0 rfl (lv_at hl 0 rfl) ?_
  refine tGetR (j := 1) F hK hH (tyb ha0 (all2 rfl rfl)) rfl (all1 rfl) clX0 (by decide) wd_5_0 dX0_contentBehind_1 (fun q_1 hq_1 _ => ?_)
  refine tGetR (j := 8) F hK hH (tyb hq_1 (all1 rfl)) rfl (all1 rfl) clX5 (by decide) wd_21_4 dX0_contentBehind_4 (fun q_2 hq_2 _ => ?_)
  refine lv_iload_n F.1 F.2.1 dX0_contentBehind_7 rfl (lv_at hl 1 rfl) ?_
  refine tIaldB F hK hH (tyb hq_2 (all1 rfl)) (ixb (n := 4) ha1 rfl rfl) dX0_contentBehind_8 (fun z_3 hz_3 => ?_)
  refine lv_aload_n F.1 F.2.1 dX0_contentBehind_9 rfl (lv_at hl 0 rfl) ?_
  refine lv_iload_n F.1 F.2.1 dX0_contentBehind_10 rfl (lv_at hl 1 rfl) ?_
  refine tVi (b := a0) (As := [.int a1]) (rest := [.int z_3]) F hK hN hO (c_X0_filledInto E rc rd tp Fa1 Fb1 Fa2 Fb2 Fa3 Fb3 Fa4 Fb4 Pd1 Pd2 Pd3 Pd4 Ps1 Ps2 Ps3 Ps4 Pi1 Pi2 Pi3 Pi4 a0 a1 ha0 ha1 hFa1 hFb1 hFa2 hFb2 hFa3 hFb3 hFa4 hFb4 hPd1 hPd2 hPd3 hPd4 hPs1 hPs2 hPs3 hPs4 hPi1 hPi2 hPi3 hPi4) mv_X0_filledInto wd_24_22 ⟨Nat.le_of_ble_eq_true rfl, Nat.le_of_ble_eq_true rfl⟩ ⟨Nat.le_of_ble_eq_true rfl, Nat.le_of_ble_eq_true rfl⟩ hH hS (tRecv hK hH (tyb ha0 (all2 rfl rfl)) clX0) rfl hl.1 (Nat.le_of_ble_eq_true rfl) dX0_contentBehind_11 (fun z_4 H locs hq hS => ?_)
  obtain ⟨f_5, hH⟩ := hq
  have hH : TH E (tbC (dayD (.inl (0, 18))) (dayD (.inl (0, 18))) (riverD (.inl Fa1) (.inl Fb1) (.inl (0, 4)) 31 33 35 39 43 47) (riverD (.inl Fa2) (.inl Fb2) (.inl (0, 4)) 32 34 36 40 44 48) rc rd tp A14F A14F A4F A4F A14F A14F (riverD (.inl Fa3) (.inl Fb3) (.inl (0, 4)) 3 8 3 41 45 49) (riverD (.inl Fa4) (.inl Fb4) (.inl (0, 4)) 3 8 3 42 46 50) ((.inr (.inl (0, 12, Pd1)))) ((.inr (.inl (0, 12, Pd2)))) ((.inr (.inl (0, 12, Pd3)))) ((.inr (.inl (0, 12, Pd4)))) ((.inr (.inl (0, 12, Ps1)))) ((.inr (.inl (0, 12, Ps2)))) ((.inr (.inl (0, 12, Ps3)))) ((.inr (.inl (0, 12, Ps4)))) ((.inr (.inl (0, 48, Pi1)))) ((.inr (.inl (0, 48, Pi2)))) ((.inr (.inl (0, 48, Pi3)))) ((.inr (.inl (0, 48, Pi4))))) H := hH
  refine lv_iadd F.1 F.2.1 dX0_contentBehind_14 ?_
  refine topF (fun z_6 => ?_)
  refine lv_aload_n F.1 F.2.1 dX0_contentBehind_15 rfl (lv_at hl 0 rfl) ?_
  refine tGetR (j := 11) F hK hH (tyb ha0 (all2 rfl rfl)) rfl (all1 rfl) clX0 (by decide) wd_4_20 dX0_contentBehind_16 (fun q_7 hq_7 _ => ?_)
  refine lv_iload_n F.1 F.2.1 dX0_contentBehind_19 rfl (lv_at hl 1 rfl) ?_
  refine tIaldB F hK hH (tyb hq_7 (all1 rfl)) (ixb (n := 4) ha1 rfl rfl) dX0_contentBehind_20 (fun z_8 hz_8 => ?_)
  refine lv_isub F.1 F.2.1 dX0_contentBehind_21 ?_
  refine topF (fun z_9 => ?_)
  refine lv_aload_n F.1 F.2.1 dX0_contentBehind_22 rfl (lv_at hl 0 rfl) ?_
  refine tGetR (j := 12) F hK hH (tyb ha0 (all2 rfl rfl)) rfl (all1 rfl) clX0 (by decide) wd_4_21 dX0_contentBehind_23 (fun q_10 hq_10 _ => ?_)
  refine lv_iload_n F.1 F.2.1 dX0_contentBehind_26 rfl (lv_at hl 1 rfl) ?_
  refine tIaldB F hK hH (tyb hq_10 (all1 rfl)) (ixb (n := 4) ha1 rfl rfl) dX0_contentBehind_27 (fun z_11 hz_11 => ?_)
  refine lv_isub F.1 F.2.1 dX0_contentBehind_28 ?_
  refine topF (fun z_12 => ?_)
  exact txI F hS dX0_contentBehind_29 rfl (⟨(i32b _), hH⟩)
set_option maxHeartbeats 4000000 in
set_option maxRecDepth 100000 in
theorem c_X0_passReaches (E : Ev) (rc : TD) (rd : TD) (tp : TD) (Fa1 : Int × Int) (Fb1 : Int × Int) (Fa2 : Int × Int) (Fb2 : Int × Int) (Fa3 : Int × Int) (Fb3 : Int × Int) (Fa4 : Int × Int) (Fb4 : Int × Int) (Pd1 : (Nat → Int32) → Prop) (Pd2 : (Nat → Int32) → Prop) (Pd3 : (Nat → Int32) → Prop) (Pd4 : (Nat → Int32) → Prop) (Ps1 : (Nat → Int32) → Prop) (Ps2 : (Nat → Int32) → Prop) (Ps3 : (Nat → Int32) → Prop) (Ps4 : (Nat → Int32) → Prop) (Pi1 : (Nat → Int32) → Prop) (Pi2 : (Nat → Int32) → Prop) (Pi3 : (Nat → Int32) → Prop) (Pi4 : (Nat → Int32) → Prop) (a0 : Nat) (ha0 : eT E a0 ∈ [24, 25]) (hFa1 : 0 ≤ Fa1.1 ∧ Fa1.2 ≤ 12) (hFb1 : 0 ≤ Fb1.1 ∧ Fb1.2 ≤ 14) (hFa2 : 0 ≤ Fa2.1 ∧ Fa2.2 ≤ 12) (hFb2 : 0 ≤ Fb2.1 ∧ Fb2.2 ≤ 14) (hFa3 : 0 ≤ Fa3.1 ∧ Fa3.2 ≤ 12) (hFb3 : 0 ≤ Fb3.1 ∧ Fb3.2 ≤ 14) (hFa4 : 0 ≤ Fa4.1 ∧ Fa4.2 ≤ 12) (hFb4 : 0 ≤ Fb4.1 ∧ Fb4.2 ≤ 14) (hPd1 : ∀ f, Pd1 f → ivP 12 (-2) 11 f) (hPd2 : ∀ f, Pd2 f → ivP 12 (-2) 11 f) (hPd3 : ∀ f, Pd3 f → ivP 12 (-2) 11 f) (hPd4 : ∀ f, Pd4 f → ivP 12 (-2) 11 f) (hPs1 : ∀ f, Ps1 f → ivP 12 (-2147483648) 2147483647 f) (hPs2 : ∀ f, Ps2 f → ivP 12 (-2147483648) 2147483647 f) (hPs3 : ∀ f, Ps3 f → ivP 12 (-2147483648) 2147483647 f) (hPs4 : ∀ f, Ps4 f → ivP 12 (-2147483648) 2147483647 f) (hPi1 : ∀ f, Pi1 f → ivP 48 (-2147483648) 2147483647 f) (hPi2 : ∀ f, Pi2 f → ivP 48 (-2147483648) 2147483647 f) (hPi3 : ∀ f, Pi3 f → ivP 48 (-2147483648) 2147483647 f) (hPi4 : ∀ f, Pi4 f → ivP 48 (-2147483648) 2147483647 f) : TcV E yX0_passReaches cX0_passReaches 3 ({ frames := 2, cells := 0, slots := 0, locals := 62 }) [.ref a0] (fun H => TH E (tbC (dayD (.inl (0, 18))) (dayD (.inl (0, 18))) (riverD (.inl Fa1) (.inl Fb1) (.inl (0, 4)) 31 33 35 39 43 47) (riverD (.inl Fa2) (.inl Fb2) (.inl (0, 4)) 32 34 36 40 44 48) rc rd tp A14F A14F A4F A4F A14F A14F (riverD (.inl Fa3) (.inl Fb3) (.inl (0, 4)) 3 8 3 41 45 49) (riverD (.inl Fa4) (.inl Fb4) (.inl (0, 4)) 3 8 3 42 46 50) ((.inr (.inl (0, 12, Pd1)))) ((.inr (.inl (0, 12, Pd2)))) ((.inr (.inl (0, 12, Pd3)))) ((.inr (.inl (0, 12, Pd4)))) ((.inr (.inl (0, 12, Ps1)))) ((.inr (.inl (0, 12, Ps2)))) ((.inr (.inl (0, 12, Ps3)))) ((.inr (.inl (0, 12, Ps4)))) ((.inr (.inl (0, 48, Pi1)))) ((.inr (.inl (0, 48, Pi2)))) ((.inr (.inl (0, 48, Pi3)))) ((.inr (.inl (0, 48, Pi4))))) H) (fun H => TH E (tbC (dayD (.inl (0, 18))) (dayD (.inl (0, 18))) (riverD (.inl Fa1) (.inl Fb1) (.inl (0, 4)) 31 33 35 39 43 47) (riverD (.inl Fa2) (.inl Fb2) (.inl (0, 4)) 32 34 36 40 44 48) rc rd tp A14F A14F A4F A4F A14F A14F (riverD (.inl Fa3) (.inl Fb3) (.inl (0, 4)) 3 8 3 41 45 49) (riverD (.inl Fa4) (.inl Fb4) (.inl (0, 4)) 3 8 3 42 46 50) ((.inr (.inl (0, 12, Pd1)))) ((.inr (.inl (0, 12, Pd2)))) ((.inr (.inl (0, 12, Pd3)))) ((.inr (.inl (0, 12, Pd4)))) ((.inr (.inl (0, 12, Ps1)))) ((.inr (.inl (0, 12, Ps2)))) ((.inr (.inl (0, 12, Ps3)))) ((.inr (.inl (0, 12, Ps4)))) ((.inr (.inl (0, 48, Pi1)))) ((.inr (.inl (0, 48, Pi2)))) ((.inr (.inl (0, 48, Pi3)))) ((.inr (.inl (0, 48, Pi4))))) H) := by
  refine teV (by decide) (Nat.le_of_ble_eq_true rfl) ?_
  intro p_ ev_ s mi_ below_ meth cd_ ls F hK hN hO hH hS hl
  have hH : TH E (tbC (dayD (.inl (0, 18))) (dayD (.inl (0, 18))) (riverD (.inl Fa1) (.inl Fb1) (.inl (0, 4)) 31 33 35 39 43 47) (riverD (.inl Fa2) (.inl Fb2) (.inl (0, 4)) 32 34 36 40 44 48) rc rd tp A14F A14F A4F A4F A14F A14F (riverD (.inl Fa3) (.inl Fb3) (.inl (0, 4)) 3 8 3 41 45 49) (riverD (.inl Fa4) (.inl Fb4) (.inl (0, 4)) 3 8 3 42 46 50) ((.inr (.inl (0, 12, Pd1)))) ((.inr (.inl (0, 12, Pd2)))) ((.inr (.inl (0, 12, Pd3)))) ((.inr (.inl (0, 12, Pd4)))) ((.inr (.inl (0, 12, Ps1)))) ((.inr (.inl (0, 12, Ps2)))) ((.inr (.inl (0, 12, Ps3)))) ((.inr (.inl (0, 12, Ps4)))) ((.inr (.inl (0, 48, Pi1)))) ((.inr (.inl (0, 48, Pi2)))) ((.inr (.inl (0, 48, Pi3)))) ((.inr (.inl (0, 48, Pi4))))) s.heap := hH
  have hl : lv_has ls 3 [(0, .ref a0)] := hl
  refine lv_aload_n F.1 F.2.1 dX0_passReaches_0 rfl (lv_at hl 0 rfl) ?_
  refine tGetR (j := 1) F hK hH (tyb ha0 (all2 rfl rfl)) rfl (all1 rfl) clX0 (by decide) wd_5_0 dX0_passReaches_1 (fun q_1 hq_1 _ => ?_)
  refine lv_iconst (v := 0) F.1 F.2.1 dX0_passReaches_4 (by decide) ?_
  refine topK (a := 0) (by decide) (fun k_2 hk_2 => ?_)
  refine tVi (b := q_1) (As := [.int k_2]) (rest := []) F hK hN hO (c_X5_wayRow E (dayD (.inl (0, 18))) (dayD (.inl (0, 18))) (riverD (.inl Fa1) (.inl Fb1) (.inl (0, 4)) 31 33 35 39 43 47) (riverD (.inl Fa2) (.inl Fb2) (.inl (0, 4)) 32 34 36 40 44 48) rc rd tp A14F A14F A4F A4F A14F A14F (riverD (.inl Fa3) (.inl Fb3) (.inl (0, 4)) 3 8 3 41 45 49) (riverD (.inl Fa4) (.inl Fb4) (.inl (0, 4)) 3 8 3 42 46 50) ((.inr (.inl (0, 12, Pd1)))) ((.inr (.inl (0, 12, Pd2)))) ((.inr (.inl (0, 12, Pd3)))) ((.inr (.inl (0, 12, Pd4)))) ((.inr (.inl (0, 12, Ps1)))) ((.inr (.inl (0, 12, Ps2)))) ((.inr (.inl (0, 12, Ps3)))) ((.inr (.inl (0, 12, Ps4)))) ((.inr (.inl (0, 48, Pi1)))) ((.inr (.inl (0, 48, Pi2)))) ((.inr (.inl (0, 48, Pi3)))) ((.inr (.inl (0, 48, Pi4)))) q_1 k_2 hq_1 (wkb (eqb hk_2) rfl rfl)) mv_X5_wayRow wd_22_10 ⟨Nat.le_of_ble_eq_true rfl, Nat.le_of_ble_eq_true rfl⟩ ⟨Nat.le_of_ble_eq_true rfl, Nat.le_of_ble_eq_true rfl⟩ hH hS (tRecv hK hH (tyb hq_1 (all1 rfl)) clX5) rfl hl.1 (Nat.le_of_ble_eq_true rfl) dX0_passReaches_5 (fun z_3 H locs hq hS => ?_)
  obtain ⟨f_4, hH⟩ := hq
  have hH : TH E (tbC (dayD (.inl (0, 18))) (dayD (.inl (0, 18))) (riverD (.inl Fa1) (.inl Fb1) (.inl (0, 4)) 31 33 35 39 43 47) (riverD (.inl Fa2) (.inl Fb2) (.inl (0, 4)) 32 34 36 40 44 48) rc rd tp A14F A14F A4F A4F A14F A14F (riverD (.inl Fa3) (.inl Fb3) (.inl (0, 4)) 3 8 3 41 45 49) (riverD (.inl Fa4) (.inl Fb4) (.inl (0, 4)) 3 8 3 42 46 50) ((.inr (.inl (0, 12, Pd1)))) ((.inr (.inl (0, 12, Pd2)))) ((.inr (.inl (0, 12, Pd3)))) ((.inr (.inl (0, 12, Pd4)))) ((.inr (.inl (0, 12, Ps1)))) ((.inr (.inl (0, 12, Ps2)))) ((.inr (.inl (0, 12, Ps3)))) ((.inr (.inl (0, 12, Ps4)))) ((.inr (.inl (0, 48, Pi1)))) ((.inr (.inl (0, 48, Pi2)))) ((.inr (.inl (0, 48, Pi3)))) ((.inr (.inl (0, 48, Pi4))))) H := hH
  refine lv_istore_n (lv' := [(1, .int z_3), (0, .ref a0)]) F.1 F.2.1 dX0_passReaches_8 rfl hl (by decide) rfl (fun ls hl => ?_)
  refine lv_iconst (v := 0) F.1 F.2.1 dX0_passReaches_9 (by decide) ?_
  refine topK (a := 0) (by decide) (fun k_5 hk_5 => ?_)
  refine lv_istore_n (lv' := [(2, .int k_5), (1, .int z_3), (0, .ref a0)]) F.1 F.2.1 dX0_passReaches_10 rfl hl (by decide) rfl (fun ls hl => ?_)
  refine wloop (σ := Int32) (fun n9 x9 H locs ls => (12 - x9.toInt + 1).toNat < n9 ∧ (0 ≤ x9.toInt ∧ x9.toInt ≤ 12) ∧ TH E (tbC (dayD (.inl (0, 18))) (dayD (.inl (0, 18))) (riverD (.inl Fa1) (.inl Fb1) (.inl (0, 4)) 31 33 35 39 43 47) (riverD (.inl Fa2) (.inl Fb2) (.inl (0, 4)) 32 34 36 40 44 48) rc rd tp A14F A14F A4F A4F A14F A14F (riverD (.inl Fa3) (.inl Fb3) (.inl (0, 4)) 3 8 3 41 45 49) (riverD (.inl Fa4) (.inl Fb4) (.inl (0, 4)) 3 8 3 42 46 50) ((.inr (.inl (0, 12, Pd1)))) ((.inr (.inl (0, 12, Pd2)))) ((.inr (.inl (0, 12, Pd3)))) ((.inr (.inl (0, 12, Pd4)))) ((.inr (.inl (0, 12, Ps1)))) ((.inr (.inl (0, 12, Ps2)))) ((.inr (.inl (0, 12, Ps3)))) ((.inr (.inl (0, 12, Ps4)))) ((.inr (.inl (0, 48, Pi1)))) ((.inr (.inl (0, 48, Pi2)))) ((.inr (.inl (0, 48, Pi3)))) ((.inr (.inl (0, 48, Pi4))))) H ∧ va_S (eA E s.heap.size) s.heap H locs ∧ lv_has ls 3 [(0, .ref a0), (1, .int z_3), (2, .int x9)]) ?_ (fun x9 H locs ls h => absurd h.1 (Nat.not_lt_zero _)) _ (k_5) ⟨Nat.lt_succ_self _, (wkb (eqb hk_5) rfl rfl), hH, hS, lv_sub hl [2, 1, 0] rfl⟩
  intro n_11 ih_11 u_6 H locs ls ⟨hm_11, hu_6, hH, hS, hl⟩
  have hm_11 : (12 - u_6.toInt + 1).toNat < n_11 + 1 := hm_11
  have hu_6 : (0 ≤ u_6.toInt ∧ u_6.toInt ≤ 12) := hu_6
  have hH : TH E (tbC (dayD (.inl (0, 18))) (dayD (.inl (0, 18))) (riverD (.inl Fa1) (.inl Fb1) (.inl (0, 4)) 31 33 35 39 43 47) (riverD (.inl Fa2) (.inl Fb2) (.inl (0, 4)) 32 34 36 40 44 48) rc rd tp A14F A14F A4F A4F A14F A14F (riverD (.inl Fa3) (.inl Fb3) (.inl (0, 4)) 3 8 3 41 45 49) (riverD (.inl Fa4) (.inl Fb4) (.inl (0, 4)) 3 8 3 42 46 50) ((.inr (.inl (0, 12, Pd1)))) ((.inr (.inl (0, 12, Pd2)))) ((.inr (.inl (0, 12, Pd3)))) ((.inr (.inl (0, 12, Pd4)))) ((.inr (.inl (0, 12, Ps1)))) ((.inr (.inl (0, 12, Ps2)))) ((.inr (.inl (0, 12, Ps3)))) ((.inr (.inl (0, 12, Ps4)))) ((.inr (.inl (0, 48, Pi1)))) ((.inr (.inl (0, 48, Pi2)))) ((.inr (.inl (0, 48, Pi3)))) ((.inr (.inl (0, 48, Pi4))))) H := hH
  have hl : lv_has ls 3 [(0, .ref a0), (1, .int z_3), (2, .int u_6)] := hl
  refine lv_iload_n F.1 F.2.1 dX0_passReaches_11 rfl (lv_at hl 2 rfl) ?_
  refine lv_aload_n F.1 F.2.1 dX0_passReaches_12 rfl (lv_at hl 0 rfl) ?_
  refine tGetR0 (j := 0) F hK hH (tyb ha0 (all2 rfl rfl)) rfl clX0 (by decide) wd_4_23 dX0_passReaches_13 (fun q_7 hq_7 => ?_)
  refine tGetIB (j := 0) (lo := 0) (hi := 12) F hK hH hq_7 (alls ⟨_, _, rfl, rfl, by have h9_ := hFa1; omega⟩ (alls1 ⟨_, _, rfl, rfl, by have h9_ := hFa2; omega⟩)) clX2 (by decide) wd_21_6 dX0_passReaches_16 (fun z_8 hz_8 => ?_)
  refine b_ge (tgt := 139) F dX0_passReaches_19 (by decide) (fun c_9 => ?_) (fun c_9 => ?_)
  · skip
    exact txV F hS dX0_passReaches_139 (hH)
  · skip
    have r_10 : 0 ≤ u_6.toInt ∧ u_6.toInt ≤ 11 := by have h9_ := hu_6; omega
    have r_11 : 1 ≤ z_8.toInt ∧ z_8.toInt ≤ 12 := by have h9_ := hz_8; omega
    refine lv_aload_n F.1 F.2.1 dX0_passReaches_22 rfl (lv_at hl 0 rfl) ?_
    refine tGetR (j := 1) F hK hH (tyb ha0 (all2 rfl rfl)) rfl (all1 rfl) clX0 (by decide) wd_5_0 dX0_passReaches_23 (fun q_12 hq_12 _ => ?_)
    refine tGetR (j := 12) F hK hH (tyb hq_12 (all1 rfl)) rfl (all1 rfl) clX5 (by decide) wd_24_5 dX0_passReaches_26 (fun q_13 hq_13 _ => ?_)
    refine lv_iconst (v := 0) F.1 F.2.1 dX0_passReaches_29 (by decide) ?_
    refine topK (a := 0) (by decide) (fun k_14 hk_14 => ?_)
    refine lv_dup2_11 F.1 F.2.1 dX0_passReaches_30 rfl rfl ?_
    refine tLald F hK hH (tyb hq_13 (all1 rfl)) (ixb (n := 6) (eqb hk_14) rfl rfl) dX0_passReaches_31 (fun w_15 => ?_)
    refine lv_aload_n F.1 F.2.1 dX0_passReaches_32 rfl (lv_at hl 0 rfl) ?_
    refine lv_iload_n F.1 F.2.1 dX0_passReaches_33 rfl (lv_at hl 2 rfl) ?_
    refine tVi (b := a0) (As := [.int u_6]) (rest := [.long w_15, .int k_14, .ref q_13]) F hK hN hO (c_X0_inflowOf E rc rd tp Fa1 Fb1 Fa2 Fb2 Fa3 Fb3 Fa4 Fb4 Pd1 Pd2 Pd3 Pd4 Ps1 Ps2 Ps3 Ps4 Pi1 Pi2 Pi3 Pi4 a0 u_6 ha0 r_10 hFa1 hFb1 hFa2 hFb2 hFa3 hFb3 hFa4 hFb4 hPd1 hPd2 hPd3 hPd4 hPs1 hPs2 hPs3 hPs4 hPi1 hPi2 hPi3 hPi4) mv_X0_inflowOf wd_21_23 ⟨Nat.le_of_ble_eq_true rfl, Nat.le_of_ble_eq_true rfl⟩ ⟨Nat.le_of_ble_eq_true rfl, Nat.le_of_ble_eq_true rfl⟩ hH hS (tRecv hK hH (tyb ha0 (all2 rfl rfl)) clX0) rfl hl.1 (Nat.le_of_ble_eq_true rfl) dX0_passReaches_34 (fun z_16 H locs hq hS => ?_)
    obtain ⟨f_17, hH⟩ := hq
    have hH : TH E (tbC (dayD (.inl (0, 18))) (dayD (.inl (0, 18))) (riverD (.inl Fa1) (.inl Fb1) (.inl (0, 4)) 31 33 35 39 43 47) (riverD (.inl Fa2) (.inl Fb2) (.inl (0, 4)) 32 34 36 40 44 48) rc rd tp A14F A14F A4F A4F A14F A14F (riverD (.inl Fa3) (.inl Fb3) (.inl (0, 4)) 3 8 3 41 45 49) (riverD (.inl Fa4) (.inl Fb4) (.inl (0, 4)) 3 8 3 42 46 50) ((.inr (.inl (0, 12, Pd1)))) ((.inr (.inl (0, 12, Pd2)))) ((.inr (.inl (0, 12, Pd3)))) ((.inr (.inl (0, 12, Pd4)))) ((.inr (.inl (0, 12, Ps1)))) ((.inr (.inl (0, 12, Ps2)))) ((.inr (.inl (0, 12, Ps3)))) ((.inr (.inl (0, 12, Ps4)))) ((.inr (.inl (0, 48, Pi1)))) ((.inr (.inl (0, 48, Pi2)))) ((.inr (.inl (0, 48, Pi3)))) ((.inr (.inl (0, 48, Pi4))))) H := hH
    refine tI2l F dX0_passReaches_37 (fun w_18 hw_18 => ?_)
    refine lv_ladd F.1 F.2.1 dX0_passReaches_38 ?_
    refine topFL (fun w_19 => ?_)
    refine tLast F hK hH hS (tyb hq_13 (all1 rfl)) (ixb (n := 6) (eqb hk_14) rfl rfl) dX0_passReaches_39 (fun H locs hH hS => ?_)
    refine lv_aload_n F.1 F.2.1 dX0_passReaches_40 rfl (lv_at hl 0 rfl) ?_
    refine tGetR (j := 1) F hK hH (tyb ha0 (all2 rfl rfl)) rfl (all1 rfl) clX0 (by decide) wd_5_0 dX0_passReaches_41 (fun q_20 hq_20 _ => ?_)
    refine tGetR (j := 12) F hK hH (tyb hq_20 (all1 rfl)) rfl (all1 rfl) clX5 (by decide) wd_24_5 dX0_passReaches_44 (fun q_21 hq_21 _ => ?_)
    refine lv_iconst (v := 4) F.1 F.2.1 dX0_passReaches_47 (by decide) ?_
    refine topK (a := 4) (by decide) (fun k_22 hk_22 => ?_)
    refine lv_dup2_11 F.1 F.2.1 dX0_passReaches_48 rfl rfl ?_
    refine tLald F hK hH (tyb hq_21 (all1 rfl)) (ixb (n := 6) (eqb hk_22) rfl rfl) dX0_passReaches_49 (fun w_23 => ?_)
    refine lv_aload_n F.1 F.2.1 dX0_passReaches_50 rfl (lv_at hl 0 rfl) ?_
    refine tGetR (j := 1) F hK hH (tyb ha0 (all2 rfl rfl)) rfl (all1 rfl) clX0 (by decide) wd_5_0 dX0_passReaches_51 (fun q_24 hq_24 _ => ?_)
    refine tGetR (j := 11) F hK hH (tyb hq_24 (all1 rfl)) rfl (all1 rfl) clX5 (by decide) wd_22_9 dX0_passReaches_54 (fun q_25 hq_25 _ => ?_)
    refine lv_iload_n F.1 F.2.1 dX0_passReaches_57 rfl (lv_at hl 1 rfl) ?_
    refine lv_iload_n F.1 F.2.1 dX0_passReaches_58 rfl (lv_at hl 2 rfl) ?_
    refine tAdd (lo := 0) (hi := 359) F dX0_passReaches_59 f_4 r_10 rfl (fun z_26 hz_26 => ?_)
    refine tIaldB F hK hH (tyb hq_25 (all1 rfl)) (ixb (n := 360) hz_26.2 rfl rfl) dX0_passReaches_60 (fun z_27 hz_27 => ?_)
    refine tI2l F dX0_passReaches_61 (fun w_28 hw_28 => ?_)
    refine lv_ladd F.1 F.2.1 dX0_passReaches_62 ?_
    refine topFL (fun w_29 => ?_)
    refine tLast F hK hH hS (tyb hq_21 (all1 rfl)) (ixb (n := 6) (eqb hk_22) rfl rfl) dX0_passReaches_63 (fun H locs hH hS => ?_)
    refine lv_aload_n F.1 F.2.1 dX0_passReaches_64 rfl (lv_at hl 0 rfl) ?_
    refine tGetR (j := 1) F hK hH (tyb ha0 (all2 rfl rfl)) rfl (all1 rfl) clX0 (by decide) wd_5_0 dX0_passReaches_65 (fun q_30 hq_30 _ => ?_)
    refine tGetR (j := 12) F hK hH (tyb hq_30 (all1 rfl)) rfl (all1 rfl) clX5 (by decide) wd_24_5 dX0_passReaches_68 (fun q_31 hq_31 _ => ?_)
    refine lv_iconst (v := 2) F.1 F.2.1 dX0_passReaches_71 (by decide) ?_
    refine topK (a := 2) (by decide) (fun k_32 hk_32 => ?_)
    refine lv_dup2_11 F.1 F.2.1 dX0_passReaches_72 rfl rfl ?_
    refine tLald F hK hH (tyb hq_31 (all1 rfl)) (ixb (n := 6) (eqb hk_32) rfl rfl) dX0_passReaches_73 (fun w_33 => ?_)
    refine lv_aload_n F.1 F.2.1 dX0_passReaches_74 rfl (lv_at hl 0 rfl) ?_
    refine tGetR (j := 5) F hK hH (tyb ha0 (all2 rfl rfl)) rfl (all1 rfl) clX0 (by decide) wd_4_14 dX0_passReaches_75 (fun q_34 hq_34 _ => ?_)
    refine lv_iload_n F.1 F.2.1 dX0_passReaches_78 rfl (lv_at hl 2 rfl) ?_
    refine tIaldB F hK hH (tyb hq_34 (all1 rfl)) (ixb (n := 12) r_10 rfl rfl) dX0_passReaches_79 (fun z_35 hz_35 => ?_)
    refine lv_aload_n F.1 F.2.1 dX0_passReaches_80 rfl (lv_at hl 0 rfl) ?_
    refine tGetR (j := 6) F hK hH (tyb ha0 (all2 rfl rfl)) rfl (all1 rfl) clX0 (by decide) wd_4_15 dX0_passReaches_81 (fun q_36 hq_36 _ => ?_)
    refine lv_iload_n F.1 F.2.1 dX0_passReaches_84 rfl (lv_at hl 2 rfl) ?_
    refine tIaldB F hK hH (tyb hq_36 (all1 rfl)) (ixb (n := 12) r_10 rfl rfl) dX0_passReaches_85 (fun z_37 hz_37 => ?_)
    refine lv_isub F.1 F.2.1 dX0_passReaches_86 ?_
    refine topF (fun z_38 => ?_)
    refine tI2l F dX0_passReaches_87 (fun w_39 hw_39 => ?_)
    refine lv_ladd F.1 F.2.1 dX0_passReaches_88 ?_
    refine topFL (fun w_40 => ?_)
    refine tLast F hK hH hS (tyb hq_31 (all1 rfl)) (ixb (n := 6) (eqb hk_32) rfl rfl) dX0_passReaches_89 (fun H locs hH hS => ?_)
    refine lv_aload_n F.1 F.2.1 dX0_passReaches_90 rfl (lv_at hl 0 rfl) ?_
    refine tGetR0 (j := 0) F hK hH (tyb ha0 (all2 rfl rfl)) rfl clX0 (by decide) wd_4_23 dX0_passReaches_91 (fun q_41 hq_41 => ?_)
    refine tGetRM0 (j := 1) (L := [39, 40]) F hK hH hq_41 (alls ⟨_, _, rfl, rfl, by decide⟩ (alls1 ⟨_, _, rfl, rfl, by decide⟩)) clX2 (by decide) wd_21_12 dX0_passReaches_94 (fun q_42 hq_42 => ?_)
    refine lv_iload_n F.1 F.2.1 dX0_passReaches_97 rfl (lv_at hl 2 rfl) ?_
    refine tIaldM (lo := (-2)) (hi := 11) F hK hH hq_42 (alls ⟨_, rfl, hPd1⟩ (alls1 ⟨_, rfl, hPd2⟩)) (ixb (n := 12) r_10 rfl rfl) dX0_passReaches_98 (fun z_43 hz_43 => ?_)
    refine wjoin (σ := Unit) (pcj := 121) (stj := fun x9 => []) (fun x9 H locs ls => TH E (tbC (dayD (.inl (0, 18))) (dayD (.inl (0, 18))) (riverD (.inl Fa1) (.inl Fb1) (.inl (0, 4)) 31 33 35 39 43 47) (riverD (.inl Fa2) (.inl Fb2) (.inl (0, 4)) 32 34 36 40 44 48) rc rd tp A14F A14F A4F A4F A14F A14F (riverD (.inl Fa3) (.inl Fb3) (.inl (0, 4)) 3 8 3 41 45 49) (riverD (.inl Fa4) (.inl Fb4) (.inl (0, 4)) 3 8 3 42 46 50) ((.inr (.inl (0, 12, Pd1)))) ((.inr (.inl (0, 12, Pd2)))) ((.inr (.inl (0, 12, Pd3)))) ((.inr (.inl (0, 12, Pd4)))) ((.inr (.inl (0, 12, Ps1)))) ((.inr (.inl (0, 12, Ps2)))) ((.inr (.inl (0, 12, Ps3)))) ((.inr (.inl (0, 12, Ps4)))) ((.inr (.inl (0, 48, Pi1)))) ((.inr (.inl (0, 48, Pi2)))) ((.inr (.inl (0, 48, Pi3)))) ((.inr (.inl (0, 48, Pi4))))) H ∧ va_S (eA E s.heap.size) s.heap H locs ∧ lv_has ls 3 [(0, .ref a0), (1, .int z_3), (2, .int u_6)]) (fun x9 H locs ls h_ => ?_) (fun J_121 => ?_)
    · skip
      obtain ⟨hH, hS, hl⟩ := h_
      have hH : TH E (tbC (dayD (.inl (0, 18))) (dayD (.inl (0, 18))) (riverD (.inl Fa1) (.inl Fb1) (.inl (0, 4)) 31 33 35 39 43 47) (riverD (.inl Fa2) (.inl Fb2) (.inl (0, 4)) 32 34 36 40 44 48) rc rd tp A14F A14F A4F A4F A14F A14F (riverD (.inl Fa3) (.inl Fb3) (.inl (0, 4)) 3 8 3 41 45 49) (riverD (.inl Fa4) (.inl Fb4) (.inl (0, 4)) 3 8 3 42 46 50) ((.inr (.inl (0, 12, Pd1)))) ((.inr (.inl (0, 12, Pd2)))) ((.inr (.inl (0, 12, Pd3)))) ((.inr (.inl (0, 12, Pd4)))) ((.inr (.inl (0, 12, Ps1)))) ((.inr (.inl (0, 12, Ps2)))) ((.inr (.inl (0, 12, Ps3)))) ((.inr (.inl (0, 12, Ps4)))) ((.inr (.inl (0, 48, Pi1)))) ((.inr (.inl (0, 48, Pi2)))) ((.inr (.inl (0, 48, Pi3)))) ((.inr (.inl (0, 48, Pi4))))) H := hH
      have hl : lv_has ls 3 [(0, .ref a0), (1, .int z_3), (2, .int u_6)] := hl
      show W _ _ _ _ _ _ _ _ _ _ _ _ _ _ _ (F0 _ _ _ [])
      refine lv_aload_n F.1 F.2.1 dX0_passReaches_121 rfl (lv_at hl 0 rfl) ?_
      refine tGetR (j := 1) F hK hH (tyb ha0 (all2 rfl rfl)) rfl (all1 rfl) clX0 (by decide) wd_5_0 dX0_passReaches_122 (fun q_44 hq_44 _ => ?_)
      refine tGetR (j := 11) F hK hH (tyb hq_44 (all1 rfl)) rfl (all1 rfl) clX5 (by decide) wd_22_9 dX0_passReaches_125 (fun q_45 hq_45 _ => ?_)
      refine lv_iload_n F.1 F.2.1 dX0_passReaches_128 rfl (lv_at hl 1 rfl) ?_
      refine lv_iload_n F.1 F.2.1 dX0_passReaches_129 rfl (lv_at hl 2 rfl) ?_
      refine tAdd (lo := 0) (hi := 359) F dX0_passReaches_130 f_4 r_10 rfl (fun z_46 hz_46 => ?_)
      refine lv_iconst (v := 0) F.1 F.2.1 dX0_passReaches_131 (by decide) ?_
      refine topK (a := 0) (by decide) (fun k_47 hk_47 => ?_)
      refine tIastB F hK hH hS (tyb hq_45 (all1 rfl)) (ixb (n := 360) hz_46.2 rfl rfl) (wkb (eqb hk_47) rfl rfl) dX0_passReaches_132 (fun H locs hH hS => ?_)
      obtain ⟨x_48, ex_48, hx_48⟩ := iincB (c := 1) (lo := 1) (hi := 12) r_10 rfl
      refine lv_iinc (v := x_48) (lv' := [(2, .int x_48), (0, .ref a0), (1, .int z_3)]) F.1 F.2.1 dX0_passReaches_133 hl (k := 2) rfl ex_48 (by decide) rfl (fun ls hl => ?_)
      refine lv_goto (tgt := 11) F.1 F.2.1 dX0_passReaches_136 (by decide) ?_
      exact ih_11 (x_48) _ _ _ ⟨(show (12 - x_48.toInt + 1).toNat < n_11 from by omega), (wkb hx_48.2 rfl rfl), hH, hS, lv_sub hl [1, 2, 0] rfl⟩
    refine z_ge (tgt := 121) F dX0_passReaches_99 (by decide) (fun c_49 => ?_) (fun c_49 => ?_)
    · skip
      have r_50 : 0 ≤ z_43.toInt ∧ z_43.toInt ≤ 11 := by have h9_ := hz_43; omega
      exact J_121 () _ _ _ ⟨hH, hS, lv_sub hl [0, 1, 2] rfl⟩
    · skip
      have r_51 : (-2) ≤ z_43.toInt ∧ z_43.toInt ≤ (-1) := by have h9_ := hz_43; omega
      refine lv_aload_n F.1 F.2.1 dX0_passReaches_102 rfl (lv_at hl 0 rfl) ?_
      refine tGetR (j := 1) F hK hH (tyb ha0 (all2 rfl rfl)) rfl (all1 rfl) clX0 (by decide) wd_5_0 dX0_passReaches_103 (fun q_52 hq_52 _ => ?_)
      refine tGetR (j := 12) F hK hH (tyb hq_52 (all1 rfl)) rfl (all1 rfl) clX5 (by decide) wd_24_5 dX0_passReaches_106 (fun q_53 hq_53 _ => ?_)
      refine lv_iconst (v := 1) F.1 F.2.1 dX0_passReaches_109 (by decide) ?_
      refine topK (a := 1) (by decide) (fun k_54 hk_54 => ?_)
      refine lv_dup2_11 F.1 F.2.1 dX0_passReaches_110 rfl rfl ?_
      refine tLald F hK hH (tyb hq_53 (all1 rfl)) (ixb (n := 6) (eqb hk_54) rfl rfl) dX0_passReaches_111 (fun w_55 => ?_)
      refine lv_aload_n F.1 F.2.1 dX0_passReaches_112 rfl (lv_at hl 0 rfl) ?_
      refine tGetR (j := 6) F hK hH (tyb ha0 (all2 rfl rfl)) rfl (all1 rfl) clX0 (by decide) wd_4_15 dX0_passReaches_113 (fun q_56 hq_56 _ => ?_)
      refine lv_iload_n F.1 F.2.1 dX0_passReaches_116 rfl (lv_at hl 2 rfl) ?_
      refine tIaldB F hK hH (tyb hq_56 (all1 rfl)) (ixb (n := 12) r_10 rfl rfl) dX0_passReaches_117 (fun z_57 hz_57 => ?_)
      refine tI2l F dX0_passReaches_118 (fun w_58 hw_58 => ?_)
      refine lv_ladd F.1 F.2.1 dX0_passReaches_119 ?_
      refine topFL (fun w_59 => ?_)
      refine tLast F hK hH hS (tyb hq_53 (all1 rfl)) (ixb (n := 6) (eqb hk_54) rfl rfl) dX0_passReaches_120 (fun H locs hH hS => ?_)
      exact J_121 () _ _ _ ⟨hH, hS, lv_sub hl [0, 1, 2] rfl⟩
set_option maxHeartbeats 4000000 in
set_option maxRecDepth 100000 in
theorem c_X0_passRight (E : Ev) (rc : TD) (rd : TD) (tp : TD) (Fa1 : Int × Int) (Fb1 : Int × Int) (Fa2 : Int × Int) (Fb2 : Int × Int) (Fa3 : Int × Int) (Fb3 : Int × Int) (Fa4 : Int × Int) (Fb4 : Int × Int) (Pd1 : (Nat → Int32) → Prop) (Pd2 : (Nat → Int32) → Prop) (Pd3 : (Nat → Int32) → Prop) (Pd4 : (Nat → Int32) → Prop) (Ps1 : (Nat → Int32) → Prop) (Ps2 : (Nat → Int32) → Prop) (Ps3 : (Nat → Int32) → Prop) (Ps4 : (Nat → Int32) → Prop) (Pi1 : (Nat → Int32) → Prop) (Pi2 : (Nat → Int32) → Prop) (Pi3 : (Nat → Int32) → Prop) (Pi4 : (Nat → Int32) → Prop) (a0 : Nat) (a1 : Int32) (ha0 : eT E a0 ∈ [24, 25]) (ha1 : 0 ≤ a1.toInt ∧ a1.toInt ≤ 13) (hFa1 : 0 ≤ Fa1.1 ∧ Fa1.2 ≤ 12) (hFb1 : 0 ≤ Fb1.1 ∧ Fb1.2 ≤ 14) (hFa2 : 0 ≤ Fa2.1 ∧ Fa2.2 ≤ 12) (hFb2 : 0 ≤ Fb2.1 ∧ Fb2.2 ≤ 14) (hFa3 : 0 ≤ Fa3.1 ∧ Fa3.2 ≤ 12) (hFb3 : 0 ≤ Fb3.1 ∧ Fb3.2 ≤ 14) (hFa4 : 0 ≤ Fa4.1 ∧ Fa4.2 ≤ 12) (hFb4 : 0 ≤ Fb4.1 ∧ Fb4.2 ≤ 14) (hPd1 : ∀ f, Pd1 f → ivP 12 (-2) 11 f) (hPd2 : ∀ f, Pd2 f → ivP 12 (-2) 11 f) (hPd3 : ∀ f, Pd3 f → ivP 12 (-2) 11 f) (hPd4 : ∀ f, Pd4 f → ivP 12 (-2) 11 f) (hPs1 : ∀ f, Ps1 f → ivP 12 (-2147483648) 2147483647 f) (hPs2 : ∀ f, Ps2 f → ivP 12 (-2147483648) 2147483647 f) (hPs3 : ∀ f, Ps3 f → ivP 12 (-2147483648) 2147483647 f) (hPs4 : ∀ f, Ps4 f → ivP 12 (-2147483648) 2147483647 f) (hPi1 : ∀ f, Pi1 f → ivP 48 (-2147483648) 2147483647 f) (hPi2 : ∀ f, Pi2 f → ivP 48 (-2147483648) 2147483647 f) (hPi3 : ∀ f, Pi3 f → ivP 48 (-2147483648) 2147483647 f) (hPi4 : ∀ f, Pi4 f → ivP 48 (-2147483648) 2147483647 f) : TcV E yX0_passRight cX0_passRight 5 ({ frames := 2, cells := 0, slots := 0, locals := 61 }) [.ref a0, .int a1] (fun H => TH E (tbC (dayD (.inl (0, 18))) (dayD (.inl (0, 18))) (riverD (.inl Fa1) (.inl Fb1) (.inl (0, 4)) 31 33 35 39 43 47) (riverD (.inl Fa2) (.inl Fb2) (.inl (0, 4)) 32 34 36 40 44 48) rc rd tp A14F A14F A4F A4F A14F A14F (riverD (.inl Fa3) (.inl Fb3) (.inl (0, 4)) 3 8 3 41 45 49) (riverD (.inl Fa4) (.inl Fb4) (.inl (0, 4)) 3 8 3 42 46 50) ((.inr (.inl (0, 12, Pd1)))) ((.inr (.inl (0, 12, Pd2)))) ((.inr (.inl (0, 12, Pd3)))) ((.inr (.inl (0, 12, Pd4)))) ((.inr (.inl (0, 12, Ps1)))) ((.inr (.inl (0, 12, Ps2)))) ((.inr (.inl (0, 12, Ps3)))) ((.inr (.inl (0, 12, Ps4)))) ((.inr (.inl (0, 48, Pi1)))) ((.inr (.inl (0, 48, Pi2)))) ((.inr (.inl (0, 48, Pi3)))) ((.inr (.inl (0, 48, Pi4))))) H) (fun H => TH E (tbC (dayD (.inl (0, 18))) (dayD (.inl (0, 18))) (riverD (.inl Fa1) (.inl Fb1) (.inl (0, 4)) 31 33 35 39 43 47) (riverD (.inl Fa2) (.inl Fb2) (.inl (0, 4)) 32 34 36 40 44 48) rc rd tp A14F A14F A4F A4F A14F A14F (riverD (.inl Fa3) (.inl Fb3) (.inl (0, 4)) 3 8 3 41 45 49) (riverD (.inl Fa4) (.inl Fb4) (.inl (0, 4)) 3 8 3 42 46 50) ((.inr (.inl (0, 12, Pd1)))) ((.inr (.inl (0, 12, Pd2)))) ((.inr (.inl (0, 12, Pd3)))) ((.inr (.inl (0, 12, Pd4)))) ((.inr (.inl (0, 12, Ps1)))) ((.inr (.inl (0, 12, Ps2)))) ((.inr (.inl (0, 12, Ps3)))) ((.inr (.inl (0, 12, Ps4)))) ((.inr (.inl (0, 48, Pi1)))) ((.inr (.inl (0, 48, Pi2)))) ((.inr (.inl (0, 48, Pi3)))) ((.inr (.inl (0, 48, Pi4))))) H) := by
  refine teV (by decide) (Nat.le_of_ble_eq_true rfl) ?_
  intro p_ ev_ s mi_ below_ meth cd_ ls F hK hN hO hH hS hl
  have hH : TH E (tbC (dayD (.inl (0, 18))) (dayD (.inl (0, 18))) (riverD (.inl Fa1) (.inl Fb1) (.inl (0, 4)) 31 33 35 39 43 47) (riverD (.inl Fa2) (.inl Fb2) (.inl (0, 4)) 32 34 36 40 44 48) rc rd tp A14F A14F A4F A4F A14F A14F (riverD (.inl Fa3) (.inl Fb3) (.inl (0, 4)) 3 8 3 41 45 49) (riverD (.inl Fa4) (.inl Fb4) (.inl (0, 4)) 3 8 3 42 46 50) ((.inr (.inl (0, 12, Pd1)))) ((.inr (.inl (0, 12, Pd2)))) ((.inr (.inl (0, 12, Pd3)))) ((.inr (.inl (0, 12, Pd4)))) ((.inr (.inl (0, 12, Ps1)))) ((.inr (.inl (0, 12, Ps2)))) ((.inr (.inl (0, 12, Ps3)))) ((.inr (.inl (0, 12, Ps4)))) ((.inr (.inl (0, 48, Pi1)))) ((.inr (.inl (0, 48, Pi2)))) ((.inr (.inl (0, 48, Pi3)))) ((.inr (.inl (0, 48, Pi4))))) s.heap := hH
  have hl : lv_has ls 5 [(0, .ref a0), (1, .int a1)] := hl
  refine lv_aload_n F.1 F.2.1 dX0_passRight_0 rfl (lv_at hl 0 rfl) ?_
  refine lv_iload_n F.1 F.2.1 dX0_passRight_1 rfl (lv_at hl 1 rfl) ?_
  refine tVi (b := a0) (As := [.int a1]) (rest := []) F hK hN hO (c_X0_takenBy E rc rd tp Fa1 Fb1 Fa2 Fb2 Fa3 Fb3 Fa4 Fb4 Pd1 Pd2 Pd3 Pd4 Ps1 Ps2 Ps3 Ps4 Pi1 Pi2 Pi3 Pi4 a0 a1 ha0 ha1 hFa1 hFb1 hFa2 hFb2 hFa3 hFb3 hFa4 hFb4 hPd1 hPd2 hPd3 hPd4 hPs1 hPs2 hPs3 hPs4 hPi1 hPi2 hPi3 hPi4) mv_X0_takenBy wd_23_16 ⟨Nat.le_of_ble_eq_true rfl, Nat.le_of_ble_eq_true rfl⟩ ⟨Nat.le_of_ble_eq_true rfl, Nat.le_of_ble_eq_true rfl⟩ hH hS (tRecv hK hH (tyb ha0 (all2 rfl rfl)) clX0) rfl hl.1 (Nat.le_of_ble_eq_true rfl) dX0_passRight_2 (fun z_1 H locs hq hS => ?_)
  obtain ⟨f_2, hH⟩ := hq
  have hH : TH E (tbC (dayD (.inl (0, 18))) (dayD (.inl (0, 18))) (riverD (.inl Fa1) (.inl Fb1) (.inl (0, 4)) 31 33 35 39 43 47) (riverD (.inl Fa2) (.inl Fb2) (.inl (0, 4)) 32 34 36 40 44 48) rc rd tp A14F A14F A4F A4F A14F A14F (riverD (.inl Fa3) (.inl Fb3) (.inl (0, 4)) 3 8 3 41 45 49) (riverD (.inl Fa4) (.inl Fb4) (.inl (0, 4)) 3 8 3 42 46 50) ((.inr (.inl (0, 12, Pd1)))) ((.inr (.inl (0, 12, Pd2)))) ((.inr (.inl (0, 12, Pd3)))) ((.inr (.inl (0, 12, Pd4)))) ((.inr (.inl (0, 12, Ps1)))) ((.inr (.inl (0, 12, Ps2)))) ((.inr (.inl (0, 12, Ps3)))) ((.inr (.inl (0, 12, Ps4)))) ((.inr (.inl (0, 48, Pi1)))) ((.inr (.inl (0, 48, Pi2)))) ((.inr (.inl (0, 48, Pi3)))) ((.inr (.inl (0, 48, Pi4))))) H := hH
  refine lv_istore_n (lv' := [(2, .int z_1), (0, .ref a0), (1, .int a1)]) F.1 F.2.1 dX0_passRight_5 rfl hl (by decide) rfl (fun ls hl => ?_)
  refine lv_aload_n F.1 F.2.1 dX0_passRight_6 rfl (lv_at hl 1 rfl) ?_
  refine tGetR0 (j := 0) F hK hH (tyb ha0 (all2 rfl rfl)) rfl clX0 (by decide) wd_4_23 dX0_passRight_7 (fun q_3 hq_3 => ?_)
  refine tGetRM (j := 10) (L := [3]) F hK hH hq_3 (alls ⟨_, _, rfl, rfl, by decide⟩ (alls1 ⟨_, _, rfl, rfl, by decide⟩)) (all1 rfl) clX2 (by decide) wd_21_21 dX0_passRight_10 (fun q_4 hq_4 _ => ?_)
  refine lv_iload_n F.1 F.2.1 dX0_passRight_13 rfl (lv_at hl 2 rfl) ?_
  refine tIaldB F hK hH (tyb hq_4 (all1 rfl)) (ixb (n := 14) ha1 rfl rfl) dX0_passRight_14 (fun z_5 hz_5 => ?_)
  refine wjoin (σ := Unit) (pcj := 31) (stj := fun x9 => []) (fun x9 H locs ls => TH E (tbC (dayD (.inl (0, 18))) (dayD (.inl (0, 18))) (riverD (.inl Fa1) (.inl Fb1) (.inl (0, 4)) 31 33 35 39 43 47) (riverD (.inl Fa2) (.inl Fb2) (.inl (0, 4)) 32 34 36 40 44 48) rc rd tp A14F A14F A4F A4F A14F A14F (riverD (.inl Fa3) (.inl Fb3) (.inl (0, 4)) 3 8 3 41 45 49) (riverD (.inl Fa4) (.inl Fb4) (.inl (0, 4)) 3 8 3 42 46 50) ((.inr (.inl (0, 12, Pd1)))) ((.inr (.inl (0, 12, Pd2)))) ((.inr (.inl (0, 12, Pd3)))) ((.inr (.inl (0, 12, Pd4)))) ((.inr (.inl (0, 12, Ps1)))) ((.inr (.inl (0, 12, Ps2)))) ((.inr (.inl (0, 12, Ps3)))) ((.inr (.inl (0, 12, Ps4)))) ((.inr (.inl (0, 48, Pi1)))) ((.inr (.inl (0, 48, Pi2)))) ((.inr (.inl (0, 48, Pi3)))) ((.inr (.inl (0, 48, Pi4))))) H ∧ va_S (eA E s.heap.size) s.heap H locs ∧ lv_has ls 5 [(0, .ref a0), (1, .int a1), (2, .int z_1)]) (fun x9 H locs ls h_ => ?_) (fun J_31 => ?_)
  · skip
    obtain ⟨hH, hS, hl⟩ := h_
    have hH : TH E (tbC (dayD (.inl (0, 18))) (dayD (.inl (0, 18))) (riverD (.inl Fa1) (.inl Fb1) (.inl (0, 4)) 31 33 35 39 43 47) (riverD (.inl Fa2) (.inl Fb2) (.inl (0, 4)) 32 34 36 40 44 48) rc rd tp A14F A14F A4F A4F A14F A14F (riverD (.inl Fa3) (.inl Fb3) (.inl (0, 4)) 3 8 3 41 45 49) (riverD (.inl Fa4) (.inl Fb4) (.inl (0, 4)) 3 8 3 42 46 50) ((.inr (.inl (0, 12, Pd1)))) ((.inr (.inl (0, 12, Pd2)))) ((.inr (.inl (0, 12, Pd3)))) ((.inr (.inl (0, 12, Pd4)))) ((.inr (.inl (0, 12, Ps1)))) ((.inr (.inl (0, 12, Ps2)))) ((.inr (.inl (0, 12, Ps3)))) ((.inr (.inl (0, 12, Ps4)))) ((.inr (.inl (0, 48, Pi1)))) ((.inr (.inl (0, 48, Pi2)))) ((.inr (.inl (0, 48, Pi3)))) ((.inr (.inl (0, 48, Pi4))))) H := hH
    have hl : lv_has ls 5 [(0, .ref a0), (1, .int a1), (2, .int z_1)] := hl
    show W _ _ _ _ _ _ _ _ _ _ _ _ _ _ _ (F0 _ _ _ [])
    refine lv_aload_n F.1 F.2.1 dX0_passRight_31 rfl (lv_at hl 0 rfl) ?_
    refine tGetR (j := 1) F hK hH (tyb ha0 (all2 rfl rfl)) rfl (all1 rfl) clX0 (by decide) wd_5_0 dX0_passRight_32 (fun q_6 hq_6 _ => ?_)
    refine tGetR (j := 7) F hK hH (tyb hq_6 (all1 rfl)) rfl (all1 rfl) clX5 (by decide) wd_24_14 dX0_passRight_35 (fun q_7 hq_7 _ => ?_)
    refine lv_iload_n F.1 F.2.1 dX0_passRight_38 rfl (lv_at hl 1 rfl) ?_
    refine lv_dup2_11 F.1 F.2.1 dX0_passRight_39 rfl rfl ?_
    refine tIaldB F hK hH (tyb hq_7 (all1 rfl)) (ixb (n := 14) ha1 rfl rfl) dX0_passRight_40 (fun z_8 hz_8 => ?_)
    refine lv_iload_n F.1 F.2.1 dX0_passRight_41 rfl (lv_at hl 2 rfl) ?_
    refine lv_iadd F.1 F.2.1 dX0_passRight_42 ?_
    refine topF (fun z_9 => ?_)
    refine tIastB F hK hH hS (tyb hq_7 (all1 rfl)) (ixb (n := 14) ha1 rfl rfl) (i32b _) dX0_passRight_43 (fun H locs hH hS => ?_)
    refine lv_aload_n F.1 F.2.1 dX0_passRight_44 rfl (lv_at hl 0 rfl) ?_
    refine tGetR (j := 1) F hK hH (tyb ha0 (all2 rfl rfl)) rfl (all1 rfl) clX0 (by decide) wd_5_0 dX0_passRight_45 (fun q_10 hq_10 _ => ?_)
    refine tGetR (j := 12) F hK hH (tyb hq_10 (all1 rfl)) rfl (all1 rfl) clX5 (by decide) wd_24_5 dX0_passRight_48 (fun q_11 hq_11 _ => ?_)
    refine lv_iconst (v := 3) F.1 F.2.1 dX0_passRight_51 (by decide) ?_
    refine topK (a := 3) (by decide) (fun k_12 hk_12 => ?_)
    refine lv_dup2_11 F.1 F.2.1 dX0_passRight_52 rfl rfl ?_
    refine tLald F hK hH (tyb hq_11 (all1 rfl)) (ixb (n := 6) (eqb hk_12) rfl rfl) dX0_passRight_53 (fun w_13 => ?_)
    refine lv_iload_n F.1 F.2.1 dX0_passRight_54 rfl (lv_at hl 2 rfl) ?_
    refine tI2l F dX0_passRight_55 (fun w_14 hw_14 => ?_)
    refine lv_ladd F.1 F.2.1 dX0_passRight_56 ?_
    refine topFL (fun w_15 => ?_)
    refine tLast F hK hH hS (tyb hq_11 (all1 rfl)) (ixb (n := 6) (eqb hk_12) rfl rfl) dX0_passRight_57 (fun H locs hH hS => ?_)
    refine lv_aload_n F.1 F.2.1 dX0_passRight_58 rfl (lv_at hl 0 rfl) ?_
    refine tGetR0 (j := 0) F hK hH (tyb ha0 (all2 rfl rfl)) rfl clX0 (by decide) wd_4_23 dX0_passRight_59 (fun q_16 hq_16 => ?_)
    refine tGetRM (j := 11) (L := [5]) F hK hH hq_16 (alls ⟨_, _, rfl, rfl, by decide⟩ (alls1 ⟨_, _, rfl, rfl, by decide⟩)) (all1 rfl) clX2 (by decide) wd_24_15 dX0_passRight_62 (fun q_17 hq_17 _ => ?_)
    refine lv_iload_n F.1 F.2.1 dX0_passRight_65 rfl (lv_at hl 1 rfl) ?_
    refine tIaldB F hK hH (tyb hq_17 (all1 rfl)) (ixb (n := 14) ha1 rfl rfl) dX0_passRight_66 (fun z_18 hz_18 => ?_)
    refine lv_istore_n (lv' := [(3, .int z_18), (0, .ref a0), (1, .int a1), (2, .int z_1)]) F.1 F.2.1 dX0_passRight_67 rfl hl (by decide) rfl (fun ls hl => ?_)
    refine lv_iload_n F.1 F.2.1 dX0_passRight_68 rfl (lv_at hl 0 rfl) ?_
    refine z_lt (tgt := 119) F dX0_passRight_69 (by decide) (fun c_19 => ?_) (fun c_19 => ?_)
    · skip
      have r_20 : (-2) ≤ z_18.toInt ∧ z_18.toInt ≤ (-1) := by have h9_ := hz_18; omega
      exact txV F hS dX0_passRight_119 (hH)
    · skip
      have r_21 : 0 ≤ z_18.toInt ∧ z_18.toInt ≤ 11 := by have h9_ := hz_18; omega
      refine lv_aload_n F.1 F.2.1 dX0_passRight_72 rfl (lv_at hl 1 rfl) ?_
      refine tGetR (j := 1) F hK hH (tyb ha0 (all2 rfl rfl)) rfl (all1 rfl) clX0 (by decide) wd_5_0 dX0_passRight_73 (fun q_22 hq_22 _ => ?_)
      refine lv_aload_n F.1 F.2.1 dX0_passRight_76 rfl (lv_at hl 1 rfl) ?_
      refine tGetR0 (j := 0) F hK hH (tyb ha0 (all2 rfl rfl)) rfl clX0 (by decide) wd_4_23 dX0_passRight_77 (fun q_23 hq_23 => ?_)
      refine tGetRM (j := 13) (L := [6]) F hK hH hq_23 (alls ⟨_, _, rfl, rfl, by decide⟩ (alls1 ⟨_, _, rfl, rfl, by decide⟩)) (all1 rfl) clX2 (by decide) wd_24_16 dX0_passRight_80 (fun q_24 hq_24 _ => ?_)
      refine lv_iload_n F.1 F.2.1 dX0_passRight_83 rfl (lv_at hl 2 rfl) ?_
      refine tIaldB F hK hH (tyb hq_24 (all1 rfl)) (ixb (n := 14) ha1 rfl rfl) dX0_passRight_84 (fun z_25 hz_25 => ?_)
      refine tVi (b := q_22) (As := [.int z_25]) (rest := []) F hK hN hO (c_X5_wayRow E (dayD (.inl (0, 18))) (dayD (.inl (0, 18))) (riverD (.inl Fa1) (.inl Fb1) (.inl (0, 4)) 31 33 35 39 43 47) (riverD (.inl Fa2) (.inl Fb2) (.inl (0, 4)) 32 34 36 40 44 48) rc rd tp A14F A14F A4F A4F A14F A14F (riverD (.inl Fa3) (.inl Fb3) (.inl (0, 4)) 3 8 3 41 45 49) (riverD (.inl Fa4) (.inl Fb4) (.inl (0, 4)) 3 8 3 42 46 50) ((.inr (.inl (0, 12, Pd1)))) ((.inr (.inl (0, 12, Pd2)))) ((.inr (.inl (0, 12, Pd3)))) ((.inr (.inl (0, 12, Pd4)))) ((.inr (.inl (0, 12, Ps1)))) ((.inr (.inl (0, 12, Ps2)))) ((.inr (.inl (0, 12, Ps3)))) ((.inr (.inl (0, 12, Ps4)))) ((.inr (.inl (0, 48, Pi1)))) ((.inr (.inl (0, 48, Pi2)))) ((.inr (.inl (0, 48, Pi3)))) ((.inr (.inl (0, 48, Pi4)))) q_22 z_25 hq_22 hz_25) mv_X5_wayRow wd_22_10 ⟨Nat.le_of_ble_eq_true rfl, Nat.le_of_ble_eq_true rfl⟩ ⟨Nat.le_of_ble_eq_true rfl, Nat.le_of_ble_eq_true rfl⟩ hH hS (tRecv hK hH (tyb hq_22 (all1 rfl)) clX5) rfl hl.1 (Nat.le_of_ble_eq_true rfl) dX0_passRight_85 (fun z_26 H locs hq hS => ?_)
      obtain ⟨f_27, hH⟩ := hq
      have hH : TH E (tbC (dayD (.inl (0, 18))) (dayD (.inl (0, 18))) (riverD (.inl Fa1) (.inl Fb1) (.inl (0, 4)) 31 33 35 39 43 47) (riverD (.inl Fa2) (.inl Fb2) (.inl (0, 4)) 32 34 36 40 44 48) rc rd tp A14F A14F A4F A4F A14F A14F (riverD (.inl Fa3) (.inl Fb3) (.inl (0, 4)) 3 8 3 41 45 49) (riverD (.inl Fa4) (.inl Fb4) (.inl (0, 4)) 3 8 3 42 46 50) ((.inr (.inl (0, 12, Pd1)))) ((.inr (.inl (0, 12, Pd2)))) ((.inr (.inl (0, 12, Pd3)))) ((.inr (.inl (0, 12, Pd4)))) ((.inr (.inl (0, 12, Ps1)))) ((.inr (.inl (0, 12, Ps2)))) ((.inr (.inl (0, 12, Ps3)))) ((.inr (.inl (0, 12, Ps4)))) ((.inr (.inl (0, 48, Pi1)))) ((.inr (.inl (0, 48, Pi2)))) ((.inr (.inl (0, 48, Pi3)))) ((.inr (.inl (0, 48, Pi4))))) H := hH
      refine lv_istore (lv' := [(4, .int z_26), (3, .int z_18), (0, .ref a0), (1, .int a1), (2, .int z_1)]) F.1 F.2.1 dX0_passRight_88 hl (by decide) rfl (fun ls hl => ?_)
      refine lv_aload_n F.1 F.2.1 dX0_passRight_90 rfl (lv_at hl 2 rfl) ?_
      refine tGetR (j := 1) F hK hH (tyb ha0 (all2 rfl rfl)) rfl (all1 rfl) clX0 (by decide) wd_5_0 dX0_passRight_91 (fun q_28 hq_28 _ => ?_)
      refine tGetR (j := 11) F hK hH (tyb hq_28 (all1 rfl)) rfl (all1 rfl) clX5 (by decide) wd_22_9 dX0_passRight_94 (fun q_29 hq_29 _ => ?_)
      refine lv_iload F.1 F.2.1 dX0_passRight_97 (lv_at hl 0 rfl) ?_
      refine lv_iload_n F.1 F.2.1 dX0_passRight_99 rfl (lv_at hl 1 rfl) ?_
      refine tAdd (lo := 0) (hi := 359) F dX0_passRight_100 f_27 r_21 rfl (fun z_30 hz_30 => ?_)
      refine lv_dup2_11 F.1 F.2.1 dX0_passRight_101 rfl rfl ?_
      refine tIaldB F hK hH (tyb hq_29 (all1 rfl)) (ixb (n := 360) hz_30.2 rfl rfl) dX0_passRight_102 (fun z_31 hz_31 => ?_)
      refine lv_iload_n F.1 F.2.1 dX0_passRight_103 rfl (lv_at hl 4 rfl) ?_
      refine lv_aload_n F.1 F.2.1 dX0_passRight_104 rfl (lv_at hl 2 rfl) ?_
      refine tGetR0 (j := 0) F hK hH (tyb ha0 (all2 rfl rfl)) rfl clX0 (by decide) wd_4_23 dX0_passRight_105 (fun q_32 hq_32 => ?_)
      refine tGetRM (j := 12) (L := [3]) F hK hH hq_32 (alls ⟨_, _, rfl, rfl, by decide⟩ (alls1 ⟨_, _, rfl, rfl, by decide⟩)) (all1 rfl) clX2 (by decide) wd_24_17 dX0_passRight_108 (fun q_33 hq_33 _ => ?_)
      refine lv_iload_n F.1 F.2.1 dX0_passRight_111 rfl (lv_at hl 3 rfl) ?_
      refine tIaldB F hK hH (tyb hq_33 (all1 rfl)) (ixb (n := 14) ha1 rfl rfl) dX0_passRight_112 (fun z_34 hz_34 => ?_)
      refine lv_imul F.1 F.2.1 dX0_passRight_113 ?_
      refine topF (fun z_35 => ?_)
      refine lv_bipush (v := 100) F.1 F.2.1 dX0_passRight_114 (by decide) ?_
      refine topK (a := 100) (by decide) (fun k_36 hk_36 => ?_)
      refine tDivF F dX0_passRight_116 (by omega) (fun z_37 => ?_)
      refine lv_iadd F.1 F.2.1 dX0_passRight_117 ?_
      refine topF (fun z_38 => ?_)
      refine tIastB F hK hH hS (tyb hq_29 (all1 rfl)) (ixb (n := 360) hz_30.2 rfl rfl) (i32b _) dX0_passRight_118 (fun H locs hH hS => ?_)
      exact txV F hS dX0_passRight_119 (hH)
  refine z_le (tgt := 31) F dX0_passRight_15 (by decide) (fun c_39 => ?_) (fun c_39 => ?_)
  · skip
    have r_40 : (-2147483648) ≤ z_5.toInt ∧ z_5.toInt ≤ 0 := by have h9_ := hz_5; omega
    exact J_31 () _ _ _ ⟨hH, hS, lv_sub hl [1, 2, 0] rfl⟩
  · skip
    have r_41 : 1 ≤ z_5.toInt ∧ z_5.toInt ≤ 2147483647 := by have h9_ := hz_5; omega
    refine lv_aload_n F.1 F.2.1 dX0_passRight_18 rfl (lv_at hl 1 rfl) ?_
    refine tGetR (j := 1) F hK hH (tyb ha0 (all2 rfl rfl)) rfl (all1 rfl) clX0 (by decide) wd_5_0 dX0_passRight_19 (fun q_42 hq_42 _ => ?_)
    refine tGetR (j := 5) F hK hH (tyb hq_42 (all1 rfl)) rfl (all1 rfl) clX5 (by decide) wd_21_22 dX0_passRight_22 (fun q_43 hq_43 _ => ?_)
    refine lv_iload_n F.1 F.2.1 dX0_passRight_25 rfl (lv_at hl 2 rfl) ?_
    refine lv_dup2_11 F.1 F.2.1 dX0_passRight_26 rfl rfl ?_
    refine tIaldB F hK hH (tyb hq_43 (all1 rfl)) (ixb (n := 14) ha1 rfl rfl) dX0_passRight_27 (fun z_44 hz_44 => ?_)
    refine lv_iload_n F.1 F.2.1 dX0_passRight_28 rfl (lv_at hl 0 rfl) ?_
    refine lv_isub F.1 F.2.1 dX0_passRight_29 ?_
    refine topF (fun z_45 => ?_)
    refine tIastB F hK hH hS (tyb hq_43 (all1 rfl)) (ixb (n := 14) ha1 rfl rfl) (i32b _) dX0_passRight_30 (fun H locs hH hS => ?_)
    exact J_31 () _ _ _ ⟨hH, hS, lv_sub hl [1, 2, 0] rfl⟩
set_option maxHeartbeats 4000000 in
set_option maxRecDepth 100000 in
theorem c_X0_pass (E : Ev) (rc : TD) (rd : TD) (tp : TD) (Fa1 : Int × Int) (Fb1 : Int × Int) (Fa2 : Int × Int) (Fb2 : Int × Int) (Fa3 : Int × Int) (Fb3 : Int × Int) (Fa4 : Int × Int) (Fb4 : Int × Int) (Pd1 : (Nat → Int32) → Prop) (Pd2 : (Nat → Int32) → Prop) (Pd3 : (Nat → Int32) → Prop) (Pd4 : (Nat → Int32) → Prop) (Ps1 : (Nat → Int32) → Prop) (Ps2 : (Nat → Int32) → Prop) (Ps3 : (Nat → Int32) → Prop) (Ps4 : (Nat → Int32) → Prop) (Pi1 : (Nat → Int32) → Prop) (Pi2 : (Nat → Int32) → Prop) (Pi3 : (Nat → Int32) → Prop) (Pi4 : (Nat → Int32) → Prop) (a0 : Nat) (ha0 : eT E a0 ∈ [24, 25]) (hFa1 : 0 ≤ Fa1.1 ∧ Fa1.2 ≤ 12) (hFb1 : 0 ≤ Fb1.1 ∧ Fb1.2 ≤ 14) (hFa2 : 0 ≤ Fa2.1 ∧ Fa2.2 ≤ 12) (hFb2 : 0 ≤ Fb2.1 ∧ Fb2.2 ≤ 14) (hFa3 : 0 ≤ Fa3.1 ∧ Fa3.2 ≤ 12) (hFb3 : 0 ≤ Fb3.1 ∧ Fb3.2 ≤ 14) (hFa4 : 0 ≤ Fa4.1 ∧ Fa4.2 ≤ 12) (hFb4 : 0 ≤ Fb4.1 ∧ Fb4.2 ≤ 14) (hPd1 : ∀ f, Pd1 f → ivP 12 (-2) 11 f) (hPd2 : ∀ f, Pd2 f → ivP 12 (-2) 11 f) (hPd3 : ∀ f, Pd3 f → ivP 12 (-2) 11 f) (hPd4 : ∀ f, Pd4 f → ivP 12 (-2) 11 f) (hPs1 : ∀ f, Ps1 f → ivP 12 (-2147483648) 2147483647 f) (hPs2 : ∀ f, Ps2 f → ivP 12 (-2147483648) 2147483647 f) (hPs3 : ∀ f, Ps3 f → ivP 12 (-2147483648) 2147483647 f) (hPs4 : ∀ f, Ps4 f → ivP 12 (-2147483648) 2147483647 f) (hPi1 : ∀ f, Pi1 f → ivP 48 (-2147483648) 2147483647 f) (hPi2 : ∀ f, Pi2 f → ivP 48 (-2147483648) 2147483647 f) (hPi3 : ∀ f, Pi3 f → ivP 48 (-2147483648) 2147483647 f) (hPi4 : ∀ f, Pi4 f → ivP 48 (-2147483648) 2147483647 f) : TcV E yX0_pass cX0_pass 2 ({ frames := 3, cells := 0, slots := 0, locals := 85 }) [.ref a0] (fun H => TH E (tbC (dayD (.inl (0, 18))) (dayD (.inl (0, 18))) (riverD (.inl Fa1) (.inl Fb1) (.inl (0, 4)) 31 33 35 39 43 47) (riverD (.inl Fa2) (.inl Fb2) (.inl (0, 4)) 32 34 36 40 44 48) rc rd tp A14F A14F A4F A4F A14F A14F (riverD (.inl Fa3) (.inl Fb3) (.inl (0, 4)) 3 8 3 41 45 49) (riverD (.inl Fa4) (.inl Fb4) (.inl (0, 4)) 3 8 3 42 46 50) ((.inr (.inl (0, 12, Pd1)))) ((.inr (.inl (0, 12, Pd2)))) ((.inr (.inl (0, 12, Pd3)))) ((.inr (.inl (0, 12, Pd4)))) ((.inr (.inl (0, 12, Ps1)))) ((.inr (.inl (0, 12, Ps2)))) ((.inr (.inl (0, 12, Ps3)))) ((.inr (.inl (0, 12, Ps4)))) ((.inr (.inl (0, 48, Pi1)))) ((.inr (.inl (0, 48, Pi2)))) ((.inr (.inl (0, 48, Pi3)))) ((.inr (.inl (0, 48, Pi4))))) H) (fun H => TH E (tbC (dayD (.inl (0, 18))) (dayD (.inl (0, 18))) (riverD (.inl Fa1) (.inl Fb1) (.inl (0, 4)) 31 33 35 39 43 47) (riverD (.inl Fa2) (.inl Fb2) (.inl (0, 4)) 32 34 36 40 44 48) rc rd tp A14F A14F A4F A4F A14F A14F (riverD (.inl Fa3) (.inl Fb3) (.inl (0, 4)) 3 8 3 41 45 49) (riverD (.inl Fa4) (.inl Fb4) (.inl (0, 4)) 3 8 3 42 46 50) ((.inr (.inl (0, 12, Pd1)))) ((.inr (.inl (0, 12, Pd2)))) ((.inr (.inl (0, 12, Pd3)))) ((.inr (.inl (0, 12, Pd4)))) ((.inr (.inl (0, 12, Ps1)))) ((.inr (.inl (0, 12, Ps2)))) ((.inr (.inl (0, 12, Ps3)))) ((.inr (.inl (0, 12, Ps4)))) ((.inr (.inl (0, 48, Pi1)))) ((.inr (.inl (0, 48, Pi2)))) ((.inr (.inl (0, 48, Pi3)))) ((.inr (.inl (0, 48, Pi4))))) H) := by
  refine teV (by decide) (Nat.le_of_ble_eq_true rfl) ?_
  intro p_ ev_ s mi_ below_ meth cd_ ls F hK hN hO hH hS hl
  have hH : TH E (tbC (dayD (.inl (0, 18))) (dayD (.inl (0, 18))) (riverD (.inl Fa1) (.inl Fb1) (.inl (0, 4)) 31 33 35 39 43 47) (riverD (.inl Fa2) (.inl Fb2) (.inl (0, 4)) 32 34 36 40 44 48) rc rd tp A14F A14F A4F A4F A14F A14F (riverD (.inl Fa3) (.inl Fb3) (.inl (0, 4)) 3 8 3 41 45 49) (riverD (.inl Fa4) (.inl Fb4) (.inl (0, 4)) 3 8 3 42 46 50) ((.inr (.inl (0, 12, Pd1)))) ((.inr (.inl (0, 12, Pd2)))) ((.inr (.inl (0, 12, Pd3)))) ((.inr (.inl (0, 12, Pd4)))) ((.inr (.inl (0, 12, Ps1)))) ((.inr (.inl (0, 12, Ps2)))) ((.inr (.inl (0, 12, Ps3)))) ((.inr (.inl (0, 12, Ps4)))) ((.inr (.inl (0, 48, Pi1)))) ((.inr (.inl (0, 48, Pi2)))) ((.inr (.inl (0, 48, Pi3)))) ((.inr (.inl (0, 48, Pi4))))) s.heap := hH
  have hl : lv_has ls 2 [(0, .ref a0)] := hl
  refine lv_aload_n F.1 F.2.1 dX0_pass_0 rfl (lv_at hl 0 rfl) ?_
  refine tVv (b := a0) (As := []) (rest := []) F hK hN hO (c_X0_passReaches E rc rd tp Fa1 Fb1 Fa2 Fb2 Fa3 Fb3 Fa4 Fb4 Pd1 Pd2 Pd3 Pd4 Ps1 Ps2 Ps3 Ps4 Pi1 Pi2 Pi3 Pi4 a0 ha0 hFa1 hFb1 hFa2 hFb2 hFa3 hFb3 hFa4 hFb4 hPd1 hPd2 hPd3 hPd4 hPs1 hPs2 hPs3 hPs4 hPi1 hPi2 hPi3 hPi4) mv_X0_passReaches wd_24_6 ⟨Nat.le_of_ble_eq_true rfl, Nat.le_of_ble_eq_true rfl⟩ ⟨Nat.le_of_ble_eq_true rfl, Nat.le_of_ble_eq_true rfl⟩ hH hS (tRecv hK hH (tyb ha0 (all2 rfl rfl)) clX0) rfl hl.1 (Nat.le_of_ble_eq_true rfl) dX0_pass_1 (fun H locs hq hS => ?_)
  have hH := hq
  have hH : TH E (tbC (dayD (.inl (0, 18))) (dayD (.inl (0, 18))) (riverD (.inl Fa1) (.inl Fb1) (.inl (0, 4)) 31 33 35 39 43 47) (riverD (.inl Fa2) (.inl Fb2) (.inl (0, 4)) 32 34 36 40 44 48) rc rd tp A14F A14F A4F A4F A14F A14F (riverD (.inl Fa3) (.inl Fb3) (.inl (0, 4)) 3 8 3 41 45 49) (riverD (.inl Fa4) (.inl Fb4) (.inl (0, 4)) 3 8 3 42 46 50) ((.inr (.inl (0, 12, Pd1)))) ((.inr (.inl (0, 12, Pd2)))) ((.inr (.inl (0, 12, Pd3)))) ((.inr (.inl (0, 12, Pd4)))) ((.inr (.inl (0, 12, Ps1)))) ((.inr (.inl (0, 12, Ps2)))) ((.inr (.inl (0, 12, Ps3)))) ((.inr (.inl (0, 12, Ps4)))) ((.inr (.inl (0, 48, Pi1)))) ((.inr (.inl (0, 48, Pi2)))) ((.inr (.inl (0, 48, Pi3)))) ((.inr (.inl (0, 48, Pi4))))) H := hH
  refine lv_iconst (v := 0) F.1 F.2.1 dX0_pass_4 (by decide) ?_
  refine topK (a := 0) (by decide) (fun k_2 hk_2 => ?_)
  refine lv_istore_n (lv' := [(1, .int k_2), (0, .ref a0)]) F.1 F.2.1 dX0_pass_5 rfl hl (by decide) rfl (fun ls hl => ?_)
  refine wloop (σ := Int32) (fun n9 x9 H locs ls => (14 - x9.toInt + 1).toNat < n9 ∧ (0 ≤ x9.toInt ∧ x9.toInt ≤ 14) ∧ TH E (tbC (dayD (.inl (0, 18))) (dayD (.inl (0, 18))) (riverD (.inl Fa1) (.inl Fb1) (.inl (0, 4)) 31 33 35 39 43 47) (riverD (.inl Fa2) (.inl Fb2) (.inl (0, 4)) 32 34 36 40 44 48) rc rd tp A14F A14F A4F A4F A14F A14F (riverD (.inl Fa3) (.inl Fb3) (.inl (0, 4)) 3 8 3 41 45 49) (riverD (.inl Fa4) (.inl Fb4) (.inl (0, 4)) 3 8 3 42 46 50) ((.inr (.inl (0, 12, Pd1)))) ((.inr (.inl (0, 12, Pd2)))) ((.inr (.inl (0, 12, Pd3)))) ((.inr (.inl (0, 12, Pd4)))) ((.inr (.inl (0, 12, Ps1)))) ((.inr (.inl (0, 12, Ps2)))) ((.inr (.inl (0, 12, Ps3)))) ((.inr (.inl (0, 12, Ps4)))) ((.inr (.inl (0, 48, Pi1)))) ((.inr (.inl (0, 48, Pi2)))) ((.inr (.inl (0, 48, Pi3)))) ((.inr (.inl (0, 48, Pi4))))) H ∧ va_S (eA E s.heap.size) s.heap H locs ∧ lv_has ls 2 [(0, .ref a0), (1, .int x9)]) ?_ (fun x9 H locs ls h => absurd h.1 (Nat.not_lt_zero _)) _ (k_2) ⟨Nat.lt_succ_self _, (wkb (eqb hk_2) rfl rfl), hH, hS, lv_sub hl [1, 0] rfl⟩
  intro n_6 ih_6 u_3 H locs ls ⟨hm_6, hu_3, hH, hS, hl⟩
  have hm_6 : (14 - u_3.toInt + 1).toNat < n_6 + 1 := hm_6
  have hu_3 : (0 ≤ u_3.toInt ∧ u_3.toInt ≤ 14) := hu_3
  have hH : TH E (tbC (dayD (.inl (0, 18))) (dayD (.inl (0, 18))) (riverD (.inl Fa1) (.inl Fb1) (.inl (0, 4)) 31 33 35 39 43 47) (riverD (.inl Fa2) (.inl Fb2) (.inl (0, 4)) 32 34 36 40 44 48) rc rd tp A14F A14F A4F A4F A14F A14F (riverD (.inl Fa3) (.inl Fb3) (.inl (0, 4)) 3 8 3 41 45 49) (riverD (.inl Fa4) (.inl Fb4) (.inl (0, 4)) 3 8 3 42 46 50) ((.inr (.inl (0, 12, Pd1)))) ((.inr (.inl (0, 12, Pd2)))) ((.inr (.inl (0, 12, Pd3)))) ((.inr (.inl (0, 12, Pd4)))) ((.inr (.inl (0, 12, Ps1)))) ((.inr (.inl (0, 12, Ps2)))) ((.inr (.inl (0, 12, Ps3)))) ((.inr (.inl (0, 12, Ps4)))) ((.inr (.inl (0, 48, Pi1)))) ((.inr (.inl (0, 48, Pi2)))) ((.inr (.inl (0, 48, Pi3)))) ((.inr (.inl (0, 48, Pi4))))) H := hH
  have hl : lv_has ls 2 [(0, .ref a0), (1, .int u_3)] := hl
  refine lv_iload_n F.1 F.2.1 dX0_pass_6 rfl (lv_at hl 1 rfl) ?_
  refine lv_aload_n F.1 F.2.1 dX0_pass_7 rfl (lv_at hl 0 rfl) ?_
  refine tGetR0 (j := 0) F hK hH (tyb ha0 (all2 rfl rfl)) rfl clX0 (by decide) wd_4_23 dX0_pass_8 (fun q_4 hq_4 => ?_)
  refine tGetIB (j := 4) (lo := 0) (hi := 14) F hK hH hq_4 (alls ⟨_, _, rfl, rfl, by have h9_ := hFb1; omega⟩ (alls1 ⟨_, _, rfl, rfl, by have h9_ := hFb2; omega⟩)) clX2 (by decide) wd_20_4 dX0_pass_11 (fun z_5 hz_5 => ?_)
  refine b_ge (tgt := 28) F dX0_pass_14 (by decide) (fun c_6 => ?_) (fun c_6 => ?_)
  · skip
    refine lv_iconst (v := 0) F.1 F.2.1 dX0_pass_28 (by decide) ?_
    refine topK (a := 0) (by decide) (fun k_9 hk_9 => ?_)
    refine lv_istore_n (lv' := [(1, .int k_9), (0, .ref a0)]) F.1 F.2.1 dX0_pass_29 rfl hl (by decide) rfl (fun ls hl => ?_)
    refine wloop (σ := Int32) (fun n9 x9 H locs ls => (4 - x9.toInt + 1).toNat < n9 ∧ (0 ≤ x9.toInt ∧ x9.toInt ≤ 4) ∧ TH E (tbC (dayD (.inl (0, 18))) (dayD (.inl (0, 18))) (riverD (.inl Fa1) (.inl Fb1) (.inl (0, 4)) 31 33 35 39 43 47) (riverD (.inl Fa2) (.inl Fb2) (.inl (0, 4)) 32 34 36 40 44 48) rc rd tp A14F A14F A4F A4F A14F A14F (riverD (.inl Fa3) (.inl Fb3) (.inl (0, 4)) 3 8 3 41 45 49) (riverD (.inl Fa4) (.inl Fb4) (.inl (0, 4)) 3 8 3 42 46 50) ((.inr (.inl (0, 12, Pd1)))) ((.inr (.inl (0, 12, Pd2)))) ((.inr (.inl (0, 12, Pd3)))) ((.inr (.inl (0, 12, Pd4)))) ((.inr (.inl (0, 12, Ps1)))) ((.inr (.inl (0, 12, Ps2)))) ((.inr (.inl (0, 12, Ps3)))) ((.inr (.inl (0, 12, Ps4)))) ((.inr (.inl (0, 48, Pi1)))) ((.inr (.inl (0, 48, Pi2)))) ((.inr (.inl (0, 48, Pi3)))) ((.inr (.inl (0, 48, Pi4))))) H ∧ va_S (eA E s.heap.size) s.heap H locs ∧ lv_has ls 2 [(0, .ref a0), (1, .int x9)]) ?_ (fun x9 H locs ls h => absurd h.1 (Nat.not_lt_zero _)) _ (k_9) ⟨Nat.lt_succ_self _, (wkb (eqb hk_9) rfl rfl), hH, hS, lv_sub hl [1, 0] rfl⟩
    intro n_30 ih_30 u_10 H locs ls ⟨hm_30, hu_10, hH, hS, hl⟩
    have hm_30 : (4 - u_10.toInt + 1).toNat < n_30 + 1 := hm_30
    have hu_10 : (0 ≤ u_10.toInt ∧ u_10.toInt ≤ 4) := hu_10
    have hH : TH E (tbC (dayD (.inl (0, 18))) (dayD (.inl (0, 18))) (riverD (.inl Fa1) (.inl Fb1) (.inl (0, 4)) 31 33 35 39 43 47) (riverD (.inl Fa2) (.inl Fb2) (.inl (0, 4)) 32 34 36 40 44 48) rc rd tp A14F A14F A4F A4F A14F A14F (riverD (.inl Fa3) (.inl Fb3) (.inl (0, 4)) 3 8 3 41 45 49) (riverD (.inl Fa4) (.inl Fb4) (.inl (0, 4)) 3 8 3 42 46 50) ((.inr (.inl (0, 12, Pd1)))) ((.inr (.inl (0, 12, Pd2)))) ((.inr (.inl (0, 12, Pd3)))) ((.inr (.inl (0, 12, Pd4)))) ((.inr (.inl (0, 12, Ps1)))) ((.inr (.inl (0, 12, Ps2)))) ((.inr (.inl (0, 12, Ps3)))) ((.inr (.inl (0, 12, Ps4)))) ((.inr (.inl (0, 48, Pi1)))) ((.inr (.inl (0, 48, Pi2)))) ((.inr (.inl (0, 48, Pi3)))) ((.inr (.inl (0, 48, Pi4))))) H := hH
    have hl : lv_has ls 2 [(0, .ref a0), (1, .int u_10)] := hl
    refine lv_iload_n F.1 F.2.1 dX0_pass_30 rfl (lv_at hl 1 rfl) ?_
    refine lv_aload_n F.1 F.2.1 dX0_pass_31 rfl (lv_at hl 0 rfl) ?_
    refine tGetR0 (j := 0) F hK hH (tyb ha0 (all2 rfl rfl)) rfl clX0 (by decide) wd_4_23 dX0_pass_32 (fun q_11 hq_11 => ?_)
    refine tGetIM (j := 14) F hK hH hq_11 (alls ⟨_, rfl, rfl⟩ (alls1 ⟨_, rfl, rfl⟩)) clX2 (by decide) wd_20_6 dX0_pass_35 (fun z_12 hz_12 => ?_)
    refine b_ge (tgt := 61) F dX0_pass_38 (by decide) (fun c_13 => ?_) (fun c_13 => ?_)
    · skip
      refine lv_aload_n F.1 F.2.1 dX0_pass_61 rfl (lv_at hl 0 rfl) ?_
      refine tGetR (j := 1) F hK hH (tyb ha0 (all2 rfl rfl)) rfl (all1 rfl) clX0 (by decide) wd_5_0 dX0_pass_62 (fun q_16 hq_16 _ => ?_)
      refine tGetR (j := 12) F hK hH (tyb hq_16 (all1 rfl)) rfl (all1 rfl) clX5 (by decide) wd_24_5 dX0_pass_65 (fun q_17 hq_17 _ => ?_)
      refine lv_iconst (v := 5) F.1 F.2.1 dX0_pass_68 (by decide) ?_
      refine topK (a := 5) (by decide) (fun k_18 hk_18 => ?_)
      refine lv_dup2_11 F.1 F.2.1 dX0_pass_69 rfl rfl ?_
      refine tLald F hK hH (tyb hq_17 (all1 rfl)) (ixb (n := 6) (eqb hk_18) rfl rfl) dX0_pass_70 (fun w_19 => ?_)
      refine lv_lconst (v := 1) F.1 F.2.1 dX0_pass_71 (by decide) ?_
      refine topKL (a := 1) (by decide) (fun j_20 hj_20 => ?_)
      refine lv_ladd F.1 F.2.1 dX0_pass_72 ?_
      refine topFL (fun w_21 => ?_)
      refine tLast F hK hH hS (tyb hq_17 (all1 rfl)) (ixb (n := 6) (eqb hk_18) rfl rfl) dX0_pass_73 (fun H locs hH hS => ?_)
      refine passSeg (a0 := a0) F hK hH hS (tyb ha0 (all2 rfl rfl)) (lv_at hl 0 rfl) (fun H locs hH hS => ?_) (fun H locs hH hS => ?_)
      · skip
        exact txV F hS dX0_pass_125 (hH)
      · skip
        refine lv_aload_n F.1 F.2.1 dX0_pass_108 rfl (lv_at hl 0 rfl) ?_
        refine tGetR0 (j := 0) F hK hH (tyb ha0 (all2 rfl rfl)) rfl clX0 (by decide) wd_4_23 dX0_pass_109 (fun q_22 hq_22 => ?_)
        refine tGetRM (j := 10) (L := [3]) F hK hH hq_22 (alls ⟨_, _, rfl, rfl, by decide⟩ (alls1 ⟨_, _, rfl, rfl, by decide⟩)) (all1 rfl) clX2 (by decide) wd_21_21 dX0_pass_112 (fun q_23 hq_23 _ => ?_)
        refine lv_aload_n F.1 F.2.1 dX0_pass_115 rfl (lv_at hl 0 rfl) ?_
        refine tGetR (j := 1) F hK hH (tyb ha0 (all2 rfl rfl)) rfl (all1 rfl) clX0 (by decide) wd_5_0 dX0_pass_116 (fun q_24 hq_24 _ => ?_)
        refine tGetR (j := 5) F hK hH (tyb hq_24 (all1 rfl)) rfl (all1 rfl) clX5 (by decide) wd_21_22 dX0_pass_119 (fun q_25 hq_25 _ => ?_)
        refine tNv (host := RX6) (As := [.ref q_23, .ref q_25]) (rest := []) F hK hN hO (c_X6_copyRow_A14F E (dayD (.inl (0, 18))) (dayD (.inl (0, 18))) (riverD (.inl Fa1) (.inl Fb1) (.inl (0, 4)) 31 33 35 39 43 47) (riverD (.inl Fa2) (.inl Fb2) (.inl (0, 4)) 32 34 36 40 44 48) rc rd tp A14F A14F A4F A4F A14F A14F (riverD (.inl Fa3) (.inl Fb3) (.inl (0, 4)) 3 8 3 41 45 49) (riverD (.inl Fa4) (.inl Fb4) (.inl (0, 4)) 3 8 3 42 46 50) ((.inr (.inl (0, 12, Pd1)))) ((.inr (.inl (0, 12, Pd2)))) ((.inr (.inl (0, 12, Pd3)))) ((.inr (.inl (0, 12, Pd4)))) ((.inr (.inl (0, 12, Ps1)))) ((.inr (.inl (0, 12, Ps2)))) ((.inr (.inl (0, 12, Ps3)))) ((.inr (.inl (0, 12, Ps4)))) ((.inr (.inl (0, 48, Pi1)))) ((.inr (.inl (0, 48, Pi2)))) ((.inr (.inl (0, 48, Pi3)))) ((.inr (.inl (0, 48, Pi4)))) q_23 q_25 hq_23 hq_25) ms_X6_copyRow hN.1.2.2.2.2.1 ⟨Nat.le_of_ble_eq_true rfl, Nat.le_of_ble_eq_true rfl⟩ ⟨Nat.le_of_ble_eq_true rfl, Nat.le_of_ble_eq_true rfl⟩ hH hS rfl hl.1 (Nat.le_of_ble_eq_true rfl) dX0_pass_122 (fun H locs hq hS => ?_)
        have hH := hq
        have hH : TH E (tbC (dayD (.inl (0, 18))) (dayD (.inl (0, 18))) (riverD (.inl Fa1) (.inl Fb1) (.inl (0, 4)) 31 33 35 39 43 47) (riverD (.inl Fa2) (.inl Fb2) (.inl (0, 4)) 32 34 36 40 44 48) rc rd tp A14F A14F A4F A4F A14F A14F (riverD (.inl Fa3) (.inl Fb3) (.inl (0, 4)) 3 8 3 41 45 49) (riverD (.inl Fa4) (.inl Fb4) (.inl (0, 4)) 3 8 3 42 46 50) ((.inr (.inl (0, 12, Pd1)))) ((.inr (.inl (0, 12, Pd2)))) ((.inr (.inl (0, 12, Pd3)))) ((.inr (.inl (0, 12, Pd4)))) ((.inr (.inl (0, 12, Ps1)))) ((.inr (.inl (0, 12, Ps2)))) ((.inr (.inl (0, 12, Ps3)))) ((.inr (.inl (0, 12, Ps4)))) ((.inr (.inl (0, 48, Pi1)))) ((.inr (.inl (0, 48, Pi2)))) ((.inr (.inl (0, 48, Pi3)))) ((.inr (.inl (0, 48, Pi4))))) H := hH
        exact txV F hS dX0_pass_125 (hH)
    · skip
      have r_14 : 0 ≤ u_10.toInt ∧ u_10.toInt ≤ 3 := by have h9_ := hu_10; omega
      have r_15 : 1 ≤ z_12.toInt ∧ z_12.toInt ≤ 4 := by have h9_ := hz_12; omega
      refine lv_aload_n F.1 F.2.1 dX0_pass_41 rfl (lv_at hl 0 rfl) ?_
      refine tGetR (j := 1) F hK hH (tyb ha0 (all2 rfl rfl)) rfl (all1 rfl) clX0 (by decide) wd_5_0 dX0_pass_42 (fun q_27 hq_27 _ => ?_)
      refine tGetR (j := 8) F hK hH (tyb hq_27 (all1 rfl)) rfl (all1 rfl) clX5 (by decide) wd_21_4 dX0_pass_45 (fun q_28 hq_28 _ => ?_)
      refine lv_iload_n F.1 F.2.1 dX0_pass_48 rfl (lv_at hl 1 rfl) ?_
      refine lv_aload_n F.1 F.2.1 dX0_pass_49 rfl (lv_at hl 0 rfl) ?_
      refine lv_iload_n F.1 F.2.1 dX0_pass_50 rfl (lv_at hl 1 rfl) ?_
      refine tVi (b := a0) (As := [.int u_10]) (rest := [.int u_10, .ref q_28]) F hK hN hO (c_X0_contentBehind E rc rd tp Fa1 Fb1 Fa2 Fb2 Fa3 Fb3 Fa4 Fb4 Pd1 Pd2 Pd3 Pd4 Ps1 Ps2 Ps3 Ps4 Pi1 Pi2 Pi3 Pi4 a0 u_10 ha0 r_14 hFa1 hFb1 hFa2 hFb2 hFa3 hFb3 hFa4 hFb4 hPd1 hPd2 hPd3 hPd4 hPs1 hPs2 hPs3 hPs4 hPi1 hPi2 hPi3 hPi4) mv_X0_contentBehind wd_24_18 ⟨Nat.le_of_ble_eq_true rfl, Nat.le_of_ble_eq_true rfl⟩ ⟨Nat.le_of_ble_eq_true rfl, Nat.le_of_ble_eq_true rfl⟩ hH hS (tRecv hK hH (tyb ha0 (all2 rfl rfl)) clX0) rfl hl.1 (Nat.le_of_ble_eq_true rfl) dX0_pass_51 (fun z_29 H locs hq hS => ?_)
      obtain ⟨f_30, hH⟩ := hq
      have hH : TH E (tbC (dayD (.inl (0, 18))) (dayD (.inl (0, 18))) (riverD (.inl Fa1) (.inl Fb1) (.inl (0, 4)) 31 33 35 39 43 47) (riverD (.inl Fa2) (.inl Fb2) (.inl (0, 4)) 32 34 36 40 44 48) rc rd tp A14F A14F A4F A4F A14F A14F (riverD (.inl Fa3) (.inl Fb3) (.inl (0, 4)) 3 8 3 41 45 49) (riverD (.inl Fa4) (.inl Fb4) (.inl (0, 4)) 3 8 3 42 46 50) ((.inr (.inl (0, 12, Pd1)))) ((.inr (.inl (0, 12, Pd2)))) ((.inr (.inl (0, 12, Pd3)))) ((.inr (.inl (0, 12, Pd4)))) ((.inr (.inl (0, 12, Ps1)))) ((.inr (.inl (0, 12, Ps2)))) ((.inr (.inl (0, 12, Ps3)))) ((.inr (.inl (0, 12, Ps4)))) ((.inr (.inl (0, 48, Pi1)))) ((.inr (.inl (0, 48, Pi2)))) ((.inr (.inl (0, 48, Pi3)))) ((.inr (.inl (0, 48, Pi4))))) H := hH
      refine tIastB F hK hH hS (tyb hq_28 (all1 rfl)) (ixb (n := 4) r_14 rfl rfl) f_30 dX0_pass_54 (fun H locs hH hS => ?_)
      obtain ⟨x_31, ex_31, hx_31⟩ := iincB (c := 1) (lo := 1) (hi := 4) r_14 rfl
      refine lv_iinc (v := x_31) (lv' := [(1, .int x_31), (0, .ref a0)]) F.1 F.2.1 dX0_pass_55 hl (k := 1) rfl ex_31 (by decide) rfl (fun ls hl => ?_)
      refine lv_goto (tgt := 30) F.1 F.2.1 dX0_pass_58 (by decide) ?_
      exact ih_30 (x_31) _ _ _ ⟨(show (4 - x_31.toInt + 1).toNat < n_30 from by omega), (wkb hx_31.2 rfl rfl), hH, hS, lv_sub hl [1, 0] rfl⟩
  · skip
    have r_7 : 0 ≤ u_3.toInt ∧ u_3.toInt ≤ 13 := by have h9_ := hu_3; omega
    have r_8 : 1 ≤ z_5.toInt ∧ z_5.toInt ≤ 14 := by have h9_ := hz_5; omega
    refine lv_aload_n F.1 F.2.1 dX0_pass_17 rfl (lv_at hl 0 rfl) ?_
    refine lv_iload_n F.1 F.2.1 dX0_pass_18 rfl (lv_at hl 1 rfl) ?_
    refine tVv (b := a0) (As := [.int u_3]) (rest := []) F hK hN hO (c_X0_passRight E rc rd tp Fa1 Fb1 Fa2 Fb2 Fa3 Fb3 Fa4 Fb4 Pd1 Pd2 Pd3 Pd4 Ps1 Ps2 Ps3 Ps4 Pi1 Pi2 Pi3 Pi4 a0 u_3 ha0 r_7 hFa1 hFb1 hFa2 hFb2 hFa3 hFb3 hFa4 hFb4 hPd1 hPd2 hPd3 hPd4 hPs1 hPs2 hPs3 hPs4 hPi1 hPi2 hPi3 hPi4) mv_X0_passRight wd_24_10 ⟨Nat.le_of_ble_eq_true rfl, Nat.le_of_ble_eq_true rfl⟩ ⟨Nat.le_of_ble_eq_true rfl, Nat.le_of_ble_eq_true rfl⟩ hH hS (tRecv hK hH (tyb ha0 (all2 rfl rfl)) clX0) rfl hl.1 (Nat.le_of_ble_eq_true rfl) dX0_pass_19 (fun H locs hq hS => ?_)
    have hH := hq
    have hH : TH E (tbC (dayD (.inl (0, 18))) (dayD (.inl (0, 18))) (riverD (.inl Fa1) (.inl Fb1) (.inl (0, 4)) 31 33 35 39 43 47) (riverD (.inl Fa2) (.inl Fb2) (.inl (0, 4)) 32 34 36 40 44 48) rc rd tp A14F A14F A4F A4F A14F A14F (riverD (.inl Fa3) (.inl Fb3) (.inl (0, 4)) 3 8 3 41 45 49) (riverD (.inl Fa4) (.inl Fb4) (.inl (0, 4)) 3 8 3 42 46 50) ((.inr (.inl (0, 12, Pd1)))) ((.inr (.inl (0, 12, Pd2)))) ((.inr (.inl (0, 12, Pd3)))) ((.inr (.inl (0, 12, Pd4)))) ((.inr (.inl (0, 12, Ps1)))) ((.inr (.inl (0, 12, Ps2)))) ((.inr (.inl (0, 12, Ps3)))) ((.inr (.inl (0, 12, Ps4)))) ((.inr (.inl (0, 48, Pi1)))) ((.inr (.inl (0, 48, Pi2)))) ((.inr (.inl (0, 48, Pi3)))) ((.inr (.inl (0, 48, Pi4))))) H := hH
    obtain ⟨x_33, ex_33, hx_33⟩ := iincB (c := 1) (lo := 1) (hi := 14) r_7 rfl
    refine lv_iinc (v := x_33) (lv' := [(1, .int x_33), (0, .ref a0)]) F.1 F.2.1 dX0_pass_22 hl (k := 1) rfl ex_33 (by decide) rfl (fun ls hl => ?_)
    refine lv_goto (tgt := 6) F.1 F.2.1 dX0_pass_25 (by decide) ?_
    exact ih_6 (x_33) _ _ _ ⟨(show (14 - x_33.toInt + 1).toNat < n_6 from by omega), (wkb hx_33.2 rfl rfl), hH, hS, lv_sub hl [1, 0] rfl⟩
