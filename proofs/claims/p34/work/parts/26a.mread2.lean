theorem dX7_readsReach_0 : decode cX7_readsReach 0 = .ok (.aload_n 0, 1) := by decide +kernel
theorem dX7_readsReach_1 : decode cX7_readsReach 1 = .ok (.ldc_w 370, 3) := by decide +kernel
theorem dX7_readsReach_4 : decode cX7_readsReach 4 = .ok (.iconst 0, 1) := by decide +kernel
theorem dX7_readsReach_5 : decode cX7_readsReach 5 = .ok (.bipush 12, 2) := by decide +kernel
theorem dX7_readsReach_7 : decode cX7_readsReach 7 = .ok (.invokevirtual 372, 3) := by decide +kernel
theorem dX7_readsReach_10 : decode cX7_readsReach 10 = .ok (.ifCond .ne 5, 3) := by decide +kernel
theorem dX7_readsReach_13 : decode cX7_readsReach 13 = .ok (.iconst 0, 1) := by decide +kernel
theorem dX7_readsReach_14 : decode cX7_readsReach 14 = .ok (.ireturn, 1) := by decide +kernel
theorem dX7_readsReach_15 : decode cX7_readsReach 15 = .ok (.bipush 6, 2) := by decide +kernel
theorem dX7_readsReach_17 : decode cX7_readsReach 17 = .ok (.bipush 6, 2) := by decide +kernel
theorem dX7_readsReach_19 : decode cX7_readsReach 19 = .ok (.aload_n 0, 1) := by decide +kernel
theorem dX7_readsReach_20 : decode cX7_readsReach 20 = .ok (.getfield 83, 3) := by decide +kernel
theorem dX7_readsReach_23 : decode cX7_readsReach 23 = .ok (.iconst 0, 1) := by decide +kernel
theorem dX7_readsReach_24 : decode cX7_readsReach 24 = .ok (.iaload, 1) := by decide +kernel
theorem dX7_readsReach_25 : decode cX7_readsReach 25 = .ok (.imul, 1) := by decide +kernel
theorem dX7_readsReach_26 : decode cX7_readsReach 26 = .ok (.iadd, 1) := by decide +kernel
theorem dX7_readsReach_27 : decode cX7_readsReach 27 = .ok (.istore_n 1, 1) := by decide +kernel
theorem dX7_readsReach_28 : decode cX7_readsReach 28 = .ok (.aload_n 0, 1) := by decide +kernel
theorem dX7_readsReach_29 : decode cX7_readsReach 29 = .ok (.getfield 83, 3) := by decide +kernel
theorem dX7_readsReach_32 : decode cX7_readsReach 32 = .ok (.iload_n 1, 1) := by decide +kernel
theorem dX7_readsReach_33 : decode cX7_readsReach 33 = .ok (.iconst 0, 1) := by decide +kernel
theorem dX7_readsReach_34 : decode cX7_readsReach 34 = .ok (.iadd, 1) := by decide +kernel
theorem dX7_readsReach_35 : decode cX7_readsReach 35 = .ok (.iconst (-1), 1) := by decide +kernel
theorem dX7_readsReach_36 : decode cX7_readsReach 36 = .ok (.iastore, 1) := by decide +kernel
theorem dX7_readsReach_37 : decode cX7_readsReach 37 = .ok (.aload_n 0, 1) := by decide +kernel
theorem dX7_readsReach_38 : decode cX7_readsReach 38 = .ok (.ldc_w 376, 3) := by decide +kernel
theorem dX7_readsReach_41 : decode cX7_readsReach 41 = .ok (.invokevirtual 347, 3) := by decide +kernel
theorem dX7_readsReach_44 : decode cX7_readsReach 44 = .ok (.ifCond .ne 15, 3) := by decide +kernel
theorem dX7_readsReach_47 : decode cX7_readsReach 47 = .ok (.aload_n 0, 1) := by decide +kernel
theorem dX7_readsReach_48 : decode cX7_readsReach 48 = .ok (.iload_n 1, 1) := by decide +kernel
theorem dX7_readsReach_49 : decode cX7_readsReach 49 = .ok (.iconst 0, 1) := by decide +kernel
theorem dX7_readsReach_50 : decode cX7_readsReach 50 = .ok (.iadd, 1) := by decide +kernel
theorem dX7_readsReach_51 : decode cX7_readsReach 51 = .ok (.invokevirtual 378, 3) := by decide +kernel
theorem dX7_readsReach_54 : decode cX7_readsReach 54 = .ok (.ifCond .ne 5, 3) := by decide +kernel
theorem dX7_readsReach_57 : decode cX7_readsReach 57 = .ok (.iconst 0, 1) := by decide +kernel
theorem dX7_readsReach_58 : decode cX7_readsReach 58 = .ok (.ireturn, 1) := by decide +kernel
theorem dX7_readsReach_59 : decode cX7_readsReach 59 = .ok (.iconst 0, 1) := by decide +kernel
theorem dX7_readsReach_60 : decode cX7_readsReach 60 = .ok (.istore_n 2, 1) := by decide +kernel
theorem dX7_readsReach_61 : decode cX7_readsReach 61 = .ok (.iload_n 2, 1) := by decide +kernel
theorem dX7_readsReach_62 : decode cX7_readsReach 62 = .ok (.iconst 4, 1) := by decide +kernel
theorem dX7_readsReach_63 : decode cX7_readsReach 63 = .ok (.if_icmp .ge 27, 3) := by decide +kernel
theorem dX7_readsReach_66 : decode cX7_readsReach 66 = .ok (.aload_n 0, 1) := by decide +kernel
theorem dX7_readsReach_67 : decode cX7_readsReach 67 = .ok (.iload_n 1, 1) := by decide +kernel
theorem dX7_readsReach_68 : decode cX7_readsReach 68 = .ok (.iconst 2, 1) := by decide +kernel
theorem dX7_readsReach_69 : decode cX7_readsReach 69 = .ok (.iadd, 1) := by decide +kernel
theorem dX7_readsReach_70 : decode cX7_readsReach 70 = .ok (.iload_n 2, 1) := by decide +kernel
theorem dX7_readsReach_71 : decode cX7_readsReach 71 = .ok (.iadd, 1) := by decide +kernel
theorem dX7_readsReach_72 : decode cX7_readsReach 72 = .ok (.iconst 0, 1) := by decide +kernel
theorem dX7_readsReach_73 : decode cX7_readsReach 73 = .ok (.sipush 9999, 3) := by decide +kernel
theorem dX7_readsReach_76 : decode cX7_readsReach 76 = .ok (.invokevirtual 367, 3) := by decide +kernel
theorem dX7_readsReach_79 : decode cX7_readsReach 79 = .ok (.ifCond .ne 5, 3) := by decide +kernel
theorem dX7_readsReach_82 : decode cX7_readsReach 82 = .ok (.iconst 0, 1) := by decide +kernel
theorem dX7_readsReach_83 : decode cX7_readsReach 83 = .ok (.ireturn, 1) := by decide +kernel
theorem dX7_readsReach_84 : decode cX7_readsReach 84 = .ok (.iinc 2 1, 3) := by decide +kernel
theorem dX7_readsReach_87 : decode cX7_readsReach 87 = .ok (.goto (-26), 3) := by decide +kernel
theorem dX7_readsReach_90 : decode cX7_readsReach 90 = .ok (.aload_n 0, 1) := by decide +kernel
theorem dX7_readsReach_91 : decode cX7_readsReach 91 = .ok (.ldc_w 381, 3) := by decide +kernel
theorem dX7_readsReach_94 : decode cX7_readsReach 94 = .ok (.invokevirtual 347, 3) := by decide +kernel
theorem dX7_readsReach_97 : decode cX7_readsReach 97 = .ok (.ifCond .eq 19, 3) := by decide +kernel
theorem dX7_readsReach_100 : decode cX7_readsReach 100 = .ok (.aload_n 0, 1) := by decide +kernel
theorem dX7_readsReach_101 : decode cX7_readsReach 101 = .ok (.iload_n 1, 1) := by decide +kernel
theorem dX7_readsReach_102 : decode cX7_readsReach 102 = .ok (.iconst 1, 1) := by decide +kernel
theorem dX7_readsReach_103 : decode cX7_readsReach 103 = .ok (.iadd, 1) := by decide +kernel
theorem dX7_readsReach_104 : decode cX7_readsReach 104 = .ok (.iconst 0, 1) := by decide +kernel
theorem dX7_readsReach_105 : decode cX7_readsReach 105 = .ok (.sipush 9999, 3) := by decide +kernel
theorem dX7_readsReach_108 : decode cX7_readsReach 108 = .ok (.invokevirtual 367, 3) := by decide +kernel
theorem dX7_readsReach_111 : decode cX7_readsReach 111 = .ok (.ifCond .ne 5, 3) := by decide +kernel
theorem dX7_readsReach_114 : decode cX7_readsReach 114 = .ok (.iconst 0, 1) := by decide +kernel
theorem dX7_readsReach_115 : decode cX7_readsReach 115 = .ok (.ireturn, 1) := by decide +kernel
theorem dX7_readsReach_116 : decode cX7_readsReach 116 = .ok (.aload_n 0, 1) := by decide +kernel
theorem dX7_readsReach_117 : decode cX7_readsReach 117 = .ok (.getfield 83, 3) := by decide +kernel
theorem dX7_readsReach_120 : decode cX7_readsReach 120 = .ok (.iconst 0, 1) := by decide +kernel
theorem dX7_readsReach_121 : decode cX7_readsReach 121 = .ok (.dup2, 1) := by decide +kernel
theorem dX7_readsReach_122 : decode cX7_readsReach 122 = .ok (.iaload, 1) := by decide +kernel
theorem dX7_readsReach_123 : decode cX7_readsReach 123 = .ok (.iconst 1, 1) := by decide +kernel
theorem dX7_readsReach_124 : decode cX7_readsReach 124 = .ok (.iadd, 1) := by decide +kernel
theorem dX7_readsReach_125 : decode cX7_readsReach 125 = .ok (.iastore, 1) := by decide +kernel
theorem dX7_readsReach_126 : decode cX7_readsReach 126 = .ok (.iconst 1, 1) := by decide +kernel
theorem dX7_readsReach_127 : decode cX7_readsReach 127 = .ok (.ireturn, 1) := by decide +kernel
theorem dX7_readsRight_0 : decode cX7_readsRight 0 = .ok (.aload_n 0, 1) := by decide +kernel
theorem dX7_readsRight_1 : decode cX7_readsRight 1 = .ok (.ldc_w 390, 3) := by decide +kernel
theorem dX7_readsRight_4 : decode cX7_readsRight 4 = .ok (.iconst 1, 1) := by decide +kernel
theorem dX7_readsRight_5 : decode cX7_readsRight 5 = .ok (.bipush 14, 2) := by decide +kernel
theorem dX7_readsRight_7 : decode cX7_readsRight 7 = .ok (.invokevirtual 372, 3) := by decide +kernel
theorem dX7_readsRight_10 : decode cX7_readsRight 10 = .ok (.ifCond .ne 5, 3) := by decide +kernel
theorem dX7_readsRight_13 : decode cX7_readsRight 13 = .ok (.iconst 0, 1) := by decide +kernel
theorem dX7_readsRight_14 : decode cX7_readsRight 14 = .ok (.ireturn, 1) := by decide +kernel
theorem dX7_readsRight_15 : decode cX7_readsRight 15 = .ok (.bipush 78, 2) := by decide +kernel
theorem dX7_readsRight_17 : decode cX7_readsRight 17 = .ok (.bipush 13, 2) := by decide +kernel
theorem dX7_readsRight_19 : decode cX7_readsRight 19 = .ok (.aload_n 0, 1) := by decide +kernel
theorem dX7_readsRight_20 : decode cX7_readsRight 20 = .ok (.getfield 83, 3) := by decide +kernel
theorem dX7_readsRight_23 : decode cX7_readsRight 23 = .ok (.iconst 1, 1) := by decide +kernel
theorem dX7_readsRight_24 : decode cX7_readsRight 24 = .ok (.iaload, 1) := by decide +kernel
theorem dX7_readsRight_25 : decode cX7_readsRight 25 = .ok (.imul, 1) := by decide +kernel
theorem dX7_readsRight_26 : decode cX7_readsRight 26 = .ok (.iadd, 1) := by decide +kernel
theorem dX7_readsRight_27 : decode cX7_readsRight 27 = .ok (.istore_n 1, 1) := by decide +kernel
theorem dX7_readsRight_28 : decode cX7_readsRight 28 = .ok (.aload_n 0, 1) := by decide +kernel
theorem dX7_readsRight_29 : decode cX7_readsRight 29 = .ok (.iload_n 1, 1) := by decide +kernel
theorem dX7_readsRight_30 : decode cX7_readsRight 30 = .ok (.iconst 0, 1) := by decide +kernel
theorem dX7_readsRight_31 : decode cX7_readsRight 31 = .ok (.iadd, 1) := by decide +kernel
theorem dX7_readsRight_32 : decode cX7_readsRight 32 = .ok (.invokevirtual 378, 3) := by decide +kernel
theorem dX7_readsRight_35 : decode cX7_readsRight 35 = .ok (.ifCond .eq 62, 3) := by decide +kernel
theorem dX7_readsRight_38 : decode cX7_readsRight 38 = .ok (.aload_n 0, 1) := by decide +kernel
theorem dX7_readsRight_39 : decode cX7_readsRight 39 = .ok (.iload_n 1, 1) := by decide +kernel
theorem dX7_readsRight_40 : decode cX7_readsRight 40 = .ok (.iconst 1, 1) := by decide +kernel
theorem dX7_readsRight_41 : decode cX7_readsRight 41 = .ok (.iadd, 1) := by decide +kernel
theorem dX7_readsRight_42 : decode cX7_readsRight 42 = .ok (.iconst 1, 1) := by decide +kernel
theorem dX7_readsRight_43 : decode cX7_readsRight 43 = .ok (.sipush 9999, 3) := by decide +kernel
theorem dX7_readsRight_46 : decode cX7_readsRight 46 = .ok (.invokevirtual 367, 3) := by decide +kernel
theorem dX7_readsRight_49 : decode cX7_readsRight 49 = .ok (.ifCond .eq 48, 3) := by decide +kernel
theorem dX7_readsRight_52 : decode cX7_readsRight 52 = .ok (.aload_n 0, 1) := by decide +kernel
theorem dX7_readsRight_53 : decode cX7_readsRight 53 = .ok (.iload_n 1, 1) := by decide +kernel
theorem dX7_readsRight_54 : decode cX7_readsRight 54 = .ok (.iconst 2, 1) := by decide +kernel
theorem dX7_readsRight_55 : decode cX7_readsRight 55 = .ok (.iadd, 1) := by decide +kernel
theorem dX7_readsRight_56 : decode cX7_readsRight 56 = .ok (.iconst 0, 1) := by decide +kernel
theorem dX7_readsRight_57 : decode cX7_readsRight 57 = .ok (.sipush 359, 3) := by decide +kernel
theorem dX7_readsRight_60 : decode cX7_readsRight 60 = .ok (.invokevirtual 367, 3) := by decide +kernel
theorem dX7_readsRight_63 : decode cX7_readsRight 63 = .ok (.ifCond .eq 34, 3) := by decide +kernel
theorem dX7_readsRight_66 : decode cX7_readsRight 66 = .ok (.aload_n 0, 1) := by decide +kernel
theorem dX7_readsRight_67 : decode cX7_readsRight 67 = .ok (.iload_n 1, 1) := by decide +kernel
theorem dX7_readsRight_68 : decode cX7_readsRight 68 = .ok (.iconst 3, 1) := by decide +kernel
theorem dX7_readsRight_69 : decode cX7_readsRight 69 = .ok (.iadd, 1) := by decide +kernel
theorem dX7_readsRight_70 : decode cX7_readsRight 70 = .ok (.aload_n 0, 1) := by decide +kernel
theorem dX7_readsRight_71 : decode cX7_readsRight 71 = .ok (.getfield 83, 3) := by decide +kernel
theorem dX7_readsRight_74 : decode cX7_readsRight 74 = .ok (.iload_n 1, 1) := by decide +kernel
theorem dX7_readsRight_75 : decode cX7_readsRight 75 = .ok (.iconst 2, 1) := by decide +kernel
theorem dX7_readsRight_76 : decode cX7_readsRight 76 = .ok (.iadd, 1) := by decide +kernel
theorem dX7_readsRight_77 : decode cX7_readsRight 77 = .ok (.iaload, 1) := by decide +kernel
theorem dX7_readsRight_78 : decode cX7_readsRight 78 = .ok (.sipush 359, 3) := by decide +kernel
theorem dX7_readsRight_81 : decode cX7_readsRight 81 = .ok (.invokevirtual 367, 3) := by decide +kernel
theorem dX7_readsRight_84 : decode cX7_readsRight 84 = .ok (.ifCond .eq 13, 3) := by decide +kernel
theorem dX7_readsRight_87 : decode cX7_readsRight 87 = .ok (.aload_n 0, 1) := by decide +kernel
theorem dX7_readsRight_88 : decode cX7_readsRight 88 = .ok (.iload_n 1, 1) := by decide +kernel
theorem dX7_readsRight_89 : decode cX7_readsRight 89 = .ok (.iconst 4, 1) := by decide +kernel
theorem dX7_readsRight_90 : decode cX7_readsRight 90 = .ok (.iadd, 1) := by decide +kernel
theorem dX7_readsRight_91 : decode cX7_readsRight 91 = .ok (.invokevirtual 392, 3) := by decide +kernel
theorem dX7_readsRight_94 : decode cX7_readsRight 94 = .ok (.ifCond .ne 5, 3) := by decide +kernel
theorem dX7_readsRight_97 : decode cX7_readsRight 97 = .ok (.iconst 0, 1) := by decide +kernel
theorem dX7_readsRight_98 : decode cX7_readsRight 98 = .ok (.ireturn, 1) := by decide +kernel
theorem dX7_readsRight_99 : decode cX7_readsRight 99 = .ok (.aload_n 0, 1) := by decide +kernel
theorem dX7_readsRight_100 : decode cX7_readsRight 100 = .ok (.getfield 83, 3) := by decide +kernel
theorem dX7_readsRight_103 : decode cX7_readsRight 103 = .ok (.iload_n 1, 1) := by decide +kernel
theorem dX7_readsRight_104 : decode cX7_readsRight 104 = .ok (.iconst 5, 1) := by decide +kernel
theorem dX7_readsRight_105 : decode cX7_readsRight 105 = .ok (.iadd, 1) := by decide +kernel
theorem dX7_readsRight_106 : decode cX7_readsRight 106 = .ok (.bipush (-2), 2) := by decide +kernel
theorem dX7_readsRight_108 : decode cX7_readsRight 108 = .ok (.iastore, 1) := by decide +kernel
theorem dX7_readsRight_109 : decode cX7_readsRight 109 = .ok (.aload_n 0, 1) := by decide +kernel
theorem dX7_readsRight_110 : decode cX7_readsRight 110 = .ok (.ldc_w 395, 3) := by decide +kernel
theorem dX7_readsRight_113 : decode cX7_readsRight 113 = .ok (.invokevirtual 347, 3) := by decide +kernel
theorem dX7_readsRight_116 : decode cX7_readsRight 116 = .ok (.ifCond .eq 19, 3) := by decide +kernel
theorem dX7_readsRight_119 : decode cX7_readsRight 119 = .ok (.aload_n 0, 1) := by decide +kernel
theorem dX7_readsRight_120 : decode cX7_readsRight 120 = .ok (.iload_n 1, 1) := by decide +kernel
theorem dX7_readsRight_121 : decode cX7_readsRight 121 = .ok (.iconst 5, 1) := by decide +kernel
theorem dX7_readsRight_122 : decode cX7_readsRight 122 = .ok (.iadd, 1) := by decide +kernel
theorem dX7_readsRight_123 : decode cX7_readsRight 123 = .ok (.iconst 1, 1) := by decide +kernel
theorem dX7_readsRight_124 : decode cX7_readsRight 124 = .ok (.ldc_w 397, 3) := by decide +kernel
theorem dX7_readsRight_127 : decode cX7_readsRight 127 = .ok (.invokevirtual 367, 3) := by decide +kernel
theorem dX7_readsRight_130 : decode cX7_readsRight 130 = .ok (.ifCond .ne 5, 3) := by decide +kernel
theorem dX7_readsRight_133 : decode cX7_readsRight 133 = .ok (.iconst 0, 1) := by decide +kernel
theorem dX7_readsRight_134 : decode cX7_readsRight 134 = .ok (.ireturn, 1) := by decide +kernel
theorem dX7_readsRight_135 : decode cX7_readsRight 135 = .ok (.aload_n 0, 1) := by decide +kernel
theorem dX7_readsRight_136 : decode cX7_readsRight 136 = .ok (.iload_n 1, 1) := by decide +kernel
theorem dX7_readsRight_137 : decode cX7_readsRight 137 = .ok (.invokevirtual 398, 3) := by decide +kernel
theorem dX7_readsRight_140 : decode cX7_readsRight 140 = .ok (.ifCond .ne 5, 3) := by decide +kernel
theorem dX7_readsRight_143 : decode cX7_readsRight 143 = .ok (.iconst 0, 1) := by decide +kernel
theorem dX7_readsRight_144 : decode cX7_readsRight 144 = .ok (.ireturn, 1) := by decide +kernel
theorem dX7_readsRight_145 : decode cX7_readsRight 145 = .ok (.aload_n 0, 1) := by decide +kernel
theorem dX7_readsRight_146 : decode cX7_readsRight 146 = .ok (.getfield 83, 3) := by decide +kernel
theorem dX7_readsRight_149 : decode cX7_readsRight 149 = .ok (.iload_n 1, 1) := by decide +kernel
theorem dX7_readsRight_150 : decode cX7_readsRight 150 = .ok (.bipush 6, 2) := by decide +kernel
theorem dX7_readsRight_152 : decode cX7_readsRight 152 = .ok (.iadd, 1) := by decide +kernel
theorem dX7_readsRight_153 : decode cX7_readsRight 153 = .ok (.aload_n 0, 1) := by decide +kernel
theorem dX7_readsRight_154 : decode cX7_readsRight 154 = .ok (.getfield 83, 3) := by decide +kernel
theorem dX7_readsRight_157 : decode cX7_readsRight 157 = .ok (.iload_n 1, 1) := by decide +kernel
theorem dX7_readsRight_158 : decode cX7_readsRight 158 = .ok (.iconst 5, 1) := by decide +kernel
theorem dX7_readsRight_159 : decode cX7_readsRight 159 = .ok (.iadd, 1) := by decide +kernel
theorem dX7_readsRight_160 : decode cX7_readsRight 160 = .ok (.iaload, 1) := by decide +kernel
theorem dX7_readsRight_161 : decode cX7_readsRight 161 = .ok (.iastore, 1) := by decide +kernel
theorem dX7_readsRight_162 : decode cX7_readsRight 162 = .ok (.aload_n 0, 1) := by decide +kernel
theorem dX7_readsRight_163 : decode cX7_readsRight 163 = .ok (.getfield 83, 3) := by decide +kernel
theorem dX7_readsRight_166 : decode cX7_readsRight 166 = .ok (.iload_n 1, 1) := by decide +kernel
theorem dX7_readsRight_167 : decode cX7_readsRight 167 = .ok (.bipush 10, 2) := by decide +kernel
theorem dX7_readsRight_169 : decode cX7_readsRight 169 = .ok (.iadd, 1) := by decide +kernel
theorem dX7_readsRight_170 : decode cX7_readsRight 170 = .ok (.aload_n 0, 1) := by decide +kernel
theorem dX7_readsRight_171 : decode cX7_readsRight 171 = .ok (.getfield 83, 3) := by decide +kernel
theorem dX7_readsRight_174 : decode cX7_readsRight 174 = .ok (.iload_n 1, 1) := by decide +kernel
theorem dX7_readsRight_175 : decode cX7_readsRight 175 = .ok (.iconst 1, 1) := by decide +kernel
theorem dX7_readsRight_176 : decode cX7_readsRight 176 = .ok (.iadd, 1) := by decide +kernel
theorem dX7_readsRight_177 : decode cX7_readsRight 177 = .ok (.iaload, 1) := by decide +kernel
theorem dX7_readsRight_178 : decode cX7_readsRight 178 = .ok (.iastore, 1) := by decide +kernel
theorem dX7_readsRight_179 : decode cX7_readsRight 179 = .ok (.aload_n 0, 1) := by decide +kernel
theorem dX7_readsRight_180 : decode cX7_readsRight 180 = .ok (.getfield 83, 3) := by decide +kernel
theorem dX7_readsRight_183 : decode cX7_readsRight 183 = .ok (.iload_n 1, 1) := by decide +kernel
theorem dX7_readsRight_184 : decode cX7_readsRight 184 = .ok (.bipush 11, 2) := by decide +kernel
theorem dX7_readsRight_186 : decode cX7_readsRight 186 = .ok (.iadd, 1) := by decide +kernel
theorem dX7_readsRight_187 : decode cX7_readsRight 187 = .ok (.bipush (-2), 2) := by decide +kernel
theorem dX7_readsRight_189 : decode cX7_readsRight 189 = .ok (.iastore, 1) := by decide +kernel
theorem dX7_readsRight_190 : decode cX7_readsRight 190 = .ok (.aload_n 0, 1) := by decide +kernel
theorem dX7_readsRight_191 : decode cX7_readsRight 191 = .ok (.getfield 83, 3) := by decide +kernel
theorem dX7_readsRight_194 : decode cX7_readsRight 194 = .ok (.iconst 1, 1) := by decide +kernel
theorem dX7_readsRight_195 : decode cX7_readsRight 195 = .ok (.dup2, 1) := by decide +kernel
theorem dX7_readsRight_196 : decode cX7_readsRight 196 = .ok (.iaload, 1) := by decide +kernel
theorem dX7_readsRight_197 : decode cX7_readsRight 197 = .ok (.iconst 1, 1) := by decide +kernel
theorem dX7_readsRight_198 : decode cX7_readsRight 198 = .ok (.iadd, 1) := by decide +kernel
theorem dX7_readsRight_199 : decode cX7_readsRight 199 = .ok (.iastore, 1) := by decide +kernel
theorem dX7_readsRight_200 : decode cX7_readsRight 200 = .ok (.iconst 1, 1) := by decide +kernel
theorem dX7_readsRight_201 : decode cX7_readsRight 201 = .ok (.ireturn, 1) := by decide +kernel
theorem dX7_readsStore_0 : decode cX7_readsStore 0 = .ok (.aload_n 0, 1) := by decide +kernel
theorem dX7_readsStore_1 : decode cX7_readsStore 1 = .ok (.ldc_w 401, 3) := by decide +kernel
theorem dX7_readsStore_4 : decode cX7_readsStore 4 = .ok (.iconst 2, 1) := by decide +kernel
theorem dX7_readsStore_5 : decode cX7_readsStore 5 = .ok (.iconst 4, 1) := by decide +kernel
theorem dX7_readsStore_6 : decode cX7_readsStore 6 = .ok (.invokevirtual 372, 3) := by decide +kernel
theorem dX7_readsStore_9 : decode cX7_readsStore 9 = .ok (.ifCond .ne 5, 3) := by decide +kernel
theorem dX7_readsStore_12 : decode cX7_readsStore 12 = .ok (.iconst 0, 1) := by decide +kernel
theorem dX7_readsStore_13 : decode cX7_readsStore 13 = .ok (.ireturn, 1) := by decide +kernel
theorem dX7_readsStore_14 : decode cX7_readsStore 14 = .ok (.sipush 260, 3) := by decide +kernel
theorem dX7_readsStore_17 : decode cX7_readsStore 17 = .ok (.bipush 7, 2) := by decide +kernel
theorem dX7_readsStore_19 : decode cX7_readsStore 19 = .ok (.aload_n 0, 1) := by decide +kernel
theorem dX7_readsStore_20 : decode cX7_readsStore 20 = .ok (.getfield 83, 3) := by decide +kernel
theorem dX7_readsStore_23 : decode cX7_readsStore 23 = .ok (.iconst 2, 1) := by decide +kernel
theorem dX7_readsStore_24 : decode cX7_readsStore 24 = .ok (.iaload, 1) := by decide +kernel
theorem dX7_readsStore_25 : decode cX7_readsStore 25 = .ok (.imul, 1) := by decide +kernel
theorem dX7_readsStore_26 : decode cX7_readsStore 26 = .ok (.iadd, 1) := by decide +kernel
theorem dX7_readsStore_27 : decode cX7_readsStore 27 = .ok (.istore_n 1, 1) := by decide +kernel
theorem dX7_readsStore_28 : decode cX7_readsStore 28 = .ok (.aload_n 0, 1) := by decide +kernel
theorem dX7_readsStore_29 : decode cX7_readsStore 29 = .ok (.iload_n 1, 1) := by decide +kernel
theorem dX7_readsStore_30 : decode cX7_readsStore 30 = .ok (.iconst 0, 1) := by decide +kernel
theorem dX7_readsStore_31 : decode cX7_readsStore 31 = .ok (.iadd, 1) := by decide +kernel
theorem dX7_readsStore_32 : decode cX7_readsStore 32 = .ok (.invokevirtual 378, 3) := by decide +kernel
theorem dX7_readsStore_35 : decode cX7_readsStore 35 = .ok (.ifCond .eq 41, 3) := by decide +kernel
theorem dX7_readsStore_38 : decode cX7_readsStore 38 = .ok (.aload_n 0, 1) := by decide +kernel
theorem dX7_readsStore_39 : decode cX7_readsStore 39 = .ok (.iload_n 1, 1) := by decide +kernel
theorem dX7_readsStore_40 : decode cX7_readsStore 40 = .ok (.iconst 1, 1) := by decide +kernel
theorem dX7_readsStore_41 : decode cX7_readsStore 41 = .ok (.iadd, 1) := by decide +kernel
theorem dX7_readsStore_42 : decode cX7_readsStore 42 = .ok (.iconst 1, 1) := by decide +kernel
theorem dX7_readsStore_43 : decode cX7_readsStore 43 = .ok (.ldc_w 397, 3) := by decide +kernel
theorem dX7_readsStore_46 : decode cX7_readsStore 46 = .ok (.invokevirtual 367, 3) := by decide +kernel
theorem dX7_readsStore_49 : decode cX7_readsStore 49 = .ok (.ifCond .eq 27, 3) := by decide +kernel
theorem dX7_readsStore_52 : decode cX7_readsStore 52 = .ok (.aload_n 0, 1) := by decide +kernel
theorem dX7_readsStore_53 : decode cX7_readsStore 53 = .ok (.iload_n 1, 1) := by decide +kernel
theorem dX7_readsStore_54 : decode cX7_readsStore 54 = .ok (.iconst 2, 1) := by decide +kernel
theorem dX7_readsStore_55 : decode cX7_readsStore 55 = .ok (.iadd, 1) := by decide +kernel
theorem dX7_readsStore_56 : decode cX7_readsStore 56 = .ok (.iconst 1, 1) := by decide +kernel
theorem dX7_readsStore_57 : decode cX7_readsStore 57 = .ok (.sipush 9999, 3) := by decide +kernel
theorem dX7_readsStore_60 : decode cX7_readsStore 60 = .ok (.invokevirtual 367, 3) := by decide +kernel
theorem dX7_readsStore_63 : decode cX7_readsStore 63 = .ok (.ifCond .eq 13, 3) := by decide +kernel
theorem dX7_readsStore_66 : decode cX7_readsStore 66 = .ok (.aload_n 0, 1) := by decide +kernel
theorem dX7_readsStore_67 : decode cX7_readsStore 67 = .ok (.iload_n 1, 1) := by decide +kernel
theorem dX7_readsStore_68 : decode cX7_readsStore 68 = .ok (.iconst 3, 1) := by decide +kernel
theorem dX7_readsStore_69 : decode cX7_readsStore 69 = .ok (.iadd, 1) := by decide +kernel
theorem dX7_readsStore_70 : decode cX7_readsStore 70 = .ok (.invokevirtual 392, 3) := by decide +kernel
theorem dX7_readsStore_73 : decode cX7_readsStore 73 = .ok (.ifCond .ne 5, 3) := by decide +kernel
theorem dX7_readsStore_76 : decode cX7_readsStore 76 = .ok (.iconst 0, 1) := by decide +kernel
theorem dX7_readsStore_77 : decode cX7_readsStore 77 = .ok (.ireturn, 1) := by decide +kernel
theorem dX7_readsStore_78 : decode cX7_readsStore 78 = .ok (.aload_n 0, 1) := by decide +kernel
theorem dX7_readsStore_79 : decode cX7_readsStore 79 = .ok (.getfield 83, 3) := by decide +kernel
theorem dX7_readsStore_82 : decode cX7_readsStore 82 = .ok (.iload_n 1, 1) := by decide +kernel
theorem dX7_readsStore_83 : decode cX7_readsStore 83 = .ok (.iconst 5, 1) := by decide +kernel
theorem dX7_readsStore_84 : decode cX7_readsStore 84 = .ok (.iadd, 1) := by decide +kernel
theorem dX7_readsStore_85 : decode cX7_readsStore 85 = .ok (.bipush (-2), 2) := by decide +kernel
theorem dX7_readsStore_87 : decode cX7_readsStore 87 = .ok (.iastore, 1) := by decide +kernel
theorem dX7_readsStore_88 : decode cX7_readsStore 88 = .ok (.aload_n 0, 1) := by decide +kernel
theorem dX7_readsStore_89 : decode cX7_readsStore 89 = .ok (.getfield 83, 3) := by decide +kernel
theorem dX7_readsStore_92 : decode cX7_readsStore 92 = .ok (.iconst 2, 1) := by decide +kernel
theorem dX7_readsStore_93 : decode cX7_readsStore 93 = .ok (.dup2, 1) := by decide +kernel
theorem dX7_readsStore_94 : decode cX7_readsStore 94 = .ok (.iaload, 1) := by decide +kernel
theorem dX7_readsStore_95 : decode cX7_readsStore 95 = .ok (.iconst 1, 1) := by decide +kernel
theorem dX7_readsStore_96 : decode cX7_readsStore 96 = .ok (.iadd, 1) := by decide +kernel
theorem dX7_readsStore_97 : decode cX7_readsStore 97 = .ok (.iastore, 1) := by decide +kernel
theorem dX7_readsStore_98 : decode cX7_readsStore 98 = .ok (.iconst 1, 1) := by decide +kernel
theorem dX7_readsStore_99 : decode cX7_readsStore 99 = .ok (.ireturn, 1) := by decide +kernel
theorem dX7_readsWet_0 : decode cX7_readsWet 0 = .ok (.aload_n 0, 1) := by decide +kernel
theorem dX7_readsWet_1 : decode cX7_readsWet 1 = .ok (.getfield 403, 3) := by decide +kernel
theorem dX7_readsWet_4 : decode cX7_readsWet 4 = .ok (.ifCond .eq 13, 3) := by decide +kernel
theorem dX7_readsWet_7 : decode cX7_readsWet 7 = .ok (.aload_n 0, 1) := by decide +kernel
theorem dX7_readsWet_8 : decode cX7_readsWet 8 = .ok (.iconst 3, 1) := by decide +kernel
theorem dX7_readsWet_9 : decode cX7_readsWet 9 = .ok (.aload_n 0, 1) := by decide +kernel
theorem dX7_readsWet_10 : decode cX7_readsWet 10 = .ok (.getfield 318, 3) := by decide +kernel
theorem dX7_readsWet_13 : decode cX7_readsWet 13 = .ok (.invokevirtual 350, 3) := by decide +kernel
theorem dX7_readsWet_16 : decode cX7_readsWet 16 = .ok (.ireturn, 1) := by decide +kernel
theorem dX7_readsWet_17 : decode cX7_readsWet 17 = .ok (.aload_n 0, 1) := by decide +kernel
theorem dX7_readsWet_18 : decode cX7_readsWet 18 = .ok (.iconst 1, 1) := by decide +kernel
theorem dX7_readsWet_19 : decode cX7_readsWet 19 = .ok (.putfield 403, 3) := by decide +kernel
theorem dX7_readsWet_22 : decode cX7_readsWet 22 = .ok (.aload_n 0, 1) := by decide +kernel
theorem dX7_readsWet_23 : decode cX7_readsWet 23 = .ok (.dup, 1) := by decide +kernel
theorem dX7_readsWet_24 : decode cX7_readsWet 24 = .ok (.getfield 318, 3) := by decide +kernel
theorem dX7_readsWet_27 : decode cX7_readsWet 27 = .ok (.iconst 3, 1) := by decide +kernel
theorem dX7_readsWet_28 : decode cX7_readsWet 28 = .ok (.iadd, 1) := by decide +kernel
theorem dX7_readsWet_29 : decode cX7_readsWet 29 = .ok (.putfield 318, 3) := by decide +kernel
theorem dX7_readsWet_32 : decode cX7_readsWet 32 = .ok (.aload_n 0, 1) := by decide +kernel
theorem dX7_readsWet_33 : decode cX7_readsWet 33 = .ok (.iconst 4, 1) := by decide +kernel
theorem dX7_readsWet_34 : decode cX7_readsWet 34 = .ok (.iconst 0, 1) := by decide +kernel
theorem dX7_readsWet_35 : decode cX7_readsWet 35 = .ok (.sipush 400, 3) := by decide +kernel
theorem dX7_readsWet_38 : decode cX7_readsWet 38 = .ok (.invokevirtual 367, 3) := by decide +kernel
theorem dX7_readsWet_41 : decode cX7_readsWet 41 = .ok (.ireturn, 1) := by decide +kernel
theorem dX7_readsPart_0 : decode cX7_readsPart 0 = .ok (.aload_n 0, 1) := by decide +kernel
theorem dX7_readsPart_1 : decode cX7_readsPart 1 = .ok (.ldc_w 370, 3) := by decide +kernel
theorem dX7_readsPart_4 : decode cX7_readsPart 4 = .ok (.invokevirtual 343, 3) := by decide +kernel
theorem dX7_readsPart_7 : decode cX7_readsPart 7 = .ok (.ifCond .eq 8, 3) := by decide +kernel
theorem dX7_readsPart_10 : decode cX7_readsPart 10 = .ok (.aload_n 0, 1) := by decide +kernel
theorem dX7_readsPart_11 : decode cX7_readsPart 11 = .ok (.invokevirtual 406, 3) := by decide +kernel
theorem dX7_readsPart_14 : decode cX7_readsPart 14 = .ok (.ireturn, 1) := by decide +kernel
theorem dX7_readsPart_15 : decode cX7_readsPart 15 = .ok (.aload_n 0, 1) := by decide +kernel
theorem dX7_readsPart_16 : decode cX7_readsPart 16 = .ok (.ldc_w 390, 3) := by decide +kernel
theorem dX7_readsPart_19 : decode cX7_readsPart 19 = .ok (.invokevirtual 343, 3) := by decide +kernel
theorem dX7_readsPart_22 : decode cX7_readsPart 22 = .ok (.ifCond .eq 8, 3) := by decide +kernel
theorem dX7_readsPart_25 : decode cX7_readsPart 25 = .ok (.aload_n 0, 1) := by decide +kernel
theorem dX7_readsPart_26 : decode cX7_readsPart 26 = .ok (.invokevirtual 409, 3) := by decide +kernel
theorem dX7_readsPart_29 : decode cX7_readsPart 29 = .ok (.ireturn, 1) := by decide +kernel
theorem dX7_readsPart_30 : decode cX7_readsPart 30 = .ok (.aload_n 0, 1) := by decide +kernel
theorem dX7_readsPart_31 : decode cX7_readsPart 31 = .ok (.ldc_w 401, 3) := by decide +kernel
theorem dX7_readsPart_34 : decode cX7_readsPart 34 = .ok (.invokevirtual 343, 3) := by decide +kernel
theorem dX7_readsPart_37 : decode cX7_readsPart 37 = .ok (.ifCond .eq 8, 3) := by decide +kernel
theorem dX7_readsPart_40 : decode cX7_readsPart 40 = .ok (.aload_n 0, 1) := by decide +kernel
theorem dX7_readsPart_41 : decode cX7_readsPart 41 = .ok (.invokevirtual 412, 3) := by decide +kernel
theorem dX7_readsPart_44 : decode cX7_readsPart 44 = .ok (.ireturn, 1) := by decide +kernel
theorem dX7_readsPart_45 : decode cX7_readsPart 45 = .ok (.aload_n 0, 1) := by decide +kernel
theorem dX7_readsPart_46 : decode cX7_readsPart 46 = .ok (.ldc_w 415, 3) := by decide +kernel
theorem dX7_readsPart_49 : decode cX7_readsPart 49 = .ok (.invokevirtual 343, 3) := by decide +kernel
theorem dX7_readsPart_52 : decode cX7_readsPart 52 = .ok (.ifCond .eq 10, 3) := by decide +kernel
theorem dX7_readsPart_55 : decode cX7_readsPart 55 = .ok (.aload_n 0, 1) := by decide +kernel
theorem dX7_readsPart_56 : decode cX7_readsPart 56 = .ok (.invokevirtual 417, 3) := by decide +kernel
theorem dX7_readsPart_59 : decode cX7_readsPart 59 = .ok (.goto 12, 3) := by decide +kernel
theorem dX7_readsPart_62 : decode cX7_readsPart 62 = .ok (.aload_n 0, 1) := by decide +kernel
theorem dX7_readsPart_63 : decode cX7_readsPart 63 = .ok (.iconst 1, 1) := by decide +kernel
theorem dX7_readsPart_64 : decode cX7_readsPart 64 = .ok (.aload_n 0, 1) := by decide +kernel
theorem dX7_readsPart_65 : decode cX7_readsPart 65 = .ok (.getfield 318, 3) := by decide +kernel
theorem dX7_readsPart_68 : decode cX7_readsPart 68 = .ok (.invokevirtual 350, 3) := by decide +kernel
theorem dX7_readsPart_71 : decode cX7_readsPart 71 = .ok (.ireturn, 1) := by decide +kernel
theorem dX7_readsAll_0 : decode cX7_readsAll 0 = .ok (.iconst 0, 1) := by decide +kernel
theorem dX7_readsAll_1 : decode cX7_readsAll 1 = .ok (.istore_n 1, 1) := by decide +kernel
theorem dX7_readsAll_2 : decode cX7_readsAll 2 = .ok (.iload_n 1, 1) := by decide +kernel
theorem dX7_readsAll_3 : decode cX7_readsAll 3 = .ok (.sipush 660, 3) := by decide +kernel
theorem dX7_readsAll_6 : decode cX7_readsAll 6 = .ok (.if_icmp .ge 16, 3) := by decide +kernel
theorem dX7_readsAll_9 : decode cX7_readsAll 9 = .ok (.aload_n 0, 1) := by decide +kernel
theorem dX7_readsAll_10 : decode cX7_readsAll 10 = .ok (.getfield 83, 3) := by decide +kernel
theorem dX7_readsAll_13 : decode cX7_readsAll 13 = .ok (.iload_n 1, 1) := by decide +kernel
theorem dX7_readsAll_14 : decode cX7_readsAll 14 = .ok (.iconst 0, 1) := by decide +kernel
theorem dX7_readsAll_15 : decode cX7_readsAll 15 = .ok (.iastore, 1) := by decide +kernel
theorem dX7_readsAll_16 : decode cX7_readsAll 16 = .ok (.iinc 1 1, 3) := by decide +kernel
theorem dX7_readsAll_19 : decode cX7_readsAll 19 = .ok (.goto (-17), 3) := by decide +kernel
theorem dX7_readsAll_22 : decode cX7_readsAll 22 = .ok (.aload_n 0, 1) := by decide +kernel
theorem dX7_readsAll_23 : decode cX7_readsAll 23 = .ok (.getfield 83, 3) := by decide +kernel
theorem dX7_readsAll_26 : decode cX7_readsAll 26 = .ok (.iconst 4, 1) := by decide +kernel
theorem dX7_readsAll_27 : decode cX7_readsAll 27 = .ok (.bipush 100, 2) := by decide +kernel
theorem dX7_readsAll_29 : decode cX7_readsAll 29 = .ok (.iastore, 1) := by decide +kernel
theorem dX7_readsAll_30 : decode cX7_readsAll 30 = .ok (.aload_n 0, 1) := by decide +kernel
theorem dX7_readsAll_31 : decode cX7_readsAll 31 = .ok (.iconst 0, 1) := by decide +kernel
theorem dX7_readsAll_32 : decode cX7_readsAll 32 = .ok (.putfield 403, 3) := by decide +kernel
theorem dX7_readsAll_35 : decode cX7_readsAll 35 = .ok (.aload_n 0, 1) := by decide +kernel
theorem dX7_readsAll_36 : decode cX7_readsAll 36 = .ok (.iconst 0, 1) := by decide +kernel
theorem dX7_readsAll_37 : decode cX7_readsAll 37 = .ok (.putfield 318, 3) := by decide +kernel
theorem dX7_readsAll_40 : decode cX7_readsAll 40 = .ok (.aload_n 0, 1) := by decide +kernel
theorem dX7_readsAll_41 : decode cX7_readsAll 41 = .ok (.invokevirtual 327, 3) := by decide +kernel
theorem dX7_readsAll_44 : decode cX7_readsAll 44 = .ok (.iconst (-1), 1) := by decide +kernel
theorem dX7_readsAll_45 : decode cX7_readsAll 45 = .ok (.if_icmp .ne 5, 3) := by decide +kernel
theorem dX7_readsAll_48 : decode cX7_readsAll 48 = .ok (.iconst 1, 1) := by decide +kernel
theorem dX7_readsAll_49 : decode cX7_readsAll 49 = .ok (.ireturn, 1) := by decide +kernel
theorem dX7_readsAll_50 : decode cX7_readsAll 50 = .ok (.aload_n 0, 1) := by decide +kernel
theorem dX7_readsAll_51 : decode cX7_readsAll 51 = .ok (.invokevirtual 420, 3) := by decide +kernel
theorem dX7_readsAll_54 : decode cX7_readsAll 54 = .ok (.istore_n 1, 1) := by decide +kernel
theorem dX7_readsAll_55 : decode cX7_readsAll 55 = .ok (.iload_n 1, 1) := by decide +kernel
theorem dX7_readsAll_56 : decode cX7_readsAll 56 = .ok (.ifCond .eq 30, 3) := by decide +kernel
theorem dX7_readsAll_59 : decode cX7_readsAll 59 = .ok (.aload_n 0, 1) := by decide +kernel
theorem dX7_readsAll_60 : decode cX7_readsAll 60 = .ok (.invokevirtual 327, 3) := by decide +kernel
theorem dX7_readsAll_63 : decode cX7_readsAll 63 = .ok (.bipush 59, 2) := by decide +kernel
theorem dX7_readsAll_65 : decode cX7_readsAll 65 = .ok (.if_icmp .ne 21, 3) := by decide +kernel
theorem dX7_readsAll_68 : decode cX7_readsAll 68 = .ok (.aload_n 0, 1) := by decide +kernel
theorem dX7_readsAll_69 : decode cX7_readsAll 69 = .ok (.dup, 1) := by decide +kernel
theorem dX7_readsAll_70 : decode cX7_readsAll 70 = .ok (.getfield 318, 3) := by decide +kernel
theorem dX7_readsAll_73 : decode cX7_readsAll 73 = .ok (.iconst 1, 1) := by decide +kernel
theorem dX7_readsAll_74 : decode cX7_readsAll 74 = .ok (.iadd, 1) := by decide +kernel
theorem dX7_readsAll_75 : decode cX7_readsAll 75 = .ok (.putfield 318, 3) := by decide +kernel
theorem dX7_readsAll_78 : decode cX7_readsAll 78 = .ok (.aload_n 0, 1) := by decide +kernel
theorem dX7_readsAll_79 : decode cX7_readsAll 79 = .ok (.invokevirtual 420, 3) := by decide +kernel
theorem dX7_readsAll_82 : decode cX7_readsAll 82 = .ok (.istore_n 1, 1) := by decide +kernel
theorem dX7_readsAll_83 : decode cX7_readsAll 83 = .ok (.goto (-28), 3) := by decide +kernel
theorem dX7_readsAll_86 : decode cX7_readsAll 86 = .ok (.iload_n 1, 1) := by decide +kernel
theorem dX7_readsAll_87 : decode cX7_readsAll 87 = .ok (.ifCond .eq 27, 3) := by decide +kernel
theorem dX7_readsAll_90 : decode cX7_readsAll 90 = .ok (.aload_n 0, 1) := by decide +kernel
theorem dX7_readsAll_91 : decode cX7_readsAll 91 = .ok (.invokevirtual 327, 3) := by decide +kernel
theorem dX7_readsAll_94 : decode cX7_readsAll 94 = .ok (.iconst (-1), 1) := by decide +kernel
theorem dX7_readsAll_95 : decode cX7_readsAll 95 = .ok (.if_icmp .eq 15, 3) := by decide +kernel
theorem dX7_readsAll_98 : decode cX7_readsAll 98 = .ok (.aload_n 0, 1) := by decide +kernel
theorem dX7_readsAll_99 : decode cX7_readsAll 99 = .ok (.iconst 1, 1) := by decide +kernel
theorem dX7_readsAll_100 : decode cX7_readsAll 100 = .ok (.aload_n 0, 1) := by decide +kernel
theorem dX7_readsAll_101 : decode cX7_readsAll 101 = .ok (.getfield 318, 3) := by decide +kernel
theorem dX7_readsAll_104 : decode cX7_readsAll 104 = .ok (.invokevirtual 350, 3) := by decide +kernel
theorem dX7_readsAll_107 : decode cX7_readsAll 107 = .ok (.ifCond .eq 7, 3) := by decide +kernel
theorem dX7_readsAll_110 : decode cX7_readsAll 110 = .ok (.iconst 1, 1) := by decide +kernel
theorem dX7_readsAll_111 : decode cX7_readsAll 111 = .ok (.goto 4, 3) := by decide +kernel
theorem dX7_readsAll_114 : decode cX7_readsAll 114 = .ok (.iconst 0, 1) := by decide +kernel
theorem dX7_readsAll_115 : decode cX7_readsAll 115 = .ok (.ireturn, 1) := by decide +kernel
theorem mv_X7_begins : MV yX7_begins cX7_begins 4 (some .boolean) 3 := ⟨wd_17_1, wd_16_23, wd_17_0, wd_1_5, by decide, by decide, by decide +kernel⟩
theorem mv_X7_readsAge : MV yX7_readsAge cX7_readsAge 3 (some .boolean) 1 := ⟨wd_18_11, wd_18_9, wd_18_10, wd_1_5, by decide, by decide, by decide +kernel⟩
theorem mv_X7_readsBack : MV yX7_readsBack cX7_readsBack 2 (some .boolean) 1 := ⟨wd_18_19, wd_18_17, wd_18_18, wd_1_5, by decide, by decide, by decide +kernel⟩
theorem mv_X7_readsPart : MV yX7_readsPart cX7_readsPart 1 (some .boolean) 0 := ⟨wd_16_9, wd_16_7, wd_16_8, wd_1_5, by decide, by decide, by decide +kernel⟩
theorem mv_X7_readsReach : MV yX7_readsReach cX7_readsReach 3 (some .boolean) 0 := ⟨wd_16_21, wd_16_19, wd_16_20, wd_1_5, by decide, by decide, by decide +kernel⟩
theorem mv_X7_readsRight : MV yX7_readsRight cX7_readsRight 2 (some .boolean) 0 := ⟨wd_18_6, wd_18_4, wd_18_5, wd_1_5, by decide, by decide, by decide +kernel⟩
theorem mv_X7_readsStore : MV yX7_readsStore cX7_readsStore 2 (some .boolean) 0 := ⟨wd_18_23, wd_18_21, wd_18_22, wd_1_5, by decide, by decide, by decide +kernel⟩
theorem mv_X7_readsWet : MV yX7_readsWet cX7_readsWet 1 (some .boolean) 0 := ⟨wd_19_3, wd_19_1, wd_19_2, wd_1_5, by decide, by decide, by decide +kernel⟩
set_option maxHeartbeats 4000000 in
set_option maxRecDepth 100000 in
theorem c_X7_readsReach (E : Ev) (nw : TD) (ws : TD) (kp : TD) (as : TD) (sc : TD) (ik : TD) (un : Int × Int) (tk : Int × Int) (xt : Int × Int) (t : Int) (p : Int) (wr : Int) (nu : Int) (na : Int) (iw : Int) (B : Nat → Int32) (T : Nat → Int32) (a0 : Nat) (ha0 : eT E a0 ∈ [24]) (ht : 0 ≤ t ∧ t ≤ 400) (hp : 0 ≤ p ∧ p ≤ 400) (hwr : 0 ≤ wr ∧ wr ≤ 4000) (hnu : (-2147483648) ≤ nu ∧ nu ≤ 2147483647) (hna : (-2147483648) ≤ na ∧ na ≤ 2147483647) (hiw : 0 ≤ iw ∧ iw ≤ 1) (hB : okR B) (hT : ivP 400 (-128) 127 T) (hpt : p ≤ t) (hp5 : p + 5 ≤ t) : TcI E yX7_readsReach cX7_readsReach 3 .boolean ({ frames := 7, cells := 0, slots := 0, locals := 226 }) [.ref a0] (fun H => TH E (tbM (mD (.inl (t, t)) (.inl (p, p)) (.inl (nu, nu)) (.inl un) (.inl tk) (.inl xt) (.inl (wr, wr)) (.inl (na, na)) (.inl (iw, iw))) nw ws kp as (xD 660 B) sc (xB 400 T) ik) H) (fun v H => ∃ p2 : Int, (0 ≤ p2 ∧ p2 ≤ 400 ∧ p ≤ p2 ∧ p2 ≤ t) ∧ ∃ nu2 : Int, ((-2147483648) ≤ nu2 ∧ nu2 ≤ 2147483647) ∧ ∃ wr2 : Int, (0 ≤ wr2 ∧ wr2 ≤ 4000) ∧ ∃ na2 : Int, ((-2147483648) ≤ na2 ∧ na2 ≤ 2147483647) ∧ ∃ B2 : Nat → Int32, (okR B2 ∧ mRes v.toInt wr2 (p2, iw, B2) (mReach T t (p, iw, B))) ∧ (0 ≤ v.toInt ∧ v.toInt ≤ 1) ∧ TH E (tbM (mD (.inl (t, t)) (.inl (p2, p2)) (.inl (nu2, nu2)) (.inl un) (.inl tk) (.inl xt) (.inl (wr2, wr2)) (.inl (na2, na2)) (.inl (iw, iw))) nw ws kp as (xD 660 B2) sc (xB 400 T) ik) H) := by
  refine teI (by decide) (Nat.le_of_ble_eq_true rfl) ?_
  intro p_ ev_ s mi_ below_ meth cd_ ls F hK hN hO hH hS hl
  have hH : TH E (tbM (mD (.inl (t, t)) (.inl (p, p)) (.inl (nu, nu)) (.inl un) (.inl tk) (.inl xt) (.inl (wr, wr)) (.inl (na, na)) (.inl (iw, iw))) nw ws kp as (xD 660 B) sc (xB 400 T) ik) s.heap := hH
  have hl : lv_has ls 3 [(0, .ref a0)] := hl
  have hBB := (okB hB.1).1
  have hOB := (okB hB.1).2
  refine lv_aload_n F.1 F.2.1 dX7_readsReach_0 rfl (lv_at hl 0 rfl) ?_
  refine ldcwS F.1 F.2.1 F.2.2.2.2.1 (hO.1 18 _ rfl).1 dX7_readsReach_1 ?_
  refine lv_iconst (v := 0) F.1 F.2.1 dX7_readsReach_4 (by decide) ?_
  refine topK (a := 0) (by decide) (fun k_1 hk_1 => ?_)
  refine lv_bipush (v := 12) F.1 F.2.1 dX7_readsReach_5 (by decide) ?_
  refine topK (a := 12) (by decide) (fun k_2 hk_2 => ?_)
  refine tVi (b := a0) (As := [.ref (eX E 18), .int k_1, .int k_2]) (rest := []) F hK hN hO (c_X7_begins_0 E nw ws kp as sc ik un tk xt t p wr nu na iw B T a0 18 5 k_1 k_2 ha0 (strAt 18 rfl) (eqb hk_1) (eqb hk_2) (by omega) (by omega) (by omega) (by omega) (by omega) (by omega) hB hT (by omega) (by omega)) mv_X7_begins wd_16_22 ⟨Nat.le_of_ble_eq_true rfl, Nat.le_of_ble_eq_true rfl⟩ ⟨Nat.le_of_ble_eq_true rfl, Nat.le_of_ble_eq_true rfl⟩ hH hS (tRecv hK hH (tyb ha0 (all1 rfl)) clX7) rfl hl.1 (Nat.le_of_ble_eq_true rfl) dX7_readsReach_7 (fun z_3 H locs hq hS => ?_)
  obtain ⟨g_4, hg_4, g_5, hg_5, f_6, f_7, hH⟩ := hq
  have hH : TH E (tbM (mD (.inl (t, t)) (.inl (g_4, g_4)) (.inl (nu, nu)) (.inl un) (.inl tk) (.inl xt) (.inl (g_5, g_5)) (.inl (na, na)) (.inl (iw, iw))) nw ws kp as (xD 660 B) sc (xB 400 T) ik) H := hH
  refine z_ne (tgt := 15) F dX7_readsReach_10 (by decide) (fun c_8 => ?_) (fun c_8 => ?_)
  · skip
    have r_9 : 1 ≤ z_3.toInt ∧ z_3.toInt ≤ 1 := by have h9_ := f_6; omega
    have hbg_ : gI B 0 ≠ 12 ∧ g_4 = p + 5 := by omega
    clear f_7
    refine lv_bipush (v := 6) F.1 F.2.1 dX7_readsReach_15 (by decide) ?_
    refine topK (a := 6) (by decide) (fun k_11 hk_11 => ?_)
    refine lv_bipush (v := 6) F.1 F.2.1 dX7_readsReach_17 (by decide) ?_
    refine topK (a := 6) (by decide) (fun k_12 hk_12 => ?_)
    refine lv_aload_n F.1 F.2.1 dX7_readsReach_19 rfl (lv_at hl 0 rfl) ?_
    refine tGetR (j := 36) F hK hH (tyb ha0 (all1 rfl)) rfl (all1 rfl) clX7 (by decide) wd_7_5 dX7_readsReach_20 (fun q_13 hq_13 _ => ?_)
    refine lv_iconst (v := 0) F.1 F.2.1 dX7_readsReach_23 (by decide) ?_
    refine topK (a := 0) (by decide) (fun k_14 hk_14 => ?_)
    refine tIaldX F hK hH (tyb hq_13 (all1 rfl)) (ixb (n := 660) (eqb hk_14) rfl rfl) dX7_readsReach_24 (fun z_15 ez_15 => ?_)
    have gz_15 : z_15.toInt = gI B (0) := by unfold gI; rw [ez_15, show (k_14).toNatClampNeg = (0) from by show (k_14).toInt.toNat = _; omega]
    have hz_15 : 0 ≤ z_15.toInt ∧ z_15.toInt ≤ 12 := (by have h9_ := okA.at (i := k_14) hB.1 (by omega); rw [show gI B (k_14).toNatClampNeg = z_15.toInt from by unfold gI; rw [ez_15]] at h9_; have h8_ := phi_0 h9_ (by omega); omega)
    refine tMul (lo := 0) (hi := 72) F dX7_readsReach_25 (eqb hk_12) hz_15 rfl (fun z_16 hz_16 => ?_)
    have mz_16 : z_16.toInt = 6 * z_15.toInt := by rw [hz_16.1, hk_12]
    refine tAdd (lo := 6) (hi := 78) F dX7_readsReach_26 (eqb hk_11) hz_16.2 rfl (fun z_17 hz_17 => ?_)
    refine lv_istore_n (lv' := [(1, .int z_17), (0, .ref a0)]) F.1 F.2.1 dX7_readsReach_27 rfl hl (by decide) rfl (fun ls hl => ?_)
    refine lv_aload_n F.1 F.2.1 dX7_readsReach_28 rfl (lv_at hl 1 rfl) ?_
    refine tGetR (j := 36) F hK hH (tyb ha0 (all1 rfl)) rfl (all1 rfl) clX7 (by decide) wd_7_5 dX7_readsReach_29 (fun q_18 hq_18 _ => ?_)
    refine lv_iload_n F.1 F.2.1 dX7_readsReach_32 rfl (lv_at hl 0 rfl) ?_
    refine lv_iconst (v := 0) F.1 F.2.1 dX7_readsReach_33 (by decide) ?_
    refine topK (a := 0) (by decide) (fun k_19 hk_19 => ?_)
    refine tAdd (lo := 6) (hi := 78) F dX7_readsReach_34 hz_17.2 (eqb hk_19) rfl (fun z_20 hz_20 => ?_)
    refine lv_iconst (v := (-1)) F.1 F.2.1 dX7_readsReach_35 (by decide) ?_
    refine topK (a := (-1)) (by decide) (fun k_21 hk_21 => ?_)
    refine tIastX (t := 29) F hK hH hS (List.mem_singleton.mp hq_18) (by decide) rfl (ixb (n := 660) hz_20.2 rfl rfl) dX7_readsReach_36 (fun G_22 eG_22 H locs hH hS => ?_)
    have hH : TH E (tbM (mD (.inl (t, t)) (.inl (g_4, g_4)) (.inl (nu, nu)) (.inl un) (.inl tk) (.inl xt) (.inl (g_5, g_5)) (.inl (na, na)) (.inl (iw, iw))) nw ws kp as (xD 660 G_22) sc (xB 400 T) ik) H := hH
    have n0G_22 : gI G_22 0 = gI B 0 := gI_ne eG_22 (by omega) (by omega)
    have n1G_22 : gI G_22 1 = gI B 1 := gI_ne eG_22 (by omega) (by omega)
    have n2G_22 : gI G_22 2 = gI B 2 := gI_ne eG_22 (by omega) (by omega)
    have n3G_22 : gI G_22 3 = gI B 3 := gI_ne eG_22 (by omega) (by omega)
    have n6G_22 : gI G_22 6 = -1 := dn6 hB eG_22 (by omega) (by omega)
    have hG_22 : okR G_22 := (okR.stM hB eG_22 (by omega) (by omega) (by omega) (phiI (by omega) (by omega) (by omega) (by omega) (by omega) (by omega) (by omega) (by omega) (by omega) (by omega) (by omega) (by omega) (by omega) (by omega) (by omega) (by omega) (by omega) (by omega)) (by omega))
    have hBG_22 := (okB hG_22.1).1
    refine lv_aload_n F.1 F.2.1 dX7_readsReach_37 rfl (lv_at hl 1 rfl) ?_
    refine ldcwS F.1 F.2.1 F.2.2.2.2.1 (hO.1 19 _ rfl).1 dX7_readsReach_38 ?_
    refine tVi (b := a0) (As := [.ref (eX E 19)]) (rest := []) F hK hN hO (c_X7_takesWord E nw ws kp as (xD 660 G_22) sc ik un tk xt t g_4 g_5 nu na iw T a0 19 5 ha0 (strAt 19 rfl) (by omega) (by omega) (by omega) (by omega) (by omega) (by omega) hT (by omega)) mv_X7_takesWord wd_17_6 ⟨Nat.le_of_ble_eq_true rfl, Nat.le_of_ble_eq_true rfl⟩ ⟨Nat.le_of_ble_eq_true rfl, Nat.le_of_ble_eq_true rfl⟩ hH hS (tRecv hK hH (tyb ha0 (all1 rfl)) clX7) rfl hl.1 (Nat.le_of_ble_eq_true rfl) dX7_readsReach_41 (fun z_23 H locs hq hS => ?_)
    obtain ⟨g_24, hg_24, f_25, f_26, hH⟩ := hq
    have hH : TH E (tbM (mD (.inl (t, t)) (.inl (g_24, g_24)) (.inl (nu, nu)) (.inl un) (.inl tk) (.inl xt) (.inl (g_5, g_5)) (.inl (na, na)) (.inl (iw, iw))) nw ws kp as (xD 660 G_22) sc (xB 400 T) ik) H := hH
    refine z_ne (tgt := 59) F dX7_readsReach_44 (by decide) (fun c_27 => ?_) (fun c_27 => ?_)
    · skip
      have r_28 : 1 ≤ z_23.toInt ∧ z_23.toInt ≤ 1 := by have h9_ := f_25; omega
      refine lv_iconst (v := 0) F.1 F.2.1 dX7_readsReach_59 (by decide) ?_
      refine topK (a := 0) (by decide) (fun k_30 hk_30 => ?_)
      refine lv_istore_n (lv' := [(2, .int k_30), (1, .int z_17), (0, .ref a0)]) F.1 F.2.1 dX7_readsReach_60 rfl hl (by decide) rfl (fun ls hl => ?_)
      refine wloop (σ := Int32 × Int × Int × Int × Int × (Nat → Int32)) (fun n9 x9 H locs ls => (4 - x9.1.toInt + 1).toNat < n9 ∧ (0 ≤ x9.1.toInt ∧ x9.1.toInt ≤ 4) ∧ (0 ≤ x9.2.1 ∧ x9.2.1 ≤ 400) ∧ (0 ≤ x9.2.2.1 ∧ x9.2.2.1 ≤ 4000) ∧ ((-2147483648) ≤ x9.2.2.2.1 ∧ x9.2.2.2.1 ≤ 2147483647) ∧ ((-2147483648) ≤ x9.2.2.2.2.1 ∧ x9.2.2.2.2.1 ≤ 2147483647) ∧ (okR x9.2.2.2.2.2) ∧ (gI x9.2.2.2.2.2 0 = gI B 0) ∧ (gI x9.2.2.2.2.2 6 = -1) ∧ (p ≤ x9.2.1) ∧ (x9.2.1 ≤ t) ∧ (mQ T t (6 + 6 * gI B 0) (x9.1.toInt).toNat (g_24, iw, G_22) = (true, 0, x9.2.1, iw, x9.2.2.2.2.2)) ∧ TH E (tbM (mD (.inl (t, t)) (.inl (x9.2.1, x9.2.1)) (.inl (x9.2.2.2.1, x9.2.2.2.1)) (.inl un) (.inl tk) (.inl xt) (.inl (x9.2.2.1, x9.2.2.1)) (.inl (x9.2.2.2.2.1, x9.2.2.2.2.1)) (.inl (iw, iw))) nw ws kp as (xD 660 x9.2.2.2.2.2) sc (xB 400 T) ik) H ∧ va_S (eA E s.heap.size) s.heap H locs ∧ lv_has ls 3 [(0, .ref a0), (1, .int z_17), (2, .int x9.1)]) ?_ (fun x9 H locs ls h => absurd h.1 (Nat.not_lt_zero _)) _ (k_30, g_24, g_5, nu, na, G_22) ⟨Nat.lt_succ_self _, (wkb (eqb hk_30) rfl rfl), (show 0 ≤ g_24 ∧ g_24 ≤ 400 from by omega), (show 0 ≤ g_5 ∧ g_5 ≤ 4000 from by omega), (show (-2147483648) ≤ nu ∧ nu ≤ 2147483647 from by omega), (show (-2147483648) ≤ na ∧ na ≤ 2147483647 from by omega), hG_22, (show gI G_22 0 = gI B 0 from by omega), (show gI G_22 6 = -1 from by omega), (show p ≤ g_24 from by omega), (show g_24 ≤ t from by omega), (show mQ T t (6 + 6 * gI B 0) (k_30.toInt).toNat (g_24, iw, G_22) = (true, 0, g_24, iw, G_22) from (mQ_0 (by omega))), hH, hS, lv_sub hl [2, 1, 0] rfl⟩
      intro n_61 ih_61 ⟨u_31, g_32, g_33, g_34, g_35, G_36⟩ H locs ls ⟨hm_61, hu_31, hg_32, hg_33, hg_34, hg_35, hG_36, hcr61_0, hcr61_1, hcr61_2, hcr61_3, hcr61_4, hH, hS, hl⟩
      have hm_61 : (4 - u_31.toInt + 1).toNat < n_61 + 1 := hm_61
      have hu_31 : (0 ≤ u_31.toInt ∧ u_31.toInt ≤ 4) := hu_31
      have hg_32 : (0 ≤ g_32 ∧ g_32 ≤ 400) := hg_32
      have hg_33 : (0 ≤ g_33 ∧ g_33 ≤ 4000) := hg_33
      have hg_34 : ((-2147483648) ≤ g_34 ∧ g_34 ≤ 2147483647) := hg_34
      have hg_35 : ((-2147483648) ≤ g_35 ∧ g_35 ≤ 2147483647) := hg_35
      have hG_36 : (okR G_36) := hG_36
      have hcr61_0 : (gI G_36 0 = gI B 0) := hcr61_0
      have hcr61_1 : (gI G_36 6 = -1) := hcr61_1
      have hcr61_2 : (p ≤ g_32) := hcr61_2
      have hcr61_3 : (g_32 ≤ t) := hcr61_3
      have hcr61_4 : (mQ T t (6 + 6 * gI B 0) (u_31.toInt).toNat (g_24, iw, G_22) = (true, 0, g_32, iw, G_36)) := hcr61_4
      have hH : TH E (tbM (mD (.inl (t, t)) (.inl (g_32, g_32)) (.inl (g_34, g_34)) (.inl un) (.inl tk) (.inl xt) (.inl (g_33, g_33)) (.inl (g_35, g_35)) (.inl (iw, iw))) nw ws kp as (xD 660 G_36) sc (xB 400 T) ik) H := hH
      have hl : lv_has ls 3 [(0, .ref a0), (1, .int z_17), (2, .int u_31)] := hl
      have hBG_36 := (okB hG_36.1).1
      refine lv_iload_n F.1 F.2.1 dX7_readsReach_61 rfl (lv_at hl 2 rfl) ?_
      refine lv_iconst (v := 4) F.1 F.2.1 dX7_readsReach_62 (by decide) ?_
      refine topK (a := 4) (by decide) (fun k_37 hk_37 => ?_)
      refine b_ge (tgt := 90) F dX7_readsReach_63 (by decide) (fun c_38 => ?_) (fun c_38 => ?_)
      · skip
        have r_39 : 4 ≤ u_31.toInt ∧ u_31.toInt ≤ 4 := by have h9_ := hu_31; omega
        refine lv_aload_n F.1 F.2.1 dX7_readsReach_90 rfl (lv_at hl 0 rfl) ?_
        refine ldcwS F.1 F.2.1 F.2.2.2.2.1 (hO.1 20 _ rfl).1 dX7_readsReach_91 ?_
        refine tVi (b := a0) (As := [.ref (eX E 20)]) (rest := []) F hK hN hO (c_X7_takesWord E nw ws kp as (xD 660 G_36) sc ik un tk xt t g_32 g_33 g_34 g_35 iw T a0 20 4 ha0 (strAt 20 rfl) (by omega) (by omega) (by omega) (by omega) (by omega) (by omega) hT (by omega)) mv_X7_takesWord wd_17_6 ⟨Nat.le_of_ble_eq_true rfl, Nat.le_of_ble_eq_true rfl⟩ ⟨Nat.le_of_ble_eq_true rfl, Nat.le_of_ble_eq_true rfl⟩ hH hS (tRecv hK hH (tyb ha0 (all1 rfl)) clX7) rfl hl.1 (Nat.le_of_ble_eq_true rfl) dX7_readsReach_94 (fun z_41 H locs hq hS => ?_)
        obtain ⟨g_42, hg_42, f_43, f_44, hH⟩ := hq
        have hH : TH E (tbM (mD (.inl (t, t)) (.inl (g_42, g_42)) (.inl (g_34, g_34)) (.inl un) (.inl tk) (.inl xt) (.inl (g_33, g_33)) (.inl (g_35, g_35)) (.inl (iw, iw))) nw ws kp as (xD 660 G_36) sc (xB 400 T) ik) H := hH
        refine z_eq (tgt := 116) F dX7_readsReach_97 (by decide) (fun c_45 => ?_) (fun c_45 => ?_)
        · skip
          have r_46 : 0 ≤ z_41.toInt ∧ z_41.toInt ≤ 0 := by have h9_ := f_43; omega
          refine lv_aload_n F.1 F.2.1 dX7_readsReach_116 rfl (lv_at hl 0 rfl) ?_
          refine tGetR (j := 36) F hK hH (tyb ha0 (all1 rfl)) rfl (all1 rfl) clX7 (by decide) wd_7_5 dX7_readsReach_117 (fun q_48 hq_48 _ => ?_)
          refine lv_iconst (v := 0) F.1 F.2.1 dX7_readsReach_120 (by decide) ?_
          refine topK (a := 0) (by decide) (fun k_49 hk_49 => ?_)
          refine lv_dup2_11 F.1 F.2.1 dX7_readsReach_121 rfl rfl ?_
          refine tIaldX F hK hH (tyb hq_48 (all1 rfl)) (ixb (n := 660) (eqb hk_49) rfl rfl) dX7_readsReach_122 (fun z_50 ez_50 => ?_)
          have gz_50 : z_50.toInt = gI G_36 (0) := by unfold gI; rw [ez_50, show (k_49).toNatClampNeg = (0) from by show (k_49).toInt.toNat = _; omega]
          have hz_50 : 0 ≤ z_50.toInt ∧ z_50.toInt ≤ 12 := (by have h9_ := okA.at (i := k_49) hG_36.1 (by omega); rw [show gI G_36 (k_49).toNatClampNeg = z_50.toInt from by unfold gI; rw [ez_50]] at h9_; have h8_ := phi_0 h9_ (by omega); omega)
          refine lv_iconst (v := 1) F.1 F.2.1 dX7_readsReach_123 (by decide) ?_
          refine topK (a := 1) (by decide) (fun k_51 hk_51 => ?_)
          refine tAdd (lo := 1) (hi := 13) F dX7_readsReach_124 hz_50 (eqb hk_51) rfl (fun z_52 hz_52 => ?_)
          refine tIastX (t := 29) F hK hH hS (List.mem_singleton.mp hq_48) (by decide) rfl (ixb (n := 660) (eqb hk_49) rfl rfl) dX7_readsReach_125 (fun G_53 eG_53 H locs hH hS => ?_)
          have hH : TH E (tbM (mD (.inl (t, t)) (.inl (g_42, g_42)) (.inl (g_34, g_34)) (.inl un) (.inl tk) (.inl xt) (.inl (g_33, g_33)) (.inl (g_35, g_35)) (.inl (iw, iw))) nw ws kp as (xD 660 G_53) sc (xB 400 T) ik) H := hH
          have hG_53 : okR G_53 := (okR.inc hG_36 eG_53 (by omega) (by omega))
          have hBG_53 := (okB hG_53.1).1
          refine lv_iconst (v := 1) F.1 F.2.1 dX7_readsReach_126 (by decide) ?_
          refine topK (a := 1) (by decide) (fun k_54 hk_54 => ?_)
          exact txI F hS dX7_readsReach_127 (nar01 (wkb (eqb hk_54) rfl rfl)) (⟨g_42, ⟨by omega, by omega, by omega, by omega⟩, g_34, (by omega), g_33, (by omega), g_35, (by omega), G_53, ⟨hG_53, (rch_of hbg_.1 (q := g_4) hbg_.2 (updR eG_22 (by omega) (by omega)) (res_bind (res_bind (res_bind (r0_y (wr := wr) (v := 1) f_26 hg_24.2.2.2.2 (by omega) rfl) (by omega) (mQ_of (wr := wr) hcr61_4 (by omega))) (by omega) (opt_n (wr := wr) (v := 1) f_44 hg_42.2.2.2.2 (by omega) rfl)) (by omega) (inc_k (updR eG_53 (by omega) (by omega)) (by omega))))⟩, (wkb (eqb hk_54) rfl rfl), hH⟩)
        · skip
          have r_47 : 1 ≤ z_41.toInt ∧ z_41.toInt ≤ 1 := by have h9_ := f_43; omega
          refine lv_aload_n F.1 F.2.1 dX7_readsReach_100 rfl (lv_at hl 0 rfl) ?_
          refine lv_iload_n F.1 F.2.1 dX7_readsReach_101 rfl (lv_at hl 1 rfl) ?_
          refine lv_iconst (v := 1) F.1 F.2.1 dX7_readsReach_102 (by decide) ?_
          refine topK (a := 1) (by decide) (fun k_55 hk_55 => ?_)
          refine tAdd (lo := 7) (hi := 79) F dX7_readsReach_103 hz_17.2 (eqb hk_55) rfl (fun z_56 hz_56 => ?_)
          refine lv_iconst (v := 0) F.1 F.2.1 dX7_readsReach_104 (by decide) ?_
          refine topK (a := 0) (by decide) (fun k_57 hk_57 => ?_)
          refine lv_sipush (v := 9999) F.1 F.2.1 dX7_readsReach_105 (by decide) ?_
          refine topK (a := 9999) (by decide) (fun k_58 hk_58 => ?_)
          refine tVi (b := a0) (As := [.int z_56, .int k_57, .int k_58]) (rest := []) F hK hN hO (c_X7_readsTo E nw ws kp as sc ik un tk xt t g_42 g_33 g_34 g_35 iw G_36 T (6 + 6 * gI B 0 + 1) 0 9999 a0 z_56 k_57 k_58 ha0 (by omega) (by omega) (by omega) (by omega) (by omega) (by omega) hG_36 hT (by omega) (by omega) (by intro y_ h1_ h2_; exact (phiI (by omega) (by omega) (by omega) (by omega) (by omega) (by omega) (by omega) (by omega) (by omega) (by omega) (by omega) (by omega) (by omega) (by omega) (by omega) (by omega) (by omega) (by omega))) (by omega) (by omega) (by omega) (by omega)) mv_X7_readsTo wd_17_14 ⟨Nat.le_of_ble_eq_true rfl, Nat.le_of_ble_eq_true rfl⟩ ⟨Nat.le_of_ble_eq_true rfl, Nat.le_of_ble_eq_true rfl⟩ hH hS (tRecv hK hH (tyb ha0 (all1 rfl)) clX7) rfl hl.1 (Nat.le_of_ble_eq_true rfl) dX7_readsReach_108 (fun z_59 H locs hq hS => ?_)
          obtain ⟨g_60, hg_60, g_61, hg_61, g_62, hg_62, g_63, hg_63, g_64, hg_64, f_65, f_66, hH⟩ := hq
          clear f_66
          have hH : TH E (tbM (mD (.inl (t, t)) (.inl (g_60, g_60)) (.inl (g_61, g_61)) (.inl un) (.inl tk) (.inl xt) (.inl (g_62, g_62)) (.inl (g_63, g_63)) (.inl (iw, iw))) nw ws kp as (xD 660 g_64) sc (xB 400 T) ik) H := hH
          have hBg_64 := (okB hg_64.1.1).1
          refine z_ne (tgt := 116) F dX7_readsReach_111 (by decide) (fun c_67 => ?_) (fun c_67 => ?_)
          · skip
            have r_68 : 1 ≤ z_59.toInt ∧ z_59.toInt ≤ 1 := by have h9_ := f_65; omega
            refine lv_aload_n F.1 F.2.1 dX7_readsReach_116 rfl (lv_at hl 0 rfl) ?_
            refine tGetR (j := 36) F hK hH (tyb ha0 (all1 rfl)) rfl (all1 rfl) clX7 (by decide) wd_7_5 dX7_readsReach_117 (fun q_70 hq_70 _ => ?_)
            refine lv_iconst (v := 0) F.1 F.2.1 dX7_readsReach_120 (by decide) ?_
            refine topK (a := 0) (by decide) (fun k_71 hk_71 => ?_)
            refine lv_dup2_11 F.1 F.2.1 dX7_readsReach_121 rfl rfl ?_
            refine tIaldX F hK hH (tyb hq_70 (all1 rfl)) (ixb (n := 660) (eqb hk_71) rfl rfl) dX7_readsReach_122 (fun z_72 ez_72 => ?_)
            have gz_72 : z_72.toInt = gI g_64 (0) := by unfold gI; rw [ez_72, show (k_71).toNatClampNeg = (0) from by show (k_71).toInt.toNat = _; omega]
            have hz_72 : 0 ≤ z_72.toInt ∧ z_72.toInt ≤ 12 := (by have h9_ := okA.at (i := k_71) hg_64.1.1 (by omega); rw [show gI g_64 (k_71).toNatClampNeg = z_72.toInt from by unfold gI; rw [ez_72]] at h9_; have h8_ := phi_0 h9_ (by omega); omega)
            refine lv_iconst (v := 1) F.1 F.2.1 dX7_readsReach_123 (by decide) ?_
            refine topK (a := 1) (by decide) (fun k_73 hk_73 => ?_)
            refine tAdd (lo := 1) (hi := 13) F dX7_readsReach_124 hz_72 (eqb hk_73) rfl (fun z_74 hz_74 => ?_)
            refine tIastX (t := 29) F hK hH hS (List.mem_singleton.mp hq_70) (by decide) rfl (ixb (n := 660) (eqb hk_71) rfl rfl) dX7_readsReach_125 (fun G_75 eG_75 H locs hH hS => ?_)
            have hH : TH E (tbM (mD (.inl (t, t)) (.inl (g_60, g_60)) (.inl (g_61, g_61)) (.inl un) (.inl tk) (.inl xt) (.inl (g_62, g_62)) (.inl (g_63, g_63)) (.inl (iw, iw))) nw ws kp as (xD 660 G_75) sc (xB 400 T) ik) H := hH
            have hG_75 : okR G_75 := (okR.inc hg_64.1 eG_75 (by omega) (by omega))
            have hBG_75 := (okB hG_75.1).1
            refine lv_iconst (v := 1) F.1 F.2.1 dX7_readsReach_126 (by decide) ?_
            refine topK (a := 1) (by decide) (fun k_76 hk_76 => ?_)
            exact txI F hS dX7_readsReach_127 (nar01 (wkb (eqb hk_76) rfl rfl)) (⟨g_60, ⟨by omega, by omega, by omega, by omega⟩, g_61, (by omega), g_62, (by omega), g_63, (by omega), G_75, ⟨hG_75, (rch_of hbg_.1 (q := g_4) hbg_.2 (updR eG_22 (by omega) (by omega)) (res_bind (res_bind (res_bind (r0_y (wr := wr) (v := 1) f_26 hg_24.2.2.2.2 (by omega) rfl) (by omega) (mQ_of (wr := wr) hcr61_4 (by omega))) (by omega) (opt_y f_44 hg_42.2.2.2.2 hg_64.2.2.2.2.2.2 (by omega))) (by omega) (inc_k (updR eG_75 (by omega) (by omega)) (by omega))))⟩, (wkb (eqb hk_76) rfl rfl), hH⟩)
          · skip
            have r_69 : 0 ≤ z_59.toInt ∧ z_59.toInt ≤ 0 := by have h9_ := f_65; omega
            refine lv_iconst (v := 0) F.1 F.2.1 dX7_readsReach_114 (by decide) ?_
            refine topK (a := 0) (by decide) (fun k_77 hk_77 => ?_)
            exact txI F hS dX7_readsReach_115 (nar01 (wkb (eqb hk_77) rfl rfl)) (⟨g_60, ⟨by omega, by omega, by omega, by omega⟩, g_61, (by omega), g_62, (by omega), g_63, (by omega), g_64, ⟨hg_64.1, (rch_of hbg_.1 (q := g_4) hbg_.2 (updR eG_22 (by omega) (by omega)) (res_fail (v' := k_77.toInt) (x' := (g_60, iw, g_64)) (res_bind (res_bind (r0_y (wr := wr) (v := 1) f_26 hg_24.2.2.2.2 (by omega) rfl) (by omega) (mQ_of (wr := wr) hcr61_4 (by omega))) (by omega) (opt_y f_44 hg_42.2.2.2.2 hg_64.2.2.2.2.2.2 (by omega))) (by omega) (by omega)))⟩, (wkb (eqb hk_77) rfl rfl), hH⟩)
      · skip
        have r_40 : 0 ≤ u_31.toInt ∧ u_31.toInt ≤ 3 := by have h9_ := hu_31; omega
        refine lv_aload_n F.1 F.2.1 dX7_readsReach_66 rfl (lv_at hl 0 rfl) ?_
        refine lv_iload_n F.1 F.2.1 dX7_readsReach_67 rfl (lv_at hl 1 rfl) ?_
        refine lv_iconst (v := 2) F.1 F.2.1 dX7_readsReach_68 (by decide) ?_
        refine topK (a := 2) (by decide) (fun k_78 hk_78 => ?_)
        refine tAdd (lo := 8) (hi := 80) F dX7_readsReach_69 hz_17.2 (eqb hk_78) rfl (fun z_79 hz_79 => ?_)
        refine lv_iload_n F.1 F.2.1 dX7_readsReach_70 rfl (lv_at hl 2 rfl) ?_
        refine tAdd (lo := 8) (hi := 83) F dX7_readsReach_71 hz_79.2 r_40 rfl (fun z_80 hz_80 => ?_)
        refine lv_iconst (v := 0) F.1 F.2.1 dX7_readsReach_72 (by decide) ?_
        refine topK (a := 0) (by decide) (fun k_81 hk_81 => ?_)
        refine lv_sipush (v := 9999) F.1 F.2.1 dX7_readsReach_73 (by decide) ?_
        refine topK (a := 9999) (by decide) (fun k_82 hk_82 => ?_)
        refine tVi (b := a0) (As := [.int z_80, .int k_81, .int k_82]) (rest := []) F hK hN hO (c_X7_readsTo E nw ws kp as sc ik un tk xt t g_32 g_33 g_34 g_35 iw G_36 T (6 + 6 * gI B 0 + 2 + u_31.toInt) 0 9999 a0 z_80 k_81 k_82 ha0 (by omega) (by omega) (by omega) (by omega) (by omega) (by omega) hG_36 hT (by omega) (by omega) (by intro y_ h1_ h2_; exact (phiI (by omega) (by omega) (by omega) (by omega) (by omega) (by omega) (by omega) (by omega) (by omega) (by omega) (by omega) (by omega) (by omega) (by omega) (by omega) (by omega) (by omega) (by omega))) (by omega) (by omega) (by omega) (by omega)) mv_X7_readsTo wd_17_14 ⟨Nat.le_of_ble_eq_true rfl, Nat.le_of_ble_eq_true rfl⟩ ⟨Nat.le_of_ble_eq_true rfl, Nat.le_of_ble_eq_true rfl⟩ hH hS (tRecv hK hH (tyb ha0 (all1 rfl)) clX7) rfl hl.1 (Nat.le_of_ble_eq_true rfl) dX7_readsReach_76 (fun z_83 H locs hq hS => ?_)
        obtain ⟨g_84, hg_84, g_85, hg_85, g_86, hg_86, g_87, hg_87, g_88, hg_88, f_89, f_90, hH⟩ := hq
        clear f_90
        have hH : TH E (tbM (mD (.inl (t, t)) (.inl (g_84, g_84)) (.inl (g_85, g_85)) (.inl un) (.inl tk) (.inl xt) (.inl (g_86, g_86)) (.inl (g_87, g_87)) (.inl (iw, iw))) nw ws kp as (xD 660 g_88) sc (xB 400 T) ik) H := hH
        have hBg_88 := (okB hg_88.1.1).1
        refine z_ne (tgt := 84) F dX7_readsReach_79 (by decide) (fun c_91 => ?_) (fun c_91 => ?_)
        · skip
          have r_92 : 1 ≤ z_83.toInt ∧ z_83.toInt ≤ 1 := by have h9_ := f_89; omega
          obtain ⟨x_94, ex_94, hx_94⟩ := iincB (c := 1) (lo := 1) (hi := 4) r_40 rfl
          refine lv_iinc (v := x_94) (lv' := [(2, .int x_94), (0, .ref a0), (1, .int z_17)]) F.1 F.2.1 dX7_readsReach_84 hl (k := 2) rfl ex_94 (by decide) rfl (fun ls hl => ?_)
          refine lv_goto (tgt := 61) F.1 F.2.1 dX7_readsReach_87 (by decide) ?_
          exact ih_61 (x_94, g_84, g_86, g_85, g_87, g_88) _ _ _ ⟨(show (4 - x_94.toInt + 1).toNat < n_61 from by omega), (wkb hx_94.2 rfl rfl), (show 0 ≤ g_84 ∧ g_84 ≤ 400 from by omega), (show 0 ≤ g_86 ∧ g_86 ≤ 4000 from by omega), (show (-2147483648) ≤ g_85 ∧ g_85 ≤ 2147483647 from by omega), (show (-2147483648) ≤ g_87 ∧ g_87 ≤ 2147483647 from by omega), hg_88.1, (show gI g_88 0 = gI B 0 from by omega), (show gI g_88 6 = -1 from by omega), (show p ≤ g_84 from by omega), (show g_84 ≤ t from by omega), (show mQ T t (6 + 6 * gI B 0) (x_94.toInt).toNat (g_24, iw, G_22) = (true, 0, g_84, iw, g_88) from (mQ_step hcr61_4 hg_88.2.2.2.2.2.2 (by omega) (by omega) (by omega) (by omega))), hH, hS, lv_sub hl [1, 2, 0] rfl⟩
        · skip
          have r_93 : 0 ≤ z_83.toInt ∧ z_83.toInt ≤ 0 := by have h9_ := f_89; omega
          refine lv_iconst (v := 0) F.1 F.2.1 dX7_readsReach_82 (by decide) ?_
          refine topK (a := 0) (by decide) (fun k_95 hk_95 => ?_)
          exact txI F hS dX7_readsReach_83 (nar01 (wkb (eqb hk_95) rfl rfl)) (⟨g_84, ⟨by omega, by omega, by omega, by omega⟩, g_85, (by omega), g_86, (by omega), g_87, (by omega), g_88, ⟨hg_88.1, (rch_of hbg_.1 (q := g_4) hbg_.2 (updR eG_22 (by omega) (by omega)) (res_fail (v' := k_95.toInt) (x' := (g_84, iw, g_88)) (res_fail (v' := k_95.toInt) (x' := (g_84, iw, g_88)) (res_bind (r0_y (wr := wr) (v := 1) f_26 hg_24.2.2.2.2 (by omega) rfl) (by omega) (mQ_bad (v' := 0) (z' := (p, iw, B)) hcr61_4 hg_88.2.2.2.2.2.2 (by omega) (by omega) (by omega) (by omega) rfl)) (by omega) (by omega)) (by omega) (by omega)))⟩, (wkb (eqb hk_95) rfl rfl), hH⟩)
    · skip
      have r_29 : 0 ≤ z_23.toInt ∧ z_23.toInt ≤ 0 := by have h9_ := f_25; omega
      refine lv_aload_n F.1 F.2.1 dX7_readsReach_47 rfl (lv_at hl 1 rfl) ?_
      refine lv_iload_n F.1 F.2.1 dX7_readsReach_48 rfl (lv_at hl 0 rfl) ?_
      refine lv_iconst (v := 0) F.1 F.2.1 dX7_readsReach_49 (by decide) ?_
      refine topK (a := 0) (by decide) (fun k_96 hk_96 => ?_)
      refine tAdd (lo := 6) (hi := 78) F dX7_readsReach_50 hz_17.2 (eqb hk_96) rfl (fun z_97 hz_97 => ?_)
      refine tVi (b := a0) (As := [.int z_97]) (rest := []) F hK hN hO (c_X7_readsReachOf E nw ws kp as sc ik un tk xt t g_24 g_5 nu na iw G_22 T (6 + 6 * gI B 0) (gI B 0) a0 z_97 ha0 (by omega) (by omega) (by omega) (by omega) (by omega) (by omega) hG_22 hT (by omega) (by omega) (by intro y_ h1_ h2_; exact (phiI (by omega) (by omega) (by omega) (by omega) (by omega) (by omega) (by omega) (by omega) (by omega) (by omega) (by omega) (by omega) (by omega) (by omega) (by omega) (by omega) (by omega) (by omega))) (by omega) (by omega) (by omega)) mv_X7_readsReachOf wd_17_10 ⟨Nat.le_of_ble_eq_true rfl, Nat.le_of_ble_eq_true rfl⟩ ⟨Nat.le_of_ble_eq_true rfl, Nat.le_of_ble_eq_true rfl⟩ hH hS (tRecv hK hH (tyb ha0 (all1 rfl)) clX7) rfl hl.1 (Nat.le_of_ble_eq_true rfl) dX7_readsReach_51 (fun z_98 H locs hq hS => ?_)
      obtain ⟨g_99, hg_99, g_100, hg_100, g_101, hg_101, g_102, hg_102, g_103, hg_103, f_104, f_105, hH⟩ := hq
      have hH : TH E (tbM (mD (.inl (t, t)) (.inl (g_99, g_99)) (.inl (g_100, g_100)) (.inl un) (.inl tk) (.inl xt) (.inl (g_101, g_101)) (.inl (g_102, g_102)) (.inl (iw, iw))) nw ws kp as (xD 660 g_103) sc (xB 400 T) ik) H := hH
      have hBg_103 := (okB hg_103.1.1).1
      refine z_ne (tgt := 59) F dX7_readsReach_54 (by decide) (fun c_106 => ?_) (fun c_106 => ?_)
      · skip
        have r_107 : 1 ≤ z_98.toInt ∧ z_98.toInt ≤ 1 := by have h9_ := f_104; omega
        refine lv_iconst (v := 0) F.1 F.2.1 dX7_readsReach_59 (by decide) ?_
        refine topK (a := 0) (by decide) (fun k_109 hk_109 => ?_)
        refine lv_istore_n (lv' := [(2, .int k_109), (1, .int z_17), (0, .ref a0)]) F.1 F.2.1 dX7_readsReach_60 rfl hl (by decide) rfl (fun ls hl => ?_)
        refine wloop (σ := Int32 × Int × Int × Int × Int × (Nat → Int32)) (fun n9 x9 H locs ls => (4 - x9.1.toInt + 1).toNat < n9 ∧ (0 ≤ x9.1.toInt ∧ x9.1.toInt ≤ 4) ∧ (0 ≤ x9.2.1 ∧ x9.2.1 ≤ 400) ∧ (0 ≤ x9.2.2.1 ∧ x9.2.2.1 ≤ 4000) ∧ ((-2147483648) ≤ x9.2.2.2.1 ∧ x9.2.2.2.1 ≤ 2147483647) ∧ ((-2147483648) ≤ x9.2.2.2.2.1 ∧ x9.2.2.2.2.1 ≤ 2147483647) ∧ (okR x9.2.2.2.2.2) ∧ (gI x9.2.2.2.2.2 0 = gI B 0) ∧ (gI x9.2.2.2.2.2 6 = -1) ∧ (p ≤ x9.2.1) ∧ (x9.2.1 ≤ t) ∧ (mQ T t (6 + 6 * gI B 0) (x9.1.toInt).toNat (g_99, iw, g_103) = (true, 0, x9.2.1, iw, x9.2.2.2.2.2)) ∧ TH E (tbM (mD (.inl (t, t)) (.inl (x9.2.1, x9.2.1)) (.inl (x9.2.2.2.1, x9.2.2.2.1)) (.inl un) (.inl tk) (.inl xt) (.inl (x9.2.2.1, x9.2.2.1)) (.inl (x9.2.2.2.2.1, x9.2.2.2.2.1)) (.inl (iw, iw))) nw ws kp as (xD 660 x9.2.2.2.2.2) sc (xB 400 T) ik) H ∧ va_S (eA E s.heap.size) s.heap H locs ∧ lv_has ls 3 [(0, .ref a0), (1, .int z_17), (2, .int x9.1)]) ?_ (fun x9 H locs ls h => absurd h.1 (Nat.not_lt_zero _)) _ (k_109, g_99, g_101, g_100, g_102, g_103) ⟨Nat.lt_succ_self _, (wkb (eqb hk_109) rfl rfl), (show 0 ≤ g_99 ∧ g_99 ≤ 400 from by omega), (show 0 ≤ g_101 ∧ g_101 ≤ 4000 from by omega), (show (-2147483648) ≤ g_100 ∧ g_100 ≤ 2147483647 from by omega), (show (-2147483648) ≤ g_102 ∧ g_102 ≤ 2147483647 from by omega), hg_103.1, (show gI g_103 0 = gI B 0 from by omega), (show gI g_103 6 = -1 from by omega), (show p ≤ g_99 from by omega), (show g_99 ≤ t from by omega), (show mQ T t (6 + 6 * gI B 0) (k_109.toInt).toNat (g_99, iw, g_103) = (true, 0, g_99, iw, g_103) from (mQ_0 (by omega))), hH, hS, lv_sub hl [2, 1, 0] rfl⟩
        intro n_61 ih_61 ⟨u_110, g_111, g_112, g_113, g_114, G_115⟩ H locs ls ⟨hm_61, hu_110, hg_111, hg_112, hg_113, hg_114, hG_115, hcr61_0, hcr61_1, hcr61_2, hcr61_3, hcr61_4, hH, hS, hl⟩
        have hm_61 : (4 - u_110.toInt + 1).toNat < n_61 + 1 := hm_61
        have hu_110 : (0 ≤ u_110.toInt ∧ u_110.toInt ≤ 4) := hu_110
        have hg_111 : (0 ≤ g_111 ∧ g_111 ≤ 400) := hg_111
        have hg_112 : (0 ≤ g_112 ∧ g_112 ≤ 4000) := hg_112
        have hg_113 : ((-2147483648) ≤ g_113 ∧ g_113 ≤ 2147483647) := hg_113
        have hg_114 : ((-2147483648) ≤ g_114 ∧ g_114 ≤ 2147483647) := hg_114
        have hG_115 : (okR G_115) := hG_115
        have hcr61_0 : (gI G_115 0 = gI B 0) := hcr61_0
        have hcr61_1 : (gI G_115 6 = -1) := hcr61_1
        have hcr61_2 : (p ≤ g_111) := hcr61_2
        have hcr61_3 : (g_111 ≤ t) := hcr61_3
        have hcr61_4 : (mQ T t (6 + 6 * gI B 0) (u_110.toInt).toNat (g_99, iw, g_103) = (true, 0, g_111, iw, G_115)) := hcr61_4
        have hH : TH E (tbM (mD (.inl (t, t)) (.inl (g_111, g_111)) (.inl (g_113, g_113)) (.inl un) (.inl tk) (.inl xt) (.inl (g_112, g_112)) (.inl (g_114, g_114)) (.inl (iw, iw))) nw ws kp as (xD 660 G_115) sc (xB 400 T) ik) H := hH
        have hl : lv_has ls 3 [(0, .ref a0), (1, .int z_17), (2, .int u_110)] := hl
        have hBG_115 := (okB hG_115.1).1
        refine lv_iload_n F.1 F.2.1 dX7_readsReach_61 rfl (lv_at hl 2 rfl) ?_
        refine lv_iconst (v := 4) F.1 F.2.1 dX7_readsReach_62 (by decide) ?_
        refine topK (a := 4) (by decide) (fun k_116 hk_116 => ?_)
        refine b_ge (tgt := 90) F dX7_readsReach_63 (by decide) (fun c_117 => ?_) (fun c_117 => ?_)
        · skip
          have r_118 : 4 ≤ u_110.toInt ∧ u_110.toInt ≤ 4 := by have h9_ := hu_110; omega
          refine lv_aload_n F.1 F.2.1 dX7_readsReach_90 rfl (lv_at hl 0 rfl) ?_
          refine ldcwS F.1 F.2.1 F.2.2.2.2.1 (hO.1 20 _ rfl).1 dX7_readsReach_91 ?_
          refine tVi (b := a0) (As := [.ref (eX E 20)]) (rest := []) F hK hN hO (c_X7_takesWord E nw ws kp as (xD 660 G_115) sc ik un tk xt t g_111 g_112 g_113 g_114 iw T a0 20 4 ha0 (strAt 20 rfl) (by omega) (by omega) (by omega) (by omega) (by omega) (by omega) hT (by omega)) mv_X7_takesWord wd_17_6 ⟨Nat.le_of_ble_eq_true rfl, Nat.le_of_ble_eq_true rfl⟩ ⟨Nat.le_of_ble_eq_true rfl, Nat.le_of_ble_eq_true rfl⟩ hH hS (tRecv hK hH (tyb ha0 (all1 rfl)) clX7) rfl hl.1 (Nat.le_of_ble_eq_true rfl) dX7_readsReach_94 (fun z_120 H locs hq hS => ?_)
          obtain ⟨g_121, hg_121, f_122, f_123, hH⟩ := hq
          have hH : TH E (tbM (mD (.inl (t, t)) (.inl (g_121, g_121)) (.inl (g_113, g_113)) (.inl un) (.inl tk) (.inl xt) (.inl (g_112, g_112)) (.inl (g_114, g_114)) (.inl (iw, iw))) nw ws kp as (xD 660 G_115) sc (xB 400 T) ik) H := hH
          refine z_eq (tgt := 116) F dX7_readsReach_97 (by decide) (fun c_124 => ?_) (fun c_124 => ?_)
          · skip
            have r_125 : 0 ≤ z_120.toInt ∧ z_120.toInt ≤ 0 := by have h9_ := f_122; omega
            refine lv_aload_n F.1 F.2.1 dX7_readsReach_116 rfl (lv_at hl 0 rfl) ?_
            refine tGetR (j := 36) F hK hH (tyb ha0 (all1 rfl)) rfl (all1 rfl) clX7 (by decide) wd_7_5 dX7_readsReach_117 (fun q_127 hq_127 _ => ?_)
            refine lv_iconst (v := 0) F.1 F.2.1 dX7_readsReach_120 (by decide) ?_
            refine topK (a := 0) (by decide) (fun k_128 hk_128 => ?_)
            refine lv_dup2_11 F.1 F.2.1 dX7_readsReach_121 rfl rfl ?_
            refine tIaldX F hK hH (tyb hq_127 (all1 rfl)) (ixb (n := 660) (eqb hk_128) rfl rfl) dX7_readsReach_122 (fun z_129 ez_129 => ?_)
            have gz_129 : z_129.toInt = gI G_115 (0) := by unfold gI; rw [ez_129, show (k_128).toNatClampNeg = (0) from by show (k_128).toInt.toNat = _; omega]
            have hz_129 : 0 ≤ z_129.toInt ∧ z_129.toInt ≤ 12 := (by have h9_ := okA.at (i := k_128) hG_115.1 (by omega); rw [show gI G_115 (k_128).toNatClampNeg = z_129.toInt from by unfold gI; rw [ez_129]] at h9_; have h8_ := phi_0 h9_ (by omega); omega)
            refine lv_iconst (v := 1) F.1 F.2.1 dX7_readsReach_123 (by decide) ?_
            refine topK (a := 1) (by decide) (fun k_130 hk_130 => ?_)
            refine tAdd (lo := 1) (hi := 13) F dX7_readsReach_124 hz_129 (eqb hk_130) rfl (fun z_131 hz_131 => ?_)
            refine tIastX (t := 29) F hK hH hS (List.mem_singleton.mp hq_127) (by decide) rfl (ixb (n := 660) (eqb hk_128) rfl rfl) dX7_readsReach_125 (fun G_132 eG_132 H locs hH hS => ?_)
            have hH : TH E (tbM (mD (.inl (t, t)) (.inl (g_121, g_121)) (.inl (g_113, g_113)) (.inl un) (.inl tk) (.inl xt) (.inl (g_112, g_112)) (.inl (g_114, g_114)) (.inl (iw, iw))) nw ws kp as (xD 660 G_132) sc (xB 400 T) ik) H := hH
            have hG_132 : okR G_132 := (okR.inc hG_115 eG_132 (by omega) (by omega))
            have hBG_132 := (okB hG_132.1).1
            refine lv_iconst (v := 1) F.1 F.2.1 dX7_readsReach_126 (by decide) ?_
            refine topK (a := 1) (by decide) (fun k_133 hk_133 => ?_)
            exact txI F hS dX7_readsReach_127 (nar01 (wkb (eqb hk_133) rfl rfl)) (⟨g_121, ⟨by omega, by omega, by omega, by omega⟩, g_113, (by omega), g_112, (by omega), g_114, (by omega), G_132, ⟨hG_132, (rch_of hbg_.1 (q := g_4) hbg_.2 (updR eG_22 (by omega) (by omega)) (res_bind (res_bind (res_bind (r0_n f_26 hg_24.2.2.2.2 hg_103.2.2.2.2.2.2 (by omega)) (by omega) (mQ_of (wr := wr) hcr61_4 (by omega))) (by omega) (opt_n (wr := wr) (v := 1) f_123 hg_121.2.2.2.2 (by omega) rfl)) (by omega) (inc_k (updR eG_132 (by omega) (by omega)) (by omega))))⟩, (wkb (eqb hk_133) rfl rfl), hH⟩)
          · skip
            have r_126 : 1 ≤ z_120.toInt ∧ z_120.toInt ≤ 1 := by have h9_ := f_122; omega
            refine lv_aload_n F.1 F.2.1 dX7_readsReach_100 rfl (lv_at hl 0 rfl) ?_
            refine lv_iload_n F.1 F.2.1 dX7_readsReach_101 rfl (lv_at hl 1 rfl) ?_
            refine lv_iconst (v := 1) F.1 F.2.1 dX7_readsReach_102 (by decide) ?_
            refine topK (a := 1) (by decide) (fun k_134 hk_134 => ?_)
            refine tAdd (lo := 7) (hi := 79) F dX7_readsReach_103 hz_17.2 (eqb hk_134) rfl (fun z_135 hz_135 => ?_)
            refine lv_iconst (v := 0) F.1 F.2.1 dX7_readsReach_104 (by decide) ?_
            refine topK (a := 0) (by decide) (fun k_136 hk_136 => ?_)
            refine lv_sipush (v := 9999) F.1 F.2.1 dX7_readsReach_105 (by decide) ?_
            refine topK (a := 9999) (by decide) (fun k_137 hk_137 => ?_)
            refine tVi (b := a0) (As := [.int z_135, .int k_136, .int k_137]) (rest := []) F hK hN hO (c_X7_readsTo E nw ws kp as sc ik un tk xt t g_121 g_112 g_113 g_114 iw G_115 T (6 + 6 * gI B 0 + 1) 0 9999 a0 z_135 k_136 k_137 ha0 (by omega) (by omega) (by omega) (by omega) (by omega) (by omega) hG_115 hT (by omega) (by omega) (by intro y_ h1_ h2_; exact (phiI (by omega) (by omega) (by omega) (by omega) (by omega) (by omega) (by omega) (by omega) (by omega) (by omega) (by omega) (by omega) (by omega) (by omega) (by omega) (by omega) (by omega) (by omega))) (by omega) (by omega) (by omega) (by omega)) mv_X7_readsTo wd_17_14 ⟨Nat.le_of_ble_eq_true rfl, Nat.le_of_ble_eq_true rfl⟩ ⟨Nat.le_of_ble_eq_true rfl, Nat.le_of_ble_eq_true rfl⟩ hH hS (tRecv hK hH (tyb ha0 (all1 rfl)) clX7) rfl hl.1 (Nat.le_of_ble_eq_true rfl) dX7_readsReach_108 (fun z_138 H locs hq hS => ?_)
            obtain ⟨g_139, hg_139, g_140, hg_140, g_141, hg_141, g_142, hg_142, g_143, hg_143, f_144, f_145, hH⟩ := hq
            clear f_145
            have hH : TH E (tbM (mD (.inl (t, t)) (.inl (g_139, g_139)) (.inl (g_140, g_140)) (.inl un) (.inl tk) (.inl xt) (.inl (g_141, g_141)) (.inl (g_142, g_142)) (.inl (iw, iw))) nw ws kp as (xD 660 g_143) sc (xB 400 T) ik) H := hH
            have hBg_143 := (okB hg_143.1.1).1
            refine z_ne (tgt := 116) F dX7_readsReach_111 (by decide) (fun c_146 => ?_) (fun c_146 => ?_)
            · skip
              have r_147 : 1 ≤ z_138.toInt ∧ z_138.toInt ≤ 1 := by have h9_ := f_144; omega
              refine lv_aload_n F.1 F.2.1 dX7_readsReach_116 rfl (lv_at hl 0 rfl) ?_
              refine tGetR (j := 36) F hK hH (tyb ha0 (all1 rfl)) rfl (all1 rfl) clX7 (by decide) wd_7_5 dX7_readsReach_117 (fun q_149 hq_149 _ => ?_)
              refine lv_iconst (v := 0) F.1 F.2.1 dX7_readsReach_120 (by decide) ?_
              refine topK (a := 0) (by decide) (fun k_150 hk_150 => ?_)
              refine lv_dup2_11 F.1 F.2.1 dX7_readsReach_121 rfl rfl ?_
              refine tIaldX F hK hH (tyb hq_149 (all1 rfl)) (ixb (n := 660) (eqb hk_150) rfl rfl) dX7_readsReach_122 (fun z_151 ez_151 => ?_)
              have gz_151 : z_151.toInt = gI g_143 (0) := by unfold gI; rw [ez_151, show (k_150).toNatClampNeg = (0) from by show (k_150).toInt.toNat = _; omega]
              have hz_151 : 0 ≤ z_151.toInt ∧ z_151.toInt ≤ 12 := (by have h9_ := okA.at (i := k_150) hg_143.1.1 (by omega); rw [show gI g_143 (k_150).toNatClampNeg = z_151.toInt from by unfold gI; rw [ez_151]] at h9_; have h8_ := phi_0 h9_ (by omega); omega)
              refine lv_iconst (v := 1) F.1 F.2.1 dX7_readsReach_123 (by decide) ?_
              refine topK (a := 1) (by decide) (fun k_152 hk_152 => ?_)
              refine tAdd (lo := 1) (hi := 13) F dX7_readsReach_124 hz_151 (eqb hk_152) rfl (fun z_153 hz_153 => ?_)
              refine tIastX (t := 29) F hK hH hS (List.mem_singleton.mp hq_149) (by decide) rfl (ixb (n := 660) (eqb hk_150) rfl rfl) dX7_readsReach_125 (fun G_154 eG_154 H locs hH hS => ?_)
              have hH : TH E (tbM (mD (.inl (t, t)) (.inl (g_139, g_139)) (.inl (g_140, g_140)) (.inl un) (.inl tk) (.inl xt) (.inl (g_141, g_141)) (.inl (g_142, g_142)) (.inl (iw, iw))) nw ws kp as (xD 660 G_154) sc (xB 400 T) ik) H := hH
              have hG_154 : okR G_154 := (okR.inc hg_143.1 eG_154 (by omega) (by omega))
              have hBG_154 := (okB hG_154.1).1
              refine lv_iconst (v := 1) F.1 F.2.1 dX7_readsReach_126 (by decide) ?_
              refine topK (a := 1) (by decide) (fun k_155 hk_155 => ?_)
              exact txI F hS dX7_readsReach_127 (nar01 (wkb (eqb hk_155) rfl rfl)) (⟨g_139, ⟨by omega, by omega, by omega, by omega⟩, g_140, (by omega), g_141, (by omega), g_142, (by omega), G_154, ⟨hG_154, (rch_of hbg_.1 (q := g_4) hbg_.2 (updR eG_22 (by omega) (by omega)) (res_bind (res_bind (res_bind (r0_n f_26 hg_24.2.2.2.2 hg_103.2.2.2.2.2.2 (by omega)) (by omega) (mQ_of (wr := wr) hcr61_4 (by omega))) (by omega) (opt_y f_123 hg_121.2.2.2.2 hg_143.2.2.2.2.2.2 (by omega))) (by omega) (inc_k (updR eG_154 (by omega) (by omega)) (by omega))))⟩, (wkb (eqb hk_155) rfl rfl), hH⟩)
            · skip
              have r_148 : 0 ≤ z_138.toInt ∧ z_138.toInt ≤ 0 := by have h9_ := f_144; omega
              refine lv_iconst (v := 0) F.1 F.2.1 dX7_readsReach_114 (by decide) ?_
              refine topK (a := 0) (by decide) (fun k_156 hk_156 => ?_)
              exact txI F hS dX7_readsReach_115 (nar01 (wkb (eqb hk_156) rfl rfl)) (⟨g_139, ⟨by omega, by omega, by omega, by omega⟩, g_140, (by omega), g_141, (by omega), g_142, (by omega), g_143, ⟨hg_143.1, (rch_of hbg_.1 (q := g_4) hbg_.2 (updR eG_22 (by omega) (by omega)) (res_fail (v' := k_156.toInt) (x' := (g_139, iw, g_143)) (res_bind (res_bind (r0_n f_26 hg_24.2.2.2.2 hg_103.2.2.2.2.2.2 (by omega)) (by omega) (mQ_of (wr := wr) hcr61_4 (by omega))) (by omega) (opt_y f_123 hg_121.2.2.2.2 hg_143.2.2.2.2.2.2 (by omega))) (by omega) (by omega)))⟩, (wkb (eqb hk_156) rfl rfl), hH⟩)
        · skip
          have r_119 : 0 ≤ u_110.toInt ∧ u_110.toInt ≤ 3 := by have h9_ := hu_110; omega
          refine lv_aload_n F.1 F.2.1 dX7_readsReach_66 rfl (lv_at hl 0 rfl) ?_
          refine lv_iload_n F.1 F.2.1 dX7_readsReach_67 rfl (lv_at hl 1 rfl) ?_
          refine lv_iconst (v := 2) F.1 F.2.1 dX7_readsReach_68 (by decide) ?_
          refine topK (a := 2) (by decide) (fun k_157 hk_157 => ?_)
          refine tAdd (lo := 8) (hi := 80) F dX7_readsReach_69 hz_17.2 (eqb hk_157) rfl (fun z_158 hz_158 => ?_)
          refine lv_iload_n F.1 F.2.1 dX7_readsReach_70 rfl (lv_at hl 2 rfl) ?_
          refine tAdd (lo := 8) (hi := 83) F dX7_readsReach_71 hz_158.2 r_119 rfl (fun z_159 hz_159 => ?_)
          refine lv_iconst (v := 0) F.1 F.2.1 dX7_readsReach_72 (by decide) ?_
          refine topK (a := 0) (by decide) (fun k_160 hk_160 => ?_)
          refine lv_sipush (v := 9999) F.1 F.2.1 dX7_readsReach_73 (by decide) ?_
          refine topK (a := 9999) (by decide) (fun k_161 hk_161 => ?_)
          refine tVi (b := a0) (As := [.int z_159, .int k_160, .int k_161]) (rest := []) F hK hN hO (c_X7_readsTo E nw ws kp as sc ik un tk xt t g_111 g_112 g_113 g_114 iw G_115 T (6 + 6 * gI B 0 + 2 + u_110.toInt) 0 9999 a0 z_159 k_160 k_161 ha0 (by omega) (by omega) (by omega) (by omega) (by omega) (by omega) hG_115 hT (by omega) (by omega) (by intro y_ h1_ h2_; exact (phiI (by omega) (by omega) (by omega) (by omega) (by omega) (by omega) (by omega) (by omega) (by omega) (by omega) (by omega) (by omega) (by omega) (by omega) (by omega) (by omega) (by omega) (by omega))) (by omega) (by omega) (by omega) (by omega)) mv_X7_readsTo wd_17_14 ⟨Nat.le_of_ble_eq_true rfl, Nat.le_of_ble_eq_true rfl⟩ ⟨Nat.le_of_ble_eq_true rfl, Nat.le_of_ble_eq_true rfl⟩ hH hS (tRecv hK hH (tyb ha0 (all1 rfl)) clX7) rfl hl.1 (Nat.le_of_ble_eq_true rfl) dX7_readsReach_76 (fun z_162 H locs hq hS => ?_)
          obtain ⟨g_163, hg_163, g_164, hg_164, g_165, hg_165, g_166, hg_166, g_167, hg_167, f_168, f_169, hH⟩ := hq
          clear f_169
          have hH : TH E (tbM (mD (.inl (t, t)) (.inl (g_163, g_163)) (.inl (g_164, g_164)) (.inl un) (.inl tk) (.inl xt) (.inl (g_165, g_165)) (.inl (g_166, g_166)) (.inl (iw, iw))) nw ws kp as (xD 660 g_167) sc (xB 400 T) ik) H := hH
          have hBg_167 := (okB hg_167.1.1).1
          refine z_ne (tgt := 84) F dX7_readsReach_79 (by decide) (fun c_170 => ?_) (fun c_170 => ?_)
          · skip
            have r_171 : 1 ≤ z_162.toInt ∧ z_162.toInt ≤ 1 := by have h9_ := f_168; omega
            obtain ⟨x_173, ex_173, hx_173⟩ := iincB (c := 1) (lo := 1) (hi := 4) r_119 rfl
            refine lv_iinc (v := x_173) (lv' := [(2, .int x_173), (0, .ref a0), (1, .int z_17)]) F.1 F.2.1 dX7_readsReach_84 hl (k := 2) rfl ex_173 (by decide) rfl (fun ls hl => ?_)
            refine lv_goto (tgt := 61) F.1 F.2.1 dX7_readsReach_87 (by decide) ?_
            exact ih_61 (x_173, g_163, g_165, g_164, g_166, g_167) _ _ _ ⟨(show (4 - x_173.toInt + 1).toNat < n_61 from by omega), (wkb hx_173.2 rfl rfl), (show 0 ≤ g_163 ∧ g_163 ≤ 400 from by omega), (show 0 ≤ g_165 ∧ g_165 ≤ 4000 from by omega), (show (-2147483648) ≤ g_164 ∧ g_164 ≤ 2147483647 from by omega), (show (-2147483648) ≤ g_166 ∧ g_166 ≤ 2147483647 from by omega), hg_167.1, (show gI g_167 0 = gI B 0 from by omega), (show gI g_167 6 = -1 from by omega), (show p ≤ g_163 from by omega), (show g_163 ≤ t from by omega), (show mQ T t (6 + 6 * gI B 0) (x_173.toInt).toNat (g_99, iw, g_103) = (true, 0, g_163, iw, g_167) from (mQ_step hcr61_4 hg_167.2.2.2.2.2.2 (by omega) (by omega) (by omega) (by omega))), hH, hS, lv_sub hl [1, 2, 0] rfl⟩
          · skip
            have r_172 : 0 ≤ z_162.toInt ∧ z_162.toInt ≤ 0 := by have h9_ := f_168; omega
            refine lv_iconst (v := 0) F.1 F.2.1 dX7_readsReach_82 (by decide) ?_
            refine topK (a := 0) (by decide) (fun k_174 hk_174 => ?_)
            exact txI F hS dX7_readsReach_83 (nar01 (wkb (eqb hk_174) rfl rfl)) (⟨g_163, ⟨by omega, by omega, by omega, by omega⟩, g_164, (by omega), g_165, (by omega), g_166, (by omega), g_167, ⟨hg_167.1, (rch_of hbg_.1 (q := g_4) hbg_.2 (updR eG_22 (by omega) (by omega)) (res_fail (v' := k_174.toInt) (x' := (g_163, iw, g_167)) (res_fail (v' := k_174.toInt) (x' := (g_163, iw, g_167)) (res_bind (r0_n f_26 hg_24.2.2.2.2 hg_103.2.2.2.2.2.2 (by omega)) (by omega) (mQ_bad (v' := 0) (z' := (p, iw, B)) hcr61_4 hg_167.2.2.2.2.2.2 (by omega) (by omega) (by omega) (by omega) rfl)) (by omega) (by omega)) (by omega) (by omega)))⟩, (wkb (eqb hk_174) rfl rfl), hH⟩)
      · skip
        have r_108 : 0 ≤ z_98.toInt ∧ z_98.toInt ≤ 0 := by have h9_ := f_104; omega
        refine lv_iconst (v := 0) F.1 F.2.1 dX7_readsReach_57 (by decide) ?_
        refine topK (a := 0) (by decide) (fun k_175 hk_175 => ?_)
        exact txI F hS dX7_readsReach_58 (nar01 (wkb (eqb hk_175) rfl rfl)) (⟨g_99, ⟨by omega, by omega, by omega, by omega⟩, g_100, (by omega), g_101, (by omega), g_102, (by omega), g_103, ⟨hg_103.1, (rch_of hbg_.1 (q := g_4) hbg_.2 (updR eG_22 (by omega) (by omega)) (res_fail (v' := k_175.toInt) (x' := (g_99, iw, g_103)) (res_fail (v' := k_175.toInt) (x' := (g_99, iw, g_103)) (res_fail (v' := k_175.toInt) (x' := (g_99, iw, g_103)) (r0_n f_26 hg_24.2.2.2.2 hg_103.2.2.2.2.2.2 (by omega)) (by omega) (by omega)) (by omega) (by omega)) (by omega) (by omega)))⟩, (wkb (eqb hk_175) rfl rfl), hH⟩)
  · skip
    have r_10 : 0 ≤ z_3.toInt ∧ z_3.toInt ≤ 0 := by have h9_ := f_6; omega
    refine lv_iconst (v := 0) F.1 F.2.1 dX7_readsReach_13 (by decide) ?_
    refine topK (a := 0) (by decide) (fun k_176 hk_176 => ?_)
    exact txI F hS dX7_readsReach_14 (nar01 (wkb (eqb hk_176) rfl rfl)) (⟨g_4, ⟨by omega, by omega, by omega, by omega⟩, nu, (by omega), g_5, (by omega), na, (by omega), B, ⟨hB, (rch_a (by omega) (by omega) (by omega))⟩, (wkb (eqb hk_176) rfl rfl), hH⟩)
set_option maxHeartbeats 4000000 in
set_option maxRecDepth 100000 in
theorem c_X7_readsRight (E : Ev) (nw : TD) (ws : TD) (kp : TD) (as : TD) (sc : TD) (ik : TD) (un : Int × Int) (tk : Int × Int) (xt : Int × Int) (t : Int) (p : Int) (wr : Int) (nu : Int) (na : Int) (iw : Int) (B : Nat → Int32) (T : Nat → Int32) (a0 : Nat) (ha0 : eT E a0 ∈ [24]) (ht : 0 ≤ t ∧ t ≤ 400) (hp : 0 ≤ p ∧ p ≤ 400) (hwr : 0 ≤ wr ∧ wr ≤ 4000) (hnu : (-2147483648) ≤ nu ∧ nu ≤ 2147483647) (hna : (-2147483648) ≤ na ∧ na ≤ 2147483647) (hiw : 0 ≤ iw ∧ iw ≤ 1) (hB : okR B) (hT : ivP 400 (-128) 127 T) (hpt : p ≤ t) (hp5 : p + 5 ≤ t) : TcI E yX7_readsRight cX7_readsRight 2 .boolean ({ frames := 9, cells := 0, slots := 0, locals := 269 }) [.ref a0] (fun H => TH E (tbM (mD (.inl (t, t)) (.inl (p, p)) (.inl (nu, nu)) (.inl un) (.inl tk) (.inl xt) (.inl (wr, wr)) (.inl (na, na)) (.inl (iw, iw))) nw ws kp as (xD 660 B) sc (xB 400 T) ik) H) (fun v H => ∃ p2 : Int, (0 ≤ p2 ∧ p2 ≤ 400 ∧ p ≤ p2 ∧ p2 ≤ t) ∧ ∃ nu2 : Int, ((-2147483648) ≤ nu2 ∧ nu2 ≤ 2147483647) ∧ ∃ wr2 : Int, (0 ≤ wr2 ∧ wr2 ≤ 4000) ∧ ∃ na2 : Int, ((-2147483648) ≤ na2 ∧ na2 ≤ 2147483647) ∧ ∃ B2 : Nat → Int32, (okR B2 ∧ mRes v.toInt wr2 (p2, iw, B2) (mRight T t (p, iw, B))) ∧ (0 ≤ v.toInt ∧ v.toInt ≤ 1) ∧ TH E (tbM (mD (.inl (t, t)) (.inl (p2, p2)) (.inl (nu2, nu2)) (.inl un) (.inl tk) (.inl xt) (.inl (wr2, wr2)) (.inl (na2, na2)) (.inl (iw, iw))) nw ws kp as (xD 660 B2) sc (xB 400 T) ik) H) := by
  refine teI (by decide) (Nat.le_of_ble_eq_true rfl) ?_
  intro p_ ev_ s mi_ below_ meth cd_ ls F hK hN hO hH hS hl
  have hH : TH E (tbM (mD (.inl (t, t)) (.inl (p, p)) (.inl (nu, nu)) (.inl un) (.inl tk) (.inl xt) (.inl (wr, wr)) (.inl (na, na)) (.inl (iw, iw))) nw ws kp as (xD 660 B) sc (xB 400 T) ik) s.heap := hH
  have hl : lv_has ls 2 [(0, .ref a0)] := hl
  have hBB := (okB hB.1).1
  have hOB := (okB hB.1).2
  refine lv_aload_n F.1 F.2.1 dX7_readsRight_0 rfl (lv_at hl 0 rfl) ?_
  refine ldcwS F.1 F.2.1 F.2.2.2.2.1 (hO.1 21 _ rfl).1 dX7_readsRight_1 ?_
  refine lv_iconst (v := 1) F.1 F.2.1 dX7_readsRight_4 (by decide) ?_
  refine topK (a := 1) (by decide) (fun k_1 hk_1 => ?_)
  refine lv_bipush (v := 14) F.1 F.2.1 dX7_readsRight_5 (by decide) ?_
  refine topK (a := 14) (by decide) (fun k_2 hk_2 => ?_)
  refine tVi (b := a0) (As := [.ref (eX E 21), .int k_1, .int k_2]) (rest := []) F hK hN hO (c_X7_begins_1 E nw ws kp as sc ik un tk xt t p wr nu na iw B T a0 21 5 k_1 k_2 ha0 (strAt 21 rfl) (eqb hk_1) (eqb hk_2) (by omega) (by omega) (by omega) (by omega) (by omega) (by omega) hB hT (by omega) (by omega)) mv_X7_begins wd_16_22 ⟨Nat.le_of_ble_eq_true rfl, Nat.le_of_ble_eq_true rfl⟩ ⟨Nat.le_of_ble_eq_true rfl, Nat.le_of_ble_eq_true rfl⟩ hH hS (tRecv hK hH (tyb ha0 (all1 rfl)) clX7) rfl hl.1 (Nat.le_of_ble_eq_true rfl) dX7_readsRight_7 (fun z_3 H locs hq hS => ?_)
  obtain ⟨g_4, hg_4, g_5, hg_5, f_6, f_7, hH⟩ := hq
  have hH : TH E (tbM (mD (.inl (t, t)) (.inl (g_4, g_4)) (.inl (nu, nu)) (.inl un) (.inl tk) (.inl xt) (.inl (g_5, g_5)) (.inl (na, na)) (.inl (iw, iw))) nw ws kp as (xD 660 B) sc (xB 400 T) ik) H := hH
  refine z_ne (tgt := 15) F dX7_readsRight_10 (by decide) (fun c_8 => ?_) (fun c_8 => ?_)
  · skip
    have r_9 : 1 ≤ z_3.toInt ∧ z_3.toInt ≤ 1 := by have h9_ := f_6; omega
    have hbg_ : gI B 1 ≠ 14 ∧ g_4 = p + 5 := by omega
    clear f_7
    refine lv_bipush (v := 78) F.1 F.2.1 dX7_readsRight_15 (by decide) ?_
    refine topK (a := 78) (by decide) (fun k_11 hk_11 => ?_)
    refine lv_bipush (v := 13) F.1 F.2.1 dX7_readsRight_17 (by decide) ?_
    refine topK (a := 13) (by decide) (fun k_12 hk_12 => ?_)
    refine lv_aload_n F.1 F.2.1 dX7_readsRight_19 rfl (lv_at hl 0 rfl) ?_
    refine tGetR (j := 36) F hK hH (tyb ha0 (all1 rfl)) rfl (all1 rfl) clX7 (by decide) wd_7_5 dX7_readsRight_20 (fun q_13 hq_13 _ => ?_)
    refine lv_iconst (v := 1) F.1 F.2.1 dX7_readsRight_23 (by decide) ?_
    refine topK (a := 1) (by decide) (fun k_14 hk_14 => ?_)
    refine tIaldX F hK hH (tyb hq_13 (all1 rfl)) (ixb (n := 660) (eqb hk_14) rfl rfl) dX7_readsRight_24 (fun z_15 ez_15 => ?_)
    have gz_15 : z_15.toInt = gI B (1) := by unfold gI; rw [ez_15, show (k_14).toNatClampNeg = (1) from by show (k_14).toInt.toNat = _; omega]
    have hz_15 : 0 ≤ z_15.toInt ∧ z_15.toInt ≤ 14 := (by have h9_ := okA.at (i := k_14) hB.1 (by omega); rw [show gI B (k_14).toNatClampNeg = z_15.toInt from by unfold gI; rw [ez_15]] at h9_; have h8_ := phi_1 h9_ (by omega); omega)
    refine tMul (lo := 0) (hi := 182) F dX7_readsRight_25 (eqb hk_12) hz_15 rfl (fun z_16 hz_16 => ?_)
    have mz_16 : z_16.toInt = 13 * z_15.toInt := by rw [hz_16.1, hk_12]
    refine tAdd (lo := 78) (hi := 260) F dX7_readsRight_26 (eqb hk_11) hz_16.2 rfl (fun z_17 hz_17 => ?_)
    refine lv_istore_n (lv' := [(1, .int z_17), (0, .ref a0)]) F.1 F.2.1 dX7_readsRight_27 rfl hl (by decide) rfl (fun ls hl => ?_)
    refine lv_aload_n F.1 F.2.1 dX7_readsRight_28 rfl (lv_at hl 1 rfl) ?_
    refine lv_iload_n F.1 F.2.1 dX7_readsRight_29 rfl (lv_at hl 0 rfl) ?_
    refine lv_iconst (v := 0) F.1 F.2.1 dX7_readsRight_30 (by decide) ?_
    refine topK (a := 0) (by decide) (fun k_18 hk_18 => ?_)
    refine tAdd (lo := 78) (hi := 260) F dX7_readsRight_31 hz_17.2 (eqb hk_18) rfl (fun z_19 hz_19 => ?_)
    refine tVi (b := a0) (As := [.int z_19]) (rest := []) F hK hN hO (c_X7_readsReachOf E nw ws kp as sc ik un tk xt t g_4 g_5 nu na iw B T (78 + 13 * gI B 1) (gI B 0) a0 z_19 ha0 (by omega) (by omega) (by omega) (by omega) (by omega) (by omega) hB hT (by omega) (by omega) (by intro y_ h1_ h2_; exact (phiI (by omega) (by omega) (by omega) (by omega) (by omega) (by omega) (by omega) (by omega) (by omega) (by omega) (by omega) (by omega) (by omega) (by omega) (by omega) (by omega) (by omega) (by omega))) (by omega) (by omega) (by omega)) mv_X7_readsReachOf wd_17_10 ⟨Nat.le_of_ble_eq_true rfl, Nat.le_of_ble_eq_true rfl⟩ ⟨Nat.le_of_ble_eq_true rfl, Nat.le_of_ble_eq_true rfl⟩ hH hS (tRecv hK hH (tyb ha0 (all1 rfl)) clX7) rfl hl.1 (Nat.le_of_ble_eq_true rfl) dX7_readsRight_32 (fun z_20 H locs hq hS => ?_)
    obtain ⟨g_21, hg_21, g_22, hg_22, g_23, hg_23, g_24, hg_24, g_25, hg_25, f_26, f_27, hH⟩ := hq
    have hH : TH E (tbM (mD (.inl (t, t)) (.inl (g_21, g_21)) (.inl (g_22, g_22)) (.inl un) (.inl tk) (.inl xt) (.inl (g_23, g_23)) (.inl (g_24, g_24)) (.inl (iw, iw))) nw ws kp as (xD 660 g_25) sc (xB 400 T) ik) H := hH
    have hBg_25 := (okB hg_25.1.1).1
    refine z_eq (tgt := 97) F dX7_readsRight_35 (by decide) (fun c_28 => ?_) (fun c_28 => ?_)
    · skip
      have r_29 : 0 ≤ z_20.toInt ∧ z_20.toInt ≤ 0 := by have h9_ := f_26; omega
      refine lv_iconst (v := 0) F.1 F.2.1 dX7_readsRight_97 (by decide) ?_
      refine topK (a := 0) (by decide) (fun k_31 hk_31 => ?_)
      exact txI F hS dX7_readsRight_98 (nar01 (wkb (eqb hk_31) rfl rfl)) (⟨g_21, ⟨by omega, by omega, by omega, by omega⟩, g_22, (by omega), g_23, (by omega), g_24, (by omega), g_25, ⟨hg_25.1, (rgt_of hbg_.1 (q := g_4) hbg_.2 (res_fail (v' := k_31.toInt) (x' := (g_21, iw, g_25)) (res_fail (v' := k_31.toInt) (x' := (g_21, iw, g_25)) (res_fail (v' := k_31.toInt) (x' := (g_21, iw, g_25)) (res_fail (v' := k_31.toInt) (x' := (g_21, iw, g_25)) (res_fail (v' := k_31.toInt) (x' := (g_21, iw, g_25)) (res_fail (v' := k_31.toInt) (x' := (g_21, iw, g_25)) (res_fail (v' := k_31.toInt) (x' := (g_21, iw, g_25)) hg_25.2.2.2.2.2.2 (by omega) (by omega)) (by omega) (by omega)) (by omega) (by omega)) (by omega) (by omega)) (by omega) (by omega)) (by omega) (by omega)) (by omega) (by omega)))⟩, (wkb (eqb hk_31) rfl rfl), hH⟩)
    · skip
      have r_30 : 1 ≤ z_20.toInt ∧ z_20.toInt ≤ 1 := by have h9_ := f_26; omega
      have h0_ := f_27 (by omega)
      clear f_27
      have h6_ : gI B 6 = -1 := by omega
      clear hOB
      refine lv_aload_n F.1 F.2.1 dX7_readsRight_38 rfl (lv_at hl 1 rfl) ?_
      refine lv_iload_n F.1 F.2.1 dX7_readsRight_39 rfl (lv_at hl 0 rfl) ?_
      refine lv_iconst (v := 1) F.1 F.2.1 dX7_readsRight_40 (by decide) ?_
      refine topK (a := 1) (by decide) (fun k_32 hk_32 => ?_)
      refine tAdd (lo := 79) (hi := 261) F dX7_readsRight_41 hz_17.2 (eqb hk_32) rfl (fun z_33 hz_33 => ?_)
      refine lv_iconst (v := 1) F.1 F.2.1 dX7_readsRight_42 (by decide) ?_
      refine topK (a := 1) (by decide) (fun k_34 hk_34 => ?_)
      refine lv_sipush (v := 9999) F.1 F.2.1 dX7_readsRight_43 (by decide) ?_
      refine topK (a := 9999) (by decide) (fun k_35 hk_35 => ?_)
      refine tVi (b := a0) (As := [.int z_33, .int k_34, .int k_35]) (rest := []) F hK hN hO (c_X7_readsTo E nw ws kp as sc ik un tk xt t g_21 g_23 g_22 g_24 iw g_25 T (78 + 13 * gI B 1 + 1) 1 9999 a0 z_33 k_34 k_35 ha0 (by omega) (by omega) (by omega) (by omega) (by omega) (by omega) hg_25.1 hT (by omega) (by omega) (by intro y_ h1_ h2_; exact (phiI (by omega) (by omega) (by omega) (by omega) (by omega) (by omega) (by omega) (by omega) (by omega) (by omega) (by omega) (by omega) (by omega) (by omega) (by omega) (by omega) (by omega) (by omega))) (by omega) (by omega) (by omega) (by omega)) mv_X7_readsTo wd_17_14 ⟨Nat.le_of_ble_eq_true rfl, Nat.le_of_ble_eq_true rfl⟩ ⟨Nat.le_of_ble_eq_true rfl, Nat.le_of_ble_eq_true rfl⟩ hH hS (tRecv hK hH (tyb ha0 (all1 rfl)) clX7) rfl hl.1 (Nat.le_of_ble_eq_true rfl) dX7_readsRight_46 (fun z_36 H locs hq hS => ?_)
      obtain ⟨g_37, hg_37, g_38, hg_38, g_39, hg_39, g_40, hg_40, g_41, hg_41, f_42, f_43, hH⟩ := hq
      clear f_43
      have hH : TH E (tbM (mD (.inl (t, t)) (.inl (g_37, g_37)) (.inl (g_38, g_38)) (.inl un) (.inl tk) (.inl xt) (.inl (g_39, g_39)) (.inl (g_40, g_40)) (.inl (iw, iw))) nw ws kp as (xD 660 g_41) sc (xB 400 T) ik) H := hH
      have hBg_41 := (okB hg_41.1.1).1
      refine z_eq (tgt := 97) F dX7_readsRight_49 (by decide) (fun c_44 => ?_) (fun c_44 => ?_)
      · skip
        have r_45 : 0 ≤ z_36.toInt ∧ z_36.toInt ≤ 0 := by have h9_ := f_42; omega
        refine lv_iconst (v := 0) F.1 F.2.1 dX7_readsRight_97 (by decide) ?_
        refine topK (a := 0) (by decide) (fun k_47 hk_47 => ?_)
        exact txI F hS dX7_readsRight_98 (nar01 (wkb (eqb hk_47) rfl rfl)) (⟨g_37, ⟨by omega, by omega, by omega, by omega⟩, g_38, (by omega), g_39, (by omega), g_40, (by omega), g_41, ⟨hg_41.1, (rgt_of hbg_.1 (q := g_4) hbg_.2 (res_fail (v' := k_47.toInt) (x' := (g_37, iw, g_41)) (res_fail (v' := k_47.toInt) (x' := (g_37, iw, g_41)) (res_fail (v' := k_47.toInt) (x' := (g_37, iw, g_41)) (res_fail (v' := k_47.toInt) (x' := (g_37, iw, g_41)) (res_fail (v' := k_47.toInt) (x' := (g_37, iw, g_41)) (res_fail (v' := k_47.toInt) (x' := (g_37, iw, g_41)) (res_bind hg_25.2.2.2.2.2.2 (by omega) hg_41.2.2.2.2.2.2) (by omega) (by omega)) (by omega) (by omega)) (by omega) (by omega)) (by omega) (by omega)) (by omega) (by omega)) (by omega) (by omega)))⟩, (wkb (eqb hk_47) rfl rfl), hH⟩)
      · skip
        have r_46 : 1 ≤ z_36.toInt ∧ z_36.toInt ≤ 1 := by have h9_ := f_42; omega
        refine lv_aload_n F.1 F.2.1 dX7_readsRight_52 rfl (lv_at hl 1 rfl) ?_
        refine lv_iload_n F.1 F.2.1 dX7_readsRight_53 rfl (lv_at hl 0 rfl) ?_
        refine lv_iconst (v := 2) F.1 F.2.1 dX7_readsRight_54 (by decide) ?_
        refine topK (a := 2) (by decide) (fun k_48 hk_48 => ?_)
        refine tAdd (lo := 80) (hi := 262) F dX7_readsRight_55 hz_17.2 (eqb hk_48) rfl (fun z_49 hz_49 => ?_)
        refine lv_iconst (v := 0) F.1 F.2.1 dX7_readsRight_56 (by decide) ?_
        refine topK (a := 0) (by decide) (fun k_50 hk_50 => ?_)
        refine lv_sipush (v := 359) F.1 F.2.1 dX7_readsRight_57 (by decide) ?_
        refine topK (a := 359) (by decide) (fun k_51 hk_51 => ?_)
        refine tVi (b := a0) (As := [.int z_49, .int k_50, .int k_51]) (rest := []) F hK hN hO (c_X7_readsTo E nw ws kp as sc ik un tk xt t g_37 g_39 g_38 g_40 iw g_41 T (78 + 13 * gI B 1 + 2) 0 359 a0 z_49 k_50 k_51 ha0 (by omega) (by omega) (by omega) (by omega) (by omega) (by omega) hg_41.1 hT (by omega) (by omega) (by intro y_ h1_ h2_; exact (phiI (by omega) (by omega) (by omega) (by omega) (by omega) (by omega) (by omega) (by omega) (by omega) (by omega) (by omega) (by omega) (by omega) (by omega) (by omega) (by omega) (by omega) (by omega))) (by omega) (by omega) (by omega) (by omega)) mv_X7_readsTo wd_17_14 ⟨Nat.le_of_ble_eq_true rfl, Nat.le_of_ble_eq_true rfl⟩ ⟨Nat.le_of_ble_eq_true rfl, Nat.le_of_ble_eq_true rfl⟩ hH hS (tRecv hK hH (tyb ha0 (all1 rfl)) clX7) rfl hl.1 (Nat.le_of_ble_eq_true rfl) dX7_readsRight_60 (fun z_52 H locs hq hS => ?_)
        obtain ⟨g_53, hg_53, g_54, hg_54, g_55, hg_55, g_56, hg_56, g_57, hg_57, f_58, f_59, hH⟩ := hq
        clear f_59
        have hH : TH E (tbM (mD (.inl (t, t)) (.inl (g_53, g_53)) (.inl (g_54, g_54)) (.inl un) (.inl tk) (.inl xt) (.inl (g_55, g_55)) (.inl (g_56, g_56)) (.inl (iw, iw))) nw ws kp as (xD 660 g_57) sc (xB 400 T) ik) H := hH
        have hBg_57 := (okB hg_57.1.1).1
        refine z_eq (tgt := 97) F dX7_readsRight_63 (by decide) (fun c_60 => ?_) (fun c_60 => ?_)
        · skip
          have r_61 : 0 ≤ z_52.toInt ∧ z_52.toInt ≤ 0 := by have h9_ := f_58; omega
          refine lv_iconst (v := 0) F.1 F.2.1 dX7_readsRight_97 (by decide) ?_
          refine topK (a := 0) (by decide) (fun k_63 hk_63 => ?_)
          exact txI F hS dX7_readsRight_98 (nar01 (wkb (eqb hk_63) rfl rfl)) (⟨g_53, ⟨by omega, by omega, by omega, by omega⟩, g_54, (by omega), g_55, (by omega), g_56, (by omega), g_57, ⟨hg_57.1, (rgt_of hbg_.1 (q := g_4) hbg_.2 (res_fail (v' := k_63.toInt) (x' := (g_53, iw, g_57)) (res_fail (v' := k_63.toInt) (x' := (g_53, iw, g_57)) (res_fail (v' := k_63.toInt) (x' := (g_53, iw, g_57)) (res_fail (v' := k_63.toInt) (x' := (g_53, iw, g_57)) (res_fail (v' := k_63.toInt) (x' := (g_53, iw, g_57)) (res_bind (res_bind hg_25.2.2.2.2.2.2 (by omega) hg_41.2.2.2.2.2.2) (by omega) hg_57.2.2.2.2.2.2) (by omega) (by omega)) (by omega) (by omega)) (by omega) (by omega)) (by omega) (by omega)) (by omega) (by omega)))⟩, (wkb (eqb hk_63) rfl rfl), hH⟩)
        · skip
          have r_62 : 1 ≤ z_52.toInt ∧ z_52.toInt ≤ 1 := by have h9_ := f_58; omega
          refine lv_aload_n F.1 F.2.1 dX7_readsRight_66 rfl (lv_at hl 1 rfl) ?_
          refine lv_iload_n F.1 F.2.1 dX7_readsRight_67 rfl (lv_at hl 0 rfl) ?_
          refine lv_iconst (v := 3) F.1 F.2.1 dX7_readsRight_68 (by decide) ?_
          refine topK (a := 3) (by decide) (fun k_64 hk_64 => ?_)
          refine tAdd (lo := 81) (hi := 263) F dX7_readsRight_69 hz_17.2 (eqb hk_64) rfl (fun z_65 hz_65 => ?_)
          refine lv_aload_n F.1 F.2.1 dX7_readsRight_70 rfl (lv_at hl 1 rfl) ?_
          refine tGetR (j := 36) F hK hH (tyb ha0 (all1 rfl)) rfl (all1 rfl) clX7 (by decide) wd_7_5 dX7_readsRight_71 (fun q_66 hq_66 _ => ?_)
          refine lv_iload_n F.1 F.2.1 dX7_readsRight_74 rfl (lv_at hl 0 rfl) ?_
          refine lv_iconst (v := 2) F.1 F.2.1 dX7_readsRight_75 (by decide) ?_
          refine topK (a := 2) (by decide) (fun k_67 hk_67 => ?_)
          refine tAdd (lo := 80) (hi := 262) F dX7_readsRight_76 hz_17.2 (eqb hk_67) rfl (fun z_68 hz_68 => ?_)
          refine tIaldX F hK hH (tyb hq_66 (all1 rfl)) (ixb (n := 660) hz_68.2 rfl rfl) dX7_readsRight_77 (fun z_69 ez_69 => ?_)
          have gz_69 : z_69.toInt = gI g_57 ((78 + 13 * gI B 1 + 2).toNat) := gI_at ez_69 (by omega)
          refine lv_sipush (v := 359) F.1 F.2.1 dX7_readsRight_78 (by decide) ?_
          refine topK (a := 359) (by decide) (fun k_70 hk_70 => ?_)
          refine tVi (b := a0) (As := [.int z_65, .int z_69, .int k_70]) (rest := []) F hK hN hO (c_X7_readsTo E nw ws kp as sc ik un tk xt t g_53 g_55 g_54 g_56 iw g_57 T (78 + 13 * gI B 1 + 3) ((gI g_57 (78 + 13 * gI B 1 + 2).toNat)) 359 a0 z_65 z_69 k_70 ha0 (by omega) (by omega) (by omega) (by omega) (by omega) (by omega) hg_57.1 hT (by omega) (by omega) (by intro y_ h1_ h2_; exact (phiI (by omega) (by omega) (by omega) (by omega) (by omega) (by omega) (by omega) (by omega) (by omega) (by omega) (by omega) (by omega) (by omega) (by omega) (by omega) (by omega) (by omega) (by omega))) (by omega) (by omega) (by omega) (by omega)) mv_X7_readsTo wd_17_14 ⟨Nat.le_of_ble_eq_true rfl, Nat.le_of_ble_eq_true rfl⟩ ⟨Nat.le_of_ble_eq_true rfl, Nat.le_of_ble_eq_true rfl⟩ hH hS (tRecv hK hH (tyb ha0 (all1 rfl)) clX7) rfl hl.1 (Nat.le_of_ble_eq_true rfl) dX7_readsRight_81 (fun z_71 H locs hq hS => ?_)
          obtain ⟨g_72, hg_72, g_73, hg_73, g_74, hg_74, g_75, hg_75, g_76, hg_76, f_77, f_78, hH⟩ := hq
          clear f_78
          have hH : TH E (tbM (mD (.inl (t, t)) (.inl (g_72, g_72)) (.inl (g_73, g_73)) (.inl un) (.inl tk) (.inl xt) (.inl (g_74, g_74)) (.inl (g_75, g_75)) (.inl (iw, iw))) nw ws kp as (xD 660 g_76) sc (xB 400 T) ik) H := hH
          have hBg_76 := (okB hg_76.1.1).1
          refine z_eq (tgt := 97) F dX7_readsRight_84 (by decide) (fun c_79 => ?_) (fun c_79 => ?_)
          · skip
            have r_80 : 0 ≤ z_71.toInt ∧ z_71.toInt ≤ 0 := by have h9_ := f_77; omega
            refine lv_iconst (v := 0) F.1 F.2.1 dX7_readsRight_97 (by decide) ?_
            refine topK (a := 0) (by decide) (fun k_82 hk_82 => ?_)
            exact txI F hS dX7_readsRight_98 (nar01 (wkb (eqb hk_82) rfl rfl)) (⟨g_72, ⟨by omega, by omega, by omega, by omega⟩, g_73, (by omega), g_74, (by omega), g_75, (by omega), g_76, ⟨hg_76.1, (rgt_of hbg_.1 (q := g_4) hbg_.2 (res_fail (v' := k_82.toInt) (x' := (g_72, iw, g_76)) (res_fail (v' := k_82.toInt) (x' := (g_72, iw, g_76)) (res_fail (v' := k_82.toInt) (x' := (g_72, iw, g_76)) (res_fail (v' := k_82.toInt) (x' := (g_72, iw, g_76)) (res_bind (res_bind (res_bind hg_25.2.2.2.2.2.2 (by omega) hg_41.2.2.2.2.2.2) (by omega) hg_57.2.2.2.2.2.2) (by omega) (til_k hg_76.2.2.2.2.2.2 rfl)) (by omega) (by omega)) (by omega) (by omega)) (by omega) (by omega)) (by omega) (by omega)))⟩, (wkb (eqb hk_82) rfl rfl), hH⟩)
          · skip
            have r_81 : 1 ≤ z_71.toInt ∧ z_71.toInt ≤ 1 := by have h9_ := f_77; omega
            refine lv_aload_n F.1 F.2.1 dX7_readsRight_87 rfl (lv_at hl 1 rfl) ?_
            refine lv_iload_n F.1 F.2.1 dX7_readsRight_88 rfl (lv_at hl 0 rfl) ?_
            refine lv_iconst (v := 4) F.1 F.2.1 dX7_readsRight_89 (by decide) ?_
            refine topK (a := 4) (by decide) (fun k_83 hk_83 => ?_)
            refine tAdd (lo := 82) (hi := 264) F dX7_readsRight_90 hz_17.2 (eqb hk_83) rfl (fun z_84 hz_84 => ?_)
            refine tVi (b := a0) (As := [.int z_84]) (rest := []) F hK hN hO (c_X7_readsAge E nw ws kp as sc ik un tk xt t g_72 g_74 g_73 g_75 iw g_76 T (78 + 13 * gI B 1 + 4) a0 z_84 ha0 (wkb hz_84.2 rfl rfl) (by omega) (by omega) (by omega) (by omega) (by omega) (by omega) hg_76.1 hT (by omega) (by omega) (by omega)) mv_X7_readsAge wd_18_8 ⟨Nat.le_of_ble_eq_true rfl, Nat.le_of_ble_eq_true rfl⟩ ⟨Nat.le_of_ble_eq_true rfl, Nat.le_of_ble_eq_true rfl⟩ hH hS (tRecv hK hH (tyb ha0 (all1 rfl)) clX7) rfl hl.1 (Nat.le_of_ble_eq_true rfl) dX7_readsRight_91 (fun z_85 H locs hq hS => ?_)
            obtain ⟨g_86, hg_86, g_87, hg_87, g_88, hg_88, g_89, hg_89, g_90, hg_90, f_91, hH⟩ := hq
            have hH : TH E (tbM (mD (.inl (t, t)) (.inl (g_86, g_86)) (.inl (g_87, g_87)) (.inl un) (.inl tk) (.inl xt) (.inl (g_88, g_88)) (.inl (g_89, g_89)) (.inl (iw, iw))) nw ws kp as (xD 660 g_90) sc (xB 400 T) ik) H := hH
            have hBg_90 := (okB hg_90.1.1).1
            refine z_ne (tgt := 99) F dX7_readsRight_94 (by decide) (fun c_92 => ?_) (fun c_92 => ?_)
            · skip
              have r_93 : 1 ≤ z_85.toInt ∧ z_85.toInt ≤ 1 := by have h9_ := f_91; omega
              refine lv_aload_n F.1 F.2.1 dX7_readsRight_99 rfl (lv_at hl 1 rfl) ?_
              refine tGetR (j := 36) F hK hH (tyb ha0 (all1 rfl)) rfl (all1 rfl) clX7 (by decide) wd_7_5 dX7_readsRight_100 (fun q_95 hq_95 _ => ?_)
              refine lv_iload_n F.1 F.2.1 dX7_readsRight_103 rfl (lv_at hl 0 rfl) ?_
              refine lv_iconst (v := 5) F.1 F.2.1 dX7_readsRight_104 (by decide) ?_
              refine topK (a := 5) (by decide) (fun k_96 hk_96 => ?_)
              refine tAdd (lo := 83) (hi := 265) F dX7_readsRight_105 hz_17.2 (eqb hk_96) rfl (fun z_97 hz_97 => ?_)
              refine lv_bipush (v := (-2)) F.1 F.2.1 dX7_readsRight_106 (by decide) ?_
              refine topK (a := (-2)) (by decide) (fun k_98 hk_98 => ?_)
              refine tIastX (t := 29) F hK hH hS (List.mem_singleton.mp hq_95) (by decide) rfl (ixb (n := 660) hz_97.2 rfl rfl) dX7_readsRight_108 (fun G_99 eG_99 H locs hH hS => ?_)
              have hH : TH E (tbM (mD (.inl (t, t)) (.inl (g_86, g_86)) (.inl (g_87, g_87)) (.inl un) (.inl tk) (.inl xt) (.inl (g_88, g_88)) (.inl (g_89, g_89)) (.inl (iw, iw))) nw ws kp as (xD 660 G_99) sc (xB 400 T) ik) H := hH
              have n0G_99 : gI G_99 0 = gI g_90 0 := gI_ne eG_99 (by omega) (by omega)
              have n1G_99 : gI G_99 1 = gI g_90 1 := gI_ne eG_99 (by omega) (by omega)
              have n2G_99 : gI G_99 2 = gI g_90 2 := gI_ne eG_99 (by omega) (by omega)
              have n6G_99 : gI G_99 6 = gI g_90 6 := gI_ne eG_99 (by omega) (by omega)
              have n3G_99 : gI G_99 3 = gI g_90 3 := gI_ne eG_99 (by omega) (by omega)
              have hG_99 : okR G_99 := (okR.stM hg_90.1 eG_99 (by omega) (by omega) (by omega) (phiI (by omega) (by omega) (by omega) (by omega) (by omega) (by omega) (by omega) (by omega) (by omega) (by omega) (by omega) (by omega) (by omega) (by omega) (by omega) (by omega) (by omega) (by omega)) (by omega))
              have hBG_99 := (okB hG_99.1).1
              refine lv_aload_n F.1 F.2.1 dX7_readsRight_109 rfl (lv_at hl 1 rfl) ?_
              refine ldcwS F.1 F.2.1 F.2.2.2.2.1 (hO.1 23 _ rfl).1 dX7_readsRight_110 ?_
              refine tVi (b := a0) (As := [.ref (eX E 23)]) (rest := []) F hK hN hO (c_X7_takesWord E nw ws kp as (xD 660 G_99) sc ik un tk xt t g_86 g_88 g_87 g_89 iw T a0 23 3 ha0 (strAt 23 rfl) (by omega) (by omega) (by omega) (by omega) (by omega) (by omega) hT (by omega)) mv_X7_takesWord wd_17_6 ⟨Nat.le_of_ble_eq_true rfl, Nat.le_of_ble_eq_true rfl⟩ ⟨Nat.le_of_ble_eq_true rfl, Nat.le_of_ble_eq_true rfl⟩ hH hS (tRecv hK hH (tyb ha0 (all1 rfl)) clX7) rfl hl.1 (Nat.le_of_ble_eq_true rfl) dX7_readsRight_113 (fun z_100 H locs hq hS => ?_)
              obtain ⟨g_101, hg_101, f_102, f_103, hH⟩ := hq
              have hH : TH E (tbM (mD (.inl (t, t)) (.inl (g_101, g_101)) (.inl (g_87, g_87)) (.inl un) (.inl tk) (.inl xt) (.inl (g_88, g_88)) (.inl (g_89, g_89)) (.inl (iw, iw))) nw ws kp as (xD 660 G_99) sc (xB 400 T) ik) H := hH
              refine z_eq (tgt := 135) F dX7_readsRight_116 (by decide) (fun c_104 => ?_) (fun c_104 => ?_)
              · skip
                have r_105 : 0 ≤ z_100.toInt ∧ z_100.toInt ≤ 0 := by have h9_ := f_102; omega
                refine lv_aload_n F.1 F.2.1 dX7_readsRight_135 rfl (lv_at hl 1 rfl) ?_
                refine lv_iload_n F.1 F.2.1 dX7_readsRight_136 rfl (lv_at hl 0 rfl) ?_
                refine tVi (b := a0) (As := [.int z_17]) (rest := []) F hK hN hO (c_X7_readsBack E nw ws kp as sc ik un tk xt t g_101 g_88 g_87 g_89 iw G_99 T (78 + 13 * gI B 1) a0 z_17 ha0 (by omega) (by omega) (by omega) (by omega) (by omega) (by omega) (by omega) hG_99 hT (by omega) (by omega) (by omega)) mv_X7_readsBack wd_18_16 ⟨Nat.le_of_ble_eq_true rfl, Nat.le_of_ble_eq_true rfl⟩ ⟨Nat.le_of_ble_eq_true rfl, Nat.le_of_ble_eq_true rfl⟩ hH hS (tRecv hK hH (tyb ha0 (all1 rfl)) clX7) rfl hl.1 (Nat.le_of_ble_eq_true rfl) dX7_readsRight_137 (fun z_107 H locs hq hS => ?_)
                obtain ⟨g_108, hg_108, g_109, hg_109, g_110, hg_110, g_111, hg_111, g_112, hg_112, f_113, hH⟩ := hq
                have hH : TH E (tbM (mD (.inl (t, t)) (.inl (g_108, g_108)) (.inl (g_109, g_109)) (.inl un) (.inl tk) (.inl xt) (.inl (g_110, g_110)) (.inl (g_111, g_111)) (.inl (iw, iw))) nw ws kp as (xD 660 g_112) sc (xB 400 T) ik) H := hH
                have hBg_112 := (okB hg_112.1.1).1
                refine z_ne (tgt := 145) F dX7_readsRight_140 (by decide) (fun c_114 => ?_) (fun c_114 => ?_)
                · skip
                  have r_115 : 1 ≤ z_107.toInt ∧ z_107.toInt ≤ 1 := by have h9_ := f_113; omega
                  refine lv_aload_n F.1 F.2.1 dX7_readsRight_145 rfl (lv_at hl 1 rfl) ?_
                  refine tGetR (j := 36) F hK hH (tyb ha0 (all1 rfl)) rfl (all1 rfl) clX7 (by decide) wd_7_5 dX7_readsRight_146 (fun q_117 hq_117 _ => ?_)
                  refine lv_iload_n F.1 F.2.1 dX7_readsRight_149 rfl (lv_at hl 0 rfl) ?_
                  refine lv_bipush (v := 6) F.1 F.2.1 dX7_readsRight_150 (by decide) ?_
                  refine topK (a := 6) (by decide) (fun k_118 hk_118 => ?_)
                  refine tAdd (lo := 84) (hi := 266) F dX7_readsRight_152 hz_17.2 (eqb hk_118) rfl (fun z_119 hz_119 => ?_)
                  refine lv_aload_n F.1 F.2.1 dX7_readsRight_153 rfl (lv_at hl 1 rfl) ?_
                  refine tGetR (j := 36) F hK hH (tyb ha0 (all1 rfl)) rfl (all1 rfl) clX7 (by decide) wd_7_5 dX7_readsRight_154 (fun q_120 hq_120 _ => ?_)
                  refine lv_iload_n F.1 F.2.1 dX7_readsRight_157 rfl (lv_at hl 0 rfl) ?_
                  refine lv_iconst (v := 5) F.1 F.2.1 dX7_readsRight_158 (by decide) ?_
                  refine topK (a := 5) (by decide) (fun k_121 hk_121 => ?_)
                  refine tAdd (lo := 83) (hi := 265) F dX7_readsRight_159 hz_17.2 (eqb hk_121) rfl (fun z_122 hz_122 => ?_)
                  refine tIaldX F hK hH (tyb hq_120 (all1 rfl)) (ixb (n := 660) hz_122.2 rfl rfl) dX7_readsRight_160 (fun z_123 ez_123 => ?_)
                  have gz_123 : z_123.toInt = gI g_112 ((78 + 13 * gI B 1 + 5).toNat) := gI_at ez_123 (by omega)
                  have hz_123 : (-2) ≤ z_123.toInt ∧ z_123.toInt ≤ 999999 := (by have h9_ := okA.at (i := z_122) hg_112.1.1 (by omega); rw [show gI g_112 (z_122).toNatClampNeg = z_123.toInt from by unfold gI; rw [ez_123]] at h9_; have h8_ := phi_r5 h9_ (by omega) (by omega); omega)
                  refine tIastX (t := 29) F hK hH hS (List.mem_singleton.mp hq_117) (by decide) rfl (ixb (n := 660) hz_119.2 rfl rfl) dX7_readsRight_161 (fun G_124 eG_124 H locs hH hS => ?_)
                  have hH : TH E (tbM (mD (.inl (t, t)) (.inl (g_108, g_108)) (.inl (g_109, g_109)) (.inl un) (.inl tk) (.inl xt) (.inl (g_110, g_110)) (.inl (g_111, g_111)) (.inl (iw, iw))) nw ws kp as (xD 660 G_124) sc (xB 400 T) ik) H := hH
                  have n0G_124 : gI G_124 0 = gI g_112 0 := gI_ne eG_124 (by omega) (by omega)
                  have n1G_124 : gI G_124 1 = gI g_112 1 := gI_ne eG_124 (by omega) (by omega)
                  have n2G_124 : gI G_124 2 = gI g_112 2 := gI_ne eG_124 (by omega) (by omega)
                  have n6G_124 : gI G_124 6 = gI g_112 6 := gI_ne eG_124 (by omega) (by omega)
                  have n3G_124 : gI G_124 3 = gI g_112 3 := gI_ne eG_124 (by omega) (by omega)
                  have hG_124 : okR G_124 := (okR.stL hg_112.1 eG_124 (by omega) (by omega) (by omega))
                  have hBG_124 := (okB hG_124.1).1
                  refine lv_aload_n F.1 F.2.1 dX7_readsRight_162 rfl (lv_at hl 1 rfl) ?_
                  refine tGetR (j := 36) F hK hH (tyb ha0 (all1 rfl)) rfl (all1 rfl) clX7 (by decide) wd_7_5 dX7_readsRight_163 (fun q_125 hq_125 _ => ?_)
                  refine lv_iload_n F.1 F.2.1 dX7_readsRight_166 rfl (lv_at hl 0 rfl) ?_
                  refine lv_bipush (v := 10) F.1 F.2.1 dX7_readsRight_167 (by decide) ?_
                  refine topK (a := 10) (by decide) (fun k_126 hk_126 => ?_)
                  refine tAdd (lo := 88) (hi := 270) F dX7_readsRight_169 hz_17.2 (eqb hk_126) rfl (fun z_127 hz_127 => ?_)
                  refine lv_aload_n F.1 F.2.1 dX7_readsRight_170 rfl (lv_at hl 1 rfl) ?_
                  refine tGetR (j := 36) F hK hH (tyb ha0 (all1 rfl)) rfl (all1 rfl) clX7 (by decide) wd_7_5 dX7_readsRight_171 (fun q_128 hq_128 _ => ?_)
                  refine lv_iload_n F.1 F.2.1 dX7_readsRight_174 rfl (lv_at hl 0 rfl) ?_
                  refine lv_iconst (v := 1) F.1 F.2.1 dX7_readsRight_175 (by decide) ?_
                  refine topK (a := 1) (by decide) (fun k_129 hk_129 => ?_)
                  refine tAdd (lo := 79) (hi := 261) F dX7_readsRight_176 hz_17.2 (eqb hk_129) rfl (fun z_130 hz_130 => ?_)
                  refine tIaldX F hK hH (tyb hq_128 (all1 rfl)) (ixb (n := 660) hz_130.2 rfl rfl) dX7_readsRight_177 (fun z_131 ez_131 => ?_)
                  have gz_131 : z_131.toInt = gI G_124 ((78 + 13 * gI B 1 + 1).toNat) := gI_at ez_131 (by omega)
                  have hz_131 : 0 ≤ z_131.toInt ∧ z_131.toInt ≤ 9999 := (by have h9_ := okA.at (i := z_130) hG_124.1 (by omega); rw [show gI G_124 (z_130).toNatClampNeg = z_131.toInt from by unfold gI; rw [ez_131]] at h9_; have h8_ := phi_r1 h9_ (by omega) (by omega); omega)
                  refine tIastX (t := 29) F hK hH hS (List.mem_singleton.mp hq_125) (by decide) rfl (ixb (n := 660) hz_127.2 rfl rfl) dX7_readsRight_178 (fun G_132 eG_132 H locs hH hS => ?_)
                  have hH : TH E (tbM (mD (.inl (t, t)) (.inl (g_108, g_108)) (.inl (g_109, g_109)) (.inl un) (.inl tk) (.inl xt) (.inl (g_110, g_110)) (.inl (g_111, g_111)) (.inl (iw, iw))) nw ws kp as (xD 660 G_132) sc (xB 400 T) ik) H := hH
                  have n0G_132 : gI G_132 0 = gI G_124 0 := gI_ne eG_132 (by omega) (by omega)
                  have n1G_132 : gI G_132 1 = gI G_124 1 := gI_ne eG_132 (by omega) (by omega)
                  have n2G_132 : gI G_132 2 = gI G_124 2 := gI_ne eG_132 (by omega) (by omega)
                  have n6G_132 : gI G_132 6 = gI G_124 6 := gI_ne eG_132 (by omega) (by omega)
                  have n3G_132 : gI G_132 3 = gI G_124 3 := gI_ne eG_132 (by omega) (by omega)
                  have hG_132 : okR G_132 := (okR.stM hG_124 eG_132 (by omega) (by omega) (by omega) (phiI (by omega) (by omega) (by omega) (by omega) (by omega) (by omega) (by omega) (by omega) (by omega) (by omega) (by omega) (by omega) (by omega) (by omega) (by omega) (by omega) (by omega) (by omega)) (by omega))
                  have hBG_132 := (okB hG_132.1).1
                  refine lv_aload_n F.1 F.2.1 dX7_readsRight_179 rfl (lv_at hl 1 rfl) ?_
                  refine tGetR (j := 36) F hK hH (tyb ha0 (all1 rfl)) rfl (all1 rfl) clX7 (by decide) wd_7_5 dX7_readsRight_180 (fun q_133 hq_133 _ => ?_)
                  refine lv_iload_n F.1 F.2.1 dX7_readsRight_183 rfl (lv_at hl 0 rfl) ?_
                  refine lv_bipush (v := 11) F.1 F.2.1 dX7_readsRight_184 (by decide) ?_
                  refine topK (a := 11) (by decide) (fun k_134 hk_134 => ?_)
                  refine tAdd (lo := 89) (hi := 271) F dX7_readsRight_186 hz_17.2 (eqb hk_134) rfl (fun z_135 hz_135 => ?_)
                  refine lv_bipush (v := (-2)) F.1 F.2.1 dX7_readsRight_187 (by decide) ?_
                  refine topK (a := (-2)) (by decide) (fun k_136 hk_136 => ?_)
                  refine tIastX (t := 29) F hK hH hS (List.mem_singleton.mp hq_133) (by decide) rfl (ixb (n := 660) hz_135.2 rfl rfl) dX7_readsRight_189 (fun G_137 eG_137 H locs hH hS => ?_)
                  have hH : TH E (tbM (mD (.inl (t, t)) (.inl (g_108, g_108)) (.inl (g_109, g_109)) (.inl un) (.inl tk) (.inl xt) (.inl (g_110, g_110)) (.inl (g_111, g_111)) (.inl (iw, iw))) nw ws kp as (xD 660 G_137) sc (xB 400 T) ik) H := hH
                  have n0G_137 : gI G_137 0 = gI G_132 0 := gI_ne eG_137 (by omega) (by omega)
                  have n1G_137 : gI G_137 1 = gI G_132 1 := gI_ne eG_137 (by omega) (by omega)
                  have n2G_137 : gI G_137 2 = gI G_132 2 := gI_ne eG_137 (by omega) (by omega)
                  have n6G_137 : gI G_137 6 = gI G_132 6 := gI_ne eG_137 (by omega) (by omega)
                  have n3G_137 : gI G_137 3 = gI G_132 3 := gI_ne eG_137 (by omega) (by omega)
                  have hG_137 : okR G_137 := (okR.stM hG_132 eG_137 (by omega) (by omega) (by omega) (phiI (by omega) (by omega) (by omega) (by omega) (by omega) (by omega) (by omega) (by omega) (by omega) (by omega) (by omega) (by omega) (by omega) (by omega) (by omega) (by omega) (by omega) (by omega)) (by omega))
                  have hBG_137 := (okB hG_137.1).1
                  refine lv_aload_n F.1 F.2.1 dX7_readsRight_190 rfl (lv_at hl 1 rfl) ?_
                  refine tGetR (j := 36) F hK hH (tyb ha0 (all1 rfl)) rfl (all1 rfl) clX7 (by decide) wd_7_5 dX7_readsRight_191 (fun q_138 hq_138 _ => ?_)
                  refine lv_iconst (v := 1) F.1 F.2.1 dX7_readsRight_194 (by decide) ?_
                  refine topK (a := 1) (by decide) (fun k_139 hk_139 => ?_)
                  refine lv_dup2_11 F.1 F.2.1 dX7_readsRight_195 rfl rfl ?_
                  refine tIaldX F hK hH (tyb hq_138 (all1 rfl)) (ixb (n := 660) (eqb hk_139) rfl rfl) dX7_readsRight_196 (fun z_140 ez_140 => ?_)
                  have gz_140 : z_140.toInt = gI G_137 (1) := by unfold gI; rw [ez_140, show (k_139).toNatClampNeg = (1) from by show (k_139).toInt.toNat = _; omega]
                  have hz_140 : 0 ≤ z_140.toInt ∧ z_140.toInt ≤ 14 := (by have h9_ := okA.at (i := k_139) hG_137.1 (by omega); rw [show gI G_137 (k_139).toNatClampNeg = z_140.toInt from by unfold gI; rw [ez_140]] at h9_; have h8_ := phi_1 h9_ (by omega); omega)
                  refine lv_iconst (v := 1) F.1 F.2.1 dX7_readsRight_197 (by decide) ?_
                  refine topK (a := 1) (by decide) (fun k_141 hk_141 => ?_)
                  refine tAdd (lo := 1) (hi := 15) F dX7_readsRight_198 hz_140 (eqb hk_141) rfl (fun z_142 hz_142 => ?_)
                  refine tIastX (t := 29) F hK hH hS (List.mem_singleton.mp hq_138) (by decide) rfl (ixb (n := 660) (eqb hk_139) rfl rfl) dX7_readsRight_199 (fun G_143 eG_143 H locs hH hS => ?_)
                  have hH : TH E (tbM (mD (.inl (t, t)) (.inl (g_108, g_108)) (.inl (g_109, g_109)) (.inl un) (.inl tk) (.inl xt) (.inl (g_110, g_110)) (.inl (g_111, g_111)) (.inl (iw, iw))) nw ws kp as (xD 660 G_143) sc (xB 400 T) ik) H := hH
                  have hG_143 : okR G_143 := (okR.inc hG_137 eG_143 (by omega) (by omega))
                  have hBG_143 := (okB hG_143.1).1
                  refine lv_iconst (v := 1) F.1 F.2.1 dX7_readsRight_200 (by decide) ?_
                  refine topK (a := 1) (by decide) (fun k_144 hk_144 => ?_)
                  exact txI F hS dX7_readsRight_201 (nar01 (wkb (eqb hk_144) rfl rfl)) (⟨g_108, ⟨by omega, by omega, by omega, by omega⟩, g_109, (by omega), g_110, (by omega), g_111, (by omega), G_143, ⟨hG_143, (rgt_of hbg_.1 (q := g_4) hbg_.2 (res_bind (res_bind (res_bind (res_bind (res_bind (res_bind (res_bind hg_25.2.2.2.2.2.2 (by omega) hg_41.2.2.2.2.2.2) (by omega) hg_57.2.2.2.2.2.2) (by omega) (til_k hg_76.2.2.2.2.2.2 rfl)) (by omega) hg_90.2.2.2.2.2.2) (by omega) (vol_n (wr := wr) (v := 1) (updR eG_99 (by omega) (by omega)) f_103 hg_101.2.2.2.2 (by omega) rfl)) (by omega) hg_112.2.2.2.2.2.2) (by omega) (fin_k (updR eG_124 (by omega) rfl) gz_123 (updR eG_132 (by omega) rfl) gz_131 (updR eG_137 (by omega) (by omega)) (updR eG_143 (by omega) (by omega)) (by omega))))⟩, (wkb (eqb hk_144) rfl rfl), hH⟩)
                · skip
                  have r_116 : 0 ≤ z_107.toInt ∧ z_107.toInt ≤ 0 := by have h9_ := f_113; omega
                  refine lv_iconst (v := 0) F.1 F.2.1 dX7_readsRight_143 (by decide) ?_
                  refine topK (a := 0) (by decide) (fun k_145 hk_145 => ?_)
                  exact txI F hS dX7_readsRight_144 (nar01 (wkb (eqb hk_145) rfl rfl)) (⟨g_108, ⟨by omega, by omega, by omega, by omega⟩, g_109, (by omega), g_110, (by omega), g_111, (by omega), g_112, ⟨hg_112.1, (rgt_of hbg_.1 (q := g_4) hbg_.2 (res_fail (v' := k_145.toInt) (x' := (g_108, iw, g_112)) (res_bind (res_bind (res_bind (res_bind (res_bind (res_bind hg_25.2.2.2.2.2.2 (by omega) hg_41.2.2.2.2.2.2) (by omega) hg_57.2.2.2.2.2.2) (by omega) (til_k hg_76.2.2.2.2.2.2 rfl)) (by omega) hg_90.2.2.2.2.2.2) (by omega) (vol_n (wr := wr) (v := 1) (updR eG_99 (by omega) (by omega)) f_103 hg_101.2.2.2.2 (by omega) rfl)) (by omega) hg_112.2.2.2.2.2.2) (by omega) (by omega)))⟩, (wkb (eqb hk_145) rfl rfl), hH⟩)
              · skip
                have r_106 : 1 ≤ z_100.toInt ∧ z_100.toInt ≤ 1 := by have h9_ := f_102; omega
                refine lv_aload_n F.1 F.2.1 dX7_readsRight_119 rfl (lv_at hl 1 rfl) ?_
                refine lv_iload_n F.1 F.2.1 dX7_readsRight_120 rfl (lv_at hl 0 rfl) ?_
                refine lv_iconst (v := 5) F.1 F.2.1 dX7_readsRight_121 (by decide) ?_
                refine topK (a := 5) (by decide) (fun k_146 hk_146 => ?_)
                refine tAdd (lo := 83) (hi := 265) F dX7_readsRight_122 hz_17.2 (eqb hk_146) rfl (fun z_147 hz_147 => ?_)
                refine lv_iconst (v := 1) F.1 F.2.1 dX7_readsRight_123 (by decide) ?_
                refine topK (a := 1) (by decide) (fun k_148 hk_148 => ?_)
                refine lv_ldcw (own := RX7) (v := 999999) F.1 F.2.1 F.2.2.2.2.1 (F.2.2.2.2.2.2.1 _ wd_18_7) dX7_readsRight_124 ?_
                refine topK (a := 999999) (by decide) (fun k_149 hk_149 => ?_)
                refine tVi (b := a0) (As := [.int z_147, .int k_148, .int k_149]) (rest := []) F hK hN hO (c_X7_readsTo E nw ws kp as sc ik un tk xt t g_101 g_88 g_87 g_89 iw G_99 T (78 + 13 * gI B 1 + 5) 1 999999 a0 z_147 k_148 k_149 ha0 (by omega) (by omega) (by omega) (by omega) (by omega) (by omega) hG_99 hT (by omega) (by omega) (by intro y_ h1_ h2_; exact (phiI (by omega) (by omega) (by omega) (by omega) (by omega) (by omega) (by omega) (by omega) (by omega) (by omega) (by omega) (by omega) (by omega) (by omega) (by omega) (by omega) (by omega) (by omega))) (by omega) (by omega) (by omega) (by omega)) mv_X7_readsTo wd_17_14 ⟨Nat.le_of_ble_eq_true rfl, Nat.le_of_ble_eq_true rfl⟩ ⟨Nat.le_of_ble_eq_true rfl, Nat.le_of_ble_eq_true rfl⟩ hH hS (tRecv hK hH (tyb ha0 (all1 rfl)) clX7) rfl hl.1 (Nat.le_of_ble_eq_true rfl) dX7_readsRight_127 (fun z_150 H locs hq hS => ?_)
                obtain ⟨g_151, hg_151, g_152, hg_152, g_153, hg_153, g_154, hg_154, g_155, hg_155, f_156, f_157, hH⟩ := hq
                clear f_157
                have hH : TH E (tbM (mD (.inl (t, t)) (.inl (g_151, g_151)) (.inl (g_152, g_152)) (.inl un) (.inl tk) (.inl xt) (.inl (g_153, g_153)) (.inl (g_154, g_154)) (.inl (iw, iw))) nw ws kp as (xD 660 g_155) sc (xB 400 T) ik) H := hH
                have hBg_155 := (okB hg_155.1.1).1
                refine z_ne (tgt := 135) F dX7_readsRight_130 (by decide) (fun c_158 => ?_) (fun c_158 => ?_)
                · skip
                  have r_159 : 1 ≤ z_150.toInt ∧ z_150.toInt ≤ 1 := by have h9_ := f_156; omega
                  refine lv_aload_n F.1 F.2.1 dX7_readsRight_135 rfl (lv_at hl 1 rfl) ?_
                  refine lv_iload_n F.1 F.2.1 dX7_readsRight_136 rfl (lv_at hl 0 rfl) ?_
                  refine tVi (b := a0) (As := [.int z_17]) (rest := []) F hK hN hO (c_X7_readsBack E nw ws kp as sc ik un tk xt t g_151 g_153 g_152 g_154 iw g_155 T (78 + 13 * gI B 1) a0 z_17 ha0 (by omega) (by omega) (by omega) (by omega) (by omega) (by omega) (by omega) hg_155.1 hT (by omega) (by omega) (by omega)) mv_X7_readsBack wd_18_16 ⟨Nat.le_of_ble_eq_true rfl, Nat.le_of_ble_eq_true rfl⟩ ⟨Nat.le_of_ble_eq_true rfl, Nat.le_of_ble_eq_true rfl⟩ hH hS (tRecv hK hH (tyb ha0 (all1 rfl)) clX7) rfl hl.1 (Nat.le_of_ble_eq_true rfl) dX7_readsRight_137 (fun z_161 H locs hq hS => ?_)
                  obtain ⟨g_162, hg_162, g_163, hg_163, g_164, hg_164, g_165, hg_165, g_166, hg_166, f_167, hH⟩ := hq
                  have hH : TH E (tbM (mD (.inl (t, t)) (.inl (g_162, g_162)) (.inl (g_163, g_163)) (.inl un) (.inl tk) (.inl xt) (.inl (g_164, g_164)) (.inl (g_165, g_165)) (.inl (iw, iw))) nw ws kp as (xD 660 g_166) sc (xB 400 T) ik) H := hH
                  have hBg_166 := (okB hg_166.1.1).1
                  refine z_ne (tgt := 145) F dX7_readsRight_140 (by decide) (fun c_168 => ?_) (fun c_168 => ?_)
                  · skip
                    have r_169 : 1 ≤ z_161.toInt ∧ z_161.toInt ≤ 1 := by have h9_ := f_167; omega
                    refine lv_aload_n F.1 F.2.1 dX7_readsRight_145 rfl (lv_at hl 1 rfl) ?_
                    refine tGetR (j := 36) F hK hH (tyb ha0 (all1 rfl)) rfl (all1 rfl) clX7 (by decide) wd_7_5 dX7_readsRight_146 (fun q_171 hq_171 _ => ?_)
                    refine lv_iload_n F.1 F.2.1 dX7_readsRight_149 rfl (lv_at hl 0 rfl) ?_
                    refine lv_bipush (v := 6) F.1 F.2.1 dX7_readsRight_150 (by decide) ?_
                    refine topK (a := 6) (by decide) (fun k_172 hk_172 => ?_)
                    refine tAdd (lo := 84) (hi := 266) F dX7_readsRight_152 hz_17.2 (eqb hk_172) rfl (fun z_173 hz_173 => ?_)
                    refine lv_aload_n F.1 F.2.1 dX7_readsRight_153 rfl (lv_at hl 1 rfl) ?_
                    refine tGetR (j := 36) F hK hH (tyb ha0 (all1 rfl)) rfl (all1 rfl) clX7 (by decide) wd_7_5 dX7_readsRight_154 (fun q_174 hq_174 _ => ?_)
                    refine lv_iload_n F.1 F.2.1 dX7_readsRight_157 rfl (lv_at hl 0 rfl) ?_
                    refine lv_iconst (v := 5) F.1 F.2.1 dX7_readsRight_158 (by decide) ?_
                    refine topK (a := 5) (by decide) (fun k_175 hk_175 => ?_)
                    refine tAdd (lo := 83) (hi := 265) F dX7_readsRight_159 hz_17.2 (eqb hk_175) rfl (fun z_176 hz_176 => ?_)
                    refine tIaldX F hK hH (tyb hq_174 (all1 rfl)) (ixb (n := 660) hz_176.2 rfl rfl) dX7_readsRight_160 (fun z_177 ez_177 => ?_)
                    have gz_177 : z_177.toInt = gI g_166 ((78 + 13 * gI B 1 + 5).toNat) := gI_at ez_177 (by omega)
                    have hz_177 : (-2) ≤ z_177.toInt ∧ z_177.toInt ≤ 999999 := (by have h9_ := okA.at (i := z_176) hg_166.1.1 (by omega); rw [show gI g_166 (z_176).toNatClampNeg = z_177.toInt from by unfold gI; rw [ez_177]] at h9_; have h8_ := phi_r5 h9_ (by omega) (by omega); omega)
                    refine tIastX (t := 29) F hK hH hS (List.mem_singleton.mp hq_171) (by decide) rfl (ixb (n := 660) hz_173.2 rfl rfl) dX7_readsRight_161 (fun G_178 eG_178 H locs hH hS => ?_)
                    have hH : TH E (tbM (mD (.inl (t, t)) (.inl (g_162, g_162)) (.inl (g_163, g_163)) (.inl un) (.inl tk) (.inl xt) (.inl (g_164, g_164)) (.inl (g_165, g_165)) (.inl (iw, iw))) nw ws kp as (xD 660 G_178) sc (xB 400 T) ik) H := hH
                    have n0G_178 : gI G_178 0 = gI g_166 0 := gI_ne eG_178 (by omega) (by omega)
                    have n1G_178 : gI G_178 1 = gI g_166 1 := gI_ne eG_178 (by omega) (by omega)
                    have n2G_178 : gI G_178 2 = gI g_166 2 := gI_ne eG_178 (by omega) (by omega)
                    have n6G_178 : gI G_178 6 = gI g_166 6 := gI_ne eG_178 (by omega) (by omega)
                    have n3G_178 : gI G_178 3 = gI g_166 3 := gI_ne eG_178 (by omega) (by omega)
                    have hG_178 : okR G_178 := (okR.stL hg_166.1 eG_178 (by omega) (by omega) (by omega))
                    have hBG_178 := (okB hG_178.1).1
                    refine lv_aload_n F.1 F.2.1 dX7_readsRight_162 rfl (lv_at hl 1 rfl) ?_
                    refine tGetR (j := 36) F hK hH (tyb ha0 (all1 rfl)) rfl (all1 rfl) clX7 (by decide) wd_7_5 dX7_readsRight_163 (fun q_179 hq_179 _ => ?_)
                    refine lv_iload_n F.1 F.2.1 dX7_readsRight_166 rfl (lv_at hl 0 rfl) ?_
                    refine lv_bipush (v := 10) F.1 F.2.1 dX7_readsRight_167 (by decide) ?_
                    refine topK (a := 10) (by decide) (fun k_180 hk_180 => ?_)
                    refine tAdd (lo := 88) (hi := 270) F dX7_readsRight_169 hz_17.2 (eqb hk_180) rfl (fun z_181 hz_181 => ?_)
                    refine lv_aload_n F.1 F.2.1 dX7_readsRight_170 rfl (lv_at hl 1 rfl) ?_
                    refine tGetR (j := 36) F hK hH (tyb ha0 (all1 rfl)) rfl (all1 rfl) clX7 (by decide) wd_7_5 dX7_readsRight_171 (fun q_182 hq_182 _ => ?_)
                    refine lv_iload_n F.1 F.2.1 dX7_readsRight_174 rfl (lv_at hl 0 rfl) ?_
                    refine lv_iconst (v := 1) F.1 F.2.1 dX7_readsRight_175 (by decide) ?_
                    refine topK (a := 1) (by decide) (fun k_183 hk_183 => ?_)
                    refine tAdd (lo := 79) (hi := 261) F dX7_readsRight_176 hz_17.2 (eqb hk_183) rfl (fun z_184 hz_184 => ?_)
                    refine tIaldX F hK hH (tyb hq_182 (all1 rfl)) (ixb (n := 660) hz_184.2 rfl rfl) dX7_readsRight_177 (fun z_185 ez_185 => ?_)
                    have gz_185 : z_185.toInt = gI G_178 ((78 + 13 * gI B 1 + 1).toNat) := gI_at ez_185 (by omega)
                    have hz_185 : 0 ≤ z_185.toInt ∧ z_185.toInt ≤ 9999 := (by have h9_ := okA.at (i := z_184) hG_178.1 (by omega); rw [show gI G_178 (z_184).toNatClampNeg = z_185.toInt from by unfold gI; rw [ez_185]] at h9_; have h8_ := phi_r1 h9_ (by omega) (by omega); omega)
                    refine tIastX (t := 29) F hK hH hS (List.mem_singleton.mp hq_179) (by decide) rfl (ixb (n := 660) hz_181.2 rfl rfl) dX7_readsRight_178 (fun G_186 eG_186 H locs hH hS => ?_)
                    have hH : TH E (tbM (mD (.inl (t, t)) (.inl (g_162, g_162)) (.inl (g_163, g_163)) (.inl un) (.inl tk) (.inl xt) (.inl (g_164, g_164)) (.inl (g_165, g_165)) (.inl (iw, iw))) nw ws kp as (xD 660 G_186) sc (xB 400 T) ik) H := hH
                    have n0G_186 : gI G_186 0 = gI G_178 0 := gI_ne eG_186 (by omega) (by omega)
                    have n1G_186 : gI G_186 1 = gI G_178 1 := gI_ne eG_186 (by omega) (by omega)
                    have n2G_186 : gI G_186 2 = gI G_178 2 := gI_ne eG_186 (by omega) (by omega)
                    have n6G_186 : gI G_186 6 = gI G_178 6 := gI_ne eG_186 (by omega) (by omega)
                    have n3G_186 : gI G_186 3 = gI G_178 3 := gI_ne eG_186 (by omega) (by omega)
                    have hG_186 : okR G_186 := (okR.stM hG_178 eG_186 (by omega) (by omega) (by omega) (phiI (by omega) (by omega) (by omega) (by omega) (by omega) (by omega) (by omega) (by omega) (by omega) (by omega) (by omega) (by omega) (by omega) (by omega) (by omega) (by omega) (by omega) (by omega)) (by omega))
                    have hBG_186 := (okB hG_186.1).1
                    refine lv_aload_n F.1 F.2.1 dX7_readsRight_179 rfl (lv_at hl 1 rfl) ?_
                    refine tGetR (j := 36) F hK hH (tyb ha0 (all1 rfl)) rfl (all1 rfl) clX7 (by decide) wd_7_5 dX7_readsRight_180 (fun q_187 hq_187 _ => ?_)
                    refine lv_iload_n F.1 F.2.1 dX7_readsRight_183 rfl (lv_at hl 0 rfl) ?_
                    refine lv_bipush (v := 11) F.1 F.2.1 dX7_readsRight_184 (by decide) ?_
                    refine topK (a := 11) (by decide) (fun k_188 hk_188 => ?_)
                    refine tAdd (lo := 89) (hi := 271) F dX7_readsRight_186 hz_17.2 (eqb hk_188) rfl (fun z_189 hz_189 => ?_)
                    refine lv_bipush (v := (-2)) F.1 F.2.1 dX7_readsRight_187 (by decide) ?_
                    refine topK (a := (-2)) (by decide) (fun k_190 hk_190 => ?_)
                    refine tIastX (t := 29) F hK hH hS (List.mem_singleton.mp hq_187) (by decide) rfl (ixb (n := 660) hz_189.2 rfl rfl) dX7_readsRight_189 (fun G_191 eG_191 H locs hH hS => ?_)
                    have hH : TH E (tbM (mD (.inl (t, t)) (.inl (g_162, g_162)) (.inl (g_163, g_163)) (.inl un) (.inl tk) (.inl xt) (.inl (g_164, g_164)) (.inl (g_165, g_165)) (.inl (iw, iw))) nw ws kp as (xD 660 G_191) sc (xB 400 T) ik) H := hH
                    have n0G_191 : gI G_191 0 = gI G_186 0 := gI_ne eG_191 (by omega) (by omega)
                    have n1G_191 : gI G_191 1 = gI G_186 1 := gI_ne eG_191 (by omega) (by omega)
                    have n2G_191 : gI G_191 2 = gI G_186 2 := gI_ne eG_191 (by omega) (by omega)
                    have n6G_191 : gI G_191 6 = gI G_186 6 := gI_ne eG_191 (by omega) (by omega)
                    have n3G_191 : gI G_191 3 = gI G_186 3 := gI_ne eG_191 (by omega) (by omega)
                    have hG_191 : okR G_191 := (okR.stM hG_186 eG_191 (by omega) (by omega) (by omega) (phiI (by omega) (by omega) (by omega) (by omega) (by omega) (by omega) (by omega) (by omega) (by omega) (by omega) (by omega) (by omega) (by omega) (by omega) (by omega) (by omega) (by omega) (by omega)) (by omega))
                    have hBG_191 := (okB hG_191.1).1
                    refine lv_aload_n F.1 F.2.1 dX7_readsRight_190 rfl (lv_at hl 1 rfl) ?_
                    refine tGetR (j := 36) F hK hH (tyb ha0 (all1 rfl)) rfl (all1 rfl) clX7 (by decide) wd_7_5 dX7_readsRight_191 (fun q_192 hq_192 _ => ?_)
                    refine lv_iconst (v := 1) F.1 F.2.1 dX7_readsRight_194 (by decide) ?_
                    refine topK (a := 1) (by decide) (fun k_193 hk_193 => ?_)
                    refine lv_dup2_11 F.1 F.2.1 dX7_readsRight_195 rfl rfl ?_
                    refine tIaldX F hK hH (tyb hq_192 (all1 rfl)) (ixb (n := 660) (eqb hk_193) rfl rfl) dX7_readsRight_196 (fun z_194 ez_194 => ?_)
                    have gz_194 : z_194.toInt = gI G_191 (1) := by unfold gI; rw [ez_194, show (k_193).toNatClampNeg = (1) from by show (k_193).toInt.toNat = _; omega]
                    have hz_194 : 0 ≤ z_194.toInt ∧ z_194.toInt ≤ 14 := (by have h9_ := okA.at (i := k_193) hG_191.1 (by omega); rw [show gI G_191 (k_193).toNatClampNeg = z_194.toInt from by unfold gI; rw [ez_194]] at h9_; have h8_ := phi_1 h9_ (by omega); omega)
                    refine lv_iconst (v := 1) F.1 F.2.1 dX7_readsRight_197 (by decide) ?_
                    refine topK (a := 1) (by decide) (fun k_195 hk_195 => ?_)
                    refine tAdd (lo := 1) (hi := 15) F dX7_readsRight_198 hz_194 (eqb hk_195) rfl (fun z_196 hz_196 => ?_)
                    refine tIastX (t := 29) F hK hH hS (List.mem_singleton.mp hq_192) (by decide) rfl (ixb (n := 660) (eqb hk_193) rfl rfl) dX7_readsRight_199 (fun G_197 eG_197 H locs hH hS => ?_)
                    have hH : TH E (tbM (mD (.inl (t, t)) (.inl (g_162, g_162)) (.inl (g_163, g_163)) (.inl un) (.inl tk) (.inl xt) (.inl (g_164, g_164)) (.inl (g_165, g_165)) (.inl (iw, iw))) nw ws kp as (xD 660 G_197) sc (xB 400 T) ik) H := hH
                    have hG_197 : okR G_197 := (okR.inc hG_191 eG_197 (by omega) (by omega))
                    have hBG_197 := (okB hG_197.1).1
                    refine lv_iconst (v := 1) F.1 F.2.1 dX7_readsRight_200 (by decide) ?_
                    refine topK (a := 1) (by decide) (fun k_198 hk_198 => ?_)
                    exact txI F hS dX7_readsRight_201 (nar01 (wkb (eqb hk_198) rfl rfl)) (⟨g_162, ⟨by omega, by omega, by omega, by omega⟩, g_163, (by omega), g_164, (by omega), g_165, (by omega), G_197, ⟨hG_197, (rgt_of hbg_.1 (q := g_4) hbg_.2 (res_bind (res_bind (res_bind (res_bind (res_bind (res_bind (res_bind hg_25.2.2.2.2.2.2 (by omega) hg_41.2.2.2.2.2.2) (by omega) hg_57.2.2.2.2.2.2) (by omega) (til_k hg_76.2.2.2.2.2.2 rfl)) (by omega) hg_90.2.2.2.2.2.2) (by omega) (vol_y (updR eG_99 (by omega) (by omega)) f_103 hg_101.2.2.2.2 hg_155.2.2.2.2.2.2 (by omega))) (by omega) hg_166.2.2.2.2.2.2) (by omega) (fin_k (updR eG_178 (by omega) rfl) gz_177 (updR eG_186 (by omega) rfl) gz_185 (updR eG_191 (by omega) (by omega)) (updR eG_197 (by omega) (by omega)) (by omega))))⟩, (wkb (eqb hk_198) rfl rfl), hH⟩)
                  · skip
                    have r_170 : 0 ≤ z_161.toInt ∧ z_161.toInt ≤ 0 := by have h9_ := f_167; omega
                    refine lv_iconst (v := 0) F.1 F.2.1 dX7_readsRight_143 (by decide) ?_
                    refine topK (a := 0) (by decide) (fun k_199 hk_199 => ?_)
                    exact txI F hS dX7_readsRight_144 (nar01 (wkb (eqb hk_199) rfl rfl)) (⟨g_162, ⟨by omega, by omega, by omega, by omega⟩, g_163, (by omega), g_164, (by omega), g_165, (by omega), g_166, ⟨hg_166.1, (rgt_of hbg_.1 (q := g_4) hbg_.2 (res_fail (v' := k_199.toInt) (x' := (g_162, iw, g_166)) (res_bind (res_bind (res_bind (res_bind (res_bind (res_bind hg_25.2.2.2.2.2.2 (by omega) hg_41.2.2.2.2.2.2) (by omega) hg_57.2.2.2.2.2.2) (by omega) (til_k hg_76.2.2.2.2.2.2 rfl)) (by omega) hg_90.2.2.2.2.2.2) (by omega) (vol_y (updR eG_99 (by omega) (by omega)) f_103 hg_101.2.2.2.2 hg_155.2.2.2.2.2.2 (by omega))) (by omega) hg_166.2.2.2.2.2.2) (by omega) (by omega)))⟩, (wkb (eqb hk_199) rfl rfl), hH⟩)
                · skip
                  have r_160 : 0 ≤ z_150.toInt ∧ z_150.toInt ≤ 0 := by have h9_ := f_156; omega
                  refine lv_iconst (v := 0) F.1 F.2.1 dX7_readsRight_133 (by decide) ?_
                  refine topK (a := 0) (by decide) (fun k_200 hk_200 => ?_)
                  exact txI F hS dX7_readsRight_134 (nar01 (wkb (eqb hk_200) rfl rfl)) (⟨g_151, ⟨by omega, by omega, by omega, by omega⟩, g_152, (by omega), g_153, (by omega), g_154, (by omega), g_155, ⟨hg_155.1, (rgt_of hbg_.1 (q := g_4) hbg_.2 (res_fail (v' := k_200.toInt) (x' := (g_151, iw, g_155)) (res_fail (v' := k_200.toInt) (x' := (g_151, iw, g_155)) (res_bind (res_bind (res_bind (res_bind (res_bind hg_25.2.2.2.2.2.2 (by omega) hg_41.2.2.2.2.2.2) (by omega) hg_57.2.2.2.2.2.2) (by omega) (til_k hg_76.2.2.2.2.2.2 rfl)) (by omega) hg_90.2.2.2.2.2.2) (by omega) (vol_y (updR eG_99 (by omega) (by omega)) f_103 hg_101.2.2.2.2 hg_155.2.2.2.2.2.2 (by omega))) (by omega) (by omega)) (by omega) (by omega)))⟩, (wkb (eqb hk_200) rfl rfl), hH⟩)
            · skip
              have r_94 : 0 ≤ z_85.toInt ∧ z_85.toInt ≤ 0 := by have h9_ := f_91; omega
              refine lv_iconst (v := 0) F.1 F.2.1 dX7_readsRight_97 (by decide) ?_
              refine topK (a := 0) (by decide) (fun k_201 hk_201 => ?_)
              exact txI F hS dX7_readsRight_98 (nar01 (wkb (eqb hk_201) rfl rfl)) (⟨g_86, ⟨by omega, by omega, by omega, by omega⟩, g_87, (by omega), g_88, (by omega), g_89, (by omega), g_90, ⟨hg_90.1, (rgt_of hbg_.1 (q := g_4) hbg_.2 (res_fail (v' := k_201.toInt) (x' := (g_86, iw, g_90)) (res_fail (v' := k_201.toInt) (x' := (g_86, iw, g_90)) (res_fail (v' := k_201.toInt) (x' := (g_86, iw, g_90)) (res_bind (res_bind (res_bind (res_bind hg_25.2.2.2.2.2.2 (by omega) hg_41.2.2.2.2.2.2) (by omega) hg_57.2.2.2.2.2.2) (by omega) (til_k hg_76.2.2.2.2.2.2 rfl)) (by omega) hg_90.2.2.2.2.2.2) (by omega) (by omega)) (by omega) (by omega)) (by omega) (by omega)))⟩, (wkb (eqb hk_201) rfl rfl), hH⟩)
  · skip
    have r_10 : 0 ≤ z_3.toInt ∧ z_3.toInt ≤ 0 := by have h9_ := f_6; omega
    refine lv_iconst (v := 0) F.1 F.2.1 dX7_readsRight_13 (by decide) ?_
    refine topK (a := 0) (by decide) (fun k_202 hk_202 => ?_)
    exact txI F hS dX7_readsRight_14 (nar01 (wkb (eqb hk_202) rfl rfl)) (⟨g_4, ⟨by omega, by omega, by omega, by omega⟩, nu, (by omega), g_5, (by omega), na, (by omega), B, ⟨hB, (rgt_a (by omega) (by omega) (by omega))⟩, (wkb (eqb hk_202) rfl rfl), hH⟩)
set_option maxHeartbeats 4000000 in
set_option maxRecDepth 100000 in
theorem c_X7_readsStore (E : Ev) (nw : TD) (ws : TD) (kp : TD) (as : TD) (sc : TD) (ik : TD) (un : Int × Int) (tk : Int × Int) (xt : Int × Int) (t : Int) (p : Int) (wr : Int) (nu : Int) (na : Int) (iw : Int) (B : Nat → Int32) (T : Nat → Int32) (a0 : Nat) (ha0 : eT E a0 ∈ [24]) (ht : 0 ≤ t ∧ t ≤ 400) (hp : 0 ≤ p ∧ p ≤ 400) (hwr : 0 ≤ wr ∧ wr ≤ 4000) (hnu : (-2147483648) ≤ nu ∧ nu ≤ 2147483647) (hna : (-2147483648) ≤ na ∧ na ≤ 2147483647) (hiw : 0 ≤ iw ∧ iw ≤ 1) (hB : okR B) (hT : ivP 400 (-128) 127 T) (hpt : p ≤ t) (hp5 : p + 5 ≤ t) : TcI E yX7_readsStore cX7_readsStore 2 .boolean ({ frames := 9, cells := 0, slots := 0, locals := 269 }) [.ref a0] (fun H => TH E (tbM (mD (.inl (t, t)) (.inl (p, p)) (.inl (nu, nu)) (.inl un) (.inl tk) (.inl xt) (.inl (wr, wr)) (.inl (na, na)) (.inl (iw, iw))) nw ws kp as (xD 660 B) sc (xB 400 T) ik) H) (fun v H => ∃ p2 : Int, (0 ≤ p2 ∧ p2 ≤ 400 ∧ p ≤ p2 ∧ p2 ≤ t) ∧ ∃ nu2 : Int, ((-2147483648) ≤ nu2 ∧ nu2 ≤ 2147483647) ∧ ∃ wr2 : Int, (0 ≤ wr2 ∧ wr2 ≤ 4000) ∧ ∃ na2 : Int, ((-2147483648) ≤ na2 ∧ na2 ≤ 2147483647) ∧ ∃ B2 : Nat → Int32, (okR B2 ∧ mRes v.toInt wr2 (p2, iw, B2) (mStore T t (p, iw, B))) ∧ (0 ≤ v.toInt ∧ v.toInt ≤ 1) ∧ TH E (tbM (mD (.inl (t, t)) (.inl (p2, p2)) (.inl (nu2, nu2)) (.inl un) (.inl tk) (.inl xt) (.inl (wr2, wr2)) (.inl (na2, na2)) (.inl (iw, iw))) nw ws kp as (xD 660 B2) sc (xB 400 T) ik) H) := by
  refine teI (by decide) (Nat.le_of_ble_eq_true rfl) ?_
  intro p_ ev_ s mi_ below_ meth cd_ ls F hK hN hO hH hS hl
  have hH : TH E (tbM (mD (.inl (t, t)) (.inl (p, p)) (.inl (nu, nu)) (.inl un) (.inl tk) (.inl xt) (.inl (wr, wr)) (.inl (na, na)) (.inl (iw, iw))) nw ws kp as (xD 660 B) sc (xB 400 T) ik) s.heap := hH
  have hl : lv_has ls 2 [(0, .ref a0)] := hl
  have hBB := (okB hB.1).1
  have hOB := (okB hB.1).2
  refine lv_aload_n F.1 F.2.1 dX7_readsStore_0 rfl (lv_at hl 0 rfl) ?_
  refine ldcwS F.1 F.2.1 F.2.2.2.2.1 (hO.1 25 _ rfl).1 dX7_readsStore_1 ?_
  refine lv_iconst (v := 2) F.1 F.2.1 dX7_readsStore_4 (by decide) ?_
  refine topK (a := 2) (by decide) (fun k_1 hk_1 => ?_)
  refine lv_iconst (v := 4) F.1 F.2.1 dX7_readsStore_5 (by decide) ?_
  refine topK (a := 4) (by decide) (fun k_2 hk_2 => ?_)
  refine tVi (b := a0) (As := [.ref (eX E 25), .int k_1, .int k_2]) (rest := []) F hK hN hO (c_X7_begins_2 E nw ws kp as sc ik un tk xt t p wr nu na iw B T a0 25 5 k_1 k_2 ha0 (strAt 25 rfl) (eqb hk_1) (eqb hk_2) (by omega) (by omega) (by omega) (by omega) (by omega) (by omega) hB hT (by omega) (by omega)) mv_X7_begins wd_16_22 ⟨Nat.le_of_ble_eq_true rfl, Nat.le_of_ble_eq_true rfl⟩ ⟨Nat.le_of_ble_eq_true rfl, Nat.le_of_ble_eq_true rfl⟩ hH hS (tRecv hK hH (tyb ha0 (all1 rfl)) clX7) rfl hl.1 (Nat.le_of_ble_eq_true rfl) dX7_readsStore_6 (fun z_3 H locs hq hS => ?_)
  obtain ⟨g_4, hg_4, g_5, hg_5, f_6, f_7, hH⟩ := hq
  have hH : TH E (tbM (mD (.inl (t, t)) (.inl (g_4, g_4)) (.inl (nu, nu)) (.inl un) (.inl tk) (.inl xt) (.inl (g_5, g_5)) (.inl (na, na)) (.inl (iw, iw))) nw ws kp as (xD 660 B) sc (xB 400 T) ik) H := hH
  refine z_ne (tgt := 14) F dX7_readsStore_9 (by decide) (fun c_8 => ?_) (fun c_8 => ?_)
  · skip
    have r_9 : 1 ≤ z_3.toInt ∧ z_3.toInt ≤ 1 := by have h9_ := f_6; omega
    have hbg_ : gI B 2 ≠ 4 ∧ g_4 = p + 5 := by omega
    clear f_7
    refine lv_sipush (v := 260) F.1 F.2.1 dX7_readsStore_14 (by decide) ?_
    refine topK (a := 260) (by decide) (fun k_11 hk_11 => ?_)
    refine lv_bipush (v := 7) F.1 F.2.1 dX7_readsStore_17 (by decide) ?_
    refine topK (a := 7) (by decide) (fun k_12 hk_12 => ?_)
    refine lv_aload_n F.1 F.2.1 dX7_readsStore_19 rfl (lv_at hl 0 rfl) ?_
    refine tGetR (j := 36) F hK hH (tyb ha0 (all1 rfl)) rfl (all1 rfl) clX7 (by decide) wd_7_5 dX7_readsStore_20 (fun q_13 hq_13 _ => ?_)
    refine lv_iconst (v := 2) F.1 F.2.1 dX7_readsStore_23 (by decide) ?_
    refine topK (a := 2) (by decide) (fun k_14 hk_14 => ?_)
    refine tIaldX F hK hH (tyb hq_13 (all1 rfl)) (ixb (n := 660) (eqb hk_14) rfl rfl) dX7_readsStore_24 (fun z_15 ez_15 => ?_)
    have gz_15 : z_15.toInt = gI B (2) := by unfold gI; rw [ez_15, show (k_14).toNatClampNeg = (2) from by show (k_14).toInt.toNat = _; omega]
    have hz_15 : 0 ≤ z_15.toInt ∧ z_15.toInt ≤ 4 := (by have h9_ := okA.at (i := k_14) hB.1 (by omega); rw [show gI B (k_14).toNatClampNeg = z_15.toInt from by unfold gI; rw [ez_15]] at h9_; have h8_ := phi_2 h9_ (by omega); omega)
    refine tMul (lo := 0) (hi := 28) F dX7_readsStore_25 (eqb hk_12) hz_15 rfl (fun z_16 hz_16 => ?_)
    have mz_16 : z_16.toInt = 7 * z_15.toInt := by rw [hz_16.1, hk_12]
    refine tAdd (lo := 260) (hi := 288) F dX7_readsStore_26 (eqb hk_11) hz_16.2 rfl (fun z_17 hz_17 => ?_)
    refine lv_istore_n (lv' := [(1, .int z_17), (0, .ref a0)]) F.1 F.2.1 dX7_readsStore_27 rfl hl (by decide) rfl (fun ls hl => ?_)
    refine lv_aload_n F.1 F.2.1 dX7_readsStore_28 rfl (lv_at hl 1 rfl) ?_
    refine lv_iload_n F.1 F.2.1 dX7_readsStore_29 rfl (lv_at hl 0 rfl) ?_
    refine lv_iconst (v := 0) F.1 F.2.1 dX7_readsStore_30 (by decide) ?_
    refine topK (a := 0) (by decide) (fun k_18 hk_18 => ?_)
    refine tAdd (lo := 260) (hi := 288) F dX7_readsStore_31 hz_17.2 (eqb hk_18) rfl (fun z_19 hz_19 => ?_)
    refine tVi (b := a0) (As := [.int z_19]) (rest := []) F hK hN hO (c_X7_readsReachOf E nw ws kp as sc ik un tk xt t g_4 g_5 nu na iw B T (260 + 7 * gI B 2) (gI B 0) a0 z_19 ha0 (by omega) (by omega) (by omega) (by omega) (by omega) (by omega) hB hT (by omega) (by omega) (by intro y_ h1_ h2_; exact (phiI (by omega) (by omega) (by omega) (by omega) (by omega) (by omega) (by omega) (by omega) (by omega) (by omega) (by omega) (by omega) (by omega) (by omega) (by omega) (by omega) (by omega) (by omega))) (by omega) (by omega) (by omega)) mv_X7_readsReachOf wd_17_10 ⟨Nat.le_of_ble_eq_true rfl, Nat.le_of_ble_eq_true rfl⟩ ⟨Nat.le_of_ble_eq_true rfl, Nat.le_of_ble_eq_true rfl⟩ hH hS (tRecv hK hH (tyb ha0 (all1 rfl)) clX7) rfl hl.1 (Nat.le_of_ble_eq_true rfl) dX7_readsStore_32 (fun z_20 H locs hq hS => ?_)
    obtain ⟨g_21, hg_21, g_22, hg_22, g_23, hg_23, g_24, hg_24, g_25, hg_25, f_26, f_27, hH⟩ := hq
    have hH : TH E (tbM (mD (.inl (t, t)) (.inl (g_21, g_21)) (.inl (g_22, g_22)) (.inl un) (.inl tk) (.inl xt) (.inl (g_23, g_23)) (.inl (g_24, g_24)) (.inl (iw, iw))) nw ws kp as (xD 660 g_25) sc (xB 400 T) ik) H := hH
    have hBg_25 := (okB hg_25.1.1).1
    refine z_eq (tgt := 76) F dX7_readsStore_35 (by decide) (fun c_28 => ?_) (fun c_28 => ?_)
    · skip
      have r_29 : 0 ≤ z_20.toInt ∧ z_20.toInt ≤ 0 := by have h9_ := f_26; omega
      refine lv_iconst (v := 0) F.1 F.2.1 dX7_readsStore_76 (by decide) ?_
      refine topK (a := 0) (by decide) (fun k_31 hk_31 => ?_)
      exact txI F hS dX7_readsStore_77 (nar01 (wkb (eqb hk_31) rfl rfl)) (⟨g_21, ⟨by omega, by omega, by omega, by omega⟩, g_22, (by omega), g_23, (by omega), g_24, (by omega), g_25, ⟨hg_25.1, (sto_of hbg_.1 (q := g_4) hbg_.2 (res_fail (v' := k_31.toInt) (x' := (g_21, iw, g_25)) (res_fail (v' := k_31.toInt) (x' := (g_21, iw, g_25)) (res_fail (v' := k_31.toInt) (x' := (g_21, iw, g_25)) (res_fail (v' := k_31.toInt) (x' := (g_21, iw, g_25)) hg_25.2.2.2.2.2.2 (by omega) (by omega)) (by omega) (by omega)) (by omega) (by omega)) (by omega) (by omega)))⟩, (wkb (eqb hk_31) rfl rfl), hH⟩)
    · skip
      have r_30 : 1 ≤ z_20.toInt ∧ z_20.toInt ≤ 1 := by have h9_ := f_26; omega
      have h0_ := f_27 (by omega)
      clear f_27
      have h6_ : gI B 6 = -1 := by omega
      clear hOB
      refine lv_aload_n F.1 F.2.1 dX7_readsStore_38 rfl (lv_at hl 1 rfl) ?_
      refine lv_iload_n F.1 F.2.1 dX7_readsStore_39 rfl (lv_at hl 0 rfl) ?_
      refine lv_iconst (v := 1) F.1 F.2.1 dX7_readsStore_40 (by decide) ?_
      refine topK (a := 1) (by decide) (fun k_32 hk_32 => ?_)
      refine tAdd (lo := 261) (hi := 289) F dX7_readsStore_41 hz_17.2 (eqb hk_32) rfl (fun z_33 hz_33 => ?_)
      refine lv_iconst (v := 1) F.1 F.2.1 dX7_readsStore_42 (by decide) ?_
      refine topK (a := 1) (by decide) (fun k_34 hk_34 => ?_)
      refine lv_ldcw (own := RX7) (v := 999999) F.1 F.2.1 F.2.2.2.2.1 (F.2.2.2.2.2.2.1 _ wd_18_7) dX7_readsStore_43 ?_
      refine topK (a := 999999) (by decide) (fun k_35 hk_35 => ?_)
      refine tVi (b := a0) (As := [.int z_33, .int k_34, .int k_35]) (rest := []) F hK hN hO (c_X7_readsTo E nw ws kp as sc ik un tk xt t g_21 g_23 g_22 g_24 iw g_25 T (260 + 7 * gI B 2 + 1) 1 999999 a0 z_33 k_34 k_35 ha0 (by omega) (by omega) (by omega) (by omega) (by omega) (by omega) hg_25.1 hT (by omega) (by omega) (by intro y_ h1_ h2_; exact (phiI (by omega) (by omega) (by omega) (by omega) (by omega) (by omega) (by omega) (by omega) (by omega) (by omega) (by omega) (by omega) (by omega) (by omega) (by omega) (by omega) (by omega) (by omega))) (by omega) (by omega) (by omega) (by omega)) mv_X7_readsTo wd_17_14 ⟨Nat.le_of_ble_eq_true rfl, Nat.le_of_ble_eq_true rfl⟩ ⟨Nat.le_of_ble_eq_true rfl, Nat.le_of_ble_eq_true rfl⟩ hH hS (tRecv hK hH (tyb ha0 (all1 rfl)) clX7) rfl hl.1 (Nat.le_of_ble_eq_true rfl) dX7_readsStore_46 (fun z_36 H locs hq hS => ?_)
      obtain ⟨g_37, hg_37, g_38, hg_38, g_39, hg_39, g_40, hg_40, g_41, hg_41, f_42, f_43, hH⟩ := hq
      clear f_43
      have hH : TH E (tbM (mD (.inl (t, t)) (.inl (g_37, g_37)) (.inl (g_38, g_38)) (.inl un) (.inl tk) (.inl xt) (.inl (g_39, g_39)) (.inl (g_40, g_40)) (.inl (iw, iw))) nw ws kp as (xD 660 g_41) sc (xB 400 T) ik) H := hH
      have hBg_41 := (okB hg_41.1.1).1
      refine z_eq (tgt := 76) F dX7_readsStore_49 (by decide) (fun c_44 => ?_) (fun c_44 => ?_)
      · skip
        have r_45 : 0 ≤ z_36.toInt ∧ z_36.toInt ≤ 0 := by have h9_ := f_42; omega
        refine lv_iconst (v := 0) F.1 F.2.1 dX7_readsStore_76 (by decide) ?_
        refine topK (a := 0) (by decide) (fun k_47 hk_47 => ?_)
        exact txI F hS dX7_readsStore_77 (nar01 (wkb (eqb hk_47) rfl rfl)) (⟨g_37, ⟨by omega, by omega, by omega, by omega⟩, g_38, (by omega), g_39, (by omega), g_40, (by omega), g_41, ⟨hg_41.1, (sto_of hbg_.1 (q := g_4) hbg_.2 (res_fail (v' := k_47.toInt) (x' := (g_37, iw, g_41)) (res_fail (v' := k_47.toInt) (x' := (g_37, iw, g_41)) (res_fail (v' := k_47.toInt) (x' := (g_37, iw, g_41)) (res_bind hg_25.2.2.2.2.2.2 (by omega) hg_41.2.2.2.2.2.2) (by omega) (by omega)) (by omega) (by omega)) (by omega) (by omega)))⟩, (wkb (eqb hk_47) rfl rfl), hH⟩)
      · skip
        have r_46 : 1 ≤ z_36.toInt ∧ z_36.toInt ≤ 1 := by have h9_ := f_42; omega
        refine lv_aload_n F.1 F.2.1 dX7_readsStore_52 rfl (lv_at hl 1 rfl) ?_
        refine lv_iload_n F.1 F.2.1 dX7_readsStore_53 rfl (lv_at hl 0 rfl) ?_
        refine lv_iconst (v := 2) F.1 F.2.1 dX7_readsStore_54 (by decide) ?_
        refine topK (a := 2) (by decide) (fun k_48 hk_48 => ?_)
        refine tAdd (lo := 262) (hi := 290) F dX7_readsStore_55 hz_17.2 (eqb hk_48) rfl (fun z_49 hz_49 => ?_)
        refine lv_iconst (v := 1) F.1 F.2.1 dX7_readsStore_56 (by decide) ?_
        refine topK (a := 1) (by decide) (fun k_50 hk_50 => ?_)
        refine lv_sipush (v := 9999) F.1 F.2.1 dX7_readsStore_57 (by decide) ?_
        refine topK (a := 9999) (by decide) (fun k_51 hk_51 => ?_)
        refine tVi (b := a0) (As := [.int z_49, .int k_50, .int k_51]) (rest := []) F hK hN hO (c_X7_readsTo E nw ws kp as sc ik un tk xt t g_37 g_39 g_38 g_40 iw g_41 T (260 + 7 * gI B 2 + 2) 1 9999 a0 z_49 k_50 k_51 ha0 (by omega) (by omega) (by omega) (by omega) (by omega) (by omega) hg_41.1 hT (by omega) (by omega) (by intro y_ h1_ h2_; exact (phiI (by omega) (by omega) (by omega) (by omega) (by omega) (by omega) (by omega) (by omega) (by omega) (by omega) (by omega) (by omega) (by omega) (by omega) (by omega) (by omega) (by omega) (by omega))) (by omega) (by omega) (by omega) (by omega)) mv_X7_readsTo wd_17_14 ⟨Nat.le_of_ble_eq_true rfl, Nat.le_of_ble_eq_true rfl⟩ ⟨Nat.le_of_ble_eq_true rfl, Nat.le_of_ble_eq_true rfl⟩ hH hS (tRecv hK hH (tyb ha0 (all1 rfl)) clX7) rfl hl.1 (Nat.le_of_ble_eq_true rfl) dX7_readsStore_60 (fun z_52 H locs hq hS => ?_)
        obtain ⟨g_53, hg_53, g_54, hg_54, g_55, hg_55, g_56, hg_56, g_57, hg_57, f_58, f_59, hH⟩ := hq
        clear f_59
        have hH : TH E (tbM (mD (.inl (t, t)) (.inl (g_53, g_53)) (.inl (g_54, g_54)) (.inl un) (.inl tk) (.inl xt) (.inl (g_55, g_55)) (.inl (g_56, g_56)) (.inl (iw, iw))) nw ws kp as (xD 660 g_57) sc (xB 400 T) ik) H := hH
        have hBg_57 := (okB hg_57.1.1).1
        refine z_eq (tgt := 76) F dX7_readsStore_63 (by decide) (fun c_60 => ?_) (fun c_60 => ?_)
        · skip
          have r_61 : 0 ≤ z_52.toInt ∧ z_52.toInt ≤ 0 := by have h9_ := f_58; omega
          refine lv_iconst (v := 0) F.1 F.2.1 dX7_readsStore_76 (by decide) ?_
          refine topK (a := 0) (by decide) (fun k_63 hk_63 => ?_)
          exact txI F hS dX7_readsStore_77 (nar01 (wkb (eqb hk_63) rfl rfl)) (⟨g_53, ⟨by omega, by omega, by omega, by omega⟩, g_54, (by omega), g_55, (by omega), g_56, (by omega), g_57, ⟨hg_57.1, (sto_of hbg_.1 (q := g_4) hbg_.2 (res_fail (v' := k_63.toInt) (x' := (g_53, iw, g_57)) (res_fail (v' := k_63.toInt) (x' := (g_53, iw, g_57)) (res_bind (res_bind hg_25.2.2.2.2.2.2 (by omega) hg_41.2.2.2.2.2.2) (by omega) hg_57.2.2.2.2.2.2) (by omega) (by omega)) (by omega) (by omega)))⟩, (wkb (eqb hk_63) rfl rfl), hH⟩)
        · skip
          have r_62 : 1 ≤ z_52.toInt ∧ z_52.toInt ≤ 1 := by have h9_ := f_58; omega
          refine lv_aload_n F.1 F.2.1 dX7_readsStore_66 rfl (lv_at hl 1 rfl) ?_
          refine lv_iload_n F.1 F.2.1 dX7_readsStore_67 rfl (lv_at hl 0 rfl) ?_
          refine lv_iconst (v := 3) F.1 F.2.1 dX7_readsStore_68 (by decide) ?_
          refine topK (a := 3) (by decide) (fun k_64 hk_64 => ?_)
          refine tAdd (lo := 263) (hi := 291) F dX7_readsStore_69 hz_17.2 (eqb hk_64) rfl (fun z_65 hz_65 => ?_)
          refine tVi (b := a0) (As := [.int z_65]) (rest := []) F hK hN hO (c_X7_readsAge E nw ws kp as sc ik un tk xt t g_53 g_55 g_54 g_56 iw g_57 T (260 + 7 * gI B 2 + 3) a0 z_65 ha0 (by omega) (by omega) (by omega) (by omega) (by omega) (by omega) (by omega) hg_57.1 hT (by omega) (by omega) (by omega)) mv_X7_readsAge wd_18_8 ⟨Nat.le_of_ble_eq_true rfl, Nat.le_of_ble_eq_true rfl⟩ ⟨Nat.le_of_ble_eq_true rfl, Nat.le_of_ble_eq_true rfl⟩ hH hS (tRecv hK hH (tyb ha0 (all1 rfl)) clX7) rfl hl.1 (Nat.le_of_ble_eq_true rfl) dX7_readsStore_70 (fun z_66 H locs hq hS => ?_)
          obtain ⟨g_67, hg_67, g_68, hg_68, g_69, hg_69, g_70, hg_70, g_71, hg_71, f_72, hH⟩ := hq
          have hH : TH E (tbM (mD (.inl (t, t)) (.inl (g_67, g_67)) (.inl (g_68, g_68)) (.inl un) (.inl tk) (.inl xt) (.inl (g_69, g_69)) (.inl (g_70, g_70)) (.inl (iw, iw))) nw ws kp as (xD 660 g_71) sc (xB 400 T) ik) H := hH
          have hBg_71 := (okB hg_71.1.1).1
          refine z_ne (tgt := 78) F dX7_readsStore_73 (by decide) (fun c_73 => ?_) (fun c_73 => ?_)
          · skip
            have r_74 : 1 ≤ z_66.toInt ∧ z_66.toInt ≤ 1 := by have h9_ := f_72; omega
            refine lv_aload_n F.1 F.2.1 dX7_readsStore_78 rfl (lv_at hl 1 rfl) ?_
            refine tGetR (j := 36) F hK hH (tyb ha0 (all1 rfl)) rfl (all1 rfl) clX7 (by decide) wd_7_5 dX7_readsStore_79 (fun q_76 hq_76 _ => ?_)
            refine lv_iload_n F.1 F.2.1 dX7_readsStore_82 rfl (lv_at hl 0 rfl) ?_
            refine lv_iconst (v := 5) F.1 F.2.1 dX7_readsStore_83 (by decide) ?_
            refine topK (a := 5) (by decide) (fun k_77 hk_77 => ?_)
            refine tAdd (lo := 265) (hi := 293) F dX7_readsStore_84 hz_17.2 (eqb hk_77) rfl (fun z_78 hz_78 => ?_)
            refine lv_bipush (v := (-2)) F.1 F.2.1 dX7_readsStore_85 (by decide) ?_
            refine topK (a := (-2)) (by decide) (fun k_79 hk_79 => ?_)
            refine tIastX (t := 29) F hK hH hS (List.mem_singleton.mp hq_76) (by decide) rfl (ixb (n := 660) hz_78.2 rfl rfl) dX7_readsStore_87 (fun G_80 eG_80 H locs hH hS => ?_)
            have hH : TH E (tbM (mD (.inl (t, t)) (.inl (g_67, g_67)) (.inl (g_68, g_68)) (.inl un) (.inl tk) (.inl xt) (.inl (g_69, g_69)) (.inl (g_70, g_70)) (.inl (iw, iw))) nw ws kp as (xD 660 G_80) sc (xB 400 T) ik) H := hH
            have n0G_80 : gI G_80 0 = gI g_71 0 := gI_ne eG_80 (by omega) (by omega)
            have n1G_80 : gI G_80 1 = gI g_71 1 := gI_ne eG_80 (by omega) (by omega)
            have n2G_80 : gI G_80 2 = gI g_71 2 := gI_ne eG_80 (by omega) (by omega)
            have n6G_80 : gI G_80 6 = gI g_71 6 := gI_ne eG_80 (by omega) (by omega)
            have n3G_80 : gI G_80 3 = gI g_71 3 := gI_ne eG_80 (by omega) (by omega)
            have hG_80 : okR G_80 := (okR.stM hg_71.1 eG_80 (by omega) (by omega) (by omega) (phiI (by omega) (by omega) (by omega) (by omega) (by omega) (by omega) (by omega) (by omega) (by omega) (by omega) (by omega) (by omega) (by omega) (by omega) (by omega) (by omega) (by omega) (by omega)) (by omega))
            have hBG_80 := (okB hG_80.1).1
            refine lv_aload_n F.1 F.2.1 dX7_readsStore_88 rfl (lv_at hl 1 rfl) ?_
            refine tGetR (j := 36) F hK hH (tyb ha0 (all1 rfl)) rfl (all1 rfl) clX7 (by decide) wd_7_5 dX7_readsStore_89 (fun q_81 hq_81 _ => ?_)
            refine lv_iconst (v := 2) F.1 F.2.1 dX7_readsStore_92 (by decide) ?_
            refine topK (a := 2) (by decide) (fun k_82 hk_82 => ?_)
            refine lv_dup2_11 F.1 F.2.1 dX7_readsStore_93 rfl rfl ?_
            refine tIaldX F hK hH (tyb hq_81 (all1 rfl)) (ixb (n := 660) (eqb hk_82) rfl rfl) dX7_readsStore_94 (fun z_83 ez_83 => ?_)
            have gz_83 : z_83.toInt = gI G_80 (2) := by unfold gI; rw [ez_83, show (k_82).toNatClampNeg = (2) from by show (k_82).toInt.toNat = _; omega]
            have hz_83 : 0 ≤ z_83.toInt ∧ z_83.toInt ≤ 4 := (by have h9_ := okA.at (i := k_82) hG_80.1 (by omega); rw [show gI G_80 (k_82).toNatClampNeg = z_83.toInt from by unfold gI; rw [ez_83]] at h9_; have h8_ := phi_2 h9_ (by omega); omega)
            refine lv_iconst (v := 1) F.1 F.2.1 dX7_readsStore_95 (by decide) ?_
            refine topK (a := 1) (by decide) (fun k_84 hk_84 => ?_)
            refine tAdd (lo := 1) (hi := 5) F dX7_readsStore_96 hz_83 (eqb hk_84) rfl (fun z_85 hz_85 => ?_)
            refine tIastX (t := 29) F hK hH hS (List.mem_singleton.mp hq_81) (by decide) rfl (ixb (n := 660) (eqb hk_82) rfl rfl) dX7_readsStore_97 (fun G_86 eG_86 H locs hH hS => ?_)
            have hH : TH E (tbM (mD (.inl (t, t)) (.inl (g_67, g_67)) (.inl (g_68, g_68)) (.inl un) (.inl tk) (.inl xt) (.inl (g_69, g_69)) (.inl (g_70, g_70)) (.inl (iw, iw))) nw ws kp as (xD 660 G_86) sc (xB 400 T) ik) H := hH
            have hG_86 : okR G_86 := (okR.inc hG_80 eG_86 (by omega) (by omega))
            have hBG_86 := (okB hG_86.1).1
            refine lv_iconst (v := 1) F.1 F.2.1 dX7_readsStore_98 (by decide) ?_
            refine topK (a := 1) (by decide) (fun k_87 hk_87 => ?_)
            exact txI F hS dX7_readsStore_99 (nar01 (wkb (eqb hk_87) rfl rfl)) (⟨g_67, ⟨by omega, by omega, by omega, by omega⟩, g_68, (by omega), g_69, (by omega), g_70, (by omega), G_86, ⟨hG_86, (sto_of hbg_.1 (q := g_4) hbg_.2 (res_bind (res_bind (res_bind (res_bind hg_25.2.2.2.2.2.2 (by omega) hg_41.2.2.2.2.2.2) (by omega) hg_57.2.2.2.2.2.2) (by omega) hg_71.2.2.2.2.2.2) (by omega) (fis_k (updR eG_80 (by omega) (by omega)) (updR eG_86 (by omega) (by omega)) (by omega))))⟩, (wkb (eqb hk_87) rfl rfl), hH⟩)
          · skip
            have r_75 : 0 ≤ z_66.toInt ∧ z_66.toInt ≤ 0 := by have h9_ := f_72; omega
            refine lv_iconst (v := 0) F.1 F.2.1 dX7_readsStore_76 (by decide) ?_
            refine topK (a := 0) (by decide) (fun k_88 hk_88 => ?_)
            exact txI F hS dX7_readsStore_77 (nar01 (wkb (eqb hk_88) rfl rfl)) (⟨g_67, ⟨by omega, by omega, by omega, by omega⟩, g_68, (by omega), g_69, (by omega), g_70, (by omega), g_71, ⟨hg_71.1, (sto_of hbg_.1 (q := g_4) hbg_.2 (res_fail (v' := k_88.toInt) (x' := (g_67, iw, g_71)) (res_bind (res_bind (res_bind hg_25.2.2.2.2.2.2 (by omega) hg_41.2.2.2.2.2.2) (by omega) hg_57.2.2.2.2.2.2) (by omega) hg_71.2.2.2.2.2.2) (by omega) (by omega)))⟩, (wkb (eqb hk_88) rfl rfl), hH⟩)
  · skip
    have r_10 : 0 ≤ z_3.toInt ∧ z_3.toInt ≤ 0 := by have h9_ := f_6; omega
    refine lv_iconst (v := 0) F.1 F.2.1 dX7_readsStore_12 (by decide) ?_
    refine topK (a := 0) (by decide) (fun k_89 hk_89 => ?_)
    exact txI F hS dX7_readsStore_13 (nar01 (wkb (eqb hk_89) rfl rfl)) (⟨g_4, ⟨by omega, by omega, by omega, by omega⟩, nu, (by omega), g_5, (by omega), na, (by omega), B, ⟨hB, (sto_a (by omega) (by omega) (by omega))⟩, (wkb (eqb hk_89) rfl rfl), hH⟩)
set_option maxHeartbeats 4000000 in
set_option maxRecDepth 100000 in
theorem c_X7_readsWet (E : Ev) (nw : TD) (ws : TD) (kp : TD) (as : TD) (sc : TD) (ik : TD) (un : Int × Int) (tk : Int × Int) (xt : Int × Int) (t : Int) (p : Int) (wr : Int) (nu : Int) (na : Int) (iw : Int) (B : Nat → Int32) (T : Nat → Int32) (a0 : Nat) (ha0 : eT E a0 ∈ [24]) (ht : 0 ≤ t ∧ t ≤ 400) (hp : 0 ≤ p ∧ p ≤ 400) (hwr : 0 ≤ wr ∧ wr ≤ 4000) (hnu : (-2147483648) ≤ nu ∧ nu ≤ 2147483647) (hna : (-2147483648) ≤ na ∧ na ≤ 2147483647) (hiw : 0 ≤ iw ∧ iw ≤ 1) (hB : okR B) (hT : ivP 400 (-128) 127 T) (hpt : p ≤ t) (hp3 : p + 3 ≤ t) : TcI E yX7_readsWet cX7_readsWet 1 .boolean ({ frames := 5, cells := 0, slots := 0, locals := 126 }) [.ref a0] (fun H => TH E (tbM (mD (.inl (t, t)) (.inl (p, p)) (.inl (nu, nu)) (.inl un) (.inl tk) (.inl xt) (.inl (wr, wr)) (.inl (na, na)) (.inl (iw, iw))) nw ws kp as (xD 660 B) sc (xB 400 T) ik) H) (fun v H => ∃ p2 : Int, (0 ≤ p2 ∧ p2 ≤ 400 ∧ p ≤ p2 ∧ p2 ≤ t) ∧ ∃ nu2 : Int, ((-2147483648) ≤ nu2 ∧ nu2 ≤ 2147483647) ∧ ∃ wr2 : Int, (0 ≤ wr2 ∧ wr2 ≤ 4000) ∧ ∃ na2 : Int, ((-2147483648) ≤ na2 ∧ na2 ≤ 2147483647) ∧ ∃ iw2 : Int, (0 ≤ iw2 ∧ iw2 ≤ 1) ∧ ∃ B2 : Nat → Int32, (okR B2 ∧ mRes v.toInt wr2 (p2, iw2, B2) (mWet T t (p, iw, B))) ∧ (0 ≤ v.toInt ∧ v.toInt ≤ 1) ∧ TH E (tbM (mD (.inl (t, t)) (.inl (p2, p2)) (.inl (nu2, nu2)) (.inl un) (.inl tk) (.inl xt) (.inl (wr2, wr2)) (.inl (na2, na2)) (.inl (iw2, iw2))) nw ws kp as (xD 660 B2) sc (xB 400 T) ik) H) := by
  refine teI (by decide) (Nat.le_of_ble_eq_true rfl) ?_
  intro p_ ev_ s mi_ below_ meth cd_ ls F hK hN hO hH hS hl
  have hH : TH E (tbM (mD (.inl (t, t)) (.inl (p, p)) (.inl (nu, nu)) (.inl un) (.inl tk) (.inl xt) (.inl (wr, wr)) (.inl (na, na)) (.inl (iw, iw))) nw ws kp as (xD 660 B) sc (xB 400 T) ik) s.heap := hH
  have hl : lv_has ls 1 [(0, .ref a0)] := hl
  have hBB := (okB hB.1).1
  refine lv_aload_n F.1 F.2.1 dX7_readsWet_0 rfl (lv_at hl 0 rfl) ?_
  refine tGetI (j := 35) F hK hH (tyb ha0 (all1 rfl)) rfl clX7 (by decide) wd_15_20 dX7_readsWet_1 (fun z_1 hz_1 => ?_)
  have ez_1 : 0 ≤ z_1.toInt ∧ z_1.toInt ≤ 1 := by omega
  refine z_eq (tgt := 17) F dX7_readsWet_4 (by decide) (fun c_2 => ?_) (fun c_2 => ?_)
  · skip
    have r_3 : 0 ≤ z_1.toInt ∧ z_1.toInt ≤ 0 := by have h9_ := ez_1; omega
    refine lv_aload_n F.1 F.2.1 dX7_readsWet_17 rfl (lv_at hl 0 rfl) ?_
    refine lv_iconst (v := 1) F.1 F.2.1 dX7_readsWet_18 (by decide) ?_
    refine topK (a := 1) (by decide) (fun k_5 hk_5 => ?_)
    refine tPutG (j := 35) (t := 24) (fd := (.inl (1, 1))) F hK hH hS (List.mem_singleton.mp ha0) (by decide) rfl rfl (fdI (by omega)) (TB1 := (tbM (mD (.inl (t, t)) (.inl (p, p)) (.inl (nu, nu)) (.inl un) (.inl tk) (.inl xt) (.inl (wr, wr)) (.inl (na, na)) (.inl (1, 1))) nw ws kp as (xD 660 B) sc (xB 400 T) ik)) rfl clX7 (by decide) wd_15_20 rfl rfl (nar01 (wkb (eqb hk_5) rfl rfl)) (fit01 (wkb (eqb hk_5) rfl rfl)) dX7_readsWet_19 (fun H locs hH hS => ?_)
    refine lv_aload_n F.1 F.2.1 dX7_readsWet_22 rfl (lv_at hl 0 rfl) ?_
    refine lv_dup F.1 F.2.1 dX7_readsWet_23 rfl ?_
    refine tGetI (j := 31) F hK hH (tyb ha0 (all1 rfl)) rfl clX7 (by decide) wd_15_21 dX7_readsWet_24 (fun z_6 hz_6 => ?_)
    have ez_6 : 0 ≤ z_6.toInt ∧ z_6.toInt ≤ 400 := by omega
    refine lv_iconst (v := 3) F.1 F.2.1 dX7_readsWet_27 (by decide) ?_
    refine topK (a := 3) (by decide) (fun k_7 hk_7 => ?_)
    refine tAdd (lo := 3) (hi := 403) F dX7_readsWet_28 ez_6 (eqb hk_7) rfl (fun z_8 hz_8 => ?_)
    obtain ⟨g_9, hg_9⟩ : ∃ y : Int, z_8.toInt = y := ⟨_, rfl⟩
    have bg_9 : 3 ≤ g_9 ∧ g_9 ≤ 403 := by rw [← hg_9]; exact hz_8.2
    refine tPutG (j := 31) (t := 24) (fd := (.inl (g_9, g_9))) F hK hH hS (List.mem_singleton.mp ha0) (by decide) rfl rfl (fdI (by omega)) (TB1 := (tbM (mD (.inl (t, t)) (.inl (g_9, g_9)) (.inl (nu, nu)) (.inl un) (.inl tk) (.inl xt) (.inl (wr, wr)) (.inl (na, na)) (.inl (1, 1))) nw ws kp as (xD 660 B) sc (xB 400 T) ik)) rfl clX7 (by decide) wd_15_21 rfl rfl rfl rfl dX7_readsWet_29 (fun H locs hH hS => ?_)
    refine lv_aload_n F.1 F.2.1 dX7_readsWet_32 rfl (lv_at hl 0 rfl) ?_
    refine lv_iconst (v := 4) F.1 F.2.1 dX7_readsWet_33 (by decide) ?_
    refine topK (a := 4) (by decide) (fun k_10 hk_10 => ?_)
    refine lv_iconst (v := 0) F.1 F.2.1 dX7_readsWet_34 (by decide) ?_
    refine topK (a := 0) (by decide) (fun k_11 hk_11 => ?_)
    refine lv_sipush (v := 400) F.1 F.2.1 dX7_readsWet_35 (by decide) ?_
    refine topK (a := 400) (by decide) (fun k_12 hk_12 => ?_)
    refine tVi (b := a0) (As := [.int k_10, .int k_11, .int k_12]) (rest := []) F hK hN hO (c_X7_readsTo E nw ws kp as sc ik un tk xt t g_9 wr nu na 1 B T 4 0 400 a0 k_10 k_11 k_12 ha0 (by omega) (by omega) (by omega) (by omega) (by omega) (by omega) hB hT (by omega) (by omega) (by intro y_ h1_ h2_; exact (phiI (by omega) (by omega) (by omega) (by omega) (by omega) (by omega) (by omega) (by omega) (by omega) (by omega) (by omega) (by omega) (by omega) (by omega) (by omega) (by omega) (by omega) (by omega))) (by omega) (by omega) (by omega) (by omega)) mv_X7_readsTo wd_17_14 ⟨Nat.le_of_ble_eq_true rfl, Nat.le_of_ble_eq_true rfl⟩ ⟨Nat.le_of_ble_eq_true rfl, Nat.le_of_ble_eq_true rfl⟩ hH hS (tRecv hK hH (tyb ha0 (all1 rfl)) clX7) rfl hl.1 (Nat.le_of_ble_eq_true rfl) dX7_readsWet_38 (fun z_13 H locs hq hS => ?_)
    obtain ⟨g_14, hg_14, g_15, hg_15, g_16, hg_16, g_17, hg_17, g_18, hg_18, f_19, f_20, hH⟩ := hq
    have hH : TH E (tbM (mD (.inl (t, t)) (.inl (g_14, g_14)) (.inl (g_15, g_15)) (.inl un) (.inl tk) (.inl xt) (.inl (g_16, g_16)) (.inl (g_17, g_17)) (.inl (1, 1))) nw ws kp as (xD 660 g_18) sc (xB 400 T) ik) H := hH
    have hBg_18 := (okB hg_18.1.1).1
    exact txI F hS dX7_readsWet_41 (nar01 f_19) (⟨g_14, ⟨by omega, by omega, by omega, by omega⟩, g_15, (by omega), g_16, (by omega), g_17, (by omega), 1, (by omega), g_18, ⟨hg_18.1, (wet_2 (q := g_9) hg_18.2.2.2.2.2.2 (by omega) (by omega))⟩, f_19, hH⟩)
  · skip
    have r_4 : 1 ≤ z_1.toInt ∧ z_1.toInt ≤ 1 := by have h9_ := ez_1; omega
    refine lv_aload_n F.1 F.2.1 dX7_readsWet_7 rfl (lv_at hl 0 rfl) ?_
    refine lv_iconst (v := 3) F.1 F.2.1 dX7_readsWet_8 (by decide) ?_
    refine topK (a := 3) (by decide) (fun k_21 hk_21 => ?_)
    refine lv_aload_n F.1 F.2.1 dX7_readsWet_9 rfl (lv_at hl 0 rfl) ?_
    refine tGetI (j := 31) F hK hH (tyb ha0 (all1 rfl)) rfl clX7 (by decide) wd_15_21 dX7_readsWet_10 (fun z_22 hz_22 => ?_)
    have ez_22 : 0 ≤ z_22.toInt ∧ z_22.toInt ≤ 400 := by omega
    refine tVi (b := a0) (As := [.int k_21, .int z_22]) (rest := []) F hK hN hO (c_X7_fails E nw ws kp as (xD 660 B) sc ik un tk xt t p wr nu na iw T a0 k_21 z_22 ha0 (wkb (eqb hk_21) rfl rfl) ez_22 (by omega) (by omega) (by omega) (by omega) (by omega) (by omega) hT (by omega)) mv_X7_fails wd_17_2 ⟨Nat.le_of_ble_eq_true rfl, Nat.le_of_ble_eq_true rfl⟩ ⟨Nat.le_of_ble_eq_true rfl, Nat.le_of_ble_eq_true rfl⟩ hH hS (tRecv hK hH (tyb ha0 (all1 rfl)) clX7) rfl hl.1 (Nat.le_of_ble_eq_true rfl) dX7_readsWet_13 (fun z_23 H locs hq hS => ?_)
    obtain ⟨g_24, hg_24, f_25, f_26, hH⟩ := hq
    have hH : TH E (tbM (mD (.inl (t, t)) (.inl (p, p)) (.inl (nu, nu)) (.inl un) (.inl tk) (.inl xt) (.inl (g_24, g_24)) (.inl (na, na)) (.inl (iw, iw))) nw ws kp as (xD 660 B) sc (xB 400 T) ik) H := hH
    exact txI F hS dX7_readsWet_16 (nar01 (wkb f_25 rfl rfl)) (⟨p, ⟨by omega, by omega, by omega, by omega⟩, nu, (by omega), g_24, (by omega), na, (by omega), iw, (by omega), B, ⟨hB, (wet_1 (by omega) (by omega) (by omega))⟩, (wkb f_25 rfl rfl), hH⟩)
set_option maxHeartbeats 4000000 in
set_option maxRecDepth 100000 in
theorem c_X7_readsPart (E : Ev) (nw : TD) (ws : TD) (kp : TD) (as : TD) (sc : TD) (ik : TD) (un : Int × Int) (tk : Int × Int) (xt : Int × Int) (t : Int) (p : Int) (wr : Int) (nu : Int) (na : Int) (iw : Int) (B : Nat → Int32) (T : Nat → Int32) (a0 : Nat) (ha0 : eT E a0 ∈ [24]) (ht : 0 ≤ t ∧ t ≤ 400) (hp : 0 ≤ p ∧ p ≤ 400) (hwr : 0 ≤ wr ∧ wr ≤ 4000) (hnu : (-2147483648) ≤ nu ∧ nu ≤ 2147483647) (hna : (-2147483648) ≤ na ∧ na ≤ 2147483647) (hiw : 0 ≤ iw ∧ iw ≤ 1) (hB : okR B) (hT : ivP 400 (-128) 127 T) (hpt : p ≤ t) : TcI E yX7_readsPart cX7_readsPart 1 .boolean ({ frames := 10, cells := 0, slots := 0, locals := 290 }) [.ref a0] (fun H => TH E (tbM (mD (.inl (t, t)) (.inl (p, p)) (.inl (nu, nu)) (.inl un) (.inl tk) (.inl xt) (.inl (wr, wr)) (.inl (na, na)) (.inl (iw, iw))) nw ws kp as (xD 660 B) sc (xB 400 T) ik) H) (fun v H => ∃ p2 : Int, (0 ≤ p2 ∧ p2 ≤ 400 ∧ p ≤ p2 ∧ p2 ≤ t) ∧ ∃ nu2 : Int, ((-2147483648) ≤ nu2 ∧ nu2 ≤ 2147483647) ∧ ∃ wr2 : Int, (0 ≤ wr2 ∧ wr2 ≤ 4000) ∧ ∃ na2 : Int, ((-2147483648) ≤ na2 ∧ na2 ≤ 2147483647) ∧ ∃ iw2 : Int, (0 ≤ iw2 ∧ iw2 ≤ 1) ∧ ∃ B2 : Nat → Int32, (okR B2 ∧ mRes v.toInt wr2 (p2, iw2, B2) (mPart T t (p, iw, B))) ∧ (0 ≤ v.toInt ∧ v.toInt ≤ 1) ∧ TH E (tbM (mD (.inl (t, t)) (.inl (p2, p2)) (.inl (nu2, nu2)) (.inl un) (.inl tk) (.inl xt) (.inl (wr2, wr2)) (.inl (na2, na2)) (.inl (iw2, iw2))) nw ws kp as (xD 660 B2) sc (xB 400 T) ik) H) := by
  refine teI (by decide) (Nat.le_of_ble_eq_true rfl) ?_
  intro p_ ev_ s mi_ below_ meth cd_ ls F hK hN hO hH hS hl
  have hH : TH E (tbM (mD (.inl (t, t)) (.inl (p, p)) (.inl (nu, nu)) (.inl un) (.inl tk) (.inl xt) (.inl (wr, wr)) (.inl (na, na)) (.inl (iw, iw))) nw ws kp as (xD 660 B) sc (xB 400 T) ik) s.heap := hH
  have hl : lv_has ls 1 [(0, .ref a0)] := hl
  have hBB := (okB hB.1).1
  refine lv_aload_n F.1 F.2.1 dX7_readsPart_0 rfl (lv_at hl 0 rfl) ?_
  refine ldcwS F.1 F.2.1 F.2.2.2.2.1 (hO.1 18 _ rfl).1 dX7_readsPart_1 ?_
  refine tVi (b := a0) (As := [.ref (eX E 18)]) (rest := []) F hK hN hO (c_X7_isWord E nw ws kp as (xD 660 B) sc ik un tk xt t p wr nu na iw T a0 18 5 ha0 (strAt 18 rfl) (by omega) (by omega) (by omega) (by omega) (by omega) (by omega) hT (by omega)) mv_X7_isWord wd_16_10 ⟨Nat.le_of_ble_eq_true rfl, Nat.le_of_ble_eq_true rfl⟩ ⟨Nat.le_of_ble_eq_true rfl, Nat.le_of_ble_eq_true rfl⟩ hH hS (tRecv hK hH (tyb ha0 (all1 rfl)) clX7) rfl hl.1 (Nat.le_of_ble_eq_true rfl) dX7_readsPart_4 (fun z_1 H locs hq hS => ?_)
  obtain ⟨g_2, hg_2, f_3, f_4, f_5, hH⟩ := hq
  have hH : TH E (tbM (mD (.inl (t, t)) (.inl (g_2, g_2)) (.inl (nu, nu)) (.inl un) (.inl tk) (.inl xt) (.inl (wr, wr)) (.inl (na, na)) (.inl (iw, iw))) nw ws kp as (xD 660 B) sc (xB 400 T) ik) H := hH
  refine z_eq (tgt := 15) F dX7_readsPart_7 (by decide) (fun c_6 => ?_) (fun c_6 => ?_)
  · skip
    have r_7 : 0 ≤ z_1.toInt ∧ z_1.toInt ≤ 0 := by have h9_ := f_3; omega
    refine lv_aload_n F.1 F.2.1 dX7_readsPart_15 rfl (lv_at hl 0 rfl) ?_
    refine ldcwS F.1 F.2.1 F.2.2.2.2.1 (hO.1 21 _ rfl).1 dX7_readsPart_16 ?_
    refine tVi (b := a0) (As := [.ref (eX E 21)]) (rest := []) F hK hN hO (c_X7_isWord E nw ws kp as (xD 660 B) sc ik un tk xt t g_2 wr nu na iw T a0 21 5 ha0 (strAt 21 rfl) (by omega) (by omega) (by omega) (by omega) (by omega) (by omega) hT (by omega)) mv_X7_isWord wd_16_10 ⟨Nat.le_of_ble_eq_true rfl, Nat.le_of_ble_eq_true rfl⟩ ⟨Nat.le_of_ble_eq_true rfl, Nat.le_of_ble_eq_true rfl⟩ hH hS (tRecv hK hH (tyb ha0 (all1 rfl)) clX7) rfl hl.1 (Nat.le_of_ble_eq_true rfl) dX7_readsPart_19 (fun z_9 H locs hq hS => ?_)
    obtain ⟨g_10, hg_10, f_11, f_12, f_13, hH⟩ := hq
    have hH : TH E (tbM (mD (.inl (t, t)) (.inl (g_10, g_10)) (.inl (nu, nu)) (.inl un) (.inl tk) (.inl xt) (.inl (wr, wr)) (.inl (na, na)) (.inl (iw, iw))) nw ws kp as (xD 660 B) sc (xB 400 T) ik) H := hH
    refine z_eq (tgt := 30) F dX7_readsPart_22 (by decide) (fun c_14 => ?_) (fun c_14 => ?_)
    · skip
      have r_15 : 0 ≤ z_9.toInt ∧ z_9.toInt ≤ 0 := by have h9_ := f_11; omega
      refine lv_aload_n F.1 F.2.1 dX7_readsPart_30 rfl (lv_at hl 0 rfl) ?_
      refine ldcwS F.1 F.2.1 F.2.2.2.2.1 (hO.1 25 _ rfl).1 dX7_readsPart_31 ?_
      refine tVi (b := a0) (As := [.ref (eX E 25)]) (rest := []) F hK hN hO (c_X7_isWord E nw ws kp as (xD 660 B) sc ik un tk xt t g_10 wr nu na iw T a0 25 5 ha0 (strAt 25 rfl) (by omega) (by omega) (by omega) (by omega) (by omega) (by omega) hT (by omega)) mv_X7_isWord wd_16_10 ⟨Nat.le_of_ble_eq_true rfl, Nat.le_of_ble_eq_true rfl⟩ ⟨Nat.le_of_ble_eq_true rfl, Nat.le_of_ble_eq_true rfl⟩ hH hS (tRecv hK hH (tyb ha0 (all1 rfl)) clX7) rfl hl.1 (Nat.le_of_ble_eq_true rfl) dX7_readsPart_34 (fun z_17 H locs hq hS => ?_)
      obtain ⟨g_18, hg_18, f_19, f_20, f_21, hH⟩ := hq
      have hH : TH E (tbM (mD (.inl (t, t)) (.inl (g_18, g_18)) (.inl (nu, nu)) (.inl un) (.inl tk) (.inl xt) (.inl (wr, wr)) (.inl (na, na)) (.inl (iw, iw))) nw ws kp as (xD 660 B) sc (xB 400 T) ik) H := hH
      refine z_eq (tgt := 45) F dX7_readsPart_37 (by decide) (fun c_22 => ?_) (fun c_22 => ?_)
      · skip
        have r_23 : 0 ≤ z_17.toInt ∧ z_17.toInt ≤ 0 := by have h9_ := f_19; omega
        refine lv_aload_n F.1 F.2.1 dX7_readsPart_45 rfl (lv_at hl 0 rfl) ?_
        refine ldcwS F.1 F.2.1 F.2.2.2.2.1 (hO.1 26 _ rfl).1 dX7_readsPart_46 ?_
        refine tVi (b := a0) (As := [.ref (eX E 26)]) (rest := []) F hK hN hO (c_X7_isWord E nw ws kp as (xD 660 B) sc ik un tk xt t g_18 wr nu na iw T a0 26 3 ha0 (strAt 26 rfl) (by omega) (by omega) (by omega) (by omega) (by omega) (by omega) hT (by omega)) mv_X7_isWord wd_16_10 ⟨Nat.le_of_ble_eq_true rfl, Nat.le_of_ble_eq_true rfl⟩ ⟨Nat.le_of_ble_eq_true rfl, Nat.le_of_ble_eq_true rfl⟩ hH hS (tRecv hK hH (tyb ha0 (all1 rfl)) clX7) rfl hl.1 (Nat.le_of_ble_eq_true rfl) dX7_readsPart_49 (fun z_25 H locs hq hS => ?_)
        obtain ⟨g_26, hg_26, f_27, f_28, f_29, hH⟩ := hq
        have hH : TH E (tbM (mD (.inl (t, t)) (.inl (g_26, g_26)) (.inl (nu, nu)) (.inl un) (.inl tk) (.inl xt) (.inl (wr, wr)) (.inl (na, na)) (.inl (iw, iw))) nw ws kp as (xD 660 B) sc (xB 400 T) ik) H := hH
        refine z_eq (tgt := 62) F dX7_readsPart_52 (by decide) (fun c_30 => ?_) (fun c_30 => ?_)
        · skip
          have r_31 : 0 ≤ z_25.toInt ∧ z_25.toInt ≤ 0 := by have h9_ := f_27; omega
          refine lv_aload_n F.1 F.2.1 dX7_readsPart_62 rfl (lv_at hl 0 rfl) ?_
          refine lv_iconst (v := 1) F.1 F.2.1 dX7_readsPart_63 (by decide) ?_
          refine topK (a := 1) (by decide) (fun k_33 hk_33 => ?_)
          refine lv_aload_n F.1 F.2.1 dX7_readsPart_64 rfl (lv_at hl 0 rfl) ?_
          refine tGetI (j := 31) F hK hH (tyb ha0 (all1 rfl)) rfl clX7 (by decide) wd_15_21 dX7_readsPart_65 (fun z_34 hz_34 => ?_)
          have ez_34 : 0 ≤ z_34.toInt ∧ z_34.toInt ≤ 400 := by omega
          refine tVi (b := a0) (As := [.int k_33, .int z_34]) (rest := []) F hK hN hO (c_X7_fails E nw ws kp as (xD 660 B) sc ik un tk xt t g_26 wr nu na iw T a0 k_33 z_34 ha0 (wkb (eqb hk_33) rfl rfl) ez_34 (by omega) (by omega) (by omega) (by omega) (by omega) (by omega) hT (by omega)) mv_X7_fails wd_17_2 ⟨Nat.le_of_ble_eq_true rfl, Nat.le_of_ble_eq_true rfl⟩ ⟨Nat.le_of_ble_eq_true rfl, Nat.le_of_ble_eq_true rfl⟩ hH hS (tRecv hK hH (tyb ha0 (all1 rfl)) clX7) rfl hl.1 (Nat.le_of_ble_eq_true rfl) dX7_readsPart_68 (fun z_35 H locs hq hS => ?_)
          obtain ⟨g_36, hg_36, f_37, f_38, hH⟩ := hq
          have hH : TH E (tbM (mD (.inl (t, t)) (.inl (g_26, g_26)) (.inl (nu, nu)) (.inl un) (.inl tk) (.inl xt) (.inl (g_36, g_36)) (.inl (na, na)) (.inl (iw, iw))) nw ws kp as (xD 660 B) sc (xB 400 T) ik) H := hH
          exact txI F hS dX7_readsPart_71 (nar01 (wkb f_37 rfl rfl)) (⟨g_26, ⟨by omega, by omega, by omega, by omega⟩, nu, (by omega), g_36, (by omega), na, (by omega), iw, (by omega), B, ⟨hB, (mpart_5 hg_2.2.2.2.2 f_4 hg_10.2.2.2.2 f_12 hg_18.2.2.2.2 f_20 hg_26.2.2.2.2 f_28 (by omega) (by omega) (by omega) (by omega) (by omega) (by omega))⟩, (wkb f_37 rfl rfl), hH⟩)
        · skip
          have r_32 : 1 ≤ z_25.toInt ∧ z_25.toInt ≤ 1 := by have h9_ := f_27; omega
          refine lv_aload_n F.1 F.2.1 dX7_readsPart_55 rfl (lv_at hl 0 rfl) ?_
          refine tVi (b := a0) (As := []) (rest := []) F hK hN hO (c_X7_readsWet E nw ws kp as sc ik un tk xt t g_26 wr nu na iw B T a0 ha0 (by omega) (by omega) (by omega) (by omega) (by omega) (by omega) hB hT (by omega) (by omega)) mv_X7_readsWet wd_19_0 ⟨Nat.le_of_ble_eq_true rfl, Nat.le_of_ble_eq_true rfl⟩ ⟨Nat.le_of_ble_eq_true rfl, Nat.le_of_ble_eq_true rfl⟩ hH hS (tRecv hK hH (tyb ha0 (all1 rfl)) clX7) rfl hl.1 (Nat.le_of_ble_eq_true rfl) dX7_readsPart_56 (fun z_39 H locs hq hS => ?_)
          obtain ⟨g_40, hg_40, g_41, hg_41, g_42, hg_42, g_43, hg_43, g_44, hg_44, g_45, hg_45, f_46, hH⟩ := hq
          have hH : TH E (tbM (mD (.inl (t, t)) (.inl (g_40, g_40)) (.inl (g_41, g_41)) (.inl un) (.inl tk) (.inl xt) (.inl (g_42, g_42)) (.inl (g_43, g_43)) (.inl (g_44, g_44))) nw ws kp as (xD 660 g_45) sc (xB 400 T) ik) H := hH
          have hBg_45 := (okB hg_45.1.1).1
          refine lv_goto (tgt := 71) F.1 F.2.1 dX7_readsPart_59 (by decide) ?_
          exact txI F hS dX7_readsPart_71 (nar01 f_46) (⟨g_40, ⟨by omega, by omega, by omega, by omega⟩, g_41, (by omega), g_42, (by omega), g_43, (by omega), g_44, (by omega), g_45, ⟨hg_45.1, (mpart_4 hg_2.2.2.2.2 f_4 hg_10.2.2.2.2 f_12 hg_18.2.2.2.2 f_20 hg_26.2.2.2.2 f_28 hg_45.2 (by omega) (by omega) (by omega) (by omega))⟩, f_46, hH⟩)
      · skip
        have r_24 : 1 ≤ z_17.toInt ∧ z_17.toInt ≤ 1 := by have h9_ := f_19; omega
        refine lv_aload_n F.1 F.2.1 dX7_readsPart_40 rfl (lv_at hl 0 rfl) ?_
        refine tVi (b := a0) (As := []) (rest := []) F hK hN hO (c_X7_readsStore E nw ws kp as sc ik un tk xt t g_18 wr nu na iw B T a0 ha0 (by omega) (by omega) (by omega) (by omega) (by omega) (by omega) hB hT (by omega) (by omega)) mv_X7_readsStore wd_18_20 ⟨Nat.le_of_ble_eq_true rfl, Nat.le_of_ble_eq_true rfl⟩ ⟨Nat.le_of_ble_eq_true rfl, Nat.le_of_ble_eq_true rfl⟩ hH hS (tRecv hK hH (tyb ha0 (all1 rfl)) clX7) rfl hl.1 (Nat.le_of_ble_eq_true rfl) dX7_readsPart_41 (fun z_47 H locs hq hS => ?_)
        obtain ⟨g_48, hg_48, g_49, hg_49, g_50, hg_50, g_51, hg_51, g_52, hg_52, f_53, hH⟩ := hq
        have hH : TH E (tbM (mD (.inl (t, t)) (.inl (g_48, g_48)) (.inl (g_49, g_49)) (.inl un) (.inl tk) (.inl xt) (.inl (g_50, g_50)) (.inl (g_51, g_51)) (.inl (iw, iw))) nw ws kp as (xD 660 g_52) sc (xB 400 T) ik) H := hH
        have hBg_52 := (okB hg_52.1.1).1
        exact txI F hS dX7_readsPart_44 (nar01 f_53) (⟨g_48, ⟨by omega, by omega, by omega, by omega⟩, g_49, (by omega), g_50, (by omega), g_51, (by omega), iw, (by omega), g_52, ⟨hg_52.1, (mpart_3 hg_2.2.2.2.2 f_4 hg_10.2.2.2.2 f_12 hg_18.2.2.2.2 f_20 hg_52.2 (by omega) (by omega) (by omega))⟩, f_53, hH⟩)
    · skip
      have r_16 : 1 ≤ z_9.toInt ∧ z_9.toInt ≤ 1 := by have h9_ := f_11; omega
      refine lv_aload_n F.1 F.2.1 dX7_readsPart_25 rfl (lv_at hl 0 rfl) ?_
      refine tVi (b := a0) (As := []) (rest := []) F hK hN hO (c_X7_readsRight E nw ws kp as sc ik un tk xt t g_10 wr nu na iw B T a0 ha0 (by omega) (by omega) (by omega) (by omega) (by omega) (by omega) hB hT (by omega) (by omega)) mv_X7_readsRight wd_18_3 ⟨Nat.le_of_ble_eq_true rfl, Nat.le_of_ble_eq_true rfl⟩ ⟨Nat.le_of_ble_eq_true rfl, Nat.le_of_ble_eq_true rfl⟩ hH hS (tRecv hK hH (tyb ha0 (all1 rfl)) clX7) rfl hl.1 (Nat.le_of_ble_eq_true rfl) dX7_readsPart_26 (fun z_54 H locs hq hS => ?_)
      obtain ⟨g_55, hg_55, g_56, hg_56, g_57, hg_57, g_58, hg_58, g_59, hg_59, f_60, hH⟩ := hq
      have hH : TH E (tbM (mD (.inl (t, t)) (.inl (g_55, g_55)) (.inl (g_56, g_56)) (.inl un) (.inl tk) (.inl xt) (.inl (g_57, g_57)) (.inl (g_58, g_58)) (.inl (iw, iw))) nw ws kp as (xD 660 g_59) sc (xB 400 T) ik) H := hH
      have hBg_59 := (okB hg_59.1.1).1
      exact txI F hS dX7_readsPart_29 (nar01 f_60) (⟨g_55, ⟨by omega, by omega, by omega, by omega⟩, g_56, (by omega), g_57, (by omega), g_58, (by omega), iw, (by omega), g_59, ⟨hg_59.1, (mpart_2 hg_2.2.2.2.2 f_4 hg_10.2.2.2.2 f_12 hg_59.2 (by omega) (by omega))⟩, f_60, hH⟩)
  · skip
    have r_8 : 1 ≤ z_1.toInt ∧ z_1.toInt ≤ 1 := by have h9_ := f_3; omega
    refine lv_aload_n F.1 F.2.1 dX7_readsPart_10 rfl (lv_at hl 0 rfl) ?_
    refine tVi (b := a0) (As := []) (rest := []) F hK hN hO (c_X7_readsReach E nw ws kp as sc ik un tk xt t g_2 wr nu na iw B T a0 ha0 (by omega) (by omega) (by omega) (by omega) (by omega) (by omega) hB hT (by omega) (by omega)) mv_X7_readsReach wd_16_18 ⟨Nat.le_of_ble_eq_true rfl, Nat.le_of_ble_eq_true rfl⟩ ⟨Nat.le_of_ble_eq_true rfl, Nat.le_of_ble_eq_true rfl⟩ hH hS (tRecv hK hH (tyb ha0 (all1 rfl)) clX7) rfl hl.1 (Nat.le_of_ble_eq_true rfl) dX7_readsPart_11 (fun z_61 H locs hq hS => ?_)
    obtain ⟨g_62, hg_62, g_63, hg_63, g_64, hg_64, g_65, hg_65, g_66, hg_66, f_67, hH⟩ := hq
    have hH : TH E (tbM (mD (.inl (t, t)) (.inl (g_62, g_62)) (.inl (g_63, g_63)) (.inl un) (.inl tk) (.inl xt) (.inl (g_64, g_64)) (.inl (g_65, g_65)) (.inl (iw, iw))) nw ws kp as (xD 660 g_66) sc (xB 400 T) ik) H := hH
    have hBg_66 := (okB hg_66.1.1).1
    exact txI F hS dX7_readsPart_14 (nar01 f_67) (⟨g_62, ⟨by omega, by omega, by omega, by omega⟩, g_63, (by omega), g_64, (by omega), g_65, (by omega), iw, (by omega), g_66, ⟨hg_66.1, (mpart_1 hg_2.2.2.2.2 f_4 hg_66.2 (by omega))⟩, f_67, hH⟩)
set_option maxHeartbeats 4000000 in
set_option maxRecDepth 100000 in
theorem c_X7_readsAll (E : Ev) (nw : TD) (ws : TD) (kp : TD) (as : TD) (sc : TD) (ik : TD) (un : Int × Int) (tk : Int × Int) (xt : Int × Int) (t : Int) (B : Nat → Int32) (T : Nat → Int32) (a0 : Nat) (ha0 : eT E a0 ∈ [24]) (ht : 0 ≤ t ∧ t ≤ 400) (hT : ivP 400 (-128) 127 T) : TcI E yX7_readsAll cX7_readsAll 2 .boolean ({ frames := 11, cells := 0, slots := 0, locals := 310 }) [.ref a0] (fun H => TH E (tbM (mD (.inl (t, t)) (.inl ((-2147483648), 2147483647)) (.inl ((-2147483648), 2147483647)) (.inl un) (.inl tk) (.inl xt) (.inl (0, 4000)) (.inl ((-2147483648), 2147483647)) (.inl (0, 1))) nw ws kp as (xD 660 B) sc (xB 400 T) ik) H) (fun v H => ∃ p2 : Int, (0 ≤ p2 ∧ p2 ≤ 400) ∧ ∃ wr2 : Int, (0 ≤ wr2 ∧ wr2 ≤ 4000) ∧ ∃ iw2 : Int, (0 ≤ iw2 ∧ iw2 ≤ 1) ∧ ∃ B2 : Nat → Int32, (okR B2 ∧ ∃ B0 : Nat → Int32, (∀ j : Nat, j < 660 → j ≠ 4 → xI B0 j = 0) ∧ mRes v.toInt wr2 (p2, iw2, B2) (mRun T t B0)) ∧ (0 ≤ v.toInt ∧ v.toInt ≤ 1) ∧ TH E (tbM (mD (.inl (t, t)) (.inl (p2, p2)) (.inl ((-2147483648), 2147483647)) (.inl un) (.inl tk) (.inl xt) (.inl (wr2, wr2)) (.inl ((-2147483648), 2147483647)) (.inl (iw2, iw2))) nw ws kp as (xD 660 B2) sc (xB 400 T) ik) H) := by
  refine teI (by decide) (Nat.le_of_ble_eq_true rfl) ?_
  intro p_ ev_ s mi_ below_ meth cd_ ls F hK hN hO hH hS hl
  have hH : TH E (tbM (mD (.inl (t, t)) (.inl ((-2147483648), 2147483647)) (.inl ((-2147483648), 2147483647)) (.inl un) (.inl tk) (.inl xt) (.inl (0, 4000)) (.inl ((-2147483648), 2147483647)) (.inl (0, 1))) nw ws kp as (xD 660 B) sc (xB 400 T) ik) s.heap := hH
  have hl : lv_has ls 2 [(0, .ref a0)] := hl
  refine lv_iconst (v := 0) F.1 F.2.1 dX7_readsAll_0 (by decide) ?_
  refine topK (a := 0) (by decide) (fun k_1 hk_1 => ?_)
  refine lv_istore_n (lv' := [(1, .int k_1), (0, .ref a0)]) F.1 F.2.1 dX7_readsAll_1 rfl hl (by decide) rfl (fun ls hl => ?_)
  refine wloop (σ := Int32 × (Nat → Int32)) (fun n9 x9 H locs ls => (660 - x9.1.toInt + 1).toNat < n9 ∧ (0 ≤ x9.1.toInt ∧ x9.1.toInt ≤ 660) ∧ (True) ∧ (zf x9.2 (x9.1.toInt)) ∧ TH E (tbM (mD (.inl (t, t)) (.inl ((-2147483648), 2147483647)) (.inl ((-2147483648), 2147483647)) (.inl un) (.inl tk) (.inl xt) (.inl (0, 4000)) (.inl ((-2147483648), 2147483647)) (.inl (0, 1))) nw ws kp as (xD 660 x9.2) sc (xB 400 T) ik) H ∧ va_S (eA E s.heap.size) s.heap H locs ∧ lv_has ls 2 [(0, .ref a0), (1, .int x9.1)]) ?_ (fun x9 H locs ls h => absurd h.1 (Nat.not_lt_zero _)) _ (k_1, B) ⟨Nat.lt_succ_self _, (wkb (eqb hk_1) rfl rfl), trivial, (show zf B (k_1.toInt) from zf.zero (by omega)), hH, hS, lv_sub hl [1, 0] rfl⟩
  intro n_2 ih_2 ⟨u_2, G_3⟩ H locs ls ⟨hm_2, hu_2, hG_3, hcr2_0, hH, hS, hl⟩
  have hm_2 : (660 - u_2.toInt + 1).toNat < n_2 + 1 := hm_2
  have hu_2 : (0 ≤ u_2.toInt ∧ u_2.toInt ≤ 660) := hu_2
  have hG_3 : (True) := hG_3
  have hcr2_0 : (zf G_3 (u_2.toInt)) := hcr2_0
  have hH : TH E (tbM (mD (.inl (t, t)) (.inl ((-2147483648), 2147483647)) (.inl ((-2147483648), 2147483647)) (.inl un) (.inl tk) (.inl xt) (.inl (0, 4000)) (.inl ((-2147483648), 2147483647)) (.inl (0, 1))) nw ws kp as (xD 660 G_3) sc (xB 400 T) ik) H := hH
  have hl : lv_has ls 2 [(0, .ref a0), (1, .int u_2)] := hl
  refine lv_iload_n F.1 F.2.1 dX7_readsAll_2 rfl (lv_at hl 1 rfl) ?_
  refine lv_sipush (v := 660) F.1 F.2.1 dX7_readsAll_3 (by decide) ?_
  refine topK (a := 660) (by decide) (fun k_4 hk_4 => ?_)
  refine b_ge (tgt := 22) F dX7_readsAll_6 (by decide) (fun c_5 => ?_) (fun c_5 => ?_)
  · skip
    have r_6 : 660 ≤ u_2.toInt ∧ u_2.toInt ≤ 660 := by have h9_ := hu_2; omega
    have hRG_3 : okR G_3 := zf.ok hcr2_0 (by omega)
    have hZG_3 : ∀ j : Nat, j < 660 → gI G_3 j = 0 := zf.all hcr2_0 (by omega)
    have hBG_3 := (okB hRG_3.1).1
    obtain ⟨g_8, hg_8, hH⟩ := TH.pinF (t := 24) (j := 33) hH rfl rfl ⟨a0, List.mem_singleton.mp ha0⟩ (by decide)
    have hH : TH E (tbM (mD (.inl (t, t)) (.inl ((-2147483648), 2147483647)) (.inl (g_8, g_8)) (.inl un) (.inl tk) (.inl xt) (.inl (0, 4000)) (.inl ((-2147483648), 2147483647)) (.inl (0, 1))) nw ws kp as (xD 660 G_3) sc (xB 400 T) ik) H := hH
    obtain ⟨g_9, hg_9, hH⟩ := TH.pinF (t := 24) (j := 32) hH rfl rfl ⟨a0, List.mem_singleton.mp ha0⟩ (by decide)
    have hH : TH E (tbM (mD (.inl (t, t)) (.inl ((-2147483648), 2147483647)) (.inl (g_8, g_8)) (.inl un) (.inl tk) (.inl xt) (.inl (g_9, g_9)) (.inl ((-2147483648), 2147483647)) (.inl (0, 1))) nw ws kp as (xD 660 G_3) sc (xB 400 T) ik) H := hH
    obtain ⟨g_10, hg_10, hH⟩ := TH.pinF (t := 24) (j := 34) hH rfl rfl ⟨a0, List.mem_singleton.mp ha0⟩ (by decide)
    have hH : TH E (tbM (mD (.inl (t, t)) (.inl ((-2147483648), 2147483647)) (.inl (g_8, g_8)) (.inl un) (.inl tk) (.inl xt) (.inl (g_9, g_9)) (.inl (g_10, g_10)) (.inl (0, 1))) nw ws kp as (xD 660 G_3) sc (xB 400 T) ik) H := hH
    refine lv_aload_n F.1 F.2.1 dX7_readsAll_22 rfl (lv_at hl 0 rfl) ?_
    refine tGetR (j := 36) F hK hH (tyb ha0 (all1 rfl)) rfl (all1 rfl) clX7 (by decide) wd_7_5 dX7_readsAll_23 (fun q_11 hq_11 _ => ?_)
    refine lv_iconst (v := 4) F.1 F.2.1 dX7_readsAll_26 (by decide) ?_
    refine topK (a := 4) (by decide) (fun k_12 hk_12 => ?_)
    refine lv_bipush (v := 100) F.1 F.2.1 dX7_readsAll_27 (by decide) ?_
    refine topK (a := 100) (by decide) (fun k_13 hk_13 => ?_)
    refine tIastX (t := 29) F hK hH hS (List.mem_singleton.mp hq_11) (by decide) rfl (ixb (n := 660) (eqb hk_12) rfl rfl) dX7_readsAll_29 (fun G_14 eG_14 H locs hH hS => ?_)
    have hH : TH E (tbM (mD (.inl (t, t)) (.inl ((-2147483648), 2147483647)) (.inl (g_8, g_8)) (.inl un) (.inl tk) (.inl xt) (.inl (g_9, g_9)) (.inl (g_10, g_10)) (.inl (0, 1))) nw ws kp as (xD 660 G_14) sc (xB 400 T) ik) H := hH
    have hZG_14 : ∀ j : Nat, j < 660 → j ≠ 4 → xI G_14 j = 0 := fun j h1_ h2_ => (gI_ne eG_14 (by omega) (by omega)).trans (hZG_3 j h1_)
    have n0G_14 : gI G_14 0 = gI G_3 0 := gI_ne eG_14 (by omega) (by omega)
    have n1G_14 : gI G_14 1 = gI G_3 1 := gI_ne eG_14 (by omega) (by omega)
    have n2G_14 : gI G_14 2 = gI G_3 2 := gI_ne eG_14 (by omega) (by omega)
    have n6G_14 : gI G_14 6 = gI G_3 6 := gI_ne eG_14 (by omega) (by omega)
    have n3G_14 : gI G_14 3 = gI G_3 3 := gI_ne eG_14 (by omega) (by omega)
    have hG_14 : okR G_14 := (okR.stM hRG_3 eG_14 (by omega) (by omega) (by omega) (phiI (by omega) (by omega) (by omega) (by omega) (by omega) (by omega) (by omega) (by omega) (by omega) (by omega) (by omega) (by omega) (by omega) (by omega) (by omega) (by omega) (by omega) (by omega)) (by omega))
    have hBG_14 := (okB hG_14.1).1
    refine lv_aload_n F.1 F.2.1 dX7_readsAll_30 rfl (lv_at hl 0 rfl) ?_
    refine lv_iconst (v := 0) F.1 F.2.1 dX7_readsAll_31 (by decide) ?_
    refine topK (a := 0) (by decide) (fun k_15 hk_15 => ?_)
    refine tPutG (j := 35) (t := 24) (fd := (.inl (0, 0))) F hK hH hS (List.mem_singleton.mp ha0) (by decide) rfl rfl (fdI (by omega)) (TB1 := (tbM (mD (.inl (t, t)) (.inl ((-2147483648), 2147483647)) (.inl (g_8, g_8)) (.inl un) (.inl tk) (.inl xt) (.inl (g_9, g_9)) (.inl (g_10, g_10)) (.inl (0, 0))) nw ws kp as (xD 660 G_14) sc (xB 400 T) ik)) rfl clX7 (by decide) wd_15_20 rfl rfl (nar01 (wkb (eqb hk_15) rfl rfl)) (fit01 (wkb (eqb hk_15) rfl rfl)) dX7_readsAll_32 (fun H locs hH hS => ?_)
    refine lv_aload_n F.1 F.2.1 dX7_readsAll_35 rfl (lv_at hl 0 rfl) ?_
    refine lv_iconst (v := 0) F.1 F.2.1 dX7_readsAll_36 (by decide) ?_
    refine topK (a := 0) (by decide) (fun k_16 hk_16 => ?_)
    refine tPutG (j := 31) (t := 24) (fd := (.inl (0, 0))) F hK hH hS (List.mem_singleton.mp ha0) (by decide) rfl rfl (fdI (by omega)) (TB1 := (tbM (mD (.inl (t, t)) (.inl (0, 0)) (.inl (g_8, g_8)) (.inl un) (.inl tk) (.inl xt) (.inl (g_9, g_9)) (.inl (g_10, g_10)) (.inl (0, 0))) nw ws kp as (xD 660 G_14) sc (xB 400 T) ik)) rfl clX7 (by decide) wd_15_21 rfl rfl rfl rfl dX7_readsAll_37 (fun H locs hH hS => ?_)
    refine lv_aload_n F.1 F.2.1 dX7_readsAll_40 rfl (lv_at hl 0 rfl) ?_
    refine tVi (b := a0) (As := []) (rest := []) F hK hN hO (c_X7_nextByte E nw ws kp as (xD 660 G_14) sc ik un tk xt t 0 g_9 g_8 g_10 0 T a0 ha0 (by omega) (by omega) (by omega) (by omega) (by omega) (by omega) hT (by omega)) mv_X7_nextByte wd_15_22 ⟨Nat.le_of_ble_eq_true rfl, Nat.le_of_ble_eq_true rfl⟩ ⟨Nat.le_of_ble_eq_true rfl, Nat.le_of_ble_eq_true rfl⟩ hH hS (tRecv hK hH (tyb ha0 (all1 rfl)) clX7) rfl hl.1 (Nat.le_of_ble_eq_true rfl) dX7_readsAll_41 (fun z_17 H locs hq hS => ?_)
    obtain ⟨g_18, hg_18, f_19, f_20, hH⟩ := hq
    have hH : TH E (tbM (mD (.inl (t, t)) (.inl (g_18, g_18)) (.inl (g_8, g_8)) (.inl un) (.inl tk) (.inl xt) (.inl (g_9, g_9)) (.inl (g_10, g_10)) (.inl (0, 0))) nw ws kp as (xD 660 G_14) sc (xB 400 T) ik) H := hH
    refine lv_iconst (v := (-1)) F.1 F.2.1 dX7_readsAll_44 (by decide) ?_
    refine topK (a := (-1)) (by decide) (fun k_21 hk_21 => ?_)
    refine b_ne (tgt := 50) F dX7_readsAll_45 (by decide) (fun c_22 => ?_) (fun c_22 => ?_)
    · skip
      have r_23 : 0 ≤ z_17.toInt ∧ z_17.toInt ≤ 255 := by have h9_ := f_19; omega
      refine lv_aload_n F.1 F.2.1 dX7_readsAll_50 rfl (lv_at hl 0 rfl) ?_
      refine tVi (b := a0) (As := []) (rest := []) F hK hN hO (c_X7_readsPart E nw ws kp as sc ik un tk xt t g_18 g_9 g_8 g_10 0 G_14 T a0 ha0 (by omega) (by omega) (by omega) (by omega) (by omega) (by omega) hG_14 hT (by omega)) mv_X7_readsPart wd_16_6 ⟨Nat.le_of_ble_eq_true rfl, Nat.le_of_ble_eq_true rfl⟩ ⟨Nat.le_of_ble_eq_true rfl, Nat.le_of_ble_eq_true rfl⟩ hH hS (tRecv hK hH (tyb ha0 (all1 rfl)) clX7) rfl hl.1 (Nat.le_of_ble_eq_true rfl) dX7_readsAll_51 (fun z_25 H locs hq hS => ?_)
      obtain ⟨g_26, hg_26, g_27, hg_27, g_28, hg_28, g_29, hg_29, g_30, hg_30, g_31, hg_31, f_32, hH⟩ := hq
      have hH : TH E (tbM (mD (.inl (t, t)) (.inl (g_26, g_26)) (.inl (g_27, g_27)) (.inl un) (.inl tk) (.inl xt) (.inl (g_28, g_28)) (.inl (g_29, g_29)) (.inl (g_30, g_30))) nw ws kp as (xD 660 g_31) sc (xB 400 T) ik) H := hH
      have hBg_31 := (okB hg_31.1.1).1
      refine lv_istore_n (lv' := [(1, .int z_25), (0, .ref a0)]) F.1 F.2.1 dX7_readsAll_54 rfl hl (by decide) rfl (fun ls hl => ?_)
      refine wloop (σ := Int32 × Int × Int × Int × Int × Int × (Nat → Int32)) (fun n9 x9 H locs ls => (401 - x9.2.1).toNat < n9 ∧ (0 ≤ x9.1.toInt ∧ x9.1.toInt ≤ 1) ∧ (0 ≤ x9.2.1 ∧ x9.2.1 ≤ 400) ∧ (0 ≤ x9.2.2.1 ∧ x9.2.2.1 ≤ 4000) ∧ ((-2147483648) ≤ x9.2.2.2.1 ∧ x9.2.2.2.1 ≤ 2147483647) ∧ ((-2147483648) ≤ x9.2.2.2.2.1 ∧ x9.2.2.2.2.1 ≤ 2147483647) ∧ (0 ≤ x9.2.2.2.2.2.1 ∧ x9.2.2.2.2.2.1 ≤ 1) ∧ (okR x9.2.2.2.2.2.2) ∧ (mInv T t (x9.1.toInt) x9.2.2.1 (x9.2.1, x9.2.2.2.2.2.1, x9.2.2.2.2.2.2) G_14) ∧ (x9.2.1 ≤ t) ∧ TH E (tbM (mD (.inl (t, t)) (.inl (x9.2.1, x9.2.1)) (.inl (x9.2.2.2.1, x9.2.2.2.1)) (.inl un) (.inl tk) (.inl xt) (.inl (x9.2.2.1, x9.2.2.1)) (.inl (x9.2.2.2.2.1, x9.2.2.2.2.1)) (.inl (x9.2.2.2.2.2.1, x9.2.2.2.2.2.1))) nw ws kp as (xD 660 x9.2.2.2.2.2.2) sc (xB 400 T) ik) H ∧ va_S (eA E s.heap.size) s.heap H locs ∧ lv_has ls 2 [(0, .ref a0), (1, .int x9.1)]) ?_ (fun x9 H locs ls h => absurd h.1 (Nat.not_lt_zero _)) _ (z_25, g_26, g_28, g_27, g_29, g_30, g_31) ⟨Nat.lt_succ_self _, f_32, (show 0 ≤ g_26 ∧ g_26 ≤ 400 from by omega), (show 0 ≤ g_28 ∧ g_28 ≤ 4000 from by omega), (show (-2147483648) ≤ g_27 ∧ g_27 ≤ 2147483647 from by omega), (show (-2147483648) ≤ g_29 ∧ g_29 ≤ 2147483647 from by omega), (show 0 ≤ g_30 ∧ g_30 ≤ 1 from by omega), hg_31.1, (show mInv T t (z_25.toInt) g_28 (g_26, g_30, g_31) G_14 from (inv_0 hg_18.2.2.2.2 hg_31.2 (by omega) (by omega) (by show _ - g_26 ≤ _; omega))), (show g_26 ≤ t from by omega), hH, hS, lv_sub hl [1, 0] rfl⟩
      intro n_55 ih_55 ⟨u_33, g_34, g_35, g_36, g_37, g_38, G_39⟩ H locs ls ⟨hm_55, hu_33, hg_34, hg_35, hg_36, hg_37, hg_38, hG_39, hcr55_0, hcr55_1, hH, hS, hl⟩
      have hm_55 : (401 - g_34).toNat < n_55 + 1 := hm_55
      have hu_33 : (0 ≤ u_33.toInt ∧ u_33.toInt ≤ 1) := hu_33
      have hg_34 : (0 ≤ g_34 ∧ g_34 ≤ 400) := hg_34
      have hg_35 : (0 ≤ g_35 ∧ g_35 ≤ 4000) := hg_35
      have hg_36 : ((-2147483648) ≤ g_36 ∧ g_36 ≤ 2147483647) := hg_36
      have hg_37 : ((-2147483648) ≤ g_37 ∧ g_37 ≤ 2147483647) := hg_37
      have hg_38 : (0 ≤ g_38 ∧ g_38 ≤ 1) := hg_38
      have hG_39 : (okR G_39) := hG_39
      have hcr55_0 : (mInv T t (u_33.toInt) g_35 (g_34, g_38, G_39) G_14) := hcr55_0
      have hcr55_1 : (g_34 ≤ t) := hcr55_1
      have hH : TH E (tbM (mD (.inl (t, t)) (.inl (g_34, g_34)) (.inl (g_36, g_36)) (.inl un) (.inl tk) (.inl xt) (.inl (g_35, g_35)) (.inl (g_37, g_37)) (.inl (g_38, g_38))) nw ws kp as (xD 660 G_39) sc (xB 400 T) ik) H := hH
      have hl : lv_has ls 2 [(0, .ref a0), (1, .int u_33)] := hl
      have hBG_39 := (okB hG_39.1).1
      refine lv_iload_n F.1 F.2.1 dX7_readsAll_55 rfl (lv_at hl 1 rfl) ?_
      refine z_eq (tgt := 86) F dX7_readsAll_56 (by decide) (fun c_40 => ?_) (fun c_40 => ?_)
      · skip
        have r_41 : 0 ≤ u_33.toInt ∧ u_33.toInt ≤ 0 := by have h9_ := hu_33; omega
        refine lv_iload_n F.1 F.2.1 dX7_readsAll_86 rfl (lv_at hl 1 rfl) ?_
        refine z_eq (tgt := 114) F dX7_readsAll_87 (by decide) (fun c_43 => ?_) (fun c_43 => absurd c_43 (by omega))
        refine lv_iconst (v := 0) F.1 F.2.1 dX7_readsAll_114 (by decide) ?_
        refine topK (a := 0) (by decide) (fun k_44 hk_44 => ?_)
        exact txI F hS dX7_readsAll_115 (nar01 (wkb (eqb hk_44) rfl rfl)) (⟨g_34, (by omega), g_35, (by omega), g_38, (by omega), G_39, ⟨hG_39, ⟨G_14, hZG_14, (inv_bad (v := k_44.toInt) hcr55_0 (by omega) (by omega))⟩⟩, (wkb (eqb hk_44) rfl rfl), (TH.loose (t := 24) (TB1 := (tbM (mD (.inl (t, t)) (.inl (g_34, g_34)) (.inl ((-2147483648), 2147483647)) (.inl un) (.inl tk) (.inl xt) (.inl (g_35, g_35)) (.inl ((-2147483648), 2147483647)) (.inl (g_38, g_38))) nw ws kp as (xD 660 G_39) sc (xB 400 T) ik)) (TH.loose (t := 24) (TB1 := (tbM (mD (.inl (t, t)) (.inl (g_34, g_34)) (.inl ((-2147483648), 2147483647)) (.inl un) (.inl tk) (.inl xt) (.inl (g_35, g_35)) (.inl (g_37, g_37)) (.inl (g_38, g_38))) nw ws kp as (xD 660 G_39) sc (xB 400 T) ik)) hH rfl (tcLoose (j := 33) rfl (by omega)) rfl) rfl (tcLoose (j := 34) rfl (by omega)) rfl)⟩)
      · skip
        have r_42 : 1 ≤ u_33.toInt ∧ u_33.toInt ≤ 1 := by have h9_ := hu_33; omega
        refine lv_aload_n F.1 F.2.1 dX7_readsAll_59 rfl (lv_at hl 0 rfl) ?_
        refine tVi (b := a0) (As := []) (rest := []) F hK hN hO (c_X7_nextByte E nw ws kp as (xD 660 G_39) sc ik un tk xt t g_34 g_35 g_36 g_37 g_38 T a0 ha0 (by omega) (by omega) (by omega) (by omega) (by omega) (by omega) hT (by omega)) mv_X7_nextByte wd_15_22 ⟨Nat.le_of_ble_eq_true rfl, Nat.le_of_ble_eq_true rfl⟩ ⟨Nat.le_of_ble_eq_true rfl, Nat.le_of_ble_eq_true rfl⟩ hH hS (tRecv hK hH (tyb ha0 (all1 rfl)) clX7) rfl hl.1 (Nat.le_of_ble_eq_true rfl) dX7_readsAll_60 (fun z_45 H locs hq hS => ?_)
        obtain ⟨g_46, hg_46, f_47, f_48, hH⟩ := hq
        have hH : TH E (tbM (mD (.inl (t, t)) (.inl (g_46, g_46)) (.inl (g_36, g_36)) (.inl un) (.inl tk) (.inl xt) (.inl (g_35, g_35)) (.inl (g_37, g_37)) (.inl (g_38, g_38))) nw ws kp as (xD 660 G_39) sc (xB 400 T) ik) H := hH
        refine lv_bipush (v := 59) F.1 F.2.1 dX7_readsAll_63 (by decide) ?_
        refine topK (a := 59) (by decide) (fun k_49 hk_49 => ?_)
        refine b_ne (tgt := 86) F dX7_readsAll_65 (by decide) (fun c_50 => ?_) (fun c_50 => ?_)
        · skip
          refine lv_iload_n F.1 F.2.1 dX7_readsAll_86 rfl (lv_at hl 1 rfl) ?_
          refine z_eq (tgt := 114) F dX7_readsAll_87 (by decide) (fun c_52 => absurd c_52 (by omega)) (fun c_52 => ?_)
          refine lv_aload_n F.1 F.2.1 dX7_readsAll_90 rfl (lv_at hl 0 rfl) ?_
          refine tVi (b := a0) (As := []) (rest := []) F hK hN hO (c_X7_nextByte E nw ws kp as (xD 660 G_39) sc ik un tk xt t g_46 g_35 g_36 g_37 g_38 T a0 ha0 (by omega) (by omega) (by omega) (by omega) (by omega) (by omega) hT (by omega)) mv_X7_nextByte wd_15_22 ⟨Nat.le_of_ble_eq_true rfl, Nat.le_of_ble_eq_true rfl⟩ ⟨Nat.le_of_ble_eq_true rfl, Nat.le_of_ble_eq_true rfl⟩ hH hS (tRecv hK hH (tyb ha0 (all1 rfl)) clX7) rfl hl.1 (Nat.le_of_ble_eq_true rfl) dX7_readsAll_91 (fun z_53 H locs hq hS => ?_)
          obtain ⟨g_54, hg_54, f_55, f_56, hH⟩ := hq
          have hH : TH E (tbM (mD (.inl (t, t)) (.inl (g_54, g_54)) (.inl (g_36, g_36)) (.inl un) (.inl tk) (.inl xt) (.inl (g_35, g_35)) (.inl (g_37, g_37)) (.inl (g_38, g_38))) nw ws kp as (xD 660 G_39) sc (xB 400 T) ik) H := hH
          refine lv_iconst (v := (-1)) F.1 F.2.1 dX7_readsAll_94 (by decide) ?_
          refine topK (a := (-1)) (by decide) (fun k_57 hk_57 => ?_)
          refine b_eq (tgt := 110) F dX7_readsAll_95 (by decide) (fun c_58 => ?_) (fun c_58 => ?_)
          · skip
            have r_59 : (-1) ≤ z_53.toInt ∧ z_53.toInt ≤ (-1) := by have h9_ := f_55; omega
            refine lv_iconst (v := 1) F.1 F.2.1 dX7_readsAll_110 (by decide) ?_
            refine topK (a := 1) (by decide) (fun k_61 hk_61 => ?_)
            refine lv_goto (tgt := 115) F.1 F.2.1 dX7_readsAll_111 (by decide) ?_
            exact txI F hS dX7_readsAll_115 (nar01 (wkb (eqb hk_61) rfl rfl)) (⟨g_54, (by omega), g_35, (by omega), g_38, (by omega), G_39, ⟨hG_39, ⟨G_14, hZG_14, (inv_end (v := k_61.toInt) (wr2 := g_35) hcr55_0 hg_46.2.2.2.2 hg_54.2.2.2.2 (by omega) (by omega) (by omega))⟩⟩, (wkb (eqb hk_61) rfl rfl), (TH.loose (t := 24) (TB1 := (tbM (mD (.inl (t, t)) (.inl (g_54, g_54)) (.inl ((-2147483648), 2147483647)) (.inl un) (.inl tk) (.inl xt) (.inl (g_35, g_35)) (.inl ((-2147483648), 2147483647)) (.inl (g_38, g_38))) nw ws kp as (xD 660 G_39) sc (xB 400 T) ik)) (TH.loose (t := 24) (TB1 := (tbM (mD (.inl (t, t)) (.inl (g_54, g_54)) (.inl ((-2147483648), 2147483647)) (.inl un) (.inl tk) (.inl xt) (.inl (g_35, g_35)) (.inl (g_37, g_37)) (.inl (g_38, g_38))) nw ws kp as (xD 660 G_39) sc (xB 400 T) ik)) hH rfl (tcLoose (j := 33) rfl (by omega)) rfl) rfl (tcLoose (j := 34) rfl (by omega)) rfl)⟩)
          · skip
            have r_60 : 0 ≤ z_53.toInt ∧ z_53.toInt ≤ 255 := by have h9_ := f_55; omega
            refine lv_aload_n F.1 F.2.1 dX7_readsAll_98 rfl (lv_at hl 0 rfl) ?_
            refine lv_iconst (v := 1) F.1 F.2.1 dX7_readsAll_99 (by decide) ?_
            refine topK (a := 1) (by decide) (fun k_62 hk_62 => ?_)
            refine lv_aload_n F.1 F.2.1 dX7_readsAll_100 rfl (lv_at hl 0 rfl) ?_
            refine tGetI (j := 31) F hK hH (tyb ha0 (all1 rfl)) rfl clX7 (by decide) wd_15_21 dX7_readsAll_101 (fun z_63 hz_63 => ?_)
            have ez_63 : 0 ≤ z_63.toInt ∧ z_63.toInt ≤ 400 := by omega
            refine tVi (b := a0) (As := [.int k_62, .int z_63]) (rest := []) F hK hN hO (c_X7_fails E nw ws kp as (xD 660 G_39) sc ik un tk xt t g_54 g_35 g_36 g_37 g_38 T a0 k_62 z_63 ha0 (wkb (eqb hk_62) rfl rfl) ez_63 (by omega) (by omega) (by omega) (by omega) (by omega) (by omega) hT (by omega)) mv_X7_fails wd_17_2 ⟨Nat.le_of_ble_eq_true rfl, Nat.le_of_ble_eq_true rfl⟩ ⟨Nat.le_of_ble_eq_true rfl, Nat.le_of_ble_eq_true rfl⟩ hH hS (tRecv hK hH (tyb ha0 (all1 rfl)) clX7) rfl hl.1 (Nat.le_of_ble_eq_true rfl) dX7_readsAll_104 (fun z_64 H locs hq hS => ?_)
            obtain ⟨g_65, hg_65, f_66, f_67, hH⟩ := hq
            have hH : TH E (tbM (mD (.inl (t, t)) (.inl (g_54, g_54)) (.inl (g_36, g_36)) (.inl un) (.inl tk) (.inl xt) (.inl (g_65, g_65)) (.inl (g_37, g_37)) (.inl (g_38, g_38))) nw ws kp as (xD 660 G_39) sc (xB 400 T) ik) H := hH
            refine z_eq (tgt := 114) F dX7_readsAll_107 (by decide) (fun c_68 => ?_) (fun c_68 => absurd c_68 (by omega))
            refine lv_iconst (v := 0) F.1 F.2.1 dX7_readsAll_114 (by decide) ?_
            refine topK (a := 0) (by decide) (fun k_69 hk_69 => ?_)
            exact txI F hS dX7_readsAll_115 (nar01 (wkb (eqb hk_69) rfl rfl)) (⟨g_54, (by omega), g_65, (by omega), g_38, (by omega), G_39, ⟨hG_39, ⟨G_14, hZG_14, (inv_no (v := k_69.toInt) hcr55_0 hg_46.2.2.2.2 hg_54.2.2.2.2 (by omega) (by omega) (by omega) (by omega) (by omega))⟩⟩, (wkb (eqb hk_69) rfl rfl), (TH.loose (t := 24) (TB1 := (tbM (mD (.inl (t, t)) (.inl (g_54, g_54)) (.inl ((-2147483648), 2147483647)) (.inl un) (.inl tk) (.inl xt) (.inl (g_65, g_65)) (.inl ((-2147483648), 2147483647)) (.inl (g_38, g_38))) nw ws kp as (xD 660 G_39) sc (xB 400 T) ik)) (TH.loose (t := 24) (TB1 := (tbM (mD (.inl (t, t)) (.inl (g_54, g_54)) (.inl ((-2147483648), 2147483647)) (.inl un) (.inl tk) (.inl xt) (.inl (g_65, g_65)) (.inl (g_37, g_37)) (.inl (g_38, g_38))) nw ws kp as (xD 660 G_39) sc (xB 400 T) ik)) hH rfl (tcLoose (j := 33) rfl (by omega)) rfl) rfl (tcLoose (j := 34) rfl (by omega)) rfl)⟩)
        · skip
          have r_51 : 59 ≤ z_45.toInt ∧ z_45.toInt ≤ 59 := by have h9_ := f_47; omega
          refine lv_aload_n F.1 F.2.1 dX7_readsAll_68 rfl (lv_at hl 0 rfl) ?_
          refine lv_dup F.1 F.2.1 dX7_readsAll_69 rfl ?_
          refine tGetI (j := 31) F hK hH (tyb ha0 (all1 rfl)) rfl clX7 (by decide) wd_15_21 dX7_readsAll_70 (fun z_70 hz_70 => ?_)
          have ez_70 : 0 ≤ z_70.toInt ∧ z_70.toInt ≤ 400 := by omega
          refine lv_iconst (v := 1) F.1 F.2.1 dX7_readsAll_73 (by decide) ?_
          refine topK (a := 1) (by decide) (fun k_71 hk_71 => ?_)
          refine tAdd (lo := 1) (hi := 401) F dX7_readsAll_74 ez_70 (eqb hk_71) rfl (fun z_72 hz_72 => ?_)
          obtain ⟨g_73, hg_73⟩ : ∃ y : Int, z_72.toInt = y := ⟨_, rfl⟩
          have bg_73 : 1 ≤ g_73 ∧ g_73 ≤ 401 := by rw [← hg_73]; exact hz_72.2
          refine tPutG (j := 31) (t := 24) (fd := (.inl (g_73, g_73))) F hK hH hS (List.mem_singleton.mp ha0) (by decide) rfl rfl (fdI (by omega)) (TB1 := (tbM (mD (.inl (t, t)) (.inl (g_73, g_73)) (.inl (g_36, g_36)) (.inl un) (.inl tk) (.inl xt) (.inl (g_35, g_35)) (.inl (g_37, g_37)) (.inl (g_38, g_38))) nw ws kp as (xD 660 G_39) sc (xB 400 T) ik)) rfl clX7 (by decide) wd_15_21 rfl rfl rfl rfl dX7_readsAll_75 (fun H locs hH hS => ?_)
          refine lv_aload_n F.1 F.2.1 dX7_readsAll_78 rfl (lv_at hl 0 rfl) ?_
          refine tVi (b := a0) (As := []) (rest := []) F hK hN hO (c_X7_readsPart E nw ws kp as sc ik un tk xt t g_73 g_35 g_36 g_37 g_38 G_39 T a0 ha0 (by omega) (by omega) (by omega) (by omega) (by omega) (by omega) hG_39 hT (by omega)) mv_X7_readsPart wd_16_6 ⟨Nat.le_of_ble_eq_true rfl, Nat.le_of_ble_eq_true rfl⟩ ⟨Nat.le_of_ble_eq_true rfl, Nat.le_of_ble_eq_true rfl⟩ hH hS (tRecv hK hH (tyb ha0 (all1 rfl)) clX7) rfl hl.1 (Nat.le_of_ble_eq_true rfl) dX7_readsAll_79 (fun z_74 H locs hq hS => ?_)
          obtain ⟨g_75, hg_75, g_76, hg_76, g_77, hg_77, g_78, hg_78, g_79, hg_79, g_80, hg_80, f_81, hH⟩ := hq
          have hH : TH E (tbM (mD (.inl (t, t)) (.inl (g_75, g_75)) (.inl (g_76, g_76)) (.inl un) (.inl tk) (.inl xt) (.inl (g_77, g_77)) (.inl (g_78, g_78)) (.inl (g_79, g_79))) nw ws kp as (xD 660 g_80) sc (xB 400 T) ik) H := hH
          have hBg_80 := (okB hg_80.1.1).1
          refine lv_istore_n (lv' := [(1, .int z_74), (0, .ref a0)]) F.1 F.2.1 dX7_readsAll_82 rfl hl (by decide) rfl (fun ls hl => ?_)
          refine lv_goto (tgt := 55) F.1 F.2.1 dX7_readsAll_83 (by decide) ?_
          exact ih_55 (z_74, g_75, g_77, g_76, g_78, g_79, g_80) _ _ _ ⟨(show (401 - g_75).toNat < n_55 from by omega), f_81, (show 0 ≤ g_75 ∧ g_75 ≤ 400 from by omega), (show 0 ≤ g_77 ∧ g_77 ≤ 4000 from by omega), (show (-2147483648) ≤ g_76 ∧ g_76 ≤ 2147483647 from by omega), (show (-2147483648) ≤ g_78 ∧ g_78 ≤ 2147483647 from by omega), (show 0 ≤ g_79 ∧ g_79 ≤ 1 from by omega), hg_80.1, (show mInv T t (z_74.toInt) g_77 (g_75, g_79, g_80) G_14 from (inv_step hcr55_0 hg_46.2.2.2.2 hg_80.2 (by omega) (by omega) (by omega) (by omega) (by show _ ≤ g_75; omega) (by omega))), (show g_75 ≤ t from by omega), hH, hS, lv_sub hl [1, 0] rfl⟩
    · skip
      have r_24 : (-1) ≤ z_17.toInt ∧ z_17.toInt ≤ (-1) := by have h9_ := f_19; omega
      refine lv_iconst (v := 1) F.1 F.2.1 dX7_readsAll_48 (by decide) ?_
      refine topK (a := 1) (by decide) (fun k_82 hk_82 => ?_)
      exact txI F hS dX7_readsAll_49 (nar01 (wkb (eqb hk_82) rfl rfl)) (⟨g_18, (by omega), g_9, (by omega), 0, (by omega), G_14, ⟨hG_14, ⟨G_14, hZG_14, (run_none (v := k_82.toInt) (wr := g_9) hg_18.2.2.2.2 (by omega) (by omega) (by omega))⟩⟩, (wkb (eqb hk_82) rfl rfl), (TH.loose (t := 24) (TB1 := (tbM (mD (.inl (t, t)) (.inl (g_18, g_18)) (.inl ((-2147483648), 2147483647)) (.inl un) (.inl tk) (.inl xt) (.inl (g_9, g_9)) (.inl ((-2147483648), 2147483647)) (.inl (0, 0))) nw ws kp as (xD 660 G_14) sc (xB 400 T) ik)) (TH.loose (t := 24) (TB1 := (tbM (mD (.inl (t, t)) (.inl (g_18, g_18)) (.inl ((-2147483648), 2147483647)) (.inl un) (.inl tk) (.inl xt) (.inl (g_9, g_9)) (.inl (g_10, g_10)) (.inl (0, 0))) nw ws kp as (xD 660 G_14) sc (xB 400 T) ik)) hH rfl (tcLoose (j := 33) rfl (by omega)) rfl) rfl (tcLoose (j := 34) rfl (by omega)) rfl)⟩)
  · skip
    have r_7 : 0 ≤ u_2.toInt ∧ u_2.toInt ≤ 659 := by have h9_ := hu_2; omega
    refine lv_aload_n F.1 F.2.1 dX7_readsAll_9 rfl (lv_at hl 0 rfl) ?_
    refine tGetR (j := 36) F hK hH (tyb ha0 (all1 rfl)) rfl (all1 rfl) clX7 (by decide) wd_7_5 dX7_readsAll_10 (fun q_83 hq_83 _ => ?_)
    refine lv_iload_n F.1 F.2.1 dX7_readsAll_13 rfl (lv_at hl 1 rfl) ?_
    refine lv_iconst (v := 0) F.1 F.2.1 dX7_readsAll_14 (by decide) ?_
    refine topK (a := 0) (by decide) (fun k_84 hk_84 => ?_)
    refine tIastX (t := 29) F hK hH hS (List.mem_singleton.mp hq_83) (by decide) rfl (ixb (n := 660) r_7 rfl rfl) dX7_readsAll_15 (fun G_85 eG_85 H locs hH hS => ?_)
    have hH : TH E (tbM (mD (.inl (t, t)) (.inl ((-2147483648), 2147483647)) (.inl ((-2147483648), 2147483647)) (.inl un) (.inl tk) (.inl xt) (.inl (0, 4000)) (.inl ((-2147483648), 2147483647)) (.inl (0, 1))) nw ws kp as (xD 660 G_85) sc (xB 400 T) ik) H := hH
    obtain ⟨x_86, ex_86, hx_86⟩ := iincB (c := 1) (lo := 1) (hi := 660) r_7 rfl
    refine lv_iinc (v := x_86) (lv' := [(1, .int x_86), (0, .ref a0)]) F.1 F.2.1 dX7_readsAll_16 hl (k := 1) rfl ex_86 (by decide) rfl (fun ls hl => ?_)
    refine lv_goto (tgt := 2) F.1 F.2.1 dX7_readsAll_19 (by decide) ?_
    exact ih_2 (x_86, G_85) _ _ _ ⟨(show (660 - x_86.toInt + 1).toNat < n_2 from by omega), (wkb hx_86.2 rfl rfl), trivial, (show zf G_85 (x_86.toInt) from zf.step hcr2_0 eG_85 (by omega) (by omega) (by omega) (by omega)), hH, hS, lv_sub hl [1, 0] rfl⟩
