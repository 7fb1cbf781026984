theorem dX7_laysOrder_0 : decode cX7_laysOrder 0 = .ok (.aload_n 0, 1) := by decide +kernel
theorem dX7_laysOrder_1 : decode cX7_laysOrder 1 = .ok (.iconst 0, 1) := by decide +kernel
theorem dX7_laysOrder_2 : decode cX7_laysOrder 2 = .ok (.putfield 122, 3) := by decide +kernel
theorem dX7_laysOrder_5 : decode cX7_laysOrder 5 = .ok (.iconst 0, 1) := by decide +kernel
theorem dX7_laysOrder_6 : decode cX7_laysOrder 6 = .ok (.istore_n 1, 1) := by decide +kernel
theorem dX7_laysOrder_7 : decode cX7_laysOrder 7 = .ok (.iload_n 1, 1) := by decide +kernel
theorem dX7_laysOrder_8 : decode cX7_laysOrder 8 = .ok (.bipush 18, 2) := by decide +kernel
theorem dX7_laysOrder_10 : decode cX7_laysOrder 10 = .ok (.if_icmp .ge 86, 3) := by decide +kernel
theorem dX7_laysOrder_13 : decode cX7_laysOrder 13 = .ok (.aload_n 0, 1) := by decide +kernel
theorem dX7_laysOrder_14 : decode cX7_laysOrder 14 = .ok (.iload_n 1, 1) := by decide +kernel
theorem dX7_laysOrder_15 : decode cX7_laysOrder 15 = .ok (.invokevirtual 125, 3) := by decide +kernel
theorem dX7_laysOrder_18 : decode cX7_laysOrder 18 = .ok (.ifCond .ne 6, 3) := by decide +kernel
theorem dX7_laysOrder_21 : decode cX7_laysOrder 21 = .ok (.goto 69, 3) := by decide +kernel
theorem dX7_laysOrder_24 : decode cX7_laysOrder 24 = .ok (.aload_n 0, 1) := by decide +kernel
theorem dX7_laysOrder_25 : decode cX7_laysOrder 25 = .ok (.getfield 122, 3) := by decide +kernel
theorem dX7_laysOrder_28 : decode cX7_laysOrder 28 = .ok (.istore_n 2, 1) := by decide +kernel
theorem dX7_laysOrder_29 : decode cX7_laysOrder 29 = .ok (.iload_n 2, 1) := by decide +kernel
theorem dX7_laysOrder_30 : decode cX7_laysOrder 30 = .ok (.ifCond .le 43, 3) := by decide +kernel
theorem dX7_laysOrder_33 : decode cX7_laysOrder 33 = .ok (.aload_n 0, 1) := by decide +kernel
theorem dX7_laysOrder_34 : decode cX7_laysOrder 34 = .ok (.aload_n 0, 1) := by decide +kernel
theorem dX7_laysOrder_35 : decode cX7_laysOrder 35 = .ok (.getfield 39, 3) := by decide +kernel
theorem dX7_laysOrder_38 : decode cX7_laysOrder 38 = .ok (.iload_n 2, 1) := by decide +kernel
theorem dX7_laysOrder_39 : decode cX7_laysOrder 39 = .ok (.iconst 1, 1) := by decide +kernel
theorem dX7_laysOrder_40 : decode cX7_laysOrder 40 = .ok (.isub, 1) := by decide +kernel
theorem dX7_laysOrder_41 : decode cX7_laysOrder 41 = .ok (.iaload, 1) := by decide +kernel
theorem dX7_laysOrder_42 : decode cX7_laysOrder 42 = .ok (.invokevirtual 129, 3) := by decide +kernel
theorem dX7_laysOrder_45 : decode cX7_laysOrder 45 = .ok (.aload_n 0, 1) := by decide +kernel
theorem dX7_laysOrder_46 : decode cX7_laysOrder 46 = .ok (.iload_n 1, 1) := by decide +kernel
theorem dX7_laysOrder_47 : decode cX7_laysOrder 47 = .ok (.invokevirtual 129, 3) := by decide +kernel
theorem dX7_laysOrder_50 : decode cX7_laysOrder 50 = .ok (.if_icmp .le 23, 3) := by decide +kernel
theorem dX7_laysOrder_53 : decode cX7_laysOrder 53 = .ok (.aload_n 0, 1) := by decide +kernel
theorem dX7_laysOrder_54 : decode cX7_laysOrder 54 = .ok (.getfield 39, 3) := by decide +kernel
theorem dX7_laysOrder_57 : decode cX7_laysOrder 57 = .ok (.iload_n 2, 1) := by decide +kernel
theorem dX7_laysOrder_58 : decode cX7_laysOrder 58 = .ok (.aload_n 0, 1) := by decide +kernel
theorem dX7_laysOrder_59 : decode cX7_laysOrder 59 = .ok (.getfield 39, 3) := by decide +kernel
theorem dX7_laysOrder_62 : decode cX7_laysOrder 62 = .ok (.iload_n 2, 1) := by decide +kernel
theorem dX7_laysOrder_63 : decode cX7_laysOrder 63 = .ok (.iconst 1, 1) := by decide +kernel
theorem dX7_laysOrder_64 : decode cX7_laysOrder 64 = .ok (.isub, 1) := by decide +kernel
theorem dX7_laysOrder_65 : decode cX7_laysOrder 65 = .ok (.iaload, 1) := by decide +kernel
theorem dX7_laysOrder_66 : decode cX7_laysOrder 66 = .ok (.iastore, 1) := by decide +kernel
theorem dX7_laysOrder_67 : decode cX7_laysOrder 67 = .ok (.iinc 2 (-1), 3) := by decide +kernel
theorem dX7_laysOrder_70 : decode cX7_laysOrder 70 = .ok (.goto (-41), 3) := by decide +kernel
theorem dX7_laysOrder_73 : decode cX7_laysOrder 73 = .ok (.aload_n 0, 1) := by decide +kernel
theorem dX7_laysOrder_74 : decode cX7_laysOrder 74 = .ok (.getfield 39, 3) := by decide +kernel
theorem dX7_laysOrder_77 : decode cX7_laysOrder 77 = .ok (.iload_n 2, 1) := by decide +kernel
theorem dX7_laysOrder_78 : decode cX7_laysOrder 78 = .ok (.iload_n 1, 1) := by decide +kernel
theorem dX7_laysOrder_79 : decode cX7_laysOrder 79 = .ok (.iastore, 1) := by decide +kernel
theorem dX7_laysOrder_80 : decode cX7_laysOrder 80 = .ok (.aload_n 0, 1) := by decide +kernel
theorem dX7_laysOrder_81 : decode cX7_laysOrder 81 = .ok (.dup, 1) := by decide +kernel
theorem dX7_laysOrder_82 : decode cX7_laysOrder 82 = .ok (.getfield 122, 3) := by decide +kernel
theorem dX7_laysOrder_85 : decode cX7_laysOrder 85 = .ok (.iconst 1, 1) := by decide +kernel
theorem dX7_laysOrder_86 : decode cX7_laysOrder 86 = .ok (.iadd, 1) := by decide +kernel
theorem dX7_laysOrder_87 : decode cX7_laysOrder 87 = .ok (.putfield 122, 3) := by decide +kernel
theorem dX7_laysOrder_90 : decode cX7_laysOrder 90 = .ok (.iinc 1 1, 3) := by decide +kernel
theorem dX7_laysOrder_93 : decode cX7_laysOrder 93 = .ok (.goto (-86), 3) := by decide +kernel
theorem dX7_laysOrder_96 : decode cX7_laysOrder 96 = .ok (.return_, 1) := by decide +kernel
theorem dX7_canBe_0 : decode cX7_canBe 0 = .ok (.iconst 1, 1) := by decide +kernel
theorem dX7_canBe_1 : decode cX7_canBe 1 = .ok (.istore_n 1, 1) := by decide +kernel
theorem dX7_canBe_2 : decode cX7_canBe 2 = .ok (.iconst 0, 1) := by decide +kernel
theorem dX7_canBe_3 : decode cX7_canBe 3 = .ok (.istore_n 2, 1) := by decide +kernel
theorem dX7_canBe_4 : decode cX7_canBe 4 = .ok (.iload_n 2, 1) := by decide +kernel
theorem dX7_canBe_5 : decode cX7_canBe 5 = .ok (.aload_n 0, 1) := by decide +kernel
theorem dX7_canBe_6 : decode cX7_canBe 6 = .ok (.invokevirtual 92, 3) := by decide +kernel
theorem dX7_canBe_9 : decode cX7_canBe 9 = .ok (.if_icmp .ge 51, 3) := by decide +kernel
theorem dX7_canBe_12 : decode cX7_canBe 12 = .ok (.aload_n 0, 1) := by decide +kernel
theorem dX7_canBe_13 : decode cX7_canBe 13 = .ok (.getfield 48, 3) := by decide +kernel
theorem dX7_canBe_16 : decode cX7_canBe 16 = .ok (.iload_n 2, 1) := by decide +kernel
theorem dX7_canBe_17 : decode cX7_canBe 17 = .ok (.aload_n 0, 1) := by decide +kernel
theorem dX7_canBe_18 : decode cX7_canBe 18 = .ok (.iload_n 2, 1) := by decide +kernel
theorem dX7_canBe_19 : decode cX7_canBe 19 = .ok (.invokevirtual 133, 3) := by decide +kernel
theorem dX7_canBe_22 : decode cX7_canBe 22 = .ok (.aload_n 0, 1) := by decide +kernel
theorem dX7_canBe_23 : decode cX7_canBe 23 = .ok (.iload_n 2, 1) := by decide +kernel
theorem dX7_canBe_24 : decode cX7_canBe 24 = .ok (.iconst 0, 1) := by decide +kernel
theorem dX7_canBe_25 : decode cX7_canBe 25 = .ok (.invokevirtual 136, 3) := by decide +kernel
theorem dX7_canBe_28 : decode cX7_canBe 28 = .ok (.iadd, 1) := by decide +kernel
theorem dX7_canBe_29 : decode cX7_canBe 29 = .ok (.aload_n 0, 1) := by decide +kernel
theorem dX7_canBe_30 : decode cX7_canBe 30 = .ok (.getfield 45, 3) := by decide +kernel
theorem dX7_canBe_33 : decode cX7_canBe 33 = .ok (.iload_n 2, 1) := by decide +kernel
theorem dX7_canBe_34 : decode cX7_canBe 34 = .ok (.iaload, 1) := by decide +kernel
theorem dX7_canBe_35 : decode cX7_canBe 35 = .ok (.iadd, 1) := by decide +kernel
theorem dX7_canBe_36 : decode cX7_canBe 36 = .ok (.iload_n 2, 1) := by decide +kernel
theorem dX7_canBe_37 : decode cX7_canBe 37 = .ok (.aload_n 0, 1) := by decide +kernel
theorem dX7_canBe_38 : decode cX7_canBe 38 = .ok (.getfield 54, 3) := by decide +kernel
theorem dX7_canBe_41 : decode cX7_canBe 41 = .ok (.if_icmp .ne 10, 3) := by decide +kernel
theorem dX7_canBe_44 : decode cX7_canBe 44 = .ok (.aload_n 0, 1) := by decide +kernel
theorem dX7_canBe_45 : decode cX7_canBe 45 = .ok (.getfield 139, 3) := by decide +kernel
theorem dX7_canBe_48 : decode cX7_canBe 48 = .ok (.goto 4, 3) := by decide +kernel
theorem dX7_canBe_51 : decode cX7_canBe 51 = .ok (.iconst 0, 1) := by decide +kernel
theorem dX7_canBe_52 : decode cX7_canBe 52 = .ok (.iadd, 1) := by decide +kernel
theorem dX7_canBe_53 : decode cX7_canBe 53 = .ok (.iastore, 1) := by decide +kernel
theorem dX7_canBe_54 : decode cX7_canBe 54 = .ok (.iinc 2 1, 3) := by decide +kernel
theorem dX7_canBe_57 : decode cX7_canBe 57 = .ok (.goto (-53), 3) := by decide +kernel
theorem dX7_canBe_60 : decode cX7_canBe 60 = .ok (.aload_n 0, 1) := by decide +kernel
theorem dX7_canBe_61 : decode cX7_canBe 61 = .ok (.invokevirtual 92, 3) := by decide +kernel
theorem dX7_canBe_64 : decode cX7_canBe 64 = .ok (.iconst 1, 1) := by decide +kernel
theorem dX7_canBe_65 : decode cX7_canBe 65 = .ok (.isub, 1) := by decide +kernel
theorem dX7_canBe_66 : decode cX7_canBe 66 = .ok (.istore_n 2, 1) := by decide +kernel
theorem dX7_canBe_67 : decode cX7_canBe 67 = .ok (.iload_n 2, 1) := by decide +kernel
theorem dX7_canBe_68 : decode cX7_canBe 68 = .ok (.ifCond .lt 95, 3) := by decide +kernel
theorem dX7_canBe_71 : decode cX7_canBe 71 = .ok (.aload_n 0, 1) := by decide +kernel
theorem dX7_canBe_72 : decode cX7_canBe 72 = .ok (.getfield 48, 3) := by decide +kernel
theorem dX7_canBe_75 : decode cX7_canBe 75 = .ok (.iload_n 2, 1) := by decide +kernel
theorem dX7_canBe_76 : decode cX7_canBe 76 = .ok (.iaload, 1) := by decide +kernel
theorem dX7_canBe_77 : decode cX7_canBe 77 = .ok (.aload_n 0, 1) := by decide +kernel
theorem dX7_canBe_78 : decode cX7_canBe 78 = .ok (.getfield 42, 3) := by decide +kernel
theorem dX7_canBe_81 : decode cX7_canBe 81 = .ok (.iload_n 2, 1) := by decide +kernel
theorem dX7_canBe_82 : decode cX7_canBe 82 = .ok (.iaload, 1) := by decide +kernel
theorem dX7_canBe_83 : decode cX7_canBe 83 = .ok (.isub, 1) := by decide +kernel
theorem dX7_canBe_84 : decode cX7_canBe 84 = .ok (.istore_n 3, 1) := by decide +kernel
theorem dX7_canBe_85 : decode cX7_canBe 85 = .ok (.iload_n 1, 1) := by decide +kernel
theorem dX7_canBe_86 : decode cX7_canBe 86 = .ok (.ifCond .eq 11, 3) := by decide +kernel
theorem dX7_canBe_89 : decode cX7_canBe 89 = .ok (.iload_n 3, 1) := by decide +kernel
theorem dX7_canBe_90 : decode cX7_canBe 90 = .ok (.ifCond .lt 7, 3) := by decide +kernel
theorem dX7_canBe_93 : decode cX7_canBe 93 = .ok (.iconst 1, 1) := by decide +kernel
theorem dX7_canBe_94 : decode cX7_canBe 94 = .ok (.goto 4, 3) := by decide +kernel
theorem dX7_canBe_97 : decode cX7_canBe 97 = .ok (.iconst 0, 1) := by decide +kernel
theorem dX7_canBe_98 : decode cX7_canBe 98 = .ok (.istore_n 1, 1) := by decide +kernel
theorem dX7_canBe_99 : decode cX7_canBe 99 = .ok (.aload_n 0, 1) := by decide +kernel
theorem dX7_canBe_100 : decode cX7_canBe 100 = .ok (.getfield 51, 3) := by decide +kernel
theorem dX7_canBe_103 : decode cX7_canBe 103 = .ok (.iload_n 2, 1) := by decide +kernel
theorem dX7_canBe_104 : decode cX7_canBe 104 = .ok (.iload_n 3, 1) := by decide +kernel
theorem dX7_canBe_105 : decode cX7_canBe 105 = .ok (.aload_n 0, 1) := by decide +kernel
theorem dX7_canBe_106 : decode cX7_canBe 106 = .ok (.iload_n 2, 1) := by decide +kernel
theorem dX7_canBe_107 : decode cX7_canBe 107 = .ok (.iconst 1, 1) := by decide +kernel
theorem dX7_canBe_108 : decode cX7_canBe 108 = .ok (.invokevirtual 106, 3) := by decide +kernel
theorem dX7_canBe_111 : decode cX7_canBe 111 = .ok (.if_icmp .le 14, 3) := by decide +kernel
theorem dX7_canBe_114 : decode cX7_canBe 114 = .ok (.iload_n 3, 1) := by decide +kernel
theorem dX7_canBe_115 : decode cX7_canBe 115 = .ok (.aload_n 0, 1) := by decide +kernel
theorem dX7_canBe_116 : decode cX7_canBe 116 = .ok (.iload_n 2, 1) := by decide +kernel
theorem dX7_canBe_117 : decode cX7_canBe 117 = .ok (.iconst 1, 1) := by decide +kernel
theorem dX7_canBe_118 : decode cX7_canBe 118 = .ok (.invokevirtual 106, 3) := by decide +kernel
theorem dX7_canBe_121 : decode cX7_canBe 121 = .ok (.isub, 1) := by decide +kernel
theorem dX7_canBe_122 : decode cX7_canBe 122 = .ok (.goto 4, 3) := by decide +kernel
theorem dX7_canBe_125 : decode cX7_canBe 125 = .ok (.iconst 0, 1) := by decide +kernel
theorem dX7_canBe_126 : decode cX7_canBe 126 = .ok (.iastore, 1) := by decide +kernel
theorem dX7_canBe_127 : decode cX7_canBe 127 = .ok (.aload_n 0, 1) := by decide +kernel
theorem dX7_canBe_128 : decode cX7_canBe 128 = .ok (.iload_n 2, 1) := by decide +kernel
theorem dX7_canBe_129 : decode cX7_canBe 129 = .ok (.iconst 0, 1) := by decide +kernel
theorem dX7_canBe_130 : decode cX7_canBe 130 = .ok (.invokevirtual 106, 3) := by decide +kernel
theorem dX7_canBe_133 : decode cX7_canBe 133 = .ok (.iconst (-1), 1) := by decide +kernel
theorem dX7_canBe_134 : decode cX7_canBe 134 = .ok (.if_icmp .eq 23, 3) := by decide +kernel
theorem dX7_canBe_137 : decode cX7_canBe 137 = .ok (.aload_n 0, 1) := by decide +kernel
theorem dX7_canBe_138 : decode cX7_canBe 138 = .ok (.getfield 48, 3) := by decide +kernel
theorem dX7_canBe_141 : decode cX7_canBe 141 = .ok (.aload_n 0, 1) := by decide +kernel
theorem dX7_canBe_142 : decode cX7_canBe 142 = .ok (.iload_n 2, 1) := by decide +kernel
theorem dX7_canBe_143 : decode cX7_canBe 143 = .ok (.iconst 0, 1) := by decide +kernel
theorem dX7_canBe_144 : decode cX7_canBe 144 = .ok (.invokevirtual 106, 3) := by decide +kernel
theorem dX7_canBe_147 : decode cX7_canBe 147 = .ok (.dup2, 1) := by decide +kernel
theorem dX7_canBe_148 : decode cX7_canBe 148 = .ok (.iaload, 1) := by decide +kernel
theorem dX7_canBe_149 : decode cX7_canBe 149 = .ok (.aload_n 0, 1) := by decide +kernel
theorem dX7_canBe_150 : decode cX7_canBe 150 = .ok (.getfield 51, 3) := by decide +kernel
theorem dX7_canBe_153 : decode cX7_canBe 153 = .ok (.iload_n 2, 1) := by decide +kernel
theorem dX7_canBe_154 : decode cX7_canBe 154 = .ok (.iaload, 1) := by decide +kernel
theorem dX7_canBe_155 : decode cX7_canBe 155 = .ok (.iadd, 1) := by decide +kernel
theorem dX7_canBe_156 : decode cX7_canBe 156 = .ok (.iastore, 1) := by decide +kernel
theorem dX7_canBe_157 : decode cX7_canBe 157 = .ok (.iinc 2 (-1), 3) := by decide +kernel
theorem dX7_canBe_160 : decode cX7_canBe 160 = .ok (.goto (-93), 3) := by decide +kernel
theorem dX7_canBe_163 : decode cX7_canBe 163 = .ok (.iload_n 1, 1) := by decide +kernel
theorem dX7_canBe_164 : decode cX7_canBe 164 = .ok (.ireturn, 1) := by decide +kernel
theorem dX7_canMore_0 : decode cX7_canMore 0 = .ok (.aload_n 0, 1) := by decide +kernel
theorem dX7_canMore_1 : decode cX7_canMore 1 = .ok (.getfield 42, 3) := by decide +kernel
theorem dX7_canMore_4 : decode cX7_canMore 4 = .ok (.iload_n 1, 1) := by decide +kernel
theorem dX7_canMore_5 : decode cX7_canMore 5 = .ok (.dup2, 1) := by decide +kernel
theorem dX7_canMore_6 : decode cX7_canMore 6 = .ok (.iaload, 1) := by decide +kernel
theorem dX7_canMore_7 : decode cX7_canMore 7 = .ok (.iload_n 2, 1) := by decide +kernel
theorem dX7_canMore_8 : decode cX7_canMore 8 = .ok (.iadd, 1) := by decide +kernel
theorem dX7_canMore_9 : decode cX7_canMore 9 = .ok (.iastore, 1) := by decide +kernel
theorem dX7_canMore_10 : decode cX7_canMore 10 = .ok (.iload_n 3, 1) := by decide +kernel
theorem dX7_canMore_11 : decode cX7_canMore 11 = .ok (.iconst (-1), 1) := by decide +kernel
theorem dX7_canMore_12 : decode cX7_canMore 12 = .ok (.if_icmp .eq 13, 3) := by decide +kernel
theorem dX7_canMore_15 : decode cX7_canMore 15 = .ok (.aload_n 0, 1) := by decide +kernel
theorem dX7_canMore_16 : decode cX7_canMore 16 = .ok (.getfield 45, 3) := by decide +kernel
theorem dX7_canMore_19 : decode cX7_canMore 19 = .ok (.iload_n 3, 1) := by decide +kernel
theorem dX7_canMore_20 : decode cX7_canMore 20 = .ok (.dup2, 1) := by decide +kernel
theorem dX7_canMore_21 : decode cX7_canMore 21 = .ok (.iaload, 1) := by decide +kernel
theorem dX7_canMore_22 : decode cX7_canMore 22 = .ok (.iload_n 2, 1) := by decide +kernel
theorem dX7_canMore_23 : decode cX7_canMore 23 = .ok (.iadd, 1) := by decide +kernel
theorem dX7_canMore_24 : decode cX7_canMore 24 = .ok (.iastore, 1) := by decide +kernel
theorem dX7_canMore_25 : decode cX7_canMore 25 = .ok (.aload_n 0, 1) := by decide +kernel
theorem dX7_canMore_26 : decode cX7_canMore 26 = .ok (.invokevirtual 142, 3) := by decide +kernel
theorem dX7_canMore_29 : decode cX7_canMore 29 = .ok (.istore 4, 2) := by decide +kernel
theorem dX7_canMore_31 : decode cX7_canMore 31 = .ok (.aload_n 0, 1) := by decide +kernel
theorem dX7_canMore_32 : decode cX7_canMore 32 = .ok (.getfield 42, 3) := by decide +kernel
theorem dX7_canMore_35 : decode cX7_canMore 35 = .ok (.iload_n 1, 1) := by decide +kernel
theorem dX7_canMore_36 : decode cX7_canMore 36 = .ok (.dup2, 1) := by decide +kernel
theorem dX7_canMore_37 : decode cX7_canMore 37 = .ok (.iaload, 1) := by decide +kernel
theorem dX7_canMore_38 : decode cX7_canMore 38 = .ok (.iload_n 2, 1) := by decide +kernel
theorem dX7_canMore_39 : decode cX7_canMore 39 = .ok (.isub, 1) := by decide +kernel
theorem dX7_canMore_40 : decode cX7_canMore 40 = .ok (.iastore, 1) := by decide +kernel
theorem dX7_canMore_41 : decode cX7_canMore 41 = .ok (.iload_n 3, 1) := by decide +kernel
theorem dX7_canMore_42 : decode cX7_canMore 42 = .ok (.iconst (-1), 1) := by decide +kernel
theorem dX7_canMore_43 : decode cX7_canMore 43 = .ok (.if_icmp .eq 13, 3) := by decide +kernel
theorem dX7_canMore_46 : decode cX7_canMore 46 = .ok (.aload_n 0, 1) := by decide +kernel
theorem dX7_canMore_47 : decode cX7_canMore 47 = .ok (.getfield 45, 3) := by decide +kernel
theorem dX7_canMore_50 : decode cX7_canMore 50 = .ok (.iload_n 3, 1) := by decide +kernel
theorem dX7_canMore_51 : decode cX7_canMore 51 = .ok (.dup2, 1) := by decide +kernel
theorem dX7_canMore_52 : decode cX7_canMore 52 = .ok (.iaload, 1) := by decide +kernel
theorem dX7_canMore_53 : decode cX7_canMore 53 = .ok (.iload_n 2, 1) := by decide +kernel
theorem dX7_canMore_54 : decode cX7_canMore 54 = .ok (.isub, 1) := by decide +kernel
theorem dX7_canMore_55 : decode cX7_canMore 55 = .ok (.iastore, 1) := by decide +kernel
theorem dX7_canMore_56 : decode cX7_canMore 56 = .ok (.iload 4, 2) := by decide +kernel
theorem dX7_canMore_58 : decode cX7_canMore 58 = .ok (.ireturn, 1) := by decide +kernel
theorem dX7_mostMore_0 : decode cX7_mostMore 0 = .ok (.iconst 0, 1) := by decide +kernel
theorem dX7_mostMore_1 : decode cX7_mostMore 1 = .ok (.istore 4, 2) := by decide +kernel
theorem dX7_mostMore_3 : decode cX7_mostMore 3 = .ok (.iload_n 2, 1) := by decide +kernel
theorem dX7_mostMore_4 : decode cX7_mostMore 4 = .ok (.ifCond .ge 7, 3) := by decide +kernel
theorem dX7_mostMore_7 : decode cX7_mostMore 7 = .ok (.iconst 0, 1) := by decide +kernel
theorem dX7_mostMore_8 : decode cX7_mostMore 8 = .ok (.goto 4, 3) := by decide +kernel
theorem dX7_mostMore_11 : decode cX7_mostMore 11 = .ok (.iload_n 2, 1) := by decide +kernel
theorem dX7_mostMore_12 : decode cX7_mostMore 12 = .ok (.istore 5, 2) := by decide +kernel
theorem dX7_mostMore_14 : decode cX7_mostMore 14 = .ok (.iload 4, 2) := by decide +kernel
theorem dX7_mostMore_16 : decode cX7_mostMore 16 = .ok (.iload 5, 2) := by decide +kernel
theorem dX7_mostMore_18 : decode cX7_mostMore 18 = .ok (.if_icmp .ge 41, 3) := by decide +kernel
theorem dX7_mostMore_21 : decode cX7_mostMore 21 = .ok (.iload 4, 2) := by decide +kernel
theorem dX7_mostMore_23 : decode cX7_mostMore 23 = .ok (.iload 5, 2) := by decide +kernel
theorem dX7_mostMore_25 : decode cX7_mostMore 25 = .ok (.iadd, 1) := by decide +kernel
theorem dX7_mostMore_26 : decode cX7_mostMore 26 = .ok (.iconst 1, 1) := by decide +kernel
theorem dX7_mostMore_27 : decode cX7_mostMore 27 = .ok (.iadd, 1) := by decide +kernel
theorem dX7_mostMore_28 : decode cX7_mostMore 28 = .ok (.iconst 2, 1) := by decide +kernel
theorem dX7_mostMore_29 : decode cX7_mostMore 29 = .ok (.idiv, 1) := by decide +kernel
theorem dX7_mostMore_30 : decode cX7_mostMore 30 = .ok (.istore 6, 2) := by decide +kernel
theorem dX7_mostMore_32 : decode cX7_mostMore 32 = .ok (.aload_n 0, 1) := by decide +kernel
theorem dX7_mostMore_33 : decode cX7_mostMore 33 = .ok (.iload_n 1, 1) := by decide +kernel
theorem dX7_mostMore_34 : decode cX7_mostMore 34 = .ok (.iload 6, 2) := by decide +kernel
theorem dX7_mostMore_36 : decode cX7_mostMore 36 = .ok (.iload_n 3, 1) := by decide +kernel
theorem dX7_mostMore_37 : decode cX7_mostMore 37 = .ok (.invokevirtual 146, 3) := by decide +kernel
theorem dX7_mostMore_40 : decode cX7_mostMore 40 = .ok (.ifCond .eq 10, 3) := by decide +kernel
theorem dX7_mostMore_43 : decode cX7_mostMore 43 = .ok (.iload 6, 2) := by decide +kernel
theorem dX7_mostMore_45 : decode cX7_mostMore 45 = .ok (.istore 4, 2) := by decide +kernel
theorem dX7_mostMore_47 : decode cX7_mostMore 47 = .ok (.goto 9, 3) := by decide +kernel
theorem dX7_mostMore_50 : decode cX7_mostMore 50 = .ok (.iload 6, 2) := by decide +kernel
theorem dX7_mostMore_52 : decode cX7_mostMore 52 = .ok (.iconst 1, 1) := by decide +kernel
theorem dX7_mostMore_53 : decode cX7_mostMore 53 = .ok (.isub, 1) := by decide +kernel
theorem dX7_mostMore_54 : decode cX7_mostMore 54 = .ok (.istore 5, 2) := by decide +kernel
theorem dX7_mostMore_56 : decode cX7_mostMore 56 = .ok (.goto (-42), 3) := by decide +kernel
theorem dX7_mostMore_59 : decode cX7_mostMore 59 = .ok (.iload 4, 2) := by decide +kernel
theorem dX7_mostMore_61 : decode cX7_mostMore 61 = .ok (.ireturn, 1) := by decide +kernel
theorem dX7_clears_0 : decode cX7_clears 0 = .ok (.iconst 0, 1) := by decide +kernel
theorem dX7_clears_1 : decode cX7_clears 1 = .ok (.istore_n 1, 1) := by decide +kernel
theorem dX7_clears_2 : decode cX7_clears 2 = .ok (.iload_n 1, 1) := by decide +kernel
theorem dX7_clears_3 : decode cX7_clears 3 = .ok (.bipush 12, 2) := by decide +kernel
theorem dX7_clears_5 : decode cX7_clears 5 = .ok (.if_icmp .ge 23, 3) := by decide +kernel
theorem dX7_clears_8 : decode cX7_clears 8 = .ok (.aload_n 0, 1) := by decide +kernel
theorem dX7_clears_9 : decode cX7_clears 9 = .ok (.getfield 42, 3) := by decide +kernel
theorem dX7_clears_12 : decode cX7_clears 12 = .ok (.iload_n 1, 1) := by decide +kernel
theorem dX7_clears_13 : decode cX7_clears 13 = .ok (.iconst 0, 1) := by decide +kernel
theorem dX7_clears_14 : decode cX7_clears 14 = .ok (.iastore, 1) := by decide +kernel
theorem dX7_clears_15 : decode cX7_clears 15 = .ok (.aload_n 0, 1) := by decide +kernel
theorem dX7_clears_16 : decode cX7_clears 16 = .ok (.getfield 45, 3) := by decide +kernel
theorem dX7_clears_19 : decode cX7_clears 19 = .ok (.iload_n 1, 1) := by decide +kernel
theorem dX7_clears_20 : decode cX7_clears 20 = .ok (.iconst 0, 1) := by decide +kernel
theorem dX7_clears_21 : decode cX7_clears 21 = .ok (.iastore, 1) := by decide +kernel
theorem dX7_clears_22 : decode cX7_clears 22 = .ok (.iinc 1 1, 3) := by decide +kernel
theorem dX7_clears_25 : decode cX7_clears 25 = .ok (.goto (-23), 3) := by decide +kernel
theorem dX7_clears_28 : decode cX7_clears 28 = .ok (.iconst 0, 1) := by decide +kernel
theorem dX7_clears_29 : decode cX7_clears 29 = .ok (.istore_n 1, 1) := by decide +kernel
theorem dX7_clears_30 : decode cX7_clears 30 = .ok (.iload_n 1, 1) := by decide +kernel
theorem dX7_clears_31 : decode cX7_clears 31 = .ok (.bipush 18, 2) := by decide +kernel
theorem dX7_clears_33 : decode cX7_clears 33 = .ok (.if_icmp .ge 16, 3) := by decide +kernel
theorem dX7_clears_36 : decode cX7_clears 36 = .ok (.aload_n 0, 1) := by decide +kernel
theorem dX7_clears_37 : decode cX7_clears 37 = .ok (.getfield 58, 3) := by decide +kernel
theorem dX7_clears_40 : decode cX7_clears 40 = .ok (.iload_n 1, 1) := by decide +kernel
theorem dX7_clears_41 : decode cX7_clears 41 = .ok (.iconst 0, 1) := by decide +kernel
theorem dX7_clears_42 : decode cX7_clears 42 = .ok (.iastore, 1) := by decide +kernel
theorem dX7_clears_43 : decode cX7_clears 43 = .ok (.iinc 1 1, 3) := by decide +kernel
theorem dX7_clears_46 : decode cX7_clears 46 = .ok (.goto (-16), 3) := by decide +kernel
theorem dX7_clears_49 : decode cX7_clears 49 = .ok (.iconst 0, 1) := by decide +kernel
theorem dX7_clears_50 : decode cX7_clears 50 = .ok (.istore_n 1, 1) := by decide +kernel
theorem dX7_clears_51 : decode cX7_clears 51 = .ok (.iload_n 1, 1) := by decide +kernel
theorem dX7_clears_52 : decode cX7_clears 52 = .ok (.bipush 14, 2) := by decide +kernel
theorem dX7_clears_54 : decode cX7_clears 54 = .ok (.if_icmp .ge 23, 3) := by decide +kernel
theorem dX7_clears_57 : decode cX7_clears 57 = .ok (.aload_n 0, 1) := by decide +kernel
theorem dX7_clears_58 : decode cX7_clears 58 = .ok (.getfield 61, 3) := by decide +kernel
theorem dX7_clears_61 : decode cX7_clears 61 = .ok (.iload_n 1, 1) := by decide +kernel
theorem dX7_clears_62 : decode cX7_clears 62 = .ok (.iconst 0, 1) := by decide +kernel
theorem dX7_clears_63 : decode cX7_clears 63 = .ok (.iastore, 1) := by decide +kernel
theorem dX7_clears_64 : decode cX7_clears 64 = .ok (.aload_n 0, 1) := by decide +kernel
theorem dX7_clears_65 : decode cX7_clears 65 = .ok (.getfield 64, 3) := by decide +kernel
theorem dX7_clears_68 : decode cX7_clears 68 = .ok (.iload_n 1, 1) := by decide +kernel
theorem dX7_clears_69 : decode cX7_clears 69 = .ok (.iconst 0, 1) := by decide +kernel
theorem dX7_clears_70 : decode cX7_clears 70 = .ok (.iastore, 1) := by decide +kernel
theorem dX7_clears_71 : decode cX7_clears 71 = .ok (.iinc 1 1, 3) := by decide +kernel
theorem dX7_clears_74 : decode cX7_clears 74 = .ok (.goto (-23), 3) := by decide +kernel
theorem dX7_clears_77 : decode cX7_clears 77 = .ok (.iconst 0, 1) := by decide +kernel
theorem dX7_clears_78 : decode cX7_clears 78 = .ok (.istore_n 1, 1) := by decide +kernel
theorem dX7_clears_79 : decode cX7_clears 79 = .ok (.iload_n 1, 1) := by decide +kernel
theorem dX7_clears_80 : decode cX7_clears 80 = .ok (.iconst 4, 1) := by decide +kernel
theorem dX7_clears_81 : decode cX7_clears 81 = .ok (.if_icmp .ge 23, 3) := by decide +kernel
theorem dX7_clears_84 : decode cX7_clears 84 = .ok (.aload_n 0, 1) := by decide +kernel
theorem dX7_clears_85 : decode cX7_clears 85 = .ok (.getfield 67, 3) := by decide +kernel
theorem dX7_clears_88 : decode cX7_clears 88 = .ok (.iload_n 1, 1) := by decide +kernel
theorem dX7_clears_89 : decode cX7_clears 89 = .ok (.iconst 0, 1) := by decide +kernel
theorem dX7_clears_90 : decode cX7_clears 90 = .ok (.iastore, 1) := by decide +kernel
theorem dX7_clears_91 : decode cX7_clears 91 = .ok (.aload_n 0, 1) := by decide +kernel
theorem dX7_clears_92 : decode cX7_clears 92 = .ok (.getfield 70, 3) := by decide +kernel
theorem dX7_clears_95 : decode cX7_clears 95 = .ok (.iload_n 1, 1) := by decide +kernel
theorem dX7_clears_96 : decode cX7_clears 96 = .ok (.iconst 0, 1) := by decide +kernel
theorem dX7_clears_97 : decode cX7_clears 97 = .ok (.iastore, 1) := by decide +kernel
theorem dX7_clears_98 : decode cX7_clears 98 = .ok (.iinc 1 1, 3) := by decide +kernel
theorem dX7_clears_101 : decode cX7_clears 101 = .ok (.goto (-22), 3) := by decide +kernel
theorem dX7_clears_104 : decode cX7_clears 104 = .ok (.return_, 1) := by decide +kernel
theorem dX7_takesFirst_0 : decode cX7_takesFirst 0 = .ok (.aload_n 0, 1) := by decide +kernel
theorem dX7_takesFirst_1 : decode cX7_takesFirst 1 = .ok (.invokevirtual 150, 3) := by decide +kernel
theorem dX7_takesFirst_4 : decode cX7_takesFirst 4 = .ok (.aload_n 0, 1) := by decide +kernel
theorem dX7_takesFirst_5 : decode cX7_takesFirst 5 = .ok (.invokevirtual 153, 3) := by decide +kernel
theorem dX7_takesFirst_8 : decode cX7_takesFirst 8 = .ok (.iconst 0, 1) := by decide +kernel
theorem dX7_takesFirst_9 : decode cX7_takesFirst 9 = .ok (.istore_n 2, 1) := by decide +kernel
theorem dX7_takesFirst_10 : decode cX7_takesFirst 10 = .ok (.iload_n 2, 1) := by decide +kernel
theorem dX7_takesFirst_11 : decode cX7_takesFirst 11 = .ok (.aload_n 0, 1) := by decide +kernel
theorem dX7_takesFirst_12 : decode cX7_takesFirst 12 = .ok (.getfield 122, 3) := by decide +kernel
theorem dX7_takesFirst_15 : decode cX7_takesFirst 15 = .ok (.if_icmp .ge 67, 3) := by decide +kernel
theorem dX7_takesFirst_18 : decode cX7_takesFirst 18 = .ok (.aload_n 0, 1) := by decide +kernel
theorem dX7_takesFirst_19 : decode cX7_takesFirst 19 = .ok (.getfield 39, 3) := by decide +kernel
theorem dX7_takesFirst_22 : decode cX7_takesFirst 22 = .ok (.iload_n 2, 1) := by decide +kernel
theorem dX7_takesFirst_23 : decode cX7_takesFirst 23 = .ok (.iaload, 1) := by decide +kernel
theorem dX7_takesFirst_24 : decode cX7_takesFirst 24 = .ok (.istore_n 3, 1) := by decide +kernel
theorem dX7_takesFirst_25 : decode cX7_takesFirst 25 = .ok (.iload_n 1, 1) := by decide +kernel
theorem dX7_takesFirst_26 : decode cX7_takesFirst 26 = .ok (.iload_n 3, 1) := by decide +kernel
theorem dX7_takesFirst_27 : decode cX7_takesFirst 27 = .ok (.invokestatic 156, 3) := by decide +kernel
theorem dX7_takesFirst_30 : decode cX7_takesFirst 30 = .ok (.ifCond .eq 6, 3) := by decide +kernel
theorem dX7_takesFirst_33 : decode cX7_takesFirst 33 = .ok (.goto 43, 3) := by decide +kernel
theorem dX7_takesFirst_36 : decode cX7_takesFirst 36 = .ok (.aload_n 0, 1) := by decide +kernel
theorem dX7_takesFirst_37 : decode cX7_takesFirst 37 = .ok (.getfield 58, 3) := by decide +kernel
theorem dX7_takesFirst_40 : decode cX7_takesFirst 40 = .ok (.iload_n 3, 1) := by decide +kernel
theorem dX7_takesFirst_41 : decode cX7_takesFirst 41 = .ok (.aload_n 0, 1) := by decide +kernel
theorem dX7_takesFirst_42 : decode cX7_takesFirst 42 = .ok (.aload_n 0, 1) := by decide +kernel
theorem dX7_takesFirst_43 : decode cX7_takesFirst 43 = .ok (.iload_n 3, 1) := by decide +kernel
theorem dX7_takesFirst_44 : decode cX7_takesFirst 44 = .ok (.invokevirtual 160, 3) := by decide +kernel
theorem dX7_takesFirst_47 : decode cX7_takesFirst 47 = .ok (.aload_n 0, 1) := by decide +kernel
theorem dX7_takesFirst_48 : decode cX7_takesFirst 48 = .ok (.iload_n 3, 1) := by decide +kernel
theorem dX7_takesFirst_49 : decode cX7_takesFirst 49 = .ok (.invokevirtual 163, 3) := by decide +kernel
theorem dX7_takesFirst_52 : decode cX7_takesFirst 52 = .ok (.iconst (-1), 1) := by decide +kernel
theorem dX7_takesFirst_53 : decode cX7_takesFirst 53 = .ok (.invokevirtual 166, 3) := by decide +kernel
theorem dX7_takesFirst_56 : decode cX7_takesFirst 56 = .ok (.iastore, 1) := by decide +kernel
theorem dX7_takesFirst_57 : decode cX7_takesFirst 57 = .ok (.aload_n 0, 1) := by decide +kernel
theorem dX7_takesFirst_58 : decode cX7_takesFirst 58 = .ok (.getfield 42, 3) := by decide +kernel
theorem dX7_takesFirst_61 : decode cX7_takesFirst 61 = .ok (.aload_n 0, 1) := by decide +kernel
theorem dX7_takesFirst_62 : decode cX7_takesFirst 62 = .ok (.iload_n 3, 1) := by decide +kernel
theorem dX7_takesFirst_63 : decode cX7_takesFirst 63 = .ok (.invokevirtual 160, 3) := by decide +kernel
theorem dX7_takesFirst_66 : decode cX7_takesFirst 66 = .ok (.dup2, 1) := by decide +kernel
theorem dX7_takesFirst_67 : decode cX7_takesFirst 67 = .ok (.iaload, 1) := by decide +kernel
theorem dX7_takesFirst_68 : decode cX7_takesFirst 68 = .ok (.aload_n 0, 1) := by decide +kernel
theorem dX7_takesFirst_69 : decode cX7_takesFirst 69 = .ok (.getfield 58, 3) := by decide +kernel
theorem dX7_takesFirst_72 : decode cX7_takesFirst 72 = .ok (.iload_n 3, 1) := by decide +kernel
theorem dX7_takesFirst_73 : decode cX7_takesFirst 73 = .ok (.iaload, 1) := by decide +kernel
theorem dX7_takesFirst_74 : decode cX7_takesFirst 74 = .ok (.iadd, 1) := by decide +kernel
theorem dX7_takesFirst_75 : decode cX7_takesFirst 75 = .ok (.iastore, 1) := by decide +kernel
theorem dX7_takesFirst_76 : decode cX7_takesFirst 76 = .ok (.iinc 2 1, 3) := by decide +kernel
theorem dX7_takesFirst_79 : decode cX7_takesFirst 79 = .ok (.goto (-69), 3) := by decide +kernel
theorem dX7_takesFirst_82 : decode cX7_takesFirst 82 = .ok (.return_, 1) := by decide +kernel
theorem dX7_allOf_0 : decode cX7_allOf 0 = .ok (.aload_n 0, 1) := by decide +kernel
theorem dX7_allOf_1 : decode cX7_allOf 1 = .ok (.getfield 58, 3) := by decide +kernel
theorem dX7_allOf_4 : decode cX7_allOf 4 = .ok (.iload_n 1, 1) := by decide +kernel
theorem dX7_allOf_5 : decode cX7_allOf 5 = .ok (.iaload, 1) := by decide +kernel
theorem dX7_allOf_6 : decode cX7_allOf 6 = .ok (.aload_n 0, 1) := by decide +kernel
theorem dX7_allOf_7 : decode cX7_allOf 7 = .ok (.getfield 61, 3) := by decide +kernel
theorem dX7_allOf_10 : decode cX7_allOf 10 = .ok (.iload_n 1, 1) := by decide +kernel
theorem dX7_allOf_11 : decode cX7_allOf 11 = .ok (.iaload, 1) := by decide +kernel
theorem dX7_allOf_12 : decode cX7_allOf 12 = .ok (.iadd, 1) := by decide +kernel
theorem dX7_allOf_13 : decode cX7_allOf 13 = .ok (.aload_n 0, 1) := by decide +kernel
theorem dX7_allOf_14 : decode cX7_allOf 14 = .ok (.getfield 64, 3) := by decide +kernel
theorem dX7_allOf_17 : decode cX7_allOf 17 = .ok (.iload_n 1, 1) := by decide +kernel
theorem dX7_allOf_18 : decode cX7_allOf 18 = .ok (.iaload, 1) := by decide +kernel
theorem dX7_allOf_19 : decode cX7_allOf 19 = .ok (.iadd, 1) := by decide +kernel
theorem dX7_allOf_20 : decode cX7_allOf 20 = .ok (.ireturn, 1) := by decide +kernel
theorem dX7_isShort_0 : decode cX7_isShort 0 = .ok (.aload_n 0, 1) := by decide +kernel
theorem dX7_isShort_1 : decode cX7_isShort 1 = .ok (.iload_n 1, 1) := by decide +kernel
theorem dX7_isShort_2 : decode cX7_isShort 2 = .ok (.invokevirtual 183, 3) := by decide +kernel
theorem dX7_isShort_5 : decode cX7_isShort 5 = .ok (.aload_n 0, 1) := by decide +kernel
theorem dX7_isShort_6 : decode cX7_isShort 6 = .ok (.iload_n 1, 1) := by decide +kernel
theorem dX7_isShort_7 : decode cX7_isShort 7 = .ok (.invokevirtual 163, 3) := by decide +kernel
theorem dX7_isShort_10 : decode cX7_isShort 10 = .ok (.if_icmp .ge 7, 3) := by decide +kernel
theorem dX7_isShort_13 : decode cX7_isShort 13 = .ok (.iconst 1, 1) := by decide +kernel
theorem dX7_isShort_14 : decode cX7_isShort 14 = .ok (.goto 4, 3) := by decide +kernel
theorem dX7_isShort_17 : decode cX7_isShort 17 = .ok (.iconst 0, 1) := by decide +kernel
theorem dX7_isShort_18 : decode cX7_isShort 18 = .ok (.ireturn, 1) := by decide +kernel
theorem dX7_takesWithout_0 : decode cX7_takesWithout 0 = .ok (.aload_n 0, 1) := by decide +kernel
theorem dX7_takesWithout_1 : decode cX7_takesWithout 1 = .ok (.iload_n 2, 1) := by decide +kernel
theorem dX7_takesWithout_2 : decode cX7_takesWithout 2 = .ok (.invokevirtual 173, 3) := by decide +kernel
theorem dX7_takesWithout_5 : decode cX7_takesWithout 5 = .ok (.aload_n 0, 1) := by decide +kernel
theorem dX7_takesWithout_6 : decode cX7_takesWithout 6 = .ok (.getfield 58, 3) := by decide +kernel
theorem dX7_takesWithout_9 : decode cX7_takesWithout 9 = .ok (.iload_n 1, 1) := by decide +kernel
theorem dX7_takesWithout_10 : decode cX7_takesWithout 10 = .ok (.iaload, 1) := by decide +kernel
theorem dX7_takesWithout_11 : decode cX7_takesWithout 11 = .ok (.ireturn, 1) := by decide +kernel
theorem dX7_olderThan_0 : decode cX7_olderThan 0 = .ok (.iconst 0, 1) := by decide +kernel
theorem dX7_olderThan_1 : decode cX7_olderThan 1 = .ok (.istore_n 2, 1) := by decide +kernel
theorem dX7_olderThan_2 : decode cX7_olderThan 2 = .ok (.iconst 0, 1) := by decide +kernel
theorem dX7_olderThan_3 : decode cX7_olderThan 3 = .ok (.istore_n 3, 1) := by decide +kernel
theorem dX7_olderThan_4 : decode cX7_olderThan 4 = .ok (.iload_n 3, 1) := by decide +kernel
theorem dX7_olderThan_5 : decode cX7_olderThan 5 = .ok (.bipush 18, 2) := by decide +kernel
theorem dX7_olderThan_7 : decode cX7_olderThan 7 = .ok (.if_icmp .ge 36, 3) := by decide +kernel
theorem dX7_olderThan_10 : decode cX7_olderThan 10 = .ok (.aload_n 0, 1) := by decide +kernel
theorem dX7_olderThan_11 : decode cX7_olderThan 11 = .ok (.iload_n 3, 1) := by decide +kernel
theorem dX7_olderThan_12 : decode cX7_olderThan 12 = .ok (.invokevirtual 125, 3) := by decide +kernel
theorem dX7_olderThan_15 : decode cX7_olderThan 15 = .ok (.ifCond .eq 22, 3) := by decide +kernel
theorem dX7_olderThan_18 : decode cX7_olderThan 18 = .ok (.aload_n 0, 1) := by decide +kernel
theorem dX7_olderThan_19 : decode cX7_olderThan 19 = .ok (.iload_n 3, 1) := by decide +kernel
theorem dX7_olderThan_20 : decode cX7_olderThan 20 = .ok (.invokevirtual 129, 3) := by decide +kernel
theorem dX7_olderThan_23 : decode cX7_olderThan 23 = .ok (.aload_n 0, 1) := by decide +kernel
theorem dX7_olderThan_24 : decode cX7_olderThan 24 = .ok (.iload_n 1, 1) := by decide +kernel
theorem dX7_olderThan_25 : decode cX7_olderThan 25 = .ok (.invokevirtual 129, 3) := by decide +kernel
theorem dX7_olderThan_28 : decode cX7_olderThan 28 = .ok (.if_icmp .ge 9, 3) := by decide +kernel
theorem dX7_olderThan_31 : decode cX7_olderThan 31 = .ok (.iload_n 2, 1) := by decide +kernel
theorem dX7_olderThan_32 : decode cX7_olderThan 32 = .ok (.iconst 1, 1) := by decide +kernel
theorem dX7_olderThan_33 : decode cX7_olderThan 33 = .ok (.iload_n 3, 1) := by decide +kernel
theorem dX7_olderThan_34 : decode cX7_olderThan 34 = .ok (.ishl, 1) := by decide +kernel
theorem dX7_olderThan_35 : decode cX7_olderThan 35 = .ok (.ior, 1) := by decide +kernel
theorem dX7_olderThan_36 : decode cX7_olderThan 36 = .ok (.istore_n 2, 1) := by decide +kernel
theorem dX7_olderThan_37 : decode cX7_olderThan 37 = .ok (.iinc 3 1, 3) := by decide +kernel
theorem dX7_olderThan_40 : decode cX7_olderThan 40 = .ok (.goto (-36), 3) := by decide +kernel
theorem dX7_olderThan_43 : decode cX7_olderThan 43 = .ok (.iload_n 2, 1) := by decide +kernel
theorem dX7_olderThan_44 : decode cX7_olderThan 44 = .ok (.ireturn, 1) := by decide +kernel
theorem dX7_told_0 : decode cX7_told 0 = .ok (.iload_n 0, 1) := by decide +kernel
theorem dX7_told_1 : decode cX7_told 1 = .ok (.bipush 14, 2) := by decide +kernel
theorem dX7_told_3 : decode cX7_told 3 = .ok (.if_icmp .ge 7, 3) := by decide +kernel
theorem dX7_told_6 : decode cX7_told 6 = .ok (.iload_n 0, 1) := by decide +kernel
theorem dX7_told_7 : decode cX7_told 7 = .ok (.goto 10, 3) := by decide +kernel
theorem dX7_told_10 : decode cX7_told 10 = .ok (.bipush 100, 2) := by decide +kernel
theorem dX7_told_12 : decode cX7_told 12 = .ok (.iload_n 0, 1) := by decide +kernel
theorem dX7_told_13 : decode cX7_told 13 = .ok (.iadd, 1) := by decide +kernel
theorem dX7_told_14 : decode cX7_told 14 = .ok (.bipush 14, 2) := by decide +kernel
theorem dX7_told_16 : decode cX7_told 16 = .ok (.isub, 1) := by decide +kernel
theorem dX7_told_17 : decode cX7_told 17 = .ok (.ireturn, 1) := by decide +kernel
theorem dX7_runningTo_0 : decode cX7_runningTo 0 = .ok (.iconst 0, 1) := by decide +kernel
theorem dX7_runningTo_1 : decode cX7_runningTo 1 = .ok (.istore_n 2, 1) := by decide +kernel
theorem dX7_runningTo_2 : decode cX7_runningTo 2 = .ok (.iconst 0, 1) := by decide +kernel
theorem dX7_runningTo_3 : decode cX7_runningTo 3 = .ok (.istore_n 3, 1) := by decide +kernel
theorem dX7_runningTo_4 : decode cX7_runningTo 4 = .ok (.iload_n 3, 1) := by decide +kernel
theorem dX7_runningTo_5 : decode cX7_runningTo 5 = .ok (.aload_n 0, 1) := by decide +kernel
theorem dX7_runningTo_6 : decode cX7_runningTo 6 = .ok (.invokevirtual 92, 3) := by decide +kernel
theorem dX7_runningTo_9 : decode cX7_runningTo 9 = .ok (.if_icmp .ge 27, 3) := by decide +kernel
theorem dX7_runningTo_12 : decode cX7_runningTo 12 = .ok (.iload_n 2, 1) := by decide +kernel
theorem dX7_runningTo_13 : decode cX7_runningTo 13 = .ok (.aload_n 0, 1) := by decide +kernel
theorem dX7_runningTo_14 : decode cX7_runningTo 14 = .ok (.iload_n 3, 1) := by decide +kernel
theorem dX7_runningTo_15 : decode cX7_runningTo 15 = .ok (.iconst 0, 1) := by decide +kernel
theorem dX7_runningTo_16 : decode cX7_runningTo 16 = .ok (.invokevirtual 106, 3) := by decide +kernel
theorem dX7_runningTo_19 : decode cX7_runningTo 19 = .ok (.iload_n 1, 1) := by decide +kernel
theorem dX7_runningTo_20 : decode cX7_runningTo 20 = .ok (.if_icmp .ne 7, 3) := by decide +kernel
theorem dX7_runningTo_23 : decode cX7_runningTo 23 = .ok (.iconst 1, 1) := by decide +kernel
theorem dX7_runningTo_24 : decode cX7_runningTo 24 = .ok (.goto 4, 3) := by decide +kernel
theorem dX7_runningTo_27 : decode cX7_runningTo 27 = .ok (.iconst 0, 1) := by decide +kernel
theorem dX7_runningTo_28 : decode cX7_runningTo 28 = .ok (.iadd, 1) := by decide +kernel
theorem dX7_runningTo_29 : decode cX7_runningTo 29 = .ok (.istore_n 2, 1) := by decide +kernel
theorem dX7_runningTo_30 : decode cX7_runningTo 30 = .ok (.iinc 3 1, 3) := by decide +kernel
theorem dX7_runningTo_33 : decode cX7_runningTo 33 = .ok (.goto (-29), 3) := by decide +kernel
theorem dX7_runningTo_36 : decode cX7_runningTo 36 = .ok (.iload_n 2, 1) := by decide +kernel
theorem dX7_runningTo_37 : decode cX7_runningTo 37 = .ok (.ireturn, 1) := by decide +kernel
theorem dX7_isFutile_0 : decode cX7_isFutile 0 = .ok (.iload_n 1, 1) := by decide +kernel
theorem dX7_isFutile_1 : decode cX7_isFutile 1 = .ok (.iload_n 2, 1) := by decide +kernel
theorem dX7_isFutile_2 : decode cX7_isFutile 2 = .ok (.if_icmp .eq 58, 3) := by decide +kernel
theorem dX7_isFutile_5 : decode cX7_isFutile 5 = .ok (.aload_n 0, 1) := by decide +kernel
theorem dX7_isFutile_6 : decode cX7_isFutile 6 = .ok (.iload_n 1, 1) := by decide +kernel
theorem dX7_isFutile_7 : decode cX7_isFutile 7 = .ok (.invokevirtual 199, 3) := by decide +kernel
theorem dX7_isFutile_10 : decode cX7_isFutile 10 = .ok (.ifCond .eq 50, 3) := by decide +kernel
theorem dX7_isFutile_13 : decode cX7_isFutile 13 = .ok (.aload_n 0, 1) := by decide +kernel
theorem dX7_isFutile_14 : decode cX7_isFutile 14 = .ok (.iload_n 2, 1) := by decide +kernel
theorem dX7_isFutile_15 : decode cX7_isFutile 15 = .ok (.iconst 4, 1) := by decide +kernel
theorem dX7_isFutile_16 : decode cX7_isFutile 16 = .ok (.invokevirtual 113, 3) := by decide +kernel
theorem dX7_isFutile_19 : decode cX7_isFutile 19 = .ok (.aload_n 0, 1) := by decide +kernel
theorem dX7_isFutile_20 : decode cX7_isFutile 20 = .ok (.iload_n 1, 1) := by decide +kernel
theorem dX7_isFutile_21 : decode cX7_isFutile 21 = .ok (.iconst 4, 1) := by decide +kernel
theorem dX7_isFutile_22 : decode cX7_isFutile 22 = .ok (.invokevirtual 113, 3) := by decide +kernel
theorem dX7_isFutile_25 : decode cX7_isFutile 25 = .ok (.if_icmp .le 35, 3) := by decide +kernel
theorem dX7_isFutile_28 : decode cX7_isFutile 28 = .ok (.aload_n 0, 1) := by decide +kernel
theorem dX7_isFutile_29 : decode cX7_isFutile 29 = .ok (.getfield 58, 3) := by decide +kernel
theorem dX7_isFutile_32 : decode cX7_isFutile 32 = .ok (.iload_n 2, 1) := by decide +kernel
theorem dX7_isFutile_33 : decode cX7_isFutile 33 = .ok (.iaload, 1) := by decide +kernel
theorem dX7_isFutile_34 : decode cX7_isFutile 34 = .ok (.ifCond .le 26, 3) := by decide +kernel
theorem dX7_isFutile_37 : decode cX7_isFutile 37 = .ok (.aload_n 0, 1) := by decide +kernel
theorem dX7_isFutile_38 : decode cX7_isFutile 38 = .ok (.aload_n 0, 1) := by decide +kernel
theorem dX7_isFutile_39 : decode cX7_isFutile 39 = .ok (.iload_n 2, 1) := by decide +kernel
theorem dX7_isFutile_40 : decode cX7_isFutile 40 = .ok (.iconst 0, 1) := by decide +kernel
theorem dX7_isFutile_41 : decode cX7_isFutile 41 = .ok (.invokevirtual 113, 3) := by decide +kernel
theorem dX7_isFutile_44 : decode cX7_isFutile 44 = .ok (.aload_n 0, 1) := by decide +kernel
theorem dX7_isFutile_45 : decode cX7_isFutile 45 = .ok (.iload_n 1, 1) := by decide +kernel
theorem dX7_isFutile_46 : decode cX7_isFutile 46 = .ok (.iconst 0, 1) := by decide +kernel
theorem dX7_isFutile_47 : decode cX7_isFutile 47 = .ok (.invokevirtual 113, 3) := by decide +kernel
theorem dX7_isFutile_50 : decode cX7_isFutile 50 = .ok (.invokevirtual 170, 3) := by decide +kernel
theorem dX7_isFutile_53 : decode cX7_isFutile 53 = .ok (.ifCond .eq 7, 3) := by decide +kernel
theorem dX7_isFutile_56 : decode cX7_isFutile 56 = .ok (.iconst 1, 1) := by decide +kernel
theorem dX7_isFutile_57 : decode cX7_isFutile 57 = .ok (.goto 4, 3) := by decide +kernel
theorem dX7_isFutile_60 : decode cX7_isFutile 60 = .ok (.iconst 0, 1) := by decide +kernel
theorem dX7_isFutile_61 : decode cX7_isFutile 61 = .ok (.ireturn, 1) := by decide +kernel
theorem dX7_outOfAll_0 : decode cX7_outOfAll 0 = .ok (.aload_n 0, 1) := by decide +kernel
theorem dX7_outOfAll_1 : decode cX7_outOfAll 1 = .ok (.invokevirtual 142, 3) := by decide +kernel
theorem dX7_outOfAll_4 : decode cX7_outOfAll 4 = .ok (.istore_n 1, 1) := by decide +kernel
theorem dX7_outOfAll_5 : decode cX7_outOfAll 5 = .ok (.iconst 0, 1) := by decide +kernel
theorem dX7_outOfAll_6 : decode cX7_outOfAll 6 = .ok (.istore_n 2, 1) := by decide +kernel
theorem dX7_outOfAll_7 : decode cX7_outOfAll 7 = .ok (.iconst 0, 1) := by decide +kernel
theorem dX7_outOfAll_8 : decode cX7_outOfAll 8 = .ok (.istore_n 3, 1) := by decide +kernel
theorem dX7_outOfAll_9 : decode cX7_outOfAll 9 = .ok (.iload_n 3, 1) := by decide +kernel
theorem dX7_outOfAll_10 : decode cX7_outOfAll 10 = .ok (.aload_n 0, 1) := by decide +kernel
theorem dX7_outOfAll_11 : decode cX7_outOfAll 11 = .ok (.invokevirtual 92, 3) := by decide +kernel
theorem dX7_outOfAll_14 : decode cX7_outOfAll 14 = .ok (.if_icmp .ge 32, 3) := by decide +kernel
theorem dX7_outOfAll_17 : decode cX7_outOfAll 17 = .ok (.iload_n 2, 1) := by decide +kernel
theorem dX7_outOfAll_18 : decode cX7_outOfAll 18 = .ok (.aload_n 0, 1) := by decide +kernel
theorem dX7_outOfAll_19 : decode cX7_outOfAll 19 = .ok (.iload_n 3, 1) := by decide +kernel
theorem dX7_outOfAll_20 : decode cX7_outOfAll 20 = .ok (.iconst 0, 1) := by decide +kernel
theorem dX7_outOfAll_21 : decode cX7_outOfAll 21 = .ok (.invokevirtual 106, 3) := by decide +kernel
theorem dX7_outOfAll_24 : decode cX7_outOfAll 24 = .ok (.iconst (-1), 1) := by decide +kernel
theorem dX7_outOfAll_25 : decode cX7_outOfAll 25 = .ok (.if_icmp .ne 12, 3) := by decide +kernel
theorem dX7_outOfAll_28 : decode cX7_outOfAll 28 = .ok (.aload_n 0, 1) := by decide +kernel
theorem dX7_outOfAll_29 : decode cX7_outOfAll 29 = .ok (.getfield 51, 3) := by decide +kernel
theorem dX7_outOfAll_32 : decode cX7_outOfAll 32 = .ok (.iload_n 3, 1) := by decide +kernel
theorem dX7_outOfAll_33 : decode cX7_outOfAll 33 = .ok (.iaload, 1) := by decide +kernel
theorem dX7_outOfAll_34 : decode cX7_outOfAll 34 = .ok (.goto 4, 3) := by decide +kernel
theorem dX7_outOfAll_37 : decode cX7_outOfAll 37 = .ok (.iconst 0, 1) := by decide +kernel
theorem dX7_outOfAll_38 : decode cX7_outOfAll 38 = .ok (.iadd, 1) := by decide +kernel
theorem dX7_outOfAll_39 : decode cX7_outOfAll 39 = .ok (.istore_n 2, 1) := by decide +kernel
theorem dX7_outOfAll_40 : decode cX7_outOfAll 40 = .ok (.iinc 3 1, 3) := by decide +kernel
theorem dX7_outOfAll_43 : decode cX7_outOfAll 43 = .ok (.goto (-34), 3) := by decide +kernel
theorem dX7_outOfAll_46 : decode cX7_outOfAll 46 = .ok (.iload_n 2, 1) := by decide +kernel
theorem dX7_outOfAll_47 : decode cX7_outOfAll 47 = .ok (.ireturn, 1) := by decide +kernel
theorem dX7_orders_0 : decode cX7_orders 0 = .ok (.iconst 0, 1) := by decide +kernel
theorem dX7_orders_1 : decode cX7_orders 1 = .ok (.istore_n 1, 1) := by decide +kernel
theorem dX7_orders_2 : decode cX7_orders 2 = .ok (.iconst 0, 1) := by decide +kernel
theorem dX7_orders_3 : decode cX7_orders 3 = .ok (.istore_n 2, 1) := by decide +kernel
theorem dX7_orders_4 : decode cX7_orders 4 = .ok (.iload_n 2, 1) := by decide +kernel
theorem dX7_orders_5 : decode cX7_orders 5 = .ok (.aload_n 0, 1) := by decide +kernel
theorem dX7_orders_6 : decode cX7_orders 6 = .ok (.invokevirtual 103, 3) := by decide +kernel
theorem dX7_orders_9 : decode cX7_orders 9 = .ok (.if_icmp .ge 28, 3) := by decide +kernel
theorem dX7_orders_12 : decode cX7_orders 12 = .ok (.iload_n 1, 1) := by decide +kernel
theorem dX7_orders_13 : decode cX7_orders 13 = .ok (.aload_n 0, 1) := by decide +kernel
theorem dX7_orders_14 : decode cX7_orders 14 = .ok (.iload_n 2, 1) := by decide +kernel
theorem dX7_orders_15 : decode cX7_orders 15 = .ok (.iconst 5, 1) := by decide +kernel
theorem dX7_orders_16 : decode cX7_orders 16 = .ok (.invokevirtual 116, 3) := by decide +kernel
theorem dX7_orders_19 : decode cX7_orders 19 = .ok (.bipush (-2), 2) := by decide +kernel
theorem dX7_orders_21 : decode cX7_orders 21 = .ok (.if_icmp .ne 7, 3) := by decide +kernel
theorem dX7_orders_24 : decode cX7_orders 24 = .ok (.iconst 0, 1) := by decide +kernel
theorem dX7_orders_25 : decode cX7_orders 25 = .ok (.goto 4, 3) := by decide +kernel
theorem dX7_orders_28 : decode cX7_orders 28 = .ok (.iconst 1, 1) := by decide +kernel
theorem dX7_orders_29 : decode cX7_orders 29 = .ok (.iadd, 1) := by decide +kernel
theorem dX7_orders_30 : decode cX7_orders 30 = .ok (.istore_n 1, 1) := by decide +kernel
theorem dX7_orders_31 : decode cX7_orders 31 = .ok (.iinc 2 1, 3) := by decide +kernel
theorem dX7_orders_34 : decode cX7_orders 34 = .ok (.goto (-30), 3) := by decide +kernel
theorem dX7_orders_37 : decode cX7_orders 37 = .ok (.iload_n 1, 1) := by decide +kernel
theorem dX7_orders_38 : decode cX7_orders 38 = .ok (.ireturn, 1) := by decide +kernel
theorem dX7_bartersMany_0 : decode cX7_bartersMany 0 = .ok (.iconst 0, 1) := by decide +kernel
theorem dX7_bartersMany_1 : decode cX7_bartersMany 1 = .ok (.istore_n 1, 1) := by decide +kernel
theorem dX7_bartersMany_2 : decode cX7_bartersMany 2 = .ok (.iconst 0, 1) := by decide +kernel
theorem dX7_bartersMany_3 : decode cX7_bartersMany 3 = .ok (.istore_n 2, 1) := by decide +kernel
theorem dX7_bartersMany_4 : decode cX7_bartersMany 4 = .ok (.iload_n 2, 1) := by decide +kernel
theorem dX7_bartersMany_5 : decode cX7_bartersMany 5 = .ok (.aload_n 0, 1) := by decide +kernel
theorem dX7_bartersMany_6 : decode cX7_bartersMany 6 = .ok (.invokevirtual 100, 3) := by decide +kernel
theorem dX7_bartersMany_9 : decode cX7_bartersMany 9 = .ok (.if_icmp .ge 29, 3) := by decide +kernel
theorem dX7_bartersMany_12 : decode cX7_bartersMany 12 = .ok (.iload_n 1, 1) := by decide +kernel
theorem dX7_bartersMany_13 : decode cX7_bartersMany 13 = .ok (.aload_n 0, 1) := by decide +kernel
theorem dX7_bartersMany_14 : decode cX7_bartersMany 14 = .ok (.iload_n 2, 1) := by decide +kernel
theorem dX7_bartersMany_15 : decode cX7_bartersMany 15 = .ok (.bipush 11, 2) := by decide +kernel
theorem dX7_bartersMany_17 : decode cX7_bartersMany 17 = .ok (.invokevirtual 113, 3) := by decide +kernel
theorem dX7_bartersMany_20 : decode cX7_bartersMany 20 = .ok (.bipush (-2), 2) := by decide +kernel
theorem dX7_bartersMany_22 : decode cX7_bartersMany 22 = .ok (.if_icmp .ne 7, 3) := by decide +kernel
theorem dX7_bartersMany_25 : decode cX7_bartersMany 25 = .ok (.iconst 0, 1) := by decide +kernel
theorem dX7_bartersMany_26 : decode cX7_bartersMany 26 = .ok (.goto 4, 3) := by decide +kernel
theorem dX7_bartersMany_29 : decode cX7_bartersMany 29 = .ok (.iconst 1, 1) := by decide +kernel
theorem dX7_bartersMany_30 : decode cX7_bartersMany 30 = .ok (.iadd, 1) := by decide +kernel
theorem dX7_bartersMany_31 : decode cX7_bartersMany 31 = .ok (.istore_n 1, 1) := by decide +kernel
theorem dX7_bartersMany_32 : decode cX7_bartersMany 32 = .ok (.iinc 2 1, 3) := by decide +kernel
theorem dX7_bartersMany_35 : decode cX7_bartersMany 35 = .ok (.goto (-31), 3) := by decide +kernel
theorem dX7_bartersMany_38 : decode cX7_bartersMany 38 = .ok (.iload_n 1, 1) := by decide +kernel
theorem dX7_bartersMany_39 : decode cX7_bartersMany 39 = .ok (.ireturn, 1) := by decide +kernel
theorem dX7_inStores_0 : decode cX7_inStores 0 = .ok (.lconst 0, 1) := by decide +kernel
theorem dX7_inStores_1 : decode cX7_inStores 1 = .ok (.lstore_n 1, 1) := by decide +kernel
theorem dX7_inStores_2 : decode cX7_inStores 2 = .ok (.iconst 0, 1) := by decide +kernel
theorem dX7_inStores_3 : decode cX7_inStores 3 = .ok (.istore_n 3, 1) := by decide +kernel
theorem dX7_inStores_4 : decode cX7_inStores 4 = .ok (.iload_n 3, 1) := by decide +kernel
theorem dX7_inStores_5 : decode cX7_inStores 5 = .ok (.aload_n 0, 1) := by decide +kernel
theorem dX7_inStores_6 : decode cX7_inStores 6 = .ok (.invokevirtual 103, 3) := by decide +kernel
theorem dX7_inStores_9 : decode cX7_inStores 9 = .ok (.if_icmp .ge 19, 3) := by decide +kernel
theorem dX7_inStores_12 : decode cX7_inStores 12 = .ok (.lload_n 1, 1) := by decide +kernel
theorem dX7_inStores_13 : decode cX7_inStores 13 = .ok (.aload_n 0, 1) := by decide +kernel
theorem dX7_inStores_14 : decode cX7_inStores 14 = .ok (.iload_n 3, 1) := by decide +kernel
theorem dX7_inStores_15 : decode cX7_inStores 15 = .ok (.iconst 4, 1) := by decide +kernel
theorem dX7_inStores_16 : decode cX7_inStores 16 = .ok (.invokevirtual 116, 3) := by decide +kernel
theorem dX7_inStores_19 : decode cX7_inStores 19 = .ok (.i2l, 1) := by decide +kernel
theorem dX7_inStores_20 : decode cX7_inStores 20 = .ok (.ladd, 1) := by decide +kernel
theorem dX7_inStores_21 : decode cX7_inStores 21 = .ok (.lstore_n 1, 1) := by decide +kernel
theorem dX7_inStores_22 : decode cX7_inStores 22 = .ok (.iinc 3 1, 3) := by decide +kernel
theorem dX7_inStores_25 : decode cX7_inStores 25 = .ok (.goto (-21), 3) := by decide +kernel
theorem dX7_inStores_28 : decode cX7_inStores 28 = .ok (.lload_n 1, 1) := by decide +kernel
theorem dX7_inStores_29 : decode cX7_inStores 29 = .ok (.lreturn, 1) := by decide +kernel
theorem dX7_onItsWay_0 : decode cX7_onItsWay 0 = .ok (.lconst 0, 1) := by decide +kernel
theorem dX7_onItsWay_1 : decode cX7_onItsWay 1 = .ok (.lstore_n 1, 1) := by decide +kernel
theorem dX7_onItsWay_2 : decode cX7_onItsWay 2 = .ok (.iconst 0, 1) := by decide +kernel
theorem dX7_onItsWay_3 : decode cX7_onItsWay 3 = .ok (.istore_n 3, 1) := by decide +kernel
theorem dX7_onItsWay_4 : decode cX7_onItsWay 4 = .ok (.iload_n 3, 1) := by decide +kernel
theorem dX7_onItsWay_5 : decode cX7_onItsWay 5 = .ok (.sipush 372, 3) := by decide +kernel
theorem dX7_onItsWay_8 : decode cX7_onItsWay 8 = .ok (.if_icmp .ge 23, 3) := by decide +kernel
theorem dX7_onItsWay_11 : decode cX7_onItsWay 11 = .ok (.lload_n 1, 1) := by decide +kernel
theorem dX7_onItsWay_12 : decode cX7_onItsWay 12 = .ok (.aload_n 0, 1) := by decide +kernel
theorem dX7_onItsWay_13 : decode cX7_onItsWay 13 = .ok (.getfield 7, 3) := by decide +kernel
theorem dX7_onItsWay_16 : decode cX7_onItsWay 16 = .ok (.sipush 288, 3) := by decide +kernel
theorem dX7_onItsWay_19 : decode cX7_onItsWay 19 = .ok (.iload_n 3, 1) := by decide +kernel
theorem dX7_onItsWay_20 : decode cX7_onItsWay 20 = .ok (.iadd, 1) := by decide +kernel
theorem dX7_onItsWay_21 : decode cX7_onItsWay 21 = .ok (.iaload, 1) := by decide +kernel
theorem dX7_onItsWay_22 : decode cX7_onItsWay 22 = .ok (.i2l, 1) := by decide +kernel
theorem dX7_onItsWay_23 : decode cX7_onItsWay 23 = .ok (.ladd, 1) := by decide +kernel
theorem dX7_onItsWay_24 : decode cX7_onItsWay 24 = .ok (.lstore_n 1, 1) := by decide +kernel
theorem dX7_onItsWay_25 : decode cX7_onItsWay 25 = .ok (.iinc 3 1, 3) := by decide +kernel
theorem dX7_onItsWay_28 : decode cX7_onItsWay 28 = .ok (.goto (-24), 3) := by decide +kernel
theorem dX7_onItsWay_31 : decode cX7_onItsWay 31 = .ok (.lload_n 1, 1) := by decide +kernel
theorem dX7_onItsWay_32 : decode cX7_onItsWay 32 = .ok (.lreturn, 1) := by decide +kernel
theorem dX7_sumOf_0 : decode cX7_sumOf 0 = .ok (.iconst 0, 1) := by decide +kernel
theorem dX7_sumOf_1 : decode cX7_sumOf 1 = .ok (.istore_n 1, 1) := by decide +kernel
theorem dX7_sumOf_2 : decode cX7_sumOf 2 = .ok (.aload_n 0, 1) := by decide +kernel
theorem dX7_sumOf_3 : decode cX7_sumOf 3 = .ok (.astore_n 2, 1) := by decide +kernel
theorem dX7_sumOf_4 : decode cX7_sumOf 4 = .ok (.aload_n 2, 1) := by decide +kernel
theorem dX7_sumOf_5 : decode cX7_sumOf 5 = .ok (.arraylength, 1) := by decide +kernel
theorem dX7_sumOf_6 : decode cX7_sumOf 6 = .ok (.istore_n 3, 1) := by decide +kernel
theorem dX7_sumOf_7 : decode cX7_sumOf 7 = .ok (.iconst 0, 1) := by decide +kernel
theorem dX7_sumOf_8 : decode cX7_sumOf 8 = .ok (.istore 4, 2) := by decide +kernel
theorem dX7_sumOf_10 : decode cX7_sumOf 10 = .ok (.iload 4, 2) := by decide +kernel
theorem dX7_sumOf_12 : decode cX7_sumOf 12 = .ok (.iload_n 3, 1) := by decide +kernel
theorem dX7_sumOf_13 : decode cX7_sumOf 13 = .ok (.if_icmp .ge 20, 3) := by decide +kernel
theorem dX7_sumOf_16 : decode cX7_sumOf 16 = .ok (.aload_n 2, 1) := by decide +kernel
theorem dX7_sumOf_17 : decode cX7_sumOf 17 = .ok (.iload 4, 2) := by decide +kernel
theorem dX7_sumOf_19 : decode cX7_sumOf 19 = .ok (.iaload, 1) := by decide +kernel
theorem dX7_sumOf_20 : decode cX7_sumOf 20 = .ok (.istore 5, 2) := by decide +kernel
theorem dX7_sumOf_22 : decode cX7_sumOf 22 = .ok (.iload_n 1, 1) := by decide +kernel
theorem dX7_sumOf_23 : decode cX7_sumOf 23 = .ok (.iload 5, 2) := by decide +kernel
theorem dX7_sumOf_25 : decode cX7_sumOf 25 = .ok (.iadd, 1) := by decide +kernel
theorem dX7_sumOf_26 : decode cX7_sumOf 26 = .ok (.istore_n 1, 1) := by decide +kernel
theorem dX7_sumOf_27 : decode cX7_sumOf 27 = .ok (.iinc 4 1, 3) := by decide +kernel
theorem dX7_sumOf_30 : decode cX7_sumOf 30 = .ok (.goto (-20), 3) := by decide +kernel
theorem dX7_sumOf_33 : decode cX7_sumOf 33 = .ok (.iload_n 1, 1) := by decide +kernel
theorem dX7_sumOf_34 : decode cX7_sumOf 34 = .ok (.ireturn, 1) := by decide +kernel
theorem dX7_shareOf_0 : decode cX7_shareOf 0 = .ok (.lload_n 2, 1) := by decide +kernel
theorem dX7_shareOf_1 : decode cX7_shareOf 1 = .ok (.lconst 0, 1) := by decide +kernel
theorem dX7_shareOf_2 : decode cX7_shareOf 2 = .ok (.lcmp, 1) := by decide +kernel
theorem dX7_shareOf_3 : decode cX7_shareOf 3 = .ok (.ifCond .ne 9, 3) := by decide +kernel
theorem dX7_shareOf_6 : decode cX7_shareOf 6 = .ok (.sipush 1000, 3) := by decide +kernel
theorem dX7_shareOf_9 : decode cX7_shareOf 9 = .ok (.goto 11, 3) := by decide +kernel
theorem dX7_shareOf_12 : decode cX7_shareOf 12 = .ok (.ldc2_w 479, 3) := by decide +kernel
theorem dX7_shareOf_15 : decode cX7_shareOf 15 = .ok (.lload_n 0, 1) := by decide +kernel
theorem dX7_shareOf_16 : decode cX7_shareOf 16 = .ok (.lmul, 1) := by decide +kernel
theorem dX7_shareOf_17 : decode cX7_shareOf 17 = .ok (.lload_n 2, 1) := by decide +kernel
theorem dX7_shareOf_18 : decode cX7_shareOf 18 = .ok (.ldiv, 1) := by decide +kernel
theorem dX7_shareOf_19 : decode cX7_shareOf 19 = .ok (.l2i, 1) := by decide +kernel
theorem dX7_shareOf_20 : decode cX7_shareOf 20 = .ok (.ireturn, 1) := by decide +kernel
theorem dX7_lets_0 : decode cX7_lets 0 = .ok (.aload_n 0, 1) := by decide +kernel
theorem dX7_lets_1 : decode cX7_lets 1 = .ok (.iload_n 1, 1) := by decide +kernel
theorem dX7_lets_2 : decode cX7_lets 2 = .ok (.iconst 5, 1) := by decide +kernel
theorem dX7_lets_3 : decode cX7_lets 3 = .ok (.invokevirtual 116, 3) := by decide +kernel
theorem dX7_lets_6 : decode cX7_lets 6 = .ok (.istore_n 2, 1) := by decide +kernel
theorem dX7_lets_7 : decode cX7_lets 7 = .ok (.iload_n 2, 1) := by decide +kernel
theorem dX7_lets_8 : decode cX7_lets 8 = .ok (.bipush (-2), 2) := by decide +kernel
theorem dX7_lets_10 : decode cX7_lets 10 = .ok (.if_icmp .eq 22, 3) := by decide +kernel
theorem dX7_lets_13 : decode cX7_lets 13 = .ok (.aload_n 0, 1) := by decide +kernel
theorem dX7_lets_14 : decode cX7_lets 14 = .ok (.aload_n 0, 1) := by decide +kernel
theorem dX7_lets_15 : decode cX7_lets 15 = .ok (.iload_n 1, 1) := by decide +kernel
theorem dX7_lets_16 : decode cX7_lets 16 = .ok (.iconst 0, 1) := by decide +kernel
theorem dX7_lets_17 : decode cX7_lets 17 = .ok (.invokevirtual 116, 3) := by decide +kernel
theorem dX7_lets_20 : decode cX7_lets 20 = .ok (.aload_n 0, 1) := by decide +kernel
theorem dX7_lets_21 : decode cX7_lets 21 = .ok (.iload_n 2, 1) := by decide +kernel
theorem dX7_lets_22 : decode cX7_lets 22 = .ok (.iconst 0, 1) := by decide +kernel
theorem dX7_lets_23 : decode cX7_lets 23 = .ok (.invokevirtual 113, 3) := by decide +kernel
theorem dX7_lets_26 : decode cX7_lets 26 = .ok (.invokevirtual 170, 3) := by decide +kernel
theorem dX7_lets_29 : decode cX7_lets 29 = .ok (.ifCond .ne 4, 3) := by decide +kernel
theorem dX7_lets_32 : decode cX7_lets 32 = .ok (.return_, 1) := by decide +kernel
theorem dX7_lets_33 : decode cX7_lets 33 = .ok (.aload_n 0, 1) := by decide +kernel
theorem dX7_lets_34 : decode cX7_lets 34 = .ok (.getfield 67, 3) := by decide +kernel
theorem dX7_lets_37 : decode cX7_lets 37 = .ok (.iload_n 1, 1) := by decide +kernel
theorem dX7_lets_38 : decode cX7_lets 38 = .ok (.aload_n 0, 1) := by decide +kernel
theorem dX7_lets_39 : decode cX7_lets 39 = .ok (.iload_n 1, 1) := by decide +kernel
theorem dX7_lets_40 : decode cX7_lets 40 = .ok (.bipush 6, 2) := by decide +kernel
theorem dX7_lets_42 : decode cX7_lets 42 = .ok (.invokevirtual 116, 3) := by decide +kernel
theorem dX7_lets_45 : decode cX7_lets 45 = .ok (.aload_n 0, 1) := by decide +kernel
theorem dX7_lets_46 : decode cX7_lets 46 = .ok (.iload_n 1, 1) := by decide +kernel
theorem dX7_lets_47 : decode cX7_lets 47 = .ok (.iconst 4, 1) := by decide +kernel
theorem dX7_lets_48 : decode cX7_lets 48 = .ok (.invokevirtual 116, 3) := by decide +kernel
theorem dX7_lets_51 : decode cX7_lets 51 = .ok (.invokestatic 119, 3) := by decide +kernel
theorem dX7_lets_54 : decode cX7_lets 54 = .ok (.iastore, 1) := by decide +kernel
theorem dX7_lets_55 : decode cX7_lets 55 = .ok (.aload_n 0, 1) := by decide +kernel
theorem dX7_lets_56 : decode cX7_lets 56 = .ok (.getfield 45, 3) := by decide +kernel
theorem dX7_lets_59 : decode cX7_lets 59 = .ok (.aload_n 0, 1) := by decide +kernel
theorem dX7_lets_60 : decode cX7_lets 60 = .ok (.iload_n 1, 1) := by decide +kernel
theorem dX7_lets_61 : decode cX7_lets 61 = .ok (.iconst 0, 1) := by decide +kernel
theorem dX7_lets_62 : decode cX7_lets 62 = .ok (.invokevirtual 116, 3) := by decide +kernel
theorem dX7_lets_65 : decode cX7_lets 65 = .ok (.dup2, 1) := by decide +kernel
theorem dX7_lets_66 : decode cX7_lets 66 = .ok (.iaload, 1) := by decide +kernel
theorem dX7_lets_67 : decode cX7_lets 67 = .ok (.aload_n 0, 1) := by decide +kernel
theorem dX7_lets_68 : decode cX7_lets 68 = .ok (.getfield 67, 3) := by decide +kernel
theorem dX7_lets_71 : decode cX7_lets 71 = .ok (.iload_n 1, 1) := by decide +kernel
theorem dX7_lets_72 : decode cX7_lets 72 = .ok (.iaload, 1) := by decide +kernel
theorem dX7_lets_73 : decode cX7_lets 73 = .ok (.iadd, 1) := by decide +kernel
theorem dX7_lets_74 : decode cX7_lets 74 = .ok (.iastore, 1) := by decide +kernel
theorem dX7_lets_75 : decode cX7_lets 75 = .ok (.aload_n 0, 1) := by decide +kernel
theorem dX7_lets_76 : decode cX7_lets 76 = .ok (.aload_n 0, 1) := by decide +kernel
theorem dX7_lets_77 : decode cX7_lets 77 = .ok (.iload_n 2, 1) := by decide +kernel
theorem dX7_lets_78 : decode cX7_lets 78 = .ok (.iconst 0, 1) := by decide +kernel
theorem dX7_lets_79 : decode cX7_lets 79 = .ok (.invokevirtual 113, 3) := by decide +kernel
theorem dX7_lets_82 : decode cX7_lets 82 = .ok (.aload_n 0, 1) := by decide +kernel
theorem dX7_lets_83 : decode cX7_lets 83 = .ok (.getfield 67, 3) := by decide +kernel
theorem dX7_lets_86 : decode cX7_lets 86 = .ok (.iload_n 1, 1) := by decide +kernel
theorem dX7_lets_87 : decode cX7_lets 87 = .ok (.iaload, 1) := by decide +kernel
theorem dX7_lets_88 : decode cX7_lets 88 = .ok (.aload_n 0, 1) := by decide +kernel
theorem dX7_lets_89 : decode cX7_lets 89 = .ok (.iload_n 2, 1) := by decide +kernel
theorem dX7_lets_90 : decode cX7_lets 90 = .ok (.invokevirtual 163, 3) := by decide +kernel
theorem dX7_lets_93 : decode cX7_lets 93 = .ok (.aload_n 0, 1) := by decide +kernel
theorem dX7_lets_94 : decode cX7_lets 94 = .ok (.getfield 58, 3) := by decide +kernel
theorem dX7_lets_97 : decode cX7_lets 97 = .ok (.iload_n 2, 1) := by decide +kernel
theorem dX7_lets_98 : decode cX7_lets 98 = .ok (.iaload, 1) := by decide +kernel
theorem dX7_lets_99 : decode cX7_lets 99 = .ok (.isub, 1) := by decide +kernel
theorem dX7_lets_100 : decode cX7_lets 100 = .ok (.aload_n 0, 1) := by decide +kernel
theorem dX7_lets_101 : decode cX7_lets 101 = .ok (.getfield 61, 3) := by decide +kernel
theorem dX7_lets_104 : decode cX7_lets 104 = .ok (.iload_n 2, 1) := by decide +kernel
theorem dX7_lets_105 : decode cX7_lets 105 = .ok (.iaload, 1) := by decide +kernel
theorem dX7_lets_106 : decode cX7_lets 106 = .ok (.isub, 1) := by decide +kernel
theorem dX7_lets_107 : decode cX7_lets 107 = .ok (.invokestatic 119, 3) := by decide +kernel
theorem dX7_lets_110 : decode cX7_lets 110 = .ok (.iconst (-1), 1) := by decide +kernel
theorem dX7_lets_111 : decode cX7_lets 111 = .ok (.invokevirtual 166, 3) := by decide +kernel
theorem dX7_lets_114 : decode cX7_lets 114 = .ok (.istore_n 3, 1) := by decide +kernel
theorem dX7_lets_115 : decode cX7_lets 115 = .ok (.aload_n 0, 1) := by decide +kernel
theorem dX7_lets_116 : decode cX7_lets 116 = .ok (.getfield 61, 3) := by decide +kernel
theorem dX7_lets_119 : decode cX7_lets 119 = .ok (.iload_n 2, 1) := by decide +kernel
theorem dX7_lets_120 : decode cX7_lets 120 = .ok (.dup2, 1) := by decide +kernel
theorem dX7_lets_121 : decode cX7_lets 121 = .ok (.iaload, 1) := by decide +kernel
theorem dX7_lets_122 : decode cX7_lets 122 = .ok (.iload_n 3, 1) := by decide +kernel
theorem dX7_lets_123 : decode cX7_lets 123 = .ok (.iadd, 1) := by decide +kernel
theorem dX7_lets_124 : decode cX7_lets 124 = .ok (.iastore, 1) := by decide +kernel
theorem dX7_lets_125 : decode cX7_lets 125 = .ok (.aload_n 0, 1) := by decide +kernel
theorem dX7_lets_126 : decode cX7_lets 126 = .ok (.getfield 42, 3) := by decide +kernel
theorem dX7_lets_129 : decode cX7_lets 129 = .ok (.aload_n 0, 1) := by decide +kernel
theorem dX7_lets_130 : decode cX7_lets 130 = .ok (.iload_n 2, 1) := by decide +kernel
theorem dX7_lets_131 : decode cX7_lets 131 = .ok (.iconst 0, 1) := by decide +kernel
theorem dX7_lets_132 : decode cX7_lets 132 = .ok (.invokevirtual 113, 3) := by decide +kernel
theorem dX7_lets_135 : decode cX7_lets 135 = .ok (.dup2, 1) := by decide +kernel
theorem dX7_lets_136 : decode cX7_lets 136 = .ok (.iaload, 1) := by decide +kernel
theorem dX7_lets_137 : decode cX7_lets 137 = .ok (.iload_n 3, 1) := by decide +kernel
theorem dX7_lets_138 : decode cX7_lets 138 = .ok (.iadd, 1) := by decide +kernel
theorem dX7_lets_139 : decode cX7_lets 139 = .ok (.iastore, 1) := by decide +kernel
theorem dX7_lets_140 : decode cX7_lets 140 = .ok (.return_, 1) := by decide +kernel
theorem dX7_barters_0 : decode cX7_barters 0 = .ok (.aload_n 0, 1) := by decide +kernel
theorem dX7_barters_1 : decode cX7_barters 1 = .ok (.iload_n 1, 1) := by decide +kernel
theorem dX7_barters_2 : decode cX7_barters 2 = .ok (.bipush 11, 2) := by decide +kernel
theorem dX7_barters_4 : decode cX7_barters 4 = .ok (.invokevirtual 113, 3) := by decide +kernel
theorem dX7_barters_7 : decode cX7_barters 7 = .ok (.istore_n 2, 1) := by decide +kernel
theorem dX7_barters_8 : decode cX7_barters 8 = .ok (.iload_n 2, 1) := by decide +kernel
theorem dX7_barters_9 : decode cX7_barters 9 = .ok (.bipush (-2), 2) := by decide +kernel
theorem dX7_barters_11 : decode cX7_barters 11 = .ok (.if_icmp .eq 22, 3) := by decide +kernel
theorem dX7_barters_14 : decode cX7_barters 14 = .ok (.aload_n 0, 1) := by decide +kernel
theorem dX7_barters_15 : decode cX7_barters 15 = .ok (.aload_n 0, 1) := by decide +kernel
theorem dX7_barters_16 : decode cX7_barters 16 = .ok (.iload_n 1, 1) := by decide +kernel
theorem dX7_barters_17 : decode cX7_barters 17 = .ok (.iconst 0, 1) := by decide +kernel
theorem dX7_barters_18 : decode cX7_barters 18 = .ok (.invokevirtual 113, 3) := by decide +kernel
theorem dX7_barters_21 : decode cX7_barters 21 = .ok (.aload_n 0, 1) := by decide +kernel
theorem dX7_barters_22 : decode cX7_barters 22 = .ok (.iload_n 2, 1) := by decide +kernel
theorem dX7_barters_23 : decode cX7_barters 23 = .ok (.iconst 0, 1) := by decide +kernel
theorem dX7_barters_24 : decode cX7_barters 24 = .ok (.invokevirtual 116, 3) := by decide +kernel
theorem dX7_barters_27 : decode cX7_barters 27 = .ok (.invokevirtual 170, 3) := by decide +kernel
theorem dX7_barters_30 : decode cX7_barters 30 = .ok (.ifCond .ne 4, 3) := by decide +kernel
theorem dX7_barters_33 : decode cX7_barters 33 = .ok (.return_, 1) := by decide +kernel
theorem dX7_barters_34 : decode cX7_barters 34 = .ok (.aload_n 0, 1) := by decide +kernel
theorem dX7_barters_35 : decode cX7_barters 35 = .ok (.iload_n 1, 1) := by decide +kernel
theorem dX7_barters_36 : decode cX7_barters 36 = .ok (.invokevirtual 163, 3) := by decide +kernel
theorem dX7_barters_39 : decode cX7_barters 39 = .ok (.aload_n 0, 1) := by decide +kernel
theorem dX7_barters_40 : decode cX7_barters 40 = .ok (.getfield 58, 3) := by decide +kernel
theorem dX7_barters_43 : decode cX7_barters 43 = .ok (.iload_n 1, 1) := by decide +kernel
theorem dX7_barters_44 : decode cX7_barters 44 = .ok (.iaload, 1) := by decide +kernel
theorem dX7_barters_45 : decode cX7_barters 45 = .ok (.isub, 1) := by decide +kernel
theorem dX7_barters_46 : decode cX7_barters 46 = .ok (.aload_n 0, 1) := by decide +kernel
theorem dX7_barters_47 : decode cX7_barters 47 = .ok (.getfield 61, 3) := by decide +kernel
theorem dX7_barters_50 : decode cX7_barters 50 = .ok (.iload_n 1, 1) := by decide +kernel
theorem dX7_barters_51 : decode cX7_barters 51 = .ok (.iaload, 1) := by decide +kernel
theorem dX7_barters_52 : decode cX7_barters 52 = .ok (.isub, 1) := by decide +kernel
theorem dX7_barters_53 : decode cX7_barters 53 = .ok (.aload_n 0, 1) := by decide +kernel
theorem dX7_barters_54 : decode cX7_barters 54 = .ok (.iload_n 2, 1) := by decide +kernel
theorem dX7_barters_55 : decode cX7_barters 55 = .ok (.iconst 4, 1) := by decide +kernel
theorem dX7_barters_56 : decode cX7_barters 56 = .ok (.invokevirtual 116, 3) := by decide +kernel
theorem dX7_barters_59 : decode cX7_barters 59 = .ok (.aload_n 0, 1) := by decide +kernel
theorem dX7_barters_60 : decode cX7_barters 60 = .ok (.getfield 67, 3) := by decide +kernel
theorem dX7_barters_63 : decode cX7_barters 63 = .ok (.iload_n 2, 1) := by decide +kernel
theorem dX7_barters_64 : decode cX7_barters 64 = .ok (.iaload, 1) := by decide +kernel
theorem dX7_barters_65 : decode cX7_barters 65 = .ok (.isub, 1) := by decide +kernel
theorem dX7_barters_66 : decode cX7_barters 66 = .ok (.aload_n 0, 1) := by decide +kernel
theorem dX7_barters_67 : decode cX7_barters 67 = .ok (.getfield 70, 3) := by decide +kernel
theorem dX7_barters_70 : decode cX7_barters 70 = .ok (.iload_n 2, 1) := by decide +kernel
theorem dX7_barters_71 : decode cX7_barters 71 = .ok (.iaload, 1) := by decide +kernel
theorem dX7_barters_72 : decode cX7_barters 72 = .ok (.isub, 1) := by decide +kernel
theorem dX7_barters_73 : decode cX7_barters 73 = .ok (.invokestatic 119, 3) := by decide +kernel
theorem dX7_barters_76 : decode cX7_barters 76 = .ok (.istore_n 3, 1) := by decide +kernel
theorem dX7_barters_77 : decode cX7_barters 77 = .ok (.aload_n 0, 1) := by decide +kernel
theorem dX7_barters_78 : decode cX7_barters 78 = .ok (.aload_n 0, 1) := by decide +kernel
theorem dX7_barters_79 : decode cX7_barters 79 = .ok (.iload_n 1, 1) := by decide +kernel
theorem dX7_barters_80 : decode cX7_barters 80 = .ok (.iconst 0, 1) := by decide +kernel
theorem dX7_barters_81 : decode cX7_barters 81 = .ok (.invokevirtual 113, 3) := by decide +kernel
theorem dX7_barters_84 : decode cX7_barters 84 = .ok (.iload_n 3, 1) := by decide +kernel
theorem dX7_barters_85 : decode cX7_barters 85 = .ok (.aload_n 0, 1) := by decide +kernel
theorem dX7_barters_86 : decode cX7_barters 86 = .ok (.iload_n 2, 1) := by decide +kernel
theorem dX7_barters_87 : decode cX7_barters 87 = .ok (.iconst 0, 1) := by decide +kernel
theorem dX7_barters_88 : decode cX7_barters 88 = .ok (.invokevirtual 116, 3) := by decide +kernel
theorem dX7_barters_91 : decode cX7_barters 91 = .ok (.invokevirtual 166, 3) := by decide +kernel
theorem dX7_barters_94 : decode cX7_barters 94 = .ok (.istore 4, 2) := by decide +kernel
theorem dX7_barters_96 : decode cX7_barters 96 = .ok (.aload_n 0, 1) := by decide +kernel
theorem dX7_barters_97 : decode cX7_barters 97 = .ok (.getfield 64, 3) := by decide +kernel
theorem dX7_barters_100 : decode cX7_barters 100 = .ok (.iload_n 1, 1) := by decide +kernel
theorem dX7_barters_101 : decode cX7_barters 101 = .ok (.iload 4, 2) := by decide +kernel
theorem dX7_barters_103 : decode cX7_barters 103 = .ok (.iastore, 1) := by decide +kernel
theorem dX7_barters_104 : decode cX7_barters 104 = .ok (.aload_n 0, 1) := by decide +kernel
theorem dX7_barters_105 : decode cX7_barters 105 = .ok (.getfield 70, 3) := by decide +kernel
theorem dX7_barters_108 : decode cX7_barters 108 = .ok (.iload_n 2, 1) := by decide +kernel
theorem dX7_barters_109 : decode cX7_barters 109 = .ok (.dup2, 1) := by decide +kernel
theorem dX7_barters_110 : decode cX7_barters 110 = .ok (.iaload, 1) := by decide +kernel
theorem dX7_barters_111 : decode cX7_barters 111 = .ok (.iload 4, 2) := by decide +kernel
theorem dX7_barters_113 : decode cX7_barters 113 = .ok (.iadd, 1) := by decide +kernel
theorem dX7_barters_114 : decode cX7_barters 114 = .ok (.iastore, 1) := by decide +kernel
theorem dX7_barters_115 : decode cX7_barters 115 = .ok (.aload_n 0, 1) := by decide +kernel
theorem dX7_barters_116 : decode cX7_barters 116 = .ok (.getfield 42, 3) := by decide +kernel
theorem dX7_barters_119 : decode cX7_barters 119 = .ok (.aload_n 0, 1) := by decide +kernel
theorem dX7_barters_120 : decode cX7_barters 120 = .ok (.iload_n 1, 1) := by decide +kernel
theorem dX7_barters_121 : decode cX7_barters 121 = .ok (.iconst 0, 1) := by decide +kernel
theorem dX7_barters_122 : decode cX7_barters 122 = .ok (.invokevirtual 113, 3) := by decide +kernel
theorem dX7_barters_125 : decode cX7_barters 125 = .ok (.dup2, 1) := by decide +kernel
theorem dX7_barters_126 : decode cX7_barters 126 = .ok (.iaload, 1) := by decide +kernel
theorem dX7_barters_127 : decode cX7_barters 127 = .ok (.iload 4, 2) := by decide +kernel
theorem dX7_barters_129 : decode cX7_barters 129 = .ok (.iadd, 1) := by decide +kernel
theorem dX7_barters_130 : decode cX7_barters 130 = .ok (.iastore, 1) := by decide +kernel
theorem dX7_barters_131 : decode cX7_barters 131 = .ok (.aload_n 0, 1) := by decide +kernel
theorem dX7_barters_132 : decode cX7_barters 132 = .ok (.getfield 45, 3) := by decide +kernel
theorem dX7_barters_135 : decode cX7_barters 135 = .ok (.aload_n 0, 1) := by decide +kernel
theorem dX7_barters_136 : decode cX7_barters 136 = .ok (.iload_n 2, 1) := by decide +kernel
theorem dX7_barters_137 : decode cX7_barters 137 = .ok (.iconst 0, 1) := by decide +kernel
theorem dX7_barters_138 : decode cX7_barters 138 = .ok (.invokevirtual 116, 3) := by decide +kernel
theorem dX7_barters_141 : decode cX7_barters 141 = .ok (.dup2, 1) := by decide +kernel
theorem dX7_barters_142 : decode cX7_barters 142 = .ok (.iaload, 1) := by decide +kernel
theorem dX7_barters_143 : decode cX7_barters 143 = .ok (.iload 4, 2) := by decide +kernel
theorem dX7_barters_145 : decode cX7_barters 145 = .ok (.iadd, 1) := by decide +kernel
theorem dX7_barters_146 : decode cX7_barters 146 = .ok (.iastore, 1) := by decide +kernel
theorem dX7_barters_147 : decode cX7_barters 147 = .ok (.return_, 1) := by decide +kernel
theorem dX7_works_0 : decode cX7_works 0 = .ok (.aload_n 0, 1) := by decide +kernel
theorem dX7_works_1 : decode cX7_works 1 = .ok (.iconst 0, 1) := by decide +kernel
theorem dX7_works_2 : decode cX7_works 2 = .ok (.invokevirtual 173, 3) := by decide +kernel
theorem dX7_works_5 : decode cX7_works 5 = .ok (.iconst 0, 1) := by decide +kernel
theorem dX7_works_6 : decode cX7_works 6 = .ok (.istore_n 1, 1) := by decide +kernel
theorem dX7_works_7 : decode cX7_works 7 = .ok (.iload_n 1, 1) := by decide +kernel
theorem dX7_works_8 : decode cX7_works 8 = .ok (.aload_n 0, 1) := by decide +kernel
theorem dX7_works_9 : decode cX7_works 9 = .ok (.invokevirtual 103, 3) := by decide +kernel
theorem dX7_works_12 : decode cX7_works 12 = .ok (.if_icmp .ge 14, 3) := by decide +kernel
theorem dX7_works_15 : decode cX7_works 15 = .ok (.aload_n 0, 1) := by decide +kernel
theorem dX7_works_16 : decode cX7_works 16 = .ok (.iload_n 1, 1) := by decide +kernel
theorem dX7_works_17 : decode cX7_works 17 = .ok (.invokevirtual 177, 3) := by decide +kernel
theorem dX7_works_20 : decode cX7_works 20 = .ok (.iinc 1 1, 3) := by decide +kernel
theorem dX7_works_23 : decode cX7_works 23 = .ok (.goto (-16), 3) := by decide +kernel
theorem dX7_works_26 : decode cX7_works 26 = .ok (.iconst 0, 1) := by decide +kernel
theorem dX7_works_27 : decode cX7_works 27 = .ok (.istore_n 1, 1) := by decide +kernel
theorem dX7_works_28 : decode cX7_works 28 = .ok (.iload_n 1, 1) := by decide +kernel
theorem dX7_works_29 : decode cX7_works 29 = .ok (.aload_n 0, 1) := by decide +kernel
theorem dX7_works_30 : decode cX7_works 30 = .ok (.invokevirtual 100, 3) := by decide +kernel
theorem dX7_works_33 : decode cX7_works 33 = .ok (.if_icmp .ge 14, 3) := by decide +kernel
theorem dX7_works_36 : decode cX7_works 36 = .ok (.aload_n 0, 1) := by decide +kernel
theorem dX7_works_37 : decode cX7_works 37 = .ok (.iload_n 1, 1) := by decide +kernel
theorem dX7_works_38 : decode cX7_works 38 = .ok (.invokevirtual 180, 3) := by decide +kernel
theorem dX7_works_41 : decode cX7_works 41 = .ok (.iinc 1 1, 3) := by decide +kernel
theorem dX7_works_44 : decode cX7_works 44 = .ok (.goto (-16), 3) := by decide +kernel
theorem dX7_works_47 : decode cX7_works 47 = .ok (.aload_n 0, 1) := by decide +kernel
theorem dX7_works_48 : decode cX7_works 48 = .ok (.invokevirtual 142, 3) := by decide +kernel
theorem dX7_works_51 : decode cX7_works 51 = .ok (.istore_n 1, 1) := by decide +kernel
theorem dX7_works_52 : decode cX7_works 52 = .ok (.return_, 1) := by decide +kernel
theorem dX7_addsUp_0 : decode cX7_addsUp 0 = .ok (.aload_n 0, 1) := by decide +kernel
theorem dX7_addsUp_1 : decode cX7_addsUp 1 = .ok (.iconst 0, 1) := by decide +kernel
theorem dX7_addsUp_2 : decode cX7_addsUp 2 = .ok (.putfield 186, 3) := by decide +kernel
theorem dX7_addsUp_5 : decode cX7_addsUp 5 = .ok (.aload_n 0, 1) := by decide +kernel
theorem dX7_addsUp_6 : decode cX7_addsUp 6 = .ok (.iconst 0, 1) := by decide +kernel
theorem dX7_addsUp_7 : decode cX7_addsUp 7 = .ok (.putfield 189, 3) := by decide +kernel
theorem dX7_addsUp_10 : decode cX7_addsUp 10 = .ok (.aload_n 0, 1) := by decide +kernel
theorem dX7_addsUp_11 : decode cX7_addsUp 11 = .ok (.iconst 0, 1) := by decide +kernel
theorem dX7_addsUp_12 : decode cX7_addsUp 12 = .ok (.putfield 192, 3) := by decide +kernel
theorem dX7_addsUp_15 : decode cX7_addsUp 15 = .ok (.aload_n 0, 1) := by decide +kernel
theorem dX7_addsUp_16 : decode cX7_addsUp 16 = .ok (.iconst 0, 1) := by decide +kernel
theorem dX7_addsUp_17 : decode cX7_addsUp 17 = .ok (.putfield 195, 3) := by decide +kernel
theorem dX7_addsUp_20 : decode cX7_addsUp 20 = .ok (.iconst 0, 1) := by decide +kernel
theorem dX7_addsUp_21 : decode cX7_addsUp 21 = .ok (.istore_n 1, 1) := by decide +kernel
theorem dX7_addsUp_22 : decode cX7_addsUp 22 = .ok (.iload_n 1, 1) := by decide +kernel
theorem dX7_addsUp_23 : decode cX7_addsUp 23 = .ok (.aload_n 0, 1) := by decide +kernel
theorem dX7_addsUp_24 : decode cX7_addsUp 24 = .ok (.invokevirtual 92, 3) := by decide +kernel
theorem dX7_addsUp_27 : decode cX7_addsUp 27 = .ok (.if_icmp .ge 98, 3) := by decide +kernel
theorem dX7_addsUp_30 : decode cX7_addsUp 30 = .ok (.aload_n 0, 1) := by decide +kernel
theorem dX7_addsUp_31 : decode cX7_addsUp 31 = .ok (.getfield 13, 3) := by decide +kernel
theorem dX7_addsUp_34 : decode cX7_addsUp 34 = .ok (.iconst 0, 1) := by decide +kernel
theorem dX7_addsUp_35 : decode cX7_addsUp 35 = .ok (.dup2, 1) := by decide +kernel
theorem dX7_addsUp_36 : decode cX7_addsUp 36 = .ok (.laload, 1) := by decide +kernel
theorem dX7_addsUp_37 : decode cX7_addsUp 37 = .ok (.aload_n 0, 1) := by decide +kernel
theorem dX7_addsUp_38 : decode cX7_addsUp 38 = .ok (.iload_n 1, 1) := by decide +kernel
theorem dX7_addsUp_39 : decode cX7_addsUp 39 = .ok (.invokevirtual 133, 3) := by decide +kernel
theorem dX7_addsUp_42 : decode cX7_addsUp 42 = .ok (.i2l, 1) := by decide +kernel
theorem dX7_addsUp_43 : decode cX7_addsUp 43 = .ok (.ladd, 1) := by decide +kernel
theorem dX7_addsUp_44 : decode cX7_addsUp 44 = .ok (.lastore, 1) := by decide +kernel
theorem dX7_addsUp_45 : decode cX7_addsUp 45 = .ok (.aload_n 0, 1) := by decide +kernel
theorem dX7_addsUp_46 : decode cX7_addsUp 46 = .ok (.getfield 13, 3) := by decide +kernel
theorem dX7_addsUp_49 : decode cX7_addsUp 49 = .ok (.iconst 4, 1) := by decide +kernel
theorem dX7_addsUp_50 : decode cX7_addsUp 50 = .ok (.dup2, 1) := by decide +kernel
theorem dX7_addsUp_51 : decode cX7_addsUp 51 = .ok (.laload, 1) := by decide +kernel
theorem dX7_addsUp_52 : decode cX7_addsUp 52 = .ok (.aload_n 0, 1) := by decide +kernel
theorem dX7_addsUp_53 : decode cX7_addsUp 53 = .ok (.iload_n 1, 1) := by decide +kernel
theorem dX7_addsUp_54 : decode cX7_addsUp 54 = .ok (.iconst 0, 1) := by decide +kernel
theorem dX7_addsUp_55 : decode cX7_addsUp 55 = .ok (.invokevirtual 136, 3) := by decide +kernel
theorem dX7_addsUp_58 : decode cX7_addsUp 58 = .ok (.i2l, 1) := by decide +kernel
theorem dX7_addsUp_59 : decode cX7_addsUp 59 = .ok (.ladd, 1) := by decide +kernel
theorem dX7_addsUp_60 : decode cX7_addsUp 60 = .ok (.lastore, 1) := by decide +kernel
theorem dX7_addsUp_61 : decode cX7_addsUp 61 = .ok (.aload_n 0, 1) := by decide +kernel
theorem dX7_addsUp_62 : decode cX7_addsUp 62 = .ok (.dup, 1) := by decide +kernel
theorem dX7_addsUp_63 : decode cX7_addsUp 63 = .ok (.getfield 189, 3) := by decide +kernel
theorem dX7_addsUp_66 : decode cX7_addsUp 66 = .ok (.aload_n 0, 1) := by decide +kernel
theorem dX7_addsUp_67 : decode cX7_addsUp 67 = .ok (.getfield 48, 3) := by decide +kernel
theorem dX7_addsUp_70 : decode cX7_addsUp 70 = .ok (.iload_n 1, 1) := by decide +kernel
theorem dX7_addsUp_71 : decode cX7_addsUp 71 = .ok (.iaload, 1) := by decide +kernel
theorem dX7_addsUp_72 : decode cX7_addsUp 72 = .ok (.aload_n 0, 1) := by decide +kernel
theorem dX7_addsUp_73 : decode cX7_addsUp 73 = .ok (.getfield 42, 3) := by decide +kernel
theorem dX7_addsUp_76 : decode cX7_addsUp 76 = .ok (.iload_n 1, 1) := by decide +kernel
theorem dX7_addsUp_77 : decode cX7_addsUp 77 = .ok (.iaload, 1) := by decide +kernel
theorem dX7_addsUp_78 : decode cX7_addsUp 78 = .ok (.isub, 1) := by decide +kernel
theorem dX7_addsUp_79 : decode cX7_addsUp 79 = .ok (.aload_n 0, 1) := by decide +kernel
theorem dX7_addsUp_80 : decode cX7_addsUp 80 = .ok (.getfield 51, 3) := by decide +kernel
theorem dX7_addsUp_83 : decode cX7_addsUp 83 = .ok (.iload_n 1, 1) := by decide +kernel
theorem dX7_addsUp_84 : decode cX7_addsUp 84 = .ok (.iaload, 1) := by decide +kernel
theorem dX7_addsUp_85 : decode cX7_addsUp 85 = .ok (.isub, 1) := by decide +kernel
theorem dX7_addsUp_86 : decode cX7_addsUp 86 = .ok (.iadd, 1) := by decide +kernel
theorem dX7_addsUp_87 : decode cX7_addsUp 87 = .ok (.putfield 189, 3) := by decide +kernel
theorem dX7_addsUp_90 : decode cX7_addsUp 90 = .ok (.aload_n 0, 1) := by decide +kernel
theorem dX7_addsUp_91 : decode cX7_addsUp 91 = .ok (.dup, 1) := by decide +kernel
theorem dX7_addsUp_92 : decode cX7_addsUp 92 = .ok (.getfield 186, 3) := by decide +kernel
theorem dX7_addsUp_95 : decode cX7_addsUp 95 = .ok (.aload_n 0, 1) := by decide +kernel
theorem dX7_addsUp_96 : decode cX7_addsUp 96 = .ok (.iload_n 1, 1) := by decide +kernel
theorem dX7_addsUp_97 : decode cX7_addsUp 97 = .ok (.iconst 0, 1) := by decide +kernel
theorem dX7_addsUp_98 : decode cX7_addsUp 98 = .ok (.invokevirtual 106, 3) := by decide +kernel
theorem dX7_addsUp_101 : decode cX7_addsUp 101 = .ok (.iconst (-1), 1) := by decide +kernel
theorem dX7_addsUp_102 : decode cX7_addsUp 102 = .ok (.if_icmp .ne 12, 3) := by decide +kernel
theorem dX7_addsUp_105 : decode cX7_addsUp 105 = .ok (.aload_n 0, 1) := by decide +kernel
theorem dX7_addsUp_106 : decode cX7_addsUp 106 = .ok (.getfield 51, 3) := by decide +kernel
theorem dX7_addsUp_109 : decode cX7_addsUp 109 = .ok (.iload_n 1, 1) := by decide +kernel
theorem dX7_addsUp_110 : decode cX7_addsUp 110 = .ok (.iaload, 1) := by decide +kernel
theorem dX7_addsUp_111 : decode cX7_addsUp 111 = .ok (.goto 4, 3) := by decide +kernel
theorem dX7_addsUp_114 : decode cX7_addsUp 114 = .ok (.iconst 0, 1) := by decide +kernel
theorem dX7_addsUp_115 : decode cX7_addsUp 115 = .ok (.iadd, 1) := by decide +kernel
theorem dX7_addsUp_116 : decode cX7_addsUp 116 = .ok (.putfield 186, 3) := by decide +kernel
theorem dX7_addsUp_119 : decode cX7_addsUp 119 = .ok (.iinc 1 1, 3) := by decide +kernel
theorem dX7_addsUp_122 : decode cX7_addsUp 122 = .ok (.goto (-100), 3) := by decide +kernel
theorem dX7_addsUp_125 : decode cX7_addsUp 125 = .ok (.iconst 0, 1) := by decide +kernel
theorem dX7_addsUp_126 : decode cX7_addsUp 126 = .ok (.istore_n 1, 1) := by decide +kernel
theorem dX7_addsUp_127 : decode cX7_addsUp 127 = .ok (.iload_n 1, 1) := by decide +kernel
theorem dX7_addsUp_128 : decode cX7_addsUp 128 = .ok (.aload_n 0, 1) := by decide +kernel
theorem dX7_addsUp_129 : decode cX7_addsUp 129 = .ok (.invokevirtual 100, 3) := by decide +kernel
theorem dX7_addsUp_132 : decode cX7_addsUp 132 = .ok (.if_icmp .ge 47, 3) := by decide +kernel
theorem dX7_addsUp_135 : decode cX7_addsUp 135 = .ok (.aload_n 0, 1) := by decide +kernel
theorem dX7_addsUp_136 : decode cX7_addsUp 136 = .ok (.dup, 1) := by decide +kernel
theorem dX7_addsUp_137 : decode cX7_addsUp 137 = .ok (.getfield 192, 3) := by decide +kernel
theorem dX7_addsUp_140 : decode cX7_addsUp 140 = .ok (.aload_n 0, 1) := by decide +kernel
theorem dX7_addsUp_141 : decode cX7_addsUp 141 = .ok (.iload_n 1, 1) := by decide +kernel
theorem dX7_addsUp_142 : decode cX7_addsUp 142 = .ok (.invokevirtual 183, 3) := by decide +kernel
theorem dX7_addsUp_145 : decode cX7_addsUp 145 = .ok (.iadd, 1) := by decide +kernel
theorem dX7_addsUp_146 : decode cX7_addsUp 146 = .ok (.putfield 192, 3) := by decide +kernel
theorem dX7_addsUp_149 : decode cX7_addsUp 149 = .ok (.aload_n 0, 1) := by decide +kernel
theorem dX7_addsUp_150 : decode cX7_addsUp 150 = .ok (.aload_n 0, 1) := by decide +kernel
theorem dX7_addsUp_151 : decode cX7_addsUp 151 = .ok (.getfield 195, 3) := by decide +kernel
theorem dX7_addsUp_154 : decode cX7_addsUp 154 = .ok (.ifCond .ne 11, 3) := by decide +kernel
theorem dX7_addsUp_157 : decode cX7_addsUp 157 = .ok (.aload_n 0, 1) := by decide +kernel
theorem dX7_addsUp_158 : decode cX7_addsUp 158 = .ok (.iload_n 1, 1) := by decide +kernel
theorem dX7_addsUp_159 : decode cX7_addsUp 159 = .ok (.invokevirtual 199, 3) := by decide +kernel
theorem dX7_addsUp_162 : decode cX7_addsUp 162 = .ok (.ifCond .eq 7, 3) := by decide +kernel
theorem dX7_addsUp_165 : decode cX7_addsUp 165 = .ok (.iconst 1, 1) := by decide +kernel
theorem dX7_addsUp_166 : decode cX7_addsUp 166 = .ok (.goto 4, 3) := by decide +kernel
theorem dX7_addsUp_169 : decode cX7_addsUp 169 = .ok (.iconst 0, 1) := by decide +kernel
theorem dX7_addsUp_170 : decode cX7_addsUp 170 = .ok (.putfield 195, 3) := by decide +kernel
theorem dX7_addsUp_173 : decode cX7_addsUp 173 = .ok (.iinc 1 1, 3) := by decide +kernel
theorem dX7_addsUp_176 : decode cX7_addsUp 176 = .ok (.goto (-49), 3) := by decide +kernel
theorem dX7_addsUp_179 : decode cX7_addsUp 179 = .ok (.aload_n 0, 1) := by decide +kernel
theorem dX7_addsUp_180 : decode cX7_addsUp 180 = .ok (.getfield 13, 3) := by decide +kernel
theorem dX7_addsUp_183 : decode cX7_addsUp 183 = .ok (.iconst 1, 1) := by decide +kernel
theorem dX7_addsUp_184 : decode cX7_addsUp 184 = .ok (.dup2, 1) := by decide +kernel
theorem dX7_addsUp_185 : decode cX7_addsUp 185 = .ok (.laload, 1) := by decide +kernel
theorem dX7_addsUp_186 : decode cX7_addsUp 186 = .ok (.aload_n 0, 1) := by decide +kernel
theorem dX7_addsUp_187 : decode cX7_addsUp 187 = .ok (.getfield 186, 3) := by decide +kernel
theorem dX7_addsUp_190 : decode cX7_addsUp 190 = .ok (.i2l, 1) := by decide +kernel
theorem dX7_addsUp_191 : decode cX7_addsUp 191 = .ok (.ladd, 1) := by decide +kernel
theorem dX7_addsUp_192 : decode cX7_addsUp 192 = .ok (.lastore, 1) := by decide +kernel
theorem dX7_addsUp_193 : decode cX7_addsUp 193 = .ok (.aload_n 0, 1) := by decide +kernel
theorem dX7_addsUp_194 : decode cX7_addsUp 194 = .ok (.getfield 13, 3) := by decide +kernel
theorem dX7_addsUp_197 : decode cX7_addsUp 197 = .ok (.iconst 2, 1) := by decide +kernel
theorem dX7_addsUp_198 : decode cX7_addsUp 198 = .ok (.dup2, 1) := by decide +kernel
theorem dX7_addsUp_199 : decode cX7_addsUp 199 = .ok (.laload, 1) := by decide +kernel
theorem dX7_addsUp_200 : decode cX7_addsUp 200 = .ok (.aload_n 0, 1) := by decide +kernel
theorem dX7_addsUp_201 : decode cX7_addsUp 201 = .ok (.getfield 189, 3) := by decide +kernel
theorem dX7_addsUp_204 : decode cX7_addsUp 204 = .ok (.i2l, 1) := by decide +kernel
theorem dX7_addsUp_205 : decode cX7_addsUp 205 = .ok (.ladd, 1) := by decide +kernel
theorem dX7_addsUp_206 : decode cX7_addsUp 206 = .ok (.lastore, 1) := by decide +kernel
theorem dX7_addsUp_207 : decode cX7_addsUp 207 = .ok (.aload_n 0, 1) := by decide +kernel
theorem dX7_addsUp_208 : decode cX7_addsUp 208 = .ok (.getfield 13, 3) := by decide +kernel
theorem dX7_addsUp_211 : decode cX7_addsUp 211 = .ok (.iconst 3, 1) := by decide +kernel
theorem dX7_addsUp_212 : decode cX7_addsUp 212 = .ok (.dup2, 1) := by decide +kernel
theorem dX7_addsUp_213 : decode cX7_addsUp 213 = .ok (.laload, 1) := by decide +kernel
theorem dX7_addsUp_214 : decode cX7_addsUp 214 = .ok (.aload_n 0, 1) := by decide +kernel
theorem dX7_addsUp_215 : decode cX7_addsUp 215 = .ok (.getfield 192, 3) := by decide +kernel
theorem dX7_addsUp_218 : decode cX7_addsUp 218 = .ok (.i2l, 1) := by decide +kernel
theorem dX7_addsUp_219 : decode cX7_addsUp 219 = .ok (.ladd, 1) := by decide +kernel
theorem dX7_addsUp_220 : decode cX7_addsUp 220 = .ok (.lastore, 1) := by decide +kernel
theorem dX7_addsUp_221 : decode cX7_addsUp 221 = .ok (.aload_n 0, 1) := by decide +kernel
theorem dX7_addsUp_222 : decode cX7_addsUp 222 = .ok (.getfield 13, 3) := by decide +kernel
theorem dX7_addsUp_225 : decode cX7_addsUp 225 = .ok (.iconst 5, 1) := by decide +kernel
theorem dX7_addsUp_226 : decode cX7_addsUp 226 = .ok (.dup2, 1) := by decide +kernel
theorem dX7_addsUp_227 : decode cX7_addsUp 227 = .ok (.laload, 1) := by decide +kernel
theorem dX7_addsUp_228 : decode cX7_addsUp 228 = .ok (.lconst 1, 1) := by decide +kernel
theorem dX7_addsUp_229 : decode cX7_addsUp 229 = .ok (.ladd, 1) := by decide +kernel
theorem dX7_addsUp_230 : decode cX7_addsUp 230 = .ok (.lastore, 1) := by decide +kernel
theorem dX7_addsUp_231 : decode cX7_addsUp 231 = .ok (.return_, 1) := by decide +kernel
theorem dX7_takesIt_0 : decode cX7_takesIt 0 = .ok (.bipush 78, 2) := by decide +kernel
theorem dX7_takesIt_2 : decode cX7_takesIt 2 = .ok (.bipush 13, 2) := by decide +kernel
theorem dX7_takesIt_4 : decode cX7_takesIt 4 = .ok (.iload_n 1, 1) := by decide +kernel
theorem dX7_takesIt_5 : decode cX7_takesIt 5 = .ok (.imul, 1) := by decide +kernel
theorem dX7_takesIt_6 : decode cX7_takesIt 6 = .ok (.iadd, 1) := by decide +kernel
theorem dX7_takesIt_7 : decode cX7_takesIt 7 = .ok (.istore_n 2, 1) := by decide +kernel
theorem dX7_takesIt_8 : decode cX7_takesIt 8 = .ok (.aload_n 0, 1) := by decide +kernel
theorem dX7_takesIt_9 : decode cX7_takesIt 9 = .ok (.iload_n 1, 1) := by decide +kernel
theorem dX7_takesIt_10 : decode cX7_takesIt 10 = .ok (.invokevirtual 183, 3) := by decide +kernel
theorem dX7_takesIt_13 : decode cX7_takesIt 13 = .ok (.istore_n 3, 1) := by decide +kernel
theorem dX7_takesIt_14 : decode cX7_takesIt 14 = .ok (.aload_n 0, 1) := by decide +kernel
theorem dX7_takesIt_15 : decode cX7_takesIt 15 = .ok (.getfield 7, 3) := by decide +kernel
theorem dX7_takesIt_18 : decode cX7_takesIt 18 = .ok (.iload_n 2, 1) := by decide +kernel
theorem dX7_takesIt_19 : decode cX7_takesIt 19 = .ok (.bipush 12, 2) := by decide +kernel
theorem dX7_takesIt_21 : decode cX7_takesIt 21 = .ok (.iadd, 1) := by decide +kernel
theorem dX7_takesIt_22 : decode cX7_takesIt 22 = .ok (.dup2, 1) := by decide +kernel
theorem dX7_takesIt_23 : decode cX7_takesIt 23 = .ok (.iaload, 1) := by decide +kernel
theorem dX7_takesIt_24 : decode cX7_takesIt 24 = .ok (.iload_n 3, 1) := by decide +kernel
theorem dX7_takesIt_25 : decode cX7_takesIt 25 = .ok (.iadd, 1) := by decide +kernel
theorem dX7_takesIt_26 : decode cX7_takesIt 26 = .ok (.iastore, 1) := by decide +kernel
theorem dX7_takesIt_27 : decode cX7_takesIt 27 = .ok (.aload_n 0, 1) := by decide +kernel
theorem dX7_takesIt_28 : decode cX7_takesIt 28 = .ok (.getfield 7, 3) := by decide +kernel
theorem dX7_takesIt_31 : decode cX7_takesIt 31 = .ok (.iload_n 2, 1) := by decide +kernel
theorem dX7_takesIt_32 : decode cX7_takesIt 32 = .ok (.iconst 5, 1) := by decide +kernel
theorem dX7_takesIt_33 : decode cX7_takesIt 33 = .ok (.iadd, 1) := by decide +kernel
theorem dX7_takesIt_34 : decode cX7_takesIt 34 = .ok (.iaload, 1) := by decide +kernel
theorem dX7_takesIt_35 : decode cX7_takesIt 35 = .ok (.bipush (-2), 2) := by decide +kernel
theorem dX7_takesIt_37 : decode cX7_takesIt 37 = .ok (.if_icmp .eq 16, 3) := by decide +kernel
theorem dX7_takesIt_40 : decode cX7_takesIt 40 = .ok (.aload_n 0, 1) := by decide +kernel
theorem dX7_takesIt_41 : decode cX7_takesIt 41 = .ok (.getfield 7, 3) := by decide +kernel
theorem dX7_takesIt_44 : decode cX7_takesIt 44 = .ok (.iload_n 2, 1) := by decide +kernel
theorem dX7_takesIt_45 : decode cX7_takesIt 45 = .ok (.bipush 6, 2) := by decide +kernel
theorem dX7_takesIt_47 : decode cX7_takesIt 47 = .ok (.iadd, 1) := by decide +kernel
theorem dX7_takesIt_48 : decode cX7_takesIt 48 = .ok (.dup2, 1) := by decide +kernel
theorem dX7_takesIt_49 : decode cX7_takesIt 49 = .ok (.iaload, 1) := by decide +kernel
theorem dX7_takesIt_50 : decode cX7_takesIt 50 = .ok (.iload_n 3, 1) := by decide +kernel
theorem dX7_takesIt_51 : decode cX7_takesIt 51 = .ok (.isub, 1) := by decide +kernel
theorem dX7_takesIt_52 : decode cX7_takesIt 52 = .ok (.iastore, 1) := by decide +kernel
theorem dX7_takesIt_53 : decode cX7_takesIt 53 = .ok (.aload_n 0, 1) := by decide +kernel
theorem dX7_takesIt_54 : decode cX7_takesIt 54 = .ok (.getfield 7, 3) := by decide +kernel
theorem dX7_takesIt_57 : decode cX7_takesIt 57 = .ok (.iload_n 2, 1) := by decide +kernel
theorem dX7_takesIt_58 : decode cX7_takesIt 58 = .ok (.bipush 7, 2) := by decide +kernel
theorem dX7_takesIt_60 : decode cX7_takesIt 60 = .ok (.iadd, 1) := by decide +kernel
theorem dX7_takesIt_61 : decode cX7_takesIt 61 = .ok (.iaload, 1) := by decide +kernel
theorem dX7_takesIt_62 : decode cX7_takesIt 62 = .ok (.bipush (-2), 2) := by decide +kernel
theorem dX7_takesIt_64 : decode cX7_takesIt 64 = .ok (.if_icmp .ne 4, 3) := by decide +kernel
theorem dX7_takesIt_67 : decode cX7_takesIt 67 = .ok (.return_, 1) := by decide +kernel
theorem dX7_takesIt_68 : decode cX7_takesIt 68 = .ok (.aload_n 0, 1) := by decide +kernel
theorem dX7_takesIt_69 : decode cX7_takesIt 69 = .ok (.getfield 7, 3) := by decide +kernel
theorem dX7_takesIt_72 : decode cX7_takesIt 72 = .ok (.sipush 288, 3) := by decide +kernel
theorem dX7_takesIt_75 : decode cX7_takesIt 75 = .ok (.bipush 12, 2) := by decide +kernel
theorem dX7_takesIt_77 : decode cX7_takesIt 77 = .ok (.aload_n 0, 1) := by decide +kernel
theorem dX7_takesIt_78 : decode cX7_takesIt 78 = .ok (.getfield 7, 3) := by decide +kernel
theorem dX7_takesIt_81 : decode cX7_takesIt 81 = .ok (.iconst 5, 1) := by decide +kernel
theorem dX7_takesIt_82 : decode cX7_takesIt 82 = .ok (.iaload, 1) := by decide +kernel
theorem dX7_takesIt_83 : decode cX7_takesIt 83 = .ok (.aload_n 0, 1) := by decide +kernel
theorem dX7_takesIt_84 : decode cX7_takesIt 84 = .ok (.getfield 7, 3) := by decide +kernel
theorem dX7_takesIt_87 : decode cX7_takesIt 87 = .ok (.iload_n 2, 1) := by decide +kernel
theorem dX7_takesIt_88 : decode cX7_takesIt 88 = .ok (.bipush 9, 2) := by decide +kernel
theorem dX7_takesIt_90 : decode cX7_takesIt 90 = .ok (.iadd, 1) := by decide +kernel
theorem dX7_takesIt_91 : decode cX7_takesIt 91 = .ok (.iaload, 1) := by decide +kernel
theorem dX7_takesIt_92 : decode cX7_takesIt 92 = .ok (.iadd, 1) := by decide +kernel
theorem dX7_takesIt_93 : decode cX7_takesIt 93 = .ok (.bipush 31, 2) := by decide +kernel
theorem dX7_takesIt_95 : decode cX7_takesIt 95 = .ok (.irem, 1) := by decide +kernel
theorem dX7_takesIt_96 : decode cX7_takesIt 96 = .ok (.imul, 1) := by decide +kernel
theorem dX7_takesIt_97 : decode cX7_takesIt 97 = .ok (.iadd, 1) := by decide +kernel
theorem dX7_takesIt_98 : decode cX7_takesIt 98 = .ok (.aload_n 0, 1) := by decide +kernel
theorem dX7_takesIt_99 : decode cX7_takesIt 99 = .ok (.getfield 7, 3) := by decide +kernel
theorem dX7_takesIt_102 : decode cX7_takesIt 102 = .ok (.iload_n 2, 1) := by decide +kernel
theorem dX7_takesIt_103 : decode cX7_takesIt 103 = .ok (.bipush 7, 2) := by decide +kernel
theorem dX7_takesIt_105 : decode cX7_takesIt 105 = .ok (.iadd, 1) := by decide +kernel
theorem dX7_takesIt_106 : decode cX7_takesIt 106 = .ok (.iaload, 1) := by decide +kernel
theorem dX7_takesIt_107 : decode cX7_takesIt 107 = .ok (.iadd, 1) := by decide +kernel
theorem dX7_takesIt_108 : decode cX7_takesIt 108 = .ok (.dup2, 1) := by decide +kernel
theorem dX7_takesIt_109 : decode cX7_takesIt 109 = .ok (.iaload, 1) := by decide +kernel
theorem dX7_takesIt_110 : decode cX7_takesIt 110 = .ok (.iload_n 3, 1) := by decide +kernel
theorem dX7_takesIt_111 : decode cX7_takesIt 111 = .ok (.aload_n 0, 1) := by decide +kernel
theorem dX7_takesIt_112 : decode cX7_takesIt 112 = .ok (.getfield 7, 3) := by decide +kernel
theorem dX7_takesIt_115 : decode cX7_takesIt 115 = .ok (.iload_n 2, 1) := by decide +kernel
theorem dX7_takesIt_116 : decode cX7_takesIt 116 = .ok (.bipush 8, 2) := by decide +kernel
theorem dX7_takesIt_118 : decode cX7_takesIt 118 = .ok (.iadd, 1) := by decide +kernel
theorem dX7_takesIt_119 : decode cX7_takesIt 119 = .ok (.iaload, 1) := by decide +kernel
theorem dX7_takesIt_120 : decode cX7_takesIt 120 = .ok (.imul, 1) := by decide +kernel
theorem dX7_takesIt_121 : decode cX7_takesIt 121 = .ok (.bipush 100, 2) := by decide +kernel
theorem dX7_takesIt_123 : decode cX7_takesIt 123 = .ok (.invokestatic 110, 3) := by decide +kernel
theorem dX7_takesIt_126 : decode cX7_takesIt 126 = .ok (.iadd, 1) := by decide +kernel
theorem dX7_takesIt_127 : decode cX7_takesIt 127 = .ok (.iastore, 1) := by decide +kernel
theorem dX7_takesIt_128 : decode cX7_takesIt 128 = .ok (.return_, 1) := by decide +kernel
theorem dX7_newYear_0 : decode cX7_newYear 0 = .ok (.aload_n 0, 1) := by decide +kernel
theorem dX7_newYear_1 : decode cX7_newYear 1 = .ok (.getfield 7, 3) := by decide +kernel
theorem dX7_newYear_4 : decode cX7_newYear 4 = .ok (.iconst 3, 1) := by decide +kernel
theorem dX7_newYear_5 : decode cX7_newYear 5 = .ok (.iconst 0, 1) := by decide +kernel
theorem dX7_newYear_6 : decode cX7_newYear 6 = .ok (.iastore, 1) := by decide +kernel
theorem dX7_newYear_7 : decode cX7_newYear 7 = .ok (.iconst 0, 1) := by decide +kernel
theorem dX7_newYear_8 : decode cX7_newYear 8 = .ok (.istore_n 1, 1) := by decide +kernel
theorem dX7_newYear_9 : decode cX7_newYear 9 = .ok (.iload_n 1, 1) := by decide +kernel
theorem dX7_newYear_10 : decode cX7_newYear 10 = .ok (.aload_n 0, 1) := by decide +kernel
theorem dX7_newYear_11 : decode cX7_newYear 11 = .ok (.invokevirtual 100, 3) := by decide +kernel
theorem dX7_newYear_14 : decode cX7_newYear 14 = .ok (.if_icmp .ge 30, 3) := by decide +kernel
theorem dX7_newYear_17 : decode cX7_newYear 17 = .ok (.aload_n 0, 1) := by decide +kernel
theorem dX7_newYear_18 : decode cX7_newYear 18 = .ok (.getfield 7, 3) := by decide +kernel
theorem dX7_newYear_21 : decode cX7_newYear 21 = .ok (.bipush 78, 2) := by decide +kernel
theorem dX7_newYear_23 : decode cX7_newYear 23 = .ok (.bipush 13, 2) := by decide +kernel
theorem dX7_newYear_25 : decode cX7_newYear 25 = .ok (.iload_n 1, 1) := by decide +kernel
theorem dX7_newYear_26 : decode cX7_newYear 26 = .ok (.imul, 1) := by decide +kernel
theorem dX7_newYear_27 : decode cX7_newYear 27 = .ok (.iadd, 1) := by decide +kernel
theorem dX7_newYear_28 : decode cX7_newYear 28 = .ok (.bipush 6, 2) := by decide +kernel
theorem dX7_newYear_30 : decode cX7_newYear 30 = .ok (.iadd, 1) := by decide +kernel
theorem dX7_newYear_31 : decode cX7_newYear 31 = .ok (.aload_n 0, 1) := by decide +kernel
theorem dX7_newYear_32 : decode cX7_newYear 32 = .ok (.iload_n 1, 1) := by decide +kernel
theorem dX7_newYear_33 : decode cX7_newYear 33 = .ok (.iconst 5, 1) := by decide +kernel
theorem dX7_newYear_34 : decode cX7_newYear 34 = .ok (.invokevirtual 113, 3) := by decide +kernel
theorem dX7_newYear_37 : decode cX7_newYear 37 = .ok (.iastore, 1) := by decide +kernel
theorem dX7_newYear_38 : decode cX7_newYear 38 = .ok (.iinc 1 1, 3) := by decide +kernel
theorem dX7_newYear_41 : decode cX7_newYear 41 = .ok (.goto (-32), 3) := by decide +kernel
theorem dX7_newYear_44 : decode cX7_newYear 44 = .ok (.return_, 1) := by decide +kernel
theorem dX7_passes_0 : decode cX7_passes 0 = .ok (.aload_n 0, 1) := by decide +kernel
theorem dX7_passes_1 : decode cX7_passes 1 = .ok (.invokevirtual 202, 3) := by decide +kernel
theorem dX7_passes_4 : decode cX7_passes 4 = .ok (.aload_n 0, 1) := by decide +kernel
theorem dX7_passes_5 : decode cX7_passes 5 = .ok (.invokevirtual 205, 3) := by decide +kernel
theorem dX7_passes_8 : decode cX7_passes 8 = .ok (.iconst 0, 1) := by decide +kernel
theorem dX7_passes_9 : decode cX7_passes 9 = .ok (.istore_n 1, 1) := by decide +kernel
theorem dX7_passes_10 : decode cX7_passes 10 = .ok (.iload_n 1, 1) := by decide +kernel
theorem dX7_passes_11 : decode cX7_passes 11 = .ok (.aload_n 0, 1) := by decide +kernel
theorem dX7_passes_12 : decode cX7_passes 12 = .ok (.invokevirtual 100, 3) := by decide +kernel
theorem dX7_passes_15 : decode cX7_passes 15 = .ok (.if_icmp .ge 14, 3) := by decide +kernel
theorem dX7_passes_18 : decode cX7_passes 18 = .ok (.aload_n 0, 1) := by decide +kernel
theorem dX7_passes_19 : decode cX7_passes 19 = .ok (.iload_n 1, 1) := by decide +kernel
theorem dX7_passes_20 : decode cX7_passes 20 = .ok (.invokevirtual 208, 3) := by decide +kernel
theorem dX7_passes_23 : decode cX7_passes 23 = .ok (.iinc 1 1, 3) := by decide +kernel
theorem dX7_passes_26 : decode cX7_passes 26 = .ok (.goto (-16), 3) := by decide +kernel
theorem dX7_passes_29 : decode cX7_passes 29 = .ok (.iconst 0, 1) := by decide +kernel
theorem dX7_passes_30 : decode cX7_passes 30 = .ok (.istore_n 1, 1) := by decide +kernel
theorem dX7_passes_31 : decode cX7_passes 31 = .ok (.iload_n 1, 1) := by decide +kernel
theorem dX7_passes_32 : decode cX7_passes 32 = .ok (.aload_n 0, 1) := by decide +kernel
theorem dX7_passes_33 : decode cX7_passes 33 = .ok (.invokevirtual 103, 3) := by decide +kernel
theorem dX7_passes_36 : decode cX7_passes 36 = .ok (.if_icmp .ge 50, 3) := by decide +kernel
theorem dX7_passes_39 : decode cX7_passes 39 = .ok (.aload_n 0, 1) := by decide +kernel
theorem dX7_passes_40 : decode cX7_passes 40 = .ok (.getfield 7, 3) := by decide +kernel
theorem dX7_passes_43 : decode cX7_passes 43 = .ok (.sipush 260, 3) := by decide +kernel
theorem dX7_passes_46 : decode cX7_passes 46 = .ok (.bipush 7, 2) := by decide +kernel
theorem dX7_passes_48 : decode cX7_passes 48 = .ok (.iload_n 1, 1) := by decide +kernel
theorem dX7_passes_49 : decode cX7_passes 49 = .ok (.imul, 1) := by decide +kernel
theorem dX7_passes_50 : decode cX7_passes 50 = .ok (.iadd, 1) := by decide +kernel
theorem dX7_passes_51 : decode cX7_passes 51 = .ok (.iconst 4, 1) := by decide +kernel
theorem dX7_passes_52 : decode cX7_passes 52 = .ok (.iadd, 1) := by decide +kernel
theorem dX7_passes_53 : decode cX7_passes 53 = .ok (.dup2, 1) := by decide +kernel
theorem dX7_passes_54 : decode cX7_passes 54 = .ok (.iaload, 1) := by decide +kernel
theorem dX7_passes_55 : decode cX7_passes 55 = .ok (.aload_n 0, 1) := by decide +kernel
theorem dX7_passes_56 : decode cX7_passes 56 = .ok (.getfield 58, 3) := by decide +kernel
theorem dX7_passes_59 : decode cX7_passes 59 = .ok (.bipush 14, 2) := by decide +kernel
theorem dX7_passes_61 : decode cX7_passes 61 = .ok (.iload_n 1, 1) := by decide +kernel
theorem dX7_passes_62 : decode cX7_passes 62 = .ok (.iadd, 1) := by decide +kernel
theorem dX7_passes_63 : decode cX7_passes 63 = .ok (.iaload, 1) := by decide +kernel
theorem dX7_passes_64 : decode cX7_passes 64 = .ok (.aload_n 0, 1) := by decide +kernel
theorem dX7_passes_65 : decode cX7_passes 65 = .ok (.getfield 67, 3) := by decide +kernel
theorem dX7_passes_68 : decode cX7_passes 68 = .ok (.iload_n 1, 1) := by decide +kernel
theorem dX7_passes_69 : decode cX7_passes 69 = .ok (.iaload, 1) := by decide +kernel
theorem dX7_passes_70 : decode cX7_passes 70 = .ok (.isub, 1) := by decide +kernel
theorem dX7_passes_71 : decode cX7_passes 71 = .ok (.aload_n 0, 1) := by decide +kernel
theorem dX7_passes_72 : decode cX7_passes 72 = .ok (.getfield 70, 3) := by decide +kernel
theorem dX7_passes_75 : decode cX7_passes 75 = .ok (.iload_n 1, 1) := by decide +kernel
theorem dX7_passes_76 : decode cX7_passes 76 = .ok (.iaload, 1) := by decide +kernel
theorem dX7_passes_77 : decode cX7_passes 77 = .ok (.isub, 1) := by decide +kernel
theorem dX7_passes_78 : decode cX7_passes 78 = .ok (.iadd, 1) := by decide +kernel
theorem dX7_passes_79 : decode cX7_passes 79 = .ok (.iastore, 1) := by decide +kernel
theorem dX7_passes_80 : decode cX7_passes 80 = .ok (.iinc 1 1, 3) := by decide +kernel
theorem dX7_passes_83 : decode cX7_passes 83 = .ok (.goto (-52), 3) := by decide +kernel
theorem dX7_passes_86 : decode cX7_passes 86 = .ok (.iconst 0, 1) := by decide +kernel
theorem dX7_passes_87 : decode cX7_passes 87 = .ok (.istore_n 1, 1) := by decide +kernel
theorem dX7_passes_88 : decode cX7_passes 88 = .ok (.iload_n 1, 1) := by decide +kernel
theorem dX7_passes_89 : decode cX7_passes 89 = .ok (.bipush 12, 2) := by decide +kernel
theorem dX7_passes_91 : decode cX7_passes 91 = .ok (.if_icmp .ge 30, 3) := by decide +kernel
theorem dX7_passes_94 : decode cX7_passes 94 = .ok (.aload_n 0, 1) := by decide +kernel
theorem dX7_passes_95 : decode cX7_passes 95 = .ok (.getfield 7, 3) := by decide +kernel
theorem dX7_passes_98 : decode cX7_passes 98 = .ok (.sipush 288, 3) := by decide +kernel
theorem dX7_passes_101 : decode cX7_passes 101 = .ok (.bipush 12, 2) := by decide +kernel
theorem dX7_passes_103 : decode cX7_passes 103 = .ok (.aload_n 0, 1) := by decide +kernel
theorem dX7_passes_104 : decode cX7_passes 104 = .ok (.getfield 7, 3) := by decide +kernel
theorem dX7_passes_107 : decode cX7_passes 107 = .ok (.iconst 5, 1) := by decide +kernel
theorem dX7_passes_108 : decode cX7_passes 108 = .ok (.iaload, 1) := by decide +kernel
theorem dX7_passes_109 : decode cX7_passes 109 = .ok (.imul, 1) := by decide +kernel
theorem dX7_passes_110 : decode cX7_passes 110 = .ok (.iadd, 1) := by decide +kernel
theorem dX7_passes_111 : decode cX7_passes 111 = .ok (.iload_n 1, 1) := by decide +kernel
theorem dX7_passes_112 : decode cX7_passes 112 = .ok (.iadd, 1) := by decide +kernel
theorem dX7_passes_113 : decode cX7_passes 113 = .ok (.iconst 0, 1) := by decide +kernel
theorem dX7_passes_114 : decode cX7_passes 114 = .ok (.iastore, 1) := by decide +kernel
theorem dX7_passes_115 : decode cX7_passes 115 = .ok (.iinc 1 1, 3) := by decide +kernel
theorem dX7_passes_118 : decode cX7_passes 118 = .ok (.goto (-30), 3) := by decide +kernel
theorem dX7_passes_121 : decode cX7_passes 121 = .ok (.aload_n 0, 1) := by decide +kernel
theorem dX7_passes_122 : decode cX7_passes 122 = .ok (.getfield 7, 3) := by decide +kernel
theorem dX7_passes_125 : decode cX7_passes 125 = .ok (.iconst 5, 1) := by decide +kernel
theorem dX7_passes_126 : decode cX7_passes 126 = .ok (.aload_n 0, 1) := by decide +kernel
theorem dX7_passes_127 : decode cX7_passes 127 = .ok (.getfield 7, 3) := by decide +kernel
theorem dX7_passes_130 : decode cX7_passes 130 = .ok (.iconst 5, 1) := by decide +kernel
theorem dX7_passes_131 : decode cX7_passes 131 = .ok (.iaload, 1) := by decide +kernel
theorem dX7_passes_132 : decode cX7_passes 132 = .ok (.iconst 1, 1) := by decide +kernel
theorem dX7_passes_133 : decode cX7_passes 133 = .ok (.iadd, 1) := by decide +kernel
theorem dX7_passes_134 : decode cX7_passes 134 = .ok (.bipush 31, 2) := by decide +kernel
theorem dX7_passes_136 : decode cX7_passes 136 = .ok (.irem, 1) := by decide +kernel
theorem dX7_passes_137 : decode cX7_passes 137 = .ok (.iastore, 1) := by decide +kernel
theorem dX7_passes_138 : decode cX7_passes 138 = .ok (.aload_n 0, 1) := by decide +kernel
theorem dX7_passes_139 : decode cX7_passes 139 = .ok (.getfield 7, 3) := by decide +kernel
theorem dX7_passes_142 : decode cX7_passes 142 = .ok (.iconst 3, 1) := by decide +kernel
theorem dX7_passes_143 : decode cX7_passes 143 = .ok (.dup2, 1) := by decide +kernel
theorem dX7_passes_144 : decode cX7_passes 144 = .ok (.iaload, 1) := by decide +kernel
theorem dX7_passes_145 : decode cX7_passes 145 = .ok (.iconst 1, 1) := by decide +kernel
theorem dX7_passes_146 : decode cX7_passes 146 = .ok (.iadd, 1) := by decide +kernel
theorem dX7_passes_147 : decode cX7_passes 147 = .ok (.iastore, 1) := by decide +kernel
theorem dX7_passes_148 : decode cX7_passes 148 = .ok (.aload_n 0, 1) := by decide +kernel
theorem dX7_passes_149 : decode cX7_passes 149 = .ok (.getfield 7, 3) := by decide +kernel
theorem dX7_passes_152 : decode cX7_passes 152 = .ok (.iconst 3, 1) := by decide +kernel
theorem dX7_passes_153 : decode cX7_passes 153 = .ok (.iaload, 1) := by decide +kernel
theorem dX7_passes_154 : decode cX7_passes 154 = .ok (.sipush 360, 3) := by decide +kernel
theorem dX7_passes_157 : decode cX7_passes 157 = .ok (.if_icmp .ne 7, 3) := by decide +kernel
theorem dX7_passes_160 : decode cX7_passes 160 = .ok (.aload_n 0, 1) := by decide +kernel
theorem dX7_passes_161 : decode cX7_passes 161 = .ok (.invokevirtual 211, 3) := by decide +kernel
theorem dX7_passes_164 : decode cX7_passes 164 = .ok (.return_, 1) := by decide +kernel
theorem ms_X7_has : MS yX7_has cX7_has 2 (some .boolean) 2 := ⟨wd_27_6, wd_27_5, wd_1_5, by decide, by decide, by decide +kernel⟩
theorem mv_X7_addsUp : MV yX7_addsUp cX7_addsUp 2 none 0 := ⟨wd_29_17, wd_29_15, wd_29_16, wd_1_5, by decide, by decide, by decide +kernel⟩
theorem mv_X7_ageOf : MV yX7_ageOf cX7_ageOf 2 (some .int) 1 := ⟨wd_26_19, wd_26_17, wd_26_18, wd_1_5, by decide, by decide, by decide +kernel⟩
theorem mv_X7_allOf : MV yX7_allOf cX7_allOf 2 (some .int) 1 := ⟨wd_30_1, wd_29_23, wd_30_0, wd_1_5, by decide, by decide, by decide +kernel⟩
theorem mv_X7_atOf : MV yX7_atOf cX7_atOf 2 (some .int) 1 := ⟨wd_27_10, wd_27_8, wd_27_9, wd_1_5, by decide, by decide, by decide +kernel⟩
theorem mv_X7_backIn : MV yX7_backIn cX7_backIn 3 (some .int) 2 := ⟨wd_29_1, wd_28_23, wd_29_0, wd_1_5, by decide, by decide, by decide +kernel⟩
theorem mv_X7_barters : MV yX7_barters cX7_barters 5 none 1 := ⟨wd_29_13, wd_29_11, wd_29_12, wd_1_5, by decide, by decide, by decide +kernel⟩
theorem mv_X7_canBe : MV yX7_canBe cX7_canBe 4 (some .boolean) 0 := ⟨wd_28_5, wd_28_3, wd_28_4, wd_1_5, by decide, by decide, by decide +kernel⟩
theorem mv_X7_canMore : MV yX7_canMore cX7_canMore 5 (some .boolean) 3 := ⟨wd_28_1, wd_27_23, wd_28_0, wd_1_5, by decide, by decide, by decide +kernel⟩
theorem mv_X7_clears : MV yX7_clears cX7_clears 2 none 0 := ⟨wd_26_3, wd_26_1, wd_26_2, wd_1_5, by decide, by decide, by decide +kernel⟩
theorem mv_X7_inflowOf : MV yX7_inflowOf cX7_inflowOf 2 (some .int) 1 := ⟨wd_28_14, wd_28_12, wd_28_13, wd_1_5, by decide, by decide, by decide +kernel⟩
theorem mv_X7_isShort : MV yX7_isShort cX7_isShort 2 (some .boolean) 1 := ⟨wd_30_5, wd_30_3, wd_30_4, wd_1_5, by decide, by decide, by decide +kernel⟩
theorem mv_X7_isTaker : MV yX7_isTaker cX7_isTaker 2 (some .boolean) 1 := ⟨wd_26_11, wd_26_9, wd_26_10, wd_1_5, by decide, by decide, by decide +kernel⟩
theorem mv_X7_laysOrder : MV yX7_laysOrder cX7_laysOrder 3 none 0 := ⟨wd_26_7, wd_26_5, wd_26_6, wd_1_5, by decide, by decide, by decide +kernel⟩
theorem mv_X7_lets : MV yX7_lets cX7_lets 4 none 1 := ⟨wd_29_5, wd_29_3, wd_29_4, wd_1_5, by decide, by decide, by decide +kernel⟩
theorem mv_X7_mostMore : MV yX7_mostMore cX7_mostMore 7 (some .int) 3 := ⟨wd_27_21, wd_27_19, wd_27_20, wd_1_5, by decide, by decide, by decide +kernel⟩
theorem mv_X7_newYear : MV yX7_newYear cX7_newYear 2 none 0 := ⟨wd_30_13, wd_30_11, wd_30_12, wd_1_5, by decide, by decide, by decide +kernel⟩
theorem mv_X7_runsTo : MV yX7_runsTo cX7_runsTo 4 (some .boolean) 2 := ⟨wd_29_9, wd_29_7, wd_29_8, wd_1_5, by decide, by decide, by decide +kernel⟩
theorem mv_X7_takesFirst : MV yX7_takesFirst cX7_takesFirst 4 none 1 := ⟨wd_25_22, wd_25_20, wd_25_21, wd_1_5, by decide, by decide, by decide +kernel⟩
theorem mv_X7_takesIt : MV yX7_takesIt cX7_takesIt 4 none 1 := ⟨wd_30_9, wd_30_7, wd_30_8, wd_1_5, by decide, by decide, by decide +kernel⟩
theorem mv_X7_wantsOf : MV yX7_wantsOf cX7_wantsOf 2 (some .int) 1 := ⟨wd_27_14, wd_27_12, wd_27_13, wd_1_5, by decide, by decide, by decide +kernel⟩
theorem mv_X7_works : MV yX7_works cX7_works 2 none 0 := ⟨wd_25_18, wd_25_16, wd_25_17, wd_1_5, by decide, by decide, by decide +kernel⟩
set_option maxHeartbeats 4000000 in
set_option maxRecDepth 100000 in
theorem c_X7_laysOrder (E : Ev) (ws : TD) (kp : TD) (as : TD) (rd : TD) (sc : TD) (ty : TD) (ik : TD) (un : Int × Int) (xt : Int × Int) (tp : Int × Int) (sp : Int × Int) (wrb : Int × Int) (nu : Int × Int) (nab : Int × Int) (iwb : Int × Int) (X0 : Nat → Int32) (a0 : Nat) (ha0 : eT E a0 ∈ [24]) (hX0 : okR X0) : TcV E yX7_laysOrder cX7_laysOrder 3 ({ frames := 3, cells := 0, slots := 0, locals := 83 }) [.ref a0] (fun H => TH E (tbM (mD (.inl tp) (.inl sp) (.inl nu) (.inl un) (.inl (0, 18)) (.inl xt) (.inl wrb) (.inl nab) (.inl iwb)) (xD 660 X0) ws kp as rd sc ty ik) H) (fun H => TH E (tbM (mD (.inl tp) (.inl sp) (.inl nu) (.inl un) (.inl (0, 18)) (.inl xt) (.inl wrb) (.inl nab) (.inl iwb)) (xD 660 X0) ws kp as rd sc ty ik) H) := by
  refine teV (by decide) (Nat.le_of_ble_eq_true rfl) ?_
  intro p_ ev_ s mi_ below_ meth cd_ ls F hK hN hO hH hS hl
  have hH : TH E (tbM (mD (.inl tp) (.inl sp) (.inl nu) (.inl un) (.inl (0, 18)) (.inl xt) (.inl wrb) (.inl nab) (.inl iwb)) (xD 660 X0) ws kp as rd sc ty ik) s.heap := hH
  have hl : lv_has ls 3 [(0, .ref a0)] := hl
  have hBX0 := okB hX0.1
  have hLX0 := hX0.2
  refine lv_aload_n F.1 F.2.1 dX7_laysOrder_0 rfl (lv_at hl 0 rfl) ?_
  refine lv_iconst (v := 0) F.1 F.2.1 dX7_laysOrder_1 (by decide) ?_
  refine topK (a := 0) (by decide) (fun k_1 hk_1 => ?_)
  refine tPutG (j := 11) (t := 24) (fd := (.inl (0, 0))) F hK hH hS (List.mem_singleton.mp ha0) (by decide) rfl rfl (fdI (by omega)) (TB1 := (tbM (mD (.inl tp) (.inl sp) (.inl nu) (.inl un) (.inl (0, 0)) (.inl xt) (.inl wrb) (.inl nab) (.inl iwb)) (xD 660 X0) ws kp as rd sc ty ik)) rfl clX7 (by decide) wd_25_23 rfl rfl rfl rfl dX7_laysOrder_2 (fun H locs hH hS => ?_)
  refine lv_iconst (v := 0) F.1 F.2.1 dX7_laysOrder_5 (by decide) ?_
  refine topK (a := 0) (by decide) (fun k_2 hk_2 => ?_)
  refine lv_istore_n (lv' := [(1, .int k_2), (0, .ref a0)]) F.1 F.2.1 dX7_laysOrder_6 rfl hl (by decide) rfl (fun ls hl => ?_)
  refine wloop (σ := Int32 × Int) (fun n9 x9 H locs ls => (18 - x9.1.toInt + 1).toNat < n9 ∧ (0 ≤ x9.1.toInt ∧ x9.1.toInt ≤ 18) ∧ (0 ≤ x9.2 ∧ x9.2 ≤ 18) ∧ (x9.2 ≤ x9.1.toInt) ∧ TH E (tbM (mD (.inl tp) (.inl sp) (.inl nu) (.inl un) (.inl (x9.2, x9.2)) (.inl xt) (.inl wrb) (.inl nab) (.inl iwb)) (xD 660 X0) ws kp as rd sc ty ik) H ∧ va_S (eA E s.heap.size) s.heap H locs ∧ lv_has ls 3 [(0, .ref a0), (1, .int x9.1)]) ?_ (fun x9 H locs ls h => absurd h.1 (Nat.not_lt_zero _)) _ (k_2, 0) ⟨Nat.lt_succ_self _, (wkb (eqb hk_2) rfl rfl), (show 0 ≤ 0 ∧ 0 ≤ 18 from by omega), (show 0 ≤ k_2.toInt from by omega), hH, hS, lv_sub hl [1, 0] rfl⟩
  intro n_7 ih_7 ⟨u_3, g_4⟩ H locs ls ⟨hm_7, hu_3, hg_4, hcr7_0, hH, hS, hl⟩
  have hm_7 : (18 - u_3.toInt + 1).toNat < n_7 + 1 := hm_7
  have hu_3 : (0 ≤ u_3.toInt ∧ u_3.toInt ≤ 18) := hu_3
  have hg_4 : (0 ≤ g_4 ∧ g_4 ≤ 18) := hg_4
  have hcr7_0 : (g_4 ≤ u_3.toInt) := hcr7_0
  have hH : TH E (tbM (mD (.inl tp) (.inl sp) (.inl nu) (.inl un) (.inl (g_4, g_4)) (.inl xt) (.inl wrb) (.inl nab) (.inl iwb)) (xD 660 X0) ws kp as rd sc ty ik) H := hH
  have hl : lv_has ls 3 [(0, .ref a0), (1, .int u_3)] := hl
  refine lv_iload_n F.1 F.2.1 dX7_laysOrder_7 rfl (lv_at hl 1 rfl) ?_
  refine lv_bipush (v := 18) F.1 F.2.1 dX7_laysOrder_8 (by decide) ?_
  refine topK (a := 18) (by decide) (fun k_5 hk_5 => ?_)
  refine b_ge (tgt := 96) F dX7_laysOrder_10 (by decide) (fun c_6 => ?_) (fun c_6 => ?_)
  · skip
    have r_7 : 18 ≤ u_3.toInt ∧ u_3.toInt ≤ 18 := by have h9_ := hu_3; omega
    exact txV F hS dX7_laysOrder_96 ((TH.loose (t := 24) (TB1 := (tbM (mD (.inl tp) (.inl sp) (.inl nu) (.inl un) (.inl (0, 18)) (.inl xt) (.inl wrb) (.inl nab) (.inl iwb)) (xD 660 X0) ws kp as rd sc ty ik)) hH rfl (tcLoose (j := 11) rfl (by omega)) rfl))
  · skip
    have r_8 : 0 ≤ u_3.toInt ∧ u_3.toInt ≤ 17 := by have h9_ := hu_3; omega
    refine lv_aload_n F.1 F.2.1 dX7_laysOrder_13 rfl (lv_at hl 0 rfl) ?_
    refine lv_iload_n F.1 F.2.1 dX7_laysOrder_14 rfl (lv_at hl 1 rfl) ?_
    refine tVi (b := a0) (As := [.int u_3]) (rest := []) F hK hN hO (c_X7_isTaker E ws kp as rd sc ty ik un (g_4, g_4) xt tp sp wrb nu nab iwb X0 a0 u_3 ha0 r_8 hX0) mv_X7_isTaker wd_26_8 ⟨Nat.le_of_ble_eq_true rfl, Nat.le_of_ble_eq_true rfl⟩ ⟨Nat.le_of_ble_eq_true rfl, Nat.le_of_ble_eq_true rfl⟩ hH hS (tRecv hK hH (tyb ha0 (all1 rfl)) clX7) rfl hl.1 (Nat.le_of_ble_eq_true rfl) dX7_laysOrder_15 (fun z_9 H locs hq hS => ?_)
    obtain ⟨f_10, hH⟩ := hq
    have hH : TH E (tbM (mD (.inl tp) (.inl sp) (.inl nu) (.inl un) (.inl (g_4, g_4)) (.inl xt) (.inl wrb) (.inl nab) (.inl iwb)) (xD 660 X0) ws kp as rd sc ty ik) H := hH
    refine z_ne (tgt := 24) F dX7_laysOrder_18 (by decide) (fun c_11 => ?_) (fun c_11 => ?_)
    · skip
      have r_12 : 1 ≤ z_9.toInt ∧ z_9.toInt ≤ 1 := by have h9_ := f_10; omega
      refine lv_aload_n F.1 F.2.1 dX7_laysOrder_24 rfl (lv_at hl 0 rfl) ?_
      refine tGetI (j := 11) F hK hH (tyb ha0 (all1 rfl)) rfl clX7 (by decide) wd_25_23 dX7_laysOrder_25 (fun z_14 hz_14 => ?_)
      have ez_14 : 0 ≤ z_14.toInt ∧ z_14.toInt ≤ 18 := by omega
      refine lv_istore_n (lv' := [(2, .int z_14), (0, .ref a0), (1, .int u_3)]) F.1 F.2.1 dX7_laysOrder_28 rfl hl (by decide) rfl (fun ls hl => ?_)
      refine wloop (σ := Int32) (fun n9 x9 H locs ls => (x9.toInt - 0 + 1).toNat < n9 ∧ (0 ≤ x9.toInt ∧ x9.toInt ≤ 17) ∧ TH E (tbM (mD (.inl tp) (.inl sp) (.inl nu) (.inl un) (.inl (g_4, g_4)) (.inl xt) (.inl wrb) (.inl nab) (.inl iwb)) (xD 660 X0) ws kp as rd sc ty ik) H ∧ va_S (eA E s.heap.size) s.heap H locs ∧ lv_has ls 3 [(0, .ref a0), (1, .int u_3), (2, .int x9)]) ?_ (fun x9 H locs ls h => absurd h.1 (Nat.not_lt_zero _)) _ (z_14) ⟨Nat.lt_succ_self _, (show 0 ≤ z_14.toInt ∧ z_14.toInt ≤ 17 from by omega), hH, hS, lv_sub hl [1, 2, 0] rfl⟩
      intro n_29 ih_29 u_15 H locs ls ⟨hm_29, hu_15, hH, hS, hl⟩
      have hm_29 : (u_15.toInt - 0 + 1).toNat < n_29 + 1 := hm_29
      have hu_15 : (0 ≤ u_15.toInt ∧ u_15.toInt ≤ 17) := hu_15
      have hH : TH E (tbM (mD (.inl tp) (.inl sp) (.inl nu) (.inl un) (.inl (g_4, g_4)) (.inl xt) (.inl wrb) (.inl nab) (.inl iwb)) (xD 660 X0) ws kp as rd sc ty ik) H := hH
      have hl : lv_has ls 3 [(0, .ref a0), (1, .int u_3), (2, .int u_15)] := hl
      refine lv_iload_n F.1 F.2.1 dX7_laysOrder_29 rfl (lv_at hl 2 rfl) ?_
      refine wjoin (σ := Unit) (pcj := 73) (stj := fun x9 => []) (fun x9 H locs ls => TH E (tbM (mD (.inl tp) (.inl sp) (.inl nu) (.inl un) (.inl (g_4, g_4)) (.inl xt) (.inl wrb) (.inl nab) (.inl iwb)) (xD 660 X0) ws kp as rd sc ty ik) H ∧ va_S (eA E s.heap.size) s.heap H locs ∧ lv_has ls 3 [(0, .ref a0), (1, .int u_3), (2, .int u_15)]) (fun x9 H locs ls h_ => ?_) (fun J_73 => ?_)
      · skip
        obtain ⟨hH, hS, hl⟩ := h_
        have hH : TH E (tbM (mD (.inl tp) (.inl sp) (.inl nu) (.inl un) (.inl (g_4, g_4)) (.inl xt) (.inl wrb) (.inl nab) (.inl iwb)) (xD 660 X0) ws kp as rd sc ty ik) H := hH
        have hl : lv_has ls 3 [(0, .ref a0), (1, .int u_3), (2, .int u_15)] := hl
        show W _ _ _ _ _ _ _ _ _ _ _ _ _ _ _ (F0 _ _ _ [])
        refine lv_aload_n F.1 F.2.1 dX7_laysOrder_73 rfl (lv_at hl 0 rfl) ?_
        refine tGetR (j := 10) F hK hH (tyb ha0 (all1 rfl)) rfl (all1 rfl) clX7 (by decide) wd_6_15 dX7_laysOrder_74 (fun q_16 hq_16 _ => ?_)
        refine lv_iload_n F.1 F.2.1 dX7_laysOrder_77 rfl (lv_at hl 2 rfl) ?_
        refine lv_iload_n F.1 F.2.1 dX7_laysOrder_78 rfl (lv_at hl 1 rfl) ?_
        refine tIastB F hK hH hS (tyb hq_16 (all1 rfl)) (ixb (n := 18) hu_15 rfl rfl) r_8 dX7_laysOrder_79 (fun H locs hH hS => ?_)
        refine lv_aload_n F.1 F.2.1 dX7_laysOrder_80 rfl (lv_at hl 0 rfl) ?_
        refine lv_dup F.1 F.2.1 dX7_laysOrder_81 rfl ?_
        refine tGetI (j := 11) F hK hH (tyb ha0 (all1 rfl)) rfl clX7 (by decide) wd_25_23 dX7_laysOrder_82 (fun z_17 hz_17 => ?_)
        have ez_17 : 0 ≤ z_17.toInt ∧ z_17.toInt ≤ 18 := by omega
        refine lv_iconst (v := 1) F.1 F.2.1 dX7_laysOrder_85 (by decide) ?_
        refine topK (a := 1) (by decide) (fun k_18 hk_18 => ?_)
        refine tAdd (lo := 1) (hi := 19) F dX7_laysOrder_86 ez_17 (eqb hk_18) rfl (fun z_19 hz_19 => ?_)
        obtain ⟨g_20, hg_20⟩ : ∃ y : Int, z_19.toInt = y := ⟨_, rfl⟩
        have bg_20 : 1 ≤ g_20 ∧ g_20 ≤ 19 := by rw [← hg_20]; exact hz_19.2
        refine tPutG (j := 11) (t := 24) (fd := (.inl (g_20, g_20))) F hK hH hS (List.mem_singleton.mp ha0) (by decide) rfl rfl (fdI (by omega)) (TB1 := (tbM (mD (.inl tp) (.inl sp) (.inl nu) (.inl un) (.inl (g_20, g_20)) (.inl xt) (.inl wrb) (.inl nab) (.inl iwb)) (xD 660 X0) ws kp as rd sc ty ik)) rfl clX7 (by decide) wd_25_23 rfl rfl rfl rfl dX7_laysOrder_87 (fun H locs hH hS => ?_)
        obtain ⟨x_21, ex_21, hx_21⟩ := iincB (c := 1) (lo := 1) (hi := 18) r_8 rfl
        refine lv_iinc (v := x_21) (lv' := [(1, .int x_21), (0, .ref a0), (2, .int u_15)]) F.1 F.2.1 dX7_laysOrder_90 hl (k := 1) rfl ex_21 (by decide) rfl (fun ls hl => ?_)
        refine lv_goto (tgt := 7) F.1 F.2.1 dX7_laysOrder_93 (by decide) ?_
        exact ih_7 (x_21, g_20) _ _ _ ⟨(show (18 - x_21.toInt + 1).toNat < n_7 from by omega), (wkb hx_21.2 rfl rfl), (show 0 ≤ g_20 ∧ g_20 ≤ 18 from by omega), (show g_20 ≤ x_21.toInt from by omega), hH, hS, lv_sub hl [1, 0] rfl⟩
      refine z_le (tgt := 73) F dX7_laysOrder_30 (by decide) (fun c_22 => ?_) (fun c_22 => ?_)
      · skip
        have r_23 : 0 ≤ u_15.toInt ∧ u_15.toInt ≤ 0 := by have h9_ := hu_15; omega
        exact J_73 () _ _ _ ⟨hH, hS, lv_sub hl [0, 1, 2] rfl⟩
      · skip
        have r_24 : 1 ≤ u_15.toInt ∧ u_15.toInt ≤ 17 := by have h9_ := hu_15; omega
        refine lv_aload_n F.1 F.2.1 dX7_laysOrder_33 rfl (lv_at hl 0 rfl) ?_
        refine lv_aload_n F.1 F.2.1 dX7_laysOrder_34 rfl (lv_at hl 0 rfl) ?_
        refine tGetR (j := 10) F hK hH (tyb ha0 (all1 rfl)) rfl (all1 rfl) clX7 (by decide) wd_6_15 dX7_laysOrder_35 (fun q_25 hq_25 _ => ?_)
        refine lv_iload_n F.1 F.2.1 dX7_laysOrder_38 rfl (lv_at hl 2 rfl) ?_
        refine lv_iconst (v := 1) F.1 F.2.1 dX7_laysOrder_39 (by decide) ?_
        refine topK (a := 1) (by decide) (fun k_26 hk_26 => ?_)
        refine tSub (lo := 0) (hi := 16) F dX7_laysOrder_40 r_24 (eqb hk_26) rfl (fun z_27 hz_27 => ?_)
        refine tIaldB F hK hH (tyb hq_25 (all1 rfl)) (ixb (n := 18) hz_27.2 rfl rfl) dX7_laysOrder_41 (fun z_28 hz_28 => ?_)
        refine tVi (b := a0) (As := [.int z_28]) (rest := []) F hK hN hO (c_X7_ageOf E ws kp as rd sc ty ik un (g_4, g_4) xt tp sp wrb nu nab iwb X0 a0 z_28 ha0 hz_28 hX0) mv_X7_ageOf wd_26_16 ⟨Nat.le_of_ble_eq_true rfl, Nat.le_of_ble_eq_true rfl⟩ ⟨Nat.le_of_ble_eq_true rfl, Nat.le_of_ble_eq_true rfl⟩ hH hS (tRecv hK hH (tyb ha0 (all1 rfl)) clX7) rfl hl.1 (Nat.le_of_ble_eq_true rfl) dX7_laysOrder_42 (fun z_29 H locs hq hS => ?_)
        obtain ⟨f_30, hH⟩ := hq
        have hH : TH E (tbM (mD (.inl tp) (.inl sp) (.inl nu) (.inl un) (.inl (g_4, g_4)) (.inl xt) (.inl wrb) (.inl nab) (.inl iwb)) (xD 660 X0) ws kp as rd sc ty ik) H := hH
        refine lv_aload_n F.1 F.2.1 dX7_laysOrder_45 rfl (lv_at hl 0 rfl) ?_
        refine lv_iload_n F.1 F.2.1 dX7_laysOrder_46 rfl (lv_at hl 1 rfl) ?_
        refine tVi (b := a0) (As := [.int u_3]) (rest := [.int z_29]) F hK hN hO (c_X7_ageOf E ws kp as rd sc ty ik un (g_4, g_4) xt tp sp wrb nu nab iwb X0 a0 u_3 ha0 r_8 hX0) mv_X7_ageOf wd_26_16 ⟨Nat.le_of_ble_eq_true rfl, Nat.le_of_ble_eq_true rfl⟩ ⟨Nat.le_of_ble_eq_true rfl, Nat.le_of_ble_eq_true rfl⟩ hH hS (tRecv hK hH (tyb ha0 (all1 rfl)) clX7) rfl hl.1 (Nat.le_of_ble_eq_true rfl) dX7_laysOrder_47 (fun z_31 H locs hq hS => ?_)
        obtain ⟨f_32, hH⟩ := hq
        have hH : TH E (tbM (mD (.inl tp) (.inl sp) (.inl nu) (.inl un) (.inl (g_4, g_4)) (.inl xt) (.inl wrb) (.inl nab) (.inl iwb)) (xD 660 X0) ws kp as rd sc ty ik) H := hH
        refine b_le (tgt := 73) F dX7_laysOrder_50 (by decide) (fun c_33 => ?_) (fun c_33 => ?_)
        · skip
          exact J_73 () _ _ _ ⟨hH, hS, lv_sub hl [0, 1, 2] rfl⟩
        · skip
          refine lv_aload_n F.1 F.2.1 dX7_laysOrder_53 rfl (lv_at hl 0 rfl) ?_
          refine tGetR (j := 10) F hK hH (tyb ha0 (all1 rfl)) rfl (all1 rfl) clX7 (by decide) wd_6_15 dX7_laysOrder_54 (fun q_34 hq_34 _ => ?_)
          refine lv_iload_n F.1 F.2.1 dX7_laysOrder_57 rfl (lv_at hl 2 rfl) ?_
          refine lv_aload_n F.1 F.2.1 dX7_laysOrder_58 rfl (lv_at hl 0 rfl) ?_
          refine tGetR (j := 10) F hK hH (tyb ha0 (all1 rfl)) rfl (all1 rfl) clX7 (by decide) wd_6_15 dX7_laysOrder_59 (fun q_35 hq_35 _ => ?_)
          refine lv_iload_n F.1 F.2.1 dX7_laysOrder_62 rfl (lv_at hl 2 rfl) ?_
          refine lv_iconst (v := 1) F.1 F.2.1 dX7_laysOrder_63 (by decide) ?_
          refine topK (a := 1) (by decide) (fun k_36 hk_36 => ?_)
          refine tSub (lo := 0) (hi := 16) F dX7_laysOrder_64 r_24 (eqb hk_36) rfl (fun z_37 hz_37 => ?_)
          refine tIaldB F hK hH (tyb hq_35 (all1 rfl)) (ixb (n := 18) hz_37.2 rfl rfl) dX7_laysOrder_65 (fun z_38 hz_38 => ?_)
          refine tIastB F hK hH hS (tyb hq_34 (all1 rfl)) (ixb (n := 18) r_24 rfl rfl) hz_38 dX7_laysOrder_66 (fun H locs hH hS => ?_)
          obtain ⟨x_39, ex_39, hx_39⟩ := iincB (c := (-1)) (lo := 0) (hi := 16) r_24 rfl
          refine lv_iinc (v := x_39) (lv' := [(2, .int x_39), (0, .ref a0), (1, .int u_3)]) F.1 F.2.1 dX7_laysOrder_67 hl (k := 2) rfl ex_39 (by decide) rfl (fun ls hl => ?_)
          refine lv_goto (tgt := 29) F.1 F.2.1 dX7_laysOrder_70 (by decide) ?_
          exact ih_29 (x_39) _ _ _ ⟨(show (x_39.toInt - 0 + 1).toNat < n_29 from by omega), (wkb hx_39.2 rfl rfl), hH, hS, lv_sub hl [1, 2, 0] rfl⟩
    · skip
      have r_13 : 0 ≤ z_9.toInt ∧ z_9.toInt ≤ 0 := by have h9_ := f_10; omega
      refine lv_goto (tgt := 90) F.1 F.2.1 dX7_laysOrder_21 (by decide) ?_
      obtain ⟨x_40, ex_40, hx_40⟩ := iincB (c := 1) (lo := 1) (hi := 18) r_8 rfl
      refine lv_iinc (v := x_40) (lv' := [(1, .int x_40), (0, .ref a0)]) F.1 F.2.1 dX7_laysOrder_90 hl (k := 1) rfl ex_40 (by decide) rfl (fun ls hl => ?_)
      refine lv_goto (tgt := 7) F.1 F.2.1 dX7_laysOrder_93 (by decide) ?_
      exact ih_7 (x_40, g_4) _ _ _ ⟨(show (18 - x_40.toInt + 1).toNat < n_7 from by omega), (wkb hx_40.2 rfl rfl), (show 0 ≤ g_4 ∧ g_4 ≤ 18 from by omega), (show g_4 ≤ x_40.toInt from by omega), hH, hS, lv_sub hl [1, 0] rfl⟩
set_option maxHeartbeats 4000000 in
set_option maxRecDepth 100000 in
theorem c_X7_canBe (E : Ev) (ws : TD) (kp : TD) (as : TD) (rd : TD) (sc : TD) (ty : TD) (ik : TD) (un : Int × Int) (tk : Int × Int) (xt : Int × Int) (tp : Int × Int) (sp : Int × Int) (wrb : Int × Int) (nu : Int × Int) (nab : Int × Int) (iwb : Int × Int) (X0 : Nat → Int32) (a0 : Nat) (ha0 : eT E a0 ∈ [24]) (hX0 : okR X0) : TcI E yX7_canBe cX7_canBe 4 .boolean ({ frames := 3, cells := 0, slots := 0, locals := 83 }) [.ref a0] (fun H => TH E (tbM (mD (.inl tp) (.inl sp) (.inl nu) (.inl un) (.inl tk) (.inl xt) (.inl wrb) (.inl nab) (.inl iwb)) (xD 660 X0) ws kp as rd sc ty ik) H) (fun v H => (0 ≤ v.toInt ∧ v.toInt ≤ 1) ∧ TH E (tbM (mD (.inl tp) (.inl sp) (.inl nu) (.inl un) (.inl tk) (.inl xt) (.inl wrb) (.inl nab) (.inl iwb)) (xD 660 X0) ws kp as rd sc ty ik) H) := by
  refine teI (by decide) (Nat.le_of_ble_eq_true rfl) ?_
  intro p_ ev_ s mi_ below_ meth cd_ ls F hK hN hO hH hS hl
  have hH : TH E (tbM (mD (.inl tp) (.inl sp) (.inl nu) (.inl un) (.inl tk) (.inl xt) (.inl wrb) (.inl nab) (.inl iwb)) (xD 660 X0) ws kp as rd sc ty ik) s.heap := hH
  have hl : lv_has ls 4 [(0, .ref a0)] := hl
  have hBX0 := okB hX0.1
  have hLX0 := hX0.2
  refine lv_iconst (v := 1) F.1 F.2.1 dX7_canBe_0 (by decide) ?_
  refine topK (a := 1) (by decide) (fun k_1 hk_1 => ?_)
  refine lv_istore_n (lv' := [(1, .int k_1), (0, .ref a0)]) F.1 F.2.1 dX7_canBe_1 rfl hl (by decide) rfl (fun ls hl => ?_)
  refine lv_iconst (v := 0) F.1 F.2.1 dX7_canBe_2 (by decide) ?_
  refine topK (a := 0) (by decide) (fun k_2 hk_2 => ?_)
  refine lv_istore_n (lv' := [(2, .int k_2), (1, .int k_1), (0, .ref a0)]) F.1 F.2.1 dX7_canBe_3 rfl hl (by decide) rfl (fun ls hl => ?_)
  refine wloop (σ := Int32) (fun n9 x9 H locs ls => (12 - x9.toInt + 1).toNat < n9 ∧ (0 ≤ x9.toInt ∧ x9.toInt ≤ 12) ∧ TH E (tbM (mD (.inl tp) (.inl sp) (.inl nu) (.inl un) (.inl tk) (.inl xt) (.inl wrb) (.inl nab) (.inl iwb)) (xD 660 X0) ws kp as rd sc ty ik) H ∧ va_S (eA E s.heap.size) s.heap H locs ∧ lv_has ls 4 [(0, .ref a0), (1, .int k_1), (2, .int x9)]) ?_ (fun x9 H locs ls h => absurd h.1 (Nat.not_lt_zero _)) _ (k_2) ⟨Nat.lt_succ_self _, (wkb (eqb hk_2) rfl rfl), hH, hS, lv_sub hl [2, 1, 0] rfl⟩
  intro n_4 ih_4 u_3 H locs ls ⟨hm_4, hu_3, hH, hS, hl⟩
  have hm_4 : (12 - u_3.toInt + 1).toNat < n_4 + 1 := hm_4
  have hu_3 : (0 ≤ u_3.toInt ∧ u_3.toInt ≤ 12) := hu_3
  have hH : TH E (tbM (mD (.inl tp) (.inl sp) (.inl nu) (.inl un) (.inl tk) (.inl xt) (.inl wrb) (.inl nab) (.inl iwb)) (xD 660 X0) ws kp as rd sc ty ik) H := hH
  have hl : lv_has ls 4 [(0, .ref a0), (1, .int k_1), (2, .int u_3)] := hl
  refine lv_iload_n F.1 F.2.1 dX7_canBe_4 rfl (lv_at hl 2 rfl) ?_
  refine lv_aload_n F.1 F.2.1 dX7_canBe_5 rfl (lv_at hl 0 rfl) ?_
  refine tVi (b := a0) (As := []) (rest := [.int u_3]) F hK hN hO (c_X7_reaches E ws kp as rd sc ty ik un tk xt tp sp wrb nu nab iwb X0 a0 ha0 ((hX0).1)) mv_X7_reaches wd_28_7 ⟨Nat.le_of_ble_eq_true rfl, Nat.le_of_ble_eq_true rfl⟩ ⟨Nat.le_of_ble_eq_true rfl, Nat.le_of_ble_eq_true rfl⟩ hH hS (tRecv hK hH (tyb ha0 (all1 rfl)) clX7) rfl hl.1 (Nat.le_of_ble_eq_true rfl) dX7_canBe_6 (fun z_4 H locs hq hS => ?_)
  obtain ⟨f_5, f_6, hH⟩ := hq
  have hH : TH E (tbM (mD (.inl tp) (.inl sp) (.inl nu) (.inl un) (.inl tk) (.inl xt) (.inl wrb) (.inl nab) (.inl iwb)) (xD 660 X0) ws kp as rd sc ty ik) H := hH
  refine b_ge (tgt := 60) F dX7_canBe_9 (by decide) (fun c_7 => ?_) (fun c_7 => ?_)
  · skip
    refine lv_aload_n F.1 F.2.1 dX7_canBe_60 rfl (lv_at hl 0 rfl) ?_
    refine tVi (b := a0) (As := []) (rest := []) F hK hN hO (c_X7_reaches E ws kp as rd sc ty ik un tk xt tp sp wrb nu nab iwb X0 a0 ha0 ((hX0).1)) mv_X7_reaches wd_28_7 ⟨Nat.le_of_ble_eq_true rfl, Nat.le_of_ble_eq_true rfl⟩ ⟨Nat.le_of_ble_eq_true rfl, Nat.le_of_ble_eq_true rfl⟩ hH hS (tRecv hK hH (tyb ha0 (all1 rfl)) clX7) rfl hl.1 (Nat.le_of_ble_eq_true rfl) dX7_canBe_61 (fun z_10 H locs hq hS => ?_)
    obtain ⟨f_11, f_12, hH⟩ := hq
    have hH : TH E (tbM (mD (.inl tp) (.inl sp) (.inl nu) (.inl un) (.inl tk) (.inl xt) (.inl wrb) (.inl nab) (.inl iwb)) (xD 660 X0) ws kp as rd sc ty ik) H := hH
    refine lv_iconst (v := 1) F.1 F.2.1 dX7_canBe_64 (by decide) ?_
    refine topK (a := 1) (by decide) (fun k_13 hk_13 => ?_)
    refine tSub (lo := (-1)) (hi := 11) F dX7_canBe_65 f_11 (eqb hk_13) rfl (fun z_14 hz_14 => ?_)
    refine lv_istore_n (lv' := [(2, .int z_14), (0, .ref a0), (1, .int k_1)]) F.1 F.2.1 dX7_canBe_66 rfl hl (by decide) rfl (fun ls hl => ?_)
    refine wloop (σ := Int32 × Int32) (fun n9 x9 H locs ls => (x9.2.toInt - (-1) + 1).toNat < n9 ∧ (0 ≤ x9.1.toInt ∧ x9.1.toInt ≤ 1) ∧ ((-1) ≤ x9.2.toInt ∧ x9.2.toInt ≤ 11) ∧ TH E (tbM (mD (.inl tp) (.inl sp) (.inl nu) (.inl un) (.inl tk) (.inl xt) (.inl wrb) (.inl nab) (.inl iwb)) (xD 660 X0) ws kp as rd sc ty ik) H ∧ va_S (eA E s.heap.size) s.heap H locs ∧ lv_has ls 4 [(0, .ref a0), (1, .int x9.1), (2, .int x9.2)]) ?_ (fun x9 H locs ls h => absurd h.1 (Nat.not_lt_zero _)) _ (k_1, z_14) ⟨Nat.lt_succ_self _, (wkb (eqb hk_1) rfl rfl), hz_14.2, hH, hS, lv_sub hl [1, 2, 0] rfl⟩
    intro n_67 ih_67 ⟨u_15, u_16⟩ H locs ls ⟨hm_67, hu_15, hu_16, hH, hS, hl⟩
    have hm_67 : (u_16.toInt - (-1) + 1).toNat < n_67 + 1 := hm_67
    have hu_15 : (0 ≤ u_15.toInt ∧ u_15.toInt ≤ 1) := hu_15
    have hu_16 : ((-1) ≤ u_16.toInt ∧ u_16.toInt ≤ 11) := hu_16
    have hH : TH E (tbM (mD (.inl tp) (.inl sp) (.inl nu) (.inl un) (.inl tk) (.inl xt) (.inl wrb) (.inl nab) (.inl iwb)) (xD 660 X0) ws kp as rd sc ty ik) H := hH
    have hl : lv_has ls 4 [(0, .ref a0), (1, .int u_15), (2, .int u_16)] := hl
    refine lv_iload_n F.1 F.2.1 dX7_canBe_67 rfl (lv_at hl 2 rfl) ?_
    refine z_lt (tgt := 163) F dX7_canBe_68 (by decide) (fun c_17 => ?_) (fun c_17 => ?_)
    · skip
      have r_18 : (-1) ≤ u_16.toInt ∧ u_16.toInt ≤ (-1) := by have h9_ := hu_16; omega
      refine lv_iload_n F.1 F.2.1 dX7_canBe_163 rfl (lv_at hl 1 rfl) ?_
      exact txI F hS dX7_canBe_164 (nar01 hu_15) (⟨hu_15, hH⟩)
    · skip
      have r_19 : 0 ≤ u_16.toInt ∧ u_16.toInt ≤ 11 := by have h9_ := hu_16; omega
      refine lv_aload_n F.1 F.2.1 dX7_canBe_71 rfl (lv_at hl 0 rfl) ?_
      refine tGetR (j := 14) F hK hH (tyb ha0 (all1 rfl)) rfl (all1 rfl) clX7 (by decide) wd_6_18 dX7_canBe_72 (fun q_20 hq_20 _ => ?_)
      refine lv_iload_n F.1 F.2.1 dX7_canBe_75 rfl (lv_at hl 2 rfl) ?_
      refine tIaldB F hK hH (tyb hq_20 (all1 rfl)) (ixb (n := 12) r_19 rfl rfl) dX7_canBe_76 (fun z_21 hz_21 => ?_)
      refine lv_aload_n F.1 F.2.1 dX7_canBe_77 rfl (lv_at hl 0 rfl) ?_
      refine tGetR (j := 12) F hK hH (tyb ha0 (all1 rfl)) rfl (all1 rfl) clX7 (by decide) wd_6_16 dX7_canBe_78 (fun q_22 hq_22 _ => ?_)
      refine lv_iload_n F.1 F.2.1 dX7_canBe_81 rfl (lv_at hl 2 rfl) ?_
      refine tIaldB F hK hH (tyb hq_22 (all1 rfl)) (ixb (n := 12) r_19 rfl rfl) dX7_canBe_82 (fun z_23 hz_23 => ?_)
      refine lv_isub F.1 F.2.1 dX7_canBe_83 ?_
      refine topF (fun z_24 => ?_)
      refine lv_istore_n (lv' := [(3, .int z_24), (0, .ref a0), (1, .int u_15), (2, .int u_16)]) F.1 F.2.1 dX7_canBe_84 rfl hl (by decide) rfl (fun ls hl => ?_)
      refine lv_iload_n F.1 F.2.1 dX7_canBe_85 rfl (lv_at hl 2 rfl) ?_
      refine wjoin (σ := Int32) (pcj := 98) (stj := fun x9 => [.int x9]) (fun x9 H locs ls => (0 ≤ x9.toInt ∧ x9.toInt ≤ 1) ∧ TH E (tbM (mD (.inl tp) (.inl sp) (.inl nu) (.inl un) (.inl tk) (.inl xt) (.inl wrb) (.inl nab) (.inl iwb)) (xD 660 X0) ws kp as rd sc ty ik) H ∧ va_S (eA E s.heap.size) s.heap H locs ∧ lv_has ls 4 [(0, .ref a0), (2, .int u_16), (3, .int z_24)]) (fun u_25 H locs ls h_ => ?_) (fun J_98 => ?_)
      · skip
        obtain ⟨hu_25, hH, hS, hl⟩ := h_
        have hu_25 : (0 ≤ u_25.toInt ∧ u_25.toInt ≤ 1) := hu_25
        have hH : TH E (tbM (mD (.inl tp) (.inl sp) (.inl nu) (.inl un) (.inl tk) (.inl xt) (.inl wrb) (.inl nab) (.inl iwb)) (xD 660 X0) ws kp as rd sc ty ik) H := hH
        have hl : lv_has ls 4 [(0, .ref a0), (2, .int u_16), (3, .int z_24)] := hl
        show W _ _ _ _ _ _ _ _ _ _ _ _ _ _ _ (F0 _ _ _ [.int u_25])
        refine lv_istore_n (lv' := [(1, .int u_25), (0, .ref a0), (2, .int u_16), (3, .int z_24)]) F.1 F.2.1 dX7_canBe_98 rfl hl (by decide) rfl (fun ls hl => ?_)
        refine lv_aload_n F.1 F.2.1 dX7_canBe_99 rfl (lv_at hl 1 rfl) ?_
        refine tGetR (j := 15) F hK hH (tyb ha0 (all1 rfl)) rfl (all1 rfl) clX7 (by decide) wd_6_19 dX7_canBe_100 (fun q_26 hq_26 _ => ?_)
        refine lv_iload_n F.1 F.2.1 dX7_canBe_103 rfl (lv_at hl 2 rfl) ?_
        refine lv_iload_n F.1 F.2.1 dX7_canBe_104 rfl (lv_at hl 3 rfl) ?_
        refine lv_aload_n F.1 F.2.1 dX7_canBe_105 rfl (lv_at hl 1 rfl) ?_
        refine lv_iload_n F.1 F.2.1 dX7_canBe_106 rfl (lv_at hl 2 rfl) ?_
        refine lv_iconst (v := 1) F.1 F.2.1 dX7_canBe_107 (by decide) ?_
        refine topK (a := 1) (by decide) (fun k_27 hk_27 => ?_)
        refine tVi (b := a0) (As := [.int u_16, .int k_27]) (rest := [.int z_24, .int u_16, .ref q_26]) F hK hN hO (c_X7_ofReach_1 E ws kp as rd sc ty ik un tk xt tp sp wrb nu nab iwb X0 a0 u_16 k_27 ha0 r_19 (eqb hk_27) ((hX0).1)) mv_X7_ofReach wd_28_15 ⟨Nat.le_of_ble_eq_true rfl, Nat.le_of_ble_eq_true rfl⟩ ⟨Nat.le_of_ble_eq_true rfl, Nat.le_of_ble_eq_true rfl⟩ hH hS (tRecv hK hH (tyb ha0 (all1 rfl)) clX7) rfl hl.1 (Nat.le_of_ble_eq_true rfl) dX7_canBe_108 (fun z_28 H locs hq hS => ?_)
        obtain ⟨f_29, f_30, hH⟩ := hq
        have hH : TH E (tbM (mD (.inl tp) (.inl sp) (.inl nu) (.inl un) (.inl tk) (.inl xt) (.inl wrb) (.inl nab) (.inl iwb)) (xD 660 X0) ws kp as rd sc ty ik) H := hH
        refine wjoin (σ := Int32) (pcj := 126) (stj := fun x9 => [.int x9, .int u_16, .ref q_26]) (fun x9 H locs ls => TH E (tbM (mD (.inl tp) (.inl sp) (.inl nu) (.inl un) (.inl tk) (.inl xt) (.inl wrb) (.inl nab) (.inl iwb)) (xD 660 X0) ws kp as rd sc ty ik) H ∧ va_S (eA E s.heap.size) s.heap H locs ∧ lv_has ls 4 [(0, .ref a0), (1, .int u_25), (2, .int u_16)]) (fun u_31 H locs ls h_ => ?_) (fun J_126 => ?_)
        · skip
          obtain ⟨hH, hS, hl⟩ := h_
          have hH : TH E (tbM (mD (.inl tp) (.inl sp) (.inl nu) (.inl un) (.inl tk) (.inl xt) (.inl wrb) (.inl nab) (.inl iwb)) (xD 660 X0) ws kp as rd sc ty ik) H := hH
          have hl : lv_has ls 4 [(0, .ref a0), (1, .int u_25), (2, .int u_16)] := hl
          show W _ _ _ _ _ _ _ _ _ _ _ _ _ _ _ (F0 _ _ _ [.int u_31, .int u_16, .ref q_26])
          refine tIastB F hK hH hS (tyb hq_26 (all1 rfl)) (ixb (n := 12) r_19 rfl rfl) (i32b _) dX7_canBe_126 (fun H locs hH hS => ?_)
          refine lv_aload_n F.1 F.2.1 dX7_canBe_127 rfl (lv_at hl 0 rfl) ?_
          refine lv_iload_n F.1 F.2.1 dX7_canBe_128 rfl (lv_at hl 2 rfl) ?_
          refine lv_iconst (v := 0) F.1 F.2.1 dX7_canBe_129 (by decide) ?_
          refine topK (a := 0) (by decide) (fun k_32 hk_32 => ?_)
          refine tVi (b := a0) (As := [.int u_16, .int k_32]) (rest := []) F hK hN hO (c_X7_ofReach_0 E ws kp as rd sc ty ik un tk xt tp sp wrb nu nab iwb X0 a0 u_16 k_32 ha0 r_19 (eqb hk_32) ((hX0).1)) mv_X7_ofReach wd_28_15 ⟨Nat.le_of_ble_eq_true rfl, Nat.le_of_ble_eq_true rfl⟩ ⟨Nat.le_of_ble_eq_true rfl, Nat.le_of_ble_eq_true rfl⟩ hH hS (tRecv hK hH (tyb ha0 (all1 rfl)) clX7) rfl hl.1 (Nat.le_of_ble_eq_true rfl) dX7_canBe_130 (fun z_33 H locs hq hS => ?_)
          obtain ⟨f_34, f_35, f_36, hH⟩ := hq
          have hH : TH E (tbM (mD (.inl tp) (.inl sp) (.inl nu) (.inl un) (.inl tk) (.inl xt) (.inl wrb) (.inl nab) (.inl iwb)) (xD 660 X0) ws kp as rd sc ty ik) H := hH
          refine lv_iconst (v := (-1)) F.1 F.2.1 dX7_canBe_133 (by decide) ?_
          refine topK (a := (-1)) (by decide) (fun k_37 hk_37 => ?_)
          refine b_eq (tgt := 157) F dX7_canBe_134 (by decide) (fun c_38 => ?_) (fun c_38 => ?_)
          · skip
            have r_39 : (-1) ≤ z_33.toInt ∧ z_33.toInt ≤ (-1) := by have h9_ := f_34; omega
            obtain ⟨x_41, ex_41, hx_41⟩ := iincB (c := (-1)) (lo := (-1)) (hi := 10) r_19 rfl
            refine lv_iinc (v := x_41) (lv' := [(2, .int x_41), (0, .ref a0), (1, .int u_25)]) F.1 F.2.1 dX7_canBe_157 hl (k := 2) rfl ex_41 (by decide) rfl (fun ls hl => ?_)
            refine lv_goto (tgt := 67) F.1 F.2.1 dX7_canBe_160 (by decide) ?_
            exact ih_67 (u_25, x_41) _ _ _ ⟨(show (x_41.toInt - (-1) + 1).toNat < n_67 from by omega), hu_25, (wkb hx_41.2 rfl rfl), hH, hS, lv_sub hl [1, 2, 0] rfl⟩
          · skip
            have r_40 : 0 ≤ z_33.toInt ∧ z_33.toInt ≤ 10 := by have h9_ := f_34; omega
            refine lv_aload_n F.1 F.2.1 dX7_canBe_137 rfl (lv_at hl 0 rfl) ?_
            refine tGetR (j := 14) F hK hH (tyb ha0 (all1 rfl)) rfl (all1 rfl) clX7 (by decide) wd_6_18 dX7_canBe_138 (fun q_42 hq_42 _ => ?_)
            refine lv_aload_n F.1 F.2.1 dX7_canBe_141 rfl (lv_at hl 0 rfl) ?_
            refine lv_iload_n F.1 F.2.1 dX7_canBe_142 rfl (lv_at hl 2 rfl) ?_
            refine lv_iconst (v := 0) F.1 F.2.1 dX7_canBe_143 (by decide) ?_
            refine topK (a := 0) (by decide) (fun k_43 hk_43 => ?_)
            refine tVi (b := a0) (As := [.int u_16, .int k_43]) (rest := [.ref q_42]) F hK hN hO (c_X7_ofReach_0 E ws kp as rd sc ty ik un tk xt tp sp wrb nu nab iwb X0 a0 u_16 k_43 ha0 r_19 (eqb hk_43) ((hX0).1)) mv_X7_ofReach wd_28_15 ⟨Nat.le_of_ble_eq_true rfl, Nat.le_of_ble_eq_true rfl⟩ ⟨Nat.le_of_ble_eq_true rfl, Nat.le_of_ble_eq_true rfl⟩ hH hS (tRecv hK hH (tyb ha0 (all1 rfl)) clX7) rfl hl.1 (Nat.le_of_ble_eq_true rfl) dX7_canBe_144 (fun z_44 H locs hq hS => ?_)
            obtain ⟨f_45, f_46, f_47, hH⟩ := hq
            have hH : TH E (tbM (mD (.inl tp) (.inl sp) (.inl nu) (.inl un) (.inl tk) (.inl xt) (.inl wrb) (.inl nab) (.inl iwb)) (xD 660 X0) ws kp as rd sc ty ik) H := hH
            refine lv_dup2_11 F.1 F.2.1 dX7_canBe_147 rfl rfl ?_
            refine tIaldB F hK hH (tyb hq_42 (all1 rfl)) (by omega) dX7_canBe_148 (fun z_48 hz_48 => ?_)
            refine lv_aload_n F.1 F.2.1 dX7_canBe_149 rfl (lv_at hl 0 rfl) ?_
            refine tGetR (j := 15) F hK hH (tyb ha0 (all1 rfl)) rfl (all1 rfl) clX7 (by decide) wd_6_19 dX7_canBe_150 (fun q_49 hq_49 _ => ?_)
            refine lv_iload_n F.1 F.2.1 dX7_canBe_153 rfl (lv_at hl 2 rfl) ?_
            refine tIaldB F hK hH (tyb hq_49 (all1 rfl)) (ixb (n := 12) r_19 rfl rfl) dX7_canBe_154 (fun z_50 hz_50 => ?_)
            refine lv_iadd F.1 F.2.1 dX7_canBe_155 ?_
            refine topF (fun z_51 => ?_)
            refine tIastB F hK hH hS (tyb hq_42 (all1 rfl)) (by omega) (i32b _) dX7_canBe_156 (fun H locs hH hS => ?_)
            obtain ⟨x_52, ex_52, hx_52⟩ := iincB (c := (-1)) (lo := (-1)) (hi := 10) r_19 rfl
            refine lv_iinc (v := x_52) (lv' := [(2, .int x_52), (0, .ref a0), (1, .int u_25)]) F.1 F.2.1 dX7_canBe_157 hl (k := 2) rfl ex_52 (by decide) rfl (fun ls hl => ?_)
            refine lv_goto (tgt := 67) F.1 F.2.1 dX7_canBe_160 (by decide) ?_
            exact ih_67 (u_25, x_52) _ _ _ ⟨(show (x_52.toInt - (-1) + 1).toNat < n_67 from by omega), hu_25, (wkb hx_52.2 rfl rfl), hH, hS, lv_sub hl [1, 2, 0] rfl⟩
        refine b_le (tgt := 125) F dX7_canBe_111 (by decide) (fun c_53 => ?_) (fun c_53 => ?_)
        · skip
          refine lv_iconst (v := 0) F.1 F.2.1 dX7_canBe_125 (by decide) ?_
          refine topK (a := 0) (by decide) (fun k_54 hk_54 => ?_)
          exact J_126 (k_54) _ _ _ ⟨hH, hS, lv_sub hl [1, 0, 2] rfl⟩
        · skip
          refine lv_iload_n F.1 F.2.1 dX7_canBe_114 rfl (lv_at hl 3 rfl) ?_
          refine lv_aload_n F.1 F.2.1 dX7_canBe_115 rfl (lv_at hl 1 rfl) ?_
          refine lv_iload_n F.1 F.2.1 dX7_canBe_116 rfl (lv_at hl 2 rfl) ?_
          refine lv_iconst (v := 1) F.1 F.2.1 dX7_canBe_117 (by decide) ?_
          refine topK (a := 1) (by decide) (fun k_55 hk_55 => ?_)
          refine tVi (b := a0) (As := [.int u_16, .int k_55]) (rest := [.int z_24, .int u_16, .ref q_26]) F hK hN hO (c_X7_ofReach_1 E ws kp as rd sc ty ik un tk xt tp sp wrb nu nab iwb X0 a0 u_16 k_55 ha0 r_19 (eqb hk_55) ((hX0).1)) mv_X7_ofReach wd_28_15 ⟨Nat.le_of_ble_eq_true rfl, Nat.le_of_ble_eq_true rfl⟩ ⟨Nat.le_of_ble_eq_true rfl, Nat.le_of_ble_eq_true rfl⟩ hH hS (tRecv hK hH (tyb ha0 (all1 rfl)) clX7) rfl hl.1 (Nat.le_of_ble_eq_true rfl) dX7_canBe_118 (fun z_56 H locs hq hS => ?_)
          obtain ⟨f_57, f_58, hH⟩ := hq
          have hH : TH E (tbM (mD (.inl tp) (.inl sp) (.inl nu) (.inl un) (.inl tk) (.inl xt) (.inl wrb) (.inl nab) (.inl iwb)) (xD 660 X0) ws kp as rd sc ty ik) H := hH
          refine lv_isub F.1 F.2.1 dX7_canBe_121 ?_
          refine topF (fun z_59 => ?_)
          refine lv_goto (tgt := 126) F.1 F.2.1 dX7_canBe_122 (by decide) ?_
          exact J_126 (z_59) _ _ _ ⟨hH, hS, lv_sub hl [1, 0, 2] rfl⟩
      refine wjoin (σ := Unit) (pcj := 97) (stj := fun x9 => []) (fun x9 H locs ls => TH E (tbM (mD (.inl tp) (.inl sp) (.inl nu) (.inl un) (.inl tk) (.inl xt) (.inl wrb) (.inl nab) (.inl iwb)) (xD 660 X0) ws kp as rd sc ty ik) H ∧ va_S (eA E s.heap.size) s.heap H locs ∧ lv_has ls 4 [(0, .ref a0), (2, .int u_16), (3, .int z_24)]) (fun x9 H locs ls h_ => ?_) (fun J_97 => ?_)
      · skip
        obtain ⟨hH, hS, hl⟩ := h_
        have hH : TH E (tbM (mD (.inl tp) (.inl sp) (.inl nu) (.inl un) (.inl tk) (.inl xt) (.inl wrb) (.inl nab) (.inl iwb)) (xD 660 X0) ws kp as rd sc ty ik) H := hH
        have hl : lv_has ls 4 [(0, .ref a0), (2, .int u_16), (3, .int z_24)] := hl
        show W _ _ _ _ _ _ _ _ _ _ _ _ _ _ _ (F0 _ _ _ [])
        refine lv_iconst (v := 0) F.1 F.2.1 dX7_canBe_97 (by decide) ?_
        refine topK (a := 0) (by decide) (fun k_60 hk_60 => ?_)
        exact J_98 (k_60) _ _ _ ⟨(wkb (eqb hk_60) rfl rfl), hH, hS, lv_sub hl [0, 1, 2] rfl⟩
      refine z_eq (tgt := 97) F dX7_canBe_86 (by decide) (fun c_61 => ?_) (fun c_61 => ?_)
      · skip
        have r_62 : 0 ≤ u_15.toInt ∧ u_15.toInt ≤ 0 := by have h9_ := hu_15; omega
        exact J_97 () _ _ _ ⟨hH, hS, lv_sub hl [1, 3, 0] rfl⟩
      · skip
        have r_63 : 1 ≤ u_15.toInt ∧ u_15.toInt ≤ 1 := by have h9_ := hu_15; omega
        refine lv_iload_n F.1 F.2.1 dX7_canBe_89 rfl (lv_at hl 0 rfl) ?_
        refine z_lt (tgt := 97) F dX7_canBe_90 (by decide) (fun c_64 => ?_) (fun c_64 => ?_)
        · skip
          have r_65 : (-2147483648) ≤ z_24.toInt ∧ z_24.toInt ≤ (-1) := by have h9_ := (i32b z_24); omega
          exact J_97 () _ _ _ ⟨hH, hS, lv_sub hl [1, 3, 0] rfl⟩
        · skip
          have r_66 : 0 ≤ z_24.toInt ∧ z_24.toInt ≤ 2147483647 := by have h9_ := (i32b z_24); omega
          refine lv_iconst (v := 1) F.1 F.2.1 dX7_canBe_93 (by decide) ?_
          refine topK (a := 1) (by decide) (fun k_67 hk_67 => ?_)
          refine lv_goto (tgt := 98) F.1 F.2.1 dX7_canBe_94 (by decide) ?_
          exact J_98 (k_67) _ _ _ ⟨(wkb (eqb hk_67) rfl rfl), hH, hS, lv_sub hl [1, 3, 0] rfl⟩
  · skip
    have r_8 : 0 ≤ u_3.toInt ∧ u_3.toInt ≤ 11 := by have h9_ := hu_3; omega
    have r_9 : 1 ≤ z_4.toInt ∧ z_4.toInt ≤ 12 := by have h9_ := f_5; omega
    refine lv_aload_n F.1 F.2.1 dX7_canBe_12 rfl (lv_at hl 0 rfl) ?_
    refine tGetR (j := 14) F hK hH (tyb ha0 (all1 rfl)) rfl (all1 rfl) clX7 (by decide) wd_6_18 dX7_canBe_13 (fun q_68 hq_68 _ => ?_)
    refine lv_iload_n F.1 F.2.1 dX7_canBe_16 rfl (lv_at hl 2 rfl) ?_
    refine lv_aload_n F.1 F.2.1 dX7_canBe_17 rfl (lv_at hl 0 rfl) ?_
    refine lv_iload_n F.1 F.2.1 dX7_canBe_18 rfl (lv_at hl 2 rfl) ?_
    refine tVi (b := a0) (As := [.int u_3]) (rest := [.int u_3, .ref q_68]) F hK hN hO (c_X7_inflowOf E ws kp as rd sc ty ik un tk xt tp sp wrb nu nab iwb X0 a0 u_3 ha0 r_8 ((hX0).1)) mv_X7_inflowOf wd_28_11 ⟨Nat.le_of_ble_eq_true rfl, Nat.le_of_ble_eq_true rfl⟩ ⟨Nat.le_of_ble_eq_true rfl, Nat.le_of_ble_eq_true rfl⟩ hH hS (tRecv hK hH (tyb ha0 (all1 rfl)) clX7) rfl hl.1 (Nat.le_of_ble_eq_true rfl) dX7_canBe_19 (fun z_69 H locs hq hS => ?_)
    obtain ⟨f_70, hH⟩ := hq
    have hH : TH E (tbM (mD (.inl tp) (.inl sp) (.inl nu) (.inl un) (.inl tk) (.inl xt) (.inl wrb) (.inl nab) (.inl iwb)) (xD 660 X0) ws kp as rd sc ty ik) H := hH
    refine lv_aload_n F.1 F.2.1 dX7_canBe_22 rfl (lv_at hl 0 rfl) ?_
    refine lv_iload_n F.1 F.2.1 dX7_canBe_23 rfl (lv_at hl 2 rfl) ?_
    refine lv_iconst (v := 0) F.1 F.2.1 dX7_canBe_24 (by decide) ?_
    refine topK (a := 0) (by decide) (fun k_71 hk_71 => ?_)
    refine tVi (b := a0) (As := [.int u_3, .int k_71]) (rest := [.int z_69, .int u_3, .ref q_68]) F hK hN hO (c_X7_backIn E ws kp as rd sc ty ik un tk xt tp sp wrb nu nab iwb X0 a0 u_3 k_71 ha0 r_8 (wkb (eqb hk_71) rfl rfl) ((hX0).1)) mv_X7_backIn wd_28_22 ⟨Nat.le_of_ble_eq_true rfl, Nat.le_of_ble_eq_true rfl⟩ ⟨Nat.le_of_ble_eq_true rfl, Nat.le_of_ble_eq_true rfl⟩ hH hS (tRecv hK hH (tyb ha0 (all1 rfl)) clX7) rfl hl.1 (Nat.le_of_ble_eq_true rfl) dX7_canBe_25 (fun z_72 H locs hq hS => ?_)
    obtain ⟨f_73, hH⟩ := hq
    have hH : TH E (tbM (mD (.inl tp) (.inl sp) (.inl nu) (.inl un) (.inl tk) (.inl xt) (.inl wrb) (.inl nab) (.inl iwb)) (xD 660 X0) ws kp as rd sc ty ik) H := hH
    refine lv_iadd F.1 F.2.1 dX7_canBe_28 ?_
    refine topF (fun z_74 => ?_)
    refine lv_aload_n F.1 F.2.1 dX7_canBe_29 rfl (lv_at hl 0 rfl) ?_
    refine tGetR (j := 13) F hK hH (tyb ha0 (all1 rfl)) rfl (all1 rfl) clX7 (by decide) wd_6_17 dX7_canBe_30 (fun q_75 hq_75 _ => ?_)
    refine lv_iload_n F.1 F.2.1 dX7_canBe_33 rfl (lv_at hl 2 rfl) ?_
    refine tIaldB F hK hH (tyb hq_75 (all1 rfl)) (ixb (n := 12) r_8 rfl rfl) dX7_canBe_34 (fun z_76 hz_76 => ?_)
    refine lv_iadd F.1 F.2.1 dX7_canBe_35 ?_
    refine topF (fun z_77 => ?_)
    refine lv_iload_n F.1 F.2.1 dX7_canBe_36 rfl (lv_at hl 2 rfl) ?_
    refine lv_aload_n F.1 F.2.1 dX7_canBe_37 rfl (lv_at hl 0 rfl) ?_
    refine tGetI (j := 16) F hK hH (tyb ha0 (all1 rfl)) rfl clX7 (by decide) wd_6_20 dX7_canBe_38 (fun z_78 hz_78 => ?_)
    refine b_ne (tgt := 51) F dX7_canBe_41 (by decide) (fun c_79 => ?_) (fun c_79 => ?_)
    · skip
      refine lv_iconst (v := 0) F.1 F.2.1 dX7_canBe_51 (by decide) ?_
      refine topK (a := 0) (by decide) (fun k_81 hk_81 => ?_)
      refine tAdd (lo := (-2147483648)) (hi := 2147483647) F dX7_canBe_52 (i32b _) (eqb hk_81) rfl (fun z_82 hz_82 => ?_)
      refine tIastB F hK hH hS (tyb hq_68 (all1 rfl)) (ixb (n := 12) r_8 rfl rfl) hz_82.2 dX7_canBe_53 (fun H locs hH hS => ?_)
      obtain ⟨x_83, ex_83, hx_83⟩ := iincB (c := 1) (lo := 1) (hi := 12) r_8 rfl
      refine lv_iinc (v := x_83) (lv' := [(2, .int x_83), (0, .ref a0), (1, .int k_1)]) F.1 F.2.1 dX7_canBe_54 hl (k := 2) rfl ex_83 (by decide) rfl (fun ls hl => ?_)
      refine lv_goto (tgt := 4) F.1 F.2.1 dX7_canBe_57 (by decide) ?_
      exact ih_4 (x_83) _ _ _ ⟨(show (12 - x_83.toInt + 1).toNat < n_4 from by omega), (wkb hx_83.2 rfl rfl), hH, hS, lv_sub hl [1, 2, 0] rfl⟩
    · skip
      have r_80 : 0 ≤ z_78.toInt ∧ z_78.toInt ≤ 11 := by have h9_ := hz_78; omega
      refine lv_aload_n F.1 F.2.1 dX7_canBe_44 rfl (lv_at hl 0 rfl) ?_
      refine tGetI (j := 17) F hK hH (tyb ha0 (all1 rfl)) rfl clX7 (by decide) wd_28_6 dX7_canBe_45 (fun z_84 _ => ?_)
      refine lv_goto (tgt := 52) F.1 F.2.1 dX7_canBe_48 (by decide) ?_
      refine lv_iadd F.1 F.2.1 dX7_canBe_52 ?_
      refine topF (fun z_85 => ?_)
      refine tIastB F hK hH hS (tyb hq_68 (all1 rfl)) (ixb (n := 12) r_8 rfl rfl) (i32b _) dX7_canBe_53 (fun H locs hH hS => ?_)
      obtain ⟨x_86, ex_86, hx_86⟩ := iincB (c := 1) (lo := 1) (hi := 12) r_8 rfl
      refine lv_iinc (v := x_86) (lv' := [(2, .int x_86), (0, .ref a0), (1, .int k_1)]) F.1 F.2.1 dX7_canBe_54 hl (k := 2) rfl ex_86 (by decide) rfl (fun ls hl => ?_)
      refine lv_goto (tgt := 4) F.1 F.2.1 dX7_canBe_57 (by decide) ?_
      exact ih_4 (x_86) _ _ _ ⟨(show (12 - x_86.toInt + 1).toNat < n_4 from by omega), (wkb hx_86.2 rfl rfl), hH, hS, lv_sub hl [1, 2, 0] rfl⟩
set_option maxHeartbeats 4000000 in
set_option maxRecDepth 100000 in
theorem c_X7_canMore (E : Ev) (ws : TD) (kp : TD) (as : TD) (rd : TD) (sc : TD) (ty : TD) (ik : TD) (un : Int × Int) (tk : Int × Int) (xt : Int × Int) (tp : Int × Int) (sp : Int × Int) (wrb : Int × Int) (nu : Int × Int) (nab : Int × Int) (iwb : Int × Int) (X0 : Nat → Int32) (a0 : Nat) (a1 : Int32) (a2 : Int32) (a3 : Int32) (ha0 : eT E a0 ∈ [24]) (ha1 : 0 ≤ a1.toInt ∧ a1.toInt ≤ 11) (ha3 : (-1) ≤ a3.toInt ∧ a3.toInt ≤ 11) (hX0 : okR X0) : TcI E yX7_canMore cX7_canMore 5 .boolean ({ frames := 4, cells := 0, slots := 0, locals := 106 }) [.ref a0, .int a1, .int a2, .int a3] (fun H => TH E (tbM (mD (.inl tp) (.inl sp) (.inl nu) (.inl un) (.inl tk) (.inl xt) (.inl wrb) (.inl nab) (.inl iwb)) (xD 660 X0) ws kp as rd sc ty ik) H) (fun v H => (0 ≤ v.toInt ∧ v.toInt ≤ 1) ∧ TH E (tbM (mD (.inl tp) (.inl sp) (.inl nu) (.inl un) (.inl tk) (.inl xt) (.inl wrb) (.inl nab) (.inl iwb)) (xD 660 X0) ws kp as rd sc ty ik) H) := by
  refine teI (by decide) (Nat.le_of_ble_eq_true rfl) ?_
  intro p_ ev_ s mi_ below_ meth cd_ ls F hK hN hO hH hS hl
  have hH : TH E (tbM (mD (.inl tp) (.inl sp) (.inl nu) (.inl un) (.inl tk) (.inl xt) (.inl wrb) (.inl nab) (.inl iwb)) (xD 660 X0) ws kp as rd sc ty ik) s.heap := hH
  have hl : lv_has ls 5 [(0, .ref a0), (1, .int a1), (2, .int a2), (3, .int a3)] := hl
  have hBX0 := okB hX0.1
  have hLX0 := hX0.2
  refine lv_aload_n F.1 F.2.1 dX7_canMore_0 rfl (lv_at hl 0 rfl) ?_
  refine tGetR (j := 12) F hK hH (tyb ha0 (all1 rfl)) rfl (all1 rfl) clX7 (by decide) wd_6_16 dX7_canMore_1 (fun q_1 hq_1 _ => ?_)
  refine lv_iload_n F.1 F.2.1 dX7_canMore_4 rfl (lv_at hl 1 rfl) ?_
  refine lv_dup2_11 F.1 F.2.1 dX7_canMore_5 rfl rfl ?_
  refine tIaldB F hK hH (tyb hq_1 (all1 rfl)) (ixb (n := 12) ha1 rfl rfl) dX7_canMore_6 (fun z_2 hz_2 => ?_)
  refine lv_iload_n F.1 F.2.1 dX7_canMore_7 rfl (lv_at hl 2 rfl) ?_
  refine lv_iadd F.1 F.2.1 dX7_canMore_8 ?_
  refine topF (fun z_3 => ?_)
  refine tIastB F hK hH hS (tyb hq_1 (all1 rfl)) (ixb (n := 12) ha1 rfl rfl) (i32b _) dX7_canMore_9 (fun H locs hH hS => ?_)
  refine lv_iload_n F.1 F.2.1 dX7_canMore_10 rfl (lv_at hl 3 rfl) ?_
  refine lv_iconst (v := (-1)) F.1 F.2.1 dX7_canMore_11 (by decide) ?_
  refine topK (a := (-1)) (by decide) (fun k_4 hk_4 => ?_)
  refine wjoin (σ := Unit) (pcj := 25) (stj := fun x9 => []) (fun x9 H locs ls => TH E (tbM (mD (.inl tp) (.inl sp) (.inl nu) (.inl un) (.inl tk) (.inl xt) (.inl wrb) (.inl nab) (.inl iwb)) (xD 660 X0) ws kp as rd sc ty ik) H ∧ va_S (eA E s.heap.size) s.heap H locs ∧ lv_has ls 5 [(0, .ref a0), (1, .int a1), (2, .int a2), (3, .int a3)]) (fun x9 H locs ls h_ => ?_) (fun J_25 => ?_)
  · skip
    obtain ⟨hH, hS, hl⟩ := h_
    have hH : TH E (tbM (mD (.inl tp) (.inl sp) (.inl nu) (.inl un) (.inl tk) (.inl xt) (.inl wrb) (.inl nab) (.inl iwb)) (xD 660 X0) ws kp as rd sc ty ik) H := hH
    have hl : lv_has ls 5 [(0, .ref a0), (1, .int a1), (2, .int a2), (3, .int a3)] := hl
    show W _ _ _ _ _ _ _ _ _ _ _ _ _ _ _ (F0 _ _ _ [])
    refine lv_aload_n F.1 F.2.1 dX7_canMore_25 rfl (lv_at hl 0 rfl) ?_
    refine tVi (b := a0) (As := []) (rest := []) F hK hN hO (c_X7_canBe E ws kp as rd sc ty ik un tk xt tp sp wrb nu nab iwb X0 a0 ha0 hX0) mv_X7_canBe wd_28_2 ⟨Nat.le_of_ble_eq_true rfl, Nat.le_of_ble_eq_true rfl⟩ ⟨Nat.le_of_ble_eq_true rfl, Nat.le_of_ble_eq_true rfl⟩ hH hS (tRecv hK hH (tyb ha0 (all1 rfl)) clX7) rfl hl.1 (Nat.le_of_ble_eq_true rfl) dX7_canMore_26 (fun z_5 H locs hq hS => ?_)
    obtain ⟨f_6, hH⟩ := hq
    have hH : TH E (tbM (mD (.inl tp) (.inl sp) (.inl nu) (.inl un) (.inl tk) (.inl xt) (.inl wrb) (.inl nab) (.inl iwb)) (xD 660 X0) ws kp as rd sc ty ik) H := hH
    refine lv_istore (lv' := [(4, .int z_5), (0, .ref a0), (1, .int a1), (2, .int a2), (3, .int a3)]) F.1 F.2.1 dX7_canMore_29 hl (by decide) rfl (fun ls hl => ?_)
    refine lv_aload_n F.1 F.2.1 dX7_canMore_31 rfl (lv_at hl 1 rfl) ?_
    refine tGetR (j := 12) F hK hH (tyb ha0 (all1 rfl)) rfl (all1 rfl) clX7 (by decide) wd_6_16 dX7_canMore_32 (fun q_7 hq_7 _ => ?_)
    refine lv_iload_n F.1 F.2.1 dX7_canMore_35 rfl (lv_at hl 2 rfl) ?_
    refine lv_dup2_11 F.1 F.2.1 dX7_canMore_36 rfl rfl ?_
    refine tIaldB F hK hH (tyb hq_7 (all1 rfl)) (ixb (n := 12) ha1 rfl rfl) dX7_canMore_37 (fun z_8 hz_8 => ?_)
    refine lv_iload_n F.1 F.2.1 dX7_canMore_38 rfl (lv_at hl 3 rfl) ?_
    refine lv_isub F.1 F.2.1 dX7_canMore_39 ?_
    refine topF (fun z_9 => ?_)
    refine tIastB F hK hH hS (tyb hq_7 (all1 rfl)) (ixb (n := 12) ha1 rfl rfl) (i32b _) dX7_canMore_40 (fun H locs hH hS => ?_)
    refine lv_iload_n F.1 F.2.1 dX7_canMore_41 rfl (lv_at hl 4 rfl) ?_
    refine lv_iconst (v := (-1)) F.1 F.2.1 dX7_canMore_42 (by decide) ?_
    refine topK (a := (-1)) (by decide) (fun k_10 hk_10 => ?_)
    refine b_eq (tgt := 56) F dX7_canMore_43 (by decide) (fun c_11 => ?_) (fun c_11 => ?_)
    · skip
      have r_12 : (-1) ≤ a3.toInt ∧ a3.toInt ≤ (-1) := by have h9_ := ha3; omega
      refine lv_iload F.1 F.2.1 dX7_canMore_56 (lv_at hl 0 rfl) ?_
      exact txI F hS dX7_canMore_58 (nar01 f_6) (⟨f_6, hH⟩)
    · skip
      have r_13 : 0 ≤ a3.toInt ∧ a3.toInt ≤ 11 := by have h9_ := ha3; omega
      refine lv_aload_n F.1 F.2.1 dX7_canMore_46 rfl (lv_at hl 1 rfl) ?_
      refine tGetR (j := 13) F hK hH (tyb ha0 (all1 rfl)) rfl (all1 rfl) clX7 (by decide) wd_6_17 dX7_canMore_47 (fun q_14 hq_14 _ => ?_)
      refine lv_iload_n F.1 F.2.1 dX7_canMore_50 rfl (lv_at hl 4 rfl) ?_
      refine lv_dup2_11 F.1 F.2.1 dX7_canMore_51 rfl rfl ?_
      refine tIaldB F hK hH (tyb hq_14 (all1 rfl)) (ixb (n := 12) r_13 rfl rfl) dX7_canMore_52 (fun z_15 hz_15 => ?_)
      refine lv_iload_n F.1 F.2.1 dX7_canMore_53 rfl (lv_at hl 3 rfl) ?_
      refine lv_isub F.1 F.2.1 dX7_canMore_54 ?_
      refine topF (fun z_16 => ?_)
      refine tIastB F hK hH hS (tyb hq_14 (all1 rfl)) (ixb (n := 12) r_13 rfl rfl) (i32b _) dX7_canMore_55 (fun H locs hH hS => ?_)
      refine lv_iload F.1 F.2.1 dX7_canMore_56 (lv_at hl 0 rfl) ?_
      exact txI F hS dX7_canMore_58 (nar01 f_6) (⟨f_6, hH⟩)
  refine b_eq (tgt := 25) F dX7_canMore_12 (by decide) (fun c_17 => ?_) (fun c_17 => ?_)
  · skip
    have r_18 : (-1) ≤ a3.toInt ∧ a3.toInt ≤ (-1) := by have h9_ := ha3; omega
    exact J_25 () _ _ _ ⟨hH, hS, lv_sub hl [0, 1, 2, 3] rfl⟩
  · skip
    have r_19 : 0 ≤ a3.toInt ∧ a3.toInt ≤ 11 := by have h9_ := ha3; omega
    refine lv_aload_n F.1 F.2.1 dX7_canMore_15 rfl (lv_at hl 0 rfl) ?_
    refine tGetR (j := 13) F hK hH (tyb ha0 (all1 rfl)) rfl (all1 rfl) clX7 (by decide) wd_6_17 dX7_canMore_16 (fun q_20 hq_20 _ => ?_)
    refine lv_iload_n F.1 F.2.1 dX7_canMore_19 rfl (lv_at hl 3 rfl) ?_
    refine lv_dup2_11 F.1 F.2.1 dX7_canMore_20 rfl rfl ?_
    refine tIaldB F hK hH (tyb hq_20 (all1 rfl)) (ixb (n := 12) r_19 rfl rfl) dX7_canMore_21 (fun z_21 hz_21 => ?_)
    refine lv_iload_n F.1 F.2.1 dX7_canMore_22 rfl (lv_at hl 2 rfl) ?_
    refine lv_iadd F.1 F.2.1 dX7_canMore_23 ?_
    refine topF (fun z_22 => ?_)
    refine tIastB F hK hH hS (tyb hq_20 (all1 rfl)) (ixb (n := 12) r_19 rfl rfl) (i32b _) dX7_canMore_24 (fun H locs hH hS => ?_)
    exact J_25 () _ _ _ ⟨hH, hS, lv_sub hl [0, 1, 2, 3] rfl⟩
set_option maxHeartbeats 4000000 in
set_option maxRecDepth 100000 in
theorem c_X7_mostMore (E : Ev) (ws : TD) (kp : TD) (as : TD) (rd : TD) (sc : TD) (ty : TD) (ik : TD) (un : Int × Int) (tk : Int × Int) (xt : Int × Int) (tp : Int × Int) (sp : Int × Int) (wrb : Int × Int) (nu : Int × Int) (nab : Int × Int) (iwb : Int × Int) (X0 : Nat → Int32) (a0 : Nat) (a1 : Int32) (a2 : Int32) (a3 : Int32) (ha0 : eT E a0 ∈ [24]) (ha1 : 0 ≤ a1.toInt ∧ a1.toInt ≤ 11) (ha2 : (-2147483648) ≤ a2.toInt ∧ a2.toInt ≤ 9999) (ha3 : (-1) ≤ a3.toInt ∧ a3.toInt ≤ 11) (hX0 : okR X0) : TcI E yX7_mostMore cX7_mostMore 7 .int ({ frames := 5, cells := 0, slots := 0, locals := 130 }) [.ref a0, .int a1, .int a2, .int a3] (fun H => TH E (tbM (mD (.inl tp) (.inl sp) (.inl nu) (.inl un) (.inl tk) (.inl xt) (.inl wrb) (.inl nab) (.inl iwb)) (xD 660 X0) ws kp as rd sc ty ik) H) (fun v H => (0 ≤ v.toInt ∧ v.toInt ≤ 9999) ∧ (v.toInt ≤ a2.toInt ∨ v.toInt = 0) ∧ TH E (tbM (mD (.inl tp) (.inl sp) (.inl nu) (.inl un) (.inl tk) (.inl xt) (.inl wrb) (.inl nab) (.inl iwb)) (xD 660 X0) ws kp as rd sc ty ik) H) := by
  refine teI (by decide) (Nat.le_of_ble_eq_true rfl) ?_
  intro p_ ev_ s mi_ below_ meth cd_ ls F hK hN hO hH hS hl
  have hH : TH E (tbM (mD (.inl tp) (.inl sp) (.inl nu) (.inl un) (.inl tk) (.inl xt) (.inl wrb) (.inl nab) (.inl iwb)) (xD 660 X0) ws kp as rd sc ty ik) s.heap := hH
  have hl : lv_has ls 7 [(0, .ref a0), (1, .int a1), (2, .int a2), (3, .int a3)] := hl
  have hBX0 := okB hX0.1
  have hLX0 := hX0.2
  refine lv_iconst (v := 0) F.1 F.2.1 dX7_mostMore_0 (by decide) ?_
  refine topK (a := 0) (by decide) (fun k_1 hk_1 => ?_)
  refine lv_istore (lv' := [(4, .int k_1), (0, .ref a0), (1, .int a1), (2, .int a2), (3, .int a3)]) F.1 F.2.1 dX7_mostMore_1 hl (by decide) rfl (fun ls hl => ?_)
  refine lv_iload_n F.1 F.2.1 dX7_mostMore_3 rfl (lv_at hl 3 rfl) ?_
  refine z_ge (tgt := 11) F dX7_mostMore_4 (by decide) (fun c_2 => ?_) (fun c_2 => ?_)
  · skip
    have r_3 : 0 ≤ a2.toInt ∧ a2.toInt ≤ 9999 := by have h9_ := ha2; omega
    refine lv_iload_n F.1 F.2.1 dX7_mostMore_11 rfl (lv_at hl 3 rfl) ?_
    refine lv_istore (lv' := [(5, .int a2), (4, .int k_1), (0, .ref a0), (1, .int a1), (2, .int a2), (3, .int a3)]) F.1 F.2.1 dX7_mostMore_12 hl (by decide) rfl (fun ls hl => ?_)
    refine wloop (σ := Int32 × Int32) (fun n9 x9 H locs ls => (x9.2.toInt - x9.1.toInt).toNat < n9 ∧ (0 ≤ x9.1.toInt ∧ x9.1.toInt ≤ 9999) ∧ (0 ≤ x9.2.toInt ∧ x9.2.toInt ≤ 9999) ∧ (x9.1.toInt ≤ x9.2.toInt) ∧ (x9.2.toInt ≤ a2.toInt ∨ x9.2.toInt ≤ 0) ∧ TH E (tbM (mD (.inl tp) (.inl sp) (.inl nu) (.inl un) (.inl tk) (.inl xt) (.inl wrb) (.inl nab) (.inl iwb)) (xD 660 X0) ws kp as rd sc ty ik) H ∧ va_S (eA E s.heap.size) s.heap H locs ∧ lv_has ls 7 [(0, .ref a0), (1, .int a1), (3, .int a3), (4, .int x9.1), (5, .int x9.2)]) ?_ (fun x9 H locs ls h => absurd h.1 (Nat.not_lt_zero _)) _ (k_1, a2) ⟨Nat.lt_succ_self _, (wkb (eqb hk_1) rfl rfl), r_3, (show k_1.toInt ≤ a2.toInt from by omega), (show a2.toInt ≤ a2.toInt ∨ a2.toInt ≤ 0 from by omega), hH, hS, lv_sub hl [2, 3, 5, 1, 0] rfl⟩
    intro n_14 ih_14 ⟨u_5, u_6⟩ H locs ls ⟨hm_14, hu_5, hu_6, hcr14_0, hcr14_1, hH, hS, hl⟩
    have hm_14 : (u_6.toInt - u_5.toInt).toNat < n_14 + 1 := hm_14
    have hu_5 : (0 ≤ u_5.toInt ∧ u_5.toInt ≤ 9999) := hu_5
    have hu_6 : (0 ≤ u_6.toInt ∧ u_6.toInt ≤ 9999) := hu_6
    have hcr14_0 : (u_5.toInt ≤ u_6.toInt) := hcr14_0
    have hcr14_1 : (u_6.toInt ≤ a2.toInt ∨ u_6.toInt ≤ 0) := hcr14_1
    have hH : TH E (tbM (mD (.inl tp) (.inl sp) (.inl nu) (.inl un) (.inl tk) (.inl xt) (.inl wrb) (.inl nab) (.inl iwb)) (xD 660 X0) ws kp as rd sc ty ik) H := hH
    have hl : lv_has ls 7 [(0, .ref a0), (1, .int a1), (3, .int a3), (4, .int u_5), (5, .int u_6)] := hl
    refine lv_iload F.1 F.2.1 dX7_mostMore_14 (lv_at hl 3 rfl) ?_
    refine lv_iload F.1 F.2.1 dX7_mostMore_16 (lv_at hl 4 rfl) ?_
    refine b_ge (tgt := 59) F dX7_mostMore_18 (by decide) (fun c_7 => ?_) (fun c_7 => ?_)
    · skip
      refine lv_iload F.1 F.2.1 dX7_mostMore_59 (lv_at hl 3 rfl) ?_
      exact txI F hS dX7_mostMore_61 rfl (⟨hu_5, (by omega), hH⟩)
    · skip
      have r_8 : 0 ≤ u_5.toInt ∧ u_5.toInt ≤ 9998 := by have h9_ := hu_5; omega
      have r_9 : 1 ≤ u_6.toInt ∧ u_6.toInt ≤ 9999 := by have h9_ := hu_6; omega
      refine lv_iload F.1 F.2.1 dX7_mostMore_21 (lv_at hl 3 rfl) ?_
      refine lv_iload F.1 F.2.1 dX7_mostMore_23 (lv_at hl 4 rfl) ?_
      refine tAdd (lo := 1) (hi := 19997) F dX7_mostMore_25 r_8 r_9 rfl (fun z_10 hz_10 => ?_)
      refine lv_iconst (v := 1) F.1 F.2.1 dX7_mostMore_26 (by decide) ?_
      refine topK (a := 1) (by decide) (fun k_11 hk_11 => ?_)
      refine tAdd (lo := 2) (hi := 19998) F dX7_mostMore_27 hz_10.2 (eqb hk_11) rfl (fun z_12 hz_12 => ?_)
      refine lv_iconst (v := 2) F.1 F.2.1 dX7_mostMore_28 (by decide) ?_
      refine topK (a := 2) (by decide) (fun k_13 hk_13 => ?_)
      refine tDiv (k := 2) (lo := 1) (hi := 9999) F dX7_mostMore_29 hz_12.2 hk_13 rfl (fun z_14 hz_14 => ?_)
      refine lv_istore (lv' := [(6, .int z_14), (0, .ref a0), (1, .int a1), (3, .int a3), (4, .int u_5), (5, .int u_6)]) F.1 F.2.1 dX7_mostMore_30 hl (by decide) rfl (fun ls hl => ?_)
      refine lv_aload_n F.1 F.2.1 dX7_mostMore_32 rfl (lv_at hl 1 rfl) ?_
      refine lv_iload_n F.1 F.2.1 dX7_mostMore_33 rfl (lv_at hl 2 rfl) ?_
      refine lv_iload F.1 F.2.1 dX7_mostMore_34 (lv_at hl 0 rfl) ?_
      refine lv_iload_n F.1 F.2.1 dX7_mostMore_36 rfl (lv_at hl 3 rfl) ?_
      refine tVi (b := a0) (As := [.int a1, .int z_14, .int a3]) (rest := []) F hK hN hO (c_X7_canMore E ws kp as rd sc ty ik un tk xt tp sp wrb nu nab iwb X0 a0 a1 z_14 a3 ha0 ha1 ha3 hX0) mv_X7_canMore wd_27_22 ⟨Nat.le_of_ble_eq_true rfl, Nat.le_of_ble_eq_true rfl⟩ ⟨Nat.le_of_ble_eq_true rfl, Nat.le_of_ble_eq_true rfl⟩ hH hS (tRecv hK hH (tyb ha0 (all1 rfl)) clX7) rfl hl.1 (Nat.le_of_ble_eq_true rfl) dX7_mostMore_37 (fun z_15 H locs hq hS => ?_)
      obtain ⟨f_16, hH⟩ := hq
      have hH : TH E (tbM (mD (.inl tp) (.inl sp) (.inl nu) (.inl un) (.inl tk) (.inl xt) (.inl wrb) (.inl nab) (.inl iwb)) (xD 660 X0) ws kp as rd sc ty ik) H := hH
      refine z_eq (tgt := 50) F dX7_mostMore_40 (by decide) (fun c_17 => ?_) (fun c_17 => ?_)
      · skip
        have r_18 : 0 ≤ z_15.toInt ∧ z_15.toInt ≤ 0 := by have h9_ := f_16; omega
        refine lv_iload F.1 F.2.1 dX7_mostMore_50 (lv_at hl 0 rfl) ?_
        refine lv_iconst (v := 1) F.1 F.2.1 dX7_mostMore_52 (by decide) ?_
        refine topK (a := 1) (by decide) (fun k_20 hk_20 => ?_)
        refine tSub (lo := 0) (hi := 9998) F dX7_mostMore_53 hz_14.2 (eqb hk_20) rfl (fun z_21 hz_21 => ?_)
        refine lv_istore (lv' := [(5, .int z_21), (6, .int z_14), (0, .ref a0), (1, .int a1), (3, .int a3), (4, .int u_5)]) F.1 F.2.1 dX7_mostMore_54 hl (by decide) rfl (fun ls hl => ?_)
        refine lv_goto (tgt := 14) F.1 F.2.1 dX7_mostMore_56 (by decide) ?_
        exact ih_14 (u_5, z_21) _ _ _ ⟨(show (z_21.toInt - u_5.toInt).toNat < n_14 from by omega), (wkb r_8 rfl rfl), (wkb hz_21.2 rfl rfl), (show u_5.toInt ≤ z_21.toInt from by omega), (show z_21.toInt ≤ a2.toInt ∨ z_21.toInt ≤ 0 from by omega), hH, hS, lv_sub hl [2, 3, 4, 5, 0] rfl⟩
      · skip
        have r_19 : 1 ≤ z_15.toInt ∧ z_15.toInt ≤ 1 := by have h9_ := f_16; omega
        refine lv_iload F.1 F.2.1 dX7_mostMore_43 (lv_at hl 0 rfl) ?_
        refine lv_istore (lv' := [(4, .int z_14), (6, .int z_14), (0, .ref a0), (1, .int a1), (3, .int a3), (5, .int u_6)]) F.1 F.2.1 dX7_mostMore_45 hl (by decide) rfl (fun ls hl => ?_)
        refine lv_goto (tgt := 56) F.1 F.2.1 dX7_mostMore_47 (by decide) ?_
        refine lv_goto (tgt := 14) F.1 F.2.1 dX7_mostMore_56 (by decide) ?_
        exact ih_14 (z_14, u_6) _ _ _ ⟨(show (u_6.toInt - z_14.toInt).toNat < n_14 from by omega), (wkb hz_14.2 rfl rfl), (wkb r_9 rfl rfl), (show z_14.toInt ≤ u_6.toInt from by omega), (show u_6.toInt ≤ a2.toInt ∨ u_6.toInt ≤ 0 from by omega), hH, hS, lv_sub hl [2, 3, 4, 0, 5] rfl⟩
  · skip
    have r_4 : (-2147483648) ≤ a2.toInt ∧ a2.toInt ≤ (-1) := by have h9_ := ha2; omega
    refine lv_iconst (v := 0) F.1 F.2.1 dX7_mostMore_7 (by decide) ?_
    refine topK (a := 0) (by decide) (fun k_22 hk_22 => ?_)
    refine lv_goto (tgt := 12) F.1 F.2.1 dX7_mostMore_8 (by decide) ?_
    refine lv_istore (lv' := [(5, .int k_22), (4, .int k_1), (0, .ref a0), (1, .int a1), (2, .int a2), (3, .int a3)]) F.1 F.2.1 dX7_mostMore_12 hl (by decide) rfl (fun ls hl => ?_)
    refine wloop (σ := Int32 × Int32) (fun n9 x9 H locs ls => (x9.2.toInt - x9.1.toInt).toNat < n9 ∧ (0 ≤ x9.1.toInt ∧ x9.1.toInt ≤ 9999) ∧ (0 ≤ x9.2.toInt ∧ x9.2.toInt ≤ 9999) ∧ (x9.1.toInt ≤ x9.2.toInt) ∧ (x9.2.toInt ≤ a2.toInt ∨ x9.2.toInt ≤ 0) ∧ TH E (tbM (mD (.inl tp) (.inl sp) (.inl nu) (.inl un) (.inl tk) (.inl xt) (.inl wrb) (.inl nab) (.inl iwb)) (xD 660 X0) ws kp as rd sc ty ik) H ∧ va_S (eA E s.heap.size) s.heap H locs ∧ lv_has ls 7 [(0, .ref a0), (1, .int a1), (3, .int a3), (4, .int x9.1), (5, .int x9.2)]) ?_ (fun x9 H locs ls h => absurd h.1 (Nat.not_lt_zero _)) _ (k_1, k_22) ⟨Nat.lt_succ_self _, (wkb (eqb hk_1) rfl rfl), (wkb (eqb hk_22) rfl rfl), (show k_1.toInt ≤ k_22.toInt from by omega), (show k_22.toInt ≤ a2.toInt ∨ k_22.toInt ≤ 0 from by omega), hH, hS, lv_sub hl [2, 3, 5, 1, 0] rfl⟩
    intro n_14 ih_14 ⟨u_23, u_24⟩ H locs ls ⟨hm_14, hu_23, hu_24, hcr14_0, hcr14_1, hH, hS, hl⟩
    have hm_14 : (u_24.toInt - u_23.toInt).toNat < n_14 + 1 := hm_14
    have hu_23 : (0 ≤ u_23.toInt ∧ u_23.toInt ≤ 9999) := hu_23
    have hu_24 : (0 ≤ u_24.toInt ∧ u_24.toInt ≤ 9999) := hu_24
    have hcr14_0 : (u_23.toInt ≤ u_24.toInt) := hcr14_0
    have hcr14_1 : (u_24.toInt ≤ a2.toInt ∨ u_24.toInt ≤ 0) := hcr14_1
    have hH : TH E (tbM (mD (.inl tp) (.inl sp) (.inl nu) (.inl un) (.inl tk) (.inl xt) (.inl wrb) (.inl nab) (.inl iwb)) (xD 660 X0) ws kp as rd sc ty ik) H := hH
    have hl : lv_has ls 7 [(0, .ref a0), (1, .int a1), (3, .int a3), (4, .int u_23), (5, .int u_24)] := hl
    refine lv_iload F.1 F.2.1 dX7_mostMore_14 (lv_at hl 3 rfl) ?_
    refine lv_iload F.1 F.2.1 dX7_mostMore_16 (lv_at hl 4 rfl) ?_
    refine b_ge (tgt := 59) F dX7_mostMore_18 (by decide) (fun c_25 => ?_) (fun c_25 => ?_)
    · skip
      refine lv_iload F.1 F.2.1 dX7_mostMore_59 (lv_at hl 3 rfl) ?_
      exact txI F hS dX7_mostMore_61 rfl (⟨hu_23, (by omega), hH⟩)
    · skip
      have r_26 : 0 ≤ u_23.toInt ∧ u_23.toInt ≤ 9998 := by have h9_ := hu_23; omega
      have r_27 : 1 ≤ u_24.toInt ∧ u_24.toInt ≤ 9999 := by have h9_ := hu_24; omega
      refine lv_iload F.1 F.2.1 dX7_mostMore_21 (lv_at hl 3 rfl) ?_
      refine lv_iload F.1 F.2.1 dX7_mostMore_23 (lv_at hl 4 rfl) ?_
      refine tAdd (lo := 1) (hi := 19997) F dX7_mostMore_25 r_26 r_27 rfl (fun z_28 hz_28 => ?_)
      refine lv_iconst (v := 1) F.1 F.2.1 dX7_mostMore_26 (by decide) ?_
      refine topK (a := 1) (by decide) (fun k_29 hk_29 => ?_)
      refine tAdd (lo := 2) (hi := 19998) F dX7_mostMore_27 hz_28.2 (eqb hk_29) rfl (fun z_30 hz_30 => ?_)
      refine lv_iconst (v := 2) F.1 F.2.1 dX7_mostMore_28 (by decide) ?_
      refine topK (a := 2) (by decide) (fun k_31 hk_31 => ?_)
      refine tDiv (k := 2) (lo := 1) (hi := 9999) F dX7_mostMore_29 hz_30.2 hk_31 rfl (fun z_32 hz_32 => ?_)
      refine lv_istore (lv' := [(6, .int z_32), (0, .ref a0), (1, .int a1), (3, .int a3), (4, .int u_23), (5, .int u_24)]) F.1 F.2.1 dX7_mostMore_30 hl (by decide) rfl (fun ls hl => ?_)
      refine lv_aload_n F.1 F.2.1 dX7_mostMore_32 rfl (lv_at hl 1 rfl) ?_
      refine lv_iload_n F.1 F.2.1 dX7_mostMore_33 rfl (lv_at hl 2 rfl) ?_
      refine lv_iload F.1 F.2.1 dX7_mostMore_34 (lv_at hl 0 rfl) ?_
      refine lv_iload_n F.1 F.2.1 dX7_mostMore_36 rfl (lv_at hl 3 rfl) ?_
      refine tVi (b := a0) (As := [.int a1, .int z_32, .int a3]) (rest := []) F hK hN hO (c_X7_canMore E ws kp as rd sc ty ik un tk xt tp sp wrb nu nab iwb X0 a0 a1 z_32 a3 ha0 ha1 ha3 hX0) mv_X7_canMore wd_27_22 ⟨Nat.le_of_ble_eq_true rfl, Nat.le_of_ble_eq_true rfl⟩ ⟨Nat.le_of_ble_eq_true rfl, Nat.le_of_ble_eq_true rfl⟩ hH hS (tRecv hK hH (tyb ha0 (all1 rfl)) clX7) rfl hl.1 (Nat.le_of_ble_eq_true rfl) dX7_mostMore_37 (fun z_33 H locs hq hS => ?_)
      obtain ⟨f_34, hH⟩ := hq
      have hH : TH E (tbM (mD (.inl tp) (.inl sp) (.inl nu) (.inl un) (.inl tk) (.inl xt) (.inl wrb) (.inl nab) (.inl iwb)) (xD 660 X0) ws kp as rd sc ty ik) H := hH
      refine z_eq (tgt := 50) F dX7_mostMore_40 (by decide) (fun c_35 => ?_) (fun c_35 => ?_)
      · skip
        have r_36 : 0 ≤ z_33.toInt ∧ z_33.toInt ≤ 0 := by have h9_ := f_34; omega
        refine lv_iload F.1 F.2.1 dX7_mostMore_50 (lv_at hl 0 rfl) ?_
        refine lv_iconst (v := 1) F.1 F.2.1 dX7_mostMore_52 (by decide) ?_
        refine topK (a := 1) (by decide) (fun k_38 hk_38 => ?_)
        refine tSub (lo := 0) (hi := 9998) F dX7_mostMore_53 hz_32.2 (eqb hk_38) rfl (fun z_39 hz_39 => ?_)
        refine lv_istore (lv' := [(5, .int z_39), (6, .int z_32), (0, .ref a0), (1, .int a1), (3, .int a3), (4, .int u_23)]) F.1 F.2.1 dX7_mostMore_54 hl (by decide) rfl (fun ls hl => ?_)
        refine lv_goto (tgt := 14) F.1 F.2.1 dX7_mostMore_56 (by decide) ?_
        exact ih_14 (u_23, z_39) _ _ _ ⟨(show (z_39.toInt - u_23.toInt).toNat < n_14 from by omega), (wkb r_26 rfl rfl), (wkb hz_39.2 rfl rfl), (show u_23.toInt ≤ z_39.toInt from by omega), (show z_39.toInt ≤ a2.toInt ∨ z_39.toInt ≤ 0 from by omega), hH, hS, lv_sub hl [2, 3, 4, 5, 0] rfl⟩
      · skip
        have r_37 : 1 ≤ z_33.toInt ∧ z_33.toInt ≤ 1 := by have h9_ := f_34; omega
        refine lv_iload F.1 F.2.1 dX7_mostMore_43 (lv_at hl 0 rfl) ?_
        refine lv_istore (lv' := [(4, .int z_32), (6, .int z_32), (0, .ref a0), (1, .int a1), (3, .int a3), (5, .int u_24)]) F.1 F.2.1 dX7_mostMore_45 hl (by decide) rfl (fun ls hl => ?_)
        refine lv_goto (tgt := 56) F.1 F.2.1 dX7_mostMore_47 (by decide) ?_
        refine lv_goto (tgt := 14) F.1 F.2.1 dX7_mostMore_56 (by decide) ?_
        exact ih_14 (z_32, u_24) _ _ _ ⟨(show (u_24.toInt - z_32.toInt).toNat < n_14 from by omega), (wkb hz_32.2 rfl rfl), (wkb r_27 rfl rfl), (show z_32.toInt ≤ u_24.toInt from by omega), (show u_24.toInt ≤ a2.toInt ∨ u_24.toInt ≤ 0 from by omega), hH, hS, lv_sub hl [2, 3, 4, 0, 5] rfl⟩
set_option maxHeartbeats 4000000 in
set_option maxRecDepth 100000 in
theorem c_X7_clears (E : Ev) (nw : TD) (ws : TD) (kp : TD) (as : TD) (rd : TD) (ty : TD) (ik : TD) (un : Int × Int) (tk : Int × Int) (xt : Int × Int) (tp : Int × Int) (sp : Int × Int) (wrb : Int × Int) (nu : Int × Int) (nab : Int × Int) (iwb : Int × Int) (a0 : Nat) (ha0 : eT E a0 ∈ [24]) : TcV E yX7_clears cX7_clears 2 ({ frames := 1, cells := 0, slots := 0, locals := 40 }) [.ref a0] (fun H => TH E (tbM (mD (.inl tp) (.inl sp) (.inl nu) (.inl un) (.inl tk) (.inl xt) (.inl wrb) (.inl nab) (.inl iwb)) nw ws kp as rd m_second ty ik) H) (fun H => TH E (tbM (mD (.inl tp) (.inl sp) (.inl nu) (.inl un) (.inl tk) (.inl xt) (.inl wrb) (.inl nab) (.inl iwb)) nw ws kp as rd m_second ty ik) H) := by
  refine teV (by decide) (Nat.le_of_ble_eq_true rfl) ?_
  intro p_ ev_ s mi_ below_ meth cd_ ls F hK hN hO hH hS hl
  have hH : TH E (tbM (mD (.inl tp) (.inl sp) (.inl nu) (.inl un) (.inl tk) (.inl xt) (.inl wrb) (.inl nab) (.inl iwb)) nw ws kp as rd m_second ty ik) s.heap := hH
  have hl : lv_has ls 2 [(0, .ref a0)] := hl
  refine lv_iconst (v := 0) F.1 F.2.1 dX7_clears_0 (by decide) ?_
  refine topK (a := 0) (by decide) (fun k_1 hk_1 => ?_)
  refine lv_istore_n (lv' := [(1, .int k_1), (0, .ref a0)]) F.1 F.2.1 dX7_clears_1 rfl hl (by decide) rfl (fun ls hl => ?_)
  refine wloop (σ := Int32) (fun n9 x9 H locs ls => (12 - x9.toInt + 1).toNat < n9 ∧ (0 ≤ x9.toInt ∧ x9.toInt ≤ 12) ∧ TH E (tbM (mD (.inl tp) (.inl sp) (.inl nu) (.inl un) (.inl tk) (.inl xt) (.inl wrb) (.inl nab) (.inl iwb)) nw ws kp as rd m_second ty ik) H ∧ va_S (eA E s.heap.size) s.heap H locs ∧ lv_has ls 2 [(0, .ref a0), (1, .int x9)]) ?_ (fun x9 H locs ls h => absurd h.1 (Nat.not_lt_zero _)) _ (k_1) ⟨Nat.lt_succ_self _, (wkb (eqb hk_1) rfl rfl), hH, hS, lv_sub hl [1, 0] rfl⟩
  intro n_2 ih_2 u_2 H locs ls ⟨hm_2, hu_2, hH, hS, hl⟩
  have hm_2 : (12 - u_2.toInt + 1).toNat < n_2 + 1 := hm_2
  have hu_2 : (0 ≤ u_2.toInt ∧ u_2.toInt ≤ 12) := hu_2
  have hH : TH E (tbM (mD (.inl tp) (.inl sp) (.inl nu) (.inl un) (.inl tk) (.inl xt) (.inl wrb) (.inl nab) (.inl iwb)) nw ws kp as rd m_second ty ik) H := hH
  have hl : lv_has ls 2 [(0, .ref a0), (1, .int u_2)] := hl
  refine lv_iload_n F.1 F.2.1 dX7_clears_2 rfl (lv_at hl 1 rfl) ?_
  refine lv_bipush (v := 12) F.1 F.2.1 dX7_clears_3 (by decide) ?_
  refine topK (a := 12) (by decide) (fun k_3 hk_3 => ?_)
  refine b_ge (tgt := 28) F dX7_clears_5 (by decide) (fun c_4 => ?_) (fun c_4 => ?_)
  · skip
    have r_5 : 12 ≤ u_2.toInt ∧ u_2.toInt ≤ 12 := by have h9_ := hu_2; omega
    refine lv_iconst (v := 0) F.1 F.2.1 dX7_clears_28 (by decide) ?_
    refine topK (a := 0) (by decide) (fun k_7 hk_7 => ?_)
    refine lv_istore_n (lv' := [(1, .int k_7), (0, .ref a0)]) F.1 F.2.1 dX7_clears_29 rfl hl (by decide) rfl (fun ls hl => ?_)
    refine wloop (σ := Int32) (fun n9 x9 H locs ls => (18 - x9.toInt + 1).toNat < n9 ∧ (0 ≤ x9.toInt ∧ x9.toInt ≤ 18) ∧ TH E (tbM (mD (.inl tp) (.inl sp) (.inl nu) (.inl un) (.inl tk) (.inl xt) (.inl wrb) (.inl nab) (.inl iwb)) nw ws kp as rd m_second ty ik) H ∧ va_S (eA E s.heap.size) s.heap H locs ∧ lv_has ls 2 [(0, .ref a0), (1, .int x9)]) ?_ (fun x9 H locs ls h => absurd h.1 (Nat.not_lt_zero _)) _ (k_7) ⟨Nat.lt_succ_self _, (wkb (eqb hk_7) rfl rfl), hH, hS, lv_sub hl [1, 0] rfl⟩
    intro n_30 ih_30 u_8 H locs ls ⟨hm_30, hu_8, hH, hS, hl⟩
    have hm_30 : (18 - u_8.toInt + 1).toNat < n_30 + 1 := hm_30
    have hu_8 : (0 ≤ u_8.toInt ∧ u_8.toInt ≤ 18) := hu_8
    have hH : TH E (tbM (mD (.inl tp) (.inl sp) (.inl nu) (.inl un) (.inl tk) (.inl xt) (.inl wrb) (.inl nab) (.inl iwb)) nw ws kp as rd m_second ty ik) H := hH
    have hl : lv_has ls 2 [(0, .ref a0), (1, .int u_8)] := hl
    refine lv_iload_n F.1 F.2.1 dX7_clears_30 rfl (lv_at hl 1 rfl) ?_
    refine lv_bipush (v := 18) F.1 F.2.1 dX7_clears_31 (by decide) ?_
    refine topK (a := 18) (by decide) (fun k_9 hk_9 => ?_)
    refine b_ge (tgt := 49) F dX7_clears_33 (by decide) (fun c_10 => ?_) (fun c_10 => ?_)
    · skip
      have r_11 : 18 ≤ u_8.toInt ∧ u_8.toInt ≤ 18 := by have h9_ := hu_8; omega
      refine lv_iconst (v := 0) F.1 F.2.1 dX7_clears_49 (by decide) ?_
      refine topK (a := 0) (by decide) (fun k_13 hk_13 => ?_)
      refine lv_istore_n (lv' := [(1, .int k_13), (0, .ref a0)]) F.1 F.2.1 dX7_clears_50 rfl hl (by decide) rfl (fun ls hl => ?_)
      refine wloop (σ := Int32) (fun n9 x9 H locs ls => (14 - x9.toInt + 1).toNat < n9 ∧ (0 ≤ x9.toInt ∧ x9.toInt ≤ 14) ∧ TH E (tbM (mD (.inl tp) (.inl sp) (.inl nu) (.inl un) (.inl tk) (.inl xt) (.inl wrb) (.inl nab) (.inl iwb)) nw ws kp as rd m_second ty ik) H ∧ va_S (eA E s.heap.size) s.heap H locs ∧ lv_has ls 2 [(0, .ref a0), (1, .int x9)]) ?_ (fun x9 H locs ls h => absurd h.1 (Nat.not_lt_zero _)) _ (k_13) ⟨Nat.lt_succ_self _, (wkb (eqb hk_13) rfl rfl), hH, hS, lv_sub hl [1, 0] rfl⟩
      intro n_51 ih_51 u_14 H locs ls ⟨hm_51, hu_14, hH, hS, hl⟩
      have hm_51 : (14 - u_14.toInt + 1).toNat < n_51 + 1 := hm_51
      have hu_14 : (0 ≤ u_14.toInt ∧ u_14.toInt ≤ 14) := hu_14
      have hH : TH E (tbM (mD (.inl tp) (.inl sp) (.inl nu) (.inl un) (.inl tk) (.inl xt) (.inl wrb) (.inl nab) (.inl iwb)) nw ws kp as rd m_second ty ik) H := hH
      have hl : lv_has ls 2 [(0, .ref a0), (1, .int u_14)] := hl
      refine lv_iload_n F.1 F.2.1 dX7_clears_51 rfl (lv_at hl 1 rfl) ?_
      refine lv_bipush (v := 14) F.1 F.2.1 dX7_clears_52 (by decide) ?_
      refine topK (a := 14) (by decide) (fun k_15 hk_15 => ?_)
      refine b_ge (tgt := 77) F dX7_clears_54 (by decide) (fun c_16 => ?_) (fun c_16 => ?_)
      · skip
        have r_17 : 14 ≤ u_14.toInt ∧ u_14.toInt ≤ 14 := by have h9_ := hu_14; omega
        refine lv_iconst (v := 0) F.1 F.2.1 dX7_clears_77 (by decide) ?_
        refine topK (a := 0) (by decide) (fun k_19 hk_19 => ?_)
        refine lv_istore_n (lv' := [(1, .int k_19), (0, .ref a0)]) F.1 F.2.1 dX7_clears_78 rfl hl (by decide) rfl (fun ls hl => ?_)
        refine wloop (σ := Int32) (fun n9 x9 H locs ls => (4 - x9.toInt + 1).toNat < n9 ∧ (0 ≤ x9.toInt ∧ x9.toInt ≤ 4) ∧ TH E (tbM (mD (.inl tp) (.inl sp) (.inl nu) (.inl un) (.inl tk) (.inl xt) (.inl wrb) (.inl nab) (.inl iwb)) nw ws kp as rd m_second ty ik) H ∧ va_S (eA E s.heap.size) s.heap H locs ∧ lv_has ls 2 [(0, .ref a0), (1, .int x9)]) ?_ (fun x9 H locs ls h => absurd h.1 (Nat.not_lt_zero _)) _ (k_19) ⟨Nat.lt_succ_self _, (wkb (eqb hk_19) rfl rfl), hH, hS, lv_sub hl [1, 0] rfl⟩
        intro n_79 ih_79 u_20 H locs ls ⟨hm_79, hu_20, hH, hS, hl⟩
        have hm_79 : (4 - u_20.toInt + 1).toNat < n_79 + 1 := hm_79
        have hu_20 : (0 ≤ u_20.toInt ∧ u_20.toInt ≤ 4) := hu_20
        have hH : TH E (tbM (mD (.inl tp) (.inl sp) (.inl nu) (.inl un) (.inl tk) (.inl xt) (.inl wrb) (.inl nab) (.inl iwb)) nw ws kp as rd m_second ty ik) H := hH
        have hl : lv_has ls 2 [(0, .ref a0), (1, .int u_20)] := hl
        refine lv_iload_n F.1 F.2.1 dX7_clears_79 rfl (lv_at hl 1 rfl) ?_
        refine lv_iconst (v := 4) F.1 F.2.1 dX7_clears_80 (by decide) ?_
        refine topK (a := 4) (by decide) (fun k_21 hk_21 => ?_)
        refine b_ge (tgt := 104) F dX7_clears_81 (by decide) (fun c_22 => ?_) (fun c_22 => ?_)
        · skip
          have r_23 : 4 ≤ u_20.toInt ∧ u_20.toInt ≤ 4 := by have h9_ := hu_20; omega
          exact txV F hS dX7_clears_104 (hH)
        · skip
          have r_24 : 0 ≤ u_20.toInt ∧ u_20.toInt ≤ 3 := by have h9_ := hu_20; omega
          refine lv_aload_n F.1 F.2.1 dX7_clears_84 rfl (lv_at hl 0 rfl) ?_
          refine tGetR (j := 21) F hK hH (tyb ha0 (all1 rfl)) rfl (all1 rfl) clX7 (by decide) wd_7_0 dX7_clears_85 (fun q_25 hq_25 _ => ?_)
          refine lv_iload_n F.1 F.2.1 dX7_clears_88 rfl (lv_at hl 1 rfl) ?_
          refine lv_iconst (v := 0) F.1 F.2.1 dX7_clears_89 (by decide) ?_
          refine topK (a := 0) (by decide) (fun k_26 hk_26 => ?_)
          refine tIastB F hK hH hS (tyb hq_25 (all1 rfl)) (ixb (n := 4) r_24 rfl rfl) (wkb (eqb hk_26) rfl rfl) dX7_clears_90 (fun H locs hH hS => ?_)
          refine lv_aload_n F.1 F.2.1 dX7_clears_91 rfl (lv_at hl 0 rfl) ?_
          refine tGetR (j := 22) F hK hH (tyb ha0 (all1 rfl)) rfl (all1 rfl) clX7 (by decide) wd_7_1 dX7_clears_92 (fun q_27 hq_27 _ => ?_)
          refine lv_iload_n F.1 F.2.1 dX7_clears_95 rfl (lv_at hl 1 rfl) ?_
          refine lv_iconst (v := 0) F.1 F.2.1 dX7_clears_96 (by decide) ?_
          refine topK (a := 0) (by decide) (fun k_28 hk_28 => ?_)
          refine tIastB F hK hH hS (tyb hq_27 (all1 rfl)) (ixb (n := 4) r_24 rfl rfl) (wkb (eqb hk_28) rfl rfl) dX7_clears_97 (fun H locs hH hS => ?_)
          obtain ⟨x_29, ex_29, hx_29⟩ := iincB (c := 1) (lo := 1) (hi := 4) r_24 rfl
          refine lv_iinc (v := x_29) (lv' := [(1, .int x_29), (0, .ref a0)]) F.1 F.2.1 dX7_clears_98 hl (k := 1) rfl ex_29 (by decide) rfl (fun ls hl => ?_)
          refine lv_goto (tgt := 79) F.1 F.2.1 dX7_clears_101 (by decide) ?_
          exact ih_79 (x_29) _ _ _ ⟨(show (4 - x_29.toInt + 1).toNat < n_79 from by omega), (wkb hx_29.2 rfl rfl), hH, hS, lv_sub hl [1, 0] rfl⟩
      · skip
        have r_18 : 0 ≤ u_14.toInt ∧ u_14.toInt ≤ 13 := by have h9_ := hu_14; omega
        refine lv_aload_n F.1 F.2.1 dX7_clears_57 rfl (lv_at hl 0 rfl) ?_
        refine tGetR (j := 19) F hK hH (tyb ha0 (all1 rfl)) rfl (all1 rfl) clX7 (by decide) wd_6_22 dX7_clears_58 (fun q_30 hq_30 _ => ?_)
        refine lv_iload_n F.1 F.2.1 dX7_clears_61 rfl (lv_at hl 1 rfl) ?_
        refine lv_iconst (v := 0) F.1 F.2.1 dX7_clears_62 (by decide) ?_
        refine topK (a := 0) (by decide) (fun k_31 hk_31 => ?_)
        refine tIastB F hK hH hS (tyb hq_30 (all1 rfl)) (ixb (n := 14) r_18 rfl rfl) (wkb (eqb hk_31) rfl rfl) dX7_clears_63 (fun H locs hH hS => ?_)
        refine lv_aload_n F.1 F.2.1 dX7_clears_64 rfl (lv_at hl 0 rfl) ?_
        refine tGetR (j := 20) F hK hH (tyb ha0 (all1 rfl)) rfl (all1 rfl) clX7 (by decide) wd_6_23 dX7_clears_65 (fun q_32 hq_32 _ => ?_)
        refine lv_iload_n F.1 F.2.1 dX7_clears_68 rfl (lv_at hl 1 rfl) ?_
        refine lv_iconst (v := 0) F.1 F.2.1 dX7_clears_69 (by decide) ?_
        refine topK (a := 0) (by decide) (fun k_33 hk_33 => ?_)
        refine tIastB F hK hH hS (tyb hq_32 (all1 rfl)) (ixb (n := 14) r_18 rfl rfl) (wkb (eqb hk_33) rfl rfl) dX7_clears_70 (fun H locs hH hS => ?_)
        obtain ⟨x_34, ex_34, hx_34⟩ := iincB (c := 1) (lo := 1) (hi := 14) r_18 rfl
        refine lv_iinc (v := x_34) (lv' := [(1, .int x_34), (0, .ref a0)]) F.1 F.2.1 dX7_clears_71 hl (k := 1) rfl ex_34 (by decide) rfl (fun ls hl => ?_)
        refine lv_goto (tgt := 51) F.1 F.2.1 dX7_clears_74 (by decide) ?_
        exact ih_51 (x_34) _ _ _ ⟨(show (14 - x_34.toInt + 1).toNat < n_51 from by omega), (wkb hx_34.2 rfl rfl), hH, hS, lv_sub hl [1, 0] rfl⟩
    · skip
      have r_12 : 0 ≤ u_8.toInt ∧ u_8.toInt ≤ 17 := by have h9_ := hu_8; omega
      refine lv_aload_n F.1 F.2.1 dX7_clears_36 rfl (lv_at hl 0 rfl) ?_
      refine tGetR (j := 18) F hK hH (tyb ha0 (all1 rfl)) rfl (all1 rfl) clX7 (by decide) wd_6_21 dX7_clears_37 (fun q_35 hq_35 _ => ?_)
      refine lv_iload_n F.1 F.2.1 dX7_clears_40 rfl (lv_at hl 1 rfl) ?_
      refine lv_iconst (v := 0) F.1 F.2.1 dX7_clears_41 (by decide) ?_
      refine topK (a := 0) (by decide) (fun k_36 hk_36 => ?_)
      refine tIastB F hK hH hS (tyb hq_35 (all1 rfl)) (ixb (n := 18) r_12 rfl rfl) (wkb (eqb hk_36) rfl rfl) dX7_clears_42 (fun H locs hH hS => ?_)
      obtain ⟨x_37, ex_37, hx_37⟩ := iincB (c := 1) (lo := 1) (hi := 18) r_12 rfl
      refine lv_iinc (v := x_37) (lv' := [(1, .int x_37), (0, .ref a0)]) F.1 F.2.1 dX7_clears_43 hl (k := 1) rfl ex_37 (by decide) rfl (fun ls hl => ?_)
      refine lv_goto (tgt := 30) F.1 F.2.1 dX7_clears_46 (by decide) ?_
      exact ih_30 (x_37) _ _ _ ⟨(show (18 - x_37.toInt + 1).toNat < n_30 from by omega), (wkb hx_37.2 rfl rfl), hH, hS, lv_sub hl [1, 0] rfl⟩
  · skip
    have r_6 : 0 ≤ u_2.toInt ∧ u_2.toInt ≤ 11 := by have h9_ := hu_2; omega
    refine lv_aload_n F.1 F.2.1 dX7_clears_8 rfl (lv_at hl 0 rfl) ?_
    refine tGetR (j := 12) F hK hH (tyb ha0 (all1 rfl)) rfl (all1 rfl) clX7 (by decide) wd_6_16 dX7_clears_9 (fun q_38 hq_38 _ => ?_)
    refine lv_iload_n F.1 F.2.1 dX7_clears_12 rfl (lv_at hl 1 rfl) ?_
    refine lv_iconst (v := 0) F.1 F.2.1 dX7_clears_13 (by decide) ?_
    refine topK (a := 0) (by decide) (fun k_39 hk_39 => ?_)
    refine tIastB F hK hH hS (tyb hq_38 (all1 rfl)) (ixb (n := 12) r_6 rfl rfl) (wkb (eqb hk_39) rfl rfl) dX7_clears_14 (fun H locs hH hS => ?_)
    refine lv_aload_n F.1 F.2.1 dX7_clears_15 rfl (lv_at hl 0 rfl) ?_
    refine tGetR (j := 13) F hK hH (tyb ha0 (all1 rfl)) rfl (all1 rfl) clX7 (by decide) wd_6_17 dX7_clears_16 (fun q_40 hq_40 _ => ?_)
    refine lv_iload_n F.1 F.2.1 dX7_clears_19 rfl (lv_at hl 1 rfl) ?_
    refine lv_iconst (v := 0) F.1 F.2.1 dX7_clears_20 (by decide) ?_
    refine topK (a := 0) (by decide) (fun k_41 hk_41 => ?_)
    refine tIastB F hK hH hS (tyb hq_40 (all1 rfl)) (ixb (n := 12) r_6 rfl rfl) (wkb (eqb hk_41) rfl rfl) dX7_clears_21 (fun H locs hH hS => ?_)
    obtain ⟨x_42, ex_42, hx_42⟩ := iincB (c := 1) (lo := 1) (hi := 12) r_6 rfl
    refine lv_iinc (v := x_42) (lv' := [(1, .int x_42), (0, .ref a0)]) F.1 F.2.1 dX7_clears_22 hl (k := 1) rfl ex_42 (by decide) rfl (fun ls hl => ?_)
    refine lv_goto (tgt := 2) F.1 F.2.1 dX7_clears_25 (by decide) ?_
    exact ih_2 (x_42) _ _ _ ⟨(show (12 - x_42.toInt + 1).toNat < n_2 from by omega), (wkb hx_42.2 rfl rfl), hH, hS, lv_sub hl [1, 0] rfl⟩
set_option maxHeartbeats 4000000 in
set_option maxRecDepth 100000 in
theorem c_X7_takesFirst (E : Ev) (ws : TD) (kp : TD) (as : TD) (rd : TD) (ty : TD) (ik : TD) (un : Int × Int) (xt : Int × Int) (tp : Int × Int) (sp : Int × Int) (wrb : Int × Int) (nu : Int × Int) (nab : Int × Int) (iwb : Int × Int) (X0 : Nat → Int32) (a0 : Nat) (a1 : Int32) (ha0 : eT E a0 ∈ [24]) (hX0 : okR X0) : TcV E yX7_takesFirst cX7_takesFirst 4 ({ frames := 6, cells := 0, slots := 0, locals := 156 }) [.ref a0, .int a1] (fun H => TH E (tbM (mD (.inl tp) (.inl sp) (.inl nu) (.inl un) (.inl (0, 18)) (.inl xt) (.inl wrb) (.inl nab) (.inl iwb)) (xD 660 X0) ws kp as rd m_second ty ik) H) (fun H => TH E (tbM (mD (.inl tp) (.inl sp) (.inl nu) (.inl un) (.inl (0, 18)) (.inl xt) (.inl wrb) (.inl nab) (.inl iwb)) (xD 660 X0) ws kp as rd m_second ty ik) H) := by
  refine teV (by decide) (Nat.le_of_ble_eq_true rfl) ?_
  intro p_ ev_ s mi_ below_ meth cd_ ls F hK hN hO hH hS hl
  have hH : TH E (tbM (mD (.inl tp) (.inl sp) (.inl nu) (.inl un) (.inl (0, 18)) (.inl xt) (.inl wrb) (.inl nab) (.inl iwb)) (xD 660 X0) ws kp as rd m_second ty ik) s.heap := hH
  have hl : lv_has ls 4 [(0, .ref a0), (1, .int a1)] := hl
  have hBX0 := okB hX0.1
  have hLX0 := hX0.2
  refine lv_aload_n F.1 F.2.1 dX7_takesFirst_0 rfl (lv_at hl 0 rfl) ?_
  refine tVv (b := a0) (As := []) (rest := []) F hK hN hO (c_X7_clears E (xD 660 X0) ws kp as rd ty ik un (0, 18) xt tp sp wrb nu nab iwb a0 ha0) mv_X7_clears wd_26_0 ⟨Nat.le_of_ble_eq_true rfl, Nat.le_of_ble_eq_true rfl⟩ ⟨Nat.le_of_ble_eq_true rfl, Nat.le_of_ble_eq_true rfl⟩ hH hS (tRecv hK hH (tyb ha0 (all1 rfl)) clX7) rfl hl.1 (Nat.le_of_ble_eq_true rfl) dX7_takesFirst_1 (fun H locs hq hS => ?_)
  have hH := hq
  have hH : TH E (tbM (mD (.inl tp) (.inl sp) (.inl nu) (.inl un) (.inl (0, 18)) (.inl xt) (.inl wrb) (.inl nab) (.inl iwb)) (xD 660 X0) ws kp as rd m_second ty ik) H := hH
  refine lv_aload_n F.1 F.2.1 dX7_takesFirst_4 rfl (lv_at hl 0 rfl) ?_
  refine tVv (b := a0) (As := []) (rest := []) F hK hN hO (c_X7_laysOrder E ws kp as rd m_second ty ik un xt tp sp wrb nu nab iwb X0 a0 ha0 hX0) mv_X7_laysOrder wd_26_4 ⟨Nat.le_of_ble_eq_true rfl, Nat.le_of_ble_eq_true rfl⟩ ⟨Nat.le_of_ble_eq_true rfl, Nat.le_of_ble_eq_true rfl⟩ hH hS (tRecv hK hH (tyb ha0 (all1 rfl)) clX7) rfl hl.1 (Nat.le_of_ble_eq_true rfl) dX7_takesFirst_5 (fun H locs hq hS => ?_)
  have hH := hq
  have hH : TH E (tbM (mD (.inl tp) (.inl sp) (.inl nu) (.inl un) (.inl (0, 18)) (.inl xt) (.inl wrb) (.inl nab) (.inl iwb)) (xD 660 X0) ws kp as rd m_second ty ik) H := hH
  refine lv_iconst (v := 0) F.1 F.2.1 dX7_takesFirst_8 (by decide) ?_
  refine topK (a := 0) (by decide) (fun k_3 hk_3 => ?_)
  refine lv_istore_n (lv' := [(2, .int k_3), (0, .ref a0), (1, .int a1)]) F.1 F.2.1 dX7_takesFirst_9 rfl hl (by decide) rfl (fun ls hl => ?_)
  refine wloop (σ := Int32) (fun n9 x9 H locs ls => (18 - x9.toInt + 1).toNat < n9 ∧ (0 ≤ x9.toInt ∧ x9.toInt ≤ 18) ∧ TH E (tbM (mD (.inl tp) (.inl sp) (.inl nu) (.inl un) (.inl (0, 18)) (.inl xt) (.inl wrb) (.inl nab) (.inl iwb)) (xD 660 X0) ws kp as rd m_second ty ik) H ∧ va_S (eA E s.heap.size) s.heap H locs ∧ lv_has ls 4 [(0, .ref a0), (1, .int a1), (2, .int x9)]) ?_ (fun x9 H locs ls h => absurd h.1 (Nat.not_lt_zero _)) _ (k_3) ⟨Nat.lt_succ_self _, (wkb (eqb hk_3) rfl rfl), hH, hS, lv_sub hl [1, 2, 0] rfl⟩
  intro n_10 ih_10 u_4 H locs ls ⟨hm_10, hu_4, hH, hS, hl⟩
  have hm_10 : (18 - u_4.toInt + 1).toNat < n_10 + 1 := hm_10
  have hu_4 : (0 ≤ u_4.toInt ∧ u_4.toInt ≤ 18) := hu_4
  have hH : TH E (tbM (mD (.inl tp) (.inl sp) (.inl nu) (.inl un) (.inl (0, 18)) (.inl xt) (.inl wrb) (.inl nab) (.inl iwb)) (xD 660 X0) ws kp as rd m_second ty ik) H := hH
  have hl : lv_has ls 4 [(0, .ref a0), (1, .int a1), (2, .int u_4)] := hl
  refine lv_iload_n F.1 F.2.1 dX7_takesFirst_10 rfl (lv_at hl 2 rfl) ?_
  refine lv_aload_n F.1 F.2.1 dX7_takesFirst_11 rfl (lv_at hl 0 rfl) ?_
  refine tGetI (j := 11) F hK hH (tyb ha0 (all1 rfl)) rfl clX7 (by decide) wd_25_23 dX7_takesFirst_12 (fun z_5 hz_5 => ?_)
  refine b_ge (tgt := 82) F dX7_takesFirst_15 (by decide) (fun c_6 => ?_) (fun c_6 => ?_)
  · skip
    exact txV F hS dX7_takesFirst_82 (hH)
  · skip
    have r_7 : 0 ≤ u_4.toInt ∧ u_4.toInt ≤ 17 := by have h9_ := hu_4; omega
    have r_8 : 1 ≤ z_5.toInt ∧ z_5.toInt ≤ 18 := by have h9_ := hz_5; omega
    refine lv_aload_n F.1 F.2.1 dX7_takesFirst_18 rfl (lv_at hl 0 rfl) ?_
    refine tGetR (j := 10) F hK hH (tyb ha0 (all1 rfl)) rfl (all1 rfl) clX7 (by decide) wd_6_15 dX7_takesFirst_19 (fun q_9 hq_9 _ => ?_)
    refine lv_iload_n F.1 F.2.1 dX7_takesFirst_22 rfl (lv_at hl 2 rfl) ?_
    refine tIaldB F hK hH (tyb hq_9 (all1 rfl)) (ixb (n := 18) r_7 rfl rfl) dX7_takesFirst_23 (fun z_10 hz_10 => ?_)
    refine lv_istore_n (lv' := [(3, .int z_10), (0, .ref a0), (1, .int a1), (2, .int u_4)]) F.1 F.2.1 dX7_takesFirst_24 rfl hl (by decide) rfl (fun ls hl => ?_)
    refine lv_iload_n F.1 F.2.1 dX7_takesFirst_25 rfl (lv_at hl 2 rfl) ?_
    refine lv_iload_n F.1 F.2.1 dX7_takesFirst_26 rfl (lv_at hl 0 rfl) ?_
    refine tSi (As := [.int a1, .int z_10]) (rest := []) F hK hN hO (c_X7_has E (mD (.inl tp) (.inl sp) (.inl nu) (.inl un) (.inl (0, 18)) (.inl xt) (.inl wrb) (.inl nab) (.inl iwb)) (xD 660 X0) ws kp as rd m_second ty ik a1 z_10) ms_X7_has wd_27_4 ⟨Nat.le_of_ble_eq_true rfl, Nat.le_of_ble_eq_true rfl⟩ ⟨Nat.le_of_ble_eq_true rfl, Nat.le_of_ble_eq_true rfl⟩ hH hS rfl hl.1 (Nat.le_of_ble_eq_true rfl) dX7_takesFirst_27 (fun z_11 H locs hq hS => ?_)
    obtain ⟨f_12, hH⟩ := hq
    have hH : TH E (tbM (mD (.inl tp) (.inl sp) (.inl nu) (.inl un) (.inl (0, 18)) (.inl xt) (.inl wrb) (.inl nab) (.inl iwb)) (xD 660 X0) ws kp as rd m_second ty ik) H := hH
    refine z_eq (tgt := 36) F dX7_takesFirst_30 (by decide) (fun c_13 => ?_) (fun c_13 => ?_)
    · skip
      have r_14 : 0 ≤ z_11.toInt ∧ z_11.toInt ≤ 0 := by have h9_ := f_12; omega
      refine lv_aload_n F.1 F.2.1 dX7_takesFirst_36 rfl (lv_at hl 1 rfl) ?_
      refine tGetR (j := 18) F hK hH (tyb ha0 (all1 rfl)) rfl (all1 rfl) clX7 (by decide) wd_6_21 dX7_takesFirst_37 (fun q_16 hq_16 _ => ?_)
      refine lv_iload_n F.1 F.2.1 dX7_takesFirst_40 rfl (lv_at hl 0 rfl) ?_
      refine lv_aload_n F.1 F.2.1 dX7_takesFirst_41 rfl (lv_at hl 1 rfl) ?_
      refine lv_aload_n F.1 F.2.1 dX7_takesFirst_42 rfl (lv_at hl 1 rfl) ?_
      refine lv_iload_n F.1 F.2.1 dX7_takesFirst_43 rfl (lv_at hl 0 rfl) ?_
      refine tVi (b := a0) (As := [.int z_10]) (rest := [.ref a0, .int z_10, .ref q_16]) F hK hN hO (c_X7_atOf E ws kp as rd m_second ty ik un (0, 18) xt tp sp wrb nu nab iwb X0 a0 z_10 ha0 hz_10 hX0) mv_X7_atOf wd_27_7 ⟨Nat.le_of_ble_eq_true rfl, Nat.le_of_ble_eq_true rfl⟩ ⟨Nat.le_of_ble_eq_true rfl, Nat.le_of_ble_eq_true rfl⟩ hH hS (tRecv hK hH (tyb ha0 (all1 rfl)) clX7) rfl hl.1 (Nat.le_of_ble_eq_true rfl) dX7_takesFirst_44 (fun z_17 H locs hq hS => ?_)
      obtain ⟨f_18, hH⟩ := hq
      have hH : TH E (tbM (mD (.inl tp) (.inl sp) (.inl nu) (.inl un) (.inl (0, 18)) (.inl xt) (.inl wrb) (.inl nab) (.inl iwb)) (xD 660 X0) ws kp as rd m_second ty ik) H := hH
      refine lv_aload_n F.1 F.2.1 dX7_takesFirst_47 rfl (lv_at hl 1 rfl) ?_
      refine lv_iload_n F.1 F.2.1 dX7_takesFirst_48 rfl (lv_at hl 0 rfl) ?_
      refine tVi (b := a0) (As := [.int z_10]) (rest := [.int z_17, .ref a0, .int z_10, .ref q_16]) F hK hN hO (c_X7_wantsOf_a E ws kp as rd m_second ty ik un (0, 18) xt tp sp wrb nu nab iwb X0 a0 z_10 ha0 hz_10 hX0) mv_X7_wantsOf wd_27_11 ⟨Nat.le_of_ble_eq_true rfl, Nat.le_of_ble_eq_true rfl⟩ ⟨Nat.le_of_ble_eq_true rfl, Nat.le_of_ble_eq_true rfl⟩ hH hS (tRecv hK hH (tyb ha0 (all1 rfl)) clX7) rfl hl.1 (Nat.le_of_ble_eq_true rfl) dX7_takesFirst_49 (fun z_19 H locs hq hS => ?_)
      obtain ⟨f_20, hH⟩ := hq
      have hH : TH E (tbM (mD (.inl tp) (.inl sp) (.inl nu) (.inl un) (.inl (0, 18)) (.inl xt) (.inl wrb) (.inl nab) (.inl iwb)) (xD 660 X0) ws kp as rd m_second ty ik) H := hH
      refine lv_iconst (v := (-1)) F.1 F.2.1 dX7_takesFirst_52 (by decide) ?_
      refine topK (a := (-1)) (by decide) (fun k_21 hk_21 => ?_)
      refine tVi (b := a0) (As := [.int z_17, .int z_19, .int k_21]) (rest := [.int z_10, .ref q_16]) F hK hN hO (c_X7_mostMore E ws kp as rd m_second ty ik un (0, 18) xt tp sp wrb nu nab iwb X0 a0 z_17 z_19 k_21 ha0 f_18 f_20 (wkb (eqb hk_21) rfl rfl) hX0) mv_X7_mostMore wd_27_18 ⟨Nat.le_of_ble_eq_true rfl, Nat.le_of_ble_eq_true rfl⟩ ⟨Nat.le_of_ble_eq_true rfl, Nat.le_of_ble_eq_true rfl⟩ hH hS (tRecv hK hH (tyb ha0 (all1 rfl)) clX7) rfl hl.1 (Nat.le_of_ble_eq_true rfl) dX7_takesFirst_53 (fun z_22 H locs hq hS => ?_)
      obtain ⟨f_23, f_24, hH⟩ := hq
      have hH : TH E (tbM (mD (.inl tp) (.inl sp) (.inl nu) (.inl un) (.inl (0, 18)) (.inl xt) (.inl wrb) (.inl nab) (.inl iwb)) (xD 660 X0) ws kp as rd m_second ty ik) H := hH
      refine tIastB F hK hH hS (tyb hq_16 (all1 rfl)) (ixb (n := 18) hz_10 rfl rfl) f_23 dX7_takesFirst_56 (fun H locs hH hS => ?_)
      refine lv_aload_n F.1 F.2.1 dX7_takesFirst_57 rfl (lv_at hl 1 rfl) ?_
      refine tGetR (j := 12) F hK hH (tyb ha0 (all1 rfl)) rfl (all1 rfl) clX7 (by decide) wd_6_16 dX7_takesFirst_58 (fun q_25 hq_25 _ => ?_)
      refine lv_aload_n F.1 F.2.1 dX7_takesFirst_61 rfl (lv_at hl 1 rfl) ?_
      refine lv_iload_n F.1 F.2.1 dX7_takesFirst_62 rfl (lv_at hl 0 rfl) ?_
      refine tVi (b := a0) (As := [.int z_10]) (rest := [.ref q_25]) F hK hN hO (c_X7_atOf E ws kp as rd m_second ty ik un (0, 18) xt tp sp wrb nu nab iwb X0 a0 z_10 ha0 hz_10 hX0) mv_X7_atOf wd_27_7 ⟨Nat.le_of_ble_eq_true rfl, Nat.le_of_ble_eq_true rfl⟩ ⟨Nat.le_of_ble_eq_true rfl, Nat.le_of_ble_eq_true rfl⟩ hH hS (tRecv hK hH (tyb ha0 (all1 rfl)) clX7) rfl hl.1 (Nat.le_of_ble_eq_true rfl) dX7_takesFirst_63 (fun z_26 H locs hq hS => ?_)
      obtain ⟨f_27, hH⟩ := hq
      have hH : TH E (tbM (mD (.inl tp) (.inl sp) (.inl nu) (.inl un) (.inl (0, 18)) (.inl xt) (.inl wrb) (.inl nab) (.inl iwb)) (xD 660 X0) ws kp as rd m_second ty ik) H := hH
      refine lv_dup2_11 F.1 F.2.1 dX7_takesFirst_66 rfl rfl ?_
      refine tIaldB F hK hH (tyb hq_25 (all1 rfl)) (ixb (n := 12) f_27 rfl rfl) dX7_takesFirst_67 (fun z_28 hz_28 => ?_)
      refine lv_aload_n F.1 F.2.1 dX7_takesFirst_68 rfl (lv_at hl 1 rfl) ?_
      refine tGetR (j := 18) F hK hH (tyb ha0 (all1 rfl)) rfl (all1 rfl) clX7 (by decide) wd_6_21 dX7_takesFirst_69 (fun q_29 hq_29 _ => ?_)
      refine lv_iload_n F.1 F.2.1 dX7_takesFirst_72 rfl (lv_at hl 0 rfl) ?_
      refine tIaldB F hK hH (tyb hq_29 (all1 rfl)) (ixb (n := 18) hz_10 rfl rfl) dX7_takesFirst_73 (fun z_30 hz_30 => ?_)
      refine lv_iadd F.1 F.2.1 dX7_takesFirst_74 ?_
      refine topF (fun z_31 => ?_)
      refine tIastB F hK hH hS (tyb hq_25 (all1 rfl)) (ixb (n := 12) f_27 rfl rfl) (i32b _) dX7_takesFirst_75 (fun H locs hH hS => ?_)
      obtain ⟨x_32, ex_32, hx_32⟩ := iincB (c := 1) (lo := 1) (hi := 18) r_7 rfl
      refine lv_iinc (v := x_32) (lv' := [(2, .int x_32), (3, .int z_10), (0, .ref a0), (1, .int a1)]) F.1 F.2.1 dX7_takesFirst_76 hl (k := 3) rfl ex_32 (by decide) rfl (fun ls hl => ?_)
      refine lv_goto (tgt := 10) F.1 F.2.1 dX7_takesFirst_79 (by decide) ?_
      exact ih_10 (x_32) _ _ _ ⟨(show (18 - x_32.toInt + 1).toNat < n_10 from by omega), (wkb hx_32.2 rfl rfl), hH, hS, lv_sub hl [2, 3, 0] rfl⟩
    · skip
      have r_15 : 1 ≤ z_11.toInt ∧ z_11.toInt ≤ 1 := by have h9_ := f_12; omega
      refine lv_goto (tgt := 76) F.1 F.2.1 dX7_takesFirst_33 (by decide) ?_
      obtain ⟨x_33, ex_33, hx_33⟩ := iincB (c := 1) (lo := 1) (hi := 18) r_7 rfl
      refine lv_iinc (v := x_33) (lv' := [(2, .int x_33), (3, .int z_10), (0, .ref a0), (1, .int a1)]) F.1 F.2.1 dX7_takesFirst_76 hl (k := 3) rfl ex_33 (by decide) rfl (fun ls hl => ?_)
      refine lv_goto (tgt := 10) F.1 F.2.1 dX7_takesFirst_79 (by decide) ?_
      exact ih_10 (x_33) _ _ _ ⟨(show (18 - x_33.toInt + 1).toNat < n_10 from by omega), (wkb hx_33.2 rfl rfl), hH, hS, lv_sub hl [2, 3, 0] rfl⟩
set_option maxHeartbeats 4000000 in
set_option maxRecDepth 100000 in
theorem c_X7_allOf (E : Ev) (nw : TD) (ws : TD) (kp : TD) (as : TD) (rd : TD) (ty : TD) (ik : TD) (un : Int × Int) (tk : Int × Int) (xt : Int × Int) (tp : Int × Int) (sp : Int × Int) (wrb : Int × Int) (nu : Int × Int) (nab : Int × Int) (iwb : Int × Int) (a0 : Nat) (a1 : Int32) (ha0 : eT E a0 ∈ [24]) (ha1 : 0 ≤ a1.toInt ∧ a1.toInt ≤ 13) : TcI E yX7_allOf cX7_allOf 2 .int ({ frames := 1, cells := 0, slots := 0, locals := 40 }) [.ref a0, .int a1] (fun H => TH E (tbM (mD (.inl tp) (.inl sp) (.inl nu) (.inl un) (.inl tk) (.inl xt) (.inl wrb) (.inl nab) (.inl iwb)) nw ws kp as rd m_second ty ik) H) (fun v H => (0 ≤ v.toInt ∧ v.toInt ≤ 29997) ∧ TH E (tbM (mD (.inl tp) (.inl sp) (.inl nu) (.inl un) (.inl tk) (.inl xt) (.inl wrb) (.inl nab) (.inl iwb)) nw ws kp as rd m_second ty ik) H) := by
  refine teI (by decide) (Nat.le_of_ble_eq_true rfl) ?_
  intro p_ ev_ s mi_ below_ meth cd_ ls F hK hN hO hH hS hl
  have hH : TH E (tbM (mD (.inl tp) (.inl sp) (.inl nu) (.inl un) (.inl tk) (.inl xt) (.inl wrb) (.inl nab) (.inl iwb)) nw ws kp as rd m_second ty ik) s.heap := hH
  have hl : lv_has ls 2 [(0, .ref a0), (1, .int a1)] := hl
  refine lv_aload_n F.1 F.2.1 dX7_allOf_0 rfl (lv_at hl 0 rfl) ?_
  refine tGetR (j := 18) F hK hH (tyb ha0 (all1 rfl)) rfl (all1 rfl) clX7 (by decide) wd_6_21 dX7_allOf_1 (fun q_1 hq_1 _ => ?_)
  refine lv_iload_n F.1 F.2.1 dX7_allOf_4 rfl (lv_at hl 1 rfl) ?_
  refine tIaldB F hK hH (tyb hq_1 (all1 rfl)) (ixb (n := 18) ha1 rfl rfl) dX7_allOf_5 (fun z_2 hz_2 => ?_)
  refine lv_aload_n F.1 F.2.1 dX7_allOf_6 rfl (lv_at hl 0 rfl) ?_
  refine tGetR (j := 19) F hK hH (tyb ha0 (all1 rfl)) rfl (all1 rfl) clX7 (by decide) wd_6_22 dX7_allOf_7 (fun q_3 hq_3 _ => ?_)
  refine lv_iload_n F.1 F.2.1 dX7_allOf_10 rfl (lv_at hl 1 rfl) ?_
  refine tIaldB F hK hH (tyb hq_3 (all1 rfl)) (ixb (n := 14) ha1 rfl rfl) dX7_allOf_11 (fun z_4 hz_4 => ?_)
  refine tAdd (lo := 0) (hi := 19998) F dX7_allOf_12 hz_2 hz_4 rfl (fun z_5 hz_5 => ?_)
  refine lv_aload_n F.1 F.2.1 dX7_allOf_13 rfl (lv_at hl 0 rfl) ?_
  refine tGetR (j := 20) F hK hH (tyb ha0 (all1 rfl)) rfl (all1 rfl) clX7 (by decide) wd_6_23 dX7_allOf_14 (fun q_6 hq_6 _ => ?_)
  refine lv_iload_n F.1 F.2.1 dX7_allOf_17 rfl (lv_at hl 1 rfl) ?_
  refine tIaldB F hK hH (tyb hq_6 (all1 rfl)) (ixb (n := 14) ha1 rfl rfl) dX7_allOf_18 (fun z_7 hz_7 => ?_)
  refine tAdd (lo := 0) (hi := 29997) F dX7_allOf_19 hz_5.2 hz_7 rfl (fun z_8 hz_8 => ?_)
  exact txI F hS dX7_allOf_20 rfl (⟨hz_8.2, hH⟩)
set_option maxHeartbeats 4000000 in
set_option maxRecDepth 100000 in
theorem c_X7_isShort (E : Ev) (ws : TD) (kp : TD) (as : TD) (rd : TD) (ty : TD) (ik : TD) (un : Int × Int) (tk : Int × Int) (xt : Int × Int) (tp : Int × Int) (sp : Int × Int) (wrb : Int × Int) (nu : Int × Int) (nab : Int × Int) (iwb : Int × Int) (X0 : Nat → Int32) (a0 : Nat) (a1 : Int32) (ha0 : eT E a0 ∈ [24]) (ha1 : 0 ≤ a1.toInt ∧ a1.toInt ≤ 13) (hX0 : okR X0) : TcI E yX7_isShort cX7_isShort 2 .boolean ({ frames := 3, cells := 0, slots := 0, locals := 86 }) [.ref a0, .int a1] (fun H => TH E (tbM (mD (.inl tp) (.inl sp) (.inl nu) (.inl un) (.inl tk) (.inl xt) (.inl wrb) (.inl nab) (.inl iwb)) (xD 660 X0) ws kp as rd m_second ty ik) H) (fun v H => (0 ≤ v.toInt ∧ v.toInt ≤ 1) ∧ TH E (tbM (mD (.inl tp) (.inl sp) (.inl nu) (.inl un) (.inl tk) (.inl xt) (.inl wrb) (.inl nab) (.inl iwb)) (xD 660 X0) ws kp as rd m_second ty ik) H) := by
  refine teI (by decide) (Nat.le_of_ble_eq_true rfl) ?_
  intro p_ ev_ s mi_ below_ meth cd_ ls F hK hN hO hH hS hl
  have hH : TH E (tbM (mD (.inl tp) (.inl sp) (.inl nu) (.inl un) (.inl tk) (.inl xt) (.inl wrb) (.inl nab) (.inl iwb)) (xD 660 X0) ws kp as rd m_second ty ik) s.heap := hH
  have hl : lv_has ls 2 [(0, .ref a0), (1, .int a1)] := hl
  have hBX0 := okB hX0.1
  have hLX0 := hX0.2
  refine lv_aload_n F.1 F.2.1 dX7_isShort_0 rfl (lv_at hl 0 rfl) ?_
  refine lv_iload_n F.1 F.2.1 dX7_isShort_1 rfl (lv_at hl 1 rfl) ?_
  refine tVi (b := a0) (As := [.int a1]) (rest := []) F hK hN hO (c_X7_allOf E (xD 660 X0) ws kp as rd ty ik un tk xt tp sp wrb nu nab iwb a0 a1 ha0 ha1) mv_X7_allOf wd_29_22 ⟨Nat.le_of_ble_eq_true rfl, Nat.le_of_ble_eq_true rfl⟩ ⟨Nat.le_of_ble_eq_true rfl, Nat.le_of_ble_eq_true rfl⟩ hH hS (tRecv hK hH (tyb ha0 (all1 rfl)) clX7) rfl hl.1 (Nat.le_of_ble_eq_true rfl) dX7_isShort_2 (fun z_1 H locs hq hS => ?_)
  obtain ⟨f_2, hH⟩ := hq
  have hH : TH E (tbM (mD (.inl tp) (.inl sp) (.inl nu) (.inl un) (.inl tk) (.inl xt) (.inl wrb) (.inl nab) (.inl iwb)) (xD 660 X0) ws kp as rd m_second ty ik) H := hH
  refine lv_aload_n F.1 F.2.1 dX7_isShort_5 rfl (lv_at hl 0 rfl) ?_
  refine lv_iload_n F.1 F.2.1 dX7_isShort_6 rfl (lv_at hl 1 rfl) ?_
  refine tVi (b := a0) (As := [.int a1]) (rest := [.int z_1]) F hK hN hO (c_X7_wantsOf_r E ws kp as rd m_second ty ik un tk xt tp sp wrb nu nab iwb X0 a0 a1 ha0 ha1 hX0) mv_X7_wantsOf wd_27_11 ⟨Nat.le_of_ble_eq_true rfl, Nat.le_of_ble_eq_true rfl⟩ ⟨Nat.le_of_ble_eq_true rfl, Nat.le_of_ble_eq_true rfl⟩ hH hS (tRecv hK hH (tyb ha0 (all1 rfl)) clX7) rfl hl.1 (Nat.le_of_ble_eq_true rfl) dX7_isShort_7 (fun z_3 H locs hq hS => ?_)
  obtain ⟨f_4, hH⟩ := hq
  have hH : TH E (tbM (mD (.inl tp) (.inl sp) (.inl nu) (.inl un) (.inl tk) (.inl xt) (.inl wrb) (.inl nab) (.inl iwb)) (xD 660 X0) ws kp as rd m_second ty ik) H := hH
  refine b_ge (tgt := 17) F dX7_isShort_10 (by decide) (fun c_5 => ?_) (fun c_5 => ?_)
  · skip
    refine lv_iconst (v := 0) F.1 F.2.1 dX7_isShort_17 (by decide) ?_
    refine topK (a := 0) (by decide) (fun k_8 hk_8 => ?_)
    exact txI F hS dX7_isShort_18 (nar01 (wkb (eqb hk_8) rfl rfl)) (⟨(wkb (eqb hk_8) rfl rfl), hH⟩)
  · skip
    have r_6 : 0 ≤ z_1.toInt ∧ z_1.toInt ≤ 9998 := by have h9_ := f_2; omega
    have r_7 : 1 ≤ z_3.toInt ∧ z_3.toInt ≤ 9999 := by have h9_ := f_4; omega
    refine lv_iconst (v := 1) F.1 F.2.1 dX7_isShort_13 (by decide) ?_
    refine topK (a := 1) (by decide) (fun k_9 hk_9 => ?_)
    refine lv_goto (tgt := 18) F.1 F.2.1 dX7_isShort_14 (by decide) ?_
    exact txI F hS dX7_isShort_18 (nar01 (wkb (eqb hk_9) rfl rfl)) (⟨(wkb (eqb hk_9) rfl rfl), hH⟩)
set_option maxHeartbeats 4000000 in
set_option maxRecDepth 100000 in
theorem c_X7_takesWithout (E : Ev) (ws : TD) (kp : TD) (as : TD) (rd : TD) (ty : TD) (ik : TD) (un : Int × Int) (xt : Int × Int) (tp : Int × Int) (sp : Int × Int) (wrb : Int × Int) (nu : Int × Int) (nab : Int × Int) (iwb : Int × Int) (X0 : Nat → Int32) (a0 : Nat) (a1 : Int32) (a2 : Int32) (ha0 : eT E a0 ∈ [24]) (ha1 : 0 ≤ a1.toInt ∧ a1.toInt ≤ 17) (hX0 : okR X0) : TcI E yX7_takesWithout cX7_takesWithout 3 .int ({ frames := 7, cells := 0, slots := 0, locals := 179 }) [.ref a0, .int a1, .int a2] (fun H => TH E (tbM (mD (.inl tp) (.inl sp) (.inl nu) (.inl un) (.inl (0, 18)) (.inl xt) (.inl wrb) (.inl nab) (.inl iwb)) (xD 660 X0) ws kp as rd m_second ty ik) H) (fun v H => (0 ≤ v.toInt ∧ v.toInt ≤ 9999) ∧ TH E (tbM (mD (.inl tp) (.inl sp) (.inl nu) (.inl un) (.inl (0, 18)) (.inl xt) (.inl wrb) (.inl nab) (.inl iwb)) (xD 660 X0) ws kp as rd m_second ty ik) H) := by
  refine teI (by decide) (Nat.le_of_ble_eq_true rfl) ?_
  intro p_ ev_ s mi_ below_ meth cd_ ls F hK hN hO hH hS hl
  have hH : TH E (tbM (mD (.inl tp) (.inl sp) (.inl nu) (.inl un) (.inl (0, 18)) (.inl xt) (.inl wrb) (.inl nab) (.inl iwb)) (xD 660 X0) ws kp as rd m_second ty ik) s.heap := hH
  have hl : lv_has ls 3 [(0, .ref a0), (1, .int a1), (2, .int a2)] := hl
  have hBX0 := okB hX0.1
  have hLX0 := hX0.2
  refine lv_aload_n F.1 F.2.1 dX7_takesWithout_0 rfl (lv_at hl 0 rfl) ?_
  refine lv_iload_n F.1 F.2.1 dX7_takesWithout_1 rfl (lv_at hl 2 rfl) ?_
  refine tVv (b := a0) (As := [.int a2]) (rest := []) F hK hN hO (c_X7_takesFirst E ws kp as rd ty ik un xt tp sp wrb nu nab iwb X0 a0 a2 ha0 hX0) mv_X7_takesFirst wd_25_19 ⟨Nat.le_of_ble_eq_true rfl, Nat.le_of_ble_eq_true rfl⟩ ⟨Nat.le_of_ble_eq_true rfl, Nat.le_of_ble_eq_true rfl⟩ hH hS (tRecv hK hH (tyb ha0 (all1 rfl)) clX7) rfl hl.1 (Nat.le_of_ble_eq_true rfl) dX7_takesWithout_2 (fun H locs hq hS => ?_)
  have hH := hq
  have hH : TH E (tbM (mD (.inl tp) (.inl sp) (.inl nu) (.inl un) (.inl (0, 18)) (.inl xt) (.inl wrb) (.inl nab) (.inl iwb)) (xD 660 X0) ws kp as rd m_second ty ik) H := hH
  refine lv_aload_n F.1 F.2.1 dX7_takesWithout_5 rfl (lv_at hl 0 rfl) ?_
  refine tGetR (j := 18) F hK hH (tyb ha0 (all1 rfl)) rfl (all1 rfl) clX7 (by decide) wd_6_21 dX7_takesWithout_6 (fun q_2 hq_2 _ => ?_)
  refine lv_iload_n F.1 F.2.1 dX7_takesWithout_9 rfl (lv_at hl 1 rfl) ?_
  refine tIaldB F hK hH (tyb hq_2 (all1 rfl)) (ixb (n := 18) ha1 rfl rfl) dX7_takesWithout_10 (fun z_3 hz_3 => ?_)
  exact txI F hS dX7_takesWithout_11 rfl (⟨hz_3, hH⟩)
set_option maxHeartbeats 4000000 in
set_option maxRecDepth 100000 in
theorem c_X7_olderThan (E : Ev) (ws : TD) (kp : TD) (as : TD) (rd : TD) (sc : TD) (ty : TD) (ik : TD) (un : Int × Int) (tk : Int × Int) (xt : Int × Int) (tp : Int × Int) (sp : Int × Int) (wrb : Int × Int) (nu : Int × Int) (nab : Int × Int) (iwb : Int × Int) (X0 : Nat → Int32) (a0 : Nat) (a1 : Int32) (ha0 : eT E a0 ∈ [24]) (ha1 : 0 ≤ a1.toInt ∧ a1.toInt ≤ 17) (hX0 : okR X0) : TcI E yX7_olderThan cX7_olderThan 4 .int ({ frames := 3, cells := 0, slots := 0, locals := 83 }) [.ref a0, .int a1] (fun H => TH E (tbM (mD (.inl tp) (.inl sp) (.inl nu) (.inl un) (.inl tk) (.inl xt) (.inl wrb) (.inl nab) (.inl iwb)) (xD 660 X0) ws kp as rd sc ty ik) H) (fun v H => ((-2147483648) ≤ v.toInt ∧ v.toInt ≤ 2147483647) ∧ TH E (tbM (mD (.inl tp) (.inl sp) (.inl nu) (.inl un) (.inl tk) (.inl xt) (.inl wrb) (.inl nab) (.inl iwb)) (xD 660 X0) ws kp as rd sc ty ik) H) := by
  refine teI (by decide) (Nat.le_of_ble_eq_true rfl) ?_
  intro p_ ev_ s mi_ below_ meth cd_ ls F hK hN hO hH hS hl
  have hH : TH E (tbM (mD (.inl tp) (.inl sp) (.inl nu) (.inl un) (.inl tk) (.inl xt) (.inl wrb) (.inl nab) (.inl iwb)) (xD 660 X0) ws kp as rd sc ty ik) s.heap := hH
  have hl : lv_has ls 4 [(0, .ref a0), (1, .int a1)] := hl
  have hBX0 := okB hX0.1
  have hLX0 := hX0.2
  refine lv_iconst (v := 0) F.1 F.2.1 dX7_olderThan_0 (by decide) ?_
  refine topK (a := 0) (by decide) (fun k_1 hk_1 => ?_)
  refine lv_istore_n (lv' := [(2, .int k_1), (0, .ref a0), (1, .int a1)]) F.1 F.2.1 dX7_olderThan_1 rfl hl (by decide) rfl (fun ls hl => ?_)
  refine lv_iconst (v := 0) F.1 F.2.1 dX7_olderThan_2 (by decide) ?_
  refine topK (a := 0) (by decide) (fun k_2 hk_2 => ?_)
  refine lv_istore_n (lv' := [(3, .int k_2), (2, .int k_1), (0, .ref a0), (1, .int a1)]) F.1 F.2.1 dX7_olderThan_3 rfl hl (by decide) rfl (fun ls hl => ?_)
  refine wloop (σ := Int32 × Int32) (fun n9 x9 H locs ls => (18 - x9.2.toInt + 1).toNat < n9 ∧ (0 ≤ x9.2.toInt ∧ x9.2.toInt ≤ 18) ∧ TH E (tbM (mD (.inl tp) (.inl sp) (.inl nu) (.inl un) (.inl tk) (.inl xt) (.inl wrb) (.inl nab) (.inl iwb)) (xD 660 X0) ws kp as rd sc ty ik) H ∧ va_S (eA E s.heap.size) s.heap H locs ∧ lv_has ls 4 [(0, .ref a0), (1, .int a1), (2, .int x9.1), (3, .int x9.2)]) ?_ (fun x9 H locs ls h => absurd h.1 (Nat.not_lt_zero _)) _ (k_1, k_2) ⟨Nat.lt_succ_self _, (wkb (eqb hk_2) rfl rfl), hH, hS, lv_sub hl [2, 3, 1, 0] rfl⟩
  intro n_4 ih_4 ⟨u_3, u_4⟩ H locs ls ⟨hm_4, hu_4, hH, hS, hl⟩
  have hm_4 : (18 - u_4.toInt + 1).toNat < n_4 + 1 := hm_4
  have hu_4 : (0 ≤ u_4.toInt ∧ u_4.toInt ≤ 18) := hu_4
  have hH : TH E (tbM (mD (.inl tp) (.inl sp) (.inl nu) (.inl un) (.inl tk) (.inl xt) (.inl wrb) (.inl nab) (.inl iwb)) (xD 660 X0) ws kp as rd sc ty ik) H := hH
  have hl : lv_has ls 4 [(0, .ref a0), (1, .int a1), (2, .int u_3), (3, .int u_4)] := hl
  refine lv_iload_n F.1 F.2.1 dX7_olderThan_4 rfl (lv_at hl 3 rfl) ?_
  refine lv_bipush (v := 18) F.1 F.2.1 dX7_olderThan_5 (by decide) ?_
  refine topK (a := 18) (by decide) (fun k_5 hk_5 => ?_)
  refine b_ge (tgt := 43) F dX7_olderThan_7 (by decide) (fun c_6 => ?_) (fun c_6 => ?_)
  · skip
    have r_7 : 18 ≤ u_4.toInt ∧ u_4.toInt ≤ 18 := by have h9_ := hu_4; omega
    refine lv_iload_n F.1 F.2.1 dX7_olderThan_43 rfl (lv_at hl 2 rfl) ?_
    exact txI F hS dX7_olderThan_44 rfl (⟨(i32b _), hH⟩)
  · skip
    have r_8 : 0 ≤ u_4.toInt ∧ u_4.toInt ≤ 17 := by have h9_ := hu_4; omega
    refine lv_aload_n F.1 F.2.1 dX7_olderThan_10 rfl (lv_at hl 0 rfl) ?_
    refine lv_iload_n F.1 F.2.1 dX7_olderThan_11 rfl (lv_at hl 3 rfl) ?_
    refine tVi (b := a0) (As := [.int u_4]) (rest := []) F hK hN hO (c_X7_isTaker E ws kp as rd sc ty ik un tk xt tp sp wrb nu nab iwb X0 a0 u_4 ha0 r_8 hX0) mv_X7_isTaker wd_26_8 ⟨Nat.le_of_ble_eq_true rfl, Nat.le_of_ble_eq_true rfl⟩ ⟨Nat.le_of_ble_eq_true rfl, Nat.le_of_ble_eq_true rfl⟩ hH hS (tRecv hK hH (tyb ha0 (all1 rfl)) clX7) rfl hl.1 (Nat.le_of_ble_eq_true rfl) dX7_olderThan_12 (fun z_9 H locs hq hS => ?_)
    obtain ⟨f_10, hH⟩ := hq
    have hH : TH E (tbM (mD (.inl tp) (.inl sp) (.inl nu) (.inl un) (.inl tk) (.inl xt) (.inl wrb) (.inl nab) (.inl iwb)) (xD 660 X0) ws kp as rd sc ty ik) H := hH
    refine z_eq (tgt := 37) F dX7_olderThan_15 (by decide) (fun c_11 => ?_) (fun c_11 => ?_)
    · skip
      have r_12 : 0 ≤ z_9.toInt ∧ z_9.toInt ≤ 0 := by have h9_ := f_10; omega
      obtain ⟨x_14, ex_14, hx_14⟩ := iincB (c := 1) (lo := 1) (hi := 18) r_8 rfl
      refine lv_iinc (v := x_14) (lv' := [(3, .int x_14), (0, .ref a0), (1, .int a1), (2, .int u_3)]) F.1 F.2.1 dX7_olderThan_37 hl (k := 3) rfl ex_14 (by decide) rfl (fun ls hl => ?_)
      refine lv_goto (tgt := 4) F.1 F.2.1 dX7_olderThan_40 (by decide) ?_
      exact ih_4 (u_3, x_14) _ _ _ ⟨(show (18 - x_14.toInt + 1).toNat < n_4 from by omega), (wkb hx_14.2 rfl rfl), hH, hS, lv_sub hl [1, 2, 3, 0] rfl⟩
    · skip
      have r_13 : 1 ≤ z_9.toInt ∧ z_9.toInt ≤ 1 := by have h9_ := f_10; omega
      refine lv_aload_n F.1 F.2.1 dX7_olderThan_18 rfl (lv_at hl 0 rfl) ?_
      refine lv_iload_n F.1 F.2.1 dX7_olderThan_19 rfl (lv_at hl 3 rfl) ?_
      refine tVi (b := a0) (As := [.int u_4]) (rest := []) F hK hN hO (c_X7_ageOf E ws kp as rd sc ty ik un tk xt tp sp wrb nu nab iwb X0 a0 u_4 ha0 r_8 hX0) mv_X7_ageOf wd_26_16 ⟨Nat.le_of_ble_eq_true rfl, Nat.le_of_ble_eq_true rfl⟩ ⟨Nat.le_of_ble_eq_true rfl, Nat.le_of_ble_eq_true rfl⟩ hH hS (tRecv hK hH (tyb ha0 (all1 rfl)) clX7) rfl hl.1 (Nat.le_of_ble_eq_true rfl) dX7_olderThan_20 (fun z_15 H locs hq hS => ?_)
      obtain ⟨f_16, hH⟩ := hq
      have hH : TH E (tbM (mD (.inl tp) (.inl sp) (.inl nu) (.inl un) (.inl tk) (.inl xt) (.inl wrb) (.inl nab) (.inl iwb)) (xD 660 X0) ws kp as rd sc ty ik) H := hH
      refine lv_aload_n F.1 F.2.1 dX7_olderThan_23 rfl (lv_at hl 0 rfl) ?_
      refine lv_iload_n F.1 F.2.1 dX7_olderThan_24 rfl (lv_at hl 1 rfl) ?_
      refine tVi (b := a0) (As := [.int a1]) (rest := [.int z_15]) F hK hN hO (c_X7_ageOf E ws kp as rd sc ty ik un tk xt tp sp wrb nu nab iwb X0 a0 a1 ha0 ha1 hX0) mv_X7_ageOf wd_26_16 ⟨Nat.le_of_ble_eq_true rfl, Nat.le_of_ble_eq_true rfl⟩ ⟨Nat.le_of_ble_eq_true rfl, Nat.le_of_ble_eq_true rfl⟩ hH hS (tRecv hK hH (tyb ha0 (all1 rfl)) clX7) rfl hl.1 (Nat.le_of_ble_eq_true rfl) dX7_olderThan_25 (fun z_17 H locs hq hS => ?_)
      obtain ⟨f_18, hH⟩ := hq
      have hH : TH E (tbM (mD (.inl tp) (.inl sp) (.inl nu) (.inl un) (.inl tk) (.inl xt) (.inl wrb) (.inl nab) (.inl iwb)) (xD 660 X0) ws kp as rd sc ty ik) H := hH
      refine b_ge (tgt := 37) F dX7_olderThan_28 (by decide) (fun c_19 => ?_) (fun c_19 => ?_)
      · skip
        obtain ⟨x_20, ex_20, hx_20⟩ := iincB (c := 1) (lo := 1) (hi := 18) r_8 rfl
        refine lv_iinc (v := x_20) (lv' := [(3, .int x_20), (0, .ref a0), (1, .int a1), (2, .int u_3)]) F.1 F.2.1 dX7_olderThan_37 hl (k := 3) rfl ex_20 (by decide) rfl (fun ls hl => ?_)
        refine lv_goto (tgt := 4) F.1 F.2.1 dX7_olderThan_40 (by decide) ?_
        exact ih_4 (u_3, x_20) _ _ _ ⟨(show (18 - x_20.toInt + 1).toNat < n_4 from by omega), (wkb hx_20.2 rfl rfl), hH, hS, lv_sub hl [1, 2, 3, 0] rfl⟩
      · skip
        refine lv_iload_n F.1 F.2.1 dX7_olderThan_31 rfl (lv_at hl 2 rfl) ?_
        refine lv_iconst (v := 1) F.1 F.2.1 dX7_olderThan_32 (by decide) ?_
        refine topK (a := 1) (by decide) (fun k_21 hk_21 => ?_)
        refine lv_iload_n F.1 F.2.1 dX7_olderThan_33 rfl (lv_at hl 3 rfl) ?_
        refine lv_ishl F.1 F.2.1 dX7_olderThan_34 ?_
        refine topF (fun z_22 => ?_)
        refine lv_ior F.1 F.2.1 dX7_olderThan_35 ?_
        refine topF (fun z_23 => ?_)
        refine lv_istore_n (lv' := [(2, .int z_23), (0, .ref a0), (1, .int a1), (3, .int u_4)]) F.1 F.2.1 dX7_olderThan_36 rfl hl (by decide) rfl (fun ls hl => ?_)
        obtain ⟨x_24, ex_24, hx_24⟩ := iincB (c := 1) (lo := 1) (hi := 18) r_8 rfl
        refine lv_iinc (v := x_24) (lv' := [(3, .int x_24), (2, .int z_23), (0, .ref a0), (1, .int a1)]) F.1 F.2.1 dX7_olderThan_37 hl (k := 3) rfl ex_24 (by decide) rfl (fun ls hl => ?_)
        refine lv_goto (tgt := 4) F.1 F.2.1 dX7_olderThan_40 (by decide) ?_
        exact ih_4 (z_23, x_24) _ _ _ ⟨(show (18 - x_24.toInt + 1).toNat < n_4 from by omega), (wkb hx_24.2 rfl rfl), hH, hS, lv_sub hl [2, 3, 1, 0] rfl⟩
set_option maxHeartbeats 4000000 in
set_option maxRecDepth 100000 in
theorem c_X7_told (E : Ev) (m : TD) (nw : TD) (ws : TD) (kp : TD) (as : TD) (rd : TD) (sc : TD) (ty : TD) (ik : TD) (a0 : Int32) : TcI E yX7_told cX7_told 1 .int ({ frames := 1, cells := 0, slots := 0, locals := 40 }) [.int a0] (fun H => TH E (tbM m nw ws kp as rd sc ty ik) H) (fun v H => ((-2147483648) ≤ v.toInt ∧ v.toInt ≤ 2147483647) ∧ TH E (tbM m nw ws kp as rd sc ty ik) H) := by
  refine teI (by decide) (Nat.le_of_ble_eq_true rfl) ?_
  intro p_ ev_ s mi_ below_ meth cd_ ls F hK hN hO hH hS hl
  have hH : TH E (tbM m nw ws kp as rd sc ty ik) s.heap := hH
  have hl : lv_has ls 1 [(0, .int a0)] := hl
  refine lv_iload_n F.1 F.2.1 dX7_told_0 rfl (lv_at hl 0 rfl) ?_
  refine lv_bipush (v := 14) F.1 F.2.1 dX7_told_1 (by decide) ?_
  refine topK (a := 14) (by decide) (fun k_1 hk_1 => ?_)
  refine b_ge (tgt := 10) F dX7_told_3 (by decide) (fun c_2 => ?_) (fun c_2 => ?_)
  · skip
    have r_3 : 14 ≤ a0.toInt ∧ a0.toInt ≤ 2147483647 := by have h9_ := (i32b a0); omega
    refine lv_bipush (v := 100) F.1 F.2.1 dX7_told_10 (by decide) ?_
    refine topK (a := 100) (by decide) (fun k_5 hk_5 => ?_)
    refine lv_iload_n F.1 F.2.1 dX7_told_12 rfl (lv_at hl 0 rfl) ?_
    refine lv_iadd F.1 F.2.1 dX7_told_13 ?_
    refine topF (fun z_6 => ?_)
    refine lv_bipush (v := 14) F.1 F.2.1 dX7_told_14 (by decide) ?_
    refine topK (a := 14) (by decide) (fun k_7 hk_7 => ?_)
    refine lv_isub F.1 F.2.1 dX7_told_16 ?_
    refine topF (fun z_8 => ?_)
    exact txI F hS dX7_told_17 rfl (⟨(i32b _), hH⟩)
  · skip
    have r_4 : (-2147483648) ≤ a0.toInt ∧ a0.toInt ≤ 13 := by have h9_ := (i32b a0); omega
    refine lv_iload_n F.1 F.2.1 dX7_told_6 rfl (lv_at hl 0 rfl) ?_
    refine lv_goto (tgt := 17) F.1 F.2.1 dX7_told_7 (by decide) ?_
    exact txI F hS dX7_told_17 rfl (⟨(wkb r_4 rfl rfl), hH⟩)
set_option maxHeartbeats 4000000 in
set_option maxRecDepth 100000 in
theorem c_X7_runningTo (E : Ev) (ws : TD) (kp : TD) (as : TD) (rd : TD) (sc : TD) (ty : TD) (ik : TD) (un : Int × Int) (tk : Int × Int) (xt : Int × Int) (tp : Int × Int) (sp : Int × Int) (wrb : Int × Int) (nu : Int × Int) (nab : Int × Int) (iwb : Int × Int) (X0 : Nat → Int32) (a0 : Nat) (a1 : Int32) (ha0 : eT E a0 ∈ [24]) (hX0 : okR X0) : TcI E yX7_runningTo cX7_runningTo 4 .int ({ frames := 2, cells := 0, slots := 0, locals := 62 }) [.ref a0, .int a1] (fun H => TH E (tbM (mD (.inl tp) (.inl sp) (.inl nu) (.inl un) (.inl tk) (.inl xt) (.inl wrb) (.inl nab) (.inl iwb)) (xD 660 X0) ws kp as rd sc ty ik) H) (fun v H => ((-2147483648) ≤ v.toInt ∧ v.toInt ≤ 2147483647) ∧ TH E (tbM (mD (.inl tp) (.inl sp) (.inl nu) (.inl un) (.inl tk) (.inl xt) (.inl wrb) (.inl nab) (.inl iwb)) (xD 660 X0) ws kp as rd sc ty ik) H) := by
  refine teI (by decide) (Nat.le_of_ble_eq_true rfl) ?_
  intro p_ ev_ s mi_ below_ meth cd_ ls F hK hN hO hH hS hl
  have hH : TH E (tbM (mD (.inl tp) (.inl sp) (.inl nu) (.inl un) (.inl tk) (.inl xt) (.inl wrb) (.inl nab) (.inl iwb)) (xD 660 X0) ws kp as rd sc ty ik) s.heap := hH
  have hl : lv_has ls 4 [(0, .ref a0), (1, .int a1)] := hl
  have hBX0 := okB hX0.1
  have hLX0 := hX0.2
  refine lv_iconst (v := 0) F.1 F.2.1 dX7_runningTo_0 (by decide) ?_
  refine topK (a := 0) (by decide) (fun k_1 hk_1 => ?_)
  refine lv_istore_n (lv' := [(2, .int k_1), (0, .ref a0), (1, .int a1)]) F.1 F.2.1 dX7_runningTo_1 rfl hl (by decide) rfl (fun ls hl => ?_)
  refine lv_iconst (v := 0) F.1 F.2.1 dX7_runningTo_2 (by decide) ?_
  refine topK (a := 0) (by decide) (fun k_2 hk_2 => ?_)
  refine lv_istore_n (lv' := [(3, .int k_2), (2, .int k_1), (0, .ref a0), (1, .int a1)]) F.1 F.2.1 dX7_runningTo_3 rfl hl (by decide) rfl (fun ls hl => ?_)
  refine wloop (σ := Int32 × Int32) (fun n9 x9 H locs ls => (12 - x9.2.toInt + 1).toNat < n9 ∧ (0 ≤ x9.2.toInt ∧ x9.2.toInt ≤ 12) ∧ TH E (tbM (mD (.inl tp) (.inl sp) (.inl nu) (.inl un) (.inl tk) (.inl xt) (.inl wrb) (.inl nab) (.inl iwb)) (xD 660 X0) ws kp as rd sc ty ik) H ∧ va_S (eA E s.heap.size) s.heap H locs ∧ lv_has ls 4 [(0, .ref a0), (1, .int a1), (2, .int x9.1), (3, .int x9.2)]) ?_ (fun x9 H locs ls h => absurd h.1 (Nat.not_lt_zero _)) _ (k_1, k_2) ⟨Nat.lt_succ_self _, (wkb (eqb hk_2) rfl rfl), hH, hS, lv_sub hl [2, 3, 1, 0] rfl⟩
  intro n_4 ih_4 ⟨u_3, u_4⟩ H locs ls ⟨hm_4, hu_4, hH, hS, hl⟩
  have hm_4 : (12 - u_4.toInt + 1).toNat < n_4 + 1 := hm_4
  have hu_4 : (0 ≤ u_4.toInt ∧ u_4.toInt ≤ 12) := hu_4
  have hH : TH E (tbM (mD (.inl tp) (.inl sp) (.inl nu) (.inl un) (.inl tk) (.inl xt) (.inl wrb) (.inl nab) (.inl iwb)) (xD 660 X0) ws kp as rd sc ty ik) H := hH
  have hl : lv_has ls 4 [(0, .ref a0), (1, .int a1), (2, .int u_3), (3, .int u_4)] := hl
  refine lv_iload_n F.1 F.2.1 dX7_runningTo_4 rfl (lv_at hl 3 rfl) ?_
  refine lv_aload_n F.1 F.2.1 dX7_runningTo_5 rfl (lv_at hl 0 rfl) ?_
  refine tVi (b := a0) (As := []) (rest := [.int u_4]) F hK hN hO (c_X7_reaches E ws kp as rd sc ty ik un tk xt tp sp wrb nu nab iwb X0 a0 ha0 ((hX0).1)) mv_X7_reaches wd_28_7 ⟨Nat.le_of_ble_eq_true rfl, Nat.le_of_ble_eq_true rfl⟩ ⟨Nat.le_of_ble_eq_true rfl, Nat.le_of_ble_eq_true rfl⟩ hH hS (tRecv hK hH (tyb ha0 (all1 rfl)) clX7) rfl hl.1 (Nat.le_of_ble_eq_true rfl) dX7_runningTo_6 (fun z_5 H locs hq hS => ?_)
  obtain ⟨f_6, f_7, hH⟩ := hq
  have hH : TH E (tbM (mD (.inl tp) (.inl sp) (.inl nu) (.inl un) (.inl tk) (.inl xt) (.inl wrb) (.inl nab) (.inl iwb)) (xD 660 X0) ws kp as rd sc ty ik) H := hH
  refine b_ge (tgt := 36) F dX7_runningTo_9 (by decide) (fun c_8 => ?_) (fun c_8 => ?_)
  · skip
    refine lv_iload_n F.1 F.2.1 dX7_runningTo_36 rfl (lv_at hl 2 rfl) ?_
    exact txI F hS dX7_runningTo_37 rfl (⟨(i32b _), hH⟩)
  · skip
    have r_9 : 0 ≤ u_4.toInt ∧ u_4.toInt ≤ 11 := by have h9_ := hu_4; omega
    have r_10 : 1 ≤ z_5.toInt ∧ z_5.toInt ≤ 12 := by have h9_ := f_6; omega
    refine lv_iload_n F.1 F.2.1 dX7_runningTo_12 rfl (lv_at hl 2 rfl) ?_
    refine lv_aload_n F.1 F.2.1 dX7_runningTo_13 rfl (lv_at hl 0 rfl) ?_
    refine lv_iload_n F.1 F.2.1 dX7_runningTo_14 rfl (lv_at hl 3 rfl) ?_
    refine lv_iconst (v := 0) F.1 F.2.1 dX7_runningTo_15 (by decide) ?_
    refine topK (a := 0) (by decide) (fun k_11 hk_11 => ?_)
    refine tVi (b := a0) (As := [.int u_4, .int k_11]) (rest := [.int u_3]) F hK hN hO (c_X7_ofReach_0 E ws kp as rd sc ty ik un tk xt tp sp wrb nu nab iwb X0 a0 u_4 k_11 ha0 r_9 (eqb hk_11) ((hX0).1)) mv_X7_ofReach wd_28_15 ⟨Nat.le_of_ble_eq_true rfl, Nat.le_of_ble_eq_true rfl⟩ ⟨Nat.le_of_ble_eq_true rfl, Nat.le_of_ble_eq_true rfl⟩ hH hS (tRecv hK hH (tyb ha0 (all1 rfl)) clX7) rfl hl.1 (Nat.le_of_ble_eq_true rfl) dX7_runningTo_16 (fun z_12 H locs hq hS => ?_)
    obtain ⟨f_13, f_14, f_15, hH⟩ := hq
    have hH : TH E (tbM (mD (.inl tp) (.inl sp) (.inl nu) (.inl un) (.inl tk) (.inl xt) (.inl wrb) (.inl nab) (.inl iwb)) (xD 660 X0) ws kp as rd sc ty ik) H := hH
    refine lv_iload_n F.1 F.2.1 dX7_runningTo_19 rfl (lv_at hl 1 rfl) ?_
    refine b_ne (tgt := 27) F dX7_runningTo_20 (by decide) (fun c_16 => ?_) (fun c_16 => ?_)
    · skip
      refine lv_iconst (v := 0) F.1 F.2.1 dX7_runningTo_27 (by decide) ?_
      refine topK (a := 0) (by decide) (fun k_18 hk_18 => ?_)
      refine tAdd (lo := (-2147483648)) (hi := 2147483647) F dX7_runningTo_28 (i32b _) (eqb hk_18) rfl (fun z_19 hz_19 => ?_)
      refine lv_istore_n (lv' := [(2, .int z_19), (0, .ref a0), (1, .int a1), (3, .int u_4)]) F.1 F.2.1 dX7_runningTo_29 rfl hl (by decide) rfl (fun ls hl => ?_)
      obtain ⟨x_20, ex_20, hx_20⟩ := iincB (c := 1) (lo := 1) (hi := 12) r_9 rfl
      refine lv_iinc (v := x_20) (lv' := [(3, .int x_20), (2, .int z_19), (0, .ref a0), (1, .int a1)]) F.1 F.2.1 dX7_runningTo_30 hl (k := 3) rfl ex_20 (by decide) rfl (fun ls hl => ?_)
      refine lv_goto (tgt := 4) F.1 F.2.1 dX7_runningTo_33 (by decide) ?_
      exact ih_4 (z_19, x_20) _ _ _ ⟨(show (12 - x_20.toInt + 1).toNat < n_4 from by omega), (wkb hx_20.2 rfl rfl), hH, hS, lv_sub hl [2, 3, 1, 0] rfl⟩
    · skip
      have r_17 : (-1) ≤ a1.toInt ∧ a1.toInt ≤ 10 := by have h9_ := (i32b a1); omega
      refine lv_iconst (v := 1) F.1 F.2.1 dX7_runningTo_23 (by decide) ?_
      refine topK (a := 1) (by decide) (fun k_21 hk_21 => ?_)
      refine lv_goto (tgt := 28) F.1 F.2.1 dX7_runningTo_24 (by decide) ?_
      refine lv_iadd F.1 F.2.1 dX7_runningTo_28 ?_
      refine topF (fun z_22 => ?_)
      refine lv_istore_n (lv' := [(2, .int z_22), (0, .ref a0), (1, .int a1), (3, .int u_4)]) F.1 F.2.1 dX7_runningTo_29 rfl hl (by decide) rfl (fun ls hl => ?_)
      obtain ⟨x_23, ex_23, hx_23⟩ := iincB (c := 1) (lo := 1) (hi := 12) r_9 rfl
      refine lv_iinc (v := x_23) (lv' := [(3, .int x_23), (2, .int z_22), (0, .ref a0), (1, .int a1)]) F.1 F.2.1 dX7_runningTo_30 hl (k := 3) rfl ex_23 (by decide) rfl (fun ls hl => ?_)
      refine lv_goto (tgt := 4) F.1 F.2.1 dX7_runningTo_33 (by decide) ?_
      exact ih_4 (z_22, x_23) _ _ _ ⟨(show (12 - x_23.toInt + 1).toNat < n_4 from by omega), (wkb hx_23.2 rfl rfl), hH, hS, lv_sub hl [2, 3, 1, 0] rfl⟩
set_option maxHeartbeats 4000000 in
set_option maxRecDepth 100000 in
theorem c_X7_isFutile (E : Ev) (ws : TD) (kp : TD) (as : TD) (rd : TD) (ty : TD) (ik : TD) (un : Int × Int) (tk : Int × Int) (xt : Int × Int) (tp : Int × Int) (sp : Int × Int) (wrb : Int × Int) (nu : Int × Int) (nab : Int × Int) (iwb : Int × Int) (X0 : Nat → Int32) (a0 : Nat) (a1 : Int32) (a2 : Int32) (ha0 : eT E a0 ∈ [24]) (ha1 : 0 ≤ a1.toInt ∧ a1.toInt ≤ 13) (ha2 : 0 ≤ a2.toInt ∧ a2.toInt ≤ 13) (hX0 : okR X0) (h6 : gI X0 6 = -1) : TcI E yX7_isFutile cX7_isFutile 3 .boolean ({ frames := 4, cells := 0, slots := 0, locals := 107 }) [.ref a0, .int a1, .int a2] (fun H => TH E (tbM (mD (.inl tp) (.inl sp) (.inl nu) (.inl un) (.inl tk) (.inl xt) (.inl wrb) (.inl nab) (.inl iwb)) (xD 660 X0) ws kp as rd m_second ty ik) H) (fun v H => (0 ≤ v.toInt ∧ v.toInt ≤ 1) ∧ TH E (tbM (mD (.inl tp) (.inl sp) (.inl nu) (.inl un) (.inl tk) (.inl xt) (.inl wrb) (.inl nab) (.inl iwb)) (xD 660 X0) ws kp as rd m_second ty ik) H) := by
  refine teI (by decide) (Nat.le_of_ble_eq_true rfl) ?_
  intro p_ ev_ s mi_ below_ meth cd_ ls F hK hN hO hH hS hl
  have hH : TH E (tbM (mD (.inl tp) (.inl sp) (.inl nu) (.inl un) (.inl tk) (.inl xt) (.inl wrb) (.inl nab) (.inl iwb)) (xD 660 X0) ws kp as rd m_second ty ik) s.heap := hH
  have hl : lv_has ls 3 [(0, .ref a0), (1, .int a1), (2, .int a2)] := hl
  have hBX0 := okB hX0.1
  have hLX0 := hX0.2
  refine lv_iload_n F.1 F.2.1 dX7_isFutile_0 rfl (lv_at hl 1 rfl) ?_
  refine lv_iload_n F.1 F.2.1 dX7_isFutile_1 rfl (lv_at hl 2 rfl) ?_
  refine b_eq (tgt := 60) F dX7_isFutile_2 (by decide) (fun c_1 => ?_) (fun c_1 => ?_)
  · skip
    refine lv_iconst (v := 0) F.1 F.2.1 dX7_isFutile_60 (by decide) ?_
    refine topK (a := 0) (by decide) (fun k_2 hk_2 => ?_)
    exact txI F hS dX7_isFutile_61 (nar01 (wkb (eqb hk_2) rfl rfl)) (⟨(wkb (eqb hk_2) rfl rfl), hH⟩)
  · skip
    refine lv_aload_n F.1 F.2.1 dX7_isFutile_5 rfl (lv_at hl 0 rfl) ?_
    refine lv_iload_n F.1 F.2.1 dX7_isFutile_6 rfl (lv_at hl 1 rfl) ?_
    refine tVi (b := a0) (As := [.int a1]) (rest := []) F hK hN hO (c_X7_isShort E ws kp as rd ty ik un tk xt tp sp wrb nu nab iwb X0 a0 a1 ha0 ha1 hX0) mv_X7_isShort wd_30_2 ⟨Nat.le_of_ble_eq_true rfl, Nat.le_of_ble_eq_true rfl⟩ ⟨Nat.le_of_ble_eq_true rfl, Nat.le_of_ble_eq_true rfl⟩ hH hS (tRecv hK hH (tyb ha0 (all1 rfl)) clX7) rfl hl.1 (Nat.le_of_ble_eq_true rfl) dX7_isFutile_7 (fun z_3 H locs hq hS => ?_)
    obtain ⟨f_4, hH⟩ := hq
    have hH : TH E (tbM (mD (.inl tp) (.inl sp) (.inl nu) (.inl un) (.inl tk) (.inl xt) (.inl wrb) (.inl nab) (.inl iwb)) (xD 660 X0) ws kp as rd m_second ty ik) H := hH
    refine z_eq (tgt := 60) F dX7_isFutile_10 (by decide) (fun c_5 => ?_) (fun c_5 => ?_)
    · skip
      have r_6 : 0 ≤ z_3.toInt ∧ z_3.toInt ≤ 0 := by have h9_ := f_4; omega
      refine lv_iconst (v := 0) F.1 F.2.1 dX7_isFutile_60 (by decide) ?_
      refine topK (a := 0) (by decide) (fun k_8 hk_8 => ?_)
      exact txI F hS dX7_isFutile_61 (nar01 (wkb (eqb hk_8) rfl rfl)) (⟨(wkb (eqb hk_8) rfl rfl), hH⟩)
    · skip
      have r_7 : 1 ≤ z_3.toInt ∧ z_3.toInt ≤ 1 := by have h9_ := f_4; omega
      refine lv_aload_n F.1 F.2.1 dX7_isFutile_13 rfl (lv_at hl 0 rfl) ?_
      refine lv_iload_n F.1 F.2.1 dX7_isFutile_14 rfl (lv_at hl 2 rfl) ?_
      refine lv_iconst (v := 4) F.1 F.2.1 dX7_isFutile_15 (by decide) ?_
      refine topK (a := 4) (by decide) (fun k_9 hk_9 => ?_)
      refine tVi (b := a0) (As := [.int a2, .int k_9]) (rest := []) F hK hN hO (c_X7_of_4 E ws kp as rd m_second ty ik un tk xt tp sp wrb nu nab iwb X0 a0 a2 k_9 ha0 ha2 (eqb hk_9) ((hX0).1)) mv_X7_of wd_26_20 ⟨Nat.le_of_ble_eq_true rfl, Nat.le_of_ble_eq_true rfl⟩ ⟨Nat.le_of_ble_eq_true rfl, Nat.le_of_ble_eq_true rfl⟩ hH hS (tRecv hK hH (tyb ha0 (all1 rfl)) clX7) rfl hl.1 (Nat.le_of_ble_eq_true rfl) dX7_isFutile_16 (fun z_10 H locs hq hS => ?_)
      obtain ⟨f_11, f_12, hH⟩ := hq
      have hH : TH E (tbM (mD (.inl tp) (.inl sp) (.inl nu) (.inl un) (.inl tk) (.inl xt) (.inl wrb) (.inl nab) (.inl iwb)) (xD 660 X0) ws kp as rd m_second ty ik) H := hH
      refine lv_aload_n F.1 F.2.1 dX7_isFutile_19 rfl (lv_at hl 0 rfl) ?_
      refine lv_iload_n F.1 F.2.1 dX7_isFutile_20 rfl (lv_at hl 1 rfl) ?_
      refine lv_iconst (v := 4) F.1 F.2.1 dX7_isFutile_21 (by decide) ?_
      refine topK (a := 4) (by decide) (fun k_13 hk_13 => ?_)
      refine tVi (b := a0) (As := [.int a1, .int k_13]) (rest := [.int z_10]) F hK hN hO (c_X7_of_4 E ws kp as rd m_second ty ik un tk xt tp sp wrb nu nab iwb X0 a0 a1 k_13 ha0 ha1 (eqb hk_13) ((hX0).1)) mv_X7_of wd_26_20 ⟨Nat.le_of_ble_eq_true rfl, Nat.le_of_ble_eq_true rfl⟩ ⟨Nat.le_of_ble_eq_true rfl, Nat.le_of_ble_eq_true rfl⟩ hH hS (tRecv hK hH (tyb ha0 (all1 rfl)) clX7) rfl hl.1 (Nat.le_of_ble_eq_true rfl) dX7_isFutile_22 (fun z_14 H locs hq hS => ?_)
      obtain ⟨f_15, f_16, hH⟩ := hq
      have hH : TH E (tbM (mD (.inl tp) (.inl sp) (.inl nu) (.inl un) (.inl tk) (.inl xt) (.inl wrb) (.inl nab) (.inl iwb)) (xD 660 X0) ws kp as rd m_second ty ik) H := hH
      refine b_le (tgt := 60) F dX7_isFutile_25 (by decide) (fun c_17 => ?_) (fun c_17 => ?_)
      · skip
        refine lv_iconst (v := 0) F.1 F.2.1 dX7_isFutile_60 (by decide) ?_
        refine topK (a := 0) (by decide) (fun k_18 hk_18 => ?_)
        exact txI F hS dX7_isFutile_61 (nar01 (wkb (eqb hk_18) rfl rfl)) (⟨(wkb (eqb hk_18) rfl rfl), hH⟩)
      · skip
        refine lv_aload_n F.1 F.2.1 dX7_isFutile_28 rfl (lv_at hl 0 rfl) ?_
        refine tGetR (j := 18) F hK hH (tyb ha0 (all1 rfl)) rfl (all1 rfl) clX7 (by decide) wd_6_21 dX7_isFutile_29 (fun q_19 hq_19 _ => ?_)
        refine lv_iload_n F.1 F.2.1 dX7_isFutile_32 rfl (lv_at hl 2 rfl) ?_
        refine tIaldB F hK hH (tyb hq_19 (all1 rfl)) (ixb (n := 18) ha2 rfl rfl) dX7_isFutile_33 (fun z_20 hz_20 => ?_)
        refine z_le (tgt := 60) F dX7_isFutile_34 (by decide) (fun c_21 => ?_) (fun c_21 => ?_)
        · skip
          have r_22 : 0 ≤ z_20.toInt ∧ z_20.toInt ≤ 0 := by have h9_ := hz_20; omega
          refine lv_iconst (v := 0) F.1 F.2.1 dX7_isFutile_60 (by decide) ?_
          refine topK (a := 0) (by decide) (fun k_24 hk_24 => ?_)
          exact txI F hS dX7_isFutile_61 (nar01 (wkb (eqb hk_24) rfl rfl)) (⟨(wkb (eqb hk_24) rfl rfl), hH⟩)
        · skip
          have r_23 : 1 ≤ z_20.toInt ∧ z_20.toInt ≤ 9999 := by have h9_ := hz_20; omega
          refine lv_aload_n F.1 F.2.1 dX7_isFutile_37 rfl (lv_at hl 0 rfl) ?_
          refine lv_aload_n F.1 F.2.1 dX7_isFutile_38 rfl (lv_at hl 0 rfl) ?_
          refine lv_iload_n F.1 F.2.1 dX7_isFutile_39 rfl (lv_at hl 2 rfl) ?_
          refine lv_iconst (v := 0) F.1 F.2.1 dX7_isFutile_40 (by decide) ?_
          refine topK (a := 0) (by decide) (fun k_25 hk_25 => ?_)
          refine tVi (b := a0) (As := [.int a2, .int k_25]) (rest := [.ref a0]) F hK hN hO (c_X7_of_0 E ws kp as rd m_second ty ik un tk xt tp sp wrb nu nab iwb X0 a0 a2 k_25 ha0 ha2 (eqb hk_25) ((hX0).1)) mv_X7_of wd_26_20 ⟨Nat.le_of_ble_eq_true rfl, Nat.le_of_ble_eq_true rfl⟩ ⟨Nat.le_of_ble_eq_true rfl, Nat.le_of_ble_eq_true rfl⟩ hH hS (tRecv hK hH (tyb ha0 (all1 rfl)) clX7) rfl hl.1 (Nat.le_of_ble_eq_true rfl) dX7_isFutile_41 (fun z_26 H locs hq hS => ?_)
          obtain ⟨f_27, f_28, hH⟩ := hq
          have hH : TH E (tbM (mD (.inl tp) (.inl sp) (.inl nu) (.inl un) (.inl tk) (.inl xt) (.inl wrb) (.inl nab) (.inl iwb)) (xD 660 X0) ws kp as rd m_second ty ik) H := hH
          refine lv_aload_n F.1 F.2.1 dX7_isFutile_44 rfl (lv_at hl 0 rfl) ?_
          refine lv_iload_n F.1 F.2.1 dX7_isFutile_45 rfl (lv_at hl 1 rfl) ?_
          refine lv_iconst (v := 0) F.1 F.2.1 dX7_isFutile_46 (by decide) ?_
          refine topK (a := 0) (by decide) (fun k_29 hk_29 => ?_)
          refine tVi (b := a0) (As := [.int a1, .int k_29]) (rest := [.int z_26, .ref a0]) F hK hN hO (c_X7_of_0 E ws kp as rd m_second ty ik un tk xt tp sp wrb nu nab iwb X0 a0 a1 k_29 ha0 ha1 (eqb hk_29) ((hX0).1)) mv_X7_of wd_26_20 ⟨Nat.le_of_ble_eq_true rfl, Nat.le_of_ble_eq_true rfl⟩ ⟨Nat.le_of_ble_eq_true rfl, Nat.le_of_ble_eq_true rfl⟩ hH hS (tRecv hK hH (tyb ha0 (all1 rfl)) clX7) rfl hl.1 (Nat.le_of_ble_eq_true rfl) dX7_isFutile_47 (fun z_30 H locs hq hS => ?_)
          obtain ⟨f_31, f_32, hH⟩ := hq
          have hH : TH E (tbM (mD (.inl tp) (.inl sp) (.inl nu) (.inl un) (.inl tk) (.inl xt) (.inl wrb) (.inl nab) (.inl iwb)) (xD 660 X0) ws kp as rd m_second ty ik) H := hH
          refine tVi (b := a0) (As := [.int z_26, .int z_30]) (rest := []) F hK hN hO (c_X7_runsTo E ws kp as rd m_second ty ik un tk xt tp sp wrb nu nab iwb X0 a0 z_26 z_30 ha0 f_27 hX0 (by omega)) mv_X7_runsTo wd_29_6 ⟨Nat.le_of_ble_eq_true rfl, Nat.le_of_ble_eq_true rfl⟩ ⟨Nat.le_of_ble_eq_true rfl, Nat.le_of_ble_eq_true rfl⟩ hH hS (tRecv hK hH (tyb ha0 (all1 rfl)) clX7) rfl hl.1 (Nat.le_of_ble_eq_true rfl) dX7_isFutile_50 (fun z_33 H locs hq hS => ?_)
          obtain ⟨f_34, hH⟩ := hq
          have hH : TH E (tbM (mD (.inl tp) (.inl sp) (.inl nu) (.inl un) (.inl tk) (.inl xt) (.inl wrb) (.inl nab) (.inl iwb)) (xD 660 X0) ws kp as rd m_second ty ik) H := hH
          refine z_eq (tgt := 60) F dX7_isFutile_53 (by decide) (fun c_35 => ?_) (fun c_35 => ?_)
          · skip
            have r_36 : 0 ≤ z_33.toInt ∧ z_33.toInt ≤ 0 := by have h9_ := f_34; omega
            refine lv_iconst (v := 0) F.1 F.2.1 dX7_isFutile_60 (by decide) ?_
            refine topK (a := 0) (by decide) (fun k_38 hk_38 => ?_)
            exact txI F hS dX7_isFutile_61 (nar01 (wkb (eqb hk_38) rfl rfl)) (⟨(wkb (eqb hk_38) rfl rfl), hH⟩)
          · skip
            have r_37 : 1 ≤ z_33.toInt ∧ z_33.toInt ≤ 1 := by have h9_ := f_34; omega
            refine lv_iconst (v := 1) F.1 F.2.1 dX7_isFutile_56 (by decide) ?_
            refine topK (a := 1) (by decide) (fun k_39 hk_39 => ?_)
            refine lv_goto (tgt := 61) F.1 F.2.1 dX7_isFutile_57 (by decide) ?_
            exact txI F hS dX7_isFutile_61 (nar01 (wkb (eqb hk_39) rfl rfl)) (⟨(wkb (eqb hk_39) rfl rfl), hH⟩)
set_option maxHeartbeats 4000000 in
set_option maxRecDepth 100000 in
theorem c_X7_outOfAll (E : Ev) (ws : TD) (kp : TD) (as : TD) (rd : TD) (sc : TD) (ty : TD) (ik : TD) (un : Int × Int) (tk : Int × Int) (xt : Int × Int) (tp : Int × Int) (sp : Int × Int) (wrb : Int × Int) (nu : Int × Int) (nab : Int × Int) (iwb : Int × Int) (X0 : Nat → Int32) (a0 : Nat) (ha0 : eT E a0 ∈ [24]) (hX0 : okR X0) : TcI E yX7_outOfAll cX7_outOfAll 4 .int ({ frames := 4, cells := 0, slots := 0, locals := 106 }) [.ref a0] (fun H => TH E (tbM (mD (.inl tp) (.inl sp) (.inl nu) (.inl un) (.inl tk) (.inl xt) (.inl wrb) (.inl nab) (.inl iwb)) (xD 660 X0) ws kp as rd sc ty ik) H) (fun v H => ((-2147483648) ≤ v.toInt ∧ v.toInt ≤ 2147483647) ∧ TH E (tbM (mD (.inl tp) (.inl sp) (.inl nu) (.inl un) (.inl tk) (.inl xt) (.inl wrb) (.inl nab) (.inl iwb)) (xD 660 X0) ws kp as rd sc ty ik) H) := by
  refine teI (by decide) (Nat.le_of_ble_eq_true rfl) ?_
  intro p_ ev_ s mi_ below_ meth cd_ ls F hK hN hO hH hS hl
  have hH : TH E (tbM (mD (.inl tp) (.inl sp) (.inl nu) (.inl un) (.inl tk) (.inl xt) (.inl wrb) (.inl nab) (.inl iwb)) (xD 660 X0) ws kp as rd sc ty ik) s.heap := hH
  have hl : lv_has ls 4 [(0, .ref a0)] := hl
  have hBX0 := okB hX0.1
  have hLX0 := hX0.2
  refine lv_aload_n F.1 F.2.1 dX7_outOfAll_0 rfl (lv_at hl 0 rfl) ?_
  refine tVi (b := a0) (As := []) (rest := []) F hK hN hO (c_X7_canBe E ws kp as rd sc ty ik un tk xt tp sp wrb nu nab iwb X0 a0 ha0 hX0) mv_X7_canBe wd_28_2 ⟨Nat.le_of_ble_eq_true rfl, Nat.le_of_ble_eq_true rfl⟩ ⟨Nat.le_of_ble_eq_true rfl, Nat.le_of_ble_eq_true rfl⟩ hH hS (tRecv hK hH (tyb ha0 (all1 rfl)) clX7) rfl hl.1 (Nat.le_of_ble_eq_true rfl) dX7_outOfAll_1 (fun z_1 H locs hq hS => ?_)
  obtain ⟨f_2, hH⟩ := hq
  have hH : TH E (tbM (mD (.inl tp) (.inl sp) (.inl nu) (.inl un) (.inl tk) (.inl xt) (.inl wrb) (.inl nab) (.inl iwb)) (xD 660 X0) ws kp as rd sc ty ik) H := hH
  refine lv_istore_n (lv' := [(1, .int z_1), (0, .ref a0)]) F.1 F.2.1 dX7_outOfAll_4 rfl hl (by decide) rfl (fun ls hl => ?_)
  refine lv_iconst (v := 0) F.1 F.2.1 dX7_outOfAll_5 (by decide) ?_
  refine topK (a := 0) (by decide) (fun k_3 hk_3 => ?_)
  refine lv_istore_n (lv' := [(2, .int k_3), (1, .int z_1), (0, .ref a0)]) F.1 F.2.1 dX7_outOfAll_6 rfl hl (by decide) rfl (fun ls hl => ?_)
  refine lv_iconst (v := 0) F.1 F.2.1 dX7_outOfAll_7 (by decide) ?_
  refine topK (a := 0) (by decide) (fun k_4 hk_4 => ?_)
  refine lv_istore_n (lv' := [(3, .int k_4), (2, .int k_3), (1, .int z_1), (0, .ref a0)]) F.1 F.2.1 dX7_outOfAll_8 rfl hl (by decide) rfl (fun ls hl => ?_)
  refine wloop (σ := Int32 × Int32) (fun n9 x9 H locs ls => (12 - x9.2.toInt + 1).toNat < n9 ∧ (0 ≤ x9.2.toInt ∧ x9.2.toInt ≤ 12) ∧ TH E (tbM (mD (.inl tp) (.inl sp) (.inl nu) (.inl un) (.inl tk) (.inl xt) (.inl wrb) (.inl nab) (.inl iwb)) (xD 660 X0) ws kp as rd sc ty ik) H ∧ va_S (eA E s.heap.size) s.heap H locs ∧ lv_has ls 4 [(0, .ref a0), (2, .int x9.1), (3, .int x9.2)]) ?_ (fun x9 H locs ls h => absurd h.1 (Nat.not_lt_zero _)) _ (k_3, k_4) ⟨Nat.lt_succ_self _, (wkb (eqb hk_4) rfl rfl), hH, hS, lv_sub hl [3, 1, 0] rfl⟩
  intro n_9 ih_9 ⟨u_5, u_6⟩ H locs ls ⟨hm_9, hu_6, hH, hS, hl⟩
  have hm_9 : (12 - u_6.toInt + 1).toNat < n_9 + 1 := hm_9
  have hu_6 : (0 ≤ u_6.toInt ∧ u_6.toInt ≤ 12) := hu_6
  have hH : TH E (tbM (mD (.inl tp) (.inl sp) (.inl nu) (.inl un) (.inl tk) (.inl xt) (.inl wrb) (.inl nab) (.inl iwb)) (xD 660 X0) ws kp as rd sc ty ik) H := hH
  have hl : lv_has ls 4 [(0, .ref a0), (2, .int u_5), (3, .int u_6)] := hl
  refine lv_iload_n F.1 F.2.1 dX7_outOfAll_9 rfl (lv_at hl 2 rfl) ?_
  refine lv_aload_n F.1 F.2.1 dX7_outOfAll_10 rfl (lv_at hl 0 rfl) ?_
  refine tVi (b := a0) (As := []) (rest := [.int u_6]) F hK hN hO (c_X7_reaches E ws kp as rd sc ty ik un tk xt tp sp wrb nu nab iwb X0 a0 ha0 ((hX0).1)) mv_X7_reaches wd_28_7 ⟨Nat.le_of_ble_eq_true rfl, Nat.le_of_ble_eq_true rfl⟩ ⟨Nat.le_of_ble_eq_true rfl, Nat.le_of_ble_eq_true rfl⟩ hH hS (tRecv hK hH (tyb ha0 (all1 rfl)) clX7) rfl hl.1 (Nat.le_of_ble_eq_true rfl) dX7_outOfAll_11 (fun z_7 H locs hq hS => ?_)
  obtain ⟨f_8, f_9, hH⟩ := hq
  have hH : TH E (tbM (mD (.inl tp) (.inl sp) (.inl nu) (.inl un) (.inl tk) (.inl xt) (.inl wrb) (.inl nab) (.inl iwb)) (xD 660 X0) ws kp as rd sc ty ik) H := hH
  refine b_ge (tgt := 46) F dX7_outOfAll_14 (by decide) (fun c_10 => ?_) (fun c_10 => ?_)
  · skip
    refine lv_iload_n F.1 F.2.1 dX7_outOfAll_46 rfl (lv_at hl 1 rfl) ?_
    exact txI F hS dX7_outOfAll_47 rfl (⟨(i32b _), hH⟩)
  · skip
    have r_11 : 0 ≤ u_6.toInt ∧ u_6.toInt ≤ 11 := by have h9_ := hu_6; omega
    have r_12 : 1 ≤ z_7.toInt ∧ z_7.toInt ≤ 12 := by have h9_ := f_8; omega
    refine lv_iload_n F.1 F.2.1 dX7_outOfAll_17 rfl (lv_at hl 1 rfl) ?_
    refine lv_aload_n F.1 F.2.1 dX7_outOfAll_18 rfl (lv_at hl 0 rfl) ?_
    refine lv_iload_n F.1 F.2.1 dX7_outOfAll_19 rfl (lv_at hl 2 rfl) ?_
    refine lv_iconst (v := 0) F.1 F.2.1 dX7_outOfAll_20 (by decide) ?_
    refine topK (a := 0) (by decide) (fun k_13 hk_13 => ?_)
    refine tVi (b := a0) (As := [.int u_6, .int k_13]) (rest := [.int u_5]) F hK hN hO (c_X7_ofReach_0 E ws kp as rd sc ty ik un tk xt tp sp wrb nu nab iwb X0 a0 u_6 k_13 ha0 r_11 (eqb hk_13) ((hX0).1)) mv_X7_ofReach wd_28_15 ⟨Nat.le_of_ble_eq_true rfl, Nat.le_of_ble_eq_true rfl⟩ ⟨Nat.le_of_ble_eq_true rfl, Nat.le_of_ble_eq_true rfl⟩ hH hS (tRecv hK hH (tyb ha0 (all1 rfl)) clX7) rfl hl.1 (Nat.le_of_ble_eq_true rfl) dX7_outOfAll_21 (fun z_14 H locs hq hS => ?_)
    obtain ⟨f_15, f_16, f_17, hH⟩ := hq
    have hH : TH E (tbM (mD (.inl tp) (.inl sp) (.inl nu) (.inl un) (.inl tk) (.inl xt) (.inl wrb) (.inl nab) (.inl iwb)) (xD 660 X0) ws kp as rd sc ty ik) H := hH
    refine lv_iconst (v := (-1)) F.1 F.2.1 dX7_outOfAll_24 (by decide) ?_
    refine topK (a := (-1)) (by decide) (fun k_18 hk_18 => ?_)
    refine b_ne (tgt := 37) F dX7_outOfAll_25 (by decide) (fun c_19 => ?_) (fun c_19 => ?_)
    · skip
      have r_20 : 0 ≤ z_14.toInt ∧ z_14.toInt ≤ 10 := by have h9_ := f_15; omega
      refine lv_iconst (v := 0) F.1 F.2.1 dX7_outOfAll_37 (by decide) ?_
      refine topK (a := 0) (by decide) (fun k_22 hk_22 => ?_)
      refine tAdd (lo := (-2147483648)) (hi := 2147483647) F dX7_outOfAll_38 (i32b _) (eqb hk_22) rfl (fun z_23 hz_23 => ?_)
      refine lv_istore_n (lv' := [(2, .int z_23), (0, .ref a0), (3, .int u_6)]) F.1 F.2.1 dX7_outOfAll_39 rfl hl (by decide) rfl (fun ls hl => ?_)
      obtain ⟨x_24, ex_24, hx_24⟩ := iincB (c := 1) (lo := 1) (hi := 12) r_11 rfl
      refine lv_iinc (v := x_24) (lv' := [(3, .int x_24), (2, .int z_23), (0, .ref a0)]) F.1 F.2.1 dX7_outOfAll_40 hl (k := 2) rfl ex_24 (by decide) rfl (fun ls hl => ?_)
      refine lv_goto (tgt := 9) F.1 F.2.1 dX7_outOfAll_43 (by decide) ?_
      exact ih_9 (z_23, x_24) _ _ _ ⟨(show (12 - x_24.toInt + 1).toNat < n_9 from by omega), (wkb hx_24.2 rfl rfl), hH, hS, lv_sub hl [2, 1, 0] rfl⟩
    · skip
      have r_21 : (-1) ≤ z_14.toInt ∧ z_14.toInt ≤ (-1) := by have h9_ := f_15; omega
      refine lv_aload_n F.1 F.2.1 dX7_outOfAll_28 rfl (lv_at hl 0 rfl) ?_
      refine tGetR (j := 15) F hK hH (tyb ha0 (all1 rfl)) rfl (all1 rfl) clX7 (by decide) wd_6_19 dX7_outOfAll_29 (fun q_25 hq_25 _ => ?_)
      refine lv_iload_n F.1 F.2.1 dX7_outOfAll_32 rfl (lv_at hl 2 rfl) ?_
      refine tIaldB F hK hH (tyb hq_25 (all1 rfl)) (ixb (n := 12) r_11 rfl rfl) dX7_outOfAll_33 (fun z_26 hz_26 => ?_)
      refine lv_goto (tgt := 38) F.1 F.2.1 dX7_outOfAll_34 (by decide) ?_
      refine lv_iadd F.1 F.2.1 dX7_outOfAll_38 ?_
      refine topF (fun z_27 => ?_)
      refine lv_istore_n (lv' := [(2, .int z_27), (0, .ref a0), (3, .int u_6)]) F.1 F.2.1 dX7_outOfAll_39 rfl hl (by decide) rfl (fun ls hl => ?_)
      obtain ⟨x_28, ex_28, hx_28⟩ := iincB (c := 1) (lo := 1) (hi := 12) r_11 rfl
      refine lv_iinc (v := x_28) (lv' := [(3, .int x_28), (2, .int z_27), (0, .ref a0)]) F.1 F.2.1 dX7_outOfAll_40 hl (k := 2) rfl ex_28 (by decide) rfl (fun ls hl => ?_)
      refine lv_goto (tgt := 9) F.1 F.2.1 dX7_outOfAll_43 (by decide) ?_
      exact ih_9 (z_27, x_28) _ _ _ ⟨(show (12 - x_28.toInt + 1).toNat < n_9 from by omega), (wkb hx_28.2 rfl rfl), hH, hS, lv_sub hl [2, 1, 0] rfl⟩
set_option maxHeartbeats 4000000 in
set_option maxRecDepth 100000 in
theorem c_X7_orders (E : Ev) (ws : TD) (kp : TD) (as : TD) (rd : TD) (sc : TD) (ty : TD) (ik : TD) (un : Int × Int) (tk : Int × Int) (xt : Int × Int) (tp : Int × Int) (sp : Int × Int) (wrb : Int × Int) (nu : Int × Int) (nab : Int × Int) (iwb : Int × Int) (X0 : Nat → Int32) (a0 : Nat) (ha0 : eT E a0 ∈ [24]) (hX0 : okR X0) : TcI E yX7_orders cX7_orders 3 .int ({ frames := 2, cells := 0, slots := 0, locals := 62 }) [.ref a0] (fun H => TH E (tbM (mD (.inl tp) (.inl sp) (.inl nu) (.inl un) (.inl tk) (.inl xt) (.inl wrb) (.inl nab) (.inl iwb)) (xD 660 X0) ws kp as rd sc ty ik) H) (fun v H => ((-2147483648) ≤ v.toInt ∧ v.toInt ≤ 2147483647) ∧ TH E (tbM (mD (.inl tp) (.inl sp) (.inl nu) (.inl un) (.inl tk) (.inl xt) (.inl wrb) (.inl nab) (.inl iwb)) (xD 660 X0) ws kp as rd sc ty ik) H) := by
  refine teI (by decide) (Nat.le_of_ble_eq_true rfl) ?_
  intro p_ ev_ s mi_ below_ meth cd_ ls F hK hN hO hH hS hl
  have hH : TH E (tbM (mD (.inl tp) (.inl sp) (.inl nu) (.inl un) (.inl tk) (.inl xt) (.inl wrb) (.inl nab) (.inl iwb)) (xD 660 X0) ws kp as rd sc ty ik) s.heap := hH
  have hl : lv_has ls 3 [(0, .ref a0)] := hl
  have hBX0 := okB hX0.1
  have hLX0 := hX0.2
  refine lv_iconst (v := 0) F.1 F.2.1 dX7_orders_0 (by decide) ?_
  refine topK (a := 0) (by decide) (fun k_1 hk_1 => ?_)
  refine lv_istore_n (lv' := [(1, .int k_1), (0, .ref a0)]) F.1 F.2.1 dX7_orders_1 rfl hl (by decide) rfl (fun ls hl => ?_)
  refine lv_iconst (v := 0) F.1 F.2.1 dX7_orders_2 (by decide) ?_
  refine topK (a := 0) (by decide) (fun k_2 hk_2 => ?_)
  refine lv_istore_n (lv' := [(2, .int k_2), (1, .int k_1), (0, .ref a0)]) F.1 F.2.1 dX7_orders_3 rfl hl (by decide) rfl (fun ls hl => ?_)
  refine wloop (σ := Int32 × Int32) (fun n9 x9 H locs ls => (4 - x9.2.toInt + 1).toNat < n9 ∧ (0 ≤ x9.2.toInt ∧ x9.2.toInt ≤ 4) ∧ TH E (tbM (mD (.inl tp) (.inl sp) (.inl nu) (.inl un) (.inl tk) (.inl xt) (.inl wrb) (.inl nab) (.inl iwb)) (xD 660 X0) ws kp as rd sc ty ik) H ∧ va_S (eA E s.heap.size) s.heap H locs ∧ lv_has ls 3 [(0, .ref a0), (1, .int x9.1), (2, .int x9.2)]) ?_ (fun x9 H locs ls h => absurd h.1 (Nat.not_lt_zero _)) _ (k_1, k_2) ⟨Nat.lt_succ_self _, (wkb (eqb hk_2) rfl rfl), hH, hS, lv_sub hl [2, 1, 0] rfl⟩
  intro n_4 ih_4 ⟨u_3, u_4⟩ H locs ls ⟨hm_4, hu_4, hH, hS, hl⟩
  have hm_4 : (4 - u_4.toInt + 1).toNat < n_4 + 1 := hm_4
  have hu_4 : (0 ≤ u_4.toInt ∧ u_4.toInt ≤ 4) := hu_4
  have hH : TH E (tbM (mD (.inl tp) (.inl sp) (.inl nu) (.inl un) (.inl tk) (.inl xt) (.inl wrb) (.inl nab) (.inl iwb)) (xD 660 X0) ws kp as rd sc ty ik) H := hH
  have hl : lv_has ls 3 [(0, .ref a0), (1, .int u_3), (2, .int u_4)] := hl
  refine lv_iload_n F.1 F.2.1 dX7_orders_4 rfl (lv_at hl 2 rfl) ?_
  refine lv_aload_n F.1 F.2.1 dX7_orders_5 rfl (lv_at hl 0 rfl) ?_
  refine tVi (b := a0) (As := []) (rest := [.int u_4]) F hK hN hO (c_X7_stores E ws kp as rd sc ty ik un tk xt tp sp wrb nu nab iwb X0 a0 ha0 ((hX0).1)) mv_X7_stores wd_26_12 ⟨Nat.le_of_ble_eq_true rfl, Nat.le_of_ble_eq_true rfl⟩ ⟨Nat.le_of_ble_eq_true rfl, Nat.le_of_ble_eq_true rfl⟩ hH hS (tRecv hK hH (tyb ha0 (all1 rfl)) clX7) rfl hl.1 (Nat.le_of_ble_eq_true rfl) dX7_orders_6 (fun z_5 H locs hq hS => ?_)
  obtain ⟨f_6, f_7, hH⟩ := hq
  have hH : TH E (tbM (mD (.inl tp) (.inl sp) (.inl nu) (.inl un) (.inl tk) (.inl xt) (.inl wrb) (.inl nab) (.inl iwb)) (xD 660 X0) ws kp as rd sc ty ik) H := hH
  refine b_ge (tgt := 37) F dX7_orders_9 (by decide) (fun c_8 => ?_) (fun c_8 => ?_)
  · skip
    refine lv_iload_n F.1 F.2.1 dX7_orders_37 rfl (lv_at hl 1 rfl) ?_
    exact txI F hS dX7_orders_38 rfl (⟨(i32b _), hH⟩)
  · skip
    have r_9 : 0 ≤ u_4.toInt ∧ u_4.toInt ≤ 3 := by have h9_ := hu_4; omega
    have r_10 : 1 ≤ z_5.toInt ∧ z_5.toInt ≤ 4 := by have h9_ := f_6; omega
    refine lv_iload_n F.1 F.2.1 dX7_orders_12 rfl (lv_at hl 1 rfl) ?_
    refine lv_aload_n F.1 F.2.1 dX7_orders_13 rfl (lv_at hl 0 rfl) ?_
    refine lv_iload_n F.1 F.2.1 dX7_orders_14 rfl (lv_at hl 2 rfl) ?_
    refine lv_iconst (v := 5) F.1 F.2.1 dX7_orders_15 (by decide) ?_
    refine topK (a := 5) (by decide) (fun k_11 hk_11 => ?_)
    refine tVi (b := a0) (As := [.int u_4, .int k_11]) (rest := [.int u_3]) F hK hN hO (c_X7_ofStore_5 E ws kp as rd sc ty ik un tk xt tp sp wrb nu nab iwb X0 a0 u_4 k_11 ha0 r_9 (eqb hk_11) ((hX0).1)) mv_X7_ofStore wd_27_0 ⟨Nat.le_of_ble_eq_true rfl, Nat.le_of_ble_eq_true rfl⟩ ⟨Nat.le_of_ble_eq_true rfl, Nat.le_of_ble_eq_true rfl⟩ hH hS (tRecv hK hH (tyb ha0 (all1 rfl)) clX7) rfl hl.1 (Nat.le_of_ble_eq_true rfl) dX7_orders_16 (fun z_12 H locs hq hS => ?_)
    obtain ⟨f_13, f_14, f_15, hH⟩ := hq
    have hH : TH E (tbM (mD (.inl tp) (.inl sp) (.inl nu) (.inl un) (.inl tk) (.inl xt) (.inl wrb) (.inl nab) (.inl iwb)) (xD 660 X0) ws kp as rd sc ty ik) H := hH
    refine lv_bipush (v := (-2)) F.1 F.2.1 dX7_orders_19 (by decide) ?_
    refine topK (a := (-2)) (by decide) (fun k_16 hk_16 => ?_)
    refine b_ne (tgt := 28) F dX7_orders_21 (by decide) (fun c_17 => ?_) (fun c_17 => ?_)
    · skip
      have r_18 : 0 ≤ z_12.toInt ∧ z_12.toInt ≤ 13 := by have h9_ := f_13; omega
      refine lv_iconst (v := 1) F.1 F.2.1 dX7_orders_28 (by decide) ?_
      refine topK (a := 1) (by decide) (fun k_20 hk_20 => ?_)
      refine lv_iadd F.1 F.2.1 dX7_orders_29 ?_
      refine topF (fun z_21 => ?_)
      refine lv_istore_n (lv' := [(1, .int z_21), (0, .ref a0), (2, .int u_4)]) F.1 F.2.1 dX7_orders_30 rfl hl (by decide) rfl (fun ls hl => ?_)
      obtain ⟨x_22, ex_22, hx_22⟩ := iincB (c := 1) (lo := 1) (hi := 4) r_9 rfl
      refine lv_iinc (v := x_22) (lv' := [(2, .int x_22), (1, .int z_21), (0, .ref a0)]) F.1 F.2.1 dX7_orders_31 hl (k := 2) rfl ex_22 (by decide) rfl (fun ls hl => ?_)
      refine lv_goto (tgt := 4) F.1 F.2.1 dX7_orders_34 (by decide) ?_
      exact ih_4 (z_21, x_22) _ _ _ ⟨(show (4 - x_22.toInt + 1).toNat < n_4 from by omega), (wkb hx_22.2 rfl rfl), hH, hS, lv_sub hl [2, 1, 0] rfl⟩
    · skip
      have r_19 : (-2) ≤ z_12.toInt ∧ z_12.toInt ≤ (-2) := by have h9_ := f_13; omega
      refine lv_iconst (v := 0) F.1 F.2.1 dX7_orders_24 (by decide) ?_
      refine topK (a := 0) (by decide) (fun k_23 hk_23 => ?_)
      refine lv_goto (tgt := 29) F.1 F.2.1 dX7_orders_25 (by decide) ?_
      refine tAdd (lo := (-2147483648)) (hi := 2147483647) F dX7_orders_29 (i32b _) (eqb hk_23) rfl (fun z_24 hz_24 => ?_)
      refine lv_istore_n (lv' := [(1, .int z_24), (0, .ref a0), (2, .int u_4)]) F.1 F.2.1 dX7_orders_30 rfl hl (by decide) rfl (fun ls hl => ?_)
      obtain ⟨x_25, ex_25, hx_25⟩ := iincB (c := 1) (lo := 1) (hi := 4) r_9 rfl
      refine lv_iinc (v := x_25) (lv' := [(2, .int x_25), (1, .int z_24), (0, .ref a0)]) F.1 F.2.1 dX7_orders_31 hl (k := 2) rfl ex_25 (by decide) rfl (fun ls hl => ?_)
      refine lv_goto (tgt := 4) F.1 F.2.1 dX7_orders_34 (by decide) ?_
      exact ih_4 (z_24, x_25) _ _ _ ⟨(show (4 - x_25.toInt + 1).toNat < n_4 from by omega), (wkb hx_25.2 rfl rfl), hH, hS, lv_sub hl [2, 1, 0] rfl⟩
set_option maxHeartbeats 4000000 in
set_option maxRecDepth 100000 in
theorem c_X7_bartersMany (E : Ev) (ws : TD) (kp : TD) (as : TD) (rd : TD) (sc : TD) (ty : TD) (ik : TD) (un : Int × Int) (tk : Int × Int) (xt : Int × Int) (tp : Int × Int) (sp : Int × Int) (wrb : Int × Int) (nu : Int × Int) (nab : Int × Int) (iwb : Int × Int) (X0 : Nat → Int32) (a0 : Nat) (ha0 : eT E a0 ∈ [24]) (hX0 : okR X0) : TcI E yX7_bartersMany cX7_bartersMany 3 .int ({ frames := 2, cells := 0, slots := 0, locals := 62 }) [.ref a0] (fun H => TH E (tbM (mD (.inl tp) (.inl sp) (.inl nu) (.inl un) (.inl tk) (.inl xt) (.inl wrb) (.inl nab) (.inl iwb)) (xD 660 X0) ws kp as rd sc ty ik) H) (fun v H => ((-2147483648) ≤ v.toInt ∧ v.toInt ≤ 2147483647) ∧ TH E (tbM (mD (.inl tp) (.inl sp) (.inl nu) (.inl un) (.inl tk) (.inl xt) (.inl wrb) (.inl nab) (.inl iwb)) (xD 660 X0) ws kp as rd sc ty ik) H) := by
  refine teI (by decide) (Nat.le_of_ble_eq_true rfl) ?_
  intro p_ ev_ s mi_ below_ meth cd_ ls F hK hN hO hH hS hl
  have hH : TH E (tbM (mD (.inl tp) (.inl sp) (.inl nu) (.inl un) (.inl tk) (.inl xt) (.inl wrb) (.inl nab) (.inl iwb)) (xD 660 X0) ws kp as rd sc ty ik) s.heap := hH
  have hl : lv_has ls 3 [(0, .ref a0)] := hl
  have hBX0 := okB hX0.1
  have hLX0 := hX0.2
  refine lv_iconst (v := 0) F.1 F.2.1 dX7_bartersMany_0 (by decide) ?_
  refine topK (a := 0) (by decide) (fun k_1 hk_1 => ?_)
  refine lv_istore_n (lv' := [(1, .int k_1), (0, .ref a0)]) F.1 F.2.1 dX7_bartersMany_1 rfl hl (by decide) rfl (fun ls hl => ?_)
  refine lv_iconst (v := 0) F.1 F.2.1 dX7_bartersMany_2 (by decide) ?_
  refine topK (a := 0) (by decide) (fun k_2 hk_2 => ?_)
  refine lv_istore_n (lv' := [(2, .int k_2), (1, .int k_1), (0, .ref a0)]) F.1 F.2.1 dX7_bartersMany_3 rfl hl (by decide) rfl (fun ls hl => ?_)
  refine wloop (σ := Int32 × Int32) (fun n9 x9 H locs ls => (14 - x9.2.toInt + 1).toNat < n9 ∧ (0 ≤ x9.2.toInt ∧ x9.2.toInt ≤ 14) ∧ TH E (tbM (mD (.inl tp) (.inl sp) (.inl nu) (.inl un) (.inl tk) (.inl xt) (.inl wrb) (.inl nab) (.inl iwb)) (xD 660 X0) ws kp as rd sc ty ik) H ∧ va_S (eA E s.heap.size) s.heap H locs ∧ lv_has ls 3 [(0, .ref a0), (1, .int x9.1), (2, .int x9.2)]) ?_ (fun x9 H locs ls h => absurd h.1 (Nat.not_lt_zero _)) _ (k_1, k_2) ⟨Nat.lt_succ_self _, (wkb (eqb hk_2) rfl rfl), hH, hS, lv_sub hl [2, 1, 0] rfl⟩
  intro n_4 ih_4 ⟨u_3, u_4⟩ H locs ls ⟨hm_4, hu_4, hH, hS, hl⟩
  have hm_4 : (14 - u_4.toInt + 1).toNat < n_4 + 1 := hm_4
  have hu_4 : (0 ≤ u_4.toInt ∧ u_4.toInt ≤ 14) := hu_4
  have hH : TH E (tbM (mD (.inl tp) (.inl sp) (.inl nu) (.inl un) (.inl tk) (.inl xt) (.inl wrb) (.inl nab) (.inl iwb)) (xD 660 X0) ws kp as rd sc ty ik) H := hH
  have hl : lv_has ls 3 [(0, .ref a0), (1, .int u_3), (2, .int u_4)] := hl
  refine lv_iload_n F.1 F.2.1 dX7_bartersMany_4 rfl (lv_at hl 2 rfl) ?_
  refine lv_aload_n F.1 F.2.1 dX7_bartersMany_5 rfl (lv_at hl 0 rfl) ?_
  refine tVi (b := a0) (As := []) (rest := [.int u_4]) F hK hN hO (c_X7_rights E ws kp as rd sc ty ik un tk xt tp sp wrb nu nab iwb X0 a0 ha0 ((hX0).1)) mv_X7_rights wd_19_4 ⟨Nat.le_of_ble_eq_true rfl, Nat.le_of_ble_eq_true rfl⟩ ⟨Nat.le_of_ble_eq_true rfl, Nat.le_of_ble_eq_true rfl⟩ hH hS (tRecv hK hH (tyb ha0 (all1 rfl)) clX7) rfl hl.1 (Nat.le_of_ble_eq_true rfl) dX7_bartersMany_6 (fun z_5 H locs hq hS => ?_)
  obtain ⟨f_6, f_7, hH⟩ := hq
  have hH : TH E (tbM (mD (.inl tp) (.inl sp) (.inl nu) (.inl un) (.inl tk) (.inl xt) (.inl wrb) (.inl nab) (.inl iwb)) (xD 660 X0) ws kp as rd sc ty ik) H := hH
  refine b_ge (tgt := 38) F dX7_bartersMany_9 (by decide) (fun c_8 => ?_) (fun c_8 => ?_)
  · skip
    refine lv_iload_n F.1 F.2.1 dX7_bartersMany_38 rfl (lv_at hl 1 rfl) ?_
    exact txI F hS dX7_bartersMany_39 rfl (⟨(i32b _), hH⟩)
  · skip
    have r_9 : 0 ≤ u_4.toInt ∧ u_4.toInt ≤ 13 := by have h9_ := hu_4; omega
    have r_10 : 1 ≤ z_5.toInt ∧ z_5.toInt ≤ 14 := by have h9_ := f_6; omega
    refine lv_iload_n F.1 F.2.1 dX7_bartersMany_12 rfl (lv_at hl 1 rfl) ?_
    refine lv_aload_n F.1 F.2.1 dX7_bartersMany_13 rfl (lv_at hl 0 rfl) ?_
    refine lv_iload_n F.1 F.2.1 dX7_bartersMany_14 rfl (lv_at hl 2 rfl) ?_
    refine lv_bipush (v := 11) F.1 F.2.1 dX7_bartersMany_15 (by decide) ?_
    refine topK (a := 11) (by decide) (fun k_11 hk_11 => ?_)
    refine tVi (b := a0) (As := [.int u_4, .int k_11]) (rest := [.int u_3]) F hK hN hO (c_X7_of_11 E ws kp as rd sc ty ik un tk xt tp sp wrb nu nab iwb X0 a0 u_4 k_11 ha0 r_9 (eqb hk_11) ((hX0).1)) mv_X7_of wd_26_20 ⟨Nat.le_of_ble_eq_true rfl, Nat.le_of_ble_eq_true rfl⟩ ⟨Nat.le_of_ble_eq_true rfl, Nat.le_of_ble_eq_true rfl⟩ hH hS (tRecv hK hH (tyb ha0 (all1 rfl)) clX7) rfl hl.1 (Nat.le_of_ble_eq_true rfl) dX7_bartersMany_17 (fun z_12 H locs hq hS => ?_)
    obtain ⟨f_13, f_14, f_15, hH⟩ := hq
    have hH : TH E (tbM (mD (.inl tp) (.inl sp) (.inl nu) (.inl un) (.inl tk) (.inl xt) (.inl wrb) (.inl nab) (.inl iwb)) (xD 660 X0) ws kp as rd sc ty ik) H := hH
    refine lv_bipush (v := (-2)) F.1 F.2.1 dX7_bartersMany_20 (by decide) ?_
    refine topK (a := (-2)) (by decide) (fun k_16 hk_16 => ?_)
    refine b_ne (tgt := 29) F dX7_bartersMany_22 (by decide) (fun c_17 => ?_) (fun c_17 => ?_)
    · skip
      have r_18 : 0 ≤ z_12.toInt ∧ z_12.toInt ≤ 3 := by have h9_ := f_13; omega
      refine lv_iconst (v := 1) F.1 F.2.1 dX7_bartersMany_29 (by decide) ?_
      refine topK (a := 1) (by decide) (fun k_20 hk_20 => ?_)
      refine lv_iadd F.1 F.2.1 dX7_bartersMany_30 ?_
      refine topF (fun z_21 => ?_)
      refine lv_istore_n (lv' := [(1, .int z_21), (0, .ref a0), (2, .int u_4)]) F.1 F.2.1 dX7_bartersMany_31 rfl hl (by decide) rfl (fun ls hl => ?_)
      obtain ⟨x_22, ex_22, hx_22⟩ := iincB (c := 1) (lo := 1) (hi := 14) r_9 rfl
      refine lv_iinc (v := x_22) (lv' := [(2, .int x_22), (1, .int z_21), (0, .ref a0)]) F.1 F.2.1 dX7_bartersMany_32 hl (k := 2) rfl ex_22 (by decide) rfl (fun ls hl => ?_)
      refine lv_goto (tgt := 4) F.1 F.2.1 dX7_bartersMany_35 (by decide) ?_
      exact ih_4 (z_21, x_22) _ _ _ ⟨(show (14 - x_22.toInt + 1).toNat < n_4 from by omega), (wkb hx_22.2 rfl rfl), hH, hS, lv_sub hl [2, 1, 0] rfl⟩
    · skip
      have r_19 : (-2) ≤ z_12.toInt ∧ z_12.toInt ≤ (-2) := by have h9_ := f_13; omega
      refine lv_iconst (v := 0) F.1 F.2.1 dX7_bartersMany_25 (by decide) ?_
      refine topK (a := 0) (by decide) (fun k_23 hk_23 => ?_)
      refine lv_goto (tgt := 30) F.1 F.2.1 dX7_bartersMany_26 (by decide) ?_
      refine tAdd (lo := (-2147483648)) (hi := 2147483647) F dX7_bartersMany_30 (i32b _) (eqb hk_23) rfl (fun z_24 hz_24 => ?_)
      refine lv_istore_n (lv' := [(1, .int z_24), (0, .ref a0), (2, .int u_4)]) F.1 F.2.1 dX7_bartersMany_31 rfl hl (by decide) rfl (fun ls hl => ?_)
      obtain ⟨x_25, ex_25, hx_25⟩ := iincB (c := 1) (lo := 1) (hi := 14) r_9 rfl
      refine lv_iinc (v := x_25) (lv' := [(2, .int x_25), (1, .int z_24), (0, .ref a0)]) F.1 F.2.1 dX7_bartersMany_32 hl (k := 2) rfl ex_25 (by decide) rfl (fun ls hl => ?_)
      refine lv_goto (tgt := 4) F.1 F.2.1 dX7_bartersMany_35 (by decide) ?_
      exact ih_4 (z_24, x_25) _ _ _ ⟨(show (14 - x_25.toInt + 1).toNat < n_4 from by omega), (wkb hx_25.2 rfl rfl), hH, hS, lv_sub hl [2, 1, 0] rfl⟩
set_option maxHeartbeats 4000000 in
set_option maxRecDepth 100000 in
theorem c_X7_inStores (E : Ev) (ws : TD) (kp : TD) (as : TD) (rd : TD) (sc : TD) (ty : TD) (ik : TD) (un : Int × Int) (tk : Int × Int) (xt : Int × Int) (tp : Int × Int) (sp : Int × Int) (wrb : Int × Int) (nu : Int × Int) (nab : Int × Int) (iwb : Int × Int) (X0 : Nat → Int32) (a0 : Nat) (ha0 : eT E a0 ∈ [24]) (hX0 : okR X0) : TcL E yX7_inStores cX7_inStores 4 ({ frames := 2, cells := 0, slots := 0, locals := 62 }) [.ref a0] (fun H => TH E (tbM (mD (.inl tp) (.inl sp) (.inl nu) (.inl un) (.inl tk) (.inl xt) (.inl wrb) (.inl nab) (.inl iwb)) (xD 660 X0) ws kp as rd sc ty ik) H) (fun v H => TH E (tbM (mD (.inl tp) (.inl sp) (.inl nu) (.inl un) (.inl tk) (.inl xt) (.inl wrb) (.inl nab) (.inl iwb)) (xD 660 X0) ws kp as rd sc ty ik) H) := by
  refine teL (by decide) (Nat.le_of_ble_eq_true rfl) ?_
  intro p_ ev_ s mi_ below_ meth cd_ ls F hK hN hO hH hS hl
  have hH : TH E (tbM (mD (.inl tp) (.inl sp) (.inl nu) (.inl un) (.inl tk) (.inl xt) (.inl wrb) (.inl nab) (.inl iwb)) (xD 660 X0) ws kp as rd sc ty ik) s.heap := hH
  have hl : lv_has ls 4 [(0, .ref a0)] := hl
  have hBX0 := okB hX0.1
  have hLX0 := hX0.2
  refine lv_lconst (v := 0) F.1 F.2.1 dX7_inStores_0 (by decide) ?_
  refine topKL (a := 0) (by decide) (fun j_1 hj_1 => ?_)
  refine lv_lstore_n (lv' := [(1, .long j_1), (0, .ref a0)]) F.1 F.2.1 dX7_inStores_1 rfl hl (by decide) rfl (fun ls hl => ?_)
  refine lv_iconst (v := 0) F.1 F.2.1 dX7_inStores_2 (by decide) ?_
  refine topK (a := 0) (by decide) (fun k_2 hk_2 => ?_)
  refine lv_istore_n (lv' := [(3, .int k_2), (1, .long j_1), (0, .ref a0)]) F.1 F.2.1 dX7_inStores_3 rfl hl (by decide) rfl (fun ls hl => ?_)
  refine wloop (σ := Int64 × Int32) (fun n9 x9 H locs ls => (4 - x9.2.toInt + 1).toNat < n9 ∧ (0 ≤ x9.2.toInt ∧ x9.2.toInt ≤ 4) ∧ TH E (tbM (mD (.inl tp) (.inl sp) (.inl nu) (.inl un) (.inl tk) (.inl xt) (.inl wrb) (.inl nab) (.inl iwb)) (xD 660 X0) ws kp as rd sc ty ik) H ∧ va_S (eA E s.heap.size) s.heap H locs ∧ lv_has ls 4 [(0, .ref a0), (1, .long x9.1), (3, .int x9.2)]) ?_ (fun x9 H locs ls h => absurd h.1 (Nat.not_lt_zero _)) _ (j_1, k_2) ⟨Nat.lt_succ_self _, (wkb (eqb hk_2) rfl rfl), hH, hS, lv_sub hl [2, 1, 0] rfl⟩
  intro n_4 ih_4 ⟨w_3, u_4⟩ H locs ls ⟨hm_4, hu_4, hH, hS, hl⟩
  have hm_4 : (4 - u_4.toInt + 1).toNat < n_4 + 1 := hm_4
  have hu_4 : (0 ≤ u_4.toInt ∧ u_4.toInt ≤ 4) := hu_4
  have hH : TH E (tbM (mD (.inl tp) (.inl sp) (.inl nu) (.inl un) (.inl tk) (.inl xt) (.inl wrb) (.inl nab) (.inl iwb)) (xD 660 X0) ws kp as rd sc ty ik) H := hH
  have hl : lv_has ls 4 [(0, .ref a0), (1, .long w_3), (3, .int u_4)] := hl
  refine lv_iload_n F.1 F.2.1 dX7_inStores_4 rfl (lv_at hl 2 rfl) ?_
  refine lv_aload_n F.1 F.2.1 dX7_inStores_5 rfl (lv_at hl 0 rfl) ?_
  refine tVi (b := a0) (As := []) (rest := [.int u_4]) F hK hN hO (c_X7_stores E ws kp as rd sc ty ik un tk xt tp sp wrb nu nab iwb X0 a0 ha0 ((hX0).1)) mv_X7_stores wd_26_12 ⟨Nat.le_of_ble_eq_true rfl, Nat.le_of_ble_eq_true rfl⟩ ⟨Nat.le_of_ble_eq_true rfl, Nat.le_of_ble_eq_true rfl⟩ hH hS (tRecv hK hH (tyb ha0 (all1 rfl)) clX7) rfl hl.1 (Nat.le_of_ble_eq_true rfl) dX7_inStores_6 (fun z_5 H locs hq hS => ?_)
  obtain ⟨f_6, f_7, hH⟩ := hq
  have hH : TH E (tbM (mD (.inl tp) (.inl sp) (.inl nu) (.inl un) (.inl tk) (.inl xt) (.inl wrb) (.inl nab) (.inl iwb)) (xD 660 X0) ws kp as rd sc ty ik) H := hH
  refine b_ge (tgt := 28) F dX7_inStores_9 (by decide) (fun c_8 => ?_) (fun c_8 => ?_)
  · skip
    refine lv_lload_n F.1 F.2.1 dX7_inStores_28 rfl (lv_at hl 1 rfl) ?_
    exact txL F hS dX7_inStores_29 (hH)
  · skip
    have r_9 : 0 ≤ u_4.toInt ∧ u_4.toInt ≤ 3 := by have h9_ := hu_4; omega
    have r_10 : 1 ≤ z_5.toInt ∧ z_5.toInt ≤ 4 := by have h9_ := f_6; omega
    refine lv_lload_n F.1 F.2.1 dX7_inStores_12 rfl (lv_at hl 1 rfl) ?_
    refine lv_aload_n F.1 F.2.1 dX7_inStores_13 rfl (lv_at hl 0 rfl) ?_
    refine lv_iload_n F.1 F.2.1 dX7_inStores_14 rfl (lv_at hl 2 rfl) ?_
    refine lv_iconst (v := 4) F.1 F.2.1 dX7_inStores_15 (by decide) ?_
    refine topK (a := 4) (by decide) (fun k_11 hk_11 => ?_)
    refine tVi (b := a0) (As := [.int u_4, .int k_11]) (rest := [.long w_3]) F hK hN hO (c_X7_ofStore_4 E ws kp as rd sc ty ik un tk xt tp sp wrb nu nab iwb X0 a0 u_4 k_11 ha0 r_9 (eqb hk_11) ((hX0).1)) mv_X7_ofStore wd_27_0 ⟨Nat.le_of_ble_eq_true rfl, Nat.le_of_ble_eq_true rfl⟩ ⟨Nat.le_of_ble_eq_true rfl, Nat.le_of_ble_eq_true rfl⟩ hH hS (tRecv hK hH (tyb ha0 (all1 rfl)) clX7) rfl hl.1 (Nat.le_of_ble_eq_true rfl) dX7_inStores_16 (fun z_12 H locs hq hS => ?_)
    obtain ⟨f_13, f_14, hH⟩ := hq
    have hH : TH E (tbM (mD (.inl tp) (.inl sp) (.inl nu) (.inl un) (.inl tk) (.inl xt) (.inl wrb) (.inl nab) (.inl iwb)) (xD 660 X0) ws kp as rd sc ty ik) H := hH
    refine tI2l F dX7_inStores_19 (fun w_15 hw_15 => ?_)
    refine lv_ladd F.1 F.2.1 dX7_inStores_20 ?_
    refine topFL (fun w_16 => ?_)
    refine lv_lstore_n (lv' := [(1, .long w_16), (0, .ref a0), (3, .int u_4)]) F.1 F.2.1 dX7_inStores_21 rfl hl (by decide) rfl (fun ls hl => ?_)
    obtain ⟨x_17, ex_17, hx_17⟩ := iincB (c := 1) (lo := 1) (hi := 4) r_9 rfl
    refine lv_iinc (v := x_17) (lv' := [(3, .int x_17), (1, .long w_16), (0, .ref a0)]) F.1 F.2.1 dX7_inStores_22 hl (k := 2) rfl ex_17 (by decide) rfl (fun ls hl => ?_)
    refine lv_goto (tgt := 4) F.1 F.2.1 dX7_inStores_25 (by decide) ?_
    exact ih_4 (w_16, x_17) _ _ _ ⟨(show (4 - x_17.toInt + 1).toNat < n_4 from by omega), (wkb hx_17.2 rfl rfl), hH, hS, lv_sub hl [2, 1, 0] rfl⟩
set_option maxHeartbeats 4000000 in
set_option maxRecDepth 100000 in
theorem c_X7_onItsWay (E : Ev) (ws : TD) (kp : TD) (as : TD) (rd : TD) (sc : TD) (ty : TD) (ik : TD) (un : Int × Int) (tk : Int × Int) (xt : Int × Int) (tp : Int × Int) (sp : Int × Int) (wrb : Int × Int) (nu : Int × Int) (nab : Int × Int) (iwb : Int × Int) (X0 : Nat → Int32) (a0 : Nat) (ha0 : eT E a0 ∈ [24]) (hX0 : okR X0) : TcL E yX7_onItsWay cX7_onItsWay 4 ({ frames := 1, cells := 0, slots := 0, locals := 40 }) [.ref a0] (fun H => TH E (tbM (mD (.inl tp) (.inl sp) (.inl nu) (.inl un) (.inl tk) (.inl xt) (.inl wrb) (.inl nab) (.inl iwb)) (xD 660 X0) ws kp as rd sc ty ik) H) (fun v H => TH E (tbM (mD (.inl tp) (.inl sp) (.inl nu) (.inl un) (.inl tk) (.inl xt) (.inl wrb) (.inl nab) (.inl iwb)) (xD 660 X0) ws kp as rd sc ty ik) H) := by
  refine teL (by decide) (Nat.le_of_ble_eq_true rfl) ?_
  intro p_ ev_ s mi_ below_ meth cd_ ls F hK hN hO hH hS hl
  have hH : TH E (tbM (mD (.inl tp) (.inl sp) (.inl nu) (.inl un) (.inl tk) (.inl xt) (.inl wrb) (.inl nab) (.inl iwb)) (xD 660 X0) ws kp as rd sc ty ik) s.heap := hH
  have hl : lv_has ls 4 [(0, .ref a0)] := hl
  have hBX0 := okB hX0.1
  have hLX0 := hX0.2
  refine lv_lconst (v := 0) F.1 F.2.1 dX7_onItsWay_0 (by decide) ?_
  refine topKL (a := 0) (by decide) (fun j_1 hj_1 => ?_)
  refine lv_lstore_n (lv' := [(1, .long j_1), (0, .ref a0)]) F.1 F.2.1 dX7_onItsWay_1 rfl hl (by decide) rfl (fun ls hl => ?_)
  refine lv_iconst (v := 0) F.1 F.2.1 dX7_onItsWay_2 (by decide) ?_
  refine topK (a := 0) (by decide) (fun k_2 hk_2 => ?_)
  refine lv_istore_n (lv' := [(3, .int k_2), (1, .long j_1), (0, .ref a0)]) F.1 F.2.1 dX7_onItsWay_3 rfl hl (by decide) rfl (fun ls hl => ?_)
  refine wloop (σ := Int64 × Int32) (fun n9 x9 H locs ls => (399 - x9.2.toInt + 1).toNat < n9 ∧ (0 ≤ x9.2.toInt ∧ x9.2.toInt ≤ 399) ∧ TH E (tbM (mD (.inl tp) (.inl sp) (.inl nu) (.inl un) (.inl tk) (.inl xt) (.inl wrb) (.inl nab) (.inl iwb)) (xD 660 X0) ws kp as rd sc ty ik) H ∧ va_S (eA E s.heap.size) s.heap H locs ∧ lv_has ls 4 [(0, .ref a0), (1, .long x9.1), (3, .int x9.2)]) ?_ (fun x9 H locs ls h => absurd h.1 (Nat.not_lt_zero _)) _ (j_1, k_2) ⟨Nat.lt_succ_self _, (wkb (eqb hk_2) rfl rfl), hH, hS, lv_sub hl [2, 1, 0] rfl⟩
  intro n_4 ih_4 ⟨w_3, u_4⟩ H locs ls ⟨hm_4, hu_4, hH, hS, hl⟩
  have hm_4 : (399 - u_4.toInt + 1).toNat < n_4 + 1 := hm_4
  have hu_4 : (0 ≤ u_4.toInt ∧ u_4.toInt ≤ 399) := hu_4
  have hH : TH E (tbM (mD (.inl tp) (.inl sp) (.inl nu) (.inl un) (.inl tk) (.inl xt) (.inl wrb) (.inl nab) (.inl iwb)) (xD 660 X0) ws kp as rd sc ty ik) H := hH
  have hl : lv_has ls 4 [(0, .ref a0), (1, .long w_3), (3, .int u_4)] := hl
  refine lv_iload_n F.1 F.2.1 dX7_onItsWay_4 rfl (lv_at hl 2 rfl) ?_
  refine lv_sipush (v := 372) F.1 F.2.1 dX7_onItsWay_5 (by decide) ?_
  refine topK (a := 372) (by decide) (fun k_5 hk_5 => ?_)
  refine b_ge (tgt := 31) F dX7_onItsWay_8 (by decide) (fun c_6 => ?_) (fun c_6 => ?_)
  · skip
    have r_7 : 372 ≤ u_4.toInt ∧ u_4.toInt ≤ 399 := by have h9_ := hu_4; omega
    refine lv_lload_n F.1 F.2.1 dX7_onItsWay_31 rfl (lv_at hl 1 rfl) ?_
    exact txL F hS dX7_onItsWay_32 (hH)
  · skip
    have r_8 : 0 ≤ u_4.toInt ∧ u_4.toInt ≤ 371 := by have h9_ := hu_4; omega
    refine lv_lload_n F.1 F.2.1 dX7_onItsWay_11 rfl (lv_at hl 1 rfl) ?_
    refine lv_aload_n F.1 F.2.1 dX7_onItsWay_12 rfl (lv_at hl 0 rfl) ?_
    refine tGetR (j := 0) F hK hH (tyb ha0 (all1 rfl)) rfl (all1 rfl) clX7 (by decide) wd_6_5 dX7_onItsWay_13 (fun q_9 hq_9 _ => ?_)
    refine lv_sipush (v := 288) F.1 F.2.1 dX7_onItsWay_16 (by decide) ?_
    refine topK (a := 288) (by decide) (fun k_10 hk_10 => ?_)
    refine lv_iload_n F.1 F.2.1 dX7_onItsWay_19 rfl (lv_at hl 2 rfl) ?_
    refine tAdd (lo := 288) (hi := 659) F dX7_onItsWay_20 (eqb hk_10) r_8 rfl (fun z_11 hz_11 => ?_)
    refine tIaldX F hK hH (tyb hq_9 (all1 rfl)) (ixb (n := 660) hz_11.2 rfl rfl) dX7_onItsWay_21 (fun z_12 ez_12 => ?_)
    refine tI2l F dX7_onItsWay_22 (fun w_13 hw_13 => ?_)
    refine lv_ladd F.1 F.2.1 dX7_onItsWay_23 ?_
    refine topFL (fun w_14 => ?_)
    refine lv_lstore_n (lv' := [(1, .long w_14), (0, .ref a0), (3, .int u_4)]) F.1 F.2.1 dX7_onItsWay_24 rfl hl (by decide) rfl (fun ls hl => ?_)
    obtain ⟨x_15, ex_15, hx_15⟩ := iincB (c := 1) (lo := 1) (hi := 372) r_8 rfl
    refine lv_iinc (v := x_15) (lv' := [(3, .int x_15), (1, .long w_14), (0, .ref a0)]) F.1 F.2.1 dX7_onItsWay_25 hl (k := 2) rfl ex_15 (by decide) rfl (fun ls hl => ?_)
    refine lv_goto (tgt := 4) F.1 F.2.1 dX7_onItsWay_28 (by decide) ?_
    exact ih_4 (w_14, x_15) _ _ _ ⟨(show (399 - x_15.toInt + 1).toNat < n_4 from by omega), (wkb hx_15.2 rfl rfl), hH, hS, lv_sub hl [2, 1, 0] rfl⟩
set_option maxHeartbeats 4000000 in
set_option maxRecDepth 100000 in
theorem c_X7_sumOf_1 (E : Ev) (m : TD) (nw : TD) (ws : TD) (kp : TD) (as : TD) (rd : TD) (sc : TD) (ty : TD) (ik : TD) (a0 : Nat) (ha0 : eT E a0 ∈ [47]) : TcI E yX7_sumOf cX7_sumOf 6 .int ({ frames := 1, cells := 0, slots := 0, locals := 40 }) [.ref a0] (fun H => TH E (tbM m nw ws kp as rd sc ty ik) H) (fun v H => ((-2147483648) ≤ v.toInt ∧ v.toInt ≤ 2147483647) ∧ TH E (tbM m nw ws kp as rd sc ty ik) H) := by
  refine teI (by decide) (Nat.le_of_ble_eq_true rfl) ?_
  intro p_ ev_ s mi_ below_ meth cd_ ls F hK hN hO hH hS hl
  have hH : TH E (tbM m nw ws kp as rd sc ty ik) s.heap := hH
  have hl : lv_has ls 6 [(0, .ref a0)] := hl
  refine lv_iconst (v := 0) F.1 F.2.1 dX7_sumOf_0 (by decide) ?_
  refine topK (a := 0) (by decide) (fun k_1 hk_1 => ?_)
  refine lv_istore_n (lv' := [(1, .int k_1), (0, .ref a0)]) F.1 F.2.1 dX7_sumOf_1 rfl hl (by decide) rfl (fun ls hl => ?_)
  refine lv_aload_n F.1 F.2.1 dX7_sumOf_2 rfl (lv_at hl 1 rfl) ?_
  refine lv_astore_n (lv' := [(2, .ref a0), (1, .int k_1), (0, .ref a0)]) F.1 F.2.1 dX7_sumOf_3 rfl hl (by decide) rfl (fun ls hl => ?_)
  refine lv_aload_n F.1 F.2.1 dX7_sumOf_4 rfl (lv_at hl 0 rfl) ?_
  refine tAlen (v := 14) F hK hH (tyb ha0 (all1 rfl)) rfl (by decide) dX7_sumOf_5 ?_
  refine topK (a := 14) (by decide) (fun k_2 hk_2 => ?_)
  refine lv_istore_n (lv' := [(3, .int k_2), (2, .ref a0), (1, .int k_1), (0, .ref a0)]) F.1 F.2.1 dX7_sumOf_6 rfl hl (by decide) rfl (fun ls hl => ?_)
  refine lv_iconst (v := 0) F.1 F.2.1 dX7_sumOf_7 (by decide) ?_
  refine topK (a := 0) (by decide) (fun k_3 hk_3 => ?_)
  refine lv_istore (lv' := [(4, .int k_3), (3, .int k_2), (2, .ref a0), (1, .int k_1), (0, .ref a0)]) F.1 F.2.1 dX7_sumOf_8 hl (by decide) rfl (fun ls hl => ?_)
  refine wloop (σ := Int32 × Int32) (fun n9 x9 H locs ls => (14 - x9.2.toInt + 1).toNat < n9 ∧ (0 ≤ x9.2.toInt ∧ x9.2.toInt ≤ 14) ∧ TH E (tbM m nw ws kp as rd sc ty ik) H ∧ va_S (eA E s.heap.size) s.heap H locs ∧ lv_has ls 6 [(1, .int x9.1), (2, .ref a0), (3, .int k_2), (4, .int x9.2)]) ?_ (fun x9 H locs ls h => absurd h.1 (Nat.not_lt_zero _)) _ (k_1, k_3) ⟨Nat.lt_succ_self _, (wkb (eqb hk_3) rfl rfl), hH, hS, lv_sub hl [3, 2, 1, 0] rfl⟩
  intro n_10 ih_10 ⟨u_4, u_5⟩ H locs ls ⟨hm_10, hu_5, hH, hS, hl⟩
  have hm_10 : (14 - u_5.toInt + 1).toNat < n_10 + 1 := hm_10
  have hu_5 : (0 ≤ u_5.toInt ∧ u_5.toInt ≤ 14) := hu_5
  have hH : TH E (tbM m nw ws kp as rd sc ty ik) H := hH
  have hl : lv_has ls 6 [(1, .int u_4), (2, .ref a0), (3, .int k_2), (4, .int u_5)] := hl
  refine lv_iload F.1 F.2.1 dX7_sumOf_10 (lv_at hl 3 rfl) ?_
  refine lv_iload_n F.1 F.2.1 dX7_sumOf_12 rfl (lv_at hl 2 rfl) ?_
  refine b_ge (tgt := 33) F dX7_sumOf_13 (by decide) (fun c_6 => ?_) (fun c_6 => ?_)
  · skip
    have r_7 : 14 ≤ u_5.toInt ∧ u_5.toInt ≤ 14 := by have h9_ := hu_5; omega
    refine lv_iload_n F.1 F.2.1 dX7_sumOf_33 rfl (lv_at hl 0 rfl) ?_
    exact txI F hS dX7_sumOf_34 rfl (⟨(i32b _), hH⟩)
  · skip
    have r_8 : 0 ≤ u_5.toInt ∧ u_5.toInt ≤ 13 := by have h9_ := hu_5; omega
    refine lv_aload_n F.1 F.2.1 dX7_sumOf_16 rfl (lv_at hl 1 rfl) ?_
    refine lv_iload F.1 F.2.1 dX7_sumOf_17 (lv_at hl 3 rfl) ?_
    refine tIaldB F hK hH (tyb ha0 (all1 rfl)) (ixb (n := 14) r_8 rfl rfl) dX7_sumOf_19 (fun z_9 hz_9 => ?_)
    refine lv_istore (lv' := [(5, .int z_9), (1, .int u_4), (2, .ref a0), (3, .int k_2), (4, .int u_5)]) F.1 F.2.1 dX7_sumOf_20 hl (by decide) rfl (fun ls hl => ?_)
    refine lv_iload_n F.1 F.2.1 dX7_sumOf_22 rfl (lv_at hl 1 rfl) ?_
    refine lv_iload F.1 F.2.1 dX7_sumOf_23 (lv_at hl 0 rfl) ?_
    refine lv_iadd F.1 F.2.1 dX7_sumOf_25 ?_
    refine topF (fun z_10 => ?_)
    refine lv_istore_n (lv' := [(1, .int z_10), (5, .int z_9), (2, .ref a0), (3, .int k_2), (4, .int u_5)]) F.1 F.2.1 dX7_sumOf_26 rfl hl (by decide) rfl (fun ls hl => ?_)
    obtain ⟨x_11, ex_11, hx_11⟩ := iincB (c := 1) (lo := 1) (hi := 14) r_8 rfl
    refine lv_iinc (v := x_11) (lv' := [(4, .int x_11), (1, .int z_10), (5, .int z_9), (2, .ref a0), (3, .int k_2)]) F.1 F.2.1 dX7_sumOf_27 hl (k := 4) rfl ex_11 (by decide) rfl (fun ls hl => ?_)
    refine lv_goto (tgt := 10) F.1 F.2.1 dX7_sumOf_30 (by decide) ?_
    exact ih_10 (z_10, x_11) _ _ _ ⟨(show (14 - x_11.toInt + 1).toNat < n_10 from by omega), (wkb hx_11.2 rfl rfl), hH, hS, lv_sub hl [1, 3, 4, 0] rfl⟩
set_option maxHeartbeats 4000000 in
set_option maxRecDepth 100000 in
theorem c_X7_sumOf_2 (E : Ev) (m : TD) (nw : TD) (ws : TD) (kp : TD) (as : TD) (rd : TD) (sc : TD) (ty : TD) (ik : TD) (a0 : Nat) (ha0 : eT E a0 ∈ [46]) : TcI E yX7_sumOf cX7_sumOf 6 .int ({ frames := 1, cells := 0, slots := 0, locals := 40 }) [.ref a0] (fun H => TH E (tbM m nw ws kp as rd sc ty ik) H) (fun v H => ((-2147483648) ≤ v.toInt ∧ v.toInt ≤ 2147483647) ∧ TH E (tbM m nw ws kp as rd sc ty ik) H) := by
  refine teI (by decide) (Nat.le_of_ble_eq_true rfl) ?_
  intro p_ ev_ s mi_ below_ meth cd_ ls F hK hN hO hH hS hl
  have hH : TH E (tbM m nw ws kp as rd sc ty ik) s.heap := hH
  have hl : lv_has ls 6 [(0, .ref a0)] := hl
  refine lv_iconst (v := 0) F.1 F.2.1 dX7_sumOf_0 (by decide) ?_
  refine topK (a := 0) (by decide) (fun k_1 hk_1 => ?_)
  refine lv_istore_n (lv' := [(1, .int k_1), (0, .ref a0)]) F.1 F.2.1 dX7_sumOf_1 rfl hl (by decide) rfl (fun ls hl => ?_)
  refine lv_aload_n F.1 F.2.1 dX7_sumOf_2 rfl (lv_at hl 1 rfl) ?_
  refine lv_astore_n (lv' := [(2, .ref a0), (1, .int k_1), (0, .ref a0)]) F.1 F.2.1 dX7_sumOf_3 rfl hl (by decide) rfl (fun ls hl => ?_)
  refine lv_aload_n F.1 F.2.1 dX7_sumOf_4 rfl (lv_at hl 0 rfl) ?_
  refine tAlen (v := 14) F hK hH (tyb ha0 (all1 rfl)) rfl (by decide) dX7_sumOf_5 ?_
  refine topK (a := 14) (by decide) (fun k_2 hk_2 => ?_)
  refine lv_istore_n (lv' := [(3, .int k_2), (2, .ref a0), (1, .int k_1), (0, .ref a0)]) F.1 F.2.1 dX7_sumOf_6 rfl hl (by decide) rfl (fun ls hl => ?_)
  refine lv_iconst (v := 0) F.1 F.2.1 dX7_sumOf_7 (by decide) ?_
  refine topK (a := 0) (by decide) (fun k_3 hk_3 => ?_)
  refine lv_istore (lv' := [(4, .int k_3), (3, .int k_2), (2, .ref a0), (1, .int k_1), (0, .ref a0)]) F.1 F.2.1 dX7_sumOf_8 hl (by decide) rfl (fun ls hl => ?_)
  refine wloop (σ := Int32 × Int32) (fun n9 x9 H locs ls => (14 - x9.2.toInt + 1).toNat < n9 ∧ (0 ≤ x9.2.toInt ∧ x9.2.toInt ≤ 14) ∧ TH E (tbM m nw ws kp as rd sc ty ik) H ∧ va_S (eA E s.heap.size) s.heap H locs ∧ lv_has ls 6 [(1, .int x9.1), (2, .ref a0), (3, .int k_2), (4, .int x9.2)]) ?_ (fun x9 H locs ls h => absurd h.1 (Nat.not_lt_zero _)) _ (k_1, k_3) ⟨Nat.lt_succ_self _, (wkb (eqb hk_3) rfl rfl), hH, hS, lv_sub hl [3, 2, 1, 0] rfl⟩
  intro n_10 ih_10 ⟨u_4, u_5⟩ H locs ls ⟨hm_10, hu_5, hH, hS, hl⟩
  have hm_10 : (14 - u_5.toInt + 1).toNat < n_10 + 1 := hm_10
  have hu_5 : (0 ≤ u_5.toInt ∧ u_5.toInt ≤ 14) := hu_5
  have hH : TH E (tbM m nw ws kp as rd sc ty ik) H := hH
  have hl : lv_has ls 6 [(1, .int u_4), (2, .ref a0), (3, .int k_2), (4, .int u_5)] := hl
  refine lv_iload F.1 F.2.1 dX7_sumOf_10 (lv_at hl 3 rfl) ?_
  refine lv_iload_n F.1 F.2.1 dX7_sumOf_12 rfl (lv_at hl 2 rfl) ?_
  refine b_ge (tgt := 33) F dX7_sumOf_13 (by decide) (fun c_6 => ?_) (fun c_6 => ?_)
  · skip
    have r_7 : 14 ≤ u_5.toInt ∧ u_5.toInt ≤ 14 := by have h9_ := hu_5; omega
    refine lv_iload_n F.1 F.2.1 dX7_sumOf_33 rfl (lv_at hl 0 rfl) ?_
    exact txI F hS dX7_sumOf_34 rfl (⟨(i32b _), hH⟩)
  · skip
    have r_8 : 0 ≤ u_5.toInt ∧ u_5.toInt ≤ 13 := by have h9_ := hu_5; omega
    refine lv_aload_n F.1 F.2.1 dX7_sumOf_16 rfl (lv_at hl 1 rfl) ?_
    refine lv_iload F.1 F.2.1 dX7_sumOf_17 (lv_at hl 3 rfl) ?_
    refine tIaldB F hK hH (tyb ha0 (all1 rfl)) (ixb (n := 14) r_8 rfl rfl) dX7_sumOf_19 (fun z_9 hz_9 => ?_)
    refine lv_istore (lv' := [(5, .int z_9), (1, .int u_4), (2, .ref a0), (3, .int k_2), (4, .int u_5)]) F.1 F.2.1 dX7_sumOf_20 hl (by decide) rfl (fun ls hl => ?_)
    refine lv_iload_n F.1 F.2.1 dX7_sumOf_22 rfl (lv_at hl 1 rfl) ?_
    refine lv_iload F.1 F.2.1 dX7_sumOf_23 (lv_at hl 0 rfl) ?_
    refine lv_iadd F.1 F.2.1 dX7_sumOf_25 ?_
    refine topF (fun z_10 => ?_)
    refine lv_istore_n (lv' := [(1, .int z_10), (5, .int z_9), (2, .ref a0), (3, .int k_2), (4, .int u_5)]) F.1 F.2.1 dX7_sumOf_26 rfl hl (by decide) rfl (fun ls hl => ?_)
    obtain ⟨x_11, ex_11, hx_11⟩ := iincB (c := 1) (lo := 1) (hi := 14) r_8 rfl
    refine lv_iinc (v := x_11) (lv' := [(4, .int x_11), (1, .int z_10), (5, .int z_9), (2, .ref a0), (3, .int k_2)]) F.1 F.2.1 dX7_sumOf_27 hl (k := 4) rfl ex_11 (by decide) rfl (fun ls hl => ?_)
    refine lv_goto (tgt := 10) F.1 F.2.1 dX7_sumOf_30 (by decide) ?_
    exact ih_10 (z_10, x_11) _ _ _ ⟨(show (14 - x_11.toInt + 1).toNat < n_10 from by omega), (wkb hx_11.2 rfl rfl), hH, hS, lv_sub hl [1, 3, 4, 0] rfl⟩
set_option maxHeartbeats 4000000 in
set_option maxRecDepth 100000 in
theorem c_X7_shareOf (E : Ev) (m : TD) (nw : TD) (ws : TD) (kp : TD) (as : TD) (rd : TD) (sc : TD) (ty : TD) (ik : TD) (a0 : Int64) (a1 : Int64) : TcI E yX7_shareOf cX7_shareOf 4 .int ({ frames := 1, cells := 0, slots := 0, locals := 40 }) [.long a0, .long a1] (fun H => TH E (tbM m nw ws kp as rd sc ty ik) H) (fun v H => ((-2147483648) ≤ v.toInt ∧ v.toInt ≤ 2147483647) ∧ TH E (tbM m nw ws kp as rd sc ty ik) H) := by
  refine teI (by decide) (Nat.le_of_ble_eq_true rfl) ?_
  intro p_ ev_ s mi_ below_ meth cd_ ls F hK hN hO hH hS hl
  have hH : TH E (tbM m nw ws kp as rd sc ty ik) s.heap := hH
  have hl : lv_has ls 4 [(0, .long a0), (2, .long a1)] := hl
  refine lv_lload_n F.1 F.2.1 dX7_shareOf_0 rfl (lv_at hl 1 rfl) ?_
  refine lv_lconst (v := 0) F.1 F.2.1 dX7_shareOf_1 (by decide) ?_
  refine topKL (a := 0) (by decide) (fun j_1 hj_1 => ?_)
  refine tLcmp F dX7_shareOf_2 (fun z_2 hz_2 => ?_)
  refine z_ne (tgt := 12) F dX7_shareOf_3 (by decide) (fun c_3 => ?_) (fun c_3 => ?_)
  · skip
    refine lv_ldc2 (own := RX7) (v := 1000) F.1 F.2.1 F.2.2.2.2.1 (F.2.2.2.2.2.2.1 _ wd_60_7) dX7_shareOf_12 ?_
    refine topKL (a := 1000) (by decide) (fun j_5 hj_5 => ?_)
    refine lv_lload_n F.1 F.2.1 dX7_shareOf_15 rfl (lv_at hl 0 rfl) ?_
    refine lv_lmul F.1 F.2.1 dX7_shareOf_16 ?_
    refine topFL (fun w_6 => ?_)
    refine lv_lload_n F.1 F.2.1 dX7_shareOf_17 rfl (lv_at hl 1 rfl) ?_
    refine lv_ldiv F.1 F.2.1 dX7_shareOf_18 (l_ne0 (by omega)) ?_
    refine topFL (fun w_7 => ?_)
    refine lv_l2i F.1 F.2.1 dX7_shareOf_19 rfl ?_
    refine topF (fun z_8 => ?_)
    exact txI F hS dX7_shareOf_20 rfl (⟨(i32b _), hH⟩)
  · skip
    have r_4 : 0 ≤ z_2.toInt ∧ z_2.toInt ≤ 0 := by have h9_ := (by omega); omega
    refine lv_sipush (v := 1000) F.1 F.2.1 dX7_shareOf_6 (by decide) ?_
    refine topK (a := 1000) (by decide) (fun k_9 hk_9 => ?_)
    refine lv_goto (tgt := 20) F.1 F.2.1 dX7_shareOf_9 (by decide) ?_
    exact txI F hS dX7_shareOf_20 rfl (⟨(wkb (eqb hk_9) rfl rfl), hH⟩)
set_option maxHeartbeats 4000000 in
set_option maxRecDepth 100000 in
theorem c_X7_lets (E : Ev) (ws : TD) (kp : TD) (as : TD) (rd : TD) (ty : TD) (ik : TD) (un : Int × Int) (tk : Int × Int) (xt : Int × Int) (tp : Int × Int) (sp : Int × Int) (wrb : Int × Int) (nu : Int × Int) (nab : Int × Int) (iwb : Int × Int) (X0 : Nat → Int32) (a0 : Nat) (a1 : Int32) (ha0 : eT E a0 ∈ [24]) (ha1 : 0 ≤ a1.toInt ∧ a1.toInt ≤ 3) (hX0 : okR X0) (h6 : gI X0 6 = -1) : TcV E yX7_lets cX7_lets 4 ({ frames := 6, cells := 0, slots := 0, locals := 156 }) [.ref a0, .int a1] (fun H => TH E (tbM (mD (.inl tp) (.inl sp) (.inl nu) (.inl un) (.inl tk) (.inl xt) (.inl wrb) (.inl nab) (.inl iwb)) (xD 660 X0) ws kp as rd m_second ty ik) H) (fun H => TH E (tbM (mD (.inl tp) (.inl sp) (.inl nu) (.inl un) (.inl tk) (.inl xt) (.inl wrb) (.inl nab) (.inl iwb)) (xD 660 X0) ws kp as rd m_second ty ik) H) := by
  refine teV (by decide) (Nat.le_of_ble_eq_true rfl) ?_
  intro p_ ev_ s mi_ below_ meth cd_ ls F hK hN hO hH hS hl
  have hH : TH E (tbM (mD (.inl tp) (.inl sp) (.inl nu) (.inl un) (.inl tk) (.inl xt) (.inl wrb) (.inl nab) (.inl iwb)) (xD 660 X0) ws kp as rd m_second ty ik) s.heap := hH
  have hl : lv_has ls 4 [(0, .ref a0), (1, .int a1)] := hl
  have hBX0 := okB hX0.1
  have hLX0 := hX0.2
  refine lv_aload_n F.1 F.2.1 dX7_lets_0 rfl (lv_at hl 0 rfl) ?_
  refine lv_iload_n F.1 F.2.1 dX7_lets_1 rfl (lv_at hl 1 rfl) ?_
  refine lv_iconst (v := 5) F.1 F.2.1 dX7_lets_2 (by decide) ?_
  refine topK (a := 5) (by decide) (fun k_1 hk_1 => ?_)
  refine tVi (b := a0) (As := [.int a1, .int k_1]) (rest := []) F hK hN hO (c_X7_ofStore_5 E ws kp as rd m_second ty ik un tk xt tp sp wrb nu nab iwb X0 a0 a1 k_1 ha0 ha1 (eqb hk_1) ((hX0).1)) mv_X7_ofStore wd_27_0 ⟨Nat.le_of_ble_eq_true rfl, Nat.le_of_ble_eq_true rfl⟩ ⟨Nat.le_of_ble_eq_true rfl, Nat.le_of_ble_eq_true rfl⟩ hH hS (tRecv hK hH (tyb ha0 (all1 rfl)) clX7) rfl hl.1 (Nat.le_of_ble_eq_true rfl) dX7_lets_3 (fun z_2 H locs hq hS => ?_)
  obtain ⟨f_3, f_4, f_5, hH⟩ := hq
  have hH : TH E (tbM (mD (.inl tp) (.inl sp) (.inl nu) (.inl un) (.inl tk) (.inl xt) (.inl wrb) (.inl nab) (.inl iwb)) (xD 660 X0) ws kp as rd m_second ty ik) H := hH
  refine lv_istore_n (lv' := [(2, .int z_2), (0, .ref a0), (1, .int a1)]) F.1 F.2.1 dX7_lets_6 rfl hl (by decide) rfl (fun ls hl => ?_)
  refine lv_iload_n F.1 F.2.1 dX7_lets_7 rfl (lv_at hl 0 rfl) ?_
  refine lv_bipush (v := (-2)) F.1 F.2.1 dX7_lets_8 (by decide) ?_
  refine topK (a := (-2)) (by decide) (fun k_6 hk_6 => ?_)
  refine b_eq (tgt := 32) F dX7_lets_10 (by decide) (fun c_7 => ?_) (fun c_7 => ?_)
  · skip
    have r_8 : (-2) ≤ z_2.toInt ∧ z_2.toInt ≤ (-2) := by have h9_ := f_3; omega
    exact txV F hS dX7_lets_32 (hH)
  · skip
    have r_9 : 0 ≤ z_2.toInt ∧ z_2.toInt ≤ 13 := by have h9_ := f_3; omega
    refine lv_aload_n F.1 F.2.1 dX7_lets_13 rfl (lv_at hl 1 rfl) ?_
    refine lv_aload_n F.1 F.2.1 dX7_lets_14 rfl (lv_at hl 1 rfl) ?_
    refine lv_iload_n F.1 F.2.1 dX7_lets_15 rfl (lv_at hl 2 rfl) ?_
    refine lv_iconst (v := 0) F.1 F.2.1 dX7_lets_16 (by decide) ?_
    refine topK (a := 0) (by decide) (fun k_10 hk_10 => ?_)
    refine tVi (b := a0) (As := [.int a1, .int k_10]) (rest := [.ref a0]) F hK hN hO (c_X7_ofStore_0 E ws kp as rd m_second ty ik un tk xt tp sp wrb nu nab iwb X0 a0 a1 k_10 ha0 ha1 (eqb hk_10) ((hX0).1)) mv_X7_ofStore wd_27_0 ⟨Nat.le_of_ble_eq_true rfl, Nat.le_of_ble_eq_true rfl⟩ ⟨Nat.le_of_ble_eq_true rfl, Nat.le_of_ble_eq_true rfl⟩ hH hS (tRecv hK hH (tyb ha0 (all1 rfl)) clX7) rfl hl.1 (Nat.le_of_ble_eq_true rfl) dX7_lets_17 (fun z_11 H locs hq hS => ?_)
    obtain ⟨f_12, f_13, hH⟩ := hq
    have hH : TH E (tbM (mD (.inl tp) (.inl sp) (.inl nu) (.inl un) (.inl tk) (.inl xt) (.inl wrb) (.inl nab) (.inl iwb)) (xD 660 X0) ws kp as rd m_second ty ik) H := hH
    refine lv_aload_n F.1 F.2.1 dX7_lets_20 rfl (lv_at hl 1 rfl) ?_
    refine lv_iload_n F.1 F.2.1 dX7_lets_21 rfl (lv_at hl 0 rfl) ?_
    refine lv_iconst (v := 0) F.1 F.2.1 dX7_lets_22 (by decide) ?_
    refine topK (a := 0) (by decide) (fun k_14 hk_14 => ?_)
    refine tVi (b := a0) (As := [.int z_2, .int k_14]) (rest := [.int z_11, .ref a0]) F hK hN hO (c_X7_of_0 E ws kp as rd m_second ty ik un tk xt tp sp wrb nu nab iwb X0 a0 z_2 k_14 ha0 r_9 (eqb hk_14) ((hX0).1)) mv_X7_of wd_26_20 ⟨Nat.le_of_ble_eq_true rfl, Nat.le_of_ble_eq_true rfl⟩ ⟨Nat.le_of_ble_eq_true rfl, Nat.le_of_ble_eq_true rfl⟩ hH hS (tRecv hK hH (tyb ha0 (all1 rfl)) clX7) rfl hl.1 (Nat.le_of_ble_eq_true rfl) dX7_lets_23 (fun z_15 H locs hq hS => ?_)
    obtain ⟨f_16, f_17, hH⟩ := hq
    have hH : TH E (tbM (mD (.inl tp) (.inl sp) (.inl nu) (.inl un) (.inl tk) (.inl xt) (.inl wrb) (.inl nab) (.inl iwb)) (xD 660 X0) ws kp as rd m_second ty ik) H := hH
    refine tVi (b := a0) (As := [.int z_11, .int z_15]) (rest := []) F hK hN hO (c_X7_runsTo E ws kp as rd m_second ty ik un tk xt tp sp wrb nu nab iwb X0 a0 z_11 z_15 ha0 f_12 hX0 (by omega)) mv_X7_runsTo wd_29_6 ⟨Nat.le_of_ble_eq_true rfl, Nat.le_of_ble_eq_true rfl⟩ ⟨Nat.le_of_ble_eq_true rfl, Nat.le_of_ble_eq_true rfl⟩ hH hS (tRecv hK hH (tyb ha0 (all1 rfl)) clX7) rfl hl.1 (Nat.le_of_ble_eq_true rfl) dX7_lets_26 (fun z_18 H locs hq hS => ?_)
    obtain ⟨f_19, hH⟩ := hq
    have hH : TH E (tbM (mD (.inl tp) (.inl sp) (.inl nu) (.inl un) (.inl tk) (.inl xt) (.inl wrb) (.inl nab) (.inl iwb)) (xD 660 X0) ws kp as rd m_second ty ik) H := hH
    refine z_ne (tgt := 33) F dX7_lets_29 (by decide) (fun c_20 => ?_) (fun c_20 => ?_)
    · skip
      have r_21 : 1 ≤ z_18.toInt ∧ z_18.toInt ≤ 1 := by have h9_ := f_19; omega
      refine lv_aload_n F.1 F.2.1 dX7_lets_33 rfl (lv_at hl 1 rfl) ?_
      refine tGetR (j := 21) F hK hH (tyb ha0 (all1 rfl)) rfl (all1 rfl) clX7 (by decide) wd_7_0 dX7_lets_34 (fun q_23 hq_23 _ => ?_)
      refine lv_iload_n F.1 F.2.1 dX7_lets_37 rfl (lv_at hl 2 rfl) ?_
      refine lv_aload_n F.1 F.2.1 dX7_lets_38 rfl (lv_at hl 1 rfl) ?_
      refine lv_iload_n F.1 F.2.1 dX7_lets_39 rfl (lv_at hl 2 rfl) ?_
      refine lv_bipush (v := 6) F.1 F.2.1 dX7_lets_40 (by decide) ?_
      refine topK (a := 6) (by decide) (fun k_24 hk_24 => ?_)
      refine tVi (b := a0) (As := [.int a1, .int k_24]) (rest := [.int a1, .ref q_23]) F hK hN hO (c_X7_ofStore_6 E ws kp as rd m_second ty ik un tk xt tp sp wrb nu nab iwb X0 a0 a1 k_24 ha0 ha1 (eqb hk_24) ((hX0).1)) mv_X7_ofStore wd_27_0 ⟨Nat.le_of_ble_eq_true rfl, Nat.le_of_ble_eq_true rfl⟩ ⟨Nat.le_of_ble_eq_true rfl, Nat.le_of_ble_eq_true rfl⟩ hH hS (tRecv hK hH (tyb ha0 (all1 rfl)) clX7) rfl hl.1 (Nat.le_of_ble_eq_true rfl) dX7_lets_42 (fun z_25 H locs hq hS => ?_)
      obtain ⟨f_26, f_27, hH⟩ := hq
      have hH : TH E (tbM (mD (.inl tp) (.inl sp) (.inl nu) (.inl un) (.inl tk) (.inl xt) (.inl wrb) (.inl nab) (.inl iwb)) (xD 660 X0) ws kp as rd m_second ty ik) H := hH
      refine lv_aload_n F.1 F.2.1 dX7_lets_45 rfl (lv_at hl 1 rfl) ?_
      refine lv_iload_n F.1 F.2.1 dX7_lets_46 rfl (lv_at hl 2 rfl) ?_
      refine lv_iconst (v := 4) F.1 F.2.1 dX7_lets_47 (by decide) ?_
      refine topK (a := 4) (by decide) (fun k_28 hk_28 => ?_)
      refine tVi (b := a0) (As := [.int a1, .int k_28]) (rest := [.int z_25, .int a1, .ref q_23]) F hK hN hO (c_X7_ofStore_4 E ws kp as rd m_second ty ik un tk xt tp sp wrb nu nab iwb X0 a0 a1 k_28 ha0 ha1 (eqb hk_28) ((hX0).1)) mv_X7_ofStore wd_27_0 ⟨Nat.le_of_ble_eq_true rfl, Nat.le_of_ble_eq_true rfl⟩ ⟨Nat.le_of_ble_eq_true rfl, Nat.le_of_ble_eq_true rfl⟩ hH hS (tRecv hK hH (tyb ha0 (all1 rfl)) clX7) rfl hl.1 (Nat.le_of_ble_eq_true rfl) dX7_lets_48 (fun z_29 H locs hq hS => ?_)
      obtain ⟨f_30, f_31, hH⟩ := hq
      have hH : TH E (tbM (mD (.inl tp) (.inl sp) (.inl nu) (.inl un) (.inl tk) (.inl xt) (.inl wrb) (.inl nab) (.inl iwb)) (xD 660 X0) ws kp as rd m_second ty ik) H := hH
      refine tSi (As := [.int z_25, .int z_29]) (rest := [.int a1, .ref q_23]) F hK hN hO (c_X7_least E (mD (.inl tp) (.inl sp) (.inl nu) (.inl un) (.inl tk) (.inl xt) (.inl wrb) (.inl nab) (.inl iwb)) (xD 660 X0) ws kp as rd m_second ty ik z_25 z_29) ms_X7_least wd_27_15 ⟨Nat.le_of_ble_eq_true rfl, Nat.le_of_ble_eq_true rfl⟩ ⟨Nat.le_of_ble_eq_true rfl, Nat.le_of_ble_eq_true rfl⟩ hH hS rfl hl.1 (Nat.le_of_ble_eq_true rfl) dX7_lets_51 (fun z_32 H locs hq hS => ?_)
      obtain ⟨f_33, f_34, hH⟩ := hq
      have hH : TH E (tbM (mD (.inl tp) (.inl sp) (.inl nu) (.inl un) (.inl tk) (.inl xt) (.inl wrb) (.inl nab) (.inl iwb)) (xD 660 X0) ws kp as rd m_second ty ik) H := hH
      have ez_32 : (-2147483648) ≤ z_32.toInt ∧ z_32.toInt ≤ 9999 := by omega
      refine tIastB F hK hH hS (tyb hq_23 (all1 rfl)) (ixb (n := 4) ha1 rfl rfl) ez_32 dX7_lets_54 (fun H locs hH hS => ?_)
      refine lv_aload_n F.1 F.2.1 dX7_lets_55 rfl (lv_at hl 1 rfl) ?_
      refine tGetR (j := 13) F hK hH (tyb ha0 (all1 rfl)) rfl (all1 rfl) clX7 (by decide) wd_6_17 dX7_lets_56 (fun q_35 hq_35 _ => ?_)
      refine lv_aload_n F.1 F.2.1 dX7_lets_59 rfl (lv_at hl 1 rfl) ?_
      refine lv_iload_n F.1 F.2.1 dX7_lets_60 rfl (lv_at hl 2 rfl) ?_
      refine lv_iconst (v := 0) F.1 F.2.1 dX7_lets_61 (by decide) ?_
      refine topK (a := 0) (by decide) (fun k_36 hk_36 => ?_)
      refine tVi (b := a0) (As := [.int a1, .int k_36]) (rest := [.ref q_35]) F hK hN hO (c_X7_ofStore_0 E ws kp as rd m_second ty ik un tk xt tp sp wrb nu nab iwb X0 a0 a1 k_36 ha0 ha1 (eqb hk_36) ((hX0).1)) mv_X7_ofStore wd_27_0 ⟨Nat.le_of_ble_eq_true rfl, Nat.le_of_ble_eq_true rfl⟩ ⟨Nat.le_of_ble_eq_true rfl, Nat.le_of_ble_eq_true rfl⟩ hH hS (tRecv hK hH (tyb ha0 (all1 rfl)) clX7) rfl hl.1 (Nat.le_of_ble_eq_true rfl) dX7_lets_62 (fun z_37 H locs hq hS => ?_)
      obtain ⟨f_38, f_39, hH⟩ := hq
      have hH : TH E (tbM (mD (.inl tp) (.inl sp) (.inl nu) (.inl un) (.inl tk) (.inl xt) (.inl wrb) (.inl nab) (.inl iwb)) (xD 660 X0) ws kp as rd m_second ty ik) H := hH
      refine lv_dup2_11 F.1 F.2.1 dX7_lets_65 rfl rfl ?_
      refine tIaldB F hK hH (tyb hq_35 (all1 rfl)) (ixb (n := 12) f_38 rfl rfl) dX7_lets_66 (fun z_40 hz_40 => ?_)
      refine lv_aload_n F.1 F.2.1 dX7_lets_67 rfl (lv_at hl 1 rfl) ?_
      refine tGetR (j := 21) F hK hH (tyb ha0 (all1 rfl)) rfl (all1 rfl) clX7 (by decide) wd_7_0 dX7_lets_68 (fun q_41 hq_41 _ => ?_)
      refine lv_iload_n F.1 F.2.1 dX7_lets_71 rfl (lv_at hl 2 rfl) ?_
      refine tIaldB F hK hH (tyb hq_41 (all1 rfl)) (ixb (n := 4) ha1 rfl rfl) dX7_lets_72 (fun z_42 hz_42 => ?_)
      refine lv_iadd F.1 F.2.1 dX7_lets_73 ?_
      refine topF (fun z_43 => ?_)
      refine tIastB F hK hH hS (tyb hq_35 (all1 rfl)) (ixb (n := 12) f_38 rfl rfl) (i32b _) dX7_lets_74 (fun H locs hH hS => ?_)
      refine lv_aload_n F.1 F.2.1 dX7_lets_75 rfl (lv_at hl 1 rfl) ?_
      refine lv_aload_n F.1 F.2.1 dX7_lets_76 rfl (lv_at hl 1 rfl) ?_
      refine lv_iload_n F.1 F.2.1 dX7_lets_77 rfl (lv_at hl 0 rfl) ?_
      refine lv_iconst (v := 0) F.1 F.2.1 dX7_lets_78 (by decide) ?_
      refine topK (a := 0) (by decide) (fun k_44 hk_44 => ?_)
      refine tVi (b := a0) (As := [.int z_2, .int k_44]) (rest := [.ref a0]) F hK hN hO (c_X7_of_0 E ws kp as rd m_second ty ik un tk xt tp sp wrb nu nab iwb X0 a0 z_2 k_44 ha0 r_9 (eqb hk_44) ((hX0).1)) mv_X7_of wd_26_20 ⟨Nat.le_of_ble_eq_true rfl, Nat.le_of_ble_eq_true rfl⟩ ⟨Nat.le_of_ble_eq_true rfl, Nat.le_of_ble_eq_true rfl⟩ hH hS (tRecv hK hH (tyb ha0 (all1 rfl)) clX7) rfl hl.1 (Nat.le_of_ble_eq_true rfl) dX7_lets_79 (fun z_45 H locs hq hS => ?_)
      obtain ⟨f_46, f_47, hH⟩ := hq
      have hH : TH E (tbM (mD (.inl tp) (.inl sp) (.inl nu) (.inl un) (.inl tk) (.inl xt) (.inl wrb) (.inl nab) (.inl iwb)) (xD 660 X0) ws kp as rd m_second ty ik) H := hH
      refine lv_aload_n F.1 F.2.1 dX7_lets_82 rfl (lv_at hl 1 rfl) ?_
      refine tGetR (j := 21) F hK hH (tyb ha0 (all1 rfl)) rfl (all1 rfl) clX7 (by decide) wd_7_0 dX7_lets_83 (fun q_48 hq_48 _ => ?_)
      refine lv_iload_n F.1 F.2.1 dX7_lets_86 rfl (lv_at hl 2 rfl) ?_
      refine tIaldB F hK hH (tyb hq_48 (all1 rfl)) (ixb (n := 4) ha1 rfl rfl) dX7_lets_87 (fun z_49 hz_49 => ?_)
      refine lv_aload_n F.1 F.2.1 dX7_lets_88 rfl (lv_at hl 1 rfl) ?_
      refine lv_iload_n F.1 F.2.1 dX7_lets_89 rfl (lv_at hl 0 rfl) ?_
      refine tVi (b := a0) (As := [.int z_2]) (rest := [.int z_49, .int z_45, .ref a0]) F hK hN hO (c_X7_wantsOf_r E ws kp as rd m_second ty ik un tk xt tp sp wrb nu nab iwb X0 a0 z_2 ha0 r_9 hX0) mv_X7_wantsOf wd_27_11 ⟨Nat.le_of_ble_eq_true rfl, Nat.le_of_ble_eq_true rfl⟩ ⟨Nat.le_of_ble_eq_true rfl, Nat.le_of_ble_eq_true rfl⟩ hH hS (tRecv hK hH (tyb ha0 (all1 rfl)) clX7) rfl hl.1 (Nat.le_of_ble_eq_true rfl) dX7_lets_90 (fun z_50 H locs hq hS => ?_)
      obtain ⟨f_51, hH⟩ := hq
      have hH : TH E (tbM (mD (.inl tp) (.inl sp) (.inl nu) (.inl un) (.inl tk) (.inl xt) (.inl wrb) (.inl nab) (.inl iwb)) (xD 660 X0) ws kp as rd m_second ty ik) H := hH
      refine lv_aload_n F.1 F.2.1 dX7_lets_93 rfl (lv_at hl 1 rfl) ?_
      refine tGetR (j := 18) F hK hH (tyb ha0 (all1 rfl)) rfl (all1 rfl) clX7 (by decide) wd_6_21 dX7_lets_94 (fun q_52 hq_52 _ => ?_)
      refine lv_iload_n F.1 F.2.1 dX7_lets_97 rfl (lv_at hl 0 rfl) ?_
      refine tIaldB F hK hH (tyb hq_52 (all1 rfl)) (ixb (n := 18) r_9 rfl rfl) dX7_lets_98 (fun z_53 hz_53 => ?_)
      refine tSub (lo := (-14410001)) (hi := 9999) F dX7_lets_99 f_51 hz_53 rfl (fun z_54 hz_54 => ?_)
      refine lv_aload_n F.1 F.2.1 dX7_lets_100 rfl (lv_at hl 1 rfl) ?_
      refine tGetR (j := 19) F hK hH (tyb ha0 (all1 rfl)) rfl (all1 rfl) clX7 (by decide) wd_6_22 dX7_lets_101 (fun q_55 hq_55 _ => ?_)
      obtain ⟨S_56, hS_56, hH⟩ := TH.pin (t := 30) hH rfl ⟨q_55, List.mem_singleton.mp hq_55⟩ (by decide)
      have hH : TH E (tbM (mD (.inl tp) (.inl sp) (.inl nu) (.inl un) (.inl tk) (.inl xt) (.inl wrb) (.inl nab) (.inl iwb)) (xD 660 X0) ws kp as rd (xD 14 S_56) ty ik) H := hH
      refine lv_iload_n F.1 F.2.1 dX7_lets_104 rfl (lv_at hl 0 rfl) ?_
      refine tIaldX F hK hH (tyb hq_55 (all1 rfl)) (ixb (n := 14) r_9 rfl rfl) dX7_lets_105 (fun z_57 ez_57 => ?_)
      have gz_57 : z_57.toInt = gI S_56 (z_2.toInt.toNat) := by unfold gI; rw [ez_57]; rfl
      have hz_57 : 0 ≤ z_57.toInt ∧ z_57.toInt ≤ 9999 := (by have h9_ := hS_56 (z_2).toNatClampNeg (cl_lt (n := 14) (by omega)); rw [← ez_57] at h9_; exact h9_)
      refine tSub (lo := (-14420000)) (hi := 9999) F dX7_lets_106 hz_54.2 hz_57 rfl (fun z_58 hz_58 => ?_)
      refine tSi (As := [.int z_49, .int z_58]) (rest := [.int z_45, .ref a0]) F hK hN hO (c_X7_least E (mD (.inl tp) (.inl sp) (.inl nu) (.inl un) (.inl tk) (.inl xt) (.inl wrb) (.inl nab) (.inl iwb)) (xD 660 X0) ws kp as rd (xD 14 S_56) ty ik z_49 z_58) ms_X7_least wd_27_15 ⟨Nat.le_of_ble_eq_true rfl, Nat.le_of_ble_eq_true rfl⟩ ⟨Nat.le_of_ble_eq_true rfl, Nat.le_of_ble_eq_true rfl⟩ hH hS rfl hl.1 (Nat.le_of_ble_eq_true rfl) dX7_lets_107 (fun z_59 H locs hq hS => ?_)
      obtain ⟨f_60, f_61, hH⟩ := hq
      have hH : TH E (tbM (mD (.inl tp) (.inl sp) (.inl nu) (.inl un) (.inl tk) (.inl xt) (.inl wrb) (.inl nab) (.inl iwb)) (xD 660 X0) ws kp as rd (xD 14 S_56) ty ik) H := hH
      have ez_59 : (-2147483648) ≤ z_59.toInt ∧ z_59.toInt ≤ 9999 := by omega
      refine lv_iconst (v := (-1)) F.1 F.2.1 dX7_lets_110 (by decide) ?_
      refine topK (a := (-1)) (by decide) (fun k_62 hk_62 => ?_)
      refine tVi (b := a0) (As := [.int z_45, .int z_59, .int k_62]) (rest := []) F hK hN hO (c_X7_mostMore E ws kp as rd (xD 14 S_56) ty ik un tk xt tp sp wrb nu nab iwb X0 a0 z_45 z_59 k_62 ha0 f_46 ez_59 (wkb (eqb hk_62) rfl rfl) hX0) mv_X7_mostMore wd_27_18 ⟨Nat.le_of_ble_eq_true rfl, Nat.le_of_ble_eq_true rfl⟩ ⟨Nat.le_of_ble_eq_true rfl, Nat.le_of_ble_eq_true rfl⟩ hH hS (tRecv hK hH (tyb ha0 (all1 rfl)) clX7) rfl hl.1 (Nat.le_of_ble_eq_true rfl) dX7_lets_111 (fun z_63 H locs hq hS => ?_)
      obtain ⟨f_64, f_65, hH⟩ := hq
      have hH : TH E (tbM (mD (.inl tp) (.inl sp) (.inl nu) (.inl un) (.inl tk) (.inl xt) (.inl wrb) (.inl nab) (.inl iwb)) (xD 660 X0) ws kp as rd (xD 14 S_56) ty ik) H := hH
      refine lv_istore_n (lv' := [(3, .int z_63), (2, .int z_2), (0, .ref a0), (1, .int a1)]) F.1 F.2.1 dX7_lets_114 rfl hl (by decide) rfl (fun ls hl => ?_)
      refine lv_aload_n F.1 F.2.1 dX7_lets_115 rfl (lv_at hl 2 rfl) ?_
      refine tGetR (j := 19) F hK hH (tyb ha0 (all1 rfl)) rfl (all1 rfl) clX7 (by decide) wd_6_22 dX7_lets_116 (fun q_66 hq_66 _ => ?_)
      refine lv_iload_n F.1 F.2.1 dX7_lets_119 rfl (lv_at hl 1 rfl) ?_
      refine lv_dup2_11 F.1 F.2.1 dX7_lets_120 rfl rfl ?_
      refine tIaldX F hK hH (tyb hq_66 (all1 rfl)) (ixb (n := 14) r_9 rfl rfl) dX7_lets_121 (fun z_67 ez_67 => ?_)
      have gz_67 : z_67.toInt = gI S_56 (z_2.toInt.toNat) := by unfold gI; rw [ez_67]; rfl
      have hz_67 : 0 ≤ z_67.toInt ∧ z_67.toInt ≤ 9999 := (by have h9_ := hS_56 (z_2).toNatClampNeg (cl_lt (n := 14) (by omega)); rw [← ez_67] at h9_; exact h9_)
      refine lv_iload_n F.1 F.2.1 dX7_lets_122 rfl (lv_at hl 0 rfl) ?_
      refine tAdd (lo := 0) (hi := 19998) F dX7_lets_123 hz_67 f_64 rfl (fun z_68 hz_68 => ?_)
      refine tIastX (t := 30) F hK hH hS (List.mem_singleton.mp hq_66) (by decide) rfl (ixb (n := 14) r_9 rfl rfl) dX7_lets_124 (fun G_69 eG_69 H locs hH hS => ?_)
      have hH : TH E (tbM (mD (.inl tp) (.inl sp) (.inl nu) (.inl un) (.inl tk) (.inl xt) (.inl wrb) (.inl nab) (.inl iwb)) (xD 660 X0) ws kp as rd (xD 14 G_69) ty ik) H := hH
      have hG_69 : ivP 14 0 9999 G_69 := (ivP_updE hS_56 eG_69 (by omega))
      refine lv_aload_n F.1 F.2.1 dX7_lets_125 rfl (lv_at hl 2 rfl) ?_
      refine tGetR (j := 12) F hK hH (tyb ha0 (all1 rfl)) rfl (all1 rfl) clX7 (by decide) wd_6_16 dX7_lets_126 (fun q_70 hq_70 _ => ?_)
      refine lv_aload_n F.1 F.2.1 dX7_lets_129 rfl (lv_at hl 2 rfl) ?_
      refine lv_iload_n F.1 F.2.1 dX7_lets_130 rfl (lv_at hl 1 rfl) ?_
      refine lv_iconst (v := 0) F.1 F.2.1 dX7_lets_131 (by decide) ?_
      refine topK (a := 0) (by decide) (fun k_71 hk_71 => ?_)
      refine tVi (b := a0) (As := [.int z_2, .int k_71]) (rest := [.ref q_70]) F hK hN hO (c_X7_of_0 E ws kp as rd (xD 14 G_69) ty ik un tk xt tp sp wrb nu nab iwb X0 a0 z_2 k_71 ha0 r_9 (eqb hk_71) ((hX0).1)) mv_X7_of wd_26_20 ⟨Nat.le_of_ble_eq_true rfl, Nat.le_of_ble_eq_true rfl⟩ ⟨Nat.le_of_ble_eq_true rfl, Nat.le_of_ble_eq_true rfl⟩ hH hS (tRecv hK hH (tyb ha0 (all1 rfl)) clX7) rfl hl.1 (Nat.le_of_ble_eq_true rfl) dX7_lets_132 (fun z_72 H locs hq hS => ?_)
      obtain ⟨f_73, f_74, hH⟩ := hq
      have hH : TH E (tbM (mD (.inl tp) (.inl sp) (.inl nu) (.inl un) (.inl tk) (.inl xt) (.inl wrb) (.inl nab) (.inl iwb)) (xD 660 X0) ws kp as rd (xD 14 G_69) ty ik) H := hH
      refine lv_dup2_11 F.1 F.2.1 dX7_lets_135 rfl rfl ?_
      refine tIaldB F hK hH (tyb hq_70 (all1 rfl)) (ixb (n := 12) f_73 rfl rfl) dX7_lets_136 (fun z_75 hz_75 => ?_)
      refine lv_iload_n F.1 F.2.1 dX7_lets_137 rfl (lv_at hl 0 rfl) ?_
      refine lv_iadd F.1 F.2.1 dX7_lets_138 ?_
      refine topF (fun z_76 => ?_)
      refine tIastB F hK hH hS (tyb hq_70 (all1 rfl)) (ixb (n := 12) f_73 rfl rfl) (i32b _) dX7_lets_139 (fun H locs hH hS => ?_)
      exact txV F hS dX7_lets_140 ((TH.unpin (t := 30) (TB1 := (tbM (mD (.inl tp) (.inl sp) (.inl nu) (.inl un) (.inl tk) (.inl xt) (.inl wrb) (.inl nab) (.inl iwb)) (xD 660 X0) ws kp as rd m_second ty ik)) hH rfl hG_69 rfl))
    · skip
      have r_22 : 0 ≤ z_18.toInt ∧ z_18.toInt ≤ 0 := by have h9_ := f_19; omega
      exact txV F hS dX7_lets_32 (hH)
set_option maxHeartbeats 4000000 in
set_option maxRecDepth 100000 in
theorem c_X7_barters (E : Ev) (ws : TD) (kp : TD) (as : TD) (rd : TD) (ty : TD) (ik : TD) (un : Int × Int) (tk : Int × Int) (xt : Int × Int) (tp : Int × Int) (sp : Int × Int) (wrb : Int × Int) (nu : Int × Int) (nab : Int × Int) (iwb : Int × Int) (X0 : Nat → Int32) (a0 : Nat) (a1 : Int32) (ha0 : eT E a0 ∈ [24]) (ha1 : 0 ≤ a1.toInt ∧ a1.toInt ≤ 13) (hX0 : okR X0) (h6 : gI X0 6 = -1) : TcV E yX7_barters cX7_barters 5 ({ frames := 6, cells := 0, slots := 0, locals := 156 }) [.ref a0, .int a1] (fun H => TH E (tbM (mD (.inl tp) (.inl sp) (.inl nu) (.inl un) (.inl tk) (.inl xt) (.inl wrb) (.inl nab) (.inl iwb)) (xD 660 X0) ws kp as rd m_second ty ik) H) (fun H => TH E (tbM (mD (.inl tp) (.inl sp) (.inl nu) (.inl un) (.inl tk) (.inl xt) (.inl wrb) (.inl nab) (.inl iwb)) (xD 660 X0) ws kp as rd m_second ty ik) H) := by
  refine teV (by decide) (Nat.le_of_ble_eq_true rfl) ?_
  intro p_ ev_ s mi_ below_ meth cd_ ls F hK hN hO hH hS hl
  have hH : TH E (tbM (mD (.inl tp) (.inl sp) (.inl nu) (.inl un) (.inl tk) (.inl xt) (.inl wrb) (.inl nab) (.inl iwb)) (xD 660 X0) ws kp as rd m_second ty ik) s.heap := hH
  have hl : lv_has ls 5 [(0, .ref a0), (1, .int a1)] := hl
  have hBX0 := okB hX0.1
  have hLX0 := hX0.2
  refine lv_aload_n F.1 F.2.1 dX7_barters_0 rfl (lv_at hl 0 rfl) ?_
  refine lv_iload_n F.1 F.2.1 dX7_barters_1 rfl (lv_at hl 1 rfl) ?_
  refine lv_bipush (v := 11) F.1 F.2.1 dX7_barters_2 (by decide) ?_
  refine topK (a := 11) (by decide) (fun k_1 hk_1 => ?_)
  refine tVi (b := a0) (As := [.int a1, .int k_1]) (rest := []) F hK hN hO (c_X7_of_11 E ws kp as rd m_second ty ik un tk xt tp sp wrb nu nab iwb X0 a0 a1 k_1 ha0 ha1 (eqb hk_1) ((hX0).1)) mv_X7_of wd_26_20 ⟨Nat.le_of_ble_eq_true rfl, Nat.le_of_ble_eq_true rfl⟩ ⟨Nat.le_of_ble_eq_true rfl, Nat.le_of_ble_eq_true rfl⟩ hH hS (tRecv hK hH (tyb ha0 (all1 rfl)) clX7) rfl hl.1 (Nat.le_of_ble_eq_true rfl) dX7_barters_4 (fun z_2 H locs hq hS => ?_)
  obtain ⟨f_3, f_4, f_5, hH⟩ := hq
  have hH : TH E (tbM (mD (.inl tp) (.inl sp) (.inl nu) (.inl un) (.inl tk) (.inl xt) (.inl wrb) (.inl nab) (.inl iwb)) (xD 660 X0) ws kp as rd m_second ty ik) H := hH
  refine lv_istore_n (lv' := [(2, .int z_2), (0, .ref a0), (1, .int a1)]) F.1 F.2.1 dX7_barters_7 rfl hl (by decide) rfl (fun ls hl => ?_)
  refine lv_iload_n F.1 F.2.1 dX7_barters_8 rfl (lv_at hl 0 rfl) ?_
  refine lv_bipush (v := (-2)) F.1 F.2.1 dX7_barters_9 (by decide) ?_
  refine topK (a := (-2)) (by decide) (fun k_6 hk_6 => ?_)
  refine b_eq (tgt := 33) F dX7_barters_11 (by decide) (fun c_7 => ?_) (fun c_7 => ?_)
  · skip
    have r_8 : (-2) ≤ z_2.toInt ∧ z_2.toInt ≤ (-2) := by have h9_ := f_3; omega
    exact txV F hS dX7_barters_33 (hH)
  · skip
    have r_9 : 0 ≤ z_2.toInt ∧ z_2.toInt ≤ 3 := by have h9_ := f_3; omega
    refine lv_aload_n F.1 F.2.1 dX7_barters_14 rfl (lv_at hl 1 rfl) ?_
    refine lv_aload_n F.1 F.2.1 dX7_barters_15 rfl (lv_at hl 1 rfl) ?_
    refine lv_iload_n F.1 F.2.1 dX7_barters_16 rfl (lv_at hl 2 rfl) ?_
    refine lv_iconst (v := 0) F.1 F.2.1 dX7_barters_17 (by decide) ?_
    refine topK (a := 0) (by decide) (fun k_10 hk_10 => ?_)
    refine tVi (b := a0) (As := [.int a1, .int k_10]) (rest := [.ref a0]) F hK hN hO (c_X7_of_0 E ws kp as rd m_second ty ik un tk xt tp sp wrb nu nab iwb X0 a0 a1 k_10 ha0 ha1 (eqb hk_10) ((hX0).1)) mv_X7_of wd_26_20 ⟨Nat.le_of_ble_eq_true rfl, Nat.le_of_ble_eq_true rfl⟩ ⟨Nat.le_of_ble_eq_true rfl, Nat.le_of_ble_eq_true rfl⟩ hH hS (tRecv hK hH (tyb ha0 (all1 rfl)) clX7) rfl hl.1 (Nat.le_of_ble_eq_true rfl) dX7_barters_18 (fun z_11 H locs hq hS => ?_)
    obtain ⟨f_12, f_13, hH⟩ := hq
    have hH : TH E (tbM (mD (.inl tp) (.inl sp) (.inl nu) (.inl un) (.inl tk) (.inl xt) (.inl wrb) (.inl nab) (.inl iwb)) (xD 660 X0) ws kp as rd m_second ty ik) H := hH
    refine lv_aload_n F.1 F.2.1 dX7_barters_21 rfl (lv_at hl 1 rfl) ?_
    refine lv_iload_n F.1 F.2.1 dX7_barters_22 rfl (lv_at hl 0 rfl) ?_
    refine lv_iconst (v := 0) F.1 F.2.1 dX7_barters_23 (by decide) ?_
    refine topK (a := 0) (by decide) (fun k_14 hk_14 => ?_)
    refine tVi (b := a0) (As := [.int z_2, .int k_14]) (rest := [.int z_11, .ref a0]) F hK hN hO (c_X7_ofStore_0 E ws kp as rd m_second ty ik un tk xt tp sp wrb nu nab iwb X0 a0 z_2 k_14 ha0 r_9 (eqb hk_14) ((hX0).1)) mv_X7_ofStore wd_27_0 ⟨Nat.le_of_ble_eq_true rfl, Nat.le_of_ble_eq_true rfl⟩ ⟨Nat.le_of_ble_eq_true rfl, Nat.le_of_ble_eq_true rfl⟩ hH hS (tRecv hK hH (tyb ha0 (all1 rfl)) clX7) rfl hl.1 (Nat.le_of_ble_eq_true rfl) dX7_barters_24 (fun z_15 H locs hq hS => ?_)
    obtain ⟨f_16, f_17, hH⟩ := hq
    have hH : TH E (tbM (mD (.inl tp) (.inl sp) (.inl nu) (.inl un) (.inl tk) (.inl xt) (.inl wrb) (.inl nab) (.inl iwb)) (xD 660 X0) ws kp as rd m_second ty ik) H := hH
    refine tVi (b := a0) (As := [.int z_11, .int z_15]) (rest := []) F hK hN hO (c_X7_runsTo E ws kp as rd m_second ty ik un tk xt tp sp wrb nu nab iwb X0 a0 z_11 z_15 ha0 f_12 hX0 (by omega)) mv_X7_runsTo wd_29_6 ⟨Nat.le_of_ble_eq_true rfl, Nat.le_of_ble_eq_true rfl⟩ ⟨Nat.le_of_ble_eq_true rfl, Nat.le_of_ble_eq_true rfl⟩ hH hS (tRecv hK hH (tyb ha0 (all1 rfl)) clX7) rfl hl.1 (Nat.le_of_ble_eq_true rfl) dX7_barters_27 (fun z_18 H locs hq hS => ?_)
    obtain ⟨f_19, hH⟩ := hq
    have hH : TH E (tbM (mD (.inl tp) (.inl sp) (.inl nu) (.inl un) (.inl tk) (.inl xt) (.inl wrb) (.inl nab) (.inl iwb)) (xD 660 X0) ws kp as rd m_second ty ik) H := hH
    refine z_ne (tgt := 34) F dX7_barters_30 (by decide) (fun c_20 => ?_) (fun c_20 => ?_)
    · skip
      have r_21 : 1 ≤ z_18.toInt ∧ z_18.toInt ≤ 1 := by have h9_ := f_19; omega
      refine lv_aload_n F.1 F.2.1 dX7_barters_34 rfl (lv_at hl 1 rfl) ?_
      refine lv_iload_n F.1 F.2.1 dX7_barters_35 rfl (lv_at hl 2 rfl) ?_
      refine tVi (b := a0) (As := [.int a1]) (rest := []) F hK hN hO (c_X7_wantsOf_r E ws kp as rd m_second ty ik un tk xt tp sp wrb nu nab iwb X0 a0 a1 ha0 ha1 hX0) mv_X7_wantsOf wd_27_11 ⟨Nat.le_of_ble_eq_true rfl, Nat.le_of_ble_eq_true rfl⟩ ⟨Nat.le_of_ble_eq_true rfl, Nat.le_of_ble_eq_true rfl⟩ hH hS (tRecv hK hH (tyb ha0 (all1 rfl)) clX7) rfl hl.1 (Nat.le_of_ble_eq_true rfl) dX7_barters_36 (fun z_23 H locs hq hS => ?_)
      obtain ⟨f_24, hH⟩ := hq
      have hH : TH E (tbM (mD (.inl tp) (.inl sp) (.inl nu) (.inl un) (.inl tk) (.inl xt) (.inl wrb) (.inl nab) (.inl iwb)) (xD 660 X0) ws kp as rd m_second ty ik) H := hH
      refine lv_aload_n F.1 F.2.1 dX7_barters_39 rfl (lv_at hl 1 rfl) ?_
      refine tGetR (j := 18) F hK hH (tyb ha0 (all1 rfl)) rfl (all1 rfl) clX7 (by decide) wd_6_21 dX7_barters_40 (fun q_25 hq_25 _ => ?_)
      refine lv_iload_n F.1 F.2.1 dX7_barters_43 rfl (lv_at hl 2 rfl) ?_
      refine tIaldB F hK hH (tyb hq_25 (all1 rfl)) (ixb (n := 18) ha1 rfl rfl) dX7_barters_44 (fun z_26 hz_26 => ?_)
      refine tSub (lo := (-14410001)) (hi := 9999) F dX7_barters_45 f_24 hz_26 rfl (fun z_27 hz_27 => ?_)
      refine lv_aload_n F.1 F.2.1 dX7_barters_46 rfl (lv_at hl 1 rfl) ?_
      refine tGetR (j := 19) F hK hH (tyb ha0 (all1 rfl)) rfl (all1 rfl) clX7 (by decide) wd_6_22 dX7_barters_47 (fun q_28 hq_28 _ => ?_)
      refine lv_iload_n F.1 F.2.1 dX7_barters_50 rfl (lv_at hl 2 rfl) ?_
      refine tIaldB F hK hH (tyb hq_28 (all1 rfl)) (ixb (n := 14) ha1 rfl rfl) dX7_barters_51 (fun z_29 hz_29 => ?_)
      refine tSub (lo := (-14420000)) (hi := 9999) F dX7_barters_52 hz_27.2 hz_29 rfl (fun z_30 hz_30 => ?_)
      refine lv_aload_n F.1 F.2.1 dX7_barters_53 rfl (lv_at hl 1 rfl) ?_
      refine lv_iload_n F.1 F.2.1 dX7_barters_54 rfl (lv_at hl 0 rfl) ?_
      refine lv_iconst (v := 4) F.1 F.2.1 dX7_barters_55 (by decide) ?_
      refine topK (a := 4) (by decide) (fun k_31 hk_31 => ?_)
      refine tVi (b := a0) (As := [.int z_2, .int k_31]) (rest := [.int z_30]) F hK hN hO (c_X7_ofStore_4 E ws kp as rd m_second ty ik un tk xt tp sp wrb nu nab iwb X0 a0 z_2 k_31 ha0 r_9 (eqb hk_31) ((hX0).1)) mv_X7_ofStore wd_27_0 ⟨Nat.le_of_ble_eq_true rfl, Nat.le_of_ble_eq_true rfl⟩ ⟨Nat.le_of_ble_eq_true rfl, Nat.le_of_ble_eq_true rfl⟩ hH hS (tRecv hK hH (tyb ha0 (all1 rfl)) clX7) rfl hl.1 (Nat.le_of_ble_eq_true rfl) dX7_barters_56 (fun z_32 H locs hq hS => ?_)
      obtain ⟨f_33, f_34, hH⟩ := hq
      have hH : TH E (tbM (mD (.inl tp) (.inl sp) (.inl nu) (.inl un) (.inl tk) (.inl xt) (.inl wrb) (.inl nab) (.inl iwb)) (xD 660 X0) ws kp as rd m_second ty ik) H := hH
      refine lv_aload_n F.1 F.2.1 dX7_barters_59 rfl (lv_at hl 1 rfl) ?_
      refine tGetR (j := 21) F hK hH (tyb ha0 (all1 rfl)) rfl (all1 rfl) clX7 (by decide) wd_7_0 dX7_barters_60 (fun q_35 hq_35 _ => ?_)
      refine lv_iload_n F.1 F.2.1 dX7_barters_63 rfl (lv_at hl 0 rfl) ?_
      refine tIaldB F hK hH (tyb hq_35 (all1 rfl)) (ixb (n := 4) r_9 rfl rfl) dX7_barters_64 (fun z_36 hz_36 => ?_)
      refine lv_isub F.1 F.2.1 dX7_barters_65 ?_
      refine topF (fun z_37 => ?_)
      refine lv_aload_n F.1 F.2.1 dX7_barters_66 rfl (lv_at hl 1 rfl) ?_
      refine tGetR (j := 22) F hK hH (tyb ha0 (all1 rfl)) rfl (all1 rfl) clX7 (by decide) wd_7_1 dX7_barters_67 (fun q_38 hq_38 _ => ?_)
      refine lv_iload_n F.1 F.2.1 dX7_barters_70 rfl (lv_at hl 0 rfl) ?_
      refine tIaldB F hK hH (tyb hq_38 (all1 rfl)) (ixb (n := 4) r_9 rfl rfl) dX7_barters_71 (fun z_39 hz_39 => ?_)
      refine lv_isub F.1 F.2.1 dX7_barters_72 ?_
      refine topF (fun z_40 => ?_)
      refine tSi (As := [.int z_30, .int z_40]) (rest := []) F hK hN hO (c_X7_least E (mD (.inl tp) (.inl sp) (.inl nu) (.inl un) (.inl tk) (.inl xt) (.inl wrb) (.inl nab) (.inl iwb)) (xD 660 X0) ws kp as rd m_second ty ik z_30 z_40) ms_X7_least wd_27_15 ⟨Nat.le_of_ble_eq_true rfl, Nat.le_of_ble_eq_true rfl⟩ ⟨Nat.le_of_ble_eq_true rfl, Nat.le_of_ble_eq_true rfl⟩ hH hS rfl hl.1 (Nat.le_of_ble_eq_true rfl) dX7_barters_73 (fun z_41 H locs hq hS => ?_)
      obtain ⟨f_42, f_43, hH⟩ := hq
      have hH : TH E (tbM (mD (.inl tp) (.inl sp) (.inl nu) (.inl un) (.inl tk) (.inl xt) (.inl wrb) (.inl nab) (.inl iwb)) (xD 660 X0) ws kp as rd m_second ty ik) H := hH
      have ez_41 : (-2147483648) ≤ z_41.toInt ∧ z_41.toInt ≤ 9999 := by omega
      refine lv_istore_n (lv' := [(3, .int z_41), (2, .int z_2), (0, .ref a0), (1, .int a1)]) F.1 F.2.1 dX7_barters_76 rfl hl (by decide) rfl (fun ls hl => ?_)
      refine lv_aload_n F.1 F.2.1 dX7_barters_77 rfl (lv_at hl 2 rfl) ?_
      refine lv_aload_n F.1 F.2.1 dX7_barters_78 rfl (lv_at hl 2 rfl) ?_
      refine lv_iload_n F.1 F.2.1 dX7_barters_79 rfl (lv_at hl 3 rfl) ?_
      refine lv_iconst (v := 0) F.1 F.2.1 dX7_barters_80 (by decide) ?_
      refine topK (a := 0) (by decide) (fun k_44 hk_44 => ?_)
      refine tVi (b := a0) (As := [.int a1, .int k_44]) (rest := [.ref a0]) F hK hN hO (c_X7_of_0 E ws kp as rd m_second ty ik un tk xt tp sp wrb nu nab iwb X0 a0 a1 k_44 ha0 ha1 (eqb hk_44) ((hX0).1)) mv_X7_of wd_26_20 ⟨Nat.le_of_ble_eq_true rfl, Nat.le_of_ble_eq_true rfl⟩ ⟨Nat.le_of_ble_eq_true rfl, Nat.le_of_ble_eq_true rfl⟩ hH hS (tRecv hK hH (tyb ha0 (all1 rfl)) clX7) rfl hl.1 (Nat.le_of_ble_eq_true rfl) dX7_barters_81 (fun z_45 H locs hq hS => ?_)
      obtain ⟨f_46, f_47, hH⟩ := hq
      have hH : TH E (tbM (mD (.inl tp) (.inl sp) (.inl nu) (.inl un) (.inl tk) (.inl xt) (.inl wrb) (.inl nab) (.inl iwb)) (xD 660 X0) ws kp as rd m_second ty ik) H := hH
      refine lv_iload_n F.1 F.2.1 dX7_barters_84 rfl (lv_at hl 0 rfl) ?_
      refine lv_aload_n F.1 F.2.1 dX7_barters_85 rfl (lv_at hl 2 rfl) ?_
      refine lv_iload_n F.1 F.2.1 dX7_barters_86 rfl (lv_at hl 1 rfl) ?_
      refine lv_iconst (v := 0) F.1 F.2.1 dX7_barters_87 (by decide) ?_
      refine topK (a := 0) (by decide) (fun k_48 hk_48 => ?_)
      refine tVi (b := a0) (As := [.int z_2, .int k_48]) (rest := [.int z_41, .int z_45, .ref a0]) F hK hN hO (c_X7_ofStore_0 E ws kp as rd m_second ty ik un tk xt tp sp wrb nu nab iwb X0 a0 z_2 k_48 ha0 r_9 (eqb hk_48) ((hX0).1)) mv_X7_ofStore wd_27_0 ⟨Nat.le_of_ble_eq_true rfl, Nat.le_of_ble_eq_true rfl⟩ ⟨Nat.le_of_ble_eq_true rfl, Nat.le_of_ble_eq_true rfl⟩ hH hS (tRecv hK hH (tyb ha0 (all1 rfl)) clX7) rfl hl.1 (Nat.le_of_ble_eq_true rfl) dX7_barters_88 (fun z_49 H locs hq hS => ?_)
      obtain ⟨f_50, f_51, hH⟩ := hq
      have hH : TH E (tbM (mD (.inl tp) (.inl sp) (.inl nu) (.inl un) (.inl tk) (.inl xt) (.inl wrb) (.inl nab) (.inl iwb)) (xD 660 X0) ws kp as rd m_second ty ik) H := hH
      refine tVi (b := a0) (As := [.int z_45, .int z_41, .int z_49]) (rest := []) F hK hN hO (c_X7_mostMore E ws kp as rd m_second ty ik un tk xt tp sp wrb nu nab iwb X0 a0 z_45 z_41 z_49 ha0 f_46 ez_41 (wkb f_50 rfl rfl) hX0) mv_X7_mostMore wd_27_18 ⟨Nat.le_of_ble_eq_true rfl, Nat.le_of_ble_eq_true rfl⟩ ⟨Nat.le_of_ble_eq_true rfl, Nat.le_of_ble_eq_true rfl⟩ hH hS (tRecv hK hH (tyb ha0 (all1 rfl)) clX7) rfl hl.1 (Nat.le_of_ble_eq_true rfl) dX7_barters_91 (fun z_52 H locs hq hS => ?_)
      obtain ⟨f_53, f_54, hH⟩ := hq
      have hH : TH E (tbM (mD (.inl tp) (.inl sp) (.inl nu) (.inl un) (.inl tk) (.inl xt) (.inl wrb) (.inl nab) (.inl iwb)) (xD 660 X0) ws kp as rd m_second ty ik) H := hH
      refine lv_istore (lv' := [(4, .int z_52), (3, .int z_41), (2, .int z_2), (0, .ref a0), (1, .int a1)]) F.1 F.2.1 dX7_barters_94 hl (by decide) rfl (fun ls hl => ?_)
      refine lv_aload_n F.1 F.2.1 dX7_barters_96 rfl (lv_at hl 3 rfl) ?_
      refine tGetR (j := 20) F hK hH (tyb ha0 (all1 rfl)) rfl (all1 rfl) clX7 (by decide) wd_6_23 dX7_barters_97 (fun q_55 hq_55 _ => ?_)
      refine lv_iload_n F.1 F.2.1 dX7_barters_100 rfl (lv_at hl 4 rfl) ?_
      refine lv_iload F.1 F.2.1 dX7_barters_101 (lv_at hl 0 rfl) ?_
      refine tIastB F hK hH hS (tyb hq_55 (all1 rfl)) (ixb (n := 14) ha1 rfl rfl) f_53 dX7_barters_103 (fun H locs hH hS => ?_)
      refine lv_aload_n F.1 F.2.1 dX7_barters_104 rfl (lv_at hl 3 rfl) ?_
      refine tGetR (j := 22) F hK hH (tyb ha0 (all1 rfl)) rfl (all1 rfl) clX7 (by decide) wd_7_1 dX7_barters_105 (fun q_56 hq_56 _ => ?_)
      refine lv_iload_n F.1 F.2.1 dX7_barters_108 rfl (lv_at hl 2 rfl) ?_
      refine lv_dup2_11 F.1 F.2.1 dX7_barters_109 rfl rfl ?_
      refine tIaldB F hK hH (tyb hq_56 (all1 rfl)) (ixb (n := 4) r_9 rfl rfl) dX7_barters_110 (fun z_57 hz_57 => ?_)
      refine lv_iload F.1 F.2.1 dX7_barters_111 (lv_at hl 0 rfl) ?_
      refine lv_iadd F.1 F.2.1 dX7_barters_113 ?_
      refine topF (fun z_58 => ?_)
      refine tIastB F hK hH hS (tyb hq_56 (all1 rfl)) (ixb (n := 4) r_9 rfl rfl) (i32b _) dX7_barters_114 (fun H locs hH hS => ?_)
      refine lv_aload_n F.1 F.2.1 dX7_barters_115 rfl (lv_at hl 3 rfl) ?_
      refine tGetR (j := 12) F hK hH (tyb ha0 (all1 rfl)) rfl (all1 rfl) clX7 (by decide) wd_6_16 dX7_barters_116 (fun q_59 hq_59 _ => ?_)
      refine lv_aload_n F.1 F.2.1 dX7_barters_119 rfl (lv_at hl 3 rfl) ?_
      refine lv_iload_n F.1 F.2.1 dX7_barters_120 rfl (lv_at hl 4 rfl) ?_
      refine lv_iconst (v := 0) F.1 F.2.1 dX7_barters_121 (by decide) ?_
      refine topK (a := 0) (by decide) (fun k_60 hk_60 => ?_)
      refine tVi (b := a0) (As := [.int a1, .int k_60]) (rest := [.ref q_59]) F hK hN hO (c_X7_of_0 E ws kp as rd m_second ty ik un tk xt tp sp wrb nu nab iwb X0 a0 a1 k_60 ha0 ha1 (eqb hk_60) ((hX0).1)) mv_X7_of wd_26_20 ⟨Nat.le_of_ble_eq_true rfl, Nat.le_of_ble_eq_true rfl⟩ ⟨Nat.le_of_ble_eq_true rfl, Nat.le_of_ble_eq_true rfl⟩ hH hS (tRecv hK hH (tyb ha0 (all1 rfl)) clX7) rfl hl.1 (Nat.le_of_ble_eq_true rfl) dX7_barters_122 (fun z_61 H locs hq hS => ?_)
      obtain ⟨f_62, f_63, hH⟩ := hq
      have hH : TH E (tbM (mD (.inl tp) (.inl sp) (.inl nu) (.inl un) (.inl tk) (.inl xt) (.inl wrb) (.inl nab) (.inl iwb)) (xD 660 X0) ws kp as rd m_second ty ik) H := hH
      refine lv_dup2_11 F.1 F.2.1 dX7_barters_125 rfl rfl ?_
      refine tIaldB F hK hH (tyb hq_59 (all1 rfl)) (ixb (n := 12) f_62 rfl rfl) dX7_barters_126 (fun z_64 hz_64 => ?_)
      refine lv_iload F.1 F.2.1 dX7_barters_127 (lv_at hl 0 rfl) ?_
      refine lv_iadd F.1 F.2.1 dX7_barters_129 ?_
      refine topF (fun z_65 => ?_)
      refine tIastB F hK hH hS (tyb hq_59 (all1 rfl)) (ixb (n := 12) f_62 rfl rfl) (i32b _) dX7_barters_130 (fun H locs hH hS => ?_)
      refine lv_aload_n F.1 F.2.1 dX7_barters_131 rfl (lv_at hl 3 rfl) ?_
      refine tGetR (j := 13) F hK hH (tyb ha0 (all1 rfl)) rfl (all1 rfl) clX7 (by decide) wd_6_17 dX7_barters_132 (fun q_66 hq_66 _ => ?_)
      refine lv_aload_n F.1 F.2.1 dX7_barters_135 rfl (lv_at hl 3 rfl) ?_
      refine lv_iload_n F.1 F.2.1 dX7_barters_136 rfl (lv_at hl 2 rfl) ?_
      refine lv_iconst (v := 0) F.1 F.2.1 dX7_barters_137 (by decide) ?_
      refine topK (a := 0) (by decide) (fun k_67 hk_67 => ?_)
      refine tVi (b := a0) (As := [.int z_2, .int k_67]) (rest := [.ref q_66]) F hK hN hO (c_X7_ofStore_0 E ws kp as rd m_second ty ik un tk xt tp sp wrb nu nab iwb X0 a0 z_2 k_67 ha0 r_9 (eqb hk_67) ((hX0).1)) mv_X7_ofStore wd_27_0 ⟨Nat.le_of_ble_eq_true rfl, Nat.le_of_ble_eq_true rfl⟩ ⟨Nat.le_of_ble_eq_true rfl, Nat.le_of_ble_eq_true rfl⟩ hH hS (tRecv hK hH (tyb ha0 (all1 rfl)) clX7) rfl hl.1 (Nat.le_of_ble_eq_true rfl) dX7_barters_138 (fun z_68 H locs hq hS => ?_)
      obtain ⟨f_69, f_70, hH⟩ := hq
      have hH : TH E (tbM (mD (.inl tp) (.inl sp) (.inl nu) (.inl un) (.inl tk) (.inl xt) (.inl wrb) (.inl nab) (.inl iwb)) (xD 660 X0) ws kp as rd m_second ty ik) H := hH
      refine lv_dup2_11 F.1 F.2.1 dX7_barters_141 rfl rfl ?_
      refine tIaldB F hK hH (tyb hq_66 (all1 rfl)) (ixb (n := 12) f_69 rfl rfl) dX7_barters_142 (fun z_71 hz_71 => ?_)
      refine lv_iload F.1 F.2.1 dX7_barters_143 (lv_at hl 0 rfl) ?_
      refine lv_iadd F.1 F.2.1 dX7_barters_145 ?_
      refine topF (fun z_72 => ?_)
      refine tIastB F hK hH hS (tyb hq_66 (all1 rfl)) (ixb (n := 12) f_69 rfl rfl) (i32b _) dX7_barters_146 (fun H locs hH hS => ?_)
      exact txV F hS dX7_barters_147 (hH)
    · skip
      have r_22 : 0 ≤ z_18.toInt ∧ z_18.toInt ≤ 0 := by have h9_ := f_19; omega
      exact txV F hS dX7_barters_33 (hH)
set_option maxHeartbeats 4000000 in
set_option maxRecDepth 100000 in
theorem c_X7_works (E : Ev) (ws : TD) (kp : TD) (as : TD) (rd : TD) (ty : TD) (ik : TD) (un : Int × Int) (xt : Int × Int) (tp : Int × Int) (sp : Int × Int) (wrb : Int × Int) (nu : Int × Int) (nab : Int × Int) (iwb : Int × Int) (X0 : Nat → Int32) (a0 : Nat) (ha0 : eT E a0 ∈ [24]) (hX0 : okR X0) : TcV E yX7_works cX7_works 2 ({ frames := 7, cells := 0, slots := 0, locals := 180 }) [.ref a0] (fun H => TH E (tbM (mD (.inl tp) (.inl sp) (.inl nu) (.inl un) (.inl (0, 18)) (.inl xt) (.inl wrb) (.inl nab) (.inl iwb)) (xD 660 X0) ws kp as rd m_second ty ik) H) (fun H => TH E (tbM (mD (.inl tp) (.inl sp) (.inl nu) (.inl un) (.inl (0, 18)) (.inl xt) (.inl wrb) (.inl nab) (.inl iwb)) (xD 660 X0) ws kp as rd m_second ty ik) H) := by
  refine teV (by decide) (Nat.le_of_ble_eq_true rfl) ?_
  intro p_ ev_ s mi_ below_ meth cd_ ls F hK hN hO hH hS hl
  have hH : TH E (tbM (mD (.inl tp) (.inl sp) (.inl nu) (.inl un) (.inl (0, 18)) (.inl xt) (.inl wrb) (.inl nab) (.inl iwb)) (xD 660 X0) ws kp as rd m_second ty ik) s.heap := hH
  have hl : lv_has ls 2 [(0, .ref a0)] := hl
  have hBX0 := okB hX0.1
  have hLX0 := hX0.2
  refine lv_aload_n F.1 F.2.1 dX7_works_0 rfl (lv_at hl 0 rfl) ?_
  refine lv_iconst (v := 0) F.1 F.2.1 dX7_works_1 (by decide) ?_
  refine topK (a := 0) (by decide) (fun k_1 hk_1 => ?_)
  refine tVv (b := a0) (As := [.int k_1]) (rest := []) F hK hN hO (c_X7_takesFirst E ws kp as rd ty ik un xt tp sp wrb nu nab iwb X0 a0 k_1 ha0 hX0) mv_X7_takesFirst wd_25_19 ⟨Nat.le_of_ble_eq_true rfl, Nat.le_of_ble_eq_true rfl⟩ ⟨Nat.le_of_ble_eq_true rfl, Nat.le_of_ble_eq_true rfl⟩ hH hS (tRecv hK hH (tyb ha0 (all1 rfl)) clX7) rfl hl.1 (Nat.le_of_ble_eq_true rfl) dX7_works_2 (fun H locs hq hS => ?_)
  have hH := hq
  have hH : TH E (tbM (mD (.inl tp) (.inl sp) (.inl nu) (.inl un) (.inl (0, 18)) (.inl xt) (.inl wrb) (.inl nab) (.inl iwb)) (xD 660 X0) ws kp as rd m_second ty ik) H := hH
  refine lv_iconst (v := 0) F.1 F.2.1 dX7_works_5 (by decide) ?_
  refine topK (a := 0) (by decide) (fun k_3 hk_3 => ?_)
  refine lv_istore_n (lv' := [(1, .int k_3), (0, .ref a0)]) F.1 F.2.1 dX7_works_6 rfl hl (by decide) rfl (fun ls hl => ?_)
  refine wloop (σ := Int32) (fun n9 x9 H locs ls => (4 - x9.toInt + 1).toNat < n9 ∧ (0 ≤ x9.toInt ∧ x9.toInt ≤ 4) ∧ TH E (tbM (mD (.inl tp) (.inl sp) (.inl nu) (.inl un) (.inl (0, 18)) (.inl xt) (.inl wrb) (.inl nab) (.inl iwb)) (xD 660 X0) ws kp as rd m_second ty ik) H ∧ va_S (eA E s.heap.size) s.heap H locs ∧ lv_has ls 2 [(0, .ref a0), (1, .int x9)]) ?_ (fun x9 H locs ls h => absurd h.1 (Nat.not_lt_zero _)) _ (k_3) ⟨Nat.lt_succ_self _, (wkb (eqb hk_3) rfl rfl), hH, hS, lv_sub hl [1, 0] rfl⟩
  intro n_7 ih_7 u_4 H locs ls ⟨hm_7, hu_4, hH, hS, hl⟩
  have hm_7 : (4 - u_4.toInt + 1).toNat < n_7 + 1 := hm_7
  have hu_4 : (0 ≤ u_4.toInt ∧ u_4.toInt ≤ 4) := hu_4
  have hH : TH E (tbM (mD (.inl tp) (.inl sp) (.inl nu) (.inl un) (.inl (0, 18)) (.inl xt) (.inl wrb) (.inl nab) (.inl iwb)) (xD 660 X0) ws kp as rd m_second ty ik) H := hH
  have hl : lv_has ls 2 [(0, .ref a0), (1, .int u_4)] := hl
  refine lv_iload_n F.1 F.2.1 dX7_works_7 rfl (lv_at hl 1 rfl) ?_
  refine lv_aload_n F.1 F.2.1 dX7_works_8 rfl (lv_at hl 0 rfl) ?_
  refine tVi (b := a0) (As := []) (rest := [.int u_4]) F hK hN hO (c_X7_stores E ws kp as rd m_second ty ik un (0, 18) xt tp sp wrb nu nab iwb X0 a0 ha0 ((hX0).1)) mv_X7_stores wd_26_12 ⟨Nat.le_of_ble_eq_true rfl, Nat.le_of_ble_eq_true rfl⟩ ⟨Nat.le_of_ble_eq_true rfl, Nat.le_of_ble_eq_true rfl⟩ hH hS (tRecv hK hH (tyb ha0 (all1 rfl)) clX7) rfl hl.1 (Nat.le_of_ble_eq_true rfl) dX7_works_9 (fun z_5 H locs hq hS => ?_)
  obtain ⟨f_6, f_7, hH⟩ := hq
  have hH : TH E (tbM (mD (.inl tp) (.inl sp) (.inl nu) (.inl un) (.inl (0, 18)) (.inl xt) (.inl wrb) (.inl nab) (.inl iwb)) (xD 660 X0) ws kp as rd m_second ty ik) H := hH
  refine b_ge (tgt := 26) F dX7_works_12 (by decide) (fun c_8 => ?_) (fun c_8 => ?_)
  · skip
    refine lv_iconst (v := 0) F.1 F.2.1 dX7_works_26 (by decide) ?_
    refine topK (a := 0) (by decide) (fun k_11 hk_11 => ?_)
    refine lv_istore_n (lv' := [(1, .int k_11), (0, .ref a0)]) F.1 F.2.1 dX7_works_27 rfl hl (by decide) rfl (fun ls hl => ?_)
    refine wloop (σ := Int32) (fun n9 x9 H locs ls => (14 - x9.toInt + 1).toNat < n9 ∧ (0 ≤ x9.toInt ∧ x9.toInt ≤ 14) ∧ TH E (tbM (mD (.inl tp) (.inl sp) (.inl nu) (.inl un) (.inl (0, 18)) (.inl xt) (.inl wrb) (.inl nab) (.inl iwb)) (xD 660 X0) ws kp as rd m_second ty ik) H ∧ va_S (eA E s.heap.size) s.heap H locs ∧ lv_has ls 2 [(0, .ref a0), (1, .int x9)]) ?_ (fun x9 H locs ls h => absurd h.1 (Nat.not_lt_zero _)) _ (k_11) ⟨Nat.lt_succ_self _, (wkb (eqb hk_11) rfl rfl), hH, hS, lv_sub hl [1, 0] rfl⟩
    intro n_28 ih_28 u_12 H locs ls ⟨hm_28, hu_12, hH, hS, hl⟩
    have hm_28 : (14 - u_12.toInt + 1).toNat < n_28 + 1 := hm_28
    have hu_12 : (0 ≤ u_12.toInt ∧ u_12.toInt ≤ 14) := hu_12
    have hH : TH E (tbM (mD (.inl tp) (.inl sp) (.inl nu) (.inl un) (.inl (0, 18)) (.inl xt) (.inl wrb) (.inl nab) (.inl iwb)) (xD 660 X0) ws kp as rd m_second ty ik) H := hH
    have hl : lv_has ls 2 [(0, .ref a0), (1, .int u_12)] := hl
    refine lv_iload_n F.1 F.2.1 dX7_works_28 rfl (lv_at hl 1 rfl) ?_
    refine lv_aload_n F.1 F.2.1 dX7_works_29 rfl (lv_at hl 0 rfl) ?_
    refine tVi (b := a0) (As := []) (rest := [.int u_12]) F hK hN hO (c_X7_rights E ws kp as rd m_second ty ik un (0, 18) xt tp sp wrb nu nab iwb X0 a0 ha0 ((hX0).1)) mv_X7_rights wd_19_4 ⟨Nat.le_of_ble_eq_true rfl, Nat.le_of_ble_eq_true rfl⟩ ⟨Nat.le_of_ble_eq_true rfl, Nat.le_of_ble_eq_true rfl⟩ hH hS (tRecv hK hH (tyb ha0 (all1 rfl)) clX7) rfl hl.1 (Nat.le_of_ble_eq_true rfl) dX7_works_30 (fun z_13 H locs hq hS => ?_)
    obtain ⟨f_14, f_15, hH⟩ := hq
    have hH : TH E (tbM (mD (.inl tp) (.inl sp) (.inl nu) (.inl un) (.inl (0, 18)) (.inl xt) (.inl wrb) (.inl nab) (.inl iwb)) (xD 660 X0) ws kp as rd m_second ty ik) H := hH
    refine b_ge (tgt := 47) F dX7_works_33 (by decide) (fun c_16 => ?_) (fun c_16 => ?_)
    · skip
      refine lv_aload_n F.1 F.2.1 dX7_works_47 rfl (lv_at hl 0 rfl) ?_
      refine tVi (b := a0) (As := []) (rest := []) F hK hN hO (c_X7_canBe E ws kp as rd m_second ty ik un (0, 18) xt tp sp wrb nu nab iwb X0 a0 ha0 hX0) mv_X7_canBe wd_28_2 ⟨Nat.le_of_ble_eq_true rfl, Nat.le_of_ble_eq_true rfl⟩ ⟨Nat.le_of_ble_eq_true rfl, Nat.le_of_ble_eq_true rfl⟩ hH hS (tRecv hK hH (tyb ha0 (all1 rfl)) clX7) rfl hl.1 (Nat.le_of_ble_eq_true rfl) dX7_works_48 (fun z_19 H locs hq hS => ?_)
      obtain ⟨f_20, hH⟩ := hq
      have hH : TH E (tbM (mD (.inl tp) (.inl sp) (.inl nu) (.inl un) (.inl (0, 18)) (.inl xt) (.inl wrb) (.inl nab) (.inl iwb)) (xD 660 X0) ws kp as rd m_second ty ik) H := hH
      refine lv_istore_n (lv' := [(1, .int z_19), (0, .ref a0)]) F.1 F.2.1 dX7_works_51 rfl hl (by decide) rfl (fun ls hl => ?_)
      exact txV F hS dX7_works_52 (hH)
    · skip
      have r_17 : 0 ≤ u_12.toInt ∧ u_12.toInt ≤ 13 := by have h9_ := hu_12; omega
      have r_18 : 1 ≤ z_13.toInt ∧ z_13.toInt ≤ 14 := by have h9_ := f_14; omega
      refine lv_aload_n F.1 F.2.1 dX7_works_36 rfl (lv_at hl 0 rfl) ?_
      refine lv_iload_n F.1 F.2.1 dX7_works_37 rfl (lv_at hl 1 rfl) ?_
      refine tVv (b := a0) (As := [.int u_12]) (rest := []) F hK hN hO (c_X7_barters E ws kp as rd ty ik un (0, 18) xt tp sp wrb nu nab iwb X0 a0 u_12 ha0 r_17 hX0 (by omega)) mv_X7_barters wd_29_10 ⟨Nat.le_of_ble_eq_true rfl, Nat.le_of_ble_eq_true rfl⟩ ⟨Nat.le_of_ble_eq_true rfl, Nat.le_of_ble_eq_true rfl⟩ hH hS (tRecv hK hH (tyb ha0 (all1 rfl)) clX7) rfl hl.1 (Nat.le_of_ble_eq_true rfl) dX7_works_38 (fun H locs hq hS => ?_)
      have hH := hq
      have hH : TH E (tbM (mD (.inl tp) (.inl sp) (.inl nu) (.inl un) (.inl (0, 18)) (.inl xt) (.inl wrb) (.inl nab) (.inl iwb)) (xD 660 X0) ws kp as rd m_second ty ik) H := hH
      obtain ⟨x_22, ex_22, hx_22⟩ := iincB (c := 1) (lo := 1) (hi := 14) r_17 rfl
      refine lv_iinc (v := x_22) (lv' := [(1, .int x_22), (0, .ref a0)]) F.1 F.2.1 dX7_works_41 hl (k := 1) rfl ex_22 (by decide) rfl (fun ls hl => ?_)
      refine lv_goto (tgt := 28) F.1 F.2.1 dX7_works_44 (by decide) ?_
      exact ih_28 (x_22) _ _ _ ⟨(show (14 - x_22.toInt + 1).toNat < n_28 from by omega), (wkb hx_22.2 rfl rfl), hH, hS, lv_sub hl [1, 0] rfl⟩
  · skip
    have r_9 : 0 ≤ u_4.toInt ∧ u_4.toInt ≤ 3 := by have h9_ := hu_4; omega
    have r_10 : 1 ≤ z_5.toInt ∧ z_5.toInt ≤ 4 := by have h9_ := f_6; omega
    refine lv_aload_n F.1 F.2.1 dX7_works_15 rfl (lv_at hl 0 rfl) ?_
    refine lv_iload_n F.1 F.2.1 dX7_works_16 rfl (lv_at hl 1 rfl) ?_
    refine tVv (b := a0) (As := [.int u_4]) (rest := []) F hK hN hO (c_X7_lets E ws kp as rd ty ik un (0, 18) xt tp sp wrb nu nab iwb X0 a0 u_4 ha0 r_9 hX0 (by omega)) mv_X7_lets wd_29_2 ⟨Nat.le_of_ble_eq_true rfl, Nat.le_of_ble_eq_true rfl⟩ ⟨Nat.le_of_ble_eq_true rfl, Nat.le_of_ble_eq_true rfl⟩ hH hS (tRecv hK hH (tyb ha0 (all1 rfl)) clX7) rfl hl.1 (Nat.le_of_ble_eq_true rfl) dX7_works_17 (fun H locs hq hS => ?_)
    have hH := hq
    have hH : TH E (tbM (mD (.inl tp) (.inl sp) (.inl nu) (.inl un) (.inl (0, 18)) (.inl xt) (.inl wrb) (.inl nab) (.inl iwb)) (xD 660 X0) ws kp as rd m_second ty ik) H := hH
    obtain ⟨x_24, ex_24, hx_24⟩ := iincB (c := 1) (lo := 1) (hi := 4) r_9 rfl
    refine lv_iinc (v := x_24) (lv' := [(1, .int x_24), (0, .ref a0)]) F.1 F.2.1 dX7_works_20 hl (k := 1) rfl ex_24 (by decide) rfl (fun ls hl => ?_)
    refine lv_goto (tgt := 7) F.1 F.2.1 dX7_works_23 (by decide) ?_
    exact ih_7 (x_24) _ _ _ ⟨(show (4 - x_24.toInt + 1).toNat < n_7 from by omega), (wkb hx_24.2 rfl rfl), hH, hS, lv_sub hl [1, 0] rfl⟩
set_option maxHeartbeats 4000000 in
set_option maxRecDepth 100000 in
theorem c_X7_addsUp (E : Ev) (ws : TD) (kp : TD) (as : TD) (rd : TD) (ty : TD) (ik : TD) (un : Int × Int) (tk : Int × Int) (xt : Int × Int) (tp : Int × Int) (sp : Int × Int) (wrb : Int × Int) (nu : Int × Int) (nab : Int × Int) (iwb : Int × Int) (X0 : Nat → Int32) (a0 : Nat) (ha0 : eT E a0 ∈ [24]) (hX0 : okR X0) : TcV E yX7_addsUp cX7_addsUp 2 ({ frames := 4, cells := 0, slots := 0, locals := 107 }) [.ref a0] (fun H => TH E (tbM (mD (.inl tp) (.inl sp) (.inl nu) (.inl un) (.inl tk) (.inl xt) (.inl wrb) (.inl nab) (.inl iwb)) (xD 660 X0) ws kp as rd m_second ty ik) H) (fun H => TH E (tbM (mD (.inl tp) (.inl sp) (.inl nu) (.inl un) (.inl tk) (.inl xt) (.inl wrb) (.inl nab) (.inl iwb)) (xD 660 X0) ws kp as rd m_second ty ik) H) := by
  refine teV (by decide) (Nat.le_of_ble_eq_true rfl) ?_
  intro p_ ev_ s mi_ below_ meth cd_ ls F hK hN hO hH hS hl
  have hH : TH E (tbM (mD (.inl tp) (.inl sp) (.inl nu) (.inl un) (.inl tk) (.inl xt) (.inl wrb) (.inl nab) (.inl iwb)) (xD 660 X0) ws kp as rd m_second ty ik) s.heap := hH
  have hl : lv_has ls 2 [(0, .ref a0)] := hl
  have hBX0 := okB hX0.1
  have hLX0 := hX0.2
  refine lv_aload_n F.1 F.2.1 dX7_addsUp_0 rfl (lv_at hl 0 rfl) ?_
  refine lv_iconst (v := 0) F.1 F.2.1 dX7_addsUp_1 (by decide) ?_
  refine topK (a := 0) (by decide) (fun k_1 hk_1 => ?_)
  refine tPut (j := 23) F hK hH hS (tyb ha0 (all1 rfl)) rfl (fdI (wkb (eqb hk_1) rfl rfl)) clX7 (by decide) wd_29_18 rfl rfl rfl rfl dX7_addsUp_2 (fun H locs hH hS => ?_)
  refine lv_aload_n F.1 F.2.1 dX7_addsUp_5 rfl (lv_at hl 0 rfl) ?_
  refine lv_iconst (v := 0) F.1 F.2.1 dX7_addsUp_6 (by decide) ?_
  refine topK (a := 0) (by decide) (fun k_2 hk_2 => ?_)
  refine tPut (j := 24) F hK hH hS (tyb ha0 (all1 rfl)) rfl (fdI (wkb (eqb hk_2) rfl rfl)) clX7 (by decide) wd_29_19 rfl rfl rfl rfl dX7_addsUp_7 (fun H locs hH hS => ?_)
  refine lv_aload_n F.1 F.2.1 dX7_addsUp_10 rfl (lv_at hl 0 rfl) ?_
  refine lv_iconst (v := 0) F.1 F.2.1 dX7_addsUp_11 (by decide) ?_
  refine topK (a := 0) (by decide) (fun k_3 hk_3 => ?_)
  refine tPut (j := 25) F hK hH hS (tyb ha0 (all1 rfl)) rfl (fdI (wkb (eqb hk_3) rfl rfl)) clX7 (by decide) wd_29_20 rfl rfl rfl rfl dX7_addsUp_12 (fun H locs hH hS => ?_)
  refine lv_aload_n F.1 F.2.1 dX7_addsUp_15 rfl (lv_at hl 0 rfl) ?_
  refine lv_iconst (v := 0) F.1 F.2.1 dX7_addsUp_16 (by decide) ?_
  refine topK (a := 0) (by decide) (fun k_4 hk_4 => ?_)
  refine tPut (j := 26) F hK hH hS (tyb ha0 (all1 rfl)) rfl (fdI (wkb (eqb hk_4) rfl rfl)) clX7 (by decide) wd_29_21 rfl rfl (nar01 (wkb (eqb hk_4) rfl rfl)) (fit01 (wkb (eqb hk_4) rfl rfl)) dX7_addsUp_17 (fun H locs hH hS => ?_)
  refine lv_iconst (v := 0) F.1 F.2.1 dX7_addsUp_20 (by decide) ?_
  refine topK (a := 0) (by decide) (fun k_5 hk_5 => ?_)
  refine lv_istore_n (lv' := [(1, .int k_5), (0, .ref a0)]) F.1 F.2.1 dX7_addsUp_21 rfl hl (by decide) rfl (fun ls hl => ?_)
  refine wloop (σ := Int32) (fun n9 x9 H locs ls => (12 - x9.toInt + 1).toNat < n9 ∧ (0 ≤ x9.toInt ∧ x9.toInt ≤ 12) ∧ TH E (tbM (mD (.inl tp) (.inl sp) (.inl nu) (.inl un) (.inl tk) (.inl xt) (.inl wrb) (.inl nab) (.inl iwb)) (xD 660 X0) ws kp as rd m_second ty ik) H ∧ va_S (eA E s.heap.size) s.heap H locs ∧ lv_has ls 2 [(0, .ref a0), (1, .int x9)]) ?_ (fun x9 H locs ls h => absurd h.1 (Nat.not_lt_zero _)) _ (k_5) ⟨Nat.lt_succ_self _, (wkb (eqb hk_5) rfl rfl), hH, hS, lv_sub hl [1, 0] rfl⟩
  intro n_22 ih_22 u_6 H locs ls ⟨hm_22, hu_6, hH, hS, hl⟩
  have hm_22 : (12 - u_6.toInt + 1).toNat < n_22 + 1 := hm_22
  have hu_6 : (0 ≤ u_6.toInt ∧ u_6.toInt ≤ 12) := hu_6
  have hH : TH E (tbM (mD (.inl tp) (.inl sp) (.inl nu) (.inl un) (.inl tk) (.inl xt) (.inl wrb) (.inl nab) (.inl iwb)) (xD 660 X0) ws kp as rd m_second ty ik) H := hH
  have hl : lv_has ls 2 [(0, .ref a0), (1, .int u_6)] := hl
  refine lv_iload_n F.1 F.2.1 dX7_addsUp_22 rfl (lv_at hl 1 rfl) ?_
  refine lv_aload_n F.1 F.2.1 dX7_addsUp_23 rfl (lv_at hl 0 rfl) ?_
  refine tVi (b := a0) (As := []) (rest := [.int u_6]) F hK hN hO (c_X7_reaches E ws kp as rd m_second ty ik un tk xt tp sp wrb nu nab iwb X0 a0 ha0 ((hX0).1)) mv_X7_reaches wd_28_7 ⟨Nat.le_of_ble_eq_true rfl, Nat.le_of_ble_eq_true rfl⟩ ⟨Nat.le_of_ble_eq_true rfl, Nat.le_of_ble_eq_true rfl⟩ hH hS (tRecv hK hH (tyb ha0 (all1 rfl)) clX7) rfl hl.1 (Nat.le_of_ble_eq_true rfl) dX7_addsUp_24 (fun z_7 H locs hq hS => ?_)
  obtain ⟨f_8, f_9, hH⟩ := hq
  have hH : TH E (tbM (mD (.inl tp) (.inl sp) (.inl nu) (.inl un) (.inl tk) (.inl xt) (.inl wrb) (.inl nab) (.inl iwb)) (xD 660 X0) ws kp as rd m_second ty ik) H := hH
  refine b_ge (tgt := 125) F dX7_addsUp_27 (by decide) (fun c_10 => ?_) (fun c_10 => ?_)
  · skip
    refine lv_iconst (v := 0) F.1 F.2.1 dX7_addsUp_125 (by decide) ?_
    refine topK (a := 0) (by decide) (fun k_13 hk_13 => ?_)
    refine lv_istore_n (lv' := [(1, .int k_13), (0, .ref a0)]) F.1 F.2.1 dX7_addsUp_126 rfl hl (by decide) rfl (fun ls hl => ?_)
    refine wloop (σ := Int32) (fun n9 x9 H locs ls => (14 - x9.toInt + 1).toNat < n9 ∧ (0 ≤ x9.toInt ∧ x9.toInt ≤ 14) ∧ TH E (tbM (mD (.inl tp) (.inl sp) (.inl nu) (.inl un) (.inl tk) (.inl xt) (.inl wrb) (.inl nab) (.inl iwb)) (xD 660 X0) ws kp as rd m_second ty ik) H ∧ va_S (eA E s.heap.size) s.heap H locs ∧ lv_has ls 2 [(0, .ref a0), (1, .int x9)]) ?_ (fun x9 H locs ls h => absurd h.1 (Nat.not_lt_zero _)) _ (k_13) ⟨Nat.lt_succ_self _, (wkb (eqb hk_13) rfl rfl), hH, hS, lv_sub hl [1, 0] rfl⟩
    intro n_127 ih_127 u_14 H locs ls ⟨hm_127, hu_14, hH, hS, hl⟩
    have hm_127 : (14 - u_14.toInt + 1).toNat < n_127 + 1 := hm_127
    have hu_14 : (0 ≤ u_14.toInt ∧ u_14.toInt ≤ 14) := hu_14
    have hH : TH E (tbM (mD (.inl tp) (.inl sp) (.inl nu) (.inl un) (.inl tk) (.inl xt) (.inl wrb) (.inl nab) (.inl iwb)) (xD 660 X0) ws kp as rd m_second ty ik) H := hH
    have hl : lv_has ls 2 [(0, .ref a0), (1, .int u_14)] := hl
    refine lv_iload_n F.1 F.2.1 dX7_addsUp_127 rfl (lv_at hl 1 rfl) ?_
    refine lv_aload_n F.1 F.2.1 dX7_addsUp_128 rfl (lv_at hl 0 rfl) ?_
    refine tVi (b := a0) (As := []) (rest := [.int u_14]) F hK hN hO (c_X7_rights E ws kp as rd m_second ty ik un tk xt tp sp wrb nu nab iwb X0 a0 ha0 ((hX0).1)) mv_X7_rights wd_19_4 ⟨Nat.le_of_ble_eq_true rfl, Nat.le_of_ble_eq_true rfl⟩ ⟨Nat.le_of_ble_eq_true rfl, Nat.le_of_ble_eq_true rfl⟩ hH hS (tRecv hK hH (tyb ha0 (all1 rfl)) clX7) rfl hl.1 (Nat.le_of_ble_eq_true rfl) dX7_addsUp_129 (fun z_15 H locs hq hS => ?_)
    obtain ⟨f_16, f_17, hH⟩ := hq
    have hH : TH E (tbM (mD (.inl tp) (.inl sp) (.inl nu) (.inl un) (.inl tk) (.inl xt) (.inl wrb) (.inl nab) (.inl iwb)) (xD 660 X0) ws kp as rd m_second ty ik) H := hH
    refine b_ge (tgt := 179) F dX7_addsUp_132 (by decide) (fun c_18 => ?_) (fun c_18 => ?_)
    · skip
      refine lv_aload_n F.1 F.2.1 dX7_addsUp_179 rfl (lv_at hl 0 rfl) ?_
      refine tGetR (j := 1) F hK hH (tyb ha0 (all1 rfl)) rfl (all1 rfl) clX7 (by decide) wd_6_6 dX7_addsUp_180 (fun q_21 hq_21 _ => ?_)
      refine lv_iconst (v := 1) F.1 F.2.1 dX7_addsUp_183 (by decide) ?_
      refine topK (a := 1) (by decide) (fun k_22 hk_22 => ?_)
      refine lv_dup2_11 F.1 F.2.1 dX7_addsUp_184 rfl rfl ?_
      refine tLald F hK hH (tyb hq_21 (all1 rfl)) (ixb (n := 6) (eqb hk_22) rfl rfl) dX7_addsUp_185 (fun w_23 => ?_)
      refine lv_aload_n F.1 F.2.1 dX7_addsUp_186 rfl (lv_at hl 0 rfl) ?_
      refine tGetI (j := 23) F hK hH (tyb ha0 (all1 rfl)) rfl clX7 (by decide) wd_29_18 dX7_addsUp_187 (fun z_24 hz_24 => ?_)
      refine tI2l F dX7_addsUp_190 (fun w_25 hw_25 => ?_)
      refine lv_ladd F.1 F.2.1 dX7_addsUp_191 ?_
      refine topFL (fun w_26 => ?_)
      refine tLast F hK hH hS (tyb hq_21 (all1 rfl)) (ixb (n := 6) (eqb hk_22) rfl rfl) dX7_addsUp_192 (fun H locs hH hS => ?_)
      refine lv_aload_n F.1 F.2.1 dX7_addsUp_193 rfl (lv_at hl 0 rfl) ?_
      refine tGetR (j := 1) F hK hH (tyb ha0 (all1 rfl)) rfl (all1 rfl) clX7 (by decide) wd_6_6 dX7_addsUp_194 (fun q_27 hq_27 _ => ?_)
      refine lv_iconst (v := 2) F.1 F.2.1 dX7_addsUp_197 (by decide) ?_
      refine topK (a := 2) (by decide) (fun k_28 hk_28 => ?_)
      refine lv_dup2_11 F.1 F.2.1 dX7_addsUp_198 rfl rfl ?_
      refine tLald F hK hH (tyb hq_27 (all1 rfl)) (ixb (n := 6) (eqb hk_28) rfl rfl) dX7_addsUp_199 (fun w_29 => ?_)
      refine lv_aload_n F.1 F.2.1 dX7_addsUp_200 rfl (lv_at hl 0 rfl) ?_
      refine tGetI (j := 24) F hK hH (tyb ha0 (all1 rfl)) rfl clX7 (by decide) wd_29_19 dX7_addsUp_201 (fun z_30 hz_30 => ?_)
      refine tI2l F dX7_addsUp_204 (fun w_31 hw_31 => ?_)
      refine lv_ladd F.1 F.2.1 dX7_addsUp_205 ?_
      refine topFL (fun w_32 => ?_)
      refine tLast F hK hH hS (tyb hq_27 (all1 rfl)) (ixb (n := 6) (eqb hk_28) rfl rfl) dX7_addsUp_206 (fun H locs hH hS => ?_)
      refine lv_aload_n F.1 F.2.1 dX7_addsUp_207 rfl (lv_at hl 0 rfl) ?_
      refine tGetR (j := 1) F hK hH (tyb ha0 (all1 rfl)) rfl (all1 rfl) clX7 (by decide) wd_6_6 dX7_addsUp_208 (fun q_33 hq_33 _ => ?_)
      refine lv_iconst (v := 3) F.1 F.2.1 dX7_addsUp_211 (by decide) ?_
      refine topK (a := 3) (by decide) (fun k_34 hk_34 => ?_)
      refine lv_dup2_11 F.1 F.2.1 dX7_addsUp_212 rfl rfl ?_
      refine tLald F hK hH (tyb hq_33 (all1 rfl)) (ixb (n := 6) (eqb hk_34) rfl rfl) dX7_addsUp_213 (fun w_35 => ?_)
      refine lv_aload_n F.1 F.2.1 dX7_addsUp_214 rfl (lv_at hl 0 rfl) ?_
      refine tGetI (j := 25) F hK hH (tyb ha0 (all1 rfl)) rfl clX7 (by decide) wd_29_20 dX7_addsUp_215 (fun z_36 hz_36 => ?_)
      refine tI2l F dX7_addsUp_218 (fun w_37 hw_37 => ?_)
      refine lv_ladd F.1 F.2.1 dX7_addsUp_219 ?_
      refine topFL (fun w_38 => ?_)
      refine tLast F hK hH hS (tyb hq_33 (all1 rfl)) (ixb (n := 6) (eqb hk_34) rfl rfl) dX7_addsUp_220 (fun H locs hH hS => ?_)
      refine lv_aload_n F.1 F.2.1 dX7_addsUp_221 rfl (lv_at hl 0 rfl) ?_
      refine tGetR (j := 1) F hK hH (tyb ha0 (all1 rfl)) rfl (all1 rfl) clX7 (by decide) wd_6_6 dX7_addsUp_222 (fun q_39 hq_39 _ => ?_)
      refine lv_iconst (v := 5) F.1 F.2.1 dX7_addsUp_225 (by decide) ?_
      refine topK (a := 5) (by decide) (fun k_40 hk_40 => ?_)
      refine lv_dup2_11 F.1 F.2.1 dX7_addsUp_226 rfl rfl ?_
      refine tLald F hK hH (tyb hq_39 (all1 rfl)) (ixb (n := 6) (eqb hk_40) rfl rfl) dX7_addsUp_227 (fun w_41 => ?_)
      refine lv_lconst (v := 1) F.1 F.2.1 dX7_addsUp_228 (by decide) ?_
      refine topKL (a := 1) (by decide) (fun j_42 hj_42 => ?_)
      refine lv_ladd F.1 F.2.1 dX7_addsUp_229 ?_
      refine topFL (fun w_43 => ?_)
      refine tLast F hK hH hS (tyb hq_39 (all1 rfl)) (ixb (n := 6) (eqb hk_40) rfl rfl) dX7_addsUp_230 (fun H locs hH hS => ?_)
      exact txV F hS dX7_addsUp_231 (hH)
    · skip
      have r_19 : 0 ≤ u_14.toInt ∧ u_14.toInt ≤ 13 := by have h9_ := hu_14; omega
      have r_20 : 1 ≤ z_15.toInt ∧ z_15.toInt ≤ 14 := by have h9_ := f_16; omega
      refine lv_aload_n F.1 F.2.1 dX7_addsUp_135 rfl (lv_at hl 0 rfl) ?_
      refine lv_dup F.1 F.2.1 dX7_addsUp_136 rfl ?_
      refine tGetI (j := 25) F hK hH (tyb ha0 (all1 rfl)) rfl clX7 (by decide) wd_29_20 dX7_addsUp_137 (fun z_44 hz_44 => ?_)
      refine lv_aload_n F.1 F.2.1 dX7_addsUp_140 rfl (lv_at hl 0 rfl) ?_
      refine lv_iload_n F.1 F.2.1 dX7_addsUp_141 rfl (lv_at hl 1 rfl) ?_
      refine tVi (b := a0) (As := [.int u_14]) (rest := [.int z_44, .ref a0]) F hK hN hO (c_X7_allOf E (xD 660 X0) ws kp as rd ty ik un tk xt tp sp wrb nu nab iwb a0 u_14 ha0 r_19) mv_X7_allOf wd_29_22 ⟨Nat.le_of_ble_eq_true rfl, Nat.le_of_ble_eq_true rfl⟩ ⟨Nat.le_of_ble_eq_true rfl, Nat.le_of_ble_eq_true rfl⟩ hH hS (tRecv hK hH (tyb ha0 (all1 rfl)) clX7) rfl hl.1 (Nat.le_of_ble_eq_true rfl) dX7_addsUp_142 (fun z_45 H locs hq hS => ?_)
      obtain ⟨f_46, hH⟩ := hq
      have hH : TH E (tbM (mD (.inl tp) (.inl sp) (.inl nu) (.inl un) (.inl tk) (.inl xt) (.inl wrb) (.inl nab) (.inl iwb)) (xD 660 X0) ws kp as rd m_second ty ik) H := hH
      refine lv_iadd F.1 F.2.1 dX7_addsUp_145 ?_
      refine topF (fun z_47 => ?_)
      refine tPut (j := 25) F hK hH hS (tyb ha0 (all1 rfl)) rfl (fdI (i32b _)) clX7 (by decide) wd_29_20 rfl rfl rfl rfl dX7_addsUp_146 (fun H locs hH hS => ?_)
      refine lv_aload_n F.1 F.2.1 dX7_addsUp_149 rfl (lv_at hl 0 rfl) ?_
      refine lv_aload_n F.1 F.2.1 dX7_addsUp_150 rfl (lv_at hl 0 rfl) ?_
      refine tGetI (j := 26) F hK hH (tyb ha0 (all1 rfl)) rfl clX7 (by decide) wd_29_21 dX7_addsUp_151 (fun z_48 hz_48 => ?_)
      refine z_ne (tgt := 165) F dX7_addsUp_154 (by decide) (fun c_49 => ?_) (fun c_49 => ?_)
      · skip
        have r_50 : 1 ≤ z_48.toInt ∧ z_48.toInt ≤ 1 := by have h9_ := hz_48; omega
        refine lv_iconst (v := 1) F.1 F.2.1 dX7_addsUp_165 (by decide) ?_
        refine topK (a := 1) (by decide) (fun k_52 hk_52 => ?_)
        refine lv_goto (tgt := 170) F.1 F.2.1 dX7_addsUp_166 (by decide) ?_
        refine tPut (j := 26) F hK hH hS (tyb ha0 (all1 rfl)) rfl (fdI (wkb (eqb hk_52) rfl rfl)) clX7 (by decide) wd_29_21 rfl rfl (nar01 (wkb (eqb hk_52) rfl rfl)) (fit01 (wkb (eqb hk_52) rfl rfl)) dX7_addsUp_170 (fun H locs hH hS => ?_)
        obtain ⟨x_53, ex_53, hx_53⟩ := iincB (c := 1) (lo := 1) (hi := 14) r_19 rfl
        refine lv_iinc (v := x_53) (lv' := [(1, .int x_53), (0, .ref a0)]) F.1 F.2.1 dX7_addsUp_173 hl (k := 1) rfl ex_53 (by decide) rfl (fun ls hl => ?_)
        refine lv_goto (tgt := 127) F.1 F.2.1 dX7_addsUp_176 (by decide) ?_
        exact ih_127 (x_53) _ _ _ ⟨(show (14 - x_53.toInt + 1).toNat < n_127 from by omega), (wkb hx_53.2 rfl rfl), hH, hS, lv_sub hl [1, 0] rfl⟩
      · skip
        have r_51 : 0 ≤ z_48.toInt ∧ z_48.toInt ≤ 0 := by have h9_ := hz_48; omega
        refine lv_aload_n F.1 F.2.1 dX7_addsUp_157 rfl (lv_at hl 0 rfl) ?_
        refine lv_iload_n F.1 F.2.1 dX7_addsUp_158 rfl (lv_at hl 1 rfl) ?_
        refine tVi (b := a0) (As := [.int u_14]) (rest := [.ref a0]) F hK hN hO (c_X7_isShort E ws kp as rd ty ik un tk xt tp sp wrb nu nab iwb X0 a0 u_14 ha0 r_19 hX0) mv_X7_isShort wd_30_2 ⟨Nat.le_of_ble_eq_true rfl, Nat.le_of_ble_eq_true rfl⟩ ⟨Nat.le_of_ble_eq_true rfl, Nat.le_of_ble_eq_true rfl⟩ hH hS (tRecv hK hH (tyb ha0 (all1 rfl)) clX7) rfl hl.1 (Nat.le_of_ble_eq_true rfl) dX7_addsUp_159 (fun z_54 H locs hq hS => ?_)
        obtain ⟨f_55, hH⟩ := hq
        have hH : TH E (tbM (mD (.inl tp) (.inl sp) (.inl nu) (.inl un) (.inl tk) (.inl xt) (.inl wrb) (.inl nab) (.inl iwb)) (xD 660 X0) ws kp as rd m_second ty ik) H := hH
        refine z_eq (tgt := 169) F dX7_addsUp_162 (by decide) (fun c_56 => ?_) (fun c_56 => ?_)
        · skip
          have r_57 : 0 ≤ z_54.toInt ∧ z_54.toInt ≤ 0 := by have h9_ := f_55; omega
          refine lv_iconst (v := 0) F.1 F.2.1 dX7_addsUp_169 (by decide) ?_
          refine topK (a := 0) (by decide) (fun k_59 hk_59 => ?_)
          refine tPut (j := 26) F hK hH hS (tyb ha0 (all1 rfl)) rfl (fdI (wkb (eqb hk_59) rfl rfl)) clX7 (by decide) wd_29_21 rfl rfl (nar01 (wkb (eqb hk_59) rfl rfl)) (fit01 (wkb (eqb hk_59) rfl rfl)) dX7_addsUp_170 (fun H locs hH hS => ?_)
          obtain ⟨x_60, ex_60, hx_60⟩ := iincB (c := 1) (lo := 1) (hi := 14) r_19 rfl
          refine lv_iinc (v := x_60) (lv' := [(1, .int x_60), (0, .ref a0)]) F.1 F.2.1 dX7_addsUp_173 hl (k := 1) rfl ex_60 (by decide) rfl (fun ls hl => ?_)
          refine lv_goto (tgt := 127) F.1 F.2.1 dX7_addsUp_176 (by decide) ?_
          exact ih_127 (x_60) _ _ _ ⟨(show (14 - x_60.toInt + 1).toNat < n_127 from by omega), (wkb hx_60.2 rfl rfl), hH, hS, lv_sub hl [1, 0] rfl⟩
        · skip
          have r_58 : 1 ≤ z_54.toInt ∧ z_54.toInt ≤ 1 := by have h9_ := f_55; omega
          refine lv_iconst (v := 1) F.1 F.2.1 dX7_addsUp_165 (by decide) ?_
          refine topK (a := 1) (by decide) (fun k_61 hk_61 => ?_)
          refine lv_goto (tgt := 170) F.1 F.2.1 dX7_addsUp_166 (by decide) ?_
          refine tPut (j := 26) F hK hH hS (tyb ha0 (all1 rfl)) rfl (fdI (wkb (eqb hk_61) rfl rfl)) clX7 (by decide) wd_29_21 rfl rfl (nar01 (wkb (eqb hk_61) rfl rfl)) (fit01 (wkb (eqb hk_61) rfl rfl)) dX7_addsUp_170 (fun H locs hH hS => ?_)
          obtain ⟨x_62, ex_62, hx_62⟩ := iincB (c := 1) (lo := 1) (hi := 14) r_19 rfl
          refine lv_iinc (v := x_62) (lv' := [(1, .int x_62), (0, .ref a0)]) F.1 F.2.1 dX7_addsUp_173 hl (k := 1) rfl ex_62 (by decide) rfl (fun ls hl => ?_)
          refine lv_goto (tgt := 127) F.1 F.2.1 dX7_addsUp_176 (by decide) ?_
          exact ih_127 (x_62) _ _ _ ⟨(show (14 - x_62.toInt + 1).toNat < n_127 from by omega), (wkb hx_62.2 rfl rfl), hH, hS, lv_sub hl [1, 0] rfl⟩
  · skip
    have r_11 : 0 ≤ u_6.toInt ∧ u_6.toInt ≤ 11 := by have h9_ := hu_6; omega
    have r_12 : 1 ≤ z_7.toInt ∧ z_7.toInt ≤ 12 := by have h9_ := f_8; omega
    refine lv_aload_n F.1 F.2.1 dX7_addsUp_30 rfl (lv_at hl 0 rfl) ?_
    refine tGetR (j := 1) F hK hH (tyb ha0 (all1 rfl)) rfl (all1 rfl) clX7 (by decide) wd_6_6 dX7_addsUp_31 (fun q_63 hq_63 _ => ?_)
    refine lv_iconst (v := 0) F.1 F.2.1 dX7_addsUp_34 (by decide) ?_
    refine topK (a := 0) (by decide) (fun k_64 hk_64 => ?_)
    refine lv_dup2_11 F.1 F.2.1 dX7_addsUp_35 rfl rfl ?_
    refine tLald F hK hH (tyb hq_63 (all1 rfl)) (ixb (n := 6) (eqb hk_64) rfl rfl) dX7_addsUp_36 (fun w_65 => ?_)
    refine lv_aload_n F.1 F.2.1 dX7_addsUp_37 rfl (lv_at hl 0 rfl) ?_
    refine lv_iload_n F.1 F.2.1 dX7_addsUp_38 rfl (lv_at hl 1 rfl) ?_
    refine tVi (b := a0) (As := [.int u_6]) (rest := [.long w_65, .int k_64, .ref q_63]) F hK hN hO (c_X7_inflowOf E ws kp as rd m_second ty ik un tk xt tp sp wrb nu nab iwb X0 a0 u_6 ha0 r_11 ((hX0).1)) mv_X7_inflowOf wd_28_11 ⟨Nat.le_of_ble_eq_true rfl, Nat.le_of_ble_eq_true rfl⟩ ⟨Nat.le_of_ble_eq_true rfl, Nat.le_of_ble_eq_true rfl⟩ hH hS (tRecv hK hH (tyb ha0 (all1 rfl)) clX7) rfl hl.1 (Nat.le_of_ble_eq_true rfl) dX7_addsUp_39 (fun z_66 H locs hq hS => ?_)
    obtain ⟨f_67, hH⟩ := hq
    have hH : TH E (tbM (mD (.inl tp) (.inl sp) (.inl nu) (.inl un) (.inl tk) (.inl xt) (.inl wrb) (.inl nab) (.inl iwb)) (xD 660 X0) ws kp as rd m_second ty ik) H := hH
    refine tI2l F dX7_addsUp_42 (fun w_68 hw_68 => ?_)
    refine lv_ladd F.1 F.2.1 dX7_addsUp_43 ?_
    refine topFL (fun w_69 => ?_)
    refine tLast F hK hH hS (tyb hq_63 (all1 rfl)) (ixb (n := 6) (eqb hk_64) rfl rfl) dX7_addsUp_44 (fun H locs hH hS => ?_)
    refine lv_aload_n F.1 F.2.1 dX7_addsUp_45 rfl (lv_at hl 0 rfl) ?_
    refine tGetR (j := 1) F hK hH (tyb ha0 (all1 rfl)) rfl (all1 rfl) clX7 (by decide) wd_6_6 dX7_addsUp_46 (fun q_70 hq_70 _ => ?_)
    refine lv_iconst (v := 4) F.1 F.2.1 dX7_addsUp_49 (by decide) ?_
    refine topK (a := 4) (by decide) (fun k_71 hk_71 => ?_)
    refine lv_dup2_11 F.1 F.2.1 dX7_addsUp_50 rfl rfl ?_
    refine tLald F hK hH (tyb hq_70 (all1 rfl)) (ixb (n := 6) (eqb hk_71) rfl rfl) dX7_addsUp_51 (fun w_72 => ?_)
    refine lv_aload_n F.1 F.2.1 dX7_addsUp_52 rfl (lv_at hl 0 rfl) ?_
    refine lv_iload_n F.1 F.2.1 dX7_addsUp_53 rfl (lv_at hl 1 rfl) ?_
    refine lv_iconst (v := 0) F.1 F.2.1 dX7_addsUp_54 (by decide) ?_
    refine topK (a := 0) (by decide) (fun k_73 hk_73 => ?_)
    refine tVi (b := a0) (As := [.int u_6, .int k_73]) (rest := [.long w_72, .int k_71, .ref q_70]) F hK hN hO (c_X7_backIn E ws kp as rd m_second ty ik un tk xt tp sp wrb nu nab iwb X0 a0 u_6 k_73 ha0 r_11 (wkb (eqb hk_73) rfl rfl) ((hX0).1)) mv_X7_backIn wd_28_22 ⟨Nat.le_of_ble_eq_true rfl, Nat.le_of_ble_eq_true rfl⟩ ⟨Nat.le_of_ble_eq_true rfl, Nat.le_of_ble_eq_true rfl⟩ hH hS (tRecv hK hH (tyb ha0 (all1 rfl)) clX7) rfl hl.1 (Nat.le_of_ble_eq_true rfl) dX7_addsUp_55 (fun z_74 H locs hq hS => ?_)
    obtain ⟨f_75, hH⟩ := hq
    have hH : TH E (tbM (mD (.inl tp) (.inl sp) (.inl nu) (.inl un) (.inl tk) (.inl xt) (.inl wrb) (.inl nab) (.inl iwb)) (xD 660 X0) ws kp as rd m_second ty ik) H := hH
    refine tI2l F dX7_addsUp_58 (fun w_76 hw_76 => ?_)
    refine lv_ladd F.1 F.2.1 dX7_addsUp_59 ?_
    refine topFL (fun w_77 => ?_)
    refine tLast F hK hH hS (tyb hq_70 (all1 rfl)) (ixb (n := 6) (eqb hk_71) rfl rfl) dX7_addsUp_60 (fun H locs hH hS => ?_)
    refine lv_aload_n F.1 F.2.1 dX7_addsUp_61 rfl (lv_at hl 0 rfl) ?_
    refine lv_dup F.1 F.2.1 dX7_addsUp_62 rfl ?_
    refine tGetI (j := 24) F hK hH (tyb ha0 (all1 rfl)) rfl clX7 (by decide) wd_29_19 dX7_addsUp_63 (fun z_78 hz_78 => ?_)
    refine lv_aload_n F.1 F.2.1 dX7_addsUp_66 rfl (lv_at hl 0 rfl) ?_
    refine tGetR (j := 14) F hK hH (tyb ha0 (all1 rfl)) rfl (all1 rfl) clX7 (by decide) wd_6_18 dX7_addsUp_67 (fun q_79 hq_79 _ => ?_)
    refine lv_iload_n F.1 F.2.1 dX7_addsUp_70 rfl (lv_at hl 1 rfl) ?_
    refine tIaldB F hK hH (tyb hq_79 (all1 rfl)) (ixb (n := 12) r_11 rfl rfl) dX7_addsUp_71 (fun z_80 hz_80 => ?_)
    refine lv_aload_n F.1 F.2.1 dX7_addsUp_72 rfl (lv_at hl 0 rfl) ?_
    refine tGetR (j := 12) F hK hH (tyb ha0 (all1 rfl)) rfl (all1 rfl) clX7 (by decide) wd_6_16 dX7_addsUp_73 (fun q_81 hq_81 _ => ?_)
    refine lv_iload_n F.1 F.2.1 dX7_addsUp_76 rfl (lv_at hl 1 rfl) ?_
    refine tIaldB F hK hH (tyb hq_81 (all1 rfl)) (ixb (n := 12) r_11 rfl rfl) dX7_addsUp_77 (fun z_82 hz_82 => ?_)
    refine lv_isub F.1 F.2.1 dX7_addsUp_78 ?_
    refine topF (fun z_83 => ?_)
    refine lv_aload_n F.1 F.2.1 dX7_addsUp_79 rfl (lv_at hl 0 rfl) ?_
    refine tGetR (j := 15) F hK hH (tyb ha0 (all1 rfl)) rfl (all1 rfl) clX7 (by decide) wd_6_19 dX7_addsUp_80 (fun q_84 hq_84 _ => ?_)
    refine lv_iload_n F.1 F.2.1 dX7_addsUp_83 rfl (lv_at hl 1 rfl) ?_
    refine tIaldB F hK hH (tyb hq_84 (all1 rfl)) (ixb (n := 12) r_11 rfl rfl) dX7_addsUp_84 (fun z_85 hz_85 => ?_)
    refine lv_isub F.1 F.2.1 dX7_addsUp_85 ?_
    refine topF (fun z_86 => ?_)
    refine lv_iadd F.1 F.2.1 dX7_addsUp_86 ?_
    refine topF (fun z_87 => ?_)
    refine tPut (j := 24) F hK hH hS (tyb ha0 (all1 rfl)) rfl (fdI (i32b _)) clX7 (by decide) wd_29_19 rfl rfl rfl rfl dX7_addsUp_87 (fun H locs hH hS => ?_)
    refine lv_aload_n F.1 F.2.1 dX7_addsUp_90 rfl (lv_at hl 0 rfl) ?_
    refine lv_dup F.1 F.2.1 dX7_addsUp_91 rfl ?_
    refine tGetI (j := 23) F hK hH (tyb ha0 (all1 rfl)) rfl clX7 (by decide) wd_29_18 dX7_addsUp_92 (fun z_88 hz_88 => ?_)
    refine lv_aload_n F.1 F.2.1 dX7_addsUp_95 rfl (lv_at hl 0 rfl) ?_
    refine lv_iload_n F.1 F.2.1 dX7_addsUp_96 rfl (lv_at hl 1 rfl) ?_
    refine lv_iconst (v := 0) F.1 F.2.1 dX7_addsUp_97 (by decide) ?_
    refine topK (a := 0) (by decide) (fun k_89 hk_89 => ?_)
    refine tVi (b := a0) (As := [.int u_6, .int k_89]) (rest := [.int z_88, .ref a0]) F hK hN hO (c_X7_ofReach_0 E ws kp as rd m_second ty ik un tk xt tp sp wrb nu nab iwb X0 a0 u_6 k_89 ha0 r_11 (eqb hk_89) ((hX0).1)) mv_X7_ofReach wd_28_15 ⟨Nat.le_of_ble_eq_true rfl, Nat.le_of_ble_eq_true rfl⟩ ⟨Nat.le_of_ble_eq_true rfl, Nat.le_of_ble_eq_true rfl⟩ hH hS (tRecv hK hH (tyb ha0 (all1 rfl)) clX7) rfl hl.1 (Nat.le_of_ble_eq_true rfl) dX7_addsUp_98 (fun z_90 H locs hq hS => ?_)
    obtain ⟨f_91, f_92, f_93, hH⟩ := hq
    have hH : TH E (tbM (mD (.inl tp) (.inl sp) (.inl nu) (.inl un) (.inl tk) (.inl xt) (.inl wrb) (.inl nab) (.inl iwb)) (xD 660 X0) ws kp as rd m_second ty ik) H := hH
    refine lv_iconst (v := (-1)) F.1 F.2.1 dX7_addsUp_101 (by decide) ?_
    refine topK (a := (-1)) (by decide) (fun k_94 hk_94 => ?_)
    refine b_ne (tgt := 114) F dX7_addsUp_102 (by decide) (fun c_95 => ?_) (fun c_95 => ?_)
    · skip
      have r_96 : 0 ≤ z_90.toInt ∧ z_90.toInt ≤ 10 := by have h9_ := f_91; omega
      refine lv_iconst (v := 0) F.1 F.2.1 dX7_addsUp_114 (by decide) ?_
      refine topK (a := 0) (by decide) (fun k_98 hk_98 => ?_)
      refine tAdd (lo := (-2147483648)) (hi := 2147483647) F dX7_addsUp_115 hz_88 (eqb hk_98) rfl (fun z_99 hz_99 => ?_)
      refine tPut (j := 23) F hK hH hS (tyb ha0 (all1 rfl)) rfl (fdI hz_99.2) clX7 (by decide) wd_29_18 rfl rfl rfl rfl dX7_addsUp_116 (fun H locs hH hS => ?_)
      obtain ⟨x_100, ex_100, hx_100⟩ := iincB (c := 1) (lo := 1) (hi := 12) r_11 rfl
      refine lv_iinc (v := x_100) (lv' := [(1, .int x_100), (0, .ref a0)]) F.1 F.2.1 dX7_addsUp_119 hl (k := 1) rfl ex_100 (by decide) rfl (fun ls hl => ?_)
      refine lv_goto (tgt := 22) F.1 F.2.1 dX7_addsUp_122 (by decide) ?_
      exact ih_22 (x_100) _ _ _ ⟨(show (12 - x_100.toInt + 1).toNat < n_22 from by omega), (wkb hx_100.2 rfl rfl), hH, hS, lv_sub hl [1, 0] rfl⟩
    · skip
      have r_97 : (-1) ≤ z_90.toInt ∧ z_90.toInt ≤ (-1) := by have h9_ := f_91; omega
      refine lv_aload_n F.1 F.2.1 dX7_addsUp_105 rfl (lv_at hl 0 rfl) ?_
      refine tGetR (j := 15) F hK hH (tyb ha0 (all1 rfl)) rfl (all1 rfl) clX7 (by decide) wd_6_19 dX7_addsUp_106 (fun q_101 hq_101 _ => ?_)
      refine lv_iload_n F.1 F.2.1 dX7_addsUp_109 rfl (lv_at hl 1 rfl) ?_
      refine tIaldB F hK hH (tyb hq_101 (all1 rfl)) (ixb (n := 12) r_11 rfl rfl) dX7_addsUp_110 (fun z_102 hz_102 => ?_)
      refine lv_goto (tgt := 115) F.1 F.2.1 dX7_addsUp_111 (by decide) ?_
      refine lv_iadd F.1 F.2.1 dX7_addsUp_115 ?_
      refine topF (fun z_103 => ?_)
      refine tPut (j := 23) F hK hH hS (tyb ha0 (all1 rfl)) rfl (fdI (i32b _)) clX7 (by decide) wd_29_18 rfl rfl rfl rfl dX7_addsUp_116 (fun H locs hH hS => ?_)
      obtain ⟨x_104, ex_104, hx_104⟩ := iincB (c := 1) (lo := 1) (hi := 12) r_11 rfl
      refine lv_iinc (v := x_104) (lv' := [(1, .int x_104), (0, .ref a0)]) F.1 F.2.1 dX7_addsUp_119 hl (k := 1) rfl ex_104 (by decide) rfl (fun ls hl => ?_)
      refine lv_goto (tgt := 22) F.1 F.2.1 dX7_addsUp_122 (by decide) ?_
      exact ih_22 (x_104) _ _ _ ⟨(show (12 - x_104.toInt + 1).toNat < n_22 from by omega), (wkb hx_104.2 rfl rfl), hH, hS, lv_sub hl [1, 0] rfl⟩
set_option maxHeartbeats 4000000 in
set_option maxRecDepth 100000 in
theorem c_X7_takesIt (E : Ev) (ws : TD) (kp : TD) (as : TD) (rd : TD) (ty : TD) (ik : TD) (un : Int × Int) (tk : Int × Int) (xt : Int × Int) (tp : Int × Int) (sp : Int × Int) (wrb : Int × Int) (nu : Int × Int) (nab : Int × Int) (iwb : Int × Int) (X0 : Nat → Int32) (Z : Nat → Int32) (a0 : Nat) (a1 : Int32) (ha0 : eT E a0 ∈ [24]) (ha1 : 0 ≤ a1.toInt ∧ a1.toInt ≤ 13) (hX0 : okA X0) (hL : okL a1.toInt X0) (ht : a1.toInt < gI X0 1) (hqX0 : sQ Z X0) : TcV E yX7_takesIt cX7_takesIt 4 ({ frames := 2, cells := 0, slots := 0, locals := 61 }) [.ref a0, .int a1] (fun H => TH E (tbM (mD (.inl tp) (.inl sp) (.inl nu) (.inl un) (.inl tk) (.inl xt) (.inl wrb) (.inl nab) (.inl iwb)) (xD 660 X0) ws kp as rd m_second ty ik) H) (fun H => ∃ X2 : Nat → Int32, (okA X2 ∧ okL (a1.toInt + 1) X2 ∧ sQ Z X2) ∧ TH E (tbM (mD (.inl tp) (.inl sp) (.inl nu) (.inl un) (.inl tk) (.inl xt) (.inl wrb) (.inl nab) (.inl iwb)) (xD 660 X2) ws kp as rd m_second ty ik) H) := by
  refine teV (by decide) (Nat.le_of_ble_eq_true rfl) ?_
  intro p_ ev_ s mi_ below_ meth cd_ ls F hK hN hO hH hS hl
  have hH : TH E (tbM (mD (.inl tp) (.inl sp) (.inl nu) (.inl un) (.inl tk) (.inl xt) (.inl wrb) (.inl nab) (.inl iwb)) (xD 660 X0) ws kp as rd m_second ty ik) s.heap := hH
  have hl : lv_has ls 4 [(0, .ref a0), (1, .int a1)] := hl
  have hBX0 := okB hX0
  have hLX0 := hL
  refine lv_bipush (v := 78) F.1 F.2.1 dX7_takesIt_0 (by decide) ?_
  refine topK (a := 78) (by decide) (fun k_1 hk_1 => ?_)
  refine lv_bipush (v := 13) F.1 F.2.1 dX7_takesIt_2 (by decide) ?_
  refine topK (a := 13) (by decide) (fun k_2 hk_2 => ?_)
  refine lv_iload_n F.1 F.2.1 dX7_takesIt_4 rfl (lv_at hl 1 rfl) ?_
  refine tMul (lo := 0) (hi := 169) F dX7_takesIt_5 (eqb hk_2) ha1 rfl (fun z_3 hz_3 => ?_)
  have mz_3 : z_3.toInt = 13 * a1.toInt := by rw [hz_3.1, hk_2]
  refine tAdd (lo := 78) (hi := 247) F dX7_takesIt_6 (eqb hk_1) hz_3.2 rfl (fun z_4 hz_4 => ?_)
  refine lv_istore_n (lv' := [(2, .int z_4), (0, .ref a0), (1, .int a1)]) F.1 F.2.1 dX7_takesIt_7 rfl hl (by decide) rfl (fun ls hl => ?_)
  refine lv_aload_n F.1 F.2.1 dX7_takesIt_8 rfl (lv_at hl 1 rfl) ?_
  refine lv_iload_n F.1 F.2.1 dX7_takesIt_9 rfl (lv_at hl 2 rfl) ?_
  refine tVi (b := a0) (As := [.int a1]) (rest := []) F hK hN hO (c_X7_allOf E (xD 660 X0) ws kp as rd ty ik un tk xt tp sp wrb nu nab iwb a0 a1 ha0 ha1) mv_X7_allOf wd_29_22 ⟨Nat.le_of_ble_eq_true rfl, Nat.le_of_ble_eq_true rfl⟩ ⟨Nat.le_of_ble_eq_true rfl, Nat.le_of_ble_eq_true rfl⟩ hH hS (tRecv hK hH (tyb ha0 (all1 rfl)) clX7) rfl hl.1 (Nat.le_of_ble_eq_true rfl) dX7_takesIt_10 (fun z_5 H locs hq hS => ?_)
  obtain ⟨f_6, hH⟩ := hq
  have hH : TH E (tbM (mD (.inl tp) (.inl sp) (.inl nu) (.inl un) (.inl tk) (.inl xt) (.inl wrb) (.inl nab) (.inl iwb)) (xD 660 X0) ws kp as rd m_second ty ik) H := hH
  refine lv_istore_n (lv' := [(3, .int z_5), (2, .int z_4), (0, .ref a0), (1, .int a1)]) F.1 F.2.1 dX7_takesIt_13 rfl hl (by decide) rfl (fun ls hl => ?_)
  refine lv_aload_n F.1 F.2.1 dX7_takesIt_14 rfl (lv_at hl 2 rfl) ?_
  refine tGetR (j := 0) F hK hH (tyb ha0 (all1 rfl)) rfl (all1 rfl) clX7 (by decide) wd_6_5 dX7_takesIt_15 (fun q_7 hq_7 _ => ?_)
  refine lv_iload_n F.1 F.2.1 dX7_takesIt_18 rfl (lv_at hl 1 rfl) ?_
  refine lv_bipush (v := 12) F.1 F.2.1 dX7_takesIt_19 (by decide) ?_
  refine topK (a := 12) (by decide) (fun k_8 hk_8 => ?_)
  refine tAdd (lo := 90) (hi := 259) F dX7_takesIt_21 hz_4.2 (eqb hk_8) rfl (fun z_9 hz_9 => ?_)
  refine lv_dup2_11 F.1 F.2.1 dX7_takesIt_22 rfl rfl ?_
  refine tIaldX F hK hH (tyb hq_7 (all1 rfl)) (ixb (n := 660) hz_9.2 rfl rfl) dX7_takesIt_23 (fun z_10 ez_10 => ?_)
  refine lv_iload_n F.1 F.2.1 dX7_takesIt_24 rfl (lv_at hl 0 rfl) ?_
  refine lv_iadd F.1 F.2.1 dX7_takesIt_25 ?_
  refine topF (fun z_11 => ?_)
  refine tIastX (t := 25) F hK hH hS (List.mem_singleton.mp hq_7) (by decide) rfl (ixb (n := 660) hz_9.2 rfl rfl) dX7_takesIt_26 (fun G_12 eG_12 H locs hH hS => ?_)
  have hH : TH E (tbM (mD (.inl tp) (.inl sp) (.inl nu) (.inl un) (.inl tk) (.inl xt) (.inl wrb) (.inl nab) (.inl iwb)) (xD 660 G_12) ws kp as rd m_second ty ik) H := hH
  have hLG_12 : okL a1.toInt G_12 := okL.st hLX0 eG_12 (by omega) (by omega) (by omega)
  have hnG_12 : gI G_12 1 = gI X0 1 := gI_ne eG_12 (by omega) (by omega)
  have hG_12 : okA G_12 := (okA.st hX0 eG_12 (by omega) (by omega) (phiI (by omega) (by omega) (by omega) (by omega) (by omega) (by omega) (by omega) (by omega) (by omega) (by omega) (by omega) (by omega) (by omega) (by omega) (by omega) (by omega) (by omega) (by omega)))
  have hBG_12 := okB hG_12
  have hqG_12 : sQ Z G_12 := sQ.st hqX0 eG_12 (by omega)
  refine lv_aload_n F.1 F.2.1 dX7_takesIt_27 rfl (lv_at hl 2 rfl) ?_
  refine tGetR (j := 0) F hK hH (tyb ha0 (all1 rfl)) rfl (all1 rfl) clX7 (by decide) wd_6_5 dX7_takesIt_28 (fun q_13 hq_13 _ => ?_)
  refine lv_iload_n F.1 F.2.1 dX7_takesIt_31 rfl (lv_at hl 1 rfl) ?_
  refine lv_iconst (v := 5) F.1 F.2.1 dX7_takesIt_32 (by decide) ?_
  refine topK (a := 5) (by decide) (fun k_14 hk_14 => ?_)
  refine tAdd (lo := 83) (hi := 252) F dX7_takesIt_33 hz_4.2 (eqb hk_14) rfl (fun z_15 hz_15 => ?_)
  refine tIaldX F hK hH (tyb hq_13 (all1 rfl)) (ixb (n := 660) hz_15.2 rfl rfl) dX7_takesIt_34 (fun z_16 ez_16 => ?_)
  refine lv_bipush (v := (-2)) F.1 F.2.1 dX7_takesIt_35 (by decide) ?_
  refine topK (a := (-2)) (by decide) (fun k_17 hk_17 => ?_)
  refine wjoin (σ := (Nat → Int32)) (pcj := 53) (stj := fun x9 => []) (fun x9 H locs ls => (okA x9) ∧ (okL (a1.toInt + 1) x9) ∧ (sQ Z x9) ∧ TH E (tbM (mD (.inl tp) (.inl sp) (.inl nu) (.inl un) (.inl tk) (.inl xt) (.inl wrb) (.inl nab) (.inl iwb)) (xD 660 x9) ws kp as rd m_second ty ik) H ∧ va_S (eA E s.heap.size) s.heap H locs ∧ lv_has ls 4 [(0, .ref a0), (2, .int z_4), (3, .int z_5)]) (fun G_18 H locs ls h_ => ?_) (fun J_53 => ?_)
  · skip
    obtain ⟨hG_18, hcr53_0, hcr53_1, hH, hS, hl⟩ := h_
    have hG_18 : (okA G_18) := hG_18
    have hcr53_0 : (okL (a1.toInt + 1) G_18) := hcr53_0
    have hcr53_1 : (sQ Z G_18) := hcr53_1
    have hH : TH E (tbM (mD (.inl tp) (.inl sp) (.inl nu) (.inl un) (.inl tk) (.inl xt) (.inl wrb) (.inl nab) (.inl iwb)) (xD 660 G_18) ws kp as rd m_second ty ik) H := hH
    have hl : lv_has ls 4 [(0, .ref a0), (2, .int z_4), (3, .int z_5)] := hl
    show W _ _ _ _ _ _ _ _ _ _ _ _ _ _ _ (F0 _ _ _ [])
    have hBG_18 := okB hG_18
    have hqG_18 := hcr53_1
    have hLG_18 := hcr53_0
    refine lv_aload_n F.1 F.2.1 dX7_takesIt_53 rfl (lv_at hl 0 rfl) ?_
    refine tGetR (j := 0) F hK hH (tyb ha0 (all1 rfl)) rfl (all1 rfl) clX7 (by decide) wd_6_5 dX7_takesIt_54 (fun q_19 hq_19 _ => ?_)
    refine lv_iload_n F.1 F.2.1 dX7_takesIt_57 rfl (lv_at hl 1 rfl) ?_
    refine lv_bipush (v := 7) F.1 F.2.1 dX7_takesIt_58 (by decide) ?_
    refine topK (a := 7) (by decide) (fun k_20 hk_20 => ?_)
    refine tAdd (lo := 85) (hi := 254) F dX7_takesIt_60 hz_4.2 (eqb hk_20) rfl (fun z_21 hz_21 => ?_)
    refine tIaldX F hK hH (tyb hq_19 (all1 rfl)) (ixb (n := 660) hz_21.2 rfl rfl) dX7_takesIt_61 (fun z_22 ez_22 => ?_)
    have gz_22 : z_22.toInt = gI G_18 ((78 + 13 * a1.toInt + 7).toNat) := by unfold gI; rw [ez_22, show (z_21).toNatClampNeg = ((78 + 13 * a1.toInt + 7).toNat) from by show (z_21).toInt.toNat = _; omega]
    have hz_22 : (-2) ≤ z_22.toInt ∧ z_22.toInt ≤ 11 := (by have h9_ := okA.at (i := z_21) hG_18 (by omega); rw [show gI G_18 (z_21).toNatClampNeg = z_22.toInt from by unfold gI; rw [ez_22]] at h9_; have h8_ := phi_r7 h9_ (by omega) (by omega); omega)
    refine lv_bipush (v := (-2)) F.1 F.2.1 dX7_takesIt_62 (by decide) ?_
    refine topK (a := (-2)) (by decide) (fun k_23 hk_23 => ?_)
    refine b_ne (tgt := 68) F dX7_takesIt_64 (by decide) (fun c_24 => ?_) (fun c_24 => ?_)
    · skip
      have r_25 : (-1) ≤ z_22.toInt ∧ z_22.toInt ≤ 11 := by have h9_ := hz_22; omega
      refine lv_aload_n F.1 F.2.1 dX7_takesIt_68 rfl (lv_at hl 0 rfl) ?_
      refine tGetR (j := 0) F hK hH (tyb ha0 (all1 rfl)) rfl (all1 rfl) clX7 (by decide) wd_6_5 dX7_takesIt_69 (fun q_27 hq_27 _ => ?_)
      refine lv_sipush (v := 288) F.1 F.2.1 dX7_takesIt_72 (by decide) ?_
      refine topK (a := 288) (by decide) (fun k_28 hk_28 => ?_)
      refine lv_bipush (v := 12) F.1 F.2.1 dX7_takesIt_75 (by decide) ?_
      refine topK (a := 12) (by decide) (fun k_29 hk_29 => ?_)
      refine lv_aload_n F.1 F.2.1 dX7_takesIt_77 rfl (lv_at hl 0 rfl) ?_
      refine tGetR (j := 0) F hK hH (tyb ha0 (all1 rfl)) rfl (all1 rfl) clX7 (by decide) wd_6_5 dX7_takesIt_78 (fun q_30 hq_30 _ => ?_)
      refine lv_iconst (v := 5) F.1 F.2.1 dX7_takesIt_81 (by decide) ?_
      refine topK (a := 5) (by decide) (fun k_31 hk_31 => ?_)
      refine tIaldX F hK hH (tyb hq_30 (all1 rfl)) (ixb (n := 660) (eqb hk_31) rfl rfl) dX7_takesIt_82 (fun z_32 ez_32 => ?_)
      have gz_32 : z_32.toInt = gI G_18 (5) := by unfold gI; rw [ez_32, show (k_31).toNatClampNeg = (5) from by show (k_31).toInt.toNat = _; omega]
      have hz_32 : 0 ≤ z_32.toInt ∧ z_32.toInt ≤ 30 := (by have h9_ := okA.at (i := k_31) hG_18 (by omega); rw [show gI G_18 (k_31).toNatClampNeg = z_32.toInt from by unfold gI; rw [ez_32]] at h9_; have h8_ := phi_5 h9_ (by omega); omega)
      refine lv_aload_n F.1 F.2.1 dX7_takesIt_83 rfl (lv_at hl 0 rfl) ?_
      refine tGetR (j := 0) F hK hH (tyb ha0 (all1 rfl)) rfl (all1 rfl) clX7 (by decide) wd_6_5 dX7_takesIt_84 (fun q_33 hq_33 _ => ?_)
      refine lv_iload_n F.1 F.2.1 dX7_takesIt_87 rfl (lv_at hl 1 rfl) ?_
      refine lv_bipush (v := 9) F.1 F.2.1 dX7_takesIt_88 (by decide) ?_
      refine topK (a := 9) (by decide) (fun k_34 hk_34 => ?_)
      refine tAdd (lo := 87) (hi := 256) F dX7_takesIt_90 hz_4.2 (eqb hk_34) rfl (fun z_35 hz_35 => ?_)
      refine tIaldX F hK hH (tyb hq_33 (all1 rfl)) (ixb (n := 660) hz_35.2 rfl rfl) dX7_takesIt_91 (fun z_36 ez_36 => ?_)
      have hz_36 : 0 ≤ z_36.toInt ∧ z_36.toInt ≤ 30 := (by have h9_ := okA.at (i := z_35) hG_18 (by omega); rw [show gI G_18 (z_35).toNatClampNeg = z_36.toInt from by unfold gI; rw [ez_36]] at h9_; have h8_ := phi_r9 h9_ (by omega) (by omega); omega)
      refine tAdd (lo := 0) (hi := 60) F dX7_takesIt_92 hz_32 hz_36 rfl (fun z_37 hz_37 => ?_)
      refine lv_bipush (v := 31) F.1 F.2.1 dX7_takesIt_93 (by decide) ?_
      refine topK (a := 31) (by decide) (fun k_38 hk_38 => ?_)
      refine tRem (k := 31) (hi := 30) F dX7_takesIt_95 hz_37.2 hk_38 rfl (fun z_39 hz_39 => ?_)
      refine tMul (lo := 0) (hi := 360) F dX7_takesIt_96 (eqb hk_29) hz_39.2 rfl (fun z_40 hz_40 => ?_)
      have mz_40 : z_40.toInt = 12 * z_39.toInt := by rw [hz_40.1, hk_29]
      refine tAdd (lo := 288) (hi := 648) F dX7_takesIt_97 (eqb hk_28) hz_40.2 rfl (fun z_41 hz_41 => ?_)
      refine lv_aload_n F.1 F.2.1 dX7_takesIt_98 rfl (lv_at hl 0 rfl) ?_
      refine tGetR (j := 0) F hK hH (tyb ha0 (all1 rfl)) rfl (all1 rfl) clX7 (by decide) wd_6_5 dX7_takesIt_99 (fun q_42 hq_42 _ => ?_)
      refine lv_iload_n F.1 F.2.1 dX7_takesIt_102 rfl (lv_at hl 1 rfl) ?_
      refine lv_bipush (v := 7) F.1 F.2.1 dX7_takesIt_103 (by decide) ?_
      refine topK (a := 7) (by decide) (fun k_43 hk_43 => ?_)
      refine tAdd (lo := 85) (hi := 254) F dX7_takesIt_105 hz_4.2 (eqb hk_43) rfl (fun z_44 hz_44 => ?_)
      refine tIaldX F hK hH (tyb hq_42 (all1 rfl)) (ixb (n := 660) hz_44.2 rfl rfl) dX7_takesIt_106 (fun z_45 ez_45 => ?_)
      have gz_45 : z_45.toInt = gI G_18 ((78 + 13 * a1.toInt + 7).toNat) := by unfold gI; rw [ez_45, show (z_44).toNatClampNeg = ((78 + 13 * a1.toInt + 7).toNat) from by show (z_44).toInt.toNat = _; omega]
      have qz_45 := okA.at (i := z_44) hG_18 (by omega)
      rw [show gI G_18 (z_44).toNatClampNeg = z_45.toInt from by unfold gI; rw [ez_45]] at qz_45
      have pz_45 := phi_r7 qz_45 (by omega) (by omega)
      have hz_45 : (-2) ≤ z_45.toInt ∧ z_45.toInt ≤ 11 := (by have h9_ := okA.at (i := z_44) hG_18 (by omega); rw [show gI G_18 (z_44).toNatClampNeg = z_45.toInt from by unfold gI; rw [ez_45]] at h9_; have h8_ := phi_r7 h9_ (by omega) (by omega); omega)
      refine tAdd (lo := 286) (hi := 659) F dX7_takesIt_107 hz_41.2 hz_45 rfl (fun z_46 hz_46 => ?_)
      refine lv_dup2_11 F.1 F.2.1 dX7_takesIt_108 rfl rfl ?_
      refine tIaldX F hK hH (tyb hq_27 (all1 rfl)) (ixb (n := 660) hz_46.2 rfl rfl) dX7_takesIt_109 (fun z_47 ez_47 => ?_)
      refine lv_iload_n F.1 F.2.1 dX7_takesIt_110 rfl (lv_at hl 2 rfl) ?_
      refine lv_aload_n F.1 F.2.1 dX7_takesIt_111 rfl (lv_at hl 0 rfl) ?_
      refine tGetR (j := 0) F hK hH (tyb ha0 (all1 rfl)) rfl (all1 rfl) clX7 (by decide) wd_6_5 dX7_takesIt_112 (fun q_48 hq_48 _ => ?_)
      refine lv_iload_n F.1 F.2.1 dX7_takesIt_115 rfl (lv_at hl 1 rfl) ?_
      refine lv_bipush (v := 8) F.1 F.2.1 dX7_takesIt_116 (by decide) ?_
      refine topK (a := 8) (by decide) (fun k_49 hk_49 => ?_)
      refine tAdd (lo := 86) (hi := 255) F dX7_takesIt_118 hz_4.2 (eqb hk_49) rfl (fun z_50 hz_50 => ?_)
      refine tIaldX F hK hH (tyb hq_48 (all1 rfl)) (ixb (n := 660) hz_50.2 rfl rfl) dX7_takesIt_119 (fun z_51 ez_51 => ?_)
      refine lv_imul F.1 F.2.1 dX7_takesIt_120 ?_
      refine topF (fun z_52 => ?_)
      refine lv_bipush (v := 100) F.1 F.2.1 dX7_takesIt_121 (by decide) ?_
      refine topK (a := 100) (by decide) (fun k_53 hk_53 => ?_)
      refine tSi (As := [.int z_52, .int k_53]) (rest := [.int z_47, .int z_46, .ref q_27]) F hK hN hO (c_X7_whole E (mD (.inl tp) (.inl sp) (.inl nu) (.inl un) (.inl tk) (.inl xt) (.inl wrb) (.inl nab) (.inl iwb)) (xD 660 G_18) ws kp as rd m_second ty ik z_52 k_53 (wkb (eqb hk_53) rfl rfl)) ms_X7_whole wd_28_19 ⟨Nat.le_of_ble_eq_true rfl, Nat.le_of_ble_eq_true rfl⟩ ⟨Nat.le_of_ble_eq_true rfl, Nat.le_of_ble_eq_true rfl⟩ hH hS rfl hl.1 (Nat.le_of_ble_eq_true rfl) dX7_takesIt_123 (fun z_54 H locs hq hS => ?_)
      obtain ⟨f_55, hH⟩ := hq
      have hH : TH E (tbM (mD (.inl tp) (.inl sp) (.inl nu) (.inl un) (.inl tk) (.inl xt) (.inl wrb) (.inl nab) (.inl iwb)) (xD 660 G_18) ws kp as rd m_second ty ik) H := hH
      refine lv_iadd F.1 F.2.1 dX7_takesIt_126 ?_
      refine topF (fun z_56 => ?_)
      refine tIastX (t := 25) F hK hH hS (List.mem_singleton.mp hq_27) (by decide) rfl (ixb (n := 660) hz_46.2 rfl rfl) dX7_takesIt_127 (fun G_57 eG_57 H locs hH hS => ?_)
      have hH : TH E (tbM (mD (.inl tp) (.inl sp) (.inl nu) (.inl un) (.inl tk) (.inl xt) (.inl wrb) (.inl nab) (.inl iwb)) (xD 660 G_57) ws kp as rd m_second ty ik) H := hH
      have hLG_57 : okL (a1.toInt + 1) G_57 := okL.st hLG_18 eG_57 (by omega) (by omega) (by omega)
      have hG_57 : okA G_57 := (okA.st hG_18 eG_57 (by omega) (by omega) (phiI (by omega) (by omega) (by omega) (by omega) (by omega) (by omega) (by omega) (by omega) (by omega) (by omega) (by omega) (by omega) (by omega) (by omega) (by omega) (by omega) (by omega) (by omega)))
      have hBG_57 := okB hG_57
      have hqG_57 : sQ Z G_57 := sQ.st hqG_18 eG_57 (by omega)
      exact txV F hS dX7_takesIt_128 (⟨G_57, ⟨hG_57, hLG_57, hqG_57⟩, hH⟩)
    · skip
      have r_26 : (-2) ≤ z_22.toInt ∧ z_22.toInt ≤ (-2) := by have h9_ := hz_22; omega
      exact txV F hS dX7_takesIt_67 (⟨G_18, ⟨hG_18, hLG_18, hqG_18⟩, hH⟩)
  refine b_eq (tgt := 53) F dX7_takesIt_37 (by decide) (fun c_58 => ?_) (fun c_58 => ?_)
  · skip
    have r_59 : (-2) ≤ z_16.toInt ∧ z_16.toInt ≤ (-2) := by have h9_ := (i32b z_16); omega
    exact J_53 (G_12) _ _ _ ⟨hG_12, (show okL (a1.toInt + 1) G_12 from okL.mono hLG_12 (by omega)), (show sQ Z G_12 from hqG_12), hH, hS, lv_sub hl [2, 1, 0] rfl⟩
  · skip
    refine lv_aload_n F.1 F.2.1 dX7_takesIt_40 rfl (lv_at hl 2 rfl) ?_
    refine tGetR (j := 0) F hK hH (tyb ha0 (all1 rfl)) rfl (all1 rfl) clX7 (by decide) wd_6_5 dX7_takesIt_41 (fun q_60 hq_60 _ => ?_)
    refine lv_iload_n F.1 F.2.1 dX7_takesIt_44 rfl (lv_at hl 1 rfl) ?_
    refine lv_bipush (v := 6) F.1 F.2.1 dX7_takesIt_45 (by decide) ?_
    refine topK (a := 6) (by decide) (fun k_61 hk_61 => ?_)
    refine tAdd (lo := 84) (hi := 253) F dX7_takesIt_47 hz_4.2 (eqb hk_61) rfl (fun z_62 hz_62 => ?_)
    refine lv_dup2_11 F.1 F.2.1 dX7_takesIt_48 rfl rfl ?_
    refine tIaldX F hK hH (tyb hq_60 (all1 rfl)) (ixb (n := 660) hz_62.2 rfl rfl) dX7_takesIt_49 (fun z_63 ez_63 => ?_)
    have hz_63 : (-14400002) ≤ z_63.toInt ∧ z_63.toInt ≤ 2147483647 := (by have h9_ := hLG_12 a1.toInt.toNat (by omega); rw [show 84 + 13 * a1.toInt.toNat = (z_62).toNatClampNeg from by show _ = (z_62).toInt.toNat; omega, show gI G_12 (z_62).toNatClampNeg = z_63.toInt from by unfold gI; rw [ez_63]] at h9_; have h8_ := i32b z_63; omega)
    refine lv_iload_n F.1 F.2.1 dX7_takesIt_50 rfl (lv_at hl 0 rfl) ?_
    refine tSub (lo := (-14429999)) (hi := 2147483647) F dX7_takesIt_51 hz_63 f_6 rfl (fun z_64 hz_64 => ?_)
    refine tIastX (t := 25) F hK hH hS (List.mem_singleton.mp hq_60) (by decide) rfl (ixb (n := 660) hz_62.2 rfl rfl) dX7_takesIt_52 (fun G_65 eG_65 H locs hH hS => ?_)
    have hH : TH E (tbM (mD (.inl tp) (.inl sp) (.inl nu) (.inl un) (.inl tk) (.inl xt) (.inl wrb) (.inl nab) (.inl iwb)) (xD 660 G_65) ws kp as rd m_second ty ik) H := hH
    have hLG_65 : okL (a1.toInt + 1) G_65 := okL.take hLG_12 eG_65 (by omega) (by omega) (by rw [show gI G_12 (z_62).toNatClampNeg = z_63.toInt from by unfold gI; rw [ez_63]]; omega) (by omega)
    have hG_65 : okA G_65 := (okA.st hG_12 eG_65 (by omega) (by omega) (phiI (by omega) (by omega) (by omega) (by omega) (by omega) (by omega) (by omega) (by omega) (by omega) (by omega) (by omega) (by omega) (by omega) (by omega) (by omega) (by omega) (by omega) (by omega)))
    have hBG_65 := okB hG_65
    have hqG_65 : sQ Z G_65 := sQ.st hqG_12 eG_65 (by omega)
    exact J_53 (G_65) _ _ _ ⟨hG_65, (show okL (a1.toInt + 1) G_65 from okL.mono hLG_65 (by omega)), (show sQ Z G_65 from hqG_65), hH, hS, lv_sub hl [2, 1, 0] rfl⟩
set_option maxHeartbeats 4000000 in
set_option maxRecDepth 100000 in
theorem c_X7_newYear (E : Ev) (ws : TD) (kp : TD) (as : TD) (rd : TD) (sc : TD) (ty : TD) (ik : TD) (un : Int × Int) (tk : Int × Int) (xt : Int × Int) (tp : Int × Int) (sp : Int × Int) (wrb : Int × Int) (nu : Int × Int) (nab : Int × Int) (iwb : Int × Int) (X0 : Nat → Int32) (Z : Nat → Int32) (a0 : Nat) (ha0 : eT E a0 ∈ [24]) (hX0 : okY X0) (hqX0 : sQ Z X0) : TcV E yX7_newYear cX7_newYear 2 ({ frames := 2, cells := 0, slots := 0, locals := 62 }) [.ref a0] (fun H => TH E (tbM (mD (.inl tp) (.inl sp) (.inl nu) (.inl un) (.inl tk) (.inl xt) (.inl wrb) (.inl nab) (.inl iwb)) (xD 660 X0) ws kp as rd sc ty ik) H) (fun H => ∃ X2 : Nat → Int32, (okR X2 ∧ sQ Z X2) ∧ TH E (tbM (mD (.inl tp) (.inl sp) (.inl nu) (.inl un) (.inl tk) (.inl xt) (.inl wrb) (.inl nab) (.inl iwb)) (xD 660 X2) ws kp as rd sc ty ik) H) := by
  refine teV (by decide) (Nat.le_of_ble_eq_true rfl) ?_
  intro p_ ev_ s mi_ below_ meth cd_ ls F hK hN hO hH hS hl
  have hH : TH E (tbM (mD (.inl tp) (.inl sp) (.inl nu) (.inl un) (.inl tk) (.inl xt) (.inl wrb) (.inl nab) (.inl iwb)) (xD 660 X0) ws kp as rd sc ty ik) s.heap := hH
  have hl : lv_has ls 2 [(0, .ref a0)] := hl
  refine lv_aload_n F.1 F.2.1 dX7_newYear_0 rfl (lv_at hl 0 rfl) ?_
  refine tGetR (j := 0) F hK hH (tyb ha0 (all1 rfl)) rfl (all1 rfl) clX7 (by decide) wd_6_5 dX7_newYear_1 (fun q_1 hq_1 _ => ?_)
  refine lv_iconst (v := 3) F.1 F.2.1 dX7_newYear_4 (by decide) ?_
  refine topK (a := 3) (by decide) (fun k_2 hk_2 => ?_)
  refine lv_iconst (v := 0) F.1 F.2.1 dX7_newYear_5 (by decide) ?_
  refine topK (a := 0) (by decide) (fun k_3 hk_3 => ?_)
  refine tIastX (t := 25) F hK hH hS (List.mem_singleton.mp hq_1) (by decide) rfl (ixb (n := 660) (eqb hk_2) rfl rfl) dX7_newYear_6 (fun G_4 eG_4 H locs hH hS => ?_)
  have hH : TH E (tbM (mD (.inl tp) (.inl sp) (.inl nu) (.inl un) (.inl tk) (.inl xt) (.inl wrb) (.inl nab) (.inl iwb)) (xD 660 G_4) ws kp as rd sc ty ik) H := hH
  have hz_ := okY.zero hX0 eG_4 (by omega) (by omega)
  have hZG_4 := hz_.2
  have hG_4 : okA G_4 := hz_.1
  have hBG_4 := okB hG_4
  have hqG_4 : sQ Z G_4 := sQ.st hqX0 eG_4 (by omega)
  refine lv_iconst (v := 0) F.1 F.2.1 dX7_newYear_7 (by decide) ?_
  refine topK (a := 0) (by decide) (fun k_5 hk_5 => ?_)
  refine lv_istore_n (lv' := [(1, .int k_5), (0, .ref a0)]) F.1 F.2.1 dX7_newYear_8 rfl hl (by decide) rfl (fun ls hl => ?_)
  refine wloop (σ := Int32 × (Nat → Int32)) (fun n9 x9 H locs ls => (14 - x9.1.toInt + 1).toNat < n9 ∧ (0 ≤ x9.1.toInt ∧ x9.1.toInt ≤ 14) ∧ (okA x9.2) ∧ (okZ (x9.1.toInt) x9.2) ∧ (sQ Z x9.2) ∧ TH E (tbM (mD (.inl tp) (.inl sp) (.inl nu) (.inl un) (.inl tk) (.inl xt) (.inl wrb) (.inl nab) (.inl iwb)) (xD 660 x9.2) ws kp as rd sc ty ik) H ∧ va_S (eA E s.heap.size) s.heap H locs ∧ lv_has ls 2 [(0, .ref a0), (1, .int x9.1)]) ?_ (fun x9 H locs ls h => absurd h.1 (Nat.not_lt_zero _)) _ (k_5, G_4) ⟨Nat.lt_succ_self _, (wkb (eqb hk_5) rfl rfl), hG_4, (show okZ (k_5.toInt) G_4 from okZ.cast hZG_4 (by omega)), (show sQ Z G_4 from hqG_4), hH, hS, lv_sub hl [1, 0] rfl⟩
  intro n_9 ih_9 ⟨u_6, G_7⟩ H locs ls ⟨hm_9, hu_6, hG_7, hcr9_0, hcr9_1, hH, hS, hl⟩
  have hm_9 : (14 - u_6.toInt + 1).toNat < n_9 + 1 := hm_9
  have hu_6 : (0 ≤ u_6.toInt ∧ u_6.toInt ≤ 14) := hu_6
  have hG_7 : (okA G_7) := hG_7
  have hcr9_0 : (okZ (u_6.toInt) G_7) := hcr9_0
  have hcr9_1 : (sQ Z G_7) := hcr9_1
  have hH : TH E (tbM (mD (.inl tp) (.inl sp) (.inl nu) (.inl un) (.inl tk) (.inl xt) (.inl wrb) (.inl nab) (.inl iwb)) (xD 660 G_7) ws kp as rd sc ty ik) H := hH
  have hl : lv_has ls 2 [(0, .ref a0), (1, .int u_6)] := hl
  have hBG_7 := okB hG_7
  have hqG_7 := hcr9_1
  have hZG_7 := hcr9_0
  refine lv_iload_n F.1 F.2.1 dX7_newYear_9 rfl (lv_at hl 1 rfl) ?_
  refine lv_aload_n F.1 F.2.1 dX7_newYear_10 rfl (lv_at hl 0 rfl) ?_
  refine tVi (b := a0) (As := []) (rest := [.int u_6]) F hK hN hO (c_X7_rights E ws kp as rd sc ty ik un tk xt tp sp wrb nu nab iwb G_7 a0 ha0 hG_7) mv_X7_rights wd_19_4 ⟨Nat.le_of_ble_eq_true rfl, Nat.le_of_ble_eq_true rfl⟩ ⟨Nat.le_of_ble_eq_true rfl, Nat.le_of_ble_eq_true rfl⟩ hH hS (tRecv hK hH (tyb ha0 (all1 rfl)) clX7) rfl hl.1 (Nat.le_of_ble_eq_true rfl) dX7_newYear_11 (fun z_8 H locs hq hS => ?_)
  obtain ⟨f_9, f_10, hH⟩ := hq
  have hH : TH E (tbM (mD (.inl tp) (.inl sp) (.inl nu) (.inl un) (.inl tk) (.inl xt) (.inl wrb) (.inl nab) (.inl iwb)) (xD 660 G_7) ws kp as rd sc ty ik) H := hH
  refine b_ge (tgt := 44) F dX7_newYear_14 (by decide) (fun c_11 => ?_) (fun c_11 => ?_)
  · skip
    have hR_ : okR G_7 := ⟨hG_7, okZ.end hZG_7 (by omega)⟩
    exact txV F hS dX7_newYear_44 (⟨G_7, ⟨hR_, hqG_7⟩, hH⟩)
  · skip
    have r_12 : 0 ≤ u_6.toInt ∧ u_6.toInt ≤ 13 := by have h9_ := hu_6; omega
    have r_13 : 1 ≤ z_8.toInt ∧ z_8.toInt ≤ 14 := by have h9_ := f_9; omega
    refine lv_aload_n F.1 F.2.1 dX7_newYear_17 rfl (lv_at hl 0 rfl) ?_
    refine tGetR (j := 0) F hK hH (tyb ha0 (all1 rfl)) rfl (all1 rfl) clX7 (by decide) wd_6_5 dX7_newYear_18 (fun q_14 hq_14 _ => ?_)
    refine lv_bipush (v := 78) F.1 F.2.1 dX7_newYear_21 (by decide) ?_
    refine topK (a := 78) (by decide) (fun k_15 hk_15 => ?_)
    refine lv_bipush (v := 13) F.1 F.2.1 dX7_newYear_23 (by decide) ?_
    refine topK (a := 13) (by decide) (fun k_16 hk_16 => ?_)
    refine lv_iload_n F.1 F.2.1 dX7_newYear_25 rfl (lv_at hl 1 rfl) ?_
    refine tMul (lo := 0) (hi := 169) F dX7_newYear_26 (eqb hk_16) r_12 rfl (fun z_17 hz_17 => ?_)
    have mz_17 : z_17.toInt = 13 * u_6.toInt := by rw [hz_17.1, hk_16]
    refine tAdd (lo := 78) (hi := 247) F dX7_newYear_27 (eqb hk_15) hz_17.2 rfl (fun z_18 hz_18 => ?_)
    refine lv_bipush (v := 6) F.1 F.2.1 dX7_newYear_28 (by decide) ?_
    refine topK (a := 6) (by decide) (fun k_19 hk_19 => ?_)
    refine tAdd (lo := 84) (hi := 253) F dX7_newYear_30 hz_18.2 (eqb hk_19) rfl (fun z_20 hz_20 => ?_)
    refine lv_aload_n F.1 F.2.1 dX7_newYear_31 rfl (lv_at hl 0 rfl) ?_
    refine lv_iload_n F.1 F.2.1 dX7_newYear_32 rfl (lv_at hl 1 rfl) ?_
    refine lv_iconst (v := 5) F.1 F.2.1 dX7_newYear_33 (by decide) ?_
    refine topK (a := 5) (by decide) (fun k_21 hk_21 => ?_)
    refine tVi (b := a0) (As := [.int u_6, .int k_21]) (rest := [.int z_20, .ref q_14]) F hK hN hO (c_X7_of_5 E ws kp as rd sc ty ik un tk xt tp sp wrb nu nab iwb G_7 a0 u_6 k_21 ha0 r_12 (eqb hk_21) hG_7) mv_X7_of wd_26_20 ⟨Nat.le_of_ble_eq_true rfl, Nat.le_of_ble_eq_true rfl⟩ ⟨Nat.le_of_ble_eq_true rfl, Nat.le_of_ble_eq_true rfl⟩ hH hS (tRecv hK hH (tyb ha0 (all1 rfl)) clX7) rfl hl.1 (Nat.le_of_ble_eq_true rfl) dX7_newYear_34 (fun z_22 H locs hq hS => ?_)
    obtain ⟨f_23, f_24, hH⟩ := hq
    have hH : TH E (tbM (mD (.inl tp) (.inl sp) (.inl nu) (.inl un) (.inl tk) (.inl xt) (.inl wrb) (.inl nab) (.inl iwb)) (xD 660 G_7) ws kp as rd sc ty ik) H := hH
    refine tIastX (t := 25) F hK hH hS (List.mem_singleton.mp hq_14) (by decide) rfl (ixb (n := 660) hz_20.2 rfl rfl) dX7_newYear_37 (fun G_25 eG_25 H locs hH hS => ?_)
    have hH : TH E (tbM (mD (.inl tp) (.inl sp) (.inl nu) (.inl un) (.inl tk) (.inl xt) (.inl wrb) (.inl nab) (.inl iwb)) (xD 660 G_25) ws kp as rd sc ty ik) H := hH
    have hZG_25 : okZ (u_6.toInt + 1) G_25 := okZ.put hZG_7 eG_25 (by omega) (by omega) (by omega) rfl
    have hG_25 : okA G_25 := (okA.st hG_7 eG_25 (by omega) (by omega) (phiI (by omega) (by omega) (by omega) (by omega) (by omega) (by omega) (by omega) (by omega) (by omega) (by omega) (by omega) (by omega) (by omega) (by omega) (by omega) (by omega) (by omega) (by omega)))
    have hBG_25 := okB hG_25
    have hqG_25 : sQ Z G_25 := sQ.st hqG_7 eG_25 (by omega)
    obtain ⟨x_26, ex_26, hx_26⟩ := iincB (c := 1) (lo := 1) (hi := 14) r_12 rfl
    refine lv_iinc (v := x_26) (lv' := [(1, .int x_26), (0, .ref a0)]) F.1 F.2.1 dX7_newYear_38 hl (k := 1) rfl ex_26 (by decide) rfl (fun ls hl => ?_)
    refine lv_goto (tgt := 9) F.1 F.2.1 dX7_newYear_41 (by decide) ?_
    exact ih_9 (x_26, G_25) _ _ _ ⟨(show (14 - x_26.toInt + 1).toNat < n_9 from by omega), (wkb hx_26.2 rfl rfl), hG_25, (show okZ (x_26.toInt) G_25 from okZ.cast hZG_25 (by omega)), (show sQ Z G_25 from hqG_25), hH, hS, lv_sub hl [1, 0] rfl⟩
set_option maxHeartbeats 4000000 in
set_option maxRecDepth 100000 in
theorem c_X7_passes (E : Ev) (ws : TD) (kp : TD) (as : TD) (rd : TD) (ty : TD) (ik : TD) (un : Int × Int) (xt : Int × Int) (tp : Int × Int) (sp : Int × Int) (wrb : Int × Int) (nu : Int × Int) (nab : Int × Int) (iwb : Int × Int) (X0 : Nat → Int32) (Z : Nat → Int32) (a0 : Nat) (ha0 : eT E a0 ∈ [24]) (hX0 : okR X0) (hqX0 : sQ Z X0) : TcV E yX7_passes cX7_passes 2 ({ frames := 8, cells := 0, slots := 0, locals := 201 }) [.ref a0] (fun H => TH E (tbM (mD (.inl tp) (.inl sp) (.inl nu) (.inl un) (.inl (0, 18)) (.inl xt) (.inl wrb) (.inl nab) (.inl iwb)) (xD 660 X0) ws kp as rd m_second ty ik) H) (fun H => ∃ X2 : Nat → Int32, (okR X2 ∧ sQ Z X2) ∧ TH E (tbM (mD (.inl tp) (.inl sp) (.inl nu) (.inl un) (.inl (0, 18)) (.inl xt) (.inl wrb) (.inl nab) (.inl iwb)) (xD 660 X2) ws kp as rd m_second ty ik) H) := by
  refine teV (by decide) (Nat.le_of_ble_eq_true rfl) ?_
  intro p_ ev_ s mi_ below_ meth cd_ ls F hK hN hO hH hS hl
  have hH : TH E (tbM (mD (.inl tp) (.inl sp) (.inl nu) (.inl un) (.inl (0, 18)) (.inl xt) (.inl wrb) (.inl nab) (.inl iwb)) (xD 660 X0) ws kp as rd m_second ty ik) s.heap := hH
  have hl : lv_has ls 2 [(0, .ref a0)] := hl
  have hBX0 := okB hX0.1
  have hLX0 := hX0.2
  refine lv_aload_n F.1 F.2.1 dX7_passes_0 rfl (lv_at hl 0 rfl) ?_
  refine tVv (b := a0) (As := []) (rest := []) F hK hN hO (c_X7_works E ws kp as rd ty ik un xt tp sp wrb nu nab iwb X0 a0 ha0 hX0) mv_X7_works wd_25_15 ⟨Nat.le_of_ble_eq_true rfl, Nat.le_of_ble_eq_true rfl⟩ ⟨Nat.le_of_ble_eq_true rfl, Nat.le_of_ble_eq_true rfl⟩ hH hS (tRecv hK hH (tyb ha0 (all1 rfl)) clX7) rfl hl.1 (Nat.le_of_ble_eq_true rfl) dX7_passes_1 (fun H locs hq hS => ?_)
  have hH := hq
  have hH : TH E (tbM (mD (.inl tp) (.inl sp) (.inl nu) (.inl un) (.inl (0, 18)) (.inl xt) (.inl wrb) (.inl nab) (.inl iwb)) (xD 660 X0) ws kp as rd m_second ty ik) H := hH
  refine lv_aload_n F.1 F.2.1 dX7_passes_4 rfl (lv_at hl 0 rfl) ?_
  refine tVv (b := a0) (As := []) (rest := []) F hK hN hO (c_X7_addsUp E ws kp as rd ty ik un (0, 18) xt tp sp wrb nu nab iwb X0 a0 ha0 hX0) mv_X7_addsUp wd_29_14 ⟨Nat.le_of_ble_eq_true rfl, Nat.le_of_ble_eq_true rfl⟩ ⟨Nat.le_of_ble_eq_true rfl, Nat.le_of_ble_eq_true rfl⟩ hH hS (tRecv hK hH (tyb ha0 (all1 rfl)) clX7) rfl hl.1 (Nat.le_of_ble_eq_true rfl) dX7_passes_5 (fun H locs hq hS => ?_)
  have hH := hq
  have hH : TH E (tbM (mD (.inl tp) (.inl sp) (.inl nu) (.inl un) (.inl (0, 18)) (.inl xt) (.inl wrb) (.inl nab) (.inl iwb)) (xD 660 X0) ws kp as rd m_second ty ik) H := hH
  refine lv_iconst (v := 0) F.1 F.2.1 dX7_passes_8 (by decide) ?_
  refine topK (a := 0) (by decide) (fun k_3 hk_3 => ?_)
  refine lv_istore_n (lv' := [(1, .int k_3), (0, .ref a0)]) F.1 F.2.1 dX7_passes_9 rfl hl (by decide) rfl (fun ls hl => ?_)
  refine wloop (σ := Int32 × (Nat → Int32)) (fun n9 x9 H locs ls => (14 - x9.1.toInt + 1).toNat < n9 ∧ (0 ≤ x9.1.toInt ∧ x9.1.toInt ≤ 14) ∧ (okA x9.2) ∧ (okL (x9.1.toInt) x9.2) ∧ (sQ Z x9.2) ∧ TH E (tbM (mD (.inl tp) (.inl sp) (.inl nu) (.inl un) (.inl (0, 18)) (.inl xt) (.inl wrb) (.inl nab) (.inl iwb)) (xD 660 x9.2) ws kp as rd m_second ty ik) H ∧ va_S (eA E s.heap.size) s.heap H locs ∧ lv_has ls 2 [(0, .ref a0), (1, .int x9.1)]) ?_ (fun x9 H locs ls h => absurd h.1 (Nat.not_lt_zero _)) _ (k_3, X0) ⟨Nat.lt_succ_self _, (wkb (eqb hk_3) rfl rfl), (hX0).1, (show okL (k_3.toInt) X0 from okL.cast hLX0 (by omega)), (show sQ Z X0 from hqX0), hH, hS, lv_sub hl [1, 0] rfl⟩
  intro n_10 ih_10 ⟨u_4, G_5⟩ H locs ls ⟨hm_10, hu_4, hG_5, hcr10_0, hcr10_1, hH, hS, hl⟩
  have hm_10 : (14 - u_4.toInt + 1).toNat < n_10 + 1 := hm_10
  have hu_4 : (0 ≤ u_4.toInt ∧ u_4.toInt ≤ 14) := hu_4
  have hG_5 : (okA G_5) := hG_5
  have hcr10_0 : (okL (u_4.toInt) G_5) := hcr10_0
  have hcr10_1 : (sQ Z G_5) := hcr10_1
  have hH : TH E (tbM (mD (.inl tp) (.inl sp) (.inl nu) (.inl un) (.inl (0, 18)) (.inl xt) (.inl wrb) (.inl nab) (.inl iwb)) (xD 660 G_5) ws kp as rd m_second ty ik) H := hH
  have hl : lv_has ls 2 [(0, .ref a0), (1, .int u_4)] := hl
  have hBG_5 := okB hG_5
  have hqG_5 := hcr10_1
  have hLG_5 := hcr10_0
  refine lv_iload_n F.1 F.2.1 dX7_passes_10 rfl (lv_at hl 1 rfl) ?_
  refine lv_aload_n F.1 F.2.1 dX7_passes_11 rfl (lv_at hl 0 rfl) ?_
  refine tVi (b := a0) (As := []) (rest := [.int u_4]) F hK hN hO (c_X7_rights E ws kp as rd m_second ty ik un (0, 18) xt tp sp wrb nu nab iwb G_5 a0 ha0 hG_5) mv_X7_rights wd_19_4 ⟨Nat.le_of_ble_eq_true rfl, Nat.le_of_ble_eq_true rfl⟩ ⟨Nat.le_of_ble_eq_true rfl, Nat.le_of_ble_eq_true rfl⟩ hH hS (tRecv hK hH (tyb ha0 (all1 rfl)) clX7) rfl hl.1 (Nat.le_of_ble_eq_true rfl) dX7_passes_12 (fun z_6 H locs hq hS => ?_)
  obtain ⟨f_7, f_8, hH⟩ := hq
  have hH : TH E (tbM (mD (.inl tp) (.inl sp) (.inl nu) (.inl un) (.inl (0, 18)) (.inl xt) (.inl wrb) (.inl nab) (.inl iwb)) (xD 660 G_5) ws kp as rd m_second ty ik) H := hH
  refine b_ge (tgt := 29) F dX7_passes_15 (by decide) (fun c_9 => ?_) (fun c_9 => ?_)
  · skip
    have hMG_5 : okL 14 G_5 := okL.mono hLG_5 (by omega)
    refine lv_iconst (v := 0) F.1 F.2.1 dX7_passes_29 (by decide) ?_
    refine topK (a := 0) (by decide) (fun k_12 hk_12 => ?_)
    refine lv_istore_n (lv' := [(1, .int k_12), (0, .ref a0)]) F.1 F.2.1 dX7_passes_30 rfl hl (by decide) rfl (fun ls hl => ?_)
    refine wloop (σ := Int32 × (Nat → Int32)) (fun n9 x9 H locs ls => (4 - x9.1.toInt + 1).toNat < n9 ∧ (0 ≤ x9.1.toInt ∧ x9.1.toInt ≤ 4) ∧ (okA x9.2) ∧ (okL 14 x9.2) ∧ (sQ Z x9.2) ∧ TH E (tbM (mD (.inl tp) (.inl sp) (.inl nu) (.inl un) (.inl (0, 18)) (.inl xt) (.inl wrb) (.inl nab) (.inl iwb)) (xD 660 x9.2) ws kp as rd m_second ty ik) H ∧ va_S (eA E s.heap.size) s.heap H locs ∧ lv_has ls 2 [(0, .ref a0), (1, .int x9.1)]) ?_ (fun x9 H locs ls h => absurd h.1 (Nat.not_lt_zero _)) _ (k_12, G_5) ⟨Nat.lt_succ_self _, (wkb (eqb hk_12) rfl rfl), hG_5, (show okL 14 G_5 from hMG_5), (show sQ Z G_5 from hqG_5), hH, hS, lv_sub hl [1, 0] rfl⟩
    intro n_31 ih_31 ⟨u_13, G_14⟩ H locs ls ⟨hm_31, hu_13, hG_14, hcr31_0, hcr31_1, hH, hS, hl⟩
    have hm_31 : (4 - u_13.toInt + 1).toNat < n_31 + 1 := hm_31
    have hu_13 : (0 ≤ u_13.toInt ∧ u_13.toInt ≤ 4) := hu_13
    have hG_14 : (okA G_14) := hG_14
    have hcr31_0 : (okL 14 G_14) := hcr31_0
    have hcr31_1 : (sQ Z G_14) := hcr31_1
    have hH : TH E (tbM (mD (.inl tp) (.inl sp) (.inl nu) (.inl un) (.inl (0, 18)) (.inl xt) (.inl wrb) (.inl nab) (.inl iwb)) (xD 660 G_14) ws kp as rd m_second ty ik) H := hH
    have hl : lv_has ls 2 [(0, .ref a0), (1, .int u_13)] := hl
    have hBG_14 := okB hG_14
    have hqG_14 := hcr31_1
    have hMG_14 := hcr31_0
    refine lv_iload_n F.1 F.2.1 dX7_passes_31 rfl (lv_at hl 1 rfl) ?_
    refine lv_aload_n F.1 F.2.1 dX7_passes_32 rfl (lv_at hl 0 rfl) ?_
    refine tVi (b := a0) (As := []) (rest := [.int u_13]) F hK hN hO (c_X7_stores E ws kp as rd m_second ty ik un (0, 18) xt tp sp wrb nu nab iwb G_14 a0 ha0 hG_14) mv_X7_stores wd_26_12 ⟨Nat.le_of_ble_eq_true rfl, Nat.le_of_ble_eq_true rfl⟩ ⟨Nat.le_of_ble_eq_true rfl, Nat.le_of_ble_eq_true rfl⟩ hH hS (tRecv hK hH (tyb ha0 (all1 rfl)) clX7) rfl hl.1 (Nat.le_of_ble_eq_true rfl) dX7_passes_33 (fun z_15 H locs hq hS => ?_)
    obtain ⟨f_16, f_17, hH⟩ := hq
    have hH : TH E (tbM (mD (.inl tp) (.inl sp) (.inl nu) (.inl un) (.inl (0, 18)) (.inl xt) (.inl wrb) (.inl nab) (.inl iwb)) (xD 660 G_14) ws kp as rd m_second ty ik) H := hH
    refine b_ge (tgt := 86) F dX7_passes_36 (by decide) (fun c_18 => ?_) (fun c_18 => ?_)
    · skip
      refine lv_iconst (v := 0) F.1 F.2.1 dX7_passes_86 (by decide) ?_
      refine topK (a := 0) (by decide) (fun k_21 hk_21 => ?_)
      refine lv_istore_n (lv' := [(1, .int k_21), (0, .ref a0)]) F.1 F.2.1 dX7_passes_87 rfl hl (by decide) rfl (fun ls hl => ?_)
      refine wloop (σ := Int32 × (Nat → Int32)) (fun n9 x9 H locs ls => (12 - x9.1.toInt + 1).toNat < n9 ∧ (0 ≤ x9.1.toInt ∧ x9.1.toInt ≤ 12) ∧ (okA x9.2) ∧ (okL 14 x9.2) ∧ (sQ Z x9.2) ∧ TH E (tbM (mD (.inl tp) (.inl sp) (.inl nu) (.inl un) (.inl (0, 18)) (.inl xt) (.inl wrb) (.inl nab) (.inl iwb)) (xD 660 x9.2) ws kp as rd m_second ty ik) H ∧ va_S (eA E s.heap.size) s.heap H locs ∧ lv_has ls 2 [(0, .ref a0), (1, .int x9.1)]) ?_ (fun x9 H locs ls h => absurd h.1 (Nat.not_lt_zero _)) _ (k_21, G_14) ⟨Nat.lt_succ_self _, (wkb (eqb hk_21) rfl rfl), hG_14, (show okL 14 G_14 from hMG_14), (show sQ Z G_14 from hqG_14), hH, hS, lv_sub hl [1, 0] rfl⟩
      intro n_88 ih_88 ⟨u_22, G_23⟩ H locs ls ⟨hm_88, hu_22, hG_23, hcr88_0, hcr88_1, hH, hS, hl⟩
      have hm_88 : (12 - u_22.toInt + 1).toNat < n_88 + 1 := hm_88
      have hu_22 : (0 ≤ u_22.toInt ∧ u_22.toInt ≤ 12) := hu_22
      have hG_23 : (okA G_23) := hG_23
      have hcr88_0 : (okL 14 G_23) := hcr88_0
      have hcr88_1 : (sQ Z G_23) := hcr88_1
      have hH : TH E (tbM (mD (.inl tp) (.inl sp) (.inl nu) (.inl un) (.inl (0, 18)) (.inl xt) (.inl wrb) (.inl nab) (.inl iwb)) (xD 660 G_23) ws kp as rd m_second ty ik) H := hH
      have hl : lv_has ls 2 [(0, .ref a0), (1, .int u_22)] := hl
      have hBG_23 := okB hG_23
      have hqG_23 := hcr88_1
      have hMG_23 := hcr88_0
      refine lv_iload_n F.1 F.2.1 dX7_passes_88 rfl (lv_at hl 1 rfl) ?_
      refine lv_bipush (v := 12) F.1 F.2.1 dX7_passes_89 (by decide) ?_
      refine topK (a := 12) (by decide) (fun k_24 hk_24 => ?_)
      refine b_ge (tgt := 121) F dX7_passes_91 (by decide) (fun c_25 => ?_) (fun c_25 => ?_)
      · skip
        have r_26 : 12 ≤ u_22.toInt ∧ u_22.toInt ≤ 12 := by have h9_ := hu_22; omega
        refine lv_aload_n F.1 F.2.1 dX7_passes_121 rfl (lv_at hl 0 rfl) ?_
        refine tGetR (j := 0) F hK hH (tyb ha0 (all1 rfl)) rfl (all1 rfl) clX7 (by decide) wd_6_5 dX7_passes_122 (fun q_28 hq_28 _ => ?_)
        refine lv_iconst (v := 5) F.1 F.2.1 dX7_passes_125 (by decide) ?_
        refine topK (a := 5) (by decide) (fun k_29 hk_29 => ?_)
        refine lv_aload_n F.1 F.2.1 dX7_passes_126 rfl (lv_at hl 0 rfl) ?_
        refine tGetR (j := 0) F hK hH (tyb ha0 (all1 rfl)) rfl (all1 rfl) clX7 (by decide) wd_6_5 dX7_passes_127 (fun q_30 hq_30 _ => ?_)
        refine lv_iconst (v := 5) F.1 F.2.1 dX7_passes_130 (by decide) ?_
        refine topK (a := 5) (by decide) (fun k_31 hk_31 => ?_)
        refine tIaldX F hK hH (tyb hq_30 (all1 rfl)) (ixb (n := 660) (eqb hk_31) rfl rfl) dX7_passes_131 (fun z_32 ez_32 => ?_)
        have gz_32 : z_32.toInt = gI G_23 (5) := by unfold gI; rw [ez_32, show (k_31).toNatClampNeg = (5) from by show (k_31).toInt.toNat = _; omega]
        have hz_32 : 0 ≤ z_32.toInt ∧ z_32.toInt ≤ 30 := (by have h9_ := okA.at (i := k_31) hG_23 (by omega); rw [show gI G_23 (k_31).toNatClampNeg = z_32.toInt from by unfold gI; rw [ez_32]] at h9_; have h8_ := phi_5 h9_ (by omega); omega)
        refine lv_iconst (v := 1) F.1 F.2.1 dX7_passes_132 (by decide) ?_
        refine topK (a := 1) (by decide) (fun k_33 hk_33 => ?_)
        refine tAdd (lo := 1) (hi := 31) F dX7_passes_133 hz_32 (eqb hk_33) rfl (fun z_34 hz_34 => ?_)
        refine lv_bipush (v := 31) F.1 F.2.1 dX7_passes_134 (by decide) ?_
        refine topK (a := 31) (by decide) (fun k_35 hk_35 => ?_)
        refine tRem (k := 31) (hi := 30) F dX7_passes_136 hz_34.2 hk_35 rfl (fun z_36 hz_36 => ?_)
        refine tIastX (t := 25) F hK hH hS (List.mem_singleton.mp hq_28) (by decide) rfl (ixb (n := 660) (eqb hk_29) rfl rfl) dX7_passes_137 (fun G_37 eG_37 H locs hH hS => ?_)
        have hH : TH E (tbM (mD (.inl tp) (.inl sp) (.inl nu) (.inl un) (.inl (0, 18)) (.inl xt) (.inl wrb) (.inl nab) (.inl iwb)) (xD 660 G_37) ws kp as rd m_second ty ik) H := hH
        have hMG_37 : okL 14 G_37 := okL.st hMG_23 eG_37 (by omega) (by omega) (by omega)
        have hG_37 : okA G_37 := (okA.st hG_23 eG_37 (by omega) (by omega) (phiI (by omega) (by omega) (by omega) (by omega) (by omega) (by omega) (by omega) (by omega) (by omega) (by omega) (by omega) (by omega) (by omega) (by omega) (by omega) (by omega) (by omega) (by omega)))
        have hBG_37 := okB hG_37
        have hqG_37 : sQ Z G_37 := sQ.st hqG_23 eG_37 (by omega)
        refine lv_aload_n F.1 F.2.1 dX7_passes_138 rfl (lv_at hl 0 rfl) ?_
        refine tGetR (j := 0) F hK hH (tyb ha0 (all1 rfl)) rfl (all1 rfl) clX7 (by decide) wd_6_5 dX7_passes_139 (fun q_38 hq_38 _ => ?_)
        refine lv_iconst (v := 3) F.1 F.2.1 dX7_passes_142 (by decide) ?_
        refine topK (a := 3) (by decide) (fun k_39 hk_39 => ?_)
        refine lv_dup2_11 F.1 F.2.1 dX7_passes_143 rfl rfl ?_
        refine tIaldX F hK hH (tyb hq_38 (all1 rfl)) (ixb (n := 660) (eqb hk_39) rfl rfl) dX7_passes_144 (fun z_40 ez_40 => ?_)
        have gz_40 : z_40.toInt = gI G_37 (3) := by unfold gI; rw [ez_40, show (k_39).toNatClampNeg = (3) from by show (k_39).toInt.toNat = _; omega]
        have hz_40 : 0 ≤ z_40.toInt ∧ z_40.toInt ≤ 359 := (by have h9_ := okA.at (i := k_39) hG_37 (by omega); rw [show gI G_37 (k_39).toNatClampNeg = z_40.toInt from by unfold gI; rw [ez_40]] at h9_; have h8_ := phi_3 h9_ (by omega); omega)
        refine lv_iconst (v := 1) F.1 F.2.1 dX7_passes_145 (by decide) ?_
        refine topK (a := 1) (by decide) (fun k_41 hk_41 => ?_)
        refine tAdd (lo := 1) (hi := 360) F dX7_passes_146 hz_40 (eqb hk_41) rfl (fun z_42 hz_42 => ?_)
        refine tIastX (t := 25) F hK hH hS (List.mem_singleton.mp hq_38) (by decide) rfl (ixb (n := 660) (eqb hk_39) rfl rfl) dX7_passes_147 (fun G_43 eG_43 H locs hH hS => ?_)
        have hH : TH E (tbM (mD (.inl tp) (.inl sp) (.inl nu) (.inl un) (.inl (0, 18)) (.inl xt) (.inl wrb) (.inl nab) (.inl iwb)) (xD 660 G_43) ws kp as rd m_second ty ik) H := hH
        have hYG_43 : okY G_43 := okY.of hG_37 hMG_37 eG_43 (by omega)
        have h3G_43 : gI G_43 3 = z_42.toInt := gI_eq eG_43 (by omega)
        have hG_43 : okY G_43 := hYG_43
        have hqG_43 : sQ Z G_43 := sQ.st hqG_37 eG_43 (by omega)
        refine lv_aload_n F.1 F.2.1 dX7_passes_148 rfl (lv_at hl 0 rfl) ?_
        refine tGetR (j := 0) F hK hH (tyb ha0 (all1 rfl)) rfl (all1 rfl) clX7 (by decide) wd_6_5 dX7_passes_149 (fun q_44 hq_44 _ => ?_)
        refine lv_iconst (v := 3) F.1 F.2.1 dX7_passes_152 (by decide) ?_
        refine topK (a := 3) (by decide) (fun k_45 hk_45 => ?_)
        refine tIaldX F hK hH (tyb hq_44 (all1 rfl)) (ixb (n := 660) (eqb hk_45) rfl rfl) dX7_passes_153 (fun z_46 ez_46 => ?_)
        have gz_46 : z_46.toInt = gI G_43 3 := by unfold gI; rw [ez_46, show (k_45).toNatClampNeg = 3 from by show (k_45).toInt.toNat = _; omega]
        refine lv_sipush (v := 360) F.1 F.2.1 dX7_passes_154 (by decide) ?_
        refine topK (a := 360) (by decide) (fun k_47 hk_47 => ?_)
        refine b_ne (tgt := 164) F dX7_passes_157 (by decide) (fun c_48 => ?_) (fun c_48 => ?_)
        · skip
          have hR_ : okR G_43 := ⟨okA.st hG_37 eG_43 (by omega) (by omega) (phiI (by omega) (by omega) (by omega) (by omega) (by omega) (by omega) (by omega) (by omega) (by omega) (by omega) (by omega) (by omega) (by omega) (by omega) (by omega) (by omega) (by omega) (by omega)), okL.day hMG_37 eG_43 (by omega) (by omega)⟩
          exact txV F hS dX7_passes_164 (⟨G_43, ⟨hR_, hqG_43⟩, hH⟩)
        · skip
          have r_49 : 360 ≤ z_46.toInt ∧ z_46.toInt ≤ 360 := by have h9_ := (i32b z_46); omega
          refine lv_aload_n F.1 F.2.1 dX7_passes_160 rfl (lv_at hl 0 rfl) ?_
          refine tVv (b := a0) (As := []) (rest := []) F hK hN hO (c_X7_newYear E ws kp as rd m_second ty ik un (0, 18) xt tp sp wrb nu nab iwb G_43 Z a0 ha0 hG_43 hqG_43) mv_X7_newYear wd_30_10 ⟨Nat.le_of_ble_eq_true rfl, Nat.le_of_ble_eq_true rfl⟩ ⟨Nat.le_of_ble_eq_true rfl, Nat.le_of_ble_eq_true rfl⟩ hH hS (tRecv hK hH (tyb ha0 (all1 rfl)) clX7) rfl hl.1 (Nat.le_of_ble_eq_true rfl) dX7_passes_161 (fun H locs hq hS => ?_)
          obtain ⟨g_51, hg_51, hH⟩ := hq
          have hH : TH E (tbM (mD (.inl tp) (.inl sp) (.inl nu) (.inl un) (.inl (0, 18)) (.inl xt) (.inl wrb) (.inl nab) (.inl iwb)) (xD 660 g_51) ws kp as rd m_second ty ik) H := hH
          have hqg_51 := hg_51.2
          have hBg_51 := okB hg_51.1.1
          have hLg_51 := hg_51.1.2
          exact txV F hS dX7_passes_164 (⟨g_51, ⟨hg_51.1, hqg_51⟩, hH⟩)
      · skip
        have r_27 : 0 ≤ u_22.toInt ∧ u_22.toInt ≤ 11 := by have h9_ := hu_22; omega
        refine lv_aload_n F.1 F.2.1 dX7_passes_94 rfl (lv_at hl 0 rfl) ?_
        refine tGetR (j := 0) F hK hH (tyb ha0 (all1 rfl)) rfl (all1 rfl) clX7 (by decide) wd_6_5 dX7_passes_95 (fun q_52 hq_52 _ => ?_)
        refine lv_sipush (v := 288) F.1 F.2.1 dX7_passes_98 (by decide) ?_
        refine topK (a := 288) (by decide) (fun k_53 hk_53 => ?_)
        refine lv_bipush (v := 12) F.1 F.2.1 dX7_passes_101 (by decide) ?_
        refine topK (a := 12) (by decide) (fun k_54 hk_54 => ?_)
        refine lv_aload_n F.1 F.2.1 dX7_passes_103 rfl (lv_at hl 0 rfl) ?_
        refine tGetR (j := 0) F hK hH (tyb ha0 (all1 rfl)) rfl (all1 rfl) clX7 (by decide) wd_6_5 dX7_passes_104 (fun q_55 hq_55 _ => ?_)
        refine lv_iconst (v := 5) F.1 F.2.1 dX7_passes_107 (by decide) ?_
        refine topK (a := 5) (by decide) (fun k_56 hk_56 => ?_)
        refine tIaldX F hK hH (tyb hq_55 (all1 rfl)) (ixb (n := 660) (eqb hk_56) rfl rfl) dX7_passes_108 (fun z_57 ez_57 => ?_)
        have gz_57 : z_57.toInt = gI G_23 (5) := by unfold gI; rw [ez_57, show (k_56).toNatClampNeg = (5) from by show (k_56).toInt.toNat = _; omega]
        have hz_57 : 0 ≤ z_57.toInt ∧ z_57.toInt ≤ 30 := (by have h9_ := okA.at (i := k_56) hG_23 (by omega); rw [show gI G_23 (k_56).toNatClampNeg = z_57.toInt from by unfold gI; rw [ez_57]] at h9_; have h8_ := phi_5 h9_ (by omega); omega)
        refine tMul (lo := 0) (hi := 360) F dX7_passes_109 (eqb hk_54) hz_57 rfl (fun z_58 hz_58 => ?_)
        have mz_58 : z_58.toInt = 12 * z_57.toInt := by rw [hz_58.1, hk_54]
        refine tAdd (lo := 288) (hi := 648) F dX7_passes_110 (eqb hk_53) hz_58.2 rfl (fun z_59 hz_59 => ?_)
        refine lv_iload_n F.1 F.2.1 dX7_passes_111 rfl (lv_at hl 1 rfl) ?_
        refine tAdd (lo := 288) (hi := 659) F dX7_passes_112 hz_59.2 r_27 rfl (fun z_60 hz_60 => ?_)
        refine lv_iconst (v := 0) F.1 F.2.1 dX7_passes_113 (by decide) ?_
        refine topK (a := 0) (by decide) (fun k_61 hk_61 => ?_)
        refine tIastX (t := 25) F hK hH hS (List.mem_singleton.mp hq_52) (by decide) rfl (ixb (n := 660) hz_60.2 rfl rfl) dX7_passes_114 (fun G_62 eG_62 H locs hH hS => ?_)
        have hH : TH E (tbM (mD (.inl tp) (.inl sp) (.inl nu) (.inl un) (.inl (0, 18)) (.inl xt) (.inl wrb) (.inl nab) (.inl iwb)) (xD 660 G_62) ws kp as rd m_second ty ik) H := hH
        have hMG_62 : okL 14 G_62 := okL.st hMG_23 eG_62 (by omega) (by omega) (by omega)
        have hG_62 : okA G_62 := (okA.st hG_23 eG_62 (by omega) (by omega) (phiI (by omega) (by omega) (by omega) (by omega) (by omega) (by omega) (by omega) (by omega) (by omega) (by omega) (by omega) (by omega) (by omega) (by omega) (by omega) (by omega) (by omega) (by omega)))
        have hBG_62 := okB hG_62
        have hqG_62 : sQ Z G_62 := sQ.st hqG_23 eG_62 (by omega)
        obtain ⟨x_63, ex_63, hx_63⟩ := iincB (c := 1) (lo := 1) (hi := 12) r_27 rfl
        refine lv_iinc (v := x_63) (lv' := [(1, .int x_63), (0, .ref a0)]) F.1 F.2.1 dX7_passes_115 hl (k := 1) rfl ex_63 (by decide) rfl (fun ls hl => ?_)
        refine lv_goto (tgt := 88) F.1 F.2.1 dX7_passes_118 (by decide) ?_
        exact ih_88 (x_63, G_62) _ _ _ ⟨(show (12 - x_63.toInt + 1).toNat < n_88 from by omega), (wkb hx_63.2 rfl rfl), hG_62, (show okL 14 G_62 from hMG_62), (show sQ Z G_62 from hqG_62), hH, hS, lv_sub hl [1, 0] rfl⟩
    · skip
      have r_19 : 0 ≤ u_13.toInt ∧ u_13.toInt ≤ 3 := by have h9_ := hu_13; omega
      have r_20 : 1 ≤ z_15.toInt ∧ z_15.toInt ≤ 4 := by have h9_ := f_16; omega
      refine lv_aload_n F.1 F.2.1 dX7_passes_39 rfl (lv_at hl 0 rfl) ?_
      refine tGetR (j := 0) F hK hH (tyb ha0 (all1 rfl)) rfl (all1 rfl) clX7 (by decide) wd_6_5 dX7_passes_40 (fun q_64 hq_64 _ => ?_)
      refine lv_sipush (v := 260) F.1 F.2.1 dX7_passes_43 (by decide) ?_
      refine topK (a := 260) (by decide) (fun k_65 hk_65 => ?_)
      refine lv_bipush (v := 7) F.1 F.2.1 dX7_passes_46 (by decide) ?_
      refine topK (a := 7) (by decide) (fun k_66 hk_66 => ?_)
      refine lv_iload_n F.1 F.2.1 dX7_passes_48 rfl (lv_at hl 1 rfl) ?_
      refine tMul (lo := 0) (hi := 21) F dX7_passes_49 (eqb hk_66) r_19 rfl (fun z_67 hz_67 => ?_)
      have mz_67 : z_67.toInt = 7 * u_13.toInt := by rw [hz_67.1, hk_66]
      refine tAdd (lo := 260) (hi := 281) F dX7_passes_50 (eqb hk_65) hz_67.2 rfl (fun z_68 hz_68 => ?_)
      refine lv_iconst (v := 4) F.1 F.2.1 dX7_passes_51 (by decide) ?_
      refine topK (a := 4) (by decide) (fun k_69 hk_69 => ?_)
      refine tAdd (lo := 264) (hi := 285) F dX7_passes_52 hz_68.2 (eqb hk_69) rfl (fun z_70 hz_70 => ?_)
      refine lv_dup2_11 F.1 F.2.1 dX7_passes_53 rfl rfl ?_
      refine tIaldX F hK hH (tyb hq_64 (all1 rfl)) (ixb (n := 660) hz_70.2 rfl rfl) dX7_passes_54 (fun z_71 ez_71 => ?_)
      refine lv_aload_n F.1 F.2.1 dX7_passes_55 rfl (lv_at hl 0 rfl) ?_
      refine tGetR (j := 18) F hK hH (tyb ha0 (all1 rfl)) rfl (all1 rfl) clX7 (by decide) wd_6_21 dX7_passes_56 (fun q_72 hq_72 _ => ?_)
      refine lv_bipush (v := 14) F.1 F.2.1 dX7_passes_59 (by decide) ?_
      refine topK (a := 14) (by decide) (fun k_73 hk_73 => ?_)
      refine lv_iload_n F.1 F.2.1 dX7_passes_61 rfl (lv_at hl 1 rfl) ?_
      refine tAdd (lo := 14) (hi := 17) F dX7_passes_62 (eqb hk_73) r_19 rfl (fun z_74 hz_74 => ?_)
      refine tIaldB F hK hH (tyb hq_72 (all1 rfl)) (ixb (n := 18) hz_74.2 rfl rfl) dX7_passes_63 (fun z_75 hz_75 => ?_)
      refine lv_aload_n F.1 F.2.1 dX7_passes_64 rfl (lv_at hl 0 rfl) ?_
      refine tGetR (j := 21) F hK hH (tyb ha0 (all1 rfl)) rfl (all1 rfl) clX7 (by decide) wd_7_0 dX7_passes_65 (fun q_76 hq_76 _ => ?_)
      refine lv_iload_n F.1 F.2.1 dX7_passes_68 rfl (lv_at hl 1 rfl) ?_
      refine tIaldB F hK hH (tyb hq_76 (all1 rfl)) (ixb (n := 4) r_19 rfl rfl) dX7_passes_69 (fun z_77 hz_77 => ?_)
      refine lv_isub F.1 F.2.1 dX7_passes_70 ?_
      refine topF (fun z_78 => ?_)
      refine lv_aload_n F.1 F.2.1 dX7_passes_71 rfl (lv_at hl 0 rfl) ?_
      refine tGetR (j := 22) F hK hH (tyb ha0 (all1 rfl)) rfl (all1 rfl) clX7 (by decide) wd_7_1 dX7_passes_72 (fun q_79 hq_79 _ => ?_)
      refine lv_iload_n F.1 F.2.1 dX7_passes_75 rfl (lv_at hl 1 rfl) ?_
      refine tIaldB F hK hH (tyb hq_79 (all1 rfl)) (ixb (n := 4) r_19 rfl rfl) dX7_passes_76 (fun z_80 hz_80 => ?_)
      refine lv_isub F.1 F.2.1 dX7_passes_77 ?_
      refine topF (fun z_81 => ?_)
      refine lv_iadd F.1 F.2.1 dX7_passes_78 ?_
      refine topF (fun z_82 => ?_)
      refine tIastX (t := 25) F hK hH hS (List.mem_singleton.mp hq_64) (by decide) rfl (ixb (n := 660) hz_70.2 rfl rfl) dX7_passes_79 (fun G_83 eG_83 H locs hH hS => ?_)
      have hH : TH E (tbM (mD (.inl tp) (.inl sp) (.inl nu) (.inl un) (.inl (0, 18)) (.inl xt) (.inl wrb) (.inl nab) (.inl iwb)) (xD 660 G_83) ws kp as rd m_second ty ik) H := hH
      have hMG_83 : okL 14 G_83 := okL.st hMG_14 eG_83 (by omega) (by omega) (by omega)
      have hG_83 : okA G_83 := (okA.st hG_14 eG_83 (by omega) (by omega) (phiI (by omega) (by omega) (by omega) (by omega) (by omega) (by omega) (by omega) (by omega) (by omega) (by omega) (by omega) (by omega) (by omega) (by omega) (by omega) (by omega) (by omega) (by omega)))
      have hBG_83 := okB hG_83
      have hqG_83 : sQ Z G_83 := sQ.st hqG_14 eG_83 (by omega)
      obtain ⟨x_84, ex_84, hx_84⟩ := iincB (c := 1) (lo := 1) (hi := 4) r_19 rfl
      refine lv_iinc (v := x_84) (lv' := [(1, .int x_84), (0, .ref a0)]) F.1 F.2.1 dX7_passes_80 hl (k := 1) rfl ex_84 (by decide) rfl (fun ls hl => ?_)
      refine lv_goto (tgt := 31) F.1 F.2.1 dX7_passes_83 (by decide) ?_
      exact ih_31 (x_84, G_83) _ _ _ ⟨(show (4 - x_84.toInt + 1).toNat < n_31 from by omega), (wkb hx_84.2 rfl rfl), hG_83, (show okL 14 G_83 from hMG_83), (show sQ Z G_83 from hqG_83), hH, hS, lv_sub hl [1, 0] rfl⟩
  · skip
    have r_10 : 0 ≤ u_4.toInt ∧ u_4.toInt ≤ 13 := by have h9_ := hu_4; omega
    have r_11 : 1 ≤ z_6.toInt ∧ z_6.toInt ≤ 14 := by have h9_ := f_7; omega
    refine lv_aload_n F.1 F.2.1 dX7_passes_18 rfl (lv_at hl 0 rfl) ?_
    refine lv_iload_n F.1 F.2.1 dX7_passes_19 rfl (lv_at hl 1 rfl) ?_
    refine tVv (b := a0) (As := [.int u_4]) (rest := []) F hK hN hO (c_X7_takesIt E ws kp as rd ty ik un (0, 18) xt tp sp wrb nu nab iwb G_5 Z a0 u_4 ha0 r_10 hG_5 hLG_5 (by omega) hqG_5) mv_X7_takesIt wd_30_6 ⟨Nat.le_of_ble_eq_true rfl, Nat.le_of_ble_eq_true rfl⟩ ⟨Nat.le_of_ble_eq_true rfl, Nat.le_of_ble_eq_true rfl⟩ hH hS (tRecv hK hH (tyb ha0 (all1 rfl)) clX7) rfl hl.1 (Nat.le_of_ble_eq_true rfl) dX7_passes_20 (fun H locs hq hS => ?_)
    obtain ⟨g_86, hg_86, hH⟩ := hq
    have hH : TH E (tbM (mD (.inl tp) (.inl sp) (.inl nu) (.inl un) (.inl (0, 18)) (.inl xt) (.inl wrb) (.inl nab) (.inl iwb)) (xD 660 g_86) ws kp as rd m_second ty ik) H := hH
    have hLg_86 := hg_86.2.1
    have hqg_86 := hg_86.2.2
    have hBg_86 := okB hg_86.1
    obtain ⟨x_87, ex_87, hx_87⟩ := iincB (c := 1) (lo := 1) (hi := 14) r_10 rfl
    refine lv_iinc (v := x_87) (lv' := [(1, .int x_87), (0, .ref a0)]) F.1 F.2.1 dX7_passes_23 hl (k := 1) rfl ex_87 (by decide) rfl (fun ls hl => ?_)
    refine lv_goto (tgt := 10) F.1 F.2.1 dX7_passes_26 (by decide) ?_
    exact ih_10 (x_87, g_86) _ _ _ ⟨(show (14 - x_87.toInt + 1).toNat < n_10 from by omega), (wkb hx_87.2 rfl rfl), hg_86.1, (show okL (x_87.toInt) g_86 from okL.cast hLg_86 (by omega)), (show sQ Z g_86 from hqg_86), hH, hS, lv_sub hl [1, 0] rfl⟩
