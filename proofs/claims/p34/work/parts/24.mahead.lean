theorem dX7_putsAside_0 : decode cX7_putsAside 0 = .ok (.iconst 0, 1) := by decide +kernel
theorem dX7_putsAside_1 : decode cX7_putsAside 1 = .ok (.istore_n 1, 1) := by decide +kernel
theorem dX7_putsAside_2 : decode cX7_putsAside 2 = .ok (.iload_n 1, 1) := by decide +kernel
theorem dX7_putsAside_3 : decode cX7_putsAside 3 = .ok (.sipush 660, 3) := by decide +kernel
theorem dX7_putsAside_6 : decode cX7_putsAside 6 = .ok (.if_icmp .ge 21, 3) := by decide +kernel
theorem dX7_putsAside_9 : decode cX7_putsAside 9 = .ok (.aload_n 0, 1) := by decide +kernel
theorem dX7_putsAside_10 : decode cX7_putsAside 10 = .ok (.getfield 33, 3) := by decide +kernel
theorem dX7_putsAside_13 : decode cX7_putsAside 13 = .ok (.iload_n 1, 1) := by decide +kernel
theorem dX7_putsAside_14 : decode cX7_putsAside 14 = .ok (.aload_n 0, 1) := by decide +kernel
theorem dX7_putsAside_15 : decode cX7_putsAside 15 = .ok (.getfield 7, 3) := by decide +kernel
theorem dX7_putsAside_18 : decode cX7_putsAside 18 = .ok (.iload_n 1, 1) := by decide +kernel
theorem dX7_putsAside_19 : decode cX7_putsAside 19 = .ok (.iaload, 1) := by decide +kernel
theorem dX7_putsAside_20 : decode cX7_putsAside 20 = .ok (.iastore, 1) := by decide +kernel
theorem dX7_putsAside_21 : decode cX7_putsAside 21 = .ok (.iinc 1 1, 3) := by decide +kernel
theorem dX7_putsAside_24 : decode cX7_putsAside 24 = .ok (.goto (-22), 3) := by decide +kernel
theorem dX7_putsAside_27 : decode cX7_putsAside 27 = .ok (.iconst 0, 1) := by decide +kernel
theorem dX7_putsAside_28 : decode cX7_putsAside 28 = .ok (.istore_n 1, 1) := by decide +kernel
theorem dX7_putsAside_29 : decode cX7_putsAside 29 = .ok (.iload_n 1, 1) := by decide +kernel
theorem dX7_putsAside_30 : decode cX7_putsAside 30 = .ok (.bipush 6, 2) := by decide +kernel
theorem dX7_putsAside_32 : decode cX7_putsAside 32 = .ok (.if_icmp .ge 21, 3) := by decide +kernel
theorem dX7_putsAside_35 : decode cX7_putsAside 35 = .ok (.aload_n 0, 1) := by decide +kernel
theorem dX7_putsAside_36 : decode cX7_putsAside 36 = .ok (.getfield 36, 3) := by decide +kernel
theorem dX7_putsAside_39 : decode cX7_putsAside 39 = .ok (.iload_n 1, 1) := by decide +kernel
theorem dX7_putsAside_40 : decode cX7_putsAside 40 = .ok (.aload_n 0, 1) := by decide +kernel
theorem dX7_putsAside_41 : decode cX7_putsAside 41 = .ok (.getfield 13, 3) := by decide +kernel
theorem dX7_putsAside_44 : decode cX7_putsAside 44 = .ok (.iload_n 1, 1) := by decide +kernel
theorem dX7_putsAside_45 : decode cX7_putsAside 45 = .ok (.laload, 1) := by decide +kernel
theorem dX7_putsAside_46 : decode cX7_putsAside 46 = .ok (.lastore, 1) := by decide +kernel
theorem dX7_putsAside_47 : decode cX7_putsAside 47 = .ok (.iinc 1 1, 3) := by decide +kernel
theorem dX7_putsAside_50 : decode cX7_putsAside 50 = .ok (.goto (-21), 3) := by decide +kernel
theorem dX7_putsAside_53 : decode cX7_putsAside 53 = .ok (.return_, 1) := by decide +kernel
theorem dX7_takesBack_0 : decode cX7_takesBack 0 = .ok (.iconst 0, 1) := by decide +kernel
theorem dX7_takesBack_1 : decode cX7_takesBack 1 = .ok (.istore_n 1, 1) := by decide +kernel
theorem dX7_takesBack_2 : decode cX7_takesBack 2 = .ok (.iload_n 1, 1) := by decide +kernel
theorem dX7_takesBack_3 : decode cX7_takesBack 3 = .ok (.sipush 660, 3) := by decide +kernel
theorem dX7_takesBack_6 : decode cX7_takesBack 6 = .ok (.if_icmp .ge 21, 3) := by decide +kernel
theorem dX7_takesBack_9 : decode cX7_takesBack 9 = .ok (.aload_n 0, 1) := by decide +kernel
theorem dX7_takesBack_10 : decode cX7_takesBack 10 = .ok (.getfield 7, 3) := by decide +kernel
theorem dX7_takesBack_13 : decode cX7_takesBack 13 = .ok (.iload_n 1, 1) := by decide +kernel
theorem dX7_takesBack_14 : decode cX7_takesBack 14 = .ok (.aload_n 0, 1) := by decide +kernel
theorem dX7_takesBack_15 : decode cX7_takesBack 15 = .ok (.getfield 33, 3) := by decide +kernel
theorem dX7_takesBack_18 : decode cX7_takesBack 18 = .ok (.iload_n 1, 1) := by decide +kernel
theorem dX7_takesBack_19 : decode cX7_takesBack 19 = .ok (.iaload, 1) := by decide +kernel
theorem dX7_takesBack_20 : decode cX7_takesBack 20 = .ok (.iastore, 1) := by decide +kernel
theorem dX7_takesBack_21 : decode cX7_takesBack 21 = .ok (.iinc 1 1, 3) := by decide +kernel
theorem dX7_takesBack_24 : decode cX7_takesBack 24 = .ok (.goto (-22), 3) := by decide +kernel
theorem dX7_takesBack_27 : decode cX7_takesBack 27 = .ok (.iconst 0, 1) := by decide +kernel
theorem dX7_takesBack_28 : decode cX7_takesBack 28 = .ok (.istore_n 1, 1) := by decide +kernel
theorem dX7_takesBack_29 : decode cX7_takesBack 29 = .ok (.iload_n 1, 1) := by decide +kernel
theorem dX7_takesBack_30 : decode cX7_takesBack 30 = .ok (.bipush 6, 2) := by decide +kernel
theorem dX7_takesBack_32 : decode cX7_takesBack 32 = .ok (.if_icmp .ge 21, 3) := by decide +kernel
theorem dX7_takesBack_35 : decode cX7_takesBack 35 = .ok (.aload_n 0, 1) := by decide +kernel
theorem dX7_takesBack_36 : decode cX7_takesBack 36 = .ok (.getfield 13, 3) := by decide +kernel
theorem dX7_takesBack_39 : decode cX7_takesBack 39 = .ok (.iload_n 1, 1) := by decide +kernel
theorem dX7_takesBack_40 : decode cX7_takesBack 40 = .ok (.aload_n 0, 1) := by decide +kernel
theorem dX7_takesBack_41 : decode cX7_takesBack 41 = .ok (.getfield 36, 3) := by decide +kernel
theorem dX7_takesBack_44 : decode cX7_takesBack 44 = .ok (.iload_n 1, 1) := by decide +kernel
theorem dX7_takesBack_45 : decode cX7_takesBack 45 = .ok (.laload, 1) := by decide +kernel
theorem dX7_takesBack_46 : decode cX7_takesBack 46 = .ok (.lastore, 1) := by decide +kernel
theorem dX7_takesBack_47 : decode cX7_takesBack 47 = .ok (.iinc 1 1, 3) := by decide +kernel
theorem dX7_takesBack_50 : decode cX7_takesBack 50 = .ok (.goto (-21), 3) := by decide +kernel
theorem dX7_takesBack_53 : decode cX7_takesBack 53 = .ok (.return_, 1) := by decide +kernel
theorem dX7_keepsAct_0 : decode cX7_keepsAct 0 = .ok (.aload_n 0, 1) := by decide +kernel
theorem dX7_keepsAct_1 : decode cX7_keepsAct 1 = .ok (.getfield 289, 3) := by decide +kernel
theorem dX7_keepsAct_4 : decode cX7_keepsAct 4 = .ok (.bipush 10, 2) := by decide +kernel
theorem dX7_keepsAct_6 : decode cX7_keepsAct 6 = .ok (.if_icmp .ne 76, 3) := by decide +kernel
theorem dX7_keepsAct_9 : decode cX7_keepsAct 9 = .ok (.sipush 660, 3) := by decide +kernel
theorem dX7_keepsAct_12 : decode cX7_keepsAct 12 = .ok (.istore_n 1, 1) := by decide +kernel
theorem dX7_keepsAct_13 : decode cX7_keepsAct 13 = .ok (.iload_n 1, 1) := by decide +kernel
theorem dX7_keepsAct_14 : decode cX7_keepsAct 14 = .ok (.sipush 6600, 3) := by decide +kernel
theorem dX7_keepsAct_17 : decode cX7_keepsAct 17 = .ok (.if_icmp .ge 25, 3) := by decide +kernel
theorem dX7_keepsAct_20 : decode cX7_keepsAct 20 = .ok (.aload_n 0, 1) := by decide +kernel
theorem dX7_keepsAct_21 : decode cX7_keepsAct 21 = .ok (.getfield 17, 3) := by decide +kernel
theorem dX7_keepsAct_24 : decode cX7_keepsAct 24 = .ok (.iload_n 1, 1) := by decide +kernel
theorem dX7_keepsAct_25 : decode cX7_keepsAct 25 = .ok (.sipush 660, 3) := by decide +kernel
theorem dX7_keepsAct_28 : decode cX7_keepsAct 28 = .ok (.isub, 1) := by decide +kernel
theorem dX7_keepsAct_29 : decode cX7_keepsAct 29 = .ok (.aload_n 0, 1) := by decide +kernel
theorem dX7_keepsAct_30 : decode cX7_keepsAct 30 = .ok (.getfield 17, 3) := by decide +kernel
theorem dX7_keepsAct_33 : decode cX7_keepsAct 33 = .ok (.iload_n 1, 1) := by decide +kernel
theorem dX7_keepsAct_34 : decode cX7_keepsAct 34 = .ok (.iaload, 1) := by decide +kernel
theorem dX7_keepsAct_35 : decode cX7_keepsAct 35 = .ok (.iastore, 1) := by decide +kernel
theorem dX7_keepsAct_36 : decode cX7_keepsAct 36 = .ok (.iinc 1 1, 3) := by decide +kernel
theorem dX7_keepsAct_39 : decode cX7_keepsAct 39 = .ok (.goto (-26), 3) := by decide +kernel
theorem dX7_keepsAct_42 : decode cX7_keepsAct 42 = .ok (.bipush 6, 2) := by decide +kernel
theorem dX7_keepsAct_44 : decode cX7_keepsAct 44 = .ok (.istore_n 1, 1) := by decide +kernel
theorem dX7_keepsAct_45 : decode cX7_keepsAct 45 = .ok (.iload_n 1, 1) := by decide +kernel
theorem dX7_keepsAct_46 : decode cX7_keepsAct 46 = .ok (.bipush 60, 2) := by decide +kernel
theorem dX7_keepsAct_48 : decode cX7_keepsAct 48 = .ok (.if_icmp .ge 24, 3) := by decide +kernel
theorem dX7_keepsAct_51 : decode cX7_keepsAct 51 = .ok (.aload_n 0, 1) := by decide +kernel
theorem dX7_keepsAct_52 : decode cX7_keepsAct 52 = .ok (.getfield 20, 3) := by decide +kernel
theorem dX7_keepsAct_55 : decode cX7_keepsAct 55 = .ok (.iload_n 1, 1) := by decide +kernel
theorem dX7_keepsAct_56 : decode cX7_keepsAct 56 = .ok (.bipush 6, 2) := by decide +kernel
theorem dX7_keepsAct_58 : decode cX7_keepsAct 58 = .ok (.isub, 1) := by decide +kernel
theorem dX7_keepsAct_59 : decode cX7_keepsAct 59 = .ok (.aload_n 0, 1) := by decide +kernel
theorem dX7_keepsAct_60 : decode cX7_keepsAct 60 = .ok (.getfield 20, 3) := by decide +kernel
theorem dX7_keepsAct_63 : decode cX7_keepsAct 63 = .ok (.iload_n 1, 1) := by decide +kernel
theorem dX7_keepsAct_64 : decode cX7_keepsAct 64 = .ok (.laload, 1) := by decide +kernel
theorem dX7_keepsAct_65 : decode cX7_keepsAct 65 = .ok (.lastore, 1) := by decide +kernel
theorem dX7_keepsAct_66 : decode cX7_keepsAct 66 = .ok (.iinc 1 1, 3) := by decide +kernel
theorem dX7_keepsAct_69 : decode cX7_keepsAct 69 = .ok (.goto (-24), 3) := by decide +kernel
theorem dX7_keepsAct_72 : decode cX7_keepsAct 72 = .ok (.aload_n 0, 1) := by decide +kernel
theorem dX7_keepsAct_73 : decode cX7_keepsAct 73 = .ok (.dup, 1) := by decide +kernel
theorem dX7_keepsAct_74 : decode cX7_keepsAct 74 = .ok (.getfield 289, 3) := by decide +kernel
theorem dX7_keepsAct_77 : decode cX7_keepsAct 77 = .ok (.iconst 1, 1) := by decide +kernel
theorem dX7_keepsAct_78 : decode cX7_keepsAct 78 = .ok (.isub, 1) := by decide +kernel
theorem dX7_keepsAct_79 : decode cX7_keepsAct 79 = .ok (.putfield 289, 3) := by decide +kernel
theorem dX7_keepsAct_82 : decode cX7_keepsAct 82 = .ok (.iconst 0, 1) := by decide +kernel
theorem dX7_keepsAct_83 : decode cX7_keepsAct 83 = .ok (.istore_n 1, 1) := by decide +kernel
theorem dX7_keepsAct_84 : decode cX7_keepsAct 84 = .ok (.iload_n 1, 1) := by decide +kernel
theorem dX7_keepsAct_85 : decode cX7_keepsAct 85 = .ok (.sipush 660, 3) := by decide +kernel
theorem dX7_keepsAct_88 : decode cX7_keepsAct 88 = .ok (.if_icmp .ge 30, 3) := by decide +kernel
theorem dX7_keepsAct_91 : decode cX7_keepsAct 91 = .ok (.aload_n 0, 1) := by decide +kernel
theorem dX7_keepsAct_92 : decode cX7_keepsAct 92 = .ok (.getfield 17, 3) := by decide +kernel
theorem dX7_keepsAct_95 : decode cX7_keepsAct 95 = .ok (.sipush 660, 3) := by decide +kernel
theorem dX7_keepsAct_98 : decode cX7_keepsAct 98 = .ok (.aload_n 0, 1) := by decide +kernel
theorem dX7_keepsAct_99 : decode cX7_keepsAct 99 = .ok (.getfield 289, 3) := by decide +kernel
theorem dX7_keepsAct_102 : decode cX7_keepsAct 102 = .ok (.imul, 1) := by decide +kernel
theorem dX7_keepsAct_103 : decode cX7_keepsAct 103 = .ok (.iload_n 1, 1) := by decide +kernel
theorem dX7_keepsAct_104 : decode cX7_keepsAct 104 = .ok (.iadd, 1) := by decide +kernel
theorem dX7_keepsAct_105 : decode cX7_keepsAct 105 = .ok (.aload_n 0, 1) := by decide +kernel
theorem dX7_keepsAct_106 : decode cX7_keepsAct 106 = .ok (.getfield 7, 3) := by decide +kernel
theorem dX7_keepsAct_109 : decode cX7_keepsAct 109 = .ok (.iload_n 1, 1) := by decide +kernel
theorem dX7_keepsAct_110 : decode cX7_keepsAct 110 = .ok (.iaload, 1) := by decide +kernel
theorem dX7_keepsAct_111 : decode cX7_keepsAct 111 = .ok (.iastore, 1) := by decide +kernel
theorem dX7_keepsAct_112 : decode cX7_keepsAct 112 = .ok (.iinc 1 1, 3) := by decide +kernel
theorem dX7_keepsAct_115 : decode cX7_keepsAct 115 = .ok (.goto (-31), 3) := by decide +kernel
theorem dX7_keepsAct_118 : decode cX7_keepsAct 118 = .ok (.iconst 0, 1) := by decide +kernel
theorem dX7_keepsAct_119 : decode cX7_keepsAct 119 = .ok (.istore_n 1, 1) := by decide +kernel
theorem dX7_keepsAct_120 : decode cX7_keepsAct 120 = .ok (.iload_n 1, 1) := by decide +kernel
theorem dX7_keepsAct_121 : decode cX7_keepsAct 121 = .ok (.bipush 6, 2) := by decide +kernel
theorem dX7_keepsAct_123 : decode cX7_keepsAct 123 = .ok (.if_icmp .ge 29, 3) := by decide +kernel
theorem dX7_keepsAct_126 : decode cX7_keepsAct 126 = .ok (.aload_n 0, 1) := by decide +kernel
theorem dX7_keepsAct_127 : decode cX7_keepsAct 127 = .ok (.getfield 20, 3) := by decide +kernel
theorem dX7_keepsAct_130 : decode cX7_keepsAct 130 = .ok (.bipush 6, 2) := by decide +kernel
theorem dX7_keepsAct_132 : decode cX7_keepsAct 132 = .ok (.aload_n 0, 1) := by decide +kernel
theorem dX7_keepsAct_133 : decode cX7_keepsAct 133 = .ok (.getfield 289, 3) := by decide +kernel
theorem dX7_keepsAct_136 : decode cX7_keepsAct 136 = .ok (.imul, 1) := by decide +kernel
theorem dX7_keepsAct_137 : decode cX7_keepsAct 137 = .ok (.iload_n 1, 1) := by decide +kernel
theorem dX7_keepsAct_138 : decode cX7_keepsAct 138 = .ok (.iadd, 1) := by decide +kernel
theorem dX7_keepsAct_139 : decode cX7_keepsAct 139 = .ok (.aload_n 0, 1) := by decide +kernel
theorem dX7_keepsAct_140 : decode cX7_keepsAct 140 = .ok (.getfield 13, 3) := by decide +kernel
theorem dX7_keepsAct_143 : decode cX7_keepsAct 143 = .ok (.iload_n 1, 1) := by decide +kernel
theorem dX7_keepsAct_144 : decode cX7_keepsAct 144 = .ok (.laload, 1) := by decide +kernel
theorem dX7_keepsAct_145 : decode cX7_keepsAct 145 = .ok (.lastore, 1) := by decide +kernel
theorem dX7_keepsAct_146 : decode cX7_keepsAct 146 = .ok (.iinc 1 1, 3) := by decide +kernel
theorem dX7_keepsAct_149 : decode cX7_keepsAct 149 = .ok (.goto (-29), 3) := by decide +kernel
theorem dX7_keepsAct_152 : decode cX7_keepsAct 152 = .ok (.aload_n 0, 1) := by decide +kernel
theorem dX7_keepsAct_153 : decode cX7_keepsAct 153 = .ok (.dup, 1) := by decide +kernel
theorem dX7_keepsAct_154 : decode cX7_keepsAct 154 = .ok (.getfield 289, 3) := by decide +kernel
theorem dX7_keepsAct_157 : decode cX7_keepsAct 157 = .ok (.iconst 1, 1) := by decide +kernel
theorem dX7_keepsAct_158 : decode cX7_keepsAct 158 = .ok (.iadd, 1) := by decide +kernel
theorem dX7_keepsAct_159 : decode cX7_keepsAct 159 = .ok (.putfield 289, 3) := by decide +kernel
theorem dX7_keepsAct_162 : decode cX7_keepsAct 162 = .ok (.return_, 1) := by decide +kernel
theorem dX7_undo_0 : decode cX7_undo 0 = .ok (.aload_n 0, 1) := by decide +kernel
theorem dX7_undo_1 : decode cX7_undo 1 = .ok (.getfield 289, 3) := by decide +kernel
theorem dX7_undo_4 : decode cX7_undo 4 = .ok (.ifCond .ne 5, 3) := by decide +kernel
theorem dX7_undo_7 : decode cX7_undo 7 = .ok (.iconst (-1), 1) := by decide +kernel
theorem dX7_undo_8 : decode cX7_undo 8 = .ok (.ireturn, 1) := by decide +kernel
theorem dX7_undo_9 : decode cX7_undo 9 = .ok (.aload_n 0, 1) := by decide +kernel
theorem dX7_undo_10 : decode cX7_undo 10 = .ok (.dup, 1) := by decide +kernel
theorem dX7_undo_11 : decode cX7_undo 11 = .ok (.getfield 289, 3) := by decide +kernel
theorem dX7_undo_14 : decode cX7_undo 14 = .ok (.iconst 1, 1) := by decide +kernel
theorem dX7_undo_15 : decode cX7_undo 15 = .ok (.isub, 1) := by decide +kernel
theorem dX7_undo_16 : decode cX7_undo 16 = .ok (.putfield 289, 3) := by decide +kernel
theorem dX7_undo_19 : decode cX7_undo 19 = .ok (.iconst 0, 1) := by decide +kernel
theorem dX7_undo_20 : decode cX7_undo 20 = .ok (.istore_n 1, 1) := by decide +kernel
theorem dX7_undo_21 : decode cX7_undo 21 = .ok (.iload_n 1, 1) := by decide +kernel
theorem dX7_undo_22 : decode cX7_undo 22 = .ok (.sipush 660, 3) := by decide +kernel
theorem dX7_undo_25 : decode cX7_undo 25 = .ok (.if_icmp .ge 30, 3) := by decide +kernel
theorem dX7_undo_28 : decode cX7_undo 28 = .ok (.aload_n 0, 1) := by decide +kernel
theorem dX7_undo_29 : decode cX7_undo 29 = .ok (.getfield 7, 3) := by decide +kernel
theorem dX7_undo_32 : decode cX7_undo 32 = .ok (.iload_n 1, 1) := by decide +kernel
theorem dX7_undo_33 : decode cX7_undo 33 = .ok (.aload_n 0, 1) := by decide +kernel
theorem dX7_undo_34 : decode cX7_undo 34 = .ok (.getfield 17, 3) := by decide +kernel
theorem dX7_undo_37 : decode cX7_undo 37 = .ok (.sipush 660, 3) := by decide +kernel
theorem dX7_undo_40 : decode cX7_undo 40 = .ok (.aload_n 0, 1) := by decide +kernel
theorem dX7_undo_41 : decode cX7_undo 41 = .ok (.getfield 289, 3) := by decide +kernel
theorem dX7_undo_44 : decode cX7_undo 44 = .ok (.imul, 1) := by decide +kernel
theorem dX7_undo_45 : decode cX7_undo 45 = .ok (.iload_n 1, 1) := by decide +kernel
theorem dX7_undo_46 : decode cX7_undo 46 = .ok (.iadd, 1) := by decide +kernel
theorem dX7_undo_47 : decode cX7_undo 47 = .ok (.iaload, 1) := by decide +kernel
theorem dX7_undo_48 : decode cX7_undo 48 = .ok (.iastore, 1) := by decide +kernel
theorem dX7_undo_49 : decode cX7_undo 49 = .ok (.iinc 1 1, 3) := by decide +kernel
theorem dX7_undo_52 : decode cX7_undo 52 = .ok (.goto (-31), 3) := by decide +kernel
theorem dX7_undo_55 : decode cX7_undo 55 = .ok (.iconst 0, 1) := by decide +kernel
theorem dX7_undo_56 : decode cX7_undo 56 = .ok (.istore_n 1, 1) := by decide +kernel
theorem dX7_undo_57 : decode cX7_undo 57 = .ok (.iload_n 1, 1) := by decide +kernel
theorem dX7_undo_58 : decode cX7_undo 58 = .ok (.bipush 6, 2) := by decide +kernel
theorem dX7_undo_60 : decode cX7_undo 60 = .ok (.if_icmp .ge 29, 3) := by decide +kernel
theorem dX7_undo_63 : decode cX7_undo 63 = .ok (.aload_n 0, 1) := by decide +kernel
theorem dX7_undo_64 : decode cX7_undo 64 = .ok (.getfield 13, 3) := by decide +kernel
theorem dX7_undo_67 : decode cX7_undo 67 = .ok (.iload_n 1, 1) := by decide +kernel
theorem dX7_undo_68 : decode cX7_undo 68 = .ok (.aload_n 0, 1) := by decide +kernel
theorem dX7_undo_69 : decode cX7_undo 69 = .ok (.getfield 20, 3) := by decide +kernel
theorem dX7_undo_72 : decode cX7_undo 72 = .ok (.bipush 6, 2) := by decide +kernel
theorem dX7_undo_74 : decode cX7_undo 74 = .ok (.aload_n 0, 1) := by decide +kernel
theorem dX7_undo_75 : decode cX7_undo 75 = .ok (.getfield 289, 3) := by decide +kernel
theorem dX7_undo_78 : decode cX7_undo 78 = .ok (.imul, 1) := by decide +kernel
theorem dX7_undo_79 : decode cX7_undo 79 = .ok (.iload_n 1, 1) := by decide +kernel
theorem dX7_undo_80 : decode cX7_undo 80 = .ok (.iadd, 1) := by decide +kernel
theorem dX7_undo_81 : decode cX7_undo 81 = .ok (.laload, 1) := by decide +kernel
theorem dX7_undo_82 : decode cX7_undo 82 = .ok (.lastore, 1) := by decide +kernel
theorem dX7_undo_83 : decode cX7_undo 83 = .ok (.iinc 1 1, 3) := by decide +kernel
theorem dX7_undo_86 : decode cX7_undo 86 = .ok (.goto (-29), 3) := by decide +kernel
theorem dX7_undo_89 : decode cX7_undo 89 = .ok (.aload_n 0, 1) := by decide +kernel
theorem dX7_undo_90 : decode cX7_undo 90 = .ok (.getfield 289, 3) := by decide +kernel
theorem dX7_undo_93 : decode cX7_undo 93 = .ok (.ireturn, 1) := by decide +kernel
theorem dX7_keep_0 : decode cX7_keep 0 = .ok (.iload_n 1, 1) := by decide +kernel
theorem dX7_keep_1 : decode cX7_keep 1 = .ok (.i2l, 1) := by decide +kernel
theorem dX7_keep_2 : decode cX7_keep 2 = .ok (.lconst 0, 1) := by decide +kernel
theorem dX7_keep_3 : decode cX7_keep 3 = .ok (.lconst 1, 1) := by decide +kernel
theorem dX7_keep_4 : decode cX7_keep 4 = .ok (.invokestatic 96, 3) := by decide +kernel
theorem dX7_keep_7 : decode cX7_keep 7 = .ok (.ifCond .ne 5, 3) := by decide +kernel
theorem dX7_keep_10 : decode cX7_keep 10 = .ok (.iconst (-1), 1) := by decide +kernel
theorem dX7_keep_11 : decode cX7_keep 11 = .ok (.ireturn, 1) := by decide +kernel
theorem dX7_keep_12 : decode cX7_keep 12 = .ok (.iconst 0, 1) := by decide +kernel
theorem dX7_keep_13 : decode cX7_keep 13 = .ok (.istore_n 2, 1) := by decide +kernel
theorem dX7_keep_14 : decode cX7_keep 14 = .ok (.iload_n 2, 1) := by decide +kernel
theorem dX7_keep_15 : decode cX7_keep 15 = .ok (.sipush 660, 3) := by decide +kernel
theorem dX7_keep_18 : decode cX7_keep 18 = .ok (.if_icmp .ge 27, 3) := by decide +kernel
theorem dX7_keep_21 : decode cX7_keep 21 = .ok (.aload_n 0, 1) := by decide +kernel
theorem dX7_keep_22 : decode cX7_keep 22 = .ok (.getfield 23, 3) := by decide +kernel
theorem dX7_keep_25 : decode cX7_keep 25 = .ok (.sipush 660, 3) := by decide +kernel
theorem dX7_keep_28 : decode cX7_keep 28 = .ok (.iload_n 1, 1) := by decide +kernel
theorem dX7_keep_29 : decode cX7_keep 29 = .ok (.imul, 1) := by decide +kernel
theorem dX7_keep_30 : decode cX7_keep 30 = .ok (.iload_n 2, 1) := by decide +kernel
theorem dX7_keep_31 : decode cX7_keep 31 = .ok (.iadd, 1) := by decide +kernel
theorem dX7_keep_32 : decode cX7_keep 32 = .ok (.aload_n 0, 1) := by decide +kernel
theorem dX7_keep_33 : decode cX7_keep 33 = .ok (.getfield 7, 3) := by decide +kernel
theorem dX7_keep_36 : decode cX7_keep 36 = .ok (.iload_n 2, 1) := by decide +kernel
theorem dX7_keep_37 : decode cX7_keep 37 = .ok (.iaload, 1) := by decide +kernel
theorem dX7_keep_38 : decode cX7_keep 38 = .ok (.iastore, 1) := by decide +kernel
theorem dX7_keep_39 : decode cX7_keep 39 = .ok (.iinc 2 1, 3) := by decide +kernel
theorem dX7_keep_42 : decode cX7_keep 42 = .ok (.goto (-28), 3) := by decide +kernel
theorem dX7_keep_45 : decode cX7_keep 45 = .ok (.iconst 0, 1) := by decide +kernel
theorem dX7_keep_46 : decode cX7_keep 46 = .ok (.istore_n 2, 1) := by decide +kernel
theorem dX7_keep_47 : decode cX7_keep 47 = .ok (.iload_n 2, 1) := by decide +kernel
theorem dX7_keep_48 : decode cX7_keep 48 = .ok (.bipush 6, 2) := by decide +kernel
theorem dX7_keep_50 : decode cX7_keep 50 = .ok (.if_icmp .ge 26, 3) := by decide +kernel
theorem dX7_keep_53 : decode cX7_keep 53 = .ok (.aload_n 0, 1) := by decide +kernel
theorem dX7_keep_54 : decode cX7_keep 54 = .ok (.getfield 26, 3) := by decide +kernel
theorem dX7_keep_57 : decode cX7_keep 57 = .ok (.bipush 6, 2) := by decide +kernel
theorem dX7_keep_59 : decode cX7_keep 59 = .ok (.iload_n 1, 1) := by decide +kernel
theorem dX7_keep_60 : decode cX7_keep 60 = .ok (.imul, 1) := by decide +kernel
theorem dX7_keep_61 : decode cX7_keep 61 = .ok (.iload_n 2, 1) := by decide +kernel
theorem dX7_keep_62 : decode cX7_keep 62 = .ok (.iadd, 1) := by decide +kernel
theorem dX7_keep_63 : decode cX7_keep 63 = .ok (.aload_n 0, 1) := by decide +kernel
theorem dX7_keep_64 : decode cX7_keep 64 = .ok (.getfield 13, 3) := by decide +kernel
theorem dX7_keep_67 : decode cX7_keep 67 = .ok (.iload_n 2, 1) := by decide +kernel
theorem dX7_keep_68 : decode cX7_keep 68 = .ok (.laload, 1) := by decide +kernel
theorem dX7_keep_69 : decode cX7_keep 69 = .ok (.lastore, 1) := by decide +kernel
theorem dX7_keep_70 : decode cX7_keep 70 = .ok (.iinc 2 1, 3) := by decide +kernel
theorem dX7_keep_73 : decode cX7_keep 73 = .ok (.goto (-26), 3) := by decide +kernel
theorem dX7_keep_76 : decode cX7_keep 76 = .ok (.aload_n 0, 1) := by decide +kernel
theorem dX7_keep_77 : decode cX7_keep 77 = .ok (.getfield 29, 3) := by decide +kernel
theorem dX7_keep_80 : decode cX7_keep 80 = .ok (.iload_n 1, 1) := by decide +kernel
theorem dX7_keep_81 : decode cX7_keep 81 = .ok (.iconst 1, 1) := by decide +kernel
theorem dX7_keep_82 : decode cX7_keep 82 = .ok (.bastore, 1) := by decide +kernel
theorem dX7_keep_83 : decode cX7_keep 83 = .ok (.aload_n 0, 1) := by decide +kernel
theorem dX7_keep_84 : decode cX7_keep 84 = .ok (.getfield 7, 3) := by decide +kernel
theorem dX7_keep_87 : decode cX7_keep 87 = .ok (.iconst 3, 1) := by decide +kernel
theorem dX7_keep_88 : decode cX7_keep 88 = .ok (.iaload, 1) := by decide +kernel
theorem dX7_keep_89 : decode cX7_keep 89 = .ok (.ireturn, 1) := by decide +kernel
theorem dX7_back_0 : decode cX7_back 0 = .ok (.iload_n 1, 1) := by decide +kernel
theorem dX7_back_1 : decode cX7_back 1 = .ok (.i2l, 1) := by decide +kernel
theorem dX7_back_2 : decode cX7_back 2 = .ok (.lconst 0, 1) := by decide +kernel
theorem dX7_back_3 : decode cX7_back 3 = .ok (.lconst 1, 1) := by decide +kernel
theorem dX7_back_4 : decode cX7_back 4 = .ok (.invokestatic 96, 3) := by decide +kernel
theorem dX7_back_7 : decode cX7_back 7 = .ok (.ifCond .ne 5, 3) := by decide +kernel
theorem dX7_back_10 : decode cX7_back 10 = .ok (.iconst (-1), 1) := by decide +kernel
theorem dX7_back_11 : decode cX7_back 11 = .ok (.ireturn, 1) := by decide +kernel
theorem dX7_back_12 : decode cX7_back 12 = .ok (.aload_n 0, 1) := by decide +kernel
theorem dX7_back_13 : decode cX7_back 13 = .ok (.getfield 29, 3) := by decide +kernel
theorem dX7_back_16 : decode cX7_back 16 = .ok (.iload_n 1, 1) := by decide +kernel
theorem dX7_back_17 : decode cX7_back 17 = .ok (.baload, 1) := by decide +kernel
theorem dX7_back_18 : decode cX7_back 18 = .ok (.ifCond .ne 6, 3) := by decide +kernel
theorem dX7_back_21 : decode cX7_back 21 = .ok (.bipush (-2), 2) := by decide +kernel
theorem dX7_back_23 : decode cX7_back 23 = .ok (.ireturn, 1) := by decide +kernel
theorem dX7_back_24 : decode cX7_back 24 = .ok (.iconst 0, 1) := by decide +kernel
theorem dX7_back_25 : decode cX7_back 25 = .ok (.istore_n 2, 1) := by decide +kernel
theorem dX7_back_26 : decode cX7_back 26 = .ok (.iload_n 2, 1) := by decide +kernel
theorem dX7_back_27 : decode cX7_back 27 = .ok (.sipush 660, 3) := by decide +kernel
theorem dX7_back_30 : decode cX7_back 30 = .ok (.if_icmp .ge 27, 3) := by decide +kernel
theorem dX7_back_33 : decode cX7_back 33 = .ok (.aload_n 0, 1) := by decide +kernel
theorem dX7_back_34 : decode cX7_back 34 = .ok (.getfield 7, 3) := by decide +kernel
theorem dX7_back_37 : decode cX7_back 37 = .ok (.iload_n 2, 1) := by decide +kernel
theorem dX7_back_38 : decode cX7_back 38 = .ok (.aload_n 0, 1) := by decide +kernel
theorem dX7_back_39 : decode cX7_back 39 = .ok (.getfield 23, 3) := by decide +kernel
theorem dX7_back_42 : decode cX7_back 42 = .ok (.sipush 660, 3) := by decide +kernel
theorem dX7_back_45 : decode cX7_back 45 = .ok (.iload_n 1, 1) := by decide +kernel
theorem dX7_back_46 : decode cX7_back 46 = .ok (.imul, 1) := by decide +kernel
theorem dX7_back_47 : decode cX7_back 47 = .ok (.iload_n 2, 1) := by decide +kernel
theorem dX7_back_48 : decode cX7_back 48 = .ok (.iadd, 1) := by decide +kernel
theorem dX7_back_49 : decode cX7_back 49 = .ok (.iaload, 1) := by decide +kernel
theorem dX7_back_50 : decode cX7_back 50 = .ok (.iastore, 1) := by decide +kernel
theorem dX7_back_51 : decode cX7_back 51 = .ok (.iinc 2 1, 3) := by decide +kernel
theorem dX7_back_54 : decode cX7_back 54 = .ok (.goto (-28), 3) := by decide +kernel
theorem dX7_back_57 : decode cX7_back 57 = .ok (.iconst 0, 1) := by decide +kernel
theorem dX7_back_58 : decode cX7_back 58 = .ok (.istore_n 2, 1) := by decide +kernel
theorem dX7_back_59 : decode cX7_back 59 = .ok (.iload_n 2, 1) := by decide +kernel
theorem dX7_back_60 : decode cX7_back 60 = .ok (.bipush 6, 2) := by decide +kernel
theorem dX7_back_62 : decode cX7_back 62 = .ok (.if_icmp .ge 26, 3) := by decide +kernel
theorem dX7_back_65 : decode cX7_back 65 = .ok (.aload_n 0, 1) := by decide +kernel
theorem dX7_back_66 : decode cX7_back 66 = .ok (.getfield 13, 3) := by decide +kernel
theorem dX7_back_69 : decode cX7_back 69 = .ok (.iload_n 2, 1) := by decide +kernel
theorem dX7_back_70 : decode cX7_back 70 = .ok (.aload_n 0, 1) := by decide +kernel
theorem dX7_back_71 : decode cX7_back 71 = .ok (.getfield 26, 3) := by decide +kernel
theorem dX7_back_74 : decode cX7_back 74 = .ok (.bipush 6, 2) := by decide +kernel
theorem dX7_back_76 : decode cX7_back 76 = .ok (.iload_n 1, 1) := by decide +kernel
theorem dX7_back_77 : decode cX7_back 77 = .ok (.imul, 1) := by decide +kernel
theorem dX7_back_78 : decode cX7_back 78 = .ok (.iload_n 2, 1) := by decide +kernel
theorem dX7_back_79 : decode cX7_back 79 = .ok (.iadd, 1) := by decide +kernel
theorem dX7_back_80 : decode cX7_back 80 = .ok (.laload, 1) := by decide +kernel
theorem dX7_back_81 : decode cX7_back 81 = .ok (.lastore, 1) := by decide +kernel
theorem dX7_back_82 : decode cX7_back 82 = .ok (.iinc 2 1, 3) := by decide +kernel
theorem dX7_back_85 : decode cX7_back 85 = .ok (.goto (-26), 3) := by decide +kernel
theorem dX7_back_88 : decode cX7_back 88 = .ok (.aload_n 0, 1) := by decide +kernel
theorem dX7_back_89 : decode cX7_back 89 = .ok (.iconst 0, 1) := by decide +kernel
theorem dX7_back_90 : decode cX7_back 90 = .ok (.putfield 289, 3) := by decide +kernel
theorem dX7_back_93 : decode cX7_back 93 = .ok (.aload_n 0, 1) := by decide +kernel
theorem dX7_back_94 : decode cX7_back 94 = .ok (.getfield 7, 3) := by decide +kernel
theorem dX7_back_97 : decode cX7_back 97 = .ok (.iconst 3, 1) := by decide +kernel
theorem dX7_back_98 : decode cX7_back 98 = .ok (.iaload, 1) := by decide +kernel
theorem dX7_back_99 : decode cX7_back 99 = .ok (.ireturn, 1) := by decide +kernel
theorem dX7_ahead_0 : decode cX7_ahead 0 = .ok (.iconst 0, 1) := by decide +kernel
theorem dX7_ahead_1 : decode cX7_ahead 1 = .ok (.istore_n 3, 1) := by decide +kernel
theorem dX7_ahead_2 : decode cX7_ahead 2 = .ok (.iload_n 3, 1) := by decide +kernel
theorem dX7_ahead_3 : decode cX7_ahead 3 = .ok (.bipush 14, 2) := by decide +kernel
theorem dX7_ahead_5 : decode cX7_ahead 5 = .ok (.if_icmp .ge 13, 3) := by decide +kernel
theorem dX7_ahead_8 : decode cX7_ahead 8 = .ok (.aload_n 2, 1) := by decide +kernel
theorem dX7_ahead_9 : decode cX7_ahead 9 = .ok (.iload_n 3, 1) := by decide +kernel
theorem dX7_ahead_10 : decode cX7_ahead 10 = .ok (.iconst 0, 1) := by decide +kernel
theorem dX7_ahead_11 : decode cX7_ahead 11 = .ok (.iastore, 1) := by decide +kernel
theorem dX7_ahead_12 : decode cX7_ahead 12 = .ok (.iinc 3 1, 3) := by decide +kernel
theorem dX7_ahead_15 : decode cX7_ahead 15 = .ok (.goto (-13), 3) := by decide +kernel
theorem dX7_ahead_18 : decode cX7_ahead 18 = .ok (.iconst 0, 1) := by decide +kernel
theorem dX7_ahead_19 : decode cX7_ahead 19 = .ok (.istore_n 3, 1) := by decide +kernel
theorem dX7_ahead_20 : decode cX7_ahead 20 = .ok (.iload_n 3, 1) := by decide +kernel
theorem dX7_ahead_21 : decode cX7_ahead 21 = .ok (.iload_n 1, 1) := by decide +kernel
theorem dX7_ahead_22 : decode cX7_ahead 22 = .ok (.if_icmp .ge 44, 3) := by decide +kernel
theorem dX7_ahead_25 : decode cX7_ahead 25 = .ok (.aload_n 0, 1) := by decide +kernel
theorem dX7_ahead_26 : decode cX7_ahead 26 = .ok (.invokevirtual 214, 3) := by decide +kernel
theorem dX7_ahead_29 : decode cX7_ahead 29 = .ok (.iconst 0, 1) := by decide +kernel
theorem dX7_ahead_30 : decode cX7_ahead 30 = .ok (.istore 4, 2) := by decide +kernel
theorem dX7_ahead_32 : decode cX7_ahead 32 = .ok (.iload 4, 2) := by decide +kernel
theorem dX7_ahead_34 : decode cX7_ahead 34 = .ok (.aload_n 0, 1) := by decide +kernel
theorem dX7_ahead_35 : decode cX7_ahead 35 = .ok (.invokevirtual 100, 3) := by decide +kernel
theorem dX7_ahead_38 : decode cX7_ahead 38 = .ok (.if_icmp .ge 22, 3) := by decide +kernel
theorem dX7_ahead_41 : decode cX7_ahead 41 = .ok (.aload_n 2, 1) := by decide +kernel
theorem dX7_ahead_42 : decode cX7_ahead 42 = .ok (.iload 4, 2) := by decide +kernel
theorem dX7_ahead_44 : decode cX7_ahead 44 = .ok (.dup2, 1) := by decide +kernel
theorem dX7_ahead_45 : decode cX7_ahead 45 = .ok (.iaload, 1) := by decide +kernel
theorem dX7_ahead_46 : decode cX7_ahead 46 = .ok (.aload_n 0, 1) := by decide +kernel
theorem dX7_ahead_47 : decode cX7_ahead 47 = .ok (.iload 4, 2) := by decide +kernel
theorem dX7_ahead_49 : decode cX7_ahead 49 = .ok (.invokevirtual 183, 3) := by decide +kernel
theorem dX7_ahead_52 : decode cX7_ahead 52 = .ok (.iadd, 1) := by decide +kernel
theorem dX7_ahead_53 : decode cX7_ahead 53 = .ok (.iastore, 1) := by decide +kernel
theorem dX7_ahead_54 : decode cX7_ahead 54 = .ok (.iinc 4 1, 3) := by decide +kernel
theorem dX7_ahead_57 : decode cX7_ahead 57 = .ok (.goto (-25), 3) := by decide +kernel
theorem dX7_ahead_60 : decode cX7_ahead 60 = .ok (.iinc 3 1, 3) := by decide +kernel
theorem dX7_ahead_63 : decode cX7_ahead 63 = .ok (.goto (-43), 3) := by decide +kernel
theorem dX7_ahead_66 : decode cX7_ahead 66 = .ok (.aload_n 0, 1) := by decide +kernel
theorem dX7_ahead_67 : decode cX7_ahead 67 = .ok (.invokevirtual 217, 3) := by decide +kernel
theorem dX7_ahead_70 : decode cX7_ahead 70 = .ok (.return_, 1) := by decide +kernel
theorem dX7_stays_0 : decode cX7_stays 0 = .ok (.aload_n 0, 1) := by decide +kernel
theorem dX7_stays_1 : decode cX7_stays 1 = .ok (.invokevirtual 255, 3) := by decide +kernel
theorem dX7_stays_4 : decode cX7_stays 4 = .ok (.aload_n 0, 1) := by decide +kernel
theorem dX7_stays_5 : decode cX7_stays 5 = .ok (.sipush 360, 3) := by decide +kernel
theorem dX7_stays_8 : decode cX7_stays 8 = .ok (.aload_n 0, 1) := by decide +kernel
theorem dX7_stays_9 : decode cX7_stays 9 = .ok (.getfield 73, 3) := by decide +kernel
theorem dX7_stays_12 : decode cX7_stays 12 = .ok (.invokevirtual 259, 3) := by decide +kernel
theorem dX7_stays_15 : decode cX7_stays 15 = .ok (.return_, 1) := by decide +kernel
theorem dX7_moves_0 : decode cX7_moves 0 = .ok (.aload_n 0, 1) := by decide +kernel
theorem dX7_moves_1 : decode cX7_moves 1 = .ok (.invokevirtual 255, 3) := by decide +kernel
theorem dX7_moves_4 : decode cX7_moves 4 = .ok (.aload_n 0, 1) := by decide +kernel
theorem dX7_moves_5 : decode cX7_moves 5 = .ok (.getfield 7, 3) := by decide +kernel
theorem dX7_moves_8 : decode cX7_moves 8 = .ok (.bipush 78, 2) := by decide +kernel
theorem dX7_moves_10 : decode cX7_moves 10 = .ok (.bipush 13, 2) := by decide +kernel
theorem dX7_moves_12 : decode cX7_moves 12 = .ok (.iload_n 1, 1) := by decide +kernel
theorem dX7_moves_13 : decode cX7_moves 13 = .ok (.imul, 1) := by decide +kernel
theorem dX7_moves_14 : decode cX7_moves 14 = .ok (.iadd, 1) := by decide +kernel
theorem dX7_moves_15 : decode cX7_moves 15 = .ok (.iconst 0, 1) := by decide +kernel
theorem dX7_moves_16 : decode cX7_moves 16 = .ok (.iadd, 1) := by decide +kernel
theorem dX7_moves_17 : decode cX7_moves 17 = .ok (.iload_n 2, 1) := by decide +kernel
theorem dX7_moves_18 : decode cX7_moves 18 = .ok (.iastore, 1) := by decide +kernel
theorem dX7_moves_19 : decode cX7_moves 19 = .ok (.aload_n 0, 1) := by decide +kernel
theorem dX7_moves_20 : decode cX7_moves 20 = .ok (.sipush 360, 3) := by decide +kernel
theorem dX7_moves_23 : decode cX7_moves 23 = .ok (.aload_n 0, 1) := by decide +kernel
theorem dX7_moves_24 : decode cX7_moves 24 = .ok (.getfield 76, 3) := by decide +kernel
theorem dX7_moves_27 : decode cX7_moves 27 = .ok (.invokevirtual 259, 3) := by decide +kernel
theorem dX7_moves_30 : decode cX7_moves 30 = .ok (.return_, 1) := by decide +kernel
theorem dX7_mayMove_0 : decode cX7_mayMove 0 = .ok (.aload_n 0, 1) := by decide +kernel
theorem dX7_mayMove_1 : decode cX7_mayMove 1 = .ok (.iload_n 1, 1) := by decide +kernel
theorem dX7_mayMove_2 : decode cX7_mayMove 2 = .ok (.iload_n 2, 1) := by decide +kernel
theorem dX7_mayMove_3 : decode cX7_mayMove 3 = .ok (.invokevirtual 266, 3) := by decide +kernel
theorem dX7_mayMove_6 : decode cX7_mayMove 6 = .ok (.iconst 0, 1) := by decide +kernel
theorem dX7_mayMove_7 : decode cX7_mayMove 7 = .ok (.istore_n 3, 1) := by decide +kernel
theorem dX7_mayMove_8 : decode cX7_mayMove 8 = .ok (.iload_n 3, 1) := by decide +kernel
theorem dX7_mayMove_9 : decode cX7_mayMove 9 = .ok (.aload_n 0, 1) := by decide +kernel
theorem dX7_mayMove_10 : decode cX7_mayMove 10 = .ok (.invokevirtual 100, 3) := by decide +kernel
theorem dX7_mayMove_13 : decode cX7_mayMove 13 = .ok (.if_icmp .ge 31, 3) := by decide +kernel
theorem dX7_mayMove_16 : decode cX7_mayMove 16 = .ok (.iload_n 3, 1) := by decide +kernel
theorem dX7_mayMove_17 : decode cX7_mayMove 17 = .ok (.iload_n 1, 1) := by decide +kernel
theorem dX7_mayMove_18 : decode cX7_mayMove 18 = .ok (.if_icmp .eq 20, 3) := by decide +kernel
theorem dX7_mayMove_21 : decode cX7_mayMove 21 = .ok (.aload_n 0, 1) := by decide +kernel
theorem dX7_mayMove_22 : decode cX7_mayMove 22 = .ok (.getfield 76, 3) := by decide +kernel
theorem dX7_mayMove_25 : decode cX7_mayMove 25 = .ok (.iload_n 3, 1) := by decide +kernel
theorem dX7_mayMove_26 : decode cX7_mayMove 26 = .ok (.iaload, 1) := by decide +kernel
theorem dX7_mayMove_27 : decode cX7_mayMove 27 = .ok (.aload_n 0, 1) := by decide +kernel
theorem dX7_mayMove_28 : decode cX7_mayMove 28 = .ok (.getfield 73, 3) := by decide +kernel
theorem dX7_mayMove_31 : decode cX7_mayMove 31 = .ok (.iload_n 3, 1) := by decide +kernel
theorem dX7_mayMove_32 : decode cX7_mayMove 32 = .ok (.iaload, 1) := by decide +kernel
theorem dX7_mayMove_33 : decode cX7_mayMove 33 = .ok (.if_icmp .ge 5, 3) := by decide +kernel
theorem dX7_mayMove_36 : decode cX7_mayMove 36 = .ok (.iconst 0, 1) := by decide +kernel
theorem dX7_mayMove_37 : decode cX7_mayMove 37 = .ok (.ireturn, 1) := by decide +kernel
theorem dX7_mayMove_38 : decode cX7_mayMove 38 = .ok (.iinc 3 1, 3) := by decide +kernel
theorem dX7_mayMove_41 : decode cX7_mayMove 41 = .ok (.goto (-33), 3) := by decide +kernel
theorem dX7_mayMove_44 : decode cX7_mayMove 44 = .ok (.iconst 1, 1) := by decide +kernel
theorem dX7_mayMove_45 : decode cX7_mayMove 45 = .ok (.ireturn, 1) := by decide +kernel
theorem dX7_isDryBy_0 : decode cX7_isDryBy 0 = .ok (.iconst 1, 1) := by decide +kernel
theorem dX7_isDryBy_1 : decode cX7_isDryBy 1 = .ok (.istore_n 2, 1) := by decide +kernel
theorem dX7_isDryBy_2 : decode cX7_isDryBy 2 = .ok (.iconst 0, 1) := by decide +kernel
theorem dX7_isDryBy_3 : decode cX7_isDryBy 3 = .ok (.istore_n 3, 1) := by decide +kernel
theorem dX7_isDryBy_4 : decode cX7_isDryBy 4 = .ok (.iload_n 3, 1) := by decide +kernel
theorem dX7_isDryBy_5 : decode cX7_isDryBy 5 = .ok (.iload_n 1, 1) := by decide +kernel
theorem dX7_isDryBy_6 : decode cX7_isDryBy 6 = .ok (.if_icmp .ge 30, 3) := by decide +kernel
theorem dX7_isDryBy_9 : decode cX7_isDryBy 9 = .ok (.iload_n 2, 1) := by decide +kernel
theorem dX7_isDryBy_10 : decode cX7_isDryBy 10 = .ok (.ifCond .eq 26, 3) := by decide +kernel
theorem dX7_isDryBy_13 : decode cX7_isDryBy 13 = .ok (.aload_n 0, 1) := by decide +kernel
theorem dX7_isDryBy_14 : decode cX7_isDryBy 14 = .ok (.invokevirtual 214, 3) := by decide +kernel
theorem dX7_isDryBy_17 : decode cX7_isDryBy 17 = .ok (.aload_n 0, 1) := by decide +kernel
theorem dX7_isDryBy_18 : decode cX7_isDryBy 18 = .ok (.getfield 195, 3) := by decide +kernel
theorem dX7_isDryBy_21 : decode cX7_isDryBy 21 = .ok (.ifCond .ne 7, 3) := by decide +kernel
theorem dX7_isDryBy_24 : decode cX7_isDryBy 24 = .ok (.iconst 1, 1) := by decide +kernel
theorem dX7_isDryBy_25 : decode cX7_isDryBy 25 = .ok (.goto 4, 3) := by decide +kernel
theorem dX7_isDryBy_28 : decode cX7_isDryBy 28 = .ok (.iconst 0, 1) := by decide +kernel
theorem dX7_isDryBy_29 : decode cX7_isDryBy 29 = .ok (.istore_n 2, 1) := by decide +kernel
theorem dX7_isDryBy_30 : decode cX7_isDryBy 30 = .ok (.iinc 3 1, 3) := by decide +kernel
theorem dX7_isDryBy_33 : decode cX7_isDryBy 33 = .ok (.goto (-29), 3) := by decide +kernel
theorem dX7_isDryBy_36 : decode cX7_isDryBy 36 = .ok (.aload_n 0, 1) := by decide +kernel
theorem dX7_isDryBy_37 : decode cX7_isDryBy 37 = .ok (.invokevirtual 217, 3) := by decide +kernel
theorem dX7_isDryBy_40 : decode cX7_isDryBy 40 = .ok (.iload_n 2, 1) := by decide +kernel
theorem dX7_isDryBy_41 : decode cX7_isDryBy 41 = .ok (.ireturn, 1) := by decide +kernel
theorem dX7_swaps_0 : decode cX7_swaps 0 = .ok (.aload_n 0, 1) := by decide +kernel
theorem dX7_swaps_1 : decode cX7_swaps 1 = .ok (.iload_n 1, 1) := by decide +kernel
theorem dX7_swaps_2 : decode cX7_swaps 2 = .ok (.iconst 4, 1) := by decide +kernel
theorem dX7_swaps_3 : decode cX7_swaps 3 = .ok (.invokevirtual 113, 3) := by decide +kernel
theorem dX7_swaps_6 : decode cX7_swaps 6 = .ok (.istore_n 3, 1) := by decide +kernel
theorem dX7_swaps_7 : decode cX7_swaps 7 = .ok (.aload_n 0, 1) := by decide +kernel
theorem dX7_swaps_8 : decode cX7_swaps 8 = .ok (.getfield 7, 3) := by decide +kernel
theorem dX7_swaps_11 : decode cX7_swaps 11 = .ok (.bipush 78, 2) := by decide +kernel
theorem dX7_swaps_13 : decode cX7_swaps 13 = .ok (.bipush 13, 2) := by decide +kernel
theorem dX7_swaps_15 : decode cX7_swaps 15 = .ok (.iload_n 1, 1) := by decide +kernel
theorem dX7_swaps_16 : decode cX7_swaps 16 = .ok (.imul, 1) := by decide +kernel
theorem dX7_swaps_17 : decode cX7_swaps 17 = .ok (.iadd, 1) := by decide +kernel
theorem dX7_swaps_18 : decode cX7_swaps 18 = .ok (.iconst 4, 1) := by decide +kernel
theorem dX7_swaps_19 : decode cX7_swaps 19 = .ok (.iadd, 1) := by decide +kernel
theorem dX7_swaps_20 : decode cX7_swaps 20 = .ok (.aload_n 0, 1) := by decide +kernel
theorem dX7_swaps_21 : decode cX7_swaps 21 = .ok (.iload_n 2, 1) := by decide +kernel
theorem dX7_swaps_22 : decode cX7_swaps 22 = .ok (.iconst 4, 1) := by decide +kernel
theorem dX7_swaps_23 : decode cX7_swaps 23 = .ok (.invokevirtual 113, 3) := by decide +kernel
theorem dX7_swaps_26 : decode cX7_swaps 26 = .ok (.iastore, 1) := by decide +kernel
theorem dX7_swaps_27 : decode cX7_swaps 27 = .ok (.aload_n 0, 1) := by decide +kernel
theorem dX7_swaps_28 : decode cX7_swaps 28 = .ok (.getfield 7, 3) := by decide +kernel
theorem dX7_swaps_31 : decode cX7_swaps 31 = .ok (.bipush 78, 2) := by decide +kernel
theorem dX7_swaps_33 : decode cX7_swaps 33 = .ok (.bipush 13, 2) := by decide +kernel
theorem dX7_swaps_35 : decode cX7_swaps 35 = .ok (.iload_n 2, 1) := by decide +kernel
theorem dX7_swaps_36 : decode cX7_swaps 36 = .ok (.imul, 1) := by decide +kernel
theorem dX7_swaps_37 : decode cX7_swaps 37 = .ok (.iadd, 1) := by decide +kernel
theorem dX7_swaps_38 : decode cX7_swaps 38 = .ok (.iconst 4, 1) := by decide +kernel
theorem dX7_swaps_39 : decode cX7_swaps 39 = .ok (.iadd, 1) := by decide +kernel
theorem dX7_swaps_40 : decode cX7_swaps 40 = .ok (.iload_n 3, 1) := by decide +kernel
theorem dX7_swaps_41 : decode cX7_swaps 41 = .ok (.iastore, 1) := by decide +kernel
theorem dX7_swaps_42 : decode cX7_swaps 42 = .ok (.return_, 1) := by decide +kernel
theorem dX7_laysShares_0 : decode cX7_laysShares 0 = .ok (.iconst 0, 1) := by decide +kernel
theorem dX7_laysShares_1 : decode cX7_laysShares 1 = .ok (.istore_n 2, 1) := by decide +kernel
theorem dX7_laysShares_2 : decode cX7_laysShares 2 = .ok (.iload_n 2, 1) := by decide +kernel
theorem dX7_laysShares_3 : decode cX7_laysShares 3 = .ok (.bipush 14, 2) := by decide +kernel
theorem dX7_laysShares_5 : decode cX7_laysShares 5 = .ok (.if_icmp .ge 23, 3) := by decide +kernel
theorem dX7_laysShares_8 : decode cX7_laysShares 8 = .ok (.aload_n 0, 1) := by decide +kernel
theorem dX7_laysShares_9 : decode cX7_laysShares 9 = .ok (.getfield 86, 3) := by decide +kernel
theorem dX7_laysShares_12 : decode cX7_laysShares 12 = .ok (.iload_n 2, 1) := by decide +kernel
theorem dX7_laysShares_13 : decode cX7_laysShares 13 = .ok (.lconst 0, 1) := by decide +kernel
theorem dX7_laysShares_14 : decode cX7_laysShares 14 = .ok (.lastore, 1) := by decide +kernel
theorem dX7_laysShares_15 : decode cX7_laysShares 15 = .ok (.aload_n 0, 1) := by decide +kernel
theorem dX7_laysShares_16 : decode cX7_laysShares 16 = .ok (.getfield 89, 3) := by decide +kernel
theorem dX7_laysShares_19 : decode cX7_laysShares 19 = .ok (.iload_n 2, 1) := by decide +kernel
theorem dX7_laysShares_20 : decode cX7_laysShares 20 = .ok (.lconst 0, 1) := by decide +kernel
theorem dX7_laysShares_21 : decode cX7_laysShares 21 = .ok (.lastore, 1) := by decide +kernel
theorem dX7_laysShares_22 : decode cX7_laysShares 22 = .ok (.iinc 2 1, 3) := by decide +kernel
theorem dX7_laysShares_25 : decode cX7_laysShares 25 = .ok (.goto (-23), 3) := by decide +kernel
theorem dX7_laysShares_28 : decode cX7_laysShares 28 = .ok (.aload_n 0, 1) := by decide +kernel
theorem dX7_laysShares_29 : decode cX7_laysShares 29 = .ok (.invokevirtual 255, 3) := by decide +kernel
theorem dX7_laysShares_32 : decode cX7_laysShares 32 = .ok (.iconst 0, 1) := by decide +kernel
theorem dX7_laysShares_33 : decode cX7_laysShares 33 = .ok (.istore_n 2, 1) := by decide +kernel
theorem dX7_laysShares_34 : decode cX7_laysShares 34 = .ok (.iload_n 2, 1) := by decide +kernel
theorem dX7_laysShares_35 : decode cX7_laysShares 35 = .ok (.iload_n 1, 1) := by decide +kernel
theorem dX7_laysShares_36 : decode cX7_laysShares 36 = .ok (.if_icmp .ge 75, 3) := by decide +kernel
theorem dX7_laysShares_39 : decode cX7_laysShares 39 = .ok (.iconst 0, 1) := by decide +kernel
theorem dX7_laysShares_40 : decode cX7_laysShares 40 = .ok (.istore_n 3, 1) := by decide +kernel
theorem dX7_laysShares_41 : decode cX7_laysShares 41 = .ok (.iload_n 3, 1) := by decide +kernel
theorem dX7_laysShares_42 : decode cX7_laysShares 42 = .ok (.aload_n 0, 1) := by decide +kernel
theorem dX7_laysShares_43 : decode cX7_laysShares 43 = .ok (.invokevirtual 100, 3) := by decide +kernel
theorem dX7_laysShares_46 : decode cX7_laysShares 46 = .ok (.if_icmp .ge 24, 3) := by decide +kernel
theorem dX7_laysShares_49 : decode cX7_laysShares 49 = .ok (.aload_n 0, 1) := by decide +kernel
theorem dX7_laysShares_50 : decode cX7_laysShares 50 = .ok (.getfield 86, 3) := by decide +kernel
theorem dX7_laysShares_53 : decode cX7_laysShares 53 = .ok (.iload_n 3, 1) := by decide +kernel
theorem dX7_laysShares_54 : decode cX7_laysShares 54 = .ok (.dup2, 1) := by decide +kernel
theorem dX7_laysShares_55 : decode cX7_laysShares 55 = .ok (.laload, 1) := by decide +kernel
theorem dX7_laysShares_56 : decode cX7_laysShares 56 = .ok (.aload_n 0, 1) := by decide +kernel
theorem dX7_laysShares_57 : decode cX7_laysShares 57 = .ok (.iload_n 3, 1) := by decide +kernel
theorem dX7_laysShares_58 : decode cX7_laysShares 58 = .ok (.invokevirtual 163, 3) := by decide +kernel
theorem dX7_laysShares_61 : decode cX7_laysShares 61 = .ok (.i2l, 1) := by decide +kernel
theorem dX7_laysShares_62 : decode cX7_laysShares 62 = .ok (.ladd, 1) := by decide +kernel
theorem dX7_laysShares_63 : decode cX7_laysShares 63 = .ok (.lastore, 1) := by decide +kernel
theorem dX7_laysShares_64 : decode cX7_laysShares 64 = .ok (.iinc 3 1, 3) := by decide +kernel
theorem dX7_laysShares_67 : decode cX7_laysShares 67 = .ok (.goto (-26), 3) := by decide +kernel
theorem dX7_laysShares_70 : decode cX7_laysShares 70 = .ok (.aload_n 0, 1) := by decide +kernel
theorem dX7_laysShares_71 : decode cX7_laysShares 71 = .ok (.invokevirtual 214, 3) := by decide +kernel
theorem dX7_laysShares_74 : decode cX7_laysShares 74 = .ok (.iconst 0, 1) := by decide +kernel
theorem dX7_laysShares_75 : decode cX7_laysShares 75 = .ok (.istore_n 3, 1) := by decide +kernel
theorem dX7_laysShares_76 : decode cX7_laysShares 76 = .ok (.iload_n 3, 1) := by decide +kernel
theorem dX7_laysShares_77 : decode cX7_laysShares 77 = .ok (.aload_n 0, 1) := by decide +kernel
theorem dX7_laysShares_78 : decode cX7_laysShares 78 = .ok (.invokevirtual 100, 3) := by decide +kernel
theorem dX7_laysShares_81 : decode cX7_laysShares 81 = .ok (.if_icmp .ge 24, 3) := by decide +kernel
theorem dX7_laysShares_84 : decode cX7_laysShares 84 = .ok (.aload_n 0, 1) := by decide +kernel
theorem dX7_laysShares_85 : decode cX7_laysShares 85 = .ok (.getfield 89, 3) := by decide +kernel
theorem dX7_laysShares_88 : decode cX7_laysShares 88 = .ok (.iload_n 3, 1) := by decide +kernel
theorem dX7_laysShares_89 : decode cX7_laysShares 89 = .ok (.dup2, 1) := by decide +kernel
theorem dX7_laysShares_90 : decode cX7_laysShares 90 = .ok (.laload, 1) := by decide +kernel
theorem dX7_laysShares_91 : decode cX7_laysShares 91 = .ok (.aload_n 0, 1) := by decide +kernel
theorem dX7_laysShares_92 : decode cX7_laysShares 92 = .ok (.iload_n 3, 1) := by decide +kernel
theorem dX7_laysShares_93 : decode cX7_laysShares 93 = .ok (.invokevirtual 183, 3) := by decide +kernel
theorem dX7_laysShares_96 : decode cX7_laysShares 96 = .ok (.i2l, 1) := by decide +kernel
theorem dX7_laysShares_97 : decode cX7_laysShares 97 = .ok (.ladd, 1) := by decide +kernel
theorem dX7_laysShares_98 : decode cX7_laysShares 98 = .ok (.lastore, 1) := by decide +kernel
theorem dX7_laysShares_99 : decode cX7_laysShares 99 = .ok (.iinc 3 1, 3) := by decide +kernel
theorem dX7_laysShares_102 : decode cX7_laysShares 102 = .ok (.goto (-26), 3) := by decide +kernel
theorem dX7_laysShares_105 : decode cX7_laysShares 105 = .ok (.iinc 2 1, 3) := by decide +kernel
theorem dX7_laysShares_108 : decode cX7_laysShares 108 = .ok (.goto (-74), 3) := by decide +kernel
theorem dX7_laysShares_111 : decode cX7_laysShares 111 = .ok (.aload_n 0, 1) := by decide +kernel
theorem dX7_laysShares_112 : decode cX7_laysShares 112 = .ok (.invokevirtual 217, 3) := by decide +kernel
theorem dX7_laysShares_115 : decode cX7_laysShares 115 = .ok (.return_, 1) := by decide +kernel
theorem dX7_hurt_0 : decode cX7_hurt 0 = .ok (.aload_n 0, 1) := by decide +kernel
theorem dX7_hurt_1 : decode cX7_hurt 1 = .ok (.iload_n 1, 1) := by decide +kernel
theorem dX7_hurt_2 : decode cX7_hurt 2 = .ok (.invokevirtual 229, 3) := by decide +kernel
theorem dX7_hurt_5 : decode cX7_hurt 5 = .ok (.ifCond .eq 24, 3) := by decide +kernel
theorem dX7_hurt_8 : decode cX7_hurt 8 = .ok (.aload_n 0, 1) := by decide +kernel
theorem dX7_hurt_9 : decode cX7_hurt 9 = .ok (.iload_n 2, 1) := by decide +kernel
theorem dX7_hurt_10 : decode cX7_hurt 10 = .ok (.invokevirtual 220, 3) := by decide +kernel
theorem dX7_hurt_13 : decode cX7_hurt 13 = .ok (.ifCond .eq 16, 3) := by decide +kernel
theorem dX7_hurt_16 : decode cX7_hurt 16 = .ok (.aload_n 0, 1) := by decide +kernel
theorem dX7_hurt_17 : decode cX7_hurt 17 = .ok (.iload_n 3, 1) := by decide +kernel
theorem dX7_hurt_18 : decode cX7_hurt 18 = .ok (.invokevirtual 229, 3) := by decide +kernel
theorem dX7_hurt_21 : decode cX7_hurt 21 = .ok (.ifCond .eq 8, 3) := by decide +kernel
theorem dX7_hurt_24 : decode cX7_hurt 24 = .ok (.iload_n 1, 1) := by decide +kernel
theorem dX7_hurt_25 : decode cX7_hurt 25 = .ok (.iload_n 3, 1) := by decide +kernel
theorem dX7_hurt_26 : decode cX7_hurt 26 = .ok (.if_icmp .ne 5, 3) := by decide +kernel
theorem dX7_hurt_29 : decode cX7_hurt 29 = .ok (.iconst (-1), 1) := by decide +kernel
theorem dX7_hurt_30 : decode cX7_hurt 30 = .ok (.ireturn, 1) := by decide +kernel
theorem dX7_hurt_31 : decode cX7_hurt 31 = .ok (.aload_n 0, 1) := by decide +kernel
theorem dX7_hurt_32 : decode cX7_hurt 32 = .ok (.invokevirtual 263, 3) := by decide +kernel
theorem dX7_hurt_35 : decode cX7_hurt 35 = .ok (.aload_n 0, 1) := by decide +kernel
theorem dX7_hurt_36 : decode cX7_hurt 36 = .ok (.iload_n 1, 1) := by decide +kernel
theorem dX7_hurt_37 : decode cX7_hurt 37 = .ok (.iload_n 2, 1) := by decide +kernel
theorem dX7_hurt_38 : decode cX7_hurt 38 = .ok (.invokevirtual 266, 3) := by decide +kernel
theorem dX7_hurt_41 : decode cX7_hurt 41 = .ok (.aload_n 0, 1) := by decide +kernel
theorem dX7_hurt_42 : decode cX7_hurt 42 = .ok (.getfield 73, 3) := by decide +kernel
theorem dX7_hurt_45 : decode cX7_hurt 45 = .ok (.iload_n 3, 1) := by decide +kernel
theorem dX7_hurt_46 : decode cX7_hurt 46 = .ok (.iaload, 1) := by decide +kernel
theorem dX7_hurt_47 : decode cX7_hurt 47 = .ok (.aload_n 0, 1) := by decide +kernel
theorem dX7_hurt_48 : decode cX7_hurt 48 = .ok (.getfield 76, 3) := by decide +kernel
theorem dX7_hurt_51 : decode cX7_hurt 51 = .ok (.iload_n 3, 1) := by decide +kernel
theorem dX7_hurt_52 : decode cX7_hurt 52 = .ok (.iaload, 1) := by decide +kernel
theorem dX7_hurt_53 : decode cX7_hurt 53 = .ok (.isub, 1) := by decide +kernel
theorem dX7_hurt_54 : decode cX7_hurt 54 = .ok (.istore 4, 2) := by decide +kernel
theorem dX7_hurt_56 : decode cX7_hurt 56 = .ok (.iload 4, 2) := by decide +kernel
theorem dX7_hurt_58 : decode cX7_hurt 58 = .ok (.ifCond .le 8, 3) := by decide +kernel
theorem dX7_hurt_61 : decode cX7_hurt 61 = .ok (.iload 4, 2) := by decide +kernel
theorem dX7_hurt_63 : decode cX7_hurt 63 = .ok (.goto 4, 3) := by decide +kernel
theorem dX7_hurt_66 : decode cX7_hurt 66 = .ok (.iconst 0, 1) := by decide +kernel
theorem dX7_hurt_67 : decode cX7_hurt 67 = .ok (.ireturn, 1) := by decide +kernel
theorem dX7_movable_0 : decode cX7_movable 0 = .ok (.aload_n 0, 1) := by decide +kernel
theorem dX7_movable_1 : decode cX7_movable 1 = .ok (.iload_n 1, 1) := by decide +kernel
theorem dX7_movable_2 : decode cX7_movable 2 = .ok (.invokevirtual 229, 3) := by decide +kernel
theorem dX7_movable_5 : decode cX7_movable 5 = .ok (.ifCond .ne 5, 3) := by decide +kernel
theorem dX7_movable_8 : decode cX7_movable 8 = .ok (.iconst (-1), 1) := by decide +kernel
theorem dX7_movable_9 : decode cX7_movable 9 = .ok (.ireturn, 1) := by decide +kernel
theorem dX7_movable_10 : decode cX7_movable 10 = .ok (.aload_n 0, 1) := by decide +kernel
theorem dX7_movable_11 : decode cX7_movable 11 = .ok (.invokevirtual 263, 3) := by decide +kernel
theorem dX7_movable_14 : decode cX7_movable 14 = .ok (.iconst 0, 1) := by decide +kernel
theorem dX7_movable_15 : decode cX7_movable 15 = .ok (.istore_n 2, 1) := by decide +kernel
theorem dX7_movable_16 : decode cX7_movable 16 = .ok (.iconst 0, 1) := by decide +kernel
theorem dX7_movable_17 : decode cX7_movable 17 = .ok (.istore_n 3, 1) := by decide +kernel
theorem dX7_movable_18 : decode cX7_movable 18 = .ok (.iload_n 3, 1) := by decide +kernel
theorem dX7_movable_19 : decode cX7_movable 19 = .ok (.aload_n 0, 1) := by decide +kernel
theorem dX7_movable_20 : decode cX7_movable 20 = .ok (.invokevirtual 92, 3) := by decide +kernel
theorem dX7_movable_23 : decode cX7_movable 23 = .ok (.if_icmp .ge 34, 3) := by decide +kernel
theorem dX7_movable_26 : decode cX7_movable 26 = .ok (.iload_n 3, 1) := by decide +kernel
theorem dX7_movable_27 : decode cX7_movable 27 = .ok (.aload_n 0, 1) := by decide +kernel
theorem dX7_movable_28 : decode cX7_movable 28 = .ok (.iload_n 1, 1) := by decide +kernel
theorem dX7_movable_29 : decode cX7_movable 29 = .ok (.iconst 0, 1) := by decide +kernel
theorem dX7_movable_30 : decode cX7_movable 30 = .ok (.invokevirtual 113, 3) := by decide +kernel
theorem dX7_movable_33 : decode cX7_movable 33 = .ok (.if_icmp .eq 18, 3) := by decide +kernel
theorem dX7_movable_36 : decode cX7_movable 36 = .ok (.aload_n 0, 1) := by decide +kernel
theorem dX7_movable_37 : decode cX7_movable 37 = .ok (.iload_n 1, 1) := by decide +kernel
theorem dX7_movable_38 : decode cX7_movable 38 = .ok (.iload_n 3, 1) := by decide +kernel
theorem dX7_movable_39 : decode cX7_movable 39 = .ok (.invokevirtual 270, 3) := by decide +kernel
theorem dX7_movable_42 : decode cX7_movable 42 = .ok (.ifCond .eq 9, 3) := by decide +kernel
theorem dX7_movable_45 : decode cX7_movable 45 = .ok (.iload_n 2, 1) := by decide +kernel
theorem dX7_movable_46 : decode cX7_movable 46 = .ok (.iconst 1, 1) := by decide +kernel
theorem dX7_movable_47 : decode cX7_movable 47 = .ok (.iload_n 3, 1) := by decide +kernel
theorem dX7_movable_48 : decode cX7_movable 48 = .ok (.ishl, 1) := by decide +kernel
theorem dX7_movable_49 : decode cX7_movable 49 = .ok (.ior, 1) := by decide +kernel
theorem dX7_movable_50 : decode cX7_movable 50 = .ok (.istore_n 2, 1) := by decide +kernel
theorem dX7_movable_51 : decode cX7_movable 51 = .ok (.iinc 3 1, 3) := by decide +kernel
theorem dX7_movable_54 : decode cX7_movable 54 = .ok (.goto (-36), 3) := by decide +kernel
theorem dX7_movable_57 : decode cX7_movable 57 = .ok (.iload_n 2, 1) := by decide +kernel
theorem dX7_movable_58 : decode cX7_movable 58 = .ok (.ireturn, 1) := by decide +kernel
theorem dX7_firm_0 : decode cX7_firm 0 = .ok (.aload_n 0, 1) := by decide +kernel
theorem dX7_firm_1 : decode cX7_firm 1 = .ok (.iload_n 1, 1) := by decide +kernel
theorem dX7_firm_2 : decode cX7_firm 2 = .ok (.invokevirtual 229, 3) := by decide +kernel
theorem dX7_firm_5 : decode cX7_firm 5 = .ok (.ifCond .eq 27, 3) := by decide +kernel
theorem dX7_firm_8 : decode cX7_firm 8 = .ok (.iload_n 2, 1) := by decide +kernel
theorem dX7_firm_9 : decode cX7_firm 9 = .ok (.i2l, 1) := by decide +kernel
theorem dX7_firm_10 : decode cX7_firm 10 = .ok (.lconst 1, 1) := by decide +kernel
theorem dX7_firm_11 : decode cX7_firm 11 = .ok (.ldc2_w 251, 3) := by decide +kernel
theorem dX7_firm_14 : decode cX7_firm 14 = .ok (.invokestatic 96, 3) := by decide +kernel
theorem dX7_firm_17 : decode cX7_firm 17 = .ok (.ifCond .eq 15, 3) := by decide +kernel
theorem dX7_firm_20 : decode cX7_firm 20 = .ok (.iload_n 3, 1) := by decide +kernel
theorem dX7_firm_21 : decode cX7_firm 21 = .ok (.i2l, 1) := by decide +kernel
theorem dX7_firm_22 : decode cX7_firm 22 = .ok (.lconst 0, 1) := by decide +kernel
theorem dX7_firm_23 : decode cX7_firm 23 = .ok (.ldc2_w 253, 3) := by decide +kernel
theorem dX7_firm_26 : decode cX7_firm 26 = .ok (.invokestatic 96, 3) := by decide +kernel
theorem dX7_firm_29 : decode cX7_firm 29 = .ok (.ifCond .ne 5, 3) := by decide +kernel
theorem dX7_firm_32 : decode cX7_firm 32 = .ok (.iconst (-1), 1) := by decide +kernel
theorem dX7_firm_33 : decode cX7_firm 33 = .ok (.ireturn, 1) := by decide +kernel
theorem dX7_firm_34 : decode cX7_firm 34 = .ok (.iconst 0, 1) := by decide +kernel
theorem dX7_firm_35 : decode cX7_firm 35 = .ok (.istore 4, 2) := by decide +kernel
theorem dX7_firm_37 : decode cX7_firm 37 = .ok (.iconst (-1), 1) := by decide +kernel
theorem dX7_firm_38 : decode cX7_firm 38 = .ok (.istore 5, 2) := by decide +kernel
theorem dX7_firm_40 : decode cX7_firm 40 = .ok (.iconst 0, 1) := by decide +kernel
theorem dX7_firm_41 : decode cX7_firm 41 = .ok (.istore 6, 2) := by decide +kernel
theorem dX7_firm_43 : decode cX7_firm 43 = .ok (.aload_n 0, 1) := by decide +kernel
theorem dX7_firm_44 : decode cX7_firm 44 = .ok (.invokevirtual 255, 3) := by decide +kernel
theorem dX7_firm_47 : decode cX7_firm 47 = .ok (.iconst 0, 1) := by decide +kernel
theorem dX7_firm_48 : decode cX7_firm 48 = .ok (.istore 7, 2) := by decide +kernel
theorem dX7_firm_50 : decode cX7_firm 50 = .ok (.iload 7, 2) := by decide +kernel
theorem dX7_firm_52 : decode cX7_firm 52 = .ok (.iload_n 2, 1) := by decide +kernel
theorem dX7_firm_53 : decode cX7_firm 53 = .ok (.if_icmp .ge 68, 3) := by decide +kernel
theorem dX7_firm_56 : decode cX7_firm 56 = .ok (.aload_n 0, 1) := by decide +kernel
theorem dX7_firm_57 : decode cX7_firm 57 = .ok (.invokevirtual 202, 3) := by decide +kernel
theorem dX7_firm_60 : decode cX7_firm 60 = .ok (.iload 6, 2) := by decide +kernel
theorem dX7_firm_62 : decode cX7_firm 62 = .ok (.aload_n 0, 1) := by decide +kernel
theorem dX7_firm_63 : decode cX7_firm 63 = .ok (.iload_n 1, 1) := by decide +kernel
theorem dX7_firm_64 : decode cX7_firm 64 = .ok (.invokevirtual 199, 3) := by decide +kernel
theorem dX7_firm_67 : decode cX7_firm 67 = .ok (.ifCond .eq 7, 3) := by decide +kernel
theorem dX7_firm_70 : decode cX7_firm 70 = .ok (.iconst 1, 1) := by decide +kernel
theorem dX7_firm_71 : decode cX7_firm 71 = .ok (.goto 4, 3) := by decide +kernel
theorem dX7_firm_74 : decode cX7_firm 74 = .ok (.iconst 0, 1) := by decide +kernel
theorem dX7_firm_75 : decode cX7_firm 75 = .ok (.iadd, 1) := by decide +kernel
theorem dX7_firm_76 : decode cX7_firm 76 = .ok (.istore 6, 2) := by decide +kernel
theorem dX7_firm_78 : decode cX7_firm 78 = .ok (.aload_n 0, 1) := by decide +kernel
theorem dX7_firm_79 : decode cX7_firm 79 = .ok (.invokevirtual 214, 3) := by decide +kernel
theorem dX7_firm_82 : decode cX7_firm 82 = .ok (.iload 4, 2) := by decide +kernel
theorem dX7_firm_84 : decode cX7_firm 84 = .ok (.aload_n 0, 1) := by decide +kernel
theorem dX7_firm_85 : decode cX7_firm 85 = .ok (.iload_n 1, 1) := by decide +kernel
theorem dX7_firm_86 : decode cX7_firm 86 = .ok (.invokevirtual 183, 3) := by decide +kernel
theorem dX7_firm_89 : decode cX7_firm 89 = .ok (.iadd, 1) := by decide +kernel
theorem dX7_firm_90 : decode cX7_firm 90 = .ok (.istore 4, 2) := by decide +kernel
theorem dX7_firm_92 : decode cX7_firm 92 = .ok (.iload 5, 2) := by decide +kernel
theorem dX7_firm_94 : decode cX7_firm 94 = .ok (.iconst (-1), 1) := by decide +kernel
theorem dX7_firm_95 : decode cX7_firm 95 = .ok (.if_icmp .eq 13, 3) := by decide +kernel
theorem dX7_firm_98 : decode cX7_firm 98 = .ok (.aload_n 0, 1) := by decide +kernel
theorem dX7_firm_99 : decode cX7_firm 99 = .ok (.iload_n 1, 1) := by decide +kernel
theorem dX7_firm_100 : decode cX7_firm 100 = .ok (.invokevirtual 183, 3) := by decide +kernel
theorem dX7_firm_103 : decode cX7_firm 103 = .ok (.iload 5, 2) := by decide +kernel
theorem dX7_firm_105 : decode cX7_firm 105 = .ok (.if_icmp .ge 10, 3) := by decide +kernel
theorem dX7_firm_108 : decode cX7_firm 108 = .ok (.aload_n 0, 1) := by decide +kernel
theorem dX7_firm_109 : decode cX7_firm 109 = .ok (.iload_n 1, 1) := by decide +kernel
theorem dX7_firm_110 : decode cX7_firm 110 = .ok (.invokevirtual 183, 3) := by decide +kernel
theorem dX7_firm_113 : decode cX7_firm 113 = .ok (.istore 5, 2) := by decide +kernel
theorem dX7_firm_115 : decode cX7_firm 115 = .ok (.iinc 7 1, 3) := by decide +kernel
theorem dX7_firm_118 : decode cX7_firm 118 = .ok (.goto (-68), 3) := by decide +kernel
theorem dX7_firm_121 : decode cX7_firm 121 = .ok (.aload_n 0, 1) := by decide +kernel
theorem dX7_firm_122 : decode cX7_firm 122 = .ok (.invokevirtual 217, 3) := by decide +kernel
theorem dX7_firm_125 : decode cX7_firm 125 = .ok (.iload_n 3, 1) := by decide +kernel
theorem dX7_firm_126 : decode cX7_firm 126 = .ok (.ifCond .ne 8, 3) := by decide +kernel
theorem dX7_firm_129 : decode cX7_firm 129 = .ok (.iload 4, 2) := by decide +kernel
theorem dX7_firm_131 : decode cX7_firm 131 = .ok (.goto 15, 3) := by decide +kernel
theorem dX7_firm_134 : decode cX7_firm 134 = .ok (.iload_n 3, 1) := by decide +kernel
theorem dX7_firm_135 : decode cX7_firm 135 = .ok (.iconst 1, 1) := by decide +kernel
theorem dX7_firm_136 : decode cX7_firm 136 = .ok (.if_icmp .ne 8, 3) := by decide +kernel
theorem dX7_firm_139 : decode cX7_firm 139 = .ok (.iload 5, 2) := by decide +kernel
theorem dX7_firm_141 : decode cX7_firm 141 = .ok (.goto 5, 3) := by decide +kernel
theorem dX7_firm_144 : decode cX7_firm 144 = .ok (.iload 6, 2) := by decide +kernel
theorem dX7_firm_146 : decode cX7_firm 146 = .ok (.ireturn, 1) := by decide +kernel
theorem dX7_without_0 : decode cX7_without 0 = .ok (.aload_n 0, 1) := by decide +kernel
theorem dX7_without_1 : decode cX7_without 1 = .ok (.iload_n 1, 1) := by decide +kernel
theorem dX7_without_2 : decode cX7_without 2 = .ok (.invokevirtual 229, 3) := by decide +kernel
theorem dX7_without_5 : decode cX7_without 5 = .ok (.ifCond .eq 28, 3) := by decide +kernel
theorem dX7_without_8 : decode cX7_without 8 = .ok (.aload_n 0, 1) := by decide +kernel
theorem dX7_without_9 : decode cX7_without 9 = .ok (.iload_n 2, 1) := by decide +kernel
theorem dX7_without_10 : decode cX7_without 10 = .ok (.invokevirtual 229, 3) := by decide +kernel
theorem dX7_without_13 : decode cX7_without 13 = .ok (.ifCond .eq 20, 3) := by decide +kernel
theorem dX7_without_16 : decode cX7_without 16 = .ok (.iload_n 1, 1) := by decide +kernel
theorem dX7_without_17 : decode cX7_without 17 = .ok (.iload_n 2, 1) := by decide +kernel
theorem dX7_without_18 : decode cX7_without 18 = .ok (.if_icmp .eq 15, 3) := by decide +kernel
theorem dX7_without_21 : decode cX7_without 21 = .ok (.iload_n 3, 1) := by decide +kernel
theorem dX7_without_22 : decode cX7_without 22 = .ok (.i2l, 1) := by decide +kernel
theorem dX7_without_23 : decode cX7_without 23 = .ok (.lconst 1, 1) := by decide +kernel
theorem dX7_without_24 : decode cX7_without 24 = .ok (.ldc2_w 251, 3) := by decide +kernel
theorem dX7_without_27 : decode cX7_without 27 = .ok (.invokestatic 96, 3) := by decide +kernel
theorem dX7_without_30 : decode cX7_without 30 = .ok (.ifCond .ne 7, 3) := by decide +kernel
theorem dX7_without_33 : decode cX7_without 33 = .ok (.ldc_w 258, 3) := by decide +kernel
theorem dX7_without_36 : decode cX7_without 36 = .ok (.ireturn, 1) := by decide +kernel
theorem dX7_without_37 : decode cX7_without 37 = .ok (.aload_n 0, 1) := by decide +kernel
theorem dX7_without_38 : decode cX7_without 38 = .ok (.invokevirtual 255, 3) := by decide +kernel
theorem dX7_without_41 : decode cX7_without 41 = .ok (.aload_n 0, 1) := by decide +kernel
theorem dX7_without_42 : decode cX7_without 42 = .ok (.iload_n 3, 1) := by decide +kernel
theorem dX7_without_43 : decode cX7_without 43 = .ok (.aload_n 0, 1) := by decide +kernel
theorem dX7_without_44 : decode cX7_without 44 = .ok (.getfield 73, 3) := by decide +kernel
theorem dX7_without_47 : decode cX7_without 47 = .ok (.invokevirtual 259, 3) := by decide +kernel
theorem dX7_without_50 : decode cX7_without 50 = .ok (.aload_n 0, 1) := by decide +kernel
theorem dX7_without_51 : decode cX7_without 51 = .ok (.getfield 7, 3) := by decide +kernel
theorem dX7_without_54 : decode cX7_without 54 = .ok (.bipush 78, 2) := by decide +kernel
theorem dX7_without_56 : decode cX7_without 56 = .ok (.bipush 13, 2) := by decide +kernel
theorem dX7_without_58 : decode cX7_without 58 = .ok (.iload_n 2, 1) := by decide +kernel
theorem dX7_without_59 : decode cX7_without 59 = .ok (.imul, 1) := by decide +kernel
theorem dX7_without_60 : decode cX7_without 60 = .ok (.iadd, 1) := by decide +kernel
theorem dX7_without_61 : decode cX7_without 61 = .ok (.bipush 10, 2) := by decide +kernel
theorem dX7_without_63 : decode cX7_without 63 = .ok (.iadd, 1) := by decide +kernel
theorem dX7_without_64 : decode cX7_without 64 = .ok (.iconst 0, 1) := by decide +kernel
theorem dX7_without_65 : decode cX7_without 65 = .ok (.iastore, 1) := by decide +kernel
theorem dX7_without_66 : decode cX7_without 66 = .ok (.aload_n 0, 1) := by decide +kernel
theorem dX7_without_67 : decode cX7_without 67 = .ok (.iload_n 3, 1) := by decide +kernel
theorem dX7_without_68 : decode cX7_without 68 = .ok (.aload_n 0, 1) := by decide +kernel
theorem dX7_without_69 : decode cX7_without 69 = .ok (.getfield 76, 3) := by decide +kernel
theorem dX7_without_72 : decode cX7_without 72 = .ok (.invokevirtual 259, 3) := by decide +kernel
theorem dX7_without_75 : decode cX7_without 75 = .ok (.aload_n 0, 1) := by decide +kernel
theorem dX7_without_76 : decode cX7_without 76 = .ok (.getfield 76, 3) := by decide +kernel
theorem dX7_without_79 : decode cX7_without 79 = .ok (.iload_n 1, 1) := by decide +kernel
theorem dX7_without_80 : decode cX7_without 80 = .ok (.iaload, 1) := by decide +kernel
theorem dX7_without_81 : decode cX7_without 81 = .ok (.aload_n 0, 1) := by decide +kernel
theorem dX7_without_82 : decode cX7_without 82 = .ok (.getfield 73, 3) := by decide +kernel
theorem dX7_without_85 : decode cX7_without 85 = .ok (.iload_n 1, 1) := by decide +kernel
theorem dX7_without_86 : decode cX7_without 86 = .ok (.iaload, 1) := by decide +kernel
theorem dX7_without_87 : decode cX7_without 87 = .ok (.isub, 1) := by decide +kernel
theorem dX7_without_88 : decode cX7_without 88 = .ok (.ireturn, 1) := by decide +kernel
theorem dX7_runs_0 : decode cX7_runs 0 = .ok (.iload_n 1, 1) := by decide +kernel
theorem dX7_runs_1 : decode cX7_runs 1 = .ok (.i2l, 1) := by decide +kernel
theorem dX7_runs_2 : decode cX7_runs 2 = .ok (.lconst 1, 1) := by decide +kernel
theorem dX7_runs_3 : decode cX7_runs 3 = .ok (.ldc2_w 251, 3) := by decide +kernel
theorem dX7_runs_6 : decode cX7_runs 6 = .ok (.invokestatic 96, 3) := by decide +kernel
theorem dX7_runs_9 : decode cX7_runs 9 = .ok (.ifCond .eq 15, 3) := by decide +kernel
theorem dX7_runs_12 : decode cX7_runs 12 = .ok (.iload_n 2, 1) := by decide +kernel
theorem dX7_runs_13 : decode cX7_runs 13 = .ok (.i2l, 1) := by decide +kernel
theorem dX7_runs_14 : decode cX7_runs 14 = .ok (.lconst 0, 1) := by decide +kernel
theorem dX7_runs_15 : decode cX7_runs 15 = .ok (.ldc2_w 273, 3) := by decide +kernel
theorem dX7_runs_18 : decode cX7_runs 18 = .ok (.invokestatic 96, 3) := by decide +kernel
theorem dX7_runs_21 : decode cX7_runs 21 = .ok (.ifCond .ne 5, 3) := by decide +kernel
theorem dX7_runs_24 : decode cX7_runs 24 = .ok (.iconst (-1), 1) := by decide +kernel
theorem dX7_runs_25 : decode cX7_runs 25 = .ok (.ireturn, 1) := by decide +kernel
theorem dX7_runs_26 : decode cX7_runs 26 = .ok (.iconst 0, 1) := by decide +kernel
theorem dX7_runs_27 : decode cX7_runs 27 = .ok (.istore_n 3, 1) := by decide +kernel
theorem dX7_runs_28 : decode cX7_runs 28 = .ok (.aload_n 0, 1) := by decide +kernel
theorem dX7_runs_29 : decode cX7_runs 29 = .ok (.invokevirtual 255, 3) := by decide +kernel
theorem dX7_runs_32 : decode cX7_runs 32 = .ok (.iconst 0, 1) := by decide +kernel
theorem dX7_runs_33 : decode cX7_runs 33 = .ok (.istore 4, 2) := by decide +kernel
theorem dX7_runs_35 : decode cX7_runs 35 = .ok (.iload 4, 2) := by decide +kernel
theorem dX7_runs_37 : decode cX7_runs 37 = .ok (.iload_n 1, 1) := by decide +kernel
theorem dX7_runs_38 : decode cX7_runs 38 = .ok (.if_icmp .ge 63, 3) := by decide +kernel
theorem dX7_runs_41 : decode cX7_runs 41 = .ok (.aload_n 0, 1) := by decide +kernel
theorem dX7_runs_42 : decode cX7_runs 42 = .ok (.invokevirtual 214, 3) := by decide +kernel
theorem dX7_runs_45 : decode cX7_runs 45 = .ok (.iload_n 3, 1) := by decide +kernel
theorem dX7_runs_46 : decode cX7_runs 46 = .ok (.iload_n 2, 1) := by decide +kernel
theorem dX7_runs_47 : decode cX7_runs 47 = .ok (.ifCond .ne 10, 3) := by decide +kernel
theorem dX7_runs_50 : decode cX7_runs 50 = .ok (.aload_n 0, 1) := by decide +kernel
theorem dX7_runs_51 : decode cX7_runs 51 = .ok (.getfield 186, 3) := by decide +kernel
theorem dX7_runs_54 : decode cX7_runs 54 = .ok (.goto 39, 3) := by decide +kernel
theorem dX7_runs_57 : decode cX7_runs 57 = .ok (.iload_n 2, 1) := by decide +kernel
theorem dX7_runs_58 : decode cX7_runs 58 = .ok (.iconst 1, 1) := by decide +kernel
theorem dX7_runs_59 : decode cX7_runs 59 = .ok (.if_icmp .ne 10, 3) := by decide +kernel
theorem dX7_runs_62 : decode cX7_runs 62 = .ok (.aload_n 0, 1) := by decide +kernel
theorem dX7_runs_63 : decode cX7_runs 63 = .ok (.getfield 189, 3) := by decide +kernel
theorem dX7_runs_66 : decode cX7_runs 66 = .ok (.goto 27, 3) := by decide +kernel
theorem dX7_runs_69 : decode cX7_runs 69 = .ok (.iload_n 2, 1) := by decide +kernel
theorem dX7_runs_70 : decode cX7_runs 70 = .ok (.iconst 2, 1) := by decide +kernel
theorem dX7_runs_71 : decode cX7_runs 71 = .ok (.if_icmp .ne 10, 3) := by decide +kernel
theorem dX7_runs_74 : decode cX7_runs 74 = .ok (.aload_n 0, 1) := by decide +kernel
theorem dX7_runs_75 : decode cX7_runs 75 = .ok (.getfield 192, 3) := by decide +kernel
theorem dX7_runs_78 : decode cX7_runs 78 = .ok (.goto 15, 3) := by decide +kernel
theorem dX7_runs_81 : decode cX7_runs 81 = .ok (.aload_n 0, 1) := by decide +kernel
theorem dX7_runs_82 : decode cX7_runs 82 = .ok (.getfield 195, 3) := by decide +kernel
theorem dX7_runs_85 : decode cX7_runs 85 = .ok (.ifCond .eq 7, 3) := by decide +kernel
theorem dX7_runs_88 : decode cX7_runs 88 = .ok (.iconst 1, 1) := by decide +kernel
theorem dX7_runs_89 : decode cX7_runs 89 = .ok (.goto 4, 3) := by decide +kernel
theorem dX7_runs_92 : decode cX7_runs 92 = .ok (.iconst 0, 1) := by decide +kernel
theorem dX7_runs_93 : decode cX7_runs 93 = .ok (.iadd, 1) := by decide +kernel
theorem dX7_runs_94 : decode cX7_runs 94 = .ok (.istore_n 3, 1) := by decide +kernel
theorem dX7_runs_95 : decode cX7_runs 95 = .ok (.iinc 4 1, 3) := by decide +kernel
theorem dX7_runs_98 : decode cX7_runs 98 = .ok (.goto (-63), 3) := by decide +kernel
theorem dX7_runs_101 : decode cX7_runs 101 = .ok (.aload_n 0, 1) := by decide +kernel
theorem dX7_runs_102 : decode cX7_runs 102 = .ok (.invokevirtual 217, 3) := by decide +kernel
theorem dX7_runs_105 : decode cX7_runs 105 = .ok (.iload_n 3, 1) := by decide +kernel
theorem dX7_runs_106 : decode cX7_runs 106 = .ok (.ireturn, 1) := by decide +kernel
theorem dX7_dry_0 : decode cX7_dry 0 = .ok (.iload_n 1, 1) := by decide +kernel
theorem dX7_dry_1 : decode cX7_dry 1 = .ok (.i2l, 1) := by decide +kernel
theorem dX7_dry_2 : decode cX7_dry 2 = .ok (.lconst 1, 1) := by decide +kernel
theorem dX7_dry_3 : decode cX7_dry 3 = .ok (.ldc2_w 467, 3) := by decide +kernel
theorem dX7_dry_6 : decode cX7_dry 6 = .ok (.invokestatic 96, 3) := by decide +kernel
theorem dX7_dry_9 : decode cX7_dry 9 = .ok (.ifCond .ne 5, 3) := by decide +kernel
theorem dX7_dry_12 : decode cX7_dry 12 = .ok (.iconst (-1), 1) := by decide +kernel
theorem dX7_dry_13 : decode cX7_dry 13 = .ok (.ireturn, 1) := by decide +kernel
theorem dX7_dry_14 : decode cX7_dry 14 = .ok (.aload_n 0, 1) := by decide +kernel
theorem dX7_dry_15 : decode cX7_dry 15 = .ok (.invokevirtual 255, 3) := by decide +kernel
theorem dX7_dry_18 : decode cX7_dry 18 = .ok (.iconst 0, 1) := by decide +kernel
theorem dX7_dry_19 : decode cX7_dry 19 = .ok (.istore_n 2, 1) := by decide +kernel
theorem dX7_dry_20 : decode cX7_dry 20 = .ok (.iload_n 2, 1) := by decide +kernel
theorem dX7_dry_21 : decode cX7_dry 21 = .ok (.sipush 400, 3) := by decide +kernel
theorem dX7_dry_24 : decode cX7_dry 24 = .ok (.if_icmp .gt 26, 3) := by decide +kernel
theorem dX7_dry_27 : decode cX7_dry 27 = .ok (.aload_n 0, 1) := by decide +kernel
theorem dX7_dry_28 : decode cX7_dry 28 = .ok (.getfield 7, 3) := by decide +kernel
theorem dX7_dry_31 : decode cX7_dry 31 = .ok (.iconst 4, 1) := by decide +kernel
theorem dX7_dry_32 : decode cX7_dry 32 = .ok (.iload_n 2, 1) := by decide +kernel
theorem dX7_dry_33 : decode cX7_dry 33 = .ok (.iastore, 1) := by decide +kernel
theorem dX7_dry_34 : decode cX7_dry 34 = .ok (.aload_n 0, 1) := by decide +kernel
theorem dX7_dry_35 : decode cX7_dry 35 = .ok (.iload_n 1, 1) := by decide +kernel
theorem dX7_dry_36 : decode cX7_dry 36 = .ok (.invokevirtual 469, 3) := by decide +kernel
theorem dX7_dry_39 : decode cX7_dry 39 = .ok (.ifCond .eq 5, 3) := by decide +kernel
theorem dX7_dry_42 : decode cX7_dry 42 = .ok (.iload_n 2, 1) := by decide +kernel
theorem dX7_dry_43 : decode cX7_dry 43 = .ok (.ireturn, 1) := by decide +kernel
theorem dX7_dry_44 : decode cX7_dry 44 = .ok (.iinc 2 1, 3) := by decide +kernel
theorem dX7_dry_47 : decode cX7_dry 47 = .ok (.goto (-27), 3) := by decide +kernel
theorem dX7_dry_50 : decode cX7_dry 50 = .ok (.bipush (-2), 2) := by decide +kernel
theorem dX7_dry_52 : decode cX7_dry 52 = .ok (.ireturn, 1) := by decide +kernel
theorem dX7_full_0 : decode cX7_full 0 = .ok (.aload_n 0, 1) := by decide +kernel
theorem dX7_full_1 : decode cX7_full 1 = .ok (.iload_n 1, 1) := by decide +kernel
theorem dX7_full_2 : decode cX7_full 2 = .ok (.invokevirtual 234, 3) := by decide +kernel
theorem dX7_full_5 : decode cX7_full 5 = .ok (.ifCond .eq 13, 3) := by decide +kernel
theorem dX7_full_8 : decode cX7_full 8 = .ok (.iload_n 2, 1) := by decide +kernel
theorem dX7_full_9 : decode cX7_full 9 = .ok (.i2l, 1) := by decide +kernel
theorem dX7_full_10 : decode cX7_full 10 = .ok (.lconst 0, 1) := by decide +kernel
theorem dX7_full_11 : decode cX7_full 11 = .ok (.lconst 1, 1) := by decide +kernel
theorem dX7_full_12 : decode cX7_full 12 = .ok (.invokestatic 96, 3) := by decide +kernel
theorem dX7_full_15 : decode cX7_full 15 = .ok (.ifCond .ne 5, 3) := by decide +kernel
theorem dX7_full_18 : decode cX7_full 18 = .ok (.iconst (-1), 1) := by decide +kernel
theorem dX7_full_19 : decode cX7_full 19 = .ok (.ireturn, 1) := by decide +kernel
theorem dX7_full_20 : decode cX7_full 20 = .ok (.bipush (-2), 2) := by decide +kernel
theorem dX7_full_22 : decode cX7_full 22 = .ok (.istore_n 3, 1) := by decide +kernel
theorem dX7_full_23 : decode cX7_full 23 = .ok (.iload_n 2, 1) := by decide +kernel
theorem dX7_full_24 : decode cX7_full 24 = .ok (.ifCond .ne 12, 3) := by decide +kernel
theorem dX7_full_27 : decode cX7_full 27 = .ok (.aload_n 0, 1) := by decide +kernel
theorem dX7_full_28 : decode cX7_full 28 = .ok (.iload_n 1, 1) := by decide +kernel
theorem dX7_full_29 : decode cX7_full 29 = .ok (.iconst 1, 1) := by decide +kernel
theorem dX7_full_30 : decode cX7_full 30 = .ok (.invokevirtual 116, 3) := by decide +kernel
theorem dX7_full_33 : decode cX7_full 33 = .ok (.goto 4, 3) := by decide +kernel
theorem dX7_full_36 : decode cX7_full 36 = .ok (.iconst 0, 1) := by decide +kernel
theorem dX7_full_37 : decode cX7_full 37 = .ok (.istore 4, 2) := by decide +kernel
theorem dX7_full_39 : decode cX7_full 39 = .ok (.aload_n 0, 1) := by decide +kernel
theorem dX7_full_40 : decode cX7_full 40 = .ok (.invokevirtual 255, 3) := by decide +kernel
theorem dX7_full_43 : decode cX7_full 43 = .ok (.iconst 0, 1) := by decide +kernel
theorem dX7_full_44 : decode cX7_full 44 = .ok (.istore 5, 2) := by decide +kernel
theorem dX7_full_46 : decode cX7_full 46 = .ok (.iload 5, 2) := by decide +kernel
theorem dX7_full_48 : decode cX7_full 48 = .ok (.sipush 360, 3) := by decide +kernel
theorem dX7_full_51 : decode cX7_full 51 = .ok (.if_icmp .gt 36, 3) := by decide +kernel
theorem dX7_full_54 : decode cX7_full 54 = .ok (.iload_n 3, 1) := by decide +kernel
theorem dX7_full_55 : decode cX7_full 55 = .ok (.bipush (-2), 2) := by decide +kernel
theorem dX7_full_57 : decode cX7_full 57 = .ok (.if_icmp .ne 30, 3) := by decide +kernel
theorem dX7_full_60 : decode cX7_full 60 = .ok (.aload_n 0, 1) := by decide +kernel
theorem dX7_full_61 : decode cX7_full 61 = .ok (.iload_n 1, 1) := by decide +kernel
theorem dX7_full_62 : decode cX7_full 62 = .ok (.iconst 4, 1) := by decide +kernel
theorem dX7_full_63 : decode cX7_full 63 = .ok (.invokevirtual 116, 3) := by decide +kernel
theorem dX7_full_66 : decode cX7_full 66 = .ok (.iload 4, 2) := by decide +kernel
theorem dX7_full_68 : decode cX7_full 68 = .ok (.if_icmp .ne 9, 3) := by decide +kernel
theorem dX7_full_71 : decode cX7_full 71 = .ok (.iload 5, 2) := by decide +kernel
theorem dX7_full_73 : decode cX7_full 73 = .ok (.istore_n 3, 1) := by decide +kernel
theorem dX7_full_74 : decode cX7_full 74 = .ok (.goto 7, 3) := by decide +kernel
theorem dX7_full_77 : decode cX7_full 77 = .ok (.aload_n 0, 1) := by decide +kernel
theorem dX7_full_78 : decode cX7_full 78 = .ok (.invokevirtual 214, 3) := by decide +kernel
theorem dX7_full_81 : decode cX7_full 81 = .ok (.iinc 5 1, 3) := by decide +kernel
theorem dX7_full_84 : decode cX7_full 84 = .ok (.goto (-38), 3) := by decide +kernel
theorem dX7_full_87 : decode cX7_full 87 = .ok (.aload_n 0, 1) := by decide +kernel
theorem dX7_full_88 : decode cX7_full 88 = .ok (.invokevirtual 217, 3) := by decide +kernel
theorem dX7_full_91 : decode cX7_full 91 = .ok (.iload_n 3, 1) := by decide +kernel
theorem dX7_full_92 : decode cX7_full 92 = .ok (.ireturn, 1) := by decide +kernel
theorem dX7_swap_0 : decode cX7_swap 0 = .ok (.aload_n 0, 1) := by decide +kernel
theorem dX7_swap_1 : decode cX7_swap 1 = .ok (.iload_n 1, 1) := by decide +kernel
theorem dX7_swap_2 : decode cX7_swap 2 = .ok (.invokevirtual 229, 3) := by decide +kernel
theorem dX7_swap_5 : decode cX7_swap 5 = .ok (.ifCond .eq 39, 3) := by decide +kernel
theorem dX7_swap_8 : decode cX7_swap 8 = .ok (.aload_n 0, 1) := by decide +kernel
theorem dX7_swap_9 : decode cX7_swap 9 = .ok (.iload_n 2, 1) := by decide +kernel
theorem dX7_swap_10 : decode cX7_swap 10 = .ok (.invokevirtual 229, 3) := by decide +kernel
theorem dX7_swap_13 : decode cX7_swap 13 = .ok (.ifCond .eq 31, 3) := by decide +kernel
theorem dX7_swap_16 : decode cX7_swap 16 = .ok (.iload_n 1, 1) := by decide +kernel
theorem dX7_swap_17 : decode cX7_swap 17 = .ok (.iload_n 2, 1) := by decide +kernel
theorem dX7_swap_18 : decode cX7_swap 18 = .ok (.if_icmp .eq 26, 3) := by decide +kernel
theorem dX7_swap_21 : decode cX7_swap 21 = .ok (.iload_n 3, 1) := by decide +kernel
theorem dX7_swap_22 : decode cX7_swap 22 = .ok (.i2l, 1) := by decide +kernel
theorem dX7_swap_23 : decode cX7_swap 23 = .ok (.lconst 1, 1) := by decide +kernel
theorem dX7_swap_24 : decode cX7_swap 24 = .ok (.ldc2_w 251, 3) := by decide +kernel
theorem dX7_swap_27 : decode cX7_swap 27 = .ok (.invokestatic 96, 3) := by decide +kernel
theorem dX7_swap_30 : decode cX7_swap 30 = .ok (.ifCond .eq 14, 3) := by decide +kernel
theorem dX7_swap_33 : decode cX7_swap 33 = .ok (.iload 4, 2) := by decide +kernel
theorem dX7_swap_35 : decode cX7_swap 35 = .ok (.i2l, 1) := by decide +kernel
theorem dX7_swap_36 : decode cX7_swap 36 = .ok (.lconst 0, 1) := by decide +kernel
theorem dX7_swap_37 : decode cX7_swap 37 = .ok (.lconst 1, 1) := by decide +kernel
theorem dX7_swap_38 : decode cX7_swap 38 = .ok (.invokestatic 96, 3) := by decide +kernel
theorem dX7_swap_41 : decode cX7_swap 41 = .ok (.ifCond .ne 7, 3) := by decide +kernel
theorem dX7_swap_44 : decode cX7_swap 44 = .ok (.ldc_w 258, 3) := by decide +kernel
theorem dX7_swap_47 : decode cX7_swap 47 = .ok (.ireturn, 1) := by decide +kernel
theorem dX7_swap_48 : decode cX7_swap 48 = .ok (.iload 4, 2) := by decide +kernel
theorem dX7_swap_50 : decode cX7_swap 50 = .ok (.ifCond .ne 7, 3) := by decide +kernel
theorem dX7_swap_53 : decode cX7_swap 53 = .ok (.iload_n 1, 1) := by decide +kernel
theorem dX7_swap_54 : decode cX7_swap 54 = .ok (.goto 4, 3) := by decide +kernel
theorem dX7_swap_57 : decode cX7_swap 57 = .ok (.iload_n 2, 1) := by decide +kernel
theorem dX7_swap_58 : decode cX7_swap 58 = .ok (.istore 5, 2) := by decide +kernel
theorem dX7_swap_60 : decode cX7_swap 60 = .ok (.aload_n 0, 1) := by decide +kernel
theorem dX7_swap_61 : decode cX7_swap 61 = .ok (.invokevirtual 255, 3) := by decide +kernel
theorem dX7_swap_64 : decode cX7_swap 64 = .ok (.aload_n 0, 1) := by decide +kernel
theorem dX7_swap_65 : decode cX7_swap 65 = .ok (.iload_n 3, 1) := by decide +kernel
theorem dX7_swap_66 : decode cX7_swap 66 = .ok (.aload_n 0, 1) := by decide +kernel
theorem dX7_swap_67 : decode cX7_swap 67 = .ok (.getfield 73, 3) := by decide +kernel
theorem dX7_swap_70 : decode cX7_swap 70 = .ok (.invokevirtual 259, 3) := by decide +kernel
theorem dX7_swap_73 : decode cX7_swap 73 = .ok (.aload_n 0, 1) := by decide +kernel
theorem dX7_swap_74 : decode cX7_swap 74 = .ok (.iload_n 1, 1) := by decide +kernel
theorem dX7_swap_75 : decode cX7_swap 75 = .ok (.iload_n 2, 1) := by decide +kernel
theorem dX7_swap_76 : decode cX7_swap 76 = .ok (.invokevirtual 472, 3) := by decide +kernel
theorem dX7_swap_79 : decode cX7_swap 79 = .ok (.aload_n 0, 1) := by decide +kernel
theorem dX7_swap_80 : decode cX7_swap 80 = .ok (.iload_n 3, 1) := by decide +kernel
theorem dX7_swap_81 : decode cX7_swap 81 = .ok (.aload_n 0, 1) := by decide +kernel
theorem dX7_swap_82 : decode cX7_swap 82 = .ok (.getfield 76, 3) := by decide +kernel
theorem dX7_swap_85 : decode cX7_swap 85 = .ok (.invokevirtual 259, 3) := by decide +kernel
theorem dX7_swap_88 : decode cX7_swap 88 = .ok (.aload_n 0, 1) := by decide +kernel
theorem dX7_swap_89 : decode cX7_swap 89 = .ok (.getfield 76, 3) := by decide +kernel
theorem dX7_swap_92 : decode cX7_swap 92 = .ok (.iload 5, 2) := by decide +kernel
theorem dX7_swap_94 : decode cX7_swap 94 = .ok (.iaload, 1) := by decide +kernel
theorem dX7_swap_95 : decode cX7_swap 95 = .ok (.aload_n 0, 1) := by decide +kernel
theorem dX7_swap_96 : decode cX7_swap 96 = .ok (.getfield 73, 3) := by decide +kernel
theorem dX7_swap_99 : decode cX7_swap 99 = .ok (.iload 5, 2) := by decide +kernel
theorem dX7_swap_101 : decode cX7_swap 101 = .ok (.iaload, 1) := by decide +kernel
theorem dX7_swap_102 : decode cX7_swap 102 = .ok (.isub, 1) := by decide +kernel
theorem dX7_swap_103 : decode cX7_swap 103 = .ok (.ireturn, 1) := by decide +kernel
theorem dX7_spell__0 : decode cX7_spell_ 0 = .ok (.aload_n 0, 1) := by decide +kernel
theorem dX7_spell__1 : decode cX7_spell_ 1 = .ok (.iload_n 1, 1) := by decide +kernel
theorem dX7_spell__2 : decode cX7_spell_ 2 = .ok (.invokevirtual 229, 3) := by decide +kernel
theorem dX7_spell__5 : decode cX7_spell_ 5 = .ok (.ifCond .eq 25, 3) := by decide +kernel
theorem dX7_spell__8 : decode cX7_spell_ 8 = .ok (.iload_n 2, 1) := by decide +kernel
theorem dX7_spell__9 : decode cX7_spell_ 9 = .ok (.i2l, 1) := by decide +kernel
theorem dX7_spell__10 : decode cX7_spell_ 10 = .ok (.lconst 1, 1) := by decide +kernel
theorem dX7_spell__11 : decode cX7_spell_ 11 = .ok (.ldc2_w 251, 3) := by decide +kernel
theorem dX7_spell__14 : decode cX7_spell_ 14 = .ok (.invokestatic 96, 3) := by decide +kernel
theorem dX7_spell__17 : decode cX7_spell_ 17 = .ok (.ifCond .eq 13, 3) := by decide +kernel
theorem dX7_spell__20 : decode cX7_spell_ 20 = .ok (.iload_n 3, 1) := by decide +kernel
theorem dX7_spell__21 : decode cX7_spell_ 21 = .ok (.i2l, 1) := by decide +kernel
theorem dX7_spell__22 : decode cX7_spell_ 22 = .ok (.lconst 0, 1) := by decide +kernel
theorem dX7_spell__23 : decode cX7_spell_ 23 = .ok (.lconst 1, 1) := by decide +kernel
theorem dX7_spell__24 : decode cX7_spell_ 24 = .ok (.invokestatic 96, 3) := by decide +kernel
theorem dX7_spell__27 : decode cX7_spell_ 27 = .ok (.ifCond .ne 5, 3) := by decide +kernel
theorem dX7_spell__30 : decode cX7_spell_ 30 = .ok (.iconst (-1), 1) := by decide +kernel
theorem dX7_spell__31 : decode cX7_spell_ 31 = .ok (.ireturn, 1) := by decide +kernel
theorem dX7_spell__32 : decode cX7_spell_ 32 = .ok (.bipush (-2), 2) := by decide +kernel
theorem dX7_spell__34 : decode cX7_spell_ 34 = .ok (.istore 4, 2) := by decide +kernel
theorem dX7_spell__36 : decode cX7_spell_ 36 = .ok (.iconst 0, 1) := by decide +kernel
theorem dX7_spell__37 : decode cX7_spell_ 37 = .ok (.istore 5, 2) := by decide +kernel
theorem dX7_spell__39 : decode cX7_spell_ 39 = .ok (.iconst 0, 1) := by decide +kernel
theorem dX7_spell__40 : decode cX7_spell_ 40 = .ok (.istore 6, 2) := by decide +kernel
theorem dX7_spell__42 : decode cX7_spell_ 42 = .ok (.aload_n 0, 1) := by decide +kernel
theorem dX7_spell__43 : decode cX7_spell_ 43 = .ok (.invokevirtual 255, 3) := by decide +kernel
theorem dX7_spell__46 : decode cX7_spell_ 46 = .ok (.iconst 0, 1) := by decide +kernel
theorem dX7_spell__47 : decode cX7_spell_ 47 = .ok (.istore 7, 2) := by decide +kernel
theorem dX7_spell__49 : decode cX7_spell_ 49 = .ok (.iload 7, 2) := by decide +kernel
theorem dX7_spell__51 : decode cX7_spell_ 51 = .ok (.iload_n 2, 1) := by decide +kernel
theorem dX7_spell__52 : decode cX7_spell_ 52 = .ok (.if_icmp .ge 62, 3) := by decide +kernel
theorem dX7_spell__55 : decode cX7_spell_ 55 = .ok (.aload_n 0, 1) := by decide +kernel
theorem dX7_spell__56 : decode cX7_spell_ 56 = .ok (.invokevirtual 202, 3) := by decide +kernel
theorem dX7_spell__59 : decode cX7_spell_ 59 = .ok (.aload_n 0, 1) := by decide +kernel
theorem dX7_spell__60 : decode cX7_spell_ 60 = .ok (.iload_n 1, 1) := by decide +kernel
theorem dX7_spell__61 : decode cX7_spell_ 61 = .ok (.invokevirtual 199, 3) := by decide +kernel
theorem dX7_spell__64 : decode cX7_spell_ 64 = .ok (.ifCond .eq 10, 3) := by decide +kernel
theorem dX7_spell__67 : decode cX7_spell_ 67 = .ok (.iload 5, 2) := by decide +kernel
theorem dX7_spell__69 : decode cX7_spell_ 69 = .ok (.iconst 1, 1) := by decide +kernel
theorem dX7_spell__70 : decode cX7_spell_ 70 = .ok (.iadd, 1) := by decide +kernel
theorem dX7_spell__71 : decode cX7_spell_ 71 = .ok (.goto 4, 3) := by decide +kernel
theorem dX7_spell__74 : decode cX7_spell_ 74 = .ok (.iconst 0, 1) := by decide +kernel
theorem dX7_spell__75 : decode cX7_spell_ 75 = .ok (.istore 5, 2) := by decide +kernel
theorem dX7_spell__77 : decode cX7_spell_ 77 = .ok (.iload 5, 2) := by decide +kernel
theorem dX7_spell__79 : decode cX7_spell_ 79 = .ok (.ifCond .le 14, 3) := by decide +kernel
theorem dX7_spell__82 : decode cX7_spell_ 82 = .ok (.iload 4, 2) := by decide +kernel
theorem dX7_spell__84 : decode cX7_spell_ 84 = .ok (.bipush (-2), 2) := by decide +kernel
theorem dX7_spell__86 : decode cX7_spell_ 86 = .ok (.if_icmp .ne 7, 3) := by decide +kernel
theorem dX7_spell__89 : decode cX7_spell_ 89 = .ok (.iload 7, 2) := by decide +kernel
theorem dX7_spell__91 : decode cX7_spell_ 91 = .ok (.istore 4, 2) := by decide +kernel
theorem dX7_spell__93 : decode cX7_spell_ 93 = .ok (.iload 5, 2) := by decide +kernel
theorem dX7_spell__95 : decode cX7_spell_ 95 = .ok (.iload 6, 2) := by decide +kernel
theorem dX7_spell__97 : decode cX7_spell_ 97 = .ok (.if_icmp .le 7, 3) := by decide +kernel
theorem dX7_spell__100 : decode cX7_spell_ 100 = .ok (.iload 5, 2) := by decide +kernel
theorem dX7_spell__102 : decode cX7_spell_ 102 = .ok (.istore 6, 2) := by decide +kernel
theorem dX7_spell__104 : decode cX7_spell_ 104 = .ok (.aload_n 0, 1) := by decide +kernel
theorem dX7_spell__105 : decode cX7_spell_ 105 = .ok (.invokevirtual 214, 3) := by decide +kernel
theorem dX7_spell__108 : decode cX7_spell_ 108 = .ok (.iinc 7 1, 3) := by decide +kernel
theorem dX7_spell__111 : decode cX7_spell_ 111 = .ok (.goto (-62), 3) := by decide +kernel
theorem dX7_spell__114 : decode cX7_spell_ 114 = .ok (.aload_n 0, 1) := by decide +kernel
theorem dX7_spell__115 : decode cX7_spell_ 115 = .ok (.invokevirtual 217, 3) := by decide +kernel
theorem dX7_spell__118 : decode cX7_spell_ 118 = .ok (.iload_n 3, 1) := by decide +kernel
theorem dX7_spell__119 : decode cX7_spell_ 119 = .ok (.ifCond .ne 8, 3) := by decide +kernel
theorem dX7_spell__122 : decode cX7_spell_ 122 = .ok (.iload 4, 2) := by decide +kernel
theorem dX7_spell__124 : decode cX7_spell_ 124 = .ok (.goto 5, 3) := by decide +kernel
theorem dX7_spell__127 : decode cX7_spell_ 127 = .ok (.iload 6, 2) := by decide +kernel
theorem dX7_spell__129 : decode cX7_spell_ 129 = .ok (.ireturn, 1) := by decide +kernel
theorem dX7_share_0 : decode cX7_share 0 = .ok (.iload_n 1, 1) := by decide +kernel
theorem dX7_share_1 : decode cX7_share 1 = .ok (.iconst (-1), 1) := by decide +kernel
theorem dX7_share_2 : decode cX7_share 2 = .ok (.if_icmp .eq 11, 3) := by decide +kernel
theorem dX7_share_5 : decode cX7_share 5 = .ok (.aload_n 0, 1) := by decide +kernel
theorem dX7_share_6 : decode cX7_share 6 = .ok (.iload_n 1, 1) := by decide +kernel
theorem dX7_share_7 : decode cX7_share 7 = .ok (.invokevirtual 229, 3) := by decide +kernel
theorem dX7_share_10 : decode cX7_share 10 = .ok (.ifCond .eq 15, 3) := by decide +kernel
theorem dX7_share_13 : decode cX7_share 13 = .ok (.iload_n 2, 1) := by decide +kernel
theorem dX7_share_14 : decode cX7_share 14 = .ok (.i2l, 1) := by decide +kernel
theorem dX7_share_15 : decode cX7_share 15 = .ok (.lconst 1, 1) := by decide +kernel
theorem dX7_share_16 : decode cX7_share 16 = .ok (.ldc2_w 251, 3) := by decide +kernel
theorem dX7_share_19 : decode cX7_share 19 = .ok (.invokestatic 96, 3) := by decide +kernel
theorem dX7_share_22 : decode cX7_share 22 = .ok (.ifCond .ne 5, 3) := by decide +kernel
theorem dX7_share_25 : decode cX7_share 25 = .ok (.iconst (-1), 1) := by decide +kernel
theorem dX7_share_26 : decode cX7_share 26 = .ok (.ireturn, 1) := by decide +kernel
theorem dX7_share_27 : decode cX7_share 27 = .ok (.aload_n 0, 1) := by decide +kernel
theorem dX7_share_28 : decode cX7_share 28 = .ok (.iload_n 2, 1) := by decide +kernel
theorem dX7_share_29 : decode cX7_share 29 = .ok (.invokevirtual 481, 3) := by decide +kernel
theorem dX7_share_32 : decode cX7_share 32 = .ok (.iload_n 1, 1) := by decide +kernel
theorem dX7_share_33 : decode cX7_share 33 = .ok (.iconst (-1), 1) := by decide +kernel
theorem dX7_share_34 : decode cX7_share 34 = .ok (.if_icmp .eq 19, 3) := by decide +kernel
theorem dX7_share_37 : decode cX7_share 37 = .ok (.aload_n 0, 1) := by decide +kernel
theorem dX7_share_38 : decode cX7_share 38 = .ok (.getfield 89, 3) := by decide +kernel
theorem dX7_share_41 : decode cX7_share 41 = .ok (.iload_n 1, 1) := by decide +kernel
theorem dX7_share_42 : decode cX7_share 42 = .ok (.laload, 1) := by decide +kernel
theorem dX7_share_43 : decode cX7_share 43 = .ok (.aload_n 0, 1) := by decide +kernel
theorem dX7_share_44 : decode cX7_share 44 = .ok (.getfield 86, 3) := by decide +kernel
theorem dX7_share_47 : decode cX7_share 47 = .ok (.iload_n 1, 1) := by decide +kernel
theorem dX7_share_48 : decode cX7_share 48 = .ok (.laload, 1) := by decide +kernel
theorem dX7_share_49 : decode cX7_share 49 = .ok (.invokestatic 484, 3) := by decide +kernel
theorem dX7_share_52 : decode cX7_share 52 = .ok (.ireturn, 1) := by decide +kernel
theorem dX7_share_53 : decode cX7_share 53 = .ok (.lconst 0, 1) := by decide +kernel
theorem dX7_share_54 : decode cX7_share 54 = .ok (.lstore_n 3, 1) := by decide +kernel
theorem dX7_share_55 : decode cX7_share 55 = .ok (.lconst 0, 1) := by decide +kernel
theorem dX7_share_56 : decode cX7_share 56 = .ok (.lstore 5, 2) := by decide +kernel
theorem dX7_share_58 : decode cX7_share 58 = .ok (.iconst 0, 1) := by decide +kernel
theorem dX7_share_59 : decode cX7_share 59 = .ok (.istore 7, 2) := by decide +kernel
theorem dX7_share_61 : decode cX7_share 61 = .ok (.iload 7, 2) := by decide +kernel
theorem dX7_share_63 : decode cX7_share 63 = .ok (.aload_n 0, 1) := by decide +kernel
theorem dX7_share_64 : decode cX7_share 64 = .ok (.invokevirtual 100, 3) := by decide +kernel
theorem dX7_share_67 : decode cX7_share 67 = .ok (.if_icmp .ge 31, 3) := by decide +kernel
theorem dX7_share_70 : decode cX7_share 70 = .ok (.lload_n 3, 1) := by decide +kernel
theorem dX7_share_71 : decode cX7_share 71 = .ok (.aload_n 0, 1) := by decide +kernel
theorem dX7_share_72 : decode cX7_share 72 = .ok (.getfield 89, 3) := by decide +kernel
theorem dX7_share_75 : decode cX7_share 75 = .ok (.iload 7, 2) := by decide +kernel
theorem dX7_share_77 : decode cX7_share 77 = .ok (.laload, 1) := by decide +kernel
theorem dX7_share_78 : decode cX7_share 78 = .ok (.ladd, 1) := by decide +kernel
theorem dX7_share_79 : decode cX7_share 79 = .ok (.lstore_n 3, 1) := by decide +kernel
theorem dX7_share_80 : decode cX7_share 80 = .ok (.lload 5, 2) := by decide +kernel
theorem dX7_share_82 : decode cX7_share 82 = .ok (.aload_n 0, 1) := by decide +kernel
theorem dX7_share_83 : decode cX7_share 83 = .ok (.getfield 86, 3) := by decide +kernel
theorem dX7_share_86 : decode cX7_share 86 = .ok (.iload 7, 2) := by decide +kernel
theorem dX7_share_88 : decode cX7_share 88 = .ok (.laload, 1) := by decide +kernel
theorem dX7_share_89 : decode cX7_share 89 = .ok (.ladd, 1) := by decide +kernel
theorem dX7_share_90 : decode cX7_share 90 = .ok (.lstore 5, 2) := by decide +kernel
theorem dX7_share_92 : decode cX7_share 92 = .ok (.iinc 7 1, 3) := by decide +kernel
theorem dX7_share_95 : decode cX7_share 95 = .ok (.goto (-34), 3) := by decide +kernel
theorem dX7_share_98 : decode cX7_share 98 = .ok (.lload_n 3, 1) := by decide +kernel
theorem dX7_share_99 : decode cX7_share 99 = .ok (.lload 5, 2) := by decide +kernel
theorem dX7_share_101 : decode cX7_share 101 = .ok (.invokestatic 484, 3) := by decide +kernel
theorem dX7_share_104 : decode cX7_share 104 = .ok (.ireturn, 1) := by decide +kernel
theorem dX7_worst_0 : decode cX7_worst 0 = .ok (.iload_n 1, 1) := by decide +kernel
theorem dX7_worst_1 : decode cX7_worst 1 = .ok (.i2l, 1) := by decide +kernel
theorem dX7_worst_2 : decode cX7_worst 2 = .ok (.lconst 1, 1) := by decide +kernel
theorem dX7_worst_3 : decode cX7_worst 3 = .ok (.ldc2_w 251, 3) := by decide +kernel
theorem dX7_worst_6 : decode cX7_worst 6 = .ok (.invokestatic 96, 3) := by decide +kernel
theorem dX7_worst_9 : decode cX7_worst 9 = .ok (.ifCond .ne 5, 3) := by decide +kernel
theorem dX7_worst_12 : decode cX7_worst 12 = .ok (.iconst (-1), 1) := by decide +kernel
theorem dX7_worst_13 : decode cX7_worst 13 = .ok (.ireturn, 1) := by decide +kernel
theorem dX7_worst_14 : decode cX7_worst 14 = .ok (.aload_n 0, 1) := by decide +kernel
theorem dX7_worst_15 : decode cX7_worst 15 = .ok (.iload_n 1, 1) := by decide +kernel
theorem dX7_worst_16 : decode cX7_worst 16 = .ok (.invokevirtual 481, 3) := by decide +kernel
theorem dX7_worst_19 : decode cX7_worst 19 = .ok (.bipush (-2), 2) := by decide +kernel
theorem dX7_worst_21 : decode cX7_worst 21 = .ok (.istore_n 2, 1) := by decide +kernel
theorem dX7_worst_22 : decode cX7_worst 22 = .ok (.iconst 0, 1) := by decide +kernel
theorem dX7_worst_23 : decode cX7_worst 23 = .ok (.istore_n 3, 1) := by decide +kernel
theorem dX7_worst_24 : decode cX7_worst 24 = .ok (.iload_n 3, 1) := by decide +kernel
theorem dX7_worst_25 : decode cX7_worst 25 = .ok (.aload_n 0, 1) := by decide +kernel
theorem dX7_worst_26 : decode cX7_worst 26 = .ok (.invokevirtual 100, 3) := by decide +kernel
theorem dX7_worst_29 : decode cX7_worst 29 = .ok (.if_icmp .ge 50, 3) := by decide +kernel
theorem dX7_worst_32 : decode cX7_worst 32 = .ok (.iload_n 2, 1) := by decide +kernel
theorem dX7_worst_33 : decode cX7_worst 33 = .ok (.bipush (-2), 2) := by decide +kernel
theorem dX7_worst_35 : decode cX7_worst 35 = .ok (.if_icmp .eq 36, 3) := by decide +kernel
theorem dX7_worst_38 : decode cX7_worst 38 = .ok (.aload_n 0, 1) := by decide +kernel
theorem dX7_worst_39 : decode cX7_worst 39 = .ok (.getfield 89, 3) := by decide +kernel
theorem dX7_worst_42 : decode cX7_worst 42 = .ok (.iload_n 3, 1) := by decide +kernel
theorem dX7_worst_43 : decode cX7_worst 43 = .ok (.laload, 1) := by decide +kernel
theorem dX7_worst_44 : decode cX7_worst 44 = .ok (.aload_n 0, 1) := by decide +kernel
theorem dX7_worst_45 : decode cX7_worst 45 = .ok (.getfield 86, 3) := by decide +kernel
theorem dX7_worst_48 : decode cX7_worst 48 = .ok (.iload_n 3, 1) := by decide +kernel
theorem dX7_worst_49 : decode cX7_worst 49 = .ok (.laload, 1) := by decide +kernel
theorem dX7_worst_50 : decode cX7_worst 50 = .ok (.invokestatic 484, 3) := by decide +kernel
theorem dX7_worst_53 : decode cX7_worst 53 = .ok (.aload_n 0, 1) := by decide +kernel
theorem dX7_worst_54 : decode cX7_worst 54 = .ok (.getfield 89, 3) := by decide +kernel
theorem dX7_worst_57 : decode cX7_worst 57 = .ok (.iload_n 2, 1) := by decide +kernel
theorem dX7_worst_58 : decode cX7_worst 58 = .ok (.laload, 1) := by decide +kernel
theorem dX7_worst_59 : decode cX7_worst 59 = .ok (.aload_n 0, 1) := by decide +kernel
theorem dX7_worst_60 : decode cX7_worst 60 = .ok (.getfield 86, 3) := by decide +kernel
theorem dX7_worst_63 : decode cX7_worst 63 = .ok (.iload_n 2, 1) := by decide +kernel
theorem dX7_worst_64 : decode cX7_worst 64 = .ok (.laload, 1) := by decide +kernel
theorem dX7_worst_65 : decode cX7_worst 65 = .ok (.invokestatic 484, 3) := by decide +kernel
theorem dX7_worst_68 : decode cX7_worst 68 = .ok (.if_icmp .ge 5, 3) := by decide +kernel
theorem dX7_worst_71 : decode cX7_worst 71 = .ok (.iload_n 3, 1) := by decide +kernel
theorem dX7_worst_72 : decode cX7_worst 72 = .ok (.istore_n 2, 1) := by decide +kernel
theorem dX7_worst_73 : decode cX7_worst 73 = .ok (.iinc 3 1, 3) := by decide +kernel
theorem dX7_worst_76 : decode cX7_worst 76 = .ok (.goto (-52), 3) := by decide +kernel
theorem dX7_worst_79 : decode cX7_worst 79 = .ok (.iload_n 2, 1) := by decide +kernel
theorem dX7_worst_80 : decode cX7_worst 80 = .ok (.ireturn, 1) := by decide +kernel
theorem dX7_gain_0 : decode cX7_gain 0 = .ok (.aload_n 0, 1) := by decide +kernel
theorem dX7_gain_1 : decode cX7_gain 1 = .ok (.iload_n 1, 1) := by decide +kernel
theorem dX7_gain_2 : decode cX7_gain 2 = .ok (.invokevirtual 220, 3) := by decide +kernel
theorem dX7_gain_5 : decode cX7_gain 5 = .ok (.ifCond .eq 27, 3) := by decide +kernel
theorem dX7_gain_8 : decode cX7_gain 8 = .ok (.iload_n 2, 1) := by decide +kernel
theorem dX7_gain_9 : decode cX7_gain 9 = .ok (.i2l, 1) := by decide +kernel
theorem dX7_gain_10 : decode cX7_gain 10 = .ok (.lconst 0, 1) := by decide +kernel
theorem dX7_gain_11 : decode cX7_gain 11 = .ok (.ldc2_w 311, 3) := by decide +kernel
theorem dX7_gain_14 : decode cX7_gain 14 = .ok (.invokestatic 96, 3) := by decide +kernel
theorem dX7_gain_17 : decode cX7_gain 17 = .ok (.ifCond .eq 15, 3) := by decide +kernel
theorem dX7_gain_20 : decode cX7_gain 20 = .ok (.iload_n 3, 1) := by decide +kernel
theorem dX7_gain_21 : decode cX7_gain 21 = .ok (.i2l, 1) := by decide +kernel
theorem dX7_gain_22 : decode cX7_gain 22 = .ok (.lconst 1, 1) := by decide +kernel
theorem dX7_gain_23 : decode cX7_gain 23 = .ok (.ldc2_w 251, 3) := by decide +kernel
theorem dX7_gain_26 : decode cX7_gain 26 = .ok (.invokestatic 96, 3) := by decide +kernel
theorem dX7_gain_29 : decode cX7_gain 29 = .ok (.ifCond .ne 7, 3) := by decide +kernel
theorem dX7_gain_32 : decode cX7_gain 32 = .ok (.ldc_w 258, 3) := by decide +kernel
theorem dX7_gain_35 : decode cX7_gain 35 = .ok (.ireturn, 1) := by decide +kernel
theorem dX7_gain_36 : decode cX7_gain 36 = .ok (.aload_n 0, 1) := by decide +kernel
theorem dX7_gain_37 : decode cX7_gain 37 = .ok (.invokevirtual 255, 3) := by decide +kernel
theorem dX7_gain_40 : decode cX7_gain 40 = .ok (.aload_n 0, 1) := by decide +kernel
theorem dX7_gain_41 : decode cX7_gain 41 = .ok (.iload_n 3, 1) := by decide +kernel
theorem dX7_gain_42 : decode cX7_gain 42 = .ok (.aload_n 0, 1) := by decide +kernel
theorem dX7_gain_43 : decode cX7_gain 43 = .ok (.getfield 73, 3) := by decide +kernel
theorem dX7_gain_46 : decode cX7_gain 46 = .ok (.invokevirtual 259, 3) := by decide +kernel
theorem dX7_gain_49 : decode cX7_gain 49 = .ok (.aload_n 0, 1) := by decide +kernel
theorem dX7_gain_50 : decode cX7_gain 50 = .ok (.iload_n 1, 1) := by decide +kernel
theorem dX7_gain_51 : decode cX7_gain 51 = .ok (.putfield 54, 3) := by decide +kernel
theorem dX7_gain_54 : decode cX7_gain 54 = .ok (.aload_n 0, 1) := by decide +kernel
theorem dX7_gain_55 : decode cX7_gain 55 = .ok (.iload_n 2, 1) := by decide +kernel
theorem dX7_gain_56 : decode cX7_gain 56 = .ok (.putfield 139, 3) := by decide +kernel
theorem dX7_gain_59 : decode cX7_gain 59 = .ok (.aload_n 0, 1) := by decide +kernel
theorem dX7_gain_60 : decode cX7_gain 60 = .ok (.iload_n 3, 1) := by decide +kernel
theorem dX7_gain_61 : decode cX7_gain 61 = .ok (.aload_n 0, 1) := by decide +kernel
theorem dX7_gain_62 : decode cX7_gain 62 = .ok (.getfield 76, 3) := by decide +kernel
theorem dX7_gain_65 : decode cX7_gain 65 = .ok (.invokevirtual 259, 3) := by decide +kernel
theorem dX7_gain_68 : decode cX7_gain 68 = .ok (.aload_n 0, 1) := by decide +kernel
theorem dX7_gain_69 : decode cX7_gain 69 = .ok (.iconst (-1), 1) := by decide +kernel
theorem dX7_gain_70 : decode cX7_gain 70 = .ok (.putfield 54, 3) := by decide +kernel
theorem dX7_gain_73 : decode cX7_gain 73 = .ok (.aload_n 0, 1) := by decide +kernel
theorem dX7_gain_74 : decode cX7_gain 74 = .ok (.iconst 0, 1) := by decide +kernel
theorem dX7_gain_75 : decode cX7_gain 75 = .ok (.putfield 139, 3) := by decide +kernel
theorem dX7_gain_78 : decode cX7_gain 78 = .ok (.aload_n 0, 1) := by decide +kernel
theorem dX7_gain_79 : decode cX7_gain 79 = .ok (.getfield 76, 3) := by decide +kernel
theorem dX7_gain_82 : decode cX7_gain 82 = .ok (.invokestatic 475, 3) := by decide +kernel
theorem dX7_gain_85 : decode cX7_gain 85 = .ok (.aload_n 0, 1) := by decide +kernel
theorem dX7_gain_86 : decode cX7_gain 86 = .ok (.getfield 73, 3) := by decide +kernel
theorem dX7_gain_89 : decode cX7_gain 89 = .ok (.invokestatic 475, 3) := by decide +kernel
theorem dX7_gain_92 : decode cX7_gain 92 = .ok (.isub, 1) := by decide +kernel
theorem dX7_gain_93 : decode cX7_gain 93 = .ok (.ireturn, 1) := by decide +kernel
theorem dX7_thirst_0 : decode cX7_thirst 0 = .ok (.aload_n 0, 1) := by decide +kernel
theorem dX7_thirst_1 : decode cX7_thirst 1 = .ok (.iload_n 1, 1) := by decide +kernel
theorem dX7_thirst_2 : decode cX7_thirst 2 = .ok (.invokevirtual 220, 3) := by decide +kernel
theorem dX7_thirst_5 : decode cX7_thirst 5 = .ok (.ifCond .ne 5, 3) := by decide +kernel
theorem dX7_thirst_8 : decode cX7_thirst 8 = .ok (.iconst (-1), 1) := by decide +kernel
theorem dX7_thirst_9 : decode cX7_thirst 9 = .ok (.ireturn, 1) := by decide +kernel
theorem dX7_thirst_10 : decode cX7_thirst 10 = .ok (.aload_n 0, 1) := by decide +kernel
theorem dX7_thirst_11 : decode cX7_thirst 11 = .ok (.invokevirtual 202, 3) := by decide +kernel
theorem dX7_thirst_14 : decode cX7_thirst 14 = .ok (.aload_n 0, 1) := by decide +kernel
theorem dX7_thirst_15 : decode cX7_thirst 15 = .ok (.invokevirtual 286, 3) := by decide +kernel
theorem dX7_thirst_18 : decode cX7_thirst 18 = .ok (.istore_n 2, 1) := by decide +kernel
theorem dX7_thirst_19 : decode cX7_thirst 19 = .ok (.aload_n 0, 1) := by decide +kernel
theorem dX7_thirst_20 : decode cX7_thirst 20 = .ok (.iload_n 1, 1) := by decide +kernel
theorem dX7_thirst_21 : decode cX7_thirst 21 = .ok (.putfield 54, 3) := by decide +kernel
theorem dX7_thirst_24 : decode cX7_thirst 24 = .ok (.iconst 0, 1) := by decide +kernel
theorem dX7_thirst_25 : decode cX7_thirst 25 = .ok (.istore_n 3, 1) := by decide +kernel
theorem dX7_thirst_26 : decode cX7_thirst 26 = .ok (.sipush 9999, 3) := by decide +kernel
theorem dX7_thirst_29 : decode cX7_thirst 29 = .ok (.istore 4, 2) := by decide +kernel
theorem dX7_thirst_31 : decode cX7_thirst 31 = .ok (.iload_n 3, 1) := by decide +kernel
theorem dX7_thirst_32 : decode cX7_thirst 32 = .ok (.iload 4, 2) := by decide +kernel
theorem dX7_thirst_34 : decode cX7_thirst 34 = .ok (.if_icmp .ge 42, 3) := by decide +kernel
theorem dX7_thirst_37 : decode cX7_thirst 37 = .ok (.aload_n 0, 1) := by decide +kernel
theorem dX7_thirst_38 : decode cX7_thirst 38 = .ok (.iload_n 3, 1) := by decide +kernel
theorem dX7_thirst_39 : decode cX7_thirst 39 = .ok (.iload 4, 2) := by decide +kernel
theorem dX7_thirst_41 : decode cX7_thirst 41 = .ok (.iadd, 1) := by decide +kernel
theorem dX7_thirst_42 : decode cX7_thirst 42 = .ok (.iconst 1, 1) := by decide +kernel
theorem dX7_thirst_43 : decode cX7_thirst 43 = .ok (.iadd, 1) := by decide +kernel
theorem dX7_thirst_44 : decode cX7_thirst 44 = .ok (.iconst 2, 1) := by decide +kernel
theorem dX7_thirst_45 : decode cX7_thirst 45 = .ok (.idiv, 1) := by decide +kernel
theorem dX7_thirst_46 : decode cX7_thirst 46 = .ok (.putfield 139, 3) := by decide +kernel
theorem dX7_thirst_49 : decode cX7_thirst 49 = .ok (.aload_n 0, 1) := by decide +kernel
theorem dX7_thirst_50 : decode cX7_thirst 50 = .ok (.invokevirtual 286, 3) := by decide +kernel
theorem dX7_thirst_53 : decode cX7_thirst 53 = .ok (.iload_n 2, 1) := by decide +kernel
theorem dX7_thirst_54 : decode cX7_thirst 54 = .ok (.if_icmp .le 14, 3) := by decide +kernel
theorem dX7_thirst_57 : decode cX7_thirst 57 = .ok (.aload_n 0, 1) := by decide +kernel
theorem dX7_thirst_58 : decode cX7_thirst 58 = .ok (.getfield 139, 3) := by decide +kernel
theorem dX7_thirst_61 : decode cX7_thirst 61 = .ok (.iconst 1, 1) := by decide +kernel
theorem dX7_thirst_62 : decode cX7_thirst 62 = .ok (.isub, 1) := by decide +kernel
theorem dX7_thirst_63 : decode cX7_thirst 63 = .ok (.istore 4, 2) := by decide +kernel
theorem dX7_thirst_65 : decode cX7_thirst 65 = .ok (.goto (-34), 3) := by decide +kernel
theorem dX7_thirst_68 : decode cX7_thirst 68 = .ok (.aload_n 0, 1) := by decide +kernel
theorem dX7_thirst_69 : decode cX7_thirst 69 = .ok (.getfield 139, 3) := by decide +kernel
theorem dX7_thirst_72 : decode cX7_thirst 72 = .ok (.istore_n 3, 1) := by decide +kernel
theorem dX7_thirst_73 : decode cX7_thirst 73 = .ok (.goto (-42), 3) := by decide +kernel
theorem dX7_thirst_76 : decode cX7_thirst 76 = .ok (.aload_n 0, 1) := by decide +kernel
theorem dX7_thirst_77 : decode cX7_thirst 77 = .ok (.iconst (-1), 1) := by decide +kernel
theorem dX7_thirst_78 : decode cX7_thirst 78 = .ok (.putfield 54, 3) := by decide +kernel
theorem dX7_thirst_81 : decode cX7_thirst 81 = .ok (.aload_n 0, 1) := by decide +kernel
theorem dX7_thirst_82 : decode cX7_thirst 82 = .ok (.iconst 0, 1) := by decide +kernel
theorem dX7_thirst_83 : decode cX7_thirst 83 = .ok (.putfield 139, 3) := by decide +kernel
theorem dX7_thirst_86 : decode cX7_thirst 86 = .ok (.iload_n 3, 1) := by decide +kernel
theorem dX7_thirst_87 : decode cX7_thirst 87 = .ok (.ireturn, 1) := by decide +kernel
theorem dX7_needs_0 : decode cX7_needs 0 = .ok (.aload_n 0, 1) := by decide +kernel
theorem dX7_needs_1 : decode cX7_needs 1 = .ok (.iload_n 1, 1) := by decide +kernel
theorem dX7_needs_2 : decode cX7_needs 2 = .ok (.invokevirtual 229, 3) := by decide +kernel
theorem dX7_needs_5 : decode cX7_needs 5 = .ok (.ifCond .ne 5, 3) := by decide +kernel
theorem dX7_needs_8 : decode cX7_needs 8 = .ok (.iconst (-1), 1) := by decide +kernel
theorem dX7_needs_9 : decode cX7_needs 9 = .ok (.ireturn, 1) := by decide +kernel
theorem dX7_needs_10 : decode cX7_needs 10 = .ok (.aload_n 0, 1) := by decide +kernel
theorem dX7_needs_11 : decode cX7_needs 11 = .ok (.getfield 7, 3) := by decide +kernel
theorem dX7_needs_14 : decode cX7_needs 14 = .ok (.iconst 4, 1) := by decide +kernel
theorem dX7_needs_15 : decode cX7_needs 15 = .ok (.iaload, 1) := by decide +kernel
theorem dX7_needs_16 : decode cX7_needs 16 = .ok (.istore_n 2, 1) := by decide +kernel
theorem dX7_needs_17 : decode cX7_needs 17 = .ok (.bipush (-2), 2) := by decide +kernel
theorem dX7_needs_19 : decode cX7_needs 19 = .ok (.istore_n 3, 1) := by decide +kernel
theorem dX7_needs_20 : decode cX7_needs 20 = .ok (.iconst 0, 1) := by decide +kernel
theorem dX7_needs_21 : decode cX7_needs 21 = .ok (.istore 4, 2) := by decide +kernel
theorem dX7_needs_23 : decode cX7_needs 23 = .ok (.iload 4, 2) := by decide +kernel
theorem dX7_needs_25 : decode cX7_needs 25 = .ok (.sipush 400, 3) := by decide +kernel
theorem dX7_needs_28 : decode cX7_needs 28 = .ok (.if_icmp .gt 38, 3) := by decide +kernel
theorem dX7_needs_31 : decode cX7_needs 31 = .ok (.iload_n 3, 1) := by decide +kernel
theorem dX7_needs_32 : decode cX7_needs 32 = .ok (.bipush (-2), 2) := by decide +kernel
theorem dX7_needs_34 : decode cX7_needs 34 = .ok (.if_icmp .ne 32, 3) := by decide +kernel
theorem dX7_needs_37 : decode cX7_needs 37 = .ok (.aload_n 0, 1) := by decide +kernel
theorem dX7_needs_38 : decode cX7_needs 38 = .ok (.getfield 7, 3) := by decide +kernel
theorem dX7_needs_41 : decode cX7_needs 41 = .ok (.iconst 4, 1) := by decide +kernel
theorem dX7_needs_42 : decode cX7_needs 42 = .ok (.iload 4, 2) := by decide +kernel
theorem dX7_needs_44 : decode cX7_needs 44 = .ok (.iastore, 1) := by decide +kernel
theorem dX7_needs_45 : decode cX7_needs 45 = .ok (.aload_n 0, 1) := by decide +kernel
theorem dX7_needs_46 : decode cX7_needs 46 = .ok (.invokevirtual 202, 3) := by decide +kernel
theorem dX7_needs_49 : decode cX7_needs 49 = .ok (.aload_n 0, 1) := by decide +kernel
theorem dX7_needs_50 : decode cX7_needs 50 = .ok (.iload_n 1, 1) := by decide +kernel
theorem dX7_needs_51 : decode cX7_needs 51 = .ok (.invokevirtual 199, 3) := by decide +kernel
theorem dX7_needs_54 : decode cX7_needs 54 = .ok (.ifCond .ne 6, 3) := by decide +kernel
theorem dX7_needs_57 : decode cX7_needs 57 = .ok (.iload 4, 2) := by decide +kernel
theorem dX7_needs_59 : decode cX7_needs 59 = .ok (.istore_n 3, 1) := by decide +kernel
theorem dX7_needs_60 : decode cX7_needs 60 = .ok (.iinc 4 1, 3) := by decide +kernel
theorem dX7_needs_63 : decode cX7_needs 63 = .ok (.goto (-40), 3) := by decide +kernel
theorem dX7_needs_66 : decode cX7_needs 66 = .ok (.aload_n 0, 1) := by decide +kernel
theorem dX7_needs_67 : decode cX7_needs 67 = .ok (.getfield 7, 3) := by decide +kernel
theorem dX7_needs_70 : decode cX7_needs 70 = .ok (.iconst 4, 1) := by decide +kernel
theorem dX7_needs_71 : decode cX7_needs 71 = .ok (.iload_n 2, 1) := by decide +kernel
theorem dX7_needs_72 : decode cX7_needs 72 = .ok (.iastore, 1) := by decide +kernel
theorem dX7_needs_73 : decode cX7_needs 73 = .ok (.iload_n 3, 1) := by decide +kernel
theorem dX7_needs_74 : decode cX7_needs 74 = .ok (.ireturn, 1) := by decide +kernel
theorem ms_X7_shareOf : MS yX7_shareOf cX7_shareOf 4 (some .int) 2 := ⟨wd_60_6, wd_60_5, wd_1_5, by decide, by decide, by decide +kernel⟩
theorem ms_X7_sumOf : MS yX7_sumOf cX7_sumOf 6 (some .int) 1 := ⟨wd_59_10, wd_59_9, wd_1_5, by decide, by decide, by decide +kernel⟩
theorem mv_X7_ahead : MV yX7_ahead cX7_ahead 5 none 2 := ⟨wd_37_23, wd_37_21, wd_37_22, wd_1_5, by decide, by decide, by decide +kernel⟩
theorem mv_X7_isDryBy : MV yX7_isDryBy cX7_isDryBy 4 (some .boolean) 1 := ⟨wd_57_11, wd_57_9, wd_57_10, wd_1_5, by decide, by decide, by decide +kernel⟩
theorem mv_X7_isReach : MV yX7_isReach cX7_isReach 2 (some .boolean) 1 := ⟨wd_37_11, wd_37_9, wd_37_10, wd_1_5, by decide, by decide, by decide +kernel⟩
theorem mv_X7_isRight : MV yX7_isRight cX7_isRight 2 (some .boolean) 1 := ⟨wd_31_21, wd_31_19, wd_31_20, wd_1_5, by decide, by decide, by decide +kernel⟩
theorem mv_X7_isStore : MV yX7_isStore cX7_isStore 2 (some .boolean) 1 := ⟨wd_32_20, wd_32_18, wd_32_19, wd_1_5, by decide, by decide, by decide +kernel⟩
theorem mv_X7_laysShares : MV yX7_laysShares cX7_laysShares 4 none 1 := ⟨wd_60_3, wd_60_1, wd_60_2, wd_1_5, by decide, by decide, by decide +kernel⟩
theorem mv_X7_mayMove : MV yX7_mayMove cX7_mayMove 4 (some .boolean) 2 := ⟨wd_38_7, wd_38_5, wd_38_6, wd_1_5, by decide, by decide, by decide +kernel⟩
theorem mv_X7_moves : MV yX7_moves cX7_moves 3 none 2 := ⟨wd_38_11, wd_38_9, wd_38_10, wd_1_5, by decide, by decide, by decide +kernel⟩
theorem mv_X7_outOfAll : MV yX7_outOfAll cX7_outOfAll 4 (some .int) 0 := ⟨wd_52_11, wd_52_9, wd_52_10, wd_1_5, by decide, by decide, by decide +kernel⟩
theorem mv_X7_passes : MV yX7_passes cX7_passes 2 none 0 := ⟨wd_25_14, wd_25_12, wd_25_13, wd_1_5, by decide, by decide, by decide +kernel⟩
theorem mv_X7_putsAside : MV yX7_putsAside cX7_putsAside 2 none 0 := ⟨wd_37_19, wd_37_17, wd_37_18, wd_1_5, by decide, by decide, by decide +kernel⟩
theorem mv_X7_stays : MV yX7_stays cX7_stays 1 none 0 := ⟨wd_37_15, wd_37_13, wd_37_14, wd_1_5, by decide, by decide, by decide +kernel⟩
theorem mv_X7_swaps : MV yX7_swaps cX7_swaps 4 none 2 := ⟨wd_58_12, wd_58_10, wd_58_11, wd_1_5, by decide, by decide, by decide +kernel⟩
theorem mv_X7_takesBack : MV yX7_takesBack cX7_takesBack 2 none 0 := ⟨wd_38_3, wd_38_1, wd_38_2, wd_1_5, by decide, by decide, by decide +kernel⟩
set_option maxHeartbeats 4000000 in
set_option maxRecDepth 100000 in
theorem c_X7_putsAside (E : Ev) (ws : TD) (kp : TD) (rd : TD) (sc : TD) (ty : TD) (ik : TD) (un : Int × Int) (tk : Int × Int) (xt : Int × Int) (tp : Int × Int) (sp : Int × Int) (wrb : Int × Int) (nu : Int × Int) (nab : Int × Int) (iwb : Int × Int) (X0 : Nat → Int32) (A : Nat → Int32) (Z : Nat → Int32) (a0 : Nat) (ha0 : eT E a0 ∈ [24]) (hX0 : okR X0) (hqX0 : sQ Z X0) : TcV E yX7_putsAside cX7_putsAside 2 ({ frames := 1, cells := 0, slots := 0, locals := 40 }) [.ref a0] (fun H => TH E (tbM (mD (.inl tp) (.inl sp) (.inl nu) (.inl un) (.inl tk) (.inl xt) (.inl wrb) (.inl nab) (.inl iwb)) (xD 660 X0) ws kp (xD 660 A) rd sc ty ik) H) (fun H => ∃ A2 : Nat → Int32, (okR A2 ∧ sQ Z A2) ∧ TH E (tbM (mD (.inl tp) (.inl sp) (.inl nu) (.inl un) (.inl tk) (.inl xt) (.inl wrb) (.inl nab) (.inl iwb)) (xD 660 X0) ws kp (xD 660 A2) rd sc ty ik) H) := by
  refine teV (by decide) (Nat.le_of_ble_eq_true rfl) ?_
  intro p_ ev_ s mi_ below_ meth cd_ ls F hK hN hO hH hS hl
  have hH : TH E (tbM (mD (.inl tp) (.inl sp) (.inl nu) (.inl un) (.inl tk) (.inl xt) (.inl wrb) (.inl nab) (.inl iwb)) (xD 660 X0) ws kp (xD 660 A) rd sc ty ik) s.heap := hH
  have hl : lv_has ls 2 [(0, .ref a0)] := hl
  have hBX0 := okB hX0.1
  have hLX0 := hX0.2
  refine lv_iconst (v := 0) F.1 F.2.1 dX7_putsAside_0 (by decide) ?_
  refine topK (a := 0) (by decide) (fun k_1 hk_1 => ?_)
  refine lv_istore_n (lv' := [(1, .int k_1), (0, .ref a0)]) F.1 F.2.1 dX7_putsAside_1 rfl hl (by decide) rfl (fun ls hl => ?_)
  refine wloop (σ := Int32 × (Nat → Int32)) (fun n9 x9 H locs ls => (660 - x9.1.toInt + 1).toNat < n9 ∧ (0 ≤ x9.1.toInt ∧ x9.1.toInt ≤ 660) ∧ (True) ∧ (cp A x9.2 X0 0 0 (x9.1.toInt)) ∧ TH E (tbM (mD (.inl tp) (.inl sp) (.inl nu) (.inl un) (.inl tk) (.inl xt) (.inl wrb) (.inl nab) (.inl iwb)) (xD 660 X0) ws kp (xD 660 x9.2) rd sc ty ik) H ∧ va_S (eA E s.heap.size) s.heap H locs ∧ lv_has ls 2 [(0, .ref a0), (1, .int x9.1)]) ?_ (fun x9 H locs ls h => absurd h.1 (Nat.not_lt_zero _)) _ (k_1, A) ⟨Nat.lt_succ_self _, (wkb (eqb hk_1) rfl rfl), trivial, (show cp A A X0 0 0 (k_1.toInt) from cp.zero (by omega)), hH, hS, lv_sub hl [1, 0] rfl⟩
  intro n_2 ih_2 ⟨u_2, G_3⟩ H locs ls ⟨hm_2, hu_2, hG_3, hcr2_0, hH, hS, hl⟩
  have hm_2 : (660 - u_2.toInt + 1).toNat < n_2 + 1 := hm_2
  have hu_2 : (0 ≤ u_2.toInt ∧ u_2.toInt ≤ 660) := hu_2
  have hG_3 : (True) := hG_3
  have hcr2_0 : (cp A G_3 X0 0 0 (u_2.toInt)) := hcr2_0
  have hH : TH E (tbM (mD (.inl tp) (.inl sp) (.inl nu) (.inl un) (.inl tk) (.inl xt) (.inl wrb) (.inl nab) (.inl iwb)) (xD 660 X0) ws kp (xD 660 G_3) rd sc ty ik) H := hH
  have hl : lv_has ls 2 [(0, .ref a0), (1, .int u_2)] := hl
  refine lv_iload_n F.1 F.2.1 dX7_putsAside_2 rfl (lv_at hl 1 rfl) ?_
  refine lv_sipush (v := 660) F.1 F.2.1 dX7_putsAside_3 (by decide) ?_
  refine topK (a := 660) (by decide) (fun k_4 hk_4 => ?_)
  refine b_ge (tgt := 27) F dX7_putsAside_6 (by decide) (fun c_5 => ?_) (fun c_5 => ?_)
  · skip
    have r_6 : 660 ≤ u_2.toInt ∧ u_2.toInt ≤ 660 := by have h9_ := hu_2; omega
    have hRG_3 : okR G_3 := okR.cpA hX0 hcr2_0 (by omega)
    have hBG_3 := okB hRG_3.1
    have hLG_3 := hRG_3.2
    refine lv_iconst (v := 0) F.1 F.2.1 dX7_putsAside_27 (by decide) ?_
    refine topK (a := 0) (by decide) (fun k_8 hk_8 => ?_)
    refine lv_istore_n (lv' := [(1, .int k_8), (0, .ref a0)]) F.1 F.2.1 dX7_putsAside_28 rfl hl (by decide) rfl (fun ls hl => ?_)
    refine wloop (σ := Int32) (fun n9 x9 H locs ls => (9 - x9.toInt + 1).toNat < n9 ∧ (0 ≤ x9.toInt ∧ x9.toInt ≤ 9) ∧ TH E (tbM (mD (.inl tp) (.inl sp) (.inl nu) (.inl un) (.inl tk) (.inl xt) (.inl wrb) (.inl nab) (.inl iwb)) (xD 660 X0) ws kp (xD 660 G_3) rd sc ty ik) H ∧ va_S (eA E s.heap.size) s.heap H locs ∧ lv_has ls 2 [(0, .ref a0), (1, .int x9)]) ?_ (fun x9 H locs ls h => absurd h.1 (Nat.not_lt_zero _)) _ (k_8) ⟨Nat.lt_succ_self _, (wkb (eqb hk_8) rfl rfl), hH, hS, lv_sub hl [1, 0] rfl⟩
    intro n_29 ih_29 u_9 H locs ls ⟨hm_29, hu_9, hH, hS, hl⟩
    have hm_29 : (9 - u_9.toInt + 1).toNat < n_29 + 1 := hm_29
    have hu_9 : (0 ≤ u_9.toInt ∧ u_9.toInt ≤ 9) := hu_9
    have hH : TH E (tbM (mD (.inl tp) (.inl sp) (.inl nu) (.inl un) (.inl tk) (.inl xt) (.inl wrb) (.inl nab) (.inl iwb)) (xD 660 X0) ws kp (xD 660 G_3) rd sc ty ik) H := hH
    have hl : lv_has ls 2 [(0, .ref a0), (1, .int u_9)] := hl
    refine lv_iload_n F.1 F.2.1 dX7_putsAside_29 rfl (lv_at hl 1 rfl) ?_
    refine lv_bipush (v := 6) F.1 F.2.1 dX7_putsAside_30 (by decide) ?_
    refine topK (a := 6) (by decide) (fun k_10 hk_10 => ?_)
    refine b_ge (tgt := 53) F dX7_putsAside_32 (by decide) (fun c_11 => ?_) (fun c_11 => ?_)
    · skip
      have r_12 : 6 ≤ u_9.toInt ∧ u_9.toInt ≤ 9 := by have h9_ := hu_9; omega
      exact txV F hS dX7_putsAside_53 (⟨G_3, ⟨hRG_3, (sQ_cp hqX0 hcr2_0 (by omega))⟩, hH⟩)
    · skip
      have r_13 : 0 ≤ u_9.toInt ∧ u_9.toInt ≤ 5 := by have h9_ := hu_9; omega
      refine lv_aload_n F.1 F.2.1 dX7_putsAside_35 rfl (lv_at hl 0 rfl) ?_
      refine tGetR (j := 9) F hK hH (tyb ha0 (all1 rfl)) rfl (all1 rfl) clX7 (by decide) wd_6_14 dX7_putsAside_36 (fun q_14 hq_14 _ => ?_)
      refine lv_iload_n F.1 F.2.1 dX7_putsAside_39 rfl (lv_at hl 1 rfl) ?_
      refine lv_aload_n F.1 F.2.1 dX7_putsAside_40 rfl (lv_at hl 0 rfl) ?_
      refine tGetR (j := 1) F hK hH (tyb ha0 (all1 rfl)) rfl (all1 rfl) clX7 (by decide) wd_6_6 dX7_putsAside_41 (fun q_15 hq_15 _ => ?_)
      refine lv_iload_n F.1 F.2.1 dX7_putsAside_44 rfl (lv_at hl 1 rfl) ?_
      refine tLald F hK hH (tyb hq_15 (all1 rfl)) (ixb (n := 6) r_13 rfl rfl) dX7_putsAside_45 (fun w_16 => ?_)
      refine tLast F hK hH hS (tyb hq_14 (all1 rfl)) (ixb (n := 6) r_13 rfl rfl) dX7_putsAside_46 (fun H locs hH hS => ?_)
      obtain ⟨x_17, ex_17, hx_17⟩ := iincB (c := 1) (lo := 1) (hi := 6) r_13 rfl
      refine lv_iinc (v := x_17) (lv' := [(1, .int x_17), (0, .ref a0)]) F.1 F.2.1 dX7_putsAside_47 hl (k := 1) rfl ex_17 (by decide) rfl (fun ls hl => ?_)
      refine lv_goto (tgt := 29) F.1 F.2.1 dX7_putsAside_50 (by decide) ?_
      exact ih_29 (x_17) _ _ _ ⟨(show (9 - x_17.toInt + 1).toNat < n_29 from by omega), (wkb hx_17.2 rfl rfl), hH, hS, lv_sub hl [1, 0] rfl⟩
  · skip
    have r_7 : 0 ≤ u_2.toInt ∧ u_2.toInt ≤ 659 := by have h9_ := hu_2; omega
    refine lv_aload_n F.1 F.2.1 dX7_putsAside_9 rfl (lv_at hl 0 rfl) ?_
    refine tGetR (j := 8) F hK hH (tyb ha0 (all1 rfl)) rfl (all1 rfl) clX7 (by decide) wd_6_13 dX7_putsAside_10 (fun q_18 hq_18 _ => ?_)
    refine lv_iload_n F.1 F.2.1 dX7_putsAside_13 rfl (lv_at hl 1 rfl) ?_
    refine lv_aload_n F.1 F.2.1 dX7_putsAside_14 rfl (lv_at hl 0 rfl) ?_
    refine tGetR (j := 0) F hK hH (tyb ha0 (all1 rfl)) rfl (all1 rfl) clX7 (by decide) wd_6_5 dX7_putsAside_15 (fun q_19 hq_19 _ => ?_)
    refine lv_iload_n F.1 F.2.1 dX7_putsAside_18 rfl (lv_at hl 1 rfl) ?_
    refine tIaldX F hK hH (tyb hq_19 (all1 rfl)) (ixb (n := 660) r_7 rfl rfl) dX7_putsAside_19 (fun z_20 ez_20 => ?_)
    refine tIastX (t := 28) F hK hH hS (List.mem_singleton.mp hq_18) (by decide) rfl (ixb (n := 660) r_7 rfl rfl) dX7_putsAside_20 (fun G_21 eG_21 H locs hH hS => ?_)
    have hH : TH E (tbM (mD (.inl tp) (.inl sp) (.inl nu) (.inl un) (.inl tk) (.inl xt) (.inl wrb) (.inl nab) (.inl iwb)) (xD 660 X0) ws kp (xD 660 G_21) rd sc ty ik) H := hH
    obtain ⟨x_22, ex_22, hx_22⟩ := iincB (c := 1) (lo := 1) (hi := 660) r_7 rfl
    refine lv_iinc (v := x_22) (lv' := [(1, .int x_22), (0, .ref a0)]) F.1 F.2.1 dX7_putsAside_21 hl (k := 1) rfl ex_22 (by decide) rfl (fun ls hl => ?_)
    refine lv_goto (tgt := 2) F.1 F.2.1 dX7_putsAside_24 (by decide) ?_
    exact ih_2 (x_22, G_21) _ _ _ ⟨(show (660 - x_22.toInt + 1).toNat < n_2 from by omega), (wkb hx_22.2 rfl rfl), trivial, (show cp A G_21 X0 0 0 (x_22.toInt) from cp.step hcr2_0 eG_21 ez_20 (by omega) (by omega) (by omega) (by omega)), hH, hS, lv_sub hl [1, 0] rfl⟩
set_option maxHeartbeats 4000000 in
set_option maxRecDepth 100000 in
theorem c_X7_takesBack (E : Ev) (ws : TD) (kp : TD) (rd : TD) (sc : TD) (ty : TD) (ik : TD) (un : Int × Int) (tk : Int × Int) (xt : Int × Int) (tp : Int × Int) (sp : Int × Int) (wrb : Int × Int) (nu : Int × Int) (nab : Int × Int) (iwb : Int × Int) (X0 : Nat → Int32) (A : Nat → Int32) (Z : Nat → Int32) (a0 : Nat) (ha0 : eT E a0 ∈ [24]) (hX0 : okR X0) (hA : okR A) (hqA : sQ Z A) : TcV E yX7_takesBack cX7_takesBack 2 ({ frames := 1, cells := 0, slots := 0, locals := 40 }) [.ref a0] (fun H => TH E (tbM (mD (.inl tp) (.inl sp) (.inl nu) (.inl un) (.inl tk) (.inl xt) (.inl wrb) (.inl nab) (.inl iwb)) (xD 660 X0) ws kp (xD 660 A) rd sc ty ik) H) (fun H => ∃ X2 : Nat → Int32, (okR X2 ∧ sQ Z X2) ∧ TH E (tbM (mD (.inl tp) (.inl sp) (.inl nu) (.inl un) (.inl tk) (.inl xt) (.inl wrb) (.inl nab) (.inl iwb)) (xD 660 X2) ws kp (xD 660 A) rd sc ty ik) H) := by
  refine teV (by decide) (Nat.le_of_ble_eq_true rfl) ?_
  intro p_ ev_ s mi_ below_ meth cd_ ls F hK hN hO hH hS hl
  have hH : TH E (tbM (mD (.inl tp) (.inl sp) (.inl nu) (.inl un) (.inl tk) (.inl xt) (.inl wrb) (.inl nab) (.inl iwb)) (xD 660 X0) ws kp (xD 660 A) rd sc ty ik) s.heap := hH
  have hl : lv_has ls 2 [(0, .ref a0)] := hl
  have hBX0 := okB hX0.1
  have hLX0 := hX0.2
  have hBA := okB hA.1
  have hLA := hA.2
  refine lv_iconst (v := 0) F.1 F.2.1 dX7_takesBack_0 (by decide) ?_
  refine topK (a := 0) (by decide) (fun k_1 hk_1 => ?_)
  refine lv_istore_n (lv' := [(1, .int k_1), (0, .ref a0)]) F.1 F.2.1 dX7_takesBack_1 rfl hl (by decide) rfl (fun ls hl => ?_)
  refine wloop (σ := Int32 × (Nat → Int32)) (fun n9 x9 H locs ls => (660 - x9.1.toInt + 1).toNat < n9 ∧ (0 ≤ x9.1.toInt ∧ x9.1.toInt ≤ 660) ∧ (True) ∧ (cp X0 x9.2 A 0 0 (x9.1.toInt)) ∧ TH E (tbM (mD (.inl tp) (.inl sp) (.inl nu) (.inl un) (.inl tk) (.inl xt) (.inl wrb) (.inl nab) (.inl iwb)) (xD 660 x9.2) ws kp (xD 660 A) rd sc ty ik) H ∧ va_S (eA E s.heap.size) s.heap H locs ∧ lv_has ls 2 [(0, .ref a0), (1, .int x9.1)]) ?_ (fun x9 H locs ls h => absurd h.1 (Nat.not_lt_zero _)) _ (k_1, X0) ⟨Nat.lt_succ_self _, (wkb (eqb hk_1) rfl rfl), trivial, (show cp X0 X0 A 0 0 (k_1.toInt) from cp.zero (by omega)), hH, hS, lv_sub hl [1, 0] rfl⟩
  intro n_2 ih_2 ⟨u_2, G_3⟩ H locs ls ⟨hm_2, hu_2, hG_3, hcr2_0, hH, hS, hl⟩
  have hm_2 : (660 - u_2.toInt + 1).toNat < n_2 + 1 := hm_2
  have hu_2 : (0 ≤ u_2.toInt ∧ u_2.toInt ≤ 660) := hu_2
  have hG_3 : (True) := hG_3
  have hcr2_0 : (cp X0 G_3 A 0 0 (u_2.toInt)) := hcr2_0
  have hH : TH E (tbM (mD (.inl tp) (.inl sp) (.inl nu) (.inl un) (.inl tk) (.inl xt) (.inl wrb) (.inl nab) (.inl iwb)) (xD 660 G_3) ws kp (xD 660 A) rd sc ty ik) H := hH
  have hl : lv_has ls 2 [(0, .ref a0), (1, .int u_2)] := hl
  refine lv_iload_n F.1 F.2.1 dX7_takesBack_2 rfl (lv_at hl 1 rfl) ?_
  refine lv_sipush (v := 660) F.1 F.2.1 dX7_takesBack_3 (by decide) ?_
  refine topK (a := 660) (by decide) (fun k_4 hk_4 => ?_)
  refine b_ge (tgt := 27) F dX7_takesBack_6 (by decide) (fun c_5 => ?_) (fun c_5 => ?_)
  · skip
    have r_6 : 660 ≤ u_2.toInt ∧ u_2.toInt ≤ 660 := by have h9_ := hu_2; omega
    have hRG_3 : okR G_3 := okR.cpA hA hcr2_0 (by omega)
    have hBG_3 := okB hRG_3.1
    have hLG_3 := hRG_3.2
    refine lv_iconst (v := 0) F.1 F.2.1 dX7_takesBack_27 (by decide) ?_
    refine topK (a := 0) (by decide) (fun k_8 hk_8 => ?_)
    refine lv_istore_n (lv' := [(1, .int k_8), (0, .ref a0)]) F.1 F.2.1 dX7_takesBack_28 rfl hl (by decide) rfl (fun ls hl => ?_)
    refine wloop (σ := Int32) (fun n9 x9 H locs ls => (9 - x9.toInt + 1).toNat < n9 ∧ (0 ≤ x9.toInt ∧ x9.toInt ≤ 9) ∧ TH E (tbM (mD (.inl tp) (.inl sp) (.inl nu) (.inl un) (.inl tk) (.inl xt) (.inl wrb) (.inl nab) (.inl iwb)) (xD 660 G_3) ws kp (xD 660 A) rd sc ty ik) H ∧ va_S (eA E s.heap.size) s.heap H locs ∧ lv_has ls 2 [(0, .ref a0), (1, .int x9)]) ?_ (fun x9 H locs ls h => absurd h.1 (Nat.not_lt_zero _)) _ (k_8) ⟨Nat.lt_succ_self _, (wkb (eqb hk_8) rfl rfl), hH, hS, lv_sub hl [1, 0] rfl⟩
    intro n_29 ih_29 u_9 H locs ls ⟨hm_29, hu_9, hH, hS, hl⟩
    have hm_29 : (9 - u_9.toInt + 1).toNat < n_29 + 1 := hm_29
    have hu_9 : (0 ≤ u_9.toInt ∧ u_9.toInt ≤ 9) := hu_9
    have hH : TH E (tbM (mD (.inl tp) (.inl sp) (.inl nu) (.inl un) (.inl tk) (.inl xt) (.inl wrb) (.inl nab) (.inl iwb)) (xD 660 G_3) ws kp (xD 660 A) rd sc ty ik) H := hH
    have hl : lv_has ls 2 [(0, .ref a0), (1, .int u_9)] := hl
    refine lv_iload_n F.1 F.2.1 dX7_takesBack_29 rfl (lv_at hl 1 rfl) ?_
    refine lv_bipush (v := 6) F.1 F.2.1 dX7_takesBack_30 (by decide) ?_
    refine topK (a := 6) (by decide) (fun k_10 hk_10 => ?_)
    refine b_ge (tgt := 53) F dX7_takesBack_32 (by decide) (fun c_11 => ?_) (fun c_11 => ?_)
    · skip
      have r_12 : 6 ≤ u_9.toInt ∧ u_9.toInt ≤ 9 := by have h9_ := hu_9; omega
      exact txV F hS dX7_takesBack_53 (⟨G_3, ⟨hRG_3, (sQ_cp hqA hcr2_0 (by omega))⟩, hH⟩)
    · skip
      have r_13 : 0 ≤ u_9.toInt ∧ u_9.toInt ≤ 5 := by have h9_ := hu_9; omega
      refine lv_aload_n F.1 F.2.1 dX7_takesBack_35 rfl (lv_at hl 0 rfl) ?_
      refine tGetR (j := 1) F hK hH (tyb ha0 (all1 rfl)) rfl (all1 rfl) clX7 (by decide) wd_6_6 dX7_takesBack_36 (fun q_14 hq_14 _ => ?_)
      refine lv_iload_n F.1 F.2.1 dX7_takesBack_39 rfl (lv_at hl 1 rfl) ?_
      refine lv_aload_n F.1 F.2.1 dX7_takesBack_40 rfl (lv_at hl 0 rfl) ?_
      refine tGetR (j := 9) F hK hH (tyb ha0 (all1 rfl)) rfl (all1 rfl) clX7 (by decide) wd_6_14 dX7_takesBack_41 (fun q_15 hq_15 _ => ?_)
      refine lv_iload_n F.1 F.2.1 dX7_takesBack_44 rfl (lv_at hl 1 rfl) ?_
      refine tLald F hK hH (tyb hq_15 (all1 rfl)) (ixb (n := 6) r_13 rfl rfl) dX7_takesBack_45 (fun w_16 => ?_)
      refine tLast F hK hH hS (tyb hq_14 (all1 rfl)) (ixb (n := 6) r_13 rfl rfl) dX7_takesBack_46 (fun H locs hH hS => ?_)
      obtain ⟨x_17, ex_17, hx_17⟩ := iincB (c := 1) (lo := 1) (hi := 6) r_13 rfl
      refine lv_iinc (v := x_17) (lv' := [(1, .int x_17), (0, .ref a0)]) F.1 F.2.1 dX7_takesBack_47 hl (k := 1) rfl ex_17 (by decide) rfl (fun ls hl => ?_)
      refine lv_goto (tgt := 29) F.1 F.2.1 dX7_takesBack_50 (by decide) ?_
      exact ih_29 (x_17) _ _ _ ⟨(show (9 - x_17.toInt + 1).toNat < n_29 from by omega), (wkb hx_17.2 rfl rfl), hH, hS, lv_sub hl [1, 0] rfl⟩
  · skip
    have r_7 : 0 ≤ u_2.toInt ∧ u_2.toInt ≤ 659 := by have h9_ := hu_2; omega
    refine lv_aload_n F.1 F.2.1 dX7_takesBack_9 rfl (lv_at hl 0 rfl) ?_
    refine tGetR (j := 0) F hK hH (tyb ha0 (all1 rfl)) rfl (all1 rfl) clX7 (by decide) wd_6_5 dX7_takesBack_10 (fun q_18 hq_18 _ => ?_)
    refine lv_iload_n F.1 F.2.1 dX7_takesBack_13 rfl (lv_at hl 1 rfl) ?_
    refine lv_aload_n F.1 F.2.1 dX7_takesBack_14 rfl (lv_at hl 0 rfl) ?_
    refine tGetR (j := 8) F hK hH (tyb ha0 (all1 rfl)) rfl (all1 rfl) clX7 (by decide) wd_6_13 dX7_takesBack_15 (fun q_19 hq_19 _ => ?_)
    refine lv_iload_n F.1 F.2.1 dX7_takesBack_18 rfl (lv_at hl 1 rfl) ?_
    refine tIaldX F hK hH (tyb hq_19 (all1 rfl)) (ixb (n := 660) r_7 rfl rfl) dX7_takesBack_19 (fun z_20 ez_20 => ?_)
    refine tIastX (t := 25) F hK hH hS (List.mem_singleton.mp hq_18) (by decide) rfl (ixb (n := 660) r_7 rfl rfl) dX7_takesBack_20 (fun G_21 eG_21 H locs hH hS => ?_)
    have hH : TH E (tbM (mD (.inl tp) (.inl sp) (.inl nu) (.inl un) (.inl tk) (.inl xt) (.inl wrb) (.inl nab) (.inl iwb)) (xD 660 G_21) ws kp (xD 660 A) rd sc ty ik) H := hH
    obtain ⟨x_22, ex_22, hx_22⟩ := iincB (c := 1) (lo := 1) (hi := 660) r_7 rfl
    refine lv_iinc (v := x_22) (lv' := [(1, .int x_22), (0, .ref a0)]) F.1 F.2.1 dX7_takesBack_21 hl (k := 1) rfl ex_22 (by decide) rfl (fun ls hl => ?_)
    refine lv_goto (tgt := 2) F.1 F.2.1 dX7_takesBack_24 (by decide) ?_
    exact ih_2 (x_22, G_21) _ _ _ ⟨(show (660 - x_22.toInt + 1).toNat < n_2 from by omega), (wkb hx_22.2 rfl rfl), trivial, (show cp X0 G_21 A 0 0 (x_22.toInt) from cp.step hcr2_0 eG_21 ez_20 (by omega) (by omega) (by omega) (by omega)), hH, hS, lv_sub hl [1, 0] rfl⟩
set_option maxHeartbeats 4000000 in
set_option maxRecDepth 100000 in
theorem c_X7_keepsAct (E : Ev) (kp : TD) (as : TD) (rd : TD) (sc : TD) (ty : TD) (ik : TD) (tk : Int × Int) (xt : Int × Int) (tp : Int × Int) (sp : Int × Int) (wrb : Int × Int) (nu : Int × Int) (nab : Int × Int) (iwb : Int × Int) (u : Int) (X0 : Nat → Int32) (Wa : Nat → Int32) (Z : Nat → Int32) (a0 : Nat) (ha0 : eT E a0 ∈ [24]) (hu : 0 ≤ u ∧ u ≤ 10) (hX0 : okR X0) (hWa : okN 10 Wa) (hqX0 : sQ Z X0) (hmWa : okM Z u Wa) : TcV E yX7_keepsAct cX7_keepsAct 2 ({ frames := 1, cells := 0, slots := 0, locals := 40 }) [.ref a0] (fun H => TH E (tbM (mD (.inl tp) (.inl sp) (.inl nu) (.inl (u, u)) (.inl tk) (.inl xt) (.inl wrb) (.inl nab) (.inl iwb)) (xD 660 X0) (xD 6600 Wa) kp as rd sc ty ik) H) (fun H => ∃ u2 : Int, (1 ≤ u2 ∧ u2 ≤ 10) ∧ ∃ Wb : Nat → Int32, (okN 10 Wb ∧ okM Z u2 Wb) ∧ TH E (tbM (mD (.inl tp) (.inl sp) (.inl nu) (.inl (u2, u2)) (.inl tk) (.inl xt) (.inl wrb) (.inl nab) (.inl iwb)) (xD 660 X0) (xD 6600 Wb) kp as rd sc ty ik) H) := by
  refine teV (by decide) (Nat.le_of_ble_eq_true rfl) ?_
  intro p_ ev_ s mi_ below_ meth cd_ ls F hK hN hO hH hS hl
  have hH : TH E (tbM (mD (.inl tp) (.inl sp) (.inl nu) (.inl (u, u)) (.inl tk) (.inl xt) (.inl wrb) (.inl nab) (.inl iwb)) (xD 660 X0) (xD 6600 Wa) kp as rd sc ty ik) s.heap := hH
  have hl : lv_has ls 2 [(0, .ref a0)] := hl
  have hBX0 := okB hX0.1
  have hLX0 := hX0.2
  refine lv_aload_n F.1 F.2.1 dX7_keepsAct_0 rfl (lv_at hl 0 rfl) ?_
  refine tGetI (j := 4) F hK hH (tyb ha0 (all1 rfl)) rfl clX7 (by decide) wd_15_15 dX7_keepsAct_1 (fun z_1 hz_1 => ?_)
  have ez_1 : 0 ≤ z_1.toInt ∧ z_1.toInt ≤ 10 := by omega
  refine lv_bipush (v := 10) F.1 F.2.1 dX7_keepsAct_4 (by decide) ?_
  refine topK (a := 10) (by decide) (fun k_2 hk_2 => ?_)
  refine wjoin (σ := Int × (Nat → Int32)) (pcj := 82) (stj := fun x9 => []) (fun x9 H locs ls => (0 ≤ x9.1 ∧ x9.1 ≤ 9) ∧ (okN 10 x9.2) ∧ (okM Z x9.1 x9.2) ∧ TH E (tbM (mD (.inl tp) (.inl sp) (.inl nu) (.inl (x9.1, x9.1)) (.inl tk) (.inl xt) (.inl wrb) (.inl nab) (.inl iwb)) (xD 660 X0) (xD 6600 x9.2) kp as rd sc ty ik) H ∧ va_S (eA E s.heap.size) s.heap H locs ∧ lv_has ls 2 [(0, .ref a0)]) (fun x9 H locs ls h_ => ?_) (fun J_82 => ?_)
  · skip
    obtain ⟨g_3, G_4⟩ := x9
    obtain ⟨hg_3, hG_4, hcr82_0, hH, hS, hl⟩ := h_
    have hg_3 : (0 ≤ g_3 ∧ g_3 ≤ 9) := hg_3
    have hG_4 : (okN 10 G_4) := hG_4
    have hcr82_0 : (okM Z g_3 G_4) := hcr82_0
    have hH : TH E (tbM (mD (.inl tp) (.inl sp) (.inl nu) (.inl (g_3, g_3)) (.inl tk) (.inl xt) (.inl wrb) (.inl nab) (.inl iwb)) (xD 660 X0) (xD 6600 G_4) kp as rd sc ty ik) H := hH
    have hl : lv_has ls 2 [(0, .ref a0)] := hl
    show W _ _ _ _ _ _ _ _ _ _ _ _ _ _ _ (F0 _ _ _ [])
    refine lv_iconst (v := 0) F.1 F.2.1 dX7_keepsAct_82 (by decide) ?_
    refine topK (a := 0) (by decide) (fun k_5 hk_5 => ?_)
    refine lv_istore_n (lv' := [(1, .int k_5), (0, .ref a0)]) F.1 F.2.1 dX7_keepsAct_83 rfl hl (by decide) rfl (fun ls hl => ?_)
    refine wloop (σ := Int32 × (Nat → Int32)) (fun n9 x9 H locs ls => (660 - x9.1.toInt + 1).toNat < n9 ∧ (0 ≤ x9.1.toInt ∧ x9.1.toInt ≤ 660) ∧ (True) ∧ (cp G_4 x9.2 X0 (660 * g_3) 0 (x9.1.toInt)) ∧ TH E (tbM (mD (.inl tp) (.inl sp) (.inl nu) (.inl (g_3, g_3)) (.inl tk) (.inl xt) (.inl wrb) (.inl nab) (.inl iwb)) (xD 660 X0) (xD 6600 x9.2) kp as rd sc ty ik) H ∧ va_S (eA E s.heap.size) s.heap H locs ∧ lv_has ls 2 [(0, .ref a0), (1, .int x9.1)]) ?_ (fun x9 H locs ls h => absurd h.1 (Nat.not_lt_zero _)) _ (k_5, G_4) ⟨Nat.lt_succ_self _, (wkb (eqb hk_5) rfl rfl), trivial, (show cp G_4 G_4 X0 (660 * g_3) 0 (k_5.toInt) from cp.zero (by omega)), hH, hS, lv_sub hl [1, 0] rfl⟩
    intro n_84 ih_84 ⟨u_6, G_7⟩ H locs ls ⟨hm_84, hu_6, hG_7, hcr84_0, hH, hS, hl⟩
    have hm_84 : (660 - u_6.toInt + 1).toNat < n_84 + 1 := hm_84
    have hu_6 : (0 ≤ u_6.toInt ∧ u_6.toInt ≤ 660) := hu_6
    have hG_7 : (True) := hG_7
    have hcr84_0 : (cp G_4 G_7 X0 (660 * g_3) 0 (u_6.toInt)) := hcr84_0
    have hH : TH E (tbM (mD (.inl tp) (.inl sp) (.inl nu) (.inl (g_3, g_3)) (.inl tk) (.inl xt) (.inl wrb) (.inl nab) (.inl iwb)) (xD 660 X0) (xD 6600 G_7) kp as rd sc ty ik) H := hH
    have hl : lv_has ls 2 [(0, .ref a0), (1, .int u_6)] := hl
    refine lv_iload_n F.1 F.2.1 dX7_keepsAct_84 rfl (lv_at hl 1 rfl) ?_
    refine lv_sipush (v := 660) F.1 F.2.1 dX7_keepsAct_85 (by decide) ?_
    refine topK (a := 660) (by decide) (fun k_8 hk_8 => ?_)
    refine b_ge (tgt := 118) F dX7_keepsAct_88 (by decide) (fun c_9 => ?_) (fun c_9 => ?_)
    · skip
      have r_10 : 660 ≤ u_6.toInt ∧ u_6.toInt ≤ 660 := by have h9_ := hu_6; omega
      have hRG_7 : okN 10 G_7 := okN.cp (u := (g_3).toNat) hG_4 hX0 hcr84_0 (by omega) (by omega)
      refine lv_iconst (v := 0) F.1 F.2.1 dX7_keepsAct_118 (by decide) ?_
      refine topK (a := 0) (by decide) (fun k_12 hk_12 => ?_)
      refine lv_istore_n (lv' := [(1, .int k_12), (0, .ref a0)]) F.1 F.2.1 dX7_keepsAct_119 rfl hl (by decide) rfl (fun ls hl => ?_)
      refine wloop (σ := Int32) (fun n9 x9 H locs ls => (9 - x9.toInt + 1).toNat < n9 ∧ (0 ≤ x9.toInt ∧ x9.toInt ≤ 9) ∧ TH E (tbM (mD (.inl tp) (.inl sp) (.inl nu) (.inl (g_3, g_3)) (.inl tk) (.inl xt) (.inl wrb) (.inl nab) (.inl iwb)) (xD 660 X0) (xD 6600 G_7) kp as rd sc ty ik) H ∧ va_S (eA E s.heap.size) s.heap H locs ∧ lv_has ls 2 [(0, .ref a0), (1, .int x9)]) ?_ (fun x9 H locs ls h => absurd h.1 (Nat.not_lt_zero _)) _ (k_12) ⟨Nat.lt_succ_self _, (wkb (eqb hk_12) rfl rfl), hH, hS, lv_sub hl [1, 0] rfl⟩
      intro n_120 ih_120 u_13 H locs ls ⟨hm_120, hu_13, hH, hS, hl⟩
      have hm_120 : (9 - u_13.toInt + 1).toNat < n_120 + 1 := hm_120
      have hu_13 : (0 ≤ u_13.toInt ∧ u_13.toInt ≤ 9) := hu_13
      have hH : TH E (tbM (mD (.inl tp) (.inl sp) (.inl nu) (.inl (g_3, g_3)) (.inl tk) (.inl xt) (.inl wrb) (.inl nab) (.inl iwb)) (xD 660 X0) (xD 6600 G_7) kp as rd sc ty ik) H := hH
      have hl : lv_has ls 2 [(0, .ref a0), (1, .int u_13)] := hl
      refine lv_iload_n F.1 F.2.1 dX7_keepsAct_120 rfl (lv_at hl 1 rfl) ?_
      refine lv_bipush (v := 6) F.1 F.2.1 dX7_keepsAct_121 (by decide) ?_
      refine topK (a := 6) (by decide) (fun k_14 hk_14 => ?_)
      refine b_ge (tgt := 152) F dX7_keepsAct_123 (by decide) (fun c_15 => ?_) (fun c_15 => ?_)
      · skip
        have r_16 : 6 ≤ u_13.toInt ∧ u_13.toInt ≤ 9 := by have h9_ := hu_13; omega
        refine lv_aload_n F.1 F.2.1 dX7_keepsAct_152 rfl (lv_at hl 0 rfl) ?_
        refine lv_dup F.1 F.2.1 dX7_keepsAct_153 rfl ?_
        refine tGetI (j := 4) F hK hH (tyb ha0 (all1 rfl)) rfl clX7 (by decide) wd_15_15 dX7_keepsAct_154 (fun z_18 hz_18 => ?_)
        have ez_18 : 0 ≤ z_18.toInt ∧ z_18.toInt ≤ 9 := by omega
        refine lv_iconst (v := 1) F.1 F.2.1 dX7_keepsAct_157 (by decide) ?_
        refine topK (a := 1) (by decide) (fun k_19 hk_19 => ?_)
        refine tAdd (lo := 1) (hi := 10) F dX7_keepsAct_158 ez_18 (eqb hk_19) rfl (fun z_20 hz_20 => ?_)
        obtain ⟨g_21, hg_21⟩ : ∃ y : Int, z_20.toInt = y := ⟨_, rfl⟩
        have bg_21 : 1 ≤ g_21 ∧ g_21 ≤ 10 := by rw [← hg_21]; exact hz_20.2
        refine tPutG (j := 4) (t := 24) (fd := (.inl (g_21, g_21))) F hK hH hS (List.mem_singleton.mp ha0) (by decide) rfl rfl (fdI (by omega)) (TB1 := (tbM (mD (.inl tp) (.inl sp) (.inl nu) (.inl (g_21, g_21)) (.inl tk) (.inl xt) (.inl wrb) (.inl nab) (.inl iwb)) (xD 660 X0) (xD 6600 G_7) kp as rd sc ty ik)) rfl clX7 (by decide) wd_15_15 rfl rfl rfl rfl dX7_keepsAct_159 (fun H locs hH hS => ?_)
        exact txV F hS dX7_keepsAct_162 (⟨g_21, (by omega), G_7, ⟨hRG_7, (okM_cp hcr82_0 hqX0 hcr84_0 rfl (by omega) (by omega) (by omega))⟩, hH⟩)
      · skip
        have r_17 : 0 ≤ u_13.toInt ∧ u_13.toInt ≤ 5 := by have h9_ := hu_13; omega
        refine lv_aload_n F.1 F.2.1 dX7_keepsAct_126 rfl (lv_at hl 0 rfl) ?_
        refine tGetR (j := 3) F hK hH (tyb ha0 (all1 rfl)) rfl (all1 rfl) clX7 (by decide) wd_6_8 dX7_keepsAct_127 (fun q_22 hq_22 _ => ?_)
        refine lv_bipush (v := 6) F.1 F.2.1 dX7_keepsAct_130 (by decide) ?_
        refine topK (a := 6) (by decide) (fun k_23 hk_23 => ?_)
        refine lv_aload_n F.1 F.2.1 dX7_keepsAct_132 rfl (lv_at hl 0 rfl) ?_
        refine tGetI (j := 4) F hK hH (tyb ha0 (all1 rfl)) rfl clX7 (by decide) wd_15_15 dX7_keepsAct_133 (fun z_24 hz_24 => ?_)
        have ez_24 : 0 ≤ z_24.toInt ∧ z_24.toInt ≤ 9 := by omega
        refine tMul (lo := 0) (hi := 54) F dX7_keepsAct_136 (eqb hk_23) ez_24 rfl (fun z_25 hz_25 => ?_)
        have mz_25 : z_25.toInt = 6 * z_24.toInt := by rw [hz_25.1, hk_23]
        refine lv_iload_n F.1 F.2.1 dX7_keepsAct_137 rfl (lv_at hl 1 rfl) ?_
        refine tAdd (lo := 0) (hi := 59) F dX7_keepsAct_138 hz_25.2 r_17 rfl (fun z_26 hz_26 => ?_)
        refine lv_aload_n F.1 F.2.1 dX7_keepsAct_139 rfl (lv_at hl 0 rfl) ?_
        refine tGetR (j := 1) F hK hH (tyb ha0 (all1 rfl)) rfl (all1 rfl) clX7 (by decide) wd_6_6 dX7_keepsAct_140 (fun q_27 hq_27 _ => ?_)
        refine lv_iload_n F.1 F.2.1 dX7_keepsAct_143 rfl (lv_at hl 1 rfl) ?_
        refine tLald F hK hH (tyb hq_27 (all1 rfl)) (ixb (n := 6) r_17 rfl rfl) dX7_keepsAct_144 (fun w_28 => ?_)
        refine tLast F hK hH hS (tyb hq_22 (all1 rfl)) (ixb (n := 60) hz_26.2 rfl rfl) dX7_keepsAct_145 (fun H locs hH hS => ?_)
        obtain ⟨x_29, ex_29, hx_29⟩ := iincB (c := 1) (lo := 1) (hi := 6) r_17 rfl
        refine lv_iinc (v := x_29) (lv' := [(1, .int x_29), (0, .ref a0)]) F.1 F.2.1 dX7_keepsAct_146 hl (k := 1) rfl ex_29 (by decide) rfl (fun ls hl => ?_)
        refine lv_goto (tgt := 120) F.1 F.2.1 dX7_keepsAct_149 (by decide) ?_
        exact ih_120 (x_29) _ _ _ ⟨(show (9 - x_29.toInt + 1).toNat < n_120 from by omega), (wkb hx_29.2 rfl rfl), hH, hS, lv_sub hl [1, 0] rfl⟩
    · skip
      have r_11 : 0 ≤ u_6.toInt ∧ u_6.toInt ≤ 659 := by have h9_ := hu_6; omega
      refine lv_aload_n F.1 F.2.1 dX7_keepsAct_91 rfl (lv_at hl 0 rfl) ?_
      refine tGetR (j := 2) F hK hH (tyb ha0 (all1 rfl)) rfl (all1 rfl) clX7 (by decide) wd_6_7 dX7_keepsAct_92 (fun q_30 hq_30 _ => ?_)
      refine lv_sipush (v := 660) F.1 F.2.1 dX7_keepsAct_95 (by decide) ?_
      refine topK (a := 660) (by decide) (fun k_31 hk_31 => ?_)
      refine lv_aload_n F.1 F.2.1 dX7_keepsAct_98 rfl (lv_at hl 0 rfl) ?_
      refine tGetI (j := 4) F hK hH (tyb ha0 (all1 rfl)) rfl clX7 (by decide) wd_15_15 dX7_keepsAct_99 (fun z_32 hz_32 => ?_)
      have ez_32 : 0 ≤ z_32.toInt ∧ z_32.toInt ≤ 9 := by omega
      refine tMul (lo := 0) (hi := 5940) F dX7_keepsAct_102 (eqb hk_31) ez_32 rfl (fun z_33 hz_33 => ?_)
      have mz_33 : z_33.toInt = 660 * z_32.toInt := by rw [hz_33.1, hk_31]
      refine lv_iload_n F.1 F.2.1 dX7_keepsAct_103 rfl (lv_at hl 1 rfl) ?_
      refine tAdd (lo := 0) (hi := 6599) F dX7_keepsAct_104 hz_33.2 r_11 rfl (fun z_34 hz_34 => ?_)
      refine lv_aload_n F.1 F.2.1 dX7_keepsAct_105 rfl (lv_at hl 0 rfl) ?_
      refine tGetR (j := 0) F hK hH (tyb ha0 (all1 rfl)) rfl (all1 rfl) clX7 (by decide) wd_6_5 dX7_keepsAct_106 (fun q_35 hq_35 _ => ?_)
      refine lv_iload_n F.1 F.2.1 dX7_keepsAct_109 rfl (lv_at hl 1 rfl) ?_
      refine tIaldX F hK hH (tyb hq_35 (all1 rfl)) (ixb (n := 660) r_11 rfl rfl) dX7_keepsAct_110 (fun z_36 ez_36 => ?_)
      refine tIastX (t := 26) F hK hH hS (List.mem_singleton.mp hq_30) (by decide) rfl (ixb (n := 6600) hz_34.2 rfl rfl) dX7_keepsAct_111 (fun G_37 eG_37 H locs hH hS => ?_)
      have hH : TH E (tbM (mD (.inl tp) (.inl sp) (.inl nu) (.inl (g_3, g_3)) (.inl tk) (.inl xt) (.inl wrb) (.inl nab) (.inl iwb)) (xD 660 X0) (xD 6600 G_37) kp as rd sc ty ik) H := hH
      obtain ⟨x_38, ex_38, hx_38⟩ := iincB (c := 1) (lo := 1) (hi := 660) r_11 rfl
      refine lv_iinc (v := x_38) (lv' := [(1, .int x_38), (0, .ref a0)]) F.1 F.2.1 dX7_keepsAct_112 hl (k := 1) rfl ex_38 (by decide) rfl (fun ls hl => ?_)
      refine lv_goto (tgt := 84) F.1 F.2.1 dX7_keepsAct_115 (by decide) ?_
      exact ih_84 (x_38, G_37) _ _ _ ⟨(show (660 - x_38.toInt + 1).toNat < n_84 from by omega), (wkb hx_38.2 rfl rfl), trivial, (show cp G_4 G_37 X0 (660 * g_3) 0 (x_38.toInt) from cp.step hcr84_0 eG_37 ez_36 (by omega) (by omega) (by omega) (by omega)), hH, hS, lv_sub hl [1, 0] rfl⟩
  refine b_ne (tgt := 82) F dX7_keepsAct_6 (by decide) (fun c_39 => ?_) (fun c_39 => ?_)
  · skip
    have r_40 : 0 ≤ z_1.toInt ∧ z_1.toInt ≤ 9 := by have h9_ := ez_1; omega
    exact J_82 (u, Wa) _ _ _ ⟨(show 0 ≤ u ∧ u ≤ 9 from by omega), hWa, (show okM Z u Wa from hmWa), hH, hS, lv_sub hl [0] rfl⟩
  · skip
    have r_41 : 10 ≤ z_1.toInt ∧ z_1.toInt ≤ 10 := by have h9_ := ez_1; omega
    refine lv_sipush (v := 660) F.1 F.2.1 dX7_keepsAct_9 (by decide) ?_
    refine topK (a := 660) (by decide) (fun k_42 hk_42 => ?_)
    refine lv_istore_n (lv' := [(1, .int k_42), (0, .ref a0)]) F.1 F.2.1 dX7_keepsAct_12 rfl hl (by decide) rfl (fun ls hl => ?_)
    refine wloop (σ := Int32 × (Nat → Int32)) (fun n9 x9 H locs ls => (6600 - x9.1.toInt + 1).toNat < n9 ∧ (660 ≤ x9.1.toInt ∧ x9.1.toInt ≤ 6600) ∧ (True) ∧ (sh Wa x9.2 (x9.1.toInt)) ∧ TH E (tbM (mD (.inl tp) (.inl sp) (.inl nu) (.inl (u, u)) (.inl tk) (.inl xt) (.inl wrb) (.inl nab) (.inl iwb)) (xD 660 X0) (xD 6600 x9.2) kp as rd sc ty ik) H ∧ va_S (eA E s.heap.size) s.heap H locs ∧ lv_has ls 2 [(0, .ref a0), (1, .int x9.1)]) ?_ (fun x9 H locs ls h => absurd h.1 (Nat.not_lt_zero _)) _ (k_42, Wa) ⟨Nat.lt_succ_self _, (wkb (eqb hk_42) rfl rfl), trivial, (show sh Wa Wa (k_42.toInt) from sh.zero (by omega)), hH, hS, lv_sub hl [1, 0] rfl⟩
    intro n_13 ih_13 ⟨u_43, G_44⟩ H locs ls ⟨hm_13, hu_43, hG_44, hcr13_0, hH, hS, hl⟩
    have hm_13 : (6600 - u_43.toInt + 1).toNat < n_13 + 1 := hm_13
    have hu_43 : (660 ≤ u_43.toInt ∧ u_43.toInt ≤ 6600) := hu_43
    have hG_44 : (True) := hG_44
    have hcr13_0 : (sh Wa G_44 (u_43.toInt)) := hcr13_0
    have hH : TH E (tbM (mD (.inl tp) (.inl sp) (.inl nu) (.inl (u, u)) (.inl tk) (.inl xt) (.inl wrb) (.inl nab) (.inl iwb)) (xD 660 X0) (xD 6600 G_44) kp as rd sc ty ik) H := hH
    have hl : lv_has ls 2 [(0, .ref a0), (1, .int u_43)] := hl
    refine lv_iload_n F.1 F.2.1 dX7_keepsAct_13 rfl (lv_at hl 1 rfl) ?_
    refine lv_sipush (v := 6600) F.1 F.2.1 dX7_keepsAct_14 (by decide) ?_
    refine topK (a := 6600) (by decide) (fun k_45 hk_45 => ?_)
    refine b_ge (tgt := 42) F dX7_keepsAct_17 (by decide) (fun c_46 => ?_) (fun c_46 => ?_)
    · skip
      have r_47 : 6600 ≤ u_43.toInt ∧ u_43.toInt ≤ 6600 := by have h9_ := hu_43; omega
      have hRG_44 : okN 10 G_44 := okN.sh hWa hcr13_0 (by omega)
      have hmS_ : ∀ v : Int, v = u - 1 → okM Z v G_44 := fun v e => okM_sh hmWa hcr13_0 (by omega) (by omega) e
      refine lv_bipush (v := 6) F.1 F.2.1 dX7_keepsAct_42 (by decide) ?_
      refine topK (a := 6) (by decide) (fun k_49 hk_49 => ?_)
      refine lv_istore_n (lv' := [(1, .int k_49), (0, .ref a0)]) F.1 F.2.1 dX7_keepsAct_44 rfl hl (by decide) rfl (fun ls hl => ?_)
      refine wloop (σ := Int32) (fun n9 x9 H locs ls => (60 - x9.toInt + 1).toNat < n9 ∧ (6 ≤ x9.toInt ∧ x9.toInt ≤ 60) ∧ TH E (tbM (mD (.inl tp) (.inl sp) (.inl nu) (.inl (u, u)) (.inl tk) (.inl xt) (.inl wrb) (.inl nab) (.inl iwb)) (xD 660 X0) (xD 6600 G_44) kp as rd sc ty ik) H ∧ va_S (eA E s.heap.size) s.heap H locs ∧ lv_has ls 2 [(0, .ref a0), (1, .int x9)]) ?_ (fun x9 H locs ls h => absurd h.1 (Nat.not_lt_zero _)) _ (k_49) ⟨Nat.lt_succ_self _, (wkb (eqb hk_49) rfl rfl), hH, hS, lv_sub hl [1, 0] rfl⟩
      intro n_45 ih_45 u_50 H locs ls ⟨hm_45, hu_50, hH, hS, hl⟩
      have hm_45 : (60 - u_50.toInt + 1).toNat < n_45 + 1 := hm_45
      have hu_50 : (6 ≤ u_50.toInt ∧ u_50.toInt ≤ 60) := hu_50
      have hH : TH E (tbM (mD (.inl tp) (.inl sp) (.inl nu) (.inl (u, u)) (.inl tk) (.inl xt) (.inl wrb) (.inl nab) (.inl iwb)) (xD 660 X0) (xD 6600 G_44) kp as rd sc ty ik) H := hH
      have hl : lv_has ls 2 [(0, .ref a0), (1, .int u_50)] := hl
      refine lv_iload_n F.1 F.2.1 dX7_keepsAct_45 rfl (lv_at hl 1 rfl) ?_
      refine lv_bipush (v := 60) F.1 F.2.1 dX7_keepsAct_46 (by decide) ?_
      refine topK (a := 60) (by decide) (fun k_51 hk_51 => ?_)
      refine b_ge (tgt := 72) F dX7_keepsAct_48 (by decide) (fun c_52 => ?_) (fun c_52 => ?_)
      · skip
        have r_53 : 60 ≤ u_50.toInt ∧ u_50.toInt ≤ 60 := by have h9_ := hu_50; omega
        refine lv_aload_n F.1 F.2.1 dX7_keepsAct_72 rfl (lv_at hl 0 rfl) ?_
        refine lv_dup F.1 F.2.1 dX7_keepsAct_73 rfl ?_
        refine tGetI (j := 4) F hK hH (tyb ha0 (all1 rfl)) rfl clX7 (by decide) wd_15_15 dX7_keepsAct_74 (fun z_55 hz_55 => ?_)
        have ez_55 : 10 ≤ z_55.toInt ∧ z_55.toInt ≤ 10 := by omega
        refine lv_iconst (v := 1) F.1 F.2.1 dX7_keepsAct_77 (by decide) ?_
        refine topK (a := 1) (by decide) (fun k_56 hk_56 => ?_)
        refine tSub (lo := 9) (hi := 9) F dX7_keepsAct_78 ez_55 (eqb hk_56) rfl (fun z_57 hz_57 => ?_)
        refine tPutG (j := 4) (t := 24) (fd := (.inl (9, 9))) F hK hH hS (List.mem_singleton.mp ha0) (by decide) rfl rfl (fdI (by omega)) (TB1 := (tbM (mD (.inl tp) (.inl sp) (.inl nu) (.inl (9, 9)) (.inl tk) (.inl xt) (.inl wrb) (.inl nab) (.inl iwb)) (xD 660 X0) (xD 6600 G_44) kp as rd sc ty ik)) rfl clX7 (by decide) wd_15_15 rfl rfl rfl rfl dX7_keepsAct_79 (fun H locs hH hS => ?_)
        exact J_82 (9, G_44) _ _ _ ⟨(show 0 ≤ 9 ∧ 9 ≤ 9 from by omega), hRG_44, (show okM Z 9 G_44 from (hmS_ _ (by omega))), hH, hS, lv_sub hl [0] rfl⟩
      · skip
        have r_54 : 6 ≤ u_50.toInt ∧ u_50.toInt ≤ 59 := by have h9_ := hu_50; omega
        refine lv_aload_n F.1 F.2.1 dX7_keepsAct_51 rfl (lv_at hl 0 rfl) ?_
        refine tGetR (j := 3) F hK hH (tyb ha0 (all1 rfl)) rfl (all1 rfl) clX7 (by decide) wd_6_8 dX7_keepsAct_52 (fun q_58 hq_58 _ => ?_)
        refine lv_iload_n F.1 F.2.1 dX7_keepsAct_55 rfl (lv_at hl 1 rfl) ?_
        refine lv_bipush (v := 6) F.1 F.2.1 dX7_keepsAct_56 (by decide) ?_
        refine topK (a := 6) (by decide) (fun k_59 hk_59 => ?_)
        refine tSub (lo := 0) (hi := 53) F dX7_keepsAct_58 r_54 (eqb hk_59) rfl (fun z_60 hz_60 => ?_)
        refine lv_aload_n F.1 F.2.1 dX7_keepsAct_59 rfl (lv_at hl 0 rfl) ?_
        refine tGetR (j := 3) F hK hH (tyb ha0 (all1 rfl)) rfl (all1 rfl) clX7 (by decide) wd_6_8 dX7_keepsAct_60 (fun q_61 hq_61 _ => ?_)
        refine lv_iload_n F.1 F.2.1 dX7_keepsAct_63 rfl (lv_at hl 1 rfl) ?_
        refine tLald F hK hH (tyb hq_61 (all1 rfl)) (ixb (n := 60) r_54 rfl rfl) dX7_keepsAct_64 (fun w_62 => ?_)
        refine tLast F hK hH hS (tyb hq_58 (all1 rfl)) (ixb (n := 60) hz_60.2 rfl rfl) dX7_keepsAct_65 (fun H locs hH hS => ?_)
        obtain ⟨x_63, ex_63, hx_63⟩ := iincB (c := 1) (lo := 7) (hi := 60) r_54 rfl
        refine lv_iinc (v := x_63) (lv' := [(1, .int x_63), (0, .ref a0)]) F.1 F.2.1 dX7_keepsAct_66 hl (k := 1) rfl ex_63 (by decide) rfl (fun ls hl => ?_)
        refine lv_goto (tgt := 45) F.1 F.2.1 dX7_keepsAct_69 (by decide) ?_
        exact ih_45 (x_63) _ _ _ ⟨(show (60 - x_63.toInt + 1).toNat < n_45 from by omega), (wkb hx_63.2 rfl rfl), hH, hS, lv_sub hl [1, 0] rfl⟩
    · skip
      have r_48 : 660 ≤ u_43.toInt ∧ u_43.toInt ≤ 6599 := by have h9_ := hu_43; omega
      refine lv_aload_n F.1 F.2.1 dX7_keepsAct_20 rfl (lv_at hl 0 rfl) ?_
      refine tGetR (j := 2) F hK hH (tyb ha0 (all1 rfl)) rfl (all1 rfl) clX7 (by decide) wd_6_7 dX7_keepsAct_21 (fun q_64 hq_64 _ => ?_)
      refine lv_iload_n F.1 F.2.1 dX7_keepsAct_24 rfl (lv_at hl 1 rfl) ?_
      refine lv_sipush (v := 660) F.1 F.2.1 dX7_keepsAct_25 (by decide) ?_
      refine topK (a := 660) (by decide) (fun k_65 hk_65 => ?_)
      refine tSub (lo := 0) (hi := 5939) F dX7_keepsAct_28 r_48 (eqb hk_65) rfl (fun z_66 hz_66 => ?_)
      refine lv_aload_n F.1 F.2.1 dX7_keepsAct_29 rfl (lv_at hl 0 rfl) ?_
      refine tGetR (j := 2) F hK hH (tyb ha0 (all1 rfl)) rfl (all1 rfl) clX7 (by decide) wd_6_7 dX7_keepsAct_30 (fun q_67 hq_67 _ => ?_)
      refine lv_iload_n F.1 F.2.1 dX7_keepsAct_33 rfl (lv_at hl 1 rfl) ?_
      refine tIaldX F hK hH (tyb hq_67 (all1 rfl)) (ixb (n := 6600) r_48 rfl rfl) dX7_keepsAct_34 (fun z_68 ez_68 => ?_)
      refine tIastX (t := 26) F hK hH hS (List.mem_singleton.mp hq_64) (by decide) rfl (ixb (n := 6600) hz_66.2 rfl rfl) dX7_keepsAct_35 (fun G_69 eG_69 H locs hH hS => ?_)
      have hH : TH E (tbM (mD (.inl tp) (.inl sp) (.inl nu) (.inl (u, u)) (.inl tk) (.inl xt) (.inl wrb) (.inl nab) (.inl iwb)) (xD 660 X0) (xD 6600 G_69) kp as rd sc ty ik) H := hH
      obtain ⟨x_70, ex_70, hx_70⟩ := iincB (c := 1) (lo := 661) (hi := 6600) r_48 rfl
      refine lv_iinc (v := x_70) (lv' := [(1, .int x_70), (0, .ref a0)]) F.1 F.2.1 dX7_keepsAct_36 hl (k := 1) rfl ex_70 (by decide) rfl (fun ls hl => ?_)
      refine lv_goto (tgt := 13) F.1 F.2.1 dX7_keepsAct_39 (by decide) ?_
      exact ih_13 (x_70, G_69) _ _ _ ⟨(show (6600 - x_70.toInt + 1).toNat < n_13 from by omega), (wkb hx_70.2 rfl rfl), trivial, (show sh Wa G_69 (x_70.toInt) from sh.step hcr13_0 eG_69 ez_68 (by omega) (by omega) (by omega) (by omega)), hH, hS, lv_sub hl [1, 0] rfl⟩
set_option maxHeartbeats 4000000 in
set_option maxRecDepth 100000 in
theorem c_X7_undo (E : Ev) (kp : TD) (as : TD) (rd : TD) (sc : TD) (ty : TD) (ik : TD) (tk : Int × Int) (xt : Int × Int) (tp : Int × Int) (sp : Int × Int) (wrb : Int × Int) (nu : Int × Int) (nab : Int × Int) (iwb : Int × Int) (u : Int) (X0 : Nat → Int32) (Wa : Nat → Int32) (Z : Nat → Int32) (a0 : Nat) (ha0 : eT E a0 ∈ [24]) (hu : 0 ≤ u ∧ u ≤ 10) (hX0 : okR X0) (hWa : okN 10 Wa) (hmWa : okM Z u Wa) (hqX0 : sQ Z X0) : TcI E yX7_undo cX7_undo 2 .int ({ frames := 1, cells := 0, slots := 0, locals := 40 }) [.ref a0] (fun H => TH E (tbM (mD (.inl tp) (.inl sp) (.inl nu) (.inl (u, u)) (.inl tk) (.inl xt) (.inl wrb) (.inl nab) (.inl iwb)) (xD 660 X0) (xD 6600 Wa) kp as rd sc ty ik) H) (fun v H => ∃ u2 : Int, (0 ≤ u2 ∧ u2 ≤ 10 ∧ okM Z u2 Wa) ∧ ∃ X2 : Nat → Int32, (okR X2 ∧ sQ Z X2) ∧ ((-2147483648) ≤ v.toInt ∧ v.toInt ≤ 2147483647) ∧ TH E (tbM (mD (.inl tp) (.inl sp) (.inl nu) (.inl (u2, u2)) (.inl tk) (.inl xt) (.inl wrb) (.inl nab) (.inl iwb)) (xD 660 X2) (xD 6600 Wa) kp as rd sc ty ik) H) := by
  refine teI (by decide) (Nat.le_of_ble_eq_true rfl) ?_
  intro p_ ev_ s mi_ below_ meth cd_ ls F hK hN hO hH hS hl
  have hH : TH E (tbM (mD (.inl tp) (.inl sp) (.inl nu) (.inl (u, u)) (.inl tk) (.inl xt) (.inl wrb) (.inl nab) (.inl iwb)) (xD 660 X0) (xD 6600 Wa) kp as rd sc ty ik) s.heap := hH
  have hl : lv_has ls 2 [(0, .ref a0)] := hl
  have hBX0 := okB hX0.1
  have hLX0 := hX0.2
  refine lv_aload_n F.1 F.2.1 dX7_undo_0 rfl (lv_at hl 0 rfl) ?_
  refine tGetI (j := 4) F hK hH (tyb ha0 (all1 rfl)) rfl clX7 (by decide) wd_15_15 dX7_undo_1 (fun z_1 hz_1 => ?_)
  have ez_1 : 0 ≤ z_1.toInt ∧ z_1.toInt ≤ 10 := by omega
  refine z_ne (tgt := 9) F dX7_undo_4 (by decide) (fun c_2 => ?_) (fun c_2 => ?_)
  · skip
    have r_3 : 1 ≤ z_1.toInt ∧ z_1.toInt ≤ 10 := by have h9_ := ez_1; omega
    refine lv_aload_n F.1 F.2.1 dX7_undo_9 rfl (lv_at hl 0 rfl) ?_
    refine lv_dup F.1 F.2.1 dX7_undo_10 rfl ?_
    refine tGetI (j := 4) F hK hH (tyb ha0 (all1 rfl)) rfl clX7 (by decide) wd_15_15 dX7_undo_11 (fun z_5 hz_5 => ?_)
    have ez_5 : 1 ≤ z_5.toInt ∧ z_5.toInt ≤ 10 := by omega
    refine lv_iconst (v := 1) F.1 F.2.1 dX7_undo_14 (by decide) ?_
    refine topK (a := 1) (by decide) (fun k_6 hk_6 => ?_)
    refine tSub (lo := 0) (hi := 9) F dX7_undo_15 ez_5 (eqb hk_6) rfl (fun z_7 hz_7 => ?_)
    obtain ⟨g_8, hg_8⟩ : ∃ y : Int, z_7.toInt = y := ⟨_, rfl⟩
    have bg_8 : 0 ≤ g_8 ∧ g_8 ≤ 9 := by rw [← hg_8]; exact hz_7.2
    refine tPutG (j := 4) (t := 24) (fd := (.inl (g_8, g_8))) F hK hH hS (List.mem_singleton.mp ha0) (by decide) rfl rfl (fdI (by omega)) (TB1 := (tbM (mD (.inl tp) (.inl sp) (.inl nu) (.inl (g_8, g_8)) (.inl tk) (.inl xt) (.inl wrb) (.inl nab) (.inl iwb)) (xD 660 X0) (xD 6600 Wa) kp as rd sc ty ik)) rfl clX7 (by decide) wd_15_15 rfl rfl rfl rfl dX7_undo_16 (fun H locs hH hS => ?_)
    refine lv_iconst (v := 0) F.1 F.2.1 dX7_undo_19 (by decide) ?_
    refine topK (a := 0) (by decide) (fun k_9 hk_9 => ?_)
    refine lv_istore_n (lv' := [(1, .int k_9), (0, .ref a0)]) F.1 F.2.1 dX7_undo_20 rfl hl (by decide) rfl (fun ls hl => ?_)
    refine wloop (σ := Int32 × (Nat → Int32)) (fun n9 x9 H locs ls => (660 - x9.1.toInt + 1).toNat < n9 ∧ (0 ≤ x9.1.toInt ∧ x9.1.toInt ≤ 660) ∧ (True) ∧ (cp X0 x9.2 Wa 0 (660 * g_8) (x9.1.toInt)) ∧ TH E (tbM (mD (.inl tp) (.inl sp) (.inl nu) (.inl (g_8, g_8)) (.inl tk) (.inl xt) (.inl wrb) (.inl nab) (.inl iwb)) (xD 660 x9.2) (xD 6600 Wa) kp as rd sc ty ik) H ∧ va_S (eA E s.heap.size) s.heap H locs ∧ lv_has ls 2 [(0, .ref a0), (1, .int x9.1)]) ?_ (fun x9 H locs ls h => absurd h.1 (Nat.not_lt_zero _)) _ (k_9, X0) ⟨Nat.lt_succ_self _, (wkb (eqb hk_9) rfl rfl), trivial, (show cp X0 X0 Wa 0 (660 * g_8) (k_9.toInt) from cp.zero (by omega)), hH, hS, lv_sub hl [1, 0] rfl⟩
    intro n_21 ih_21 ⟨u_10, G_11⟩ H locs ls ⟨hm_21, hu_10, hG_11, hcr21_0, hH, hS, hl⟩
    have hm_21 : (660 - u_10.toInt + 1).toNat < n_21 + 1 := hm_21
    have hu_10 : (0 ≤ u_10.toInt ∧ u_10.toInt ≤ 660) := hu_10
    have hG_11 : (True) := hG_11
    have hcr21_0 : (cp X0 G_11 Wa 0 (660 * g_8) (u_10.toInt)) := hcr21_0
    have hH : TH E (tbM (mD (.inl tp) (.inl sp) (.inl nu) (.inl (g_8, g_8)) (.inl tk) (.inl xt) (.inl wrb) (.inl nab) (.inl iwb)) (xD 660 G_11) (xD 6600 Wa) kp as rd sc ty ik) H := hH
    have hl : lv_has ls 2 [(0, .ref a0), (1, .int u_10)] := hl
    refine lv_iload_n F.1 F.2.1 dX7_undo_21 rfl (lv_at hl 1 rfl) ?_
    refine lv_sipush (v := 660) F.1 F.2.1 dX7_undo_22 (by decide) ?_
    refine topK (a := 660) (by decide) (fun k_12 hk_12 => ?_)
    refine b_ge (tgt := 55) F dX7_undo_25 (by decide) (fun c_13 => ?_) (fun c_13 => ?_)
    · skip
      have r_14 : 660 ≤ u_10.toInt ∧ u_10.toInt ≤ 660 := by have h9_ := hu_10; omega
      have hRG_11 : okR G_11 := okR.cp0 (okN.row (r := (g_8).toNat) hWa (by omega) (by omega)) hcr21_0 (by omega) (by omega)
      have hBG_11 := okB hRG_11.1
      have hLG_11 := hRG_11.2
      refine lv_iconst (v := 0) F.1 F.2.1 dX7_undo_55 (by decide) ?_
      refine topK (a := 0) (by decide) (fun k_16 hk_16 => ?_)
      refine lv_istore_n (lv' := [(1, .int k_16), (0, .ref a0)]) F.1 F.2.1 dX7_undo_56 rfl hl (by decide) rfl (fun ls hl => ?_)
      refine wloop (σ := Int32) (fun n9 x9 H locs ls => (9 - x9.toInt + 1).toNat < n9 ∧ (0 ≤ x9.toInt ∧ x9.toInt ≤ 9) ∧ TH E (tbM (mD (.inl tp) (.inl sp) (.inl nu) (.inl (g_8, g_8)) (.inl tk) (.inl xt) (.inl wrb) (.inl nab) (.inl iwb)) (xD 660 G_11) (xD 6600 Wa) kp as rd sc ty ik) H ∧ va_S (eA E s.heap.size) s.heap H locs ∧ lv_has ls 2 [(0, .ref a0), (1, .int x9)]) ?_ (fun x9 H locs ls h => absurd h.1 (Nat.not_lt_zero _)) _ (k_16) ⟨Nat.lt_succ_self _, (wkb (eqb hk_16) rfl rfl), hH, hS, lv_sub hl [1, 0] rfl⟩
      intro n_57 ih_57 u_17 H locs ls ⟨hm_57, hu_17, hH, hS, hl⟩
      have hm_57 : (9 - u_17.toInt + 1).toNat < n_57 + 1 := hm_57
      have hu_17 : (0 ≤ u_17.toInt ∧ u_17.toInt ≤ 9) := hu_17
      have hH : TH E (tbM (mD (.inl tp) (.inl sp) (.inl nu) (.inl (g_8, g_8)) (.inl tk) (.inl xt) (.inl wrb) (.inl nab) (.inl iwb)) (xD 660 G_11) (xD 6600 Wa) kp as rd sc ty ik) H := hH
      have hl : lv_has ls 2 [(0, .ref a0), (1, .int u_17)] := hl
      refine lv_iload_n F.1 F.2.1 dX7_undo_57 rfl (lv_at hl 1 rfl) ?_
      refine lv_bipush (v := 6) F.1 F.2.1 dX7_undo_58 (by decide) ?_
      refine topK (a := 6) (by decide) (fun k_18 hk_18 => ?_)
      refine b_ge (tgt := 89) F dX7_undo_60 (by decide) (fun c_19 => ?_) (fun c_19 => ?_)
      · skip
        have r_20 : 6 ≤ u_17.toInt ∧ u_17.toInt ≤ 9 := by have h9_ := hu_17; omega
        refine lv_aload_n F.1 F.2.1 dX7_undo_89 rfl (lv_at hl 0 rfl) ?_
        refine tGetI (j := 4) F hK hH (tyb ha0 (all1 rfl)) rfl clX7 (by decide) wd_15_15 dX7_undo_90 (fun z_22 hz_22 => ?_)
        have ez_22 : 0 ≤ z_22.toInt ∧ z_22.toInt ≤ 9 := by omega
        exact txI F hS dX7_undo_93 rfl (⟨g_8, ⟨by omega, by omega, (okM.mono hmWa (by omega))⟩, G_11, ⟨hRG_11, (sQ_row hmWa hcr21_0 rfl (by omega) (by omega))⟩, (wkb ez_22 rfl rfl), hH⟩)
      · skip
        have r_21 : 0 ≤ u_17.toInt ∧ u_17.toInt ≤ 5 := by have h9_ := hu_17; omega
        refine lv_aload_n F.1 F.2.1 dX7_undo_63 rfl (lv_at hl 0 rfl) ?_
        refine tGetR (j := 1) F hK hH (tyb ha0 (all1 rfl)) rfl (all1 rfl) clX7 (by decide) wd_6_6 dX7_undo_64 (fun q_23 hq_23 _ => ?_)
        refine lv_iload_n F.1 F.2.1 dX7_undo_67 rfl (lv_at hl 1 rfl) ?_
        refine lv_aload_n F.1 F.2.1 dX7_undo_68 rfl (lv_at hl 0 rfl) ?_
        refine tGetR (j := 3) F hK hH (tyb ha0 (all1 rfl)) rfl (all1 rfl) clX7 (by decide) wd_6_8 dX7_undo_69 (fun q_24 hq_24 _ => ?_)
        refine lv_bipush (v := 6) F.1 F.2.1 dX7_undo_72 (by decide) ?_
        refine topK (a := 6) (by decide) (fun k_25 hk_25 => ?_)
        refine lv_aload_n F.1 F.2.1 dX7_undo_74 rfl (lv_at hl 0 rfl) ?_
        refine tGetI (j := 4) F hK hH (tyb ha0 (all1 rfl)) rfl clX7 (by decide) wd_15_15 dX7_undo_75 (fun z_26 hz_26 => ?_)
        have ez_26 : 0 ≤ z_26.toInt ∧ z_26.toInt ≤ 9 := by omega
        refine tMul (lo := 0) (hi := 54) F dX7_undo_78 (eqb hk_25) ez_26 rfl (fun z_27 hz_27 => ?_)
        have mz_27 : z_27.toInt = 6 * z_26.toInt := by rw [hz_27.1, hk_25]
        refine lv_iload_n F.1 F.2.1 dX7_undo_79 rfl (lv_at hl 1 rfl) ?_
        refine tAdd (lo := 0) (hi := 59) F dX7_undo_80 hz_27.2 r_21 rfl (fun z_28 hz_28 => ?_)
        refine tLald F hK hH (tyb hq_24 (all1 rfl)) (ixb (n := 60) hz_28.2 rfl rfl) dX7_undo_81 (fun w_29 => ?_)
        refine tLast F hK hH hS (tyb hq_23 (all1 rfl)) (ixb (n := 6) r_21 rfl rfl) dX7_undo_82 (fun H locs hH hS => ?_)
        obtain ⟨x_30, ex_30, hx_30⟩ := iincB (c := 1) (lo := 1) (hi := 6) r_21 rfl
        refine lv_iinc (v := x_30) (lv' := [(1, .int x_30), (0, .ref a0)]) F.1 F.2.1 dX7_undo_83 hl (k := 1) rfl ex_30 (by decide) rfl (fun ls hl => ?_)
        refine lv_goto (tgt := 57) F.1 F.2.1 dX7_undo_86 (by decide) ?_
        exact ih_57 (x_30) _ _ _ ⟨(show (9 - x_30.toInt + 1).toNat < n_57 from by omega), (wkb hx_30.2 rfl rfl), hH, hS, lv_sub hl [1, 0] rfl⟩
    · skip
      have r_15 : 0 ≤ u_10.toInt ∧ u_10.toInt ≤ 659 := by have h9_ := hu_10; omega
      refine lv_aload_n F.1 F.2.1 dX7_undo_28 rfl (lv_at hl 0 rfl) ?_
      refine tGetR (j := 0) F hK hH (tyb ha0 (all1 rfl)) rfl (all1 rfl) clX7 (by decide) wd_6_5 dX7_undo_29 (fun q_31 hq_31 _ => ?_)
      refine lv_iload_n F.1 F.2.1 dX7_undo_32 rfl (lv_at hl 1 rfl) ?_
      refine lv_aload_n F.1 F.2.1 dX7_undo_33 rfl (lv_at hl 0 rfl) ?_
      refine tGetR (j := 2) F hK hH (tyb ha0 (all1 rfl)) rfl (all1 rfl) clX7 (by decide) wd_6_7 dX7_undo_34 (fun q_32 hq_32 _ => ?_)
      refine lv_sipush (v := 660) F.1 F.2.1 dX7_undo_37 (by decide) ?_
      refine topK (a := 660) (by decide) (fun k_33 hk_33 => ?_)
      refine lv_aload_n F.1 F.2.1 dX7_undo_40 rfl (lv_at hl 0 rfl) ?_
      refine tGetI (j := 4) F hK hH (tyb ha0 (all1 rfl)) rfl clX7 (by decide) wd_15_15 dX7_undo_41 (fun z_34 hz_34 => ?_)
      have ez_34 : 0 ≤ z_34.toInt ∧ z_34.toInt ≤ 9 := by omega
      refine tMul (lo := 0) (hi := 5940) F dX7_undo_44 (eqb hk_33) ez_34 rfl (fun z_35 hz_35 => ?_)
      have mz_35 : z_35.toInt = 660 * z_34.toInt := by rw [hz_35.1, hk_33]
      refine lv_iload_n F.1 F.2.1 dX7_undo_45 rfl (lv_at hl 1 rfl) ?_
      refine tAdd (lo := 0) (hi := 6599) F dX7_undo_46 hz_35.2 r_15 rfl (fun z_36 hz_36 => ?_)
      refine tIaldX F hK hH (tyb hq_32 (all1 rfl)) (ixb (n := 6600) hz_36.2 rfl rfl) dX7_undo_47 (fun z_37 ez_37 => ?_)
      refine tIastX (t := 25) F hK hH hS (List.mem_singleton.mp hq_31) (by decide) rfl (ixb (n := 660) r_15 rfl rfl) dX7_undo_48 (fun G_38 eG_38 H locs hH hS => ?_)
      have hH : TH E (tbM (mD (.inl tp) (.inl sp) (.inl nu) (.inl (g_8, g_8)) (.inl tk) (.inl xt) (.inl wrb) (.inl nab) (.inl iwb)) (xD 660 G_38) (xD 6600 Wa) kp as rd sc ty ik) H := hH
      obtain ⟨x_39, ex_39, hx_39⟩ := iincB (c := 1) (lo := 1) (hi := 660) r_15 rfl
      refine lv_iinc (v := x_39) (lv' := [(1, .int x_39), (0, .ref a0)]) F.1 F.2.1 dX7_undo_49 hl (k := 1) rfl ex_39 (by decide) rfl (fun ls hl => ?_)
      refine lv_goto (tgt := 21) F.1 F.2.1 dX7_undo_52 (by decide) ?_
      exact ih_21 (x_39, G_38) _ _ _ ⟨(show (660 - x_39.toInt + 1).toNat < n_21 from by omega), (wkb hx_39.2 rfl rfl), trivial, (show cp X0 G_38 Wa 0 (660 * g_8) (x_39.toInt) from cp.step hcr21_0 eG_38 ez_37 (by omega) (by omega) (by omega) (by omega)), hH, hS, lv_sub hl [1, 0] rfl⟩
  · skip
    have r_4 : 0 ≤ z_1.toInt ∧ z_1.toInt ≤ 0 := by have h9_ := ez_1; omega
    refine lv_iconst (v := (-1)) F.1 F.2.1 dX7_undo_7 (by decide) ?_
    refine topK (a := (-1)) (by decide) (fun k_40 hk_40 => ?_)
    exact txI F hS dX7_undo_8 rfl (⟨u, ⟨by omega, by omega, (okM.mono hmWa (by omega))⟩, X0, ⟨hX0, hqX0⟩, (wkb (eqb hk_40) rfl rfl), hH⟩)
set_option maxHeartbeats 4000000 in
set_option maxRecDepth 100000 in
theorem c_X7_keep_n (E : Ev) (m : TD) (nw : TD) (ws : TD) (kp : TD) (as : TD) (rd : TD) (sc : TD) (ty : TD) (ik : TD) (a0 : Nat) (a1 : Int32) (ha0 : eT E a0 ∈ [24]) (hr : a1.toInt < 0 ∨ 1 < a1.toInt) : TcI E yX7_keep cX7_keep 3 .int ({ frames := 2, cells := 0, slots := 0, locals := 65 }) [.ref a0, .int a1] (fun H => TH E (tbM m nw ws kp as rd sc ty ik) H) (fun v H => ((-2147483648) ≤ v.toInt ∧ v.toInt ≤ 2147483647) ∧ TH E (tbM m nw ws kp as rd sc ty ik) H) := by
  refine teI (by decide) (Nat.le_of_ble_eq_true rfl) ?_
  intro p_ ev_ s mi_ below_ meth cd_ ls F hK hN hO hH hS hl
  have hH : TH E (tbM m nw ws kp as rd sc ty ik) s.heap := hH
  have hl : lv_has ls 3 [(0, .ref a0), (1, .int a1)] := hl
  refine lv_iload_n F.1 F.2.1 dX7_keep_0 rfl (lv_at hl 1 rfl) ?_
  refine tI2l F dX7_keep_1 (fun w_1 hw_1 => ?_)
  refine lv_lconst (v := 0) F.1 F.2.1 dX7_keep_2 (by decide) ?_
  refine topKL (a := 0) (by decide) (fun j_2 hj_2 => ?_)
  refine lv_lconst (v := 1) F.1 F.2.1 dX7_keep_3 (by decide) ?_
  refine topKL (a := 1) (by decide) (fun j_3 hj_3 => ?_)
  refine tSi (As := [.long w_1, .long j_2, .long j_3]) (rest := []) F hK hN hO (c_X7_in E m nw ws kp as rd sc ty ik w_1 j_2 j_3) ms_X7_in wd_8_10 ⟨Nat.le_of_ble_eq_true rfl, Nat.le_of_ble_eq_true rfl⟩ ⟨Nat.le_of_ble_eq_true rfl, Nat.le_of_ble_eq_true rfl⟩ hH hS rfl hl.1 (Nat.le_of_ble_eq_true rfl) dX7_keep_4 (fun z_4 H locs hq hS => ?_)
  obtain ⟨f_5, f_6, hH⟩ := hq
  have hH : TH E (tbM m nw ws kp as rd sc ty ik) H := hH
  refine z_ne (tgt := 12) F dX7_keep_7 (by decide) (fun c_7 => absurd c_7 (by omega)) (fun c_7 => ?_)
  have r_8 : 0 ≤ z_4.toInt ∧ z_4.toInt ≤ 0 := by have h9_ := f_5; omega
  refine lv_iconst (v := (-1)) F.1 F.2.1 dX7_keep_10 (by decide) ?_
  refine topK (a := (-1)) (by decide) (fun k_9 hk_9 => ?_)
  exact txI F hS dX7_keep_11 rfl (⟨(wkb (eqb hk_9) rfl rfl), hH⟩)
set_option maxHeartbeats 4000000 in
set_option maxRecDepth 100000 in
theorem c_X7_keep_0 (E : Ev) (ws : TD) (as : TD) (rd : TD) (sc : TD) (ty : TD) (un : Int × Int) (tk : Int × Int) (xt : Int × Int) (tp : Int × Int) (sp : Int × Int) (wrb : Int × Int) (nu : Int × Int) (nab : Int × Int) (iwb : Int × Int) (X0 : Nat → Int32) (V : Nat → Int32) (Kp : Nat → Int32) (Z : Nat → Int32) (a0 : Nat) (a1 : Int32) (ha0 : eT E a0 ∈ [24]) (ha1 : 0 ≤ a1.toInt ∧ a1.toInt ≤ 0) (hX0 : okR X0) (hV : okN 2 V) (hKp : ivP 2 0 1 Kp) (hqX0 : sQ Z X0) : TcI E yX7_keep cX7_keep 3 .int ({ frames := 2, cells := 0, slots := 0, locals := 65 }) [.ref a0, .int a1] (fun H => TH E (tbM (mD (.inl tp) (.inl sp) (.inl nu) (.inl un) (.inl tk) (.inl xt) (.inl wrb) (.inl nab) (.inl iwb)) (xD 660 X0) ws (xD 1320 V) as rd sc ty (xZ 2 Kp)) H) (fun v H => ∃ V2 : Nat → Int32, (okN 2 V2 ∧ okS Z 0 V2 ∧ ∀ Y : Nat → Int32, okS Y 1 V → okS Y 1 V2) ∧ ∃ Kq : Nat → Int32, (ivP 2 0 1 Kq ∧ gI Kq 0 = 1 ∧ gI Kq 1 = gI Kp 1) ∧ ((-2147483648) ≤ v.toInt ∧ v.toInt ≤ 2147483647) ∧ TH E (tbM (mD (.inl tp) (.inl sp) (.inl nu) (.inl un) (.inl tk) (.inl xt) (.inl wrb) (.inl nab) (.inl iwb)) (xD 660 X0) ws (xD 1320 V2) as rd sc ty (xZ 2 Kq)) H) := by
  refine teI (by decide) (Nat.le_of_ble_eq_true rfl) ?_
  intro p_ ev_ s mi_ below_ meth cd_ ls F hK hN hO hH hS hl
  have hH : TH E (tbM (mD (.inl tp) (.inl sp) (.inl nu) (.inl un) (.inl tk) (.inl xt) (.inl wrb) (.inl nab) (.inl iwb)) (xD 660 X0) ws (xD 1320 V) as rd sc ty (xZ 2 Kp)) s.heap := hH
  have hl : lv_has ls 3 [(0, .ref a0), (1, .int a1)] := hl
  have hBX0 := okB hX0.1
  have hLX0 := hX0.2
  refine lv_iload_n F.1 F.2.1 dX7_keep_0 rfl (lv_at hl 1 rfl) ?_
  refine tI2l F dX7_keep_1 (fun w_1 hw_1 => ?_)
  refine lv_lconst (v := 0) F.1 F.2.1 dX7_keep_2 (by decide) ?_
  refine topKL (a := 0) (by decide) (fun j_2 hj_2 => ?_)
  refine lv_lconst (v := 1) F.1 F.2.1 dX7_keep_3 (by decide) ?_
  refine topKL (a := 1) (by decide) (fun j_3 hj_3 => ?_)
  refine tSi (As := [.long w_1, .long j_2, .long j_3]) (rest := []) F hK hN hO (c_X7_in E (mD (.inl tp) (.inl sp) (.inl nu) (.inl un) (.inl tk) (.inl xt) (.inl wrb) (.inl nab) (.inl iwb)) (xD 660 X0) ws (xD 1320 V) as rd sc ty (xZ 2 Kp) w_1 j_2 j_3) ms_X7_in wd_8_10 ⟨Nat.le_of_ble_eq_true rfl, Nat.le_of_ble_eq_true rfl⟩ ⟨Nat.le_of_ble_eq_true rfl, Nat.le_of_ble_eq_true rfl⟩ hH hS rfl hl.1 (Nat.le_of_ble_eq_true rfl) dX7_keep_4 (fun z_4 H locs hq hS => ?_)
  obtain ⟨f_5, f_6, hH⟩ := hq
  have hH : TH E (tbM (mD (.inl tp) (.inl sp) (.inl nu) (.inl un) (.inl tk) (.inl xt) (.inl wrb) (.inl nab) (.inl iwb)) (xD 660 X0) ws (xD 1320 V) as rd sc ty (xZ 2 Kp)) H := hH
  refine z_ne (tgt := 12) F dX7_keep_7 (by decide) (fun c_7 => ?_) (fun c_7 => absurd c_7 (by omega))
  have r_8 : 1 ≤ z_4.toInt ∧ z_4.toInt ≤ 1 := by have h9_ := f_5; omega
  refine lv_iconst (v := 0) F.1 F.2.1 dX7_keep_12 (by decide) ?_
  refine topK (a := 0) (by decide) (fun k_9 hk_9 => ?_)
  refine lv_istore_n (lv' := [(2, .int k_9), (0, .ref a0), (1, .int a1)]) F.1 F.2.1 dX7_keep_13 rfl hl (by decide) rfl (fun ls hl => ?_)
  refine wloop (σ := Int32 × (Nat → Int32)) (fun n9 x9 H locs ls => (660 - x9.1.toInt + 1).toNat < n9 ∧ (0 ≤ x9.1.toInt ∧ x9.1.toInt ≤ 660) ∧ (True) ∧ (cp V x9.2 X0 (660 * a1.toInt) 0 (x9.1.toInt)) ∧ TH E (tbM (mD (.inl tp) (.inl sp) (.inl nu) (.inl un) (.inl tk) (.inl xt) (.inl wrb) (.inl nab) (.inl iwb)) (xD 660 X0) ws (xD 1320 x9.2) as rd sc ty (xZ 2 Kp)) H ∧ va_S (eA E s.heap.size) s.heap H locs ∧ lv_has ls 3 [(0, .ref a0), (1, .int a1), (2, .int x9.1)]) ?_ (fun x9 H locs ls h => absurd h.1 (Nat.not_lt_zero _)) _ (k_9, V) ⟨Nat.lt_succ_self _, (wkb (eqb hk_9) rfl rfl), trivial, (show cp V V X0 (660 * a1.toInt) 0 (k_9.toInt) from cp.zero (by omega)), hH, hS, lv_sub hl [1, 2, 0] rfl⟩
  intro n_14 ih_14 ⟨u_10, G_11⟩ H locs ls ⟨hm_14, hu_10, hG_11, hcr14_0, hH, hS, hl⟩
  have hm_14 : (660 - u_10.toInt + 1).toNat < n_14 + 1 := hm_14
  have hu_10 : (0 ≤ u_10.toInt ∧ u_10.toInt ≤ 660) := hu_10
  have hG_11 : (True) := hG_11
  have hcr14_0 : (cp V G_11 X0 (660 * a1.toInt) 0 (u_10.toInt)) := hcr14_0
  have hH : TH E (tbM (mD (.inl tp) (.inl sp) (.inl nu) (.inl un) (.inl tk) (.inl xt) (.inl wrb) (.inl nab) (.inl iwb)) (xD 660 X0) ws (xD 1320 G_11) as rd sc ty (xZ 2 Kp)) H := hH
  have hl : lv_has ls 3 [(0, .ref a0), (1, .int a1), (2, .int u_10)] := hl
  refine lv_iload_n F.1 F.2.1 dX7_keep_14 rfl (lv_at hl 2 rfl) ?_
  refine lv_sipush (v := 660) F.1 F.2.1 dX7_keep_15 (by decide) ?_
  refine topK (a := 660) (by decide) (fun k_12 hk_12 => ?_)
  refine b_ge (tgt := 45) F dX7_keep_18 (by decide) (fun c_13 => ?_) (fun c_13 => ?_)
  · skip
    have r_14 : 660 ≤ u_10.toInt ∧ u_10.toInt ≤ 660 := by have h9_ := hu_10; omega
    have hRG_11 : okN 2 G_11 := okN.cp (u := a1.toInt.toNat) hV hX0 hcr14_0 (by omega) (by omega)
    refine lv_iconst (v := 0) F.1 F.2.1 dX7_keep_45 (by decide) ?_
    refine topK (a := 0) (by decide) (fun k_16 hk_16 => ?_)
    refine lv_istore_n (lv' := [(2, .int k_16), (0, .ref a0), (1, .int a1)]) F.1 F.2.1 dX7_keep_46 rfl hl (by decide) rfl (fun ls hl => ?_)
    refine wloop (σ := Int32) (fun n9 x9 H locs ls => (9 - x9.toInt + 1).toNat < n9 ∧ (0 ≤ x9.toInt ∧ x9.toInt ≤ 9) ∧ TH E (tbM (mD (.inl tp) (.inl sp) (.inl nu) (.inl un) (.inl tk) (.inl xt) (.inl wrb) (.inl nab) (.inl iwb)) (xD 660 X0) ws (xD 1320 G_11) as rd sc ty (xZ 2 Kp)) H ∧ va_S (eA E s.heap.size) s.heap H locs ∧ lv_has ls 3 [(0, .ref a0), (1, .int a1), (2, .int x9)]) ?_ (fun x9 H locs ls h => absurd h.1 (Nat.not_lt_zero _)) _ (k_16) ⟨Nat.lt_succ_self _, (wkb (eqb hk_16) rfl rfl), hH, hS, lv_sub hl [1, 2, 0] rfl⟩
    intro n_47 ih_47 u_17 H locs ls ⟨hm_47, hu_17, hH, hS, hl⟩
    have hm_47 : (9 - u_17.toInt + 1).toNat < n_47 + 1 := hm_47
    have hu_17 : (0 ≤ u_17.toInt ∧ u_17.toInt ≤ 9) := hu_17
    have hH : TH E (tbM (mD (.inl tp) (.inl sp) (.inl nu) (.inl un) (.inl tk) (.inl xt) (.inl wrb) (.inl nab) (.inl iwb)) (xD 660 X0) ws (xD 1320 G_11) as rd sc ty (xZ 2 Kp)) H := hH
    have hl : lv_has ls 3 [(0, .ref a0), (1, .int a1), (2, .int u_17)] := hl
    refine lv_iload_n F.1 F.2.1 dX7_keep_47 rfl (lv_at hl 2 rfl) ?_
    refine lv_bipush (v := 6) F.1 F.2.1 dX7_keep_48 (by decide) ?_
    refine topK (a := 6) (by decide) (fun k_18 hk_18 => ?_)
    refine b_ge (tgt := 76) F dX7_keep_50 (by decide) (fun c_19 => ?_) (fun c_19 => ?_)
    · skip
      have r_20 : 6 ≤ u_17.toInt ∧ u_17.toInt ≤ 9 := by have h9_ := hu_17; omega
      refine lv_aload_n F.1 F.2.1 dX7_keep_76 rfl (lv_at hl 0 rfl) ?_
      refine tGetR (j := 7) F hK hH (tyb ha0 (all1 rfl)) rfl (all1 rfl) clX7 (by decide) wd_6_12 dX7_keep_77 (fun q_22 hq_22 _ => ?_)
      refine lv_iload_n F.1 F.2.1 dX7_keep_80 rfl (lv_at hl 1 rfl) ?_
      refine lv_iconst (v := 1) F.1 F.2.1 dX7_keep_81 (by decide) ?_
      refine topK (a := 1) (by decide) (fun k_23 hk_23 => ?_)
      refine tZastX (t := 32) F hK hH hS (List.mem_singleton.mp hq_22) (by decide) rfl (ixb (n := 2) ha1 rfl rfl) dX7_keep_82 (fun G_24 eG_24 H locs hH hS => ?_)
      have hH : TH E (tbM (mD (.inl tp) (.inl sp) (.inl nu) (.inl un) (.inl tk) (.inl xt) (.inl wrb) (.inl nab) (.inl iwb)) (xD 660 X0) ws (xD 1320 G_11) as rd sc ty (xZ 2 G_24)) H := hH
      have hG_24 : ivP 2 0 1 G_24 := (ivP_updE hKp eG_24 (narZ _))
      refine lv_aload_n F.1 F.2.1 dX7_keep_83 rfl (lv_at hl 0 rfl) ?_
      refine tGetR (j := 0) F hK hH (tyb ha0 (all1 rfl)) rfl (all1 rfl) clX7 (by decide) wd_6_5 dX7_keep_84 (fun q_25 hq_25 _ => ?_)
      refine lv_iconst (v := 3) F.1 F.2.1 dX7_keep_87 (by decide) ?_
      refine topK (a := 3) (by decide) (fun k_26 hk_26 => ?_)
      refine tIaldX F hK hH (tyb hq_25 (all1 rfl)) (ixb (n := 660) (eqb hk_26) rfl rfl) dX7_keep_88 (fun z_27 ez_27 => ?_)
      exact txI F hS dX7_keep_89 rfl (⟨G_11, ⟨hRG_11, okS_cp hqX0 hcr14_0 (by omega) (by omega), fun _ h_ => okS_ne (r := 0) h_ hcr14_0 (by omega) (by omega) (by omega)⟩, G_24, ⟨hG_24, ik_set eG_24 (by omega) (by omega) (by omega)⟩, (i32b _), hH⟩)
    · skip
      have r_21 : 0 ≤ u_17.toInt ∧ u_17.toInt ≤ 5 := by have h9_ := hu_17; omega
      refine lv_aload_n F.1 F.2.1 dX7_keep_53 rfl (lv_at hl 0 rfl) ?_
      refine tGetR (j := 6) F hK hH (tyb ha0 (all1 rfl)) rfl (all1 rfl) clX7 (by decide) wd_6_10 dX7_keep_54 (fun q_28 hq_28 _ => ?_)
      refine lv_bipush (v := 6) F.1 F.2.1 dX7_keep_57 (by decide) ?_
      refine topK (a := 6) (by decide) (fun k_29 hk_29 => ?_)
      refine lv_iload_n F.1 F.2.1 dX7_keep_59 rfl (lv_at hl 1 rfl) ?_
      refine tMul (lo := 0) (hi := 0) F dX7_keep_60 (eqb hk_29) ha1 rfl (fun z_30 hz_30 => ?_)
      have mz_30 : z_30.toInt = 6 * a1.toInt := by rw [hz_30.1, hk_29]
      refine lv_iload_n F.1 F.2.1 dX7_keep_61 rfl (lv_at hl 2 rfl) ?_
      refine tAdd (lo := 0) (hi := 5) F dX7_keep_62 hz_30.2 r_21 rfl (fun z_31 hz_31 => ?_)
      refine lv_aload_n F.1 F.2.1 dX7_keep_63 rfl (lv_at hl 0 rfl) ?_
      refine tGetR (j := 1) F hK hH (tyb ha0 (all1 rfl)) rfl (all1 rfl) clX7 (by decide) wd_6_6 dX7_keep_64 (fun q_32 hq_32 _ => ?_)
      refine lv_iload_n F.1 F.2.1 dX7_keep_67 rfl (lv_at hl 2 rfl) ?_
      refine tLald F hK hH (tyb hq_32 (all1 rfl)) (ixb (n := 6) r_21 rfl rfl) dX7_keep_68 (fun w_33 => ?_)
      refine tLast F hK hH hS (tyb hq_28 (all1 rfl)) (ixb (n := 12) hz_31.2 rfl rfl) dX7_keep_69 (fun H locs hH hS => ?_)
      obtain ⟨x_34, ex_34, hx_34⟩ := iincB (c := 1) (lo := 1) (hi := 6) r_21 rfl
      refine lv_iinc (v := x_34) (lv' := [(2, .int x_34), (0, .ref a0), (1, .int a1)]) F.1 F.2.1 dX7_keep_70 hl (k := 2) rfl ex_34 (by decide) rfl (fun ls hl => ?_)
      refine lv_goto (tgt := 47) F.1 F.2.1 dX7_keep_73 (by decide) ?_
      exact ih_47 (x_34) _ _ _ ⟨(show (9 - x_34.toInt + 1).toNat < n_47 from by omega), (wkb hx_34.2 rfl rfl), hH, hS, lv_sub hl [1, 2, 0] rfl⟩
  · skip
    have r_15 : 0 ≤ u_10.toInt ∧ u_10.toInt ≤ 659 := by have h9_ := hu_10; omega
    refine lv_aload_n F.1 F.2.1 dX7_keep_21 rfl (lv_at hl 0 rfl) ?_
    refine tGetR (j := 5) F hK hH (tyb ha0 (all1 rfl)) rfl (all1 rfl) clX7 (by decide) wd_6_9 dX7_keep_22 (fun q_35 hq_35 _ => ?_)
    refine lv_sipush (v := 660) F.1 F.2.1 dX7_keep_25 (by decide) ?_
    refine topK (a := 660) (by decide) (fun k_36 hk_36 => ?_)
    refine lv_iload_n F.1 F.2.1 dX7_keep_28 rfl (lv_at hl 1 rfl) ?_
    refine tMul (lo := 0) (hi := 0) F dX7_keep_29 (eqb hk_36) ha1 rfl (fun z_37 hz_37 => ?_)
    have mz_37 : z_37.toInt = 660 * a1.toInt := by rw [hz_37.1, hk_36]
    refine lv_iload_n F.1 F.2.1 dX7_keep_30 rfl (lv_at hl 2 rfl) ?_
    refine tAdd (lo := 0) (hi := 659) F dX7_keep_31 hz_37.2 r_15 rfl (fun z_38 hz_38 => ?_)
    refine lv_aload_n F.1 F.2.1 dX7_keep_32 rfl (lv_at hl 0 rfl) ?_
    refine tGetR (j := 0) F hK hH (tyb ha0 (all1 rfl)) rfl (all1 rfl) clX7 (by decide) wd_6_5 dX7_keep_33 (fun q_39 hq_39 _ => ?_)
    refine lv_iload_n F.1 F.2.1 dX7_keep_36 rfl (lv_at hl 2 rfl) ?_
    refine tIaldX F hK hH (tyb hq_39 (all1 rfl)) (ixb (n := 660) r_15 rfl rfl) dX7_keep_37 (fun z_40 ez_40 => ?_)
    refine tIastX (t := 27) F hK hH hS (List.mem_singleton.mp hq_35) (by decide) rfl (ixb (n := 1320) hz_38.2 rfl rfl) dX7_keep_38 (fun G_41 eG_41 H locs hH hS => ?_)
    have hH : TH E (tbM (mD (.inl tp) (.inl sp) (.inl nu) (.inl un) (.inl tk) (.inl xt) (.inl wrb) (.inl nab) (.inl iwb)) (xD 660 X0) ws (xD 1320 G_41) as rd sc ty (xZ 2 Kp)) H := hH
    obtain ⟨x_42, ex_42, hx_42⟩ := iincB (c := 1) (lo := 1) (hi := 660) r_15 rfl
    refine lv_iinc (v := x_42) (lv' := [(2, .int x_42), (0, .ref a0), (1, .int a1)]) F.1 F.2.1 dX7_keep_39 hl (k := 2) rfl ex_42 (by decide) rfl (fun ls hl => ?_)
    refine lv_goto (tgt := 14) F.1 F.2.1 dX7_keep_42 (by decide) ?_
    exact ih_14 (x_42, G_41) _ _ _ ⟨(show (660 - x_42.toInt + 1).toNat < n_14 from by omega), (wkb hx_42.2 rfl rfl), trivial, (show cp V G_41 X0 (660 * a1.toInt) 0 (x_42.toInt) from cp.step hcr14_0 eG_41 ez_40 (by omega) (by omega) (by omega) (by omega)), hH, hS, lv_sub hl [1, 2, 0] rfl⟩
set_option maxHeartbeats 4000000 in
set_option maxRecDepth 100000 in
theorem c_X7_keep_1 (E : Ev) (ws : TD) (as : TD) (rd : TD) (sc : TD) (ty : TD) (un : Int × Int) (tk : Int × Int) (xt : Int × Int) (tp : Int × Int) (sp : Int × Int) (wrb : Int × Int) (nu : Int × Int) (nab : Int × Int) (iwb : Int × Int) (X0 : Nat → Int32) (V : Nat → Int32) (Kp : Nat → Int32) (Z : Nat → Int32) (a0 : Nat) (a1 : Int32) (ha0 : eT E a0 ∈ [24]) (ha1 : 1 ≤ a1.toInt ∧ a1.toInt ≤ 1) (hX0 : okR X0) (hV : okN 2 V) (hKp : ivP 2 0 1 Kp) (hqX0 : sQ Z X0) : TcI E yX7_keep cX7_keep 3 .int ({ frames := 2, cells := 0, slots := 0, locals := 65 }) [.ref a0, .int a1] (fun H => TH E (tbM (mD (.inl tp) (.inl sp) (.inl nu) (.inl un) (.inl tk) (.inl xt) (.inl wrb) (.inl nab) (.inl iwb)) (xD 660 X0) ws (xD 1320 V) as rd sc ty (xZ 2 Kp)) H) (fun v H => ∃ V2 : Nat → Int32, (okN 2 V2 ∧ okS Z 1 V2 ∧ ∀ Y : Nat → Int32, okS Y 0 V → okS Y 0 V2) ∧ ∃ Kq : Nat → Int32, (ivP 2 0 1 Kq ∧ gI Kq 1 = 1 ∧ gI Kq 0 = gI Kp 0) ∧ ((-2147483648) ≤ v.toInt ∧ v.toInt ≤ 2147483647) ∧ TH E (tbM (mD (.inl tp) (.inl sp) (.inl nu) (.inl un) (.inl tk) (.inl xt) (.inl wrb) (.inl nab) (.inl iwb)) (xD 660 X0) ws (xD 1320 V2) as rd sc ty (xZ 2 Kq)) H) := by
  refine teI (by decide) (Nat.le_of_ble_eq_true rfl) ?_
  intro p_ ev_ s mi_ below_ meth cd_ ls F hK hN hO hH hS hl
  have hH : TH E (tbM (mD (.inl tp) (.inl sp) (.inl nu) (.inl un) (.inl tk) (.inl xt) (.inl wrb) (.inl nab) (.inl iwb)) (xD 660 X0) ws (xD 1320 V) as rd sc ty (xZ 2 Kp)) s.heap := hH
  have hl : lv_has ls 3 [(0, .ref a0), (1, .int a1)] := hl
  have hBX0 := okB hX0.1
  have hLX0 := hX0.2
  refine lv_iload_n F.1 F.2.1 dX7_keep_0 rfl (lv_at hl 1 rfl) ?_
  refine tI2l F dX7_keep_1 (fun w_1 hw_1 => ?_)
  refine lv_lconst (v := 0) F.1 F.2.1 dX7_keep_2 (by decide) ?_
  refine topKL (a := 0) (by decide) (fun j_2 hj_2 => ?_)
  refine lv_lconst (v := 1) F.1 F.2.1 dX7_keep_3 (by decide) ?_
  refine topKL (a := 1) (by decide) (fun j_3 hj_3 => ?_)
  refine tSi (As := [.long w_1, .long j_2, .long j_3]) (rest := []) F hK hN hO (c_X7_in E (mD (.inl tp) (.inl sp) (.inl nu) (.inl un) (.inl tk) (.inl xt) (.inl wrb) (.inl nab) (.inl iwb)) (xD 660 X0) ws (xD 1320 V) as rd sc ty (xZ 2 Kp) w_1 j_2 j_3) ms_X7_in wd_8_10 ⟨Nat.le_of_ble_eq_true rfl, Nat.le_of_ble_eq_true rfl⟩ ⟨Nat.le_of_ble_eq_true rfl, Nat.le_of_ble_eq_true rfl⟩ hH hS rfl hl.1 (Nat.le_of_ble_eq_true rfl) dX7_keep_4 (fun z_4 H locs hq hS => ?_)
  obtain ⟨f_5, f_6, hH⟩ := hq
  have hH : TH E (tbM (mD (.inl tp) (.inl sp) (.inl nu) (.inl un) (.inl tk) (.inl xt) (.inl wrb) (.inl nab) (.inl iwb)) (xD 660 X0) ws (xD 1320 V) as rd sc ty (xZ 2 Kp)) H := hH
  refine z_ne (tgt := 12) F dX7_keep_7 (by decide) (fun c_7 => ?_) (fun c_7 => absurd c_7 (by omega))
  have r_8 : 1 ≤ z_4.toInt ∧ z_4.toInt ≤ 1 := by have h9_ := f_5; omega
  refine lv_iconst (v := 0) F.1 F.2.1 dX7_keep_12 (by decide) ?_
  refine topK (a := 0) (by decide) (fun k_9 hk_9 => ?_)
  refine lv_istore_n (lv' := [(2, .int k_9), (0, .ref a0), (1, .int a1)]) F.1 F.2.1 dX7_keep_13 rfl hl (by decide) rfl (fun ls hl => ?_)
  refine wloop (σ := Int32 × (Nat → Int32)) (fun n9 x9 H locs ls => (660 - x9.1.toInt + 1).toNat < n9 ∧ (0 ≤ x9.1.toInt ∧ x9.1.toInt ≤ 660) ∧ (True) ∧ (cp V x9.2 X0 (660 * a1.toInt) 0 (x9.1.toInt)) ∧ TH E (tbM (mD (.inl tp) (.inl sp) (.inl nu) (.inl un) (.inl tk) (.inl xt) (.inl wrb) (.inl nab) (.inl iwb)) (xD 660 X0) ws (xD 1320 x9.2) as rd sc ty (xZ 2 Kp)) H ∧ va_S (eA E s.heap.size) s.heap H locs ∧ lv_has ls 3 [(0, .ref a0), (1, .int a1), (2, .int x9.1)]) ?_ (fun x9 H locs ls h => absurd h.1 (Nat.not_lt_zero _)) _ (k_9, V) ⟨Nat.lt_succ_self _, (wkb (eqb hk_9) rfl rfl), trivial, (show cp V V X0 (660 * a1.toInt) 0 (k_9.toInt) from cp.zero (by omega)), hH, hS, lv_sub hl [1, 2, 0] rfl⟩
  intro n_14 ih_14 ⟨u_10, G_11⟩ H locs ls ⟨hm_14, hu_10, hG_11, hcr14_0, hH, hS, hl⟩
  have hm_14 : (660 - u_10.toInt + 1).toNat < n_14 + 1 := hm_14
  have hu_10 : (0 ≤ u_10.toInt ∧ u_10.toInt ≤ 660) := hu_10
  have hG_11 : (True) := hG_11
  have hcr14_0 : (cp V G_11 X0 (660 * a1.toInt) 0 (u_10.toInt)) := hcr14_0
  have hH : TH E (tbM (mD (.inl tp) (.inl sp) (.inl nu) (.inl un) (.inl tk) (.inl xt) (.inl wrb) (.inl nab) (.inl iwb)) (xD 660 X0) ws (xD 1320 G_11) as rd sc ty (xZ 2 Kp)) H := hH
  have hl : lv_has ls 3 [(0, .ref a0), (1, .int a1), (2, .int u_10)] := hl
  refine lv_iload_n F.1 F.2.1 dX7_keep_14 rfl (lv_at hl 2 rfl) ?_
  refine lv_sipush (v := 660) F.1 F.2.1 dX7_keep_15 (by decide) ?_
  refine topK (a := 660) (by decide) (fun k_12 hk_12 => ?_)
  refine b_ge (tgt := 45) F dX7_keep_18 (by decide) (fun c_13 => ?_) (fun c_13 => ?_)
  · skip
    have r_14 : 660 ≤ u_10.toInt ∧ u_10.toInt ≤ 660 := by have h9_ := hu_10; omega
    have hRG_11 : okN 2 G_11 := okN.cp (u := a1.toInt.toNat) hV hX0 hcr14_0 (by omega) (by omega)
    refine lv_iconst (v := 0) F.1 F.2.1 dX7_keep_45 (by decide) ?_
    refine topK (a := 0) (by decide) (fun k_16 hk_16 => ?_)
    refine lv_istore_n (lv' := [(2, .int k_16), (0, .ref a0), (1, .int a1)]) F.1 F.2.1 dX7_keep_46 rfl hl (by decide) rfl (fun ls hl => ?_)
    refine wloop (σ := Int32) (fun n9 x9 H locs ls => (9 - x9.toInt + 1).toNat < n9 ∧ (0 ≤ x9.toInt ∧ x9.toInt ≤ 9) ∧ TH E (tbM (mD (.inl tp) (.inl sp) (.inl nu) (.inl un) (.inl tk) (.inl xt) (.inl wrb) (.inl nab) (.inl iwb)) (xD 660 X0) ws (xD 1320 G_11) as rd sc ty (xZ 2 Kp)) H ∧ va_S (eA E s.heap.size) s.heap H locs ∧ lv_has ls 3 [(0, .ref a0), (1, .int a1), (2, .int x9)]) ?_ (fun x9 H locs ls h => absurd h.1 (Nat.not_lt_zero _)) _ (k_16) ⟨Nat.lt_succ_self _, (wkb (eqb hk_16) rfl rfl), hH, hS, lv_sub hl [1, 2, 0] rfl⟩
    intro n_47 ih_47 u_17 H locs ls ⟨hm_47, hu_17, hH, hS, hl⟩
    have hm_47 : (9 - u_17.toInt + 1).toNat < n_47 + 1 := hm_47
    have hu_17 : (0 ≤ u_17.toInt ∧ u_17.toInt ≤ 9) := hu_17
    have hH : TH E (tbM (mD (.inl tp) (.inl sp) (.inl nu) (.inl un) (.inl tk) (.inl xt) (.inl wrb) (.inl nab) (.inl iwb)) (xD 660 X0) ws (xD 1320 G_11) as rd sc ty (xZ 2 Kp)) H := hH
    have hl : lv_has ls 3 [(0, .ref a0), (1, .int a1), (2, .int u_17)] := hl
    refine lv_iload_n F.1 F.2.1 dX7_keep_47 rfl (lv_at hl 2 rfl) ?_
    refine lv_bipush (v := 6) F.1 F.2.1 dX7_keep_48 (by decide) ?_
    refine topK (a := 6) (by decide) (fun k_18 hk_18 => ?_)
    refine b_ge (tgt := 76) F dX7_keep_50 (by decide) (fun c_19 => ?_) (fun c_19 => ?_)
    · skip
      have r_20 : 6 ≤ u_17.toInt ∧ u_17.toInt ≤ 9 := by have h9_ := hu_17; omega
      refine lv_aload_n F.1 F.2.1 dX7_keep_76 rfl (lv_at hl 0 rfl) ?_
      refine tGetR (j := 7) F hK hH (tyb ha0 (all1 rfl)) rfl (all1 rfl) clX7 (by decide) wd_6_12 dX7_keep_77 (fun q_22 hq_22 _ => ?_)
      refine lv_iload_n F.1 F.2.1 dX7_keep_80 rfl (lv_at hl 1 rfl) ?_
      refine lv_iconst (v := 1) F.1 F.2.1 dX7_keep_81 (by decide) ?_
      refine topK (a := 1) (by decide) (fun k_23 hk_23 => ?_)
      refine tZastX (t := 32) F hK hH hS (List.mem_singleton.mp hq_22) (by decide) rfl (ixb (n := 2) ha1 rfl rfl) dX7_keep_82 (fun G_24 eG_24 H locs hH hS => ?_)
      have hH : TH E (tbM (mD (.inl tp) (.inl sp) (.inl nu) (.inl un) (.inl tk) (.inl xt) (.inl wrb) (.inl nab) (.inl iwb)) (xD 660 X0) ws (xD 1320 G_11) as rd sc ty (xZ 2 G_24)) H := hH
      have hG_24 : ivP 2 0 1 G_24 := (ivP_updE hKp eG_24 (narZ _))
      refine lv_aload_n F.1 F.2.1 dX7_keep_83 rfl (lv_at hl 0 rfl) ?_
      refine tGetR (j := 0) F hK hH (tyb ha0 (all1 rfl)) rfl (all1 rfl) clX7 (by decide) wd_6_5 dX7_keep_84 (fun q_25 hq_25 _ => ?_)
      refine lv_iconst (v := 3) F.1 F.2.1 dX7_keep_87 (by decide) ?_
      refine topK (a := 3) (by decide) (fun k_26 hk_26 => ?_)
      refine tIaldX F hK hH (tyb hq_25 (all1 rfl)) (ixb (n := 660) (eqb hk_26) rfl rfl) dX7_keep_88 (fun z_27 ez_27 => ?_)
      exact txI F hS dX7_keep_89 rfl (⟨G_11, ⟨hRG_11, okS_cp hqX0 hcr14_0 (by omega) (by omega), fun _ h_ => okS_ne (r := 1) h_ hcr14_0 (by omega) (by omega) (by omega)⟩, G_24, ⟨hG_24, ik_set eG_24 (by omega) (by omega) (by omega)⟩, (i32b _), hH⟩)
    · skip
      have r_21 : 0 ≤ u_17.toInt ∧ u_17.toInt ≤ 5 := by have h9_ := hu_17; omega
      refine lv_aload_n F.1 F.2.1 dX7_keep_53 rfl (lv_at hl 0 rfl) ?_
      refine tGetR (j := 6) F hK hH (tyb ha0 (all1 rfl)) rfl (all1 rfl) clX7 (by decide) wd_6_10 dX7_keep_54 (fun q_28 hq_28 _ => ?_)
      refine lv_bipush (v := 6) F.1 F.2.1 dX7_keep_57 (by decide) ?_
      refine topK (a := 6) (by decide) (fun k_29 hk_29 => ?_)
      refine lv_iload_n F.1 F.2.1 dX7_keep_59 rfl (lv_at hl 1 rfl) ?_
      refine tMul (lo := 6) (hi := 6) F dX7_keep_60 (eqb hk_29) ha1 rfl (fun z_30 hz_30 => ?_)
      have mz_30 : z_30.toInt = 6 * a1.toInt := by rw [hz_30.1, hk_29]
      refine lv_iload_n F.1 F.2.1 dX7_keep_61 rfl (lv_at hl 2 rfl) ?_
      refine tAdd (lo := 6) (hi := 11) F dX7_keep_62 hz_30.2 r_21 rfl (fun z_31 hz_31 => ?_)
      refine lv_aload_n F.1 F.2.1 dX7_keep_63 rfl (lv_at hl 0 rfl) ?_
      refine tGetR (j := 1) F hK hH (tyb ha0 (all1 rfl)) rfl (all1 rfl) clX7 (by decide) wd_6_6 dX7_keep_64 (fun q_32 hq_32 _ => ?_)
      refine lv_iload_n F.1 F.2.1 dX7_keep_67 rfl (lv_at hl 2 rfl) ?_
      refine tLald F hK hH (tyb hq_32 (all1 rfl)) (ixb (n := 6) r_21 rfl rfl) dX7_keep_68 (fun w_33 => ?_)
      refine tLast F hK hH hS (tyb hq_28 (all1 rfl)) (ixb (n := 12) hz_31.2 rfl rfl) dX7_keep_69 (fun H locs hH hS => ?_)
      obtain ⟨x_34, ex_34, hx_34⟩ := iincB (c := 1) (lo := 1) (hi := 6) r_21 rfl
      refine lv_iinc (v := x_34) (lv' := [(2, .int x_34), (0, .ref a0), (1, .int a1)]) F.1 F.2.1 dX7_keep_70 hl (k := 2) rfl ex_34 (by decide) rfl (fun ls hl => ?_)
      refine lv_goto (tgt := 47) F.1 F.2.1 dX7_keep_73 (by decide) ?_
      exact ih_47 (x_34) _ _ _ ⟨(show (9 - x_34.toInt + 1).toNat < n_47 from by omega), (wkb hx_34.2 rfl rfl), hH, hS, lv_sub hl [1, 2, 0] rfl⟩
  · skip
    have r_15 : 0 ≤ u_10.toInt ∧ u_10.toInt ≤ 659 := by have h9_ := hu_10; omega
    refine lv_aload_n F.1 F.2.1 dX7_keep_21 rfl (lv_at hl 0 rfl) ?_
    refine tGetR (j := 5) F hK hH (tyb ha0 (all1 rfl)) rfl (all1 rfl) clX7 (by decide) wd_6_9 dX7_keep_22 (fun q_35 hq_35 _ => ?_)
    refine lv_sipush (v := 660) F.1 F.2.1 dX7_keep_25 (by decide) ?_
    refine topK (a := 660) (by decide) (fun k_36 hk_36 => ?_)
    refine lv_iload_n F.1 F.2.1 dX7_keep_28 rfl (lv_at hl 1 rfl) ?_
    refine tMul (lo := 660) (hi := 660) F dX7_keep_29 (eqb hk_36) ha1 rfl (fun z_37 hz_37 => ?_)
    have mz_37 : z_37.toInt = 660 * a1.toInt := by rw [hz_37.1, hk_36]
    refine lv_iload_n F.1 F.2.1 dX7_keep_30 rfl (lv_at hl 2 rfl) ?_
    refine tAdd (lo := 660) (hi := 1319) F dX7_keep_31 hz_37.2 r_15 rfl (fun z_38 hz_38 => ?_)
    refine lv_aload_n F.1 F.2.1 dX7_keep_32 rfl (lv_at hl 0 rfl) ?_
    refine tGetR (j := 0) F hK hH (tyb ha0 (all1 rfl)) rfl (all1 rfl) clX7 (by decide) wd_6_5 dX7_keep_33 (fun q_39 hq_39 _ => ?_)
    refine lv_iload_n F.1 F.2.1 dX7_keep_36 rfl (lv_at hl 2 rfl) ?_
    refine tIaldX F hK hH (tyb hq_39 (all1 rfl)) (ixb (n := 660) r_15 rfl rfl) dX7_keep_37 (fun z_40 ez_40 => ?_)
    refine tIastX (t := 27) F hK hH hS (List.mem_singleton.mp hq_35) (by decide) rfl (ixb (n := 1320) hz_38.2 rfl rfl) dX7_keep_38 (fun G_41 eG_41 H locs hH hS => ?_)
    have hH : TH E (tbM (mD (.inl tp) (.inl sp) (.inl nu) (.inl un) (.inl tk) (.inl xt) (.inl wrb) (.inl nab) (.inl iwb)) (xD 660 X0) ws (xD 1320 G_41) as rd sc ty (xZ 2 Kp)) H := hH
    obtain ⟨x_42, ex_42, hx_42⟩ := iincB (c := 1) (lo := 1) (hi := 660) r_15 rfl
    refine lv_iinc (v := x_42) (lv' := [(2, .int x_42), (0, .ref a0), (1, .int a1)]) F.1 F.2.1 dX7_keep_39 hl (k := 2) rfl ex_42 (by decide) rfl (fun ls hl => ?_)
    refine lv_goto (tgt := 14) F.1 F.2.1 dX7_keep_42 (by decide) ?_
    exact ih_14 (x_42, G_41) _ _ _ ⟨(show (660 - x_42.toInt + 1).toNat < n_14 from by omega), (wkb hx_42.2 rfl rfl), trivial, (show cp V G_41 X0 (660 * a1.toInt) 0 (x_42.toInt) from cp.step hcr14_0 eG_41 ez_40 (by omega) (by omega) (by omega) (by omega)), hH, hS, lv_sub hl [1, 2, 0] rfl⟩
set_option maxHeartbeats 4000000 in
set_option maxRecDepth 100000 in
theorem c_X7_back_n (E : Ev) (m : TD) (nw : TD) (ws : TD) (kp : TD) (as : TD) (rd : TD) (sc : TD) (ty : TD) (ik : TD) (a0 : Nat) (a1 : Int32) (ha0 : eT E a0 ∈ [24]) (hr : a1.toInt < 0 ∨ 1 < a1.toInt) : TcI E yX7_back cX7_back 3 .int ({ frames := 2, cells := 0, slots := 0, locals := 65 }) [.ref a0, .int a1] (fun H => TH E (tbM m nw ws kp as rd sc ty ik) H) (fun v H => ((-2147483648) ≤ v.toInt ∧ v.toInt ≤ 2147483647) ∧ TH E (tbM m nw ws kp as rd sc ty ik) H) := by
  refine teI (by decide) (Nat.le_of_ble_eq_true rfl) ?_
  intro p_ ev_ s mi_ below_ meth cd_ ls F hK hN hO hH hS hl
  have hH : TH E (tbM m nw ws kp as rd sc ty ik) s.heap := hH
  have hl : lv_has ls 3 [(0, .ref a0), (1, .int a1)] := hl
  refine lv_iload_n F.1 F.2.1 dX7_back_0 rfl (lv_at hl 1 rfl) ?_
  refine tI2l F dX7_back_1 (fun w_1 hw_1 => ?_)
  refine lv_lconst (v := 0) F.1 F.2.1 dX7_back_2 (by decide) ?_
  refine topKL (a := 0) (by decide) (fun j_2 hj_2 => ?_)
  refine lv_lconst (v := 1) F.1 F.2.1 dX7_back_3 (by decide) ?_
  refine topKL (a := 1) (by decide) (fun j_3 hj_3 => ?_)
  refine tSi (As := [.long w_1, .long j_2, .long j_3]) (rest := []) F hK hN hO (c_X7_in E m nw ws kp as rd sc ty ik w_1 j_2 j_3) ms_X7_in wd_8_10 ⟨Nat.le_of_ble_eq_true rfl, Nat.le_of_ble_eq_true rfl⟩ ⟨Nat.le_of_ble_eq_true rfl, Nat.le_of_ble_eq_true rfl⟩ hH hS rfl hl.1 (Nat.le_of_ble_eq_true rfl) dX7_back_4 (fun z_4 H locs hq hS => ?_)
  obtain ⟨f_5, f_6, hH⟩ := hq
  have hH : TH E (tbM m nw ws kp as rd sc ty ik) H := hH
  refine z_ne (tgt := 12) F dX7_back_7 (by decide) (fun c_7 => absurd c_7 (by omega)) (fun c_7 => ?_)
  have r_8 : 0 ≤ z_4.toInt ∧ z_4.toInt ≤ 0 := by have h9_ := f_5; omega
  refine lv_iconst (v := (-1)) F.1 F.2.1 dX7_back_10 (by decide) ?_
  refine topK (a := (-1)) (by decide) (fun k_9 hk_9 => ?_)
  exact txI F hS dX7_back_11 rfl (⟨(wkb (eqb hk_9) rfl rfl), hH⟩)
set_option maxHeartbeats 4000000 in
set_option maxRecDepth 100000 in
theorem c_X7_back_0_no (E : Ev) (nw : TD) (ws : TD) (kp : TD) (as : TD) (rd : TD) (sc : TD) (ty : TD) (un : Int × Int) (tk : Int × Int) (xt : Int × Int) (tp : Int × Int) (sp : Int × Int) (wrb : Int × Int) (nu : Int × Int) (nab : Int × Int) (iwb : Int × Int) (Kp : Nat → Int32) (a0 : Nat) (a1 : Int32) (ha0 : eT E a0 ∈ [24]) (ha1 : 0 ≤ a1.toInt ∧ a1.toInt ≤ 0) (hKp : ivP 2 0 1 Kp) (hbit : gI Kp 0 = 0) : TcI E yX7_back cX7_back 3 .int ({ frames := 2, cells := 0, slots := 0, locals := 65 }) [.ref a0, .int a1] (fun H => TH E (tbM (mD (.inl tp) (.inl sp) (.inl nu) (.inl un) (.inl tk) (.inl xt) (.inl wrb) (.inl nab) (.inl iwb)) nw ws kp as rd sc ty (xZ 2 Kp)) H) (fun v H => ((-2147483648) ≤ v.toInt ∧ v.toInt ≤ 2147483647) ∧ TH E (tbM (mD (.inl tp) (.inl sp) (.inl nu) (.inl un) (.inl tk) (.inl xt) (.inl wrb) (.inl nab) (.inl iwb)) nw ws kp as rd sc ty (xZ 2 Kp)) H) := by
  refine teI (by decide) (Nat.le_of_ble_eq_true rfl) ?_
  intro p_ ev_ s mi_ below_ meth cd_ ls F hK hN hO hH hS hl
  have hH : TH E (tbM (mD (.inl tp) (.inl sp) (.inl nu) (.inl un) (.inl tk) (.inl xt) (.inl wrb) (.inl nab) (.inl iwb)) nw ws kp as rd sc ty (xZ 2 Kp)) s.heap := hH
  have hl : lv_has ls 3 [(0, .ref a0), (1, .int a1)] := hl
  refine lv_iload_n F.1 F.2.1 dX7_back_0 rfl (lv_at hl 1 rfl) ?_
  refine tI2l F dX7_back_1 (fun w_1 hw_1 => ?_)
  refine lv_lconst (v := 0) F.1 F.2.1 dX7_back_2 (by decide) ?_
  refine topKL (a := 0) (by decide) (fun j_2 hj_2 => ?_)
  refine lv_lconst (v := 1) F.1 F.2.1 dX7_back_3 (by decide) ?_
  refine topKL (a := 1) (by decide) (fun j_3 hj_3 => ?_)
  refine tSi (As := [.long w_1, .long j_2, .long j_3]) (rest := []) F hK hN hO (c_X7_in E (mD (.inl tp) (.inl sp) (.inl nu) (.inl un) (.inl tk) (.inl xt) (.inl wrb) (.inl nab) (.inl iwb)) nw ws kp as rd sc ty (xZ 2 Kp) w_1 j_2 j_3) ms_X7_in wd_8_10 ⟨Nat.le_of_ble_eq_true rfl, Nat.le_of_ble_eq_true rfl⟩ ⟨Nat.le_of_ble_eq_true rfl, Nat.le_of_ble_eq_true rfl⟩ hH hS rfl hl.1 (Nat.le_of_ble_eq_true rfl) dX7_back_4 (fun z_4 H locs hq hS => ?_)
  obtain ⟨f_5, f_6, hH⟩ := hq
  have hH : TH E (tbM (mD (.inl tp) (.inl sp) (.inl nu) (.inl un) (.inl tk) (.inl xt) (.inl wrb) (.inl nab) (.inl iwb)) nw ws kp as rd sc ty (xZ 2 Kp)) H := hH
  refine z_ne (tgt := 12) F dX7_back_7 (by decide) (fun c_7 => ?_) (fun c_7 => absurd c_7 (by omega))
  have r_8 : 1 ≤ z_4.toInt ∧ z_4.toInt ≤ 1 := by have h9_ := f_5; omega
  refine lv_aload_n F.1 F.2.1 dX7_back_12 rfl (lv_at hl 0 rfl) ?_
  refine tGetR (j := 7) F hK hH (tyb ha0 (all1 rfl)) rfl (all1 rfl) clX7 (by decide) wd_6_12 dX7_back_13 (fun q_9 hq_9 _ => ?_)
  refine lv_iload_n F.1 F.2.1 dX7_back_16 rfl (lv_at hl 1 rfl) ?_
  refine tZaldX F hK hH (tyb hq_9 (all1 rfl)) (ixb (n := 2) ha1 rfl rfl) dX7_back_17 (fun z_10 ez_10 => ?_)
  have gz_10 : z_10.toInt = gI Kp (a1.toInt.toNat) := by unfold gI; rw [ez_10]; rfl
  have hz_10 : 0 ≤ z_10.toInt ∧ z_10.toInt ≤ 1 := (by have h9_ := hKp (a1).toNatClampNeg (cl_lt (n := 2) (by omega)); rw [← ez_10] at h9_; exact h9_)
  have qz_10 : z_10.toInt = gI Kp 0 := by rw [gz_10, show a1.toInt.toNat = 0 from by omega]
  refine z_ne (tgt := 24) F dX7_back_18 (by decide) (fun c_11 => absurd c_11 (by omega)) (fun c_11 => ?_)
  have r_12 : 0 ≤ z_10.toInt ∧ z_10.toInt ≤ 0 := by have h9_ := hz_10; omega
  refine lv_bipush (v := (-2)) F.1 F.2.1 dX7_back_21 (by decide) ?_
  refine topK (a := (-2)) (by decide) (fun k_13 hk_13 => ?_)
  exact txI F hS dX7_back_23 rfl (⟨(wkb (eqb hk_13) rfl rfl), hH⟩)
set_option maxHeartbeats 4000000 in
set_option maxRecDepth 100000 in
theorem c_X7_back_0 (E : Ev) (ws : TD) (as : TD) (rd : TD) (sc : TD) (ty : TD) (tk : Int × Int) (xt : Int × Int) (tp : Int × Int) (sp : Int × Int) (wrb : Int × Int) (nu : Int × Int) (nab : Int × Int) (iwb : Int × Int) (u : Int) (X0 : Nat → Int32) (V : Nat → Int32) (Kp : Nat → Int32) (Y : Nat → Int32) (a0 : Nat) (a1 : Int32) (ha0 : eT E a0 ∈ [24]) (ha1 : 0 ≤ a1.toInt ∧ a1.toInt ≤ 0) (hu : 0 ≤ u ∧ u ≤ 10) (hX0 : okR X0) (hV : okN 2 V) (hKp : ivP 2 0 1 Kp) (hbit : gI Kp 0 = 1) (hy : okS Y 0 V) : TcI E yX7_back cX7_back 3 .int ({ frames := 2, cells := 0, slots := 0, locals := 65 }) [.ref a0, .int a1] (fun H => TH E (tbM (mD (.inl tp) (.inl sp) (.inl nu) (.inl (u, u)) (.inl tk) (.inl xt) (.inl wrb) (.inl nab) (.inl iwb)) (xD 660 X0) ws (xD 1320 V) as rd sc ty (xZ 2 Kp)) H) (fun v H => ∃ u2 : Int, (0 ≤ u2 ∧ u2 ≤ 10 ∧ u2 = 0) ∧ ∃ X2 : Nat → Int32, (okR X2 ∧ sQ Y X2) ∧ ((-2147483648) ≤ v.toInt ∧ v.toInt ≤ 2147483647) ∧ TH E (tbM (mD (.inl tp) (.inl sp) (.inl nu) (.inl (u2, u2)) (.inl tk) (.inl xt) (.inl wrb) (.inl nab) (.inl iwb)) (xD 660 X2) ws (xD 1320 V) as rd sc ty (xZ 2 Kp)) H) := by
  refine teI (by decide) (Nat.le_of_ble_eq_true rfl) ?_
  intro p_ ev_ s mi_ below_ meth cd_ ls F hK hN hO hH hS hl
  have hH : TH E (tbM (mD (.inl tp) (.inl sp) (.inl nu) (.inl (u, u)) (.inl tk) (.inl xt) (.inl wrb) (.inl nab) (.inl iwb)) (xD 660 X0) ws (xD 1320 V) as rd sc ty (xZ 2 Kp)) s.heap := hH
  have hl : lv_has ls 3 [(0, .ref a0), (1, .int a1)] := hl
  have hBX0 := okB hX0.1
  have hLX0 := hX0.2
  refine lv_iload_n F.1 F.2.1 dX7_back_0 rfl (lv_at hl 1 rfl) ?_
  refine tI2l F dX7_back_1 (fun w_1 hw_1 => ?_)
  refine lv_lconst (v := 0) F.1 F.2.1 dX7_back_2 (by decide) ?_
  refine topKL (a := 0) (by decide) (fun j_2 hj_2 => ?_)
  refine lv_lconst (v := 1) F.1 F.2.1 dX7_back_3 (by decide) ?_
  refine topKL (a := 1) (by decide) (fun j_3 hj_3 => ?_)
  refine tSi (As := [.long w_1, .long j_2, .long j_3]) (rest := []) F hK hN hO (c_X7_in E (mD (.inl tp) (.inl sp) (.inl nu) (.inl (u, u)) (.inl tk) (.inl xt) (.inl wrb) (.inl nab) (.inl iwb)) (xD 660 X0) ws (xD 1320 V) as rd sc ty (xZ 2 Kp) w_1 j_2 j_3) ms_X7_in wd_8_10 ⟨Nat.le_of_ble_eq_true rfl, Nat.le_of_ble_eq_true rfl⟩ ⟨Nat.le_of_ble_eq_true rfl, Nat.le_of_ble_eq_true rfl⟩ hH hS rfl hl.1 (Nat.le_of_ble_eq_true rfl) dX7_back_4 (fun z_4 H locs hq hS => ?_)
  obtain ⟨f_5, f_6, hH⟩ := hq
  have hH : TH E (tbM (mD (.inl tp) (.inl sp) (.inl nu) (.inl (u, u)) (.inl tk) (.inl xt) (.inl wrb) (.inl nab) (.inl iwb)) (xD 660 X0) ws (xD 1320 V) as rd sc ty (xZ 2 Kp)) H := hH
  refine z_ne (tgt := 12) F dX7_back_7 (by decide) (fun c_7 => ?_) (fun c_7 => absurd c_7 (by omega))
  have r_8 : 1 ≤ z_4.toInt ∧ z_4.toInt ≤ 1 := by have h9_ := f_5; omega
  refine lv_aload_n F.1 F.2.1 dX7_back_12 rfl (lv_at hl 0 rfl) ?_
  refine tGetR (j := 7) F hK hH (tyb ha0 (all1 rfl)) rfl (all1 rfl) clX7 (by decide) wd_6_12 dX7_back_13 (fun q_9 hq_9 _ => ?_)
  refine lv_iload_n F.1 F.2.1 dX7_back_16 rfl (lv_at hl 1 rfl) ?_
  refine tZaldX F hK hH (tyb hq_9 (all1 rfl)) (ixb (n := 2) ha1 rfl rfl) dX7_back_17 (fun z_10 ez_10 => ?_)
  have gz_10 : z_10.toInt = gI Kp (a1.toInt.toNat) := by unfold gI; rw [ez_10]; rfl
  have hz_10 : 0 ≤ z_10.toInt ∧ z_10.toInt ≤ 1 := (by have h9_ := hKp (a1).toNatClampNeg (cl_lt (n := 2) (by omega)); rw [← ez_10] at h9_; exact h9_)
  have qz_10 : z_10.toInt = gI Kp 0 := by rw [gz_10, show a1.toInt.toNat = 0 from by omega]
  refine z_ne (tgt := 24) F dX7_back_18 (by decide) (fun c_11 => ?_) (fun c_11 => absurd c_11 (by omega))
  have r_12 : 1 ≤ z_10.toInt ∧ z_10.toInt ≤ 1 := by have h9_ := hz_10; omega
  refine lv_iconst (v := 0) F.1 F.2.1 dX7_back_24 (by decide) ?_
  refine topK (a := 0) (by decide) (fun k_13 hk_13 => ?_)
  refine lv_istore_n (lv' := [(2, .int k_13), (0, .ref a0), (1, .int a1)]) F.1 F.2.1 dX7_back_25 rfl hl (by decide) rfl (fun ls hl => ?_)
  refine wloop (σ := Int32 × (Nat → Int32)) (fun n9 x9 H locs ls => (660 - x9.1.toInt + 1).toNat < n9 ∧ (0 ≤ x9.1.toInt ∧ x9.1.toInt ≤ 660) ∧ (True) ∧ (cp X0 x9.2 V 0 (660 * a1.toInt) (x9.1.toInt)) ∧ TH E (tbM (mD (.inl tp) (.inl sp) (.inl nu) (.inl (u, u)) (.inl tk) (.inl xt) (.inl wrb) (.inl nab) (.inl iwb)) (xD 660 x9.2) ws (xD 1320 V) as rd sc ty (xZ 2 Kp)) H ∧ va_S (eA E s.heap.size) s.heap H locs ∧ lv_has ls 3 [(0, .ref a0), (1, .int a1), (2, .int x9.1)]) ?_ (fun x9 H locs ls h => absurd h.1 (Nat.not_lt_zero _)) _ (k_13, X0) ⟨Nat.lt_succ_self _, (wkb (eqb hk_13) rfl rfl), trivial, (show cp X0 X0 V 0 (660 * a1.toInt) (k_13.toInt) from cp.zero (by omega)), hH, hS, lv_sub hl [1, 2, 0] rfl⟩
  intro n_26 ih_26 ⟨u_14, G_15⟩ H locs ls ⟨hm_26, hu_14, hG_15, hcr26_0, hH, hS, hl⟩
  have hm_26 : (660 - u_14.toInt + 1).toNat < n_26 + 1 := hm_26
  have hu_14 : (0 ≤ u_14.toInt ∧ u_14.toInt ≤ 660) := hu_14
  have hG_15 : (True) := hG_15
  have hcr26_0 : (cp X0 G_15 V 0 (660 * a1.toInt) (u_14.toInt)) := hcr26_0
  have hH : TH E (tbM (mD (.inl tp) (.inl sp) (.inl nu) (.inl (u, u)) (.inl tk) (.inl xt) (.inl wrb) (.inl nab) (.inl iwb)) (xD 660 G_15) ws (xD 1320 V) as rd sc ty (xZ 2 Kp)) H := hH
  have hl : lv_has ls 3 [(0, .ref a0), (1, .int a1), (2, .int u_14)] := hl
  refine lv_iload_n F.1 F.2.1 dX7_back_26 rfl (lv_at hl 2 rfl) ?_
  refine lv_sipush (v := 660) F.1 F.2.1 dX7_back_27 (by decide) ?_
  refine topK (a := 660) (by decide) (fun k_16 hk_16 => ?_)
  refine b_ge (tgt := 57) F dX7_back_30 (by decide) (fun c_17 => ?_) (fun c_17 => ?_)
  · skip
    have r_18 : 660 ≤ u_14.toInt ∧ u_14.toInt ≤ 660 := by have h9_ := hu_14; omega
    have hRG_15 : okR G_15 := okR.cp0 (okN.row (r := a1.toInt.toNat) hV (by omega) (by omega)) hcr26_0 (by omega) (by omega)
    have hBG_15 := okB hRG_15.1
    have hLG_15 := hRG_15.2
    refine lv_iconst (v := 0) F.1 F.2.1 dX7_back_57 (by decide) ?_
    refine topK (a := 0) (by decide) (fun k_20 hk_20 => ?_)
    refine lv_istore_n (lv' := [(2, .int k_20), (0, .ref a0), (1, .int a1)]) F.1 F.2.1 dX7_back_58 rfl hl (by decide) rfl (fun ls hl => ?_)
    refine wloop (σ := Int32) (fun n9 x9 H locs ls => (9 - x9.toInt + 1).toNat < n9 ∧ (0 ≤ x9.toInt ∧ x9.toInt ≤ 9) ∧ TH E (tbM (mD (.inl tp) (.inl sp) (.inl nu) (.inl (u, u)) (.inl tk) (.inl xt) (.inl wrb) (.inl nab) (.inl iwb)) (xD 660 G_15) ws (xD 1320 V) as rd sc ty (xZ 2 Kp)) H ∧ va_S (eA E s.heap.size) s.heap H locs ∧ lv_has ls 3 [(0, .ref a0), (1, .int a1), (2, .int x9)]) ?_ (fun x9 H locs ls h => absurd h.1 (Nat.not_lt_zero _)) _ (k_20) ⟨Nat.lt_succ_self _, (wkb (eqb hk_20) rfl rfl), hH, hS, lv_sub hl [1, 2, 0] rfl⟩
    intro n_59 ih_59 u_21 H locs ls ⟨hm_59, hu_21, hH, hS, hl⟩
    have hm_59 : (9 - u_21.toInt + 1).toNat < n_59 + 1 := hm_59
    have hu_21 : (0 ≤ u_21.toInt ∧ u_21.toInt ≤ 9) := hu_21
    have hH : TH E (tbM (mD (.inl tp) (.inl sp) (.inl nu) (.inl (u, u)) (.inl tk) (.inl xt) (.inl wrb) (.inl nab) (.inl iwb)) (xD 660 G_15) ws (xD 1320 V) as rd sc ty (xZ 2 Kp)) H := hH
    have hl : lv_has ls 3 [(0, .ref a0), (1, .int a1), (2, .int u_21)] := hl
    refine lv_iload_n F.1 F.2.1 dX7_back_59 rfl (lv_at hl 2 rfl) ?_
    refine lv_bipush (v := 6) F.1 F.2.1 dX7_back_60 (by decide) ?_
    refine topK (a := 6) (by decide) (fun k_22 hk_22 => ?_)
    refine b_ge (tgt := 88) F dX7_back_62 (by decide) (fun c_23 => ?_) (fun c_23 => ?_)
    · skip
      have r_24 : 6 ≤ u_21.toInt ∧ u_21.toInt ≤ 9 := by have h9_ := hu_21; omega
      refine lv_aload_n F.1 F.2.1 dX7_back_88 rfl (lv_at hl 0 rfl) ?_
      refine lv_iconst (v := 0) F.1 F.2.1 dX7_back_89 (by decide) ?_
      refine topK (a := 0) (by decide) (fun k_26 hk_26 => ?_)
      refine tPutG (j := 4) (t := 24) (fd := (.inl (0, 0))) F hK hH hS (List.mem_singleton.mp ha0) (by decide) rfl rfl (fdI (by omega)) (TB1 := (tbM (mD (.inl tp) (.inl sp) (.inl nu) (.inl (0, 0)) (.inl tk) (.inl xt) (.inl wrb) (.inl nab) (.inl iwb)) (xD 660 G_15) ws (xD 1320 V) as rd sc ty (xZ 2 Kp))) rfl clX7 (by decide) wd_15_15 rfl rfl rfl rfl dX7_back_90 (fun H locs hH hS => ?_)
      refine lv_aload_n F.1 F.2.1 dX7_back_93 rfl (lv_at hl 0 rfl) ?_
      refine tGetR (j := 0) F hK hH (tyb ha0 (all1 rfl)) rfl (all1 rfl) clX7 (by decide) wd_6_5 dX7_back_94 (fun q_27 hq_27 _ => ?_)
      refine lv_iconst (v := 3) F.1 F.2.1 dX7_back_97 (by decide) ?_
      refine topK (a := 3) (by decide) (fun k_28 hk_28 => ?_)
      refine tIaldX F hK hH (tyb hq_27 (all1 rfl)) (ixb (n := 660) (eqb hk_28) rfl rfl) dX7_back_98 (fun z_29 ez_29 => ?_)
      exact txI F hS dX7_back_99 rfl (⟨0, ⟨by omega, by omega, by omega⟩, G_15, ⟨hRG_15, okS_back hy hcr26_0 (by omega) (by omega)⟩, (i32b _), hH⟩)
    · skip
      have r_25 : 0 ≤ u_21.toInt ∧ u_21.toInt ≤ 5 := by have h9_ := hu_21; omega
      refine lv_aload_n F.1 F.2.1 dX7_back_65 rfl (lv_at hl 0 rfl) ?_
      refine tGetR (j := 1) F hK hH (tyb ha0 (all1 rfl)) rfl (all1 rfl) clX7 (by decide) wd_6_6 dX7_back_66 (fun q_30 hq_30 _ => ?_)
      refine lv_iload_n F.1 F.2.1 dX7_back_69 rfl (lv_at hl 2 rfl) ?_
      refine lv_aload_n F.1 F.2.1 dX7_back_70 rfl (lv_at hl 0 rfl) ?_
      refine tGetR (j := 6) F hK hH (tyb ha0 (all1 rfl)) rfl (all1 rfl) clX7 (by decide) wd_6_10 dX7_back_71 (fun q_31 hq_31 _ => ?_)
      refine lv_bipush (v := 6) F.1 F.2.1 dX7_back_74 (by decide) ?_
      refine topK (a := 6) (by decide) (fun k_32 hk_32 => ?_)
      refine lv_iload_n F.1 F.2.1 dX7_back_76 rfl (lv_at hl 1 rfl) ?_
      refine tMul (lo := 0) (hi := 0) F dX7_back_77 (eqb hk_32) ha1 rfl (fun z_33 hz_33 => ?_)
      have mz_33 : z_33.toInt = 6 * a1.toInt := by rw [hz_33.1, hk_32]
      refine lv_iload_n F.1 F.2.1 dX7_back_78 rfl (lv_at hl 2 rfl) ?_
      refine tAdd (lo := 0) (hi := 5) F dX7_back_79 hz_33.2 r_25 rfl (fun z_34 hz_34 => ?_)
      refine tLald F hK hH (tyb hq_31 (all1 rfl)) (ixb (n := 12) hz_34.2 rfl rfl) dX7_back_80 (fun w_35 => ?_)
      refine tLast F hK hH hS (tyb hq_30 (all1 rfl)) (ixb (n := 6) r_25 rfl rfl) dX7_back_81 (fun H locs hH hS => ?_)
      obtain ⟨x_36, ex_36, hx_36⟩ := iincB (c := 1) (lo := 1) (hi := 6) r_25 rfl
      refine lv_iinc (v := x_36) (lv' := [(2, .int x_36), (0, .ref a0), (1, .int a1)]) F.1 F.2.1 dX7_back_82 hl (k := 2) rfl ex_36 (by decide) rfl (fun ls hl => ?_)
      refine lv_goto (tgt := 59) F.1 F.2.1 dX7_back_85 (by decide) ?_
      exact ih_59 (x_36) _ _ _ ⟨(show (9 - x_36.toInt + 1).toNat < n_59 from by omega), (wkb hx_36.2 rfl rfl), hH, hS, lv_sub hl [1, 2, 0] rfl⟩
  · skip
    have r_19 : 0 ≤ u_14.toInt ∧ u_14.toInt ≤ 659 := by have h9_ := hu_14; omega
    refine lv_aload_n F.1 F.2.1 dX7_back_33 rfl (lv_at hl 0 rfl) ?_
    refine tGetR (j := 0) F hK hH (tyb ha0 (all1 rfl)) rfl (all1 rfl) clX7 (by decide) wd_6_5 dX7_back_34 (fun q_37 hq_37 _ => ?_)
    refine lv_iload_n F.1 F.2.1 dX7_back_37 rfl (lv_at hl 2 rfl) ?_
    refine lv_aload_n F.1 F.2.1 dX7_back_38 rfl (lv_at hl 0 rfl) ?_
    refine tGetR (j := 5) F hK hH (tyb ha0 (all1 rfl)) rfl (all1 rfl) clX7 (by decide) wd_6_9 dX7_back_39 (fun q_38 hq_38 _ => ?_)
    refine lv_sipush (v := 660) F.1 F.2.1 dX7_back_42 (by decide) ?_
    refine topK (a := 660) (by decide) (fun k_39 hk_39 => ?_)
    refine lv_iload_n F.1 F.2.1 dX7_back_45 rfl (lv_at hl 1 rfl) ?_
    refine tMul (lo := 0) (hi := 0) F dX7_back_46 (eqb hk_39) ha1 rfl (fun z_40 hz_40 => ?_)
    have mz_40 : z_40.toInt = 660 * a1.toInt := by rw [hz_40.1, hk_39]
    refine lv_iload_n F.1 F.2.1 dX7_back_47 rfl (lv_at hl 2 rfl) ?_
    refine tAdd (lo := 0) (hi := 659) F dX7_back_48 hz_40.2 r_19 rfl (fun z_41 hz_41 => ?_)
    refine tIaldX F hK hH (tyb hq_38 (all1 rfl)) (ixb (n := 1320) hz_41.2 rfl rfl) dX7_back_49 (fun z_42 ez_42 => ?_)
    refine tIastX (t := 25) F hK hH hS (List.mem_singleton.mp hq_37) (by decide) rfl (ixb (n := 660) r_19 rfl rfl) dX7_back_50 (fun G_43 eG_43 H locs hH hS => ?_)
    have hH : TH E (tbM (mD (.inl tp) (.inl sp) (.inl nu) (.inl (u, u)) (.inl tk) (.inl xt) (.inl wrb) (.inl nab) (.inl iwb)) (xD 660 G_43) ws (xD 1320 V) as rd sc ty (xZ 2 Kp)) H := hH
    obtain ⟨x_44, ex_44, hx_44⟩ := iincB (c := 1) (lo := 1) (hi := 660) r_19 rfl
    refine lv_iinc (v := x_44) (lv' := [(2, .int x_44), (0, .ref a0), (1, .int a1)]) F.1 F.2.1 dX7_back_51 hl (k := 2) rfl ex_44 (by decide) rfl (fun ls hl => ?_)
    refine lv_goto (tgt := 26) F.1 F.2.1 dX7_back_54 (by decide) ?_
    exact ih_26 (x_44, G_43) _ _ _ ⟨(show (660 - x_44.toInt + 1).toNat < n_26 from by omega), (wkb hx_44.2 rfl rfl), trivial, (show cp X0 G_43 V 0 (660 * a1.toInt) (x_44.toInt) from cp.step hcr26_0 eG_43 ez_42 (by omega) (by omega) (by omega) (by omega)), hH, hS, lv_sub hl [1, 2, 0] rfl⟩
set_option maxHeartbeats 4000000 in
set_option maxRecDepth 100000 in
theorem c_X7_back_1_no (E : Ev) (nw : TD) (ws : TD) (kp : TD) (as : TD) (rd : TD) (sc : TD) (ty : TD) (un : Int × Int) (tk : Int × Int) (xt : Int × Int) (tp : Int × Int) (sp : Int × Int) (wrb : Int × Int) (nu : Int × Int) (nab : Int × Int) (iwb : Int × Int) (Kp : Nat → Int32) (a0 : Nat) (a1 : Int32) (ha0 : eT E a0 ∈ [24]) (ha1 : 1 ≤ a1.toInt ∧ a1.toInt ≤ 1) (hKp : ivP 2 0 1 Kp) (hbit : gI Kp 1 = 0) : TcI E yX7_back cX7_back 3 .int ({ frames := 2, cells := 0, slots := 0, locals := 65 }) [.ref a0, .int a1] (fun H => TH E (tbM (mD (.inl tp) (.inl sp) (.inl nu) (.inl un) (.inl tk) (.inl xt) (.inl wrb) (.inl nab) (.inl iwb)) nw ws kp as rd sc ty (xZ 2 Kp)) H) (fun v H => ((-2147483648) ≤ v.toInt ∧ v.toInt ≤ 2147483647) ∧ TH E (tbM (mD (.inl tp) (.inl sp) (.inl nu) (.inl un) (.inl tk) (.inl xt) (.inl wrb) (.inl nab) (.inl iwb)) nw ws kp as rd sc ty (xZ 2 Kp)) H) := by
  refine teI (by decide) (Nat.le_of_ble_eq_true rfl) ?_
  intro p_ ev_ s mi_ below_ meth cd_ ls F hK hN hO hH hS hl
  have hH : TH E (tbM (mD (.inl tp) (.inl sp) (.inl nu) (.inl un) (.inl tk) (.inl xt) (.inl wrb) (.inl nab) (.inl iwb)) nw ws kp as rd sc ty (xZ 2 Kp)) s.heap := hH
  have hl : lv_has ls 3 [(0, .ref a0), (1, .int a1)] := hl
  refine lv_iload_n F.1 F.2.1 dX7_back_0 rfl (lv_at hl 1 rfl) ?_
  refine tI2l F dX7_back_1 (fun w_1 hw_1 => ?_)
  refine lv_lconst (v := 0) F.1 F.2.1 dX7_back_2 (by decide) ?_
  refine topKL (a := 0) (by decide) (fun j_2 hj_2 => ?_)
  refine lv_lconst (v := 1) F.1 F.2.1 dX7_back_3 (by decide) ?_
  refine topKL (a := 1) (by decide) (fun j_3 hj_3 => ?_)
  refine tSi (As := [.long w_1, .long j_2, .long j_3]) (rest := []) F hK hN hO (c_X7_in E (mD (.inl tp) (.inl sp) (.inl nu) (.inl un) (.inl tk) (.inl xt) (.inl wrb) (.inl nab) (.inl iwb)) nw ws kp as rd sc ty (xZ 2 Kp) w_1 j_2 j_3) ms_X7_in wd_8_10 ⟨Nat.le_of_ble_eq_true rfl, Nat.le_of_ble_eq_true rfl⟩ ⟨Nat.le_of_ble_eq_true rfl, Nat.le_of_ble_eq_true rfl⟩ hH hS rfl hl.1 (Nat.le_of_ble_eq_true rfl) dX7_back_4 (fun z_4 H locs hq hS => ?_)
  obtain ⟨f_5, f_6, hH⟩ := hq
  have hH : TH E (tbM (mD (.inl tp) (.inl sp) (.inl nu) (.inl un) (.inl tk) (.inl xt) (.inl wrb) (.inl nab) (.inl iwb)) nw ws kp as rd sc ty (xZ 2 Kp)) H := hH
  refine z_ne (tgt := 12) F dX7_back_7 (by decide) (fun c_7 => ?_) (fun c_7 => absurd c_7 (by omega))
  have r_8 : 1 ≤ z_4.toInt ∧ z_4.toInt ≤ 1 := by have h9_ := f_5; omega
  refine lv_aload_n F.1 F.2.1 dX7_back_12 rfl (lv_at hl 0 rfl) ?_
  refine tGetR (j := 7) F hK hH (tyb ha0 (all1 rfl)) rfl (all1 rfl) clX7 (by decide) wd_6_12 dX7_back_13 (fun q_9 hq_9 _ => ?_)
  refine lv_iload_n F.1 F.2.1 dX7_back_16 rfl (lv_at hl 1 rfl) ?_
  refine tZaldX F hK hH (tyb hq_9 (all1 rfl)) (ixb (n := 2) ha1 rfl rfl) dX7_back_17 (fun z_10 ez_10 => ?_)
  have gz_10 : z_10.toInt = gI Kp (a1.toInt.toNat) := by unfold gI; rw [ez_10]; rfl
  have hz_10 : 0 ≤ z_10.toInt ∧ z_10.toInt ≤ 1 := (by have h9_ := hKp (a1).toNatClampNeg (cl_lt (n := 2) (by omega)); rw [← ez_10] at h9_; exact h9_)
  have qz_10 : z_10.toInt = gI Kp 1 := by rw [gz_10, show a1.toInt.toNat = 1 from by omega]
  refine z_ne (tgt := 24) F dX7_back_18 (by decide) (fun c_11 => absurd c_11 (by omega)) (fun c_11 => ?_)
  have r_12 : 0 ≤ z_10.toInt ∧ z_10.toInt ≤ 0 := by have h9_ := hz_10; omega
  refine lv_bipush (v := (-2)) F.1 F.2.1 dX7_back_21 (by decide) ?_
  refine topK (a := (-2)) (by decide) (fun k_13 hk_13 => ?_)
  exact txI F hS dX7_back_23 rfl (⟨(wkb (eqb hk_13) rfl rfl), hH⟩)
set_option maxHeartbeats 4000000 in
set_option maxRecDepth 100000 in
theorem c_X7_back_1 (E : Ev) (ws : TD) (as : TD) (rd : TD) (sc : TD) (ty : TD) (tk : Int × Int) (xt : Int × Int) (tp : Int × Int) (sp : Int × Int) (wrb : Int × Int) (nu : Int × Int) (nab : Int × Int) (iwb : Int × Int) (u : Int) (X0 : Nat → Int32) (V : Nat → Int32) (Kp : Nat → Int32) (Y : Nat → Int32) (a0 : Nat) (a1 : Int32) (ha0 : eT E a0 ∈ [24]) (ha1 : 1 ≤ a1.toInt ∧ a1.toInt ≤ 1) (hu : 0 ≤ u ∧ u ≤ 10) (hX0 : okR X0) (hV : okN 2 V) (hKp : ivP 2 0 1 Kp) (hbit : gI Kp 1 = 1) (hy : okS Y 1 V) : TcI E yX7_back cX7_back 3 .int ({ frames := 2, cells := 0, slots := 0, locals := 65 }) [.ref a0, .int a1] (fun H => TH E (tbM (mD (.inl tp) (.inl sp) (.inl nu) (.inl (u, u)) (.inl tk) (.inl xt) (.inl wrb) (.inl nab) (.inl iwb)) (xD 660 X0) ws (xD 1320 V) as rd sc ty (xZ 2 Kp)) H) (fun v H => ∃ u2 : Int, (0 ≤ u2 ∧ u2 ≤ 10 ∧ u2 = 0) ∧ ∃ X2 : Nat → Int32, (okR X2 ∧ sQ Y X2) ∧ ((-2147483648) ≤ v.toInt ∧ v.toInt ≤ 2147483647) ∧ TH E (tbM (mD (.inl tp) (.inl sp) (.inl nu) (.inl (u2, u2)) (.inl tk) (.inl xt) (.inl wrb) (.inl nab) (.inl iwb)) (xD 660 X2) ws (xD 1320 V) as rd sc ty (xZ 2 Kp)) H) := by
  refine teI (by decide) (Nat.le_of_ble_eq_true rfl) ?_
  intro p_ ev_ s mi_ below_ meth cd_ ls F hK hN hO hH hS hl
  have hH : TH E (tbM (mD (.inl tp) (.inl sp) (.inl nu) (.inl (u, u)) (.inl tk) (.inl xt) (.inl wrb) (.inl nab) (.inl iwb)) (xD 660 X0) ws (xD 1320 V) as rd sc ty (xZ 2 Kp)) s.heap := hH
  have hl : lv_has ls 3 [(0, .ref a0), (1, .int a1)] := hl
  have hBX0 := okB hX0.1
  have hLX0 := hX0.2
  refine lv_iload_n F.1 F.2.1 dX7_back_0 rfl (lv_at hl 1 rfl) ?_
  refine tI2l F dX7_back_1 (fun w_1 hw_1 => ?_)
  refine lv_lconst (v := 0) F.1 F.2.1 dX7_back_2 (by decide) ?_
  refine topKL (a := 0) (by decide) (fun j_2 hj_2 => ?_)
  refine lv_lconst (v := 1) F.1 F.2.1 dX7_back_3 (by decide) ?_
  refine topKL (a := 1) (by decide) (fun j_3 hj_3 => ?_)
  refine tSi (As := [.long w_1, .long j_2, .long j_3]) (rest := []) F hK hN hO (c_X7_in E (mD (.inl tp) (.inl sp) (.inl nu) (.inl (u, u)) (.inl tk) (.inl xt) (.inl wrb) (.inl nab) (.inl iwb)) (xD 660 X0) ws (xD 1320 V) as rd sc ty (xZ 2 Kp) w_1 j_2 j_3) ms_X7_in wd_8_10 ⟨Nat.le_of_ble_eq_true rfl, Nat.le_of_ble_eq_true rfl⟩ ⟨Nat.le_of_ble_eq_true rfl, Nat.le_of_ble_eq_true rfl⟩ hH hS rfl hl.1 (Nat.le_of_ble_eq_true rfl) dX7_back_4 (fun z_4 H locs hq hS => ?_)
  obtain ⟨f_5, f_6, hH⟩ := hq
  have hH : TH E (tbM (mD (.inl tp) (.inl sp) (.inl nu) (.inl (u, u)) (.inl tk) (.inl xt) (.inl wrb) (.inl nab) (.inl iwb)) (xD 660 X0) ws (xD 1320 V) as rd sc ty (xZ 2 Kp)) H := hH
  refine z_ne (tgt := 12) F dX7_back_7 (by decide) (fun c_7 => ?_) (fun c_7 => absurd c_7 (by omega))
  have r_8 : 1 ≤ z_4.toInt ∧ z_4.toInt ≤ 1 := by have h9_ := f_5; omega
  refine lv_aload_n F.1 F.2.1 dX7_back_12 rfl (lv_at hl 0 rfl) ?_
  refine tGetR (j := 7) F hK hH (tyb ha0 (all1 rfl)) rfl (all1 rfl) clX7 (by decide) wd_6_12 dX7_back_13 (fun q_9 hq_9 _ => ?_)
  refine lv_iload_n F.1 F.2.1 dX7_back_16 rfl (lv_at hl 1 rfl) ?_
  refine tZaldX F hK hH (tyb hq_9 (all1 rfl)) (ixb (n := 2) ha1 rfl rfl) dX7_back_17 (fun z_10 ez_10 => ?_)
  have gz_10 : z_10.toInt = gI Kp (a1.toInt.toNat) := by unfold gI; rw [ez_10]; rfl
  have hz_10 : 0 ≤ z_10.toInt ∧ z_10.toInt ≤ 1 := (by have h9_ := hKp (a1).toNatClampNeg (cl_lt (n := 2) (by omega)); rw [← ez_10] at h9_; exact h9_)
  have qz_10 : z_10.toInt = gI Kp 1 := by rw [gz_10, show a1.toInt.toNat = 1 from by omega]
  refine z_ne (tgt := 24) F dX7_back_18 (by decide) (fun c_11 => ?_) (fun c_11 => absurd c_11 (by omega))
  have r_12 : 1 ≤ z_10.toInt ∧ z_10.toInt ≤ 1 := by have h9_ := hz_10; omega
  refine lv_iconst (v := 0) F.1 F.2.1 dX7_back_24 (by decide) ?_
  refine topK (a := 0) (by decide) (fun k_13 hk_13 => ?_)
  refine lv_istore_n (lv' := [(2, .int k_13), (0, .ref a0), (1, .int a1)]) F.1 F.2.1 dX7_back_25 rfl hl (by decide) rfl (fun ls hl => ?_)
  refine wloop (σ := Int32 × (Nat → Int32)) (fun n9 x9 H locs ls => (660 - x9.1.toInt + 1).toNat < n9 ∧ (0 ≤ x9.1.toInt ∧ x9.1.toInt ≤ 660) ∧ (True) ∧ (cp X0 x9.2 V 0 (660 * a1.toInt) (x9.1.toInt)) ∧ TH E (tbM (mD (.inl tp) (.inl sp) (.inl nu) (.inl (u, u)) (.inl tk) (.inl xt) (.inl wrb) (.inl nab) (.inl iwb)) (xD 660 x9.2) ws (xD 1320 V) as rd sc ty (xZ 2 Kp)) H ∧ va_S (eA E s.heap.size) s.heap H locs ∧ lv_has ls 3 [(0, .ref a0), (1, .int a1), (2, .int x9.1)]) ?_ (fun x9 H locs ls h => absurd h.1 (Nat.not_lt_zero _)) _ (k_13, X0) ⟨Nat.lt_succ_self _, (wkb (eqb hk_13) rfl rfl), trivial, (show cp X0 X0 V 0 (660 * a1.toInt) (k_13.toInt) from cp.zero (by omega)), hH, hS, lv_sub hl [1, 2, 0] rfl⟩
  intro n_26 ih_26 ⟨u_14, G_15⟩ H locs ls ⟨hm_26, hu_14, hG_15, hcr26_0, hH, hS, hl⟩
  have hm_26 : (660 - u_14.toInt + 1).toNat < n_26 + 1 := hm_26
  have hu_14 : (0 ≤ u_14.toInt ∧ u_14.toInt ≤ 660) := hu_14
  have hG_15 : (True) := hG_15
  have hcr26_0 : (cp X0 G_15 V 0 (660 * a1.toInt) (u_14.toInt)) := hcr26_0
  have hH : TH E (tbM (mD (.inl tp) (.inl sp) (.inl nu) (.inl (u, u)) (.inl tk) (.inl xt) (.inl wrb) (.inl nab) (.inl iwb)) (xD 660 G_15) ws (xD 1320 V) as rd sc ty (xZ 2 Kp)) H := hH
  have hl : lv_has ls 3 [(0, .ref a0), (1, .int a1), (2, .int u_14)] := hl
  refine lv_iload_n F.1 F.2.1 dX7_back_26 rfl (lv_at hl 2 rfl) ?_
  refine lv_sipush (v := 660) F.1 F.2.1 dX7_back_27 (by decide) ?_
  refine topK (a := 660) (by decide) (fun k_16 hk_16 => ?_)
  refine b_ge (tgt := 57) F dX7_back_30 (by decide) (fun c_17 => ?_) (fun c_17 => ?_)
  · skip
    have r_18 : 660 ≤ u_14.toInt ∧ u_14.toInt ≤ 660 := by have h9_ := hu_14; omega
    have hRG_15 : okR G_15 := okR.cp0 (okN.row (r := a1.toInt.toNat) hV (by omega) (by omega)) hcr26_0 (by omega) (by omega)
    have hBG_15 := okB hRG_15.1
    have hLG_15 := hRG_15.2
    refine lv_iconst (v := 0) F.1 F.2.1 dX7_back_57 (by decide) ?_
    refine topK (a := 0) (by decide) (fun k_20 hk_20 => ?_)
    refine lv_istore_n (lv' := [(2, .int k_20), (0, .ref a0), (1, .int a1)]) F.1 F.2.1 dX7_back_58 rfl hl (by decide) rfl (fun ls hl => ?_)
    refine wloop (σ := Int32) (fun n9 x9 H locs ls => (9 - x9.toInt + 1).toNat < n9 ∧ (0 ≤ x9.toInt ∧ x9.toInt ≤ 9) ∧ TH E (tbM (mD (.inl tp) (.inl sp) (.inl nu) (.inl (u, u)) (.inl tk) (.inl xt) (.inl wrb) (.inl nab) (.inl iwb)) (xD 660 G_15) ws (xD 1320 V) as rd sc ty (xZ 2 Kp)) H ∧ va_S (eA E s.heap.size) s.heap H locs ∧ lv_has ls 3 [(0, .ref a0), (1, .int a1), (2, .int x9)]) ?_ (fun x9 H locs ls h => absurd h.1 (Nat.not_lt_zero _)) _ (k_20) ⟨Nat.lt_succ_self _, (wkb (eqb hk_20) rfl rfl), hH, hS, lv_sub hl [1, 2, 0] rfl⟩
    intro n_59 ih_59 u_21 H locs ls ⟨hm_59, hu_21, hH, hS, hl⟩
    have hm_59 : (9 - u_21.toInt + 1).toNat < n_59 + 1 := hm_59
    have hu_21 : (0 ≤ u_21.toInt ∧ u_21.toInt ≤ 9) := hu_21
    have hH : TH E (tbM (mD (.inl tp) (.inl sp) (.inl nu) (.inl (u, u)) (.inl tk) (.inl xt) (.inl wrb) (.inl nab) (.inl iwb)) (xD 660 G_15) ws (xD 1320 V) as rd sc ty (xZ 2 Kp)) H := hH
    have hl : lv_has ls 3 [(0, .ref a0), (1, .int a1), (2, .int u_21)] := hl
    refine lv_iload_n F.1 F.2.1 dX7_back_59 rfl (lv_at hl 2 rfl) ?_
    refine lv_bipush (v := 6) F.1 F.2.1 dX7_back_60 (by decide) ?_
    refine topK (a := 6) (by decide) (fun k_22 hk_22 => ?_)
    refine b_ge (tgt := 88) F dX7_back_62 (by decide) (fun c_23 => ?_) (fun c_23 => ?_)
    · skip
      have r_24 : 6 ≤ u_21.toInt ∧ u_21.toInt ≤ 9 := by have h9_ := hu_21; omega
      refine lv_aload_n F.1 F.2.1 dX7_back_88 rfl (lv_at hl 0 rfl) ?_
      refine lv_iconst (v := 0) F.1 F.2.1 dX7_back_89 (by decide) ?_
      refine topK (a := 0) (by decide) (fun k_26 hk_26 => ?_)
      refine tPutG (j := 4) (t := 24) (fd := (.inl (0, 0))) F hK hH hS (List.mem_singleton.mp ha0) (by decide) rfl rfl (fdI (by omega)) (TB1 := (tbM (mD (.inl tp) (.inl sp) (.inl nu) (.inl (0, 0)) (.inl tk) (.inl xt) (.inl wrb) (.inl nab) (.inl iwb)) (xD 660 G_15) ws (xD 1320 V) as rd sc ty (xZ 2 Kp))) rfl clX7 (by decide) wd_15_15 rfl rfl rfl rfl dX7_back_90 (fun H locs hH hS => ?_)
      refine lv_aload_n F.1 F.2.1 dX7_back_93 rfl (lv_at hl 0 rfl) ?_
      refine tGetR (j := 0) F hK hH (tyb ha0 (all1 rfl)) rfl (all1 rfl) clX7 (by decide) wd_6_5 dX7_back_94 (fun q_27 hq_27 _ => ?_)
      refine lv_iconst (v := 3) F.1 F.2.1 dX7_back_97 (by decide) ?_
      refine topK (a := 3) (by decide) (fun k_28 hk_28 => ?_)
      refine tIaldX F hK hH (tyb hq_27 (all1 rfl)) (ixb (n := 660) (eqb hk_28) rfl rfl) dX7_back_98 (fun z_29 ez_29 => ?_)
      exact txI F hS dX7_back_99 rfl (⟨0, ⟨by omega, by omega, by omega⟩, G_15, ⟨hRG_15, okS_back hy hcr26_0 (by omega) (by omega)⟩, (i32b _), hH⟩)
    · skip
      have r_25 : 0 ≤ u_21.toInt ∧ u_21.toInt ≤ 5 := by have h9_ := hu_21; omega
      refine lv_aload_n F.1 F.2.1 dX7_back_65 rfl (lv_at hl 0 rfl) ?_
      refine tGetR (j := 1) F hK hH (tyb ha0 (all1 rfl)) rfl (all1 rfl) clX7 (by decide) wd_6_6 dX7_back_66 (fun q_30 hq_30 _ => ?_)
      refine lv_iload_n F.1 F.2.1 dX7_back_69 rfl (lv_at hl 2 rfl) ?_
      refine lv_aload_n F.1 F.2.1 dX7_back_70 rfl (lv_at hl 0 rfl) ?_
      refine tGetR (j := 6) F hK hH (tyb ha0 (all1 rfl)) rfl (all1 rfl) clX7 (by decide) wd_6_10 dX7_back_71 (fun q_31 hq_31 _ => ?_)
      refine lv_bipush (v := 6) F.1 F.2.1 dX7_back_74 (by decide) ?_
      refine topK (a := 6) (by decide) (fun k_32 hk_32 => ?_)
      refine lv_iload_n F.1 F.2.1 dX7_back_76 rfl (lv_at hl 1 rfl) ?_
      refine tMul (lo := 6) (hi := 6) F dX7_back_77 (eqb hk_32) ha1 rfl (fun z_33 hz_33 => ?_)
      have mz_33 : z_33.toInt = 6 * a1.toInt := by rw [hz_33.1, hk_32]
      refine lv_iload_n F.1 F.2.1 dX7_back_78 rfl (lv_at hl 2 rfl) ?_
      refine tAdd (lo := 6) (hi := 11) F dX7_back_79 hz_33.2 r_25 rfl (fun z_34 hz_34 => ?_)
      refine tLald F hK hH (tyb hq_31 (all1 rfl)) (ixb (n := 12) hz_34.2 rfl rfl) dX7_back_80 (fun w_35 => ?_)
      refine tLast F hK hH hS (tyb hq_30 (all1 rfl)) (ixb (n := 6) r_25 rfl rfl) dX7_back_81 (fun H locs hH hS => ?_)
      obtain ⟨x_36, ex_36, hx_36⟩ := iincB (c := 1) (lo := 1) (hi := 6) r_25 rfl
      refine lv_iinc (v := x_36) (lv' := [(2, .int x_36), (0, .ref a0), (1, .int a1)]) F.1 F.2.1 dX7_back_82 hl (k := 2) rfl ex_36 (by decide) rfl (fun ls hl => ?_)
      refine lv_goto (tgt := 59) F.1 F.2.1 dX7_back_85 (by decide) ?_
      exact ih_59 (x_36) _ _ _ ⟨(show (9 - x_36.toInt + 1).toNat < n_59 from by omega), (wkb hx_36.2 rfl rfl), hH, hS, lv_sub hl [1, 2, 0] rfl⟩
  · skip
    have r_19 : 0 ≤ u_14.toInt ∧ u_14.toInt ≤ 659 := by have h9_ := hu_14; omega
    refine lv_aload_n F.1 F.2.1 dX7_back_33 rfl (lv_at hl 0 rfl) ?_
    refine tGetR (j := 0) F hK hH (tyb ha0 (all1 rfl)) rfl (all1 rfl) clX7 (by decide) wd_6_5 dX7_back_34 (fun q_37 hq_37 _ => ?_)
    refine lv_iload_n F.1 F.2.1 dX7_back_37 rfl (lv_at hl 2 rfl) ?_
    refine lv_aload_n F.1 F.2.1 dX7_back_38 rfl (lv_at hl 0 rfl) ?_
    refine tGetR (j := 5) F hK hH (tyb ha0 (all1 rfl)) rfl (all1 rfl) clX7 (by decide) wd_6_9 dX7_back_39 (fun q_38 hq_38 _ => ?_)
    refine lv_sipush (v := 660) F.1 F.2.1 dX7_back_42 (by decide) ?_
    refine topK (a := 660) (by decide) (fun k_39 hk_39 => ?_)
    refine lv_iload_n F.1 F.2.1 dX7_back_45 rfl (lv_at hl 1 rfl) ?_
    refine tMul (lo := 660) (hi := 660) F dX7_back_46 (eqb hk_39) ha1 rfl (fun z_40 hz_40 => ?_)
    have mz_40 : z_40.toInt = 660 * a1.toInt := by rw [hz_40.1, hk_39]
    refine lv_iload_n F.1 F.2.1 dX7_back_47 rfl (lv_at hl 2 rfl) ?_
    refine tAdd (lo := 660) (hi := 1319) F dX7_back_48 hz_40.2 r_19 rfl (fun z_41 hz_41 => ?_)
    refine tIaldX F hK hH (tyb hq_38 (all1 rfl)) (ixb (n := 1320) hz_41.2 rfl rfl) dX7_back_49 (fun z_42 ez_42 => ?_)
    refine tIastX (t := 25) F hK hH hS (List.mem_singleton.mp hq_37) (by decide) rfl (ixb (n := 660) r_19 rfl rfl) dX7_back_50 (fun G_43 eG_43 H locs hH hS => ?_)
    have hH : TH E (tbM (mD (.inl tp) (.inl sp) (.inl nu) (.inl (u, u)) (.inl tk) (.inl xt) (.inl wrb) (.inl nab) (.inl iwb)) (xD 660 G_43) ws (xD 1320 V) as rd sc ty (xZ 2 Kp)) H := hH
    obtain ⟨x_44, ex_44, hx_44⟩ := iincB (c := 1) (lo := 1) (hi := 660) r_19 rfl
    refine lv_iinc (v := x_44) (lv' := [(2, .int x_44), (0, .ref a0), (1, .int a1)]) F.1 F.2.1 dX7_back_51 hl (k := 2) rfl ex_44 (by decide) rfl (fun ls hl => ?_)
    refine lv_goto (tgt := 26) F.1 F.2.1 dX7_back_54 (by decide) ?_
    exact ih_26 (x_44, G_43) _ _ _ ⟨(show (660 - x_44.toInt + 1).toNat < n_26 from by omega), (wkb hx_44.2 rfl rfl), trivial, (show cp X0 G_43 V 0 (660 * a1.toInt) (x_44.toInt) from cp.step hcr26_0 eG_43 ez_42 (by omega) (by omega) (by omega) (by omega)), hH, hS, lv_sub hl [1, 2, 0] rfl⟩
set_option maxHeartbeats 4000000 in
set_option maxRecDepth 100000 in
theorem c_X7_ahead_t (E : Ev) (ws : TD) (kp : TD) (rd : TD) (ty : TD) (ik : TD) (un : Int × Int) (xt : Int × Int) (tp : Int × Int) (sp : Int × Int) (wrb : Int × Int) (nu : Int × Int) (nab : Int × Int) (iwb : Int × Int) (X0 : Nat → Int32) (A : Nat → Int32) (Z : Nat → Int32) (a0 : Nat) (a1 : Int32) (a2 : Nat) (ha0 : eT E a0 ∈ [24]) (ha1 : 1 ≤ a1.toInt ∧ a1.toInt ≤ 360) (ha2 : eT E a2 ∈ [47]) (hX0 : okR X0) (hA : okR A) (hqA : sQ Z A) (hqX0 : sQ Z X0) : TcV E yX7_ahead cX7_ahead 5 ({ frames := 9, cells := 0, slots := 0, locals := 222 }) [.ref a0, .int a1, .ref a2] (fun H => TH E (tbM (mD (.inl tp) (.inl sp) (.inl nu) (.inl un) (.inl (0, 18)) (.inl xt) (.inl wrb) (.inl nab) (.inl iwb)) (xD 660 X0) ws kp (xD 660 A) rd m_second ty ik) H) (fun H => ∃ X2 : Nat → Int32, (okR X2 ∧ sQ Z X2) ∧ TH E (tbM (mD (.inl tp) (.inl sp) (.inl nu) (.inl un) (.inl (0, 18)) (.inl xt) (.inl wrb) (.inl nab) (.inl iwb)) (xD 660 X2) ws kp (xD 660 A) rd m_second ty ik) H) := by
  refine teV (by decide) (Nat.le_of_ble_eq_true rfl) ?_
  intro p_ ev_ s mi_ below_ meth cd_ ls F hK hN hO hH hS hl
  have hH : TH E (tbM (mD (.inl tp) (.inl sp) (.inl nu) (.inl un) (.inl (0, 18)) (.inl xt) (.inl wrb) (.inl nab) (.inl iwb)) (xD 660 X0) ws kp (xD 660 A) rd m_second ty ik) s.heap := hH
  have hl : lv_has ls 5 [(0, .ref a0), (1, .int a1), (2, .ref a2)] := hl
  have hBX0 := okB hX0.1
  have hLX0 := hX0.2
  have hBA := okB hA.1
  have hLA := hA.2
  refine lv_iconst (v := 0) F.1 F.2.1 dX7_ahead_0 (by decide) ?_
  refine topK (a := 0) (by decide) (fun k_1 hk_1 => ?_)
  refine lv_istore_n (lv' := [(3, .int k_1), (0, .ref a0), (1, .int a1), (2, .ref a2)]) F.1 F.2.1 dX7_ahead_1 rfl hl (by decide) rfl (fun ls hl => ?_)
  refine wloop (σ := Int32) (fun n9 x9 H locs ls => (14 - x9.toInt + 1).toNat < n9 ∧ (0 ≤ x9.toInt ∧ x9.toInt ≤ 14) ∧ TH E (tbM (mD (.inl tp) (.inl sp) (.inl nu) (.inl un) (.inl (0, 18)) (.inl xt) (.inl wrb) (.inl nab) (.inl iwb)) (xD 660 X0) ws kp (xD 660 A) rd m_second ty ik) H ∧ va_S (eA E s.heap.size) s.heap H locs ∧ lv_has ls 5 [(0, .ref a0), (1, .int a1), (2, .ref a2), (3, .int x9)]) ?_ (fun x9 H locs ls h => absurd h.1 (Nat.not_lt_zero _)) _ (k_1) ⟨Nat.lt_succ_self _, (wkb (eqb hk_1) rfl rfl), hH, hS, lv_sub hl [1, 2, 3, 0] rfl⟩
  intro n_2 ih_2 u_2 H locs ls ⟨hm_2, hu_2, hH, hS, hl⟩
  have hm_2 : (14 - u_2.toInt + 1).toNat < n_2 + 1 := hm_2
  have hu_2 : (0 ≤ u_2.toInt ∧ u_2.toInt ≤ 14) := hu_2
  have hH : TH E (tbM (mD (.inl tp) (.inl sp) (.inl nu) (.inl un) (.inl (0, 18)) (.inl xt) (.inl wrb) (.inl nab) (.inl iwb)) (xD 660 X0) ws kp (xD 660 A) rd m_second ty ik) H := hH
  have hl : lv_has ls 5 [(0, .ref a0), (1, .int a1), (2, .ref a2), (3, .int u_2)] := hl
  refine lv_iload_n F.1 F.2.1 dX7_ahead_2 rfl (lv_at hl 3 rfl) ?_
  refine lv_bipush (v := 14) F.1 F.2.1 dX7_ahead_3 (by decide) ?_
  refine topK (a := 14) (by decide) (fun k_3 hk_3 => ?_)
  refine b_ge (tgt := 18) F dX7_ahead_5 (by decide) (fun c_4 => ?_) (fun c_4 => ?_)
  · skip
    have r_5 : 14 ≤ u_2.toInt ∧ u_2.toInt ≤ 14 := by have h9_ := hu_2; omega
    refine lv_iconst (v := 0) F.1 F.2.1 dX7_ahead_18 (by decide) ?_
    refine topK (a := 0) (by decide) (fun k_7 hk_7 => ?_)
    refine lv_istore_n (lv' := [(3, .int k_7), (0, .ref a0), (1, .int a1), (2, .ref a2)]) F.1 F.2.1 dX7_ahead_19 rfl hl (by decide) rfl (fun ls hl => ?_)
    refine wloop (σ := Int32 × (Nat → Int32)) (fun n9 x9 H locs ls => (360 - x9.1.toInt + 1).toNat < n9 ∧ (0 ≤ x9.1.toInt ∧ x9.1.toInt ≤ 360) ∧ (okR x9.2) ∧ (sQ Z x9.2) ∧ TH E (tbM (mD (.inl tp) (.inl sp) (.inl nu) (.inl un) (.inl (0, 18)) (.inl xt) (.inl wrb) (.inl nab) (.inl iwb)) (xD 660 x9.2) ws kp (xD 660 A) rd m_second ty ik) H ∧ va_S (eA E s.heap.size) s.heap H locs ∧ lv_has ls 5 [(0, .ref a0), (1, .int a1), (2, .ref a2), (3, .int x9.1)]) ?_ (fun x9 H locs ls h => absurd h.1 (Nat.not_lt_zero _)) _ (k_7, X0) ⟨Nat.lt_succ_self _, (wkb (eqb hk_7) rfl rfl), hX0, (show sQ Z X0 from hqX0), hH, hS, lv_sub hl [1, 2, 3, 0] rfl⟩
    intro n_20 ih_20 ⟨u_8, G_9⟩ H locs ls ⟨hm_20, hu_8, hG_9, hcr20_0, hH, hS, hl⟩
    have hm_20 : (360 - u_8.toInt + 1).toNat < n_20 + 1 := hm_20
    have hu_8 : (0 ≤ u_8.toInt ∧ u_8.toInt ≤ 360) := hu_8
    have hG_9 : (okR G_9) := hG_9
    have hcr20_0 : (sQ Z G_9) := hcr20_0
    have hH : TH E (tbM (mD (.inl tp) (.inl sp) (.inl nu) (.inl un) (.inl (0, 18)) (.inl xt) (.inl wrb) (.inl nab) (.inl iwb)) (xD 660 G_9) ws kp (xD 660 A) rd m_second ty ik) H := hH
    have hl : lv_has ls 5 [(0, .ref a0), (1, .int a1), (2, .ref a2), (3, .int u_8)] := hl
    have hBG_9 := okB hG_9.1
    have hLG_9 := hG_9.2
    have hqG_9 := hcr20_0
    refine lv_iload_n F.1 F.2.1 dX7_ahead_20 rfl (lv_at hl 3 rfl) ?_
    refine lv_iload_n F.1 F.2.1 dX7_ahead_21 rfl (lv_at hl 1 rfl) ?_
    refine b_ge (tgt := 66) F dX7_ahead_22 (by decide) (fun c_10 => ?_) (fun c_10 => ?_)
    · skip
      have r_11 : 1 ≤ u_8.toInt ∧ u_8.toInt ≤ 360 := by have h9_ := hu_8; omega
      refine lv_aload_n F.1 F.2.1 dX7_ahead_66 rfl (lv_at hl 0 rfl) ?_
      refine tVv (b := a0) (As := []) (rest := []) F hK hN hO (c_X7_takesBack E ws kp rd m_second ty ik un (0, 18) xt tp sp wrb nu nab iwb G_9 A Z a0 ha0 hG_9 hA hqA) mv_X7_takesBack wd_38_0 ⟨Nat.le_of_ble_eq_true rfl, Nat.le_of_ble_eq_true rfl⟩ ⟨Nat.le_of_ble_eq_true rfl, Nat.le_of_ble_eq_true rfl⟩ hH hS (tRecv hK hH (tyb ha0 (all1 rfl)) clX7) rfl hl.1 (Nat.le_of_ble_eq_true rfl) dX7_ahead_67 (fun H locs hq hS => ?_)
      obtain ⟨g_14, hg_14, hH⟩ := hq
      have hH : TH E (tbM (mD (.inl tp) (.inl sp) (.inl nu) (.inl un) (.inl (0, 18)) (.inl xt) (.inl wrb) (.inl nab) (.inl iwb)) (xD 660 g_14) ws kp (xD 660 A) rd m_second ty ik) H := hH
      have hqg_14 := hg_14.2
      have hBg_14 := okB hg_14.1.1
      have hLg_14 := hg_14.1.2
      exact txV F hS dX7_ahead_70 (⟨g_14, ⟨hg_14.1, hqg_14⟩, hH⟩)
    · skip
      have r_12 : 0 ≤ u_8.toInt ∧ u_8.toInt ≤ 359 := by have h9_ := hu_8; omega
      refine lv_aload_n F.1 F.2.1 dX7_ahead_25 rfl (lv_at hl 0 rfl) ?_
      refine tVv (b := a0) (As := []) (rest := []) F hK hN hO (c_X7_passes E ws kp (xD 660 A) rd ty ik un xt tp sp wrb nu nab iwb G_9 Z a0 ha0 hG_9 hqG_9) mv_X7_passes wd_25_11 ⟨Nat.le_of_ble_eq_true rfl, Nat.le_of_ble_eq_true rfl⟩ ⟨Nat.le_of_ble_eq_true rfl, Nat.le_of_ble_eq_true rfl⟩ hH hS (tRecv hK hH (tyb ha0 (all1 rfl)) clX7) rfl hl.1 (Nat.le_of_ble_eq_true rfl) dX7_ahead_26 (fun H locs hq hS => ?_)
      obtain ⟨g_16, hg_16, hH⟩ := hq
      have hH : TH E (tbM (mD (.inl tp) (.inl sp) (.inl nu) (.inl un) (.inl (0, 18)) (.inl xt) (.inl wrb) (.inl nab) (.inl iwb)) (xD 660 g_16) ws kp (xD 660 A) rd m_second ty ik) H := hH
      have hqg_16 := hg_16.2
      have hBg_16 := okB hg_16.1.1
      have hLg_16 := hg_16.1.2
      refine lv_iconst (v := 0) F.1 F.2.1 dX7_ahead_29 (by decide) ?_
      refine topK (a := 0) (by decide) (fun k_17 hk_17 => ?_)
      refine lv_istore (lv' := [(4, .int k_17), (0, .ref a0), (1, .int a1), (2, .ref a2), (3, .int u_8)]) F.1 F.2.1 dX7_ahead_30 hl (by decide) rfl (fun ls hl => ?_)
      refine wloop (σ := Int32) (fun n9 x9 H locs ls => (14 - x9.toInt + 1).toNat < n9 ∧ (0 ≤ x9.toInt ∧ x9.toInt ≤ 14) ∧ TH E (tbM (mD (.inl tp) (.inl sp) (.inl nu) (.inl un) (.inl (0, 18)) (.inl xt) (.inl wrb) (.inl nab) (.inl iwb)) (xD 660 g_16) ws kp (xD 660 A) rd m_second ty ik) H ∧ va_S (eA E s.heap.size) s.heap H locs ∧ lv_has ls 5 [(0, .ref a0), (1, .int a1), (2, .ref a2), (3, .int u_8), (4, .int x9)]) ?_ (fun x9 H locs ls h => absurd h.1 (Nat.not_lt_zero _)) _ (k_17) ⟨Nat.lt_succ_self _, (wkb (eqb hk_17) rfl rfl), hH, hS, lv_sub hl [1, 2, 3, 4, 0] rfl⟩
      intro n_32 ih_32 u_18 H locs ls ⟨hm_32, hu_18, hH, hS, hl⟩
      have hm_32 : (14 - u_18.toInt + 1).toNat < n_32 + 1 := hm_32
      have hu_18 : (0 ≤ u_18.toInt ∧ u_18.toInt ≤ 14) := hu_18
      have hH : TH E (tbM (mD (.inl tp) (.inl sp) (.inl nu) (.inl un) (.inl (0, 18)) (.inl xt) (.inl wrb) (.inl nab) (.inl iwb)) (xD 660 g_16) ws kp (xD 660 A) rd m_second ty ik) H := hH
      have hl : lv_has ls 5 [(0, .ref a0), (1, .int a1), (2, .ref a2), (3, .int u_8), (4, .int u_18)] := hl
      refine lv_iload F.1 F.2.1 dX7_ahead_32 (lv_at hl 4 rfl) ?_
      refine lv_aload_n F.1 F.2.1 dX7_ahead_34 rfl (lv_at hl 0 rfl) ?_
      refine tVi (b := a0) (As := []) (rest := [.int u_18]) F hK hN hO (c_X7_rights E ws kp (xD 660 A) rd m_second ty ik un (0, 18) xt tp sp wrb nu nab iwb g_16 a0 ha0 ((hg_16.1).1)) mv_X7_rights wd_19_4 ⟨Nat.le_of_ble_eq_true rfl, Nat.le_of_ble_eq_true rfl⟩ ⟨Nat.le_of_ble_eq_true rfl, Nat.le_of_ble_eq_true rfl⟩ hH hS (tRecv hK hH (tyb ha0 (all1 rfl)) clX7) rfl hl.1 (Nat.le_of_ble_eq_true rfl) dX7_ahead_35 (fun z_19 H locs hq hS => ?_)
      obtain ⟨f_20, f_21, hH⟩ := hq
      have hH : TH E (tbM (mD (.inl tp) (.inl sp) (.inl nu) (.inl un) (.inl (0, 18)) (.inl xt) (.inl wrb) (.inl nab) (.inl iwb)) (xD 660 g_16) ws kp (xD 660 A) rd m_second ty ik) H := hH
      refine b_ge (tgt := 60) F dX7_ahead_38 (by decide) (fun c_22 => ?_) (fun c_22 => ?_)
      · skip
        obtain ⟨x_25, ex_25, hx_25⟩ := iincB (c := 1) (lo := 1) (hi := 360) r_12 rfl
        refine lv_iinc (v := x_25) (lv' := [(3, .int x_25), (0, .ref a0), (1, .int a1), (2, .ref a2), (4, .int u_18)]) F.1 F.2.1 dX7_ahead_60 hl (k := 3) rfl ex_25 (by decide) rfl (fun ls hl => ?_)
        refine lv_goto (tgt := 20) F.1 F.2.1 dX7_ahead_63 (by decide) ?_
        exact ih_20 (x_25, g_16) _ _ _ ⟨(show (360 - x_25.toInt + 1).toNat < n_20 from by omega), (wkb hx_25.2 rfl rfl), hg_16.1, (show sQ Z g_16 from hqg_16), hH, hS, lv_sub hl [1, 2, 3, 0] rfl⟩
      · skip
        have r_23 : 0 ≤ u_18.toInt ∧ u_18.toInt ≤ 13 := by have h9_ := hu_18; omega
        have r_24 : 1 ≤ z_19.toInt ∧ z_19.toInt ≤ 14 := by have h9_ := f_20; omega
        refine lv_aload_n F.1 F.2.1 dX7_ahead_41 rfl (lv_at hl 2 rfl) ?_
        refine lv_iload F.1 F.2.1 dX7_ahead_42 (lv_at hl 4 rfl) ?_
        refine lv_dup2_11 F.1 F.2.1 dX7_ahead_44 rfl rfl ?_
        refine tIaldB F hK hH (tyb ha2 (all1 rfl)) (ixb (n := 14) r_23 rfl rfl) dX7_ahead_45 (fun z_26 hz_26 => ?_)
        refine lv_aload_n F.1 F.2.1 dX7_ahead_46 rfl (lv_at hl 0 rfl) ?_
        refine lv_iload F.1 F.2.1 dX7_ahead_47 (lv_at hl 4 rfl) ?_
        refine tVi (b := a0) (As := [.int u_18]) (rest := [.int z_26, .int u_18, .ref a2]) F hK hN hO (c_X7_allOf E (xD 660 g_16) ws kp (xD 660 A) rd ty ik un (0, 18) xt tp sp wrb nu nab iwb a0 u_18 ha0 r_23) mv_X7_allOf wd_29_22 ⟨Nat.le_of_ble_eq_true rfl, Nat.le_of_ble_eq_true rfl⟩ ⟨Nat.le_of_ble_eq_true rfl, Nat.le_of_ble_eq_true rfl⟩ hH hS (tRecv hK hH (tyb ha0 (all1 rfl)) clX7) rfl hl.1 (Nat.le_of_ble_eq_true rfl) dX7_ahead_49 (fun z_27 H locs hq hS => ?_)
        obtain ⟨f_28, hH⟩ := hq
        have hH : TH E (tbM (mD (.inl tp) (.inl sp) (.inl nu) (.inl un) (.inl (0, 18)) (.inl xt) (.inl wrb) (.inl nab) (.inl iwb)) (xD 660 g_16) ws kp (xD 660 A) rd m_second ty ik) H := hH
        refine lv_iadd F.1 F.2.1 dX7_ahead_52 ?_
        refine topF (fun z_29 => ?_)
        refine tIastB F hK hH hS (tyb ha2 (all1 rfl)) (ixb (n := 14) r_23 rfl rfl) (i32b _) dX7_ahead_53 (fun H locs hH hS => ?_)
        obtain ⟨x_30, ex_30, hx_30⟩ := iincB (c := 1) (lo := 1) (hi := 14) r_23 rfl
        refine lv_iinc (v := x_30) (lv' := [(4, .int x_30), (0, .ref a0), (1, .int a1), (2, .ref a2), (3, .int u_8)]) F.1 F.2.1 dX7_ahead_54 hl (k := 4) rfl ex_30 (by decide) rfl (fun ls hl => ?_)
        refine lv_goto (tgt := 32) F.1 F.2.1 dX7_ahead_57 (by decide) ?_
        exact ih_32 (x_30) _ _ _ ⟨(show (14 - x_30.toInt + 1).toNat < n_32 from by omega), (wkb hx_30.2 rfl rfl), hH, hS, lv_sub hl [1, 2, 3, 4, 0] rfl⟩
  · skip
    have r_6 : 0 ≤ u_2.toInt ∧ u_2.toInt ≤ 13 := by have h9_ := hu_2; omega
    refine lv_aload_n F.1 F.2.1 dX7_ahead_8 rfl (lv_at hl 2 rfl) ?_
    refine lv_iload_n F.1 F.2.1 dX7_ahead_9 rfl (lv_at hl 3 rfl) ?_
    refine lv_iconst (v := 0) F.1 F.2.1 dX7_ahead_10 (by decide) ?_
    refine topK (a := 0) (by decide) (fun k_31 hk_31 => ?_)
    refine tIastB F hK hH hS (tyb ha2 (all1 rfl)) (ixb (n := 14) r_6 rfl rfl) (wkb (eqb hk_31) rfl rfl) dX7_ahead_11 (fun H locs hH hS => ?_)
    obtain ⟨x_32, ex_32, hx_32⟩ := iincB (c := 1) (lo := 1) (hi := 14) r_6 rfl
    refine lv_iinc (v := x_32) (lv' := [(3, .int x_32), (0, .ref a0), (1, .int a1), (2, .ref a2)]) F.1 F.2.1 dX7_ahead_12 hl (k := 3) rfl ex_32 (by decide) rfl (fun ls hl => ?_)
    refine lv_goto (tgt := 2) F.1 F.2.1 dX7_ahead_15 (by decide) ?_
    exact ih_2 (x_32) _ _ _ ⟨(show (14 - x_32.toInt + 1).toNat < n_2 from by omega), (wkb hx_32.2 rfl rfl), hH, hS, lv_sub hl [1, 2, 3, 0] rfl⟩
set_option maxHeartbeats 4000000 in
set_option maxRecDepth 100000 in
theorem c_X7_ahead_n (E : Ev) (ws : TD) (kp : TD) (rd : TD) (ty : TD) (ik : TD) (un : Int × Int) (xt : Int × Int) (tp : Int × Int) (sp : Int × Int) (wrb : Int × Int) (nu : Int × Int) (nab : Int × Int) (iwb : Int × Int) (X0 : Nat → Int32) (A : Nat → Int32) (Z : Nat → Int32) (a0 : Nat) (a1 : Int32) (a2 : Nat) (ha0 : eT E a0 ∈ [24]) (ha1 : 1 ≤ a1.toInt ∧ a1.toInt ≤ 360) (ha2 : eT E a2 ∈ [46]) (hX0 : okR X0) (hA : okR A) (hqA : sQ Z A) (hqX0 : sQ Z X0) : TcV E yX7_ahead cX7_ahead 5 ({ frames := 9, cells := 0, slots := 0, locals := 222 }) [.ref a0, .int a1, .ref a2] (fun H => TH E (tbM (mD (.inl tp) (.inl sp) (.inl nu) (.inl un) (.inl (0, 18)) (.inl xt) (.inl wrb) (.inl nab) (.inl iwb)) (xD 660 X0) ws kp (xD 660 A) rd m_second ty ik) H) (fun H => ∃ X2 : Nat → Int32, (okR X2 ∧ sQ Z X2) ∧ TH E (tbM (mD (.inl tp) (.inl sp) (.inl nu) (.inl un) (.inl (0, 18)) (.inl xt) (.inl wrb) (.inl nab) (.inl iwb)) (xD 660 X2) ws kp (xD 660 A) rd m_second ty ik) H) := by
  refine teV (by decide) (Nat.le_of_ble_eq_true rfl) ?_
  intro p_ ev_ s mi_ below_ meth cd_ ls F hK hN hO hH hS hl
  have hH : TH E (tbM (mD (.inl tp) (.inl sp) (.inl nu) (.inl un) (.inl (0, 18)) (.inl xt) (.inl wrb) (.inl nab) (.inl iwb)) (xD 660 X0) ws kp (xD 660 A) rd m_second ty ik) s.heap := hH
  have hl : lv_has ls 5 [(0, .ref a0), (1, .int a1), (2, .ref a2)] := hl
  have hBX0 := okB hX0.1
  have hLX0 := hX0.2
  have hBA := okB hA.1
  have hLA := hA.2
  refine lv_iconst (v := 0) F.1 F.2.1 dX7_ahead_0 (by decide) ?_
  refine topK (a := 0) (by decide) (fun k_1 hk_1 => ?_)
  refine lv_istore_n (lv' := [(3, .int k_1), (0, .ref a0), (1, .int a1), (2, .ref a2)]) F.1 F.2.1 dX7_ahead_1 rfl hl (by decide) rfl (fun ls hl => ?_)
  refine wloop (σ := Int32) (fun n9 x9 H locs ls => (14 - x9.toInt + 1).toNat < n9 ∧ (0 ≤ x9.toInt ∧ x9.toInt ≤ 14) ∧ TH E (tbM (mD (.inl tp) (.inl sp) (.inl nu) (.inl un) (.inl (0, 18)) (.inl xt) (.inl wrb) (.inl nab) (.inl iwb)) (xD 660 X0) ws kp (xD 660 A) rd m_second ty ik) H ∧ va_S (eA E s.heap.size) s.heap H locs ∧ lv_has ls 5 [(0, .ref a0), (1, .int a1), (2, .ref a2), (3, .int x9)]) ?_ (fun x9 H locs ls h => absurd h.1 (Nat.not_lt_zero _)) _ (k_1) ⟨Nat.lt_succ_self _, (wkb (eqb hk_1) rfl rfl), hH, hS, lv_sub hl [1, 2, 3, 0] rfl⟩
  intro n_2 ih_2 u_2 H locs ls ⟨hm_2, hu_2, hH, hS, hl⟩
  have hm_2 : (14 - u_2.toInt + 1).toNat < n_2 + 1 := hm_2
  have hu_2 : (0 ≤ u_2.toInt ∧ u_2.toInt ≤ 14) := hu_2
  have hH : TH E (tbM (mD (.inl tp) (.inl sp) (.inl nu) (.inl un) (.inl (0, 18)) (.inl xt) (.inl wrb) (.inl nab) (.inl iwb)) (xD 660 X0) ws kp (xD 660 A) rd m_second ty ik) H := hH
  have hl : lv_has ls 5 [(0, .ref a0), (1, .int a1), (2, .ref a2), (3, .int u_2)] := hl
  refine lv_iload_n F.1 F.2.1 dX7_ahead_2 rfl (lv_at hl 3 rfl) ?_
  refine lv_bipush (v := 14) F.1 F.2.1 dX7_ahead_3 (by decide) ?_
  refine topK (a := 14) (by decide) (fun k_3 hk_3 => ?_)
  refine b_ge (tgt := 18) F dX7_ahead_5 (by decide) (fun c_4 => ?_) (fun c_4 => ?_)
  · skip
    have r_5 : 14 ≤ u_2.toInt ∧ u_2.toInt ≤ 14 := by have h9_ := hu_2; omega
    refine lv_iconst (v := 0) F.1 F.2.1 dX7_ahead_18 (by decide) ?_
    refine topK (a := 0) (by decide) (fun k_7 hk_7 => ?_)
    refine lv_istore_n (lv' := [(3, .int k_7), (0, .ref a0), (1, .int a1), (2, .ref a2)]) F.1 F.2.1 dX7_ahead_19 rfl hl (by decide) rfl (fun ls hl => ?_)
    refine wloop (σ := Int32 × (Nat → Int32)) (fun n9 x9 H locs ls => (360 - x9.1.toInt + 1).toNat < n9 ∧ (0 ≤ x9.1.toInt ∧ x9.1.toInt ≤ 360) ∧ (okR x9.2) ∧ (sQ Z x9.2) ∧ TH E (tbM (mD (.inl tp) (.inl sp) (.inl nu) (.inl un) (.inl (0, 18)) (.inl xt) (.inl wrb) (.inl nab) (.inl iwb)) (xD 660 x9.2) ws kp (xD 660 A) rd m_second ty ik) H ∧ va_S (eA E s.heap.size) s.heap H locs ∧ lv_has ls 5 [(0, .ref a0), (1, .int a1), (2, .ref a2), (3, .int x9.1)]) ?_ (fun x9 H locs ls h => absurd h.1 (Nat.not_lt_zero _)) _ (k_7, X0) ⟨Nat.lt_succ_self _, (wkb (eqb hk_7) rfl rfl), hX0, (show sQ Z X0 from hqX0), hH, hS, lv_sub hl [1, 2, 3, 0] rfl⟩
    intro n_20 ih_20 ⟨u_8, G_9⟩ H locs ls ⟨hm_20, hu_8, hG_9, hcr20_0, hH, hS, hl⟩
    have hm_20 : (360 - u_8.toInt + 1).toNat < n_20 + 1 := hm_20
    have hu_8 : (0 ≤ u_8.toInt ∧ u_8.toInt ≤ 360) := hu_8
    have hG_9 : (okR G_9) := hG_9
    have hcr20_0 : (sQ Z G_9) := hcr20_0
    have hH : TH E (tbM (mD (.inl tp) (.inl sp) (.inl nu) (.inl un) (.inl (0, 18)) (.inl xt) (.inl wrb) (.inl nab) (.inl iwb)) (xD 660 G_9) ws kp (xD 660 A) rd m_second ty ik) H := hH
    have hl : lv_has ls 5 [(0, .ref a0), (1, .int a1), (2, .ref a2), (3, .int u_8)] := hl
    have hBG_9 := okB hG_9.1
    have hLG_9 := hG_9.2
    have hqG_9 := hcr20_0
    refine lv_iload_n F.1 F.2.1 dX7_ahead_20 rfl (lv_at hl 3 rfl) ?_
    refine lv_iload_n F.1 F.2.1 dX7_ahead_21 rfl (lv_at hl 1 rfl) ?_
    refine b_ge (tgt := 66) F dX7_ahead_22 (by decide) (fun c_10 => ?_) (fun c_10 => ?_)
    · skip
      have r_11 : 1 ≤ u_8.toInt ∧ u_8.toInt ≤ 360 := by have h9_ := hu_8; omega
      refine lv_aload_n F.1 F.2.1 dX7_ahead_66 rfl (lv_at hl 0 rfl) ?_
      refine tVv (b := a0) (As := []) (rest := []) F hK hN hO (c_X7_takesBack E ws kp rd m_second ty ik un (0, 18) xt tp sp wrb nu nab iwb G_9 A Z a0 ha0 hG_9 hA hqA) mv_X7_takesBack wd_38_0 ⟨Nat.le_of_ble_eq_true rfl, Nat.le_of_ble_eq_true rfl⟩ ⟨Nat.le_of_ble_eq_true rfl, Nat.le_of_ble_eq_true rfl⟩ hH hS (tRecv hK hH (tyb ha0 (all1 rfl)) clX7) rfl hl.1 (Nat.le_of_ble_eq_true rfl) dX7_ahead_67 (fun H locs hq hS => ?_)
      obtain ⟨g_14, hg_14, hH⟩ := hq
      have hH : TH E (tbM (mD (.inl tp) (.inl sp) (.inl nu) (.inl un) (.inl (0, 18)) (.inl xt) (.inl wrb) (.inl nab) (.inl iwb)) (xD 660 g_14) ws kp (xD 660 A) rd m_second ty ik) H := hH
      have hqg_14 := hg_14.2
      have hBg_14 := okB hg_14.1.1
      have hLg_14 := hg_14.1.2
      exact txV F hS dX7_ahead_70 (⟨g_14, ⟨hg_14.1, hqg_14⟩, hH⟩)
    · skip
      have r_12 : 0 ≤ u_8.toInt ∧ u_8.toInt ≤ 359 := by have h9_ := hu_8; omega
      refine lv_aload_n F.1 F.2.1 dX7_ahead_25 rfl (lv_at hl 0 rfl) ?_
      refine tVv (b := a0) (As := []) (rest := []) F hK hN hO (c_X7_passes E ws kp (xD 660 A) rd ty ik un xt tp sp wrb nu nab iwb G_9 Z a0 ha0 hG_9 hqG_9) mv_X7_passes wd_25_11 ⟨Nat.le_of_ble_eq_true rfl, Nat.le_of_ble_eq_true rfl⟩ ⟨Nat.le_of_ble_eq_true rfl, Nat.le_of_ble_eq_true rfl⟩ hH hS (tRecv hK hH (tyb ha0 (all1 rfl)) clX7) rfl hl.1 (Nat.le_of_ble_eq_true rfl) dX7_ahead_26 (fun H locs hq hS => ?_)
      obtain ⟨g_16, hg_16, hH⟩ := hq
      have hH : TH E (tbM (mD (.inl tp) (.inl sp) (.inl nu) (.inl un) (.inl (0, 18)) (.inl xt) (.inl wrb) (.inl nab) (.inl iwb)) (xD 660 g_16) ws kp (xD 660 A) rd m_second ty ik) H := hH
      have hqg_16 := hg_16.2
      have hBg_16 := okB hg_16.1.1
      have hLg_16 := hg_16.1.2
      refine lv_iconst (v := 0) F.1 F.2.1 dX7_ahead_29 (by decide) ?_
      refine topK (a := 0) (by decide) (fun k_17 hk_17 => ?_)
      refine lv_istore (lv' := [(4, .int k_17), (0, .ref a0), (1, .int a1), (2, .ref a2), (3, .int u_8)]) F.1 F.2.1 dX7_ahead_30 hl (by decide) rfl (fun ls hl => ?_)
      refine wloop (σ := Int32) (fun n9 x9 H locs ls => (14 - x9.toInt + 1).toNat < n9 ∧ (0 ≤ x9.toInt ∧ x9.toInt ≤ 14) ∧ TH E (tbM (mD (.inl tp) (.inl sp) (.inl nu) (.inl un) (.inl (0, 18)) (.inl xt) (.inl wrb) (.inl nab) (.inl iwb)) (xD 660 g_16) ws kp (xD 660 A) rd m_second ty ik) H ∧ va_S (eA E s.heap.size) s.heap H locs ∧ lv_has ls 5 [(0, .ref a0), (1, .int a1), (2, .ref a2), (3, .int u_8), (4, .int x9)]) ?_ (fun x9 H locs ls h => absurd h.1 (Nat.not_lt_zero _)) _ (k_17) ⟨Nat.lt_succ_self _, (wkb (eqb hk_17) rfl rfl), hH, hS, lv_sub hl [1, 2, 3, 4, 0] rfl⟩
      intro n_32 ih_32 u_18 H locs ls ⟨hm_32, hu_18, hH, hS, hl⟩
      have hm_32 : (14 - u_18.toInt + 1).toNat < n_32 + 1 := hm_32
      have hu_18 : (0 ≤ u_18.toInt ∧ u_18.toInt ≤ 14) := hu_18
      have hH : TH E (tbM (mD (.inl tp) (.inl sp) (.inl nu) (.inl un) (.inl (0, 18)) (.inl xt) (.inl wrb) (.inl nab) (.inl iwb)) (xD 660 g_16) ws kp (xD 660 A) rd m_second ty ik) H := hH
      have hl : lv_has ls 5 [(0, .ref a0), (1, .int a1), (2, .ref a2), (3, .int u_8), (4, .int u_18)] := hl
      refine lv_iload F.1 F.2.1 dX7_ahead_32 (lv_at hl 4 rfl) ?_
      refine lv_aload_n F.1 F.2.1 dX7_ahead_34 rfl (lv_at hl 0 rfl) ?_
      refine tVi (b := a0) (As := []) (rest := [.int u_18]) F hK hN hO (c_X7_rights E ws kp (xD 660 A) rd m_second ty ik un (0, 18) xt tp sp wrb nu nab iwb g_16 a0 ha0 ((hg_16.1).1)) mv_X7_rights wd_19_4 ⟨Nat.le_of_ble_eq_true rfl, Nat.le_of_ble_eq_true rfl⟩ ⟨Nat.le_of_ble_eq_true rfl, Nat.le_of_ble_eq_true rfl⟩ hH hS (tRecv hK hH (tyb ha0 (all1 rfl)) clX7) rfl hl.1 (Nat.le_of_ble_eq_true rfl) dX7_ahead_35 (fun z_19 H locs hq hS => ?_)
      obtain ⟨f_20, f_21, hH⟩ := hq
      have hH : TH E (tbM (mD (.inl tp) (.inl sp) (.inl nu) (.inl un) (.inl (0, 18)) (.inl xt) (.inl wrb) (.inl nab) (.inl iwb)) (xD 660 g_16) ws kp (xD 660 A) rd m_second ty ik) H := hH
      refine b_ge (tgt := 60) F dX7_ahead_38 (by decide) (fun c_22 => ?_) (fun c_22 => ?_)
      · skip
        obtain ⟨x_25, ex_25, hx_25⟩ := iincB (c := 1) (lo := 1) (hi := 360) r_12 rfl
        refine lv_iinc (v := x_25) (lv' := [(3, .int x_25), (0, .ref a0), (1, .int a1), (2, .ref a2), (4, .int u_18)]) F.1 F.2.1 dX7_ahead_60 hl (k := 3) rfl ex_25 (by decide) rfl (fun ls hl => ?_)
        refine lv_goto (tgt := 20) F.1 F.2.1 dX7_ahead_63 (by decide) ?_
        exact ih_20 (x_25, g_16) _ _ _ ⟨(show (360 - x_25.toInt + 1).toNat < n_20 from by omega), (wkb hx_25.2 rfl rfl), hg_16.1, (show sQ Z g_16 from hqg_16), hH, hS, lv_sub hl [1, 2, 3, 0] rfl⟩
      · skip
        have r_23 : 0 ≤ u_18.toInt ∧ u_18.toInt ≤ 13 := by have h9_ := hu_18; omega
        have r_24 : 1 ≤ z_19.toInt ∧ z_19.toInt ≤ 14 := by have h9_ := f_20; omega
        refine lv_aload_n F.1 F.2.1 dX7_ahead_41 rfl (lv_at hl 2 rfl) ?_
        refine lv_iload F.1 F.2.1 dX7_ahead_42 (lv_at hl 4 rfl) ?_
        refine lv_dup2_11 F.1 F.2.1 dX7_ahead_44 rfl rfl ?_
        refine tIaldB F hK hH (tyb ha2 (all1 rfl)) (ixb (n := 14) r_23 rfl rfl) dX7_ahead_45 (fun z_26 hz_26 => ?_)
        refine lv_aload_n F.1 F.2.1 dX7_ahead_46 rfl (lv_at hl 0 rfl) ?_
        refine lv_iload F.1 F.2.1 dX7_ahead_47 (lv_at hl 4 rfl) ?_
        refine tVi (b := a0) (As := [.int u_18]) (rest := [.int z_26, .int u_18, .ref a2]) F hK hN hO (c_X7_allOf E (xD 660 g_16) ws kp (xD 660 A) rd ty ik un (0, 18) xt tp sp wrb nu nab iwb a0 u_18 ha0 r_23) mv_X7_allOf wd_29_22 ⟨Nat.le_of_ble_eq_true rfl, Nat.le_of_ble_eq_true rfl⟩ ⟨Nat.le_of_ble_eq_true rfl, Nat.le_of_ble_eq_true rfl⟩ hH hS (tRecv hK hH (tyb ha0 (all1 rfl)) clX7) rfl hl.1 (Nat.le_of_ble_eq_true rfl) dX7_ahead_49 (fun z_27 H locs hq hS => ?_)
        obtain ⟨f_28, hH⟩ := hq
        have hH : TH E (tbM (mD (.inl tp) (.inl sp) (.inl nu) (.inl un) (.inl (0, 18)) (.inl xt) (.inl wrb) (.inl nab) (.inl iwb)) (xD 660 g_16) ws kp (xD 660 A) rd m_second ty ik) H := hH
        refine lv_iadd F.1 F.2.1 dX7_ahead_52 ?_
        refine topF (fun z_29 => ?_)
        refine tIastB F hK hH hS (tyb ha2 (all1 rfl)) (ixb (n := 14) r_23 rfl rfl) (i32b _) dX7_ahead_53 (fun H locs hH hS => ?_)
        obtain ⟨x_30, ex_30, hx_30⟩ := iincB (c := 1) (lo := 1) (hi := 14) r_23 rfl
        refine lv_iinc (v := x_30) (lv' := [(4, .int x_30), (0, .ref a0), (1, .int a1), (2, .ref a2), (3, .int u_8)]) F.1 F.2.1 dX7_ahead_54 hl (k := 4) rfl ex_30 (by decide) rfl (fun ls hl => ?_)
        refine lv_goto (tgt := 32) F.1 F.2.1 dX7_ahead_57 (by decide) ?_
        exact ih_32 (x_30) _ _ _ ⟨(show (14 - x_30.toInt + 1).toNat < n_32 from by omega), (wkb hx_30.2 rfl rfl), hH, hS, lv_sub hl [1, 2, 3, 4, 0] rfl⟩
  · skip
    have r_6 : 0 ≤ u_2.toInt ∧ u_2.toInt ≤ 13 := by have h9_ := hu_2; omega
    refine lv_aload_n F.1 F.2.1 dX7_ahead_8 rfl (lv_at hl 2 rfl) ?_
    refine lv_iload_n F.1 F.2.1 dX7_ahead_9 rfl (lv_at hl 3 rfl) ?_
    refine lv_iconst (v := 0) F.1 F.2.1 dX7_ahead_10 (by decide) ?_
    refine topK (a := 0) (by decide) (fun k_31 hk_31 => ?_)
    refine tIastB F hK hH hS (tyb ha2 (all1 rfl)) (ixb (n := 14) r_6 rfl rfl) (wkb (eqb hk_31) rfl rfl) dX7_ahead_11 (fun H locs hH hS => ?_)
    obtain ⟨x_32, ex_32, hx_32⟩ := iincB (c := 1) (lo := 1) (hi := 14) r_6 rfl
    refine lv_iinc (v := x_32) (lv' := [(3, .int x_32), (0, .ref a0), (1, .int a1), (2, .ref a2)]) F.1 F.2.1 dX7_ahead_12 hl (k := 3) rfl ex_32 (by decide) rfl (fun ls hl => ?_)
    refine lv_goto (tgt := 2) F.1 F.2.1 dX7_ahead_15 (by decide) ?_
    exact ih_2 (x_32) _ _ _ ⟨(show (14 - x_32.toInt + 1).toNat < n_2 from by omega), (wkb hx_32.2 rfl rfl), hH, hS, lv_sub hl [1, 2, 3, 0] rfl⟩
set_option maxHeartbeats 4000000 in
set_option maxRecDepth 100000 in
theorem c_X7_stays (E : Ev) (ws : TD) (kp : TD) (rd : TD) (ty : TD) (ik : TD) (un : Int × Int) (xt : Int × Int) (tp : Int × Int) (sp : Int × Int) (wrb : Int × Int) (nu : Int × Int) (nab : Int × Int) (iwb : Int × Int) (X0 : Nat → Int32) (A : Nat → Int32) (Z : Nat → Int32) (a0 : Nat) (ha0 : eT E a0 ∈ [24]) (hX0 : okR X0) (hA : okR A) (hqX0 : sQ Z X0) : TcV E yX7_stays cX7_stays 1 ({ frames := 10, cells := 0, slots := 0, locals := 246 }) [.ref a0] (fun H => TH E (tbM (mD (.inl tp) (.inl sp) (.inl nu) (.inl un) (.inl (0, 18)) (.inl xt) (.inl wrb) (.inl nab) (.inl iwb)) (xD 660 X0) ws kp (xD 660 A) rd m_second ty ik) H) (fun H => ∃ X2 : Nat → Int32, (okR X2 ∧ sQ Z X2) ∧ ∃ A2 : Nat → Int32, (okR A2) ∧ TH E (tbM (mD (.inl tp) (.inl sp) (.inl nu) (.inl un) (.inl (0, 18)) (.inl xt) (.inl wrb) (.inl nab) (.inl iwb)) (xD 660 X2) ws kp (xD 660 A2) rd m_second ty ik) H) := by
  refine teV (by decide) (Nat.le_of_ble_eq_true rfl) ?_
  intro p_ ev_ s mi_ below_ meth cd_ ls F hK hN hO hH hS hl
  have hH : TH E (tbM (mD (.inl tp) (.inl sp) (.inl nu) (.inl un) (.inl (0, 18)) (.inl xt) (.inl wrb) (.inl nab) (.inl iwb)) (xD 660 X0) ws kp (xD 660 A) rd m_second ty ik) s.heap := hH
  have hl : lv_has ls 1 [(0, .ref a0)] := hl
  have hBX0 := okB hX0.1
  have hLX0 := hX0.2
  have hBA := okB hA.1
  have hLA := hA.2
  refine lv_aload_n F.1 F.2.1 dX7_stays_0 rfl (lv_at hl 0 rfl) ?_
  refine tVv (b := a0) (As := []) (rest := []) F hK hN hO (c_X7_putsAside E ws kp rd m_second ty ik un (0, 18) xt tp sp wrb nu nab iwb X0 A Z a0 ha0 hX0 hqX0) mv_X7_putsAside wd_37_16 ⟨Nat.le_of_ble_eq_true rfl, Nat.le_of_ble_eq_true rfl⟩ ⟨Nat.le_of_ble_eq_true rfl, Nat.le_of_ble_eq_true rfl⟩ hH hS (tRecv hK hH (tyb ha0 (all1 rfl)) clX7) rfl hl.1 (Nat.le_of_ble_eq_true rfl) dX7_stays_1 (fun H locs hq hS => ?_)
  obtain ⟨g_2, hg_2, hH⟩ := hq
  have hH : TH E (tbM (mD (.inl tp) (.inl sp) (.inl nu) (.inl un) (.inl (0, 18)) (.inl xt) (.inl wrb) (.inl nab) (.inl iwb)) (xD 660 X0) ws kp (xD 660 g_2) rd m_second ty ik) H := hH
  have hqg_2 := hg_2.2
  have hBg_2 := okB hg_2.1.1
  have hLg_2 := hg_2.1.2
  refine lv_aload_n F.1 F.2.1 dX7_stays_4 rfl (lv_at hl 0 rfl) ?_
  refine lv_sipush (v := 360) F.1 F.2.1 dX7_stays_5 (by decide) ?_
  refine topK (a := 360) (by decide) (fun k_3 hk_3 => ?_)
  refine lv_aload_n F.1 F.2.1 dX7_stays_8 rfl (lv_at hl 0 rfl) ?_
  refine tGetR (j := 27) F hK hH (tyb ha0 (all1 rfl)) rfl (all1 rfl) clX7 (by decide) wd_7_2 dX7_stays_9 (fun q_4 hq_4 _ => ?_)
  refine tVv (b := a0) (As := [.int k_3, .ref q_4]) (rest := []) F hK hN hO (c_X7_ahead_n E ws kp rd ty ik un xt tp sp wrb nu nab iwb X0 g_2 Z a0 k_3 q_4 ha0 (wkb (eqb hk_3) rfl rfl) hq_4 hX0 hg_2.1 hqg_2 hqX0) mv_X7_ahead wd_37_20 ⟨Nat.le_of_ble_eq_true rfl, Nat.le_of_ble_eq_true rfl⟩ ⟨Nat.le_of_ble_eq_true rfl, Nat.le_of_ble_eq_true rfl⟩ hH hS (tRecv hK hH (tyb ha0 (all1 rfl)) clX7) rfl hl.1 (Nat.le_of_ble_eq_true rfl) dX7_stays_12 (fun H locs hq hS => ?_)
  obtain ⟨g_6, hg_6, hH⟩ := hq
  have hH : TH E (tbM (mD (.inl tp) (.inl sp) (.inl nu) (.inl un) (.inl (0, 18)) (.inl xt) (.inl wrb) (.inl nab) (.inl iwb)) (xD 660 g_6) ws kp (xD 660 g_2) rd m_second ty ik) H := hH
  have hqg_6 := hg_6.2
  have hBg_6 := okB hg_6.1.1
  have hLg_6 := hg_6.1.2
  exact txV F hS dX7_stays_15 (⟨g_6, ⟨hg_6.1, hqg_6⟩, g_2, hg_2.1, hH⟩)
set_option maxHeartbeats 4000000 in
set_option maxRecDepth 100000 in
theorem c_X7_moves (E : Ev) (ws : TD) (kp : TD) (rd : TD) (ty : TD) (ik : TD) (un : Int × Int) (xt : Int × Int) (tp : Int × Int) (sp : Int × Int) (wrb : Int × Int) (nu : Int × Int) (nab : Int × Int) (iwb : Int × Int) (X0 : Nat → Int32) (A : Nat → Int32) (Z : Nat → Int32) (a0 : Nat) (a1 : Int32) (a2 : Int32) (ha0 : eT E a0 ∈ [24]) (ha1 : 0 ≤ a1.toInt ∧ a1.toInt ≤ 13) (ha2 : 0 ≤ a2.toInt ∧ a2.toInt ≤ 11) (hX0 : okR X0) (hA : okR A) (hqX0 : sQ Z X0) : TcV E yX7_moves cX7_moves 3 ({ frames := 10, cells := 0, slots := 0, locals := 246 }) [.ref a0, .int a1, .int a2] (fun H => TH E (tbM (mD (.inl tp) (.inl sp) (.inl nu) (.inl un) (.inl (0, 18)) (.inl xt) (.inl wrb) (.inl nab) (.inl iwb)) (xD 660 X0) ws kp (xD 660 A) rd m_second ty ik) H) (fun H => ∃ X2 : Nat → Int32, (okR X2 ∧ sQ Z X2) ∧ ∃ A2 : Nat → Int32, (okR A2) ∧ TH E (tbM (mD (.inl tp) (.inl sp) (.inl nu) (.inl un) (.inl (0, 18)) (.inl xt) (.inl wrb) (.inl nab) (.inl iwb)) (xD 660 X2) ws kp (xD 660 A2) rd m_second ty ik) H) := by
  refine teV (by decide) (Nat.le_of_ble_eq_true rfl) ?_
  intro p_ ev_ s mi_ below_ meth cd_ ls F hK hN hO hH hS hl
  have hH : TH E (tbM (mD (.inl tp) (.inl sp) (.inl nu) (.inl un) (.inl (0, 18)) (.inl xt) (.inl wrb) (.inl nab) (.inl iwb)) (xD 660 X0) ws kp (xD 660 A) rd m_second ty ik) s.heap := hH
  have hl : lv_has ls 3 [(0, .ref a0), (1, .int a1), (2, .int a2)] := hl
  have hBX0 := okB hX0.1
  have hLX0 := hX0.2
  have hBA := okB hA.1
  have hLA := hA.2
  refine lv_aload_n F.1 F.2.1 dX7_moves_0 rfl (lv_at hl 0 rfl) ?_
  refine tVv (b := a0) (As := []) (rest := []) F hK hN hO (c_X7_putsAside E ws kp rd m_second ty ik un (0, 18) xt tp sp wrb nu nab iwb X0 A Z a0 ha0 hX0 hqX0) mv_X7_putsAside wd_37_16 ⟨Nat.le_of_ble_eq_true rfl, Nat.le_of_ble_eq_true rfl⟩ ⟨Nat.le_of_ble_eq_true rfl, Nat.le_of_ble_eq_true rfl⟩ hH hS (tRecv hK hH (tyb ha0 (all1 rfl)) clX7) rfl hl.1 (Nat.le_of_ble_eq_true rfl) dX7_moves_1 (fun H locs hq hS => ?_)
  obtain ⟨g_2, hg_2, hH⟩ := hq
  have hH : TH E (tbM (mD (.inl tp) (.inl sp) (.inl nu) (.inl un) (.inl (0, 18)) (.inl xt) (.inl wrb) (.inl nab) (.inl iwb)) (xD 660 X0) ws kp (xD 660 g_2) rd m_second ty ik) H := hH
  have hqg_2 := hg_2.2
  have hBg_2 := okB hg_2.1.1
  have hLg_2 := hg_2.1.2
  refine lv_aload_n F.1 F.2.1 dX7_moves_4 rfl (lv_at hl 0 rfl) ?_
  refine tGetR (j := 0) F hK hH (tyb ha0 (all1 rfl)) rfl (all1 rfl) clX7 (by decide) wd_6_5 dX7_moves_5 (fun q_3 hq_3 _ => ?_)
  refine lv_bipush (v := 78) F.1 F.2.1 dX7_moves_8 (by decide) ?_
  refine topK (a := 78) (by decide) (fun k_4 hk_4 => ?_)
  refine lv_bipush (v := 13) F.1 F.2.1 dX7_moves_10 (by decide) ?_
  refine topK (a := 13) (by decide) (fun k_5 hk_5 => ?_)
  refine lv_iload_n F.1 F.2.1 dX7_moves_12 rfl (lv_at hl 1 rfl) ?_
  refine tMul (lo := 0) (hi := 169) F dX7_moves_13 (eqb hk_5) ha1 rfl (fun z_6 hz_6 => ?_)
  have mz_6 : z_6.toInt = 13 * a1.toInt := by rw [hz_6.1, hk_5]
  refine tAdd (lo := 78) (hi := 247) F dX7_moves_14 (eqb hk_4) hz_6.2 rfl (fun z_7 hz_7 => ?_)
  refine lv_iconst (v := 0) F.1 F.2.1 dX7_moves_15 (by decide) ?_
  refine topK (a := 0) (by decide) (fun k_8 hk_8 => ?_)
  refine tAdd (lo := 78) (hi := 247) F dX7_moves_16 hz_7.2 (eqb hk_8) rfl (fun z_9 hz_9 => ?_)
  refine lv_iload_n F.1 F.2.1 dX7_moves_17 rfl (lv_at hl 2 rfl) ?_
  refine tIastX (t := 25) F hK hH hS (List.mem_singleton.mp hq_3) (by decide) rfl (ixb (n := 660) hz_9.2 rfl rfl) dX7_moves_18 (fun G_10 eG_10 H locs hH hS => ?_)
  have hH : TH E (tbM (mD (.inl tp) (.inl sp) (.inl nu) (.inl un) (.inl (0, 18)) (.inl xt) (.inl wrb) (.inl nab) (.inl iwb)) (xD 660 G_10) ws kp (xD 660 g_2) rd m_second ty ik) H := hH
  have hG_10 : okR G_10 := (okR.st hX0 eG_10 (by omega) (by omega) (by omega) (phiI (by omega) (by omega) (by omega) (by omega) (by omega) (by omega) (by omega) (by omega) (by omega) (by omega) (by omega) (by omega) (by omega) (by omega) (by omega) (by omega) (by omega) (by omega)))
  have hBG_10 := okB hG_10.1
  have hLG_10 := hG_10.2
  have hqG_10 : sQ Z G_10 := sQ.st hqX0 eG_10 (by omega)
  refine lv_aload_n F.1 F.2.1 dX7_moves_19 rfl (lv_at hl 0 rfl) ?_
  refine lv_sipush (v := 360) F.1 F.2.1 dX7_moves_20 (by decide) ?_
  refine topK (a := 360) (by decide) (fun k_11 hk_11 => ?_)
  refine lv_aload_n F.1 F.2.1 dX7_moves_23 rfl (lv_at hl 0 rfl) ?_
  refine tGetR (j := 28) F hK hH (tyb ha0 (all1 rfl)) rfl (all1 rfl) clX7 (by decide) wd_7_3 dX7_moves_24 (fun q_12 hq_12 _ => ?_)
  refine tVv (b := a0) (As := [.int k_11, .ref q_12]) (rest := []) F hK hN hO (c_X7_ahead_t E ws kp rd ty ik un xt tp sp wrb nu nab iwb G_10 g_2 Z a0 k_11 q_12 ha0 (wkb (eqb hk_11) rfl rfl) hq_12 hG_10 hg_2.1 hqg_2 hqG_10) mv_X7_ahead wd_37_20 ⟨Nat.le_of_ble_eq_true rfl, Nat.le_of_ble_eq_true rfl⟩ ⟨Nat.le_of_ble_eq_true rfl, Nat.le_of_ble_eq_true rfl⟩ hH hS (tRecv hK hH (tyb ha0 (all1 rfl)) clX7) rfl hl.1 (Nat.le_of_ble_eq_true rfl) dX7_moves_27 (fun H locs hq hS => ?_)
  obtain ⟨g_14, hg_14, hH⟩ := hq
  have hH : TH E (tbM (mD (.inl tp) (.inl sp) (.inl nu) (.inl un) (.inl (0, 18)) (.inl xt) (.inl wrb) (.inl nab) (.inl iwb)) (xD 660 g_14) ws kp (xD 660 g_2) rd m_second ty ik) H := hH
  have hqg_14 := hg_14.2
  have hBg_14 := okB hg_14.1.1
  have hLg_14 := hg_14.1.2
  exact txV F hS dX7_moves_30 (⟨g_14, ⟨hg_14.1, hqg_14⟩, g_2, hg_2.1, hH⟩)
set_option maxHeartbeats 4000000 in
set_option maxRecDepth 100000 in
theorem c_X7_mayMove (E : Ev) (ws : TD) (kp : TD) (rd : TD) (ty : TD) (ik : TD) (un : Int × Int) (xt : Int × Int) (tp : Int × Int) (sp : Int × Int) (wrb : Int × Int) (nu : Int × Int) (nab : Int × Int) (iwb : Int × Int) (X0 : Nat → Int32) (A : Nat → Int32) (Z : Nat → Int32) (a0 : Nat) (a1 : Int32) (a2 : Int32) (ha0 : eT E a0 ∈ [24]) (ha1 : 0 ≤ a1.toInt ∧ a1.toInt ≤ 13) (ha2 : 0 ≤ a2.toInt ∧ a2.toInt ≤ 11) (hX0 : okR X0) (hA : okR A) (hqX0 : sQ Z X0) : TcI E yX7_mayMove cX7_mayMove 4 .boolean ({ frames := 11, cells := 0, slots := 0, locals := 268 }) [.ref a0, .int a1, .int a2] (fun H => TH E (tbM (mD (.inl tp) (.inl sp) (.inl nu) (.inl un) (.inl (0, 18)) (.inl xt) (.inl wrb) (.inl nab) (.inl iwb)) (xD 660 X0) ws kp (xD 660 A) rd m_second ty ik) H) (fun v H => ∃ X2 : Nat → Int32, (okR X2 ∧ sQ Z X2) ∧ ∃ A2 : Nat → Int32, (okR A2) ∧ (0 ≤ v.toInt ∧ v.toInt ≤ 1) ∧ TH E (tbM (mD (.inl tp) (.inl sp) (.inl nu) (.inl un) (.inl (0, 18)) (.inl xt) (.inl wrb) (.inl nab) (.inl iwb)) (xD 660 X2) ws kp (xD 660 A2) rd m_second ty ik) H) := by
  refine teI (by decide) (Nat.le_of_ble_eq_true rfl) ?_
  intro p_ ev_ s mi_ below_ meth cd_ ls F hK hN hO hH hS hl
  have hH : TH E (tbM (mD (.inl tp) (.inl sp) (.inl nu) (.inl un) (.inl (0, 18)) (.inl xt) (.inl wrb) (.inl nab) (.inl iwb)) (xD 660 X0) ws kp (xD 660 A) rd m_second ty ik) s.heap := hH
  have hl : lv_has ls 4 [(0, .ref a0), (1, .int a1), (2, .int a2)] := hl
  have hBX0 := okB hX0.1
  have hLX0 := hX0.2
  have hBA := okB hA.1
  have hLA := hA.2
  refine lv_aload_n F.1 F.2.1 dX7_mayMove_0 rfl (lv_at hl 0 rfl) ?_
  refine lv_iload_n F.1 F.2.1 dX7_mayMove_1 rfl (lv_at hl 1 rfl) ?_
  refine lv_iload_n F.1 F.2.1 dX7_mayMove_2 rfl (lv_at hl 2 rfl) ?_
  refine tVv (b := a0) (As := [.int a1, .int a2]) (rest := []) F hK hN hO (c_X7_moves E ws kp rd ty ik un xt tp sp wrb nu nab iwb X0 A Z a0 a1 a2 ha0 ha1 ha2 hX0 hA hqX0) mv_X7_moves wd_38_8 ⟨Nat.le_of_ble_eq_true rfl, Nat.le_of_ble_eq_true rfl⟩ ⟨Nat.le_of_ble_eq_true rfl, Nat.le_of_ble_eq_true rfl⟩ hH hS (tRecv hK hH (tyb ha0 (all1 rfl)) clX7) rfl hl.1 (Nat.le_of_ble_eq_true rfl) dX7_mayMove_3 (fun H locs hq hS => ?_)
  obtain ⟨g_2, hg_2, g_3, hg_3, hH⟩ := hq
  have hH : TH E (tbM (mD (.inl tp) (.inl sp) (.inl nu) (.inl un) (.inl (0, 18)) (.inl xt) (.inl wrb) (.inl nab) (.inl iwb)) (xD 660 g_2) ws kp (xD 660 g_3) rd m_second ty ik) H := hH
  have hqg_2 := hg_2.2
  have hBg_2 := okB hg_2.1.1
  have hLg_2 := hg_2.1.2
  have hBg_3 := okB hg_3.1
  have hLg_3 := hg_3.2
  refine lv_iconst (v := 0) F.1 F.2.1 dX7_mayMove_6 (by decide) ?_
  refine topK (a := 0) (by decide) (fun k_4 hk_4 => ?_)
  refine lv_istore_n (lv' := [(3, .int k_4), (0, .ref a0), (1, .int a1), (2, .int a2)]) F.1 F.2.1 dX7_mayMove_7 rfl hl (by decide) rfl (fun ls hl => ?_)
  refine wloop (σ := Int32) (fun n9 x9 H locs ls => (14 - x9.toInt + 1).toNat < n9 ∧ (0 ≤ x9.toInt ∧ x9.toInt ≤ 14) ∧ TH E (tbM (mD (.inl tp) (.inl sp) (.inl nu) (.inl un) (.inl (0, 18)) (.inl xt) (.inl wrb) (.inl nab) (.inl iwb)) (xD 660 g_2) ws kp (xD 660 g_3) rd m_second ty ik) H ∧ va_S (eA E s.heap.size) s.heap H locs ∧ lv_has ls 4 [(0, .ref a0), (1, .int a1), (3, .int x9)]) ?_ (fun x9 H locs ls h => absurd h.1 (Nat.not_lt_zero _)) _ (k_4) ⟨Nat.lt_succ_self _, (wkb (eqb hk_4) rfl rfl), hH, hS, lv_sub hl [1, 2, 0] rfl⟩
  intro n_8 ih_8 u_5 H locs ls ⟨hm_8, hu_5, hH, hS, hl⟩
  have hm_8 : (14 - u_5.toInt + 1).toNat < n_8 + 1 := hm_8
  have hu_5 : (0 ≤ u_5.toInt ∧ u_5.toInt ≤ 14) := hu_5
  have hH : TH E (tbM (mD (.inl tp) (.inl sp) (.inl nu) (.inl un) (.inl (0, 18)) (.inl xt) (.inl wrb) (.inl nab) (.inl iwb)) (xD 660 g_2) ws kp (xD 660 g_3) rd m_second ty ik) H := hH
  have hl : lv_has ls 4 [(0, .ref a0), (1, .int a1), (3, .int u_5)] := hl
  refine lv_iload_n F.1 F.2.1 dX7_mayMove_8 rfl (lv_at hl 2 rfl) ?_
  refine lv_aload_n F.1 F.2.1 dX7_mayMove_9 rfl (lv_at hl 0 rfl) ?_
  refine tVi (b := a0) (As := []) (rest := [.int u_5]) F hK hN hO (c_X7_rights E ws kp (xD 660 g_3) rd m_second ty ik un (0, 18) xt tp sp wrb nu nab iwb g_2 a0 ha0 ((hg_2.1).1)) mv_X7_rights wd_19_4 ⟨Nat.le_of_ble_eq_true rfl, Nat.le_of_ble_eq_true rfl⟩ ⟨Nat.le_of_ble_eq_true rfl, Nat.le_of_ble_eq_true rfl⟩ hH hS (tRecv hK hH (tyb ha0 (all1 rfl)) clX7) rfl hl.1 (Nat.le_of_ble_eq_true rfl) dX7_mayMove_10 (fun z_6 H locs hq hS => ?_)
  obtain ⟨f_7, f_8, hH⟩ := hq
  have hH : TH E (tbM (mD (.inl tp) (.inl sp) (.inl nu) (.inl un) (.inl (0, 18)) (.inl xt) (.inl wrb) (.inl nab) (.inl iwb)) (xD 660 g_2) ws kp (xD 660 g_3) rd m_second ty ik) H := hH
  refine b_ge (tgt := 44) F dX7_mayMove_13 (by decide) (fun c_9 => ?_) (fun c_9 => ?_)
  · skip
    refine lv_iconst (v := 1) F.1 F.2.1 dX7_mayMove_44 (by decide) ?_
    refine topK (a := 1) (by decide) (fun k_12 hk_12 => ?_)
    exact txI F hS dX7_mayMove_45 (nar01 (wkb (eqb hk_12) rfl rfl)) (⟨g_2, ⟨hg_2.1, hqg_2⟩, g_3, hg_3, (wkb (eqb hk_12) rfl rfl), hH⟩)
  · skip
    have r_10 : 0 ≤ u_5.toInt ∧ u_5.toInt ≤ 13 := by have h9_ := hu_5; omega
    have r_11 : 1 ≤ z_6.toInt ∧ z_6.toInt ≤ 14 := by have h9_ := f_7; omega
    refine lv_iload_n F.1 F.2.1 dX7_mayMove_16 rfl (lv_at hl 2 rfl) ?_
    refine lv_iload_n F.1 F.2.1 dX7_mayMove_17 rfl (lv_at hl 1 rfl) ?_
    refine b_eq (tgt := 38) F dX7_mayMove_18 (by decide) (fun c_13 => ?_) (fun c_13 => ?_)
    · skip
      obtain ⟨x_14, ex_14, hx_14⟩ := iincB (c := 1) (lo := 1) (hi := 14) r_10 rfl
      refine lv_iinc (v := x_14) (lv' := [(3, .int x_14), (0, .ref a0), (1, .int a1)]) F.1 F.2.1 dX7_mayMove_38 hl (k := 2) rfl ex_14 (by decide) rfl (fun ls hl => ?_)
      refine lv_goto (tgt := 8) F.1 F.2.1 dX7_mayMove_41 (by decide) ?_
      exact ih_8 (x_14) _ _ _ ⟨(show (14 - x_14.toInt + 1).toNat < n_8 from by omega), (wkb hx_14.2 rfl rfl), hH, hS, lv_sub hl [1, 2, 0] rfl⟩
    · skip
      refine lv_aload_n F.1 F.2.1 dX7_mayMove_21 rfl (lv_at hl 0 rfl) ?_
      refine tGetR (j := 28) F hK hH (tyb ha0 (all1 rfl)) rfl (all1 rfl) clX7 (by decide) wd_7_3 dX7_mayMove_22 (fun q_15 hq_15 _ => ?_)
      refine lv_iload_n F.1 F.2.1 dX7_mayMove_25 rfl (lv_at hl 2 rfl) ?_
      refine tIaldB F hK hH (tyb hq_15 (all1 rfl)) (ixb (n := 14) r_10 rfl rfl) dX7_mayMove_26 (fun z_16 hz_16 => ?_)
      refine lv_aload_n F.1 F.2.1 dX7_mayMove_27 rfl (lv_at hl 0 rfl) ?_
      refine tGetR (j := 27) F hK hH (tyb ha0 (all1 rfl)) rfl (all1 rfl) clX7 (by decide) wd_7_2 dX7_mayMove_28 (fun q_17 hq_17 _ => ?_)
      refine lv_iload_n F.1 F.2.1 dX7_mayMove_31 rfl (lv_at hl 2 rfl) ?_
      refine tIaldB F hK hH (tyb hq_17 (all1 rfl)) (ixb (n := 14) r_10 rfl rfl) dX7_mayMove_32 (fun z_18 hz_18 => ?_)
      refine b_ge (tgt := 38) F dX7_mayMove_33 (by decide) (fun c_19 => ?_) (fun c_19 => ?_)
      · skip
        obtain ⟨x_20, ex_20, hx_20⟩ := iincB (c := 1) (lo := 1) (hi := 14) r_10 rfl
        refine lv_iinc (v := x_20) (lv' := [(3, .int x_20), (0, .ref a0), (1, .int a1)]) F.1 F.2.1 dX7_mayMove_38 hl (k := 2) rfl ex_20 (by decide) rfl (fun ls hl => ?_)
        refine lv_goto (tgt := 8) F.1 F.2.1 dX7_mayMove_41 (by decide) ?_
        exact ih_8 (x_20) _ _ _ ⟨(show (14 - x_20.toInt + 1).toNat < n_8 from by omega), (wkb hx_20.2 rfl rfl), hH, hS, lv_sub hl [1, 2, 0] rfl⟩
      · skip
        refine lv_iconst (v := 0) F.1 F.2.1 dX7_mayMove_36 (by decide) ?_
        refine topK (a := 0) (by decide) (fun k_21 hk_21 => ?_)
        exact txI F hS dX7_mayMove_37 (nar01 (wkb (eqb hk_21) rfl rfl)) (⟨g_2, ⟨hg_2.1, hqg_2⟩, g_3, hg_3, (wkb (eqb hk_21) rfl rfl), hH⟩)
set_option maxHeartbeats 4000000 in
set_option maxRecDepth 100000 in
theorem c_X7_isDryBy (E : Ev) (ws : TD) (kp : TD) (rd : TD) (ty : TD) (ik : TD) (un : Int × Int) (xt : Int × Int) (tp : Int × Int) (sp : Int × Int) (wrb : Int × Int) (nu : Int × Int) (nab : Int × Int) (iwb : Int × Int) (X0 : Nat → Int32) (A : Nat → Int32) (Z : Nat → Int32) (a0 : Nat) (a1 : Int32) (ha0 : eT E a0 ∈ [24]) (ha1 : 1 ≤ a1.toInt ∧ a1.toInt ≤ 10) (hX0 : okR X0) (hA : okR A) (hqA : sQ Z A) (hqX0 : sQ Z X0) : TcI E yX7_isDryBy cX7_isDryBy 4 .boolean ({ frames := 9, cells := 0, slots := 0, locals := 222 }) [.ref a0, .int a1] (fun H => TH E (tbM (mD (.inl tp) (.inl sp) (.inl nu) (.inl un) (.inl (0, 18)) (.inl xt) (.inl wrb) (.inl nab) (.inl iwb)) (xD 660 X0) ws kp (xD 660 A) rd m_second ty ik) H) (fun v H => ∃ X2 : Nat → Int32, (okR X2 ∧ sQ Z X2) ∧ (0 ≤ v.toInt ∧ v.toInt ≤ 1) ∧ TH E (tbM (mD (.inl tp) (.inl sp) (.inl nu) (.inl un) (.inl (0, 18)) (.inl xt) (.inl wrb) (.inl nab) (.inl iwb)) (xD 660 X2) ws kp (xD 660 A) rd m_second ty ik) H) := by
  refine teI (by decide) (Nat.le_of_ble_eq_true rfl) ?_
  intro p_ ev_ s mi_ below_ meth cd_ ls F hK hN hO hH hS hl
  have hH : TH E (tbM (mD (.inl tp) (.inl sp) (.inl nu) (.inl un) (.inl (0, 18)) (.inl xt) (.inl wrb) (.inl nab) (.inl iwb)) (xD 660 X0) ws kp (xD 660 A) rd m_second ty ik) s.heap := hH
  have hl : lv_has ls 4 [(0, .ref a0), (1, .int a1)] := hl
  have hBX0 := okB hX0.1
  have hLX0 := hX0.2
  have hBA := okB hA.1
  have hLA := hA.2
  refine lv_iconst (v := 1) F.1 F.2.1 dX7_isDryBy_0 (by decide) ?_
  refine topK (a := 1) (by decide) (fun k_1 hk_1 => ?_)
  refine lv_istore_n (lv' := [(2, .int k_1), (0, .ref a0), (1, .int a1)]) F.1 F.2.1 dX7_isDryBy_1 rfl hl (by decide) rfl (fun ls hl => ?_)
  refine lv_iconst (v := 0) F.1 F.2.1 dX7_isDryBy_2 (by decide) ?_
  refine topK (a := 0) (by decide) (fun k_2 hk_2 => ?_)
  refine lv_istore_n (lv' := [(3, .int k_2), (2, .int k_1), (0, .ref a0), (1, .int a1)]) F.1 F.2.1 dX7_isDryBy_3 rfl hl (by decide) rfl (fun ls hl => ?_)
  refine wloop (σ := Int32 × Int32 × (Nat → Int32)) (fun n9 x9 H locs ls => (10 - x9.2.1.toInt + 1).toNat < n9 ∧ (0 ≤ x9.1.toInt ∧ x9.1.toInt ≤ 1) ∧ (0 ≤ x9.2.1.toInt ∧ x9.2.1.toInt ≤ 10) ∧ (okR x9.2.2) ∧ (sQ Z x9.2.2) ∧ TH E (tbM (mD (.inl tp) (.inl sp) (.inl nu) (.inl un) (.inl (0, 18)) (.inl xt) (.inl wrb) (.inl nab) (.inl iwb)) (xD 660 x9.2.2) ws kp (xD 660 A) rd m_second ty ik) H ∧ va_S (eA E s.heap.size) s.heap H locs ∧ lv_has ls 4 [(0, .ref a0), (1, .int a1), (2, .int x9.1), (3, .int x9.2.1)]) ?_ (fun x9 H locs ls h => absurd h.1 (Nat.not_lt_zero _)) _ (k_1, k_2, X0) ⟨Nat.lt_succ_self _, (wkb (eqb hk_1) rfl rfl), (wkb (eqb hk_2) rfl rfl), hX0, (show sQ Z X0 from hqX0), hH, hS, lv_sub hl [2, 3, 1, 0] rfl⟩
  intro n_4 ih_4 ⟨u_3, u_4, G_5⟩ H locs ls ⟨hm_4, hu_3, hu_4, hG_5, hcr4_0, hH, hS, hl⟩
  have hm_4 : (10 - u_4.toInt + 1).toNat < n_4 + 1 := hm_4
  have hu_3 : (0 ≤ u_3.toInt ∧ u_3.toInt ≤ 1) := hu_3
  have hu_4 : (0 ≤ u_4.toInt ∧ u_4.toInt ≤ 10) := hu_4
  have hG_5 : (okR G_5) := hG_5
  have hcr4_0 : (sQ Z G_5) := hcr4_0
  have hH : TH E (tbM (mD (.inl tp) (.inl sp) (.inl nu) (.inl un) (.inl (0, 18)) (.inl xt) (.inl wrb) (.inl nab) (.inl iwb)) (xD 660 G_5) ws kp (xD 660 A) rd m_second ty ik) H := hH
  have hl : lv_has ls 4 [(0, .ref a0), (1, .int a1), (2, .int u_3), (3, .int u_4)] := hl
  have hBG_5 := okB hG_5.1
  have hLG_5 := hG_5.2
  have hqG_5 := hcr4_0
  refine lv_iload_n F.1 F.2.1 dX7_isDryBy_4 rfl (lv_at hl 3 rfl) ?_
  refine lv_iload_n F.1 F.2.1 dX7_isDryBy_5 rfl (lv_at hl 1 rfl) ?_
  refine b_ge (tgt := 36) F dX7_isDryBy_6 (by decide) (fun c_6 => ?_) (fun c_6 => ?_)
  · skip
    have r_7 : 1 ≤ u_4.toInt ∧ u_4.toInt ≤ 10 := by have h9_ := hu_4; omega
    refine lv_aload_n F.1 F.2.1 dX7_isDryBy_36 rfl (lv_at hl 0 rfl) ?_
    refine tVv (b := a0) (As := []) (rest := []) F hK hN hO (c_X7_takesBack E ws kp rd m_second ty ik un (0, 18) xt tp sp wrb nu nab iwb G_5 A Z a0 ha0 hG_5 hA hqA) mv_X7_takesBack wd_38_0 ⟨Nat.le_of_ble_eq_true rfl, Nat.le_of_ble_eq_true rfl⟩ ⟨Nat.le_of_ble_eq_true rfl, Nat.le_of_ble_eq_true rfl⟩ hH hS (tRecv hK hH (tyb ha0 (all1 rfl)) clX7) rfl hl.1 (Nat.le_of_ble_eq_true rfl) dX7_isDryBy_37 (fun H locs hq hS => ?_)
    obtain ⟨g_10, hg_10, hH⟩ := hq
    have hH : TH E (tbM (mD (.inl tp) (.inl sp) (.inl nu) (.inl un) (.inl (0, 18)) (.inl xt) (.inl wrb) (.inl nab) (.inl iwb)) (xD 660 g_10) ws kp (xD 660 A) rd m_second ty ik) H := hH
    have hqg_10 := hg_10.2
    have hBg_10 := okB hg_10.1.1
    have hLg_10 := hg_10.1.2
    refine lv_iload_n F.1 F.2.1 dX7_isDryBy_40 rfl (lv_at hl 2 rfl) ?_
    exact txI F hS dX7_isDryBy_41 (nar01 hu_3) (⟨g_10, ⟨hg_10.1, hqg_10⟩, hu_3, hH⟩)
  · skip
    have r_8 : 0 ≤ u_4.toInt ∧ u_4.toInt ≤ 9 := by have h9_ := hu_4; omega
    refine lv_iload_n F.1 F.2.1 dX7_isDryBy_9 rfl (lv_at hl 2 rfl) ?_
    refine z_eq (tgt := 36) F dX7_isDryBy_10 (by decide) (fun c_11 => ?_) (fun c_11 => ?_)
    · skip
      have r_12 : 0 ≤ u_3.toInt ∧ u_3.toInt ≤ 0 := by have h9_ := hu_3; omega
      refine lv_aload_n F.1 F.2.1 dX7_isDryBy_36 rfl (lv_at hl 0 rfl) ?_
      refine tVv (b := a0) (As := []) (rest := []) F hK hN hO (c_X7_takesBack E ws kp rd m_second ty ik un (0, 18) xt tp sp wrb nu nab iwb G_5 A Z a0 ha0 hG_5 hA hqA) mv_X7_takesBack wd_38_0 ⟨Nat.le_of_ble_eq_true rfl, Nat.le_of_ble_eq_true rfl⟩ ⟨Nat.le_of_ble_eq_true rfl, Nat.le_of_ble_eq_true rfl⟩ hH hS (tRecv hK hH (tyb ha0 (all1 rfl)) clX7) rfl hl.1 (Nat.le_of_ble_eq_true rfl) dX7_isDryBy_37 (fun H locs hq hS => ?_)
      obtain ⟨g_15, hg_15, hH⟩ := hq
      have hH : TH E (tbM (mD (.inl tp) (.inl sp) (.inl nu) (.inl un) (.inl (0, 18)) (.inl xt) (.inl wrb) (.inl nab) (.inl iwb)) (xD 660 g_15) ws kp (xD 660 A) rd m_second ty ik) H := hH
      have hqg_15 := hg_15.2
      have hBg_15 := okB hg_15.1.1
      have hLg_15 := hg_15.1.2
      refine lv_iload_n F.1 F.2.1 dX7_isDryBy_40 rfl (lv_at hl 2 rfl) ?_
      exact txI F hS dX7_isDryBy_41 (nar01 (wkb r_12 rfl rfl)) (⟨g_15, ⟨hg_15.1, hqg_15⟩, (wkb r_12 rfl rfl), hH⟩)
    · skip
      have r_13 : 1 ≤ u_3.toInt ∧ u_3.toInt ≤ 1 := by have h9_ := hu_3; omega
      refine lv_aload_n F.1 F.2.1 dX7_isDryBy_13 rfl (lv_at hl 0 rfl) ?_
      refine tVv (b := a0) (As := []) (rest := []) F hK hN hO (c_X7_passes E ws kp (xD 660 A) rd ty ik un xt tp sp wrb nu nab iwb G_5 Z a0 ha0 hG_5 hqG_5) mv_X7_passes wd_25_11 ⟨Nat.le_of_ble_eq_true rfl, Nat.le_of_ble_eq_true rfl⟩ ⟨Nat.le_of_ble_eq_true rfl, Nat.le_of_ble_eq_true rfl⟩ hH hS (tRecv hK hH (tyb ha0 (all1 rfl)) clX7) rfl hl.1 (Nat.le_of_ble_eq_true rfl) dX7_isDryBy_14 (fun H locs hq hS => ?_)
      obtain ⟨g_17, hg_17, hH⟩ := hq
      have hH : TH E (tbM (mD (.inl tp) (.inl sp) (.inl nu) (.inl un) (.inl (0, 18)) (.inl xt) (.inl wrb) (.inl nab) (.inl iwb)) (xD 660 g_17) ws kp (xD 660 A) rd m_second ty ik) H := hH
      have hqg_17 := hg_17.2
      have hBg_17 := okB hg_17.1.1
      have hLg_17 := hg_17.1.2
      refine lv_aload_n F.1 F.2.1 dX7_isDryBy_17 rfl (lv_at hl 0 rfl) ?_
      refine tGetI (j := 26) F hK hH (tyb ha0 (all1 rfl)) rfl clX7 (by decide) wd_29_21 dX7_isDryBy_18 (fun z_18 hz_18 => ?_)
      refine z_ne (tgt := 28) F dX7_isDryBy_21 (by decide) (fun c_19 => ?_) (fun c_19 => ?_)
      · skip
        have r_20 : 1 ≤ z_18.toInt ∧ z_18.toInt ≤ 1 := by have h9_ := hz_18; omega
        refine lv_iconst (v := 0) F.1 F.2.1 dX7_isDryBy_28 (by decide) ?_
        refine topK (a := 0) (by decide) (fun k_22 hk_22 => ?_)
        refine lv_istore_n (lv' := [(2, .int k_22), (0, .ref a0), (1, .int a1), (3, .int u_4)]) F.1 F.2.1 dX7_isDryBy_29 rfl hl (by decide) rfl (fun ls hl => ?_)
        obtain ⟨x_23, ex_23, hx_23⟩ := iincB (c := 1) (lo := 1) (hi := 10) r_8 rfl
        refine lv_iinc (v := x_23) (lv' := [(3, .int x_23), (2, .int k_22), (0, .ref a0), (1, .int a1)]) F.1 F.2.1 dX7_isDryBy_30 hl (k := 3) rfl ex_23 (by decide) rfl (fun ls hl => ?_)
        refine lv_goto (tgt := 4) F.1 F.2.1 dX7_isDryBy_33 (by decide) ?_
        exact ih_4 (k_22, x_23, g_17) _ _ _ ⟨(show (10 - x_23.toInt + 1).toNat < n_4 from by omega), (wkb (eqb hk_22) rfl rfl), (wkb hx_23.2 rfl rfl), hg_17.1, (show sQ Z g_17 from hqg_17), hH, hS, lv_sub hl [2, 3, 1, 0] rfl⟩
      · skip
        have r_21 : 0 ≤ z_18.toInt ∧ z_18.toInt ≤ 0 := by have h9_ := hz_18; omega
        refine lv_iconst (v := 1) F.1 F.2.1 dX7_isDryBy_24 (by decide) ?_
        refine topK (a := 1) (by decide) (fun k_24 hk_24 => ?_)
        refine lv_goto (tgt := 29) F.1 F.2.1 dX7_isDryBy_25 (by decide) ?_
        refine lv_istore_n (lv' := [(2, .int k_24), (0, .ref a0), (1, .int a1), (3, .int u_4)]) F.1 F.2.1 dX7_isDryBy_29 rfl hl (by decide) rfl (fun ls hl => ?_)
        obtain ⟨x_25, ex_25, hx_25⟩ := iincB (c := 1) (lo := 1) (hi := 10) r_8 rfl
        refine lv_iinc (v := x_25) (lv' := [(3, .int x_25), (2, .int k_24), (0, .ref a0), (1, .int a1)]) F.1 F.2.1 dX7_isDryBy_30 hl (k := 3) rfl ex_25 (by decide) rfl (fun ls hl => ?_)
        refine lv_goto (tgt := 4) F.1 F.2.1 dX7_isDryBy_33 (by decide) ?_
        exact ih_4 (k_24, x_25, g_17) _ _ _ ⟨(show (10 - x_25.toInt + 1).toNat < n_4 from by omega), (wkb (eqb hk_24) rfl rfl), (wkb hx_25.2 rfl rfl), hg_17.1, (show sQ Z g_17 from hqg_17), hH, hS, lv_sub hl [2, 3, 1, 0] rfl⟩
set_option maxHeartbeats 4000000 in
set_option maxRecDepth 100000 in
theorem c_X7_swaps (E : Ev) (ws : TD) (kp : TD) (as : TD) (rd : TD) (sc : TD) (ty : TD) (ik : TD) (un : Int × Int) (tk : Int × Int) (xt : Int × Int) (tp : Int × Int) (sp : Int × Int) (wrb : Int × Int) (nu : Int × Int) (nab : Int × Int) (iwb : Int × Int) (X0 : Nat → Int32) (Z : Nat → Int32) (a0 : Nat) (a1 : Int32) (a2 : Int32) (ha0 : eT E a0 ∈ [24]) (ha1 : 0 ≤ a1.toInt ∧ a1.toInt ≤ 13) (ha2 : 0 ≤ a2.toInt ∧ a2.toInt ≤ 13) (hX0 : okR X0) (hqX0 : sQ Z X0) : TcV E yX7_swaps cX7_swaps 4 ({ frames := 2, cells := 0, slots := 0, locals := 62 }) [.ref a0, .int a1, .int a2] (fun H => TH E (tbM (mD (.inl tp) (.inl sp) (.inl nu) (.inl un) (.inl tk) (.inl xt) (.inl wrb) (.inl nab) (.inl iwb)) (xD 660 X0) ws kp as rd sc ty ik) H) (fun H => ∃ X2 : Nat → Int32, (okR X2 ∧ sQ Z X2) ∧ TH E (tbM (mD (.inl tp) (.inl sp) (.inl nu) (.inl un) (.inl tk) (.inl xt) (.inl wrb) (.inl nab) (.inl iwb)) (xD 660 X2) ws kp as rd sc ty ik) H) := by
  refine teV (by decide) (Nat.le_of_ble_eq_true rfl) ?_
  intro p_ ev_ s mi_ below_ meth cd_ ls F hK hN hO hH hS hl
  have hH : TH E (tbM (mD (.inl tp) (.inl sp) (.inl nu) (.inl un) (.inl tk) (.inl xt) (.inl wrb) (.inl nab) (.inl iwb)) (xD 660 X0) ws kp as rd sc ty ik) s.heap := hH
  have hl : lv_has ls 4 [(0, .ref a0), (1, .int a1), (2, .int a2)] := hl
  have hBX0 := okB hX0.1
  have hLX0 := hX0.2
  refine lv_aload_n F.1 F.2.1 dX7_swaps_0 rfl (lv_at hl 0 rfl) ?_
  refine lv_iload_n F.1 F.2.1 dX7_swaps_1 rfl (lv_at hl 1 rfl) ?_
  refine lv_iconst (v := 4) F.1 F.2.1 dX7_swaps_2 (by decide) ?_
  refine topK (a := 4) (by decide) (fun k_1 hk_1 => ?_)
  refine tVi (b := a0) (As := [.int a1, .int k_1]) (rest := []) F hK hN hO (c_X7_of_4 E ws kp as rd sc ty ik un tk xt tp sp wrb nu nab iwb X0 a0 a1 k_1 ha0 ha1 (eqb hk_1) ((hX0).1)) mv_X7_of wd_26_20 ⟨Nat.le_of_ble_eq_true rfl, Nat.le_of_ble_eq_true rfl⟩ ⟨Nat.le_of_ble_eq_true rfl, Nat.le_of_ble_eq_true rfl⟩ hH hS (tRecv hK hH (tyb ha0 (all1 rfl)) clX7) rfl hl.1 (Nat.le_of_ble_eq_true rfl) dX7_swaps_3 (fun z_2 H locs hq hS => ?_)
  obtain ⟨f_3, f_4, hH⟩ := hq
  have hH : TH E (tbM (mD (.inl tp) (.inl sp) (.inl nu) (.inl un) (.inl tk) (.inl xt) (.inl wrb) (.inl nab) (.inl iwb)) (xD 660 X0) ws kp as rd sc ty ik) H := hH
  refine lv_istore_n (lv' := [(3, .int z_2), (0, .ref a0), (1, .int a1), (2, .int a2)]) F.1 F.2.1 dX7_swaps_6 rfl hl (by decide) rfl (fun ls hl => ?_)
  refine lv_aload_n F.1 F.2.1 dX7_swaps_7 rfl (lv_at hl 1 rfl) ?_
  refine tGetR (j := 0) F hK hH (tyb ha0 (all1 rfl)) rfl (all1 rfl) clX7 (by decide) wd_6_5 dX7_swaps_8 (fun q_5 hq_5 _ => ?_)
  refine lv_bipush (v := 78) F.1 F.2.1 dX7_swaps_11 (by decide) ?_
  refine topK (a := 78) (by decide) (fun k_6 hk_6 => ?_)
  refine lv_bipush (v := 13) F.1 F.2.1 dX7_swaps_13 (by decide) ?_
  refine topK (a := 13) (by decide) (fun k_7 hk_7 => ?_)
  refine lv_iload_n F.1 F.2.1 dX7_swaps_15 rfl (lv_at hl 2 rfl) ?_
  refine tMul (lo := 0) (hi := 169) F dX7_swaps_16 (eqb hk_7) ha1 rfl (fun z_8 hz_8 => ?_)
  have mz_8 : z_8.toInt = 13 * a1.toInt := by rw [hz_8.1, hk_7]
  refine tAdd (lo := 78) (hi := 247) F dX7_swaps_17 (eqb hk_6) hz_8.2 rfl (fun z_9 hz_9 => ?_)
  refine lv_iconst (v := 4) F.1 F.2.1 dX7_swaps_18 (by decide) ?_
  refine topK (a := 4) (by decide) (fun k_10 hk_10 => ?_)
  refine tAdd (lo := 82) (hi := 251) F dX7_swaps_19 hz_9.2 (eqb hk_10) rfl (fun z_11 hz_11 => ?_)
  refine lv_aload_n F.1 F.2.1 dX7_swaps_20 rfl (lv_at hl 1 rfl) ?_
  refine lv_iload_n F.1 F.2.1 dX7_swaps_21 rfl (lv_at hl 3 rfl) ?_
  refine lv_iconst (v := 4) F.1 F.2.1 dX7_swaps_22 (by decide) ?_
  refine topK (a := 4) (by decide) (fun k_12 hk_12 => ?_)
  refine tVi (b := a0) (As := [.int a2, .int k_12]) (rest := [.int z_11, .ref q_5]) F hK hN hO (c_X7_of_4 E ws kp as rd sc ty ik un tk xt tp sp wrb nu nab iwb X0 a0 a2 k_12 ha0 ha2 (eqb hk_12) ((hX0).1)) mv_X7_of wd_26_20 ⟨Nat.le_of_ble_eq_true rfl, Nat.le_of_ble_eq_true rfl⟩ ⟨Nat.le_of_ble_eq_true rfl, Nat.le_of_ble_eq_true rfl⟩ hH hS (tRecv hK hH (tyb ha0 (all1 rfl)) clX7) rfl hl.1 (Nat.le_of_ble_eq_true rfl) dX7_swaps_23 (fun z_13 H locs hq hS => ?_)
  obtain ⟨f_14, f_15, hH⟩ := hq
  have hH : TH E (tbM (mD (.inl tp) (.inl sp) (.inl nu) (.inl un) (.inl tk) (.inl xt) (.inl wrb) (.inl nab) (.inl iwb)) (xD 660 X0) ws kp as rd sc ty ik) H := hH
  refine tIastX (t := 25) F hK hH hS (List.mem_singleton.mp hq_5) (by decide) rfl (ixb (n := 660) hz_11.2 rfl rfl) dX7_swaps_26 (fun G_16 eG_16 H locs hH hS => ?_)
  have hH : TH E (tbM (mD (.inl tp) (.inl sp) (.inl nu) (.inl un) (.inl tk) (.inl xt) (.inl wrb) (.inl nab) (.inl iwb)) (xD 660 G_16) ws kp as rd sc ty ik) H := hH
  have hG_16 : okR G_16 := (okR.st hX0 eG_16 (by omega) (by omega) (by omega) (phiI (by omega) (by omega) (by omega) (by omega) (by omega) (by omega) (by omega) (by omega) (by omega) (by omega) (by omega) (by omega) (by omega) (by omega) (by omega) (by omega) (by omega) (by omega)))
  have hBG_16 := okB hG_16.1
  have hLG_16 := hG_16.2
  have hqG_16 : sQ Z G_16 := sQ.st hqX0 eG_16 (by omega)
  refine lv_aload_n F.1 F.2.1 dX7_swaps_27 rfl (lv_at hl 1 rfl) ?_
  refine tGetR (j := 0) F hK hH (tyb ha0 (all1 rfl)) rfl (all1 rfl) clX7 (by decide) wd_6_5 dX7_swaps_28 (fun q_17 hq_17 _ => ?_)
  refine lv_bipush (v := 78) F.1 F.2.1 dX7_swaps_31 (by decide) ?_
  refine topK (a := 78) (by decide) (fun k_18 hk_18 => ?_)
  refine lv_bipush (v := 13) F.1 F.2.1 dX7_swaps_33 (by decide) ?_
  refine topK (a := 13) (by decide) (fun k_19 hk_19 => ?_)
  refine lv_iload_n F.1 F.2.1 dX7_swaps_35 rfl (lv_at hl 3 rfl) ?_
  refine tMul (lo := 0) (hi := 169) F dX7_swaps_36 (eqb hk_19) ha2 rfl (fun z_20 hz_20 => ?_)
  have mz_20 : z_20.toInt = 13 * a2.toInt := by rw [hz_20.1, hk_19]
  refine tAdd (lo := 78) (hi := 247) F dX7_swaps_37 (eqb hk_18) hz_20.2 rfl (fun z_21 hz_21 => ?_)
  refine lv_iconst (v := 4) F.1 F.2.1 dX7_swaps_38 (by decide) ?_
  refine topK (a := 4) (by decide) (fun k_22 hk_22 => ?_)
  refine tAdd (lo := 82) (hi := 251) F dX7_swaps_39 hz_21.2 (eqb hk_22) rfl (fun z_23 hz_23 => ?_)
  refine lv_iload_n F.1 F.2.1 dX7_swaps_40 rfl (lv_at hl 0 rfl) ?_
  refine tIastX (t := 25) F hK hH hS (List.mem_singleton.mp hq_17) (by decide) rfl (ixb (n := 660) hz_23.2 rfl rfl) dX7_swaps_41 (fun G_24 eG_24 H locs hH hS => ?_)
  have hH : TH E (tbM (mD (.inl tp) (.inl sp) (.inl nu) (.inl un) (.inl tk) (.inl xt) (.inl wrb) (.inl nab) (.inl iwb)) (xD 660 G_24) ws kp as rd sc ty ik) H := hH
  have hG_24 : okR G_24 := (okR.st hG_16 eG_24 (by omega) (by omega) (by omega) (phiI (by omega) (by omega) (by omega) (by omega) (by omega) (by omega) (by omega) (by omega) (by omega) (by omega) (by omega) (by omega) (by omega) (by omega) (by omega) (by omega) (by omega) (by omega)))
  have hBG_24 := okB hG_24.1
  have hLG_24 := hG_24.2
  have hqG_24 : sQ Z G_24 := sQ.st hqG_16 eG_24 (by omega)
  exact txV F hS dX7_swaps_42 (⟨G_24, ⟨hG_24, hqG_24⟩, hH⟩)
set_option maxHeartbeats 4000000 in
set_option maxRecDepth 100000 in
theorem c_X7_laysShares (E : Ev) (ws : TD) (kp : TD) (rd : TD) (ty : TD) (ik : TD) (un : Int × Int) (xt : Int × Int) (tp : Int × Int) (sp : Int × Int) (wrb : Int × Int) (nu : Int × Int) (nab : Int × Int) (iwb : Int × Int) (X0 : Nat → Int32) (A : Nat → Int32) (Z : Nat → Int32) (a0 : Nat) (a1 : Int32) (ha0 : eT E a0 ∈ [24]) (ha1 : 1 ≤ a1.toInt ∧ a1.toInt ≤ 360) (hX0 : okR X0) (hA : okR A) (hqX0 : sQ Z X0) : TcV E yX7_laysShares cX7_laysShares 4 ({ frames := 9, cells := 0, slots := 0, locals := 222 }) [.ref a0, .int a1] (fun H => TH E (tbM (mD (.inl tp) (.inl sp) (.inl nu) (.inl un) (.inl (0, 18)) (.inl xt) (.inl wrb) (.inl nab) (.inl iwb)) (xD 660 X0) ws kp (xD 660 A) rd m_second ty ik) H) (fun H => ∃ X2 : Nat → Int32, (okR X2 ∧ sQ Z X2) ∧ ∃ A2 : Nat → Int32, (okR A2) ∧ TH E (tbM (mD (.inl tp) (.inl sp) (.inl nu) (.inl un) (.inl (0, 18)) (.inl xt) (.inl wrb) (.inl nab) (.inl iwb)) (xD 660 X2) ws kp (xD 660 A2) rd m_second ty ik) H) := by
  refine teV (by decide) (Nat.le_of_ble_eq_true rfl) ?_
  intro p_ ev_ s mi_ below_ meth cd_ ls F hK hN hO hH hS hl
  have hH : TH E (tbM (mD (.inl tp) (.inl sp) (.inl nu) (.inl un) (.inl (0, 18)) (.inl xt) (.inl wrb) (.inl nab) (.inl iwb)) (xD 660 X0) ws kp (xD 660 A) rd m_second ty ik) s.heap := hH
  have hl : lv_has ls 4 [(0, .ref a0), (1, .int a1)] := hl
  have hBX0 := okB hX0.1
  have hLX0 := hX0.2
  have hBA := okB hA.1
  have hLA := hA.2
  refine lv_iconst (v := 0) F.1 F.2.1 dX7_laysShares_0 (by decide) ?_
  refine topK (a := 0) (by decide) (fun k_1 hk_1 => ?_)
  refine lv_istore_n (lv' := [(2, .int k_1), (0, .ref a0), (1, .int a1)]) F.1 F.2.1 dX7_laysShares_1 rfl hl (by decide) rfl (fun ls hl => ?_)
  refine wloop (σ := Int32) (fun n9 x9 H locs ls => (14 - x9.toInt + 1).toNat < n9 ∧ (0 ≤ x9.toInt ∧ x9.toInt ≤ 14) ∧ TH E (tbM (mD (.inl tp) (.inl sp) (.inl nu) (.inl un) (.inl (0, 18)) (.inl xt) (.inl wrb) (.inl nab) (.inl iwb)) (xD 660 X0) ws kp (xD 660 A) rd m_second ty ik) H ∧ va_S (eA E s.heap.size) s.heap H locs ∧ lv_has ls 4 [(0, .ref a0), (1, .int a1), (2, .int x9)]) ?_ (fun x9 H locs ls h => absurd h.1 (Nat.not_lt_zero _)) _ (k_1) ⟨Nat.lt_succ_self _, (wkb (eqb hk_1) rfl rfl), hH, hS, lv_sub hl [1, 2, 0] rfl⟩
  intro n_2 ih_2 u_2 H locs ls ⟨hm_2, hu_2, hH, hS, hl⟩
  have hm_2 : (14 - u_2.toInt + 1).toNat < n_2 + 1 := hm_2
  have hu_2 : (0 ≤ u_2.toInt ∧ u_2.toInt ≤ 14) := hu_2
  have hH : TH E (tbM (mD (.inl tp) (.inl sp) (.inl nu) (.inl un) (.inl (0, 18)) (.inl xt) (.inl wrb) (.inl nab) (.inl iwb)) (xD 660 X0) ws kp (xD 660 A) rd m_second ty ik) H := hH
  have hl : lv_has ls 4 [(0, .ref a0), (1, .int a1), (2, .int u_2)] := hl
  refine lv_iload_n F.1 F.2.1 dX7_laysShares_2 rfl (lv_at hl 2 rfl) ?_
  refine lv_bipush (v := 14) F.1 F.2.1 dX7_laysShares_3 (by decide) ?_
  refine topK (a := 14) (by decide) (fun k_3 hk_3 => ?_)
  refine b_ge (tgt := 28) F dX7_laysShares_5 (by decide) (fun c_4 => ?_) (fun c_4 => ?_)
  · skip
    have r_5 : 14 ≤ u_2.toInt ∧ u_2.toInt ≤ 14 := by have h9_ := hu_2; omega
    refine lv_aload_n F.1 F.2.1 dX7_laysShares_28 rfl (lv_at hl 0 rfl) ?_
    refine tVv (b := a0) (As := []) (rest := []) F hK hN hO (c_X7_putsAside E ws kp rd m_second ty ik un (0, 18) xt tp sp wrb nu nab iwb X0 A Z a0 ha0 hX0 hqX0) mv_X7_putsAside wd_37_16 ⟨Nat.le_of_ble_eq_true rfl, Nat.le_of_ble_eq_true rfl⟩ ⟨Nat.le_of_ble_eq_true rfl, Nat.le_of_ble_eq_true rfl⟩ hH hS (tRecv hK hH (tyb ha0 (all1 rfl)) clX7) rfl hl.1 (Nat.le_of_ble_eq_true rfl) dX7_laysShares_29 (fun H locs hq hS => ?_)
    obtain ⟨g_8, hg_8, hH⟩ := hq
    have hH : TH E (tbM (mD (.inl tp) (.inl sp) (.inl nu) (.inl un) (.inl (0, 18)) (.inl xt) (.inl wrb) (.inl nab) (.inl iwb)) (xD 660 X0) ws kp (xD 660 g_8) rd m_second ty ik) H := hH
    have hqg_8 := hg_8.2
    have hBg_8 := okB hg_8.1.1
    have hLg_8 := hg_8.1.2
    refine lv_iconst (v := 0) F.1 F.2.1 dX7_laysShares_32 (by decide) ?_
    refine topK (a := 0) (by decide) (fun k_9 hk_9 => ?_)
    refine lv_istore_n (lv' := [(2, .int k_9), (0, .ref a0), (1, .int a1)]) F.1 F.2.1 dX7_laysShares_33 rfl hl (by decide) rfl (fun ls hl => ?_)
    refine wloop (σ := Int32 × (Nat → Int32)) (fun n9 x9 H locs ls => (360 - x9.1.toInt + 1).toNat < n9 ∧ (0 ≤ x9.1.toInt ∧ x9.1.toInt ≤ 360) ∧ (okR x9.2) ∧ (sQ Z x9.2) ∧ TH E (tbM (mD (.inl tp) (.inl sp) (.inl nu) (.inl un) (.inl (0, 18)) (.inl xt) (.inl wrb) (.inl nab) (.inl iwb)) (xD 660 x9.2) ws kp (xD 660 g_8) rd m_second ty ik) H ∧ va_S (eA E s.heap.size) s.heap H locs ∧ lv_has ls 4 [(0, .ref a0), (1, .int a1), (2, .int x9.1)]) ?_ (fun x9 H locs ls h => absurd h.1 (Nat.not_lt_zero _)) _ (k_9, X0) ⟨Nat.lt_succ_self _, (wkb (eqb hk_9) rfl rfl), hX0, (show sQ Z X0 from hqX0), hH, hS, lv_sub hl [1, 2, 0] rfl⟩
    intro n_34 ih_34 ⟨u_10, G_11⟩ H locs ls ⟨hm_34, hu_10, hG_11, hcr34_0, hH, hS, hl⟩
    have hm_34 : (360 - u_10.toInt + 1).toNat < n_34 + 1 := hm_34
    have hu_10 : (0 ≤ u_10.toInt ∧ u_10.toInt ≤ 360) := hu_10
    have hG_11 : (okR G_11) := hG_11
    have hcr34_0 : (sQ Z G_11) := hcr34_0
    have hH : TH E (tbM (mD (.inl tp) (.inl sp) (.inl nu) (.inl un) (.inl (0, 18)) (.inl xt) (.inl wrb) (.inl nab) (.inl iwb)) (xD 660 G_11) ws kp (xD 660 g_8) rd m_second ty ik) H := hH
    have hl : lv_has ls 4 [(0, .ref a0), (1, .int a1), (2, .int u_10)] := hl
    have hBG_11 := okB hG_11.1
    have hLG_11 := hG_11.2
    have hqG_11 := hcr34_0
    refine lv_iload_n F.1 F.2.1 dX7_laysShares_34 rfl (lv_at hl 2 rfl) ?_
    refine lv_iload_n F.1 F.2.1 dX7_laysShares_35 rfl (lv_at hl 1 rfl) ?_
    refine b_ge (tgt := 111) F dX7_laysShares_36 (by decide) (fun c_12 => ?_) (fun c_12 => ?_)
    · skip
      have r_13 : 1 ≤ u_10.toInt ∧ u_10.toInt ≤ 360 := by have h9_ := hu_10; omega
      refine lv_aload_n F.1 F.2.1 dX7_laysShares_111 rfl (lv_at hl 0 rfl) ?_
      refine tVv (b := a0) (As := []) (rest := []) F hK hN hO (c_X7_takesBack E ws kp rd m_second ty ik un (0, 18) xt tp sp wrb nu nab iwb G_11 g_8 Z a0 ha0 hG_11 hg_8.1 hqg_8) mv_X7_takesBack wd_38_0 ⟨Nat.le_of_ble_eq_true rfl, Nat.le_of_ble_eq_true rfl⟩ ⟨Nat.le_of_ble_eq_true rfl, Nat.le_of_ble_eq_true rfl⟩ hH hS (tRecv hK hH (tyb ha0 (all1 rfl)) clX7) rfl hl.1 (Nat.le_of_ble_eq_true rfl) dX7_laysShares_112 (fun H locs hq hS => ?_)
      obtain ⟨g_16, hg_16, hH⟩ := hq
      have hH : TH E (tbM (mD (.inl tp) (.inl sp) (.inl nu) (.inl un) (.inl (0, 18)) (.inl xt) (.inl wrb) (.inl nab) (.inl iwb)) (xD 660 g_16) ws kp (xD 660 g_8) rd m_second ty ik) H := hH
      have hqg_16 := hg_16.2
      have hBg_16 := okB hg_16.1.1
      have hLg_16 := hg_16.1.2
      exact txV F hS dX7_laysShares_115 (⟨g_16, ⟨hg_16.1, hqg_16⟩, g_8, hg_8.1, hH⟩)
    · skip
      have r_14 : 0 ≤ u_10.toInt ∧ u_10.toInt ≤ 359 := by have h9_ := hu_10; omega
      refine lv_iconst (v := 0) F.1 F.2.1 dX7_laysShares_39 (by decide) ?_
      refine topK (a := 0) (by decide) (fun k_17 hk_17 => ?_)
      refine lv_istore_n (lv' := [(3, .int k_17), (0, .ref a0), (1, .int a1), (2, .int u_10)]) F.1 F.2.1 dX7_laysShares_40 rfl hl (by decide) rfl (fun ls hl => ?_)
      refine wloop (σ := Int32) (fun n9 x9 H locs ls => (14 - x9.toInt + 1).toNat < n9 ∧ (0 ≤ x9.toInt ∧ x9.toInt ≤ 14) ∧ TH E (tbM (mD (.inl tp) (.inl sp) (.inl nu) (.inl un) (.inl (0, 18)) (.inl xt) (.inl wrb) (.inl nab) (.inl iwb)) (xD 660 G_11) ws kp (xD 660 g_8) rd m_second ty ik) H ∧ va_S (eA E s.heap.size) s.heap H locs ∧ lv_has ls 4 [(0, .ref a0), (1, .int a1), (2, .int u_10), (3, .int x9)]) ?_ (fun x9 H locs ls h => absurd h.1 (Nat.not_lt_zero _)) _ (k_17) ⟨Nat.lt_succ_self _, (wkb (eqb hk_17) rfl rfl), hH, hS, lv_sub hl [1, 2, 3, 0] rfl⟩
      intro n_41 ih_41 u_18 H locs ls ⟨hm_41, hu_18, hH, hS, hl⟩
      have hm_41 : (14 - u_18.toInt + 1).toNat < n_41 + 1 := hm_41
      have hu_18 : (0 ≤ u_18.toInt ∧ u_18.toInt ≤ 14) := hu_18
      have hH : TH E (tbM (mD (.inl tp) (.inl sp) (.inl nu) (.inl un) (.inl (0, 18)) (.inl xt) (.inl wrb) (.inl nab) (.inl iwb)) (xD 660 G_11) ws kp (xD 660 g_8) rd m_second ty ik) H := hH
      have hl : lv_has ls 4 [(0, .ref a0), (1, .int a1), (2, .int u_10), (3, .int u_18)] := hl
      refine lv_iload_n F.1 F.2.1 dX7_laysShares_41 rfl (lv_at hl 3 rfl) ?_
      refine lv_aload_n F.1 F.2.1 dX7_laysShares_42 rfl (lv_at hl 0 rfl) ?_
      refine tVi (b := a0) (As := []) (rest := [.int u_18]) F hK hN hO (c_X7_rights E ws kp (xD 660 g_8) rd m_second ty ik un (0, 18) xt tp sp wrb nu nab iwb G_11 a0 ha0 ((hG_11).1)) mv_X7_rights wd_19_4 ⟨Nat.le_of_ble_eq_true rfl, Nat.le_of_ble_eq_true rfl⟩ ⟨Nat.le_of_ble_eq_true rfl, Nat.le_of_ble_eq_true rfl⟩ hH hS (tRecv hK hH (tyb ha0 (all1 rfl)) clX7) rfl hl.1 (Nat.le_of_ble_eq_true rfl) dX7_laysShares_43 (fun z_19 H locs hq hS => ?_)
      obtain ⟨f_20, f_21, hH⟩ := hq
      have hH : TH E (tbM (mD (.inl tp) (.inl sp) (.inl nu) (.inl un) (.inl (0, 18)) (.inl xt) (.inl wrb) (.inl nab) (.inl iwb)) (xD 660 G_11) ws kp (xD 660 g_8) rd m_second ty ik) H := hH
      refine b_ge (tgt := 70) F dX7_laysShares_46 (by decide) (fun c_22 => ?_) (fun c_22 => ?_)
      · skip
        refine lv_aload_n F.1 F.2.1 dX7_laysShares_70 rfl (lv_at hl 0 rfl) ?_
        refine tVv (b := a0) (As := []) (rest := []) F hK hN hO (c_X7_passes E ws kp (xD 660 g_8) rd ty ik un xt tp sp wrb nu nab iwb G_11 Z a0 ha0 hG_11 hqG_11) mv_X7_passes wd_25_11 ⟨Nat.le_of_ble_eq_true rfl, Nat.le_of_ble_eq_true rfl⟩ ⟨Nat.le_of_ble_eq_true rfl, Nat.le_of_ble_eq_true rfl⟩ hH hS (tRecv hK hH (tyb ha0 (all1 rfl)) clX7) rfl hl.1 (Nat.le_of_ble_eq_true rfl) dX7_laysShares_71 (fun H locs hq hS => ?_)
        obtain ⟨g_26, hg_26, hH⟩ := hq
        have hH : TH E (tbM (mD (.inl tp) (.inl sp) (.inl nu) (.inl un) (.inl (0, 18)) (.inl xt) (.inl wrb) (.inl nab) (.inl iwb)) (xD 660 g_26) ws kp (xD 660 g_8) rd m_second ty ik) H := hH
        have hqg_26 := hg_26.2
        have hBg_26 := okB hg_26.1.1
        have hLg_26 := hg_26.1.2
        refine lv_iconst (v := 0) F.1 F.2.1 dX7_laysShares_74 (by decide) ?_
        refine topK (a := 0) (by decide) (fun k_27 hk_27 => ?_)
        refine lv_istore_n (lv' := [(3, .int k_27), (0, .ref a0), (1, .int a1), (2, .int u_10)]) F.1 F.2.1 dX7_laysShares_75 rfl hl (by decide) rfl (fun ls hl => ?_)
        refine wloop (σ := Int32) (fun n9 x9 H locs ls => (14 - x9.toInt + 1).toNat < n9 ∧ (0 ≤ x9.toInt ∧ x9.toInt ≤ 14) ∧ TH E (tbM (mD (.inl tp) (.inl sp) (.inl nu) (.inl un) (.inl (0, 18)) (.inl xt) (.inl wrb) (.inl nab) (.inl iwb)) (xD 660 g_26) ws kp (xD 660 g_8) rd m_second ty ik) H ∧ va_S (eA E s.heap.size) s.heap H locs ∧ lv_has ls 4 [(0, .ref a0), (1, .int a1), (2, .int u_10), (3, .int x9)]) ?_ (fun x9 H locs ls h => absurd h.1 (Nat.not_lt_zero _)) _ (k_27) ⟨Nat.lt_succ_self _, (wkb (eqb hk_27) rfl rfl), hH, hS, lv_sub hl [1, 2, 3, 0] rfl⟩
        intro n_76 ih_76 u_28 H locs ls ⟨hm_76, hu_28, hH, hS, hl⟩
        have hm_76 : (14 - u_28.toInt + 1).toNat < n_76 + 1 := hm_76
        have hu_28 : (0 ≤ u_28.toInt ∧ u_28.toInt ≤ 14) := hu_28
        have hH : TH E (tbM (mD (.inl tp) (.inl sp) (.inl nu) (.inl un) (.inl (0, 18)) (.inl xt) (.inl wrb) (.inl nab) (.inl iwb)) (xD 660 g_26) ws kp (xD 660 g_8) rd m_second ty ik) H := hH
        have hl : lv_has ls 4 [(0, .ref a0), (1, .int a1), (2, .int u_10), (3, .int u_28)] := hl
        refine lv_iload_n F.1 F.2.1 dX7_laysShares_76 rfl (lv_at hl 3 rfl) ?_
        refine lv_aload_n F.1 F.2.1 dX7_laysShares_77 rfl (lv_at hl 0 rfl) ?_
        refine tVi (b := a0) (As := []) (rest := [.int u_28]) F hK hN hO (c_X7_rights E ws kp (xD 660 g_8) rd m_second ty ik un (0, 18) xt tp sp wrb nu nab iwb g_26 a0 ha0 ((hg_26.1).1)) mv_X7_rights wd_19_4 ⟨Nat.le_of_ble_eq_true rfl, Nat.le_of_ble_eq_true rfl⟩ ⟨Nat.le_of_ble_eq_true rfl, Nat.le_of_ble_eq_true rfl⟩ hH hS (tRecv hK hH (tyb ha0 (all1 rfl)) clX7) rfl hl.1 (Nat.le_of_ble_eq_true rfl) dX7_laysShares_78 (fun z_29 H locs hq hS => ?_)
        obtain ⟨f_30, f_31, hH⟩ := hq
        have hH : TH E (tbM (mD (.inl tp) (.inl sp) (.inl nu) (.inl un) (.inl (0, 18)) (.inl xt) (.inl wrb) (.inl nab) (.inl iwb)) (xD 660 g_26) ws kp (xD 660 g_8) rd m_second ty ik) H := hH
        refine b_ge (tgt := 105) F dX7_laysShares_81 (by decide) (fun c_32 => ?_) (fun c_32 => ?_)
        · skip
          obtain ⟨x_35, ex_35, hx_35⟩ := iincB (c := 1) (lo := 1) (hi := 360) r_14 rfl
          refine lv_iinc (v := x_35) (lv' := [(2, .int x_35), (0, .ref a0), (1, .int a1), (3, .int u_28)]) F.1 F.2.1 dX7_laysShares_105 hl (k := 2) rfl ex_35 (by decide) rfl (fun ls hl => ?_)
          refine lv_goto (tgt := 34) F.1 F.2.1 dX7_laysShares_108 (by decide) ?_
          exact ih_34 (x_35, g_26) _ _ _ ⟨(show (360 - x_35.toInt + 1).toNat < n_34 from by omega), (wkb hx_35.2 rfl rfl), hg_26.1, (show sQ Z g_26 from hqg_26), hH, hS, lv_sub hl [1, 2, 0] rfl⟩
        · skip
          have r_33 : 0 ≤ u_28.toInt ∧ u_28.toInt ≤ 13 := by have h9_ := hu_28; omega
          have r_34 : 1 ≤ z_29.toInt ∧ z_29.toInt ≤ 14 := by have h9_ := f_30; omega
          refine lv_aload_n F.1 F.2.1 dX7_laysShares_84 rfl (lv_at hl 0 rfl) ?_
          refine tGetR (j := 41) F hK hH (tyb ha0 (all1 rfl)) rfl (all1 rfl) clX7 (by decide) wd_7_7 dX7_laysShares_85 (fun q_36 hq_36 _ => ?_)
          refine lv_iload_n F.1 F.2.1 dX7_laysShares_88 rfl (lv_at hl 3 rfl) ?_
          refine lv_dup2_11 F.1 F.2.1 dX7_laysShares_89 rfl rfl ?_
          refine tLald F hK hH (tyb hq_36 (all1 rfl)) (ixb (n := 14) r_33 rfl rfl) dX7_laysShares_90 (fun w_37 => ?_)
          refine lv_aload_n F.1 F.2.1 dX7_laysShares_91 rfl (lv_at hl 0 rfl) ?_
          refine lv_iload_n F.1 F.2.1 dX7_laysShares_92 rfl (lv_at hl 3 rfl) ?_
          refine tVi (b := a0) (As := [.int u_28]) (rest := [.long w_37, .int u_28, .ref q_36]) F hK hN hO (c_X7_allOf E (xD 660 g_26) ws kp (xD 660 g_8) rd ty ik un (0, 18) xt tp sp wrb nu nab iwb a0 u_28 ha0 r_33) mv_X7_allOf wd_29_22 ⟨Nat.le_of_ble_eq_true rfl, Nat.le_of_ble_eq_true rfl⟩ ⟨Nat.le_of_ble_eq_true rfl, Nat.le_of_ble_eq_true rfl⟩ hH hS (tRecv hK hH (tyb ha0 (all1 rfl)) clX7) rfl hl.1 (Nat.le_of_ble_eq_true rfl) dX7_laysShares_93 (fun z_38 H locs hq hS => ?_)
          obtain ⟨f_39, hH⟩ := hq
          have hH : TH E (tbM (mD (.inl tp) (.inl sp) (.inl nu) (.inl un) (.inl (0, 18)) (.inl xt) (.inl wrb) (.inl nab) (.inl iwb)) (xD 660 g_26) ws kp (xD 660 g_8) rd m_second ty ik) H := hH
          refine tI2l F dX7_laysShares_96 (fun w_40 hw_40 => ?_)
          refine lv_ladd F.1 F.2.1 dX7_laysShares_97 ?_
          refine topFL (fun w_41 => ?_)
          refine tLast F hK hH hS (tyb hq_36 (all1 rfl)) (ixb (n := 14) r_33 rfl rfl) dX7_laysShares_98 (fun H locs hH hS => ?_)
          obtain ⟨x_42, ex_42, hx_42⟩ := iincB (c := 1) (lo := 1) (hi := 14) r_33 rfl
          refine lv_iinc (v := x_42) (lv' := [(3, .int x_42), (0, .ref a0), (1, .int a1), (2, .int u_10)]) F.1 F.2.1 dX7_laysShares_99 hl (k := 3) rfl ex_42 (by decide) rfl (fun ls hl => ?_)
          refine lv_goto (tgt := 76) F.1 F.2.1 dX7_laysShares_102 (by decide) ?_
          exact ih_76 (x_42) _ _ _ ⟨(show (14 - x_42.toInt + 1).toNat < n_76 from by omega), (wkb hx_42.2 rfl rfl), hH, hS, lv_sub hl [1, 2, 3, 0] rfl⟩
      · skip
        have r_23 : 0 ≤ u_18.toInt ∧ u_18.toInt ≤ 13 := by have h9_ := hu_18; omega
        have r_24 : 1 ≤ z_19.toInt ∧ z_19.toInt ≤ 14 := by have h9_ := f_20; omega
        refine lv_aload_n F.1 F.2.1 dX7_laysShares_49 rfl (lv_at hl 0 rfl) ?_
        refine tGetR (j := 40) F hK hH (tyb ha0 (all1 rfl)) rfl (all1 rfl) clX7 (by decide) wd_7_6 dX7_laysShares_50 (fun q_43 hq_43 _ => ?_)
        refine lv_iload_n F.1 F.2.1 dX7_laysShares_53 rfl (lv_at hl 3 rfl) ?_
        refine lv_dup2_11 F.1 F.2.1 dX7_laysShares_54 rfl rfl ?_
        refine tLald F hK hH (tyb hq_43 (all1 rfl)) (ixb (n := 14) r_23 rfl rfl) dX7_laysShares_55 (fun w_44 => ?_)
        refine lv_aload_n F.1 F.2.1 dX7_laysShares_56 rfl (lv_at hl 0 rfl) ?_
        refine lv_iload_n F.1 F.2.1 dX7_laysShares_57 rfl (lv_at hl 3 rfl) ?_
        refine tVi (b := a0) (As := [.int u_18]) (rest := [.long w_44, .int u_18, .ref q_43]) F hK hN hO (c_X7_wantsOf_r E ws kp (xD 660 g_8) rd m_second ty ik un (0, 18) xt tp sp wrb nu nab iwb G_11 a0 u_18 ha0 r_23 hG_11) mv_X7_wantsOf wd_27_11 ⟨Nat.le_of_ble_eq_true rfl, Nat.le_of_ble_eq_true rfl⟩ ⟨Nat.le_of_ble_eq_true rfl, Nat.le_of_ble_eq_true rfl⟩ hH hS (tRecv hK hH (tyb ha0 (all1 rfl)) clX7) rfl hl.1 (Nat.le_of_ble_eq_true rfl) dX7_laysShares_58 (fun z_45 H locs hq hS => ?_)
        obtain ⟨f_46, hH⟩ := hq
        have hH : TH E (tbM (mD (.inl tp) (.inl sp) (.inl nu) (.inl un) (.inl (0, 18)) (.inl xt) (.inl wrb) (.inl nab) (.inl iwb)) (xD 660 G_11) ws kp (xD 660 g_8) rd m_second ty ik) H := hH
        refine tI2l F dX7_laysShares_61 (fun w_47 hw_47 => ?_)
        refine lv_ladd F.1 F.2.1 dX7_laysShares_62 ?_
        refine topFL (fun w_48 => ?_)
        refine tLast F hK hH hS (tyb hq_43 (all1 rfl)) (ixb (n := 14) r_23 rfl rfl) dX7_laysShares_63 (fun H locs hH hS => ?_)
        obtain ⟨x_49, ex_49, hx_49⟩ := iincB (c := 1) (lo := 1) (hi := 14) r_23 rfl
        refine lv_iinc (v := x_49) (lv' := [(3, .int x_49), (0, .ref a0), (1, .int a1), (2, .int u_10)]) F.1 F.2.1 dX7_laysShares_64 hl (k := 3) rfl ex_49 (by decide) rfl (fun ls hl => ?_)
        refine lv_goto (tgt := 41) F.1 F.2.1 dX7_laysShares_67 (by decide) ?_
        exact ih_41 (x_49) _ _ _ ⟨(show (14 - x_49.toInt + 1).toNat < n_41 from by omega), (wkb hx_49.2 rfl rfl), hH, hS, lv_sub hl [1, 2, 3, 0] rfl⟩
  · skip
    have r_6 : 0 ≤ u_2.toInt ∧ u_2.toInt ≤ 13 := by have h9_ := hu_2; omega
    refine lv_aload_n F.1 F.2.1 dX7_laysShares_8 rfl (lv_at hl 0 rfl) ?_
    refine tGetR (j := 40) F hK hH (tyb ha0 (all1 rfl)) rfl (all1 rfl) clX7 (by decide) wd_7_6 dX7_laysShares_9 (fun q_50 hq_50 _ => ?_)
    refine lv_iload_n F.1 F.2.1 dX7_laysShares_12 rfl (lv_at hl 2 rfl) ?_
    refine lv_lconst (v := 0) F.1 F.2.1 dX7_laysShares_13 (by decide) ?_
    refine topKL (a := 0) (by decide) (fun j_51 hj_51 => ?_)
    refine tLast F hK hH hS (tyb hq_50 (all1 rfl)) (ixb (n := 14) r_6 rfl rfl) dX7_laysShares_14 (fun H locs hH hS => ?_)
    refine lv_aload_n F.1 F.2.1 dX7_laysShares_15 rfl (lv_at hl 0 rfl) ?_
    refine tGetR (j := 41) F hK hH (tyb ha0 (all1 rfl)) rfl (all1 rfl) clX7 (by decide) wd_7_7 dX7_laysShares_16 (fun q_52 hq_52 _ => ?_)
    refine lv_iload_n F.1 F.2.1 dX7_laysShares_19 rfl (lv_at hl 2 rfl) ?_
    refine lv_lconst (v := 0) F.1 F.2.1 dX7_laysShares_20 (by decide) ?_
    refine topKL (a := 0) (by decide) (fun j_53 hj_53 => ?_)
    refine tLast F hK hH hS (tyb hq_52 (all1 rfl)) (ixb (n := 14) r_6 rfl rfl) dX7_laysShares_21 (fun H locs hH hS => ?_)
    obtain ⟨x_54, ex_54, hx_54⟩ := iincB (c := 1) (lo := 1) (hi := 14) r_6 rfl
    refine lv_iinc (v := x_54) (lv' := [(2, .int x_54), (0, .ref a0), (1, .int a1)]) F.1 F.2.1 dX7_laysShares_22 hl (k := 2) rfl ex_54 (by decide) rfl (fun ls hl => ?_)
    refine lv_goto (tgt := 2) F.1 F.2.1 dX7_laysShares_25 (by decide) ?_
    exact ih_2 (x_54) _ _ _ ⟨(show (14 - x_54.toInt + 1).toNat < n_2 from by omega), (wkb hx_54.2 rfl rfl), hH, hS, lv_sub hl [1, 2, 0] rfl⟩
set_option maxHeartbeats 4000000 in
set_option maxRecDepth 100000 in
theorem c_X7_hurt (E : Ev) (ws : TD) (kp : TD) (rd : TD) (ty : TD) (ik : TD) (un : Int × Int) (xt : Int × Int) (tp : Int × Int) (sp : Int × Int) (wrb : Int × Int) (nu : Int × Int) (nab : Int × Int) (iwb : Int × Int) (X0 : Nat → Int32) (A : Nat → Int32) (Z : Nat → Int32) (a0 : Nat) (a1 : Int32) (a2 : Int32) (a3 : Int32) (ha0 : eT E a0 ∈ [24]) (hX0 : okR X0) (hA : okR A) (hqX0 : sQ Z X0) : TcI E yX7_hurt cX7_hurt 5 .int ({ frames := 11, cells := 0, slots := 0, locals := 268 }) [.ref a0, .int a1, .int a2, .int a3] (fun H => TH E (tbM (mD (.inl tp) (.inl sp) (.inl nu) (.inl un) (.inl (0, 18)) (.inl xt) (.inl wrb) (.inl nab) (.inl iwb)) (xD 660 X0) ws kp (xD 660 A) rd m_second ty ik) H) (fun v H => ∃ X2 : Nat → Int32, (okR X2 ∧ sQ Z X2) ∧ ∃ A2 : Nat → Int32, (okR A2) ∧ ((-2147483648) ≤ v.toInt ∧ v.toInt ≤ 2147483647) ∧ TH E (tbM (mD (.inl tp) (.inl sp) (.inl nu) (.inl un) (.inl (0, 18)) (.inl xt) (.inl wrb) (.inl nab) (.inl iwb)) (xD 660 X2) ws kp (xD 660 A2) rd m_second ty ik) H) := by
  refine teI (by decide) (Nat.le_of_ble_eq_true rfl) ?_
  intro p_ ev_ s mi_ below_ meth cd_ ls F hK hN hO hH hS hl
  have hH : TH E (tbM (mD (.inl tp) (.inl sp) (.inl nu) (.inl un) (.inl (0, 18)) (.inl xt) (.inl wrb) (.inl nab) (.inl iwb)) (xD 660 X0) ws kp (xD 660 A) rd m_second ty ik) s.heap := hH
  have hl : lv_has ls 5 [(0, .ref a0), (1, .int a1), (2, .int a2), (3, .int a3)] := hl
  have hBX0 := okB hX0.1
  have hLX0 := hX0.2
  have hBA := okB hA.1
  have hLA := hA.2
  refine lv_aload_n F.1 F.2.1 dX7_hurt_0 rfl (lv_at hl 0 rfl) ?_
  refine lv_iload_n F.1 F.2.1 dX7_hurt_1 rfl (lv_at hl 1 rfl) ?_
  refine tVi (b := a0) (As := [.int a1]) (rest := []) F hK hN hO (c_X7_isRight E ws kp (xD 660 A) rd m_second ty ik un (0, 18) xt tp sp wrb nu nab iwb X0 a0 a1 ha0 ((hX0).1)) mv_X7_isRight wd_31_18 ⟨Nat.le_of_ble_eq_true rfl, Nat.le_of_ble_eq_true rfl⟩ ⟨Nat.le_of_ble_eq_true rfl, Nat.le_of_ble_eq_true rfl⟩ hH hS (tRecv hK hH (tyb ha0 (all1 rfl)) clX7) rfl hl.1 (Nat.le_of_ble_eq_true rfl) dX7_hurt_2 (fun z_1 H locs hq hS => ?_)
  obtain ⟨f_2, f_3, f_4, hH⟩ := hq
  have hH : TH E (tbM (mD (.inl tp) (.inl sp) (.inl nu) (.inl un) (.inl (0, 18)) (.inl xt) (.inl wrb) (.inl nab) (.inl iwb)) (xD 660 X0) ws kp (xD 660 A) rd m_second ty ik) H := hH
  refine z_eq (tgt := 29) F dX7_hurt_5 (by decide) (fun c_5 => ?_) (fun c_5 => ?_)
  · skip
    have r_6 : 0 ≤ z_1.toInt ∧ z_1.toInt ≤ 0 := by have h9_ := f_2; omega
    refine lv_iconst (v := (-1)) F.1 F.2.1 dX7_hurt_29 (by decide) ?_
    refine topK (a := (-1)) (by decide) (fun k_9 hk_9 => ?_)
    exact txI F hS dX7_hurt_30 rfl (⟨X0, ⟨hX0, hqX0⟩, A, hA, (wkb (eqb hk_9) rfl rfl), hH⟩)
  · skip
    have r_7 : 1 ≤ z_1.toInt ∧ z_1.toInt ≤ 1 := by have h9_ := f_2; omega
    have r_8 : 0 ≤ a1.toInt ∧ a1.toInt ≤ 13 := by have h9_ := (i32b a1); omega
    refine lv_aload_n F.1 F.2.1 dX7_hurt_8 rfl (lv_at hl 0 rfl) ?_
    refine lv_iload_n F.1 F.2.1 dX7_hurt_9 rfl (lv_at hl 2 rfl) ?_
    refine tVi (b := a0) (As := [.int a2]) (rest := []) F hK hN hO (c_X7_isReach E ws kp (xD 660 A) rd m_second ty ik un (0, 18) xt tp sp wrb nu nab iwb X0 a0 a2 ha0 ((hX0).1)) mv_X7_isReach wd_37_8 ⟨Nat.le_of_ble_eq_true rfl, Nat.le_of_ble_eq_true rfl⟩ ⟨Nat.le_of_ble_eq_true rfl, Nat.le_of_ble_eq_true rfl⟩ hH hS (tRecv hK hH (tyb ha0 (all1 rfl)) clX7) rfl hl.1 (Nat.le_of_ble_eq_true rfl) dX7_hurt_10 (fun z_10 H locs hq hS => ?_)
    obtain ⟨f_11, f_12, f_13, hH⟩ := hq
    have hH : TH E (tbM (mD (.inl tp) (.inl sp) (.inl nu) (.inl un) (.inl (0, 18)) (.inl xt) (.inl wrb) (.inl nab) (.inl iwb)) (xD 660 X0) ws kp (xD 660 A) rd m_second ty ik) H := hH
    refine z_eq (tgt := 29) F dX7_hurt_13 (by decide) (fun c_14 => ?_) (fun c_14 => ?_)
    · skip
      have r_15 : 0 ≤ z_10.toInt ∧ z_10.toInt ≤ 0 := by have h9_ := f_11; omega
      refine lv_iconst (v := (-1)) F.1 F.2.1 dX7_hurt_29 (by decide) ?_
      refine topK (a := (-1)) (by decide) (fun k_18 hk_18 => ?_)
      exact txI F hS dX7_hurt_30 rfl (⟨X0, ⟨hX0, hqX0⟩, A, hA, (wkb (eqb hk_18) rfl rfl), hH⟩)
    · skip
      have r_16 : 1 ≤ z_10.toInt ∧ z_10.toInt ≤ 1 := by have h9_ := f_11; omega
      have r_17 : 0 ≤ a2.toInt ∧ a2.toInt ≤ 11 := by have h9_ := (i32b a2); omega
      refine lv_aload_n F.1 F.2.1 dX7_hurt_16 rfl (lv_at hl 0 rfl) ?_
      refine lv_iload_n F.1 F.2.1 dX7_hurt_17 rfl (lv_at hl 3 rfl) ?_
      refine tVi (b := a0) (As := [.int a3]) (rest := []) F hK hN hO (c_X7_isRight E ws kp (xD 660 A) rd m_second ty ik un (0, 18) xt tp sp wrb nu nab iwb X0 a0 a3 ha0 ((hX0).1)) mv_X7_isRight wd_31_18 ⟨Nat.le_of_ble_eq_true rfl, Nat.le_of_ble_eq_true rfl⟩ ⟨Nat.le_of_ble_eq_true rfl, Nat.le_of_ble_eq_true rfl⟩ hH hS (tRecv hK hH (tyb ha0 (all1 rfl)) clX7) rfl hl.1 (Nat.le_of_ble_eq_true rfl) dX7_hurt_18 (fun z_19 H locs hq hS => ?_)
      obtain ⟨f_20, f_21, f_22, hH⟩ := hq
      have hH : TH E (tbM (mD (.inl tp) (.inl sp) (.inl nu) (.inl un) (.inl (0, 18)) (.inl xt) (.inl wrb) (.inl nab) (.inl iwb)) (xD 660 X0) ws kp (xD 660 A) rd m_second ty ik) H := hH
      refine z_eq (tgt := 29) F dX7_hurt_21 (by decide) (fun c_23 => ?_) (fun c_23 => ?_)
      · skip
        have r_24 : 0 ≤ z_19.toInt ∧ z_19.toInt ≤ 0 := by have h9_ := f_20; omega
        refine lv_iconst (v := (-1)) F.1 F.2.1 dX7_hurt_29 (by decide) ?_
        refine topK (a := (-1)) (by decide) (fun k_27 hk_27 => ?_)
        exact txI F hS dX7_hurt_30 rfl (⟨X0, ⟨hX0, hqX0⟩, A, hA, (wkb (eqb hk_27) rfl rfl), hH⟩)
      · skip
        have r_25 : 1 ≤ z_19.toInt ∧ z_19.toInt ≤ 1 := by have h9_ := f_20; omega
        have r_26 : 0 ≤ a3.toInt ∧ a3.toInt ≤ 13 := by have h9_ := (i32b a3); omega
        refine lv_iload_n F.1 F.2.1 dX7_hurt_24 rfl (lv_at hl 1 rfl) ?_
        refine lv_iload_n F.1 F.2.1 dX7_hurt_25 rfl (lv_at hl 3 rfl) ?_
        refine b_ne (tgt := 31) F dX7_hurt_26 (by decide) (fun c_28 => ?_) (fun c_28 => ?_)
        · skip
          refine lv_aload_n F.1 F.2.1 dX7_hurt_31 rfl (lv_at hl 0 rfl) ?_
          refine tVv (b := a0) (As := []) (rest := []) F hK hN hO (c_X7_stays E ws kp rd ty ik un xt tp sp wrb nu nab iwb X0 A Z a0 ha0 hX0 hA hqX0) mv_X7_stays wd_37_12 ⟨Nat.le_of_ble_eq_true rfl, Nat.le_of_ble_eq_true rfl⟩ ⟨Nat.le_of_ble_eq_true rfl, Nat.le_of_ble_eq_true rfl⟩ hH hS (tRecv hK hH (tyb ha0 (all1 rfl)) clX7) rfl hl.1 (Nat.le_of_ble_eq_true rfl) dX7_hurt_32 (fun H locs hq hS => ?_)
          obtain ⟨g_30, hg_30, g_31, hg_31, hH⟩ := hq
          have hH : TH E (tbM (mD (.inl tp) (.inl sp) (.inl nu) (.inl un) (.inl (0, 18)) (.inl xt) (.inl wrb) (.inl nab) (.inl iwb)) (xD 660 g_30) ws kp (xD 660 g_31) rd m_second ty ik) H := hH
          have hqg_30 := hg_30.2
          have hBg_30 := okB hg_30.1.1
          have hLg_30 := hg_30.1.2
          have hBg_31 := okB hg_31.1
          have hLg_31 := hg_31.2
          refine lv_aload_n F.1 F.2.1 dX7_hurt_35 rfl (lv_at hl 0 rfl) ?_
          refine lv_iload_n F.1 F.2.1 dX7_hurt_36 rfl (lv_at hl 1 rfl) ?_
          refine lv_iload_n F.1 F.2.1 dX7_hurt_37 rfl (lv_at hl 2 rfl) ?_
          refine tVv (b := a0) (As := [.int a1, .int a2]) (rest := []) F hK hN hO (c_X7_moves E ws kp rd ty ik un xt tp sp wrb nu nab iwb g_30 g_31 Z a0 a1 a2 ha0 r_8 r_17 hg_30.1 hg_31 hqg_30) mv_X7_moves wd_38_8 ⟨Nat.le_of_ble_eq_true rfl, Nat.le_of_ble_eq_true rfl⟩ ⟨Nat.le_of_ble_eq_true rfl, Nat.le_of_ble_eq_true rfl⟩ hH hS (tRecv hK hH (tyb ha0 (all1 rfl)) clX7) rfl hl.1 (Nat.le_of_ble_eq_true rfl) dX7_hurt_38 (fun H locs hq hS => ?_)
          obtain ⟨g_33, hg_33, g_34, hg_34, hH⟩ := hq
          have hH : TH E (tbM (mD (.inl tp) (.inl sp) (.inl nu) (.inl un) (.inl (0, 18)) (.inl xt) (.inl wrb) (.inl nab) (.inl iwb)) (xD 660 g_33) ws kp (xD 660 g_34) rd m_second ty ik) H := hH
          have hqg_33 := hg_33.2
          have hBg_33 := okB hg_33.1.1
          have hLg_33 := hg_33.1.2
          have hBg_34 := okB hg_34.1
          have hLg_34 := hg_34.2
          refine lv_aload_n F.1 F.2.1 dX7_hurt_41 rfl (lv_at hl 0 rfl) ?_
          refine tGetR (j := 27) F hK hH (tyb ha0 (all1 rfl)) rfl (all1 rfl) clX7 (by decide) wd_7_2 dX7_hurt_42 (fun q_35 hq_35 _ => ?_)
          refine lv_iload_n F.1 F.2.1 dX7_hurt_45 rfl (lv_at hl 3 rfl) ?_
          refine tIaldB F hK hH (tyb hq_35 (all1 rfl)) (ixb (n := 14) r_26 rfl rfl) dX7_hurt_46 (fun z_36 hz_36 => ?_)
          refine lv_aload_n F.1 F.2.1 dX7_hurt_47 rfl (lv_at hl 0 rfl) ?_
          refine tGetR (j := 28) F hK hH (tyb ha0 (all1 rfl)) rfl (all1 rfl) clX7 (by decide) wd_7_3 dX7_hurt_48 (fun q_37 hq_37 _ => ?_)
          refine lv_iload_n F.1 F.2.1 dX7_hurt_51 rfl (lv_at hl 3 rfl) ?_
          refine tIaldB F hK hH (tyb hq_37 (all1 rfl)) (ixb (n := 14) r_26 rfl rfl) dX7_hurt_52 (fun z_38 hz_38 => ?_)
          refine lv_isub F.1 F.2.1 dX7_hurt_53 ?_
          refine topF (fun z_39 => ?_)
          refine lv_istore (lv' := [(4, .int z_39), (0, .ref a0), (1, .int a1), (2, .int a2), (3, .int a3)]) F.1 F.2.1 dX7_hurt_54 hl (by decide) rfl (fun ls hl => ?_)
          refine lv_iload F.1 F.2.1 dX7_hurt_56 (lv_at hl 0 rfl) ?_
          refine z_le (tgt := 66) F dX7_hurt_58 (by decide) (fun c_40 => ?_) (fun c_40 => ?_)
          · skip
            have r_41 : (-2147483648) ≤ z_39.toInt ∧ z_39.toInt ≤ 0 := by have h9_ := (i32b z_39); omega
            refine lv_iconst (v := 0) F.1 F.2.1 dX7_hurt_66 (by decide) ?_
            refine topK (a := 0) (by decide) (fun k_43 hk_43 => ?_)
            exact txI F hS dX7_hurt_67 rfl (⟨g_33, ⟨hg_33.1, hqg_33⟩, g_34, hg_34, (wkb (eqb hk_43) rfl rfl), hH⟩)
          · skip
            have r_42 : 1 ≤ z_39.toInt ∧ z_39.toInt ≤ 2147483647 := by have h9_ := (i32b z_39); omega
            refine lv_iload F.1 F.2.1 dX7_hurt_61 (lv_at hl 0 rfl) ?_
            refine lv_goto (tgt := 67) F.1 F.2.1 dX7_hurt_63 (by decide) ?_
            exact txI F hS dX7_hurt_67 rfl (⟨g_33, ⟨hg_33.1, hqg_33⟩, g_34, hg_34, (wkb r_42 rfl rfl), hH⟩)
        · skip
          refine lv_iconst (v := (-1)) F.1 F.2.1 dX7_hurt_29 (by decide) ?_
          refine topK (a := (-1)) (by decide) (fun k_44 hk_44 => ?_)
          exact txI F hS dX7_hurt_30 rfl (⟨X0, ⟨hX0, hqX0⟩, A, hA, (wkb (eqb hk_44) rfl rfl), hH⟩)
set_option maxHeartbeats 4000000 in
set_option maxRecDepth 100000 in
theorem c_X7_movable (E : Ev) (ws : TD) (kp : TD) (rd : TD) (ty : TD) (ik : TD) (un : Int × Int) (xt : Int × Int) (tp : Int × Int) (sp : Int × Int) (wrb : Int × Int) (nu : Int × Int) (nab : Int × Int) (iwb : Int × Int) (X0 : Nat → Int32) (A : Nat → Int32) (Z : Nat → Int32) (a0 : Nat) (a1 : Int32) (ha0 : eT E a0 ∈ [24]) (hX0 : okR X0) (hA : okR A) (hqX0 : sQ Z X0) : TcI E yX7_movable cX7_movable 4 .int ({ frames := 12, cells := 0, slots := 0, locals := 291 }) [.ref a0, .int a1] (fun H => TH E (tbM (mD (.inl tp) (.inl sp) (.inl nu) (.inl un) (.inl (0, 18)) (.inl xt) (.inl wrb) (.inl nab) (.inl iwb)) (xD 660 X0) ws kp (xD 660 A) rd m_second ty ik) H) (fun v H => ∃ X2 : Nat → Int32, (okR X2 ∧ sQ Z X2) ∧ ∃ A2 : Nat → Int32, (okR A2) ∧ ((-2147483648) ≤ v.toInt ∧ v.toInt ≤ 2147483647) ∧ TH E (tbM (mD (.inl tp) (.inl sp) (.inl nu) (.inl un) (.inl (0, 18)) (.inl xt) (.inl wrb) (.inl nab) (.inl iwb)) (xD 660 X2) ws kp (xD 660 A2) rd m_second ty ik) H) := by
  refine teI (by decide) (Nat.le_of_ble_eq_true rfl) ?_
  intro p_ ev_ s mi_ below_ meth cd_ ls F hK hN hO hH hS hl
  have hH : TH E (tbM (mD (.inl tp) (.inl sp) (.inl nu) (.inl un) (.inl (0, 18)) (.inl xt) (.inl wrb) (.inl nab) (.inl iwb)) (xD 660 X0) ws kp (xD 660 A) rd m_second ty ik) s.heap := hH
  have hl : lv_has ls 4 [(0, .ref a0), (1, .int a1)] := hl
  have hBX0 := okB hX0.1
  have hLX0 := hX0.2
  have hBA := okB hA.1
  have hLA := hA.2
  refine lv_aload_n F.1 F.2.1 dX7_movable_0 rfl (lv_at hl 0 rfl) ?_
  refine lv_iload_n F.1 F.2.1 dX7_movable_1 rfl (lv_at hl 1 rfl) ?_
  refine tVi (b := a0) (As := [.int a1]) (rest := []) F hK hN hO (c_X7_isRight E ws kp (xD 660 A) rd m_second ty ik un (0, 18) xt tp sp wrb nu nab iwb X0 a0 a1 ha0 ((hX0).1)) mv_X7_isRight wd_31_18 ⟨Nat.le_of_ble_eq_true rfl, Nat.le_of_ble_eq_true rfl⟩ ⟨Nat.le_of_ble_eq_true rfl, Nat.le_of_ble_eq_true rfl⟩ hH hS (tRecv hK hH (tyb ha0 (all1 rfl)) clX7) rfl hl.1 (Nat.le_of_ble_eq_true rfl) dX7_movable_2 (fun z_1 H locs hq hS => ?_)
  obtain ⟨f_2, f_3, f_4, hH⟩ := hq
  have hH : TH E (tbM (mD (.inl tp) (.inl sp) (.inl nu) (.inl un) (.inl (0, 18)) (.inl xt) (.inl wrb) (.inl nab) (.inl iwb)) (xD 660 X0) ws kp (xD 660 A) rd m_second ty ik) H := hH
  refine z_ne (tgt := 10) F dX7_movable_5 (by decide) (fun c_5 => ?_) (fun c_5 => ?_)
  · skip
    have r_6 : 1 ≤ z_1.toInt ∧ z_1.toInt ≤ 1 := by have h9_ := f_2; omega
    have r_7 : 0 ≤ a1.toInt ∧ a1.toInt ≤ 13 := by have h9_ := (i32b a1); omega
    refine lv_aload_n F.1 F.2.1 dX7_movable_10 rfl (lv_at hl 0 rfl) ?_
    refine tVv (b := a0) (As := []) (rest := []) F hK hN hO (c_X7_stays E ws kp rd ty ik un xt tp sp wrb nu nab iwb X0 A Z a0 ha0 hX0 hA hqX0) mv_X7_stays wd_37_12 ⟨Nat.le_of_ble_eq_true rfl, Nat.le_of_ble_eq_true rfl⟩ ⟨Nat.le_of_ble_eq_true rfl, Nat.le_of_ble_eq_true rfl⟩ hH hS (tRecv hK hH (tyb ha0 (all1 rfl)) clX7) rfl hl.1 (Nat.le_of_ble_eq_true rfl) dX7_movable_11 (fun H locs hq hS => ?_)
    obtain ⟨g_10, hg_10, g_11, hg_11, hH⟩ := hq
    have hH : TH E (tbM (mD (.inl tp) (.inl sp) (.inl nu) (.inl un) (.inl (0, 18)) (.inl xt) (.inl wrb) (.inl nab) (.inl iwb)) (xD 660 g_10) ws kp (xD 660 g_11) rd m_second ty ik) H := hH
    have hqg_10 := hg_10.2
    have hBg_10 := okB hg_10.1.1
    have hLg_10 := hg_10.1.2
    have hBg_11 := okB hg_11.1
    have hLg_11 := hg_11.2
    refine lv_iconst (v := 0) F.1 F.2.1 dX7_movable_14 (by decide) ?_
    refine topK (a := 0) (by decide) (fun k_12 hk_12 => ?_)
    refine lv_istore_n (lv' := [(2, .int k_12), (0, .ref a0), (1, .int a1)]) F.1 F.2.1 dX7_movable_15 rfl hl (by decide) rfl (fun ls hl => ?_)
    refine lv_iconst (v := 0) F.1 F.2.1 dX7_movable_16 (by decide) ?_
    refine topK (a := 0) (by decide) (fun k_13 hk_13 => ?_)
    refine lv_istore_n (lv' := [(3, .int k_13), (2, .int k_12), (0, .ref a0), (1, .int a1)]) F.1 F.2.1 dX7_movable_17 rfl hl (by decide) rfl (fun ls hl => ?_)
    refine wloop (σ := Int32 × Int32 × (Nat → Int32) × (Nat → Int32)) (fun n9 x9 H locs ls => (12 - x9.2.1.toInt + 1).toNat < n9 ∧ (0 ≤ x9.2.1.toInt ∧ x9.2.1.toInt ≤ 12) ∧ (okR x9.2.2.1) ∧ (okR x9.2.2.2) ∧ (sQ Z x9.2.2.1) ∧ TH E (tbM (mD (.inl tp) (.inl sp) (.inl nu) (.inl un) (.inl (0, 18)) (.inl xt) (.inl wrb) (.inl nab) (.inl iwb)) (xD 660 x9.2.2.1) ws kp (xD 660 x9.2.2.2) rd m_second ty ik) H ∧ va_S (eA E s.heap.size) s.heap H locs ∧ lv_has ls 4 [(0, .ref a0), (1, .int a1), (2, .int x9.1), (3, .int x9.2.1)]) ?_ (fun x9 H locs ls h => absurd h.1 (Nat.not_lt_zero _)) _ (k_12, k_13, g_10, g_11) ⟨Nat.lt_succ_self _, (wkb (eqb hk_13) rfl rfl), hg_10.1, hg_11, (show sQ Z g_10 from hqg_10), hH, hS, lv_sub hl [2, 3, 1, 0] rfl⟩
    intro n_18 ih_18 ⟨u_14, u_15, G_16, G_17⟩ H locs ls ⟨hm_18, hu_15, hG_16, hG_17, hcr18_0, hH, hS, hl⟩
    have hm_18 : (12 - u_15.toInt + 1).toNat < n_18 + 1 := hm_18
    have hu_15 : (0 ≤ u_15.toInt ∧ u_15.toInt ≤ 12) := hu_15
    have hG_16 : (okR G_16) := hG_16
    have hG_17 : (okR G_17) := hG_17
    have hcr18_0 : (sQ Z G_16) := hcr18_0
    have hH : TH E (tbM (mD (.inl tp) (.inl sp) (.inl nu) (.inl un) (.inl (0, 18)) (.inl xt) (.inl wrb) (.inl nab) (.inl iwb)) (xD 660 G_16) ws kp (xD 660 G_17) rd m_second ty ik) H := hH
    have hl : lv_has ls 4 [(0, .ref a0), (1, .int a1), (2, .int u_14), (3, .int u_15)] := hl
    have hBG_16 := okB hG_16.1
    have hLG_16 := hG_16.2
    have hBG_17 := okB hG_17.1
    have hLG_17 := hG_17.2
    have hqG_16 := hcr18_0
    refine lv_iload_n F.1 F.2.1 dX7_movable_18 rfl (lv_at hl 3 rfl) ?_
    refine lv_aload_n F.1 F.2.1 dX7_movable_19 rfl (lv_at hl 0 rfl) ?_
    refine tVi (b := a0) (As := []) (rest := [.int u_15]) F hK hN hO (c_X7_reaches E ws kp (xD 660 G_17) rd m_second ty ik un (0, 18) xt tp sp wrb nu nab iwb G_16 a0 ha0 ((hG_16).1)) mv_X7_reaches wd_28_7 ⟨Nat.le_of_ble_eq_true rfl, Nat.le_of_ble_eq_true rfl⟩ ⟨Nat.le_of_ble_eq_true rfl, Nat.le_of_ble_eq_true rfl⟩ hH hS (tRecv hK hH (tyb ha0 (all1 rfl)) clX7) rfl hl.1 (Nat.le_of_ble_eq_true rfl) dX7_movable_20 (fun z_18 H locs hq hS => ?_)
    obtain ⟨f_19, f_20, hH⟩ := hq
    have hH : TH E (tbM (mD (.inl tp) (.inl sp) (.inl nu) (.inl un) (.inl (0, 18)) (.inl xt) (.inl wrb) (.inl nab) (.inl iwb)) (xD 660 G_16) ws kp (xD 660 G_17) rd m_second ty ik) H := hH
    refine b_ge (tgt := 57) F dX7_movable_23 (by decide) (fun c_21 => ?_) (fun c_21 => ?_)
    · skip
      refine lv_iload_n F.1 F.2.1 dX7_movable_57 rfl (lv_at hl 2 rfl) ?_
      exact txI F hS dX7_movable_58 rfl (⟨G_16, ⟨hG_16, hqG_16⟩, G_17, hG_17, (i32b _), hH⟩)
    · skip
      have r_22 : 0 ≤ u_15.toInt ∧ u_15.toInt ≤ 11 := by have h9_ := hu_15; omega
      have r_23 : 1 ≤ z_18.toInt ∧ z_18.toInt ≤ 12 := by have h9_ := f_19; omega
      refine lv_iload_n F.1 F.2.1 dX7_movable_26 rfl (lv_at hl 3 rfl) ?_
      refine lv_aload_n F.1 F.2.1 dX7_movable_27 rfl (lv_at hl 0 rfl) ?_
      refine lv_iload_n F.1 F.2.1 dX7_movable_28 rfl (lv_at hl 1 rfl) ?_
      refine lv_iconst (v := 0) F.1 F.2.1 dX7_movable_29 (by decide) ?_
      refine topK (a := 0) (by decide) (fun k_24 hk_24 => ?_)
      refine tVi (b := a0) (As := [.int a1, .int k_24]) (rest := [.int u_15]) F hK hN hO (c_X7_of_0 E ws kp (xD 660 G_17) rd m_second ty ik un (0, 18) xt tp sp wrb nu nab iwb G_16 a0 a1 k_24 ha0 r_7 (eqb hk_24) ((hG_16).1)) mv_X7_of wd_26_20 ⟨Nat.le_of_ble_eq_true rfl, Nat.le_of_ble_eq_true rfl⟩ ⟨Nat.le_of_ble_eq_true rfl, Nat.le_of_ble_eq_true rfl⟩ hH hS (tRecv hK hH (tyb ha0 (all1 rfl)) clX7) rfl hl.1 (Nat.le_of_ble_eq_true rfl) dX7_movable_30 (fun z_25 H locs hq hS => ?_)
      obtain ⟨f_26, f_27, hH⟩ := hq
      have hH : TH E (tbM (mD (.inl tp) (.inl sp) (.inl nu) (.inl un) (.inl (0, 18)) (.inl xt) (.inl wrb) (.inl nab) (.inl iwb)) (xD 660 G_16) ws kp (xD 660 G_17) rd m_second ty ik) H := hH
      refine b_eq (tgt := 51) F dX7_movable_33 (by decide) (fun c_28 => ?_) (fun c_28 => ?_)
      · skip
        obtain ⟨x_29, ex_29, hx_29⟩ := iincB (c := 1) (lo := 1) (hi := 12) r_22 rfl
        refine lv_iinc (v := x_29) (lv' := [(3, .int x_29), (0, .ref a0), (1, .int a1), (2, .int u_14)]) F.1 F.2.1 dX7_movable_51 hl (k := 3) rfl ex_29 (by decide) rfl (fun ls hl => ?_)
        refine lv_goto (tgt := 18) F.1 F.2.1 dX7_movable_54 (by decide) ?_
        exact ih_18 (u_14, x_29, G_16, G_17) _ _ _ ⟨(show (12 - x_29.toInt + 1).toNat < n_18 from by omega), (wkb hx_29.2 rfl rfl), hG_16, hG_17, (show sQ Z G_16 from hqG_16), hH, hS, lv_sub hl [1, 2, 3, 0] rfl⟩
      · skip
        refine lv_aload_n F.1 F.2.1 dX7_movable_36 rfl (lv_at hl 0 rfl) ?_
        refine lv_iload_n F.1 F.2.1 dX7_movable_37 rfl (lv_at hl 1 rfl) ?_
        refine lv_iload_n F.1 F.2.1 dX7_movable_38 rfl (lv_at hl 3 rfl) ?_
        refine tVi (b := a0) (As := [.int a1, .int u_15]) (rest := []) F hK hN hO (c_X7_mayMove E ws kp rd ty ik un xt tp sp wrb nu nab iwb G_16 G_17 Z a0 a1 u_15 ha0 r_7 r_22 hG_16 hG_17 hqG_16) mv_X7_mayMove wd_38_4 ⟨Nat.le_of_ble_eq_true rfl, Nat.le_of_ble_eq_true rfl⟩ ⟨Nat.le_of_ble_eq_true rfl, Nat.le_of_ble_eq_true rfl⟩ hH hS (tRecv hK hH (tyb ha0 (all1 rfl)) clX7) rfl hl.1 (Nat.le_of_ble_eq_true rfl) dX7_movable_39 (fun z_30 H locs hq hS => ?_)
        obtain ⟨g_31, hg_31, g_32, hg_32, f_33, hH⟩ := hq
        have hH : TH E (tbM (mD (.inl tp) (.inl sp) (.inl nu) (.inl un) (.inl (0, 18)) (.inl xt) (.inl wrb) (.inl nab) (.inl iwb)) (xD 660 g_31) ws kp (xD 660 g_32) rd m_second ty ik) H := hH
        have hqg_31 := hg_31.2
        have hBg_31 := okB hg_31.1.1
        have hLg_31 := hg_31.1.2
        have hBg_32 := okB hg_32.1
        have hLg_32 := hg_32.2
        refine z_eq (tgt := 51) F dX7_movable_42 (by decide) (fun c_34 => ?_) (fun c_34 => ?_)
        · skip
          have r_35 : 0 ≤ z_30.toInt ∧ z_30.toInt ≤ 0 := by have h9_ := f_33; omega
          obtain ⟨x_37, ex_37, hx_37⟩ := iincB (c := 1) (lo := 1) (hi := 12) r_22 rfl
          refine lv_iinc (v := x_37) (lv' := [(3, .int x_37), (0, .ref a0), (1, .int a1), (2, .int u_14)]) F.1 F.2.1 dX7_movable_51 hl (k := 3) rfl ex_37 (by decide) rfl (fun ls hl => ?_)
          refine lv_goto (tgt := 18) F.1 F.2.1 dX7_movable_54 (by decide) ?_
          exact ih_18 (u_14, x_37, g_31, g_32) _ _ _ ⟨(show (12 - x_37.toInt + 1).toNat < n_18 from by omega), (wkb hx_37.2 rfl rfl), hg_31.1, hg_32, (show sQ Z g_31 from hqg_31), hH, hS, lv_sub hl [1, 2, 3, 0] rfl⟩
        · skip
          have r_36 : 1 ≤ z_30.toInt ∧ z_30.toInt ≤ 1 := by have h9_ := f_33; omega
          refine lv_iload_n F.1 F.2.1 dX7_movable_45 rfl (lv_at hl 2 rfl) ?_
          refine lv_iconst (v := 1) F.1 F.2.1 dX7_movable_46 (by decide) ?_
          refine topK (a := 1) (by decide) (fun k_38 hk_38 => ?_)
          refine lv_iload_n F.1 F.2.1 dX7_movable_47 rfl (lv_at hl 3 rfl) ?_
          refine lv_ishl F.1 F.2.1 dX7_movable_48 ?_
          refine topF (fun z_39 => ?_)
          refine lv_ior F.1 F.2.1 dX7_movable_49 ?_
          refine topF (fun z_40 => ?_)
          refine lv_istore_n (lv' := [(2, .int z_40), (0, .ref a0), (1, .int a1), (3, .int u_15)]) F.1 F.2.1 dX7_movable_50 rfl hl (by decide) rfl (fun ls hl => ?_)
          obtain ⟨x_41, ex_41, hx_41⟩ := iincB (c := 1) (lo := 1) (hi := 12) r_22 rfl
          refine lv_iinc (v := x_41) (lv' := [(3, .int x_41), (2, .int z_40), (0, .ref a0), (1, .int a1)]) F.1 F.2.1 dX7_movable_51 hl (k := 3) rfl ex_41 (by decide) rfl (fun ls hl => ?_)
          refine lv_goto (tgt := 18) F.1 F.2.1 dX7_movable_54 (by decide) ?_
          exact ih_18 (z_40, x_41, g_31, g_32) _ _ _ ⟨(show (12 - x_41.toInt + 1).toNat < n_18 from by omega), (wkb hx_41.2 rfl rfl), hg_31.1, hg_32, (show sQ Z g_31 from hqg_31), hH, hS, lv_sub hl [2, 3, 1, 0] rfl⟩
  · skip
    have r_8 : 0 ≤ z_1.toInt ∧ z_1.toInt ≤ 0 := by have h9_ := f_2; omega
    refine lv_iconst (v := (-1)) F.1 F.2.1 dX7_movable_8 (by decide) ?_
    refine topK (a := (-1)) (by decide) (fun k_42 hk_42 => ?_)
    exact txI F hS dX7_movable_9 rfl (⟨X0, ⟨hX0, hqX0⟩, A, hA, (wkb (eqb hk_42) rfl rfl), hH⟩)
set_option maxHeartbeats 4000000 in
set_option maxRecDepth 100000 in
theorem c_X7_firm (E : Ev) (ws : TD) (kp : TD) (rd : TD) (ty : TD) (ik : TD) (un : Int × Int) (xt : Int × Int) (tp : Int × Int) (sp : Int × Int) (wrb : Int × Int) (nu : Int × Int) (nab : Int × Int) (iwb : Int × Int) (X0 : Nat → Int32) (A : Nat → Int32) (Z : Nat → Int32) (a0 : Nat) (a1 : Int32) (a2 : Int32) (a3 : Int32) (ha0 : eT E a0 ∈ [24]) (hX0 : okR X0) (hA : okR A) (hqX0 : sQ Z X0) : TcI E yX7_firm cX7_firm 8 .int ({ frames := 9, cells := 0, slots := 0, locals := 222 }) [.ref a0, .int a1, .int a2, .int a3] (fun H => TH E (tbM (mD (.inl tp) (.inl sp) (.inl nu) (.inl un) (.inl (0, 18)) (.inl xt) (.inl wrb) (.inl nab) (.inl iwb)) (xD 660 X0) ws kp (xD 660 A) rd m_second ty ik) H) (fun v H => ∃ X2 : Nat → Int32, (okR X2 ∧ sQ Z X2) ∧ ∃ A2 : Nat → Int32, (okR A2) ∧ ((-2147483648) ≤ v.toInt ∧ v.toInt ≤ 2147483647) ∧ TH E (tbM (mD (.inl tp) (.inl sp) (.inl nu) (.inl un) (.inl (0, 18)) (.inl xt) (.inl wrb) (.inl nab) (.inl iwb)) (xD 660 X2) ws kp (xD 660 A2) rd m_second ty ik) H) := by
  refine teI (by decide) (Nat.le_of_ble_eq_true rfl) ?_
  intro p_ ev_ s mi_ below_ meth cd_ ls F hK hN hO hH hS hl
  have hH : TH E (tbM (mD (.inl tp) (.inl sp) (.inl nu) (.inl un) (.inl (0, 18)) (.inl xt) (.inl wrb) (.inl nab) (.inl iwb)) (xD 660 X0) ws kp (xD 660 A) rd m_second ty ik) s.heap := hH
  have hl : lv_has ls 8 [(0, .ref a0), (1, .int a1), (2, .int a2), (3, .int a3)] := hl
  have hBX0 := okB hX0.1
  have hLX0 := hX0.2
  have hBA := okB hA.1
  have hLA := hA.2
  refine lv_aload_n F.1 F.2.1 dX7_firm_0 rfl (lv_at hl 0 rfl) ?_
  refine lv_iload_n F.1 F.2.1 dX7_firm_1 rfl (lv_at hl 1 rfl) ?_
  refine tVi (b := a0) (As := [.int a1]) (rest := []) F hK hN hO (c_X7_isRight E ws kp (xD 660 A) rd m_second ty ik un (0, 18) xt tp sp wrb nu nab iwb X0 a0 a1 ha0 ((hX0).1)) mv_X7_isRight wd_31_18 ⟨Nat.le_of_ble_eq_true rfl, Nat.le_of_ble_eq_true rfl⟩ ⟨Nat.le_of_ble_eq_true rfl, Nat.le_of_ble_eq_true rfl⟩ hH hS (tRecv hK hH (tyb ha0 (all1 rfl)) clX7) rfl hl.1 (Nat.le_of_ble_eq_true rfl) dX7_firm_2 (fun z_1 H locs hq hS => ?_)
  obtain ⟨f_2, f_3, f_4, hH⟩ := hq
  have hH : TH E (tbM (mD (.inl tp) (.inl sp) (.inl nu) (.inl un) (.inl (0, 18)) (.inl xt) (.inl wrb) (.inl nab) (.inl iwb)) (xD 660 X0) ws kp (xD 660 A) rd m_second ty ik) H := hH
  refine z_eq (tgt := 32) F dX7_firm_5 (by decide) (fun c_5 => ?_) (fun c_5 => ?_)
  · skip
    have r_6 : 0 ≤ z_1.toInt ∧ z_1.toInt ≤ 0 := by have h9_ := f_2; omega
    refine lv_iconst (v := (-1)) F.1 F.2.1 dX7_firm_32 (by decide) ?_
    refine topK (a := (-1)) (by decide) (fun k_9 hk_9 => ?_)
    exact txI F hS dX7_firm_33 rfl (⟨X0, ⟨hX0, hqX0⟩, A, hA, (wkb (eqb hk_9) rfl rfl), hH⟩)
  · skip
    have r_7 : 1 ≤ z_1.toInt ∧ z_1.toInt ≤ 1 := by have h9_ := f_2; omega
    have r_8 : 0 ≤ a1.toInt ∧ a1.toInt ≤ 13 := by have h9_ := (i32b a1); omega
    refine lv_iload_n F.1 F.2.1 dX7_firm_8 rfl (lv_at hl 2 rfl) ?_
    refine tI2l F dX7_firm_9 (fun w_10 hw_10 => ?_)
    refine lv_lconst (v := 1) F.1 F.2.1 dX7_firm_10 (by decide) ?_
    refine topKL (a := 1) (by decide) (fun j_11 hj_11 => ?_)
    refine lv_ldc2 (own := RX7) (v := 360) F.1 F.2.1 F.2.2.2.2.1 (F.2.2.2.2.2.2.1 _ wd_47_21) dX7_firm_11 ?_
    refine topKL (a := 360) (by decide) (fun j_12 hj_12 => ?_)
    refine tSi (As := [.long w_10, .long j_11, .long j_12]) (rest := []) F hK hN hO (c_X7_in E (mD (.inl tp) (.inl sp) (.inl nu) (.inl un) (.inl (0, 18)) (.inl xt) (.inl wrb) (.inl nab) (.inl iwb)) (xD 660 X0) ws kp (xD 660 A) rd m_second ty ik w_10 j_11 j_12) ms_X7_in wd_8_10 ⟨Nat.le_of_ble_eq_true rfl, Nat.le_of_ble_eq_true rfl⟩ ⟨Nat.le_of_ble_eq_true rfl, Nat.le_of_ble_eq_true rfl⟩ hH hS rfl hl.1 (Nat.le_of_ble_eq_true rfl) dX7_firm_14 (fun z_13 H locs hq hS => ?_)
    obtain ⟨f_14, f_15, hH⟩ := hq
    have hH : TH E (tbM (mD (.inl tp) (.inl sp) (.inl nu) (.inl un) (.inl (0, 18)) (.inl xt) (.inl wrb) (.inl nab) (.inl iwb)) (xD 660 X0) ws kp (xD 660 A) rd m_second ty ik) H := hH
    refine z_eq (tgt := 32) F dX7_firm_17 (by decide) (fun c_16 => ?_) (fun c_16 => ?_)
    · skip
      have r_17 : 0 ≤ z_13.toInt ∧ z_13.toInt ≤ 0 := by have h9_ := f_14; omega
      refine lv_iconst (v := (-1)) F.1 F.2.1 dX7_firm_32 (by decide) ?_
      refine topK (a := (-1)) (by decide) (fun k_20 hk_20 => ?_)
      exact txI F hS dX7_firm_33 rfl (⟨X0, ⟨hX0, hqX0⟩, A, hA, (wkb (eqb hk_20) rfl rfl), hH⟩)
    · skip
      have r_18 : 1 ≤ z_13.toInt ∧ z_13.toInt ≤ 1 := by have h9_ := f_14; omega
      have r_19 : 1 ≤ a2.toInt ∧ a2.toInt ≤ 360 := by have h9_ := (i32b a2); omega
      refine lv_iload_n F.1 F.2.1 dX7_firm_20 rfl (lv_at hl 3 rfl) ?_
      refine tI2l F dX7_firm_21 (fun w_21 hw_21 => ?_)
      refine lv_lconst (v := 0) F.1 F.2.1 dX7_firm_22 (by decide) ?_
      refine topKL (a := 0) (by decide) (fun j_22 hj_22 => ?_)
      refine lv_ldc2 (own := RX7) (v := 2) F.1 F.2.1 F.2.2.2.2.1 (F.2.2.2.2.2.2.1 _ wd_47_22) dX7_firm_23 ?_
      refine topKL (a := 2) (by decide) (fun j_23 hj_23 => ?_)
      refine tSi (As := [.long w_21, .long j_22, .long j_23]) (rest := []) F hK hN hO (c_X7_in E (mD (.inl tp) (.inl sp) (.inl nu) (.inl un) (.inl (0, 18)) (.inl xt) (.inl wrb) (.inl nab) (.inl iwb)) (xD 660 X0) ws kp (xD 660 A) rd m_second ty ik w_21 j_22 j_23) ms_X7_in wd_8_10 ⟨Nat.le_of_ble_eq_true rfl, Nat.le_of_ble_eq_true rfl⟩ ⟨Nat.le_of_ble_eq_true rfl, Nat.le_of_ble_eq_true rfl⟩ hH hS rfl hl.1 (Nat.le_of_ble_eq_true rfl) dX7_firm_26 (fun z_24 H locs hq hS => ?_)
      obtain ⟨f_25, f_26, hH⟩ := hq
      have hH : TH E (tbM (mD (.inl tp) (.inl sp) (.inl nu) (.inl un) (.inl (0, 18)) (.inl xt) (.inl wrb) (.inl nab) (.inl iwb)) (xD 660 X0) ws kp (xD 660 A) rd m_second ty ik) H := hH
      refine z_ne (tgt := 34) F dX7_firm_29 (by decide) (fun c_27 => ?_) (fun c_27 => ?_)
      · skip
        have r_28 : 1 ≤ z_24.toInt ∧ z_24.toInt ≤ 1 := by have h9_ := f_25; omega
        have r_29 : 0 ≤ a3.toInt ∧ a3.toInt ≤ 2 := by have h9_ := (i32b a3); omega
        refine lv_iconst (v := 0) F.1 F.2.1 dX7_firm_34 (by decide) ?_
        refine topK (a := 0) (by decide) (fun k_31 hk_31 => ?_)
        refine lv_istore (lv' := [(4, .int k_31), (0, .ref a0), (1, .int a1), (2, .int a2), (3, .int a3)]) F.1 F.2.1 dX7_firm_35 hl (by decide) rfl (fun ls hl => ?_)
        refine lv_iconst (v := (-1)) F.1 F.2.1 dX7_firm_37 (by decide) ?_
        refine topK (a := (-1)) (by decide) (fun k_32 hk_32 => ?_)
        refine lv_istore (lv' := [(5, .int k_32), (4, .int k_31), (0, .ref a0), (1, .int a1), (2, .int a2), (3, .int a3)]) F.1 F.2.1 dX7_firm_38 hl (by decide) rfl (fun ls hl => ?_)
        refine lv_iconst (v := 0) F.1 F.2.1 dX7_firm_40 (by decide) ?_
        refine topK (a := 0) (by decide) (fun k_33 hk_33 => ?_)
        refine lv_istore (lv' := [(6, .int k_33), (5, .int k_32), (4, .int k_31), (0, .ref a0), (1, .int a1), (2, .int a2), (3, .int a3)]) F.1 F.2.1 dX7_firm_41 hl (by decide) rfl (fun ls hl => ?_)
        refine lv_aload_n F.1 F.2.1 dX7_firm_43 rfl (lv_at hl 3 rfl) ?_
        refine tVv (b := a0) (As := []) (rest := []) F hK hN hO (c_X7_putsAside E ws kp rd m_second ty ik un (0, 18) xt tp sp wrb nu nab iwb X0 A Z a0 ha0 hX0 hqX0) mv_X7_putsAside wd_37_16 ⟨Nat.le_of_ble_eq_true rfl, Nat.le_of_ble_eq_true rfl⟩ ⟨Nat.le_of_ble_eq_true rfl, Nat.le_of_ble_eq_true rfl⟩ hH hS (tRecv hK hH (tyb ha0 (all1 rfl)) clX7) rfl hl.1 (Nat.le_of_ble_eq_true rfl) dX7_firm_44 (fun H locs hq hS => ?_)
        obtain ⟨g_35, hg_35, hH⟩ := hq
        have hH : TH E (tbM (mD (.inl tp) (.inl sp) (.inl nu) (.inl un) (.inl (0, 18)) (.inl xt) (.inl wrb) (.inl nab) (.inl iwb)) (xD 660 X0) ws kp (xD 660 g_35) rd m_second ty ik) H := hH
        have hqg_35 := hg_35.2
        have hBg_35 := okB hg_35.1.1
        have hLg_35 := hg_35.1.2
        refine lv_iconst (v := 0) F.1 F.2.1 dX7_firm_47 (by decide) ?_
        refine topK (a := 0) (by decide) (fun k_36 hk_36 => ?_)
        refine lv_istore (lv' := [(7, .int k_36), (6, .int k_33), (5, .int k_32), (4, .int k_31), (0, .ref a0), (1, .int a1), (2, .int a2), (3, .int a3)]) F.1 F.2.1 dX7_firm_48 hl (by decide) rfl (fun ls hl => ?_)
        refine wloop (σ := Int32 × Int32 × Int32 × Int32 × (Nat → Int32)) (fun n9 x9 H locs ls => (360 - x9.2.2.2.1.toInt + 1).toNat < n9 ∧ ((-1) ≤ x9.2.1.toInt ∧ x9.2.1.toInt ≤ 29997) ∧ (0 ≤ x9.2.2.2.1.toInt ∧ x9.2.2.2.1.toInt ≤ 360) ∧ (okR x9.2.2.2.2) ∧ (sQ Z x9.2.2.2.2) ∧ TH E (tbM (mD (.inl tp) (.inl sp) (.inl nu) (.inl un) (.inl (0, 18)) (.inl xt) (.inl wrb) (.inl nab) (.inl iwb)) (xD 660 x9.2.2.2.2) ws kp (xD 660 g_35) rd m_second ty ik) H ∧ va_S (eA E s.heap.size) s.heap H locs ∧ lv_has ls 8 [(0, .ref a0), (1, .int a1), (2, .int a2), (3, .int a3), (4, .int x9.1), (5, .int x9.2.1), (6, .int x9.2.2.1), (7, .int x9.2.2.2.1)]) ?_ (fun x9 H locs ls h => absurd h.1 (Nat.not_lt_zero _)) _ (k_31, k_32, k_33, k_36, X0) ⟨Nat.lt_succ_self _, (wkb (eqb hk_32) rfl rfl), (wkb (eqb hk_36) rfl rfl), hX0, (show sQ Z X0 from hqX0), hH, hS, lv_sub hl [4, 5, 6, 7, 3, 2, 1, 0] rfl⟩
        intro n_50 ih_50 ⟨u_37, u_38, u_39, u_40, G_41⟩ H locs ls ⟨hm_50, hu_38, hu_40, hG_41, hcr50_0, hH, hS, hl⟩
        have hm_50 : (360 - u_40.toInt + 1).toNat < n_50 + 1 := hm_50
        have hu_38 : ((-1) ≤ u_38.toInt ∧ u_38.toInt ≤ 29997) := hu_38
        have hu_40 : (0 ≤ u_40.toInt ∧ u_40.toInt ≤ 360) := hu_40
        have hG_41 : (okR G_41) := hG_41
        have hcr50_0 : (sQ Z G_41) := hcr50_0
        have hH : TH E (tbM (mD (.inl tp) (.inl sp) (.inl nu) (.inl un) (.inl (0, 18)) (.inl xt) (.inl wrb) (.inl nab) (.inl iwb)) (xD 660 G_41) ws kp (xD 660 g_35) rd m_second ty ik) H := hH
        have hl : lv_has ls 8 [(0, .ref a0), (1, .int a1), (2, .int a2), (3, .int a3), (4, .int u_37), (5, .int u_38), (6, .int u_39), (7, .int u_40)] := hl
        have hBG_41 := okB hG_41.1
        have hLG_41 := hG_41.2
        have hqG_41 := hcr50_0
        refine lv_iload F.1 F.2.1 dX7_firm_50 (lv_at hl 7 rfl) ?_
        refine lv_iload_n F.1 F.2.1 dX7_firm_52 rfl (lv_at hl 2 rfl) ?_
        refine b_ge (tgt := 121) F dX7_firm_53 (by decide) (fun c_42 => ?_) (fun c_42 => ?_)
        · skip
          have r_43 : 1 ≤ u_40.toInt ∧ u_40.toInt ≤ 360 := by have h9_ := hu_40; omega
          refine lv_aload_n F.1 F.2.1 dX7_firm_121 rfl (lv_at hl 0 rfl) ?_
          refine tVv (b := a0) (As := []) (rest := []) F hK hN hO (c_X7_takesBack E ws kp rd m_second ty ik un (0, 18) xt tp sp wrb nu nab iwb G_41 g_35 Z a0 ha0 hG_41 hg_35.1 hqg_35) mv_X7_takesBack wd_38_0 ⟨Nat.le_of_ble_eq_true rfl, Nat.le_of_ble_eq_true rfl⟩ ⟨Nat.le_of_ble_eq_true rfl, Nat.le_of_ble_eq_true rfl⟩ hH hS (tRecv hK hH (tyb ha0 (all1 rfl)) clX7) rfl hl.1 (Nat.le_of_ble_eq_true rfl) dX7_firm_122 (fun H locs hq hS => ?_)
          obtain ⟨g_46, hg_46, hH⟩ := hq
          have hH : TH E (tbM (mD (.inl tp) (.inl sp) (.inl nu) (.inl un) (.inl (0, 18)) (.inl xt) (.inl wrb) (.inl nab) (.inl iwb)) (xD 660 g_46) ws kp (xD 660 g_35) rd m_second ty ik) H := hH
          have hqg_46 := hg_46.2
          have hBg_46 := okB hg_46.1.1
          have hLg_46 := hg_46.1.2
          refine lv_iload_n F.1 F.2.1 dX7_firm_125 rfl (lv_at hl 3 rfl) ?_
          refine z_ne (tgt := 134) F dX7_firm_126 (by decide) (fun c_47 => ?_) (fun c_47 => ?_)
          · skip
            have r_48 : 1 ≤ a3.toInt ∧ a3.toInt ≤ 2 := by have h9_ := r_29; omega
            refine lv_iload_n F.1 F.2.1 dX7_firm_134 rfl (lv_at hl 3 rfl) ?_
            refine lv_iconst (v := 1) F.1 F.2.1 dX7_firm_135 (by decide) ?_
            refine topK (a := 1) (by decide) (fun k_50 hk_50 => ?_)
            refine b_ne (tgt := 144) F dX7_firm_136 (by decide) (fun c_51 => ?_) (fun c_51 => ?_)
            · skip
              have r_52 : 2 ≤ a3.toInt ∧ a3.toInt ≤ 2 := by have h9_ := r_48; omega
              refine lv_iload F.1 F.2.1 dX7_firm_144 (lv_at hl 6 rfl) ?_
              exact txI F hS dX7_firm_146 rfl (⟨g_46, ⟨hg_46.1, hqg_46⟩, g_35, hg_35.1, (i32b _), hH⟩)
            · skip
              have r_53 : 1 ≤ a3.toInt ∧ a3.toInt ≤ 1 := by have h9_ := r_48; omega
              refine lv_iload F.1 F.2.1 dX7_firm_139 (lv_at hl 5 rfl) ?_
              refine lv_goto (tgt := 146) F.1 F.2.1 dX7_firm_141 (by decide) ?_
              exact txI F hS dX7_firm_146 rfl (⟨g_46, ⟨hg_46.1, hqg_46⟩, g_35, hg_35.1, (wkb hu_38 rfl rfl), hH⟩)
          · skip
            have r_49 : 0 ≤ a3.toInt ∧ a3.toInt ≤ 0 := by have h9_ := r_29; omega
            refine lv_iload F.1 F.2.1 dX7_firm_129 (lv_at hl 4 rfl) ?_
            refine lv_goto (tgt := 146) F.1 F.2.1 dX7_firm_131 (by decide) ?_
            exact txI F hS dX7_firm_146 rfl (⟨g_46, ⟨hg_46.1, hqg_46⟩, g_35, hg_35.1, (i32b _), hH⟩)
        · skip
          have r_44 : 0 ≤ u_40.toInt ∧ u_40.toInt ≤ 359 := by have h9_ := hu_40; omega
          refine lv_aload_n F.1 F.2.1 dX7_firm_56 rfl (lv_at hl 0 rfl) ?_
          refine tVv (b := a0) (As := []) (rest := []) F hK hN hO (c_X7_works E ws kp (xD 660 g_35) rd ty ik un xt tp sp wrb nu nab iwb G_41 a0 ha0 hG_41) mv_X7_works wd_25_15 ⟨Nat.le_of_ble_eq_true rfl, Nat.le_of_ble_eq_true rfl⟩ ⟨Nat.le_of_ble_eq_true rfl, Nat.le_of_ble_eq_true rfl⟩ hH hS (tRecv hK hH (tyb ha0 (all1 rfl)) clX7) rfl hl.1 (Nat.le_of_ble_eq_true rfl) dX7_firm_57 (fun H locs hq hS => ?_)
          have hH := hq
          have hH : TH E (tbM (mD (.inl tp) (.inl sp) (.inl nu) (.inl un) (.inl (0, 18)) (.inl xt) (.inl wrb) (.inl nab) (.inl iwb)) (xD 660 G_41) ws kp (xD 660 g_35) rd m_second ty ik) H := hH
          refine lv_iload F.1 F.2.1 dX7_firm_60 (lv_at hl 6 rfl) ?_
          refine lv_aload_n F.1 F.2.1 dX7_firm_62 rfl (lv_at hl 0 rfl) ?_
          refine lv_iload_n F.1 F.2.1 dX7_firm_63 rfl (lv_at hl 1 rfl) ?_
          refine tVi (b := a0) (As := [.int a1]) (rest := [.int u_39]) F hK hN hO (c_X7_isShort E ws kp (xD 660 g_35) rd ty ik un (0, 18) xt tp sp wrb nu nab iwb G_41 a0 a1 ha0 r_8 hG_41) mv_X7_isShort wd_30_2 ⟨Nat.le_of_ble_eq_true rfl, Nat.le_of_ble_eq_true rfl⟩ ⟨Nat.le_of_ble_eq_true rfl, Nat.le_of_ble_eq_true rfl⟩ hH hS (tRecv hK hH (tyb ha0 (all1 rfl)) clX7) rfl hl.1 (Nat.le_of_ble_eq_true rfl) dX7_firm_64 (fun z_55 H locs hq hS => ?_)
          obtain ⟨f_56, hH⟩ := hq
          have hH : TH E (tbM (mD (.inl tp) (.inl sp) (.inl nu) (.inl un) (.inl (0, 18)) (.inl xt) (.inl wrb) (.inl nab) (.inl iwb)) (xD 660 G_41) ws kp (xD 660 g_35) rd m_second ty ik) H := hH
          refine wjoin (σ := Int32) (pcj := 75) (stj := fun x9 => [.int x9, .int u_39]) (fun x9 H locs ls => (0 ≤ x9.toInt ∧ x9.toInt ≤ 1) ∧ TH E (tbM (mD (.inl tp) (.inl sp) (.inl nu) (.inl un) (.inl (0, 18)) (.inl xt) (.inl wrb) (.inl nab) (.inl iwb)) (xD 660 G_41) ws kp (xD 660 g_35) rd m_second ty ik) H ∧ va_S (eA E s.heap.size) s.heap H locs ∧ lv_has ls 8 [(0, .ref a0), (1, .int a1), (2, .int a2), (3, .int a3), (4, .int u_37), (5, .int u_38), (7, .int u_40)]) (fun u_57 H locs ls h_ => ?_) (fun J_75 => ?_)
          · skip
            obtain ⟨hu_57, hH, hS, hl⟩ := h_
            have hu_57 : (0 ≤ u_57.toInt ∧ u_57.toInt ≤ 1) := hu_57
            have hH : TH E (tbM (mD (.inl tp) (.inl sp) (.inl nu) (.inl un) (.inl (0, 18)) (.inl xt) (.inl wrb) (.inl nab) (.inl iwb)) (xD 660 G_41) ws kp (xD 660 g_35) rd m_second ty ik) H := hH
            have hl : lv_has ls 8 [(0, .ref a0), (1, .int a1), (2, .int a2), (3, .int a3), (4, .int u_37), (5, .int u_38), (7, .int u_40)] := hl
            show W _ _ _ _ _ _ _ _ _ _ _ _ _ _ _ (F0 _ _ _ [.int u_57, .int u_39])
            refine lv_iadd F.1 F.2.1 dX7_firm_75 ?_
            refine topF (fun z_58 => ?_)
            refine lv_istore (lv' := [(6, .int z_58), (0, .ref a0), (1, .int a1), (2, .int a2), (3, .int a3), (4, .int u_37), (5, .int u_38), (7, .int u_40)]) F.1 F.2.1 dX7_firm_76 hl (by decide) rfl (fun ls hl => ?_)
            refine lv_aload_n F.1 F.2.1 dX7_firm_78 rfl (lv_at hl 1 rfl) ?_
            refine tVv (b := a0) (As := []) (rest := []) F hK hN hO (c_X7_passes E ws kp (xD 660 g_35) rd ty ik un xt tp sp wrb nu nab iwb G_41 Z a0 ha0 hG_41 hqG_41) mv_X7_passes wd_25_11 ⟨Nat.le_of_ble_eq_true rfl, Nat.le_of_ble_eq_true rfl⟩ ⟨Nat.le_of_ble_eq_true rfl, Nat.le_of_ble_eq_true rfl⟩ hH hS (tRecv hK hH (tyb ha0 (all1 rfl)) clX7) rfl hl.1 (Nat.le_of_ble_eq_true rfl) dX7_firm_79 (fun H locs hq hS => ?_)
            obtain ⟨g_60, hg_60, hH⟩ := hq
            have hH : TH E (tbM (mD (.inl tp) (.inl sp) (.inl nu) (.inl un) (.inl (0, 18)) (.inl xt) (.inl wrb) (.inl nab) (.inl iwb)) (xD 660 g_60) ws kp (xD 660 g_35) rd m_second ty ik) H := hH
            have hqg_60 := hg_60.2
            have hBg_60 := okB hg_60.1.1
            have hLg_60 := hg_60.1.2
            refine lv_iload F.1 F.2.1 dX7_firm_82 (lv_at hl 5 rfl) ?_
            refine lv_aload_n F.1 F.2.1 dX7_firm_84 rfl (lv_at hl 1 rfl) ?_
            refine lv_iload_n F.1 F.2.1 dX7_firm_85 rfl (lv_at hl 2 rfl) ?_
            refine tVi (b := a0) (As := [.int a1]) (rest := [.int u_37]) F hK hN hO (c_X7_allOf E (xD 660 g_60) ws kp (xD 660 g_35) rd ty ik un (0, 18) xt tp sp wrb nu nab iwb a0 a1 ha0 r_8) mv_X7_allOf wd_29_22 ⟨Nat.le_of_ble_eq_true rfl, Nat.le_of_ble_eq_true rfl⟩ ⟨Nat.le_of_ble_eq_true rfl, Nat.le_of_ble_eq_true rfl⟩ hH hS (tRecv hK hH (tyb ha0 (all1 rfl)) clX7) rfl hl.1 (Nat.le_of_ble_eq_true rfl) dX7_firm_86 (fun z_61 H locs hq hS => ?_)
            obtain ⟨f_62, hH⟩ := hq
            have hH : TH E (tbM (mD (.inl tp) (.inl sp) (.inl nu) (.inl un) (.inl (0, 18)) (.inl xt) (.inl wrb) (.inl nab) (.inl iwb)) (xD 660 g_60) ws kp (xD 660 g_35) rd m_second ty ik) H := hH
            refine lv_iadd F.1 F.2.1 dX7_firm_89 ?_
            refine topF (fun z_63 => ?_)
            refine lv_istore (lv' := [(4, .int z_63), (6, .int z_58), (0, .ref a0), (1, .int a1), (2, .int a2), (3, .int a3), (5, .int u_38), (7, .int u_40)]) F.1 F.2.1 dX7_firm_90 hl (by decide) rfl (fun ls hl => ?_)
            refine lv_iload F.1 F.2.1 dX7_firm_92 (lv_at hl 6 rfl) ?_
            refine lv_iconst (v := (-1)) F.1 F.2.1 dX7_firm_94 (by decide) ?_
            refine topK (a := (-1)) (by decide) (fun k_64 hk_64 => ?_)
            refine wjoin (σ := Unit) (pcj := 108) (stj := fun x9 => []) (fun x9 H locs ls => TH E (tbM (mD (.inl tp) (.inl sp) (.inl nu) (.inl un) (.inl (0, 18)) (.inl xt) (.inl wrb) (.inl nab) (.inl iwb)) (xD 660 g_60) ws kp (xD 660 g_35) rd m_second ty ik) H ∧ va_S (eA E s.heap.size) s.heap H locs ∧ lv_has ls 8 [(0, .ref a0), (1, .int a1), (2, .int a2), (3, .int a3), (4, .int z_63), (6, .int z_58), (7, .int u_40)]) (fun x9 H locs ls h_ => ?_) (fun J_108 => ?_)
            · skip
              obtain ⟨hH, hS, hl⟩ := h_
              have hH : TH E (tbM (mD (.inl tp) (.inl sp) (.inl nu) (.inl un) (.inl (0, 18)) (.inl xt) (.inl wrb) (.inl nab) (.inl iwb)) (xD 660 g_60) ws kp (xD 660 g_35) rd m_second ty ik) H := hH
              have hl : lv_has ls 8 [(0, .ref a0), (1, .int a1), (2, .int a2), (3, .int a3), (4, .int z_63), (6, .int z_58), (7, .int u_40)] := hl
              show W _ _ _ _ _ _ _ _ _ _ _ _ _ _ _ (F0 _ _ _ [])
              refine lv_aload_n F.1 F.2.1 dX7_firm_108 rfl (lv_at hl 0 rfl) ?_
              refine lv_iload_n F.1 F.2.1 dX7_firm_109 rfl (lv_at hl 1 rfl) ?_
              refine tVi (b := a0) (As := [.int a1]) (rest := []) F hK hN hO (c_X7_allOf E (xD 660 g_60) ws kp (xD 660 g_35) rd ty ik un (0, 18) xt tp sp wrb nu nab iwb a0 a1 ha0 r_8) mv_X7_allOf wd_29_22 ⟨Nat.le_of_ble_eq_true rfl, Nat.le_of_ble_eq_true rfl⟩ ⟨Nat.le_of_ble_eq_true rfl, Nat.le_of_ble_eq_true rfl⟩ hH hS (tRecv hK hH (tyb ha0 (all1 rfl)) clX7) rfl hl.1 (Nat.le_of_ble_eq_true rfl) dX7_firm_110 (fun z_65 H locs hq hS => ?_)
              obtain ⟨f_66, hH⟩ := hq
              have hH : TH E (tbM (mD (.inl tp) (.inl sp) (.inl nu) (.inl un) (.inl (0, 18)) (.inl xt) (.inl wrb) (.inl nab) (.inl iwb)) (xD 660 g_60) ws kp (xD 660 g_35) rd m_second ty ik) H := hH
              refine lv_istore (lv' := [(5, .int z_65), (0, .ref a0), (1, .int a1), (2, .int a2), (3, .int a3), (4, .int z_63), (6, .int z_58), (7, .int u_40)]) F.1 F.2.1 dX7_firm_113 hl (by decide) rfl (fun ls hl => ?_)
              obtain ⟨x_67, ex_67, hx_67⟩ := iincB (c := 1) (lo := 1) (hi := 360) r_44 rfl
              refine lv_iinc (v := x_67) (lv' := [(7, .int x_67), (5, .int z_65), (0, .ref a0), (1, .int a1), (2, .int a2), (3, .int a3), (4, .int z_63), (6, .int z_58)]) F.1 F.2.1 dX7_firm_115 hl (k := 7) rfl ex_67 (by decide) rfl (fun ls hl => ?_)
              refine lv_goto (tgt := 50) F.1 F.2.1 dX7_firm_118 (by decide) ?_
              exact ih_50 (z_63, z_65, z_58, x_67, g_60) _ _ _ ⟨(show (360 - x_67.toInt + 1).toNat < n_50 from by omega), (wkb f_66 rfl rfl), (wkb hx_67.2 rfl rfl), hg_60.1, (show sQ Z g_60 from hqg_60), hH, hS, lv_sub hl [2, 3, 4, 5, 6, 1, 7, 0] rfl⟩
            refine b_eq (tgt := 108) F dX7_firm_95 (by decide) (fun c_68 => ?_) (fun c_68 => ?_)
            · skip
              have r_69 : (-1) ≤ u_38.toInt ∧ u_38.toInt ≤ (-1) := by have h9_ := hu_38; omega
              exact J_108 () _ _ _ ⟨hH, hS, lv_sub hl [2, 3, 4, 5, 0, 1, 7] rfl⟩
            · skip
              have r_70 : 0 ≤ u_38.toInt ∧ u_38.toInt ≤ 29997 := by have h9_ := hu_38; omega
              refine lv_aload_n F.1 F.2.1 dX7_firm_98 rfl (lv_at hl 2 rfl) ?_
              refine lv_iload_n F.1 F.2.1 dX7_firm_99 rfl (lv_at hl 3 rfl) ?_
              refine tVi (b := a0) (As := [.int a1]) (rest := []) F hK hN hO (c_X7_allOf E (xD 660 g_60) ws kp (xD 660 g_35) rd ty ik un (0, 18) xt tp sp wrb nu nab iwb a0 a1 ha0 r_8) mv_X7_allOf wd_29_22 ⟨Nat.le_of_ble_eq_true rfl, Nat.le_of_ble_eq_true rfl⟩ ⟨Nat.le_of_ble_eq_true rfl, Nat.le_of_ble_eq_true rfl⟩ hH hS (tRecv hK hH (tyb ha0 (all1 rfl)) clX7) rfl hl.1 (Nat.le_of_ble_eq_true rfl) dX7_firm_100 (fun z_71 H locs hq hS => ?_)
              obtain ⟨f_72, hH⟩ := hq
              have hH : TH E (tbM (mD (.inl tp) (.inl sp) (.inl nu) (.inl un) (.inl (0, 18)) (.inl xt) (.inl wrb) (.inl nab) (.inl iwb)) (xD 660 g_60) ws kp (xD 660 g_35) rd m_second ty ik) H := hH
              refine lv_iload F.1 F.2.1 dX7_firm_103 (lv_at hl 6 rfl) ?_
              refine b_ge (tgt := 115) F dX7_firm_105 (by decide) (fun c_73 => ?_) (fun c_73 => ?_)
              · skip
                obtain ⟨x_76, ex_76, hx_76⟩ := iincB (c := 1) (lo := 1) (hi := 360) r_44 rfl
                refine lv_iinc (v := x_76) (lv' := [(7, .int x_76), (4, .int z_63), (6, .int z_58), (0, .ref a0), (1, .int a1), (2, .int a2), (3, .int a3), (5, .int u_38)]) F.1 F.2.1 dX7_firm_115 hl (k := 7) rfl ex_76 (by decide) rfl (fun ls hl => ?_)
                refine lv_goto (tgt := 50) F.1 F.2.1 dX7_firm_118 (by decide) ?_
                exact ih_50 (z_63, u_38, z_58, x_76, g_60) _ _ _ ⟨(show (360 - x_76.toInt + 1).toNat < n_50 from by omega), (wkb r_70 rfl rfl), (wkb hx_76.2 rfl rfl), hg_60.1, (show sQ Z g_60 from hqg_60), hH, hS, lv_sub hl [3, 4, 5, 6, 1, 7, 2, 0] rfl⟩
              · skip
                have r_74 : 0 ≤ z_71.toInt ∧ z_71.toInt ≤ 29996 := by have h9_ := f_72; omega
                have r_75 : 1 ≤ u_38.toInt ∧ u_38.toInt ≤ 29997 := by have h9_ := r_70; omega
                exact J_108 () _ _ _ ⟨hH, hS, lv_sub hl [2, 3, 4, 5, 0, 1, 7] rfl⟩
          refine z_eq (tgt := 74) F dX7_firm_67 (by decide) (fun c_77 => ?_) (fun c_77 => ?_)
          · skip
            have r_78 : 0 ≤ z_55.toInt ∧ z_55.toInt ≤ 0 := by have h9_ := f_56; omega
            refine lv_iconst (v := 0) F.1 F.2.1 dX7_firm_74 (by decide) ?_
            refine topK (a := 0) (by decide) (fun k_80 hk_80 => ?_)
            exact J_75 (k_80) _ _ _ ⟨(wkb (eqb hk_80) rfl rfl), hH, hS, lv_sub hl [0, 1, 2, 3, 4, 5, 7] rfl⟩
          · skip
            have r_79 : 1 ≤ z_55.toInt ∧ z_55.toInt ≤ 1 := by have h9_ := f_56; omega
            refine lv_iconst (v := 1) F.1 F.2.1 dX7_firm_70 (by decide) ?_
            refine topK (a := 1) (by decide) (fun k_81 hk_81 => ?_)
            refine lv_goto (tgt := 75) F.1 F.2.1 dX7_firm_71 (by decide) ?_
            exact J_75 (k_81) _ _ _ ⟨(wkb (eqb hk_81) rfl rfl), hH, hS, lv_sub hl [0, 1, 2, 3, 4, 5, 7] rfl⟩
      · skip
        have r_30 : 0 ≤ z_24.toInt ∧ z_24.toInt ≤ 0 := by have h9_ := f_25; omega
        refine lv_iconst (v := (-1)) F.1 F.2.1 dX7_firm_32 (by decide) ?_
        refine topK (a := (-1)) (by decide) (fun k_82 hk_82 => ?_)
        exact txI F hS dX7_firm_33 rfl (⟨X0, ⟨hX0, hqX0⟩, A, hA, (wkb (eqb hk_82) rfl rfl), hH⟩)
set_option maxHeartbeats 4000000 in
set_option maxRecDepth 100000 in
theorem c_X7_without (E : Ev) (ws : TD) (kp : TD) (rd : TD) (ty : TD) (ik : TD) (un : Int × Int) (xt : Int × Int) (tp : Int × Int) (sp : Int × Int) (wrb : Int × Int) (nu : Int × Int) (nab : Int × Int) (iwb : Int × Int) (X0 : Nat → Int32) (A : Nat → Int32) (Z : Nat → Int32) (a0 : Nat) (a1 : Int32) (a2 : Int32) (a3 : Int32) (ha0 : eT E a0 ∈ [24]) (hX0 : okR X0) (hA : okR A) (hqX0 : sQ Z X0) : TcI E yX7_without cX7_without 4 .int ({ frames := 10, cells := 0, slots := 0, locals := 246 }) [.ref a0, .int a1, .int a2, .int a3] (fun H => TH E (tbM (mD (.inl tp) (.inl sp) (.inl nu) (.inl un) (.inl (0, 18)) (.inl xt) (.inl wrb) (.inl nab) (.inl iwb)) (xD 660 X0) ws kp (xD 660 A) rd m_second ty ik) H) (fun v H => ∃ X2 : Nat → Int32, (okR X2 ∧ sQ Z X2) ∧ ∃ A2 : Nat → Int32, (okR A2) ∧ ((-2147483648) ≤ v.toInt ∧ v.toInt ≤ 2147483647) ∧ TH E (tbM (mD (.inl tp) (.inl sp) (.inl nu) (.inl un) (.inl (0, 18)) (.inl xt) (.inl wrb) (.inl nab) (.inl iwb)) (xD 660 X2) ws kp (xD 660 A2) rd m_second ty ik) H) := by
  refine teI (by decide) (Nat.le_of_ble_eq_true rfl) ?_
  intro p_ ev_ s mi_ below_ meth cd_ ls F hK hN hO hH hS hl
  have hH : TH E (tbM (mD (.inl tp) (.inl sp) (.inl nu) (.inl un) (.inl (0, 18)) (.inl xt) (.inl wrb) (.inl nab) (.inl iwb)) (xD 660 X0) ws kp (xD 660 A) rd m_second ty ik) s.heap := hH
  have hl : lv_has ls 4 [(0, .ref a0), (1, .int a1), (2, .int a2), (3, .int a3)] := hl
  have hBX0 := okB hX0.1
  have hLX0 := hX0.2
  have hBA := okB hA.1
  have hLA := hA.2
  refine lv_aload_n F.1 F.2.1 dX7_without_0 rfl (lv_at hl 0 rfl) ?_
  refine lv_iload_n F.1 F.2.1 dX7_without_1 rfl (lv_at hl 1 rfl) ?_
  refine tVi (b := a0) (As := [.int a1]) (rest := []) F hK hN hO (c_X7_isRight E ws kp (xD 660 A) rd m_second ty ik un (0, 18) xt tp sp wrb nu nab iwb X0 a0 a1 ha0 ((hX0).1)) mv_X7_isRight wd_31_18 ⟨Nat.le_of_ble_eq_true rfl, Nat.le_of_ble_eq_true rfl⟩ ⟨Nat.le_of_ble_eq_true rfl, Nat.le_of_ble_eq_true rfl⟩ hH hS (tRecv hK hH (tyb ha0 (all1 rfl)) clX7) rfl hl.1 (Nat.le_of_ble_eq_true rfl) dX7_without_2 (fun z_1 H locs hq hS => ?_)
  obtain ⟨f_2, f_3, f_4, hH⟩ := hq
  have hH : TH E (tbM (mD (.inl tp) (.inl sp) (.inl nu) (.inl un) (.inl (0, 18)) (.inl xt) (.inl wrb) (.inl nab) (.inl iwb)) (xD 660 X0) ws kp (xD 660 A) rd m_second ty ik) H := hH
  refine z_eq (tgt := 33) F dX7_without_5 (by decide) (fun c_5 => ?_) (fun c_5 => ?_)
  · skip
    have r_6 : 0 ≤ z_1.toInt ∧ z_1.toInt ≤ 0 := by have h9_ := f_2; omega
    refine lv_ldcw (own := RX7) (v := (-2147483648)) F.1 F.2.1 F.2.2.2.2.1 (F.2.2.2.2.2.2.1 _ wd_48_8) dX7_without_33 ?_
    refine topK (a := (-2147483648)) (by decide) (fun k_9 hk_9 => ?_)
    exact txI F hS dX7_without_36 rfl (⟨X0, ⟨hX0, hqX0⟩, A, hA, (wkb (eqb hk_9) rfl rfl), hH⟩)
  · skip
    have r_7 : 1 ≤ z_1.toInt ∧ z_1.toInt ≤ 1 := by have h9_ := f_2; omega
    have r_8 : 0 ≤ a1.toInt ∧ a1.toInt ≤ 13 := by have h9_ := (i32b a1); omega
    refine lv_aload_n F.1 F.2.1 dX7_without_8 rfl (lv_at hl 0 rfl) ?_
    refine lv_iload_n F.1 F.2.1 dX7_without_9 rfl (lv_at hl 2 rfl) ?_
    refine tVi (b := a0) (As := [.int a2]) (rest := []) F hK hN hO (c_X7_isRight E ws kp (xD 660 A) rd m_second ty ik un (0, 18) xt tp sp wrb nu nab iwb X0 a0 a2 ha0 ((hX0).1)) mv_X7_isRight wd_31_18 ⟨Nat.le_of_ble_eq_true rfl, Nat.le_of_ble_eq_true rfl⟩ ⟨Nat.le_of_ble_eq_true rfl, Nat.le_of_ble_eq_true rfl⟩ hH hS (tRecv hK hH (tyb ha0 (all1 rfl)) clX7) rfl hl.1 (Nat.le_of_ble_eq_true rfl) dX7_without_10 (fun z_10 H locs hq hS => ?_)
    obtain ⟨f_11, f_12, f_13, hH⟩ := hq
    have hH : TH E (tbM (mD (.inl tp) (.inl sp) (.inl nu) (.inl un) (.inl (0, 18)) (.inl xt) (.inl wrb) (.inl nab) (.inl iwb)) (xD 660 X0) ws kp (xD 660 A) rd m_second ty ik) H := hH
    refine z_eq (tgt := 33) F dX7_without_13 (by decide) (fun c_14 => ?_) (fun c_14 => ?_)
    · skip
      have r_15 : 0 ≤ z_10.toInt ∧ z_10.toInt ≤ 0 := by have h9_ := f_11; omega
      refine lv_ldcw (own := RX7) (v := (-2147483648)) F.1 F.2.1 F.2.2.2.2.1 (F.2.2.2.2.2.2.1 _ wd_48_8) dX7_without_33 ?_
      refine topK (a := (-2147483648)) (by decide) (fun k_18 hk_18 => ?_)
      exact txI F hS dX7_without_36 rfl (⟨X0, ⟨hX0, hqX0⟩, A, hA, (wkb (eqb hk_18) rfl rfl), hH⟩)
    · skip
      have r_16 : 1 ≤ z_10.toInt ∧ z_10.toInt ≤ 1 := by have h9_ := f_11; omega
      have r_17 : 0 ≤ a2.toInt ∧ a2.toInt ≤ 13 := by have h9_ := (i32b a2); omega
      refine lv_iload_n F.1 F.2.1 dX7_without_16 rfl (lv_at hl 1 rfl) ?_
      refine lv_iload_n F.1 F.2.1 dX7_without_17 rfl (lv_at hl 2 rfl) ?_
      refine b_eq (tgt := 33) F dX7_without_18 (by decide) (fun c_19 => ?_) (fun c_19 => ?_)
      · skip
        refine lv_ldcw (own := RX7) (v := (-2147483648)) F.1 F.2.1 F.2.2.2.2.1 (F.2.2.2.2.2.2.1 _ wd_48_8) dX7_without_33 ?_
        refine topK (a := (-2147483648)) (by decide) (fun k_20 hk_20 => ?_)
        exact txI F hS dX7_without_36 rfl (⟨X0, ⟨hX0, hqX0⟩, A, hA, (wkb (eqb hk_20) rfl rfl), hH⟩)
      · skip
        refine lv_iload_n F.1 F.2.1 dX7_without_21 rfl (lv_at hl 3 rfl) ?_
        refine tI2l F dX7_without_22 (fun w_21 hw_21 => ?_)
        refine lv_lconst (v := 1) F.1 F.2.1 dX7_without_23 (by decide) ?_
        refine topKL (a := 1) (by decide) (fun j_22 hj_22 => ?_)
        refine lv_ldc2 (own := RX7) (v := 360) F.1 F.2.1 F.2.2.2.2.1 (F.2.2.2.2.2.2.1 _ wd_47_21) dX7_without_24 ?_
        refine topKL (a := 360) (by decide) (fun j_23 hj_23 => ?_)
        refine tSi (As := [.long w_21, .long j_22, .long j_23]) (rest := []) F hK hN hO (c_X7_in E (mD (.inl tp) (.inl sp) (.inl nu) (.inl un) (.inl (0, 18)) (.inl xt) (.inl wrb) (.inl nab) (.inl iwb)) (xD 660 X0) ws kp (xD 660 A) rd m_second ty ik w_21 j_22 j_23) ms_X7_in wd_8_10 ⟨Nat.le_of_ble_eq_true rfl, Nat.le_of_ble_eq_true rfl⟩ ⟨Nat.le_of_ble_eq_true rfl, Nat.le_of_ble_eq_true rfl⟩ hH hS rfl hl.1 (Nat.le_of_ble_eq_true rfl) dX7_without_27 (fun z_24 H locs hq hS => ?_)
        obtain ⟨f_25, f_26, hH⟩ := hq
        have hH : TH E (tbM (mD (.inl tp) (.inl sp) (.inl nu) (.inl un) (.inl (0, 18)) (.inl xt) (.inl wrb) (.inl nab) (.inl iwb)) (xD 660 X0) ws kp (xD 660 A) rd m_second ty ik) H := hH
        refine z_ne (tgt := 37) F dX7_without_30 (by decide) (fun c_27 => ?_) (fun c_27 => ?_)
        · skip
          have r_28 : 1 ≤ z_24.toInt ∧ z_24.toInt ≤ 1 := by have h9_ := f_25; omega
          have r_29 : 1 ≤ a3.toInt ∧ a3.toInt ≤ 360 := by have h9_ := (i32b a3); omega
          refine lv_aload_n F.1 F.2.1 dX7_without_37 rfl (lv_at hl 0 rfl) ?_
          refine tVv (b := a0) (As := []) (rest := []) F hK hN hO (c_X7_putsAside E ws kp rd m_second ty ik un (0, 18) xt tp sp wrb nu nab iwb X0 A Z a0 ha0 hX0 hqX0) mv_X7_putsAside wd_37_16 ⟨Nat.le_of_ble_eq_true rfl, Nat.le_of_ble_eq_true rfl⟩ ⟨Nat.le_of_ble_eq_true rfl, Nat.le_of_ble_eq_true rfl⟩ hH hS (tRecv hK hH (tyb ha0 (all1 rfl)) clX7) rfl hl.1 (Nat.le_of_ble_eq_true rfl) dX7_without_38 (fun H locs hq hS => ?_)
          obtain ⟨g_32, hg_32, hH⟩ := hq
          have hH : TH E (tbM (mD (.inl tp) (.inl sp) (.inl nu) (.inl un) (.inl (0, 18)) (.inl xt) (.inl wrb) (.inl nab) (.inl iwb)) (xD 660 X0) ws kp (xD 660 g_32) rd m_second ty ik) H := hH
          have hqg_32 := hg_32.2
          have hBg_32 := okB hg_32.1.1
          have hLg_32 := hg_32.1.2
          refine lv_aload_n F.1 F.2.1 dX7_without_41 rfl (lv_at hl 0 rfl) ?_
          refine lv_iload_n F.1 F.2.1 dX7_without_42 rfl (lv_at hl 3 rfl) ?_
          refine lv_aload_n F.1 F.2.1 dX7_without_43 rfl (lv_at hl 0 rfl) ?_
          refine tGetR (j := 27) F hK hH (tyb ha0 (all1 rfl)) rfl (all1 rfl) clX7 (by decide) wd_7_2 dX7_without_44 (fun q_33 hq_33 _ => ?_)
          refine tVv (b := a0) (As := [.int a3, .ref q_33]) (rest := []) F hK hN hO (c_X7_ahead_n E ws kp rd ty ik un xt tp sp wrb nu nab iwb X0 g_32 Z a0 a3 q_33 ha0 r_29 hq_33 hX0 hg_32.1 hqg_32 hqX0) mv_X7_ahead wd_37_20 ⟨Nat.le_of_ble_eq_true rfl, Nat.le_of_ble_eq_true rfl⟩ ⟨Nat.le_of_ble_eq_true rfl, Nat.le_of_ble_eq_true rfl⟩ hH hS (tRecv hK hH (tyb ha0 (all1 rfl)) clX7) rfl hl.1 (Nat.le_of_ble_eq_true rfl) dX7_without_47 (fun H locs hq hS => ?_)
          obtain ⟨g_35, hg_35, hH⟩ := hq
          have hH : TH E (tbM (mD (.inl tp) (.inl sp) (.inl nu) (.inl un) (.inl (0, 18)) (.inl xt) (.inl wrb) (.inl nab) (.inl iwb)) (xD 660 g_35) ws kp (xD 660 g_32) rd m_second ty ik) H := hH
          have hqg_35 := hg_35.2
          have hBg_35 := okB hg_35.1.1
          have hLg_35 := hg_35.1.2
          refine lv_aload_n F.1 F.2.1 dX7_without_50 rfl (lv_at hl 0 rfl) ?_
          refine tGetR (j := 0) F hK hH (tyb ha0 (all1 rfl)) rfl (all1 rfl) clX7 (by decide) wd_6_5 dX7_without_51 (fun q_36 hq_36 _ => ?_)
          refine lv_bipush (v := 78) F.1 F.2.1 dX7_without_54 (by decide) ?_
          refine topK (a := 78) (by decide) (fun k_37 hk_37 => ?_)
          refine lv_bipush (v := 13) F.1 F.2.1 dX7_without_56 (by decide) ?_
          refine topK (a := 13) (by decide) (fun k_38 hk_38 => ?_)
          refine lv_iload_n F.1 F.2.1 dX7_without_58 rfl (lv_at hl 2 rfl) ?_
          refine tMul (lo := 0) (hi := 169) F dX7_without_59 (eqb hk_38) r_17 rfl (fun z_39 hz_39 => ?_)
          have mz_39 : z_39.toInt = 13 * a2.toInt := by rw [hz_39.1, hk_38]
          refine tAdd (lo := 78) (hi := 247) F dX7_without_60 (eqb hk_37) hz_39.2 rfl (fun z_40 hz_40 => ?_)
          refine lv_bipush (v := 10) F.1 F.2.1 dX7_without_61 (by decide) ?_
          refine topK (a := 10) (by decide) (fun k_41 hk_41 => ?_)
          refine tAdd (lo := 88) (hi := 257) F dX7_without_63 hz_40.2 (eqb hk_41) rfl (fun z_42 hz_42 => ?_)
          refine lv_iconst (v := 0) F.1 F.2.1 dX7_without_64 (by decide) ?_
          refine topK (a := 0) (by decide) (fun k_43 hk_43 => ?_)
          refine tIastX (t := 25) F hK hH hS (List.mem_singleton.mp hq_36) (by decide) rfl (ixb (n := 660) hz_42.2 rfl rfl) dX7_without_65 (fun G_44 eG_44 H locs hH hS => ?_)
          have hH : TH E (tbM (mD (.inl tp) (.inl sp) (.inl nu) (.inl un) (.inl (0, 18)) (.inl xt) (.inl wrb) (.inl nab) (.inl iwb)) (xD 660 G_44) ws kp (xD 660 g_32) rd m_second ty ik) H := hH
          have hG_44 : okR G_44 := (okR.st hg_35.1 eG_44 (by omega) (by omega) (by omega) (phiI (by omega) (by omega) (by omega) (by omega) (by omega) (by omega) (by omega) (by omega) (by omega) (by omega) (by omega) (by omega) (by omega) (by omega) (by omega) (by omega) (by omega) (by omega)))
          have hBG_44 := okB hG_44.1
          have hLG_44 := hG_44.2
          have hqG_44 : sQ Z G_44 := sQ.st hqg_35 eG_44 (by omega)
          refine lv_aload_n F.1 F.2.1 dX7_without_66 rfl (lv_at hl 0 rfl) ?_
          refine lv_iload_n F.1 F.2.1 dX7_without_67 rfl (lv_at hl 3 rfl) ?_
          refine lv_aload_n F.1 F.2.1 dX7_without_68 rfl (lv_at hl 0 rfl) ?_
          refine tGetR (j := 28) F hK hH (tyb ha0 (all1 rfl)) rfl (all1 rfl) clX7 (by decide) wd_7_3 dX7_without_69 (fun q_45 hq_45 _ => ?_)
          refine tVv (b := a0) (As := [.int a3, .ref q_45]) (rest := []) F hK hN hO (c_X7_ahead_t E ws kp rd ty ik un xt tp sp wrb nu nab iwb G_44 g_32 Z a0 a3 q_45 ha0 r_29 hq_45 hG_44 hg_32.1 hqg_32 hqG_44) mv_X7_ahead wd_37_20 ⟨Nat.le_of_ble_eq_true rfl, Nat.le_of_ble_eq_true rfl⟩ ⟨Nat.le_of_ble_eq_true rfl, Nat.le_of_ble_eq_true rfl⟩ hH hS (tRecv hK hH (tyb ha0 (all1 rfl)) clX7) rfl hl.1 (Nat.le_of_ble_eq_true rfl) dX7_without_72 (fun H locs hq hS => ?_)
          obtain ⟨g_47, hg_47, hH⟩ := hq
          have hH : TH E (tbM (mD (.inl tp) (.inl sp) (.inl nu) (.inl un) (.inl (0, 18)) (.inl xt) (.inl wrb) (.inl nab) (.inl iwb)) (xD 660 g_47) ws kp (xD 660 g_32) rd m_second ty ik) H := hH
          have hqg_47 := hg_47.2
          have hBg_47 := okB hg_47.1.1
          have hLg_47 := hg_47.1.2
          refine lv_aload_n F.1 F.2.1 dX7_without_75 rfl (lv_at hl 0 rfl) ?_
          refine tGetR (j := 28) F hK hH (tyb ha0 (all1 rfl)) rfl (all1 rfl) clX7 (by decide) wd_7_3 dX7_without_76 (fun q_48 hq_48 _ => ?_)
          refine lv_iload_n F.1 F.2.1 dX7_without_79 rfl (lv_at hl 1 rfl) ?_
          refine tIaldB F hK hH (tyb hq_48 (all1 rfl)) (ixb (n := 14) r_8 rfl rfl) dX7_without_80 (fun z_49 hz_49 => ?_)
          refine lv_aload_n F.1 F.2.1 dX7_without_81 rfl (lv_at hl 0 rfl) ?_
          refine tGetR (j := 27) F hK hH (tyb ha0 (all1 rfl)) rfl (all1 rfl) clX7 (by decide) wd_7_2 dX7_without_82 (fun q_50 hq_50 _ => ?_)
          refine lv_iload_n F.1 F.2.1 dX7_without_85 rfl (lv_at hl 1 rfl) ?_
          refine tIaldB F hK hH (tyb hq_50 (all1 rfl)) (ixb (n := 14) r_8 rfl rfl) dX7_without_86 (fun z_51 hz_51 => ?_)
          refine lv_isub F.1 F.2.1 dX7_without_87 ?_
          refine topF (fun z_52 => ?_)
          exact txI F hS dX7_without_88 rfl (⟨g_47, ⟨hg_47.1, hqg_47⟩, g_32, hg_32.1, (i32b _), hH⟩)
        · skip
          have r_30 : 0 ≤ z_24.toInt ∧ z_24.toInt ≤ 0 := by have h9_ := f_25; omega
          refine lv_ldcw (own := RX7) (v := (-2147483648)) F.1 F.2.1 F.2.2.2.2.1 (F.2.2.2.2.2.2.1 _ wd_48_8) dX7_without_33 ?_
          refine topK (a := (-2147483648)) (by decide) (fun k_53 hk_53 => ?_)
          exact txI F hS dX7_without_36 rfl (⟨X0, ⟨hX0, hqX0⟩, A, hA, (wkb (eqb hk_53) rfl rfl), hH⟩)
set_option maxHeartbeats 4000000 in
set_option maxRecDepth 100000 in
theorem c_X7_runs (E : Ev) (ws : TD) (kp : TD) (rd : TD) (ty : TD) (ik : TD) (un : Int × Int) (xt : Int × Int) (tp : Int × Int) (sp : Int × Int) (wrb : Int × Int) (nu : Int × Int) (nab : Int × Int) (iwb : Int × Int) (X0 : Nat → Int32) (A : Nat → Int32) (Z : Nat → Int32) (a0 : Nat) (a1 : Int32) (a2 : Int32) (ha0 : eT E a0 ∈ [24]) (hX0 : okR X0) (hA : okR A) (hqX0 : sQ Z X0) : TcI E yX7_runs cX7_runs 5 .int ({ frames := 9, cells := 0, slots := 0, locals := 222 }) [.ref a0, .int a1, .int a2] (fun H => TH E (tbM (mD (.inl tp) (.inl sp) (.inl nu) (.inl un) (.inl (0, 18)) (.inl xt) (.inl wrb) (.inl nab) (.inl iwb)) (xD 660 X0) ws kp (xD 660 A) rd m_second ty ik) H) (fun v H => ∃ X2 : Nat → Int32, (okR X2 ∧ sQ Z X2) ∧ ∃ A2 : Nat → Int32, (okR A2) ∧ ((-2147483648) ≤ v.toInt ∧ v.toInt ≤ 2147483647) ∧ TH E (tbM (mD (.inl tp) (.inl sp) (.inl nu) (.inl un) (.inl (0, 18)) (.inl xt) (.inl wrb) (.inl nab) (.inl iwb)) (xD 660 X2) ws kp (xD 660 A2) rd m_second ty ik) H) := by
  refine teI (by decide) (Nat.le_of_ble_eq_true rfl) ?_
  intro p_ ev_ s mi_ below_ meth cd_ ls F hK hN hO hH hS hl
  have hH : TH E (tbM (mD (.inl tp) (.inl sp) (.inl nu) (.inl un) (.inl (0, 18)) (.inl xt) (.inl wrb) (.inl nab) (.inl iwb)) (xD 660 X0) ws kp (xD 660 A) rd m_second ty ik) s.heap := hH
  have hl : lv_has ls 5 [(0, .ref a0), (1, .int a1), (2, .int a2)] := hl
  have hBX0 := okB hX0.1
  have hLX0 := hX0.2
  have hBA := okB hA.1
  have hLA := hA.2
  refine lv_iload_n F.1 F.2.1 dX7_runs_0 rfl (lv_at hl 1 rfl) ?_
  refine tI2l F dX7_runs_1 (fun w_1 hw_1 => ?_)
  refine lv_lconst (v := 1) F.1 F.2.1 dX7_runs_2 (by decide) ?_
  refine topKL (a := 1) (by decide) (fun j_2 hj_2 => ?_)
  refine lv_ldc2 (own := RX7) (v := 360) F.1 F.2.1 F.2.2.2.2.1 (F.2.2.2.2.2.2.1 _ wd_47_21) dX7_runs_3 ?_
  refine topKL (a := 360) (by decide) (fun j_3 hj_3 => ?_)
  refine tSi (As := [.long w_1, .long j_2, .long j_3]) (rest := []) F hK hN hO (c_X7_in E (mD (.inl tp) (.inl sp) (.inl nu) (.inl un) (.inl (0, 18)) (.inl xt) (.inl wrb) (.inl nab) (.inl iwb)) (xD 660 X0) ws kp (xD 660 A) rd m_second ty ik w_1 j_2 j_3) ms_X7_in wd_8_10 ⟨Nat.le_of_ble_eq_true rfl, Nat.le_of_ble_eq_true rfl⟩ ⟨Nat.le_of_ble_eq_true rfl, Nat.le_of_ble_eq_true rfl⟩ hH hS rfl hl.1 (Nat.le_of_ble_eq_true rfl) dX7_runs_6 (fun z_4 H locs hq hS => ?_)
  obtain ⟨f_5, f_6, hH⟩ := hq
  have hH : TH E (tbM (mD (.inl tp) (.inl sp) (.inl nu) (.inl un) (.inl (0, 18)) (.inl xt) (.inl wrb) (.inl nab) (.inl iwb)) (xD 660 X0) ws kp (xD 660 A) rd m_second ty ik) H := hH
  refine z_eq (tgt := 24) F dX7_runs_9 (by decide) (fun c_7 => ?_) (fun c_7 => ?_)
  · skip
    have r_8 : 0 ≤ z_4.toInt ∧ z_4.toInt ≤ 0 := by have h9_ := f_5; omega
    refine lv_iconst (v := (-1)) F.1 F.2.1 dX7_runs_24 (by decide) ?_
    refine topK (a := (-1)) (by decide) (fun k_11 hk_11 => ?_)
    exact txI F hS dX7_runs_25 rfl (⟨X0, ⟨hX0, hqX0⟩, A, hA, (wkb (eqb hk_11) rfl rfl), hH⟩)
  · skip
    have r_9 : 1 ≤ z_4.toInt ∧ z_4.toInt ≤ 1 := by have h9_ := f_5; omega
    have r_10 : 1 ≤ a1.toInt ∧ a1.toInt ≤ 360 := by have h9_ := (i32b a1); omega
    refine lv_iload_n F.1 F.2.1 dX7_runs_12 rfl (lv_at hl 2 rfl) ?_
    refine tI2l F dX7_runs_13 (fun w_12 hw_12 => ?_)
    refine lv_lconst (v := 0) F.1 F.2.1 dX7_runs_14 (by decide) ?_
    refine topKL (a := 0) (by decide) (fun j_13 hj_13 => ?_)
    refine lv_ldc2 (own := RX7) (v := 3) F.1 F.2.1 F.2.2.2.2.1 (F.2.2.2.2.2.2.1 _ wd_50_0) dX7_runs_15 ?_
    refine topKL (a := 3) (by decide) (fun j_14 hj_14 => ?_)
    refine tSi (As := [.long w_12, .long j_13, .long j_14]) (rest := []) F hK hN hO (c_X7_in E (mD (.inl tp) (.inl sp) (.inl nu) (.inl un) (.inl (0, 18)) (.inl xt) (.inl wrb) (.inl nab) (.inl iwb)) (xD 660 X0) ws kp (xD 660 A) rd m_second ty ik w_12 j_13 j_14) ms_X7_in wd_8_10 ⟨Nat.le_of_ble_eq_true rfl, Nat.le_of_ble_eq_true rfl⟩ ⟨Nat.le_of_ble_eq_true rfl, Nat.le_of_ble_eq_true rfl⟩ hH hS rfl hl.1 (Nat.le_of_ble_eq_true rfl) dX7_runs_18 (fun z_15 H locs hq hS => ?_)
    obtain ⟨f_16, f_17, hH⟩ := hq
    have hH : TH E (tbM (mD (.inl tp) (.inl sp) (.inl nu) (.inl un) (.inl (0, 18)) (.inl xt) (.inl wrb) (.inl nab) (.inl iwb)) (xD 660 X0) ws kp (xD 660 A) rd m_second ty ik) H := hH
    refine z_ne (tgt := 26) F dX7_runs_21 (by decide) (fun c_18 => ?_) (fun c_18 => ?_)
    · skip
      have r_19 : 1 ≤ z_15.toInt ∧ z_15.toInt ≤ 1 := by have h9_ := f_16; omega
      have r_20 : 0 ≤ a2.toInt ∧ a2.toInt ≤ 3 := by have h9_ := (i32b a2); omega
      refine lv_iconst (v := 0) F.1 F.2.1 dX7_runs_26 (by decide) ?_
      refine topK (a := 0) (by decide) (fun k_22 hk_22 => ?_)
      refine lv_istore_n (lv' := [(3, .int k_22), (0, .ref a0), (1, .int a1), (2, .int a2)]) F.1 F.2.1 dX7_runs_27 rfl hl (by decide) rfl (fun ls hl => ?_)
      refine lv_aload_n F.1 F.2.1 dX7_runs_28 rfl (lv_at hl 1 rfl) ?_
      refine tVv (b := a0) (As := []) (rest := []) F hK hN hO (c_X7_putsAside E ws kp rd m_second ty ik un (0, 18) xt tp sp wrb nu nab iwb X0 A Z a0 ha0 hX0 hqX0) mv_X7_putsAside wd_37_16 ⟨Nat.le_of_ble_eq_true rfl, Nat.le_of_ble_eq_true rfl⟩ ⟨Nat.le_of_ble_eq_true rfl, Nat.le_of_ble_eq_true rfl⟩ hH hS (tRecv hK hH (tyb ha0 (all1 rfl)) clX7) rfl hl.1 (Nat.le_of_ble_eq_true rfl) dX7_runs_29 (fun H locs hq hS => ?_)
      obtain ⟨g_24, hg_24, hH⟩ := hq
      have hH : TH E (tbM (mD (.inl tp) (.inl sp) (.inl nu) (.inl un) (.inl (0, 18)) (.inl xt) (.inl wrb) (.inl nab) (.inl iwb)) (xD 660 X0) ws kp (xD 660 g_24) rd m_second ty ik) H := hH
      have hqg_24 := hg_24.2
      have hBg_24 := okB hg_24.1.1
      have hLg_24 := hg_24.1.2
      refine lv_iconst (v := 0) F.1 F.2.1 dX7_runs_32 (by decide) ?_
      refine topK (a := 0) (by decide) (fun k_25 hk_25 => ?_)
      refine lv_istore (lv' := [(4, .int k_25), (3, .int k_22), (0, .ref a0), (1, .int a1), (2, .int a2)]) F.1 F.2.1 dX7_runs_33 hl (by decide) rfl (fun ls hl => ?_)
      refine wloop (σ := Int32 × Int32 × (Nat → Int32)) (fun n9 x9 H locs ls => (360 - x9.2.1.toInt + 1).toNat < n9 ∧ (0 ≤ x9.2.1.toInt ∧ x9.2.1.toInt ≤ 360) ∧ (okR x9.2.2) ∧ (sQ Z x9.2.2) ∧ TH E (tbM (mD (.inl tp) (.inl sp) (.inl nu) (.inl un) (.inl (0, 18)) (.inl xt) (.inl wrb) (.inl nab) (.inl iwb)) (xD 660 x9.2.2) ws kp (xD 660 g_24) rd m_second ty ik) H ∧ va_S (eA E s.heap.size) s.heap H locs ∧ lv_has ls 5 [(0, .ref a0), (1, .int a1), (2, .int a2), (3, .int x9.1), (4, .int x9.2.1)]) ?_ (fun x9 H locs ls h => absurd h.1 (Nat.not_lt_zero _)) _ (k_22, k_25, X0) ⟨Nat.lt_succ_self _, (wkb (eqb hk_25) rfl rfl), hX0, (show sQ Z X0 from hqX0), hH, hS, lv_sub hl [2, 3, 4, 1, 0] rfl⟩
      intro n_35 ih_35 ⟨u_26, u_27, G_28⟩ H locs ls ⟨hm_35, hu_27, hG_28, hcr35_0, hH, hS, hl⟩
      have hm_35 : (360 - u_27.toInt + 1).toNat < n_35 + 1 := hm_35
      have hu_27 : (0 ≤ u_27.toInt ∧ u_27.toInt ≤ 360) := hu_27
      have hG_28 : (okR G_28) := hG_28
      have hcr35_0 : (sQ Z G_28) := hcr35_0
      have hH : TH E (tbM (mD (.inl tp) (.inl sp) (.inl nu) (.inl un) (.inl (0, 18)) (.inl xt) (.inl wrb) (.inl nab) (.inl iwb)) (xD 660 G_28) ws kp (xD 660 g_24) rd m_second ty ik) H := hH
      have hl : lv_has ls 5 [(0, .ref a0), (1, .int a1), (2, .int a2), (3, .int u_26), (4, .int u_27)] := hl
      have hBG_28 := okB hG_28.1
      have hLG_28 := hG_28.2
      have hqG_28 := hcr35_0
      refine lv_iload F.1 F.2.1 dX7_runs_35 (lv_at hl 4 rfl) ?_
      refine lv_iload_n F.1 F.2.1 dX7_runs_37 rfl (lv_at hl 1 rfl) ?_
      refine b_ge (tgt := 101) F dX7_runs_38 (by decide) (fun c_29 => ?_) (fun c_29 => ?_)
      · skip
        have r_30 : 1 ≤ u_27.toInt ∧ u_27.toInt ≤ 360 := by have h9_ := hu_27; omega
        refine lv_aload_n F.1 F.2.1 dX7_runs_101 rfl (lv_at hl 0 rfl) ?_
        refine tVv (b := a0) (As := []) (rest := []) F hK hN hO (c_X7_takesBack E ws kp rd m_second ty ik un (0, 18) xt tp sp wrb nu nab iwb G_28 g_24 Z a0 ha0 hG_28 hg_24.1 hqg_24) mv_X7_takesBack wd_38_0 ⟨Nat.le_of_ble_eq_true rfl, Nat.le_of_ble_eq_true rfl⟩ ⟨Nat.le_of_ble_eq_true rfl, Nat.le_of_ble_eq_true rfl⟩ hH hS (tRecv hK hH (tyb ha0 (all1 rfl)) clX7) rfl hl.1 (Nat.le_of_ble_eq_true rfl) dX7_runs_102 (fun H locs hq hS => ?_)
        obtain ⟨g_33, hg_33, hH⟩ := hq
        have hH : TH E (tbM (mD (.inl tp) (.inl sp) (.inl nu) (.inl un) (.inl (0, 18)) (.inl xt) (.inl wrb) (.inl nab) (.inl iwb)) (xD 660 g_33) ws kp (xD 660 g_24) rd m_second ty ik) H := hH
        have hqg_33 := hg_33.2
        have hBg_33 := okB hg_33.1.1
        have hLg_33 := hg_33.1.2
        refine lv_iload_n F.1 F.2.1 dX7_runs_105 rfl (lv_at hl 3 rfl) ?_
        exact txI F hS dX7_runs_106 rfl (⟨g_33, ⟨hg_33.1, hqg_33⟩, g_24, hg_24.1, (i32b _), hH⟩)
      · skip
        have r_31 : 0 ≤ u_27.toInt ∧ u_27.toInt ≤ 359 := by have h9_ := hu_27; omega
        refine lv_aload_n F.1 F.2.1 dX7_runs_41 rfl (lv_at hl 0 rfl) ?_
        refine tVv (b := a0) (As := []) (rest := []) F hK hN hO (c_X7_passes E ws kp (xD 660 g_24) rd ty ik un xt tp sp wrb nu nab iwb G_28 Z a0 ha0 hG_28 hqG_28) mv_X7_passes wd_25_11 ⟨Nat.le_of_ble_eq_true rfl, Nat.le_of_ble_eq_true rfl⟩ ⟨Nat.le_of_ble_eq_true rfl, Nat.le_of_ble_eq_true rfl⟩ hH hS (tRecv hK hH (tyb ha0 (all1 rfl)) clX7) rfl hl.1 (Nat.le_of_ble_eq_true rfl) dX7_runs_42 (fun H locs hq hS => ?_)
        obtain ⟨g_35, hg_35, hH⟩ := hq
        have hH : TH E (tbM (mD (.inl tp) (.inl sp) (.inl nu) (.inl un) (.inl (0, 18)) (.inl xt) (.inl wrb) (.inl nab) (.inl iwb)) (xD 660 g_35) ws kp (xD 660 g_24) rd m_second ty ik) H := hH
        have hqg_35 := hg_35.2
        have hBg_35 := okB hg_35.1.1
        have hLg_35 := hg_35.1.2
        refine lv_iload_n F.1 F.2.1 dX7_runs_45 rfl (lv_at hl 3 rfl) ?_
        refine lv_iload_n F.1 F.2.1 dX7_runs_46 rfl (lv_at hl 2 rfl) ?_
        refine z_ne (tgt := 57) F dX7_runs_47 (by decide) (fun c_36 => ?_) (fun c_36 => ?_)
        · skip
          have r_37 : 1 ≤ a2.toInt ∧ a2.toInt ≤ 3 := by have h9_ := r_20; omega
          refine lv_iload_n F.1 F.2.1 dX7_runs_57 rfl (lv_at hl 2 rfl) ?_
          refine lv_iconst (v := 1) F.1 F.2.1 dX7_runs_58 (by decide) ?_
          refine topK (a := 1) (by decide) (fun k_39 hk_39 => ?_)
          refine b_ne (tgt := 69) F dX7_runs_59 (by decide) (fun c_40 => ?_) (fun c_40 => ?_)
          · skip
            have r_41 : 2 ≤ a2.toInt ∧ a2.toInt ≤ 3 := by have h9_ := r_37; omega
            refine lv_iload_n F.1 F.2.1 dX7_runs_69 rfl (lv_at hl 2 rfl) ?_
            refine lv_iconst (v := 2) F.1 F.2.1 dX7_runs_70 (by decide) ?_
            refine topK (a := 2) (by decide) (fun k_43 hk_43 => ?_)
            refine b_ne (tgt := 81) F dX7_runs_71 (by decide) (fun c_44 => ?_) (fun c_44 => ?_)
            · skip
              have r_45 : 3 ≤ a2.toInt ∧ a2.toInt ≤ 3 := by have h9_ := r_41; omega
              refine lv_aload_n F.1 F.2.1 dX7_runs_81 rfl (lv_at hl 0 rfl) ?_
              refine tGetI (j := 26) F hK hH (tyb ha0 (all1 rfl)) rfl clX7 (by decide) wd_29_21 dX7_runs_82 (fun z_47 hz_47 => ?_)
              refine z_eq (tgt := 92) F dX7_runs_85 (by decide) (fun c_48 => ?_) (fun c_48 => ?_)
              · skip
                have r_49 : 0 ≤ z_47.toInt ∧ z_47.toInt ≤ 0 := by have h9_ := hz_47; omega
                refine lv_iconst (v := 0) F.1 F.2.1 dX7_runs_92 (by decide) ?_
                refine topK (a := 0) (by decide) (fun k_51 hk_51 => ?_)
                refine tAdd (lo := (-2147483648)) (hi := 2147483647) F dX7_runs_93 (i32b _) (eqb hk_51) rfl (fun z_52 hz_52 => ?_)
                refine lv_istore_n (lv' := [(3, .int z_52), (0, .ref a0), (1, .int a1), (2, .int a2), (4, .int u_27)]) F.1 F.2.1 dX7_runs_94 rfl hl (by decide) rfl (fun ls hl => ?_)
                obtain ⟨x_53, ex_53, hx_53⟩ := iincB (c := 1) (lo := 1) (hi := 360) r_31 rfl
                refine lv_iinc (v := x_53) (lv' := [(4, .int x_53), (3, .int z_52), (0, .ref a0), (1, .int a1), (2, .int a2)]) F.1 F.2.1 dX7_runs_95 hl (k := 4) rfl ex_53 (by decide) rfl (fun ls hl => ?_)
                refine lv_goto (tgt := 35) F.1 F.2.1 dX7_runs_98 (by decide) ?_
                exact ih_35 (z_52, x_53, g_35) _ _ _ ⟨(show (360 - x_53.toInt + 1).toNat < n_35 from by omega), (wkb hx_53.2 rfl rfl), hg_35.1, (show sQ Z g_35 from hqg_35), hH, hS, lv_sub hl [2, 3, 4, 1, 0] rfl⟩
              · skip
                have r_50 : 1 ≤ z_47.toInt ∧ z_47.toInt ≤ 1 := by have h9_ := hz_47; omega
                refine lv_iconst (v := 1) F.1 F.2.1 dX7_runs_88 (by decide) ?_
                refine topK (a := 1) (by decide) (fun k_54 hk_54 => ?_)
                refine lv_goto (tgt := 93) F.1 F.2.1 dX7_runs_89 (by decide) ?_
                refine lv_iadd F.1 F.2.1 dX7_runs_93 ?_
                refine topF (fun z_55 => ?_)
                refine lv_istore_n (lv' := [(3, .int z_55), (0, .ref a0), (1, .int a1), (2, .int a2), (4, .int u_27)]) F.1 F.2.1 dX7_runs_94 rfl hl (by decide) rfl (fun ls hl => ?_)
                obtain ⟨x_56, ex_56, hx_56⟩ := iincB (c := 1) (lo := 1) (hi := 360) r_31 rfl
                refine lv_iinc (v := x_56) (lv' := [(4, .int x_56), (3, .int z_55), (0, .ref a0), (1, .int a1), (2, .int a2)]) F.1 F.2.1 dX7_runs_95 hl (k := 4) rfl ex_56 (by decide) rfl (fun ls hl => ?_)
                refine lv_goto (tgt := 35) F.1 F.2.1 dX7_runs_98 (by decide) ?_
                exact ih_35 (z_55, x_56, g_35) _ _ _ ⟨(show (360 - x_56.toInt + 1).toNat < n_35 from by omega), (wkb hx_56.2 rfl rfl), hg_35.1, (show sQ Z g_35 from hqg_35), hH, hS, lv_sub hl [2, 3, 4, 1, 0] rfl⟩
            · skip
              have r_46 : 2 ≤ a2.toInt ∧ a2.toInt ≤ 2 := by have h9_ := r_41; omega
              refine lv_aload_n F.1 F.2.1 dX7_runs_74 rfl (lv_at hl 0 rfl) ?_
              refine tGetI (j := 25) F hK hH (tyb ha0 (all1 rfl)) rfl clX7 (by decide) wd_29_20 dX7_runs_75 (fun z_57 hz_57 => ?_)
              refine lv_goto (tgt := 93) F.1 F.2.1 dX7_runs_78 (by decide) ?_
              refine lv_iadd F.1 F.2.1 dX7_runs_93 ?_
              refine topF (fun z_58 => ?_)
              refine lv_istore_n (lv' := [(3, .int z_58), (0, .ref a0), (1, .int a1), (2, .int a2), (4, .int u_27)]) F.1 F.2.1 dX7_runs_94 rfl hl (by decide) rfl (fun ls hl => ?_)
              obtain ⟨x_59, ex_59, hx_59⟩ := iincB (c := 1) (lo := 1) (hi := 360) r_31 rfl
              refine lv_iinc (v := x_59) (lv' := [(4, .int x_59), (3, .int z_58), (0, .ref a0), (1, .int a1), (2, .int a2)]) F.1 F.2.1 dX7_runs_95 hl (k := 4) rfl ex_59 (by decide) rfl (fun ls hl => ?_)
              refine lv_goto (tgt := 35) F.1 F.2.1 dX7_runs_98 (by decide) ?_
              exact ih_35 (z_58, x_59, g_35) _ _ _ ⟨(show (360 - x_59.toInt + 1).toNat < n_35 from by omega), (wkb hx_59.2 rfl rfl), hg_35.1, (show sQ Z g_35 from hqg_35), hH, hS, lv_sub hl [2, 3, 4, 1, 0] rfl⟩
          · skip
            have r_42 : 1 ≤ a2.toInt ∧ a2.toInt ≤ 1 := by have h9_ := r_37; omega
            refine lv_aload_n F.1 F.2.1 dX7_runs_62 rfl (lv_at hl 0 rfl) ?_
            refine tGetI (j := 24) F hK hH (tyb ha0 (all1 rfl)) rfl clX7 (by decide) wd_29_19 dX7_runs_63 (fun z_60 hz_60 => ?_)
            refine lv_goto (tgt := 93) F.1 F.2.1 dX7_runs_66 (by decide) ?_
            refine lv_iadd F.1 F.2.1 dX7_runs_93 ?_
            refine topF (fun z_61 => ?_)
            refine lv_istore_n (lv' := [(3, .int z_61), (0, .ref a0), (1, .int a1), (2, .int a2), (4, .int u_27)]) F.1 F.2.1 dX7_runs_94 rfl hl (by decide) rfl (fun ls hl => ?_)
            obtain ⟨x_62, ex_62, hx_62⟩ := iincB (c := 1) (lo := 1) (hi := 360) r_31 rfl
            refine lv_iinc (v := x_62) (lv' := [(4, .int x_62), (3, .int z_61), (0, .ref a0), (1, .int a1), (2, .int a2)]) F.1 F.2.1 dX7_runs_95 hl (k := 4) rfl ex_62 (by decide) rfl (fun ls hl => ?_)
            refine lv_goto (tgt := 35) F.1 F.2.1 dX7_runs_98 (by decide) ?_
            exact ih_35 (z_61, x_62, g_35) _ _ _ ⟨(show (360 - x_62.toInt + 1).toNat < n_35 from by omega), (wkb hx_62.2 rfl rfl), hg_35.1, (show sQ Z g_35 from hqg_35), hH, hS, lv_sub hl [2, 3, 4, 1, 0] rfl⟩
        · skip
          have r_38 : 0 ≤ a2.toInt ∧ a2.toInt ≤ 0 := by have h9_ := r_20; omega
          refine lv_aload_n F.1 F.2.1 dX7_runs_50 rfl (lv_at hl 0 rfl) ?_
          refine tGetI (j := 23) F hK hH (tyb ha0 (all1 rfl)) rfl clX7 (by decide) wd_29_18 dX7_runs_51 (fun z_63 hz_63 => ?_)
          refine lv_goto (tgt := 93) F.1 F.2.1 dX7_runs_54 (by decide) ?_
          refine lv_iadd F.1 F.2.1 dX7_runs_93 ?_
          refine topF (fun z_64 => ?_)
          refine lv_istore_n (lv' := [(3, .int z_64), (0, .ref a0), (1, .int a1), (2, .int a2), (4, .int u_27)]) F.1 F.2.1 dX7_runs_94 rfl hl (by decide) rfl (fun ls hl => ?_)
          obtain ⟨x_65, ex_65, hx_65⟩ := iincB (c := 1) (lo := 1) (hi := 360) r_31 rfl
          refine lv_iinc (v := x_65) (lv' := [(4, .int x_65), (3, .int z_64), (0, .ref a0), (1, .int a1), (2, .int a2)]) F.1 F.2.1 dX7_runs_95 hl (k := 4) rfl ex_65 (by decide) rfl (fun ls hl => ?_)
          refine lv_goto (tgt := 35) F.1 F.2.1 dX7_runs_98 (by decide) ?_
          exact ih_35 (z_64, x_65, g_35) _ _ _ ⟨(show (360 - x_65.toInt + 1).toNat < n_35 from by omega), (wkb hx_65.2 rfl rfl), hg_35.1, (show sQ Z g_35 from hqg_35), hH, hS, lv_sub hl [2, 3, 4, 1, 0] rfl⟩
    · skip
      have r_21 : 0 ≤ z_15.toInt ∧ z_15.toInt ≤ 0 := by have h9_ := f_16; omega
      refine lv_iconst (v := (-1)) F.1 F.2.1 dX7_runs_24 (by decide) ?_
      refine topK (a := (-1)) (by decide) (fun k_66 hk_66 => ?_)
      exact txI F hS dX7_runs_25 rfl (⟨X0, ⟨hX0, hqX0⟩, A, hA, (wkb (eqb hk_66) rfl rfl), hH⟩)
set_option maxHeartbeats 4000000 in
set_option maxRecDepth 100000 in
theorem c_X7_dry (E : Ev) (ws : TD) (kp : TD) (rd : TD) (ty : TD) (ik : TD) (un : Int × Int) (xt : Int × Int) (tp : Int × Int) (sp : Int × Int) (wrb : Int × Int) (nu : Int × Int) (nab : Int × Int) (iwb : Int × Int) (X0 : Nat → Int32) (A : Nat → Int32) (Z : Nat → Int32) (a0 : Nat) (a1 : Int32) (ha0 : eT E a0 ∈ [24]) (hX0 : okR X0) (hA : okR A) (hqX0 : sQ Z X0) : TcI E yX7_dry cX7_dry 3 .int ({ frames := 10, cells := 0, slots := 0, locals := 245 }) [.ref a0, .int a1] (fun H => TH E (tbM (mD (.inl tp) (.inl sp) (.inl nu) (.inl un) (.inl (0, 18)) (.inl xt) (.inl wrb) (.inl nab) (.inl iwb)) (xD 660 X0) ws kp (xD 660 A) rd m_second ty ik) H) (fun v H => ∃ X2 : Nat → Int32, (okR X2 ∧ sQ Z X2) ∧ ∃ A2 : Nat → Int32, (okR A2) ∧ ((-2147483648) ≤ v.toInt ∧ v.toInt ≤ 2147483647) ∧ TH E (tbM (mD (.inl tp) (.inl sp) (.inl nu) (.inl un) (.inl (0, 18)) (.inl xt) (.inl wrb) (.inl nab) (.inl iwb)) (xD 660 X2) ws kp (xD 660 A2) rd m_second ty ik) H) := by
  refine teI (by decide) (Nat.le_of_ble_eq_true rfl) ?_
  intro p_ ev_ s mi_ below_ meth cd_ ls F hK hN hO hH hS hl
  have hH : TH E (tbM (mD (.inl tp) (.inl sp) (.inl nu) (.inl un) (.inl (0, 18)) (.inl xt) (.inl wrb) (.inl nab) (.inl iwb)) (xD 660 X0) ws kp (xD 660 A) rd m_second ty ik) s.heap := hH
  have hl : lv_has ls 3 [(0, .ref a0), (1, .int a1)] := hl
  have hBX0 := okB hX0.1
  have hLX0 := hX0.2
  have hBA := okB hA.1
  have hLA := hA.2
  refine lv_iload_n F.1 F.2.1 dX7_dry_0 rfl (lv_at hl 1 rfl) ?_
  refine tI2l F dX7_dry_1 (fun w_1 hw_1 => ?_)
  refine lv_lconst (v := 1) F.1 F.2.1 dX7_dry_2 (by decide) ?_
  refine topKL (a := 1) (by decide) (fun j_2 hj_2 => ?_)
  refine lv_ldc2 (own := RX7) (v := 10) F.1 F.2.1 F.2.2.2.2.1 (F.2.2.2.2.2.2.1 _ wd_57_7) dX7_dry_3 ?_
  refine topKL (a := 10) (by decide) (fun j_3 hj_3 => ?_)
  refine tSi (As := [.long w_1, .long j_2, .long j_3]) (rest := []) F hK hN hO (c_X7_in E (mD (.inl tp) (.inl sp) (.inl nu) (.inl un) (.inl (0, 18)) (.inl xt) (.inl wrb) (.inl nab) (.inl iwb)) (xD 660 X0) ws kp (xD 660 A) rd m_second ty ik w_1 j_2 j_3) ms_X7_in wd_8_10 ⟨Nat.le_of_ble_eq_true rfl, Nat.le_of_ble_eq_true rfl⟩ ⟨Nat.le_of_ble_eq_true rfl, Nat.le_of_ble_eq_true rfl⟩ hH hS rfl hl.1 (Nat.le_of_ble_eq_true rfl) dX7_dry_6 (fun z_4 H locs hq hS => ?_)
  obtain ⟨f_5, f_6, hH⟩ := hq
  have hH : TH E (tbM (mD (.inl tp) (.inl sp) (.inl nu) (.inl un) (.inl (0, 18)) (.inl xt) (.inl wrb) (.inl nab) (.inl iwb)) (xD 660 X0) ws kp (xD 660 A) rd m_second ty ik) H := hH
  refine z_ne (tgt := 14) F dX7_dry_9 (by decide) (fun c_7 => ?_) (fun c_7 => ?_)
  · skip
    have r_8 : 1 ≤ z_4.toInt ∧ z_4.toInt ≤ 1 := by have h9_ := f_5; omega
    have r_9 : 1 ≤ a1.toInt ∧ a1.toInt ≤ 10 := by have h9_ := (i32b a1); omega
    refine lv_aload_n F.1 F.2.1 dX7_dry_14 rfl (lv_at hl 0 rfl) ?_
    refine tVv (b := a0) (As := []) (rest := []) F hK hN hO (c_X7_putsAside E ws kp rd m_second ty ik un (0, 18) xt tp sp wrb nu nab iwb X0 A Z a0 ha0 hX0 hqX0) mv_X7_putsAside wd_37_16 ⟨Nat.le_of_ble_eq_true rfl, Nat.le_of_ble_eq_true rfl⟩ ⟨Nat.le_of_ble_eq_true rfl, Nat.le_of_ble_eq_true rfl⟩ hH hS (tRecv hK hH (tyb ha0 (all1 rfl)) clX7) rfl hl.1 (Nat.le_of_ble_eq_true rfl) dX7_dry_15 (fun H locs hq hS => ?_)
    obtain ⟨g_12, hg_12, hH⟩ := hq
    have hH : TH E (tbM (mD (.inl tp) (.inl sp) (.inl nu) (.inl un) (.inl (0, 18)) (.inl xt) (.inl wrb) (.inl nab) (.inl iwb)) (xD 660 X0) ws kp (xD 660 g_12) rd m_second ty ik) H := hH
    have hqg_12 := hg_12.2
    have hBg_12 := okB hg_12.1.1
    have hLg_12 := hg_12.1.2
    refine lv_iconst (v := 0) F.1 F.2.1 dX7_dry_18 (by decide) ?_
    refine topK (a := 0) (by decide) (fun k_13 hk_13 => ?_)
    refine lv_istore_n (lv' := [(2, .int k_13), (0, .ref a0), (1, .int a1)]) F.1 F.2.1 dX7_dry_19 rfl hl (by decide) rfl (fun ls hl => ?_)
    refine wloop (σ := Int32 × (Nat → Int32)) (fun n9 x9 H locs ls => (401 - x9.1.toInt + 1).toNat < n9 ∧ (0 ≤ x9.1.toInt ∧ x9.1.toInt ≤ 401) ∧ (okR x9.2) ∧ (sQ Z x9.2) ∧ TH E (tbM (mD (.inl tp) (.inl sp) (.inl nu) (.inl un) (.inl (0, 18)) (.inl xt) (.inl wrb) (.inl nab) (.inl iwb)) (xD 660 x9.2) ws kp (xD 660 g_12) rd m_second ty ik) H ∧ va_S (eA E s.heap.size) s.heap H locs ∧ lv_has ls 3 [(0, .ref a0), (1, .int a1), (2, .int x9.1)]) ?_ (fun x9 H locs ls h => absurd h.1 (Nat.not_lt_zero _)) _ (k_13, X0) ⟨Nat.lt_succ_self _, (wkb (eqb hk_13) rfl rfl), hX0, (show sQ Z X0 from hqX0), hH, hS, lv_sub hl [1, 2, 0] rfl⟩
    intro n_20 ih_20 ⟨u_14, G_15⟩ H locs ls ⟨hm_20, hu_14, hG_15, hcr20_0, hH, hS, hl⟩
    have hm_20 : (401 - u_14.toInt + 1).toNat < n_20 + 1 := hm_20
    have hu_14 : (0 ≤ u_14.toInt ∧ u_14.toInt ≤ 401) := hu_14
    have hG_15 : (okR G_15) := hG_15
    have hcr20_0 : (sQ Z G_15) := hcr20_0
    have hH : TH E (tbM (mD (.inl tp) (.inl sp) (.inl nu) (.inl un) (.inl (0, 18)) (.inl xt) (.inl wrb) (.inl nab) (.inl iwb)) (xD 660 G_15) ws kp (xD 660 g_12) rd m_second ty ik) H := hH
    have hl : lv_has ls 3 [(0, .ref a0), (1, .int a1), (2, .int u_14)] := hl
    have hBG_15 := okB hG_15.1
    have hLG_15 := hG_15.2
    have hqG_15 := hcr20_0
    refine lv_iload_n F.1 F.2.1 dX7_dry_20 rfl (lv_at hl 2 rfl) ?_
    refine lv_sipush (v := 400) F.1 F.2.1 dX7_dry_21 (by decide) ?_
    refine topK (a := 400) (by decide) (fun k_16 hk_16 => ?_)
    refine b_gt (tgt := 50) F dX7_dry_24 (by decide) (fun c_17 => ?_) (fun c_17 => ?_)
    · skip
      have r_18 : 401 ≤ u_14.toInt ∧ u_14.toInt ≤ 401 := by have h9_ := hu_14; omega
      refine lv_bipush (v := (-2)) F.1 F.2.1 dX7_dry_50 (by decide) ?_
      refine topK (a := (-2)) (by decide) (fun k_20 hk_20 => ?_)
      exact txI F hS dX7_dry_52 rfl (⟨G_15, ⟨hG_15, hqG_15⟩, g_12, hg_12.1, (wkb (eqb hk_20) rfl rfl), hH⟩)
    · skip
      have r_19 : 0 ≤ u_14.toInt ∧ u_14.toInt ≤ 400 := by have h9_ := hu_14; omega
      refine lv_aload_n F.1 F.2.1 dX7_dry_27 rfl (lv_at hl 0 rfl) ?_
      refine tGetR (j := 0) F hK hH (tyb ha0 (all1 rfl)) rfl (all1 rfl) clX7 (by decide) wd_6_5 dX7_dry_28 (fun q_21 hq_21 _ => ?_)
      refine lv_iconst (v := 4) F.1 F.2.1 dX7_dry_31 (by decide) ?_
      refine topK (a := 4) (by decide) (fun k_22 hk_22 => ?_)
      refine lv_iload_n F.1 F.2.1 dX7_dry_32 rfl (lv_at hl 2 rfl) ?_
      refine tIastX (t := 25) F hK hH hS (List.mem_singleton.mp hq_21) (by decide) rfl (ixb (n := 660) (eqb hk_22) rfl rfl) dX7_dry_33 (fun G_23 eG_23 H locs hH hS => ?_)
      have hH : TH E (tbM (mD (.inl tp) (.inl sp) (.inl nu) (.inl un) (.inl (0, 18)) (.inl xt) (.inl wrb) (.inl nab) (.inl iwb)) (xD 660 G_23) ws kp (xD 660 g_12) rd m_second ty ik) H := hH
      have hG_23 : okR G_23 := (okR.st hG_15 eG_23 (by omega) (by omega) (by omega) (phiI (by omega) (by omega) (by omega) (by omega) (by omega) (by omega) (by omega) (by omega) (by omega) (by omega) (by omega) (by omega) (by omega) (by omega) (by omega) (by omega) (by omega) (by omega)))
      have hBG_23 := okB hG_23.1
      have hLG_23 := hG_23.2
      have hqG_23 : sQ Z G_23 := sQ.st hqG_15 eG_23 (by omega)
      refine lv_aload_n F.1 F.2.1 dX7_dry_34 rfl (lv_at hl 0 rfl) ?_
      refine lv_iload_n F.1 F.2.1 dX7_dry_35 rfl (lv_at hl 1 rfl) ?_
      refine tVi (b := a0) (As := [.int a1]) (rest := []) F hK hN hO (c_X7_isDryBy E ws kp rd ty ik un xt tp sp wrb nu nab iwb G_23 g_12 Z a0 a1 ha0 r_9 hG_23 hg_12.1 hqg_12 hqG_23) mv_X7_isDryBy wd_57_8 ⟨Nat.le_of_ble_eq_true rfl, Nat.le_of_ble_eq_true rfl⟩ ⟨Nat.le_of_ble_eq_true rfl, Nat.le_of_ble_eq_true rfl⟩ hH hS (tRecv hK hH (tyb ha0 (all1 rfl)) clX7) rfl hl.1 (Nat.le_of_ble_eq_true rfl) dX7_dry_36 (fun z_24 H locs hq hS => ?_)
      obtain ⟨g_25, hg_25, f_26, hH⟩ := hq
      have hH : TH E (tbM (mD (.inl tp) (.inl sp) (.inl nu) (.inl un) (.inl (0, 18)) (.inl xt) (.inl wrb) (.inl nab) (.inl iwb)) (xD 660 g_25) ws kp (xD 660 g_12) rd m_second ty ik) H := hH
      have hqg_25 := hg_25.2
      have hBg_25 := okB hg_25.1.1
      have hLg_25 := hg_25.1.2
      refine z_eq (tgt := 44) F dX7_dry_39 (by decide) (fun c_27 => ?_) (fun c_27 => ?_)
      · skip
        have r_28 : 0 ≤ z_24.toInt ∧ z_24.toInt ≤ 0 := by have h9_ := f_26; omega
        obtain ⟨x_30, ex_30, hx_30⟩ := iincB (c := 1) (lo := 1) (hi := 401) r_19 rfl
        refine lv_iinc (v := x_30) (lv' := [(2, .int x_30), (0, .ref a0), (1, .int a1)]) F.1 F.2.1 dX7_dry_44 hl (k := 2) rfl ex_30 (by decide) rfl (fun ls hl => ?_)
        refine lv_goto (tgt := 20) F.1 F.2.1 dX7_dry_47 (by decide) ?_
        exact ih_20 (x_30, g_25) _ _ _ ⟨(show (401 - x_30.toInt + 1).toNat < n_20 from by omega), (wkb hx_30.2 rfl rfl), hg_25.1, (show sQ Z g_25 from hqg_25), hH, hS, lv_sub hl [1, 2, 0] rfl⟩
      · skip
        have r_29 : 1 ≤ z_24.toInt ∧ z_24.toInt ≤ 1 := by have h9_ := f_26; omega
        refine lv_iload_n F.1 F.2.1 dX7_dry_42 rfl (lv_at hl 2 rfl) ?_
        exact txI F hS dX7_dry_43 rfl (⟨g_25, ⟨hg_25.1, hqg_25⟩, g_12, hg_12.1, (wkb r_19 rfl rfl), hH⟩)
  · skip
    have r_10 : 0 ≤ z_4.toInt ∧ z_4.toInt ≤ 0 := by have h9_ := f_5; omega
    refine lv_iconst (v := (-1)) F.1 F.2.1 dX7_dry_12 (by decide) ?_
    refine topK (a := (-1)) (by decide) (fun k_31 hk_31 => ?_)
    exact txI F hS dX7_dry_13 rfl (⟨X0, ⟨hX0, hqX0⟩, A, hA, (wkb (eqb hk_31) rfl rfl), hH⟩)
set_option maxHeartbeats 4000000 in
set_option maxRecDepth 100000 in
theorem c_X7_full (E : Ev) (ws : TD) (kp : TD) (rd : TD) (ty : TD) (ik : TD) (un : Int × Int) (xt : Int × Int) (tp : Int × Int) (sp : Int × Int) (wrb : Int × Int) (nu : Int × Int) (nab : Int × Int) (iwb : Int × Int) (X0 : Nat → Int32) (A : Nat → Int32) (Z : Nat → Int32) (a0 : Nat) (a1 : Int32) (a2 : Int32) (ha0 : eT E a0 ∈ [24]) (hX0 : okR X0) (hA : okR A) (hqX0 : sQ Z X0) : TcI E yX7_full cX7_full 6 .int ({ frames := 9, cells := 0, slots := 0, locals := 222 }) [.ref a0, .int a1, .int a2] (fun H => TH E (tbM (mD (.inl tp) (.inl sp) (.inl nu) (.inl un) (.inl (0, 18)) (.inl xt) (.inl wrb) (.inl nab) (.inl iwb)) (xD 660 X0) ws kp (xD 660 A) rd m_second ty ik) H) (fun v H => ∃ X2 : Nat → Int32, (okR X2 ∧ sQ Z X2) ∧ ∃ A2 : Nat → Int32, (okR A2) ∧ ((-2147483648) ≤ v.toInt ∧ v.toInt ≤ 2147483647) ∧ TH E (tbM (mD (.inl tp) (.inl sp) (.inl nu) (.inl un) (.inl (0, 18)) (.inl xt) (.inl wrb) (.inl nab) (.inl iwb)) (xD 660 X2) ws kp (xD 660 A2) rd m_second ty ik) H) := by
  refine teI (by decide) (Nat.le_of_ble_eq_true rfl) ?_
  intro p_ ev_ s mi_ below_ meth cd_ ls F hK hN hO hH hS hl
  have hH : TH E (tbM (mD (.inl tp) (.inl sp) (.inl nu) (.inl un) (.inl (0, 18)) (.inl xt) (.inl wrb) (.inl nab) (.inl iwb)) (xD 660 X0) ws kp (xD 660 A) rd m_second ty ik) s.heap := hH
  have hl : lv_has ls 6 [(0, .ref a0), (1, .int a1), (2, .int a2)] := hl
  have hBX0 := okB hX0.1
  have hLX0 := hX0.2
  have hBA := okB hA.1
  have hLA := hA.2
  refine lv_aload_n F.1 F.2.1 dX7_full_0 rfl (lv_at hl 0 rfl) ?_
  refine lv_iload_n F.1 F.2.1 dX7_full_1 rfl (lv_at hl 1 rfl) ?_
  refine tVi (b := a0) (As := [.int a1]) (rest := []) F hK hN hO (c_X7_isStore E ws kp (xD 660 A) rd m_second ty ik un (0, 18) xt tp sp wrb nu nab iwb X0 a0 a1 ha0 ((hX0).1)) mv_X7_isStore wd_32_17 ⟨Nat.le_of_ble_eq_true rfl, Nat.le_of_ble_eq_true rfl⟩ ⟨Nat.le_of_ble_eq_true rfl, Nat.le_of_ble_eq_true rfl⟩ hH hS (tRecv hK hH (tyb ha0 (all1 rfl)) clX7) rfl hl.1 (Nat.le_of_ble_eq_true rfl) dX7_full_2 (fun z_1 H locs hq hS => ?_)
  obtain ⟨f_2, f_3, f_4, hH⟩ := hq
  have hH : TH E (tbM (mD (.inl tp) (.inl sp) (.inl nu) (.inl un) (.inl (0, 18)) (.inl xt) (.inl wrb) (.inl nab) (.inl iwb)) (xD 660 X0) ws kp (xD 660 A) rd m_second ty ik) H := hH
  refine z_eq (tgt := 18) F dX7_full_5 (by decide) (fun c_5 => ?_) (fun c_5 => ?_)
  · skip
    have r_6 : 0 ≤ z_1.toInt ∧ z_1.toInt ≤ 0 := by have h9_ := f_2; omega
    refine lv_iconst (v := (-1)) F.1 F.2.1 dX7_full_18 (by decide) ?_
    refine topK (a := (-1)) (by decide) (fun k_9 hk_9 => ?_)
    exact txI F hS dX7_full_19 rfl (⟨X0, ⟨hX0, hqX0⟩, A, hA, (wkb (eqb hk_9) rfl rfl), hH⟩)
  · skip
    have r_7 : 1 ≤ z_1.toInt ∧ z_1.toInt ≤ 1 := by have h9_ := f_2; omega
    have r_8 : 0 ≤ a1.toInt ∧ a1.toInt ≤ 3 := by have h9_ := (i32b a1); omega
    refine lv_iload_n F.1 F.2.1 dX7_full_8 rfl (lv_at hl 2 rfl) ?_
    refine tI2l F dX7_full_9 (fun w_10 hw_10 => ?_)
    refine lv_lconst (v := 0) F.1 F.2.1 dX7_full_10 (by decide) ?_
    refine topKL (a := 0) (by decide) (fun j_11 hj_11 => ?_)
    refine lv_lconst (v := 1) F.1 F.2.1 dX7_full_11 (by decide) ?_
    refine topKL (a := 1) (by decide) (fun j_12 hj_12 => ?_)
    refine tSi (As := [.long w_10, .long j_11, .long j_12]) (rest := []) F hK hN hO (c_X7_in E (mD (.inl tp) (.inl sp) (.inl nu) (.inl un) (.inl (0, 18)) (.inl xt) (.inl wrb) (.inl nab) (.inl iwb)) (xD 660 X0) ws kp (xD 660 A) rd m_second ty ik w_10 j_11 j_12) ms_X7_in wd_8_10 ⟨Nat.le_of_ble_eq_true rfl, Nat.le_of_ble_eq_true rfl⟩ ⟨Nat.le_of_ble_eq_true rfl, Nat.le_of_ble_eq_true rfl⟩ hH hS rfl hl.1 (Nat.le_of_ble_eq_true rfl) dX7_full_12 (fun z_13 H locs hq hS => ?_)
    obtain ⟨f_14, f_15, hH⟩ := hq
    have hH : TH E (tbM (mD (.inl tp) (.inl sp) (.inl nu) (.inl un) (.inl (0, 18)) (.inl xt) (.inl wrb) (.inl nab) (.inl iwb)) (xD 660 X0) ws kp (xD 660 A) rd m_second ty ik) H := hH
    refine z_ne (tgt := 20) F dX7_full_15 (by decide) (fun c_16 => ?_) (fun c_16 => ?_)
    · skip
      have r_17 : 1 ≤ z_13.toInt ∧ z_13.toInt ≤ 1 := by have h9_ := f_14; omega
      have r_18 : 0 ≤ a2.toInt ∧ a2.toInt ≤ 1 := by have h9_ := (i32b a2); omega
      refine lv_bipush (v := (-2)) F.1 F.2.1 dX7_full_20 (by decide) ?_
      refine topK (a := (-2)) (by decide) (fun k_20 hk_20 => ?_)
      refine lv_istore_n (lv' := [(3, .int k_20), (0, .ref a0), (1, .int a1), (2, .int a2)]) F.1 F.2.1 dX7_full_22 rfl hl (by decide) rfl (fun ls hl => ?_)
      refine lv_iload_n F.1 F.2.1 dX7_full_23 rfl (lv_at hl 3 rfl) ?_
      refine z_ne (tgt := 36) F dX7_full_24 (by decide) (fun c_21 => ?_) (fun c_21 => ?_)
      · skip
        have r_22 : 1 ≤ a2.toInt ∧ a2.toInt ≤ 1 := by have h9_ := r_18; omega
        refine lv_iconst (v := 0) F.1 F.2.1 dX7_full_36 (by decide) ?_
        refine topK (a := 0) (by decide) (fun k_24 hk_24 => ?_)
        refine lv_istore (lv' := [(4, .int k_24), (3, .int k_20), (0, .ref a0), (1, .int a1), (2, .int a2)]) F.1 F.2.1 dX7_full_37 hl (by decide) rfl (fun ls hl => ?_)
        refine lv_aload_n F.1 F.2.1 dX7_full_39 rfl (lv_at hl 2 rfl) ?_
        refine tVv (b := a0) (As := []) (rest := []) F hK hN hO (c_X7_putsAside E ws kp rd m_second ty ik un (0, 18) xt tp sp wrb nu nab iwb X0 A Z a0 ha0 hX0 hqX0) mv_X7_putsAside wd_37_16 ⟨Nat.le_of_ble_eq_true rfl, Nat.le_of_ble_eq_true rfl⟩ ⟨Nat.le_of_ble_eq_true rfl, Nat.le_of_ble_eq_true rfl⟩ hH hS (tRecv hK hH (tyb ha0 (all1 rfl)) clX7) rfl hl.1 (Nat.le_of_ble_eq_true rfl) dX7_full_40 (fun H locs hq hS => ?_)
        obtain ⟨g_26, hg_26, hH⟩ := hq
        have hH : TH E (tbM (mD (.inl tp) (.inl sp) (.inl nu) (.inl un) (.inl (0, 18)) (.inl xt) (.inl wrb) (.inl nab) (.inl iwb)) (xD 660 X0) ws kp (xD 660 g_26) rd m_second ty ik) H := hH
        have hqg_26 := hg_26.2
        have hBg_26 := okB hg_26.1.1
        have hLg_26 := hg_26.1.2
        refine lv_iconst (v := 0) F.1 F.2.1 dX7_full_43 (by decide) ?_
        refine topK (a := 0) (by decide) (fun k_27 hk_27 => ?_)
        refine lv_istore (lv' := [(5, .int k_27), (4, .int k_24), (3, .int k_20), (0, .ref a0), (1, .int a1), (2, .int a2)]) F.1 F.2.1 dX7_full_44 hl (by decide) rfl (fun ls hl => ?_)
        refine wloop (σ := Int32 × Int32 × (Nat → Int32)) (fun n9 x9 H locs ls => (361 - x9.2.1.toInt + 1).toNat < n9 ∧ ((-2) ≤ x9.1.toInt ∧ x9.1.toInt ≤ 360) ∧ (0 ≤ x9.2.1.toInt ∧ x9.2.1.toInt ≤ 361) ∧ (okR x9.2.2) ∧ (sQ Z x9.2.2) ∧ TH E (tbM (mD (.inl tp) (.inl sp) (.inl nu) (.inl un) (.inl (0, 18)) (.inl xt) (.inl wrb) (.inl nab) (.inl iwb)) (xD 660 x9.2.2) ws kp (xD 660 g_26) rd m_second ty ik) H ∧ va_S (eA E s.heap.size) s.heap H locs ∧ lv_has ls 6 [(0, .ref a0), (1, .int a1), (3, .int x9.1), (4, .int k_24), (5, .int x9.2.1)]) ?_ (fun x9 H locs ls h => absurd h.1 (Nat.not_lt_zero _)) _ (k_20, k_27, X0) ⟨Nat.lt_succ_self _, (wkb (eqb hk_20) rfl rfl), (wkb (eqb hk_27) rfl rfl), hX0, (show sQ Z X0 from hqX0), hH, hS, lv_sub hl [3, 4, 2, 1, 0] rfl⟩
        intro n_46 ih_46 ⟨u_28, u_29, G_30⟩ H locs ls ⟨hm_46, hu_28, hu_29, hG_30, hcr46_0, hH, hS, hl⟩
        have hm_46 : (361 - u_29.toInt + 1).toNat < n_46 + 1 := hm_46
        have hu_28 : ((-2) ≤ u_28.toInt ∧ u_28.toInt ≤ 360) := hu_28
        have hu_29 : (0 ≤ u_29.toInt ∧ u_29.toInt ≤ 361) := hu_29
        have hG_30 : (okR G_30) := hG_30
        have hcr46_0 : (sQ Z G_30) := hcr46_0
        have hH : TH E (tbM (mD (.inl tp) (.inl sp) (.inl nu) (.inl un) (.inl (0, 18)) (.inl xt) (.inl wrb) (.inl nab) (.inl iwb)) (xD 660 G_30) ws kp (xD 660 g_26) rd m_second ty ik) H := hH
        have hl : lv_has ls 6 [(0, .ref a0), (1, .int a1), (3, .int u_28), (4, .int k_24), (5, .int u_29)] := hl
        have hBG_30 := okB hG_30.1
        have hLG_30 := hG_30.2
        have hqG_30 := hcr46_0
        refine lv_iload F.1 F.2.1 dX7_full_46 (lv_at hl 4 rfl) ?_
        refine lv_sipush (v := 360) F.1 F.2.1 dX7_full_48 (by decide) ?_
        refine topK (a := 360) (by decide) (fun k_31 hk_31 => ?_)
        refine b_gt (tgt := 87) F dX7_full_51 (by decide) (fun c_32 => ?_) (fun c_32 => ?_)
        · skip
          have r_33 : 361 ≤ u_29.toInt ∧ u_29.toInt ≤ 361 := by have h9_ := hu_29; omega
          refine lv_aload_n F.1 F.2.1 dX7_full_87 rfl (lv_at hl 0 rfl) ?_
          refine tVv (b := a0) (As := []) (rest := []) F hK hN hO (c_X7_takesBack E ws kp rd m_second ty ik un (0, 18) xt tp sp wrb nu nab iwb G_30 g_26 Z a0 ha0 hG_30 hg_26.1 hqg_26) mv_X7_takesBack wd_38_0 ⟨Nat.le_of_ble_eq_true rfl, Nat.le_of_ble_eq_true rfl⟩ ⟨Nat.le_of_ble_eq_true rfl, Nat.le_of_ble_eq_true rfl⟩ hH hS (tRecv hK hH (tyb ha0 (all1 rfl)) clX7) rfl hl.1 (Nat.le_of_ble_eq_true rfl) dX7_full_88 (fun H locs hq hS => ?_)
          obtain ⟨g_36, hg_36, hH⟩ := hq
          have hH : TH E (tbM (mD (.inl tp) (.inl sp) (.inl nu) (.inl un) (.inl (0, 18)) (.inl xt) (.inl wrb) (.inl nab) (.inl iwb)) (xD 660 g_36) ws kp (xD 660 g_26) rd m_second ty ik) H := hH
          have hqg_36 := hg_36.2
          have hBg_36 := okB hg_36.1.1
          have hLg_36 := hg_36.1.2
          refine lv_iload_n F.1 F.2.1 dX7_full_91 rfl (lv_at hl 2 rfl) ?_
          exact txI F hS dX7_full_92 rfl (⟨g_36, ⟨hg_36.1, hqg_36⟩, g_26, hg_26.1, (wkb hu_28 rfl rfl), hH⟩)
        · skip
          have r_34 : 0 ≤ u_29.toInt ∧ u_29.toInt ≤ 360 := by have h9_ := hu_29; omega
          refine lv_iload_n F.1 F.2.1 dX7_full_54 rfl (lv_at hl 2 rfl) ?_
          refine lv_bipush (v := (-2)) F.1 F.2.1 dX7_full_55 (by decide) ?_
          refine topK (a := (-2)) (by decide) (fun k_37 hk_37 => ?_)
          refine b_ne (tgt := 87) F dX7_full_57 (by decide) (fun c_38 => ?_) (fun c_38 => ?_)
          · skip
            have r_39 : (-1) ≤ u_28.toInt ∧ u_28.toInt ≤ 360 := by have h9_ := hu_28; omega
            refine lv_aload_n F.1 F.2.1 dX7_full_87 rfl (lv_at hl 0 rfl) ?_
            refine tVv (b := a0) (As := []) (rest := []) F hK hN hO (c_X7_takesBack E ws kp rd m_second ty ik un (0, 18) xt tp sp wrb nu nab iwb G_30 g_26 Z a0 ha0 hG_30 hg_26.1 hqg_26) mv_X7_takesBack wd_38_0 ⟨Nat.le_of_ble_eq_true rfl, Nat.le_of_ble_eq_true rfl⟩ ⟨Nat.le_of_ble_eq_true rfl, Nat.le_of_ble_eq_true rfl⟩ hH hS (tRecv hK hH (tyb ha0 (all1 rfl)) clX7) rfl hl.1 (Nat.le_of_ble_eq_true rfl) dX7_full_88 (fun H locs hq hS => ?_)
            obtain ⟨g_42, hg_42, hH⟩ := hq
            have hH : TH E (tbM (mD (.inl tp) (.inl sp) (.inl nu) (.inl un) (.inl (0, 18)) (.inl xt) (.inl wrb) (.inl nab) (.inl iwb)) (xD 660 g_42) ws kp (xD 660 g_26) rd m_second ty ik) H := hH
            have hqg_42 := hg_42.2
            have hBg_42 := okB hg_42.1.1
            have hLg_42 := hg_42.1.2
            refine lv_iload_n F.1 F.2.1 dX7_full_91 rfl (lv_at hl 2 rfl) ?_
            exact txI F hS dX7_full_92 rfl (⟨g_42, ⟨hg_42.1, hqg_42⟩, g_26, hg_26.1, (wkb r_39 rfl rfl), hH⟩)
          · skip
            have r_40 : (-2) ≤ u_28.toInt ∧ u_28.toInt ≤ (-2) := by have h9_ := hu_28; omega
            refine lv_aload_n F.1 F.2.1 dX7_full_60 rfl (lv_at hl 0 rfl) ?_
            refine lv_iload_n F.1 F.2.1 dX7_full_61 rfl (lv_at hl 1 rfl) ?_
            refine lv_iconst (v := 4) F.1 F.2.1 dX7_full_62 (by decide) ?_
            refine topK (a := 4) (by decide) (fun k_43 hk_43 => ?_)
            refine tVi (b := a0) (As := [.int a1, .int k_43]) (rest := []) F hK hN hO (c_X7_ofStore_4 E ws kp (xD 660 g_26) rd m_second ty ik un (0, 18) xt tp sp wrb nu nab iwb G_30 a0 a1 k_43 ha0 r_8 (eqb hk_43) ((hG_30).1)) mv_X7_ofStore wd_27_0 ⟨Nat.le_of_ble_eq_true rfl, Nat.le_of_ble_eq_true rfl⟩ ⟨Nat.le_of_ble_eq_true rfl, Nat.le_of_ble_eq_true rfl⟩ hH hS (tRecv hK hH (tyb ha0 (all1 rfl)) clX7) rfl hl.1 (Nat.le_of_ble_eq_true rfl) dX7_full_63 (fun z_44 H locs hq hS => ?_)
            obtain ⟨f_45, f_46, hH⟩ := hq
            have hH : TH E (tbM (mD (.inl tp) (.inl sp) (.inl nu) (.inl un) (.inl (0, 18)) (.inl xt) (.inl wrb) (.inl nab) (.inl iwb)) (xD 660 G_30) ws kp (xD 660 g_26) rd m_second ty ik) H := hH
            refine lv_iload F.1 F.2.1 dX7_full_66 (lv_at hl 3 rfl) ?_
            refine b_ne (tgt := 77) F dX7_full_68 (by decide) (fun c_47 => ?_) (fun c_47 => ?_)
            · skip
              refine lv_aload_n F.1 F.2.1 dX7_full_77 rfl (lv_at hl 0 rfl) ?_
              refine tVv (b := a0) (As := []) (rest := []) F hK hN hO (c_X7_passes E ws kp (xD 660 g_26) rd ty ik un xt tp sp wrb nu nab iwb G_30 Z a0 ha0 hG_30 hqG_30) mv_X7_passes wd_25_11 ⟨Nat.le_of_ble_eq_true rfl, Nat.le_of_ble_eq_true rfl⟩ ⟨Nat.le_of_ble_eq_true rfl, Nat.le_of_ble_eq_true rfl⟩ hH hS (tRecv hK hH (tyb ha0 (all1 rfl)) clX7) rfl hl.1 (Nat.le_of_ble_eq_true rfl) dX7_full_78 (fun H locs hq hS => ?_)
              obtain ⟨g_50, hg_50, hH⟩ := hq
              have hH : TH E (tbM (mD (.inl tp) (.inl sp) (.inl nu) (.inl un) (.inl (0, 18)) (.inl xt) (.inl wrb) (.inl nab) (.inl iwb)) (xD 660 g_50) ws kp (xD 660 g_26) rd m_second ty ik) H := hH
              have hqg_50 := hg_50.2
              have hBg_50 := okB hg_50.1.1
              have hLg_50 := hg_50.1.2
              obtain ⟨x_51, ex_51, hx_51⟩ := iincB (c := 1) (lo := 1) (hi := 361) r_34 rfl
              refine lv_iinc (v := x_51) (lv' := [(5, .int x_51), (0, .ref a0), (1, .int a1), (3, .int u_28), (4, .int k_24)]) F.1 F.2.1 dX7_full_81 hl (k := 4) rfl ex_51 (by decide) rfl (fun ls hl => ?_)
              refine lv_goto (tgt := 46) F.1 F.2.1 dX7_full_84 (by decide) ?_
              exact ih_46 (u_28, x_51, g_50) _ _ _ ⟨(show (361 - x_51.toInt + 1).toNat < n_46 from by omega), (wkb r_40 rfl rfl), (wkb hx_51.2 rfl rfl), hg_50.1, (show sQ Z g_50 from hqg_50), hH, hS, lv_sub hl [1, 2, 3, 4, 0] rfl⟩
            · skip
              have r_48 : 0 ≤ z_44.toInt ∧ z_44.toInt ≤ 0 := by have h9_ := f_45; omega
              refine lv_iload F.1 F.2.1 dX7_full_71 (lv_at hl 4 rfl) ?_
              refine lv_istore_n (lv' := [(3, .int u_29), (0, .ref a0), (1, .int a1), (4, .int k_24), (5, .int u_29)]) F.1 F.2.1 dX7_full_73 rfl hl (by decide) rfl (fun ls hl => ?_)
              refine lv_goto (tgt := 81) F.1 F.2.1 dX7_full_74 (by decide) ?_
              obtain ⟨x_52, ex_52, hx_52⟩ := iincB (c := 1) (lo := 1) (hi := 361) r_34 rfl
              refine lv_iinc (v := x_52) (lv' := [(5, .int x_52), (3, .int u_29), (0, .ref a0), (1, .int a1), (4, .int k_24)]) F.1 F.2.1 dX7_full_81 hl (k := 4) rfl ex_52 (by decide) rfl (fun ls hl => ?_)
              refine lv_goto (tgt := 46) F.1 F.2.1 dX7_full_84 (by decide) ?_
              exact ih_46 (u_29, x_52, G_30) _ _ _ ⟨(show (361 - x_52.toInt + 1).toNat < n_46 from by omega), (wkb r_34 rfl rfl), (wkb hx_52.2 rfl rfl), hG_30, (show sQ Z G_30 from hqG_30), hH, hS, lv_sub hl [2, 3, 1, 4, 0] rfl⟩
      · skip
        have r_23 : 0 ≤ a2.toInt ∧ a2.toInt ≤ 0 := by have h9_ := r_18; omega
        refine lv_aload_n F.1 F.2.1 dX7_full_27 rfl (lv_at hl 1 rfl) ?_
        refine lv_iload_n F.1 F.2.1 dX7_full_28 rfl (lv_at hl 2 rfl) ?_
        refine lv_iconst (v := 1) F.1 F.2.1 dX7_full_29 (by decide) ?_
        refine topK (a := 1) (by decide) (fun k_53 hk_53 => ?_)
        refine tVi (b := a0) (As := [.int a1, .int k_53]) (rest := []) F hK hN hO (c_X7_ofStore_1 E ws kp (xD 660 A) rd m_second ty ik un (0, 18) xt tp sp wrb nu nab iwb X0 a0 a1 k_53 ha0 r_8 (eqb hk_53) ((hX0).1)) mv_X7_ofStore wd_27_0 ⟨Nat.le_of_ble_eq_true rfl, Nat.le_of_ble_eq_true rfl⟩ ⟨Nat.le_of_ble_eq_true rfl, Nat.le_of_ble_eq_true rfl⟩ hH hS (tRecv hK hH (tyb ha0 (all1 rfl)) clX7) rfl hl.1 (Nat.le_of_ble_eq_true rfl) dX7_full_30 (fun z_54 H locs hq hS => ?_)
        obtain ⟨f_55, f_56, hH⟩ := hq
        have hH : TH E (tbM (mD (.inl tp) (.inl sp) (.inl nu) (.inl un) (.inl (0, 18)) (.inl xt) (.inl wrb) (.inl nab) (.inl iwb)) (xD 660 X0) ws kp (xD 660 A) rd m_second ty ik) H := hH
        refine lv_goto (tgt := 37) F.1 F.2.1 dX7_full_33 (by decide) ?_
        refine lv_istore (lv' := [(4, .int z_54), (3, .int k_20), (0, .ref a0), (1, .int a1), (2, .int a2)]) F.1 F.2.1 dX7_full_37 hl (by decide) rfl (fun ls hl => ?_)
        refine lv_aload_n F.1 F.2.1 dX7_full_39 rfl (lv_at hl 2 rfl) ?_
        refine tVv (b := a0) (As := []) (rest := []) F hK hN hO (c_X7_putsAside E ws kp rd m_second ty ik un (0, 18) xt tp sp wrb nu nab iwb X0 A Z a0 ha0 hX0 hqX0) mv_X7_putsAside wd_37_16 ⟨Nat.le_of_ble_eq_true rfl, Nat.le_of_ble_eq_true rfl⟩ ⟨Nat.le_of_ble_eq_true rfl, Nat.le_of_ble_eq_true rfl⟩ hH hS (tRecv hK hH (tyb ha0 (all1 rfl)) clX7) rfl hl.1 (Nat.le_of_ble_eq_true rfl) dX7_full_40 (fun H locs hq hS => ?_)
        obtain ⟨g_58, hg_58, hH⟩ := hq
        have hH : TH E (tbM (mD (.inl tp) (.inl sp) (.inl nu) (.inl un) (.inl (0, 18)) (.inl xt) (.inl wrb) (.inl nab) (.inl iwb)) (xD 660 X0) ws kp (xD 660 g_58) rd m_second ty ik) H := hH
        have hqg_58 := hg_58.2
        have hBg_58 := okB hg_58.1.1
        have hLg_58 := hg_58.1.2
        refine lv_iconst (v := 0) F.1 F.2.1 dX7_full_43 (by decide) ?_
        refine topK (a := 0) (by decide) (fun k_59 hk_59 => ?_)
        refine lv_istore (lv' := [(5, .int k_59), (4, .int z_54), (3, .int k_20), (0, .ref a0), (1, .int a1), (2, .int a2)]) F.1 F.2.1 dX7_full_44 hl (by decide) rfl (fun ls hl => ?_)
        refine wloop (σ := Int32 × Int32 × (Nat → Int32)) (fun n9 x9 H locs ls => (361 - x9.2.1.toInt + 1).toNat < n9 ∧ ((-2) ≤ x9.1.toInt ∧ x9.1.toInt ≤ 360) ∧ (0 ≤ x9.2.1.toInt ∧ x9.2.1.toInt ≤ 361) ∧ (okR x9.2.2) ∧ (sQ Z x9.2.2) ∧ TH E (tbM (mD (.inl tp) (.inl sp) (.inl nu) (.inl un) (.inl (0, 18)) (.inl xt) (.inl wrb) (.inl nab) (.inl iwb)) (xD 660 x9.2.2) ws kp (xD 660 g_58) rd m_second ty ik) H ∧ va_S (eA E s.heap.size) s.heap H locs ∧ lv_has ls 6 [(0, .ref a0), (1, .int a1), (3, .int x9.1), (4, .int z_54), (5, .int x9.2.1)]) ?_ (fun x9 H locs ls h => absurd h.1 (Nat.not_lt_zero _)) _ (k_20, k_59, X0) ⟨Nat.lt_succ_self _, (wkb (eqb hk_20) rfl rfl), (wkb (eqb hk_59) rfl rfl), hX0, (show sQ Z X0 from hqX0), hH, hS, lv_sub hl [3, 4, 2, 1, 0] rfl⟩
        intro n_46 ih_46 ⟨u_60, u_61, G_62⟩ H locs ls ⟨hm_46, hu_60, hu_61, hG_62, hcr46_0, hH, hS, hl⟩
        have hm_46 : (361 - u_61.toInt + 1).toNat < n_46 + 1 := hm_46
        have hu_60 : ((-2) ≤ u_60.toInt ∧ u_60.toInt ≤ 360) := hu_60
        have hu_61 : (0 ≤ u_61.toInt ∧ u_61.toInt ≤ 361) := hu_61
        have hG_62 : (okR G_62) := hG_62
        have hcr46_0 : (sQ Z G_62) := hcr46_0
        have hH : TH E (tbM (mD (.inl tp) (.inl sp) (.inl nu) (.inl un) (.inl (0, 18)) (.inl xt) (.inl wrb) (.inl nab) (.inl iwb)) (xD 660 G_62) ws kp (xD 660 g_58) rd m_second ty ik) H := hH
        have hl : lv_has ls 6 [(0, .ref a0), (1, .int a1), (3, .int u_60), (4, .int z_54), (5, .int u_61)] := hl
        have hBG_62 := okB hG_62.1
        have hLG_62 := hG_62.2
        have hqG_62 := hcr46_0
        refine lv_iload F.1 F.2.1 dX7_full_46 (lv_at hl 4 rfl) ?_
        refine lv_sipush (v := 360) F.1 F.2.1 dX7_full_48 (by decide) ?_
        refine topK (a := 360) (by decide) (fun k_63 hk_63 => ?_)
        refine b_gt (tgt := 87) F dX7_full_51 (by decide) (fun c_64 => ?_) (fun c_64 => ?_)
        · skip
          have r_65 : 361 ≤ u_61.toInt ∧ u_61.toInt ≤ 361 := by have h9_ := hu_61; omega
          refine lv_aload_n F.1 F.2.1 dX7_full_87 rfl (lv_at hl 0 rfl) ?_
          refine tVv (b := a0) (As := []) (rest := []) F hK hN hO (c_X7_takesBack E ws kp rd m_second ty ik un (0, 18) xt tp sp wrb nu nab iwb G_62 g_58 Z a0 ha0 hG_62 hg_58.1 hqg_58) mv_X7_takesBack wd_38_0 ⟨Nat.le_of_ble_eq_true rfl, Nat.le_of_ble_eq_true rfl⟩ ⟨Nat.le_of_ble_eq_true rfl, Nat.le_of_ble_eq_true rfl⟩ hH hS (tRecv hK hH (tyb ha0 (all1 rfl)) clX7) rfl hl.1 (Nat.le_of_ble_eq_true rfl) dX7_full_88 (fun H locs hq hS => ?_)
          obtain ⟨g_68, hg_68, hH⟩ := hq
          have hH : TH E (tbM (mD (.inl tp) (.inl sp) (.inl nu) (.inl un) (.inl (0, 18)) (.inl xt) (.inl wrb) (.inl nab) (.inl iwb)) (xD 660 g_68) ws kp (xD 660 g_58) rd m_second ty ik) H := hH
          have hqg_68 := hg_68.2
          have hBg_68 := okB hg_68.1.1
          have hLg_68 := hg_68.1.2
          refine lv_iload_n F.1 F.2.1 dX7_full_91 rfl (lv_at hl 2 rfl) ?_
          exact txI F hS dX7_full_92 rfl (⟨g_68, ⟨hg_68.1, hqg_68⟩, g_58, hg_58.1, (wkb hu_60 rfl rfl), hH⟩)
        · skip
          have r_66 : 0 ≤ u_61.toInt ∧ u_61.toInt ≤ 360 := by have h9_ := hu_61; omega
          refine lv_iload_n F.1 F.2.1 dX7_full_54 rfl (lv_at hl 2 rfl) ?_
          refine lv_bipush (v := (-2)) F.1 F.2.1 dX7_full_55 (by decide) ?_
          refine topK (a := (-2)) (by decide) (fun k_69 hk_69 => ?_)
          refine b_ne (tgt := 87) F dX7_full_57 (by decide) (fun c_70 => ?_) (fun c_70 => ?_)
          · skip
            have r_71 : (-1) ≤ u_60.toInt ∧ u_60.toInt ≤ 360 := by have h9_ := hu_60; omega
            refine lv_aload_n F.1 F.2.1 dX7_full_87 rfl (lv_at hl 0 rfl) ?_
            refine tVv (b := a0) (As := []) (rest := []) F hK hN hO (c_X7_takesBack E ws kp rd m_second ty ik un (0, 18) xt tp sp wrb nu nab iwb G_62 g_58 Z a0 ha0 hG_62 hg_58.1 hqg_58) mv_X7_takesBack wd_38_0 ⟨Nat.le_of_ble_eq_true rfl, Nat.le_of_ble_eq_true rfl⟩ ⟨Nat.le_of_ble_eq_true rfl, Nat.le_of_ble_eq_true rfl⟩ hH hS (tRecv hK hH (tyb ha0 (all1 rfl)) clX7) rfl hl.1 (Nat.le_of_ble_eq_true rfl) dX7_full_88 (fun H locs hq hS => ?_)
            obtain ⟨g_74, hg_74, hH⟩ := hq
            have hH : TH E (tbM (mD (.inl tp) (.inl sp) (.inl nu) (.inl un) (.inl (0, 18)) (.inl xt) (.inl wrb) (.inl nab) (.inl iwb)) (xD 660 g_74) ws kp (xD 660 g_58) rd m_second ty ik) H := hH
            have hqg_74 := hg_74.2
            have hBg_74 := okB hg_74.1.1
            have hLg_74 := hg_74.1.2
            refine lv_iload_n F.1 F.2.1 dX7_full_91 rfl (lv_at hl 2 rfl) ?_
            exact txI F hS dX7_full_92 rfl (⟨g_74, ⟨hg_74.1, hqg_74⟩, g_58, hg_58.1, (wkb r_71 rfl rfl), hH⟩)
          · skip
            have r_72 : (-2) ≤ u_60.toInt ∧ u_60.toInt ≤ (-2) := by have h9_ := hu_60; omega
            refine lv_aload_n F.1 F.2.1 dX7_full_60 rfl (lv_at hl 0 rfl) ?_
            refine lv_iload_n F.1 F.2.1 dX7_full_61 rfl (lv_at hl 1 rfl) ?_
            refine lv_iconst (v := 4) F.1 F.2.1 dX7_full_62 (by decide) ?_
            refine topK (a := 4) (by decide) (fun k_75 hk_75 => ?_)
            refine tVi (b := a0) (As := [.int a1, .int k_75]) (rest := []) F hK hN hO (c_X7_ofStore_4 E ws kp (xD 660 g_58) rd m_second ty ik un (0, 18) xt tp sp wrb nu nab iwb G_62 a0 a1 k_75 ha0 r_8 (eqb hk_75) ((hG_62).1)) mv_X7_ofStore wd_27_0 ⟨Nat.le_of_ble_eq_true rfl, Nat.le_of_ble_eq_true rfl⟩ ⟨Nat.le_of_ble_eq_true rfl, Nat.le_of_ble_eq_true rfl⟩ hH hS (tRecv hK hH (tyb ha0 (all1 rfl)) clX7) rfl hl.1 (Nat.le_of_ble_eq_true rfl) dX7_full_63 (fun z_76 H locs hq hS => ?_)
            obtain ⟨f_77, f_78, hH⟩ := hq
            have hH : TH E (tbM (mD (.inl tp) (.inl sp) (.inl nu) (.inl un) (.inl (0, 18)) (.inl xt) (.inl wrb) (.inl nab) (.inl iwb)) (xD 660 G_62) ws kp (xD 660 g_58) rd m_second ty ik) H := hH
            refine lv_iload F.1 F.2.1 dX7_full_66 (lv_at hl 3 rfl) ?_
            refine b_ne (tgt := 77) F dX7_full_68 (by decide) (fun c_79 => ?_) (fun c_79 => ?_)
            · skip
              refine lv_aload_n F.1 F.2.1 dX7_full_77 rfl (lv_at hl 0 rfl) ?_
              refine tVv (b := a0) (As := []) (rest := []) F hK hN hO (c_X7_passes E ws kp (xD 660 g_58) rd ty ik un xt tp sp wrb nu nab iwb G_62 Z a0 ha0 hG_62 hqG_62) mv_X7_passes wd_25_11 ⟨Nat.le_of_ble_eq_true rfl, Nat.le_of_ble_eq_true rfl⟩ ⟨Nat.le_of_ble_eq_true rfl, Nat.le_of_ble_eq_true rfl⟩ hH hS (tRecv hK hH (tyb ha0 (all1 rfl)) clX7) rfl hl.1 (Nat.le_of_ble_eq_true rfl) dX7_full_78 (fun H locs hq hS => ?_)
              obtain ⟨g_81, hg_81, hH⟩ := hq
              have hH : TH E (tbM (mD (.inl tp) (.inl sp) (.inl nu) (.inl un) (.inl (0, 18)) (.inl xt) (.inl wrb) (.inl nab) (.inl iwb)) (xD 660 g_81) ws kp (xD 660 g_58) rd m_second ty ik) H := hH
              have hqg_81 := hg_81.2
              have hBg_81 := okB hg_81.1.1
              have hLg_81 := hg_81.1.2
              obtain ⟨x_82, ex_82, hx_82⟩ := iincB (c := 1) (lo := 1) (hi := 361) r_66 rfl
              refine lv_iinc (v := x_82) (lv' := [(5, .int x_82), (0, .ref a0), (1, .int a1), (3, .int u_60), (4, .int z_54)]) F.1 F.2.1 dX7_full_81 hl (k := 4) rfl ex_82 (by decide) rfl (fun ls hl => ?_)
              refine lv_goto (tgt := 46) F.1 F.2.1 dX7_full_84 (by decide) ?_
              exact ih_46 (u_60, x_82, g_81) _ _ _ ⟨(show (361 - x_82.toInt + 1).toNat < n_46 from by omega), (wkb r_72 rfl rfl), (wkb hx_82.2 rfl rfl), hg_81.1, (show sQ Z g_81 from hqg_81), hH, hS, lv_sub hl [1, 2, 3, 4, 0] rfl⟩
            · skip
              refine lv_iload F.1 F.2.1 dX7_full_71 (lv_at hl 4 rfl) ?_
              refine lv_istore_n (lv' := [(3, .int u_61), (0, .ref a0), (1, .int a1), (4, .int z_54), (5, .int u_61)]) F.1 F.2.1 dX7_full_73 rfl hl (by decide) rfl (fun ls hl => ?_)
              refine lv_goto (tgt := 81) F.1 F.2.1 dX7_full_74 (by decide) ?_
              obtain ⟨x_83, ex_83, hx_83⟩ := iincB (c := 1) (lo := 1) (hi := 361) r_66 rfl
              refine lv_iinc (v := x_83) (lv' := [(5, .int x_83), (3, .int u_61), (0, .ref a0), (1, .int a1), (4, .int z_54)]) F.1 F.2.1 dX7_full_81 hl (k := 4) rfl ex_83 (by decide) rfl (fun ls hl => ?_)
              refine lv_goto (tgt := 46) F.1 F.2.1 dX7_full_84 (by decide) ?_
              exact ih_46 (u_61, x_83, G_62) _ _ _ ⟨(show (361 - x_83.toInt + 1).toNat < n_46 from by omega), (wkb r_66 rfl rfl), (wkb hx_83.2 rfl rfl), hG_62, (show sQ Z G_62 from hqG_62), hH, hS, lv_sub hl [2, 3, 1, 4, 0] rfl⟩
    · skip
      have r_19 : 0 ≤ z_13.toInt ∧ z_13.toInt ≤ 0 := by have h9_ := f_14; omega
      refine lv_iconst (v := (-1)) F.1 F.2.1 dX7_full_18 (by decide) ?_
      refine topK (a := (-1)) (by decide) (fun k_84 hk_84 => ?_)
      exact txI F hS dX7_full_19 rfl (⟨X0, ⟨hX0, hqX0⟩, A, hA, (wkb (eqb hk_84) rfl rfl), hH⟩)
set_option maxHeartbeats 4000000 in
set_option maxRecDepth 100000 in
theorem c_X7_swap (E : Ev) (ws : TD) (kp : TD) (rd : TD) (ty : TD) (ik : TD) (un : Int × Int) (xt : Int × Int) (tp : Int × Int) (sp : Int × Int) (wrb : Int × Int) (nu : Int × Int) (nab : Int × Int) (iwb : Int × Int) (X0 : Nat → Int32) (A : Nat → Int32) (Z : Nat → Int32) (a0 : Nat) (a1 : Int32) (a2 : Int32) (a3 : Int32) (a4 : Int32) (ha0 : eT E a0 ∈ [24]) (hX0 : okR X0) (hA : okR A) (hqX0 : sQ Z X0) : TcI E yX7_swap cX7_swap 6 .int ({ frames := 10, cells := 0, slots := 0, locals := 246 }) [.ref a0, .int a1, .int a2, .int a3, .int a4] (fun H => TH E (tbM (mD (.inl tp) (.inl sp) (.inl nu) (.inl un) (.inl (0, 18)) (.inl xt) (.inl wrb) (.inl nab) (.inl iwb)) (xD 660 X0) ws kp (xD 660 A) rd m_second ty ik) H) (fun v H => ∃ X2 : Nat → Int32, (okR X2 ∧ sQ Z X2) ∧ ∃ A2 : Nat → Int32, (okR A2) ∧ ((-2147483648) ≤ v.toInt ∧ v.toInt ≤ 2147483647) ∧ TH E (tbM (mD (.inl tp) (.inl sp) (.inl nu) (.inl un) (.inl (0, 18)) (.inl xt) (.inl wrb) (.inl nab) (.inl iwb)) (xD 660 X2) ws kp (xD 660 A2) rd m_second ty ik) H) := by
  refine teI (by decide) (Nat.le_of_ble_eq_true rfl) ?_
  intro p_ ev_ s mi_ below_ meth cd_ ls F hK hN hO hH hS hl
  have hH : TH E (tbM (mD (.inl tp) (.inl sp) (.inl nu) (.inl un) (.inl (0, 18)) (.inl xt) (.inl wrb) (.inl nab) (.inl iwb)) (xD 660 X0) ws kp (xD 660 A) rd m_second ty ik) s.heap := hH
  have hl : lv_has ls 6 [(0, .ref a0), (1, .int a1), (2, .int a2), (3, .int a3), (4, .int a4)] := hl
  have hBX0 := okB hX0.1
  have hLX0 := hX0.2
  have hBA := okB hA.1
  have hLA := hA.2
  refine lv_aload_n F.1 F.2.1 dX7_swap_0 rfl (lv_at hl 0 rfl) ?_
  refine lv_iload_n F.1 F.2.1 dX7_swap_1 rfl (lv_at hl 1 rfl) ?_
  refine tVi (b := a0) (As := [.int a1]) (rest := []) F hK hN hO (c_X7_isRight E ws kp (xD 660 A) rd m_second ty ik un (0, 18) xt tp sp wrb nu nab iwb X0 a0 a1 ha0 ((hX0).1)) mv_X7_isRight wd_31_18 ⟨Nat.le_of_ble_eq_true rfl, Nat.le_of_ble_eq_true rfl⟩ ⟨Nat.le_of_ble_eq_true rfl, Nat.le_of_ble_eq_true rfl⟩ hH hS (tRecv hK hH (tyb ha0 (all1 rfl)) clX7) rfl hl.1 (Nat.le_of_ble_eq_true rfl) dX7_swap_2 (fun z_1 H locs hq hS => ?_)
  obtain ⟨f_2, f_3, f_4, hH⟩ := hq
  have hH : TH E (tbM (mD (.inl tp) (.inl sp) (.inl nu) (.inl un) (.inl (0, 18)) (.inl xt) (.inl wrb) (.inl nab) (.inl iwb)) (xD 660 X0) ws kp (xD 660 A) rd m_second ty ik) H := hH
  refine z_eq (tgt := 44) F dX7_swap_5 (by decide) (fun c_5 => ?_) (fun c_5 => ?_)
  · skip
    have r_6 : 0 ≤ z_1.toInt ∧ z_1.toInt ≤ 0 := by have h9_ := f_2; omega
    refine lv_ldcw (own := RX7) (v := (-2147483648)) F.1 F.2.1 F.2.2.2.2.1 (F.2.2.2.2.2.2.1 _ wd_48_8) dX7_swap_44 ?_
    refine topK (a := (-2147483648)) (by decide) (fun k_9 hk_9 => ?_)
    exact txI F hS dX7_swap_47 rfl (⟨X0, ⟨hX0, hqX0⟩, A, hA, (wkb (eqb hk_9) rfl rfl), hH⟩)
  · skip
    have r_7 : 1 ≤ z_1.toInt ∧ z_1.toInt ≤ 1 := by have h9_ := f_2; omega
    have r_8 : 0 ≤ a1.toInt ∧ a1.toInt ≤ 13 := by have h9_ := (i32b a1); omega
    refine lv_aload_n F.1 F.2.1 dX7_swap_8 rfl (lv_at hl 0 rfl) ?_
    refine lv_iload_n F.1 F.2.1 dX7_swap_9 rfl (lv_at hl 2 rfl) ?_
    refine tVi (b := a0) (As := [.int a2]) (rest := []) F hK hN hO (c_X7_isRight E ws kp (xD 660 A) rd m_second ty ik un (0, 18) xt tp sp wrb nu nab iwb X0 a0 a2 ha0 ((hX0).1)) mv_X7_isRight wd_31_18 ⟨Nat.le_of_ble_eq_true rfl, Nat.le_of_ble_eq_true rfl⟩ ⟨Nat.le_of_ble_eq_true rfl, Nat.le_of_ble_eq_true rfl⟩ hH hS (tRecv hK hH (tyb ha0 (all1 rfl)) clX7) rfl hl.1 (Nat.le_of_ble_eq_true rfl) dX7_swap_10 (fun z_10 H locs hq hS => ?_)
    obtain ⟨f_11, f_12, f_13, hH⟩ := hq
    have hH : TH E (tbM (mD (.inl tp) (.inl sp) (.inl nu) (.inl un) (.inl (0, 18)) (.inl xt) (.inl wrb) (.inl nab) (.inl iwb)) (xD 660 X0) ws kp (xD 660 A) rd m_second ty ik) H := hH
    refine z_eq (tgt := 44) F dX7_swap_13 (by decide) (fun c_14 => ?_) (fun c_14 => ?_)
    · skip
      have r_15 : 0 ≤ z_10.toInt ∧ z_10.toInt ≤ 0 := by have h9_ := f_11; omega
      refine lv_ldcw (own := RX7) (v := (-2147483648)) F.1 F.2.1 F.2.2.2.2.1 (F.2.2.2.2.2.2.1 _ wd_48_8) dX7_swap_44 ?_
      refine topK (a := (-2147483648)) (by decide) (fun k_18 hk_18 => ?_)
      exact txI F hS dX7_swap_47 rfl (⟨X0, ⟨hX0, hqX0⟩, A, hA, (wkb (eqb hk_18) rfl rfl), hH⟩)
    · skip
      have r_16 : 1 ≤ z_10.toInt ∧ z_10.toInt ≤ 1 := by have h9_ := f_11; omega
      have r_17 : 0 ≤ a2.toInt ∧ a2.toInt ≤ 13 := by have h9_ := (i32b a2); omega
      refine lv_iload_n F.1 F.2.1 dX7_swap_16 rfl (lv_at hl 1 rfl) ?_
      refine lv_iload_n F.1 F.2.1 dX7_swap_17 rfl (lv_at hl 2 rfl) ?_
      refine b_eq (tgt := 44) F dX7_swap_18 (by decide) (fun c_19 => ?_) (fun c_19 => ?_)
      · skip
        refine lv_ldcw (own := RX7) (v := (-2147483648)) F.1 F.2.1 F.2.2.2.2.1 (F.2.2.2.2.2.2.1 _ wd_48_8) dX7_swap_44 ?_
        refine topK (a := (-2147483648)) (by decide) (fun k_20 hk_20 => ?_)
        exact txI F hS dX7_swap_47 rfl (⟨X0, ⟨hX0, hqX0⟩, A, hA, (wkb (eqb hk_20) rfl rfl), hH⟩)
      · skip
        refine lv_iload_n F.1 F.2.1 dX7_swap_21 rfl (lv_at hl 3 rfl) ?_
        refine tI2l F dX7_swap_22 (fun w_21 hw_21 => ?_)
        refine lv_lconst (v := 1) F.1 F.2.1 dX7_swap_23 (by decide) ?_
        refine topKL (a := 1) (by decide) (fun j_22 hj_22 => ?_)
        refine lv_ldc2 (own := RX7) (v := 360) F.1 F.2.1 F.2.2.2.2.1 (F.2.2.2.2.2.2.1 _ wd_47_21) dX7_swap_24 ?_
        refine topKL (a := 360) (by decide) (fun j_23 hj_23 => ?_)
        refine tSi (As := [.long w_21, .long j_22, .long j_23]) (rest := []) F hK hN hO (c_X7_in E (mD (.inl tp) (.inl sp) (.inl nu) (.inl un) (.inl (0, 18)) (.inl xt) (.inl wrb) (.inl nab) (.inl iwb)) (xD 660 X0) ws kp (xD 660 A) rd m_second ty ik w_21 j_22 j_23) ms_X7_in wd_8_10 ⟨Nat.le_of_ble_eq_true rfl, Nat.le_of_ble_eq_true rfl⟩ ⟨Nat.le_of_ble_eq_true rfl, Nat.le_of_ble_eq_true rfl⟩ hH hS rfl hl.1 (Nat.le_of_ble_eq_true rfl) dX7_swap_27 (fun z_24 H locs hq hS => ?_)
        obtain ⟨f_25, f_26, hH⟩ := hq
        have hH : TH E (tbM (mD (.inl tp) (.inl sp) (.inl nu) (.inl un) (.inl (0, 18)) (.inl xt) (.inl wrb) (.inl nab) (.inl iwb)) (xD 660 X0) ws kp (xD 660 A) rd m_second ty ik) H := hH
        refine z_eq (tgt := 44) F dX7_swap_30 (by decide) (fun c_27 => ?_) (fun c_27 => ?_)
        · skip
          have r_28 : 0 ≤ z_24.toInt ∧ z_24.toInt ≤ 0 := by have h9_ := f_25; omega
          refine lv_ldcw (own := RX7) (v := (-2147483648)) F.1 F.2.1 F.2.2.2.2.1 (F.2.2.2.2.2.2.1 _ wd_48_8) dX7_swap_44 ?_
          refine topK (a := (-2147483648)) (by decide) (fun k_31 hk_31 => ?_)
          exact txI F hS dX7_swap_47 rfl (⟨X0, ⟨hX0, hqX0⟩, A, hA, (wkb (eqb hk_31) rfl rfl), hH⟩)
        · skip
          have r_29 : 1 ≤ z_24.toInt ∧ z_24.toInt ≤ 1 := by have h9_ := f_25; omega
          have r_30 : 1 ≤ a3.toInt ∧ a3.toInt ≤ 360 := by have h9_ := (i32b a3); omega
          refine lv_iload F.1 F.2.1 dX7_swap_33 (lv_at hl 4 rfl) ?_
          refine tI2l F dX7_swap_35 (fun w_32 hw_32 => ?_)
          refine lv_lconst (v := 0) F.1 F.2.1 dX7_swap_36 (by decide) ?_
          refine topKL (a := 0) (by decide) (fun j_33 hj_33 => ?_)
          refine lv_lconst (v := 1) F.1 F.2.1 dX7_swap_37 (by decide) ?_
          refine topKL (a := 1) (by decide) (fun j_34 hj_34 => ?_)
          refine tSi (As := [.long w_32, .long j_33, .long j_34]) (rest := []) F hK hN hO (c_X7_in E (mD (.inl tp) (.inl sp) (.inl nu) (.inl un) (.inl (0, 18)) (.inl xt) (.inl wrb) (.inl nab) (.inl iwb)) (xD 660 X0) ws kp (xD 660 A) rd m_second ty ik w_32 j_33 j_34) ms_X7_in wd_8_10 ⟨Nat.le_of_ble_eq_true rfl, Nat.le_of_ble_eq_true rfl⟩ ⟨Nat.le_of_ble_eq_true rfl, Nat.le_of_ble_eq_true rfl⟩ hH hS rfl hl.1 (Nat.le_of_ble_eq_true rfl) dX7_swap_38 (fun z_35 H locs hq hS => ?_)
          obtain ⟨f_36, f_37, hH⟩ := hq
          have hH : TH E (tbM (mD (.inl tp) (.inl sp) (.inl nu) (.inl un) (.inl (0, 18)) (.inl xt) (.inl wrb) (.inl nab) (.inl iwb)) (xD 660 X0) ws kp (xD 660 A) rd m_second ty ik) H := hH
          refine z_ne (tgt := 48) F dX7_swap_41 (by decide) (fun c_38 => ?_) (fun c_38 => ?_)
          · skip
            have r_39 : 1 ≤ z_35.toInt ∧ z_35.toInt ≤ 1 := by have h9_ := f_36; omega
            have r_40 : 0 ≤ a4.toInt ∧ a4.toInt ≤ 1 := by have h9_ := (i32b a4); omega
            refine lv_iload F.1 F.2.1 dX7_swap_48 (lv_at hl 4 rfl) ?_
            refine wjoin (σ := Int32) (pcj := 58) (stj := fun x9 => [.int x9]) (fun x9 H locs ls => (0 ≤ x9.toInt ∧ x9.toInt ≤ 13) ∧ TH E (tbM (mD (.inl tp) (.inl sp) (.inl nu) (.inl un) (.inl (0, 18)) (.inl xt) (.inl wrb) (.inl nab) (.inl iwb)) (xD 660 X0) ws kp (xD 660 A) rd m_second ty ik) H ∧ va_S (eA E s.heap.size) s.heap H locs ∧ lv_has ls 6 [(0, .ref a0), (1, .int a1), (2, .int a2), (3, .int a3)]) (fun u_42 H locs ls h_ => ?_) (fun J_58 => ?_)
            · skip
              obtain ⟨hu_42, hH, hS, hl⟩ := h_
              have hu_42 : (0 ≤ u_42.toInt ∧ u_42.toInt ≤ 13) := hu_42
              have hH : TH E (tbM (mD (.inl tp) (.inl sp) (.inl nu) (.inl un) (.inl (0, 18)) (.inl xt) (.inl wrb) (.inl nab) (.inl iwb)) (xD 660 X0) ws kp (xD 660 A) rd m_second ty ik) H := hH
              have hl : lv_has ls 6 [(0, .ref a0), (1, .int a1), (2, .int a2), (3, .int a3)] := hl
              show W _ _ _ _ _ _ _ _ _ _ _ _ _ _ _ (F0 _ _ _ [.int u_42])
              refine lv_istore (lv' := [(5, .int u_42), (0, .ref a0), (1, .int a1), (2, .int a2), (3, .int a3)]) F.1 F.2.1 dX7_swap_58 hl (by decide) rfl (fun ls hl => ?_)
              refine lv_aload_n F.1 F.2.1 dX7_swap_60 rfl (lv_at hl 1 rfl) ?_
              refine tVv (b := a0) (As := []) (rest := []) F hK hN hO (c_X7_putsAside E ws kp rd m_second ty ik un (0, 18) xt tp sp wrb nu nab iwb X0 A Z a0 ha0 hX0 hqX0) mv_X7_putsAside wd_37_16 ⟨Nat.le_of_ble_eq_true rfl, Nat.le_of_ble_eq_true rfl⟩ ⟨Nat.le_of_ble_eq_true rfl, Nat.le_of_ble_eq_true rfl⟩ hH hS (tRecv hK hH (tyb ha0 (all1 rfl)) clX7) rfl hl.1 (Nat.le_of_ble_eq_true rfl) dX7_swap_61 (fun H locs hq hS => ?_)
              obtain ⟨g_44, hg_44, hH⟩ := hq
              have hH : TH E (tbM (mD (.inl tp) (.inl sp) (.inl nu) (.inl un) (.inl (0, 18)) (.inl xt) (.inl wrb) (.inl nab) (.inl iwb)) (xD 660 X0) ws kp (xD 660 g_44) rd m_second ty ik) H := hH
              have hqg_44 := hg_44.2
              have hBg_44 := okB hg_44.1.1
              have hLg_44 := hg_44.1.2
              refine lv_aload_n F.1 F.2.1 dX7_swap_64 rfl (lv_at hl 1 rfl) ?_
              refine lv_iload_n F.1 F.2.1 dX7_swap_65 rfl (lv_at hl 4 rfl) ?_
              refine lv_aload_n F.1 F.2.1 dX7_swap_66 rfl (lv_at hl 1 rfl) ?_
              refine tGetR (j := 27) F hK hH (tyb ha0 (all1 rfl)) rfl (all1 rfl) clX7 (by decide) wd_7_2 dX7_swap_67 (fun q_45 hq_45 _ => ?_)
              refine tVv (b := a0) (As := [.int a3, .ref q_45]) (rest := []) F hK hN hO (c_X7_ahead_n E ws kp rd ty ik un xt tp sp wrb nu nab iwb X0 g_44 Z a0 a3 q_45 ha0 r_30 hq_45 hX0 hg_44.1 hqg_44 hqX0) mv_X7_ahead wd_37_20 ⟨Nat.le_of_ble_eq_true rfl, Nat.le_of_ble_eq_true rfl⟩ ⟨Nat.le_of_ble_eq_true rfl, Nat.le_of_ble_eq_true rfl⟩ hH hS (tRecv hK hH (tyb ha0 (all1 rfl)) clX7) rfl hl.1 (Nat.le_of_ble_eq_true rfl) dX7_swap_70 (fun H locs hq hS => ?_)
              obtain ⟨g_47, hg_47, hH⟩ := hq
              have hH : TH E (tbM (mD (.inl tp) (.inl sp) (.inl nu) (.inl un) (.inl (0, 18)) (.inl xt) (.inl wrb) (.inl nab) (.inl iwb)) (xD 660 g_47) ws kp (xD 660 g_44) rd m_second ty ik) H := hH
              have hqg_47 := hg_47.2
              have hBg_47 := okB hg_47.1.1
              have hLg_47 := hg_47.1.2
              refine lv_aload_n F.1 F.2.1 dX7_swap_73 rfl (lv_at hl 1 rfl) ?_
              refine lv_iload_n F.1 F.2.1 dX7_swap_74 rfl (lv_at hl 2 rfl) ?_
              refine lv_iload_n F.1 F.2.1 dX7_swap_75 rfl (lv_at hl 3 rfl) ?_
              refine tVv (b := a0) (As := [.int a1, .int a2]) (rest := []) F hK hN hO (c_X7_swaps E ws kp (xD 660 g_44) rd m_second ty ik un (0, 18) xt tp sp wrb nu nab iwb g_47 Z a0 a1 a2 ha0 r_8 r_17 hg_47.1 hqg_47) mv_X7_swaps wd_58_9 ⟨Nat.le_of_ble_eq_true rfl, Nat.le_of_ble_eq_true rfl⟩ ⟨Nat.le_of_ble_eq_true rfl, Nat.le_of_ble_eq_true rfl⟩ hH hS (tRecv hK hH (tyb ha0 (all1 rfl)) clX7) rfl hl.1 (Nat.le_of_ble_eq_true rfl) dX7_swap_76 (fun H locs hq hS => ?_)
              obtain ⟨g_49, hg_49, hH⟩ := hq
              have hH : TH E (tbM (mD (.inl tp) (.inl sp) (.inl nu) (.inl un) (.inl (0, 18)) (.inl xt) (.inl wrb) (.inl nab) (.inl iwb)) (xD 660 g_49) ws kp (xD 660 g_44) rd m_second ty ik) H := hH
              have hqg_49 := hg_49.2
              have hBg_49 := okB hg_49.1.1
              have hLg_49 := hg_49.1.2
              refine lv_aload_n F.1 F.2.1 dX7_swap_79 rfl (lv_at hl 1 rfl) ?_
              refine lv_iload_n F.1 F.2.1 dX7_swap_80 rfl (lv_at hl 4 rfl) ?_
              refine lv_aload_n F.1 F.2.1 dX7_swap_81 rfl (lv_at hl 1 rfl) ?_
              refine tGetR (j := 28) F hK hH (tyb ha0 (all1 rfl)) rfl (all1 rfl) clX7 (by decide) wd_7_3 dX7_swap_82 (fun q_50 hq_50 _ => ?_)
              refine tVv (b := a0) (As := [.int a3, .ref q_50]) (rest := []) F hK hN hO (c_X7_ahead_t E ws kp rd ty ik un xt tp sp wrb nu nab iwb g_49 g_44 Z a0 a3 q_50 ha0 r_30 hq_50 hg_49.1 hg_44.1 hqg_44 hqg_49) mv_X7_ahead wd_37_20 ⟨Nat.le_of_ble_eq_true rfl, Nat.le_of_ble_eq_true rfl⟩ ⟨Nat.le_of_ble_eq_true rfl, Nat.le_of_ble_eq_true rfl⟩ hH hS (tRecv hK hH (tyb ha0 (all1 rfl)) clX7) rfl hl.1 (Nat.le_of_ble_eq_true rfl) dX7_swap_85 (fun H locs hq hS => ?_)
              obtain ⟨g_52, hg_52, hH⟩ := hq
              have hH : TH E (tbM (mD (.inl tp) (.inl sp) (.inl nu) (.inl un) (.inl (0, 18)) (.inl xt) (.inl wrb) (.inl nab) (.inl iwb)) (xD 660 g_52) ws kp (xD 660 g_44) rd m_second ty ik) H := hH
              have hqg_52 := hg_52.2
              have hBg_52 := okB hg_52.1.1
              have hLg_52 := hg_52.1.2
              refine lv_aload_n F.1 F.2.1 dX7_swap_88 rfl (lv_at hl 1 rfl) ?_
              refine tGetR (j := 28) F hK hH (tyb ha0 (all1 rfl)) rfl (all1 rfl) clX7 (by decide) wd_7_3 dX7_swap_89 (fun q_53 hq_53 _ => ?_)
              refine lv_iload F.1 F.2.1 dX7_swap_92 (lv_at hl 0 rfl) ?_
              refine tIaldB F hK hH (tyb hq_53 (all1 rfl)) (ixb (n := 14) hu_42 rfl rfl) dX7_swap_94 (fun z_54 hz_54 => ?_)
              refine lv_aload_n F.1 F.2.1 dX7_swap_95 rfl (lv_at hl 1 rfl) ?_
              refine tGetR (j := 27) F hK hH (tyb ha0 (all1 rfl)) rfl (all1 rfl) clX7 (by decide) wd_7_2 dX7_swap_96 (fun q_55 hq_55 _ => ?_)
              refine lv_iload F.1 F.2.1 dX7_swap_99 (lv_at hl 0 rfl) ?_
              refine tIaldB F hK hH (tyb hq_55 (all1 rfl)) (ixb (n := 14) hu_42 rfl rfl) dX7_swap_101 (fun z_56 hz_56 => ?_)
              refine lv_isub F.1 F.2.1 dX7_swap_102 ?_
              refine topF (fun z_57 => ?_)
              exact txI F hS dX7_swap_103 rfl (⟨g_52, ⟨hg_52.1, hqg_52⟩, g_44, hg_44.1, (i32b _), hH⟩)
            refine z_ne (tgt := 57) F dX7_swap_50 (by decide) (fun c_58 => ?_) (fun c_58 => ?_)
            · skip
              have r_59 : 1 ≤ a4.toInt ∧ a4.toInt ≤ 1 := by have h9_ := r_40; omega
              refine lv_iload_n F.1 F.2.1 dX7_swap_57 rfl (lv_at hl 2 rfl) ?_
              exact J_58 (a2) _ _ _ ⟨r_17, hH, hS, lv_sub hl [0, 1, 2, 3] rfl⟩
            · skip
              have r_60 : 0 ≤ a4.toInt ∧ a4.toInt ≤ 0 := by have h9_ := r_40; omega
              refine lv_iload_n F.1 F.2.1 dX7_swap_53 rfl (lv_at hl 1 rfl) ?_
              refine lv_goto (tgt := 58) F.1 F.2.1 dX7_swap_54 (by decide) ?_
              exact J_58 (a1) _ _ _ ⟨r_8, hH, hS, lv_sub hl [0, 1, 2, 3] rfl⟩
          · skip
            have r_41 : 0 ≤ z_35.toInt ∧ z_35.toInt ≤ 0 := by have h9_ := f_36; omega
            refine lv_ldcw (own := RX7) (v := (-2147483648)) F.1 F.2.1 F.2.2.2.2.1 (F.2.2.2.2.2.2.1 _ wd_48_8) dX7_swap_44 ?_
            refine topK (a := (-2147483648)) (by decide) (fun k_61 hk_61 => ?_)
            exact txI F hS dX7_swap_47 rfl (⟨X0, ⟨hX0, hqX0⟩, A, hA, (wkb (eqb hk_61) rfl rfl), hH⟩)
set_option maxHeartbeats 4000000 in
set_option maxRecDepth 100000 in
theorem c_X7_spell_ (E : Ev) (ws : TD) (kp : TD) (rd : TD) (ty : TD) (ik : TD) (un : Int × Int) (xt : Int × Int) (tp : Int × Int) (sp : Int × Int) (wrb : Int × Int) (nu : Int × Int) (nab : Int × Int) (iwb : Int × Int) (X0 : Nat → Int32) (A : Nat → Int32) (Z : Nat → Int32) (a0 : Nat) (a1 : Int32) (a2 : Int32) (a3 : Int32) (ha0 : eT E a0 ∈ [24]) (hX0 : okR X0) (hA : okR A) (hqX0 : sQ Z X0) : TcI E yX7_spell_ cX7_spell_ 8 .int ({ frames := 9, cells := 0, slots := 0, locals := 222 }) [.ref a0, .int a1, .int a2, .int a3] (fun H => TH E (tbM (mD (.inl tp) (.inl sp) (.inl nu) (.inl un) (.inl (0, 18)) (.inl xt) (.inl wrb) (.inl nab) (.inl iwb)) (xD 660 X0) ws kp (xD 660 A) rd m_second ty ik) H) (fun v H => ∃ X2 : Nat → Int32, (okR X2 ∧ sQ Z X2) ∧ ∃ A2 : Nat → Int32, (okR A2) ∧ ((-2147483648) ≤ v.toInt ∧ v.toInt ≤ 2147483647) ∧ TH E (tbM (mD (.inl tp) (.inl sp) (.inl nu) (.inl un) (.inl (0, 18)) (.inl xt) (.inl wrb) (.inl nab) (.inl iwb)) (xD 660 X2) ws kp (xD 660 A2) rd m_second ty ik) H) := by
  refine teI (by decide) (Nat.le_of_ble_eq_true rfl) ?_
  intro p_ ev_ s mi_ below_ meth cd_ ls F hK hN hO hH hS hl
  have hH : TH E (tbM (mD (.inl tp) (.inl sp) (.inl nu) (.inl un) (.inl (0, 18)) (.inl xt) (.inl wrb) (.inl nab) (.inl iwb)) (xD 660 X0) ws kp (xD 660 A) rd m_second ty ik) s.heap := hH
  have hl : lv_has ls 8 [(0, .ref a0), (1, .int a1), (2, .int a2), (3, .int a3)] := hl
  have hBX0 := okB hX0.1
  have hLX0 := hX0.2
  have hBA := okB hA.1
  have hLA := hA.2
  refine lv_aload_n F.1 F.2.1 dX7_spell__0 rfl (lv_at hl 0 rfl) ?_
  refine lv_iload_n F.1 F.2.1 dX7_spell__1 rfl (lv_at hl 1 rfl) ?_
  refine tVi (b := a0) (As := [.int a1]) (rest := []) F hK hN hO (c_X7_isRight E ws kp (xD 660 A) rd m_second ty ik un (0, 18) xt tp sp wrb nu nab iwb X0 a0 a1 ha0 ((hX0).1)) mv_X7_isRight wd_31_18 ⟨Nat.le_of_ble_eq_true rfl, Nat.le_of_ble_eq_true rfl⟩ ⟨Nat.le_of_ble_eq_true rfl, Nat.le_of_ble_eq_true rfl⟩ hH hS (tRecv hK hH (tyb ha0 (all1 rfl)) clX7) rfl hl.1 (Nat.le_of_ble_eq_true rfl) dX7_spell__2 (fun z_1 H locs hq hS => ?_)
  obtain ⟨f_2, f_3, f_4, hH⟩ := hq
  have hH : TH E (tbM (mD (.inl tp) (.inl sp) (.inl nu) (.inl un) (.inl (0, 18)) (.inl xt) (.inl wrb) (.inl nab) (.inl iwb)) (xD 660 X0) ws kp (xD 660 A) rd m_second ty ik) H := hH
  refine z_eq (tgt := 30) F dX7_spell__5 (by decide) (fun c_5 => ?_) (fun c_5 => ?_)
  · skip
    have r_6 : 0 ≤ z_1.toInt ∧ z_1.toInt ≤ 0 := by have h9_ := f_2; omega
    refine lv_iconst (v := (-1)) F.1 F.2.1 dX7_spell__30 (by decide) ?_
    refine topK (a := (-1)) (by decide) (fun k_9 hk_9 => ?_)
    exact txI F hS dX7_spell__31 rfl (⟨X0, ⟨hX0, hqX0⟩, A, hA, (wkb (eqb hk_9) rfl rfl), hH⟩)
  · skip
    have r_7 : 1 ≤ z_1.toInt ∧ z_1.toInt ≤ 1 := by have h9_ := f_2; omega
    have r_8 : 0 ≤ a1.toInt ∧ a1.toInt ≤ 13 := by have h9_ := (i32b a1); omega
    refine lv_iload_n F.1 F.2.1 dX7_spell__8 rfl (lv_at hl 2 rfl) ?_
    refine tI2l F dX7_spell__9 (fun w_10 hw_10 => ?_)
    refine lv_lconst (v := 1) F.1 F.2.1 dX7_spell__10 (by decide) ?_
    refine topKL (a := 1) (by decide) (fun j_11 hj_11 => ?_)
    refine lv_ldc2 (own := RX7) (v := 360) F.1 F.2.1 F.2.2.2.2.1 (F.2.2.2.2.2.2.1 _ wd_47_21) dX7_spell__11 ?_
    refine topKL (a := 360) (by decide) (fun j_12 hj_12 => ?_)
    refine tSi (As := [.long w_10, .long j_11, .long j_12]) (rest := []) F hK hN hO (c_X7_in E (mD (.inl tp) (.inl sp) (.inl nu) (.inl un) (.inl (0, 18)) (.inl xt) (.inl wrb) (.inl nab) (.inl iwb)) (xD 660 X0) ws kp (xD 660 A) rd m_second ty ik w_10 j_11 j_12) ms_X7_in wd_8_10 ⟨Nat.le_of_ble_eq_true rfl, Nat.le_of_ble_eq_true rfl⟩ ⟨Nat.le_of_ble_eq_true rfl, Nat.le_of_ble_eq_true rfl⟩ hH hS rfl hl.1 (Nat.le_of_ble_eq_true rfl) dX7_spell__14 (fun z_13 H locs hq hS => ?_)
    obtain ⟨f_14, f_15, hH⟩ := hq
    have hH : TH E (tbM (mD (.inl tp) (.inl sp) (.inl nu) (.inl un) (.inl (0, 18)) (.inl xt) (.inl wrb) (.inl nab) (.inl iwb)) (xD 660 X0) ws kp (xD 660 A) rd m_second ty ik) H := hH
    refine z_eq (tgt := 30) F dX7_spell__17 (by decide) (fun c_16 => ?_) (fun c_16 => ?_)
    · skip
      have r_17 : 0 ≤ z_13.toInt ∧ z_13.toInt ≤ 0 := by have h9_ := f_14; omega
      refine lv_iconst (v := (-1)) F.1 F.2.1 dX7_spell__30 (by decide) ?_
      refine topK (a := (-1)) (by decide) (fun k_20 hk_20 => ?_)
      exact txI F hS dX7_spell__31 rfl (⟨X0, ⟨hX0, hqX0⟩, A, hA, (wkb (eqb hk_20) rfl rfl), hH⟩)
    · skip
      have r_18 : 1 ≤ z_13.toInt ∧ z_13.toInt ≤ 1 := by have h9_ := f_14; omega
      have r_19 : 1 ≤ a2.toInt ∧ a2.toInt ≤ 360 := by have h9_ := (i32b a2); omega
      refine lv_iload_n F.1 F.2.1 dX7_spell__20 rfl (lv_at hl 3 rfl) ?_
      refine tI2l F dX7_spell__21 (fun w_21 hw_21 => ?_)
      refine lv_lconst (v := 0) F.1 F.2.1 dX7_spell__22 (by decide) ?_
      refine topKL (a := 0) (by decide) (fun j_22 hj_22 => ?_)
      refine lv_lconst (v := 1) F.1 F.2.1 dX7_spell__23 (by decide) ?_
      refine topKL (a := 1) (by decide) (fun j_23 hj_23 => ?_)
      refine tSi (As := [.long w_21, .long j_22, .long j_23]) (rest := []) F hK hN hO (c_X7_in E (mD (.inl tp) (.inl sp) (.inl nu) (.inl un) (.inl (0, 18)) (.inl xt) (.inl wrb) (.inl nab) (.inl iwb)) (xD 660 X0) ws kp (xD 660 A) rd m_second ty ik w_21 j_22 j_23) ms_X7_in wd_8_10 ⟨Nat.le_of_ble_eq_true rfl, Nat.le_of_ble_eq_true rfl⟩ ⟨Nat.le_of_ble_eq_true rfl, Nat.le_of_ble_eq_true rfl⟩ hH hS rfl hl.1 (Nat.le_of_ble_eq_true rfl) dX7_spell__24 (fun z_24 H locs hq hS => ?_)
      obtain ⟨f_25, f_26, hH⟩ := hq
      have hH : TH E (tbM (mD (.inl tp) (.inl sp) (.inl nu) (.inl un) (.inl (0, 18)) (.inl xt) (.inl wrb) (.inl nab) (.inl iwb)) (xD 660 X0) ws kp (xD 660 A) rd m_second ty ik) H := hH
      refine z_ne (tgt := 32) F dX7_spell__27 (by decide) (fun c_27 => ?_) (fun c_27 => ?_)
      · skip
        have r_28 : 1 ≤ z_24.toInt ∧ z_24.toInt ≤ 1 := by have h9_ := f_25; omega
        have r_29 : 0 ≤ a3.toInt ∧ a3.toInt ≤ 1 := by have h9_ := (i32b a3); omega
        refine lv_bipush (v := (-2)) F.1 F.2.1 dX7_spell__32 (by decide) ?_
        refine topK (a := (-2)) (by decide) (fun k_31 hk_31 => ?_)
        refine lv_istore (lv' := [(4, .int k_31), (0, .ref a0), (1, .int a1), (2, .int a2), (3, .int a3)]) F.1 F.2.1 dX7_spell__34 hl (by decide) rfl (fun ls hl => ?_)
        refine lv_iconst (v := 0) F.1 F.2.1 dX7_spell__36 (by decide) ?_
        refine topK (a := 0) (by decide) (fun k_32 hk_32 => ?_)
        refine lv_istore (lv' := [(5, .int k_32), (4, .int k_31), (0, .ref a0), (1, .int a1), (2, .int a2), (3, .int a3)]) F.1 F.2.1 dX7_spell__37 hl (by decide) rfl (fun ls hl => ?_)
        refine lv_iconst (v := 0) F.1 F.2.1 dX7_spell__39 (by decide) ?_
        refine topK (a := 0) (by decide) (fun k_33 hk_33 => ?_)
        refine lv_istore (lv' := [(6, .int k_33), (5, .int k_32), (4, .int k_31), (0, .ref a0), (1, .int a1), (2, .int a2), (3, .int a3)]) F.1 F.2.1 dX7_spell__40 hl (by decide) rfl (fun ls hl => ?_)
        refine lv_aload_n F.1 F.2.1 dX7_spell__42 rfl (lv_at hl 3 rfl) ?_
        refine tVv (b := a0) (As := []) (rest := []) F hK hN hO (c_X7_putsAside E ws kp rd m_second ty ik un (0, 18) xt tp sp wrb nu nab iwb X0 A Z a0 ha0 hX0 hqX0) mv_X7_putsAside wd_37_16 ⟨Nat.le_of_ble_eq_true rfl, Nat.le_of_ble_eq_true rfl⟩ ⟨Nat.le_of_ble_eq_true rfl, Nat.le_of_ble_eq_true rfl⟩ hH hS (tRecv hK hH (tyb ha0 (all1 rfl)) clX7) rfl hl.1 (Nat.le_of_ble_eq_true rfl) dX7_spell__43 (fun H locs hq hS => ?_)
        obtain ⟨g_35, hg_35, hH⟩ := hq
        have hH : TH E (tbM (mD (.inl tp) (.inl sp) (.inl nu) (.inl un) (.inl (0, 18)) (.inl xt) (.inl wrb) (.inl nab) (.inl iwb)) (xD 660 X0) ws kp (xD 660 g_35) rd m_second ty ik) H := hH
        have hqg_35 := hg_35.2
        have hBg_35 := okB hg_35.1.1
        have hLg_35 := hg_35.1.2
        refine lv_iconst (v := 0) F.1 F.2.1 dX7_spell__46 (by decide) ?_
        refine topK (a := 0) (by decide) (fun k_36 hk_36 => ?_)
        refine lv_istore (lv' := [(7, .int k_36), (6, .int k_33), (5, .int k_32), (4, .int k_31), (0, .ref a0), (1, .int a1), (2, .int a2), (3, .int a3)]) F.1 F.2.1 dX7_spell__47 hl (by decide) rfl (fun ls hl => ?_)
        refine wloop (σ := Int32 × Int32 × Int32 × Int32 × (Nat → Int32)) (fun n9 x9 H locs ls => (360 - x9.2.2.2.1.toInt + 1).toNat < n9 ∧ ((-2) ≤ x9.1.toInt ∧ x9.1.toInt ≤ 359) ∧ (0 ≤ x9.2.2.1.toInt ∧ x9.2.2.1.toInt ≤ 2147483647) ∧ (0 ≤ x9.2.2.2.1.toInt ∧ x9.2.2.2.1.toInt ≤ 360) ∧ (okR x9.2.2.2.2) ∧ (sQ Z x9.2.2.2.2) ∧ TH E (tbM (mD (.inl tp) (.inl sp) (.inl nu) (.inl un) (.inl (0, 18)) (.inl xt) (.inl wrb) (.inl nab) (.inl iwb)) (xD 660 x9.2.2.2.2) ws kp (xD 660 g_35) rd m_second ty ik) H ∧ va_S (eA E s.heap.size) s.heap H locs ∧ lv_has ls 8 [(0, .ref a0), (1, .int a1), (2, .int a2), (3, .int a3), (4, .int x9.1), (5, .int x9.2.1), (6, .int x9.2.2.1), (7, .int x9.2.2.2.1)]) ?_ (fun x9 H locs ls h => absurd h.1 (Nat.not_lt_zero _)) _ (k_31, k_32, k_33, k_36, X0) ⟨Nat.lt_succ_self _, (wkb (eqb hk_31) rfl rfl), (wkb (eqb hk_33) rfl rfl), (wkb (eqb hk_36) rfl rfl), hX0, (show sQ Z X0 from hqX0), hH, hS, lv_sub hl [4, 5, 6, 7, 3, 2, 1, 0] rfl⟩
        intro n_49 ih_49 ⟨u_37, u_38, u_39, u_40, G_41⟩ H locs ls ⟨hm_49, hu_37, hu_39, hu_40, hG_41, hcr49_0, hH, hS, hl⟩
        have hm_49 : (360 - u_40.toInt + 1).toNat < n_49 + 1 := hm_49
        have hu_37 : ((-2) ≤ u_37.toInt ∧ u_37.toInt ≤ 359) := hu_37
        have hu_39 : (0 ≤ u_39.toInt ∧ u_39.toInt ≤ 2147483647) := hu_39
        have hu_40 : (0 ≤ u_40.toInt ∧ u_40.toInt ≤ 360) := hu_40
        have hG_41 : (okR G_41) := hG_41
        have hcr49_0 : (sQ Z G_41) := hcr49_0
        have hH : TH E (tbM (mD (.inl tp) (.inl sp) (.inl nu) (.inl un) (.inl (0, 18)) (.inl xt) (.inl wrb) (.inl nab) (.inl iwb)) (xD 660 G_41) ws kp (xD 660 g_35) rd m_second ty ik) H := hH
        have hl : lv_has ls 8 [(0, .ref a0), (1, .int a1), (2, .int a2), (3, .int a3), (4, .int u_37), (5, .int u_38), (6, .int u_39), (7, .int u_40)] := hl
        have hBG_41 := okB hG_41.1
        have hLG_41 := hG_41.2
        have hqG_41 := hcr49_0
        refine lv_iload F.1 F.2.1 dX7_spell__49 (lv_at hl 7 rfl) ?_
        refine lv_iload_n F.1 F.2.1 dX7_spell__51 rfl (lv_at hl 2 rfl) ?_
        refine b_ge (tgt := 114) F dX7_spell__52 (by decide) (fun c_42 => ?_) (fun c_42 => ?_)
        · skip
          have r_43 : 1 ≤ u_40.toInt ∧ u_40.toInt ≤ 360 := by have h9_ := hu_40; omega
          refine lv_aload_n F.1 F.2.1 dX7_spell__114 rfl (lv_at hl 0 rfl) ?_
          refine tVv (b := a0) (As := []) (rest := []) F hK hN hO (c_X7_takesBack E ws kp rd m_second ty ik un (0, 18) xt tp sp wrb nu nab iwb G_41 g_35 Z a0 ha0 hG_41 hg_35.1 hqg_35) mv_X7_takesBack wd_38_0 ⟨Nat.le_of_ble_eq_true rfl, Nat.le_of_ble_eq_true rfl⟩ ⟨Nat.le_of_ble_eq_true rfl, Nat.le_of_ble_eq_true rfl⟩ hH hS (tRecv hK hH (tyb ha0 (all1 rfl)) clX7) rfl hl.1 (Nat.le_of_ble_eq_true rfl) dX7_spell__115 (fun H locs hq hS => ?_)
          obtain ⟨g_46, hg_46, hH⟩ := hq
          have hH : TH E (tbM (mD (.inl tp) (.inl sp) (.inl nu) (.inl un) (.inl (0, 18)) (.inl xt) (.inl wrb) (.inl nab) (.inl iwb)) (xD 660 g_46) ws kp (xD 660 g_35) rd m_second ty ik) H := hH
          have hqg_46 := hg_46.2
          have hBg_46 := okB hg_46.1.1
          have hLg_46 := hg_46.1.2
          refine lv_iload_n F.1 F.2.1 dX7_spell__118 rfl (lv_at hl 3 rfl) ?_
          refine z_ne (tgt := 127) F dX7_spell__119 (by decide) (fun c_47 => ?_) (fun c_47 => ?_)
          · skip
            have r_48 : 1 ≤ a3.toInt ∧ a3.toInt ≤ 1 := by have h9_ := r_29; omega
            refine lv_iload F.1 F.2.1 dX7_spell__127 (lv_at hl 6 rfl) ?_
            exact txI F hS dX7_spell__129 rfl (⟨g_46, ⟨hg_46.1, hqg_46⟩, g_35, hg_35.1, (wkb hu_39 rfl rfl), hH⟩)
          · skip
            have r_49 : 0 ≤ a3.toInt ∧ a3.toInt ≤ 0 := by have h9_ := r_29; omega
            refine lv_iload F.1 F.2.1 dX7_spell__122 (lv_at hl 4 rfl) ?_
            refine lv_goto (tgt := 129) F.1 F.2.1 dX7_spell__124 (by decide) ?_
            exact txI F hS dX7_spell__129 rfl (⟨g_46, ⟨hg_46.1, hqg_46⟩, g_35, hg_35.1, (wkb hu_37 rfl rfl), hH⟩)
        · skip
          have r_44 : 0 ≤ u_40.toInt ∧ u_40.toInt ≤ 359 := by have h9_ := hu_40; omega
          refine lv_aload_n F.1 F.2.1 dX7_spell__55 rfl (lv_at hl 0 rfl) ?_
          refine tVv (b := a0) (As := []) (rest := []) F hK hN hO (c_X7_works E ws kp (xD 660 g_35) rd ty ik un xt tp sp wrb nu nab iwb G_41 a0 ha0 hG_41) mv_X7_works wd_25_15 ⟨Nat.le_of_ble_eq_true rfl, Nat.le_of_ble_eq_true rfl⟩ ⟨Nat.le_of_ble_eq_true rfl, Nat.le_of_ble_eq_true rfl⟩ hH hS (tRecv hK hH (tyb ha0 (all1 rfl)) clX7) rfl hl.1 (Nat.le_of_ble_eq_true rfl) dX7_spell__56 (fun H locs hq hS => ?_)
          have hH := hq
          have hH : TH E (tbM (mD (.inl tp) (.inl sp) (.inl nu) (.inl un) (.inl (0, 18)) (.inl xt) (.inl wrb) (.inl nab) (.inl iwb)) (xD 660 G_41) ws kp (xD 660 g_35) rd m_second ty ik) H := hH
          refine lv_aload_n F.1 F.2.1 dX7_spell__59 rfl (lv_at hl 0 rfl) ?_
          refine lv_iload_n F.1 F.2.1 dX7_spell__60 rfl (lv_at hl 1 rfl) ?_
          refine tVi (b := a0) (As := [.int a1]) (rest := []) F hK hN hO (c_X7_isShort E ws kp (xD 660 g_35) rd ty ik un (0, 18) xt tp sp wrb nu nab iwb G_41 a0 a1 ha0 r_8 hG_41) mv_X7_isShort wd_30_2 ⟨Nat.le_of_ble_eq_true rfl, Nat.le_of_ble_eq_true rfl⟩ ⟨Nat.le_of_ble_eq_true rfl, Nat.le_of_ble_eq_true rfl⟩ hH hS (tRecv hK hH (tyb ha0 (all1 rfl)) clX7) rfl hl.1 (Nat.le_of_ble_eq_true rfl) dX7_spell__61 (fun z_51 H locs hq hS => ?_)
          obtain ⟨f_52, hH⟩ := hq
          have hH : TH E (tbM (mD (.inl tp) (.inl sp) (.inl nu) (.inl un) (.inl (0, 18)) (.inl xt) (.inl wrb) (.inl nab) (.inl iwb)) (xD 660 G_41) ws kp (xD 660 g_35) rd m_second ty ik) H := hH
          refine wjoin (σ := Int32) (pcj := 75) (stj := fun x9 => [.int x9]) (fun x9 H locs ls => TH E (tbM (mD (.inl tp) (.inl sp) (.inl nu) (.inl un) (.inl (0, 18)) (.inl xt) (.inl wrb) (.inl nab) (.inl iwb)) (xD 660 G_41) ws kp (xD 660 g_35) rd m_second ty ik) H ∧ va_S (eA E s.heap.size) s.heap H locs ∧ lv_has ls 8 [(0, .ref a0), (1, .int a1), (2, .int a2), (3, .int a3), (4, .int u_37), (6, .int u_39), (7, .int u_40)]) (fun u_53 H locs ls h_ => ?_) (fun J_75 => ?_)
          · skip
            obtain ⟨hH, hS, hl⟩ := h_
            have hH : TH E (tbM (mD (.inl tp) (.inl sp) (.inl nu) (.inl un) (.inl (0, 18)) (.inl xt) (.inl wrb) (.inl nab) (.inl iwb)) (xD 660 G_41) ws kp (xD 660 g_35) rd m_second ty ik) H := hH
            have hl : lv_has ls 8 [(0, .ref a0), (1, .int a1), (2, .int a2), (3, .int a3), (4, .int u_37), (6, .int u_39), (7, .int u_40)] := hl
            show W _ _ _ _ _ _ _ _ _ _ _ _ _ _ _ (F0 _ _ _ [.int u_53])
            refine lv_istore (lv' := [(5, .int u_53), (0, .ref a0), (1, .int a1), (2, .int a2), (3, .int a3), (4, .int u_37), (6, .int u_39), (7, .int u_40)]) F.1 F.2.1 dX7_spell__75 hl (by decide) rfl (fun ls hl => ?_)
            refine lv_iload F.1 F.2.1 dX7_spell__77 (lv_at hl 0 rfl) ?_
            refine wjoin (σ := Int32) (pcj := 93) (stj := fun x9 => []) (fun x9 H locs ls => ((-2) ≤ x9.toInt ∧ x9.toInt ≤ 359) ∧ TH E (tbM (mD (.inl tp) (.inl sp) (.inl nu) (.inl un) (.inl (0, 18)) (.inl xt) (.inl wrb) (.inl nab) (.inl iwb)) (xD 660 G_41) ws kp (xD 660 g_35) rd m_second ty ik) H ∧ va_S (eA E s.heap.size) s.heap H locs ∧ lv_has ls 8 [(0, .ref a0), (1, .int a1), (2, .int a2), (3, .int a3), (4, .int x9), (5, .int u_53), (6, .int u_39), (7, .int u_40)]) (fun u_54 H locs ls h_ => ?_) (fun J_93 => ?_)
            · skip
              obtain ⟨hu_54, hH, hS, hl⟩ := h_
              have hu_54 : ((-2) ≤ u_54.toInt ∧ u_54.toInt ≤ 359) := hu_54
              have hH : TH E (tbM (mD (.inl tp) (.inl sp) (.inl nu) (.inl un) (.inl (0, 18)) (.inl xt) (.inl wrb) (.inl nab) (.inl iwb)) (xD 660 G_41) ws kp (xD 660 g_35) rd m_second ty ik) H := hH
              have hl : lv_has ls 8 [(0, .ref a0), (1, .int a1), (2, .int a2), (3, .int a3), (4, .int u_54), (5, .int u_53), (6, .int u_39), (7, .int u_40)] := hl
              show W _ _ _ _ _ _ _ _ _ _ _ _ _ _ _ (F0 _ _ _ [])
              refine lv_iload F.1 F.2.1 dX7_spell__93 (lv_at hl 5 rfl) ?_
              refine lv_iload F.1 F.2.1 dX7_spell__95 (lv_at hl 6 rfl) ?_
              refine b_le (tgt := 104) F dX7_spell__97 (by decide) (fun c_55 => ?_) (fun c_55 => ?_)
              · skip
                refine lv_aload_n F.1 F.2.1 dX7_spell__104 rfl (lv_at hl 0 rfl) ?_
                refine tVv (b := a0) (As := []) (rest := []) F hK hN hO (c_X7_passes E ws kp (xD 660 g_35) rd ty ik un xt tp sp wrb nu nab iwb G_41 Z a0 ha0 hG_41 hqG_41) mv_X7_passes wd_25_11 ⟨Nat.le_of_ble_eq_true rfl, Nat.le_of_ble_eq_true rfl⟩ ⟨Nat.le_of_ble_eq_true rfl, Nat.le_of_ble_eq_true rfl⟩ hH hS (tRecv hK hH (tyb ha0 (all1 rfl)) clX7) rfl hl.1 (Nat.le_of_ble_eq_true rfl) dX7_spell__105 (fun H locs hq hS => ?_)
                obtain ⟨g_58, hg_58, hH⟩ := hq
                have hH : TH E (tbM (mD (.inl tp) (.inl sp) (.inl nu) (.inl un) (.inl (0, 18)) (.inl xt) (.inl wrb) (.inl nab) (.inl iwb)) (xD 660 g_58) ws kp (xD 660 g_35) rd m_second ty ik) H := hH
                have hqg_58 := hg_58.2
                have hBg_58 := okB hg_58.1.1
                have hLg_58 := hg_58.1.2
                obtain ⟨x_59, ex_59, hx_59⟩ := iincB (c := 1) (lo := 1) (hi := 360) r_44 rfl
                refine lv_iinc (v := x_59) (lv' := [(7, .int x_59), (0, .ref a0), (1, .int a1), (2, .int a2), (3, .int a3), (4, .int u_54), (5, .int u_53), (6, .int u_39)]) F.1 F.2.1 dX7_spell__108 hl (k := 7) rfl ex_59 (by decide) rfl (fun ls hl => ?_)
                refine lv_goto (tgt := 49) F.1 F.2.1 dX7_spell__111 (by decide) ?_
                exact ih_49 (u_54, u_53, u_39, x_59, g_58) _ _ _ ⟨(show (360 - x_59.toInt + 1).toNat < n_49 from by omega), hu_54, hu_39, (wkb hx_59.2 rfl rfl), hg_58.1, (show sQ Z g_58 from hqg_58), hH, hS, lv_sub hl [1, 2, 3, 4, 5, 6, 7, 0] rfl⟩
              · skip
                have r_56 : 1 ≤ u_53.toInt ∧ u_53.toInt ≤ 2147483647 := by have h9_ := (i32b u_53); omega
                refine lv_iload F.1 F.2.1 dX7_spell__100 (lv_at hl 5 rfl) ?_
                refine lv_istore (lv' := [(6, .int u_53), (0, .ref a0), (1, .int a1), (2, .int a2), (3, .int a3), (4, .int u_54), (5, .int u_53), (7, .int u_40)]) F.1 F.2.1 dX7_spell__102 hl (by decide) rfl (fun ls hl => ?_)
                refine lv_aload_n F.1 F.2.1 dX7_spell__104 rfl (lv_at hl 1 rfl) ?_
                refine tVv (b := a0) (As := []) (rest := []) F hK hN hO (c_X7_passes E ws kp (xD 660 g_35) rd ty ik un xt tp sp wrb nu nab iwb G_41 Z a0 ha0 hG_41 hqG_41) mv_X7_passes wd_25_11 ⟨Nat.le_of_ble_eq_true rfl, Nat.le_of_ble_eq_true rfl⟩ ⟨Nat.le_of_ble_eq_true rfl, Nat.le_of_ble_eq_true rfl⟩ hH hS (tRecv hK hH (tyb ha0 (all1 rfl)) clX7) rfl hl.1 (Nat.le_of_ble_eq_true rfl) dX7_spell__105 (fun H locs hq hS => ?_)
                obtain ⟨g_61, hg_61, hH⟩ := hq
                have hH : TH E (tbM (mD (.inl tp) (.inl sp) (.inl nu) (.inl un) (.inl (0, 18)) (.inl xt) (.inl wrb) (.inl nab) (.inl iwb)) (xD 660 g_61) ws kp (xD 660 g_35) rd m_second ty ik) H := hH
                have hqg_61 := hg_61.2
                have hBg_61 := okB hg_61.1.1
                have hLg_61 := hg_61.1.2
                obtain ⟨x_62, ex_62, hx_62⟩ := iincB (c := 1) (lo := 1) (hi := 360) r_44 rfl
                refine lv_iinc (v := x_62) (lv' := [(7, .int x_62), (6, .int u_53), (0, .ref a0), (1, .int a1), (2, .int a2), (3, .int a3), (4, .int u_54), (5, .int u_53)]) F.1 F.2.1 dX7_spell__108 hl (k := 7) rfl ex_62 (by decide) rfl (fun ls hl => ?_)
                refine lv_goto (tgt := 49) F.1 F.2.1 dX7_spell__111 (by decide) ?_
                exact ih_49 (u_54, u_53, u_53, x_62, g_61) _ _ _ ⟨(show (360 - x_62.toInt + 1).toNat < n_49 from by omega), hu_54, (wkb r_56 rfl rfl), (wkb hx_62.2 rfl rfl), hg_61.1, (show sQ Z g_61 from hqg_61), hH, hS, lv_sub hl [2, 3, 4, 5, 6, 7, 1, 0] rfl⟩
            refine z_le (tgt := 93) F dX7_spell__79 (by decide) (fun c_63 => ?_) (fun c_63 => ?_)
            · skip
              have r_64 : (-2147483648) ≤ u_53.toInt ∧ u_53.toInt ≤ 0 := by have h9_ := (i32b u_53); omega
              exact J_93 (u_37) _ _ _ ⟨hu_37, hH, hS, lv_sub hl [1, 2, 3, 4, 5, 0, 6, 7] rfl⟩
            · skip
              have r_65 : 1 ≤ u_53.toInt ∧ u_53.toInt ≤ 2147483647 := by have h9_ := (i32b u_53); omega
              refine lv_iload F.1 F.2.1 dX7_spell__82 (lv_at hl 5 rfl) ?_
              refine lv_bipush (v := (-2)) F.1 F.2.1 dX7_spell__84 (by decide) ?_
              refine topK (a := (-2)) (by decide) (fun k_66 hk_66 => ?_)
              refine b_ne (tgt := 93) F dX7_spell__86 (by decide) (fun c_67 => ?_) (fun c_67 => ?_)
              · skip
                have r_68 : (-1) ≤ u_37.toInt ∧ u_37.toInt ≤ 359 := by have h9_ := hu_37; omega
                exact J_93 (u_37) _ _ _ ⟨(wkb r_68 rfl rfl), hH, hS, lv_sub hl [1, 2, 3, 4, 5, 0, 6, 7] rfl⟩
              · skip
                have r_69 : (-2) ≤ u_37.toInt ∧ u_37.toInt ≤ (-2) := by have h9_ := hu_37; omega
                refine lv_iload F.1 F.2.1 dX7_spell__89 (lv_at hl 7 rfl) ?_
                refine lv_istore (lv' := [(4, .int u_40), (5, .int u_53), (0, .ref a0), (1, .int a1), (2, .int a2), (3, .int a3), (6, .int u_39), (7, .int u_40)]) F.1 F.2.1 dX7_spell__91 hl (by decide) rfl (fun ls hl => ?_)
                exact J_93 (u_40) _ _ _ ⟨(wkb r_44 rfl rfl), hH, hS, lv_sub hl [2, 3, 4, 5, 0, 1, 6, 7] rfl⟩
          refine z_eq (tgt := 74) F dX7_spell__64 (by decide) (fun c_70 => ?_) (fun c_70 => ?_)
          · skip
            have r_71 : 0 ≤ z_51.toInt ∧ z_51.toInt ≤ 0 := by have h9_ := f_52; omega
            refine lv_iconst (v := 0) F.1 F.2.1 dX7_spell__74 (by decide) ?_
            refine topK (a := 0) (by decide) (fun k_73 hk_73 => ?_)
            exact J_75 (k_73) _ _ _ ⟨hH, hS, lv_sub hl [0, 1, 2, 3, 4, 6, 7] rfl⟩
          · skip
            have r_72 : 1 ≤ z_51.toInt ∧ z_51.toInt ≤ 1 := by have h9_ := f_52; omega
            refine lv_iload F.1 F.2.1 dX7_spell__67 (lv_at hl 5 rfl) ?_
            refine lv_iconst (v := 1) F.1 F.2.1 dX7_spell__69 (by decide) ?_
            refine topK (a := 1) (by decide) (fun k_74 hk_74 => ?_)
            refine lv_iadd F.1 F.2.1 dX7_spell__70 ?_
            refine topF (fun z_75 => ?_)
            refine lv_goto (tgt := 75) F.1 F.2.1 dX7_spell__71 (by decide) ?_
            exact J_75 (z_75) _ _ _ ⟨hH, hS, lv_sub hl [0, 1, 2, 3, 4, 6, 7] rfl⟩
      · skip
        have r_30 : 0 ≤ z_24.toInt ∧ z_24.toInt ≤ 0 := by have h9_ := f_25; omega
        refine lv_iconst (v := (-1)) F.1 F.2.1 dX7_spell__30 (by decide) ?_
        refine topK (a := (-1)) (by decide) (fun k_76 hk_76 => ?_)
        exact txI F hS dX7_spell__31 rfl (⟨X0, ⟨hX0, hqX0⟩, A, hA, (wkb (eqb hk_76) rfl rfl), hH⟩)
set_option maxHeartbeats 4000000 in
set_option maxRecDepth 100000 in
theorem c_X7_share (E : Ev) (ws : TD) (kp : TD) (rd : TD) (ty : TD) (ik : TD) (un : Int × Int) (xt : Int × Int) (tp : Int × Int) (sp : Int × Int) (wrb : Int × Int) (nu : Int × Int) (nab : Int × Int) (iwb : Int × Int) (X0 : Nat → Int32) (A : Nat → Int32) (Z : Nat → Int32) (a0 : Nat) (a1 : Int32) (a2 : Int32) (ha0 : eT E a0 ∈ [24]) (hX0 : okR X0) (hA : okR A) (hqX0 : sQ Z X0) : TcI E yX7_share cX7_share 8 .int ({ frames := 10, cells := 0, slots := 0, locals := 245 }) [.ref a0, .int a1, .int a2] (fun H => TH E (tbM (mD (.inl tp) (.inl sp) (.inl nu) (.inl un) (.inl (0, 18)) (.inl xt) (.inl wrb) (.inl nab) (.inl iwb)) (xD 660 X0) ws kp (xD 660 A) rd m_second ty ik) H) (fun v H => ∃ X2 : Nat → Int32, (okR X2 ∧ sQ Z X2) ∧ ∃ A2 : Nat → Int32, (okR A2) ∧ ((-2147483648) ≤ v.toInt ∧ v.toInt ≤ 2147483647) ∧ TH E (tbM (mD (.inl tp) (.inl sp) (.inl nu) (.inl un) (.inl (0, 18)) (.inl xt) (.inl wrb) (.inl nab) (.inl iwb)) (xD 660 X2) ws kp (xD 660 A2) rd m_second ty ik) H) := by
  refine teI (by decide) (Nat.le_of_ble_eq_true rfl) ?_
  intro p_ ev_ s mi_ below_ meth cd_ ls F hK hN hO hH hS hl
  have hH : TH E (tbM (mD (.inl tp) (.inl sp) (.inl nu) (.inl un) (.inl (0, 18)) (.inl xt) (.inl wrb) (.inl nab) (.inl iwb)) (xD 660 X0) ws kp (xD 660 A) rd m_second ty ik) s.heap := hH
  have hl : lv_has ls 8 [(0, .ref a0), (1, .int a1), (2, .int a2)] := hl
  have hBX0 := okB hX0.1
  have hLX0 := hX0.2
  have hBA := okB hA.1
  have hLA := hA.2
  refine lv_iload_n F.1 F.2.1 dX7_share_0 rfl (lv_at hl 1 rfl) ?_
  refine lv_iconst (v := (-1)) F.1 F.2.1 dX7_share_1 (by decide) ?_
  refine topK (a := (-1)) (by decide) (fun k_1 hk_1 => ?_)
  refine wjoin (σ := Int32) (pcj := 13) (stj := fun x9 => []) (fun x9 H locs ls => ((-1) ≤ x9.toInt ∧ x9.toInt ≤ 13) ∧ TH E (tbM (mD (.inl tp) (.inl sp) (.inl nu) (.inl un) (.inl (0, 18)) (.inl xt) (.inl wrb) (.inl nab) (.inl iwb)) (xD 660 X0) ws kp (xD 660 A) rd m_second ty ik) H ∧ va_S (eA E s.heap.size) s.heap H locs ∧ lv_has ls 8 [(0, .ref a0), (1, .int x9), (2, .int a2)]) (fun u_2 H locs ls h_ => ?_) (fun J_13 => ?_)
  · skip
    obtain ⟨hu_2, hH, hS, hl⟩ := h_
    have hu_2 : ((-1) ≤ u_2.toInt ∧ u_2.toInt ≤ 13) := hu_2
    have hH : TH E (tbM (mD (.inl tp) (.inl sp) (.inl nu) (.inl un) (.inl (0, 18)) (.inl xt) (.inl wrb) (.inl nab) (.inl iwb)) (xD 660 X0) ws kp (xD 660 A) rd m_second ty ik) H := hH
    have hl : lv_has ls 8 [(0, .ref a0), (1, .int u_2), (2, .int a2)] := hl
    show W _ _ _ _ _ _ _ _ _ _ _ _ _ _ _ (F0 _ _ _ [])
    refine lv_iload_n F.1 F.2.1 dX7_share_13 rfl (lv_at hl 2 rfl) ?_
    refine tI2l F dX7_share_14 (fun w_3 hw_3 => ?_)
    refine lv_lconst (v := 1) F.1 F.2.1 dX7_share_15 (by decide) ?_
    refine topKL (a := 1) (by decide) (fun j_4 hj_4 => ?_)
    refine lv_ldc2 (own := RX7) (v := 360) F.1 F.2.1 F.2.2.2.2.1 (F.2.2.2.2.2.2.1 _ wd_47_21) dX7_share_16 ?_
    refine topKL (a := 360) (by decide) (fun j_5 hj_5 => ?_)
    refine tSi (As := [.long w_3, .long j_4, .long j_5]) (rest := []) F hK hN hO (c_X7_in E (mD (.inl tp) (.inl sp) (.inl nu) (.inl un) (.inl (0, 18)) (.inl xt) (.inl wrb) (.inl nab) (.inl iwb)) (xD 660 X0) ws kp (xD 660 A) rd m_second ty ik w_3 j_4 j_5) ms_X7_in wd_8_10 ⟨Nat.le_of_ble_eq_true rfl, Nat.le_of_ble_eq_true rfl⟩ ⟨Nat.le_of_ble_eq_true rfl, Nat.le_of_ble_eq_true rfl⟩ hH hS rfl hl.1 (Nat.le_of_ble_eq_true rfl) dX7_share_19 (fun z_6 H locs hq hS => ?_)
    obtain ⟨f_7, f_8, hH⟩ := hq
    have hH : TH E (tbM (mD (.inl tp) (.inl sp) (.inl nu) (.inl un) (.inl (0, 18)) (.inl xt) (.inl wrb) (.inl nab) (.inl iwb)) (xD 660 X0) ws kp (xD 660 A) rd m_second ty ik) H := hH
    refine z_ne (tgt := 27) F dX7_share_22 (by decide) (fun c_9 => ?_) (fun c_9 => ?_)
    · skip
      have r_10 : 1 ≤ z_6.toInt ∧ z_6.toInt ≤ 1 := by have h9_ := f_7; omega
      have r_11 : 1 ≤ a2.toInt ∧ a2.toInt ≤ 360 := by have h9_ := (i32b a2); omega
      refine lv_aload_n F.1 F.2.1 dX7_share_27 rfl (lv_at hl 0 rfl) ?_
      refine lv_iload_n F.1 F.2.1 dX7_share_28 rfl (lv_at hl 2 rfl) ?_
      refine tVv (b := a0) (As := [.int a2]) (rest := []) F hK hN hO (c_X7_laysShares E ws kp rd ty ik un xt tp sp wrb nu nab iwb X0 A Z a0 a2 ha0 r_11 hX0 hA hqX0) mv_X7_laysShares wd_60_0 ⟨Nat.le_of_ble_eq_true rfl, Nat.le_of_ble_eq_true rfl⟩ ⟨Nat.le_of_ble_eq_true rfl, Nat.le_of_ble_eq_true rfl⟩ hH hS (tRecv hK hH (tyb ha0 (all1 rfl)) clX7) rfl hl.1 (Nat.le_of_ble_eq_true rfl) dX7_share_29 (fun H locs hq hS => ?_)
      obtain ⟨g_14, hg_14, g_15, hg_15, hH⟩ := hq
      have hH : TH E (tbM (mD (.inl tp) (.inl sp) (.inl nu) (.inl un) (.inl (0, 18)) (.inl xt) (.inl wrb) (.inl nab) (.inl iwb)) (xD 660 g_14) ws kp (xD 660 g_15) rd m_second ty ik) H := hH
      have hqg_14 := hg_14.2
      have hBg_14 := okB hg_14.1.1
      have hLg_14 := hg_14.1.2
      have hBg_15 := okB hg_15.1
      have hLg_15 := hg_15.2
      refine lv_iload_n F.1 F.2.1 dX7_share_32 rfl (lv_at hl 1 rfl) ?_
      refine lv_iconst (v := (-1)) F.1 F.2.1 dX7_share_33 (by decide) ?_
      refine topK (a := (-1)) (by decide) (fun k_16 hk_16 => ?_)
      refine b_eq (tgt := 53) F dX7_share_34 (by decide) (fun c_17 => ?_) (fun c_17 => ?_)
      · skip
        have r_18 : (-1) ≤ u_2.toInt ∧ u_2.toInt ≤ (-1) := by have h9_ := hu_2; omega
        refine lv_lconst (v := 0) F.1 F.2.1 dX7_share_53 (by decide) ?_
        refine topKL (a := 0) (by decide) (fun j_20 hj_20 => ?_)
        refine lv_lstore_n (lv' := [(3, .long j_20), (0, .ref a0), (1, .int u_2), (2, .int a2)]) F.1 F.2.1 dX7_share_54 rfl hl (by decide) rfl (fun ls hl => ?_)
        refine lv_lconst (v := 0) F.1 F.2.1 dX7_share_55 (by decide) ?_
        refine topKL (a := 0) (by decide) (fun j_21 hj_21 => ?_)
        refine lv_lstore (lv' := [(5, .long j_21), (3, .long j_20), (0, .ref a0), (1, .int u_2), (2, .int a2)]) F.1 F.2.1 dX7_share_56 hl (by decide) rfl (fun ls hl => ?_)
        refine lv_iconst (v := 0) F.1 F.2.1 dX7_share_58 (by decide) ?_
        refine topK (a := 0) (by decide) (fun k_22 hk_22 => ?_)
        refine lv_istore (lv' := [(7, .int k_22), (5, .long j_21), (3, .long j_20), (0, .ref a0), (1, .int u_2), (2, .int a2)]) F.1 F.2.1 dX7_share_59 hl (by decide) rfl (fun ls hl => ?_)
        refine wloop (σ := Int64 × Int64 × Int32) (fun n9 x9 H locs ls => (14 - x9.2.2.toInt + 1).toNat < n9 ∧ (0 ≤ x9.2.2.toInt ∧ x9.2.2.toInt ≤ 14) ∧ TH E (tbM (mD (.inl tp) (.inl sp) (.inl nu) (.inl un) (.inl (0, 18)) (.inl xt) (.inl wrb) (.inl nab) (.inl iwb)) (xD 660 g_14) ws kp (xD 660 g_15) rd m_second ty ik) H ∧ va_S (eA E s.heap.size) s.heap H locs ∧ lv_has ls 8 [(0, .ref a0), (3, .long x9.1), (5, .long x9.2.1), (7, .int x9.2.2)]) ?_ (fun x9 H locs ls h => absurd h.1 (Nat.not_lt_zero _)) _ (j_20, j_21, k_22) ⟨Nat.lt_succ_self _, (wkb (eqb hk_22) rfl rfl), hH, hS, lv_sub hl [3, 2, 1, 0] rfl⟩
        intro n_61 ih_61 ⟨w_23, w_24, u_25⟩ H locs ls ⟨hm_61, hu_25, hH, hS, hl⟩
        have hm_61 : (14 - u_25.toInt + 1).toNat < n_61 + 1 := hm_61
        have hu_25 : (0 ≤ u_25.toInt ∧ u_25.toInt ≤ 14) := hu_25
        have hH : TH E (tbM (mD (.inl tp) (.inl sp) (.inl nu) (.inl un) (.inl (0, 18)) (.inl xt) (.inl wrb) (.inl nab) (.inl iwb)) (xD 660 g_14) ws kp (xD 660 g_15) rd m_second ty ik) H := hH
        have hl : lv_has ls 8 [(0, .ref a0), (3, .long w_23), (5, .long w_24), (7, .int u_25)] := hl
        refine lv_iload F.1 F.2.1 dX7_share_61 (lv_at hl 3 rfl) ?_
        refine lv_aload_n F.1 F.2.1 dX7_share_63 rfl (lv_at hl 0 rfl) ?_
        refine tVi (b := a0) (As := []) (rest := [.int u_25]) F hK hN hO (c_X7_rights E ws kp (xD 660 g_15) rd m_second ty ik un (0, 18) xt tp sp wrb nu nab iwb g_14 a0 ha0 ((hg_14.1).1)) mv_X7_rights wd_19_4 ⟨Nat.le_of_ble_eq_true rfl, Nat.le_of_ble_eq_true rfl⟩ ⟨Nat.le_of_ble_eq_true rfl, Nat.le_of_ble_eq_true rfl⟩ hH hS (tRecv hK hH (tyb ha0 (all1 rfl)) clX7) rfl hl.1 (Nat.le_of_ble_eq_true rfl) dX7_share_64 (fun z_26 H locs hq hS => ?_)
        obtain ⟨f_27, f_28, hH⟩ := hq
        have hH : TH E (tbM (mD (.inl tp) (.inl sp) (.inl nu) (.inl un) (.inl (0, 18)) (.inl xt) (.inl wrb) (.inl nab) (.inl iwb)) (xD 660 g_14) ws kp (xD 660 g_15) rd m_second ty ik) H := hH
        refine b_ge (tgt := 98) F dX7_share_67 (by decide) (fun c_29 => ?_) (fun c_29 => ?_)
        · skip
          refine lv_lload_n F.1 F.2.1 dX7_share_98 rfl (lv_at hl 1 rfl) ?_
          refine lv_lload F.1 F.2.1 dX7_share_99 (lv_at hl 2 rfl) ?_
          refine tSi (As := [.long w_23, .long w_24]) (rest := []) F hK hN hO (c_X7_shareOf E (mD (.inl tp) (.inl sp) (.inl nu) (.inl un) (.inl (0, 18)) (.inl xt) (.inl wrb) (.inl nab) (.inl iwb)) (xD 660 g_14) ws kp (xD 660 g_15) rd m_second ty ik w_23 w_24) ms_X7_shareOf wd_60_4 ⟨Nat.le_of_ble_eq_true rfl, Nat.le_of_ble_eq_true rfl⟩ ⟨Nat.le_of_ble_eq_true rfl, Nat.le_of_ble_eq_true rfl⟩ hH hS rfl hl.1 (Nat.le_of_ble_eq_true rfl) dX7_share_101 (fun z_32 H locs hq hS => ?_)
          obtain ⟨f_33, hH⟩ := hq
          have hH : TH E (tbM (mD (.inl tp) (.inl sp) (.inl nu) (.inl un) (.inl (0, 18)) (.inl xt) (.inl wrb) (.inl nab) (.inl iwb)) (xD 660 g_14) ws kp (xD 660 g_15) rd m_second ty ik) H := hH
          exact txI F hS dX7_share_104 rfl (⟨g_14, ⟨hg_14.1, hqg_14⟩, g_15, hg_15, f_33, hH⟩)
        · skip
          have r_30 : 0 ≤ u_25.toInt ∧ u_25.toInt ≤ 13 := by have h9_ := hu_25; omega
          have r_31 : 1 ≤ z_26.toInt ∧ z_26.toInt ≤ 14 := by have h9_ := f_27; omega
          refine lv_lload_n F.1 F.2.1 dX7_share_70 rfl (lv_at hl 1 rfl) ?_
          refine lv_aload_n F.1 F.2.1 dX7_share_71 rfl (lv_at hl 0 rfl) ?_
          refine tGetR (j := 41) F hK hH (tyb ha0 (all1 rfl)) rfl (all1 rfl) clX7 (by decide) wd_7_7 dX7_share_72 (fun q_34 hq_34 _ => ?_)
          refine lv_iload F.1 F.2.1 dX7_share_75 (lv_at hl 3 rfl) ?_
          refine tLald F hK hH (tyb hq_34 (all1 rfl)) (ixb (n := 14) r_30 rfl rfl) dX7_share_77 (fun w_35 => ?_)
          refine lv_ladd F.1 F.2.1 dX7_share_78 ?_
          refine topFL (fun w_36 => ?_)
          refine lv_lstore_n (lv' := [(3, .long w_36), (0, .ref a0), (5, .long w_24), (7, .int u_25)]) F.1 F.2.1 dX7_share_79 rfl hl (by decide) rfl (fun ls hl => ?_)
          refine lv_lload F.1 F.2.1 dX7_share_80 (lv_at hl 2 rfl) ?_
          refine lv_aload_n F.1 F.2.1 dX7_share_82 rfl (lv_at hl 1 rfl) ?_
          refine tGetR (j := 40) F hK hH (tyb ha0 (all1 rfl)) rfl (all1 rfl) clX7 (by decide) wd_7_6 dX7_share_83 (fun q_37 hq_37 _ => ?_)
          refine lv_iload F.1 F.2.1 dX7_share_86 (lv_at hl 3 rfl) ?_
          refine tLald F hK hH (tyb hq_37 (all1 rfl)) (ixb (n := 14) r_30 rfl rfl) dX7_share_88 (fun w_38 => ?_)
          refine lv_ladd F.1 F.2.1 dX7_share_89 ?_
          refine topFL (fun w_39 => ?_)
          refine lv_lstore (lv' := [(5, .long w_39), (3, .long w_36), (0, .ref a0), (7, .int u_25)]) F.1 F.2.1 dX7_share_90 hl (by decide) rfl (fun ls hl => ?_)
          obtain ⟨x_40, ex_40, hx_40⟩ := iincB (c := 1) (lo := 1) (hi := 14) r_30 rfl
          refine lv_iinc (v := x_40) (lv' := [(7, .int x_40), (5, .long w_39), (3, .long w_36), (0, .ref a0)]) F.1 F.2.1 dX7_share_92 hl (k := 3) rfl ex_40 (by decide) rfl (fun ls hl => ?_)
          refine lv_goto (tgt := 61) F.1 F.2.1 dX7_share_95 (by decide) ?_
          exact ih_61 (w_36, w_39, x_40) _ _ _ ⟨(show (14 - x_40.toInt + 1).toNat < n_61 from by omega), (wkb hx_40.2 rfl rfl), hH, hS, lv_sub hl [3, 2, 1, 0] rfl⟩
      · skip
        have r_19 : 0 ≤ u_2.toInt ∧ u_2.toInt ≤ 13 := by have h9_ := hu_2; omega
        refine lv_aload_n F.1 F.2.1 dX7_share_37 rfl (lv_at hl 0 rfl) ?_
        refine tGetR (j := 41) F hK hH (tyb ha0 (all1 rfl)) rfl (all1 rfl) clX7 (by decide) wd_7_7 dX7_share_38 (fun q_41 hq_41 _ => ?_)
        refine lv_iload_n F.1 F.2.1 dX7_share_41 rfl (lv_at hl 1 rfl) ?_
        refine tLald F hK hH (tyb hq_41 (all1 rfl)) (ixb (n := 14) r_19 rfl rfl) dX7_share_42 (fun w_42 => ?_)
        refine lv_aload_n F.1 F.2.1 dX7_share_43 rfl (lv_at hl 0 rfl) ?_
        refine tGetR (j := 40) F hK hH (tyb ha0 (all1 rfl)) rfl (all1 rfl) clX7 (by decide) wd_7_6 dX7_share_44 (fun q_43 hq_43 _ => ?_)
        refine lv_iload_n F.1 F.2.1 dX7_share_47 rfl (lv_at hl 1 rfl) ?_
        refine tLald F hK hH (tyb hq_43 (all1 rfl)) (ixb (n := 14) r_19 rfl rfl) dX7_share_48 (fun w_44 => ?_)
        refine tSi (As := [.long w_42, .long w_44]) (rest := []) F hK hN hO (c_X7_shareOf E (mD (.inl tp) (.inl sp) (.inl nu) (.inl un) (.inl (0, 18)) (.inl xt) (.inl wrb) (.inl nab) (.inl iwb)) (xD 660 g_14) ws kp (xD 660 g_15) rd m_second ty ik w_42 w_44) ms_X7_shareOf wd_60_4 ⟨Nat.le_of_ble_eq_true rfl, Nat.le_of_ble_eq_true rfl⟩ ⟨Nat.le_of_ble_eq_true rfl, Nat.le_of_ble_eq_true rfl⟩ hH hS rfl hl.1 (Nat.le_of_ble_eq_true rfl) dX7_share_49 (fun z_45 H locs hq hS => ?_)
        obtain ⟨f_46, hH⟩ := hq
        have hH : TH E (tbM (mD (.inl tp) (.inl sp) (.inl nu) (.inl un) (.inl (0, 18)) (.inl xt) (.inl wrb) (.inl nab) (.inl iwb)) (xD 660 g_14) ws kp (xD 660 g_15) rd m_second ty ik) H := hH
        exact txI F hS dX7_share_52 rfl (⟨g_14, ⟨hg_14.1, hqg_14⟩, g_15, hg_15, f_46, hH⟩)
    · skip
      have r_12 : 0 ≤ z_6.toInt ∧ z_6.toInt ≤ 0 := by have h9_ := f_7; omega
      refine lv_iconst (v := (-1)) F.1 F.2.1 dX7_share_25 (by decide) ?_
      refine topK (a := (-1)) (by decide) (fun k_47 hk_47 => ?_)
      exact txI F hS dX7_share_26 rfl (⟨X0, ⟨hX0, hqX0⟩, A, hA, (wkb (eqb hk_47) rfl rfl), hH⟩)
  refine b_eq (tgt := 13) F dX7_share_2 (by decide) (fun c_48 => ?_) (fun c_48 => ?_)
  · skip
    have r_49 : (-1) ≤ a1.toInt ∧ a1.toInt ≤ (-1) := by have h9_ := (i32b a1); omega
    exact J_13 (a1) _ _ _ ⟨(wkb r_49 rfl rfl), hH, hS, lv_sub hl [0, 1, 2] rfl⟩
  · skip
    refine lv_aload_n F.1 F.2.1 dX7_share_5 rfl (lv_at hl 0 rfl) ?_
    refine lv_iload_n F.1 F.2.1 dX7_share_6 rfl (lv_at hl 1 rfl) ?_
    refine tVi (b := a0) (As := [.int a1]) (rest := []) F hK hN hO (c_X7_isRight E ws kp (xD 660 A) rd m_second ty ik un (0, 18) xt tp sp wrb nu nab iwb X0 a0 a1 ha0 ((hX0).1)) mv_X7_isRight wd_31_18 ⟨Nat.le_of_ble_eq_true rfl, Nat.le_of_ble_eq_true rfl⟩ ⟨Nat.le_of_ble_eq_true rfl, Nat.le_of_ble_eq_true rfl⟩ hH hS (tRecv hK hH (tyb ha0 (all1 rfl)) clX7) rfl hl.1 (Nat.le_of_ble_eq_true rfl) dX7_share_7 (fun z_50 H locs hq hS => ?_)
    obtain ⟨f_51, f_52, f_53, hH⟩ := hq
    have hH : TH E (tbM (mD (.inl tp) (.inl sp) (.inl nu) (.inl un) (.inl (0, 18)) (.inl xt) (.inl wrb) (.inl nab) (.inl iwb)) (xD 660 X0) ws kp (xD 660 A) rd m_second ty ik) H := hH
    refine z_eq (tgt := 25) F dX7_share_10 (by decide) (fun c_54 => ?_) (fun c_54 => ?_)
    · skip
      have r_55 : 0 ≤ z_50.toInt ∧ z_50.toInt ≤ 0 := by have h9_ := f_51; omega
      refine lv_iconst (v := (-1)) F.1 F.2.1 dX7_share_25 (by decide) ?_
      refine topK (a := (-1)) (by decide) (fun k_58 hk_58 => ?_)
      exact txI F hS dX7_share_26 rfl (⟨X0, ⟨hX0, hqX0⟩, A, hA, (wkb (eqb hk_58) rfl rfl), hH⟩)
    · skip
      have r_56 : 1 ≤ z_50.toInt ∧ z_50.toInt ≤ 1 := by have h9_ := f_51; omega
      have r_57 : 0 ≤ a1.toInt ∧ a1.toInt ≤ 13 := by have h9_ := (i32b a1); omega
      exact J_13 (a1) _ _ _ ⟨(wkb r_57 rfl rfl), hH, hS, lv_sub hl [0, 1, 2] rfl⟩
set_option maxHeartbeats 4000000 in
set_option maxRecDepth 100000 in
theorem c_X7_worst (E : Ev) (ws : TD) (kp : TD) (rd : TD) (ty : TD) (ik : TD) (un : Int × Int) (xt : Int × Int) (tp : Int × Int) (sp : Int × Int) (wrb : Int × Int) (nu : Int × Int) (nab : Int × Int) (iwb : Int × Int) (X0 : Nat → Int32) (A : Nat → Int32) (Z : Nat → Int32) (a0 : Nat) (a1 : Int32) (ha0 : eT E a0 ∈ [24]) (hX0 : okR X0) (hA : okR A) (hqX0 : sQ Z X0) : TcI E yX7_worst cX7_worst 4 .int ({ frames := 10, cells := 0, slots := 0, locals := 245 }) [.ref a0, .int a1] (fun H => TH E (tbM (mD (.inl tp) (.inl sp) (.inl nu) (.inl un) (.inl (0, 18)) (.inl xt) (.inl wrb) (.inl nab) (.inl iwb)) (xD 660 X0) ws kp (xD 660 A) rd m_second ty ik) H) (fun v H => ∃ X2 : Nat → Int32, (okR X2 ∧ sQ Z X2) ∧ ∃ A2 : Nat → Int32, (okR A2) ∧ ((-2147483648) ≤ v.toInt ∧ v.toInt ≤ 2147483647) ∧ TH E (tbM (mD (.inl tp) (.inl sp) (.inl nu) (.inl un) (.inl (0, 18)) (.inl xt) (.inl wrb) (.inl nab) (.inl iwb)) (xD 660 X2) ws kp (xD 660 A2) rd m_second ty ik) H) := by
  refine teI (by decide) (Nat.le_of_ble_eq_true rfl) ?_
  intro p_ ev_ s mi_ below_ meth cd_ ls F hK hN hO hH hS hl
  have hH : TH E (tbM (mD (.inl tp) (.inl sp) (.inl nu) (.inl un) (.inl (0, 18)) (.inl xt) (.inl wrb) (.inl nab) (.inl iwb)) (xD 660 X0) ws kp (xD 660 A) rd m_second ty ik) s.heap := hH
  have hl : lv_has ls 4 [(0, .ref a0), (1, .int a1)] := hl
  have hBX0 := okB hX0.1
  have hLX0 := hX0.2
  have hBA := okB hA.1
  have hLA := hA.2
  refine lv_iload_n F.1 F.2.1 dX7_worst_0 rfl (lv_at hl 1 rfl) ?_
  refine tI2l F dX7_worst_1 (fun w_1 hw_1 => ?_)
  refine lv_lconst (v := 1) F.1 F.2.1 dX7_worst_2 (by decide) ?_
  refine topKL (a := 1) (by decide) (fun j_2 hj_2 => ?_)
  refine lv_ldc2 (own := RX7) (v := 360) F.1 F.2.1 F.2.2.2.2.1 (F.2.2.2.2.2.2.1 _ wd_47_21) dX7_worst_3 ?_
  refine topKL (a := 360) (by decide) (fun j_3 hj_3 => ?_)
  refine tSi (As := [.long w_1, .long j_2, .long j_3]) (rest := []) F hK hN hO (c_X7_in E (mD (.inl tp) (.inl sp) (.inl nu) (.inl un) (.inl (0, 18)) (.inl xt) (.inl wrb) (.inl nab) (.inl iwb)) (xD 660 X0) ws kp (xD 660 A) rd m_second ty ik w_1 j_2 j_3) ms_X7_in wd_8_10 ⟨Nat.le_of_ble_eq_true rfl, Nat.le_of_ble_eq_true rfl⟩ ⟨Nat.le_of_ble_eq_true rfl, Nat.le_of_ble_eq_true rfl⟩ hH hS rfl hl.1 (Nat.le_of_ble_eq_true rfl) dX7_worst_6 (fun z_4 H locs hq hS => ?_)
  obtain ⟨f_5, f_6, hH⟩ := hq
  have hH : TH E (tbM (mD (.inl tp) (.inl sp) (.inl nu) (.inl un) (.inl (0, 18)) (.inl xt) (.inl wrb) (.inl nab) (.inl iwb)) (xD 660 X0) ws kp (xD 660 A) rd m_second ty ik) H := hH
  refine z_ne (tgt := 14) F dX7_worst_9 (by decide) (fun c_7 => ?_) (fun c_7 => ?_)
  · skip
    have r_8 : 1 ≤ z_4.toInt ∧ z_4.toInt ≤ 1 := by have h9_ := f_5; omega
    have r_9 : 1 ≤ a1.toInt ∧ a1.toInt ≤ 360 := by have h9_ := (i32b a1); omega
    refine lv_aload_n F.1 F.2.1 dX7_worst_14 rfl (lv_at hl 0 rfl) ?_
    refine lv_iload_n F.1 F.2.1 dX7_worst_15 rfl (lv_at hl 1 rfl) ?_
    refine tVv (b := a0) (As := [.int a1]) (rest := []) F hK hN hO (c_X7_laysShares E ws kp rd ty ik un xt tp sp wrb nu nab iwb X0 A Z a0 a1 ha0 r_9 hX0 hA hqX0) mv_X7_laysShares wd_60_0 ⟨Nat.le_of_ble_eq_true rfl, Nat.le_of_ble_eq_true rfl⟩ ⟨Nat.le_of_ble_eq_true rfl, Nat.le_of_ble_eq_true rfl⟩ hH hS (tRecv hK hH (tyb ha0 (all1 rfl)) clX7) rfl hl.1 (Nat.le_of_ble_eq_true rfl) dX7_worst_16 (fun H locs hq hS => ?_)
    obtain ⟨g_12, hg_12, g_13, hg_13, hH⟩ := hq
    have hH : TH E (tbM (mD (.inl tp) (.inl sp) (.inl nu) (.inl un) (.inl (0, 18)) (.inl xt) (.inl wrb) (.inl nab) (.inl iwb)) (xD 660 g_12) ws kp (xD 660 g_13) rd m_second ty ik) H := hH
    have hqg_12 := hg_12.2
    have hBg_12 := okB hg_12.1.1
    have hLg_12 := hg_12.1.2
    have hBg_13 := okB hg_13.1
    have hLg_13 := hg_13.2
    refine lv_bipush (v := (-2)) F.1 F.2.1 dX7_worst_19 (by decide) ?_
    refine topK (a := (-2)) (by decide) (fun k_14 hk_14 => ?_)
    refine lv_istore_n (lv' := [(2, .int k_14), (0, .ref a0), (1, .int a1)]) F.1 F.2.1 dX7_worst_21 rfl hl (by decide) rfl (fun ls hl => ?_)
    refine lv_iconst (v := 0) F.1 F.2.1 dX7_worst_22 (by decide) ?_
    refine topK (a := 0) (by decide) (fun k_15 hk_15 => ?_)
    refine lv_istore_n (lv' := [(3, .int k_15), (2, .int k_14), (0, .ref a0), (1, .int a1)]) F.1 F.2.1 dX7_worst_23 rfl hl (by decide) rfl (fun ls hl => ?_)
    refine wloop (σ := Int32 × Int32) (fun n9 x9 H locs ls => (14 - x9.2.toInt + 1).toNat < n9 ∧ ((-2) ≤ x9.1.toInt ∧ x9.1.toInt ≤ 13) ∧ (0 ≤ x9.2.toInt ∧ x9.2.toInt ≤ 14) ∧ (x9.1.toInt ≠ -1) ∧ TH E (tbM (mD (.inl tp) (.inl sp) (.inl nu) (.inl un) (.inl (0, 18)) (.inl xt) (.inl wrb) (.inl nab) (.inl iwb)) (xD 660 g_12) ws kp (xD 660 g_13) rd m_second ty ik) H ∧ va_S (eA E s.heap.size) s.heap H locs ∧ lv_has ls 4 [(0, .ref a0), (2, .int x9.1), (3, .int x9.2)]) ?_ (fun x9 H locs ls h => absurd h.1 (Nat.not_lt_zero _)) _ (k_14, k_15) ⟨Nat.lt_succ_self _, (wkb (eqb hk_14) rfl rfl), (wkb (eqb hk_15) rfl rfl), (show k_14.toInt ≠ -1 from by omega), hH, hS, lv_sub hl [2, 1, 0] rfl⟩
    intro n_24 ih_24 ⟨u_16, u_17⟩ H locs ls ⟨hm_24, hu_16, hu_17, hcr24_0, hH, hS, hl⟩
    have hm_24 : (14 - u_17.toInt + 1).toNat < n_24 + 1 := hm_24
    have hu_16 : ((-2) ≤ u_16.toInt ∧ u_16.toInt ≤ 13) := hu_16
    have hu_17 : (0 ≤ u_17.toInt ∧ u_17.toInt ≤ 14) := hu_17
    have hcr24_0 : (u_16.toInt ≠ -1) := hcr24_0
    have hH : TH E (tbM (mD (.inl tp) (.inl sp) (.inl nu) (.inl un) (.inl (0, 18)) (.inl xt) (.inl wrb) (.inl nab) (.inl iwb)) (xD 660 g_12) ws kp (xD 660 g_13) rd m_second ty ik) H := hH
    have hl : lv_has ls 4 [(0, .ref a0), (2, .int u_16), (3, .int u_17)] := hl
    refine lv_iload_n F.1 F.2.1 dX7_worst_24 rfl (lv_at hl 2 rfl) ?_
    refine lv_aload_n F.1 F.2.1 dX7_worst_25 rfl (lv_at hl 0 rfl) ?_
    refine tVi (b := a0) (As := []) (rest := [.int u_17]) F hK hN hO (c_X7_rights E ws kp (xD 660 g_13) rd m_second ty ik un (0, 18) xt tp sp wrb nu nab iwb g_12 a0 ha0 ((hg_12.1).1)) mv_X7_rights wd_19_4 ⟨Nat.le_of_ble_eq_true rfl, Nat.le_of_ble_eq_true rfl⟩ ⟨Nat.le_of_ble_eq_true rfl, Nat.le_of_ble_eq_true rfl⟩ hH hS (tRecv hK hH (tyb ha0 (all1 rfl)) clX7) rfl hl.1 (Nat.le_of_ble_eq_true rfl) dX7_worst_26 (fun z_18 H locs hq hS => ?_)
    obtain ⟨f_19, f_20, hH⟩ := hq
    have hH : TH E (tbM (mD (.inl tp) (.inl sp) (.inl nu) (.inl un) (.inl (0, 18)) (.inl xt) (.inl wrb) (.inl nab) (.inl iwb)) (xD 660 g_12) ws kp (xD 660 g_13) rd m_second ty ik) H := hH
    refine b_ge (tgt := 79) F dX7_worst_29 (by decide) (fun c_21 => ?_) (fun c_21 => ?_)
    · skip
      refine lv_iload_n F.1 F.2.1 dX7_worst_79 rfl (lv_at hl 1 rfl) ?_
      exact txI F hS dX7_worst_80 rfl (⟨g_12, ⟨hg_12.1, hqg_12⟩, g_13, hg_13, (wkb hu_16 rfl rfl), hH⟩)
    · skip
      have r_22 : 0 ≤ u_17.toInt ∧ u_17.toInt ≤ 13 := by have h9_ := hu_17; omega
      have r_23 : 1 ≤ z_18.toInt ∧ z_18.toInt ≤ 14 := by have h9_ := f_19; omega
      refine lv_iload_n F.1 F.2.1 dX7_worst_32 rfl (lv_at hl 1 rfl) ?_
      refine lv_bipush (v := (-2)) F.1 F.2.1 dX7_worst_33 (by decide) ?_
      refine topK (a := (-2)) (by decide) (fun k_24 hk_24 => ?_)
      refine b_eq (tgt := 71) F dX7_worst_35 (by decide) (fun c_25 => ?_) (fun c_25 => ?_)
      · skip
        have r_26 : (-2) ≤ u_16.toInt ∧ u_16.toInt ≤ (-2) := by have h9_ := hu_16; omega
        refine lv_iload_n F.1 F.2.1 dX7_worst_71 rfl (lv_at hl 2 rfl) ?_
        refine lv_istore_n (lv' := [(2, .int u_17), (0, .ref a0), (3, .int u_17)]) F.1 F.2.1 dX7_worst_72 rfl hl (by decide) rfl (fun ls hl => ?_)
        obtain ⟨x_28, ex_28, hx_28⟩ := iincB (c := 1) (lo := 1) (hi := 14) r_22 rfl
        refine lv_iinc (v := x_28) (lv' := [(3, .int x_28), (2, .int u_17), (0, .ref a0)]) F.1 F.2.1 dX7_worst_73 hl (k := 2) rfl ex_28 (by decide) rfl (fun ls hl => ?_)
        refine lv_goto (tgt := 24) F.1 F.2.1 dX7_worst_76 (by decide) ?_
        exact ih_24 (u_17, x_28) _ _ _ ⟨(show (14 - x_28.toInt + 1).toNat < n_24 from by omega), (wkb r_22 rfl rfl), (wkb hx_28.2 rfl rfl), (show u_17.toInt ≠ -1 from by omega), hH, hS, lv_sub hl [2, 1, 0] rfl⟩
      · skip
        have r_27 : (-1) ≤ u_16.toInt ∧ u_16.toInt ≤ 13 := by have h9_ := hu_16; omega
        refine lv_aload_n F.1 F.2.1 dX7_worst_38 rfl (lv_at hl 0 rfl) ?_
        refine tGetR (j := 41) F hK hH (tyb ha0 (all1 rfl)) rfl (all1 rfl) clX7 (by decide) wd_7_7 dX7_worst_39 (fun q_29 hq_29 _ => ?_)
        refine lv_iload_n F.1 F.2.1 dX7_worst_42 rfl (lv_at hl 2 rfl) ?_
        refine tLald F hK hH (tyb hq_29 (all1 rfl)) (ixb (n := 14) r_22 rfl rfl) dX7_worst_43 (fun w_30 => ?_)
        refine lv_aload_n F.1 F.2.1 dX7_worst_44 rfl (lv_at hl 0 rfl) ?_
        refine tGetR (j := 40) F hK hH (tyb ha0 (all1 rfl)) rfl (all1 rfl) clX7 (by decide) wd_7_6 dX7_worst_45 (fun q_31 hq_31 _ => ?_)
        refine lv_iload_n F.1 F.2.1 dX7_worst_48 rfl (lv_at hl 2 rfl) ?_
        refine tLald F hK hH (tyb hq_31 (all1 rfl)) (ixb (n := 14) r_22 rfl rfl) dX7_worst_49 (fun w_32 => ?_)
        refine tSi (As := [.long w_30, .long w_32]) (rest := []) F hK hN hO (c_X7_shareOf E (mD (.inl tp) (.inl sp) (.inl nu) (.inl un) (.inl (0, 18)) (.inl xt) (.inl wrb) (.inl nab) (.inl iwb)) (xD 660 g_12) ws kp (xD 660 g_13) rd m_second ty ik w_30 w_32) ms_X7_shareOf wd_60_4 ⟨Nat.le_of_ble_eq_true rfl, Nat.le_of_ble_eq_true rfl⟩ ⟨Nat.le_of_ble_eq_true rfl, Nat.le_of_ble_eq_true rfl⟩ hH hS rfl hl.1 (Nat.le_of_ble_eq_true rfl) dX7_worst_50 (fun z_33 H locs hq hS => ?_)
        obtain ⟨f_34, hH⟩ := hq
        have hH : TH E (tbM (mD (.inl tp) (.inl sp) (.inl nu) (.inl un) (.inl (0, 18)) (.inl xt) (.inl wrb) (.inl nab) (.inl iwb)) (xD 660 g_12) ws kp (xD 660 g_13) rd m_second ty ik) H := hH
        refine lv_aload_n F.1 F.2.1 dX7_worst_53 rfl (lv_at hl 0 rfl) ?_
        refine tGetR (j := 41) F hK hH (tyb ha0 (all1 rfl)) rfl (all1 rfl) clX7 (by decide) wd_7_7 dX7_worst_54 (fun q_35 hq_35 _ => ?_)
        refine lv_iload_n F.1 F.2.1 dX7_worst_57 rfl (lv_at hl 1 rfl) ?_
        refine tLald F hK hH (tyb hq_35 (all1 rfl)) (by omega) dX7_worst_58 (fun w_36 => ?_)
        refine lv_aload_n F.1 F.2.1 dX7_worst_59 rfl (lv_at hl 0 rfl) ?_
        refine tGetR (j := 40) F hK hH (tyb ha0 (all1 rfl)) rfl (all1 rfl) clX7 (by decide) wd_7_6 dX7_worst_60 (fun q_37 hq_37 _ => ?_)
        refine lv_iload_n F.1 F.2.1 dX7_worst_63 rfl (lv_at hl 1 rfl) ?_
        refine tLald F hK hH (tyb hq_37 (all1 rfl)) (by omega) dX7_worst_64 (fun w_38 => ?_)
        refine tSi (As := [.long w_36, .long w_38]) (rest := [.int z_33]) F hK hN hO (c_X7_shareOf E (mD (.inl tp) (.inl sp) (.inl nu) (.inl un) (.inl (0, 18)) (.inl xt) (.inl wrb) (.inl nab) (.inl iwb)) (xD 660 g_12) ws kp (xD 660 g_13) rd m_second ty ik w_36 w_38) ms_X7_shareOf wd_60_4 ⟨Nat.le_of_ble_eq_true rfl, Nat.le_of_ble_eq_true rfl⟩ ⟨Nat.le_of_ble_eq_true rfl, Nat.le_of_ble_eq_true rfl⟩ hH hS rfl hl.1 (Nat.le_of_ble_eq_true rfl) dX7_worst_65 (fun z_39 H locs hq hS => ?_)
        obtain ⟨f_40, hH⟩ := hq
        have hH : TH E (tbM (mD (.inl tp) (.inl sp) (.inl nu) (.inl un) (.inl (0, 18)) (.inl xt) (.inl wrb) (.inl nab) (.inl iwb)) (xD 660 g_12) ws kp (xD 660 g_13) rd m_second ty ik) H := hH
        refine b_ge (tgt := 73) F dX7_worst_68 (by decide) (fun c_41 => ?_) (fun c_41 => ?_)
        · skip
          obtain ⟨x_42, ex_42, hx_42⟩ := iincB (c := 1) (lo := 1) (hi := 14) r_22 rfl
          refine lv_iinc (v := x_42) (lv' := [(3, .int x_42), (0, .ref a0), (2, .int u_16)]) F.1 F.2.1 dX7_worst_73 hl (k := 2) rfl ex_42 (by decide) rfl (fun ls hl => ?_)
          refine lv_goto (tgt := 24) F.1 F.2.1 dX7_worst_76 (by decide) ?_
          exact ih_24 (u_16, x_42) _ _ _ ⟨(show (14 - x_42.toInt + 1).toNat < n_24 from by omega), (wkb r_27 rfl rfl), (wkb hx_42.2 rfl rfl), (show u_16.toInt ≠ -1 from by omega), hH, hS, lv_sub hl [1, 2, 0] rfl⟩
        · skip
          refine lv_iload_n F.1 F.2.1 dX7_worst_71 rfl (lv_at hl 2 rfl) ?_
          refine lv_istore_n (lv' := [(2, .int u_17), (0, .ref a0), (3, .int u_17)]) F.1 F.2.1 dX7_worst_72 rfl hl (by decide) rfl (fun ls hl => ?_)
          obtain ⟨x_43, ex_43, hx_43⟩ := iincB (c := 1) (lo := 1) (hi := 14) r_22 rfl
          refine lv_iinc (v := x_43) (lv' := [(3, .int x_43), (2, .int u_17), (0, .ref a0)]) F.1 F.2.1 dX7_worst_73 hl (k := 2) rfl ex_43 (by decide) rfl (fun ls hl => ?_)
          refine lv_goto (tgt := 24) F.1 F.2.1 dX7_worst_76 (by decide) ?_
          exact ih_24 (u_17, x_43) _ _ _ ⟨(show (14 - x_43.toInt + 1).toNat < n_24 from by omega), (wkb r_22 rfl rfl), (wkb hx_43.2 rfl rfl), (show u_17.toInt ≠ -1 from by omega), hH, hS, lv_sub hl [2, 1, 0] rfl⟩
  · skip
    have r_10 : 0 ≤ z_4.toInt ∧ z_4.toInt ≤ 0 := by have h9_ := f_5; omega
    refine lv_iconst (v := (-1)) F.1 F.2.1 dX7_worst_12 (by decide) ?_
    refine topK (a := (-1)) (by decide) (fun k_44 hk_44 => ?_)
    exact txI F hS dX7_worst_13 rfl (⟨X0, ⟨hX0, hqX0⟩, A, hA, (wkb (eqb hk_44) rfl rfl), hH⟩)
set_option maxHeartbeats 4000000 in
set_option maxRecDepth 100000 in
theorem c_X7_gain (E : Ev) (ws : TD) (kp : TD) (rd : TD) (ty : TD) (ik : TD) (un : Int × Int) (tp : Int × Int) (sp : Int × Int) (wrb : Int × Int) (nu : Int × Int) (nab : Int × Int) (iwb : Int × Int) (X0 : Nat → Int32) (A : Nat → Int32) (Z : Nat → Int32) (a0 : Nat) (a1 : Int32) (a2 : Int32) (a3 : Int32) (ha0 : eT E a0 ∈ [24]) (hX0 : okR X0) (hA : okR A) (hqX0 : sQ Z X0) : TcI E yX7_gain cX7_gain 4 .int ({ frames := 10, cells := 0, slots := 0, locals := 246 }) [.ref a0, .int a1, .int a2, .int a3] (fun H => TH E (tbM (mD (.inl tp) (.inl sp) (.inl nu) (.inl un) (.inl (0, 18)) (.inl ((-2147483648), 2147483647)) (.inl wrb) (.inl nab) (.inl iwb)) (xD 660 X0) ws kp (xD 660 A) rd m_second ty ik) H) (fun v H => ∃ X2 : Nat → Int32, (okR X2 ∧ sQ Z X2) ∧ ∃ A2 : Nat → Int32, (okR A2) ∧ ((-2147483648) ≤ v.toInt ∧ v.toInt ≤ 2147483647) ∧ TH E (tbM (mD (.inl tp) (.inl sp) (.inl nu) (.inl un) (.inl (0, 18)) (.inl ((-2147483648), 2147483647)) (.inl wrb) (.inl nab) (.inl iwb)) (xD 660 X2) ws kp (xD 660 A2) rd m_second ty ik) H) := by
  refine teI (by decide) (Nat.le_of_ble_eq_true rfl) ?_
  intro p_ ev_ s mi_ below_ meth cd_ ls F hK hN hO hH hS hl
  have hH : TH E (tbM (mD (.inl tp) (.inl sp) (.inl nu) (.inl un) (.inl (0, 18)) (.inl ((-2147483648), 2147483647)) (.inl wrb) (.inl nab) (.inl iwb)) (xD 660 X0) ws kp (xD 660 A) rd m_second ty ik) s.heap := hH
  have hl : lv_has ls 4 [(0, .ref a0), (1, .int a1), (2, .int a2), (3, .int a3)] := hl
  have hBX0 := okB hX0.1
  have hLX0 := hX0.2
  have hBA := okB hA.1
  have hLA := hA.2
  refine lv_aload_n F.1 F.2.1 dX7_gain_0 rfl (lv_at hl 0 rfl) ?_
  refine lv_iload_n F.1 F.2.1 dX7_gain_1 rfl (lv_at hl 1 rfl) ?_
  refine tVi (b := a0) (As := [.int a1]) (rest := []) F hK hN hO (c_X7_isReach E ws kp (xD 660 A) rd m_second ty ik un (0, 18) (((-2147483648), 2147483647)) tp sp wrb nu nab iwb X0 a0 a1 ha0 ((hX0).1)) mv_X7_isReach wd_37_8 ⟨Nat.le_of_ble_eq_true rfl, Nat.le_of_ble_eq_true rfl⟩ ⟨Nat.le_of_ble_eq_true rfl, Nat.le_of_ble_eq_true rfl⟩ hH hS (tRecv hK hH (tyb ha0 (all1 rfl)) clX7) rfl hl.1 (Nat.le_of_ble_eq_true rfl) dX7_gain_2 (fun z_1 H locs hq hS => ?_)
  obtain ⟨f_2, f_3, f_4, hH⟩ := hq
  have hH : TH E (tbM (mD (.inl tp) (.inl sp) (.inl nu) (.inl un) (.inl (0, 18)) (.inl ((-2147483648), 2147483647)) (.inl wrb) (.inl nab) (.inl iwb)) (xD 660 X0) ws kp (xD 660 A) rd m_second ty ik) H := hH
  refine z_eq (tgt := 32) F dX7_gain_5 (by decide) (fun c_5 => ?_) (fun c_5 => ?_)
  · skip
    have r_6 : 0 ≤ z_1.toInt ∧ z_1.toInt ≤ 0 := by have h9_ := f_2; omega
    refine lv_ldcw (own := RX7) (v := (-2147483648)) F.1 F.2.1 F.2.2.2.2.1 (F.2.2.2.2.2.2.1 _ wd_48_8) dX7_gain_32 ?_
    refine topK (a := (-2147483648)) (by decide) (fun k_9 hk_9 => ?_)
    exact txI F hS dX7_gain_35 rfl (⟨X0, ⟨hX0, hqX0⟩, A, hA, (wkb (eqb hk_9) rfl rfl), hH⟩)
  · skip
    have r_7 : 1 ≤ z_1.toInt ∧ z_1.toInt ≤ 1 := by have h9_ := f_2; omega
    have r_8 : 0 ≤ a1.toInt ∧ a1.toInt ≤ 11 := by have h9_ := (i32b a1); omega
    refine lv_iload_n F.1 F.2.1 dX7_gain_8 rfl (lv_at hl 2 rfl) ?_
    refine tI2l F dX7_gain_9 (fun w_10 hw_10 => ?_)
    refine lv_lconst (v := 0) F.1 F.2.1 dX7_gain_10 (by decide) ?_
    refine topKL (a := 0) (by decide) (fun j_11 hj_11 => ?_)
    refine lv_ldc2 (own := RX7) (v := 9999) F.1 F.2.1 F.2.2.2.2.1 (F.2.2.2.2.2.2.1 _ wd_32_16) dX7_gain_11 ?_
    refine topKL (a := 9999) (by decide) (fun j_12 hj_12 => ?_)
    refine tSi (As := [.long w_10, .long j_11, .long j_12]) (rest := []) F hK hN hO (c_X7_in E (mD (.inl tp) (.inl sp) (.inl nu) (.inl un) (.inl (0, 18)) (.inl ((-2147483648), 2147483647)) (.inl wrb) (.inl nab) (.inl iwb)) (xD 660 X0) ws kp (xD 660 A) rd m_second ty ik w_10 j_11 j_12) ms_X7_in wd_8_10 ⟨Nat.le_of_ble_eq_true rfl, Nat.le_of_ble_eq_true rfl⟩ ⟨Nat.le_of_ble_eq_true rfl, Nat.le_of_ble_eq_true rfl⟩ hH hS rfl hl.1 (Nat.le_of_ble_eq_true rfl) dX7_gain_14 (fun z_13 H locs hq hS => ?_)
    obtain ⟨f_14, f_15, hH⟩ := hq
    have hH : TH E (tbM (mD (.inl tp) (.inl sp) (.inl nu) (.inl un) (.inl (0, 18)) (.inl ((-2147483648), 2147483647)) (.inl wrb) (.inl nab) (.inl iwb)) (xD 660 X0) ws kp (xD 660 A) rd m_second ty ik) H := hH
    refine z_eq (tgt := 32) F dX7_gain_17 (by decide) (fun c_16 => ?_) (fun c_16 => ?_)
    · skip
      have r_17 : 0 ≤ z_13.toInt ∧ z_13.toInt ≤ 0 := by have h9_ := f_14; omega
      refine lv_ldcw (own := RX7) (v := (-2147483648)) F.1 F.2.1 F.2.2.2.2.1 (F.2.2.2.2.2.2.1 _ wd_48_8) dX7_gain_32 ?_
      refine topK (a := (-2147483648)) (by decide) (fun k_20 hk_20 => ?_)
      exact txI F hS dX7_gain_35 rfl (⟨X0, ⟨hX0, hqX0⟩, A, hA, (wkb (eqb hk_20) rfl rfl), hH⟩)
    · skip
      have r_18 : 1 ≤ z_13.toInt ∧ z_13.toInt ≤ 1 := by have h9_ := f_14; omega
      have r_19 : 0 ≤ a2.toInt ∧ a2.toInt ≤ 9999 := by have h9_ := (i32b a2); omega
      refine lv_iload_n F.1 F.2.1 dX7_gain_20 rfl (lv_at hl 3 rfl) ?_
      refine tI2l F dX7_gain_21 (fun w_21 hw_21 => ?_)
      refine lv_lconst (v := 1) F.1 F.2.1 dX7_gain_22 (by decide) ?_
      refine topKL (a := 1) (by decide) (fun j_22 hj_22 => ?_)
      refine lv_ldc2 (own := RX7) (v := 360) F.1 F.2.1 F.2.2.2.2.1 (F.2.2.2.2.2.2.1 _ wd_47_21) dX7_gain_23 ?_
      refine topKL (a := 360) (by decide) (fun j_23 hj_23 => ?_)
      refine tSi (As := [.long w_21, .long j_22, .long j_23]) (rest := []) F hK hN hO (c_X7_in E (mD (.inl tp) (.inl sp) (.inl nu) (.inl un) (.inl (0, 18)) (.inl ((-2147483648), 2147483647)) (.inl wrb) (.inl nab) (.inl iwb)) (xD 660 X0) ws kp (xD 660 A) rd m_second ty ik w_21 j_22 j_23) ms_X7_in wd_8_10 ⟨Nat.le_of_ble_eq_true rfl, Nat.le_of_ble_eq_true rfl⟩ ⟨Nat.le_of_ble_eq_true rfl, Nat.le_of_ble_eq_true rfl⟩ hH hS rfl hl.1 (Nat.le_of_ble_eq_true rfl) dX7_gain_26 (fun z_24 H locs hq hS => ?_)
      obtain ⟨f_25, f_26, hH⟩ := hq
      have hH : TH E (tbM (mD (.inl tp) (.inl sp) (.inl nu) (.inl un) (.inl (0, 18)) (.inl ((-2147483648), 2147483647)) (.inl wrb) (.inl nab) (.inl iwb)) (xD 660 X0) ws kp (xD 660 A) rd m_second ty ik) H := hH
      refine z_ne (tgt := 36) F dX7_gain_29 (by decide) (fun c_27 => ?_) (fun c_27 => ?_)
      · skip
        have r_28 : 1 ≤ z_24.toInt ∧ z_24.toInt ≤ 1 := by have h9_ := f_25; omega
        have r_29 : 1 ≤ a3.toInt ∧ a3.toInt ≤ 360 := by have h9_ := (i32b a3); omega
        refine lv_aload_n F.1 F.2.1 dX7_gain_36 rfl (lv_at hl 0 rfl) ?_
        refine tVv (b := a0) (As := []) (rest := []) F hK hN hO (c_X7_putsAside E ws kp rd m_second ty ik un (0, 18) (((-2147483648), 2147483647)) tp sp wrb nu nab iwb X0 A Z a0 ha0 hX0 hqX0) mv_X7_putsAside wd_37_16 ⟨Nat.le_of_ble_eq_true rfl, Nat.le_of_ble_eq_true rfl⟩ ⟨Nat.le_of_ble_eq_true rfl, Nat.le_of_ble_eq_true rfl⟩ hH hS (tRecv hK hH (tyb ha0 (all1 rfl)) clX7) rfl hl.1 (Nat.le_of_ble_eq_true rfl) dX7_gain_37 (fun H locs hq hS => ?_)
        obtain ⟨g_32, hg_32, hH⟩ := hq
        have hH : TH E (tbM (mD (.inl tp) (.inl sp) (.inl nu) (.inl un) (.inl (0, 18)) (.inl ((-2147483648), 2147483647)) (.inl wrb) (.inl nab) (.inl iwb)) (xD 660 X0) ws kp (xD 660 g_32) rd m_second ty ik) H := hH
        have hqg_32 := hg_32.2
        have hBg_32 := okB hg_32.1.1
        have hLg_32 := hg_32.1.2
        refine lv_aload_n F.1 F.2.1 dX7_gain_40 rfl (lv_at hl 0 rfl) ?_
        refine lv_iload_n F.1 F.2.1 dX7_gain_41 rfl (lv_at hl 3 rfl) ?_
        refine lv_aload_n F.1 F.2.1 dX7_gain_42 rfl (lv_at hl 0 rfl) ?_
        refine tGetR (j := 27) F hK hH (tyb ha0 (all1 rfl)) rfl (all1 rfl) clX7 (by decide) wd_7_2 dX7_gain_43 (fun q_33 hq_33 _ => ?_)
        refine tVv (b := a0) (As := [.int a3, .ref q_33]) (rest := []) F hK hN hO (c_X7_ahead_n E ws kp rd ty ik un (((-2147483648), 2147483647)) tp sp wrb nu nab iwb X0 g_32 Z a0 a3 q_33 ha0 r_29 hq_33 hX0 hg_32.1 hqg_32 hqX0) mv_X7_ahead wd_37_20 ⟨Nat.le_of_ble_eq_true rfl, Nat.le_of_ble_eq_true rfl⟩ ⟨Nat.le_of_ble_eq_true rfl, Nat.le_of_ble_eq_true rfl⟩ hH hS (tRecv hK hH (tyb ha0 (all1 rfl)) clX7) rfl hl.1 (Nat.le_of_ble_eq_true rfl) dX7_gain_46 (fun H locs hq hS => ?_)
        obtain ⟨g_35, hg_35, hH⟩ := hq
        have hH : TH E (tbM (mD (.inl tp) (.inl sp) (.inl nu) (.inl un) (.inl (0, 18)) (.inl ((-2147483648), 2147483647)) (.inl wrb) (.inl nab) (.inl iwb)) (xD 660 g_35) ws kp (xD 660 g_32) rd m_second ty ik) H := hH
        have hqg_35 := hg_35.2
        have hBg_35 := okB hg_35.1.1
        have hLg_35 := hg_35.1.2
        refine lv_aload_n F.1 F.2.1 dX7_gain_49 rfl (lv_at hl 0 rfl) ?_
        refine lv_iload_n F.1 F.2.1 dX7_gain_50 rfl (lv_at hl 1 rfl) ?_
        refine tPut (j := 16) F hK hH hS (tyb ha0 (all1 rfl)) rfl (fdI (wkb r_8 rfl rfl)) clX7 (by decide) wd_6_20 rfl rfl rfl rfl dX7_gain_51 (fun H locs hH hS => ?_)
        refine lv_aload_n F.1 F.2.1 dX7_gain_54 rfl (lv_at hl 0 rfl) ?_
        refine lv_iload_n F.1 F.2.1 dX7_gain_55 rfl (lv_at hl 2 rfl) ?_
        refine tPut (j := 17) F hK hH hS (tyb ha0 (all1 rfl)) rfl (fdI (wkb r_19 rfl rfl)) clX7 (by decide) wd_28_6 rfl rfl rfl rfl dX7_gain_56 (fun H locs hH hS => ?_)
        refine lv_aload_n F.1 F.2.1 dX7_gain_59 rfl (lv_at hl 0 rfl) ?_
        refine lv_iload_n F.1 F.2.1 dX7_gain_60 rfl (lv_at hl 3 rfl) ?_
        refine lv_aload_n F.1 F.2.1 dX7_gain_61 rfl (lv_at hl 0 rfl) ?_
        refine tGetR (j := 28) F hK hH (tyb ha0 (all1 rfl)) rfl (all1 rfl) clX7 (by decide) wd_7_3 dX7_gain_62 (fun q_36 hq_36 _ => ?_)
        refine tVv (b := a0) (As := [.int a3, .ref q_36]) (rest := []) F hK hN hO (c_X7_ahead_t E ws kp rd ty ik un (((-2147483648), 2147483647)) tp sp wrb nu nab iwb g_35 g_32 Z a0 a3 q_36 ha0 r_29 hq_36 hg_35.1 hg_32.1 hqg_32 hqg_35) mv_X7_ahead wd_37_20 ⟨Nat.le_of_ble_eq_true rfl, Nat.le_of_ble_eq_true rfl⟩ ⟨Nat.le_of_ble_eq_true rfl, Nat.le_of_ble_eq_true rfl⟩ hH hS (tRecv hK hH (tyb ha0 (all1 rfl)) clX7) rfl hl.1 (Nat.le_of_ble_eq_true rfl) dX7_gain_65 (fun H locs hq hS => ?_)
        obtain ⟨g_38, hg_38, hH⟩ := hq
        have hH : TH E (tbM (mD (.inl tp) (.inl sp) (.inl nu) (.inl un) (.inl (0, 18)) (.inl ((-2147483648), 2147483647)) (.inl wrb) (.inl nab) (.inl iwb)) (xD 660 g_38) ws kp (xD 660 g_32) rd m_second ty ik) H := hH
        have hqg_38 := hg_38.2
        have hBg_38 := okB hg_38.1.1
        have hLg_38 := hg_38.1.2
        refine lv_aload_n F.1 F.2.1 dX7_gain_68 rfl (lv_at hl 0 rfl) ?_
        refine lv_iconst (v := (-1)) F.1 F.2.1 dX7_gain_69 (by decide) ?_
        refine topK (a := (-1)) (by decide) (fun k_39 hk_39 => ?_)
        refine tPut (j := 16) F hK hH hS (tyb ha0 (all1 rfl)) rfl (fdI (wkb (eqb hk_39) rfl rfl)) clX7 (by decide) wd_6_20 rfl rfl rfl rfl dX7_gain_70 (fun H locs hH hS => ?_)
        refine lv_aload_n F.1 F.2.1 dX7_gain_73 rfl (lv_at hl 0 rfl) ?_
        refine lv_iconst (v := 0) F.1 F.2.1 dX7_gain_74 (by decide) ?_
        refine topK (a := 0) (by decide) (fun k_40 hk_40 => ?_)
        refine tPut (j := 17) F hK hH hS (tyb ha0 (all1 rfl)) rfl (fdI (wkb (eqb hk_40) rfl rfl)) clX7 (by decide) wd_28_6 rfl rfl rfl rfl dX7_gain_75 (fun H locs hH hS => ?_)
        refine lv_aload_n F.1 F.2.1 dX7_gain_78 rfl (lv_at hl 0 rfl) ?_
        refine tGetR (j := 28) F hK hH (tyb ha0 (all1 rfl)) rfl (all1 rfl) clX7 (by decide) wd_7_3 dX7_gain_79 (fun q_41 hq_41 _ => ?_)
        refine tSi (As := [.ref q_41]) (rest := []) F hK hN hO (c_X7_sumOf_1 E (mD (.inl tp) (.inl sp) (.inl nu) (.inl un) (.inl (0, 18)) (.inl ((-2147483648), 2147483647)) (.inl wrb) (.inl nab) (.inl iwb)) (xD 660 g_38) ws kp (xD 660 g_32) rd m_second ty ik q_41 hq_41) ms_X7_sumOf wd_59_8 ⟨Nat.le_of_ble_eq_true rfl, Nat.le_of_ble_eq_true rfl⟩ ⟨Nat.le_of_ble_eq_true rfl, Nat.le_of_ble_eq_true rfl⟩ hH hS rfl hl.1 (Nat.le_of_ble_eq_true rfl) dX7_gain_82 (fun z_42 H locs hq hS => ?_)
        obtain ⟨f_43, hH⟩ := hq
        have hH : TH E (tbM (mD (.inl tp) (.inl sp) (.inl nu) (.inl un) (.inl (0, 18)) (.inl ((-2147483648), 2147483647)) (.inl wrb) (.inl nab) (.inl iwb)) (xD 660 g_38) ws kp (xD 660 g_32) rd m_second ty ik) H := hH
        refine lv_aload_n F.1 F.2.1 dX7_gain_85 rfl (lv_at hl 0 rfl) ?_
        refine tGetR (j := 27) F hK hH (tyb ha0 (all1 rfl)) rfl (all1 rfl) clX7 (by decide) wd_7_2 dX7_gain_86 (fun q_44 hq_44 _ => ?_)
        refine tSi (As := [.ref q_44]) (rest := [.int z_42]) F hK hN hO (c_X7_sumOf_2 E (mD (.inl tp) (.inl sp) (.inl nu) (.inl un) (.inl (0, 18)) (.inl ((-2147483648), 2147483647)) (.inl wrb) (.inl nab) (.inl iwb)) (xD 660 g_38) ws kp (xD 660 g_32) rd m_second ty ik q_44 hq_44) ms_X7_sumOf wd_59_8 ⟨Nat.le_of_ble_eq_true rfl, Nat.le_of_ble_eq_true rfl⟩ ⟨Nat.le_of_ble_eq_true rfl, Nat.le_of_ble_eq_true rfl⟩ hH hS rfl hl.1 (Nat.le_of_ble_eq_true rfl) dX7_gain_89 (fun z_45 H locs hq hS => ?_)
        obtain ⟨f_46, hH⟩ := hq
        have hH : TH E (tbM (mD (.inl tp) (.inl sp) (.inl nu) (.inl un) (.inl (0, 18)) (.inl ((-2147483648), 2147483647)) (.inl wrb) (.inl nab) (.inl iwb)) (xD 660 g_38) ws kp (xD 660 g_32) rd m_second ty ik) H := hH
        refine lv_isub F.1 F.2.1 dX7_gain_92 ?_
        refine topF (fun z_47 => ?_)
        exact txI F hS dX7_gain_93 rfl (⟨g_38, ⟨hg_38.1, hqg_38⟩, g_32, hg_32.1, (i32b _), hH⟩)
      · skip
        have r_30 : 0 ≤ z_24.toInt ∧ z_24.toInt ≤ 0 := by have h9_ := f_25; omega
        refine lv_ldcw (own := RX7) (v := (-2147483648)) F.1 F.2.1 F.2.2.2.2.1 (F.2.2.2.2.2.2.1 _ wd_48_8) dX7_gain_32 ?_
        refine topK (a := (-2147483648)) (by decide) (fun k_48 hk_48 => ?_)
        exact txI F hS dX7_gain_35 rfl (⟨X0, ⟨hX0, hqX0⟩, A, hA, (wkb (eqb hk_48) rfl rfl), hH⟩)
set_option maxHeartbeats 4000000 in
set_option maxRecDepth 100000 in
theorem c_X7_thirst (E : Ev) (ws : TD) (kp : TD) (as : TD) (rd : TD) (ty : TD) (ik : TD) (un : Int × Int) (tp : Int × Int) (sp : Int × Int) (wrb : Int × Int) (nu : Int × Int) (nab : Int × Int) (iwb : Int × Int) (X0 : Nat → Int32) (a0 : Nat) (a1 : Int32) (ha0 : eT E a0 ∈ [24]) (hX0 : okR X0) : TcI E yX7_thirst cX7_thirst 5 .int ({ frames := 8, cells := 0, slots := 0, locals := 201 }) [.ref a0, .int a1] (fun H => TH E (tbM (mD (.inl tp) (.inl sp) (.inl nu) (.inl un) (.inl (0, 18)) (.inl ((-2147483648), 2147483647)) (.inl wrb) (.inl nab) (.inl iwb)) (xD 660 X0) ws kp as rd m_second ty ik) H) (fun v H => ((-2147483648) ≤ v.toInt ∧ v.toInt ≤ 2147483647) ∧ TH E (tbM (mD (.inl tp) (.inl sp) (.inl nu) (.inl un) (.inl (0, 18)) (.inl ((-2147483648), 2147483647)) (.inl wrb) (.inl nab) (.inl iwb)) (xD 660 X0) ws kp as rd m_second ty ik) H) := by
  refine teI (by decide) (Nat.le_of_ble_eq_true rfl) ?_
  intro p_ ev_ s mi_ below_ meth cd_ ls F hK hN hO hH hS hl
  have hH : TH E (tbM (mD (.inl tp) (.inl sp) (.inl nu) (.inl un) (.inl (0, 18)) (.inl ((-2147483648), 2147483647)) (.inl wrb) (.inl nab) (.inl iwb)) (xD 660 X0) ws kp as rd m_second ty ik) s.heap := hH
  have hl : lv_has ls 5 [(0, .ref a0), (1, .int a1)] := hl
  have hBX0 := okB hX0.1
  have hLX0 := hX0.2
  refine lv_aload_n F.1 F.2.1 dX7_thirst_0 rfl (lv_at hl 0 rfl) ?_
  refine lv_iload_n F.1 F.2.1 dX7_thirst_1 rfl (lv_at hl 1 rfl) ?_
  refine tVi (b := a0) (As := [.int a1]) (rest := []) F hK hN hO (c_X7_isReach E ws kp as rd m_second ty ik un (0, 18) (((-2147483648), 2147483647)) tp sp wrb nu nab iwb X0 a0 a1 ha0 ((hX0).1)) mv_X7_isReach wd_37_8 ⟨Nat.le_of_ble_eq_true rfl, Nat.le_of_ble_eq_true rfl⟩ ⟨Nat.le_of_ble_eq_true rfl, Nat.le_of_ble_eq_true rfl⟩ hH hS (tRecv hK hH (tyb ha0 (all1 rfl)) clX7) rfl hl.1 (Nat.le_of_ble_eq_true rfl) dX7_thirst_2 (fun z_1 H locs hq hS => ?_)
  obtain ⟨f_2, f_3, f_4, hH⟩ := hq
  have hH : TH E (tbM (mD (.inl tp) (.inl sp) (.inl nu) (.inl un) (.inl (0, 18)) (.inl ((-2147483648), 2147483647)) (.inl wrb) (.inl nab) (.inl iwb)) (xD 660 X0) ws kp as rd m_second ty ik) H := hH
  refine z_ne (tgt := 10) F dX7_thirst_5 (by decide) (fun c_5 => ?_) (fun c_5 => ?_)
  · skip
    have r_6 : 1 ≤ z_1.toInt ∧ z_1.toInt ≤ 1 := by have h9_ := f_2; omega
    have r_7 : 0 ≤ a1.toInt ∧ a1.toInt ≤ 11 := by have h9_ := (i32b a1); omega
    refine lv_aload_n F.1 F.2.1 dX7_thirst_10 rfl (lv_at hl 0 rfl) ?_
    refine tVv (b := a0) (As := []) (rest := []) F hK hN hO (c_X7_works E ws kp as rd ty ik un (((-2147483648), 2147483647)) tp sp wrb nu nab iwb X0 a0 ha0 hX0) mv_X7_works wd_25_15 ⟨Nat.le_of_ble_eq_true rfl, Nat.le_of_ble_eq_true rfl⟩ ⟨Nat.le_of_ble_eq_true rfl, Nat.le_of_ble_eq_true rfl⟩ hH hS (tRecv hK hH (tyb ha0 (all1 rfl)) clX7) rfl hl.1 (Nat.le_of_ble_eq_true rfl) dX7_thirst_11 (fun H locs hq hS => ?_)
    have hH := hq
    have hH : TH E (tbM (mD (.inl tp) (.inl sp) (.inl nu) (.inl un) (.inl (0, 18)) (.inl ((-2147483648), 2147483647)) (.inl wrb) (.inl nab) (.inl iwb)) (xD 660 X0) ws kp as rd m_second ty ik) H := hH
    refine lv_aload_n F.1 F.2.1 dX7_thirst_14 rfl (lv_at hl 0 rfl) ?_
    refine tVi (b := a0) (As := []) (rest := []) F hK hN hO (c_X7_outOfAll E ws kp as rd m_second ty ik un (0, 18) (((-2147483648), 2147483647)) tp sp wrb nu nab iwb X0 a0 ha0 hX0) mv_X7_outOfAll wd_52_8 ⟨Nat.le_of_ble_eq_true rfl, Nat.le_of_ble_eq_true rfl⟩ ⟨Nat.le_of_ble_eq_true rfl, Nat.le_of_ble_eq_true rfl⟩ hH hS (tRecv hK hH (tyb ha0 (all1 rfl)) clX7) rfl hl.1 (Nat.le_of_ble_eq_true rfl) dX7_thirst_15 (fun z_10 H locs hq hS => ?_)
    obtain ⟨f_11, hH⟩ := hq
    have hH : TH E (tbM (mD (.inl tp) (.inl sp) (.inl nu) (.inl un) (.inl (0, 18)) (.inl ((-2147483648), 2147483647)) (.inl wrb) (.inl nab) (.inl iwb)) (xD 660 X0) ws kp as rd m_second ty ik) H := hH
    refine lv_istore_n (lv' := [(2, .int z_10), (0, .ref a0), (1, .int a1)]) F.1 F.2.1 dX7_thirst_18 rfl hl (by decide) rfl (fun ls hl => ?_)
    obtain ⟨g_12, hg_12, hH⟩ := TH.pinF (t := 24) (j := 17) hH rfl rfl ⟨a0, List.mem_singleton.mp ha0⟩ (by decide)
    have hH : TH E (tbM (mD (.inl tp) (.inl sp) (.inl nu) (.inl un) (.inl (0, 18)) (.inl (g_12, g_12)) (.inl wrb) (.inl nab) (.inl iwb)) (xD 660 X0) ws kp as rd m_second ty ik) H := hH
    refine lv_aload_n F.1 F.2.1 dX7_thirst_19 rfl (lv_at hl 1 rfl) ?_
    refine lv_iload_n F.1 F.2.1 dX7_thirst_20 rfl (lv_at hl 2 rfl) ?_
    refine tPut (j := 16) F hK hH hS (tyb ha0 (all1 rfl)) rfl (fdI (wkb r_7 rfl rfl)) clX7 (by decide) wd_6_20 rfl rfl rfl rfl dX7_thirst_21 (fun H locs hH hS => ?_)
    refine lv_iconst (v := 0) F.1 F.2.1 dX7_thirst_24 (by decide) ?_
    refine topK (a := 0) (by decide) (fun k_13 hk_13 => ?_)
    refine lv_istore_n (lv' := [(3, .int k_13), (2, .int z_10), (0, .ref a0), (1, .int a1)]) F.1 F.2.1 dX7_thirst_25 rfl hl (by decide) rfl (fun ls hl => ?_)
    refine lv_sipush (v := 9999) F.1 F.2.1 dX7_thirst_26 (by decide) ?_
    refine topK (a := 9999) (by decide) (fun k_14 hk_14 => ?_)
    refine lv_istore (lv' := [(4, .int k_14), (3, .int k_13), (2, .int z_10), (0, .ref a0), (1, .int a1)]) F.1 F.2.1 dX7_thirst_29 hl (by decide) rfl (fun ls hl => ?_)
    refine wloop (σ := Int32 × Int32 × Int) (fun n9 x9 H locs ls => (x9.2.1.toInt - x9.1.toInt).toNat < n9 ∧ (0 ≤ x9.1.toInt ∧ x9.1.toInt ≤ 9999) ∧ (0 ≤ x9.2.1.toInt ∧ x9.2.1.toInt ≤ 9999) ∧ ((-2147483648) ≤ x9.2.2 ∧ x9.2.2 ≤ 2147483647) ∧ (x9.1.toInt ≤ x9.2.1.toInt) ∧ TH E (tbM (mD (.inl tp) (.inl sp) (.inl nu) (.inl un) (.inl (0, 18)) (.inl (x9.2.2, x9.2.2)) (.inl wrb) (.inl nab) (.inl iwb)) (xD 660 X0) ws kp as rd m_second ty ik) H ∧ va_S (eA E s.heap.size) s.heap H locs ∧ lv_has ls 5 [(0, .ref a0), (2, .int z_10), (3, .int x9.1), (4, .int x9.2.1)]) ?_ (fun x9 H locs ls h => absurd h.1 (Nat.not_lt_zero _)) _ (k_13, k_14, g_12) ⟨Nat.lt_succ_self _, (wkb (eqb hk_13) rfl rfl), (wkb (eqb hk_14) rfl rfl), (show (-2147483648) ≤ g_12 ∧ g_12 ≤ 2147483647 from by omega), (show k_13.toInt ≤ k_14.toInt from by omega), hH, hS, lv_sub hl [3, 2, 1, 0] rfl⟩
    intro n_31 ih_31 ⟨u_15, u_16, g_17⟩ H locs ls ⟨hm_31, hu_15, hu_16, hg_17, hcr31_0, hH, hS, hl⟩
    have hm_31 : (u_16.toInt - u_15.toInt).toNat < n_31 + 1 := hm_31
    have hu_15 : (0 ≤ u_15.toInt ∧ u_15.toInt ≤ 9999) := hu_15
    have hu_16 : (0 ≤ u_16.toInt ∧ u_16.toInt ≤ 9999) := hu_16
    have hg_17 : ((-2147483648) ≤ g_17 ∧ g_17 ≤ 2147483647) := hg_17
    have hcr31_0 : (u_15.toInt ≤ u_16.toInt) := hcr31_0
    have hH : TH E (tbM (mD (.inl tp) (.inl sp) (.inl nu) (.inl un) (.inl (0, 18)) (.inl (g_17, g_17)) (.inl wrb) (.inl nab) (.inl iwb)) (xD 660 X0) ws kp as rd m_second ty ik) H := hH
    have hl : lv_has ls 5 [(0, .ref a0), (2, .int z_10), (3, .int u_15), (4, .int u_16)] := hl
    refine lv_iload_n F.1 F.2.1 dX7_thirst_31 rfl (lv_at hl 2 rfl) ?_
    refine lv_iload F.1 F.2.1 dX7_thirst_32 (lv_at hl 3 rfl) ?_
    refine b_ge (tgt := 76) F dX7_thirst_34 (by decide) (fun c_18 => ?_) (fun c_18 => ?_)
    · skip
      refine lv_aload_n F.1 F.2.1 dX7_thirst_76 rfl (lv_at hl 0 rfl) ?_
      refine lv_iconst (v := (-1)) F.1 F.2.1 dX7_thirst_77 (by decide) ?_
      refine topK (a := (-1)) (by decide) (fun k_21 hk_21 => ?_)
      refine tPut (j := 16) F hK hH hS (tyb ha0 (all1 rfl)) rfl (fdI (wkb (eqb hk_21) rfl rfl)) clX7 (by decide) wd_6_20 rfl rfl rfl rfl dX7_thirst_78 (fun H locs hH hS => ?_)
      refine lv_aload_n F.1 F.2.1 dX7_thirst_81 rfl (lv_at hl 0 rfl) ?_
      refine lv_iconst (v := 0) F.1 F.2.1 dX7_thirst_82 (by decide) ?_
      refine topK (a := 0) (by decide) (fun k_22 hk_22 => ?_)
      refine tPutG (j := 17) (t := 24) (fd := (.inl (0, 0))) F hK hH hS (List.mem_singleton.mp ha0) (by decide) rfl rfl (fdI (by omega)) (TB1 := (tbM (mD (.inl tp) (.inl sp) (.inl nu) (.inl un) (.inl (0, 18)) (.inl (0, 0)) (.inl wrb) (.inl nab) (.inl iwb)) (xD 660 X0) ws kp as rd m_second ty ik)) rfl clX7 (by decide) wd_28_6 rfl rfl rfl rfl dX7_thirst_83 (fun H locs hH hS => ?_)
      refine lv_iload_n F.1 F.2.1 dX7_thirst_86 rfl (lv_at hl 2 rfl) ?_
      exact txI F hS dX7_thirst_87 rfl (⟨(wkb hu_15 rfl rfl), (TH.loose (t := 24) (TB1 := (tbM (mD (.inl tp) (.inl sp) (.inl nu) (.inl un) (.inl (0, 18)) (.inl ((-2147483648), 2147483647)) (.inl wrb) (.inl nab) (.inl iwb)) (xD 660 X0) ws kp as rd m_second ty ik)) hH rfl (tcLoose (j := 17) rfl (by omega)) rfl)⟩)
    · skip
      have r_19 : 0 ≤ u_15.toInt ∧ u_15.toInt ≤ 9998 := by have h9_ := hu_15; omega
      have r_20 : 1 ≤ u_16.toInt ∧ u_16.toInt ≤ 9999 := by have h9_ := hu_16; omega
      refine lv_aload_n F.1 F.2.1 dX7_thirst_37 rfl (lv_at hl 0 rfl) ?_
      refine lv_iload_n F.1 F.2.1 dX7_thirst_38 rfl (lv_at hl 2 rfl) ?_
      refine lv_iload F.1 F.2.1 dX7_thirst_39 (lv_at hl 3 rfl) ?_
      refine tAdd (lo := 1) (hi := 19997) F dX7_thirst_41 r_19 r_20 rfl (fun z_23 hz_23 => ?_)
      refine lv_iconst (v := 1) F.1 F.2.1 dX7_thirst_42 (by decide) ?_
      refine topK (a := 1) (by decide) (fun k_24 hk_24 => ?_)
      refine tAdd (lo := 2) (hi := 19998) F dX7_thirst_43 hz_23.2 (eqb hk_24) rfl (fun z_25 hz_25 => ?_)
      refine lv_iconst (v := 2) F.1 F.2.1 dX7_thirst_44 (by decide) ?_
      refine topK (a := 2) (by decide) (fun k_26 hk_26 => ?_)
      refine tDiv (k := 2) (lo := 1) (hi := 9999) F dX7_thirst_45 hz_25.2 hk_26 rfl (fun z_27 hz_27 => ?_)
      obtain ⟨g_28, hg_28⟩ : ∃ y : Int, z_27.toInt = y := ⟨_, rfl⟩
      have bg_28 : 1 ≤ g_28 ∧ g_28 ≤ 9999 := by rw [← hg_28]; exact hz_27.2
      refine tPutG (j := 17) (t := 24) (fd := (.inl (g_28, g_28))) F hK hH hS (List.mem_singleton.mp ha0) (by decide) rfl rfl (fdI (by omega)) (TB1 := (tbM (mD (.inl tp) (.inl sp) (.inl nu) (.inl un) (.inl (0, 18)) (.inl (g_28, g_28)) (.inl wrb) (.inl nab) (.inl iwb)) (xD 660 X0) ws kp as rd m_second ty ik)) rfl clX7 (by decide) wd_28_6 rfl rfl rfl rfl dX7_thirst_46 (fun H locs hH hS => ?_)
      refine lv_aload_n F.1 F.2.1 dX7_thirst_49 rfl (lv_at hl 0 rfl) ?_
      refine tVi (b := a0) (As := []) (rest := []) F hK hN hO (c_X7_outOfAll E ws kp as rd m_second ty ik un (0, 18) (g_28, g_28) tp sp wrb nu nab iwb X0 a0 ha0 hX0) mv_X7_outOfAll wd_52_8 ⟨Nat.le_of_ble_eq_true rfl, Nat.le_of_ble_eq_true rfl⟩ ⟨Nat.le_of_ble_eq_true rfl, Nat.le_of_ble_eq_true rfl⟩ hH hS (tRecv hK hH (tyb ha0 (all1 rfl)) clX7) rfl hl.1 (Nat.le_of_ble_eq_true rfl) dX7_thirst_50 (fun z_29 H locs hq hS => ?_)
      obtain ⟨f_30, hH⟩ := hq
      have hH : TH E (tbM (mD (.inl tp) (.inl sp) (.inl nu) (.inl un) (.inl (0, 18)) (.inl (g_28, g_28)) (.inl wrb) (.inl nab) (.inl iwb)) (xD 660 X0) ws kp as rd m_second ty ik) H := hH
      refine lv_iload_n F.1 F.2.1 dX7_thirst_53 rfl (lv_at hl 1 rfl) ?_
      refine b_le (tgt := 68) F dX7_thirst_54 (by decide) (fun c_31 => ?_) (fun c_31 => ?_)
      · skip
        refine lv_aload_n F.1 F.2.1 dX7_thirst_68 rfl (lv_at hl 0 rfl) ?_
        refine tGetI (j := 17) F hK hH (tyb ha0 (all1 rfl)) rfl clX7 (by decide) wd_28_6 dX7_thirst_69 (fun z_32 hz_32 => ?_)
        have ez_32 : 1 ≤ z_32.toInt ∧ z_32.toInt ≤ 9999 := by omega
        refine lv_istore_n (lv' := [(3, .int z_32), (0, .ref a0), (2, .int z_10), (4, .int u_16)]) F.1 F.2.1 dX7_thirst_72 rfl hl (by decide) rfl (fun ls hl => ?_)
        refine lv_goto (tgt := 31) F.1 F.2.1 dX7_thirst_73 (by decide) ?_
        exact ih_31 (z_32, u_16, g_28) _ _ _ ⟨(show (u_16.toInt - z_32.toInt).toNat < n_31 from by omega), (wkb ez_32 rfl rfl), (wkb r_20 rfl rfl), (show (-2147483648) ≤ g_28 ∧ g_28 ≤ 2147483647 from by omega), (show z_32.toInt ≤ u_16.toInt from by omega), hH, hS, lv_sub hl [1, 2, 0, 3] rfl⟩
      · skip
        refine lv_aload_n F.1 F.2.1 dX7_thirst_57 rfl (lv_at hl 0 rfl) ?_
        refine tGetI (j := 17) F hK hH (tyb ha0 (all1 rfl)) rfl clX7 (by decide) wd_28_6 dX7_thirst_58 (fun z_33 hz_33 => ?_)
        have ez_33 : 1 ≤ z_33.toInt ∧ z_33.toInt ≤ 9999 := by omega
        refine lv_iconst (v := 1) F.1 F.2.1 dX7_thirst_61 (by decide) ?_
        refine topK (a := 1) (by decide) (fun k_34 hk_34 => ?_)
        refine tSub (lo := 0) (hi := 9998) F dX7_thirst_62 ez_33 (eqb hk_34) rfl (fun z_35 hz_35 => ?_)
        refine lv_istore (lv' := [(4, .int z_35), (0, .ref a0), (2, .int z_10), (3, .int u_15)]) F.1 F.2.1 dX7_thirst_63 hl (by decide) rfl (fun ls hl => ?_)
        refine lv_goto (tgt := 31) F.1 F.2.1 dX7_thirst_65 (by decide) ?_
        exact ih_31 (u_15, z_35, g_28) _ _ _ ⟨(show (z_35.toInt - u_15.toInt).toNat < n_31 from by omega), (wkb r_19 rfl rfl), (wkb hz_35.2 rfl rfl), (show (-2147483648) ≤ g_28 ∧ g_28 ≤ 2147483647 from by omega), (show u_15.toInt ≤ z_35.toInt from by omega), hH, hS, lv_sub hl [1, 2, 3, 0] rfl⟩
  · skip
    have r_8 : 0 ≤ z_1.toInt ∧ z_1.toInt ≤ 0 := by have h9_ := f_2; omega
    refine lv_iconst (v := (-1)) F.1 F.2.1 dX7_thirst_8 (by decide) ?_
    refine topK (a := (-1)) (by decide) (fun k_36 hk_36 => ?_)
    exact txI F hS dX7_thirst_9 rfl (⟨(wkb (eqb hk_36) rfl rfl), hH⟩)
set_option maxHeartbeats 4000000 in
set_option maxRecDepth 100000 in
theorem c_X7_needs (E : Ev) (ws : TD) (kp : TD) (as : TD) (rd : TD) (ty : TD) (ik : TD) (un : Int × Int) (xt : Int × Int) (tp : Int × Int) (sp : Int × Int) (wrb : Int × Int) (nu : Int × Int) (nab : Int × Int) (iwb : Int × Int) (X0 : Nat → Int32) (Z : Nat → Int32) (a0 : Nat) (a1 : Int32) (ha0 : eT E a0 ∈ [24]) (hX0 : okR X0) (hqX0 : sQ Z X0) : TcI E yX7_needs cX7_needs 5 .int ({ frames := 8, cells := 0, slots := 0, locals := 201 }) [.ref a0, .int a1] (fun H => TH E (tbM (mD (.inl tp) (.inl sp) (.inl nu) (.inl un) (.inl (0, 18)) (.inl xt) (.inl wrb) (.inl nab) (.inl iwb)) (xD 660 X0) ws kp as rd m_second ty ik) H) (fun v H => ∃ X2 : Nat → Int32, (okR X2 ∧ sQ Z X2) ∧ ((-2147483648) ≤ v.toInt ∧ v.toInt ≤ 2147483647) ∧ TH E (tbM (mD (.inl tp) (.inl sp) (.inl nu) (.inl un) (.inl (0, 18)) (.inl xt) (.inl wrb) (.inl nab) (.inl iwb)) (xD 660 X2) ws kp as rd m_second ty ik) H) := by
  refine teI (by decide) (Nat.le_of_ble_eq_true rfl) ?_
  intro p_ ev_ s mi_ below_ meth cd_ ls F hK hN hO hH hS hl
  have hH : TH E (tbM (mD (.inl tp) (.inl sp) (.inl nu) (.inl un) (.inl (0, 18)) (.inl xt) (.inl wrb) (.inl nab) (.inl iwb)) (xD 660 X0) ws kp as rd m_second ty ik) s.heap := hH
  have hl : lv_has ls 5 [(0, .ref a0), (1, .int a1)] := hl
  have hBX0 := okB hX0.1
  have hLX0 := hX0.2
  refine lv_aload_n F.1 F.2.1 dX7_needs_0 rfl (lv_at hl 0 rfl) ?_
  refine lv_iload_n F.1 F.2.1 dX7_needs_1 rfl (lv_at hl 1 rfl) ?_
  refine tVi (b := a0) (As := [.int a1]) (rest := []) F hK hN hO (c_X7_isRight E ws kp as rd m_second ty ik un (0, 18) xt tp sp wrb nu nab iwb X0 a0 a1 ha0 ((hX0).1)) mv_X7_isRight wd_31_18 ⟨Nat.le_of_ble_eq_true rfl, Nat.le_of_ble_eq_true rfl⟩ ⟨Nat.le_of_ble_eq_true rfl, Nat.le_of_ble_eq_true rfl⟩ hH hS (tRecv hK hH (tyb ha0 (all1 rfl)) clX7) rfl hl.1 (Nat.le_of_ble_eq_true rfl) dX7_needs_2 (fun z_1 H locs hq hS => ?_)
  obtain ⟨f_2, f_3, f_4, hH⟩ := hq
  have hH : TH E (tbM (mD (.inl tp) (.inl sp) (.inl nu) (.inl un) (.inl (0, 18)) (.inl xt) (.inl wrb) (.inl nab) (.inl iwb)) (xD 660 X0) ws kp as rd m_second ty ik) H := hH
  refine z_ne (tgt := 10) F dX7_needs_5 (by decide) (fun c_5 => ?_) (fun c_5 => ?_)
  · skip
    have r_6 : 1 ≤ z_1.toInt ∧ z_1.toInt ≤ 1 := by have h9_ := f_2; omega
    have r_7 : 0 ≤ a1.toInt ∧ a1.toInt ≤ 13 := by have h9_ := (i32b a1); omega
    refine lv_aload_n F.1 F.2.1 dX7_needs_10 rfl (lv_at hl 0 rfl) ?_
    refine tGetR (j := 0) F hK hH (tyb ha0 (all1 rfl)) rfl (all1 rfl) clX7 (by decide) wd_6_5 dX7_needs_11 (fun q_9 hq_9 _ => ?_)
    refine lv_iconst (v := 4) F.1 F.2.1 dX7_needs_14 (by decide) ?_
    refine topK (a := 4) (by decide) (fun k_10 hk_10 => ?_)
    refine tIaldX F hK hH (tyb hq_9 (all1 rfl)) (ixb (n := 660) (eqb hk_10) rfl rfl) dX7_needs_15 (fun z_11 ez_11 => ?_)
    refine lv_istore_n (lv' := [(2, .int z_11), (0, .ref a0), (1, .int a1)]) F.1 F.2.1 dX7_needs_16 rfl hl (by decide) rfl (fun ls hl => ?_)
    refine lv_bipush (v := (-2)) F.1 F.2.1 dX7_needs_17 (by decide) ?_
    refine topK (a := (-2)) (by decide) (fun k_12 hk_12 => ?_)
    refine lv_istore_n (lv' := [(3, .int k_12), (2, .int z_11), (0, .ref a0), (1, .int a1)]) F.1 F.2.1 dX7_needs_19 rfl hl (by decide) rfl (fun ls hl => ?_)
    refine lv_iconst (v := 0) F.1 F.2.1 dX7_needs_20 (by decide) ?_
    refine topK (a := 0) (by decide) (fun k_13 hk_13 => ?_)
    refine lv_istore (lv' := [(4, .int k_13), (3, .int k_12), (2, .int z_11), (0, .ref a0), (1, .int a1)]) F.1 F.2.1 dX7_needs_21 hl (by decide) rfl (fun ls hl => ?_)
    refine wloop (σ := Int32 × Int32 × (Nat → Int32)) (fun n9 x9 H locs ls => (401 - x9.2.1.toInt + 1).toNat < n9 ∧ ((-2) ≤ x9.1.toInt ∧ x9.1.toInt ≤ 400) ∧ (0 ≤ x9.2.1.toInt ∧ x9.2.1.toInt ≤ 401) ∧ (okR x9.2.2) ∧ (sQ Z x9.2.2) ∧ TH E (tbM (mD (.inl tp) (.inl sp) (.inl nu) (.inl un) (.inl (0, 18)) (.inl xt) (.inl wrb) (.inl nab) (.inl iwb)) (xD 660 x9.2.2) ws kp as rd m_second ty ik) H ∧ va_S (eA E s.heap.size) s.heap H locs ∧ lv_has ls 5 [(0, .ref a0), (1, .int a1), (2, .int z_11), (3, .int x9.1), (4, .int x9.2.1)]) ?_ (fun x9 H locs ls h => absurd h.1 (Nat.not_lt_zero _)) _ (k_12, k_13, X0) ⟨Nat.lt_succ_self _, (wkb (eqb hk_12) rfl rfl), (wkb (eqb hk_13) rfl rfl), hX0, (show sQ Z X0 from hqX0), hH, hS, lv_sub hl [3, 4, 2, 1, 0] rfl⟩
    intro n_23 ih_23 ⟨u_14, u_15, G_16⟩ H locs ls ⟨hm_23, hu_14, hu_15, hG_16, hcr23_0, hH, hS, hl⟩
    have hm_23 : (401 - u_15.toInt + 1).toNat < n_23 + 1 := hm_23
    have hu_14 : ((-2) ≤ u_14.toInt ∧ u_14.toInt ≤ 400) := hu_14
    have hu_15 : (0 ≤ u_15.toInt ∧ u_15.toInt ≤ 401) := hu_15
    have hG_16 : (okR G_16) := hG_16
    have hcr23_0 : (sQ Z G_16) := hcr23_0
    have hH : TH E (tbM (mD (.inl tp) (.inl sp) (.inl nu) (.inl un) (.inl (0, 18)) (.inl xt) (.inl wrb) (.inl nab) (.inl iwb)) (xD 660 G_16) ws kp as rd m_second ty ik) H := hH
    have hl : lv_has ls 5 [(0, .ref a0), (1, .int a1), (2, .int z_11), (3, .int u_14), (4, .int u_15)] := hl
    have hBG_16 := okB hG_16.1
    have hLG_16 := hG_16.2
    have hqG_16 := hcr23_0
    refine lv_iload F.1 F.2.1 dX7_needs_23 (lv_at hl 4 rfl) ?_
    refine lv_sipush (v := 400) F.1 F.2.1 dX7_needs_25 (by decide) ?_
    refine topK (a := 400) (by decide) (fun k_17 hk_17 => ?_)
    refine wjoin (σ := Unit) (pcj := 66) (stj := fun x9 => []) (fun x9 H locs ls => TH E (tbM (mD (.inl tp) (.inl sp) (.inl nu) (.inl un) (.inl (0, 18)) (.inl xt) (.inl wrb) (.inl nab) (.inl iwb)) (xD 660 G_16) ws kp as rd m_second ty ik) H ∧ va_S (eA E s.heap.size) s.heap H locs ∧ lv_has ls 5 [(0, .ref a0), (2, .int z_11), (3, .int u_14)]) (fun x9 H locs ls h_ => ?_) (fun J_66 => ?_)
    · skip
      obtain ⟨hH, hS, hl⟩ := h_
      have hH : TH E (tbM (mD (.inl tp) (.inl sp) (.inl nu) (.inl un) (.inl (0, 18)) (.inl xt) (.inl wrb) (.inl nab) (.inl iwb)) (xD 660 G_16) ws kp as rd m_second ty ik) H := hH
      have hl : lv_has ls 5 [(0, .ref a0), (2, .int z_11), (3, .int u_14)] := hl
      show W _ _ _ _ _ _ _ _ _ _ _ _ _ _ _ (F0 _ _ _ [])
      refine lv_aload_n F.1 F.2.1 dX7_needs_66 rfl (lv_at hl 0 rfl) ?_
      refine tGetR (j := 0) F hK hH (tyb ha0 (all1 rfl)) rfl (all1 rfl) clX7 (by decide) wd_6_5 dX7_needs_67 (fun q_18 hq_18 _ => ?_)
      refine lv_iconst (v := 4) F.1 F.2.1 dX7_needs_70 (by decide) ?_
      refine topK (a := 4) (by decide) (fun k_19 hk_19 => ?_)
      refine lv_iload_n F.1 F.2.1 dX7_needs_71 rfl (lv_at hl 1 rfl) ?_
      refine tIastX (t := 25) F hK hH hS (List.mem_singleton.mp hq_18) (by decide) rfl (ixb (n := 660) (eqb hk_19) rfl rfl) dX7_needs_72 (fun G_20 eG_20 H locs hH hS => ?_)
      have hH : TH E (tbM (mD (.inl tp) (.inl sp) (.inl nu) (.inl un) (.inl (0, 18)) (.inl xt) (.inl wrb) (.inl nab) (.inl iwb)) (xD 660 G_20) ws kp as rd m_second ty ik) H := hH
      have hG_20 : okR G_20 := (okR.st hG_16 eG_20 (by omega) (by omega) (by omega) (phiI (by omega) (by omega) (by omega) (by omega) (by omega) (by omega) (by omega) (by omega) (by omega) (by omega) (by omega) (by omega) (by omega) (by omega) (by omega) (by omega) (by omega) (by omega)))
      have hBG_20 := okB hG_20.1
      have hLG_20 := hG_20.2
      have hqG_20 : sQ Z G_20 := sQ.st hqG_16 eG_20 (by omega)
      refine lv_iload_n F.1 F.2.1 dX7_needs_73 rfl (lv_at hl 2 rfl) ?_
      exact txI F hS dX7_needs_74 rfl (⟨G_20, ⟨hG_20, hqG_20⟩, (wkb hu_14 rfl rfl), hH⟩)
    refine b_gt (tgt := 66) F dX7_needs_28 (by decide) (fun c_21 => ?_) (fun c_21 => ?_)
    · skip
      have r_22 : 401 ≤ u_15.toInt ∧ u_15.toInt ≤ 401 := by have h9_ := hu_15; omega
      exact J_66 () _ _ _ ⟨hH, hS, lv_sub hl [0, 2, 3] rfl⟩
    · skip
      have r_23 : 0 ≤ u_15.toInt ∧ u_15.toInt ≤ 400 := by have h9_ := hu_15; omega
      refine lv_iload_n F.1 F.2.1 dX7_needs_31 rfl (lv_at hl 3 rfl) ?_
      refine lv_bipush (v := (-2)) F.1 F.2.1 dX7_needs_32 (by decide) ?_
      refine topK (a := (-2)) (by decide) (fun k_24 hk_24 => ?_)
      refine b_ne (tgt := 66) F dX7_needs_34 (by decide) (fun c_25 => ?_) (fun c_25 => ?_)
      · skip
        have r_26 : (-1) ≤ u_14.toInt ∧ u_14.toInt ≤ 400 := by have h9_ := hu_14; omega
        exact J_66 () _ _ _ ⟨hH, hS, lv_sub hl [0, 2, 3] rfl⟩
      · skip
        have r_27 : (-2) ≤ u_14.toInt ∧ u_14.toInt ≤ (-2) := by have h9_ := hu_14; omega
        refine lv_aload_n F.1 F.2.1 dX7_needs_37 rfl (lv_at hl 0 rfl) ?_
        refine tGetR (j := 0) F hK hH (tyb ha0 (all1 rfl)) rfl (all1 rfl) clX7 (by decide) wd_6_5 dX7_needs_38 (fun q_28 hq_28 _ => ?_)
        refine lv_iconst (v := 4) F.1 F.2.1 dX7_needs_41 (by decide) ?_
        refine topK (a := 4) (by decide) (fun k_29 hk_29 => ?_)
        refine lv_iload F.1 F.2.1 dX7_needs_42 (lv_at hl 4 rfl) ?_
        refine tIastX (t := 25) F hK hH hS (List.mem_singleton.mp hq_28) (by decide) rfl (ixb (n := 660) (eqb hk_29) rfl rfl) dX7_needs_44 (fun G_30 eG_30 H locs hH hS => ?_)
        have hH : TH E (tbM (mD (.inl tp) (.inl sp) (.inl nu) (.inl un) (.inl (0, 18)) (.inl xt) (.inl wrb) (.inl nab) (.inl iwb)) (xD 660 G_30) ws kp as rd m_second ty ik) H := hH
        have hG_30 : okR G_30 := (okR.st hG_16 eG_30 (by omega) (by omega) (by omega) (phiI (by omega) (by omega) (by omega) (by omega) (by omega) (by omega) (by omega) (by omega) (by omega) (by omega) (by omega) (by omega) (by omega) (by omega) (by omega) (by omega) (by omega) (by omega)))
        have hBG_30 := okB hG_30.1
        have hLG_30 := hG_30.2
        have hqG_30 : sQ Z G_30 := sQ.st hqG_16 eG_30 (by omega)
        refine lv_aload_n F.1 F.2.1 dX7_needs_45 rfl (lv_at hl 0 rfl) ?_
        refine tVv (b := a0) (As := []) (rest := []) F hK hN hO (c_X7_works E ws kp as rd ty ik un xt tp sp wrb nu nab iwb G_30 a0 ha0 hG_30) mv_X7_works wd_25_15 ⟨Nat.le_of_ble_eq_true rfl, Nat.le_of_ble_eq_true rfl⟩ ⟨Nat.le_of_ble_eq_true rfl, Nat.le_of_ble_eq_true rfl⟩ hH hS (tRecv hK hH (tyb ha0 (all1 rfl)) clX7) rfl hl.1 (Nat.le_of_ble_eq_true rfl) dX7_needs_46 (fun H locs hq hS => ?_)
        have hH := hq
        have hH : TH E (tbM (mD (.inl tp) (.inl sp) (.inl nu) (.inl un) (.inl (0, 18)) (.inl xt) (.inl wrb) (.inl nab) (.inl iwb)) (xD 660 G_30) ws kp as rd m_second ty ik) H := hH
        refine lv_aload_n F.1 F.2.1 dX7_needs_49 rfl (lv_at hl 0 rfl) ?_
        refine lv_iload_n F.1 F.2.1 dX7_needs_50 rfl (lv_at hl 1 rfl) ?_
        refine tVi (b := a0) (As := [.int a1]) (rest := []) F hK hN hO (c_X7_isShort E ws kp as rd ty ik un (0, 18) xt tp sp wrb nu nab iwb G_30 a0 a1 ha0 r_7 hG_30) mv_X7_isShort wd_30_2 ⟨Nat.le_of_ble_eq_true rfl, Nat.le_of_ble_eq_true rfl⟩ ⟨Nat.le_of_ble_eq_true rfl, Nat.le_of_ble_eq_true rfl⟩ hH hS (tRecv hK hH (tyb ha0 (all1 rfl)) clX7) rfl hl.1 (Nat.le_of_ble_eq_true rfl) dX7_needs_51 (fun z_32 H locs hq hS => ?_)
        obtain ⟨f_33, hH⟩ := hq
        have hH : TH E (tbM (mD (.inl tp) (.inl sp) (.inl nu) (.inl un) (.inl (0, 18)) (.inl xt) (.inl wrb) (.inl nab) (.inl iwb)) (xD 660 G_30) ws kp as rd m_second ty ik) H := hH
        refine z_ne (tgt := 60) F dX7_needs_54 (by decide) (fun c_34 => ?_) (fun c_34 => ?_)
        · skip
          have r_35 : 1 ≤ z_32.toInt ∧ z_32.toInt ≤ 1 := by have h9_ := f_33; omega
          obtain ⟨x_37, ex_37, hx_37⟩ := iincB (c := 1) (lo := 1) (hi := 401) r_23 rfl
          refine lv_iinc (v := x_37) (lv' := [(4, .int x_37), (0, .ref a0), (1, .int a1), (2, .int z_11), (3, .int u_14)]) F.1 F.2.1 dX7_needs_60 hl (k := 4) rfl ex_37 (by decide) rfl (fun ls hl => ?_)
          refine lv_goto (tgt := 23) F.1 F.2.1 dX7_needs_63 (by decide) ?_
          exact ih_23 (u_14, x_37, G_30) _ _ _ ⟨(show (401 - x_37.toInt + 1).toNat < n_23 from by omega), (wkb r_27 rfl rfl), (wkb hx_37.2 rfl rfl), hG_30, (show sQ Z G_30 from hqG_30), hH, hS, lv_sub hl [1, 2, 3, 4, 0] rfl⟩
        · skip
          have r_36 : 0 ≤ z_32.toInt ∧ z_32.toInt ≤ 0 := by have h9_ := f_33; omega
          refine lv_iload F.1 F.2.1 dX7_needs_57 (lv_at hl 4 rfl) ?_
          refine lv_istore_n (lv' := [(3, .int u_15), (0, .ref a0), (1, .int a1), (2, .int z_11), (4, .int u_15)]) F.1 F.2.1 dX7_needs_59 rfl hl (by decide) rfl (fun ls hl => ?_)
          obtain ⟨x_38, ex_38, hx_38⟩ := iincB (c := 1) (lo := 1) (hi := 401) r_23 rfl
          refine lv_iinc (v := x_38) (lv' := [(4, .int x_38), (3, .int u_15), (0, .ref a0), (1, .int a1), (2, .int z_11)]) F.1 F.2.1 dX7_needs_60 hl (k := 4) rfl ex_38 (by decide) rfl (fun ls hl => ?_)
          refine lv_goto (tgt := 23) F.1 F.2.1 dX7_needs_63 (by decide) ?_
          exact ih_23 (u_15, x_38, G_30) _ _ _ ⟨(show (401 - x_38.toInt + 1).toNat < n_23 from by omega), (wkb r_23 rfl rfl), (wkb hx_38.2 rfl rfl), hG_30, (show sQ Z G_30 from hqG_30), hH, hS, lv_sub hl [2, 3, 4, 1, 0] rfl⟩
  · skip
    have r_8 : 0 ≤ z_1.toInt ∧ z_1.toInt ≤ 0 := by have h9_ := f_2; omega
    refine lv_iconst (v := (-1)) F.1 F.2.1 dX7_needs_8 (by decide) ?_
    refine topK (a := (-1)) (by decide) (fun k_39 hk_39 => ?_)
    exact txI F hS dX7_needs_9 rfl (⟨X0, ⟨hX0, hqX0⟩, (wkb (eqb hk_39) rfl rfl), hH⟩)
