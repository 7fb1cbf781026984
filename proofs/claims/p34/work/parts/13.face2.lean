theorem dX6_move_0 : decode cX6_move 0 = .ok (.aload_n 0, 1) := by decide +kernel
theorem dX6_move_1 : decode cX6_move 1 = .ok (.iload_n 1, 1) := by decide +kernel
theorem dX6_move_2 : decode cX6_move 2 = .ok (.invokevirtual 117, 3) := by decide +kernel
theorem dX6_move_5 : decode cX6_move 5 = .ok (.ifCond .eq 11, 3) := by decide +kernel
theorem dX6_move_8 : decode cX6_move 8 = .ok (.aload_n 0, 1) := by decide +kernel
theorem dX6_move_9 : decode cX6_move 9 = .ok (.iload_n 2, 1) := by decide +kernel
theorem dX6_move_10 : decode cX6_move 10 = .ok (.invokevirtual 156, 3) := by decide +kernel
theorem dX6_move_13 : decode cX6_move 13 = .ok (.ifCond .ne 5, 3) := by decide +kernel
theorem dX6_move_16 : decode cX6_move 16 = .ok (.iconst (-1), 1) := by decide +kernel
theorem dX6_move_17 : decode cX6_move 17 = .ok (.ireturn, 1) := by decide +kernel
theorem dX6_move_18 : decode cX6_move 18 = .ok (.aload_n 0, 1) := by decide +kernel
theorem dX6_move_19 : decode cX6_move 19 = .ok (.getfield 26, 3) := by decide +kernel
theorem dX6_move_22 : decode cX6_move 22 = .ok (.getfield 139, 3) := by decide +kernel
theorem dX6_move_25 : decode cX6_move 25 = .ok (.iload_n 1, 1) := by decide +kernel
theorem dX6_move_26 : decode cX6_move 26 = .ok (.iaload, 1) := by decide +kernel
theorem dX6_move_27 : decode cX6_move 27 = .ok (.iload_n 2, 1) := by decide +kernel
theorem dX6_move_28 : decode cX6_move 28 = .ok (.if_icmp .ne 6, 3) := by decide +kernel
theorem dX6_move_31 : decode cX6_move 31 = .ok (.bipush (-2), 2) := by decide +kernel
theorem dX6_move_33 : decode cX6_move 33 = .ok (.ireturn, 1) := by decide +kernel
theorem dX6_move_34 : decode cX6_move 34 = .ok (.aload_n 0, 1) := by decide +kernel
theorem dX6_move_35 : decode cX6_move 35 = .ok (.invokevirtual 159, 3) := by decide +kernel
theorem dX6_move_38 : decode cX6_move 38 = .ok (.aload_n 0, 1) := by decide +kernel
theorem dX6_move_39 : decode cX6_move 39 = .ok (.iload_n 1, 1) := by decide +kernel
theorem dX6_move_40 : decode cX6_move 40 = .ok (.iload_n 2, 1) := by decide +kernel
theorem dX6_move_41 : decode cX6_move 41 = .ok (.invokevirtual 162, 3) := by decide +kernel
theorem dX6_move_44 : decode cX6_move 44 = .ok (.ifCond .eq 6, 3) := by decide +kernel
theorem dX6_move_47 : decode cX6_move 47 = .ok (.bipush (-3), 2) := by decide +kernel
theorem dX6_move_49 : decode cX6_move 49 = .ok (.ireturn, 1) := by decide +kernel
theorem dX6_move_50 : decode cX6_move 50 = .ok (.aload_n 0, 1) := by decide +kernel
theorem dX6_move_51 : decode cX6_move 51 = .ok (.invokevirtual 99, 3) := by decide +kernel
theorem dX6_move_54 : decode cX6_move 54 = .ok (.aload_n 0, 1) := by decide +kernel
theorem dX6_move_55 : decode cX6_move 55 = .ok (.getfield 26, 3) := by decide +kernel
theorem dX6_move_58 : decode cX6_move 58 = .ok (.getfield 139, 3) := by decide +kernel
theorem dX6_move_61 : decode cX6_move 61 = .ok (.iload_n 1, 1) := by decide +kernel
theorem dX6_move_62 : decode cX6_move 62 = .ok (.iload_n 2, 1) := by decide +kernel
theorem dX6_move_63 : decode cX6_move 63 = .ok (.iastore, 1) := by decide +kernel
theorem dX6_move_64 : decode cX6_move 64 = .ok (.iconst 1, 1) := by decide +kernel
theorem dX6_move_65 : decode cX6_move 65 = .ok (.ireturn, 1) := by decide +kernel
theorem dX6_undo_0 : decode cX6_undo 0 = .ok (.aload_n 0, 1) := by decide +kernel
theorem dX6_undo_1 : decode cX6_undo 1 = .ok (.getfield 93, 3) := by decide +kernel
theorem dX6_undo_4 : decode cX6_undo 4 = .ok (.ifCond .gt 5, 3) := by decide +kernel
theorem dX6_undo_7 : decode cX6_undo 7 = .ok (.iconst (-1), 1) := by decide +kernel
theorem dX6_undo_8 : decode cX6_undo 8 = .ok (.ireturn, 1) := by decide +kernel
theorem dX6_undo_9 : decode cX6_undo 9 = .ok (.aload_n 0, 1) := by decide +kernel
theorem dX6_undo_10 : decode cX6_undo 10 = .ok (.aload_n 0, 1) := by decide +kernel
theorem dX6_undo_11 : decode cX6_undo 11 = .ok (.getfield 165, 3) := by decide +kernel
theorem dX6_undo_14 : decode cX6_undo 14 = .ok (.bipush 10, 2) := by decide +kernel
theorem dX6_undo_16 : decode cX6_undo 16 = .ok (.iadd, 1) := by decide +kernel
theorem dX6_undo_17 : decode cX6_undo 17 = .ok (.iconst 1, 1) := by decide +kernel
theorem dX6_undo_18 : decode cX6_undo 18 = .ok (.isub, 1) := by decide +kernel
theorem dX6_undo_19 : decode cX6_undo 19 = .ok (.bipush 10, 2) := by decide +kernel
theorem dX6_undo_21 : decode cX6_undo 21 = .ok (.irem, 1) := by decide +kernel
theorem dX6_undo_22 : decode cX6_undo 22 = .ok (.putfield 165, 3) := by decide +kernel
theorem dX6_undo_25 : decode cX6_undo 25 = .ok (.aload_n 0, 1) := by decide +kernel
theorem dX6_undo_26 : decode cX6_undo 26 = .ok (.getfield 26, 3) := by decide +kernel
theorem dX6_undo_29 : decode cX6_undo 29 = .ok (.aload_n 0, 1) := by decide +kernel
theorem dX6_undo_30 : decode cX6_undo 30 = .ok (.getfield 30, 3) := by decide +kernel
theorem dX6_undo_33 : decode cX6_undo 33 = .ok (.aload_n 0, 1) := by decide +kernel
theorem dX6_undo_34 : decode cX6_undo 34 = .ok (.getfield 165, 3) := by decide +kernel
theorem dX6_undo_37 : decode cX6_undo 37 = .ok (.aaload, 1) := by decide +kernel
theorem dX6_undo_38 : decode cX6_undo 38 = .ok (.invokevirtual 168, 3) := by decide +kernel
theorem dX6_undo_41 : decode cX6_undo 41 = .ok (.aload_n 0, 1) := by decide +kernel
theorem dX6_undo_42 : decode cX6_undo 42 = .ok (.dup, 1) := by decide +kernel
theorem dX6_undo_43 : decode cX6_undo 43 = .ok (.getfield 93, 3) := by decide +kernel
theorem dX6_undo_46 : decode cX6_undo 46 = .ok (.iconst 1, 1) := by decide +kernel
theorem dX6_undo_47 : decode cX6_undo 47 = .ok (.isub, 1) := by decide +kernel
theorem dX6_undo_48 : decode cX6_undo 48 = .ok (.putfield 93, 3) := by decide +kernel
theorem dX6_undo_51 : decode cX6_undo 51 = .ok (.aload_n 0, 1) := by decide +kernel
theorem dX6_undo_52 : decode cX6_undo 52 = .ok (.getfield 93, 3) := by decide +kernel
theorem dX6_undo_55 : decode cX6_undo 55 = .ok (.ireturn, 1) := by decide +kernel
theorem dX6_reach_0 : decode cX6_reach 0 = .ok (.aload_n 0, 1) := by decide +kernel
theorem dX6_reach_1 : decode cX6_reach 1 = .ok (.iload_n 1, 1) := by decide +kernel
theorem dX6_reach_2 : decode cX6_reach 2 = .ok (.invokevirtual 156, 3) := by decide +kernel
theorem dX6_reach_5 : decode cX6_reach 5 = .ok (.ifCond .ne 5, 3) := by decide +kernel
theorem dX6_reach_8 : decode cX6_reach 8 = .ok (.iconst (-1), 1) := by decide +kernel
theorem dX6_reach_9 : decode cX6_reach 9 = .ok (.ireturn, 1) := by decide +kernel
theorem dX6_reach_10 : decode cX6_reach 10 = .ok (.iload_n 2, 1) := by decide +kernel
theorem dX6_reach_11 : decode cX6_reach 11 = .ok (.bipush 10, 2) := by decide +kernel
theorem dX6_reach_13 : decode cX6_reach 13 = .ok (.if_icmp .lt 26, 3) := by decide +kernel
theorem dX6_reach_16 : decode cX6_reach 16 = .ok (.iload_n 2, 1) := by decide +kernel
theorem dX6_reach_17 : decode cX6_reach 17 = .ok (.bipush 14, 2) := by decide +kernel
theorem dX6_reach_19 : decode cX6_reach 19 = .ok (.if_icmp .ge 20, 3) := by decide +kernel
theorem dX6_reach_22 : decode cX6_reach 22 = .ok (.aload_n 0, 1) := by decide +kernel
theorem dX6_reach_23 : decode cX6_reach 23 = .ok (.getfield 16, 3) := by decide +kernel
theorem dX6_reach_26 : decode cX6_reach 26 = .ok (.getfield 183, 3) := by decide +kernel
theorem dX6_reach_29 : decode cX6_reach 29 = .ok (.iload_n 1, 1) := by decide +kernel
theorem dX6_reach_30 : decode cX6_reach 30 = .ok (.iconst 4, 1) := by decide +kernel
theorem dX6_reach_31 : decode cX6_reach 31 = .ok (.imul, 1) := by decide +kernel
theorem dX6_reach_32 : decode cX6_reach 32 = .ok (.iload_n 2, 1) := by decide +kernel
theorem dX6_reach_33 : decode cX6_reach 33 = .ok (.iadd, 1) := by decide +kernel
theorem dX6_reach_34 : decode cX6_reach 34 = .ok (.bipush 10, 2) := by decide +kernel
theorem dX6_reach_36 : decode cX6_reach 36 = .ok (.isub, 1) := by decide +kernel
theorem dX6_reach_37 : decode cX6_reach 37 = .ok (.iaload, 1) := by decide +kernel
theorem dX6_reach_38 : decode cX6_reach 38 = .ok (.ireturn, 1) := by decide +kernel
theorem dX6_reach_39 : decode cX6_reach 39 = .ok (.iload_n 2, 1) := by decide +kernel
theorem dX6_reach_40 : decode cX6_reach 40 = .ok (.tableswitch 70 0 3 #[32, 42, 52, 61], 32) := by decide +kernel
theorem dX6_reach_72 : decode cX6_reach 72 = .ok (.aload_n 0, 1) := by decide +kernel
theorem dX6_reach_73 : decode cX6_reach 73 = .ok (.getfield 16, 3) := by decide +kernel
theorem dX6_reach_76 : decode cX6_reach 76 = .ok (.getfield 186, 3) := by decide +kernel
theorem dX6_reach_79 : decode cX6_reach 79 = .ok (.iload_n 1, 1) := by decide +kernel
theorem dX6_reach_80 : decode cX6_reach 80 = .ok (.iaload, 1) := by decide +kernel
theorem dX6_reach_81 : decode cX6_reach 81 = .ok (.ireturn, 1) := by decide +kernel
theorem dX6_reach_82 : decode cX6_reach 82 = .ok (.aload_n 0, 1) := by decide +kernel
theorem dX6_reach_83 : decode cX6_reach 83 = .ok (.getfield 16, 3) := by decide +kernel
theorem dX6_reach_86 : decode cX6_reach 86 = .ok (.getfield 189, 3) := by decide +kernel
theorem dX6_reach_89 : decode cX6_reach 89 = .ok (.iload_n 1, 1) := by decide +kernel
theorem dX6_reach_90 : decode cX6_reach 90 = .ok (.iaload, 1) := by decide +kernel
theorem dX6_reach_91 : decode cX6_reach 91 = .ok (.ireturn, 1) := by decide +kernel
theorem dX6_reach_92 : decode cX6_reach 92 = .ok (.aload_n 0, 1) := by decide +kernel
theorem dX6_reach_93 : decode cX6_reach 93 = .ok (.getfield 16, 3) := by decide +kernel
theorem dX6_reach_96 : decode cX6_reach 96 = .ok (.iload_n 1, 1) := by decide +kernel
theorem dX6_reach_97 : decode cX6_reach 97 = .ok (.invokevirtual 192, 3) := by decide +kernel
theorem dX6_reach_100 : decode cX6_reach 100 = .ok (.ireturn, 1) := by decide +kernel
theorem dX6_reach_101 : decode cX6_reach 101 = .ok (.aload_n 0, 1) := by decide +kernel
theorem dX6_reach_102 : decode cX6_reach 102 = .ok (.getfield 16, 3) := by decide +kernel
theorem dX6_reach_105 : decode cX6_reach 105 = .ok (.iload_n 1, 1) := by decide +kernel
theorem dX6_reach_106 : decode cX6_reach 106 = .ok (.invokevirtual 196, 3) := by decide +kernel
theorem dX6_reach_109 : decode cX6_reach 109 = .ok (.ireturn, 1) := by decide +kernel
theorem dX6_reach_110 : decode cX6_reach 110 = .ok (.iconst (-1), 1) := by decide +kernel
theorem dX6_reach_111 : decode cX6_reach 111 = .ok (.ireturn, 1) := by decide +kernel
theorem dX6_right_0 : decode cX6_right 0 = .ok (.aload_n 0, 1) := by decide +kernel
theorem dX6_right_1 : decode cX6_right 1 = .ok (.iload_n 1, 1) := by decide +kernel
theorem dX6_right_2 : decode cX6_right 2 = .ok (.invokevirtual 117, 3) := by decide +kernel
theorem dX6_right_5 : decode cX6_right 5 = .ok (.ifCond .ne 5, 3) := by decide +kernel
theorem dX6_right_8 : decode cX6_right 8 = .ok (.iconst (-1), 1) := by decide +kernel
theorem dX6_right_9 : decode cX6_right 9 = .ok (.ireturn, 1) := by decide +kernel
theorem dX6_right_10 : decode cX6_right 10 = .ok (.aload_n 0, 1) := by decide +kernel
theorem dX6_right_11 : decode cX6_right 11 = .ok (.getfield 16, 3) := by decide +kernel
theorem dX6_right_14 : decode cX6_right 14 = .ok (.getfield 199, 3) := by decide +kernel
theorem dX6_right_17 : decode cX6_right 17 = .ok (.iload_n 1, 1) := by decide +kernel
theorem dX6_right_18 : decode cX6_right 18 = .ok (.iaload, 1) := by decide +kernel
theorem dX6_right_19 : decode cX6_right 19 = .ok (.ifCond .le 7, 3) := by decide +kernel
theorem dX6_right_22 : decode cX6_right 22 = .ok (.iconst 1, 1) := by decide +kernel
theorem dX6_right_23 : decode cX6_right 23 = .ok (.goto 4, 3) := by decide +kernel
theorem dX6_right_26 : decode cX6_right 26 = .ok (.iconst 0, 1) := by decide +kernel
theorem dX6_right_27 : decode cX6_right 27 = .ok (.istore_n 3, 1) := by decide +kernel
theorem dX6_right_28 : decode cX6_right 28 = .ok (.iload_n 2, 1) := by decide +kernel
theorem dX6_right_29 : decode cX6_right 29 = .ok (.tableswitch 215 0 12 #[67, 77, 87, 97, 107, 117, 136, 155, 165, 175, 185, 195, 205], 67) := by decide +kernel
theorem dX6_right_96 : decode cX6_right 96 = .ok (.aload_n 0, 1) := by decide +kernel
theorem dX6_right_97 : decode cX6_right 97 = .ok (.getfield 26, 3) := by decide +kernel
theorem dX6_right_100 : decode cX6_right 100 = .ok (.getfield 139, 3) := by decide +kernel
theorem dX6_right_103 : decode cX6_right 103 = .ok (.iload_n 1, 1) := by decide +kernel
theorem dX6_right_104 : decode cX6_right 104 = .ok (.iaload, 1) := by decide +kernel
theorem dX6_right_105 : decode cX6_right 105 = .ok (.ireturn, 1) := by decide +kernel
theorem dX6_right_106 : decode cX6_right 106 = .ok (.aload_n 0, 1) := by decide +kernel
theorem dX6_right_107 : decode cX6_right 107 = .ok (.getfield 16, 3) := by decide +kernel
theorem dX6_right_110 : decode cX6_right 110 = .ok (.getfield 121, 3) := by decide +kernel
theorem dX6_right_113 : decode cX6_right 113 = .ok (.iload_n 1, 1) := by decide +kernel
theorem dX6_right_114 : decode cX6_right 114 = .ok (.iaload, 1) := by decide +kernel
theorem dX6_right_115 : decode cX6_right 115 = .ok (.ireturn, 1) := by decide +kernel
theorem dX6_right_116 : decode cX6_right 116 = .ok (.aload_n 0, 1) := by decide +kernel
theorem dX6_right_117 : decode cX6_right 117 = .ok (.getfield 16, 3) := by decide +kernel
theorem dX6_right_120 : decode cX6_right 120 = .ok (.getfield 202, 3) := by decide +kernel
theorem dX6_right_123 : decode cX6_right 123 = .ok (.iload_n 1, 1) := by decide +kernel
theorem dX6_right_124 : decode cX6_right 124 = .ok (.iaload, 1) := by decide +kernel
theorem dX6_right_125 : decode cX6_right 125 = .ok (.ireturn, 1) := by decide +kernel
theorem dX6_right_126 : decode cX6_right 126 = .ok (.aload_n 0, 1) := by decide +kernel
theorem dX6_right_127 : decode cX6_right 127 = .ok (.getfield 16, 3) := by decide +kernel
theorem dX6_right_130 : decode cX6_right 130 = .ok (.getfield 205, 3) := by decide +kernel
theorem dX6_right_133 : decode cX6_right 133 = .ok (.iload_n 1, 1) := by decide +kernel
theorem dX6_right_134 : decode cX6_right 134 = .ok (.iaload, 1) := by decide +kernel
theorem dX6_right_135 : decode cX6_right 135 = .ok (.ireturn, 1) := by decide +kernel
theorem dX6_right_136 : decode cX6_right 136 = .ok (.aload_n 0, 1) := by decide +kernel
theorem dX6_right_137 : decode cX6_right 137 = .ok (.getfield 26, 3) := by decide +kernel
theorem dX6_right_140 : decode cX6_right 140 = .ok (.getfield 208, 3) := by decide +kernel
theorem dX6_right_143 : decode cX6_right 143 = .ok (.iload_n 1, 1) := by decide +kernel
theorem dX6_right_144 : decode cX6_right 144 = .ok (.iaload, 1) := by decide +kernel
theorem dX6_right_145 : decode cX6_right 145 = .ok (.ireturn, 1) := by decide +kernel
theorem dX6_right_146 : decode cX6_right 146 = .ok (.iload_n 3, 1) := by decide +kernel
theorem dX6_right_147 : decode cX6_right 147 = .ok (.ifCond .eq 15, 3) := by decide +kernel
theorem dX6_right_150 : decode cX6_right 150 = .ok (.aload_n 0, 1) := by decide +kernel
theorem dX6_right_151 : decode cX6_right 151 = .ok (.getfield 16, 3) := by decide +kernel
theorem dX6_right_154 : decode cX6_right 154 = .ok (.getfield 199, 3) := by decide +kernel
theorem dX6_right_157 : decode cX6_right 157 = .ok (.iload_n 1, 1) := by decide +kernel
theorem dX6_right_158 : decode cX6_right 158 = .ok (.iaload, 1) := by decide +kernel
theorem dX6_right_159 : decode cX6_right 159 = .ok (.goto 5, 3) := by decide +kernel
theorem dX6_right_162 : decode cX6_right 162 = .ok (.bipush (-2), 2) := by decide +kernel
theorem dX6_right_164 : decode cX6_right 164 = .ok (.ireturn, 1) := by decide +kernel
theorem dX6_right_165 : decode cX6_right 165 = .ok (.iload_n 3, 1) := by decide +kernel
theorem dX6_right_166 : decode cX6_right 166 = .ok (.ifCond .eq 15, 3) := by decide +kernel
theorem dX6_right_169 : decode cX6_right 169 = .ok (.aload_n 0, 1) := by decide +kernel
theorem dX6_right_170 : decode cX6_right 170 = .ok (.getfield 26, 3) := by decide +kernel
theorem dX6_right_173 : decode cX6_right 173 = .ok (.getfield 211, 3) := by decide +kernel
theorem dX6_right_176 : decode cX6_right 176 = .ok (.iload_n 1, 1) := by decide +kernel
theorem dX6_right_177 : decode cX6_right 177 = .ok (.iaload, 1) := by decide +kernel
theorem dX6_right_178 : decode cX6_right 178 = .ok (.goto 5, 3) := by decide +kernel
theorem dX6_right_181 : decode cX6_right 181 = .ok (.bipush (-2), 2) := by decide +kernel
theorem dX6_right_183 : decode cX6_right 183 = .ok (.ireturn, 1) := by decide +kernel
theorem dX6_right_184 : decode cX6_right 184 = .ok (.aload_n 0, 1) := by decide +kernel
theorem dX6_right_185 : decode cX6_right 185 = .ok (.getfield 16, 3) := by decide +kernel
theorem dX6_right_188 : decode cX6_right 188 = .ok (.getfield 214, 3) := by decide +kernel
theorem dX6_right_191 : decode cX6_right 191 = .ok (.iload_n 1, 1) := by decide +kernel
theorem dX6_right_192 : decode cX6_right 192 = .ok (.iaload, 1) := by decide +kernel
theorem dX6_right_193 : decode cX6_right 193 = .ok (.ireturn, 1) := by decide +kernel
theorem dX6_right_194 : decode cX6_right 194 = .ok (.aload_n 0, 1) := by decide +kernel
theorem dX6_right_195 : decode cX6_right 195 = .ok (.getfield 16, 3) := by decide +kernel
theorem dX6_right_198 : decode cX6_right 198 = .ok (.getfield 217, 3) := by decide +kernel
theorem dX6_right_201 : decode cX6_right 201 = .ok (.iload_n 1, 1) := by decide +kernel
theorem dX6_right_202 : decode cX6_right 202 = .ok (.iaload, 1) := by decide +kernel
theorem dX6_right_203 : decode cX6_right 203 = .ok (.ireturn, 1) := by decide +kernel
theorem dX6_right_204 : decode cX6_right 204 = .ok (.aload_n 0, 1) := by decide +kernel
theorem dX6_right_205 : decode cX6_right 205 = .ok (.getfield 16, 3) := by decide +kernel
theorem dX6_right_208 : decode cX6_right 208 = .ok (.getfield 220, 3) := by decide +kernel
theorem dX6_right_211 : decode cX6_right 211 = .ok (.iload_n 1, 1) := by decide +kernel
theorem dX6_right_212 : decode cX6_right 212 = .ok (.iaload, 1) := by decide +kernel
theorem dX6_right_213 : decode cX6_right 213 = .ok (.ireturn, 1) := by decide +kernel
theorem dX6_right_214 : decode cX6_right 214 = .ok (.aload_n 0, 1) := by decide +kernel
theorem dX6_right_215 : decode cX6_right 215 = .ok (.getfield 26, 3) := by decide +kernel
theorem dX6_right_218 : decode cX6_right 218 = .ok (.getfield 124, 3) := by decide +kernel
theorem dX6_right_221 : decode cX6_right 221 = .ok (.iload_n 1, 1) := by decide +kernel
theorem dX6_right_222 : decode cX6_right 222 = .ok (.iaload, 1) := by decide +kernel
theorem dX6_right_223 : decode cX6_right 223 = .ok (.ireturn, 1) := by decide +kernel
theorem dX6_right_224 : decode cX6_right 224 = .ok (.aload_n 0, 1) := by decide +kernel
theorem dX6_right_225 : decode cX6_right 225 = .ok (.getfield 26, 3) := by decide +kernel
theorem dX6_right_228 : decode cX6_right 228 = .ok (.getfield 146, 3) := by decide +kernel
theorem dX6_right_231 : decode cX6_right 231 = .ok (.iload_n 1, 1) := by decide +kernel
theorem dX6_right_232 : decode cX6_right 232 = .ok (.iaload, 1) := by decide +kernel
theorem dX6_right_233 : decode cX6_right 233 = .ok (.ireturn, 1) := by decide +kernel
theorem dX6_right_234 : decode cX6_right 234 = .ok (.aload_n 0, 1) := by decide +kernel
theorem dX6_right_235 : decode cX6_right 235 = .ok (.getfield 26, 3) := by decide +kernel
theorem dX6_right_238 : decode cX6_right 238 = .ok (.getfield 223, 3) := by decide +kernel
theorem dX6_right_241 : decode cX6_right 241 = .ok (.iload_n 1, 1) := by decide +kernel
theorem dX6_right_242 : decode cX6_right 242 = .ok (.iaload, 1) := by decide +kernel
theorem dX6_right_243 : decode cX6_right 243 = .ok (.ireturn, 1) := by decide +kernel
theorem dX6_right_244 : decode cX6_right 244 = .ok (.iconst (-1), 1) := by decide +kernel
theorem dX6_right_245 : decode cX6_right 245 = .ok (.ireturn, 1) := by decide +kernel
theorem dX6_store_0 : decode cX6_store 0 = .ok (.aload_n 0, 1) := by decide +kernel
theorem dX6_store_1 : decode cX6_store 1 = .ok (.iload_n 1, 1) := by decide +kernel
theorem dX6_store_2 : decode cX6_store 2 = .ok (.invokevirtual 127, 3) := by decide +kernel
theorem dX6_store_5 : decode cX6_store 5 = .ok (.ifCond .ne 5, 3) := by decide +kernel
theorem dX6_store_8 : decode cX6_store 8 = .ok (.iconst (-1), 1) := by decide +kernel
theorem dX6_store_9 : decode cX6_store 9 = .ok (.ireturn, 1) := by decide +kernel
theorem dX6_store_10 : decode cX6_store 10 = .ok (.iload_n 2, 1) := by decide +kernel
theorem dX6_store_11 : decode cX6_store 11 = .ok (.tableswitch 111 0 6 #[41, 51, 61, 71, 81, 91, 101], 41) := by decide +kernel
theorem dX6_store_52 : decode cX6_store 52 = .ok (.aload_n 0, 1) := by decide +kernel
theorem dX6_store_53 : decode cX6_store 53 = .ok (.getfield 16, 3) := by decide +kernel
theorem dX6_store_56 : decode cX6_store 56 = .ok (.getfield 136, 3) := by decide +kernel
theorem dX6_store_59 : decode cX6_store 59 = .ok (.iload_n 1, 1) := by decide +kernel
theorem dX6_store_60 : decode cX6_store 60 = .ok (.iaload, 1) := by decide +kernel
theorem dX6_store_61 : decode cX6_store 61 = .ok (.ireturn, 1) := by decide +kernel
theorem dX6_store_62 : decode cX6_store 62 = .ok (.aload_n 0, 1) := by decide +kernel
theorem dX6_store_63 : decode cX6_store 63 = .ok (.getfield 16, 3) := by decide +kernel
theorem dX6_store_66 : decode cX6_store 66 = .ok (.getfield 226, 3) := by decide +kernel
theorem dX6_store_69 : decode cX6_store 69 = .ok (.iload_n 1, 1) := by decide +kernel
theorem dX6_store_70 : decode cX6_store 70 = .ok (.iaload, 1) := by decide +kernel
theorem dX6_store_71 : decode cX6_store 71 = .ok (.ireturn, 1) := by decide +kernel
theorem dX6_store_72 : decode cX6_store 72 = .ok (.aload_n 0, 1) := by decide +kernel
theorem dX6_store_73 : decode cX6_store 73 = .ok (.getfield 16, 3) := by decide +kernel
theorem dX6_store_76 : decode cX6_store 76 = .ok (.getfield 229, 3) := by decide +kernel
theorem dX6_store_79 : decode cX6_store 79 = .ok (.iload_n 1, 1) := by decide +kernel
theorem dX6_store_80 : decode cX6_store 80 = .ok (.iaload, 1) := by decide +kernel
theorem dX6_store_81 : decode cX6_store 81 = .ok (.ireturn, 1) := by decide +kernel
theorem dX6_store_82 : decode cX6_store 82 = .ok (.aload_n 0, 1) := by decide +kernel
theorem dX6_store_83 : decode cX6_store 83 = .ok (.getfield 16, 3) := by decide +kernel
theorem dX6_store_86 : decode cX6_store 86 = .ok (.getfield 232, 3) := by decide +kernel
theorem dX6_store_89 : decode cX6_store 89 = .ok (.iload_n 1, 1) := by decide +kernel
theorem dX6_store_90 : decode cX6_store 90 = .ok (.iaload, 1) := by decide +kernel
theorem dX6_store_91 : decode cX6_store 91 = .ok (.ireturn, 1) := by decide +kernel
theorem dX6_store_92 : decode cX6_store 92 = .ok (.aload_n 0, 1) := by decide +kernel
theorem dX6_store_93 : decode cX6_store 93 = .ok (.getfield 26, 3) := by decide +kernel
theorem dX6_store_96 : decode cX6_store 96 = .ok (.getfield 235, 3) := by decide +kernel
theorem dX6_store_99 : decode cX6_store 99 = .ok (.iload_n 1, 1) := by decide +kernel
theorem dX6_store_100 : decode cX6_store 100 = .ok (.iaload, 1) := by decide +kernel
theorem dX6_store_101 : decode cX6_store 101 = .ok (.ireturn, 1) := by decide +kernel
theorem dX6_store_102 : decode cX6_store 102 = .ok (.aload_n 0, 1) := by decide +kernel
theorem dX6_store_103 : decode cX6_store 103 = .ok (.getfield 26, 3) := by decide +kernel
theorem dX6_store_106 : decode cX6_store 106 = .ok (.getfield 130, 3) := by decide +kernel
theorem dX6_store_109 : decode cX6_store 109 = .ok (.iload_n 1, 1) := by decide +kernel
theorem dX6_store_110 : decode cX6_store 110 = .ok (.iaload, 1) := by decide +kernel
theorem dX6_store_111 : decode cX6_store 111 = .ok (.ireturn, 1) := by decide +kernel
theorem dX6_store_112 : decode cX6_store 112 = .ok (.aload_n 0, 1) := by decide +kernel
theorem dX6_store_113 : decode cX6_store 113 = .ok (.getfield 26, 3) := by decide +kernel
theorem dX6_store_116 : decode cX6_store 116 = .ok (.getfield 133, 3) := by decide +kernel
theorem dX6_store_119 : decode cX6_store 119 = .ok (.iload_n 1, 1) := by decide +kernel
theorem dX6_store_120 : decode cX6_store 120 = .ok (.iaload, 1) := by decide +kernel
theorem dX6_store_121 : decode cX6_store 121 = .ok (.ireturn, 1) := by decide +kernel
theorem dX6_store_122 : decode cX6_store 122 = .ok (.iconst (-1), 1) := by decide +kernel
theorem dX6_store_123 : decode cX6_store 123 = .ok (.ireturn, 1) := by decide +kernel
theorem dX6_flow_0 : decode cX6_flow 0 = .ok (.aload_n 0, 1) := by decide +kernel
theorem dX6_flow_1 : decode cX6_flow 1 = .ok (.iload_n 1, 1) := by decide +kernel
theorem dX6_flow_2 : decode cX6_flow 2 = .ok (.invokevirtual 156, 3) := by decide +kernel
theorem dX6_flow_5 : decode cX6_flow 5 = .ok (.ifCond .ne 5, 3) := by decide +kernel
theorem dX6_flow_8 : decode cX6_flow 8 = .ok (.iconst (-1), 1) := by decide +kernel
theorem dX6_flow_9 : decode cX6_flow 9 = .ok (.ireturn, 1) := by decide +kernel
theorem dX6_flow_10 : decode cX6_flow 10 = .ok (.aload_n 0, 1) := by decide +kernel
theorem dX6_flow_11 : decode cX6_flow 11 = .ok (.invokevirtual 238, 3) := by decide +kernel
theorem dX6_flow_14 : decode cX6_flow 14 = .ok (.iload_n 2, 1) := by decide +kernel
theorem dX6_flow_15 : decode cX6_flow 15 = .ok (.tableswitch 89 0 4 #[33, 42, 51, 70, 79], 33) := by decide +kernel
theorem dX6_flow_48 : decode cX6_flow 48 = .ok (.aload_n 0, 1) := by decide +kernel
theorem dX6_flow_49 : decode cX6_flow 49 = .ok (.getfield 50, 3) := by decide +kernel
theorem dX6_flow_52 : decode cX6_flow 52 = .ok (.iload_n 1, 1) := by decide +kernel
theorem dX6_flow_53 : decode cX6_flow 53 = .ok (.invokevirtual 241, 3) := by decide +kernel
theorem dX6_flow_56 : decode cX6_flow 56 = .ok (.ireturn, 1) := by decide +kernel
theorem dX6_flow_57 : decode cX6_flow 57 = .ok (.aload_n 0, 1) := by decide +kernel
theorem dX6_flow_58 : decode cX6_flow 58 = .ok (.getfield 50, 3) := by decide +kernel
theorem dX6_flow_61 : decode cX6_flow 61 = .ok (.iload_n 1, 1) := by decide +kernel
theorem dX6_flow_62 : decode cX6_flow 62 = .ok (.invokevirtual 244, 3) := by decide +kernel
theorem dX6_flow_65 : decode cX6_flow 65 = .ok (.ireturn, 1) := by decide +kernel
theorem dX6_flow_66 : decode cX6_flow 66 = .ok (.aload_n 0, 1) := by decide +kernel
theorem dX6_flow_67 : decode cX6_flow 67 = .ok (.getfield 50, 3) := by decide +kernel
theorem dX6_flow_70 : decode cX6_flow 70 = .ok (.getfield 247, 3) := by decide +kernel
theorem dX6_flow_73 : decode cX6_flow 73 = .ok (.iload_n 1, 1) := by decide +kernel
theorem dX6_flow_74 : decode cX6_flow 74 = .ok (.iaload, 1) := by decide +kernel
theorem dX6_flow_75 : decode cX6_flow 75 = .ok (.aload_n 0, 1) := by decide +kernel
theorem dX6_flow_76 : decode cX6_flow 76 = .ok (.getfield 50, 3) := by decide +kernel
theorem dX6_flow_79 : decode cX6_flow 79 = .ok (.iload_n 1, 1) := by decide +kernel
theorem dX6_flow_80 : decode cX6_flow 80 = .ok (.invokevirtual 250, 3) := by decide +kernel
theorem dX6_flow_83 : decode cX6_flow 83 = .ok (.iadd, 1) := by decide +kernel
theorem dX6_flow_84 : decode cX6_flow 84 = .ok (.ireturn, 1) := by decide +kernel
theorem dX6_flow_85 : decode cX6_flow 85 = .ok (.aload_n 0, 1) := by decide +kernel
theorem dX6_flow_86 : decode cX6_flow 86 = .ok (.getfield 50, 3) := by decide +kernel
theorem dX6_flow_89 : decode cX6_flow 89 = .ok (.iload_n 1, 1) := by decide +kernel
theorem dX6_flow_90 : decode cX6_flow 90 = .ok (.invokevirtual 250, 3) := by decide +kernel
theorem dX6_flow_93 : decode cX6_flow 93 = .ok (.ireturn, 1) := by decide +kernel
theorem dX6_flow_94 : decode cX6_flow 94 = .ok (.aload_n 0, 1) := by decide +kernel
theorem dX6_flow_95 : decode cX6_flow 95 = .ok (.getfield 50, 3) := by decide +kernel
theorem dX6_flow_98 : decode cX6_flow 98 = .ok (.getfield 253, 3) := by decide +kernel
theorem dX6_flow_101 : decode cX6_flow 101 = .ok (.iload_n 1, 1) := by decide +kernel
theorem dX6_flow_102 : decode cX6_flow 102 = .ok (.iaload, 1) := by decide +kernel
theorem dX6_flow_103 : decode cX6_flow 103 = .ok (.ireturn, 1) := by decide +kernel
theorem dX6_flow_104 : decode cX6_flow 104 = .ok (.iconst (-1), 1) := by decide +kernel
theorem dX6_flow_105 : decode cX6_flow 105 = .ok (.ireturn, 1) := by decide +kernel
theorem dX6_takes_0 : decode cX6_takes 0 = .ok (.aload_n 0, 1) := by decide +kernel
theorem dX6_takes_1 : decode cX6_takes 1 = .ok (.iload_n 1, 1) := by decide +kernel
theorem dX6_takes_2 : decode cX6_takes 2 = .ok (.invokevirtual 117, 3) := by decide +kernel
theorem dX6_takes_5 : decode cX6_takes 5 = .ok (.ifCond .ne 5, 3) := by decide +kernel
theorem dX6_takes_8 : decode cX6_takes 8 = .ok (.iconst (-1), 1) := by decide +kernel
theorem dX6_takes_9 : decode cX6_takes 9 = .ok (.ireturn, 1) := by decide +kernel
theorem dX6_takes_10 : decode cX6_takes 10 = .ok (.aload_n 0, 1) := by decide +kernel
theorem dX6_takes_11 : decode cX6_takes 11 = .ok (.invokevirtual 238, 3) := by decide +kernel
theorem dX6_takes_14 : decode cX6_takes 14 = .ok (.iload_n 2, 1) := by decide +kernel
theorem dX6_takes_15 : decode cX6_takes 15 = .ok (.tableswitch 82 0 4 #[33, 42, 52, 62, 72], 33) := by decide +kernel
theorem dX6_takes_48 : decode cX6_takes 48 = .ok (.aload_n 0, 1) := by decide +kernel
theorem dX6_takes_49 : decode cX6_takes 49 = .ok (.getfield 50, 3) := by decide +kernel
theorem dX6_takes_52 : decode cX6_takes 52 = .ok (.iload_n 1, 1) := by decide +kernel
theorem dX6_takes_53 : decode cX6_takes 53 = .ok (.invokevirtual 256, 3) := by decide +kernel
theorem dX6_takes_56 : decode cX6_takes 56 = .ok (.ireturn, 1) := by decide +kernel
theorem dX6_takes_57 : decode cX6_takes 57 = .ok (.aload_n 0, 1) := by decide +kernel
theorem dX6_takes_58 : decode cX6_takes 58 = .ok (.getfield 50, 3) := by decide +kernel
theorem dX6_takes_61 : decode cX6_takes 61 = .ok (.getfield 259, 3) := by decide +kernel
theorem dX6_takes_64 : decode cX6_takes 64 = .ok (.iload_n 1, 1) := by decide +kernel
theorem dX6_takes_65 : decode cX6_takes 65 = .ok (.iaload, 1) := by decide +kernel
theorem dX6_takes_66 : decode cX6_takes 66 = .ok (.ireturn, 1) := by decide +kernel
theorem dX6_takes_67 : decode cX6_takes 67 = .ok (.aload_n 0, 1) := by decide +kernel
theorem dX6_takes_68 : decode cX6_takes 68 = .ok (.getfield 50, 3) := by decide +kernel
theorem dX6_takes_71 : decode cX6_takes 71 = .ok (.getfield 262, 3) := by decide +kernel
theorem dX6_takes_74 : decode cX6_takes 74 = .ok (.iload_n 1, 1) := by decide +kernel
theorem dX6_takes_75 : decode cX6_takes 75 = .ok (.iaload, 1) := by decide +kernel
theorem dX6_takes_76 : decode cX6_takes 76 = .ok (.ireturn, 1) := by decide +kernel
theorem dX6_takes_77 : decode cX6_takes 77 = .ok (.aload_n 0, 1) := by decide +kernel
theorem dX6_takes_78 : decode cX6_takes 78 = .ok (.getfield 50, 3) := by decide +kernel
theorem dX6_takes_81 : decode cX6_takes 81 = .ok (.getfield 265, 3) := by decide +kernel
theorem dX6_takes_84 : decode cX6_takes 84 = .ok (.iload_n 1, 1) := by decide +kernel
theorem dX6_takes_85 : decode cX6_takes 85 = .ok (.iaload, 1) := by decide +kernel
theorem dX6_takes_86 : decode cX6_takes 86 = .ok (.ireturn, 1) := by decide +kernel
theorem dX6_takes_87 : decode cX6_takes 87 = .ok (.aload_n 0, 1) := by decide +kernel
theorem dX6_takes_88 : decode cX6_takes 88 = .ok (.getfield 50, 3) := by decide +kernel
theorem dX6_takes_91 : decode cX6_takes 91 = .ok (.getfield 268, 3) := by decide +kernel
theorem dX6_takes_94 : decode cX6_takes 94 = .ok (.iload_n 1, 1) := by decide +kernel
theorem dX6_takes_95 : decode cX6_takes 95 = .ok (.iaload, 1) := by decide +kernel
theorem dX6_takes_96 : decode cX6_takes 96 = .ok (.ireturn, 1) := by decide +kernel
theorem dX6_takes_97 : decode cX6_takes 97 = .ok (.iconst (-1), 1) := by decide +kernel
theorem dX6_takes_98 : decode cX6_takes 98 = .ok (.ireturn, 1) := by decide +kernel
theorem dX6_stored_0 : decode cX6_stored 0 = .ok (.aload_n 0, 1) := by decide +kernel
theorem dX6_stored_1 : decode cX6_stored 1 = .ok (.iload_n 1, 1) := by decide +kernel
theorem dX6_stored_2 : decode cX6_stored 2 = .ok (.invokevirtual 127, 3) := by decide +kernel
theorem dX6_stored_5 : decode cX6_stored 5 = .ok (.ifCond .ne 5, 3) := by decide +kernel
theorem dX6_stored_8 : decode cX6_stored 8 = .ok (.iconst (-1), 1) := by decide +kernel
theorem dX6_stored_9 : decode cX6_stored 9 = .ok (.ireturn, 1) := by decide +kernel
theorem dX6_stored_10 : decode cX6_stored 10 = .ok (.aload_n 0, 1) := by decide +kernel
theorem dX6_stored_11 : decode cX6_stored 11 = .ok (.invokevirtual 238, 3) := by decide +kernel
theorem dX6_stored_14 : decode cX6_stored 14 = .ok (.iload_n 2, 1) := by decide +kernel
theorem dX6_stored_15 : decode cX6_stored 15 = .ok (.tableswitch 67 0 3 #[29, 38, 48, 58], 29) := by decide +kernel
theorem dX6_stored_44 : decode cX6_stored 44 = .ok (.aload_n 0, 1) := by decide +kernel
theorem dX6_stored_45 : decode cX6_stored 45 = .ok (.getfield 50, 3) := by decide +kernel
theorem dX6_stored_48 : decode cX6_stored 48 = .ok (.iload_n 1, 1) := by decide +kernel
theorem dX6_stored_49 : decode cX6_stored 49 = .ok (.invokevirtual 271, 3) := by decide +kernel
theorem dX6_stored_52 : decode cX6_stored 52 = .ok (.ireturn, 1) := by decide +kernel
theorem dX6_stored_53 : decode cX6_stored 53 = .ok (.aload_n 0, 1) := by decide +kernel
theorem dX6_stored_54 : decode cX6_stored 54 = .ok (.getfield 50, 3) := by decide +kernel
theorem dX6_stored_57 : decode cX6_stored 57 = .ok (.getfield 274, 3) := by decide +kernel
theorem dX6_stored_60 : decode cX6_stored 60 = .ok (.iload_n 1, 1) := by decide +kernel
theorem dX6_stored_61 : decode cX6_stored 61 = .ok (.iaload, 1) := by decide +kernel
theorem dX6_stored_62 : decode cX6_stored 62 = .ok (.ireturn, 1) := by decide +kernel
theorem dX6_stored_63 : decode cX6_stored 63 = .ok (.aload_n 0, 1) := by decide +kernel
theorem dX6_stored_64 : decode cX6_stored 64 = .ok (.getfield 50, 3) := by decide +kernel
theorem dX6_stored_67 : decode cX6_stored 67 = .ok (.getfield 277, 3) := by decide +kernel
theorem dX6_stored_70 : decode cX6_stored 70 = .ok (.iload_n 1, 1) := by decide +kernel
theorem dX6_stored_71 : decode cX6_stored 71 = .ok (.iaload, 1) := by decide +kernel
theorem dX6_stored_72 : decode cX6_stored 72 = .ok (.ireturn, 1) := by decide +kernel
theorem dX6_stored_73 : decode cX6_stored 73 = .ok (.aload_n 0, 1) := by decide +kernel
theorem dX6_stored_74 : decode cX6_stored 74 = .ok (.getfield 50, 3) := by decide +kernel
theorem dX6_stored_77 : decode cX6_stored 77 = .ok (.iload_n 1, 1) := by decide +kernel
theorem dX6_stored_78 : decode cX6_stored 78 = .ok (.invokevirtual 280, 3) := by decide +kernel
theorem dX6_stored_81 : decode cX6_stored 81 = .ok (.ireturn, 1) := by decide +kernel
theorem dX6_stored_82 : decode cX6_stored 82 = .ok (.iconst (-1), 1) := by decide +kernel
theorem dX6_stored_83 : decode cX6_stored 83 = .ok (.ireturn, 1) := by decide +kernel
theorem dX6_shut_0 : decode cX6_shut 0 = .ok (.aload_n 0, 1) := by decide +kernel
theorem dX6_shut_1 : decode cX6_shut 1 = .ok (.iload_n 1, 1) := by decide +kernel
theorem dX6_shut_2 : decode cX6_shut 2 = .ok (.invokevirtual 117, 3) := by decide +kernel
theorem dX6_shut_5 : decode cX6_shut 5 = .ok (.ifCond .ne 5, 3) := by decide +kernel
theorem dX6_shut_8 : decode cX6_shut 8 = .ok (.iconst (-1), 1) := by decide +kernel
theorem dX6_shut_9 : decode cX6_shut 9 = .ok (.ireturn, 1) := by decide +kernel
theorem dX6_shut_10 : decode cX6_shut 10 = .ok (.aload_n 0, 1) := by decide +kernel
theorem dX6_shut_11 : decode cX6_shut 11 = .ok (.invokevirtual 238, 3) := by decide +kernel
theorem dX6_shut_14 : decode cX6_shut 14 = .ok (.aload_n 0, 1) := by decide +kernel
theorem dX6_shut_15 : decode cX6_shut 15 = .ok (.getfield 50, 3) := by decide +kernel
theorem dX6_shut_18 : decode cX6_shut 18 = .ok (.getfield 259, 3) := by decide +kernel
theorem dX6_shut_21 : decode cX6_shut 21 = .ok (.iload_n 1, 1) := by decide +kernel
theorem dX6_shut_22 : decode cX6_shut 22 = .ok (.iaload, 1) := by decide +kernel
theorem dX6_shut_23 : decode cX6_shut 23 = .ok (.istore_n 2, 1) := by decide +kernel
theorem dX6_shut_24 : decode cX6_shut 24 = .ok (.aload_n 0, 1) := by decide +kernel
theorem dX6_shut_25 : decode cX6_shut 25 = .ok (.getfield 50, 3) := by decide +kernel
theorem dX6_shut_28 : decode cX6_shut 28 = .ok (.iload_n 1, 1) := by decide +kernel
theorem dX6_shut_29 : decode cX6_shut 29 = .ok (.invokevirtual 283, 3) := by decide +kernel
theorem dX6_shut_32 : decode cX6_shut 32 = .ok (.iload_n 2, 1) := by decide +kernel
theorem dX6_shut_33 : decode cX6_shut 33 = .ok (.isub, 1) := by decide +kernel
theorem dX6_shut_34 : decode cX6_shut 34 = .ok (.ireturn, 1) := by decide +kernel
theorem dX6_caller_0 : decode cX6_caller 0 = .ok (.aload_n 0, 1) := by decide +kernel
theorem dX6_caller_1 : decode cX6_caller 1 = .ok (.iload_n 1, 1) := by decide +kernel
theorem dX6_caller_2 : decode cX6_caller 2 = .ok (.invokevirtual 117, 3) := by decide +kernel
theorem dX6_caller_5 : decode cX6_caller 5 = .ok (.ifCond .ne 5, 3) := by decide +kernel
theorem dX6_caller_8 : decode cX6_caller 8 = .ok (.iconst (-1), 1) := by decide +kernel
theorem dX6_caller_9 : decode cX6_caller 9 = .ok (.ireturn, 1) := by decide +kernel
theorem dX6_caller_10 : decode cX6_caller 10 = .ok (.aload_n 0, 1) := by decide +kernel
theorem dX6_caller_11 : decode cX6_caller 11 = .ok (.invokevirtual 238, 3) := by decide +kernel
theorem dX6_caller_14 : decode cX6_caller 14 = .ok (.aload_n 0, 1) := by decide +kernel
theorem dX6_caller_15 : decode cX6_caller 15 = .ok (.getfield 50, 3) := by decide +kernel
theorem dX6_caller_18 : decode cX6_caller 18 = .ok (.getfield 259, 3) := by decide +kernel
theorem dX6_caller_21 : decode cX6_caller 21 = .ok (.iload_n 1, 1) := by decide +kernel
theorem dX6_caller_22 : decode cX6_caller 22 = .ok (.iaload, 1) := by decide +kernel
theorem dX6_caller_23 : decode cX6_caller 23 = .ok (.istore_n 2, 1) := by decide +kernel
theorem dX6_caller_24 : decode cX6_caller 24 = .ok (.iconst 0, 1) := by decide +kernel
theorem dX6_caller_25 : decode cX6_caller 25 = .ok (.istore_n 3, 1) := by decide +kernel
theorem dX6_caller_26 : decode cX6_caller 26 = .ok (.iload_n 3, 1) := by decide +kernel
theorem dX6_caller_27 : decode cX6_caller 27 = .ok (.aload_n 0, 1) := by decide +kernel
theorem dX6_caller_28 : decode cX6_caller 28 = .ok (.getfield 50, 3) := by decide +kernel
theorem dX6_caller_31 : decode cX6_caller 31 = .ok (.getfield 286, 3) := by decide +kernel
theorem dX6_caller_34 : decode cX6_caller 34 = .ok (.if_icmp .ge 64, 3) := by decide +kernel
theorem dX6_caller_37 : decode cX6_caller 37 = .ok (.aload_n 0, 1) := by decide +kernel
theorem dX6_caller_38 : decode cX6_caller 38 = .ok (.getfield 50, 3) := by decide +kernel
theorem dX6_caller_41 : decode cX6_caller 41 = .ok (.getfield 289, 3) := by decide +kernel
theorem dX6_caller_44 : decode cX6_caller 44 = .ok (.iload_n 3, 1) := by decide +kernel
theorem dX6_caller_45 : decode cX6_caller 45 = .ok (.iaload, 1) := by decide +kernel
theorem dX6_caller_46 : decode cX6_caller 46 = .ok (.istore 4, 2) := by decide +kernel
theorem dX6_caller_48 : decode cX6_caller 48 = .ok (.iload 4, 2) := by decide +kernel
theorem dX6_caller_50 : decode cX6_caller 50 = .ok (.iload_n 1, 1) := by decide +kernel
theorem dX6_caller_51 : decode cX6_caller 51 = .ok (.if_icmp .ne 6, 3) := by decide +kernel
theorem dX6_caller_54 : decode cX6_caller 54 = .ok (.goto 44, 3) := by decide +kernel
theorem dX6_caller_57 : decode cX6_caller 57 = .ok (.aload_n 0, 1) := by decide +kernel
theorem dX6_caller_58 : decode cX6_caller 58 = .ok (.getfield 50, 3) := by decide +kernel
theorem dX6_caller_61 : decode cX6_caller 61 = .ok (.invokevirtual 292, 3) := by decide +kernel
theorem dX6_caller_64 : decode cX6_caller 64 = .ok (.aload_n 0, 1) := by decide +kernel
theorem dX6_caller_65 : decode cX6_caller 65 = .ok (.getfield 50, 3) := by decide +kernel
theorem dX6_caller_68 : decode cX6_caller 68 = .ok (.iload 4, 2) := by decide +kernel
theorem dX6_caller_70 : decode cX6_caller 70 = .ok (.invokevirtual 295, 3) := by decide +kernel
theorem dX6_caller_73 : decode cX6_caller 73 = .ok (.aload_n 0, 1) := by decide +kernel
theorem dX6_caller_74 : decode cX6_caller 74 = .ok (.getfield 50, 3) := by decide +kernel
theorem dX6_caller_77 : decode cX6_caller 77 = .ok (.getfield 259, 3) := by decide +kernel
theorem dX6_caller_80 : decode cX6_caller 80 = .ok (.iload_n 1, 1) := by decide +kernel
theorem dX6_caller_81 : decode cX6_caller 81 = .ok (.iaload, 1) := by decide +kernel
theorem dX6_caller_82 : decode cX6_caller 82 = .ok (.iload_n 2, 1) := by decide +kernel
theorem dX6_caller_83 : decode cX6_caller 83 = .ok (.if_icmp .le 9, 3) := by decide +kernel
theorem dX6_caller_86 : decode cX6_caller 86 = .ok (.iload 4, 2) := by decide +kernel
theorem dX6_caller_88 : decode cX6_caller 88 = .ok (.invokestatic 298, 3) := by decide +kernel
theorem dX6_caller_91 : decode cX6_caller 91 = .ok (.ireturn, 1) := by decide +kernel
theorem dX6_caller_92 : decode cX6_caller 92 = .ok (.iinc 3 1, 3) := by decide +kernel
theorem dX6_caller_95 : decode cX6_caller 95 = .ok (.goto (-69), 3) := by decide +kernel
theorem dX6_caller_98 : decode cX6_caller 98 = .ok (.bipush (-2), 2) := by decide +kernel
theorem dX6_caller_100 : decode cX6_caller 100 = .ok (.ireturn, 1) := by decide +kernel
theorem dX6_calls_0 : decode cX6_calls 0 = .ok (.iload_n 1, 1) := by decide +kernel
theorem dX6_calls_1 : decode cX6_calls 1 = .ok (.ifCond .lt 8, 3) := by decide +kernel
theorem dX6_calls_4 : decode cX6_calls 4 = .ok (.iload_n 1, 1) := by decide +kernel
theorem dX6_calls_5 : decode cX6_calls 5 = .ok (.iconst 1, 1) := by decide +kernel
theorem dX6_calls_6 : decode cX6_calls 6 = .ok (.if_icmp .le 5, 3) := by decide +kernel
theorem dX6_calls_9 : decode cX6_calls 9 = .ok (.iconst (-1), 1) := by decide +kernel
theorem dX6_calls_10 : decode cX6_calls 10 = .ok (.ireturn, 1) := by decide +kernel
theorem dX6_calls_11 : decode cX6_calls 11 = .ok (.aload_n 0, 1) := by decide +kernel
theorem dX6_calls_12 : decode cX6_calls 12 = .ok (.invokevirtual 238, 3) := by decide +kernel
theorem dX6_calls_15 : decode cX6_calls 15 = .ok (.iconst 0, 1) := by decide +kernel
theorem dX6_calls_16 : decode cX6_calls 16 = .ok (.istore_n 2, 1) := by decide +kernel
theorem dX6_calls_17 : decode cX6_calls 17 = .ok (.iconst 0, 1) := by decide +kernel
theorem dX6_calls_18 : decode cX6_calls 18 = .ok (.istore_n 3, 1) := by decide +kernel
theorem dX6_calls_19 : decode cX6_calls 19 = .ok (.iload_n 3, 1) := by decide +kernel
theorem dX6_calls_20 : decode cX6_calls 20 = .ok (.aload_n 0, 1) := by decide +kernel
theorem dX6_calls_21 : decode cX6_calls 21 = .ok (.getfield 16, 3) := by decide +kernel
theorem dX6_calls_24 : decode cX6_calls 24 = .ok (.getfield 96, 3) := by decide +kernel
theorem dX6_calls_27 : decode cX6_calls 27 = .ok (.if_icmp .ge 42, 3) := by decide +kernel
theorem dX6_calls_30 : decode cX6_calls 30 = .ok (.iload_n 1, 1) := by decide +kernel
theorem dX6_calls_31 : decode cX6_calls 31 = .ok (.ifCond .ne 14, 3) := by decide +kernel
theorem dX6_calls_34 : decode cX6_calls 34 = .ok (.aload_n 0, 1) := by decide +kernel
theorem dX6_calls_35 : decode cX6_calls 35 = .ok (.getfield 50, 3) := by decide +kernel
theorem dX6_calls_38 : decode cX6_calls 38 = .ok (.iload_n 3, 1) := by decide +kernel
theorem dX6_calls_39 : decode cX6_calls 39 = .ok (.invokevirtual 301, 3) := by decide +kernel
theorem dX6_calls_42 : decode cX6_calls 42 = .ok (.goto 8, 3) := by decide +kernel
theorem dX6_calls_45 : decode cX6_calls 45 = .ok (.aload_n 0, 1) := by decide +kernel
theorem dX6_calls_46 : decode cX6_calls 46 = .ok (.iload_n 3, 1) := by decide +kernel
theorem dX6_calls_47 : decode cX6_calls 47 = .ok (.invokevirtual 304, 3) := by decide +kernel
theorem dX6_calls_50 : decode cX6_calls 50 = .ok (.istore 4, 2) := by decide +kernel
theorem dX6_calls_52 : decode cX6_calls 52 = .ok (.iload 4, 2) := by decide +kernel
theorem dX6_calls_54 : decode cX6_calls 54 = .ok (.ifCond .eq 9, 3) := by decide +kernel
theorem dX6_calls_57 : decode cX6_calls 57 = .ok (.iload_n 2, 1) := by decide +kernel
theorem dX6_calls_58 : decode cX6_calls 58 = .ok (.iconst 1, 1) := by decide +kernel
theorem dX6_calls_59 : decode cX6_calls 59 = .ok (.iload_n 3, 1) := by decide +kernel
theorem dX6_calls_60 : decode cX6_calls 60 = .ok (.ishl, 1) := by decide +kernel
theorem dX6_calls_61 : decode cX6_calls 61 = .ok (.ior, 1) := by decide +kernel
theorem dX6_calls_62 : decode cX6_calls 62 = .ok (.istore_n 2, 1) := by decide +kernel
theorem dX6_calls_63 : decode cX6_calls 63 = .ok (.iinc 3 1, 3) := by decide +kernel
theorem dX6_calls_66 : decode cX6_calls 66 = .ok (.goto (-47), 3) := by decide +kernel
theorem dX6_calls_69 : decode cX6_calls 69 = .ok (.iload_n 2, 1) := by decide +kernel
theorem dX6_calls_70 : decode cX6_calls 70 = .ok (.ireturn, 1) := by decide +kernel
theorem dX6_futile_0 : decode cX6_futile 0 = .ok (.aload_n 0, 1) := by decide +kernel
theorem dX6_futile_1 : decode cX6_futile 1 = .ok (.iload_n 1, 1) := by decide +kernel
theorem dX6_futile_2 : decode cX6_futile 2 = .ok (.iload_n 2, 1) := by decide +kernel
theorem dX6_futile_3 : decode cX6_futile 3 = .ok (.invokevirtual 149, 3) := by decide +kernel
theorem dX6_futile_6 : decode cX6_futile 6 = .ok (.ifCond .ne 5, 3) := by decide +kernel
theorem dX6_futile_9 : decode cX6_futile 9 = .ok (.iconst (-1), 1) := by decide +kernel
theorem dX6_futile_10 : decode cX6_futile 10 = .ok (.ireturn, 1) := by decide +kernel
theorem dX6_futile_11 : decode cX6_futile 11 = .ok (.aload_n 0, 1) := by decide +kernel
theorem dX6_futile_12 : decode cX6_futile 12 = .ok (.invokevirtual 238, 3) := by decide +kernel
theorem dX6_futile_15 : decode cX6_futile 15 = .ok (.aload_n 0, 1) := by decide +kernel
theorem dX6_futile_16 : decode cX6_futile 16 = .ok (.iload_n 1, 1) := by decide +kernel
theorem dX6_futile_17 : decode cX6_futile 17 = .ok (.iload_n 2, 1) := by decide +kernel
theorem dX6_futile_18 : decode cX6_futile 18 = .ok (.invokevirtual 307, 3) := by decide +kernel
theorem dX6_futile_21 : decode cX6_futile 21 = .ok (.ifCond .eq 7, 3) := by decide +kernel
theorem dX6_futile_24 : decode cX6_futile 24 = .ok (.iconst 1, 1) := by decide +kernel
theorem dX6_futile_25 : decode cX6_futile 25 = .ok (.goto 4, 3) := by decide +kernel
theorem dX6_futile_28 : decode cX6_futile 28 = .ok (.iconst 0, 1) := by decide +kernel
theorem dX6_futile_29 : decode cX6_futile 29 = .ok (.ireturn, 1) := by decide +kernel
theorem dX6_needs_0 : decode cX6_needs 0 = .ok (.aload_n 0, 1) := by decide +kernel
theorem dX6_needs_1 : decode cX6_needs 1 = .ok (.iload_n 1, 1) := by decide +kernel
theorem dX6_needs_2 : decode cX6_needs 2 = .ok (.invokevirtual 117, 3) := by decide +kernel
theorem dX6_needs_5 : decode cX6_needs 5 = .ok (.ifCond .ne 5, 3) := by decide +kernel
theorem dX6_needs_8 : decode cX6_needs 8 = .ok (.iconst (-1), 1) := by decide +kernel
theorem dX6_needs_9 : decode cX6_needs 9 = .ok (.ireturn, 1) := by decide +kernel
theorem dX6_needs_10 : decode cX6_needs 10 = .ok (.aload_n 0, 1) := by decide +kernel
theorem dX6_needs_11 : decode cX6_needs 11 = .ok (.getfield 57, 3) := by decide +kernel
theorem dX6_needs_14 : decode cX6_needs 14 = .ok (.aload_n 0, 1) := by decide +kernel
theorem dX6_needs_15 : decode cX6_needs 15 = .ok (.getfield 16, 3) := by decide +kernel
theorem dX6_needs_18 : decode cX6_needs 18 = .ok (.aload_n 0, 1) := by decide +kernel
theorem dX6_needs_19 : decode cX6_needs 19 = .ok (.getfield 26, 3) := by decide +kernel
theorem dX6_needs_22 : decode cX6_needs 22 = .ok (.invokevirtual 310, 3) := by decide +kernel
theorem dX6_needs_25 : decode cX6_needs 25 = .ok (.iconst 0, 1) := by decide +kernel
theorem dX6_needs_26 : decode cX6_needs 26 = .ok (.istore_n 2, 1) := by decide +kernel
theorem dX6_needs_27 : decode cX6_needs 27 = .ok (.iload_n 2, 1) := by decide +kernel
theorem dX6_needs_28 : decode cX6_needs 28 = .ok (.sipush 400, 3) := by decide +kernel
theorem dX6_needs_31 : decode cX6_needs 31 = .ok (.if_icmp .gt 33, 3) := by decide +kernel
theorem dX6_needs_34 : decode cX6_needs 34 = .ok (.aload_n 0, 1) := by decide +kernel
theorem dX6_needs_35 : decode cX6_needs 35 = .ok (.getfield 57, 3) := by decide +kernel
theorem dX6_needs_38 : decode cX6_needs 38 = .ok (.getfield 313, 3) := by decide +kernel
theorem dX6_needs_41 : decode cX6_needs 41 = .ok (.iload_n 2, 1) := by decide +kernel
theorem dX6_needs_42 : decode cX6_needs 42 = .ok (.putfield 114, 3) := by decide +kernel
theorem dX6_needs_45 : decode cX6_needs 45 = .ok (.aload_n 0, 1) := by decide +kernel
theorem dX6_needs_46 : decode cX6_needs 46 = .ok (.getfield 57, 3) := by decide +kernel
theorem dX6_needs_49 : decode cX6_needs 49 = .ok (.iload_n 1, 1) := by decide +kernel
theorem dX6_needs_50 : decode cX6_needs 50 = .ok (.invokevirtual 314, 3) := by decide +kernel
theorem dX6_needs_53 : decode cX6_needs 53 = .ok (.ifCond .ne 5, 3) := by decide +kernel
theorem dX6_needs_56 : decode cX6_needs 56 = .ok (.iload_n 2, 1) := by decide +kernel
theorem dX6_needs_57 : decode cX6_needs 57 = .ok (.ireturn, 1) := by decide +kernel
theorem dX6_needs_58 : decode cX6_needs 58 = .ok (.iinc 2 1, 3) := by decide +kernel
theorem dX6_needs_61 : decode cX6_needs 61 = .ok (.goto (-34), 3) := by decide +kernel
theorem dX6_needs_64 : decode cX6_needs 64 = .ok (.bipush (-2), 2) := by decide +kernel
theorem dX6_needs_66 : decode cX6_needs 66 = .ok (.ireturn, 1) := by decide +kernel
theorem dX6_firm_0 : decode cX6_firm 0 = .ok (.aload_n 0, 1) := by decide +kernel
theorem dX6_firm_1 : decode cX6_firm 1 = .ok (.iload_n 1, 1) := by decide +kernel
theorem dX6_firm_2 : decode cX6_firm 2 = .ok (.invokevirtual 117, 3) := by decide +kernel
theorem dX6_firm_5 : decode cX6_firm 5 = .ok (.ifCond .eq 19, 3) := by decide +kernel
theorem dX6_firm_8 : decode cX6_firm 8 = .ok (.iload_n 2, 1) := by decide +kernel
theorem dX6_firm_9 : decode cX6_firm 9 = .ok (.invokestatic 317, 3) := by decide +kernel
theorem dX6_firm_12 : decode cX6_firm 12 = .ok (.ifCond .eq 12, 3) := by decide +kernel
theorem dX6_firm_15 : decode cX6_firm 15 = .ok (.iload_n 3, 1) := by decide +kernel
theorem dX6_firm_16 : decode cX6_firm 16 = .ok (.ifCond .lt 8, 3) := by decide +kernel
theorem dX6_firm_19 : decode cX6_firm 19 = .ok (.iload_n 3, 1) := by decide +kernel
theorem dX6_firm_20 : decode cX6_firm 20 = .ok (.iconst 2, 1) := by decide +kernel
theorem dX6_firm_21 : decode cX6_firm 21 = .ok (.if_icmp .le 5, 3) := by decide +kernel
theorem dX6_firm_24 : decode cX6_firm 24 = .ok (.iconst (-1), 1) := by decide +kernel
theorem dX6_firm_25 : decode cX6_firm 25 = .ok (.ireturn, 1) := by decide +kernel
theorem dX6_firm_26 : decode cX6_firm 26 = .ok (.aload_n 0, 1) := by decide +kernel
theorem dX6_firm_27 : decode cX6_firm 27 = .ok (.getfield 57, 3) := by decide +kernel
theorem dX6_firm_30 : decode cX6_firm 30 = .ok (.aload_n 0, 1) := by decide +kernel
theorem dX6_firm_31 : decode cX6_firm 31 = .ok (.getfield 16, 3) := by decide +kernel
theorem dX6_firm_34 : decode cX6_firm 34 = .ok (.aload_n 0, 1) := by decide +kernel
theorem dX6_firm_35 : decode cX6_firm 35 = .ok (.getfield 26, 3) := by decide +kernel
theorem dX6_firm_38 : decode cX6_firm 38 = .ok (.invokevirtual 310, 3) := by decide +kernel
theorem dX6_firm_41 : decode cX6_firm 41 = .ok (.aload_n 0, 1) := by decide +kernel
theorem dX6_firm_42 : decode cX6_firm 42 = .ok (.getfield 57, 3) := by decide +kernel
theorem dX6_firm_45 : decode cX6_firm 45 = .ok (.iload_n 2, 1) := by decide +kernel
theorem dX6_firm_46 : decode cX6_firm 46 = .ok (.iload_n 1, 1) := by decide +kernel
theorem dX6_firm_47 : decode cX6_firm 47 = .ok (.invokevirtual 320, 3) := by decide +kernel
theorem dX6_firm_50 : decode cX6_firm 50 = .ok (.iload_n 3, 1) := by decide +kernel
theorem dX6_firm_51 : decode cX6_firm 51 = .ok (.lookupswitch 42 #[(0, 25), (1, 34)], 25) := by decide +kernel
theorem dX6_firm_76 : decode cX6_firm 76 = .ok (.aload_n 0, 1) := by decide +kernel
theorem dX6_firm_77 : decode cX6_firm 77 = .ok (.getfield 57, 3) := by decide +kernel
theorem dX6_firm_80 : decode cX6_firm 80 = .ok (.iload_n 1, 1) := by decide +kernel
theorem dX6_firm_81 : decode cX6_firm 81 = .ok (.invokevirtual 323, 3) := by decide +kernel
theorem dX6_firm_84 : decode cX6_firm 84 = .ok (.ireturn, 1) := by decide +kernel
theorem dX6_firm_85 : decode cX6_firm 85 = .ok (.aload_n 0, 1) := by decide +kernel
theorem dX6_firm_86 : decode cX6_firm 86 = .ok (.getfield 57, 3) := by decide +kernel
theorem dX6_firm_89 : decode cX6_firm 89 = .ok (.getfield 326, 3) := by decide +kernel
theorem dX6_firm_92 : decode cX6_firm 92 = .ok (.ireturn, 1) := by decide +kernel
theorem dX6_firm_93 : decode cX6_firm 93 = .ok (.aload_n 0, 1) := by decide +kernel
theorem dX6_firm_94 : decode cX6_firm 94 = .ok (.getfield 57, 3) := by decide +kernel
theorem dX6_firm_97 : decode cX6_firm 97 = .ok (.getfield 329, 3) := by decide +kernel
theorem dX6_firm_100 : decode cX6_firm 100 = .ok (.ireturn, 1) := by decide +kernel
theorem dX6_without_0 : decode cX6_without 0 = .ok (.aload_n 0, 1) := by decide +kernel
theorem dX6_without_1 : decode cX6_without 1 = .ok (.iload_n 1, 1) := by decide +kernel
theorem dX6_without_2 : decode cX6_without 2 = .ok (.iload_n 2, 1) := by decide +kernel
theorem dX6_without_3 : decode cX6_without 3 = .ok (.invokevirtual 149, 3) := by decide +kernel
theorem dX6_without_6 : decode cX6_without 6 = .ok (.ifCond .eq 10, 3) := by decide +kernel
theorem dX6_without_9 : decode cX6_without 9 = .ok (.iload_n 3, 1) := by decide +kernel
theorem dX6_without_10 : decode cX6_without 10 = .ok (.invokestatic 317, 3) := by decide +kernel
theorem dX6_without_13 : decode cX6_without 13 = .ok (.ifCond .ne 7, 3) := by decide +kernel
theorem dX6_without_16 : decode cX6_without 16 = .ok (.ldc_w 332, 3) := by decide +kernel
theorem dX6_without_19 : decode cX6_without 19 = .ok (.ireturn, 1) := by decide +kernel
theorem dX6_without_20 : decode cX6_without 20 = .ok (.aload_n 0, 1) := by decide +kernel
theorem dX6_without_21 : decode cX6_without 21 = .ok (.getfield 57, 3) := by decide +kernel
theorem dX6_without_24 : decode cX6_without 24 = .ok (.aload_n 0, 1) := by decide +kernel
theorem dX6_without_25 : decode cX6_without 25 = .ok (.getfield 16, 3) := by decide +kernel
theorem dX6_without_28 : decode cX6_without 28 = .ok (.aload_n 0, 1) := by decide +kernel
theorem dX6_without_29 : decode cX6_without 29 = .ok (.getfield 26, 3) := by decide +kernel
theorem dX6_without_32 : decode cX6_without 32 = .ok (.invokevirtual 310, 3) := by decide +kernel
theorem dX6_without_35 : decode cX6_without 35 = .ok (.aload_n 0, 1) := by decide +kernel
theorem dX6_without_36 : decode cX6_without 36 = .ok (.getfield 57, 3) := by decide +kernel
theorem dX6_without_39 : decode cX6_without 39 = .ok (.iload_n 3, 1) := by decide +kernel
theorem dX6_without_40 : decode cX6_without 40 = .ok (.iload_n 1, 1) := by decide +kernel
theorem dX6_without_41 : decode cX6_without 41 = .ok (.invokevirtual 320, 3) := by decide +kernel
theorem dX6_without_44 : decode cX6_without 44 = .ok (.aload_n 0, 1) := by decide +kernel
theorem dX6_without_45 : decode cX6_without 45 = .ok (.getfield 57, 3) := by decide +kernel
theorem dX6_without_48 : decode cX6_without 48 = .ok (.iload_n 1, 1) := by decide +kernel
theorem dX6_without_49 : decode cX6_without 49 = .ok (.invokevirtual 323, 3) := by decide +kernel
theorem dX6_without_52 : decode cX6_without 52 = .ok (.istore 4, 2) := by decide +kernel
theorem dX6_without_54 : decode cX6_without 54 = .ok (.aload_n 0, 1) := by decide +kernel
theorem dX6_without_55 : decode cX6_without 55 = .ok (.getfield 57, 3) := by decide +kernel
theorem dX6_without_58 : decode cX6_without 58 = .ok (.aload_n 0, 1) := by decide +kernel
theorem dX6_without_59 : decode cX6_without 59 = .ok (.getfield 16, 3) := by decide +kernel
theorem dX6_without_62 : decode cX6_without 62 = .ok (.aload_n 0, 1) := by decide +kernel
theorem dX6_without_63 : decode cX6_without 63 = .ok (.getfield 26, 3) := by decide +kernel
theorem dX6_without_66 : decode cX6_without 66 = .ok (.invokevirtual 310, 3) := by decide +kernel
theorem dX6_without_69 : decode cX6_without 69 = .ok (.aload_n 0, 1) := by decide +kernel
theorem dX6_without_70 : decode cX6_without 70 = .ok (.getfield 57, 3) := by decide +kernel
theorem dX6_without_73 : decode cX6_without 73 = .ok (.getfield 313, 3) := by decide +kernel
theorem dX6_without_76 : decode cX6_without 76 = .ok (.getfield 124, 3) := by decide +kernel
theorem dX6_without_79 : decode cX6_without 79 = .ok (.iload_n 2, 1) := by decide +kernel
theorem dX6_without_80 : decode cX6_without 80 = .ok (.iconst 0, 1) := by decide +kernel
theorem dX6_without_81 : decode cX6_without 81 = .ok (.iastore, 1) := by decide +kernel
theorem dX6_without_82 : decode cX6_without 82 = .ok (.aload_n 0, 1) := by decide +kernel
theorem dX6_without_83 : decode cX6_without 83 = .ok (.getfield 57, 3) := by decide +kernel
theorem dX6_without_86 : decode cX6_without 86 = .ok (.iload_n 3, 1) := by decide +kernel
theorem dX6_without_87 : decode cX6_without 87 = .ok (.iload_n 1, 1) := by decide +kernel
theorem dX6_without_88 : decode cX6_without 88 = .ok (.invokevirtual 320, 3) := by decide +kernel
theorem dX6_without_91 : decode cX6_without 91 = .ok (.aload_n 0, 1) := by decide +kernel
theorem dX6_without_92 : decode cX6_without 92 = .ok (.getfield 57, 3) := by decide +kernel
theorem dX6_without_95 : decode cX6_without 95 = .ok (.iload_n 1, 1) := by decide +kernel
theorem dX6_without_96 : decode cX6_without 96 = .ok (.invokevirtual 323, 3) := by decide +kernel
theorem dX6_without_99 : decode cX6_without 99 = .ok (.iload 4, 2) := by decide +kernel
theorem dX6_without_101 : decode cX6_without 101 = .ok (.isub, 1) := by decide +kernel
theorem dX6_without_102 : decode cX6_without 102 = .ok (.ireturn, 1) := by decide +kernel
theorem dX6_hurt_0 : decode cX6_hurt 0 = .ok (.aload_n 0, 1) := by decide +kernel
theorem dX6_hurt_1 : decode cX6_hurt 1 = .ok (.iload_n 1, 1) := by decide +kernel
theorem dX6_hurt_2 : decode cX6_hurt 2 = .ok (.iload_n 3, 1) := by decide +kernel
theorem dX6_hurt_3 : decode cX6_hurt 3 = .ok (.invokevirtual 149, 3) := by decide +kernel
theorem dX6_hurt_6 : decode cX6_hurt 6 = .ok (.ifCond .eq 11, 3) := by decide +kernel
theorem dX6_hurt_9 : decode cX6_hurt 9 = .ok (.aload_n 0, 1) := by decide +kernel
theorem dX6_hurt_10 : decode cX6_hurt 10 = .ok (.iload_n 2, 1) := by decide +kernel
theorem dX6_hurt_11 : decode cX6_hurt 11 = .ok (.invokevirtual 156, 3) := by decide +kernel
theorem dX6_hurt_14 : decode cX6_hurt 14 = .ok (.ifCond .ne 5, 3) := by decide +kernel
theorem dX6_hurt_17 : decode cX6_hurt 17 = .ok (.iconst (-1), 1) := by decide +kernel
theorem dX6_hurt_18 : decode cX6_hurt 18 = .ok (.ireturn, 1) := by decide +kernel
theorem dX6_hurt_19 : decode cX6_hurt 19 = .ok (.aload_n 0, 1) := by decide +kernel
theorem dX6_hurt_20 : decode cX6_hurt 20 = .ok (.invokevirtual 159, 3) := by decide +kernel
theorem dX6_hurt_23 : decode cX6_hurt 23 = .ok (.aload_n 0, 1) := by decide +kernel
theorem dX6_hurt_24 : decode cX6_hurt 24 = .ok (.getfield 57, 3) := by decide +kernel
theorem dX6_hurt_27 : decode cX6_hurt 27 = .ok (.aload_n 0, 1) := by decide +kernel
theorem dX6_hurt_28 : decode cX6_hurt 28 = .ok (.getfield 16, 3) := by decide +kernel
theorem dX6_hurt_31 : decode cX6_hurt 31 = .ok (.aload_n 0, 1) := by decide +kernel
theorem dX6_hurt_32 : decode cX6_hurt 32 = .ok (.getfield 26, 3) := by decide +kernel
theorem dX6_hurt_35 : decode cX6_hurt 35 = .ok (.iload_n 1, 1) := by decide +kernel
theorem dX6_hurt_36 : decode cX6_hurt 36 = .ok (.iload_n 2, 1) := by decide +kernel
theorem dX6_hurt_37 : decode cX6_hurt 37 = .ok (.invokevirtual 333, 3) := by decide +kernel
theorem dX6_hurt_40 : decode cX6_hurt 40 = .ok (.aload_n 0, 1) := by decide +kernel
theorem dX6_hurt_41 : decode cX6_hurt 41 = .ok (.getfield 57, 3) := by decide +kernel
theorem dX6_hurt_44 : decode cX6_hurt 44 = .ok (.sipush 360, 3) := by decide +kernel
theorem dX6_hurt_47 : decode cX6_hurt 47 = .ok (.iconst (-1), 1) := by decide +kernel
theorem dX6_hurt_48 : decode cX6_hurt 48 = .ok (.invokevirtual 320, 3) := by decide +kernel
theorem dX6_hurt_51 : decode cX6_hurt 51 = .ok (.iconst 0, 1) := by decide +kernel
theorem dX6_hurt_52 : decode cX6_hurt 52 = .ok (.aload_n 0, 1) := by decide +kernel
theorem dX6_hurt_53 : decode cX6_hurt 53 = .ok (.getfield 41, 3) := by decide +kernel
theorem dX6_hurt_56 : decode cX6_hurt 56 = .ok (.iload_n 3, 1) := by decide +kernel
theorem dX6_hurt_57 : decode cX6_hurt 57 = .ok (.iaload, 1) := by decide +kernel
theorem dX6_hurt_58 : decode cX6_hurt 58 = .ok (.aload_n 0, 1) := by decide +kernel
theorem dX6_hurt_59 : decode cX6_hurt 59 = .ok (.getfield 57, 3) := by decide +kernel
theorem dX6_hurt_62 : decode cX6_hurt 62 = .ok (.iload_n 3, 1) := by decide +kernel
theorem dX6_hurt_63 : decode cX6_hurt 63 = .ok (.invokevirtual 323, 3) := by decide +kernel
theorem dX6_hurt_66 : decode cX6_hurt 66 = .ok (.isub, 1) := by decide +kernel
theorem dX6_hurt_67 : decode cX6_hurt 67 = .ok (.invokestatic 337, 3) := by decide +kernel
theorem dX6_hurt_70 : decode cX6_hurt 70 = .ok (.ireturn, 1) := by decide +kernel
theorem dX6_movable_0 : decode cX6_movable 0 = .ok (.aload_n 0, 1) := by decide +kernel
theorem dX6_movable_1 : decode cX6_movable 1 = .ok (.iload_n 1, 1) := by decide +kernel
theorem dX6_movable_2 : decode cX6_movable 2 = .ok (.invokevirtual 117, 3) := by decide +kernel
theorem dX6_movable_5 : decode cX6_movable 5 = .ok (.ifCond .ne 5, 3) := by decide +kernel
theorem dX6_movable_8 : decode cX6_movable 8 = .ok (.iconst (-1), 1) := by decide +kernel
theorem dX6_movable_9 : decode cX6_movable 9 = .ok (.ireturn, 1) := by decide +kernel
theorem dX6_movable_10 : decode cX6_movable 10 = .ok (.aload_n 0, 1) := by decide +kernel
theorem dX6_movable_11 : decode cX6_movable 11 = .ok (.invokevirtual 159, 3) := by decide +kernel
theorem dX6_movable_14 : decode cX6_movable 14 = .ok (.iconst 0, 1) := by decide +kernel
theorem dX6_movable_15 : decode cX6_movable 15 = .ok (.istore_n 2, 1) := by decide +kernel
theorem dX6_movable_16 : decode cX6_movable 16 = .ok (.iconst 0, 1) := by decide +kernel
theorem dX6_movable_17 : decode cX6_movable 17 = .ok (.istore_n 3, 1) := by decide +kernel
theorem dX6_movable_18 : decode cX6_movable 18 = .ok (.iload_n 3, 1) := by decide +kernel
theorem dX6_movable_19 : decode cX6_movable 19 = .ok (.aload_n 0, 1) := by decide +kernel
theorem dX6_movable_20 : decode cX6_movable 20 = .ok (.getfield 16, 3) := by decide +kernel
theorem dX6_movable_23 : decode cX6_movable 23 = .ok (.getfield 340, 3) := by decide +kernel
theorem dX6_movable_26 : decode cX6_movable 26 = .ok (.if_icmp .ge 37, 3) := by decide +kernel
theorem dX6_movable_29 : decode cX6_movable 29 = .ok (.iload_n 3, 1) := by decide +kernel
theorem dX6_movable_30 : decode cX6_movable 30 = .ok (.aload_n 0, 1) := by decide +kernel
theorem dX6_movable_31 : decode cX6_movable 31 = .ok (.getfield 26, 3) := by decide +kernel
theorem dX6_movable_34 : decode cX6_movable 34 = .ok (.getfield 139, 3) := by decide +kernel
theorem dX6_movable_37 : decode cX6_movable 37 = .ok (.iload_n 1, 1) := by decide +kernel
theorem dX6_movable_38 : decode cX6_movable 38 = .ok (.iaload, 1) := by decide +kernel
theorem dX6_movable_39 : decode cX6_movable 39 = .ok (.if_icmp .eq 18, 3) := by decide +kernel
theorem dX6_movable_42 : decode cX6_movable 42 = .ok (.aload_n 0, 1) := by decide +kernel
theorem dX6_movable_43 : decode cX6_movable 43 = .ok (.iload_n 1, 1) := by decide +kernel
theorem dX6_movable_44 : decode cX6_movable 44 = .ok (.iload_n 3, 1) := by decide +kernel
theorem dX6_movable_45 : decode cX6_movable 45 = .ok (.invokevirtual 162, 3) := by decide +kernel
theorem dX6_movable_48 : decode cX6_movable 48 = .ok (.ifCond .ne 9, 3) := by decide +kernel
theorem dX6_movable_51 : decode cX6_movable 51 = .ok (.iload_n 2, 1) := by decide +kernel
theorem dX6_movable_52 : decode cX6_movable 52 = .ok (.iconst 1, 1) := by decide +kernel
theorem dX6_movable_53 : decode cX6_movable 53 = .ok (.iload_n 3, 1) := by decide +kernel
theorem dX6_movable_54 : decode cX6_movable 54 = .ok (.ishl, 1) := by decide +kernel
theorem dX6_movable_55 : decode cX6_movable 55 = .ok (.ior, 1) := by decide +kernel
theorem dX6_movable_56 : decode cX6_movable 56 = .ok (.istore_n 2, 1) := by decide +kernel
theorem dX6_movable_57 : decode cX6_movable 57 = .ok (.iinc 3 1, 3) := by decide +kernel
theorem dX6_movable_60 : decode cX6_movable 60 = .ok (.goto (-42), 3) := by decide +kernel
theorem dX6_movable_63 : decode cX6_movable 63 = .ok (.iload_n 2, 1) := by decide +kernel
theorem dX6_movable_64 : decode cX6_movable 64 = .ok (.ireturn, 1) := by decide +kernel
theorem dX6_aged_0 : decode cX6_aged 0 = .ok (.iload_n 1, 1) := by decide +kernel
theorem dX6_aged_1 : decode cX6_aged 1 = .ok (.iconst (-1), 1) := by decide +kernel
theorem dX6_aged_2 : decode cX6_aged 2 = .ok (.if_icmp .ge 5, 3) := by decide +kernel
theorem dX6_aged_5 : decode cX6_aged 5 = .ok (.iconst (-1), 1) := by decide +kernel
theorem dX6_aged_6 : decode cX6_aged 6 = .ok (.ireturn, 1) := by decide +kernel
theorem dX6_aged_7 : decode cX6_aged 7 = .ok (.aload_n 0, 1) := by decide +kernel
theorem dX6_aged_8 : decode cX6_aged 8 = .ok (.getfield 50, 3) := by decide +kernel
theorem dX6_aged_11 : decode cX6_aged 11 = .ok (.aload_n 0, 1) := by decide +kernel
theorem dX6_aged_12 : decode cX6_aged 12 = .ok (.getfield 16, 3) := by decide +kernel
theorem dX6_aged_15 : decode cX6_aged 15 = .ok (.aload_n 0, 1) := by decide +kernel
theorem dX6_aged_16 : decode cX6_aged 16 = .ok (.getfield 26, 3) := by decide +kernel
theorem dX6_aged_19 : decode cX6_aged 19 = .ok (.invokevirtual 102, 3) := by decide +kernel
theorem dX6_aged_22 : decode cX6_aged 22 = .ok (.iload_n 1, 1) := by decide +kernel
theorem dX6_aged_23 : decode cX6_aged 23 = .ok (.iconst (-1), 1) := by decide +kernel
theorem dX6_aged_24 : decode cX6_aged 24 = .ok (.if_icmp .ne 11, 3) := by decide +kernel
theorem dX6_aged_27 : decode cX6_aged 27 = .ok (.aload_n 0, 1) := by decide +kernel
theorem dX6_aged_28 : decode cX6_aged 28 = .ok (.getfield 50, 3) := by decide +kernel
theorem dX6_aged_31 : decode cX6_aged 31 = .ok (.getfield 286, 3) := by decide +kernel
theorem dX6_aged_34 : decode cX6_aged 34 = .ok (.ireturn, 1) := by decide +kernel
theorem dX6_aged_35 : decode cX6_aged 35 = .ok (.iload_n 1, 1) := by decide +kernel
theorem dX6_aged_36 : decode cX6_aged 36 = .ok (.aload_n 0, 1) := by decide +kernel
theorem dX6_aged_37 : decode cX6_aged 37 = .ok (.getfield 50, 3) := by decide +kernel
theorem dX6_aged_40 : decode cX6_aged 40 = .ok (.getfield 286, 3) := by decide +kernel
theorem dX6_aged_43 : decode cX6_aged 43 = .ok (.if_icmp .ge 18, 3) := by decide +kernel
theorem dX6_aged_46 : decode cX6_aged 46 = .ok (.aload_n 0, 1) := by decide +kernel
theorem dX6_aged_47 : decode cX6_aged 47 = .ok (.getfield 50, 3) := by decide +kernel
theorem dX6_aged_50 : decode cX6_aged 50 = .ok (.getfield 289, 3) := by decide +kernel
theorem dX6_aged_53 : decode cX6_aged 53 = .ok (.iload_n 1, 1) := by decide +kernel
theorem dX6_aged_54 : decode cX6_aged 54 = .ok (.iaload, 1) := by decide +kernel
theorem dX6_aged_55 : decode cX6_aged 55 = .ok (.invokestatic 298, 3) := by decide +kernel
theorem dX6_aged_58 : decode cX6_aged 58 = .ok (.goto 5, 3) := by decide +kernel
theorem dX6_aged_61 : decode cX6_aged 61 = .ok (.bipush (-2), 2) := by decide +kernel
theorem dX6_aged_63 : decode cX6_aged 63 = .ok (.ireturn, 1) := by decide +kernel
theorem dX6_runs_0 : decode cX6_runs 0 = .ok (.iload_n 1, 1) := by decide +kernel
theorem dX6_runs_1 : decode cX6_runs 1 = .ok (.invokestatic 317, 3) := by decide +kernel
theorem dX6_runs_4 : decode cX6_runs 4 = .ok (.ifCond .eq 12, 3) := by decide +kernel
theorem dX6_runs_7 : decode cX6_runs 7 = .ok (.iload_n 2, 1) := by decide +kernel
theorem dX6_runs_8 : decode cX6_runs 8 = .ok (.ifCond .lt 8, 3) := by decide +kernel
theorem dX6_runs_11 : decode cX6_runs 11 = .ok (.iload_n 2, 1) := by decide +kernel
theorem dX6_runs_12 : decode cX6_runs 12 = .ok (.iconst 3, 1) := by decide +kernel
theorem dX6_runs_13 : decode cX6_runs 13 = .ok (.if_icmp .le 5, 3) := by decide +kernel
theorem dX6_runs_16 : decode cX6_runs 16 = .ok (.iconst (-1), 1) := by decide +kernel
theorem dX6_runs_17 : decode cX6_runs 17 = .ok (.ireturn, 1) := by decide +kernel
theorem dX6_runs_18 : decode cX6_runs 18 = .ok (.aload_n 0, 1) := by decide +kernel
theorem dX6_runs_19 : decode cX6_runs 19 = .ok (.getfield 57, 3) := by decide +kernel
theorem dX6_runs_22 : decode cX6_runs 22 = .ok (.aload_n 0, 1) := by decide +kernel
theorem dX6_runs_23 : decode cX6_runs 23 = .ok (.getfield 16, 3) := by decide +kernel
theorem dX6_runs_26 : decode cX6_runs 26 = .ok (.aload_n 0, 1) := by decide +kernel
theorem dX6_runs_27 : decode cX6_runs 27 = .ok (.getfield 26, 3) := by decide +kernel
theorem dX6_runs_30 : decode cX6_runs 30 = .ok (.invokevirtual 310, 3) := by decide +kernel
theorem dX6_runs_33 : decode cX6_runs 33 = .ok (.aload_n 0, 1) := by decide +kernel
theorem dX6_runs_34 : decode cX6_runs 34 = .ok (.getfield 57, 3) := by decide +kernel
theorem dX6_runs_37 : decode cX6_runs 37 = .ok (.iload_n 1, 1) := by decide +kernel
theorem dX6_runs_38 : decode cX6_runs 38 = .ok (.iconst (-1), 1) := by decide +kernel
theorem dX6_runs_39 : decode cX6_runs 39 = .ok (.invokevirtual 320, 3) := by decide +kernel
theorem dX6_runs_42 : decode cX6_runs 42 = .ok (.iload_n 2, 1) := by decide +kernel
theorem dX6_runs_43 : decode cX6_runs 43 = .ok (.tableswitch 52 0 2 #[25, 34, 43], 25) := by decide +kernel
theorem dX6_runs_68 : decode cX6_runs 68 = .ok (.aload_n 0, 1) := by decide +kernel
theorem dX6_runs_69 : decode cX6_runs 69 = .ok (.getfield 57, 3) := by decide +kernel
theorem dX6_runs_72 : decode cX6_runs 72 = .ok (.iconst 1, 1) := by decide +kernel
theorem dX6_runs_73 : decode cX6_runs 73 = .ok (.invokevirtual 343, 3) := by decide +kernel
theorem dX6_runs_76 : decode cX6_runs 76 = .ok (.ireturn, 1) := by decide +kernel
theorem dX6_runs_77 : decode cX6_runs 77 = .ok (.aload_n 0, 1) := by decide +kernel
theorem dX6_runs_78 : decode cX6_runs 78 = .ok (.getfield 57, 3) := by decide +kernel
theorem dX6_runs_81 : decode cX6_runs 81 = .ok (.iconst 2, 1) := by decide +kernel
theorem dX6_runs_82 : decode cX6_runs 82 = .ok (.invokevirtual 343, 3) := by decide +kernel
theorem dX6_runs_85 : decode cX6_runs 85 = .ok (.ireturn, 1) := by decide +kernel
theorem dX6_runs_86 : decode cX6_runs 86 = .ok (.aload_n 0, 1) := by decide +kernel
theorem dX6_runs_87 : decode cX6_runs 87 = .ok (.getfield 57, 3) := by decide +kernel
theorem dX6_runs_90 : decode cX6_runs 90 = .ok (.iconst 3, 1) := by decide +kernel
theorem dX6_runs_91 : decode cX6_runs 91 = .ok (.invokevirtual 343, 3) := by decide +kernel
theorem dX6_runs_94 : decode cX6_runs 94 = .ok (.ireturn, 1) := by decide +kernel
theorem dX6_runs_95 : decode cX6_runs 95 = .ok (.aload_n 0, 1) := by decide +kernel
theorem dX6_runs_96 : decode cX6_runs 96 = .ok (.getfield 57, 3) := by decide +kernel
theorem dX6_runs_99 : decode cX6_runs 99 = .ok (.getfield 346, 3) := by decide +kernel
theorem dX6_runs_102 : decode cX6_runs 102 = .ok (.ireturn, 1) := by decide +kernel
theorem dX6_coming_0 : decode cX6_coming 0 = .ok (.aload_n 0, 1) := by decide +kernel
theorem dX6_coming_1 : decode cX6_coming 1 = .ok (.iload_n 1, 1) := by decide +kernel
theorem dX6_coming_2 : decode cX6_coming 2 = .ok (.invokevirtual 156, 3) := by decide +kernel
theorem dX6_coming_5 : decode cX6_coming 5 = .ok (.ifCond .eq 13, 3) := by decide +kernel
theorem dX6_coming_8 : decode cX6_coming 8 = .ok (.iload_n 2, 1) := by decide +kernel
theorem dX6_coming_9 : decode cX6_coming 9 = .ok (.ifCond .lt 9, 3) := by decide +kernel
theorem dX6_coming_12 : decode cX6_coming 12 = .ok (.iload_n 2, 1) := by decide +kernel
theorem dX6_coming_13 : decode cX6_coming 13 = .ok (.bipush 30, 2) := by decide +kernel
theorem dX6_coming_15 : decode cX6_coming 15 = .ok (.if_icmp .lt 5, 3) := by decide +kernel
theorem dX6_coming_18 : decode cX6_coming 18 = .ok (.iconst (-1), 1) := by decide +kernel
theorem dX6_coming_19 : decode cX6_coming 19 = .ok (.ireturn, 1) := by decide +kernel
theorem dX6_coming_20 : decode cX6_coming 20 = .ok (.aload_n 0, 1) := by decide +kernel
theorem dX6_coming_21 : decode cX6_coming 21 = .ok (.getfield 26, 3) := by decide +kernel
theorem dX6_coming_24 : decode cX6_coming 24 = .ok (.getfield 363, 3) := by decide +kernel
theorem dX6_coming_27 : decode cX6_coming 27 = .ok (.aload_n 0, 1) := by decide +kernel
theorem dX6_coming_28 : decode cX6_coming 28 = .ok (.getfield 26, 3) := by decide +kernel
theorem dX6_coming_31 : decode cX6_coming 31 = .ok (.iload_n 2, 1) := by decide +kernel
theorem dX6_coming_32 : decode cX6_coming 32 = .ok (.invokevirtual 366, 3) := by decide +kernel
theorem dX6_coming_35 : decode cX6_coming 35 = .ok (.iload_n 1, 1) := by decide +kernel
theorem dX6_coming_36 : decode cX6_coming 36 = .ok (.iadd, 1) := by decide +kernel
theorem dX6_coming_37 : decode cX6_coming 37 = .ok (.iaload, 1) := by decide +kernel
theorem dX6_coming_38 : decode cX6_coming 38 = .ok (.ireturn, 1) := by decide +kernel
theorem dX6_above_0 : decode cX6_above 0 = .ok (.aload_n 0, 1) := by decide +kernel
theorem dX6_above_1 : decode cX6_above 1 = .ok (.iload_n 1, 1) := by decide +kernel
theorem dX6_above_2 : decode cX6_above 2 = .ok (.invokevirtual 156, 3) := by decide +kernel
theorem dX6_above_5 : decode cX6_above 5 = .ok (.ifCond .ne 5, 3) := by decide +kernel
theorem dX6_above_8 : decode cX6_above 8 = .ok (.iconst (-1), 1) := by decide +kernel
theorem dX6_above_9 : decode cX6_above 9 = .ok (.ireturn, 1) := by decide +kernel
theorem dX6_above_10 : decode cX6_above 10 = .ok (.iconst 0, 1) := by decide +kernel
theorem dX6_above_11 : decode cX6_above 11 = .ok (.istore_n 2, 1) := by decide +kernel
theorem dX6_above_12 : decode cX6_above 12 = .ok (.iconst 0, 1) := by decide +kernel
theorem dX6_above_13 : decode cX6_above 13 = .ok (.istore_n 3, 1) := by decide +kernel
theorem dX6_above_14 : decode cX6_above 14 = .ok (.iload_n 3, 1) := by decide +kernel
theorem dX6_above_15 : decode cX6_above 15 = .ok (.aload_n 0, 1) := by decide +kernel
theorem dX6_above_16 : decode cX6_above 16 = .ok (.getfield 16, 3) := by decide +kernel
theorem dX6_above_19 : decode cX6_above 19 = .ok (.getfield 340, 3) := by decide +kernel
theorem dX6_above_22 : decode cX6_above 22 = .ok (.if_icmp .ge 27, 3) := by decide +kernel
theorem dX6_above_25 : decode cX6_above 25 = .ok (.aload_n 0, 1) := by decide +kernel
theorem dX6_above_26 : decode cX6_above 26 = .ok (.getfield 16, 3) := by decide +kernel
theorem dX6_above_29 : decode cX6_above 29 = .ok (.iload_n 3, 1) := by decide +kernel
theorem dX6_above_30 : decode cX6_above 30 = .ok (.iload_n 1, 1) := by decide +kernel
theorem dX6_above_31 : decode cX6_above 31 = .ok (.invokevirtual 142, 3) := by decide +kernel
theorem dX6_above_34 : decode cX6_above 34 = .ok (.ifCond .eq 9, 3) := by decide +kernel
theorem dX6_above_37 : decode cX6_above 37 = .ok (.iload_n 2, 1) := by decide +kernel
theorem dX6_above_38 : decode cX6_above 38 = .ok (.iconst 1, 1) := by decide +kernel
theorem dX6_above_39 : decode cX6_above 39 = .ok (.iload_n 3, 1) := by decide +kernel
theorem dX6_above_40 : decode cX6_above 40 = .ok (.ishl, 1) := by decide +kernel
theorem dX6_above_41 : decode cX6_above 41 = .ok (.ior, 1) := by decide +kernel
theorem dX6_above_42 : decode cX6_above 42 = .ok (.istore_n 2, 1) := by decide +kernel
theorem dX6_above_43 : decode cX6_above 43 = .ok (.iinc 3 1, 3) := by decide +kernel
theorem dX6_above_46 : decode cX6_above 46 = .ok (.goto (-32), 3) := by decide +kernel
theorem dX6_above_49 : decode cX6_above 49 = .ok (.iload_n 2, 1) := by decide +kernel
theorem dX6_above_50 : decode cX6_above 50 = .ok (.ireturn, 1) := by decide +kernel
theorem dX6_thirst_0 : decode cX6_thirst 0 = .ok (.aload_n 0, 1) := by decide +kernel
theorem dX6_thirst_1 : decode cX6_thirst 1 = .ok (.iload_n 1, 1) := by decide +kernel
theorem dX6_thirst_2 : decode cX6_thirst 2 = .ok (.invokevirtual 156, 3) := by decide +kernel
theorem dX6_thirst_5 : decode cX6_thirst 5 = .ok (.ifCond .ne 5, 3) := by decide +kernel
theorem dX6_thirst_8 : decode cX6_thirst 8 = .ok (.iconst (-1), 1) := by decide +kernel
theorem dX6_thirst_9 : decode cX6_thirst 9 = .ok (.ireturn, 1) := by decide +kernel
theorem dX6_thirst_10 : decode cX6_thirst 10 = .ok (.aload_n 0, 1) := by decide +kernel
theorem dX6_thirst_11 : decode cX6_thirst 11 = .ok (.invokevirtual 238, 3) := by decide +kernel
theorem dX6_thirst_14 : decode cX6_thirst 14 = .ok (.iconst 0, 1) := by decide +kernel
theorem dX6_thirst_15 : decode cX6_thirst 15 = .ok (.istore_n 2, 1) := by decide +kernel
theorem dX6_thirst_16 : decode cX6_thirst 16 = .ok (.iload_n 1, 1) := by decide +kernel
theorem dX6_thirst_17 : decode cX6_thirst 17 = .ok (.istore_n 3, 1) := by decide +kernel
theorem dX6_thirst_18 : decode cX6_thirst 18 = .ok (.iconst 0, 1) := by decide +kernel
theorem dX6_thirst_19 : decode cX6_thirst 19 = .ok (.istore 4, 2) := by decide +kernel
theorem dX6_thirst_21 : decode cX6_thirst 21 = .ok (.iload 4, 2) := by decide +kernel
theorem dX6_thirst_23 : decode cX6_thirst 23 = .ok (.bipush 12, 2) := by decide +kernel
theorem dX6_thirst_25 : decode cX6_thirst 25 = .ok (.if_icmp .ge 49, 3) := by decide +kernel
theorem dX6_thirst_28 : decode cX6_thirst 28 = .ok (.iload_n 3, 1) := by decide +kernel
theorem dX6_thirst_29 : decode cX6_thirst 29 = .ok (.ifCond .lt 45, 3) := by decide +kernel
theorem dX6_thirst_32 : decode cX6_thirst 32 = .ok (.iload_n 2, 1) := by decide +kernel
theorem dX6_thirst_33 : decode cX6_thirst 33 = .ok (.iconst 0, 1) := by decide +kernel
theorem dX6_thirst_34 : decode cX6_thirst 34 = .ok (.aload_n 0, 1) := by decide +kernel
theorem dX6_thirst_35 : decode cX6_thirst 35 = .ok (.getfield 16, 3) := by decide +kernel
theorem dX6_thirst_38 : decode cX6_thirst 38 = .ok (.getfield 189, 3) := by decide +kernel
theorem dX6_thirst_41 : decode cX6_thirst 41 = .ok (.iload_n 3, 1) := by decide +kernel
theorem dX6_thirst_42 : decode cX6_thirst 42 = .ok (.iaload, 1) := by decide +kernel
theorem dX6_thirst_43 : decode cX6_thirst 43 = .ok (.aload_n 0, 1) := by decide +kernel
theorem dX6_thirst_44 : decode cX6_thirst 44 = .ok (.getfield 50, 3) := by decide +kernel
theorem dX6_thirst_47 : decode cX6_thirst 47 = .ok (.getfield 247, 3) := by decide +kernel
theorem dX6_thirst_50 : decode cX6_thirst 50 = .ok (.iload_n 3, 1) := by decide +kernel
theorem dX6_thirst_51 : decode cX6_thirst 51 = .ok (.iaload, 1) := by decide +kernel
theorem dX6_thirst_52 : decode cX6_thirst 52 = .ok (.isub, 1) := by decide +kernel
theorem dX6_thirst_53 : decode cX6_thirst 53 = .ok (.invokestatic 337, 3) := by decide +kernel
theorem dX6_thirst_56 : decode cX6_thirst 56 = .ok (.iadd, 1) := by decide +kernel
theorem dX6_thirst_57 : decode cX6_thirst 57 = .ok (.istore_n 2, 1) := by decide +kernel
theorem dX6_thirst_58 : decode cX6_thirst 58 = .ok (.aload_n 0, 1) := by decide +kernel
theorem dX6_thirst_59 : decode cX6_thirst 59 = .ok (.getfield 16, 3) := by decide +kernel
theorem dX6_thirst_62 : decode cX6_thirst 62 = .ok (.getfield 186, 3) := by decide +kernel
theorem dX6_thirst_65 : decode cX6_thirst 65 = .ok (.iload_n 3, 1) := by decide +kernel
theorem dX6_thirst_66 : decode cX6_thirst 66 = .ok (.iaload, 1) := by decide +kernel
theorem dX6_thirst_67 : decode cX6_thirst 67 = .ok (.istore_n 3, 1) := by decide +kernel
theorem dX6_thirst_68 : decode cX6_thirst 68 = .ok (.iinc 4 1, 3) := by decide +kernel
theorem dX6_thirst_71 : decode cX6_thirst 71 = .ok (.goto (-50), 3) := by decide +kernel
theorem dX6_thirst_74 : decode cX6_thirst 74 = .ok (.iload_n 2, 1) := by decide +kernel
theorem dX6_thirst_75 : decode cX6_thirst 75 = .ok (.sipush 9999, 3) := by decide +kernel
theorem dX6_thirst_78 : decode cX6_thirst 78 = .ok (.invokestatic 172, 3) := by decide +kernel
theorem dX6_thirst_81 : decode cX6_thirst 81 = .ok (.ireturn, 1) := by decide +kernel
theorem dX6_dry_0 : decode cX6_dry 0 = .ok (.iload_n 1, 1) := by decide +kernel
theorem dX6_dry_1 : decode cX6_dry 1 = .ok (.iconst 1, 1) := by decide +kernel
theorem dX6_dry_2 : decode cX6_dry 2 = .ok (.if_icmp .lt 9, 3) := by decide +kernel
theorem dX6_dry_5 : decode cX6_dry 5 = .ok (.iload_n 1, 1) := by decide +kernel
theorem dX6_dry_6 : decode cX6_dry 6 = .ok (.bipush 10, 2) := by decide +kernel
theorem dX6_dry_8 : decode cX6_dry 8 = .ok (.if_icmp .le 5, 3) := by decide +kernel
theorem dX6_dry_11 : decode cX6_dry 11 = .ok (.iconst (-1), 1) := by decide +kernel
theorem dX6_dry_12 : decode cX6_dry 12 = .ok (.ireturn, 1) := by decide +kernel
theorem dX6_dry_13 : decode cX6_dry 13 = .ok (.iconst 0, 1) := by decide +kernel
theorem dX6_dry_14 : decode cX6_dry 14 = .ok (.istore_n 2, 1) := by decide +kernel
theorem dX6_dry_15 : decode cX6_dry 15 = .ok (.iload_n 2, 1) := by decide +kernel
theorem dX6_dry_16 : decode cX6_dry 16 = .ok (.sipush 400, 3) := by decide +kernel
theorem dX6_dry_19 : decode cX6_dry 19 = .ok (.if_icmp .gt 48, 3) := by decide +kernel
theorem dX6_dry_22 : decode cX6_dry 22 = .ok (.aload_n 0, 1) := by decide +kernel
theorem dX6_dry_23 : decode cX6_dry 23 = .ok (.getfield 57, 3) := by decide +kernel
theorem dX6_dry_26 : decode cX6_dry 26 = .ok (.aload_n 0, 1) := by decide +kernel
theorem dX6_dry_27 : decode cX6_dry 27 = .ok (.getfield 16, 3) := by decide +kernel
theorem dX6_dry_30 : decode cX6_dry 30 = .ok (.aload_n 0, 1) := by decide +kernel
theorem dX6_dry_31 : decode cX6_dry 31 = .ok (.getfield 26, 3) := by decide +kernel
theorem dX6_dry_34 : decode cX6_dry 34 = .ok (.invokevirtual 310, 3) := by decide +kernel
theorem dX6_dry_37 : decode cX6_dry 37 = .ok (.aload_n 0, 1) := by decide +kernel
theorem dX6_dry_38 : decode cX6_dry 38 = .ok (.getfield 57, 3) := by decide +kernel
theorem dX6_dry_41 : decode cX6_dry 41 = .ok (.getfield 313, 3) := by decide +kernel
theorem dX6_dry_44 : decode cX6_dry 44 = .ok (.iload_n 2, 1) := by decide +kernel
theorem dX6_dry_45 : decode cX6_dry 45 = .ok (.putfield 114, 3) := by decide +kernel
theorem dX6_dry_48 : decode cX6_dry 48 = .ok (.aload_n 0, 1) := by decide +kernel
theorem dX6_dry_49 : decode cX6_dry 49 = .ok (.getfield 57, 3) := by decide +kernel
theorem dX6_dry_52 : decode cX6_dry 52 = .ok (.iload_n 1, 1) := by decide +kernel
theorem dX6_dry_53 : decode cX6_dry 53 = .ok (.invokevirtual 379, 3) := by decide +kernel
theorem dX6_dry_56 : decode cX6_dry 56 = .ok (.ifCond .eq 5, 3) := by decide +kernel
theorem dX6_dry_59 : decode cX6_dry 59 = .ok (.iload_n 2, 1) := by decide +kernel
theorem dX6_dry_60 : decode cX6_dry 60 = .ok (.ireturn, 1) := by decide +kernel
theorem dX6_dry_61 : decode cX6_dry 61 = .ok (.iinc 2 1, 3) := by decide +kernel
theorem dX6_dry_64 : decode cX6_dry 64 = .ok (.goto (-49), 3) := by decide +kernel
theorem dX6_dry_67 : decode cX6_dry 67 = .ok (.bipush (-2), 2) := by decide +kernel
theorem dX6_dry_69 : decode cX6_dry 69 = .ok (.ireturn, 1) := by decide +kernel
theorem dX6_full_0 : decode cX6_full 0 = .ok (.aload_n 0, 1) := by decide +kernel
theorem dX6_full_1 : decode cX6_full 1 = .ok (.iload_n 1, 1) := by decide +kernel
theorem dX6_full_2 : decode cX6_full 2 = .ok (.invokevirtual 127, 3) := by decide +kernel
theorem dX6_full_5 : decode cX6_full 5 = .ok (.ifCond .eq 12, 3) := by decide +kernel
theorem dX6_full_8 : decode cX6_full 8 = .ok (.iload_n 2, 1) := by decide +kernel
theorem dX6_full_9 : decode cX6_full 9 = .ok (.ifCond .lt 8, 3) := by decide +kernel
theorem dX6_full_12 : decode cX6_full 12 = .ok (.iload_n 2, 1) := by decide +kernel
theorem dX6_full_13 : decode cX6_full 13 = .ok (.iconst 1, 1) := by decide +kernel
theorem dX6_full_14 : decode cX6_full 14 = .ok (.if_icmp .le 5, 3) := by decide +kernel
theorem dX6_full_17 : decode cX6_full 17 = .ok (.iconst (-1), 1) := by decide +kernel
theorem dX6_full_18 : decode cX6_full 18 = .ok (.ireturn, 1) := by decide +kernel
theorem dX6_full_19 : decode cX6_full 19 = .ok (.aload_n 0, 1) := by decide +kernel
theorem dX6_full_20 : decode cX6_full 20 = .ok (.getfield 57, 3) := by decide +kernel
theorem dX6_full_23 : decode cX6_full 23 = .ok (.aload_n 0, 1) := by decide +kernel
theorem dX6_full_24 : decode cX6_full 24 = .ok (.getfield 16, 3) := by decide +kernel
theorem dX6_full_27 : decode cX6_full 27 = .ok (.aload_n 0, 1) := by decide +kernel
theorem dX6_full_28 : decode cX6_full 28 = .ok (.getfield 26, 3) := by decide +kernel
theorem dX6_full_31 : decode cX6_full 31 = .ok (.invokevirtual 310, 3) := by decide +kernel
theorem dX6_full_34 : decode cX6_full 34 = .ok (.aload_n 0, 1) := by decide +kernel
theorem dX6_full_35 : decode cX6_full 35 = .ok (.getfield 57, 3) := by decide +kernel
theorem dX6_full_38 : decode cX6_full 38 = .ok (.iload_n 1, 1) := by decide +kernel
theorem dX6_full_39 : decode cX6_full 39 = .ok (.iload_n 2, 1) := by decide +kernel
theorem dX6_full_40 : decode cX6_full 40 = .ok (.ifCond .ne 15, 3) := by decide +kernel
theorem dX6_full_43 : decode cX6_full 43 = .ok (.aload_n 0, 1) := by decide +kernel
theorem dX6_full_44 : decode cX6_full 44 = .ok (.getfield 16, 3) := by decide +kernel
theorem dX6_full_47 : decode cX6_full 47 = .ok (.getfield 226, 3) := by decide +kernel
theorem dX6_full_50 : decode cX6_full 50 = .ok (.iload_n 1, 1) := by decide +kernel
theorem dX6_full_51 : decode cX6_full 51 = .ok (.iaload, 1) := by decide +kernel
theorem dX6_full_52 : decode cX6_full 52 = .ok (.goto 4, 3) := by decide +kernel
theorem dX6_full_55 : decode cX6_full 55 = .ok (.iconst 0, 1) := by decide +kernel
theorem dX6_full_56 : decode cX6_full 56 = .ok (.invokevirtual 382, 3) := by decide +kernel
theorem dX6_full_59 : decode cX6_full 59 = .ok (.ireturn, 1) := by decide +kernel
theorem dX6_swap_0 : decode cX6_swap 0 = .ok (.aload_n 0, 1) := by decide +kernel
theorem dX6_swap_1 : decode cX6_swap 1 = .ok (.iload_n 1, 1) := by decide +kernel
theorem dX6_swap_2 : decode cX6_swap 2 = .ok (.iload_n 2, 1) := by decide +kernel
theorem dX6_swap_3 : decode cX6_swap 3 = .ok (.invokevirtual 149, 3) := by decide +kernel
theorem dX6_swap_6 : decode cX6_swap 6 = .ok (.ifCond .eq 21, 3) := by decide +kernel
theorem dX6_swap_9 : decode cX6_swap 9 = .ok (.iload_n 3, 1) := by decide +kernel
theorem dX6_swap_10 : decode cX6_swap 10 = .ok (.invokestatic 317, 3) := by decide +kernel
theorem dX6_swap_13 : decode cX6_swap 13 = .ok (.ifCond .eq 14, 3) := by decide +kernel
theorem dX6_swap_16 : decode cX6_swap 16 = .ok (.iload 4, 2) := by decide +kernel
theorem dX6_swap_18 : decode cX6_swap 18 = .ok (.ifCond .lt 9, 3) := by decide +kernel
theorem dX6_swap_21 : decode cX6_swap 21 = .ok (.iload 4, 2) := by decide +kernel
theorem dX6_swap_23 : decode cX6_swap 23 = .ok (.iconst 1, 1) := by decide +kernel
theorem dX6_swap_24 : decode cX6_swap 24 = .ok (.if_icmp .le 7, 3) := by decide +kernel
theorem dX6_swap_27 : decode cX6_swap 27 = .ok (.ldc_w 332, 3) := by decide +kernel
theorem dX6_swap_30 : decode cX6_swap 30 = .ok (.ireturn, 1) := by decide +kernel
theorem dX6_swap_31 : decode cX6_swap 31 = .ok (.iload 4, 2) := by decide +kernel
theorem dX6_swap_33 : decode cX6_swap 33 = .ok (.ifCond .ne 7, 3) := by decide +kernel
theorem dX6_swap_36 : decode cX6_swap 36 = .ok (.iload_n 1, 1) := by decide +kernel
theorem dX6_swap_37 : decode cX6_swap 37 = .ok (.goto 4, 3) := by decide +kernel
theorem dX6_swap_40 : decode cX6_swap 40 = .ok (.iload_n 2, 1) := by decide +kernel
theorem dX6_swap_41 : decode cX6_swap 41 = .ok (.istore 5, 2) := by decide +kernel
theorem dX6_swap_43 : decode cX6_swap 43 = .ok (.aload_n 0, 1) := by decide +kernel
theorem dX6_swap_44 : decode cX6_swap 44 = .ok (.getfield 57, 3) := by decide +kernel
theorem dX6_swap_47 : decode cX6_swap 47 = .ok (.aload_n 0, 1) := by decide +kernel
theorem dX6_swap_48 : decode cX6_swap 48 = .ok (.getfield 16, 3) := by decide +kernel
theorem dX6_swap_51 : decode cX6_swap 51 = .ok (.aload_n 0, 1) := by decide +kernel
theorem dX6_swap_52 : decode cX6_swap 52 = .ok (.getfield 26, 3) := by decide +kernel
theorem dX6_swap_55 : decode cX6_swap 55 = .ok (.invokevirtual 310, 3) := by decide +kernel
theorem dX6_swap_58 : decode cX6_swap 58 = .ok (.aload_n 0, 1) := by decide +kernel
theorem dX6_swap_59 : decode cX6_swap 59 = .ok (.getfield 57, 3) := by decide +kernel
theorem dX6_swap_62 : decode cX6_swap 62 = .ok (.iload_n 3, 1) := by decide +kernel
theorem dX6_swap_63 : decode cX6_swap 63 = .ok (.iload 5, 2) := by decide +kernel
theorem dX6_swap_65 : decode cX6_swap 65 = .ok (.invokevirtual 320, 3) := by decide +kernel
theorem dX6_swap_68 : decode cX6_swap 68 = .ok (.aload_n 0, 1) := by decide +kernel
theorem dX6_swap_69 : decode cX6_swap 69 = .ok (.getfield 57, 3) := by decide +kernel
theorem dX6_swap_72 : decode cX6_swap 72 = .ok (.iload 5, 2) := by decide +kernel
theorem dX6_swap_74 : decode cX6_swap 74 = .ok (.invokevirtual 323, 3) := by decide +kernel
theorem dX6_swap_77 : decode cX6_swap 77 = .ok (.istore 6, 2) := by decide +kernel
theorem dX6_swap_79 : decode cX6_swap 79 = .ok (.aload_n 0, 1) := by decide +kernel
theorem dX6_swap_80 : decode cX6_swap 80 = .ok (.getfield 57, 3) := by decide +kernel
theorem dX6_swap_83 : decode cX6_swap 83 = .ok (.aload_n 0, 1) := by decide +kernel
theorem dX6_swap_84 : decode cX6_swap 84 = .ok (.getfield 16, 3) := by decide +kernel
theorem dX6_swap_87 : decode cX6_swap 87 = .ok (.aload_n 0, 1) := by decide +kernel
theorem dX6_swap_88 : decode cX6_swap 88 = .ok (.getfield 26, 3) := by decide +kernel
theorem dX6_swap_91 : decode cX6_swap 91 = .ok (.invokevirtual 310, 3) := by decide +kernel
theorem dX6_swap_94 : decode cX6_swap 94 = .ok (.aload_n 0, 1) := by decide +kernel
theorem dX6_swap_95 : decode cX6_swap 95 = .ok (.getfield 57, 3) := by decide +kernel
theorem dX6_swap_98 : decode cX6_swap 98 = .ok (.getfield 313, 3) := by decide +kernel
theorem dX6_swap_101 : decode cX6_swap 101 = .ok (.iload_n 1, 1) := by decide +kernel
theorem dX6_swap_102 : decode cX6_swap 102 = .ok (.iload_n 2, 1) := by decide +kernel
theorem dX6_swap_103 : decode cX6_swap 103 = .ok (.invokevirtual 152, 3) := by decide +kernel
theorem dX6_swap_106 : decode cX6_swap 106 = .ok (.aload_n 0, 1) := by decide +kernel
theorem dX6_swap_107 : decode cX6_swap 107 = .ok (.getfield 57, 3) := by decide +kernel
theorem dX6_swap_110 : decode cX6_swap 110 = .ok (.iload_n 3, 1) := by decide +kernel
theorem dX6_swap_111 : decode cX6_swap 111 = .ok (.iload 5, 2) := by decide +kernel
theorem dX6_swap_113 : decode cX6_swap 113 = .ok (.invokevirtual 320, 3) := by decide +kernel
theorem dX6_swap_116 : decode cX6_swap 116 = .ok (.aload_n 0, 1) := by decide +kernel
theorem dX6_swap_117 : decode cX6_swap 117 = .ok (.getfield 57, 3) := by decide +kernel
theorem dX6_swap_120 : decode cX6_swap 120 = .ok (.iload 5, 2) := by decide +kernel
theorem dX6_swap_122 : decode cX6_swap 122 = .ok (.invokevirtual 323, 3) := by decide +kernel
theorem dX6_swap_125 : decode cX6_swap 125 = .ok (.iload 6, 2) := by decide +kernel
theorem dX6_swap_127 : decode cX6_swap 127 = .ok (.isub, 1) := by decide +kernel
theorem dX6_swap_128 : decode cX6_swap 128 = .ok (.ireturn, 1) := by decide +kernel
theorem dX6_spell_0 : decode cX6_spell 0 = .ok (.aload_n 0, 1) := by decide +kernel
theorem dX6_spell_1 : decode cX6_spell 1 = .ok (.iload_n 1, 1) := by decide +kernel
theorem dX6_spell_2 : decode cX6_spell 2 = .ok (.invokevirtual 117, 3) := by decide +kernel
theorem dX6_spell_5 : decode cX6_spell 5 = .ok (.ifCond .eq 19, 3) := by decide +kernel
theorem dX6_spell_8 : decode cX6_spell 8 = .ok (.iload_n 2, 1) := by decide +kernel
theorem dX6_spell_9 : decode cX6_spell 9 = .ok (.invokestatic 317, 3) := by decide +kernel
theorem dX6_spell_12 : decode cX6_spell 12 = .ok (.ifCond .eq 12, 3) := by decide +kernel
theorem dX6_spell_15 : decode cX6_spell 15 = .ok (.iload_n 3, 1) := by decide +kernel
theorem dX6_spell_16 : decode cX6_spell 16 = .ok (.ifCond .lt 8, 3) := by decide +kernel
theorem dX6_spell_19 : decode cX6_spell 19 = .ok (.iload_n 3, 1) := by decide +kernel
theorem dX6_spell_20 : decode cX6_spell 20 = .ok (.iconst 1, 1) := by decide +kernel
theorem dX6_spell_21 : decode cX6_spell 21 = .ok (.if_icmp .le 5, 3) := by decide +kernel
theorem dX6_spell_24 : decode cX6_spell 24 = .ok (.iconst (-1), 1) := by decide +kernel
theorem dX6_spell_25 : decode cX6_spell 25 = .ok (.ireturn, 1) := by decide +kernel
theorem dX6_spell_26 : decode cX6_spell 26 = .ok (.aload_n 0, 1) := by decide +kernel
theorem dX6_spell_27 : decode cX6_spell 27 = .ok (.getfield 57, 3) := by decide +kernel
theorem dX6_spell_30 : decode cX6_spell 30 = .ok (.aload_n 0, 1) := by decide +kernel
theorem dX6_spell_31 : decode cX6_spell 31 = .ok (.getfield 16, 3) := by decide +kernel
theorem dX6_spell_34 : decode cX6_spell 34 = .ok (.aload_n 0, 1) := by decide +kernel
theorem dX6_spell_35 : decode cX6_spell 35 = .ok (.getfield 26, 3) := by decide +kernel
theorem dX6_spell_38 : decode cX6_spell 38 = .ok (.invokevirtual 310, 3) := by decide +kernel
theorem dX6_spell_41 : decode cX6_spell 41 = .ok (.aload_n 0, 1) := by decide +kernel
theorem dX6_spell_42 : decode cX6_spell 42 = .ok (.getfield 57, 3) := by decide +kernel
theorem dX6_spell_45 : decode cX6_spell 45 = .ok (.iload_n 2, 1) := by decide +kernel
theorem dX6_spell_46 : decode cX6_spell 46 = .ok (.iload_n 1, 1) := by decide +kernel
theorem dX6_spell_47 : decode cX6_spell 47 = .ok (.invokevirtual 320, 3) := by decide +kernel
theorem dX6_spell_50 : decode cX6_spell 50 = .ok (.iload_n 3, 1) := by decide +kernel
theorem dX6_spell_51 : decode cX6_spell 51 = .ok (.ifCond .ne 13, 3) := by decide +kernel
theorem dX6_spell_54 : decode cX6_spell 54 = .ok (.aload_n 0, 1) := by decide +kernel
theorem dX6_spell_55 : decode cX6_spell 55 = .ok (.getfield 57, 3) := by decide +kernel
theorem dX6_spell_58 : decode cX6_spell 58 = .ok (.getfield 385, 3) := by decide +kernel
theorem dX6_spell_61 : decode cX6_spell 61 = .ok (.goto 10, 3) := by decide +kernel
theorem dX6_spell_64 : decode cX6_spell 64 = .ok (.aload_n 0, 1) := by decide +kernel
theorem dX6_spell_65 : decode cX6_spell 65 = .ok (.getfield 57, 3) := by decide +kernel
theorem dX6_spell_68 : decode cX6_spell 68 = .ok (.getfield 388, 3) := by decide +kernel
theorem dX6_spell_71 : decode cX6_spell 71 = .ok (.ireturn, 1) := by decide +kernel
theorem dX6_gain_0 : decode cX6_gain 0 = .ok (.aload_n 0, 1) := by decide +kernel
theorem dX6_gain_1 : decode cX6_gain 1 = .ok (.iload_n 1, 1) := by decide +kernel
theorem dX6_gain_2 : decode cX6_gain 2 = .ok (.invokevirtual 156, 3) := by decide +kernel
theorem dX6_gain_5 : decode cX6_gain 5 = .ok (.ifCond .eq 21, 3) := by decide +kernel
theorem dX6_gain_8 : decode cX6_gain 8 = .ok (.iload_n 2, 1) := by decide +kernel
theorem dX6_gain_9 : decode cX6_gain 9 = .ok (.ifCond .lt 17, 3) := by decide +kernel
theorem dX6_gain_12 : decode cX6_gain 12 = .ok (.iload_n 2, 1) := by decide +kernel
theorem dX6_gain_13 : decode cX6_gain 13 = .ok (.sipush 9999, 3) := by decide +kernel
theorem dX6_gain_16 : decode cX6_gain 16 = .ok (.if_icmp .gt 10, 3) := by decide +kernel
theorem dX6_gain_19 : decode cX6_gain 19 = .ok (.iload_n 3, 1) := by decide +kernel
theorem dX6_gain_20 : decode cX6_gain 20 = .ok (.invokestatic 317, 3) := by decide +kernel
theorem dX6_gain_23 : decode cX6_gain 23 = .ok (.ifCond .ne 7, 3) := by decide +kernel
theorem dX6_gain_26 : decode cX6_gain 26 = .ok (.ldc_w 332, 3) := by decide +kernel
theorem dX6_gain_29 : decode cX6_gain 29 = .ok (.ireturn, 1) := by decide +kernel
theorem dX6_gain_30 : decode cX6_gain 30 = .ok (.aload_n 0, 1) := by decide +kernel
theorem dX6_gain_31 : decode cX6_gain 31 = .ok (.getfield 57, 3) := by decide +kernel
theorem dX6_gain_34 : decode cX6_gain 34 = .ok (.aload_n 0, 1) := by decide +kernel
theorem dX6_gain_35 : decode cX6_gain 35 = .ok (.getfield 16, 3) := by decide +kernel
theorem dX6_gain_38 : decode cX6_gain 38 = .ok (.aload_n 0, 1) := by decide +kernel
theorem dX6_gain_39 : decode cX6_gain 39 = .ok (.getfield 26, 3) := by decide +kernel
theorem dX6_gain_42 : decode cX6_gain 42 = .ok (.invokevirtual 310, 3) := by decide +kernel
theorem dX6_gain_45 : decode cX6_gain 45 = .ok (.aload_n 0, 1) := by decide +kernel
theorem dX6_gain_46 : decode cX6_gain 46 = .ok (.getfield 57, 3) := by decide +kernel
theorem dX6_gain_49 : decode cX6_gain 49 = .ok (.iload_n 3, 1) := by decide +kernel
theorem dX6_gain_50 : decode cX6_gain 50 = .ok (.iconst (-1), 1) := by decide +kernel
theorem dX6_gain_51 : decode cX6_gain 51 = .ok (.invokevirtual 320, 3) := by decide +kernel
theorem dX6_gain_54 : decode cX6_gain 54 = .ok (.aload_n 0, 1) := by decide +kernel
theorem dX6_gain_55 : decode cX6_gain 55 = .ok (.getfield 57, 3) := by decide +kernel
theorem dX6_gain_58 : decode cX6_gain 58 = .ok (.iconst 3, 1) := by decide +kernel
theorem dX6_gain_59 : decode cX6_gain 59 = .ok (.invokevirtual 343, 3) := by decide +kernel
theorem dX6_gain_62 : decode cX6_gain 62 = .ok (.istore 4, 2) := by decide +kernel
theorem dX6_gain_64 : decode cX6_gain 64 = .ok (.aload_n 0, 1) := by decide +kernel
theorem dX6_gain_65 : decode cX6_gain 65 = .ok (.getfield 57, 3) := by decide +kernel
theorem dX6_gain_68 : decode cX6_gain 68 = .ok (.aload_n 0, 1) := by decide +kernel
theorem dX6_gain_69 : decode cX6_gain 69 = .ok (.getfield 16, 3) := by decide +kernel
theorem dX6_gain_72 : decode cX6_gain 72 = .ok (.aload_n 0, 1) := by decide +kernel
theorem dX6_gain_73 : decode cX6_gain 73 = .ok (.getfield 26, 3) := by decide +kernel
theorem dX6_gain_76 : decode cX6_gain 76 = .ok (.invokevirtual 310, 3) := by decide +kernel
theorem dX6_gain_79 : decode cX6_gain 79 = .ok (.aload_n 0, 1) := by decide +kernel
theorem dX6_gain_80 : decode cX6_gain 80 = .ok (.getfield 57, 3) := by decide +kernel
theorem dX6_gain_83 : decode cX6_gain 83 = .ok (.iload_n 1, 1) := by decide +kernel
theorem dX6_gain_84 : decode cX6_gain 84 = .ok (.iload_n 2, 1) := by decide +kernel
theorem dX6_gain_85 : decode cX6_gain 85 = .ok (.invokevirtual 391, 3) := by decide +kernel
theorem dX6_gain_88 : decode cX6_gain 88 = .ok (.aload_n 0, 1) := by decide +kernel
theorem dX6_gain_89 : decode cX6_gain 89 = .ok (.getfield 57, 3) := by decide +kernel
theorem dX6_gain_92 : decode cX6_gain 92 = .ok (.iload_n 3, 1) := by decide +kernel
theorem dX6_gain_93 : decode cX6_gain 93 = .ok (.iconst (-1), 1) := by decide +kernel
theorem dX6_gain_94 : decode cX6_gain 94 = .ok (.invokevirtual 320, 3) := by decide +kernel
theorem dX6_gain_97 : decode cX6_gain 97 = .ok (.aload_n 0, 1) := by decide +kernel
theorem dX6_gain_98 : decode cX6_gain 98 = .ok (.getfield 57, 3) := by decide +kernel
theorem dX6_gain_101 : decode cX6_gain 101 = .ok (.iconst 3, 1) := by decide +kernel
theorem dX6_gain_102 : decode cX6_gain 102 = .ok (.invokevirtual 343, 3) := by decide +kernel
theorem dX6_gain_105 : decode cX6_gain 105 = .ok (.iload 4, 2) := by decide +kernel
theorem dX6_gain_107 : decode cX6_gain 107 = .ok (.isub, 1) := by decide +kernel
theorem dX6_gain_108 : decode cX6_gain 108 = .ok (.ireturn, 1) := by decide +kernel
theorem dX6_share_0 : decode cX6_share 0 = .ok (.iload_n 1, 1) := by decide +kernel
theorem dX6_share_1 : decode cX6_share 1 = .ok (.iconst (-1), 1) := by decide +kernel
theorem dX6_share_2 : decode cX6_share 2 = .ok (.if_icmp .eq 11, 3) := by decide +kernel
theorem dX6_share_5 : decode cX6_share 5 = .ok (.aload_n 0, 1) := by decide +kernel
theorem dX6_share_6 : decode cX6_share 6 = .ok (.iload_n 1, 1) := by decide +kernel
theorem dX6_share_7 : decode cX6_share 7 = .ok (.invokevirtual 117, 3) := by decide +kernel
theorem dX6_share_10 : decode cX6_share 10 = .ok (.ifCond .eq 10, 3) := by decide +kernel
theorem dX6_share_13 : decode cX6_share 13 = .ok (.iload_n 2, 1) := by decide +kernel
theorem dX6_share_14 : decode cX6_share 14 = .ok (.invokestatic 317, 3) := by decide +kernel
theorem dX6_share_17 : decode cX6_share 17 = .ok (.ifCond .ne 5, 3) := by decide +kernel
theorem dX6_share_20 : decode cX6_share 20 = .ok (.iconst (-1), 1) := by decide +kernel
theorem dX6_share_21 : decode cX6_share 21 = .ok (.ireturn, 1) := by decide +kernel
theorem dX6_share_22 : decode cX6_share 22 = .ok (.aload_n 0, 1) := by decide +kernel
theorem dX6_share_23 : decode cX6_share 23 = .ok (.getfield 57, 3) := by decide +kernel
theorem dX6_share_26 : decode cX6_share 26 = .ok (.aload_n 0, 1) := by decide +kernel
theorem dX6_share_27 : decode cX6_share 27 = .ok (.getfield 16, 3) := by decide +kernel
theorem dX6_share_30 : decode cX6_share 30 = .ok (.aload_n 0, 1) := by decide +kernel
theorem dX6_share_31 : decode cX6_share 31 = .ok (.getfield 26, 3) := by decide +kernel
theorem dX6_share_34 : decode cX6_share 34 = .ok (.invokevirtual 310, 3) := by decide +kernel
theorem dX6_share_37 : decode cX6_share 37 = .ok (.aload_n 0, 1) := by decide +kernel
theorem dX6_share_38 : decode cX6_share 38 = .ok (.getfield 57, 3) := by decide +kernel
theorem dX6_share_41 : decode cX6_share 41 = .ok (.iload_n 2, 1) := by decide +kernel
theorem dX6_share_42 : decode cX6_share 42 = .ok (.iload_n 1, 1) := by decide +kernel
theorem dX6_share_43 : decode cX6_share 43 = .ok (.invokevirtual 320, 3) := by decide +kernel
theorem dX6_share_46 : decode cX6_share 46 = .ok (.iload_n 1, 1) := by decide +kernel
theorem dX6_share_47 : decode cX6_share 47 = .ok (.iconst (-1), 1) := by decide +kernel
theorem dX6_share_48 : decode cX6_share 48 = .ok (.if_icmp .eq 26, 3) := by decide +kernel
theorem dX6_share_51 : decode cX6_share 51 = .ok (.aload_n 0, 1) := by decide +kernel
theorem dX6_share_52 : decode cX6_share 52 = .ok (.getfield 57, 3) := by decide +kernel
theorem dX6_share_55 : decode cX6_share 55 = .ok (.iload_n 1, 1) := by decide +kernel
theorem dX6_share_56 : decode cX6_share 56 = .ok (.invokevirtual 323, 3) := by decide +kernel
theorem dX6_share_59 : decode cX6_share 59 = .ok (.i2l, 1) := by decide +kernel
theorem dX6_share_60 : decode cX6_share 60 = .ok (.aload_n 0, 1) := by decide +kernel
theorem dX6_share_61 : decode cX6_share 61 = .ok (.getfield 57, 3) := by decide +kernel
theorem dX6_share_64 : decode cX6_share 64 = .ok (.getfield 394, 3) := by decide +kernel
theorem dX6_share_67 : decode cX6_share 67 = .ok (.iload_n 1, 1) := by decide +kernel
theorem dX6_share_68 : decode cX6_share 68 = .ok (.iaload, 1) := by decide +kernel
theorem dX6_share_69 : decode cX6_share 69 = .ok (.i2l, 1) := by decide +kernel
theorem dX6_share_70 : decode cX6_share 70 = .ok (.invokestatic 397, 3) := by decide +kernel
theorem dX6_share_73 : decode cX6_share 73 = .ok (.ireturn, 1) := by decide +kernel
theorem dX6_share_74 : decode cX6_share 74 = .ok (.lconst 0, 1) := by decide +kernel
theorem dX6_share_75 : decode cX6_share 75 = .ok (.lstore_n 3, 1) := by decide +kernel
theorem dX6_share_76 : decode cX6_share 76 = .ok (.iconst 0, 1) := by decide +kernel
theorem dX6_share_77 : decode cX6_share 77 = .ok (.istore 5, 2) := by decide +kernel
theorem dX6_share_79 : decode cX6_share 79 = .ok (.iload 5, 2) := by decide +kernel
theorem dX6_share_81 : decode cX6_share 81 = .ok (.aload_n 0, 1) := by decide +kernel
theorem dX6_share_82 : decode cX6_share 82 = .ok (.getfield 16, 3) := by decide +kernel
theorem dX6_share_85 : decode cX6_share 85 = .ok (.getfield 96, 3) := by decide +kernel
theorem dX6_share_88 : decode cX6_share 88 = .ok (.if_icmp .ge 23, 3) := by decide +kernel
theorem dX6_share_91 : decode cX6_share 91 = .ok (.lload_n 3, 1) := by decide +kernel
theorem dX6_share_92 : decode cX6_share 92 = .ok (.aload_n 0, 1) := by decide +kernel
theorem dX6_share_93 : decode cX6_share 93 = .ok (.getfield 57, 3) := by decide +kernel
theorem dX6_share_96 : decode cX6_share 96 = .ok (.getfield 394, 3) := by decide +kernel
theorem dX6_share_99 : decode cX6_share 99 = .ok (.iload 5, 2) := by decide +kernel
theorem dX6_share_101 : decode cX6_share 101 = .ok (.iaload, 1) := by decide +kernel
theorem dX6_share_102 : decode cX6_share 102 = .ok (.i2l, 1) := by decide +kernel
theorem dX6_share_103 : decode cX6_share 103 = .ok (.ladd, 1) := by decide +kernel
theorem dX6_share_104 : decode cX6_share 104 = .ok (.lstore_n 3, 1) := by decide +kernel
theorem dX6_share_105 : decode cX6_share 105 = .ok (.iinc 5 1, 3) := by decide +kernel
theorem dX6_share_108 : decode cX6_share 108 = .ok (.goto (-29), 3) := by decide +kernel
theorem dX6_share_111 : decode cX6_share 111 = .ok (.aload_n 0, 1) := by decide +kernel
theorem dX6_share_112 : decode cX6_share 112 = .ok (.getfield 57, 3) := by decide +kernel
theorem dX6_share_115 : decode cX6_share 115 = .ok (.iconst 3, 1) := by decide +kernel
theorem dX6_share_116 : decode cX6_share 116 = .ok (.invokevirtual 343, 3) := by decide +kernel
theorem dX6_share_119 : decode cX6_share 119 = .ok (.i2l, 1) := by decide +kernel
theorem dX6_share_120 : decode cX6_share 120 = .ok (.lload_n 3, 1) := by decide +kernel
theorem dX6_share_121 : decode cX6_share 121 = .ok (.invokestatic 397, 3) := by decide +kernel
theorem dX6_share_124 : decode cX6_share 124 = .ok (.ireturn, 1) := by decide +kernel
theorem dX6_worst_0 : decode cX6_worst 0 = .ok (.iload_n 1, 1) := by decide +kernel
theorem dX6_worst_1 : decode cX6_worst 1 = .ok (.invokestatic 317, 3) := by decide +kernel
theorem dX6_worst_4 : decode cX6_worst 4 = .ok (.ifCond .ne 5, 3) := by decide +kernel
theorem dX6_worst_7 : decode cX6_worst 7 = .ok (.iconst (-1), 1) := by decide +kernel
theorem dX6_worst_8 : decode cX6_worst 8 = .ok (.ireturn, 1) := by decide +kernel
theorem dX6_worst_9 : decode cX6_worst 9 = .ok (.aload_n 0, 1) := by decide +kernel
theorem dX6_worst_10 : decode cX6_worst 10 = .ok (.getfield 57, 3) := by decide +kernel
theorem dX6_worst_13 : decode cX6_worst 13 = .ok (.aload_n 0, 1) := by decide +kernel
theorem dX6_worst_14 : decode cX6_worst 14 = .ok (.getfield 16, 3) := by decide +kernel
theorem dX6_worst_17 : decode cX6_worst 17 = .ok (.aload_n 0, 1) := by decide +kernel
theorem dX6_worst_18 : decode cX6_worst 18 = .ok (.getfield 26, 3) := by decide +kernel
theorem dX6_worst_21 : decode cX6_worst 21 = .ok (.invokevirtual 310, 3) := by decide +kernel
theorem dX6_worst_24 : decode cX6_worst 24 = .ok (.aload_n 0, 1) := by decide +kernel
theorem dX6_worst_25 : decode cX6_worst 25 = .ok (.getfield 57, 3) := by decide +kernel
theorem dX6_worst_28 : decode cX6_worst 28 = .ok (.iload_n 1, 1) := by decide +kernel
theorem dX6_worst_29 : decode cX6_worst 29 = .ok (.iconst (-1), 1) := by decide +kernel
theorem dX6_worst_30 : decode cX6_worst 30 = .ok (.invokevirtual 320, 3) := by decide +kernel
theorem dX6_worst_33 : decode cX6_worst 33 = .ok (.bipush (-2), 2) := by decide +kernel
theorem dX6_worst_35 : decode cX6_worst 35 = .ok (.istore_n 2, 1) := by decide +kernel
theorem dX6_worst_36 : decode cX6_worst 36 = .ok (.iconst 0, 1) := by decide +kernel
theorem dX6_worst_37 : decode cX6_worst 37 = .ok (.istore_n 3, 1) := by decide +kernel
theorem dX6_worst_38 : decode cX6_worst 38 = .ok (.iconst 0, 1) := by decide +kernel
theorem dX6_worst_39 : decode cX6_worst 39 = .ok (.istore 4, 2) := by decide +kernel
theorem dX6_worst_41 : decode cX6_worst 41 = .ok (.iload 4, 2) := by decide +kernel
theorem dX6_worst_43 : decode cX6_worst 43 = .ok (.aload_n 0, 1) := by decide +kernel
theorem dX6_worst_44 : decode cX6_worst 44 = .ok (.getfield 16, 3) := by decide +kernel
theorem dX6_worst_47 : decode cX6_worst 47 = .ok (.getfield 96, 3) := by decide +kernel
theorem dX6_worst_50 : decode cX6_worst 50 = .ok (.if_icmp .ge 51, 3) := by decide +kernel
theorem dX6_worst_53 : decode cX6_worst 53 = .ok (.aload_n 0, 1) := by decide +kernel
theorem dX6_worst_54 : decode cX6_worst 54 = .ok (.getfield 57, 3) := by decide +kernel
theorem dX6_worst_57 : decode cX6_worst 57 = .ok (.iload 4, 2) := by decide +kernel
theorem dX6_worst_59 : decode cX6_worst 59 = .ok (.invokevirtual 323, 3) := by decide +kernel
theorem dX6_worst_62 : decode cX6_worst 62 = .ok (.i2l, 1) := by decide +kernel
theorem dX6_worst_63 : decode cX6_worst 63 = .ok (.aload_n 0, 1) := by decide +kernel
theorem dX6_worst_64 : decode cX6_worst 64 = .ok (.getfield 57, 3) := by decide +kernel
theorem dX6_worst_67 : decode cX6_worst 67 = .ok (.getfield 394, 3) := by decide +kernel
theorem dX6_worst_70 : decode cX6_worst 70 = .ok (.iload 4, 2) := by decide +kernel
theorem dX6_worst_72 : decode cX6_worst 72 = .ok (.iaload, 1) := by decide +kernel
theorem dX6_worst_73 : decode cX6_worst 73 = .ok (.i2l, 1) := by decide +kernel
theorem dX6_worst_74 : decode cX6_worst 74 = .ok (.invokestatic 397, 3) := by decide +kernel
theorem dX6_worst_77 : decode cX6_worst 77 = .ok (.istore 5, 2) := by decide +kernel
theorem dX6_worst_79 : decode cX6_worst 79 = .ok (.iload_n 2, 1) := by decide +kernel
theorem dX6_worst_80 : decode cX6_worst 80 = .ok (.ifCond .lt 9, 3) := by decide +kernel
theorem dX6_worst_83 : decode cX6_worst 83 = .ok (.iload 5, 2) := by decide +kernel
theorem dX6_worst_85 : decode cX6_worst 85 = .ok (.iload_n 3, 1) := by decide +kernel
theorem dX6_worst_86 : decode cX6_worst 86 = .ok (.if_icmp .ge 9, 3) := by decide +kernel
theorem dX6_worst_89 : decode cX6_worst 89 = .ok (.iload 4, 2) := by decide +kernel
theorem dX6_worst_91 : decode cX6_worst 91 = .ok (.istore_n 2, 1) := by decide +kernel
theorem dX6_worst_92 : decode cX6_worst 92 = .ok (.iload 5, 2) := by decide +kernel
theorem dX6_worst_94 : decode cX6_worst 94 = .ok (.istore_n 3, 1) := by decide +kernel
theorem dX6_worst_95 : decode cX6_worst 95 = .ok (.iinc 4 1, 3) := by decide +kernel
theorem dX6_worst_98 : decode cX6_worst 98 = .ok (.goto (-57), 3) := by decide +kernel
theorem dX6_worst_101 : decode cX6_worst 101 = .ok (.iload_n 2, 1) := by decide +kernel
theorem dX6_worst_102 : decode cX6_worst 102 = .ok (.ireturn, 1) := by decide +kernel
theorem dX6_count_0 : decode cX6_count 0 = .ok (.iload_n 1, 1) := by decide +kernel
theorem dX6_count_1 : decode cX6_count 1 = .ok (.tableswitch 146 0 9 #[55, 63, 71, 79, 87, 95, 100, 105, 110, 128], 55) := by decide +kernel
theorem dX6_count_56 : decode cX6_count 56 = .ok (.aload_n 0, 1) := by decide +kernel
theorem dX6_count_57 : decode cX6_count 57 = .ok (.getfield 16, 3) := by decide +kernel
theorem dX6_count_60 : decode cX6_count 60 = .ok (.getfield 340, 3) := by decide +kernel
theorem dX6_count_63 : decode cX6_count 63 = .ok (.ireturn, 1) := by decide +kernel
theorem dX6_count_64 : decode cX6_count 64 = .ok (.aload_n 0, 1) := by decide +kernel
theorem dX6_count_65 : decode cX6_count 65 = .ok (.getfield 16, 3) := by decide +kernel
theorem dX6_count_68 : decode cX6_count 68 = .ok (.getfield 96, 3) := by decide +kernel
theorem dX6_count_71 : decode cX6_count 71 = .ok (.ireturn, 1) := by decide +kernel
theorem dX6_count_72 : decode cX6_count 72 = .ok (.aload_n 0, 1) := by decide +kernel
theorem dX6_count_73 : decode cX6_count 73 = .ok (.getfield 16, 3) := by decide +kernel
theorem dX6_count_76 : decode cX6_count 76 = .ok (.getfield 403, 3) := by decide +kernel
theorem dX6_count_79 : decode cX6_count 79 = .ok (.ireturn, 1) := by decide +kernel
theorem dX6_count_80 : decode cX6_count 80 = .ok (.aload_n 0, 1) := by decide +kernel
theorem dX6_count_81 : decode cX6_count 81 = .ok (.getfield 26, 3) := by decide +kernel
theorem dX6_count_84 : decode cX6_count 84 = .ok (.getfield 111, 3) := by decide +kernel
theorem dX6_count_87 : decode cX6_count 87 = .ok (.ireturn, 1) := by decide +kernel
theorem dX6_count_88 : decode cX6_count 88 = .ok (.aload_n 0, 1) := by decide +kernel
theorem dX6_count_89 : decode cX6_count 89 = .ok (.getfield 26, 3) := by decide +kernel
theorem dX6_count_92 : decode cX6_count 92 = .ok (.getfield 114, 3) := by decide +kernel
theorem dX6_count_95 : decode cX6_count 95 = .ok (.ireturn, 1) := by decide +kernel
theorem dX6_count_96 : decode cX6_count 96 = .ok (.aload_n 0, 1) := by decide +kernel
theorem dX6_count_97 : decode cX6_count 97 = .ok (.getfield 93, 3) := by decide +kernel
theorem dX6_count_100 : decode cX6_count 100 = .ok (.ireturn, 1) := by decide +kernel
theorem dX6_count_101 : decode cX6_count 101 = .ok (.aload_n 0, 1) := by decide +kernel
theorem dX6_count_102 : decode cX6_count 102 = .ok (.getfield 77, 3) := by decide +kernel
theorem dX6_count_105 : decode cX6_count 105 = .ok (.ireturn, 1) := by decide +kernel
theorem dX6_count_106 : decode cX6_count 106 = .ok (.aload_n 0, 1) := by decide +kernel
theorem dX6_count_107 : decode cX6_count 107 = .ok (.getfield 180, 3) := by decide +kernel
theorem dX6_count_110 : decode cX6_count 110 = .ok (.ireturn, 1) := by decide +kernel
theorem dX6_count_111 : decode cX6_count 111 = .ok (.aload_n 0, 1) := by decide +kernel
theorem dX6_count_112 : decode cX6_count 112 = .ok (.getfield 26, 3) := by decide +kernel
theorem dX6_count_115 : decode cX6_count 115 = .ok (.getfield 130, 3) := by decide +kernel
theorem dX6_count_118 : decode cX6_count 118 = .ok (.aload_n 0, 1) := by decide +kernel
theorem dX6_count_119 : decode cX6_count 119 = .ok (.getfield 16, 3) := by decide +kernel
theorem dX6_count_122 : decode cX6_count 122 = .ok (.getfield 403, 3) := by decide +kernel
theorem dX6_count_125 : decode cX6_count 125 = .ok (.invokestatic 406, 3) := by decide +kernel
theorem dX6_count_128 : decode cX6_count 128 = .ok (.ireturn, 1) := by decide +kernel
theorem dX6_count_129 : decode cX6_count 129 = .ok (.aload_n 0, 1) := by decide +kernel
theorem dX6_count_130 : decode cX6_count 130 = .ok (.getfield 26, 3) := by decide +kernel
theorem dX6_count_133 : decode cX6_count 133 = .ok (.getfield 146, 3) := by decide +kernel
theorem dX6_count_136 : decode cX6_count 136 = .ok (.aload_n 0, 1) := by decide +kernel
theorem dX6_count_137 : decode cX6_count 137 = .ok (.getfield 16, 3) := by decide +kernel
theorem dX6_count_140 : decode cX6_count 140 = .ok (.getfield 96, 3) := by decide +kernel
theorem dX6_count_143 : decode cX6_count 143 = .ok (.invokestatic 406, 3) := by decide +kernel
theorem dX6_count_146 : decode cX6_count 146 = .ok (.ireturn, 1) := by decide +kernel
theorem dX6_count_147 : decode cX6_count 147 = .ok (.iconst (-1), 1) := by decide +kernel
theorem dX6_count_148 : decode cX6_count 148 = .ok (.ireturn, 1) := by decide +kernel
theorem dX6_gone_0 : decode cX6_gone 0 = .ok (.iload_n 1, 1) := by decide +kernel
theorem dX6_gone_1 : decode cX6_gone 1 = .ok (.tableswitch 127 0 7 #[47, 57, 67, 77, 87, 97, 109, 117], 47) := by decide +kernel
theorem dX6_gone_48 : decode cX6_gone 48 = .ok (.aload_n 0, 1) := by decide +kernel
theorem dX6_gone_49 : decode cX6_gone 49 = .ok (.getfield 26, 3) := by decide +kernel
theorem dX6_gone_52 : decode cX6_gone 52 = .ok (.getfield 349, 3) := by decide +kernel
theorem dX6_gone_55 : decode cX6_gone 55 = .ok (.iconst 0, 1) := by decide +kernel
theorem dX6_gone_56 : decode cX6_gone 56 = .ok (.laload, 1) := by decide +kernel
theorem dX6_gone_57 : decode cX6_gone 57 = .ok (.lreturn, 1) := by decide +kernel
theorem dX6_gone_58 : decode cX6_gone 58 = .ok (.aload_n 0, 1) := by decide +kernel
theorem dX6_gone_59 : decode cX6_gone 59 = .ok (.getfield 26, 3) := by decide +kernel
theorem dX6_gone_62 : decode cX6_gone 62 = .ok (.getfield 349, 3) := by decide +kernel
theorem dX6_gone_65 : decode cX6_gone 65 = .ok (.iconst 1, 1) := by decide +kernel
theorem dX6_gone_66 : decode cX6_gone 66 = .ok (.laload, 1) := by decide +kernel
theorem dX6_gone_67 : decode cX6_gone 67 = .ok (.lreturn, 1) := by decide +kernel
theorem dX6_gone_68 : decode cX6_gone 68 = .ok (.aload_n 0, 1) := by decide +kernel
theorem dX6_gone_69 : decode cX6_gone 69 = .ok (.getfield 26, 3) := by decide +kernel
theorem dX6_gone_72 : decode cX6_gone 72 = .ok (.getfield 349, 3) := by decide +kernel
theorem dX6_gone_75 : decode cX6_gone 75 = .ok (.iconst 2, 1) := by decide +kernel
theorem dX6_gone_76 : decode cX6_gone 76 = .ok (.laload, 1) := by decide +kernel
theorem dX6_gone_77 : decode cX6_gone 77 = .ok (.lreturn, 1) := by decide +kernel
theorem dX6_gone_78 : decode cX6_gone 78 = .ok (.aload_n 0, 1) := by decide +kernel
theorem dX6_gone_79 : decode cX6_gone 79 = .ok (.getfield 26, 3) := by decide +kernel
theorem dX6_gone_82 : decode cX6_gone 82 = .ok (.getfield 349, 3) := by decide +kernel
theorem dX6_gone_85 : decode cX6_gone 85 = .ok (.iconst 3, 1) := by decide +kernel
theorem dX6_gone_86 : decode cX6_gone 86 = .ok (.laload, 1) := by decide +kernel
theorem dX6_gone_87 : decode cX6_gone 87 = .ok (.lreturn, 1) := by decide +kernel
theorem dX6_gone_88 : decode cX6_gone 88 = .ok (.aload_n 0, 1) := by decide +kernel
theorem dX6_gone_89 : decode cX6_gone 89 = .ok (.getfield 26, 3) := by decide +kernel
theorem dX6_gone_92 : decode cX6_gone 92 = .ok (.getfield 349, 3) := by decide +kernel
theorem dX6_gone_95 : decode cX6_gone 95 = .ok (.iconst 4, 1) := by decide +kernel
theorem dX6_gone_96 : decode cX6_gone 96 = .ok (.laload, 1) := by decide +kernel
theorem dX6_gone_97 : decode cX6_gone 97 = .ok (.lreturn, 1) := by decide +kernel
theorem dX6_gone_98 : decode cX6_gone 98 = .ok (.aload_n 0, 1) := by decide +kernel
theorem dX6_gone_99 : decode cX6_gone 99 = .ok (.getfield 26, 3) := by decide +kernel
theorem dX6_gone_102 : decode cX6_gone 102 = .ok (.aload_n 0, 1) := by decide +kernel
theorem dX6_gone_103 : decode cX6_gone 103 = .ok (.getfield 16, 3) := by decide +kernel
theorem dX6_gone_106 : decode cX6_gone 106 = .ok (.invokevirtual 353, 3) := by decide +kernel
theorem dX6_gone_109 : decode cX6_gone 109 = .ok (.lreturn, 1) := by decide +kernel
theorem dX6_gone_110 : decode cX6_gone 110 = .ok (.aload_n 0, 1) := by decide +kernel
theorem dX6_gone_111 : decode cX6_gone 111 = .ok (.getfield 26, 3) := by decide +kernel
theorem dX6_gone_114 : decode cX6_gone 114 = .ok (.invokevirtual 357, 3) := by decide +kernel
theorem dX6_gone_117 : decode cX6_gone 117 = .ok (.lreturn, 1) := by decide +kernel
theorem dX6_gone_118 : decode cX6_gone 118 = .ok (.aload_n 0, 1) := by decide +kernel
theorem dX6_gone_119 : decode cX6_gone 119 = .ok (.getfield 26, 3) := by decide +kernel
theorem dX6_gone_122 : decode cX6_gone 122 = .ok (.getfield 349, 3) := by decide +kernel
theorem dX6_gone_125 : decode cX6_gone 125 = .ok (.iconst 5, 1) := by decide +kernel
theorem dX6_gone_126 : decode cX6_gone 126 = .ok (.laload, 1) := by decide +kernel
theorem dX6_gone_127 : decode cX6_gone 127 = .ok (.lreturn, 1) := by decide +kernel
theorem dX6_gone_128 : decode cX6_gone 128 = .ok (.ldc2_w 361, 3) := by decide +kernel
theorem dX6_gone_131 : decode cX6_gone 131 = .ok (.lreturn, 1) := by decide +kernel
theorem dX6_keep_0 : decode cX6_keep 0 = .ok (.iload_n 1, 1) := by decide +kernel
theorem dX6_keep_1 : decode cX6_keep 1 = .ok (.ifCond .lt 8, 3) := by decide +kernel
theorem dX6_keep_4 : decode cX6_keep 4 = .ok (.iload_n 1, 1) := by decide +kernel
theorem dX6_keep_5 : decode cX6_keep 5 = .ok (.iconst 2, 1) := by decide +kernel
theorem dX6_keep_6 : decode cX6_keep 6 = .ok (.if_icmp .lt 5, 3) := by decide +kernel
theorem dX6_keep_9 : decode cX6_keep 9 = .ok (.iconst (-1), 1) := by decide +kernel
theorem dX6_keep_10 : decode cX6_keep 10 = .ok (.ireturn, 1) := by decide +kernel
theorem dX6_keep_11 : decode cX6_keep 11 = .ok (.aload_n 0, 1) := by decide +kernel
theorem dX6_keep_12 : decode cX6_keep 12 = .ok (.getfield 34, 3) := by decide +kernel
theorem dX6_keep_15 : decode cX6_keep 15 = .ok (.iload_n 1, 1) := by decide +kernel
theorem dX6_keep_16 : decode cX6_keep 16 = .ok (.aaload, 1) := by decide +kernel
theorem dX6_keep_17 : decode cX6_keep 17 = .ok (.aload_n 0, 1) := by decide +kernel
theorem dX6_keep_18 : decode cX6_keep 18 = .ok (.getfield 16, 3) := by decide +kernel
theorem dX6_keep_21 : decode cX6_keep 21 = .ok (.invokevirtual 178, 3) := by decide +kernel
theorem dX6_keep_24 : decode cX6_keep 24 = .ok (.aload_n 0, 1) := by decide +kernel
theorem dX6_keep_25 : decode cX6_keep 25 = .ok (.getfield 38, 3) := by decide +kernel
theorem dX6_keep_28 : decode cX6_keep 28 = .ok (.iload_n 1, 1) := by decide +kernel
theorem dX6_keep_29 : decode cX6_keep 29 = .ok (.aaload, 1) := by decide +kernel
theorem dX6_keep_30 : decode cX6_keep 30 = .ok (.aload_n 0, 1) := by decide +kernel
theorem dX6_keep_31 : decode cX6_keep 31 = .ok (.getfield 26, 3) := by decide +kernel
theorem dX6_keep_34 : decode cX6_keep 34 = .ok (.invokevirtual 168, 3) := by decide +kernel
theorem dX6_keep_37 : decode cX6_keep 37 = .ok (.aload_n 0, 1) := by decide +kernel
theorem dX6_keep_38 : decode cX6_keep 38 = .ok (.dup, 1) := by decide +kernel
theorem dX6_keep_39 : decode cX6_keep 39 = .ok (.getfield 180, 3) := by decide +kernel
theorem dX6_keep_42 : decode cX6_keep 42 = .ok (.iconst 1, 1) := by decide +kernel
theorem dX6_keep_43 : decode cX6_keep 43 = .ok (.iload_n 1, 1) := by decide +kernel
theorem dX6_keep_44 : decode cX6_keep 44 = .ok (.ishl, 1) := by decide +kernel
theorem dX6_keep_45 : decode cX6_keep 45 = .ok (.ior, 1) := by decide +kernel
theorem dX6_keep_46 : decode cX6_keep 46 = .ok (.putfield 180, 3) := by decide +kernel
theorem dX6_keep_49 : decode cX6_keep 49 = .ok (.aload_n 0, 1) := by decide +kernel
theorem dX6_keep_50 : decode cX6_keep 50 = .ok (.getfield 26, 3) := by decide +kernel
theorem dX6_keep_53 : decode cX6_keep 53 = .ok (.getfield 111, 3) := by decide +kernel
theorem dX6_keep_56 : decode cX6_keep 56 = .ok (.ireturn, 1) := by decide +kernel
theorem dX6_back_0 : decode cX6_back 0 = .ok (.iload_n 1, 1) := by decide +kernel
theorem dX6_back_1 : decode cX6_back 1 = .ok (.ifCond .lt 8, 3) := by decide +kernel
theorem dX6_back_4 : decode cX6_back 4 = .ok (.iload_n 1, 1) := by decide +kernel
theorem dX6_back_5 : decode cX6_back 5 = .ok (.iconst 2, 1) := by decide +kernel
theorem dX6_back_6 : decode cX6_back 6 = .ok (.if_icmp .lt 5, 3) := by decide +kernel
theorem dX6_back_9 : decode cX6_back 9 = .ok (.iconst (-1), 1) := by decide +kernel
theorem dX6_back_10 : decode cX6_back 10 = .ok (.ireturn, 1) := by decide +kernel
theorem dX6_back_11 : decode cX6_back 11 = .ok (.aload_n 0, 1) := by decide +kernel
theorem dX6_back_12 : decode cX6_back 12 = .ok (.getfield 180, 3) := by decide +kernel
theorem dX6_back_15 : decode cX6_back 15 = .ok (.iload_n 1, 1) := by decide +kernel
theorem dX6_back_16 : decode cX6_back 16 = .ok (.ishr, 1) := by decide +kernel
theorem dX6_back_17 : decode cX6_back 17 = .ok (.iconst 1, 1) := by decide +kernel
theorem dX6_back_18 : decode cX6_back 18 = .ok (.iand, 1) := by decide +kernel
theorem dX6_back_19 : decode cX6_back 19 = .ok (.ifCond .ne 6, 3) := by decide +kernel
theorem dX6_back_22 : decode cX6_back 22 = .ok (.bipush (-2), 2) := by decide +kernel
theorem dX6_back_24 : decode cX6_back 24 = .ok (.ireturn, 1) := by decide +kernel
theorem dX6_back_25 : decode cX6_back 25 = .ok (.aload_n 0, 1) := by decide +kernel
theorem dX6_back_26 : decode cX6_back 26 = .ok (.getfield 16, 3) := by decide +kernel
theorem dX6_back_29 : decode cX6_back 29 = .ok (.aload_n 0, 1) := by decide +kernel
theorem dX6_back_30 : decode cX6_back 30 = .ok (.getfield 34, 3) := by decide +kernel
theorem dX6_back_33 : decode cX6_back 33 = .ok (.iload_n 1, 1) := by decide +kernel
theorem dX6_back_34 : decode cX6_back 34 = .ok (.aaload, 1) := by decide +kernel
theorem dX6_back_35 : decode cX6_back 35 = .ok (.invokevirtual 178, 3) := by decide +kernel
theorem dX6_back_38 : decode cX6_back 38 = .ok (.aload_n 0, 1) := by decide +kernel
theorem dX6_back_39 : decode cX6_back 39 = .ok (.getfield 26, 3) := by decide +kernel
theorem dX6_back_42 : decode cX6_back 42 = .ok (.aload_n 0, 1) := by decide +kernel
theorem dX6_back_43 : decode cX6_back 43 = .ok (.getfield 38, 3) := by decide +kernel
theorem dX6_back_46 : decode cX6_back 46 = .ok (.iload_n 1, 1) := by decide +kernel
theorem dX6_back_47 : decode cX6_back 47 = .ok (.aaload, 1) := by decide +kernel
theorem dX6_back_48 : decode cX6_back 48 = .ok (.invokevirtual 168, 3) := by decide +kernel
theorem dX6_back_51 : decode cX6_back 51 = .ok (.aload_n 0, 1) := by decide +kernel
theorem dX6_back_52 : decode cX6_back 52 = .ok (.iconst 0, 1) := by decide +kernel
theorem dX6_back_53 : decode cX6_back 53 = .ok (.putfield 93, 3) := by decide +kernel
theorem dX6_back_56 : decode cX6_back 56 = .ok (.aload_n 0, 1) := by decide +kernel
theorem dX6_back_57 : decode cX6_back 57 = .ok (.getfield 26, 3) := by decide +kernel
theorem dX6_back_60 : decode cX6_back 60 = .ok (.getfield 111, 3) := by decide +kernel
theorem dX6_back_63 : decode cX6_back 63 = .ok (.ireturn, 1) := by decide +kernel
theorem ms_X6_countTold : MS yX6_countTold cX6_countTold 4 (some .int) 2 := ⟨wd_60_22, wd_60_21, wd_1_2, by decide, by decide, by decide +kernel⟩
theorem ms_X6_isSpan : MS yX6_isSpan cX6_isSpan 1 (some .boolean) 1 := ⟨wd_47_16, wd_47_15, wd_1_2, by decide, by decide, by decide +kernel⟩
theorem ms_X6_nameOf : MS yX6_nameOf cX6_nameOf 1 (some .int) 1 := ⟨wd_45_6, wd_45_5, wd_1_2, by decide, by decide, by decide +kernel⟩
theorem ms_X6_thousandths : MS yX6_thousandths cX6_thousandths 4 (some .int) 2 := ⟨wd_59_18, wd_59_17, wd_1_2, by decide, by decide, by decide +kernel⟩
theorem mv_X0_mostAlone : MV yX0_mostAlone cX0_mostAlone 2 (some .int) 1 := ⟨wd_44_7, wd_44_5, wd_44_6, wd_2_6, by decide, by decide, by decide +kernel⟩
theorem mv_X0_takenAt : MV yX0_takenAt cX0_takenAt 5 (some .int) 1 := ⟨wd_42_18, wd_42_16, wd_42_17, wd_2_6, by decide, by decide, by decide +kernel⟩
theorem mv_X1_daysUntil : MV yX1_daysUntil cX1_daysUntil 4 (some .int) 2 := ⟨wd_57_19, wd_57_17, wd_57_18, wd_2_10, by decide, by decide, by decide +kernel⟩
theorem mv_X1_isCalm : MV yX1_isCalm cX1_isCalm 3 (some .boolean) 1 := ⟨wd_57_2, wd_57_0, wd_57_1, wd_2_10, by decide, by decide, by decide +kernel⟩
theorem mv_X1_isShortNow : MV yX1_isShortNow cX1_isShortNow 2 (some .boolean) 1 := ⟨wd_47_3, wd_47_1, wd_47_2, wd_2_10, by decide, by decide, by decide +kernel⟩
theorem mv_X1_sumOf : MV yX1_sumOf cX1_sumOf 2 (some .int) 1 := ⟨wd_49_18, wd_49_16, wd_49_17, wd_2_10, by decide, by decide, by decide +kernel⟩
theorem mv_X2_copyOf : MV yX2_copyOf cX2_copyOf 2 none 1 := ⟨wd_39_4, wd_39_2, wd_39_3, wd_1_16, by decide, by decide, by decide +kernel⟩
theorem mv_X2_countInto : MV yX2_countInto cX2_countInto 4 (some .int) 1 := ⟨wd_40_3, wd_40_1, wd_40_2, wd_1_16, by decide, by decide, by decide +kernel⟩
theorem mv_X2_countToMouth : MV yX2_countToMouth cX2_countToMouth 5 (some .int) 1 := ⟨wd_40_7, wd_40_5, wd_40_6, wd_1_16, by decide, by decide, by decide +kernel⟩
theorem mv_X5_inStores : MV yX5_inStores cX5_inStores 5 (some .long) 1 := ⟨wd_50_10, wd_50_8, wd_50_9, wd_1_21, by decide, by decide, by decide +kernel⟩
theorem mv_X5_onItsWay : MV yX5_onItsWay cX5_onItsWay 4 (some .long) 0 := ⟨wd_50_15, wd_50_13, wd_50_14, wd_1_21, by decide, by decide, by decide +kernel⟩
theorem mv_X6_hurtsSomebody : MV yX6_hurtsSomebody cX6_hurtsSomebody 4 (some .boolean) 2 := ⟨wd_36_21, wd_36_19, wd_36_20, wd_1_2, by decide, by decide, by decide +kernel⟩
theorem mv_X6_isFutileOnSome : MV yX6_isFutileOnSome cX6_isFutileOnSome 3 (some .boolean) 1 := ⟨wd_45_22, wd_45_20, wd_45_21, wd_1_2, by decide, by decide, by decide +kernel⟩
theorem mv_X6_isReach : MV yX6_isReach cX6_isReach 2 (some .boolean) 1 := ⟨wd_34_9, wd_34_7, wd_34_8, wd_1_2, by decide, by decide, by decide +kernel⟩
theorem mv_X6_look : MV yX6_look cX6_look 1 none 0 := ⟨wd_42_12, wd_42_10, wd_42_11, wd_1_2, by decide, by decide, by decide +kernel⟩
theorem mv_X6_lookAhead : MV yX6_lookAhead cX6_lookAhead 2 none 0 := ⟨wd_34_14, wd_34_12, wd_34_13, wd_1_2, by decide, by decide, by decide +kernel⟩
set_option maxHeartbeats 4000000 in
set_option maxRecDepth 100000 in
theorem c_X6_trade_2 (E : Ev) (rd : TD) (tp : TD) (kb : Int × Int) (Fa1 : Int × Int) (Fb1 : Int × Int) (Fa2 : Int × Int) (Fa3 : Int × Int) (Fb3 : Int × Int) (Fa4 : Int × Int) (Fb4 : Int × Int) (ks : List Nat) (Pd1 : (Nat → Int32) → Prop) (Pd2 : (Nat → Int32) → Prop) (Pd3 : (Nat → Int32) → Prop) (Pd4 : (Nat → Int32) → Prop) (Ps1 : (Nat → Int32) → Prop) (Ps2 : (Nat → Int32) → Prop) (Ps3 : (Nat → Int32) → Prop) (Ps4 : (Nat → Int32) → Prop) (Pi1 : (Nat → Int32) → Prop) (Pi2 : (Nat → Int32) → Prop) (Pi3 : (Nat → Int32) → Prop) (Pi4 : (Nat → Int32) → Prop) (b : Int) (t : Int) (a0 : Nat) (a1 : Int32) (a2 : Int32) (ha0 : eT E a0 ∈ [28]) (hb : 0 ≤ b ∧ b ≤ 14) (ht : 0 ≤ t ∧ t ≤ 400) (hFa1 : 0 ≤ Fa1.1 ∧ Fa1.2 ≤ 12) (hFb1 : 0 ≤ Fb1.1 ∧ Fb1.2 ≤ 14) (hFa2 : 0 ≤ Fa2.1 ∧ Fa2.2 ≤ 12) (hFa3 : 0 ≤ Fa3.1 ∧ Fa3.2 ≤ 12) (hFb3 : 0 ≤ Fb3.1 ∧ Fb3.2 ≤ 14) (hFa4 : 0 ≤ Fa4.1 ∧ Fa4.2 ≤ 12) (hFb4 : 0 ≤ Fb4.1 ∧ Fb4.2 ≤ 14) (hks : ∀ t ∈ ks, t ∈ [26, 27]) (hPd1 : ∀ f, Pd1 f → ivP 12 (-2) 11 f) (hPd2 : ∀ f, Pd2 f → ivP 12 (-2) 11 f) (hPd3 : ∀ f, Pd3 f → ivP 12 (-2) 11 f) (hPd4 : ∀ f, Pd4 f → ivP 12 (-2) 11 f) (hPs1 : ∀ f, Ps1 f → ivP 12 (-2147483648) 2147483647 f) (hPs2 : ∀ f, Ps2 f → ivP 12 (-2147483648) 2147483647 f) (hPs3 : ∀ f, Ps3 f → ivP 12 (-2147483648) 2147483647 f) (hPs4 : ∀ f, Ps4 f → ivP 12 (-2147483648) 2147483647 f) (hPi1 : ∀ f, Pi1 f → ivP 48 (-2147483648) 2147483647 f) (hPi2 : ∀ f, Pi2 f → ivP 48 (-2147483648) 2147483647 f) (hPi3 : ∀ f, Pi3 f → ivP 48 (-2147483648) 2147483647 f) (hPi4 : ∀ f, Pi4 f → ivP 48 (-2147483648) 2147483647 f) : TcI E yX6_trade cX6_trade 3 .int ({ frames := 4, cells := 0, slots := 0, locals := 102 }) [.ref a0, .int a1, .int a2] (fun H => TH E (tbC (dayD (.inl (0, 18))) (dayD (.inl (0, 18))) (riverD (.inl Fa1) (.inl Fb1) (.inl (0, 4)) 31 33 35 39 43 47) (riverD (.inl Fa2) (.inl (b, b)) (.inl (0, 4)) 32 34 36 40 44 48) (rcD (.inl (t, t)) (.inr [27]) (.inr ks) (.inl kb)) rd tp A14F A14F A4F A4F A14F A14F (riverD (.inl Fa3) (.inl Fb3) (.inl (0, 4)) 3 8 3 41 45 49) (riverD (.inl Fa4) (.inl Fb4) (.inl (0, 4)) 3 8 3 42 46 50) ((.inr (.inl (0, 12, Pd1)))) ((.inr (.inl (0, 12, Pd2)))) ((.inr (.inl (0, 12, Pd3)))) ((.inr (.inl (0, 12, Pd4)))) ((.inr (.inl (0, 12, Ps1)))) ((.inr (.inl (0, 12, Ps2)))) ((.inr (.inl (0, 12, Ps3)))) ((.inr (.inl (0, 12, Ps4)))) ((.inr (.inl (0, 48, Pi1)))) ((.inr (.inl (0, 48, Pi2)))) ((.inr (.inl (0, 48, Pi3)))) ((.inr (.inl (0, 48, Pi4))))) H) (fun v H => ((-2147483648) ≤ v.toInt ∧ v.toInt ≤ 2147483647) ∧ (v.toInt = trA b a1.toInt a2.toInt) ∧ TH E (tbC (dayD (.inl (0, 18))) (dayD (.inl (0, 18))) (riverD (.inl Fa1) (.inl Fb1) (.inl (0, 4)) 31 33 35 39 43 47) (riverD (.inl Fa2) (.inl (b, b)) (.inl (0, 4)) 32 34 36 40 44 48) (rcD (.inl (t, t)) (.inr [27]) (.inr ks) (.inl kb)) rd tp A14F A14F A4F A4F A14F A14F (riverD (.inl Fa3) (.inl Fb3) (.inl (0, 4)) 3 8 3 41 45 49) (riverD (.inl Fa4) (.inl Fb4) (.inl (0, 4)) 3 8 3 42 46 50) ((.inr (.inl (0, 12, Pd1)))) ((.inr (.inl (0, 12, Pd2)))) ((.inr (.inl (0, 12, Pd3)))) ((.inr (.inl (0, 12, Pd4)))) ((.inr (.inl (0, 12, Ps1)))) ((.inr (.inl (0, 12, Ps2)))) ((.inr (.inl (0, 12, Ps3)))) ((.inr (.inl (0, 12, Ps4)))) ((.inr (.inl (0, 48, Pi1)))) ((.inr (.inl (0, 48, Pi2)))) ((.inr (.inl (0, 48, Pi3)))) ((.inr (.inl (0, 48, Pi4))))) H) := by
  refine teI (by decide) (Nat.le_of_ble_eq_true rfl) ?_
  intro p_ ev_ s mi_ below_ meth cd_ ls F hK hN hO hH hS hl
  have hH : TH E (tbC (dayD (.inl (0, 18))) (dayD (.inl (0, 18))) (riverD (.inl Fa1) (.inl Fb1) (.inl (0, 4)) 31 33 35 39 43 47) (riverD (.inl Fa2) (.inl (b, b)) (.inl (0, 4)) 32 34 36 40 44 48) (rcD (.inl (t, t)) (.inr [27]) (.inr ks) (.inl kb)) rd tp A14F A14F A4F A4F A14F A14F (riverD (.inl Fa3) (.inl Fb3) (.inl (0, 4)) 3 8 3 41 45 49) (riverD (.inl Fa4) (.inl Fb4) (.inl (0, 4)) 3 8 3 42 46 50) ((.inr (.inl (0, 12, Pd1)))) ((.inr (.inl (0, 12, Pd2)))) ((.inr (.inl (0, 12, Pd3)))) ((.inr (.inl (0, 12, Pd4)))) ((.inr (.inl (0, 12, Ps1)))) ((.inr (.inl (0, 12, Ps2)))) ((.inr (.inl (0, 12, Ps3)))) ((.inr (.inl (0, 12, Ps4)))) ((.inr (.inl (0, 48, Pi1)))) ((.inr (.inl (0, 48, Pi2)))) ((.inr (.inl (0, 48, Pi3)))) ((.inr (.inl (0, 48, Pi4))))) s.heap := hH
  have hl : lv_has ls 3 [(0, .ref a0), (1, .int a1), (2, .int a2)] := hl
  refine lv_aload_n F.1 F.2.1 dX6_trade_0 rfl (lv_at hl 0 rfl) ?_
  refine lv_iload_n F.1 F.2.1 dX6_trade_1 rfl (lv_at hl 1 rfl) ?_
  refine lv_iload_n F.1 F.2.1 dX6_trade_2 rfl (lv_at hl 2 rfl) ?_
  refine tVi (b := a0) (As := [.int a1, .int a2]) (rest := []) F hK hN hO (c_X6_areTwoRights_2 E rd tp kb Fa1 Fb1 Fa2 Fa3 Fb3 Fa4 Fb4 ks Pd1 Pd2 Pd3 Pd4 Ps1 Ps2 Ps3 Ps4 Pi1 Pi2 Pi3 Pi4 b t a0 a1 a2 ha0 (by omega) (by omega) hFa1 hFb1 hFa2 hFa3 hFb3 hFa4 hFb4 hks hPd1 hPd2 hPd3 hPd4 hPs1 hPs2 hPs3 hPs4 hPi1 hPi2 hPi3 hPi4) mv_X6_areTwoRights wd_33_14 ⟨Nat.le_of_ble_eq_true rfl, Nat.le_of_ble_eq_true rfl⟩ ⟨Nat.le_of_ble_eq_true rfl, Nat.le_of_ble_eq_true rfl⟩ hH hS (tRecv hK hH (tyb ha0 (all1 rfl)) clX6) rfl hl.1 (Nat.le_of_ble_eq_true rfl) dX6_trade_3 (fun z_1 H locs hq hS => ?_)
  obtain ⟨f_2, f_3, f_4, f_5, hH⟩ := hq
  have hH : TH E (tbC (dayD (.inl (0, 18))) (dayD (.inl (0, 18))) (riverD (.inl Fa1) (.inl Fb1) (.inl (0, 4)) 31 33 35 39 43 47) (riverD (.inl Fa2) (.inl (b, b)) (.inl (0, 4)) 32 34 36 40 44 48) (rcD (.inl (t, t)) (.inr [27]) (.inr ks) (.inl kb)) rd tp A14F A14F A4F A4F A14F A14F (riverD (.inl Fa3) (.inl Fb3) (.inl (0, 4)) 3 8 3 41 45 49) (riverD (.inl Fa4) (.inl Fb4) (.inl (0, 4)) 3 8 3 42 46 50) ((.inr (.inl (0, 12, Pd1)))) ((.inr (.inl (0, 12, Pd2)))) ((.inr (.inl (0, 12, Pd3)))) ((.inr (.inl (0, 12, Pd4)))) ((.inr (.inl (0, 12, Ps1)))) ((.inr (.inl (0, 12, Ps2)))) ((.inr (.inl (0, 12, Ps3)))) ((.inr (.inl (0, 12, Ps4)))) ((.inr (.inl (0, 48, Pi1)))) ((.inr (.inl (0, 48, Pi2)))) ((.inr (.inl (0, 48, Pi3)))) ((.inr (.inl (0, 48, Pi4))))) H := hH
  refine z_ne (tgt := 11) F dX6_trade_6 (by decide) (fun c_6 => ?_) (fun c_6 => ?_)
  · skip
    have r_7 : 1 ≤ z_1.toInt ∧ z_1.toInt ≤ 1 := by have h9_ := f_2; omega
    have r_8 : 0 ≤ a1.toInt ∧ a1.toInt ≤ 13 := by have h9_ := (i32b a1); omega
    have r_9 : 0 ≤ a2.toInt ∧ a2.toInt ≤ 13 := by have h9_ := (i32b a2); omega
    refine lv_aload_n F.1 F.2.1 dX6_trade_11 rfl (lv_at hl 0 rfl) ?_
    refine tVv (b := a0) (As := []) (rest := []) F hK hN hO (c_X6_remember E rd tp kb Fa1 Fb1 Fa2 (b, b) Fa3 Fb3 Fa4 Fb4 ([27]) ks Pd1 Pd2 Pd3 Pd4 Ps1 Ps2 Ps3 Ps4 Pi1 Pi2 Pi3 Pi4 t a0 ha0 (by omega) hFa1 hFb1 hFa2 (by show 0 ≤ b ∧ b ≤ 14; omega) hFa3 hFb3 hFa4 hFb4 (by decide) hks hPd1 hPd2 hPd3 hPd4 hPs1 hPs2 hPs3 hPs4 hPi1 hPi2 hPi3 hPi4) mv_X6_remember wd_19_13 ⟨Nat.le_of_ble_eq_true rfl, Nat.le_of_ble_eq_true rfl⟩ ⟨Nat.le_of_ble_eq_true rfl, Nat.le_of_ble_eq_true rfl⟩ hH hS (tRecv hK hH (tyb ha0 (all1 rfl)) clX6) rfl hl.1 (Nat.le_of_ble_eq_true rfl) dX6_trade_12 (fun H locs hq hS => ?_)
    have hH := hq
    have hH : TH E (tbC (dayD (.inl (0, 18))) (dayD (.inl (0, 18))) (riverD (.inl Fa1) (.inl Fb1) (.inl (0, 4)) 31 33 35 39 43 47) (riverD (.inl Fa2) (.inl (b, b)) (.inl (0, 4)) 32 34 36 40 44 48) (rcD (.inl (t, t)) (.inr [27]) (.inr ks) (.inl kb)) rd tp A14F A14F A4F A4F A14F A14F (riverD (.inl Fa3) (.inl Fb3) (.inl (0, 4)) 3 8 3 41 45 49) (riverD (.inl Fa4) (.inl Fb4) (.inl (0, 4)) 3 8 3 42 46 50) ((.inr (.inl (0, 12, Pd1)))) ((.inr (.inl (0, 12, Pd2)))) ((.inr (.inl (0, 12, Pd3)))) ((.inr (.inl (0, 12, Pd4)))) ((.inr (.inl (0, 12, Ps1)))) ((.inr (.inl (0, 12, Ps2)))) ((.inr (.inl (0, 12, Ps3)))) ((.inr (.inl (0, 12, Ps4)))) ((.inr (.inl (0, 48, Pi1)))) ((.inr (.inl (0, 48, Pi2)))) ((.inr (.inl (0, 48, Pi3)))) ((.inr (.inl (0, 48, Pi4))))) H := hH
    refine lv_aload_n F.1 F.2.1 dX6_trade_15 rfl (lv_at hl 0 rfl) ?_
    refine tGetR (j := 4) F hK hH (tyb ha0 (all1 rfl)) rfl (all1 rfl) clX6 (by decide) wd_1_22 dX6_trade_16 (fun q_12 hq_12 _ => ?_)
    refine lv_iload_n F.1 F.2.1 dX6_trade_19 rfl (lv_at hl 1 rfl) ?_
    refine lv_iload_n F.1 F.2.1 dX6_trade_20 rfl (lv_at hl 2 rfl) ?_
    refine tVv (b := q_12) (As := [.int a1, .int a2]) (rest := []) F hK hN hO (c_X5_tradeAges E (dayD (.inl (0, 18))) (dayD (.inl (0, 18))) (riverD (.inl Fa1) (.inl Fb1) (.inl (0, 4)) 31 33 35 39 43 47) (riverD (.inl Fa2) (.inl (b, b)) (.inl (0, 4)) 32 34 36 40 44 48) (rcD (.inl (t, t)) (.inr [27]) (.inr ks) (.inl kb)) rd tp A14F A14F A4F A4F A14F A14F (riverD (.inl Fa3) (.inl Fb3) (.inl (0, 4)) 3 8 3 41 45 49) (riverD (.inl Fa4) (.inl Fb4) (.inl (0, 4)) 3 8 3 42 46 50) ((.inr (.inl (0, 12, Pd1)))) ((.inr (.inl (0, 12, Pd2)))) ((.inr (.inl (0, 12, Pd3)))) ((.inr (.inl (0, 12, Pd4)))) ((.inr (.inl (0, 12, Ps1)))) ((.inr (.inl (0, 12, Ps2)))) ((.inr (.inl (0, 12, Ps3)))) ((.inr (.inl (0, 12, Ps4)))) ((.inr (.inl (0, 48, Pi1)))) ((.inr (.inl (0, 48, Pi2)))) ((.inr (.inl (0, 48, Pi3)))) ((.inr (.inl (0, 48, Pi4)))) q_12 a1 a2 hq_12 r_8 r_9) mv_X5_tradeAges wd_33_18 ⟨Nat.le_of_ble_eq_true rfl, Nat.le_of_ble_eq_true rfl⟩ ⟨Nat.le_of_ble_eq_true rfl, Nat.le_of_ble_eq_true rfl⟩ hH hS (tRecv hK hH (tyb hq_12 (all1 rfl)) clX5) rfl hl.1 (Nat.le_of_ble_eq_true rfl) dX6_trade_21 (fun H locs hq hS => ?_)
    have hH := hq
    have hH : TH E (tbC (dayD (.inl (0, 18))) (dayD (.inl (0, 18))) (riverD (.inl Fa1) (.inl Fb1) (.inl (0, 4)) 31 33 35 39 43 47) (riverD (.inl Fa2) (.inl (b, b)) (.inl (0, 4)) 32 34 36 40 44 48) (rcD (.inl (t, t)) (.inr [27]) (.inr ks) (.inl kb)) rd tp A14F A14F A4F A4F A14F A14F (riverD (.inl Fa3) (.inl Fb3) (.inl (0, 4)) 3 8 3 41 45 49) (riverD (.inl Fa4) (.inl Fb4) (.inl (0, 4)) 3 8 3 42 46 50) ((.inr (.inl (0, 12, Pd1)))) ((.inr (.inl (0, 12, Pd2)))) ((.inr (.inl (0, 12, Pd3)))) ((.inr (.inl (0, 12, Pd4)))) ((.inr (.inl (0, 12, Ps1)))) ((.inr (.inl (0, 12, Ps2)))) ((.inr (.inl (0, 12, Ps3)))) ((.inr (.inl (0, 12, Ps4)))) ((.inr (.inl (0, 48, Pi1)))) ((.inr (.inl (0, 48, Pi2)))) ((.inr (.inl (0, 48, Pi3)))) ((.inr (.inl (0, 48, Pi4))))) H := hH
    refine lv_iconst (v := 1) F.1 F.2.1 dX6_trade_24 (by decide) ?_
    refine topK (a := 1) (by decide) (fun k_14 hk_14 => ?_)
    exact txI F hS dX6_trade_25 rfl (⟨(wkb (eqb hk_14) rfl rfl), (trA_y (by omega) (by omega)), hH⟩)
  · skip
    have r_10 : 0 ≤ z_1.toInt ∧ z_1.toInt ≤ 0 := by have h9_ := f_2; omega
    refine lv_iconst (v := (-1)) F.1 F.2.1 dX6_trade_9 (by decide) ?_
    refine topK (a := (-1)) (by decide) (fun k_15 hk_15 => ?_)
    exact txI F hS dX6_trade_10 rfl (⟨(wkb (eqb hk_15) rfl rfl), (trA_n (by omega) (by omega)), hH⟩)
set_option maxHeartbeats 4000000 in
set_option maxRecDepth 100000 in
theorem c_X6_move (E : Ev) (rd : TD) (tp : TD) (kb : Int × Int) (Fa1 : Int × Int) (Fb1 : Int × Int) (Fa2 : Int × Int) (Fb2 : Int × Int) (Fa3 : Int × Int) (Fb3 : Int × Int) (Fa4 : Int × Int) (Fb4 : Int × Int) (kr : List Nat) (ks : List Nat) (Pd1 : (Nat → Int32) → Prop) (Pd2 : (Nat → Int32) → Prop) (Pd3 : (Nat → Int32) → Prop) (Pd4 : (Nat → Int32) → Prop) (Ps1 : (Nat → Int32) → Prop) (Ps2 : (Nat → Int32) → Prop) (Ps3 : (Nat → Int32) → Prop) (Ps4 : (Nat → Int32) → Prop) (Pi1 : (Nat → Int32) → Prop) (Pi2 : (Nat → Int32) → Prop) (Pi3 : (Nat → Int32) → Prop) (Pi4 : (Nat → Int32) → Prop) (t : Int) (a0 : Nat) (a1 : Int32) (a2 : Int32) (ha0 : eT E a0 ∈ [28]) (ht : 0 ≤ t ∧ t ≤ 400) (hFa1 : 0 ≤ Fa1.1 ∧ Fa1.2 ≤ 12) (hFb1 : 0 ≤ Fb1.1 ∧ Fb1.2 ≤ 14) (hFa2 : 0 ≤ Fa2.1 ∧ Fa2.2 ≤ 12) (hFb2 : 0 ≤ Fb2.1 ∧ Fb2.2 ≤ 14) (hFa3 : 0 ≤ Fa3.1 ∧ Fa3.2 ≤ 12) (hFb3 : 0 ≤ Fb3.1 ∧ Fb3.2 ≤ 14) (hFa4 : 0 ≤ Fa4.1 ∧ Fa4.2 ≤ 12) (hFb4 : 0 ≤ Fb4.1 ∧ Fb4.2 ≤ 14) (hkr : ∀ t ∈ kr, t ∈ [26, 27]) (hks : ∀ t ∈ ks, t ∈ [26, 27]) (hPd1 : ∀ f, Pd1 f → ivP 12 (-2) 11 f) (hPd2 : ∀ f, Pd2 f → ivP 12 (-2) 11 f) (hPd3 : ∀ f, Pd3 f → ivP 12 (-2) 11 f) (hPd4 : ∀ f, Pd4 f → ivP 12 (-2) 11 f) (hPs1 : ∀ f, Ps1 f → ivP 12 (-2147483648) 2147483647 f) (hPs2 : ∀ f, Ps2 f → ivP 12 (-2147483648) 2147483647 f) (hPs3 : ∀ f, Ps3 f → ivP 12 (-2147483648) 2147483647 f) (hPs4 : ∀ f, Ps4 f → ivP 12 (-2147483648) 2147483647 f) (hPi1 : ∀ f, Pi1 f → ivP 48 (-2147483648) 2147483647 f) (hPi2 : ∀ f, Pi2 f → ivP 48 (-2147483648) 2147483647 f) (hPi3 : ∀ f, Pi3 f → ivP 48 (-2147483648) 2147483647 f) (hPi4 : ∀ f, Pi4 f → ivP 48 (-2147483648) 2147483647 f) : TcI E yX6_move cX6_move 3 .int ({ frames := 7, cells := 0, slots := 0, locals := 186 }) [.ref a0, .int a1, .int a2] (fun H => TH E (tbC (dayD (.inl (0, 18))) (dayD (.inl (0, 18))) (riverD (.inl Fa1) (.inl Fb1) (.inl (0, 4)) 31 33 35 39 43 47) (riverD (.inl Fa2) (.inl Fb2) (.inl (0, 4)) 32 34 36 40 44 48) (rcD (.inl (t, t)) (.inr kr) (.inr ks) (.inl kb)) rd tp A14F A14F A4F A4F A14F A14F (riverD (.inl Fa3) (.inl Fb3) (.inl (0, 4)) 3 8 3 41 45 49) (riverD (.inl Fa4) (.inl Fb4) (.inl (0, 4)) 3 8 3 42 46 50) ((.inr (.inl (0, 12, Pd1)))) ((.inr (.inl (0, 12, Pd2)))) ((.inr (.inl (0, 12, Pd3)))) ((.inr (.inl (0, 12, Pd4)))) ((.inr (.inl (0, 12, Ps1)))) ((.inr (.inl (0, 12, Ps2)))) ((.inr (.inl (0, 12, Ps3)))) ((.inr (.inl (0, 12, Ps4)))) ((.inr (.inl (0, 48, Pi1)))) ((.inr (.inl (0, 48, Pi2)))) ((.inr (.inl (0, 48, Pi3)))) ((.inr (.inl (0, 48, Pi4))))) H) (fun v H => ((-2147483648) ≤ v.toInt ∧ v.toInt ≤ 2147483647) ∧ TH E (tbC (dayD (.inl (0, 18))) (dayD (.inl (0, 18))) (riverD (.inl Fa1) (.inl Fb1) (.inl (0, 4)) 31 33 35 39 43 47) (riverD (.inl Fa2) (.inl Fb2) (.inl (0, 4)) 32 34 36 40 44 48) (rcD (.inl (t, t)) (.inr kr) (.inr ks) (.inl kb)) rd tp A14F A14F A4F A4F A14F A14F (riverD (.inl Fa3) (.inl Fb3) (.inl (0, 4)) 3 8 3 41 45 49) (riverD (.inl Fa4) (.inl Fb4) (.inl (0, 4)) 3 8 3 42 46 50) ((.inr (.inl (0, 12, Pd1)))) ((.inr (.inl (0, 12, Pd2)))) ((.inr (.inl (0, 12, Pd3)))) ((.inr (.inl (0, 12, Pd4)))) ((.inr (.inl (0, 12, Ps1)))) ((.inr (.inl (0, 12, Ps2)))) ((.inr (.inl (0, 12, Ps3)))) ((.inr (.inl (0, 12, Ps4)))) ((.inr (.inl (0, 48, Pi1)))) ((.inr (.inl (0, 48, Pi2)))) ((.inr (.inl (0, 48, Pi3)))) ((.inr (.inl (0, 48, Pi4))))) H) := by
  refine teI (by decide) (Nat.le_of_ble_eq_true rfl) ?_
  intro p_ ev_ s mi_ below_ meth cd_ ls F hK hN hO hH hS hl
  have hH : TH E (tbC (dayD (.inl (0, 18))) (dayD (.inl (0, 18))) (riverD (.inl Fa1) (.inl Fb1) (.inl (0, 4)) 31 33 35 39 43 47) (riverD (.inl Fa2) (.inl Fb2) (.inl (0, 4)) 32 34 36 40 44 48) (rcD (.inl (t, t)) (.inr kr) (.inr ks) (.inl kb)) rd tp A14F A14F A4F A4F A14F A14F (riverD (.inl Fa3) (.inl Fb3) (.inl (0, 4)) 3 8 3 41 45 49) (riverD (.inl Fa4) (.inl Fb4) (.inl (0, 4)) 3 8 3 42 46 50) ((.inr (.inl (0, 12, Pd1)))) ((.inr (.inl (0, 12, Pd2)))) ((.inr (.inl (0, 12, Pd3)))) ((.inr (.inl (0, 12, Pd4)))) ((.inr (.inl (0, 12, Ps1)))) ((.inr (.inl (0, 12, Ps2)))) ((.inr (.inl (0, 12, Ps3)))) ((.inr (.inl (0, 12, Ps4)))) ((.inr (.inl (0, 48, Pi1)))) ((.inr (.inl (0, 48, Pi2)))) ((.inr (.inl (0, 48, Pi3)))) ((.inr (.inl (0, 48, Pi4))))) s.heap := hH
  have hl : lv_has ls 3 [(0, .ref a0), (1, .int a1), (2, .int a2)] := hl
  refine lv_aload_n F.1 F.2.1 dX6_move_0 rfl (lv_at hl 0 rfl) ?_
  refine lv_iload_n F.1 F.2.1 dX6_move_1 rfl (lv_at hl 1 rfl) ?_
  refine tVi (b := a0) (As := [.int a1]) (rest := []) F hK hN hO (c_X6_isRight E rd tp kb Fa1 Fb1 Fa2 Fb2 Fa3 Fb3 Fa4 Fb4 kr ks Pd1 Pd2 Pd3 Pd4 Ps1 Ps2 Ps3 Ps4 Pi1 Pi2 Pi3 Pi4 t a0 a1 ha0 (by omega) hFa1 hFb1 hFa2 hFb2 hFa3 hFb3 hFa4 hFb4 hkr hks hPd1 hPd2 hPd3 hPd4 hPs1 hPs2 hPs3 hPs4 hPi1 hPi2 hPi3 hPi4) mv_X6_isRight wd_31_10 ⟨Nat.le_of_ble_eq_true rfl, Nat.le_of_ble_eq_true rfl⟩ ⟨Nat.le_of_ble_eq_true rfl, Nat.le_of_ble_eq_true rfl⟩ hH hS (tRecv hK hH (tyb ha0 (all1 rfl)) clX6) rfl hl.1 (Nat.le_of_ble_eq_true rfl) dX6_move_2 (fun z_1 H locs hq hS => ?_)
  obtain ⟨f_2, f_3, hH⟩ := hq
  have hH : TH E (tbC (dayD (.inl (0, 18))) (dayD (.inl (0, 18))) (riverD (.inl Fa1) (.inl Fb1) (.inl (0, 4)) 31 33 35 39 43 47) (riverD (.inl Fa2) (.inl Fb2) (.inl (0, 4)) 32 34 36 40 44 48) (rcD (.inl (t, t)) (.inr kr) (.inr ks) (.inl kb)) rd tp A14F A14F A4F A4F A14F A14F (riverD (.inl Fa3) (.inl Fb3) (.inl (0, 4)) 3 8 3 41 45 49) (riverD (.inl Fa4) (.inl Fb4) (.inl (0, 4)) 3 8 3 42 46 50) ((.inr (.inl (0, 12, Pd1)))) ((.inr (.inl (0, 12, Pd2)))) ((.inr (.inl (0, 12, Pd3)))) ((.inr (.inl (0, 12, Pd4)))) ((.inr (.inl (0, 12, Ps1)))) ((.inr (.inl (0, 12, Ps2)))) ((.inr (.inl (0, 12, Ps3)))) ((.inr (.inl (0, 12, Ps4)))) ((.inr (.inl (0, 48, Pi1)))) ((.inr (.inl (0, 48, Pi2)))) ((.inr (.inl (0, 48, Pi3)))) ((.inr (.inl (0, 48, Pi4))))) H := hH
  refine z_eq (tgt := 16) F dX6_move_5 (by decide) (fun c_4 => ?_) (fun c_4 => ?_)
  · skip
    have r_5 : 0 ≤ z_1.toInt ∧ z_1.toInt ≤ 0 := by have h9_ := f_2; omega
    refine lv_iconst (v := (-1)) F.1 F.2.1 dX6_move_16 (by decide) ?_
    refine topK (a := (-1)) (by decide) (fun k_8 hk_8 => ?_)
    exact txI F hS dX6_move_17 rfl (⟨(wkb (eqb hk_8) rfl rfl), hH⟩)
  · skip
    have r_6 : 1 ≤ z_1.toInt ∧ z_1.toInt ≤ 1 := by have h9_ := f_2; omega
    have r_7 : 0 ≤ a1.toInt ∧ a1.toInt ≤ 13 := by have h9_ := (i32b a1); omega
    refine lv_aload_n F.1 F.2.1 dX6_move_8 rfl (lv_at hl 0 rfl) ?_
    refine lv_iload_n F.1 F.2.1 dX6_move_9 rfl (lv_at hl 2 rfl) ?_
    refine tVi (b := a0) (As := [.int a2]) (rest := []) F hK hN hO (c_X6_isReach E rd tp kb Fa1 Fb1 Fa2 Fb2 Fa3 Fb3 Fa4 Fb4 kr ks Pd1 Pd2 Pd3 Pd4 Ps1 Ps2 Ps3 Ps4 Pi1 Pi2 Pi3 Pi4 t a0 a2 ha0 (by omega) hFa1 hFb1 hFa2 hFb2 hFa3 hFb3 hFa4 hFb4 hkr hks hPd1 hPd2 hPd3 hPd4 hPs1 hPs2 hPs3 hPs4 hPi1 hPi2 hPi3 hPi4) mv_X6_isReach wd_34_6 ⟨Nat.le_of_ble_eq_true rfl, Nat.le_of_ble_eq_true rfl⟩ ⟨Nat.le_of_ble_eq_true rfl, Nat.le_of_ble_eq_true rfl⟩ hH hS (tRecv hK hH (tyb ha0 (all1 rfl)) clX6) rfl hl.1 (Nat.le_of_ble_eq_true rfl) dX6_move_10 (fun z_9 H locs hq hS => ?_)
    obtain ⟨f_10, f_11, hH⟩ := hq
    have hH : TH E (tbC (dayD (.inl (0, 18))) (dayD (.inl (0, 18))) (riverD (.inl Fa1) (.inl Fb1) (.inl (0, 4)) 31 33 35 39 43 47) (riverD (.inl Fa2) (.inl Fb2) (.inl (0, 4)) 32 34 36 40 44 48) (rcD (.inl (t, t)) (.inr kr) (.inr ks) (.inl kb)) rd tp A14F A14F A4F A4F A14F A14F (riverD (.inl Fa3) (.inl Fb3) (.inl (0, 4)) 3 8 3 41 45 49) (riverD (.inl Fa4) (.inl Fb4) (.inl (0, 4)) 3 8 3 42 46 50) ((.inr (.inl (0, 12, Pd1)))) ((.inr (.inl (0, 12, Pd2)))) ((.inr (.inl (0, 12, Pd3)))) ((.inr (.inl (0, 12, Pd4)))) ((.inr (.inl (0, 12, Ps1)))) ((.inr (.inl (0, 12, Ps2)))) ((.inr (.inl (0, 12, Ps3)))) ((.inr (.inl (0, 12, Ps4)))) ((.inr (.inl (0, 48, Pi1)))) ((.inr (.inl (0, 48, Pi2)))) ((.inr (.inl (0, 48, Pi3)))) ((.inr (.inl (0, 48, Pi4))))) H := hH
    refine z_ne (tgt := 18) F dX6_move_13 (by decide) (fun c_12 => ?_) (fun c_12 => ?_)
    · skip
      have r_13 : 1 ≤ z_9.toInt ∧ z_9.toInt ≤ 1 := by have h9_ := f_10; omega
      have r_14 : 0 ≤ a2.toInt ∧ a2.toInt ≤ 11 := by have h9_ := (i32b a2); omega
      refine lv_aload_n F.1 F.2.1 dX6_move_18 rfl (lv_at hl 0 rfl) ?_
      refine tGetR (j := 4) F hK hH (tyb ha0 (all1 rfl)) rfl (all1 rfl) clX6 (by decide) wd_1_22 dX6_move_19 (fun q_16 hq_16 _ => ?_)
      refine tGetR (j := 2) F hK hH (tyb hq_16 (all1 rfl)) rfl (all1 rfl) clX5 (by decide) wd_32_5 dX6_move_22 (fun q_17 hq_17 _ => ?_)
      refine lv_iload_n F.1 F.2.1 dX6_move_25 rfl (lv_at hl 1 rfl) ?_
      refine tIaldB F hK hH (tyb hq_17 (all1 rfl)) (ixb (n := 14) r_7 rfl rfl) dX6_move_26 (fun z_18 hz_18 => ?_)
      refine lv_iload_n F.1 F.2.1 dX6_move_27 rfl (lv_at hl 2 rfl) ?_
      refine b_ne (tgt := 34) F dX6_move_28 (by decide) (fun c_19 => ?_) (fun c_19 => ?_)
      · skip
        refine lv_aload_n F.1 F.2.1 dX6_move_34 rfl (lv_at hl 0 rfl) ?_
        refine tVv (b := a0) (As := []) (rest := []) F hK hN hO (c_X6_lookAhead E rd tp kb Fa1 Fb1 Fa2 Fb2 Fa3 Fb3 Fa4 Fb4 kr ks Pd1 Pd2 Pd3 Pd4 Ps1 Ps2 Ps3 Ps4 Pi1 Pi2 Pi3 Pi4 t a0 ha0 (by omega) hFa1 hFb1 hFa2 hFb2 hFa3 hFb3 hFa4 hFb4 hkr hks hPd1 hPd2 hPd3 hPd4 hPs1 hPs2 hPs3 hPs4 hPi1 hPi2 hPi3 hPi4) mv_X6_lookAhead wd_34_11 ⟨Nat.le_of_ble_eq_true rfl, Nat.le_of_ble_eq_true rfl⟩ ⟨Nat.le_of_ble_eq_true rfl, Nat.le_of_ble_eq_true rfl⟩ hH hS (tRecv hK hH (tyb ha0 (all1 rfl)) clX6) rfl hl.1 (Nat.le_of_ble_eq_true rfl) dX6_move_35 (fun H locs hq hS => ?_)
        have hH := hq
        have hH : TH E (tbC (dayD (.inl (0, 18))) (dayD (.inl (0, 18))) (riverD (.inl Fa1) (.inl Fb1) (.inl (0, 4)) 31 33 35 39 43 47) (riverD (.inl Fa2) (.inl Fb2) (.inl (0, 4)) 32 34 36 40 44 48) (rcD (.inl (t, t)) (.inr kr) (.inr ks) (.inl kb)) rd tp A14F A14F A4F A4F A14F A14F (riverD (.inl Fa3) (.inl Fb3) (.inl (0, 4)) 3 8 3 41 45 49) (riverD (.inl Fa4) (.inl Fb4) (.inl (0, 4)) 3 8 3 42 46 50) ((.inr (.inl (0, 12, Pd1)))) ((.inr (.inl (0, 12, Pd2)))) ((.inr (.inl (0, 12, Pd3)))) ((.inr (.inl (0, 12, Pd4)))) ((.inr (.inl (0, 12, Ps1)))) ((.inr (.inl (0, 12, Ps2)))) ((.inr (.inl (0, 12, Ps3)))) ((.inr (.inl (0, 12, Ps4)))) ((.inr (.inl (0, 48, Pi1)))) ((.inr (.inl (0, 48, Pi2)))) ((.inr (.inl (0, 48, Pi3)))) ((.inr (.inl (0, 48, Pi4))))) H := hH
        refine lv_aload_n F.1 F.2.1 dX6_move_38 rfl (lv_at hl 0 rfl) ?_
        refine lv_iload_n F.1 F.2.1 dX6_move_39 rfl (lv_at hl 1 rfl) ?_
        refine lv_iload_n F.1 F.2.1 dX6_move_40 rfl (lv_at hl 2 rfl) ?_
        refine tVi (b := a0) (As := [.int a1, .int a2]) (rest := []) F hK hN hO (c_X6_hurtsSomebody E rd tp kb Fa1 Fb1 Fa2 Fb2 Fa3 Fb3 Fa4 Fb4 kr ks Pd1 Pd2 Pd3 Pd4 Ps1 Ps2 Ps3 Ps4 Pi1 Pi2 Pi3 Pi4 t a0 a1 a2 ha0 r_7 r_14 (by omega) hFa1 hFb1 hFa2 hFb2 hFa3 hFb3 hFa4 hFb4 hkr hks hPd1 hPd2 hPd3 hPd4 hPs1 hPs2 hPs3 hPs4 hPi1 hPi2 hPi3 hPi4) mv_X6_hurtsSomebody wd_36_18 ⟨Nat.le_of_ble_eq_true rfl, Nat.le_of_ble_eq_true rfl⟩ ⟨Nat.le_of_ble_eq_true rfl, Nat.le_of_ble_eq_true rfl⟩ hH hS (tRecv hK hH (tyb ha0 (all1 rfl)) clX6) rfl hl.1 (Nat.le_of_ble_eq_true rfl) dX6_move_41 (fun z_21 H locs hq hS => ?_)
        obtain ⟨f_22, hH⟩ := hq
        have hH : TH E (tbC (dayD (.inl (0, 18))) (dayD (.inl (0, 18))) (riverD (.inl Fa1) (.inl Fb1) (.inl (0, 4)) 31 33 35 39 43 47) (riverD (.inl Fa2) (.inl Fb2) (.inl (0, 4)) 32 34 36 40 44 48) (rcD (.inl (t, t)) (.inr kr) (.inr ks) (.inl kb)) rd tp A14F A14F A4F A4F A14F A14F (riverD (.inl Fa3) (.inl Fb3) (.inl (0, 4)) 3 8 3 41 45 49) (riverD (.inl Fa4) (.inl Fb4) (.inl (0, 4)) 3 8 3 42 46 50) ((.inr (.inl (0, 12, Pd1)))) ((.inr (.inl (0, 12, Pd2)))) ((.inr (.inl (0, 12, Pd3)))) ((.inr (.inl (0, 12, Pd4)))) ((.inr (.inl (0, 12, Ps1)))) ((.inr (.inl (0, 12, Ps2)))) ((.inr (.inl (0, 12, Ps3)))) ((.inr (.inl (0, 12, Ps4)))) ((.inr (.inl (0, 48, Pi1)))) ((.inr (.inl (0, 48, Pi2)))) ((.inr (.inl (0, 48, Pi3)))) ((.inr (.inl (0, 48, Pi4))))) H := hH
        refine z_eq (tgt := 50) F dX6_move_44 (by decide) (fun c_23 => ?_) (fun c_23 => ?_)
        · skip
          have r_24 : 0 ≤ z_21.toInt ∧ z_21.toInt ≤ 0 := by have h9_ := f_22; omega
          refine lv_aload_n F.1 F.2.1 dX6_move_50 rfl (lv_at hl 0 rfl) ?_
          refine tVv (b := a0) (As := []) (rest := []) F hK hN hO (c_X6_remember E rd tp kb Fa1 Fb1 Fa2 Fb2 Fa3 Fb3 Fa4 Fb4 kr ks Pd1 Pd2 Pd3 Pd4 Ps1 Ps2 Ps3 Ps4 Pi1 Pi2 Pi3 Pi4 t a0 ha0 (by omega) hFa1 hFb1 hFa2 hFb2 hFa3 hFb3 hFa4 hFb4 hkr hks hPd1 hPd2 hPd3 hPd4 hPs1 hPs2 hPs3 hPs4 hPi1 hPi2 hPi3 hPi4) mv_X6_remember wd_19_13 ⟨Nat.le_of_ble_eq_true rfl, Nat.le_of_ble_eq_true rfl⟩ ⟨Nat.le_of_ble_eq_true rfl, Nat.le_of_ble_eq_true rfl⟩ hH hS (tRecv hK hH (tyb ha0 (all1 rfl)) clX6) rfl hl.1 (Nat.le_of_ble_eq_true rfl) dX6_move_51 (fun H locs hq hS => ?_)
          have hH := hq
          have hH : TH E (tbC (dayD (.inl (0, 18))) (dayD (.inl (0, 18))) (riverD (.inl Fa1) (.inl Fb1) (.inl (0, 4)) 31 33 35 39 43 47) (riverD (.inl Fa2) (.inl Fb2) (.inl (0, 4)) 32 34 36 40 44 48) (rcD (.inl (t, t)) (.inr kr) (.inr ks) (.inl kb)) rd tp A14F A14F A4F A4F A14F A14F (riverD (.inl Fa3) (.inl Fb3) (.inl (0, 4)) 3 8 3 41 45 49) (riverD (.inl Fa4) (.inl Fb4) (.inl (0, 4)) 3 8 3 42 46 50) ((.inr (.inl (0, 12, Pd1)))) ((.inr (.inl (0, 12, Pd2)))) ((.inr (.inl (0, 12, Pd3)))) ((.inr (.inl (0, 12, Pd4)))) ((.inr (.inl (0, 12, Ps1)))) ((.inr (.inl (0, 12, Ps2)))) ((.inr (.inl (0, 12, Ps3)))) ((.inr (.inl (0, 12, Ps4)))) ((.inr (.inl (0, 48, Pi1)))) ((.inr (.inl (0, 48, Pi2)))) ((.inr (.inl (0, 48, Pi3)))) ((.inr (.inl (0, 48, Pi4))))) H := hH
          refine lv_aload_n F.1 F.2.1 dX6_move_54 rfl (lv_at hl 0 rfl) ?_
          refine tGetR (j := 4) F hK hH (tyb ha0 (all1 rfl)) rfl (all1 rfl) clX6 (by decide) wd_1_22 dX6_move_55 (fun q_27 hq_27 _ => ?_)
          refine tGetR (j := 2) F hK hH (tyb hq_27 (all1 rfl)) rfl (all1 rfl) clX5 (by decide) wd_32_5 dX6_move_58 (fun q_28 hq_28 _ => ?_)
          refine lv_iload_n F.1 F.2.1 dX6_move_61 rfl (lv_at hl 1 rfl) ?_
          refine lv_iload_n F.1 F.2.1 dX6_move_62 rfl (lv_at hl 2 rfl) ?_
          refine tIastB F hK hH hS (tyb hq_28 (all1 rfl)) (ixb (n := 14) r_7 rfl rfl) r_14 dX6_move_63 (fun H locs hH hS => ?_)
          refine lv_iconst (v := 1) F.1 F.2.1 dX6_move_64 (by decide) ?_
          refine topK (a := 1) (by decide) (fun k_29 hk_29 => ?_)
          exact txI F hS dX6_move_65 rfl (⟨(wkb (eqb hk_29) rfl rfl), hH⟩)
        · skip
          have r_25 : 1 ≤ z_21.toInt ∧ z_21.toInt ≤ 1 := by have h9_ := f_22; omega
          refine lv_bipush (v := (-3)) F.1 F.2.1 dX6_move_47 (by decide) ?_
          refine topK (a := (-3)) (by decide) (fun k_30 hk_30 => ?_)
          exact txI F hS dX6_move_49 rfl (⟨(wkb (eqb hk_30) rfl rfl), hH⟩)
      · skip
        refine lv_bipush (v := (-2)) F.1 F.2.1 dX6_move_31 (by decide) ?_
        refine topK (a := (-2)) (by decide) (fun k_31 hk_31 => ?_)
        exact txI F hS dX6_move_33 rfl (⟨(wkb (eqb hk_31) rfl rfl), hH⟩)
    · skip
      have r_15 : 0 ≤ z_9.toInt ∧ z_9.toInt ≤ 0 := by have h9_ := f_10; omega
      refine lv_iconst (v := (-1)) F.1 F.2.1 dX6_move_16 (by decide) ?_
      refine topK (a := (-1)) (by decide) (fun k_32 hk_32 => ?_)
      exact txI F hS dX6_move_17 rfl (⟨(wkb (eqb hk_32) rfl rfl), hH⟩)
set_option maxHeartbeats 4000000 in
set_option maxRecDepth 100000 in
theorem c_X6_undo (E : Ev) (rd : TD) (tp : TD) (kb : Int × Int) (Fa1 : Int × Int) (Fb1 : Int × Int) (Fa2 : Int × Int) (Fb2 : Int × Int) (Fa3 : Int × Int) (Fb3 : Int × Int) (Fa4 : Int × Int) (Fb4 : Int × Int) (kr : List Nat) (ks : List Nat) (Pd1 : (Nat → Int32) → Prop) (Pd2 : (Nat → Int32) → Prop) (Pd3 : (Nat → Int32) → Prop) (Pd4 : (Nat → Int32) → Prop) (Ps1 : (Nat → Int32) → Prop) (Ps2 : (Nat → Int32) → Prop) (Ps3 : (Nat → Int32) → Prop) (Ps4 : (Nat → Int32) → Prop) (Pi1 : (Nat → Int32) → Prop) (Pi2 : (Nat → Int32) → Prop) (Pi3 : (Nat → Int32) → Prop) (Pi4 : (Nat → Int32) → Prop) (t : Int) (a0 : Nat) (ha0 : eT E a0 ∈ [28]) (ht : 0 ≤ t ∧ t ≤ 400) (hFa1 : 0 ≤ Fa1.1 ∧ Fa1.2 ≤ 12) (hFb1 : 0 ≤ Fb1.1 ∧ Fb1.2 ≤ 14) (hFa2 : 0 ≤ Fa2.1 ∧ Fa2.2 ≤ 12) (hFb2 : 0 ≤ Fb2.1 ∧ Fb2.2 ≤ 14) (hFa3 : 0 ≤ Fa3.1 ∧ Fa3.2 ≤ 12) (hFb3 : 0 ≤ Fb3.1 ∧ Fb3.2 ≤ 14) (hFa4 : 0 ≤ Fa4.1 ∧ Fa4.2 ≤ 12) (hFb4 : 0 ≤ Fb4.1 ∧ Fb4.2 ≤ 14) (hkr : ∀ t ∈ kr, t ∈ [26, 27]) (hks : ∀ t ∈ ks, t ∈ [26, 27]) (hPd1 : ∀ f, Pd1 f → ivP 12 (-2) 11 f) (hPd2 : ∀ f, Pd2 f → ivP 12 (-2) 11 f) (hPd3 : ∀ f, Pd3 f → ivP 12 (-2) 11 f) (hPd4 : ∀ f, Pd4 f → ivP 12 (-2) 11 f) (hPs1 : ∀ f, Ps1 f → ivP 12 (-2147483648) 2147483647 f) (hPs2 : ∀ f, Ps2 f → ivP 12 (-2147483648) 2147483647 f) (hPs3 : ∀ f, Ps3 f → ivP 12 (-2147483648) 2147483647 f) (hPs4 : ∀ f, Ps4 f → ivP 12 (-2147483648) 2147483647 f) (hPi1 : ∀ f, Pi1 f → ivP 48 (-2147483648) 2147483647 f) (hPi2 : ∀ f, Pi2 f → ivP 48 (-2147483648) 2147483647 f) (hPi3 : ∀ f, Pi3 f → ivP 48 (-2147483648) 2147483647 f) (hPi4 : ∀ f, Pi4 f → ivP 48 (-2147483648) 2147483647 f) : TcI E yX6_undo cX6_undo 1 .int ({ frames := 3, cells := 0, slots := 0, locals := 82 }) [.ref a0] (fun H => TH E (tbC (dayD (.inl (0, 18))) (dayD (.inl (0, 18))) (riverD (.inl Fa1) (.inl Fb1) (.inl (0, 4)) 31 33 35 39 43 47) (riverD (.inl Fa2) (.inl Fb2) (.inl (0, 4)) 32 34 36 40 44 48) (rcD (.inl (t, t)) (.inr kr) (.inr ks) (.inl kb)) rd tp A14F A14F A4F A4F A14F A14F (riverD (.inl Fa3) (.inl Fb3) (.inl (0, 4)) 3 8 3 41 45 49) (riverD (.inl Fa4) (.inl Fb4) (.inl (0, 4)) 3 8 3 42 46 50) ((.inr (.inl (0, 12, Pd1)))) ((.inr (.inl (0, 12, Pd2)))) ((.inr (.inl (0, 12, Pd3)))) ((.inr (.inl (0, 12, Pd4)))) ((.inr (.inl (0, 12, Ps1)))) ((.inr (.inl (0, 12, Ps2)))) ((.inr (.inl (0, 12, Ps3)))) ((.inr (.inl (0, 12, Ps4)))) ((.inr (.inl (0, 48, Pi1)))) ((.inr (.inl (0, 48, Pi2)))) ((.inr (.inl (0, 48, Pi3)))) ((.inr (.inl (0, 48, Pi4))))) H) (fun v H => ((-2147483648) ≤ v.toInt ∧ v.toInt ≤ 2147483647) ∧ TH E (tbC (dayD (.inl (0, 18))) (dayD (.inl (0, 18))) (riverD (.inl Fa1) (.inl Fb1) (.inl (0, 4)) 31 33 35 39 43 47) (riverD (.inl Fa2) (.inl Fb2) (.inl (0, 4)) 32 34 36 40 44 48) (rcD (.inl (t, t)) (.inr kr) (.inr ks) (.inl kb)) rd tp A14F A14F A4F A4F A14F A14F (riverD (.inl Fa3) (.inl Fb3) (.inl (0, 4)) 3 8 3 41 45 49) (riverD (.inl Fa4) (.inl Fb4) (.inl (0, 4)) 3 8 3 42 46 50) ((.inr (.inl (0, 12, Pd1)))) ((.inr (.inl (0, 12, Pd2)))) ((.inr (.inl (0, 12, Pd3)))) ((.inr (.inl (0, 12, Pd4)))) ((.inr (.inl (0, 12, Ps1)))) ((.inr (.inl (0, 12, Ps2)))) ((.inr (.inl (0, 12, Ps3)))) ((.inr (.inl (0, 12, Ps4)))) ((.inr (.inl (0, 48, Pi1)))) ((.inr (.inl (0, 48, Pi2)))) ((.inr (.inl (0, 48, Pi3)))) ((.inr (.inl (0, 48, Pi4))))) H) := by
  refine teI (by decide) (Nat.le_of_ble_eq_true rfl) ?_
  intro p_ ev_ s mi_ below_ meth cd_ ls F hK hN hO hH hS hl
  have hH : TH E (tbC (dayD (.inl (0, 18))) (dayD (.inl (0, 18))) (riverD (.inl Fa1) (.inl Fb1) (.inl (0, 4)) 31 33 35 39 43 47) (riverD (.inl Fa2) (.inl Fb2) (.inl (0, 4)) 32 34 36 40 44 48) (rcD (.inl (t, t)) (.inr kr) (.inr ks) (.inl kb)) rd tp A14F A14F A4F A4F A14F A14F (riverD (.inl Fa3) (.inl Fb3) (.inl (0, 4)) 3 8 3 41 45 49) (riverD (.inl Fa4) (.inl Fb4) (.inl (0, 4)) 3 8 3 42 46 50) ((.inr (.inl (0, 12, Pd1)))) ((.inr (.inl (0, 12, Pd2)))) ((.inr (.inl (0, 12, Pd3)))) ((.inr (.inl (0, 12, Pd4)))) ((.inr (.inl (0, 12, Ps1)))) ((.inr (.inl (0, 12, Ps2)))) ((.inr (.inl (0, 12, Ps3)))) ((.inr (.inl (0, 12, Ps4)))) ((.inr (.inl (0, 48, Pi1)))) ((.inr (.inl (0, 48, Pi2)))) ((.inr (.inl (0, 48, Pi3)))) ((.inr (.inl (0, 48, Pi4))))) s.heap := hH
  have hl : lv_has ls 1 [(0, .ref a0)] := hl
  refine lv_aload_n F.1 F.2.1 dX6_undo_0 rfl (lv_at hl 0 rfl) ?_
  refine tGetI (j := 7) F hK hH (tyb ha0 (all1 rfl)) rfl clX6 (by decide) wd_8_17 dX6_undo_1 (fun z_1 hz_1 => ?_)
  refine z_gt (tgt := 9) F dX6_undo_4 (by decide) (fun c_2 => ?_) (fun c_2 => ?_)
  · skip
    have r_3 : 1 ≤ z_1.toInt ∧ z_1.toInt ≤ 2147483647 := by have h9_ := hz_1; omega
    refine lv_aload_n F.1 F.2.1 dX6_undo_9 rfl (lv_at hl 0 rfl) ?_
    refine lv_aload_n F.1 F.2.1 dX6_undo_10 rfl (lv_at hl 0 rfl) ?_
    refine tGetI (j := 6) F hK hH (tyb ha0 (all1 rfl)) rfl clX6 (by decide) wd_19_17 dX6_undo_11 (fun z_5 hz_5 => ?_)
    refine lv_bipush (v := 10) F.1 F.2.1 dX6_undo_14 (by decide) ?_
    refine topK (a := 10) (by decide) (fun k_6 hk_6 => ?_)
    refine tAdd (lo := 10) (hi := 19) F dX6_undo_16 hz_5 (eqb hk_6) rfl (fun z_7 hz_7 => ?_)
    refine lv_iconst (v := 1) F.1 F.2.1 dX6_undo_17 (by decide) ?_
    refine topK (a := 1) (by decide) (fun k_8 hk_8 => ?_)
    refine tSub (lo := 9) (hi := 18) F dX6_undo_18 hz_7.2 (eqb hk_8) rfl (fun z_9 hz_9 => ?_)
    refine lv_bipush (v := 10) F.1 F.2.1 dX6_undo_19 (by decide) ?_
    refine topK (a := 10) (by decide) (fun k_10 hk_10 => ?_)
    refine tRem (k := 10) (hi := 9) F dX6_undo_21 hz_9.2 hk_10 rfl (fun z_11 hz_11 => ?_)
    refine tPut (j := 6) F hK hH hS (tyb ha0 (all1 rfl)) rfl (fdI hz_11.2) clX6 (by decide) wd_19_17 rfl rfl rfl rfl dX6_undo_22 (fun H locs hH hS => ?_)
    refine lv_aload_n F.1 F.2.1 dX6_undo_25 rfl (lv_at hl 0 rfl) ?_
    refine tGetR (j := 4) F hK hH (tyb ha0 (all1 rfl)) rfl (all1 rfl) clX6 (by decide) wd_1_22 dX6_undo_26 (fun q_12 hq_12 _ => ?_)
    refine lv_aload_n F.1 F.2.1 dX6_undo_29 rfl (lv_at hl 0 rfl) ?_
    refine tGetR (j := 5) F hK hH (tyb ha0 (all1 rfl)) rfl (all1 rfl) clX6 (by decide) wd_1_23 dX6_undo_30 (fun q_13 hq_13 _ => ?_)
    refine lv_aload_n F.1 F.2.1 dX6_undo_33 rfl (lv_at hl 0 rfl) ?_
    refine tGetI (j := 6) F hK hH (tyb ha0 (all1 rfl)) rfl clX6 (by decide) wd_19_17 dX6_undo_34 (fun z_14 hz_14 => ?_)
    refine tAald F hK hH (tyb hq_13 (all1 rfl)) rfl (all1 rfl) (ixb (n := 10) hz_14 rfl rfl) dX6_undo_37 (fun q_15 hq_15 _ => ?_)
    refine tVv (b := q_12) (As := [.ref q_15]) (rest := []) F hK hN hO (c_X5_copyOf E (dayD (.inl (0, 18))) (dayD (.inl (0, 18))) (riverD (.inl Fa1) (.inl Fb1) (.inl (0, 4)) 31 33 35 39 43 47) (riverD (.inl Fa2) (.inl Fb2) (.inl (0, 4)) 32 34 36 40 44 48) (rcD (.inl (t, t)) (.inr kr) (.inr ks) (.inl kb)) rd tp A14F A14F A4F A4F A14F A14F (riverD (.inl Fa3) (.inl Fb3) (.inl (0, 4)) 3 8 3 41 45 49) (riverD (.inl Fa4) (.inl Fb4) (.inl (0, 4)) 3 8 3 42 46 50) ((.inr (.inl (0, 12, Pd1)))) ((.inr (.inl (0, 12, Pd2)))) ((.inr (.inl (0, 12, Pd3)))) ((.inr (.inl (0, 12, Pd4)))) ((.inr (.inl (0, 12, Ps1)))) ((.inr (.inl (0, 12, Ps2)))) ((.inr (.inl (0, 12, Ps3)))) ((.inr (.inl (0, 12, Ps4)))) ((.inr (.inl (0, 48, Pi1)))) ((.inr (.inl (0, 48, Pi2)))) ((.inr (.inl (0, 48, Pi3)))) ((.inr (.inl (0, 48, Pi4)))) q_12 q_15 hq_12 hq_15) mv_X5_copyOf wd_19_18 ⟨Nat.le_of_ble_eq_true rfl, Nat.le_of_ble_eq_true rfl⟩ ⟨Nat.le_of_ble_eq_true rfl, Nat.le_of_ble_eq_true rfl⟩ hH hS (tRecv hK hH (tyb hq_12 (all1 rfl)) clX5) rfl hl.1 (Nat.le_of_ble_eq_true rfl) dX6_undo_38 (fun H locs hq hS => ?_)
    have hH := hq
    have hH : TH E (tbC (dayD (.inl (0, 18))) (dayD (.inl (0, 18))) (riverD (.inl Fa1) (.inl Fb1) (.inl (0, 4)) 31 33 35 39 43 47) (riverD (.inl Fa2) (.inl Fb2) (.inl (0, 4)) 32 34 36 40 44 48) (rcD (.inl (t, t)) (.inr kr) (.inr ks) (.inl kb)) rd tp A14F A14F A4F A4F A14F A14F (riverD (.inl Fa3) (.inl Fb3) (.inl (0, 4)) 3 8 3 41 45 49) (riverD (.inl Fa4) (.inl Fb4) (.inl (0, 4)) 3 8 3 42 46 50) ((.inr (.inl (0, 12, Pd1)))) ((.inr (.inl (0, 12, Pd2)))) ((.inr (.inl (0, 12, Pd3)))) ((.inr (.inl (0, 12, Pd4)))) ((.inr (.inl (0, 12, Ps1)))) ((.inr (.inl (0, 12, Ps2)))) ((.inr (.inl (0, 12, Ps3)))) ((.inr (.inl (0, 12, Ps4)))) ((.inr (.inl (0, 48, Pi1)))) ((.inr (.inl (0, 48, Pi2)))) ((.inr (.inl (0, 48, Pi3)))) ((.inr (.inl (0, 48, Pi4))))) H := hH
    refine lv_aload_n F.1 F.2.1 dX6_undo_41 rfl (lv_at hl 0 rfl) ?_
    refine lv_dup F.1 F.2.1 dX6_undo_42 rfl ?_
    refine tGetI (j := 7) F hK hH (tyb ha0 (all1 rfl)) rfl clX6 (by decide) wd_8_17 dX6_undo_43 (fun z_17 hz_17 => ?_)
    refine lv_iconst (v := 1) F.1 F.2.1 dX6_undo_46 (by decide) ?_
    refine topK (a := 1) (by decide) (fun k_18 hk_18 => ?_)
    refine lv_isub F.1 F.2.1 dX6_undo_47 ?_
    refine topF (fun z_19 => ?_)
    refine tPut (j := 7) F hK hH hS (tyb ha0 (all1 rfl)) rfl (fdI (i32b _)) clX6 (by decide) wd_8_17 rfl rfl rfl rfl dX6_undo_48 (fun H locs hH hS => ?_)
    refine lv_aload_n F.1 F.2.1 dX6_undo_51 rfl (lv_at hl 0 rfl) ?_
    refine tGetI (j := 7) F hK hH (tyb ha0 (all1 rfl)) rfl clX6 (by decide) wd_8_17 dX6_undo_52 (fun z_20 hz_20 => ?_)
    exact txI F hS dX6_undo_55 rfl (⟨hz_20, hH⟩)
  · skip
    have r_4 : (-2147483648) ≤ z_1.toInt ∧ z_1.toInt ≤ 0 := by have h9_ := hz_1; omega
    refine lv_iconst (v := (-1)) F.1 F.2.1 dX6_undo_7 (by decide) ?_
    refine topK (a := (-1)) (by decide) (fun k_21 hk_21 => ?_)
    exact txI F hS dX6_undo_8 rfl (⟨(wkb (eqb hk_21) rfl rfl), hH⟩)
set_option maxHeartbeats 4000000 in
set_option maxRecDepth 100000 in
theorem c_X6_reach (E : Ev) (rd : TD) (tp : TD) (kb : Int × Int) (Fa1 : Int × Int) (Fb1 : Int × Int) (Fa2 : Int × Int) (Fb2 : Int × Int) (Fa3 : Int × Int) (Fb3 : Int × Int) (Fa4 : Int × Int) (Fb4 : Int × Int) (kr : List Nat) (ks : List Nat) (Pd1 : (Nat → Int32) → Prop) (Pd2 : (Nat → Int32) → Prop) (Pd3 : (Nat → Int32) → Prop) (Pd4 : (Nat → Int32) → Prop) (Ps1 : (Nat → Int32) → Prop) (Ps2 : (Nat → Int32) → Prop) (Ps3 : (Nat → Int32) → Prop) (Ps4 : (Nat → Int32) → Prop) (Pi1 : (Nat → Int32) → Prop) (Pi2 : (Nat → Int32) → Prop) (Pi3 : (Nat → Int32) → Prop) (Pi4 : (Nat → Int32) → Prop) (t : Int) (a0 : Nat) (a1 : Int32) (a2 : Int32) (ha0 : eT E a0 ∈ [28]) (ht : 0 ≤ t ∧ t ≤ 400) (hFa1 : 0 ≤ Fa1.1 ∧ Fa1.2 ≤ 12) (hFb1 : 0 ≤ Fb1.1 ∧ Fb1.2 ≤ 14) (hFa2 : 0 ≤ Fa2.1 ∧ Fa2.2 ≤ 12) (hFb2 : 0 ≤ Fb2.1 ∧ Fb2.2 ≤ 14) (hFa3 : 0 ≤ Fa3.1 ∧ Fa3.2 ≤ 12) (hFb3 : 0 ≤ Fb3.1 ∧ Fb3.2 ≤ 14) (hFa4 : 0 ≤ Fa4.1 ∧ Fa4.2 ≤ 12) (hFb4 : 0 ≤ Fb4.1 ∧ Fb4.2 ≤ 14) (hkr : ∀ t ∈ kr, t ∈ [26, 27]) (hks : ∀ t ∈ ks, t ∈ [26, 27]) (hPd1 : ∀ f, Pd1 f → ivP 12 (-2) 11 f) (hPd2 : ∀ f, Pd2 f → ivP 12 (-2) 11 f) (hPd3 : ∀ f, Pd3 f → ivP 12 (-2) 11 f) (hPd4 : ∀ f, Pd4 f → ivP 12 (-2) 11 f) (hPs1 : ∀ f, Ps1 f → ivP 12 (-2147483648) 2147483647 f) (hPs2 : ∀ f, Ps2 f → ivP 12 (-2147483648) 2147483647 f) (hPs3 : ∀ f, Ps3 f → ivP 12 (-2147483648) 2147483647 f) (hPs4 : ∀ f, Ps4 f → ivP 12 (-2147483648) 2147483647 f) (hPi1 : ∀ f, Pi1 f → ivP 48 (-2147483648) 2147483647 f) (hPi2 : ∀ f, Pi2 f → ivP 48 (-2147483648) 2147483647 f) (hPi3 : ∀ f, Pi3 f → ivP 48 (-2147483648) 2147483647 f) (hPi4 : ∀ f, Pi4 f → ivP 48 (-2147483648) 2147483647 f) : TcI E yX6_reach cX6_reach 3 .int ({ frames := 2, cells := 0, slots := 0, locals := 64 }) [.ref a0, .int a1, .int a2] (fun H => TH E (tbC (dayD (.inl (0, 18))) (dayD (.inl (0, 18))) (riverD (.inl Fa1) (.inl Fb1) (.inl (0, 4)) 31 33 35 39 43 47) (riverD (.inl Fa2) (.inl Fb2) (.inl (0, 4)) 32 34 36 40 44 48) (rcD (.inl (t, t)) (.inr kr) (.inr ks) (.inl kb)) rd tp A14F A14F A4F A4F A14F A14F (riverD (.inl Fa3) (.inl Fb3) (.inl (0, 4)) 3 8 3 41 45 49) (riverD (.inl Fa4) (.inl Fb4) (.inl (0, 4)) 3 8 3 42 46 50) ((.inr (.inl (0, 12, Pd1)))) ((.inr (.inl (0, 12, Pd2)))) ((.inr (.inl (0, 12, Pd3)))) ((.inr (.inl (0, 12, Pd4)))) ((.inr (.inl (0, 12, Ps1)))) ((.inr (.inl (0, 12, Ps2)))) ((.inr (.inl (0, 12, Ps3)))) ((.inr (.inl (0, 12, Ps4)))) ((.inr (.inl (0, 48, Pi1)))) ((.inr (.inl (0, 48, Pi2)))) ((.inr (.inl (0, 48, Pi3)))) ((.inr (.inl (0, 48, Pi4))))) H) (fun v H => ((-2147483648) ≤ v.toInt ∧ v.toInt ≤ 2147483647) ∧ TH E (tbC (dayD (.inl (0, 18))) (dayD (.inl (0, 18))) (riverD (.inl Fa1) (.inl Fb1) (.inl (0, 4)) 31 33 35 39 43 47) (riverD (.inl Fa2) (.inl Fb2) (.inl (0, 4)) 32 34 36 40 44 48) (rcD (.inl (t, t)) (.inr kr) (.inr ks) (.inl kb)) rd tp A14F A14F A4F A4F A14F A14F (riverD (.inl Fa3) (.inl Fb3) (.inl (0, 4)) 3 8 3 41 45 49) (riverD (.inl Fa4) (.inl Fb4) (.inl (0, 4)) 3 8 3 42 46 50) ((.inr (.inl (0, 12, Pd1)))) ((.inr (.inl (0, 12, Pd2)))) ((.inr (.inl (0, 12, Pd3)))) ((.inr (.inl (0, 12, Pd4)))) ((.inr (.inl (0, 12, Ps1)))) ((.inr (.inl (0, 12, Ps2)))) ((.inr (.inl (0, 12, Ps3)))) ((.inr (.inl (0, 12, Ps4)))) ((.inr (.inl (0, 48, Pi1)))) ((.inr (.inl (0, 48, Pi2)))) ((.inr (.inl (0, 48, Pi3)))) ((.inr (.inl (0, 48, Pi4))))) H) := by
  refine teI (by decide) (Nat.le_of_ble_eq_true rfl) ?_
  intro p_ ev_ s mi_ below_ meth cd_ ls F hK hN hO hH hS hl
  have hH : TH E (tbC (dayD (.inl (0, 18))) (dayD (.inl (0, 18))) (riverD (.inl Fa1) (.inl Fb1) (.inl (0, 4)) 31 33 35 39 43 47) (riverD (.inl Fa2) (.inl Fb2) (.inl (0, 4)) 32 34 36 40 44 48) (rcD (.inl (t, t)) (.inr kr) (.inr ks) (.inl kb)) rd tp A14F A14F A4F A4F A14F A14F (riverD (.inl Fa3) (.inl Fb3) (.inl (0, 4)) 3 8 3 41 45 49) (riverD (.inl Fa4) (.inl Fb4) (.inl (0, 4)) 3 8 3 42 46 50) ((.inr (.inl (0, 12, Pd1)))) ((.inr (.inl (0, 12, Pd2)))) ((.inr (.inl (0, 12, Pd3)))) ((.inr (.inl (0, 12, Pd4)))) ((.inr (.inl (0, 12, Ps1)))) ((.inr (.inl (0, 12, Ps2)))) ((.inr (.inl (0, 12, Ps3)))) ((.inr (.inl (0, 12, Ps4)))) ((.inr (.inl (0, 48, Pi1)))) ((.inr (.inl (0, 48, Pi2)))) ((.inr (.inl (0, 48, Pi3)))) ((.inr (.inl (0, 48, Pi4))))) s.heap := hH
  have hl : lv_has ls 3 [(0, .ref a0), (1, .int a1), (2, .int a2)] := hl
  refine lv_aload_n F.1 F.2.1 dX6_reach_0 rfl (lv_at hl 0 rfl) ?_
  refine lv_iload_n F.1 F.2.1 dX6_reach_1 rfl (lv_at hl 1 rfl) ?_
  refine tVi (b := a0) (As := [.int a1]) (rest := []) F hK hN hO (c_X6_isReach E rd tp kb Fa1 Fb1 Fa2 Fb2 Fa3 Fb3 Fa4 Fb4 kr ks Pd1 Pd2 Pd3 Pd4 Ps1 Ps2 Ps3 Ps4 Pi1 Pi2 Pi3 Pi4 t a0 a1 ha0 (by omega) hFa1 hFb1 hFa2 hFb2 hFa3 hFb3 hFa4 hFb4 hkr hks hPd1 hPd2 hPd3 hPd4 hPs1 hPs2 hPs3 hPs4 hPi1 hPi2 hPi3 hPi4) mv_X6_isReach wd_34_6 ⟨Nat.le_of_ble_eq_true rfl, Nat.le_of_ble_eq_true rfl⟩ ⟨Nat.le_of_ble_eq_true rfl, Nat.le_of_ble_eq_true rfl⟩ hH hS (tRecv hK hH (tyb ha0 (all1 rfl)) clX6) rfl hl.1 (Nat.le_of_ble_eq_true rfl) dX6_reach_2 (fun z_1 H locs hq hS => ?_)
  obtain ⟨f_2, f_3, hH⟩ := hq
  have hH : TH E (tbC (dayD (.inl (0, 18))) (dayD (.inl (0, 18))) (riverD (.inl Fa1) (.inl Fb1) (.inl (0, 4)) 31 33 35 39 43 47) (riverD (.inl Fa2) (.inl Fb2) (.inl (0, 4)) 32 34 36 40 44 48) (rcD (.inl (t, t)) (.inr kr) (.inr ks) (.inl kb)) rd tp A14F A14F A4F A4F A14F A14F (riverD (.inl Fa3) (.inl Fb3) (.inl (0, 4)) 3 8 3 41 45 49) (riverD (.inl Fa4) (.inl Fb4) (.inl (0, 4)) 3 8 3 42 46 50) ((.inr (.inl (0, 12, Pd1)))) ((.inr (.inl (0, 12, Pd2)))) ((.inr (.inl (0, 12, Pd3)))) ((.inr (.inl (0, 12, Pd4)))) ((.inr (.inl (0, 12, Ps1)))) ((.inr (.inl (0, 12, Ps2)))) ((.inr (.inl (0, 12, Ps3)))) ((.inr (.inl (0, 12, Ps4)))) ((.inr (.inl (0, 48, Pi1)))) ((.inr (.inl (0, 48, Pi2)))) ((.inr (.inl (0, 48, Pi3)))) ((.inr (.inl (0, 48, Pi4))))) H := hH
  refine z_ne (tgt := 10) F dX6_reach_5 (by decide) (fun c_4 => ?_) (fun c_4 => ?_)
  · skip
    have r_5 : 1 ≤ z_1.toInt ∧ z_1.toInt ≤ 1 := by have h9_ := f_2; omega
    have r_6 : 0 ≤ a1.toInt ∧ a1.toInt ≤ 11 := by have h9_ := (i32b a1); omega
    refine lv_iload_n F.1 F.2.1 dX6_reach_10 rfl (lv_at hl 2 rfl) ?_
    refine lv_bipush (v := 10) F.1 F.2.1 dX6_reach_11 (by decide) ?_
    refine topK (a := 10) (by decide) (fun k_8 hk_8 => ?_)
    refine wjoin (σ := Unit) (pcj := 39) (stj := fun x9 => []) (fun x9 H locs ls => TH E (tbC (dayD (.inl (0, 18))) (dayD (.inl (0, 18))) (riverD (.inl Fa1) (.inl Fb1) (.inl (0, 4)) 31 33 35 39 43 47) (riverD (.inl Fa2) (.inl Fb2) (.inl (0, 4)) 32 34 36 40 44 48) (rcD (.inl (t, t)) (.inr kr) (.inr ks) (.inl kb)) rd tp A14F A14F A4F A4F A14F A14F (riverD (.inl Fa3) (.inl Fb3) (.inl (0, 4)) 3 8 3 41 45 49) (riverD (.inl Fa4) (.inl Fb4) (.inl (0, 4)) 3 8 3 42 46 50) ((.inr (.inl (0, 12, Pd1)))) ((.inr (.inl (0, 12, Pd2)))) ((.inr (.inl (0, 12, Pd3)))) ((.inr (.inl (0, 12, Pd4)))) ((.inr (.inl (0, 12, Ps1)))) ((.inr (.inl (0, 12, Ps2)))) ((.inr (.inl (0, 12, Ps3)))) ((.inr (.inl (0, 12, Ps4)))) ((.inr (.inl (0, 48, Pi1)))) ((.inr (.inl (0, 48, Pi2)))) ((.inr (.inl (0, 48, Pi3)))) ((.inr (.inl (0, 48, Pi4))))) H ∧ va_S (eA E s.heap.size) s.heap H locs ∧ lv_has ls 3 [(0, .ref a0), (1, .int a1), (2, .int a2)]) (fun x9 H locs ls h_ => ?_) (fun J_39 => ?_)
    · skip
      obtain ⟨hH, hS, hl⟩ := h_
      have hH : TH E (tbC (dayD (.inl (0, 18))) (dayD (.inl (0, 18))) (riverD (.inl Fa1) (.inl Fb1) (.inl (0, 4)) 31 33 35 39 43 47) (riverD (.inl Fa2) (.inl Fb2) (.inl (0, 4)) 32 34 36 40 44 48) (rcD (.inl (t, t)) (.inr kr) (.inr ks) (.inl kb)) rd tp A14F A14F A4F A4F A14F A14F (riverD (.inl Fa3) (.inl Fb3) (.inl (0, 4)) 3 8 3 41 45 49) (riverD (.inl Fa4) (.inl Fb4) (.inl (0, 4)) 3 8 3 42 46 50) ((.inr (.inl (0, 12, Pd1)))) ((.inr (.inl (0, 12, Pd2)))) ((.inr (.inl (0, 12, Pd3)))) ((.inr (.inl (0, 12, Pd4)))) ((.inr (.inl (0, 12, Ps1)))) ((.inr (.inl (0, 12, Ps2)))) ((.inr (.inl (0, 12, Ps3)))) ((.inr (.inl (0, 12, Ps4)))) ((.inr (.inl (0, 48, Pi1)))) ((.inr (.inl (0, 48, Pi2)))) ((.inr (.inl (0, 48, Pi3)))) ((.inr (.inl (0, 48, Pi4))))) H := hH
      have hl : lv_has ls 3 [(0, .ref a0), (1, .int a1), (2, .int a2)] := hl
      show W _ _ _ _ _ _ _ _ _ _ _ _ _ _ _ (F0 _ _ _ [])
      refine lv_iload_n F.1 F.2.1 dX6_reach_39 rfl (lv_at hl 2 rfl) ?_
      rcases (by omega : (a2.toInt < 0 ∨ 3 < a2.toInt) ∨ a2.toInt = 0 ∨ a2.toInt = 1 ∨ a2.toInt = 2 ∨ a2.toInt = 3) with w_9 | w_9 | w_9 | w_9 | w_9
      · skip
        refine tTabOut (tgt := 110) F dX6_reach_40 w_9 (by decide) ?_
        refine lv_iconst (v := (-1)) F.1 F.2.1 dX6_reach_110 (by decide) ?_
        refine topK (a := (-1)) (by decide) (fun k_10 hk_10 => ?_)
        exact txI F hS dX6_reach_111 rfl (⟨(wkb (eqb hk_10) rfl rfl), hH⟩)
      · skip
        refine tTabIn (off := 32) (tgt := 72) F dX6_reach_40 w_9 (by decide) (by decide) (by decide +kernel) (by decide) ?_
        refine lv_aload_n F.1 F.2.1 dX6_reach_72 rfl (lv_at hl 0 rfl) ?_
        refine tGetR0 (j := 2) F hK hH (tyb ha0 (all1 rfl)) rfl clX6 (by decide) wd_1_17 dX6_reach_73 (fun q_11 hq_11 => ?_)
        refine tGetRM0 (j := 1) (L := [39, 40]) F hK hH (hkr _ hq_11) (alls ⟨_, _, rfl, rfl, by decide⟩ (alls1 ⟨_, _, rfl, rfl, by decide⟩)) clX2 (by decide) wd_39_22 dX6_reach_76 (fun q_12 hq_12 => ?_)
        refine lv_iload_n F.1 F.2.1 dX6_reach_79 rfl (lv_at hl 1 rfl) ?_
        refine tIaldM (lo := (-2)) (hi := 11) F hK hH hq_12 (alls ⟨_, rfl, hPd1⟩ (alls1 ⟨_, rfl, hPd2⟩)) (ixb (n := 12) r_6 rfl rfl) dX6_reach_80 (fun z_13 hz_13 => ?_)
        exact txI F hS dX6_reach_81 rfl (⟨(wkb hz_13 rfl rfl), hH⟩)
      · skip
        refine tTabIn (off := 42) (tgt := 82) F dX6_reach_40 w_9 (by decide) (by decide) (by decide +kernel) (by decide) ?_
        refine lv_aload_n F.1 F.2.1 dX6_reach_82 rfl (lv_at hl 0 rfl) ?_
        refine tGetR0 (j := 2) F hK hH (tyb ha0 (all1 rfl)) rfl clX6 (by decide) wd_1_17 dX6_reach_83 (fun q_14 hq_14 => ?_)
        refine tGetRM0 (j := 2) (L := [43, 44]) F hK hH (hkr _ hq_14) (alls ⟨_, _, rfl, rfl, by decide⟩ (alls1 ⟨_, _, rfl, rfl, by decide⟩)) clX2 (by decide) wd_39_23 dX6_reach_86 (fun q_15 hq_15 => ?_)
        refine lv_iload_n F.1 F.2.1 dX6_reach_89 rfl (lv_at hl 1 rfl) ?_
        refine tIaldM (lo := (-2147483648)) (hi := 2147483647) F hK hH hq_15 (alls ⟨_, rfl, hPs1⟩ (alls1 ⟨_, rfl, hPs2⟩)) (ixb (n := 12) r_6 rfl rfl) dX6_reach_90 (fun z_16 hz_16 => ?_)
        exact txI F hS dX6_reach_91 rfl (⟨hz_16, hH⟩)
      · skip
        refine tTabIn (off := 52) (tgt := 92) F dX6_reach_40 w_9 (by decide) (by decide) (by decide +kernel) (by decide) ?_
        refine lv_aload_n F.1 F.2.1 dX6_reach_92 rfl (lv_at hl 0 rfl) ?_
        refine tGetR0 (j := 2) F hK hH (tyb ha0 (all1 rfl)) rfl clX6 (by decide) wd_1_17 dX6_reach_93 (fun q_17 hq_17 => ?_)
        refine lv_iload_n F.1 F.2.1 dX6_reach_96 rfl (lv_at hl 1 rfl) ?_
        refine tVi (b := q_17) (As := [.int a1]) (rest := []) F hK hN hO (c_X2_countInto E (dayD (.inl (0, 18))) (dayD (.inl (0, 18))) (rcD (.inl (t, t)) (.inr kr) (.inr ks) (.inl kb)) rd tp Fa1 Fb1 Fa2 Fb2 Fa3 Fb3 Fa4 Fb4 Pd1 Pd2 Pd3 Pd4 Ps1 Ps2 Ps3 Ps4 Pi1 Pi2 Pi3 Pi4 q_17 a1 (by have h9_ := (hkr _ hq_17); simp at h9_ ⊢; omega) hFa1 hFb1 hFa2 hFb2 hFa3 hFb3 hFa4 hFb4 hPd1 hPd2 hPd3 hPd4 hPs1 hPs2 hPs3 hPs4 hPi1 hPi2 hPi3 hPi4) mv_X2_countInto wd_40_0 ⟨Nat.le_of_ble_eq_true rfl, Nat.le_of_ble_eq_true rfl⟩ ⟨Nat.le_of_ble_eq_true rfl, Nat.le_of_ble_eq_true rfl⟩ hH hS (tRecvM hK hH (hkr _ hq_17) (alls ⟨_, rfl⟩ (alls1 ⟨_, rfl⟩)) clX2) rfl hl.1 (Nat.le_of_ble_eq_true rfl) dX6_reach_97 (fun z_18 H locs hq hS => ?_)
        obtain ⟨f_19, hH⟩ := hq
        have hH : TH E (tbC (dayD (.inl (0, 18))) (dayD (.inl (0, 18))) (riverD (.inl Fa1) (.inl Fb1) (.inl (0, 4)) 31 33 35 39 43 47) (riverD (.inl Fa2) (.inl Fb2) (.inl (0, 4)) 32 34 36 40 44 48) (rcD (.inl (t, t)) (.inr kr) (.inr ks) (.inl kb)) rd tp A14F A14F A4F A4F A14F A14F (riverD (.inl Fa3) (.inl Fb3) (.inl (0, 4)) 3 8 3 41 45 49) (riverD (.inl Fa4) (.inl Fb4) (.inl (0, 4)) 3 8 3 42 46 50) ((.inr (.inl (0, 12, Pd1)))) ((.inr (.inl (0, 12, Pd2)))) ((.inr (.inl (0, 12, Pd3)))) ((.inr (.inl (0, 12, Pd4)))) ((.inr (.inl (0, 12, Ps1)))) ((.inr (.inl (0, 12, Ps2)))) ((.inr (.inl (0, 12, Ps3)))) ((.inr (.inl (0, 12, Ps4)))) ((.inr (.inl (0, 48, Pi1)))) ((.inr (.inl (0, 48, Pi2)))) ((.inr (.inl (0, 48, Pi3)))) ((.inr (.inl (0, 48, Pi4))))) H := hH
        exact txI F hS dX6_reach_100 rfl (⟨f_19, hH⟩)
      · skip
        refine tTabIn (off := 61) (tgt := 101) F dX6_reach_40 w_9 (by decide) (by decide) (by decide +kernel) (by decide) ?_
        refine lv_aload_n F.1 F.2.1 dX6_reach_101 rfl (lv_at hl 0 rfl) ?_
        refine tGetR0 (j := 2) F hK hH (tyb ha0 (all1 rfl)) rfl clX6 (by decide) wd_1_17 dX6_reach_102 (fun q_20 hq_20 => ?_)
        refine lv_iload_n F.1 F.2.1 dX6_reach_105 rfl (lv_at hl 1 rfl) ?_
        refine tVi (b := q_20) (As := [.int a1]) (rest := []) F hK hN hO (c_X2_countToMouth E (dayD (.inl (0, 18))) (dayD (.inl (0, 18))) (rcD (.inl (t, t)) (.inr kr) (.inr ks) (.inl kb)) rd tp Fa1 Fb1 Fa2 Fb2 Fa3 Fb3 Fa4 Fb4 Pd1 Pd2 Pd3 Pd4 Ps1 Ps2 Ps3 Ps4 Pi1 Pi2 Pi3 Pi4 q_20 a1 (by have h9_ := (hkr _ hq_20); simp at h9_ ⊢; omega) (wkb r_6 rfl rfl) hFa1 hFb1 hFa2 hFb2 hFa3 hFb3 hFa4 hFb4 hPd1 hPd2 hPd3 hPd4 hPs1 hPs2 hPs3 hPs4 hPi1 hPi2 hPi3 hPi4) mv_X2_countToMouth wd_40_4 ⟨Nat.le_of_ble_eq_true rfl, Nat.le_of_ble_eq_true rfl⟩ ⟨Nat.le_of_ble_eq_true rfl, Nat.le_of_ble_eq_true rfl⟩ hH hS (tRecvM hK hH (hkr _ hq_20) (alls ⟨_, rfl⟩ (alls1 ⟨_, rfl⟩)) clX2) rfl hl.1 (Nat.le_of_ble_eq_true rfl) dX6_reach_106 (fun z_21 H locs hq hS => ?_)
        obtain ⟨f_22, hH⟩ := hq
        have hH : TH E (tbC (dayD (.inl (0, 18))) (dayD (.inl (0, 18))) (riverD (.inl Fa1) (.inl Fb1) (.inl (0, 4)) 31 33 35 39 43 47) (riverD (.inl Fa2) (.inl Fb2) (.inl (0, 4)) 32 34 36 40 44 48) (rcD (.inl (t, t)) (.inr kr) (.inr ks) (.inl kb)) rd tp A14F A14F A4F A4F A14F A14F (riverD (.inl Fa3) (.inl Fb3) (.inl (0, 4)) 3 8 3 41 45 49) (riverD (.inl Fa4) (.inl Fb4) (.inl (0, 4)) 3 8 3 42 46 50) ((.inr (.inl (0, 12, Pd1)))) ((.inr (.inl (0, 12, Pd2)))) ((.inr (.inl (0, 12, Pd3)))) ((.inr (.inl (0, 12, Pd4)))) ((.inr (.inl (0, 12, Ps1)))) ((.inr (.inl (0, 12, Ps2)))) ((.inr (.inl (0, 12, Ps3)))) ((.inr (.inl (0, 12, Ps4)))) ((.inr (.inl (0, 48, Pi1)))) ((.inr (.inl (0, 48, Pi2)))) ((.inr (.inl (0, 48, Pi3)))) ((.inr (.inl (0, 48, Pi4))))) H := hH
        exact txI F hS dX6_reach_109 rfl (⟨f_22, hH⟩)
    refine b_lt (tgt := 39) F dX6_reach_13 (by decide) (fun c_23 => ?_) (fun c_23 => ?_)
    · skip
      have r_24 : (-2147483648) ≤ a2.toInt ∧ a2.toInt ≤ 9 := by have h9_ := (i32b a2); omega
      exact J_39 () _ _ _ ⟨hH, hS, lv_sub hl [0, 1, 2] rfl⟩
    · skip
      have r_25 : 10 ≤ a2.toInt ∧ a2.toInt ≤ 2147483647 := by have h9_ := (i32b a2); omega
      refine lv_iload_n F.1 F.2.1 dX6_reach_16 rfl (lv_at hl 2 rfl) ?_
      refine lv_bipush (v := 14) F.1 F.2.1 dX6_reach_17 (by decide) ?_
      refine topK (a := 14) (by decide) (fun k_26 hk_26 => ?_)
      refine b_ge (tgt := 39) F dX6_reach_19 (by decide) (fun c_27 => ?_) (fun c_27 => ?_)
      · skip
        have r_28 : 14 ≤ a2.toInt ∧ a2.toInt ≤ 2147483647 := by have h9_ := r_25; omega
        exact J_39 () _ _ _ ⟨hH, hS, lv_sub hl [0, 1, 2] rfl⟩
      · skip
        have r_29 : 10 ≤ a2.toInt ∧ a2.toInt ≤ 13 := by have h9_ := r_25; omega
        refine lv_aload_n F.1 F.2.1 dX6_reach_22 rfl (lv_at hl 0 rfl) ?_
        refine tGetR0 (j := 2) F hK hH (tyb ha0 (all1 rfl)) rfl clX6 (by decide) wd_1_17 dX6_reach_23 (fun q_30 hq_30 => ?_)
        refine tGetRM0 (j := 3) (L := [47, 48]) F hK hH (hkr _ hq_30) (alls ⟨_, _, rfl, rfl, by decide⟩ (alls1 ⟨_, _, rfl, rfl, by decide⟩)) clX2 (by decide) wd_39_21 dX6_reach_26 (fun q_31 hq_31 => ?_)
        refine lv_iload_n F.1 F.2.1 dX6_reach_29 rfl (lv_at hl 1 rfl) ?_
        refine lv_iconst (v := 4) F.1 F.2.1 dX6_reach_30 (by decide) ?_
        refine topK (a := 4) (by decide) (fun k_32 hk_32 => ?_)
        refine tMul (lo := 0) (hi := 44) F dX6_reach_31 r_6 (eqb hk_32) rfl (fun z_33 hz_33 => ?_)
        have mz_33 : z_33.toInt = a1.toInt * 4 := by rw [hz_33.1, hk_32]
        refine lv_iload_n F.1 F.2.1 dX6_reach_32 rfl (lv_at hl 2 rfl) ?_
        refine tAdd (lo := 10) (hi := 57) F dX6_reach_33 hz_33.2 r_29 rfl (fun z_34 hz_34 => ?_)
        refine lv_bipush (v := 10) F.1 F.2.1 dX6_reach_34 (by decide) ?_
        refine topK (a := 10) (by decide) (fun k_35 hk_35 => ?_)
        refine tSub (lo := 0) (hi := 47) F dX6_reach_36 hz_34.2 (eqb hk_35) rfl (fun z_36 hz_36 => ?_)
        refine tIaldM (lo := (-2147483648)) (hi := 2147483647) F hK hH hq_31 (alls ⟨_, rfl, hPi1⟩ (alls1 ⟨_, rfl, hPi2⟩)) (ixb (n := 48) hz_36.2 rfl rfl) dX6_reach_37 (fun z_37 hz_37 => ?_)
        exact txI F hS dX6_reach_38 rfl (⟨hz_37, hH⟩)
  · skip
    have r_7 : 0 ≤ z_1.toInt ∧ z_1.toInt ≤ 0 := by have h9_ := f_2; omega
    refine lv_iconst (v := (-1)) F.1 F.2.1 dX6_reach_8 (by decide) ?_
    refine topK (a := (-1)) (by decide) (fun k_38 hk_38 => ?_)
    exact txI F hS dX6_reach_9 rfl (⟨(wkb (eqb hk_38) rfl rfl), hH⟩)
set_option maxHeartbeats 4000000 in
set_option maxRecDepth 100000 in
theorem c_X6_right (E : Ev) (rd : TD) (tp : TD) (kb : Int × Int) (Fa1 : Int × Int) (Fb1 : Int × Int) (Fa2 : Int × Int) (Fb2 : Int × Int) (Fa3 : Int × Int) (Fb3 : Int × Int) (Fa4 : Int × Int) (Fb4 : Int × Int) (kr : List Nat) (ks : List Nat) (Pd1 : (Nat → Int32) → Prop) (Pd2 : (Nat → Int32) → Prop) (Pd3 : (Nat → Int32) → Prop) (Pd4 : (Nat → Int32) → Prop) (Ps1 : (Nat → Int32) → Prop) (Ps2 : (Nat → Int32) → Prop) (Ps3 : (Nat → Int32) → Prop) (Ps4 : (Nat → Int32) → Prop) (Pi1 : (Nat → Int32) → Prop) (Pi2 : (Nat → Int32) → Prop) (Pi3 : (Nat → Int32) → Prop) (Pi4 : (Nat → Int32) → Prop) (t : Int) (a0 : Nat) (a1 : Int32) (a2 : Int32) (ha0 : eT E a0 ∈ [28]) (ht : 0 ≤ t ∧ t ≤ 400) (hFa1 : 0 ≤ Fa1.1 ∧ Fa1.2 ≤ 12) (hFb1 : 0 ≤ Fb1.1 ∧ Fb1.2 ≤ 14) (hFa2 : 0 ≤ Fa2.1 ∧ Fa2.2 ≤ 12) (hFb2 : 0 ≤ Fb2.1 ∧ Fb2.2 ≤ 14) (hFa3 : 0 ≤ Fa3.1 ∧ Fa3.2 ≤ 12) (hFb3 : 0 ≤ Fb3.1 ∧ Fb3.2 ≤ 14) (hFa4 : 0 ≤ Fa4.1 ∧ Fa4.2 ≤ 12) (hFb4 : 0 ≤ Fb4.1 ∧ Fb4.2 ≤ 14) (hkr : ∀ t ∈ kr, t ∈ [26, 27]) (hks : ∀ t ∈ ks, t ∈ [26, 27]) (hPd1 : ∀ f, Pd1 f → ivP 12 (-2) 11 f) (hPd2 : ∀ f, Pd2 f → ivP 12 (-2) 11 f) (hPd3 : ∀ f, Pd3 f → ivP 12 (-2) 11 f) (hPd4 : ∀ f, Pd4 f → ivP 12 (-2) 11 f) (hPs1 : ∀ f, Ps1 f → ivP 12 (-2147483648) 2147483647 f) (hPs2 : ∀ f, Ps2 f → ivP 12 (-2147483648) 2147483647 f) (hPs3 : ∀ f, Ps3 f → ivP 12 (-2147483648) 2147483647 f) (hPs4 : ∀ f, Ps4 f → ivP 12 (-2147483648) 2147483647 f) (hPi1 : ∀ f, Pi1 f → ivP 48 (-2147483648) 2147483647 f) (hPi2 : ∀ f, Pi2 f → ivP 48 (-2147483648) 2147483647 f) (hPi3 : ∀ f, Pi3 f → ivP 48 (-2147483648) 2147483647 f) (hPi4 : ∀ f, Pi4 f → ivP 48 (-2147483648) 2147483647 f) : TcI E yX6_right cX6_right 4 .int ({ frames := 2, cells := 0, slots := 0, locals := 61 }) [.ref a0, .int a1, .int a2] (fun H => TH E (tbC (dayD (.inl (0, 18))) (dayD (.inl (0, 18))) (riverD (.inl Fa1) (.inl Fb1) (.inl (0, 4)) 31 33 35 39 43 47) (riverD (.inl Fa2) (.inl Fb2) (.inl (0, 4)) 32 34 36 40 44 48) (rcD (.inl (t, t)) (.inr kr) (.inr ks) (.inl kb)) rd tp A14F A14F A4F A4F A14F A14F (riverD (.inl Fa3) (.inl Fb3) (.inl (0, 4)) 3 8 3 41 45 49) (riverD (.inl Fa4) (.inl Fb4) (.inl (0, 4)) 3 8 3 42 46 50) ((.inr (.inl (0, 12, Pd1)))) ((.inr (.inl (0, 12, Pd2)))) ((.inr (.inl (0, 12, Pd3)))) ((.inr (.inl (0, 12, Pd4)))) ((.inr (.inl (0, 12, Ps1)))) ((.inr (.inl (0, 12, Ps2)))) ((.inr (.inl (0, 12, Ps3)))) ((.inr (.inl (0, 12, Ps4)))) ((.inr (.inl (0, 48, Pi1)))) ((.inr (.inl (0, 48, Pi2)))) ((.inr (.inl (0, 48, Pi3)))) ((.inr (.inl (0, 48, Pi4))))) H) (fun v H => ((-2147483648) ≤ v.toInt ∧ v.toInt ≤ 2147483647) ∧ TH E (tbC (dayD (.inl (0, 18))) (dayD (.inl (0, 18))) (riverD (.inl Fa1) (.inl Fb1) (.inl (0, 4)) 31 33 35 39 43 47) (riverD (.inl Fa2) (.inl Fb2) (.inl (0, 4)) 32 34 36 40 44 48) (rcD (.inl (t, t)) (.inr kr) (.inr ks) (.inl kb)) rd tp A14F A14F A4F A4F A14F A14F (riverD (.inl Fa3) (.inl Fb3) (.inl (0, 4)) 3 8 3 41 45 49) (riverD (.inl Fa4) (.inl Fb4) (.inl (0, 4)) 3 8 3 42 46 50) ((.inr (.inl (0, 12, Pd1)))) ((.inr (.inl (0, 12, Pd2)))) ((.inr (.inl (0, 12, Pd3)))) ((.inr (.inl (0, 12, Pd4)))) ((.inr (.inl (0, 12, Ps1)))) ((.inr (.inl (0, 12, Ps2)))) ((.inr (.inl (0, 12, Ps3)))) ((.inr (.inl (0, 12, Ps4)))) ((.inr (.inl (0, 48, Pi1)))) ((.inr (.inl (0, 48, Pi2)))) ((.inr (.inl (0, 48, Pi3)))) ((.inr (.inl (0, 48, Pi4))))) H) := by
  refine teI (by decide) (Nat.le_of_ble_eq_true rfl) ?_
  intro p_ ev_ s mi_ below_ meth cd_ ls F hK hN hO hH hS hl
  have hH : TH E (tbC (dayD (.inl (0, 18))) (dayD (.inl (0, 18))) (riverD (.inl Fa1) (.inl Fb1) (.inl (0, 4)) 31 33 35 39 43 47) (riverD (.inl Fa2) (.inl Fb2) (.inl (0, 4)) 32 34 36 40 44 48) (rcD (.inl (t, t)) (.inr kr) (.inr ks) (.inl kb)) rd tp A14F A14F A4F A4F A14F A14F (riverD (.inl Fa3) (.inl Fb3) (.inl (0, 4)) 3 8 3 41 45 49) (riverD (.inl Fa4) (.inl Fb4) (.inl (0, 4)) 3 8 3 42 46 50) ((.inr (.inl (0, 12, Pd1)))) ((.inr (.inl (0, 12, Pd2)))) ((.inr (.inl (0, 12, Pd3)))) ((.inr (.inl (0, 12, Pd4)))) ((.inr (.inl (0, 12, Ps1)))) ((.inr (.inl (0, 12, Ps2)))) ((.inr (.inl (0, 12, Ps3)))) ((.inr (.inl (0, 12, Ps4)))) ((.inr (.inl (0, 48, Pi1)))) ((.inr (.inl (0, 48, Pi2)))) ((.inr (.inl (0, 48, Pi3)))) ((.inr (.inl (0, 48, Pi4))))) s.heap := hH
  have hl : lv_has ls 4 [(0, .ref a0), (1, .int a1), (2, .int a2)] := hl
  refine lv_aload_n F.1 F.2.1 dX6_right_0 rfl (lv_at hl 0 rfl) ?_
  refine lv_iload_n F.1 F.2.1 dX6_right_1 rfl (lv_at hl 1 rfl) ?_
  refine tVi (b := a0) (As := [.int a1]) (rest := []) F hK hN hO (c_X6_isRight E rd tp kb Fa1 Fb1 Fa2 Fb2 Fa3 Fb3 Fa4 Fb4 kr ks Pd1 Pd2 Pd3 Pd4 Ps1 Ps2 Ps3 Ps4 Pi1 Pi2 Pi3 Pi4 t a0 a1 ha0 (by omega) hFa1 hFb1 hFa2 hFb2 hFa3 hFb3 hFa4 hFb4 hkr hks hPd1 hPd2 hPd3 hPd4 hPs1 hPs2 hPs3 hPs4 hPi1 hPi2 hPi3 hPi4) mv_X6_isRight wd_31_10 ⟨Nat.le_of_ble_eq_true rfl, Nat.le_of_ble_eq_true rfl⟩ ⟨Nat.le_of_ble_eq_true rfl, Nat.le_of_ble_eq_true rfl⟩ hH hS (tRecv hK hH (tyb ha0 (all1 rfl)) clX6) rfl hl.1 (Nat.le_of_ble_eq_true rfl) dX6_right_2 (fun z_1 H locs hq hS => ?_)
  obtain ⟨f_2, f_3, hH⟩ := hq
  have hH : TH E (tbC (dayD (.inl (0, 18))) (dayD (.inl (0, 18))) (riverD (.inl Fa1) (.inl Fb1) (.inl (0, 4)) 31 33 35 39 43 47) (riverD (.inl Fa2) (.inl Fb2) (.inl (0, 4)) 32 34 36 40 44 48) (rcD (.inl (t, t)) (.inr kr) (.inr ks) (.inl kb)) rd tp A14F A14F A4F A4F A14F A14F (riverD (.inl Fa3) (.inl Fb3) (.inl (0, 4)) 3 8 3 41 45 49) (riverD (.inl Fa4) (.inl Fb4) (.inl (0, 4)) 3 8 3 42 46 50) ((.inr (.inl (0, 12, Pd1)))) ((.inr (.inl (0, 12, Pd2)))) ((.inr (.inl (0, 12, Pd3)))) ((.inr (.inl (0, 12, Pd4)))) ((.inr (.inl (0, 12, Ps1)))) ((.inr (.inl (0, 12, Ps2)))) ((.inr (.inl (0, 12, Ps3)))) ((.inr (.inl (0, 12, Ps4)))) ((.inr (.inl (0, 48, Pi1)))) ((.inr (.inl (0, 48, Pi2)))) ((.inr (.inl (0, 48, Pi3)))) ((.inr (.inl (0, 48, Pi4))))) H := hH
  refine z_ne (tgt := 10) F dX6_right_5 (by decide) (fun c_4 => ?_) (fun c_4 => ?_)
  · skip
    have r_5 : 1 ≤ z_1.toInt ∧ z_1.toInt ≤ 1 := by have h9_ := f_2; omega
    have r_6 : 0 ≤ a1.toInt ∧ a1.toInt ≤ 13 := by have h9_ := (i32b a1); omega
    refine lv_aload_n F.1 F.2.1 dX6_right_10 rfl (lv_at hl 0 rfl) ?_
    refine tGetR0 (j := 2) F hK hH (tyb ha0 (all1 rfl)) rfl clX6 (by decide) wd_1_17 dX6_right_11 (fun q_8 hq_8 => ?_)
    refine tGetRM (j := 10) (L := [3]) F hK hH (hkr _ hq_8) (alls ⟨_, _, rfl, rfl, by decide⟩ (alls1 ⟨_, _, rfl, rfl, by decide⟩)) (all1 rfl) clX2 (by decide) wd_41_0 dX6_right_14 (fun q_9 hq_9 _ => ?_)
    refine lv_iload_n F.1 F.2.1 dX6_right_17 rfl (lv_at hl 1 rfl) ?_
    refine tIaldB F hK hH (tyb hq_9 (all1 rfl)) (ixb (n := 14) r_6 rfl rfl) dX6_right_18 (fun z_10 hz_10 => ?_)
    refine wjoin (σ := Int32) (pcj := 27) (stj := fun x9 => [.int x9]) (fun x9 H locs ls => (0 ≤ x9.toInt ∧ x9.toInt ≤ 1) ∧ TH E (tbC (dayD (.inl (0, 18))) (dayD (.inl (0, 18))) (riverD (.inl Fa1) (.inl Fb1) (.inl (0, 4)) 31 33 35 39 43 47) (riverD (.inl Fa2) (.inl Fb2) (.inl (0, 4)) 32 34 36 40 44 48) (rcD (.inl (t, t)) (.inr kr) (.inr ks) (.inl kb)) rd tp A14F A14F A4F A4F A14F A14F (riverD (.inl Fa3) (.inl Fb3) (.inl (0, 4)) 3 8 3 41 45 49) (riverD (.inl Fa4) (.inl Fb4) (.inl (0, 4)) 3 8 3 42 46 50) ((.inr (.inl (0, 12, Pd1)))) ((.inr (.inl (0, 12, Pd2)))) ((.inr (.inl (0, 12, Pd3)))) ((.inr (.inl (0, 12, Pd4)))) ((.inr (.inl (0, 12, Ps1)))) ((.inr (.inl (0, 12, Ps2)))) ((.inr (.inl (0, 12, Ps3)))) ((.inr (.inl (0, 12, Ps4)))) ((.inr (.inl (0, 48, Pi1)))) ((.inr (.inl (0, 48, Pi2)))) ((.inr (.inl (0, 48, Pi3)))) ((.inr (.inl (0, 48, Pi4))))) H ∧ va_S (eA E s.heap.size) s.heap H locs ∧ lv_has ls 4 [(0, .ref a0), (1, .int a1), (2, .int a2)]) (fun u_11 H locs ls h_ => ?_) (fun J_27 => ?_)
    · skip
      obtain ⟨hu_11, hH, hS, hl⟩ := h_
      have hu_11 : (0 ≤ u_11.toInt ∧ u_11.toInt ≤ 1) := hu_11
      have hH : TH E (tbC (dayD (.inl (0, 18))) (dayD (.inl (0, 18))) (riverD (.inl Fa1) (.inl Fb1) (.inl (0, 4)) 31 33 35 39 43 47) (riverD (.inl Fa2) (.inl Fb2) (.inl (0, 4)) 32 34 36 40 44 48) (rcD (.inl (t, t)) (.inr kr) (.inr ks) (.inl kb)) rd tp A14F A14F A4F A4F A14F A14F (riverD (.inl Fa3) (.inl Fb3) (.inl (0, 4)) 3 8 3 41 45 49) (riverD (.inl Fa4) (.inl Fb4) (.inl (0, 4)) 3 8 3 42 46 50) ((.inr (.inl (0, 12, Pd1)))) ((.inr (.inl (0, 12, Pd2)))) ((.inr (.inl (0, 12, Pd3)))) ((.inr (.inl (0, 12, Pd4)))) ((.inr (.inl (0, 12, Ps1)))) ((.inr (.inl (0, 12, Ps2)))) ((.inr (.inl (0, 12, Ps3)))) ((.inr (.inl (0, 12, Ps4)))) ((.inr (.inl (0, 48, Pi1)))) ((.inr (.inl (0, 48, Pi2)))) ((.inr (.inl (0, 48, Pi3)))) ((.inr (.inl (0, 48, Pi4))))) H := hH
      have hl : lv_has ls 4 [(0, .ref a0), (1, .int a1), (2, .int a2)] := hl
      show W _ _ _ _ _ _ _ _ _ _ _ _ _ _ _ (F0 _ _ _ [.int u_11])
      refine lv_istore_n (lv' := [(3, .int u_11), (0, .ref a0), (1, .int a1), (2, .int a2)]) F.1 F.2.1 dX6_right_27 rfl hl (by decide) rfl (fun ls hl => ?_)
      refine lv_iload_n F.1 F.2.1 dX6_right_28 rfl (lv_at hl 3 rfl) ?_
      rcases (by omega : (a2.toInt < 0 ∨ 12 < a2.toInt) ∨ a2.toInt = 0 ∨ a2.toInt = 1 ∨ a2.toInt = 2 ∨ a2.toInt = 3 ∨ a2.toInt = 4 ∨ a2.toInt = 5 ∨ a2.toInt = 6 ∨ a2.toInt = 7 ∨ a2.toInt = 8 ∨ a2.toInt = 9 ∨ a2.toInt = 10 ∨ a2.toInt = 11 ∨ a2.toInt = 12) with w_12 | w_12 | w_12 | w_12 | w_12 | w_12 | w_12 | w_12 | w_12 | w_12 | w_12 | w_12 | w_12 | w_12
      · skip
        refine tTabOut (tgt := 244) F dX6_right_29 w_12 (by decide) ?_
        refine lv_iconst (v := (-1)) F.1 F.2.1 dX6_right_244 (by decide) ?_
        refine topK (a := (-1)) (by decide) (fun k_13 hk_13 => ?_)
        exact txI F hS dX6_right_245 rfl (⟨(wkb (eqb hk_13) rfl rfl), hH⟩)
      · skip
        refine tTabIn (off := 67) (tgt := 96) F dX6_right_29 w_12 (by decide) (by decide) (by decide +kernel) (by decide) ?_
        refine lv_aload_n F.1 F.2.1 dX6_right_96 rfl (lv_at hl 1 rfl) ?_
        refine tGetR (j := 4) F hK hH (tyb ha0 (all1 rfl)) rfl (all1 rfl) clX6 (by decide) wd_1_22 dX6_right_97 (fun q_14 hq_14 _ => ?_)
        refine tGetR (j := 2) F hK hH (tyb hq_14 (all1 rfl)) rfl (all1 rfl) clX5 (by decide) wd_32_5 dX6_right_100 (fun q_15 hq_15 _ => ?_)
        refine lv_iload_n F.1 F.2.1 dX6_right_103 rfl (lv_at hl 2 rfl) ?_
        refine tIaldB F hK hH (tyb hq_15 (all1 rfl)) (ixb (n := 14) r_6 rfl rfl) dX6_right_104 (fun z_16 hz_16 => ?_)
        exact txI F hS dX6_right_105 rfl (⟨(wkb hz_16 rfl rfl), hH⟩)
      · skip
        refine tTabIn (off := 77) (tgt := 106) F dX6_right_29 w_12 (by decide) (by decide) (by decide +kernel) (by decide) ?_
        refine lv_aload_n F.1 F.2.1 dX6_right_106 rfl (lv_at hl 1 rfl) ?_
        refine tGetR0 (j := 2) F hK hH (tyb ha0 (all1 rfl)) rfl clX6 (by decide) wd_1_17 dX6_right_107 (fun q_17 hq_17 => ?_)
        refine tGetRM (j := 6) (L := [3]) F hK hH (hkr _ hq_17) (alls ⟨_, _, rfl, rfl, by decide⟩ (alls1 ⟨_, _, rfl, rfl, by decide⟩)) (all1 rfl) clX2 (by decide) wd_31_8 dX6_right_110 (fun q_18 hq_18 _ => ?_)
        refine lv_iload_n F.1 F.2.1 dX6_right_113 rfl (lv_at hl 2 rfl) ?_
        refine tIaldB F hK hH (tyb hq_18 (all1 rfl)) (ixb (n := 14) r_6 rfl rfl) dX6_right_114 (fun z_19 hz_19 => ?_)
        exact txI F hS dX6_right_115 rfl (⟨hz_19, hH⟩)
      · skip
        refine tTabIn (off := 87) (tgt := 116) F dX6_right_29 w_12 (by decide) (by decide) (by decide +kernel) (by decide) ?_
        refine lv_aload_n F.1 F.2.1 dX6_right_116 rfl (lv_at hl 1 rfl) ?_
        refine tGetR0 (j := 2) F hK hH (tyb ha0 (all1 rfl)) rfl clX6 (by decide) wd_1_17 dX6_right_117 (fun q_20 hq_20 => ?_)
        refine tGetRM (j := 7) (L := [35, 36]) F hK hH (hkr _ hq_20) (alls ⟨_, _, rfl, rfl, by decide⟩ (alls1 ⟨_, _, rfl, rfl, by decide⟩)) (all2 rfl rfl) clX2 (by decide) wd_41_1 dX6_right_120 (fun q_21 hq_21 _ => ?_)
        refine lv_iload_n F.1 F.2.1 dX6_right_123 rfl (lv_at hl 2 rfl) ?_
        refine tIaldB F hK hH (tyb hq_21 (all2 rfl rfl)) (ixb (n := 14) r_6 rfl rfl) dX6_right_124 (fun z_22 hz_22 => ?_)
        exact txI F hS dX6_right_125 rfl (⟨hz_22, hH⟩)
      · skip
        refine tTabIn (off := 97) (tgt := 126) F dX6_right_29 w_12 (by decide) (by decide) (by decide +kernel) (by decide) ?_
        refine lv_aload_n F.1 F.2.1 dX6_right_126 rfl (lv_at hl 1 rfl) ?_
        refine tGetR0 (j := 2) F hK hH (tyb ha0 (all1 rfl)) rfl clX6 (by decide) wd_1_17 dX6_right_127 (fun q_23 hq_23 => ?_)
        refine tGetRM (j := 8) (L := [3]) F hK hH (hkr _ hq_23) (alls ⟨_, _, rfl, rfl, by decide⟩ (alls1 ⟨_, _, rfl, rfl, by decide⟩)) (all1 rfl) clX2 (by decide) wd_41_2 dX6_right_130 (fun q_24 hq_24 _ => ?_)
        refine lv_iload_n F.1 F.2.1 dX6_right_133 rfl (lv_at hl 2 rfl) ?_
        refine tIaldB F hK hH (tyb hq_24 (all1 rfl)) (ixb (n := 14) r_6 rfl rfl) dX6_right_134 (fun z_25 hz_25 => ?_)
        exact txI F hS dX6_right_135 rfl (⟨hz_25, hH⟩)
      · skip
        refine tTabIn (off := 107) (tgt := 136) F dX6_right_29 w_12 (by decide) (by decide) (by decide +kernel) (by decide) ?_
        refine lv_aload_n F.1 F.2.1 dX6_right_136 rfl (lv_at hl 1 rfl) ?_
        refine tGetR (j := 4) F hK hH (tyb ha0 (all1 rfl)) rfl (all1 rfl) clX6 (by decide) wd_1_22 dX6_right_137 (fun q_26 hq_26 _ => ?_)
        refine tGetR (j := 3) F hK hH (tyb hq_26 (all1 rfl)) rfl (all1 rfl) clX5 (by decide) wd_41_3 dX6_right_140 (fun q_27 hq_27 _ => ?_)
        refine lv_iload_n F.1 F.2.1 dX6_right_143 rfl (lv_at hl 2 rfl) ?_
        refine tIaldB F hK hH (tyb hq_27 (all1 rfl)) (ixb (n := 14) r_6 rfl rfl) dX6_right_144 (fun z_28 hz_28 => ?_)
        exact txI F hS dX6_right_145 rfl (⟨hz_28, hH⟩)
      · skip
        refine tTabIn (off := 117) (tgt := 146) F dX6_right_29 w_12 (by decide) (by decide) (by decide +kernel) (by decide) ?_
        refine lv_iload_n F.1 F.2.1 dX6_right_146 rfl (lv_at hl 0 rfl) ?_
        refine z_eq (tgt := 162) F dX6_right_147 (by decide) (fun c_29 => ?_) (fun c_29 => ?_)
        · skip
          have r_30 : 0 ≤ u_11.toInt ∧ u_11.toInt ≤ 0 := by have h9_ := hu_11; omega
          refine lv_bipush (v := (-2)) F.1 F.2.1 dX6_right_162 (by decide) ?_
          refine topK (a := (-2)) (by decide) (fun k_32 hk_32 => ?_)
          exact txI F hS dX6_right_164 rfl (⟨(wkb (eqb hk_32) rfl rfl), hH⟩)
        · skip
          have r_31 : 1 ≤ u_11.toInt ∧ u_11.toInt ≤ 1 := by have h9_ := hu_11; omega
          refine lv_aload_n F.1 F.2.1 dX6_right_150 rfl (lv_at hl 1 rfl) ?_
          refine tGetR0 (j := 2) F hK hH (tyb ha0 (all1 rfl)) rfl clX6 (by decide) wd_1_17 dX6_right_151 (fun q_33 hq_33 => ?_)
          refine tGetRM (j := 10) (L := [3]) F hK hH (hkr _ hq_33) (alls ⟨_, _, rfl, rfl, by decide⟩ (alls1 ⟨_, _, rfl, rfl, by decide⟩)) (all1 rfl) clX2 (by decide) wd_41_0 dX6_right_154 (fun q_34 hq_34 _ => ?_)
          refine lv_iload_n F.1 F.2.1 dX6_right_157 rfl (lv_at hl 2 rfl) ?_
          refine tIaldB F hK hH (tyb hq_34 (all1 rfl)) (ixb (n := 14) r_6 rfl rfl) dX6_right_158 (fun z_35 hz_35 => ?_)
          refine lv_goto (tgt := 164) F.1 F.2.1 dX6_right_159 (by decide) ?_
          exact txI F hS dX6_right_164 rfl (⟨hz_35, hH⟩)
      · skip
        refine tTabIn (off := 136) (tgt := 165) F dX6_right_29 w_12 (by decide) (by decide) (by decide +kernel) (by decide) ?_
        refine lv_iload_n F.1 F.2.1 dX6_right_165 rfl (lv_at hl 0 rfl) ?_
        refine z_eq (tgt := 181) F dX6_right_166 (by decide) (fun c_36 => ?_) (fun c_36 => ?_)
        · skip
          have r_37 : 0 ≤ u_11.toInt ∧ u_11.toInt ≤ 0 := by have h9_ := hu_11; omega
          refine lv_bipush (v := (-2)) F.1 F.2.1 dX6_right_181 (by decide) ?_
          refine topK (a := (-2)) (by decide) (fun k_39 hk_39 => ?_)
          exact txI F hS dX6_right_183 rfl (⟨(wkb (eqb hk_39) rfl rfl), hH⟩)
        · skip
          have r_38 : 1 ≤ u_11.toInt ∧ u_11.toInt ≤ 1 := by have h9_ := hu_11; omega
          refine lv_aload_n F.1 F.2.1 dX6_right_169 rfl (lv_at hl 1 rfl) ?_
          refine tGetR (j := 4) F hK hH (tyb ha0 (all1 rfl)) rfl (all1 rfl) clX6 (by decide) wd_1_22 dX6_right_170 (fun q_40 hq_40 _ => ?_)
          refine tGetR (j := 5) F hK hH (tyb hq_40 (all1 rfl)) rfl (all1 rfl) clX5 (by decide) wd_41_4 dX6_right_173 (fun q_41 hq_41 _ => ?_)
          refine lv_iload_n F.1 F.2.1 dX6_right_176 rfl (lv_at hl 2 rfl) ?_
          refine tIaldB F hK hH (tyb hq_41 (all1 rfl)) (ixb (n := 14) r_6 rfl rfl) dX6_right_177 (fun z_42 hz_42 => ?_)
          refine lv_goto (tgt := 183) F.1 F.2.1 dX6_right_178 (by decide) ?_
          exact txI F hS dX6_right_183 rfl (⟨hz_42, hH⟩)
      · skip
        refine tTabIn (off := 155) (tgt := 184) F dX6_right_29 w_12 (by decide) (by decide) (by decide +kernel) (by decide) ?_
        refine lv_aload_n F.1 F.2.1 dX6_right_184 rfl (lv_at hl 1 rfl) ?_
        refine tGetR0 (j := 2) F hK hH (tyb ha0 (all1 rfl)) rfl clX6 (by decide) wd_1_17 dX6_right_185 (fun q_43 hq_43 => ?_)
        refine tGetRM (j := 11) (L := [5]) F hK hH (hkr _ hq_43) (alls ⟨_, _, rfl, rfl, by decide⟩ (alls1 ⟨_, _, rfl, rfl, by decide⟩)) (all1 rfl) clX2 (by decide) wd_41_5 dX6_right_188 (fun q_44 hq_44 _ => ?_)
        refine lv_iload_n F.1 F.2.1 dX6_right_191 rfl (lv_at hl 2 rfl) ?_
        refine tIaldB F hK hH (tyb hq_44 (all1 rfl)) (ixb (n := 14) r_6 rfl rfl) dX6_right_192 (fun z_45 hz_45 => ?_)
        exact txI F hS dX6_right_193 rfl (⟨(wkb hz_45 rfl rfl), hH⟩)
      · skip
        refine tTabIn (off := 165) (tgt := 194) F dX6_right_29 w_12 (by decide) (by decide) (by decide +kernel) (by decide) ?_
        refine lv_aload_n F.1 F.2.1 dX6_right_194 rfl (lv_at hl 1 rfl) ?_
        refine tGetR0 (j := 2) F hK hH (tyb ha0 (all1 rfl)) rfl clX6 (by decide) wd_1_17 dX6_right_195 (fun q_46 hq_46 => ?_)
        refine tGetRM (j := 12) (L := [3]) F hK hH (hkr _ hq_46) (alls ⟨_, _, rfl, rfl, by decide⟩ (alls1 ⟨_, _, rfl, rfl, by decide⟩)) (all1 rfl) clX2 (by decide) wd_41_6 dX6_right_198 (fun q_47 hq_47 _ => ?_)
        refine lv_iload_n F.1 F.2.1 dX6_right_201 rfl (lv_at hl 2 rfl) ?_
        refine tIaldB F hK hH (tyb hq_47 (all1 rfl)) (ixb (n := 14) r_6 rfl rfl) dX6_right_202 (fun z_48 hz_48 => ?_)
        exact txI F hS dX6_right_203 rfl (⟨hz_48, hH⟩)
      · skip
        refine tTabIn (off := 175) (tgt := 204) F dX6_right_29 w_12 (by decide) (by decide) (by decide +kernel) (by decide) ?_
        refine lv_aload_n F.1 F.2.1 dX6_right_204 rfl (lv_at hl 1 rfl) ?_
        refine tGetR0 (j := 2) F hK hH (tyb ha0 (all1 rfl)) rfl clX6 (by decide) wd_1_17 dX6_right_205 (fun q_49 hq_49 => ?_)
        refine tGetRM (j := 13) (L := [6]) F hK hH (hkr _ hq_49) (alls ⟨_, _, rfl, rfl, by decide⟩ (alls1 ⟨_, _, rfl, rfl, by decide⟩)) (all1 rfl) clX2 (by decide) wd_41_7 dX6_right_208 (fun q_50 hq_50 _ => ?_)
        refine lv_iload_n F.1 F.2.1 dX6_right_211 rfl (lv_at hl 2 rfl) ?_
        refine tIaldB F hK hH (tyb hq_50 (all1 rfl)) (ixb (n := 14) r_6 rfl rfl) dX6_right_212 (fun z_51 hz_51 => ?_)
        exact txI F hS dX6_right_213 rfl (⟨(wkb hz_51 rfl rfl), hH⟩)
      · skip
        refine tTabIn (off := 185) (tgt := 214) F dX6_right_29 w_12 (by decide) (by decide) (by decide +kernel) (by decide) ?_
        refine lv_aload_n F.1 F.2.1 dX6_right_214 rfl (lv_at hl 1 rfl) ?_
        refine tGetR (j := 4) F hK hH (tyb ha0 (all1 rfl)) rfl (all1 rfl) clX6 (by decide) wd_1_22 dX6_right_215 (fun q_52 hq_52 _ => ?_)
        refine tGetR (j := 4) F hK hH (tyb hq_52 (all1 rfl)) rfl (all1 rfl) clX5 (by decide) wd_31_9 dX6_right_218 (fun q_53 hq_53 _ => ?_)
        refine lv_iload_n F.1 F.2.1 dX6_right_221 rfl (lv_at hl 2 rfl) ?_
        refine tIaldB F hK hH (tyb hq_53 (all1 rfl)) (ixb (n := 14) r_6 rfl rfl) dX6_right_222 (fun z_54 hz_54 => ?_)
        exact txI F hS dX6_right_223 rfl (⟨hz_54, hH⟩)
      · skip
        refine tTabIn (off := 195) (tgt := 224) F dX6_right_29 w_12 (by decide) (by decide) (by decide +kernel) (by decide) ?_
        refine lv_aload_n F.1 F.2.1 dX6_right_224 rfl (lv_at hl 1 rfl) ?_
        refine tGetR (j := 4) F hK hH (tyb ha0 (all1 rfl)) rfl (all1 rfl) clX6 (by decide) wd_1_22 dX6_right_225 (fun q_55 hq_55 _ => ?_)
        refine tGetR (j := 6) F hK hH (tyb hq_55 (all1 rfl)) rfl (all1 rfl) clX5 (by decide) wd_33_5 dX6_right_228 (fun q_56 hq_56 _ => ?_)
        refine lv_iload_n F.1 F.2.1 dX6_right_231 rfl (lv_at hl 2 rfl) ?_
        refine tIaldB F hK hH (tyb hq_56 (all1 rfl)) (ixb (n := 14) r_6 rfl rfl) dX6_right_232 (fun z_57 hz_57 => ?_)
        exact txI F hS dX6_right_233 rfl (⟨(wkb hz_57 rfl rfl), hH⟩)
      · skip
        refine tTabIn (off := 205) (tgt := 234) F dX6_right_29 w_12 (by decide) (by decide) (by decide +kernel) (by decide) ?_
        refine lv_aload_n F.1 F.2.1 dX6_right_234 rfl (lv_at hl 1 rfl) ?_
        refine tGetR (j := 4) F hK hH (tyb ha0 (all1 rfl)) rfl (all1 rfl) clX6 (by decide) wd_1_22 dX6_right_235 (fun q_58 hq_58 _ => ?_)
        refine tGetR (j := 7) F hK hH (tyb hq_58 (all1 rfl)) rfl (all1 rfl) clX5 (by decide) wd_41_8 dX6_right_238 (fun q_59 hq_59 _ => ?_)
        refine lv_iload_n F.1 F.2.1 dX6_right_241 rfl (lv_at hl 2 rfl) ?_
        refine tIaldB F hK hH (tyb hq_59 (all1 rfl)) (ixb (n := 14) r_6 rfl rfl) dX6_right_242 (fun z_60 hz_60 => ?_)
        exact txI F hS dX6_right_243 rfl (⟨hz_60, hH⟩)
    refine z_le (tgt := 26) F dX6_right_19 (by decide) (fun c_61 => ?_) (fun c_61 => ?_)
    · skip
      have r_62 : (-2147483648) ≤ z_10.toInt ∧ z_10.toInt ≤ 0 := by have h9_ := hz_10; omega
      refine lv_iconst (v := 0) F.1 F.2.1 dX6_right_26 (by decide) ?_
      refine topK (a := 0) (by decide) (fun k_64 hk_64 => ?_)
      exact J_27 (k_64) _ _ _ ⟨(wkb (eqb hk_64) rfl rfl), hH, hS, lv_sub hl [0, 1, 2] rfl⟩
    · skip
      have r_63 : 1 ≤ z_10.toInt ∧ z_10.toInt ≤ 2147483647 := by have h9_ := hz_10; omega
      refine lv_iconst (v := 1) F.1 F.2.1 dX6_right_22 (by decide) ?_
      refine topK (a := 1) (by decide) (fun k_65 hk_65 => ?_)
      refine lv_goto (tgt := 27) F.1 F.2.1 dX6_right_23 (by decide) ?_
      exact J_27 (k_65) _ _ _ ⟨(wkb (eqb hk_65) rfl rfl), hH, hS, lv_sub hl [0, 1, 2] rfl⟩
  · skip
    have r_7 : 0 ≤ z_1.toInt ∧ z_1.toInt ≤ 0 := by have h9_ := f_2; omega
    refine lv_iconst (v := (-1)) F.1 F.2.1 dX6_right_8 (by decide) ?_
    refine topK (a := (-1)) (by decide) (fun k_66 hk_66 => ?_)
    exact txI F hS dX6_right_9 rfl (⟨(wkb (eqb hk_66) rfl rfl), hH⟩)
set_option maxHeartbeats 4000000 in
set_option maxRecDepth 100000 in
theorem c_X6_store (E : Ev) (rd : TD) (tp : TD) (kb : Int × Int) (Fa1 : Int × Int) (Fb1 : Int × Int) (Fa2 : Int × Int) (Fb2 : Int × Int) (Fa3 : Int × Int) (Fb3 : Int × Int) (Fa4 : Int × Int) (Fb4 : Int × Int) (kr : List Nat) (ks : List Nat) (Pd1 : (Nat → Int32) → Prop) (Pd2 : (Nat → Int32) → Prop) (Pd3 : (Nat → Int32) → Prop) (Pd4 : (Nat → Int32) → Prop) (Ps1 : (Nat → Int32) → Prop) (Ps2 : (Nat → Int32) → Prop) (Ps3 : (Nat → Int32) → Prop) (Ps4 : (Nat → Int32) → Prop) (Pi1 : (Nat → Int32) → Prop) (Pi2 : (Nat → Int32) → Prop) (Pi3 : (Nat → Int32) → Prop) (Pi4 : (Nat → Int32) → Prop) (t : Int) (a0 : Nat) (a1 : Int32) (a2 : Int32) (ha0 : eT E a0 ∈ [28]) (ht : 0 ≤ t ∧ t ≤ 400) (hFa1 : 0 ≤ Fa1.1 ∧ Fa1.2 ≤ 12) (hFb1 : 0 ≤ Fb1.1 ∧ Fb1.2 ≤ 14) (hFa2 : 0 ≤ Fa2.1 ∧ Fa2.2 ≤ 12) (hFb2 : 0 ≤ Fb2.1 ∧ Fb2.2 ≤ 14) (hFa3 : 0 ≤ Fa3.1 ∧ Fa3.2 ≤ 12) (hFb3 : 0 ≤ Fb3.1 ∧ Fb3.2 ≤ 14) (hFa4 : 0 ≤ Fa4.1 ∧ Fa4.2 ≤ 12) (hFb4 : 0 ≤ Fb4.1 ∧ Fb4.2 ≤ 14) (hkr : ∀ t ∈ kr, t ∈ [26, 27]) (hks : ∀ t ∈ ks, t ∈ [26, 27]) (hPd1 : ∀ f, Pd1 f → ivP 12 (-2) 11 f) (hPd2 : ∀ f, Pd2 f → ivP 12 (-2) 11 f) (hPd3 : ∀ f, Pd3 f → ivP 12 (-2) 11 f) (hPd4 : ∀ f, Pd4 f → ivP 12 (-2) 11 f) (hPs1 : ∀ f, Ps1 f → ivP 12 (-2147483648) 2147483647 f) (hPs2 : ∀ f, Ps2 f → ivP 12 (-2147483648) 2147483647 f) (hPs3 : ∀ f, Ps3 f → ivP 12 (-2147483648) 2147483647 f) (hPs4 : ∀ f, Ps4 f → ivP 12 (-2147483648) 2147483647 f) (hPi1 : ∀ f, Pi1 f → ivP 48 (-2147483648) 2147483647 f) (hPi2 : ∀ f, Pi2 f → ivP 48 (-2147483648) 2147483647 f) (hPi3 : ∀ f, Pi3 f → ivP 48 (-2147483648) 2147483647 f) (hPi4 : ∀ f, Pi4 f → ivP 48 (-2147483648) 2147483647 f) : TcI E yX6_store cX6_store 3 .int ({ frames := 2, cells := 0, slots := 0, locals := 61 }) [.ref a0, .int a1, .int a2] (fun H => TH E (tbC (dayD (.inl (0, 18))) (dayD (.inl (0, 18))) (riverD (.inl Fa1) (.inl Fb1) (.inl (0, 4)) 31 33 35 39 43 47) (riverD (.inl Fa2) (.inl Fb2) (.inl (0, 4)) 32 34 36 40 44 48) (rcD (.inl (t, t)) (.inr kr) (.inr ks) (.inl kb)) rd tp A14F A14F A4F A4F A14F A14F (riverD (.inl Fa3) (.inl Fb3) (.inl (0, 4)) 3 8 3 41 45 49) (riverD (.inl Fa4) (.inl Fb4) (.inl (0, 4)) 3 8 3 42 46 50) ((.inr (.inl (0, 12, Pd1)))) ((.inr (.inl (0, 12, Pd2)))) ((.inr (.inl (0, 12, Pd3)))) ((.inr (.inl (0, 12, Pd4)))) ((.inr (.inl (0, 12, Ps1)))) ((.inr (.inl (0, 12, Ps2)))) ((.inr (.inl (0, 12, Ps3)))) ((.inr (.inl (0, 12, Ps4)))) ((.inr (.inl (0, 48, Pi1)))) ((.inr (.inl (0, 48, Pi2)))) ((.inr (.inl (0, 48, Pi3)))) ((.inr (.inl (0, 48, Pi4))))) H) (fun v H => ((-2147483648) ≤ v.toInt ∧ v.toInt ≤ 2147483647) ∧ TH E (tbC (dayD (.inl (0, 18))) (dayD (.inl (0, 18))) (riverD (.inl Fa1) (.inl Fb1) (.inl (0, 4)) 31 33 35 39 43 47) (riverD (.inl Fa2) (.inl Fb2) (.inl (0, 4)) 32 34 36 40 44 48) (rcD (.inl (t, t)) (.inr kr) (.inr ks) (.inl kb)) rd tp A14F A14F A4F A4F A14F A14F (riverD (.inl Fa3) (.inl Fb3) (.inl (0, 4)) 3 8 3 41 45 49) (riverD (.inl Fa4) (.inl Fb4) (.inl (0, 4)) 3 8 3 42 46 50) ((.inr (.inl (0, 12, Pd1)))) ((.inr (.inl (0, 12, Pd2)))) ((.inr (.inl (0, 12, Pd3)))) ((.inr (.inl (0, 12, Pd4)))) ((.inr (.inl (0, 12, Ps1)))) ((.inr (.inl (0, 12, Ps2)))) ((.inr (.inl (0, 12, Ps3)))) ((.inr (.inl (0, 12, Ps4)))) ((.inr (.inl (0, 48, Pi1)))) ((.inr (.inl (0, 48, Pi2)))) ((.inr (.inl (0, 48, Pi3)))) ((.inr (.inl (0, 48, Pi4))))) H) := by
  refine teI (by decide) (Nat.le_of_ble_eq_true rfl) ?_
  intro p_ ev_ s mi_ below_ meth cd_ ls F hK hN hO hH hS hl
  have hH : TH E (tbC (dayD (.inl (0, 18))) (dayD (.inl (0, 18))) (riverD (.inl Fa1) (.inl Fb1) (.inl (0, 4)) 31 33 35 39 43 47) (riverD (.inl Fa2) (.inl Fb2) (.inl (0, 4)) 32 34 36 40 44 48) (rcD (.inl (t, t)) (.inr kr) (.inr ks) (.inl kb)) rd tp A14F A14F A4F A4F A14F A14F (riverD (.inl Fa3) (.inl Fb3) (.inl (0, 4)) 3 8 3 41 45 49) (riverD (.inl Fa4) (.inl Fb4) (.inl (0, 4)) 3 8 3 42 46 50) ((.inr (.inl (0, 12, Pd1)))) ((.inr (.inl (0, 12, Pd2)))) ((.inr (.inl (0, 12, Pd3)))) ((.inr (.inl (0, 12, Pd4)))) ((.inr (.inl (0, 12, Ps1)))) ((.inr (.inl (0, 12, Ps2)))) ((.inr (.inl (0, 12, Ps3)))) ((.inr (.inl (0, 12, Ps4)))) ((.inr (.inl (0, 48, Pi1)))) ((.inr (.inl (0, 48, Pi2)))) ((.inr (.inl (0, 48, Pi3)))) ((.inr (.inl (0, 48, Pi4))))) s.heap := hH
  have hl : lv_has ls 3 [(0, .ref a0), (1, .int a1), (2, .int a2)] := hl
  refine lv_aload_n F.1 F.2.1 dX6_store_0 rfl (lv_at hl 0 rfl) ?_
  refine lv_iload_n F.1 F.2.1 dX6_store_1 rfl (lv_at hl 1 rfl) ?_
  refine tVi (b := a0) (As := [.int a1]) (rest := []) F hK hN hO (c_X6_isStore E rd tp kb Fa1 Fb1 Fa2 Fb2 Fa3 Fb3 Fa4 Fb4 kr ks Pd1 Pd2 Pd3 Pd4 Ps1 Ps2 Ps3 Ps4 Pi1 Pi2 Pi3 Pi4 t a0 a1 ha0 (by omega) hFa1 hFb1 hFa2 hFb2 hFa3 hFb3 hFa4 hFb4 hkr hks hPd1 hPd2 hPd3 hPd4 hPs1 hPs2 hPs3 hPs4 hPi1 hPi2 hPi3 hPi4) mv_X6_isStore wd_32_6 ⟨Nat.le_of_ble_eq_true rfl, Nat.le_of_ble_eq_true rfl⟩ ⟨Nat.le_of_ble_eq_true rfl, Nat.le_of_ble_eq_true rfl⟩ hH hS (tRecv hK hH (tyb ha0 (all1 rfl)) clX6) rfl hl.1 (Nat.le_of_ble_eq_true rfl) dX6_store_2 (fun z_1 H locs hq hS => ?_)
  obtain ⟨f_2, f_3, hH⟩ := hq
  have hH : TH E (tbC (dayD (.inl (0, 18))) (dayD (.inl (0, 18))) (riverD (.inl Fa1) (.inl Fb1) (.inl (0, 4)) 31 33 35 39 43 47) (riverD (.inl Fa2) (.inl Fb2) (.inl (0, 4)) 32 34 36 40 44 48) (rcD (.inl (t, t)) (.inr kr) (.inr ks) (.inl kb)) rd tp A14F A14F A4F A4F A14F A14F (riverD (.inl Fa3) (.inl Fb3) (.inl (0, 4)) 3 8 3 41 45 49) (riverD (.inl Fa4) (.inl Fb4) (.inl (0, 4)) 3 8 3 42 46 50) ((.inr (.inl (0, 12, Pd1)))) ((.inr (.inl (0, 12, Pd2)))) ((.inr (.inl (0, 12, Pd3)))) ((.inr (.inl (0, 12, Pd4)))) ((.inr (.inl (0, 12, Ps1)))) ((.inr (.inl (0, 12, Ps2)))) ((.inr (.inl (0, 12, Ps3)))) ((.inr (.inl (0, 12, Ps4)))) ((.inr (.inl (0, 48, Pi1)))) ((.inr (.inl (0, 48, Pi2)))) ((.inr (.inl (0, 48, Pi3)))) ((.inr (.inl (0, 48, Pi4))))) H := hH
  refine z_ne (tgt := 10) F dX6_store_5 (by decide) (fun c_4 => ?_) (fun c_4 => ?_)
  · skip
    have r_5 : 1 ≤ z_1.toInt ∧ z_1.toInt ≤ 1 := by have h9_ := f_2; omega
    have r_6 : 0 ≤ a1.toInt ∧ a1.toInt ≤ 3 := by have h9_ := (i32b a1); omega
    refine lv_iload_n F.1 F.2.1 dX6_store_10 rfl (lv_at hl 2 rfl) ?_
    rcases (by omega : (a2.toInt < 0 ∨ 6 < a2.toInt) ∨ a2.toInt = 0 ∨ a2.toInt = 1 ∨ a2.toInt = 2 ∨ a2.toInt = 3 ∨ a2.toInt = 4 ∨ a2.toInt = 5 ∨ a2.toInt = 6) with w_8 | w_8 | w_8 | w_8 | w_8 | w_8 | w_8 | w_8
    · skip
      refine tTabOut (tgt := 122) F dX6_store_11 w_8 (by decide) ?_
      refine lv_iconst (v := (-1)) F.1 F.2.1 dX6_store_122 (by decide) ?_
      refine topK (a := (-1)) (by decide) (fun k_9 hk_9 => ?_)
      exact txI F hS dX6_store_123 rfl (⟨(wkb (eqb hk_9) rfl rfl), hH⟩)
    · skip
      refine tTabIn (off := 41) (tgt := 52) F dX6_store_11 w_8 (by decide) (by decide) (by decide +kernel) (by decide) ?_
      refine lv_aload_n F.1 F.2.1 dX6_store_52 rfl (lv_at hl 0 rfl) ?_
      refine tGetR0 (j := 2) F hK hH (tyb ha0 (all1 rfl)) rfl clX6 (by decide) wd_1_17 dX6_store_53 (fun q_10 hq_10 => ?_)
      refine tGetRM (j := 15) (L := [9]) F hK hH (hkr _ hq_10) (alls ⟨_, _, rfl, rfl, by decide⟩ (alls1 ⟨_, _, rfl, rfl, by decide⟩)) (all1 rfl) clX2 (by decide) wd_32_4 dX6_store_56 (fun q_11 hq_11 _ => ?_)
      refine lv_iload_n F.1 F.2.1 dX6_store_59 rfl (lv_at hl 1 rfl) ?_
      refine tIaldB F hK hH (tyb hq_11 (all1 rfl)) (ixb (n := 4) r_6 rfl rfl) dX6_store_60 (fun z_12 hz_12 => ?_)
      exact txI F hS dX6_store_61 rfl (⟨(wkb hz_12 rfl rfl), hH⟩)
    · skip
      refine tTabIn (off := 51) (tgt := 62) F dX6_store_11 w_8 (by decide) (by decide) (by decide +kernel) (by decide) ?_
      refine lv_aload_n F.1 F.2.1 dX6_store_62 rfl (lv_at hl 0 rfl) ?_
      refine tGetR0 (j := 2) F hK hH (tyb ha0 (all1 rfl)) rfl clX6 (by decide) wd_1_17 dX6_store_63 (fun q_13 hq_13 => ?_)
      refine tGetRM (j := 16) (L := [8]) F hK hH (hkr _ hq_13) (alls ⟨_, _, rfl, rfl, by decide⟩ (alls1 ⟨_, _, rfl, rfl, by decide⟩)) (all1 rfl) clX2 (by decide) wd_41_18 dX6_store_66 (fun q_14 hq_14 _ => ?_)
      refine lv_iload_n F.1 F.2.1 dX6_store_69 rfl (lv_at hl 1 rfl) ?_
      refine tIaldB F hK hH (tyb hq_14 (all1 rfl)) (ixb (n := 4) r_6 rfl rfl) dX6_store_70 (fun z_15 hz_15 => ?_)
      exact txI F hS dX6_store_71 rfl (⟨hz_15, hH⟩)
    · skip
      refine tTabIn (off := 61) (tgt := 72) F dX6_store_11 w_8 (by decide) (by decide) (by decide +kernel) (by decide) ?_
      refine lv_aload_n F.1 F.2.1 dX6_store_72 rfl (lv_at hl 0 rfl) ?_
      refine tGetR0 (j := 2) F hK hH (tyb ha0 (all1 rfl)) rfl clX6 (by decide) wd_1_17 dX6_store_73 (fun q_16 hq_16 => ?_)
      refine tGetRM (j := 17) (L := [8]) F hK hH (hkr _ hq_16) (alls ⟨_, _, rfl, rfl, by decide⟩ (alls1 ⟨_, _, rfl, rfl, by decide⟩)) (all1 rfl) clX2 (by decide) wd_41_19 dX6_store_76 (fun q_17 hq_17 _ => ?_)
      refine lv_iload_n F.1 F.2.1 dX6_store_79 rfl (lv_at hl 1 rfl) ?_
      refine tIaldB F hK hH (tyb hq_17 (all1 rfl)) (ixb (n := 4) r_6 rfl rfl) dX6_store_80 (fun z_18 hz_18 => ?_)
      exact txI F hS dX6_store_81 rfl (⟨hz_18, hH⟩)
    · skip
      refine tTabIn (off := 71) (tgt := 82) F dX6_store_11 w_8 (by decide) (by decide) (by decide +kernel) (by decide) ?_
      refine lv_aload_n F.1 F.2.1 dX6_store_82 rfl (lv_at hl 0 rfl) ?_
      refine tGetR0 (j := 2) F hK hH (tyb ha0 (all1 rfl)) rfl clX6 (by decide) wd_1_17 dX6_store_83 (fun q_19 hq_19 => ?_)
      refine tGetRM (j := 18) (L := [33, 34]) F hK hH (hkr _ hq_19) (alls ⟨_, _, rfl, rfl, by decide⟩ (alls1 ⟨_, _, rfl, rfl, by decide⟩)) (all2 rfl rfl) clX2 (by decide) wd_41_20 dX6_store_86 (fun q_20 hq_20 _ => ?_)
      refine lv_iload_n F.1 F.2.1 dX6_store_89 rfl (lv_at hl 1 rfl) ?_
      refine tIaldB F hK hH (tyb hq_20 (all2 rfl rfl)) (ixb (n := 4) r_6 rfl rfl) dX6_store_90 (fun z_21 hz_21 => ?_)
      exact txI F hS dX6_store_91 rfl (⟨hz_21, hH⟩)
    · skip
      refine tTabIn (off := 81) (tgt := 92) F dX6_store_11 w_8 (by decide) (by decide) (by decide +kernel) (by decide) ?_
      refine lv_aload_n F.1 F.2.1 dX6_store_92 rfl (lv_at hl 0 rfl) ?_
      refine tGetR (j := 4) F hK hH (tyb ha0 (all1 rfl)) rfl (all1 rfl) clX6 (by decide) wd_1_22 dX6_store_93 (fun q_22 hq_22 _ => ?_)
      refine tGetR (j := 8) F hK hH (tyb hq_22 (all1 rfl)) rfl (all1 rfl) clX5 (by decide) wd_41_21 dX6_store_96 (fun q_23 hq_23 _ => ?_)
      refine lv_iload_n F.1 F.2.1 dX6_store_99 rfl (lv_at hl 1 rfl) ?_
      refine tIaldB F hK hH (tyb hq_23 (all1 rfl)) (ixb (n := 4) r_6 rfl rfl) dX6_store_100 (fun z_24 hz_24 => ?_)
      exact txI F hS dX6_store_101 rfl (⟨hz_24, hH⟩)
    · skip
      refine tTabIn (off := 91) (tgt := 102) F dX6_store_11 w_8 (by decide) (by decide) (by decide +kernel) (by decide) ?_
      refine lv_aload_n F.1 F.2.1 dX6_store_102 rfl (lv_at hl 0 rfl) ?_
      refine tGetR (j := 4) F hK hH (tyb ha0 (all1 rfl)) rfl (all1 rfl) clX6 (by decide) wd_1_22 dX6_store_103 (fun q_25 hq_25 _ => ?_)
      refine tGetR (j := 9) F hK hH (tyb hq_25 (all1 rfl)) rfl (all1 rfl) clX5 (by decide) wd_32_2 dX6_store_106 (fun q_26 hq_26 _ => ?_)
      refine lv_iload_n F.1 F.2.1 dX6_store_109 rfl (lv_at hl 1 rfl) ?_
      refine tIaldB F hK hH (tyb hq_26 (all1 rfl)) (ixb (n := 4) r_6 rfl rfl) dX6_store_110 (fun z_27 hz_27 => ?_)
      exact txI F hS dX6_store_111 rfl (⟨(wkb hz_27 rfl rfl), hH⟩)
    · skip
      refine tTabIn (off := 101) (tgt := 112) F dX6_store_11 w_8 (by decide) (by decide) (by decide +kernel) (by decide) ?_
      refine lv_aload_n F.1 F.2.1 dX6_store_112 rfl (lv_at hl 0 rfl) ?_
      refine tGetR (j := 4) F hK hH (tyb ha0 (all1 rfl)) rfl (all1 rfl) clX6 (by decide) wd_1_22 dX6_store_113 (fun q_28 hq_28 _ => ?_)
      refine tGetR (j := 10) F hK hH (tyb hq_28 (all1 rfl)) rfl (all1 rfl) clX5 (by decide) wd_32_3 dX6_store_116 (fun q_29 hq_29 _ => ?_)
      refine lv_iload_n F.1 F.2.1 dX6_store_119 rfl (lv_at hl 1 rfl) ?_
      refine tIaldB F hK hH (tyb hq_29 (all1 rfl)) (ixb (n := 4) r_6 rfl rfl) dX6_store_120 (fun z_30 hz_30 => ?_)
      exact txI F hS dX6_store_121 rfl (⟨hz_30, hH⟩)
  · skip
    have r_7 : 0 ≤ z_1.toInt ∧ z_1.toInt ≤ 0 := by have h9_ := f_2; omega
    refine lv_iconst (v := (-1)) F.1 F.2.1 dX6_store_8 (by decide) ?_
    refine topK (a := (-1)) (by decide) (fun k_31 hk_31 => ?_)
    exact txI F hS dX6_store_9 rfl (⟨(wkb (eqb hk_31) rfl rfl), hH⟩)
set_option maxHeartbeats 4000000 in
set_option maxRecDepth 100000 in
theorem c_X6_flow (E : Ev) (rd : TD) (tp : TD) (kb : Int × Int) (Fa1 : Int × Int) (Fb1 : Int × Int) (Fa2 : Int × Int) (Fb2 : Int × Int) (Fa3 : Int × Int) (Fb3 : Int × Int) (Fa4 : Int × Int) (Fb4 : Int × Int) (kr : List Nat) (ks : List Nat) (Pd1 : (Nat → Int32) → Prop) (Pd2 : (Nat → Int32) → Prop) (Pd3 : (Nat → Int32) → Prop) (Pd4 : (Nat → Int32) → Prop) (Ps1 : (Nat → Int32) → Prop) (Ps2 : (Nat → Int32) → Prop) (Ps3 : (Nat → Int32) → Prop) (Ps4 : (Nat → Int32) → Prop) (Pi1 : (Nat → Int32) → Prop) (Pi2 : (Nat → Int32) → Prop) (Pi3 : (Nat → Int32) → Prop) (Pi4 : (Nat → Int32) → Prop) (t : Int) (a0 : Nat) (a1 : Int32) (a2 : Int32) (ha0 : eT E a0 ∈ [28]) (ht : 0 ≤ t ∧ t ≤ 400) (hFa1 : 0 ≤ Fa1.1 ∧ Fa1.2 ≤ 12) (hFb1 : 0 ≤ Fb1.1 ∧ Fb1.2 ≤ 14) (hFa2 : 0 ≤ Fa2.1 ∧ Fa2.2 ≤ 12) (hFb2 : 0 ≤ Fb2.1 ∧ Fb2.2 ≤ 14) (hFa3 : 0 ≤ Fa3.1 ∧ Fa3.2 ≤ 12) (hFb3 : 0 ≤ Fb3.1 ∧ Fb3.2 ≤ 14) (hFa4 : 0 ≤ Fa4.1 ∧ Fa4.2 ≤ 12) (hFb4 : 0 ≤ Fb4.1 ∧ Fb4.2 ≤ 14) (hkr : ∀ t ∈ kr, t ∈ [26, 27]) (hks : ∀ t ∈ ks, t ∈ [26, 27]) (hPd1 : ∀ f, Pd1 f → ivP 12 (-2) 11 f) (hPd2 : ∀ f, Pd2 f → ivP 12 (-2) 11 f) (hPd3 : ∀ f, Pd3 f → ivP 12 (-2) 11 f) (hPd4 : ∀ f, Pd4 f → ivP 12 (-2) 11 f) (hPs1 : ∀ f, Ps1 f → ivP 12 (-2147483648) 2147483647 f) (hPs2 : ∀ f, Ps2 f → ivP 12 (-2147483648) 2147483647 f) (hPs3 : ∀ f, Ps3 f → ivP 12 (-2147483648) 2147483647 f) (hPs4 : ∀ f, Ps4 f → ivP 12 (-2147483648) 2147483647 f) (hPi1 : ∀ f, Pi1 f → ivP 48 (-2147483648) 2147483647 f) (hPi2 : ∀ f, Pi2 f → ivP 48 (-2147483648) 2147483647 f) (hPi3 : ∀ f, Pi3 f → ivP 48 (-2147483648) 2147483647 f) (hPi4 : ∀ f, Pi4 f → ivP 48 (-2147483648) 2147483647 f) : TcI E yX6_flow cX6_flow 3 .int ({ frames := 6, cells := 0, slots := 0, locals := 159 }) [.ref a0, .int a1, .int a2] (fun H => TH E (tbC (dayD (.inl (0, 18))) (dayD (.inl (0, 18))) (riverD (.inl Fa1) (.inl Fb1) (.inl (0, 4)) 31 33 35 39 43 47) (riverD (.inl Fa2) (.inl Fb2) (.inl (0, 4)) 32 34 36 40 44 48) (rcD (.inl (t, t)) (.inr kr) (.inr ks) (.inl kb)) rd tp A14F A14F A4F A4F A14F A14F (riverD (.inl Fa3) (.inl Fb3) (.inl (0, 4)) 3 8 3 41 45 49) (riverD (.inl Fa4) (.inl Fb4) (.inl (0, 4)) 3 8 3 42 46 50) ((.inr (.inl (0, 12, Pd1)))) ((.inr (.inl (0, 12, Pd2)))) ((.inr (.inl (0, 12, Pd3)))) ((.inr (.inl (0, 12, Pd4)))) ((.inr (.inl (0, 12, Ps1)))) ((.inr (.inl (0, 12, Ps2)))) ((.inr (.inl (0, 12, Ps3)))) ((.inr (.inl (0, 12, Ps4)))) ((.inr (.inl (0, 48, Pi1)))) ((.inr (.inl (0, 48, Pi2)))) ((.inr (.inl (0, 48, Pi3)))) ((.inr (.inl (0, 48, Pi4))))) H) (fun v H => ((-2147483648) ≤ v.toInt ∧ v.toInt ≤ 2147483647) ∧ TH E (tbC (dayD (.inl (0, 18))) (dayD (.inl (0, 18))) (riverD (.inl Fa1) (.inl Fb1) (.inl (0, 4)) 31 33 35 39 43 47) (riverD (.inl Fa2) (.inl Fb2) (.inl (0, 4)) 32 34 36 40 44 48) (rcD (.inl (t, t)) (.inr kr) (.inr ks) (.inl kb)) rd tp A14F A14F A4F A4F A14F A14F (riverD (.inl Fa3) (.inl Fb3) (.inl (0, 4)) 3 8 3 41 45 49) (riverD (.inl Fa4) (.inl Fb4) (.inl (0, 4)) 3 8 3 42 46 50) ((.inr (.inl (0, 12, Pd1)))) ((.inr (.inl (0, 12, Pd2)))) ((.inr (.inl (0, 12, Pd3)))) ((.inr (.inl (0, 12, Pd4)))) ((.inr (.inl (0, 12, Ps1)))) ((.inr (.inl (0, 12, Ps2)))) ((.inr (.inl (0, 12, Ps3)))) ((.inr (.inl (0, 12, Ps4)))) ((.inr (.inl (0, 48, Pi1)))) ((.inr (.inl (0, 48, Pi2)))) ((.inr (.inl (0, 48, Pi3)))) ((.inr (.inl (0, 48, Pi4))))) H) := by
  refine teI (by decide) (Nat.le_of_ble_eq_true rfl) ?_
  intro p_ ev_ s mi_ below_ meth cd_ ls F hK hN hO hH hS hl
  have hH : TH E (tbC (dayD (.inl (0, 18))) (dayD (.inl (0, 18))) (riverD (.inl Fa1) (.inl Fb1) (.inl (0, 4)) 31 33 35 39 43 47) (riverD (.inl Fa2) (.inl Fb2) (.inl (0, 4)) 32 34 36 40 44 48) (rcD (.inl (t, t)) (.inr kr) (.inr ks) (.inl kb)) rd tp A14F A14F A4F A4F A14F A14F (riverD (.inl Fa3) (.inl Fb3) (.inl (0, 4)) 3 8 3 41 45 49) (riverD (.inl Fa4) (.inl Fb4) (.inl (0, 4)) 3 8 3 42 46 50) ((.inr (.inl (0, 12, Pd1)))) ((.inr (.inl (0, 12, Pd2)))) ((.inr (.inl (0, 12, Pd3)))) ((.inr (.inl (0, 12, Pd4)))) ((.inr (.inl (0, 12, Ps1)))) ((.inr (.inl (0, 12, Ps2)))) ((.inr (.inl (0, 12, Ps3)))) ((.inr (.inl (0, 12, Ps4)))) ((.inr (.inl (0, 48, Pi1)))) ((.inr (.inl (0, 48, Pi2)))) ((.inr (.inl (0, 48, Pi3)))) ((.inr (.inl (0, 48, Pi4))))) s.heap := hH
  have hl : lv_has ls 3 [(0, .ref a0), (1, .int a1), (2, .int a2)] := hl
  refine lv_aload_n F.1 F.2.1 dX6_flow_0 rfl (lv_at hl 0 rfl) ?_
  refine lv_iload_n F.1 F.2.1 dX6_flow_1 rfl (lv_at hl 1 rfl) ?_
  refine tVi (b := a0) (As := [.int a1]) (rest := []) F hK hN hO (c_X6_isReach E rd tp kb Fa1 Fb1 Fa2 Fb2 Fa3 Fb3 Fa4 Fb4 kr ks Pd1 Pd2 Pd3 Pd4 Ps1 Ps2 Ps3 Ps4 Pi1 Pi2 Pi3 Pi4 t a0 a1 ha0 (by omega) hFa1 hFb1 hFa2 hFb2 hFa3 hFb3 hFa4 hFb4 hkr hks hPd1 hPd2 hPd3 hPd4 hPs1 hPs2 hPs3 hPs4 hPi1 hPi2 hPi3 hPi4) mv_X6_isReach wd_34_6 ⟨Nat.le_of_ble_eq_true rfl, Nat.le_of_ble_eq_true rfl⟩ ⟨Nat.le_of_ble_eq_true rfl, Nat.le_of_ble_eq_true rfl⟩ hH hS (tRecv hK hH (tyb ha0 (all1 rfl)) clX6) rfl hl.1 (Nat.le_of_ble_eq_true rfl) dX6_flow_2 (fun z_1 H locs hq hS => ?_)
  obtain ⟨f_2, f_3, hH⟩ := hq
  have hH : TH E (tbC (dayD (.inl (0, 18))) (dayD (.inl (0, 18))) (riverD (.inl Fa1) (.inl Fb1) (.inl (0, 4)) 31 33 35 39 43 47) (riverD (.inl Fa2) (.inl Fb2) (.inl (0, 4)) 32 34 36 40 44 48) (rcD (.inl (t, t)) (.inr kr) (.inr ks) (.inl kb)) rd tp A14F A14F A4F A4F A14F A14F (riverD (.inl Fa3) (.inl Fb3) (.inl (0, 4)) 3 8 3 41 45 49) (riverD (.inl Fa4) (.inl Fb4) (.inl (0, 4)) 3 8 3 42 46 50) ((.inr (.inl (0, 12, Pd1)))) ((.inr (.inl (0, 12, Pd2)))) ((.inr (.inl (0, 12, Pd3)))) ((.inr (.inl (0, 12, Pd4)))) ((.inr (.inl (0, 12, Ps1)))) ((.inr (.inl (0, 12, Ps2)))) ((.inr (.inl (0, 12, Ps3)))) ((.inr (.inl (0, 12, Ps4)))) ((.inr (.inl (0, 48, Pi1)))) ((.inr (.inl (0, 48, Pi2)))) ((.inr (.inl (0, 48, Pi3)))) ((.inr (.inl (0, 48, Pi4))))) H := hH
  refine z_ne (tgt := 10) F dX6_flow_5 (by decide) (fun c_4 => ?_) (fun c_4 => ?_)
  · skip
    have r_5 : 1 ≤ z_1.toInt ∧ z_1.toInt ≤ 1 := by have h9_ := f_2; omega
    have r_6 : 0 ≤ a1.toInt ∧ a1.toInt ≤ 11 := by have h9_ := (i32b a1); omega
    refine lv_aload_n F.1 F.2.1 dX6_flow_10 rfl (lv_at hl 0 rfl) ?_
    refine tVv (b := a0) (As := []) (rest := []) F hK hN hO (c_X6_look E rd tp kb Fa1 Fb1 Fa2 Fb2 Fa3 Fb3 Fa4 Fb4 kr ks Pd1 Pd2 Pd3 Pd4 Ps1 Ps2 Ps3 Ps4 Pi1 Pi2 Pi3 Pi4 t a0 ha0 (by omega) hFa1 hFb1 hFa2 hFb2 hFa3 hFb3 hFa4 hFb4 hkr hks hPd1 hPd2 hPd3 hPd4 hPs1 hPs2 hPs3 hPs4 hPi1 hPi2 hPi3 hPi4) mv_X6_look wd_42_9 ⟨Nat.le_of_ble_eq_true rfl, Nat.le_of_ble_eq_true rfl⟩ ⟨Nat.le_of_ble_eq_true rfl, Nat.le_of_ble_eq_true rfl⟩ hH hS (tRecv hK hH (tyb ha0 (all1 rfl)) clX6) rfl hl.1 (Nat.le_of_ble_eq_true rfl) dX6_flow_11 (fun H locs hq hS => ?_)
    have hH := hq
    have hH : TH E (tbC (dayD (.inl (0, 18))) (dayD (.inl (0, 18))) (riverD (.inl Fa1) (.inl Fb1) (.inl (0, 4)) 31 33 35 39 43 47) (riverD (.inl Fa2) (.inl Fb2) (.inl (0, 4)) 32 34 36 40 44 48) (rcD (.inl (t, t)) (.inr kr) (.inr ks) (.inl kb)) rd tp A14F A14F A4F A4F A14F A14F (riverD (.inl Fa3) (.inl Fb3) (.inl (0, 4)) 3 8 3 41 45 49) (riverD (.inl Fa4) (.inl Fb4) (.inl (0, 4)) 3 8 3 42 46 50) ((.inr (.inl (0, 12, Pd1)))) ((.inr (.inl (0, 12, Pd2)))) ((.inr (.inl (0, 12, Pd3)))) ((.inr (.inl (0, 12, Pd4)))) ((.inr (.inl (0, 12, Ps1)))) ((.inr (.inl (0, 12, Ps2)))) ((.inr (.inl (0, 12, Ps3)))) ((.inr (.inl (0, 12, Ps4)))) ((.inr (.inl (0, 48, Pi1)))) ((.inr (.inl (0, 48, Pi2)))) ((.inr (.inl (0, 48, Pi3)))) ((.inr (.inl (0, 48, Pi4))))) H := hH
    refine lv_iload_n F.1 F.2.1 dX6_flow_14 rfl (lv_at hl 2 rfl) ?_
    rcases (by omega : (a2.toInt < 0 ∨ 4 < a2.toInt) ∨ a2.toInt = 0 ∨ a2.toInt = 1 ∨ a2.toInt = 2 ∨ a2.toInt = 3 ∨ a2.toInt = 4) with w_9 | w_9 | w_9 | w_9 | w_9 | w_9
    · skip
      refine tTabOut (tgt := 104) F dX6_flow_15 w_9 (by decide) ?_
      refine lv_iconst (v := (-1)) F.1 F.2.1 dX6_flow_104 (by decide) ?_
      refine topK (a := (-1)) (by decide) (fun k_10 hk_10 => ?_)
      exact txI F hS dX6_flow_105 rfl (⟨(wkb (eqb hk_10) rfl rfl), hH⟩)
    · skip
      refine tTabIn (off := 33) (tgt := 48) F dX6_flow_15 w_9 (by decide) (by decide) (by decide +kernel) (by decide) ?_
      refine lv_aload_n F.1 F.2.1 dX6_flow_48 rfl (lv_at hl 0 rfl) ?_
      refine tGetR (j := 11) F hK hH (tyb ha0 (all1 rfl)) rfl (all1 rfl) clX6 (by decide) wd_2_7 dX6_flow_49 (fun q_11 hq_11 _ => ?_)
      refine lv_iload_n F.1 F.2.1 dX6_flow_52 rfl (lv_at hl 1 rfl) ?_
      refine tVi (b := q_11) (As := [.int a1]) (rest := []) F hK hN hO (c_X0_inflowOf E (rcD (.inl (t, t)) (.inr kr) (.inr ks) (.inl kb)) rd tp Fa1 Fb1 Fa2 Fb2 Fa3 Fb3 Fa4 Fb4 Pd1 Pd2 Pd3 Pd4 Ps1 Ps2 Ps3 Ps4 Pi1 Pi2 Pi3 Pi4 q_11 a1 (by have h9_ := hq_11; simp at h9_ ⊢; omega) r_6 hFa1 hFb1 hFa2 hFb2 hFa3 hFb3 hFa4 hFb4 hPd1 hPd2 hPd3 hPd4 hPs1 hPs2 hPs3 hPs4 hPi1 hPi2 hPi3 hPi4) mv_X0_inflowOf wd_42_13 ⟨Nat.le_of_ble_eq_true rfl, Nat.le_of_ble_eq_true rfl⟩ ⟨Nat.le_of_ble_eq_true rfl, Nat.le_of_ble_eq_true rfl⟩ hH hS (tRecv hK hH (tyb hq_11 (all1 rfl)) clX0) rfl hl.1 (Nat.le_of_ble_eq_true rfl) dX6_flow_53 (fun z_12 H locs hq hS => ?_)
      obtain ⟨f_13, hH⟩ := hq
      have hH : TH E (tbC (dayD (.inl (0, 18))) (dayD (.inl (0, 18))) (riverD (.inl Fa1) (.inl Fb1) (.inl (0, 4)) 31 33 35 39 43 47) (riverD (.inl Fa2) (.inl Fb2) (.inl (0, 4)) 32 34 36 40 44 48) (rcD (.inl (t, t)) (.inr kr) (.inr ks) (.inl kb)) rd tp A14F A14F A4F A4F A14F A14F (riverD (.inl Fa3) (.inl Fb3) (.inl (0, 4)) 3 8 3 41 45 49) (riverD (.inl Fa4) (.inl Fb4) (.inl (0, 4)) 3 8 3 42 46 50) ((.inr (.inl (0, 12, Pd1)))) ((.inr (.inl (0, 12, Pd2)))) ((.inr (.inl (0, 12, Pd3)))) ((.inr (.inl (0, 12, Pd4)))) ((.inr (.inl (0, 12, Ps1)))) ((.inr (.inl (0, 12, Ps2)))) ((.inr (.inl (0, 12, Ps3)))) ((.inr (.inl (0, 12, Ps4)))) ((.inr (.inl (0, 48, Pi1)))) ((.inr (.inl (0, 48, Pi2)))) ((.inr (.inl (0, 48, Pi3)))) ((.inr (.inl (0, 48, Pi4))))) H := hH
      exact txI F hS dX6_flow_56 rfl (⟨f_13, hH⟩)
    · skip
      refine tTabIn (off := 42) (tgt := 57) F dX6_flow_15 w_9 (by decide) (by decide) (by decide +kernel) (by decide) ?_
      refine lv_aload_n F.1 F.2.1 dX6_flow_57 rfl (lv_at hl 0 rfl) ?_
      refine tGetR (j := 11) F hK hH (tyb ha0 (all1 rfl)) rfl (all1 rfl) clX6 (by decide) wd_2_7 dX6_flow_58 (fun q_14 hq_14 _ => ?_)
      refine lv_iload_n F.1 F.2.1 dX6_flow_61 rfl (lv_at hl 1 rfl) ?_
      refine tVi (b := q_14) (As := [.int a1]) (rest := []) F hK hN hO (c_X0_backOf E (rcD (.inl (t, t)) (.inr kr) (.inr ks) (.inl kb)) rd tp Fa1 Fb1 Fa2 Fb2 Fa3 Fb3 Fa4 Fb4 Pd1 Pd2 Pd3 Pd4 Ps1 Ps2 Ps3 Ps4 Pi1 Pi2 Pi3 Pi4 q_14 a1 (by have h9_ := hq_14; simp at h9_ ⊢; omega) r_6 hFa1 hFb1 hFa2 hFb2 hFa3 hFb3 hFa4 hFb4 hPd1 hPd2 hPd3 hPd4 hPs1 hPs2 hPs3 hPs4 hPi1 hPi2 hPi3 hPi4) mv_X0_backOf wd_42_14 ⟨Nat.le_of_ble_eq_true rfl, Nat.le_of_ble_eq_true rfl⟩ ⟨Nat.le_of_ble_eq_true rfl, Nat.le_of_ble_eq_true rfl⟩ hH hS (tRecv hK hH (tyb hq_14 (all1 rfl)) clX0) rfl hl.1 (Nat.le_of_ble_eq_true rfl) dX6_flow_62 (fun z_15 H locs hq hS => ?_)
      obtain ⟨f_16, hH⟩ := hq
      have hH : TH E (tbC (dayD (.inl (0, 18))) (dayD (.inl (0, 18))) (riverD (.inl Fa1) (.inl Fb1) (.inl (0, 4)) 31 33 35 39 43 47) (riverD (.inl Fa2) (.inl Fb2) (.inl (0, 4)) 32 34 36 40 44 48) (rcD (.inl (t, t)) (.inr kr) (.inr ks) (.inl kb)) rd tp A14F A14F A4F A4F A14F A14F (riverD (.inl Fa3) (.inl Fb3) (.inl (0, 4)) 3 8 3 41 45 49) (riverD (.inl Fa4) (.inl Fb4) (.inl (0, 4)) 3 8 3 42 46 50) ((.inr (.inl (0, 12, Pd1)))) ((.inr (.inl (0, 12, Pd2)))) ((.inr (.inl (0, 12, Pd3)))) ((.inr (.inl (0, 12, Pd4)))) ((.inr (.inl (0, 12, Ps1)))) ((.inr (.inl (0, 12, Ps2)))) ((.inr (.inl (0, 12, Ps3)))) ((.inr (.inl (0, 12, Ps4)))) ((.inr (.inl (0, 48, Pi1)))) ((.inr (.inl (0, 48, Pi2)))) ((.inr (.inl (0, 48, Pi3)))) ((.inr (.inl (0, 48, Pi4))))) H := hH
      exact txI F hS dX6_flow_65 rfl (⟨f_16, hH⟩)
    · skip
      refine tTabIn (off := 51) (tgt := 66) F dX6_flow_15 w_9 (by decide) (by decide) (by decide +kernel) (by decide) ?_
      refine lv_aload_n F.1 F.2.1 dX6_flow_66 rfl (lv_at hl 0 rfl) ?_
      refine tGetR (j := 11) F hK hH (tyb ha0 (all1 rfl)) rfl (all1 rfl) clX6 (by decide) wd_2_7 dX6_flow_67 (fun q_17 hq_17 _ => ?_)
      refine tGetR (j := 5) F hK hH (tyb hq_17 (all1 rfl)) rfl (all1 rfl) clX0 (by decide) wd_42_7 dX6_flow_70 (fun q_18 hq_18 _ => ?_)
      refine lv_iload_n F.1 F.2.1 dX6_flow_73 rfl (lv_at hl 1 rfl) ?_
      refine tIaldB F hK hH (tyb hq_18 (all1 rfl)) (ixb (n := 12) r_6 rfl rfl) dX6_flow_74 (fun z_19 hz_19 => ?_)
      refine lv_aload_n F.1 F.2.1 dX6_flow_75 rfl (lv_at hl 0 rfl) ?_
      refine tGetR (j := 11) F hK hH (tyb ha0 (all1 rfl)) rfl (all1 rfl) clX6 (by decide) wd_2_7 dX6_flow_76 (fun q_20 hq_20 _ => ?_)
      refine lv_iload_n F.1 F.2.1 dX6_flow_79 rfl (lv_at hl 1 rfl) ?_
      refine tVi (b := q_20) (As := [.int a1]) (rest := [.int z_19]) F hK hN hO (c_X0_takenAt E (rcD (.inl (t, t)) (.inr kr) (.inr ks) (.inl kb)) rd tp Fa1 Fb1 Fa2 Fb2 Fa3 Fb3 Fa4 Fb4 Pd1 Pd2 Pd3 Pd4 Ps1 Ps2 Ps3 Ps4 Pi1 Pi2 Pi3 Pi4 q_20 a1 (by have h9_ := hq_20; simp at h9_ ⊢; omega) hFa1 hFb1 hFa2 hFb2 hFa3 hFb3 hFa4 hFb4 hPd1 hPd2 hPd3 hPd4 hPs1 hPs2 hPs3 hPs4 hPi1 hPi2 hPi3 hPi4) mv_X0_takenAt wd_42_15 ⟨Nat.le_of_ble_eq_true rfl, Nat.le_of_ble_eq_true rfl⟩ ⟨Nat.le_of_ble_eq_true rfl, Nat.le_of_ble_eq_true rfl⟩ hH hS (tRecv hK hH (tyb hq_20 (all1 rfl)) clX0) rfl hl.1 (Nat.le_of_ble_eq_true rfl) dX6_flow_80 (fun z_21 H locs hq hS => ?_)
      obtain ⟨f_22, hH⟩ := hq
      have hH : TH E (tbC (dayD (.inl (0, 18))) (dayD (.inl (0, 18))) (riverD (.inl Fa1) (.inl Fb1) (.inl (0, 4)) 31 33 35 39 43 47) (riverD (.inl Fa2) (.inl Fb2) (.inl (0, 4)) 32 34 36 40 44 48) (rcD (.inl (t, t)) (.inr kr) (.inr ks) (.inl kb)) rd tp A14F A14F A4F A4F A14F A14F (riverD (.inl Fa3) (.inl Fb3) (.inl (0, 4)) 3 8 3 41 45 49) (riverD (.inl Fa4) (.inl Fb4) (.inl (0, 4)) 3 8 3 42 46 50) ((.inr (.inl (0, 12, Pd1)))) ((.inr (.inl (0, 12, Pd2)))) ((.inr (.inl (0, 12, Pd3)))) ((.inr (.inl (0, 12, Pd4)))) ((.inr (.inl (0, 12, Ps1)))) ((.inr (.inl (0, 12, Ps2)))) ((.inr (.inl (0, 12, Ps3)))) ((.inr (.inl (0, 12, Ps4)))) ((.inr (.inl (0, 48, Pi1)))) ((.inr (.inl (0, 48, Pi2)))) ((.inr (.inl (0, 48, Pi3)))) ((.inr (.inl (0, 48, Pi4))))) H := hH
      refine lv_iadd F.1 F.2.1 dX6_flow_83 ?_
      refine topF (fun z_23 => ?_)
      exact txI F hS dX6_flow_84 rfl (⟨(i32b _), hH⟩)
    · skip
      refine tTabIn (off := 70) (tgt := 85) F dX6_flow_15 w_9 (by decide) (by decide) (by decide +kernel) (by decide) ?_
      refine lv_aload_n F.1 F.2.1 dX6_flow_85 rfl (lv_at hl 0 rfl) ?_
      refine tGetR (j := 11) F hK hH (tyb ha0 (all1 rfl)) rfl (all1 rfl) clX6 (by decide) wd_2_7 dX6_flow_86 (fun q_24 hq_24 _ => ?_)
      refine lv_iload_n F.1 F.2.1 dX6_flow_89 rfl (lv_at hl 1 rfl) ?_
      refine tVi (b := q_24) (As := [.int a1]) (rest := []) F hK hN hO (c_X0_takenAt E (rcD (.inl (t, t)) (.inr kr) (.inr ks) (.inl kb)) rd tp Fa1 Fb1 Fa2 Fb2 Fa3 Fb3 Fa4 Fb4 Pd1 Pd2 Pd3 Pd4 Ps1 Ps2 Ps3 Ps4 Pi1 Pi2 Pi3 Pi4 q_24 a1 (by have h9_ := hq_24; simp at h9_ ⊢; omega) hFa1 hFb1 hFa2 hFb2 hFa3 hFb3 hFa4 hFb4 hPd1 hPd2 hPd3 hPd4 hPs1 hPs2 hPs3 hPs4 hPi1 hPi2 hPi3 hPi4) mv_X0_takenAt wd_42_15 ⟨Nat.le_of_ble_eq_true rfl, Nat.le_of_ble_eq_true rfl⟩ ⟨Nat.le_of_ble_eq_true rfl, Nat.le_of_ble_eq_true rfl⟩ hH hS (tRecv hK hH (tyb hq_24 (all1 rfl)) clX0) rfl hl.1 (Nat.le_of_ble_eq_true rfl) dX6_flow_90 (fun z_25 H locs hq hS => ?_)
      obtain ⟨f_26, hH⟩ := hq
      have hH : TH E (tbC (dayD (.inl (0, 18))) (dayD (.inl (0, 18))) (riverD (.inl Fa1) (.inl Fb1) (.inl (0, 4)) 31 33 35 39 43 47) (riverD (.inl Fa2) (.inl Fb2) (.inl (0, 4)) 32 34 36 40 44 48) (rcD (.inl (t, t)) (.inr kr) (.inr ks) (.inl kb)) rd tp A14F A14F A4F A4F A14F A14F (riverD (.inl Fa3) (.inl Fb3) (.inl (0, 4)) 3 8 3 41 45 49) (riverD (.inl Fa4) (.inl Fb4) (.inl (0, 4)) 3 8 3 42 46 50) ((.inr (.inl (0, 12, Pd1)))) ((.inr (.inl (0, 12, Pd2)))) ((.inr (.inl (0, 12, Pd3)))) ((.inr (.inl (0, 12, Pd4)))) ((.inr (.inl (0, 12, Ps1)))) ((.inr (.inl (0, 12, Ps2)))) ((.inr (.inl (0, 12, Ps3)))) ((.inr (.inl (0, 12, Ps4)))) ((.inr (.inl (0, 48, Pi1)))) ((.inr (.inl (0, 48, Pi2)))) ((.inr (.inl (0, 48, Pi3)))) ((.inr (.inl (0, 48, Pi4))))) H := hH
      exact txI F hS dX6_flow_93 rfl (⟨f_26, hH⟩)
    · skip
      refine tTabIn (off := 79) (tgt := 94) F dX6_flow_15 w_9 (by decide) (by decide) (by decide +kernel) (by decide) ?_
      refine lv_aload_n F.1 F.2.1 dX6_flow_94 rfl (lv_at hl 0 rfl) ?_
      refine tGetR (j := 11) F hK hH (tyb ha0 (all1 rfl)) rfl (all1 rfl) clX6 (by decide) wd_2_7 dX6_flow_95 (fun q_27 hq_27 _ => ?_)
      refine tGetR (j := 6) F hK hH (tyb hq_27 (all1 rfl)) rfl (all1 rfl) clX0 (by decide) wd_42_8 dX6_flow_98 (fun q_28 hq_28 _ => ?_)
      refine lv_iload_n F.1 F.2.1 dX6_flow_101 rfl (lv_at hl 1 rfl) ?_
      refine tIaldB F hK hH (tyb hq_28 (all1 rfl)) (ixb (n := 12) r_6 rfl rfl) dX6_flow_102 (fun z_29 hz_29 => ?_)
      exact txI F hS dX6_flow_103 rfl (⟨hz_29, hH⟩)
  · skip
    have r_7 : 0 ≤ z_1.toInt ∧ z_1.toInt ≤ 0 := by have h9_ := f_2; omega
    refine lv_iconst (v := (-1)) F.1 F.2.1 dX6_flow_8 (by decide) ?_
    refine topK (a := (-1)) (by decide) (fun k_30 hk_30 => ?_)
    exact txI F hS dX6_flow_9 rfl (⟨(wkb (eqb hk_30) rfl rfl), hH⟩)
set_option maxHeartbeats 4000000 in
set_option maxRecDepth 100000 in
theorem c_X6_takes (E : Ev) (rd : TD) (tp : TD) (kb : Int × Int) (Fa1 : Int × Int) (Fb1 : Int × Int) (Fa2 : Int × Int) (Fb2 : Int × Int) (Fa3 : Int × Int) (Fb3 : Int × Int) (Fa4 : Int × Int) (Fb4 : Int × Int) (kr : List Nat) (ks : List Nat) (Pd1 : (Nat → Int32) → Prop) (Pd2 : (Nat → Int32) → Prop) (Pd3 : (Nat → Int32) → Prop) (Pd4 : (Nat → Int32) → Prop) (Ps1 : (Nat → Int32) → Prop) (Ps2 : (Nat → Int32) → Prop) (Ps3 : (Nat → Int32) → Prop) (Ps4 : (Nat → Int32) → Prop) (Pi1 : (Nat → Int32) → Prop) (Pi2 : (Nat → Int32) → Prop) (Pi3 : (Nat → Int32) → Prop) (Pi4 : (Nat → Int32) → Prop) (t : Int) (a0 : Nat) (a1 : Int32) (a2 : Int32) (ha0 : eT E a0 ∈ [28]) (ht : 0 ≤ t ∧ t ≤ 400) (hFa1 : 0 ≤ Fa1.1 ∧ Fa1.2 ≤ 12) (hFb1 : 0 ≤ Fb1.1 ∧ Fb1.2 ≤ 14) (hFa2 : 0 ≤ Fa2.1 ∧ Fa2.2 ≤ 12) (hFb2 : 0 ≤ Fb2.1 ∧ Fb2.2 ≤ 14) (hFa3 : 0 ≤ Fa3.1 ∧ Fa3.2 ≤ 12) (hFb3 : 0 ≤ Fb3.1 ∧ Fb3.2 ≤ 14) (hFa4 : 0 ≤ Fa4.1 ∧ Fa4.2 ≤ 12) (hFb4 : 0 ≤ Fb4.1 ∧ Fb4.2 ≤ 14) (hkr : ∀ t ∈ kr, t ∈ [26, 27]) (hks : ∀ t ∈ ks, t ∈ [26, 27]) (hPd1 : ∀ f, Pd1 f → ivP 12 (-2) 11 f) (hPd2 : ∀ f, Pd2 f → ivP 12 (-2) 11 f) (hPd3 : ∀ f, Pd3 f → ivP 12 (-2) 11 f) (hPd4 : ∀ f, Pd4 f → ivP 12 (-2) 11 f) (hPs1 : ∀ f, Ps1 f → ivP 12 (-2147483648) 2147483647 f) (hPs2 : ∀ f, Ps2 f → ivP 12 (-2147483648) 2147483647 f) (hPs3 : ∀ f, Ps3 f → ivP 12 (-2147483648) 2147483647 f) (hPs4 : ∀ f, Ps4 f → ivP 12 (-2147483648) 2147483647 f) (hPi1 : ∀ f, Pi1 f → ivP 48 (-2147483648) 2147483647 f) (hPi2 : ∀ f, Pi2 f → ivP 48 (-2147483648) 2147483647 f) (hPi3 : ∀ f, Pi3 f → ivP 48 (-2147483648) 2147483647 f) (hPi4 : ∀ f, Pi4 f → ivP 48 (-2147483648) 2147483647 f) : TcI E yX6_takes cX6_takes 3 .int ({ frames := 6, cells := 0, slots := 0, locals := 159 }) [.ref a0, .int a1, .int a2] (fun H => TH E (tbC (dayD (.inl (0, 18))) (dayD (.inl (0, 18))) (riverD (.inl Fa1) (.inl Fb1) (.inl (0, 4)) 31 33 35 39 43 47) (riverD (.inl Fa2) (.inl Fb2) (.inl (0, 4)) 32 34 36 40 44 48) (rcD (.inl (t, t)) (.inr kr) (.inr ks) (.inl kb)) rd tp A14F A14F A4F A4F A14F A14F (riverD (.inl Fa3) (.inl Fb3) (.inl (0, 4)) 3 8 3 41 45 49) (riverD (.inl Fa4) (.inl Fb4) (.inl (0, 4)) 3 8 3 42 46 50) ((.inr (.inl (0, 12, Pd1)))) ((.inr (.inl (0, 12, Pd2)))) ((.inr (.inl (0, 12, Pd3)))) ((.inr (.inl (0, 12, Pd4)))) ((.inr (.inl (0, 12, Ps1)))) ((.inr (.inl (0, 12, Ps2)))) ((.inr (.inl (0, 12, Ps3)))) ((.inr (.inl (0, 12, Ps4)))) ((.inr (.inl (0, 48, Pi1)))) ((.inr (.inl (0, 48, Pi2)))) ((.inr (.inl (0, 48, Pi3)))) ((.inr (.inl (0, 48, Pi4))))) H) (fun v H => ((-2147483648) ≤ v.toInt ∧ v.toInt ≤ 2147483647) ∧ TH E (tbC (dayD (.inl (0, 18))) (dayD (.inl (0, 18))) (riverD (.inl Fa1) (.inl Fb1) (.inl (0, 4)) 31 33 35 39 43 47) (riverD (.inl Fa2) (.inl Fb2) (.inl (0, 4)) 32 34 36 40 44 48) (rcD (.inl (t, t)) (.inr kr) (.inr ks) (.inl kb)) rd tp A14F A14F A4F A4F A14F A14F (riverD (.inl Fa3) (.inl Fb3) (.inl (0, 4)) 3 8 3 41 45 49) (riverD (.inl Fa4) (.inl Fb4) (.inl (0, 4)) 3 8 3 42 46 50) ((.inr (.inl (0, 12, Pd1)))) ((.inr (.inl (0, 12, Pd2)))) ((.inr (.inl (0, 12, Pd3)))) ((.inr (.inl (0, 12, Pd4)))) ((.inr (.inl (0, 12, Ps1)))) ((.inr (.inl (0, 12, Ps2)))) ((.inr (.inl (0, 12, Ps3)))) ((.inr (.inl (0, 12, Ps4)))) ((.inr (.inl (0, 48, Pi1)))) ((.inr (.inl (0, 48, Pi2)))) ((.inr (.inl (0, 48, Pi3)))) ((.inr (.inl (0, 48, Pi4))))) H) := by
  refine teI (by decide) (Nat.le_of_ble_eq_true rfl) ?_
  intro p_ ev_ s mi_ below_ meth cd_ ls F hK hN hO hH hS hl
  have hH : TH E (tbC (dayD (.inl (0, 18))) (dayD (.inl (0, 18))) (riverD (.inl Fa1) (.inl Fb1) (.inl (0, 4)) 31 33 35 39 43 47) (riverD (.inl Fa2) (.inl Fb2) (.inl (0, 4)) 32 34 36 40 44 48) (rcD (.inl (t, t)) (.inr kr) (.inr ks) (.inl kb)) rd tp A14F A14F A4F A4F A14F A14F (riverD (.inl Fa3) (.inl Fb3) (.inl (0, 4)) 3 8 3 41 45 49) (riverD (.inl Fa4) (.inl Fb4) (.inl (0, 4)) 3 8 3 42 46 50) ((.inr (.inl (0, 12, Pd1)))) ((.inr (.inl (0, 12, Pd2)))) ((.inr (.inl (0, 12, Pd3)))) ((.inr (.inl (0, 12, Pd4)))) ((.inr (.inl (0, 12, Ps1)))) ((.inr (.inl (0, 12, Ps2)))) ((.inr (.inl (0, 12, Ps3)))) ((.inr (.inl (0, 12, Ps4)))) ((.inr (.inl (0, 48, Pi1)))) ((.inr (.inl (0, 48, Pi2)))) ((.inr (.inl (0, 48, Pi3)))) ((.inr (.inl (0, 48, Pi4))))) s.heap := hH
  have hl : lv_has ls 3 [(0, .ref a0), (1, .int a1), (2, .int a2)] := hl
  refine lv_aload_n F.1 F.2.1 dX6_takes_0 rfl (lv_at hl 0 rfl) ?_
  refine lv_iload_n F.1 F.2.1 dX6_takes_1 rfl (lv_at hl 1 rfl) ?_
  refine tVi (b := a0) (As := [.int a1]) (rest := []) F hK hN hO (c_X6_isRight E rd tp kb Fa1 Fb1 Fa2 Fb2 Fa3 Fb3 Fa4 Fb4 kr ks Pd1 Pd2 Pd3 Pd4 Ps1 Ps2 Ps3 Ps4 Pi1 Pi2 Pi3 Pi4 t a0 a1 ha0 (by omega) hFa1 hFb1 hFa2 hFb2 hFa3 hFb3 hFa4 hFb4 hkr hks hPd1 hPd2 hPd3 hPd4 hPs1 hPs2 hPs3 hPs4 hPi1 hPi2 hPi3 hPi4) mv_X6_isRight wd_31_10 ⟨Nat.le_of_ble_eq_true rfl, Nat.le_of_ble_eq_true rfl⟩ ⟨Nat.le_of_ble_eq_true rfl, Nat.le_of_ble_eq_true rfl⟩ hH hS (tRecv hK hH (tyb ha0 (all1 rfl)) clX6) rfl hl.1 (Nat.le_of_ble_eq_true rfl) dX6_takes_2 (fun z_1 H locs hq hS => ?_)
  obtain ⟨f_2, f_3, hH⟩ := hq
  have hH : TH E (tbC (dayD (.inl (0, 18))) (dayD (.inl (0, 18))) (riverD (.inl Fa1) (.inl Fb1) (.inl (0, 4)) 31 33 35 39 43 47) (riverD (.inl Fa2) (.inl Fb2) (.inl (0, 4)) 32 34 36 40 44 48) (rcD (.inl (t, t)) (.inr kr) (.inr ks) (.inl kb)) rd tp A14F A14F A4F A4F A14F A14F (riverD (.inl Fa3) (.inl Fb3) (.inl (0, 4)) 3 8 3 41 45 49) (riverD (.inl Fa4) (.inl Fb4) (.inl (0, 4)) 3 8 3 42 46 50) ((.inr (.inl (0, 12, Pd1)))) ((.inr (.inl (0, 12, Pd2)))) ((.inr (.inl (0, 12, Pd3)))) ((.inr (.inl (0, 12, Pd4)))) ((.inr (.inl (0, 12, Ps1)))) ((.inr (.inl (0, 12, Ps2)))) ((.inr (.inl (0, 12, Ps3)))) ((.inr (.inl (0, 12, Ps4)))) ((.inr (.inl (0, 48, Pi1)))) ((.inr (.inl (0, 48, Pi2)))) ((.inr (.inl (0, 48, Pi3)))) ((.inr (.inl (0, 48, Pi4))))) H := hH
  refine z_ne (tgt := 10) F dX6_takes_5 (by decide) (fun c_4 => ?_) (fun c_4 => ?_)
  · skip
    have r_5 : 1 ≤ z_1.toInt ∧ z_1.toInt ≤ 1 := by have h9_ := f_2; omega
    have r_6 : 0 ≤ a1.toInt ∧ a1.toInt ≤ 13 := by have h9_ := (i32b a1); omega
    refine lv_aload_n F.1 F.2.1 dX6_takes_10 rfl (lv_at hl 0 rfl) ?_
    refine tVv (b := a0) (As := []) (rest := []) F hK hN hO (c_X6_look E rd tp kb Fa1 Fb1 Fa2 Fb2 Fa3 Fb3 Fa4 Fb4 kr ks Pd1 Pd2 Pd3 Pd4 Ps1 Ps2 Ps3 Ps4 Pi1 Pi2 Pi3 Pi4 t a0 ha0 (by omega) hFa1 hFb1 hFa2 hFb2 hFa3 hFb3 hFa4 hFb4 hkr hks hPd1 hPd2 hPd3 hPd4 hPs1 hPs2 hPs3 hPs4 hPi1 hPi2 hPi3 hPi4) mv_X6_look wd_42_9 ⟨Nat.le_of_ble_eq_true rfl, Nat.le_of_ble_eq_true rfl⟩ ⟨Nat.le_of_ble_eq_true rfl, Nat.le_of_ble_eq_true rfl⟩ hH hS (tRecv hK hH (tyb ha0 (all1 rfl)) clX6) rfl hl.1 (Nat.le_of_ble_eq_true rfl) dX6_takes_11 (fun H locs hq hS => ?_)
    have hH := hq
    have hH : TH E (tbC (dayD (.inl (0, 18))) (dayD (.inl (0, 18))) (riverD (.inl Fa1) (.inl Fb1) (.inl (0, 4)) 31 33 35 39 43 47) (riverD (.inl Fa2) (.inl Fb2) (.inl (0, 4)) 32 34 36 40 44 48) (rcD (.inl (t, t)) (.inr kr) (.inr ks) (.inl kb)) rd tp A14F A14F A4F A4F A14F A14F (riverD (.inl Fa3) (.inl Fb3) (.inl (0, 4)) 3 8 3 41 45 49) (riverD (.inl Fa4) (.inl Fb4) (.inl (0, 4)) 3 8 3 42 46 50) ((.inr (.inl (0, 12, Pd1)))) ((.inr (.inl (0, 12, Pd2)))) ((.inr (.inl (0, 12, Pd3)))) ((.inr (.inl (0, 12, Pd4)))) ((.inr (.inl (0, 12, Ps1)))) ((.inr (.inl (0, 12, Ps2)))) ((.inr (.inl (0, 12, Ps3)))) ((.inr (.inl (0, 12, Ps4)))) ((.inr (.inl (0, 48, Pi1)))) ((.inr (.inl (0, 48, Pi2)))) ((.inr (.inl (0, 48, Pi3)))) ((.inr (.inl (0, 48, Pi4))))) H := hH
    refine lv_iload_n F.1 F.2.1 dX6_takes_14 rfl (lv_at hl 2 rfl) ?_
    rcases (by omega : (a2.toInt < 0 ∨ 4 < a2.toInt) ∨ a2.toInt = 0 ∨ a2.toInt = 1 ∨ a2.toInt = 2 ∨ a2.toInt = 3 ∨ a2.toInt = 4) with w_9 | w_9 | w_9 | w_9 | w_9 | w_9
    · skip
      refine tTabOut (tgt := 97) F dX6_takes_15 w_9 (by decide) ?_
      refine lv_iconst (v := (-1)) F.1 F.2.1 dX6_takes_97 (by decide) ?_
      refine topK (a := (-1)) (by decide) (fun k_10 hk_10 => ?_)
      exact txI F hS dX6_takes_98 rfl (⟨(wkb (eqb hk_10) rfl rfl), hH⟩)
    · skip
      refine tTabIn (off := 33) (tgt := 48) F dX6_takes_15 w_9 (by decide) (by decide) (by decide +kernel) (by decide) ?_
      refine lv_aload_n F.1 F.2.1 dX6_takes_48 rfl (lv_at hl 0 rfl) ?_
      refine tGetR (j := 11) F hK hH (tyb ha0 (all1 rfl)) rfl (all1 rfl) clX6 (by decide) wd_2_7 dX6_takes_49 (fun q_11 hq_11 _ => ?_)
      refine lv_iload_n F.1 F.2.1 dX6_takes_52 rfl (lv_at hl 1 rfl) ?_
      refine tVi (b := q_11) (As := [.int a1]) (rest := []) F hK hN hO (c_X0_takenBy E (rcD (.inl (t, t)) (.inr kr) (.inr ks) (.inl kb)) rd tp Fa1 Fb1 Fa2 Fb2 Fa3 Fb3 Fa4 Fb4 Pd1 Pd2 Pd3 Pd4 Ps1 Ps2 Ps3 Ps4 Pi1 Pi2 Pi3 Pi4 q_11 a1 (by have h9_ := hq_11; simp at h9_ ⊢; omega) r_6 hFa1 hFb1 hFa2 hFb2 hFa3 hFb3 hFa4 hFb4 hPd1 hPd2 hPd3 hPd4 hPs1 hPs2 hPs3 hPs4 hPi1 hPi2 hPi3 hPi4) mv_X0_takenBy wd_43_7 ⟨Nat.le_of_ble_eq_true rfl, Nat.le_of_ble_eq_true rfl⟩ ⟨Nat.le_of_ble_eq_true rfl, Nat.le_of_ble_eq_true rfl⟩ hH hS (tRecv hK hH (tyb hq_11 (all1 rfl)) clX0) rfl hl.1 (Nat.le_of_ble_eq_true rfl) dX6_takes_53 (fun z_12 H locs hq hS => ?_)
      obtain ⟨f_13, hH⟩ := hq
      have hH : TH E (tbC (dayD (.inl (0, 18))) (dayD (.inl (0, 18))) (riverD (.inl Fa1) (.inl Fb1) (.inl (0, 4)) 31 33 35 39 43 47) (riverD (.inl Fa2) (.inl Fb2) (.inl (0, 4)) 32 34 36 40 44 48) (rcD (.inl (t, t)) (.inr kr) (.inr ks) (.inl kb)) rd tp A14F A14F A4F A4F A14F A14F (riverD (.inl Fa3) (.inl Fb3) (.inl (0, 4)) 3 8 3 41 45 49) (riverD (.inl Fa4) (.inl Fb4) (.inl (0, 4)) 3 8 3 42 46 50) ((.inr (.inl (0, 12, Pd1)))) ((.inr (.inl (0, 12, Pd2)))) ((.inr (.inl (0, 12, Pd3)))) ((.inr (.inl (0, 12, Pd4)))) ((.inr (.inl (0, 12, Ps1)))) ((.inr (.inl (0, 12, Ps2)))) ((.inr (.inl (0, 12, Ps3)))) ((.inr (.inl (0, 12, Ps4)))) ((.inr (.inl (0, 48, Pi1)))) ((.inr (.inl (0, 48, Pi2)))) ((.inr (.inl (0, 48, Pi3)))) ((.inr (.inl (0, 48, Pi4))))) H := hH
      exact txI F hS dX6_takes_56 rfl (⟨f_13, hH⟩)
    · skip
      refine tTabIn (off := 42) (tgt := 57) F dX6_takes_15 w_9 (by decide) (by decide) (by decide +kernel) (by decide) ?_
      refine lv_aload_n F.1 F.2.1 dX6_takes_57 rfl (lv_at hl 0 rfl) ?_
      refine tGetR (j := 11) F hK hH (tyb ha0 (all1 rfl)) rfl (all1 rfl) clX6 (by decide) wd_2_7 dX6_takes_58 (fun q_14 hq_14 _ => ?_)
      refine tGetR (j := 8) F hK hH (tyb hq_14 (all1 rfl)) rfl (all1 rfl) clX0 (by decide) wd_43_3 dX6_takes_61 (fun q_15 hq_15 _ => ?_)
      refine lv_iload_n F.1 F.2.1 dX6_takes_64 rfl (lv_at hl 1 rfl) ?_
      refine tIaldB F hK hH (tyb hq_15 (all1 rfl)) (ixb (n := 18) r_6 rfl rfl) dX6_takes_65 (fun z_16 hz_16 => ?_)
      exact txI F hS dX6_takes_66 rfl (⟨hz_16, hH⟩)
    · skip
      refine tTabIn (off := 52) (tgt := 67) F dX6_takes_15 w_9 (by decide) (by decide) (by decide +kernel) (by decide) ?_
      refine lv_aload_n F.1 F.2.1 dX6_takes_67 rfl (lv_at hl 0 rfl) ?_
      refine tGetR (j := 11) F hK hH (tyb ha0 (all1 rfl)) rfl (all1 rfl) clX6 (by decide) wd_2_7 dX6_takes_68 (fun q_17 hq_17 _ => ?_)
      refine tGetR (j := 9) F hK hH (tyb hq_17 (all1 rfl)) rfl (all1 rfl) clX0 (by decide) wd_43_4 dX6_takes_71 (fun q_18 hq_18 _ => ?_)
      refine lv_iload_n F.1 F.2.1 dX6_takes_74 rfl (lv_at hl 1 rfl) ?_
      refine tIaldB F hK hH (tyb hq_18 (all1 rfl)) (ixb (n := 14) r_6 rfl rfl) dX6_takes_75 (fun z_19 hz_19 => ?_)
      exact txI F hS dX6_takes_76 rfl (⟨hz_19, hH⟩)
    · skip
      refine tTabIn (off := 62) (tgt := 77) F dX6_takes_15 w_9 (by decide) (by decide) (by decide +kernel) (by decide) ?_
      refine lv_aload_n F.1 F.2.1 dX6_takes_77 rfl (lv_at hl 0 rfl) ?_
      refine tGetR (j := 11) F hK hH (tyb ha0 (all1 rfl)) rfl (all1 rfl) clX6 (by decide) wd_2_7 dX6_takes_78 (fun q_20 hq_20 _ => ?_)
      refine tGetR (j := 10) F hK hH (tyb hq_20 (all1 rfl)) rfl (all1 rfl) clX0 (by decide) wd_43_5 dX6_takes_81 (fun q_21 hq_21 _ => ?_)
      refine lv_iload_n F.1 F.2.1 dX6_takes_84 rfl (lv_at hl 1 rfl) ?_
      refine tIaldB F hK hH (tyb hq_21 (all1 rfl)) (ixb (n := 14) r_6 rfl rfl) dX6_takes_85 (fun z_22 hz_22 => ?_)
      exact txI F hS dX6_takes_86 rfl (⟨hz_22, hH⟩)
    · skip
      refine tTabIn (off := 72) (tgt := 87) F dX6_takes_15 w_9 (by decide) (by decide) (by decide +kernel) (by decide) ?_
      refine lv_aload_n F.1 F.2.1 dX6_takes_87 rfl (lv_at hl 0 rfl) ?_
      refine tGetR (j := 11) F hK hH (tyb ha0 (all1 rfl)) rfl (all1 rfl) clX6 (by decide) wd_2_7 dX6_takes_88 (fun q_23 hq_23 _ => ?_)
      refine tGetR (j := 7) F hK hH (tyb hq_23 (all1 rfl)) rfl (all1 rfl) clX0 (by decide) wd_43_6 dX6_takes_91 (fun q_24 hq_24 _ => ?_)
      refine lv_iload_n F.1 F.2.1 dX6_takes_94 rfl (lv_at hl 1 rfl) ?_
      refine tIaldB F hK hH (tyb hq_24 (all1 rfl)) (ixb (n := 18) r_6 rfl rfl) dX6_takes_95 (fun z_25 hz_25 => ?_)
      exact txI F hS dX6_takes_96 rfl (⟨hz_25, hH⟩)
  · skip
    have r_7 : 0 ≤ z_1.toInt ∧ z_1.toInt ≤ 0 := by have h9_ := f_2; omega
    refine lv_iconst (v := (-1)) F.1 F.2.1 dX6_takes_8 (by decide) ?_
    refine topK (a := (-1)) (by decide) (fun k_26 hk_26 => ?_)
    exact txI F hS dX6_takes_9 rfl (⟨(wkb (eqb hk_26) rfl rfl), hH⟩)
set_option maxHeartbeats 4000000 in
set_option maxRecDepth 100000 in
theorem c_X6_stored (E : Ev) (rd : TD) (tp : TD) (kb : Int × Int) (Fa1 : Int × Int) (Fb1 : Int × Int) (Fa2 : Int × Int) (Fb2 : Int × Int) (Fa3 : Int × Int) (Fb3 : Int × Int) (Fa4 : Int × Int) (Fb4 : Int × Int) (kr : List Nat) (ks : List Nat) (Pd1 : (Nat → Int32) → Prop) (Pd2 : (Nat → Int32) → Prop) (Pd3 : (Nat → Int32) → Prop) (Pd4 : (Nat → Int32) → Prop) (Ps1 : (Nat → Int32) → Prop) (Ps2 : (Nat → Int32) → Prop) (Ps3 : (Nat → Int32) → Prop) (Ps4 : (Nat → Int32) → Prop) (Pi1 : (Nat → Int32) → Prop) (Pi2 : (Nat → Int32) → Prop) (Pi3 : (Nat → Int32) → Prop) (Pi4 : (Nat → Int32) → Prop) (t : Int) (a0 : Nat) (a1 : Int32) (a2 : Int32) (ha0 : eT E a0 ∈ [28]) (ht : 0 ≤ t ∧ t ≤ 400) (hFa1 : 0 ≤ Fa1.1 ∧ Fa1.2 ≤ 12) (hFb1 : 0 ≤ Fb1.1 ∧ Fb1.2 ≤ 14) (hFa2 : 0 ≤ Fa2.1 ∧ Fa2.2 ≤ 12) (hFb2 : 0 ≤ Fb2.1 ∧ Fb2.2 ≤ 14) (hFa3 : 0 ≤ Fa3.1 ∧ Fa3.2 ≤ 12) (hFb3 : 0 ≤ Fb3.1 ∧ Fb3.2 ≤ 14) (hFa4 : 0 ≤ Fa4.1 ∧ Fa4.2 ≤ 12) (hFb4 : 0 ≤ Fb4.1 ∧ Fb4.2 ≤ 14) (hkr : ∀ t ∈ kr, t ∈ [26, 27]) (hks : ∀ t ∈ ks, t ∈ [26, 27]) (hPd1 : ∀ f, Pd1 f → ivP 12 (-2) 11 f) (hPd2 : ∀ f, Pd2 f → ivP 12 (-2) 11 f) (hPd3 : ∀ f, Pd3 f → ivP 12 (-2) 11 f) (hPd4 : ∀ f, Pd4 f → ivP 12 (-2) 11 f) (hPs1 : ∀ f, Ps1 f → ivP 12 (-2147483648) 2147483647 f) (hPs2 : ∀ f, Ps2 f → ivP 12 (-2147483648) 2147483647 f) (hPs3 : ∀ f, Ps3 f → ivP 12 (-2147483648) 2147483647 f) (hPs4 : ∀ f, Ps4 f → ivP 12 (-2147483648) 2147483647 f) (hPi1 : ∀ f, Pi1 f → ivP 48 (-2147483648) 2147483647 f) (hPi2 : ∀ f, Pi2 f → ivP 48 (-2147483648) 2147483647 f) (hPi3 : ∀ f, Pi3 f → ivP 48 (-2147483648) 2147483647 f) (hPi4 : ∀ f, Pi4 f → ivP 48 (-2147483648) 2147483647 f) : TcI E yX6_stored cX6_stored 3 .int ({ frames := 6, cells := 0, slots := 0, locals := 159 }) [.ref a0, .int a1, .int a2] (fun H => TH E (tbC (dayD (.inl (0, 18))) (dayD (.inl (0, 18))) (riverD (.inl Fa1) (.inl Fb1) (.inl (0, 4)) 31 33 35 39 43 47) (riverD (.inl Fa2) (.inl Fb2) (.inl (0, 4)) 32 34 36 40 44 48) (rcD (.inl (t, t)) (.inr kr) (.inr ks) (.inl kb)) rd tp A14F A14F A4F A4F A14F A14F (riverD (.inl Fa3) (.inl Fb3) (.inl (0, 4)) 3 8 3 41 45 49) (riverD (.inl Fa4) (.inl Fb4) (.inl (0, 4)) 3 8 3 42 46 50) ((.inr (.inl (0, 12, Pd1)))) ((.inr (.inl (0, 12, Pd2)))) ((.inr (.inl (0, 12, Pd3)))) ((.inr (.inl (0, 12, Pd4)))) ((.inr (.inl (0, 12, Ps1)))) ((.inr (.inl (0, 12, Ps2)))) ((.inr (.inl (0, 12, Ps3)))) ((.inr (.inl (0, 12, Ps4)))) ((.inr (.inl (0, 48, Pi1)))) ((.inr (.inl (0, 48, Pi2)))) ((.inr (.inl (0, 48, Pi3)))) ((.inr (.inl (0, 48, Pi4))))) H) (fun v H => ((-2147483648) ≤ v.toInt ∧ v.toInt ≤ 2147483647) ∧ TH E (tbC (dayD (.inl (0, 18))) (dayD (.inl (0, 18))) (riverD (.inl Fa1) (.inl Fb1) (.inl (0, 4)) 31 33 35 39 43 47) (riverD (.inl Fa2) (.inl Fb2) (.inl (0, 4)) 32 34 36 40 44 48) (rcD (.inl (t, t)) (.inr kr) (.inr ks) (.inl kb)) rd tp A14F A14F A4F A4F A14F A14F (riverD (.inl Fa3) (.inl Fb3) (.inl (0, 4)) 3 8 3 41 45 49) (riverD (.inl Fa4) (.inl Fb4) (.inl (0, 4)) 3 8 3 42 46 50) ((.inr (.inl (0, 12, Pd1)))) ((.inr (.inl (0, 12, Pd2)))) ((.inr (.inl (0, 12, Pd3)))) ((.inr (.inl (0, 12, Pd4)))) ((.inr (.inl (0, 12, Ps1)))) ((.inr (.inl (0, 12, Ps2)))) ((.inr (.inl (0, 12, Ps3)))) ((.inr (.inl (0, 12, Ps4)))) ((.inr (.inl (0, 48, Pi1)))) ((.inr (.inl (0, 48, Pi2)))) ((.inr (.inl (0, 48, Pi3)))) ((.inr (.inl (0, 48, Pi4))))) H) := by
  refine teI (by decide) (Nat.le_of_ble_eq_true rfl) ?_
  intro p_ ev_ s mi_ below_ meth cd_ ls F hK hN hO hH hS hl
  have hH : TH E (tbC (dayD (.inl (0, 18))) (dayD (.inl (0, 18))) (riverD (.inl Fa1) (.inl Fb1) (.inl (0, 4)) 31 33 35 39 43 47) (riverD (.inl Fa2) (.inl Fb2) (.inl (0, 4)) 32 34 36 40 44 48) (rcD (.inl (t, t)) (.inr kr) (.inr ks) (.inl kb)) rd tp A14F A14F A4F A4F A14F A14F (riverD (.inl Fa3) (.inl Fb3) (.inl (0, 4)) 3 8 3 41 45 49) (riverD (.inl Fa4) (.inl Fb4) (.inl (0, 4)) 3 8 3 42 46 50) ((.inr (.inl (0, 12, Pd1)))) ((.inr (.inl (0, 12, Pd2)))) ((.inr (.inl (0, 12, Pd3)))) ((.inr (.inl (0, 12, Pd4)))) ((.inr (.inl (0, 12, Ps1)))) ((.inr (.inl (0, 12, Ps2)))) ((.inr (.inl (0, 12, Ps3)))) ((.inr (.inl (0, 12, Ps4)))) ((.inr (.inl (0, 48, Pi1)))) ((.inr (.inl (0, 48, Pi2)))) ((.inr (.inl (0, 48, Pi3)))) ((.inr (.inl (0, 48, Pi4))))) s.heap := hH
  have hl : lv_has ls 3 [(0, .ref a0), (1, .int a1), (2, .int a2)] := hl
  refine lv_aload_n F.1 F.2.1 dX6_stored_0 rfl (lv_at hl 0 rfl) ?_
  refine lv_iload_n F.1 F.2.1 dX6_stored_1 rfl (lv_at hl 1 rfl) ?_
  refine tVi (b := a0) (As := [.int a1]) (rest := []) F hK hN hO (c_X6_isStore E rd tp kb Fa1 Fb1 Fa2 Fb2 Fa3 Fb3 Fa4 Fb4 kr ks Pd1 Pd2 Pd3 Pd4 Ps1 Ps2 Ps3 Ps4 Pi1 Pi2 Pi3 Pi4 t a0 a1 ha0 (by omega) hFa1 hFb1 hFa2 hFb2 hFa3 hFb3 hFa4 hFb4 hkr hks hPd1 hPd2 hPd3 hPd4 hPs1 hPs2 hPs3 hPs4 hPi1 hPi2 hPi3 hPi4) mv_X6_isStore wd_32_6 ⟨Nat.le_of_ble_eq_true rfl, Nat.le_of_ble_eq_true rfl⟩ ⟨Nat.le_of_ble_eq_true rfl, Nat.le_of_ble_eq_true rfl⟩ hH hS (tRecv hK hH (tyb ha0 (all1 rfl)) clX6) rfl hl.1 (Nat.le_of_ble_eq_true rfl) dX6_stored_2 (fun z_1 H locs hq hS => ?_)
  obtain ⟨f_2, f_3, hH⟩ := hq
  have hH : TH E (tbC (dayD (.inl (0, 18))) (dayD (.inl (0, 18))) (riverD (.inl Fa1) (.inl Fb1) (.inl (0, 4)) 31 33 35 39 43 47) (riverD (.inl Fa2) (.inl Fb2) (.inl (0, 4)) 32 34 36 40 44 48) (rcD (.inl (t, t)) (.inr kr) (.inr ks) (.inl kb)) rd tp A14F A14F A4F A4F A14F A14F (riverD (.inl Fa3) (.inl Fb3) (.inl (0, 4)) 3 8 3 41 45 49) (riverD (.inl Fa4) (.inl Fb4) (.inl (0, 4)) 3 8 3 42 46 50) ((.inr (.inl (0, 12, Pd1)))) ((.inr (.inl (0, 12, Pd2)))) ((.inr (.inl (0, 12, Pd3)))) ((.inr (.inl (0, 12, Pd4)))) ((.inr (.inl (0, 12, Ps1)))) ((.inr (.inl (0, 12, Ps2)))) ((.inr (.inl (0, 12, Ps3)))) ((.inr (.inl (0, 12, Ps4)))) ((.inr (.inl (0, 48, Pi1)))) ((.inr (.inl (0, 48, Pi2)))) ((.inr (.inl (0, 48, Pi3)))) ((.inr (.inl (0, 48, Pi4))))) H := hH
  refine z_ne (tgt := 10) F dX6_stored_5 (by decide) (fun c_4 => ?_) (fun c_4 => ?_)
  · skip
    have r_5 : 1 ≤ z_1.toInt ∧ z_1.toInt ≤ 1 := by have h9_ := f_2; omega
    have r_6 : 0 ≤ a1.toInt ∧ a1.toInt ≤ 3 := by have h9_ := (i32b a1); omega
    refine lv_aload_n F.1 F.2.1 dX6_stored_10 rfl (lv_at hl 0 rfl) ?_
    refine tVv (b := a0) (As := []) (rest := []) F hK hN hO (c_X6_look E rd tp kb Fa1 Fb1 Fa2 Fb2 Fa3 Fb3 Fa4 Fb4 kr ks Pd1 Pd2 Pd3 Pd4 Ps1 Ps2 Ps3 Ps4 Pi1 Pi2 Pi3 Pi4 t a0 ha0 (by omega) hFa1 hFb1 hFa2 hFb2 hFa3 hFb3 hFa4 hFb4 hkr hks hPd1 hPd2 hPd3 hPd4 hPs1 hPs2 hPs3 hPs4 hPi1 hPi2 hPi3 hPi4) mv_X6_look wd_42_9 ⟨Nat.le_of_ble_eq_true rfl, Nat.le_of_ble_eq_true rfl⟩ ⟨Nat.le_of_ble_eq_true rfl, Nat.le_of_ble_eq_true rfl⟩ hH hS (tRecv hK hH (tyb ha0 (all1 rfl)) clX6) rfl hl.1 (Nat.le_of_ble_eq_true rfl) dX6_stored_11 (fun H locs hq hS => ?_)
    have hH := hq
    have hH : TH E (tbC (dayD (.inl (0, 18))) (dayD (.inl (0, 18))) (riverD (.inl Fa1) (.inl Fb1) (.inl (0, 4)) 31 33 35 39 43 47) (riverD (.inl Fa2) (.inl Fb2) (.inl (0, 4)) 32 34 36 40 44 48) (rcD (.inl (t, t)) (.inr kr) (.inr ks) (.inl kb)) rd tp A14F A14F A4F A4F A14F A14F (riverD (.inl Fa3) (.inl Fb3) (.inl (0, 4)) 3 8 3 41 45 49) (riverD (.inl Fa4) (.inl Fb4) (.inl (0, 4)) 3 8 3 42 46 50) ((.inr (.inl (0, 12, Pd1)))) ((.inr (.inl (0, 12, Pd2)))) ((.inr (.inl (0, 12, Pd3)))) ((.inr (.inl (0, 12, Pd4)))) ((.inr (.inl (0, 12, Ps1)))) ((.inr (.inl (0, 12, Ps2)))) ((.inr (.inl (0, 12, Ps3)))) ((.inr (.inl (0, 12, Ps4)))) ((.inr (.inl (0, 48, Pi1)))) ((.inr (.inl (0, 48, Pi2)))) ((.inr (.inl (0, 48, Pi3)))) ((.inr (.inl (0, 48, Pi4))))) H := hH
    refine lv_iload_n F.1 F.2.1 dX6_stored_14 rfl (lv_at hl 2 rfl) ?_
    rcases (by omega : (a2.toInt < 0 ∨ 3 < a2.toInt) ∨ a2.toInt = 0 ∨ a2.toInt = 1 ∨ a2.toInt = 2 ∨ a2.toInt = 3) with w_9 | w_9 | w_9 | w_9 | w_9
    · skip
      refine tTabOut (tgt := 82) F dX6_stored_15 w_9 (by decide) ?_
      refine lv_iconst (v := (-1)) F.1 F.2.1 dX6_stored_82 (by decide) ?_
      refine topK (a := (-1)) (by decide) (fun k_10 hk_10 => ?_)
      exact txI F hS dX6_stored_83 rfl (⟨(wkb (eqb hk_10) rfl rfl), hH⟩)
    · skip
      refine tTabIn (off := 29) (tgt := 44) F dX6_stored_15 w_9 (by decide) (by decide) (by decide +kernel) (by decide) ?_
      refine lv_aload_n F.1 F.2.1 dX6_stored_44 rfl (lv_at hl 0 rfl) ?_
      refine tGetR (j := 11) F hK hH (tyb ha0 (all1 rfl)) rfl (all1 rfl) clX6 (by decide) wd_2_7 dX6_stored_45 (fun q_11 hq_11 _ => ?_)
      refine lv_iload_n F.1 F.2.1 dX6_stored_48 rfl (lv_at hl 1 rfl) ?_
      refine tVi (b := q_11) (As := [.int a1]) (rest := []) F hK hN hO (c_X0_filledInto E (rcD (.inl (t, t)) (.inr kr) (.inr ks) (.inl kb)) rd tp Fa1 Fb1 Fa2 Fb2 Fa3 Fb3 Fa4 Fb4 Pd1 Pd2 Pd3 Pd4 Ps1 Ps2 Ps3 Ps4 Pi1 Pi2 Pi3 Pi4 q_11 a1 (by have h9_ := hq_11; simp at h9_ ⊢; omega) r_6 hFa1 hFb1 hFa2 hFb2 hFa3 hFb3 hFa4 hFb4 hPd1 hPd2 hPd3 hPd4 hPs1 hPs2 hPs3 hPs4 hPi1 hPi2 hPi3 hPi4) mv_X0_filledInto wd_43_18 ⟨Nat.le_of_ble_eq_true rfl, Nat.le_of_ble_eq_true rfl⟩ ⟨Nat.le_of_ble_eq_true rfl, Nat.le_of_ble_eq_true rfl⟩ hH hS (tRecv hK hH (tyb hq_11 (all1 rfl)) clX0) rfl hl.1 (Nat.le_of_ble_eq_true rfl) dX6_stored_49 (fun z_12 H locs hq hS => ?_)
      obtain ⟨f_13, hH⟩ := hq
      have hH : TH E (tbC (dayD (.inl (0, 18))) (dayD (.inl (0, 18))) (riverD (.inl Fa1) (.inl Fb1) (.inl (0, 4)) 31 33 35 39 43 47) (riverD (.inl Fa2) (.inl Fb2) (.inl (0, 4)) 32 34 36 40 44 48) (rcD (.inl (t, t)) (.inr kr) (.inr ks) (.inl kb)) rd tp A14F A14F A4F A4F A14F A14F (riverD (.inl Fa3) (.inl Fb3) (.inl (0, 4)) 3 8 3 41 45 49) (riverD (.inl Fa4) (.inl Fb4) (.inl (0, 4)) 3 8 3 42 46 50) ((.inr (.inl (0, 12, Pd1)))) ((.inr (.inl (0, 12, Pd2)))) ((.inr (.inl (0, 12, Pd3)))) ((.inr (.inl (0, 12, Pd4)))) ((.inr (.inl (0, 12, Ps1)))) ((.inr (.inl (0, 12, Ps2)))) ((.inr (.inl (0, 12, Ps3)))) ((.inr (.inl (0, 12, Ps4)))) ((.inr (.inl (0, 48, Pi1)))) ((.inr (.inl (0, 48, Pi2)))) ((.inr (.inl (0, 48, Pi3)))) ((.inr (.inl (0, 48, Pi4))))) H := hH
      exact txI F hS dX6_stored_52 rfl (⟨f_13, hH⟩)
    · skip
      refine tTabIn (off := 38) (tgt := 53) F dX6_stored_15 w_9 (by decide) (by decide) (by decide +kernel) (by decide) ?_
      refine lv_aload_n F.1 F.2.1 dX6_stored_53 rfl (lv_at hl 0 rfl) ?_
      refine tGetR (j := 11) F hK hH (tyb ha0 (all1 rfl)) rfl (all1 rfl) clX6 (by decide) wd_2_7 dX6_stored_54 (fun q_14 hq_14 _ => ?_)
      refine tGetR (j := 11) F hK hH (tyb hq_14 (all1 rfl)) rfl (all1 rfl) clX0 (by decide) wd_43_16 dX6_stored_57 (fun q_15 hq_15 _ => ?_)
      refine lv_iload_n F.1 F.2.1 dX6_stored_60 rfl (lv_at hl 1 rfl) ?_
      refine tIaldB F hK hH (tyb hq_15 (all1 rfl)) (ixb (n := 4) r_6 rfl rfl) dX6_stored_61 (fun z_16 hz_16 => ?_)
      exact txI F hS dX6_stored_62 rfl (⟨hz_16, hH⟩)
    · skip
      refine tTabIn (off := 48) (tgt := 63) F dX6_stored_15 w_9 (by decide) (by decide) (by decide +kernel) (by decide) ?_
      refine lv_aload_n F.1 F.2.1 dX6_stored_63 rfl (lv_at hl 0 rfl) ?_
      refine tGetR (j := 11) F hK hH (tyb ha0 (all1 rfl)) rfl (all1 rfl) clX6 (by decide) wd_2_7 dX6_stored_64 (fun q_17 hq_17 _ => ?_)
      refine tGetR (j := 12) F hK hH (tyb hq_17 (all1 rfl)) rfl (all1 rfl) clX0 (by decide) wd_43_17 dX6_stored_67 (fun q_18 hq_18 _ => ?_)
      refine lv_iload_n F.1 F.2.1 dX6_stored_70 rfl (lv_at hl 1 rfl) ?_
      refine tIaldB F hK hH (tyb hq_18 (all1 rfl)) (ixb (n := 4) r_6 rfl rfl) dX6_stored_71 (fun z_19 hz_19 => ?_)
      exact txI F hS dX6_stored_72 rfl (⟨hz_19, hH⟩)
    · skip
      refine tTabIn (off := 58) (tgt := 73) F dX6_stored_15 w_9 (by decide) (by decide) (by decide +kernel) (by decide) ?_
      refine lv_aload_n F.1 F.2.1 dX6_stored_73 rfl (lv_at hl 0 rfl) ?_
      refine tGetR (j := 11) F hK hH (tyb ha0 (all1 rfl)) rfl (all1 rfl) clX6 (by decide) wd_2_7 dX6_stored_74 (fun q_20 hq_20 _ => ?_)
      refine lv_iload_n F.1 F.2.1 dX6_stored_77 rfl (lv_at hl 1 rfl) ?_
      refine tVi (b := q_20) (As := [.int a1]) (rest := []) F hK hN hO (c_X0_contentBehind E (rcD (.inl (t, t)) (.inr kr) (.inr ks) (.inl kb)) rd tp Fa1 Fb1 Fa2 Fb2 Fa3 Fb3 Fa4 Fb4 Pd1 Pd2 Pd3 Pd4 Ps1 Ps2 Ps3 Ps4 Pi1 Pi2 Pi3 Pi4 q_20 a1 (by have h9_ := hq_20; simp at h9_ ⊢; omega) r_6 hFa1 hFb1 hFa2 hFb2 hFa3 hFb3 hFa4 hFb4 hPd1 hPd2 hPd3 hPd4 hPs1 hPs2 hPs3 hPs4 hPi1 hPi2 hPi3 hPi4) mv_X0_contentBehind wd_43_19 ⟨Nat.le_of_ble_eq_true rfl, Nat.le_of_ble_eq_true rfl⟩ ⟨Nat.le_of_ble_eq_true rfl, Nat.le_of_ble_eq_true rfl⟩ hH hS (tRecv hK hH (tyb hq_20 (all1 rfl)) clX0) rfl hl.1 (Nat.le_of_ble_eq_true rfl) dX6_stored_78 (fun z_21 H locs hq hS => ?_)
      obtain ⟨f_22, hH⟩ := hq
      have hH : TH E (tbC (dayD (.inl (0, 18))) (dayD (.inl (0, 18))) (riverD (.inl Fa1) (.inl Fb1) (.inl (0, 4)) 31 33 35 39 43 47) (riverD (.inl Fa2) (.inl Fb2) (.inl (0, 4)) 32 34 36 40 44 48) (rcD (.inl (t, t)) (.inr kr) (.inr ks) (.inl kb)) rd tp A14F A14F A4F A4F A14F A14F (riverD (.inl Fa3) (.inl Fb3) (.inl (0, 4)) 3 8 3 41 45 49) (riverD (.inl Fa4) (.inl Fb4) (.inl (0, 4)) 3 8 3 42 46 50) ((.inr (.inl (0, 12, Pd1)))) ((.inr (.inl (0, 12, Pd2)))) ((.inr (.inl (0, 12, Pd3)))) ((.inr (.inl (0, 12, Pd4)))) ((.inr (.inl (0, 12, Ps1)))) ((.inr (.inl (0, 12, Ps2)))) ((.inr (.inl (0, 12, Ps3)))) ((.inr (.inl (0, 12, Ps4)))) ((.inr (.inl (0, 48, Pi1)))) ((.inr (.inl (0, 48, Pi2)))) ((.inr (.inl (0, 48, Pi3)))) ((.inr (.inl (0, 48, Pi4))))) H := hH
      exact txI F hS dX6_stored_81 rfl (⟨f_22, hH⟩)
  · skip
    have r_7 : 0 ≤ z_1.toInt ∧ z_1.toInt ≤ 0 := by have h9_ := f_2; omega
    refine lv_iconst (v := (-1)) F.1 F.2.1 dX6_stored_8 (by decide) ?_
    refine topK (a := (-1)) (by decide) (fun k_23 hk_23 => ?_)
    exact txI F hS dX6_stored_9 rfl (⟨(wkb (eqb hk_23) rfl rfl), hH⟩)
set_option maxHeartbeats 4000000 in
set_option maxRecDepth 100000 in
theorem c_X6_shut (E : Ev) (rd : TD) (tp : TD) (kb : Int × Int) (Fa1 : Int × Int) (Fb1 : Int × Int) (Fa2 : Int × Int) (Fb2 : Int × Int) (Fa3 : Int × Int) (Fb3 : Int × Int) (Fa4 : Int × Int) (Fb4 : Int × Int) (kr : List Nat) (ks : List Nat) (Pd1 : (Nat → Int32) → Prop) (Pd2 : (Nat → Int32) → Prop) (Pd3 : (Nat → Int32) → Prop) (Pd4 : (Nat → Int32) → Prop) (Ps1 : (Nat → Int32) → Prop) (Ps2 : (Nat → Int32) → Prop) (Ps3 : (Nat → Int32) → Prop) (Ps4 : (Nat → Int32) → Prop) (Pi1 : (Nat → Int32) → Prop) (Pi2 : (Nat → Int32) → Prop) (Pi3 : (Nat → Int32) → Prop) (Pi4 : (Nat → Int32) → Prop) (t : Int) (a0 : Nat) (a1 : Int32) (ha0 : eT E a0 ∈ [28]) (ht : 0 ≤ t ∧ t ≤ 400) (hFa1 : 0 ≤ Fa1.1 ∧ Fa1.2 ≤ 12) (hFb1 : 0 ≤ Fb1.1 ∧ Fb1.2 ≤ 14) (hFa2 : 0 ≤ Fa2.1 ∧ Fa2.2 ≤ 12) (hFb2 : 0 ≤ Fb2.1 ∧ Fb2.2 ≤ 14) (hFa3 : 0 ≤ Fa3.1 ∧ Fa3.2 ≤ 12) (hFb3 : 0 ≤ Fb3.1 ∧ Fb3.2 ≤ 14) (hFa4 : 0 ≤ Fa4.1 ∧ Fa4.2 ≤ 12) (hFb4 : 0 ≤ Fb4.1 ∧ Fb4.2 ≤ 14) (hkr : ∀ t ∈ kr, t ∈ [26, 27]) (hks : ∀ t ∈ ks, t ∈ [26, 27]) (hPd1 : ∀ f, Pd1 f → ivP 12 (-2) 11 f) (hPd2 : ∀ f, Pd2 f → ivP 12 (-2) 11 f) (hPd3 : ∀ f, Pd3 f → ivP 12 (-2) 11 f) (hPd4 : ∀ f, Pd4 f → ivP 12 (-2) 11 f) (hPs1 : ∀ f, Ps1 f → ivP 12 (-2147483648) 2147483647 f) (hPs2 : ∀ f, Ps2 f → ivP 12 (-2147483648) 2147483647 f) (hPs3 : ∀ f, Ps3 f → ivP 12 (-2147483648) 2147483647 f) (hPs4 : ∀ f, Ps4 f → ivP 12 (-2147483648) 2147483647 f) (hPi1 : ∀ f, Pi1 f → ivP 48 (-2147483648) 2147483647 f) (hPi2 : ∀ f, Pi2 f → ivP 48 (-2147483648) 2147483647 f) (hPi3 : ∀ f, Pi3 f → ivP 48 (-2147483648) 2147483647 f) (hPi4 : ∀ f, Pi4 f → ivP 48 (-2147483648) 2147483647 f) : TcI E yX6_shut cX6_shut 3 .int ({ frames := 6, cells := 0, slots := 0, locals := 159 }) [.ref a0, .int a1] (fun H => TH E (tbC (dayD (.inl (0, 18))) (dayD (.inl (0, 18))) (riverD (.inl Fa1) (.inl Fb1) (.inl (0, 4)) 31 33 35 39 43 47) (riverD (.inl Fa2) (.inl Fb2) (.inl (0, 4)) 32 34 36 40 44 48) (rcD (.inl (t, t)) (.inr kr) (.inr ks) (.inl kb)) rd tp A14F A14F A4F A4F A14F A14F (riverD (.inl Fa3) (.inl Fb3) (.inl (0, 4)) 3 8 3 41 45 49) (riverD (.inl Fa4) (.inl Fb4) (.inl (0, 4)) 3 8 3 42 46 50) ((.inr (.inl (0, 12, Pd1)))) ((.inr (.inl (0, 12, Pd2)))) ((.inr (.inl (0, 12, Pd3)))) ((.inr (.inl (0, 12, Pd4)))) ((.inr (.inl (0, 12, Ps1)))) ((.inr (.inl (0, 12, Ps2)))) ((.inr (.inl (0, 12, Ps3)))) ((.inr (.inl (0, 12, Ps4)))) ((.inr (.inl (0, 48, Pi1)))) ((.inr (.inl (0, 48, Pi2)))) ((.inr (.inl (0, 48, Pi3)))) ((.inr (.inl (0, 48, Pi4))))) H) (fun v H => ((-2147483648) ≤ v.toInt ∧ v.toInt ≤ 2147483647) ∧ TH E (tbC (dayD (.inl (0, 18))) (dayD (.inl (0, 18))) (riverD (.inl Fa1) (.inl Fb1) (.inl (0, 4)) 31 33 35 39 43 47) (riverD (.inl Fa2) (.inl Fb2) (.inl (0, 4)) 32 34 36 40 44 48) (rcD (.inl (t, t)) (.inr kr) (.inr ks) (.inl kb)) rd tp A14F A14F A4F A4F A14F A14F (riverD (.inl Fa3) (.inl Fb3) (.inl (0, 4)) 3 8 3 41 45 49) (riverD (.inl Fa4) (.inl Fb4) (.inl (0, 4)) 3 8 3 42 46 50) ((.inr (.inl (0, 12, Pd1)))) ((.inr (.inl (0, 12, Pd2)))) ((.inr (.inl (0, 12, Pd3)))) ((.inr (.inl (0, 12, Pd4)))) ((.inr (.inl (0, 12, Ps1)))) ((.inr (.inl (0, 12, Ps2)))) ((.inr (.inl (0, 12, Ps3)))) ((.inr (.inl (0, 12, Ps4)))) ((.inr (.inl (0, 48, Pi1)))) ((.inr (.inl (0, 48, Pi2)))) ((.inr (.inl (0, 48, Pi3)))) ((.inr (.inl (0, 48, Pi4))))) H) := by
  refine teI (by decide) (Nat.le_of_ble_eq_true rfl) ?_
  intro p_ ev_ s mi_ below_ meth cd_ ls F hK hN hO hH hS hl
  have hH : TH E (tbC (dayD (.inl (0, 18))) (dayD (.inl (0, 18))) (riverD (.inl Fa1) (.inl Fb1) (.inl (0, 4)) 31 33 35 39 43 47) (riverD (.inl Fa2) (.inl Fb2) (.inl (0, 4)) 32 34 36 40 44 48) (rcD (.inl (t, t)) (.inr kr) (.inr ks) (.inl kb)) rd tp A14F A14F A4F A4F A14F A14F (riverD (.inl Fa3) (.inl Fb3) (.inl (0, 4)) 3 8 3 41 45 49) (riverD (.inl Fa4) (.inl Fb4) (.inl (0, 4)) 3 8 3 42 46 50) ((.inr (.inl (0, 12, Pd1)))) ((.inr (.inl (0, 12, Pd2)))) ((.inr (.inl (0, 12, Pd3)))) ((.inr (.inl (0, 12, Pd4)))) ((.inr (.inl (0, 12, Ps1)))) ((.inr (.inl (0, 12, Ps2)))) ((.inr (.inl (0, 12, Ps3)))) ((.inr (.inl (0, 12, Ps4)))) ((.inr (.inl (0, 48, Pi1)))) ((.inr (.inl (0, 48, Pi2)))) ((.inr (.inl (0, 48, Pi3)))) ((.inr (.inl (0, 48, Pi4))))) s.heap := hH
  have hl : lv_has ls 3 [(0, .ref a0), (1, .int a1)] := hl
  refine lv_aload_n F.1 F.2.1 dX6_shut_0 rfl (lv_at hl 0 rfl) ?_
  refine lv_iload_n F.1 F.2.1 dX6_shut_1 rfl (lv_at hl 1 rfl) ?_
  refine tVi (b := a0) (As := [.int a1]) (rest := []) F hK hN hO (c_X6_isRight E rd tp kb Fa1 Fb1 Fa2 Fb2 Fa3 Fb3 Fa4 Fb4 kr ks Pd1 Pd2 Pd3 Pd4 Ps1 Ps2 Ps3 Ps4 Pi1 Pi2 Pi3 Pi4 t a0 a1 ha0 (by omega) hFa1 hFb1 hFa2 hFb2 hFa3 hFb3 hFa4 hFb4 hkr hks hPd1 hPd2 hPd3 hPd4 hPs1 hPs2 hPs3 hPs4 hPi1 hPi2 hPi3 hPi4) mv_X6_isRight wd_31_10 ⟨Nat.le_of_ble_eq_true rfl, Nat.le_of_ble_eq_true rfl⟩ ⟨Nat.le_of_ble_eq_true rfl, Nat.le_of_ble_eq_true rfl⟩ hH hS (tRecv hK hH (tyb ha0 (all1 rfl)) clX6) rfl hl.1 (Nat.le_of_ble_eq_true rfl) dX6_shut_2 (fun z_1 H locs hq hS => ?_)
  obtain ⟨f_2, f_3, hH⟩ := hq
  have hH : TH E (tbC (dayD (.inl (0, 18))) (dayD (.inl (0, 18))) (riverD (.inl Fa1) (.inl Fb1) (.inl (0, 4)) 31 33 35 39 43 47) (riverD (.inl Fa2) (.inl Fb2) (.inl (0, 4)) 32 34 36 40 44 48) (rcD (.inl (t, t)) (.inr kr) (.inr ks) (.inl kb)) rd tp A14F A14F A4F A4F A14F A14F (riverD (.inl Fa3) (.inl Fb3) (.inl (0, 4)) 3 8 3 41 45 49) (riverD (.inl Fa4) (.inl Fb4) (.inl (0, 4)) 3 8 3 42 46 50) ((.inr (.inl (0, 12, Pd1)))) ((.inr (.inl (0, 12, Pd2)))) ((.inr (.inl (0, 12, Pd3)))) ((.inr (.inl (0, 12, Pd4)))) ((.inr (.inl (0, 12, Ps1)))) ((.inr (.inl (0, 12, Ps2)))) ((.inr (.inl (0, 12, Ps3)))) ((.inr (.inl (0, 12, Ps4)))) ((.inr (.inl (0, 48, Pi1)))) ((.inr (.inl (0, 48, Pi2)))) ((.inr (.inl (0, 48, Pi3)))) ((.inr (.inl (0, 48, Pi4))))) H := hH
  refine z_ne (tgt := 10) F dX6_shut_5 (by decide) (fun c_4 => ?_) (fun c_4 => ?_)
  · skip
    have r_5 : 1 ≤ z_1.toInt ∧ z_1.toInt ≤ 1 := by have h9_ := f_2; omega
    have r_6 : 0 ≤ a1.toInt ∧ a1.toInt ≤ 13 := by have h9_ := (i32b a1); omega
    refine lv_aload_n F.1 F.2.1 dX6_shut_10 rfl (lv_at hl 0 rfl) ?_
    refine tVv (b := a0) (As := []) (rest := []) F hK hN hO (c_X6_look E rd tp kb Fa1 Fb1 Fa2 Fb2 Fa3 Fb3 Fa4 Fb4 kr ks Pd1 Pd2 Pd3 Pd4 Ps1 Ps2 Ps3 Ps4 Pi1 Pi2 Pi3 Pi4 t a0 ha0 (by omega) hFa1 hFb1 hFa2 hFb2 hFa3 hFb3 hFa4 hFb4 hkr hks hPd1 hPd2 hPd3 hPd4 hPs1 hPs2 hPs3 hPs4 hPi1 hPi2 hPi3 hPi4) mv_X6_look wd_42_9 ⟨Nat.le_of_ble_eq_true rfl, Nat.le_of_ble_eq_true rfl⟩ ⟨Nat.le_of_ble_eq_true rfl, Nat.le_of_ble_eq_true rfl⟩ hH hS (tRecv hK hH (tyb ha0 (all1 rfl)) clX6) rfl hl.1 (Nat.le_of_ble_eq_true rfl) dX6_shut_11 (fun H locs hq hS => ?_)
    have hH := hq
    have hH : TH E (tbC (dayD (.inl (0, 18))) (dayD (.inl (0, 18))) (riverD (.inl Fa1) (.inl Fb1) (.inl (0, 4)) 31 33 35 39 43 47) (riverD (.inl Fa2) (.inl Fb2) (.inl (0, 4)) 32 34 36 40 44 48) (rcD (.inl (t, t)) (.inr kr) (.inr ks) (.inl kb)) rd tp A14F A14F A4F A4F A14F A14F (riverD (.inl Fa3) (.inl Fb3) (.inl (0, 4)) 3 8 3 41 45 49) (riverD (.inl Fa4) (.inl Fb4) (.inl (0, 4)) 3 8 3 42 46 50) ((.inr (.inl (0, 12, Pd1)))) ((.inr (.inl (0, 12, Pd2)))) ((.inr (.inl (0, 12, Pd3)))) ((.inr (.inl (0, 12, Pd4)))) ((.inr (.inl (0, 12, Ps1)))) ((.inr (.inl (0, 12, Ps2)))) ((.inr (.inl (0, 12, Ps3)))) ((.inr (.inl (0, 12, Ps4)))) ((.inr (.inl (0, 48, Pi1)))) ((.inr (.inl (0, 48, Pi2)))) ((.inr (.inl (0, 48, Pi3)))) ((.inr (.inl (0, 48, Pi4))))) H := hH
    refine lv_aload_n F.1 F.2.1 dX6_shut_14 rfl (lv_at hl 0 rfl) ?_
    refine tGetR (j := 11) F hK hH (tyb ha0 (all1 rfl)) rfl (all1 rfl) clX6 (by decide) wd_2_7 dX6_shut_15 (fun q_9 hq_9 _ => ?_)
    refine tGetR (j := 8) F hK hH (tyb hq_9 (all1 rfl)) rfl (all1 rfl) clX0 (by decide) wd_43_3 dX6_shut_18 (fun q_10 hq_10 _ => ?_)
    refine lv_iload_n F.1 F.2.1 dX6_shut_21 rfl (lv_at hl 1 rfl) ?_
    refine tIaldB F hK hH (tyb hq_10 (all1 rfl)) (ixb (n := 18) r_6 rfl rfl) dX6_shut_22 (fun z_11 hz_11 => ?_)
    refine lv_istore_n (lv' := [(2, .int z_11), (0, .ref a0), (1, .int a1)]) F.1 F.2.1 dX6_shut_23 rfl hl (by decide) rfl (fun ls hl => ?_)
    refine lv_aload_n F.1 F.2.1 dX6_shut_24 rfl (lv_at hl 1 rfl) ?_
    refine tGetR (j := 11) F hK hH (tyb ha0 (all1 rfl)) rfl (all1 rfl) clX6 (by decide) wd_2_7 dX6_shut_25 (fun q_12 hq_12 _ => ?_)
    refine lv_iload_n F.1 F.2.1 dX6_shut_28 rfl (lv_at hl 2 rfl) ?_
    refine tVi (b := q_12) (As := [.int a1]) (rest := []) F hK hN hO (c_X0_mostAlone E (rcD (.inl (t, t)) (.inr kr) (.inr ks) (.inl kb)) rd tp Fa1 Fb1 Fa2 Fb2 Fa3 Fb3 Fa4 Fb4 Pd1 Pd2 Pd3 Pd4 Ps1 Ps2 Ps3 Ps4 Pi1 Pi2 Pi3 Pi4 q_12 a1 (by have h9_ := hq_12; simp at h9_ ⊢; omega) r_6 hFa1 hFb1 hFa2 hFb2 hFa3 hFb3 hFa4 hFb4 hPd1 hPd2 hPd3 hPd4 hPs1 hPs2 hPs3 hPs4 hPi1 hPi2 hPi3 hPi4) mv_X0_mostAlone wd_44_4 ⟨Nat.le_of_ble_eq_true rfl, Nat.le_of_ble_eq_true rfl⟩ ⟨Nat.le_of_ble_eq_true rfl, Nat.le_of_ble_eq_true rfl⟩ hH hS (tRecv hK hH (tyb hq_12 (all1 rfl)) clX0) rfl hl.1 (Nat.le_of_ble_eq_true rfl) dX6_shut_29 (fun z_13 H locs hq hS => ?_)
    obtain ⟨f_14, hH⟩ := hq
    have hH : TH E (tbC (dayD (.inl (0, 18))) (dayD (.inl (0, 18))) (riverD (.inl Fa1) (.inl Fb1) (.inl (0, 4)) 31 33 35 39 43 47) (riverD (.inl Fa2) (.inl Fb2) (.inl (0, 4)) 32 34 36 40 44 48) (rcD (.inl (t, t)) (.inr kr) (.inr ks) (.inl kb)) rd tp A14F A14F A4F A4F A14F A14F (riverD (.inl Fa3) (.inl Fb3) (.inl (0, 4)) 3 8 3 41 45 49) (riverD (.inl Fa4) (.inl Fb4) (.inl (0, 4)) 3 8 3 42 46 50) ((.inr (.inl (0, 12, Pd1)))) ((.inr (.inl (0, 12, Pd2)))) ((.inr (.inl (0, 12, Pd3)))) ((.inr (.inl (0, 12, Pd4)))) ((.inr (.inl (0, 12, Ps1)))) ((.inr (.inl (0, 12, Ps2)))) ((.inr (.inl (0, 12, Ps3)))) ((.inr (.inl (0, 12, Ps4)))) ((.inr (.inl (0, 48, Pi1)))) ((.inr (.inl (0, 48, Pi2)))) ((.inr (.inl (0, 48, Pi3)))) ((.inr (.inl (0, 48, Pi4))))) H := hH
    refine lv_iload_n F.1 F.2.1 dX6_shut_32 rfl (lv_at hl 0 rfl) ?_
    refine lv_isub F.1 F.2.1 dX6_shut_33 ?_
    refine topF (fun z_15 => ?_)
    exact txI F hS dX6_shut_34 rfl (⟨(i32b _), hH⟩)
  · skip
    have r_7 : 0 ≤ z_1.toInt ∧ z_1.toInt ≤ 0 := by have h9_ := f_2; omega
    refine lv_iconst (v := (-1)) F.1 F.2.1 dX6_shut_8 (by decide) ?_
    refine topK (a := (-1)) (by decide) (fun k_16 hk_16 => ?_)
    exact txI F hS dX6_shut_9 rfl (⟨(wkb (eqb hk_16) rfl rfl), hH⟩)
set_option maxHeartbeats 4000000 in
set_option maxRecDepth 100000 in
theorem c_X6_caller (E : Ev) (rd : TD) (tp : TD) (kb : Int × Int) (Fa1 : Int × Int) (Fb1 : Int × Int) (Fa2 : Int × Int) (Fb2 : Int × Int) (Fa3 : Int × Int) (Fb3 : Int × Int) (Fa4 : Int × Int) (Fb4 : Int × Int) (kr : List Nat) (ks : List Nat) (Pd1 : (Nat → Int32) → Prop) (Pd2 : (Nat → Int32) → Prop) (Pd3 : (Nat → Int32) → Prop) (Pd4 : (Nat → Int32) → Prop) (Ps1 : (Nat → Int32) → Prop) (Ps2 : (Nat → Int32) → Prop) (Ps3 : (Nat → Int32) → Prop) (Ps4 : (Nat → Int32) → Prop) (Pi1 : (Nat → Int32) → Prop) (Pi2 : (Nat → Int32) → Prop) (Pi3 : (Nat → Int32) → Prop) (Pi4 : (Nat → Int32) → Prop) (t : Int) (a0 : Nat) (a1 : Int32) (ha0 : eT E a0 ∈ [28]) (ht : 0 ≤ t ∧ t ≤ 400) (hFa1 : 0 ≤ Fa1.1 ∧ Fa1.2 ≤ 12) (hFb1 : 0 ≤ Fb1.1 ∧ Fb1.2 ≤ 14) (hFa2 : 0 ≤ Fa2.1 ∧ Fa2.2 ≤ 12) (hFb2 : 0 ≤ Fb2.1 ∧ Fb2.2 ≤ 14) (hFa3 : 0 ≤ Fa3.1 ∧ Fa3.2 ≤ 12) (hFb3 : 0 ≤ Fb3.1 ∧ Fb3.2 ≤ 14) (hFa4 : 0 ≤ Fa4.1 ∧ Fa4.2 ≤ 12) (hFb4 : 0 ≤ Fb4.1 ∧ Fb4.2 ≤ 14) (hkr : ∀ t ∈ kr, t ∈ [26, 27]) (hks : ∀ t ∈ ks, t ∈ [26, 27]) (hPd1 : ∀ f, Pd1 f → ivP 12 (-2) 11 f) (hPd2 : ∀ f, Pd2 f → ivP 12 (-2) 11 f) (hPd3 : ∀ f, Pd3 f → ivP 12 (-2) 11 f) (hPd4 : ∀ f, Pd4 f → ivP 12 (-2) 11 f) (hPs1 : ∀ f, Ps1 f → ivP 12 (-2147483648) 2147483647 f) (hPs2 : ∀ f, Ps2 f → ivP 12 (-2147483648) 2147483647 f) (hPs3 : ∀ f, Ps3 f → ivP 12 (-2147483648) 2147483647 f) (hPs4 : ∀ f, Ps4 f → ivP 12 (-2147483648) 2147483647 f) (hPi1 : ∀ f, Pi1 f → ivP 48 (-2147483648) 2147483647 f) (hPi2 : ∀ f, Pi2 f → ivP 48 (-2147483648) 2147483647 f) (hPi3 : ∀ f, Pi3 f → ivP 48 (-2147483648) 2147483647 f) (hPi4 : ∀ f, Pi4 f → ivP 48 (-2147483648) 2147483647 f) : TcI E yX6_caller cX6_caller 5 .int ({ frames := 6, cells := 0, slots := 0, locals := 159 }) [.ref a0, .int a1] (fun H => TH E (tbC (dayD (.inl (0, 18))) (dayD (.inl (0, 18))) (riverD (.inl Fa1) (.inl Fb1) (.inl (0, 4)) 31 33 35 39 43 47) (riverD (.inl Fa2) (.inl Fb2) (.inl (0, 4)) 32 34 36 40 44 48) (rcD (.inl (t, t)) (.inr kr) (.inr ks) (.inl kb)) rd tp A14F A14F A4F A4F A14F A14F (riverD (.inl Fa3) (.inl Fb3) (.inl (0, 4)) 3 8 3 41 45 49) (riverD (.inl Fa4) (.inl Fb4) (.inl (0, 4)) 3 8 3 42 46 50) ((.inr (.inl (0, 12, Pd1)))) ((.inr (.inl (0, 12, Pd2)))) ((.inr (.inl (0, 12, Pd3)))) ((.inr (.inl (0, 12, Pd4)))) ((.inr (.inl (0, 12, Ps1)))) ((.inr (.inl (0, 12, Ps2)))) ((.inr (.inl (0, 12, Ps3)))) ((.inr (.inl (0, 12, Ps4)))) ((.inr (.inl (0, 48, Pi1)))) ((.inr (.inl (0, 48, Pi2)))) ((.inr (.inl (0, 48, Pi3)))) ((.inr (.inl (0, 48, Pi4))))) H) (fun v H => ((-2147483648) ≤ v.toInt ∧ v.toInt ≤ 2147483647) ∧ TH E (tbC (dayD (.inl (0, 18))) (dayD (.inl (0, 18))) (riverD (.inl Fa1) (.inl Fb1) (.inl (0, 4)) 31 33 35 39 43 47) (riverD (.inl Fa2) (.inl Fb2) (.inl (0, 4)) 32 34 36 40 44 48) (rcD (.inl (t, t)) (.inr kr) (.inr ks) (.inl kb)) rd tp A14F A14F A4F A4F A14F A14F (riverD (.inl Fa3) (.inl Fb3) (.inl (0, 4)) 3 8 3 41 45 49) (riverD (.inl Fa4) (.inl Fb4) (.inl (0, 4)) 3 8 3 42 46 50) ((.inr (.inl (0, 12, Pd1)))) ((.inr (.inl (0, 12, Pd2)))) ((.inr (.inl (0, 12, Pd3)))) ((.inr (.inl (0, 12, Pd4)))) ((.inr (.inl (0, 12, Ps1)))) ((.inr (.inl (0, 12, Ps2)))) ((.inr (.inl (0, 12, Ps3)))) ((.inr (.inl (0, 12, Ps4)))) ((.inr (.inl (0, 48, Pi1)))) ((.inr (.inl (0, 48, Pi2)))) ((.inr (.inl (0, 48, Pi3)))) ((.inr (.inl (0, 48, Pi4))))) H) := by
  refine teI (by decide) (Nat.le_of_ble_eq_true rfl) ?_
  intro p_ ev_ s mi_ below_ meth cd_ ls F hK hN hO hH hS hl
  have hH : TH E (tbC (dayD (.inl (0, 18))) (dayD (.inl (0, 18))) (riverD (.inl Fa1) (.inl Fb1) (.inl (0, 4)) 31 33 35 39 43 47) (riverD (.inl Fa2) (.inl Fb2) (.inl (0, 4)) 32 34 36 40 44 48) (rcD (.inl (t, t)) (.inr kr) (.inr ks) (.inl kb)) rd tp A14F A14F A4F A4F A14F A14F (riverD (.inl Fa3) (.inl Fb3) (.inl (0, 4)) 3 8 3 41 45 49) (riverD (.inl Fa4) (.inl Fb4) (.inl (0, 4)) 3 8 3 42 46 50) ((.inr (.inl (0, 12, Pd1)))) ((.inr (.inl (0, 12, Pd2)))) ((.inr (.inl (0, 12, Pd3)))) ((.inr (.inl (0, 12, Pd4)))) ((.inr (.inl (0, 12, Ps1)))) ((.inr (.inl (0, 12, Ps2)))) ((.inr (.inl (0, 12, Ps3)))) ((.inr (.inl (0, 12, Ps4)))) ((.inr (.inl (0, 48, Pi1)))) ((.inr (.inl (0, 48, Pi2)))) ((.inr (.inl (0, 48, Pi3)))) ((.inr (.inl (0, 48, Pi4))))) s.heap := hH
  have hl : lv_has ls 5 [(0, .ref a0), (1, .int a1)] := hl
  refine lv_aload_n F.1 F.2.1 dX6_caller_0 rfl (lv_at hl 0 rfl) ?_
  refine lv_iload_n F.1 F.2.1 dX6_caller_1 rfl (lv_at hl 1 rfl) ?_
  refine tVi (b := a0) (As := [.int a1]) (rest := []) F hK hN hO (c_X6_isRight E rd tp kb Fa1 Fb1 Fa2 Fb2 Fa3 Fb3 Fa4 Fb4 kr ks Pd1 Pd2 Pd3 Pd4 Ps1 Ps2 Ps3 Ps4 Pi1 Pi2 Pi3 Pi4 t a0 a1 ha0 (by omega) hFa1 hFb1 hFa2 hFb2 hFa3 hFb3 hFa4 hFb4 hkr hks hPd1 hPd2 hPd3 hPd4 hPs1 hPs2 hPs3 hPs4 hPi1 hPi2 hPi3 hPi4) mv_X6_isRight wd_31_10 ⟨Nat.le_of_ble_eq_true rfl, Nat.le_of_ble_eq_true rfl⟩ ⟨Nat.le_of_ble_eq_true rfl, Nat.le_of_ble_eq_true rfl⟩ hH hS (tRecv hK hH (tyb ha0 (all1 rfl)) clX6) rfl hl.1 (Nat.le_of_ble_eq_true rfl) dX6_caller_2 (fun z_1 H locs hq hS => ?_)
  obtain ⟨f_2, f_3, hH⟩ := hq
  have hH : TH E (tbC (dayD (.inl (0, 18))) (dayD (.inl (0, 18))) (riverD (.inl Fa1) (.inl Fb1) (.inl (0, 4)) 31 33 35 39 43 47) (riverD (.inl Fa2) (.inl Fb2) (.inl (0, 4)) 32 34 36 40 44 48) (rcD (.inl (t, t)) (.inr kr) (.inr ks) (.inl kb)) rd tp A14F A14F A4F A4F A14F A14F (riverD (.inl Fa3) (.inl Fb3) (.inl (0, 4)) 3 8 3 41 45 49) (riverD (.inl Fa4) (.inl Fb4) (.inl (0, 4)) 3 8 3 42 46 50) ((.inr (.inl (0, 12, Pd1)))) ((.inr (.inl (0, 12, Pd2)))) ((.inr (.inl (0, 12, Pd3)))) ((.inr (.inl (0, 12, Pd4)))) ((.inr (.inl (0, 12, Ps1)))) ((.inr (.inl (0, 12, Ps2)))) ((.inr (.inl (0, 12, Ps3)))) ((.inr (.inl (0, 12, Ps4)))) ((.inr (.inl (0, 48, Pi1)))) ((.inr (.inl (0, 48, Pi2)))) ((.inr (.inl (0, 48, Pi3)))) ((.inr (.inl (0, 48, Pi4))))) H := hH
  refine z_ne (tgt := 10) F dX6_caller_5 (by decide) (fun c_4 => ?_) (fun c_4 => ?_)
  · skip
    have r_5 : 1 ≤ z_1.toInt ∧ z_1.toInt ≤ 1 := by have h9_ := f_2; omega
    have r_6 : 0 ≤ a1.toInt ∧ a1.toInt ≤ 13 := by have h9_ := (i32b a1); omega
    refine lv_aload_n F.1 F.2.1 dX6_caller_10 rfl (lv_at hl 0 rfl) ?_
    refine tVv (b := a0) (As := []) (rest := []) F hK hN hO (c_X6_look E rd tp kb Fa1 Fb1 Fa2 Fb2 Fa3 Fb3 Fa4 Fb4 kr ks Pd1 Pd2 Pd3 Pd4 Ps1 Ps2 Ps3 Ps4 Pi1 Pi2 Pi3 Pi4 t a0 ha0 (by omega) hFa1 hFb1 hFa2 hFb2 hFa3 hFb3 hFa4 hFb4 hkr hks hPd1 hPd2 hPd3 hPd4 hPs1 hPs2 hPs3 hPs4 hPi1 hPi2 hPi3 hPi4) mv_X6_look wd_42_9 ⟨Nat.le_of_ble_eq_true rfl, Nat.le_of_ble_eq_true rfl⟩ ⟨Nat.le_of_ble_eq_true rfl, Nat.le_of_ble_eq_true rfl⟩ hH hS (tRecv hK hH (tyb ha0 (all1 rfl)) clX6) rfl hl.1 (Nat.le_of_ble_eq_true rfl) dX6_caller_11 (fun H locs hq hS => ?_)
    have hH := hq
    have hH : TH E (tbC (dayD (.inl (0, 18))) (dayD (.inl (0, 18))) (riverD (.inl Fa1) (.inl Fb1) (.inl (0, 4)) 31 33 35 39 43 47) (riverD (.inl Fa2) (.inl Fb2) (.inl (0, 4)) 32 34 36 40 44 48) (rcD (.inl (t, t)) (.inr kr) (.inr ks) (.inl kb)) rd tp A14F A14F A4F A4F A14F A14F (riverD (.inl Fa3) (.inl Fb3) (.inl (0, 4)) 3 8 3 41 45 49) (riverD (.inl Fa4) (.inl Fb4) (.inl (0, 4)) 3 8 3 42 46 50) ((.inr (.inl (0, 12, Pd1)))) ((.inr (.inl (0, 12, Pd2)))) ((.inr (.inl (0, 12, Pd3)))) ((.inr (.inl (0, 12, Pd4)))) ((.inr (.inl (0, 12, Ps1)))) ((.inr (.inl (0, 12, Ps2)))) ((.inr (.inl (0, 12, Ps3)))) ((.inr (.inl (0, 12, Ps4)))) ((.inr (.inl (0, 48, Pi1)))) ((.inr (.inl (0, 48, Pi2)))) ((.inr (.inl (0, 48, Pi3)))) ((.inr (.inl (0, 48, Pi4))))) H := hH
    refine lv_aload_n F.1 F.2.1 dX6_caller_14 rfl (lv_at hl 0 rfl) ?_
    refine tGetR (j := 11) F hK hH (tyb ha0 (all1 rfl)) rfl (all1 rfl) clX6 (by decide) wd_2_7 dX6_caller_15 (fun q_9 hq_9 _ => ?_)
    refine tGetR (j := 8) F hK hH (tyb hq_9 (all1 rfl)) rfl (all1 rfl) clX0 (by decide) wd_43_3 dX6_caller_18 (fun q_10 hq_10 _ => ?_)
    refine lv_iload_n F.1 F.2.1 dX6_caller_21 rfl (lv_at hl 1 rfl) ?_
    refine tIaldB F hK hH (tyb hq_10 (all1 rfl)) (ixb (n := 18) r_6 rfl rfl) dX6_caller_22 (fun z_11 hz_11 => ?_)
    refine lv_istore_n (lv' := [(2, .int z_11), (0, .ref a0), (1, .int a1)]) F.1 F.2.1 dX6_caller_23 rfl hl (by decide) rfl (fun ls hl => ?_)
    refine lv_iconst (v := 0) F.1 F.2.1 dX6_caller_24 (by decide) ?_
    refine topK (a := 0) (by decide) (fun k_12 hk_12 => ?_)
    refine lv_istore_n (lv' := [(3, .int k_12), (2, .int z_11), (0, .ref a0), (1, .int a1)]) F.1 F.2.1 dX6_caller_25 rfl hl (by decide) rfl (fun ls hl => ?_)
    refine wloop (σ := Int32) (fun n9 x9 H locs ls => (18 - x9.toInt + 1).toNat < n9 ∧ (0 ≤ x9.toInt ∧ x9.toInt ≤ 18) ∧ TH E (tbC (dayD (.inl (0, 18))) (dayD (.inl (0, 18))) (riverD (.inl Fa1) (.inl Fb1) (.inl (0, 4)) 31 33 35 39 43 47) (riverD (.inl Fa2) (.inl Fb2) (.inl (0, 4)) 32 34 36 40 44 48) (rcD (.inl (t, t)) (.inr kr) (.inr ks) (.inl kb)) rd tp A14F A14F A4F A4F A14F A14F (riverD (.inl Fa3) (.inl Fb3) (.inl (0, 4)) 3 8 3 41 45 49) (riverD (.inl Fa4) (.inl Fb4) (.inl (0, 4)) 3 8 3 42 46 50) ((.inr (.inl (0, 12, Pd1)))) ((.inr (.inl (0, 12, Pd2)))) ((.inr (.inl (0, 12, Pd3)))) ((.inr (.inl (0, 12, Pd4)))) ((.inr (.inl (0, 12, Ps1)))) ((.inr (.inl (0, 12, Ps2)))) ((.inr (.inl (0, 12, Ps3)))) ((.inr (.inl (0, 12, Ps4)))) ((.inr (.inl (0, 48, Pi1)))) ((.inr (.inl (0, 48, Pi2)))) ((.inr (.inl (0, 48, Pi3)))) ((.inr (.inl (0, 48, Pi4))))) H ∧ va_S (eA E s.heap.size) s.heap H locs ∧ lv_has ls 5 [(0, .ref a0), (1, .int a1), (2, .int z_11), (3, .int x9)]) ?_ (fun x9 H locs ls h => absurd h.1 (Nat.not_lt_zero _)) _ (k_12) ⟨Nat.lt_succ_self _, (wkb (eqb hk_12) rfl rfl), hH, hS, lv_sub hl [2, 3, 1, 0] rfl⟩
    intro n_26 ih_26 u_13 H locs ls ⟨hm_26, hu_13, hH, hS, hl⟩
    have hm_26 : (18 - u_13.toInt + 1).toNat < n_26 + 1 := hm_26
    have hu_13 : (0 ≤ u_13.toInt ∧ u_13.toInt ≤ 18) := hu_13
    have hH : TH E (tbC (dayD (.inl (0, 18))) (dayD (.inl (0, 18))) (riverD (.inl Fa1) (.inl Fb1) (.inl (0, 4)) 31 33 35 39 43 47) (riverD (.inl Fa2) (.inl Fb2) (.inl (0, 4)) 32 34 36 40 44 48) (rcD (.inl (t, t)) (.inr kr) (.inr ks) (.inl kb)) rd tp A14F A14F A4F A4F A14F A14F (riverD (.inl Fa3) (.inl Fb3) (.inl (0, 4)) 3 8 3 41 45 49) (riverD (.inl Fa4) (.inl Fb4) (.inl (0, 4)) 3 8 3 42 46 50) ((.inr (.inl (0, 12, Pd1)))) ((.inr (.inl (0, 12, Pd2)))) ((.inr (.inl (0, 12, Pd3)))) ((.inr (.inl (0, 12, Pd4)))) ((.inr (.inl (0, 12, Ps1)))) ((.inr (.inl (0, 12, Ps2)))) ((.inr (.inl (0, 12, Ps3)))) ((.inr (.inl (0, 12, Ps4)))) ((.inr (.inl (0, 48, Pi1)))) ((.inr (.inl (0, 48, Pi2)))) ((.inr (.inl (0, 48, Pi3)))) ((.inr (.inl (0, 48, Pi4))))) H := hH
    have hl : lv_has ls 5 [(0, .ref a0), (1, .int a1), (2, .int z_11), (3, .int u_13)] := hl
    refine lv_iload_n F.1 F.2.1 dX6_caller_26 rfl (lv_at hl 3 rfl) ?_
    refine lv_aload_n F.1 F.2.1 dX6_caller_27 rfl (lv_at hl 0 rfl) ?_
    refine tGetR (j := 11) F hK hH (tyb ha0 (all1 rfl)) rfl (all1 rfl) clX6 (by decide) wd_2_7 dX6_caller_28 (fun q_14 hq_14 _ => ?_)
    refine tGetI (j := 3) F hK hH (tyb hq_14 (all1 rfl)) rfl clX0 (by decide) wd_45_0 dX6_caller_31 (fun z_15 hz_15 => ?_)
    refine b_ge (tgt := 98) F dX6_caller_34 (by decide) (fun c_16 => ?_) (fun c_16 => ?_)
    · skip
      refine lv_bipush (v := (-2)) F.1 F.2.1 dX6_caller_98 (by decide) ?_
      refine topK (a := (-2)) (by decide) (fun k_19 hk_19 => ?_)
      exact txI F hS dX6_caller_100 rfl (⟨(wkb (eqb hk_19) rfl rfl), hH⟩)
    · skip
      have r_17 : 0 ≤ u_13.toInt ∧ u_13.toInt ≤ 17 := by have h9_ := hu_13; omega
      have r_18 : 1 ≤ z_15.toInt ∧ z_15.toInt ≤ 18 := by have h9_ := hz_15; omega
      refine lv_aload_n F.1 F.2.1 dX6_caller_37 rfl (lv_at hl 0 rfl) ?_
      refine tGetR (j := 11) F hK hH (tyb ha0 (all1 rfl)) rfl (all1 rfl) clX6 (by decide) wd_2_7 dX6_caller_38 (fun q_20 hq_20 _ => ?_)
      refine tGetR (j := 2) F hK hH (tyb hq_20 (all1 rfl)) rfl (all1 rfl) clX0 (by decide) wd_45_1 dX6_caller_41 (fun q_21 hq_21 _ => ?_)
      refine lv_iload_n F.1 F.2.1 dX6_caller_44 rfl (lv_at hl 3 rfl) ?_
      refine tIaldB F hK hH (tyb hq_21 (all1 rfl)) (ixb (n := 18) r_17 rfl rfl) dX6_caller_45 (fun z_22 hz_22 => ?_)
      refine lv_istore (lv' := [(4, .int z_22), (0, .ref a0), (1, .int a1), (2, .int z_11), (3, .int u_13)]) F.1 F.2.1 dX6_caller_46 hl (by decide) rfl (fun ls hl => ?_)
      refine lv_iload F.1 F.2.1 dX6_caller_48 (lv_at hl 0 rfl) ?_
      refine lv_iload_n F.1 F.2.1 dX6_caller_50 rfl (lv_at hl 2 rfl) ?_
      refine b_ne (tgt := 57) F dX6_caller_51 (by decide) (fun c_23 => ?_) (fun c_23 => ?_)
      · skip
        refine lv_aload_n F.1 F.2.1 dX6_caller_57 rfl (lv_at hl 1 rfl) ?_
        refine tGetR (j := 11) F hK hH (tyb ha0 (all1 rfl)) rfl (all1 rfl) clX6 (by decide) wd_2_7 dX6_caller_58 (fun q_25 hq_25 _ => ?_)
        refine tVv (b := q_25) (As := []) (rest := []) F hK hN hO (c_X0_bringWater E (rcD (.inl (t, t)) (.inr kr) (.inr ks) (.inl kb)) rd tp Fa1 Fb1 Fa2 Fb2 Fa3 Fb3 Fa4 Fb4 Pd1 Pd2 Pd3 Pd4 Ps1 Ps2 Ps3 Ps4 Pi1 Pi2 Pi3 Pi4 q_25 (by have h9_ := hq_25; simp at h9_ ⊢; omega) hFa1 hFb1 hFa2 hFb2 hFa3 hFb3 hFa4 hFb4 hPd1 hPd2 hPd3 hPd4 hPs1 hPs2 hPs3 hPs4 hPi1 hPi2 hPi3 hPi4) mv_X0_bringWater wd_45_2 ⟨Nat.le_of_ble_eq_true rfl, Nat.le_of_ble_eq_true rfl⟩ ⟨Nat.le_of_ble_eq_true rfl, Nat.le_of_ble_eq_true rfl⟩ hH hS (tRecv hK hH (tyb hq_25 (all1 rfl)) clX0) rfl hl.1 (Nat.le_of_ble_eq_true rfl) dX6_caller_61 (fun H locs hq hS => ?_)
        have hH := hq
        have hH : TH E (tbC (dayD (.inl (0, 18))) (dayD (.inl (0, 18))) (riverD (.inl Fa1) (.inl Fb1) (.inl (0, 4)) 31 33 35 39 43 47) (riverD (.inl Fa2) (.inl Fb2) (.inl (0, 4)) 32 34 36 40 44 48) (rcD (.inl (t, t)) (.inr kr) (.inr ks) (.inl kb)) rd tp A14F A14F A4F A4F A14F A14F (riverD (.inl Fa3) (.inl Fb3) (.inl (0, 4)) 3 8 3 41 45 49) (riverD (.inl Fa4) (.inl Fb4) (.inl (0, 4)) 3 8 3 42 46 50) ((.inr (.inl (0, 12, Pd1)))) ((.inr (.inl (0, 12, Pd2)))) ((.inr (.inl (0, 12, Pd3)))) ((.inr (.inl (0, 12, Pd4)))) ((.inr (.inl (0, 12, Ps1)))) ((.inr (.inl (0, 12, Ps2)))) ((.inr (.inl (0, 12, Ps3)))) ((.inr (.inl (0, 12, Ps4)))) ((.inr (.inl (0, 48, Pi1)))) ((.inr (.inl (0, 48, Pi2)))) ((.inr (.inl (0, 48, Pi3)))) ((.inr (.inl (0, 48, Pi4))))) H := hH
        refine lv_aload_n F.1 F.2.1 dX6_caller_64 rfl (lv_at hl 1 rfl) ?_
        refine tGetR (j := 11) F hK hH (tyb ha0 (all1 rfl)) rfl (all1 rfl) clX6 (by decide) wd_2_7 dX6_caller_65 (fun q_27 hq_27 _ => ?_)
        refine lv_iload F.1 F.2.1 dX6_caller_68 (lv_at hl 0 rfl) ?_
        refine tVv (b := q_27) (As := [.int z_22]) (rest := []) F hK hN hO (c_X0_takeByAge E (rcD (.inl (t, t)) (.inr kr) (.inr ks) (.inl kb)) rd tp Fa1 Fb1 Fa2 Fb2 Fa3 Fb3 Fa4 Fb4 Pd1 Pd2 Pd3 Pd4 Ps1 Ps2 Ps3 Ps4 Pi1 Pi2 Pi3 Pi4 q_27 z_22 (by have h9_ := hq_27; simp at h9_ ⊢; omega) hFa1 hFb1 hFa2 hFb2 hFa3 hFb3 hFa4 hFb4 hPd1 hPd2 hPd3 hPd4 hPs1 hPs2 hPs3 hPs4 hPi1 hPi2 hPi3 hPi4) mv_X0_takeByAge wd_45_3 ⟨Nat.le_of_ble_eq_true rfl, Nat.le_of_ble_eq_true rfl⟩ ⟨Nat.le_of_ble_eq_true rfl, Nat.le_of_ble_eq_true rfl⟩ hH hS (tRecv hK hH (tyb hq_27 (all1 rfl)) clX0) rfl hl.1 (Nat.le_of_ble_eq_true rfl) dX6_caller_70 (fun H locs hq hS => ?_)
        have hH := hq
        have hH : TH E (tbC (dayD (.inl (0, 18))) (dayD (.inl (0, 18))) (riverD (.inl Fa1) (.inl Fb1) (.inl (0, 4)) 31 33 35 39 43 47) (riverD (.inl Fa2) (.inl Fb2) (.inl (0, 4)) 32 34 36 40 44 48) (rcD (.inl (t, t)) (.inr kr) (.inr ks) (.inl kb)) rd tp A14F A14F A4F A4F A14F A14F (riverD (.inl Fa3) (.inl Fb3) (.inl (0, 4)) 3 8 3 41 45 49) (riverD (.inl Fa4) (.inl Fb4) (.inl (0, 4)) 3 8 3 42 46 50) ((.inr (.inl (0, 12, Pd1)))) ((.inr (.inl (0, 12, Pd2)))) ((.inr (.inl (0, 12, Pd3)))) ((.inr (.inl (0, 12, Pd4)))) ((.inr (.inl (0, 12, Ps1)))) ((.inr (.inl (0, 12, Ps2)))) ((.inr (.inl (0, 12, Ps3)))) ((.inr (.inl (0, 12, Ps4)))) ((.inr (.inl (0, 48, Pi1)))) ((.inr (.inl (0, 48, Pi2)))) ((.inr (.inl (0, 48, Pi3)))) ((.inr (.inl (0, 48, Pi4))))) H := hH
        refine lv_aload_n F.1 F.2.1 dX6_caller_73 rfl (lv_at hl 1 rfl) ?_
        refine tGetR (j := 11) F hK hH (tyb ha0 (all1 rfl)) rfl (all1 rfl) clX6 (by decide) wd_2_7 dX6_caller_74 (fun q_29 hq_29 _ => ?_)
        refine tGetR (j := 8) F hK hH (tyb hq_29 (all1 rfl)) rfl (all1 rfl) clX0 (by decide) wd_43_3 dX6_caller_77 (fun q_30 hq_30 _ => ?_)
        refine lv_iload_n F.1 F.2.1 dX6_caller_80 rfl (lv_at hl 2 rfl) ?_
        refine tIaldB F hK hH (tyb hq_30 (all1 rfl)) (ixb (n := 18) r_6 rfl rfl) dX6_caller_81 (fun z_31 hz_31 => ?_)
        refine lv_iload_n F.1 F.2.1 dX6_caller_82 rfl (lv_at hl 3 rfl) ?_
        refine b_le (tgt := 92) F dX6_caller_83 (by decide) (fun c_32 => ?_) (fun c_32 => ?_)
        · skip
          obtain ⟨x_33, ex_33, hx_33⟩ := iincB (c := 1) (lo := 1) (hi := 18) r_17 rfl
          refine lv_iinc (v := x_33) (lv' := [(3, .int x_33), (4, .int z_22), (0, .ref a0), (1, .int a1), (2, .int z_11)]) F.1 F.2.1 dX6_caller_92 hl (k := 4) rfl ex_33 (by decide) rfl (fun ls hl => ?_)
          refine lv_goto (tgt := 26) F.1 F.2.1 dX6_caller_95 (by decide) ?_
          exact ih_26 (x_33) _ _ _ ⟨(show (18 - x_33.toInt + 1).toNat < n_26 from by omega), (wkb hx_33.2 rfl rfl), hH, hS, lv_sub hl [2, 3, 4, 0] rfl⟩
        · skip
          refine lv_iload F.1 F.2.1 dX6_caller_86 (lv_at hl 0 rfl) ?_
          refine tSi (As := [.int z_22]) (rest := []) F hK hN hO (c_X6_nameOf E (dayD (.inl (0, 18))) (dayD (.inl (0, 18))) (riverD (.inl Fa1) (.inl Fb1) (.inl (0, 4)) 31 33 35 39 43 47) (riverD (.inl Fa2) (.inl Fb2) (.inl (0, 4)) 32 34 36 40 44 48) (rcD (.inl (t, t)) (.inr kr) (.inr ks) (.inl kb)) rd tp A14F A14F A4F A4F A14F A14F (riverD (.inl Fa3) (.inl Fb3) (.inl (0, 4)) 3 8 3 41 45 49) (riverD (.inl Fa4) (.inl Fb4) (.inl (0, 4)) 3 8 3 42 46 50) ((.inr (.inl (0, 12, Pd1)))) ((.inr (.inl (0, 12, Pd2)))) ((.inr (.inl (0, 12, Pd3)))) ((.inr (.inl (0, 12, Pd4)))) ((.inr (.inl (0, 12, Ps1)))) ((.inr (.inl (0, 12, Ps2)))) ((.inr (.inl (0, 12, Ps3)))) ((.inr (.inl (0, 12, Ps4)))) ((.inr (.inl (0, 48, Pi1)))) ((.inr (.inl (0, 48, Pi2)))) ((.inr (.inl (0, 48, Pi3)))) ((.inr (.inl (0, 48, Pi4)))) z_22) ms_X6_nameOf wd_45_4 ⟨Nat.le_of_ble_eq_true rfl, Nat.le_of_ble_eq_true rfl⟩ ⟨Nat.le_of_ble_eq_true rfl, Nat.le_of_ble_eq_true rfl⟩ hH hS rfl hl.1 (Nat.le_of_ble_eq_true rfl) dX6_caller_88 (fun z_34 H locs hq hS => ?_)
          obtain ⟨f_35, hH⟩ := hq
          have hH : TH E (tbC (dayD (.inl (0, 18))) (dayD (.inl (0, 18))) (riverD (.inl Fa1) (.inl Fb1) (.inl (0, 4)) 31 33 35 39 43 47) (riverD (.inl Fa2) (.inl Fb2) (.inl (0, 4)) 32 34 36 40 44 48) (rcD (.inl (t, t)) (.inr kr) (.inr ks) (.inl kb)) rd tp A14F A14F A4F A4F A14F A14F (riverD (.inl Fa3) (.inl Fb3) (.inl (0, 4)) 3 8 3 41 45 49) (riverD (.inl Fa4) (.inl Fb4) (.inl (0, 4)) 3 8 3 42 46 50) ((.inr (.inl (0, 12, Pd1)))) ((.inr (.inl (0, 12, Pd2)))) ((.inr (.inl (0, 12, Pd3)))) ((.inr (.inl (0, 12, Pd4)))) ((.inr (.inl (0, 12, Ps1)))) ((.inr (.inl (0, 12, Ps2)))) ((.inr (.inl (0, 12, Ps3)))) ((.inr (.inl (0, 12, Ps4)))) ((.inr (.inl (0, 48, Pi1)))) ((.inr (.inl (0, 48, Pi2)))) ((.inr (.inl (0, 48, Pi3)))) ((.inr (.inl (0, 48, Pi4))))) H := hH
          exact txI F hS dX6_caller_91 rfl (⟨f_35, hH⟩)
      · skip
        have r_24 : 0 ≤ z_22.toInt ∧ z_22.toInt ≤ 13 := by have h9_ := hz_22; omega
        refine lv_goto (tgt := 98) F.1 F.2.1 dX6_caller_54 (by decide) ?_
        refine lv_bipush (v := (-2)) F.1 F.2.1 dX6_caller_98 (by decide) ?_
        refine topK (a := (-2)) (by decide) (fun k_36 hk_36 => ?_)
        exact txI F hS dX6_caller_100 rfl (⟨(wkb (eqb hk_36) rfl rfl), hH⟩)
  · skip
    have r_7 : 0 ≤ z_1.toInt ∧ z_1.toInt ≤ 0 := by have h9_ := f_2; omega
    refine lv_iconst (v := (-1)) F.1 F.2.1 dX6_caller_8 (by decide) ?_
    refine topK (a := (-1)) (by decide) (fun k_37 hk_37 => ?_)
    exact txI F hS dX6_caller_9 rfl (⟨(wkb (eqb hk_37) rfl rfl), hH⟩)
set_option maxHeartbeats 4000000 in
set_option maxRecDepth 100000 in
theorem c_X6_calls (E : Ev) (rd : TD) (tp : TD) (kb : Int × Int) (Fa1 : Int × Int) (Fb1 : Int × Int) (Fa2 : Int × Int) (Fb2 : Int × Int) (Fa3 : Int × Int) (Fb3 : Int × Int) (Fa4 : Int × Int) (Fb4 : Int × Int) (kr : List Nat) (ks : List Nat) (Pd1 : (Nat → Int32) → Prop) (Pd2 : (Nat → Int32) → Prop) (Pd3 : (Nat → Int32) → Prop) (Pd4 : (Nat → Int32) → Prop) (Ps1 : (Nat → Int32) → Prop) (Ps2 : (Nat → Int32) → Prop) (Ps3 : (Nat → Int32) → Prop) (Ps4 : (Nat → Int32) → Prop) (Pi1 : (Nat → Int32) → Prop) (Pi2 : (Nat → Int32) → Prop) (Pi3 : (Nat → Int32) → Prop) (Pi4 : (Nat → Int32) → Prop) (t : Int) (a0 : Nat) (a1 : Int32) (ha0 : eT E a0 ∈ [28]) (ht : 0 ≤ t ∧ t ≤ 400) (hFa1 : 0 ≤ Fa1.1 ∧ Fa1.2 ≤ 12) (hFb1 : 0 ≤ Fb1.1 ∧ Fb1.2 ≤ 14) (hFa2 : 0 ≤ Fa2.1 ∧ Fa2.2 ≤ 12) (hFb2 : 0 ≤ Fb2.1 ∧ Fb2.2 ≤ 14) (hFa3 : 0 ≤ Fa3.1 ∧ Fa3.2 ≤ 12) (hFb3 : 0 ≤ Fb3.1 ∧ Fb3.2 ≤ 14) (hFa4 : 0 ≤ Fa4.1 ∧ Fa4.2 ≤ 12) (hFb4 : 0 ≤ Fb4.1 ∧ Fb4.2 ≤ 14) (hkr : ∀ t ∈ kr, t ∈ [26, 27]) (hks : ∀ t ∈ ks, t ∈ [26, 27]) (hPd1 : ∀ f, Pd1 f → ivP 12 (-2) 11 f) (hPd2 : ∀ f, Pd2 f → ivP 12 (-2) 11 f) (hPd3 : ∀ f, Pd3 f → ivP 12 (-2) 11 f) (hPd4 : ∀ f, Pd4 f → ivP 12 (-2) 11 f) (hPs1 : ∀ f, Ps1 f → ivP 12 (-2147483648) 2147483647 f) (hPs2 : ∀ f, Ps2 f → ivP 12 (-2147483648) 2147483647 f) (hPs3 : ∀ f, Ps3 f → ivP 12 (-2147483648) 2147483647 f) (hPs4 : ∀ f, Ps4 f → ivP 12 (-2147483648) 2147483647 f) (hPi1 : ∀ f, Pi1 f → ivP 48 (-2147483648) 2147483647 f) (hPi2 : ∀ f, Pi2 f → ivP 48 (-2147483648) 2147483647 f) (hPi3 : ∀ f, Pi3 f → ivP 48 (-2147483648) 2147483647 f) (hPi4 : ∀ f, Pi4 f → ivP 48 (-2147483648) 2147483647 f) : TcI E yX6_calls cX6_calls 5 .int ({ frames := 6, cells := 0, slots := 0, locals := 159 }) [.ref a0, .int a1] (fun H => TH E (tbC (dayD (.inl (0, 18))) (dayD (.inl (0, 18))) (riverD (.inl Fa1) (.inl Fb1) (.inl (0, 4)) 31 33 35 39 43 47) (riverD (.inl Fa2) (.inl Fb2) (.inl (0, 4)) 32 34 36 40 44 48) (rcD (.inl (t, t)) (.inr kr) (.inr ks) (.inl kb)) rd tp A14F A14F A4F A4F A14F A14F (riverD (.inl Fa3) (.inl Fb3) (.inl (0, 4)) 3 8 3 41 45 49) (riverD (.inl Fa4) (.inl Fb4) (.inl (0, 4)) 3 8 3 42 46 50) ((.inr (.inl (0, 12, Pd1)))) ((.inr (.inl (0, 12, Pd2)))) ((.inr (.inl (0, 12, Pd3)))) ((.inr (.inl (0, 12, Pd4)))) ((.inr (.inl (0, 12, Ps1)))) ((.inr (.inl (0, 12, Ps2)))) ((.inr (.inl (0, 12, Ps3)))) ((.inr (.inl (0, 12, Ps4)))) ((.inr (.inl (0, 48, Pi1)))) ((.inr (.inl (0, 48, Pi2)))) ((.inr (.inl (0, 48, Pi3)))) ((.inr (.inl (0, 48, Pi4))))) H) (fun v H => ((-2147483648) ≤ v.toInt ∧ v.toInt ≤ 2147483647) ∧ TH E (tbC (dayD (.inl (0, 18))) (dayD (.inl (0, 18))) (riverD (.inl Fa1) (.inl Fb1) (.inl (0, 4)) 31 33 35 39 43 47) (riverD (.inl Fa2) (.inl Fb2) (.inl (0, 4)) 32 34 36 40 44 48) (rcD (.inl (t, t)) (.inr kr) (.inr ks) (.inl kb)) rd tp A14F A14F A4F A4F A14F A14F (riverD (.inl Fa3) (.inl Fb3) (.inl (0, 4)) 3 8 3 41 45 49) (riverD (.inl Fa4) (.inl Fb4) (.inl (0, 4)) 3 8 3 42 46 50) ((.inr (.inl (0, 12, Pd1)))) ((.inr (.inl (0, 12, Pd2)))) ((.inr (.inl (0, 12, Pd3)))) ((.inr (.inl (0, 12, Pd4)))) ((.inr (.inl (0, 12, Ps1)))) ((.inr (.inl (0, 12, Ps2)))) ((.inr (.inl (0, 12, Ps3)))) ((.inr (.inl (0, 12, Ps4)))) ((.inr (.inl (0, 48, Pi1)))) ((.inr (.inl (0, 48, Pi2)))) ((.inr (.inl (0, 48, Pi3)))) ((.inr (.inl (0, 48, Pi4))))) H) := by
  refine teI (by decide) (Nat.le_of_ble_eq_true rfl) ?_
  intro p_ ev_ s mi_ below_ meth cd_ ls F hK hN hO hH hS hl
  have hH : TH E (tbC (dayD (.inl (0, 18))) (dayD (.inl (0, 18))) (riverD (.inl Fa1) (.inl Fb1) (.inl (0, 4)) 31 33 35 39 43 47) (riverD (.inl Fa2) (.inl Fb2) (.inl (0, 4)) 32 34 36 40 44 48) (rcD (.inl (t, t)) (.inr kr) (.inr ks) (.inl kb)) rd tp A14F A14F A4F A4F A14F A14F (riverD (.inl Fa3) (.inl Fb3) (.inl (0, 4)) 3 8 3 41 45 49) (riverD (.inl Fa4) (.inl Fb4) (.inl (0, 4)) 3 8 3 42 46 50) ((.inr (.inl (0, 12, Pd1)))) ((.inr (.inl (0, 12, Pd2)))) ((.inr (.inl (0, 12, Pd3)))) ((.inr (.inl (0, 12, Pd4)))) ((.inr (.inl (0, 12, Ps1)))) ((.inr (.inl (0, 12, Ps2)))) ((.inr (.inl (0, 12, Ps3)))) ((.inr (.inl (0, 12, Ps4)))) ((.inr (.inl (0, 48, Pi1)))) ((.inr (.inl (0, 48, Pi2)))) ((.inr (.inl (0, 48, Pi3)))) ((.inr (.inl (0, 48, Pi4))))) s.heap := hH
  have hl : lv_has ls 5 [(0, .ref a0), (1, .int a1)] := hl
  refine lv_iload_n F.1 F.2.1 dX6_calls_0 rfl (lv_at hl 1 rfl) ?_
  refine z_lt (tgt := 9) F dX6_calls_1 (by decide) (fun c_1 => ?_) (fun c_1 => ?_)
  · skip
    have r_2 : (-2147483648) ≤ a1.toInt ∧ a1.toInt ≤ (-1) := by have h9_ := (i32b a1); omega
    refine lv_iconst (v := (-1)) F.1 F.2.1 dX6_calls_9 (by decide) ?_
    refine topK (a := (-1)) (by decide) (fun k_4 hk_4 => ?_)
    exact txI F hS dX6_calls_10 rfl (⟨(wkb (eqb hk_4) rfl rfl), hH⟩)
  · skip
    have r_3 : 0 ≤ a1.toInt ∧ a1.toInt ≤ 2147483647 := by have h9_ := (i32b a1); omega
    refine lv_iload_n F.1 F.2.1 dX6_calls_4 rfl (lv_at hl 1 rfl) ?_
    refine lv_iconst (v := 1) F.1 F.2.1 dX6_calls_5 (by decide) ?_
    refine topK (a := 1) (by decide) (fun k_5 hk_5 => ?_)
    refine b_le (tgt := 11) F dX6_calls_6 (by decide) (fun c_6 => ?_) (fun c_6 => ?_)
    · skip
      have r_7 : 0 ≤ a1.toInt ∧ a1.toInt ≤ 1 := by have h9_ := r_3; omega
      refine lv_aload_n F.1 F.2.1 dX6_calls_11 rfl (lv_at hl 0 rfl) ?_
      refine tVv (b := a0) (As := []) (rest := []) F hK hN hO (c_X6_look E rd tp kb Fa1 Fb1 Fa2 Fb2 Fa3 Fb3 Fa4 Fb4 kr ks Pd1 Pd2 Pd3 Pd4 Ps1 Ps2 Ps3 Ps4 Pi1 Pi2 Pi3 Pi4 t a0 ha0 (by omega) hFa1 hFb1 hFa2 hFb2 hFa3 hFb3 hFa4 hFb4 hkr hks hPd1 hPd2 hPd3 hPd4 hPs1 hPs2 hPs3 hPs4 hPi1 hPi2 hPi3 hPi4) mv_X6_look wd_42_9 ⟨Nat.le_of_ble_eq_true rfl, Nat.le_of_ble_eq_true rfl⟩ ⟨Nat.le_of_ble_eq_true rfl, Nat.le_of_ble_eq_true rfl⟩ hH hS (tRecv hK hH (tyb ha0 (all1 rfl)) clX6) rfl hl.1 (Nat.le_of_ble_eq_true rfl) dX6_calls_12 (fun H locs hq hS => ?_)
      have hH := hq
      have hH : TH E (tbC (dayD (.inl (0, 18))) (dayD (.inl (0, 18))) (riverD (.inl Fa1) (.inl Fb1) (.inl (0, 4)) 31 33 35 39 43 47) (riverD (.inl Fa2) (.inl Fb2) (.inl (0, 4)) 32 34 36 40 44 48) (rcD (.inl (t, t)) (.inr kr) (.inr ks) (.inl kb)) rd tp A14F A14F A4F A4F A14F A14F (riverD (.inl Fa3) (.inl Fb3) (.inl (0, 4)) 3 8 3 41 45 49) (riverD (.inl Fa4) (.inl Fb4) (.inl (0, 4)) 3 8 3 42 46 50) ((.inr (.inl (0, 12, Pd1)))) ((.inr (.inl (0, 12, Pd2)))) ((.inr (.inl (0, 12, Pd3)))) ((.inr (.inl (0, 12, Pd4)))) ((.inr (.inl (0, 12, Ps1)))) ((.inr (.inl (0, 12, Ps2)))) ((.inr (.inl (0, 12, Ps3)))) ((.inr (.inl (0, 12, Ps4)))) ((.inr (.inl (0, 48, Pi1)))) ((.inr (.inl (0, 48, Pi2)))) ((.inr (.inl (0, 48, Pi3)))) ((.inr (.inl (0, 48, Pi4))))) H := hH
      refine lv_iconst (v := 0) F.1 F.2.1 dX6_calls_15 (by decide) ?_
      refine topK (a := 0) (by decide) (fun k_10 hk_10 => ?_)
      refine lv_istore_n (lv' := [(2, .int k_10), (0, .ref a0), (1, .int a1)]) F.1 F.2.1 dX6_calls_16 rfl hl (by decide) rfl (fun ls hl => ?_)
      refine lv_iconst (v := 0) F.1 F.2.1 dX6_calls_17 (by decide) ?_
      refine topK (a := 0) (by decide) (fun k_11 hk_11 => ?_)
      refine lv_istore_n (lv' := [(3, .int k_11), (2, .int k_10), (0, .ref a0), (1, .int a1)]) F.1 F.2.1 dX6_calls_18 rfl hl (by decide) rfl (fun ls hl => ?_)
      refine wloop (σ := Int32 × Int32) (fun n9 x9 H locs ls => (14 - x9.2.toInt + 1).toNat < n9 ∧ (0 ≤ x9.2.toInt ∧ x9.2.toInt ≤ 14) ∧ TH E (tbC (dayD (.inl (0, 18))) (dayD (.inl (0, 18))) (riverD (.inl Fa1) (.inl Fb1) (.inl (0, 4)) 31 33 35 39 43 47) (riverD (.inl Fa2) (.inl Fb2) (.inl (0, 4)) 32 34 36 40 44 48) (rcD (.inl (t, t)) (.inr kr) (.inr ks) (.inl kb)) rd tp A14F A14F A4F A4F A14F A14F (riverD (.inl Fa3) (.inl Fb3) (.inl (0, 4)) 3 8 3 41 45 49) (riverD (.inl Fa4) (.inl Fb4) (.inl (0, 4)) 3 8 3 42 46 50) ((.inr (.inl (0, 12, Pd1)))) ((.inr (.inl (0, 12, Pd2)))) ((.inr (.inl (0, 12, Pd3)))) ((.inr (.inl (0, 12, Pd4)))) ((.inr (.inl (0, 12, Ps1)))) ((.inr (.inl (0, 12, Ps2)))) ((.inr (.inl (0, 12, Ps3)))) ((.inr (.inl (0, 12, Ps4)))) ((.inr (.inl (0, 48, Pi1)))) ((.inr (.inl (0, 48, Pi2)))) ((.inr (.inl (0, 48, Pi3)))) ((.inr (.inl (0, 48, Pi4))))) H ∧ va_S (eA E s.heap.size) s.heap H locs ∧ lv_has ls 5 [(0, .ref a0), (1, .int a1), (2, .int x9.1), (3, .int x9.2)]) ?_ (fun x9 H locs ls h => absurd h.1 (Nat.not_lt_zero _)) _ (k_10, k_11) ⟨Nat.lt_succ_self _, (wkb (eqb hk_11) rfl rfl), hH, hS, lv_sub hl [2, 3, 1, 0] rfl⟩
      intro n_19 ih_19 ⟨u_12, u_13⟩ H locs ls ⟨hm_19, hu_13, hH, hS, hl⟩
      have hm_19 : (14 - u_13.toInt + 1).toNat < n_19 + 1 := hm_19
      have hu_13 : (0 ≤ u_13.toInt ∧ u_13.toInt ≤ 14) := hu_13
      have hH : TH E (tbC (dayD (.inl (0, 18))) (dayD (.inl (0, 18))) (riverD (.inl Fa1) (.inl Fb1) (.inl (0, 4)) 31 33 35 39 43 47) (riverD (.inl Fa2) (.inl Fb2) (.inl (0, 4)) 32 34 36 40 44 48) (rcD (.inl (t, t)) (.inr kr) (.inr ks) (.inl kb)) rd tp A14F A14F A4F A4F A14F A14F (riverD (.inl Fa3) (.inl Fb3) (.inl (0, 4)) 3 8 3 41 45 49) (riverD (.inl Fa4) (.inl Fb4) (.inl (0, 4)) 3 8 3 42 46 50) ((.inr (.inl (0, 12, Pd1)))) ((.inr (.inl (0, 12, Pd2)))) ((.inr (.inl (0, 12, Pd3)))) ((.inr (.inl (0, 12, Pd4)))) ((.inr (.inl (0, 12, Ps1)))) ((.inr (.inl (0, 12, Ps2)))) ((.inr (.inl (0, 12, Ps3)))) ((.inr (.inl (0, 12, Ps4)))) ((.inr (.inl (0, 48, Pi1)))) ((.inr (.inl (0, 48, Pi2)))) ((.inr (.inl (0, 48, Pi3)))) ((.inr (.inl (0, 48, Pi4))))) H := hH
      have hl : lv_has ls 5 [(0, .ref a0), (1, .int a1), (2, .int u_12), (3, .int u_13)] := hl
      refine lv_iload_n F.1 F.2.1 dX6_calls_19 rfl (lv_at hl 3 rfl) ?_
      refine lv_aload_n F.1 F.2.1 dX6_calls_20 rfl (lv_at hl 0 rfl) ?_
      refine tGetR0 (j := 2) F hK hH (tyb ha0 (all1 rfl)) rfl clX6 (by decide) wd_1_17 dX6_calls_21 (fun q_14 hq_14 => ?_)
      refine tGetIB (j := 4) (lo := 0) (hi := 14) F hK hH (hkr _ hq_14) (alls ⟨_, _, rfl, rfl, by have h9_ := hFb1; omega⟩ (alls1 ⟨_, _, rfl, rfl, by have h9_ := hFb2; omega⟩)) clX2 (by decide) wd_8_18 dX6_calls_24 (fun z_15 hz_15 => ?_)
      refine b_ge (tgt := 69) F dX6_calls_27 (by decide) (fun c_16 => ?_) (fun c_16 => ?_)
      · skip
        refine lv_iload_n F.1 F.2.1 dX6_calls_69 rfl (lv_at hl 2 rfl) ?_
        exact txI F hS dX6_calls_70 rfl (⟨(i32b _), hH⟩)
      · skip
        have r_17 : 0 ≤ u_13.toInt ∧ u_13.toInt ≤ 13 := by have h9_ := hu_13; omega
        have r_18 : 1 ≤ z_15.toInt ∧ z_15.toInt ≤ 14 := by have h9_ := hz_15; omega
        refine lv_iload_n F.1 F.2.1 dX6_calls_30 rfl (lv_at hl 1 rfl) ?_
        refine wjoin (σ := Int32) (pcj := 50) (stj := fun x9 => [.int x9]) (fun x9 H locs ls => (0 ≤ x9.toInt ∧ x9.toInt ≤ 1) ∧ TH E (tbC (dayD (.inl (0, 18))) (dayD (.inl (0, 18))) (riverD (.inl Fa1) (.inl Fb1) (.inl (0, 4)) 31 33 35 39 43 47) (riverD (.inl Fa2) (.inl Fb2) (.inl (0, 4)) 32 34 36 40 44 48) (rcD (.inl (t, t)) (.inr kr) (.inr ks) (.inl kb)) rd tp A14F A14F A4F A4F A14F A14F (riverD (.inl Fa3) (.inl Fb3) (.inl (0, 4)) 3 8 3 41 45 49) (riverD (.inl Fa4) (.inl Fb4) (.inl (0, 4)) 3 8 3 42 46 50) ((.inr (.inl (0, 12, Pd1)))) ((.inr (.inl (0, 12, Pd2)))) ((.inr (.inl (0, 12, Pd3)))) ((.inr (.inl (0, 12, Pd4)))) ((.inr (.inl (0, 12, Ps1)))) ((.inr (.inl (0, 12, Ps2)))) ((.inr (.inl (0, 12, Ps3)))) ((.inr (.inl (0, 12, Ps4)))) ((.inr (.inl (0, 48, Pi1)))) ((.inr (.inl (0, 48, Pi2)))) ((.inr (.inl (0, 48, Pi3)))) ((.inr (.inl (0, 48, Pi4))))) H ∧ va_S (eA E s.heap.size) s.heap H locs ∧ lv_has ls 5 [(0, .ref a0), (1, .int a1), (2, .int u_12), (3, .int u_13)]) (fun u_19 H locs ls h_ => ?_) (fun J_50 => ?_)
        · skip
          obtain ⟨hu_19, hH, hS, hl⟩ := h_
          have hu_19 : (0 ≤ u_19.toInt ∧ u_19.toInt ≤ 1) := hu_19
          have hH : TH E (tbC (dayD (.inl (0, 18))) (dayD (.inl (0, 18))) (riverD (.inl Fa1) (.inl Fb1) (.inl (0, 4)) 31 33 35 39 43 47) (riverD (.inl Fa2) (.inl Fb2) (.inl (0, 4)) 32 34 36 40 44 48) (rcD (.inl (t, t)) (.inr kr) (.inr ks) (.inl kb)) rd tp A14F A14F A4F A4F A14F A14F (riverD (.inl Fa3) (.inl Fb3) (.inl (0, 4)) 3 8 3 41 45 49) (riverD (.inl Fa4) (.inl Fb4) (.inl (0, 4)) 3 8 3 42 46 50) ((.inr (.inl (0, 12, Pd1)))) ((.inr (.inl (0, 12, Pd2)))) ((.inr (.inl (0, 12, Pd3)))) ((.inr (.inl (0, 12, Pd4)))) ((.inr (.inl (0, 12, Ps1)))) ((.inr (.inl (0, 12, Ps2)))) ((.inr (.inl (0, 12, Ps3)))) ((.inr (.inl (0, 12, Ps4)))) ((.inr (.inl (0, 48, Pi1)))) ((.inr (.inl (0, 48, Pi2)))) ((.inr (.inl (0, 48, Pi3)))) ((.inr (.inl (0, 48, Pi4))))) H := hH
          have hl : lv_has ls 5 [(0, .ref a0), (1, .int a1), (2, .int u_12), (3, .int u_13)] := hl
          show W _ _ _ _ _ _ _ _ _ _ _ _ _ _ _ (F0 _ _ _ [.int u_19])
          refine lv_istore (lv' := [(4, .int u_19), (0, .ref a0), (1, .int a1), (2, .int u_12), (3, .int u_13)]) F.1 F.2.1 dX6_calls_50 hl (by decide) rfl (fun ls hl => ?_)
          refine lv_iload F.1 F.2.1 dX6_calls_52 (lv_at hl 0 rfl) ?_
          refine z_eq (tgt := 63) F dX6_calls_54 (by decide) (fun c_20 => ?_) (fun c_20 => ?_)
          · skip
            have r_21 : 0 ≤ u_19.toInt ∧ u_19.toInt ≤ 0 := by have h9_ := hu_19; omega
            obtain ⟨x_23, ex_23, hx_23⟩ := iincB (c := 1) (lo := 1) (hi := 14) r_17 rfl
            refine lv_iinc (v := x_23) (lv' := [(3, .int x_23), (4, .int u_19), (0, .ref a0), (1, .int a1), (2, .int u_12)]) F.1 F.2.1 dX6_calls_63 hl (k := 4) rfl ex_23 (by decide) rfl (fun ls hl => ?_)
            refine lv_goto (tgt := 19) F.1 F.2.1 dX6_calls_66 (by decide) ?_
            exact ih_19 (u_12, x_23) _ _ _ ⟨(show (14 - x_23.toInt + 1).toNat < n_19 from by omega), (wkb hx_23.2 rfl rfl), hH, hS, lv_sub hl [2, 3, 4, 0] rfl⟩
          · skip
            have r_22 : 1 ≤ u_19.toInt ∧ u_19.toInt ≤ 1 := by have h9_ := hu_19; omega
            refine lv_iload_n F.1 F.2.1 dX6_calls_57 rfl (lv_at hl 3 rfl) ?_
            refine lv_iconst (v := 1) F.1 F.2.1 dX6_calls_58 (by decide) ?_
            refine topK (a := 1) (by decide) (fun k_24 hk_24 => ?_)
            refine lv_iload_n F.1 F.2.1 dX6_calls_59 rfl (lv_at hl 4 rfl) ?_
            refine lv_ishl F.1 F.2.1 dX6_calls_60 ?_
            refine topF (fun z_25 => ?_)
            refine lv_ior F.1 F.2.1 dX6_calls_61 ?_
            refine topF (fun z_26 => ?_)
            refine lv_istore_n (lv' := [(2, .int z_26), (4, .int u_19), (0, .ref a0), (1, .int a1), (3, .int u_13)]) F.1 F.2.1 dX6_calls_62 rfl hl (by decide) rfl (fun ls hl => ?_)
            obtain ⟨x_27, ex_27, hx_27⟩ := iincB (c := 1) (lo := 1) (hi := 14) r_17 rfl
            refine lv_iinc (v := x_27) (lv' := [(3, .int x_27), (2, .int z_26), (4, .int u_19), (0, .ref a0), (1, .int a1)]) F.1 F.2.1 dX6_calls_63 hl (k := 4) rfl ex_27 (by decide) rfl (fun ls hl => ?_)
            refine lv_goto (tgt := 19) F.1 F.2.1 dX6_calls_66 (by decide) ?_
            exact ih_19 (z_26, x_27) _ _ _ ⟨(show (14 - x_27.toInt + 1).toNat < n_19 from by omega), (wkb hx_27.2 rfl rfl), hH, hS, lv_sub hl [3, 4, 1, 0] rfl⟩
        refine z_ne (tgt := 45) F dX6_calls_31 (by decide) (fun c_28 => ?_) (fun c_28 => ?_)
        · skip
          have r_29 : 1 ≤ a1.toInt ∧ a1.toInt ≤ 1 := by have h9_ := r_7; omega
          refine lv_aload_n F.1 F.2.1 dX6_calls_45 rfl (lv_at hl 0 rfl) ?_
          refine lv_iload_n F.1 F.2.1 dX6_calls_46 rfl (lv_at hl 3 rfl) ?_
          refine tVi (b := a0) (As := [.int u_13]) (rest := []) F hK hN hO (c_X6_isFutileOnSome E rd tp kb Fa1 Fb1 Fa2 Fb2 Fa3 Fb3 Fa4 Fb4 kr ks Pd1 Pd2 Pd3 Pd4 Ps1 Ps2 Ps3 Ps4 Pi1 Pi2 Pi3 Pi4 t a0 u_13 ha0 r_17 (by omega) hFa1 hFb1 hFa2 hFb2 hFa3 hFb3 hFa4 hFb4 hkr hks hPd1 hPd2 hPd3 hPd4 hPs1 hPs2 hPs3 hPs4 hPi1 hPi2 hPi3 hPi4) mv_X6_isFutileOnSome wd_45_19 ⟨Nat.le_of_ble_eq_true rfl, Nat.le_of_ble_eq_true rfl⟩ ⟨Nat.le_of_ble_eq_true rfl, Nat.le_of_ble_eq_true rfl⟩ hH hS (tRecv hK hH (tyb ha0 (all1 rfl)) clX6) rfl hl.1 (Nat.le_of_ble_eq_true rfl) dX6_calls_47 (fun z_31 H locs hq hS => ?_)
          obtain ⟨f_32, hH⟩ := hq
          have hH : TH E (tbC (dayD (.inl (0, 18))) (dayD (.inl (0, 18))) (riverD (.inl Fa1) (.inl Fb1) (.inl (0, 4)) 31 33 35 39 43 47) (riverD (.inl Fa2) (.inl Fb2) (.inl (0, 4)) 32 34 36 40 44 48) (rcD (.inl (t, t)) (.inr kr) (.inr ks) (.inl kb)) rd tp A14F A14F A4F A4F A14F A14F (riverD (.inl Fa3) (.inl Fb3) (.inl (0, 4)) 3 8 3 41 45 49) (riverD (.inl Fa4) (.inl Fb4) (.inl (0, 4)) 3 8 3 42 46 50) ((.inr (.inl (0, 12, Pd1)))) ((.inr (.inl (0, 12, Pd2)))) ((.inr (.inl (0, 12, Pd3)))) ((.inr (.inl (0, 12, Pd4)))) ((.inr (.inl (0, 12, Ps1)))) ((.inr (.inl (0, 12, Ps2)))) ((.inr (.inl (0, 12, Ps3)))) ((.inr (.inl (0, 12, Ps4)))) ((.inr (.inl (0, 48, Pi1)))) ((.inr (.inl (0, 48, Pi2)))) ((.inr (.inl (0, 48, Pi3)))) ((.inr (.inl (0, 48, Pi4))))) H := hH
          exact J_50 (z_31) _ _ _ ⟨f_32, hH, hS, lv_sub hl [0, 1, 2, 3] rfl⟩
        · skip
          have r_30 : 0 ≤ a1.toInt ∧ a1.toInt ≤ 0 := by have h9_ := r_7; omega
          refine lv_aload_n F.1 F.2.1 dX6_calls_34 rfl (lv_at hl 0 rfl) ?_
          refine tGetR (j := 11) F hK hH (tyb ha0 (all1 rfl)) rfl (all1 rfl) clX6 (by decide) wd_2_7 dX6_calls_35 (fun q_33 hq_33 _ => ?_)
          refine lv_iload_n F.1 F.2.1 dX6_calls_38 rfl (lv_at hl 3 rfl) ?_
          refine tVi (b := q_33) (As := [.int u_13]) (rest := []) F hK hN hO (c_X0_isShort E (rcD (.inl (t, t)) (.inr kr) (.inr ks) (.inl kb)) rd tp Fa1 Fb1 Fa2 Fb2 Fa3 Fb3 Fa4 Fb4 Pd1 Pd2 Pd3 Pd4 Ps1 Ps2 Ps3 Ps4 Pi1 Pi2 Pi3 Pi4 q_33 u_13 (by have h9_ := hq_33; simp at h9_ ⊢; omega) r_17 hFa1 hFb1 hFa2 hFb2 hFa3 hFb3 hFa4 hFb4 hPd1 hPd2 hPd3 hPd4 hPs1 hPs2 hPs3 hPs4 hPi1 hPi2 hPi3 hPi4) mv_X0_isShort wd_45_18 ⟨Nat.le_of_ble_eq_true rfl, Nat.le_of_ble_eq_true rfl⟩ ⟨Nat.le_of_ble_eq_true rfl, Nat.le_of_ble_eq_true rfl⟩ hH hS (tRecv hK hH (tyb hq_33 (all1 rfl)) clX0) rfl hl.1 (Nat.le_of_ble_eq_true rfl) dX6_calls_39 (fun z_34 H locs hq hS => ?_)
          obtain ⟨f_35, hH⟩ := hq
          have hH : TH E (tbC (dayD (.inl (0, 18))) (dayD (.inl (0, 18))) (riverD (.inl Fa1) (.inl Fb1) (.inl (0, 4)) 31 33 35 39 43 47) (riverD (.inl Fa2) (.inl Fb2) (.inl (0, 4)) 32 34 36 40 44 48) (rcD (.inl (t, t)) (.inr kr) (.inr ks) (.inl kb)) rd tp A14F A14F A4F A4F A14F A14F (riverD (.inl Fa3) (.inl Fb3) (.inl (0, 4)) 3 8 3 41 45 49) (riverD (.inl Fa4) (.inl Fb4) (.inl (0, 4)) 3 8 3 42 46 50) ((.inr (.inl (0, 12, Pd1)))) ((.inr (.inl (0, 12, Pd2)))) ((.inr (.inl (0, 12, Pd3)))) ((.inr (.inl (0, 12, Pd4)))) ((.inr (.inl (0, 12, Ps1)))) ((.inr (.inl (0, 12, Ps2)))) ((.inr (.inl (0, 12, Ps3)))) ((.inr (.inl (0, 12, Ps4)))) ((.inr (.inl (0, 48, Pi1)))) ((.inr (.inl (0, 48, Pi2)))) ((.inr (.inl (0, 48, Pi3)))) ((.inr (.inl (0, 48, Pi4))))) H := hH
          refine lv_goto (tgt := 50) F.1 F.2.1 dX6_calls_42 (by decide) ?_
          exact J_50 (z_34) _ _ _ ⟨f_35, hH, hS, lv_sub hl [0, 1, 2, 3] rfl⟩
    · skip
      have r_8 : 2 ≤ a1.toInt ∧ a1.toInt ≤ 2147483647 := by have h9_ := r_3; omega
      refine lv_iconst (v := (-1)) F.1 F.2.1 dX6_calls_9 (by decide) ?_
      refine topK (a := (-1)) (by decide) (fun k_36 hk_36 => ?_)
      exact txI F hS dX6_calls_10 rfl (⟨(wkb (eqb hk_36) rfl rfl), hH⟩)
set_option maxHeartbeats 4000000 in
set_option maxRecDepth 100000 in
theorem c_X6_futile (E : Ev) (rd : TD) (tp : TD) (kb : Int × Int) (Fa1 : Int × Int) (Fb1 : Int × Int) (Fa2 : Int × Int) (Fb2 : Int × Int) (Fa3 : Int × Int) (Fb3 : Int × Int) (Fa4 : Int × Int) (Fb4 : Int × Int) (kr : List Nat) (ks : List Nat) (Pd1 : (Nat → Int32) → Prop) (Pd2 : (Nat → Int32) → Prop) (Pd3 : (Nat → Int32) → Prop) (Pd4 : (Nat → Int32) → Prop) (Ps1 : (Nat → Int32) → Prop) (Ps2 : (Nat → Int32) → Prop) (Ps3 : (Nat → Int32) → Prop) (Ps4 : (Nat → Int32) → Prop) (Pi1 : (Nat → Int32) → Prop) (Pi2 : (Nat → Int32) → Prop) (Pi3 : (Nat → Int32) → Prop) (Pi4 : (Nat → Int32) → Prop) (t : Int) (a0 : Nat) (a1 : Int32) (a2 : Int32) (ha0 : eT E a0 ∈ [28]) (ht : 0 ≤ t ∧ t ≤ 400) (hFa1 : 0 ≤ Fa1.1 ∧ Fa1.2 ≤ 12) (hFb1 : 0 ≤ Fb1.1 ∧ Fb1.2 ≤ 14) (hFa2 : 0 ≤ Fa2.1 ∧ Fa2.2 ≤ 12) (hFb2 : 0 ≤ Fb2.1 ∧ Fb2.2 ≤ 14) (hFa3 : 0 ≤ Fa3.1 ∧ Fa3.2 ≤ 12) (hFb3 : 0 ≤ Fb3.1 ∧ Fb3.2 ≤ 14) (hFa4 : 0 ≤ Fa4.1 ∧ Fa4.2 ≤ 12) (hFb4 : 0 ≤ Fb4.1 ∧ Fb4.2 ≤ 14) (hkr : ∀ t ∈ kr, t ∈ [26, 27]) (hks : ∀ t ∈ ks, t ∈ [26, 27]) (hPd1 : ∀ f, Pd1 f → ivP 12 (-2) 11 f) (hPd2 : ∀ f, Pd2 f → ivP 12 (-2) 11 f) (hPd3 : ∀ f, Pd3 f → ivP 12 (-2) 11 f) (hPd4 : ∀ f, Pd4 f → ivP 12 (-2) 11 f) (hPs1 : ∀ f, Ps1 f → ivP 12 (-2147483648) 2147483647 f) (hPs2 : ∀ f, Ps2 f → ivP 12 (-2147483648) 2147483647 f) (hPs3 : ∀ f, Ps3 f → ivP 12 (-2147483648) 2147483647 f) (hPs4 : ∀ f, Ps4 f → ivP 12 (-2147483648) 2147483647 f) (hPi1 : ∀ f, Pi1 f → ivP 48 (-2147483648) 2147483647 f) (hPi2 : ∀ f, Pi2 f → ivP 48 (-2147483648) 2147483647 f) (hPi3 : ∀ f, Pi3 f → ivP 48 (-2147483648) 2147483647 f) (hPi4 : ∀ f, Pi4 f → ivP 48 (-2147483648) 2147483647 f) : TcI E yX6_futile cX6_futile 3 .int ({ frames := 6, cells := 0, slots := 0, locals := 159 }) [.ref a0, .int a1, .int a2] (fun H => TH E (tbC (dayD (.inl (0, 18))) (dayD (.inl (0, 18))) (riverD (.inl Fa1) (.inl Fb1) (.inl (0, 4)) 31 33 35 39 43 47) (riverD (.inl Fa2) (.inl Fb2) (.inl (0, 4)) 32 34 36 40 44 48) (rcD (.inl (t, t)) (.inr kr) (.inr ks) (.inl kb)) rd tp A14F A14F A4F A4F A14F A14F (riverD (.inl Fa3) (.inl Fb3) (.inl (0, 4)) 3 8 3 41 45 49) (riverD (.inl Fa4) (.inl Fb4) (.inl (0, 4)) 3 8 3 42 46 50) ((.inr (.inl (0, 12, Pd1)))) ((.inr (.inl (0, 12, Pd2)))) ((.inr (.inl (0, 12, Pd3)))) ((.inr (.inl (0, 12, Pd4)))) ((.inr (.inl (0, 12, Ps1)))) ((.inr (.inl (0, 12, Ps2)))) ((.inr (.inl (0, 12, Ps3)))) ((.inr (.inl (0, 12, Ps4)))) ((.inr (.inl (0, 48, Pi1)))) ((.inr (.inl (0, 48, Pi2)))) ((.inr (.inl (0, 48, Pi3)))) ((.inr (.inl (0, 48, Pi4))))) H) (fun v H => ((-2147483648) ≤ v.toInt ∧ v.toInt ≤ 2147483647) ∧ TH E (tbC (dayD (.inl (0, 18))) (dayD (.inl (0, 18))) (riverD (.inl Fa1) (.inl Fb1) (.inl (0, 4)) 31 33 35 39 43 47) (riverD (.inl Fa2) (.inl Fb2) (.inl (0, 4)) 32 34 36 40 44 48) (rcD (.inl (t, t)) (.inr kr) (.inr ks) (.inl kb)) rd tp A14F A14F A4F A4F A14F A14F (riverD (.inl Fa3) (.inl Fb3) (.inl (0, 4)) 3 8 3 41 45 49) (riverD (.inl Fa4) (.inl Fb4) (.inl (0, 4)) 3 8 3 42 46 50) ((.inr (.inl (0, 12, Pd1)))) ((.inr (.inl (0, 12, Pd2)))) ((.inr (.inl (0, 12, Pd3)))) ((.inr (.inl (0, 12, Pd4)))) ((.inr (.inl (0, 12, Ps1)))) ((.inr (.inl (0, 12, Ps2)))) ((.inr (.inl (0, 12, Ps3)))) ((.inr (.inl (0, 12, Ps4)))) ((.inr (.inl (0, 48, Pi1)))) ((.inr (.inl (0, 48, Pi2)))) ((.inr (.inl (0, 48, Pi3)))) ((.inr (.inl (0, 48, Pi4))))) H) := by
  refine teI (by decide) (Nat.le_of_ble_eq_true rfl) ?_
  intro p_ ev_ s mi_ below_ meth cd_ ls F hK hN hO hH hS hl
  have hH : TH E (tbC (dayD (.inl (0, 18))) (dayD (.inl (0, 18))) (riverD (.inl Fa1) (.inl Fb1) (.inl (0, 4)) 31 33 35 39 43 47) (riverD (.inl Fa2) (.inl Fb2) (.inl (0, 4)) 32 34 36 40 44 48) (rcD (.inl (t, t)) (.inr kr) (.inr ks) (.inl kb)) rd tp A14F A14F A4F A4F A14F A14F (riverD (.inl Fa3) (.inl Fb3) (.inl (0, 4)) 3 8 3 41 45 49) (riverD (.inl Fa4) (.inl Fb4) (.inl (0, 4)) 3 8 3 42 46 50) ((.inr (.inl (0, 12, Pd1)))) ((.inr (.inl (0, 12, Pd2)))) ((.inr (.inl (0, 12, Pd3)))) ((.inr (.inl (0, 12, Pd4)))) ((.inr (.inl (0, 12, Ps1)))) ((.inr (.inl (0, 12, Ps2)))) ((.inr (.inl (0, 12, Ps3)))) ((.inr (.inl (0, 12, Ps4)))) ((.inr (.inl (0, 48, Pi1)))) ((.inr (.inl (0, 48, Pi2)))) ((.inr (.inl (0, 48, Pi3)))) ((.inr (.inl (0, 48, Pi4))))) s.heap := hH
  have hl : lv_has ls 3 [(0, .ref a0), (1, .int a1), (2, .int a2)] := hl
  refine lv_aload_n F.1 F.2.1 dX6_futile_0 rfl (lv_at hl 0 rfl) ?_
  refine lv_iload_n F.1 F.2.1 dX6_futile_1 rfl (lv_at hl 1 rfl) ?_
  refine lv_iload_n F.1 F.2.1 dX6_futile_2 rfl (lv_at hl 2 rfl) ?_
  refine tVi (b := a0) (As := [.int a1, .int a2]) (rest := []) F hK hN hO (c_X6_areTwoRights E rd tp kb Fa1 Fb1 Fa2 Fb2 Fa3 Fb3 Fa4 Fb4 kr ks Pd1 Pd2 Pd3 Pd4 Ps1 Ps2 Ps3 Ps4 Pi1 Pi2 Pi3 Pi4 t a0 a1 a2 ha0 (by omega) hFa1 hFb1 hFa2 hFb2 hFa3 hFb3 hFa4 hFb4 hkr hks hPd1 hPd2 hPd3 hPd4 hPs1 hPs2 hPs3 hPs4 hPi1 hPi2 hPi3 hPi4) mv_X6_areTwoRights wd_33_14 ⟨Nat.le_of_ble_eq_true rfl, Nat.le_of_ble_eq_true rfl⟩ ⟨Nat.le_of_ble_eq_true rfl, Nat.le_of_ble_eq_true rfl⟩ hH hS (tRecv hK hH (tyb ha0 (all1 rfl)) clX6) rfl hl.1 (Nat.le_of_ble_eq_true rfl) dX6_futile_3 (fun z_1 H locs hq hS => ?_)
  obtain ⟨f_2, f_3, f_4, hH⟩ := hq
  have hH : TH E (tbC (dayD (.inl (0, 18))) (dayD (.inl (0, 18))) (riverD (.inl Fa1) (.inl Fb1) (.inl (0, 4)) 31 33 35 39 43 47) (riverD (.inl Fa2) (.inl Fb2) (.inl (0, 4)) 32 34 36 40 44 48) (rcD (.inl (t, t)) (.inr kr) (.inr ks) (.inl kb)) rd tp A14F A14F A4F A4F A14F A14F (riverD (.inl Fa3) (.inl Fb3) (.inl (0, 4)) 3 8 3 41 45 49) (riverD (.inl Fa4) (.inl Fb4) (.inl (0, 4)) 3 8 3 42 46 50) ((.inr (.inl (0, 12, Pd1)))) ((.inr (.inl (0, 12, Pd2)))) ((.inr (.inl (0, 12, Pd3)))) ((.inr (.inl (0, 12, Pd4)))) ((.inr (.inl (0, 12, Ps1)))) ((.inr (.inl (0, 12, Ps2)))) ((.inr (.inl (0, 12, Ps3)))) ((.inr (.inl (0, 12, Ps4)))) ((.inr (.inl (0, 48, Pi1)))) ((.inr (.inl (0, 48, Pi2)))) ((.inr (.inl (0, 48, Pi3)))) ((.inr (.inl (0, 48, Pi4))))) H := hH
  refine z_ne (tgt := 11) F dX6_futile_6 (by decide) (fun c_5 => ?_) (fun c_5 => ?_)
  · skip
    have r_6 : 1 ≤ z_1.toInt ∧ z_1.toInt ≤ 1 := by have h9_ := f_2; omega
    have r_7 : 0 ≤ a1.toInt ∧ a1.toInt ≤ 13 := by have h9_ := (i32b a1); omega
    have r_8 : 0 ≤ a2.toInt ∧ a2.toInt ≤ 13 := by have h9_ := (i32b a2); omega
    refine lv_aload_n F.1 F.2.1 dX6_futile_11 rfl (lv_at hl 0 rfl) ?_
    refine tVv (b := a0) (As := []) (rest := []) F hK hN hO (c_X6_look E rd tp kb Fa1 Fb1 Fa2 Fb2 Fa3 Fb3 Fa4 Fb4 kr ks Pd1 Pd2 Pd3 Pd4 Ps1 Ps2 Ps3 Ps4 Pi1 Pi2 Pi3 Pi4 t a0 ha0 (by omega) hFa1 hFb1 hFa2 hFb2 hFa3 hFb3 hFa4 hFb4 hkr hks hPd1 hPd2 hPd3 hPd4 hPs1 hPs2 hPs3 hPs4 hPi1 hPi2 hPi3 hPi4) mv_X6_look wd_42_9 ⟨Nat.le_of_ble_eq_true rfl, Nat.le_of_ble_eq_true rfl⟩ ⟨Nat.le_of_ble_eq_true rfl, Nat.le_of_ble_eq_true rfl⟩ hH hS (tRecv hK hH (tyb ha0 (all1 rfl)) clX6) rfl hl.1 (Nat.le_of_ble_eq_true rfl) dX6_futile_12 (fun H locs hq hS => ?_)
    have hH := hq
    have hH : TH E (tbC (dayD (.inl (0, 18))) (dayD (.inl (0, 18))) (riverD (.inl Fa1) (.inl Fb1) (.inl (0, 4)) 31 33 35 39 43 47) (riverD (.inl Fa2) (.inl Fb2) (.inl (0, 4)) 32 34 36 40 44 48) (rcD (.inl (t, t)) (.inr kr) (.inr ks) (.inl kb)) rd tp A14F A14F A4F A4F A14F A14F (riverD (.inl Fa3) (.inl Fb3) (.inl (0, 4)) 3 8 3 41 45 49) (riverD (.inl Fa4) (.inl Fb4) (.inl (0, 4)) 3 8 3 42 46 50) ((.inr (.inl (0, 12, Pd1)))) ((.inr (.inl (0, 12, Pd2)))) ((.inr (.inl (0, 12, Pd3)))) ((.inr (.inl (0, 12, Pd4)))) ((.inr (.inl (0, 12, Ps1)))) ((.inr (.inl (0, 12, Ps2)))) ((.inr (.inl (0, 12, Ps3)))) ((.inr (.inl (0, 12, Ps4)))) ((.inr (.inl (0, 48, Pi1)))) ((.inr (.inl (0, 48, Pi2)))) ((.inr (.inl (0, 48, Pi3)))) ((.inr (.inl (0, 48, Pi4))))) H := hH
    refine lv_aload_n F.1 F.2.1 dX6_futile_15 rfl (lv_at hl 0 rfl) ?_
    refine lv_iload_n F.1 F.2.1 dX6_futile_16 rfl (lv_at hl 1 rfl) ?_
    refine lv_iload_n F.1 F.2.1 dX6_futile_17 rfl (lv_at hl 2 rfl) ?_
    refine tVi (b := a0) (As := [.int a1, .int a2]) (rest := []) F hK hN hO (c_X6_isFutileOn E rd tp kb Fa1 Fb1 Fa2 Fb2 Fa3 Fb3 Fa4 Fb4 kr ks Pd1 Pd2 Pd3 Pd4 Ps1 Ps2 Ps3 Ps4 Pi1 Pi2 Pi3 Pi4 t a0 a1 a2 ha0 r_7 r_8 (by omega) hFa1 hFb1 hFa2 hFb2 hFa3 hFb3 hFa4 hFb4 hkr hks hPd1 hPd2 hPd3 hPd4 hPs1 hPs2 hPs3 hPs4 hPi1 hPi2 hPi3 hPi4) mv_X6_isFutileOn wd_45_23 ⟨Nat.le_of_ble_eq_true rfl, Nat.le_of_ble_eq_true rfl⟩ ⟨Nat.le_of_ble_eq_true rfl, Nat.le_of_ble_eq_true rfl⟩ hH hS (tRecv hK hH (tyb ha0 (all1 rfl)) clX6) rfl hl.1 (Nat.le_of_ble_eq_true rfl) dX6_futile_18 (fun z_11 H locs hq hS => ?_)
    obtain ⟨f_12, hH⟩ := hq
    have hH : TH E (tbC (dayD (.inl (0, 18))) (dayD (.inl (0, 18))) (riverD (.inl Fa1) (.inl Fb1) (.inl (0, 4)) 31 33 35 39 43 47) (riverD (.inl Fa2) (.inl Fb2) (.inl (0, 4)) 32 34 36 40 44 48) (rcD (.inl (t, t)) (.inr kr) (.inr ks) (.inl kb)) rd tp A14F A14F A4F A4F A14F A14F (riverD (.inl Fa3) (.inl Fb3) (.inl (0, 4)) 3 8 3 41 45 49) (riverD (.inl Fa4) (.inl Fb4) (.inl (0, 4)) 3 8 3 42 46 50) ((.inr (.inl (0, 12, Pd1)))) ((.inr (.inl (0, 12, Pd2)))) ((.inr (.inl (0, 12, Pd3)))) ((.inr (.inl (0, 12, Pd4)))) ((.inr (.inl (0, 12, Ps1)))) ((.inr (.inl (0, 12, Ps2)))) ((.inr (.inl (0, 12, Ps3)))) ((.inr (.inl (0, 12, Ps4)))) ((.inr (.inl (0, 48, Pi1)))) ((.inr (.inl (0, 48, Pi2)))) ((.inr (.inl (0, 48, Pi3)))) ((.inr (.inl (0, 48, Pi4))))) H := hH
    refine z_eq (tgt := 28) F dX6_futile_21 (by decide) (fun c_13 => ?_) (fun c_13 => ?_)
    · skip
      have r_14 : 0 ≤ z_11.toInt ∧ z_11.toInt ≤ 0 := by have h9_ := f_12; omega
      refine lv_iconst (v := 0) F.1 F.2.1 dX6_futile_28 (by decide) ?_
      refine topK (a := 0) (by decide) (fun k_16 hk_16 => ?_)
      exact txI F hS dX6_futile_29 rfl (⟨(wkb (eqb hk_16) rfl rfl), hH⟩)
    · skip
      have r_15 : 1 ≤ z_11.toInt ∧ z_11.toInt ≤ 1 := by have h9_ := f_12; omega
      refine lv_iconst (v := 1) F.1 F.2.1 dX6_futile_24 (by decide) ?_
      refine topK (a := 1) (by decide) (fun k_17 hk_17 => ?_)
      refine lv_goto (tgt := 29) F.1 F.2.1 dX6_futile_25 (by decide) ?_
      exact txI F hS dX6_futile_29 rfl (⟨(wkb (eqb hk_17) rfl rfl), hH⟩)
  · skip
    have r_9 : 0 ≤ z_1.toInt ∧ z_1.toInt ≤ 0 := by have h9_ := f_2; omega
    refine lv_iconst (v := (-1)) F.1 F.2.1 dX6_futile_9 (by decide) ?_
    refine topK (a := (-1)) (by decide) (fun k_18 hk_18 => ?_)
    exact txI F hS dX6_futile_10 rfl (⟨(wkb (eqb hk_18) rfl rfl), hH⟩)
set_option maxHeartbeats 4000000 in
set_option maxRecDepth 100000 in
theorem c_X6_needs (E : Ev) (rd : TD) (tp : TD) (kb : Int × Int) (Fa1 : Int × Int) (Fb1 : Int × Int) (Fa2 : Int × Int) (Fb2 : Int × Int) (Fa3 : Int × Int) (Fb3 : Int × Int) (Fa4 : Int × Int) (Fb4 : Int × Int) (kr : List Nat) (ks : List Nat) (Pd1 : (Nat → Int32) → Prop) (Pd2 : (Nat → Int32) → Prop) (Pd3 : (Nat → Int32) → Prop) (Pd4 : (Nat → Int32) → Prop) (Ps1 : (Nat → Int32) → Prop) (Ps2 : (Nat → Int32) → Prop) (Ps3 : (Nat → Int32) → Prop) (Ps4 : (Nat → Int32) → Prop) (Pi1 : (Nat → Int32) → Prop) (Pi2 : (Nat → Int32) → Prop) (Pi3 : (Nat → Int32) → Prop) (Pi4 : (Nat → Int32) → Prop) (t : Int) (a0 : Nat) (a1 : Int32) (ha0 : eT E a0 ∈ [28]) (ht : 0 ≤ t ∧ t ≤ 400) (hFa1 : 0 ≤ Fa1.1 ∧ Fa1.2 ≤ 12) (hFb1 : 0 ≤ Fb1.1 ∧ Fb1.2 ≤ 14) (hFa2 : 0 ≤ Fa2.1 ∧ Fa2.2 ≤ 12) (hFb2 : 0 ≤ Fb2.1 ∧ Fb2.2 ≤ 14) (hFa3 : 0 ≤ Fa3.1 ∧ Fa3.2 ≤ 12) (hFb3 : 0 ≤ Fb3.1 ∧ Fb3.2 ≤ 14) (hFa4 : 0 ≤ Fa4.1 ∧ Fa4.2 ≤ 12) (hFb4 : 0 ≤ Fb4.1 ∧ Fb4.2 ≤ 14) (hkr : ∀ t ∈ kr, t ∈ [26, 27]) (hks : ∀ t ∈ ks, t ∈ [26, 27]) (hPd1 : ∀ f, Pd1 f → ivP 12 (-2) 11 f) (hPd2 : ∀ f, Pd2 f → ivP 12 (-2) 11 f) (hPd3 : ∀ f, Pd3 f → ivP 12 (-2) 11 f) (hPd4 : ∀ f, Pd4 f → ivP 12 (-2) 11 f) (hPs1 : ∀ f, Ps1 f → ivP 12 (-2147483648) 2147483647 f) (hPs2 : ∀ f, Ps2 f → ivP 12 (-2147483648) 2147483647 f) (hPs3 : ∀ f, Ps3 f → ivP 12 (-2147483648) 2147483647 f) (hPs4 : ∀ f, Ps4 f → ivP 12 (-2147483648) 2147483647 f) (hPi1 : ∀ f, Pi1 f → ivP 48 (-2147483648) 2147483647 f) (hPi2 : ∀ f, Pi2 f → ivP 48 (-2147483648) 2147483647 f) (hPi3 : ∀ f, Pi3 f → ivP 48 (-2147483648) 2147483647 f) (hPi4 : ∀ f, Pi4 f → ivP 48 (-2147483648) 2147483647 f) : TcI E yX6_needs cX6_needs 3 .int ({ frames := 6, cells := 0, slots := 0, locals := 160 }) [.ref a0, .int a1] (fun H => TH E (tbC (dayD (.inl (0, 18))) (dayD (.inl (0, 18))) (riverD (.inl Fa1) (.inl Fb1) (.inl (0, 4)) 31 33 35 39 43 47) (riverD (.inl Fa2) (.inl Fb2) (.inl (0, 4)) 32 34 36 40 44 48) (rcD (.inl (t, t)) (.inr kr) (.inr ks) (.inl kb)) rd tp A14F A14F A4F A4F A14F A14F (riverD (.inl Fa3) (.inl Fb3) (.inl (0, 4)) 3 8 3 41 45 49) (riverD (.inl Fa4) (.inl Fb4) (.inl (0, 4)) 3 8 3 42 46 50) ((.inr (.inl (0, 12, Pd1)))) ((.inr (.inl (0, 12, Pd2)))) ((.inr (.inl (0, 12, Pd3)))) ((.inr (.inl (0, 12, Pd4)))) ((.inr (.inl (0, 12, Ps1)))) ((.inr (.inl (0, 12, Ps2)))) ((.inr (.inl (0, 12, Ps3)))) ((.inr (.inl (0, 12, Ps4)))) ((.inr (.inl (0, 48, Pi1)))) ((.inr (.inl (0, 48, Pi2)))) ((.inr (.inl (0, 48, Pi3)))) ((.inr (.inl (0, 48, Pi4))))) H) (fun v H => ((-2147483648) ≤ v.toInt ∧ v.toInt ≤ 2147483647) ∧ TH E (tbC (dayD (.inl (0, 18))) (dayD (.inl (0, 18))) (riverD (.inl Fa1) (.inl Fb1) (.inl (0, 4)) 31 33 35 39 43 47) (riverD (.inl Fa2) (.inl Fb2) (.inl (0, 4)) 32 34 36 40 44 48) (rcD (.inl (t, t)) (.inr kr) (.inr ks) (.inl kb)) rd tp A14F A14F A4F A4F A14F A14F (riverD (.inl Fa3) (.inl Fb3) (.inl (0, 4)) 3 8 3 41 45 49) (riverD (.inl Fa4) (.inl Fb4) (.inl (0, 4)) 3 8 3 42 46 50) ((.inr (.inl (0, 12, Pd1)))) ((.inr (.inl (0, 12, Pd2)))) ((.inr (.inl (0, 12, Pd3)))) ((.inr (.inl (0, 12, Pd4)))) ((.inr (.inl (0, 12, Ps1)))) ((.inr (.inl (0, 12, Ps2)))) ((.inr (.inl (0, 12, Ps3)))) ((.inr (.inl (0, 12, Ps4)))) ((.inr (.inl (0, 48, Pi1)))) ((.inr (.inl (0, 48, Pi2)))) ((.inr (.inl (0, 48, Pi3)))) ((.inr (.inl (0, 48, Pi4))))) H) := by
  refine teI (by decide) (Nat.le_of_ble_eq_true rfl) ?_
  intro p_ ev_ s mi_ below_ meth cd_ ls F hK hN hO hH hS hl
  have hH : TH E (tbC (dayD (.inl (0, 18))) (dayD (.inl (0, 18))) (riverD (.inl Fa1) (.inl Fb1) (.inl (0, 4)) 31 33 35 39 43 47) (riverD (.inl Fa2) (.inl Fb2) (.inl (0, 4)) 32 34 36 40 44 48) (rcD (.inl (t, t)) (.inr kr) (.inr ks) (.inl kb)) rd tp A14F A14F A4F A4F A14F A14F (riverD (.inl Fa3) (.inl Fb3) (.inl (0, 4)) 3 8 3 41 45 49) (riverD (.inl Fa4) (.inl Fb4) (.inl (0, 4)) 3 8 3 42 46 50) ((.inr (.inl (0, 12, Pd1)))) ((.inr (.inl (0, 12, Pd2)))) ((.inr (.inl (0, 12, Pd3)))) ((.inr (.inl (0, 12, Pd4)))) ((.inr (.inl (0, 12, Ps1)))) ((.inr (.inl (0, 12, Ps2)))) ((.inr (.inl (0, 12, Ps3)))) ((.inr (.inl (0, 12, Ps4)))) ((.inr (.inl (0, 48, Pi1)))) ((.inr (.inl (0, 48, Pi2)))) ((.inr (.inl (0, 48, Pi3)))) ((.inr (.inl (0, 48, Pi4))))) s.heap := hH
  have hl : lv_has ls 3 [(0, .ref a0), (1, .int a1)] := hl
  refine lv_aload_n F.1 F.2.1 dX6_needs_0 rfl (lv_at hl 0 rfl) ?_
  refine lv_iload_n F.1 F.2.1 dX6_needs_1 rfl (lv_at hl 1 rfl) ?_
  refine tVi (b := a0) (As := [.int a1]) (rest := []) F hK hN hO (c_X6_isRight E rd tp kb Fa1 Fb1 Fa2 Fb2 Fa3 Fb3 Fa4 Fb4 kr ks Pd1 Pd2 Pd3 Pd4 Ps1 Ps2 Ps3 Ps4 Pi1 Pi2 Pi3 Pi4 t a0 a1 ha0 (by omega) hFa1 hFb1 hFa2 hFb2 hFa3 hFb3 hFa4 hFb4 hkr hks hPd1 hPd2 hPd3 hPd4 hPs1 hPs2 hPs3 hPs4 hPi1 hPi2 hPi3 hPi4) mv_X6_isRight wd_31_10 ⟨Nat.le_of_ble_eq_true rfl, Nat.le_of_ble_eq_true rfl⟩ ⟨Nat.le_of_ble_eq_true rfl, Nat.le_of_ble_eq_true rfl⟩ hH hS (tRecv hK hH (tyb ha0 (all1 rfl)) clX6) rfl hl.1 (Nat.le_of_ble_eq_true rfl) dX6_needs_2 (fun z_1 H locs hq hS => ?_)
  obtain ⟨f_2, f_3, hH⟩ := hq
  have hH : TH E (tbC (dayD (.inl (0, 18))) (dayD (.inl (0, 18))) (riverD (.inl Fa1) (.inl Fb1) (.inl (0, 4)) 31 33 35 39 43 47) (riverD (.inl Fa2) (.inl Fb2) (.inl (0, 4)) 32 34 36 40 44 48) (rcD (.inl (t, t)) (.inr kr) (.inr ks) (.inl kb)) rd tp A14F A14F A4F A4F A14F A14F (riverD (.inl Fa3) (.inl Fb3) (.inl (0, 4)) 3 8 3 41 45 49) (riverD (.inl Fa4) (.inl Fb4) (.inl (0, 4)) 3 8 3 42 46 50) ((.inr (.inl (0, 12, Pd1)))) ((.inr (.inl (0, 12, Pd2)))) ((.inr (.inl (0, 12, Pd3)))) ((.inr (.inl (0, 12, Pd4)))) ((.inr (.inl (0, 12, Ps1)))) ((.inr (.inl (0, 12, Ps2)))) ((.inr (.inl (0, 12, Ps3)))) ((.inr (.inl (0, 12, Ps4)))) ((.inr (.inl (0, 48, Pi1)))) ((.inr (.inl (0, 48, Pi2)))) ((.inr (.inl (0, 48, Pi3)))) ((.inr (.inl (0, 48, Pi4))))) H := hH
  refine z_ne (tgt := 10) F dX6_needs_5 (by decide) (fun c_4 => ?_) (fun c_4 => ?_)
  · skip
    have r_5 : 1 ≤ z_1.toInt ∧ z_1.toInt ≤ 1 := by have h9_ := f_2; omega
    have r_6 : 0 ≤ a1.toInt ∧ a1.toInt ≤ 13 := by have h9_ := (i32b a1); omega
    refine lv_aload_n F.1 F.2.1 dX6_needs_10 rfl (lv_at hl 0 rfl) ?_
    refine tGetR (j := 12) F hK hH (tyb ha0 (all1 rfl)) rfl (all1 rfl) clX6 (by decide) wd_2_11 dX6_needs_11 (fun q_8 hq_8 _ => ?_)
    refine lv_aload_n F.1 F.2.1 dX6_needs_14 rfl (lv_at hl 0 rfl) ?_
    refine tGetR0 (j := 2) F hK hH (tyb ha0 (all1 rfl)) rfl clX6 (by decide) wd_1_17 dX6_needs_15 (fun q_9 hq_9 => ?_)
    refine lv_aload_n F.1 F.2.1 dX6_needs_18 rfl (lv_at hl 0 rfl) ?_
    refine tGetR (j := 4) F hK hH (tyb ha0 (all1 rfl)) rfl (all1 rfl) clX6 (by decide) wd_1_22 dX6_needs_19 (fun q_10 hq_10 _ => ?_)
    refine tVv (b := q_8) (As := [.ref q_9, .ref q_10]) (rest := []) F hK hN hO (c_X1_begin E (rcD (.inl (t, t)) (.inr kr) (.inr ks) (.inl kb)) rd tp Fa1 Fb1 Fa2 Fb2 Fa3 Fb3 Fa4 Fb4 Pd1 Pd2 Pd3 Pd4 Ps1 Ps2 Ps3 Ps4 Pi1 Pi2 Pi3 Pi4 q_8 q_9 q_10 hq_8 (hkr _ hq_9) hq_10 hFa1 hFb1 hFa2 hFb2 hFa3 hFb3 hFa4 hFb4 hPd1 hPd2 hPd3 hPd4 hPs1 hPs2 hPs3 hPs4 hPi1 hPi2 hPi3 hPi4) mv_X1_begin wd_34_15 ⟨Nat.le_of_ble_eq_true rfl, Nat.le_of_ble_eq_true rfl⟩ ⟨Nat.le_of_ble_eq_true rfl, Nat.le_of_ble_eq_true rfl⟩ hH hS (tRecv hK hH (tyb hq_8 (all1 rfl)) clX1) rfl hl.1 (Nat.le_of_ble_eq_true rfl) dX6_needs_22 (fun H locs hq hS => ?_)
    have hH := hq
    have hH : TH E (tbC (dayD (.inl (0, 18))) (dayD (.inl (0, 18))) (riverD (.inl Fa1) (.inl Fb1) (.inl (0, 4)) 31 33 35 39 43 47) (riverD (.inl Fa2) (.inl Fb2) (.inl (0, 4)) 32 34 36 40 44 48) (rcD (.inl (t, t)) (.inr kr) (.inr ks) (.inl kb)) rd tp A14F A14F A4F A4F A14F A14F (riverD (.inl Fa3) (.inl Fb3) (.inl (0, 4)) 3 8 3 41 45 49) (riverD (.inl Fa4) (.inl Fb4) (.inl (0, 4)) 3 8 3 42 46 50) ((.inr (.inl (0, 12, Pd1)))) ((.inr (.inl (0, 12, Pd2)))) ((.inr (.inl (0, 12, Pd3)))) ((.inr (.inl (0, 12, Pd4)))) ((.inr (.inl (0, 12, Ps1)))) ((.inr (.inl (0, 12, Ps2)))) ((.inr (.inl (0, 12, Ps3)))) ((.inr (.inl (0, 12, Ps4)))) ((.inr (.inl (0, 48, Pi1)))) ((.inr (.inl (0, 48, Pi2)))) ((.inr (.inl (0, 48, Pi3)))) ((.inr (.inl (0, 48, Pi4))))) H := hH
    refine lv_iconst (v := 0) F.1 F.2.1 dX6_needs_25 (by decide) ?_
    refine topK (a := 0) (by decide) (fun k_12 hk_12 => ?_)
    refine lv_istore_n (lv' := [(2, .int k_12), (0, .ref a0), (1, .int a1)]) F.1 F.2.1 dX6_needs_26 rfl hl (by decide) rfl (fun ls hl => ?_)
    refine wloop (σ := Int32) (fun n9 x9 H locs ls => (401 - x9.toInt + 1).toNat < n9 ∧ (0 ≤ x9.toInt ∧ x9.toInt ≤ 401) ∧ TH E (tbC (dayD (.inl (0, 18))) (dayD (.inl (0, 18))) (riverD (.inl Fa1) (.inl Fb1) (.inl (0, 4)) 31 33 35 39 43 47) (riverD (.inl Fa2) (.inl Fb2) (.inl (0, 4)) 32 34 36 40 44 48) (rcD (.inl (t, t)) (.inr kr) (.inr ks) (.inl kb)) rd tp A14F A14F A4F A4F A14F A14F (riverD (.inl Fa3) (.inl Fb3) (.inl (0, 4)) 3 8 3 41 45 49) (riverD (.inl Fa4) (.inl Fb4) (.inl (0, 4)) 3 8 3 42 46 50) ((.inr (.inl (0, 12, Pd1)))) ((.inr (.inl (0, 12, Pd2)))) ((.inr (.inl (0, 12, Pd3)))) ((.inr (.inl (0, 12, Pd4)))) ((.inr (.inl (0, 12, Ps1)))) ((.inr (.inl (0, 12, Ps2)))) ((.inr (.inl (0, 12, Ps3)))) ((.inr (.inl (0, 12, Ps4)))) ((.inr (.inl (0, 48, Pi1)))) ((.inr (.inl (0, 48, Pi2)))) ((.inr (.inl (0, 48, Pi3)))) ((.inr (.inl (0, 48, Pi4))))) H ∧ va_S (eA E s.heap.size) s.heap H locs ∧ lv_has ls 3 [(0, .ref a0), (1, .int a1), (2, .int x9)]) ?_ (fun x9 H locs ls h => absurd h.1 (Nat.not_lt_zero _)) _ (k_12) ⟨Nat.lt_succ_self _, (wkb (eqb hk_12) rfl rfl), hH, hS, lv_sub hl [1, 2, 0] rfl⟩
    intro n_27 ih_27 u_13 H locs ls ⟨hm_27, hu_13, hH, hS, hl⟩
    have hm_27 : (401 - u_13.toInt + 1).toNat < n_27 + 1 := hm_27
    have hu_13 : (0 ≤ u_13.toInt ∧ u_13.toInt ≤ 401) := hu_13
    have hH : TH E (tbC (dayD (.inl (0, 18))) (dayD (.inl (0, 18))) (riverD (.inl Fa1) (.inl Fb1) (.inl (0, 4)) 31 33 35 39 43 47) (riverD (.inl Fa2) (.inl Fb2) (.inl (0, 4)) 32 34 36 40 44 48) (rcD (.inl (t, t)) (.inr kr) (.inr ks) (.inl kb)) rd tp A14F A14F A4F A4F A14F A14F (riverD (.inl Fa3) (.inl Fb3) (.inl (0, 4)) 3 8 3 41 45 49) (riverD (.inl Fa4) (.inl Fb4) (.inl (0, 4)) 3 8 3 42 46 50) ((.inr (.inl (0, 12, Pd1)))) ((.inr (.inl (0, 12, Pd2)))) ((.inr (.inl (0, 12, Pd3)))) ((.inr (.inl (0, 12, Pd4)))) ((.inr (.inl (0, 12, Ps1)))) ((.inr (.inl (0, 12, Ps2)))) ((.inr (.inl (0, 12, Ps3)))) ((.inr (.inl (0, 12, Ps4)))) ((.inr (.inl (0, 48, Pi1)))) ((.inr (.inl (0, 48, Pi2)))) ((.inr (.inl (0, 48, Pi3)))) ((.inr (.inl (0, 48, Pi4))))) H := hH
    have hl : lv_has ls 3 [(0, .ref a0), (1, .int a1), (2, .int u_13)] := hl
    refine lv_iload_n F.1 F.2.1 dX6_needs_27 rfl (lv_at hl 2 rfl) ?_
    refine lv_sipush (v := 400) F.1 F.2.1 dX6_needs_28 (by decide) ?_
    refine topK (a := 400) (by decide) (fun k_14 hk_14 => ?_)
    refine b_gt (tgt := 64) F dX6_needs_31 (by decide) (fun c_15 => ?_) (fun c_15 => ?_)
    · skip
      have r_16 : 401 ≤ u_13.toInt ∧ u_13.toInt ≤ 401 := by have h9_ := hu_13; omega
      refine lv_bipush (v := (-2)) F.1 F.2.1 dX6_needs_64 (by decide) ?_
      refine topK (a := (-2)) (by decide) (fun k_18 hk_18 => ?_)
      exact txI F hS dX6_needs_66 rfl (⟨(wkb (eqb hk_18) rfl rfl), hH⟩)
    · skip
      have r_17 : 0 ≤ u_13.toInt ∧ u_13.toInt ≤ 400 := by have h9_ := hu_13; omega
      refine lv_aload_n F.1 F.2.1 dX6_needs_34 rfl (lv_at hl 0 rfl) ?_
      refine tGetR (j := 12) F hK hH (tyb ha0 (all1 rfl)) rfl (all1 rfl) clX6 (by decide) wd_2_11 dX6_needs_35 (fun q_19 hq_19 _ => ?_)
      refine tGetR (j := 0) F hK hH (tyb hq_19 (all1 rfl)) rfl (all1 rfl) clX1 (by decide) wd_46_23 dX6_needs_38 (fun q_20 hq_20 _ => ?_)
      refine lv_iload_n F.1 F.2.1 dX6_needs_41 rfl (lv_at hl 2 rfl) ?_
      refine tPut (j := 1) F hK hH hS (tyb hq_20 (all1 rfl)) rfl (fdI (wkb r_17 rfl rfl)) clX5 (by decide) wd_30_18 rfl rfl rfl rfl dX6_needs_42 (fun H locs hH hS => ?_)
      refine lv_aload_n F.1 F.2.1 dX6_needs_45 rfl (lv_at hl 0 rfl) ?_
      refine tGetR (j := 12) F hK hH (tyb ha0 (all1 rfl)) rfl (all1 rfl) clX6 (by decide) wd_2_11 dX6_needs_46 (fun q_21 hq_21 _ => ?_)
      refine lv_iload_n F.1 F.2.1 dX6_needs_49 rfl (lv_at hl 1 rfl) ?_
      refine tVi (b := q_21) (As := [.int a1]) (rest := []) F hK hN hO (c_X1_isShortNow E (rcD (.inl (t, t)) (.inr kr) (.inr ks) (.inl kb)) rd tp Fa1 Fb1 Fa2 Fb2 Fa3 Fb3 Fa4 Fb4 Pd1 Pd2 Pd3 Pd4 Ps1 Ps2 Ps3 Ps4 Pi1 Pi2 Pi3 Pi4 q_21 a1 hq_21 r_6 hFa1 hFb1 hFa2 hFb2 hFa3 hFb3 hFa4 hFb4 hPd1 hPd2 hPd3 hPd4 hPs1 hPs2 hPs3 hPs4 hPi1 hPi2 hPi3 hPi4) mv_X1_isShortNow wd_47_0 ⟨Nat.le_of_ble_eq_true rfl, Nat.le_of_ble_eq_true rfl⟩ ⟨Nat.le_of_ble_eq_true rfl, Nat.le_of_ble_eq_true rfl⟩ hH hS (tRecv hK hH (tyb hq_21 (all1 rfl)) clX1) rfl hl.1 (Nat.le_of_ble_eq_true rfl) dX6_needs_50 (fun z_22 H locs hq hS => ?_)
      obtain ⟨f_23, hH⟩ := hq
      have hH : TH E (tbC (dayD (.inl (0, 18))) (dayD (.inl (0, 18))) (riverD (.inl Fa1) (.inl Fb1) (.inl (0, 4)) 31 33 35 39 43 47) (riverD (.inl Fa2) (.inl Fb2) (.inl (0, 4)) 32 34 36 40 44 48) (rcD (.inl (t, t)) (.inr kr) (.inr ks) (.inl kb)) rd tp A14F A14F A4F A4F A14F A14F (riverD (.inl Fa3) (.inl Fb3) (.inl (0, 4)) 3 8 3 41 45 49) (riverD (.inl Fa4) (.inl Fb4) (.inl (0, 4)) 3 8 3 42 46 50) ((.inr (.inl (0, 12, Pd1)))) ((.inr (.inl (0, 12, Pd2)))) ((.inr (.inl (0, 12, Pd3)))) ((.inr (.inl (0, 12, Pd4)))) ((.inr (.inl (0, 12, Ps1)))) ((.inr (.inl (0, 12, Ps2)))) ((.inr (.inl (0, 12, Ps3)))) ((.inr (.inl (0, 12, Ps4)))) ((.inr (.inl (0, 48, Pi1)))) ((.inr (.inl (0, 48, Pi2)))) ((.inr (.inl (0, 48, Pi3)))) ((.inr (.inl (0, 48, Pi4))))) H := hH
      refine z_ne (tgt := 58) F dX6_needs_53 (by decide) (fun c_24 => ?_) (fun c_24 => ?_)
      · skip
        have r_25 : 1 ≤ z_22.toInt ∧ z_22.toInt ≤ 1 := by have h9_ := f_23; omega
        obtain ⟨x_27, ex_27, hx_27⟩ := iincB (c := 1) (lo := 1) (hi := 401) r_17 rfl
        refine lv_iinc (v := x_27) (lv' := [(2, .int x_27), (0, .ref a0), (1, .int a1)]) F.1 F.2.1 dX6_needs_58 hl (k := 2) rfl ex_27 (by decide) rfl (fun ls hl => ?_)
        refine lv_goto (tgt := 27) F.1 F.2.1 dX6_needs_61 (by decide) ?_
        exact ih_27 (x_27) _ _ _ ⟨(show (401 - x_27.toInt + 1).toNat < n_27 from by omega), (wkb hx_27.2 rfl rfl), hH, hS, lv_sub hl [1, 2, 0] rfl⟩
      · skip
        have r_26 : 0 ≤ z_22.toInt ∧ z_22.toInt ≤ 0 := by have h9_ := f_23; omega
        refine lv_iload_n F.1 F.2.1 dX6_needs_56 rfl (lv_at hl 2 rfl) ?_
        exact txI F hS dX6_needs_57 rfl (⟨(wkb r_17 rfl rfl), hH⟩)
  · skip
    have r_7 : 0 ≤ z_1.toInt ∧ z_1.toInt ≤ 0 := by have h9_ := f_2; omega
    refine lv_iconst (v := (-1)) F.1 F.2.1 dX6_needs_8 (by decide) ?_
    refine topK (a := (-1)) (by decide) (fun k_28 hk_28 => ?_)
    exact txI F hS dX6_needs_9 rfl (⟨(wkb (eqb hk_28) rfl rfl), hH⟩)
set_option maxHeartbeats 4000000 in
set_option maxRecDepth 100000 in
theorem c_X6_firm (E : Ev) (rd : TD) (tp : TD) (kb : Int × Int) (Fa1 : Int × Int) (Fb1 : Int × Int) (Fa2 : Int × Int) (Fb2 : Int × Int) (Fa3 : Int × Int) (Fb3 : Int × Int) (Fa4 : Int × Int) (Fb4 : Int × Int) (kr : List Nat) (ks : List Nat) (Pd1 : (Nat → Int32) → Prop) (Pd2 : (Nat → Int32) → Prop) (Pd3 : (Nat → Int32) → Prop) (Pd4 : (Nat → Int32) → Prop) (Ps1 : (Nat → Int32) → Prop) (Ps2 : (Nat → Int32) → Prop) (Ps3 : (Nat → Int32) → Prop) (Ps4 : (Nat → Int32) → Prop) (Pi1 : (Nat → Int32) → Prop) (Pi2 : (Nat → Int32) → Prop) (Pi3 : (Nat → Int32) → Prop) (Pi4 : (Nat → Int32) → Prop) (t : Int) (a0 : Nat) (a1 : Int32) (a2 : Int32) (a3 : Int32) (ha0 : eT E a0 ∈ [28]) (ht : 0 ≤ t ∧ t ≤ 400) (hFa1 : 0 ≤ Fa1.1 ∧ Fa1.2 ≤ 12) (hFb1 : 0 ≤ Fb1.1 ∧ Fb1.2 ≤ 14) (hFa2 : 0 ≤ Fa2.1 ∧ Fa2.2 ≤ 12) (hFb2 : 0 ≤ Fb2.1 ∧ Fb2.2 ≤ 14) (hFa3 : 0 ≤ Fa3.1 ∧ Fa3.2 ≤ 12) (hFb3 : 0 ≤ Fb3.1 ∧ Fb3.2 ≤ 14) (hFa4 : 0 ≤ Fa4.1 ∧ Fa4.2 ≤ 12) (hFb4 : 0 ≤ Fb4.1 ∧ Fb4.2 ≤ 14) (hkr : ∀ t ∈ kr, t ∈ [26, 27]) (hks : ∀ t ∈ ks, t ∈ [26, 27]) (hPd1 : ∀ f, Pd1 f → ivP 12 (-2) 11 f) (hPd2 : ∀ f, Pd2 f → ivP 12 (-2) 11 f) (hPd3 : ∀ f, Pd3 f → ivP 12 (-2) 11 f) (hPd4 : ∀ f, Pd4 f → ivP 12 (-2) 11 f) (hPs1 : ∀ f, Ps1 f → ivP 12 (-2147483648) 2147483647 f) (hPs2 : ∀ f, Ps2 f → ivP 12 (-2147483648) 2147483647 f) (hPs3 : ∀ f, Ps3 f → ivP 12 (-2147483648) 2147483647 f) (hPs4 : ∀ f, Ps4 f → ivP 12 (-2147483648) 2147483647 f) (hPi1 : ∀ f, Pi1 f → ivP 48 (-2147483648) 2147483647 f) (hPi2 : ∀ f, Pi2 f → ivP 48 (-2147483648) 2147483647 f) (hPi3 : ∀ f, Pi3 f → ivP 48 (-2147483648) 2147483647 f) (hPi4 : ∀ f, Pi4 f → ivP 48 (-2147483648) 2147483647 f) : TcI E yX6_firm cX6_firm 4 .int ({ frames := 6, cells := 0, slots := 0, locals := 163 }) [.ref a0, .int a1, .int a2, .int a3] (fun H => TH E (tbC (dayD (.inl (0, 18))) (dayD (.inl (0, 18))) (riverD (.inl Fa1) (.inl Fb1) (.inl (0, 4)) 31 33 35 39 43 47) (riverD (.inl Fa2) (.inl Fb2) (.inl (0, 4)) 32 34 36 40 44 48) (rcD (.inl (t, t)) (.inr kr) (.inr ks) (.inl kb)) rd tp A14F A14F A4F A4F A14F A14F (riverD (.inl Fa3) (.inl Fb3) (.inl (0, 4)) 3 8 3 41 45 49) (riverD (.inl Fa4) (.inl Fb4) (.inl (0, 4)) 3 8 3 42 46 50) ((.inr (.inl (0, 12, Pd1)))) ((.inr (.inl (0, 12, Pd2)))) ((.inr (.inl (0, 12, Pd3)))) ((.inr (.inl (0, 12, Pd4)))) ((.inr (.inl (0, 12, Ps1)))) ((.inr (.inl (0, 12, Ps2)))) ((.inr (.inl (0, 12, Ps3)))) ((.inr (.inl (0, 12, Ps4)))) ((.inr (.inl (0, 48, Pi1)))) ((.inr (.inl (0, 48, Pi2)))) ((.inr (.inl (0, 48, Pi3)))) ((.inr (.inl (0, 48, Pi4))))) H) (fun v H => ((-2147483648) ≤ v.toInt ∧ v.toInt ≤ 2147483647) ∧ TH E (tbC (dayD (.inl (0, 18))) (dayD (.inl (0, 18))) (riverD (.inl Fa1) (.inl Fb1) (.inl (0, 4)) 31 33 35 39 43 47) (riverD (.inl Fa2) (.inl Fb2) (.inl (0, 4)) 32 34 36 40 44 48) (rcD (.inl (t, t)) (.inr kr) (.inr ks) (.inl kb)) rd tp A14F A14F A4F A4F A14F A14F (riverD (.inl Fa3) (.inl Fb3) (.inl (0, 4)) 3 8 3 41 45 49) (riverD (.inl Fa4) (.inl Fb4) (.inl (0, 4)) 3 8 3 42 46 50) ((.inr (.inl (0, 12, Pd1)))) ((.inr (.inl (0, 12, Pd2)))) ((.inr (.inl (0, 12, Pd3)))) ((.inr (.inl (0, 12, Pd4)))) ((.inr (.inl (0, 12, Ps1)))) ((.inr (.inl (0, 12, Ps2)))) ((.inr (.inl (0, 12, Ps3)))) ((.inr (.inl (0, 12, Ps4)))) ((.inr (.inl (0, 48, Pi1)))) ((.inr (.inl (0, 48, Pi2)))) ((.inr (.inl (0, 48, Pi3)))) ((.inr (.inl (0, 48, Pi4))))) H) := by
  refine teI (by decide) (Nat.le_of_ble_eq_true rfl) ?_
  intro p_ ev_ s mi_ below_ meth cd_ ls F hK hN hO hH hS hl
  have hH : TH E (tbC (dayD (.inl (0, 18))) (dayD (.inl (0, 18))) (riverD (.inl Fa1) (.inl Fb1) (.inl (0, 4)) 31 33 35 39 43 47) (riverD (.inl Fa2) (.inl Fb2) (.inl (0, 4)) 32 34 36 40 44 48) (rcD (.inl (t, t)) (.inr kr) (.inr ks) (.inl kb)) rd tp A14F A14F A4F A4F A14F A14F (riverD (.inl Fa3) (.inl Fb3) (.inl (0, 4)) 3 8 3 41 45 49) (riverD (.inl Fa4) (.inl Fb4) (.inl (0, 4)) 3 8 3 42 46 50) ((.inr (.inl (0, 12, Pd1)))) ((.inr (.inl (0, 12, Pd2)))) ((.inr (.inl (0, 12, Pd3)))) ((.inr (.inl (0, 12, Pd4)))) ((.inr (.inl (0, 12, Ps1)))) ((.inr (.inl (0, 12, Ps2)))) ((.inr (.inl (0, 12, Ps3)))) ((.inr (.inl (0, 12, Ps4)))) ((.inr (.inl (0, 48, Pi1)))) ((.inr (.inl (0, 48, Pi2)))) ((.inr (.inl (0, 48, Pi3)))) ((.inr (.inl (0, 48, Pi4))))) s.heap := hH
  have hl : lv_has ls 4 [(0, .ref a0), (1, .int a1), (2, .int a2), (3, .int a3)] := hl
  refine lv_aload_n F.1 F.2.1 dX6_firm_0 rfl (lv_at hl 0 rfl) ?_
  refine lv_iload_n F.1 F.2.1 dX6_firm_1 rfl (lv_at hl 1 rfl) ?_
  refine tVi (b := a0) (As := [.int a1]) (rest := []) F hK hN hO (c_X6_isRight E rd tp kb Fa1 Fb1 Fa2 Fb2 Fa3 Fb3 Fa4 Fb4 kr ks Pd1 Pd2 Pd3 Pd4 Ps1 Ps2 Ps3 Ps4 Pi1 Pi2 Pi3 Pi4 t a0 a1 ha0 (by omega) hFa1 hFb1 hFa2 hFb2 hFa3 hFb3 hFa4 hFb4 hkr hks hPd1 hPd2 hPd3 hPd4 hPs1 hPs2 hPs3 hPs4 hPi1 hPi2 hPi3 hPi4) mv_X6_isRight wd_31_10 ⟨Nat.le_of_ble_eq_true rfl, Nat.le_of_ble_eq_true rfl⟩ ⟨Nat.le_of_ble_eq_true rfl, Nat.le_of_ble_eq_true rfl⟩ hH hS (tRecv hK hH (tyb ha0 (all1 rfl)) clX6) rfl hl.1 (Nat.le_of_ble_eq_true rfl) dX6_firm_2 (fun z_1 H locs hq hS => ?_)
  obtain ⟨f_2, f_3, hH⟩ := hq
  have hH : TH E (tbC (dayD (.inl (0, 18))) (dayD (.inl (0, 18))) (riverD (.inl Fa1) (.inl Fb1) (.inl (0, 4)) 31 33 35 39 43 47) (riverD (.inl Fa2) (.inl Fb2) (.inl (0, 4)) 32 34 36 40 44 48) (rcD (.inl (t, t)) (.inr kr) (.inr ks) (.inl kb)) rd tp A14F A14F A4F A4F A14F A14F (riverD (.inl Fa3) (.inl Fb3) (.inl (0, 4)) 3 8 3 41 45 49) (riverD (.inl Fa4) (.inl Fb4) (.inl (0, 4)) 3 8 3 42 46 50) ((.inr (.inl (0, 12, Pd1)))) ((.inr (.inl (0, 12, Pd2)))) ((.inr (.inl (0, 12, Pd3)))) ((.inr (.inl (0, 12, Pd4)))) ((.inr (.inl (0, 12, Ps1)))) ((.inr (.inl (0, 12, Ps2)))) ((.inr (.inl (0, 12, Ps3)))) ((.inr (.inl (0, 12, Ps4)))) ((.inr (.inl (0, 48, Pi1)))) ((.inr (.inl (0, 48, Pi2)))) ((.inr (.inl (0, 48, Pi3)))) ((.inr (.inl (0, 48, Pi4))))) H := hH
  refine z_eq (tgt := 24) F dX6_firm_5 (by decide) (fun c_4 => ?_) (fun c_4 => ?_)
  · skip
    have r_5 : 0 ≤ z_1.toInt ∧ z_1.toInt ≤ 0 := by have h9_ := f_2; omega
    refine lv_iconst (v := (-1)) F.1 F.2.1 dX6_firm_24 (by decide) ?_
    refine topK (a := (-1)) (by decide) (fun k_8 hk_8 => ?_)
    exact txI F hS dX6_firm_25 rfl (⟨(wkb (eqb hk_8) rfl rfl), hH⟩)
  · skip
    have r_6 : 1 ≤ z_1.toInt ∧ z_1.toInt ≤ 1 := by have h9_ := f_2; omega
    have r_7 : 0 ≤ a1.toInt ∧ a1.toInt ≤ 13 := by have h9_ := (i32b a1); omega
    refine lv_iload_n F.1 F.2.1 dX6_firm_8 rfl (lv_at hl 2 rfl) ?_
    refine tSi (As := [.int a2]) (rest := []) F hK hN hO (c_X6_isSpan E (dayD (.inl (0, 18))) (dayD (.inl (0, 18))) (riverD (.inl Fa1) (.inl Fb1) (.inl (0, 4)) 31 33 35 39 43 47) (riverD (.inl Fa2) (.inl Fb2) (.inl (0, 4)) 32 34 36 40 44 48) (rcD (.inl (t, t)) (.inr kr) (.inr ks) (.inl kb)) rd tp A14F A14F A4F A4F A14F A14F (riverD (.inl Fa3) (.inl Fb3) (.inl (0, 4)) 3 8 3 41 45 49) (riverD (.inl Fa4) (.inl Fb4) (.inl (0, 4)) 3 8 3 42 46 50) ((.inr (.inl (0, 12, Pd1)))) ((.inr (.inl (0, 12, Pd2)))) ((.inr (.inl (0, 12, Pd3)))) ((.inr (.inl (0, 12, Pd4)))) ((.inr (.inl (0, 12, Ps1)))) ((.inr (.inl (0, 12, Ps2)))) ((.inr (.inl (0, 12, Ps3)))) ((.inr (.inl (0, 12, Ps4)))) ((.inr (.inl (0, 48, Pi1)))) ((.inr (.inl (0, 48, Pi2)))) ((.inr (.inl (0, 48, Pi3)))) ((.inr (.inl (0, 48, Pi4)))) a2) ms_X6_isSpan wd_47_14 ⟨Nat.le_of_ble_eq_true rfl, Nat.le_of_ble_eq_true rfl⟩ ⟨Nat.le_of_ble_eq_true rfl, Nat.le_of_ble_eq_true rfl⟩ hH hS rfl hl.1 (Nat.le_of_ble_eq_true rfl) dX6_firm_9 (fun z_9 H locs hq hS => ?_)
    obtain ⟨f_10, f_11, hH⟩ := hq
    have hH : TH E (tbC (dayD (.inl (0, 18))) (dayD (.inl (0, 18))) (riverD (.inl Fa1) (.inl Fb1) (.inl (0, 4)) 31 33 35 39 43 47) (riverD (.inl Fa2) (.inl Fb2) (.inl (0, 4)) 32 34 36 40 44 48) (rcD (.inl (t, t)) (.inr kr) (.inr ks) (.inl kb)) rd tp A14F A14F A4F A4F A14F A14F (riverD (.inl Fa3) (.inl Fb3) (.inl (0, 4)) 3 8 3 41 45 49) (riverD (.inl Fa4) (.inl Fb4) (.inl (0, 4)) 3 8 3 42 46 50) ((.inr (.inl (0, 12, Pd1)))) ((.inr (.inl (0, 12, Pd2)))) ((.inr (.inl (0, 12, Pd3)))) ((.inr (.inl (0, 12, Pd4)))) ((.inr (.inl (0, 12, Ps1)))) ((.inr (.inl (0, 12, Ps2)))) ((.inr (.inl (0, 12, Ps3)))) ((.inr (.inl (0, 12, Ps4)))) ((.inr (.inl (0, 48, Pi1)))) ((.inr (.inl (0, 48, Pi2)))) ((.inr (.inl (0, 48, Pi3)))) ((.inr (.inl (0, 48, Pi4))))) H := hH
    refine z_eq (tgt := 24) F dX6_firm_12 (by decide) (fun c_12 => ?_) (fun c_12 => ?_)
    · skip
      have r_13 : 0 ≤ z_9.toInt ∧ z_9.toInt ≤ 0 := by have h9_ := f_10; omega
      refine lv_iconst (v := (-1)) F.1 F.2.1 dX6_firm_24 (by decide) ?_
      refine topK (a := (-1)) (by decide) (fun k_16 hk_16 => ?_)
      exact txI F hS dX6_firm_25 rfl (⟨(wkb (eqb hk_16) rfl rfl), hH⟩)
    · skip
      have r_14 : 1 ≤ z_9.toInt ∧ z_9.toInt ≤ 1 := by have h9_ := f_10; omega
      have r_15 : 1 ≤ a2.toInt ∧ a2.toInt ≤ 360 := by have h9_ := (i32b a2); omega
      refine lv_iload_n F.1 F.2.1 dX6_firm_15 rfl (lv_at hl 3 rfl) ?_
      refine z_lt (tgt := 24) F dX6_firm_16 (by decide) (fun c_17 => ?_) (fun c_17 => ?_)
      · skip
        have r_18 : (-2147483648) ≤ a3.toInt ∧ a3.toInt ≤ (-1) := by have h9_ := (i32b a3); omega
        refine lv_iconst (v := (-1)) F.1 F.2.1 dX6_firm_24 (by decide) ?_
        refine topK (a := (-1)) (by decide) (fun k_20 hk_20 => ?_)
        exact txI F hS dX6_firm_25 rfl (⟨(wkb (eqb hk_20) rfl rfl), hH⟩)
      · skip
        have r_19 : 0 ≤ a3.toInt ∧ a3.toInt ≤ 2147483647 := by have h9_ := (i32b a3); omega
        refine lv_iload_n F.1 F.2.1 dX6_firm_19 rfl (lv_at hl 3 rfl) ?_
        refine lv_iconst (v := 2) F.1 F.2.1 dX6_firm_20 (by decide) ?_
        refine topK (a := 2) (by decide) (fun k_21 hk_21 => ?_)
        refine b_le (tgt := 26) F dX6_firm_21 (by decide) (fun c_22 => ?_) (fun c_22 => ?_)
        · skip
          have r_23 : 0 ≤ a3.toInt ∧ a3.toInt ≤ 2 := by have h9_ := r_19; omega
          refine lv_aload_n F.1 F.2.1 dX6_firm_26 rfl (lv_at hl 0 rfl) ?_
          refine tGetR (j := 12) F hK hH (tyb ha0 (all1 rfl)) rfl (all1 rfl) clX6 (by decide) wd_2_11 dX6_firm_27 (fun q_25 hq_25 _ => ?_)
          refine lv_aload_n F.1 F.2.1 dX6_firm_30 rfl (lv_at hl 0 rfl) ?_
          refine tGetR0 (j := 2) F hK hH (tyb ha0 (all1 rfl)) rfl clX6 (by decide) wd_1_17 dX6_firm_31 (fun q_26 hq_26 => ?_)
          refine lv_aload_n F.1 F.2.1 dX6_firm_34 rfl (lv_at hl 0 rfl) ?_
          refine tGetR (j := 4) F hK hH (tyb ha0 (all1 rfl)) rfl (all1 rfl) clX6 (by decide) wd_1_22 dX6_firm_35 (fun q_27 hq_27 _ => ?_)
          refine tVv (b := q_25) (As := [.ref q_26, .ref q_27]) (rest := []) F hK hN hO (c_X1_begin E (rcD (.inl (t, t)) (.inr kr) (.inr ks) (.inl kb)) rd tp Fa1 Fb1 Fa2 Fb2 Fa3 Fb3 Fa4 Fb4 Pd1 Pd2 Pd3 Pd4 Ps1 Ps2 Ps3 Ps4 Pi1 Pi2 Pi3 Pi4 q_25 q_26 q_27 hq_25 (hkr _ hq_26) hq_27 hFa1 hFb1 hFa2 hFb2 hFa3 hFb3 hFa4 hFb4 hPd1 hPd2 hPd3 hPd4 hPs1 hPs2 hPs3 hPs4 hPi1 hPi2 hPi3 hPi4) mv_X1_begin wd_34_15 ⟨Nat.le_of_ble_eq_true rfl, Nat.le_of_ble_eq_true rfl⟩ ⟨Nat.le_of_ble_eq_true rfl, Nat.le_of_ble_eq_true rfl⟩ hH hS (tRecv hK hH (tyb hq_25 (all1 rfl)) clX1) rfl hl.1 (Nat.le_of_ble_eq_true rfl) dX6_firm_38 (fun H locs hq hS => ?_)
          have hH := hq
          have hH : TH E (tbC (dayD (.inl (0, 18))) (dayD (.inl (0, 18))) (riverD (.inl Fa1) (.inl Fb1) (.inl (0, 4)) 31 33 35 39 43 47) (riverD (.inl Fa2) (.inl Fb2) (.inl (0, 4)) 32 34 36 40 44 48) (rcD (.inl (t, t)) (.inr kr) (.inr ks) (.inl kb)) rd tp A14F A14F A4F A4F A14F A14F (riverD (.inl Fa3) (.inl Fb3) (.inl (0, 4)) 3 8 3 41 45 49) (riverD (.inl Fa4) (.inl Fb4) (.inl (0, 4)) 3 8 3 42 46 50) ((.inr (.inl (0, 12, Pd1)))) ((.inr (.inl (0, 12, Pd2)))) ((.inr (.inl (0, 12, Pd3)))) ((.inr (.inl (0, 12, Pd4)))) ((.inr (.inl (0, 12, Ps1)))) ((.inr (.inl (0, 12, Ps2)))) ((.inr (.inl (0, 12, Ps3)))) ((.inr (.inl (0, 12, Ps4)))) ((.inr (.inl (0, 48, Pi1)))) ((.inr (.inl (0, 48, Pi2)))) ((.inr (.inl (0, 48, Pi3)))) ((.inr (.inl (0, 48, Pi4))))) H := hH
          refine lv_aload_n F.1 F.2.1 dX6_firm_41 rfl (lv_at hl 0 rfl) ?_
          refine tGetR (j := 12) F hK hH (tyb ha0 (all1 rfl)) rfl (all1 rfl) clX6 (by decide) wd_2_11 dX6_firm_42 (fun q_29 hq_29 _ => ?_)
          refine lv_iload_n F.1 F.2.1 dX6_firm_45 rfl (lv_at hl 2 rfl) ?_
          refine lv_iload_n F.1 F.2.1 dX6_firm_46 rfl (lv_at hl 1 rfl) ?_
          refine tVv (b := q_29) (As := [.int a2, .int a1]) (rest := []) F hK hN hO (c_X1_run E (rcD (.inl (t, t)) (.inr kr) (.inr ks) (.inl kb)) rd tp Fa1 Fb1 Fa2 Fb2 Fa3 Fb3 Fa4 Fb4 Pd1 Pd2 Pd3 Pd4 Ps1 Ps2 Ps3 Ps4 Pi1 Pi2 Pi3 Pi4 q_29 a2 a1 hq_29 r_15 hFa1 hFb1 hFa2 hFb2 hFa3 hFb3 hFa4 hFb4 hPd1 hPd2 hPd3 hPd4 hPs1 hPs2 hPs3 hPs4 hPi1 hPi2 hPi3 hPi4) mv_X1_run wd_35_2 ⟨Nat.le_of_ble_eq_true rfl, Nat.le_of_ble_eq_true rfl⟩ ⟨Nat.le_of_ble_eq_true rfl, Nat.le_of_ble_eq_true rfl⟩ hH hS (tRecv hK hH (tyb hq_29 (all1 rfl)) clX1) rfl hl.1 (Nat.le_of_ble_eq_true rfl) dX6_firm_47 (fun H locs hq hS => ?_)
          have hH := hq
          have hH : TH E (tbC (dayD (.inl (0, 18))) (dayD (.inl (0, 18))) (riverD (.inl Fa1) (.inl Fb1) (.inl (0, 4)) 31 33 35 39 43 47) (riverD (.inl Fa2) (.inl Fb2) (.inl (0, 4)) 32 34 36 40 44 48) (rcD (.inl (t, t)) (.inr kr) (.inr ks) (.inl kb)) rd tp A14F A14F A4F A4F A14F A14F (riverD (.inl Fa3) (.inl Fb3) (.inl (0, 4)) 3 8 3 41 45 49) (riverD (.inl Fa4) (.inl Fb4) (.inl (0, 4)) 3 8 3 42 46 50) ((.inr (.inl (0, 12, Pd1)))) ((.inr (.inl (0, 12, Pd2)))) ((.inr (.inl (0, 12, Pd3)))) ((.inr (.inl (0, 12, Pd4)))) ((.inr (.inl (0, 12, Ps1)))) ((.inr (.inl (0, 12, Ps2)))) ((.inr (.inl (0, 12, Ps3)))) ((.inr (.inl (0, 12, Ps4)))) ((.inr (.inl (0, 48, Pi1)))) ((.inr (.inl (0, 48, Pi2)))) ((.inr (.inl (0, 48, Pi3)))) ((.inr (.inl (0, 48, Pi4))))) H := hH
          refine lv_iload_n F.1 F.2.1 dX6_firm_50 rfl (lv_at hl 3 rfl) ?_
          rcases (by omega : (a3.toInt ≠ 0 ∧ a3.toInt ≠ 1) ∨ a3.toInt = 0 ∨ a3.toInt = 1) with w_31 | w_31 | w_31
          · skip
            refine tLookD (tgt := 93) F dX6_firm_51 (by decide) (by simp; omega) (by decide) ?_
            refine lv_aload_n F.1 F.2.1 dX6_firm_93 rfl (lv_at hl 0 rfl) ?_
            refine tGetR (j := 12) F hK hH (tyb ha0 (all1 rfl)) rfl (all1 rfl) clX6 (by decide) wd_2_11 dX6_firm_94 (fun q_32 hq_32 _ => ?_)
            refine tGetI (j := 7) F hK hH (tyb hq_32 (all1 rfl)) rfl clX1 (by decide) wd_47_13 dX6_firm_97 (fun z_33 hz_33 => ?_)
            exact txI F hS dX6_firm_100 rfl (⟨hz_33, hH⟩)
          · skip
            refine tLook (off := 25) (tgt := 76) F dX6_firm_51 w_31 (by decide) (by decide) (by decide) ?_
            refine lv_aload_n F.1 F.2.1 dX6_firm_76 rfl (lv_at hl 0 rfl) ?_
            refine tGetR (j := 12) F hK hH (tyb ha0 (all1 rfl)) rfl (all1 rfl) clX6 (by decide) wd_2_11 dX6_firm_77 (fun q_34 hq_34 _ => ?_)
            refine lv_iload_n F.1 F.2.1 dX6_firm_80 rfl (lv_at hl 1 rfl) ?_
            refine tVi (b := q_34) (As := [.int a1]) (rest := []) F hK hN hO (c_X1_tookOf E (rcD (.inl (t, t)) (.inr kr) (.inr ks) (.inl kb)) rd tp Fa1 Fb1 Fa2 Fb2 Fa3 Fb3 Fa4 Fb4 Pd1 Pd2 Pd3 Pd4 Ps1 Ps2 Ps3 Ps4 Pi1 Pi2 Pi3 Pi4 q_34 a1 hq_34 r_7 hFa1 hFb1 hFa2 hFb2 hFa3 hFb3 hFa4 hFb4 hPd1 hPd2 hPd3 hPd4 hPs1 hPs2 hPs3 hPs4 hPi1 hPi2 hPi3 hPi4) mv_X1_tookOf wd_36_13 ⟨Nat.le_of_ble_eq_true rfl, Nat.le_of_ble_eq_true rfl⟩ ⟨Nat.le_of_ble_eq_true rfl, Nat.le_of_ble_eq_true rfl⟩ hH hS (tRecv hK hH (tyb hq_34 (all1 rfl)) clX1) rfl hl.1 (Nat.le_of_ble_eq_true rfl) dX6_firm_81 (fun z_35 H locs hq hS => ?_)
            obtain ⟨f_36, hH⟩ := hq
            have hH : TH E (tbC (dayD (.inl (0, 18))) (dayD (.inl (0, 18))) (riverD (.inl Fa1) (.inl Fb1) (.inl (0, 4)) 31 33 35 39 43 47) (riverD (.inl Fa2) (.inl Fb2) (.inl (0, 4)) 32 34 36 40 44 48) (rcD (.inl (t, t)) (.inr kr) (.inr ks) (.inl kb)) rd tp A14F A14F A4F A4F A14F A14F (riverD (.inl Fa3) (.inl Fb3) (.inl (0, 4)) 3 8 3 41 45 49) (riverD (.inl Fa4) (.inl Fb4) (.inl (0, 4)) 3 8 3 42 46 50) ((.inr (.inl (0, 12, Pd1)))) ((.inr (.inl (0, 12, Pd2)))) ((.inr (.inl (0, 12, Pd3)))) ((.inr (.inl (0, 12, Pd4)))) ((.inr (.inl (0, 12, Ps1)))) ((.inr (.inl (0, 12, Ps2)))) ((.inr (.inl (0, 12, Ps3)))) ((.inr (.inl (0, 12, Ps4)))) ((.inr (.inl (0, 48, Pi1)))) ((.inr (.inl (0, 48, Pi2)))) ((.inr (.inl (0, 48, Pi3)))) ((.inr (.inl (0, 48, Pi4))))) H := hH
            exact txI F hS dX6_firm_84 rfl (⟨f_36, hH⟩)
          · skip
            refine tLook (off := 34) (tgt := 85) F dX6_firm_51 w_31 (by decide) (by decide) (by decide) ?_
            refine lv_aload_n F.1 F.2.1 dX6_firm_85 rfl (lv_at hl 0 rfl) ?_
            refine tGetR (j := 12) F hK hH (tyb ha0 (all1 rfl)) rfl (all1 rfl) clX6 (by decide) wd_2_11 dX6_firm_86 (fun q_37 hq_37 _ => ?_)
            refine tGetI (j := 6) F hK hH (tyb hq_37 (all1 rfl)) rfl clX1 (by decide) wd_47_12 dX6_firm_89 (fun z_38 hz_38 => ?_)
            exact txI F hS dX6_firm_92 rfl (⟨hz_38, hH⟩)
        · skip
          have r_24 : 3 ≤ a3.toInt ∧ a3.toInt ≤ 2147483647 := by have h9_ := r_19; omega
          refine lv_iconst (v := (-1)) F.1 F.2.1 dX6_firm_24 (by decide) ?_
          refine topK (a := (-1)) (by decide) (fun k_39 hk_39 => ?_)
          exact txI F hS dX6_firm_25 rfl (⟨(wkb (eqb hk_39) rfl rfl), hH⟩)
set_option maxHeartbeats 4000000 in
set_option maxRecDepth 100000 in
theorem c_X6_without (E : Ev) (rd : TD) (tp : TD) (kb : Int × Int) (Fa1 : Int × Int) (Fb1 : Int × Int) (Fa2 : Int × Int) (Fb2 : Int × Int) (Fa3 : Int × Int) (Fb3 : Int × Int) (Fa4 : Int × Int) (Fb4 : Int × Int) (kr : List Nat) (ks : List Nat) (Pd1 : (Nat → Int32) → Prop) (Pd2 : (Nat → Int32) → Prop) (Pd3 : (Nat → Int32) → Prop) (Pd4 : (Nat → Int32) → Prop) (Ps1 : (Nat → Int32) → Prop) (Ps2 : (Nat → Int32) → Prop) (Ps3 : (Nat → Int32) → Prop) (Ps4 : (Nat → Int32) → Prop) (Pi1 : (Nat → Int32) → Prop) (Pi2 : (Nat → Int32) → Prop) (Pi3 : (Nat → Int32) → Prop) (Pi4 : (Nat → Int32) → Prop) (t : Int) (a0 : Nat) (a1 : Int32) (a2 : Int32) (a3 : Int32) (ha0 : eT E a0 ∈ [28]) (ht : 0 ≤ t ∧ t ≤ 400) (hFa1 : 0 ≤ Fa1.1 ∧ Fa1.2 ≤ 12) (hFb1 : 0 ≤ Fb1.1 ∧ Fb1.2 ≤ 14) (hFa2 : 0 ≤ Fa2.1 ∧ Fa2.2 ≤ 12) (hFb2 : 0 ≤ Fb2.1 ∧ Fb2.2 ≤ 14) (hFa3 : 0 ≤ Fa3.1 ∧ Fa3.2 ≤ 12) (hFb3 : 0 ≤ Fb3.1 ∧ Fb3.2 ≤ 14) (hFa4 : 0 ≤ Fa4.1 ∧ Fa4.2 ≤ 12) (hFb4 : 0 ≤ Fb4.1 ∧ Fb4.2 ≤ 14) (hkr : ∀ t ∈ kr, t ∈ [26, 27]) (hks : ∀ t ∈ ks, t ∈ [26, 27]) (hPd1 : ∀ f, Pd1 f → ivP 12 (-2) 11 f) (hPd2 : ∀ f, Pd2 f → ivP 12 (-2) 11 f) (hPd3 : ∀ f, Pd3 f → ivP 12 (-2) 11 f) (hPd4 : ∀ f, Pd4 f → ivP 12 (-2) 11 f) (hPs1 : ∀ f, Ps1 f → ivP 12 (-2147483648) 2147483647 f) (hPs2 : ∀ f, Ps2 f → ivP 12 (-2147483648) 2147483647 f) (hPs3 : ∀ f, Ps3 f → ivP 12 (-2147483648) 2147483647 f) (hPs4 : ∀ f, Ps4 f → ivP 12 (-2147483648) 2147483647 f) (hPi1 : ∀ f, Pi1 f → ivP 48 (-2147483648) 2147483647 f) (hPi2 : ∀ f, Pi2 f → ivP 48 (-2147483648) 2147483647 f) (hPi3 : ∀ f, Pi3 f → ivP 48 (-2147483648) 2147483647 f) (hPi4 : ∀ f, Pi4 f → ivP 48 (-2147483648) 2147483647 f) : TcI E yX6_without cX6_without 5 .int ({ frames := 6, cells := 0, slots := 0, locals := 163 }) [.ref a0, .int a1, .int a2, .int a3] (fun H => TH E (tbC (dayD (.inl (0, 18))) (dayD (.inl (0, 18))) (riverD (.inl Fa1) (.inl Fb1) (.inl (0, 4)) 31 33 35 39 43 47) (riverD (.inl Fa2) (.inl Fb2) (.inl (0, 4)) 32 34 36 40 44 48) (rcD (.inl (t, t)) (.inr kr) (.inr ks) (.inl kb)) rd tp A14F A14F A4F A4F A14F A14F (riverD (.inl Fa3) (.inl Fb3) (.inl (0, 4)) 3 8 3 41 45 49) (riverD (.inl Fa4) (.inl Fb4) (.inl (0, 4)) 3 8 3 42 46 50) ((.inr (.inl (0, 12, Pd1)))) ((.inr (.inl (0, 12, Pd2)))) ((.inr (.inl (0, 12, Pd3)))) ((.inr (.inl (0, 12, Pd4)))) ((.inr (.inl (0, 12, Ps1)))) ((.inr (.inl (0, 12, Ps2)))) ((.inr (.inl (0, 12, Ps3)))) ((.inr (.inl (0, 12, Ps4)))) ((.inr (.inl (0, 48, Pi1)))) ((.inr (.inl (0, 48, Pi2)))) ((.inr (.inl (0, 48, Pi3)))) ((.inr (.inl (0, 48, Pi4))))) H) (fun v H => ((-2147483648) ≤ v.toInt ∧ v.toInt ≤ 2147483647) ∧ TH E (tbC (dayD (.inl (0, 18))) (dayD (.inl (0, 18))) (riverD (.inl Fa1) (.inl Fb1) (.inl (0, 4)) 31 33 35 39 43 47) (riverD (.inl Fa2) (.inl Fb2) (.inl (0, 4)) 32 34 36 40 44 48) (rcD (.inl (t, t)) (.inr kr) (.inr ks) (.inl kb)) rd tp A14F A14F A4F A4F A14F A14F (riverD (.inl Fa3) (.inl Fb3) (.inl (0, 4)) 3 8 3 41 45 49) (riverD (.inl Fa4) (.inl Fb4) (.inl (0, 4)) 3 8 3 42 46 50) ((.inr (.inl (0, 12, Pd1)))) ((.inr (.inl (0, 12, Pd2)))) ((.inr (.inl (0, 12, Pd3)))) ((.inr (.inl (0, 12, Pd4)))) ((.inr (.inl (0, 12, Ps1)))) ((.inr (.inl (0, 12, Ps2)))) ((.inr (.inl (0, 12, Ps3)))) ((.inr (.inl (0, 12, Ps4)))) ((.inr (.inl (0, 48, Pi1)))) ((.inr (.inl (0, 48, Pi2)))) ((.inr (.inl (0, 48, Pi3)))) ((.inr (.inl (0, 48, Pi4))))) H) := by
  refine teI (by decide) (Nat.le_of_ble_eq_true rfl) ?_
  intro p_ ev_ s mi_ below_ meth cd_ ls F hK hN hO hH hS hl
  have hH : TH E (tbC (dayD (.inl (0, 18))) (dayD (.inl (0, 18))) (riverD (.inl Fa1) (.inl Fb1) (.inl (0, 4)) 31 33 35 39 43 47) (riverD (.inl Fa2) (.inl Fb2) (.inl (0, 4)) 32 34 36 40 44 48) (rcD (.inl (t, t)) (.inr kr) (.inr ks) (.inl kb)) rd tp A14F A14F A4F A4F A14F A14F (riverD (.inl Fa3) (.inl Fb3) (.inl (0, 4)) 3 8 3 41 45 49) (riverD (.inl Fa4) (.inl Fb4) (.inl (0, 4)) 3 8 3 42 46 50) ((.inr (.inl (0, 12, Pd1)))) ((.inr (.inl (0, 12, Pd2)))) ((.inr (.inl (0, 12, Pd3)))) ((.inr (.inl (0, 12, Pd4)))) ((.inr (.inl (0, 12, Ps1)))) ((.inr (.inl (0, 12, Ps2)))) ((.inr (.inl (0, 12, Ps3)))) ((.inr (.inl (0, 12, Ps4)))) ((.inr (.inl (0, 48, Pi1)))) ((.inr (.inl (0, 48, Pi2)))) ((.inr (.inl (0, 48, Pi3)))) ((.inr (.inl (0, 48, Pi4))))) s.heap := hH
  have hl : lv_has ls 5 [(0, .ref a0), (1, .int a1), (2, .int a2), (3, .int a3)] := hl
  refine lv_aload_n F.1 F.2.1 dX6_without_0 rfl (lv_at hl 0 rfl) ?_
  refine lv_iload_n F.1 F.2.1 dX6_without_1 rfl (lv_at hl 1 rfl) ?_
  refine lv_iload_n F.1 F.2.1 dX6_without_2 rfl (lv_at hl 2 rfl) ?_
  refine tVi (b := a0) (As := [.int a1, .int a2]) (rest := []) F hK hN hO (c_X6_areTwoRights E rd tp kb Fa1 Fb1 Fa2 Fb2 Fa3 Fb3 Fa4 Fb4 kr ks Pd1 Pd2 Pd3 Pd4 Ps1 Ps2 Ps3 Ps4 Pi1 Pi2 Pi3 Pi4 t a0 a1 a2 ha0 (by omega) hFa1 hFb1 hFa2 hFb2 hFa3 hFb3 hFa4 hFb4 hkr hks hPd1 hPd2 hPd3 hPd4 hPs1 hPs2 hPs3 hPs4 hPi1 hPi2 hPi3 hPi4) mv_X6_areTwoRights wd_33_14 ⟨Nat.le_of_ble_eq_true rfl, Nat.le_of_ble_eq_true rfl⟩ ⟨Nat.le_of_ble_eq_true rfl, Nat.le_of_ble_eq_true rfl⟩ hH hS (tRecv hK hH (tyb ha0 (all1 rfl)) clX6) rfl hl.1 (Nat.le_of_ble_eq_true rfl) dX6_without_3 (fun z_1 H locs hq hS => ?_)
  obtain ⟨f_2, f_3, f_4, hH⟩ := hq
  have hH : TH E (tbC (dayD (.inl (0, 18))) (dayD (.inl (0, 18))) (riverD (.inl Fa1) (.inl Fb1) (.inl (0, 4)) 31 33 35 39 43 47) (riverD (.inl Fa2) (.inl Fb2) (.inl (0, 4)) 32 34 36 40 44 48) (rcD (.inl (t, t)) (.inr kr) (.inr ks) (.inl kb)) rd tp A14F A14F A4F A4F A14F A14F (riverD (.inl Fa3) (.inl Fb3) (.inl (0, 4)) 3 8 3 41 45 49) (riverD (.inl Fa4) (.inl Fb4) (.inl (0, 4)) 3 8 3 42 46 50) ((.inr (.inl (0, 12, Pd1)))) ((.inr (.inl (0, 12, Pd2)))) ((.inr (.inl (0, 12, Pd3)))) ((.inr (.inl (0, 12, Pd4)))) ((.inr (.inl (0, 12, Ps1)))) ((.inr (.inl (0, 12, Ps2)))) ((.inr (.inl (0, 12, Ps3)))) ((.inr (.inl (0, 12, Ps4)))) ((.inr (.inl (0, 48, Pi1)))) ((.inr (.inl (0, 48, Pi2)))) ((.inr (.inl (0, 48, Pi3)))) ((.inr (.inl (0, 48, Pi4))))) H := hH
  refine z_eq (tgt := 16) F dX6_without_6 (by decide) (fun c_5 => ?_) (fun c_5 => ?_)
  · skip
    have r_6 : 0 ≤ z_1.toInt ∧ z_1.toInt ≤ 0 := by have h9_ := f_2; omega
    refine lv_ldcw (own := RX6) (v := (-2147483648)) F.1 F.2.1 F.2.2.2.2.1 (F.2.2.2.2.2.2.1 _ wd_48_3) dX6_without_16 ?_
    refine topK (a := (-2147483648)) (by decide) (fun k_10 hk_10 => ?_)
    exact txI F hS dX6_without_19 rfl (⟨(wkb (eqb hk_10) rfl rfl), hH⟩)
  · skip
    have r_7 : 1 ≤ z_1.toInt ∧ z_1.toInt ≤ 1 := by have h9_ := f_2; omega
    have r_8 : 0 ≤ a1.toInt ∧ a1.toInt ≤ 13 := by have h9_ := (i32b a1); omega
    have r_9 : 0 ≤ a2.toInt ∧ a2.toInt ≤ 13 := by have h9_ := (i32b a2); omega
    refine lv_iload_n F.1 F.2.1 dX6_without_9 rfl (lv_at hl 3 rfl) ?_
    refine tSi (As := [.int a3]) (rest := []) F hK hN hO (c_X6_isSpan E (dayD (.inl (0, 18))) (dayD (.inl (0, 18))) (riverD (.inl Fa1) (.inl Fb1) (.inl (0, 4)) 31 33 35 39 43 47) (riverD (.inl Fa2) (.inl Fb2) (.inl (0, 4)) 32 34 36 40 44 48) (rcD (.inl (t, t)) (.inr kr) (.inr ks) (.inl kb)) rd tp A14F A14F A4F A4F A14F A14F (riverD (.inl Fa3) (.inl Fb3) (.inl (0, 4)) 3 8 3 41 45 49) (riverD (.inl Fa4) (.inl Fb4) (.inl (0, 4)) 3 8 3 42 46 50) ((.inr (.inl (0, 12, Pd1)))) ((.inr (.inl (0, 12, Pd2)))) ((.inr (.inl (0, 12, Pd3)))) ((.inr (.inl (0, 12, Pd4)))) ((.inr (.inl (0, 12, Ps1)))) ((.inr (.inl (0, 12, Ps2)))) ((.inr (.inl (0, 12, Ps3)))) ((.inr (.inl (0, 12, Ps4)))) ((.inr (.inl (0, 48, Pi1)))) ((.inr (.inl (0, 48, Pi2)))) ((.inr (.inl (0, 48, Pi3)))) ((.inr (.inl (0, 48, Pi4)))) a3) ms_X6_isSpan wd_47_14 ⟨Nat.le_of_ble_eq_true rfl, Nat.le_of_ble_eq_true rfl⟩ ⟨Nat.le_of_ble_eq_true rfl, Nat.le_of_ble_eq_true rfl⟩ hH hS rfl hl.1 (Nat.le_of_ble_eq_true rfl) dX6_without_10 (fun z_11 H locs hq hS => ?_)
    obtain ⟨f_12, f_13, hH⟩ := hq
    have hH : TH E (tbC (dayD (.inl (0, 18))) (dayD (.inl (0, 18))) (riverD (.inl Fa1) (.inl Fb1) (.inl (0, 4)) 31 33 35 39 43 47) (riverD (.inl Fa2) (.inl Fb2) (.inl (0, 4)) 32 34 36 40 44 48) (rcD (.inl (t, t)) (.inr kr) (.inr ks) (.inl kb)) rd tp A14F A14F A4F A4F A14F A14F (riverD (.inl Fa3) (.inl Fb3) (.inl (0, 4)) 3 8 3 41 45 49) (riverD (.inl Fa4) (.inl Fb4) (.inl (0, 4)) 3 8 3 42 46 50) ((.inr (.inl (0, 12, Pd1)))) ((.inr (.inl (0, 12, Pd2)))) ((.inr (.inl (0, 12, Pd3)))) ((.inr (.inl (0, 12, Pd4)))) ((.inr (.inl (0, 12, Ps1)))) ((.inr (.inl (0, 12, Ps2)))) ((.inr (.inl (0, 12, Ps3)))) ((.inr (.inl (0, 12, Ps4)))) ((.inr (.inl (0, 48, Pi1)))) ((.inr (.inl (0, 48, Pi2)))) ((.inr (.inl (0, 48, Pi3)))) ((.inr (.inl (0, 48, Pi4))))) H := hH
    refine z_ne (tgt := 20) F dX6_without_13 (by decide) (fun c_14 => ?_) (fun c_14 => ?_)
    · skip
      have r_15 : 1 ≤ z_11.toInt ∧ z_11.toInt ≤ 1 := by have h9_ := f_12; omega
      have r_16 : 1 ≤ a3.toInt ∧ a3.toInt ≤ 360 := by have h9_ := (i32b a3); omega
      refine lv_aload_n F.1 F.2.1 dX6_without_20 rfl (lv_at hl 0 rfl) ?_
      refine tGetR (j := 12) F hK hH (tyb ha0 (all1 rfl)) rfl (all1 rfl) clX6 (by decide) wd_2_11 dX6_without_21 (fun q_18 hq_18 _ => ?_)
      refine lv_aload_n F.1 F.2.1 dX6_without_24 rfl (lv_at hl 0 rfl) ?_
      refine tGetR0 (j := 2) F hK hH (tyb ha0 (all1 rfl)) rfl clX6 (by decide) wd_1_17 dX6_without_25 (fun q_19 hq_19 => ?_)
      refine lv_aload_n F.1 F.2.1 dX6_without_28 rfl (lv_at hl 0 rfl) ?_
      refine tGetR (j := 4) F hK hH (tyb ha0 (all1 rfl)) rfl (all1 rfl) clX6 (by decide) wd_1_22 dX6_without_29 (fun q_20 hq_20 _ => ?_)
      refine tVv (b := q_18) (As := [.ref q_19, .ref q_20]) (rest := []) F hK hN hO (c_X1_begin E (rcD (.inl (t, t)) (.inr kr) (.inr ks) (.inl kb)) rd tp Fa1 Fb1 Fa2 Fb2 Fa3 Fb3 Fa4 Fb4 Pd1 Pd2 Pd3 Pd4 Ps1 Ps2 Ps3 Ps4 Pi1 Pi2 Pi3 Pi4 q_18 q_19 q_20 hq_18 (hkr _ hq_19) hq_20 hFa1 hFb1 hFa2 hFb2 hFa3 hFb3 hFa4 hFb4 hPd1 hPd2 hPd3 hPd4 hPs1 hPs2 hPs3 hPs4 hPi1 hPi2 hPi3 hPi4) mv_X1_begin wd_34_15 ⟨Nat.le_of_ble_eq_true rfl, Nat.le_of_ble_eq_true rfl⟩ ⟨Nat.le_of_ble_eq_true rfl, Nat.le_of_ble_eq_true rfl⟩ hH hS (tRecv hK hH (tyb hq_18 (all1 rfl)) clX1) rfl hl.1 (Nat.le_of_ble_eq_true rfl) dX6_without_32 (fun H locs hq hS => ?_)
      have hH := hq
      have hH : TH E (tbC (dayD (.inl (0, 18))) (dayD (.inl (0, 18))) (riverD (.inl Fa1) (.inl Fb1) (.inl (0, 4)) 31 33 35 39 43 47) (riverD (.inl Fa2) (.inl Fb2) (.inl (0, 4)) 32 34 36 40 44 48) (rcD (.inl (t, t)) (.inr kr) (.inr ks) (.inl kb)) rd tp A14F A14F A4F A4F A14F A14F (riverD (.inl Fa3) (.inl Fb3) (.inl (0, 4)) 3 8 3 41 45 49) (riverD (.inl Fa4) (.inl Fb4) (.inl (0, 4)) 3 8 3 42 46 50) ((.inr (.inl (0, 12, Pd1)))) ((.inr (.inl (0, 12, Pd2)))) ((.inr (.inl (0, 12, Pd3)))) ((.inr (.inl (0, 12, Pd4)))) ((.inr (.inl (0, 12, Ps1)))) ((.inr (.inl (0, 12, Ps2)))) ((.inr (.inl (0, 12, Ps3)))) ((.inr (.inl (0, 12, Ps4)))) ((.inr (.inl (0, 48, Pi1)))) ((.inr (.inl (0, 48, Pi2)))) ((.inr (.inl (0, 48, Pi3)))) ((.inr (.inl (0, 48, Pi4))))) H := hH
      refine lv_aload_n F.1 F.2.1 dX6_without_35 rfl (lv_at hl 0 rfl) ?_
      refine tGetR (j := 12) F hK hH (tyb ha0 (all1 rfl)) rfl (all1 rfl) clX6 (by decide) wd_2_11 dX6_without_36 (fun q_22 hq_22 _ => ?_)
      refine lv_iload_n F.1 F.2.1 dX6_without_39 rfl (lv_at hl 3 rfl) ?_
      refine lv_iload_n F.1 F.2.1 dX6_without_40 rfl (lv_at hl 1 rfl) ?_
      refine tVv (b := q_22) (As := [.int a3, .int a1]) (rest := []) F hK hN hO (c_X1_run E (rcD (.inl (t, t)) (.inr kr) (.inr ks) (.inl kb)) rd tp Fa1 Fb1 Fa2 Fb2 Fa3 Fb3 Fa4 Fb4 Pd1 Pd2 Pd3 Pd4 Ps1 Ps2 Ps3 Ps4 Pi1 Pi2 Pi3 Pi4 q_22 a3 a1 hq_22 r_16 hFa1 hFb1 hFa2 hFb2 hFa3 hFb3 hFa4 hFb4 hPd1 hPd2 hPd3 hPd4 hPs1 hPs2 hPs3 hPs4 hPi1 hPi2 hPi3 hPi4) mv_X1_run wd_35_2 ⟨Nat.le_of_ble_eq_true rfl, Nat.le_of_ble_eq_true rfl⟩ ⟨Nat.le_of_ble_eq_true rfl, Nat.le_of_ble_eq_true rfl⟩ hH hS (tRecv hK hH (tyb hq_22 (all1 rfl)) clX1) rfl hl.1 (Nat.le_of_ble_eq_true rfl) dX6_without_41 (fun H locs hq hS => ?_)
      have hH := hq
      have hH : TH E (tbC (dayD (.inl (0, 18))) (dayD (.inl (0, 18))) (riverD (.inl Fa1) (.inl Fb1) (.inl (0, 4)) 31 33 35 39 43 47) (riverD (.inl Fa2) (.inl Fb2) (.inl (0, 4)) 32 34 36 40 44 48) (rcD (.inl (t, t)) (.inr kr) (.inr ks) (.inl kb)) rd tp A14F A14F A4F A4F A14F A14F (riverD (.inl Fa3) (.inl Fb3) (.inl (0, 4)) 3 8 3 41 45 49) (riverD (.inl Fa4) (.inl Fb4) (.inl (0, 4)) 3 8 3 42 46 50) ((.inr (.inl (0, 12, Pd1)))) ((.inr (.inl (0, 12, Pd2)))) ((.inr (.inl (0, 12, Pd3)))) ((.inr (.inl (0, 12, Pd4)))) ((.inr (.inl (0, 12, Ps1)))) ((.inr (.inl (0, 12, Ps2)))) ((.inr (.inl (0, 12, Ps3)))) ((.inr (.inl (0, 12, Ps4)))) ((.inr (.inl (0, 48, Pi1)))) ((.inr (.inl (0, 48, Pi2)))) ((.inr (.inl (0, 48, Pi3)))) ((.inr (.inl (0, 48, Pi4))))) H := hH
      refine lv_aload_n F.1 F.2.1 dX6_without_44 rfl (lv_at hl 0 rfl) ?_
      refine tGetR (j := 12) F hK hH (tyb ha0 (all1 rfl)) rfl (all1 rfl) clX6 (by decide) wd_2_11 dX6_without_45 (fun q_24 hq_24 _ => ?_)
      refine lv_iload_n F.1 F.2.1 dX6_without_48 rfl (lv_at hl 1 rfl) ?_
      refine tVi (b := q_24) (As := [.int a1]) (rest := []) F hK hN hO (c_X1_tookOf E (rcD (.inl (t, t)) (.inr kr) (.inr ks) (.inl kb)) rd tp Fa1 Fb1 Fa2 Fb2 Fa3 Fb3 Fa4 Fb4 Pd1 Pd2 Pd3 Pd4 Ps1 Ps2 Ps3 Ps4 Pi1 Pi2 Pi3 Pi4 q_24 a1 hq_24 r_8 hFa1 hFb1 hFa2 hFb2 hFa3 hFb3 hFa4 hFb4 hPd1 hPd2 hPd3 hPd4 hPs1 hPs2 hPs3 hPs4 hPi1 hPi2 hPi3 hPi4) mv_X1_tookOf wd_36_13 ⟨Nat.le_of_ble_eq_true rfl, Nat.le_of_ble_eq_true rfl⟩ ⟨Nat.le_of_ble_eq_true rfl, Nat.le_of_ble_eq_true rfl⟩ hH hS (tRecv hK hH (tyb hq_24 (all1 rfl)) clX1) rfl hl.1 (Nat.le_of_ble_eq_true rfl) dX6_without_49 (fun z_25 H locs hq hS => ?_)
      obtain ⟨f_26, hH⟩ := hq
      have hH : TH E (tbC (dayD (.inl (0, 18))) (dayD (.inl (0, 18))) (riverD (.inl Fa1) (.inl Fb1) (.inl (0, 4)) 31 33 35 39 43 47) (riverD (.inl Fa2) (.inl Fb2) (.inl (0, 4)) 32 34 36 40 44 48) (rcD (.inl (t, t)) (.inr kr) (.inr ks) (.inl kb)) rd tp A14F A14F A4F A4F A14F A14F (riverD (.inl Fa3) (.inl Fb3) (.inl (0, 4)) 3 8 3 41 45 49) (riverD (.inl Fa4) (.inl Fb4) (.inl (0, 4)) 3 8 3 42 46 50) ((.inr (.inl (0, 12, Pd1)))) ((.inr (.inl (0, 12, Pd2)))) ((.inr (.inl (0, 12, Pd3)))) ((.inr (.inl (0, 12, Pd4)))) ((.inr (.inl (0, 12, Ps1)))) ((.inr (.inl (0, 12, Ps2)))) ((.inr (.inl (0, 12, Ps3)))) ((.inr (.inl (0, 12, Ps4)))) ((.inr (.inl (0, 48, Pi1)))) ((.inr (.inl (0, 48, Pi2)))) ((.inr (.inl (0, 48, Pi3)))) ((.inr (.inl (0, 48, Pi4))))) H := hH
      refine lv_istore (lv' := [(4, .int z_25), (0, .ref a0), (1, .int a1), (2, .int a2), (3, .int a3)]) F.1 F.2.1 dX6_without_52 hl (by decide) rfl (fun ls hl => ?_)
      refine lv_aload_n F.1 F.2.1 dX6_without_54 rfl (lv_at hl 1 rfl) ?_
      refine tGetR (j := 12) F hK hH (tyb ha0 (all1 rfl)) rfl (all1 rfl) clX6 (by decide) wd_2_11 dX6_without_55 (fun q_27 hq_27 _ => ?_)
      refine lv_aload_n F.1 F.2.1 dX6_without_58 rfl (lv_at hl 1 rfl) ?_
      refine tGetR0 (j := 2) F hK hH (tyb ha0 (all1 rfl)) rfl clX6 (by decide) wd_1_17 dX6_without_59 (fun q_28 hq_28 => ?_)
      refine lv_aload_n F.1 F.2.1 dX6_without_62 rfl (lv_at hl 1 rfl) ?_
      refine tGetR (j := 4) F hK hH (tyb ha0 (all1 rfl)) rfl (all1 rfl) clX6 (by decide) wd_1_22 dX6_without_63 (fun q_29 hq_29 _ => ?_)
      refine tVv (b := q_27) (As := [.ref q_28, .ref q_29]) (rest := []) F hK hN hO (c_X1_begin E (rcD (.inl (t, t)) (.inr kr) (.inr ks) (.inl kb)) rd tp Fa1 Fb1 Fa2 Fb2 Fa3 Fb3 Fa4 Fb4 Pd1 Pd2 Pd3 Pd4 Ps1 Ps2 Ps3 Ps4 Pi1 Pi2 Pi3 Pi4 q_27 q_28 q_29 hq_27 (hkr _ hq_28) hq_29 hFa1 hFb1 hFa2 hFb2 hFa3 hFb3 hFa4 hFb4 hPd1 hPd2 hPd3 hPd4 hPs1 hPs2 hPs3 hPs4 hPi1 hPi2 hPi3 hPi4) mv_X1_begin wd_34_15 ⟨Nat.le_of_ble_eq_true rfl, Nat.le_of_ble_eq_true rfl⟩ ⟨Nat.le_of_ble_eq_true rfl, Nat.le_of_ble_eq_true rfl⟩ hH hS (tRecv hK hH (tyb hq_27 (all1 rfl)) clX1) rfl hl.1 (Nat.le_of_ble_eq_true rfl) dX6_without_66 (fun H locs hq hS => ?_)
      have hH := hq
      have hH : TH E (tbC (dayD (.inl (0, 18))) (dayD (.inl (0, 18))) (riverD (.inl Fa1) (.inl Fb1) (.inl (0, 4)) 31 33 35 39 43 47) (riverD (.inl Fa2) (.inl Fb2) (.inl (0, 4)) 32 34 36 40 44 48) (rcD (.inl (t, t)) (.inr kr) (.inr ks) (.inl kb)) rd tp A14F A14F A4F A4F A14F A14F (riverD (.inl Fa3) (.inl Fb3) (.inl (0, 4)) 3 8 3 41 45 49) (riverD (.inl Fa4) (.inl Fb4) (.inl (0, 4)) 3 8 3 42 46 50) ((.inr (.inl (0, 12, Pd1)))) ((.inr (.inl (0, 12, Pd2)))) ((.inr (.inl (0, 12, Pd3)))) ((.inr (.inl (0, 12, Pd4)))) ((.inr (.inl (0, 12, Ps1)))) ((.inr (.inl (0, 12, Ps2)))) ((.inr (.inl (0, 12, Ps3)))) ((.inr (.inl (0, 12, Ps4)))) ((.inr (.inl (0, 48, Pi1)))) ((.inr (.inl (0, 48, Pi2)))) ((.inr (.inl (0, 48, Pi3)))) ((.inr (.inl (0, 48, Pi4))))) H := hH
      refine lv_aload_n F.1 F.2.1 dX6_without_69 rfl (lv_at hl 1 rfl) ?_
      refine tGetR (j := 12) F hK hH (tyb ha0 (all1 rfl)) rfl (all1 rfl) clX6 (by decide) wd_2_11 dX6_without_70 (fun q_31 hq_31 _ => ?_)
      refine tGetR (j := 0) F hK hH (tyb hq_31 (all1 rfl)) rfl (all1 rfl) clX1 (by decide) wd_46_23 dX6_without_73 (fun q_32 hq_32 _ => ?_)
      refine tGetR (j := 4) F hK hH (tyb hq_32 (all1 rfl)) rfl (all1 rfl) clX5 (by decide) wd_31_9 dX6_without_76 (fun q_33 hq_33 _ => ?_)
      refine lv_iload_n F.1 F.2.1 dX6_without_79 rfl (lv_at hl 3 rfl) ?_
      refine lv_iconst (v := 0) F.1 F.2.1 dX6_without_80 (by decide) ?_
      refine topK (a := 0) (by decide) (fun k_34 hk_34 => ?_)
      refine tIastB F hK hH hS (tyb hq_33 (all1 rfl)) (ixb (n := 14) r_9 rfl rfl) (wkb (eqb hk_34) rfl rfl) dX6_without_81 (fun H locs hH hS => ?_)
      refine lv_aload_n F.1 F.2.1 dX6_without_82 rfl (lv_at hl 1 rfl) ?_
      refine tGetR (j := 12) F hK hH (tyb ha0 (all1 rfl)) rfl (all1 rfl) clX6 (by decide) wd_2_11 dX6_without_83 (fun q_35 hq_35 _ => ?_)
      refine lv_iload_n F.1 F.2.1 dX6_without_86 rfl (lv_at hl 4 rfl) ?_
      refine lv_iload_n F.1 F.2.1 dX6_without_87 rfl (lv_at hl 2 rfl) ?_
      refine tVv (b := q_35) (As := [.int a3, .int a1]) (rest := []) F hK hN hO (c_X1_run E (rcD (.inl (t, t)) (.inr kr) (.inr ks) (.inl kb)) rd tp Fa1 Fb1 Fa2 Fb2 Fa3 Fb3 Fa4 Fb4 Pd1 Pd2 Pd3 Pd4 Ps1 Ps2 Ps3 Ps4 Pi1 Pi2 Pi3 Pi4 q_35 a3 a1 hq_35 r_16 hFa1 hFb1 hFa2 hFb2 hFa3 hFb3 hFa4 hFb4 hPd1 hPd2 hPd3 hPd4 hPs1 hPs2 hPs3 hPs4 hPi1 hPi2 hPi3 hPi4) mv_X1_run wd_35_2 ⟨Nat.le_of_ble_eq_true rfl, Nat.le_of_ble_eq_true rfl⟩ ⟨Nat.le_of_ble_eq_true rfl, Nat.le_of_ble_eq_true rfl⟩ hH hS (tRecv hK hH (tyb hq_35 (all1 rfl)) clX1) rfl hl.1 (Nat.le_of_ble_eq_true rfl) dX6_without_88 (fun H locs hq hS => ?_)
      have hH := hq
      have hH : TH E (tbC (dayD (.inl (0, 18))) (dayD (.inl (0, 18))) (riverD (.inl Fa1) (.inl Fb1) (.inl (0, 4)) 31 33 35 39 43 47) (riverD (.inl Fa2) (.inl Fb2) (.inl (0, 4)) 32 34 36 40 44 48) (rcD (.inl (t, t)) (.inr kr) (.inr ks) (.inl kb)) rd tp A14F A14F A4F A4F A14F A14F (riverD (.inl Fa3) (.inl Fb3) (.inl (0, 4)) 3 8 3 41 45 49) (riverD (.inl Fa4) (.inl Fb4) (.inl (0, 4)) 3 8 3 42 46 50) ((.inr (.inl (0, 12, Pd1)))) ((.inr (.inl (0, 12, Pd2)))) ((.inr (.inl (0, 12, Pd3)))) ((.inr (.inl (0, 12, Pd4)))) ((.inr (.inl (0, 12, Ps1)))) ((.inr (.inl (0, 12, Ps2)))) ((.inr (.inl (0, 12, Ps3)))) ((.inr (.inl (0, 12, Ps4)))) ((.inr (.inl (0, 48, Pi1)))) ((.inr (.inl (0, 48, Pi2)))) ((.inr (.inl (0, 48, Pi3)))) ((.inr (.inl (0, 48, Pi4))))) H := hH
      refine lv_aload_n F.1 F.2.1 dX6_without_91 rfl (lv_at hl 1 rfl) ?_
      refine tGetR (j := 12) F hK hH (tyb ha0 (all1 rfl)) rfl (all1 rfl) clX6 (by decide) wd_2_11 dX6_without_92 (fun q_37 hq_37 _ => ?_)
      refine lv_iload_n F.1 F.2.1 dX6_without_95 rfl (lv_at hl 2 rfl) ?_
      refine tVi (b := q_37) (As := [.int a1]) (rest := []) F hK hN hO (c_X1_tookOf E (rcD (.inl (t, t)) (.inr kr) (.inr ks) (.inl kb)) rd tp Fa1 Fb1 Fa2 Fb2 Fa3 Fb3 Fa4 Fb4 Pd1 Pd2 Pd3 Pd4 Ps1 Ps2 Ps3 Ps4 Pi1 Pi2 Pi3 Pi4 q_37 a1 hq_37 r_8 hFa1 hFb1 hFa2 hFb2 hFa3 hFb3 hFa4 hFb4 hPd1 hPd2 hPd3 hPd4 hPs1 hPs2 hPs3 hPs4 hPi1 hPi2 hPi3 hPi4) mv_X1_tookOf wd_36_13 ⟨Nat.le_of_ble_eq_true rfl, Nat.le_of_ble_eq_true rfl⟩ ⟨Nat.le_of_ble_eq_true rfl, Nat.le_of_ble_eq_true rfl⟩ hH hS (tRecv hK hH (tyb hq_37 (all1 rfl)) clX1) rfl hl.1 (Nat.le_of_ble_eq_true rfl) dX6_without_96 (fun z_38 H locs hq hS => ?_)
      obtain ⟨f_39, hH⟩ := hq
      have hH : TH E (tbC (dayD (.inl (0, 18))) (dayD (.inl (0, 18))) (riverD (.inl Fa1) (.inl Fb1) (.inl (0, 4)) 31 33 35 39 43 47) (riverD (.inl Fa2) (.inl Fb2) (.inl (0, 4)) 32 34 36 40 44 48) (rcD (.inl (t, t)) (.inr kr) (.inr ks) (.inl kb)) rd tp A14F A14F A4F A4F A14F A14F (riverD (.inl Fa3) (.inl Fb3) (.inl (0, 4)) 3 8 3 41 45 49) (riverD (.inl Fa4) (.inl Fb4) (.inl (0, 4)) 3 8 3 42 46 50) ((.inr (.inl (0, 12, Pd1)))) ((.inr (.inl (0, 12, Pd2)))) ((.inr (.inl (0, 12, Pd3)))) ((.inr (.inl (0, 12, Pd4)))) ((.inr (.inl (0, 12, Ps1)))) ((.inr (.inl (0, 12, Ps2)))) ((.inr (.inl (0, 12, Ps3)))) ((.inr (.inl (0, 12, Ps4)))) ((.inr (.inl (0, 48, Pi1)))) ((.inr (.inl (0, 48, Pi2)))) ((.inr (.inl (0, 48, Pi3)))) ((.inr (.inl (0, 48, Pi4))))) H := hH
      refine lv_iload F.1 F.2.1 dX6_without_99 (lv_at hl 0 rfl) ?_
      refine lv_isub F.1 F.2.1 dX6_without_101 ?_
      refine topF (fun z_40 => ?_)
      exact txI F hS dX6_without_102 rfl (⟨(i32b _), hH⟩)
    · skip
      have r_17 : 0 ≤ z_11.toInt ∧ z_11.toInt ≤ 0 := by have h9_ := f_12; omega
      refine lv_ldcw (own := RX6) (v := (-2147483648)) F.1 F.2.1 F.2.2.2.2.1 (F.2.2.2.2.2.2.1 _ wd_48_3) dX6_without_16 ?_
      refine topK (a := (-2147483648)) (by decide) (fun k_41 hk_41 => ?_)
      exact txI F hS dX6_without_19 rfl (⟨(wkb (eqb hk_41) rfl rfl), hH⟩)
set_option maxHeartbeats 4000000 in
set_option maxRecDepth 100000 in
theorem c_X6_hurt (E : Ev) (rd : TD) (tp : TD) (kb : Int × Int) (Fa1 : Int × Int) (Fb1 : Int × Int) (Fa2 : Int × Int) (Fb2 : Int × Int) (Fa3 : Int × Int) (Fb3 : Int × Int) (Fa4 : Int × Int) (Fb4 : Int × Int) (kr : List Nat) (ks : List Nat) (Pd1 : (Nat → Int32) → Prop) (Pd2 : (Nat → Int32) → Prop) (Pd3 : (Nat → Int32) → Prop) (Pd4 : (Nat → Int32) → Prop) (Ps1 : (Nat → Int32) → Prop) (Ps2 : (Nat → Int32) → Prop) (Ps3 : (Nat → Int32) → Prop) (Ps4 : (Nat → Int32) → Prop) (Pi1 : (Nat → Int32) → Prop) (Pi2 : (Nat → Int32) → Prop) (Pi3 : (Nat → Int32) → Prop) (Pi4 : (Nat → Int32) → Prop) (t : Int) (a0 : Nat) (a1 : Int32) (a2 : Int32) (a3 : Int32) (ha0 : eT E a0 ∈ [28]) (ht : 0 ≤ t ∧ t ≤ 400) (hFa1 : 0 ≤ Fa1.1 ∧ Fa1.2 ≤ 12) (hFb1 : 0 ≤ Fb1.1 ∧ Fb1.2 ≤ 14) (hFa2 : 0 ≤ Fa2.1 ∧ Fa2.2 ≤ 12) (hFb2 : 0 ≤ Fb2.1 ∧ Fb2.2 ≤ 14) (hFa3 : 0 ≤ Fa3.1 ∧ Fa3.2 ≤ 12) (hFb3 : 0 ≤ Fb3.1 ∧ Fb3.2 ≤ 14) (hFa4 : 0 ≤ Fa4.1 ∧ Fa4.2 ≤ 12) (hFb4 : 0 ≤ Fb4.1 ∧ Fb4.2 ≤ 14) (hkr : ∀ t ∈ kr, t ∈ [26, 27]) (hks : ∀ t ∈ ks, t ∈ [26, 27]) (hPd1 : ∀ f, Pd1 f → ivP 12 (-2) 11 f) (hPd2 : ∀ f, Pd2 f → ivP 12 (-2) 11 f) (hPd3 : ∀ f, Pd3 f → ivP 12 (-2) 11 f) (hPd4 : ∀ f, Pd4 f → ivP 12 (-2) 11 f) (hPs1 : ∀ f, Ps1 f → ivP 12 (-2147483648) 2147483647 f) (hPs2 : ∀ f, Ps2 f → ivP 12 (-2147483648) 2147483647 f) (hPs3 : ∀ f, Ps3 f → ivP 12 (-2147483648) 2147483647 f) (hPs4 : ∀ f, Ps4 f → ivP 12 (-2147483648) 2147483647 f) (hPi1 : ∀ f, Pi1 f → ivP 48 (-2147483648) 2147483647 f) (hPi2 : ∀ f, Pi2 f → ivP 48 (-2147483648) 2147483647 f) (hPi3 : ∀ f, Pi3 f → ivP 48 (-2147483648) 2147483647 f) (hPi4 : ∀ f, Pi4 f → ivP 48 (-2147483648) 2147483647 f) : TcI E yX6_hurt cX6_hurt 4 .int ({ frames := 7, cells := 0, slots := 0, locals := 184 }) [.ref a0, .int a1, .int a2, .int a3] (fun H => TH E (tbC (dayD (.inl (0, 18))) (dayD (.inl (0, 18))) (riverD (.inl Fa1) (.inl Fb1) (.inl (0, 4)) 31 33 35 39 43 47) (riverD (.inl Fa2) (.inl Fb2) (.inl (0, 4)) 32 34 36 40 44 48) (rcD (.inl (t, t)) (.inr kr) (.inr ks) (.inl kb)) rd tp A14F A14F A4F A4F A14F A14F (riverD (.inl Fa3) (.inl Fb3) (.inl (0, 4)) 3 8 3 41 45 49) (riverD (.inl Fa4) (.inl Fb4) (.inl (0, 4)) 3 8 3 42 46 50) ((.inr (.inl (0, 12, Pd1)))) ((.inr (.inl (0, 12, Pd2)))) ((.inr (.inl (0, 12, Pd3)))) ((.inr (.inl (0, 12, Pd4)))) ((.inr (.inl (0, 12, Ps1)))) ((.inr (.inl (0, 12, Ps2)))) ((.inr (.inl (0, 12, Ps3)))) ((.inr (.inl (0, 12, Ps4)))) ((.inr (.inl (0, 48, Pi1)))) ((.inr (.inl (0, 48, Pi2)))) ((.inr (.inl (0, 48, Pi3)))) ((.inr (.inl (0, 48, Pi4))))) H) (fun v H => ((-2147483648) ≤ v.toInt ∧ v.toInt ≤ 2147483647) ∧ TH E (tbC (dayD (.inl (0, 18))) (dayD (.inl (0, 18))) (riverD (.inl Fa1) (.inl Fb1) (.inl (0, 4)) 31 33 35 39 43 47) (riverD (.inl Fa2) (.inl Fb2) (.inl (0, 4)) 32 34 36 40 44 48) (rcD (.inl (t, t)) (.inr kr) (.inr ks) (.inl kb)) rd tp A14F A14F A4F A4F A14F A14F (riverD (.inl Fa3) (.inl Fb3) (.inl (0, 4)) 3 8 3 41 45 49) (riverD (.inl Fa4) (.inl Fb4) (.inl (0, 4)) 3 8 3 42 46 50) ((.inr (.inl (0, 12, Pd1)))) ((.inr (.inl (0, 12, Pd2)))) ((.inr (.inl (0, 12, Pd3)))) ((.inr (.inl (0, 12, Pd4)))) ((.inr (.inl (0, 12, Ps1)))) ((.inr (.inl (0, 12, Ps2)))) ((.inr (.inl (0, 12, Ps3)))) ((.inr (.inl (0, 12, Ps4)))) ((.inr (.inl (0, 48, Pi1)))) ((.inr (.inl (0, 48, Pi2)))) ((.inr (.inl (0, 48, Pi3)))) ((.inr (.inl (0, 48, Pi4))))) H) := by
  refine teI (by decide) (Nat.le_of_ble_eq_true rfl) ?_
  intro p_ ev_ s mi_ below_ meth cd_ ls F hK hN hO hH hS hl
  have hH : TH E (tbC (dayD (.inl (0, 18))) (dayD (.inl (0, 18))) (riverD (.inl Fa1) (.inl Fb1) (.inl (0, 4)) 31 33 35 39 43 47) (riverD (.inl Fa2) (.inl Fb2) (.inl (0, 4)) 32 34 36 40 44 48) (rcD (.inl (t, t)) (.inr kr) (.inr ks) (.inl kb)) rd tp A14F A14F A4F A4F A14F A14F (riverD (.inl Fa3) (.inl Fb3) (.inl (0, 4)) 3 8 3 41 45 49) (riverD (.inl Fa4) (.inl Fb4) (.inl (0, 4)) 3 8 3 42 46 50) ((.inr (.inl (0, 12, Pd1)))) ((.inr (.inl (0, 12, Pd2)))) ((.inr (.inl (0, 12, Pd3)))) ((.inr (.inl (0, 12, Pd4)))) ((.inr (.inl (0, 12, Ps1)))) ((.inr (.inl (0, 12, Ps2)))) ((.inr (.inl (0, 12, Ps3)))) ((.inr (.inl (0, 12, Ps4)))) ((.inr (.inl (0, 48, Pi1)))) ((.inr (.inl (0, 48, Pi2)))) ((.inr (.inl (0, 48, Pi3)))) ((.inr (.inl (0, 48, Pi4))))) s.heap := hH
  have hl : lv_has ls 4 [(0, .ref a0), (1, .int a1), (2, .int a2), (3, .int a3)] := hl
  refine lv_aload_n F.1 F.2.1 dX6_hurt_0 rfl (lv_at hl 0 rfl) ?_
  refine lv_iload_n F.1 F.2.1 dX6_hurt_1 rfl (lv_at hl 1 rfl) ?_
  refine lv_iload_n F.1 F.2.1 dX6_hurt_2 rfl (lv_at hl 3 rfl) ?_
  refine tVi (b := a0) (As := [.int a1, .int a3]) (rest := []) F hK hN hO (c_X6_areTwoRights E rd tp kb Fa1 Fb1 Fa2 Fb2 Fa3 Fb3 Fa4 Fb4 kr ks Pd1 Pd2 Pd3 Pd4 Ps1 Ps2 Ps3 Ps4 Pi1 Pi2 Pi3 Pi4 t a0 a1 a3 ha0 (by omega) hFa1 hFb1 hFa2 hFb2 hFa3 hFb3 hFa4 hFb4 hkr hks hPd1 hPd2 hPd3 hPd4 hPs1 hPs2 hPs3 hPs4 hPi1 hPi2 hPi3 hPi4) mv_X6_areTwoRights wd_33_14 ⟨Nat.le_of_ble_eq_true rfl, Nat.le_of_ble_eq_true rfl⟩ ⟨Nat.le_of_ble_eq_true rfl, Nat.le_of_ble_eq_true rfl⟩ hH hS (tRecv hK hH (tyb ha0 (all1 rfl)) clX6) rfl hl.1 (Nat.le_of_ble_eq_true rfl) dX6_hurt_3 (fun z_1 H locs hq hS => ?_)
  obtain ⟨f_2, f_3, f_4, hH⟩ := hq
  have hH : TH E (tbC (dayD (.inl (0, 18))) (dayD (.inl (0, 18))) (riverD (.inl Fa1) (.inl Fb1) (.inl (0, 4)) 31 33 35 39 43 47) (riverD (.inl Fa2) (.inl Fb2) (.inl (0, 4)) 32 34 36 40 44 48) (rcD (.inl (t, t)) (.inr kr) (.inr ks) (.inl kb)) rd tp A14F A14F A4F A4F A14F A14F (riverD (.inl Fa3) (.inl Fb3) (.inl (0, 4)) 3 8 3 41 45 49) (riverD (.inl Fa4) (.inl Fb4) (.inl (0, 4)) 3 8 3 42 46 50) ((.inr (.inl (0, 12, Pd1)))) ((.inr (.inl (0, 12, Pd2)))) ((.inr (.inl (0, 12, Pd3)))) ((.inr (.inl (0, 12, Pd4)))) ((.inr (.inl (0, 12, Ps1)))) ((.inr (.inl (0, 12, Ps2)))) ((.inr (.inl (0, 12, Ps3)))) ((.inr (.inl (0, 12, Ps4)))) ((.inr (.inl (0, 48, Pi1)))) ((.inr (.inl (0, 48, Pi2)))) ((.inr (.inl (0, 48, Pi3)))) ((.inr (.inl (0, 48, Pi4))))) H := hH
  refine z_eq (tgt := 17) F dX6_hurt_6 (by decide) (fun c_5 => ?_) (fun c_5 => ?_)
  · skip
    have r_6 : 0 ≤ z_1.toInt ∧ z_1.toInt ≤ 0 := by have h9_ := f_2; omega
    refine lv_iconst (v := (-1)) F.1 F.2.1 dX6_hurt_17 (by decide) ?_
    refine topK (a := (-1)) (by decide) (fun k_10 hk_10 => ?_)
    exact txI F hS dX6_hurt_18 rfl (⟨(wkb (eqb hk_10) rfl rfl), hH⟩)
  · skip
    have r_7 : 1 ≤ z_1.toInt ∧ z_1.toInt ≤ 1 := by have h9_ := f_2; omega
    have r_8 : 0 ≤ a1.toInt ∧ a1.toInt ≤ 13 := by have h9_ := (i32b a1); omega
    have r_9 : 0 ≤ a3.toInt ∧ a3.toInt ≤ 13 := by have h9_ := (i32b a3); omega
    refine lv_aload_n F.1 F.2.1 dX6_hurt_9 rfl (lv_at hl 0 rfl) ?_
    refine lv_iload_n F.1 F.2.1 dX6_hurt_10 rfl (lv_at hl 2 rfl) ?_
    refine tVi (b := a0) (As := [.int a2]) (rest := []) F hK hN hO (c_X6_isReach E rd tp kb Fa1 Fb1 Fa2 Fb2 Fa3 Fb3 Fa4 Fb4 kr ks Pd1 Pd2 Pd3 Pd4 Ps1 Ps2 Ps3 Ps4 Pi1 Pi2 Pi3 Pi4 t a0 a2 ha0 (by omega) hFa1 hFb1 hFa2 hFb2 hFa3 hFb3 hFa4 hFb4 hkr hks hPd1 hPd2 hPd3 hPd4 hPs1 hPs2 hPs3 hPs4 hPi1 hPi2 hPi3 hPi4) mv_X6_isReach wd_34_6 ⟨Nat.le_of_ble_eq_true rfl, Nat.le_of_ble_eq_true rfl⟩ ⟨Nat.le_of_ble_eq_true rfl, Nat.le_of_ble_eq_true rfl⟩ hH hS (tRecv hK hH (tyb ha0 (all1 rfl)) clX6) rfl hl.1 (Nat.le_of_ble_eq_true rfl) dX6_hurt_11 (fun z_11 H locs hq hS => ?_)
    obtain ⟨f_12, f_13, hH⟩ := hq
    have hH : TH E (tbC (dayD (.inl (0, 18))) (dayD (.inl (0, 18))) (riverD (.inl Fa1) (.inl Fb1) (.inl (0, 4)) 31 33 35 39 43 47) (riverD (.inl Fa2) (.inl Fb2) (.inl (0, 4)) 32 34 36 40 44 48) (rcD (.inl (t, t)) (.inr kr) (.inr ks) (.inl kb)) rd tp A14F A14F A4F A4F A14F A14F (riverD (.inl Fa3) (.inl Fb3) (.inl (0, 4)) 3 8 3 41 45 49) (riverD (.inl Fa4) (.inl Fb4) (.inl (0, 4)) 3 8 3 42 46 50) ((.inr (.inl (0, 12, Pd1)))) ((.inr (.inl (0, 12, Pd2)))) ((.inr (.inl (0, 12, Pd3)))) ((.inr (.inl (0, 12, Pd4)))) ((.inr (.inl (0, 12, Ps1)))) ((.inr (.inl (0, 12, Ps2)))) ((.inr (.inl (0, 12, Ps3)))) ((.inr (.inl (0, 12, Ps4)))) ((.inr (.inl (0, 48, Pi1)))) ((.inr (.inl (0, 48, Pi2)))) ((.inr (.inl (0, 48, Pi3)))) ((.inr (.inl (0, 48, Pi4))))) H := hH
    refine z_ne (tgt := 19) F dX6_hurt_14 (by decide) (fun c_14 => ?_) (fun c_14 => ?_)
    · skip
      have r_15 : 1 ≤ z_11.toInt ∧ z_11.toInt ≤ 1 := by have h9_ := f_12; omega
      have r_16 : 0 ≤ a2.toInt ∧ a2.toInt ≤ 11 := by have h9_ := (i32b a2); omega
      refine lv_aload_n F.1 F.2.1 dX6_hurt_19 rfl (lv_at hl 0 rfl) ?_
      refine tVv (b := a0) (As := []) (rest := []) F hK hN hO (c_X6_lookAhead E rd tp kb Fa1 Fb1 Fa2 Fb2 Fa3 Fb3 Fa4 Fb4 kr ks Pd1 Pd2 Pd3 Pd4 Ps1 Ps2 Ps3 Ps4 Pi1 Pi2 Pi3 Pi4 t a0 ha0 (by omega) hFa1 hFb1 hFa2 hFb2 hFa3 hFb3 hFa4 hFb4 hkr hks hPd1 hPd2 hPd3 hPd4 hPs1 hPs2 hPs3 hPs4 hPi1 hPi2 hPi3 hPi4) mv_X6_lookAhead wd_34_11 ⟨Nat.le_of_ble_eq_true rfl, Nat.le_of_ble_eq_true rfl⟩ ⟨Nat.le_of_ble_eq_true rfl, Nat.le_of_ble_eq_true rfl⟩ hH hS (tRecv hK hH (tyb ha0 (all1 rfl)) clX6) rfl hl.1 (Nat.le_of_ble_eq_true rfl) dX6_hurt_20 (fun H locs hq hS => ?_)
      have hH := hq
      have hH : TH E (tbC (dayD (.inl (0, 18))) (dayD (.inl (0, 18))) (riverD (.inl Fa1) (.inl Fb1) (.inl (0, 4)) 31 33 35 39 43 47) (riverD (.inl Fa2) (.inl Fb2) (.inl (0, 4)) 32 34 36 40 44 48) (rcD (.inl (t, t)) (.inr kr) (.inr ks) (.inl kb)) rd tp A14F A14F A4F A4F A14F A14F (riverD (.inl Fa3) (.inl Fb3) (.inl (0, 4)) 3 8 3 41 45 49) (riverD (.inl Fa4) (.inl Fb4) (.inl (0, 4)) 3 8 3 42 46 50) ((.inr (.inl (0, 12, Pd1)))) ((.inr (.inl (0, 12, Pd2)))) ((.inr (.inl (0, 12, Pd3)))) ((.inr (.inl (0, 12, Pd4)))) ((.inr (.inl (0, 12, Ps1)))) ((.inr (.inl (0, 12, Ps2)))) ((.inr (.inl (0, 12, Ps3)))) ((.inr (.inl (0, 12, Ps4)))) ((.inr (.inl (0, 48, Pi1)))) ((.inr (.inl (0, 48, Pi2)))) ((.inr (.inl (0, 48, Pi3)))) ((.inr (.inl (0, 48, Pi4))))) H := hH
      refine lv_aload_n F.1 F.2.1 dX6_hurt_23 rfl (lv_at hl 0 rfl) ?_
      refine tGetR (j := 12) F hK hH (tyb ha0 (all1 rfl)) rfl (all1 rfl) clX6 (by decide) wd_2_11 dX6_hurt_24 (fun q_19 hq_19 _ => ?_)
      refine lv_aload_n F.1 F.2.1 dX6_hurt_27 rfl (lv_at hl 0 rfl) ?_
      refine tGetR0 (j := 2) F hK hH (tyb ha0 (all1 rfl)) rfl clX6 (by decide) wd_1_17 dX6_hurt_28 (fun q_20 hq_20 => ?_)
      refine lv_aload_n F.1 F.2.1 dX6_hurt_31 rfl (lv_at hl 0 rfl) ?_
      refine tGetR (j := 4) F hK hH (tyb ha0 (all1 rfl)) rfl (all1 rfl) clX6 (by decide) wd_1_22 dX6_hurt_32 (fun q_21 hq_21 _ => ?_)
      refine lv_iload_n F.1 F.2.1 dX6_hurt_35 rfl (lv_at hl 1 rfl) ?_
      refine lv_iload_n F.1 F.2.1 dX6_hurt_36 rfl (lv_at hl 2 rfl) ?_
      refine tVv (b := q_19) (As := [.ref q_20, .ref q_21, .int a1, .int a2]) (rest := []) F hK hN hO (c_X1_beginMoved E (rcD (.inl (t, t)) (.inr kr) (.inr ks) (.inl kb)) rd tp Fa1 Fb1 Fa2 Fb2 Fa3 Fb3 Fa4 Fb4 Pd1 Pd2 Pd3 Pd4 Ps1 Ps2 Ps3 Ps4 Pi1 Pi2 Pi3 Pi4 q_19 q_20 q_21 a1 a2 hq_19 (hkr _ hq_20) hq_21 r_8 r_16 hFa1 hFb1 hFa2 hFb2 hFa3 hFb3 hFa4 hFb4 hPd1 hPd2 hPd3 hPd4 hPs1 hPs2 hPs3 hPs4 hPi1 hPi2 hPi3 hPi4) mv_X1_beginMoved wd_36_22 ⟨Nat.le_of_ble_eq_true rfl, Nat.le_of_ble_eq_true rfl⟩ ⟨Nat.le_of_ble_eq_true rfl, Nat.le_of_ble_eq_true rfl⟩ hH hS (tRecv hK hH (tyb hq_19 (all1 rfl)) clX1) rfl hl.1 (Nat.le_of_ble_eq_true rfl) dX6_hurt_37 (fun H locs hq hS => ?_)
      have hH := hq
      have hH : TH E (tbC (dayD (.inl (0, 18))) (dayD (.inl (0, 18))) (riverD (.inl Fa1) (.inl Fb1) (.inl (0, 4)) 31 33 35 39 43 47) (riverD (.inl Fa2) (.inl Fb2) (.inl (0, 4)) 32 34 36 40 44 48) (rcD (.inl (t, t)) (.inr kr) (.inr ks) (.inl kb)) rd tp A14F A14F A4F A4F A14F A14F (riverD (.inl Fa3) (.inl Fb3) (.inl (0, 4)) 3 8 3 41 45 49) (riverD (.inl Fa4) (.inl Fb4) (.inl (0, 4)) 3 8 3 42 46 50) ((.inr (.inl (0, 12, Pd1)))) ((.inr (.inl (0, 12, Pd2)))) ((.inr (.inl (0, 12, Pd3)))) ((.inr (.inl (0, 12, Pd4)))) ((.inr (.inl (0, 12, Ps1)))) ((.inr (.inl (0, 12, Ps2)))) ((.inr (.inl (0, 12, Ps3)))) ((.inr (.inl (0, 12, Ps4)))) ((.inr (.inl (0, 48, Pi1)))) ((.inr (.inl (0, 48, Pi2)))) ((.inr (.inl (0, 48, Pi3)))) ((.inr (.inl (0, 48, Pi4))))) H := hH
      refine lv_aload_n F.1 F.2.1 dX6_hurt_40 rfl (lv_at hl 0 rfl) ?_
      refine tGetR (j := 12) F hK hH (tyb ha0 (all1 rfl)) rfl (all1 rfl) clX6 (by decide) wd_2_11 dX6_hurt_41 (fun q_23 hq_23 _ => ?_)
      refine lv_sipush (v := 360) F.1 F.2.1 dX6_hurt_44 (by decide) ?_
      refine topK (a := 360) (by decide) (fun k_24 hk_24 => ?_)
      refine lv_iconst (v := (-1)) F.1 F.2.1 dX6_hurt_47 (by decide) ?_
      refine topK (a := (-1)) (by decide) (fun k_25 hk_25 => ?_)
      refine tVv (b := q_23) (As := [.int k_24, .int k_25]) (rest := []) F hK hN hO (c_X1_run E (rcD (.inl (t, t)) (.inr kr) (.inr ks) (.inl kb)) rd tp Fa1 Fb1 Fa2 Fb2 Fa3 Fb3 Fa4 Fb4 Pd1 Pd2 Pd3 Pd4 Ps1 Ps2 Ps3 Ps4 Pi1 Pi2 Pi3 Pi4 q_23 k_24 k_25 hq_23 (wkb (eqb hk_24) rfl rfl) hFa1 hFb1 hFa2 hFb2 hFa3 hFb3 hFa4 hFb4 hPd1 hPd2 hPd3 hPd4 hPs1 hPs2 hPs3 hPs4 hPi1 hPi2 hPi3 hPi4) mv_X1_run wd_35_2 ⟨Nat.le_of_ble_eq_true rfl, Nat.le_of_ble_eq_true rfl⟩ ⟨Nat.le_of_ble_eq_true rfl, Nat.le_of_ble_eq_true rfl⟩ hH hS (tRecv hK hH (tyb hq_23 (all1 rfl)) clX1) rfl hl.1 (Nat.le_of_ble_eq_true rfl) dX6_hurt_48 (fun H locs hq hS => ?_)
      have hH := hq
      have hH : TH E (tbC (dayD (.inl (0, 18))) (dayD (.inl (0, 18))) (riverD (.inl Fa1) (.inl Fb1) (.inl (0, 4)) 31 33 35 39 43 47) (riverD (.inl Fa2) (.inl Fb2) (.inl (0, 4)) 32 34 36 40 44 48) (rcD (.inl (t, t)) (.inr kr) (.inr ks) (.inl kb)) rd tp A14F A14F A4F A4F A14F A14F (riverD (.inl Fa3) (.inl Fb3) (.inl (0, 4)) 3 8 3 41 45 49) (riverD (.inl Fa4) (.inl Fb4) (.inl (0, 4)) 3 8 3 42 46 50) ((.inr (.inl (0, 12, Pd1)))) ((.inr (.inl (0, 12, Pd2)))) ((.inr (.inl (0, 12, Pd3)))) ((.inr (.inl (0, 12, Pd4)))) ((.inr (.inl (0, 12, Ps1)))) ((.inr (.inl (0, 12, Ps2)))) ((.inr (.inl (0, 12, Ps3)))) ((.inr (.inl (0, 12, Ps4)))) ((.inr (.inl (0, 48, Pi1)))) ((.inr (.inl (0, 48, Pi2)))) ((.inr (.inl (0, 48, Pi3)))) ((.inr (.inl (0, 48, Pi4))))) H := hH
      refine lv_iconst (v := 0) F.1 F.2.1 dX6_hurt_51 (by decide) ?_
      refine topK (a := 0) (by decide) (fun k_27 hk_27 => ?_)
      refine lv_aload_n F.1 F.2.1 dX6_hurt_52 rfl (lv_at hl 0 rfl) ?_
      refine tGetR (j := 15) F hK hH (tyb ha0 (all1 rfl)) rfl (all1 rfl) clX6 (by decide) wd_2_3 dX6_hurt_53 (fun q_28 hq_28 _ => ?_)
      refine lv_iload_n F.1 F.2.1 dX6_hurt_56 rfl (lv_at hl 3 rfl) ?_
      refine tIaldB F hK hH (tyb hq_28 (all1 rfl)) (ixb (n := 14) r_9 rfl rfl) dX6_hurt_57 (fun z_29 hz_29 => ?_)
      refine lv_aload_n F.1 F.2.1 dX6_hurt_58 rfl (lv_at hl 0 rfl) ?_
      refine tGetR (j := 12) F hK hH (tyb ha0 (all1 rfl)) rfl (all1 rfl) clX6 (by decide) wd_2_11 dX6_hurt_59 (fun q_30 hq_30 _ => ?_)
      refine lv_iload_n F.1 F.2.1 dX6_hurt_62 rfl (lv_at hl 3 rfl) ?_
      refine tVi (b := q_30) (As := [.int a3]) (rest := [.int z_29, .int k_27]) F hK hN hO (c_X1_tookOf E (rcD (.inl (t, t)) (.inr kr) (.inr ks) (.inl kb)) rd tp Fa1 Fb1 Fa2 Fb2 Fa3 Fb3 Fa4 Fb4 Pd1 Pd2 Pd3 Pd4 Ps1 Ps2 Ps3 Ps4 Pi1 Pi2 Pi3 Pi4 q_30 a3 hq_30 r_9 hFa1 hFb1 hFa2 hFb2 hFa3 hFb3 hFa4 hFb4 hPd1 hPd2 hPd3 hPd4 hPs1 hPs2 hPs3 hPs4 hPi1 hPi2 hPi3 hPi4) mv_X1_tookOf wd_36_13 ⟨Nat.le_of_ble_eq_true rfl, Nat.le_of_ble_eq_true rfl⟩ ⟨Nat.le_of_ble_eq_true rfl, Nat.le_of_ble_eq_true rfl⟩ hH hS (tRecv hK hH (tyb hq_30 (all1 rfl)) clX1) rfl hl.1 (Nat.le_of_ble_eq_true rfl) dX6_hurt_63 (fun z_31 H locs hq hS => ?_)
      obtain ⟨f_32, hH⟩ := hq
      have hH : TH E (tbC (dayD (.inl (0, 18))) (dayD (.inl (0, 18))) (riverD (.inl Fa1) (.inl Fb1) (.inl (0, 4)) 31 33 35 39 43 47) (riverD (.inl Fa2) (.inl Fb2) (.inl (0, 4)) 32 34 36 40 44 48) (rcD (.inl (t, t)) (.inr kr) (.inr ks) (.inl kb)) rd tp A14F A14F A4F A4F A14F A14F (riverD (.inl Fa3) (.inl Fb3) (.inl (0, 4)) 3 8 3 41 45 49) (riverD (.inl Fa4) (.inl Fb4) (.inl (0, 4)) 3 8 3 42 46 50) ((.inr (.inl (0, 12, Pd1)))) ((.inr (.inl (0, 12, Pd2)))) ((.inr (.inl (0, 12, Pd3)))) ((.inr (.inl (0, 12, Pd4)))) ((.inr (.inl (0, 12, Ps1)))) ((.inr (.inl (0, 12, Ps2)))) ((.inr (.inl (0, 12, Ps3)))) ((.inr (.inl (0, 12, Ps4)))) ((.inr (.inl (0, 48, Pi1)))) ((.inr (.inl (0, 48, Pi2)))) ((.inr (.inl (0, 48, Pi3)))) ((.inr (.inl (0, 48, Pi4))))) H := hH
      refine lv_isub F.1 F.2.1 dX6_hurt_66 ?_
      refine topF (fun z_33 => ?_)
      refine tMax (lo := 0) (hi := 2147483647) F wd_48_13 wd_21_10 wd_9_1 wd_21_11 hl.1 (Nat.le_of_ble_eq_true rfl) (Nat.le_of_ble_eq_true rfl) (Nat.le_of_ble_eq_true rfl) (Nat.le_of_ble_eq_true rfl) dX6_hurt_67 (eqb hk_27) (i32b _) rfl (fun z_34 hz_34 => ?_)
      exact txI F hS dX6_hurt_70 rfl (⟨(wkb hz_34.2 rfl rfl), hH⟩)
    · skip
      have r_17 : 0 ≤ z_11.toInt ∧ z_11.toInt ≤ 0 := by have h9_ := f_12; omega
      refine lv_iconst (v := (-1)) F.1 F.2.1 dX6_hurt_17 (by decide) ?_
      refine topK (a := (-1)) (by decide) (fun k_35 hk_35 => ?_)
      exact txI F hS dX6_hurt_18 rfl (⟨(wkb (eqb hk_35) rfl rfl), hH⟩)
set_option maxHeartbeats 4000000 in
set_option maxRecDepth 100000 in
theorem c_X6_movable (E : Ev) (rd : TD) (tp : TD) (kb : Int × Int) (Fa1 : Int × Int) (Fb1 : Int × Int) (Fa2 : Int × Int) (Fb2 : Int × Int) (Fa3 : Int × Int) (Fb3 : Int × Int) (Fa4 : Int × Int) (Fb4 : Int × Int) (kr : List Nat) (ks : List Nat) (Pd1 : (Nat → Int32) → Prop) (Pd2 : (Nat → Int32) → Prop) (Pd3 : (Nat → Int32) → Prop) (Pd4 : (Nat → Int32) → Prop) (Ps1 : (Nat → Int32) → Prop) (Ps2 : (Nat → Int32) → Prop) (Ps3 : (Nat → Int32) → Prop) (Ps4 : (Nat → Int32) → Prop) (Pi1 : (Nat → Int32) → Prop) (Pi2 : (Nat → Int32) → Prop) (Pi3 : (Nat → Int32) → Prop) (Pi4 : (Nat → Int32) → Prop) (t : Int) (a0 : Nat) (a1 : Int32) (ha0 : eT E a0 ∈ [28]) (ht : 0 ≤ t ∧ t ≤ 400) (hFa1 : 0 ≤ Fa1.1 ∧ Fa1.2 ≤ 12) (hFb1 : 0 ≤ Fb1.1 ∧ Fb1.2 ≤ 14) (hFa2 : 0 ≤ Fa2.1 ∧ Fa2.2 ≤ 12) (hFb2 : 0 ≤ Fb2.1 ∧ Fb2.2 ≤ 14) (hFa3 : 0 ≤ Fa3.1 ∧ Fa3.2 ≤ 12) (hFb3 : 0 ≤ Fb3.1 ∧ Fb3.2 ≤ 14) (hFa4 : 0 ≤ Fa4.1 ∧ Fa4.2 ≤ 12) (hFb4 : 0 ≤ Fb4.1 ∧ Fb4.2 ≤ 14) (hkr : ∀ t ∈ kr, t ∈ [26, 27]) (hks : ∀ t ∈ ks, t ∈ [26, 27]) (hPd1 : ∀ f, Pd1 f → ivP 12 (-2) 11 f) (hPd2 : ∀ f, Pd2 f → ivP 12 (-2) 11 f) (hPd3 : ∀ f, Pd3 f → ivP 12 (-2) 11 f) (hPd4 : ∀ f, Pd4 f → ivP 12 (-2) 11 f) (hPs1 : ∀ f, Ps1 f → ivP 12 (-2147483648) 2147483647 f) (hPs2 : ∀ f, Ps2 f → ivP 12 (-2147483648) 2147483647 f) (hPs3 : ∀ f, Ps3 f → ivP 12 (-2147483648) 2147483647 f) (hPs4 : ∀ f, Ps4 f → ivP 12 (-2147483648) 2147483647 f) (hPi1 : ∀ f, Pi1 f → ivP 48 (-2147483648) 2147483647 f) (hPi2 : ∀ f, Pi2 f → ivP 48 (-2147483648) 2147483647 f) (hPi3 : ∀ f, Pi3 f → ivP 48 (-2147483648) 2147483647 f) (hPi4 : ∀ f, Pi4 f → ivP 48 (-2147483648) 2147483647 f) : TcI E yX6_movable cX6_movable 4 .int ({ frames := 7, cells := 0, slots := 0, locals := 186 }) [.ref a0, .int a1] (fun H => TH E (tbC (dayD (.inl (0, 18))) (dayD (.inl (0, 18))) (riverD (.inl Fa1) (.inl Fb1) (.inl (0, 4)) 31 33 35 39 43 47) (riverD (.inl Fa2) (.inl Fb2) (.inl (0, 4)) 32 34 36 40 44 48) (rcD (.inl (t, t)) (.inr kr) (.inr ks) (.inl kb)) rd tp A14F A14F A4F A4F A14F A14F (riverD (.inl Fa3) (.inl Fb3) (.inl (0, 4)) 3 8 3 41 45 49) (riverD (.inl Fa4) (.inl Fb4) (.inl (0, 4)) 3 8 3 42 46 50) ((.inr (.inl (0, 12, Pd1)))) ((.inr (.inl (0, 12, Pd2)))) ((.inr (.inl (0, 12, Pd3)))) ((.inr (.inl (0, 12, Pd4)))) ((.inr (.inl (0, 12, Ps1)))) ((.inr (.inl (0, 12, Ps2)))) ((.inr (.inl (0, 12, Ps3)))) ((.inr (.inl (0, 12, Ps4)))) ((.inr (.inl (0, 48, Pi1)))) ((.inr (.inl (0, 48, Pi2)))) ((.inr (.inl (0, 48, Pi3)))) ((.inr (.inl (0, 48, Pi4))))) H) (fun v H => ((-2147483648) ≤ v.toInt ∧ v.toInt ≤ 2147483647) ∧ TH E (tbC (dayD (.inl (0, 18))) (dayD (.inl (0, 18))) (riverD (.inl Fa1) (.inl Fb1) (.inl (0, 4)) 31 33 35 39 43 47) (riverD (.inl Fa2) (.inl Fb2) (.inl (0, 4)) 32 34 36 40 44 48) (rcD (.inl (t, t)) (.inr kr) (.inr ks) (.inl kb)) rd tp A14F A14F A4F A4F A14F A14F (riverD (.inl Fa3) (.inl Fb3) (.inl (0, 4)) 3 8 3 41 45 49) (riverD (.inl Fa4) (.inl Fb4) (.inl (0, 4)) 3 8 3 42 46 50) ((.inr (.inl (0, 12, Pd1)))) ((.inr (.inl (0, 12, Pd2)))) ((.inr (.inl (0, 12, Pd3)))) ((.inr (.inl (0, 12, Pd4)))) ((.inr (.inl (0, 12, Ps1)))) ((.inr (.inl (0, 12, Ps2)))) ((.inr (.inl (0, 12, Ps3)))) ((.inr (.inl (0, 12, Ps4)))) ((.inr (.inl (0, 48, Pi1)))) ((.inr (.inl (0, 48, Pi2)))) ((.inr (.inl (0, 48, Pi3)))) ((.inr (.inl (0, 48, Pi4))))) H) := by
  refine teI (by decide) (Nat.le_of_ble_eq_true rfl) ?_
  intro p_ ev_ s mi_ below_ meth cd_ ls F hK hN hO hH hS hl
  have hH : TH E (tbC (dayD (.inl (0, 18))) (dayD (.inl (0, 18))) (riverD (.inl Fa1) (.inl Fb1) (.inl (0, 4)) 31 33 35 39 43 47) (riverD (.inl Fa2) (.inl Fb2) (.inl (0, 4)) 32 34 36 40 44 48) (rcD (.inl (t, t)) (.inr kr) (.inr ks) (.inl kb)) rd tp A14F A14F A4F A4F A14F A14F (riverD (.inl Fa3) (.inl Fb3) (.inl (0, 4)) 3 8 3 41 45 49) (riverD (.inl Fa4) (.inl Fb4) (.inl (0, 4)) 3 8 3 42 46 50) ((.inr (.inl (0, 12, Pd1)))) ((.inr (.inl (0, 12, Pd2)))) ((.inr (.inl (0, 12, Pd3)))) ((.inr (.inl (0, 12, Pd4)))) ((.inr (.inl (0, 12, Ps1)))) ((.inr (.inl (0, 12, Ps2)))) ((.inr (.inl (0, 12, Ps3)))) ((.inr (.inl (0, 12, Ps4)))) ((.inr (.inl (0, 48, Pi1)))) ((.inr (.inl (0, 48, Pi2)))) ((.inr (.inl (0, 48, Pi3)))) ((.inr (.inl (0, 48, Pi4))))) s.heap := hH
  have hl : lv_has ls 4 [(0, .ref a0), (1, .int a1)] := hl
  refine lv_aload_n F.1 F.2.1 dX6_movable_0 rfl (lv_at hl 0 rfl) ?_
  refine lv_iload_n F.1 F.2.1 dX6_movable_1 rfl (lv_at hl 1 rfl) ?_
  refine tVi (b := a0) (As := [.int a1]) (rest := []) F hK hN hO (c_X6_isRight E rd tp kb Fa1 Fb1 Fa2 Fb2 Fa3 Fb3 Fa4 Fb4 kr ks Pd1 Pd2 Pd3 Pd4 Ps1 Ps2 Ps3 Ps4 Pi1 Pi2 Pi3 Pi4 t a0 a1 ha0 (by omega) hFa1 hFb1 hFa2 hFb2 hFa3 hFb3 hFa4 hFb4 hkr hks hPd1 hPd2 hPd3 hPd4 hPs1 hPs2 hPs3 hPs4 hPi1 hPi2 hPi3 hPi4) mv_X6_isRight wd_31_10 ⟨Nat.le_of_ble_eq_true rfl, Nat.le_of_ble_eq_true rfl⟩ ⟨Nat.le_of_ble_eq_true rfl, Nat.le_of_ble_eq_true rfl⟩ hH hS (tRecv hK hH (tyb ha0 (all1 rfl)) clX6) rfl hl.1 (Nat.le_of_ble_eq_true rfl) dX6_movable_2 (fun z_1 H locs hq hS => ?_)
  obtain ⟨f_2, f_3, hH⟩ := hq
  have hH : TH E (tbC (dayD (.inl (0, 18))) (dayD (.inl (0, 18))) (riverD (.inl Fa1) (.inl Fb1) (.inl (0, 4)) 31 33 35 39 43 47) (riverD (.inl Fa2) (.inl Fb2) (.inl (0, 4)) 32 34 36 40 44 48) (rcD (.inl (t, t)) (.inr kr) (.inr ks) (.inl kb)) rd tp A14F A14F A4F A4F A14F A14F (riverD (.inl Fa3) (.inl Fb3) (.inl (0, 4)) 3 8 3 41 45 49) (riverD (.inl Fa4) (.inl Fb4) (.inl (0, 4)) 3 8 3 42 46 50) ((.inr (.inl (0, 12, Pd1)))) ((.inr (.inl (0, 12, Pd2)))) ((.inr (.inl (0, 12, Pd3)))) ((.inr (.inl (0, 12, Pd4)))) ((.inr (.inl (0, 12, Ps1)))) ((.inr (.inl (0, 12, Ps2)))) ((.inr (.inl (0, 12, Ps3)))) ((.inr (.inl (0, 12, Ps4)))) ((.inr (.inl (0, 48, Pi1)))) ((.inr (.inl (0, 48, Pi2)))) ((.inr (.inl (0, 48, Pi3)))) ((.inr (.inl (0, 48, Pi4))))) H := hH
  refine z_ne (tgt := 10) F dX6_movable_5 (by decide) (fun c_4 => ?_) (fun c_4 => ?_)
  · skip
    have r_5 : 1 ≤ z_1.toInt ∧ z_1.toInt ≤ 1 := by have h9_ := f_2; omega
    have r_6 : 0 ≤ a1.toInt ∧ a1.toInt ≤ 13 := by have h9_ := (i32b a1); omega
    refine lv_aload_n F.1 F.2.1 dX6_movable_10 rfl (lv_at hl 0 rfl) ?_
    refine tVv (b := a0) (As := []) (rest := []) F hK hN hO (c_X6_lookAhead E rd tp kb Fa1 Fb1 Fa2 Fb2 Fa3 Fb3 Fa4 Fb4 kr ks Pd1 Pd2 Pd3 Pd4 Ps1 Ps2 Ps3 Ps4 Pi1 Pi2 Pi3 Pi4 t a0 ha0 (by omega) hFa1 hFb1 hFa2 hFb2 hFa3 hFb3 hFa4 hFb4 hkr hks hPd1 hPd2 hPd3 hPd4 hPs1 hPs2 hPs3 hPs4 hPi1 hPi2 hPi3 hPi4) mv_X6_lookAhead wd_34_11 ⟨Nat.le_of_ble_eq_true rfl, Nat.le_of_ble_eq_true rfl⟩ ⟨Nat.le_of_ble_eq_true rfl, Nat.le_of_ble_eq_true rfl⟩ hH hS (tRecv hK hH (tyb ha0 (all1 rfl)) clX6) rfl hl.1 (Nat.le_of_ble_eq_true rfl) dX6_movable_11 (fun H locs hq hS => ?_)
    have hH := hq
    have hH : TH E (tbC (dayD (.inl (0, 18))) (dayD (.inl (0, 18))) (riverD (.inl Fa1) (.inl Fb1) (.inl (0, 4)) 31 33 35 39 43 47) (riverD (.inl Fa2) (.inl Fb2) (.inl (0, 4)) 32 34 36 40 44 48) (rcD (.inl (t, t)) (.inr kr) (.inr ks) (.inl kb)) rd tp A14F A14F A4F A4F A14F A14F (riverD (.inl Fa3) (.inl Fb3) (.inl (0, 4)) 3 8 3 41 45 49) (riverD (.inl Fa4) (.inl Fb4) (.inl (0, 4)) 3 8 3 42 46 50) ((.inr (.inl (0, 12, Pd1)))) ((.inr (.inl (0, 12, Pd2)))) ((.inr (.inl (0, 12, Pd3)))) ((.inr (.inl (0, 12, Pd4)))) ((.inr (.inl (0, 12, Ps1)))) ((.inr (.inl (0, 12, Ps2)))) ((.inr (.inl (0, 12, Ps3)))) ((.inr (.inl (0, 12, Ps4)))) ((.inr (.inl (0, 48, Pi1)))) ((.inr (.inl (0, 48, Pi2)))) ((.inr (.inl (0, 48, Pi3)))) ((.inr (.inl (0, 48, Pi4))))) H := hH
    refine lv_iconst (v := 0) F.1 F.2.1 dX6_movable_14 (by decide) ?_
    refine topK (a := 0) (by decide) (fun k_9 hk_9 => ?_)
    refine lv_istore_n (lv' := [(2, .int k_9), (0, .ref a0), (1, .int a1)]) F.1 F.2.1 dX6_movable_15 rfl hl (by decide) rfl (fun ls hl => ?_)
    refine lv_iconst (v := 0) F.1 F.2.1 dX6_movable_16 (by decide) ?_
    refine topK (a := 0) (by decide) (fun k_10 hk_10 => ?_)
    refine lv_istore_n (lv' := [(3, .int k_10), (2, .int k_9), (0, .ref a0), (1, .int a1)]) F.1 F.2.1 dX6_movable_17 rfl hl (by decide) rfl (fun ls hl => ?_)
    refine wloop (σ := Int32 × Int32) (fun n9 x9 H locs ls => (12 - x9.2.toInt + 1).toNat < n9 ∧ (0 ≤ x9.2.toInt ∧ x9.2.toInt ≤ 12) ∧ TH E (tbC (dayD (.inl (0, 18))) (dayD (.inl (0, 18))) (riverD (.inl Fa1) (.inl Fb1) (.inl (0, 4)) 31 33 35 39 43 47) (riverD (.inl Fa2) (.inl Fb2) (.inl (0, 4)) 32 34 36 40 44 48) (rcD (.inl (t, t)) (.inr kr) (.inr ks) (.inl kb)) rd tp A14F A14F A4F A4F A14F A14F (riverD (.inl Fa3) (.inl Fb3) (.inl (0, 4)) 3 8 3 41 45 49) (riverD (.inl Fa4) (.inl Fb4) (.inl (0, 4)) 3 8 3 42 46 50) ((.inr (.inl (0, 12, Pd1)))) ((.inr (.inl (0, 12, Pd2)))) ((.inr (.inl (0, 12, Pd3)))) ((.inr (.inl (0, 12, Pd4)))) ((.inr (.inl (0, 12, Ps1)))) ((.inr (.inl (0, 12, Ps2)))) ((.inr (.inl (0, 12, Ps3)))) ((.inr (.inl (0, 12, Ps4)))) ((.inr (.inl (0, 48, Pi1)))) ((.inr (.inl (0, 48, Pi2)))) ((.inr (.inl (0, 48, Pi3)))) ((.inr (.inl (0, 48, Pi4))))) H ∧ va_S (eA E s.heap.size) s.heap H locs ∧ lv_has ls 4 [(0, .ref a0), (1, .int a1), (2, .int x9.1), (3, .int x9.2)]) ?_ (fun x9 H locs ls h => absurd h.1 (Nat.not_lt_zero _)) _ (k_9, k_10) ⟨Nat.lt_succ_self _, (wkb (eqb hk_10) rfl rfl), hH, hS, lv_sub hl [2, 3, 1, 0] rfl⟩
    intro n_18 ih_18 ⟨u_11, u_12⟩ H locs ls ⟨hm_18, hu_12, hH, hS, hl⟩
    have hm_18 : (12 - u_12.toInt + 1).toNat < n_18 + 1 := hm_18
    have hu_12 : (0 ≤ u_12.toInt ∧ u_12.toInt ≤ 12) := hu_12
    have hH : TH E (tbC (dayD (.inl (0, 18))) (dayD (.inl (0, 18))) (riverD (.inl Fa1) (.inl Fb1) (.inl (0, 4)) 31 33 35 39 43 47) (riverD (.inl Fa2) (.inl Fb2) (.inl (0, 4)) 32 34 36 40 44 48) (rcD (.inl (t, t)) (.inr kr) (.inr ks) (.inl kb)) rd tp A14F A14F A4F A4F A14F A14F (riverD (.inl Fa3) (.inl Fb3) (.inl (0, 4)) 3 8 3 41 45 49) (riverD (.inl Fa4) (.inl Fb4) (.inl (0, 4)) 3 8 3 42 46 50) ((.inr (.inl (0, 12, Pd1)))) ((.inr (.inl (0, 12, Pd2)))) ((.inr (.inl (0, 12, Pd3)))) ((.inr (.inl (0, 12, Pd4)))) ((.inr (.inl (0, 12, Ps1)))) ((.inr (.inl (0, 12, Ps2)))) ((.inr (.inl (0, 12, Ps3)))) ((.inr (.inl (0, 12, Ps4)))) ((.inr (.inl (0, 48, Pi1)))) ((.inr (.inl (0, 48, Pi2)))) ((.inr (.inl (0, 48, Pi3)))) ((.inr (.inl (0, 48, Pi4))))) H := hH
    have hl : lv_has ls 4 [(0, .ref a0), (1, .int a1), (2, .int u_11), (3, .int u_12)] := hl
    refine lv_iload_n F.1 F.2.1 dX6_movable_18 rfl (lv_at hl 3 rfl) ?_
    refine lv_aload_n F.1 F.2.1 dX6_movable_19 rfl (lv_at hl 0 rfl) ?_
    refine tGetR0 (j := 2) F hK hH (tyb ha0 (all1 rfl)) rfl clX6 (by decide) wd_1_17 dX6_movable_20 (fun q_13 hq_13 => ?_)
    refine tGetIB (j := 0) (lo := 0) (hi := 12) F hK hH (hkr _ hq_13) (alls ⟨_, _, rfl, rfl, by have h9_ := hFa1; omega⟩ (alls1 ⟨_, _, rfl, rfl, by have h9_ := hFa2; omega⟩)) clX2 (by decide) wd_34_10 dX6_movable_23 (fun z_14 hz_14 => ?_)
    refine b_ge (tgt := 63) F dX6_movable_26 (by decide) (fun c_15 => ?_) (fun c_15 => ?_)
    · skip
      refine lv_iload_n F.1 F.2.1 dX6_movable_63 rfl (lv_at hl 2 rfl) ?_
      exact txI F hS dX6_movable_64 rfl (⟨(i32b _), hH⟩)
    · skip
      have r_16 : 0 ≤ u_12.toInt ∧ u_12.toInt ≤ 11 := by have h9_ := hu_12; omega
      have r_17 : 1 ≤ z_14.toInt ∧ z_14.toInt ≤ 12 := by have h9_ := hz_14; omega
      refine lv_iload_n F.1 F.2.1 dX6_movable_29 rfl (lv_at hl 3 rfl) ?_
      refine lv_aload_n F.1 F.2.1 dX6_movable_30 rfl (lv_at hl 0 rfl) ?_
      refine tGetR (j := 4) F hK hH (tyb ha0 (all1 rfl)) rfl (all1 rfl) clX6 (by decide) wd_1_22 dX6_movable_31 (fun q_18 hq_18 _ => ?_)
      refine tGetR (j := 2) F hK hH (tyb hq_18 (all1 rfl)) rfl (all1 rfl) clX5 (by decide) wd_32_5 dX6_movable_34 (fun q_19 hq_19 _ => ?_)
      refine lv_iload_n F.1 F.2.1 dX6_movable_37 rfl (lv_at hl 1 rfl) ?_
      refine tIaldB F hK hH (tyb hq_19 (all1 rfl)) (ixb (n := 14) r_6 rfl rfl) dX6_movable_38 (fun z_20 hz_20 => ?_)
      refine b_eq (tgt := 57) F dX6_movable_39 (by decide) (fun c_21 => ?_) (fun c_21 => ?_)
      · skip
        obtain ⟨x_22, ex_22, hx_22⟩ := iincB (c := 1) (lo := 1) (hi := 12) r_16 rfl
        refine lv_iinc (v := x_22) (lv' := [(3, .int x_22), (0, .ref a0), (1, .int a1), (2, .int u_11)]) F.1 F.2.1 dX6_movable_57 hl (k := 3) rfl ex_22 (by decide) rfl (fun ls hl => ?_)
        refine lv_goto (tgt := 18) F.1 F.2.1 dX6_movable_60 (by decide) ?_
        exact ih_18 (u_11, x_22) _ _ _ ⟨(show (12 - x_22.toInt + 1).toNat < n_18 from by omega), (wkb hx_22.2 rfl rfl), hH, hS, lv_sub hl [1, 2, 3, 0] rfl⟩
      · skip
        refine lv_aload_n F.1 F.2.1 dX6_movable_42 rfl (lv_at hl 0 rfl) ?_
        refine lv_iload_n F.1 F.2.1 dX6_movable_43 rfl (lv_at hl 1 rfl) ?_
        refine lv_iload_n F.1 F.2.1 dX6_movable_44 rfl (lv_at hl 3 rfl) ?_
        refine tVi (b := a0) (As := [.int a1, .int u_12]) (rest := []) F hK hN hO (c_X6_hurtsSomebody E rd tp kb Fa1 Fb1 Fa2 Fb2 Fa3 Fb3 Fa4 Fb4 kr ks Pd1 Pd2 Pd3 Pd4 Ps1 Ps2 Ps3 Ps4 Pi1 Pi2 Pi3 Pi4 t a0 a1 u_12 ha0 r_6 r_16 (by omega) hFa1 hFb1 hFa2 hFb2 hFa3 hFb3 hFa4 hFb4 hkr hks hPd1 hPd2 hPd3 hPd4 hPs1 hPs2 hPs3 hPs4 hPi1 hPi2 hPi3 hPi4) mv_X6_hurtsSomebody wd_36_18 ⟨Nat.le_of_ble_eq_true rfl, Nat.le_of_ble_eq_true rfl⟩ ⟨Nat.le_of_ble_eq_true rfl, Nat.le_of_ble_eq_true rfl⟩ hH hS (tRecv hK hH (tyb ha0 (all1 rfl)) clX6) rfl hl.1 (Nat.le_of_ble_eq_true rfl) dX6_movable_45 (fun z_23 H locs hq hS => ?_)
        obtain ⟨f_24, hH⟩ := hq
        have hH : TH E (tbC (dayD (.inl (0, 18))) (dayD (.inl (0, 18))) (riverD (.inl Fa1) (.inl Fb1) (.inl (0, 4)) 31 33 35 39 43 47) (riverD (.inl Fa2) (.inl Fb2) (.inl (0, 4)) 32 34 36 40 44 48) (rcD (.inl (t, t)) (.inr kr) (.inr ks) (.inl kb)) rd tp A14F A14F A4F A4F A14F A14F (riverD (.inl Fa3) (.inl Fb3) (.inl (0, 4)) 3 8 3 41 45 49) (riverD (.inl Fa4) (.inl Fb4) (.inl (0, 4)) 3 8 3 42 46 50) ((.inr (.inl (0, 12, Pd1)))) ((.inr (.inl (0, 12, Pd2)))) ((.inr (.inl (0, 12, Pd3)))) ((.inr (.inl (0, 12, Pd4)))) ((.inr (.inl (0, 12, Ps1)))) ((.inr (.inl (0, 12, Ps2)))) ((.inr (.inl (0, 12, Ps3)))) ((.inr (.inl (0, 12, Ps4)))) ((.inr (.inl (0, 48, Pi1)))) ((.inr (.inl (0, 48, Pi2)))) ((.inr (.inl (0, 48, Pi3)))) ((.inr (.inl (0, 48, Pi4))))) H := hH
        refine z_ne (tgt := 57) F dX6_movable_48 (by decide) (fun c_25 => ?_) (fun c_25 => ?_)
        · skip
          have r_26 : 1 ≤ z_23.toInt ∧ z_23.toInt ≤ 1 := by have h9_ := f_24; omega
          obtain ⟨x_28, ex_28, hx_28⟩ := iincB (c := 1) (lo := 1) (hi := 12) r_16 rfl
          refine lv_iinc (v := x_28) (lv' := [(3, .int x_28), (0, .ref a0), (1, .int a1), (2, .int u_11)]) F.1 F.2.1 dX6_movable_57 hl (k := 3) rfl ex_28 (by decide) rfl (fun ls hl => ?_)
          refine lv_goto (tgt := 18) F.1 F.2.1 dX6_movable_60 (by decide) ?_
          exact ih_18 (u_11, x_28) _ _ _ ⟨(show (12 - x_28.toInt + 1).toNat < n_18 from by omega), (wkb hx_28.2 rfl rfl), hH, hS, lv_sub hl [1, 2, 3, 0] rfl⟩
        · skip
          have r_27 : 0 ≤ z_23.toInt ∧ z_23.toInt ≤ 0 := by have h9_ := f_24; omega
          refine lv_iload_n F.1 F.2.1 dX6_movable_51 rfl (lv_at hl 2 rfl) ?_
          refine lv_iconst (v := 1) F.1 F.2.1 dX6_movable_52 (by decide) ?_
          refine topK (a := 1) (by decide) (fun k_29 hk_29 => ?_)
          refine lv_iload_n F.1 F.2.1 dX6_movable_53 rfl (lv_at hl 3 rfl) ?_
          refine lv_ishl F.1 F.2.1 dX6_movable_54 ?_
          refine topF (fun z_30 => ?_)
          refine lv_ior F.1 F.2.1 dX6_movable_55 ?_
          refine topF (fun z_31 => ?_)
          refine lv_istore_n (lv' := [(2, .int z_31), (0, .ref a0), (1, .int a1), (3, .int u_12)]) F.1 F.2.1 dX6_movable_56 rfl hl (by decide) rfl (fun ls hl => ?_)
          obtain ⟨x_32, ex_32, hx_32⟩ := iincB (c := 1) (lo := 1) (hi := 12) r_16 rfl
          refine lv_iinc (v := x_32) (lv' := [(3, .int x_32), (2, .int z_31), (0, .ref a0), (1, .int a1)]) F.1 F.2.1 dX6_movable_57 hl (k := 3) rfl ex_32 (by decide) rfl (fun ls hl => ?_)
          refine lv_goto (tgt := 18) F.1 F.2.1 dX6_movable_60 (by decide) ?_
          exact ih_18 (z_31, x_32) _ _ _ ⟨(show (12 - x_32.toInt + 1).toNat < n_18 from by omega), (wkb hx_32.2 rfl rfl), hH, hS, lv_sub hl [2, 3, 1, 0] rfl⟩
  · skip
    have r_7 : 0 ≤ z_1.toInt ∧ z_1.toInt ≤ 0 := by have h9_ := f_2; omega
    refine lv_iconst (v := (-1)) F.1 F.2.1 dX6_movable_8 (by decide) ?_
    refine topK (a := (-1)) (by decide) (fun k_33 hk_33 => ?_)
    exact txI F hS dX6_movable_9 rfl (⟨(wkb (eqb hk_33) rfl rfl), hH⟩)
set_option maxHeartbeats 4000000 in
set_option maxRecDepth 100000 in
theorem c_X6_aged (E : Ev) (rd : TD) (tp : TD) (kb : Int × Int) (Fa1 : Int × Int) (Fb1 : Int × Int) (Fa2 : Int × Int) (Fb2 : Int × Int) (Fa3 : Int × Int) (Fb3 : Int × Int) (Fa4 : Int × Int) (Fb4 : Int × Int) (kr : List Nat) (ks : List Nat) (Pd1 : (Nat → Int32) → Prop) (Pd2 : (Nat → Int32) → Prop) (Pd3 : (Nat → Int32) → Prop) (Pd4 : (Nat → Int32) → Prop) (Ps1 : (Nat → Int32) → Prop) (Ps2 : (Nat → Int32) → Prop) (Ps3 : (Nat → Int32) → Prop) (Ps4 : (Nat → Int32) → Prop) (Pi1 : (Nat → Int32) → Prop) (Pi2 : (Nat → Int32) → Prop) (Pi3 : (Nat → Int32) → Prop) (Pi4 : (Nat → Int32) → Prop) (t : Int) (a0 : Nat) (a1 : Int32) (ha0 : eT E a0 ∈ [28]) (ht : 0 ≤ t ∧ t ≤ 400) (hFa1 : 0 ≤ Fa1.1 ∧ Fa1.2 ≤ 12) (hFb1 : 0 ≤ Fb1.1 ∧ Fb1.2 ≤ 14) (hFa2 : 0 ≤ Fa2.1 ∧ Fa2.2 ≤ 12) (hFb2 : 0 ≤ Fb2.1 ∧ Fb2.2 ≤ 14) (hFa3 : 0 ≤ Fa3.1 ∧ Fa3.2 ≤ 12) (hFb3 : 0 ≤ Fb3.1 ∧ Fb3.2 ≤ 14) (hFa4 : 0 ≤ Fa4.1 ∧ Fa4.2 ≤ 12) (hFb4 : 0 ≤ Fb4.1 ∧ Fb4.2 ≤ 14) (hkr : ∀ t ∈ kr, t ∈ [26, 27]) (hks : ∀ t ∈ ks, t ∈ [26, 27]) (hPd1 : ∀ f, Pd1 f → ivP 12 (-2) 11 f) (hPd2 : ∀ f, Pd2 f → ivP 12 (-2) 11 f) (hPd3 : ∀ f, Pd3 f → ivP 12 (-2) 11 f) (hPd4 : ∀ f, Pd4 f → ivP 12 (-2) 11 f) (hPs1 : ∀ f, Ps1 f → ivP 12 (-2147483648) 2147483647 f) (hPs2 : ∀ f, Ps2 f → ivP 12 (-2147483648) 2147483647 f) (hPs3 : ∀ f, Ps3 f → ivP 12 (-2147483648) 2147483647 f) (hPs4 : ∀ f, Ps4 f → ivP 12 (-2147483648) 2147483647 f) (hPi1 : ∀ f, Pi1 f → ivP 48 (-2147483648) 2147483647 f) (hPi2 : ∀ f, Pi2 f → ivP 48 (-2147483648) 2147483647 f) (hPi3 : ∀ f, Pi3 f → ivP 48 (-2147483648) 2147483647 f) (hPi4 : ∀ f, Pi4 f → ivP 48 (-2147483648) 2147483647 f) : TcI E yX6_aged cX6_aged 2 .int ({ frames := 4, cells := 0, slots := 0, locals := 106 }) [.ref a0, .int a1] (fun H => TH E (tbC (dayD (.inl (0, 18))) (dayD (.inl (0, 18))) (riverD (.inl Fa1) (.inl Fb1) (.inl (0, 4)) 31 33 35 39 43 47) (riverD (.inl Fa2) (.inl Fb2) (.inl (0, 4)) 32 34 36 40 44 48) (rcD (.inl (t, t)) (.inr kr) (.inr ks) (.inl kb)) rd tp A14F A14F A4F A4F A14F A14F (riverD (.inl Fa3) (.inl Fb3) (.inl (0, 4)) 3 8 3 41 45 49) (riverD (.inl Fa4) (.inl Fb4) (.inl (0, 4)) 3 8 3 42 46 50) ((.inr (.inl (0, 12, Pd1)))) ((.inr (.inl (0, 12, Pd2)))) ((.inr (.inl (0, 12, Pd3)))) ((.inr (.inl (0, 12, Pd4)))) ((.inr (.inl (0, 12, Ps1)))) ((.inr (.inl (0, 12, Ps2)))) ((.inr (.inl (0, 12, Ps3)))) ((.inr (.inl (0, 12, Ps4)))) ((.inr (.inl (0, 48, Pi1)))) ((.inr (.inl (0, 48, Pi2)))) ((.inr (.inl (0, 48, Pi3)))) ((.inr (.inl (0, 48, Pi4))))) H) (fun v H => ((-2147483648) ≤ v.toInt ∧ v.toInt ≤ 2147483647) ∧ TH E (tbC (dayD (.inl (0, 18))) (dayD (.inl (0, 18))) (riverD (.inl Fa1) (.inl Fb1) (.inl (0, 4)) 31 33 35 39 43 47) (riverD (.inl Fa2) (.inl Fb2) (.inl (0, 4)) 32 34 36 40 44 48) (rcD (.inl (t, t)) (.inr kr) (.inr ks) (.inl kb)) rd tp A14F A14F A4F A4F A14F A14F (riverD (.inl Fa3) (.inl Fb3) (.inl (0, 4)) 3 8 3 41 45 49) (riverD (.inl Fa4) (.inl Fb4) (.inl (0, 4)) 3 8 3 42 46 50) ((.inr (.inl (0, 12, Pd1)))) ((.inr (.inl (0, 12, Pd2)))) ((.inr (.inl (0, 12, Pd3)))) ((.inr (.inl (0, 12, Pd4)))) ((.inr (.inl (0, 12, Ps1)))) ((.inr (.inl (0, 12, Ps2)))) ((.inr (.inl (0, 12, Ps3)))) ((.inr (.inl (0, 12, Ps4)))) ((.inr (.inl (0, 48, Pi1)))) ((.inr (.inl (0, 48, Pi2)))) ((.inr (.inl (0, 48, Pi3)))) ((.inr (.inl (0, 48, Pi4))))) H) := by
  refine teI (by decide) (Nat.le_of_ble_eq_true rfl) ?_
  intro p_ ev_ s mi_ below_ meth cd_ ls F hK hN hO hH hS hl
  have hH : TH E (tbC (dayD (.inl (0, 18))) (dayD (.inl (0, 18))) (riverD (.inl Fa1) (.inl Fb1) (.inl (0, 4)) 31 33 35 39 43 47) (riverD (.inl Fa2) (.inl Fb2) (.inl (0, 4)) 32 34 36 40 44 48) (rcD (.inl (t, t)) (.inr kr) (.inr ks) (.inl kb)) rd tp A14F A14F A4F A4F A14F A14F (riverD (.inl Fa3) (.inl Fb3) (.inl (0, 4)) 3 8 3 41 45 49) (riverD (.inl Fa4) (.inl Fb4) (.inl (0, 4)) 3 8 3 42 46 50) ((.inr (.inl (0, 12, Pd1)))) ((.inr (.inl (0, 12, Pd2)))) ((.inr (.inl (0, 12, Pd3)))) ((.inr (.inl (0, 12, Pd4)))) ((.inr (.inl (0, 12, Ps1)))) ((.inr (.inl (0, 12, Ps2)))) ((.inr (.inl (0, 12, Ps3)))) ((.inr (.inl (0, 12, Ps4)))) ((.inr (.inl (0, 48, Pi1)))) ((.inr (.inl (0, 48, Pi2)))) ((.inr (.inl (0, 48, Pi3)))) ((.inr (.inl (0, 48, Pi4))))) s.heap := hH
  have hl : lv_has ls 2 [(0, .ref a0), (1, .int a1)] := hl
  refine lv_iload_n F.1 F.2.1 dX6_aged_0 rfl (lv_at hl 1 rfl) ?_
  refine lv_iconst (v := (-1)) F.1 F.2.1 dX6_aged_1 (by decide) ?_
  refine topK (a := (-1)) (by decide) (fun k_1 hk_1 => ?_)
  refine b_ge (tgt := 7) F dX6_aged_2 (by decide) (fun c_2 => ?_) (fun c_2 => ?_)
  · skip
    have r_3 : (-1) ≤ a1.toInt ∧ a1.toInt ≤ 2147483647 := by have h9_ := (i32b a1); omega
    refine lv_aload_n F.1 F.2.1 dX6_aged_7 rfl (lv_at hl 0 rfl) ?_
    refine tGetR (j := 11) F hK hH (tyb ha0 (all1 rfl)) rfl (all1 rfl) clX6 (by decide) wd_2_7 dX6_aged_8 (fun q_5 hq_5 _ => ?_)
    refine lv_aload_n F.1 F.2.1 dX6_aged_11 rfl (lv_at hl 0 rfl) ?_
    refine tGetR0 (j := 2) F hK hH (tyb ha0 (all1 rfl)) rfl clX6 (by decide) wd_1_17 dX6_aged_12 (fun q_6 hq_6 => ?_)
    refine lv_aload_n F.1 F.2.1 dX6_aged_15 rfl (lv_at hl 0 rfl) ?_
    refine tGetR (j := 4) F hK hH (tyb ha0 (all1 rfl)) rfl (all1 rfl) clX6 (by decide) wd_1_22 dX6_aged_16 (fun q_7 hq_7 _ => ?_)
    refine tVv (b := q_5) (As := [.ref q_6, .ref q_7]) (rest := []) F hK hN hO (c_X0_open_A E (dayD (.inl (0, 18))) (rcD (.inl (t, t)) (.inr kr) (.inr ks) (.inl kb)) rd tp Fa1 Fb1 Fa2 Fb2 Fa3 Fb3 Fa4 Fb4 Pd1 Pd2 Pd3 Pd4 Ps1 Ps2 Ps3 Ps4 Pi1 Pi2 Pi3 Pi4 q_5 q_6 q_7 hq_5 (hkr _ hq_6) hq_7 hFa1 hFb1 hFa2 hFb2 hFa3 hFb3 hFa4 hFb4 hPd1 hPd2 hPd3 hPd4 hPs1 hPs2 hPs3 hPs4 hPi1 hPi2 hPi3 hPi4) mv_X0_open wd_19_23 ⟨Nat.le_of_ble_eq_true rfl, Nat.le_of_ble_eq_true rfl⟩ ⟨Nat.le_of_ble_eq_true rfl, Nat.le_of_ble_eq_true rfl⟩ hH hS (tRecv hK hH (tyb hq_5 (all1 rfl)) clX0) rfl hl.1 (Nat.le_of_ble_eq_true rfl) dX6_aged_19 (fun H locs hq hS => ?_)
    have hH := hq
    have hH : TH E (tbC (dayD (.inl (0, 18))) (dayD (.inl (0, 18))) (riverD (.inl Fa1) (.inl Fb1) (.inl (0, 4)) 31 33 35 39 43 47) (riverD (.inl Fa2) (.inl Fb2) (.inl (0, 4)) 32 34 36 40 44 48) (rcD (.inl (t, t)) (.inr kr) (.inr ks) (.inl kb)) rd tp A14F A14F A4F A4F A14F A14F (riverD (.inl Fa3) (.inl Fb3) (.inl (0, 4)) 3 8 3 41 45 49) (riverD (.inl Fa4) (.inl Fb4) (.inl (0, 4)) 3 8 3 42 46 50) ((.inr (.inl (0, 12, Pd1)))) ((.inr (.inl (0, 12, Pd2)))) ((.inr (.inl (0, 12, Pd3)))) ((.inr (.inl (0, 12, Pd4)))) ((.inr (.inl (0, 12, Ps1)))) ((.inr (.inl (0, 12, Ps2)))) ((.inr (.inl (0, 12, Ps3)))) ((.inr (.inl (0, 12, Ps4)))) ((.inr (.inl (0, 48, Pi1)))) ((.inr (.inl (0, 48, Pi2)))) ((.inr (.inl (0, 48, Pi3)))) ((.inr (.inl (0, 48, Pi4))))) H := hH
    refine lv_iload_n F.1 F.2.1 dX6_aged_22 rfl (lv_at hl 1 rfl) ?_
    refine lv_iconst (v := (-1)) F.1 F.2.1 dX6_aged_23 (by decide) ?_
    refine topK (a := (-1)) (by decide) (fun k_9 hk_9 => ?_)
    refine b_ne (tgt := 35) F dX6_aged_24 (by decide) (fun c_10 => ?_) (fun c_10 => ?_)
    · skip
      have r_11 : 0 ≤ a1.toInt ∧ a1.toInt ≤ 2147483647 := by have h9_ := r_3; omega
      refine lv_iload_n F.1 F.2.1 dX6_aged_35 rfl (lv_at hl 1 rfl) ?_
      refine lv_aload_n F.1 F.2.1 dX6_aged_36 rfl (lv_at hl 0 rfl) ?_
      refine tGetR (j := 11) F hK hH (tyb ha0 (all1 rfl)) rfl (all1 rfl) clX6 (by decide) wd_2_7 dX6_aged_37 (fun q_13 hq_13 _ => ?_)
      refine tGetI (j := 3) F hK hH (tyb hq_13 (all1 rfl)) rfl clX0 (by decide) wd_45_0 dX6_aged_40 (fun z_14 hz_14 => ?_)
      refine b_ge (tgt := 61) F dX6_aged_43 (by decide) (fun c_15 => ?_) (fun c_15 => ?_)
      · skip
        refine lv_bipush (v := (-2)) F.1 F.2.1 dX6_aged_61 (by decide) ?_
        refine topK (a := (-2)) (by decide) (fun k_18 hk_18 => ?_)
        exact txI F hS dX6_aged_63 rfl (⟨(wkb (eqb hk_18) rfl rfl), hH⟩)
      · skip
        have r_16 : 0 ≤ a1.toInt ∧ a1.toInt ≤ 17 := by have h9_ := r_11; omega
        have r_17 : 1 ≤ z_14.toInt ∧ z_14.toInt ≤ 18 := by have h9_ := hz_14; omega
        refine lv_aload_n F.1 F.2.1 dX6_aged_46 rfl (lv_at hl 0 rfl) ?_
        refine tGetR (j := 11) F hK hH (tyb ha0 (all1 rfl)) rfl (all1 rfl) clX6 (by decide) wd_2_7 dX6_aged_47 (fun q_19 hq_19 _ => ?_)
        refine tGetR (j := 2) F hK hH (tyb hq_19 (all1 rfl)) rfl (all1 rfl) clX0 (by decide) wd_45_1 dX6_aged_50 (fun q_20 hq_20 _ => ?_)
        refine lv_iload_n F.1 F.2.1 dX6_aged_53 rfl (lv_at hl 1 rfl) ?_
        refine tIaldB F hK hH (tyb hq_20 (all1 rfl)) (ixb (n := 18) r_16 rfl rfl) dX6_aged_54 (fun z_21 hz_21 => ?_)
        refine tSi (As := [.int z_21]) (rest := []) F hK hN hO (c_X6_nameOf E (dayD (.inl (0, 18))) (dayD (.inl (0, 18))) (riverD (.inl Fa1) (.inl Fb1) (.inl (0, 4)) 31 33 35 39 43 47) (riverD (.inl Fa2) (.inl Fb2) (.inl (0, 4)) 32 34 36 40 44 48) (rcD (.inl (t, t)) (.inr kr) (.inr ks) (.inl kb)) rd tp A14F A14F A4F A4F A14F A14F (riverD (.inl Fa3) (.inl Fb3) (.inl (0, 4)) 3 8 3 41 45 49) (riverD (.inl Fa4) (.inl Fb4) (.inl (0, 4)) 3 8 3 42 46 50) ((.inr (.inl (0, 12, Pd1)))) ((.inr (.inl (0, 12, Pd2)))) ((.inr (.inl (0, 12, Pd3)))) ((.inr (.inl (0, 12, Pd4)))) ((.inr (.inl (0, 12, Ps1)))) ((.inr (.inl (0, 12, Ps2)))) ((.inr (.inl (0, 12, Ps3)))) ((.inr (.inl (0, 12, Ps4)))) ((.inr (.inl (0, 48, Pi1)))) ((.inr (.inl (0, 48, Pi2)))) ((.inr (.inl (0, 48, Pi3)))) ((.inr (.inl (0, 48, Pi4)))) z_21) ms_X6_nameOf wd_45_4 ⟨Nat.le_of_ble_eq_true rfl, Nat.le_of_ble_eq_true rfl⟩ ⟨Nat.le_of_ble_eq_true rfl, Nat.le_of_ble_eq_true rfl⟩ hH hS rfl hl.1 (Nat.le_of_ble_eq_true rfl) dX6_aged_55 (fun z_22 H locs hq hS => ?_)
        obtain ⟨f_23, hH⟩ := hq
        have hH : TH E (tbC (dayD (.inl (0, 18))) (dayD (.inl (0, 18))) (riverD (.inl Fa1) (.inl Fb1) (.inl (0, 4)) 31 33 35 39 43 47) (riverD (.inl Fa2) (.inl Fb2) (.inl (0, 4)) 32 34 36 40 44 48) (rcD (.inl (t, t)) (.inr kr) (.inr ks) (.inl kb)) rd tp A14F A14F A4F A4F A14F A14F (riverD (.inl Fa3) (.inl Fb3) (.inl (0, 4)) 3 8 3 41 45 49) (riverD (.inl Fa4) (.inl Fb4) (.inl (0, 4)) 3 8 3 42 46 50) ((.inr (.inl (0, 12, Pd1)))) ((.inr (.inl (0, 12, Pd2)))) ((.inr (.inl (0, 12, Pd3)))) ((.inr (.inl (0, 12, Pd4)))) ((.inr (.inl (0, 12, Ps1)))) ((.inr (.inl (0, 12, Ps2)))) ((.inr (.inl (0, 12, Ps3)))) ((.inr (.inl (0, 12, Ps4)))) ((.inr (.inl (0, 48, Pi1)))) ((.inr (.inl (0, 48, Pi2)))) ((.inr (.inl (0, 48, Pi3)))) ((.inr (.inl (0, 48, Pi4))))) H := hH
        refine lv_goto (tgt := 63) F.1 F.2.1 dX6_aged_58 (by decide) ?_
        exact txI F hS dX6_aged_63 rfl (⟨f_23, hH⟩)
    · skip
      have r_12 : (-1) ≤ a1.toInt ∧ a1.toInt ≤ (-1) := by have h9_ := r_3; omega
      refine lv_aload_n F.1 F.2.1 dX6_aged_27 rfl (lv_at hl 0 rfl) ?_
      refine tGetR (j := 11) F hK hH (tyb ha0 (all1 rfl)) rfl (all1 rfl) clX6 (by decide) wd_2_7 dX6_aged_28 (fun q_24 hq_24 _ => ?_)
      refine tGetI (j := 3) F hK hH (tyb hq_24 (all1 rfl)) rfl clX0 (by decide) wd_45_0 dX6_aged_31 (fun z_25 hz_25 => ?_)
      exact txI F hS dX6_aged_34 rfl (⟨(wkb hz_25 rfl rfl), hH⟩)
  · skip
    have r_4 : (-2147483648) ≤ a1.toInt ∧ a1.toInt ≤ (-2) := by have h9_ := (i32b a1); omega
    refine lv_iconst (v := (-1)) F.1 F.2.1 dX6_aged_5 (by decide) ?_
    refine topK (a := (-1)) (by decide) (fun k_26 hk_26 => ?_)
    exact txI F hS dX6_aged_6 rfl (⟨(wkb (eqb hk_26) rfl rfl), hH⟩)
set_option maxHeartbeats 4000000 in
set_option maxRecDepth 100000 in
theorem c_X6_runs (E : Ev) (rd : TD) (tp : TD) (kb : Int × Int) (Fa1 : Int × Int) (Fb1 : Int × Int) (Fa2 : Int × Int) (Fb2 : Int × Int) (Fa3 : Int × Int) (Fb3 : Int × Int) (Fa4 : Int × Int) (Fb4 : Int × Int) (kr : List Nat) (ks : List Nat) (Pd1 : (Nat → Int32) → Prop) (Pd2 : (Nat → Int32) → Prop) (Pd3 : (Nat → Int32) → Prop) (Pd4 : (Nat → Int32) → Prop) (Ps1 : (Nat → Int32) → Prop) (Ps2 : (Nat → Int32) → Prop) (Ps3 : (Nat → Int32) → Prop) (Ps4 : (Nat → Int32) → Prop) (Pi1 : (Nat → Int32) → Prop) (Pi2 : (Nat → Int32) → Prop) (Pi3 : (Nat → Int32) → Prop) (Pi4 : (Nat → Int32) → Prop) (t : Int) (a0 : Nat) (a1 : Int32) (a2 : Int32) (ha0 : eT E a0 ∈ [28]) (ht : 0 ≤ t ∧ t ≤ 400) (hFa1 : 0 ≤ Fa1.1 ∧ Fa1.2 ≤ 12) (hFb1 : 0 ≤ Fb1.1 ∧ Fb1.2 ≤ 14) (hFa2 : 0 ≤ Fa2.1 ∧ Fa2.2 ≤ 12) (hFb2 : 0 ≤ Fb2.1 ∧ Fb2.2 ≤ 14) (hFa3 : 0 ≤ Fa3.1 ∧ Fa3.2 ≤ 12) (hFb3 : 0 ≤ Fb3.1 ∧ Fb3.2 ≤ 14) (hFa4 : 0 ≤ Fa4.1 ∧ Fa4.2 ≤ 12) (hFb4 : 0 ≤ Fb4.1 ∧ Fb4.2 ≤ 14) (hkr : ∀ t ∈ kr, t ∈ [26, 27]) (hks : ∀ t ∈ ks, t ∈ [26, 27]) (hPd1 : ∀ f, Pd1 f → ivP 12 (-2) 11 f) (hPd2 : ∀ f, Pd2 f → ivP 12 (-2) 11 f) (hPd3 : ∀ f, Pd3 f → ivP 12 (-2) 11 f) (hPd4 : ∀ f, Pd4 f → ivP 12 (-2) 11 f) (hPs1 : ∀ f, Ps1 f → ivP 12 (-2147483648) 2147483647 f) (hPs2 : ∀ f, Ps2 f → ivP 12 (-2147483648) 2147483647 f) (hPs3 : ∀ f, Ps3 f → ivP 12 (-2147483648) 2147483647 f) (hPs4 : ∀ f, Ps4 f → ivP 12 (-2147483648) 2147483647 f) (hPi1 : ∀ f, Pi1 f → ivP 48 (-2147483648) 2147483647 f) (hPi2 : ∀ f, Pi2 f → ivP 48 (-2147483648) 2147483647 f) (hPi3 : ∀ f, Pi3 f → ivP 48 (-2147483648) 2147483647 f) (hPi4 : ∀ f, Pi4 f → ivP 48 (-2147483648) 2147483647 f) : TcI E yX6_runs cX6_runs 3 .int ({ frames := 6, cells := 0, slots := 0, locals := 163 }) [.ref a0, .int a1, .int a2] (fun H => TH E (tbC (dayD (.inl (0, 18))) (dayD (.inl (0, 18))) (riverD (.inl Fa1) (.inl Fb1) (.inl (0, 4)) 31 33 35 39 43 47) (riverD (.inl Fa2) (.inl Fb2) (.inl (0, 4)) 32 34 36 40 44 48) (rcD (.inl (t, t)) (.inr kr) (.inr ks) (.inl kb)) rd tp A14F A14F A4F A4F A14F A14F (riverD (.inl Fa3) (.inl Fb3) (.inl (0, 4)) 3 8 3 41 45 49) (riverD (.inl Fa4) (.inl Fb4) (.inl (0, 4)) 3 8 3 42 46 50) ((.inr (.inl (0, 12, Pd1)))) ((.inr (.inl (0, 12, Pd2)))) ((.inr (.inl (0, 12, Pd3)))) ((.inr (.inl (0, 12, Pd4)))) ((.inr (.inl (0, 12, Ps1)))) ((.inr (.inl (0, 12, Ps2)))) ((.inr (.inl (0, 12, Ps3)))) ((.inr (.inl (0, 12, Ps4)))) ((.inr (.inl (0, 48, Pi1)))) ((.inr (.inl (0, 48, Pi2)))) ((.inr (.inl (0, 48, Pi3)))) ((.inr (.inl (0, 48, Pi4))))) H) (fun v H => ((-2147483648) ≤ v.toInt ∧ v.toInt ≤ 2147483647) ∧ TH E (tbC (dayD (.inl (0, 18))) (dayD (.inl (0, 18))) (riverD (.inl Fa1) (.inl Fb1) (.inl (0, 4)) 31 33 35 39 43 47) (riverD (.inl Fa2) (.inl Fb2) (.inl (0, 4)) 32 34 36 40 44 48) (rcD (.inl (t, t)) (.inr kr) (.inr ks) (.inl kb)) rd tp A14F A14F A4F A4F A14F A14F (riverD (.inl Fa3) (.inl Fb3) (.inl (0, 4)) 3 8 3 41 45 49) (riverD (.inl Fa4) (.inl Fb4) (.inl (0, 4)) 3 8 3 42 46 50) ((.inr (.inl (0, 12, Pd1)))) ((.inr (.inl (0, 12, Pd2)))) ((.inr (.inl (0, 12, Pd3)))) ((.inr (.inl (0, 12, Pd4)))) ((.inr (.inl (0, 12, Ps1)))) ((.inr (.inl (0, 12, Ps2)))) ((.inr (.inl (0, 12, Ps3)))) ((.inr (.inl (0, 12, Ps4)))) ((.inr (.inl (0, 48, Pi1)))) ((.inr (.inl (0, 48, Pi2)))) ((.inr (.inl (0, 48, Pi3)))) ((.inr (.inl (0, 48, Pi4))))) H) := by
  refine teI (by decide) (Nat.le_of_ble_eq_true rfl) ?_
  intro p_ ev_ s mi_ below_ meth cd_ ls F hK hN hO hH hS hl
  have hH : TH E (tbC (dayD (.inl (0, 18))) (dayD (.inl (0, 18))) (riverD (.inl Fa1) (.inl Fb1) (.inl (0, 4)) 31 33 35 39 43 47) (riverD (.inl Fa2) (.inl Fb2) (.inl (0, 4)) 32 34 36 40 44 48) (rcD (.inl (t, t)) (.inr kr) (.inr ks) (.inl kb)) rd tp A14F A14F A4F A4F A14F A14F (riverD (.inl Fa3) (.inl Fb3) (.inl (0, 4)) 3 8 3 41 45 49) (riverD (.inl Fa4) (.inl Fb4) (.inl (0, 4)) 3 8 3 42 46 50) ((.inr (.inl (0, 12, Pd1)))) ((.inr (.inl (0, 12, Pd2)))) ((.inr (.inl (0, 12, Pd3)))) ((.inr (.inl (0, 12, Pd4)))) ((.inr (.inl (0, 12, Ps1)))) ((.inr (.inl (0, 12, Ps2)))) ((.inr (.inl (0, 12, Ps3)))) ((.inr (.inl (0, 12, Ps4)))) ((.inr (.inl (0, 48, Pi1)))) ((.inr (.inl (0, 48, Pi2)))) ((.inr (.inl (0, 48, Pi3)))) ((.inr (.inl (0, 48, Pi4))))) s.heap := hH
  have hl : lv_has ls 3 [(0, .ref a0), (1, .int a1), (2, .int a2)] := hl
  refine lv_iload_n F.1 F.2.1 dX6_runs_0 rfl (lv_at hl 1 rfl) ?_
  refine tSi (As := [.int a1]) (rest := []) F hK hN hO (c_X6_isSpan E (dayD (.inl (0, 18))) (dayD (.inl (0, 18))) (riverD (.inl Fa1) (.inl Fb1) (.inl (0, 4)) 31 33 35 39 43 47) (riverD (.inl Fa2) (.inl Fb2) (.inl (0, 4)) 32 34 36 40 44 48) (rcD (.inl (t, t)) (.inr kr) (.inr ks) (.inl kb)) rd tp A14F A14F A4F A4F A14F A14F (riverD (.inl Fa3) (.inl Fb3) (.inl (0, 4)) 3 8 3 41 45 49) (riverD (.inl Fa4) (.inl Fb4) (.inl (0, 4)) 3 8 3 42 46 50) ((.inr (.inl (0, 12, Pd1)))) ((.inr (.inl (0, 12, Pd2)))) ((.inr (.inl (0, 12, Pd3)))) ((.inr (.inl (0, 12, Pd4)))) ((.inr (.inl (0, 12, Ps1)))) ((.inr (.inl (0, 12, Ps2)))) ((.inr (.inl (0, 12, Ps3)))) ((.inr (.inl (0, 12, Ps4)))) ((.inr (.inl (0, 48, Pi1)))) ((.inr (.inl (0, 48, Pi2)))) ((.inr (.inl (0, 48, Pi3)))) ((.inr (.inl (0, 48, Pi4)))) a1) ms_X6_isSpan wd_47_14 ⟨Nat.le_of_ble_eq_true rfl, Nat.le_of_ble_eq_true rfl⟩ ⟨Nat.le_of_ble_eq_true rfl, Nat.le_of_ble_eq_true rfl⟩ hH hS rfl hl.1 (Nat.le_of_ble_eq_true rfl) dX6_runs_1 (fun z_1 H locs hq hS => ?_)
  obtain ⟨f_2, f_3, hH⟩ := hq
  have hH : TH E (tbC (dayD (.inl (0, 18))) (dayD (.inl (0, 18))) (riverD (.inl Fa1) (.inl Fb1) (.inl (0, 4)) 31 33 35 39 43 47) (riverD (.inl Fa2) (.inl Fb2) (.inl (0, 4)) 32 34 36 40 44 48) (rcD (.inl (t, t)) (.inr kr) (.inr ks) (.inl kb)) rd tp A14F A14F A4F A4F A14F A14F (riverD (.inl Fa3) (.inl Fb3) (.inl (0, 4)) 3 8 3 41 45 49) (riverD (.inl Fa4) (.inl Fb4) (.inl (0, 4)) 3 8 3 42 46 50) ((.inr (.inl (0, 12, Pd1)))) ((.inr (.inl (0, 12, Pd2)))) ((.inr (.inl (0, 12, Pd3)))) ((.inr (.inl (0, 12, Pd4)))) ((.inr (.inl (0, 12, Ps1)))) ((.inr (.inl (0, 12, Ps2)))) ((.inr (.inl (0, 12, Ps3)))) ((.inr (.inl (0, 12, Ps4)))) ((.inr (.inl (0, 48, Pi1)))) ((.inr (.inl (0, 48, Pi2)))) ((.inr (.inl (0, 48, Pi3)))) ((.inr (.inl (0, 48, Pi4))))) H := hH
  refine z_eq (tgt := 16) F dX6_runs_4 (by decide) (fun c_4 => ?_) (fun c_4 => ?_)
  · skip
    have r_5 : 0 ≤ z_1.toInt ∧ z_1.toInt ≤ 0 := by have h9_ := f_2; omega
    refine lv_iconst (v := (-1)) F.1 F.2.1 dX6_runs_16 (by decide) ?_
    refine topK (a := (-1)) (by decide) (fun k_8 hk_8 => ?_)
    exact txI F hS dX6_runs_17 rfl (⟨(wkb (eqb hk_8) rfl rfl), hH⟩)
  · skip
    have r_6 : 1 ≤ z_1.toInt ∧ z_1.toInt ≤ 1 := by have h9_ := f_2; omega
    have r_7 : 1 ≤ a1.toInt ∧ a1.toInt ≤ 360 := by have h9_ := (i32b a1); omega
    refine lv_iload_n F.1 F.2.1 dX6_runs_7 rfl (lv_at hl 2 rfl) ?_
    refine z_lt (tgt := 16) F dX6_runs_8 (by decide) (fun c_9 => ?_) (fun c_9 => ?_)
    · skip
      have r_10 : (-2147483648) ≤ a2.toInt ∧ a2.toInt ≤ (-1) := by have h9_ := (i32b a2); omega
      refine lv_iconst (v := (-1)) F.1 F.2.1 dX6_runs_16 (by decide) ?_
      refine topK (a := (-1)) (by decide) (fun k_12 hk_12 => ?_)
      exact txI F hS dX6_runs_17 rfl (⟨(wkb (eqb hk_12) rfl rfl), hH⟩)
    · skip
      have r_11 : 0 ≤ a2.toInt ∧ a2.toInt ≤ 2147483647 := by have h9_ := (i32b a2); omega
      refine lv_iload_n F.1 F.2.1 dX6_runs_11 rfl (lv_at hl 2 rfl) ?_
      refine lv_iconst (v := 3) F.1 F.2.1 dX6_runs_12 (by decide) ?_
      refine topK (a := 3) (by decide) (fun k_13 hk_13 => ?_)
      refine b_le (tgt := 18) F dX6_runs_13 (by decide) (fun c_14 => ?_) (fun c_14 => ?_)
      · skip
        have r_15 : 0 ≤ a2.toInt ∧ a2.toInt ≤ 3 := by have h9_ := r_11; omega
        refine lv_aload_n F.1 F.2.1 dX6_runs_18 rfl (lv_at hl 0 rfl) ?_
        refine tGetR (j := 12) F hK hH (tyb ha0 (all1 rfl)) rfl (all1 rfl) clX6 (by decide) wd_2_11 dX6_runs_19 (fun q_17 hq_17 _ => ?_)
        refine lv_aload_n F.1 F.2.1 dX6_runs_22 rfl (lv_at hl 0 rfl) ?_
        refine tGetR0 (j := 2) F hK hH (tyb ha0 (all1 rfl)) rfl clX6 (by decide) wd_1_17 dX6_runs_23 (fun q_18 hq_18 => ?_)
        refine lv_aload_n F.1 F.2.1 dX6_runs_26 rfl (lv_at hl 0 rfl) ?_
        refine tGetR (j := 4) F hK hH (tyb ha0 (all1 rfl)) rfl (all1 rfl) clX6 (by decide) wd_1_22 dX6_runs_27 (fun q_19 hq_19 _ => ?_)
        refine tVv (b := q_17) (As := [.ref q_18, .ref q_19]) (rest := []) F hK hN hO (c_X1_begin E (rcD (.inl (t, t)) (.inr kr) (.inr ks) (.inl kb)) rd tp Fa1 Fb1 Fa2 Fb2 Fa3 Fb3 Fa4 Fb4 Pd1 Pd2 Pd3 Pd4 Ps1 Ps2 Ps3 Ps4 Pi1 Pi2 Pi3 Pi4 q_17 q_18 q_19 hq_17 (hkr _ hq_18) hq_19 hFa1 hFb1 hFa2 hFb2 hFa3 hFb3 hFa4 hFb4 hPd1 hPd2 hPd3 hPd4 hPs1 hPs2 hPs3 hPs4 hPi1 hPi2 hPi3 hPi4) mv_X1_begin wd_34_15 ⟨Nat.le_of_ble_eq_true rfl, Nat.le_of_ble_eq_true rfl⟩ ⟨Nat.le_of_ble_eq_true rfl, Nat.le_of_ble_eq_true rfl⟩ hH hS (tRecv hK hH (tyb hq_17 (all1 rfl)) clX1) rfl hl.1 (Nat.le_of_ble_eq_true rfl) dX6_runs_30 (fun H locs hq hS => ?_)
        have hH := hq
        have hH : TH E (tbC (dayD (.inl (0, 18))) (dayD (.inl (0, 18))) (riverD (.inl Fa1) (.inl Fb1) (.inl (0, 4)) 31 33 35 39 43 47) (riverD (.inl Fa2) (.inl Fb2) (.inl (0, 4)) 32 34 36 40 44 48) (rcD (.inl (t, t)) (.inr kr) (.inr ks) (.inl kb)) rd tp A14F A14F A4F A4F A14F A14F (riverD (.inl Fa3) (.inl Fb3) (.inl (0, 4)) 3 8 3 41 45 49) (riverD (.inl Fa4) (.inl Fb4) (.inl (0, 4)) 3 8 3 42 46 50) ((.inr (.inl (0, 12, Pd1)))) ((.inr (.inl (0, 12, Pd2)))) ((.inr (.inl (0, 12, Pd3)))) ((.inr (.inl (0, 12, Pd4)))) ((.inr (.inl (0, 12, Ps1)))) ((.inr (.inl (0, 12, Ps2)))) ((.inr (.inl (0, 12, Ps3)))) ((.inr (.inl (0, 12, Ps4)))) ((.inr (.inl (0, 48, Pi1)))) ((.inr (.inl (0, 48, Pi2)))) ((.inr (.inl (0, 48, Pi3)))) ((.inr (.inl (0, 48, Pi4))))) H := hH
        refine lv_aload_n F.1 F.2.1 dX6_runs_33 rfl (lv_at hl 0 rfl) ?_
        refine tGetR (j := 12) F hK hH (tyb ha0 (all1 rfl)) rfl (all1 rfl) clX6 (by decide) wd_2_11 dX6_runs_34 (fun q_21 hq_21 _ => ?_)
        refine lv_iload_n F.1 F.2.1 dX6_runs_37 rfl (lv_at hl 1 rfl) ?_
        refine lv_iconst (v := (-1)) F.1 F.2.1 dX6_runs_38 (by decide) ?_
        refine topK (a := (-1)) (by decide) (fun k_22 hk_22 => ?_)
        refine tVv (b := q_21) (As := [.int a1, .int k_22]) (rest := []) F hK hN hO (c_X1_run E (rcD (.inl (t, t)) (.inr kr) (.inr ks) (.inl kb)) rd tp Fa1 Fb1 Fa2 Fb2 Fa3 Fb3 Fa4 Fb4 Pd1 Pd2 Pd3 Pd4 Ps1 Ps2 Ps3 Ps4 Pi1 Pi2 Pi3 Pi4 q_21 a1 k_22 hq_21 r_7 hFa1 hFb1 hFa2 hFb2 hFa3 hFb3 hFa4 hFb4 hPd1 hPd2 hPd3 hPd4 hPs1 hPs2 hPs3 hPs4 hPi1 hPi2 hPi3 hPi4) mv_X1_run wd_35_2 ⟨Nat.le_of_ble_eq_true rfl, Nat.le_of_ble_eq_true rfl⟩ ⟨Nat.le_of_ble_eq_true rfl, Nat.le_of_ble_eq_true rfl⟩ hH hS (tRecv hK hH (tyb hq_21 (all1 rfl)) clX1) rfl hl.1 (Nat.le_of_ble_eq_true rfl) dX6_runs_39 (fun H locs hq hS => ?_)
        have hH := hq
        have hH : TH E (tbC (dayD (.inl (0, 18))) (dayD (.inl (0, 18))) (riverD (.inl Fa1) (.inl Fb1) (.inl (0, 4)) 31 33 35 39 43 47) (riverD (.inl Fa2) (.inl Fb2) (.inl (0, 4)) 32 34 36 40 44 48) (rcD (.inl (t, t)) (.inr kr) (.inr ks) (.inl kb)) rd tp A14F A14F A4F A4F A14F A14F (riverD (.inl Fa3) (.inl Fb3) (.inl (0, 4)) 3 8 3 41 45 49) (riverD (.inl Fa4) (.inl Fb4) (.inl (0, 4)) 3 8 3 42 46 50) ((.inr (.inl (0, 12, Pd1)))) ((.inr (.inl (0, 12, Pd2)))) ((.inr (.inl (0, 12, Pd3)))) ((.inr (.inl (0, 12, Pd4)))) ((.inr (.inl (0, 12, Ps1)))) ((.inr (.inl (0, 12, Ps2)))) ((.inr (.inl (0, 12, Ps3)))) ((.inr (.inl (0, 12, Ps4)))) ((.inr (.inl (0, 48, Pi1)))) ((.inr (.inl (0, 48, Pi2)))) ((.inr (.inl (0, 48, Pi3)))) ((.inr (.inl (0, 48, Pi4))))) H := hH
        refine lv_iload_n F.1 F.2.1 dX6_runs_42 rfl (lv_at hl 2 rfl) ?_
        rcases (by omega : (a2.toInt < 0 ∨ 2 < a2.toInt) ∨ a2.toInt = 0 ∨ a2.toInt = 1 ∨ a2.toInt = 2) with w_24 | w_24 | w_24 | w_24
        · skip
          refine tTabOut (tgt := 95) F dX6_runs_43 w_24 (by decide) ?_
          refine lv_aload_n F.1 F.2.1 dX6_runs_95 rfl (lv_at hl 0 rfl) ?_
          refine tGetR (j := 12) F hK hH (tyb ha0 (all1 rfl)) rfl (all1 rfl) clX6 (by decide) wd_2_11 dX6_runs_96 (fun q_25 hq_25 _ => ?_)
          refine tGetI (j := 5) F hK hH (tyb hq_25 (all1 rfl)) rfl clX1 (by decide) wd_49_14 dX6_runs_99 (fun z_26 hz_26 => ?_)
          exact txI F hS dX6_runs_102 rfl (⟨hz_26, hH⟩)
        · skip
          refine tTabIn (off := 25) (tgt := 68) F dX6_runs_43 w_24 (by decide) (by decide) (by decide +kernel) (by decide) ?_
          refine lv_aload_n F.1 F.2.1 dX6_runs_68 rfl (lv_at hl 0 rfl) ?_
          refine tGetR (j := 12) F hK hH (tyb ha0 (all1 rfl)) rfl (all1 rfl) clX6 (by decide) wd_2_11 dX6_runs_69 (fun q_27 hq_27 _ => ?_)
          refine lv_iconst (v := 1) F.1 F.2.1 dX6_runs_72 (by decide) ?_
          refine topK (a := 1) (by decide) (fun k_28 hk_28 => ?_)
          refine tVi (b := q_27) (As := [.int k_28]) (rest := []) F hK hN hO (c_X1_sumOf E (rcD (.inl (t, t)) (.inr kr) (.inr ks) (.inl kb)) rd tp Fa1 Fb1 Fa2 Fb2 Fa3 Fb3 Fa4 Fb4 Pd1 Pd2 Pd3 Pd4 Ps1 Ps2 Ps3 Ps4 Pi1 Pi2 Pi3 Pi4 q_27 k_28 hq_27 (wkb (eqb hk_28) rfl rfl) hFa1 hFb1 hFa2 hFb2 hFa3 hFb3 hFa4 hFb4 hPd1 hPd2 hPd3 hPd4 hPs1 hPs2 hPs3 hPs4 hPi1 hPi2 hPi3 hPi4) mv_X1_sumOf wd_49_15 ⟨Nat.le_of_ble_eq_true rfl, Nat.le_of_ble_eq_true rfl⟩ ⟨Nat.le_of_ble_eq_true rfl, Nat.le_of_ble_eq_true rfl⟩ hH hS (tRecv hK hH (tyb hq_27 (all1 rfl)) clX1) rfl hl.1 (Nat.le_of_ble_eq_true rfl) dX6_runs_73 (fun z_29 H locs hq hS => ?_)
          obtain ⟨f_30, hH⟩ := hq
          have hH : TH E (tbC (dayD (.inl (0, 18))) (dayD (.inl (0, 18))) (riverD (.inl Fa1) (.inl Fb1) (.inl (0, 4)) 31 33 35 39 43 47) (riverD (.inl Fa2) (.inl Fb2) (.inl (0, 4)) 32 34 36 40 44 48) (rcD (.inl (t, t)) (.inr kr) (.inr ks) (.inl kb)) rd tp A14F A14F A4F A4F A14F A14F (riverD (.inl Fa3) (.inl Fb3) (.inl (0, 4)) 3 8 3 41 45 49) (riverD (.inl Fa4) (.inl Fb4) (.inl (0, 4)) 3 8 3 42 46 50) ((.inr (.inl (0, 12, Pd1)))) ((.inr (.inl (0, 12, Pd2)))) ((.inr (.inl (0, 12, Pd3)))) ((.inr (.inl (0, 12, Pd4)))) ((.inr (.inl (0, 12, Ps1)))) ((.inr (.inl (0, 12, Ps2)))) ((.inr (.inl (0, 12, Ps3)))) ((.inr (.inl (0, 12, Ps4)))) ((.inr (.inl (0, 48, Pi1)))) ((.inr (.inl (0, 48, Pi2)))) ((.inr (.inl (0, 48, Pi3)))) ((.inr (.inl (0, 48, Pi4))))) H := hH
          exact txI F hS dX6_runs_76 rfl (⟨f_30, hH⟩)
        · skip
          refine tTabIn (off := 34) (tgt := 77) F dX6_runs_43 w_24 (by decide) (by decide) (by decide +kernel) (by decide) ?_
          refine lv_aload_n F.1 F.2.1 dX6_runs_77 rfl (lv_at hl 0 rfl) ?_
          refine tGetR (j := 12) F hK hH (tyb ha0 (all1 rfl)) rfl (all1 rfl) clX6 (by decide) wd_2_11 dX6_runs_78 (fun q_31 hq_31 _ => ?_)
          refine lv_iconst (v := 2) F.1 F.2.1 dX6_runs_81 (by decide) ?_
          refine topK (a := 2) (by decide) (fun k_32 hk_32 => ?_)
          refine tVi (b := q_31) (As := [.int k_32]) (rest := []) F hK hN hO (c_X1_sumOf E (rcD (.inl (t, t)) (.inr kr) (.inr ks) (.inl kb)) rd tp Fa1 Fb1 Fa2 Fb2 Fa3 Fb3 Fa4 Fb4 Pd1 Pd2 Pd3 Pd4 Ps1 Ps2 Ps3 Ps4 Pi1 Pi2 Pi3 Pi4 q_31 k_32 hq_31 (wkb (eqb hk_32) rfl rfl) hFa1 hFb1 hFa2 hFb2 hFa3 hFb3 hFa4 hFb4 hPd1 hPd2 hPd3 hPd4 hPs1 hPs2 hPs3 hPs4 hPi1 hPi2 hPi3 hPi4) mv_X1_sumOf wd_49_15 ⟨Nat.le_of_ble_eq_true rfl, Nat.le_of_ble_eq_true rfl⟩ ⟨Nat.le_of_ble_eq_true rfl, Nat.le_of_ble_eq_true rfl⟩ hH hS (tRecv hK hH (tyb hq_31 (all1 rfl)) clX1) rfl hl.1 (Nat.le_of_ble_eq_true rfl) dX6_runs_82 (fun z_33 H locs hq hS => ?_)
          obtain ⟨f_34, hH⟩ := hq
          have hH : TH E (tbC (dayD (.inl (0, 18))) (dayD (.inl (0, 18))) (riverD (.inl Fa1) (.inl Fb1) (.inl (0, 4)) 31 33 35 39 43 47) (riverD (.inl Fa2) (.inl Fb2) (.inl (0, 4)) 32 34 36 40 44 48) (rcD (.inl (t, t)) (.inr kr) (.inr ks) (.inl kb)) rd tp A14F A14F A4F A4F A14F A14F (riverD (.inl Fa3) (.inl Fb3) (.inl (0, 4)) 3 8 3 41 45 49) (riverD (.inl Fa4) (.inl Fb4) (.inl (0, 4)) 3 8 3 42 46 50) ((.inr (.inl (0, 12, Pd1)))) ((.inr (.inl (0, 12, Pd2)))) ((.inr (.inl (0, 12, Pd3)))) ((.inr (.inl (0, 12, Pd4)))) ((.inr (.inl (0, 12, Ps1)))) ((.inr (.inl (0, 12, Ps2)))) ((.inr (.inl (0, 12, Ps3)))) ((.inr (.inl (0, 12, Ps4)))) ((.inr (.inl (0, 48, Pi1)))) ((.inr (.inl (0, 48, Pi2)))) ((.inr (.inl (0, 48, Pi3)))) ((.inr (.inl (0, 48, Pi4))))) H := hH
          exact txI F hS dX6_runs_85 rfl (⟨f_34, hH⟩)
        · skip
          refine tTabIn (off := 43) (tgt := 86) F dX6_runs_43 w_24 (by decide) (by decide) (by decide +kernel) (by decide) ?_
          refine lv_aload_n F.1 F.2.1 dX6_runs_86 rfl (lv_at hl 0 rfl) ?_
          refine tGetR (j := 12) F hK hH (tyb ha0 (all1 rfl)) rfl (all1 rfl) clX6 (by decide) wd_2_11 dX6_runs_87 (fun q_35 hq_35 _ => ?_)
          refine lv_iconst (v := 3) F.1 F.2.1 dX6_runs_90 (by decide) ?_
          refine topK (a := 3) (by decide) (fun k_36 hk_36 => ?_)
          refine tVi (b := q_35) (As := [.int k_36]) (rest := []) F hK hN hO (c_X1_sumOf E (rcD (.inl (t, t)) (.inr kr) (.inr ks) (.inl kb)) rd tp Fa1 Fb1 Fa2 Fb2 Fa3 Fb3 Fa4 Fb4 Pd1 Pd2 Pd3 Pd4 Ps1 Ps2 Ps3 Ps4 Pi1 Pi2 Pi3 Pi4 q_35 k_36 hq_35 (wkb (eqb hk_36) rfl rfl) hFa1 hFb1 hFa2 hFb2 hFa3 hFb3 hFa4 hFb4 hPd1 hPd2 hPd3 hPd4 hPs1 hPs2 hPs3 hPs4 hPi1 hPi2 hPi3 hPi4) mv_X1_sumOf wd_49_15 ⟨Nat.le_of_ble_eq_true rfl, Nat.le_of_ble_eq_true rfl⟩ ⟨Nat.le_of_ble_eq_true rfl, Nat.le_of_ble_eq_true rfl⟩ hH hS (tRecv hK hH (tyb hq_35 (all1 rfl)) clX1) rfl hl.1 (Nat.le_of_ble_eq_true rfl) dX6_runs_91 (fun z_37 H locs hq hS => ?_)
          obtain ⟨f_38, hH⟩ := hq
          have hH : TH E (tbC (dayD (.inl (0, 18))) (dayD (.inl (0, 18))) (riverD (.inl Fa1) (.inl Fb1) (.inl (0, 4)) 31 33 35 39 43 47) (riverD (.inl Fa2) (.inl Fb2) (.inl (0, 4)) 32 34 36 40 44 48) (rcD (.inl (t, t)) (.inr kr) (.inr ks) (.inl kb)) rd tp A14F A14F A4F A4F A14F A14F (riverD (.inl Fa3) (.inl Fb3) (.inl (0, 4)) 3 8 3 41 45 49) (riverD (.inl Fa4) (.inl Fb4) (.inl (0, 4)) 3 8 3 42 46 50) ((.inr (.inl (0, 12, Pd1)))) ((.inr (.inl (0, 12, Pd2)))) ((.inr (.inl (0, 12, Pd3)))) ((.inr (.inl (0, 12, Pd4)))) ((.inr (.inl (0, 12, Ps1)))) ((.inr (.inl (0, 12, Ps2)))) ((.inr (.inl (0, 12, Ps3)))) ((.inr (.inl (0, 12, Ps4)))) ((.inr (.inl (0, 48, Pi1)))) ((.inr (.inl (0, 48, Pi2)))) ((.inr (.inl (0, 48, Pi3)))) ((.inr (.inl (0, 48, Pi4))))) H := hH
          exact txI F hS dX6_runs_94 rfl (⟨f_38, hH⟩)
      · skip
        have r_16 : 4 ≤ a2.toInt ∧ a2.toInt ≤ 2147483647 := by have h9_ := r_11; omega
        refine lv_iconst (v := (-1)) F.1 F.2.1 dX6_runs_16 (by decide) ?_
        refine topK (a := (-1)) (by decide) (fun k_39 hk_39 => ?_)
        exact txI F hS dX6_runs_17 rfl (⟨(wkb (eqb hk_39) rfl rfl), hH⟩)
set_option maxHeartbeats 4000000 in
set_option maxRecDepth 100000 in
theorem c_X6_coming (E : Ev) (rd : TD) (tp : TD) (kb : Int × Int) (Fa1 : Int × Int) (Fb1 : Int × Int) (Fa2 : Int × Int) (Fb2 : Int × Int) (Fa3 : Int × Int) (Fb3 : Int × Int) (Fa4 : Int × Int) (Fb4 : Int × Int) (kr : List Nat) (ks : List Nat) (Pd1 : (Nat → Int32) → Prop) (Pd2 : (Nat → Int32) → Prop) (Pd3 : (Nat → Int32) → Prop) (Pd4 : (Nat → Int32) → Prop) (Ps1 : (Nat → Int32) → Prop) (Ps2 : (Nat → Int32) → Prop) (Ps3 : (Nat → Int32) → Prop) (Ps4 : (Nat → Int32) → Prop) (Pi1 : (Nat → Int32) → Prop) (Pi2 : (Nat → Int32) → Prop) (Pi3 : (Nat → Int32) → Prop) (Pi4 : (Nat → Int32) → Prop) (t : Int) (a0 : Nat) (a1 : Int32) (a2 : Int32) (ha0 : eT E a0 ∈ [28]) (ht : 0 ≤ t ∧ t ≤ 400) (hFa1 : 0 ≤ Fa1.1 ∧ Fa1.2 ≤ 12) (hFb1 : 0 ≤ Fb1.1 ∧ Fb1.2 ≤ 14) (hFa2 : 0 ≤ Fa2.1 ∧ Fa2.2 ≤ 12) (hFb2 : 0 ≤ Fb2.1 ∧ Fb2.2 ≤ 14) (hFa3 : 0 ≤ Fa3.1 ∧ Fa3.2 ≤ 12) (hFb3 : 0 ≤ Fb3.1 ∧ Fb3.2 ≤ 14) (hFa4 : 0 ≤ Fa4.1 ∧ Fa4.2 ≤ 12) (hFb4 : 0 ≤ Fb4.1 ∧ Fb4.2 ≤ 14) (hkr : ∀ t ∈ kr, t ∈ [26, 27]) (hks : ∀ t ∈ ks, t ∈ [26, 27]) (hPd1 : ∀ f, Pd1 f → ivP 12 (-2) 11 f) (hPd2 : ∀ f, Pd2 f → ivP 12 (-2) 11 f) (hPd3 : ∀ f, Pd3 f → ivP 12 (-2) 11 f) (hPd4 : ∀ f, Pd4 f → ivP 12 (-2) 11 f) (hPs1 : ∀ f, Ps1 f → ivP 12 (-2147483648) 2147483647 f) (hPs2 : ∀ f, Ps2 f → ivP 12 (-2147483648) 2147483647 f) (hPs3 : ∀ f, Ps3 f → ivP 12 (-2147483648) 2147483647 f) (hPs4 : ∀ f, Ps4 f → ivP 12 (-2147483648) 2147483647 f) (hPi1 : ∀ f, Pi1 f → ivP 48 (-2147483648) 2147483647 f) (hPi2 : ∀ f, Pi2 f → ivP 48 (-2147483648) 2147483647 f) (hPi3 : ∀ f, Pi3 f → ivP 48 (-2147483648) 2147483647 f) (hPi4 : ∀ f, Pi4 f → ivP 48 (-2147483648) 2147483647 f) : TcI E yX6_coming cX6_coming 3 .int ({ frames := 2, cells := 0, slots := 0, locals := 61 }) [.ref a0, .int a1, .int a2] (fun H => TH E (tbC (dayD (.inl (0, 18))) (dayD (.inl (0, 18))) (riverD (.inl Fa1) (.inl Fb1) (.inl (0, 4)) 31 33 35 39 43 47) (riverD (.inl Fa2) (.inl Fb2) (.inl (0, 4)) 32 34 36 40 44 48) (rcD (.inl (t, t)) (.inr kr) (.inr ks) (.inl kb)) rd tp A14F A14F A4F A4F A14F A14F (riverD (.inl Fa3) (.inl Fb3) (.inl (0, 4)) 3 8 3 41 45 49) (riverD (.inl Fa4) (.inl Fb4) (.inl (0, 4)) 3 8 3 42 46 50) ((.inr (.inl (0, 12, Pd1)))) ((.inr (.inl (0, 12, Pd2)))) ((.inr (.inl (0, 12, Pd3)))) ((.inr (.inl (0, 12, Pd4)))) ((.inr (.inl (0, 12, Ps1)))) ((.inr (.inl (0, 12, Ps2)))) ((.inr (.inl (0, 12, Ps3)))) ((.inr (.inl (0, 12, Ps4)))) ((.inr (.inl (0, 48, Pi1)))) ((.inr (.inl (0, 48, Pi2)))) ((.inr (.inl (0, 48, Pi3)))) ((.inr (.inl (0, 48, Pi4))))) H) (fun v H => ((-2147483648) ≤ v.toInt ∧ v.toInt ≤ 2147483647) ∧ TH E (tbC (dayD (.inl (0, 18))) (dayD (.inl (0, 18))) (riverD (.inl Fa1) (.inl Fb1) (.inl (0, 4)) 31 33 35 39 43 47) (riverD (.inl Fa2) (.inl Fb2) (.inl (0, 4)) 32 34 36 40 44 48) (rcD (.inl (t, t)) (.inr kr) (.inr ks) (.inl kb)) rd tp A14F A14F A4F A4F A14F A14F (riverD (.inl Fa3) (.inl Fb3) (.inl (0, 4)) 3 8 3 41 45 49) (riverD (.inl Fa4) (.inl Fb4) (.inl (0, 4)) 3 8 3 42 46 50) ((.inr (.inl (0, 12, Pd1)))) ((.inr (.inl (0, 12, Pd2)))) ((.inr (.inl (0, 12, Pd3)))) ((.inr (.inl (0, 12, Pd4)))) ((.inr (.inl (0, 12, Ps1)))) ((.inr (.inl (0, 12, Ps2)))) ((.inr (.inl (0, 12, Ps3)))) ((.inr (.inl (0, 12, Ps4)))) ((.inr (.inl (0, 48, Pi1)))) ((.inr (.inl (0, 48, Pi2)))) ((.inr (.inl (0, 48, Pi3)))) ((.inr (.inl (0, 48, Pi4))))) H) := by
  refine teI (by decide) (Nat.le_of_ble_eq_true rfl) ?_
  intro p_ ev_ s mi_ below_ meth cd_ ls F hK hN hO hH hS hl
  have hH : TH E (tbC (dayD (.inl (0, 18))) (dayD (.inl (0, 18))) (riverD (.inl Fa1) (.inl Fb1) (.inl (0, 4)) 31 33 35 39 43 47) (riverD (.inl Fa2) (.inl Fb2) (.inl (0, 4)) 32 34 36 40 44 48) (rcD (.inl (t, t)) (.inr kr) (.inr ks) (.inl kb)) rd tp A14F A14F A4F A4F A14F A14F (riverD (.inl Fa3) (.inl Fb3) (.inl (0, 4)) 3 8 3 41 45 49) (riverD (.inl Fa4) (.inl Fb4) (.inl (0, 4)) 3 8 3 42 46 50) ((.inr (.inl (0, 12, Pd1)))) ((.inr (.inl (0, 12, Pd2)))) ((.inr (.inl (0, 12, Pd3)))) ((.inr (.inl (0, 12, Pd4)))) ((.inr (.inl (0, 12, Ps1)))) ((.inr (.inl (0, 12, Ps2)))) ((.inr (.inl (0, 12, Ps3)))) ((.inr (.inl (0, 12, Ps4)))) ((.inr (.inl (0, 48, Pi1)))) ((.inr (.inl (0, 48, Pi2)))) ((.inr (.inl (0, 48, Pi3)))) ((.inr (.inl (0, 48, Pi4))))) s.heap := hH
  have hl : lv_has ls 3 [(0, .ref a0), (1, .int a1), (2, .int a2)] := hl
  refine lv_aload_n F.1 F.2.1 dX6_coming_0 rfl (lv_at hl 0 rfl) ?_
  refine lv_iload_n F.1 F.2.1 dX6_coming_1 rfl (lv_at hl 1 rfl) ?_
  refine tVi (b := a0) (As := [.int a1]) (rest := []) F hK hN hO (c_X6_isReach E rd tp kb Fa1 Fb1 Fa2 Fb2 Fa3 Fb3 Fa4 Fb4 kr ks Pd1 Pd2 Pd3 Pd4 Ps1 Ps2 Ps3 Ps4 Pi1 Pi2 Pi3 Pi4 t a0 a1 ha0 (by omega) hFa1 hFb1 hFa2 hFb2 hFa3 hFb3 hFa4 hFb4 hkr hks hPd1 hPd2 hPd3 hPd4 hPs1 hPs2 hPs3 hPs4 hPi1 hPi2 hPi3 hPi4) mv_X6_isReach wd_34_6 ⟨Nat.le_of_ble_eq_true rfl, Nat.le_of_ble_eq_true rfl⟩ ⟨Nat.le_of_ble_eq_true rfl, Nat.le_of_ble_eq_true rfl⟩ hH hS (tRecv hK hH (tyb ha0 (all1 rfl)) clX6) rfl hl.1 (Nat.le_of_ble_eq_true rfl) dX6_coming_2 (fun z_1 H locs hq hS => ?_)
  obtain ⟨f_2, f_3, hH⟩ := hq
  have hH : TH E (tbC (dayD (.inl (0, 18))) (dayD (.inl (0, 18))) (riverD (.inl Fa1) (.inl Fb1) (.inl (0, 4)) 31 33 35 39 43 47) (riverD (.inl Fa2) (.inl Fb2) (.inl (0, 4)) 32 34 36 40 44 48) (rcD (.inl (t, t)) (.inr kr) (.inr ks) (.inl kb)) rd tp A14F A14F A4F A4F A14F A14F (riverD (.inl Fa3) (.inl Fb3) (.inl (0, 4)) 3 8 3 41 45 49) (riverD (.inl Fa4) (.inl Fb4) (.inl (0, 4)) 3 8 3 42 46 50) ((.inr (.inl (0, 12, Pd1)))) ((.inr (.inl (0, 12, Pd2)))) ((.inr (.inl (0, 12, Pd3)))) ((.inr (.inl (0, 12, Pd4)))) ((.inr (.inl (0, 12, Ps1)))) ((.inr (.inl (0, 12, Ps2)))) ((.inr (.inl (0, 12, Ps3)))) ((.inr (.inl (0, 12, Ps4)))) ((.inr (.inl (0, 48, Pi1)))) ((.inr (.inl (0, 48, Pi2)))) ((.inr (.inl (0, 48, Pi3)))) ((.inr (.inl (0, 48, Pi4))))) H := hH
  refine z_eq (tgt := 18) F dX6_coming_5 (by decide) (fun c_4 => ?_) (fun c_4 => ?_)
  · skip
    have r_5 : 0 ≤ z_1.toInt ∧ z_1.toInt ≤ 0 := by have h9_ := f_2; omega
    refine lv_iconst (v := (-1)) F.1 F.2.1 dX6_coming_18 (by decide) ?_
    refine topK (a := (-1)) (by decide) (fun k_8 hk_8 => ?_)
    exact txI F hS dX6_coming_19 rfl (⟨(wkb (eqb hk_8) rfl rfl), hH⟩)
  · skip
    have r_6 : 1 ≤ z_1.toInt ∧ z_1.toInt ≤ 1 := by have h9_ := f_2; omega
    have r_7 : 0 ≤ a1.toInt ∧ a1.toInt ≤ 11 := by have h9_ := (i32b a1); omega
    refine lv_iload_n F.1 F.2.1 dX6_coming_8 rfl (lv_at hl 2 rfl) ?_
    refine z_lt (tgt := 18) F dX6_coming_9 (by decide) (fun c_9 => ?_) (fun c_9 => ?_)
    · skip
      have r_10 : (-2147483648) ≤ a2.toInt ∧ a2.toInt ≤ (-1) := by have h9_ := (i32b a2); omega
      refine lv_iconst (v := (-1)) F.1 F.2.1 dX6_coming_18 (by decide) ?_
      refine topK (a := (-1)) (by decide) (fun k_12 hk_12 => ?_)
      exact txI F hS dX6_coming_19 rfl (⟨(wkb (eqb hk_12) rfl rfl), hH⟩)
    · skip
      have r_11 : 0 ≤ a2.toInt ∧ a2.toInt ≤ 2147483647 := by have h9_ := (i32b a2); omega
      refine lv_iload_n F.1 F.2.1 dX6_coming_12 rfl (lv_at hl 2 rfl) ?_
      refine lv_bipush (v := 30) F.1 F.2.1 dX6_coming_13 (by decide) ?_
      refine topK (a := 30) (by decide) (fun k_13 hk_13 => ?_)
      refine b_lt (tgt := 20) F dX6_coming_15 (by decide) (fun c_14 => ?_) (fun c_14 => ?_)
      · skip
        have r_15 : 0 ≤ a2.toInt ∧ a2.toInt ≤ 29 := by have h9_ := r_11; omega
        refine lv_aload_n F.1 F.2.1 dX6_coming_20 rfl (lv_at hl 0 rfl) ?_
        refine tGetR (j := 4) F hK hH (tyb ha0 (all1 rfl)) rfl (all1 rfl) clX6 (by decide) wd_1_22 dX6_coming_21 (fun q_17 hq_17 _ => ?_)
        refine tGetR (j := 11) F hK hH (tyb hq_17 (all1 rfl)) rfl (all1 rfl) clX5 (by decide) wd_51_9 dX6_coming_24 (fun q_18 hq_18 _ => ?_)
        refine lv_aload_n F.1 F.2.1 dX6_coming_27 rfl (lv_at hl 0 rfl) ?_
        refine tGetR (j := 4) F hK hH (tyb ha0 (all1 rfl)) rfl (all1 rfl) clX6 (by decide) wd_1_22 dX6_coming_28 (fun q_19 hq_19 _ => ?_)
        refine lv_iload_n F.1 F.2.1 dX6_coming_31 rfl (lv_at hl 2 rfl) ?_
        refine tVi (b := q_19) (As := [.int a2]) (rest := [.ref q_18]) F hK hN hO (c_X5_wayRow E (dayD (.inl (0, 18))) (dayD (.inl (0, 18))) (riverD (.inl Fa1) (.inl Fb1) (.inl (0, 4)) 31 33 35 39 43 47) (riverD (.inl Fa2) (.inl Fb2) (.inl (0, 4)) 32 34 36 40 44 48) (rcD (.inl (t, t)) (.inr kr) (.inr ks) (.inl kb)) rd tp A14F A14F A4F A4F A14F A14F (riverD (.inl Fa3) (.inl Fb3) (.inl (0, 4)) 3 8 3 41 45 49) (riverD (.inl Fa4) (.inl Fb4) (.inl (0, 4)) 3 8 3 42 46 50) ((.inr (.inl (0, 12, Pd1)))) ((.inr (.inl (0, 12, Pd2)))) ((.inr (.inl (0, 12, Pd3)))) ((.inr (.inl (0, 12, Pd4)))) ((.inr (.inl (0, 12, Ps1)))) ((.inr (.inl (0, 12, Ps2)))) ((.inr (.inl (0, 12, Ps3)))) ((.inr (.inl (0, 12, Ps4)))) ((.inr (.inl (0, 48, Pi1)))) ((.inr (.inl (0, 48, Pi2)))) ((.inr (.inl (0, 48, Pi3)))) ((.inr (.inl (0, 48, Pi4)))) q_19 a2 hq_19 (wkb r_15 rfl rfl)) mv_X5_wayRow wd_51_10 ⟨Nat.le_of_ble_eq_true rfl, Nat.le_of_ble_eq_true rfl⟩ ⟨Nat.le_of_ble_eq_true rfl, Nat.le_of_ble_eq_true rfl⟩ hH hS (tRecv hK hH (tyb hq_19 (all1 rfl)) clX5) rfl hl.1 (Nat.le_of_ble_eq_true rfl) dX6_coming_32 (fun z_20 H locs hq hS => ?_)
        obtain ⟨f_21, hH⟩ := hq
        have hH : TH E (tbC (dayD (.inl (0, 18))) (dayD (.inl (0, 18))) (riverD (.inl Fa1) (.inl Fb1) (.inl (0, 4)) 31 33 35 39 43 47) (riverD (.inl Fa2) (.inl Fb2) (.inl (0, 4)) 32 34 36 40 44 48) (rcD (.inl (t, t)) (.inr kr) (.inr ks) (.inl kb)) rd tp A14F A14F A4F A4F A14F A14F (riverD (.inl Fa3) (.inl Fb3) (.inl (0, 4)) 3 8 3 41 45 49) (riverD (.inl Fa4) (.inl Fb4) (.inl (0, 4)) 3 8 3 42 46 50) ((.inr (.inl (0, 12, Pd1)))) ((.inr (.inl (0, 12, Pd2)))) ((.inr (.inl (0, 12, Pd3)))) ((.inr (.inl (0, 12, Pd4)))) ((.inr (.inl (0, 12, Ps1)))) ((.inr (.inl (0, 12, Ps2)))) ((.inr (.inl (0, 12, Ps3)))) ((.inr (.inl (0, 12, Ps4)))) ((.inr (.inl (0, 48, Pi1)))) ((.inr (.inl (0, 48, Pi2)))) ((.inr (.inl (0, 48, Pi3)))) ((.inr (.inl (0, 48, Pi4))))) H := hH
        refine lv_iload_n F.1 F.2.1 dX6_coming_35 rfl (lv_at hl 1 rfl) ?_
        refine tAdd (lo := 0) (hi := 359) F dX6_coming_36 f_21 r_7 rfl (fun z_22 hz_22 => ?_)
        refine tIaldB F hK hH (tyb hq_18 (all1 rfl)) (ixb (n := 360) hz_22.2 rfl rfl) dX6_coming_37 (fun z_23 hz_23 => ?_)
        exact txI F hS dX6_coming_38 rfl (⟨hz_23, hH⟩)
      · skip
        have r_16 : 30 ≤ a2.toInt ∧ a2.toInt ≤ 2147483647 := by have h9_ := r_11; omega
        refine lv_iconst (v := (-1)) F.1 F.2.1 dX6_coming_18 (by decide) ?_
        refine topK (a := (-1)) (by decide) (fun k_24 hk_24 => ?_)
        exact txI F hS dX6_coming_19 rfl (⟨(wkb (eqb hk_24) rfl rfl), hH⟩)
set_option maxHeartbeats 4000000 in
set_option maxRecDepth 100000 in
theorem c_X6_above (E : Ev) (rd : TD) (tp : TD) (kb : Int × Int) (Fa1 : Int × Int) (Fb1 : Int × Int) (Fa2 : Int × Int) (Fb2 : Int × Int) (Fa3 : Int × Int) (Fb3 : Int × Int) (Fa4 : Int × Int) (Fb4 : Int × Int) (kr : List Nat) (ks : List Nat) (Pd1 : (Nat → Int32) → Prop) (Pd2 : (Nat → Int32) → Prop) (Pd3 : (Nat → Int32) → Prop) (Pd4 : (Nat → Int32) → Prop) (Ps1 : (Nat → Int32) → Prop) (Ps2 : (Nat → Int32) → Prop) (Ps3 : (Nat → Int32) → Prop) (Ps4 : (Nat → Int32) → Prop) (Pi1 : (Nat → Int32) → Prop) (Pi2 : (Nat → Int32) → Prop) (Pi3 : (Nat → Int32) → Prop) (Pi4 : (Nat → Int32) → Prop) (t : Int) (a0 : Nat) (a1 : Int32) (ha0 : eT E a0 ∈ [28]) (ht : 0 ≤ t ∧ t ≤ 400) (hFa1 : 0 ≤ Fa1.1 ∧ Fa1.2 ≤ 12) (hFb1 : 0 ≤ Fb1.1 ∧ Fb1.2 ≤ 14) (hFa2 : 0 ≤ Fa2.1 ∧ Fa2.2 ≤ 12) (hFb2 : 0 ≤ Fb2.1 ∧ Fb2.2 ≤ 14) (hFa3 : 0 ≤ Fa3.1 ∧ Fa3.2 ≤ 12) (hFb3 : 0 ≤ Fb3.1 ∧ Fb3.2 ≤ 14) (hFa4 : 0 ≤ Fa4.1 ∧ Fa4.2 ≤ 12) (hFb4 : 0 ≤ Fb4.1 ∧ Fb4.2 ≤ 14) (hkr : ∀ t ∈ kr, t ∈ [26, 27]) (hks : ∀ t ∈ ks, t ∈ [26, 27]) (hPd1 : ∀ f, Pd1 f → ivP 12 (-2) 11 f) (hPd2 : ∀ f, Pd2 f → ivP 12 (-2) 11 f) (hPd3 : ∀ f, Pd3 f → ivP 12 (-2) 11 f) (hPd4 : ∀ f, Pd4 f → ivP 12 (-2) 11 f) (hPs1 : ∀ f, Ps1 f → ivP 12 (-2147483648) 2147483647 f) (hPs2 : ∀ f, Ps2 f → ivP 12 (-2147483648) 2147483647 f) (hPs3 : ∀ f, Ps3 f → ivP 12 (-2147483648) 2147483647 f) (hPs4 : ∀ f, Ps4 f → ivP 12 (-2147483648) 2147483647 f) (hPi1 : ∀ f, Pi1 f → ivP 48 (-2147483648) 2147483647 f) (hPi2 : ∀ f, Pi2 f → ivP 48 (-2147483648) 2147483647 f) (hPi3 : ∀ f, Pi3 f → ivP 48 (-2147483648) 2147483647 f) (hPi4 : ∀ f, Pi4 f → ivP 48 (-2147483648) 2147483647 f) : TcI E yX6_above cX6_above 4 .int ({ frames := 2, cells := 0, slots := 0, locals := 64 }) [.ref a0, .int a1] (fun H => TH E (tbC (dayD (.inl (0, 18))) (dayD (.inl (0, 18))) (riverD (.inl Fa1) (.inl Fb1) (.inl (0, 4)) 31 33 35 39 43 47) (riverD (.inl Fa2) (.inl Fb2) (.inl (0, 4)) 32 34 36 40 44 48) (rcD (.inl (t, t)) (.inr kr) (.inr ks) (.inl kb)) rd tp A14F A14F A4F A4F A14F A14F (riverD (.inl Fa3) (.inl Fb3) (.inl (0, 4)) 3 8 3 41 45 49) (riverD (.inl Fa4) (.inl Fb4) (.inl (0, 4)) 3 8 3 42 46 50) ((.inr (.inl (0, 12, Pd1)))) ((.inr (.inl (0, 12, Pd2)))) ((.inr (.inl (0, 12, Pd3)))) ((.inr (.inl (0, 12, Pd4)))) ((.inr (.inl (0, 12, Ps1)))) ((.inr (.inl (0, 12, Ps2)))) ((.inr (.inl (0, 12, Ps3)))) ((.inr (.inl (0, 12, Ps4)))) ((.inr (.inl (0, 48, Pi1)))) ((.inr (.inl (0, 48, Pi2)))) ((.inr (.inl (0, 48, Pi3)))) ((.inr (.inl (0, 48, Pi4))))) H) (fun v H => ((-2147483648) ≤ v.toInt ∧ v.toInt ≤ 2147483647) ∧ TH E (tbC (dayD (.inl (0, 18))) (dayD (.inl (0, 18))) (riverD (.inl Fa1) (.inl Fb1) (.inl (0, 4)) 31 33 35 39 43 47) (riverD (.inl Fa2) (.inl Fb2) (.inl (0, 4)) 32 34 36 40 44 48) (rcD (.inl (t, t)) (.inr kr) (.inr ks) (.inl kb)) rd tp A14F A14F A4F A4F A14F A14F (riverD (.inl Fa3) (.inl Fb3) (.inl (0, 4)) 3 8 3 41 45 49) (riverD (.inl Fa4) (.inl Fb4) (.inl (0, 4)) 3 8 3 42 46 50) ((.inr (.inl (0, 12, Pd1)))) ((.inr (.inl (0, 12, Pd2)))) ((.inr (.inl (0, 12, Pd3)))) ((.inr (.inl (0, 12, Pd4)))) ((.inr (.inl (0, 12, Ps1)))) ((.inr (.inl (0, 12, Ps2)))) ((.inr (.inl (0, 12, Ps3)))) ((.inr (.inl (0, 12, Ps4)))) ((.inr (.inl (0, 48, Pi1)))) ((.inr (.inl (0, 48, Pi2)))) ((.inr (.inl (0, 48, Pi3)))) ((.inr (.inl (0, 48, Pi4))))) H) := by
  refine teI (by decide) (Nat.le_of_ble_eq_true rfl) ?_
  intro p_ ev_ s mi_ below_ meth cd_ ls F hK hN hO hH hS hl
  have hH : TH E (tbC (dayD (.inl (0, 18))) (dayD (.inl (0, 18))) (riverD (.inl Fa1) (.inl Fb1) (.inl (0, 4)) 31 33 35 39 43 47) (riverD (.inl Fa2) (.inl Fb2) (.inl (0, 4)) 32 34 36 40 44 48) (rcD (.inl (t, t)) (.inr kr) (.inr ks) (.inl kb)) rd tp A14F A14F A4F A4F A14F A14F (riverD (.inl Fa3) (.inl Fb3) (.inl (0, 4)) 3 8 3 41 45 49) (riverD (.inl Fa4) (.inl Fb4) (.inl (0, 4)) 3 8 3 42 46 50) ((.inr (.inl (0, 12, Pd1)))) ((.inr (.inl (0, 12, Pd2)))) ((.inr (.inl (0, 12, Pd3)))) ((.inr (.inl (0, 12, Pd4)))) ((.inr (.inl (0, 12, Ps1)))) ((.inr (.inl (0, 12, Ps2)))) ((.inr (.inl (0, 12, Ps3)))) ((.inr (.inl (0, 12, Ps4)))) ((.inr (.inl (0, 48, Pi1)))) ((.inr (.inl (0, 48, Pi2)))) ((.inr (.inl (0, 48, Pi3)))) ((.inr (.inl (0, 48, Pi4))))) s.heap := hH
  have hl : lv_has ls 4 [(0, .ref a0), (1, .int a1)] := hl
  refine lv_aload_n F.1 F.2.1 dX6_above_0 rfl (lv_at hl 0 rfl) ?_
  refine lv_iload_n F.1 F.2.1 dX6_above_1 rfl (lv_at hl 1 rfl) ?_
  refine tVi (b := a0) (As := [.int a1]) (rest := []) F hK hN hO (c_X6_isReach E rd tp kb Fa1 Fb1 Fa2 Fb2 Fa3 Fb3 Fa4 Fb4 kr ks Pd1 Pd2 Pd3 Pd4 Ps1 Ps2 Ps3 Ps4 Pi1 Pi2 Pi3 Pi4 t a0 a1 ha0 (by omega) hFa1 hFb1 hFa2 hFb2 hFa3 hFb3 hFa4 hFb4 hkr hks hPd1 hPd2 hPd3 hPd4 hPs1 hPs2 hPs3 hPs4 hPi1 hPi2 hPi3 hPi4) mv_X6_isReach wd_34_6 ⟨Nat.le_of_ble_eq_true rfl, Nat.le_of_ble_eq_true rfl⟩ ⟨Nat.le_of_ble_eq_true rfl, Nat.le_of_ble_eq_true rfl⟩ hH hS (tRecv hK hH (tyb ha0 (all1 rfl)) clX6) rfl hl.1 (Nat.le_of_ble_eq_true rfl) dX6_above_2 (fun z_1 H locs hq hS => ?_)
  obtain ⟨f_2, f_3, hH⟩ := hq
  have hH : TH E (tbC (dayD (.inl (0, 18))) (dayD (.inl (0, 18))) (riverD (.inl Fa1) (.inl Fb1) (.inl (0, 4)) 31 33 35 39 43 47) (riverD (.inl Fa2) (.inl Fb2) (.inl (0, 4)) 32 34 36 40 44 48) (rcD (.inl (t, t)) (.inr kr) (.inr ks) (.inl kb)) rd tp A14F A14F A4F A4F A14F A14F (riverD (.inl Fa3) (.inl Fb3) (.inl (0, 4)) 3 8 3 41 45 49) (riverD (.inl Fa4) (.inl Fb4) (.inl (0, 4)) 3 8 3 42 46 50) ((.inr (.inl (0, 12, Pd1)))) ((.inr (.inl (0, 12, Pd2)))) ((.inr (.inl (0, 12, Pd3)))) ((.inr (.inl (0, 12, Pd4)))) ((.inr (.inl (0, 12, Ps1)))) ((.inr (.inl (0, 12, Ps2)))) ((.inr (.inl (0, 12, Ps3)))) ((.inr (.inl (0, 12, Ps4)))) ((.inr (.inl (0, 48, Pi1)))) ((.inr (.inl (0, 48, Pi2)))) ((.inr (.inl (0, 48, Pi3)))) ((.inr (.inl (0, 48, Pi4))))) H := hH
  refine z_ne (tgt := 10) F dX6_above_5 (by decide) (fun c_4 => ?_) (fun c_4 => ?_)
  · skip
    have r_5 : 1 ≤ z_1.toInt ∧ z_1.toInt ≤ 1 := by have h9_ := f_2; omega
    have r_6 : 0 ≤ a1.toInt ∧ a1.toInt ≤ 11 := by have h9_ := (i32b a1); omega
    refine lv_iconst (v := 0) F.1 F.2.1 dX6_above_10 (by decide) ?_
    refine topK (a := 0) (by decide) (fun k_8 hk_8 => ?_)
    refine lv_istore_n (lv' := [(2, .int k_8), (0, .ref a0), (1, .int a1)]) F.1 F.2.1 dX6_above_11 rfl hl (by decide) rfl (fun ls hl => ?_)
    refine lv_iconst (v := 0) F.1 F.2.1 dX6_above_12 (by decide) ?_
    refine topK (a := 0) (by decide) (fun k_9 hk_9 => ?_)
    refine lv_istore_n (lv' := [(3, .int k_9), (2, .int k_8), (0, .ref a0), (1, .int a1)]) F.1 F.2.1 dX6_above_13 rfl hl (by decide) rfl (fun ls hl => ?_)
    refine wloop (σ := Int32 × Int32) (fun n9 x9 H locs ls => (12 - x9.2.toInt + 1).toNat < n9 ∧ (0 ≤ x9.2.toInt ∧ x9.2.toInt ≤ 12) ∧ TH E (tbC (dayD (.inl (0, 18))) (dayD (.inl (0, 18))) (riverD (.inl Fa1) (.inl Fb1) (.inl (0, 4)) 31 33 35 39 43 47) (riverD (.inl Fa2) (.inl Fb2) (.inl (0, 4)) 32 34 36 40 44 48) (rcD (.inl (t, t)) (.inr kr) (.inr ks) (.inl kb)) rd tp A14F A14F A4F A4F A14F A14F (riverD (.inl Fa3) (.inl Fb3) (.inl (0, 4)) 3 8 3 41 45 49) (riverD (.inl Fa4) (.inl Fb4) (.inl (0, 4)) 3 8 3 42 46 50) ((.inr (.inl (0, 12, Pd1)))) ((.inr (.inl (0, 12, Pd2)))) ((.inr (.inl (0, 12, Pd3)))) ((.inr (.inl (0, 12, Pd4)))) ((.inr (.inl (0, 12, Ps1)))) ((.inr (.inl (0, 12, Ps2)))) ((.inr (.inl (0, 12, Ps3)))) ((.inr (.inl (0, 12, Ps4)))) ((.inr (.inl (0, 48, Pi1)))) ((.inr (.inl (0, 48, Pi2)))) ((.inr (.inl (0, 48, Pi3)))) ((.inr (.inl (0, 48, Pi4))))) H ∧ va_S (eA E s.heap.size) s.heap H locs ∧ lv_has ls 4 [(0, .ref a0), (1, .int a1), (2, .int x9.1), (3, .int x9.2)]) ?_ (fun x9 H locs ls h => absurd h.1 (Nat.not_lt_zero _)) _ (k_8, k_9) ⟨Nat.lt_succ_self _, (wkb (eqb hk_9) rfl rfl), hH, hS, lv_sub hl [2, 3, 1, 0] rfl⟩
    intro n_14 ih_14 ⟨u_10, u_11⟩ H locs ls ⟨hm_14, hu_11, hH, hS, hl⟩
    have hm_14 : (12 - u_11.toInt + 1).toNat < n_14 + 1 := hm_14
    have hu_11 : (0 ≤ u_11.toInt ∧ u_11.toInt ≤ 12) := hu_11
    have hH : TH E (tbC (dayD (.inl (0, 18))) (dayD (.inl (0, 18))) (riverD (.inl Fa1) (.inl Fb1) (.inl (0, 4)) 31 33 35 39 43 47) (riverD (.inl Fa2) (.inl Fb2) (.inl (0, 4)) 32 34 36 40 44 48) (rcD (.inl (t, t)) (.inr kr) (.inr ks) (.inl kb)) rd tp A14F A14F A4F A4F A14F A14F (riverD (.inl Fa3) (.inl Fb3) (.inl (0, 4)) 3 8 3 41 45 49) (riverD (.inl Fa4) (.inl Fb4) (.inl (0, 4)) 3 8 3 42 46 50) ((.inr (.inl (0, 12, Pd1)))) ((.inr (.inl (0, 12, Pd2)))) ((.inr (.inl (0, 12, Pd3)))) ((.inr (.inl (0, 12, Pd4)))) ((.inr (.inl (0, 12, Ps1)))) ((.inr (.inl (0, 12, Ps2)))) ((.inr (.inl (0, 12, Ps3)))) ((.inr (.inl (0, 12, Ps4)))) ((.inr (.inl (0, 48, Pi1)))) ((.inr (.inl (0, 48, Pi2)))) ((.inr (.inl (0, 48, Pi3)))) ((.inr (.inl (0, 48, Pi4))))) H := hH
    have hl : lv_has ls 4 [(0, .ref a0), (1, .int a1), (2, .int u_10), (3, .int u_11)] := hl
    refine lv_iload_n F.1 F.2.1 dX6_above_14 rfl (lv_at hl 3 rfl) ?_
    refine lv_aload_n F.1 F.2.1 dX6_above_15 rfl (lv_at hl 0 rfl) ?_
    refine tGetR0 (j := 2) F hK hH (tyb ha0 (all1 rfl)) rfl clX6 (by decide) wd_1_17 dX6_above_16 (fun q_12 hq_12 => ?_)
    refine tGetIB (j := 0) (lo := 0) (hi := 12) F hK hH (hkr _ hq_12) (alls ⟨_, _, rfl, rfl, by have h9_ := hFa1; omega⟩ (alls1 ⟨_, _, rfl, rfl, by have h9_ := hFa2; omega⟩)) clX2 (by decide) wd_34_10 dX6_above_19 (fun z_13 hz_13 => ?_)
    refine b_ge (tgt := 49) F dX6_above_22 (by decide) (fun c_14 => ?_) (fun c_14 => ?_)
    · skip
      refine lv_iload_n F.1 F.2.1 dX6_above_49 rfl (lv_at hl 2 rfl) ?_
      exact txI F hS dX6_above_50 rfl (⟨(i32b _), hH⟩)
    · skip
      have r_15 : 0 ≤ u_11.toInt ∧ u_11.toInt ≤ 11 := by have h9_ := hu_11; omega
      have r_16 : 1 ≤ z_13.toInt ∧ z_13.toInt ≤ 12 := by have h9_ := hz_13; omega
      refine lv_aload_n F.1 F.2.1 dX6_above_25 rfl (lv_at hl 0 rfl) ?_
      refine tGetR0 (j := 2) F hK hH (tyb ha0 (all1 rfl)) rfl clX6 (by decide) wd_1_17 dX6_above_26 (fun q_17 hq_17 => ?_)
      refine lv_iload_n F.1 F.2.1 dX6_above_29 rfl (lv_at hl 3 rfl) ?_
      refine lv_iload_n F.1 F.2.1 dX6_above_30 rfl (lv_at hl 1 rfl) ?_
      refine tVi (b := q_17) (As := [.int u_11, .int a1]) (rest := []) F hK hN hO (c_X2_runsTo E (dayD (.inl (0, 18))) (dayD (.inl (0, 18))) (rcD (.inl (t, t)) (.inr kr) (.inr ks) (.inl kb)) rd tp Fa1 Fb1 Fa2 Fb2 Fa3 Fb3 Fa4 Fb4 Pd1 Pd2 Pd3 Pd4 Ps1 Ps2 Ps3 Ps4 Pi1 Pi2 Pi3 Pi4 q_17 u_11 a1 (by have h9_ := (hkr _ hq_17); simp at h9_ ⊢; omega) (wkb r_15 rfl rfl) hFa1 hFb1 hFa2 hFb2 hFa3 hFb3 hFa4 hFb4 hPd1 hPd2 hPd3 hPd4 hPs1 hPs2 hPs3 hPs4 hPi1 hPi2 hPi3 hPi4) mv_X2_runsTo wd_32_11 ⟨Nat.le_of_ble_eq_true rfl, Nat.le_of_ble_eq_true rfl⟩ ⟨Nat.le_of_ble_eq_true rfl, Nat.le_of_ble_eq_true rfl⟩ hH hS (tRecvM hK hH (hkr _ hq_17) (alls ⟨_, rfl⟩ (alls1 ⟨_, rfl⟩)) clX2) rfl hl.1 (Nat.le_of_ble_eq_true rfl) dX6_above_31 (fun z_18 H locs hq hS => ?_)
      obtain ⟨f_19, hH⟩ := hq
      have hH : TH E (tbC (dayD (.inl (0, 18))) (dayD (.inl (0, 18))) (riverD (.inl Fa1) (.inl Fb1) (.inl (0, 4)) 31 33 35 39 43 47) (riverD (.inl Fa2) (.inl Fb2) (.inl (0, 4)) 32 34 36 40 44 48) (rcD (.inl (t, t)) (.inr kr) (.inr ks) (.inl kb)) rd tp A14F A14F A4F A4F A14F A14F (riverD (.inl Fa3) (.inl Fb3) (.inl (0, 4)) 3 8 3 41 45 49) (riverD (.inl Fa4) (.inl Fb4) (.inl (0, 4)) 3 8 3 42 46 50) ((.inr (.inl (0, 12, Pd1)))) ((.inr (.inl (0, 12, Pd2)))) ((.inr (.inl (0, 12, Pd3)))) ((.inr (.inl (0, 12, Pd4)))) ((.inr (.inl (0, 12, Ps1)))) ((.inr (.inl (0, 12, Ps2)))) ((.inr (.inl (0, 12, Ps3)))) ((.inr (.inl (0, 12, Ps4)))) ((.inr (.inl (0, 48, Pi1)))) ((.inr (.inl (0, 48, Pi2)))) ((.inr (.inl (0, 48, Pi3)))) ((.inr (.inl (0, 48, Pi4))))) H := hH
      refine z_eq (tgt := 43) F dX6_above_34 (by decide) (fun c_20 => ?_) (fun c_20 => ?_)
      · skip
        have r_21 : 0 ≤ z_18.toInt ∧ z_18.toInt ≤ 0 := by have h9_ := f_19; omega
        obtain ⟨x_23, ex_23, hx_23⟩ := iincB (c := 1) (lo := 1) (hi := 12) r_15 rfl
        refine lv_iinc (v := x_23) (lv' := [(3, .int x_23), (0, .ref a0), (1, .int a1), (2, .int u_10)]) F.1 F.2.1 dX6_above_43 hl (k := 3) rfl ex_23 (by decide) rfl (fun ls hl => ?_)
        refine lv_goto (tgt := 14) F.1 F.2.1 dX6_above_46 (by decide) ?_
        exact ih_14 (u_10, x_23) _ _ _ ⟨(show (12 - x_23.toInt + 1).toNat < n_14 from by omega), (wkb hx_23.2 rfl rfl), hH, hS, lv_sub hl [1, 2, 3, 0] rfl⟩
      · skip
        have r_22 : 1 ≤ z_18.toInt ∧ z_18.toInt ≤ 1 := by have h9_ := f_19; omega
        refine lv_iload_n F.1 F.2.1 dX6_above_37 rfl (lv_at hl 2 rfl) ?_
        refine lv_iconst (v := 1) F.1 F.2.1 dX6_above_38 (by decide) ?_
        refine topK (a := 1) (by decide) (fun k_24 hk_24 => ?_)
        refine lv_iload_n F.1 F.2.1 dX6_above_39 rfl (lv_at hl 3 rfl) ?_
        refine lv_ishl F.1 F.2.1 dX6_above_40 ?_
        refine topF (fun z_25 => ?_)
        refine lv_ior F.1 F.2.1 dX6_above_41 ?_
        refine topF (fun z_26 => ?_)
        refine lv_istore_n (lv' := [(2, .int z_26), (0, .ref a0), (1, .int a1), (3, .int u_11)]) F.1 F.2.1 dX6_above_42 rfl hl (by decide) rfl (fun ls hl => ?_)
        obtain ⟨x_27, ex_27, hx_27⟩ := iincB (c := 1) (lo := 1) (hi := 12) r_15 rfl
        refine lv_iinc (v := x_27) (lv' := [(3, .int x_27), (2, .int z_26), (0, .ref a0), (1, .int a1)]) F.1 F.2.1 dX6_above_43 hl (k := 3) rfl ex_27 (by decide) rfl (fun ls hl => ?_)
        refine lv_goto (tgt := 14) F.1 F.2.1 dX6_above_46 (by decide) ?_
        exact ih_14 (z_26, x_27) _ _ _ ⟨(show (12 - x_27.toInt + 1).toNat < n_14 from by omega), (wkb hx_27.2 rfl rfl), hH, hS, lv_sub hl [2, 3, 1, 0] rfl⟩
  · skip
    have r_7 : 0 ≤ z_1.toInt ∧ z_1.toInt ≤ 0 := by have h9_ := f_2; omega
    refine lv_iconst (v := (-1)) F.1 F.2.1 dX6_above_8 (by decide) ?_
    refine topK (a := (-1)) (by decide) (fun k_28 hk_28 => ?_)
    exact txI F hS dX6_above_9 rfl (⟨(wkb (eqb hk_28) rfl rfl), hH⟩)
set_option maxHeartbeats 4000000 in
set_option maxRecDepth 100000 in
theorem c_X6_thirst (E : Ev) (rd : TD) (tp : TD) (kb : Int × Int) (Fa1 : Int × Int) (Fb1 : Int × Int) (Fa2 : Int × Int) (Fb2 : Int × Int) (Fa3 : Int × Int) (Fb3 : Int × Int) (Fa4 : Int × Int) (Fb4 : Int × Int) (kr : List Nat) (ks : List Nat) (Pd1 : (Nat → Int32) → Prop) (Pd2 : (Nat → Int32) → Prop) (Pd3 : (Nat → Int32) → Prop) (Pd4 : (Nat → Int32) → Prop) (Ps1 : (Nat → Int32) → Prop) (Ps2 : (Nat → Int32) → Prop) (Ps3 : (Nat → Int32) → Prop) (Ps4 : (Nat → Int32) → Prop) (Pi1 : (Nat → Int32) → Prop) (Pi2 : (Nat → Int32) → Prop) (Pi3 : (Nat → Int32) → Prop) (Pi4 : (Nat → Int32) → Prop) (t : Int) (a0 : Nat) (a1 : Int32) (ha0 : eT E a0 ∈ [28]) (ht : 0 ≤ t ∧ t ≤ 400) (hFa1 : 0 ≤ Fa1.1 ∧ Fa1.2 ≤ 12) (hFb1 : 0 ≤ Fb1.1 ∧ Fb1.2 ≤ 14) (hFa2 : 0 ≤ Fa2.1 ∧ Fa2.2 ≤ 12) (hFb2 : 0 ≤ Fb2.1 ∧ Fb2.2 ≤ 14) (hFa3 : 0 ≤ Fa3.1 ∧ Fa3.2 ≤ 12) (hFb3 : 0 ≤ Fb3.1 ∧ Fb3.2 ≤ 14) (hFa4 : 0 ≤ Fa4.1 ∧ Fa4.2 ≤ 12) (hFb4 : 0 ≤ Fb4.1 ∧ Fb4.2 ≤ 14) (hkr : ∀ t ∈ kr, t ∈ [26, 27]) (hks : ∀ t ∈ ks, t ∈ [26, 27]) (hPd1 : ∀ f, Pd1 f → ivP 12 (-2) 11 f) (hPd2 : ∀ f, Pd2 f → ivP 12 (-2) 11 f) (hPd3 : ∀ f, Pd3 f → ivP 12 (-2) 11 f) (hPd4 : ∀ f, Pd4 f → ivP 12 (-2) 11 f) (hPs1 : ∀ f, Ps1 f → ivP 12 (-2147483648) 2147483647 f) (hPs2 : ∀ f, Ps2 f → ivP 12 (-2147483648) 2147483647 f) (hPs3 : ∀ f, Ps3 f → ivP 12 (-2147483648) 2147483647 f) (hPs4 : ∀ f, Ps4 f → ivP 12 (-2147483648) 2147483647 f) (hPi1 : ∀ f, Pi1 f → ivP 48 (-2147483648) 2147483647 f) (hPi2 : ∀ f, Pi2 f → ivP 48 (-2147483648) 2147483647 f) (hPi3 : ∀ f, Pi3 f → ivP 48 (-2147483648) 2147483647 f) (hPi4 : ∀ f, Pi4 f → ivP 48 (-2147483648) 2147483647 f) : TcI E yX6_thirst cX6_thirst 5 .int ({ frames := 6, cells := 0, slots := 0, locals := 159 }) [.ref a0, .int a1] (fun H => TH E (tbC (dayD (.inl (0, 18))) (dayD (.inl (0, 18))) (riverD (.inl Fa1) (.inl Fb1) (.inl (0, 4)) 31 33 35 39 43 47) (riverD (.inl Fa2) (.inl Fb2) (.inl (0, 4)) 32 34 36 40 44 48) (rcD (.inl (t, t)) (.inr kr) (.inr ks) (.inl kb)) rd tp A14F A14F A4F A4F A14F A14F (riverD (.inl Fa3) (.inl Fb3) (.inl (0, 4)) 3 8 3 41 45 49) (riverD (.inl Fa4) (.inl Fb4) (.inl (0, 4)) 3 8 3 42 46 50) ((.inr (.inl (0, 12, Pd1)))) ((.inr (.inl (0, 12, Pd2)))) ((.inr (.inl (0, 12, Pd3)))) ((.inr (.inl (0, 12, Pd4)))) ((.inr (.inl (0, 12, Ps1)))) ((.inr (.inl (0, 12, Ps2)))) ((.inr (.inl (0, 12, Ps3)))) ((.inr (.inl (0, 12, Ps4)))) ((.inr (.inl (0, 48, Pi1)))) ((.inr (.inl (0, 48, Pi2)))) ((.inr (.inl (0, 48, Pi3)))) ((.inr (.inl (0, 48, Pi4))))) H) (fun v H => ((-2147483648) ≤ v.toInt ∧ v.toInt ≤ 2147483647) ∧ TH E (tbC (dayD (.inl (0, 18))) (dayD (.inl (0, 18))) (riverD (.inl Fa1) (.inl Fb1) (.inl (0, 4)) 31 33 35 39 43 47) (riverD (.inl Fa2) (.inl Fb2) (.inl (0, 4)) 32 34 36 40 44 48) (rcD (.inl (t, t)) (.inr kr) (.inr ks) (.inl kb)) rd tp A14F A14F A4F A4F A14F A14F (riverD (.inl Fa3) (.inl Fb3) (.inl (0, 4)) 3 8 3 41 45 49) (riverD (.inl Fa4) (.inl Fb4) (.inl (0, 4)) 3 8 3 42 46 50) ((.inr (.inl (0, 12, Pd1)))) ((.inr (.inl (0, 12, Pd2)))) ((.inr (.inl (0, 12, Pd3)))) ((.inr (.inl (0, 12, Pd4)))) ((.inr (.inl (0, 12, Ps1)))) ((.inr (.inl (0, 12, Ps2)))) ((.inr (.inl (0, 12, Ps3)))) ((.inr (.inl (0, 12, Ps4)))) ((.inr (.inl (0, 48, Pi1)))) ((.inr (.inl (0, 48, Pi2)))) ((.inr (.inl (0, 48, Pi3)))) ((.inr (.inl (0, 48, Pi4))))) H) := by
  refine teI (by decide) (Nat.le_of_ble_eq_true rfl) ?_
  intro p_ ev_ s mi_ below_ meth cd_ ls F hK hN hO hH hS hl
  have hH : TH E (tbC (dayD (.inl (0, 18))) (dayD (.inl (0, 18))) (riverD (.inl Fa1) (.inl Fb1) (.inl (0, 4)) 31 33 35 39 43 47) (riverD (.inl Fa2) (.inl Fb2) (.inl (0, 4)) 32 34 36 40 44 48) (rcD (.inl (t, t)) (.inr kr) (.inr ks) (.inl kb)) rd tp A14F A14F A4F A4F A14F A14F (riverD (.inl Fa3) (.inl Fb3) (.inl (0, 4)) 3 8 3 41 45 49) (riverD (.inl Fa4) (.inl Fb4) (.inl (0, 4)) 3 8 3 42 46 50) ((.inr (.inl (0, 12, Pd1)))) ((.inr (.inl (0, 12, Pd2)))) ((.inr (.inl (0, 12, Pd3)))) ((.inr (.inl (0, 12, Pd4)))) ((.inr (.inl (0, 12, Ps1)))) ((.inr (.inl (0, 12, Ps2)))) ((.inr (.inl (0, 12, Ps3)))) ((.inr (.inl (0, 12, Ps4)))) ((.inr (.inl (0, 48, Pi1)))) ((.inr (.inl (0, 48, Pi2)))) ((.inr (.inl (0, 48, Pi3)))) ((.inr (.inl (0, 48, Pi4))))) s.heap := hH
  have hl : lv_has ls 5 [(0, .ref a0), (1, .int a1)] := hl
  refine lv_aload_n F.1 F.2.1 dX6_thirst_0 rfl (lv_at hl 0 rfl) ?_
  refine lv_iload_n F.1 F.2.1 dX6_thirst_1 rfl (lv_at hl 1 rfl) ?_
  refine tVi (b := a0) (As := [.int a1]) (rest := []) F hK hN hO (c_X6_isReach E rd tp kb Fa1 Fb1 Fa2 Fb2 Fa3 Fb3 Fa4 Fb4 kr ks Pd1 Pd2 Pd3 Pd4 Ps1 Ps2 Ps3 Ps4 Pi1 Pi2 Pi3 Pi4 t a0 a1 ha0 (by omega) hFa1 hFb1 hFa2 hFb2 hFa3 hFb3 hFa4 hFb4 hkr hks hPd1 hPd2 hPd3 hPd4 hPs1 hPs2 hPs3 hPs4 hPi1 hPi2 hPi3 hPi4) mv_X6_isReach wd_34_6 ⟨Nat.le_of_ble_eq_true rfl, Nat.le_of_ble_eq_true rfl⟩ ⟨Nat.le_of_ble_eq_true rfl, Nat.le_of_ble_eq_true rfl⟩ hH hS (tRecv hK hH (tyb ha0 (all1 rfl)) clX6) rfl hl.1 (Nat.le_of_ble_eq_true rfl) dX6_thirst_2 (fun z_1 H locs hq hS => ?_)
  obtain ⟨f_2, f_3, hH⟩ := hq
  have hH : TH E (tbC (dayD (.inl (0, 18))) (dayD (.inl (0, 18))) (riverD (.inl Fa1) (.inl Fb1) (.inl (0, 4)) 31 33 35 39 43 47) (riverD (.inl Fa2) (.inl Fb2) (.inl (0, 4)) 32 34 36 40 44 48) (rcD (.inl (t, t)) (.inr kr) (.inr ks) (.inl kb)) rd tp A14F A14F A4F A4F A14F A14F (riverD (.inl Fa3) (.inl Fb3) (.inl (0, 4)) 3 8 3 41 45 49) (riverD (.inl Fa4) (.inl Fb4) (.inl (0, 4)) 3 8 3 42 46 50) ((.inr (.inl (0, 12, Pd1)))) ((.inr (.inl (0, 12, Pd2)))) ((.inr (.inl (0, 12, Pd3)))) ((.inr (.inl (0, 12, Pd4)))) ((.inr (.inl (0, 12, Ps1)))) ((.inr (.inl (0, 12, Ps2)))) ((.inr (.inl (0, 12, Ps3)))) ((.inr (.inl (0, 12, Ps4)))) ((.inr (.inl (0, 48, Pi1)))) ((.inr (.inl (0, 48, Pi2)))) ((.inr (.inl (0, 48, Pi3)))) ((.inr (.inl (0, 48, Pi4))))) H := hH
  refine z_ne (tgt := 10) F dX6_thirst_5 (by decide) (fun c_4 => ?_) (fun c_4 => ?_)
  · skip
    have r_5 : 1 ≤ z_1.toInt ∧ z_1.toInt ≤ 1 := by have h9_ := f_2; omega
    have r_6 : 0 ≤ a1.toInt ∧ a1.toInt ≤ 11 := by have h9_ := (i32b a1); omega
    refine lv_aload_n F.1 F.2.1 dX6_thirst_10 rfl (lv_at hl 0 rfl) ?_
    refine tVv (b := a0) (As := []) (rest := []) F hK hN hO (c_X6_look E rd tp kb Fa1 Fb1 Fa2 Fb2 Fa3 Fb3 Fa4 Fb4 kr ks Pd1 Pd2 Pd3 Pd4 Ps1 Ps2 Ps3 Ps4 Pi1 Pi2 Pi3 Pi4 t a0 ha0 (by omega) hFa1 hFb1 hFa2 hFb2 hFa3 hFb3 hFa4 hFb4 hkr hks hPd1 hPd2 hPd3 hPd4 hPs1 hPs2 hPs3 hPs4 hPi1 hPi2 hPi3 hPi4) mv_X6_look wd_42_9 ⟨Nat.le_of_ble_eq_true rfl, Nat.le_of_ble_eq_true rfl⟩ ⟨Nat.le_of_ble_eq_true rfl, Nat.le_of_ble_eq_true rfl⟩ hH hS (tRecv hK hH (tyb ha0 (all1 rfl)) clX6) rfl hl.1 (Nat.le_of_ble_eq_true rfl) dX6_thirst_11 (fun H locs hq hS => ?_)
    have hH := hq
    have hH : TH E (tbC (dayD (.inl (0, 18))) (dayD (.inl (0, 18))) (riverD (.inl Fa1) (.inl Fb1) (.inl (0, 4)) 31 33 35 39 43 47) (riverD (.inl Fa2) (.inl Fb2) (.inl (0, 4)) 32 34 36 40 44 48) (rcD (.inl (t, t)) (.inr kr) (.inr ks) (.inl kb)) rd tp A14F A14F A4F A4F A14F A14F (riverD (.inl Fa3) (.inl Fb3) (.inl (0, 4)) 3 8 3 41 45 49) (riverD (.inl Fa4) (.inl Fb4) (.inl (0, 4)) 3 8 3 42 46 50) ((.inr (.inl (0, 12, Pd1)))) ((.inr (.inl (0, 12, Pd2)))) ((.inr (.inl (0, 12, Pd3)))) ((.inr (.inl (0, 12, Pd4)))) ((.inr (.inl (0, 12, Ps1)))) ((.inr (.inl (0, 12, Ps2)))) ((.inr (.inl (0, 12, Ps3)))) ((.inr (.inl (0, 12, Ps4)))) ((.inr (.inl (0, 48, Pi1)))) ((.inr (.inl (0, 48, Pi2)))) ((.inr (.inl (0, 48, Pi3)))) ((.inr (.inl (0, 48, Pi4))))) H := hH
    refine lv_iconst (v := 0) F.1 F.2.1 dX6_thirst_14 (by decide) ?_
    refine topK (a := 0) (by decide) (fun k_9 hk_9 => ?_)
    refine lv_istore_n (lv' := [(2, .int k_9), (0, .ref a0), (1, .int a1)]) F.1 F.2.1 dX6_thirst_15 rfl hl (by decide) rfl (fun ls hl => ?_)
    refine lv_iload_n F.1 F.2.1 dX6_thirst_16 rfl (lv_at hl 2 rfl) ?_
    refine lv_istore_n (lv' := [(3, .int a1), (2, .int k_9), (0, .ref a0), (1, .int a1)]) F.1 F.2.1 dX6_thirst_17 rfl hl (by decide) rfl (fun ls hl => ?_)
    refine lv_iconst (v := 0) F.1 F.2.1 dX6_thirst_18 (by decide) ?_
    refine topK (a := 0) (by decide) (fun k_10 hk_10 => ?_)
    refine lv_istore (lv' := [(4, .int k_10), (3, .int a1), (2, .int k_9), (0, .ref a0), (1, .int a1)]) F.1 F.2.1 dX6_thirst_19 hl (by decide) rfl (fun ls hl => ?_)
    refine wloop (σ := Int32 × Int32 × Int32) (fun n9 x9 H locs ls => (12 - x9.2.2.toInt + 1).toNat < n9 ∧ ((-2) ≤ x9.2.1.toInt ∧ x9.2.1.toInt ≤ 11) ∧ (0 ≤ x9.2.2.toInt ∧ x9.2.2.toInt ≤ 12) ∧ TH E (tbC (dayD (.inl (0, 18))) (dayD (.inl (0, 18))) (riverD (.inl Fa1) (.inl Fb1) (.inl (0, 4)) 31 33 35 39 43 47) (riverD (.inl Fa2) (.inl Fb2) (.inl (0, 4)) 32 34 36 40 44 48) (rcD (.inl (t, t)) (.inr kr) (.inr ks) (.inl kb)) rd tp A14F A14F A4F A4F A14F A14F (riverD (.inl Fa3) (.inl Fb3) (.inl (0, 4)) 3 8 3 41 45 49) (riverD (.inl Fa4) (.inl Fb4) (.inl (0, 4)) 3 8 3 42 46 50) ((.inr (.inl (0, 12, Pd1)))) ((.inr (.inl (0, 12, Pd2)))) ((.inr (.inl (0, 12, Pd3)))) ((.inr (.inl (0, 12, Pd4)))) ((.inr (.inl (0, 12, Ps1)))) ((.inr (.inl (0, 12, Ps2)))) ((.inr (.inl (0, 12, Ps3)))) ((.inr (.inl (0, 12, Ps4)))) ((.inr (.inl (0, 48, Pi1)))) ((.inr (.inl (0, 48, Pi2)))) ((.inr (.inl (0, 48, Pi3)))) ((.inr (.inl (0, 48, Pi4))))) H ∧ va_S (eA E s.heap.size) s.heap H locs ∧ lv_has ls 5 [(0, .ref a0), (2, .int x9.1), (3, .int x9.2.1), (4, .int x9.2.2)]) ?_ (fun x9 H locs ls h => absurd h.1 (Nat.not_lt_zero _)) _ (k_9, a1, k_10) ⟨Nat.lt_succ_self _, (wkb r_6 rfl rfl), (wkb (eqb hk_10) rfl rfl), hH, hS, lv_sub hl [3, 2, 1, 0] rfl⟩
    intro n_21 ih_21 ⟨u_11, u_12, u_13⟩ H locs ls ⟨hm_21, hu_12, hu_13, hH, hS, hl⟩
    have hm_21 : (12 - u_13.toInt + 1).toNat < n_21 + 1 := hm_21
    have hu_12 : ((-2) ≤ u_12.toInt ∧ u_12.toInt ≤ 11) := hu_12
    have hu_13 : (0 ≤ u_13.toInt ∧ u_13.toInt ≤ 12) := hu_13
    have hH : TH E (tbC (dayD (.inl (0, 18))) (dayD (.inl (0, 18))) (riverD (.inl Fa1) (.inl Fb1) (.inl (0, 4)) 31 33 35 39 43 47) (riverD (.inl Fa2) (.inl Fb2) (.inl (0, 4)) 32 34 36 40 44 48) (rcD (.inl (t, t)) (.inr kr) (.inr ks) (.inl kb)) rd tp A14F A14F A4F A4F A14F A14F (riverD (.inl Fa3) (.inl Fb3) (.inl (0, 4)) 3 8 3 41 45 49) (riverD (.inl Fa4) (.inl Fb4) (.inl (0, 4)) 3 8 3 42 46 50) ((.inr (.inl (0, 12, Pd1)))) ((.inr (.inl (0, 12, Pd2)))) ((.inr (.inl (0, 12, Pd3)))) ((.inr (.inl (0, 12, Pd4)))) ((.inr (.inl (0, 12, Ps1)))) ((.inr (.inl (0, 12, Ps2)))) ((.inr (.inl (0, 12, Ps3)))) ((.inr (.inl (0, 12, Ps4)))) ((.inr (.inl (0, 48, Pi1)))) ((.inr (.inl (0, 48, Pi2)))) ((.inr (.inl (0, 48, Pi3)))) ((.inr (.inl (0, 48, Pi4))))) H := hH
    have hl : lv_has ls 5 [(0, .ref a0), (2, .int u_11), (3, .int u_12), (4, .int u_13)] := hl
    refine lv_iload F.1 F.2.1 dX6_thirst_21 (lv_at hl 3 rfl) ?_
    refine lv_bipush (v := 12) F.1 F.2.1 dX6_thirst_23 (by decide) ?_
    refine topK (a := 12) (by decide) (fun k_14 hk_14 => ?_)
    refine b_ge (tgt := 74) F dX6_thirst_25 (by decide) (fun c_15 => ?_) (fun c_15 => ?_)
    · skip
      have r_16 : 12 ≤ u_13.toInt ∧ u_13.toInt ≤ 12 := by have h9_ := hu_13; omega
      refine lv_iload_n F.1 F.2.1 dX6_thirst_74 rfl (lv_at hl 1 rfl) ?_
      refine lv_sipush (v := 9999) F.1 F.2.1 dX6_thirst_75 (by decide) ?_
      refine topK (a := 9999) (by decide) (fun k_18 hk_18 => ?_)
      refine tMin (lo := (-2147483648)) (hi := 9999) F wd_15_5 wd_9_0 wd_9_1 wd_9_2 hl.1 (Nat.le_of_ble_eq_true rfl) (Nat.le_of_ble_eq_true rfl) (Nat.le_of_ble_eq_true rfl) (Nat.le_of_ble_eq_true rfl) dX6_thirst_78 (i32b _) (eqb hk_18) rfl (fun z_19 hz_19 => ?_)
      exact txI F hS dX6_thirst_81 rfl (⟨(wkb hz_19.2 rfl rfl), hH⟩)
    · skip
      have r_17 : 0 ≤ u_13.toInt ∧ u_13.toInt ≤ 11 := by have h9_ := hu_13; omega
      refine lv_iload_n F.1 F.2.1 dX6_thirst_28 rfl (lv_at hl 2 rfl) ?_
      refine z_lt (tgt := 74) F dX6_thirst_29 (by decide) (fun c_20 => ?_) (fun c_20 => ?_)
      · skip
        have r_21 : (-2) ≤ u_12.toInt ∧ u_12.toInt ≤ (-1) := by have h9_ := hu_12; omega
        refine lv_iload_n F.1 F.2.1 dX6_thirst_74 rfl (lv_at hl 1 rfl) ?_
        refine lv_sipush (v := 9999) F.1 F.2.1 dX6_thirst_75 (by decide) ?_
        refine topK (a := 9999) (by decide) (fun k_23 hk_23 => ?_)
        refine tMin (lo := (-2147483648)) (hi := 9999) F wd_15_5 wd_9_0 wd_9_1 wd_9_2 hl.1 (Nat.le_of_ble_eq_true rfl) (Nat.le_of_ble_eq_true rfl) (Nat.le_of_ble_eq_true rfl) (Nat.le_of_ble_eq_true rfl) dX6_thirst_78 (i32b _) (eqb hk_23) rfl (fun z_24 hz_24 => ?_)
        exact txI F hS dX6_thirst_81 rfl (⟨(wkb hz_24.2 rfl rfl), hH⟩)
      · skip
        have r_22 : 0 ≤ u_12.toInt ∧ u_12.toInt ≤ 11 := by have h9_ := hu_12; omega
        refine lv_iload_n F.1 F.2.1 dX6_thirst_32 rfl (lv_at hl 1 rfl) ?_
        refine lv_iconst (v := 0) F.1 F.2.1 dX6_thirst_33 (by decide) ?_
        refine topK (a := 0) (by decide) (fun k_25 hk_25 => ?_)
        refine lv_aload_n F.1 F.2.1 dX6_thirst_34 rfl (lv_at hl 0 rfl) ?_
        refine tGetR0 (j := 2) F hK hH (tyb ha0 (all1 rfl)) rfl clX6 (by decide) wd_1_17 dX6_thirst_35 (fun q_26 hq_26 => ?_)
        refine tGetRM0 (j := 2) (L := [43, 44]) F hK hH (hkr _ hq_26) (alls ⟨_, _, rfl, rfl, by decide⟩ (alls1 ⟨_, _, rfl, rfl, by decide⟩)) clX2 (by decide) wd_39_23 dX6_thirst_38 (fun q_27 hq_27 => ?_)
        refine lv_iload_n F.1 F.2.1 dX6_thirst_41 rfl (lv_at hl 2 rfl) ?_
        refine tIaldM (lo := (-2147483648)) (hi := 2147483647) F hK hH hq_27 (alls ⟨_, rfl, hPs1⟩ (alls1 ⟨_, rfl, hPs2⟩)) (ixb (n := 12) r_22 rfl rfl) dX6_thirst_42 (fun z_28 hz_28 => ?_)
        refine lv_aload_n F.1 F.2.1 dX6_thirst_43 rfl (lv_at hl 0 rfl) ?_
        refine tGetR (j := 11) F hK hH (tyb ha0 (all1 rfl)) rfl (all1 rfl) clX6 (by decide) wd_2_7 dX6_thirst_44 (fun q_29 hq_29 _ => ?_)
        refine tGetR (j := 5) F hK hH (tyb hq_29 (all1 rfl)) rfl (all1 rfl) clX0 (by decide) wd_42_7 dX6_thirst_47 (fun q_30 hq_30 _ => ?_)
        refine lv_iload_n F.1 F.2.1 dX6_thirst_50 rfl (lv_at hl 2 rfl) ?_
        refine tIaldB F hK hH (tyb hq_30 (all1 rfl)) (ixb (n := 12) r_22 rfl rfl) dX6_thirst_51 (fun z_31 hz_31 => ?_)
        refine lv_isub F.1 F.2.1 dX6_thirst_52 ?_
        refine topF (fun z_32 => ?_)
        refine tMax (lo := 0) (hi := 2147483647) F wd_48_13 wd_21_10 wd_9_1 wd_21_11 hl.1 (Nat.le_of_ble_eq_true rfl) (Nat.le_of_ble_eq_true rfl) (Nat.le_of_ble_eq_true rfl) (Nat.le_of_ble_eq_true rfl) dX6_thirst_53 (eqb hk_25) (i32b _) rfl (fun z_33 hz_33 => ?_)
        refine lv_iadd F.1 F.2.1 dX6_thirst_56 ?_
        refine topF (fun z_34 => ?_)
        refine lv_istore_n (lv' := [(2, .int z_34), (0, .ref a0), (3, .int u_12), (4, .int u_13)]) F.1 F.2.1 dX6_thirst_57 rfl hl (by decide) rfl (fun ls hl => ?_)
        refine lv_aload_n F.1 F.2.1 dX6_thirst_58 rfl (lv_at hl 1 rfl) ?_
        refine tGetR0 (j := 2) F hK hH (tyb ha0 (all1 rfl)) rfl clX6 (by decide) wd_1_17 dX6_thirst_59 (fun q_35 hq_35 => ?_)
        refine tGetRM0 (j := 1) (L := [39, 40]) F hK hH (hkr _ hq_35) (alls ⟨_, _, rfl, rfl, by decide⟩ (alls1 ⟨_, _, rfl, rfl, by decide⟩)) clX2 (by decide) wd_39_22 dX6_thirst_62 (fun q_36 hq_36 => ?_)
        refine lv_iload_n F.1 F.2.1 dX6_thirst_65 rfl (lv_at hl 2 rfl) ?_
        refine tIaldM (lo := (-2)) (hi := 11) F hK hH hq_36 (alls ⟨_, rfl, hPd1⟩ (alls1 ⟨_, rfl, hPd2⟩)) (ixb (n := 12) r_22 rfl rfl) dX6_thirst_66 (fun z_37 hz_37 => ?_)
        refine lv_istore_n (lv' := [(3, .int z_37), (2, .int z_34), (0, .ref a0), (4, .int u_13)]) F.1 F.2.1 dX6_thirst_67 rfl hl (by decide) rfl (fun ls hl => ?_)
        obtain ⟨x_38, ex_38, hx_38⟩ := iincB (c := 1) (lo := 1) (hi := 12) r_17 rfl
        refine lv_iinc (v := x_38) (lv' := [(4, .int x_38), (3, .int z_37), (2, .int z_34), (0, .ref a0)]) F.1 F.2.1 dX6_thirst_68 hl (k := 3) rfl ex_38 (by decide) rfl (fun ls hl => ?_)
        refine lv_goto (tgt := 21) F.1 F.2.1 dX6_thirst_71 (by decide) ?_
        exact ih_21 (z_34, z_37, x_38) _ _ _ ⟨(show (12 - x_38.toInt + 1).toNat < n_21 from by omega), hz_37, (wkb hx_38.2 rfl rfl), hH, hS, lv_sub hl [3, 2, 1, 0] rfl⟩
  · skip
    have r_7 : 0 ≤ z_1.toInt ∧ z_1.toInt ≤ 0 := by have h9_ := f_2; omega
    refine lv_iconst (v := (-1)) F.1 F.2.1 dX6_thirst_8 (by decide) ?_
    refine topK (a := (-1)) (by decide) (fun k_39 hk_39 => ?_)
    exact txI F hS dX6_thirst_9 rfl (⟨(wkb (eqb hk_39) rfl rfl), hH⟩)
set_option maxHeartbeats 4000000 in
set_option maxRecDepth 100000 in
theorem c_X6_dry (E : Ev) (rd : TD) (tp : TD) (kb : Int × Int) (Fa1 : Int × Int) (Fb1 : Int × Int) (Fa2 : Int × Int) (Fb2 : Int × Int) (Fa3 : Int × Int) (Fb3 : Int × Int) (Fa4 : Int × Int) (Fb4 : Int × Int) (kr : List Nat) (ks : List Nat) (Pd1 : (Nat → Int32) → Prop) (Pd2 : (Nat → Int32) → Prop) (Pd3 : (Nat → Int32) → Prop) (Pd4 : (Nat → Int32) → Prop) (Ps1 : (Nat → Int32) → Prop) (Ps2 : (Nat → Int32) → Prop) (Ps3 : (Nat → Int32) → Prop) (Ps4 : (Nat → Int32) → Prop) (Pi1 : (Nat → Int32) → Prop) (Pi2 : (Nat → Int32) → Prop) (Pi3 : (Nat → Int32) → Prop) (Pi4 : (Nat → Int32) → Prop) (t : Int) (a0 : Nat) (a1 : Int32) (ha0 : eT E a0 ∈ [28]) (ht : 0 ≤ t ∧ t ≤ 400) (hFa1 : 0 ≤ Fa1.1 ∧ Fa1.2 ≤ 12) (hFb1 : 0 ≤ Fb1.1 ∧ Fb1.2 ≤ 14) (hFa2 : 0 ≤ Fa2.1 ∧ Fa2.2 ≤ 12) (hFb2 : 0 ≤ Fb2.1 ∧ Fb2.2 ≤ 14) (hFa3 : 0 ≤ Fa3.1 ∧ Fa3.2 ≤ 12) (hFb3 : 0 ≤ Fb3.1 ∧ Fb3.2 ≤ 14) (hFa4 : 0 ≤ Fa4.1 ∧ Fa4.2 ≤ 12) (hFb4 : 0 ≤ Fb4.1 ∧ Fb4.2 ≤ 14) (hkr : ∀ t ∈ kr, t ∈ [26, 27]) (hks : ∀ t ∈ ks, t ∈ [26, 27]) (hPd1 : ∀ f, Pd1 f → ivP 12 (-2) 11 f) (hPd2 : ∀ f, Pd2 f → ivP 12 (-2) 11 f) (hPd3 : ∀ f, Pd3 f → ivP 12 (-2) 11 f) (hPd4 : ∀ f, Pd4 f → ivP 12 (-2) 11 f) (hPs1 : ∀ f, Ps1 f → ivP 12 (-2147483648) 2147483647 f) (hPs2 : ∀ f, Ps2 f → ivP 12 (-2147483648) 2147483647 f) (hPs3 : ∀ f, Ps3 f → ivP 12 (-2147483648) 2147483647 f) (hPs4 : ∀ f, Ps4 f → ivP 12 (-2147483648) 2147483647 f) (hPi1 : ∀ f, Pi1 f → ivP 48 (-2147483648) 2147483647 f) (hPi2 : ∀ f, Pi2 f → ivP 48 (-2147483648) 2147483647 f) (hPi3 : ∀ f, Pi3 f → ivP 48 (-2147483648) 2147483647 f) (hPi4 : ∀ f, Pi4 f → ivP 48 (-2147483648) 2147483647 f) : TcI E yX6_dry cX6_dry 3 .int ({ frames := 6, cells := 0, slots := 0, locals := 161 }) [.ref a0, .int a1] (fun H => TH E (tbC (dayD (.inl (0, 18))) (dayD (.inl (0, 18))) (riverD (.inl Fa1) (.inl Fb1) (.inl (0, 4)) 31 33 35 39 43 47) (riverD (.inl Fa2) (.inl Fb2) (.inl (0, 4)) 32 34 36 40 44 48) (rcD (.inl (t, t)) (.inr kr) (.inr ks) (.inl kb)) rd tp A14F A14F A4F A4F A14F A14F (riverD (.inl Fa3) (.inl Fb3) (.inl (0, 4)) 3 8 3 41 45 49) (riverD (.inl Fa4) (.inl Fb4) (.inl (0, 4)) 3 8 3 42 46 50) ((.inr (.inl (0, 12, Pd1)))) ((.inr (.inl (0, 12, Pd2)))) ((.inr (.inl (0, 12, Pd3)))) ((.inr (.inl (0, 12, Pd4)))) ((.inr (.inl (0, 12, Ps1)))) ((.inr (.inl (0, 12, Ps2)))) ((.inr (.inl (0, 12, Ps3)))) ((.inr (.inl (0, 12, Ps4)))) ((.inr (.inl (0, 48, Pi1)))) ((.inr (.inl (0, 48, Pi2)))) ((.inr (.inl (0, 48, Pi3)))) ((.inr (.inl (0, 48, Pi4))))) H) (fun v H => ((-2147483648) ≤ v.toInt ∧ v.toInt ≤ 2147483647) ∧ TH E (tbC (dayD (.inl (0, 18))) (dayD (.inl (0, 18))) (riverD (.inl Fa1) (.inl Fb1) (.inl (0, 4)) 31 33 35 39 43 47) (riverD (.inl Fa2) (.inl Fb2) (.inl (0, 4)) 32 34 36 40 44 48) (rcD (.inl (t, t)) (.inr kr) (.inr ks) (.inl kb)) rd tp A14F A14F A4F A4F A14F A14F (riverD (.inl Fa3) (.inl Fb3) (.inl (0, 4)) 3 8 3 41 45 49) (riverD (.inl Fa4) (.inl Fb4) (.inl (0, 4)) 3 8 3 42 46 50) ((.inr (.inl (0, 12, Pd1)))) ((.inr (.inl (0, 12, Pd2)))) ((.inr (.inl (0, 12, Pd3)))) ((.inr (.inl (0, 12, Pd4)))) ((.inr (.inl (0, 12, Ps1)))) ((.inr (.inl (0, 12, Ps2)))) ((.inr (.inl (0, 12, Ps3)))) ((.inr (.inl (0, 12, Ps4)))) ((.inr (.inl (0, 48, Pi1)))) ((.inr (.inl (0, 48, Pi2)))) ((.inr (.inl (0, 48, Pi3)))) ((.inr (.inl (0, 48, Pi4))))) H) := by
  refine teI (by decide) (Nat.le_of_ble_eq_true rfl) ?_
  intro p_ ev_ s mi_ below_ meth cd_ ls F hK hN hO hH hS hl
  have hH : TH E (tbC (dayD (.inl (0, 18))) (dayD (.inl (0, 18))) (riverD (.inl Fa1) (.inl Fb1) (.inl (0, 4)) 31 33 35 39 43 47) (riverD (.inl Fa2) (.inl Fb2) (.inl (0, 4)) 32 34 36 40 44 48) (rcD (.inl (t, t)) (.inr kr) (.inr ks) (.inl kb)) rd tp A14F A14F A4F A4F A14F A14F (riverD (.inl Fa3) (.inl Fb3) (.inl (0, 4)) 3 8 3 41 45 49) (riverD (.inl Fa4) (.inl Fb4) (.inl (0, 4)) 3 8 3 42 46 50) ((.inr (.inl (0, 12, Pd1)))) ((.inr (.inl (0, 12, Pd2)))) ((.inr (.inl (0, 12, Pd3)))) ((.inr (.inl (0, 12, Pd4)))) ((.inr (.inl (0, 12, Ps1)))) ((.inr (.inl (0, 12, Ps2)))) ((.inr (.inl (0, 12, Ps3)))) ((.inr (.inl (0, 12, Ps4)))) ((.inr (.inl (0, 48, Pi1)))) ((.inr (.inl (0, 48, Pi2)))) ((.inr (.inl (0, 48, Pi3)))) ((.inr (.inl (0, 48, Pi4))))) s.heap := hH
  have hl : lv_has ls 3 [(0, .ref a0), (1, .int a1)] := hl
  refine lv_iload_n F.1 F.2.1 dX6_dry_0 rfl (lv_at hl 1 rfl) ?_
  refine lv_iconst (v := 1) F.1 F.2.1 dX6_dry_1 (by decide) ?_
  refine topK (a := 1) (by decide) (fun k_1 hk_1 => ?_)
  refine b_lt (tgt := 11) F dX6_dry_2 (by decide) (fun c_2 => ?_) (fun c_2 => ?_)
  · skip
    have r_3 : (-2147483648) ≤ a1.toInt ∧ a1.toInt ≤ 0 := by have h9_ := (i32b a1); omega
    refine lv_iconst (v := (-1)) F.1 F.2.1 dX6_dry_11 (by decide) ?_
    refine topK (a := (-1)) (by decide) (fun k_5 hk_5 => ?_)
    exact txI F hS dX6_dry_12 rfl (⟨(wkb (eqb hk_5) rfl rfl), hH⟩)
  · skip
    have r_4 : 1 ≤ a1.toInt ∧ a1.toInt ≤ 2147483647 := by have h9_ := (i32b a1); omega
    refine lv_iload_n F.1 F.2.1 dX6_dry_5 rfl (lv_at hl 1 rfl) ?_
    refine lv_bipush (v := 10) F.1 F.2.1 dX6_dry_6 (by decide) ?_
    refine topK (a := 10) (by decide) (fun k_6 hk_6 => ?_)
    refine b_le (tgt := 13) F dX6_dry_8 (by decide) (fun c_7 => ?_) (fun c_7 => ?_)
    · skip
      have r_8 : 1 ≤ a1.toInt ∧ a1.toInt ≤ 10 := by have h9_ := r_4; omega
      refine lv_iconst (v := 0) F.1 F.2.1 dX6_dry_13 (by decide) ?_
      refine topK (a := 0) (by decide) (fun k_10 hk_10 => ?_)
      refine lv_istore_n (lv' := [(2, .int k_10), (0, .ref a0), (1, .int a1)]) F.1 F.2.1 dX6_dry_14 rfl hl (by decide) rfl (fun ls hl => ?_)
      refine wloop (σ := Int32) (fun n9 x9 H locs ls => (401 - x9.toInt + 1).toNat < n9 ∧ (0 ≤ x9.toInt ∧ x9.toInt ≤ 401) ∧ TH E (tbC (dayD (.inl (0, 18))) (dayD (.inl (0, 18))) (riverD (.inl Fa1) (.inl Fb1) (.inl (0, 4)) 31 33 35 39 43 47) (riverD (.inl Fa2) (.inl Fb2) (.inl (0, 4)) 32 34 36 40 44 48) (rcD (.inl (t, t)) (.inr kr) (.inr ks) (.inl kb)) rd tp A14F A14F A4F A4F A14F A14F (riverD (.inl Fa3) (.inl Fb3) (.inl (0, 4)) 3 8 3 41 45 49) (riverD (.inl Fa4) (.inl Fb4) (.inl (0, 4)) 3 8 3 42 46 50) ((.inr (.inl (0, 12, Pd1)))) ((.inr (.inl (0, 12, Pd2)))) ((.inr (.inl (0, 12, Pd3)))) ((.inr (.inl (0, 12, Pd4)))) ((.inr (.inl (0, 12, Ps1)))) ((.inr (.inl (0, 12, Ps2)))) ((.inr (.inl (0, 12, Ps3)))) ((.inr (.inl (0, 12, Ps4)))) ((.inr (.inl (0, 48, Pi1)))) ((.inr (.inl (0, 48, Pi2)))) ((.inr (.inl (0, 48, Pi3)))) ((.inr (.inl (0, 48, Pi4))))) H ∧ va_S (eA E s.heap.size) s.heap H locs ∧ lv_has ls 3 [(0, .ref a0), (1, .int a1), (2, .int x9)]) ?_ (fun x9 H locs ls h => absurd h.1 (Nat.not_lt_zero _)) _ (k_10) ⟨Nat.lt_succ_self _, (wkb (eqb hk_10) rfl rfl), hH, hS, lv_sub hl [1, 2, 0] rfl⟩
      intro n_15 ih_15 u_11 H locs ls ⟨hm_15, hu_11, hH, hS, hl⟩
      have hm_15 : (401 - u_11.toInt + 1).toNat < n_15 + 1 := hm_15
      have hu_11 : (0 ≤ u_11.toInt ∧ u_11.toInt ≤ 401) := hu_11
      have hH : TH E (tbC (dayD (.inl (0, 18))) (dayD (.inl (0, 18))) (riverD (.inl Fa1) (.inl Fb1) (.inl (0, 4)) 31 33 35 39 43 47) (riverD (.inl Fa2) (.inl Fb2) (.inl (0, 4)) 32 34 36 40 44 48) (rcD (.inl (t, t)) (.inr kr) (.inr ks) (.inl kb)) rd tp A14F A14F A4F A4F A14F A14F (riverD (.inl Fa3) (.inl Fb3) (.inl (0, 4)) 3 8 3 41 45 49) (riverD (.inl Fa4) (.inl Fb4) (.inl (0, 4)) 3 8 3 42 46 50) ((.inr (.inl (0, 12, Pd1)))) ((.inr (.inl (0, 12, Pd2)))) ((.inr (.inl (0, 12, Pd3)))) ((.inr (.inl (0, 12, Pd4)))) ((.inr (.inl (0, 12, Ps1)))) ((.inr (.inl (0, 12, Ps2)))) ((.inr (.inl (0, 12, Ps3)))) ((.inr (.inl (0, 12, Ps4)))) ((.inr (.inl (0, 48, Pi1)))) ((.inr (.inl (0, 48, Pi2)))) ((.inr (.inl (0, 48, Pi3)))) ((.inr (.inl (0, 48, Pi4))))) H := hH
      have hl : lv_has ls 3 [(0, .ref a0), (1, .int a1), (2, .int u_11)] := hl
      refine lv_iload_n F.1 F.2.1 dX6_dry_15 rfl (lv_at hl 2 rfl) ?_
      refine lv_sipush (v := 400) F.1 F.2.1 dX6_dry_16 (by decide) ?_
      refine topK (a := 400) (by decide) (fun k_12 hk_12 => ?_)
      refine b_gt (tgt := 67) F dX6_dry_19 (by decide) (fun c_13 => ?_) (fun c_13 => ?_)
      · skip
        have r_14 : 401 ≤ u_11.toInt ∧ u_11.toInt ≤ 401 := by have h9_ := hu_11; omega
        refine lv_bipush (v := (-2)) F.1 F.2.1 dX6_dry_67 (by decide) ?_
        refine topK (a := (-2)) (by decide) (fun k_16 hk_16 => ?_)
        exact txI F hS dX6_dry_69 rfl (⟨(wkb (eqb hk_16) rfl rfl), hH⟩)
      · skip
        have r_15 : 0 ≤ u_11.toInt ∧ u_11.toInt ≤ 400 := by have h9_ := hu_11; omega
        refine lv_aload_n F.1 F.2.1 dX6_dry_22 rfl (lv_at hl 0 rfl) ?_
        refine tGetR (j := 12) F hK hH (tyb ha0 (all1 rfl)) rfl (all1 rfl) clX6 (by decide) wd_2_11 dX6_dry_23 (fun q_17 hq_17 _ => ?_)
        refine lv_aload_n F.1 F.2.1 dX6_dry_26 rfl (lv_at hl 0 rfl) ?_
        refine tGetR0 (j := 2) F hK hH (tyb ha0 (all1 rfl)) rfl clX6 (by decide) wd_1_17 dX6_dry_27 (fun q_18 hq_18 => ?_)
        refine lv_aload_n F.1 F.2.1 dX6_dry_30 rfl (lv_at hl 0 rfl) ?_
        refine tGetR (j := 4) F hK hH (tyb ha0 (all1 rfl)) rfl (all1 rfl) clX6 (by decide) wd_1_22 dX6_dry_31 (fun q_19 hq_19 _ => ?_)
        refine tVv (b := q_17) (As := [.ref q_18, .ref q_19]) (rest := []) F hK hN hO (c_X1_begin E (rcD (.inl (t, t)) (.inr kr) (.inr ks) (.inl kb)) rd tp Fa1 Fb1 Fa2 Fb2 Fa3 Fb3 Fa4 Fb4 Pd1 Pd2 Pd3 Pd4 Ps1 Ps2 Ps3 Ps4 Pi1 Pi2 Pi3 Pi4 q_17 q_18 q_19 hq_17 (hkr _ hq_18) hq_19 hFa1 hFb1 hFa2 hFb2 hFa3 hFb3 hFa4 hFb4 hPd1 hPd2 hPd3 hPd4 hPs1 hPs2 hPs3 hPs4 hPi1 hPi2 hPi3 hPi4) mv_X1_begin wd_34_15 ⟨Nat.le_of_ble_eq_true rfl, Nat.le_of_ble_eq_true rfl⟩ ⟨Nat.le_of_ble_eq_true rfl, Nat.le_of_ble_eq_true rfl⟩ hH hS (tRecv hK hH (tyb hq_17 (all1 rfl)) clX1) rfl hl.1 (Nat.le_of_ble_eq_true rfl) dX6_dry_34 (fun H locs hq hS => ?_)
        have hH := hq
        have hH : TH E (tbC (dayD (.inl (0, 18))) (dayD (.inl (0, 18))) (riverD (.inl Fa1) (.inl Fb1) (.inl (0, 4)) 31 33 35 39 43 47) (riverD (.inl Fa2) (.inl Fb2) (.inl (0, 4)) 32 34 36 40 44 48) (rcD (.inl (t, t)) (.inr kr) (.inr ks) (.inl kb)) rd tp A14F A14F A4F A4F A14F A14F (riverD (.inl Fa3) (.inl Fb3) (.inl (0, 4)) 3 8 3 41 45 49) (riverD (.inl Fa4) (.inl Fb4) (.inl (0, 4)) 3 8 3 42 46 50) ((.inr (.inl (0, 12, Pd1)))) ((.inr (.inl (0, 12, Pd2)))) ((.inr (.inl (0, 12, Pd3)))) ((.inr (.inl (0, 12, Pd4)))) ((.inr (.inl (0, 12, Ps1)))) ((.inr (.inl (0, 12, Ps2)))) ((.inr (.inl (0, 12, Ps3)))) ((.inr (.inl (0, 12, Ps4)))) ((.inr (.inl (0, 48, Pi1)))) ((.inr (.inl (0, 48, Pi2)))) ((.inr (.inl (0, 48, Pi3)))) ((.inr (.inl (0, 48, Pi4))))) H := hH
        refine lv_aload_n F.1 F.2.1 dX6_dry_37 rfl (lv_at hl 0 rfl) ?_
        refine tGetR (j := 12) F hK hH (tyb ha0 (all1 rfl)) rfl (all1 rfl) clX6 (by decide) wd_2_11 dX6_dry_38 (fun q_21 hq_21 _ => ?_)
        refine tGetR (j := 0) F hK hH (tyb hq_21 (all1 rfl)) rfl (all1 rfl) clX1 (by decide) wd_46_23 dX6_dry_41 (fun q_22 hq_22 _ => ?_)
        refine lv_iload_n F.1 F.2.1 dX6_dry_44 rfl (lv_at hl 2 rfl) ?_
        refine tPut (j := 1) F hK hH hS (tyb hq_22 (all1 rfl)) rfl (fdI (wkb r_15 rfl rfl)) clX5 (by decide) wd_30_18 rfl rfl rfl rfl dX6_dry_45 (fun H locs hH hS => ?_)
        refine lv_aload_n F.1 F.2.1 dX6_dry_48 rfl (lv_at hl 0 rfl) ?_
        refine tGetR (j := 12) F hK hH (tyb ha0 (all1 rfl)) rfl (all1 rfl) clX6 (by decide) wd_2_11 dX6_dry_49 (fun q_23 hq_23 _ => ?_)
        refine lv_iload_n F.1 F.2.1 dX6_dry_52 rfl (lv_at hl 1 rfl) ?_
        refine tVi (b := q_23) (As := [.int a1]) (rest := []) F hK hN hO (c_X1_isCalm E (rcD (.inl (t, t)) (.inr kr) (.inr ks) (.inl kb)) rd tp Fa1 Fb1 Fa2 Fb2 Fa3 Fb3 Fa4 Fb4 Pd1 Pd2 Pd3 Pd4 Ps1 Ps2 Ps3 Ps4 Pi1 Pi2 Pi3 Pi4 q_23 a1 hq_23 r_8 hFa1 hFb1 hFa2 hFb2 hFa3 hFb3 hFa4 hFb4 hPd1 hPd2 hPd3 hPd4 hPs1 hPs2 hPs3 hPs4 hPi1 hPi2 hPi3 hPi4) mv_X1_isCalm wd_56_23 ⟨Nat.le_of_ble_eq_true rfl, Nat.le_of_ble_eq_true rfl⟩ ⟨Nat.le_of_ble_eq_true rfl, Nat.le_of_ble_eq_true rfl⟩ hH hS (tRecv hK hH (tyb hq_23 (all1 rfl)) clX1) rfl hl.1 (Nat.le_of_ble_eq_true rfl) dX6_dry_53 (fun z_24 H locs hq hS => ?_)
        obtain ⟨f_25, hH⟩ := hq
        have hH : TH E (tbC (dayD (.inl (0, 18))) (dayD (.inl (0, 18))) (riverD (.inl Fa1) (.inl Fb1) (.inl (0, 4)) 31 33 35 39 43 47) (riverD (.inl Fa2) (.inl Fb2) (.inl (0, 4)) 32 34 36 40 44 48) (rcD (.inl (t, t)) (.inr kr) (.inr ks) (.inl kb)) rd tp A14F A14F A4F A4F A14F A14F (riverD (.inl Fa3) (.inl Fb3) (.inl (0, 4)) 3 8 3 41 45 49) (riverD (.inl Fa4) (.inl Fb4) (.inl (0, 4)) 3 8 3 42 46 50) ((.inr (.inl (0, 12, Pd1)))) ((.inr (.inl (0, 12, Pd2)))) ((.inr (.inl (0, 12, Pd3)))) ((.inr (.inl (0, 12, Pd4)))) ((.inr (.inl (0, 12, Ps1)))) ((.inr (.inl (0, 12, Ps2)))) ((.inr (.inl (0, 12, Ps3)))) ((.inr (.inl (0, 12, Ps4)))) ((.inr (.inl (0, 48, Pi1)))) ((.inr (.inl (0, 48, Pi2)))) ((.inr (.inl (0, 48, Pi3)))) ((.inr (.inl (0, 48, Pi4))))) H := hH
        refine z_eq (tgt := 61) F dX6_dry_56 (by decide) (fun c_26 => ?_) (fun c_26 => ?_)
        · skip
          have r_27 : 0 ≤ z_24.toInt ∧ z_24.toInt ≤ 0 := by have h9_ := f_25; omega
          obtain ⟨x_29, ex_29, hx_29⟩ := iincB (c := 1) (lo := 1) (hi := 401) r_15 rfl
          refine lv_iinc (v := x_29) (lv' := [(2, .int x_29), (0, .ref a0), (1, .int a1)]) F.1 F.2.1 dX6_dry_61 hl (k := 2) rfl ex_29 (by decide) rfl (fun ls hl => ?_)
          refine lv_goto (tgt := 15) F.1 F.2.1 dX6_dry_64 (by decide) ?_
          exact ih_15 (x_29) _ _ _ ⟨(show (401 - x_29.toInt + 1).toNat < n_15 from by omega), (wkb hx_29.2 rfl rfl), hH, hS, lv_sub hl [1, 2, 0] rfl⟩
        · skip
          have r_28 : 1 ≤ z_24.toInt ∧ z_24.toInt ≤ 1 := by have h9_ := f_25; omega
          refine lv_iload_n F.1 F.2.1 dX6_dry_59 rfl (lv_at hl 2 rfl) ?_
          exact txI F hS dX6_dry_60 rfl (⟨(wkb r_15 rfl rfl), hH⟩)
    · skip
      have r_9 : 11 ≤ a1.toInt ∧ a1.toInt ≤ 2147483647 := by have h9_ := r_4; omega
      refine lv_iconst (v := (-1)) F.1 F.2.1 dX6_dry_11 (by decide) ?_
      refine topK (a := (-1)) (by decide) (fun k_30 hk_30 => ?_)
      exact txI F hS dX6_dry_12 rfl (⟨(wkb (eqb hk_30) rfl rfl), hH⟩)
set_option maxHeartbeats 4000000 in
set_option maxRecDepth 100000 in
theorem c_X6_full (E : Ev) (rd : TD) (tp : TD) (kb : Int × Int) (Fa1 : Int × Int) (Fb1 : Int × Int) (Fa2 : Int × Int) (Fb2 : Int × Int) (Fa3 : Int × Int) (Fb3 : Int × Int) (Fa4 : Int × Int) (Fb4 : Int × Int) (kr : List Nat) (ks : List Nat) (Pd1 : (Nat → Int32) → Prop) (Pd2 : (Nat → Int32) → Prop) (Pd3 : (Nat → Int32) → Prop) (Pd4 : (Nat → Int32) → Prop) (Ps1 : (Nat → Int32) → Prop) (Ps2 : (Nat → Int32) → Prop) (Ps3 : (Nat → Int32) → Prop) (Ps4 : (Nat → Int32) → Prop) (Pi1 : (Nat → Int32) → Prop) (Pi2 : (Nat → Int32) → Prop) (Pi3 : (Nat → Int32) → Prop) (Pi4 : (Nat → Int32) → Prop) (t : Int) (a0 : Nat) (a1 : Int32) (a2 : Int32) (ha0 : eT E a0 ∈ [28]) (ht : 0 ≤ t ∧ t ≤ 400) (hFa1 : 0 ≤ Fa1.1 ∧ Fa1.2 ≤ 12) (hFb1 : 0 ≤ Fb1.1 ∧ Fb1.2 ≤ 14) (hFa2 : 0 ≤ Fa2.1 ∧ Fa2.2 ≤ 12) (hFb2 : 0 ≤ Fb2.1 ∧ Fb2.2 ≤ 14) (hFa3 : 0 ≤ Fa3.1 ∧ Fa3.2 ≤ 12) (hFb3 : 0 ≤ Fb3.1 ∧ Fb3.2 ≤ 14) (hFa4 : 0 ≤ Fa4.1 ∧ Fa4.2 ≤ 12) (hFb4 : 0 ≤ Fb4.1 ∧ Fb4.2 ≤ 14) (hkr : ∀ t ∈ kr, t ∈ [26, 27]) (hks : ∀ t ∈ ks, t ∈ [26, 27]) (hPd1 : ∀ f, Pd1 f → ivP 12 (-2) 11 f) (hPd2 : ∀ f, Pd2 f → ivP 12 (-2) 11 f) (hPd3 : ∀ f, Pd3 f → ivP 12 (-2) 11 f) (hPd4 : ∀ f, Pd4 f → ivP 12 (-2) 11 f) (hPs1 : ∀ f, Ps1 f → ivP 12 (-2147483648) 2147483647 f) (hPs2 : ∀ f, Ps2 f → ivP 12 (-2147483648) 2147483647 f) (hPs3 : ∀ f, Ps3 f → ivP 12 (-2147483648) 2147483647 f) (hPs4 : ∀ f, Ps4 f → ivP 12 (-2147483648) 2147483647 f) (hPi1 : ∀ f, Pi1 f → ivP 48 (-2147483648) 2147483647 f) (hPi2 : ∀ f, Pi2 f → ivP 48 (-2147483648) 2147483647 f) (hPi3 : ∀ f, Pi3 f → ivP 48 (-2147483648) 2147483647 f) (hPi4 : ∀ f, Pi4 f → ivP 48 (-2147483648) 2147483647 f) : TcI E yX6_full cX6_full 3 .int ({ frames := 6, cells := 0, slots := 0, locals := 162 }) [.ref a0, .int a1, .int a2] (fun H => TH E (tbC (dayD (.inl (0, 18))) (dayD (.inl (0, 18))) (riverD (.inl Fa1) (.inl Fb1) (.inl (0, 4)) 31 33 35 39 43 47) (riverD (.inl Fa2) (.inl Fb2) (.inl (0, 4)) 32 34 36 40 44 48) (rcD (.inl (t, t)) (.inr kr) (.inr ks) (.inl kb)) rd tp A14F A14F A4F A4F A14F A14F (riverD (.inl Fa3) (.inl Fb3) (.inl (0, 4)) 3 8 3 41 45 49) (riverD (.inl Fa4) (.inl Fb4) (.inl (0, 4)) 3 8 3 42 46 50) ((.inr (.inl (0, 12, Pd1)))) ((.inr (.inl (0, 12, Pd2)))) ((.inr (.inl (0, 12, Pd3)))) ((.inr (.inl (0, 12, Pd4)))) ((.inr (.inl (0, 12, Ps1)))) ((.inr (.inl (0, 12, Ps2)))) ((.inr (.inl (0, 12, Ps3)))) ((.inr (.inl (0, 12, Ps4)))) ((.inr (.inl (0, 48, Pi1)))) ((.inr (.inl (0, 48, Pi2)))) ((.inr (.inl (0, 48, Pi3)))) ((.inr (.inl (0, 48, Pi4))))) H) (fun v H => ((-2147483648) ≤ v.toInt ∧ v.toInt ≤ 2147483647) ∧ TH E (tbC (dayD (.inl (0, 18))) (dayD (.inl (0, 18))) (riverD (.inl Fa1) (.inl Fb1) (.inl (0, 4)) 31 33 35 39 43 47) (riverD (.inl Fa2) (.inl Fb2) (.inl (0, 4)) 32 34 36 40 44 48) (rcD (.inl (t, t)) (.inr kr) (.inr ks) (.inl kb)) rd tp A14F A14F A4F A4F A14F A14F (riverD (.inl Fa3) (.inl Fb3) (.inl (0, 4)) 3 8 3 41 45 49) (riverD (.inl Fa4) (.inl Fb4) (.inl (0, 4)) 3 8 3 42 46 50) ((.inr (.inl (0, 12, Pd1)))) ((.inr (.inl (0, 12, Pd2)))) ((.inr (.inl (0, 12, Pd3)))) ((.inr (.inl (0, 12, Pd4)))) ((.inr (.inl (0, 12, Ps1)))) ((.inr (.inl (0, 12, Ps2)))) ((.inr (.inl (0, 12, Ps3)))) ((.inr (.inl (0, 12, Ps4)))) ((.inr (.inl (0, 48, Pi1)))) ((.inr (.inl (0, 48, Pi2)))) ((.inr (.inl (0, 48, Pi3)))) ((.inr (.inl (0, 48, Pi4))))) H) := by
  refine teI (by decide) (Nat.le_of_ble_eq_true rfl) ?_
  intro p_ ev_ s mi_ below_ meth cd_ ls F hK hN hO hH hS hl
  have hH : TH E (tbC (dayD (.inl (0, 18))) (dayD (.inl (0, 18))) (riverD (.inl Fa1) (.inl Fb1) (.inl (0, 4)) 31 33 35 39 43 47) (riverD (.inl Fa2) (.inl Fb2) (.inl (0, 4)) 32 34 36 40 44 48) (rcD (.inl (t, t)) (.inr kr) (.inr ks) (.inl kb)) rd tp A14F A14F A4F A4F A14F A14F (riverD (.inl Fa3) (.inl Fb3) (.inl (0, 4)) 3 8 3 41 45 49) (riverD (.inl Fa4) (.inl Fb4) (.inl (0, 4)) 3 8 3 42 46 50) ((.inr (.inl (0, 12, Pd1)))) ((.inr (.inl (0, 12, Pd2)))) ((.inr (.inl (0, 12, Pd3)))) ((.inr (.inl (0, 12, Pd4)))) ((.inr (.inl (0, 12, Ps1)))) ((.inr (.inl (0, 12, Ps2)))) ((.inr (.inl (0, 12, Ps3)))) ((.inr (.inl (0, 12, Ps4)))) ((.inr (.inl (0, 48, Pi1)))) ((.inr (.inl (0, 48, Pi2)))) ((.inr (.inl (0, 48, Pi3)))) ((.inr (.inl (0, 48, Pi4))))) s.heap := hH
  have hl : lv_has ls 3 [(0, .ref a0), (1, .int a1), (2, .int a2)] := hl
  refine lv_aload_n F.1 F.2.1 dX6_full_0 rfl (lv_at hl 0 rfl) ?_
  refine lv_iload_n F.1 F.2.1 dX6_full_1 rfl (lv_at hl 1 rfl) ?_
  refine tVi (b := a0) (As := [.int a1]) (rest := []) F hK hN hO (c_X6_isStore E rd tp kb Fa1 Fb1 Fa2 Fb2 Fa3 Fb3 Fa4 Fb4 kr ks Pd1 Pd2 Pd3 Pd4 Ps1 Ps2 Ps3 Ps4 Pi1 Pi2 Pi3 Pi4 t a0 a1 ha0 (by omega) hFa1 hFb1 hFa2 hFb2 hFa3 hFb3 hFa4 hFb4 hkr hks hPd1 hPd2 hPd3 hPd4 hPs1 hPs2 hPs3 hPs4 hPi1 hPi2 hPi3 hPi4) mv_X6_isStore wd_32_6 ⟨Nat.le_of_ble_eq_true rfl, Nat.le_of_ble_eq_true rfl⟩ ⟨Nat.le_of_ble_eq_true rfl, Nat.le_of_ble_eq_true rfl⟩ hH hS (tRecv hK hH (tyb ha0 (all1 rfl)) clX6) rfl hl.1 (Nat.le_of_ble_eq_true rfl) dX6_full_2 (fun z_1 H locs hq hS => ?_)
  obtain ⟨f_2, f_3, hH⟩ := hq
  have hH : TH E (tbC (dayD (.inl (0, 18))) (dayD (.inl (0, 18))) (riverD (.inl Fa1) (.inl Fb1) (.inl (0, 4)) 31 33 35 39 43 47) (riverD (.inl Fa2) (.inl Fb2) (.inl (0, 4)) 32 34 36 40 44 48) (rcD (.inl (t, t)) (.inr kr) (.inr ks) (.inl kb)) rd tp A14F A14F A4F A4F A14F A14F (riverD (.inl Fa3) (.inl Fb3) (.inl (0, 4)) 3 8 3 41 45 49) (riverD (.inl Fa4) (.inl Fb4) (.inl (0, 4)) 3 8 3 42 46 50) ((.inr (.inl (0, 12, Pd1)))) ((.inr (.inl (0, 12, Pd2)))) ((.inr (.inl (0, 12, Pd3)))) ((.inr (.inl (0, 12, Pd4)))) ((.inr (.inl (0, 12, Ps1)))) ((.inr (.inl (0, 12, Ps2)))) ((.inr (.inl (0, 12, Ps3)))) ((.inr (.inl (0, 12, Ps4)))) ((.inr (.inl (0, 48, Pi1)))) ((.inr (.inl (0, 48, Pi2)))) ((.inr (.inl (0, 48, Pi3)))) ((.inr (.inl (0, 48, Pi4))))) H := hH
  refine z_eq (tgt := 17) F dX6_full_5 (by decide) (fun c_4 => ?_) (fun c_4 => ?_)
  · skip
    have r_5 : 0 ≤ z_1.toInt ∧ z_1.toInt ≤ 0 := by have h9_ := f_2; omega
    refine lv_iconst (v := (-1)) F.1 F.2.1 dX6_full_17 (by decide) ?_
    refine topK (a := (-1)) (by decide) (fun k_8 hk_8 => ?_)
    exact txI F hS dX6_full_18 rfl (⟨(wkb (eqb hk_8) rfl rfl), hH⟩)
  · skip
    have r_6 : 1 ≤ z_1.toInt ∧ z_1.toInt ≤ 1 := by have h9_ := f_2; omega
    have r_7 : 0 ≤ a1.toInt ∧ a1.toInt ≤ 3 := by have h9_ := (i32b a1); omega
    refine lv_iload_n F.1 F.2.1 dX6_full_8 rfl (lv_at hl 2 rfl) ?_
    refine z_lt (tgt := 17) F dX6_full_9 (by decide) (fun c_9 => ?_) (fun c_9 => ?_)
    · skip
      have r_10 : (-2147483648) ≤ a2.toInt ∧ a2.toInt ≤ (-1) := by have h9_ := (i32b a2); omega
      refine lv_iconst (v := (-1)) F.1 F.2.1 dX6_full_17 (by decide) ?_
      refine topK (a := (-1)) (by decide) (fun k_12 hk_12 => ?_)
      exact txI F hS dX6_full_18 rfl (⟨(wkb (eqb hk_12) rfl rfl), hH⟩)
    · skip
      have r_11 : 0 ≤ a2.toInt ∧ a2.toInt ≤ 2147483647 := by have h9_ := (i32b a2); omega
      refine lv_iload_n F.1 F.2.1 dX6_full_12 rfl (lv_at hl 2 rfl) ?_
      refine lv_iconst (v := 1) F.1 F.2.1 dX6_full_13 (by decide) ?_
      refine topK (a := 1) (by decide) (fun k_13 hk_13 => ?_)
      refine b_le (tgt := 19) F dX6_full_14 (by decide) (fun c_14 => ?_) (fun c_14 => ?_)
      · skip
        have r_15 : 0 ≤ a2.toInt ∧ a2.toInt ≤ 1 := by have h9_ := r_11; omega
        refine lv_aload_n F.1 F.2.1 dX6_full_19 rfl (lv_at hl 0 rfl) ?_
        refine tGetR (j := 12) F hK hH (tyb ha0 (all1 rfl)) rfl (all1 rfl) clX6 (by decide) wd_2_11 dX6_full_20 (fun q_17 hq_17 _ => ?_)
        refine lv_aload_n F.1 F.2.1 dX6_full_23 rfl (lv_at hl 0 rfl) ?_
        refine tGetR0 (j := 2) F hK hH (tyb ha0 (all1 rfl)) rfl clX6 (by decide) wd_1_17 dX6_full_24 (fun q_18 hq_18 => ?_)
        refine lv_aload_n F.1 F.2.1 dX6_full_27 rfl (lv_at hl 0 rfl) ?_
        refine tGetR (j := 4) F hK hH (tyb ha0 (all1 rfl)) rfl (all1 rfl) clX6 (by decide) wd_1_22 dX6_full_28 (fun q_19 hq_19 _ => ?_)
        refine tVv (b := q_17) (As := [.ref q_18, .ref q_19]) (rest := []) F hK hN hO (c_X1_begin E (rcD (.inl (t, t)) (.inr kr) (.inr ks) (.inl kb)) rd tp Fa1 Fb1 Fa2 Fb2 Fa3 Fb3 Fa4 Fb4 Pd1 Pd2 Pd3 Pd4 Ps1 Ps2 Ps3 Ps4 Pi1 Pi2 Pi3 Pi4 q_17 q_18 q_19 hq_17 (hkr _ hq_18) hq_19 hFa1 hFb1 hFa2 hFb2 hFa3 hFb3 hFa4 hFb4 hPd1 hPd2 hPd3 hPd4 hPs1 hPs2 hPs3 hPs4 hPi1 hPi2 hPi3 hPi4) mv_X1_begin wd_34_15 ⟨Nat.le_of_ble_eq_true rfl, Nat.le_of_ble_eq_true rfl⟩ ⟨Nat.le_of_ble_eq_true rfl, Nat.le_of_ble_eq_true rfl⟩ hH hS (tRecv hK hH (tyb hq_17 (all1 rfl)) clX1) rfl hl.1 (Nat.le_of_ble_eq_true rfl) dX6_full_31 (fun H locs hq hS => ?_)
        have hH := hq
        have hH : TH E (tbC (dayD (.inl (0, 18))) (dayD (.inl (0, 18))) (riverD (.inl Fa1) (.inl Fb1) (.inl (0, 4)) 31 33 35 39 43 47) (riverD (.inl Fa2) (.inl Fb2) (.inl (0, 4)) 32 34 36 40 44 48) (rcD (.inl (t, t)) (.inr kr) (.inr ks) (.inl kb)) rd tp A14F A14F A4F A4F A14F A14F (riverD (.inl Fa3) (.inl Fb3) (.inl (0, 4)) 3 8 3 41 45 49) (riverD (.inl Fa4) (.inl Fb4) (.inl (0, 4)) 3 8 3 42 46 50) ((.inr (.inl (0, 12, Pd1)))) ((.inr (.inl (0, 12, Pd2)))) ((.inr (.inl (0, 12, Pd3)))) ((.inr (.inl (0, 12, Pd4)))) ((.inr (.inl (0, 12, Ps1)))) ((.inr (.inl (0, 12, Ps2)))) ((.inr (.inl (0, 12, Ps3)))) ((.inr (.inl (0, 12, Ps4)))) ((.inr (.inl (0, 48, Pi1)))) ((.inr (.inl (0, 48, Pi2)))) ((.inr (.inl (0, 48, Pi3)))) ((.inr (.inl (0, 48, Pi4))))) H := hH
        refine lv_aload_n F.1 F.2.1 dX6_full_34 rfl (lv_at hl 0 rfl) ?_
        refine tGetR (j := 12) F hK hH (tyb ha0 (all1 rfl)) rfl (all1 rfl) clX6 (by decide) wd_2_11 dX6_full_35 (fun q_21 hq_21 _ => ?_)
        refine lv_iload_n F.1 F.2.1 dX6_full_38 rfl (lv_at hl 1 rfl) ?_
        refine lv_iload_n F.1 F.2.1 dX6_full_39 rfl (lv_at hl 2 rfl) ?_
        refine z_ne (tgt := 55) F dX6_full_40 (by decide) (fun c_22 => ?_) (fun c_22 => ?_)
        · skip
          have r_23 : 1 ≤ a2.toInt ∧ a2.toInt ≤ 1 := by have h9_ := r_15; omega
          refine lv_iconst (v := 0) F.1 F.2.1 dX6_full_55 (by decide) ?_
          refine topK (a := 0) (by decide) (fun k_25 hk_25 => ?_)
          refine tVi (b := q_21) (As := [.int a1, .int k_25]) (rest := []) F hK hN hO (c_X1_daysUntil E (rcD (.inl (t, t)) (.inr kr) (.inr ks) (.inl kb)) rd tp Fa1 Fb1 Fa2 Fb2 Fa3 Fb3 Fa4 Fb4 Pd1 Pd2 Pd3 Pd4 Ps1 Ps2 Ps3 Ps4 Pi1 Pi2 Pi3 Pi4 q_21 a1 k_25 hq_21 r_7 hFa1 hFb1 hFa2 hFb2 hFa3 hFb3 hFa4 hFb4 hPd1 hPd2 hPd3 hPd4 hPs1 hPs2 hPs3 hPs4 hPi1 hPi2 hPi3 hPi4) mv_X1_daysUntil wd_57_16 ⟨Nat.le_of_ble_eq_true rfl, Nat.le_of_ble_eq_true rfl⟩ ⟨Nat.le_of_ble_eq_true rfl, Nat.le_of_ble_eq_true rfl⟩ hH hS (tRecv hK hH (tyb hq_21 (all1 rfl)) clX1) rfl hl.1 (Nat.le_of_ble_eq_true rfl) dX6_full_56 (fun z_26 H locs hq hS => ?_)
          obtain ⟨f_27, hH⟩ := hq
          have hH : TH E (tbC (dayD (.inl (0, 18))) (dayD (.inl (0, 18))) (riverD (.inl Fa1) (.inl Fb1) (.inl (0, 4)) 31 33 35 39 43 47) (riverD (.inl Fa2) (.inl Fb2) (.inl (0, 4)) 32 34 36 40 44 48) (rcD (.inl (t, t)) (.inr kr) (.inr ks) (.inl kb)) rd tp A14F A14F A4F A4F A14F A14F (riverD (.inl Fa3) (.inl Fb3) (.inl (0, 4)) 3 8 3 41 45 49) (riverD (.inl Fa4) (.inl Fb4) (.inl (0, 4)) 3 8 3 42 46 50) ((.inr (.inl (0, 12, Pd1)))) ((.inr (.inl (0, 12, Pd2)))) ((.inr (.inl (0, 12, Pd3)))) ((.inr (.inl (0, 12, Pd4)))) ((.inr (.inl (0, 12, Ps1)))) ((.inr (.inl (0, 12, Ps2)))) ((.inr (.inl (0, 12, Ps3)))) ((.inr (.inl (0, 12, Ps4)))) ((.inr (.inl (0, 48, Pi1)))) ((.inr (.inl (0, 48, Pi2)))) ((.inr (.inl (0, 48, Pi3)))) ((.inr (.inl (0, 48, Pi4))))) H := hH
          exact txI F hS dX6_full_59 rfl (⟨f_27, hH⟩)
        · skip
          have r_24 : 0 ≤ a2.toInt ∧ a2.toInt ≤ 0 := by have h9_ := r_15; omega
          refine lv_aload_n F.1 F.2.1 dX6_full_43 rfl (lv_at hl 0 rfl) ?_
          refine tGetR0 (j := 2) F hK hH (tyb ha0 (all1 rfl)) rfl clX6 (by decide) wd_1_17 dX6_full_44 (fun q_28 hq_28 => ?_)
          refine tGetRM (j := 16) (L := [8]) F hK hH (hkr _ hq_28) (alls ⟨_, _, rfl, rfl, by decide⟩ (alls1 ⟨_, _, rfl, rfl, by decide⟩)) (all1 rfl) clX2 (by decide) wd_41_18 dX6_full_47 (fun q_29 hq_29 _ => ?_)
          refine lv_iload_n F.1 F.2.1 dX6_full_50 rfl (lv_at hl 1 rfl) ?_
          refine tIaldB F hK hH (tyb hq_29 (all1 rfl)) (ixb (n := 4) r_7 rfl rfl) dX6_full_51 (fun z_30 hz_30 => ?_)
          refine lv_goto (tgt := 56) F.1 F.2.1 dX6_full_52 (by decide) ?_
          refine tVi (b := q_21) (As := [.int a1, .int z_30]) (rest := []) F hK hN hO (c_X1_daysUntil E (rcD (.inl (t, t)) (.inr kr) (.inr ks) (.inl kb)) rd tp Fa1 Fb1 Fa2 Fb2 Fa3 Fb3 Fa4 Fb4 Pd1 Pd2 Pd3 Pd4 Ps1 Ps2 Ps3 Ps4 Pi1 Pi2 Pi3 Pi4 q_21 a1 z_30 hq_21 r_7 hFa1 hFb1 hFa2 hFb2 hFa3 hFb3 hFa4 hFb4 hPd1 hPd2 hPd3 hPd4 hPs1 hPs2 hPs3 hPs4 hPi1 hPi2 hPi3 hPi4) mv_X1_daysUntil wd_57_16 ⟨Nat.le_of_ble_eq_true rfl, Nat.le_of_ble_eq_true rfl⟩ ⟨Nat.le_of_ble_eq_true rfl, Nat.le_of_ble_eq_true rfl⟩ hH hS (tRecv hK hH (tyb hq_21 (all1 rfl)) clX1) rfl hl.1 (Nat.le_of_ble_eq_true rfl) dX6_full_56 (fun z_31 H locs hq hS => ?_)
          obtain ⟨f_32, hH⟩ := hq
          have hH : TH E (tbC (dayD (.inl (0, 18))) (dayD (.inl (0, 18))) (riverD (.inl Fa1) (.inl Fb1) (.inl (0, 4)) 31 33 35 39 43 47) (riverD (.inl Fa2) (.inl Fb2) (.inl (0, 4)) 32 34 36 40 44 48) (rcD (.inl (t, t)) (.inr kr) (.inr ks) (.inl kb)) rd tp A14F A14F A4F A4F A14F A14F (riverD (.inl Fa3) (.inl Fb3) (.inl (0, 4)) 3 8 3 41 45 49) (riverD (.inl Fa4) (.inl Fb4) (.inl (0, 4)) 3 8 3 42 46 50) ((.inr (.inl (0, 12, Pd1)))) ((.inr (.inl (0, 12, Pd2)))) ((.inr (.inl (0, 12, Pd3)))) ((.inr (.inl (0, 12, Pd4)))) ((.inr (.inl (0, 12, Ps1)))) ((.inr (.inl (0, 12, Ps2)))) ((.inr (.inl (0, 12, Ps3)))) ((.inr (.inl (0, 12, Ps4)))) ((.inr (.inl (0, 48, Pi1)))) ((.inr (.inl (0, 48, Pi2)))) ((.inr (.inl (0, 48, Pi3)))) ((.inr (.inl (0, 48, Pi4))))) H := hH
          exact txI F hS dX6_full_59 rfl (⟨f_32, hH⟩)
      · skip
        have r_16 : 2 ≤ a2.toInt ∧ a2.toInt ≤ 2147483647 := by have h9_ := r_11; omega
        refine lv_iconst (v := (-1)) F.1 F.2.1 dX6_full_17 (by decide) ?_
        refine topK (a := (-1)) (by decide) (fun k_33 hk_33 => ?_)
        exact txI F hS dX6_full_18 rfl (⟨(wkb (eqb hk_33) rfl rfl), hH⟩)
set_option maxHeartbeats 4000000 in
set_option maxRecDepth 100000 in
theorem c_X6_swap (E : Ev) (rd : TD) (tp : TD) (kb : Int × Int) (Fa1 : Int × Int) (Fb1 : Int × Int) (Fa2 : Int × Int) (Fb2 : Int × Int) (Fa3 : Int × Int) (Fb3 : Int × Int) (Fa4 : Int × Int) (Fb4 : Int × Int) (kr : List Nat) (ks : List Nat) (Pd1 : (Nat → Int32) → Prop) (Pd2 : (Nat → Int32) → Prop) (Pd3 : (Nat → Int32) → Prop) (Pd4 : (Nat → Int32) → Prop) (Ps1 : (Nat → Int32) → Prop) (Ps2 : (Nat → Int32) → Prop) (Ps3 : (Nat → Int32) → Prop) (Ps4 : (Nat → Int32) → Prop) (Pi1 : (Nat → Int32) → Prop) (Pi2 : (Nat → Int32) → Prop) (Pi3 : (Nat → Int32) → Prop) (Pi4 : (Nat → Int32) → Prop) (t : Int) (a0 : Nat) (a1 : Int32) (a2 : Int32) (a3 : Int32) (a4 : Int32) (ha0 : eT E a0 ∈ [28]) (ht : 0 ≤ t ∧ t ≤ 400) (hFa1 : 0 ≤ Fa1.1 ∧ Fa1.2 ≤ 12) (hFb1 : 0 ≤ Fb1.1 ∧ Fb1.2 ≤ 14) (hFa2 : 0 ≤ Fa2.1 ∧ Fa2.2 ≤ 12) (hFb2 : 0 ≤ Fb2.1 ∧ Fb2.2 ≤ 14) (hFa3 : 0 ≤ Fa3.1 ∧ Fa3.2 ≤ 12) (hFb3 : 0 ≤ Fb3.1 ∧ Fb3.2 ≤ 14) (hFa4 : 0 ≤ Fa4.1 ∧ Fa4.2 ≤ 12) (hFb4 : 0 ≤ Fb4.1 ∧ Fb4.2 ≤ 14) (hkr : ∀ t ∈ kr, t ∈ [26, 27]) (hks : ∀ t ∈ ks, t ∈ [26, 27]) (hPd1 : ∀ f, Pd1 f → ivP 12 (-2) 11 f) (hPd2 : ∀ f, Pd2 f → ivP 12 (-2) 11 f) (hPd3 : ∀ f, Pd3 f → ivP 12 (-2) 11 f) (hPd4 : ∀ f, Pd4 f → ivP 12 (-2) 11 f) (hPs1 : ∀ f, Ps1 f → ivP 12 (-2147483648) 2147483647 f) (hPs2 : ∀ f, Ps2 f → ivP 12 (-2147483648) 2147483647 f) (hPs3 : ∀ f, Ps3 f → ivP 12 (-2147483648) 2147483647 f) (hPs4 : ∀ f, Ps4 f → ivP 12 (-2147483648) 2147483647 f) (hPi1 : ∀ f, Pi1 f → ivP 48 (-2147483648) 2147483647 f) (hPi2 : ∀ f, Pi2 f → ivP 48 (-2147483648) 2147483647 f) (hPi3 : ∀ f, Pi3 f → ivP 48 (-2147483648) 2147483647 f) (hPi4 : ∀ f, Pi4 f → ivP 48 (-2147483648) 2147483647 f) : TcI E yX6_swap cX6_swap 7 .int ({ frames := 6, cells := 0, slots := 0, locals := 163 }) [.ref a0, .int a1, .int a2, .int a3, .int a4] (fun H => TH E (tbC (dayD (.inl (0, 18))) (dayD (.inl (0, 18))) (riverD (.inl Fa1) (.inl Fb1) (.inl (0, 4)) 31 33 35 39 43 47) (riverD (.inl Fa2) (.inl Fb2) (.inl (0, 4)) 32 34 36 40 44 48) (rcD (.inl (t, t)) (.inr kr) (.inr ks) (.inl kb)) rd tp A14F A14F A4F A4F A14F A14F (riverD (.inl Fa3) (.inl Fb3) (.inl (0, 4)) 3 8 3 41 45 49) (riverD (.inl Fa4) (.inl Fb4) (.inl (0, 4)) 3 8 3 42 46 50) ((.inr (.inl (0, 12, Pd1)))) ((.inr (.inl (0, 12, Pd2)))) ((.inr (.inl (0, 12, Pd3)))) ((.inr (.inl (0, 12, Pd4)))) ((.inr (.inl (0, 12, Ps1)))) ((.inr (.inl (0, 12, Ps2)))) ((.inr (.inl (0, 12, Ps3)))) ((.inr (.inl (0, 12, Ps4)))) ((.inr (.inl (0, 48, Pi1)))) ((.inr (.inl (0, 48, Pi2)))) ((.inr (.inl (0, 48, Pi3)))) ((.inr (.inl (0, 48, Pi4))))) H) (fun v H => ((-2147483648) ≤ v.toInt ∧ v.toInt ≤ 2147483647) ∧ TH E (tbC (dayD (.inl (0, 18))) (dayD (.inl (0, 18))) (riverD (.inl Fa1) (.inl Fb1) (.inl (0, 4)) 31 33 35 39 43 47) (riverD (.inl Fa2) (.inl Fb2) (.inl (0, 4)) 32 34 36 40 44 48) (rcD (.inl (t, t)) (.inr kr) (.inr ks) (.inl kb)) rd tp A14F A14F A4F A4F A14F A14F (riverD (.inl Fa3) (.inl Fb3) (.inl (0, 4)) 3 8 3 41 45 49) (riverD (.inl Fa4) (.inl Fb4) (.inl (0, 4)) 3 8 3 42 46 50) ((.inr (.inl (0, 12, Pd1)))) ((.inr (.inl (0, 12, Pd2)))) ((.inr (.inl (0, 12, Pd3)))) ((.inr (.inl (0, 12, Pd4)))) ((.inr (.inl (0, 12, Ps1)))) ((.inr (.inl (0, 12, Ps2)))) ((.inr (.inl (0, 12, Ps3)))) ((.inr (.inl (0, 12, Ps4)))) ((.inr (.inl (0, 48, Pi1)))) ((.inr (.inl (0, 48, Pi2)))) ((.inr (.inl (0, 48, Pi3)))) ((.inr (.inl (0, 48, Pi4))))) H) := by
  refine teI (by decide) (Nat.le_of_ble_eq_true rfl) ?_
  intro p_ ev_ s mi_ below_ meth cd_ ls F hK hN hO hH hS hl
  have hH : TH E (tbC (dayD (.inl (0, 18))) (dayD (.inl (0, 18))) (riverD (.inl Fa1) (.inl Fb1) (.inl (0, 4)) 31 33 35 39 43 47) (riverD (.inl Fa2) (.inl Fb2) (.inl (0, 4)) 32 34 36 40 44 48) (rcD (.inl (t, t)) (.inr kr) (.inr ks) (.inl kb)) rd tp A14F A14F A4F A4F A14F A14F (riverD (.inl Fa3) (.inl Fb3) (.inl (0, 4)) 3 8 3 41 45 49) (riverD (.inl Fa4) (.inl Fb4) (.inl (0, 4)) 3 8 3 42 46 50) ((.inr (.inl (0, 12, Pd1)))) ((.inr (.inl (0, 12, Pd2)))) ((.inr (.inl (0, 12, Pd3)))) ((.inr (.inl (0, 12, Pd4)))) ((.inr (.inl (0, 12, Ps1)))) ((.inr (.inl (0, 12, Ps2)))) ((.inr (.inl (0, 12, Ps3)))) ((.inr (.inl (0, 12, Ps4)))) ((.inr (.inl (0, 48, Pi1)))) ((.inr (.inl (0, 48, Pi2)))) ((.inr (.inl (0, 48, Pi3)))) ((.inr (.inl (0, 48, Pi4))))) s.heap := hH
  have hl : lv_has ls 7 [(0, .ref a0), (1, .int a1), (2, .int a2), (3, .int a3), (4, .int a4)] := hl
  refine lv_aload_n F.1 F.2.1 dX6_swap_0 rfl (lv_at hl 0 rfl) ?_
  refine lv_iload_n F.1 F.2.1 dX6_swap_1 rfl (lv_at hl 1 rfl) ?_
  refine lv_iload_n F.1 F.2.1 dX6_swap_2 rfl (lv_at hl 2 rfl) ?_
  refine tVi (b := a0) (As := [.int a1, .int a2]) (rest := []) F hK hN hO (c_X6_areTwoRights E rd tp kb Fa1 Fb1 Fa2 Fb2 Fa3 Fb3 Fa4 Fb4 kr ks Pd1 Pd2 Pd3 Pd4 Ps1 Ps2 Ps3 Ps4 Pi1 Pi2 Pi3 Pi4 t a0 a1 a2 ha0 (by omega) hFa1 hFb1 hFa2 hFb2 hFa3 hFb3 hFa4 hFb4 hkr hks hPd1 hPd2 hPd3 hPd4 hPs1 hPs2 hPs3 hPs4 hPi1 hPi2 hPi3 hPi4) mv_X6_areTwoRights wd_33_14 ⟨Nat.le_of_ble_eq_true rfl, Nat.le_of_ble_eq_true rfl⟩ ⟨Nat.le_of_ble_eq_true rfl, Nat.le_of_ble_eq_true rfl⟩ hH hS (tRecv hK hH (tyb ha0 (all1 rfl)) clX6) rfl hl.1 (Nat.le_of_ble_eq_true rfl) dX6_swap_3 (fun z_1 H locs hq hS => ?_)
  obtain ⟨f_2, f_3, f_4, hH⟩ := hq
  have hH : TH E (tbC (dayD (.inl (0, 18))) (dayD (.inl (0, 18))) (riverD (.inl Fa1) (.inl Fb1) (.inl (0, 4)) 31 33 35 39 43 47) (riverD (.inl Fa2) (.inl Fb2) (.inl (0, 4)) 32 34 36 40 44 48) (rcD (.inl (t, t)) (.inr kr) (.inr ks) (.inl kb)) rd tp A14F A14F A4F A4F A14F A14F (riverD (.inl Fa3) (.inl Fb3) (.inl (0, 4)) 3 8 3 41 45 49) (riverD (.inl Fa4) (.inl Fb4) (.inl (0, 4)) 3 8 3 42 46 50) ((.inr (.inl (0, 12, Pd1)))) ((.inr (.inl (0, 12, Pd2)))) ((.inr (.inl (0, 12, Pd3)))) ((.inr (.inl (0, 12, Pd4)))) ((.inr (.inl (0, 12, Ps1)))) ((.inr (.inl (0, 12, Ps2)))) ((.inr (.inl (0, 12, Ps3)))) ((.inr (.inl (0, 12, Ps4)))) ((.inr (.inl (0, 48, Pi1)))) ((.inr (.inl (0, 48, Pi2)))) ((.inr (.inl (0, 48, Pi3)))) ((.inr (.inl (0, 48, Pi4))))) H := hH
  refine z_eq (tgt := 27) F dX6_swap_6 (by decide) (fun c_5 => ?_) (fun c_5 => ?_)
  · skip
    have r_6 : 0 ≤ z_1.toInt ∧ z_1.toInt ≤ 0 := by have h9_ := f_2; omega
    refine lv_ldcw (own := RX6) (v := (-2147483648)) F.1 F.2.1 F.2.2.2.2.1 (F.2.2.2.2.2.2.1 _ wd_48_3) dX6_swap_27 ?_
    refine topK (a := (-2147483648)) (by decide) (fun k_10 hk_10 => ?_)
    exact txI F hS dX6_swap_30 rfl (⟨(wkb (eqb hk_10) rfl rfl), hH⟩)
  · skip
    have r_7 : 1 ≤ z_1.toInt ∧ z_1.toInt ≤ 1 := by have h9_ := f_2; omega
    have r_8 : 0 ≤ a1.toInt ∧ a1.toInt ≤ 13 := by have h9_ := (i32b a1); omega
    have r_9 : 0 ≤ a2.toInt ∧ a2.toInt ≤ 13 := by have h9_ := (i32b a2); omega
    refine lv_iload_n F.1 F.2.1 dX6_swap_9 rfl (lv_at hl 3 rfl) ?_
    refine tSi (As := [.int a3]) (rest := []) F hK hN hO (c_X6_isSpan E (dayD (.inl (0, 18))) (dayD (.inl (0, 18))) (riverD (.inl Fa1) (.inl Fb1) (.inl (0, 4)) 31 33 35 39 43 47) (riverD (.inl Fa2) (.inl Fb2) (.inl (0, 4)) 32 34 36 40 44 48) (rcD (.inl (t, t)) (.inr kr) (.inr ks) (.inl kb)) rd tp A14F A14F A4F A4F A14F A14F (riverD (.inl Fa3) (.inl Fb3) (.inl (0, 4)) 3 8 3 41 45 49) (riverD (.inl Fa4) (.inl Fb4) (.inl (0, 4)) 3 8 3 42 46 50) ((.inr (.inl (0, 12, Pd1)))) ((.inr (.inl (0, 12, Pd2)))) ((.inr (.inl (0, 12, Pd3)))) ((.inr (.inl (0, 12, Pd4)))) ((.inr (.inl (0, 12, Ps1)))) ((.inr (.inl (0, 12, Ps2)))) ((.inr (.inl (0, 12, Ps3)))) ((.inr (.inl (0, 12, Ps4)))) ((.inr (.inl (0, 48, Pi1)))) ((.inr (.inl (0, 48, Pi2)))) ((.inr (.inl (0, 48, Pi3)))) ((.inr (.inl (0, 48, Pi4)))) a3) ms_X6_isSpan wd_47_14 ⟨Nat.le_of_ble_eq_true rfl, Nat.le_of_ble_eq_true rfl⟩ ⟨Nat.le_of_ble_eq_true rfl, Nat.le_of_ble_eq_true rfl⟩ hH hS rfl hl.1 (Nat.le_of_ble_eq_true rfl) dX6_swap_10 (fun z_11 H locs hq hS => ?_)
    obtain ⟨f_12, f_13, hH⟩ := hq
    have hH : TH E (tbC (dayD (.inl (0, 18))) (dayD (.inl (0, 18))) (riverD (.inl Fa1) (.inl Fb1) (.inl (0, 4)) 31 33 35 39 43 47) (riverD (.inl Fa2) (.inl Fb2) (.inl (0, 4)) 32 34 36 40 44 48) (rcD (.inl (t, t)) (.inr kr) (.inr ks) (.inl kb)) rd tp A14F A14F A4F A4F A14F A14F (riverD (.inl Fa3) (.inl Fb3) (.inl (0, 4)) 3 8 3 41 45 49) (riverD (.inl Fa4) (.inl Fb4) (.inl (0, 4)) 3 8 3 42 46 50) ((.inr (.inl (0, 12, Pd1)))) ((.inr (.inl (0, 12, Pd2)))) ((.inr (.inl (0, 12, Pd3)))) ((.inr (.inl (0, 12, Pd4)))) ((.inr (.inl (0, 12, Ps1)))) ((.inr (.inl (0, 12, Ps2)))) ((.inr (.inl (0, 12, Ps3)))) ((.inr (.inl (0, 12, Ps4)))) ((.inr (.inl (0, 48, Pi1)))) ((.inr (.inl (0, 48, Pi2)))) ((.inr (.inl (0, 48, Pi3)))) ((.inr (.inl (0, 48, Pi4))))) H := hH
    refine z_eq (tgt := 27) F dX6_swap_13 (by decide) (fun c_14 => ?_) (fun c_14 => ?_)
    · skip
      have r_15 : 0 ≤ z_11.toInt ∧ z_11.toInt ≤ 0 := by have h9_ := f_12; omega
      refine lv_ldcw (own := RX6) (v := (-2147483648)) F.1 F.2.1 F.2.2.2.2.1 (F.2.2.2.2.2.2.1 _ wd_48_3) dX6_swap_27 ?_
      refine topK (a := (-2147483648)) (by decide) (fun k_18 hk_18 => ?_)
      exact txI F hS dX6_swap_30 rfl (⟨(wkb (eqb hk_18) rfl rfl), hH⟩)
    · skip
      have r_16 : 1 ≤ z_11.toInt ∧ z_11.toInt ≤ 1 := by have h9_ := f_12; omega
      have r_17 : 1 ≤ a3.toInt ∧ a3.toInt ≤ 360 := by have h9_ := (i32b a3); omega
      refine lv_iload F.1 F.2.1 dX6_swap_16 (lv_at hl 4 rfl) ?_
      refine z_lt (tgt := 27) F dX6_swap_18 (by decide) (fun c_19 => ?_) (fun c_19 => ?_)
      · skip
        have r_20 : (-2147483648) ≤ a4.toInt ∧ a4.toInt ≤ (-1) := by have h9_ := (i32b a4); omega
        refine lv_ldcw (own := RX6) (v := (-2147483648)) F.1 F.2.1 F.2.2.2.2.1 (F.2.2.2.2.2.2.1 _ wd_48_3) dX6_swap_27 ?_
        refine topK (a := (-2147483648)) (by decide) (fun k_22 hk_22 => ?_)
        exact txI F hS dX6_swap_30 rfl (⟨(wkb (eqb hk_22) rfl rfl), hH⟩)
      · skip
        have r_21 : 0 ≤ a4.toInt ∧ a4.toInt ≤ 2147483647 := by have h9_ := (i32b a4); omega
        refine lv_iload F.1 F.2.1 dX6_swap_21 (lv_at hl 4 rfl) ?_
        refine lv_iconst (v := 1) F.1 F.2.1 dX6_swap_23 (by decide) ?_
        refine topK (a := 1) (by decide) (fun k_23 hk_23 => ?_)
        refine b_le (tgt := 31) F dX6_swap_24 (by decide) (fun c_24 => ?_) (fun c_24 => ?_)
        · skip
          have r_25 : 0 ≤ a4.toInt ∧ a4.toInt ≤ 1 := by have h9_ := r_21; omega
          refine lv_iload F.1 F.2.1 dX6_swap_31 (lv_at hl 4 rfl) ?_
          refine wjoin (σ := Int32) (pcj := 41) (stj := fun x9 => [.int x9]) (fun x9 H locs ls => (0 ≤ x9.toInt ∧ x9.toInt ≤ 13) ∧ TH E (tbC (dayD (.inl (0, 18))) (dayD (.inl (0, 18))) (riverD (.inl Fa1) (.inl Fb1) (.inl (0, 4)) 31 33 35 39 43 47) (riverD (.inl Fa2) (.inl Fb2) (.inl (0, 4)) 32 34 36 40 44 48) (rcD (.inl (t, t)) (.inr kr) (.inr ks) (.inl kb)) rd tp A14F A14F A4F A4F A14F A14F (riverD (.inl Fa3) (.inl Fb3) (.inl (0, 4)) 3 8 3 41 45 49) (riverD (.inl Fa4) (.inl Fb4) (.inl (0, 4)) 3 8 3 42 46 50) ((.inr (.inl (0, 12, Pd1)))) ((.inr (.inl (0, 12, Pd2)))) ((.inr (.inl (0, 12, Pd3)))) ((.inr (.inl (0, 12, Pd4)))) ((.inr (.inl (0, 12, Ps1)))) ((.inr (.inl (0, 12, Ps2)))) ((.inr (.inl (0, 12, Ps3)))) ((.inr (.inl (0, 12, Ps4)))) ((.inr (.inl (0, 48, Pi1)))) ((.inr (.inl (0, 48, Pi2)))) ((.inr (.inl (0, 48, Pi3)))) ((.inr (.inl (0, 48, Pi4))))) H ∧ va_S (eA E s.heap.size) s.heap H locs ∧ lv_has ls 7 [(0, .ref a0), (1, .int a1), (2, .int a2), (3, .int a3)]) (fun u_27 H locs ls h_ => ?_) (fun J_41 => ?_)
          · skip
            obtain ⟨hu_27, hH, hS, hl⟩ := h_
            have hu_27 : (0 ≤ u_27.toInt ∧ u_27.toInt ≤ 13) := hu_27
            have hH : TH E (tbC (dayD (.inl (0, 18))) (dayD (.inl (0, 18))) (riverD (.inl Fa1) (.inl Fb1) (.inl (0, 4)) 31 33 35 39 43 47) (riverD (.inl Fa2) (.inl Fb2) (.inl (0, 4)) 32 34 36 40 44 48) (rcD (.inl (t, t)) (.inr kr) (.inr ks) (.inl kb)) rd tp A14F A14F A4F A4F A14F A14F (riverD (.inl Fa3) (.inl Fb3) (.inl (0, 4)) 3 8 3 41 45 49) (riverD (.inl Fa4) (.inl Fb4) (.inl (0, 4)) 3 8 3 42 46 50) ((.inr (.inl (0, 12, Pd1)))) ((.inr (.inl (0, 12, Pd2)))) ((.inr (.inl (0, 12, Pd3)))) ((.inr (.inl (0, 12, Pd4)))) ((.inr (.inl (0, 12, Ps1)))) ((.inr (.inl (0, 12, Ps2)))) ((.inr (.inl (0, 12, Ps3)))) ((.inr (.inl (0, 12, Ps4)))) ((.inr (.inl (0, 48, Pi1)))) ((.inr (.inl (0, 48, Pi2)))) ((.inr (.inl (0, 48, Pi3)))) ((.inr (.inl (0, 48, Pi4))))) H := hH
            have hl : lv_has ls 7 [(0, .ref a0), (1, .int a1), (2, .int a2), (3, .int a3)] := hl
            show W _ _ _ _ _ _ _ _ _ _ _ _ _ _ _ (F0 _ _ _ [.int u_27])
            refine lv_istore (lv' := [(5, .int u_27), (0, .ref a0), (1, .int a1), (2, .int a2), (3, .int a3)]) F.1 F.2.1 dX6_swap_41 hl (by decide) rfl (fun ls hl => ?_)
            refine lv_aload_n F.1 F.2.1 dX6_swap_43 rfl (lv_at hl 1 rfl) ?_
            refine tGetR (j := 12) F hK hH (tyb ha0 (all1 rfl)) rfl (all1 rfl) clX6 (by decide) wd_2_11 dX6_swap_44 (fun q_28 hq_28 _ => ?_)
            refine lv_aload_n F.1 F.2.1 dX6_swap_47 rfl (lv_at hl 1 rfl) ?_
            refine tGetR0 (j := 2) F hK hH (tyb ha0 (all1 rfl)) rfl clX6 (by decide) wd_1_17 dX6_swap_48 (fun q_29 hq_29 => ?_)
            refine lv_aload_n F.1 F.2.1 dX6_swap_51 rfl (lv_at hl 1 rfl) ?_
            refine tGetR (j := 4) F hK hH (tyb ha0 (all1 rfl)) rfl (all1 rfl) clX6 (by decide) wd_1_22 dX6_swap_52 (fun q_30 hq_30 _ => ?_)
            refine tVv (b := q_28) (As := [.ref q_29, .ref q_30]) (rest := []) F hK hN hO (c_X1_begin E (rcD (.inl (t, t)) (.inr kr) (.inr ks) (.inl kb)) rd tp Fa1 Fb1 Fa2 Fb2 Fa3 Fb3 Fa4 Fb4 Pd1 Pd2 Pd3 Pd4 Ps1 Ps2 Ps3 Ps4 Pi1 Pi2 Pi3 Pi4 q_28 q_29 q_30 hq_28 (hkr _ hq_29) hq_30 hFa1 hFb1 hFa2 hFb2 hFa3 hFb3 hFa4 hFb4 hPd1 hPd2 hPd3 hPd4 hPs1 hPs2 hPs3 hPs4 hPi1 hPi2 hPi3 hPi4) mv_X1_begin wd_34_15 ⟨Nat.le_of_ble_eq_true rfl, Nat.le_of_ble_eq_true rfl⟩ ⟨Nat.le_of_ble_eq_true rfl, Nat.le_of_ble_eq_true rfl⟩ hH hS (tRecv hK hH (tyb hq_28 (all1 rfl)) clX1) rfl hl.1 (Nat.le_of_ble_eq_true rfl) dX6_swap_55 (fun H locs hq hS => ?_)
            have hH := hq
            have hH : TH E (tbC (dayD (.inl (0, 18))) (dayD (.inl (0, 18))) (riverD (.inl Fa1) (.inl Fb1) (.inl (0, 4)) 31 33 35 39 43 47) (riverD (.inl Fa2) (.inl Fb2) (.inl (0, 4)) 32 34 36 40 44 48) (rcD (.inl (t, t)) (.inr kr) (.inr ks) (.inl kb)) rd tp A14F A14F A4F A4F A14F A14F (riverD (.inl Fa3) (.inl Fb3) (.inl (0, 4)) 3 8 3 41 45 49) (riverD (.inl Fa4) (.inl Fb4) (.inl (0, 4)) 3 8 3 42 46 50) ((.inr (.inl (0, 12, Pd1)))) ((.inr (.inl (0, 12, Pd2)))) ((.inr (.inl (0, 12, Pd3)))) ((.inr (.inl (0, 12, Pd4)))) ((.inr (.inl (0, 12, Ps1)))) ((.inr (.inl (0, 12, Ps2)))) ((.inr (.inl (0, 12, Ps3)))) ((.inr (.inl (0, 12, Ps4)))) ((.inr (.inl (0, 48, Pi1)))) ((.inr (.inl (0, 48, Pi2)))) ((.inr (.inl (0, 48, Pi3)))) ((.inr (.inl (0, 48, Pi4))))) H := hH
            refine lv_aload_n F.1 F.2.1 dX6_swap_58 rfl (lv_at hl 1 rfl) ?_
            refine tGetR (j := 12) F hK hH (tyb ha0 (all1 rfl)) rfl (all1 rfl) clX6 (by decide) wd_2_11 dX6_swap_59 (fun q_32 hq_32 _ => ?_)
            refine lv_iload_n F.1 F.2.1 dX6_swap_62 rfl (lv_at hl 4 rfl) ?_
            refine lv_iload F.1 F.2.1 dX6_swap_63 (lv_at hl 0 rfl) ?_
            refine tVv (b := q_32) (As := [.int a3, .int u_27]) (rest := []) F hK hN hO (c_X1_run E (rcD (.inl (t, t)) (.inr kr) (.inr ks) (.inl kb)) rd tp Fa1 Fb1 Fa2 Fb2 Fa3 Fb3 Fa4 Fb4 Pd1 Pd2 Pd3 Pd4 Ps1 Ps2 Ps3 Ps4 Pi1 Pi2 Pi3 Pi4 q_32 a3 u_27 hq_32 r_17 hFa1 hFb1 hFa2 hFb2 hFa3 hFb3 hFa4 hFb4 hPd1 hPd2 hPd3 hPd4 hPs1 hPs2 hPs3 hPs4 hPi1 hPi2 hPi3 hPi4) mv_X1_run wd_35_2 ⟨Nat.le_of_ble_eq_true rfl, Nat.le_of_ble_eq_true rfl⟩ ⟨Nat.le_of_ble_eq_true rfl, Nat.le_of_ble_eq_true rfl⟩ hH hS (tRecv hK hH (tyb hq_32 (all1 rfl)) clX1) rfl hl.1 (Nat.le_of_ble_eq_true rfl) dX6_swap_65 (fun H locs hq hS => ?_)
            have hH := hq
            have hH : TH E (tbC (dayD (.inl (0, 18))) (dayD (.inl (0, 18))) (riverD (.inl Fa1) (.inl Fb1) (.inl (0, 4)) 31 33 35 39 43 47) (riverD (.inl Fa2) (.inl Fb2) (.inl (0, 4)) 32 34 36 40 44 48) (rcD (.inl (t, t)) (.inr kr) (.inr ks) (.inl kb)) rd tp A14F A14F A4F A4F A14F A14F (riverD (.inl Fa3) (.inl Fb3) (.inl (0, 4)) 3 8 3 41 45 49) (riverD (.inl Fa4) (.inl Fb4) (.inl (0, 4)) 3 8 3 42 46 50) ((.inr (.inl (0, 12, Pd1)))) ((.inr (.inl (0, 12, Pd2)))) ((.inr (.inl (0, 12, Pd3)))) ((.inr (.inl (0, 12, Pd4)))) ((.inr (.inl (0, 12, Ps1)))) ((.inr (.inl (0, 12, Ps2)))) ((.inr (.inl (0, 12, Ps3)))) ((.inr (.inl (0, 12, Ps4)))) ((.inr (.inl (0, 48, Pi1)))) ((.inr (.inl (0, 48, Pi2)))) ((.inr (.inl (0, 48, Pi3)))) ((.inr (.inl (0, 48, Pi4))))) H := hH
            refine lv_aload_n F.1 F.2.1 dX6_swap_68 rfl (lv_at hl 1 rfl) ?_
            refine tGetR (j := 12) F hK hH (tyb ha0 (all1 rfl)) rfl (all1 rfl) clX6 (by decide) wd_2_11 dX6_swap_69 (fun q_34 hq_34 _ => ?_)
            refine lv_iload F.1 F.2.1 dX6_swap_72 (lv_at hl 0 rfl) ?_
            refine tVi (b := q_34) (As := [.int u_27]) (rest := []) F hK hN hO (c_X1_tookOf E (rcD (.inl (t, t)) (.inr kr) (.inr ks) (.inl kb)) rd tp Fa1 Fb1 Fa2 Fb2 Fa3 Fb3 Fa4 Fb4 Pd1 Pd2 Pd3 Pd4 Ps1 Ps2 Ps3 Ps4 Pi1 Pi2 Pi3 Pi4 q_34 u_27 hq_34 hu_27 hFa1 hFb1 hFa2 hFb2 hFa3 hFb3 hFa4 hFb4 hPd1 hPd2 hPd3 hPd4 hPs1 hPs2 hPs3 hPs4 hPi1 hPi2 hPi3 hPi4) mv_X1_tookOf wd_36_13 ⟨Nat.le_of_ble_eq_true rfl, Nat.le_of_ble_eq_true rfl⟩ ⟨Nat.le_of_ble_eq_true rfl, Nat.le_of_ble_eq_true rfl⟩ hH hS (tRecv hK hH (tyb hq_34 (all1 rfl)) clX1) rfl hl.1 (Nat.le_of_ble_eq_true rfl) dX6_swap_74 (fun z_35 H locs hq hS => ?_)
            obtain ⟨f_36, hH⟩ := hq
            have hH : TH E (tbC (dayD (.inl (0, 18))) (dayD (.inl (0, 18))) (riverD (.inl Fa1) (.inl Fb1) (.inl (0, 4)) 31 33 35 39 43 47) (riverD (.inl Fa2) (.inl Fb2) (.inl (0, 4)) 32 34 36 40 44 48) (rcD (.inl (t, t)) (.inr kr) (.inr ks) (.inl kb)) rd tp A14F A14F A4F A4F A14F A14F (riverD (.inl Fa3) (.inl Fb3) (.inl (0, 4)) 3 8 3 41 45 49) (riverD (.inl Fa4) (.inl Fb4) (.inl (0, 4)) 3 8 3 42 46 50) ((.inr (.inl (0, 12, Pd1)))) ((.inr (.inl (0, 12, Pd2)))) ((.inr (.inl (0, 12, Pd3)))) ((.inr (.inl (0, 12, Pd4)))) ((.inr (.inl (0, 12, Ps1)))) ((.inr (.inl (0, 12, Ps2)))) ((.inr (.inl (0, 12, Ps3)))) ((.inr (.inl (0, 12, Ps4)))) ((.inr (.inl (0, 48, Pi1)))) ((.inr (.inl (0, 48, Pi2)))) ((.inr (.inl (0, 48, Pi3)))) ((.inr (.inl (0, 48, Pi4))))) H := hH
            refine lv_istore (lv' := [(6, .int z_35), (5, .int u_27), (0, .ref a0), (1, .int a1), (2, .int a2), (3, .int a3)]) F.1 F.2.1 dX6_swap_77 hl (by decide) rfl (fun ls hl => ?_)
            refine lv_aload_n F.1 F.2.1 dX6_swap_79 rfl (lv_at hl 2 rfl) ?_
            refine tGetR (j := 12) F hK hH (tyb ha0 (all1 rfl)) rfl (all1 rfl) clX6 (by decide) wd_2_11 dX6_swap_80 (fun q_37 hq_37 _ => ?_)
            refine lv_aload_n F.1 F.2.1 dX6_swap_83 rfl (lv_at hl 2 rfl) ?_
            refine tGetR0 (j := 2) F hK hH (tyb ha0 (all1 rfl)) rfl clX6 (by decide) wd_1_17 dX6_swap_84 (fun q_38 hq_38 => ?_)
            refine lv_aload_n F.1 F.2.1 dX6_swap_87 rfl (lv_at hl 2 rfl) ?_
            refine tGetR (j := 4) F hK hH (tyb ha0 (all1 rfl)) rfl (all1 rfl) clX6 (by decide) wd_1_22 dX6_swap_88 (fun q_39 hq_39 _ => ?_)
            refine tVv (b := q_37) (As := [.ref q_38, .ref q_39]) (rest := []) F hK hN hO (c_X1_begin E (rcD (.inl (t, t)) (.inr kr) (.inr ks) (.inl kb)) rd tp Fa1 Fb1 Fa2 Fb2 Fa3 Fb3 Fa4 Fb4 Pd1 Pd2 Pd3 Pd4 Ps1 Ps2 Ps3 Ps4 Pi1 Pi2 Pi3 Pi4 q_37 q_38 q_39 hq_37 (hkr _ hq_38) hq_39 hFa1 hFb1 hFa2 hFb2 hFa3 hFb3 hFa4 hFb4 hPd1 hPd2 hPd3 hPd4 hPs1 hPs2 hPs3 hPs4 hPi1 hPi2 hPi3 hPi4) mv_X1_begin wd_34_15 ⟨Nat.le_of_ble_eq_true rfl, Nat.le_of_ble_eq_true rfl⟩ ⟨Nat.le_of_ble_eq_true rfl, Nat.le_of_ble_eq_true rfl⟩ hH hS (tRecv hK hH (tyb hq_37 (all1 rfl)) clX1) rfl hl.1 (Nat.le_of_ble_eq_true rfl) dX6_swap_91 (fun H locs hq hS => ?_)
            have hH := hq
            have hH : TH E (tbC (dayD (.inl (0, 18))) (dayD (.inl (0, 18))) (riverD (.inl Fa1) (.inl Fb1) (.inl (0, 4)) 31 33 35 39 43 47) (riverD (.inl Fa2) (.inl Fb2) (.inl (0, 4)) 32 34 36 40 44 48) (rcD (.inl (t, t)) (.inr kr) (.inr ks) (.inl kb)) rd tp A14F A14F A4F A4F A14F A14F (riverD (.inl Fa3) (.inl Fb3) (.inl (0, 4)) 3 8 3 41 45 49) (riverD (.inl Fa4) (.inl Fb4) (.inl (0, 4)) 3 8 3 42 46 50) ((.inr (.inl (0, 12, Pd1)))) ((.inr (.inl (0, 12, Pd2)))) ((.inr (.inl (0, 12, Pd3)))) ((.inr (.inl (0, 12, Pd4)))) ((.inr (.inl (0, 12, Ps1)))) ((.inr (.inl (0, 12, Ps2)))) ((.inr (.inl (0, 12, Ps3)))) ((.inr (.inl (0, 12, Ps4)))) ((.inr (.inl (0, 48, Pi1)))) ((.inr (.inl (0, 48, Pi2)))) ((.inr (.inl (0, 48, Pi3)))) ((.inr (.inl (0, 48, Pi4))))) H := hH
            refine lv_aload_n F.1 F.2.1 dX6_swap_94 rfl (lv_at hl 2 rfl) ?_
            refine tGetR (j := 12) F hK hH (tyb ha0 (all1 rfl)) rfl (all1 rfl) clX6 (by decide) wd_2_11 dX6_swap_95 (fun q_41 hq_41 _ => ?_)
            refine tGetR (j := 0) F hK hH (tyb hq_41 (all1 rfl)) rfl (all1 rfl) clX1 (by decide) wd_46_23 dX6_swap_98 (fun q_42 hq_42 _ => ?_)
            refine lv_iload_n F.1 F.2.1 dX6_swap_101 rfl (lv_at hl 3 rfl) ?_
            refine lv_iload_n F.1 F.2.1 dX6_swap_102 rfl (lv_at hl 4 rfl) ?_
            refine tVv (b := q_42) (As := [.int a1, .int a2]) (rest := []) F hK hN hO (c_X5_tradeAges E (dayD (.inl (0, 18))) (dayD (.inl (0, 18))) (riverD (.inl Fa1) (.inl Fb1) (.inl (0, 4)) 31 33 35 39 43 47) (riverD (.inl Fa2) (.inl Fb2) (.inl (0, 4)) 32 34 36 40 44 48) (rcD (.inl (t, t)) (.inr kr) (.inr ks) (.inl kb)) rd tp A14F A14F A4F A4F A14F A14F (riverD (.inl Fa3) (.inl Fb3) (.inl (0, 4)) 3 8 3 41 45 49) (riverD (.inl Fa4) (.inl Fb4) (.inl (0, 4)) 3 8 3 42 46 50) ((.inr (.inl (0, 12, Pd1)))) ((.inr (.inl (0, 12, Pd2)))) ((.inr (.inl (0, 12, Pd3)))) ((.inr (.inl (0, 12, Pd4)))) ((.inr (.inl (0, 12, Ps1)))) ((.inr (.inl (0, 12, Ps2)))) ((.inr (.inl (0, 12, Ps3)))) ((.inr (.inl (0, 12, Ps4)))) ((.inr (.inl (0, 48, Pi1)))) ((.inr (.inl (0, 48, Pi2)))) ((.inr (.inl (0, 48, Pi3)))) ((.inr (.inl (0, 48, Pi4)))) q_42 a1 a2 hq_42 r_8 r_9) mv_X5_tradeAges wd_33_18 ⟨Nat.le_of_ble_eq_true rfl, Nat.le_of_ble_eq_true rfl⟩ ⟨Nat.le_of_ble_eq_true rfl, Nat.le_of_ble_eq_true rfl⟩ hH hS (tRecv hK hH (tyb hq_42 (all1 rfl)) clX5) rfl hl.1 (Nat.le_of_ble_eq_true rfl) dX6_swap_103 (fun H locs hq hS => ?_)
            have hH := hq
            have hH : TH E (tbC (dayD (.inl (0, 18))) (dayD (.inl (0, 18))) (riverD (.inl Fa1) (.inl Fb1) (.inl (0, 4)) 31 33 35 39 43 47) (riverD (.inl Fa2) (.inl Fb2) (.inl (0, 4)) 32 34 36 40 44 48) (rcD (.inl (t, t)) (.inr kr) (.inr ks) (.inl kb)) rd tp A14F A14F A4F A4F A14F A14F (riverD (.inl Fa3) (.inl Fb3) (.inl (0, 4)) 3 8 3 41 45 49) (riverD (.inl Fa4) (.inl Fb4) (.inl (0, 4)) 3 8 3 42 46 50) ((.inr (.inl (0, 12, Pd1)))) ((.inr (.inl (0, 12, Pd2)))) ((.inr (.inl (0, 12, Pd3)))) ((.inr (.inl (0, 12, Pd4)))) ((.inr (.inl (0, 12, Ps1)))) ((.inr (.inl (0, 12, Ps2)))) ((.inr (.inl (0, 12, Ps3)))) ((.inr (.inl (0, 12, Ps4)))) ((.inr (.inl (0, 48, Pi1)))) ((.inr (.inl (0, 48, Pi2)))) ((.inr (.inl (0, 48, Pi3)))) ((.inr (.inl (0, 48, Pi4))))) H := hH
            refine lv_aload_n F.1 F.2.1 dX6_swap_106 rfl (lv_at hl 2 rfl) ?_
            refine tGetR (j := 12) F hK hH (tyb ha0 (all1 rfl)) rfl (all1 rfl) clX6 (by decide) wd_2_11 dX6_swap_107 (fun q_44 hq_44 _ => ?_)
            refine lv_iload_n F.1 F.2.1 dX6_swap_110 rfl (lv_at hl 5 rfl) ?_
            refine lv_iload F.1 F.2.1 dX6_swap_111 (lv_at hl 1 rfl) ?_
            refine tVv (b := q_44) (As := [.int a3, .int u_27]) (rest := []) F hK hN hO (c_X1_run E (rcD (.inl (t, t)) (.inr kr) (.inr ks) (.inl kb)) rd tp Fa1 Fb1 Fa2 Fb2 Fa3 Fb3 Fa4 Fb4 Pd1 Pd2 Pd3 Pd4 Ps1 Ps2 Ps3 Ps4 Pi1 Pi2 Pi3 Pi4 q_44 a3 u_27 hq_44 r_17 hFa1 hFb1 hFa2 hFb2 hFa3 hFb3 hFa4 hFb4 hPd1 hPd2 hPd3 hPd4 hPs1 hPs2 hPs3 hPs4 hPi1 hPi2 hPi3 hPi4) mv_X1_run wd_35_2 ⟨Nat.le_of_ble_eq_true rfl, Nat.le_of_ble_eq_true rfl⟩ ⟨Nat.le_of_ble_eq_true rfl, Nat.le_of_ble_eq_true rfl⟩ hH hS (tRecv hK hH (tyb hq_44 (all1 rfl)) clX1) rfl hl.1 (Nat.le_of_ble_eq_true rfl) dX6_swap_113 (fun H locs hq hS => ?_)
            have hH := hq
            have hH : TH E (tbC (dayD (.inl (0, 18))) (dayD (.inl (0, 18))) (riverD (.inl Fa1) (.inl Fb1) (.inl (0, 4)) 31 33 35 39 43 47) (riverD (.inl Fa2) (.inl Fb2) (.inl (0, 4)) 32 34 36 40 44 48) (rcD (.inl (t, t)) (.inr kr) (.inr ks) (.inl kb)) rd tp A14F A14F A4F A4F A14F A14F (riverD (.inl Fa3) (.inl Fb3) (.inl (0, 4)) 3 8 3 41 45 49) (riverD (.inl Fa4) (.inl Fb4) (.inl (0, 4)) 3 8 3 42 46 50) ((.inr (.inl (0, 12, Pd1)))) ((.inr (.inl (0, 12, Pd2)))) ((.inr (.inl (0, 12, Pd3)))) ((.inr (.inl (0, 12, Pd4)))) ((.inr (.inl (0, 12, Ps1)))) ((.inr (.inl (0, 12, Ps2)))) ((.inr (.inl (0, 12, Ps3)))) ((.inr (.inl (0, 12, Ps4)))) ((.inr (.inl (0, 48, Pi1)))) ((.inr (.inl (0, 48, Pi2)))) ((.inr (.inl (0, 48, Pi3)))) ((.inr (.inl (0, 48, Pi4))))) H := hH
            refine lv_aload_n F.1 F.2.1 dX6_swap_116 rfl (lv_at hl 2 rfl) ?_
            refine tGetR (j := 12) F hK hH (tyb ha0 (all1 rfl)) rfl (all1 rfl) clX6 (by decide) wd_2_11 dX6_swap_117 (fun q_46 hq_46 _ => ?_)
            refine lv_iload F.1 F.2.1 dX6_swap_120 (lv_at hl 1 rfl) ?_
            refine tVi (b := q_46) (As := [.int u_27]) (rest := []) F hK hN hO (c_X1_tookOf E (rcD (.inl (t, t)) (.inr kr) (.inr ks) (.inl kb)) rd tp Fa1 Fb1 Fa2 Fb2 Fa3 Fb3 Fa4 Fb4 Pd1 Pd2 Pd3 Pd4 Ps1 Ps2 Ps3 Ps4 Pi1 Pi2 Pi3 Pi4 q_46 u_27 hq_46 hu_27 hFa1 hFb1 hFa2 hFb2 hFa3 hFb3 hFa4 hFb4 hPd1 hPd2 hPd3 hPd4 hPs1 hPs2 hPs3 hPs4 hPi1 hPi2 hPi3 hPi4) mv_X1_tookOf wd_36_13 ⟨Nat.le_of_ble_eq_true rfl, Nat.le_of_ble_eq_true rfl⟩ ⟨Nat.le_of_ble_eq_true rfl, Nat.le_of_ble_eq_true rfl⟩ hH hS (tRecv hK hH (tyb hq_46 (all1 rfl)) clX1) rfl hl.1 (Nat.le_of_ble_eq_true rfl) dX6_swap_122 (fun z_47 H locs hq hS => ?_)
            obtain ⟨f_48, hH⟩ := hq
            have hH : TH E (tbC (dayD (.inl (0, 18))) (dayD (.inl (0, 18))) (riverD (.inl Fa1) (.inl Fb1) (.inl (0, 4)) 31 33 35 39 43 47) (riverD (.inl Fa2) (.inl Fb2) (.inl (0, 4)) 32 34 36 40 44 48) (rcD (.inl (t, t)) (.inr kr) (.inr ks) (.inl kb)) rd tp A14F A14F A4F A4F A14F A14F (riverD (.inl Fa3) (.inl Fb3) (.inl (0, 4)) 3 8 3 41 45 49) (riverD (.inl Fa4) (.inl Fb4) (.inl (0, 4)) 3 8 3 42 46 50) ((.inr (.inl (0, 12, Pd1)))) ((.inr (.inl (0, 12, Pd2)))) ((.inr (.inl (0, 12, Pd3)))) ((.inr (.inl (0, 12, Pd4)))) ((.inr (.inl (0, 12, Ps1)))) ((.inr (.inl (0, 12, Ps2)))) ((.inr (.inl (0, 12, Ps3)))) ((.inr (.inl (0, 12, Ps4)))) ((.inr (.inl (0, 48, Pi1)))) ((.inr (.inl (0, 48, Pi2)))) ((.inr (.inl (0, 48, Pi3)))) ((.inr (.inl (0, 48, Pi4))))) H := hH
            refine lv_iload F.1 F.2.1 dX6_swap_125 (lv_at hl 0 rfl) ?_
            refine lv_isub F.1 F.2.1 dX6_swap_127 ?_
            refine topF (fun z_49 => ?_)
            exact txI F hS dX6_swap_128 rfl (⟨(i32b _), hH⟩)
          refine z_ne (tgt := 40) F dX6_swap_33 (by decide) (fun c_50 => ?_) (fun c_50 => ?_)
          · skip
            have r_51 : 1 ≤ a4.toInt ∧ a4.toInt ≤ 1 := by have h9_ := r_25; omega
            refine lv_iload_n F.1 F.2.1 dX6_swap_40 rfl (lv_at hl 2 rfl) ?_
            exact J_41 (a2) _ _ _ ⟨r_9, hH, hS, lv_sub hl [0, 1, 2, 3] rfl⟩
          · skip
            have r_52 : 0 ≤ a4.toInt ∧ a4.toInt ≤ 0 := by have h9_ := r_25; omega
            refine lv_iload_n F.1 F.2.1 dX6_swap_36 rfl (lv_at hl 1 rfl) ?_
            refine lv_goto (tgt := 41) F.1 F.2.1 dX6_swap_37 (by decide) ?_
            exact J_41 (a1) _ _ _ ⟨r_8, hH, hS, lv_sub hl [0, 1, 2, 3] rfl⟩
        · skip
          have r_26 : 2 ≤ a4.toInt ∧ a4.toInt ≤ 2147483647 := by have h9_ := r_21; omega
          refine lv_ldcw (own := RX6) (v := (-2147483648)) F.1 F.2.1 F.2.2.2.2.1 (F.2.2.2.2.2.2.1 _ wd_48_3) dX6_swap_27 ?_
          refine topK (a := (-2147483648)) (by decide) (fun k_53 hk_53 => ?_)
          exact txI F hS dX6_swap_30 rfl (⟨(wkb (eqb hk_53) rfl rfl), hH⟩)
set_option maxHeartbeats 4000000 in
set_option maxRecDepth 100000 in
theorem c_X6_spell (E : Ev) (rd : TD) (tp : TD) (kb : Int × Int) (Fa1 : Int × Int) (Fb1 : Int × Int) (Fa2 : Int × Int) (Fb2 : Int × Int) (Fa3 : Int × Int) (Fb3 : Int × Int) (Fa4 : Int × Int) (Fb4 : Int × Int) (kr : List Nat) (ks : List Nat) (Pd1 : (Nat → Int32) → Prop) (Pd2 : (Nat → Int32) → Prop) (Pd3 : (Nat → Int32) → Prop) (Pd4 : (Nat → Int32) → Prop) (Ps1 : (Nat → Int32) → Prop) (Ps2 : (Nat → Int32) → Prop) (Ps3 : (Nat → Int32) → Prop) (Ps4 : (Nat → Int32) → Prop) (Pi1 : (Nat → Int32) → Prop) (Pi2 : (Nat → Int32) → Prop) (Pi3 : (Nat → Int32) → Prop) (Pi4 : (Nat → Int32) → Prop) (t : Int) (a0 : Nat) (a1 : Int32) (a2 : Int32) (a3 : Int32) (ha0 : eT E a0 ∈ [28]) (ht : 0 ≤ t ∧ t ≤ 400) (hFa1 : 0 ≤ Fa1.1 ∧ Fa1.2 ≤ 12) (hFb1 : 0 ≤ Fb1.1 ∧ Fb1.2 ≤ 14) (hFa2 : 0 ≤ Fa2.1 ∧ Fa2.2 ≤ 12) (hFb2 : 0 ≤ Fb2.1 ∧ Fb2.2 ≤ 14) (hFa3 : 0 ≤ Fa3.1 ∧ Fa3.2 ≤ 12) (hFb3 : 0 ≤ Fb3.1 ∧ Fb3.2 ≤ 14) (hFa4 : 0 ≤ Fa4.1 ∧ Fa4.2 ≤ 12) (hFb4 : 0 ≤ Fb4.1 ∧ Fb4.2 ≤ 14) (hkr : ∀ t ∈ kr, t ∈ [26, 27]) (hks : ∀ t ∈ ks, t ∈ [26, 27]) (hPd1 : ∀ f, Pd1 f → ivP 12 (-2) 11 f) (hPd2 : ∀ f, Pd2 f → ivP 12 (-2) 11 f) (hPd3 : ∀ f, Pd3 f → ivP 12 (-2) 11 f) (hPd4 : ∀ f, Pd4 f → ivP 12 (-2) 11 f) (hPs1 : ∀ f, Ps1 f → ivP 12 (-2147483648) 2147483647 f) (hPs2 : ∀ f, Ps2 f → ivP 12 (-2147483648) 2147483647 f) (hPs3 : ∀ f, Ps3 f → ivP 12 (-2147483648) 2147483647 f) (hPs4 : ∀ f, Ps4 f → ivP 12 (-2147483648) 2147483647 f) (hPi1 : ∀ f, Pi1 f → ivP 48 (-2147483648) 2147483647 f) (hPi2 : ∀ f, Pi2 f → ivP 48 (-2147483648) 2147483647 f) (hPi3 : ∀ f, Pi3 f → ivP 48 (-2147483648) 2147483647 f) (hPi4 : ∀ f, Pi4 f → ivP 48 (-2147483648) 2147483647 f) : TcI E yX6_spell cX6_spell 4 .int ({ frames := 6, cells := 0, slots := 0, locals := 163 }) [.ref a0, .int a1, .int a2, .int a3] (fun H => TH E (tbC (dayD (.inl (0, 18))) (dayD (.inl (0, 18))) (riverD (.inl Fa1) (.inl Fb1) (.inl (0, 4)) 31 33 35 39 43 47) (riverD (.inl Fa2) (.inl Fb2) (.inl (0, 4)) 32 34 36 40 44 48) (rcD (.inl (t, t)) (.inr kr) (.inr ks) (.inl kb)) rd tp A14F A14F A4F A4F A14F A14F (riverD (.inl Fa3) (.inl Fb3) (.inl (0, 4)) 3 8 3 41 45 49) (riverD (.inl Fa4) (.inl Fb4) (.inl (0, 4)) 3 8 3 42 46 50) ((.inr (.inl (0, 12, Pd1)))) ((.inr (.inl (0, 12, Pd2)))) ((.inr (.inl (0, 12, Pd3)))) ((.inr (.inl (0, 12, Pd4)))) ((.inr (.inl (0, 12, Ps1)))) ((.inr (.inl (0, 12, Ps2)))) ((.inr (.inl (0, 12, Ps3)))) ((.inr (.inl (0, 12, Ps4)))) ((.inr (.inl (0, 48, Pi1)))) ((.inr (.inl (0, 48, Pi2)))) ((.inr (.inl (0, 48, Pi3)))) ((.inr (.inl (0, 48, Pi4))))) H) (fun v H => ((-2147483648) ≤ v.toInt ∧ v.toInt ≤ 2147483647) ∧ TH E (tbC (dayD (.inl (0, 18))) (dayD (.inl (0, 18))) (riverD (.inl Fa1) (.inl Fb1) (.inl (0, 4)) 31 33 35 39 43 47) (riverD (.inl Fa2) (.inl Fb2) (.inl (0, 4)) 32 34 36 40 44 48) (rcD (.inl (t, t)) (.inr kr) (.inr ks) (.inl kb)) rd tp A14F A14F A4F A4F A14F A14F (riverD (.inl Fa3) (.inl Fb3) (.inl (0, 4)) 3 8 3 41 45 49) (riverD (.inl Fa4) (.inl Fb4) (.inl (0, 4)) 3 8 3 42 46 50) ((.inr (.inl (0, 12, Pd1)))) ((.inr (.inl (0, 12, Pd2)))) ((.inr (.inl (0, 12, Pd3)))) ((.inr (.inl (0, 12, Pd4)))) ((.inr (.inl (0, 12, Ps1)))) ((.inr (.inl (0, 12, Ps2)))) ((.inr (.inl (0, 12, Ps3)))) ((.inr (.inl (0, 12, Ps4)))) ((.inr (.inl (0, 48, Pi1)))) ((.inr (.inl (0, 48, Pi2)))) ((.inr (.inl (0, 48, Pi3)))) ((.inr (.inl (0, 48, Pi4))))) H) := by
  refine teI (by decide) (Nat.le_of_ble_eq_true rfl) ?_
  intro p_ ev_ s mi_ below_ meth cd_ ls F hK hN hO hH hS hl
  have hH : TH E (tbC (dayD (.inl (0, 18))) (dayD (.inl (0, 18))) (riverD (.inl Fa1) (.inl Fb1) (.inl (0, 4)) 31 33 35 39 43 47) (riverD (.inl Fa2) (.inl Fb2) (.inl (0, 4)) 32 34 36 40 44 48) (rcD (.inl (t, t)) (.inr kr) (.inr ks) (.inl kb)) rd tp A14F A14F A4F A4F A14F A14F (riverD (.inl Fa3) (.inl Fb3) (.inl (0, 4)) 3 8 3 41 45 49) (riverD (.inl Fa4) (.inl Fb4) (.inl (0, 4)) 3 8 3 42 46 50) ((.inr (.inl (0, 12, Pd1)))) ((.inr (.inl (0, 12, Pd2)))) ((.inr (.inl (0, 12, Pd3)))) ((.inr (.inl (0, 12, Pd4)))) ((.inr (.inl (0, 12, Ps1)))) ((.inr (.inl (0, 12, Ps2)))) ((.inr (.inl (0, 12, Ps3)))) ((.inr (.inl (0, 12, Ps4)))) ((.inr (.inl (0, 48, Pi1)))) ((.inr (.inl (0, 48, Pi2)))) ((.inr (.inl (0, 48, Pi3)))) ((.inr (.inl (0, 48, Pi4))))) s.heap := hH
  have hl : lv_has ls 4 [(0, .ref a0), (1, .int a1), (2, .int a2), (3, .int a3)] := hl
  refine lv_aload_n F.1 F.2.1 dX6_spell_0 rfl (lv_at hl 0 rfl) ?_
  refine lv_iload_n F.1 F.2.1 dX6_spell_1 rfl (lv_at hl 1 rfl) ?_
  refine tVi (b := a0) (As := [.int a1]) (rest := []) F hK hN hO (c_X6_isRight E rd tp kb Fa1 Fb1 Fa2 Fb2 Fa3 Fb3 Fa4 Fb4 kr ks Pd1 Pd2 Pd3 Pd4 Ps1 Ps2 Ps3 Ps4 Pi1 Pi2 Pi3 Pi4 t a0 a1 ha0 (by omega) hFa1 hFb1 hFa2 hFb2 hFa3 hFb3 hFa4 hFb4 hkr hks hPd1 hPd2 hPd3 hPd4 hPs1 hPs2 hPs3 hPs4 hPi1 hPi2 hPi3 hPi4) mv_X6_isRight wd_31_10 ⟨Nat.le_of_ble_eq_true rfl, Nat.le_of_ble_eq_true rfl⟩ ⟨Nat.le_of_ble_eq_true rfl, Nat.le_of_ble_eq_true rfl⟩ hH hS (tRecv hK hH (tyb ha0 (all1 rfl)) clX6) rfl hl.1 (Nat.le_of_ble_eq_true rfl) dX6_spell_2 (fun z_1 H locs hq hS => ?_)
  obtain ⟨f_2, f_3, hH⟩ := hq
  have hH : TH E (tbC (dayD (.inl (0, 18))) (dayD (.inl (0, 18))) (riverD (.inl Fa1) (.inl Fb1) (.inl (0, 4)) 31 33 35 39 43 47) (riverD (.inl Fa2) (.inl Fb2) (.inl (0, 4)) 32 34 36 40 44 48) (rcD (.inl (t, t)) (.inr kr) (.inr ks) (.inl kb)) rd tp A14F A14F A4F A4F A14F A14F (riverD (.inl Fa3) (.inl Fb3) (.inl (0, 4)) 3 8 3 41 45 49) (riverD (.inl Fa4) (.inl Fb4) (.inl (0, 4)) 3 8 3 42 46 50) ((.inr (.inl (0, 12, Pd1)))) ((.inr (.inl (0, 12, Pd2)))) ((.inr (.inl (0, 12, Pd3)))) ((.inr (.inl (0, 12, Pd4)))) ((.inr (.inl (0, 12, Ps1)))) ((.inr (.inl (0, 12, Ps2)))) ((.inr (.inl (0, 12, Ps3)))) ((.inr (.inl (0, 12, Ps4)))) ((.inr (.inl (0, 48, Pi1)))) ((.inr (.inl (0, 48, Pi2)))) ((.inr (.inl (0, 48, Pi3)))) ((.inr (.inl (0, 48, Pi4))))) H := hH
  refine z_eq (tgt := 24) F dX6_spell_5 (by decide) (fun c_4 => ?_) (fun c_4 => ?_)
  · skip
    have r_5 : 0 ≤ z_1.toInt ∧ z_1.toInt ≤ 0 := by have h9_ := f_2; omega
    refine lv_iconst (v := (-1)) F.1 F.2.1 dX6_spell_24 (by decide) ?_
    refine topK (a := (-1)) (by decide) (fun k_8 hk_8 => ?_)
    exact txI F hS dX6_spell_25 rfl (⟨(wkb (eqb hk_8) rfl rfl), hH⟩)
  · skip
    have r_6 : 1 ≤ z_1.toInt ∧ z_1.toInt ≤ 1 := by have h9_ := f_2; omega
    have r_7 : 0 ≤ a1.toInt ∧ a1.toInt ≤ 13 := by have h9_ := (i32b a1); omega
    refine lv_iload_n F.1 F.2.1 dX6_spell_8 rfl (lv_at hl 2 rfl) ?_
    refine tSi (As := [.int a2]) (rest := []) F hK hN hO (c_X6_isSpan E (dayD (.inl (0, 18))) (dayD (.inl (0, 18))) (riverD (.inl Fa1) (.inl Fb1) (.inl (0, 4)) 31 33 35 39 43 47) (riverD (.inl Fa2) (.inl Fb2) (.inl (0, 4)) 32 34 36 40 44 48) (rcD (.inl (t, t)) (.inr kr) (.inr ks) (.inl kb)) rd tp A14F A14F A4F A4F A14F A14F (riverD (.inl Fa3) (.inl Fb3) (.inl (0, 4)) 3 8 3 41 45 49) (riverD (.inl Fa4) (.inl Fb4) (.inl (0, 4)) 3 8 3 42 46 50) ((.inr (.inl (0, 12, Pd1)))) ((.inr (.inl (0, 12, Pd2)))) ((.inr (.inl (0, 12, Pd3)))) ((.inr (.inl (0, 12, Pd4)))) ((.inr (.inl (0, 12, Ps1)))) ((.inr (.inl (0, 12, Ps2)))) ((.inr (.inl (0, 12, Ps3)))) ((.inr (.inl (0, 12, Ps4)))) ((.inr (.inl (0, 48, Pi1)))) ((.inr (.inl (0, 48, Pi2)))) ((.inr (.inl (0, 48, Pi3)))) ((.inr (.inl (0, 48, Pi4)))) a2) ms_X6_isSpan wd_47_14 ⟨Nat.le_of_ble_eq_true rfl, Nat.le_of_ble_eq_true rfl⟩ ⟨Nat.le_of_ble_eq_true rfl, Nat.le_of_ble_eq_true rfl⟩ hH hS rfl hl.1 (Nat.le_of_ble_eq_true rfl) dX6_spell_9 (fun z_9 H locs hq hS => ?_)
    obtain ⟨f_10, f_11, hH⟩ := hq
    have hH : TH E (tbC (dayD (.inl (0, 18))) (dayD (.inl (0, 18))) (riverD (.inl Fa1) (.inl Fb1) (.inl (0, 4)) 31 33 35 39 43 47) (riverD (.inl Fa2) (.inl Fb2) (.inl (0, 4)) 32 34 36 40 44 48) (rcD (.inl (t, t)) (.inr kr) (.inr ks) (.inl kb)) rd tp A14F A14F A4F A4F A14F A14F (riverD (.inl Fa3) (.inl Fb3) (.inl (0, 4)) 3 8 3 41 45 49) (riverD (.inl Fa4) (.inl Fb4) (.inl (0, 4)) 3 8 3 42 46 50) ((.inr (.inl (0, 12, Pd1)))) ((.inr (.inl (0, 12, Pd2)))) ((.inr (.inl (0, 12, Pd3)))) ((.inr (.inl (0, 12, Pd4)))) ((.inr (.inl (0, 12, Ps1)))) ((.inr (.inl (0, 12, Ps2)))) ((.inr (.inl (0, 12, Ps3)))) ((.inr (.inl (0, 12, Ps4)))) ((.inr (.inl (0, 48, Pi1)))) ((.inr (.inl (0, 48, Pi2)))) ((.inr (.inl (0, 48, Pi3)))) ((.inr (.inl (0, 48, Pi4))))) H := hH
    refine z_eq (tgt := 24) F dX6_spell_12 (by decide) (fun c_12 => ?_) (fun c_12 => ?_)
    · skip
      have r_13 : 0 ≤ z_9.toInt ∧ z_9.toInt ≤ 0 := by have h9_ := f_10; omega
      refine lv_iconst (v := (-1)) F.1 F.2.1 dX6_spell_24 (by decide) ?_
      refine topK (a := (-1)) (by decide) (fun k_16 hk_16 => ?_)
      exact txI F hS dX6_spell_25 rfl (⟨(wkb (eqb hk_16) rfl rfl), hH⟩)
    · skip
      have r_14 : 1 ≤ z_9.toInt ∧ z_9.toInt ≤ 1 := by have h9_ := f_10; omega
      have r_15 : 1 ≤ a2.toInt ∧ a2.toInt ≤ 360 := by have h9_ := (i32b a2); omega
      refine lv_iload_n F.1 F.2.1 dX6_spell_15 rfl (lv_at hl 3 rfl) ?_
      refine z_lt (tgt := 24) F dX6_spell_16 (by decide) (fun c_17 => ?_) (fun c_17 => ?_)
      · skip
        have r_18 : (-2147483648) ≤ a3.toInt ∧ a3.toInt ≤ (-1) := by have h9_ := (i32b a3); omega
        refine lv_iconst (v := (-1)) F.1 F.2.1 dX6_spell_24 (by decide) ?_
        refine topK (a := (-1)) (by decide) (fun k_20 hk_20 => ?_)
        exact txI F hS dX6_spell_25 rfl (⟨(wkb (eqb hk_20) rfl rfl), hH⟩)
      · skip
        have r_19 : 0 ≤ a3.toInt ∧ a3.toInt ≤ 2147483647 := by have h9_ := (i32b a3); omega
        refine lv_iload_n F.1 F.2.1 dX6_spell_19 rfl (lv_at hl 3 rfl) ?_
        refine lv_iconst (v := 1) F.1 F.2.1 dX6_spell_20 (by decide) ?_
        refine topK (a := 1) (by decide) (fun k_21 hk_21 => ?_)
        refine b_le (tgt := 26) F dX6_spell_21 (by decide) (fun c_22 => ?_) (fun c_22 => ?_)
        · skip
          have r_23 : 0 ≤ a3.toInt ∧ a3.toInt ≤ 1 := by have h9_ := r_19; omega
          refine lv_aload_n F.1 F.2.1 dX6_spell_26 rfl (lv_at hl 0 rfl) ?_
          refine tGetR (j := 12) F hK hH (tyb ha0 (all1 rfl)) rfl (all1 rfl) clX6 (by decide) wd_2_11 dX6_spell_27 (fun q_25 hq_25 _ => ?_)
          refine lv_aload_n F.1 F.2.1 dX6_spell_30 rfl (lv_at hl 0 rfl) ?_
          refine tGetR0 (j := 2) F hK hH (tyb ha0 (all1 rfl)) rfl clX6 (by decide) wd_1_17 dX6_spell_31 (fun q_26 hq_26 => ?_)
          refine lv_aload_n F.1 F.2.1 dX6_spell_34 rfl (lv_at hl 0 rfl) ?_
          refine tGetR (j := 4) F hK hH (tyb ha0 (all1 rfl)) rfl (all1 rfl) clX6 (by decide) wd_1_22 dX6_spell_35 (fun q_27 hq_27 _ => ?_)
          refine tVv (b := q_25) (As := [.ref q_26, .ref q_27]) (rest := []) F hK hN hO (c_X1_begin E (rcD (.inl (t, t)) (.inr kr) (.inr ks) (.inl kb)) rd tp Fa1 Fb1 Fa2 Fb2 Fa3 Fb3 Fa4 Fb4 Pd1 Pd2 Pd3 Pd4 Ps1 Ps2 Ps3 Ps4 Pi1 Pi2 Pi3 Pi4 q_25 q_26 q_27 hq_25 (hkr _ hq_26) hq_27 hFa1 hFb1 hFa2 hFb2 hFa3 hFb3 hFa4 hFb4 hPd1 hPd2 hPd3 hPd4 hPs1 hPs2 hPs3 hPs4 hPi1 hPi2 hPi3 hPi4) mv_X1_begin wd_34_15 ⟨Nat.le_of_ble_eq_true rfl, Nat.le_of_ble_eq_true rfl⟩ ⟨Nat.le_of_ble_eq_true rfl, Nat.le_of_ble_eq_true rfl⟩ hH hS (tRecv hK hH (tyb hq_25 (all1 rfl)) clX1) rfl hl.1 (Nat.le_of_ble_eq_true rfl) dX6_spell_38 (fun H locs hq hS => ?_)
          have hH := hq
          have hH : TH E (tbC (dayD (.inl (0, 18))) (dayD (.inl (0, 18))) (riverD (.inl Fa1) (.inl Fb1) (.inl (0, 4)) 31 33 35 39 43 47) (riverD (.inl Fa2) (.inl Fb2) (.inl (0, 4)) 32 34 36 40 44 48) (rcD (.inl (t, t)) (.inr kr) (.inr ks) (.inl kb)) rd tp A14F A14F A4F A4F A14F A14F (riverD (.inl Fa3) (.inl Fb3) (.inl (0, 4)) 3 8 3 41 45 49) (riverD (.inl Fa4) (.inl Fb4) (.inl (0, 4)) 3 8 3 42 46 50) ((.inr (.inl (0, 12, Pd1)))) ((.inr (.inl (0, 12, Pd2)))) ((.inr (.inl (0, 12, Pd3)))) ((.inr (.inl (0, 12, Pd4)))) ((.inr (.inl (0, 12, Ps1)))) ((.inr (.inl (0, 12, Ps2)))) ((.inr (.inl (0, 12, Ps3)))) ((.inr (.inl (0, 12, Ps4)))) ((.inr (.inl (0, 48, Pi1)))) ((.inr (.inl (0, 48, Pi2)))) ((.inr (.inl (0, 48, Pi3)))) ((.inr (.inl (0, 48, Pi4))))) H := hH
          refine lv_aload_n F.1 F.2.1 dX6_spell_41 rfl (lv_at hl 0 rfl) ?_
          refine tGetR (j := 12) F hK hH (tyb ha0 (all1 rfl)) rfl (all1 rfl) clX6 (by decide) wd_2_11 dX6_spell_42 (fun q_29 hq_29 _ => ?_)
          refine lv_iload_n F.1 F.2.1 dX6_spell_45 rfl (lv_at hl 2 rfl) ?_
          refine lv_iload_n F.1 F.2.1 dX6_spell_46 rfl (lv_at hl 1 rfl) ?_
          refine tVv (b := q_29) (As := [.int a2, .int a1]) (rest := []) F hK hN hO (c_X1_run E (rcD (.inl (t, t)) (.inr kr) (.inr ks) (.inl kb)) rd tp Fa1 Fb1 Fa2 Fb2 Fa3 Fb3 Fa4 Fb4 Pd1 Pd2 Pd3 Pd4 Ps1 Ps2 Ps3 Ps4 Pi1 Pi2 Pi3 Pi4 q_29 a2 a1 hq_29 r_15 hFa1 hFb1 hFa2 hFb2 hFa3 hFb3 hFa4 hFb4 hPd1 hPd2 hPd3 hPd4 hPs1 hPs2 hPs3 hPs4 hPi1 hPi2 hPi3 hPi4) mv_X1_run wd_35_2 ⟨Nat.le_of_ble_eq_true rfl, Nat.le_of_ble_eq_true rfl⟩ ⟨Nat.le_of_ble_eq_true rfl, Nat.le_of_ble_eq_true rfl⟩ hH hS (tRecv hK hH (tyb hq_29 (all1 rfl)) clX1) rfl hl.1 (Nat.le_of_ble_eq_true rfl) dX6_spell_47 (fun H locs hq hS => ?_)
          have hH := hq
          have hH : TH E (tbC (dayD (.inl (0, 18))) (dayD (.inl (0, 18))) (riverD (.inl Fa1) (.inl Fb1) (.inl (0, 4)) 31 33 35 39 43 47) (riverD (.inl Fa2) (.inl Fb2) (.inl (0, 4)) 32 34 36 40 44 48) (rcD (.inl (t, t)) (.inr kr) (.inr ks) (.inl kb)) rd tp A14F A14F A4F A4F A14F A14F (riverD (.inl Fa3) (.inl Fb3) (.inl (0, 4)) 3 8 3 41 45 49) (riverD (.inl Fa4) (.inl Fb4) (.inl (0, 4)) 3 8 3 42 46 50) ((.inr (.inl (0, 12, Pd1)))) ((.inr (.inl (0, 12, Pd2)))) ((.inr (.inl (0, 12, Pd3)))) ((.inr (.inl (0, 12, Pd4)))) ((.inr (.inl (0, 12, Ps1)))) ((.inr (.inl (0, 12, Ps2)))) ((.inr (.inl (0, 12, Ps3)))) ((.inr (.inl (0, 12, Ps4)))) ((.inr (.inl (0, 48, Pi1)))) ((.inr (.inl (0, 48, Pi2)))) ((.inr (.inl (0, 48, Pi3)))) ((.inr (.inl (0, 48, Pi4))))) H := hH
          refine lv_iload_n F.1 F.2.1 dX6_spell_50 rfl (lv_at hl 3 rfl) ?_
          refine z_ne (tgt := 64) F dX6_spell_51 (by decide) (fun c_31 => ?_) (fun c_31 => ?_)
          · skip
            have r_32 : 1 ≤ a3.toInt ∧ a3.toInt ≤ 1 := by have h9_ := r_23; omega
            refine lv_aload_n F.1 F.2.1 dX6_spell_64 rfl (lv_at hl 0 rfl) ?_
            refine tGetR (j := 12) F hK hH (tyb ha0 (all1 rfl)) rfl (all1 rfl) clX6 (by decide) wd_2_11 dX6_spell_65 (fun q_34 hq_34 _ => ?_)
            refine tGetI (j := 9) F hK hH (tyb hq_34 (all1 rfl)) rfl clX1 (by decide) wd_58_18 dX6_spell_68 (fun z_35 hz_35 => ?_)
            exact txI F hS dX6_spell_71 rfl (⟨hz_35, hH⟩)
          · skip
            have r_33 : 0 ≤ a3.toInt ∧ a3.toInt ≤ 0 := by have h9_ := r_23; omega
            refine lv_aload_n F.1 F.2.1 dX6_spell_54 rfl (lv_at hl 0 rfl) ?_
            refine tGetR (j := 12) F hK hH (tyb ha0 (all1 rfl)) rfl (all1 rfl) clX6 (by decide) wd_2_11 dX6_spell_55 (fun q_36 hq_36 _ => ?_)
            refine tGetI (j := 8) F hK hH (tyb hq_36 (all1 rfl)) rfl clX1 (by decide) wd_58_17 dX6_spell_58 (fun z_37 hz_37 => ?_)
            refine lv_goto (tgt := 71) F.1 F.2.1 dX6_spell_61 (by decide) ?_
            exact txI F hS dX6_spell_71 rfl (⟨hz_37, hH⟩)
        · skip
          have r_24 : 2 ≤ a3.toInt ∧ a3.toInt ≤ 2147483647 := by have h9_ := r_19; omega
          refine lv_iconst (v := (-1)) F.1 F.2.1 dX6_spell_24 (by decide) ?_
          refine topK (a := (-1)) (by decide) (fun k_38 hk_38 => ?_)
          exact txI F hS dX6_spell_25 rfl (⟨(wkb (eqb hk_38) rfl rfl), hH⟩)
set_option maxHeartbeats 4000000 in
set_option maxRecDepth 100000 in
theorem c_X6_gain (E : Ev) (rd : TD) (tp : TD) (kb : Int × Int) (Fa1 : Int × Int) (Fb1 : Int × Int) (Fa2 : Int × Int) (Fb2 : Int × Int) (Fa3 : Int × Int) (Fb3 : Int × Int) (Fa4 : Int × Int) (Fb4 : Int × Int) (kr : List Nat) (ks : List Nat) (Pd1 : (Nat → Int32) → Prop) (Pd2 : (Nat → Int32) → Prop) (Pd3 : (Nat → Int32) → Prop) (Pd4 : (Nat → Int32) → Prop) (Ps1 : (Nat → Int32) → Prop) (Ps2 : (Nat → Int32) → Prop) (Ps3 : (Nat → Int32) → Prop) (Ps4 : (Nat → Int32) → Prop) (Pi1 : (Nat → Int32) → Prop) (Pi2 : (Nat → Int32) → Prop) (Pi3 : (Nat → Int32) → Prop) (Pi4 : (Nat → Int32) → Prop) (t : Int) (a0 : Nat) (a1 : Int32) (a2 : Int32) (a3 : Int32) (ha0 : eT E a0 ∈ [28]) (ht : 0 ≤ t ∧ t ≤ 400) (hFa1 : 0 ≤ Fa1.1 ∧ Fa1.2 ≤ 12) (hFb1 : 0 ≤ Fb1.1 ∧ Fb1.2 ≤ 14) (hFa2 : 0 ≤ Fa2.1 ∧ Fa2.2 ≤ 12) (hFb2 : 0 ≤ Fb2.1 ∧ Fb2.2 ≤ 14) (hFa3 : 0 ≤ Fa3.1 ∧ Fa3.2 ≤ 12) (hFb3 : 0 ≤ Fb3.1 ∧ Fb3.2 ≤ 14) (hFa4 : 0 ≤ Fa4.1 ∧ Fa4.2 ≤ 12) (hFb4 : 0 ≤ Fb4.1 ∧ Fb4.2 ≤ 14) (hkr : ∀ t ∈ kr, t ∈ [26, 27]) (hks : ∀ t ∈ ks, t ∈ [26, 27]) (hPd1 : ∀ f, Pd1 f → ivP 12 (-2) 11 f) (hPd2 : ∀ f, Pd2 f → ivP 12 (-2) 11 f) (hPd3 : ∀ f, Pd3 f → ivP 12 (-2) 11 f) (hPd4 : ∀ f, Pd4 f → ivP 12 (-2) 11 f) (hPs1 : ∀ f, Ps1 f → ivP 12 (-2147483648) 2147483647 f) (hPs2 : ∀ f, Ps2 f → ivP 12 (-2147483648) 2147483647 f) (hPs3 : ∀ f, Ps3 f → ivP 12 (-2147483648) 2147483647 f) (hPs4 : ∀ f, Ps4 f → ivP 12 (-2147483648) 2147483647 f) (hPi1 : ∀ f, Pi1 f → ivP 48 (-2147483648) 2147483647 f) (hPi2 : ∀ f, Pi2 f → ivP 48 (-2147483648) 2147483647 f) (hPi3 : ∀ f, Pi3 f → ivP 48 (-2147483648) 2147483647 f) (hPi4 : ∀ f, Pi4 f → ivP 48 (-2147483648) 2147483647 f) : TcI E yX6_gain cX6_gain 5 .int ({ frames := 6, cells := 0, slots := 0, locals := 163 }) [.ref a0, .int a1, .int a2, .int a3] (fun H => TH E (tbC (dayD (.inl (0, 18))) (dayD (.inl (0, 18))) (riverD (.inl Fa1) (.inl Fb1) (.inl (0, 4)) 31 33 35 39 43 47) (riverD (.inl Fa2) (.inl Fb2) (.inl (0, 4)) 32 34 36 40 44 48) (rcD (.inl (t, t)) (.inr kr) (.inr ks) (.inl kb)) rd tp A14F A14F A4F A4F A14F A14F (riverD (.inl Fa3) (.inl Fb3) (.inl (0, 4)) 3 8 3 41 45 49) (riverD (.inl Fa4) (.inl Fb4) (.inl (0, 4)) 3 8 3 42 46 50) ((.inr (.inl (0, 12, Pd1)))) ((.inr (.inl (0, 12, Pd2)))) ((.inr (.inl (0, 12, Pd3)))) ((.inr (.inl (0, 12, Pd4)))) ((.inr (.inl (0, 12, Ps1)))) ((.inr (.inl (0, 12, Ps2)))) ((.inr (.inl (0, 12, Ps3)))) ((.inr (.inl (0, 12, Ps4)))) ((.inr (.inl (0, 48, Pi1)))) ((.inr (.inl (0, 48, Pi2)))) ((.inr (.inl (0, 48, Pi3)))) ((.inr (.inl (0, 48, Pi4))))) H) (fun v H => ((-2147483648) ≤ v.toInt ∧ v.toInt ≤ 2147483647) ∧ TH E (tbC (dayD (.inl (0, 18))) (dayD (.inl (0, 18))) (riverD (.inl Fa1) (.inl Fb1) (.inl (0, 4)) 31 33 35 39 43 47) (riverD (.inl Fa2) (.inl Fb2) (.inl (0, 4)) 32 34 36 40 44 48) (rcD (.inl (t, t)) (.inr kr) (.inr ks) (.inl kb)) rd tp A14F A14F A4F A4F A14F A14F (riverD (.inl Fa3) (.inl Fb3) (.inl (0, 4)) 3 8 3 41 45 49) (riverD (.inl Fa4) (.inl Fb4) (.inl (0, 4)) 3 8 3 42 46 50) ((.inr (.inl (0, 12, Pd1)))) ((.inr (.inl (0, 12, Pd2)))) ((.inr (.inl (0, 12, Pd3)))) ((.inr (.inl (0, 12, Pd4)))) ((.inr (.inl (0, 12, Ps1)))) ((.inr (.inl (0, 12, Ps2)))) ((.inr (.inl (0, 12, Ps3)))) ((.inr (.inl (0, 12, Ps4)))) ((.inr (.inl (0, 48, Pi1)))) ((.inr (.inl (0, 48, Pi2)))) ((.inr (.inl (0, 48, Pi3)))) ((.inr (.inl (0, 48, Pi4))))) H) := by
  refine teI (by decide) (Nat.le_of_ble_eq_true rfl) ?_
  intro p_ ev_ s mi_ below_ meth cd_ ls F hK hN hO hH hS hl
  have hH : TH E (tbC (dayD (.inl (0, 18))) (dayD (.inl (0, 18))) (riverD (.inl Fa1) (.inl Fb1) (.inl (0, 4)) 31 33 35 39 43 47) (riverD (.inl Fa2) (.inl Fb2) (.inl (0, 4)) 32 34 36 40 44 48) (rcD (.inl (t, t)) (.inr kr) (.inr ks) (.inl kb)) rd tp A14F A14F A4F A4F A14F A14F (riverD (.inl Fa3) (.inl Fb3) (.inl (0, 4)) 3 8 3 41 45 49) (riverD (.inl Fa4) (.inl Fb4) (.inl (0, 4)) 3 8 3 42 46 50) ((.inr (.inl (0, 12, Pd1)))) ((.inr (.inl (0, 12, Pd2)))) ((.inr (.inl (0, 12, Pd3)))) ((.inr (.inl (0, 12, Pd4)))) ((.inr (.inl (0, 12, Ps1)))) ((.inr (.inl (0, 12, Ps2)))) ((.inr (.inl (0, 12, Ps3)))) ((.inr (.inl (0, 12, Ps4)))) ((.inr (.inl (0, 48, Pi1)))) ((.inr (.inl (0, 48, Pi2)))) ((.inr (.inl (0, 48, Pi3)))) ((.inr (.inl (0, 48, Pi4))))) s.heap := hH
  have hl : lv_has ls 5 [(0, .ref a0), (1, .int a1), (2, .int a2), (3, .int a3)] := hl
  refine lv_aload_n F.1 F.2.1 dX6_gain_0 rfl (lv_at hl 0 rfl) ?_
  refine lv_iload_n F.1 F.2.1 dX6_gain_1 rfl (lv_at hl 1 rfl) ?_
  refine tVi (b := a0) (As := [.int a1]) (rest := []) F hK hN hO (c_X6_isReach E rd tp kb Fa1 Fb1 Fa2 Fb2 Fa3 Fb3 Fa4 Fb4 kr ks Pd1 Pd2 Pd3 Pd4 Ps1 Ps2 Ps3 Ps4 Pi1 Pi2 Pi3 Pi4 t a0 a1 ha0 (by omega) hFa1 hFb1 hFa2 hFb2 hFa3 hFb3 hFa4 hFb4 hkr hks hPd1 hPd2 hPd3 hPd4 hPs1 hPs2 hPs3 hPs4 hPi1 hPi2 hPi3 hPi4) mv_X6_isReach wd_34_6 ⟨Nat.le_of_ble_eq_true rfl, Nat.le_of_ble_eq_true rfl⟩ ⟨Nat.le_of_ble_eq_true rfl, Nat.le_of_ble_eq_true rfl⟩ hH hS (tRecv hK hH (tyb ha0 (all1 rfl)) clX6) rfl hl.1 (Nat.le_of_ble_eq_true rfl) dX6_gain_2 (fun z_1 H locs hq hS => ?_)
  obtain ⟨f_2, f_3, hH⟩ := hq
  have hH : TH E (tbC (dayD (.inl (0, 18))) (dayD (.inl (0, 18))) (riverD (.inl Fa1) (.inl Fb1) (.inl (0, 4)) 31 33 35 39 43 47) (riverD (.inl Fa2) (.inl Fb2) (.inl (0, 4)) 32 34 36 40 44 48) (rcD (.inl (t, t)) (.inr kr) (.inr ks) (.inl kb)) rd tp A14F A14F A4F A4F A14F A14F (riverD (.inl Fa3) (.inl Fb3) (.inl (0, 4)) 3 8 3 41 45 49) (riverD (.inl Fa4) (.inl Fb4) (.inl (0, 4)) 3 8 3 42 46 50) ((.inr (.inl (0, 12, Pd1)))) ((.inr (.inl (0, 12, Pd2)))) ((.inr (.inl (0, 12, Pd3)))) ((.inr (.inl (0, 12, Pd4)))) ((.inr (.inl (0, 12, Ps1)))) ((.inr (.inl (0, 12, Ps2)))) ((.inr (.inl (0, 12, Ps3)))) ((.inr (.inl (0, 12, Ps4)))) ((.inr (.inl (0, 48, Pi1)))) ((.inr (.inl (0, 48, Pi2)))) ((.inr (.inl (0, 48, Pi3)))) ((.inr (.inl (0, 48, Pi4))))) H := hH
  refine z_eq (tgt := 26) F dX6_gain_5 (by decide) (fun c_4 => ?_) (fun c_4 => ?_)
  · skip
    have r_5 : 0 ≤ z_1.toInt ∧ z_1.toInt ≤ 0 := by have h9_ := f_2; omega
    refine lv_ldcw (own := RX6) (v := (-2147483648)) F.1 F.2.1 F.2.2.2.2.1 (F.2.2.2.2.2.2.1 _ wd_48_3) dX6_gain_26 ?_
    refine topK (a := (-2147483648)) (by decide) (fun k_8 hk_8 => ?_)
    exact txI F hS dX6_gain_29 rfl (⟨(wkb (eqb hk_8) rfl rfl), hH⟩)
  · skip
    have r_6 : 1 ≤ z_1.toInt ∧ z_1.toInt ≤ 1 := by have h9_ := f_2; omega
    have r_7 : 0 ≤ a1.toInt ∧ a1.toInt ≤ 11 := by have h9_ := (i32b a1); omega
    refine lv_iload_n F.1 F.2.1 dX6_gain_8 rfl (lv_at hl 2 rfl) ?_
    refine z_lt (tgt := 26) F dX6_gain_9 (by decide) (fun c_9 => ?_) (fun c_9 => ?_)
    · skip
      have r_10 : (-2147483648) ≤ a2.toInt ∧ a2.toInt ≤ (-1) := by have h9_ := (i32b a2); omega
      refine lv_ldcw (own := RX6) (v := (-2147483648)) F.1 F.2.1 F.2.2.2.2.1 (F.2.2.2.2.2.2.1 _ wd_48_3) dX6_gain_26 ?_
      refine topK (a := (-2147483648)) (by decide) (fun k_12 hk_12 => ?_)
      exact txI F hS dX6_gain_29 rfl (⟨(wkb (eqb hk_12) rfl rfl), hH⟩)
    · skip
      have r_11 : 0 ≤ a2.toInt ∧ a2.toInt ≤ 2147483647 := by have h9_ := (i32b a2); omega
      refine lv_iload_n F.1 F.2.1 dX6_gain_12 rfl (lv_at hl 2 rfl) ?_
      refine lv_sipush (v := 9999) F.1 F.2.1 dX6_gain_13 (by decide) ?_
      refine topK (a := 9999) (by decide) (fun k_13 hk_13 => ?_)
      refine b_gt (tgt := 26) F dX6_gain_16 (by decide) (fun c_14 => ?_) (fun c_14 => ?_)
      · skip
        have r_15 : 10000 ≤ a2.toInt ∧ a2.toInt ≤ 2147483647 := by have h9_ := r_11; omega
        refine lv_ldcw (own := RX6) (v := (-2147483648)) F.1 F.2.1 F.2.2.2.2.1 (F.2.2.2.2.2.2.1 _ wd_48_3) dX6_gain_26 ?_
        refine topK (a := (-2147483648)) (by decide) (fun k_17 hk_17 => ?_)
        exact txI F hS dX6_gain_29 rfl (⟨(wkb (eqb hk_17) rfl rfl), hH⟩)
      · skip
        have r_16 : 0 ≤ a2.toInt ∧ a2.toInt ≤ 9999 := by have h9_ := r_11; omega
        refine lv_iload_n F.1 F.2.1 dX6_gain_19 rfl (lv_at hl 3 rfl) ?_
        refine tSi (As := [.int a3]) (rest := []) F hK hN hO (c_X6_isSpan E (dayD (.inl (0, 18))) (dayD (.inl (0, 18))) (riverD (.inl Fa1) (.inl Fb1) (.inl (0, 4)) 31 33 35 39 43 47) (riverD (.inl Fa2) (.inl Fb2) (.inl (0, 4)) 32 34 36 40 44 48) (rcD (.inl (t, t)) (.inr kr) (.inr ks) (.inl kb)) rd tp A14F A14F A4F A4F A14F A14F (riverD (.inl Fa3) (.inl Fb3) (.inl (0, 4)) 3 8 3 41 45 49) (riverD (.inl Fa4) (.inl Fb4) (.inl (0, 4)) 3 8 3 42 46 50) ((.inr (.inl (0, 12, Pd1)))) ((.inr (.inl (0, 12, Pd2)))) ((.inr (.inl (0, 12, Pd3)))) ((.inr (.inl (0, 12, Pd4)))) ((.inr (.inl (0, 12, Ps1)))) ((.inr (.inl (0, 12, Ps2)))) ((.inr (.inl (0, 12, Ps3)))) ((.inr (.inl (0, 12, Ps4)))) ((.inr (.inl (0, 48, Pi1)))) ((.inr (.inl (0, 48, Pi2)))) ((.inr (.inl (0, 48, Pi3)))) ((.inr (.inl (0, 48, Pi4)))) a3) ms_X6_isSpan wd_47_14 ⟨Nat.le_of_ble_eq_true rfl, Nat.le_of_ble_eq_true rfl⟩ ⟨Nat.le_of_ble_eq_true rfl, Nat.le_of_ble_eq_true rfl⟩ hH hS rfl hl.1 (Nat.le_of_ble_eq_true rfl) dX6_gain_20 (fun z_18 H locs hq hS => ?_)
        obtain ⟨f_19, f_20, hH⟩ := hq
        have hH : TH E (tbC (dayD (.inl (0, 18))) (dayD (.inl (0, 18))) (riverD (.inl Fa1) (.inl Fb1) (.inl (0, 4)) 31 33 35 39 43 47) (riverD (.inl Fa2) (.inl Fb2) (.inl (0, 4)) 32 34 36 40 44 48) (rcD (.inl (t, t)) (.inr kr) (.inr ks) (.inl kb)) rd tp A14F A14F A4F A4F A14F A14F (riverD (.inl Fa3) (.inl Fb3) (.inl (0, 4)) 3 8 3 41 45 49) (riverD (.inl Fa4) (.inl Fb4) (.inl (0, 4)) 3 8 3 42 46 50) ((.inr (.inl (0, 12, Pd1)))) ((.inr (.inl (0, 12, Pd2)))) ((.inr (.inl (0, 12, Pd3)))) ((.inr (.inl (0, 12, Pd4)))) ((.inr (.inl (0, 12, Ps1)))) ((.inr (.inl (0, 12, Ps2)))) ((.inr (.inl (0, 12, Ps3)))) ((.inr (.inl (0, 12, Ps4)))) ((.inr (.inl (0, 48, Pi1)))) ((.inr (.inl (0, 48, Pi2)))) ((.inr (.inl (0, 48, Pi3)))) ((.inr (.inl (0, 48, Pi4))))) H := hH
        refine z_ne (tgt := 30) F dX6_gain_23 (by decide) (fun c_21 => ?_) (fun c_21 => ?_)
        · skip
          have r_22 : 1 ≤ z_18.toInt ∧ z_18.toInt ≤ 1 := by have h9_ := f_19; omega
          have r_23 : 1 ≤ a3.toInt ∧ a3.toInt ≤ 360 := by have h9_ := (i32b a3); omega
          refine lv_aload_n F.1 F.2.1 dX6_gain_30 rfl (lv_at hl 0 rfl) ?_
          refine tGetR (j := 12) F hK hH (tyb ha0 (all1 rfl)) rfl (all1 rfl) clX6 (by decide) wd_2_11 dX6_gain_31 (fun q_25 hq_25 _ => ?_)
          refine lv_aload_n F.1 F.2.1 dX6_gain_34 rfl (lv_at hl 0 rfl) ?_
          refine tGetR0 (j := 2) F hK hH (tyb ha0 (all1 rfl)) rfl clX6 (by decide) wd_1_17 dX6_gain_35 (fun q_26 hq_26 => ?_)
          refine lv_aload_n F.1 F.2.1 dX6_gain_38 rfl (lv_at hl 0 rfl) ?_
          refine tGetR (j := 4) F hK hH (tyb ha0 (all1 rfl)) rfl (all1 rfl) clX6 (by decide) wd_1_22 dX6_gain_39 (fun q_27 hq_27 _ => ?_)
          refine tVv (b := q_25) (As := [.ref q_26, .ref q_27]) (rest := []) F hK hN hO (c_X1_begin E (rcD (.inl (t, t)) (.inr kr) (.inr ks) (.inl kb)) rd tp Fa1 Fb1 Fa2 Fb2 Fa3 Fb3 Fa4 Fb4 Pd1 Pd2 Pd3 Pd4 Ps1 Ps2 Ps3 Ps4 Pi1 Pi2 Pi3 Pi4 q_25 q_26 q_27 hq_25 (hkr _ hq_26) hq_27 hFa1 hFb1 hFa2 hFb2 hFa3 hFb3 hFa4 hFb4 hPd1 hPd2 hPd3 hPd4 hPs1 hPs2 hPs3 hPs4 hPi1 hPi2 hPi3 hPi4) mv_X1_begin wd_34_15 ⟨Nat.le_of_ble_eq_true rfl, Nat.le_of_ble_eq_true rfl⟩ ⟨Nat.le_of_ble_eq_true rfl, Nat.le_of_ble_eq_true rfl⟩ hH hS (tRecv hK hH (tyb hq_25 (all1 rfl)) clX1) rfl hl.1 (Nat.le_of_ble_eq_true rfl) dX6_gain_42 (fun H locs hq hS => ?_)
          have hH := hq
          have hH : TH E (tbC (dayD (.inl (0, 18))) (dayD (.inl (0, 18))) (riverD (.inl Fa1) (.inl Fb1) (.inl (0, 4)) 31 33 35 39 43 47) (riverD (.inl Fa2) (.inl Fb2) (.inl (0, 4)) 32 34 36 40 44 48) (rcD (.inl (t, t)) (.inr kr) (.inr ks) (.inl kb)) rd tp A14F A14F A4F A4F A14F A14F (riverD (.inl Fa3) (.inl Fb3) (.inl (0, 4)) 3 8 3 41 45 49) (riverD (.inl Fa4) (.inl Fb4) (.inl (0, 4)) 3 8 3 42 46 50) ((.inr (.inl (0, 12, Pd1)))) ((.inr (.inl (0, 12, Pd2)))) ((.inr (.inl (0, 12, Pd3)))) ((.inr (.inl (0, 12, Pd4)))) ((.inr (.inl (0, 12, Ps1)))) ((.inr (.inl (0, 12, Ps2)))) ((.inr (.inl (0, 12, Ps3)))) ((.inr (.inl (0, 12, Ps4)))) ((.inr (.inl (0, 48, Pi1)))) ((.inr (.inl (0, 48, Pi2)))) ((.inr (.inl (0, 48, Pi3)))) ((.inr (.inl (0, 48, Pi4))))) H := hH
          refine lv_aload_n F.1 F.2.1 dX6_gain_45 rfl (lv_at hl 0 rfl) ?_
          refine tGetR (j := 12) F hK hH (tyb ha0 (all1 rfl)) rfl (all1 rfl) clX6 (by decide) wd_2_11 dX6_gain_46 (fun q_29 hq_29 _ => ?_)
          refine lv_iload_n F.1 F.2.1 dX6_gain_49 rfl (lv_at hl 3 rfl) ?_
          refine lv_iconst (v := (-1)) F.1 F.2.1 dX6_gain_50 (by decide) ?_
          refine topK (a := (-1)) (by decide) (fun k_30 hk_30 => ?_)
          refine tVv (b := q_29) (As := [.int a3, .int k_30]) (rest := []) F hK hN hO (c_X1_run E (rcD (.inl (t, t)) (.inr kr) (.inr ks) (.inl kb)) rd tp Fa1 Fb1 Fa2 Fb2 Fa3 Fb3 Fa4 Fb4 Pd1 Pd2 Pd3 Pd4 Ps1 Ps2 Ps3 Ps4 Pi1 Pi2 Pi3 Pi4 q_29 a3 k_30 hq_29 r_23 hFa1 hFb1 hFa2 hFb2 hFa3 hFb3 hFa4 hFb4 hPd1 hPd2 hPd3 hPd4 hPs1 hPs2 hPs3 hPs4 hPi1 hPi2 hPi3 hPi4) mv_X1_run wd_35_2 ⟨Nat.le_of_ble_eq_true rfl, Nat.le_of_ble_eq_true rfl⟩ ⟨Nat.le_of_ble_eq_true rfl, Nat.le_of_ble_eq_true rfl⟩ hH hS (tRecv hK hH (tyb hq_29 (all1 rfl)) clX1) rfl hl.1 (Nat.le_of_ble_eq_true rfl) dX6_gain_51 (fun H locs hq hS => ?_)
          have hH := hq
          have hH : TH E (tbC (dayD (.inl (0, 18))) (dayD (.inl (0, 18))) (riverD (.inl Fa1) (.inl Fb1) (.inl (0, 4)) 31 33 35 39 43 47) (riverD (.inl Fa2) (.inl Fb2) (.inl (0, 4)) 32 34 36 40 44 48) (rcD (.inl (t, t)) (.inr kr) (.inr ks) (.inl kb)) rd tp A14F A14F A4F A4F A14F A14F (riverD (.inl Fa3) (.inl Fb3) (.inl (0, 4)) 3 8 3 41 45 49) (riverD (.inl Fa4) (.inl Fb4) (.inl (0, 4)) 3 8 3 42 46 50) ((.inr (.inl (0, 12, Pd1)))) ((.inr (.inl (0, 12, Pd2)))) ((.inr (.inl (0, 12, Pd3)))) ((.inr (.inl (0, 12, Pd4)))) ((.inr (.inl (0, 12, Ps1)))) ((.inr (.inl (0, 12, Ps2)))) ((.inr (.inl (0, 12, Ps3)))) ((.inr (.inl (0, 12, Ps4)))) ((.inr (.inl (0, 48, Pi1)))) ((.inr (.inl (0, 48, Pi2)))) ((.inr (.inl (0, 48, Pi3)))) ((.inr (.inl (0, 48, Pi4))))) H := hH
          refine lv_aload_n F.1 F.2.1 dX6_gain_54 rfl (lv_at hl 0 rfl) ?_
          refine tGetR (j := 12) F hK hH (tyb ha0 (all1 rfl)) rfl (all1 rfl) clX6 (by decide) wd_2_11 dX6_gain_55 (fun q_32 hq_32 _ => ?_)
          refine lv_iconst (v := 3) F.1 F.2.1 dX6_gain_58 (by decide) ?_
          refine topK (a := 3) (by decide) (fun k_33 hk_33 => ?_)
          refine tVi (b := q_32) (As := [.int k_33]) (rest := []) F hK hN hO (c_X1_sumOf E (rcD (.inl (t, t)) (.inr kr) (.inr ks) (.inl kb)) rd tp Fa1 Fb1 Fa2 Fb2 Fa3 Fb3 Fa4 Fb4 Pd1 Pd2 Pd3 Pd4 Ps1 Ps2 Ps3 Ps4 Pi1 Pi2 Pi3 Pi4 q_32 k_33 hq_32 (wkb (eqb hk_33) rfl rfl) hFa1 hFb1 hFa2 hFb2 hFa3 hFb3 hFa4 hFb4 hPd1 hPd2 hPd3 hPd4 hPs1 hPs2 hPs3 hPs4 hPi1 hPi2 hPi3 hPi4) mv_X1_sumOf wd_49_15 ⟨Nat.le_of_ble_eq_true rfl, Nat.le_of_ble_eq_true rfl⟩ ⟨Nat.le_of_ble_eq_true rfl, Nat.le_of_ble_eq_true rfl⟩ hH hS (tRecv hK hH (tyb hq_32 (all1 rfl)) clX1) rfl hl.1 (Nat.le_of_ble_eq_true rfl) dX6_gain_59 (fun z_34 H locs hq hS => ?_)
          obtain ⟨f_35, hH⟩ := hq
          have hH : TH E (tbC (dayD (.inl (0, 18))) (dayD (.inl (0, 18))) (riverD (.inl Fa1) (.inl Fb1) (.inl (0, 4)) 31 33 35 39 43 47) (riverD (.inl Fa2) (.inl Fb2) (.inl (0, 4)) 32 34 36 40 44 48) (rcD (.inl (t, t)) (.inr kr) (.inr ks) (.inl kb)) rd tp A14F A14F A4F A4F A14F A14F (riverD (.inl Fa3) (.inl Fb3) (.inl (0, 4)) 3 8 3 41 45 49) (riverD (.inl Fa4) (.inl Fb4) (.inl (0, 4)) 3 8 3 42 46 50) ((.inr (.inl (0, 12, Pd1)))) ((.inr (.inl (0, 12, Pd2)))) ((.inr (.inl (0, 12, Pd3)))) ((.inr (.inl (0, 12, Pd4)))) ((.inr (.inl (0, 12, Ps1)))) ((.inr (.inl (0, 12, Ps2)))) ((.inr (.inl (0, 12, Ps3)))) ((.inr (.inl (0, 12, Ps4)))) ((.inr (.inl (0, 48, Pi1)))) ((.inr (.inl (0, 48, Pi2)))) ((.inr (.inl (0, 48, Pi3)))) ((.inr (.inl (0, 48, Pi4))))) H := hH
          refine lv_istore (lv' := [(4, .int z_34), (0, .ref a0), (1, .int a1), (2, .int a2), (3, .int a3)]) F.1 F.2.1 dX6_gain_62 hl (by decide) rfl (fun ls hl => ?_)
          refine lv_aload_n F.1 F.2.1 dX6_gain_64 rfl (lv_at hl 1 rfl) ?_
          refine tGetR (j := 12) F hK hH (tyb ha0 (all1 rfl)) rfl (all1 rfl) clX6 (by decide) wd_2_11 dX6_gain_65 (fun q_36 hq_36 _ => ?_)
          refine lv_aload_n F.1 F.2.1 dX6_gain_68 rfl (lv_at hl 1 rfl) ?_
          refine tGetR0 (j := 2) F hK hH (tyb ha0 (all1 rfl)) rfl clX6 (by decide) wd_1_17 dX6_gain_69 (fun q_37 hq_37 => ?_)
          refine lv_aload_n F.1 F.2.1 dX6_gain_72 rfl (lv_at hl 1 rfl) ?_
          refine tGetR (j := 4) F hK hH (tyb ha0 (all1 rfl)) rfl (all1 rfl) clX6 (by decide) wd_1_22 dX6_gain_73 (fun q_38 hq_38 _ => ?_)
          refine tVv (b := q_36) (As := [.ref q_37, .ref q_38]) (rest := []) F hK hN hO (c_X1_begin E (rcD (.inl (t, t)) (.inr kr) (.inr ks) (.inl kb)) rd tp Fa1 Fb1 Fa2 Fb2 Fa3 Fb3 Fa4 Fb4 Pd1 Pd2 Pd3 Pd4 Ps1 Ps2 Ps3 Ps4 Pi1 Pi2 Pi3 Pi4 q_36 q_37 q_38 hq_36 (hkr _ hq_37) hq_38 hFa1 hFb1 hFa2 hFb2 hFa3 hFb3 hFa4 hFb4 hPd1 hPd2 hPd3 hPd4 hPs1 hPs2 hPs3 hPs4 hPi1 hPi2 hPi3 hPi4) mv_X1_begin wd_34_15 ⟨Nat.le_of_ble_eq_true rfl, Nat.le_of_ble_eq_true rfl⟩ ⟨Nat.le_of_ble_eq_true rfl, Nat.le_of_ble_eq_true rfl⟩ hH hS (tRecv hK hH (tyb hq_36 (all1 rfl)) clX1) rfl hl.1 (Nat.le_of_ble_eq_true rfl) dX6_gain_76 (fun H locs hq hS => ?_)
          have hH := hq
          have hH : TH E (tbC (dayD (.inl (0, 18))) (dayD (.inl (0, 18))) (riverD (.inl Fa1) (.inl Fb1) (.inl (0, 4)) 31 33 35 39 43 47) (riverD (.inl Fa2) (.inl Fb2) (.inl (0, 4)) 32 34 36 40 44 48) (rcD (.inl (t, t)) (.inr kr) (.inr ks) (.inl kb)) rd tp A14F A14F A4F A4F A14F A14F (riverD (.inl Fa3) (.inl Fb3) (.inl (0, 4)) 3 8 3 41 45 49) (riverD (.inl Fa4) (.inl Fb4) (.inl (0, 4)) 3 8 3 42 46 50) ((.inr (.inl (0, 12, Pd1)))) ((.inr (.inl (0, 12, Pd2)))) ((.inr (.inl (0, 12, Pd3)))) ((.inr (.inl (0, 12, Pd4)))) ((.inr (.inl (0, 12, Ps1)))) ((.inr (.inl (0, 12, Ps2)))) ((.inr (.inl (0, 12, Ps3)))) ((.inr (.inl (0, 12, Ps4)))) ((.inr (.inl (0, 48, Pi1)))) ((.inr (.inl (0, 48, Pi2)))) ((.inr (.inl (0, 48, Pi3)))) ((.inr (.inl (0, 48, Pi4))))) H := hH
          refine lv_aload_n F.1 F.2.1 dX6_gain_79 rfl (lv_at hl 1 rfl) ?_
          refine tGetR (j := 12) F hK hH (tyb ha0 (all1 rfl)) rfl (all1 rfl) clX6 (by decide) wd_2_11 dX6_gain_80 (fun q_40 hq_40 _ => ?_)
          refine lv_iload_n F.1 F.2.1 dX6_gain_83 rfl (lv_at hl 2 rfl) ?_
          refine lv_iload_n F.1 F.2.1 dX6_gain_84 rfl (lv_at hl 3 rfl) ?_
          refine tVv (b := q_40) (As := [.int a1, .int a2]) (rest := []) F hK hN hO (c_X1_comeMore E (rcD (.inl (t, t)) (.inr kr) (.inr ks) (.inl kb)) rd tp Fa1 Fb1 Fa2 Fb2 Fa3 Fb3 Fa4 Fb4 Pd1 Pd2 Pd3 Pd4 Ps1 Ps2 Ps3 Ps4 Pi1 Pi2 Pi3 Pi4 q_40 a1 a2 hq_40 hFa1 hFb1 hFa2 hFb2 hFa3 hFb3 hFa4 hFb4 hPd1 hPd2 hPd3 hPd4 hPs1 hPs2 hPs3 hPs4 hPi1 hPi2 hPi3 hPi4) mv_X1_comeMore wd_59_3 ⟨Nat.le_of_ble_eq_true rfl, Nat.le_of_ble_eq_true rfl⟩ ⟨Nat.le_of_ble_eq_true rfl, Nat.le_of_ble_eq_true rfl⟩ hH hS (tRecv hK hH (tyb hq_40 (all1 rfl)) clX1) rfl hl.1 (Nat.le_of_ble_eq_true rfl) dX6_gain_85 (fun H locs hq hS => ?_)
          have hH := hq
          have hH : TH E (tbC (dayD (.inl (0, 18))) (dayD (.inl (0, 18))) (riverD (.inl Fa1) (.inl Fb1) (.inl (0, 4)) 31 33 35 39 43 47) (riverD (.inl Fa2) (.inl Fb2) (.inl (0, 4)) 32 34 36 40 44 48) (rcD (.inl (t, t)) (.inr kr) (.inr ks) (.inl kb)) rd tp A14F A14F A4F A4F A14F A14F (riverD (.inl Fa3) (.inl Fb3) (.inl (0, 4)) 3 8 3 41 45 49) (riverD (.inl Fa4) (.inl Fb4) (.inl (0, 4)) 3 8 3 42 46 50) ((.inr (.inl (0, 12, Pd1)))) ((.inr (.inl (0, 12, Pd2)))) ((.inr (.inl (0, 12, Pd3)))) ((.inr (.inl (0, 12, Pd4)))) ((.inr (.inl (0, 12, Ps1)))) ((.inr (.inl (0, 12, Ps2)))) ((.inr (.inl (0, 12, Ps3)))) ((.inr (.inl (0, 12, Ps4)))) ((.inr (.inl (0, 48, Pi1)))) ((.inr (.inl (0, 48, Pi2)))) ((.inr (.inl (0, 48, Pi3)))) ((.inr (.inl (0, 48, Pi4))))) H := hH
          refine lv_aload_n F.1 F.2.1 dX6_gain_88 rfl (lv_at hl 1 rfl) ?_
          refine tGetR (j := 12) F hK hH (tyb ha0 (all1 rfl)) rfl (all1 rfl) clX6 (by decide) wd_2_11 dX6_gain_89 (fun q_42 hq_42 _ => ?_)
          refine lv_iload_n F.1 F.2.1 dX6_gain_92 rfl (lv_at hl 4 rfl) ?_
          refine lv_iconst (v := (-1)) F.1 F.2.1 dX6_gain_93 (by decide) ?_
          refine topK (a := (-1)) (by decide) (fun k_43 hk_43 => ?_)
          refine tVv (b := q_42) (As := [.int a3, .int k_43]) (rest := []) F hK hN hO (c_X1_run E (rcD (.inl (t, t)) (.inr kr) (.inr ks) (.inl kb)) rd tp Fa1 Fb1 Fa2 Fb2 Fa3 Fb3 Fa4 Fb4 Pd1 Pd2 Pd3 Pd4 Ps1 Ps2 Ps3 Ps4 Pi1 Pi2 Pi3 Pi4 q_42 a3 k_43 hq_42 r_23 hFa1 hFb1 hFa2 hFb2 hFa3 hFb3 hFa4 hFb4 hPd1 hPd2 hPd3 hPd4 hPs1 hPs2 hPs3 hPs4 hPi1 hPi2 hPi3 hPi4) mv_X1_run wd_35_2 ⟨Nat.le_of_ble_eq_true rfl, Nat.le_of_ble_eq_true rfl⟩ ⟨Nat.le_of_ble_eq_true rfl, Nat.le_of_ble_eq_true rfl⟩ hH hS (tRecv hK hH (tyb hq_42 (all1 rfl)) clX1) rfl hl.1 (Nat.le_of_ble_eq_true rfl) dX6_gain_94 (fun H locs hq hS => ?_)
          have hH := hq
          have hH : TH E (tbC (dayD (.inl (0, 18))) (dayD (.inl (0, 18))) (riverD (.inl Fa1) (.inl Fb1) (.inl (0, 4)) 31 33 35 39 43 47) (riverD (.inl Fa2) (.inl Fb2) (.inl (0, 4)) 32 34 36 40 44 48) (rcD (.inl (t, t)) (.inr kr) (.inr ks) (.inl kb)) rd tp A14F A14F A4F A4F A14F A14F (riverD (.inl Fa3) (.inl Fb3) (.inl (0, 4)) 3 8 3 41 45 49) (riverD (.inl Fa4) (.inl Fb4) (.inl (0, 4)) 3 8 3 42 46 50) ((.inr (.inl (0, 12, Pd1)))) ((.inr (.inl (0, 12, Pd2)))) ((.inr (.inl (0, 12, Pd3)))) ((.inr (.inl (0, 12, Pd4)))) ((.inr (.inl (0, 12, Ps1)))) ((.inr (.inl (0, 12, Ps2)))) ((.inr (.inl (0, 12, Ps3)))) ((.inr (.inl (0, 12, Ps4)))) ((.inr (.inl (0, 48, Pi1)))) ((.inr (.inl (0, 48, Pi2)))) ((.inr (.inl (0, 48, Pi3)))) ((.inr (.inl (0, 48, Pi4))))) H := hH
          refine lv_aload_n F.1 F.2.1 dX6_gain_97 rfl (lv_at hl 1 rfl) ?_
          refine tGetR (j := 12) F hK hH (tyb ha0 (all1 rfl)) rfl (all1 rfl) clX6 (by decide) wd_2_11 dX6_gain_98 (fun q_45 hq_45 _ => ?_)
          refine lv_iconst (v := 3) F.1 F.2.1 dX6_gain_101 (by decide) ?_
          refine topK (a := 3) (by decide) (fun k_46 hk_46 => ?_)
          refine tVi (b := q_45) (As := [.int k_46]) (rest := []) F hK hN hO (c_X1_sumOf E (rcD (.inl (t, t)) (.inr kr) (.inr ks) (.inl kb)) rd tp Fa1 Fb1 Fa2 Fb2 Fa3 Fb3 Fa4 Fb4 Pd1 Pd2 Pd3 Pd4 Ps1 Ps2 Ps3 Ps4 Pi1 Pi2 Pi3 Pi4 q_45 k_46 hq_45 (wkb (eqb hk_46) rfl rfl) hFa1 hFb1 hFa2 hFb2 hFa3 hFb3 hFa4 hFb4 hPd1 hPd2 hPd3 hPd4 hPs1 hPs2 hPs3 hPs4 hPi1 hPi2 hPi3 hPi4) mv_X1_sumOf wd_49_15 ⟨Nat.le_of_ble_eq_true rfl, Nat.le_of_ble_eq_true rfl⟩ ⟨Nat.le_of_ble_eq_true rfl, Nat.le_of_ble_eq_true rfl⟩ hH hS (tRecv hK hH (tyb hq_45 (all1 rfl)) clX1) rfl hl.1 (Nat.le_of_ble_eq_true rfl) dX6_gain_102 (fun z_47 H locs hq hS => ?_)
          obtain ⟨f_48, hH⟩ := hq
          have hH : TH E (tbC (dayD (.inl (0, 18))) (dayD (.inl (0, 18))) (riverD (.inl Fa1) (.inl Fb1) (.inl (0, 4)) 31 33 35 39 43 47) (riverD (.inl Fa2) (.inl Fb2) (.inl (0, 4)) 32 34 36 40 44 48) (rcD (.inl (t, t)) (.inr kr) (.inr ks) (.inl kb)) rd tp A14F A14F A4F A4F A14F A14F (riverD (.inl Fa3) (.inl Fb3) (.inl (0, 4)) 3 8 3 41 45 49) (riverD (.inl Fa4) (.inl Fb4) (.inl (0, 4)) 3 8 3 42 46 50) ((.inr (.inl (0, 12, Pd1)))) ((.inr (.inl (0, 12, Pd2)))) ((.inr (.inl (0, 12, Pd3)))) ((.inr (.inl (0, 12, Pd4)))) ((.inr (.inl (0, 12, Ps1)))) ((.inr (.inl (0, 12, Ps2)))) ((.inr (.inl (0, 12, Ps3)))) ((.inr (.inl (0, 12, Ps4)))) ((.inr (.inl (0, 48, Pi1)))) ((.inr (.inl (0, 48, Pi2)))) ((.inr (.inl (0, 48, Pi3)))) ((.inr (.inl (0, 48, Pi4))))) H := hH
          refine lv_iload F.1 F.2.1 dX6_gain_105 (lv_at hl 0 rfl) ?_
          refine lv_isub F.1 F.2.1 dX6_gain_107 ?_
          refine topF (fun z_49 => ?_)
          exact txI F hS dX6_gain_108 rfl (⟨(i32b _), hH⟩)
        · skip
          have r_24 : 0 ≤ z_18.toInt ∧ z_18.toInt ≤ 0 := by have h9_ := f_19; omega
          refine lv_ldcw (own := RX6) (v := (-2147483648)) F.1 F.2.1 F.2.2.2.2.1 (F.2.2.2.2.2.2.1 _ wd_48_3) dX6_gain_26 ?_
          refine topK (a := (-2147483648)) (by decide) (fun k_50 hk_50 => ?_)
          exact txI F hS dX6_gain_29 rfl (⟨(wkb (eqb hk_50) rfl rfl), hH⟩)
set_option maxHeartbeats 4000000 in
set_option maxRecDepth 100000 in
theorem c_X6_share (E : Ev) (rd : TD) (tp : TD) (kb : Int × Int) (Fa1 : Int × Int) (Fb1 : Int × Int) (Fa2 : Int × Int) (Fb2 : Int × Int) (Fa3 : Int × Int) (Fb3 : Int × Int) (Fa4 : Int × Int) (Fb4 : Int × Int) (kr : List Nat) (ks : List Nat) (Pd1 : (Nat → Int32) → Prop) (Pd2 : (Nat → Int32) → Prop) (Pd3 : (Nat → Int32) → Prop) (Pd4 : (Nat → Int32) → Prop) (Ps1 : (Nat → Int32) → Prop) (Ps2 : (Nat → Int32) → Prop) (Ps3 : (Nat → Int32) → Prop) (Ps4 : (Nat → Int32) → Prop) (Pi1 : (Nat → Int32) → Prop) (Pi2 : (Nat → Int32) → Prop) (Pi3 : (Nat → Int32) → Prop) (Pi4 : (Nat → Int32) → Prop) (t : Int) (a0 : Nat) (a1 : Int32) (a2 : Int32) (ha0 : eT E a0 ∈ [28]) (ht : 0 ≤ t ∧ t ≤ 400) (hFa1 : 0 ≤ Fa1.1 ∧ Fa1.2 ≤ 12) (hFb1 : 0 ≤ Fb1.1 ∧ Fb1.2 ≤ 14) (hFa2 : 0 ≤ Fa2.1 ∧ Fa2.2 ≤ 12) (hFb2 : 0 ≤ Fb2.1 ∧ Fb2.2 ≤ 14) (hFa3 : 0 ≤ Fa3.1 ∧ Fa3.2 ≤ 12) (hFb3 : 0 ≤ Fb3.1 ∧ Fb3.2 ≤ 14) (hFa4 : 0 ≤ Fa4.1 ∧ Fa4.2 ≤ 12) (hFb4 : 0 ≤ Fb4.1 ∧ Fb4.2 ≤ 14) (hkr : ∀ t ∈ kr, t ∈ [26, 27]) (hks : ∀ t ∈ ks, t ∈ [26, 27]) (hPd1 : ∀ f, Pd1 f → ivP 12 (-2) 11 f) (hPd2 : ∀ f, Pd2 f → ivP 12 (-2) 11 f) (hPd3 : ∀ f, Pd3 f → ivP 12 (-2) 11 f) (hPd4 : ∀ f, Pd4 f → ivP 12 (-2) 11 f) (hPs1 : ∀ f, Ps1 f → ivP 12 (-2147483648) 2147483647 f) (hPs2 : ∀ f, Ps2 f → ivP 12 (-2147483648) 2147483647 f) (hPs3 : ∀ f, Ps3 f → ivP 12 (-2147483648) 2147483647 f) (hPs4 : ∀ f, Ps4 f → ivP 12 (-2147483648) 2147483647 f) (hPi1 : ∀ f, Pi1 f → ivP 48 (-2147483648) 2147483647 f) (hPi2 : ∀ f, Pi2 f → ivP 48 (-2147483648) 2147483647 f) (hPi3 : ∀ f, Pi3 f → ivP 48 (-2147483648) 2147483647 f) (hPi4 : ∀ f, Pi4 f → ivP 48 (-2147483648) 2147483647 f) : TcI E yX6_share cX6_share 6 .int ({ frames := 6, cells := 0, slots := 0, locals := 163 }) [.ref a0, .int a1, .int a2] (fun H => TH E (tbC (dayD (.inl (0, 18))) (dayD (.inl (0, 18))) (riverD (.inl Fa1) (.inl Fb1) (.inl (0, 4)) 31 33 35 39 43 47) (riverD (.inl Fa2) (.inl Fb2) (.inl (0, 4)) 32 34 36 40 44 48) (rcD (.inl (t, t)) (.inr kr) (.inr ks) (.inl kb)) rd tp A14F A14F A4F A4F A14F A14F (riverD (.inl Fa3) (.inl Fb3) (.inl (0, 4)) 3 8 3 41 45 49) (riverD (.inl Fa4) (.inl Fb4) (.inl (0, 4)) 3 8 3 42 46 50) ((.inr (.inl (0, 12, Pd1)))) ((.inr (.inl (0, 12, Pd2)))) ((.inr (.inl (0, 12, Pd3)))) ((.inr (.inl (0, 12, Pd4)))) ((.inr (.inl (0, 12, Ps1)))) ((.inr (.inl (0, 12, Ps2)))) ((.inr (.inl (0, 12, Ps3)))) ((.inr (.inl (0, 12, Ps4)))) ((.inr (.inl (0, 48, Pi1)))) ((.inr (.inl (0, 48, Pi2)))) ((.inr (.inl (0, 48, Pi3)))) ((.inr (.inl (0, 48, Pi4))))) H) (fun v H => ((-2147483648) ≤ v.toInt ∧ v.toInt ≤ 2147483647) ∧ TH E (tbC (dayD (.inl (0, 18))) (dayD (.inl (0, 18))) (riverD (.inl Fa1) (.inl Fb1) (.inl (0, 4)) 31 33 35 39 43 47) (riverD (.inl Fa2) (.inl Fb2) (.inl (0, 4)) 32 34 36 40 44 48) (rcD (.inl (t, t)) (.inr kr) (.inr ks) (.inl kb)) rd tp A14F A14F A4F A4F A14F A14F (riverD (.inl Fa3) (.inl Fb3) (.inl (0, 4)) 3 8 3 41 45 49) (riverD (.inl Fa4) (.inl Fb4) (.inl (0, 4)) 3 8 3 42 46 50) ((.inr (.inl (0, 12, Pd1)))) ((.inr (.inl (0, 12, Pd2)))) ((.inr (.inl (0, 12, Pd3)))) ((.inr (.inl (0, 12, Pd4)))) ((.inr (.inl (0, 12, Ps1)))) ((.inr (.inl (0, 12, Ps2)))) ((.inr (.inl (0, 12, Ps3)))) ((.inr (.inl (0, 12, Ps4)))) ((.inr (.inl (0, 48, Pi1)))) ((.inr (.inl (0, 48, Pi2)))) ((.inr (.inl (0, 48, Pi3)))) ((.inr (.inl (0, 48, Pi4))))) H) := by
  refine teI (by decide) (Nat.le_of_ble_eq_true rfl) ?_
  intro p_ ev_ s mi_ below_ meth cd_ ls F hK hN hO hH hS hl
  have hH : TH E (tbC (dayD (.inl (0, 18))) (dayD (.inl (0, 18))) (riverD (.inl Fa1) (.inl Fb1) (.inl (0, 4)) 31 33 35 39 43 47) (riverD (.inl Fa2) (.inl Fb2) (.inl (0, 4)) 32 34 36 40 44 48) (rcD (.inl (t, t)) (.inr kr) (.inr ks) (.inl kb)) rd tp A14F A14F A4F A4F A14F A14F (riverD (.inl Fa3) (.inl Fb3) (.inl (0, 4)) 3 8 3 41 45 49) (riverD (.inl Fa4) (.inl Fb4) (.inl (0, 4)) 3 8 3 42 46 50) ((.inr (.inl (0, 12, Pd1)))) ((.inr (.inl (0, 12, Pd2)))) ((.inr (.inl (0, 12, Pd3)))) ((.inr (.inl (0, 12, Pd4)))) ((.inr (.inl (0, 12, Ps1)))) ((.inr (.inl (0, 12, Ps2)))) ((.inr (.inl (0, 12, Ps3)))) ((.inr (.inl (0, 12, Ps4)))) ((.inr (.inl (0, 48, Pi1)))) ((.inr (.inl (0, 48, Pi2)))) ((.inr (.inl (0, 48, Pi3)))) ((.inr (.inl (0, 48, Pi4))))) s.heap := hH
  have hl : lv_has ls 6 [(0, .ref a0), (1, .int a1), (2, .int a2)] := hl
  refine lv_iload_n F.1 F.2.1 dX6_share_0 rfl (lv_at hl 1 rfl) ?_
  refine lv_iconst (v := (-1)) F.1 F.2.1 dX6_share_1 (by decide) ?_
  refine topK (a := (-1)) (by decide) (fun k_1 hk_1 => ?_)
  refine wjoin (σ := Int32) (pcj := 13) (stj := fun x9 => []) (fun x9 H locs ls => ((-1) ≤ x9.toInt ∧ x9.toInt ≤ 13) ∧ TH E (tbC (dayD (.inl (0, 18))) (dayD (.inl (0, 18))) (riverD (.inl Fa1) (.inl Fb1) (.inl (0, 4)) 31 33 35 39 43 47) (riverD (.inl Fa2) (.inl Fb2) (.inl (0, 4)) 32 34 36 40 44 48) (rcD (.inl (t, t)) (.inr kr) (.inr ks) (.inl kb)) rd tp A14F A14F A4F A4F A14F A14F (riverD (.inl Fa3) (.inl Fb3) (.inl (0, 4)) 3 8 3 41 45 49) (riverD (.inl Fa4) (.inl Fb4) (.inl (0, 4)) 3 8 3 42 46 50) ((.inr (.inl (0, 12, Pd1)))) ((.inr (.inl (0, 12, Pd2)))) ((.inr (.inl (0, 12, Pd3)))) ((.inr (.inl (0, 12, Pd4)))) ((.inr (.inl (0, 12, Ps1)))) ((.inr (.inl (0, 12, Ps2)))) ((.inr (.inl (0, 12, Ps3)))) ((.inr (.inl (0, 12, Ps4)))) ((.inr (.inl (0, 48, Pi1)))) ((.inr (.inl (0, 48, Pi2)))) ((.inr (.inl (0, 48, Pi3)))) ((.inr (.inl (0, 48, Pi4))))) H ∧ va_S (eA E s.heap.size) s.heap H locs ∧ lv_has ls 6 [(0, .ref a0), (1, .int x9), (2, .int a2)]) (fun u_2 H locs ls h_ => ?_) (fun J_13 => ?_)
  · skip
    obtain ⟨hu_2, hH, hS, hl⟩ := h_
    have hu_2 : ((-1) ≤ u_2.toInt ∧ u_2.toInt ≤ 13) := hu_2
    have hH : TH E (tbC (dayD (.inl (0, 18))) (dayD (.inl (0, 18))) (riverD (.inl Fa1) (.inl Fb1) (.inl (0, 4)) 31 33 35 39 43 47) (riverD (.inl Fa2) (.inl Fb2) (.inl (0, 4)) 32 34 36 40 44 48) (rcD (.inl (t, t)) (.inr kr) (.inr ks) (.inl kb)) rd tp A14F A14F A4F A4F A14F A14F (riverD (.inl Fa3) (.inl Fb3) (.inl (0, 4)) 3 8 3 41 45 49) (riverD (.inl Fa4) (.inl Fb4) (.inl (0, 4)) 3 8 3 42 46 50) ((.inr (.inl (0, 12, Pd1)))) ((.inr (.inl (0, 12, Pd2)))) ((.inr (.inl (0, 12, Pd3)))) ((.inr (.inl (0, 12, Pd4)))) ((.inr (.inl (0, 12, Ps1)))) ((.inr (.inl (0, 12, Ps2)))) ((.inr (.inl (0, 12, Ps3)))) ((.inr (.inl (0, 12, Ps4)))) ((.inr (.inl (0, 48, Pi1)))) ((.inr (.inl (0, 48, Pi2)))) ((.inr (.inl (0, 48, Pi3)))) ((.inr (.inl (0, 48, Pi4))))) H := hH
    have hl : lv_has ls 6 [(0, .ref a0), (1, .int u_2), (2, .int a2)] := hl
    show W _ _ _ _ _ _ _ _ _ _ _ _ _ _ _ (F0 _ _ _ [])
    refine lv_iload_n F.1 F.2.1 dX6_share_13 rfl (lv_at hl 2 rfl) ?_
    refine tSi (As := [.int a2]) (rest := []) F hK hN hO (c_X6_isSpan E (dayD (.inl (0, 18))) (dayD (.inl (0, 18))) (riverD (.inl Fa1) (.inl Fb1) (.inl (0, 4)) 31 33 35 39 43 47) (riverD (.inl Fa2) (.inl Fb2) (.inl (0, 4)) 32 34 36 40 44 48) (rcD (.inl (t, t)) (.inr kr) (.inr ks) (.inl kb)) rd tp A14F A14F A4F A4F A14F A14F (riverD (.inl Fa3) (.inl Fb3) (.inl (0, 4)) 3 8 3 41 45 49) (riverD (.inl Fa4) (.inl Fb4) (.inl (0, 4)) 3 8 3 42 46 50) ((.inr (.inl (0, 12, Pd1)))) ((.inr (.inl (0, 12, Pd2)))) ((.inr (.inl (0, 12, Pd3)))) ((.inr (.inl (0, 12, Pd4)))) ((.inr (.inl (0, 12, Ps1)))) ((.inr (.inl (0, 12, Ps2)))) ((.inr (.inl (0, 12, Ps3)))) ((.inr (.inl (0, 12, Ps4)))) ((.inr (.inl (0, 48, Pi1)))) ((.inr (.inl (0, 48, Pi2)))) ((.inr (.inl (0, 48, Pi3)))) ((.inr (.inl (0, 48, Pi4)))) a2) ms_X6_isSpan wd_47_14 ⟨Nat.le_of_ble_eq_true rfl, Nat.le_of_ble_eq_true rfl⟩ ⟨Nat.le_of_ble_eq_true rfl, Nat.le_of_ble_eq_true rfl⟩ hH hS rfl hl.1 (Nat.le_of_ble_eq_true rfl) dX6_share_14 (fun z_3 H locs hq hS => ?_)
    obtain ⟨f_4, f_5, hH⟩ := hq
    have hH : TH E (tbC (dayD (.inl (0, 18))) (dayD (.inl (0, 18))) (riverD (.inl Fa1) (.inl Fb1) (.inl (0, 4)) 31 33 35 39 43 47) (riverD (.inl Fa2) (.inl Fb2) (.inl (0, 4)) 32 34 36 40 44 48) (rcD (.inl (t, t)) (.inr kr) (.inr ks) (.inl kb)) rd tp A14F A14F A4F A4F A14F A14F (riverD (.inl Fa3) (.inl Fb3) (.inl (0, 4)) 3 8 3 41 45 49) (riverD (.inl Fa4) (.inl Fb4) (.inl (0, 4)) 3 8 3 42 46 50) ((.inr (.inl (0, 12, Pd1)))) ((.inr (.inl (0, 12, Pd2)))) ((.inr (.inl (0, 12, Pd3)))) ((.inr (.inl (0, 12, Pd4)))) ((.inr (.inl (0, 12, Ps1)))) ((.inr (.inl (0, 12, Ps2)))) ((.inr (.inl (0, 12, Ps3)))) ((.inr (.inl (0, 12, Ps4)))) ((.inr (.inl (0, 48, Pi1)))) ((.inr (.inl (0, 48, Pi2)))) ((.inr (.inl (0, 48, Pi3)))) ((.inr (.inl (0, 48, Pi4))))) H := hH
    refine z_ne (tgt := 22) F dX6_share_17 (by decide) (fun c_6 => ?_) (fun c_6 => ?_)
    · skip
      have r_7 : 1 ≤ z_3.toInt ∧ z_3.toInt ≤ 1 := by have h9_ := f_4; omega
      have r_8 : 1 ≤ a2.toInt ∧ a2.toInt ≤ 360 := by have h9_ := (i32b a2); omega
      refine lv_aload_n F.1 F.2.1 dX6_share_22 rfl (lv_at hl 0 rfl) ?_
      refine tGetR (j := 12) F hK hH (tyb ha0 (all1 rfl)) rfl (all1 rfl) clX6 (by decide) wd_2_11 dX6_share_23 (fun q_10 hq_10 _ => ?_)
      refine lv_aload_n F.1 F.2.1 dX6_share_26 rfl (lv_at hl 0 rfl) ?_
      refine tGetR0 (j := 2) F hK hH (tyb ha0 (all1 rfl)) rfl clX6 (by decide) wd_1_17 dX6_share_27 (fun q_11 hq_11 => ?_)
      refine lv_aload_n F.1 F.2.1 dX6_share_30 rfl (lv_at hl 0 rfl) ?_
      refine tGetR (j := 4) F hK hH (tyb ha0 (all1 rfl)) rfl (all1 rfl) clX6 (by decide) wd_1_22 dX6_share_31 (fun q_12 hq_12 _ => ?_)
      refine tVv (b := q_10) (As := [.ref q_11, .ref q_12]) (rest := []) F hK hN hO (c_X1_begin E (rcD (.inl (t, t)) (.inr kr) (.inr ks) (.inl kb)) rd tp Fa1 Fb1 Fa2 Fb2 Fa3 Fb3 Fa4 Fb4 Pd1 Pd2 Pd3 Pd4 Ps1 Ps2 Ps3 Ps4 Pi1 Pi2 Pi3 Pi4 q_10 q_11 q_12 hq_10 (hkr _ hq_11) hq_12 hFa1 hFb1 hFa2 hFb2 hFa3 hFb3 hFa4 hFb4 hPd1 hPd2 hPd3 hPd4 hPs1 hPs2 hPs3 hPs4 hPi1 hPi2 hPi3 hPi4) mv_X1_begin wd_34_15 ⟨Nat.le_of_ble_eq_true rfl, Nat.le_of_ble_eq_true rfl⟩ ⟨Nat.le_of_ble_eq_true rfl, Nat.le_of_ble_eq_true rfl⟩ hH hS (tRecv hK hH (tyb hq_10 (all1 rfl)) clX1) rfl hl.1 (Nat.le_of_ble_eq_true rfl) dX6_share_34 (fun H locs hq hS => ?_)
      have hH := hq
      have hH : TH E (tbC (dayD (.inl (0, 18))) (dayD (.inl (0, 18))) (riverD (.inl Fa1) (.inl Fb1) (.inl (0, 4)) 31 33 35 39 43 47) (riverD (.inl Fa2) (.inl Fb2) (.inl (0, 4)) 32 34 36 40 44 48) (rcD (.inl (t, t)) (.inr kr) (.inr ks) (.inl kb)) rd tp A14F A14F A4F A4F A14F A14F (riverD (.inl Fa3) (.inl Fb3) (.inl (0, 4)) 3 8 3 41 45 49) (riverD (.inl Fa4) (.inl Fb4) (.inl (0, 4)) 3 8 3 42 46 50) ((.inr (.inl (0, 12, Pd1)))) ((.inr (.inl (0, 12, Pd2)))) ((.inr (.inl (0, 12, Pd3)))) ((.inr (.inl (0, 12, Pd4)))) ((.inr (.inl (0, 12, Ps1)))) ((.inr (.inl (0, 12, Ps2)))) ((.inr (.inl (0, 12, Ps3)))) ((.inr (.inl (0, 12, Ps4)))) ((.inr (.inl (0, 48, Pi1)))) ((.inr (.inl (0, 48, Pi2)))) ((.inr (.inl (0, 48, Pi3)))) ((.inr (.inl (0, 48, Pi4))))) H := hH
      refine lv_aload_n F.1 F.2.1 dX6_share_37 rfl (lv_at hl 0 rfl) ?_
      refine tGetR (j := 12) F hK hH (tyb ha0 (all1 rfl)) rfl (all1 rfl) clX6 (by decide) wd_2_11 dX6_share_38 (fun q_14 hq_14 _ => ?_)
      refine lv_iload_n F.1 F.2.1 dX6_share_41 rfl (lv_at hl 2 rfl) ?_
      refine lv_iload_n F.1 F.2.1 dX6_share_42 rfl (lv_at hl 1 rfl) ?_
      refine tVv (b := q_14) (As := [.int a2, .int u_2]) (rest := []) F hK hN hO (c_X1_run E (rcD (.inl (t, t)) (.inr kr) (.inr ks) (.inl kb)) rd tp Fa1 Fb1 Fa2 Fb2 Fa3 Fb3 Fa4 Fb4 Pd1 Pd2 Pd3 Pd4 Ps1 Ps2 Ps3 Ps4 Pi1 Pi2 Pi3 Pi4 q_14 a2 u_2 hq_14 r_8 hFa1 hFb1 hFa2 hFb2 hFa3 hFb3 hFa4 hFb4 hPd1 hPd2 hPd3 hPd4 hPs1 hPs2 hPs3 hPs4 hPi1 hPi2 hPi3 hPi4) mv_X1_run wd_35_2 ⟨Nat.le_of_ble_eq_true rfl, Nat.le_of_ble_eq_true rfl⟩ ⟨Nat.le_of_ble_eq_true rfl, Nat.le_of_ble_eq_true rfl⟩ hH hS (tRecv hK hH (tyb hq_14 (all1 rfl)) clX1) rfl hl.1 (Nat.le_of_ble_eq_true rfl) dX6_share_43 (fun H locs hq hS => ?_)
      have hH := hq
      have hH : TH E (tbC (dayD (.inl (0, 18))) (dayD (.inl (0, 18))) (riverD (.inl Fa1) (.inl Fb1) (.inl (0, 4)) 31 33 35 39 43 47) (riverD (.inl Fa2) (.inl Fb2) (.inl (0, 4)) 32 34 36 40 44 48) (rcD (.inl (t, t)) (.inr kr) (.inr ks) (.inl kb)) rd tp A14F A14F A4F A4F A14F A14F (riverD (.inl Fa3) (.inl Fb3) (.inl (0, 4)) 3 8 3 41 45 49) (riverD (.inl Fa4) (.inl Fb4) (.inl (0, 4)) 3 8 3 42 46 50) ((.inr (.inl (0, 12, Pd1)))) ((.inr (.inl (0, 12, Pd2)))) ((.inr (.inl (0, 12, Pd3)))) ((.inr (.inl (0, 12, Pd4)))) ((.inr (.inl (0, 12, Ps1)))) ((.inr (.inl (0, 12, Ps2)))) ((.inr (.inl (0, 12, Ps3)))) ((.inr (.inl (0, 12, Ps4)))) ((.inr (.inl (0, 48, Pi1)))) ((.inr (.inl (0, 48, Pi2)))) ((.inr (.inl (0, 48, Pi3)))) ((.inr (.inl (0, 48, Pi4))))) H := hH
      refine lv_iload_n F.1 F.2.1 dX6_share_46 rfl (lv_at hl 1 rfl) ?_
      refine lv_iconst (v := (-1)) F.1 F.2.1 dX6_share_47 (by decide) ?_
      refine topK (a := (-1)) (by decide) (fun k_16 hk_16 => ?_)
      refine b_eq (tgt := 74) F dX6_share_48 (by decide) (fun c_17 => ?_) (fun c_17 => ?_)
      · skip
        have r_18 : (-1) ≤ u_2.toInt ∧ u_2.toInt ≤ (-1) := by have h9_ := hu_2; omega
        refine lv_lconst (v := 0) F.1 F.2.1 dX6_share_74 (by decide) ?_
        refine topKL (a := 0) (by decide) (fun j_20 hj_20 => ?_)
        refine lv_lstore_n (lv' := [(3, .long j_20), (0, .ref a0), (1, .int u_2), (2, .int a2)]) F.1 F.2.1 dX6_share_75 rfl hl (by decide) rfl (fun ls hl => ?_)
        refine lv_iconst (v := 0) F.1 F.2.1 dX6_share_76 (by decide) ?_
        refine topK (a := 0) (by decide) (fun k_21 hk_21 => ?_)
        refine lv_istore (lv' := [(5, .int k_21), (3, .long j_20), (0, .ref a0), (1, .int u_2), (2, .int a2)]) F.1 F.2.1 dX6_share_77 hl (by decide) rfl (fun ls hl => ?_)
        refine wloop (σ := Int64 × Int32) (fun n9 x9 H locs ls => (14 - x9.2.toInt + 1).toNat < n9 ∧ (0 ≤ x9.2.toInt ∧ x9.2.toInt ≤ 14) ∧ TH E (tbC (dayD (.inl (0, 18))) (dayD (.inl (0, 18))) (riverD (.inl Fa1) (.inl Fb1) (.inl (0, 4)) 31 33 35 39 43 47) (riverD (.inl Fa2) (.inl Fb2) (.inl (0, 4)) 32 34 36 40 44 48) (rcD (.inl (t, t)) (.inr kr) (.inr ks) (.inl kb)) rd tp A14F A14F A4F A4F A14F A14F (riverD (.inl Fa3) (.inl Fb3) (.inl (0, 4)) 3 8 3 41 45 49) (riverD (.inl Fa4) (.inl Fb4) (.inl (0, 4)) 3 8 3 42 46 50) ((.inr (.inl (0, 12, Pd1)))) ((.inr (.inl (0, 12, Pd2)))) ((.inr (.inl (0, 12, Pd3)))) ((.inr (.inl (0, 12, Pd4)))) ((.inr (.inl (0, 12, Ps1)))) ((.inr (.inl (0, 12, Ps2)))) ((.inr (.inl (0, 12, Ps3)))) ((.inr (.inl (0, 12, Ps4)))) ((.inr (.inl (0, 48, Pi1)))) ((.inr (.inl (0, 48, Pi2)))) ((.inr (.inl (0, 48, Pi3)))) ((.inr (.inl (0, 48, Pi4))))) H ∧ va_S (eA E s.heap.size) s.heap H locs ∧ lv_has ls 6 [(0, .ref a0), (3, .long x9.1), (5, .int x9.2)]) ?_ (fun x9 H locs ls h => absurd h.1 (Nat.not_lt_zero _)) _ (j_20, k_21) ⟨Nat.lt_succ_self _, (wkb (eqb hk_21) rfl rfl), hH, hS, lv_sub hl [2, 1, 0] rfl⟩
        intro n_79 ih_79 ⟨w_22, u_23⟩ H locs ls ⟨hm_79, hu_23, hH, hS, hl⟩
        have hm_79 : (14 - u_23.toInt + 1).toNat < n_79 + 1 := hm_79
        have hu_23 : (0 ≤ u_23.toInt ∧ u_23.toInt ≤ 14) := hu_23
        have hH : TH E (tbC (dayD (.inl (0, 18))) (dayD (.inl (0, 18))) (riverD (.inl Fa1) (.inl Fb1) (.inl (0, 4)) 31 33 35 39 43 47) (riverD (.inl Fa2) (.inl Fb2) (.inl (0, 4)) 32 34 36 40 44 48) (rcD (.inl (t, t)) (.inr kr) (.inr ks) (.inl kb)) rd tp A14F A14F A4F A4F A14F A14F (riverD (.inl Fa3) (.inl Fb3) (.inl (0, 4)) 3 8 3 41 45 49) (riverD (.inl Fa4) (.inl Fb4) (.inl (0, 4)) 3 8 3 42 46 50) ((.inr (.inl (0, 12, Pd1)))) ((.inr (.inl (0, 12, Pd2)))) ((.inr (.inl (0, 12, Pd3)))) ((.inr (.inl (0, 12, Pd4)))) ((.inr (.inl (0, 12, Ps1)))) ((.inr (.inl (0, 12, Ps2)))) ((.inr (.inl (0, 12, Ps3)))) ((.inr (.inl (0, 12, Ps4)))) ((.inr (.inl (0, 48, Pi1)))) ((.inr (.inl (0, 48, Pi2)))) ((.inr (.inl (0, 48, Pi3)))) ((.inr (.inl (0, 48, Pi4))))) H := hH
        have hl : lv_has ls 6 [(0, .ref a0), (3, .long w_22), (5, .int u_23)] := hl
        refine lv_iload F.1 F.2.1 dX6_share_79 (lv_at hl 2 rfl) ?_
        refine lv_aload_n F.1 F.2.1 dX6_share_81 rfl (lv_at hl 0 rfl) ?_
        refine tGetR0 (j := 2) F hK hH (tyb ha0 (all1 rfl)) rfl clX6 (by decide) wd_1_17 dX6_share_82 (fun q_24 hq_24 => ?_)
        refine tGetIB (j := 4) (lo := 0) (hi := 14) F hK hH (hkr _ hq_24) (alls ⟨_, _, rfl, rfl, by have h9_ := hFb1; omega⟩ (alls1 ⟨_, _, rfl, rfl, by have h9_ := hFb2; omega⟩)) clX2 (by decide) wd_8_18 dX6_share_85 (fun z_25 hz_25 => ?_)
        refine b_ge (tgt := 111) F dX6_share_88 (by decide) (fun c_26 => ?_) (fun c_26 => ?_)
        · skip
          refine lv_aload_n F.1 F.2.1 dX6_share_111 rfl (lv_at hl 0 rfl) ?_
          refine tGetR (j := 12) F hK hH (tyb ha0 (all1 rfl)) rfl (all1 rfl) clX6 (by decide) wd_2_11 dX6_share_112 (fun q_29 hq_29 _ => ?_)
          refine lv_iconst (v := 3) F.1 F.2.1 dX6_share_115 (by decide) ?_
          refine topK (a := 3) (by decide) (fun k_30 hk_30 => ?_)
          refine tVi (b := q_29) (As := [.int k_30]) (rest := []) F hK hN hO (c_X1_sumOf E (rcD (.inl (t, t)) (.inr kr) (.inr ks) (.inl kb)) rd tp Fa1 Fb1 Fa2 Fb2 Fa3 Fb3 Fa4 Fb4 Pd1 Pd2 Pd3 Pd4 Ps1 Ps2 Ps3 Ps4 Pi1 Pi2 Pi3 Pi4 q_29 k_30 hq_29 (wkb (eqb hk_30) rfl rfl) hFa1 hFb1 hFa2 hFb2 hFa3 hFb3 hFa4 hFb4 hPd1 hPd2 hPd3 hPd4 hPs1 hPs2 hPs3 hPs4 hPi1 hPi2 hPi3 hPi4) mv_X1_sumOf wd_49_15 ⟨Nat.le_of_ble_eq_true rfl, Nat.le_of_ble_eq_true rfl⟩ ⟨Nat.le_of_ble_eq_true rfl, Nat.le_of_ble_eq_true rfl⟩ hH hS (tRecv hK hH (tyb hq_29 (all1 rfl)) clX1) rfl hl.1 (Nat.le_of_ble_eq_true rfl) dX6_share_116 (fun z_31 H locs hq hS => ?_)
          obtain ⟨f_32, hH⟩ := hq
          have hH : TH E (tbC (dayD (.inl (0, 18))) (dayD (.inl (0, 18))) (riverD (.inl Fa1) (.inl Fb1) (.inl (0, 4)) 31 33 35 39 43 47) (riverD (.inl Fa2) (.inl Fb2) (.inl (0, 4)) 32 34 36 40 44 48) (rcD (.inl (t, t)) (.inr kr) (.inr ks) (.inl kb)) rd tp A14F A14F A4F A4F A14F A14F (riverD (.inl Fa3) (.inl Fb3) (.inl (0, 4)) 3 8 3 41 45 49) (riverD (.inl Fa4) (.inl Fb4) (.inl (0, 4)) 3 8 3 42 46 50) ((.inr (.inl (0, 12, Pd1)))) ((.inr (.inl (0, 12, Pd2)))) ((.inr (.inl (0, 12, Pd3)))) ((.inr (.inl (0, 12, Pd4)))) ((.inr (.inl (0, 12, Ps1)))) ((.inr (.inl (0, 12, Ps2)))) ((.inr (.inl (0, 12, Ps3)))) ((.inr (.inl (0, 12, Ps4)))) ((.inr (.inl (0, 48, Pi1)))) ((.inr (.inl (0, 48, Pi2)))) ((.inr (.inl (0, 48, Pi3)))) ((.inr (.inl (0, 48, Pi4))))) H := hH
          refine tI2l F dX6_share_119 (fun w_33 hw_33 => ?_)
          refine lv_lload_n F.1 F.2.1 dX6_share_120 rfl (lv_at hl 1 rfl) ?_
          refine tSi (As := [.long w_33, .long w_22]) (rest := []) F hK hN hO (c_X6_thousandths E (dayD (.inl (0, 18))) (dayD (.inl (0, 18))) (riverD (.inl Fa1) (.inl Fb1) (.inl (0, 4)) 31 33 35 39 43 47) (riverD (.inl Fa2) (.inl Fb2) (.inl (0, 4)) 32 34 36 40 44 48) (rcD (.inl (t, t)) (.inr kr) (.inr ks) (.inl kb)) rd tp A14F A14F A4F A4F A14F A14F (riverD (.inl Fa3) (.inl Fb3) (.inl (0, 4)) 3 8 3 41 45 49) (riverD (.inl Fa4) (.inl Fb4) (.inl (0, 4)) 3 8 3 42 46 50) ((.inr (.inl (0, 12, Pd1)))) ((.inr (.inl (0, 12, Pd2)))) ((.inr (.inl (0, 12, Pd3)))) ((.inr (.inl (0, 12, Pd4)))) ((.inr (.inl (0, 12, Ps1)))) ((.inr (.inl (0, 12, Ps2)))) ((.inr (.inl (0, 12, Ps3)))) ((.inr (.inl (0, 12, Ps4)))) ((.inr (.inl (0, 48, Pi1)))) ((.inr (.inl (0, 48, Pi2)))) ((.inr (.inl (0, 48, Pi3)))) ((.inr (.inl (0, 48, Pi4)))) w_33 w_22) ms_X6_thousandths wd_59_16 ⟨Nat.le_of_ble_eq_true rfl, Nat.le_of_ble_eq_true rfl⟩ ⟨Nat.le_of_ble_eq_true rfl, Nat.le_of_ble_eq_true rfl⟩ hH hS rfl hl.1 (Nat.le_of_ble_eq_true rfl) dX6_share_121 (fun z_34 H locs hq hS => ?_)
          obtain ⟨f_35, hH⟩ := hq
          have hH : TH E (tbC (dayD (.inl (0, 18))) (dayD (.inl (0, 18))) (riverD (.inl Fa1) (.inl Fb1) (.inl (0, 4)) 31 33 35 39 43 47) (riverD (.inl Fa2) (.inl Fb2) (.inl (0, 4)) 32 34 36 40 44 48) (rcD (.inl (t, t)) (.inr kr) (.inr ks) (.inl kb)) rd tp A14F A14F A4F A4F A14F A14F (riverD (.inl Fa3) (.inl Fb3) (.inl (0, 4)) 3 8 3 41 45 49) (riverD (.inl Fa4) (.inl Fb4) (.inl (0, 4)) 3 8 3 42 46 50) ((.inr (.inl (0, 12, Pd1)))) ((.inr (.inl (0, 12, Pd2)))) ((.inr (.inl (0, 12, Pd3)))) ((.inr (.inl (0, 12, Pd4)))) ((.inr (.inl (0, 12, Ps1)))) ((.inr (.inl (0, 12, Ps2)))) ((.inr (.inl (0, 12, Ps3)))) ((.inr (.inl (0, 12, Ps4)))) ((.inr (.inl (0, 48, Pi1)))) ((.inr (.inl (0, 48, Pi2)))) ((.inr (.inl (0, 48, Pi3)))) ((.inr (.inl (0, 48, Pi4))))) H := hH
          exact txI F hS dX6_share_124 rfl (⟨f_35, hH⟩)
        · skip
          have r_27 : 0 ≤ u_23.toInt ∧ u_23.toInt ≤ 13 := by have h9_ := hu_23; omega
          have r_28 : 1 ≤ z_25.toInt ∧ z_25.toInt ≤ 14 := by have h9_ := hz_25; omega
          refine lv_lload_n F.1 F.2.1 dX6_share_91 rfl (lv_at hl 1 rfl) ?_
          refine lv_aload_n F.1 F.2.1 dX6_share_92 rfl (lv_at hl 0 rfl) ?_
          refine tGetR (j := 12) F hK hH (tyb ha0 (all1 rfl)) rfl (all1 rfl) clX6 (by decide) wd_2_11 dX6_share_93 (fun q_36 hq_36 _ => ?_)
          refine tGetR (j := 4) F hK hH (tyb hq_36 (all1 rfl)) rfl (all1 rfl) clX1 (by decide) wd_59_15 dX6_share_96 (fun q_37 hq_37 _ => ?_)
          refine lv_iload F.1 F.2.1 dX6_share_99 (lv_at hl 2 rfl) ?_
          refine tIaldB F hK hH (tyb hq_37 (all1 rfl)) (ixb (n := 14) r_27 rfl rfl) dX6_share_101 (fun z_38 hz_38 => ?_)
          refine tI2l F dX6_share_102 (fun w_39 hw_39 => ?_)
          refine lv_ladd F.1 F.2.1 dX6_share_103 ?_
          refine topFL (fun w_40 => ?_)
          refine lv_lstore_n (lv' := [(3, .long w_40), (0, .ref a0), (5, .int u_23)]) F.1 F.2.1 dX6_share_104 rfl hl (by decide) rfl (fun ls hl => ?_)
          obtain ⟨x_41, ex_41, hx_41⟩ := iincB (c := 1) (lo := 1) (hi := 14) r_27 rfl
          refine lv_iinc (v := x_41) (lv' := [(5, .int x_41), (3, .long w_40), (0, .ref a0)]) F.1 F.2.1 dX6_share_105 hl (k := 2) rfl ex_41 (by decide) rfl (fun ls hl => ?_)
          refine lv_goto (tgt := 79) F.1 F.2.1 dX6_share_108 (by decide) ?_
          exact ih_79 (w_40, x_41) _ _ _ ⟨(show (14 - x_41.toInt + 1).toNat < n_79 from by omega), (wkb hx_41.2 rfl rfl), hH, hS, lv_sub hl [2, 1, 0] rfl⟩
      · skip
        have r_19 : 0 ≤ u_2.toInt ∧ u_2.toInt ≤ 13 := by have h9_ := hu_2; omega
        refine lv_aload_n F.1 F.2.1 dX6_share_51 rfl (lv_at hl 0 rfl) ?_
        refine tGetR (j := 12) F hK hH (tyb ha0 (all1 rfl)) rfl (all1 rfl) clX6 (by decide) wd_2_11 dX6_share_52 (fun q_42 hq_42 _ => ?_)
        refine lv_iload_n F.1 F.2.1 dX6_share_55 rfl (lv_at hl 1 rfl) ?_
        refine tVi (b := q_42) (As := [.int u_2]) (rest := []) F hK hN hO (c_X1_tookOf E (rcD (.inl (t, t)) (.inr kr) (.inr ks) (.inl kb)) rd tp Fa1 Fb1 Fa2 Fb2 Fa3 Fb3 Fa4 Fb4 Pd1 Pd2 Pd3 Pd4 Ps1 Ps2 Ps3 Ps4 Pi1 Pi2 Pi3 Pi4 q_42 u_2 hq_42 r_19 hFa1 hFb1 hFa2 hFb2 hFa3 hFb3 hFa4 hFb4 hPd1 hPd2 hPd3 hPd4 hPs1 hPs2 hPs3 hPs4 hPi1 hPi2 hPi3 hPi4) mv_X1_tookOf wd_36_13 ⟨Nat.le_of_ble_eq_true rfl, Nat.le_of_ble_eq_true rfl⟩ ⟨Nat.le_of_ble_eq_true rfl, Nat.le_of_ble_eq_true rfl⟩ hH hS (tRecv hK hH (tyb hq_42 (all1 rfl)) clX1) rfl hl.1 (Nat.le_of_ble_eq_true rfl) dX6_share_56 (fun z_43 H locs hq hS => ?_)
        obtain ⟨f_44, hH⟩ := hq
        have hH : TH E (tbC (dayD (.inl (0, 18))) (dayD (.inl (0, 18))) (riverD (.inl Fa1) (.inl Fb1) (.inl (0, 4)) 31 33 35 39 43 47) (riverD (.inl Fa2) (.inl Fb2) (.inl (0, 4)) 32 34 36 40 44 48) (rcD (.inl (t, t)) (.inr kr) (.inr ks) (.inl kb)) rd tp A14F A14F A4F A4F A14F A14F (riverD (.inl Fa3) (.inl Fb3) (.inl (0, 4)) 3 8 3 41 45 49) (riverD (.inl Fa4) (.inl Fb4) (.inl (0, 4)) 3 8 3 42 46 50) ((.inr (.inl (0, 12, Pd1)))) ((.inr (.inl (0, 12, Pd2)))) ((.inr (.inl (0, 12, Pd3)))) ((.inr (.inl (0, 12, Pd4)))) ((.inr (.inl (0, 12, Ps1)))) ((.inr (.inl (0, 12, Ps2)))) ((.inr (.inl (0, 12, Ps3)))) ((.inr (.inl (0, 12, Ps4)))) ((.inr (.inl (0, 48, Pi1)))) ((.inr (.inl (0, 48, Pi2)))) ((.inr (.inl (0, 48, Pi3)))) ((.inr (.inl (0, 48, Pi4))))) H := hH
        refine tI2l F dX6_share_59 (fun w_45 hw_45 => ?_)
        refine lv_aload_n F.1 F.2.1 dX6_share_60 rfl (lv_at hl 0 rfl) ?_
        refine tGetR (j := 12) F hK hH (tyb ha0 (all1 rfl)) rfl (all1 rfl) clX6 (by decide) wd_2_11 dX6_share_61 (fun q_46 hq_46 _ => ?_)
        refine tGetR (j := 4) F hK hH (tyb hq_46 (all1 rfl)) rfl (all1 rfl) clX1 (by decide) wd_59_15 dX6_share_64 (fun q_47 hq_47 _ => ?_)
        refine lv_iload_n F.1 F.2.1 dX6_share_67 rfl (lv_at hl 1 rfl) ?_
        refine tIaldB F hK hH (tyb hq_47 (all1 rfl)) (ixb (n := 14) r_19 rfl rfl) dX6_share_68 (fun z_48 hz_48 => ?_)
        refine tI2l F dX6_share_69 (fun w_49 hw_49 => ?_)
        refine tSi (As := [.long w_45, .long w_49]) (rest := []) F hK hN hO (c_X6_thousandths E (dayD (.inl (0, 18))) (dayD (.inl (0, 18))) (riverD (.inl Fa1) (.inl Fb1) (.inl (0, 4)) 31 33 35 39 43 47) (riverD (.inl Fa2) (.inl Fb2) (.inl (0, 4)) 32 34 36 40 44 48) (rcD (.inl (t, t)) (.inr kr) (.inr ks) (.inl kb)) rd tp A14F A14F A4F A4F A14F A14F (riverD (.inl Fa3) (.inl Fb3) (.inl (0, 4)) 3 8 3 41 45 49) (riverD (.inl Fa4) (.inl Fb4) (.inl (0, 4)) 3 8 3 42 46 50) ((.inr (.inl (0, 12, Pd1)))) ((.inr (.inl (0, 12, Pd2)))) ((.inr (.inl (0, 12, Pd3)))) ((.inr (.inl (0, 12, Pd4)))) ((.inr (.inl (0, 12, Ps1)))) ((.inr (.inl (0, 12, Ps2)))) ((.inr (.inl (0, 12, Ps3)))) ((.inr (.inl (0, 12, Ps4)))) ((.inr (.inl (0, 48, Pi1)))) ((.inr (.inl (0, 48, Pi2)))) ((.inr (.inl (0, 48, Pi3)))) ((.inr (.inl (0, 48, Pi4)))) w_45 w_49) ms_X6_thousandths wd_59_16 ⟨Nat.le_of_ble_eq_true rfl, Nat.le_of_ble_eq_true rfl⟩ ⟨Nat.le_of_ble_eq_true rfl, Nat.le_of_ble_eq_true rfl⟩ hH hS rfl hl.1 (Nat.le_of_ble_eq_true rfl) dX6_share_70 (fun z_50 H locs hq hS => ?_)
        obtain ⟨f_51, hH⟩ := hq
        have hH : TH E (tbC (dayD (.inl (0, 18))) (dayD (.inl (0, 18))) (riverD (.inl Fa1) (.inl Fb1) (.inl (0, 4)) 31 33 35 39 43 47) (riverD (.inl Fa2) (.inl Fb2) (.inl (0, 4)) 32 34 36 40 44 48) (rcD (.inl (t, t)) (.inr kr) (.inr ks) (.inl kb)) rd tp A14F A14F A4F A4F A14F A14F (riverD (.inl Fa3) (.inl Fb3) (.inl (0, 4)) 3 8 3 41 45 49) (riverD (.inl Fa4) (.inl Fb4) (.inl (0, 4)) 3 8 3 42 46 50) ((.inr (.inl (0, 12, Pd1)))) ((.inr (.inl (0, 12, Pd2)))) ((.inr (.inl (0, 12, Pd3)))) ((.inr (.inl (0, 12, Pd4)))) ((.inr (.inl (0, 12, Ps1)))) ((.inr (.inl (0, 12, Ps2)))) ((.inr (.inl (0, 12, Ps3)))) ((.inr (.inl (0, 12, Ps4)))) ((.inr (.inl (0, 48, Pi1)))) ((.inr (.inl (0, 48, Pi2)))) ((.inr (.inl (0, 48, Pi3)))) ((.inr (.inl (0, 48, Pi4))))) H := hH
        exact txI F hS dX6_share_73 rfl (⟨f_51, hH⟩)
    · skip
      have r_9 : 0 ≤ z_3.toInt ∧ z_3.toInt ≤ 0 := by have h9_ := f_4; omega
      refine lv_iconst (v := (-1)) F.1 F.2.1 dX6_share_20 (by decide) ?_
      refine topK (a := (-1)) (by decide) (fun k_52 hk_52 => ?_)
      exact txI F hS dX6_share_21 rfl (⟨(wkb (eqb hk_52) rfl rfl), hH⟩)
  refine b_eq (tgt := 13) F dX6_share_2 (by decide) (fun c_53 => ?_) (fun c_53 => ?_)
  · skip
    have r_54 : (-1) ≤ a1.toInt ∧ a1.toInt ≤ (-1) := by have h9_ := (i32b a1); omega
    exact J_13 (a1) _ _ _ ⟨(wkb r_54 rfl rfl), hH, hS, lv_sub hl [0, 1, 2] rfl⟩
  · skip
    refine lv_aload_n F.1 F.2.1 dX6_share_5 rfl (lv_at hl 0 rfl) ?_
    refine lv_iload_n F.1 F.2.1 dX6_share_6 rfl (lv_at hl 1 rfl) ?_
    refine tVi (b := a0) (As := [.int a1]) (rest := []) F hK hN hO (c_X6_isRight E rd tp kb Fa1 Fb1 Fa2 Fb2 Fa3 Fb3 Fa4 Fb4 kr ks Pd1 Pd2 Pd3 Pd4 Ps1 Ps2 Ps3 Ps4 Pi1 Pi2 Pi3 Pi4 t a0 a1 ha0 (by omega) hFa1 hFb1 hFa2 hFb2 hFa3 hFb3 hFa4 hFb4 hkr hks hPd1 hPd2 hPd3 hPd4 hPs1 hPs2 hPs3 hPs4 hPi1 hPi2 hPi3 hPi4) mv_X6_isRight wd_31_10 ⟨Nat.le_of_ble_eq_true rfl, Nat.le_of_ble_eq_true rfl⟩ ⟨Nat.le_of_ble_eq_true rfl, Nat.le_of_ble_eq_true rfl⟩ hH hS (tRecv hK hH (tyb ha0 (all1 rfl)) clX6) rfl hl.1 (Nat.le_of_ble_eq_true rfl) dX6_share_7 (fun z_55 H locs hq hS => ?_)
    obtain ⟨f_56, f_57, hH⟩ := hq
    have hH : TH E (tbC (dayD (.inl (0, 18))) (dayD (.inl (0, 18))) (riverD (.inl Fa1) (.inl Fb1) (.inl (0, 4)) 31 33 35 39 43 47) (riverD (.inl Fa2) (.inl Fb2) (.inl (0, 4)) 32 34 36 40 44 48) (rcD (.inl (t, t)) (.inr kr) (.inr ks) (.inl kb)) rd tp A14F A14F A4F A4F A14F A14F (riverD (.inl Fa3) (.inl Fb3) (.inl (0, 4)) 3 8 3 41 45 49) (riverD (.inl Fa4) (.inl Fb4) (.inl (0, 4)) 3 8 3 42 46 50) ((.inr (.inl (0, 12, Pd1)))) ((.inr (.inl (0, 12, Pd2)))) ((.inr (.inl (0, 12, Pd3)))) ((.inr (.inl (0, 12, Pd4)))) ((.inr (.inl (0, 12, Ps1)))) ((.inr (.inl (0, 12, Ps2)))) ((.inr (.inl (0, 12, Ps3)))) ((.inr (.inl (0, 12, Ps4)))) ((.inr (.inl (0, 48, Pi1)))) ((.inr (.inl (0, 48, Pi2)))) ((.inr (.inl (0, 48, Pi3)))) ((.inr (.inl (0, 48, Pi4))))) H := hH
    refine z_eq (tgt := 20) F dX6_share_10 (by decide) (fun c_58 => ?_) (fun c_58 => ?_)
    · skip
      have r_59 : 0 ≤ z_55.toInt ∧ z_55.toInt ≤ 0 := by have h9_ := f_56; omega
      refine lv_iconst (v := (-1)) F.1 F.2.1 dX6_share_20 (by decide) ?_
      refine topK (a := (-1)) (by decide) (fun k_62 hk_62 => ?_)
      exact txI F hS dX6_share_21 rfl (⟨(wkb (eqb hk_62) rfl rfl), hH⟩)
    · skip
      have r_60 : 1 ≤ z_55.toInt ∧ z_55.toInt ≤ 1 := by have h9_ := f_56; omega
      have r_61 : 0 ≤ a1.toInt ∧ a1.toInt ≤ 13 := by have h9_ := (i32b a1); omega
      exact J_13 (a1) _ _ _ ⟨(wkb r_61 rfl rfl), hH, hS, lv_sub hl [0, 1, 2] rfl⟩
set_option maxHeartbeats 4000000 in
set_option maxRecDepth 100000 in
theorem c_X6_worst (E : Ev) (rd : TD) (tp : TD) (kb : Int × Int) (Fa1 : Int × Int) (Fb1 : Int × Int) (Fa2 : Int × Int) (Fb2 : Int × Int) (Fa3 : Int × Int) (Fb3 : Int × Int) (Fa4 : Int × Int) (Fb4 : Int × Int) (kr : List Nat) (ks : List Nat) (Pd1 : (Nat → Int32) → Prop) (Pd2 : (Nat → Int32) → Prop) (Pd3 : (Nat → Int32) → Prop) (Pd4 : (Nat → Int32) → Prop) (Ps1 : (Nat → Int32) → Prop) (Ps2 : (Nat → Int32) → Prop) (Ps3 : (Nat → Int32) → Prop) (Ps4 : (Nat → Int32) → Prop) (Pi1 : (Nat → Int32) → Prop) (Pi2 : (Nat → Int32) → Prop) (Pi3 : (Nat → Int32) → Prop) (Pi4 : (Nat → Int32) → Prop) (t : Int) (a0 : Nat) (a1 : Int32) (ha0 : eT E a0 ∈ [28]) (ht : 0 ≤ t ∧ t ≤ 400) (hFa1 : 0 ≤ Fa1.1 ∧ Fa1.2 ≤ 12) (hFb1 : 0 ≤ Fb1.1 ∧ Fb1.2 ≤ 14) (hFa2 : 0 ≤ Fa2.1 ∧ Fa2.2 ≤ 12) (hFb2 : 0 ≤ Fb2.1 ∧ Fb2.2 ≤ 14) (hFa3 : 0 ≤ Fa3.1 ∧ Fa3.2 ≤ 12) (hFb3 : 0 ≤ Fb3.1 ∧ Fb3.2 ≤ 14) (hFa4 : 0 ≤ Fa4.1 ∧ Fa4.2 ≤ 12) (hFb4 : 0 ≤ Fb4.1 ∧ Fb4.2 ≤ 14) (hkr : ∀ t ∈ kr, t ∈ [26, 27]) (hks : ∀ t ∈ ks, t ∈ [26, 27]) (hPd1 : ∀ f, Pd1 f → ivP 12 (-2) 11 f) (hPd2 : ∀ f, Pd2 f → ivP 12 (-2) 11 f) (hPd3 : ∀ f, Pd3 f → ivP 12 (-2) 11 f) (hPd4 : ∀ f, Pd4 f → ivP 12 (-2) 11 f) (hPs1 : ∀ f, Ps1 f → ivP 12 (-2147483648) 2147483647 f) (hPs2 : ∀ f, Ps2 f → ivP 12 (-2147483648) 2147483647 f) (hPs3 : ∀ f, Ps3 f → ivP 12 (-2147483648) 2147483647 f) (hPs4 : ∀ f, Ps4 f → ivP 12 (-2147483648) 2147483647 f) (hPi1 : ∀ f, Pi1 f → ivP 48 (-2147483648) 2147483647 f) (hPi2 : ∀ f, Pi2 f → ivP 48 (-2147483648) 2147483647 f) (hPi3 : ∀ f, Pi3 f → ivP 48 (-2147483648) 2147483647 f) (hPi4 : ∀ f, Pi4 f → ivP 48 (-2147483648) 2147483647 f) : TcI E yX6_worst cX6_worst 6 .int ({ frames := 6, cells := 0, slots := 0, locals := 163 }) [.ref a0, .int a1] (fun H => TH E (tbC (dayD (.inl (0, 18))) (dayD (.inl (0, 18))) (riverD (.inl Fa1) (.inl Fb1) (.inl (0, 4)) 31 33 35 39 43 47) (riverD (.inl Fa2) (.inl Fb2) (.inl (0, 4)) 32 34 36 40 44 48) (rcD (.inl (t, t)) (.inr kr) (.inr ks) (.inl kb)) rd tp A14F A14F A4F A4F A14F A14F (riverD (.inl Fa3) (.inl Fb3) (.inl (0, 4)) 3 8 3 41 45 49) (riverD (.inl Fa4) (.inl Fb4) (.inl (0, 4)) 3 8 3 42 46 50) ((.inr (.inl (0, 12, Pd1)))) ((.inr (.inl (0, 12, Pd2)))) ((.inr (.inl (0, 12, Pd3)))) ((.inr (.inl (0, 12, Pd4)))) ((.inr (.inl (0, 12, Ps1)))) ((.inr (.inl (0, 12, Ps2)))) ((.inr (.inl (0, 12, Ps3)))) ((.inr (.inl (0, 12, Ps4)))) ((.inr (.inl (0, 48, Pi1)))) ((.inr (.inl (0, 48, Pi2)))) ((.inr (.inl (0, 48, Pi3)))) ((.inr (.inl (0, 48, Pi4))))) H) (fun v H => ((-2147483648) ≤ v.toInt ∧ v.toInt ≤ 2147483647) ∧ TH E (tbC (dayD (.inl (0, 18))) (dayD (.inl (0, 18))) (riverD (.inl Fa1) (.inl Fb1) (.inl (0, 4)) 31 33 35 39 43 47) (riverD (.inl Fa2) (.inl Fb2) (.inl (0, 4)) 32 34 36 40 44 48) (rcD (.inl (t, t)) (.inr kr) (.inr ks) (.inl kb)) rd tp A14F A14F A4F A4F A14F A14F (riverD (.inl Fa3) (.inl Fb3) (.inl (0, 4)) 3 8 3 41 45 49) (riverD (.inl Fa4) (.inl Fb4) (.inl (0, 4)) 3 8 3 42 46 50) ((.inr (.inl (0, 12, Pd1)))) ((.inr (.inl (0, 12, Pd2)))) ((.inr (.inl (0, 12, Pd3)))) ((.inr (.inl (0, 12, Pd4)))) ((.inr (.inl (0, 12, Ps1)))) ((.inr (.inl (0, 12, Ps2)))) ((.inr (.inl (0, 12, Ps3)))) ((.inr (.inl (0, 12, Ps4)))) ((.inr (.inl (0, 48, Pi1)))) ((.inr (.inl (0, 48, Pi2)))) ((.inr (.inl (0, 48, Pi3)))) ((.inr (.inl (0, 48, Pi4))))) H) := by
  refine teI (by decide) (Nat.le_of_ble_eq_true rfl) ?_
  intro p_ ev_ s mi_ below_ meth cd_ ls F hK hN hO hH hS hl
  have hH : TH E (tbC (dayD (.inl (0, 18))) (dayD (.inl (0, 18))) (riverD (.inl Fa1) (.inl Fb1) (.inl (0, 4)) 31 33 35 39 43 47) (riverD (.inl Fa2) (.inl Fb2) (.inl (0, 4)) 32 34 36 40 44 48) (rcD (.inl (t, t)) (.inr kr) (.inr ks) (.inl kb)) rd tp A14F A14F A4F A4F A14F A14F (riverD (.inl Fa3) (.inl Fb3) (.inl (0, 4)) 3 8 3 41 45 49) (riverD (.inl Fa4) (.inl Fb4) (.inl (0, 4)) 3 8 3 42 46 50) ((.inr (.inl (0, 12, Pd1)))) ((.inr (.inl (0, 12, Pd2)))) ((.inr (.inl (0, 12, Pd3)))) ((.inr (.inl (0, 12, Pd4)))) ((.inr (.inl (0, 12, Ps1)))) ((.inr (.inl (0, 12, Ps2)))) ((.inr (.inl (0, 12, Ps3)))) ((.inr (.inl (0, 12, Ps4)))) ((.inr (.inl (0, 48, Pi1)))) ((.inr (.inl (0, 48, Pi2)))) ((.inr (.inl (0, 48, Pi3)))) ((.inr (.inl (0, 48, Pi4))))) s.heap := hH
  have hl : lv_has ls 6 [(0, .ref a0), (1, .int a1)] := hl
  refine lv_iload_n F.1 F.2.1 dX6_worst_0 rfl (lv_at hl 1 rfl) ?_
  refine tSi (As := [.int a1]) (rest := []) F hK hN hO (c_X6_isSpan E (dayD (.inl (0, 18))) (dayD (.inl (0, 18))) (riverD (.inl Fa1) (.inl Fb1) (.inl (0, 4)) 31 33 35 39 43 47) (riverD (.inl Fa2) (.inl Fb2) (.inl (0, 4)) 32 34 36 40 44 48) (rcD (.inl (t, t)) (.inr kr) (.inr ks) (.inl kb)) rd tp A14F A14F A4F A4F A14F A14F (riverD (.inl Fa3) (.inl Fb3) (.inl (0, 4)) 3 8 3 41 45 49) (riverD (.inl Fa4) (.inl Fb4) (.inl (0, 4)) 3 8 3 42 46 50) ((.inr (.inl (0, 12, Pd1)))) ((.inr (.inl (0, 12, Pd2)))) ((.inr (.inl (0, 12, Pd3)))) ((.inr (.inl (0, 12, Pd4)))) ((.inr (.inl (0, 12, Ps1)))) ((.inr (.inl (0, 12, Ps2)))) ((.inr (.inl (0, 12, Ps3)))) ((.inr (.inl (0, 12, Ps4)))) ((.inr (.inl (0, 48, Pi1)))) ((.inr (.inl (0, 48, Pi2)))) ((.inr (.inl (0, 48, Pi3)))) ((.inr (.inl (0, 48, Pi4)))) a1) ms_X6_isSpan wd_47_14 ⟨Nat.le_of_ble_eq_true rfl, Nat.le_of_ble_eq_true rfl⟩ ⟨Nat.le_of_ble_eq_true rfl, Nat.le_of_ble_eq_true rfl⟩ hH hS rfl hl.1 (Nat.le_of_ble_eq_true rfl) dX6_worst_1 (fun z_1 H locs hq hS => ?_)
  obtain ⟨f_2, f_3, hH⟩ := hq
  have hH : TH E (tbC (dayD (.inl (0, 18))) (dayD (.inl (0, 18))) (riverD (.inl Fa1) (.inl Fb1) (.inl (0, 4)) 31 33 35 39 43 47) (riverD (.inl Fa2) (.inl Fb2) (.inl (0, 4)) 32 34 36 40 44 48) (rcD (.inl (t, t)) (.inr kr) (.inr ks) (.inl kb)) rd tp A14F A14F A4F A4F A14F A14F (riverD (.inl Fa3) (.inl Fb3) (.inl (0, 4)) 3 8 3 41 45 49) (riverD (.inl Fa4) (.inl Fb4) (.inl (0, 4)) 3 8 3 42 46 50) ((.inr (.inl (0, 12, Pd1)))) ((.inr (.inl (0, 12, Pd2)))) ((.inr (.inl (0, 12, Pd3)))) ((.inr (.inl (0, 12, Pd4)))) ((.inr (.inl (0, 12, Ps1)))) ((.inr (.inl (0, 12, Ps2)))) ((.inr (.inl (0, 12, Ps3)))) ((.inr (.inl (0, 12, Ps4)))) ((.inr (.inl (0, 48, Pi1)))) ((.inr (.inl (0, 48, Pi2)))) ((.inr (.inl (0, 48, Pi3)))) ((.inr (.inl (0, 48, Pi4))))) H := hH
  refine z_ne (tgt := 9) F dX6_worst_4 (by decide) (fun c_4 => ?_) (fun c_4 => ?_)
  · skip
    have r_5 : 1 ≤ z_1.toInt ∧ z_1.toInt ≤ 1 := by have h9_ := f_2; omega
    have r_6 : 1 ≤ a1.toInt ∧ a1.toInt ≤ 360 := by have h9_ := (i32b a1); omega
    refine lv_aload_n F.1 F.2.1 dX6_worst_9 rfl (lv_at hl 0 rfl) ?_
    refine tGetR (j := 12) F hK hH (tyb ha0 (all1 rfl)) rfl (all1 rfl) clX6 (by decide) wd_2_11 dX6_worst_10 (fun q_8 hq_8 _ => ?_)
    refine lv_aload_n F.1 F.2.1 dX6_worst_13 rfl (lv_at hl 0 rfl) ?_
    refine tGetR0 (j := 2) F hK hH (tyb ha0 (all1 rfl)) rfl clX6 (by decide) wd_1_17 dX6_worst_14 (fun q_9 hq_9 => ?_)
    refine lv_aload_n F.1 F.2.1 dX6_worst_17 rfl (lv_at hl 0 rfl) ?_
    refine tGetR (j := 4) F hK hH (tyb ha0 (all1 rfl)) rfl (all1 rfl) clX6 (by decide) wd_1_22 dX6_worst_18 (fun q_10 hq_10 _ => ?_)
    refine tVv (b := q_8) (As := [.ref q_9, .ref q_10]) (rest := []) F hK hN hO (c_X1_begin E (rcD (.inl (t, t)) (.inr kr) (.inr ks) (.inl kb)) rd tp Fa1 Fb1 Fa2 Fb2 Fa3 Fb3 Fa4 Fb4 Pd1 Pd2 Pd3 Pd4 Ps1 Ps2 Ps3 Ps4 Pi1 Pi2 Pi3 Pi4 q_8 q_9 q_10 hq_8 (hkr _ hq_9) hq_10 hFa1 hFb1 hFa2 hFb2 hFa3 hFb3 hFa4 hFb4 hPd1 hPd2 hPd3 hPd4 hPs1 hPs2 hPs3 hPs4 hPi1 hPi2 hPi3 hPi4) mv_X1_begin wd_34_15 ⟨Nat.le_of_ble_eq_true rfl, Nat.le_of_ble_eq_true rfl⟩ ⟨Nat.le_of_ble_eq_true rfl, Nat.le_of_ble_eq_true rfl⟩ hH hS (tRecv hK hH (tyb hq_8 (all1 rfl)) clX1) rfl hl.1 (Nat.le_of_ble_eq_true rfl) dX6_worst_21 (fun H locs hq hS => ?_)
    have hH := hq
    have hH : TH E (tbC (dayD (.inl (0, 18))) (dayD (.inl (0, 18))) (riverD (.inl Fa1) (.inl Fb1) (.inl (0, 4)) 31 33 35 39 43 47) (riverD (.inl Fa2) (.inl Fb2) (.inl (0, 4)) 32 34 36 40 44 48) (rcD (.inl (t, t)) (.inr kr) (.inr ks) (.inl kb)) rd tp A14F A14F A4F A4F A14F A14F (riverD (.inl Fa3) (.inl Fb3) (.inl (0, 4)) 3 8 3 41 45 49) (riverD (.inl Fa4) (.inl Fb4) (.inl (0, 4)) 3 8 3 42 46 50) ((.inr (.inl (0, 12, Pd1)))) ((.inr (.inl (0, 12, Pd2)))) ((.inr (.inl (0, 12, Pd3)))) ((.inr (.inl (0, 12, Pd4)))) ((.inr (.inl (0, 12, Ps1)))) ((.inr (.inl (0, 12, Ps2)))) ((.inr (.inl (0, 12, Ps3)))) ((.inr (.inl (0, 12, Ps4)))) ((.inr (.inl (0, 48, Pi1)))) ((.inr (.inl (0, 48, Pi2)))) ((.inr (.inl (0, 48, Pi3)))) ((.inr (.inl (0, 48, Pi4))))) H := hH
    refine lv_aload_n F.1 F.2.1 dX6_worst_24 rfl (lv_at hl 0 rfl) ?_
    refine tGetR (j := 12) F hK hH (tyb ha0 (all1 rfl)) rfl (all1 rfl) clX6 (by decide) wd_2_11 dX6_worst_25 (fun q_12 hq_12 _ => ?_)
    refine lv_iload_n F.1 F.2.1 dX6_worst_28 rfl (lv_at hl 1 rfl) ?_
    refine lv_iconst (v := (-1)) F.1 F.2.1 dX6_worst_29 (by decide) ?_
    refine topK (a := (-1)) (by decide) (fun k_13 hk_13 => ?_)
    refine tVv (b := q_12) (As := [.int a1, .int k_13]) (rest := []) F hK hN hO (c_X1_run E (rcD (.inl (t, t)) (.inr kr) (.inr ks) (.inl kb)) rd tp Fa1 Fb1 Fa2 Fb2 Fa3 Fb3 Fa4 Fb4 Pd1 Pd2 Pd3 Pd4 Ps1 Ps2 Ps3 Ps4 Pi1 Pi2 Pi3 Pi4 q_12 a1 k_13 hq_12 r_6 hFa1 hFb1 hFa2 hFb2 hFa3 hFb3 hFa4 hFb4 hPd1 hPd2 hPd3 hPd4 hPs1 hPs2 hPs3 hPs4 hPi1 hPi2 hPi3 hPi4) mv_X1_run wd_35_2 ⟨Nat.le_of_ble_eq_true rfl, Nat.le_of_ble_eq_true rfl⟩ ⟨Nat.le_of_ble_eq_true rfl, Nat.le_of_ble_eq_true rfl⟩ hH hS (tRecv hK hH (tyb hq_12 (all1 rfl)) clX1) rfl hl.1 (Nat.le_of_ble_eq_true rfl) dX6_worst_30 (fun H locs hq hS => ?_)
    have hH := hq
    have hH : TH E (tbC (dayD (.inl (0, 18))) (dayD (.inl (0, 18))) (riverD (.inl Fa1) (.inl Fb1) (.inl (0, 4)) 31 33 35 39 43 47) (riverD (.inl Fa2) (.inl Fb2) (.inl (0, 4)) 32 34 36 40 44 48) (rcD (.inl (t, t)) (.inr kr) (.inr ks) (.inl kb)) rd tp A14F A14F A4F A4F A14F A14F (riverD (.inl Fa3) (.inl Fb3) (.inl (0, 4)) 3 8 3 41 45 49) (riverD (.inl Fa4) (.inl Fb4) (.inl (0, 4)) 3 8 3 42 46 50) ((.inr (.inl (0, 12, Pd1)))) ((.inr (.inl (0, 12, Pd2)))) ((.inr (.inl (0, 12, Pd3)))) ((.inr (.inl (0, 12, Pd4)))) ((.inr (.inl (0, 12, Ps1)))) ((.inr (.inl (0, 12, Ps2)))) ((.inr (.inl (0, 12, Ps3)))) ((.inr (.inl (0, 12, Ps4)))) ((.inr (.inl (0, 48, Pi1)))) ((.inr (.inl (0, 48, Pi2)))) ((.inr (.inl (0, 48, Pi3)))) ((.inr (.inl (0, 48, Pi4))))) H := hH
    refine lv_bipush (v := (-2)) F.1 F.2.1 dX6_worst_33 (by decide) ?_
    refine topK (a := (-2)) (by decide) (fun k_15 hk_15 => ?_)
    refine lv_istore_n (lv' := [(2, .int k_15), (0, .ref a0), (1, .int a1)]) F.1 F.2.1 dX6_worst_35 rfl hl (by decide) rfl (fun ls hl => ?_)
    refine lv_iconst (v := 0) F.1 F.2.1 dX6_worst_36 (by decide) ?_
    refine topK (a := 0) (by decide) (fun k_16 hk_16 => ?_)
    refine lv_istore_n (lv' := [(3, .int k_16), (2, .int k_15), (0, .ref a0), (1, .int a1)]) F.1 F.2.1 dX6_worst_37 rfl hl (by decide) rfl (fun ls hl => ?_)
    refine lv_iconst (v := 0) F.1 F.2.1 dX6_worst_38 (by decide) ?_
    refine topK (a := 0) (by decide) (fun k_17 hk_17 => ?_)
    refine lv_istore (lv' := [(4, .int k_17), (3, .int k_16), (2, .int k_15), (0, .ref a0), (1, .int a1)]) F.1 F.2.1 dX6_worst_39 hl (by decide) rfl (fun ls hl => ?_)
    refine wloop (σ := Int32 × Int32 × Int32) (fun n9 x9 H locs ls => (14 - x9.2.2.toInt + 1).toNat < n9 ∧ ((-2) ≤ x9.1.toInt ∧ x9.1.toInt ≤ 13) ∧ (0 ≤ x9.2.2.toInt ∧ x9.2.2.toInt ≤ 14) ∧ TH E (tbC (dayD (.inl (0, 18))) (dayD (.inl (0, 18))) (riverD (.inl Fa1) (.inl Fb1) (.inl (0, 4)) 31 33 35 39 43 47) (riverD (.inl Fa2) (.inl Fb2) (.inl (0, 4)) 32 34 36 40 44 48) (rcD (.inl (t, t)) (.inr kr) (.inr ks) (.inl kb)) rd tp A14F A14F A4F A4F A14F A14F (riverD (.inl Fa3) (.inl Fb3) (.inl (0, 4)) 3 8 3 41 45 49) (riverD (.inl Fa4) (.inl Fb4) (.inl (0, 4)) 3 8 3 42 46 50) ((.inr (.inl (0, 12, Pd1)))) ((.inr (.inl (0, 12, Pd2)))) ((.inr (.inl (0, 12, Pd3)))) ((.inr (.inl (0, 12, Pd4)))) ((.inr (.inl (0, 12, Ps1)))) ((.inr (.inl (0, 12, Ps2)))) ((.inr (.inl (0, 12, Ps3)))) ((.inr (.inl (0, 12, Ps4)))) ((.inr (.inl (0, 48, Pi1)))) ((.inr (.inl (0, 48, Pi2)))) ((.inr (.inl (0, 48, Pi3)))) ((.inr (.inl (0, 48, Pi4))))) H ∧ va_S (eA E s.heap.size) s.heap H locs ∧ lv_has ls 6 [(0, .ref a0), (2, .int x9.1), (3, .int x9.2.1), (4, .int x9.2.2)]) ?_ (fun x9 H locs ls h => absurd h.1 (Nat.not_lt_zero _)) _ (k_15, k_16, k_17) ⟨Nat.lt_succ_self _, (wkb (eqb hk_15) rfl rfl), (wkb (eqb hk_17) rfl rfl), hH, hS, lv_sub hl [3, 2, 1, 0] rfl⟩
    intro n_41 ih_41 ⟨u_18, u_19, u_20⟩ H locs ls ⟨hm_41, hu_18, hu_20, hH, hS, hl⟩
    have hm_41 : (14 - u_20.toInt + 1).toNat < n_41 + 1 := hm_41
    have hu_18 : ((-2) ≤ u_18.toInt ∧ u_18.toInt ≤ 13) := hu_18
    have hu_20 : (0 ≤ u_20.toInt ∧ u_20.toInt ≤ 14) := hu_20
    have hH : TH E (tbC (dayD (.inl (0, 18))) (dayD (.inl (0, 18))) (riverD (.inl Fa1) (.inl Fb1) (.inl (0, 4)) 31 33 35 39 43 47) (riverD (.inl Fa2) (.inl Fb2) (.inl (0, 4)) 32 34 36 40 44 48) (rcD (.inl (t, t)) (.inr kr) (.inr ks) (.inl kb)) rd tp A14F A14F A4F A4F A14F A14F (riverD (.inl Fa3) (.inl Fb3) (.inl (0, 4)) 3 8 3 41 45 49) (riverD (.inl Fa4) (.inl Fb4) (.inl (0, 4)) 3 8 3 42 46 50) ((.inr (.inl (0, 12, Pd1)))) ((.inr (.inl (0, 12, Pd2)))) ((.inr (.inl (0, 12, Pd3)))) ((.inr (.inl (0, 12, Pd4)))) ((.inr (.inl (0, 12, Ps1)))) ((.inr (.inl (0, 12, Ps2)))) ((.inr (.inl (0, 12, Ps3)))) ((.inr (.inl (0, 12, Ps4)))) ((.inr (.inl (0, 48, Pi1)))) ((.inr (.inl (0, 48, Pi2)))) ((.inr (.inl (0, 48, Pi3)))) ((.inr (.inl (0, 48, Pi4))))) H := hH
    have hl : lv_has ls 6 [(0, .ref a0), (2, .int u_18), (3, .int u_19), (4, .int u_20)] := hl
    refine lv_iload F.1 F.2.1 dX6_worst_41 (lv_at hl 3 rfl) ?_
    refine lv_aload_n F.1 F.2.1 dX6_worst_43 rfl (lv_at hl 0 rfl) ?_
    refine tGetR0 (j := 2) F hK hH (tyb ha0 (all1 rfl)) rfl clX6 (by decide) wd_1_17 dX6_worst_44 (fun q_21 hq_21 => ?_)
    refine tGetIB (j := 4) (lo := 0) (hi := 14) F hK hH (hkr _ hq_21) (alls ⟨_, _, rfl, rfl, by have h9_ := hFb1; omega⟩ (alls1 ⟨_, _, rfl, rfl, by have h9_ := hFb2; omega⟩)) clX2 (by decide) wd_8_18 dX6_worst_47 (fun z_22 hz_22 => ?_)
    refine b_ge (tgt := 101) F dX6_worst_50 (by decide) (fun c_23 => ?_) (fun c_23 => ?_)
    · skip
      refine lv_iload_n F.1 F.2.1 dX6_worst_101 rfl (lv_at hl 1 rfl) ?_
      exact txI F hS dX6_worst_102 rfl (⟨(wkb hu_18 rfl rfl), hH⟩)
    · skip
      have r_24 : 0 ≤ u_20.toInt ∧ u_20.toInt ≤ 13 := by have h9_ := hu_20; omega
      have r_25 : 1 ≤ z_22.toInt ∧ z_22.toInt ≤ 14 := by have h9_ := hz_22; omega
      refine lv_aload_n F.1 F.2.1 dX6_worst_53 rfl (lv_at hl 0 rfl) ?_
      refine tGetR (j := 12) F hK hH (tyb ha0 (all1 rfl)) rfl (all1 rfl) clX6 (by decide) wd_2_11 dX6_worst_54 (fun q_26 hq_26 _ => ?_)
      refine lv_iload F.1 F.2.1 dX6_worst_57 (lv_at hl 3 rfl) ?_
      refine tVi (b := q_26) (As := [.int u_20]) (rest := []) F hK hN hO (c_X1_tookOf E (rcD (.inl (t, t)) (.inr kr) (.inr ks) (.inl kb)) rd tp Fa1 Fb1 Fa2 Fb2 Fa3 Fb3 Fa4 Fb4 Pd1 Pd2 Pd3 Pd4 Ps1 Ps2 Ps3 Ps4 Pi1 Pi2 Pi3 Pi4 q_26 u_20 hq_26 r_24 hFa1 hFb1 hFa2 hFb2 hFa3 hFb3 hFa4 hFb4 hPd1 hPd2 hPd3 hPd4 hPs1 hPs2 hPs3 hPs4 hPi1 hPi2 hPi3 hPi4) mv_X1_tookOf wd_36_13 ⟨Nat.le_of_ble_eq_true rfl, Nat.le_of_ble_eq_true rfl⟩ ⟨Nat.le_of_ble_eq_true rfl, Nat.le_of_ble_eq_true rfl⟩ hH hS (tRecv hK hH (tyb hq_26 (all1 rfl)) clX1) rfl hl.1 (Nat.le_of_ble_eq_true rfl) dX6_worst_59 (fun z_27 H locs hq hS => ?_)
      obtain ⟨f_28, hH⟩ := hq
      have hH : TH E (tbC (dayD (.inl (0, 18))) (dayD (.inl (0, 18))) (riverD (.inl Fa1) (.inl Fb1) (.inl (0, 4)) 31 33 35 39 43 47) (riverD (.inl Fa2) (.inl Fb2) (.inl (0, 4)) 32 34 36 40 44 48) (rcD (.inl (t, t)) (.inr kr) (.inr ks) (.inl kb)) rd tp A14F A14F A4F A4F A14F A14F (riverD (.inl Fa3) (.inl Fb3) (.inl (0, 4)) 3 8 3 41 45 49) (riverD (.inl Fa4) (.inl Fb4) (.inl (0, 4)) 3 8 3 42 46 50) ((.inr (.inl (0, 12, Pd1)))) ((.inr (.inl (0, 12, Pd2)))) ((.inr (.inl (0, 12, Pd3)))) ((.inr (.inl (0, 12, Pd4)))) ((.inr (.inl (0, 12, Ps1)))) ((.inr (.inl (0, 12, Ps2)))) ((.inr (.inl (0, 12, Ps3)))) ((.inr (.inl (0, 12, Ps4)))) ((.inr (.inl (0, 48, Pi1)))) ((.inr (.inl (0, 48, Pi2)))) ((.inr (.inl (0, 48, Pi3)))) ((.inr (.inl (0, 48, Pi4))))) H := hH
      refine tI2l F dX6_worst_62 (fun w_29 hw_29 => ?_)
      refine lv_aload_n F.1 F.2.1 dX6_worst_63 rfl (lv_at hl 0 rfl) ?_
      refine tGetR (j := 12) F hK hH (tyb ha0 (all1 rfl)) rfl (all1 rfl) clX6 (by decide) wd_2_11 dX6_worst_64 (fun q_30 hq_30 _ => ?_)
      refine tGetR (j := 4) F hK hH (tyb hq_30 (all1 rfl)) rfl (all1 rfl) clX1 (by decide) wd_59_15 dX6_worst_67 (fun q_31 hq_31 _ => ?_)
      refine lv_iload F.1 F.2.1 dX6_worst_70 (lv_at hl 3 rfl) ?_
      refine tIaldB F hK hH (tyb hq_31 (all1 rfl)) (ixb (n := 14) r_24 rfl rfl) dX6_worst_72 (fun z_32 hz_32 => ?_)
      refine tI2l F dX6_worst_73 (fun w_33 hw_33 => ?_)
      refine tSi (As := [.long w_29, .long w_33]) (rest := []) F hK hN hO (c_X6_thousandths E (dayD (.inl (0, 18))) (dayD (.inl (0, 18))) (riverD (.inl Fa1) (.inl Fb1) (.inl (0, 4)) 31 33 35 39 43 47) (riverD (.inl Fa2) (.inl Fb2) (.inl (0, 4)) 32 34 36 40 44 48) (rcD (.inl (t, t)) (.inr kr) (.inr ks) (.inl kb)) rd tp A14F A14F A4F A4F A14F A14F (riverD (.inl Fa3) (.inl Fb3) (.inl (0, 4)) 3 8 3 41 45 49) (riverD (.inl Fa4) (.inl Fb4) (.inl (0, 4)) 3 8 3 42 46 50) ((.inr (.inl (0, 12, Pd1)))) ((.inr (.inl (0, 12, Pd2)))) ((.inr (.inl (0, 12, Pd3)))) ((.inr (.inl (0, 12, Pd4)))) ((.inr (.inl (0, 12, Ps1)))) ((.inr (.inl (0, 12, Ps2)))) ((.inr (.inl (0, 12, Ps3)))) ((.inr (.inl (0, 12, Ps4)))) ((.inr (.inl (0, 48, Pi1)))) ((.inr (.inl (0, 48, Pi2)))) ((.inr (.inl (0, 48, Pi3)))) ((.inr (.inl (0, 48, Pi4)))) w_29 w_33) ms_X6_thousandths wd_59_16 ⟨Nat.le_of_ble_eq_true rfl, Nat.le_of_ble_eq_true rfl⟩ ⟨Nat.le_of_ble_eq_true rfl, Nat.le_of_ble_eq_true rfl⟩ hH hS rfl hl.1 (Nat.le_of_ble_eq_true rfl) dX6_worst_74 (fun z_34 H locs hq hS => ?_)
      obtain ⟨f_35, hH⟩ := hq
      have hH : TH E (tbC (dayD (.inl (0, 18))) (dayD (.inl (0, 18))) (riverD (.inl Fa1) (.inl Fb1) (.inl (0, 4)) 31 33 35 39 43 47) (riverD (.inl Fa2) (.inl Fb2) (.inl (0, 4)) 32 34 36 40 44 48) (rcD (.inl (t, t)) (.inr kr) (.inr ks) (.inl kb)) rd tp A14F A14F A4F A4F A14F A14F (riverD (.inl Fa3) (.inl Fb3) (.inl (0, 4)) 3 8 3 41 45 49) (riverD (.inl Fa4) (.inl Fb4) (.inl (0, 4)) 3 8 3 42 46 50) ((.inr (.inl (0, 12, Pd1)))) ((.inr (.inl (0, 12, Pd2)))) ((.inr (.inl (0, 12, Pd3)))) ((.inr (.inl (0, 12, Pd4)))) ((.inr (.inl (0, 12, Ps1)))) ((.inr (.inl (0, 12, Ps2)))) ((.inr (.inl (0, 12, Ps3)))) ((.inr (.inl (0, 12, Ps4)))) ((.inr (.inl (0, 48, Pi1)))) ((.inr (.inl (0, 48, Pi2)))) ((.inr (.inl (0, 48, Pi3)))) ((.inr (.inl (0, 48, Pi4))))) H := hH
      refine lv_istore (lv' := [(5, .int z_34), (0, .ref a0), (2, .int u_18), (3, .int u_19), (4, .int u_20)]) F.1 F.2.1 dX6_worst_77 hl (by decide) rfl (fun ls hl => ?_)
      refine lv_iload_n F.1 F.2.1 dX6_worst_79 rfl (lv_at hl 2 rfl) ?_
      refine wjoin (σ := Unit) (pcj := 89) (stj := fun x9 => []) (fun x9 H locs ls => TH E (tbC (dayD (.inl (0, 18))) (dayD (.inl (0, 18))) (riverD (.inl Fa1) (.inl Fb1) (.inl (0, 4)) 31 33 35 39 43 47) (riverD (.inl Fa2) (.inl Fb2) (.inl (0, 4)) 32 34 36 40 44 48) (rcD (.inl (t, t)) (.inr kr) (.inr ks) (.inl kb)) rd tp A14F A14F A4F A4F A14F A14F (riverD (.inl Fa3) (.inl Fb3) (.inl (0, 4)) 3 8 3 41 45 49) (riverD (.inl Fa4) (.inl Fb4) (.inl (0, 4)) 3 8 3 42 46 50) ((.inr (.inl (0, 12, Pd1)))) ((.inr (.inl (0, 12, Pd2)))) ((.inr (.inl (0, 12, Pd3)))) ((.inr (.inl (0, 12, Pd4)))) ((.inr (.inl (0, 12, Ps1)))) ((.inr (.inl (0, 12, Ps2)))) ((.inr (.inl (0, 12, Ps3)))) ((.inr (.inl (0, 12, Ps4)))) ((.inr (.inl (0, 48, Pi1)))) ((.inr (.inl (0, 48, Pi2)))) ((.inr (.inl (0, 48, Pi3)))) ((.inr (.inl (0, 48, Pi4))))) H ∧ va_S (eA E s.heap.size) s.heap H locs ∧ lv_has ls 6 [(0, .ref a0), (4, .int u_20), (5, .int z_34)]) (fun x9 H locs ls h_ => ?_) (fun J_89 => ?_)
      · skip
        obtain ⟨hH, hS, hl⟩ := h_
        have hH : TH E (tbC (dayD (.inl (0, 18))) (dayD (.inl (0, 18))) (riverD (.inl Fa1) (.inl Fb1) (.inl (0, 4)) 31 33 35 39 43 47) (riverD (.inl Fa2) (.inl Fb2) (.inl (0, 4)) 32 34 36 40 44 48) (rcD (.inl (t, t)) (.inr kr) (.inr ks) (.inl kb)) rd tp A14F A14F A4F A4F A14F A14F (riverD (.inl Fa3) (.inl Fb3) (.inl (0, 4)) 3 8 3 41 45 49) (riverD (.inl Fa4) (.inl Fb4) (.inl (0, 4)) 3 8 3 42 46 50) ((.inr (.inl (0, 12, Pd1)))) ((.inr (.inl (0, 12, Pd2)))) ((.inr (.inl (0, 12, Pd3)))) ((.inr (.inl (0, 12, Pd4)))) ((.inr (.inl (0, 12, Ps1)))) ((.inr (.inl (0, 12, Ps2)))) ((.inr (.inl (0, 12, Ps3)))) ((.inr (.inl (0, 12, Ps4)))) ((.inr (.inl (0, 48, Pi1)))) ((.inr (.inl (0, 48, Pi2)))) ((.inr (.inl (0, 48, Pi3)))) ((.inr (.inl (0, 48, Pi4))))) H := hH
        have hl : lv_has ls 6 [(0, .ref a0), (4, .int u_20), (5, .int z_34)] := hl
        show W _ _ _ _ _ _ _ _ _ _ _ _ _ _ _ (F0 _ _ _ [])
        refine lv_iload F.1 F.2.1 dX6_worst_89 (lv_at hl 1 rfl) ?_
        refine lv_istore_n (lv' := [(2, .int u_20), (0, .ref a0), (4, .int u_20), (5, .int z_34)]) F.1 F.2.1 dX6_worst_91 rfl hl (by decide) rfl (fun ls hl => ?_)
        refine lv_iload F.1 F.2.1 dX6_worst_92 (lv_at hl 3 rfl) ?_
        refine lv_istore_n (lv' := [(3, .int z_34), (2, .int u_20), (0, .ref a0), (4, .int u_20), (5, .int z_34)]) F.1 F.2.1 dX6_worst_94 rfl hl (by decide) rfl (fun ls hl => ?_)
        obtain ⟨x_36, ex_36, hx_36⟩ := iincB (c := 1) (lo := 1) (hi := 14) r_24 rfl
        refine lv_iinc (v := x_36) (lv' := [(4, .int x_36), (3, .int z_34), (2, .int u_20), (0, .ref a0), (5, .int z_34)]) F.1 F.2.1 dX6_worst_95 hl (k := 3) rfl ex_36 (by decide) rfl (fun ls hl => ?_)
        refine lv_goto (tgt := 41) F.1 F.2.1 dX6_worst_98 (by decide) ?_
        exact ih_41 (u_20, z_34, x_36) _ _ _ ⟨(show (14 - x_36.toInt + 1).toNat < n_41 from by omega), (wkb r_24 rfl rfl), (wkb hx_36.2 rfl rfl), hH, hS, lv_sub hl [3, 2, 1, 0] rfl⟩
      refine z_lt (tgt := 89) F dX6_worst_80 (by decide) (fun c_37 => ?_) (fun c_37 => ?_)
      · skip
        have r_38 : (-2) ≤ u_18.toInt ∧ u_18.toInt ≤ (-1) := by have h9_ := hu_18; omega
        exact J_89 () _ _ _ ⟨hH, hS, lv_sub hl [1, 4, 0] rfl⟩
      · skip
        have r_39 : 0 ≤ u_18.toInt ∧ u_18.toInt ≤ 13 := by have h9_ := hu_18; omega
        refine lv_iload F.1 F.2.1 dX6_worst_83 (lv_at hl 0 rfl) ?_
        refine lv_iload_n F.1 F.2.1 dX6_worst_85 rfl (lv_at hl 3 rfl) ?_
        refine b_ge (tgt := 95) F dX6_worst_86 (by decide) (fun c_40 => ?_) (fun c_40 => ?_)
        · skip
          obtain ⟨x_41, ex_41, hx_41⟩ := iincB (c := 1) (lo := 1) (hi := 14) r_24 rfl
          refine lv_iinc (v := x_41) (lv' := [(4, .int x_41), (5, .int z_34), (0, .ref a0), (2, .int u_18), (3, .int u_19)]) F.1 F.2.1 dX6_worst_95 hl (k := 4) rfl ex_41 (by decide) rfl (fun ls hl => ?_)
          refine lv_goto (tgt := 41) F.1 F.2.1 dX6_worst_98 (by decide) ?_
          exact ih_41 (u_18, u_19, x_41) _ _ _ ⟨(show (14 - x_41.toInt + 1).toNat < n_41 from by omega), (wkb r_39 rfl rfl), (wkb hx_41.2 rfl rfl), hH, hS, lv_sub hl [2, 3, 4, 0] rfl⟩
        · skip
          exact J_89 () _ _ _ ⟨hH, hS, lv_sub hl [1, 4, 0] rfl⟩
  · skip
    have r_7 : 0 ≤ z_1.toInt ∧ z_1.toInt ≤ 0 := by have h9_ := f_2; omega
    refine lv_iconst (v := (-1)) F.1 F.2.1 dX6_worst_7 (by decide) ?_
    refine topK (a := (-1)) (by decide) (fun k_42 hk_42 => ?_)
    exact txI F hS dX6_worst_8 rfl (⟨(wkb (eqb hk_42) rfl rfl), hH⟩)
set_option maxHeartbeats 4000000 in
set_option maxRecDepth 100000 in
theorem c_X6_count (E : Ev) (rd : TD) (tp : TD) (kb : Int × Int) (Fa1 : Int × Int) (Fb1 : Int × Int) (Fa2 : Int × Int) (Fb2 : Int × Int) (Fa3 : Int × Int) (Fb3 : Int × Int) (Fa4 : Int × Int) (Fb4 : Int × Int) (kr : List Nat) (ks : List Nat) (Pd1 : (Nat → Int32) → Prop) (Pd2 : (Nat → Int32) → Prop) (Pd3 : (Nat → Int32) → Prop) (Pd4 : (Nat → Int32) → Prop) (Ps1 : (Nat → Int32) → Prop) (Ps2 : (Nat → Int32) → Prop) (Ps3 : (Nat → Int32) → Prop) (Ps4 : (Nat → Int32) → Prop) (Pi1 : (Nat → Int32) → Prop) (Pi2 : (Nat → Int32) → Prop) (Pi3 : (Nat → Int32) → Prop) (Pi4 : (Nat → Int32) → Prop) (t : Int) (a0 : Nat) (a1 : Int32) (ha0 : eT E a0 ∈ [28]) (ht : 0 ≤ t ∧ t ≤ 400) (hFa1 : 0 ≤ Fa1.1 ∧ Fa1.2 ≤ 12) (hFb1 : 0 ≤ Fb1.1 ∧ Fb1.2 ≤ 14) (hFa2 : 0 ≤ Fa2.1 ∧ Fa2.2 ≤ 12) (hFb2 : 0 ≤ Fb2.1 ∧ Fb2.2 ≤ 14) (hFa3 : 0 ≤ Fa3.1 ∧ Fa3.2 ≤ 12) (hFb3 : 0 ≤ Fb3.1 ∧ Fb3.2 ≤ 14) (hFa4 : 0 ≤ Fa4.1 ∧ Fa4.2 ≤ 12) (hFb4 : 0 ≤ Fb4.1 ∧ Fb4.2 ≤ 14) (hkr : ∀ t ∈ kr, t ∈ [26, 27]) (hks : ∀ t ∈ ks, t ∈ [26, 27]) (hPd1 : ∀ f, Pd1 f → ivP 12 (-2) 11 f) (hPd2 : ∀ f, Pd2 f → ivP 12 (-2) 11 f) (hPd3 : ∀ f, Pd3 f → ivP 12 (-2) 11 f) (hPd4 : ∀ f, Pd4 f → ivP 12 (-2) 11 f) (hPs1 : ∀ f, Ps1 f → ivP 12 (-2147483648) 2147483647 f) (hPs2 : ∀ f, Ps2 f → ivP 12 (-2147483648) 2147483647 f) (hPs3 : ∀ f, Ps3 f → ivP 12 (-2147483648) 2147483647 f) (hPs4 : ∀ f, Ps4 f → ivP 12 (-2147483648) 2147483647 f) (hPi1 : ∀ f, Pi1 f → ivP 48 (-2147483648) 2147483647 f) (hPi2 : ∀ f, Pi2 f → ivP 48 (-2147483648) 2147483647 f) (hPi3 : ∀ f, Pi3 f → ivP 48 (-2147483648) 2147483647 f) (hPi4 : ∀ f, Pi4 f → ivP 48 (-2147483648) 2147483647 f) : TcI E yX6_count cX6_count 2 .int ({ frames := 2, cells := 0, slots := 0, locals := 63 }) [.ref a0, .int a1] (fun H => TH E (tbC (dayD (.inl (0, 18))) (dayD (.inl (0, 18))) (riverD (.inl Fa1) (.inl Fb1) (.inl (0, 4)) 31 33 35 39 43 47) (riverD (.inl Fa2) (.inl Fb2) (.inl (0, 4)) 32 34 36 40 44 48) (rcD (.inl (t, t)) (.inr kr) (.inr ks) (.inl kb)) rd tp A14F A14F A4F A4F A14F A14F (riverD (.inl Fa3) (.inl Fb3) (.inl (0, 4)) 3 8 3 41 45 49) (riverD (.inl Fa4) (.inl Fb4) (.inl (0, 4)) 3 8 3 42 46 50) ((.inr (.inl (0, 12, Pd1)))) ((.inr (.inl (0, 12, Pd2)))) ((.inr (.inl (0, 12, Pd3)))) ((.inr (.inl (0, 12, Pd4)))) ((.inr (.inl (0, 12, Ps1)))) ((.inr (.inl (0, 12, Ps2)))) ((.inr (.inl (0, 12, Ps3)))) ((.inr (.inl (0, 12, Ps4)))) ((.inr (.inl (0, 48, Pi1)))) ((.inr (.inl (0, 48, Pi2)))) ((.inr (.inl (0, 48, Pi3)))) ((.inr (.inl (0, 48, Pi4))))) H) (fun v H => ((-2147483648) ≤ v.toInt ∧ v.toInt ≤ 2147483647) ∧ TH E (tbC (dayD (.inl (0, 18))) (dayD (.inl (0, 18))) (riverD (.inl Fa1) (.inl Fb1) (.inl (0, 4)) 31 33 35 39 43 47) (riverD (.inl Fa2) (.inl Fb2) (.inl (0, 4)) 32 34 36 40 44 48) (rcD (.inl (t, t)) (.inr kr) (.inr ks) (.inl kb)) rd tp A14F A14F A4F A4F A14F A14F (riverD (.inl Fa3) (.inl Fb3) (.inl (0, 4)) 3 8 3 41 45 49) (riverD (.inl Fa4) (.inl Fb4) (.inl (0, 4)) 3 8 3 42 46 50) ((.inr (.inl (0, 12, Pd1)))) ((.inr (.inl (0, 12, Pd2)))) ((.inr (.inl (0, 12, Pd3)))) ((.inr (.inl (0, 12, Pd4)))) ((.inr (.inl (0, 12, Ps1)))) ((.inr (.inl (0, 12, Ps2)))) ((.inr (.inl (0, 12, Ps3)))) ((.inr (.inl (0, 12, Ps4)))) ((.inr (.inl (0, 48, Pi1)))) ((.inr (.inl (0, 48, Pi2)))) ((.inr (.inl (0, 48, Pi3)))) ((.inr (.inl (0, 48, Pi4))))) H) := by
  refine teI (by decide) (Nat.le_of_ble_eq_true rfl) ?_
  intro p_ ev_ s mi_ below_ meth cd_ ls F hK hN hO hH hS hl
  have hH : TH E (tbC (dayD (.inl (0, 18))) (dayD (.inl (0, 18))) (riverD (.inl Fa1) (.inl Fb1) (.inl (0, 4)) 31 33 35 39 43 47) (riverD (.inl Fa2) (.inl Fb2) (.inl (0, 4)) 32 34 36 40 44 48) (rcD (.inl (t, t)) (.inr kr) (.inr ks) (.inl kb)) rd tp A14F A14F A4F A4F A14F A14F (riverD (.inl Fa3) (.inl Fb3) (.inl (0, 4)) 3 8 3 41 45 49) (riverD (.inl Fa4) (.inl Fb4) (.inl (0, 4)) 3 8 3 42 46 50) ((.inr (.inl (0, 12, Pd1)))) ((.inr (.inl (0, 12, Pd2)))) ((.inr (.inl (0, 12, Pd3)))) ((.inr (.inl (0, 12, Pd4)))) ((.inr (.inl (0, 12, Ps1)))) ((.inr (.inl (0, 12, Ps2)))) ((.inr (.inl (0, 12, Ps3)))) ((.inr (.inl (0, 12, Ps4)))) ((.inr (.inl (0, 48, Pi1)))) ((.inr (.inl (0, 48, Pi2)))) ((.inr (.inl (0, 48, Pi3)))) ((.inr (.inl (0, 48, Pi4))))) s.heap := hH
  have hl : lv_has ls 2 [(0, .ref a0), (1, .int a1)] := hl
  refine lv_iload_n F.1 F.2.1 dX6_count_0 rfl (lv_at hl 1 rfl) ?_
  rcases (by omega : (a1.toInt < 0 ∨ 9 < a1.toInt) ∨ a1.toInt = 0 ∨ a1.toInt = 1 ∨ a1.toInt = 2 ∨ a1.toInt = 3 ∨ a1.toInt = 4 ∨ a1.toInt = 5 ∨ a1.toInt = 6 ∨ a1.toInt = 7 ∨ a1.toInt = 8 ∨ a1.toInt = 9) with w_1 | w_1 | w_1 | w_1 | w_1 | w_1 | w_1 | w_1 | w_1 | w_1 | w_1
  · skip
    refine tTabOut (tgt := 147) F dX6_count_1 w_1 (by decide) ?_
    refine lv_iconst (v := (-1)) F.1 F.2.1 dX6_count_147 (by decide) ?_
    refine topK (a := (-1)) (by decide) (fun k_2 hk_2 => ?_)
    exact txI F hS dX6_count_148 rfl (⟨(wkb (eqb hk_2) rfl rfl), hH⟩)
  · skip
    refine tTabIn (off := 55) (tgt := 56) F dX6_count_1 w_1 (by decide) (by decide) (by decide +kernel) (by decide) ?_
    refine lv_aload_n F.1 F.2.1 dX6_count_56 rfl (lv_at hl 0 rfl) ?_
    refine tGetR0 (j := 2) F hK hH (tyb ha0 (all1 rfl)) rfl clX6 (by decide) wd_1_17 dX6_count_57 (fun q_3 hq_3 => ?_)
    refine tGetIB (j := 0) (lo := 0) (hi := 12) F hK hH (hkr _ hq_3) (alls ⟨_, _, rfl, rfl, by have h9_ := hFa1; omega⟩ (alls1 ⟨_, _, rfl, rfl, by have h9_ := hFa2; omega⟩)) clX2 (by decide) wd_34_10 dX6_count_60 (fun z_4 hz_4 => ?_)
    exact txI F hS dX6_count_63 rfl (⟨(wkb hz_4 rfl rfl), hH⟩)
  · skip
    refine tTabIn (off := 63) (tgt := 64) F dX6_count_1 w_1 (by decide) (by decide) (by decide +kernel) (by decide) ?_
    refine lv_aload_n F.1 F.2.1 dX6_count_64 rfl (lv_at hl 0 rfl) ?_
    refine tGetR0 (j := 2) F hK hH (tyb ha0 (all1 rfl)) rfl clX6 (by decide) wd_1_17 dX6_count_65 (fun q_5 hq_5 => ?_)
    refine tGetIB (j := 4) (lo := 0) (hi := 14) F hK hH (hkr _ hq_5) (alls ⟨_, _, rfl, rfl, by have h9_ := hFb1; omega⟩ (alls1 ⟨_, _, rfl, rfl, by have h9_ := hFb2; omega⟩)) clX2 (by decide) wd_8_18 dX6_count_68 (fun z_6 hz_6 => ?_)
    exact txI F hS dX6_count_71 rfl (⟨(wkb hz_6 rfl rfl), hH⟩)
  · skip
    refine tTabIn (off := 71) (tgt := 72) F dX6_count_1 w_1 (by decide) (by decide) (by decide +kernel) (by decide) ?_
    refine lv_aload_n F.1 F.2.1 dX6_count_72 rfl (lv_at hl 0 rfl) ?_
    refine tGetR0 (j := 2) F hK hH (tyb ha0 (all1 rfl)) rfl clX6 (by decide) wd_1_17 dX6_count_73 (fun q_7 hq_7 => ?_)
    refine tGetIM (j := 14) F hK hH (hkr _ hq_7) (alls ⟨_, rfl, rfl⟩ (alls1 ⟨_, rfl, rfl⟩)) clX2 (by decide) wd_32_10 dX6_count_76 (fun z_8 hz_8 => ?_)
    exact txI F hS dX6_count_79 rfl (⟨(wkb hz_8 rfl rfl), hH⟩)
  · skip
    refine tTabIn (off := 79) (tgt := 80) F dX6_count_1 w_1 (by decide) (by decide) (by decide +kernel) (by decide) ?_
    refine lv_aload_n F.1 F.2.1 dX6_count_80 rfl (lv_at hl 0 rfl) ?_
    refine tGetR (j := 4) F hK hH (tyb ha0 (all1 rfl)) rfl (all1 rfl) clX6 (by decide) wd_1_22 dX6_count_81 (fun q_9 hq_9 _ => ?_)
    refine tGetI (j := 0) F hK hH (tyb hq_9 (all1 rfl)) rfl clX5 (by decide) wd_19_12 dX6_count_84 (fun z_10 hz_10 => ?_)
    exact txI F hS dX6_count_87 rfl (⟨(wkb hz_10 rfl rfl), hH⟩)
  · skip
    refine tTabIn (off := 87) (tgt := 88) F dX6_count_1 w_1 (by decide) (by decide) (by decide +kernel) (by decide) ?_
    refine lv_aload_n F.1 F.2.1 dX6_count_88 rfl (lv_at hl 0 rfl) ?_
    refine tGetR (j := 4) F hK hH (tyb ha0 (all1 rfl)) rfl (all1 rfl) clX6 (by decide) wd_1_22 dX6_count_89 (fun q_11 hq_11 _ => ?_)
    refine tGetI (j := 1) F hK hH (tyb hq_11 (all1 rfl)) rfl clX5 (by decide) wd_30_18 dX6_count_92 (fun z_12 hz_12 => ?_)
    exact txI F hS dX6_count_95 rfl (⟨hz_12, hH⟩)
  · skip
    refine tTabIn (off := 95) (tgt := 96) F dX6_count_1 w_1 (by decide) (by decide) (by decide +kernel) (by decide) ?_
    refine lv_aload_n F.1 F.2.1 dX6_count_96 rfl (lv_at hl 0 rfl) ?_
    refine tGetI (j := 7) F hK hH (tyb ha0 (all1 rfl)) rfl clX6 (by decide) wd_8_17 dX6_count_97 (fun z_13 hz_13 => ?_)
    exact txI F hS dX6_count_100 rfl (⟨hz_13, hH⟩)
  · skip
    refine tTabIn (off := 100) (tgt := 101) F dX6_count_1 w_1 (by decide) (by decide) (by decide +kernel) (by decide) ?_
    refine lv_aload_n F.1 F.2.1 dX6_count_101 rfl (lv_at hl 0 rfl) ?_
    refine tGetI (j := 1) F hK hH (tyb ha0 (all1 rfl)) rfl clX6 (by decide) wd_7_12 dX6_count_102 (fun z_14 hz_14 => ?_)
    have ez_14 : 0 ≤ z_14.toInt ∧ z_14.toInt ≤ 400 := by omega
    exact txI F hS dX6_count_105 rfl (⟨(wkb ez_14 rfl rfl), hH⟩)
  · skip
    refine tTabIn (off := 105) (tgt := 106) F dX6_count_1 w_1 (by decide) (by decide) (by decide +kernel) (by decide) ?_
    refine lv_aload_n F.1 F.2.1 dX6_count_106 rfl (lv_at hl 0 rfl) ?_
    refine tGetI (j := 10) F hK hH (tyb ha0 (all1 rfl)) rfl clX6 (by decide) wd_39_0 dX6_count_107 (fun z_15 _ => ?_)
    exact txI F hS dX6_count_110 rfl (⟨(i32b _), hH⟩)
  · skip
    refine tTabIn (off := 110) (tgt := 111) F dX6_count_1 w_1 (by decide) (by decide) (by decide +kernel) (by decide) ?_
    refine lv_aload_n F.1 F.2.1 dX6_count_111 rfl (lv_at hl 0 rfl) ?_
    refine tGetR (j := 4) F hK hH (tyb ha0 (all1 rfl)) rfl (all1 rfl) clX6 (by decide) wd_1_22 dX6_count_112 (fun q_16 hq_16 _ => ?_)
    refine tGetR (j := 9) F hK hH (tyb hq_16 (all1 rfl)) rfl (all1 rfl) clX5 (by decide) wd_32_2 dX6_count_115 (fun q_17 hq_17 _ => ?_)
    refine lv_aload_n F.1 F.2.1 dX6_count_118 rfl (lv_at hl 0 rfl) ?_
    refine tGetR0 (j := 2) F hK hH (tyb ha0 (all1 rfl)) rfl clX6 (by decide) wd_1_17 dX6_count_119 (fun q_18 hq_18 => ?_)
    refine tGetIM (j := 14) F hK hH (hkr _ hq_18) (alls ⟨_, rfl, rfl⟩ (alls1 ⟨_, rfl, rfl⟩)) clX2 (by decide) wd_32_10 dX6_count_122 (fun z_19 hz_19 => ?_)
    refine tSi (As := [.ref q_17, .int z_19]) (rest := []) F hK hN hO (c_X6_countTold_4 E (dayD (.inl (0, 18))) (dayD (.inl (0, 18))) (riverD (.inl Fa1) (.inl Fb1) (.inl (0, 4)) 31 33 35 39 43 47) (riverD (.inl Fa2) (.inl Fb2) (.inl (0, 4)) 32 34 36 40 44 48) (rcD (.inl (t, t)) (.inr kr) (.inr ks) (.inl kb)) rd tp A14F A14F A4F A4F A14F A14F (riverD (.inl Fa3) (.inl Fb3) (.inl (0, 4)) 3 8 3 41 45 49) (riverD (.inl Fa4) (.inl Fb4) (.inl (0, 4)) 3 8 3 42 46 50) ((.inr (.inl (0, 12, Pd1)))) ((.inr (.inl (0, 12, Pd2)))) ((.inr (.inl (0, 12, Pd3)))) ((.inr (.inl (0, 12, Pd4)))) ((.inr (.inl (0, 12, Ps1)))) ((.inr (.inl (0, 12, Ps2)))) ((.inr (.inl (0, 12, Ps3)))) ((.inr (.inl (0, 12, Ps4)))) ((.inr (.inl (0, 48, Pi1)))) ((.inr (.inl (0, 48, Pi2)))) ((.inr (.inl (0, 48, Pi3)))) ((.inr (.inl (0, 48, Pi4)))) q_17 z_19 hq_17) ms_X6_countTold wd_60_20 ⟨Nat.le_of_ble_eq_true rfl, Nat.le_of_ble_eq_true rfl⟩ ⟨Nat.le_of_ble_eq_true rfl, Nat.le_of_ble_eq_true rfl⟩ hH hS rfl hl.1 (Nat.le_of_ble_eq_true rfl) dX6_count_125 (fun z_20 H locs hq hS => ?_)
    obtain ⟨f_21, hH⟩ := hq
    have hH : TH E (tbC (dayD (.inl (0, 18))) (dayD (.inl (0, 18))) (riverD (.inl Fa1) (.inl Fb1) (.inl (0, 4)) 31 33 35 39 43 47) (riverD (.inl Fa2) (.inl Fb2) (.inl (0, 4)) 32 34 36 40 44 48) (rcD (.inl (t, t)) (.inr kr) (.inr ks) (.inl kb)) rd tp A14F A14F A4F A4F A14F A14F (riverD (.inl Fa3) (.inl Fb3) (.inl (0, 4)) 3 8 3 41 45 49) (riverD (.inl Fa4) (.inl Fb4) (.inl (0, 4)) 3 8 3 42 46 50) ((.inr (.inl (0, 12, Pd1)))) ((.inr (.inl (0, 12, Pd2)))) ((.inr (.inl (0, 12, Pd3)))) ((.inr (.inl (0, 12, Pd4)))) ((.inr (.inl (0, 12, Ps1)))) ((.inr (.inl (0, 12, Ps2)))) ((.inr (.inl (0, 12, Ps3)))) ((.inr (.inl (0, 12, Ps4)))) ((.inr (.inl (0, 48, Pi1)))) ((.inr (.inl (0, 48, Pi2)))) ((.inr (.inl (0, 48, Pi3)))) ((.inr (.inl (0, 48, Pi4))))) H := hH
    exact txI F hS dX6_count_128 rfl (⟨f_21, hH⟩)
  · skip
    refine tTabIn (off := 128) (tgt := 129) F dX6_count_1 w_1 (by decide) (by decide) (by decide +kernel) (by decide) ?_
    refine lv_aload_n F.1 F.2.1 dX6_count_129 rfl (lv_at hl 0 rfl) ?_
    refine tGetR (j := 4) F hK hH (tyb ha0 (all1 rfl)) rfl (all1 rfl) clX6 (by decide) wd_1_22 dX6_count_130 (fun q_22 hq_22 _ => ?_)
    refine tGetR (j := 6) F hK hH (tyb hq_22 (all1 rfl)) rfl (all1 rfl) clX5 (by decide) wd_33_5 dX6_count_133 (fun q_23 hq_23 _ => ?_)
    refine lv_aload_n F.1 F.2.1 dX6_count_136 rfl (lv_at hl 0 rfl) ?_
    refine tGetR0 (j := 2) F hK hH (tyb ha0 (all1 rfl)) rfl clX6 (by decide) wd_1_17 dX6_count_137 (fun q_24 hq_24 => ?_)
    refine tGetIB (j := 4) (lo := 0) (hi := 14) F hK hH (hkr _ hq_24) (alls ⟨_, _, rfl, rfl, by have h9_ := hFb1; omega⟩ (alls1 ⟨_, _, rfl, rfl, by have h9_ := hFb2; omega⟩)) clX2 (by decide) wd_8_18 dX6_count_140 (fun z_25 hz_25 => ?_)
    refine tSi (As := [.ref q_23, .int z_25]) (rest := []) F hK hN hO (c_X6_countTold_14 E (dayD (.inl (0, 18))) (dayD (.inl (0, 18))) (riverD (.inl Fa1) (.inl Fb1) (.inl (0, 4)) 31 33 35 39 43 47) (riverD (.inl Fa2) (.inl Fb2) (.inl (0, 4)) 32 34 36 40 44 48) (rcD (.inl (t, t)) (.inr kr) (.inr ks) (.inl kb)) rd tp A14F A14F A4F A4F A14F A14F (riverD (.inl Fa3) (.inl Fb3) (.inl (0, 4)) 3 8 3 41 45 49) (riverD (.inl Fa4) (.inl Fb4) (.inl (0, 4)) 3 8 3 42 46 50) ((.inr (.inl (0, 12, Pd1)))) ((.inr (.inl (0, 12, Pd2)))) ((.inr (.inl (0, 12, Pd3)))) ((.inr (.inl (0, 12, Pd4)))) ((.inr (.inl (0, 12, Ps1)))) ((.inr (.inl (0, 12, Ps2)))) ((.inr (.inl (0, 12, Ps3)))) ((.inr (.inl (0, 12, Ps4)))) ((.inr (.inl (0, 48, Pi1)))) ((.inr (.inl (0, 48, Pi2)))) ((.inr (.inl (0, 48, Pi3)))) ((.inr (.inl (0, 48, Pi4)))) q_23 z_25 hq_23) ms_X6_countTold wd_60_20 ⟨Nat.le_of_ble_eq_true rfl, Nat.le_of_ble_eq_true rfl⟩ ⟨Nat.le_of_ble_eq_true rfl, Nat.le_of_ble_eq_true rfl⟩ hH hS rfl hl.1 (Nat.le_of_ble_eq_true rfl) dX6_count_143 (fun z_26 H locs hq hS => ?_)
    obtain ⟨f_27, hH⟩ := hq
    have hH : TH E (tbC (dayD (.inl (0, 18))) (dayD (.inl (0, 18))) (riverD (.inl Fa1) (.inl Fb1) (.inl (0, 4)) 31 33 35 39 43 47) (riverD (.inl Fa2) (.inl Fb2) (.inl (0, 4)) 32 34 36 40 44 48) (rcD (.inl (t, t)) (.inr kr) (.inr ks) (.inl kb)) rd tp A14F A14F A4F A4F A14F A14F (riverD (.inl Fa3) (.inl Fb3) (.inl (0, 4)) 3 8 3 41 45 49) (riverD (.inl Fa4) (.inl Fb4) (.inl (0, 4)) 3 8 3 42 46 50) ((.inr (.inl (0, 12, Pd1)))) ((.inr (.inl (0, 12, Pd2)))) ((.inr (.inl (0, 12, Pd3)))) ((.inr (.inl (0, 12, Pd4)))) ((.inr (.inl (0, 12, Ps1)))) ((.inr (.inl (0, 12, Ps2)))) ((.inr (.inl (0, 12, Ps3)))) ((.inr (.inl (0, 12, Ps4)))) ((.inr (.inl (0, 48, Pi1)))) ((.inr (.inl (0, 48, Pi2)))) ((.inr (.inl (0, 48, Pi3)))) ((.inr (.inl (0, 48, Pi4))))) H := hH
    exact txI F hS dX6_count_146 rfl (⟨f_27, hH⟩)
set_option maxHeartbeats 4000000 in
set_option maxRecDepth 100000 in
theorem c_X6_gone (E : Ev) (rd : TD) (tp : TD) (kb : Int × Int) (Fa1 : Int × Int) (Fb1 : Int × Int) (Fa2 : Int × Int) (Fb2 : Int × Int) (Fa3 : Int × Int) (Fb3 : Int × Int) (Fa4 : Int × Int) (Fb4 : Int × Int) (kr : List Nat) (ks : List Nat) (Pd1 : (Nat → Int32) → Prop) (Pd2 : (Nat → Int32) → Prop) (Pd3 : (Nat → Int32) → Prop) (Pd4 : (Nat → Int32) → Prop) (Ps1 : (Nat → Int32) → Prop) (Ps2 : (Nat → Int32) → Prop) (Ps3 : (Nat → Int32) → Prop) (Ps4 : (Nat → Int32) → Prop) (Pi1 : (Nat → Int32) → Prop) (Pi2 : (Nat → Int32) → Prop) (Pi3 : (Nat → Int32) → Prop) (Pi4 : (Nat → Int32) → Prop) (t : Int) (a0 : Nat) (a1 : Int32) (ha0 : eT E a0 ∈ [28]) (ht : 0 ≤ t ∧ t ≤ 400) (hFa1 : 0 ≤ Fa1.1 ∧ Fa1.2 ≤ 12) (hFb1 : 0 ≤ Fb1.1 ∧ Fb1.2 ≤ 14) (hFa2 : 0 ≤ Fa2.1 ∧ Fa2.2 ≤ 12) (hFb2 : 0 ≤ Fb2.1 ∧ Fb2.2 ≤ 14) (hFa3 : 0 ≤ Fa3.1 ∧ Fa3.2 ≤ 12) (hFb3 : 0 ≤ Fb3.1 ∧ Fb3.2 ≤ 14) (hFa4 : 0 ≤ Fa4.1 ∧ Fa4.2 ≤ 12) (hFb4 : 0 ≤ Fb4.1 ∧ Fb4.2 ≤ 14) (hkr : ∀ t ∈ kr, t ∈ [26, 27]) (hks : ∀ t ∈ ks, t ∈ [26, 27]) (hPd1 : ∀ f, Pd1 f → ivP 12 (-2) 11 f) (hPd2 : ∀ f, Pd2 f → ivP 12 (-2) 11 f) (hPd3 : ∀ f, Pd3 f → ivP 12 (-2) 11 f) (hPd4 : ∀ f, Pd4 f → ivP 12 (-2) 11 f) (hPs1 : ∀ f, Ps1 f → ivP 12 (-2147483648) 2147483647 f) (hPs2 : ∀ f, Ps2 f → ivP 12 (-2147483648) 2147483647 f) (hPs3 : ∀ f, Ps3 f → ivP 12 (-2147483648) 2147483647 f) (hPs4 : ∀ f, Ps4 f → ivP 12 (-2147483648) 2147483647 f) (hPi1 : ∀ f, Pi1 f → ivP 48 (-2147483648) 2147483647 f) (hPi2 : ∀ f, Pi2 f → ivP 48 (-2147483648) 2147483647 f) (hPi3 : ∀ f, Pi3 f → ivP 48 (-2147483648) 2147483647 f) (hPi4 : ∀ f, Pi4 f → ivP 48 (-2147483648) 2147483647 f) : TcL E yX6_gone cX6_gone 2 ({ frames := 2, cells := 0, slots := 0, locals := 64 }) [.ref a0, .int a1] (fun H => TH E (tbC (dayD (.inl (0, 18))) (dayD (.inl (0, 18))) (riverD (.inl Fa1) (.inl Fb1) (.inl (0, 4)) 31 33 35 39 43 47) (riverD (.inl Fa2) (.inl Fb2) (.inl (0, 4)) 32 34 36 40 44 48) (rcD (.inl (t, t)) (.inr kr) (.inr ks) (.inl kb)) rd tp A14F A14F A4F A4F A14F A14F (riverD (.inl Fa3) (.inl Fb3) (.inl (0, 4)) 3 8 3 41 45 49) (riverD (.inl Fa4) (.inl Fb4) (.inl (0, 4)) 3 8 3 42 46 50) ((.inr (.inl (0, 12, Pd1)))) ((.inr (.inl (0, 12, Pd2)))) ((.inr (.inl (0, 12, Pd3)))) ((.inr (.inl (0, 12, Pd4)))) ((.inr (.inl (0, 12, Ps1)))) ((.inr (.inl (0, 12, Ps2)))) ((.inr (.inl (0, 12, Ps3)))) ((.inr (.inl (0, 12, Ps4)))) ((.inr (.inl (0, 48, Pi1)))) ((.inr (.inl (0, 48, Pi2)))) ((.inr (.inl (0, 48, Pi3)))) ((.inr (.inl (0, 48, Pi4))))) H) (fun v H => TH E (tbC (dayD (.inl (0, 18))) (dayD (.inl (0, 18))) (riverD (.inl Fa1) (.inl Fb1) (.inl (0, 4)) 31 33 35 39 43 47) (riverD (.inl Fa2) (.inl Fb2) (.inl (0, 4)) 32 34 36 40 44 48) (rcD (.inl (t, t)) (.inr kr) (.inr ks) (.inl kb)) rd tp A14F A14F A4F A4F A14F A14F (riverD (.inl Fa3) (.inl Fb3) (.inl (0, 4)) 3 8 3 41 45 49) (riverD (.inl Fa4) (.inl Fb4) (.inl (0, 4)) 3 8 3 42 46 50) ((.inr (.inl (0, 12, Pd1)))) ((.inr (.inl (0, 12, Pd2)))) ((.inr (.inl (0, 12, Pd3)))) ((.inr (.inl (0, 12, Pd4)))) ((.inr (.inl (0, 12, Ps1)))) ((.inr (.inl (0, 12, Ps2)))) ((.inr (.inl (0, 12, Ps3)))) ((.inr (.inl (0, 12, Ps4)))) ((.inr (.inl (0, 48, Pi1)))) ((.inr (.inl (0, 48, Pi2)))) ((.inr (.inl (0, 48, Pi3)))) ((.inr (.inl (0, 48, Pi4))))) H) := by
  refine teL (by decide) (Nat.le_of_ble_eq_true rfl) ?_
  intro p_ ev_ s mi_ below_ meth cd_ ls F hK hN hO hH hS hl
  have hH : TH E (tbC (dayD (.inl (0, 18))) (dayD (.inl (0, 18))) (riverD (.inl Fa1) (.inl Fb1) (.inl (0, 4)) 31 33 35 39 43 47) (riverD (.inl Fa2) (.inl Fb2) (.inl (0, 4)) 32 34 36 40 44 48) (rcD (.inl (t, t)) (.inr kr) (.inr ks) (.inl kb)) rd tp A14F A14F A4F A4F A14F A14F (riverD (.inl Fa3) (.inl Fb3) (.inl (0, 4)) 3 8 3 41 45 49) (riverD (.inl Fa4) (.inl Fb4) (.inl (0, 4)) 3 8 3 42 46 50) ((.inr (.inl (0, 12, Pd1)))) ((.inr (.inl (0, 12, Pd2)))) ((.inr (.inl (0, 12, Pd3)))) ((.inr (.inl (0, 12, Pd4)))) ((.inr (.inl (0, 12, Ps1)))) ((.inr (.inl (0, 12, Ps2)))) ((.inr (.inl (0, 12, Ps3)))) ((.inr (.inl (0, 12, Ps4)))) ((.inr (.inl (0, 48, Pi1)))) ((.inr (.inl (0, 48, Pi2)))) ((.inr (.inl (0, 48, Pi3)))) ((.inr (.inl (0, 48, Pi4))))) s.heap := hH
  have hl : lv_has ls 2 [(0, .ref a0), (1, .int a1)] := hl
  refine lv_iload_n F.1 F.2.1 dX6_gone_0 rfl (lv_at hl 1 rfl) ?_
  rcases (by omega : (a1.toInt < 0 ∨ 7 < a1.toInt) ∨ a1.toInt = 0 ∨ a1.toInt = 1 ∨ a1.toInt = 2 ∨ a1.toInt = 3 ∨ a1.toInt = 4 ∨ a1.toInt = 5 ∨ a1.toInt = 6 ∨ a1.toInt = 7) with w_1 | w_1 | w_1 | w_1 | w_1 | w_1 | w_1 | w_1 | w_1
  · skip
    refine tTabOut (tgt := 128) F dX6_gone_1 w_1 (by decide) ?_
    refine lv_ldc2 (own := RX6) (v := (-9223372036854775808)) F.1 F.2.1 F.2.2.2.2.1 (F.2.2.2.2.2.2.1 _ wd_50_6) dX6_gone_128 ?_
    refine topKL (a := (-9223372036854775808)) (by decide) (fun j_2 hj_2 => ?_)
    exact txL F hS dX6_gone_131 (hH)
  · skip
    refine tTabIn (off := 47) (tgt := 48) F dX6_gone_1 w_1 (by decide) (by decide) (by decide +kernel) (by decide) ?_
    refine lv_aload_n F.1 F.2.1 dX6_gone_48 rfl (lv_at hl 0 rfl) ?_
    refine tGetR (j := 4) F hK hH (tyb ha0 (all1 rfl)) rfl (all1 rfl) clX6 (by decide) wd_1_22 dX6_gone_49 (fun q_3 hq_3 _ => ?_)
    refine tGetR (j := 12) F hK hH (tyb hq_3 (all1 rfl)) rfl (all1 rfl) clX5 (by decide) wd_50_5 dX6_gone_52 (fun q_4 hq_4 _ => ?_)
    refine lv_iconst (v := 0) F.1 F.2.1 dX6_gone_55 (by decide) ?_
    refine topK (a := 0) (by decide) (fun k_5 hk_5 => ?_)
    refine tLald F hK hH (tyb hq_4 (all1 rfl)) (ixb (n := 6) (eqb hk_5) rfl rfl) dX6_gone_56 (fun w_6 => ?_)
    exact txL F hS dX6_gone_57 (hH)
  · skip
    refine tTabIn (off := 57) (tgt := 58) F dX6_gone_1 w_1 (by decide) (by decide) (by decide +kernel) (by decide) ?_
    refine lv_aload_n F.1 F.2.1 dX6_gone_58 rfl (lv_at hl 0 rfl) ?_
    refine tGetR (j := 4) F hK hH (tyb ha0 (all1 rfl)) rfl (all1 rfl) clX6 (by decide) wd_1_22 dX6_gone_59 (fun q_7 hq_7 _ => ?_)
    refine tGetR (j := 12) F hK hH (tyb hq_7 (all1 rfl)) rfl (all1 rfl) clX5 (by decide) wd_50_5 dX6_gone_62 (fun q_8 hq_8 _ => ?_)
    refine lv_iconst (v := 1) F.1 F.2.1 dX6_gone_65 (by decide) ?_
    refine topK (a := 1) (by decide) (fun k_9 hk_9 => ?_)
    refine tLald F hK hH (tyb hq_8 (all1 rfl)) (ixb (n := 6) (eqb hk_9) rfl rfl) dX6_gone_66 (fun w_10 => ?_)
    exact txL F hS dX6_gone_67 (hH)
  · skip
    refine tTabIn (off := 67) (tgt := 68) F dX6_gone_1 w_1 (by decide) (by decide) (by decide +kernel) (by decide) ?_
    refine lv_aload_n F.1 F.2.1 dX6_gone_68 rfl (lv_at hl 0 rfl) ?_
    refine tGetR (j := 4) F hK hH (tyb ha0 (all1 rfl)) rfl (all1 rfl) clX6 (by decide) wd_1_22 dX6_gone_69 (fun q_11 hq_11 _ => ?_)
    refine tGetR (j := 12) F hK hH (tyb hq_11 (all1 rfl)) rfl (all1 rfl) clX5 (by decide) wd_50_5 dX6_gone_72 (fun q_12 hq_12 _ => ?_)
    refine lv_iconst (v := 2) F.1 F.2.1 dX6_gone_75 (by decide) ?_
    refine topK (a := 2) (by decide) (fun k_13 hk_13 => ?_)
    refine tLald F hK hH (tyb hq_12 (all1 rfl)) (ixb (n := 6) (eqb hk_13) rfl rfl) dX6_gone_76 (fun w_14 => ?_)
    exact txL F hS dX6_gone_77 (hH)
  · skip
    refine tTabIn (off := 77) (tgt := 78) F dX6_gone_1 w_1 (by decide) (by decide) (by decide +kernel) (by decide) ?_
    refine lv_aload_n F.1 F.2.1 dX6_gone_78 rfl (lv_at hl 0 rfl) ?_
    refine tGetR (j := 4) F hK hH (tyb ha0 (all1 rfl)) rfl (all1 rfl) clX6 (by decide) wd_1_22 dX6_gone_79 (fun q_15 hq_15 _ => ?_)
    refine tGetR (j := 12) F hK hH (tyb hq_15 (all1 rfl)) rfl (all1 rfl) clX5 (by decide) wd_50_5 dX6_gone_82 (fun q_16 hq_16 _ => ?_)
    refine lv_iconst (v := 3) F.1 F.2.1 dX6_gone_85 (by decide) ?_
    refine topK (a := 3) (by decide) (fun k_17 hk_17 => ?_)
    refine tLald F hK hH (tyb hq_16 (all1 rfl)) (ixb (n := 6) (eqb hk_17) rfl rfl) dX6_gone_86 (fun w_18 => ?_)
    exact txL F hS dX6_gone_87 (hH)
  · skip
    refine tTabIn (off := 87) (tgt := 88) F dX6_gone_1 w_1 (by decide) (by decide) (by decide +kernel) (by decide) ?_
    refine lv_aload_n F.1 F.2.1 dX6_gone_88 rfl (lv_at hl 0 rfl) ?_
    refine tGetR (j := 4) F hK hH (tyb ha0 (all1 rfl)) rfl (all1 rfl) clX6 (by decide) wd_1_22 dX6_gone_89 (fun q_19 hq_19 _ => ?_)
    refine tGetR (j := 12) F hK hH (tyb hq_19 (all1 rfl)) rfl (all1 rfl) clX5 (by decide) wd_50_5 dX6_gone_92 (fun q_20 hq_20 _ => ?_)
    refine lv_iconst (v := 4) F.1 F.2.1 dX6_gone_95 (by decide) ?_
    refine topK (a := 4) (by decide) (fun k_21 hk_21 => ?_)
    refine tLald F hK hH (tyb hq_20 (all1 rfl)) (ixb (n := 6) (eqb hk_21) rfl rfl) dX6_gone_96 (fun w_22 => ?_)
    exact txL F hS dX6_gone_97 (hH)
  · skip
    refine tTabIn (off := 97) (tgt := 98) F dX6_gone_1 w_1 (by decide) (by decide) (by decide +kernel) (by decide) ?_
    refine lv_aload_n F.1 F.2.1 dX6_gone_98 rfl (lv_at hl 0 rfl) ?_
    refine tGetR (j := 4) F hK hH (tyb ha0 (all1 rfl)) rfl (all1 rfl) clX6 (by decide) wd_1_22 dX6_gone_99 (fun q_23 hq_23 _ => ?_)
    refine lv_aload_n F.1 F.2.1 dX6_gone_102 rfl (lv_at hl 0 rfl) ?_
    refine tGetR0 (j := 2) F hK hH (tyb ha0 (all1 rfl)) rfl clX6 (by decide) wd_1_17 dX6_gone_103 (fun q_24 hq_24 => ?_)
    refine tVl (b := q_23) (As := [.ref q_24]) (rest := []) F hK hN hO (c_X5_inStores E (dayD (.inl (0, 18))) (dayD (.inl (0, 18))) (rcD (.inl (t, t)) (.inr kr) (.inr ks) (.inl kb)) rd tp Fa1 Fb1 Fa2 Fb2 Fa3 Fb3 Fa4 Fb4 Pd1 Pd2 Pd3 Pd4 Ps1 Ps2 Ps3 Ps4 Pi1 Pi2 Pi3 Pi4 q_23 q_24 hq_23 (by have h9_ := (hkr _ hq_24); simp at h9_ ⊢; omega) hFa1 hFb1 hFa2 hFb2 hFa3 hFb3 hFa4 hFb4 hPd1 hPd2 hPd3 hPd4 hPs1 hPs2 hPs3 hPs4 hPi1 hPi2 hPi3 hPi4) mv_X5_inStores wd_50_7 ⟨Nat.le_of_ble_eq_true rfl, Nat.le_of_ble_eq_true rfl⟩ ⟨Nat.le_of_ble_eq_true rfl, Nat.le_of_ble_eq_true rfl⟩ hH hS (tRecv hK hH (tyb hq_23 (all1 rfl)) clX5) rfl hl.1 (Nat.le_of_ble_eq_true rfl) dX6_gone_106 (fun w_25 H locs hq hS => ?_)
    have hH := hq
    have hH : TH E (tbC (dayD (.inl (0, 18))) (dayD (.inl (0, 18))) (riverD (.inl Fa1) (.inl Fb1) (.inl (0, 4)) 31 33 35 39 43 47) (riverD (.inl Fa2) (.inl Fb2) (.inl (0, 4)) 32 34 36 40 44 48) (rcD (.inl (t, t)) (.inr kr) (.inr ks) (.inl kb)) rd tp A14F A14F A4F A4F A14F A14F (riverD (.inl Fa3) (.inl Fb3) (.inl (0, 4)) 3 8 3 41 45 49) (riverD (.inl Fa4) (.inl Fb4) (.inl (0, 4)) 3 8 3 42 46 50) ((.inr (.inl (0, 12, Pd1)))) ((.inr (.inl (0, 12, Pd2)))) ((.inr (.inl (0, 12, Pd3)))) ((.inr (.inl (0, 12, Pd4)))) ((.inr (.inl (0, 12, Ps1)))) ((.inr (.inl (0, 12, Ps2)))) ((.inr (.inl (0, 12, Ps3)))) ((.inr (.inl (0, 12, Ps4)))) ((.inr (.inl (0, 48, Pi1)))) ((.inr (.inl (0, 48, Pi2)))) ((.inr (.inl (0, 48, Pi3)))) ((.inr (.inl (0, 48, Pi4))))) H := hH
    exact txL F hS dX6_gone_109 (hH)
  · skip
    refine tTabIn (off := 109) (tgt := 110) F dX6_gone_1 w_1 (by decide) (by decide) (by decide +kernel) (by decide) ?_
    refine lv_aload_n F.1 F.2.1 dX6_gone_110 rfl (lv_at hl 0 rfl) ?_
    refine tGetR (j := 4) F hK hH (tyb ha0 (all1 rfl)) rfl (all1 rfl) clX6 (by decide) wd_1_22 dX6_gone_111 (fun q_26 hq_26 _ => ?_)
    refine tVl (b := q_26) (As := []) (rest := []) F hK hN hO (c_X5_onItsWay E (dayD (.inl (0, 18))) (dayD (.inl (0, 18))) (riverD (.inl Fa1) (.inl Fb1) (.inl (0, 4)) 31 33 35 39 43 47) (riverD (.inl Fa2) (.inl Fb2) (.inl (0, 4)) 32 34 36 40 44 48) (rcD (.inl (t, t)) (.inr kr) (.inr ks) (.inl kb)) rd tp A14F A14F A4F A4F A14F A14F (riverD (.inl Fa3) (.inl Fb3) (.inl (0, 4)) 3 8 3 41 45 49) (riverD (.inl Fa4) (.inl Fb4) (.inl (0, 4)) 3 8 3 42 46 50) ((.inr (.inl (0, 12, Pd1)))) ((.inr (.inl (0, 12, Pd2)))) ((.inr (.inl (0, 12, Pd3)))) ((.inr (.inl (0, 12, Pd4)))) ((.inr (.inl (0, 12, Ps1)))) ((.inr (.inl (0, 12, Ps2)))) ((.inr (.inl (0, 12, Ps3)))) ((.inr (.inl (0, 12, Ps4)))) ((.inr (.inl (0, 48, Pi1)))) ((.inr (.inl (0, 48, Pi2)))) ((.inr (.inl (0, 48, Pi3)))) ((.inr (.inl (0, 48, Pi4)))) q_26 hq_26) mv_X5_onItsWay wd_50_12 ⟨Nat.le_of_ble_eq_true rfl, Nat.le_of_ble_eq_true rfl⟩ ⟨Nat.le_of_ble_eq_true rfl, Nat.le_of_ble_eq_true rfl⟩ hH hS (tRecv hK hH (tyb hq_26 (all1 rfl)) clX5) rfl hl.1 (Nat.le_of_ble_eq_true rfl) dX6_gone_114 (fun w_27 H locs hq hS => ?_)
    have hH := hq
    have hH : TH E (tbC (dayD (.inl (0, 18))) (dayD (.inl (0, 18))) (riverD (.inl Fa1) (.inl Fb1) (.inl (0, 4)) 31 33 35 39 43 47) (riverD (.inl Fa2) (.inl Fb2) (.inl (0, 4)) 32 34 36 40 44 48) (rcD (.inl (t, t)) (.inr kr) (.inr ks) (.inl kb)) rd tp A14F A14F A4F A4F A14F A14F (riverD (.inl Fa3) (.inl Fb3) (.inl (0, 4)) 3 8 3 41 45 49) (riverD (.inl Fa4) (.inl Fb4) (.inl (0, 4)) 3 8 3 42 46 50) ((.inr (.inl (0, 12, Pd1)))) ((.inr (.inl (0, 12, Pd2)))) ((.inr (.inl (0, 12, Pd3)))) ((.inr (.inl (0, 12, Pd4)))) ((.inr (.inl (0, 12, Ps1)))) ((.inr (.inl (0, 12, Ps2)))) ((.inr (.inl (0, 12, Ps3)))) ((.inr (.inl (0, 12, Ps4)))) ((.inr (.inl (0, 48, Pi1)))) ((.inr (.inl (0, 48, Pi2)))) ((.inr (.inl (0, 48, Pi3)))) ((.inr (.inl (0, 48, Pi4))))) H := hH
    exact txL F hS dX6_gone_117 (hH)
  · skip
    refine tTabIn (off := 117) (tgt := 118) F dX6_gone_1 w_1 (by decide) (by decide) (by decide +kernel) (by decide) ?_
    refine lv_aload_n F.1 F.2.1 dX6_gone_118 rfl (lv_at hl 0 rfl) ?_
    refine tGetR (j := 4) F hK hH (tyb ha0 (all1 rfl)) rfl (all1 rfl) clX6 (by decide) wd_1_22 dX6_gone_119 (fun q_28 hq_28 _ => ?_)
    refine tGetR (j := 12) F hK hH (tyb hq_28 (all1 rfl)) rfl (all1 rfl) clX5 (by decide) wd_50_5 dX6_gone_122 (fun q_29 hq_29 _ => ?_)
    refine lv_iconst (v := 5) F.1 F.2.1 dX6_gone_125 (by decide) ?_
    refine topK (a := 5) (by decide) (fun k_30 hk_30 => ?_)
    refine tLald F hK hH (tyb hq_29 (all1 rfl)) (ixb (n := 6) (eqb hk_30) rfl rfl) dX6_gone_126 (fun w_31 => ?_)
    exact txL F hS dX6_gone_127 (hH)
set_option maxHeartbeats 4000000 in
set_option maxRecDepth 100000 in
theorem c_X6_keep_n (E : Ev) (rd : TD) (tp : TD) (kb : Int × Int) (Fa1 : Int × Int) (Fb1 : Int × Int) (Fa2 : Int × Int) (Fb2 : Int × Int) (Fa3 : Int × Int) (Fb3 : Int × Int) (Fa4 : Int × Int) (Fb4 : Int × Int) (kr : List Nat) (ks : List Nat) (Pd1 : (Nat → Int32) → Prop) (Pd2 : (Nat → Int32) → Prop) (Pd3 : (Nat → Int32) → Prop) (Pd4 : (Nat → Int32) → Prop) (Ps1 : (Nat → Int32) → Prop) (Ps2 : (Nat → Int32) → Prop) (Ps3 : (Nat → Int32) → Prop) (Ps4 : (Nat → Int32) → Prop) (Pi1 : (Nat → Int32) → Prop) (Pi2 : (Nat → Int32) → Prop) (Pi3 : (Nat → Int32) → Prop) (Pi4 : (Nat → Int32) → Prop) (t : Int) (a0 : Nat) (a1 : Int32) (ha0 : eT E a0 ∈ [28]) (ht : 0 ≤ t ∧ t ≤ 400) (hFa1 : 0 ≤ Fa1.1 ∧ Fa1.2 ≤ 12) (hFb1 : 0 ≤ Fb1.1 ∧ Fb1.2 ≤ 14) (hFa2 : 0 ≤ Fa2.1 ∧ Fa2.2 ≤ 12) (hFb2 : 0 ≤ Fb2.1 ∧ Fb2.2 ≤ 14) (hFa3 : 0 ≤ Fa3.1 ∧ Fa3.2 ≤ 12) (hFb3 : 0 ≤ Fb3.1 ∧ Fb3.2 ≤ 14) (hFa4 : 0 ≤ Fa4.1 ∧ Fa4.2 ≤ 12) (hFb4 : 0 ≤ Fb4.1 ∧ Fb4.2 ≤ 14) (hkr : ∀ t ∈ kr, t ∈ [26, 27]) (hks : ∀ t ∈ ks, t ∈ [26, 27]) (hPd1 : ∀ f, Pd1 f → ivP 12 (-2) 11 f) (hPd2 : ∀ f, Pd2 f → ivP 12 (-2) 11 f) (hPd3 : ∀ f, Pd3 f → ivP 12 (-2) 11 f) (hPd4 : ∀ f, Pd4 f → ivP 12 (-2) 11 f) (hPs1 : ∀ f, Ps1 f → ivP 12 (-2147483648) 2147483647 f) (hPs2 : ∀ f, Ps2 f → ivP 12 (-2147483648) 2147483647 f) (hPs3 : ∀ f, Ps3 f → ivP 12 (-2147483648) 2147483647 f) (hPs4 : ∀ f, Ps4 f → ivP 12 (-2147483648) 2147483647 f) (hPi1 : ∀ f, Pi1 f → ivP 48 (-2147483648) 2147483647 f) (hPi2 : ∀ f, Pi2 f → ivP 48 (-2147483648) 2147483647 f) (hPi3 : ∀ f, Pi3 f → ivP 48 (-2147483648) 2147483647 f) (hPi4 : ∀ f, Pi4 f → ivP 48 (-2147483648) 2147483647 f) (hr : a1.toInt < 0 ∨ 1 < a1.toInt) : TcI E yX6_keep cX6_keep 2 .int ({ frames := 1, cells := 0, slots := 0, locals := 40 }) [.ref a0, .int a1] (fun H => TH E (tbC (dayD (.inl (0, 18))) (dayD (.inl (0, 18))) (riverD (.inl Fa1) (.inl Fb1) (.inl (0, 4)) 31 33 35 39 43 47) (riverD (.inl Fa2) (.inl Fb2) (.inl (0, 4)) 32 34 36 40 44 48) (rcD (.inl (t, t)) (.inr kr) (.inr ks) (.inl kb)) rd tp A14F A14F A4F A4F A14F A14F (riverD (.inl Fa3) (.inl Fb3) (.inl (0, 4)) 3 8 3 41 45 49) (riverD (.inl Fa4) (.inl Fb4) (.inl (0, 4)) 3 8 3 42 46 50) ((.inr (.inl (0, 12, Pd1)))) ((.inr (.inl (0, 12, Pd2)))) ((.inr (.inl (0, 12, Pd3)))) ((.inr (.inl (0, 12, Pd4)))) ((.inr (.inl (0, 12, Ps1)))) ((.inr (.inl (0, 12, Ps2)))) ((.inr (.inl (0, 12, Ps3)))) ((.inr (.inl (0, 12, Ps4)))) ((.inr (.inl (0, 48, Pi1)))) ((.inr (.inl (0, 48, Pi2)))) ((.inr (.inl (0, 48, Pi3)))) ((.inr (.inl (0, 48, Pi4))))) H) (fun v H => ((-2147483648) ≤ v.toInt ∧ v.toInt ≤ 2147483647) ∧ TH E (tbC (dayD (.inl (0, 18))) (dayD (.inl (0, 18))) (riverD (.inl Fa1) (.inl Fb1) (.inl (0, 4)) 31 33 35 39 43 47) (riverD (.inl Fa2) (.inl Fb2) (.inl (0, 4)) 32 34 36 40 44 48) (rcD (.inl (t, t)) (.inr kr) (.inr ks) (.inl kb)) rd tp A14F A14F A4F A4F A14F A14F (riverD (.inl Fa3) (.inl Fb3) (.inl (0, 4)) 3 8 3 41 45 49) (riverD (.inl Fa4) (.inl Fb4) (.inl (0, 4)) 3 8 3 42 46 50) ((.inr (.inl (0, 12, Pd1)))) ((.inr (.inl (0, 12, Pd2)))) ((.inr (.inl (0, 12, Pd3)))) ((.inr (.inl (0, 12, Pd4)))) ((.inr (.inl (0, 12, Ps1)))) ((.inr (.inl (0, 12, Ps2)))) ((.inr (.inl (0, 12, Ps3)))) ((.inr (.inl (0, 12, Ps4)))) ((.inr (.inl (0, 48, Pi1)))) ((.inr (.inl (0, 48, Pi2)))) ((.inr (.inl (0, 48, Pi3)))) ((.inr (.inl (0, 48, Pi4))))) H) := by
  refine teI (by decide) (Nat.le_of_ble_eq_true rfl) ?_
  intro p_ ev_ s mi_ below_ meth cd_ ls F hK hN hO hH hS hl
  have hH : TH E (tbC (dayD (.inl (0, 18))) (dayD (.inl (0, 18))) (riverD (.inl Fa1) (.inl Fb1) (.inl (0, 4)) 31 33 35 39 43 47) (riverD (.inl Fa2) (.inl Fb2) (.inl (0, 4)) 32 34 36 40 44 48) (rcD (.inl (t, t)) (.inr kr) (.inr ks) (.inl kb)) rd tp A14F A14F A4F A4F A14F A14F (riverD (.inl Fa3) (.inl Fb3) (.inl (0, 4)) 3 8 3 41 45 49) (riverD (.inl Fa4) (.inl Fb4) (.inl (0, 4)) 3 8 3 42 46 50) ((.inr (.inl (0, 12, Pd1)))) ((.inr (.inl (0, 12, Pd2)))) ((.inr (.inl (0, 12, Pd3)))) ((.inr (.inl (0, 12, Pd4)))) ((.inr (.inl (0, 12, Ps1)))) ((.inr (.inl (0, 12, Ps2)))) ((.inr (.inl (0, 12, Ps3)))) ((.inr (.inl (0, 12, Ps4)))) ((.inr (.inl (0, 48, Pi1)))) ((.inr (.inl (0, 48, Pi2)))) ((.inr (.inl (0, 48, Pi3)))) ((.inr (.inl (0, 48, Pi4))))) s.heap := hH
  have hl : lv_has ls 2 [(0, .ref a0), (1, .int a1)] := hl
  refine lv_iload_n F.1 F.2.1 dX6_keep_0 rfl (lv_at hl 1 rfl) ?_
  refine z_lt (tgt := 9) F dX6_keep_1 (by decide) (fun c_1 => ?_) (fun c_1 => ?_)
  · skip
    have r_2 : (-2147483648) ≤ a1.toInt ∧ a1.toInt ≤ (-1) := by have h9_ := (i32b a1); omega
    refine lv_iconst (v := (-1)) F.1 F.2.1 dX6_keep_9 (by decide) ?_
    refine topK (a := (-1)) (by decide) (fun k_4 hk_4 => ?_)
    exact txI F hS dX6_keep_10 rfl (⟨(wkb (eqb hk_4) rfl rfl), hH⟩)
  · skip
    have r_3 : 0 ≤ a1.toInt ∧ a1.toInt ≤ 2147483647 := by have h9_ := (i32b a1); omega
    refine lv_iload_n F.1 F.2.1 dX6_keep_4 rfl (lv_at hl 1 rfl) ?_
    refine lv_iconst (v := 2) F.1 F.2.1 dX6_keep_5 (by decide) ?_
    refine topK (a := 2) (by decide) (fun k_5 hk_5 => ?_)
    refine b_lt (tgt := 11) F dX6_keep_6 (by decide) (fun c_6 => absurd c_6 (by omega)) (fun c_6 => ?_)
    have r_7 : 2 ≤ a1.toInt ∧ a1.toInt ≤ 2147483647 := by have h9_ := r_3; omega
    refine lv_iconst (v := (-1)) F.1 F.2.1 dX6_keep_9 (by decide) ?_
    refine topK (a := (-1)) (by decide) (fun k_8 hk_8 => ?_)
    exact txI F hS dX6_keep_10 rfl (⟨(wkb (eqb hk_8) rfl rfl), hH⟩)
set_option maxHeartbeats 4000000 in
set_option maxRecDepth 100000 in
theorem c_X6_keep_0_1 (E : Ev) (rd : TD) (tp : TD) (Fa2 : Int × Int) (Fb2 : Int × Int) (Fa3 : Int × Int) (Fb3 : Int × Int) (Fa4 : Int × Int) (Fb4 : Int × Int) (ks : List Nat) (a : Int) (b : Int) (t : Int) (kb : Int) (a0 : Nat) (a1 : Int32) (ha0 : eT E a0 ∈ [28]) (ha1 : 0 ≤ a1.toInt ∧ a1.toInt ≤ 0) (ha : 0 ≤ a ∧ a ≤ 12) (hb : 0 ≤ b ∧ b ≤ 14) (ht : 0 ≤ t ∧ t ≤ 400) (hkb : 0 ≤ kb ∧ kb ≤ 3) (hFa2 : 0 ≤ Fa2.1 ∧ Fa2.2 ≤ 12) (hFb2 : 0 ≤ Fb2.1 ∧ Fb2.2 ≤ 14) (hFa3 : 0 ≤ Fa3.1 ∧ Fa3.2 ≤ 12) (hFb3 : 0 ≤ Fb3.1 ∧ Fb3.2 ≤ 14) (hFa4 : 0 ≤ Fa4.1 ∧ Fa4.2 ≤ 12) (hFb4 : 0 ≤ Fb4.1 ∧ Fb4.2 ≤ 14) (hks : ∀ t ∈ ks, t ∈ [26, 27]) : TcI E yX6_keep cX6_keep 2 .int ({ frames := 3, cells := 0, slots := 0, locals := 82 }) [.ref a0, .int a1] (fun H => TH E (tbC (dayD (.inl (0, 18))) (dayD (.inl (0, 18))) (riverD (.inl (a, a)) (.inl (b, b)) (.inl (0, 4)) 31 33 35 39 43 47) (riverD (.inl Fa2) (.inl Fb2) (.inl (0, 4)) 32 34 36 40 44 48) (rcD (.inl (t, t)) (.inr [26]) (.inr ks) (.inl (kb, kb))) rd tp A14F A14F A4F A4F A14F A14F (riverD (.inl Fa3) (.inl Fb3) (.inl (0, 4)) 3 8 3 41 45 49) (riverD (.inl Fa4) (.inl Fb4) (.inl (0, 4)) 3 8 3 42 46 50) A12D A12D A12D A12D A12F A12F A12F A12F A48F A48F A48F A48F) H) (fun v H => ∃ kb2 : Int, (0 ≤ kb2 ∧ kb2 ≤ 3 ∧ kb2 = kb - kb % 2 + 1) ∧ ((-2147483648) ≤ v.toInt ∧ v.toInt ≤ 2147483647) ∧ TH E (tbC (dayD (.inl (0, 18))) (dayD (.inl (0, 18))) (riverD (.inl (a, a)) (.inl (b, b)) (.inl (0, 4)) 31 33 35 39 43 47) (riverD (.inl Fa2) (.inl Fb2) (.inl (0, 4)) 32 34 36 40 44 48) (rcD (.inl (t, t)) (.inr [26]) (.inr ks) (.inl (kb2, kb2))) rd tp A14F A14F A4F A4F A14F A14F (riverD (.inl (a, a)) (.inl (b, b)) (.inl (0, 4)) 3 8 3 41 45 49) (riverD (.inl Fa4) (.inl Fb4) (.inl (0, 4)) 3 8 3 42 46 50) A12D A12D A12D A12D A12F A12F A12F A12F A48F A48F A48F A48F) H) := by
  refine teI (by decide) (Nat.le_of_ble_eq_true rfl) ?_
  intro p_ ev_ s mi_ below_ meth cd_ ls F hK hN hO hH hS hl
  have hH : TH E (tbC (dayD (.inl (0, 18))) (dayD (.inl (0, 18))) (riverD (.inl (a, a)) (.inl (b, b)) (.inl (0, 4)) 31 33 35 39 43 47) (riverD (.inl Fa2) (.inl Fb2) (.inl (0, 4)) 32 34 36 40 44 48) (rcD (.inl (t, t)) (.inr [26]) (.inr ks) (.inl (kb, kb))) rd tp A14F A14F A4F A4F A14F A14F (riverD (.inl Fa3) (.inl Fb3) (.inl (0, 4)) 3 8 3 41 45 49) (riverD (.inl Fa4) (.inl Fb4) (.inl (0, 4)) 3 8 3 42 46 50) A12D A12D A12D A12D A12F A12F A12F A12F A48F A48F A48F A48F) s.heap := hH
  have hl : lv_has ls 2 [(0, .ref a0), (1, .int a1)] := hl
  refine lv_iload_n F.1 F.2.1 dX6_keep_0 rfl (lv_at hl 1 rfl) ?_
  refine z_lt (tgt := 9) F dX6_keep_1 (by decide) (fun c_1 => absurd c_1 (by omega)) (fun c_1 => ?_)
  refine lv_iload_n F.1 F.2.1 dX6_keep_4 rfl (lv_at hl 1 rfl) ?_
  refine lv_iconst (v := 2) F.1 F.2.1 dX6_keep_5 (by decide) ?_
  refine topK (a := 2) (by decide) (fun k_2 hk_2 => ?_)
  refine b_lt (tgt := 11) F dX6_keep_6 (by decide) (fun c_3 => ?_) (fun c_3 => absurd c_3 (by omega))
  refine lv_aload_n F.1 F.2.1 dX6_keep_11 rfl (lv_at hl 0 rfl) ?_
  refine tGetR (j := 8) F hK hH (tyb ha0 (all1 rfl)) rfl (all1 rfl) clX6 (by decide) wd_2_0 dX6_keep_12 (fun q_4 hq_4 _ => ?_)
  refine lv_iload_n F.1 F.2.1 dX6_keep_15 rfl (lv_at hl 1 rfl) ?_
  refine tAald0 F hK hH (tyb hq_4 (all1 rfl)) rfl (ixb (n := 2) ha1 rfl rfl) dX6_keep_16 (fun q_5 hq_5 => ?_)
  have hq_5 : eT E q_5 ∈ [37] := by have h9_ := hq_5; rw [show (a1).toNatClampNeg = 0 from by show (a1).toInt.toNat = _; omega] at h9_; exact h9_
  refine lv_aload_n F.1 F.2.1 dX6_keep_17 rfl (lv_at hl 0 rfl) ?_
  refine tGetR (j := 2) F hK hH (tyb ha0 (all1 rfl)) rfl (all1 rfl) clX6 (by decide) wd_1_17 dX6_keep_18 (fun q_6 hq_6 _ => ?_)
  refine tVv (b := q_5) (As := [.ref q_6]) (rest := []) F hK hN hO (c_X2_copyOf_37_26 E (dayD (.inl (0, 18))) (dayD (.inl (0, 18))) (riverD (.inl Fa2) (.inl Fb2) (.inl (0, 4)) 32 34 36 40 44 48) (rcD (.inl (t, t)) (.inr [26]) (.inr ks) (.inl (kb, kb))) rd tp (riverD (.inl Fa4) (.inl Fb4) (.inl (0, 4)) 3 8 3 42 46 50) Fa3 Fb3 a b q_5 q_6 hq_5 hq_6 (by omega) (by omega) hFa3 hFb3) mv_X2_copyOf wd_39_1 ⟨Nat.le_of_ble_eq_true rfl, Nat.le_of_ble_eq_true rfl⟩ ⟨Nat.le_of_ble_eq_true rfl, Nat.le_of_ble_eq_true rfl⟩ hH hS (tRecv hK hH (tyb hq_5 (all1 rfl)) clX2) rfl hl.1 (Nat.le_of_ble_eq_true rfl) dX6_keep_21 (fun H locs hq hS => ?_)
  have hH := hq
  have hH : TH E (tbC (dayD (.inl (0, 18))) (dayD (.inl (0, 18))) (riverD (.inl (a, a)) (.inl (b, b)) (.inl (0, 4)) 31 33 35 39 43 47) (riverD (.inl Fa2) (.inl Fb2) (.inl (0, 4)) 32 34 36 40 44 48) (rcD (.inl (t, t)) (.inr [26]) (.inr ks) (.inl (kb, kb))) rd tp A14F A14F A4F A4F A14F A14F (riverD (.inl (a, a)) (.inl (b, b)) (.inl (0, 4)) 3 8 3 41 45 49) (riverD (.inl Fa4) (.inl Fb4) (.inl (0, 4)) 3 8 3 42 46 50) A12D A12D A12D A12D A12F A12F A12F A12F A48F A48F A48F A48F) H := hH
  refine lv_aload_n F.1 F.2.1 dX6_keep_24 rfl (lv_at hl 0 rfl) ?_
  refine tGetR (j := 9) F hK hH (tyb ha0 (all1 rfl)) rfl (all1 rfl) clX6 (by decide) wd_2_1 dX6_keep_25 (fun q_8 hq_8 _ => ?_)
  refine lv_iload_n F.1 F.2.1 dX6_keep_28 rfl (lv_at hl 1 rfl) ?_
  refine tAald F hK hH (tyb hq_8 (all1 rfl)) rfl (all1 rfl) (ixb (n := 2) ha1 rfl rfl) dX6_keep_29 (fun q_9 hq_9 _ => ?_)
  refine lv_aload_n F.1 F.2.1 dX6_keep_30 rfl (lv_at hl 0 rfl) ?_
  refine tGetR (j := 4) F hK hH (tyb ha0 (all1 rfl)) rfl (all1 rfl) clX6 (by decide) wd_1_22 dX6_keep_31 (fun q_10 hq_10 _ => ?_)
  refine tVv (b := q_9) (As := [.ref q_10]) (rest := []) F hK hN hO (c_X5_copyOf E (dayD (.inl (0, 18))) (dayD (.inl (0, 18))) (riverD (.inl (a, a)) (.inl (b, b)) (.inl (0, 4)) 31 33 35 39 43 47) (riverD (.inl Fa2) (.inl Fb2) (.inl (0, 4)) 32 34 36 40 44 48) (rcD (.inl (t, t)) (.inr [26]) (.inr ks) (.inl (kb, kb))) rd tp A14F A14F A4F A4F A14F A14F (riverD (.inl (a, a)) (.inl (b, b)) (.inl (0, 4)) 3 8 3 41 45 49) (riverD (.inl Fa4) (.inl Fb4) (.inl (0, 4)) 3 8 3 42 46 50) A12D A12D A12D A12D A12F A12F A12F A12F A48F A48F A48F A48F q_9 q_10 hq_9 hq_10) mv_X5_copyOf wd_19_18 ⟨Nat.le_of_ble_eq_true rfl, Nat.le_of_ble_eq_true rfl⟩ ⟨Nat.le_of_ble_eq_true rfl, Nat.le_of_ble_eq_true rfl⟩ hH hS (tRecv hK hH (tyb hq_9 (all1 rfl)) clX5) rfl hl.1 (Nat.le_of_ble_eq_true rfl) dX6_keep_34 (fun H locs hq hS => ?_)
  have hH := hq
  have hH : TH E (tbC (dayD (.inl (0, 18))) (dayD (.inl (0, 18))) (riverD (.inl (a, a)) (.inl (b, b)) (.inl (0, 4)) 31 33 35 39 43 47) (riverD (.inl Fa2) (.inl Fb2) (.inl (0, 4)) 32 34 36 40 44 48) (rcD (.inl (t, t)) (.inr [26]) (.inr ks) (.inl (kb, kb))) rd tp A14F A14F A4F A4F A14F A14F (riverD (.inl (a, a)) (.inl (b, b)) (.inl (0, 4)) 3 8 3 41 45 49) (riverD (.inl Fa4) (.inl Fb4) (.inl (0, 4)) 3 8 3 42 46 50) A12D A12D A12D A12D A12F A12F A12F A12F A48F A48F A48F A48F) H := hH
  refine lv_aload_n F.1 F.2.1 dX6_keep_37 rfl (lv_at hl 0 rfl) ?_
  refine lv_dup F.1 F.2.1 dX6_keep_38 rfl ?_
  refine tGetI (j := 10) F hK hH (tyb ha0 (all1 rfl)) rfl clX6 (by decide) wd_39_0 dX6_keep_39 (fun z_12 hz_12 => ?_)
  have ez_12 : 0 ≤ z_12.toInt ∧ z_12.toInt ≤ 3 := by omega
  refine lv_iconst (v := 1) F.1 F.2.1 dX6_keep_42 (by decide) ?_
  refine topK (a := 1) (by decide) (fun k_13 hk_13 => ?_)
  refine lv_iload_n F.1 F.2.1 dX6_keep_43 rfl (lv_at hl 1 rfl) ?_
  refine lv_ishl F.1 F.2.1 dX6_keep_44 ?_
  refine topE (fun z_14 xz_14 => ?_)
  refine lv_ior F.1 F.2.1 dX6_keep_45 ?_
  refine topE (fun z_15 xz_15 => ?_)
  have qz_15 := kb_set0 xz_15 xz_14 (kb := kb) (by omega) (by omega) (by omega) (by omega)
  have bz_15 : 0 ≤ z_15.toInt ∧ z_15.toInt ≤ 3 := by omega
  obtain ⟨g_16, hg_16⟩ : ∃ y : Int, z_15.toInt = y := ⟨_, rfl⟩
  have bg_16 : 0 ≤ g_16 ∧ g_16 ≤ 3 := by rw [← hg_16]; exact bz_15
  refine tPutG (j := 10) (t := 28) (fd := (.inl (g_16, g_16))) F hK hH hS (List.mem_singleton.mp ha0) (by decide) rfl rfl (fdI (by omega)) (TB1 := (tbC (dayD (.inl (0, 18))) (dayD (.inl (0, 18))) (riverD (.inl (a, a)) (.inl (b, b)) (.inl (0, 4)) 31 33 35 39 43 47) (riverD (.inl Fa2) (.inl Fb2) (.inl (0, 4)) 32 34 36 40 44 48) (rcD (.inl (t, t)) (.inr [26]) (.inr ks) (.inl (g_16, g_16))) rd tp A14F A14F A4F A4F A14F A14F (riverD (.inl (a, a)) (.inl (b, b)) (.inl (0, 4)) 3 8 3 41 45 49) (riverD (.inl Fa4) (.inl Fb4) (.inl (0, 4)) 3 8 3 42 46 50) A12D A12D A12D A12D A12F A12F A12F A12F A48F A48F A48F A48F)) rfl clX6 (by decide) wd_39_0 rfl rfl rfl rfl dX6_keep_46 (fun H locs hH hS => ?_)
  refine lv_aload_n F.1 F.2.1 dX6_keep_49 rfl (lv_at hl 0 rfl) ?_
  refine tGetR (j := 4) F hK hH (tyb ha0 (all1 rfl)) rfl (all1 rfl) clX6 (by decide) wd_1_22 dX6_keep_50 (fun q_17 hq_17 _ => ?_)
  refine tGetI (j := 0) F hK hH (tyb hq_17 (all1 rfl)) rfl clX5 (by decide) wd_19_12 dX6_keep_53 (fun z_18 hz_18 => ?_)
  exact txI F hS dX6_keep_56 rfl (⟨g_16, ⟨by omega, by omega, by omega⟩, (wkb hz_18 rfl rfl), hH⟩)
set_option maxHeartbeats 4000000 in
set_option maxRecDepth 100000 in
theorem c_X6_keep_0_2 (E : Ev) (rd : TD) (tp : TD) (Fa1 : Int × Int) (Fb1 : Int × Int) (Fa3 : Int × Int) (Fb3 : Int × Int) (Fa4 : Int × Int) (Fb4 : Int × Int) (ks : List Nat) (a : Int) (b : Int) (t : Int) (kb : Int) (a0 : Nat) (a1 : Int32) (ha0 : eT E a0 ∈ [28]) (ha1 : 0 ≤ a1.toInt ∧ a1.toInt ≤ 0) (ha : 0 ≤ a ∧ a ≤ 12) (hb : 0 ≤ b ∧ b ≤ 14) (ht : 0 ≤ t ∧ t ≤ 400) (hkb : 0 ≤ kb ∧ kb ≤ 3) (hFa1 : 0 ≤ Fa1.1 ∧ Fa1.2 ≤ 12) (hFb1 : 0 ≤ Fb1.1 ∧ Fb1.2 ≤ 14) (hFa3 : 0 ≤ Fa3.1 ∧ Fa3.2 ≤ 12) (hFb3 : 0 ≤ Fb3.1 ∧ Fb3.2 ≤ 14) (hFa4 : 0 ≤ Fa4.1 ∧ Fa4.2 ≤ 12) (hFb4 : 0 ≤ Fb4.1 ∧ Fb4.2 ≤ 14) (hks : ∀ t ∈ ks, t ∈ [26, 27]) : TcI E yX6_keep cX6_keep 2 .int ({ frames := 3, cells := 0, slots := 0, locals := 82 }) [.ref a0, .int a1] (fun H => TH E (tbC (dayD (.inl (0, 18))) (dayD (.inl (0, 18))) (riverD (.inl Fa1) (.inl Fb1) (.inl (0, 4)) 31 33 35 39 43 47) (riverD (.inl (a, a)) (.inl (b, b)) (.inl (0, 4)) 32 34 36 40 44 48) (rcD (.inl (t, t)) (.inr [27]) (.inr ks) (.inl (kb, kb))) rd tp A14F A14F A4F A4F A14F A14F (riverD (.inl Fa3) (.inl Fb3) (.inl (0, 4)) 3 8 3 41 45 49) (riverD (.inl Fa4) (.inl Fb4) (.inl (0, 4)) 3 8 3 42 46 50) A12D A12D A12D A12D A12F A12F A12F A12F A48F A48F A48F A48F) H) (fun v H => ∃ kb2 : Int, (0 ≤ kb2 ∧ kb2 ≤ 3 ∧ kb2 = kb - kb % 2 + 1) ∧ ((-2147483648) ≤ v.toInt ∧ v.toInt ≤ 2147483647) ∧ TH E (tbC (dayD (.inl (0, 18))) (dayD (.inl (0, 18))) (riverD (.inl Fa1) (.inl Fb1) (.inl (0, 4)) 31 33 35 39 43 47) (riverD (.inl (a, a)) (.inl (b, b)) (.inl (0, 4)) 32 34 36 40 44 48) (rcD (.inl (t, t)) (.inr [27]) (.inr ks) (.inl (kb2, kb2))) rd tp A14F A14F A4F A4F A14F A14F (riverD (.inl (a, a)) (.inl (b, b)) (.inl (0, 4)) 3 8 3 41 45 49) (riverD (.inl Fa4) (.inl Fb4) (.inl (0, 4)) 3 8 3 42 46 50) A12D A12D A12D A12D A12F A12F A12F A12F A48F A48F A48F A48F) H) := by
  refine teI (by decide) (Nat.le_of_ble_eq_true rfl) ?_
  intro p_ ev_ s mi_ below_ meth cd_ ls F hK hN hO hH hS hl
  have hH : TH E (tbC (dayD (.inl (0, 18))) (dayD (.inl (0, 18))) (riverD (.inl Fa1) (.inl Fb1) (.inl (0, 4)) 31 33 35 39 43 47) (riverD (.inl (a, a)) (.inl (b, b)) (.inl (0, 4)) 32 34 36 40 44 48) (rcD (.inl (t, t)) (.inr [27]) (.inr ks) (.inl (kb, kb))) rd tp A14F A14F A4F A4F A14F A14F (riverD (.inl Fa3) (.inl Fb3) (.inl (0, 4)) 3 8 3 41 45 49) (riverD (.inl Fa4) (.inl Fb4) (.inl (0, 4)) 3 8 3 42 46 50) A12D A12D A12D A12D A12F A12F A12F A12F A48F A48F A48F A48F) s.heap := hH
  have hl : lv_has ls 2 [(0, .ref a0), (1, .int a1)] := hl
  refine lv_iload_n F.1 F.2.1 dX6_keep_0 rfl (lv_at hl 1 rfl) ?_
  refine z_lt (tgt := 9) F dX6_keep_1 (by decide) (fun c_1 => absurd c_1 (by omega)) (fun c_1 => ?_)
  refine lv_iload_n F.1 F.2.1 dX6_keep_4 rfl (lv_at hl 1 rfl) ?_
  refine lv_iconst (v := 2) F.1 F.2.1 dX6_keep_5 (by decide) ?_
  refine topK (a := 2) (by decide) (fun k_2 hk_2 => ?_)
  refine b_lt (tgt := 11) F dX6_keep_6 (by decide) (fun c_3 => ?_) (fun c_3 => absurd c_3 (by omega))
  refine lv_aload_n F.1 F.2.1 dX6_keep_11 rfl (lv_at hl 0 rfl) ?_
  refine tGetR (j := 8) F hK hH (tyb ha0 (all1 rfl)) rfl (all1 rfl) clX6 (by decide) wd_2_0 dX6_keep_12 (fun q_4 hq_4 _ => ?_)
  refine lv_iload_n F.1 F.2.1 dX6_keep_15 rfl (lv_at hl 1 rfl) ?_
  refine tAald0 F hK hH (tyb hq_4 (all1 rfl)) rfl (ixb (n := 2) ha1 rfl rfl) dX6_keep_16 (fun q_5 hq_5 => ?_)
  have hq_5 : eT E q_5 ∈ [37] := by have h9_ := hq_5; rw [show (a1).toNatClampNeg = 0 from by show (a1).toInt.toNat = _; omega] at h9_; exact h9_
  refine lv_aload_n F.1 F.2.1 dX6_keep_17 rfl (lv_at hl 0 rfl) ?_
  refine tGetR (j := 2) F hK hH (tyb ha0 (all1 rfl)) rfl (all1 rfl) clX6 (by decide) wd_1_17 dX6_keep_18 (fun q_6 hq_6 _ => ?_)
  refine tVv (b := q_5) (As := [.ref q_6]) (rest := []) F hK hN hO (c_X2_copyOf_37_27 E (dayD (.inl (0, 18))) (dayD (.inl (0, 18))) (riverD (.inl Fa1) (.inl Fb1) (.inl (0, 4)) 31 33 35 39 43 47) (rcD (.inl (t, t)) (.inr [27]) (.inr ks) (.inl (kb, kb))) rd tp (riverD (.inl Fa4) (.inl Fb4) (.inl (0, 4)) 3 8 3 42 46 50) Fa3 Fb3 a b q_5 q_6 hq_5 hq_6 (by omega) (by omega) hFa3 hFb3) mv_X2_copyOf wd_39_1 ⟨Nat.le_of_ble_eq_true rfl, Nat.le_of_ble_eq_true rfl⟩ ⟨Nat.le_of_ble_eq_true rfl, Nat.le_of_ble_eq_true rfl⟩ hH hS (tRecv hK hH (tyb hq_5 (all1 rfl)) clX2) rfl hl.1 (Nat.le_of_ble_eq_true rfl) dX6_keep_21 (fun H locs hq hS => ?_)
  have hH := hq
  have hH : TH E (tbC (dayD (.inl (0, 18))) (dayD (.inl (0, 18))) (riverD (.inl Fa1) (.inl Fb1) (.inl (0, 4)) 31 33 35 39 43 47) (riverD (.inl (a, a)) (.inl (b, b)) (.inl (0, 4)) 32 34 36 40 44 48) (rcD (.inl (t, t)) (.inr [27]) (.inr ks) (.inl (kb, kb))) rd tp A14F A14F A4F A4F A14F A14F (riverD (.inl (a, a)) (.inl (b, b)) (.inl (0, 4)) 3 8 3 41 45 49) (riverD (.inl Fa4) (.inl Fb4) (.inl (0, 4)) 3 8 3 42 46 50) A12D A12D A12D A12D A12F A12F A12F A12F A48F A48F A48F A48F) H := hH
  refine lv_aload_n F.1 F.2.1 dX6_keep_24 rfl (lv_at hl 0 rfl) ?_
  refine tGetR (j := 9) F hK hH (tyb ha0 (all1 rfl)) rfl (all1 rfl) clX6 (by decide) wd_2_1 dX6_keep_25 (fun q_8 hq_8 _ => ?_)
  refine lv_iload_n F.1 F.2.1 dX6_keep_28 rfl (lv_at hl 1 rfl) ?_
  refine tAald F hK hH (tyb hq_8 (all1 rfl)) rfl (all1 rfl) (ixb (n := 2) ha1 rfl rfl) dX6_keep_29 (fun q_9 hq_9 _ => ?_)
  refine lv_aload_n F.1 F.2.1 dX6_keep_30 rfl (lv_at hl 0 rfl) ?_
  refine tGetR (j := 4) F hK hH (tyb ha0 (all1 rfl)) rfl (all1 rfl) clX6 (by decide) wd_1_22 dX6_keep_31 (fun q_10 hq_10 _ => ?_)
  refine tVv (b := q_9) (As := [.ref q_10]) (rest := []) F hK hN hO (c_X5_copyOf E (dayD (.inl (0, 18))) (dayD (.inl (0, 18))) (riverD (.inl Fa1) (.inl Fb1) (.inl (0, 4)) 31 33 35 39 43 47) (riverD (.inl (a, a)) (.inl (b, b)) (.inl (0, 4)) 32 34 36 40 44 48) (rcD (.inl (t, t)) (.inr [27]) (.inr ks) (.inl (kb, kb))) rd tp A14F A14F A4F A4F A14F A14F (riverD (.inl (a, a)) (.inl (b, b)) (.inl (0, 4)) 3 8 3 41 45 49) (riverD (.inl Fa4) (.inl Fb4) (.inl (0, 4)) 3 8 3 42 46 50) A12D A12D A12D A12D A12F A12F A12F A12F A48F A48F A48F A48F q_9 q_10 hq_9 hq_10) mv_X5_copyOf wd_19_18 ⟨Nat.le_of_ble_eq_true rfl, Nat.le_of_ble_eq_true rfl⟩ ⟨Nat.le_of_ble_eq_true rfl, Nat.le_of_ble_eq_true rfl⟩ hH hS (tRecv hK hH (tyb hq_9 (all1 rfl)) clX5) rfl hl.1 (Nat.le_of_ble_eq_true rfl) dX6_keep_34 (fun H locs hq hS => ?_)
  have hH := hq
  have hH : TH E (tbC (dayD (.inl (0, 18))) (dayD (.inl (0, 18))) (riverD (.inl Fa1) (.inl Fb1) (.inl (0, 4)) 31 33 35 39 43 47) (riverD (.inl (a, a)) (.inl (b, b)) (.inl (0, 4)) 32 34 36 40 44 48) (rcD (.inl (t, t)) (.inr [27]) (.inr ks) (.inl (kb, kb))) rd tp A14F A14F A4F A4F A14F A14F (riverD (.inl (a, a)) (.inl (b, b)) (.inl (0, 4)) 3 8 3 41 45 49) (riverD (.inl Fa4) (.inl Fb4) (.inl (0, 4)) 3 8 3 42 46 50) A12D A12D A12D A12D A12F A12F A12F A12F A48F A48F A48F A48F) H := hH
  refine lv_aload_n F.1 F.2.1 dX6_keep_37 rfl (lv_at hl 0 rfl) ?_
  refine lv_dup F.1 F.2.1 dX6_keep_38 rfl ?_
  refine tGetI (j := 10) F hK hH (tyb ha0 (all1 rfl)) rfl clX6 (by decide) wd_39_0 dX6_keep_39 (fun z_12 hz_12 => ?_)
  have ez_12 : 0 ≤ z_12.toInt ∧ z_12.toInt ≤ 3 := by omega
  refine lv_iconst (v := 1) F.1 F.2.1 dX6_keep_42 (by decide) ?_
  refine topK (a := 1) (by decide) (fun k_13 hk_13 => ?_)
  refine lv_iload_n F.1 F.2.1 dX6_keep_43 rfl (lv_at hl 1 rfl) ?_
  refine lv_ishl F.1 F.2.1 dX6_keep_44 ?_
  refine topE (fun z_14 xz_14 => ?_)
  refine lv_ior F.1 F.2.1 dX6_keep_45 ?_
  refine topE (fun z_15 xz_15 => ?_)
  have qz_15 := kb_set0 xz_15 xz_14 (kb := kb) (by omega) (by omega) (by omega) (by omega)
  have bz_15 : 0 ≤ z_15.toInt ∧ z_15.toInt ≤ 3 := by omega
  obtain ⟨g_16, hg_16⟩ : ∃ y : Int, z_15.toInt = y := ⟨_, rfl⟩
  have bg_16 : 0 ≤ g_16 ∧ g_16 ≤ 3 := by rw [← hg_16]; exact bz_15
  refine tPutG (j := 10) (t := 28) (fd := (.inl (g_16, g_16))) F hK hH hS (List.mem_singleton.mp ha0) (by decide) rfl rfl (fdI (by omega)) (TB1 := (tbC (dayD (.inl (0, 18))) (dayD (.inl (0, 18))) (riverD (.inl Fa1) (.inl Fb1) (.inl (0, 4)) 31 33 35 39 43 47) (riverD (.inl (a, a)) (.inl (b, b)) (.inl (0, 4)) 32 34 36 40 44 48) (rcD (.inl (t, t)) (.inr [27]) (.inr ks) (.inl (g_16, g_16))) rd tp A14F A14F A4F A4F A14F A14F (riverD (.inl (a, a)) (.inl (b, b)) (.inl (0, 4)) 3 8 3 41 45 49) (riverD (.inl Fa4) (.inl Fb4) (.inl (0, 4)) 3 8 3 42 46 50) A12D A12D A12D A12D A12F A12F A12F A12F A48F A48F A48F A48F)) rfl clX6 (by decide) wd_39_0 rfl rfl rfl rfl dX6_keep_46 (fun H locs hH hS => ?_)
  refine lv_aload_n F.1 F.2.1 dX6_keep_49 rfl (lv_at hl 0 rfl) ?_
  refine tGetR (j := 4) F hK hH (tyb ha0 (all1 rfl)) rfl (all1 rfl) clX6 (by decide) wd_1_22 dX6_keep_50 (fun q_17 hq_17 _ => ?_)
  refine tGetI (j := 0) F hK hH (tyb hq_17 (all1 rfl)) rfl clX5 (by decide) wd_19_12 dX6_keep_53 (fun z_18 hz_18 => ?_)
  exact txI F hS dX6_keep_56 rfl (⟨g_16, ⟨by omega, by omega, by omega⟩, (wkb hz_18 rfl rfl), hH⟩)
set_option maxHeartbeats 4000000 in
set_option maxRecDepth 100000 in
theorem c_X6_keep_1_1 (E : Ev) (rd : TD) (tp : TD) (Fa2 : Int × Int) (Fb2 : Int × Int) (Fa3 : Int × Int) (Fb3 : Int × Int) (Fa4 : Int × Int) (Fb4 : Int × Int) (ks : List Nat) (a : Int) (b : Int) (t : Int) (kb : Int) (a0 : Nat) (a1 : Int32) (ha0 : eT E a0 ∈ [28]) (ha1 : 1 ≤ a1.toInt ∧ a1.toInt ≤ 1) (ha : 0 ≤ a ∧ a ≤ 12) (hb : 0 ≤ b ∧ b ≤ 14) (ht : 0 ≤ t ∧ t ≤ 400) (hkb : 0 ≤ kb ∧ kb ≤ 3) (hFa2 : 0 ≤ Fa2.1 ∧ Fa2.2 ≤ 12) (hFb2 : 0 ≤ Fb2.1 ∧ Fb2.2 ≤ 14) (hFa3 : 0 ≤ Fa3.1 ∧ Fa3.2 ≤ 12) (hFb3 : 0 ≤ Fb3.1 ∧ Fb3.2 ≤ 14) (hFa4 : 0 ≤ Fa4.1 ∧ Fa4.2 ≤ 12) (hFb4 : 0 ≤ Fb4.1 ∧ Fb4.2 ≤ 14) (hks : ∀ t ∈ ks, t ∈ [26, 27]) : TcI E yX6_keep cX6_keep 2 .int ({ frames := 3, cells := 0, slots := 0, locals := 82 }) [.ref a0, .int a1] (fun H => TH E (tbC (dayD (.inl (0, 18))) (dayD (.inl (0, 18))) (riverD (.inl (a, a)) (.inl (b, b)) (.inl (0, 4)) 31 33 35 39 43 47) (riverD (.inl Fa2) (.inl Fb2) (.inl (0, 4)) 32 34 36 40 44 48) (rcD (.inl (t, t)) (.inr [26]) (.inr ks) (.inl (kb, kb))) rd tp A14F A14F A4F A4F A14F A14F (riverD (.inl Fa3) (.inl Fb3) (.inl (0, 4)) 3 8 3 41 45 49) (riverD (.inl Fa4) (.inl Fb4) (.inl (0, 4)) 3 8 3 42 46 50) A12D A12D A12D A12D A12F A12F A12F A12F A48F A48F A48F A48F) H) (fun v H => ∃ kb2 : Int, (0 ≤ kb2 ∧ kb2 ≤ 3 ∧ kb2 = kb % 2 + 2) ∧ ((-2147483648) ≤ v.toInt ∧ v.toInt ≤ 2147483647) ∧ TH E (tbC (dayD (.inl (0, 18))) (dayD (.inl (0, 18))) (riverD (.inl (a, a)) (.inl (b, b)) (.inl (0, 4)) 31 33 35 39 43 47) (riverD (.inl Fa2) (.inl Fb2) (.inl (0, 4)) 32 34 36 40 44 48) (rcD (.inl (t, t)) (.inr [26]) (.inr ks) (.inl (kb2, kb2))) rd tp A14F A14F A4F A4F A14F A14F (riverD (.inl Fa3) (.inl Fb3) (.inl (0, 4)) 3 8 3 41 45 49) (riverD (.inl (a, a)) (.inl (b, b)) (.inl (0, 4)) 3 8 3 42 46 50) A12D A12D A12D A12D A12F A12F A12F A12F A48F A48F A48F A48F) H) := by
  refine teI (by decide) (Nat.le_of_ble_eq_true rfl) ?_
  intro p_ ev_ s mi_ below_ meth cd_ ls F hK hN hO hH hS hl
  have hH : TH E (tbC (dayD (.inl (0, 18))) (dayD (.inl (0, 18))) (riverD (.inl (a, a)) (.inl (b, b)) (.inl (0, 4)) 31 33 35 39 43 47) (riverD (.inl Fa2) (.inl Fb2) (.inl (0, 4)) 32 34 36 40 44 48) (rcD (.inl (t, t)) (.inr [26]) (.inr ks) (.inl (kb, kb))) rd tp A14F A14F A4F A4F A14F A14F (riverD (.inl Fa3) (.inl Fb3) (.inl (0, 4)) 3 8 3 41 45 49) (riverD (.inl Fa4) (.inl Fb4) (.inl (0, 4)) 3 8 3 42 46 50) A12D A12D A12D A12D A12F A12F A12F A12F A48F A48F A48F A48F) s.heap := hH
  have hl : lv_has ls 2 [(0, .ref a0), (1, .int a1)] := hl
  refine lv_iload_n F.1 F.2.1 dX6_keep_0 rfl (lv_at hl 1 rfl) ?_
  refine z_lt (tgt := 9) F dX6_keep_1 (by decide) (fun c_1 => absurd c_1 (by omega)) (fun c_1 => ?_)
  refine lv_iload_n F.1 F.2.1 dX6_keep_4 rfl (lv_at hl 1 rfl) ?_
  refine lv_iconst (v := 2) F.1 F.2.1 dX6_keep_5 (by decide) ?_
  refine topK (a := 2) (by decide) (fun k_2 hk_2 => ?_)
  refine b_lt (tgt := 11) F dX6_keep_6 (by decide) (fun c_3 => ?_) (fun c_3 => absurd c_3 (by omega))
  refine lv_aload_n F.1 F.2.1 dX6_keep_11 rfl (lv_at hl 0 rfl) ?_
  refine tGetR (j := 8) F hK hH (tyb ha0 (all1 rfl)) rfl (all1 rfl) clX6 (by decide) wd_2_0 dX6_keep_12 (fun q_4 hq_4 _ => ?_)
  refine lv_iload_n F.1 F.2.1 dX6_keep_15 rfl (lv_at hl 1 rfl) ?_
  refine tAald0 F hK hH (tyb hq_4 (all1 rfl)) rfl (ixb (n := 2) ha1 rfl rfl) dX6_keep_16 (fun q_5 hq_5 => ?_)
  have hq_5 : eT E q_5 ∈ [38] := by have h9_ := hq_5; rw [show (a1).toNatClampNeg = 1 from by show (a1).toInt.toNat = _; omega] at h9_; exact h9_
  refine lv_aload_n F.1 F.2.1 dX6_keep_17 rfl (lv_at hl 0 rfl) ?_
  refine tGetR (j := 2) F hK hH (tyb ha0 (all1 rfl)) rfl (all1 rfl) clX6 (by decide) wd_1_17 dX6_keep_18 (fun q_6 hq_6 _ => ?_)
  refine tVv (b := q_5) (As := [.ref q_6]) (rest := []) F hK hN hO (c_X2_copyOf_38_26 E (dayD (.inl (0, 18))) (dayD (.inl (0, 18))) (riverD (.inl Fa2) (.inl Fb2) (.inl (0, 4)) 32 34 36 40 44 48) (rcD (.inl (t, t)) (.inr [26]) (.inr ks) (.inl (kb, kb))) rd tp (riverD (.inl Fa3) (.inl Fb3) (.inl (0, 4)) 3 8 3 41 45 49) Fa4 Fb4 a b q_5 q_6 hq_5 hq_6 (by omega) (by omega) hFa4 hFb4) mv_X2_copyOf wd_39_1 ⟨Nat.le_of_ble_eq_true rfl, Nat.le_of_ble_eq_true rfl⟩ ⟨Nat.le_of_ble_eq_true rfl, Nat.le_of_ble_eq_true rfl⟩ hH hS (tRecv hK hH (tyb hq_5 (all1 rfl)) clX2) rfl hl.1 (Nat.le_of_ble_eq_true rfl) dX6_keep_21 (fun H locs hq hS => ?_)
  have hH := hq
  have hH : TH E (tbC (dayD (.inl (0, 18))) (dayD (.inl (0, 18))) (riverD (.inl (a, a)) (.inl (b, b)) (.inl (0, 4)) 31 33 35 39 43 47) (riverD (.inl Fa2) (.inl Fb2) (.inl (0, 4)) 32 34 36 40 44 48) (rcD (.inl (t, t)) (.inr [26]) (.inr ks) (.inl (kb, kb))) rd tp A14F A14F A4F A4F A14F A14F (riverD (.inl Fa3) (.inl Fb3) (.inl (0, 4)) 3 8 3 41 45 49) (riverD (.inl (a, a)) (.inl (b, b)) (.inl (0, 4)) 3 8 3 42 46 50) A12D A12D A12D A12D A12F A12F A12F A12F A48F A48F A48F A48F) H := hH
  refine lv_aload_n F.1 F.2.1 dX6_keep_24 rfl (lv_at hl 0 rfl) ?_
  refine tGetR (j := 9) F hK hH (tyb ha0 (all1 rfl)) rfl (all1 rfl) clX6 (by decide) wd_2_1 dX6_keep_25 (fun q_8 hq_8 _ => ?_)
  refine lv_iload_n F.1 F.2.1 dX6_keep_28 rfl (lv_at hl 1 rfl) ?_
  refine tAald F hK hH (tyb hq_8 (all1 rfl)) rfl (all1 rfl) (ixb (n := 2) ha1 rfl rfl) dX6_keep_29 (fun q_9 hq_9 _ => ?_)
  refine lv_aload_n F.1 F.2.1 dX6_keep_30 rfl (lv_at hl 0 rfl) ?_
  refine tGetR (j := 4) F hK hH (tyb ha0 (all1 rfl)) rfl (all1 rfl) clX6 (by decide) wd_1_22 dX6_keep_31 (fun q_10 hq_10 _ => ?_)
  refine tVv (b := q_9) (As := [.ref q_10]) (rest := []) F hK hN hO (c_X5_copyOf E (dayD (.inl (0, 18))) (dayD (.inl (0, 18))) (riverD (.inl (a, a)) (.inl (b, b)) (.inl (0, 4)) 31 33 35 39 43 47) (riverD (.inl Fa2) (.inl Fb2) (.inl (0, 4)) 32 34 36 40 44 48) (rcD (.inl (t, t)) (.inr [26]) (.inr ks) (.inl (kb, kb))) rd tp A14F A14F A4F A4F A14F A14F (riverD (.inl Fa3) (.inl Fb3) (.inl (0, 4)) 3 8 3 41 45 49) (riverD (.inl (a, a)) (.inl (b, b)) (.inl (0, 4)) 3 8 3 42 46 50) A12D A12D A12D A12D A12F A12F A12F A12F A48F A48F A48F A48F q_9 q_10 hq_9 hq_10) mv_X5_copyOf wd_19_18 ⟨Nat.le_of_ble_eq_true rfl, Nat.le_of_ble_eq_true rfl⟩ ⟨Nat.le_of_ble_eq_true rfl, Nat.le_of_ble_eq_true rfl⟩ hH hS (tRecv hK hH (tyb hq_9 (all1 rfl)) clX5) rfl hl.1 (Nat.le_of_ble_eq_true rfl) dX6_keep_34 (fun H locs hq hS => ?_)
  have hH := hq
  have hH : TH E (tbC (dayD (.inl (0, 18))) (dayD (.inl (0, 18))) (riverD (.inl (a, a)) (.inl (b, b)) (.inl (0, 4)) 31 33 35 39 43 47) (riverD (.inl Fa2) (.inl Fb2) (.inl (0, 4)) 32 34 36 40 44 48) (rcD (.inl (t, t)) (.inr [26]) (.inr ks) (.inl (kb, kb))) rd tp A14F A14F A4F A4F A14F A14F (riverD (.inl Fa3) (.inl Fb3) (.inl (0, 4)) 3 8 3 41 45 49) (riverD (.inl (a, a)) (.inl (b, b)) (.inl (0, 4)) 3 8 3 42 46 50) A12D A12D A12D A12D A12F A12F A12F A12F A48F A48F A48F A48F) H := hH
  refine lv_aload_n F.1 F.2.1 dX6_keep_37 rfl (lv_at hl 0 rfl) ?_
  refine lv_dup F.1 F.2.1 dX6_keep_38 rfl ?_
  refine tGetI (j := 10) F hK hH (tyb ha0 (all1 rfl)) rfl clX6 (by decide) wd_39_0 dX6_keep_39 (fun z_12 hz_12 => ?_)
  have ez_12 : 0 ≤ z_12.toInt ∧ z_12.toInt ≤ 3 := by omega
  refine lv_iconst (v := 1) F.1 F.2.1 dX6_keep_42 (by decide) ?_
  refine topK (a := 1) (by decide) (fun k_13 hk_13 => ?_)
  refine lv_iload_n F.1 F.2.1 dX6_keep_43 rfl (lv_at hl 1 rfl) ?_
  refine lv_ishl F.1 F.2.1 dX6_keep_44 ?_
  refine topE (fun z_14 xz_14 => ?_)
  refine lv_ior F.1 F.2.1 dX6_keep_45 ?_
  refine topE (fun z_15 xz_15 => ?_)
  have qz_15 := kb_set1 xz_15 xz_14 (kb := kb) (by omega) (by omega) (by omega) (by omega)
  have bz_15 : 0 ≤ z_15.toInt ∧ z_15.toInt ≤ 3 := by omega
  obtain ⟨g_16, hg_16⟩ : ∃ y : Int, z_15.toInt = y := ⟨_, rfl⟩
  have bg_16 : 0 ≤ g_16 ∧ g_16 ≤ 3 := by rw [← hg_16]; exact bz_15
  refine tPutG (j := 10) (t := 28) (fd := (.inl (g_16, g_16))) F hK hH hS (List.mem_singleton.mp ha0) (by decide) rfl rfl (fdI (by omega)) (TB1 := (tbC (dayD (.inl (0, 18))) (dayD (.inl (0, 18))) (riverD (.inl (a, a)) (.inl (b, b)) (.inl (0, 4)) 31 33 35 39 43 47) (riverD (.inl Fa2) (.inl Fb2) (.inl (0, 4)) 32 34 36 40 44 48) (rcD (.inl (t, t)) (.inr [26]) (.inr ks) (.inl (g_16, g_16))) rd tp A14F A14F A4F A4F A14F A14F (riverD (.inl Fa3) (.inl Fb3) (.inl (0, 4)) 3 8 3 41 45 49) (riverD (.inl (a, a)) (.inl (b, b)) (.inl (0, 4)) 3 8 3 42 46 50) A12D A12D A12D A12D A12F A12F A12F A12F A48F A48F A48F A48F)) rfl clX6 (by decide) wd_39_0 rfl rfl rfl rfl dX6_keep_46 (fun H locs hH hS => ?_)
  refine lv_aload_n F.1 F.2.1 dX6_keep_49 rfl (lv_at hl 0 rfl) ?_
  refine tGetR (j := 4) F hK hH (tyb ha0 (all1 rfl)) rfl (all1 rfl) clX6 (by decide) wd_1_22 dX6_keep_50 (fun q_17 hq_17 _ => ?_)
  refine tGetI (j := 0) F hK hH (tyb hq_17 (all1 rfl)) rfl clX5 (by decide) wd_19_12 dX6_keep_53 (fun z_18 hz_18 => ?_)
  exact txI F hS dX6_keep_56 rfl (⟨g_16, ⟨by omega, by omega, by omega⟩, (wkb hz_18 rfl rfl), hH⟩)
set_option maxHeartbeats 4000000 in
set_option maxRecDepth 100000 in
theorem c_X6_keep_1_2 (E : Ev) (rd : TD) (tp : TD) (Fa1 : Int × Int) (Fb1 : Int × Int) (Fa3 : Int × Int) (Fb3 : Int × Int) (Fa4 : Int × Int) (Fb4 : Int × Int) (ks : List Nat) (a : Int) (b : Int) (t : Int) (kb : Int) (a0 : Nat) (a1 : Int32) (ha0 : eT E a0 ∈ [28]) (ha1 : 1 ≤ a1.toInt ∧ a1.toInt ≤ 1) (ha : 0 ≤ a ∧ a ≤ 12) (hb : 0 ≤ b ∧ b ≤ 14) (ht : 0 ≤ t ∧ t ≤ 400) (hkb : 0 ≤ kb ∧ kb ≤ 3) (hFa1 : 0 ≤ Fa1.1 ∧ Fa1.2 ≤ 12) (hFb1 : 0 ≤ Fb1.1 ∧ Fb1.2 ≤ 14) (hFa3 : 0 ≤ Fa3.1 ∧ Fa3.2 ≤ 12) (hFb3 : 0 ≤ Fb3.1 ∧ Fb3.2 ≤ 14) (hFa4 : 0 ≤ Fa4.1 ∧ Fa4.2 ≤ 12) (hFb4 : 0 ≤ Fb4.1 ∧ Fb4.2 ≤ 14) (hks : ∀ t ∈ ks, t ∈ [26, 27]) : TcI E yX6_keep cX6_keep 2 .int ({ frames := 3, cells := 0, slots := 0, locals := 82 }) [.ref a0, .int a1] (fun H => TH E (tbC (dayD (.inl (0, 18))) (dayD (.inl (0, 18))) (riverD (.inl Fa1) (.inl Fb1) (.inl (0, 4)) 31 33 35 39 43 47) (riverD (.inl (a, a)) (.inl (b, b)) (.inl (0, 4)) 32 34 36 40 44 48) (rcD (.inl (t, t)) (.inr [27]) (.inr ks) (.inl (kb, kb))) rd tp A14F A14F A4F A4F A14F A14F (riverD (.inl Fa3) (.inl Fb3) (.inl (0, 4)) 3 8 3 41 45 49) (riverD (.inl Fa4) (.inl Fb4) (.inl (0, 4)) 3 8 3 42 46 50) A12D A12D A12D A12D A12F A12F A12F A12F A48F A48F A48F A48F) H) (fun v H => ∃ kb2 : Int, (0 ≤ kb2 ∧ kb2 ≤ 3 ∧ kb2 = kb % 2 + 2) ∧ ((-2147483648) ≤ v.toInt ∧ v.toInt ≤ 2147483647) ∧ TH E (tbC (dayD (.inl (0, 18))) (dayD (.inl (0, 18))) (riverD (.inl Fa1) (.inl Fb1) (.inl (0, 4)) 31 33 35 39 43 47) (riverD (.inl (a, a)) (.inl (b, b)) (.inl (0, 4)) 32 34 36 40 44 48) (rcD (.inl (t, t)) (.inr [27]) (.inr ks) (.inl (kb2, kb2))) rd tp A14F A14F A4F A4F A14F A14F (riverD (.inl Fa3) (.inl Fb3) (.inl (0, 4)) 3 8 3 41 45 49) (riverD (.inl (a, a)) (.inl (b, b)) (.inl (0, 4)) 3 8 3 42 46 50) A12D A12D A12D A12D A12F A12F A12F A12F A48F A48F A48F A48F) H) := by
  refine teI (by decide) (Nat.le_of_ble_eq_true rfl) ?_
  intro p_ ev_ s mi_ below_ meth cd_ ls F hK hN hO hH hS hl
  have hH : TH E (tbC (dayD (.inl (0, 18))) (dayD (.inl (0, 18))) (riverD (.inl Fa1) (.inl Fb1) (.inl (0, 4)) 31 33 35 39 43 47) (riverD (.inl (a, a)) (.inl (b, b)) (.inl (0, 4)) 32 34 36 40 44 48) (rcD (.inl (t, t)) (.inr [27]) (.inr ks) (.inl (kb, kb))) rd tp A14F A14F A4F A4F A14F A14F (riverD (.inl Fa3) (.inl Fb3) (.inl (0, 4)) 3 8 3 41 45 49) (riverD (.inl Fa4) (.inl Fb4) (.inl (0, 4)) 3 8 3 42 46 50) A12D A12D A12D A12D A12F A12F A12F A12F A48F A48F A48F A48F) s.heap := hH
  have hl : lv_has ls 2 [(0, .ref a0), (1, .int a1)] := hl
  refine lv_iload_n F.1 F.2.1 dX6_keep_0 rfl (lv_at hl 1 rfl) ?_
  refine z_lt (tgt := 9) F dX6_keep_1 (by decide) (fun c_1 => absurd c_1 (by omega)) (fun c_1 => ?_)
  refine lv_iload_n F.1 F.2.1 dX6_keep_4 rfl (lv_at hl 1 rfl) ?_
  refine lv_iconst (v := 2) F.1 F.2.1 dX6_keep_5 (by decide) ?_
  refine topK (a := 2) (by decide) (fun k_2 hk_2 => ?_)
  refine b_lt (tgt := 11) F dX6_keep_6 (by decide) (fun c_3 => ?_) (fun c_3 => absurd c_3 (by omega))
  refine lv_aload_n F.1 F.2.1 dX6_keep_11 rfl (lv_at hl 0 rfl) ?_
  refine tGetR (j := 8) F hK hH (tyb ha0 (all1 rfl)) rfl (all1 rfl) clX6 (by decide) wd_2_0 dX6_keep_12 (fun q_4 hq_4 _ => ?_)
  refine lv_iload_n F.1 F.2.1 dX6_keep_15 rfl (lv_at hl 1 rfl) ?_
  refine tAald0 F hK hH (tyb hq_4 (all1 rfl)) rfl (ixb (n := 2) ha1 rfl rfl) dX6_keep_16 (fun q_5 hq_5 => ?_)
  have hq_5 : eT E q_5 ∈ [38] := by have h9_ := hq_5; rw [show (a1).toNatClampNeg = 1 from by show (a1).toInt.toNat = _; omega] at h9_; exact h9_
  refine lv_aload_n F.1 F.2.1 dX6_keep_17 rfl (lv_at hl 0 rfl) ?_
  refine tGetR (j := 2) F hK hH (tyb ha0 (all1 rfl)) rfl (all1 rfl) clX6 (by decide) wd_1_17 dX6_keep_18 (fun q_6 hq_6 _ => ?_)
  refine tVv (b := q_5) (As := [.ref q_6]) (rest := []) F hK hN hO (c_X2_copyOf_38_27 E (dayD (.inl (0, 18))) (dayD (.inl (0, 18))) (riverD (.inl Fa1) (.inl Fb1) (.inl (0, 4)) 31 33 35 39 43 47) (rcD (.inl (t, t)) (.inr [27]) (.inr ks) (.inl (kb, kb))) rd tp (riverD (.inl Fa3) (.inl Fb3) (.inl (0, 4)) 3 8 3 41 45 49) Fa4 Fb4 a b q_5 q_6 hq_5 hq_6 (by omega) (by omega) hFa4 hFb4) mv_X2_copyOf wd_39_1 ⟨Nat.le_of_ble_eq_true rfl, Nat.le_of_ble_eq_true rfl⟩ ⟨Nat.le_of_ble_eq_true rfl, Nat.le_of_ble_eq_true rfl⟩ hH hS (tRecv hK hH (tyb hq_5 (all1 rfl)) clX2) rfl hl.1 (Nat.le_of_ble_eq_true rfl) dX6_keep_21 (fun H locs hq hS => ?_)
  have hH := hq
  have hH : TH E (tbC (dayD (.inl (0, 18))) (dayD (.inl (0, 18))) (riverD (.inl Fa1) (.inl Fb1) (.inl (0, 4)) 31 33 35 39 43 47) (riverD (.inl (a, a)) (.inl (b, b)) (.inl (0, 4)) 32 34 36 40 44 48) (rcD (.inl (t, t)) (.inr [27]) (.inr ks) (.inl (kb, kb))) rd tp A14F A14F A4F A4F A14F A14F (riverD (.inl Fa3) (.inl Fb3) (.inl (0, 4)) 3 8 3 41 45 49) (riverD (.inl (a, a)) (.inl (b, b)) (.inl (0, 4)) 3 8 3 42 46 50) A12D A12D A12D A12D A12F A12F A12F A12F A48F A48F A48F A48F) H := hH
  refine lv_aload_n F.1 F.2.1 dX6_keep_24 rfl (lv_at hl 0 rfl) ?_
  refine tGetR (j := 9) F hK hH (tyb ha0 (all1 rfl)) rfl (all1 rfl) clX6 (by decide) wd_2_1 dX6_keep_25 (fun q_8 hq_8 _ => ?_)
  refine lv_iload_n F.1 F.2.1 dX6_keep_28 rfl (lv_at hl 1 rfl) ?_
  refine tAald F hK hH (tyb hq_8 (all1 rfl)) rfl (all1 rfl) (ixb (n := 2) ha1 rfl rfl) dX6_keep_29 (fun q_9 hq_9 _ => ?_)
  refine lv_aload_n F.1 F.2.1 dX6_keep_30 rfl (lv_at hl 0 rfl) ?_
  refine tGetR (j := 4) F hK hH (tyb ha0 (all1 rfl)) rfl (all1 rfl) clX6 (by decide) wd_1_22 dX6_keep_31 (fun q_10 hq_10 _ => ?_)
  refine tVv (b := q_9) (As := [.ref q_10]) (rest := []) F hK hN hO (c_X5_copyOf E (dayD (.inl (0, 18))) (dayD (.inl (0, 18))) (riverD (.inl Fa1) (.inl Fb1) (.inl (0, 4)) 31 33 35 39 43 47) (riverD (.inl (a, a)) (.inl (b, b)) (.inl (0, 4)) 32 34 36 40 44 48) (rcD (.inl (t, t)) (.inr [27]) (.inr ks) (.inl (kb, kb))) rd tp A14F A14F A4F A4F A14F A14F (riverD (.inl Fa3) (.inl Fb3) (.inl (0, 4)) 3 8 3 41 45 49) (riverD (.inl (a, a)) (.inl (b, b)) (.inl (0, 4)) 3 8 3 42 46 50) A12D A12D A12D A12D A12F A12F A12F A12F A48F A48F A48F A48F q_9 q_10 hq_9 hq_10) mv_X5_copyOf wd_19_18 ⟨Nat.le_of_ble_eq_true rfl, Nat.le_of_ble_eq_true rfl⟩ ⟨Nat.le_of_ble_eq_true rfl, Nat.le_of_ble_eq_true rfl⟩ hH hS (tRecv hK hH (tyb hq_9 (all1 rfl)) clX5) rfl hl.1 (Nat.le_of_ble_eq_true rfl) dX6_keep_34 (fun H locs hq hS => ?_)
  have hH := hq
  have hH : TH E (tbC (dayD (.inl (0, 18))) (dayD (.inl (0, 18))) (riverD (.inl Fa1) (.inl Fb1) (.inl (0, 4)) 31 33 35 39 43 47) (riverD (.inl (a, a)) (.inl (b, b)) (.inl (0, 4)) 32 34 36 40 44 48) (rcD (.inl (t, t)) (.inr [27]) (.inr ks) (.inl (kb, kb))) rd tp A14F A14F A4F A4F A14F A14F (riverD (.inl Fa3) (.inl Fb3) (.inl (0, 4)) 3 8 3 41 45 49) (riverD (.inl (a, a)) (.inl (b, b)) (.inl (0, 4)) 3 8 3 42 46 50) A12D A12D A12D A12D A12F A12F A12F A12F A48F A48F A48F A48F) H := hH
  refine lv_aload_n F.1 F.2.1 dX6_keep_37 rfl (lv_at hl 0 rfl) ?_
  refine lv_dup F.1 F.2.1 dX6_keep_38 rfl ?_
  refine tGetI (j := 10) F hK hH (tyb ha0 (all1 rfl)) rfl clX6 (by decide) wd_39_0 dX6_keep_39 (fun z_12 hz_12 => ?_)
  have ez_12 : 0 ≤ z_12.toInt ∧ z_12.toInt ≤ 3 := by omega
  refine lv_iconst (v := 1) F.1 F.2.1 dX6_keep_42 (by decide) ?_
  refine topK (a := 1) (by decide) (fun k_13 hk_13 => ?_)
  refine lv_iload_n F.1 F.2.1 dX6_keep_43 rfl (lv_at hl 1 rfl) ?_
  refine lv_ishl F.1 F.2.1 dX6_keep_44 ?_
  refine topE (fun z_14 xz_14 => ?_)
  refine lv_ior F.1 F.2.1 dX6_keep_45 ?_
  refine topE (fun z_15 xz_15 => ?_)
  have qz_15 := kb_set1 xz_15 xz_14 (kb := kb) (by omega) (by omega) (by omega) (by omega)
  have bz_15 : 0 ≤ z_15.toInt ∧ z_15.toInt ≤ 3 := by omega
  obtain ⟨g_16, hg_16⟩ : ∃ y : Int, z_15.toInt = y := ⟨_, rfl⟩
  have bg_16 : 0 ≤ g_16 ∧ g_16 ≤ 3 := by rw [← hg_16]; exact bz_15
  refine tPutG (j := 10) (t := 28) (fd := (.inl (g_16, g_16))) F hK hH hS (List.mem_singleton.mp ha0) (by decide) rfl rfl (fdI (by omega)) (TB1 := (tbC (dayD (.inl (0, 18))) (dayD (.inl (0, 18))) (riverD (.inl Fa1) (.inl Fb1) (.inl (0, 4)) 31 33 35 39 43 47) (riverD (.inl (a, a)) (.inl (b, b)) (.inl (0, 4)) 32 34 36 40 44 48) (rcD (.inl (t, t)) (.inr [27]) (.inr ks) (.inl (g_16, g_16))) rd tp A14F A14F A4F A4F A14F A14F (riverD (.inl Fa3) (.inl Fb3) (.inl (0, 4)) 3 8 3 41 45 49) (riverD (.inl (a, a)) (.inl (b, b)) (.inl (0, 4)) 3 8 3 42 46 50) A12D A12D A12D A12D A12F A12F A12F A12F A48F A48F A48F A48F)) rfl clX6 (by decide) wd_39_0 rfl rfl rfl rfl dX6_keep_46 (fun H locs hH hS => ?_)
  refine lv_aload_n F.1 F.2.1 dX6_keep_49 rfl (lv_at hl 0 rfl) ?_
  refine tGetR (j := 4) F hK hH (tyb ha0 (all1 rfl)) rfl (all1 rfl) clX6 (by decide) wd_1_22 dX6_keep_50 (fun q_17 hq_17 _ => ?_)
  refine tGetI (j := 0) F hK hH (tyb hq_17 (all1 rfl)) rfl clX5 (by decide) wd_19_12 dX6_keep_53 (fun z_18 hz_18 => ?_)
  exact txI F hS dX6_keep_56 rfl (⟨g_16, ⟨by omega, by omega, by omega⟩, (wkb hz_18 rfl rfl), hH⟩)
set_option maxHeartbeats 4000000 in
set_option maxRecDepth 100000 in
theorem c_X6_back_n (E : Ev) (rd : TD) (tp : TD) (kb : Int × Int) (Fa1 : Int × Int) (Fb1 : Int × Int) (Fa2 : Int × Int) (Fb2 : Int × Int) (Fa3 : Int × Int) (Fb3 : Int × Int) (Fa4 : Int × Int) (Fb4 : Int × Int) (kr : List Nat) (ks : List Nat) (Pd1 : (Nat → Int32) → Prop) (Pd2 : (Nat → Int32) → Prop) (Pd3 : (Nat → Int32) → Prop) (Pd4 : (Nat → Int32) → Prop) (Ps1 : (Nat → Int32) → Prop) (Ps2 : (Nat → Int32) → Prop) (Ps3 : (Nat → Int32) → Prop) (Ps4 : (Nat → Int32) → Prop) (Pi1 : (Nat → Int32) → Prop) (Pi2 : (Nat → Int32) → Prop) (Pi3 : (Nat → Int32) → Prop) (Pi4 : (Nat → Int32) → Prop) (t : Int) (a0 : Nat) (a1 : Int32) (ha0 : eT E a0 ∈ [28]) (ht : 0 ≤ t ∧ t ≤ 400) (hFa1 : 0 ≤ Fa1.1 ∧ Fa1.2 ≤ 12) (hFb1 : 0 ≤ Fb1.1 ∧ Fb1.2 ≤ 14) (hFa2 : 0 ≤ Fa2.1 ∧ Fa2.2 ≤ 12) (hFb2 : 0 ≤ Fb2.1 ∧ Fb2.2 ≤ 14) (hFa3 : 0 ≤ Fa3.1 ∧ Fa3.2 ≤ 12) (hFb3 : 0 ≤ Fb3.1 ∧ Fb3.2 ≤ 14) (hFa4 : 0 ≤ Fa4.1 ∧ Fa4.2 ≤ 12) (hFb4 : 0 ≤ Fb4.1 ∧ Fb4.2 ≤ 14) (hkr : ∀ t ∈ kr, t ∈ [26, 27]) (hks : ∀ t ∈ ks, t ∈ [26, 27]) (hPd1 : ∀ f, Pd1 f → ivP 12 (-2) 11 f) (hPd2 : ∀ f, Pd2 f → ivP 12 (-2) 11 f) (hPd3 : ∀ f, Pd3 f → ivP 12 (-2) 11 f) (hPd4 : ∀ f, Pd4 f → ivP 12 (-2) 11 f) (hPs1 : ∀ f, Ps1 f → ivP 12 (-2147483648) 2147483647 f) (hPs2 : ∀ f, Ps2 f → ivP 12 (-2147483648) 2147483647 f) (hPs3 : ∀ f, Ps3 f → ivP 12 (-2147483648) 2147483647 f) (hPs4 : ∀ f, Ps4 f → ivP 12 (-2147483648) 2147483647 f) (hPi1 : ∀ f, Pi1 f → ivP 48 (-2147483648) 2147483647 f) (hPi2 : ∀ f, Pi2 f → ivP 48 (-2147483648) 2147483647 f) (hPi3 : ∀ f, Pi3 f → ivP 48 (-2147483648) 2147483647 f) (hPi4 : ∀ f, Pi4 f → ivP 48 (-2147483648) 2147483647 f) (hr : a1.toInt < 0 ∨ 1 < a1.toInt) : TcI E yX6_back cX6_back 2 .int ({ frames := 1, cells := 0, slots := 0, locals := 40 }) [.ref a0, .int a1] (fun H => TH E (tbC (dayD (.inl (0, 18))) (dayD (.inl (0, 18))) (riverD (.inl Fa1) (.inl Fb1) (.inl (0, 4)) 31 33 35 39 43 47) (riverD (.inl Fa2) (.inl Fb2) (.inl (0, 4)) 32 34 36 40 44 48) (rcD (.inl (t, t)) (.inr kr) (.inr ks) (.inl kb)) rd tp A14F A14F A4F A4F A14F A14F (riverD (.inl Fa3) (.inl Fb3) (.inl (0, 4)) 3 8 3 41 45 49) (riverD (.inl Fa4) (.inl Fb4) (.inl (0, 4)) 3 8 3 42 46 50) ((.inr (.inl (0, 12, Pd1)))) ((.inr (.inl (0, 12, Pd2)))) ((.inr (.inl (0, 12, Pd3)))) ((.inr (.inl (0, 12, Pd4)))) ((.inr (.inl (0, 12, Ps1)))) ((.inr (.inl (0, 12, Ps2)))) ((.inr (.inl (0, 12, Ps3)))) ((.inr (.inl (0, 12, Ps4)))) ((.inr (.inl (0, 48, Pi1)))) ((.inr (.inl (0, 48, Pi2)))) ((.inr (.inl (0, 48, Pi3)))) ((.inr (.inl (0, 48, Pi4))))) H) (fun v H => ((-2147483648) ≤ v.toInt ∧ v.toInt ≤ 2147483647) ∧ TH E (tbC (dayD (.inl (0, 18))) (dayD (.inl (0, 18))) (riverD (.inl Fa1) (.inl Fb1) (.inl (0, 4)) 31 33 35 39 43 47) (riverD (.inl Fa2) (.inl Fb2) (.inl (0, 4)) 32 34 36 40 44 48) (rcD (.inl (t, t)) (.inr kr) (.inr ks) (.inl kb)) rd tp A14F A14F A4F A4F A14F A14F (riverD (.inl Fa3) (.inl Fb3) (.inl (0, 4)) 3 8 3 41 45 49) (riverD (.inl Fa4) (.inl Fb4) (.inl (0, 4)) 3 8 3 42 46 50) ((.inr (.inl (0, 12, Pd1)))) ((.inr (.inl (0, 12, Pd2)))) ((.inr (.inl (0, 12, Pd3)))) ((.inr (.inl (0, 12, Pd4)))) ((.inr (.inl (0, 12, Ps1)))) ((.inr (.inl (0, 12, Ps2)))) ((.inr (.inl (0, 12, Ps3)))) ((.inr (.inl (0, 12, Ps4)))) ((.inr (.inl (0, 48, Pi1)))) ((.inr (.inl (0, 48, Pi2)))) ((.inr (.inl (0, 48, Pi3)))) ((.inr (.inl (0, 48, Pi4))))) H) := by
  refine teI (by decide) (Nat.le_of_ble_eq_true rfl) ?_
  intro p_ ev_ s mi_ below_ meth cd_ ls F hK hN hO hH hS hl
  have hH : TH E (tbC (dayD (.inl (0, 18))) (dayD (.inl (0, 18))) (riverD (.inl Fa1) (.inl Fb1) (.inl (0, 4)) 31 33 35 39 43 47) (riverD (.inl Fa2) (.inl Fb2) (.inl (0, 4)) 32 34 36 40 44 48) (rcD (.inl (t, t)) (.inr kr) (.inr ks) (.inl kb)) rd tp A14F A14F A4F A4F A14F A14F (riverD (.inl Fa3) (.inl Fb3) (.inl (0, 4)) 3 8 3 41 45 49) (riverD (.inl Fa4) (.inl Fb4) (.inl (0, 4)) 3 8 3 42 46 50) ((.inr (.inl (0, 12, Pd1)))) ((.inr (.inl (0, 12, Pd2)))) ((.inr (.inl (0, 12, Pd3)))) ((.inr (.inl (0, 12, Pd4)))) ((.inr (.inl (0, 12, Ps1)))) ((.inr (.inl (0, 12, Ps2)))) ((.inr (.inl (0, 12, Ps3)))) ((.inr (.inl (0, 12, Ps4)))) ((.inr (.inl (0, 48, Pi1)))) ((.inr (.inl (0, 48, Pi2)))) ((.inr (.inl (0, 48, Pi3)))) ((.inr (.inl (0, 48, Pi4))))) s.heap := hH
  have hl : lv_has ls 2 [(0, .ref a0), (1, .int a1)] := hl
  refine lv_iload_n F.1 F.2.1 dX6_back_0 rfl (lv_at hl 1 rfl) ?_
  refine z_lt (tgt := 9) F dX6_back_1 (by decide) (fun c_1 => ?_) (fun c_1 => ?_)
  · skip
    have r_2 : (-2147483648) ≤ a1.toInt ∧ a1.toInt ≤ (-1) := by have h9_ := (i32b a1); omega
    refine lv_iconst (v := (-1)) F.1 F.2.1 dX6_back_9 (by decide) ?_
    refine topK (a := (-1)) (by decide) (fun k_4 hk_4 => ?_)
    exact txI F hS dX6_back_10 rfl (⟨(wkb (eqb hk_4) rfl rfl), hH⟩)
  · skip
    have r_3 : 0 ≤ a1.toInt ∧ a1.toInt ≤ 2147483647 := by have h9_ := (i32b a1); omega
    refine lv_iload_n F.1 F.2.1 dX6_back_4 rfl (lv_at hl 1 rfl) ?_
    refine lv_iconst (v := 2) F.1 F.2.1 dX6_back_5 (by decide) ?_
    refine topK (a := 2) (by decide) (fun k_5 hk_5 => ?_)
    refine b_lt (tgt := 11) F dX6_back_6 (by decide) (fun c_6 => absurd c_6 (by omega)) (fun c_6 => ?_)
    have r_7 : 2 ≤ a1.toInt ∧ a1.toInt ≤ 2147483647 := by have h9_ := r_3; omega
    refine lv_iconst (v := (-1)) F.1 F.2.1 dX6_back_9 (by decide) ?_
    refine topK (a := (-1)) (by decide) (fun k_8 hk_8 => ?_)
    exact txI F hS dX6_back_10 rfl (⟨(wkb (eqb hk_8) rfl rfl), hH⟩)
set_option maxHeartbeats 4000000 in
set_option maxRecDepth 100000 in
theorem c_X6_back_0_no (E : Ev) (rd : TD) (tp : TD) (Fa1 : Int × Int) (Fb1 : Int × Int) (Fa2 : Int × Int) (Fb2 : Int × Int) (Fa3 : Int × Int) (Fb3 : Int × Int) (Fa4 : Int × Int) (Fb4 : Int × Int) (kr : List Nat) (ks : List Nat) (t : Int) (kb : Int) (a0 : Nat) (a1 : Int32) (ha0 : eT E a0 ∈ [28]) (ha1 : 0 ≤ a1.toInt ∧ a1.toInt ≤ 0) (ht : 0 ≤ t ∧ t ≤ 400) (hkb : 0 ≤ kb ∧ kb ≤ 3) (hFa1 : 0 ≤ Fa1.1 ∧ Fa1.2 ≤ 12) (hFb1 : 0 ≤ Fb1.1 ∧ Fb1.2 ≤ 14) (hFa2 : 0 ≤ Fa2.1 ∧ Fa2.2 ≤ 12) (hFb2 : 0 ≤ Fb2.1 ∧ Fb2.2 ≤ 14) (hFa3 : 0 ≤ Fa3.1 ∧ Fa3.2 ≤ 12) (hFb3 : 0 ≤ Fb3.1 ∧ Fb3.2 ≤ 14) (hFa4 : 0 ≤ Fa4.1 ∧ Fa4.2 ≤ 12) (hFb4 : 0 ≤ Fb4.1 ∧ Fb4.2 ≤ 14) (hkr : ∀ t ∈ kr, t ∈ [26, 27]) (hks : ∀ t ∈ ks, t ∈ [26, 27]) (hbit : kb % 2 = 0) : TcI E yX6_back cX6_back 2 .int ({ frames := 1, cells := 0, slots := 0, locals := 40 }) [.ref a0, .int a1] (fun H => TH E (tbC (dayD (.inl (0, 18))) (dayD (.inl (0, 18))) (riverD (.inl Fa1) (.inl Fb1) (.inl (0, 4)) 31 33 35 39 43 47) (riverD (.inl Fa2) (.inl Fb2) (.inl (0, 4)) 32 34 36 40 44 48) (rcD (.inl (t, t)) (.inr kr) (.inr ks) (.inl (kb, kb))) rd tp A14F A14F A4F A4F A14F A14F (riverD (.inl Fa3) (.inl Fb3) (.inl (0, 4)) 3 8 3 41 45 49) (riverD (.inl Fa4) (.inl Fb4) (.inl (0, 4)) 3 8 3 42 46 50) A12D A12D A12D A12D A12F A12F A12F A12F A48F A48F A48F A48F) H) (fun v H => ((-2147483648) ≤ v.toInt ∧ v.toInt ≤ 2147483647) ∧ TH E (tbC (dayD (.inl (0, 18))) (dayD (.inl (0, 18))) (riverD (.inl Fa1) (.inl Fb1) (.inl (0, 4)) 31 33 35 39 43 47) (riverD (.inl Fa2) (.inl Fb2) (.inl (0, 4)) 32 34 36 40 44 48) (rcD (.inl (t, t)) (.inr kr) (.inr ks) (.inl (kb, kb))) rd tp A14F A14F A4F A4F A14F A14F (riverD (.inl Fa3) (.inl Fb3) (.inl (0, 4)) 3 8 3 41 45 49) (riverD (.inl Fa4) (.inl Fb4) (.inl (0, 4)) 3 8 3 42 46 50) A12D A12D A12D A12D A12F A12F A12F A12F A48F A48F A48F A48F) H) := by
  refine teI (by decide) (Nat.le_of_ble_eq_true rfl) ?_
  intro p_ ev_ s mi_ below_ meth cd_ ls F hK hN hO hH hS hl
  have hH : TH E (tbC (dayD (.inl (0, 18))) (dayD (.inl (0, 18))) (riverD (.inl Fa1) (.inl Fb1) (.inl (0, 4)) 31 33 35 39 43 47) (riverD (.inl Fa2) (.inl Fb2) (.inl (0, 4)) 32 34 36 40 44 48) (rcD (.inl (t, t)) (.inr kr) (.inr ks) (.inl (kb, kb))) rd tp A14F A14F A4F A4F A14F A14F (riverD (.inl Fa3) (.inl Fb3) (.inl (0, 4)) 3 8 3 41 45 49) (riverD (.inl Fa4) (.inl Fb4) (.inl (0, 4)) 3 8 3 42 46 50) A12D A12D A12D A12D A12F A12F A12F A12F A48F A48F A48F A48F) s.heap := hH
  have hl : lv_has ls 2 [(0, .ref a0), (1, .int a1)] := hl
  refine lv_iload_n F.1 F.2.1 dX6_back_0 rfl (lv_at hl 1 rfl) ?_
  refine z_lt (tgt := 9) F dX6_back_1 (by decide) (fun c_1 => absurd c_1 (by omega)) (fun c_1 => ?_)
  refine lv_iload_n F.1 F.2.1 dX6_back_4 rfl (lv_at hl 1 rfl) ?_
  refine lv_iconst (v := 2) F.1 F.2.1 dX6_back_5 (by decide) ?_
  refine topK (a := 2) (by decide) (fun k_2 hk_2 => ?_)
  refine b_lt (tgt := 11) F dX6_back_6 (by decide) (fun c_3 => ?_) (fun c_3 => absurd c_3 (by omega))
  refine lv_aload_n F.1 F.2.1 dX6_back_11 rfl (lv_at hl 0 rfl) ?_
  refine tGetI (j := 10) F hK hH (tyb ha0 (all1 rfl)) rfl clX6 (by decide) wd_39_0 dX6_back_12 (fun z_4 hz_4 => ?_)
  have ez_4 : 0 ≤ z_4.toInt ∧ z_4.toInt ≤ 3 := by omega
  refine lv_iload_n F.1 F.2.1 dX6_back_15 rfl (lv_at hl 1 rfl) ?_
  refine lv_ishr F.1 F.2.1 dX6_back_16 ?_
  refine topE (fun z_5 xz_5 => ?_)
  refine lv_iconst (v := 1) F.1 F.2.1 dX6_back_17 (by decide) ?_
  refine topK (a := 1) (by decide) (fun k_6 hk_6 => ?_)
  refine lv_iand F.1 F.2.1 dX6_back_18 ?_
  refine topE (fun z_7 xz_7 => ?_)
  have qz_7 := kb_get0 xz_7 xz_5 (kb := kb) (by omega) (by omega) (by omega) (by omega)
  have bz_7 : 0 ≤ z_7.toInt ∧ z_7.toInt ≤ 1 := by omega
  refine z_ne (tgt := 25) F dX6_back_19 (by decide) (fun c_8 => absurd c_8 (by omega)) (fun c_8 => ?_)
  have r_9 : 0 ≤ z_7.toInt ∧ z_7.toInt ≤ 0 := by have h9_ := bz_7; omega
  refine lv_bipush (v := (-2)) F.1 F.2.1 dX6_back_22 (by decide) ?_
  refine topK (a := (-2)) (by decide) (fun k_10 hk_10 => ?_)
  exact txI F hS dX6_back_24 rfl (⟨(wkb (eqb hk_10) rfl rfl), hH⟩)
set_option maxHeartbeats 4000000 in
set_option maxRecDepth 100000 in
theorem c_X6_back_0_1 (E : Ev) (rd : TD) (tp : TD) (Fa1 : Int × Int) (Fb1 : Int × Int) (Fa2 : Int × Int) (Fb2 : Int × Int) (Fa4 : Int × Int) (Fb4 : Int × Int) (ks : List Nat) (t : Int) (kb : Int) (a : Int) (b : Int) (a0 : Nat) (a1 : Int32) (ha0 : eT E a0 ∈ [28]) (ha1 : 0 ≤ a1.toInt ∧ a1.toInt ≤ 0) (ht : 0 ≤ t ∧ t ≤ 400) (hkb : 0 ≤ kb ∧ kb ≤ 3) (ha : 0 ≤ a ∧ a ≤ 12) (hb : 0 ≤ b ∧ b ≤ 14) (hFa1 : 0 ≤ Fa1.1 ∧ Fa1.2 ≤ 12) (hFb1 : 0 ≤ Fb1.1 ∧ Fb1.2 ≤ 14) (hFa2 : 0 ≤ Fa2.1 ∧ Fa2.2 ≤ 12) (hFb2 : 0 ≤ Fb2.1 ∧ Fb2.2 ≤ 14) (hFa4 : 0 ≤ Fa4.1 ∧ Fa4.2 ≤ 12) (hFb4 : 0 ≤ Fb4.1 ∧ Fb4.2 ≤ 14) (hks : ∀ t ∈ ks, t ∈ [26, 27]) (hbit : kb % 2 = 1) : TcI E yX6_back cX6_back 2 .int ({ frames := 3, cells := 0, slots := 0, locals := 82 }) [.ref a0, .int a1] (fun H => TH E (tbC (dayD (.inl (0, 18))) (dayD (.inl (0, 18))) (riverD (.inl Fa1) (.inl Fb1) (.inl (0, 4)) 31 33 35 39 43 47) (riverD (.inl Fa2) (.inl Fb2) (.inl (0, 4)) 32 34 36 40 44 48) (rcD (.inl (t, t)) (.inr [26]) (.inr ks) (.inl (kb, kb))) rd tp A14F A14F A4F A4F A14F A14F (riverD (.inl (a, a)) (.inl (b, b)) (.inl (0, 4)) 3 8 3 41 45 49) (riverD (.inl Fa4) (.inl Fb4) (.inl (0, 4)) 3 8 3 42 46 50) A12D A12D A12D A12D A12F A12F A12F A12F A48F A48F A48F A48F) H) (fun v H => ((-2147483648) ≤ v.toInt ∧ v.toInt ≤ 2147483647) ∧ TH E (tbC (dayD (.inl (0, 18))) (dayD (.inl (0, 18))) (riverD (.inl (a, a)) (.inl (b, b)) (.inl (0, 4)) 31 33 35 39 43 47) (riverD (.inl Fa2) (.inl Fb2) (.inl (0, 4)) 32 34 36 40 44 48) (rcD (.inl (t, t)) (.inr [26]) (.inr ks) (.inl (kb, kb))) rd tp A14F A14F A4F A4F A14F A14F (riverD (.inl (a, a)) (.inl (b, b)) (.inl (0, 4)) 3 8 3 41 45 49) (riverD (.inl Fa4) (.inl Fb4) (.inl (0, 4)) 3 8 3 42 46 50) A12D A12D A12D A12D A12F A12F A12F A12F A48F A48F A48F A48F) H) := by
  refine teI (by decide) (Nat.le_of_ble_eq_true rfl) ?_
  intro p_ ev_ s mi_ below_ meth cd_ ls F hK hN hO hH hS hl
  have hH : TH E (tbC (dayD (.inl (0, 18))) (dayD (.inl (0, 18))) (riverD (.inl Fa1) (.inl Fb1) (.inl (0, 4)) 31 33 35 39 43 47) (riverD (.inl Fa2) (.inl Fb2) (.inl (0, 4)) 32 34 36 40 44 48) (rcD (.inl (t, t)) (.inr [26]) (.inr ks) (.inl (kb, kb))) rd tp A14F A14F A4F A4F A14F A14F (riverD (.inl (a, a)) (.inl (b, b)) (.inl (0, 4)) 3 8 3 41 45 49) (riverD (.inl Fa4) (.inl Fb4) (.inl (0, 4)) 3 8 3 42 46 50) A12D A12D A12D A12D A12F A12F A12F A12F A48F A48F A48F A48F) s.heap := hH
  have hl : lv_has ls 2 [(0, .ref a0), (1, .int a1)] := hl
  refine lv_iload_n F.1 F.2.1 dX6_back_0 rfl (lv_at hl 1 rfl) ?_
  refine z_lt (tgt := 9) F dX6_back_1 (by decide) (fun c_1 => absurd c_1 (by omega)) (fun c_1 => ?_)
  refine lv_iload_n F.1 F.2.1 dX6_back_4 rfl (lv_at hl 1 rfl) ?_
  refine lv_iconst (v := 2) F.1 F.2.1 dX6_back_5 (by decide) ?_
  refine topK (a := 2) (by decide) (fun k_2 hk_2 => ?_)
  refine b_lt (tgt := 11) F dX6_back_6 (by decide) (fun c_3 => ?_) (fun c_3 => absurd c_3 (by omega))
  refine lv_aload_n F.1 F.2.1 dX6_back_11 rfl (lv_at hl 0 rfl) ?_
  refine tGetI (j := 10) F hK hH (tyb ha0 (all1 rfl)) rfl clX6 (by decide) wd_39_0 dX6_back_12 (fun z_4 hz_4 => ?_)
  have ez_4 : 0 ≤ z_4.toInt ∧ z_4.toInt ≤ 3 := by omega
  refine lv_iload_n F.1 F.2.1 dX6_back_15 rfl (lv_at hl 1 rfl) ?_
  refine lv_ishr F.1 F.2.1 dX6_back_16 ?_
  refine topE (fun z_5 xz_5 => ?_)
  refine lv_iconst (v := 1) F.1 F.2.1 dX6_back_17 (by decide) ?_
  refine topK (a := 1) (by decide) (fun k_6 hk_6 => ?_)
  refine lv_iand F.1 F.2.1 dX6_back_18 ?_
  refine topE (fun z_7 xz_7 => ?_)
  have qz_7 := kb_get0 xz_7 xz_5 (kb := kb) (by omega) (by omega) (by omega) (by omega)
  have bz_7 : 0 ≤ z_7.toInt ∧ z_7.toInt ≤ 1 := by omega
  refine z_ne (tgt := 25) F dX6_back_19 (by decide) (fun c_8 => ?_) (fun c_8 => absurd c_8 (by omega))
  have r_9 : 1 ≤ z_7.toInt ∧ z_7.toInt ≤ 1 := by have h9_ := bz_7; omega
  refine lv_aload_n F.1 F.2.1 dX6_back_25 rfl (lv_at hl 0 rfl) ?_
  refine tGetR (j := 2) F hK hH (tyb ha0 (all1 rfl)) rfl (all1 rfl) clX6 (by decide) wd_1_17 dX6_back_26 (fun q_10 hq_10 _ => ?_)
  refine lv_aload_n F.1 F.2.1 dX6_back_29 rfl (lv_at hl 0 rfl) ?_
  refine tGetR (j := 8) F hK hH (tyb ha0 (all1 rfl)) rfl (all1 rfl) clX6 (by decide) wd_2_0 dX6_back_30 (fun q_11 hq_11 _ => ?_)
  refine lv_iload_n F.1 F.2.1 dX6_back_33 rfl (lv_at hl 1 rfl) ?_
  refine tAald0 F hK hH (tyb hq_11 (all1 rfl)) rfl (ixb (n := 2) ha1 rfl rfl) dX6_back_34 (fun q_12 hq_12 => ?_)
  have hq_12 : eT E q_12 ∈ [37] := by have h9_ := hq_12; rw [show (a1).toNatClampNeg = 0 from by show (a1).toInt.toNat = _; omega] at h9_; exact h9_
  refine tVv (b := q_10) (As := [.ref q_12]) (rest := []) F hK hN hO (c_X2_copyOf_26_37 E (dayD (.inl (0, 18))) (dayD (.inl (0, 18))) (riverD (.inl Fa2) (.inl Fb2) (.inl (0, 4)) 32 34 36 40 44 48) (rcD (.inl (t, t)) (.inr [26]) (.inr ks) (.inl (kb, kb))) rd tp (riverD (.inl Fa4) (.inl Fb4) (.inl (0, 4)) 3 8 3 42 46 50) Fa1 Fb1 a b q_10 q_12 hq_10 hq_12 (by omega) (by omega) hFa1 hFb1) mv_X2_copyOf wd_39_1 ⟨Nat.le_of_ble_eq_true rfl, Nat.le_of_ble_eq_true rfl⟩ ⟨Nat.le_of_ble_eq_true rfl, Nat.le_of_ble_eq_true rfl⟩ hH hS (tRecv hK hH (tyb hq_10 (all1 rfl)) clX2) rfl hl.1 (Nat.le_of_ble_eq_true rfl) dX6_back_35 (fun H locs hq hS => ?_)
  have hH := hq
  have hH : TH E (tbC (dayD (.inl (0, 18))) (dayD (.inl (0, 18))) (riverD (.inl (a, a)) (.inl (b, b)) (.inl (0, 4)) 31 33 35 39 43 47) (riverD (.inl Fa2) (.inl Fb2) (.inl (0, 4)) 32 34 36 40 44 48) (rcD (.inl (t, t)) (.inr [26]) (.inr ks) (.inl (kb, kb))) rd tp A14F A14F A4F A4F A14F A14F (riverD (.inl (a, a)) (.inl (b, b)) (.inl (0, 4)) 3 8 3 41 45 49) (riverD (.inl Fa4) (.inl Fb4) (.inl (0, 4)) 3 8 3 42 46 50) A12D A12D A12D A12D A12F A12F A12F A12F A48F A48F A48F A48F) H := hH
  refine lv_aload_n F.1 F.2.1 dX6_back_38 rfl (lv_at hl 0 rfl) ?_
  refine tGetR (j := 4) F hK hH (tyb ha0 (all1 rfl)) rfl (all1 rfl) clX6 (by decide) wd_1_22 dX6_back_39 (fun q_14 hq_14 _ => ?_)
  refine lv_aload_n F.1 F.2.1 dX6_back_42 rfl (lv_at hl 0 rfl) ?_
  refine tGetR (j := 9) F hK hH (tyb ha0 (all1 rfl)) rfl (all1 rfl) clX6 (by decide) wd_2_1 dX6_back_43 (fun q_15 hq_15 _ => ?_)
  refine lv_iload_n F.1 F.2.1 dX6_back_46 rfl (lv_at hl 1 rfl) ?_
  refine tAald F hK hH (tyb hq_15 (all1 rfl)) rfl (all1 rfl) (ixb (n := 2) ha1 rfl rfl) dX6_back_47 (fun q_16 hq_16 _ => ?_)
  refine tVv (b := q_14) (As := [.ref q_16]) (rest := []) F hK hN hO (c_X5_copyOf E (dayD (.inl (0, 18))) (dayD (.inl (0, 18))) (riverD (.inl (a, a)) (.inl (b, b)) (.inl (0, 4)) 31 33 35 39 43 47) (riverD (.inl Fa2) (.inl Fb2) (.inl (0, 4)) 32 34 36 40 44 48) (rcD (.inl (t, t)) (.inr [26]) (.inr ks) (.inl (kb, kb))) rd tp A14F A14F A4F A4F A14F A14F (riverD (.inl (a, a)) (.inl (b, b)) (.inl (0, 4)) 3 8 3 41 45 49) (riverD (.inl Fa4) (.inl Fb4) (.inl (0, 4)) 3 8 3 42 46 50) A12D A12D A12D A12D A12F A12F A12F A12F A48F A48F A48F A48F q_14 q_16 hq_14 hq_16) mv_X5_copyOf wd_19_18 ⟨Nat.le_of_ble_eq_true rfl, Nat.le_of_ble_eq_true rfl⟩ ⟨Nat.le_of_ble_eq_true rfl, Nat.le_of_ble_eq_true rfl⟩ hH hS (tRecv hK hH (tyb hq_14 (all1 rfl)) clX5) rfl hl.1 (Nat.le_of_ble_eq_true rfl) dX6_back_48 (fun H locs hq hS => ?_)
  have hH := hq
  have hH : TH E (tbC (dayD (.inl (0, 18))) (dayD (.inl (0, 18))) (riverD (.inl (a, a)) (.inl (b, b)) (.inl (0, 4)) 31 33 35 39 43 47) (riverD (.inl Fa2) (.inl Fb2) (.inl (0, 4)) 32 34 36 40 44 48) (rcD (.inl (t, t)) (.inr [26]) (.inr ks) (.inl (kb, kb))) rd tp A14F A14F A4F A4F A14F A14F (riverD (.inl (a, a)) (.inl (b, b)) (.inl (0, 4)) 3 8 3 41 45 49) (riverD (.inl Fa4) (.inl Fb4) (.inl (0, 4)) 3 8 3 42 46 50) A12D A12D A12D A12D A12F A12F A12F A12F A48F A48F A48F A48F) H := hH
  refine lv_aload_n F.1 F.2.1 dX6_back_51 rfl (lv_at hl 0 rfl) ?_
  refine lv_iconst (v := 0) F.1 F.2.1 dX6_back_52 (by decide) ?_
  refine topK (a := 0) (by decide) (fun k_18 hk_18 => ?_)
  refine tPut (j := 7) F hK hH hS (tyb ha0 (all1 rfl)) rfl (fdI (wkb (eqb hk_18) rfl rfl)) clX6 (by decide) wd_8_17 rfl rfl rfl rfl dX6_back_53 (fun H locs hH hS => ?_)
  refine lv_aload_n F.1 F.2.1 dX6_back_56 rfl (lv_at hl 0 rfl) ?_
  refine tGetR (j := 4) F hK hH (tyb ha0 (all1 rfl)) rfl (all1 rfl) clX6 (by decide) wd_1_22 dX6_back_57 (fun q_19 hq_19 _ => ?_)
  refine tGetI (j := 0) F hK hH (tyb hq_19 (all1 rfl)) rfl clX5 (by decide) wd_19_12 dX6_back_60 (fun z_20 hz_20 => ?_)
  exact txI F hS dX6_back_63 rfl (⟨(wkb hz_20 rfl rfl), hH⟩)
set_option maxHeartbeats 4000000 in
set_option maxRecDepth 100000 in
theorem c_X6_back_0_2 (E : Ev) (rd : TD) (tp : TD) (Fa1 : Int × Int) (Fb1 : Int × Int) (Fa2 : Int × Int) (Fb2 : Int × Int) (Fa4 : Int × Int) (Fb4 : Int × Int) (ks : List Nat) (t : Int) (kb : Int) (a : Int) (b : Int) (a0 : Nat) (a1 : Int32) (ha0 : eT E a0 ∈ [28]) (ha1 : 0 ≤ a1.toInt ∧ a1.toInt ≤ 0) (ht : 0 ≤ t ∧ t ≤ 400) (hkb : 0 ≤ kb ∧ kb ≤ 3) (ha : 0 ≤ a ∧ a ≤ 12) (hb : 0 ≤ b ∧ b ≤ 14) (hFa1 : 0 ≤ Fa1.1 ∧ Fa1.2 ≤ 12) (hFb1 : 0 ≤ Fb1.1 ∧ Fb1.2 ≤ 14) (hFa2 : 0 ≤ Fa2.1 ∧ Fa2.2 ≤ 12) (hFb2 : 0 ≤ Fb2.1 ∧ Fb2.2 ≤ 14) (hFa4 : 0 ≤ Fa4.1 ∧ Fa4.2 ≤ 12) (hFb4 : 0 ≤ Fb4.1 ∧ Fb4.2 ≤ 14) (hks : ∀ t ∈ ks, t ∈ [26, 27]) (hbit : kb % 2 = 1) : TcI E yX6_back cX6_back 2 .int ({ frames := 3, cells := 0, slots := 0, locals := 82 }) [.ref a0, .int a1] (fun H => TH E (tbC (dayD (.inl (0, 18))) (dayD (.inl (0, 18))) (riverD (.inl Fa1) (.inl Fb1) (.inl (0, 4)) 31 33 35 39 43 47) (riverD (.inl Fa2) (.inl Fb2) (.inl (0, 4)) 32 34 36 40 44 48) (rcD (.inl (t, t)) (.inr [27]) (.inr ks) (.inl (kb, kb))) rd tp A14F A14F A4F A4F A14F A14F (riverD (.inl (a, a)) (.inl (b, b)) (.inl (0, 4)) 3 8 3 41 45 49) (riverD (.inl Fa4) (.inl Fb4) (.inl (0, 4)) 3 8 3 42 46 50) A12D A12D A12D A12D A12F A12F A12F A12F A48F A48F A48F A48F) H) (fun v H => ((-2147483648) ≤ v.toInt ∧ v.toInt ≤ 2147483647) ∧ TH E (tbC (dayD (.inl (0, 18))) (dayD (.inl (0, 18))) (riverD (.inl Fa1) (.inl Fb1) (.inl (0, 4)) 31 33 35 39 43 47) (riverD (.inl (a, a)) (.inl (b, b)) (.inl (0, 4)) 32 34 36 40 44 48) (rcD (.inl (t, t)) (.inr [27]) (.inr ks) (.inl (kb, kb))) rd tp A14F A14F A4F A4F A14F A14F (riverD (.inl (a, a)) (.inl (b, b)) (.inl (0, 4)) 3 8 3 41 45 49) (riverD (.inl Fa4) (.inl Fb4) (.inl (0, 4)) 3 8 3 42 46 50) A12D A12D A12D A12D A12F A12F A12F A12F A48F A48F A48F A48F) H) := by
  refine teI (by decide) (Nat.le_of_ble_eq_true rfl) ?_
  intro p_ ev_ s mi_ below_ meth cd_ ls F hK hN hO hH hS hl
  have hH : TH E (tbC (dayD (.inl (0, 18))) (dayD (.inl (0, 18))) (riverD (.inl Fa1) (.inl Fb1) (.inl (0, 4)) 31 33 35 39 43 47) (riverD (.inl Fa2) (.inl Fb2) (.inl (0, 4)) 32 34 36 40 44 48) (rcD (.inl (t, t)) (.inr [27]) (.inr ks) (.inl (kb, kb))) rd tp A14F A14F A4F A4F A14F A14F (riverD (.inl (a, a)) (.inl (b, b)) (.inl (0, 4)) 3 8 3 41 45 49) (riverD (.inl Fa4) (.inl Fb4) (.inl (0, 4)) 3 8 3 42 46 50) A12D A12D A12D A12D A12F A12F A12F A12F A48F A48F A48F A48F) s.heap := hH
  have hl : lv_has ls 2 [(0, .ref a0), (1, .int a1)] := hl
  refine lv_iload_n F.1 F.2.1 dX6_back_0 rfl (lv_at hl 1 rfl) ?_
  refine z_lt (tgt := 9) F dX6_back_1 (by decide) (fun c_1 => absurd c_1 (by omega)) (fun c_1 => ?_)
  refine lv_iload_n F.1 F.2.1 dX6_back_4 rfl (lv_at hl 1 rfl) ?_
  refine lv_iconst (v := 2) F.1 F.2.1 dX6_back_5 (by decide) ?_
  refine topK (a := 2) (by decide) (fun k_2 hk_2 => ?_)
  refine b_lt (tgt := 11) F dX6_back_6 (by decide) (fun c_3 => ?_) (fun c_3 => absurd c_3 (by omega))
  refine lv_aload_n F.1 F.2.1 dX6_back_11 rfl (lv_at hl 0 rfl) ?_
  refine tGetI (j := 10) F hK hH (tyb ha0 (all1 rfl)) rfl clX6 (by decide) wd_39_0 dX6_back_12 (fun z_4 hz_4 => ?_)
  have ez_4 : 0 ≤ z_4.toInt ∧ z_4.toInt ≤ 3 := by omega
  refine lv_iload_n F.1 F.2.1 dX6_back_15 rfl (lv_at hl 1 rfl) ?_
  refine lv_ishr F.1 F.2.1 dX6_back_16 ?_
  refine topE (fun z_5 xz_5 => ?_)
  refine lv_iconst (v := 1) F.1 F.2.1 dX6_back_17 (by decide) ?_
  refine topK (a := 1) (by decide) (fun k_6 hk_6 => ?_)
  refine lv_iand F.1 F.2.1 dX6_back_18 ?_
  refine topE (fun z_7 xz_7 => ?_)
  have qz_7 := kb_get0 xz_7 xz_5 (kb := kb) (by omega) (by omega) (by omega) (by omega)
  have bz_7 : 0 ≤ z_7.toInt ∧ z_7.toInt ≤ 1 := by omega
  refine z_ne (tgt := 25) F dX6_back_19 (by decide) (fun c_8 => ?_) (fun c_8 => absurd c_8 (by omega))
  have r_9 : 1 ≤ z_7.toInt ∧ z_7.toInt ≤ 1 := by have h9_ := bz_7; omega
  refine lv_aload_n F.1 F.2.1 dX6_back_25 rfl (lv_at hl 0 rfl) ?_
  refine tGetR (j := 2) F hK hH (tyb ha0 (all1 rfl)) rfl (all1 rfl) clX6 (by decide) wd_1_17 dX6_back_26 (fun q_10 hq_10 _ => ?_)
  refine lv_aload_n F.1 F.2.1 dX6_back_29 rfl (lv_at hl 0 rfl) ?_
  refine tGetR (j := 8) F hK hH (tyb ha0 (all1 rfl)) rfl (all1 rfl) clX6 (by decide) wd_2_0 dX6_back_30 (fun q_11 hq_11 _ => ?_)
  refine lv_iload_n F.1 F.2.1 dX6_back_33 rfl (lv_at hl 1 rfl) ?_
  refine tAald0 F hK hH (tyb hq_11 (all1 rfl)) rfl (ixb (n := 2) ha1 rfl rfl) dX6_back_34 (fun q_12 hq_12 => ?_)
  have hq_12 : eT E q_12 ∈ [37] := by have h9_ := hq_12; rw [show (a1).toNatClampNeg = 0 from by show (a1).toInt.toNat = _; omega] at h9_; exact h9_
  refine tVv (b := q_10) (As := [.ref q_12]) (rest := []) F hK hN hO (c_X2_copyOf_27_37 E (dayD (.inl (0, 18))) (dayD (.inl (0, 18))) (riverD (.inl Fa1) (.inl Fb1) (.inl (0, 4)) 31 33 35 39 43 47) (rcD (.inl (t, t)) (.inr [27]) (.inr ks) (.inl (kb, kb))) rd tp (riverD (.inl Fa4) (.inl Fb4) (.inl (0, 4)) 3 8 3 42 46 50) Fa2 Fb2 a b q_10 q_12 hq_10 hq_12 (by omega) (by omega) hFa2 hFb2) mv_X2_copyOf wd_39_1 ⟨Nat.le_of_ble_eq_true rfl, Nat.le_of_ble_eq_true rfl⟩ ⟨Nat.le_of_ble_eq_true rfl, Nat.le_of_ble_eq_true rfl⟩ hH hS (tRecv hK hH (tyb hq_10 (all1 rfl)) clX2) rfl hl.1 (Nat.le_of_ble_eq_true rfl) dX6_back_35 (fun H locs hq hS => ?_)
  have hH := hq
  have hH : TH E (tbC (dayD (.inl (0, 18))) (dayD (.inl (0, 18))) (riverD (.inl Fa1) (.inl Fb1) (.inl (0, 4)) 31 33 35 39 43 47) (riverD (.inl (a, a)) (.inl (b, b)) (.inl (0, 4)) 32 34 36 40 44 48) (rcD (.inl (t, t)) (.inr [27]) (.inr ks) (.inl (kb, kb))) rd tp A14F A14F A4F A4F A14F A14F (riverD (.inl (a, a)) (.inl (b, b)) (.inl (0, 4)) 3 8 3 41 45 49) (riverD (.inl Fa4) (.inl Fb4) (.inl (0, 4)) 3 8 3 42 46 50) A12D A12D A12D A12D A12F A12F A12F A12F A48F A48F A48F A48F) H := hH
  refine lv_aload_n F.1 F.2.1 dX6_back_38 rfl (lv_at hl 0 rfl) ?_
  refine tGetR (j := 4) F hK hH (tyb ha0 (all1 rfl)) rfl (all1 rfl) clX6 (by decide) wd_1_22 dX6_back_39 (fun q_14 hq_14 _ => ?_)
  refine lv_aload_n F.1 F.2.1 dX6_back_42 rfl (lv_at hl 0 rfl) ?_
  refine tGetR (j := 9) F hK hH (tyb ha0 (all1 rfl)) rfl (all1 rfl) clX6 (by decide) wd_2_1 dX6_back_43 (fun q_15 hq_15 _ => ?_)
  refine lv_iload_n F.1 F.2.1 dX6_back_46 rfl (lv_at hl 1 rfl) ?_
  refine tAald F hK hH (tyb hq_15 (all1 rfl)) rfl (all1 rfl) (ixb (n := 2) ha1 rfl rfl) dX6_back_47 (fun q_16 hq_16 _ => ?_)
  refine tVv (b := q_14) (As := [.ref q_16]) (rest := []) F hK hN hO (c_X5_copyOf E (dayD (.inl (0, 18))) (dayD (.inl (0, 18))) (riverD (.inl Fa1) (.inl Fb1) (.inl (0, 4)) 31 33 35 39 43 47) (riverD (.inl (a, a)) (.inl (b, b)) (.inl (0, 4)) 32 34 36 40 44 48) (rcD (.inl (t, t)) (.inr [27]) (.inr ks) (.inl (kb, kb))) rd tp A14F A14F A4F A4F A14F A14F (riverD (.inl (a, a)) (.inl (b, b)) (.inl (0, 4)) 3 8 3 41 45 49) (riverD (.inl Fa4) (.inl Fb4) (.inl (0, 4)) 3 8 3 42 46 50) A12D A12D A12D A12D A12F A12F A12F A12F A48F A48F A48F A48F q_14 q_16 hq_14 hq_16) mv_X5_copyOf wd_19_18 ⟨Nat.le_of_ble_eq_true rfl, Nat.le_of_ble_eq_true rfl⟩ ⟨Nat.le_of_ble_eq_true rfl, Nat.le_of_ble_eq_true rfl⟩ hH hS (tRecv hK hH (tyb hq_14 (all1 rfl)) clX5) rfl hl.1 (Nat.le_of_ble_eq_true rfl) dX6_back_48 (fun H locs hq hS => ?_)
  have hH := hq
  have hH : TH E (tbC (dayD (.inl (0, 18))) (dayD (.inl (0, 18))) (riverD (.inl Fa1) (.inl Fb1) (.inl (0, 4)) 31 33 35 39 43 47) (riverD (.inl (a, a)) (.inl (b, b)) (.inl (0, 4)) 32 34 36 40 44 48) (rcD (.inl (t, t)) (.inr [27]) (.inr ks) (.inl (kb, kb))) rd tp A14F A14F A4F A4F A14F A14F (riverD (.inl (a, a)) (.inl (b, b)) (.inl (0, 4)) 3 8 3 41 45 49) (riverD (.inl Fa4) (.inl Fb4) (.inl (0, 4)) 3 8 3 42 46 50) A12D A12D A12D A12D A12F A12F A12F A12F A48F A48F A48F A48F) H := hH
  refine lv_aload_n F.1 F.2.1 dX6_back_51 rfl (lv_at hl 0 rfl) ?_
  refine lv_iconst (v := 0) F.1 F.2.1 dX6_back_52 (by decide) ?_
  refine topK (a := 0) (by decide) (fun k_18 hk_18 => ?_)
  refine tPut (j := 7) F hK hH hS (tyb ha0 (all1 rfl)) rfl (fdI (wkb (eqb hk_18) rfl rfl)) clX6 (by decide) wd_8_17 rfl rfl rfl rfl dX6_back_53 (fun H locs hH hS => ?_)
  refine lv_aload_n F.1 F.2.1 dX6_back_56 rfl (lv_at hl 0 rfl) ?_
  refine tGetR (j := 4) F hK hH (tyb ha0 (all1 rfl)) rfl (all1 rfl) clX6 (by decide) wd_1_22 dX6_back_57 (fun q_19 hq_19 _ => ?_)
  refine tGetI (j := 0) F hK hH (tyb hq_19 (all1 rfl)) rfl clX5 (by decide) wd_19_12 dX6_back_60 (fun z_20 hz_20 => ?_)
  exact txI F hS dX6_back_63 rfl (⟨(wkb hz_20 rfl rfl), hH⟩)
set_option maxHeartbeats 4000000 in
set_option maxRecDepth 100000 in
theorem c_X6_back_1_no (E : Ev) (rd : TD) (tp : TD) (Fa1 : Int × Int) (Fb1 : Int × Int) (Fa2 : Int × Int) (Fb2 : Int × Int) (Fa3 : Int × Int) (Fb3 : Int × Int) (Fa4 : Int × Int) (Fb4 : Int × Int) (kr : List Nat) (ks : List Nat) (t : Int) (kb : Int) (a0 : Nat) (a1 : Int32) (ha0 : eT E a0 ∈ [28]) (ha1 : 1 ≤ a1.toInt ∧ a1.toInt ≤ 1) (ht : 0 ≤ t ∧ t ≤ 400) (hkb : 0 ≤ kb ∧ kb ≤ 3) (hFa1 : 0 ≤ Fa1.1 ∧ Fa1.2 ≤ 12) (hFb1 : 0 ≤ Fb1.1 ∧ Fb1.2 ≤ 14) (hFa2 : 0 ≤ Fa2.1 ∧ Fa2.2 ≤ 12) (hFb2 : 0 ≤ Fb2.1 ∧ Fb2.2 ≤ 14) (hFa3 : 0 ≤ Fa3.1 ∧ Fa3.2 ≤ 12) (hFb3 : 0 ≤ Fb3.1 ∧ Fb3.2 ≤ 14) (hFa4 : 0 ≤ Fa4.1 ∧ Fa4.2 ≤ 12) (hFb4 : 0 ≤ Fb4.1 ∧ Fb4.2 ≤ 14) (hkr : ∀ t ∈ kr, t ∈ [26, 27]) (hks : ∀ t ∈ ks, t ∈ [26, 27]) (hbit : kb / 2 = 0) : TcI E yX6_back cX6_back 2 .int ({ frames := 1, cells := 0, slots := 0, locals := 40 }) [.ref a0, .int a1] (fun H => TH E (tbC (dayD (.inl (0, 18))) (dayD (.inl (0, 18))) (riverD (.inl Fa1) (.inl Fb1) (.inl (0, 4)) 31 33 35 39 43 47) (riverD (.inl Fa2) (.inl Fb2) (.inl (0, 4)) 32 34 36 40 44 48) (rcD (.inl (t, t)) (.inr kr) (.inr ks) (.inl (kb, kb))) rd tp A14F A14F A4F A4F A14F A14F (riverD (.inl Fa3) (.inl Fb3) (.inl (0, 4)) 3 8 3 41 45 49) (riverD (.inl Fa4) (.inl Fb4) (.inl (0, 4)) 3 8 3 42 46 50) A12D A12D A12D A12D A12F A12F A12F A12F A48F A48F A48F A48F) H) (fun v H => ((-2147483648) ≤ v.toInt ∧ v.toInt ≤ 2147483647) ∧ TH E (tbC (dayD (.inl (0, 18))) (dayD (.inl (0, 18))) (riverD (.inl Fa1) (.inl Fb1) (.inl (0, 4)) 31 33 35 39 43 47) (riverD (.inl Fa2) (.inl Fb2) (.inl (0, 4)) 32 34 36 40 44 48) (rcD (.inl (t, t)) (.inr kr) (.inr ks) (.inl (kb, kb))) rd tp A14F A14F A4F A4F A14F A14F (riverD (.inl Fa3) (.inl Fb3) (.inl (0, 4)) 3 8 3 41 45 49) (riverD (.inl Fa4) (.inl Fb4) (.inl (0, 4)) 3 8 3 42 46 50) A12D A12D A12D A12D A12F A12F A12F A12F A48F A48F A48F A48F) H) := by
  refine teI (by decide) (Nat.le_of_ble_eq_true rfl) ?_
  intro p_ ev_ s mi_ below_ meth cd_ ls F hK hN hO hH hS hl
  have hH : TH E (tbC (dayD (.inl (0, 18))) (dayD (.inl (0, 18))) (riverD (.inl Fa1) (.inl Fb1) (.inl (0, 4)) 31 33 35 39 43 47) (riverD (.inl Fa2) (.inl Fb2) (.inl (0, 4)) 32 34 36 40 44 48) (rcD (.inl (t, t)) (.inr kr) (.inr ks) (.inl (kb, kb))) rd tp A14F A14F A4F A4F A14F A14F (riverD (.inl Fa3) (.inl Fb3) (.inl (0, 4)) 3 8 3 41 45 49) (riverD (.inl Fa4) (.inl Fb4) (.inl (0, 4)) 3 8 3 42 46 50) A12D A12D A12D A12D A12F A12F A12F A12F A48F A48F A48F A48F) s.heap := hH
  have hl : lv_has ls 2 [(0, .ref a0), (1, .int a1)] := hl
  refine lv_iload_n F.1 F.2.1 dX6_back_0 rfl (lv_at hl 1 rfl) ?_
  refine z_lt (tgt := 9) F dX6_back_1 (by decide) (fun c_1 => absurd c_1 (by omega)) (fun c_1 => ?_)
  refine lv_iload_n F.1 F.2.1 dX6_back_4 rfl (lv_at hl 1 rfl) ?_
  refine lv_iconst (v := 2) F.1 F.2.1 dX6_back_5 (by decide) ?_
  refine topK (a := 2) (by decide) (fun k_2 hk_2 => ?_)
  refine b_lt (tgt := 11) F dX6_back_6 (by decide) (fun c_3 => ?_) (fun c_3 => absurd c_3 (by omega))
  refine lv_aload_n F.1 F.2.1 dX6_back_11 rfl (lv_at hl 0 rfl) ?_
  refine tGetI (j := 10) F hK hH (tyb ha0 (all1 rfl)) rfl clX6 (by decide) wd_39_0 dX6_back_12 (fun z_4 hz_4 => ?_)
  have ez_4 : 0 ≤ z_4.toInt ∧ z_4.toInt ≤ 3 := by omega
  refine lv_iload_n F.1 F.2.1 dX6_back_15 rfl (lv_at hl 1 rfl) ?_
  refine lv_ishr F.1 F.2.1 dX6_back_16 ?_
  refine topE (fun z_5 xz_5 => ?_)
  refine lv_iconst (v := 1) F.1 F.2.1 dX6_back_17 (by decide) ?_
  refine topK (a := 1) (by decide) (fun k_6 hk_6 => ?_)
  refine lv_iand F.1 F.2.1 dX6_back_18 ?_
  refine topE (fun z_7 xz_7 => ?_)
  have qz_7 := kb_get1 xz_7 xz_5 (kb := kb) (by omega) (by omega) (by omega) (by omega)
  have bz_7 : 0 ≤ z_7.toInt ∧ z_7.toInt ≤ 1 := by omega
  refine z_ne (tgt := 25) F dX6_back_19 (by decide) (fun c_8 => absurd c_8 (by omega)) (fun c_8 => ?_)
  have r_9 : 0 ≤ z_7.toInt ∧ z_7.toInt ≤ 0 := by have h9_ := bz_7; omega
  refine lv_bipush (v := (-2)) F.1 F.2.1 dX6_back_22 (by decide) ?_
  refine topK (a := (-2)) (by decide) (fun k_10 hk_10 => ?_)
  exact txI F hS dX6_back_24 rfl (⟨(wkb (eqb hk_10) rfl rfl), hH⟩)
set_option maxHeartbeats 4000000 in
set_option maxRecDepth 100000 in
theorem c_X6_back_1_1 (E : Ev) (rd : TD) (tp : TD) (Fa1 : Int × Int) (Fb1 : Int × Int) (Fa2 : Int × Int) (Fb2 : Int × Int) (Fa3 : Int × Int) (Fb3 : Int × Int) (ks : List Nat) (t : Int) (kb : Int) (a : Int) (b : Int) (a0 : Nat) (a1 : Int32) (ha0 : eT E a0 ∈ [28]) (ha1 : 1 ≤ a1.toInt ∧ a1.toInt ≤ 1) (ht : 0 ≤ t ∧ t ≤ 400) (hkb : 0 ≤ kb ∧ kb ≤ 3) (ha : 0 ≤ a ∧ a ≤ 12) (hb : 0 ≤ b ∧ b ≤ 14) (hFa1 : 0 ≤ Fa1.1 ∧ Fa1.2 ≤ 12) (hFb1 : 0 ≤ Fb1.1 ∧ Fb1.2 ≤ 14) (hFa2 : 0 ≤ Fa2.1 ∧ Fa2.2 ≤ 12) (hFb2 : 0 ≤ Fb2.1 ∧ Fb2.2 ≤ 14) (hFa3 : 0 ≤ Fa3.1 ∧ Fa3.2 ≤ 12) (hFb3 : 0 ≤ Fb3.1 ∧ Fb3.2 ≤ 14) (hks : ∀ t ∈ ks, t ∈ [26, 27]) (hbit : kb / 2 = 1) : TcI E yX6_back cX6_back 2 .int ({ frames := 3, cells := 0, slots := 0, locals := 82 }) [.ref a0, .int a1] (fun H => TH E (tbC (dayD (.inl (0, 18))) (dayD (.inl (0, 18))) (riverD (.inl Fa1) (.inl Fb1) (.inl (0, 4)) 31 33 35 39 43 47) (riverD (.inl Fa2) (.inl Fb2) (.inl (0, 4)) 32 34 36 40 44 48) (rcD (.inl (t, t)) (.inr [26]) (.inr ks) (.inl (kb, kb))) rd tp A14F A14F A4F A4F A14F A14F (riverD (.inl Fa3) (.inl Fb3) (.inl (0, 4)) 3 8 3 41 45 49) (riverD (.inl (a, a)) (.inl (b, b)) (.inl (0, 4)) 3 8 3 42 46 50) A12D A12D A12D A12D A12F A12F A12F A12F A48F A48F A48F A48F) H) (fun v H => ((-2147483648) ≤ v.toInt ∧ v.toInt ≤ 2147483647) ∧ TH E (tbC (dayD (.inl (0, 18))) (dayD (.inl (0, 18))) (riverD (.inl (a, a)) (.inl (b, b)) (.inl (0, 4)) 31 33 35 39 43 47) (riverD (.inl Fa2) (.inl Fb2) (.inl (0, 4)) 32 34 36 40 44 48) (rcD (.inl (t, t)) (.inr [26]) (.inr ks) (.inl (kb, kb))) rd tp A14F A14F A4F A4F A14F A14F (riverD (.inl Fa3) (.inl Fb3) (.inl (0, 4)) 3 8 3 41 45 49) (riverD (.inl (a, a)) (.inl (b, b)) (.inl (0, 4)) 3 8 3 42 46 50) A12D A12D A12D A12D A12F A12F A12F A12F A48F A48F A48F A48F) H) := by
  refine teI (by decide) (Nat.le_of_ble_eq_true rfl) ?_
  intro p_ ev_ s mi_ below_ meth cd_ ls F hK hN hO hH hS hl
  have hH : TH E (tbC (dayD (.inl (0, 18))) (dayD (.inl (0, 18))) (riverD (.inl Fa1) (.inl Fb1) (.inl (0, 4)) 31 33 35 39 43 47) (riverD (.inl Fa2) (.inl Fb2) (.inl (0, 4)) 32 34 36 40 44 48) (rcD (.inl (t, t)) (.inr [26]) (.inr ks) (.inl (kb, kb))) rd tp A14F A14F A4F A4F A14F A14F (riverD (.inl Fa3) (.inl Fb3) (.inl (0, 4)) 3 8 3 41 45 49) (riverD (.inl (a, a)) (.inl (b, b)) (.inl (0, 4)) 3 8 3 42 46 50) A12D A12D A12D A12D A12F A12F A12F A12F A48F A48F A48F A48F) s.heap := hH
  have hl : lv_has ls 2 [(0, .ref a0), (1, .int a1)] := hl
  refine lv_iload_n F.1 F.2.1 dX6_back_0 rfl (lv_at hl 1 rfl) ?_
  refine z_lt (tgt := 9) F dX6_back_1 (by decide) (fun c_1 => absurd c_1 (by omega)) (fun c_1 => ?_)
  refine lv_iload_n F.1 F.2.1 dX6_back_4 rfl (lv_at hl 1 rfl) ?_
  refine lv_iconst (v := 2) F.1 F.2.1 dX6_back_5 (by decide) ?_
  refine topK (a := 2) (by decide) (fun k_2 hk_2 => ?_)
  refine b_lt (tgt := 11) F dX6_back_6 (by decide) (fun c_3 => ?_) (fun c_3 => absurd c_3 (by omega))
  refine lv_aload_n F.1 F.2.1 dX6_back_11 rfl (lv_at hl 0 rfl) ?_
  refine tGetI (j := 10) F hK hH (tyb ha0 (all1 rfl)) rfl clX6 (by decide) wd_39_0 dX6_back_12 (fun z_4 hz_4 => ?_)
  have ez_4 : 0 ≤ z_4.toInt ∧ z_4.toInt ≤ 3 := by omega
  refine lv_iload_n F.1 F.2.1 dX6_back_15 rfl (lv_at hl 1 rfl) ?_
  refine lv_ishr F.1 F.2.1 dX6_back_16 ?_
  refine topE (fun z_5 xz_5 => ?_)
  refine lv_iconst (v := 1) F.1 F.2.1 dX6_back_17 (by decide) ?_
  refine topK (a := 1) (by decide) (fun k_6 hk_6 => ?_)
  refine lv_iand F.1 F.2.1 dX6_back_18 ?_
  refine topE (fun z_7 xz_7 => ?_)
  have qz_7 := kb_get1 xz_7 xz_5 (kb := kb) (by omega) (by omega) (by omega) (by omega)
  have bz_7 : 0 ≤ z_7.toInt ∧ z_7.toInt ≤ 1 := by omega
  refine z_ne (tgt := 25) F dX6_back_19 (by decide) (fun c_8 => ?_) (fun c_8 => absurd c_8 (by omega))
  have r_9 : 1 ≤ z_7.toInt ∧ z_7.toInt ≤ 1 := by have h9_ := bz_7; omega
  refine lv_aload_n F.1 F.2.1 dX6_back_25 rfl (lv_at hl 0 rfl) ?_
  refine tGetR (j := 2) F hK hH (tyb ha0 (all1 rfl)) rfl (all1 rfl) clX6 (by decide) wd_1_17 dX6_back_26 (fun q_10 hq_10 _ => ?_)
  refine lv_aload_n F.1 F.2.1 dX6_back_29 rfl (lv_at hl 0 rfl) ?_
  refine tGetR (j := 8) F hK hH (tyb ha0 (all1 rfl)) rfl (all1 rfl) clX6 (by decide) wd_2_0 dX6_back_30 (fun q_11 hq_11 _ => ?_)
  refine lv_iload_n F.1 F.2.1 dX6_back_33 rfl (lv_at hl 1 rfl) ?_
  refine tAald0 F hK hH (tyb hq_11 (all1 rfl)) rfl (ixb (n := 2) ha1 rfl rfl) dX6_back_34 (fun q_12 hq_12 => ?_)
  have hq_12 : eT E q_12 ∈ [38] := by have h9_ := hq_12; rw [show (a1).toNatClampNeg = 1 from by show (a1).toInt.toNat = _; omega] at h9_; exact h9_
  refine tVv (b := q_10) (As := [.ref q_12]) (rest := []) F hK hN hO (c_X2_copyOf_26_38 E (dayD (.inl (0, 18))) (dayD (.inl (0, 18))) (riverD (.inl Fa2) (.inl Fb2) (.inl (0, 4)) 32 34 36 40 44 48) (rcD (.inl (t, t)) (.inr [26]) (.inr ks) (.inl (kb, kb))) rd tp (riverD (.inl Fa3) (.inl Fb3) (.inl (0, 4)) 3 8 3 41 45 49) Fa1 Fb1 a b q_10 q_12 hq_10 hq_12 (by omega) (by omega) hFa1 hFb1) mv_X2_copyOf wd_39_1 ⟨Nat.le_of_ble_eq_true rfl, Nat.le_of_ble_eq_true rfl⟩ ⟨Nat.le_of_ble_eq_true rfl, Nat.le_of_ble_eq_true rfl⟩ hH hS (tRecv hK hH (tyb hq_10 (all1 rfl)) clX2) rfl hl.1 (Nat.le_of_ble_eq_true rfl) dX6_back_35 (fun H locs hq hS => ?_)
  have hH := hq
  have hH : TH E (tbC (dayD (.inl (0, 18))) (dayD (.inl (0, 18))) (riverD (.inl (a, a)) (.inl (b, b)) (.inl (0, 4)) 31 33 35 39 43 47) (riverD (.inl Fa2) (.inl Fb2) (.inl (0, 4)) 32 34 36 40 44 48) (rcD (.inl (t, t)) (.inr [26]) (.inr ks) (.inl (kb, kb))) rd tp A14F A14F A4F A4F A14F A14F (riverD (.inl Fa3) (.inl Fb3) (.inl (0, 4)) 3 8 3 41 45 49) (riverD (.inl (a, a)) (.inl (b, b)) (.inl (0, 4)) 3 8 3 42 46 50) A12D A12D A12D A12D A12F A12F A12F A12F A48F A48F A48F A48F) H := hH
  refine lv_aload_n F.1 F.2.1 dX6_back_38 rfl (lv_at hl 0 rfl) ?_
  refine tGetR (j := 4) F hK hH (tyb ha0 (all1 rfl)) rfl (all1 rfl) clX6 (by decide) wd_1_22 dX6_back_39 (fun q_14 hq_14 _ => ?_)
  refine lv_aload_n F.1 F.2.1 dX6_back_42 rfl (lv_at hl 0 rfl) ?_
  refine tGetR (j := 9) F hK hH (tyb ha0 (all1 rfl)) rfl (all1 rfl) clX6 (by decide) wd_2_1 dX6_back_43 (fun q_15 hq_15 _ => ?_)
  refine lv_iload_n F.1 F.2.1 dX6_back_46 rfl (lv_at hl 1 rfl) ?_
  refine tAald F hK hH (tyb hq_15 (all1 rfl)) rfl (all1 rfl) (ixb (n := 2) ha1 rfl rfl) dX6_back_47 (fun q_16 hq_16 _ => ?_)
  refine tVv (b := q_14) (As := [.ref q_16]) (rest := []) F hK hN hO (c_X5_copyOf E (dayD (.inl (0, 18))) (dayD (.inl (0, 18))) (riverD (.inl (a, a)) (.inl (b, b)) (.inl (0, 4)) 31 33 35 39 43 47) (riverD (.inl Fa2) (.inl Fb2) (.inl (0, 4)) 32 34 36 40 44 48) (rcD (.inl (t, t)) (.inr [26]) (.inr ks) (.inl (kb, kb))) rd tp A14F A14F A4F A4F A14F A14F (riverD (.inl Fa3) (.inl Fb3) (.inl (0, 4)) 3 8 3 41 45 49) (riverD (.inl (a, a)) (.inl (b, b)) (.inl (0, 4)) 3 8 3 42 46 50) A12D A12D A12D A12D A12F A12F A12F A12F A48F A48F A48F A48F q_14 q_16 hq_14 hq_16) mv_X5_copyOf wd_19_18 ⟨Nat.le_of_ble_eq_true rfl, Nat.le_of_ble_eq_true rfl⟩ ⟨Nat.le_of_ble_eq_true rfl, Nat.le_of_ble_eq_true rfl⟩ hH hS (tRecv hK hH (tyb hq_14 (all1 rfl)) clX5) rfl hl.1 (Nat.le_of_ble_eq_true rfl) dX6_back_48 (fun H locs hq hS => ?_)
  have hH := hq
  have hH : TH E (tbC (dayD (.inl (0, 18))) (dayD (.inl (0, 18))) (riverD (.inl (a, a)) (.inl (b, b)) (.inl (0, 4)) 31 33 35 39 43 47) (riverD (.inl Fa2) (.inl Fb2) (.inl (0, 4)) 32 34 36 40 44 48) (rcD (.inl (t, t)) (.inr [26]) (.inr ks) (.inl (kb, kb))) rd tp A14F A14F A4F A4F A14F A14F (riverD (.inl Fa3) (.inl Fb3) (.inl (0, 4)) 3 8 3 41 45 49) (riverD (.inl (a, a)) (.inl (b, b)) (.inl (0, 4)) 3 8 3 42 46 50) A12D A12D A12D A12D A12F A12F A12F A12F A48F A48F A48F A48F) H := hH
  refine lv_aload_n F.1 F.2.1 dX6_back_51 rfl (lv_at hl 0 rfl) ?_
  refine lv_iconst (v := 0) F.1 F.2.1 dX6_back_52 (by decide) ?_
  refine topK (a := 0) (by decide) (fun k_18 hk_18 => ?_)
  refine tPut (j := 7) F hK hH hS (tyb ha0 (all1 rfl)) rfl (fdI (wkb (eqb hk_18) rfl rfl)) clX6 (by decide) wd_8_17 rfl rfl rfl rfl dX6_back_53 (fun H locs hH hS => ?_)
  refine lv_aload_n F.1 F.2.1 dX6_back_56 rfl (lv_at hl 0 rfl) ?_
  refine tGetR (j := 4) F hK hH (tyb ha0 (all1 rfl)) rfl (all1 rfl) clX6 (by decide) wd_1_22 dX6_back_57 (fun q_19 hq_19 _ => ?_)
  refine tGetI (j := 0) F hK hH (tyb hq_19 (all1 rfl)) rfl clX5 (by decide) wd_19_12 dX6_back_60 (fun z_20 hz_20 => ?_)
  exact txI F hS dX6_back_63 rfl (⟨(wkb hz_20 rfl rfl), hH⟩)
set_option maxHeartbeats 4000000 in
set_option maxRecDepth 100000 in
theorem c_X6_back_1_2 (E : Ev) (rd : TD) (tp : TD) (Fa1 : Int × Int) (Fb1 : Int × Int) (Fa2 : Int × Int) (Fb2 : Int × Int) (Fa3 : Int × Int) (Fb3 : Int × Int) (ks : List Nat) (t : Int) (kb : Int) (a : Int) (b : Int) (a0 : Nat) (a1 : Int32) (ha0 : eT E a0 ∈ [28]) (ha1 : 1 ≤ a1.toInt ∧ a1.toInt ≤ 1) (ht : 0 ≤ t ∧ t ≤ 400) (hkb : 0 ≤ kb ∧ kb ≤ 3) (ha : 0 ≤ a ∧ a ≤ 12) (hb : 0 ≤ b ∧ b ≤ 14) (hFa1 : 0 ≤ Fa1.1 ∧ Fa1.2 ≤ 12) (hFb1 : 0 ≤ Fb1.1 ∧ Fb1.2 ≤ 14) (hFa2 : 0 ≤ Fa2.1 ∧ Fa2.2 ≤ 12) (hFb2 : 0 ≤ Fb2.1 ∧ Fb2.2 ≤ 14) (hFa3 : 0 ≤ Fa3.1 ∧ Fa3.2 ≤ 12) (hFb3 : 0 ≤ Fb3.1 ∧ Fb3.2 ≤ 14) (hks : ∀ t ∈ ks, t ∈ [26, 27]) (hbit : kb / 2 = 1) : TcI E yX6_back cX6_back 2 .int ({ frames := 3, cells := 0, slots := 0, locals := 82 }) [.ref a0, .int a1] (fun H => TH E (tbC (dayD (.inl (0, 18))) (dayD (.inl (0, 18))) (riverD (.inl Fa1) (.inl Fb1) (.inl (0, 4)) 31 33 35 39 43 47) (riverD (.inl Fa2) (.inl Fb2) (.inl (0, 4)) 32 34 36 40 44 48) (rcD (.inl (t, t)) (.inr [27]) (.inr ks) (.inl (kb, kb))) rd tp A14F A14F A4F A4F A14F A14F (riverD (.inl Fa3) (.inl Fb3) (.inl (0, 4)) 3 8 3 41 45 49) (riverD (.inl (a, a)) (.inl (b, b)) (.inl (0, 4)) 3 8 3 42 46 50) A12D A12D A12D A12D A12F A12F A12F A12F A48F A48F A48F A48F) H) (fun v H => ((-2147483648) ≤ v.toInt ∧ v.toInt ≤ 2147483647) ∧ TH E (tbC (dayD (.inl (0, 18))) (dayD (.inl (0, 18))) (riverD (.inl Fa1) (.inl Fb1) (.inl (0, 4)) 31 33 35 39 43 47) (riverD (.inl (a, a)) (.inl (b, b)) (.inl (0, 4)) 32 34 36 40 44 48) (rcD (.inl (t, t)) (.inr [27]) (.inr ks) (.inl (kb, kb))) rd tp A14F A14F A4F A4F A14F A14F (riverD (.inl Fa3) (.inl Fb3) (.inl (0, 4)) 3 8 3 41 45 49) (riverD (.inl (a, a)) (.inl (b, b)) (.inl (0, 4)) 3 8 3 42 46 50) A12D A12D A12D A12D A12F A12F A12F A12F A48F A48F A48F A48F) H) := by
  refine teI (by decide) (Nat.le_of_ble_eq_true rfl) ?_
  intro p_ ev_ s mi_ below_ meth cd_ ls F hK hN hO hH hS hl
  have hH : TH E (tbC (dayD (.inl (0, 18))) (dayD (.inl (0, 18))) (riverD (.inl Fa1) (.inl Fb1) (.inl (0, 4)) 31 33 35 39 43 47) (riverD (.inl Fa2) (.inl Fb2) (.inl (0, 4)) 32 34 36 40 44 48) (rcD (.inl (t, t)) (.inr [27]) (.inr ks) (.inl (kb, kb))) rd tp A14F A14F A4F A4F A14F A14F (riverD (.inl Fa3) (.inl Fb3) (.inl (0, 4)) 3 8 3 41 45 49) (riverD (.inl (a, a)) (.inl (b, b)) (.inl (0, 4)) 3 8 3 42 46 50) A12D A12D A12D A12D A12F A12F A12F A12F A48F A48F A48F A48F) s.heap := hH
  have hl : lv_has ls 2 [(0, .ref a0), (1, .int a1)] := hl
  refine lv_iload_n F.1 F.2.1 dX6_back_0 rfl (lv_at hl 1 rfl) ?_
  refine z_lt (tgt := 9) F dX6_back_1 (by decide) (fun c_1 => absurd c_1 (by omega)) (fun c_1 => ?_)
  refine lv_iload_n F.1 F.2.1 dX6_back_4 rfl (lv_at hl 1 rfl) ?_
  refine lv_iconst (v := 2) F.1 F.2.1 dX6_back_5 (by decide) ?_
  refine topK (a := 2) (by decide) (fun k_2 hk_2 => ?_)
  refine b_lt (tgt := 11) F dX6_back_6 (by decide) (fun c_3 => ?_) (fun c_3 => absurd c_3 (by omega))
  refine lv_aload_n F.1 F.2.1 dX6_back_11 rfl (lv_at hl 0 rfl) ?_
  refine tGetI (j := 10) F hK hH (tyb ha0 (all1 rfl)) rfl clX6 (by decide) wd_39_0 dX6_back_12 (fun z_4 hz_4 => ?_)
  have ez_4 : 0 ≤ z_4.toInt ∧ z_4.toInt ≤ 3 := by omega
  refine lv_iload_n F.1 F.2.1 dX6_back_15 rfl (lv_at hl 1 rfl) ?_
  refine lv_ishr F.1 F.2.1 dX6_back_16 ?_
  refine topE (fun z_5 xz_5 => ?_)
  refine lv_iconst (v := 1) F.1 F.2.1 dX6_back_17 (by decide) ?_
  refine topK (a := 1) (by decide) (fun k_6 hk_6 => ?_)
  refine lv_iand F.1 F.2.1 dX6_back_18 ?_
  refine topE (fun z_7 xz_7 => ?_)
  have qz_7 := kb_get1 xz_7 xz_5 (kb := kb) (by omega) (by omega) (by omega) (by omega)
  have bz_7 : 0 ≤ z_7.toInt ∧ z_7.toInt ≤ 1 := by omega
  refine z_ne (tgt := 25) F dX6_back_19 (by decide) (fun c_8 => ?_) (fun c_8 => absurd c_8 (by omega))
  have r_9 : 1 ≤ z_7.toInt ∧ z_7.toInt ≤ 1 := by have h9_ := bz_7; omega
  refine lv_aload_n F.1 F.2.1 dX6_back_25 rfl (lv_at hl 0 rfl) ?_
  refine tGetR (j := 2) F hK hH (tyb ha0 (all1 rfl)) rfl (all1 rfl) clX6 (by decide) wd_1_17 dX6_back_26 (fun q_10 hq_10 _ => ?_)
  refine lv_aload_n F.1 F.2.1 dX6_back_29 rfl (lv_at hl 0 rfl) ?_
  refine tGetR (j := 8) F hK hH (tyb ha0 (all1 rfl)) rfl (all1 rfl) clX6 (by decide) wd_2_0 dX6_back_30 (fun q_11 hq_11 _ => ?_)
  refine lv_iload_n F.1 F.2.1 dX6_back_33 rfl (lv_at hl 1 rfl) ?_
  refine tAald0 F hK hH (tyb hq_11 (all1 rfl)) rfl (ixb (n := 2) ha1 rfl rfl) dX6_back_34 (fun q_12 hq_12 => ?_)
  have hq_12 : eT E q_12 ∈ [38] := by have h9_ := hq_12; rw [show (a1).toNatClampNeg = 1 from by show (a1).toInt.toNat = _; omega] at h9_; exact h9_
  refine tVv (b := q_10) (As := [.ref q_12]) (rest := []) F hK hN hO (c_X2_copyOf_27_38 E (dayD (.inl (0, 18))) (dayD (.inl (0, 18))) (riverD (.inl Fa1) (.inl Fb1) (.inl (0, 4)) 31 33 35 39 43 47) (rcD (.inl (t, t)) (.inr [27]) (.inr ks) (.inl (kb, kb))) rd tp (riverD (.inl Fa3) (.inl Fb3) (.inl (0, 4)) 3 8 3 41 45 49) Fa2 Fb2 a b q_10 q_12 hq_10 hq_12 (by omega) (by omega) hFa2 hFb2) mv_X2_copyOf wd_39_1 ⟨Nat.le_of_ble_eq_true rfl, Nat.le_of_ble_eq_true rfl⟩ ⟨Nat.le_of_ble_eq_true rfl, Nat.le_of_ble_eq_true rfl⟩ hH hS (tRecv hK hH (tyb hq_10 (all1 rfl)) clX2) rfl hl.1 (Nat.le_of_ble_eq_true rfl) dX6_back_35 (fun H locs hq hS => ?_)
  have hH := hq
  have hH : TH E (tbC (dayD (.inl (0, 18))) (dayD (.inl (0, 18))) (riverD (.inl Fa1) (.inl Fb1) (.inl (0, 4)) 31 33 35 39 43 47) (riverD (.inl (a, a)) (.inl (b, b)) (.inl (0, 4)) 32 34 36 40 44 48) (rcD (.inl (t, t)) (.inr [27]) (.inr ks) (.inl (kb, kb))) rd tp A14F A14F A4F A4F A14F A14F (riverD (.inl Fa3) (.inl Fb3) (.inl (0, 4)) 3 8 3 41 45 49) (riverD (.inl (a, a)) (.inl (b, b)) (.inl (0, 4)) 3 8 3 42 46 50) A12D A12D A12D A12D A12F A12F A12F A12F A48F A48F A48F A48F) H := hH
  refine lv_aload_n F.1 F.2.1 dX6_back_38 rfl (lv_at hl 0 rfl) ?_
  refine tGetR (j := 4) F hK hH (tyb ha0 (all1 rfl)) rfl (all1 rfl) clX6 (by decide) wd_1_22 dX6_back_39 (fun q_14 hq_14 _ => ?_)
  refine lv_aload_n F.1 F.2.1 dX6_back_42 rfl (lv_at hl 0 rfl) ?_
  refine tGetR (j := 9) F hK hH (tyb ha0 (all1 rfl)) rfl (all1 rfl) clX6 (by decide) wd_2_1 dX6_back_43 (fun q_15 hq_15 _ => ?_)
  refine lv_iload_n F.1 F.2.1 dX6_back_46 rfl (lv_at hl 1 rfl) ?_
  refine tAald F hK hH (tyb hq_15 (all1 rfl)) rfl (all1 rfl) (ixb (n := 2) ha1 rfl rfl) dX6_back_47 (fun q_16 hq_16 _ => ?_)
  refine tVv (b := q_14) (As := [.ref q_16]) (rest := []) F hK hN hO (c_X5_copyOf E (dayD (.inl (0, 18))) (dayD (.inl (0, 18))) (riverD (.inl Fa1) (.inl Fb1) (.inl (0, 4)) 31 33 35 39 43 47) (riverD (.inl (a, a)) (.inl (b, b)) (.inl (0, 4)) 32 34 36 40 44 48) (rcD (.inl (t, t)) (.inr [27]) (.inr ks) (.inl (kb, kb))) rd tp A14F A14F A4F A4F A14F A14F (riverD (.inl Fa3) (.inl Fb3) (.inl (0, 4)) 3 8 3 41 45 49) (riverD (.inl (a, a)) (.inl (b, b)) (.inl (0, 4)) 3 8 3 42 46 50) A12D A12D A12D A12D A12F A12F A12F A12F A48F A48F A48F A48F q_14 q_16 hq_14 hq_16) mv_X5_copyOf wd_19_18 ⟨Nat.le_of_ble_eq_true rfl, Nat.le_of_ble_eq_true rfl⟩ ⟨Nat.le_of_ble_eq_true rfl, Nat.le_of_ble_eq_true rfl⟩ hH hS (tRecv hK hH (tyb hq_14 (all1 rfl)) clX5) rfl hl.1 (Nat.le_of_ble_eq_true rfl) dX6_back_48 (fun H locs hq hS => ?_)
  have hH := hq
  have hH : TH E (tbC (dayD (.inl (0, 18))) (dayD (.inl (0, 18))) (riverD (.inl Fa1) (.inl Fb1) (.inl (0, 4)) 31 33 35 39 43 47) (riverD (.inl (a, a)) (.inl (b, b)) (.inl (0, 4)) 32 34 36 40 44 48) (rcD (.inl (t, t)) (.inr [27]) (.inr ks) (.inl (kb, kb))) rd tp A14F A14F A4F A4F A14F A14F (riverD (.inl Fa3) (.inl Fb3) (.inl (0, 4)) 3 8 3 41 45 49) (riverD (.inl (a, a)) (.inl (b, b)) (.inl (0, 4)) 3 8 3 42 46 50) A12D A12D A12D A12D A12F A12F A12F A12F A48F A48F A48F A48F) H := hH
  refine lv_aload_n F.1 F.2.1 dX6_back_51 rfl (lv_at hl 0 rfl) ?_
  refine lv_iconst (v := 0) F.1 F.2.1 dX6_back_52 (by decide) ?_
  refine topK (a := 0) (by decide) (fun k_18 hk_18 => ?_)
  refine tPut (j := 7) F hK hH hS (tyb ha0 (all1 rfl)) rfl (fdI (wkb (eqb hk_18) rfl rfl)) clX6 (by decide) wd_8_17 rfl rfl rfl rfl dX6_back_53 (fun H locs hH hS => ?_)
  refine lv_aload_n F.1 F.2.1 dX6_back_56 rfl (lv_at hl 0 rfl) ?_
  refine tGetR (j := 4) F hK hH (tyb ha0 (all1 rfl)) rfl (all1 rfl) clX6 (by decide) wd_1_22 dX6_back_57 (fun q_19 hq_19 _ => ?_)
  refine tGetI (j := 0) F hK hH (tyb hq_19 (all1 rfl)) rfl clX5 (by decide) wd_19_12 dX6_back_60 (fun z_20 hz_20 => ?_)
  exact txI F hS dX6_back_63 rfl (⟨(wkb hz_20 rfl rfl), hH⟩)
