theorem dX7_reach_0 : decode cX7_reach 0 = .ok (.aload_n 0, 1) := by decide +kernel
theorem dX7_reach_1 : decode cX7_reach 1 = .ok (.iload_n 1, 1) := by decide +kernel
theorem dX7_reach_2 : decode cX7_reach 2 = .ok (.invokevirtual 220, 3) := by decide +kernel
theorem dX7_reach_5 : decode cX7_reach 5 = .ok (.ifCond .ne 5, 3) := by decide +kernel
theorem dX7_reach_8 : decode cX7_reach 8 = .ok (.iconst (-1), 1) := by decide +kernel
theorem dX7_reach_9 : decode cX7_reach 9 = .ok (.ireturn, 1) := by decide +kernel
theorem dX7_reach_10 : decode cX7_reach 10 = .ok (.iload_n 2, 1) := by decide +kernel
theorem dX7_reach_11 : decode cX7_reach 11 = .ok (.tableswitch 122 0 13 #[69, 91, 98, 104, 122, 122, 122, 122, 122, 122, 110, 110, 110, 110], 69) := by decide +kernel
theorem dX7_reach_80 : decode cX7_reach 80 = .ok (.aload_n 0, 1) := by decide +kernel
theorem dX7_reach_81 : decode cX7_reach 81 = .ok (.iload_n 1, 1) := by decide +kernel
theorem dX7_reach_82 : decode cX7_reach 82 = .ok (.iconst 0, 1) := by decide +kernel
theorem dX7_reach_83 : decode cX7_reach 83 = .ok (.invokevirtual 106, 3) := by decide +kernel
theorem dX7_reach_86 : decode cX7_reach 86 = .ok (.iconst (-1), 1) := by decide +kernel
theorem dX7_reach_87 : decode cX7_reach 87 = .ok (.if_icmp .ne 8, 3) := by decide +kernel
theorem dX7_reach_90 : decode cX7_reach 90 = .ok (.bipush (-2), 2) := by decide +kernel
theorem dX7_reach_92 : decode cX7_reach 92 = .ok (.goto 9, 3) := by decide +kernel
theorem dX7_reach_95 : decode cX7_reach 95 = .ok (.aload_n 0, 1) := by decide +kernel
theorem dX7_reach_96 : decode cX7_reach 96 = .ok (.iload_n 1, 1) := by decide +kernel
theorem dX7_reach_97 : decode cX7_reach 97 = .ok (.iconst 0, 1) := by decide +kernel
theorem dX7_reach_98 : decode cX7_reach 98 = .ok (.invokevirtual 106, 3) := by decide +kernel
theorem dX7_reach_101 : decode cX7_reach 101 = .ok (.ireturn, 1) := by decide +kernel
theorem dX7_reach_102 : decode cX7_reach 102 = .ok (.aload_n 0, 1) := by decide +kernel
theorem dX7_reach_103 : decode cX7_reach 103 = .ok (.iload_n 1, 1) := by decide +kernel
theorem dX7_reach_104 : decode cX7_reach 104 = .ok (.iconst 1, 1) := by decide +kernel
theorem dX7_reach_105 : decode cX7_reach 105 = .ok (.invokevirtual 106, 3) := by decide +kernel
theorem dX7_reach_108 : decode cX7_reach 108 = .ok (.ireturn, 1) := by decide +kernel
theorem dX7_reach_109 : decode cX7_reach 109 = .ok (.aload_n 0, 1) := by decide +kernel
theorem dX7_reach_110 : decode cX7_reach 110 = .ok (.iload_n 1, 1) := by decide +kernel
theorem dX7_reach_111 : decode cX7_reach 111 = .ok (.invokevirtual 223, 3) := by decide +kernel
theorem dX7_reach_114 : decode cX7_reach 114 = .ok (.ireturn, 1) := by decide +kernel
theorem dX7_reach_115 : decode cX7_reach 115 = .ok (.aload_n 0, 1) := by decide +kernel
theorem dX7_reach_116 : decode cX7_reach 116 = .ok (.iload_n 1, 1) := by decide +kernel
theorem dX7_reach_117 : decode cX7_reach 117 = .ok (.invokevirtual 226, 3) := by decide +kernel
theorem dX7_reach_120 : decode cX7_reach 120 = .ok (.ireturn, 1) := by decide +kernel
theorem dX7_reach_121 : decode cX7_reach 121 = .ok (.aload_n 0, 1) := by decide +kernel
theorem dX7_reach_122 : decode cX7_reach 122 = .ok (.iload_n 1, 1) := by decide +kernel
theorem dX7_reach_123 : decode cX7_reach 123 = .ok (.iconst 2, 1) := by decide +kernel
theorem dX7_reach_124 : decode cX7_reach 124 = .ok (.iload_n 2, 1) := by decide +kernel
theorem dX7_reach_125 : decode cX7_reach 125 = .ok (.iadd, 1) := by decide +kernel
theorem dX7_reach_126 : decode cX7_reach 126 = .ok (.bipush 10, 2) := by decide +kernel
theorem dX7_reach_128 : decode cX7_reach 128 = .ok (.isub, 1) := by decide +kernel
theorem dX7_reach_129 : decode cX7_reach 129 = .ok (.invokevirtual 106, 3) := by decide +kernel
theorem dX7_reach_132 : decode cX7_reach 132 = .ok (.ireturn, 1) := by decide +kernel
theorem dX7_reach_133 : decode cX7_reach 133 = .ok (.iconst (-1), 1) := by decide +kernel
theorem dX7_reach_134 : decode cX7_reach 134 = .ok (.ireturn, 1) := by decide +kernel
theorem dX7_right_0 : decode cX7_right 0 = .ok (.aload_n 0, 1) := by decide +kernel
theorem dX7_right_1 : decode cX7_right 1 = .ok (.iload_n 1, 1) := by decide +kernel
theorem dX7_right_2 : decode cX7_right 2 = .ok (.invokevirtual 229, 3) := by decide +kernel
theorem dX7_right_5 : decode cX7_right 5 = .ok (.ifCond .eq 24, 3) := by decide +kernel
theorem dX7_right_8 : decode cX7_right 8 = .ok (.iload_n 2, 1) := by decide +kernel
theorem dX7_right_9 : decode cX7_right 9 = .ok (.i2l, 1) := by decide +kernel
theorem dX7_right_10 : decode cX7_right 10 = .ok (.lconst 0, 1) := by decide +kernel
theorem dX7_right_11 : decode cX7_right 11 = .ok (.ldc2_w 232, 3) := by decide +kernel
theorem dX7_right_14 : decode cX7_right 14 = .ok (.invokestatic 96, 3) := by decide +kernel
theorem dX7_right_17 : decode cX7_right 17 = .ok (.ifCond .eq 12, 3) := by decide +kernel
theorem dX7_right_20 : decode cX7_right 20 = .ok (.aload_n 0, 1) := by decide +kernel
theorem dX7_right_21 : decode cX7_right 21 = .ok (.iload_n 1, 1) := by decide +kernel
theorem dX7_right_22 : decode cX7_right 22 = .ok (.iload_n 2, 1) := by decide +kernel
theorem dX7_right_23 : decode cX7_right 23 = .ok (.invokevirtual 113, 3) := by decide +kernel
theorem dX7_right_26 : decode cX7_right 26 = .ok (.goto 4, 3) := by decide +kernel
theorem dX7_right_29 : decode cX7_right 29 = .ok (.iconst (-1), 1) := by decide +kernel
theorem dX7_right_30 : decode cX7_right 30 = .ok (.ireturn, 1) := by decide +kernel
theorem dX7_store_0 : decode cX7_store 0 = .ok (.aload_n 0, 1) := by decide +kernel
theorem dX7_store_1 : decode cX7_store 1 = .ok (.iload_n 1, 1) := by decide +kernel
theorem dX7_store_2 : decode cX7_store 2 = .ok (.invokevirtual 234, 3) := by decide +kernel
theorem dX7_store_5 : decode cX7_store 5 = .ok (.ifCond .eq 24, 3) := by decide +kernel
theorem dX7_store_8 : decode cX7_store 8 = .ok (.iload_n 2, 1) := by decide +kernel
theorem dX7_store_9 : decode cX7_store 9 = .ok (.i2l, 1) := by decide +kernel
theorem dX7_store_10 : decode cX7_store 10 = .ok (.lconst 0, 1) := by decide +kernel
theorem dX7_store_11 : decode cX7_store 11 = .ok (.ldc2_w 237, 3) := by decide +kernel
theorem dX7_store_14 : decode cX7_store 14 = .ok (.invokestatic 96, 3) := by decide +kernel
theorem dX7_store_17 : decode cX7_store 17 = .ok (.ifCond .eq 12, 3) := by decide +kernel
theorem dX7_store_20 : decode cX7_store 20 = .ok (.aload_n 0, 1) := by decide +kernel
theorem dX7_store_21 : decode cX7_store 21 = .ok (.iload_n 1, 1) := by decide +kernel
theorem dX7_store_22 : decode cX7_store 22 = .ok (.iload_n 2, 1) := by decide +kernel
theorem dX7_store_23 : decode cX7_store 23 = .ok (.invokevirtual 116, 3) := by decide +kernel
theorem dX7_store_26 : decode cX7_store 26 = .ok (.goto 4, 3) := by decide +kernel
theorem dX7_store_29 : decode cX7_store 29 = .ok (.iconst (-1), 1) := by decide +kernel
theorem dX7_store_30 : decode cX7_store 30 = .ok (.ireturn, 1) := by decide +kernel
theorem dX7_coming_0 : decode cX7_coming 0 = .ok (.aload_n 0, 1) := by decide +kernel
theorem dX7_coming_1 : decode cX7_coming 1 = .ok (.iload_n 1, 1) := by decide +kernel
theorem dX7_coming_2 : decode cX7_coming 2 = .ok (.invokevirtual 220, 3) := by decide +kernel
theorem dX7_coming_5 : decode cX7_coming 5 = .ok (.ifCond .eq 24, 3) := by decide +kernel
theorem dX7_coming_8 : decode cX7_coming 8 = .ok (.iload_n 2, 1) := by decide +kernel
theorem dX7_coming_9 : decode cX7_coming 9 = .ok (.i2l, 1) := by decide +kernel
theorem dX7_coming_10 : decode cX7_coming 10 = .ok (.lconst 0, 1) := by decide +kernel
theorem dX7_coming_11 : decode cX7_coming 11 = .ok (.ldc2_w 284, 3) := by decide +kernel
theorem dX7_coming_14 : decode cX7_coming 14 = .ok (.invokestatic 96, 3) := by decide +kernel
theorem dX7_coming_17 : decode cX7_coming 17 = .ok (.ifCond .eq 12, 3) := by decide +kernel
theorem dX7_coming_20 : decode cX7_coming 20 = .ok (.aload_n 0, 1) := by decide +kernel
theorem dX7_coming_21 : decode cX7_coming 21 = .ok (.iload_n 1, 1) := by decide +kernel
theorem dX7_coming_22 : decode cX7_coming 22 = .ok (.iload_n 2, 1) := by decide +kernel
theorem dX7_coming_23 : decode cX7_coming 23 = .ok (.invokevirtual 136, 3) := by decide +kernel
theorem dX7_coming_26 : decode cX7_coming 26 = .ok (.goto 4, 3) := by decide +kernel
theorem dX7_coming_29 : decode cX7_coming 29 = .ok (.iconst (-1), 1) := by decide +kernel
theorem dX7_coming_30 : decode cX7_coming 30 = .ok (.ireturn, 1) := by decide +kernel
theorem dX7_above_0 : decode cX7_above 0 = .ok (.aload_n 0, 1) := by decide +kernel
theorem dX7_above_1 : decode cX7_above 1 = .ok (.iload_n 1, 1) := by decide +kernel
theorem dX7_above_2 : decode cX7_above 2 = .ok (.invokevirtual 220, 3) := by decide +kernel
theorem dX7_above_5 : decode cX7_above 5 = .ok (.ifCond .ne 5, 3) := by decide +kernel
theorem dX7_above_8 : decode cX7_above 8 = .ok (.iconst (-1), 1) := by decide +kernel
theorem dX7_above_9 : decode cX7_above 9 = .ok (.ireturn, 1) := by decide +kernel
theorem dX7_above_10 : decode cX7_above 10 = .ok (.iconst 0, 1) := by decide +kernel
theorem dX7_above_11 : decode cX7_above 11 = .ok (.istore_n 2, 1) := by decide +kernel
theorem dX7_above_12 : decode cX7_above 12 = .ok (.iconst 0, 1) := by decide +kernel
theorem dX7_above_13 : decode cX7_above 13 = .ok (.istore_n 3, 1) := by decide +kernel
theorem dX7_above_14 : decode cX7_above 14 = .ok (.iload_n 3, 1) := by decide +kernel
theorem dX7_above_15 : decode cX7_above 15 = .ok (.aload_n 0, 1) := by decide +kernel
theorem dX7_above_16 : decode cX7_above 16 = .ok (.invokevirtual 92, 3) := by decide +kernel
theorem dX7_above_19 : decode cX7_above 19 = .ok (.if_icmp .ge 28, 3) := by decide +kernel
theorem dX7_above_22 : decode cX7_above 22 = .ok (.iload_n 2, 1) := by decide +kernel
theorem dX7_above_23 : decode cX7_above 23 = .ok (.aload_n 0, 1) := by decide +kernel
theorem dX7_above_24 : decode cX7_above 24 = .ok (.iload_n 3, 1) := by decide +kernel
theorem dX7_above_25 : decode cX7_above 25 = .ok (.iload_n 1, 1) := by decide +kernel
theorem dX7_above_26 : decode cX7_above 26 = .ok (.invokevirtual 170, 3) := by decide +kernel
theorem dX7_above_29 : decode cX7_above 29 = .ok (.ifCond .eq 9, 3) := by decide +kernel
theorem dX7_above_32 : decode cX7_above 32 = .ok (.iconst 1, 1) := by decide +kernel
theorem dX7_above_33 : decode cX7_above 33 = .ok (.iload_n 3, 1) := by decide +kernel
theorem dX7_above_34 : decode cX7_above 34 = .ok (.ishl, 1) := by decide +kernel
theorem dX7_above_35 : decode cX7_above 35 = .ok (.goto 4, 3) := by decide +kernel
theorem dX7_above_38 : decode cX7_above 38 = .ok (.iconst 0, 1) := by decide +kernel
theorem dX7_above_39 : decode cX7_above 39 = .ok (.ior, 1) := by decide +kernel
theorem dX7_above_40 : decode cX7_above 40 = .ok (.istore_n 2, 1) := by decide +kernel
theorem dX7_above_41 : decode cX7_above 41 = .ok (.iinc 3 1, 3) := by decide +kernel
theorem dX7_above_44 : decode cX7_above 44 = .ok (.goto (-30), 3) := by decide +kernel
theorem dX7_above_47 : decode cX7_above 47 = .ok (.iload_n 2, 1) := by decide +kernel
theorem dX7_above_48 : decode cX7_above 48 = .ok (.ireturn, 1) := by decide +kernel
theorem dX7_flow_0 : decode cX7_flow 0 = .ok (.aload_n 0, 1) := by decide +kernel
theorem dX7_flow_1 : decode cX7_flow 1 = .ok (.iload_n 1, 1) := by decide +kernel
theorem dX7_flow_2 : decode cX7_flow 2 = .ok (.invokevirtual 220, 3) := by decide +kernel
theorem dX7_flow_5 : decode cX7_flow 5 = .ok (.ifCond .ne 5, 3) := by decide +kernel
theorem dX7_flow_8 : decode cX7_flow 8 = .ok (.iconst (-1), 1) := by decide +kernel
theorem dX7_flow_9 : decode cX7_flow 9 = .ok (.ireturn, 1) := by decide +kernel
theorem dX7_flow_10 : decode cX7_flow 10 = .ok (.aload_n 0, 1) := by decide +kernel
theorem dX7_flow_11 : decode cX7_flow 11 = .ok (.invokevirtual 202, 3) := by decide +kernel
theorem dX7_flow_14 : decode cX7_flow 14 = .ok (.iload_n 2, 1) := by decide +kernel
theorem dX7_flow_15 : decode cX7_flow 15 = .ok (.tableswitch 67 0 4 #[33, 39, 46, 53, 60], 33) := by decide +kernel
theorem dX7_flow_48 : decode cX7_flow 48 = .ok (.aload_n 0, 1) := by decide +kernel
theorem dX7_flow_49 : decode cX7_flow 49 = .ok (.iload_n 1, 1) := by decide +kernel
theorem dX7_flow_50 : decode cX7_flow 50 = .ok (.invokevirtual 133, 3) := by decide +kernel
theorem dX7_flow_53 : decode cX7_flow 53 = .ok (.ireturn, 1) := by decide +kernel
theorem dX7_flow_54 : decode cX7_flow 54 = .ok (.aload_n 0, 1) := by decide +kernel
theorem dX7_flow_55 : decode cX7_flow 55 = .ok (.iload_n 1, 1) := by decide +kernel
theorem dX7_flow_56 : decode cX7_flow 56 = .ok (.iconst 0, 1) := by decide +kernel
theorem dX7_flow_57 : decode cX7_flow 57 = .ok (.invokevirtual 136, 3) := by decide +kernel
theorem dX7_flow_60 : decode cX7_flow 60 = .ok (.ireturn, 1) := by decide +kernel
theorem dX7_flow_61 : decode cX7_flow 61 = .ok (.aload_n 0, 1) := by decide +kernel
theorem dX7_flow_62 : decode cX7_flow 62 = .ok (.getfield 48, 3) := by decide +kernel
theorem dX7_flow_65 : decode cX7_flow 65 = .ok (.iload_n 1, 1) := by decide +kernel
theorem dX7_flow_66 : decode cX7_flow 66 = .ok (.iaload, 1) := by decide +kernel
theorem dX7_flow_67 : decode cX7_flow 67 = .ok (.ireturn, 1) := by decide +kernel
theorem dX7_flow_68 : decode cX7_flow 68 = .ok (.aload_n 0, 1) := by decide +kernel
theorem dX7_flow_69 : decode cX7_flow 69 = .ok (.getfield 42, 3) := by decide +kernel
theorem dX7_flow_72 : decode cX7_flow 72 = .ok (.iload_n 1, 1) := by decide +kernel
theorem dX7_flow_73 : decode cX7_flow 73 = .ok (.iaload, 1) := by decide +kernel
theorem dX7_flow_74 : decode cX7_flow 74 = .ok (.ireturn, 1) := by decide +kernel
theorem dX7_flow_75 : decode cX7_flow 75 = .ok (.aload_n 0, 1) := by decide +kernel
theorem dX7_flow_76 : decode cX7_flow 76 = .ok (.getfield 51, 3) := by decide +kernel
theorem dX7_flow_79 : decode cX7_flow 79 = .ok (.iload_n 1, 1) := by decide +kernel
theorem dX7_flow_80 : decode cX7_flow 80 = .ok (.iaload, 1) := by decide +kernel
theorem dX7_flow_81 : decode cX7_flow 81 = .ok (.ireturn, 1) := by decide +kernel
theorem dX7_flow_82 : decode cX7_flow 82 = .ok (.iconst (-1), 1) := by decide +kernel
theorem dX7_flow_83 : decode cX7_flow 83 = .ok (.ireturn, 1) := by decide +kernel
theorem dX7_takes_0 : decode cX7_takes 0 = .ok (.aload_n 0, 1) := by decide +kernel
theorem dX7_takes_1 : decode cX7_takes 1 = .ok (.iload_n 1, 1) := by decide +kernel
theorem dX7_takes_2 : decode cX7_takes 2 = .ok (.invokevirtual 229, 3) := by decide +kernel
theorem dX7_takes_5 : decode cX7_takes 5 = .ok (.ifCond .ne 5, 3) := by decide +kernel
theorem dX7_takes_8 : decode cX7_takes 8 = .ok (.iconst (-1), 1) := by decide +kernel
theorem dX7_takes_9 : decode cX7_takes 9 = .ok (.ireturn, 1) := by decide +kernel
theorem dX7_takes_10 : decode cX7_takes 10 = .ok (.aload_n 0, 1) := by decide +kernel
theorem dX7_takes_11 : decode cX7_takes 11 = .ok (.invokevirtual 202, 3) := by decide +kernel
theorem dX7_takes_14 : decode cX7_takes 14 = .ok (.iload_n 2, 1) := by decide +kernel
theorem dX7_takes_15 : decode cX7_takes 15 = .ok (.tableswitch 66 0 4 #[33, 39, 46, 53, 60], 33) := by decide +kernel
theorem dX7_takes_48 : decode cX7_takes 48 = .ok (.aload_n 0, 1) := by decide +kernel
theorem dX7_takes_49 : decode cX7_takes 49 = .ok (.iload_n 1, 1) := by decide +kernel
theorem dX7_takes_50 : decode cX7_takes 50 = .ok (.invokevirtual 183, 3) := by decide +kernel
theorem dX7_takes_53 : decode cX7_takes 53 = .ok (.ireturn, 1) := by decide +kernel
theorem dX7_takes_54 : decode cX7_takes 54 = .ok (.aload_n 0, 1) := by decide +kernel
theorem dX7_takes_55 : decode cX7_takes 55 = .ok (.getfield 58, 3) := by decide +kernel
theorem dX7_takes_58 : decode cX7_takes 58 = .ok (.iload_n 1, 1) := by decide +kernel
theorem dX7_takes_59 : decode cX7_takes 59 = .ok (.iaload, 1) := by decide +kernel
theorem dX7_takes_60 : decode cX7_takes 60 = .ok (.ireturn, 1) := by decide +kernel
theorem dX7_takes_61 : decode cX7_takes 61 = .ok (.aload_n 0, 1) := by decide +kernel
theorem dX7_takes_62 : decode cX7_takes 62 = .ok (.getfield 61, 3) := by decide +kernel
theorem dX7_takes_65 : decode cX7_takes 65 = .ok (.iload_n 1, 1) := by decide +kernel
theorem dX7_takes_66 : decode cX7_takes 66 = .ok (.iaload, 1) := by decide +kernel
theorem dX7_takes_67 : decode cX7_takes 67 = .ok (.ireturn, 1) := by decide +kernel
theorem dX7_takes_68 : decode cX7_takes 68 = .ok (.aload_n 0, 1) := by decide +kernel
theorem dX7_takes_69 : decode cX7_takes 69 = .ok (.getfield 64, 3) := by decide +kernel
theorem dX7_takes_72 : decode cX7_takes 72 = .ok (.iload_n 1, 1) := by decide +kernel
theorem dX7_takes_73 : decode cX7_takes 73 = .ok (.iaload, 1) := by decide +kernel
theorem dX7_takes_74 : decode cX7_takes 74 = .ok (.ireturn, 1) := by decide +kernel
theorem dX7_takes_75 : decode cX7_takes 75 = .ok (.aload_n 0, 1) := by decide +kernel
theorem dX7_takes_76 : decode cX7_takes 76 = .ok (.iload_n 1, 1) := by decide +kernel
theorem dX7_takes_77 : decode cX7_takes 77 = .ok (.invokevirtual 163, 3) := by decide +kernel
theorem dX7_takes_80 : decode cX7_takes 80 = .ok (.ireturn, 1) := by decide +kernel
theorem dX7_takes_81 : decode cX7_takes 81 = .ok (.iconst (-1), 1) := by decide +kernel
theorem dX7_takes_82 : decode cX7_takes 82 = .ok (.ireturn, 1) := by decide +kernel
theorem dX7_stored_0 : decode cX7_stored 0 = .ok (.aload_n 0, 1) := by decide +kernel
theorem dX7_stored_1 : decode cX7_stored 1 = .ok (.iload_n 1, 1) := by decide +kernel
theorem dX7_stored_2 : decode cX7_stored 2 = .ok (.invokevirtual 234, 3) := by decide +kernel
theorem dX7_stored_5 : decode cX7_stored 5 = .ok (.ifCond .ne 5, 3) := by decide +kernel
theorem dX7_stored_8 : decode cX7_stored 8 = .ok (.iconst (-1), 1) := by decide +kernel
theorem dX7_stored_9 : decode cX7_stored 9 = .ok (.ireturn, 1) := by decide +kernel
theorem dX7_stored_10 : decode cX7_stored 10 = .ok (.aload_n 0, 1) := by decide +kernel
theorem dX7_stored_11 : decode cX7_stored 11 = .ok (.invokevirtual 202, 3) := by decide +kernel
theorem dX7_stored_14 : decode cX7_stored 14 = .ok (.iload_n 2, 1) := by decide +kernel
theorem dX7_stored_15 : decode cX7_stored 15 = .ok (.tableswitch 84 0 3 #[29, 39, 46, 53], 29) := by decide +kernel
theorem dX7_stored_44 : decode cX7_stored 44 = .ok (.aload_n 0, 1) := by decide +kernel
theorem dX7_stored_45 : decode cX7_stored 45 = .ok (.getfield 58, 3) := by decide +kernel
theorem dX7_stored_48 : decode cX7_stored 48 = .ok (.bipush 14, 2) := by decide +kernel
theorem dX7_stored_50 : decode cX7_stored 50 = .ok (.iload_n 1, 1) := by decide +kernel
theorem dX7_stored_51 : decode cX7_stored 51 = .ok (.iadd, 1) := by decide +kernel
theorem dX7_stored_52 : decode cX7_stored 52 = .ok (.iaload, 1) := by decide +kernel
theorem dX7_stored_53 : decode cX7_stored 53 = .ok (.ireturn, 1) := by decide +kernel
theorem dX7_stored_54 : decode cX7_stored 54 = .ok (.aload_n 0, 1) := by decide +kernel
theorem dX7_stored_55 : decode cX7_stored 55 = .ok (.getfield 67, 3) := by decide +kernel
theorem dX7_stored_58 : decode cX7_stored 58 = .ok (.iload_n 1, 1) := by decide +kernel
theorem dX7_stored_59 : decode cX7_stored 59 = .ok (.iaload, 1) := by decide +kernel
theorem dX7_stored_60 : decode cX7_stored 60 = .ok (.ireturn, 1) := by decide +kernel
theorem dX7_stored_61 : decode cX7_stored 61 = .ok (.aload_n 0, 1) := by decide +kernel
theorem dX7_stored_62 : decode cX7_stored 62 = .ok (.getfield 70, 3) := by decide +kernel
theorem dX7_stored_65 : decode cX7_stored 65 = .ok (.iload_n 1, 1) := by decide +kernel
theorem dX7_stored_66 : decode cX7_stored 66 = .ok (.iaload, 1) := by decide +kernel
theorem dX7_stored_67 : decode cX7_stored 67 = .ok (.ireturn, 1) := by decide +kernel
theorem dX7_stored_68 : decode cX7_stored 68 = .ok (.aload_n 0, 1) := by decide +kernel
theorem dX7_stored_69 : decode cX7_stored 69 = .ok (.iload_n 1, 1) := by decide +kernel
theorem dX7_stored_70 : decode cX7_stored 70 = .ok (.iconst 4, 1) := by decide +kernel
theorem dX7_stored_71 : decode cX7_stored 71 = .ok (.invokevirtual 116, 3) := by decide +kernel
theorem dX7_stored_74 : decode cX7_stored 74 = .ok (.aload_n 0, 1) := by decide +kernel
theorem dX7_stored_75 : decode cX7_stored 75 = .ok (.getfield 58, 3) := by decide +kernel
theorem dX7_stored_78 : decode cX7_stored 78 = .ok (.bipush 14, 2) := by decide +kernel
theorem dX7_stored_80 : decode cX7_stored 80 = .ok (.iload_n 1, 1) := by decide +kernel
theorem dX7_stored_81 : decode cX7_stored 81 = .ok (.iadd, 1) := by decide +kernel
theorem dX7_stored_82 : decode cX7_stored 82 = .ok (.iaload, 1) := by decide +kernel
theorem dX7_stored_83 : decode cX7_stored 83 = .ok (.iadd, 1) := by decide +kernel
theorem dX7_stored_84 : decode cX7_stored 84 = .ok (.aload_n 0, 1) := by decide +kernel
theorem dX7_stored_85 : decode cX7_stored 85 = .ok (.getfield 67, 3) := by decide +kernel
theorem dX7_stored_88 : decode cX7_stored 88 = .ok (.iload_n 1, 1) := by decide +kernel
theorem dX7_stored_89 : decode cX7_stored 89 = .ok (.iaload, 1) := by decide +kernel
theorem dX7_stored_90 : decode cX7_stored 90 = .ok (.isub, 1) := by decide +kernel
theorem dX7_stored_91 : decode cX7_stored 91 = .ok (.aload_n 0, 1) := by decide +kernel
theorem dX7_stored_92 : decode cX7_stored 92 = .ok (.getfield 70, 3) := by decide +kernel
theorem dX7_stored_95 : decode cX7_stored 95 = .ok (.iload_n 1, 1) := by decide +kernel
theorem dX7_stored_96 : decode cX7_stored 96 = .ok (.iaload, 1) := by decide +kernel
theorem dX7_stored_97 : decode cX7_stored 97 = .ok (.isub, 1) := by decide +kernel
theorem dX7_stored_98 : decode cX7_stored 98 = .ok (.ireturn, 1) := by decide +kernel
theorem dX7_stored_99 : decode cX7_stored 99 = .ok (.iconst (-1), 1) := by decide +kernel
theorem dX7_stored_100 : decode cX7_stored 100 = .ok (.ireturn, 1) := by decide +kernel
theorem dX7_calls_0 : decode cX7_calls 0 = .ok (.iload_n 1, 1) := by decide +kernel
theorem dX7_calls_1 : decode cX7_calls 1 = .ok (.i2l, 1) := by decide +kernel
theorem dX7_calls_2 : decode cX7_calls 2 = .ok (.lconst 0, 1) := by decide +kernel
theorem dX7_calls_3 : decode cX7_calls 3 = .ok (.lconst 1, 1) := by decide +kernel
theorem dX7_calls_4 : decode cX7_calls 4 = .ok (.invokestatic 96, 3) := by decide +kernel
theorem dX7_calls_7 : decode cX7_calls 7 = .ok (.ifCond .ne 5, 3) := by decide +kernel
theorem dX7_calls_10 : decode cX7_calls 10 = .ok (.iconst (-1), 1) := by decide +kernel
theorem dX7_calls_11 : decode cX7_calls 11 = .ok (.ireturn, 1) := by decide +kernel
theorem dX7_calls_12 : decode cX7_calls 12 = .ok (.aload_n 0, 1) := by decide +kernel
theorem dX7_calls_13 : decode cX7_calls 13 = .ok (.invokevirtual 202, 3) := by decide +kernel
theorem dX7_calls_16 : decode cX7_calls 16 = .ok (.iconst 0, 1) := by decide +kernel
theorem dX7_calls_17 : decode cX7_calls 17 = .ok (.istore_n 2, 1) := by decide +kernel
theorem dX7_calls_18 : decode cX7_calls 18 = .ok (.iconst 0, 1) := by decide +kernel
theorem dX7_calls_19 : decode cX7_calls 19 = .ok (.istore_n 3, 1) := by decide +kernel
theorem dX7_calls_20 : decode cX7_calls 20 = .ok (.iload_n 3, 1) := by decide +kernel
theorem dX7_calls_21 : decode cX7_calls 21 = .ok (.aload_n 0, 1) := by decide +kernel
theorem dX7_calls_22 : decode cX7_calls 22 = .ok (.invokevirtual 100, 3) := by decide +kernel
theorem dX7_calls_25 : decode cX7_calls 25 = .ok (.if_icmp .ge 88, 3) := by decide +kernel
theorem dX7_calls_28 : decode cX7_calls 28 = .ok (.iload_n 1, 1) := by decide +kernel
theorem dX7_calls_29 : decode cX7_calls 29 = .ok (.ifCond .ne 15, 3) := by decide +kernel
theorem dX7_calls_32 : decode cX7_calls 32 = .ok (.aload_n 0, 1) := by decide +kernel
theorem dX7_calls_33 : decode cX7_calls 33 = .ok (.iload_n 3, 1) := by decide +kernel
theorem dX7_calls_34 : decode cX7_calls 34 = .ok (.invokevirtual 199, 3) := by decide +kernel
theorem dX7_calls_37 : decode cX7_calls 37 = .ok (.ifCond .eq 7, 3) := by decide +kernel
theorem dX7_calls_40 : decode cX7_calls 40 = .ok (.iconst 1, 1) := by decide +kernel
theorem dX7_calls_41 : decode cX7_calls 41 = .ok (.goto 4, 3) := by decide +kernel
theorem dX7_calls_44 : decode cX7_calls 44 = .ok (.iconst 0, 1) := by decide +kernel
theorem dX7_calls_45 : decode cX7_calls 45 = .ok (.istore 4, 2) := by decide +kernel
theorem dX7_calls_47 : decode cX7_calls 47 = .ok (.iconst 0, 1) := by decide +kernel
theorem dX7_calls_48 : decode cX7_calls 48 = .ok (.istore 5, 2) := by decide +kernel
theorem dX7_calls_50 : decode cX7_calls 50 = .ok (.iload 5, 2) := by decide +kernel
theorem dX7_calls_52 : decode cX7_calls 52 = .ok (.aload_n 0, 1) := by decide +kernel
theorem dX7_calls_53 : decode cX7_calls 53 = .ok (.invokevirtual 100, 3) := by decide +kernel
theorem dX7_calls_56 : decode cX7_calls 56 = .ok (.if_icmp .ge 36, 3) := by decide +kernel
theorem dX7_calls_59 : decode cX7_calls 59 = .ok (.iload_n 1, 1) := by decide +kernel
theorem dX7_calls_60 : decode cX7_calls 60 = .ok (.iconst 1, 1) := by decide +kernel
theorem dX7_calls_61 : decode cX7_calls 61 = .ok (.if_icmp .ne 31, 3) := by decide +kernel
theorem dX7_calls_64 : decode cX7_calls 64 = .ok (.iload 4, 2) := by decide +kernel
theorem dX7_calls_66 : decode cX7_calls 66 = .ok (.ifCond .ne 13, 3) := by decide +kernel
theorem dX7_calls_69 : decode cX7_calls 69 = .ok (.aload_n 0, 1) := by decide +kernel
theorem dX7_calls_70 : decode cX7_calls 70 = .ok (.iload_n 3, 1) := by decide +kernel
theorem dX7_calls_71 : decode cX7_calls 71 = .ok (.iload 5, 2) := by decide +kernel
theorem dX7_calls_73 : decode cX7_calls 73 = .ok (.invokevirtual 248, 3) := by decide +kernel
theorem dX7_calls_76 : decode cX7_calls 76 = .ok (.ifCond .eq 7, 3) := by decide +kernel
theorem dX7_calls_79 : decode cX7_calls 79 = .ok (.iconst 1, 1) := by decide +kernel
theorem dX7_calls_80 : decode cX7_calls 80 = .ok (.goto 4, 3) := by decide +kernel
theorem dX7_calls_83 : decode cX7_calls 83 = .ok (.iconst 0, 1) := by decide +kernel
theorem dX7_calls_84 : decode cX7_calls 84 = .ok (.istore 4, 2) := by decide +kernel
theorem dX7_calls_86 : decode cX7_calls 86 = .ok (.iinc 5 1, 3) := by decide +kernel
theorem dX7_calls_89 : decode cX7_calls 89 = .ok (.goto (-39), 3) := by decide +kernel
theorem dX7_calls_92 : decode cX7_calls 92 = .ok (.iload_n 2, 1) := by decide +kernel
theorem dX7_calls_93 : decode cX7_calls 93 = .ok (.iload 4, 2) := by decide +kernel
theorem dX7_calls_95 : decode cX7_calls 95 = .ok (.ifCond .eq 9, 3) := by decide +kernel
theorem dX7_calls_98 : decode cX7_calls 98 = .ok (.iconst 1, 1) := by decide +kernel
theorem dX7_calls_99 : decode cX7_calls 99 = .ok (.iload_n 3, 1) := by decide +kernel
theorem dX7_calls_100 : decode cX7_calls 100 = .ok (.ishl, 1) := by decide +kernel
theorem dX7_calls_101 : decode cX7_calls 101 = .ok (.goto 4, 3) := by decide +kernel
theorem dX7_calls_104 : decode cX7_calls 104 = .ok (.iconst 0, 1) := by decide +kernel
theorem dX7_calls_105 : decode cX7_calls 105 = .ok (.ior, 1) := by decide +kernel
theorem dX7_calls_106 : decode cX7_calls 106 = .ok (.istore_n 2, 1) := by decide +kernel
theorem dX7_calls_107 : decode cX7_calls 107 = .ok (.iinc 3 1, 3) := by decide +kernel
theorem dX7_calls_110 : decode cX7_calls 110 = .ok (.goto (-90), 3) := by decide +kernel
theorem dX7_calls_113 : decode cX7_calls 113 = .ok (.iload_n 2, 1) := by decide +kernel
theorem dX7_calls_114 : decode cX7_calls 114 = .ok (.ireturn, 1) := by decide +kernel
theorem dX7_futile_0 : decode cX7_futile 0 = .ok (.aload_n 0, 1) := by decide +kernel
theorem dX7_futile_1 : decode cX7_futile 1 = .ok (.iload_n 1, 1) := by decide +kernel
theorem dX7_futile_2 : decode cX7_futile 2 = .ok (.invokevirtual 229, 3) := by decide +kernel
theorem dX7_futile_5 : decode cX7_futile 5 = .ok (.ifCond .eq 16, 3) := by decide +kernel
theorem dX7_futile_8 : decode cX7_futile 8 = .ok (.aload_n 0, 1) := by decide +kernel
theorem dX7_futile_9 : decode cX7_futile 9 = .ok (.iload_n 2, 1) := by decide +kernel
theorem dX7_futile_10 : decode cX7_futile 10 = .ok (.invokevirtual 229, 3) := by decide +kernel
theorem dX7_futile_13 : decode cX7_futile 13 = .ok (.ifCond .eq 8, 3) := by decide +kernel
theorem dX7_futile_16 : decode cX7_futile 16 = .ok (.iload_n 1, 1) := by decide +kernel
theorem dX7_futile_17 : decode cX7_futile 17 = .ok (.iload_n 2, 1) := by decide +kernel
theorem dX7_futile_18 : decode cX7_futile 18 = .ok (.if_icmp .ne 5, 3) := by decide +kernel
theorem dX7_futile_21 : decode cX7_futile 21 = .ok (.iconst (-1), 1) := by decide +kernel
theorem dX7_futile_22 : decode cX7_futile 22 = .ok (.ireturn, 1) := by decide +kernel
theorem dX7_futile_23 : decode cX7_futile 23 = .ok (.aload_n 0, 1) := by decide +kernel
theorem dX7_futile_24 : decode cX7_futile 24 = .ok (.invokevirtual 202, 3) := by decide +kernel
theorem dX7_futile_27 : decode cX7_futile 27 = .ok (.aload_n 0, 1) := by decide +kernel
theorem dX7_futile_28 : decode cX7_futile 28 = .ok (.iload_n 1, 1) := by decide +kernel
theorem dX7_futile_29 : decode cX7_futile 29 = .ok (.iload_n 2, 1) := by decide +kernel
theorem dX7_futile_30 : decode cX7_futile 30 = .ok (.invokevirtual 248, 3) := by decide +kernel
theorem dX7_futile_33 : decode cX7_futile 33 = .ok (.ifCond .eq 7, 3) := by decide +kernel
theorem dX7_futile_36 : decode cX7_futile 36 = .ok (.iconst 1, 1) := by decide +kernel
theorem dX7_futile_37 : decode cX7_futile 37 = .ok (.goto 4, 3) := by decide +kernel
theorem dX7_futile_40 : decode cX7_futile 40 = .ok (.iconst 0, 1) := by decide +kernel
theorem dX7_futile_41 : decode cX7_futile 41 = .ok (.ireturn, 1) := by decide +kernel
theorem dX7_shut_0 : decode cX7_shut 0 = .ok (.aload_n 0, 1) := by decide +kernel
theorem dX7_shut_1 : decode cX7_shut 1 = .ok (.iload_n 1, 1) := by decide +kernel
theorem dX7_shut_2 : decode cX7_shut 2 = .ok (.invokevirtual 229, 3) := by decide +kernel
theorem dX7_shut_5 : decode cX7_shut 5 = .ok (.ifCond .eq 23, 3) := by decide +kernel
theorem dX7_shut_8 : decode cX7_shut 8 = .ok (.aload_n 0, 1) := by decide +kernel
theorem dX7_shut_9 : decode cX7_shut 9 = .ok (.iload_n 1, 1) := by decide +kernel
theorem dX7_shut_10 : decode cX7_shut 10 = .ok (.aload_n 0, 1) := by decide +kernel
theorem dX7_shut_11 : decode cX7_shut 11 = .ok (.iload_n 1, 1) := by decide +kernel
theorem dX7_shut_12 : decode cX7_shut 12 = .ok (.invokevirtual 239, 3) := by decide +kernel
theorem dX7_shut_15 : decode cX7_shut 15 = .ok (.invokevirtual 242, 3) := by decide +kernel
theorem dX7_shut_18 : decode cX7_shut 18 = .ok (.aload_n 0, 1) := by decide +kernel
theorem dX7_shut_19 : decode cX7_shut 19 = .ok (.iload_n 1, 1) := by decide +kernel
theorem dX7_shut_20 : decode cX7_shut 20 = .ok (.iconst 0, 1) := by decide +kernel
theorem dX7_shut_21 : decode cX7_shut 21 = .ok (.invokevirtual 242, 3) := by decide +kernel
theorem dX7_shut_24 : decode cX7_shut 24 = .ok (.isub, 1) := by decide +kernel
theorem dX7_shut_25 : decode cX7_shut 25 = .ok (.goto 4, 3) := by decide +kernel
theorem dX7_shut_28 : decode cX7_shut 28 = .ok (.iconst (-1), 1) := by decide +kernel
theorem dX7_shut_29 : decode cX7_shut 29 = .ok (.ireturn, 1) := by decide +kernel
theorem dX7_caller_0 : decode cX7_caller 0 = .ok (.aload_n 0, 1) := by decide +kernel
theorem dX7_caller_1 : decode cX7_caller 1 = .ok (.iload_n 1, 1) := by decide +kernel
theorem dX7_caller_2 : decode cX7_caller 2 = .ok (.invokevirtual 229, 3) := by decide +kernel
theorem dX7_caller_5 : decode cX7_caller 5 = .ok (.ifCond .ne 5, 3) := by decide +kernel
theorem dX7_caller_8 : decode cX7_caller 8 = .ok (.iconst (-1), 1) := by decide +kernel
theorem dX7_caller_9 : decode cX7_caller 9 = .ok (.ireturn, 1) := by decide +kernel
theorem dX7_caller_10 : decode cX7_caller 10 = .ok (.aload_n 0, 1) := by decide +kernel
theorem dX7_caller_11 : decode cX7_caller 11 = .ok (.iload_n 1, 1) := by decide +kernel
theorem dX7_caller_12 : decode cX7_caller 12 = .ok (.iconst 0, 1) := by decide +kernel
theorem dX7_caller_13 : decode cX7_caller 13 = .ok (.invokevirtual 242, 3) := by decide +kernel
theorem dX7_caller_16 : decode cX7_caller 16 = .ok (.istore_n 2, 1) := by decide +kernel
theorem dX7_caller_17 : decode cX7_caller 17 = .ok (.aload_n 0, 1) := by decide +kernel
theorem dX7_caller_18 : decode cX7_caller 18 = .ok (.iload_n 1, 1) := by decide +kernel
theorem dX7_caller_19 : decode cX7_caller 19 = .ok (.invokevirtual 239, 3) := by decide +kernel
theorem dX7_caller_22 : decode cX7_caller 22 = .ok (.istore_n 3, 1) := by decide +kernel
theorem dX7_caller_23 : decode cX7_caller 23 = .ok (.iconst (-1), 1) := by decide +kernel
theorem dX7_caller_24 : decode cX7_caller 24 = .ok (.istore 4, 2) := by decide +kernel
theorem dX7_caller_26 : decode cX7_caller 26 = .ok (.iconst 0, 1) := by decide +kernel
theorem dX7_caller_27 : decode cX7_caller 27 = .ok (.istore 5, 2) := by decide +kernel
theorem dX7_caller_29 : decode cX7_caller 29 = .ok (.iload 5, 2) := by decide +kernel
theorem dX7_caller_31 : decode cX7_caller 31 = .ok (.bipush 18, 2) := by decide +kernel
theorem dX7_caller_33 : decode cX7_caller 33 = .ok (.if_icmp .ge 59, 3) := by decide +kernel
theorem dX7_caller_36 : decode cX7_caller 36 = .ok (.iload_n 3, 1) := by decide +kernel
theorem dX7_caller_37 : decode cX7_caller 37 = .ok (.iload 5, 2) := by decide +kernel
theorem dX7_caller_39 : decode cX7_caller 39 = .ok (.invokestatic 156, 3) := by decide +kernel
theorem dX7_caller_42 : decode cX7_caller 42 = .ok (.ifCond .eq 44, 3) := by decide +kernel
theorem dX7_caller_45 : decode cX7_caller 45 = .ok (.iload 4, 2) := by decide +kernel
theorem dX7_caller_47 : decode cX7_caller 47 = .ok (.iconst (-1), 1) := by decide +kernel
theorem dX7_caller_48 : decode cX7_caller 48 = .ok (.if_icmp .eq 21, 3) := by decide +kernel
theorem dX7_caller_51 : decode cX7_caller 51 = .ok (.aload_n 0, 1) := by decide +kernel
theorem dX7_caller_52 : decode cX7_caller 52 = .ok (.iload 5, 2) := by decide +kernel
theorem dX7_caller_54 : decode cX7_caller 54 = .ok (.invokevirtual 129, 3) := by decide +kernel
theorem dX7_caller_57 : decode cX7_caller 57 = .ok (.aload_n 0, 1) := by decide +kernel
theorem dX7_caller_58 : decode cX7_caller 58 = .ok (.iload 4, 2) := by decide +kernel
theorem dX7_caller_60 : decode cX7_caller 60 = .ok (.invokevirtual 129, 3) := by decide +kernel
theorem dX7_caller_63 : decode cX7_caller 63 = .ok (.if_icmp .le 6, 3) := by decide +kernel
theorem dX7_caller_66 : decode cX7_caller 66 = .ok (.goto 20, 3) := by decide +kernel
theorem dX7_caller_69 : decode cX7_caller 69 = .ok (.aload_n 0, 1) := by decide +kernel
theorem dX7_caller_70 : decode cX7_caller 70 = .ok (.iload_n 1, 1) := by decide +kernel
theorem dX7_caller_71 : decode cX7_caller 71 = .ok (.iconst 1, 1) := by decide +kernel
theorem dX7_caller_72 : decode cX7_caller 72 = .ok (.iload 5, 2) := by decide +kernel
theorem dX7_caller_74 : decode cX7_caller 74 = .ok (.ishl, 1) := by decide +kernel
theorem dX7_caller_75 : decode cX7_caller 75 = .ok (.invokevirtual 242, 3) := by decide +kernel
theorem dX7_caller_78 : decode cX7_caller 78 = .ok (.iload_n 2, 1) := by decide +kernel
theorem dX7_caller_79 : decode cX7_caller 79 = .ok (.if_icmp .le 7, 3) := by decide +kernel
theorem dX7_caller_82 : decode cX7_caller 82 = .ok (.iload 5, 2) := by decide +kernel
theorem dX7_caller_84 : decode cX7_caller 84 = .ok (.istore 4, 2) := by decide +kernel
theorem dX7_caller_86 : decode cX7_caller 86 = .ok (.iinc 5 1, 3) := by decide +kernel
theorem dX7_caller_89 : decode cX7_caller 89 = .ok (.goto (-60), 3) := by decide +kernel
theorem dX7_caller_92 : decode cX7_caller 92 = .ok (.iload 4, 2) := by decide +kernel
theorem dX7_caller_94 : decode cX7_caller 94 = .ok (.iconst (-1), 1) := by decide +kernel
theorem dX7_caller_95 : decode cX7_caller 95 = .ok (.if_icmp .ne 8, 3) := by decide +kernel
theorem dX7_caller_98 : decode cX7_caller 98 = .ok (.bipush (-2), 2) := by decide +kernel
theorem dX7_caller_100 : decode cX7_caller 100 = .ok (.goto 8, 3) := by decide +kernel
theorem dX7_caller_103 : decode cX7_caller 103 = .ok (.iload 4, 2) := by decide +kernel
theorem dX7_caller_105 : decode cX7_caller 105 = .ok (.invokestatic 245, 3) := by decide +kernel
theorem dX7_caller_108 : decode cX7_caller 108 = .ok (.ireturn, 1) := by decide +kernel
theorem dX7_aged_0 : decode cX7_aged 0 = .ok (.iload_n 1, 1) := by decide +kernel
theorem dX7_aged_1 : decode cX7_aged 1 = .ok (.iconst (-1), 1) := by decide +kernel
theorem dX7_aged_2 : decode cX7_aged 2 = .ok (.if_icmp .ge 5, 3) := by decide +kernel
theorem dX7_aged_5 : decode cX7_aged 5 = .ok (.iconst (-1), 1) := by decide +kernel
theorem dX7_aged_6 : decode cX7_aged 6 = .ok (.ireturn, 1) := by decide +kernel
theorem dX7_aged_7 : decode cX7_aged 7 = .ok (.aload_n 0, 1) := by decide +kernel
theorem dX7_aged_8 : decode cX7_aged 8 = .ok (.invokevirtual 153, 3) := by decide +kernel
theorem dX7_aged_11 : decode cX7_aged 11 = .ok (.iload_n 1, 1) := by decide +kernel
theorem dX7_aged_12 : decode cX7_aged 12 = .ok (.iconst (-1), 1) := by decide +kernel
theorem dX7_aged_13 : decode cX7_aged 13 = .ok (.if_icmp .ne 10, 3) := by decide +kernel
theorem dX7_aged_16 : decode cX7_aged 16 = .ok (.aload_n 0, 1) := by decide +kernel
theorem dX7_aged_17 : decode cX7_aged 17 = .ok (.getfield 122, 3) := by decide +kernel
theorem dX7_aged_20 : decode cX7_aged 20 = .ok (.goto 25, 3) := by decide +kernel
theorem dX7_aged_23 : decode cX7_aged 23 = .ok (.iload_n 1, 1) := by decide +kernel
theorem dX7_aged_24 : decode cX7_aged 24 = .ok (.aload_n 0, 1) := by decide +kernel
theorem dX7_aged_25 : decode cX7_aged 25 = .ok (.getfield 122, 3) := by decide +kernel
theorem dX7_aged_28 : decode cX7_aged 28 = .ok (.if_icmp .ge 15, 3) := by decide +kernel
theorem dX7_aged_31 : decode cX7_aged 31 = .ok (.aload_n 0, 1) := by decide +kernel
theorem dX7_aged_32 : decode cX7_aged 32 = .ok (.getfield 39, 3) := by decide +kernel
theorem dX7_aged_35 : decode cX7_aged 35 = .ok (.iload_n 1, 1) := by decide +kernel
theorem dX7_aged_36 : decode cX7_aged 36 = .ok (.iaload, 1) := by decide +kernel
theorem dX7_aged_37 : decode cX7_aged 37 = .ok (.invokestatic 245, 3) := by decide +kernel
theorem dX7_aged_40 : decode cX7_aged 40 = .ok (.goto 5, 3) := by decide +kernel
theorem dX7_aged_43 : decode cX7_aged 43 = .ok (.bipush (-2), 2) := by decide +kernel
theorem dX7_aged_45 : decode cX7_aged 45 = .ok (.ireturn, 1) := by decide +kernel
theorem dX7_gone_0 : decode cX7_gone 0 = .ok (.iload_n 1, 1) := by decide +kernel
theorem dX7_gone_1 : decode cX7_gone 1 = .ok (.tableswitch 99 0 7 #[47, 54, 61, 68, 75, 82, 87, 92], 47) := by decide +kernel
theorem dX7_gone_48 : decode cX7_gone 48 = .ok (.aload_n 0, 1) := by decide +kernel
theorem dX7_gone_49 : decode cX7_gone 49 = .ok (.getfield 13, 3) := by decide +kernel
theorem dX7_gone_52 : decode cX7_gone 52 = .ok (.iconst 0, 1) := by decide +kernel
theorem dX7_gone_53 : decode cX7_gone 53 = .ok (.laload, 1) := by decide +kernel
theorem dX7_gone_54 : decode cX7_gone 54 = .ok (.lreturn, 1) := by decide +kernel
theorem dX7_gone_55 : decode cX7_gone 55 = .ok (.aload_n 0, 1) := by decide +kernel
theorem dX7_gone_56 : decode cX7_gone 56 = .ok (.getfield 13, 3) := by decide +kernel
theorem dX7_gone_59 : decode cX7_gone 59 = .ok (.iconst 1, 1) := by decide +kernel
theorem dX7_gone_60 : decode cX7_gone 60 = .ok (.laload, 1) := by decide +kernel
theorem dX7_gone_61 : decode cX7_gone 61 = .ok (.lreturn, 1) := by decide +kernel
theorem dX7_gone_62 : decode cX7_gone 62 = .ok (.aload_n 0, 1) := by decide +kernel
theorem dX7_gone_63 : decode cX7_gone 63 = .ok (.getfield 13, 3) := by decide +kernel
theorem dX7_gone_66 : decode cX7_gone 66 = .ok (.iconst 2, 1) := by decide +kernel
theorem dX7_gone_67 : decode cX7_gone 67 = .ok (.laload, 1) := by decide +kernel
theorem dX7_gone_68 : decode cX7_gone 68 = .ok (.lreturn, 1) := by decide +kernel
theorem dX7_gone_69 : decode cX7_gone 69 = .ok (.aload_n 0, 1) := by decide +kernel
theorem dX7_gone_70 : decode cX7_gone 70 = .ok (.getfield 13, 3) := by decide +kernel
theorem dX7_gone_73 : decode cX7_gone 73 = .ok (.iconst 3, 1) := by decide +kernel
theorem dX7_gone_74 : decode cX7_gone 74 = .ok (.laload, 1) := by decide +kernel
theorem dX7_gone_75 : decode cX7_gone 75 = .ok (.lreturn, 1) := by decide +kernel
theorem dX7_gone_76 : decode cX7_gone 76 = .ok (.aload_n 0, 1) := by decide +kernel
theorem dX7_gone_77 : decode cX7_gone 77 = .ok (.getfield 13, 3) := by decide +kernel
theorem dX7_gone_80 : decode cX7_gone 80 = .ok (.iconst 4, 1) := by decide +kernel
theorem dX7_gone_81 : decode cX7_gone 81 = .ok (.laload, 1) := by decide +kernel
theorem dX7_gone_82 : decode cX7_gone 82 = .ok (.lreturn, 1) := by decide +kernel
theorem dX7_gone_83 : decode cX7_gone 83 = .ok (.aload_n 0, 1) := by decide +kernel
theorem dX7_gone_84 : decode cX7_gone 84 = .ok (.invokevirtual 275, 3) := by decide +kernel
theorem dX7_gone_87 : decode cX7_gone 87 = .ok (.lreturn, 1) := by decide +kernel
theorem dX7_gone_88 : decode cX7_gone 88 = .ok (.aload_n 0, 1) := by decide +kernel
theorem dX7_gone_89 : decode cX7_gone 89 = .ok (.invokevirtual 279, 3) := by decide +kernel
theorem dX7_gone_92 : decode cX7_gone 92 = .ok (.lreturn, 1) := by decide +kernel
theorem dX7_gone_93 : decode cX7_gone 93 = .ok (.aload_n 0, 1) := by decide +kernel
theorem dX7_gone_94 : decode cX7_gone 94 = .ok (.getfield 13, 3) := by decide +kernel
theorem dX7_gone_97 : decode cX7_gone 97 = .ok (.iconst 5, 1) := by decide +kernel
theorem dX7_gone_98 : decode cX7_gone 98 = .ok (.laload, 1) := by decide +kernel
theorem dX7_gone_99 : decode cX7_gone 99 = .ok (.lreturn, 1) := by decide +kernel
theorem dX7_gone_100 : decode cX7_gone 100 = .ok (.ldc2_w 282, 3) := by decide +kernel
theorem dX7_gone_103 : decode cX7_gone 103 = .ok (.lreturn, 1) := by decide +kernel
theorem dX7_count_0 : decode cX7_count 0 = .ok (.iload_n 1, 1) := by decide +kernel
theorem dX7_count_1 : decode cX7_count 1 = .ok (.tableswitch 134 0 9 #[55, 60, 65, 70, 77, 84, 89, 94, 124, 129], 55) := by decide +kernel
theorem dX7_count_56 : decode cX7_count 56 = .ok (.aload_n 0, 1) := by decide +kernel
theorem dX7_count_57 : decode cX7_count 57 = .ok (.invokevirtual 92, 3) := by decide +kernel
theorem dX7_count_60 : decode cX7_count 60 = .ok (.ireturn, 1) := by decide +kernel
theorem dX7_count_61 : decode cX7_count 61 = .ok (.aload_n 0, 1) := by decide +kernel
theorem dX7_count_62 : decode cX7_count 62 = .ok (.invokevirtual 100, 3) := by decide +kernel
theorem dX7_count_65 : decode cX7_count 65 = .ok (.ireturn, 1) := by decide +kernel
theorem dX7_count_66 : decode cX7_count 66 = .ok (.aload_n 0, 1) := by decide +kernel
theorem dX7_count_67 : decode cX7_count 67 = .ok (.invokevirtual 103, 3) := by decide +kernel
theorem dX7_count_70 : decode cX7_count 70 = .ok (.ireturn, 1) := by decide +kernel
theorem dX7_count_71 : decode cX7_count 71 = .ok (.aload_n 0, 1) := by decide +kernel
theorem dX7_count_72 : decode cX7_count 72 = .ok (.getfield 7, 3) := by decide +kernel
theorem dX7_count_75 : decode cX7_count 75 = .ok (.iconst 3, 1) := by decide +kernel
theorem dX7_count_76 : decode cX7_count 76 = .ok (.iaload, 1) := by decide +kernel
theorem dX7_count_77 : decode cX7_count 77 = .ok (.ireturn, 1) := by decide +kernel
theorem dX7_count_78 : decode cX7_count 78 = .ok (.aload_n 0, 1) := by decide +kernel
theorem dX7_count_79 : decode cX7_count 79 = .ok (.getfield 7, 3) := by decide +kernel
theorem dX7_count_82 : decode cX7_count 82 = .ok (.iconst 4, 1) := by decide +kernel
theorem dX7_count_83 : decode cX7_count 83 = .ok (.iaload, 1) := by decide +kernel
theorem dX7_count_84 : decode cX7_count 84 = .ok (.ireturn, 1) := by decide +kernel
theorem dX7_count_85 : decode cX7_count 85 = .ok (.aload_n 0, 1) := by decide +kernel
theorem dX7_count_86 : decode cX7_count 86 = .ok (.getfield 289, 3) := by decide +kernel
theorem dX7_count_89 : decode cX7_count 89 = .ok (.ireturn, 1) := by decide +kernel
theorem dX7_count_90 : decode cX7_count 90 = .ok (.aload_n 0, 1) := by decide +kernel
theorem dX7_count_91 : decode cX7_count 91 = .ok (.getfield 292, 3) := by decide +kernel
theorem dX7_count_94 : decode cX7_count 94 = .ok (.ireturn, 1) := by decide +kernel
theorem dX7_count_95 : decode cX7_count 95 = .ok (.aload_n 0, 1) := by decide +kernel
theorem dX7_count_96 : decode cX7_count 96 = .ok (.getfield 29, 3) := by decide +kernel
theorem dX7_count_99 : decode cX7_count 99 = .ok (.iconst 0, 1) := by decide +kernel
theorem dX7_count_100 : decode cX7_count 100 = .ok (.baload, 1) := by decide +kernel
theorem dX7_count_101 : decode cX7_count 101 = .ok (.ifCond .eq 7, 3) := by decide +kernel
theorem dX7_count_104 : decode cX7_count 104 = .ok (.iconst 1, 1) := by decide +kernel
theorem dX7_count_105 : decode cX7_count 105 = .ok (.goto 4, 3) := by decide +kernel
theorem dX7_count_108 : decode cX7_count 108 = .ok (.iconst 0, 1) := by decide +kernel
theorem dX7_count_109 : decode cX7_count 109 = .ok (.aload_n 0, 1) := by decide +kernel
theorem dX7_count_110 : decode cX7_count 110 = .ok (.getfield 29, 3) := by decide +kernel
theorem dX7_count_113 : decode cX7_count 113 = .ok (.iconst 1, 1) := by decide +kernel
theorem dX7_count_114 : decode cX7_count 114 = .ok (.baload, 1) := by decide +kernel
theorem dX7_count_115 : decode cX7_count 115 = .ok (.ifCond .eq 7, 3) := by decide +kernel
theorem dX7_count_118 : decode cX7_count 118 = .ok (.iconst 2, 1) := by decide +kernel
theorem dX7_count_119 : decode cX7_count 119 = .ok (.goto 4, 3) := by decide +kernel
theorem dX7_count_122 : decode cX7_count 122 = .ok (.iconst 0, 1) := by decide +kernel
theorem dX7_count_123 : decode cX7_count 123 = .ok (.iadd, 1) := by decide +kernel
theorem dX7_count_124 : decode cX7_count 124 = .ok (.ireturn, 1) := by decide +kernel
theorem dX7_count_125 : decode cX7_count 125 = .ok (.aload_n 0, 1) := by decide +kernel
theorem dX7_count_126 : decode cX7_count 126 = .ok (.invokevirtual 295, 3) := by decide +kernel
theorem dX7_count_129 : decode cX7_count 129 = .ok (.ireturn, 1) := by decide +kernel
theorem dX7_count_130 : decode cX7_count 130 = .ok (.aload_n 0, 1) := by decide +kernel
theorem dX7_count_131 : decode cX7_count 131 = .ok (.invokevirtual 298, 3) := by decide +kernel
theorem dX7_count_134 : decode cX7_count 134 = .ok (.ireturn, 1) := by decide +kernel
theorem dX7_count_135 : decode cX7_count 135 = .ok (.iconst (-1), 1) := by decide +kernel
theorem dX7_count_136 : decode cX7_count 136 = .ok (.ireturn, 1) := by decide +kernel
theorem dX7_becomes_0 : decode cX7_becomes 0 = .ok (.aload_n 0, 1) := by decide +kernel
theorem dX7_becomes_1 : decode cX7_becomes 1 = .ok (.getfield 7, 3) := by decide +kernel
theorem dX7_becomes_4 : decode cX7_becomes 4 = .ok (.iload_n 1, 1) := by decide +kernel
theorem dX7_becomes_5 : decode cX7_becomes 5 = .ok (.iaload, 1) := by decide +kernel
theorem dX7_becomes_6 : decode cX7_becomes 6 = .ok (.istore_n 3, 1) := by decide +kernel
theorem dX7_becomes_7 : decode cX7_becomes 7 = .ok (.iload_n 3, 1) := by decide +kernel
theorem dX7_becomes_8 : decode cX7_becomes 8 = .ok (.iload_n 2, 1) := by decide +kernel
theorem dX7_becomes_9 : decode cX7_becomes 9 = .ok (.if_icmp .ne 6, 3) := by decide +kernel
theorem dX7_becomes_12 : decode cX7_becomes 12 = .ok (.bipush (-2), 2) := by decide +kernel
theorem dX7_becomes_14 : decode cX7_becomes 14 = .ok (.ireturn, 1) := by decide +kernel
theorem dX7_becomes_15 : decode cX7_becomes 15 = .ok (.aload_n 0, 1) := by decide +kernel
theorem dX7_becomes_16 : decode cX7_becomes 16 = .ok (.invokevirtual 303, 3) := by decide +kernel
theorem dX7_becomes_19 : decode cX7_becomes 19 = .ok (.aload_n 0, 1) := by decide +kernel
theorem dX7_becomes_20 : decode cX7_becomes 20 = .ok (.getfield 7, 3) := by decide +kernel
theorem dX7_becomes_23 : decode cX7_becomes 23 = .ok (.iload_n 1, 1) := by decide +kernel
theorem dX7_becomes_24 : decode cX7_becomes 24 = .ok (.iload_n 2, 1) := by decide +kernel
theorem dX7_becomes_25 : decode cX7_becomes 25 = .ok (.iastore, 1) := by decide +kernel
theorem dX7_becomes_26 : decode cX7_becomes 26 = .ok (.iload_n 3, 1) := by decide +kernel
theorem dX7_becomes_27 : decode cX7_becomes 27 = .ok (.ireturn, 1) := by decide +kernel
theorem dX7_wet_0 : decode cX7_wet 0 = .ok (.iload_n 1, 1) := by decide +kernel
theorem dX7_wet_1 : decode cX7_wet 1 = .ok (.i2l, 1) := by decide +kernel
theorem dX7_wet_2 : decode cX7_wet 2 = .ok (.lconst 0, 1) := by decide +kernel
theorem dX7_wet_3 : decode cX7_wet 3 = .ok (.ldc2_w 306, 3) := by decide +kernel
theorem dX7_wet_6 : decode cX7_wet 6 = .ok (.invokestatic 96, 3) := by decide +kernel
theorem dX7_wet_9 : decode cX7_wet 9 = .ok (.ifCond .eq 12, 3) := by decide +kernel
theorem dX7_wet_12 : decode cX7_wet 12 = .ok (.aload_n 0, 1) := by decide +kernel
theorem dX7_wet_13 : decode cX7_wet 13 = .ok (.iconst 4, 1) := by decide +kernel
theorem dX7_wet_14 : decode cX7_wet 14 = .ok (.iload_n 1, 1) := by decide +kernel
theorem dX7_wet_15 : decode cX7_wet 15 = .ok (.invokevirtual 308, 3) := by decide +kernel
theorem dX7_wet_18 : decode cX7_wet 18 = .ok (.goto 4, 3) := by decide +kernel
theorem dX7_wet_21 : decode cX7_wet 21 = .ok (.iconst (-1), 1) := by decide +kernel
theorem dX7_wet_22 : decode cX7_wet 22 = .ok (.ireturn, 1) := by decide +kernel
theorem dX7_demand_0 : decode cX7_demand 0 = .ok (.aload_n 0, 1) := by decide +kernel
theorem dX7_demand_1 : decode cX7_demand 1 = .ok (.iload_n 1, 1) := by decide +kernel
theorem dX7_demand_2 : decode cX7_demand 2 = .ok (.invokevirtual 229, 3) := by decide +kernel
theorem dX7_demand_5 : decode cX7_demand 5 = .ok (.ifCond .eq 37, 3) := by decide +kernel
theorem dX7_demand_8 : decode cX7_demand 8 = .ok (.iload_n 2, 1) := by decide +kernel
theorem dX7_demand_9 : decode cX7_demand 9 = .ok (.i2l, 1) := by decide +kernel
theorem dX7_demand_10 : decode cX7_demand 10 = .ok (.lconst 0, 1) := by decide +kernel
theorem dX7_demand_11 : decode cX7_demand 11 = .ok (.aload_n 0, 1) := by decide +kernel
theorem dX7_demand_12 : decode cX7_demand 12 = .ok (.iload_n 1, 1) := by decide +kernel
theorem dX7_demand_13 : decode cX7_demand 13 = .ok (.iconst 1, 1) := by decide +kernel
theorem dX7_demand_14 : decode cX7_demand 14 = .ok (.invokevirtual 113, 3) := by decide +kernel
theorem dX7_demand_17 : decode cX7_demand 17 = .ok (.i2l, 1) := by decide +kernel
theorem dX7_demand_18 : decode cX7_demand 18 = .ok (.invokestatic 96, 3) := by decide +kernel
theorem dX7_demand_21 : decode cX7_demand 21 = .ok (.ifCond .eq 21, 3) := by decide +kernel
theorem dX7_demand_24 : decode cX7_demand 24 = .ok (.aload_n 0, 1) := by decide +kernel
theorem dX7_demand_25 : decode cX7_demand 25 = .ok (.bipush 78, 2) := by decide +kernel
theorem dX7_demand_27 : decode cX7_demand 27 = .ok (.bipush 13, 2) := by decide +kernel
theorem dX7_demand_29 : decode cX7_demand 29 = .ok (.iload_n 1, 1) := by decide +kernel
theorem dX7_demand_30 : decode cX7_demand 30 = .ok (.imul, 1) := by decide +kernel
theorem dX7_demand_31 : decode cX7_demand 31 = .ok (.iadd, 1) := by decide +kernel
theorem dX7_demand_32 : decode cX7_demand 32 = .ok (.bipush 10, 2) := by decide +kernel
theorem dX7_demand_34 : decode cX7_demand 34 = .ok (.iadd, 1) := by decide +kernel
theorem dX7_demand_35 : decode cX7_demand 35 = .ok (.iload_n 2, 1) := by decide +kernel
theorem dX7_demand_36 : decode cX7_demand 36 = .ok (.invokevirtual 308, 3) := by decide +kernel
theorem dX7_demand_39 : decode cX7_demand 39 = .ok (.goto 4, 3) := by decide +kernel
theorem dX7_demand_42 : decode cX7_demand 42 = .ok (.iconst (-1), 1) := by decide +kernel
theorem dX7_demand_43 : decode cX7_demand 43 = .ok (.ireturn, 1) := by decide +kernel
theorem dX7_orders__0 : decode cX7_orders_ 0 = .ok (.sipush 260, 3) := by decide +kernel
theorem dX7_orders__3 : decode cX7_orders_ 3 = .ok (.bipush 7, 2) := by decide +kernel
theorem dX7_orders__5 : decode cX7_orders_ 5 = .ok (.iload_n 1, 1) := by decide +kernel
theorem dX7_orders__6 : decode cX7_orders_ 6 = .ok (.imul, 1) := by decide +kernel
theorem dX7_orders__7 : decode cX7_orders_ 7 = .ok (.iadd, 1) := by decide +kernel
theorem dX7_orders__8 : decode cX7_orders_ 8 = .ok (.istore 4, 2) := by decide +kernel
theorem dX7_orders__10 : decode cX7_orders_ 10 = .ok (.aload_n 0, 1) := by decide +kernel
theorem dX7_orders__11 : decode cX7_orders_ 11 = .ok (.getfield 7, 3) := by decide +kernel
theorem dX7_orders__14 : decode cX7_orders_ 14 = .ok (.iload 4, 2) := by decide +kernel
theorem dX7_orders__16 : decode cX7_orders_ 16 = .ok (.iconst 5, 1) := by decide +kernel
theorem dX7_orders__17 : decode cX7_orders_ 17 = .ok (.iadd, 1) := by decide +kernel
theorem dX7_orders__18 : decode cX7_orders_ 18 = .ok (.iaload, 1) := by decide +kernel
theorem dX7_orders__19 : decode cX7_orders_ 19 = .ok (.iload_n 2, 1) := by decide +kernel
theorem dX7_orders__20 : decode cX7_orders_ 20 = .ok (.if_icmp .ne 20, 3) := by decide +kernel
theorem dX7_orders__23 : decode cX7_orders_ 23 = .ok (.aload_n 0, 1) := by decide +kernel
theorem dX7_orders__24 : decode cX7_orders_ 24 = .ok (.getfield 7, 3) := by decide +kernel
theorem dX7_orders__27 : decode cX7_orders_ 27 = .ok (.iload 4, 2) := by decide +kernel
theorem dX7_orders__29 : decode cX7_orders_ 29 = .ok (.bipush 6, 2) := by decide +kernel
theorem dX7_orders__31 : decode cX7_orders_ 31 = .ok (.iadd, 1) := by decide +kernel
theorem dX7_orders__32 : decode cX7_orders_ 32 = .ok (.iaload, 1) := by decide +kernel
theorem dX7_orders__33 : decode cX7_orders_ 33 = .ok (.iload_n 3, 1) := by decide +kernel
theorem dX7_orders__34 : decode cX7_orders_ 34 = .ok (.if_icmp .ne 6, 3) := by decide +kernel
theorem dX7_orders__37 : decode cX7_orders_ 37 = .ok (.bipush (-2), 2) := by decide +kernel
theorem dX7_orders__39 : decode cX7_orders_ 39 = .ok (.ireturn, 1) := by decide +kernel
theorem dX7_orders__40 : decode cX7_orders_ 40 = .ok (.aload_n 0, 1) := by decide +kernel
theorem dX7_orders__41 : decode cX7_orders_ 41 = .ok (.invokevirtual 303, 3) := by decide +kernel
theorem dX7_orders__44 : decode cX7_orders_ 44 = .ok (.aload_n 0, 1) := by decide +kernel
theorem dX7_orders__45 : decode cX7_orders_ 45 = .ok (.getfield 7, 3) := by decide +kernel
theorem dX7_orders__48 : decode cX7_orders_ 48 = .ok (.iload 4, 2) := by decide +kernel
theorem dX7_orders__50 : decode cX7_orders_ 50 = .ok (.iconst 5, 1) := by decide +kernel
theorem dX7_orders__51 : decode cX7_orders_ 51 = .ok (.iadd, 1) := by decide +kernel
theorem dX7_orders__52 : decode cX7_orders_ 52 = .ok (.iload_n 2, 1) := by decide +kernel
theorem dX7_orders__53 : decode cX7_orders_ 53 = .ok (.iastore, 1) := by decide +kernel
theorem dX7_orders__54 : decode cX7_orders_ 54 = .ok (.aload_n 0, 1) := by decide +kernel
theorem dX7_orders__55 : decode cX7_orders_ 55 = .ok (.getfield 7, 3) := by decide +kernel
theorem dX7_orders__58 : decode cX7_orders_ 58 = .ok (.iload 4, 2) := by decide +kernel
theorem dX7_orders__60 : decode cX7_orders_ 60 = .ok (.bipush 6, 2) := by decide +kernel
theorem dX7_orders__62 : decode cX7_orders_ 62 = .ok (.iadd, 1) := by decide +kernel
theorem dX7_orders__63 : decode cX7_orders_ 63 = .ok (.iload_n 3, 1) := by decide +kernel
theorem dX7_orders__64 : decode cX7_orders_ 64 = .ok (.iastore, 1) := by decide +kernel
theorem dX7_orders__65 : decode cX7_orders_ 65 = .ok (.iconst 1, 1) := by decide +kernel
theorem dX7_orders__66 : decode cX7_orders_ 66 = .ok (.ireturn, 1) := by decide +kernel
theorem dX7_order_0 : decode cX7_order 0 = .ok (.aload_n 0, 1) := by decide +kernel
theorem dX7_order_1 : decode cX7_order 1 = .ok (.iload_n 1, 1) := by decide +kernel
theorem dX7_order_2 : decode cX7_order 2 = .ok (.invokevirtual 234, 3) := by decide +kernel
theorem dX7_order_5 : decode cX7_order 5 = .ok (.ifCond .eq 23, 3) := by decide +kernel
theorem dX7_order_8 : decode cX7_order 8 = .ok (.aload_n 0, 1) := by decide +kernel
theorem dX7_order_9 : decode cX7_order 9 = .ok (.iload_n 2, 1) := by decide +kernel
theorem dX7_order_10 : decode cX7_order 10 = .ok (.invokevirtual 229, 3) := by decide +kernel
theorem dX7_order_13 : decode cX7_order 13 = .ok (.ifCond .eq 15, 3) := by decide +kernel
theorem dX7_order_16 : decode cX7_order 16 = .ok (.iload_n 3, 1) := by decide +kernel
theorem dX7_order_17 : decode cX7_order 17 = .ok (.i2l, 1) := by decide +kernel
theorem dX7_order_18 : decode cX7_order 18 = .ok (.lconst 0, 1) := by decide +kernel
theorem dX7_order_19 : decode cX7_order 19 = .ok (.ldc2_w 311, 3) := by decide +kernel
theorem dX7_order_22 : decode cX7_order 22 = .ok (.invokestatic 96, 3) := by decide +kernel
theorem dX7_order_25 : decode cX7_order 25 = .ok (.ifCond .ne 5, 3) := by decide +kernel
theorem dX7_order_28 : decode cX7_order 28 = .ok (.iconst (-1), 1) := by decide +kernel
theorem dX7_order_29 : decode cX7_order 29 = .ok (.ireturn, 1) := by decide +kernel
theorem dX7_order_30 : decode cX7_order 30 = .ok (.iload_n 3, 1) := by decide +kernel
theorem dX7_order_31 : decode cX7_order 31 = .ok (.ifCond .ne 12, 3) := by decide +kernel
theorem dX7_order_34 : decode cX7_order 34 = .ok (.aload_n 0, 1) := by decide +kernel
theorem dX7_order_35 : decode cX7_order 35 = .ok (.iload_n 1, 1) := by decide +kernel
theorem dX7_order_36 : decode cX7_order 36 = .ok (.bipush (-2), 2) := by decide +kernel
theorem dX7_order_38 : decode cX7_order 38 = .ok (.iconst 0, 1) := by decide +kernel
theorem dX7_order_39 : decode cX7_order 39 = .ok (.invokevirtual 313, 3) := by decide +kernel
theorem dX7_order_42 : decode cX7_order 42 = .ok (.ireturn, 1) := by decide +kernel
theorem dX7_order_43 : decode cX7_order 43 = .ok (.aload_n 0, 1) := by decide +kernel
theorem dX7_order_44 : decode cX7_order 44 = .ok (.iload_n 1, 1) := by decide +kernel
theorem dX7_order_45 : decode cX7_order 45 = .ok (.iconst 5, 1) := by decide +kernel
theorem dX7_order_46 : decode cX7_order 46 = .ok (.invokevirtual 116, 3) := by decide +kernel
theorem dX7_order_49 : decode cX7_order 49 = .ok (.iload_n 2, 1) := by decide +kernel
theorem dX7_order_50 : decode cX7_order 50 = .ok (.if_icmp .ne 19, 3) := by decide +kernel
theorem dX7_order_53 : decode cX7_order 53 = .ok (.aload_n 0, 1) := by decide +kernel
theorem dX7_order_54 : decode cX7_order 54 = .ok (.iload_n 1, 1) := by decide +kernel
theorem dX7_order_55 : decode cX7_order 55 = .ok (.bipush 6, 2) := by decide +kernel
theorem dX7_order_57 : decode cX7_order 57 = .ok (.invokevirtual 116, 3) := by decide +kernel
theorem dX7_order_60 : decode cX7_order 60 = .ok (.iload_n 3, 1) := by decide +kernel
theorem dX7_order_61 : decode cX7_order 61 = .ok (.if_icmp .ne 8, 3) := by decide +kernel
theorem dX7_order_64 : decode cX7_order 64 = .ok (.bipush (-2), 2) := by decide +kernel
theorem dX7_order_66 : decode cX7_order 66 = .ok (.goto 4, 3) := by decide +kernel
theorem dX7_order_69 : decode cX7_order 69 = .ok (.iconst 1, 1) := by decide +kernel
theorem dX7_order_70 : decode cX7_order 70 = .ok (.istore 4, 2) := by decide +kernel
theorem dX7_order_72 : decode cX7_order 72 = .ok (.iload 4, 2) := by decide +kernel
theorem dX7_order_74 : decode cX7_order 74 = .ok (.bipush (-2), 2) := by decide +kernel
theorem dX7_order_76 : decode cX7_order 76 = .ok (.if_icmp .ne 6, 3) := by decide +kernel
theorem dX7_order_79 : decode cX7_order 79 = .ok (.bipush (-2), 2) := by decide +kernel
theorem dX7_order_81 : decode cX7_order 81 = .ok (.ireturn, 1) := by decide +kernel
theorem dX7_order_82 : decode cX7_order 82 = .ok (.aload_n 0, 1) := by decide +kernel
theorem dX7_order_83 : decode cX7_order 83 = .ok (.aload_n 0, 1) := by decide +kernel
theorem dX7_order_84 : decode cX7_order 84 = .ok (.iload_n 1, 1) := by decide +kernel
theorem dX7_order_85 : decode cX7_order 85 = .ok (.iconst 0, 1) := by decide +kernel
theorem dX7_order_86 : decode cX7_order 86 = .ok (.invokevirtual 116, 3) := by decide +kernel
theorem dX7_order_89 : decode cX7_order 89 = .ok (.aload_n 0, 1) := by decide +kernel
theorem dX7_order_90 : decode cX7_order 90 = .ok (.iload_n 2, 1) := by decide +kernel
theorem dX7_order_91 : decode cX7_order 91 = .ok (.iconst 0, 1) := by decide +kernel
theorem dX7_order_92 : decode cX7_order 92 = .ok (.invokevirtual 113, 3) := by decide +kernel
theorem dX7_order_95 : decode cX7_order 95 = .ok (.invokevirtual 170, 3) := by decide +kernel
theorem dX7_order_98 : decode cX7_order 98 = .ok (.ifCond .eq 13, 3) := by decide +kernel
theorem dX7_order_101 : decode cX7_order 101 = .ok (.aload_n 0, 1) := by decide +kernel
theorem dX7_order_102 : decode cX7_order 102 = .ok (.iload_n 1, 1) := by decide +kernel
theorem dX7_order_103 : decode cX7_order 103 = .ok (.iload_n 2, 1) := by decide +kernel
theorem dX7_order_104 : decode cX7_order 104 = .ok (.iload_n 3, 1) := by decide +kernel
theorem dX7_order_105 : decode cX7_order 105 = .ok (.invokevirtual 313, 3) := by decide +kernel
theorem dX7_order_108 : decode cX7_order 108 = .ok (.goto 5, 3) := by decide +kernel
theorem dX7_order_111 : decode cX7_order 111 = .ok (.bipush (-3), 2) := by decide +kernel
theorem dX7_order_113 : decode cX7_order 113 = .ok (.ireturn, 1) := by decide +kernel
theorem dX7_barter_0 : decode cX7_barter 0 = .ok (.aload_n 0, 1) := by decide +kernel
theorem dX7_barter_1 : decode cX7_barter 1 = .ok (.iload_n 1, 1) := by decide +kernel
theorem dX7_barter_2 : decode cX7_barter 2 = .ok (.invokevirtual 229, 3) := by decide +kernel
theorem dX7_barter_5 : decode cX7_barter 5 = .ok (.ifCond .eq 16, 3) := by decide +kernel
theorem dX7_barter_8 : decode cX7_barter 8 = .ok (.iload_n 2, 1) := by decide +kernel
theorem dX7_barter_9 : decode cX7_barter 9 = .ok (.iconst (-1), 1) := by decide +kernel
theorem dX7_barter_10 : decode cX7_barter 10 = .ok (.if_icmp .eq 13, 3) := by decide +kernel
theorem dX7_barter_13 : decode cX7_barter 13 = .ok (.aload_n 0, 1) := by decide +kernel
theorem dX7_barter_14 : decode cX7_barter 14 = .ok (.iload_n 2, 1) := by decide +kernel
theorem dX7_barter_15 : decode cX7_barter 15 = .ok (.invokevirtual 234, 3) := by decide +kernel
theorem dX7_barter_18 : decode cX7_barter 18 = .ok (.ifCond .ne 5, 3) := by decide +kernel
theorem dX7_barter_21 : decode cX7_barter 21 = .ok (.iconst (-1), 1) := by decide +kernel
theorem dX7_barter_22 : decode cX7_barter 22 = .ok (.ireturn, 1) := by decide +kernel
theorem dX7_barter_23 : decode cX7_barter 23 = .ok (.iload_n 2, 1) := by decide +kernel
theorem dX7_barter_24 : decode cX7_barter 24 = .ok (.iconst (-1), 1) := by decide +kernel
theorem dX7_barter_25 : decode cX7_barter 25 = .ok (.if_icmp .ne 8, 3) := by decide +kernel
theorem dX7_barter_28 : decode cX7_barter 28 = .ok (.bipush (-2), 2) := by decide +kernel
theorem dX7_barter_30 : decode cX7_barter 30 = .ok (.goto 4, 3) := by decide +kernel
theorem dX7_barter_33 : decode cX7_barter 33 = .ok (.iload_n 2, 1) := by decide +kernel
theorem dX7_barter_34 : decode cX7_barter 34 = .ok (.istore_n 3, 1) := by decide +kernel
theorem dX7_barter_35 : decode cX7_barter 35 = .ok (.aload_n 0, 1) := by decide +kernel
theorem dX7_barter_36 : decode cX7_barter 36 = .ok (.iload_n 1, 1) := by decide +kernel
theorem dX7_barter_37 : decode cX7_barter 37 = .ok (.bipush 11, 2) := by decide +kernel
theorem dX7_barter_39 : decode cX7_barter 39 = .ok (.invokevirtual 113, 3) := by decide +kernel
theorem dX7_barter_42 : decode cX7_barter 42 = .ok (.iload_n 3, 1) := by decide +kernel
theorem dX7_barter_43 : decode cX7_barter 43 = .ok (.if_icmp .ne 6, 3) := by decide +kernel
theorem dX7_barter_46 : decode cX7_barter 46 = .ok (.bipush (-2), 2) := by decide +kernel
theorem dX7_barter_48 : decode cX7_barter 48 = .ok (.ireturn, 1) := by decide +kernel
theorem dX7_barter_49 : decode cX7_barter 49 = .ok (.iload_n 2, 1) := by decide +kernel
theorem dX7_barter_50 : decode cX7_barter 50 = .ok (.iconst (-1), 1) := by decide +kernel
theorem dX7_barter_51 : decode cX7_barter 51 = .ok (.if_icmp .eq 25, 3) := by decide +kernel
theorem dX7_barter_54 : decode cX7_barter 54 = .ok (.aload_n 0, 1) := by decide +kernel
theorem dX7_barter_55 : decode cX7_barter 55 = .ok (.aload_n 0, 1) := by decide +kernel
theorem dX7_barter_56 : decode cX7_barter 56 = .ok (.iload_n 1, 1) := by decide +kernel
theorem dX7_barter_57 : decode cX7_barter 57 = .ok (.iconst 0, 1) := by decide +kernel
theorem dX7_barter_58 : decode cX7_barter 58 = .ok (.invokevirtual 113, 3) := by decide +kernel
theorem dX7_barter_61 : decode cX7_barter 61 = .ok (.aload_n 0, 1) := by decide +kernel
theorem dX7_barter_62 : decode cX7_barter 62 = .ok (.iload_n 2, 1) := by decide +kernel
theorem dX7_barter_63 : decode cX7_barter 63 = .ok (.iconst 0, 1) := by decide +kernel
theorem dX7_barter_64 : decode cX7_barter 64 = .ok (.invokevirtual 116, 3) := by decide +kernel
theorem dX7_barter_67 : decode cX7_barter 67 = .ok (.invokevirtual 170, 3) := by decide +kernel
theorem dX7_barter_70 : decode cX7_barter 70 = .ok (.ifCond .ne 6, 3) := by decide +kernel
theorem dX7_barter_73 : decode cX7_barter 73 = .ok (.bipush (-3), 2) := by decide +kernel
theorem dX7_barter_75 : decode cX7_barter 75 = .ok (.ireturn, 1) := by decide +kernel
theorem dX7_barter_76 : decode cX7_barter 76 = .ok (.aload_n 0, 1) := by decide +kernel
theorem dX7_barter_77 : decode cX7_barter 77 = .ok (.invokevirtual 303, 3) := by decide +kernel
theorem dX7_barter_80 : decode cX7_barter 80 = .ok (.aload_n 0, 1) := by decide +kernel
theorem dX7_barter_81 : decode cX7_barter 81 = .ok (.getfield 7, 3) := by decide +kernel
theorem dX7_barter_84 : decode cX7_barter 84 = .ok (.bipush 78, 2) := by decide +kernel
theorem dX7_barter_86 : decode cX7_barter 86 = .ok (.bipush 13, 2) := by decide +kernel
theorem dX7_barter_88 : decode cX7_barter 88 = .ok (.iload_n 1, 1) := by decide +kernel
theorem dX7_barter_89 : decode cX7_barter 89 = .ok (.imul, 1) := by decide +kernel
theorem dX7_barter_90 : decode cX7_barter 90 = .ok (.iadd, 1) := by decide +kernel
theorem dX7_barter_91 : decode cX7_barter 91 = .ok (.bipush 11, 2) := by decide +kernel
theorem dX7_barter_93 : decode cX7_barter 93 = .ok (.iadd, 1) := by decide +kernel
theorem dX7_barter_94 : decode cX7_barter 94 = .ok (.iload_n 3, 1) := by decide +kernel
theorem dX7_barter_95 : decode cX7_barter 95 = .ok (.iastore, 1) := by decide +kernel
theorem dX7_barter_96 : decode cX7_barter 96 = .ok (.iconst 1, 1) := by decide +kernel
theorem dX7_barter_97 : decode cX7_barter 97 = .ok (.ireturn, 1) := by decide +kernel
theorem dX7_trade_0 : decode cX7_trade 0 = .ok (.aload_n 0, 1) := by decide +kernel
theorem dX7_trade_1 : decode cX7_trade 1 = .ok (.iload_n 1, 1) := by decide +kernel
theorem dX7_trade_2 : decode cX7_trade 2 = .ok (.invokevirtual 229, 3) := by decide +kernel
theorem dX7_trade_5 : decode cX7_trade 5 = .ok (.ifCond .eq 16, 3) := by decide +kernel
theorem dX7_trade_8 : decode cX7_trade 8 = .ok (.aload_n 0, 1) := by decide +kernel
theorem dX7_trade_9 : decode cX7_trade 9 = .ok (.iload_n 2, 1) := by decide +kernel
theorem dX7_trade_10 : decode cX7_trade 10 = .ok (.invokevirtual 229, 3) := by decide +kernel
theorem dX7_trade_13 : decode cX7_trade 13 = .ok (.ifCond .eq 8, 3) := by decide +kernel
theorem dX7_trade_16 : decode cX7_trade 16 = .ok (.iload_n 1, 1) := by decide +kernel
theorem dX7_trade_17 : decode cX7_trade 17 = .ok (.iload_n 2, 1) := by decide +kernel
theorem dX7_trade_18 : decode cX7_trade 18 = .ok (.if_icmp .ne 5, 3) := by decide +kernel
theorem dX7_trade_21 : decode cX7_trade 21 = .ok (.iconst (-1), 1) := by decide +kernel
theorem dX7_trade_22 : decode cX7_trade 22 = .ok (.ireturn, 1) := by decide +kernel
theorem dX7_trade_23 : decode cX7_trade 23 = .ok (.aload_n 0, 1) := by decide +kernel
theorem dX7_trade_24 : decode cX7_trade 24 = .ok (.invokevirtual 303, 3) := by decide +kernel
theorem dX7_trade_27 : decode cX7_trade 27 = .ok (.aload_n 0, 1) := by decide +kernel
theorem dX7_trade_28 : decode cX7_trade 28 = .ok (.iload_n 1, 1) := by decide +kernel
theorem dX7_trade_29 : decode cX7_trade 29 = .ok (.iconst 4, 1) := by decide +kernel
theorem dX7_trade_30 : decode cX7_trade 30 = .ok (.invokevirtual 113, 3) := by decide +kernel
theorem dX7_trade_33 : decode cX7_trade 33 = .ok (.istore_n 3, 1) := by decide +kernel
theorem dX7_trade_34 : decode cX7_trade 34 = .ok (.aload_n 0, 1) := by decide +kernel
theorem dX7_trade_35 : decode cX7_trade 35 = .ok (.getfield 7, 3) := by decide +kernel
theorem dX7_trade_38 : decode cX7_trade 38 = .ok (.bipush 78, 2) := by decide +kernel
theorem dX7_trade_40 : decode cX7_trade 40 = .ok (.bipush 13, 2) := by decide +kernel
theorem dX7_trade_42 : decode cX7_trade 42 = .ok (.iload_n 1, 1) := by decide +kernel
theorem dX7_trade_43 : decode cX7_trade 43 = .ok (.imul, 1) := by decide +kernel
theorem dX7_trade_44 : decode cX7_trade 44 = .ok (.iadd, 1) := by decide +kernel
theorem dX7_trade_45 : decode cX7_trade 45 = .ok (.iconst 4, 1) := by decide +kernel
theorem dX7_trade_46 : decode cX7_trade 46 = .ok (.iadd, 1) := by decide +kernel
theorem dX7_trade_47 : decode cX7_trade 47 = .ok (.aload_n 0, 1) := by decide +kernel
theorem dX7_trade_48 : decode cX7_trade 48 = .ok (.iload_n 2, 1) := by decide +kernel
theorem dX7_trade_49 : decode cX7_trade 49 = .ok (.iconst 4, 1) := by decide +kernel
theorem dX7_trade_50 : decode cX7_trade 50 = .ok (.invokevirtual 113, 3) := by decide +kernel
theorem dX7_trade_53 : decode cX7_trade 53 = .ok (.iastore, 1) := by decide +kernel
theorem dX7_trade_54 : decode cX7_trade 54 = .ok (.aload_n 0, 1) := by decide +kernel
theorem dX7_trade_55 : decode cX7_trade 55 = .ok (.getfield 7, 3) := by decide +kernel
theorem dX7_trade_58 : decode cX7_trade 58 = .ok (.bipush 78, 2) := by decide +kernel
theorem dX7_trade_60 : decode cX7_trade 60 = .ok (.bipush 13, 2) := by decide +kernel
theorem dX7_trade_62 : decode cX7_trade 62 = .ok (.iload_n 2, 1) := by decide +kernel
theorem dX7_trade_63 : decode cX7_trade 63 = .ok (.imul, 1) := by decide +kernel
theorem dX7_trade_64 : decode cX7_trade 64 = .ok (.iadd, 1) := by decide +kernel
theorem dX7_trade_65 : decode cX7_trade 65 = .ok (.iconst 4, 1) := by decide +kernel
theorem dX7_trade_66 : decode cX7_trade 66 = .ok (.iadd, 1) := by decide +kernel
theorem dX7_trade_67 : decode cX7_trade 67 = .ok (.iload_n 3, 1) := by decide +kernel
theorem dX7_trade_68 : decode cX7_trade 68 = .ok (.iastore, 1) := by decide +kernel
theorem dX7_trade_69 : decode cX7_trade 69 = .ok (.iconst 1, 1) := by decide +kernel
theorem dX7_trade_70 : decode cX7_trade 70 = .ok (.ireturn, 1) := by decide +kernel
theorem dX7_days_0 : decode cX7_days 0 = .ok (.iload_n 1, 1) := by decide +kernel
theorem dX7_days_1 : decode cX7_days 1 = .ok (.i2l, 1) := by decide +kernel
theorem dX7_days_2 : decode cX7_days 2 = .ok (.lconst 1, 1) := by decide +kernel
theorem dX7_days_3 : decode cX7_days 3 = .ok (.ldc2_w 301, 3) := by decide +kernel
theorem dX7_days_6 : decode cX7_days 6 = .ok (.invokestatic 96, 3) := by decide +kernel
theorem dX7_days_9 : decode cX7_days 9 = .ok (.ifCond .ne 5, 3) := by decide +kernel
theorem dX7_days_12 : decode cX7_days 12 = .ok (.iconst (-1), 1) := by decide +kernel
theorem dX7_days_13 : decode cX7_days 13 = .ok (.ireturn, 1) := by decide +kernel
theorem dX7_days_14 : decode cX7_days 14 = .ok (.aload_n 0, 1) := by decide +kernel
theorem dX7_days_15 : decode cX7_days 15 = .ok (.invokevirtual 303, 3) := by decide +kernel
theorem dX7_days_18 : decode cX7_days 18 = .ok (.iconst 0, 1) := by decide +kernel
theorem dX7_days_19 : decode cX7_days 19 = .ok (.istore_n 2, 1) := by decide +kernel
theorem dX7_days_20 : decode cX7_days 20 = .ok (.iload_n 2, 1) := by decide +kernel
theorem dX7_days_21 : decode cX7_days 21 = .ok (.iload_n 1, 1) := by decide +kernel
theorem dX7_days_22 : decode cX7_days 22 = .ok (.if_icmp .ge 13, 3) := by decide +kernel
theorem dX7_days_25 : decode cX7_days 25 = .ok (.aload_n 0, 1) := by decide +kernel
theorem dX7_days_26 : decode cX7_days 26 = .ok (.invokevirtual 214, 3) := by decide +kernel
theorem dX7_days_29 : decode cX7_days 29 = .ok (.iinc 2 1, 3) := by decide +kernel
theorem dX7_days_32 : decode cX7_days 32 = .ok (.goto (-12), 3) := by decide +kernel
theorem dX7_days_35 : decode cX7_days 35 = .ok (.aload_n 0, 1) := by decide +kernel
theorem dX7_days_36 : decode cX7_days 36 = .ok (.getfield 7, 3) := by decide +kernel
theorem dX7_days_39 : decode cX7_days 39 = .ok (.iconst 3, 1) := by decide +kernel
theorem dX7_days_40 : decode cX7_days 40 = .ok (.iaload, 1) := by decide +kernel
theorem dX7_days_41 : decode cX7_days 41 = .ok (.ireturn, 1) := by decide +kernel
theorem dX7_move_0 : decode cX7_move 0 = .ok (.aload_n 0, 1) := by decide +kernel
theorem dX7_move_1 : decode cX7_move 1 = .ok (.iload_n 1, 1) := by decide +kernel
theorem dX7_move_2 : decode cX7_move 2 = .ok (.invokevirtual 229, 3) := by decide +kernel
theorem dX7_move_5 : decode cX7_move 5 = .ok (.ifCond .eq 11, 3) := by decide +kernel
theorem dX7_move_8 : decode cX7_move 8 = .ok (.aload_n 0, 1) := by decide +kernel
theorem dX7_move_9 : decode cX7_move 9 = .ok (.iload_n 2, 1) := by decide +kernel
theorem dX7_move_10 : decode cX7_move 10 = .ok (.invokevirtual 220, 3) := by decide +kernel
theorem dX7_move_13 : decode cX7_move 13 = .ok (.ifCond .ne 5, 3) := by decide +kernel
theorem dX7_move_16 : decode cX7_move 16 = .ok (.iconst (-1), 1) := by decide +kernel
theorem dX7_move_17 : decode cX7_move 17 = .ok (.ireturn, 1) := by decide +kernel
theorem dX7_move_18 : decode cX7_move 18 = .ok (.aload_n 0, 1) := by decide +kernel
theorem dX7_move_19 : decode cX7_move 19 = .ok (.iload_n 1, 1) := by decide +kernel
theorem dX7_move_20 : decode cX7_move 20 = .ok (.iconst 0, 1) := by decide +kernel
theorem dX7_move_21 : decode cX7_move 21 = .ok (.invokevirtual 113, 3) := by decide +kernel
theorem dX7_move_24 : decode cX7_move 24 = .ok (.iload_n 2, 1) := by decide +kernel
theorem dX7_move_25 : decode cX7_move 25 = .ok (.if_icmp .ne 6, 3) := by decide +kernel
theorem dX7_move_28 : decode cX7_move 28 = .ok (.bipush (-2), 2) := by decide +kernel
theorem dX7_move_30 : decode cX7_move 30 = .ok (.ireturn, 1) := by decide +kernel
theorem dX7_move_31 : decode cX7_move 31 = .ok (.aload_n 0, 1) := by decide +kernel
theorem dX7_move_32 : decode cX7_move 32 = .ok (.invokevirtual 263, 3) := by decide +kernel
theorem dX7_move_35 : decode cX7_move 35 = .ok (.aload_n 0, 1) := by decide +kernel
theorem dX7_move_36 : decode cX7_move 36 = .ok (.iload_n 1, 1) := by decide +kernel
theorem dX7_move_37 : decode cX7_move 37 = .ok (.iload_n 2, 1) := by decide +kernel
theorem dX7_move_38 : decode cX7_move 38 = .ok (.invokevirtual 270, 3) := by decide +kernel
theorem dX7_move_41 : decode cX7_move 41 = .ok (.ifCond .ne 6, 3) := by decide +kernel
theorem dX7_move_44 : decode cX7_move 44 = .ok (.bipush (-3), 2) := by decide +kernel
theorem dX7_move_46 : decode cX7_move 46 = .ok (.ireturn, 1) := by decide +kernel
theorem dX7_move_47 : decode cX7_move 47 = .ok (.aload_n 0, 1) := by decide +kernel
theorem dX7_move_48 : decode cX7_move 48 = .ok (.invokevirtual 303, 3) := by decide +kernel
theorem dX7_move_51 : decode cX7_move 51 = .ok (.aload_n 0, 1) := by decide +kernel
theorem dX7_move_52 : decode cX7_move 52 = .ok (.getfield 7, 3) := by decide +kernel
theorem dX7_move_55 : decode cX7_move 55 = .ok (.bipush 78, 2) := by decide +kernel
theorem dX7_move_57 : decode cX7_move 57 = .ok (.bipush 13, 2) := by decide +kernel
theorem dX7_move_59 : decode cX7_move 59 = .ok (.iload_n 1, 1) := by decide +kernel
theorem dX7_move_60 : decode cX7_move 60 = .ok (.imul, 1) := by decide +kernel
theorem dX7_move_61 : decode cX7_move 61 = .ok (.iadd, 1) := by decide +kernel
theorem dX7_move_62 : decode cX7_move 62 = .ok (.iconst 0, 1) := by decide +kernel
theorem dX7_move_63 : decode cX7_move 63 = .ok (.iadd, 1) := by decide +kernel
theorem dX7_move_64 : decode cX7_move 64 = .ok (.iload_n 2, 1) := by decide +kernel
theorem dX7_move_65 : decode cX7_move 65 = .ok (.iastore, 1) := by decide +kernel
theorem dX7_move_66 : decode cX7_move 66 = .ok (.iconst 1, 1) := by decide +kernel
theorem dX7_move_67 : decode cX7_move 67 = .ok (.ireturn, 1) := by decide +kernel
theorem ms_X7_told : MS yX7_told cX7_told 1 (some .int) 1 := ⟨wd_45_13, wd_45_12, wd_1_5, by decide, by decide, by decide +kernel⟩
theorem mv_X7_bartersMany : MV yX7_bartersMany cX7_bartersMany 3 (some .int) 0 := ⟨wd_61_10, wd_61_8, wd_61_9, wd_1_5, by decide, by decide, by decide +kernel⟩
theorem mv_X7_becomes : MV yX7_becomes cX7_becomes 4 (some .int) 2 := ⟨wd_31_3, wd_31_1, wd_31_2, wd_1_5, by decide, by decide, by decide +kernel⟩
theorem mv_X7_farOf : MV yX7_farOf cX7_farOf 4 (some .int) 1 := ⟨wd_40_19, wd_40_17, wd_40_18, wd_1_5, by decide, by decide, by decide +kernel⟩
theorem mv_X7_inStores : MV yX7_inStores cX7_inStores 4 (some .long) 0 := ⟨wd_51_0, wd_50_22, wd_50_23, wd_1_5, by decide, by decide, by decide +kernel⟩
theorem mv_X7_isFutile : MV yX7_isFutile cX7_isFutile 3 (some .boolean) 2 := ⟨wd_46_10, wd_46_8, wd_46_9, wd_1_5, by decide, by decide, by decide +kernel⟩
theorem mv_X7_keepsAct : MV yX7_keepsAct cX7_keepsAct 2 none 0 := ⟨wd_25_10, wd_25_8, wd_25_9, wd_1_5, by decide, by decide, by decide +kernel⟩
theorem mv_X7_olderThan : MV yX7_olderThan cX7_olderThan 4 (some .int) 1 := ⟨wd_44_15, wd_44_13, wd_44_14, wd_1_5, by decide, by decide, by decide +kernel⟩
theorem mv_X7_onItsWay : MV yX7_onItsWay cX7_onItsWay 4 (some .long) 0 := ⟨wd_51_4, wd_51_2, wd_51_3, wd_1_5, by decide, by decide, by decide +kernel⟩
theorem mv_X7_orders : MV yX7_orders cX7_orders 3 (some .int) 0 := ⟨wd_61_6, wd_61_4, wd_61_5, wd_1_5, by decide, by decide, by decide +kernel⟩
theorem mv_X7_orders_ : MV yX7_orders_ cX7_orders_ 5 (some .int) 3 := ⟨wd_33_0, wd_32_22, wd_32_23, wd_1_5, by decide, by decide, by decide +kernel⟩
theorem mv_X7_runningTo : MV yX7_runningTo cX7_runningTo 4 (some .int) 1 := ⟨wd_40_15, wd_40_13, wd_40_14, wd_1_5, by decide, by decide, by decide +kernel⟩
theorem mv_X7_takesWithout : MV yX7_takesWithout cX7_takesWithout 3 (some .int) 2 := ⟨wd_44_19, wd_44_17, wd_44_18, wd_1_5, by decide, by decide, by decide +kernel⟩
set_option maxHeartbeats 4000000 in
set_option maxRecDepth 100000 in
theorem c_X7_reach (E : Ev) (ws : TD) (kp : TD) (as : TD) (rd : TD) (sc : TD) (ty : TD) (ik : TD) (un : Int × Int) (tk : Int × Int) (xt : Int × Int) (tp : Int × Int) (sp : Int × Int) (wrb : Int × Int) (nu : Int × Int) (nab : Int × Int) (iwb : Int × Int) (X0 : Nat → Int32) (a0 : Nat) (a1 : Int32) (a2 : Int32) (ha0 : eT E a0 ∈ [24]) (hX0 : okR X0) : TcI E yX7_reach cX7_reach 3 .int ({ frames := 3, cells := 0, slots := 0, locals := 86 }) [.ref a0, .int a1, .int a2] (fun H => TH E (tbM (mD (.inl tp) (.inl sp) (.inl nu) (.inl un) (.inl tk) (.inl xt) (.inl wrb) (.inl nab) (.inl iwb)) (xD 660 X0) ws kp as rd sc ty ik) H) (fun v H => ((-2147483648) ≤ v.toInt ∧ v.toInt ≤ 2147483647) ∧ TH E (tbM (mD (.inl tp) (.inl sp) (.inl nu) (.inl un) (.inl tk) (.inl xt) (.inl wrb) (.inl nab) (.inl iwb)) (xD 660 X0) ws kp as rd sc ty ik) H) := by
  refine teI (by decide) (Nat.le_of_ble_eq_true rfl) ?_
  intro p_ ev_ s mi_ below_ meth cd_ ls F hK hN hO hH hS hl
  have hH : TH E (tbM (mD (.inl tp) (.inl sp) (.inl nu) (.inl un) (.inl tk) (.inl xt) (.inl wrb) (.inl nab) (.inl iwb)) (xD 660 X0) ws kp as rd sc ty ik) s.heap := hH
  have hl : lv_has ls 3 [(0, .ref a0), (1, .int a1), (2, .int a2)] := hl
  have hBX0 := okB hX0.1
  have hLX0 := hX0.2
  refine lv_aload_n F.1 F.2.1 dX7_reach_0 rfl (lv_at hl 0 rfl) ?_
  refine lv_iload_n F.1 F.2.1 dX7_reach_1 rfl (lv_at hl 1 rfl) ?_
  refine tVi (b := a0) (As := [.int a1]) (rest := []) F hK hN hO (c_X7_isReach E ws kp as rd sc ty ik un tk xt tp sp wrb nu nab iwb X0 a0 a1 ha0 ((hX0).1)) mv_X7_isReach wd_37_8 ⟨Nat.le_of_ble_eq_true rfl, Nat.le_of_ble_eq_true rfl⟩ ⟨Nat.le_of_ble_eq_true rfl, Nat.le_of_ble_eq_true rfl⟩ hH hS (tRecv hK hH (tyb ha0 (all1 rfl)) clX7) rfl hl.1 (Nat.le_of_ble_eq_true rfl) dX7_reach_2 (fun z_1 H locs hq hS => ?_)
  obtain ⟨f_2, f_3, f_4, hH⟩ := hq
  have hH : TH E (tbM (mD (.inl tp) (.inl sp) (.inl nu) (.inl un) (.inl tk) (.inl xt) (.inl wrb) (.inl nab) (.inl iwb)) (xD 660 X0) ws kp as rd sc ty ik) H := hH
  refine z_ne (tgt := 10) F dX7_reach_5 (by decide) (fun c_5 => ?_) (fun c_5 => ?_)
  · skip
    have r_6 : 1 ≤ z_1.toInt ∧ z_1.toInt ≤ 1 := by have h9_ := f_2; omega
    have r_7 : 0 ≤ a1.toInt ∧ a1.toInt ≤ 11 := by have h9_ := (i32b a1); omega
    refine lv_iload_n F.1 F.2.1 dX7_reach_10 rfl (lv_at hl 2 rfl) ?_
    rcases (by omega : (a2.toInt < 0 ∨ 13 < a2.toInt) ∨ a2.toInt = 0 ∨ a2.toInt = 1 ∨ a2.toInt = 2 ∨ a2.toInt = 3 ∨ a2.toInt = 4 ∨ a2.toInt = 5 ∨ a2.toInt = 6 ∨ a2.toInt = 7 ∨ a2.toInt = 8 ∨ a2.toInt = 9 ∨ a2.toInt = 10 ∨ a2.toInt = 11 ∨ a2.toInt = 12 ∨ a2.toInt = 13) with w_9 | w_9 | w_9 | w_9 | w_9 | w_9 | w_9 | w_9 | w_9 | w_9 | w_9 | w_9 | w_9 | w_9 | w_9
    · skip
      refine tTabOut (tgt := 133) F dX7_reach_11 w_9 (by decide) ?_
      refine lv_iconst (v := (-1)) F.1 F.2.1 dX7_reach_133 (by decide) ?_
      refine topK (a := (-1)) (by decide) (fun k_10 hk_10 => ?_)
      exact txI F hS dX7_reach_134 rfl (⟨(wkb (eqb hk_10) rfl rfl), hH⟩)
    · skip
      refine tTabIn (off := 69) (tgt := 80) F dX7_reach_11 w_9 (by decide) (by decide) (by decide +kernel) (by decide) ?_
      refine lv_aload_n F.1 F.2.1 dX7_reach_80 rfl (lv_at hl 0 rfl) ?_
      refine lv_iload_n F.1 F.2.1 dX7_reach_81 rfl (lv_at hl 1 rfl) ?_
      refine lv_iconst (v := 0) F.1 F.2.1 dX7_reach_82 (by decide) ?_
      refine topK (a := 0) (by decide) (fun k_11 hk_11 => ?_)
      refine tVi (b := a0) (As := [.int a1, .int k_11]) (rest := []) F hK hN hO (c_X7_ofReach_0 E ws kp as rd sc ty ik un tk xt tp sp wrb nu nab iwb X0 a0 a1 k_11 ha0 r_7 (eqb hk_11) ((hX0).1)) mv_X7_ofReach wd_28_15 ⟨Nat.le_of_ble_eq_true rfl, Nat.le_of_ble_eq_true rfl⟩ ⟨Nat.le_of_ble_eq_true rfl, Nat.le_of_ble_eq_true rfl⟩ hH hS (tRecv hK hH (tyb ha0 (all1 rfl)) clX7) rfl hl.1 (Nat.le_of_ble_eq_true rfl) dX7_reach_83 (fun z_12 H locs hq hS => ?_)
      obtain ⟨f_13, f_14, f_15, hH⟩ := hq
      have hH : TH E (tbM (mD (.inl tp) (.inl sp) (.inl nu) (.inl un) (.inl tk) (.inl xt) (.inl wrb) (.inl nab) (.inl iwb)) (xD 660 X0) ws kp as rd sc ty ik) H := hH
      refine lv_iconst (v := (-1)) F.1 F.2.1 dX7_reach_86 (by decide) ?_
      refine topK (a := (-1)) (by decide) (fun k_16 hk_16 => ?_)
      refine b_ne (tgt := 95) F dX7_reach_87 (by decide) (fun c_17 => ?_) (fun c_17 => ?_)
      · skip
        have r_18 : 0 ≤ z_12.toInt ∧ z_12.toInt ≤ 10 := by have h9_ := f_13; omega
        refine lv_aload_n F.1 F.2.1 dX7_reach_95 rfl (lv_at hl 0 rfl) ?_
        refine lv_iload_n F.1 F.2.1 dX7_reach_96 rfl (lv_at hl 1 rfl) ?_
        refine lv_iconst (v := 0) F.1 F.2.1 dX7_reach_97 (by decide) ?_
        refine topK (a := 0) (by decide) (fun k_20 hk_20 => ?_)
        refine tVi (b := a0) (As := [.int a1, .int k_20]) (rest := []) F hK hN hO (c_X7_ofReach_0 E ws kp as rd sc ty ik un tk xt tp sp wrb nu nab iwb X0 a0 a1 k_20 ha0 r_7 (eqb hk_20) ((hX0).1)) mv_X7_ofReach wd_28_15 ⟨Nat.le_of_ble_eq_true rfl, Nat.le_of_ble_eq_true rfl⟩ ⟨Nat.le_of_ble_eq_true rfl, Nat.le_of_ble_eq_true rfl⟩ hH hS (tRecv hK hH (tyb ha0 (all1 rfl)) clX7) rfl hl.1 (Nat.le_of_ble_eq_true rfl) dX7_reach_98 (fun z_21 H locs hq hS => ?_)
        obtain ⟨f_22, f_23, f_24, hH⟩ := hq
        have hH : TH E (tbM (mD (.inl tp) (.inl sp) (.inl nu) (.inl un) (.inl tk) (.inl xt) (.inl wrb) (.inl nab) (.inl iwb)) (xD 660 X0) ws kp as rd sc ty ik) H := hH
        exact txI F hS dX7_reach_101 rfl (⟨(wkb f_22 rfl rfl), hH⟩)
      · skip
        have r_19 : (-1) ≤ z_12.toInt ∧ z_12.toInt ≤ (-1) := by have h9_ := f_13; omega
        refine lv_bipush (v := (-2)) F.1 F.2.1 dX7_reach_90 (by decide) ?_
        refine topK (a := (-2)) (by decide) (fun k_25 hk_25 => ?_)
        refine lv_goto (tgt := 101) F.1 F.2.1 dX7_reach_92 (by decide) ?_
        exact txI F hS dX7_reach_101 rfl (⟨(wkb (eqb hk_25) rfl rfl), hH⟩)
    · skip
      refine tTabIn (off := 91) (tgt := 102) F dX7_reach_11 w_9 (by decide) (by decide) (by decide +kernel) (by decide) ?_
      refine lv_aload_n F.1 F.2.1 dX7_reach_102 rfl (lv_at hl 0 rfl) ?_
      refine lv_iload_n F.1 F.2.1 dX7_reach_103 rfl (lv_at hl 1 rfl) ?_
      refine lv_iconst (v := 1) F.1 F.2.1 dX7_reach_104 (by decide) ?_
      refine topK (a := 1) (by decide) (fun k_26 hk_26 => ?_)
      refine tVi (b := a0) (As := [.int a1, .int k_26]) (rest := []) F hK hN hO (c_X7_ofReach_1 E ws kp as rd sc ty ik un tk xt tp sp wrb nu nab iwb X0 a0 a1 k_26 ha0 r_7 (eqb hk_26) ((hX0).1)) mv_X7_ofReach wd_28_15 ⟨Nat.le_of_ble_eq_true rfl, Nat.le_of_ble_eq_true rfl⟩ ⟨Nat.le_of_ble_eq_true rfl, Nat.le_of_ble_eq_true rfl⟩ hH hS (tRecv hK hH (tyb ha0 (all1 rfl)) clX7) rfl hl.1 (Nat.le_of_ble_eq_true rfl) dX7_reach_105 (fun z_27 H locs hq hS => ?_)
      obtain ⟨f_28, f_29, hH⟩ := hq
      have hH : TH E (tbM (mD (.inl tp) (.inl sp) (.inl nu) (.inl un) (.inl tk) (.inl xt) (.inl wrb) (.inl nab) (.inl iwb)) (xD 660 X0) ws kp as rd sc ty ik) H := hH
      exact txI F hS dX7_reach_108 rfl (⟨f_28, hH⟩)
    · skip
      refine tTabIn (off := 98) (tgt := 109) F dX7_reach_11 w_9 (by decide) (by decide) (by decide +kernel) (by decide) ?_
      refine lv_aload_n F.1 F.2.1 dX7_reach_109 rfl (lv_at hl 0 rfl) ?_
      refine lv_iload_n F.1 F.2.1 dX7_reach_110 rfl (lv_at hl 1 rfl) ?_
      refine tVi (b := a0) (As := [.int a1]) (rest := []) F hK hN hO (c_X7_runningTo E ws kp as rd sc ty ik un tk xt tp sp wrb nu nab iwb X0 a0 a1 ha0 hX0) mv_X7_runningTo wd_40_12 ⟨Nat.le_of_ble_eq_true rfl, Nat.le_of_ble_eq_true rfl⟩ ⟨Nat.le_of_ble_eq_true rfl, Nat.le_of_ble_eq_true rfl⟩ hH hS (tRecv hK hH (tyb ha0 (all1 rfl)) clX7) rfl hl.1 (Nat.le_of_ble_eq_true rfl) dX7_reach_111 (fun z_30 H locs hq hS => ?_)
      obtain ⟨f_31, hH⟩ := hq
      have hH : TH E (tbM (mD (.inl tp) (.inl sp) (.inl nu) (.inl un) (.inl tk) (.inl xt) (.inl wrb) (.inl nab) (.inl iwb)) (xD 660 X0) ws kp as rd sc ty ik) H := hH
      exact txI F hS dX7_reach_114 rfl (⟨f_31, hH⟩)
    · skip
      refine tTabIn (off := 104) (tgt := 115) F dX7_reach_11 w_9 (by decide) (by decide) (by decide +kernel) (by decide) ?_
      refine lv_aload_n F.1 F.2.1 dX7_reach_115 rfl (lv_at hl 0 rfl) ?_
      refine lv_iload_n F.1 F.2.1 dX7_reach_116 rfl (lv_at hl 1 rfl) ?_
      refine tVi (b := a0) (As := [.int a1]) (rest := []) F hK hN hO (c_X7_farOf E ws kp as rd sc ty ik un tk xt tp sp wrb nu nab iwb X0 a0 a1 ha0 r_7 hX0 (by omega)) mv_X7_farOf wd_40_16 ⟨Nat.le_of_ble_eq_true rfl, Nat.le_of_ble_eq_true rfl⟩ ⟨Nat.le_of_ble_eq_true rfl, Nat.le_of_ble_eq_true rfl⟩ hH hS (tRecv hK hH (tyb ha0 (all1 rfl)) clX7) rfl hl.1 (Nat.le_of_ble_eq_true rfl) dX7_reach_117 (fun z_32 H locs hq hS => ?_)
      obtain ⟨f_33, hH⟩ := hq
      have hH : TH E (tbM (mD (.inl tp) (.inl sp) (.inl nu) (.inl un) (.inl tk) (.inl xt) (.inl wrb) (.inl nab) (.inl iwb)) (xD 660 X0) ws kp as rd sc ty ik) H := hH
      exact txI F hS dX7_reach_120 rfl (⟨f_33, hH⟩)
    · skip
      refine tTabIn (off := 122) (tgt := 133) F dX7_reach_11 w_9 (by decide) (by decide) (by decide +kernel) (by decide) ?_
      refine lv_iconst (v := (-1)) F.1 F.2.1 dX7_reach_133 (by decide) ?_
      refine topK (a := (-1)) (by decide) (fun k_34 hk_34 => ?_)
      exact txI F hS dX7_reach_134 rfl (⟨(wkb (eqb hk_34) rfl rfl), hH⟩)
    · skip
      refine tTabIn (off := 122) (tgt := 133) F dX7_reach_11 w_9 (by decide) (by decide) (by decide +kernel) (by decide) ?_
      refine lv_iconst (v := (-1)) F.1 F.2.1 dX7_reach_133 (by decide) ?_
      refine topK (a := (-1)) (by decide) (fun k_35 hk_35 => ?_)
      exact txI F hS dX7_reach_134 rfl (⟨(wkb (eqb hk_35) rfl rfl), hH⟩)
    · skip
      refine tTabIn (off := 122) (tgt := 133) F dX7_reach_11 w_9 (by decide) (by decide) (by decide +kernel) (by decide) ?_
      refine lv_iconst (v := (-1)) F.1 F.2.1 dX7_reach_133 (by decide) ?_
      refine topK (a := (-1)) (by decide) (fun k_36 hk_36 => ?_)
      exact txI F hS dX7_reach_134 rfl (⟨(wkb (eqb hk_36) rfl rfl), hH⟩)
    · skip
      refine tTabIn (off := 122) (tgt := 133) F dX7_reach_11 w_9 (by decide) (by decide) (by decide +kernel) (by decide) ?_
      refine lv_iconst (v := (-1)) F.1 F.2.1 dX7_reach_133 (by decide) ?_
      refine topK (a := (-1)) (by decide) (fun k_37 hk_37 => ?_)
      exact txI F hS dX7_reach_134 rfl (⟨(wkb (eqb hk_37) rfl rfl), hH⟩)
    · skip
      refine tTabIn (off := 122) (tgt := 133) F dX7_reach_11 w_9 (by decide) (by decide) (by decide +kernel) (by decide) ?_
      refine lv_iconst (v := (-1)) F.1 F.2.1 dX7_reach_133 (by decide) ?_
      refine topK (a := (-1)) (by decide) (fun k_38 hk_38 => ?_)
      exact txI F hS dX7_reach_134 rfl (⟨(wkb (eqb hk_38) rfl rfl), hH⟩)
    · skip
      refine tTabIn (off := 122) (tgt := 133) F dX7_reach_11 w_9 (by decide) (by decide) (by decide +kernel) (by decide) ?_
      refine lv_iconst (v := (-1)) F.1 F.2.1 dX7_reach_133 (by decide) ?_
      refine topK (a := (-1)) (by decide) (fun k_39 hk_39 => ?_)
      exact txI F hS dX7_reach_134 rfl (⟨(wkb (eqb hk_39) rfl rfl), hH⟩)
    · skip
      refine tTabIn (off := 110) (tgt := 121) F dX7_reach_11 w_9 (by decide) (by decide) (by decide +kernel) (by decide) ?_
      refine lv_aload_n F.1 F.2.1 dX7_reach_121 rfl (lv_at hl 0 rfl) ?_
      refine lv_iload_n F.1 F.2.1 dX7_reach_122 rfl (lv_at hl 1 rfl) ?_
      refine lv_iconst (v := 2) F.1 F.2.1 dX7_reach_123 (by decide) ?_
      refine topK (a := 2) (by decide) (fun k_40 hk_40 => ?_)
      refine lv_iload_n F.1 F.2.1 dX7_reach_124 rfl (lv_at hl 2 rfl) ?_
      refine tAdd (lo := 12) (hi := 12) F dX7_reach_125 (eqb hk_40) (eqb w_9) rfl (fun z_41 hz_41 => ?_)
      refine lv_bipush (v := 10) F.1 F.2.1 dX7_reach_126 (by decide) ?_
      refine topK (a := 10) (by decide) (fun k_42 hk_42 => ?_)
      refine tSub (lo := 2) (hi := 2) F dX7_reach_128 hz_41.2 (eqb hk_42) rfl (fun z_43 hz_43 => ?_)
      refine tVi (b := a0) (As := [.int a1, .int z_43]) (rest := []) F hK hN hO (c_X7_ofReach_any E ws kp as rd sc ty ik un tk xt tp sp wrb nu nab iwb X0 a0 a1 z_43 ha0 r_7 (wkb hz_43.2 rfl rfl) ((hX0).1)) mv_X7_ofReach wd_28_15 ⟨Nat.le_of_ble_eq_true rfl, Nat.le_of_ble_eq_true rfl⟩ ⟨Nat.le_of_ble_eq_true rfl, Nat.le_of_ble_eq_true rfl⟩ hH hS (tRecv hK hH (tyb ha0 (all1 rfl)) clX7) rfl hl.1 (Nat.le_of_ble_eq_true rfl) dX7_reach_129 (fun z_44 H locs hq hS => ?_)
      obtain ⟨f_45, hH⟩ := hq
      have hH : TH E (tbM (mD (.inl tp) (.inl sp) (.inl nu) (.inl un) (.inl tk) (.inl xt) (.inl wrb) (.inl nab) (.inl iwb)) (xD 660 X0) ws kp as rd sc ty ik) H := hH
      exact txI F hS dX7_reach_132 rfl (⟨f_45, hH⟩)
    · skip
      refine tTabIn (off := 110) (tgt := 121) F dX7_reach_11 w_9 (by decide) (by decide) (by decide +kernel) (by decide) ?_
      refine lv_aload_n F.1 F.2.1 dX7_reach_121 rfl (lv_at hl 0 rfl) ?_
      refine lv_iload_n F.1 F.2.1 dX7_reach_122 rfl (lv_at hl 1 rfl) ?_
      refine lv_iconst (v := 2) F.1 F.2.1 dX7_reach_123 (by decide) ?_
      refine topK (a := 2) (by decide) (fun k_46 hk_46 => ?_)
      refine lv_iload_n F.1 F.2.1 dX7_reach_124 rfl (lv_at hl 2 rfl) ?_
      refine tAdd (lo := 13) (hi := 13) F dX7_reach_125 (eqb hk_46) (eqb w_9) rfl (fun z_47 hz_47 => ?_)
      refine lv_bipush (v := 10) F.1 F.2.1 dX7_reach_126 (by decide) ?_
      refine topK (a := 10) (by decide) (fun k_48 hk_48 => ?_)
      refine tSub (lo := 3) (hi := 3) F dX7_reach_128 hz_47.2 (eqb hk_48) rfl (fun z_49 hz_49 => ?_)
      refine tVi (b := a0) (As := [.int a1, .int z_49]) (rest := []) F hK hN hO (c_X7_ofReach_any E ws kp as rd sc ty ik un tk xt tp sp wrb nu nab iwb X0 a0 a1 z_49 ha0 r_7 (wkb hz_49.2 rfl rfl) ((hX0).1)) mv_X7_ofReach wd_28_15 ⟨Nat.le_of_ble_eq_true rfl, Nat.le_of_ble_eq_true rfl⟩ ⟨Nat.le_of_ble_eq_true rfl, Nat.le_of_ble_eq_true rfl⟩ hH hS (tRecv hK hH (tyb ha0 (all1 rfl)) clX7) rfl hl.1 (Nat.le_of_ble_eq_true rfl) dX7_reach_129 (fun z_50 H locs hq hS => ?_)
      obtain ⟨f_51, hH⟩ := hq
      have hH : TH E (tbM (mD (.inl tp) (.inl sp) (.inl nu) (.inl un) (.inl tk) (.inl xt) (.inl wrb) (.inl nab) (.inl iwb)) (xD 660 X0) ws kp as rd sc ty ik) H := hH
      exact txI F hS dX7_reach_132 rfl (⟨f_51, hH⟩)
    · skip
      refine tTabIn (off := 110) (tgt := 121) F dX7_reach_11 w_9 (by decide) (by decide) (by decide +kernel) (by decide) ?_
      refine lv_aload_n F.1 F.2.1 dX7_reach_121 rfl (lv_at hl 0 rfl) ?_
      refine lv_iload_n F.1 F.2.1 dX7_reach_122 rfl (lv_at hl 1 rfl) ?_
      refine lv_iconst (v := 2) F.1 F.2.1 dX7_reach_123 (by decide) ?_
      refine topK (a := 2) (by decide) (fun k_52 hk_52 => ?_)
      refine lv_iload_n F.1 F.2.1 dX7_reach_124 rfl (lv_at hl 2 rfl) ?_
      refine tAdd (lo := 14) (hi := 14) F dX7_reach_125 (eqb hk_52) (eqb w_9) rfl (fun z_53 hz_53 => ?_)
      refine lv_bipush (v := 10) F.1 F.2.1 dX7_reach_126 (by decide) ?_
      refine topK (a := 10) (by decide) (fun k_54 hk_54 => ?_)
      refine tSub (lo := 4) (hi := 4) F dX7_reach_128 hz_53.2 (eqb hk_54) rfl (fun z_55 hz_55 => ?_)
      refine tVi (b := a0) (As := [.int a1, .int z_55]) (rest := []) F hK hN hO (c_X7_ofReach_any E ws kp as rd sc ty ik un tk xt tp sp wrb nu nab iwb X0 a0 a1 z_55 ha0 r_7 (wkb hz_55.2 rfl rfl) ((hX0).1)) mv_X7_ofReach wd_28_15 ⟨Nat.le_of_ble_eq_true rfl, Nat.le_of_ble_eq_true rfl⟩ ⟨Nat.le_of_ble_eq_true rfl, Nat.le_of_ble_eq_true rfl⟩ hH hS (tRecv hK hH (tyb ha0 (all1 rfl)) clX7) rfl hl.1 (Nat.le_of_ble_eq_true rfl) dX7_reach_129 (fun z_56 H locs hq hS => ?_)
      obtain ⟨f_57, hH⟩ := hq
      have hH : TH E (tbM (mD (.inl tp) (.inl sp) (.inl nu) (.inl un) (.inl tk) (.inl xt) (.inl wrb) (.inl nab) (.inl iwb)) (xD 660 X0) ws kp as rd sc ty ik) H := hH
      exact txI F hS dX7_reach_132 rfl (⟨f_57, hH⟩)
    · skip
      refine tTabIn (off := 110) (tgt := 121) F dX7_reach_11 w_9 (by decide) (by decide) (by decide +kernel) (by decide) ?_
      refine lv_aload_n F.1 F.2.1 dX7_reach_121 rfl (lv_at hl 0 rfl) ?_
      refine lv_iload_n F.1 F.2.1 dX7_reach_122 rfl (lv_at hl 1 rfl) ?_
      refine lv_iconst (v := 2) F.1 F.2.1 dX7_reach_123 (by decide) ?_
      refine topK (a := 2) (by decide) (fun k_58 hk_58 => ?_)
      refine lv_iload_n F.1 F.2.1 dX7_reach_124 rfl (lv_at hl 2 rfl) ?_
      refine tAdd (lo := 15) (hi := 15) F dX7_reach_125 (eqb hk_58) (eqb w_9) rfl (fun z_59 hz_59 => ?_)
      refine lv_bipush (v := 10) F.1 F.2.1 dX7_reach_126 (by decide) ?_
      refine topK (a := 10) (by decide) (fun k_60 hk_60 => ?_)
      refine tSub (lo := 5) (hi := 5) F dX7_reach_128 hz_59.2 (eqb hk_60) rfl (fun z_61 hz_61 => ?_)
      refine tVi (b := a0) (As := [.int a1, .int z_61]) (rest := []) F hK hN hO (c_X7_ofReach_any E ws kp as rd sc ty ik un tk xt tp sp wrb nu nab iwb X0 a0 a1 z_61 ha0 r_7 (wkb hz_61.2 rfl rfl) ((hX0).1)) mv_X7_ofReach wd_28_15 ⟨Nat.le_of_ble_eq_true rfl, Nat.le_of_ble_eq_true rfl⟩ ⟨Nat.le_of_ble_eq_true rfl, Nat.le_of_ble_eq_true rfl⟩ hH hS (tRecv hK hH (tyb ha0 (all1 rfl)) clX7) rfl hl.1 (Nat.le_of_ble_eq_true rfl) dX7_reach_129 (fun z_62 H locs hq hS => ?_)
      obtain ⟨f_63, hH⟩ := hq
      have hH : TH E (tbM (mD (.inl tp) (.inl sp) (.inl nu) (.inl un) (.inl tk) (.inl xt) (.inl wrb) (.inl nab) (.inl iwb)) (xD 660 X0) ws kp as rd sc ty ik) H := hH
      exact txI F hS dX7_reach_132 rfl (⟨f_63, hH⟩)
  · skip
    have r_8 : 0 ≤ z_1.toInt ∧ z_1.toInt ≤ 0 := by have h9_ := f_2; omega
    refine lv_iconst (v := (-1)) F.1 F.2.1 dX7_reach_8 (by decide) ?_
    refine topK (a := (-1)) (by decide) (fun k_64 hk_64 => ?_)
    exact txI F hS dX7_reach_9 rfl (⟨(wkb (eqb hk_64) rfl rfl), hH⟩)
set_option maxHeartbeats 4000000 in
set_option maxRecDepth 100000 in
theorem c_X7_right (E : Ev) (ws : TD) (kp : TD) (as : TD) (rd : TD) (sc : TD) (ty : TD) (ik : TD) (un : Int × Int) (tk : Int × Int) (xt : Int × Int) (tp : Int × Int) (sp : Int × Int) (wrb : Int × Int) (nu : Int × Int) (nab : Int × Int) (iwb : Int × Int) (X0 : Nat → Int32) (a0 : Nat) (a1 : Int32) (a2 : Int32) (ha0 : eT E a0 ∈ [24]) (hX0 : okR X0) : TcI E yX7_right cX7_right 3 .int ({ frames := 3, cells := 0, slots := 0, locals := 86 }) [.ref a0, .int a1, .int a2] (fun H => TH E (tbM (mD (.inl tp) (.inl sp) (.inl nu) (.inl un) (.inl tk) (.inl xt) (.inl wrb) (.inl nab) (.inl iwb)) (xD 660 X0) ws kp as rd sc ty ik) H) (fun v H => ((-2147483648) ≤ v.toInt ∧ v.toInt ≤ 2147483647) ∧ TH E (tbM (mD (.inl tp) (.inl sp) (.inl nu) (.inl un) (.inl tk) (.inl xt) (.inl wrb) (.inl nab) (.inl iwb)) (xD 660 X0) ws kp as rd sc ty ik) H) := by
  refine teI (by decide) (Nat.le_of_ble_eq_true rfl) ?_
  intro p_ ev_ s mi_ below_ meth cd_ ls F hK hN hO hH hS hl
  have hH : TH E (tbM (mD (.inl tp) (.inl sp) (.inl nu) (.inl un) (.inl tk) (.inl xt) (.inl wrb) (.inl nab) (.inl iwb)) (xD 660 X0) ws kp as rd sc ty ik) s.heap := hH
  have hl : lv_has ls 3 [(0, .ref a0), (1, .int a1), (2, .int a2)] := hl
  have hBX0 := okB hX0.1
  have hLX0 := hX0.2
  refine lv_aload_n F.1 F.2.1 dX7_right_0 rfl (lv_at hl 0 rfl) ?_
  refine lv_iload_n F.1 F.2.1 dX7_right_1 rfl (lv_at hl 1 rfl) ?_
  refine tVi (b := a0) (As := [.int a1]) (rest := []) F hK hN hO (c_X7_isRight E ws kp as rd sc ty ik un tk xt tp sp wrb nu nab iwb X0 a0 a1 ha0 ((hX0).1)) mv_X7_isRight wd_31_18 ⟨Nat.le_of_ble_eq_true rfl, Nat.le_of_ble_eq_true rfl⟩ ⟨Nat.le_of_ble_eq_true rfl, Nat.le_of_ble_eq_true rfl⟩ hH hS (tRecv hK hH (tyb ha0 (all1 rfl)) clX7) rfl hl.1 (Nat.le_of_ble_eq_true rfl) dX7_right_2 (fun z_1 H locs hq hS => ?_)
  obtain ⟨f_2, f_3, f_4, hH⟩ := hq
  have hH : TH E (tbM (mD (.inl tp) (.inl sp) (.inl nu) (.inl un) (.inl tk) (.inl xt) (.inl wrb) (.inl nab) (.inl iwb)) (xD 660 X0) ws kp as rd sc ty ik) H := hH
  refine z_eq (tgt := 29) F dX7_right_5 (by decide) (fun c_5 => ?_) (fun c_5 => ?_)
  · skip
    have r_6 : 0 ≤ z_1.toInt ∧ z_1.toInt ≤ 0 := by have h9_ := f_2; omega
    refine lv_iconst (v := (-1)) F.1 F.2.1 dX7_right_29 (by decide) ?_
    refine topK (a := (-1)) (by decide) (fun k_9 hk_9 => ?_)
    exact txI F hS dX7_right_30 rfl (⟨(wkb (eqb hk_9) rfl rfl), hH⟩)
  · skip
    have r_7 : 1 ≤ z_1.toInt ∧ z_1.toInt ≤ 1 := by have h9_ := f_2; omega
    have r_8 : 0 ≤ a1.toInt ∧ a1.toInt ≤ 13 := by have h9_ := (i32b a1); omega
    refine lv_iload_n F.1 F.2.1 dX7_right_8 rfl (lv_at hl 2 rfl) ?_
    refine tI2l F dX7_right_9 (fun w_10 hw_10 => ?_)
    refine lv_lconst (v := 0) F.1 F.2.1 dX7_right_10 (by decide) ?_
    refine topKL (a := 0) (by decide) (fun j_11 hj_11 => ?_)
    refine lv_ldc2 (own := RX7) (v := 12) F.1 F.2.1 F.2.2.2.2.1 (F.2.2.2.2.2.2.1 _ wd_41_13) dX7_right_11 ?_
    refine topKL (a := 12) (by decide) (fun j_12 hj_12 => ?_)
    refine tSi (As := [.long w_10, .long j_11, .long j_12]) (rest := []) F hK hN hO (c_X7_in E (mD (.inl tp) (.inl sp) (.inl nu) (.inl un) (.inl tk) (.inl xt) (.inl wrb) (.inl nab) (.inl iwb)) (xD 660 X0) ws kp as rd sc ty ik w_10 j_11 j_12) ms_X7_in wd_8_10 ⟨Nat.le_of_ble_eq_true rfl, Nat.le_of_ble_eq_true rfl⟩ ⟨Nat.le_of_ble_eq_true rfl, Nat.le_of_ble_eq_true rfl⟩ hH hS rfl hl.1 (Nat.le_of_ble_eq_true rfl) dX7_right_14 (fun z_13 H locs hq hS => ?_)
    obtain ⟨f_14, f_15, hH⟩ := hq
    have hH : TH E (tbM (mD (.inl tp) (.inl sp) (.inl nu) (.inl un) (.inl tk) (.inl xt) (.inl wrb) (.inl nab) (.inl iwb)) (xD 660 X0) ws kp as rd sc ty ik) H := hH
    refine z_eq (tgt := 29) F dX7_right_17 (by decide) (fun c_16 => ?_) (fun c_16 => ?_)
    · skip
      have r_17 : 0 ≤ z_13.toInt ∧ z_13.toInt ≤ 0 := by have h9_ := f_14; omega
      refine lv_iconst (v := (-1)) F.1 F.2.1 dX7_right_29 (by decide) ?_
      refine topK (a := (-1)) (by decide) (fun k_20 hk_20 => ?_)
      exact txI F hS dX7_right_30 rfl (⟨(wkb (eqb hk_20) rfl rfl), hH⟩)
    · skip
      have r_18 : 1 ≤ z_13.toInt ∧ z_13.toInt ≤ 1 := by have h9_ := f_14; omega
      have r_19 : 0 ≤ a2.toInt ∧ a2.toInt ≤ 12 := by have h9_ := (i32b a2); omega
      refine lv_aload_n F.1 F.2.1 dX7_right_20 rfl (lv_at hl 0 rfl) ?_
      refine lv_iload_n F.1 F.2.1 dX7_right_21 rfl (lv_at hl 1 rfl) ?_
      refine lv_iload_n F.1 F.2.1 dX7_right_22 rfl (lv_at hl 2 rfl) ?_
      refine tVi (b := a0) (As := [.int a1, .int a2]) (rest := []) F hK hN hO (c_X7_of_any E ws kp as rd sc ty ik un tk xt tp sp wrb nu nab iwb X0 a0 a1 a2 ha0 r_8 r_19 ((hX0).1)) mv_X7_of wd_26_20 ⟨Nat.le_of_ble_eq_true rfl, Nat.le_of_ble_eq_true rfl⟩ ⟨Nat.le_of_ble_eq_true rfl, Nat.le_of_ble_eq_true rfl⟩ hH hS (tRecv hK hH (tyb ha0 (all1 rfl)) clX7) rfl hl.1 (Nat.le_of_ble_eq_true rfl) dX7_right_23 (fun z_21 H locs hq hS => ?_)
      obtain ⟨f_22, hH⟩ := hq
      have hH : TH E (tbM (mD (.inl tp) (.inl sp) (.inl nu) (.inl un) (.inl tk) (.inl xt) (.inl wrb) (.inl nab) (.inl iwb)) (xD 660 X0) ws kp as rd sc ty ik) H := hH
      refine lv_goto (tgt := 30) F.1 F.2.1 dX7_right_26 (by decide) ?_
      exact txI F hS dX7_right_30 rfl (⟨f_22, hH⟩)
set_option maxHeartbeats 4000000 in
set_option maxRecDepth 100000 in
theorem c_X7_store (E : Ev) (ws : TD) (kp : TD) (as : TD) (rd : TD) (sc : TD) (ty : TD) (ik : TD) (un : Int × Int) (tk : Int × Int) (xt : Int × Int) (tp : Int × Int) (sp : Int × Int) (wrb : Int × Int) (nu : Int × Int) (nab : Int × Int) (iwb : Int × Int) (X0 : Nat → Int32) (a0 : Nat) (a1 : Int32) (a2 : Int32) (ha0 : eT E a0 ∈ [24]) (hX0 : okR X0) : TcI E yX7_store cX7_store 3 .int ({ frames := 3, cells := 0, slots := 0, locals := 86 }) [.ref a0, .int a1, .int a2] (fun H => TH E (tbM (mD (.inl tp) (.inl sp) (.inl nu) (.inl un) (.inl tk) (.inl xt) (.inl wrb) (.inl nab) (.inl iwb)) (xD 660 X0) ws kp as rd sc ty ik) H) (fun v H => ((-2147483648) ≤ v.toInt ∧ v.toInt ≤ 2147483647) ∧ TH E (tbM (mD (.inl tp) (.inl sp) (.inl nu) (.inl un) (.inl tk) (.inl xt) (.inl wrb) (.inl nab) (.inl iwb)) (xD 660 X0) ws kp as rd sc ty ik) H) := by
  refine teI (by decide) (Nat.le_of_ble_eq_true rfl) ?_
  intro p_ ev_ s mi_ below_ meth cd_ ls F hK hN hO hH hS hl
  have hH : TH E (tbM (mD (.inl tp) (.inl sp) (.inl nu) (.inl un) (.inl tk) (.inl xt) (.inl wrb) (.inl nab) (.inl iwb)) (xD 660 X0) ws kp as rd sc ty ik) s.heap := hH
  have hl : lv_has ls 3 [(0, .ref a0), (1, .int a1), (2, .int a2)] := hl
  have hBX0 := okB hX0.1
  have hLX0 := hX0.2
  refine lv_aload_n F.1 F.2.1 dX7_store_0 rfl (lv_at hl 0 rfl) ?_
  refine lv_iload_n F.1 F.2.1 dX7_store_1 rfl (lv_at hl 1 rfl) ?_
  refine tVi (b := a0) (As := [.int a1]) (rest := []) F hK hN hO (c_X7_isStore E ws kp as rd sc ty ik un tk xt tp sp wrb nu nab iwb X0 a0 a1 ha0 ((hX0).1)) mv_X7_isStore wd_32_17 ⟨Nat.le_of_ble_eq_true rfl, Nat.le_of_ble_eq_true rfl⟩ ⟨Nat.le_of_ble_eq_true rfl, Nat.le_of_ble_eq_true rfl⟩ hH hS (tRecv hK hH (tyb ha0 (all1 rfl)) clX7) rfl hl.1 (Nat.le_of_ble_eq_true rfl) dX7_store_2 (fun z_1 H locs hq hS => ?_)
  obtain ⟨f_2, f_3, f_4, hH⟩ := hq
  have hH : TH E (tbM (mD (.inl tp) (.inl sp) (.inl nu) (.inl un) (.inl tk) (.inl xt) (.inl wrb) (.inl nab) (.inl iwb)) (xD 660 X0) ws kp as rd sc ty ik) H := hH
  refine z_eq (tgt := 29) F dX7_store_5 (by decide) (fun c_5 => ?_) (fun c_5 => ?_)
  · skip
    have r_6 : 0 ≤ z_1.toInt ∧ z_1.toInt ≤ 0 := by have h9_ := f_2; omega
    refine lv_iconst (v := (-1)) F.1 F.2.1 dX7_store_29 (by decide) ?_
    refine topK (a := (-1)) (by decide) (fun k_9 hk_9 => ?_)
    exact txI F hS dX7_store_30 rfl (⟨(wkb (eqb hk_9) rfl rfl), hH⟩)
  · skip
    have r_7 : 1 ≤ z_1.toInt ∧ z_1.toInt ≤ 1 := by have h9_ := f_2; omega
    have r_8 : 0 ≤ a1.toInt ∧ a1.toInt ≤ 3 := by have h9_ := (i32b a1); omega
    refine lv_iload_n F.1 F.2.1 dX7_store_8 rfl (lv_at hl 2 rfl) ?_
    refine tI2l F dX7_store_9 (fun w_10 hw_10 => ?_)
    refine lv_lconst (v := 0) F.1 F.2.1 dX7_store_10 (by decide) ?_
    refine topKL (a := 0) (by decide) (fun j_11 hj_11 => ?_)
    refine lv_ldc2 (own := RX7) (v := 6) F.1 F.2.1 F.2.2.2.2.1 (F.2.2.2.2.2.2.1 _ wd_42_2) dX7_store_11 ?_
    refine topKL (a := 6) (by decide) (fun j_12 hj_12 => ?_)
    refine tSi (As := [.long w_10, .long j_11, .long j_12]) (rest := []) F hK hN hO (c_X7_in E (mD (.inl tp) (.inl sp) (.inl nu) (.inl un) (.inl tk) (.inl xt) (.inl wrb) (.inl nab) (.inl iwb)) (xD 660 X0) ws kp as rd sc ty ik w_10 j_11 j_12) ms_X7_in wd_8_10 ⟨Nat.le_of_ble_eq_true rfl, Nat.le_of_ble_eq_true rfl⟩ ⟨Nat.le_of_ble_eq_true rfl, Nat.le_of_ble_eq_true rfl⟩ hH hS rfl hl.1 (Nat.le_of_ble_eq_true rfl) dX7_store_14 (fun z_13 H locs hq hS => ?_)
    obtain ⟨f_14, f_15, hH⟩ := hq
    have hH : TH E (tbM (mD (.inl tp) (.inl sp) (.inl nu) (.inl un) (.inl tk) (.inl xt) (.inl wrb) (.inl nab) (.inl iwb)) (xD 660 X0) ws kp as rd sc ty ik) H := hH
    refine z_eq (tgt := 29) F dX7_store_17 (by decide) (fun c_16 => ?_) (fun c_16 => ?_)
    · skip
      have r_17 : 0 ≤ z_13.toInt ∧ z_13.toInt ≤ 0 := by have h9_ := f_14; omega
      refine lv_iconst (v := (-1)) F.1 F.2.1 dX7_store_29 (by decide) ?_
      refine topK (a := (-1)) (by decide) (fun k_20 hk_20 => ?_)
      exact txI F hS dX7_store_30 rfl (⟨(wkb (eqb hk_20) rfl rfl), hH⟩)
    · skip
      have r_18 : 1 ≤ z_13.toInt ∧ z_13.toInt ≤ 1 := by have h9_ := f_14; omega
      have r_19 : 0 ≤ a2.toInt ∧ a2.toInt ≤ 6 := by have h9_ := (i32b a2); omega
      refine lv_aload_n F.1 F.2.1 dX7_store_20 rfl (lv_at hl 0 rfl) ?_
      refine lv_iload_n F.1 F.2.1 dX7_store_21 rfl (lv_at hl 1 rfl) ?_
      refine lv_iload_n F.1 F.2.1 dX7_store_22 rfl (lv_at hl 2 rfl) ?_
      refine tVi (b := a0) (As := [.int a1, .int a2]) (rest := []) F hK hN hO (c_X7_ofStore_any E ws kp as rd sc ty ik un tk xt tp sp wrb nu nab iwb X0 a0 a1 a2 ha0 r_8 r_19 ((hX0).1)) mv_X7_ofStore wd_27_0 ⟨Nat.le_of_ble_eq_true rfl, Nat.le_of_ble_eq_true rfl⟩ ⟨Nat.le_of_ble_eq_true rfl, Nat.le_of_ble_eq_true rfl⟩ hH hS (tRecv hK hH (tyb ha0 (all1 rfl)) clX7) rfl hl.1 (Nat.le_of_ble_eq_true rfl) dX7_store_23 (fun z_21 H locs hq hS => ?_)
      obtain ⟨f_22, hH⟩ := hq
      have hH : TH E (tbM (mD (.inl tp) (.inl sp) (.inl nu) (.inl un) (.inl tk) (.inl xt) (.inl wrb) (.inl nab) (.inl iwb)) (xD 660 X0) ws kp as rd sc ty ik) H := hH
      refine lv_goto (tgt := 30) F.1 F.2.1 dX7_store_26 (by decide) ?_
      exact txI F hS dX7_store_30 rfl (⟨f_22, hH⟩)
set_option maxHeartbeats 4000000 in
set_option maxRecDepth 100000 in
theorem c_X7_coming (E : Ev) (ws : TD) (kp : TD) (as : TD) (rd : TD) (sc : TD) (ty : TD) (ik : TD) (un : Int × Int) (tk : Int × Int) (xt : Int × Int) (tp : Int × Int) (sp : Int × Int) (wrb : Int × Int) (nu : Int × Int) (nab : Int × Int) (iwb : Int × Int) (X0 : Nat → Int32) (a0 : Nat) (a1 : Int32) (a2 : Int32) (ha0 : eT E a0 ∈ [24]) (hX0 : okR X0) : TcI E yX7_coming cX7_coming 3 .int ({ frames := 3, cells := 0, slots := 0, locals := 86 }) [.ref a0, .int a1, .int a2] (fun H => TH E (tbM (mD (.inl tp) (.inl sp) (.inl nu) (.inl un) (.inl tk) (.inl xt) (.inl wrb) (.inl nab) (.inl iwb)) (xD 660 X0) ws kp as rd sc ty ik) H) (fun v H => ((-2147483648) ≤ v.toInt ∧ v.toInt ≤ 2147483647) ∧ TH E (tbM (mD (.inl tp) (.inl sp) (.inl nu) (.inl un) (.inl tk) (.inl xt) (.inl wrb) (.inl nab) (.inl iwb)) (xD 660 X0) ws kp as rd sc ty ik) H) := by
  refine teI (by decide) (Nat.le_of_ble_eq_true rfl) ?_
  intro p_ ev_ s mi_ below_ meth cd_ ls F hK hN hO hH hS hl
  have hH : TH E (tbM (mD (.inl tp) (.inl sp) (.inl nu) (.inl un) (.inl tk) (.inl xt) (.inl wrb) (.inl nab) (.inl iwb)) (xD 660 X0) ws kp as rd sc ty ik) s.heap := hH
  have hl : lv_has ls 3 [(0, .ref a0), (1, .int a1), (2, .int a2)] := hl
  have hBX0 := okB hX0.1
  have hLX0 := hX0.2
  refine lv_aload_n F.1 F.2.1 dX7_coming_0 rfl (lv_at hl 0 rfl) ?_
  refine lv_iload_n F.1 F.2.1 dX7_coming_1 rfl (lv_at hl 1 rfl) ?_
  refine tVi (b := a0) (As := [.int a1]) (rest := []) F hK hN hO (c_X7_isReach E ws kp as rd sc ty ik un tk xt tp sp wrb nu nab iwb X0 a0 a1 ha0 ((hX0).1)) mv_X7_isReach wd_37_8 ⟨Nat.le_of_ble_eq_true rfl, Nat.le_of_ble_eq_true rfl⟩ ⟨Nat.le_of_ble_eq_true rfl, Nat.le_of_ble_eq_true rfl⟩ hH hS (tRecv hK hH (tyb ha0 (all1 rfl)) clX7) rfl hl.1 (Nat.le_of_ble_eq_true rfl) dX7_coming_2 (fun z_1 H locs hq hS => ?_)
  obtain ⟨f_2, f_3, f_4, hH⟩ := hq
  have hH : TH E (tbM (mD (.inl tp) (.inl sp) (.inl nu) (.inl un) (.inl tk) (.inl xt) (.inl wrb) (.inl nab) (.inl iwb)) (xD 660 X0) ws kp as rd sc ty ik) H := hH
  refine z_eq (tgt := 29) F dX7_coming_5 (by decide) (fun c_5 => ?_) (fun c_5 => ?_)
  · skip
    have r_6 : 0 ≤ z_1.toInt ∧ z_1.toInt ≤ 0 := by have h9_ := f_2; omega
    refine lv_iconst (v := (-1)) F.1 F.2.1 dX7_coming_29 (by decide) ?_
    refine topK (a := (-1)) (by decide) (fun k_9 hk_9 => ?_)
    exact txI F hS dX7_coming_30 rfl (⟨(wkb (eqb hk_9) rfl rfl), hH⟩)
  · skip
    have r_7 : 1 ≤ z_1.toInt ∧ z_1.toInt ≤ 1 := by have h9_ := f_2; omega
    have r_8 : 0 ≤ a1.toInt ∧ a1.toInt ≤ 11 := by have h9_ := (i32b a1); omega
    refine lv_iload_n F.1 F.2.1 dX7_coming_8 rfl (lv_at hl 2 rfl) ?_
    refine tI2l F dX7_coming_9 (fun w_10 hw_10 => ?_)
    refine lv_lconst (v := 0) F.1 F.2.1 dX7_coming_10 (by decide) ?_
    refine topKL (a := 0) (by decide) (fun j_11 hj_11 => ?_)
    refine lv_ldc2 (own := RX7) (v := 29) F.1 F.2.1 F.2.2.2.2.1 (F.2.2.2.2.2.2.1 _ wd_51_15) dX7_coming_11 ?_
    refine topKL (a := 29) (by decide) (fun j_12 hj_12 => ?_)
    refine tSi (As := [.long w_10, .long j_11, .long j_12]) (rest := []) F hK hN hO (c_X7_in E (mD (.inl tp) (.inl sp) (.inl nu) (.inl un) (.inl tk) (.inl xt) (.inl wrb) (.inl nab) (.inl iwb)) (xD 660 X0) ws kp as rd sc ty ik w_10 j_11 j_12) ms_X7_in wd_8_10 ⟨Nat.le_of_ble_eq_true rfl, Nat.le_of_ble_eq_true rfl⟩ ⟨Nat.le_of_ble_eq_true rfl, Nat.le_of_ble_eq_true rfl⟩ hH hS rfl hl.1 (Nat.le_of_ble_eq_true rfl) dX7_coming_14 (fun z_13 H locs hq hS => ?_)
    obtain ⟨f_14, f_15, hH⟩ := hq
    have hH : TH E (tbM (mD (.inl tp) (.inl sp) (.inl nu) (.inl un) (.inl tk) (.inl xt) (.inl wrb) (.inl nab) (.inl iwb)) (xD 660 X0) ws kp as rd sc ty ik) H := hH
    refine z_eq (tgt := 29) F dX7_coming_17 (by decide) (fun c_16 => ?_) (fun c_16 => ?_)
    · skip
      have r_17 : 0 ≤ z_13.toInt ∧ z_13.toInt ≤ 0 := by have h9_ := f_14; omega
      refine lv_iconst (v := (-1)) F.1 F.2.1 dX7_coming_29 (by decide) ?_
      refine topK (a := (-1)) (by decide) (fun k_20 hk_20 => ?_)
      exact txI F hS dX7_coming_30 rfl (⟨(wkb (eqb hk_20) rfl rfl), hH⟩)
    · skip
      have r_18 : 1 ≤ z_13.toInt ∧ z_13.toInt ≤ 1 := by have h9_ := f_14; omega
      have r_19 : 0 ≤ a2.toInt ∧ a2.toInt ≤ 29 := by have h9_ := (i32b a2); omega
      refine lv_aload_n F.1 F.2.1 dX7_coming_20 rfl (lv_at hl 0 rfl) ?_
      refine lv_iload_n F.1 F.2.1 dX7_coming_21 rfl (lv_at hl 1 rfl) ?_
      refine lv_iload_n F.1 F.2.1 dX7_coming_22 rfl (lv_at hl 2 rfl) ?_
      refine tVi (b := a0) (As := [.int a1, .int a2]) (rest := []) F hK hN hO (c_X7_backIn E ws kp as rd sc ty ik un tk xt tp sp wrb nu nab iwb X0 a0 a1 a2 ha0 r_8 (wkb r_19 rfl rfl) ((hX0).1)) mv_X7_backIn wd_28_22 ⟨Nat.le_of_ble_eq_true rfl, Nat.le_of_ble_eq_true rfl⟩ ⟨Nat.le_of_ble_eq_true rfl, Nat.le_of_ble_eq_true rfl⟩ hH hS (tRecv hK hH (tyb ha0 (all1 rfl)) clX7) rfl hl.1 (Nat.le_of_ble_eq_true rfl) dX7_coming_23 (fun z_21 H locs hq hS => ?_)
      obtain ⟨f_22, hH⟩ := hq
      have hH : TH E (tbM (mD (.inl tp) (.inl sp) (.inl nu) (.inl un) (.inl tk) (.inl xt) (.inl wrb) (.inl nab) (.inl iwb)) (xD 660 X0) ws kp as rd sc ty ik) H := hH
      refine lv_goto (tgt := 30) F.1 F.2.1 dX7_coming_26 (by decide) ?_
      exact txI F hS dX7_coming_30 rfl (⟨f_22, hH⟩)
set_option maxHeartbeats 4000000 in
set_option maxRecDepth 100000 in
theorem c_X7_above (E : Ev) (ws : TD) (kp : TD) (as : TD) (rd : TD) (sc : TD) (ty : TD) (ik : TD) (un : Int × Int) (tk : Int × Int) (xt : Int × Int) (tp : Int × Int) (sp : Int × Int) (wrb : Int × Int) (nu : Int × Int) (nab : Int × Int) (iwb : Int × Int) (X0 : Nat → Int32) (a0 : Nat) (a1 : Int32) (ha0 : eT E a0 ∈ [24]) (hX0 : okR X0) : TcI E yX7_above cX7_above 4 .int ({ frames := 3, cells := 0, slots := 0, locals := 86 }) [.ref a0, .int a1] (fun H => TH E (tbM (mD (.inl tp) (.inl sp) (.inl nu) (.inl un) (.inl tk) (.inl xt) (.inl wrb) (.inl nab) (.inl iwb)) (xD 660 X0) ws kp as rd sc ty ik) H) (fun v H => ((-2147483648) ≤ v.toInt ∧ v.toInt ≤ 2147483647) ∧ TH E (tbM (mD (.inl tp) (.inl sp) (.inl nu) (.inl un) (.inl tk) (.inl xt) (.inl wrb) (.inl nab) (.inl iwb)) (xD 660 X0) ws kp as rd sc ty ik) H) := by
  refine teI (by decide) (Nat.le_of_ble_eq_true rfl) ?_
  intro p_ ev_ s mi_ below_ meth cd_ ls F hK hN hO hH hS hl
  have hH : TH E (tbM (mD (.inl tp) (.inl sp) (.inl nu) (.inl un) (.inl tk) (.inl xt) (.inl wrb) (.inl nab) (.inl iwb)) (xD 660 X0) ws kp as rd sc ty ik) s.heap := hH
  have hl : lv_has ls 4 [(0, .ref a0), (1, .int a1)] := hl
  have hBX0 := okB hX0.1
  have hLX0 := hX0.2
  refine lv_aload_n F.1 F.2.1 dX7_above_0 rfl (lv_at hl 0 rfl) ?_
  refine lv_iload_n F.1 F.2.1 dX7_above_1 rfl (lv_at hl 1 rfl) ?_
  refine tVi (b := a0) (As := [.int a1]) (rest := []) F hK hN hO (c_X7_isReach E ws kp as rd sc ty ik un tk xt tp sp wrb nu nab iwb X0 a0 a1 ha0 ((hX0).1)) mv_X7_isReach wd_37_8 ⟨Nat.le_of_ble_eq_true rfl, Nat.le_of_ble_eq_true rfl⟩ ⟨Nat.le_of_ble_eq_true rfl, Nat.le_of_ble_eq_true rfl⟩ hH hS (tRecv hK hH (tyb ha0 (all1 rfl)) clX7) rfl hl.1 (Nat.le_of_ble_eq_true rfl) dX7_above_2 (fun z_1 H locs hq hS => ?_)
  obtain ⟨f_2, f_3, f_4, hH⟩ := hq
  have hH : TH E (tbM (mD (.inl tp) (.inl sp) (.inl nu) (.inl un) (.inl tk) (.inl xt) (.inl wrb) (.inl nab) (.inl iwb)) (xD 660 X0) ws kp as rd sc ty ik) H := hH
  refine z_ne (tgt := 10) F dX7_above_5 (by decide) (fun c_5 => ?_) (fun c_5 => ?_)
  · skip
    have r_6 : 1 ≤ z_1.toInt ∧ z_1.toInt ≤ 1 := by have h9_ := f_2; omega
    have r_7 : 0 ≤ a1.toInt ∧ a1.toInt ≤ 11 := by have h9_ := (i32b a1); omega
    refine lv_iconst (v := 0) F.1 F.2.1 dX7_above_10 (by decide) ?_
    refine topK (a := 0) (by decide) (fun k_9 hk_9 => ?_)
    refine lv_istore_n (lv' := [(2, .int k_9), (0, .ref a0), (1, .int a1)]) F.1 F.2.1 dX7_above_11 rfl hl (by decide) rfl (fun ls hl => ?_)
    refine lv_iconst (v := 0) F.1 F.2.1 dX7_above_12 (by decide) ?_
    refine topK (a := 0) (by decide) (fun k_10 hk_10 => ?_)
    refine lv_istore_n (lv' := [(3, .int k_10), (2, .int k_9), (0, .ref a0), (1, .int a1)]) F.1 F.2.1 dX7_above_13 rfl hl (by decide) rfl (fun ls hl => ?_)
    refine wloop (σ := Int32 × Int32) (fun n9 x9 H locs ls => (12 - x9.2.toInt + 1).toNat < n9 ∧ (0 ≤ x9.2.toInt ∧ x9.2.toInt ≤ 12) ∧ TH E (tbM (mD (.inl tp) (.inl sp) (.inl nu) (.inl un) (.inl tk) (.inl xt) (.inl wrb) (.inl nab) (.inl iwb)) (xD 660 X0) ws kp as rd sc ty ik) H ∧ va_S (eA E s.heap.size) s.heap H locs ∧ lv_has ls 4 [(0, .ref a0), (1, .int a1), (2, .int x9.1), (3, .int x9.2)]) ?_ (fun x9 H locs ls h => absurd h.1 (Nat.not_lt_zero _)) _ (k_9, k_10) ⟨Nat.lt_succ_self _, (wkb (eqb hk_10) rfl rfl), hH, hS, lv_sub hl [2, 3, 1, 0] rfl⟩
    intro n_14 ih_14 ⟨u_11, u_12⟩ H locs ls ⟨hm_14, hu_12, hH, hS, hl⟩
    have hm_14 : (12 - u_12.toInt + 1).toNat < n_14 + 1 := hm_14
    have hu_12 : (0 ≤ u_12.toInt ∧ u_12.toInt ≤ 12) := hu_12
    have hH : TH E (tbM (mD (.inl tp) (.inl sp) (.inl nu) (.inl un) (.inl tk) (.inl xt) (.inl wrb) (.inl nab) (.inl iwb)) (xD 660 X0) ws kp as rd sc ty ik) H := hH
    have hl : lv_has ls 4 [(0, .ref a0), (1, .int a1), (2, .int u_11), (3, .int u_12)] := hl
    refine lv_iload_n F.1 F.2.1 dX7_above_14 rfl (lv_at hl 3 rfl) ?_
    refine lv_aload_n F.1 F.2.1 dX7_above_15 rfl (lv_at hl 0 rfl) ?_
    refine tVi (b := a0) (As := []) (rest := [.int u_12]) F hK hN hO (c_X7_reaches E ws kp as rd sc ty ik un tk xt tp sp wrb nu nab iwb X0 a0 ha0 ((hX0).1)) mv_X7_reaches wd_28_7 ⟨Nat.le_of_ble_eq_true rfl, Nat.le_of_ble_eq_true rfl⟩ ⟨Nat.le_of_ble_eq_true rfl, Nat.le_of_ble_eq_true rfl⟩ hH hS (tRecv hK hH (tyb ha0 (all1 rfl)) clX7) rfl hl.1 (Nat.le_of_ble_eq_true rfl) dX7_above_16 (fun z_13 H locs hq hS => ?_)
    obtain ⟨f_14, f_15, hH⟩ := hq
    have hH : TH E (tbM (mD (.inl tp) (.inl sp) (.inl nu) (.inl un) (.inl tk) (.inl xt) (.inl wrb) (.inl nab) (.inl iwb)) (xD 660 X0) ws kp as rd sc ty ik) H := hH
    refine b_ge (tgt := 47) F dX7_above_19 (by decide) (fun c_16 => ?_) (fun c_16 => ?_)
    · skip
      refine lv_iload_n F.1 F.2.1 dX7_above_47 rfl (lv_at hl 2 rfl) ?_
      exact txI F hS dX7_above_48 rfl (⟨(i32b _), hH⟩)
    · skip
      have r_17 : 0 ≤ u_12.toInt ∧ u_12.toInt ≤ 11 := by have h9_ := hu_12; omega
      have r_18 : 1 ≤ z_13.toInt ∧ z_13.toInt ≤ 12 := by have h9_ := f_14; omega
      refine lv_iload_n F.1 F.2.1 dX7_above_22 rfl (lv_at hl 2 rfl) ?_
      refine lv_aload_n F.1 F.2.1 dX7_above_23 rfl (lv_at hl 0 rfl) ?_
      refine lv_iload_n F.1 F.2.1 dX7_above_24 rfl (lv_at hl 3 rfl) ?_
      refine lv_iload_n F.1 F.2.1 dX7_above_25 rfl (lv_at hl 1 rfl) ?_
      refine tVi (b := a0) (As := [.int u_12, .int a1]) (rest := [.int u_11]) F hK hN hO (c_X7_runsTo E ws kp as rd sc ty ik un tk xt tp sp wrb nu nab iwb X0 a0 u_12 a1 ha0 r_17 hX0 (by omega)) mv_X7_runsTo wd_29_6 ⟨Nat.le_of_ble_eq_true rfl, Nat.le_of_ble_eq_true rfl⟩ ⟨Nat.le_of_ble_eq_true rfl, Nat.le_of_ble_eq_true rfl⟩ hH hS (tRecv hK hH (tyb ha0 (all1 rfl)) clX7) rfl hl.1 (Nat.le_of_ble_eq_true rfl) dX7_above_26 (fun z_19 H locs hq hS => ?_)
      obtain ⟨f_20, hH⟩ := hq
      have hH : TH E (tbM (mD (.inl tp) (.inl sp) (.inl nu) (.inl un) (.inl tk) (.inl xt) (.inl wrb) (.inl nab) (.inl iwb)) (xD 660 X0) ws kp as rd sc ty ik) H := hH
      refine z_eq (tgt := 38) F dX7_above_29 (by decide) (fun c_21 => ?_) (fun c_21 => ?_)
      · skip
        have r_22 : 0 ≤ z_19.toInt ∧ z_19.toInt ≤ 0 := by have h9_ := f_20; omega
        refine lv_iconst (v := 0) F.1 F.2.1 dX7_above_38 (by decide) ?_
        refine topK (a := 0) (by decide) (fun k_24 hk_24 => ?_)
        refine lv_ior F.1 F.2.1 dX7_above_39 ?_
        refine topF (fun z_25 => ?_)
        refine lv_istore_n (lv' := [(2, .int z_25), (0, .ref a0), (1, .int a1), (3, .int u_12)]) F.1 F.2.1 dX7_above_40 rfl hl (by decide) rfl (fun ls hl => ?_)
        obtain ⟨x_26, ex_26, hx_26⟩ := iincB (c := 1) (lo := 1) (hi := 12) r_17 rfl
        refine lv_iinc (v := x_26) (lv' := [(3, .int x_26), (2, .int z_25), (0, .ref a0), (1, .int a1)]) F.1 F.2.1 dX7_above_41 hl (k := 3) rfl ex_26 (by decide) rfl (fun ls hl => ?_)
        refine lv_goto (tgt := 14) F.1 F.2.1 dX7_above_44 (by decide) ?_
        exact ih_14 (z_25, x_26) _ _ _ ⟨(show (12 - x_26.toInt + 1).toNat < n_14 from by omega), (wkb hx_26.2 rfl rfl), hH, hS, lv_sub hl [2, 3, 1, 0] rfl⟩
      · skip
        have r_23 : 1 ≤ z_19.toInt ∧ z_19.toInt ≤ 1 := by have h9_ := f_20; omega
        refine lv_iconst (v := 1) F.1 F.2.1 dX7_above_32 (by decide) ?_
        refine topK (a := 1) (by decide) (fun k_27 hk_27 => ?_)
        refine lv_iload_n F.1 F.2.1 dX7_above_33 rfl (lv_at hl 3 rfl) ?_
        refine lv_ishl F.1 F.2.1 dX7_above_34 ?_
        refine topF (fun z_28 => ?_)
        refine lv_goto (tgt := 39) F.1 F.2.1 dX7_above_35 (by decide) ?_
        refine lv_ior F.1 F.2.1 dX7_above_39 ?_
        refine topF (fun z_29 => ?_)
        refine lv_istore_n (lv' := [(2, .int z_29), (0, .ref a0), (1, .int a1), (3, .int u_12)]) F.1 F.2.1 dX7_above_40 rfl hl (by decide) rfl (fun ls hl => ?_)
        obtain ⟨x_30, ex_30, hx_30⟩ := iincB (c := 1) (lo := 1) (hi := 12) r_17 rfl
        refine lv_iinc (v := x_30) (lv' := [(3, .int x_30), (2, .int z_29), (0, .ref a0), (1, .int a1)]) F.1 F.2.1 dX7_above_41 hl (k := 3) rfl ex_30 (by decide) rfl (fun ls hl => ?_)
        refine lv_goto (tgt := 14) F.1 F.2.1 dX7_above_44 (by decide) ?_
        exact ih_14 (z_29, x_30) _ _ _ ⟨(show (12 - x_30.toInt + 1).toNat < n_14 from by omega), (wkb hx_30.2 rfl rfl), hH, hS, lv_sub hl [2, 3, 1, 0] rfl⟩
  · skip
    have r_8 : 0 ≤ z_1.toInt ∧ z_1.toInt ≤ 0 := by have h9_ := f_2; omega
    refine lv_iconst (v := (-1)) F.1 F.2.1 dX7_above_8 (by decide) ?_
    refine topK (a := (-1)) (by decide) (fun k_31 hk_31 => ?_)
    exact txI F hS dX7_above_9 rfl (⟨(wkb (eqb hk_31) rfl rfl), hH⟩)
set_option maxHeartbeats 4000000 in
set_option maxRecDepth 100000 in
theorem c_X7_flow (E : Ev) (ws : TD) (kp : TD) (as : TD) (rd : TD) (ty : TD) (ik : TD) (un : Int × Int) (xt : Int × Int) (tp : Int × Int) (sp : Int × Int) (wrb : Int × Int) (nu : Int × Int) (nab : Int × Int) (iwb : Int × Int) (X0 : Nat → Int32) (a0 : Nat) (a1 : Int32) (a2 : Int32) (ha0 : eT E a0 ∈ [24]) (hX0 : okR X0) : TcI E yX7_flow cX7_flow 3 .int ({ frames := 8, cells := 0, slots := 0, locals := 201 }) [.ref a0, .int a1, .int a2] (fun H => TH E (tbM (mD (.inl tp) (.inl sp) (.inl nu) (.inl un) (.inl (0, 18)) (.inl xt) (.inl wrb) (.inl nab) (.inl iwb)) (xD 660 X0) ws kp as rd m_second ty ik) H) (fun v H => ((-2147483648) ≤ v.toInt ∧ v.toInt ≤ 2147483647) ∧ TH E (tbM (mD (.inl tp) (.inl sp) (.inl nu) (.inl un) (.inl (0, 18)) (.inl xt) (.inl wrb) (.inl nab) (.inl iwb)) (xD 660 X0) ws kp as rd m_second ty ik) H) := by
  refine teI (by decide) (Nat.le_of_ble_eq_true rfl) ?_
  intro p_ ev_ s mi_ below_ meth cd_ ls F hK hN hO hH hS hl
  have hH : TH E (tbM (mD (.inl tp) (.inl sp) (.inl nu) (.inl un) (.inl (0, 18)) (.inl xt) (.inl wrb) (.inl nab) (.inl iwb)) (xD 660 X0) ws kp as rd m_second ty ik) s.heap := hH
  have hl : lv_has ls 3 [(0, .ref a0), (1, .int a1), (2, .int a2)] := hl
  have hBX0 := okB hX0.1
  have hLX0 := hX0.2
  refine lv_aload_n F.1 F.2.1 dX7_flow_0 rfl (lv_at hl 0 rfl) ?_
  refine lv_iload_n F.1 F.2.1 dX7_flow_1 rfl (lv_at hl 1 rfl) ?_
  refine tVi (b := a0) (As := [.int a1]) (rest := []) F hK hN hO (c_X7_isReach E ws kp as rd m_second ty ik un (0, 18) xt tp sp wrb nu nab iwb X0 a0 a1 ha0 ((hX0).1)) mv_X7_isReach wd_37_8 ⟨Nat.le_of_ble_eq_true rfl, Nat.le_of_ble_eq_true rfl⟩ ⟨Nat.le_of_ble_eq_true rfl, Nat.le_of_ble_eq_true rfl⟩ hH hS (tRecv hK hH (tyb ha0 (all1 rfl)) clX7) rfl hl.1 (Nat.le_of_ble_eq_true rfl) dX7_flow_2 (fun z_1 H locs hq hS => ?_)
  obtain ⟨f_2, f_3, f_4, hH⟩ := hq
  have hH : TH E (tbM (mD (.inl tp) (.inl sp) (.inl nu) (.inl un) (.inl (0, 18)) (.inl xt) (.inl wrb) (.inl nab) (.inl iwb)) (xD 660 X0) ws kp as rd m_second ty ik) H := hH
  refine z_ne (tgt := 10) F dX7_flow_5 (by decide) (fun c_5 => ?_) (fun c_5 => ?_)
  · skip
    have r_6 : 1 ≤ z_1.toInt ∧ z_1.toInt ≤ 1 := by have h9_ := f_2; omega
    have r_7 : 0 ≤ a1.toInt ∧ a1.toInt ≤ 11 := by have h9_ := (i32b a1); omega
    refine lv_aload_n F.1 F.2.1 dX7_flow_10 rfl (lv_at hl 0 rfl) ?_
    refine tVv (b := a0) (As := []) (rest := []) F hK hN hO (c_X7_works E ws kp as rd ty ik un xt tp sp wrb nu nab iwb X0 a0 ha0 hX0) mv_X7_works wd_25_15 ⟨Nat.le_of_ble_eq_true rfl, Nat.le_of_ble_eq_true rfl⟩ ⟨Nat.le_of_ble_eq_true rfl, Nat.le_of_ble_eq_true rfl⟩ hH hS (tRecv hK hH (tyb ha0 (all1 rfl)) clX7) rfl hl.1 (Nat.le_of_ble_eq_true rfl) dX7_flow_11 (fun H locs hq hS => ?_)
    have hH := hq
    have hH : TH E (tbM (mD (.inl tp) (.inl sp) (.inl nu) (.inl un) (.inl (0, 18)) (.inl xt) (.inl wrb) (.inl nab) (.inl iwb)) (xD 660 X0) ws kp as rd m_second ty ik) H := hH
    refine lv_iload_n F.1 F.2.1 dX7_flow_14 rfl (lv_at hl 2 rfl) ?_
    rcases (by omega : (a2.toInt < 0 ∨ 4 < a2.toInt) ∨ a2.toInt = 0 ∨ a2.toInt = 1 ∨ a2.toInt = 2 ∨ a2.toInt = 3 ∨ a2.toInt = 4) with w_10 | w_10 | w_10 | w_10 | w_10 | w_10
    · skip
      refine tTabOut (tgt := 82) F dX7_flow_15 w_10 (by decide) ?_
      refine lv_iconst (v := (-1)) F.1 F.2.1 dX7_flow_82 (by decide) ?_
      refine topK (a := (-1)) (by decide) (fun k_11 hk_11 => ?_)
      exact txI F hS dX7_flow_83 rfl (⟨(wkb (eqb hk_11) rfl rfl), hH⟩)
    · skip
      refine tTabIn (off := 33) (tgt := 48) F dX7_flow_15 w_10 (by decide) (by decide) (by decide +kernel) (by decide) ?_
      refine lv_aload_n F.1 F.2.1 dX7_flow_48 rfl (lv_at hl 0 rfl) ?_
      refine lv_iload_n F.1 F.2.1 dX7_flow_49 rfl (lv_at hl 1 rfl) ?_
      refine tVi (b := a0) (As := [.int a1]) (rest := []) F hK hN hO (c_X7_inflowOf E ws kp as rd m_second ty ik un (0, 18) xt tp sp wrb nu nab iwb X0 a0 a1 ha0 r_7 ((hX0).1)) mv_X7_inflowOf wd_28_11 ⟨Nat.le_of_ble_eq_true rfl, Nat.le_of_ble_eq_true rfl⟩ ⟨Nat.le_of_ble_eq_true rfl, Nat.le_of_ble_eq_true rfl⟩ hH hS (tRecv hK hH (tyb ha0 (all1 rfl)) clX7) rfl hl.1 (Nat.le_of_ble_eq_true rfl) dX7_flow_50 (fun z_12 H locs hq hS => ?_)
      obtain ⟨f_13, hH⟩ := hq
      have hH : TH E (tbM (mD (.inl tp) (.inl sp) (.inl nu) (.inl un) (.inl (0, 18)) (.inl xt) (.inl wrb) (.inl nab) (.inl iwb)) (xD 660 X0) ws kp as rd m_second ty ik) H := hH
      exact txI F hS dX7_flow_53 rfl (⟨f_13, hH⟩)
    · skip
      refine tTabIn (off := 39) (tgt := 54) F dX7_flow_15 w_10 (by decide) (by decide) (by decide +kernel) (by decide) ?_
      refine lv_aload_n F.1 F.2.1 dX7_flow_54 rfl (lv_at hl 0 rfl) ?_
      refine lv_iload_n F.1 F.2.1 dX7_flow_55 rfl (lv_at hl 1 rfl) ?_
      refine lv_iconst (v := 0) F.1 F.2.1 dX7_flow_56 (by decide) ?_
      refine topK (a := 0) (by decide) (fun k_14 hk_14 => ?_)
      refine tVi (b := a0) (As := [.int a1, .int k_14]) (rest := []) F hK hN hO (c_X7_backIn E ws kp as rd m_second ty ik un (0, 18) xt tp sp wrb nu nab iwb X0 a0 a1 k_14 ha0 r_7 (wkb (eqb hk_14) rfl rfl) ((hX0).1)) mv_X7_backIn wd_28_22 ⟨Nat.le_of_ble_eq_true rfl, Nat.le_of_ble_eq_true rfl⟩ ⟨Nat.le_of_ble_eq_true rfl, Nat.le_of_ble_eq_true rfl⟩ hH hS (tRecv hK hH (tyb ha0 (all1 rfl)) clX7) rfl hl.1 (Nat.le_of_ble_eq_true rfl) dX7_flow_57 (fun z_15 H locs hq hS => ?_)
      obtain ⟨f_16, hH⟩ := hq
      have hH : TH E (tbM (mD (.inl tp) (.inl sp) (.inl nu) (.inl un) (.inl (0, 18)) (.inl xt) (.inl wrb) (.inl nab) (.inl iwb)) (xD 660 X0) ws kp as rd m_second ty ik) H := hH
      exact txI F hS dX7_flow_60 rfl (⟨f_16, hH⟩)
    · skip
      refine tTabIn (off := 46) (tgt := 61) F dX7_flow_15 w_10 (by decide) (by decide) (by decide +kernel) (by decide) ?_
      refine lv_aload_n F.1 F.2.1 dX7_flow_61 rfl (lv_at hl 0 rfl) ?_
      refine tGetR (j := 14) F hK hH (tyb ha0 (all1 rfl)) rfl (all1 rfl) clX7 (by decide) wd_6_18 dX7_flow_62 (fun q_17 hq_17 _ => ?_)
      refine lv_iload_n F.1 F.2.1 dX7_flow_65 rfl (lv_at hl 1 rfl) ?_
      refine tIaldB F hK hH (tyb hq_17 (all1 rfl)) (ixb (n := 12) r_7 rfl rfl) dX7_flow_66 (fun z_18 hz_18 => ?_)
      exact txI F hS dX7_flow_67 rfl (⟨hz_18, hH⟩)
    · skip
      refine tTabIn (off := 53) (tgt := 68) F dX7_flow_15 w_10 (by decide) (by decide) (by decide +kernel) (by decide) ?_
      refine lv_aload_n F.1 F.2.1 dX7_flow_68 rfl (lv_at hl 0 rfl) ?_
      refine tGetR (j := 12) F hK hH (tyb ha0 (all1 rfl)) rfl (all1 rfl) clX7 (by decide) wd_6_16 dX7_flow_69 (fun q_19 hq_19 _ => ?_)
      refine lv_iload_n F.1 F.2.1 dX7_flow_72 rfl (lv_at hl 1 rfl) ?_
      refine tIaldB F hK hH (tyb hq_19 (all1 rfl)) (ixb (n := 12) r_7 rfl rfl) dX7_flow_73 (fun z_20 hz_20 => ?_)
      exact txI F hS dX7_flow_74 rfl (⟨hz_20, hH⟩)
    · skip
      refine tTabIn (off := 60) (tgt := 75) F dX7_flow_15 w_10 (by decide) (by decide) (by decide +kernel) (by decide) ?_
      refine lv_aload_n F.1 F.2.1 dX7_flow_75 rfl (lv_at hl 0 rfl) ?_
      refine tGetR (j := 15) F hK hH (tyb ha0 (all1 rfl)) rfl (all1 rfl) clX7 (by decide) wd_6_19 dX7_flow_76 (fun q_21 hq_21 _ => ?_)
      refine lv_iload_n F.1 F.2.1 dX7_flow_79 rfl (lv_at hl 1 rfl) ?_
      refine tIaldB F hK hH (tyb hq_21 (all1 rfl)) (ixb (n := 12) r_7 rfl rfl) dX7_flow_80 (fun z_22 hz_22 => ?_)
      exact txI F hS dX7_flow_81 rfl (⟨hz_22, hH⟩)
  · skip
    have r_8 : 0 ≤ z_1.toInt ∧ z_1.toInt ≤ 0 := by have h9_ := f_2; omega
    refine lv_iconst (v := (-1)) F.1 F.2.1 dX7_flow_8 (by decide) ?_
    refine topK (a := (-1)) (by decide) (fun k_23 hk_23 => ?_)
    exact txI F hS dX7_flow_9 rfl (⟨(wkb (eqb hk_23) rfl rfl), hH⟩)
set_option maxHeartbeats 4000000 in
set_option maxRecDepth 100000 in
theorem c_X7_takes (E : Ev) (ws : TD) (kp : TD) (as : TD) (rd : TD) (ty : TD) (ik : TD) (un : Int × Int) (xt : Int × Int) (tp : Int × Int) (sp : Int × Int) (wrb : Int × Int) (nu : Int × Int) (nab : Int × Int) (iwb : Int × Int) (X0 : Nat → Int32) (a0 : Nat) (a1 : Int32) (a2 : Int32) (ha0 : eT E a0 ∈ [24]) (hX0 : okR X0) : TcI E yX7_takes cX7_takes 3 .int ({ frames := 8, cells := 0, slots := 0, locals := 201 }) [.ref a0, .int a1, .int a2] (fun H => TH E (tbM (mD (.inl tp) (.inl sp) (.inl nu) (.inl un) (.inl (0, 18)) (.inl xt) (.inl wrb) (.inl nab) (.inl iwb)) (xD 660 X0) ws kp as rd m_second ty ik) H) (fun v H => ((-2147483648) ≤ v.toInt ∧ v.toInt ≤ 2147483647) ∧ TH E (tbM (mD (.inl tp) (.inl sp) (.inl nu) (.inl un) (.inl (0, 18)) (.inl xt) (.inl wrb) (.inl nab) (.inl iwb)) (xD 660 X0) ws kp as rd m_second ty ik) H) := by
  refine teI (by decide) (Nat.le_of_ble_eq_true rfl) ?_
  intro p_ ev_ s mi_ below_ meth cd_ ls F hK hN hO hH hS hl
  have hH : TH E (tbM (mD (.inl tp) (.inl sp) (.inl nu) (.inl un) (.inl (0, 18)) (.inl xt) (.inl wrb) (.inl nab) (.inl iwb)) (xD 660 X0) ws kp as rd m_second ty ik) s.heap := hH
  have hl : lv_has ls 3 [(0, .ref a0), (1, .int a1), (2, .int a2)] := hl
  have hBX0 := okB hX0.1
  have hLX0 := hX0.2
  refine lv_aload_n F.1 F.2.1 dX7_takes_0 rfl (lv_at hl 0 rfl) ?_
  refine lv_iload_n F.1 F.2.1 dX7_takes_1 rfl (lv_at hl 1 rfl) ?_
  refine tVi (b := a0) (As := [.int a1]) (rest := []) F hK hN hO (c_X7_isRight E ws kp as rd m_second ty ik un (0, 18) xt tp sp wrb nu nab iwb X0 a0 a1 ha0 ((hX0).1)) mv_X7_isRight wd_31_18 ⟨Nat.le_of_ble_eq_true rfl, Nat.le_of_ble_eq_true rfl⟩ ⟨Nat.le_of_ble_eq_true rfl, Nat.le_of_ble_eq_true rfl⟩ hH hS (tRecv hK hH (tyb ha0 (all1 rfl)) clX7) rfl hl.1 (Nat.le_of_ble_eq_true rfl) dX7_takes_2 (fun z_1 H locs hq hS => ?_)
  obtain ⟨f_2, f_3, f_4, hH⟩ := hq
  have hH : TH E (tbM (mD (.inl tp) (.inl sp) (.inl nu) (.inl un) (.inl (0, 18)) (.inl xt) (.inl wrb) (.inl nab) (.inl iwb)) (xD 660 X0) ws kp as rd m_second ty ik) H := hH
  refine z_ne (tgt := 10) F dX7_takes_5 (by decide) (fun c_5 => ?_) (fun c_5 => ?_)
  · skip
    have r_6 : 1 ≤ z_1.toInt ∧ z_1.toInt ≤ 1 := by have h9_ := f_2; omega
    have r_7 : 0 ≤ a1.toInt ∧ a1.toInt ≤ 13 := by have h9_ := (i32b a1); omega
    refine lv_aload_n F.1 F.2.1 dX7_takes_10 rfl (lv_at hl 0 rfl) ?_
    refine tVv (b := a0) (As := []) (rest := []) F hK hN hO (c_X7_works E ws kp as rd ty ik un xt tp sp wrb nu nab iwb X0 a0 ha0 hX0) mv_X7_works wd_25_15 ⟨Nat.le_of_ble_eq_true rfl, Nat.le_of_ble_eq_true rfl⟩ ⟨Nat.le_of_ble_eq_true rfl, Nat.le_of_ble_eq_true rfl⟩ hH hS (tRecv hK hH (tyb ha0 (all1 rfl)) clX7) rfl hl.1 (Nat.le_of_ble_eq_true rfl) dX7_takes_11 (fun H locs hq hS => ?_)
    have hH := hq
    have hH : TH E (tbM (mD (.inl tp) (.inl sp) (.inl nu) (.inl un) (.inl (0, 18)) (.inl xt) (.inl wrb) (.inl nab) (.inl iwb)) (xD 660 X0) ws kp as rd m_second ty ik) H := hH
    refine lv_iload_n F.1 F.2.1 dX7_takes_14 rfl (lv_at hl 2 rfl) ?_
    rcases (by omega : (a2.toInt < 0 ∨ 4 < a2.toInt) ∨ a2.toInt = 0 ∨ a2.toInt = 1 ∨ a2.toInt = 2 ∨ a2.toInt = 3 ∨ a2.toInt = 4) with w_10 | w_10 | w_10 | w_10 | w_10 | w_10
    · skip
      refine tTabOut (tgt := 81) F dX7_takes_15 w_10 (by decide) ?_
      refine lv_iconst (v := (-1)) F.1 F.2.1 dX7_takes_81 (by decide) ?_
      refine topK (a := (-1)) (by decide) (fun k_11 hk_11 => ?_)
      exact txI F hS dX7_takes_82 rfl (⟨(wkb (eqb hk_11) rfl rfl), hH⟩)
    · skip
      refine tTabIn (off := 33) (tgt := 48) F dX7_takes_15 w_10 (by decide) (by decide) (by decide +kernel) (by decide) ?_
      refine lv_aload_n F.1 F.2.1 dX7_takes_48 rfl (lv_at hl 0 rfl) ?_
      refine lv_iload_n F.1 F.2.1 dX7_takes_49 rfl (lv_at hl 1 rfl) ?_
      refine tVi (b := a0) (As := [.int a1]) (rest := []) F hK hN hO (c_X7_allOf E (xD 660 X0) ws kp as rd ty ik un (0, 18) xt tp sp wrb nu nab iwb a0 a1 ha0 r_7) mv_X7_allOf wd_29_22 ⟨Nat.le_of_ble_eq_true rfl, Nat.le_of_ble_eq_true rfl⟩ ⟨Nat.le_of_ble_eq_true rfl, Nat.le_of_ble_eq_true rfl⟩ hH hS (tRecv hK hH (tyb ha0 (all1 rfl)) clX7) rfl hl.1 (Nat.le_of_ble_eq_true rfl) dX7_takes_50 (fun z_12 H locs hq hS => ?_)
      obtain ⟨f_13, hH⟩ := hq
      have hH : TH E (tbM (mD (.inl tp) (.inl sp) (.inl nu) (.inl un) (.inl (0, 18)) (.inl xt) (.inl wrb) (.inl nab) (.inl iwb)) (xD 660 X0) ws kp as rd m_second ty ik) H := hH
      exact txI F hS dX7_takes_53 rfl (⟨(wkb f_13 rfl rfl), hH⟩)
    · skip
      refine tTabIn (off := 39) (tgt := 54) F dX7_takes_15 w_10 (by decide) (by decide) (by decide +kernel) (by decide) ?_
      refine lv_aload_n F.1 F.2.1 dX7_takes_54 rfl (lv_at hl 0 rfl) ?_
      refine tGetR (j := 18) F hK hH (tyb ha0 (all1 rfl)) rfl (all1 rfl) clX7 (by decide) wd_6_21 dX7_takes_55 (fun q_14 hq_14 _ => ?_)
      refine lv_iload_n F.1 F.2.1 dX7_takes_58 rfl (lv_at hl 1 rfl) ?_
      refine tIaldB F hK hH (tyb hq_14 (all1 rfl)) (ixb (n := 18) r_7 rfl rfl) dX7_takes_59 (fun z_15 hz_15 => ?_)
      exact txI F hS dX7_takes_60 rfl (⟨(wkb hz_15 rfl rfl), hH⟩)
    · skip
      refine tTabIn (off := 46) (tgt := 61) F dX7_takes_15 w_10 (by decide) (by decide) (by decide +kernel) (by decide) ?_
      refine lv_aload_n F.1 F.2.1 dX7_takes_61 rfl (lv_at hl 0 rfl) ?_
      refine tGetR (j := 19) F hK hH (tyb ha0 (all1 rfl)) rfl (all1 rfl) clX7 (by decide) wd_6_22 dX7_takes_62 (fun q_16 hq_16 _ => ?_)
      refine lv_iload_n F.1 F.2.1 dX7_takes_65 rfl (lv_at hl 1 rfl) ?_
      refine tIaldB F hK hH (tyb hq_16 (all1 rfl)) (ixb (n := 14) r_7 rfl rfl) dX7_takes_66 (fun z_17 hz_17 => ?_)
      exact txI F hS dX7_takes_67 rfl (⟨(wkb hz_17 rfl rfl), hH⟩)
    · skip
      refine tTabIn (off := 53) (tgt := 68) F dX7_takes_15 w_10 (by decide) (by decide) (by decide +kernel) (by decide) ?_
      refine lv_aload_n F.1 F.2.1 dX7_takes_68 rfl (lv_at hl 0 rfl) ?_
      refine tGetR (j := 20) F hK hH (tyb ha0 (all1 rfl)) rfl (all1 rfl) clX7 (by decide) wd_6_23 dX7_takes_69 (fun q_18 hq_18 _ => ?_)
      refine lv_iload_n F.1 F.2.1 dX7_takes_72 rfl (lv_at hl 1 rfl) ?_
      refine tIaldB F hK hH (tyb hq_18 (all1 rfl)) (ixb (n := 14) r_7 rfl rfl) dX7_takes_73 (fun z_19 hz_19 => ?_)
      exact txI F hS dX7_takes_74 rfl (⟨(wkb hz_19 rfl rfl), hH⟩)
    · skip
      refine tTabIn (off := 60) (tgt := 75) F dX7_takes_15 w_10 (by decide) (by decide) (by decide +kernel) (by decide) ?_
      refine lv_aload_n F.1 F.2.1 dX7_takes_75 rfl (lv_at hl 0 rfl) ?_
      refine lv_iload_n F.1 F.2.1 dX7_takes_76 rfl (lv_at hl 1 rfl) ?_
      refine tVi (b := a0) (As := [.int a1]) (rest := []) F hK hN hO (c_X7_wantsOf_r E ws kp as rd m_second ty ik un (0, 18) xt tp sp wrb nu nab iwb X0 a0 a1 ha0 r_7 hX0) mv_X7_wantsOf wd_27_11 ⟨Nat.le_of_ble_eq_true rfl, Nat.le_of_ble_eq_true rfl⟩ ⟨Nat.le_of_ble_eq_true rfl, Nat.le_of_ble_eq_true rfl⟩ hH hS (tRecv hK hH (tyb ha0 (all1 rfl)) clX7) rfl hl.1 (Nat.le_of_ble_eq_true rfl) dX7_takes_77 (fun z_20 H locs hq hS => ?_)
      obtain ⟨f_21, hH⟩ := hq
      have hH : TH E (tbM (mD (.inl tp) (.inl sp) (.inl nu) (.inl un) (.inl (0, 18)) (.inl xt) (.inl wrb) (.inl nab) (.inl iwb)) (xD 660 X0) ws kp as rd m_second ty ik) H := hH
      exact txI F hS dX7_takes_80 rfl (⟨(wkb f_21 rfl rfl), hH⟩)
  · skip
    have r_8 : 0 ≤ z_1.toInt ∧ z_1.toInt ≤ 0 := by have h9_ := f_2; omega
    refine lv_iconst (v := (-1)) F.1 F.2.1 dX7_takes_8 (by decide) ?_
    refine topK (a := (-1)) (by decide) (fun k_22 hk_22 => ?_)
    exact txI F hS dX7_takes_9 rfl (⟨(wkb (eqb hk_22) rfl rfl), hH⟩)
set_option maxHeartbeats 4000000 in
set_option maxRecDepth 100000 in
theorem c_X7_stored (E : Ev) (ws : TD) (kp : TD) (as : TD) (rd : TD) (ty : TD) (ik : TD) (un : Int × Int) (xt : Int × Int) (tp : Int × Int) (sp : Int × Int) (wrb : Int × Int) (nu : Int × Int) (nab : Int × Int) (iwb : Int × Int) (X0 : Nat → Int32) (a0 : Nat) (a1 : Int32) (a2 : Int32) (ha0 : eT E a0 ∈ [24]) (hX0 : okR X0) : TcI E yX7_stored cX7_stored 3 .int ({ frames := 8, cells := 0, slots := 0, locals := 201 }) [.ref a0, .int a1, .int a2] (fun H => TH E (tbM (mD (.inl tp) (.inl sp) (.inl nu) (.inl un) (.inl (0, 18)) (.inl xt) (.inl wrb) (.inl nab) (.inl iwb)) (xD 660 X0) ws kp as rd m_second ty ik) H) (fun v H => ((-2147483648) ≤ v.toInt ∧ v.toInt ≤ 2147483647) ∧ TH E (tbM (mD (.inl tp) (.inl sp) (.inl nu) (.inl un) (.inl (0, 18)) (.inl xt) (.inl wrb) (.inl nab) (.inl iwb)) (xD 660 X0) ws kp as rd m_second ty ik) H) := by
  refine teI (by decide) (Nat.le_of_ble_eq_true rfl) ?_
  intro p_ ev_ s mi_ below_ meth cd_ ls F hK hN hO hH hS hl
  have hH : TH E (tbM (mD (.inl tp) (.inl sp) (.inl nu) (.inl un) (.inl (0, 18)) (.inl xt) (.inl wrb) (.inl nab) (.inl iwb)) (xD 660 X0) ws kp as rd m_second ty ik) s.heap := hH
  have hl : lv_has ls 3 [(0, .ref a0), (1, .int a1), (2, .int a2)] := hl
  have hBX0 := okB hX0.1
  have hLX0 := hX0.2
  refine lv_aload_n F.1 F.2.1 dX7_stored_0 rfl (lv_at hl 0 rfl) ?_
  refine lv_iload_n F.1 F.2.1 dX7_stored_1 rfl (lv_at hl 1 rfl) ?_
  refine tVi (b := a0) (As := [.int a1]) (rest := []) F hK hN hO (c_X7_isStore E ws kp as rd m_second ty ik un (0, 18) xt tp sp wrb nu nab iwb X0 a0 a1 ha0 ((hX0).1)) mv_X7_isStore wd_32_17 ⟨Nat.le_of_ble_eq_true rfl, Nat.le_of_ble_eq_true rfl⟩ ⟨Nat.le_of_ble_eq_true rfl, Nat.le_of_ble_eq_true rfl⟩ hH hS (tRecv hK hH (tyb ha0 (all1 rfl)) clX7) rfl hl.1 (Nat.le_of_ble_eq_true rfl) dX7_stored_2 (fun z_1 H locs hq hS => ?_)
  obtain ⟨f_2, f_3, f_4, hH⟩ := hq
  have hH : TH E (tbM (mD (.inl tp) (.inl sp) (.inl nu) (.inl un) (.inl (0, 18)) (.inl xt) (.inl wrb) (.inl nab) (.inl iwb)) (xD 660 X0) ws kp as rd m_second ty ik) H := hH
  refine z_ne (tgt := 10) F dX7_stored_5 (by decide) (fun c_5 => ?_) (fun c_5 => ?_)
  · skip
    have r_6 : 1 ≤ z_1.toInt ∧ z_1.toInt ≤ 1 := by have h9_ := f_2; omega
    have r_7 : 0 ≤ a1.toInt ∧ a1.toInt ≤ 3 := by have h9_ := (i32b a1); omega
    refine lv_aload_n F.1 F.2.1 dX7_stored_10 rfl (lv_at hl 0 rfl) ?_
    refine tVv (b := a0) (As := []) (rest := []) F hK hN hO (c_X7_works E ws kp as rd ty ik un xt tp sp wrb nu nab iwb X0 a0 ha0 hX0) mv_X7_works wd_25_15 ⟨Nat.le_of_ble_eq_true rfl, Nat.le_of_ble_eq_true rfl⟩ ⟨Nat.le_of_ble_eq_true rfl, Nat.le_of_ble_eq_true rfl⟩ hH hS (tRecv hK hH (tyb ha0 (all1 rfl)) clX7) rfl hl.1 (Nat.le_of_ble_eq_true rfl) dX7_stored_11 (fun H locs hq hS => ?_)
    have hH := hq
    have hH : TH E (tbM (mD (.inl tp) (.inl sp) (.inl nu) (.inl un) (.inl (0, 18)) (.inl xt) (.inl wrb) (.inl nab) (.inl iwb)) (xD 660 X0) ws kp as rd m_second ty ik) H := hH
    refine lv_iload_n F.1 F.2.1 dX7_stored_14 rfl (lv_at hl 2 rfl) ?_
    rcases (by omega : (a2.toInt < 0 ∨ 3 < a2.toInt) ∨ a2.toInt = 0 ∨ a2.toInt = 1 ∨ a2.toInt = 2 ∨ a2.toInt = 3) with w_10 | w_10 | w_10 | w_10 | w_10
    · skip
      refine tTabOut (tgt := 99) F dX7_stored_15 w_10 (by decide) ?_
      refine lv_iconst (v := (-1)) F.1 F.2.1 dX7_stored_99 (by decide) ?_
      refine topK (a := (-1)) (by decide) (fun k_11 hk_11 => ?_)
      exact txI F hS dX7_stored_100 rfl (⟨(wkb (eqb hk_11) rfl rfl), hH⟩)
    · skip
      refine tTabIn (off := 29) (tgt := 44) F dX7_stored_15 w_10 (by decide) (by decide) (by decide +kernel) (by decide) ?_
      refine lv_aload_n F.1 F.2.1 dX7_stored_44 rfl (lv_at hl 0 rfl) ?_
      refine tGetR (j := 18) F hK hH (tyb ha0 (all1 rfl)) rfl (all1 rfl) clX7 (by decide) wd_6_21 dX7_stored_45 (fun q_12 hq_12 _ => ?_)
      refine lv_bipush (v := 14) F.1 F.2.1 dX7_stored_48 (by decide) ?_
      refine topK (a := 14) (by decide) (fun k_13 hk_13 => ?_)
      refine lv_iload_n F.1 F.2.1 dX7_stored_50 rfl (lv_at hl 1 rfl) ?_
      refine tAdd (lo := 14) (hi := 17) F dX7_stored_51 (eqb hk_13) r_7 rfl (fun z_14 hz_14 => ?_)
      refine tIaldB F hK hH (tyb hq_12 (all1 rfl)) (ixb (n := 18) hz_14.2 rfl rfl) dX7_stored_52 (fun z_15 hz_15 => ?_)
      exact txI F hS dX7_stored_53 rfl (⟨(wkb hz_15 rfl rfl), hH⟩)
    · skip
      refine tTabIn (off := 39) (tgt := 54) F dX7_stored_15 w_10 (by decide) (by decide) (by decide +kernel) (by decide) ?_
      refine lv_aload_n F.1 F.2.1 dX7_stored_54 rfl (lv_at hl 0 rfl) ?_
      refine tGetR (j := 21) F hK hH (tyb ha0 (all1 rfl)) rfl (all1 rfl) clX7 (by decide) wd_7_0 dX7_stored_55 (fun q_16 hq_16 _ => ?_)
      refine lv_iload_n F.1 F.2.1 dX7_stored_58 rfl (lv_at hl 1 rfl) ?_
      refine tIaldB F hK hH (tyb hq_16 (all1 rfl)) (ixb (n := 4) r_7 rfl rfl) dX7_stored_59 (fun z_17 hz_17 => ?_)
      exact txI F hS dX7_stored_60 rfl (⟨(wkb hz_17 rfl rfl), hH⟩)
    · skip
      refine tTabIn (off := 46) (tgt := 61) F dX7_stored_15 w_10 (by decide) (by decide) (by decide +kernel) (by decide) ?_
      refine lv_aload_n F.1 F.2.1 dX7_stored_61 rfl (lv_at hl 0 rfl) ?_
      refine tGetR (j := 22) F hK hH (tyb ha0 (all1 rfl)) rfl (all1 rfl) clX7 (by decide) wd_7_1 dX7_stored_62 (fun q_18 hq_18 _ => ?_)
      refine lv_iload_n F.1 F.2.1 dX7_stored_65 rfl (lv_at hl 1 rfl) ?_
      refine tIaldB F hK hH (tyb hq_18 (all1 rfl)) (ixb (n := 4) r_7 rfl rfl) dX7_stored_66 (fun z_19 hz_19 => ?_)
      exact txI F hS dX7_stored_67 rfl (⟨hz_19, hH⟩)
    · skip
      refine tTabIn (off := 53) (tgt := 68) F dX7_stored_15 w_10 (by decide) (by decide) (by decide +kernel) (by decide) ?_
      refine lv_aload_n F.1 F.2.1 dX7_stored_68 rfl (lv_at hl 0 rfl) ?_
      refine lv_iload_n F.1 F.2.1 dX7_stored_69 rfl (lv_at hl 1 rfl) ?_
      refine lv_iconst (v := 4) F.1 F.2.1 dX7_stored_70 (by decide) ?_
      refine topK (a := 4) (by decide) (fun k_20 hk_20 => ?_)
      refine tVi (b := a0) (As := [.int a1, .int k_20]) (rest := []) F hK hN hO (c_X7_ofStore_4 E ws kp as rd m_second ty ik un (0, 18) xt tp sp wrb nu nab iwb X0 a0 a1 k_20 ha0 r_7 (eqb hk_20) ((hX0).1)) mv_X7_ofStore wd_27_0 ⟨Nat.le_of_ble_eq_true rfl, Nat.le_of_ble_eq_true rfl⟩ ⟨Nat.le_of_ble_eq_true rfl, Nat.le_of_ble_eq_true rfl⟩ hH hS (tRecv hK hH (tyb ha0 (all1 rfl)) clX7) rfl hl.1 (Nat.le_of_ble_eq_true rfl) dX7_stored_71 (fun z_21 H locs hq hS => ?_)
      obtain ⟨f_22, f_23, hH⟩ := hq
      have hH : TH E (tbM (mD (.inl tp) (.inl sp) (.inl nu) (.inl un) (.inl (0, 18)) (.inl xt) (.inl wrb) (.inl nab) (.inl iwb)) (xD 660 X0) ws kp as rd m_second ty ik) H := hH
      refine lv_aload_n F.1 F.2.1 dX7_stored_74 rfl (lv_at hl 0 rfl) ?_
      refine tGetR (j := 18) F hK hH (tyb ha0 (all1 rfl)) rfl (all1 rfl) clX7 (by decide) wd_6_21 dX7_stored_75 (fun q_24 hq_24 _ => ?_)
      refine lv_bipush (v := 14) F.1 F.2.1 dX7_stored_78 (by decide) ?_
      refine topK (a := 14) (by decide) (fun k_25 hk_25 => ?_)
      refine lv_iload_n F.1 F.2.1 dX7_stored_80 rfl (lv_at hl 1 rfl) ?_
      refine tAdd (lo := 14) (hi := 17) F dX7_stored_81 (eqb hk_25) r_7 rfl (fun z_26 hz_26 => ?_)
      refine tIaldB F hK hH (tyb hq_24 (all1 rfl)) (ixb (n := 18) hz_26.2 rfl rfl) dX7_stored_82 (fun z_27 hz_27 => ?_)
      refine lv_iadd F.1 F.2.1 dX7_stored_83 ?_
      refine topF (fun z_28 => ?_)
      refine lv_aload_n F.1 F.2.1 dX7_stored_84 rfl (lv_at hl 0 rfl) ?_
      refine tGetR (j := 21) F hK hH (tyb ha0 (all1 rfl)) rfl (all1 rfl) clX7 (by decide) wd_7_0 dX7_stored_85 (fun q_29 hq_29 _ => ?_)
      refine lv_iload_n F.1 F.2.1 dX7_stored_88 rfl (lv_at hl 1 rfl) ?_
      refine tIaldB F hK hH (tyb hq_29 (all1 rfl)) (ixb (n := 4) r_7 rfl rfl) dX7_stored_89 (fun z_30 hz_30 => ?_)
      refine lv_isub F.1 F.2.1 dX7_stored_90 ?_
      refine topF (fun z_31 => ?_)
      refine lv_aload_n F.1 F.2.1 dX7_stored_91 rfl (lv_at hl 0 rfl) ?_
      refine tGetR (j := 22) F hK hH (tyb ha0 (all1 rfl)) rfl (all1 rfl) clX7 (by decide) wd_7_1 dX7_stored_92 (fun q_32 hq_32 _ => ?_)
      refine lv_iload_n F.1 F.2.1 dX7_stored_95 rfl (lv_at hl 1 rfl) ?_
      refine tIaldB F hK hH (tyb hq_32 (all1 rfl)) (ixb (n := 4) r_7 rfl rfl) dX7_stored_96 (fun z_33 hz_33 => ?_)
      refine lv_isub F.1 F.2.1 dX7_stored_97 ?_
      refine topF (fun z_34 => ?_)
      exact txI F hS dX7_stored_98 rfl (⟨(i32b _), hH⟩)
  · skip
    have r_8 : 0 ≤ z_1.toInt ∧ z_1.toInt ≤ 0 := by have h9_ := f_2; omega
    refine lv_iconst (v := (-1)) F.1 F.2.1 dX7_stored_8 (by decide) ?_
    refine topK (a := (-1)) (by decide) (fun k_35 hk_35 => ?_)
    exact txI F hS dX7_stored_9 rfl (⟨(wkb (eqb hk_35) rfl rfl), hH⟩)
set_option maxHeartbeats 4000000 in
set_option maxRecDepth 100000 in
theorem c_X7_calls (E : Ev) (ws : TD) (kp : TD) (as : TD) (rd : TD) (ty : TD) (ik : TD) (un : Int × Int) (xt : Int × Int) (tp : Int × Int) (sp : Int × Int) (wrb : Int × Int) (nu : Int × Int) (nab : Int × Int) (iwb : Int × Int) (X0 : Nat → Int32) (a0 : Nat) (a1 : Int32) (ha0 : eT E a0 ∈ [24]) (hX0 : okR X0) : TcI E yX7_calls cX7_calls 6 .int ({ frames := 8, cells := 0, slots := 0, locals := 201 }) [.ref a0, .int a1] (fun H => TH E (tbM (mD (.inl tp) (.inl sp) (.inl nu) (.inl un) (.inl (0, 18)) (.inl xt) (.inl wrb) (.inl nab) (.inl iwb)) (xD 660 X0) ws kp as rd m_second ty ik) H) (fun v H => ((-2147483648) ≤ v.toInt ∧ v.toInt ≤ 2147483647) ∧ TH E (tbM (mD (.inl tp) (.inl sp) (.inl nu) (.inl un) (.inl (0, 18)) (.inl xt) (.inl wrb) (.inl nab) (.inl iwb)) (xD 660 X0) ws kp as rd m_second ty ik) H) := by
  refine teI (by decide) (Nat.le_of_ble_eq_true rfl) ?_
  intro p_ ev_ s mi_ below_ meth cd_ ls F hK hN hO hH hS hl
  have hH : TH E (tbM (mD (.inl tp) (.inl sp) (.inl nu) (.inl un) (.inl (0, 18)) (.inl xt) (.inl wrb) (.inl nab) (.inl iwb)) (xD 660 X0) ws kp as rd m_second ty ik) s.heap := hH
  have hl : lv_has ls 6 [(0, .ref a0), (1, .int a1)] := hl
  have hBX0 := okB hX0.1
  have hLX0 := hX0.2
  refine lv_iload_n F.1 F.2.1 dX7_calls_0 rfl (lv_at hl 1 rfl) ?_
  refine tI2l F dX7_calls_1 (fun w_1 hw_1 => ?_)
  refine lv_lconst (v := 0) F.1 F.2.1 dX7_calls_2 (by decide) ?_
  refine topKL (a := 0) (by decide) (fun j_2 hj_2 => ?_)
  refine lv_lconst (v := 1) F.1 F.2.1 dX7_calls_3 (by decide) ?_
  refine topKL (a := 1) (by decide) (fun j_3 hj_3 => ?_)
  refine tSi (As := [.long w_1, .long j_2, .long j_3]) (rest := []) F hK hN hO (c_X7_in E (mD (.inl tp) (.inl sp) (.inl nu) (.inl un) (.inl (0, 18)) (.inl xt) (.inl wrb) (.inl nab) (.inl iwb)) (xD 660 X0) ws kp as rd m_second ty ik w_1 j_2 j_3) ms_X7_in wd_8_10 ⟨Nat.le_of_ble_eq_true rfl, Nat.le_of_ble_eq_true rfl⟩ ⟨Nat.le_of_ble_eq_true rfl, Nat.le_of_ble_eq_true rfl⟩ hH hS rfl hl.1 (Nat.le_of_ble_eq_true rfl) dX7_calls_4 (fun z_4 H locs hq hS => ?_)
  obtain ⟨f_5, f_6, hH⟩ := hq
  have hH : TH E (tbM (mD (.inl tp) (.inl sp) (.inl nu) (.inl un) (.inl (0, 18)) (.inl xt) (.inl wrb) (.inl nab) (.inl iwb)) (xD 660 X0) ws kp as rd m_second ty ik) H := hH
  refine z_ne (tgt := 12) F dX7_calls_7 (by decide) (fun c_7 => ?_) (fun c_7 => ?_)
  · skip
    have r_8 : 1 ≤ z_4.toInt ∧ z_4.toInt ≤ 1 := by have h9_ := f_5; omega
    have r_9 : 0 ≤ a1.toInt ∧ a1.toInt ≤ 1 := by have h9_ := (i32b a1); omega
    refine lv_aload_n F.1 F.2.1 dX7_calls_12 rfl (lv_at hl 0 rfl) ?_
    refine tVv (b := a0) (As := []) (rest := []) F hK hN hO (c_X7_works E ws kp as rd ty ik un xt tp sp wrb nu nab iwb X0 a0 ha0 hX0) mv_X7_works wd_25_15 ⟨Nat.le_of_ble_eq_true rfl, Nat.le_of_ble_eq_true rfl⟩ ⟨Nat.le_of_ble_eq_true rfl, Nat.le_of_ble_eq_true rfl⟩ hH hS (tRecv hK hH (tyb ha0 (all1 rfl)) clX7) rfl hl.1 (Nat.le_of_ble_eq_true rfl) dX7_calls_13 (fun H locs hq hS => ?_)
    have hH := hq
    have hH : TH E (tbM (mD (.inl tp) (.inl sp) (.inl nu) (.inl un) (.inl (0, 18)) (.inl xt) (.inl wrb) (.inl nab) (.inl iwb)) (xD 660 X0) ws kp as rd m_second ty ik) H := hH
    refine lv_iconst (v := 0) F.1 F.2.1 dX7_calls_16 (by decide) ?_
    refine topK (a := 0) (by decide) (fun k_12 hk_12 => ?_)
    refine lv_istore_n (lv' := [(2, .int k_12), (0, .ref a0), (1, .int a1)]) F.1 F.2.1 dX7_calls_17 rfl hl (by decide) rfl (fun ls hl => ?_)
    refine lv_iconst (v := 0) F.1 F.2.1 dX7_calls_18 (by decide) ?_
    refine topK (a := 0) (by decide) (fun k_13 hk_13 => ?_)
    refine lv_istore_n (lv' := [(3, .int k_13), (2, .int k_12), (0, .ref a0), (1, .int a1)]) F.1 F.2.1 dX7_calls_19 rfl hl (by decide) rfl (fun ls hl => ?_)
    refine wloop (σ := Int32 × Int32) (fun n9 x9 H locs ls => (14 - x9.2.toInt + 1).toNat < n9 ∧ (0 ≤ x9.2.toInt ∧ x9.2.toInt ≤ 14) ∧ TH E (tbM (mD (.inl tp) (.inl sp) (.inl nu) (.inl un) (.inl (0, 18)) (.inl xt) (.inl wrb) (.inl nab) (.inl iwb)) (xD 660 X0) ws kp as rd m_second ty ik) H ∧ va_S (eA E s.heap.size) s.heap H locs ∧ lv_has ls 6 [(0, .ref a0), (1, .int a1), (2, .int x9.1), (3, .int x9.2)]) ?_ (fun x9 H locs ls h => absurd h.1 (Nat.not_lt_zero _)) _ (k_12, k_13) ⟨Nat.lt_succ_self _, (wkb (eqb hk_13) rfl rfl), hH, hS, lv_sub hl [2, 3, 1, 0] rfl⟩
    intro n_20 ih_20 ⟨u_14, u_15⟩ H locs ls ⟨hm_20, hu_15, hH, hS, hl⟩
    have hm_20 : (14 - u_15.toInt + 1).toNat < n_20 + 1 := hm_20
    have hu_15 : (0 ≤ u_15.toInt ∧ u_15.toInt ≤ 14) := hu_15
    have hH : TH E (tbM (mD (.inl tp) (.inl sp) (.inl nu) (.inl un) (.inl (0, 18)) (.inl xt) (.inl wrb) (.inl nab) (.inl iwb)) (xD 660 X0) ws kp as rd m_second ty ik) H := hH
    have hl : lv_has ls 6 [(0, .ref a0), (1, .int a1), (2, .int u_14), (3, .int u_15)] := hl
    refine lv_iload_n F.1 F.2.1 dX7_calls_20 rfl (lv_at hl 3 rfl) ?_
    refine lv_aload_n F.1 F.2.1 dX7_calls_21 rfl (lv_at hl 0 rfl) ?_
    refine tVi (b := a0) (As := []) (rest := [.int u_15]) F hK hN hO (c_X7_rights E ws kp as rd m_second ty ik un (0, 18) xt tp sp wrb nu nab iwb X0 a0 ha0 ((hX0).1)) mv_X7_rights wd_19_4 ⟨Nat.le_of_ble_eq_true rfl, Nat.le_of_ble_eq_true rfl⟩ ⟨Nat.le_of_ble_eq_true rfl, Nat.le_of_ble_eq_true rfl⟩ hH hS (tRecv hK hH (tyb ha0 (all1 rfl)) clX7) rfl hl.1 (Nat.le_of_ble_eq_true rfl) dX7_calls_22 (fun z_16 H locs hq hS => ?_)
    obtain ⟨f_17, f_18, hH⟩ := hq
    have hH : TH E (tbM (mD (.inl tp) (.inl sp) (.inl nu) (.inl un) (.inl (0, 18)) (.inl xt) (.inl wrb) (.inl nab) (.inl iwb)) (xD 660 X0) ws kp as rd m_second ty ik) H := hH
    refine b_ge (tgt := 113) F dX7_calls_25 (by decide) (fun c_19 => ?_) (fun c_19 => ?_)
    · skip
      refine lv_iload_n F.1 F.2.1 dX7_calls_113 rfl (lv_at hl 2 rfl) ?_
      exact txI F hS dX7_calls_114 rfl (⟨(i32b _), hH⟩)
    · skip
      have r_20 : 0 ≤ u_15.toInt ∧ u_15.toInt ≤ 13 := by have h9_ := hu_15; omega
      have r_21 : 1 ≤ z_16.toInt ∧ z_16.toInt ≤ 14 := by have h9_ := f_17; omega
      refine lv_iload_n F.1 F.2.1 dX7_calls_28 rfl (lv_at hl 1 rfl) ?_
      refine z_ne (tgt := 44) F dX7_calls_29 (by decide) (fun c_22 => ?_) (fun c_22 => ?_)
      · skip
        have r_23 : 1 ≤ a1.toInt ∧ a1.toInt ≤ 1 := by have h9_ := r_9; omega
        refine lv_iconst (v := 0) F.1 F.2.1 dX7_calls_44 (by decide) ?_
        refine topK (a := 0) (by decide) (fun k_25 hk_25 => ?_)
        refine lv_istore (lv' := [(4, .int k_25), (0, .ref a0), (1, .int a1), (2, .int u_14), (3, .int u_15)]) F.1 F.2.1 dX7_calls_45 hl (by decide) rfl (fun ls hl => ?_)
        refine lv_iconst (v := 0) F.1 F.2.1 dX7_calls_47 (by decide) ?_
        refine topK (a := 0) (by decide) (fun k_26 hk_26 => ?_)
        refine lv_istore (lv' := [(5, .int k_26), (4, .int k_25), (0, .ref a0), (1, .int a1), (2, .int u_14), (3, .int u_15)]) F.1 F.2.1 dX7_calls_48 hl (by decide) rfl (fun ls hl => ?_)
        refine wloop (σ := Int32 × Int32) (fun n9 x9 H locs ls => (14 - x9.2.toInt + 1).toNat < n9 ∧ (0 ≤ x9.1.toInt ∧ x9.1.toInt ≤ 1) ∧ (0 ≤ x9.2.toInt ∧ x9.2.toInt ≤ 14) ∧ TH E (tbM (mD (.inl tp) (.inl sp) (.inl nu) (.inl un) (.inl (0, 18)) (.inl xt) (.inl wrb) (.inl nab) (.inl iwb)) (xD 660 X0) ws kp as rd m_second ty ik) H ∧ va_S (eA E s.heap.size) s.heap H locs ∧ lv_has ls 6 [(0, .ref a0), (1, .int a1), (2, .int u_14), (3, .int u_15), (4, .int x9.1), (5, .int x9.2)]) ?_ (fun x9 H locs ls h => absurd h.1 (Nat.not_lt_zero _)) _ (k_25, k_26) ⟨Nat.lt_succ_self _, (wkb (eqb hk_25) rfl rfl), (wkb (eqb hk_26) rfl rfl), hH, hS, lv_sub hl [2, 3, 4, 5, 1, 0] rfl⟩
        intro n_50 ih_50 ⟨u_27, u_28⟩ H locs ls ⟨hm_50, hu_27, hu_28, hH, hS, hl⟩
        have hm_50 : (14 - u_28.toInt + 1).toNat < n_50 + 1 := hm_50
        have hu_27 : (0 ≤ u_27.toInt ∧ u_27.toInt ≤ 1) := hu_27
        have hu_28 : (0 ≤ u_28.toInt ∧ u_28.toInt ≤ 14) := hu_28
        have hH : TH E (tbM (mD (.inl tp) (.inl sp) (.inl nu) (.inl un) (.inl (0, 18)) (.inl xt) (.inl wrb) (.inl nab) (.inl iwb)) (xD 660 X0) ws kp as rd m_second ty ik) H := hH
        have hl : lv_has ls 6 [(0, .ref a0), (1, .int a1), (2, .int u_14), (3, .int u_15), (4, .int u_27), (5, .int u_28)] := hl
        refine lv_iload F.1 F.2.1 dX7_calls_50 (lv_at hl 5 rfl) ?_
        refine lv_aload_n F.1 F.2.1 dX7_calls_52 rfl (lv_at hl 0 rfl) ?_
        refine tVi (b := a0) (As := []) (rest := [.int u_28]) F hK hN hO (c_X7_rights E ws kp as rd m_second ty ik un (0, 18) xt tp sp wrb nu nab iwb X0 a0 ha0 ((hX0).1)) mv_X7_rights wd_19_4 ⟨Nat.le_of_ble_eq_true rfl, Nat.le_of_ble_eq_true rfl⟩ ⟨Nat.le_of_ble_eq_true rfl, Nat.le_of_ble_eq_true rfl⟩ hH hS (tRecv hK hH (tyb ha0 (all1 rfl)) clX7) rfl hl.1 (Nat.le_of_ble_eq_true rfl) dX7_calls_53 (fun z_29 H locs hq hS => ?_)
        obtain ⟨f_30, f_31, hH⟩ := hq
        have hH : TH E (tbM (mD (.inl tp) (.inl sp) (.inl nu) (.inl un) (.inl (0, 18)) (.inl xt) (.inl wrb) (.inl nab) (.inl iwb)) (xD 660 X0) ws kp as rd m_second ty ik) H := hH
        refine wjoin (σ := Unit) (pcj := 92) (stj := fun x9 => []) (fun x9 H locs ls => TH E (tbM (mD (.inl tp) (.inl sp) (.inl nu) (.inl un) (.inl (0, 18)) (.inl xt) (.inl wrb) (.inl nab) (.inl iwb)) (xD 660 X0) ws kp as rd m_second ty ik) H ∧ va_S (eA E s.heap.size) s.heap H locs ∧ lv_has ls 6 [(0, .ref a0), (1, .int a1), (2, .int u_14), (3, .int u_15), (4, .int u_27)]) (fun x9 H locs ls h_ => ?_) (fun J_92 => ?_)
        · skip
          obtain ⟨hH, hS, hl⟩ := h_
          have hH : TH E (tbM (mD (.inl tp) (.inl sp) (.inl nu) (.inl un) (.inl (0, 18)) (.inl xt) (.inl wrb) (.inl nab) (.inl iwb)) (xD 660 X0) ws kp as rd m_second ty ik) H := hH
          have hl : lv_has ls 6 [(0, .ref a0), (1, .int a1), (2, .int u_14), (3, .int u_15), (4, .int u_27)] := hl
          show W _ _ _ _ _ _ _ _ _ _ _ _ _ _ _ (F0 _ _ _ [])
          refine lv_iload_n F.1 F.2.1 dX7_calls_92 rfl (lv_at hl 2 rfl) ?_
          refine lv_iload F.1 F.2.1 dX7_calls_93 (lv_at hl 4 rfl) ?_
          refine z_eq (tgt := 104) F dX7_calls_95 (by decide) (fun c_32 => ?_) (fun c_32 => ?_)
          · skip
            have r_33 : 0 ≤ u_27.toInt ∧ u_27.toInt ≤ 0 := by have h9_ := hu_27; omega
            refine lv_iconst (v := 0) F.1 F.2.1 dX7_calls_104 (by decide) ?_
            refine topK (a := 0) (by decide) (fun k_35 hk_35 => ?_)
            refine lv_ior F.1 F.2.1 dX7_calls_105 ?_
            refine topF (fun z_36 => ?_)
            refine lv_istore_n (lv' := [(2, .int z_36), (0, .ref a0), (1, .int a1), (3, .int u_15), (4, .int u_27)]) F.1 F.2.1 dX7_calls_106 rfl hl (by decide) rfl (fun ls hl => ?_)
            obtain ⟨x_37, ex_37, hx_37⟩ := iincB (c := 1) (lo := 1) (hi := 14) r_20 rfl
            refine lv_iinc (v := x_37) (lv' := [(3, .int x_37), (2, .int z_36), (0, .ref a0), (1, .int a1), (4, .int u_27)]) F.1 F.2.1 dX7_calls_107 hl (k := 3) rfl ex_37 (by decide) rfl (fun ls hl => ?_)
            refine lv_goto (tgt := 20) F.1 F.2.1 dX7_calls_110 (by decide) ?_
            exact ih_20 (z_36, x_37) _ _ _ ⟨(show (14 - x_37.toInt + 1).toNat < n_20 from by omega), (wkb hx_37.2 rfl rfl), hH, hS, lv_sub hl [2, 3, 1, 0] rfl⟩
          · skip
            have r_34 : 1 ≤ u_27.toInt ∧ u_27.toInt ≤ 1 := by have h9_ := hu_27; omega
            refine lv_iconst (v := 1) F.1 F.2.1 dX7_calls_98 (by decide) ?_
            refine topK (a := 1) (by decide) (fun k_38 hk_38 => ?_)
            refine lv_iload_n F.1 F.2.1 dX7_calls_99 rfl (lv_at hl 3 rfl) ?_
            refine lv_ishl F.1 F.2.1 dX7_calls_100 ?_
            refine topF (fun z_39 => ?_)
            refine lv_goto (tgt := 105) F.1 F.2.1 dX7_calls_101 (by decide) ?_
            refine lv_ior F.1 F.2.1 dX7_calls_105 ?_
            refine topF (fun z_40 => ?_)
            refine lv_istore_n (lv' := [(2, .int z_40), (0, .ref a0), (1, .int a1), (3, .int u_15), (4, .int u_27)]) F.1 F.2.1 dX7_calls_106 rfl hl (by decide) rfl (fun ls hl => ?_)
            obtain ⟨x_41, ex_41, hx_41⟩ := iincB (c := 1) (lo := 1) (hi := 14) r_20 rfl
            refine lv_iinc (v := x_41) (lv' := [(3, .int x_41), (2, .int z_40), (0, .ref a0), (1, .int a1), (4, .int u_27)]) F.1 F.2.1 dX7_calls_107 hl (k := 3) rfl ex_41 (by decide) rfl (fun ls hl => ?_)
            refine lv_goto (tgt := 20) F.1 F.2.1 dX7_calls_110 (by decide) ?_
            exact ih_20 (z_40, x_41) _ _ _ ⟨(show (14 - x_41.toInt + 1).toNat < n_20 from by omega), (wkb hx_41.2 rfl rfl), hH, hS, lv_sub hl [2, 3, 1, 0] rfl⟩
        refine b_ge (tgt := 92) F dX7_calls_56 (by decide) (fun c_42 => ?_) (fun c_42 => ?_)
        · skip
          exact J_92 () _ _ _ ⟨hH, hS, lv_sub hl [0, 1, 2, 3, 4] rfl⟩
        · skip
          have r_43 : 0 ≤ u_28.toInt ∧ u_28.toInt ≤ 13 := by have h9_ := hu_28; omega
          have r_44 : 1 ≤ z_29.toInt ∧ z_29.toInt ≤ 14 := by have h9_ := f_30; omega
          refine lv_iload_n F.1 F.2.1 dX7_calls_59 rfl (lv_at hl 1 rfl) ?_
          refine lv_iconst (v := 1) F.1 F.2.1 dX7_calls_60 (by decide) ?_
          refine topK (a := 1) (by decide) (fun k_45 hk_45 => ?_)
          refine b_ne (tgt := 92) F dX7_calls_61 (by decide) (fun c_46 => absurd c_46 (by omega)) (fun c_46 => ?_)
          refine lv_iload F.1 F.2.1 dX7_calls_64 (lv_at hl 4 rfl) ?_
          refine z_ne (tgt := 79) F dX7_calls_66 (by decide) (fun c_47 => ?_) (fun c_47 => ?_)
          · skip
            have r_48 : 1 ≤ u_27.toInt ∧ u_27.toInt ≤ 1 := by have h9_ := hu_27; omega
            refine lv_iconst (v := 1) F.1 F.2.1 dX7_calls_79 (by decide) ?_
            refine topK (a := 1) (by decide) (fun k_50 hk_50 => ?_)
            refine lv_goto (tgt := 84) F.1 F.2.1 dX7_calls_80 (by decide) ?_
            refine lv_istore (lv' := [(4, .int k_50), (0, .ref a0), (1, .int a1), (2, .int u_14), (3, .int u_15), (5, .int u_28)]) F.1 F.2.1 dX7_calls_84 hl (by decide) rfl (fun ls hl => ?_)
            obtain ⟨x_51, ex_51, hx_51⟩ := iincB (c := 1) (lo := 1) (hi := 14) r_43 rfl
            refine lv_iinc (v := x_51) (lv' := [(5, .int x_51), (4, .int k_50), (0, .ref a0), (1, .int a1), (2, .int u_14), (3, .int u_15)]) F.1 F.2.1 dX7_calls_86 hl (k := 5) rfl ex_51 (by decide) rfl (fun ls hl => ?_)
            refine lv_goto (tgt := 50) F.1 F.2.1 dX7_calls_89 (by decide) ?_
            exact ih_50 (k_50, x_51) _ _ _ ⟨(show (14 - x_51.toInt + 1).toNat < n_50 from by omega), (wkb (eqb hk_50) rfl rfl), (wkb hx_51.2 rfl rfl), hH, hS, lv_sub hl [2, 3, 4, 5, 1, 0] rfl⟩
          · skip
            have r_49 : 0 ≤ u_27.toInt ∧ u_27.toInt ≤ 0 := by have h9_ := hu_27; omega
            refine lv_aload_n F.1 F.2.1 dX7_calls_69 rfl (lv_at hl 0 rfl) ?_
            refine lv_iload_n F.1 F.2.1 dX7_calls_70 rfl (lv_at hl 3 rfl) ?_
            refine lv_iload F.1 F.2.1 dX7_calls_71 (lv_at hl 5 rfl) ?_
            refine tVi (b := a0) (As := [.int u_15, .int u_28]) (rest := []) F hK hN hO (c_X7_isFutile E ws kp as rd ty ik un (0, 18) xt tp sp wrb nu nab iwb X0 a0 u_15 u_28 ha0 r_20 r_43 hX0 (by omega)) mv_X7_isFutile wd_46_7 ⟨Nat.le_of_ble_eq_true rfl, Nat.le_of_ble_eq_true rfl⟩ ⟨Nat.le_of_ble_eq_true rfl, Nat.le_of_ble_eq_true rfl⟩ hH hS (tRecv hK hH (tyb ha0 (all1 rfl)) clX7) rfl hl.1 (Nat.le_of_ble_eq_true rfl) dX7_calls_73 (fun z_52 H locs hq hS => ?_)
            obtain ⟨f_53, hH⟩ := hq
            have hH : TH E (tbM (mD (.inl tp) (.inl sp) (.inl nu) (.inl un) (.inl (0, 18)) (.inl xt) (.inl wrb) (.inl nab) (.inl iwb)) (xD 660 X0) ws kp as rd m_second ty ik) H := hH
            refine z_eq (tgt := 83) F dX7_calls_76 (by decide) (fun c_54 => ?_) (fun c_54 => ?_)
            · skip
              have r_55 : 0 ≤ z_52.toInt ∧ z_52.toInt ≤ 0 := by have h9_ := f_53; omega
              refine lv_iconst (v := 0) F.1 F.2.1 dX7_calls_83 (by decide) ?_
              refine topK (a := 0) (by decide) (fun k_57 hk_57 => ?_)
              refine lv_istore (lv' := [(4, .int k_57), (0, .ref a0), (1, .int a1), (2, .int u_14), (3, .int u_15), (5, .int u_28)]) F.1 F.2.1 dX7_calls_84 hl (by decide) rfl (fun ls hl => ?_)
              obtain ⟨x_58, ex_58, hx_58⟩ := iincB (c := 1) (lo := 1) (hi := 14) r_43 rfl
              refine lv_iinc (v := x_58) (lv' := [(5, .int x_58), (4, .int k_57), (0, .ref a0), (1, .int a1), (2, .int u_14), (3, .int u_15)]) F.1 F.2.1 dX7_calls_86 hl (k := 5) rfl ex_58 (by decide) rfl (fun ls hl => ?_)
              refine lv_goto (tgt := 50) F.1 F.2.1 dX7_calls_89 (by decide) ?_
              exact ih_50 (k_57, x_58) _ _ _ ⟨(show (14 - x_58.toInt + 1).toNat < n_50 from by omega), (wkb (eqb hk_57) rfl rfl), (wkb hx_58.2 rfl rfl), hH, hS, lv_sub hl [2, 3, 4, 5, 1, 0] rfl⟩
            · skip
              have r_56 : 1 ≤ z_52.toInt ∧ z_52.toInt ≤ 1 := by have h9_ := f_53; omega
              refine lv_iconst (v := 1) F.1 F.2.1 dX7_calls_79 (by decide) ?_
              refine topK (a := 1) (by decide) (fun k_59 hk_59 => ?_)
              refine lv_goto (tgt := 84) F.1 F.2.1 dX7_calls_80 (by decide) ?_
              refine lv_istore (lv' := [(4, .int k_59), (0, .ref a0), (1, .int a1), (2, .int u_14), (3, .int u_15), (5, .int u_28)]) F.1 F.2.1 dX7_calls_84 hl (by decide) rfl (fun ls hl => ?_)
              obtain ⟨x_60, ex_60, hx_60⟩ := iincB (c := 1) (lo := 1) (hi := 14) r_43 rfl
              refine lv_iinc (v := x_60) (lv' := [(5, .int x_60), (4, .int k_59), (0, .ref a0), (1, .int a1), (2, .int u_14), (3, .int u_15)]) F.1 F.2.1 dX7_calls_86 hl (k := 5) rfl ex_60 (by decide) rfl (fun ls hl => ?_)
              refine lv_goto (tgt := 50) F.1 F.2.1 dX7_calls_89 (by decide) ?_
              exact ih_50 (k_59, x_60) _ _ _ ⟨(show (14 - x_60.toInt + 1).toNat < n_50 from by omega), (wkb (eqb hk_59) rfl rfl), (wkb hx_60.2 rfl rfl), hH, hS, lv_sub hl [2, 3, 4, 5, 1, 0] rfl⟩
      · skip
        have r_24 : 0 ≤ a1.toInt ∧ a1.toInt ≤ 0 := by have h9_ := r_9; omega
        refine lv_aload_n F.1 F.2.1 dX7_calls_32 rfl (lv_at hl 0 rfl) ?_
        refine lv_iload_n F.1 F.2.1 dX7_calls_33 rfl (lv_at hl 3 rfl) ?_
        refine tVi (b := a0) (As := [.int u_15]) (rest := []) F hK hN hO (c_X7_isShort E ws kp as rd ty ik un (0, 18) xt tp sp wrb nu nab iwb X0 a0 u_15 ha0 r_20 hX0) mv_X7_isShort wd_30_2 ⟨Nat.le_of_ble_eq_true rfl, Nat.le_of_ble_eq_true rfl⟩ ⟨Nat.le_of_ble_eq_true rfl, Nat.le_of_ble_eq_true rfl⟩ hH hS (tRecv hK hH (tyb ha0 (all1 rfl)) clX7) rfl hl.1 (Nat.le_of_ble_eq_true rfl) dX7_calls_34 (fun z_61 H locs hq hS => ?_)
        obtain ⟨f_62, hH⟩ := hq
        have hH : TH E (tbM (mD (.inl tp) (.inl sp) (.inl nu) (.inl un) (.inl (0, 18)) (.inl xt) (.inl wrb) (.inl nab) (.inl iwb)) (xD 660 X0) ws kp as rd m_second ty ik) H := hH
        refine z_eq (tgt := 44) F dX7_calls_37 (by decide) (fun c_63 => ?_) (fun c_63 => ?_)
        · skip
          have r_64 : 0 ≤ z_61.toInt ∧ z_61.toInt ≤ 0 := by have h9_ := f_62; omega
          refine lv_iconst (v := 0) F.1 F.2.1 dX7_calls_44 (by decide) ?_
          refine topK (a := 0) (by decide) (fun k_66 hk_66 => ?_)
          refine lv_istore (lv' := [(4, .int k_66), (0, .ref a0), (1, .int a1), (2, .int u_14), (3, .int u_15)]) F.1 F.2.1 dX7_calls_45 hl (by decide) rfl (fun ls hl => ?_)
          refine lv_iconst (v := 0) F.1 F.2.1 dX7_calls_47 (by decide) ?_
          refine topK (a := 0) (by decide) (fun k_67 hk_67 => ?_)
          refine lv_istore (lv' := [(5, .int k_67), (4, .int k_66), (0, .ref a0), (1, .int a1), (2, .int u_14), (3, .int u_15)]) F.1 F.2.1 dX7_calls_48 hl (by decide) rfl (fun ls hl => ?_)
          refine wloop (σ := Int32 × Int32) (fun n9 x9 H locs ls => (14 - x9.2.toInt + 1).toNat < n9 ∧ (0 ≤ x9.1.toInt ∧ x9.1.toInt ≤ 1) ∧ (0 ≤ x9.2.toInt ∧ x9.2.toInt ≤ 14) ∧ TH E (tbM (mD (.inl tp) (.inl sp) (.inl nu) (.inl un) (.inl (0, 18)) (.inl xt) (.inl wrb) (.inl nab) (.inl iwb)) (xD 660 X0) ws kp as rd m_second ty ik) H ∧ va_S (eA E s.heap.size) s.heap H locs ∧ lv_has ls 6 [(0, .ref a0), (1, .int a1), (2, .int u_14), (3, .int u_15), (4, .int x9.1), (5, .int x9.2)]) ?_ (fun x9 H locs ls h => absurd h.1 (Nat.not_lt_zero _)) _ (k_66, k_67) ⟨Nat.lt_succ_self _, (wkb (eqb hk_66) rfl rfl), (wkb (eqb hk_67) rfl rfl), hH, hS, lv_sub hl [2, 3, 4, 5, 1, 0] rfl⟩
          intro n_50 ih_50 ⟨u_68, u_69⟩ H locs ls ⟨hm_50, hu_68, hu_69, hH, hS, hl⟩
          have hm_50 : (14 - u_69.toInt + 1).toNat < n_50 + 1 := hm_50
          have hu_68 : (0 ≤ u_68.toInt ∧ u_68.toInt ≤ 1) := hu_68
          have hu_69 : (0 ≤ u_69.toInt ∧ u_69.toInt ≤ 14) := hu_69
          have hH : TH E (tbM (mD (.inl tp) (.inl sp) (.inl nu) (.inl un) (.inl (0, 18)) (.inl xt) (.inl wrb) (.inl nab) (.inl iwb)) (xD 660 X0) ws kp as rd m_second ty ik) H := hH
          have hl : lv_has ls 6 [(0, .ref a0), (1, .int a1), (2, .int u_14), (3, .int u_15), (4, .int u_68), (5, .int u_69)] := hl
          refine lv_iload F.1 F.2.1 dX7_calls_50 (lv_at hl 5 rfl) ?_
          refine lv_aload_n F.1 F.2.1 dX7_calls_52 rfl (lv_at hl 0 rfl) ?_
          refine tVi (b := a0) (As := []) (rest := [.int u_69]) F hK hN hO (c_X7_rights E ws kp as rd m_second ty ik un (0, 18) xt tp sp wrb nu nab iwb X0 a0 ha0 ((hX0).1)) mv_X7_rights wd_19_4 ⟨Nat.le_of_ble_eq_true rfl, Nat.le_of_ble_eq_true rfl⟩ ⟨Nat.le_of_ble_eq_true rfl, Nat.le_of_ble_eq_true rfl⟩ hH hS (tRecv hK hH (tyb ha0 (all1 rfl)) clX7) rfl hl.1 (Nat.le_of_ble_eq_true rfl) dX7_calls_53 (fun z_70 H locs hq hS => ?_)
          obtain ⟨f_71, f_72, hH⟩ := hq
          have hH : TH E (tbM (mD (.inl tp) (.inl sp) (.inl nu) (.inl un) (.inl (0, 18)) (.inl xt) (.inl wrb) (.inl nab) (.inl iwb)) (xD 660 X0) ws kp as rd m_second ty ik) H := hH
          refine wjoin (σ := Unit) (pcj := 92) (stj := fun x9 => []) (fun x9 H locs ls => TH E (tbM (mD (.inl tp) (.inl sp) (.inl nu) (.inl un) (.inl (0, 18)) (.inl xt) (.inl wrb) (.inl nab) (.inl iwb)) (xD 660 X0) ws kp as rd m_second ty ik) H ∧ va_S (eA E s.heap.size) s.heap H locs ∧ lv_has ls 6 [(0, .ref a0), (1, .int a1), (2, .int u_14), (3, .int u_15), (4, .int u_68)]) (fun x9 H locs ls h_ => ?_) (fun J_92 => ?_)
          · skip
            obtain ⟨hH, hS, hl⟩ := h_
            have hH : TH E (tbM (mD (.inl tp) (.inl sp) (.inl nu) (.inl un) (.inl (0, 18)) (.inl xt) (.inl wrb) (.inl nab) (.inl iwb)) (xD 660 X0) ws kp as rd m_second ty ik) H := hH
            have hl : lv_has ls 6 [(0, .ref a0), (1, .int a1), (2, .int u_14), (3, .int u_15), (4, .int u_68)] := hl
            show W _ _ _ _ _ _ _ _ _ _ _ _ _ _ _ (F0 _ _ _ [])
            refine lv_iload_n F.1 F.2.1 dX7_calls_92 rfl (lv_at hl 2 rfl) ?_
            refine lv_iload F.1 F.2.1 dX7_calls_93 (lv_at hl 4 rfl) ?_
            refine z_eq (tgt := 104) F dX7_calls_95 (by decide) (fun c_73 => ?_) (fun c_73 => ?_)
            · skip
              have r_74 : 0 ≤ u_68.toInt ∧ u_68.toInt ≤ 0 := by have h9_ := hu_68; omega
              refine lv_iconst (v := 0) F.1 F.2.1 dX7_calls_104 (by decide) ?_
              refine topK (a := 0) (by decide) (fun k_76 hk_76 => ?_)
              refine lv_ior F.1 F.2.1 dX7_calls_105 ?_
              refine topF (fun z_77 => ?_)
              refine lv_istore_n (lv' := [(2, .int z_77), (0, .ref a0), (1, .int a1), (3, .int u_15), (4, .int u_68)]) F.1 F.2.1 dX7_calls_106 rfl hl (by decide) rfl (fun ls hl => ?_)
              obtain ⟨x_78, ex_78, hx_78⟩ := iincB (c := 1) (lo := 1) (hi := 14) r_20 rfl
              refine lv_iinc (v := x_78) (lv' := [(3, .int x_78), (2, .int z_77), (0, .ref a0), (1, .int a1), (4, .int u_68)]) F.1 F.2.1 dX7_calls_107 hl (k := 3) rfl ex_78 (by decide) rfl (fun ls hl => ?_)
              refine lv_goto (tgt := 20) F.1 F.2.1 dX7_calls_110 (by decide) ?_
              exact ih_20 (z_77, x_78) _ _ _ ⟨(show (14 - x_78.toInt + 1).toNat < n_20 from by omega), (wkb hx_78.2 rfl rfl), hH, hS, lv_sub hl [2, 3, 1, 0] rfl⟩
            · skip
              have r_75 : 1 ≤ u_68.toInt ∧ u_68.toInt ≤ 1 := by have h9_ := hu_68; omega
              refine lv_iconst (v := 1) F.1 F.2.1 dX7_calls_98 (by decide) ?_
              refine topK (a := 1) (by decide) (fun k_79 hk_79 => ?_)
              refine lv_iload_n F.1 F.2.1 dX7_calls_99 rfl (lv_at hl 3 rfl) ?_
              refine lv_ishl F.1 F.2.1 dX7_calls_100 ?_
              refine topF (fun z_80 => ?_)
              refine lv_goto (tgt := 105) F.1 F.2.1 dX7_calls_101 (by decide) ?_
              refine lv_ior F.1 F.2.1 dX7_calls_105 ?_
              refine topF (fun z_81 => ?_)
              refine lv_istore_n (lv' := [(2, .int z_81), (0, .ref a0), (1, .int a1), (3, .int u_15), (4, .int u_68)]) F.1 F.2.1 dX7_calls_106 rfl hl (by decide) rfl (fun ls hl => ?_)
              obtain ⟨x_82, ex_82, hx_82⟩ := iincB (c := 1) (lo := 1) (hi := 14) r_20 rfl
              refine lv_iinc (v := x_82) (lv' := [(3, .int x_82), (2, .int z_81), (0, .ref a0), (1, .int a1), (4, .int u_68)]) F.1 F.2.1 dX7_calls_107 hl (k := 3) rfl ex_82 (by decide) rfl (fun ls hl => ?_)
              refine lv_goto (tgt := 20) F.1 F.2.1 dX7_calls_110 (by decide) ?_
              exact ih_20 (z_81, x_82) _ _ _ ⟨(show (14 - x_82.toInt + 1).toNat < n_20 from by omega), (wkb hx_82.2 rfl rfl), hH, hS, lv_sub hl [2, 3, 1, 0] rfl⟩
          refine b_ge (tgt := 92) F dX7_calls_56 (by decide) (fun c_83 => ?_) (fun c_83 => ?_)
          · skip
            exact J_92 () _ _ _ ⟨hH, hS, lv_sub hl [0, 1, 2, 3, 4] rfl⟩
          · skip
            have r_84 : 0 ≤ u_69.toInt ∧ u_69.toInt ≤ 13 := by have h9_ := hu_69; omega
            have r_85 : 1 ≤ z_70.toInt ∧ z_70.toInt ≤ 14 := by have h9_ := f_71; omega
            refine lv_iload_n F.1 F.2.1 dX7_calls_59 rfl (lv_at hl 1 rfl) ?_
            refine lv_iconst (v := 1) F.1 F.2.1 dX7_calls_60 (by decide) ?_
            refine topK (a := 1) (by decide) (fun k_86 hk_86 => ?_)
            refine b_ne (tgt := 92) F dX7_calls_61 (by decide) (fun c_87 => ?_) (fun c_87 => absurd c_87 (by omega))
            exact J_92 () _ _ _ ⟨hH, hS, lv_sub hl [0, 1, 2, 3, 4] rfl⟩
        · skip
          have r_65 : 1 ≤ z_61.toInt ∧ z_61.toInt ≤ 1 := by have h9_ := f_62; omega
          refine lv_iconst (v := 1) F.1 F.2.1 dX7_calls_40 (by decide) ?_
          refine topK (a := 1) (by decide) (fun k_88 hk_88 => ?_)
          refine lv_goto (tgt := 45) F.1 F.2.1 dX7_calls_41 (by decide) ?_
          refine lv_istore (lv' := [(4, .int k_88), (0, .ref a0), (1, .int a1), (2, .int u_14), (3, .int u_15)]) F.1 F.2.1 dX7_calls_45 hl (by decide) rfl (fun ls hl => ?_)
          refine lv_iconst (v := 0) F.1 F.2.1 dX7_calls_47 (by decide) ?_
          refine topK (a := 0) (by decide) (fun k_89 hk_89 => ?_)
          refine lv_istore (lv' := [(5, .int k_89), (4, .int k_88), (0, .ref a0), (1, .int a1), (2, .int u_14), (3, .int u_15)]) F.1 F.2.1 dX7_calls_48 hl (by decide) rfl (fun ls hl => ?_)
          refine wloop (σ := Int32 × Int32) (fun n9 x9 H locs ls => (14 - x9.2.toInt + 1).toNat < n9 ∧ (0 ≤ x9.1.toInt ∧ x9.1.toInt ≤ 1) ∧ (0 ≤ x9.2.toInt ∧ x9.2.toInt ≤ 14) ∧ TH E (tbM (mD (.inl tp) (.inl sp) (.inl nu) (.inl un) (.inl (0, 18)) (.inl xt) (.inl wrb) (.inl nab) (.inl iwb)) (xD 660 X0) ws kp as rd m_second ty ik) H ∧ va_S (eA E s.heap.size) s.heap H locs ∧ lv_has ls 6 [(0, .ref a0), (1, .int a1), (2, .int u_14), (3, .int u_15), (4, .int x9.1), (5, .int x9.2)]) ?_ (fun x9 H locs ls h => absurd h.1 (Nat.not_lt_zero _)) _ (k_88, k_89) ⟨Nat.lt_succ_self _, (wkb (eqb hk_88) rfl rfl), (wkb (eqb hk_89) rfl rfl), hH, hS, lv_sub hl [2, 3, 4, 5, 1, 0] rfl⟩
          intro n_50 ih_50 ⟨u_90, u_91⟩ H locs ls ⟨hm_50, hu_90, hu_91, hH, hS, hl⟩
          have hm_50 : (14 - u_91.toInt + 1).toNat < n_50 + 1 := hm_50
          have hu_90 : (0 ≤ u_90.toInt ∧ u_90.toInt ≤ 1) := hu_90
          have hu_91 : (0 ≤ u_91.toInt ∧ u_91.toInt ≤ 14) := hu_91
          have hH : TH E (tbM (mD (.inl tp) (.inl sp) (.inl nu) (.inl un) (.inl (0, 18)) (.inl xt) (.inl wrb) (.inl nab) (.inl iwb)) (xD 660 X0) ws kp as rd m_second ty ik) H := hH
          have hl : lv_has ls 6 [(0, .ref a0), (1, .int a1), (2, .int u_14), (3, .int u_15), (4, .int u_90), (5, .int u_91)] := hl
          refine lv_iload F.1 F.2.1 dX7_calls_50 (lv_at hl 5 rfl) ?_
          refine lv_aload_n F.1 F.2.1 dX7_calls_52 rfl (lv_at hl 0 rfl) ?_
          refine tVi (b := a0) (As := []) (rest := [.int u_91]) F hK hN hO (c_X7_rights E ws kp as rd m_second ty ik un (0, 18) xt tp sp wrb nu nab iwb X0 a0 ha0 ((hX0).1)) mv_X7_rights wd_19_4 ⟨Nat.le_of_ble_eq_true rfl, Nat.le_of_ble_eq_true rfl⟩ ⟨Nat.le_of_ble_eq_true rfl, Nat.le_of_ble_eq_true rfl⟩ hH hS (tRecv hK hH (tyb ha0 (all1 rfl)) clX7) rfl hl.1 (Nat.le_of_ble_eq_true rfl) dX7_calls_53 (fun z_92 H locs hq hS => ?_)
          obtain ⟨f_93, f_94, hH⟩ := hq
          have hH : TH E (tbM (mD (.inl tp) (.inl sp) (.inl nu) (.inl un) (.inl (0, 18)) (.inl xt) (.inl wrb) (.inl nab) (.inl iwb)) (xD 660 X0) ws kp as rd m_second ty ik) H := hH
          refine wjoin (σ := Unit) (pcj := 92) (stj := fun x9 => []) (fun x9 H locs ls => TH E (tbM (mD (.inl tp) (.inl sp) (.inl nu) (.inl un) (.inl (0, 18)) (.inl xt) (.inl wrb) (.inl nab) (.inl iwb)) (xD 660 X0) ws kp as rd m_second ty ik) H ∧ va_S (eA E s.heap.size) s.heap H locs ∧ lv_has ls 6 [(0, .ref a0), (1, .int a1), (2, .int u_14), (3, .int u_15), (4, .int u_90)]) (fun x9 H locs ls h_ => ?_) (fun J_92 => ?_)
          · skip
            obtain ⟨hH, hS, hl⟩ := h_
            have hH : TH E (tbM (mD (.inl tp) (.inl sp) (.inl nu) (.inl un) (.inl (0, 18)) (.inl xt) (.inl wrb) (.inl nab) (.inl iwb)) (xD 660 X0) ws kp as rd m_second ty ik) H := hH
            have hl : lv_has ls 6 [(0, .ref a0), (1, .int a1), (2, .int u_14), (3, .int u_15), (4, .int u_90)] := hl
            show W _ _ _ _ _ _ _ _ _ _ _ _ _ _ _ (F0 _ _ _ [])
            refine lv_iload_n F.1 F.2.1 dX7_calls_92 rfl (lv_at hl 2 rfl) ?_
            refine lv_iload F.1 F.2.1 dX7_calls_93 (lv_at hl 4 rfl) ?_
            refine z_eq (tgt := 104) F dX7_calls_95 (by decide) (fun c_95 => ?_) (fun c_95 => ?_)
            · skip
              have r_96 : 0 ≤ u_90.toInt ∧ u_90.toInt ≤ 0 := by have h9_ := hu_90; omega
              refine lv_iconst (v := 0) F.1 F.2.1 dX7_calls_104 (by decide) ?_
              refine topK (a := 0) (by decide) (fun k_98 hk_98 => ?_)
              refine lv_ior F.1 F.2.1 dX7_calls_105 ?_
              refine topF (fun z_99 => ?_)
              refine lv_istore_n (lv' := [(2, .int z_99), (0, .ref a0), (1, .int a1), (3, .int u_15), (4, .int u_90)]) F.1 F.2.1 dX7_calls_106 rfl hl (by decide) rfl (fun ls hl => ?_)
              obtain ⟨x_100, ex_100, hx_100⟩ := iincB (c := 1) (lo := 1) (hi := 14) r_20 rfl
              refine lv_iinc (v := x_100) (lv' := [(3, .int x_100), (2, .int z_99), (0, .ref a0), (1, .int a1), (4, .int u_90)]) F.1 F.2.1 dX7_calls_107 hl (k := 3) rfl ex_100 (by decide) rfl (fun ls hl => ?_)
              refine lv_goto (tgt := 20) F.1 F.2.1 dX7_calls_110 (by decide) ?_
              exact ih_20 (z_99, x_100) _ _ _ ⟨(show (14 - x_100.toInt + 1).toNat < n_20 from by omega), (wkb hx_100.2 rfl rfl), hH, hS, lv_sub hl [2, 3, 1, 0] rfl⟩
            · skip
              have r_97 : 1 ≤ u_90.toInt ∧ u_90.toInt ≤ 1 := by have h9_ := hu_90; omega
              refine lv_iconst (v := 1) F.1 F.2.1 dX7_calls_98 (by decide) ?_
              refine topK (a := 1) (by decide) (fun k_101 hk_101 => ?_)
              refine lv_iload_n F.1 F.2.1 dX7_calls_99 rfl (lv_at hl 3 rfl) ?_
              refine lv_ishl F.1 F.2.1 dX7_calls_100 ?_
              refine topF (fun z_102 => ?_)
              refine lv_goto (tgt := 105) F.1 F.2.1 dX7_calls_101 (by decide) ?_
              refine lv_ior F.1 F.2.1 dX7_calls_105 ?_
              refine topF (fun z_103 => ?_)
              refine lv_istore_n (lv' := [(2, .int z_103), (0, .ref a0), (1, .int a1), (3, .int u_15), (4, .int u_90)]) F.1 F.2.1 dX7_calls_106 rfl hl (by decide) rfl (fun ls hl => ?_)
              obtain ⟨x_104, ex_104, hx_104⟩ := iincB (c := 1) (lo := 1) (hi := 14) r_20 rfl
              refine lv_iinc (v := x_104) (lv' := [(3, .int x_104), (2, .int z_103), (0, .ref a0), (1, .int a1), (4, .int u_90)]) F.1 F.2.1 dX7_calls_107 hl (k := 3) rfl ex_104 (by decide) rfl (fun ls hl => ?_)
              refine lv_goto (tgt := 20) F.1 F.2.1 dX7_calls_110 (by decide) ?_
              exact ih_20 (z_103, x_104) _ _ _ ⟨(show (14 - x_104.toInt + 1).toNat < n_20 from by omega), (wkb hx_104.2 rfl rfl), hH, hS, lv_sub hl [2, 3, 1, 0] rfl⟩
          refine b_ge (tgt := 92) F dX7_calls_56 (by decide) (fun c_105 => ?_) (fun c_105 => ?_)
          · skip
            exact J_92 () _ _ _ ⟨hH, hS, lv_sub hl [0, 1, 2, 3, 4] rfl⟩
          · skip
            have r_106 : 0 ≤ u_91.toInt ∧ u_91.toInt ≤ 13 := by have h9_ := hu_91; omega
            have r_107 : 1 ≤ z_92.toInt ∧ z_92.toInt ≤ 14 := by have h9_ := f_93; omega
            refine lv_iload_n F.1 F.2.1 dX7_calls_59 rfl (lv_at hl 1 rfl) ?_
            refine lv_iconst (v := 1) F.1 F.2.1 dX7_calls_60 (by decide) ?_
            refine topK (a := 1) (by decide) (fun k_108 hk_108 => ?_)
            refine b_ne (tgt := 92) F dX7_calls_61 (by decide) (fun c_109 => ?_) (fun c_109 => absurd c_109 (by omega))
            exact J_92 () _ _ _ ⟨hH, hS, lv_sub hl [0, 1, 2, 3, 4] rfl⟩
  · skip
    have r_10 : 0 ≤ z_4.toInt ∧ z_4.toInt ≤ 0 := by have h9_ := f_5; omega
    refine lv_iconst (v := (-1)) F.1 F.2.1 dX7_calls_10 (by decide) ?_
    refine topK (a := (-1)) (by decide) (fun k_110 hk_110 => ?_)
    exact txI F hS dX7_calls_11 rfl (⟨(wkb (eqb hk_110) rfl rfl), hH⟩)
set_option maxHeartbeats 4000000 in
set_option maxRecDepth 100000 in
theorem c_X7_futile (E : Ev) (ws : TD) (kp : TD) (as : TD) (rd : TD) (ty : TD) (ik : TD) (un : Int × Int) (xt : Int × Int) (tp : Int × Int) (sp : Int × Int) (wrb : Int × Int) (nu : Int × Int) (nab : Int × Int) (iwb : Int × Int) (X0 : Nat → Int32) (a0 : Nat) (a1 : Int32) (a2 : Int32) (ha0 : eT E a0 ∈ [24]) (hX0 : okR X0) : TcI E yX7_futile cX7_futile 3 .int ({ frames := 8, cells := 0, slots := 0, locals := 201 }) [.ref a0, .int a1, .int a2] (fun H => TH E (tbM (mD (.inl tp) (.inl sp) (.inl nu) (.inl un) (.inl (0, 18)) (.inl xt) (.inl wrb) (.inl nab) (.inl iwb)) (xD 660 X0) ws kp as rd m_second ty ik) H) (fun v H => ((-2147483648) ≤ v.toInt ∧ v.toInt ≤ 2147483647) ∧ TH E (tbM (mD (.inl tp) (.inl sp) (.inl nu) (.inl un) (.inl (0, 18)) (.inl xt) (.inl wrb) (.inl nab) (.inl iwb)) (xD 660 X0) ws kp as rd m_second ty ik) H) := by
  refine teI (by decide) (Nat.le_of_ble_eq_true rfl) ?_
  intro p_ ev_ s mi_ below_ meth cd_ ls F hK hN hO hH hS hl
  have hH : TH E (tbM (mD (.inl tp) (.inl sp) (.inl nu) (.inl un) (.inl (0, 18)) (.inl xt) (.inl wrb) (.inl nab) (.inl iwb)) (xD 660 X0) ws kp as rd m_second ty ik) s.heap := hH
  have hl : lv_has ls 3 [(0, .ref a0), (1, .int a1), (2, .int a2)] := hl
  have hBX0 := okB hX0.1
  have hLX0 := hX0.2
  refine lv_aload_n F.1 F.2.1 dX7_futile_0 rfl (lv_at hl 0 rfl) ?_
  refine lv_iload_n F.1 F.2.1 dX7_futile_1 rfl (lv_at hl 1 rfl) ?_
  refine tVi (b := a0) (As := [.int a1]) (rest := []) F hK hN hO (c_X7_isRight E ws kp as rd m_second ty ik un (0, 18) xt tp sp wrb nu nab iwb X0 a0 a1 ha0 ((hX0).1)) mv_X7_isRight wd_31_18 ⟨Nat.le_of_ble_eq_true rfl, Nat.le_of_ble_eq_true rfl⟩ ⟨Nat.le_of_ble_eq_true rfl, Nat.le_of_ble_eq_true rfl⟩ hH hS (tRecv hK hH (tyb ha0 (all1 rfl)) clX7) rfl hl.1 (Nat.le_of_ble_eq_true rfl) dX7_futile_2 (fun z_1 H locs hq hS => ?_)
  obtain ⟨f_2, f_3, f_4, hH⟩ := hq
  have hH : TH E (tbM (mD (.inl tp) (.inl sp) (.inl nu) (.inl un) (.inl (0, 18)) (.inl xt) (.inl wrb) (.inl nab) (.inl iwb)) (xD 660 X0) ws kp as rd m_second ty ik) H := hH
  refine z_eq (tgt := 21) F dX7_futile_5 (by decide) (fun c_5 => ?_) (fun c_5 => ?_)
  · skip
    have r_6 : 0 ≤ z_1.toInt ∧ z_1.toInt ≤ 0 := by have h9_ := f_2; omega
    refine lv_iconst (v := (-1)) F.1 F.2.1 dX7_futile_21 (by decide) ?_
    refine topK (a := (-1)) (by decide) (fun k_9 hk_9 => ?_)
    exact txI F hS dX7_futile_22 rfl (⟨(wkb (eqb hk_9) rfl rfl), hH⟩)
  · skip
    have r_7 : 1 ≤ z_1.toInt ∧ z_1.toInt ≤ 1 := by have h9_ := f_2; omega
    have r_8 : 0 ≤ a1.toInt ∧ a1.toInt ≤ 13 := by have h9_ := (i32b a1); omega
    refine lv_aload_n F.1 F.2.1 dX7_futile_8 rfl (lv_at hl 0 rfl) ?_
    refine lv_iload_n F.1 F.2.1 dX7_futile_9 rfl (lv_at hl 2 rfl) ?_
    refine tVi (b := a0) (As := [.int a2]) (rest := []) F hK hN hO (c_X7_isRight E ws kp as rd m_second ty ik un (0, 18) xt tp sp wrb nu nab iwb X0 a0 a2 ha0 ((hX0).1)) mv_X7_isRight wd_31_18 ⟨Nat.le_of_ble_eq_true rfl, Nat.le_of_ble_eq_true rfl⟩ ⟨Nat.le_of_ble_eq_true rfl, Nat.le_of_ble_eq_true rfl⟩ hH hS (tRecv hK hH (tyb ha0 (all1 rfl)) clX7) rfl hl.1 (Nat.le_of_ble_eq_true rfl) dX7_futile_10 (fun z_10 H locs hq hS => ?_)
    obtain ⟨f_11, f_12, f_13, hH⟩ := hq
    have hH : TH E (tbM (mD (.inl tp) (.inl sp) (.inl nu) (.inl un) (.inl (0, 18)) (.inl xt) (.inl wrb) (.inl nab) (.inl iwb)) (xD 660 X0) ws kp as rd m_second ty ik) H := hH
    refine z_eq (tgt := 21) F dX7_futile_13 (by decide) (fun c_14 => ?_) (fun c_14 => ?_)
    · skip
      have r_15 : 0 ≤ z_10.toInt ∧ z_10.toInt ≤ 0 := by have h9_ := f_11; omega
      refine lv_iconst (v := (-1)) F.1 F.2.1 dX7_futile_21 (by decide) ?_
      refine topK (a := (-1)) (by decide) (fun k_18 hk_18 => ?_)
      exact txI F hS dX7_futile_22 rfl (⟨(wkb (eqb hk_18) rfl rfl), hH⟩)
    · skip
      have r_16 : 1 ≤ z_10.toInt ∧ z_10.toInt ≤ 1 := by have h9_ := f_11; omega
      have r_17 : 0 ≤ a2.toInt ∧ a2.toInt ≤ 13 := by have h9_ := (i32b a2); omega
      refine lv_iload_n F.1 F.2.1 dX7_futile_16 rfl (lv_at hl 1 rfl) ?_
      refine lv_iload_n F.1 F.2.1 dX7_futile_17 rfl (lv_at hl 2 rfl) ?_
      refine b_ne (tgt := 23) F dX7_futile_18 (by decide) (fun c_19 => ?_) (fun c_19 => ?_)
      · skip
        refine lv_aload_n F.1 F.2.1 dX7_futile_23 rfl (lv_at hl 0 rfl) ?_
        refine tVv (b := a0) (As := []) (rest := []) F hK hN hO (c_X7_works E ws kp as rd ty ik un xt tp sp wrb nu nab iwb X0 a0 ha0 hX0) mv_X7_works wd_25_15 ⟨Nat.le_of_ble_eq_true rfl, Nat.le_of_ble_eq_true rfl⟩ ⟨Nat.le_of_ble_eq_true rfl, Nat.le_of_ble_eq_true rfl⟩ hH hS (tRecv hK hH (tyb ha0 (all1 rfl)) clX7) rfl hl.1 (Nat.le_of_ble_eq_true rfl) dX7_futile_24 (fun H locs hq hS => ?_)
        have hH := hq
        have hH : TH E (tbM (mD (.inl tp) (.inl sp) (.inl nu) (.inl un) (.inl (0, 18)) (.inl xt) (.inl wrb) (.inl nab) (.inl iwb)) (xD 660 X0) ws kp as rd m_second ty ik) H := hH
        refine lv_aload_n F.1 F.2.1 dX7_futile_27 rfl (lv_at hl 0 rfl) ?_
        refine lv_iload_n F.1 F.2.1 dX7_futile_28 rfl (lv_at hl 1 rfl) ?_
        refine lv_iload_n F.1 F.2.1 dX7_futile_29 rfl (lv_at hl 2 rfl) ?_
        refine tVi (b := a0) (As := [.int a1, .int a2]) (rest := []) F hK hN hO (c_X7_isFutile E ws kp as rd ty ik un (0, 18) xt tp sp wrb nu nab iwb X0 a0 a1 a2 ha0 r_8 r_17 hX0 (by omega)) mv_X7_isFutile wd_46_7 ⟨Nat.le_of_ble_eq_true rfl, Nat.le_of_ble_eq_true rfl⟩ ⟨Nat.le_of_ble_eq_true rfl, Nat.le_of_ble_eq_true rfl⟩ hH hS (tRecv hK hH (tyb ha0 (all1 rfl)) clX7) rfl hl.1 (Nat.le_of_ble_eq_true rfl) dX7_futile_30 (fun z_21 H locs hq hS => ?_)
        obtain ⟨f_22, hH⟩ := hq
        have hH : TH E (tbM (mD (.inl tp) (.inl sp) (.inl nu) (.inl un) (.inl (0, 18)) (.inl xt) (.inl wrb) (.inl nab) (.inl iwb)) (xD 660 X0) ws kp as rd m_second ty ik) H := hH
        refine z_eq (tgt := 40) F dX7_futile_33 (by decide) (fun c_23 => ?_) (fun c_23 => ?_)
        · skip
          have r_24 : 0 ≤ z_21.toInt ∧ z_21.toInt ≤ 0 := by have h9_ := f_22; omega
          refine lv_iconst (v := 0) F.1 F.2.1 dX7_futile_40 (by decide) ?_
          refine topK (a := 0) (by decide) (fun k_26 hk_26 => ?_)
          exact txI F hS dX7_futile_41 rfl (⟨(wkb (eqb hk_26) rfl rfl), hH⟩)
        · skip
          have r_25 : 1 ≤ z_21.toInt ∧ z_21.toInt ≤ 1 := by have h9_ := f_22; omega
          refine lv_iconst (v := 1) F.1 F.2.1 dX7_futile_36 (by decide) ?_
          refine topK (a := 1) (by decide) (fun k_27 hk_27 => ?_)
          refine lv_goto (tgt := 41) F.1 F.2.1 dX7_futile_37 (by decide) ?_
          exact txI F hS dX7_futile_41 rfl (⟨(wkb (eqb hk_27) rfl rfl), hH⟩)
      · skip
        refine lv_iconst (v := (-1)) F.1 F.2.1 dX7_futile_21 (by decide) ?_
        refine topK (a := (-1)) (by decide) (fun k_28 hk_28 => ?_)
        exact txI F hS dX7_futile_22 rfl (⟨(wkb (eqb hk_28) rfl rfl), hH⟩)
set_option maxHeartbeats 4000000 in
set_option maxRecDepth 100000 in
theorem c_X7_shut (E : Ev) (ws : TD) (kp : TD) (as : TD) (rd : TD) (ty : TD) (ik : TD) (un : Int × Int) (xt : Int × Int) (tp : Int × Int) (sp : Int × Int) (wrb : Int × Int) (nu : Int × Int) (nab : Int × Int) (iwb : Int × Int) (X0 : Nat → Int32) (a0 : Nat) (a1 : Int32) (ha0 : eT E a0 ∈ [24]) (hX0 : okR X0) : TcI E yX7_shut cX7_shut 2 .int ({ frames := 8, cells := 0, slots := 0, locals := 201 }) [.ref a0, .int a1] (fun H => TH E (tbM (mD (.inl tp) (.inl sp) (.inl nu) (.inl un) (.inl (0, 18)) (.inl xt) (.inl wrb) (.inl nab) (.inl iwb)) (xD 660 X0) ws kp as rd m_second ty ik) H) (fun v H => ((-2147483648) ≤ v.toInt ∧ v.toInt ≤ 2147483647) ∧ TH E (tbM (mD (.inl tp) (.inl sp) (.inl nu) (.inl un) (.inl (0, 18)) (.inl xt) (.inl wrb) (.inl nab) (.inl iwb)) (xD 660 X0) ws kp as rd m_second ty ik) H) := by
  refine teI (by decide) (Nat.le_of_ble_eq_true rfl) ?_
  intro p_ ev_ s mi_ below_ meth cd_ ls F hK hN hO hH hS hl
  have hH : TH E (tbM (mD (.inl tp) (.inl sp) (.inl nu) (.inl un) (.inl (0, 18)) (.inl xt) (.inl wrb) (.inl nab) (.inl iwb)) (xD 660 X0) ws kp as rd m_second ty ik) s.heap := hH
  have hl : lv_has ls 2 [(0, .ref a0), (1, .int a1)] := hl
  have hBX0 := okB hX0.1
  have hLX0 := hX0.2
  refine lv_aload_n F.1 F.2.1 dX7_shut_0 rfl (lv_at hl 0 rfl) ?_
  refine lv_iload_n F.1 F.2.1 dX7_shut_1 rfl (lv_at hl 1 rfl) ?_
  refine tVi (b := a0) (As := [.int a1]) (rest := []) F hK hN hO (c_X7_isRight E ws kp as rd m_second ty ik un (0, 18) xt tp sp wrb nu nab iwb X0 a0 a1 ha0 ((hX0).1)) mv_X7_isRight wd_31_18 ⟨Nat.le_of_ble_eq_true rfl, Nat.le_of_ble_eq_true rfl⟩ ⟨Nat.le_of_ble_eq_true rfl, Nat.le_of_ble_eq_true rfl⟩ hH hS (tRecv hK hH (tyb ha0 (all1 rfl)) clX7) rfl hl.1 (Nat.le_of_ble_eq_true rfl) dX7_shut_2 (fun z_1 H locs hq hS => ?_)
  obtain ⟨f_2, f_3, f_4, hH⟩ := hq
  have hH : TH E (tbM (mD (.inl tp) (.inl sp) (.inl nu) (.inl un) (.inl (0, 18)) (.inl xt) (.inl wrb) (.inl nab) (.inl iwb)) (xD 660 X0) ws kp as rd m_second ty ik) H := hH
  refine z_eq (tgt := 28) F dX7_shut_5 (by decide) (fun c_5 => ?_) (fun c_5 => ?_)
  · skip
    have r_6 : 0 ≤ z_1.toInt ∧ z_1.toInt ≤ 0 := by have h9_ := f_2; omega
    refine lv_iconst (v := (-1)) F.1 F.2.1 dX7_shut_28 (by decide) ?_
    refine topK (a := (-1)) (by decide) (fun k_9 hk_9 => ?_)
    exact txI F hS dX7_shut_29 rfl (⟨(wkb (eqb hk_9) rfl rfl), hH⟩)
  · skip
    have r_7 : 1 ≤ z_1.toInt ∧ z_1.toInt ≤ 1 := by have h9_ := f_2; omega
    have r_8 : 0 ≤ a1.toInt ∧ a1.toInt ≤ 13 := by have h9_ := (i32b a1); omega
    refine lv_aload_n F.1 F.2.1 dX7_shut_8 rfl (lv_at hl 0 rfl) ?_
    refine lv_iload_n F.1 F.2.1 dX7_shut_9 rfl (lv_at hl 1 rfl) ?_
    refine lv_aload_n F.1 F.2.1 dX7_shut_10 rfl (lv_at hl 0 rfl) ?_
    refine lv_iload_n F.1 F.2.1 dX7_shut_11 rfl (lv_at hl 1 rfl) ?_
    refine tVi (b := a0) (As := [.int a1]) (rest := [.int a1, .ref a0]) F hK hN hO (c_X7_olderThan E ws kp as rd m_second ty ik un (0, 18) xt tp sp wrb nu nab iwb X0 a0 a1 ha0 (wkb r_8 rfl rfl) hX0) mv_X7_olderThan wd_44_12 ⟨Nat.le_of_ble_eq_true rfl, Nat.le_of_ble_eq_true rfl⟩ ⟨Nat.le_of_ble_eq_true rfl, Nat.le_of_ble_eq_true rfl⟩ hH hS (tRecv hK hH (tyb ha0 (all1 rfl)) clX7) rfl hl.1 (Nat.le_of_ble_eq_true rfl) dX7_shut_12 (fun z_10 H locs hq hS => ?_)
    obtain ⟨f_11, hH⟩ := hq
    have hH : TH E (tbM (mD (.inl tp) (.inl sp) (.inl nu) (.inl un) (.inl (0, 18)) (.inl xt) (.inl wrb) (.inl nab) (.inl iwb)) (xD 660 X0) ws kp as rd m_second ty ik) H := hH
    refine tVi (b := a0) (As := [.int a1, .int z_10]) (rest := []) F hK hN hO (c_X7_takesWithout E ws kp as rd ty ik un xt tp sp wrb nu nab iwb X0 a0 a1 z_10 ha0 (wkb r_8 rfl rfl) hX0) mv_X7_takesWithout wd_44_16 ⟨Nat.le_of_ble_eq_true rfl, Nat.le_of_ble_eq_true rfl⟩ ⟨Nat.le_of_ble_eq_true rfl, Nat.le_of_ble_eq_true rfl⟩ hH hS (tRecv hK hH (tyb ha0 (all1 rfl)) clX7) rfl hl.1 (Nat.le_of_ble_eq_true rfl) dX7_shut_15 (fun z_12 H locs hq hS => ?_)
    obtain ⟨f_13, hH⟩ := hq
    have hH : TH E (tbM (mD (.inl tp) (.inl sp) (.inl nu) (.inl un) (.inl (0, 18)) (.inl xt) (.inl wrb) (.inl nab) (.inl iwb)) (xD 660 X0) ws kp as rd m_second ty ik) H := hH
    refine lv_aload_n F.1 F.2.1 dX7_shut_18 rfl (lv_at hl 0 rfl) ?_
    refine lv_iload_n F.1 F.2.1 dX7_shut_19 rfl (lv_at hl 1 rfl) ?_
    refine lv_iconst (v := 0) F.1 F.2.1 dX7_shut_20 (by decide) ?_
    refine topK (a := 0) (by decide) (fun k_14 hk_14 => ?_)
    refine tVi (b := a0) (As := [.int a1, .int k_14]) (rest := [.int z_12]) F hK hN hO (c_X7_takesWithout E ws kp as rd ty ik un xt tp sp wrb nu nab iwb X0 a0 a1 k_14 ha0 (wkb r_8 rfl rfl) hX0) mv_X7_takesWithout wd_44_16 ⟨Nat.le_of_ble_eq_true rfl, Nat.le_of_ble_eq_true rfl⟩ ⟨Nat.le_of_ble_eq_true rfl, Nat.le_of_ble_eq_true rfl⟩ hH hS (tRecv hK hH (tyb ha0 (all1 rfl)) clX7) rfl hl.1 (Nat.le_of_ble_eq_true rfl) dX7_shut_21 (fun z_15 H locs hq hS => ?_)
    obtain ⟨f_16, hH⟩ := hq
    have hH : TH E (tbM (mD (.inl tp) (.inl sp) (.inl nu) (.inl un) (.inl (0, 18)) (.inl xt) (.inl wrb) (.inl nab) (.inl iwb)) (xD 660 X0) ws kp as rd m_second ty ik) H := hH
    refine tSub (lo := (-9999)) (hi := 9999) F dX7_shut_24 f_13 f_16 rfl (fun z_17 hz_17 => ?_)
    refine lv_goto (tgt := 29) F.1 F.2.1 dX7_shut_25 (by decide) ?_
    exact txI F hS dX7_shut_29 rfl (⟨(wkb hz_17.2 rfl rfl), hH⟩)
set_option maxHeartbeats 4000000 in
set_option maxRecDepth 100000 in
theorem c_X7_caller (E : Ev) (ws : TD) (kp : TD) (as : TD) (rd : TD) (ty : TD) (ik : TD) (un : Int × Int) (xt : Int × Int) (tp : Int × Int) (sp : Int × Int) (wrb : Int × Int) (nu : Int × Int) (nab : Int × Int) (iwb : Int × Int) (X0 : Nat → Int32) (a0 : Nat) (a1 : Int32) (ha0 : eT E a0 ∈ [24]) (hX0 : okR X0) : TcI E yX7_caller cX7_caller 6 .int ({ frames := 8, cells := 0, slots := 0, locals := 201 }) [.ref a0, .int a1] (fun H => TH E (tbM (mD (.inl tp) (.inl sp) (.inl nu) (.inl un) (.inl (0, 18)) (.inl xt) (.inl wrb) (.inl nab) (.inl iwb)) (xD 660 X0) ws kp as rd m_second ty ik) H) (fun v H => ((-2147483648) ≤ v.toInt ∧ v.toInt ≤ 2147483647) ∧ TH E (tbM (mD (.inl tp) (.inl sp) (.inl nu) (.inl un) (.inl (0, 18)) (.inl xt) (.inl wrb) (.inl nab) (.inl iwb)) (xD 660 X0) ws kp as rd m_second ty ik) H) := by
  refine teI (by decide) (Nat.le_of_ble_eq_true rfl) ?_
  intro p_ ev_ s mi_ below_ meth cd_ ls F hK hN hO hH hS hl
  have hH : TH E (tbM (mD (.inl tp) (.inl sp) (.inl nu) (.inl un) (.inl (0, 18)) (.inl xt) (.inl wrb) (.inl nab) (.inl iwb)) (xD 660 X0) ws kp as rd m_second ty ik) s.heap := hH
  have hl : lv_has ls 6 [(0, .ref a0), (1, .int a1)] := hl
  have hBX0 := okB hX0.1
  have hLX0 := hX0.2
  refine lv_aload_n F.1 F.2.1 dX7_caller_0 rfl (lv_at hl 0 rfl) ?_
  refine lv_iload_n F.1 F.2.1 dX7_caller_1 rfl (lv_at hl 1 rfl) ?_
  refine tVi (b := a0) (As := [.int a1]) (rest := []) F hK hN hO (c_X7_isRight E ws kp as rd m_second ty ik un (0, 18) xt tp sp wrb nu nab iwb X0 a0 a1 ha0 ((hX0).1)) mv_X7_isRight wd_31_18 ⟨Nat.le_of_ble_eq_true rfl, Nat.le_of_ble_eq_true rfl⟩ ⟨Nat.le_of_ble_eq_true rfl, Nat.le_of_ble_eq_true rfl⟩ hH hS (tRecv hK hH (tyb ha0 (all1 rfl)) clX7) rfl hl.1 (Nat.le_of_ble_eq_true rfl) dX7_caller_2 (fun z_1 H locs hq hS => ?_)
  obtain ⟨f_2, f_3, f_4, hH⟩ := hq
  have hH : TH E (tbM (mD (.inl tp) (.inl sp) (.inl nu) (.inl un) (.inl (0, 18)) (.inl xt) (.inl wrb) (.inl nab) (.inl iwb)) (xD 660 X0) ws kp as rd m_second ty ik) H := hH
  refine z_ne (tgt := 10) F dX7_caller_5 (by decide) (fun c_5 => ?_) (fun c_5 => ?_)
  · skip
    have r_6 : 1 ≤ z_1.toInt ∧ z_1.toInt ≤ 1 := by have h9_ := f_2; omega
    have r_7 : 0 ≤ a1.toInt ∧ a1.toInt ≤ 13 := by have h9_ := (i32b a1); omega
    refine lv_aload_n F.1 F.2.1 dX7_caller_10 rfl (lv_at hl 0 rfl) ?_
    refine lv_iload_n F.1 F.2.1 dX7_caller_11 rfl (lv_at hl 1 rfl) ?_
    refine lv_iconst (v := 0) F.1 F.2.1 dX7_caller_12 (by decide) ?_
    refine topK (a := 0) (by decide) (fun k_9 hk_9 => ?_)
    refine tVi (b := a0) (As := [.int a1, .int k_9]) (rest := []) F hK hN hO (c_X7_takesWithout E ws kp as rd ty ik un xt tp sp wrb nu nab iwb X0 a0 a1 k_9 ha0 (wkb r_7 rfl rfl) hX0) mv_X7_takesWithout wd_44_16 ⟨Nat.le_of_ble_eq_true rfl, Nat.le_of_ble_eq_true rfl⟩ ⟨Nat.le_of_ble_eq_true rfl, Nat.le_of_ble_eq_true rfl⟩ hH hS (tRecv hK hH (tyb ha0 (all1 rfl)) clX7) rfl hl.1 (Nat.le_of_ble_eq_true rfl) dX7_caller_13 (fun z_10 H locs hq hS => ?_)
    obtain ⟨f_11, hH⟩ := hq
    have hH : TH E (tbM (mD (.inl tp) (.inl sp) (.inl nu) (.inl un) (.inl (0, 18)) (.inl xt) (.inl wrb) (.inl nab) (.inl iwb)) (xD 660 X0) ws kp as rd m_second ty ik) H := hH
    refine lv_istore_n (lv' := [(2, .int z_10), (0, .ref a0), (1, .int a1)]) F.1 F.2.1 dX7_caller_16 rfl hl (by decide) rfl (fun ls hl => ?_)
    refine lv_aload_n F.1 F.2.1 dX7_caller_17 rfl (lv_at hl 1 rfl) ?_
    refine lv_iload_n F.1 F.2.1 dX7_caller_18 rfl (lv_at hl 2 rfl) ?_
    refine tVi (b := a0) (As := [.int a1]) (rest := []) F hK hN hO (c_X7_olderThan E ws kp as rd m_second ty ik un (0, 18) xt tp sp wrb nu nab iwb X0 a0 a1 ha0 (wkb r_7 rfl rfl) hX0) mv_X7_olderThan wd_44_12 ⟨Nat.le_of_ble_eq_true rfl, Nat.le_of_ble_eq_true rfl⟩ ⟨Nat.le_of_ble_eq_true rfl, Nat.le_of_ble_eq_true rfl⟩ hH hS (tRecv hK hH (tyb ha0 (all1 rfl)) clX7) rfl hl.1 (Nat.le_of_ble_eq_true rfl) dX7_caller_19 (fun z_12 H locs hq hS => ?_)
    obtain ⟨f_13, hH⟩ := hq
    have hH : TH E (tbM (mD (.inl tp) (.inl sp) (.inl nu) (.inl un) (.inl (0, 18)) (.inl xt) (.inl wrb) (.inl nab) (.inl iwb)) (xD 660 X0) ws kp as rd m_second ty ik) H := hH
    refine lv_istore_n (lv' := [(3, .int z_12), (2, .int z_10), (0, .ref a0), (1, .int a1)]) F.1 F.2.1 dX7_caller_22 rfl hl (by decide) rfl (fun ls hl => ?_)
    refine lv_iconst (v := (-1)) F.1 F.2.1 dX7_caller_23 (by decide) ?_
    refine topK (a := (-1)) (by decide) (fun k_14 hk_14 => ?_)
    refine lv_istore (lv' := [(4, .int k_14), (3, .int z_12), (2, .int z_10), (0, .ref a0), (1, .int a1)]) F.1 F.2.1 dX7_caller_24 hl (by decide) rfl (fun ls hl => ?_)
    refine lv_iconst (v := 0) F.1 F.2.1 dX7_caller_26 (by decide) ?_
    refine topK (a := 0) (by decide) (fun k_15 hk_15 => ?_)
    refine lv_istore (lv' := [(5, .int k_15), (4, .int k_14), (3, .int z_12), (2, .int z_10), (0, .ref a0), (1, .int a1)]) F.1 F.2.1 dX7_caller_27 hl (by decide) rfl (fun ls hl => ?_)
    refine wloop (σ := Int32 × Int32) (fun n9 x9 H locs ls => (18 - x9.2.toInt + 1).toNat < n9 ∧ ((-1) ≤ x9.1.toInt ∧ x9.1.toInt ≤ 17) ∧ (0 ≤ x9.2.toInt ∧ x9.2.toInt ≤ 18) ∧ TH E (tbM (mD (.inl tp) (.inl sp) (.inl nu) (.inl un) (.inl (0, 18)) (.inl xt) (.inl wrb) (.inl nab) (.inl iwb)) (xD 660 X0) ws kp as rd m_second ty ik) H ∧ va_S (eA E s.heap.size) s.heap H locs ∧ lv_has ls 6 [(0, .ref a0), (1, .int a1), (2, .int z_10), (3, .int z_12), (4, .int x9.1), (5, .int x9.2)]) ?_ (fun x9 H locs ls h => absurd h.1 (Nat.not_lt_zero _)) _ (k_14, k_15) ⟨Nat.lt_succ_self _, (wkb (eqb hk_14) rfl rfl), (wkb (eqb hk_15) rfl rfl), hH, hS, lv_sub hl [4, 5, 3, 2, 1, 0] rfl⟩
    intro n_29 ih_29 ⟨u_16, u_17⟩ H locs ls ⟨hm_29, hu_16, hu_17, hH, hS, hl⟩
    have hm_29 : (18 - u_17.toInt + 1).toNat < n_29 + 1 := hm_29
    have hu_16 : ((-1) ≤ u_16.toInt ∧ u_16.toInt ≤ 17) := hu_16
    have hu_17 : (0 ≤ u_17.toInt ∧ u_17.toInt ≤ 18) := hu_17
    have hH : TH E (tbM (mD (.inl tp) (.inl sp) (.inl nu) (.inl un) (.inl (0, 18)) (.inl xt) (.inl wrb) (.inl nab) (.inl iwb)) (xD 660 X0) ws kp as rd m_second ty ik) H := hH
    have hl : lv_has ls 6 [(0, .ref a0), (1, .int a1), (2, .int z_10), (3, .int z_12), (4, .int u_16), (5, .int u_17)] := hl
    refine lv_iload F.1 F.2.1 dX7_caller_29 (lv_at hl 5 rfl) ?_
    refine lv_bipush (v := 18) F.1 F.2.1 dX7_caller_31 (by decide) ?_
    refine topK (a := 18) (by decide) (fun k_18 hk_18 => ?_)
    refine b_ge (tgt := 92) F dX7_caller_33 (by decide) (fun c_19 => ?_) (fun c_19 => ?_)
    · skip
      have r_20 : 18 ≤ u_17.toInt ∧ u_17.toInt ≤ 18 := by have h9_ := hu_17; omega
      refine lv_iload F.1 F.2.1 dX7_caller_92 (lv_at hl 4 rfl) ?_
      refine lv_iconst (v := (-1)) F.1 F.2.1 dX7_caller_94 (by decide) ?_
      refine topK (a := (-1)) (by decide) (fun k_22 hk_22 => ?_)
      refine b_ne (tgt := 103) F dX7_caller_95 (by decide) (fun c_23 => ?_) (fun c_23 => ?_)
      · skip
        have r_24 : 0 ≤ u_16.toInt ∧ u_16.toInt ≤ 17 := by have h9_ := hu_16; omega
        refine lv_iload F.1 F.2.1 dX7_caller_103 (lv_at hl 4 rfl) ?_
        refine tSi (As := [.int u_16]) (rest := []) F hK hN hO (c_X7_told E (mD (.inl tp) (.inl sp) (.inl nu) (.inl un) (.inl (0, 18)) (.inl xt) (.inl wrb) (.inl nab) (.inl iwb)) (xD 660 X0) ws kp as rd m_second ty ik u_16) ms_X7_told wd_45_11 ⟨Nat.le_of_ble_eq_true rfl, Nat.le_of_ble_eq_true rfl⟩ ⟨Nat.le_of_ble_eq_true rfl, Nat.le_of_ble_eq_true rfl⟩ hH hS rfl hl.1 (Nat.le_of_ble_eq_true rfl) dX7_caller_105 (fun z_26 H locs hq hS => ?_)
        obtain ⟨f_27, hH⟩ := hq
        have hH : TH E (tbM (mD (.inl tp) (.inl sp) (.inl nu) (.inl un) (.inl (0, 18)) (.inl xt) (.inl wrb) (.inl nab) (.inl iwb)) (xD 660 X0) ws kp as rd m_second ty ik) H := hH
        exact txI F hS dX7_caller_108 rfl (⟨f_27, hH⟩)
      · skip
        have r_25 : (-1) ≤ u_16.toInt ∧ u_16.toInt ≤ (-1) := by have h9_ := hu_16; omega
        refine lv_bipush (v := (-2)) F.1 F.2.1 dX7_caller_98 (by decide) ?_
        refine topK (a := (-2)) (by decide) (fun k_28 hk_28 => ?_)
        refine lv_goto (tgt := 108) F.1 F.2.1 dX7_caller_100 (by decide) ?_
        exact txI F hS dX7_caller_108 rfl (⟨(wkb (eqb hk_28) rfl rfl), hH⟩)
    · skip
      have r_21 : 0 ≤ u_17.toInt ∧ u_17.toInt ≤ 17 := by have h9_ := hu_17; omega
      refine lv_iload_n F.1 F.2.1 dX7_caller_36 rfl (lv_at hl 3 rfl) ?_
      refine lv_iload F.1 F.2.1 dX7_caller_37 (lv_at hl 5 rfl) ?_
      refine tSi (As := [.int z_12, .int u_17]) (rest := []) F hK hN hO (c_X7_has E (mD (.inl tp) (.inl sp) (.inl nu) (.inl un) (.inl (0, 18)) (.inl xt) (.inl wrb) (.inl nab) (.inl iwb)) (xD 660 X0) ws kp as rd m_second ty ik z_12 u_17) ms_X7_has wd_27_4 ⟨Nat.le_of_ble_eq_true rfl, Nat.le_of_ble_eq_true rfl⟩ ⟨Nat.le_of_ble_eq_true rfl, Nat.le_of_ble_eq_true rfl⟩ hH hS rfl hl.1 (Nat.le_of_ble_eq_true rfl) dX7_caller_39 (fun z_29 H locs hq hS => ?_)
      obtain ⟨f_30, hH⟩ := hq
      have hH : TH E (tbM (mD (.inl tp) (.inl sp) (.inl nu) (.inl un) (.inl (0, 18)) (.inl xt) (.inl wrb) (.inl nab) (.inl iwb)) (xD 660 X0) ws kp as rd m_second ty ik) H := hH
      refine z_eq (tgt := 86) F dX7_caller_42 (by decide) (fun c_31 => ?_) (fun c_31 => ?_)
      · skip
        have r_32 : 0 ≤ z_29.toInt ∧ z_29.toInt ≤ 0 := by have h9_ := f_30; omega
        obtain ⟨x_34, ex_34, hx_34⟩ := iincB (c := 1) (lo := 1) (hi := 18) r_21 rfl
        refine lv_iinc (v := x_34) (lv' := [(5, .int x_34), (0, .ref a0), (1, .int a1), (2, .int z_10), (3, .int z_12), (4, .int u_16)]) F.1 F.2.1 dX7_caller_86 hl (k := 5) rfl ex_34 (by decide) rfl (fun ls hl => ?_)
        refine lv_goto (tgt := 29) F.1 F.2.1 dX7_caller_89 (by decide) ?_
        exact ih_29 (u_16, x_34) _ _ _ ⟨(show (18 - x_34.toInt + 1).toNat < n_29 from by omega), hu_16, (wkb hx_34.2 rfl rfl), hH, hS, lv_sub hl [1, 2, 3, 4, 5, 0] rfl⟩
      · skip
        have r_33 : 1 ≤ z_29.toInt ∧ z_29.toInt ≤ 1 := by have h9_ := f_30; omega
        refine lv_iload F.1 F.2.1 dX7_caller_45 (lv_at hl 4 rfl) ?_
        refine lv_iconst (v := (-1)) F.1 F.2.1 dX7_caller_47 (by decide) ?_
        refine topK (a := (-1)) (by decide) (fun k_35 hk_35 => ?_)
        refine wjoin (σ := Unit) (pcj := 69) (stj := fun x9 => []) (fun x9 H locs ls => TH E (tbM (mD (.inl tp) (.inl sp) (.inl nu) (.inl un) (.inl (0, 18)) (.inl xt) (.inl wrb) (.inl nab) (.inl iwb)) (xD 660 X0) ws kp as rd m_second ty ik) H ∧ va_S (eA E s.heap.size) s.heap H locs ∧ lv_has ls 6 [(0, .ref a0), (1, .int a1), (2, .int z_10), (3, .int z_12), (4, .int u_16), (5, .int u_17)]) (fun x9 H locs ls h_ => ?_) (fun J_69 => ?_)
        · skip
          obtain ⟨hH, hS, hl⟩ := h_
          have hH : TH E (tbM (mD (.inl tp) (.inl sp) (.inl nu) (.inl un) (.inl (0, 18)) (.inl xt) (.inl wrb) (.inl nab) (.inl iwb)) (xD 660 X0) ws kp as rd m_second ty ik) H := hH
          have hl : lv_has ls 6 [(0, .ref a0), (1, .int a1), (2, .int z_10), (3, .int z_12), (4, .int u_16), (5, .int u_17)] := hl
          show W _ _ _ _ _ _ _ _ _ _ _ _ _ _ _ (F0 _ _ _ [])
          refine lv_aload_n F.1 F.2.1 dX7_caller_69 rfl (lv_at hl 0 rfl) ?_
          refine lv_iload_n F.1 F.2.1 dX7_caller_70 rfl (lv_at hl 1 rfl) ?_
          refine lv_iconst (v := 1) F.1 F.2.1 dX7_caller_71 (by decide) ?_
          refine topK (a := 1) (by decide) (fun k_36 hk_36 => ?_)
          refine lv_iload F.1 F.2.1 dX7_caller_72 (lv_at hl 5 rfl) ?_
          refine lv_ishl F.1 F.2.1 dX7_caller_74 ?_
          refine topF (fun z_37 => ?_)
          refine tVi (b := a0) (As := [.int a1, .int z_37]) (rest := []) F hK hN hO (c_X7_takesWithout E ws kp as rd ty ik un xt tp sp wrb nu nab iwb X0 a0 a1 z_37 ha0 (wkb r_7 rfl rfl) hX0) mv_X7_takesWithout wd_44_16 ⟨Nat.le_of_ble_eq_true rfl, Nat.le_of_ble_eq_true rfl⟩ ⟨Nat.le_of_ble_eq_true rfl, Nat.le_of_ble_eq_true rfl⟩ hH hS (tRecv hK hH (tyb ha0 (all1 rfl)) clX7) rfl hl.1 (Nat.le_of_ble_eq_true rfl) dX7_caller_75 (fun z_38 H locs hq hS => ?_)
          obtain ⟨f_39, hH⟩ := hq
          have hH : TH E (tbM (mD (.inl tp) (.inl sp) (.inl nu) (.inl un) (.inl (0, 18)) (.inl xt) (.inl wrb) (.inl nab) (.inl iwb)) (xD 660 X0) ws kp as rd m_second ty ik) H := hH
          refine lv_iload_n F.1 F.2.1 dX7_caller_78 rfl (lv_at hl 2 rfl) ?_
          refine b_le (tgt := 86) F dX7_caller_79 (by decide) (fun c_40 => ?_) (fun c_40 => ?_)
          · skip
            obtain ⟨x_43, ex_43, hx_43⟩ := iincB (c := 1) (lo := 1) (hi := 18) r_21 rfl
            refine lv_iinc (v := x_43) (lv' := [(5, .int x_43), (0, .ref a0), (1, .int a1), (2, .int z_10), (3, .int z_12), (4, .int u_16)]) F.1 F.2.1 dX7_caller_86 hl (k := 5) rfl ex_43 (by decide) rfl (fun ls hl => ?_)
            refine lv_goto (tgt := 29) F.1 F.2.1 dX7_caller_89 (by decide) ?_
            exact ih_29 (u_16, x_43) _ _ _ ⟨(show (18 - x_43.toInt + 1).toNat < n_29 from by omega), hu_16, (wkb hx_43.2 rfl rfl), hH, hS, lv_sub hl [1, 2, 3, 4, 5, 0] rfl⟩
          · skip
            have r_41 : 1 ≤ z_38.toInt ∧ z_38.toInt ≤ 9999 := by have h9_ := f_39; omega
            have r_42 : 0 ≤ z_10.toInt ∧ z_10.toInt ≤ 9998 := by have h9_ := f_11; omega
            refine lv_iload F.1 F.2.1 dX7_caller_82 (lv_at hl 5 rfl) ?_
            refine lv_istore (lv' := [(4, .int u_17), (0, .ref a0), (1, .int a1), (2, .int z_10), (3, .int z_12), (5, .int u_17)]) F.1 F.2.1 dX7_caller_84 hl (by decide) rfl (fun ls hl => ?_)
            obtain ⟨x_44, ex_44, hx_44⟩ := iincB (c := 1) (lo := 1) (hi := 18) r_21 rfl
            refine lv_iinc (v := x_44) (lv' := [(5, .int x_44), (4, .int u_17), (0, .ref a0), (1, .int a1), (2, .int z_10), (3, .int z_12)]) F.1 F.2.1 dX7_caller_86 hl (k := 5) rfl ex_44 (by decide) rfl (fun ls hl => ?_)
            refine lv_goto (tgt := 29) F.1 F.2.1 dX7_caller_89 (by decide) ?_
            exact ih_29 (u_17, x_44) _ _ _ ⟨(show (18 - x_44.toInt + 1).toNat < n_29 from by omega), (wkb r_21 rfl rfl), (wkb hx_44.2 rfl rfl), hH, hS, lv_sub hl [2, 3, 4, 5, 1, 0] rfl⟩
        refine b_eq (tgt := 69) F dX7_caller_48 (by decide) (fun c_45 => ?_) (fun c_45 => ?_)
        · skip
          have r_46 : (-1) ≤ u_16.toInt ∧ u_16.toInt ≤ (-1) := by have h9_ := hu_16; omega
          exact J_69 () _ _ _ ⟨hH, hS, lv_sub hl [0, 1, 2, 3, 4, 5] rfl⟩
        · skip
          have r_47 : 0 ≤ u_16.toInt ∧ u_16.toInt ≤ 17 := by have h9_ := hu_16; omega
          refine lv_aload_n F.1 F.2.1 dX7_caller_51 rfl (lv_at hl 0 rfl) ?_
          refine lv_iload F.1 F.2.1 dX7_caller_52 (lv_at hl 5 rfl) ?_
          refine tVi (b := a0) (As := [.int u_17]) (rest := []) F hK hN hO (c_X7_ageOf E ws kp as rd m_second ty ik un (0, 18) xt tp sp wrb nu nab iwb X0 a0 u_17 ha0 r_21 hX0) mv_X7_ageOf wd_26_16 ⟨Nat.le_of_ble_eq_true rfl, Nat.le_of_ble_eq_true rfl⟩ ⟨Nat.le_of_ble_eq_true rfl, Nat.le_of_ble_eq_true rfl⟩ hH hS (tRecv hK hH (tyb ha0 (all1 rfl)) clX7) rfl hl.1 (Nat.le_of_ble_eq_true rfl) dX7_caller_54 (fun z_48 H locs hq hS => ?_)
          obtain ⟨f_49, hH⟩ := hq
          have hH : TH E (tbM (mD (.inl tp) (.inl sp) (.inl nu) (.inl un) (.inl (0, 18)) (.inl xt) (.inl wrb) (.inl nab) (.inl iwb)) (xD 660 X0) ws kp as rd m_second ty ik) H := hH
          refine lv_aload_n F.1 F.2.1 dX7_caller_57 rfl (lv_at hl 0 rfl) ?_
          refine lv_iload F.1 F.2.1 dX7_caller_58 (lv_at hl 4 rfl) ?_
          refine tVi (b := a0) (As := [.int u_16]) (rest := [.int z_48]) F hK hN hO (c_X7_ageOf E ws kp as rd m_second ty ik un (0, 18) xt tp sp wrb nu nab iwb X0 a0 u_16 ha0 r_47 hX0) mv_X7_ageOf wd_26_16 ⟨Nat.le_of_ble_eq_true rfl, Nat.le_of_ble_eq_true rfl⟩ ⟨Nat.le_of_ble_eq_true rfl, Nat.le_of_ble_eq_true rfl⟩ hH hS (tRecv hK hH (tyb ha0 (all1 rfl)) clX7) rfl hl.1 (Nat.le_of_ble_eq_true rfl) dX7_caller_60 (fun z_50 H locs hq hS => ?_)
          obtain ⟨f_51, hH⟩ := hq
          have hH : TH E (tbM (mD (.inl tp) (.inl sp) (.inl nu) (.inl un) (.inl (0, 18)) (.inl xt) (.inl wrb) (.inl nab) (.inl iwb)) (xD 660 X0) ws kp as rd m_second ty ik) H := hH
          refine b_le (tgt := 69) F dX7_caller_63 (by decide) (fun c_52 => ?_) (fun c_52 => ?_)
          · skip
            exact J_69 () _ _ _ ⟨hH, hS, lv_sub hl [0, 1, 2, 3, 4, 5] rfl⟩
          · skip
            refine lv_goto (tgt := 86) F.1 F.2.1 dX7_caller_66 (by decide) ?_
            obtain ⟨x_53, ex_53, hx_53⟩ := iincB (c := 1) (lo := 1) (hi := 18) r_21 rfl
            refine lv_iinc (v := x_53) (lv' := [(5, .int x_53), (0, .ref a0), (1, .int a1), (2, .int z_10), (3, .int z_12), (4, .int u_16)]) F.1 F.2.1 dX7_caller_86 hl (k := 5) rfl ex_53 (by decide) rfl (fun ls hl => ?_)
            refine lv_goto (tgt := 29) F.1 F.2.1 dX7_caller_89 (by decide) ?_
            exact ih_29 (u_16, x_53) _ _ _ ⟨(show (18 - x_53.toInt + 1).toNat < n_29 from by omega), (wkb r_47 rfl rfl), (wkb hx_53.2 rfl rfl), hH, hS, lv_sub hl [1, 2, 3, 4, 5, 0] rfl⟩
  · skip
    have r_8 : 0 ≤ z_1.toInt ∧ z_1.toInt ≤ 0 := by have h9_ := f_2; omega
    refine lv_iconst (v := (-1)) F.1 F.2.1 dX7_caller_8 (by decide) ?_
    refine topK (a := (-1)) (by decide) (fun k_54 hk_54 => ?_)
    exact txI F hS dX7_caller_9 rfl (⟨(wkb (eqb hk_54) rfl rfl), hH⟩)
set_option maxHeartbeats 4000000 in
set_option maxRecDepth 100000 in
theorem c_X7_aged (E : Ev) (ws : TD) (kp : TD) (as : TD) (rd : TD) (sc : TD) (ty : TD) (ik : TD) (un : Int × Int) (xt : Int × Int) (tp : Int × Int) (sp : Int × Int) (wrb : Int × Int) (nu : Int × Int) (nab : Int × Int) (iwb : Int × Int) (X0 : Nat → Int32) (a0 : Nat) (a1 : Int32) (ha0 : eT E a0 ∈ [24]) (hX0 : okR X0) : TcI E yX7_aged cX7_aged 2 .int ({ frames := 4, cells := 0, slots := 0, locals := 105 }) [.ref a0, .int a1] (fun H => TH E (tbM (mD (.inl tp) (.inl sp) (.inl nu) (.inl un) (.inl (0, 18)) (.inl xt) (.inl wrb) (.inl nab) (.inl iwb)) (xD 660 X0) ws kp as rd sc ty ik) H) (fun v H => ((-2147483648) ≤ v.toInt ∧ v.toInt ≤ 2147483647) ∧ TH E (tbM (mD (.inl tp) (.inl sp) (.inl nu) (.inl un) (.inl (0, 18)) (.inl xt) (.inl wrb) (.inl nab) (.inl iwb)) (xD 660 X0) ws kp as rd sc ty ik) H) := by
  refine teI (by decide) (Nat.le_of_ble_eq_true rfl) ?_
  intro p_ ev_ s mi_ below_ meth cd_ ls F hK hN hO hH hS hl
  have hH : TH E (tbM (mD (.inl tp) (.inl sp) (.inl nu) (.inl un) (.inl (0, 18)) (.inl xt) (.inl wrb) (.inl nab) (.inl iwb)) (xD 660 X0) ws kp as rd sc ty ik) s.heap := hH
  have hl : lv_has ls 2 [(0, .ref a0), (1, .int a1)] := hl
  have hBX0 := okB hX0.1
  have hLX0 := hX0.2
  refine lv_iload_n F.1 F.2.1 dX7_aged_0 rfl (lv_at hl 1 rfl) ?_
  refine lv_iconst (v := (-1)) F.1 F.2.1 dX7_aged_1 (by decide) ?_
  refine topK (a := (-1)) (by decide) (fun k_1 hk_1 => ?_)
  refine b_ge (tgt := 7) F dX7_aged_2 (by decide) (fun c_2 => ?_) (fun c_2 => ?_)
  · skip
    have r_3 : (-1) ≤ a1.toInt ∧ a1.toInt ≤ 2147483647 := by have h9_ := (i32b a1); omega
    refine lv_aload_n F.1 F.2.1 dX7_aged_7 rfl (lv_at hl 0 rfl) ?_
    refine tVv (b := a0) (As := []) (rest := []) F hK hN hO (c_X7_laysOrder E ws kp as rd sc ty ik un xt tp sp wrb nu nab iwb X0 a0 ha0 hX0) mv_X7_laysOrder wd_26_4 ⟨Nat.le_of_ble_eq_true rfl, Nat.le_of_ble_eq_true rfl⟩ ⟨Nat.le_of_ble_eq_true rfl, Nat.le_of_ble_eq_true rfl⟩ hH hS (tRecv hK hH (tyb ha0 (all1 rfl)) clX7) rfl hl.1 (Nat.le_of_ble_eq_true rfl) dX7_aged_8 (fun H locs hq hS => ?_)
    have hH := hq
    have hH : TH E (tbM (mD (.inl tp) (.inl sp) (.inl nu) (.inl un) (.inl (0, 18)) (.inl xt) (.inl wrb) (.inl nab) (.inl iwb)) (xD 660 X0) ws kp as rd sc ty ik) H := hH
    refine lv_iload_n F.1 F.2.1 dX7_aged_11 rfl (lv_at hl 1 rfl) ?_
    refine lv_iconst (v := (-1)) F.1 F.2.1 dX7_aged_12 (by decide) ?_
    refine topK (a := (-1)) (by decide) (fun k_6 hk_6 => ?_)
    refine b_ne (tgt := 23) F dX7_aged_13 (by decide) (fun c_7 => ?_) (fun c_7 => ?_)
    · skip
      have r_8 : 0 ≤ a1.toInt ∧ a1.toInt ≤ 2147483647 := by have h9_ := r_3; omega
      refine lv_iload_n F.1 F.2.1 dX7_aged_23 rfl (lv_at hl 1 rfl) ?_
      refine lv_aload_n F.1 F.2.1 dX7_aged_24 rfl (lv_at hl 0 rfl) ?_
      refine tGetI (j := 11) F hK hH (tyb ha0 (all1 rfl)) rfl clX7 (by decide) wd_25_23 dX7_aged_25 (fun z_10 hz_10 => ?_)
      refine b_ge (tgt := 43) F dX7_aged_28 (by decide) (fun c_11 => ?_) (fun c_11 => ?_)
      · skip
        refine lv_bipush (v := (-2)) F.1 F.2.1 dX7_aged_43 (by decide) ?_
        refine topK (a := (-2)) (by decide) (fun k_14 hk_14 => ?_)
        exact txI F hS dX7_aged_45 rfl (⟨(wkb (eqb hk_14) rfl rfl), hH⟩)
      · skip
        have r_12 : 0 ≤ a1.toInt ∧ a1.toInt ≤ 17 := by have h9_ := r_8; omega
        have r_13 : 1 ≤ z_10.toInt ∧ z_10.toInt ≤ 18 := by have h9_ := hz_10; omega
        refine lv_aload_n F.1 F.2.1 dX7_aged_31 rfl (lv_at hl 0 rfl) ?_
        refine tGetR (j := 10) F hK hH (tyb ha0 (all1 rfl)) rfl (all1 rfl) clX7 (by decide) wd_6_15 dX7_aged_32 (fun q_15 hq_15 _ => ?_)
        refine lv_iload_n F.1 F.2.1 dX7_aged_35 rfl (lv_at hl 1 rfl) ?_
        refine tIaldB F hK hH (tyb hq_15 (all1 rfl)) (ixb (n := 18) r_12 rfl rfl) dX7_aged_36 (fun z_16 hz_16 => ?_)
        refine tSi (As := [.int z_16]) (rest := []) F hK hN hO (c_X7_told E (mD (.inl tp) (.inl sp) (.inl nu) (.inl un) (.inl (0, 18)) (.inl xt) (.inl wrb) (.inl nab) (.inl iwb)) (xD 660 X0) ws kp as rd sc ty ik z_16) ms_X7_told wd_45_11 ⟨Nat.le_of_ble_eq_true rfl, Nat.le_of_ble_eq_true rfl⟩ ⟨Nat.le_of_ble_eq_true rfl, Nat.le_of_ble_eq_true rfl⟩ hH hS rfl hl.1 (Nat.le_of_ble_eq_true rfl) dX7_aged_37 (fun z_17 H locs hq hS => ?_)
        obtain ⟨f_18, hH⟩ := hq
        have hH : TH E (tbM (mD (.inl tp) (.inl sp) (.inl nu) (.inl un) (.inl (0, 18)) (.inl xt) (.inl wrb) (.inl nab) (.inl iwb)) (xD 660 X0) ws kp as rd sc ty ik) H := hH
        refine lv_goto (tgt := 45) F.1 F.2.1 dX7_aged_40 (by decide) ?_
        exact txI F hS dX7_aged_45 rfl (⟨f_18, hH⟩)
    · skip
      have r_9 : (-1) ≤ a1.toInt ∧ a1.toInt ≤ (-1) := by have h9_ := r_3; omega
      refine lv_aload_n F.1 F.2.1 dX7_aged_16 rfl (lv_at hl 0 rfl) ?_
      refine tGetI (j := 11) F hK hH (tyb ha0 (all1 rfl)) rfl clX7 (by decide) wd_25_23 dX7_aged_17 (fun z_19 hz_19 => ?_)
      refine lv_goto (tgt := 45) F.1 F.2.1 dX7_aged_20 (by decide) ?_
      exact txI F hS dX7_aged_45 rfl (⟨(wkb hz_19 rfl rfl), hH⟩)
  · skip
    have r_4 : (-2147483648) ≤ a1.toInt ∧ a1.toInt ≤ (-2) := by have h9_ := (i32b a1); omega
    refine lv_iconst (v := (-1)) F.1 F.2.1 dX7_aged_5 (by decide) ?_
    refine topK (a := (-1)) (by decide) (fun k_20 hk_20 => ?_)
    exact txI F hS dX7_aged_6 rfl (⟨(wkb (eqb hk_20) rfl rfl), hH⟩)
set_option maxHeartbeats 4000000 in
set_option maxRecDepth 100000 in
theorem c_X7_gone (E : Ev) (ws : TD) (kp : TD) (as : TD) (rd : TD) (sc : TD) (ty : TD) (ik : TD) (un : Int × Int) (tk : Int × Int) (xt : Int × Int) (tp : Int × Int) (sp : Int × Int) (wrb : Int × Int) (nu : Int × Int) (nab : Int × Int) (iwb : Int × Int) (X0 : Nat → Int32) (a0 : Nat) (a1 : Int32) (ha0 : eT E a0 ∈ [24]) (hX0 : okR X0) : TcL E yX7_gone cX7_gone 2 ({ frames := 3, cells := 0, slots := 0, locals := 85 }) [.ref a0, .int a1] (fun H => TH E (tbM (mD (.inl tp) (.inl sp) (.inl nu) (.inl un) (.inl tk) (.inl xt) (.inl wrb) (.inl nab) (.inl iwb)) (xD 660 X0) ws kp as rd sc ty ik) H) (fun v H => TH E (tbM (mD (.inl tp) (.inl sp) (.inl nu) (.inl un) (.inl tk) (.inl xt) (.inl wrb) (.inl nab) (.inl iwb)) (xD 660 X0) ws kp as rd sc ty ik) H) := by
  refine teL (by decide) (Nat.le_of_ble_eq_true rfl) ?_
  intro p_ ev_ s mi_ below_ meth cd_ ls F hK hN hO hH hS hl
  have hH : TH E (tbM (mD (.inl tp) (.inl sp) (.inl nu) (.inl un) (.inl tk) (.inl xt) (.inl wrb) (.inl nab) (.inl iwb)) (xD 660 X0) ws kp as rd sc ty ik) s.heap := hH
  have hl : lv_has ls 2 [(0, .ref a0), (1, .int a1)] := hl
  have hBX0 := okB hX0.1
  have hLX0 := hX0.2
  refine lv_iload_n F.1 F.2.1 dX7_gone_0 rfl (lv_at hl 1 rfl) ?_
  rcases (by omega : (a1.toInt < 0 ∨ 7 < a1.toInt) ∨ a1.toInt = 0 ∨ a1.toInt = 1 ∨ a1.toInt = 2 ∨ a1.toInt = 3 ∨ a1.toInt = 4 ∨ a1.toInt = 5 ∨ a1.toInt = 6 ∨ a1.toInt = 7) with w_1 | w_1 | w_1 | w_1 | w_1 | w_1 | w_1 | w_1 | w_1
  · skip
    refine tTabOut (tgt := 100) F dX7_gone_1 w_1 (by decide) ?_
    refine lv_ldc2 (own := RX7) (v := (-9223372036854775808)) F.1 F.2.1 F.2.2.2.2.1 (F.2.2.2.2.2.2.1 _ wd_50_20) dX7_gone_100 ?_
    refine topKL (a := (-9223372036854775808)) (by decide) (fun j_2 hj_2 => ?_)
    exact txL F hS dX7_gone_103 (hH)
  · skip
    refine tTabIn (off := 47) (tgt := 48) F dX7_gone_1 w_1 (by decide) (by decide) (by decide +kernel) (by decide) ?_
    refine lv_aload_n F.1 F.2.1 dX7_gone_48 rfl (lv_at hl 0 rfl) ?_
    refine tGetR (j := 1) F hK hH (tyb ha0 (all1 rfl)) rfl (all1 rfl) clX7 (by decide) wd_6_6 dX7_gone_49 (fun q_3 hq_3 _ => ?_)
    refine lv_iconst (v := 0) F.1 F.2.1 dX7_gone_52 (by decide) ?_
    refine topK (a := 0) (by decide) (fun k_4 hk_4 => ?_)
    refine tLald F hK hH (tyb hq_3 (all1 rfl)) (ixb (n := 6) (eqb hk_4) rfl rfl) dX7_gone_53 (fun w_5 => ?_)
    exact txL F hS dX7_gone_54 (hH)
  · skip
    refine tTabIn (off := 54) (tgt := 55) F dX7_gone_1 w_1 (by decide) (by decide) (by decide +kernel) (by decide) ?_
    refine lv_aload_n F.1 F.2.1 dX7_gone_55 rfl (lv_at hl 0 rfl) ?_
    refine tGetR (j := 1) F hK hH (tyb ha0 (all1 rfl)) rfl (all1 rfl) clX7 (by decide) wd_6_6 dX7_gone_56 (fun q_6 hq_6 _ => ?_)
    refine lv_iconst (v := 1) F.1 F.2.1 dX7_gone_59 (by decide) ?_
    refine topK (a := 1) (by decide) (fun k_7 hk_7 => ?_)
    refine tLald F hK hH (tyb hq_6 (all1 rfl)) (ixb (n := 6) (eqb hk_7) rfl rfl) dX7_gone_60 (fun w_8 => ?_)
    exact txL F hS dX7_gone_61 (hH)
  · skip
    refine tTabIn (off := 61) (tgt := 62) F dX7_gone_1 w_1 (by decide) (by decide) (by decide +kernel) (by decide) ?_
    refine lv_aload_n F.1 F.2.1 dX7_gone_62 rfl (lv_at hl 0 rfl) ?_
    refine tGetR (j := 1) F hK hH (tyb ha0 (all1 rfl)) rfl (all1 rfl) clX7 (by decide) wd_6_6 dX7_gone_63 (fun q_9 hq_9 _ => ?_)
    refine lv_iconst (v := 2) F.1 F.2.1 dX7_gone_66 (by decide) ?_
    refine topK (a := 2) (by decide) (fun k_10 hk_10 => ?_)
    refine tLald F hK hH (tyb hq_9 (all1 rfl)) (ixb (n := 6) (eqb hk_10) rfl rfl) dX7_gone_67 (fun w_11 => ?_)
    exact txL F hS dX7_gone_68 (hH)
  · skip
    refine tTabIn (off := 68) (tgt := 69) F dX7_gone_1 w_1 (by decide) (by decide) (by decide +kernel) (by decide) ?_
    refine lv_aload_n F.1 F.2.1 dX7_gone_69 rfl (lv_at hl 0 rfl) ?_
    refine tGetR (j := 1) F hK hH (tyb ha0 (all1 rfl)) rfl (all1 rfl) clX7 (by decide) wd_6_6 dX7_gone_70 (fun q_12 hq_12 _ => ?_)
    refine lv_iconst (v := 3) F.1 F.2.1 dX7_gone_73 (by decide) ?_
    refine topK (a := 3) (by decide) (fun k_13 hk_13 => ?_)
    refine tLald F hK hH (tyb hq_12 (all1 rfl)) (ixb (n := 6) (eqb hk_13) rfl rfl) dX7_gone_74 (fun w_14 => ?_)
    exact txL F hS dX7_gone_75 (hH)
  · skip
    refine tTabIn (off := 75) (tgt := 76) F dX7_gone_1 w_1 (by decide) (by decide) (by decide +kernel) (by decide) ?_
    refine lv_aload_n F.1 F.2.1 dX7_gone_76 rfl (lv_at hl 0 rfl) ?_
    refine tGetR (j := 1) F hK hH (tyb ha0 (all1 rfl)) rfl (all1 rfl) clX7 (by decide) wd_6_6 dX7_gone_77 (fun q_15 hq_15 _ => ?_)
    refine lv_iconst (v := 4) F.1 F.2.1 dX7_gone_80 (by decide) ?_
    refine topK (a := 4) (by decide) (fun k_16 hk_16 => ?_)
    refine tLald F hK hH (tyb hq_15 (all1 rfl)) (ixb (n := 6) (eqb hk_16) rfl rfl) dX7_gone_81 (fun w_17 => ?_)
    exact txL F hS dX7_gone_82 (hH)
  · skip
    refine tTabIn (off := 82) (tgt := 83) F dX7_gone_1 w_1 (by decide) (by decide) (by decide +kernel) (by decide) ?_
    refine lv_aload_n F.1 F.2.1 dX7_gone_83 rfl (lv_at hl 0 rfl) ?_
    refine tVl (b := a0) (As := []) (rest := []) F hK hN hO (c_X7_inStores E ws kp as rd sc ty ik un tk xt tp sp wrb nu nab iwb X0 a0 ha0 hX0) mv_X7_inStores wd_50_21 ⟨Nat.le_of_ble_eq_true rfl, Nat.le_of_ble_eq_true rfl⟩ ⟨Nat.le_of_ble_eq_true rfl, Nat.le_of_ble_eq_true rfl⟩ hH hS (tRecv hK hH (tyb ha0 (all1 rfl)) clX7) rfl hl.1 (Nat.le_of_ble_eq_true rfl) dX7_gone_84 (fun w_18 H locs hq hS => ?_)
    have hH := hq
    have hH : TH E (tbM (mD (.inl tp) (.inl sp) (.inl nu) (.inl un) (.inl tk) (.inl xt) (.inl wrb) (.inl nab) (.inl iwb)) (xD 660 X0) ws kp as rd sc ty ik) H := hH
    exact txL F hS dX7_gone_87 (hH)
  · skip
    refine tTabIn (off := 87) (tgt := 88) F dX7_gone_1 w_1 (by decide) (by decide) (by decide +kernel) (by decide) ?_
    refine lv_aload_n F.1 F.2.1 dX7_gone_88 rfl (lv_at hl 0 rfl) ?_
    refine tVl (b := a0) (As := []) (rest := []) F hK hN hO (c_X7_onItsWay E ws kp as rd sc ty ik un tk xt tp sp wrb nu nab iwb X0 a0 ha0 hX0) mv_X7_onItsWay wd_51_1 ⟨Nat.le_of_ble_eq_true rfl, Nat.le_of_ble_eq_true rfl⟩ ⟨Nat.le_of_ble_eq_true rfl, Nat.le_of_ble_eq_true rfl⟩ hH hS (tRecv hK hH (tyb ha0 (all1 rfl)) clX7) rfl hl.1 (Nat.le_of_ble_eq_true rfl) dX7_gone_89 (fun w_19 H locs hq hS => ?_)
    have hH := hq
    have hH : TH E (tbM (mD (.inl tp) (.inl sp) (.inl nu) (.inl un) (.inl tk) (.inl xt) (.inl wrb) (.inl nab) (.inl iwb)) (xD 660 X0) ws kp as rd sc ty ik) H := hH
    exact txL F hS dX7_gone_92 (hH)
  · skip
    refine tTabIn (off := 92) (tgt := 93) F dX7_gone_1 w_1 (by decide) (by decide) (by decide +kernel) (by decide) ?_
    refine lv_aload_n F.1 F.2.1 dX7_gone_93 rfl (lv_at hl 0 rfl) ?_
    refine tGetR (j := 1) F hK hH (tyb ha0 (all1 rfl)) rfl (all1 rfl) clX7 (by decide) wd_6_6 dX7_gone_94 (fun q_20 hq_20 _ => ?_)
    refine lv_iconst (v := 5) F.1 F.2.1 dX7_gone_97 (by decide) ?_
    refine topK (a := 5) (by decide) (fun k_21 hk_21 => ?_)
    refine tLald F hK hH (tyb hq_20 (all1 rfl)) (ixb (n := 6) (eqb hk_21) rfl rfl) dX7_gone_98 (fun w_22 => ?_)
    exact txL F hS dX7_gone_99 (hH)
set_option maxHeartbeats 4000000 in
set_option maxRecDepth 100000 in
theorem c_X7_count (E : Ev) (ws : TD) (kp : TD) (as : TD) (rd : TD) (sc : TD) (ty : TD) (un : Int × Int) (tk : Int × Int) (xt : Int × Int) (tp : Int × Int) (sp : Int × Int) (wrb : Int × Int) (nu : Int × Int) (nab : Int × Int) (iwb : Int × Int) (X0 : Nat → Int32) (Kp : Nat → Int32) (a0 : Nat) (a1 : Int32) (ha0 : eT E a0 ∈ [24]) (hX0 : okR X0) (hKp : ivP 2 0 1 Kp) : TcI E yX7_count cX7_count 2 .int ({ frames := 3, cells := 0, slots := 0, locals := 84 }) [.ref a0, .int a1] (fun H => TH E (tbM (mD (.inl tp) (.inl sp) (.inl nu) (.inl un) (.inl tk) (.inl xt) (.inl wrb) (.inl nab) (.inl iwb)) (xD 660 X0) ws kp as rd sc ty (xZ 2 Kp)) H) (fun v H => ((-2147483648) ≤ v.toInt ∧ v.toInt ≤ 2147483647) ∧ TH E (tbM (mD (.inl tp) (.inl sp) (.inl nu) (.inl un) (.inl tk) (.inl xt) (.inl wrb) (.inl nab) (.inl iwb)) (xD 660 X0) ws kp as rd sc ty (xZ 2 Kp)) H) := by
  refine teI (by decide) (Nat.le_of_ble_eq_true rfl) ?_
  intro p_ ev_ s mi_ below_ meth cd_ ls F hK hN hO hH hS hl
  have hH : TH E (tbM (mD (.inl tp) (.inl sp) (.inl nu) (.inl un) (.inl tk) (.inl xt) (.inl wrb) (.inl nab) (.inl iwb)) (xD 660 X0) ws kp as rd sc ty (xZ 2 Kp)) s.heap := hH
  have hl : lv_has ls 2 [(0, .ref a0), (1, .int a1)] := hl
  have hBX0 := okB hX0.1
  have hLX0 := hX0.2
  refine lv_iload_n F.1 F.2.1 dX7_count_0 rfl (lv_at hl 1 rfl) ?_
  rcases (by omega : (a1.toInt < 0 ∨ 9 < a1.toInt) ∨ a1.toInt = 0 ∨ a1.toInt = 1 ∨ a1.toInt = 2 ∨ a1.toInt = 3 ∨ a1.toInt = 4 ∨ a1.toInt = 5 ∨ a1.toInt = 6 ∨ a1.toInt = 7 ∨ a1.toInt = 8 ∨ a1.toInt = 9) with w_1 | w_1 | w_1 | w_1 | w_1 | w_1 | w_1 | w_1 | w_1 | w_1 | w_1
  · skip
    refine tTabOut (tgt := 135) F dX7_count_1 w_1 (by decide) ?_
    refine lv_iconst (v := (-1)) F.1 F.2.1 dX7_count_135 (by decide) ?_
    refine topK (a := (-1)) (by decide) (fun k_2 hk_2 => ?_)
    exact txI F hS dX7_count_136 rfl (⟨(wkb (eqb hk_2) rfl rfl), hH⟩)
  · skip
    refine tTabIn (off := 55) (tgt := 56) F dX7_count_1 w_1 (by decide) (by decide) (by decide +kernel) (by decide) ?_
    refine lv_aload_n F.1 F.2.1 dX7_count_56 rfl (lv_at hl 0 rfl) ?_
    refine tVi (b := a0) (As := []) (rest := []) F hK hN hO (c_X7_reaches E ws kp as rd sc ty (xZ 2 Kp) un tk xt tp sp wrb nu nab iwb X0 a0 ha0 ((hX0).1)) mv_X7_reaches wd_28_7 ⟨Nat.le_of_ble_eq_true rfl, Nat.le_of_ble_eq_true rfl⟩ ⟨Nat.le_of_ble_eq_true rfl, Nat.le_of_ble_eq_true rfl⟩ hH hS (tRecv hK hH (tyb ha0 (all1 rfl)) clX7) rfl hl.1 (Nat.le_of_ble_eq_true rfl) dX7_count_57 (fun z_3 H locs hq hS => ?_)
    obtain ⟨f_4, f_5, hH⟩ := hq
    have hH : TH E (tbM (mD (.inl tp) (.inl sp) (.inl nu) (.inl un) (.inl tk) (.inl xt) (.inl wrb) (.inl nab) (.inl iwb)) (xD 660 X0) ws kp as rd sc ty (xZ 2 Kp)) H := hH
    exact txI F hS dX7_count_60 rfl (⟨(wkb f_4 rfl rfl), hH⟩)
  · skip
    refine tTabIn (off := 60) (tgt := 61) F dX7_count_1 w_1 (by decide) (by decide) (by decide +kernel) (by decide) ?_
    refine lv_aload_n F.1 F.2.1 dX7_count_61 rfl (lv_at hl 0 rfl) ?_
    refine tVi (b := a0) (As := []) (rest := []) F hK hN hO (c_X7_rights E ws kp as rd sc ty (xZ 2 Kp) un tk xt tp sp wrb nu nab iwb X0 a0 ha0 ((hX0).1)) mv_X7_rights wd_19_4 ⟨Nat.le_of_ble_eq_true rfl, Nat.le_of_ble_eq_true rfl⟩ ⟨Nat.le_of_ble_eq_true rfl, Nat.le_of_ble_eq_true rfl⟩ hH hS (tRecv hK hH (tyb ha0 (all1 rfl)) clX7) rfl hl.1 (Nat.le_of_ble_eq_true rfl) dX7_count_62 (fun z_6 H locs hq hS => ?_)
    obtain ⟨f_7, f_8, hH⟩ := hq
    have hH : TH E (tbM (mD (.inl tp) (.inl sp) (.inl nu) (.inl un) (.inl tk) (.inl xt) (.inl wrb) (.inl nab) (.inl iwb)) (xD 660 X0) ws kp as rd sc ty (xZ 2 Kp)) H := hH
    exact txI F hS dX7_count_65 rfl (⟨(wkb f_7 rfl rfl), hH⟩)
  · skip
    refine tTabIn (off := 65) (tgt := 66) F dX7_count_1 w_1 (by decide) (by decide) (by decide +kernel) (by decide) ?_
    refine lv_aload_n F.1 F.2.1 dX7_count_66 rfl (lv_at hl 0 rfl) ?_
    refine tVi (b := a0) (As := []) (rest := []) F hK hN hO (c_X7_stores E ws kp as rd sc ty (xZ 2 Kp) un tk xt tp sp wrb nu nab iwb X0 a0 ha0 ((hX0).1)) mv_X7_stores wd_26_12 ⟨Nat.le_of_ble_eq_true rfl, Nat.le_of_ble_eq_true rfl⟩ ⟨Nat.le_of_ble_eq_true rfl, Nat.le_of_ble_eq_true rfl⟩ hH hS (tRecv hK hH (tyb ha0 (all1 rfl)) clX7) rfl hl.1 (Nat.le_of_ble_eq_true rfl) dX7_count_67 (fun z_9 H locs hq hS => ?_)
    obtain ⟨f_10, f_11, hH⟩ := hq
    have hH : TH E (tbM (mD (.inl tp) (.inl sp) (.inl nu) (.inl un) (.inl tk) (.inl xt) (.inl wrb) (.inl nab) (.inl iwb)) (xD 660 X0) ws kp as rd sc ty (xZ 2 Kp)) H := hH
    exact txI F hS dX7_count_70 rfl (⟨(wkb f_10 rfl rfl), hH⟩)
  · skip
    refine tTabIn (off := 70) (tgt := 71) F dX7_count_1 w_1 (by decide) (by decide) (by decide +kernel) (by decide) ?_
    refine lv_aload_n F.1 F.2.1 dX7_count_71 rfl (lv_at hl 0 rfl) ?_
    refine tGetR (j := 0) F hK hH (tyb ha0 (all1 rfl)) rfl (all1 rfl) clX7 (by decide) wd_6_5 dX7_count_72 (fun q_12 hq_12 _ => ?_)
    refine lv_iconst (v := 3) F.1 F.2.1 dX7_count_75 (by decide) ?_
    refine topK (a := 3) (by decide) (fun k_13 hk_13 => ?_)
    refine tIaldX F hK hH (tyb hq_12 (all1 rfl)) (ixb (n := 660) (eqb hk_13) rfl rfl) dX7_count_76 (fun z_14 ez_14 => ?_)
    exact txI F hS dX7_count_77 rfl (⟨(i32b _), hH⟩)
  · skip
    refine tTabIn (off := 77) (tgt := 78) F dX7_count_1 w_1 (by decide) (by decide) (by decide +kernel) (by decide) ?_
    refine lv_aload_n F.1 F.2.1 dX7_count_78 rfl (lv_at hl 0 rfl) ?_
    refine tGetR (j := 0) F hK hH (tyb ha0 (all1 rfl)) rfl (all1 rfl) clX7 (by decide) wd_6_5 dX7_count_79 (fun q_15 hq_15 _ => ?_)
    refine lv_iconst (v := 4) F.1 F.2.1 dX7_count_82 (by decide) ?_
    refine topK (a := 4) (by decide) (fun k_16 hk_16 => ?_)
    refine tIaldX F hK hH (tyb hq_15 (all1 rfl)) (ixb (n := 660) (eqb hk_16) rfl rfl) dX7_count_83 (fun z_17 ez_17 => ?_)
    exact txI F hS dX7_count_84 rfl (⟨(i32b _), hH⟩)
  · skip
    refine tTabIn (off := 84) (tgt := 85) F dX7_count_1 w_1 (by decide) (by decide) (by decide +kernel) (by decide) ?_
    refine lv_aload_n F.1 F.2.1 dX7_count_85 rfl (lv_at hl 0 rfl) ?_
    refine tGetI (j := 4) F hK hH (tyb ha0 (all1 rfl)) rfl clX7 (by decide) wd_15_15 dX7_count_86 (fun z_18 _ => ?_)
    exact txI F hS dX7_count_89 rfl (⟨(i32b _), hH⟩)
  · skip
    refine tTabIn (off := 89) (tgt := 90) F dX7_count_1 w_1 (by decide) (by decide) (by decide +kernel) (by decide) ?_
    refine lv_aload_n F.1 F.2.1 dX7_count_90 rfl (lv_at hl 0 rfl) ?_
    refine tGetI (j := 30) F hK hH (tyb ha0 (all1 rfl)) rfl clX7 (by decide) wd_7_21 dX7_count_91 (fun z_19 _ => ?_)
    exact txI F hS dX7_count_94 rfl (⟨(i32b _), hH⟩)
  · skip
    refine tTabIn (off := 94) (tgt := 95) F dX7_count_1 w_1 (by decide) (by decide) (by decide +kernel) (by decide) ?_
    refine lv_aload_n F.1 F.2.1 dX7_count_95 rfl (lv_at hl 0 rfl) ?_
    refine tGetR (j := 7) F hK hH (tyb ha0 (all1 rfl)) rfl (all1 rfl) clX7 (by decide) wd_6_12 dX7_count_96 (fun q_20 hq_20 _ => ?_)
    refine lv_iconst (v := 0) F.1 F.2.1 dX7_count_99 (by decide) ?_
    refine topK (a := 0) (by decide) (fun k_21 hk_21 => ?_)
    refine tZaldX F hK hH (tyb hq_20 (all1 rfl)) (ixb (n := 2) (eqb hk_21) rfl rfl) dX7_count_100 (fun z_22 ez_22 => ?_)
    have gz_22 : z_22.toInt = gI Kp (k_21.toInt.toNat) := by unfold gI; rw [ez_22]; rfl
    have hz_22 : 0 ≤ z_22.toInt ∧ z_22.toInt ≤ 1 := (by have h9_ := hKp (k_21).toNatClampNeg (cl_lt (n := 2) (by omega)); rw [← ez_22] at h9_; exact h9_)
    refine wjoin (σ := Int32) (pcj := 109) (stj := fun x9 => [.int x9]) (fun x9 H locs ls => (0 ≤ x9.toInt ∧ x9.toInt ≤ 1) ∧ TH E (tbM (mD (.inl tp) (.inl sp) (.inl nu) (.inl un) (.inl tk) (.inl xt) (.inl wrb) (.inl nab) (.inl iwb)) (xD 660 X0) ws kp as rd sc ty (xZ 2 Kp)) H ∧ va_S (eA E s.heap.size) s.heap H locs ∧ lv_has ls 2 [(0, .ref a0)]) (fun u_23 H locs ls h_ => ?_) (fun J_109 => ?_)
    · skip
      obtain ⟨hu_23, hH, hS, hl⟩ := h_
      have hu_23 : (0 ≤ u_23.toInt ∧ u_23.toInt ≤ 1) := hu_23
      have hH : TH E (tbM (mD (.inl tp) (.inl sp) (.inl nu) (.inl un) (.inl tk) (.inl xt) (.inl wrb) (.inl nab) (.inl iwb)) (xD 660 X0) ws kp as rd sc ty (xZ 2 Kp)) H := hH
      have hl : lv_has ls 2 [(0, .ref a0)] := hl
      show W _ _ _ _ _ _ _ _ _ _ _ _ _ _ _ (F0 _ _ _ [.int u_23])
      refine lv_aload_n F.1 F.2.1 dX7_count_109 rfl (lv_at hl 0 rfl) ?_
      refine tGetR (j := 7) F hK hH (tyb ha0 (all1 rfl)) rfl (all1 rfl) clX7 (by decide) wd_6_12 dX7_count_110 (fun q_24 hq_24 _ => ?_)
      refine lv_iconst (v := 1) F.1 F.2.1 dX7_count_113 (by decide) ?_
      refine topK (a := 1) (by decide) (fun k_25 hk_25 => ?_)
      refine tZaldX F hK hH (tyb hq_24 (all1 rfl)) (ixb (n := 2) (eqb hk_25) rfl rfl) dX7_count_114 (fun z_26 ez_26 => ?_)
      have gz_26 : z_26.toInt = gI Kp (k_25.toInt.toNat) := by unfold gI; rw [ez_26]; rfl
      have hz_26 : 0 ≤ z_26.toInt ∧ z_26.toInt ≤ 1 := (by have h9_ := hKp (k_25).toNatClampNeg (cl_lt (n := 2) (by omega)); rw [← ez_26] at h9_; exact h9_)
      refine z_eq (tgt := 122) F dX7_count_115 (by decide) (fun c_27 => ?_) (fun c_27 => ?_)
      · skip
        have r_28 : 0 ≤ z_26.toInt ∧ z_26.toInt ≤ 0 := by have h9_ := hz_26; omega
        refine lv_iconst (v := 0) F.1 F.2.1 dX7_count_122 (by decide) ?_
        refine topK (a := 0) (by decide) (fun k_30 hk_30 => ?_)
        refine tAdd (lo := 0) (hi := 1) F dX7_count_123 hu_23 (eqb hk_30) rfl (fun z_31 hz_31 => ?_)
        exact txI F hS dX7_count_124 rfl (⟨(wkb hz_31.2 rfl rfl), hH⟩)
      · skip
        have r_29 : 1 ≤ z_26.toInt ∧ z_26.toInt ≤ 1 := by have h9_ := hz_26; omega
        refine lv_iconst (v := 2) F.1 F.2.1 dX7_count_118 (by decide) ?_
        refine topK (a := 2) (by decide) (fun k_32 hk_32 => ?_)
        refine lv_goto (tgt := 123) F.1 F.2.1 dX7_count_119 (by decide) ?_
        refine tAdd (lo := 2) (hi := 3) F dX7_count_123 hu_23 (eqb hk_32) rfl (fun z_33 hz_33 => ?_)
        exact txI F hS dX7_count_124 rfl (⟨(wkb hz_33.2 rfl rfl), hH⟩)
    refine z_eq (tgt := 108) F dX7_count_101 (by decide) (fun c_34 => ?_) (fun c_34 => ?_)
    · skip
      have r_35 : 0 ≤ z_22.toInt ∧ z_22.toInt ≤ 0 := by have h9_ := hz_22; omega
      refine lv_iconst (v := 0) F.1 F.2.1 dX7_count_108 (by decide) ?_
      refine topK (a := 0) (by decide) (fun k_37 hk_37 => ?_)
      exact J_109 (k_37) _ _ _ ⟨(wkb (eqb hk_37) rfl rfl), hH, hS, lv_sub hl [0] rfl⟩
    · skip
      have r_36 : 1 ≤ z_22.toInt ∧ z_22.toInt ≤ 1 := by have h9_ := hz_22; omega
      refine lv_iconst (v := 1) F.1 F.2.1 dX7_count_104 (by decide) ?_
      refine topK (a := 1) (by decide) (fun k_38 hk_38 => ?_)
      refine lv_goto (tgt := 109) F.1 F.2.1 dX7_count_105 (by decide) ?_
      exact J_109 (k_38) _ _ _ ⟨(wkb (eqb hk_38) rfl rfl), hH, hS, lv_sub hl [0] rfl⟩
  · skip
    refine tTabIn (off := 124) (tgt := 125) F dX7_count_1 w_1 (by decide) (by decide) (by decide +kernel) (by decide) ?_
    refine lv_aload_n F.1 F.2.1 dX7_count_125 rfl (lv_at hl 0 rfl) ?_
    refine tVi (b := a0) (As := []) (rest := []) F hK hN hO (c_X7_orders E ws kp as rd sc ty (xZ 2 Kp) un tk xt tp sp wrb nu nab iwb X0 a0 ha0 hX0) mv_X7_orders wd_61_3 ⟨Nat.le_of_ble_eq_true rfl, Nat.le_of_ble_eq_true rfl⟩ ⟨Nat.le_of_ble_eq_true rfl, Nat.le_of_ble_eq_true rfl⟩ hH hS (tRecv hK hH (tyb ha0 (all1 rfl)) clX7) rfl hl.1 (Nat.le_of_ble_eq_true rfl) dX7_count_126 (fun z_39 H locs hq hS => ?_)
    obtain ⟨f_40, hH⟩ := hq
    have hH : TH E (tbM (mD (.inl tp) (.inl sp) (.inl nu) (.inl un) (.inl tk) (.inl xt) (.inl wrb) (.inl nab) (.inl iwb)) (xD 660 X0) ws kp as rd sc ty (xZ 2 Kp)) H := hH
    exact txI F hS dX7_count_129 rfl (⟨f_40, hH⟩)
  · skip
    refine tTabIn (off := 129) (tgt := 130) F dX7_count_1 w_1 (by decide) (by decide) (by decide +kernel) (by decide) ?_
    refine lv_aload_n F.1 F.2.1 dX7_count_130 rfl (lv_at hl 0 rfl) ?_
    refine tVi (b := a0) (As := []) (rest := []) F hK hN hO (c_X7_bartersMany E ws kp as rd sc ty (xZ 2 Kp) un tk xt tp sp wrb nu nab iwb X0 a0 ha0 hX0) mv_X7_bartersMany wd_61_7 ⟨Nat.le_of_ble_eq_true rfl, Nat.le_of_ble_eq_true rfl⟩ ⟨Nat.le_of_ble_eq_true rfl, Nat.le_of_ble_eq_true rfl⟩ hH hS (tRecv hK hH (tyb ha0 (all1 rfl)) clX7) rfl hl.1 (Nat.le_of_ble_eq_true rfl) dX7_count_131 (fun z_41 H locs hq hS => ?_)
    obtain ⟨f_42, hH⟩ := hq
    have hH : TH E (tbM (mD (.inl tp) (.inl sp) (.inl nu) (.inl un) (.inl tk) (.inl xt) (.inl wrb) (.inl nab) (.inl iwb)) (xD 660 X0) ws kp as rd sc ty (xZ 2 Kp)) H := hH
    exact txI F hS dX7_count_134 rfl (⟨f_42, hH⟩)
set_option maxHeartbeats 4000000 in
set_option maxRecDepth 100000 in
theorem c_X7_becomes (E : Ev) (kp : TD) (as : TD) (rd : TD) (sc : TD) (ty : TD) (ik : TD) (tk : Int × Int) (xt : Int × Int) (tp : Int × Int) (sp : Int × Int) (wrb : Int × Int) (nu : Int × Int) (nab : Int × Int) (iwb : Int × Int) (u : Int) (X0 : Nat → Int32) (Wa : Nat → Int32) (Z : Nat → Int32) (a0 : Nat) (a1 : Int32) (a2 : Int32) (ha0 : eT E a0 ∈ [24]) (ha1 : 4 ≤ a1.toInt ∧ a1.toInt ≤ 259) (hu : 0 ≤ u ∧ u ≤ 10) (hX0 : okR X0) (hWa : okN 10 Wa) (hp : phi a1.toInt a2.toInt) (hq : a1.toInt ≠ 6 ∧ a1.toInt ≠ 5 ∧ (a1.toInt < 78 ∨ 260 ≤ a1.toInt ∨ (a1.toInt - 78) % 13 ≠ 6)) (hst_ : a1.toInt < 6 ∨ 78 ≤ a1.toInt) (hmWa : okM Z u Wa) (hqX0 : sQ Z X0) : TcI E yX7_becomes cX7_becomes 4 .int ({ frames := 2, cells := 0, slots := 0, locals := 61 }) [.ref a0, .int a1, .int a2] (fun H => TH E (tbM (mD (.inl tp) (.inl sp) (.inl nu) (.inl (u, u)) (.inl tk) (.inl xt) (.inl wrb) (.inl nab) (.inl iwb)) (xD 660 X0) (xD 6600 Wa) kp as rd sc ty ik) H) (fun v H => ∃ u2 : Int, (0 ≤ u2 ∧ u2 ≤ 10) ∧ ∃ Wb : Nat → Int32, (okN 10 Wb ∧ okM Z u2 Wb) ∧ ∃ X2 : Nat → Int32, (okR X2 ∧ sQ Z X2) ∧ ((-2147483648) ≤ v.toInt ∧ v.toInt ≤ 2147483647) ∧ TH E (tbM (mD (.inl tp) (.inl sp) (.inl nu) (.inl (u2, u2)) (.inl tk) (.inl xt) (.inl wrb) (.inl nab) (.inl iwb)) (xD 660 X2) (xD 6600 Wb) kp as rd sc ty ik) H) := by
  refine teI (by decide) (Nat.le_of_ble_eq_true rfl) ?_
  intro p_ ev_ s mi_ below_ meth cd_ ls F hK hN hO hH hS hl
  have hH : TH E (tbM (mD (.inl tp) (.inl sp) (.inl nu) (.inl (u, u)) (.inl tk) (.inl xt) (.inl wrb) (.inl nab) (.inl iwb)) (xD 660 X0) (xD 6600 Wa) kp as rd sc ty ik) s.heap := hH
  have hl : lv_has ls 4 [(0, .ref a0), (1, .int a1), (2, .int a2)] := hl
  have hBX0 := okB hX0.1
  have hLX0 := hX0.2
  refine lv_aload_n F.1 F.2.1 dX7_becomes_0 rfl (lv_at hl 0 rfl) ?_
  refine tGetR (j := 0) F hK hH (tyb ha0 (all1 rfl)) rfl (all1 rfl) clX7 (by decide) wd_6_5 dX7_becomes_1 (fun q_1 hq_1 _ => ?_)
  refine lv_iload_n F.1 F.2.1 dX7_becomes_4 rfl (lv_at hl 1 rfl) ?_
  refine tIaldX F hK hH (tyb hq_1 (all1 rfl)) (ixb (n := 660) ha1 rfl rfl) dX7_becomes_5 (fun z_2 ez_2 => ?_)
  refine lv_istore_n (lv' := [(3, .int z_2), (0, .ref a0), (1, .int a1), (2, .int a2)]) F.1 F.2.1 dX7_becomes_6 rfl hl (by decide) rfl (fun ls hl => ?_)
  refine lv_iload_n F.1 F.2.1 dX7_becomes_7 rfl (lv_at hl 0 rfl) ?_
  refine lv_iload_n F.1 F.2.1 dX7_becomes_8 rfl (lv_at hl 3 rfl) ?_
  refine b_ne (tgt := 15) F dX7_becomes_9 (by decide) (fun c_3 => ?_) (fun c_3 => ?_)
  · skip
    refine lv_aload_n F.1 F.2.1 dX7_becomes_15 rfl (lv_at hl 1 rfl) ?_
    refine tVv (b := a0) (As := []) (rest := []) F hK hN hO (c_X7_keepsAct E kp as rd sc ty ik tk xt tp sp wrb nu nab iwb u X0 Wa Z a0 ha0 (by omega) hX0 hWa hqX0 hmWa) mv_X7_keepsAct wd_25_7 ⟨Nat.le_of_ble_eq_true rfl, Nat.le_of_ble_eq_true rfl⟩ ⟨Nat.le_of_ble_eq_true rfl, Nat.le_of_ble_eq_true rfl⟩ hH hS (tRecv hK hH (tyb ha0 (all1 rfl)) clX7) rfl hl.1 (Nat.le_of_ble_eq_true rfl) dX7_becomes_16 (fun H locs hq hS => ?_)
    obtain ⟨g_5, hg_5, g_6, hg_6, hH⟩ := hq
    have hH : TH E (tbM (mD (.inl tp) (.inl sp) (.inl nu) (.inl (g_5, g_5)) (.inl tk) (.inl xt) (.inl wrb) (.inl nab) (.inl iwb)) (xD 660 X0) (xD 6600 g_6) kp as rd sc ty ik) H := hH
    have hmg_6 := hg_6.2
    refine lv_aload_n F.1 F.2.1 dX7_becomes_19 rfl (lv_at hl 1 rfl) ?_
    refine tGetR (j := 0) F hK hH (tyb ha0 (all1 rfl)) rfl (all1 rfl) clX7 (by decide) wd_6_5 dX7_becomes_20 (fun q_7 hq_7 _ => ?_)
    refine lv_iload_n F.1 F.2.1 dX7_becomes_23 rfl (lv_at hl 2 rfl) ?_
    refine lv_iload_n F.1 F.2.1 dX7_becomes_24 rfl (lv_at hl 3 rfl) ?_
    refine tIastX (t := 25) F hK hH hS (List.mem_singleton.mp hq_7) (by decide) rfl (ixb (n := 660) ha1 rfl rfl) dX7_becomes_25 (fun G_8 eG_8 H locs hH hS => ?_)
    have hH : TH E (tbM (mD (.inl tp) (.inl sp) (.inl nu) (.inl (g_5, g_5)) (.inl tk) (.inl xt) (.inl wrb) (.inl nab) (.inl iwb)) (xD 660 G_8) (xD 6600 g_6) kp as rd sc ty ik) H := hH
    have hG_8 : okR G_8 := (okR.st hX0 eG_8 (by omega) (by omega) (by omega) hp)
    have hBG_8 := okB hG_8.1
    have hLG_8 := hG_8.2
    have hqG_8 : sQ Z G_8 := sQ.st hqX0 eG_8 (by omega)
    refine lv_iload_n F.1 F.2.1 dX7_becomes_26 rfl (lv_at hl 0 rfl) ?_
    exact txI F hS dX7_becomes_27 rfl (⟨g_5, (by omega), g_6, ⟨hg_6.1, hmg_6⟩, G_8, ⟨hG_8, hqG_8⟩, (i32b _), hH⟩)
  · skip
    refine lv_bipush (v := (-2)) F.1 F.2.1 dX7_becomes_12 (by decide) ?_
    refine topK (a := (-2)) (by decide) (fun k_9 hk_9 => ?_)
    exact txI F hS dX7_becomes_14 rfl (⟨u, (by omega), Wa, ⟨hWa, hmWa⟩, X0, ⟨hX0, hqX0⟩, (wkb (eqb hk_9) rfl rfl), hH⟩)
set_option maxHeartbeats 4000000 in
set_option maxRecDepth 100000 in
theorem c_X7_wet (E : Ev) (kp : TD) (as : TD) (rd : TD) (sc : TD) (ty : TD) (ik : TD) (tk : Int × Int) (xt : Int × Int) (tp : Int × Int) (sp : Int × Int) (wrb : Int × Int) (nu : Int × Int) (nab : Int × Int) (iwb : Int × Int) (u : Int) (X0 : Nat → Int32) (Wa : Nat → Int32) (Z : Nat → Int32) (a0 : Nat) (a1 : Int32) (ha0 : eT E a0 ∈ [24]) (hu : 0 ≤ u ∧ u ≤ 10) (hX0 : okR X0) (hWa : okN 10 Wa) (hmWa : okM Z u Wa) (hqX0 : sQ Z X0) : TcI E yX7_wet cX7_wet 2 .int ({ frames := 3, cells := 0, slots := 0, locals := 84 }) [.ref a0, .int a1] (fun H => TH E (tbM (mD (.inl tp) (.inl sp) (.inl nu) (.inl (u, u)) (.inl tk) (.inl xt) (.inl wrb) (.inl nab) (.inl iwb)) (xD 660 X0) (xD 6600 Wa) kp as rd sc ty ik) H) (fun v H => ∃ u2 : Int, (0 ≤ u2 ∧ u2 ≤ 10) ∧ ∃ Wb : Nat → Int32, (okN 10 Wb ∧ okM Z u2 Wb) ∧ ∃ X2 : Nat → Int32, (okR X2 ∧ sQ Z X2) ∧ ((-2147483648) ≤ v.toInt ∧ v.toInt ≤ 2147483647) ∧ TH E (tbM (mD (.inl tp) (.inl sp) (.inl nu) (.inl (u2, u2)) (.inl tk) (.inl xt) (.inl wrb) (.inl nab) (.inl iwb)) (xD 660 X2) (xD 6600 Wb) kp as rd sc ty ik) H) := by
  refine teI (by decide) (Nat.le_of_ble_eq_true rfl) ?_
  intro p_ ev_ s mi_ below_ meth cd_ ls F hK hN hO hH hS hl
  have hH : TH E (tbM (mD (.inl tp) (.inl sp) (.inl nu) (.inl (u, u)) (.inl tk) (.inl xt) (.inl wrb) (.inl nab) (.inl iwb)) (xD 660 X0) (xD 6600 Wa) kp as rd sc ty ik) s.heap := hH
  have hl : lv_has ls 2 [(0, .ref a0), (1, .int a1)] := hl
  have hBX0 := okB hX0.1
  have hLX0 := hX0.2
  refine lv_iload_n F.1 F.2.1 dX7_wet_0 rfl (lv_at hl 1 rfl) ?_
  refine tI2l F dX7_wet_1 (fun w_1 hw_1 => ?_)
  refine lv_lconst (v := 0) F.1 F.2.1 dX7_wet_2 (by decide) ?_
  refine topKL (a := 0) (by decide) (fun j_2 hj_2 => ?_)
  refine lv_ldc2 (own := RX7) (v := 400) F.1 F.2.1 F.2.2.2.2.1 (F.2.2.2.2.2.2.1 _ wd_30_23) dX7_wet_3 ?_
  refine topKL (a := 400) (by decide) (fun j_3 hj_3 => ?_)
  refine tSi (As := [.long w_1, .long j_2, .long j_3]) (rest := []) F hK hN hO (c_X7_in E (mD (.inl tp) (.inl sp) (.inl nu) (.inl (u, u)) (.inl tk) (.inl xt) (.inl wrb) (.inl nab) (.inl iwb)) (xD 660 X0) (xD 6600 Wa) kp as rd sc ty ik w_1 j_2 j_3) ms_X7_in wd_8_10 ⟨Nat.le_of_ble_eq_true rfl, Nat.le_of_ble_eq_true rfl⟩ ⟨Nat.le_of_ble_eq_true rfl, Nat.le_of_ble_eq_true rfl⟩ hH hS rfl hl.1 (Nat.le_of_ble_eq_true rfl) dX7_wet_6 (fun z_4 H locs hq hS => ?_)
  obtain ⟨f_5, f_6, hH⟩ := hq
  have hH : TH E (tbM (mD (.inl tp) (.inl sp) (.inl nu) (.inl (u, u)) (.inl tk) (.inl xt) (.inl wrb) (.inl nab) (.inl iwb)) (xD 660 X0) (xD 6600 Wa) kp as rd sc ty ik) H := hH
  refine z_eq (tgt := 21) F dX7_wet_9 (by decide) (fun c_7 => ?_) (fun c_7 => ?_)
  · skip
    have r_8 : 0 ≤ z_4.toInt ∧ z_4.toInt ≤ 0 := by have h9_ := f_5; omega
    refine lv_iconst (v := (-1)) F.1 F.2.1 dX7_wet_21 (by decide) ?_
    refine topK (a := (-1)) (by decide) (fun k_11 hk_11 => ?_)
    exact txI F hS dX7_wet_22 rfl (⟨u, (by omega), Wa, ⟨hWa, hmWa⟩, X0, ⟨hX0, hqX0⟩, (wkb (eqb hk_11) rfl rfl), hH⟩)
  · skip
    have r_9 : 1 ≤ z_4.toInt ∧ z_4.toInt ≤ 1 := by have h9_ := f_5; omega
    have r_10 : 0 ≤ a1.toInt ∧ a1.toInt ≤ 400 := by have h9_ := (i32b a1); omega
    refine lv_aload_n F.1 F.2.1 dX7_wet_12 rfl (lv_at hl 0 rfl) ?_
    refine lv_iconst (v := 4) F.1 F.2.1 dX7_wet_13 (by decide) ?_
    refine topK (a := 4) (by decide) (fun k_12 hk_12 => ?_)
    refine lv_iload_n F.1 F.2.1 dX7_wet_14 rfl (lv_at hl 1 rfl) ?_
    refine tVi (b := a0) (As := [.int k_12, .int a1]) (rest := []) F hK hN hO (c_X7_becomes E kp as rd sc ty ik tk xt tp sp wrb nu nab iwb u X0 Wa Z a0 k_12 a1 ha0 (wkb (eqb hk_12) rfl rfl) (by omega) hX0 hWa (phiI (by omega) (by omega) (by omega) (by omega) (by omega) (by omega) (by omega) (by omega) (by omega) (by omega) (by omega) (by omega) (by omega) (by omega) (by omega) (by omega) (by omega) (by omega)) (by omega) (by omega) hmWa hqX0) mv_X7_becomes wd_31_0 ⟨Nat.le_of_ble_eq_true rfl, Nat.le_of_ble_eq_true rfl⟩ ⟨Nat.le_of_ble_eq_true rfl, Nat.le_of_ble_eq_true rfl⟩ hH hS (tRecv hK hH (tyb ha0 (all1 rfl)) clX7) rfl hl.1 (Nat.le_of_ble_eq_true rfl) dX7_wet_15 (fun z_13 H locs hq hS => ?_)
    obtain ⟨g_14, hg_14, g_15, hg_15, g_16, hg_16, f_17, hH⟩ := hq
    have hH : TH E (tbM (mD (.inl tp) (.inl sp) (.inl nu) (.inl (g_14, g_14)) (.inl tk) (.inl xt) (.inl wrb) (.inl nab) (.inl iwb)) (xD 660 g_16) (xD 6600 g_15) kp as rd sc ty ik) H := hH
    have hmg_15 := hg_15.2
    have hqg_16 := hg_16.2
    have hBg_16 := okB hg_16.1.1
    have hLg_16 := hg_16.1.2
    refine lv_goto (tgt := 22) F.1 F.2.1 dX7_wet_18 (by decide) ?_
    exact txI F hS dX7_wet_22 rfl (⟨g_14, (by omega), g_15, ⟨hg_15.1, hmg_15⟩, g_16, ⟨hg_16.1, hqg_16⟩, f_17, hH⟩)
set_option maxHeartbeats 4000000 in
set_option maxRecDepth 100000 in
theorem c_X7_demand (E : Ev) (kp : TD) (as : TD) (rd : TD) (sc : TD) (ty : TD) (ik : TD) (tk : Int × Int) (xt : Int × Int) (tp : Int × Int) (sp : Int × Int) (wrb : Int × Int) (nu : Int × Int) (nab : Int × Int) (iwb : Int × Int) (u : Int) (X0 : Nat → Int32) (Wa : Nat → Int32) (Z : Nat → Int32) (a0 : Nat) (a1 : Int32) (a2 : Int32) (ha0 : eT E a0 ∈ [24]) (hu : 0 ≤ u ∧ u ≤ 10) (hX0 : okR X0) (hWa : okN 10 Wa) (hmWa : okM Z u Wa) (hqX0 : sQ Z X0) : TcI E yX7_demand cX7_demand 3 .int ({ frames := 3, cells := 0, slots := 0, locals := 86 }) [.ref a0, .int a1, .int a2] (fun H => TH E (tbM (mD (.inl tp) (.inl sp) (.inl nu) (.inl (u, u)) (.inl tk) (.inl xt) (.inl wrb) (.inl nab) (.inl iwb)) (xD 660 X0) (xD 6600 Wa) kp as rd sc ty ik) H) (fun v H => ∃ u2 : Int, (0 ≤ u2 ∧ u2 ≤ 10) ∧ ∃ Wb : Nat → Int32, (okN 10 Wb ∧ okM Z u2 Wb) ∧ ∃ X2 : Nat → Int32, (okR X2 ∧ sQ Z X2) ∧ ((-2147483648) ≤ v.toInt ∧ v.toInt ≤ 2147483647) ∧ TH E (tbM (mD (.inl tp) (.inl sp) (.inl nu) (.inl (u2, u2)) (.inl tk) (.inl xt) (.inl wrb) (.inl nab) (.inl iwb)) (xD 660 X2) (xD 6600 Wb) kp as rd sc ty ik) H) := by
  refine teI (by decide) (Nat.le_of_ble_eq_true rfl) ?_
  intro p_ ev_ s mi_ below_ meth cd_ ls F hK hN hO hH hS hl
  have hH : TH E (tbM (mD (.inl tp) (.inl sp) (.inl nu) (.inl (u, u)) (.inl tk) (.inl xt) (.inl wrb) (.inl nab) (.inl iwb)) (xD 660 X0) (xD 6600 Wa) kp as rd sc ty ik) s.heap := hH
  have hl : lv_has ls 3 [(0, .ref a0), (1, .int a1), (2, .int a2)] := hl
  have hBX0 := okB hX0.1
  have hLX0 := hX0.2
  refine lv_aload_n F.1 F.2.1 dX7_demand_0 rfl (lv_at hl 0 rfl) ?_
  refine lv_iload_n F.1 F.2.1 dX7_demand_1 rfl (lv_at hl 1 rfl) ?_
  refine tVi (b := a0) (As := [.int a1]) (rest := []) F hK hN hO (c_X7_isRight E (xD 6600 Wa) kp as rd sc ty ik (u, u) tk xt tp sp wrb nu nab iwb X0 a0 a1 ha0 ((hX0).1)) mv_X7_isRight wd_31_18 ⟨Nat.le_of_ble_eq_true rfl, Nat.le_of_ble_eq_true rfl⟩ ⟨Nat.le_of_ble_eq_true rfl, Nat.le_of_ble_eq_true rfl⟩ hH hS (tRecv hK hH (tyb ha0 (all1 rfl)) clX7) rfl hl.1 (Nat.le_of_ble_eq_true rfl) dX7_demand_2 (fun z_1 H locs hq hS => ?_)
  obtain ⟨f_2, f_3, f_4, hH⟩ := hq
  have hH : TH E (tbM (mD (.inl tp) (.inl sp) (.inl nu) (.inl (u, u)) (.inl tk) (.inl xt) (.inl wrb) (.inl nab) (.inl iwb)) (xD 660 X0) (xD 6600 Wa) kp as rd sc ty ik) H := hH
  refine z_eq (tgt := 42) F dX7_demand_5 (by decide) (fun c_5 => ?_) (fun c_5 => ?_)
  · skip
    have r_6 : 0 ≤ z_1.toInt ∧ z_1.toInt ≤ 0 := by have h9_ := f_2; omega
    refine lv_iconst (v := (-1)) F.1 F.2.1 dX7_demand_42 (by decide) ?_
    refine topK (a := (-1)) (by decide) (fun k_9 hk_9 => ?_)
    exact txI F hS dX7_demand_43 rfl (⟨u, (by omega), Wa, ⟨hWa, hmWa⟩, X0, ⟨hX0, hqX0⟩, (wkb (eqb hk_9) rfl rfl), hH⟩)
  · skip
    have r_7 : 1 ≤ z_1.toInt ∧ z_1.toInt ≤ 1 := by have h9_ := f_2; omega
    have r_8 : 0 ≤ a1.toInt ∧ a1.toInt ≤ 13 := by have h9_ := (i32b a1); omega
    refine lv_iload_n F.1 F.2.1 dX7_demand_8 rfl (lv_at hl 2 rfl) ?_
    refine tI2l F dX7_demand_9 (fun w_10 hw_10 => ?_)
    refine lv_lconst (v := 0) F.1 F.2.1 dX7_demand_10 (by decide) ?_
    refine topKL (a := 0) (by decide) (fun j_11 hj_11 => ?_)
    refine lv_aload_n F.1 F.2.1 dX7_demand_11 rfl (lv_at hl 0 rfl) ?_
    refine lv_iload_n F.1 F.2.1 dX7_demand_12 rfl (lv_at hl 1 rfl) ?_
    refine lv_iconst (v := 1) F.1 F.2.1 dX7_demand_13 (by decide) ?_
    refine topK (a := 1) (by decide) (fun k_12 hk_12 => ?_)
    refine tVi (b := a0) (As := [.int a1, .int k_12]) (rest := [.long j_11, .long w_10]) F hK hN hO (c_X7_of_1 E (xD 6600 Wa) kp as rd sc ty ik (u, u) tk xt tp sp wrb nu nab iwb X0 a0 a1 k_12 ha0 r_8 (eqb hk_12) ((hX0).1)) mv_X7_of wd_26_20 ⟨Nat.le_of_ble_eq_true rfl, Nat.le_of_ble_eq_true rfl⟩ ⟨Nat.le_of_ble_eq_true rfl, Nat.le_of_ble_eq_true rfl⟩ hH hS (tRecv hK hH (tyb ha0 (all1 rfl)) clX7) rfl hl.1 (Nat.le_of_ble_eq_true rfl) dX7_demand_14 (fun z_13 H locs hq hS => ?_)
    obtain ⟨f_14, f_15, hH⟩ := hq
    have hH : TH E (tbM (mD (.inl tp) (.inl sp) (.inl nu) (.inl (u, u)) (.inl tk) (.inl xt) (.inl wrb) (.inl nab) (.inl iwb)) (xD 660 X0) (xD 6600 Wa) kp as rd sc ty ik) H := hH
    refine tI2l F dX7_demand_17 (fun w_16 hw_16 => ?_)
    refine tSi (As := [.long w_10, .long j_11, .long w_16]) (rest := []) F hK hN hO (c_X7_in E (mD (.inl tp) (.inl sp) (.inl nu) (.inl (u, u)) (.inl tk) (.inl xt) (.inl wrb) (.inl nab) (.inl iwb)) (xD 660 X0) (xD 6600 Wa) kp as rd sc ty ik w_10 j_11 w_16) ms_X7_in wd_8_10 ⟨Nat.le_of_ble_eq_true rfl, Nat.le_of_ble_eq_true rfl⟩ ⟨Nat.le_of_ble_eq_true rfl, Nat.le_of_ble_eq_true rfl⟩ hH hS rfl hl.1 (Nat.le_of_ble_eq_true rfl) dX7_demand_18 (fun z_17 H locs hq hS => ?_)
    obtain ⟨f_18, f_19, hH⟩ := hq
    have hH : TH E (tbM (mD (.inl tp) (.inl sp) (.inl nu) (.inl (u, u)) (.inl tk) (.inl xt) (.inl wrb) (.inl nab) (.inl iwb)) (xD 660 X0) (xD 6600 Wa) kp as rd sc ty ik) H := hH
    refine z_eq (tgt := 42) F dX7_demand_21 (by decide) (fun c_20 => ?_) (fun c_20 => ?_)
    · skip
      have r_21 : 0 ≤ z_17.toInt ∧ z_17.toInt ≤ 0 := by have h9_ := f_18; omega
      refine lv_iconst (v := (-1)) F.1 F.2.1 dX7_demand_42 (by decide) ?_
      refine topK (a := (-1)) (by decide) (fun k_24 hk_24 => ?_)
      exact txI F hS dX7_demand_43 rfl (⟨u, (by omega), Wa, ⟨hWa, hmWa⟩, X0, ⟨hX0, hqX0⟩, (wkb (eqb hk_24) rfl rfl), hH⟩)
    · skip
      have r_22 : 1 ≤ z_17.toInt ∧ z_17.toInt ≤ 1 := by have h9_ := f_18; omega
      have r_23 : 0 ≤ a2.toInt ∧ a2.toInt ≤ 9999 := by have h9_ := (i32b a2); omega
      refine lv_aload_n F.1 F.2.1 dX7_demand_24 rfl (lv_at hl 0 rfl) ?_
      refine lv_bipush (v := 78) F.1 F.2.1 dX7_demand_25 (by decide) ?_
      refine topK (a := 78) (by decide) (fun k_25 hk_25 => ?_)
      refine lv_bipush (v := 13) F.1 F.2.1 dX7_demand_27 (by decide) ?_
      refine topK (a := 13) (by decide) (fun k_26 hk_26 => ?_)
      refine lv_iload_n F.1 F.2.1 dX7_demand_29 rfl (lv_at hl 1 rfl) ?_
      refine tMul (lo := 0) (hi := 169) F dX7_demand_30 (eqb hk_26) r_8 rfl (fun z_27 hz_27 => ?_)
      have mz_27 : z_27.toInt = 13 * a1.toInt := by rw [hz_27.1, hk_26]
      refine tAdd (lo := 78) (hi := 247) F dX7_demand_31 (eqb hk_25) hz_27.2 rfl (fun z_28 hz_28 => ?_)
      refine lv_bipush (v := 10) F.1 F.2.1 dX7_demand_32 (by decide) ?_
      refine topK (a := 10) (by decide) (fun k_29 hk_29 => ?_)
      refine tAdd (lo := 88) (hi := 257) F dX7_demand_34 hz_28.2 (eqb hk_29) rfl (fun z_30 hz_30 => ?_)
      refine lv_iload_n F.1 F.2.1 dX7_demand_35 rfl (lv_at hl 2 rfl) ?_
      refine tVi (b := a0) (As := [.int z_30, .int a2]) (rest := []) F hK hN hO (c_X7_becomes E kp as rd sc ty ik tk xt tp sp wrb nu nab iwb u X0 Wa Z a0 z_30 a2 ha0 (wkb hz_30.2 rfl rfl) (by omega) hX0 hWa (phiI (by omega) (by omega) (by omega) (by omega) (by omega) (by omega) (by omega) (by omega) (by omega) (by omega) (by omega) (by omega) (by omega) (by omega) (by omega) (by omega) (by omega) (by omega)) (by omega) (by omega) hmWa hqX0) mv_X7_becomes wd_31_0 ⟨Nat.le_of_ble_eq_true rfl, Nat.le_of_ble_eq_true rfl⟩ ⟨Nat.le_of_ble_eq_true rfl, Nat.le_of_ble_eq_true rfl⟩ hH hS (tRecv hK hH (tyb ha0 (all1 rfl)) clX7) rfl hl.1 (Nat.le_of_ble_eq_true rfl) dX7_demand_36 (fun z_31 H locs hq hS => ?_)
      obtain ⟨g_32, hg_32, g_33, hg_33, g_34, hg_34, f_35, hH⟩ := hq
      have hH : TH E (tbM (mD (.inl tp) (.inl sp) (.inl nu) (.inl (g_32, g_32)) (.inl tk) (.inl xt) (.inl wrb) (.inl nab) (.inl iwb)) (xD 660 g_34) (xD 6600 g_33) kp as rd sc ty ik) H := hH
      have hmg_33 := hg_33.2
      have hqg_34 := hg_34.2
      have hBg_34 := okB hg_34.1.1
      have hLg_34 := hg_34.1.2
      refine lv_goto (tgt := 43) F.1 F.2.1 dX7_demand_39 (by decide) ?_
      exact txI F hS dX7_demand_43 rfl (⟨g_32, (by omega), g_33, ⟨hg_33.1, hmg_33⟩, g_34, ⟨hg_34.1, hqg_34⟩, f_35, hH⟩)
set_option maxHeartbeats 4000000 in
set_option maxRecDepth 100000 in
theorem c_X7_orders_ (E : Ev) (kp : TD) (as : TD) (rd : TD) (sc : TD) (ty : TD) (ik : TD) (tk : Int × Int) (xt : Int × Int) (tp : Int × Int) (sp : Int × Int) (wrb : Int × Int) (nu : Int × Int) (nab : Int × Int) (iwb : Int × Int) (u : Int) (X0 : Nat → Int32) (Wa : Nat → Int32) (Z : Nat → Int32) (a0 : Nat) (a1 : Int32) (a2 : Int32) (a3 : Int32) (ha0 : eT E a0 ∈ [24]) (ha1 : 0 ≤ a1.toInt ∧ a1.toInt ≤ 3) (ha2 : (-2) ≤ a2.toInt ∧ a2.toInt ≤ 13) (ha3 : 0 ≤ a3.toInt ∧ a3.toInt ≤ 9999) (hu : 0 ≤ u ∧ u ≤ 10) (hX0 : okR X0) (hWa : okN 10 Wa) (hmWa : okM Z u Wa) (hr : a2.toInt ≠ -1) (hqX0 : sQ Z X0) : TcI E yX7_orders_ cX7_orders_ 5 .int ({ frames := 2, cells := 0, slots := 0, locals := 61 }) [.ref a0, .int a1, .int a2, .int a3] (fun H => TH E (tbM (mD (.inl tp) (.inl sp) (.inl nu) (.inl (u, u)) (.inl tk) (.inl xt) (.inl wrb) (.inl nab) (.inl iwb)) (xD 660 X0) (xD 6600 Wa) kp as rd sc ty ik) H) (fun v H => ∃ u2 : Int, (0 ≤ u2 ∧ u2 ≤ 10) ∧ ∃ Wb : Nat → Int32, (okN 10 Wb ∧ okM Z u2 Wb) ∧ ∃ X2 : Nat → Int32, (okR X2 ∧ sQ Z X2) ∧ ((-2147483648) ≤ v.toInt ∧ v.toInt ≤ 2147483647) ∧ TH E (tbM (mD (.inl tp) (.inl sp) (.inl nu) (.inl (u2, u2)) (.inl tk) (.inl xt) (.inl wrb) (.inl nab) (.inl iwb)) (xD 660 X2) (xD 6600 Wb) kp as rd sc ty ik) H) := by
  refine teI (by decide) (Nat.le_of_ble_eq_true rfl) ?_
  intro p_ ev_ s mi_ below_ meth cd_ ls F hK hN hO hH hS hl
  have hH : TH E (tbM (mD (.inl tp) (.inl sp) (.inl nu) (.inl (u, u)) (.inl tk) (.inl xt) (.inl wrb) (.inl nab) (.inl iwb)) (xD 660 X0) (xD 6600 Wa) kp as rd sc ty ik) s.heap := hH
  have hl : lv_has ls 5 [(0, .ref a0), (1, .int a1), (2, .int a2), (3, .int a3)] := hl
  have hBX0 := okB hX0.1
  have hLX0 := hX0.2
  refine lv_sipush (v := 260) F.1 F.2.1 dX7_orders__0 (by decide) ?_
  refine topK (a := 260) (by decide) (fun k_1 hk_1 => ?_)
  refine lv_bipush (v := 7) F.1 F.2.1 dX7_orders__3 (by decide) ?_
  refine topK (a := 7) (by decide) (fun k_2 hk_2 => ?_)
  refine lv_iload_n F.1 F.2.1 dX7_orders__5 rfl (lv_at hl 1 rfl) ?_
  refine tMul (lo := 0) (hi := 21) F dX7_orders__6 (eqb hk_2) ha1 rfl (fun z_3 hz_3 => ?_)
  have mz_3 : z_3.toInt = 7 * a1.toInt := by rw [hz_3.1, hk_2]
  refine tAdd (lo := 260) (hi := 281) F dX7_orders__7 (eqb hk_1) hz_3.2 rfl (fun z_4 hz_4 => ?_)
  refine lv_istore (lv' := [(4, .int z_4), (0, .ref a0), (1, .int a1), (2, .int a2), (3, .int a3)]) F.1 F.2.1 dX7_orders__8 hl (by decide) rfl (fun ls hl => ?_)
  refine lv_aload_n F.1 F.2.1 dX7_orders__10 rfl (lv_at hl 1 rfl) ?_
  refine tGetR (j := 0) F hK hH (tyb ha0 (all1 rfl)) rfl (all1 rfl) clX7 (by decide) wd_6_5 dX7_orders__11 (fun q_5 hq_5 _ => ?_)
  refine lv_iload F.1 F.2.1 dX7_orders__14 (lv_at hl 0 rfl) ?_
  refine lv_iconst (v := 5) F.1 F.2.1 dX7_orders__16 (by decide) ?_
  refine topK (a := 5) (by decide) (fun k_6 hk_6 => ?_)
  refine tAdd (lo := 265) (hi := 286) F dX7_orders__17 hz_4.2 (eqb hk_6) rfl (fun z_7 hz_7 => ?_)
  refine tIaldX F hK hH (tyb hq_5 (all1 rfl)) (ixb (n := 660) hz_7.2 rfl rfl) dX7_orders__18 (fun z_8 ez_8 => ?_)
  refine lv_iload_n F.1 F.2.1 dX7_orders__19 rfl (lv_at hl 3 rfl) ?_
  refine wjoin (σ := Unit) (pcj := 40) (stj := fun x9 => []) (fun x9 H locs ls => TH E (tbM (mD (.inl tp) (.inl sp) (.inl nu) (.inl (u, u)) (.inl tk) (.inl xt) (.inl wrb) (.inl nab) (.inl iwb)) (xD 660 X0) (xD 6600 Wa) kp as rd sc ty ik) H ∧ va_S (eA E s.heap.size) s.heap H locs ∧ lv_has ls 5 [(0, .ref a0), (2, .int a2), (3, .int a3), (4, .int z_4)]) (fun x9 H locs ls h_ => ?_) (fun J_40 => ?_)
  · skip
    obtain ⟨hH, hS, hl⟩ := h_
    have hH : TH E (tbM (mD (.inl tp) (.inl sp) (.inl nu) (.inl (u, u)) (.inl tk) (.inl xt) (.inl wrb) (.inl nab) (.inl iwb)) (xD 660 X0) (xD 6600 Wa) kp as rd sc ty ik) H := hH
    have hl : lv_has ls 5 [(0, .ref a0), (2, .int a2), (3, .int a3), (4, .int z_4)] := hl
    show W _ _ _ _ _ _ _ _ _ _ _ _ _ _ _ (F0 _ _ _ [])
    refine lv_aload_n F.1 F.2.1 dX7_orders__40 rfl (lv_at hl 0 rfl) ?_
    refine tVv (b := a0) (As := []) (rest := []) F hK hN hO (c_X7_keepsAct E kp as rd sc ty ik tk xt tp sp wrb nu nab iwb u X0 Wa Z a0 ha0 (by omega) hX0 hWa hqX0 hmWa) mv_X7_keepsAct wd_25_7 ⟨Nat.le_of_ble_eq_true rfl, Nat.le_of_ble_eq_true rfl⟩ ⟨Nat.le_of_ble_eq_true rfl, Nat.le_of_ble_eq_true rfl⟩ hH hS (tRecv hK hH (tyb ha0 (all1 rfl)) clX7) rfl hl.1 (Nat.le_of_ble_eq_true rfl) dX7_orders__41 (fun H locs hq hS => ?_)
    obtain ⟨g_10, hg_10, g_11, hg_11, hH⟩ := hq
    have hH : TH E (tbM (mD (.inl tp) (.inl sp) (.inl nu) (.inl (g_10, g_10)) (.inl tk) (.inl xt) (.inl wrb) (.inl nab) (.inl iwb)) (xD 660 X0) (xD 6600 g_11) kp as rd sc ty ik) H := hH
    have hmg_11 := hg_11.2
    refine lv_aload_n F.1 F.2.1 dX7_orders__44 rfl (lv_at hl 0 rfl) ?_
    refine tGetR (j := 0) F hK hH (tyb ha0 (all1 rfl)) rfl (all1 rfl) clX7 (by decide) wd_6_5 dX7_orders__45 (fun q_12 hq_12 _ => ?_)
    refine lv_iload F.1 F.2.1 dX7_orders__48 (lv_at hl 3 rfl) ?_
    refine lv_iconst (v := 5) F.1 F.2.1 dX7_orders__50 (by decide) ?_
    refine topK (a := 5) (by decide) (fun k_13 hk_13 => ?_)
    refine tAdd (lo := 265) (hi := 286) F dX7_orders__51 hz_4.2 (eqb hk_13) rfl (fun z_14 hz_14 => ?_)
    refine lv_iload_n F.1 F.2.1 dX7_orders__52 rfl (lv_at hl 1 rfl) ?_
    refine tIastX (t := 25) F hK hH hS (List.mem_singleton.mp hq_12) (by decide) rfl (ixb (n := 660) hz_14.2 rfl rfl) dX7_orders__53 (fun G_15 eG_15 H locs hH hS => ?_)
    have hH : TH E (tbM (mD (.inl tp) (.inl sp) (.inl nu) (.inl (g_10, g_10)) (.inl tk) (.inl xt) (.inl wrb) (.inl nab) (.inl iwb)) (xD 660 G_15) (xD 6600 g_11) kp as rd sc ty ik) H := hH
    have hG_15 : okR G_15 := (okR.st hX0 eG_15 (by omega) (by omega) (by omega) (phiI (by omega) (by omega) (by omega) (by omega) (by omega) (by omega) (by omega) (by omega) (by omega) (by omega) (by omega) (by omega) (by omega) (by omega) (by omega) (by omega) (by omega) (by omega)))
    have hBG_15 := okB hG_15.1
    have hLG_15 := hG_15.2
    have hqG_15 : sQ Z G_15 := sQ.st hqX0 eG_15 (by omega)
    refine lv_aload_n F.1 F.2.1 dX7_orders__54 rfl (lv_at hl 0 rfl) ?_
    refine tGetR (j := 0) F hK hH (tyb ha0 (all1 rfl)) rfl (all1 rfl) clX7 (by decide) wd_6_5 dX7_orders__55 (fun q_16 hq_16 _ => ?_)
    refine lv_iload F.1 F.2.1 dX7_orders__58 (lv_at hl 3 rfl) ?_
    refine lv_bipush (v := 6) F.1 F.2.1 dX7_orders__60 (by decide) ?_
    refine topK (a := 6) (by decide) (fun k_17 hk_17 => ?_)
    refine tAdd (lo := 266) (hi := 287) F dX7_orders__62 hz_4.2 (eqb hk_17) rfl (fun z_18 hz_18 => ?_)
    refine lv_iload_n F.1 F.2.1 dX7_orders__63 rfl (lv_at hl 2 rfl) ?_
    refine tIastX (t := 25) F hK hH hS (List.mem_singleton.mp hq_16) (by decide) rfl (ixb (n := 660) hz_18.2 rfl rfl) dX7_orders__64 (fun G_19 eG_19 H locs hH hS => ?_)
    have hH : TH E (tbM (mD (.inl tp) (.inl sp) (.inl nu) (.inl (g_10, g_10)) (.inl tk) (.inl xt) (.inl wrb) (.inl nab) (.inl iwb)) (xD 660 G_19) (xD 6600 g_11) kp as rd sc ty ik) H := hH
    have hG_19 : okR G_19 := (okR.st hG_15 eG_19 (by omega) (by omega) (by omega) (phiI (by omega) (by omega) (by omega) (by omega) (by omega) (by omega) (by omega) (by omega) (by omega) (by omega) (by omega) (by omega) (by omega) (by omega) (by omega) (by omega) (by omega) (by omega)))
    have hBG_19 := okB hG_19.1
    have hLG_19 := hG_19.2
    have hqG_19 : sQ Z G_19 := sQ.st hqG_15 eG_19 (by omega)
    refine lv_iconst (v := 1) F.1 F.2.1 dX7_orders__65 (by decide) ?_
    refine topK (a := 1) (by decide) (fun k_20 hk_20 => ?_)
    exact txI F hS dX7_orders__66 rfl (⟨g_10, (by omega), g_11, ⟨hg_11.1, hmg_11⟩, G_19, ⟨hG_19, hqG_19⟩, (wkb (eqb hk_20) rfl rfl), hH⟩)
  refine b_ne (tgt := 40) F dX7_orders__20 (by decide) (fun c_21 => ?_) (fun c_21 => ?_)
  · skip
    exact J_40 () _ _ _ ⟨hH, hS, lv_sub hl [1, 3, 4, 0] rfl⟩
  · skip
    have r_22 : (-2) ≤ z_8.toInt ∧ z_8.toInt ≤ 13 := by have h9_ := (i32b z_8); omega
    refine lv_aload_n F.1 F.2.1 dX7_orders__23 rfl (lv_at hl 1 rfl) ?_
    refine tGetR (j := 0) F hK hH (tyb ha0 (all1 rfl)) rfl (all1 rfl) clX7 (by decide) wd_6_5 dX7_orders__24 (fun q_23 hq_23 _ => ?_)
    refine lv_iload F.1 F.2.1 dX7_orders__27 (lv_at hl 0 rfl) ?_
    refine lv_bipush (v := 6) F.1 F.2.1 dX7_orders__29 (by decide) ?_
    refine topK (a := 6) (by decide) (fun k_24 hk_24 => ?_)
    refine tAdd (lo := 266) (hi := 287) F dX7_orders__31 hz_4.2 (eqb hk_24) rfl (fun z_25 hz_25 => ?_)
    refine tIaldX F hK hH (tyb hq_23 (all1 rfl)) (ixb (n := 660) hz_25.2 rfl rfl) dX7_orders__32 (fun z_26 ez_26 => ?_)
    refine lv_iload_n F.1 F.2.1 dX7_orders__33 rfl (lv_at hl 4 rfl) ?_
    refine b_ne (tgt := 40) F dX7_orders__34 (by decide) (fun c_27 => ?_) (fun c_27 => ?_)
    · skip
      exact J_40 () _ _ _ ⟨hH, hS, lv_sub hl [1, 3, 4, 0] rfl⟩
    · skip
      have r_28 : 0 ≤ z_26.toInt ∧ z_26.toInt ≤ 9999 := by have h9_ := (i32b z_26); omega
      refine lv_bipush (v := (-2)) F.1 F.2.1 dX7_orders__37 (by decide) ?_
      refine topK (a := (-2)) (by decide) (fun k_29 hk_29 => ?_)
      exact txI F hS dX7_orders__39 rfl (⟨u, (by omega), Wa, ⟨hWa, hmWa⟩, X0, ⟨hX0, hqX0⟩, (wkb (eqb hk_29) rfl rfl), hH⟩)
set_option maxHeartbeats 4000000 in
set_option maxRecDepth 100000 in
theorem c_X7_order (E : Ev) (kp : TD) (as : TD) (rd : TD) (sc : TD) (ty : TD) (ik : TD) (tk : Int × Int) (xt : Int × Int) (tp : Int × Int) (sp : Int × Int) (wrb : Int × Int) (nu : Int × Int) (nab : Int × Int) (iwb : Int × Int) (u : Int) (X0 : Nat → Int32) (Wa : Nat → Int32) (Z : Nat → Int32) (a0 : Nat) (a1 : Int32) (a2 : Int32) (a3 : Int32) (ha0 : eT E a0 ∈ [24]) (hu : 0 ≤ u ∧ u ≤ 10) (hX0 : okR X0) (hWa : okN 10 Wa) (hmWa : okM Z u Wa) (hqX0 : sQ Z X0) : TcI E yX7_order cX7_order 5 .int ({ frames := 3, cells := 0, slots := 0, locals := 86 }) [.ref a0, .int a1, .int a2, .int a3] (fun H => TH E (tbM (mD (.inl tp) (.inl sp) (.inl nu) (.inl (u, u)) (.inl tk) (.inl xt) (.inl wrb) (.inl nab) (.inl iwb)) (xD 660 X0) (xD 6600 Wa) kp as rd sc ty ik) H) (fun v H => ∃ u2 : Int, (0 ≤ u2 ∧ u2 ≤ 10) ∧ ∃ Wb : Nat → Int32, (okN 10 Wb ∧ okM Z u2 Wb) ∧ ∃ X2 : Nat → Int32, (okR X2 ∧ sQ Z X2) ∧ ((-2147483648) ≤ v.toInt ∧ v.toInt ≤ 2147483647) ∧ TH E (tbM (mD (.inl tp) (.inl sp) (.inl nu) (.inl (u2, u2)) (.inl tk) (.inl xt) (.inl wrb) (.inl nab) (.inl iwb)) (xD 660 X2) (xD 6600 Wb) kp as rd sc ty ik) H) := by
  refine teI (by decide) (Nat.le_of_ble_eq_true rfl) ?_
  intro p_ ev_ s mi_ below_ meth cd_ ls F hK hN hO hH hS hl
  have hH : TH E (tbM (mD (.inl tp) (.inl sp) (.inl nu) (.inl (u, u)) (.inl tk) (.inl xt) (.inl wrb) (.inl nab) (.inl iwb)) (xD 660 X0) (xD 6600 Wa) kp as rd sc ty ik) s.heap := hH
  have hl : lv_has ls 5 [(0, .ref a0), (1, .int a1), (2, .int a2), (3, .int a3)] := hl
  have hBX0 := okB hX0.1
  have hLX0 := hX0.2
  refine lv_aload_n F.1 F.2.1 dX7_order_0 rfl (lv_at hl 0 rfl) ?_
  refine lv_iload_n F.1 F.2.1 dX7_order_1 rfl (lv_at hl 1 rfl) ?_
  refine tVi (b := a0) (As := [.int a1]) (rest := []) F hK hN hO (c_X7_isStore E (xD 6600 Wa) kp as rd sc ty ik (u, u) tk xt tp sp wrb nu nab iwb X0 a0 a1 ha0 ((hX0).1)) mv_X7_isStore wd_32_17 ⟨Nat.le_of_ble_eq_true rfl, Nat.le_of_ble_eq_true rfl⟩ ⟨Nat.le_of_ble_eq_true rfl, Nat.le_of_ble_eq_true rfl⟩ hH hS (tRecv hK hH (tyb ha0 (all1 rfl)) clX7) rfl hl.1 (Nat.le_of_ble_eq_true rfl) dX7_order_2 (fun z_1 H locs hq hS => ?_)
  obtain ⟨f_2, f_3, f_4, hH⟩ := hq
  have hH : TH E (tbM (mD (.inl tp) (.inl sp) (.inl nu) (.inl (u, u)) (.inl tk) (.inl xt) (.inl wrb) (.inl nab) (.inl iwb)) (xD 660 X0) (xD 6600 Wa) kp as rd sc ty ik) H := hH
  refine z_eq (tgt := 28) F dX7_order_5 (by decide) (fun c_5 => ?_) (fun c_5 => ?_)
  · skip
    have r_6 : 0 ≤ z_1.toInt ∧ z_1.toInt ≤ 0 := by have h9_ := f_2; omega
    refine lv_iconst (v := (-1)) F.1 F.2.1 dX7_order_28 (by decide) ?_
    refine topK (a := (-1)) (by decide) (fun k_9 hk_9 => ?_)
    exact txI F hS dX7_order_29 rfl (⟨u, (by omega), Wa, ⟨hWa, hmWa⟩, X0, ⟨hX0, hqX0⟩, (wkb (eqb hk_9) rfl rfl), hH⟩)
  · skip
    have r_7 : 1 ≤ z_1.toInt ∧ z_1.toInt ≤ 1 := by have h9_ := f_2; omega
    have r_8 : 0 ≤ a1.toInt ∧ a1.toInt ≤ 3 := by have h9_ := (i32b a1); omega
    refine lv_aload_n F.1 F.2.1 dX7_order_8 rfl (lv_at hl 0 rfl) ?_
    refine lv_iload_n F.1 F.2.1 dX7_order_9 rfl (lv_at hl 2 rfl) ?_
    refine tVi (b := a0) (As := [.int a2]) (rest := []) F hK hN hO (c_X7_isRight E (xD 6600 Wa) kp as rd sc ty ik (u, u) tk xt tp sp wrb nu nab iwb X0 a0 a2 ha0 ((hX0).1)) mv_X7_isRight wd_31_18 ⟨Nat.le_of_ble_eq_true rfl, Nat.le_of_ble_eq_true rfl⟩ ⟨Nat.le_of_ble_eq_true rfl, Nat.le_of_ble_eq_true rfl⟩ hH hS (tRecv hK hH (tyb ha0 (all1 rfl)) clX7) rfl hl.1 (Nat.le_of_ble_eq_true rfl) dX7_order_10 (fun z_10 H locs hq hS => ?_)
    obtain ⟨f_11, f_12, f_13, hH⟩ := hq
    have hH : TH E (tbM (mD (.inl tp) (.inl sp) (.inl nu) (.inl (u, u)) (.inl tk) (.inl xt) (.inl wrb) (.inl nab) (.inl iwb)) (xD 660 X0) (xD 6600 Wa) kp as rd sc ty ik) H := hH
    refine z_eq (tgt := 28) F dX7_order_13 (by decide) (fun c_14 => ?_) (fun c_14 => ?_)
    · skip
      have r_15 : 0 ≤ z_10.toInt ∧ z_10.toInt ≤ 0 := by have h9_ := f_11; omega
      refine lv_iconst (v := (-1)) F.1 F.2.1 dX7_order_28 (by decide) ?_
      refine topK (a := (-1)) (by decide) (fun k_18 hk_18 => ?_)
      exact txI F hS dX7_order_29 rfl (⟨u, (by omega), Wa, ⟨hWa, hmWa⟩, X0, ⟨hX0, hqX0⟩, (wkb (eqb hk_18) rfl rfl), hH⟩)
    · skip
      have r_16 : 1 ≤ z_10.toInt ∧ z_10.toInt ≤ 1 := by have h9_ := f_11; omega
      have r_17 : 0 ≤ a2.toInt ∧ a2.toInt ≤ 13 := by have h9_ := (i32b a2); omega
      refine lv_iload_n F.1 F.2.1 dX7_order_16 rfl (lv_at hl 3 rfl) ?_
      refine tI2l F dX7_order_17 (fun w_19 hw_19 => ?_)
      refine lv_lconst (v := 0) F.1 F.2.1 dX7_order_18 (by decide) ?_
      refine topKL (a := 0) (by decide) (fun j_20 hj_20 => ?_)
      refine lv_ldc2 (own := RX7) (v := 9999) F.1 F.2.1 F.2.2.2.2.1 (F.2.2.2.2.2.2.1 _ wd_32_16) dX7_order_19 ?_
      refine topKL (a := 9999) (by decide) (fun j_21 hj_21 => ?_)
      refine tSi (As := [.long w_19, .long j_20, .long j_21]) (rest := []) F hK hN hO (c_X7_in E (mD (.inl tp) (.inl sp) (.inl nu) (.inl (u, u)) (.inl tk) (.inl xt) (.inl wrb) (.inl nab) (.inl iwb)) (xD 660 X0) (xD 6600 Wa) kp as rd sc ty ik w_19 j_20 j_21) ms_X7_in wd_8_10 ⟨Nat.le_of_ble_eq_true rfl, Nat.le_of_ble_eq_true rfl⟩ ⟨Nat.le_of_ble_eq_true rfl, Nat.le_of_ble_eq_true rfl⟩ hH hS rfl hl.1 (Nat.le_of_ble_eq_true rfl) dX7_order_22 (fun z_22 H locs hq hS => ?_)
      obtain ⟨f_23, f_24, hH⟩ := hq
      have hH : TH E (tbM (mD (.inl tp) (.inl sp) (.inl nu) (.inl (u, u)) (.inl tk) (.inl xt) (.inl wrb) (.inl nab) (.inl iwb)) (xD 660 X0) (xD 6600 Wa) kp as rd sc ty ik) H := hH
      refine z_ne (tgt := 30) F dX7_order_25 (by decide) (fun c_25 => ?_) (fun c_25 => ?_)
      · skip
        have r_26 : 1 ≤ z_22.toInt ∧ z_22.toInt ≤ 1 := by have h9_ := f_23; omega
        have r_27 : 0 ≤ a3.toInt ∧ a3.toInt ≤ 9999 := by have h9_ := (i32b a3); omega
        refine lv_iload_n F.1 F.2.1 dX7_order_30 rfl (lv_at hl 3 rfl) ?_
        refine z_ne (tgt := 43) F dX7_order_31 (by decide) (fun c_29 => ?_) (fun c_29 => ?_)
        · skip
          have r_30 : 1 ≤ a3.toInt ∧ a3.toInt ≤ 9999 := by have h9_ := r_27; omega
          refine lv_aload_n F.1 F.2.1 dX7_order_43 rfl (lv_at hl 0 rfl) ?_
          refine lv_iload_n F.1 F.2.1 dX7_order_44 rfl (lv_at hl 1 rfl) ?_
          refine lv_iconst (v := 5) F.1 F.2.1 dX7_order_45 (by decide) ?_
          refine topK (a := 5) (by decide) (fun k_32 hk_32 => ?_)
          refine tVi (b := a0) (As := [.int a1, .int k_32]) (rest := []) F hK hN hO (c_X7_ofStore_5 E (xD 6600 Wa) kp as rd sc ty ik (u, u) tk xt tp sp wrb nu nab iwb X0 a0 a1 k_32 ha0 r_8 (eqb hk_32) ((hX0).1)) mv_X7_ofStore wd_27_0 ⟨Nat.le_of_ble_eq_true rfl, Nat.le_of_ble_eq_true rfl⟩ ⟨Nat.le_of_ble_eq_true rfl, Nat.le_of_ble_eq_true rfl⟩ hH hS (tRecv hK hH (tyb ha0 (all1 rfl)) clX7) rfl hl.1 (Nat.le_of_ble_eq_true rfl) dX7_order_46 (fun z_33 H locs hq hS => ?_)
          obtain ⟨f_34, f_35, f_36, hH⟩ := hq
          have hH : TH E (tbM (mD (.inl tp) (.inl sp) (.inl nu) (.inl (u, u)) (.inl tk) (.inl xt) (.inl wrb) (.inl nab) (.inl iwb)) (xD 660 X0) (xD 6600 Wa) kp as rd sc ty ik) H := hH
          refine lv_iload_n F.1 F.2.1 dX7_order_49 rfl (lv_at hl 2 rfl) ?_
          refine wjoin (σ := Int32) (pcj := 70) (stj := fun x9 => [.int x9]) (fun x9 H locs ls => ((-2) ≤ x9.toInt ∧ x9.toInt ≤ 1) ∧ TH E (tbM (mD (.inl tp) (.inl sp) (.inl nu) (.inl (u, u)) (.inl tk) (.inl xt) (.inl wrb) (.inl nab) (.inl iwb)) (xD 660 X0) (xD 6600 Wa) kp as rd sc ty ik) H ∧ va_S (eA E s.heap.size) s.heap H locs ∧ lv_has ls 5 [(0, .ref a0), (1, .int a1), (2, .int a2), (3, .int a3)]) (fun u_37 H locs ls h_ => ?_) (fun J_70 => ?_)
          · skip
            obtain ⟨hu_37, hH, hS, hl⟩ := h_
            have hu_37 : ((-2) ≤ u_37.toInt ∧ u_37.toInt ≤ 1) := hu_37
            have hH : TH E (tbM (mD (.inl tp) (.inl sp) (.inl nu) (.inl (u, u)) (.inl tk) (.inl xt) (.inl wrb) (.inl nab) (.inl iwb)) (xD 660 X0) (xD 6600 Wa) kp as rd sc ty ik) H := hH
            have hl : lv_has ls 5 [(0, .ref a0), (1, .int a1), (2, .int a2), (3, .int a3)] := hl
            show W _ _ _ _ _ _ _ _ _ _ _ _ _ _ _ (F0 _ _ _ [.int u_37])
            refine lv_istore (lv' := [(4, .int u_37), (0, .ref a0), (1, .int a1), (2, .int a2), (3, .int a3)]) F.1 F.2.1 dX7_order_70 hl (by decide) rfl (fun ls hl => ?_)
            refine lv_iload F.1 F.2.1 dX7_order_72 (lv_at hl 0 rfl) ?_
            refine lv_bipush (v := (-2)) F.1 F.2.1 dX7_order_74 (by decide) ?_
            refine topK (a := (-2)) (by decide) (fun k_38 hk_38 => ?_)
            refine b_ne (tgt := 82) F dX7_order_76 (by decide) (fun c_39 => ?_) (fun c_39 => ?_)
            · skip
              have r_40 : (-1) ≤ u_37.toInt ∧ u_37.toInt ≤ 1 := by have h9_ := hu_37; omega
              refine lv_aload_n F.1 F.2.1 dX7_order_82 rfl (lv_at hl 1 rfl) ?_
              refine lv_aload_n F.1 F.2.1 dX7_order_83 rfl (lv_at hl 1 rfl) ?_
              refine lv_iload_n F.1 F.2.1 dX7_order_84 rfl (lv_at hl 2 rfl) ?_
              refine lv_iconst (v := 0) F.1 F.2.1 dX7_order_85 (by decide) ?_
              refine topK (a := 0) (by decide) (fun k_42 hk_42 => ?_)
              refine tVi (b := a0) (As := [.int a1, .int k_42]) (rest := [.ref a0]) F hK hN hO (c_X7_ofStore_0 E (xD 6600 Wa) kp as rd sc ty ik (u, u) tk xt tp sp wrb nu nab iwb X0 a0 a1 k_42 ha0 r_8 (eqb hk_42) ((hX0).1)) mv_X7_ofStore wd_27_0 ⟨Nat.le_of_ble_eq_true rfl, Nat.le_of_ble_eq_true rfl⟩ ⟨Nat.le_of_ble_eq_true rfl, Nat.le_of_ble_eq_true rfl⟩ hH hS (tRecv hK hH (tyb ha0 (all1 rfl)) clX7) rfl hl.1 (Nat.le_of_ble_eq_true rfl) dX7_order_86 (fun z_43 H locs hq hS => ?_)
              obtain ⟨f_44, f_45, hH⟩ := hq
              have hH : TH E (tbM (mD (.inl tp) (.inl sp) (.inl nu) (.inl (u, u)) (.inl tk) (.inl xt) (.inl wrb) (.inl nab) (.inl iwb)) (xD 660 X0) (xD 6600 Wa) kp as rd sc ty ik) H := hH
              refine lv_aload_n F.1 F.2.1 dX7_order_89 rfl (lv_at hl 1 rfl) ?_
              refine lv_iload_n F.1 F.2.1 dX7_order_90 rfl (lv_at hl 3 rfl) ?_
              refine lv_iconst (v := 0) F.1 F.2.1 dX7_order_91 (by decide) ?_
              refine topK (a := 0) (by decide) (fun k_46 hk_46 => ?_)
              refine tVi (b := a0) (As := [.int a2, .int k_46]) (rest := [.int z_43, .ref a0]) F hK hN hO (c_X7_of_0 E (xD 6600 Wa) kp as rd sc ty ik (u, u) tk xt tp sp wrb nu nab iwb X0 a0 a2 k_46 ha0 r_17 (eqb hk_46) ((hX0).1)) mv_X7_of wd_26_20 ⟨Nat.le_of_ble_eq_true rfl, Nat.le_of_ble_eq_true rfl⟩ ⟨Nat.le_of_ble_eq_true rfl, Nat.le_of_ble_eq_true rfl⟩ hH hS (tRecv hK hH (tyb ha0 (all1 rfl)) clX7) rfl hl.1 (Nat.le_of_ble_eq_true rfl) dX7_order_92 (fun z_47 H locs hq hS => ?_)
              obtain ⟨f_48, f_49, hH⟩ := hq
              have hH : TH E (tbM (mD (.inl tp) (.inl sp) (.inl nu) (.inl (u, u)) (.inl tk) (.inl xt) (.inl wrb) (.inl nab) (.inl iwb)) (xD 660 X0) (xD 6600 Wa) kp as rd sc ty ik) H := hH
              refine tVi (b := a0) (As := [.int z_43, .int z_47]) (rest := []) F hK hN hO (c_X7_runsTo E (xD 6600 Wa) kp as rd sc ty ik (u, u) tk xt tp sp wrb nu nab iwb X0 a0 z_43 z_47 ha0 f_44 hX0 (by omega)) mv_X7_runsTo wd_29_6 ⟨Nat.le_of_ble_eq_true rfl, Nat.le_of_ble_eq_true rfl⟩ ⟨Nat.le_of_ble_eq_true rfl, Nat.le_of_ble_eq_true rfl⟩ hH hS (tRecv hK hH (tyb ha0 (all1 rfl)) clX7) rfl hl.1 (Nat.le_of_ble_eq_true rfl) dX7_order_95 (fun z_50 H locs hq hS => ?_)
              obtain ⟨f_51, hH⟩ := hq
              have hH : TH E (tbM (mD (.inl tp) (.inl sp) (.inl nu) (.inl (u, u)) (.inl tk) (.inl xt) (.inl wrb) (.inl nab) (.inl iwb)) (xD 660 X0) (xD 6600 Wa) kp as rd sc ty ik) H := hH
              refine z_eq (tgt := 111) F dX7_order_98 (by decide) (fun c_52 => ?_) (fun c_52 => ?_)
              · skip
                have r_53 : 0 ≤ z_50.toInt ∧ z_50.toInt ≤ 0 := by have h9_ := f_51; omega
                refine lv_bipush (v := (-3)) F.1 F.2.1 dX7_order_111 (by decide) ?_
                refine topK (a := (-3)) (by decide) (fun k_55 hk_55 => ?_)
                exact txI F hS dX7_order_113 rfl (⟨u, (by omega), Wa, ⟨hWa, hmWa⟩, X0, ⟨hX0, hqX0⟩, (wkb (eqb hk_55) rfl rfl), hH⟩)
              · skip
                have r_54 : 1 ≤ z_50.toInt ∧ z_50.toInt ≤ 1 := by have h9_ := f_51; omega
                refine lv_aload_n F.1 F.2.1 dX7_order_101 rfl (lv_at hl 1 rfl) ?_
                refine lv_iload_n F.1 F.2.1 dX7_order_102 rfl (lv_at hl 2 rfl) ?_
                refine lv_iload_n F.1 F.2.1 dX7_order_103 rfl (lv_at hl 3 rfl) ?_
                refine lv_iload_n F.1 F.2.1 dX7_order_104 rfl (lv_at hl 4 rfl) ?_
                refine tVi (b := a0) (As := [.int a1, .int a2, .int a3]) (rest := []) F hK hN hO (c_X7_orders_ E kp as rd sc ty ik tk xt tp sp wrb nu nab iwb u X0 Wa Z a0 a1 a2 a3 ha0 r_8 (wkb r_17 rfl rfl) (wkb r_30 rfl rfl) (by omega) hX0 hWa hmWa (by omega) hqX0) mv_X7_orders_ wd_32_21 ⟨Nat.le_of_ble_eq_true rfl, Nat.le_of_ble_eq_true rfl⟩ ⟨Nat.le_of_ble_eq_true rfl, Nat.le_of_ble_eq_true rfl⟩ hH hS (tRecv hK hH (tyb ha0 (all1 rfl)) clX7) rfl hl.1 (Nat.le_of_ble_eq_true rfl) dX7_order_105 (fun z_56 H locs hq hS => ?_)
                obtain ⟨g_57, hg_57, g_58, hg_58, g_59, hg_59, f_60, hH⟩ := hq
                have hH : TH E (tbM (mD (.inl tp) (.inl sp) (.inl nu) (.inl (g_57, g_57)) (.inl tk) (.inl xt) (.inl wrb) (.inl nab) (.inl iwb)) (xD 660 g_59) (xD 6600 g_58) kp as rd sc ty ik) H := hH
                have hmg_58 := hg_58.2
                have hqg_59 := hg_59.2
                have hBg_59 := okB hg_59.1.1
                have hLg_59 := hg_59.1.2
                refine lv_goto (tgt := 113) F.1 F.2.1 dX7_order_108 (by decide) ?_
                exact txI F hS dX7_order_113 rfl (⟨g_57, (by omega), g_58, ⟨hg_58.1, hmg_58⟩, g_59, ⟨hg_59.1, hqg_59⟩, f_60, hH⟩)
            · skip
              have r_41 : (-2) ≤ u_37.toInt ∧ u_37.toInt ≤ (-2) := by have h9_ := hu_37; omega
              refine lv_bipush (v := (-2)) F.1 F.2.1 dX7_order_79 (by decide) ?_
              refine topK (a := (-2)) (by decide) (fun k_61 hk_61 => ?_)
              exact txI F hS dX7_order_81 rfl (⟨u, (by omega), Wa, ⟨hWa, hmWa⟩, X0, ⟨hX0, hqX0⟩, (wkb (eqb hk_61) rfl rfl), hH⟩)
          refine wjoin (σ := Unit) (pcj := 69) (stj := fun x9 => []) (fun x9 H locs ls => TH E (tbM (mD (.inl tp) (.inl sp) (.inl nu) (.inl (u, u)) (.inl tk) (.inl xt) (.inl wrb) (.inl nab) (.inl iwb)) (xD 660 X0) (xD 6600 Wa) kp as rd sc ty ik) H ∧ va_S (eA E s.heap.size) s.heap H locs ∧ lv_has ls 5 [(0, .ref a0), (1, .int a1), (2, .int a2), (3, .int a3)]) (fun x9 H locs ls h_ => ?_) (fun J_69 => ?_)
          · skip
            obtain ⟨hH, hS, hl⟩ := h_
            have hH : TH E (tbM (mD (.inl tp) (.inl sp) (.inl nu) (.inl (u, u)) (.inl tk) (.inl xt) (.inl wrb) (.inl nab) (.inl iwb)) (xD 660 X0) (xD 6600 Wa) kp as rd sc ty ik) H := hH
            have hl : lv_has ls 5 [(0, .ref a0), (1, .int a1), (2, .int a2), (3, .int a3)] := hl
            show W _ _ _ _ _ _ _ _ _ _ _ _ _ _ _ (F0 _ _ _ [])
            refine lv_iconst (v := 1) F.1 F.2.1 dX7_order_69 (by decide) ?_
            refine topK (a := 1) (by decide) (fun k_62 hk_62 => ?_)
            exact J_70 (k_62) _ _ _ ⟨(wkb (eqb hk_62) rfl rfl), hH, hS, lv_sub hl [0, 1, 2, 3] rfl⟩
          refine b_ne (tgt := 69) F dX7_order_50 (by decide) (fun c_63 => ?_) (fun c_63 => ?_)
          · skip
            exact J_69 () _ _ _ ⟨hH, hS, lv_sub hl [0, 1, 2, 3] rfl⟩
          · skip
            have r_64 : 0 ≤ z_33.toInt ∧ z_33.toInt ≤ 13 := by have h9_ := f_34; omega
            refine lv_aload_n F.1 F.2.1 dX7_order_53 rfl (lv_at hl 0 rfl) ?_
            refine lv_iload_n F.1 F.2.1 dX7_order_54 rfl (lv_at hl 1 rfl) ?_
            refine lv_bipush (v := 6) F.1 F.2.1 dX7_order_55 (by decide) ?_
            refine topK (a := 6) (by decide) (fun k_65 hk_65 => ?_)
            refine tVi (b := a0) (As := [.int a1, .int k_65]) (rest := []) F hK hN hO (c_X7_ofStore_6 E (xD 6600 Wa) kp as rd sc ty ik (u, u) tk xt tp sp wrb nu nab iwb X0 a0 a1 k_65 ha0 r_8 (eqb hk_65) ((hX0).1)) mv_X7_ofStore wd_27_0 ⟨Nat.le_of_ble_eq_true rfl, Nat.le_of_ble_eq_true rfl⟩ ⟨Nat.le_of_ble_eq_true rfl, Nat.le_of_ble_eq_true rfl⟩ hH hS (tRecv hK hH (tyb ha0 (all1 rfl)) clX7) rfl hl.1 (Nat.le_of_ble_eq_true rfl) dX7_order_57 (fun z_66 H locs hq hS => ?_)
            obtain ⟨f_67, f_68, hH⟩ := hq
            have hH : TH E (tbM (mD (.inl tp) (.inl sp) (.inl nu) (.inl (u, u)) (.inl tk) (.inl xt) (.inl wrb) (.inl nab) (.inl iwb)) (xD 660 X0) (xD 6600 Wa) kp as rd sc ty ik) H := hH
            refine lv_iload_n F.1 F.2.1 dX7_order_60 rfl (lv_at hl 3 rfl) ?_
            refine b_ne (tgt := 69) F dX7_order_61 (by decide) (fun c_69 => ?_) (fun c_69 => ?_)
            · skip
              exact J_69 () _ _ _ ⟨hH, hS, lv_sub hl [0, 1, 2, 3] rfl⟩
            · skip
              have r_70 : 1 ≤ z_66.toInt ∧ z_66.toInt ≤ 9999 := by have h9_ := f_67; omega
              refine lv_bipush (v := (-2)) F.1 F.2.1 dX7_order_64 (by decide) ?_
              refine topK (a := (-2)) (by decide) (fun k_71 hk_71 => ?_)
              refine lv_goto (tgt := 70) F.1 F.2.1 dX7_order_66 (by decide) ?_
              exact J_70 (k_71) _ _ _ ⟨(wkb (eqb hk_71) rfl rfl), hH, hS, lv_sub hl [0, 1, 2, 3] rfl⟩
        · skip
          have r_31 : 0 ≤ a3.toInt ∧ a3.toInt ≤ 0 := by have h9_ := r_27; omega
          refine lv_aload_n F.1 F.2.1 dX7_order_34 rfl (lv_at hl 0 rfl) ?_
          refine lv_iload_n F.1 F.2.1 dX7_order_35 rfl (lv_at hl 1 rfl) ?_
          refine lv_bipush (v := (-2)) F.1 F.2.1 dX7_order_36 (by decide) ?_
          refine topK (a := (-2)) (by decide) (fun k_72 hk_72 => ?_)
          refine lv_iconst (v := 0) F.1 F.2.1 dX7_order_38 (by decide) ?_
          refine topK (a := 0) (by decide) (fun k_73 hk_73 => ?_)
          refine tVi (b := a0) (As := [.int a1, .int k_72, .int k_73]) (rest := []) F hK hN hO (c_X7_orders_ E kp as rd sc ty ik tk xt tp sp wrb nu nab iwb u X0 Wa Z a0 a1 k_72 k_73 ha0 r_8 (wkb (eqb hk_72) rfl rfl) (wkb (eqb hk_73) rfl rfl) (by omega) hX0 hWa hmWa (by omega) hqX0) mv_X7_orders_ wd_32_21 ⟨Nat.le_of_ble_eq_true rfl, Nat.le_of_ble_eq_true rfl⟩ ⟨Nat.le_of_ble_eq_true rfl, Nat.le_of_ble_eq_true rfl⟩ hH hS (tRecv hK hH (tyb ha0 (all1 rfl)) clX7) rfl hl.1 (Nat.le_of_ble_eq_true rfl) dX7_order_39 (fun z_74 H locs hq hS => ?_)
          obtain ⟨g_75, hg_75, g_76, hg_76, g_77, hg_77, f_78, hH⟩ := hq
          have hH : TH E (tbM (mD (.inl tp) (.inl sp) (.inl nu) (.inl (g_75, g_75)) (.inl tk) (.inl xt) (.inl wrb) (.inl nab) (.inl iwb)) (xD 660 g_77) (xD 6600 g_76) kp as rd sc ty ik) H := hH
          have hmg_76 := hg_76.2
          have hqg_77 := hg_77.2
          have hBg_77 := okB hg_77.1.1
          have hLg_77 := hg_77.1.2
          exact txI F hS dX7_order_42 rfl (⟨g_75, (by omega), g_76, ⟨hg_76.1, hmg_76⟩, g_77, ⟨hg_77.1, hqg_77⟩, f_78, hH⟩)
      · skip
        have r_28 : 0 ≤ z_22.toInt ∧ z_22.toInt ≤ 0 := by have h9_ := f_23; omega
        refine lv_iconst (v := (-1)) F.1 F.2.1 dX7_order_28 (by decide) ?_
        refine topK (a := (-1)) (by decide) (fun k_79 hk_79 => ?_)
        exact txI F hS dX7_order_29 rfl (⟨u, (by omega), Wa, ⟨hWa, hmWa⟩, X0, ⟨hX0, hqX0⟩, (wkb (eqb hk_79) rfl rfl), hH⟩)
set_option maxHeartbeats 4000000 in
set_option maxRecDepth 100000 in
theorem c_X7_barter (E : Ev) (kp : TD) (as : TD) (rd : TD) (sc : TD) (ty : TD) (ik : TD) (tk : Int × Int) (xt : Int × Int) (tp : Int × Int) (sp : Int × Int) (wrb : Int × Int) (nu : Int × Int) (nab : Int × Int) (iwb : Int × Int) (u : Int) (X0 : Nat → Int32) (Wa : Nat → Int32) (Z : Nat → Int32) (a0 : Nat) (a1 : Int32) (a2 : Int32) (ha0 : eT E a0 ∈ [24]) (hu : 0 ≤ u ∧ u ≤ 10) (hX0 : okR X0) (hWa : okN 10 Wa) (hmWa : okM Z u Wa) (hqX0 : sQ Z X0) : TcI E yX7_barter cX7_barter 4 .int ({ frames := 3, cells := 0, slots := 0, locals := 86 }) [.ref a0, .int a1, .int a2] (fun H => TH E (tbM (mD (.inl tp) (.inl sp) (.inl nu) (.inl (u, u)) (.inl tk) (.inl xt) (.inl wrb) (.inl nab) (.inl iwb)) (xD 660 X0) (xD 6600 Wa) kp as rd sc ty ik) H) (fun v H => ∃ u2 : Int, (0 ≤ u2 ∧ u2 ≤ 10) ∧ ∃ Wb : Nat → Int32, (okN 10 Wb ∧ okM Z u2 Wb) ∧ ∃ X2 : Nat → Int32, (okR X2 ∧ sQ Z X2) ∧ ((-2147483648) ≤ v.toInt ∧ v.toInt ≤ 2147483647) ∧ TH E (tbM (mD (.inl tp) (.inl sp) (.inl nu) (.inl (u2, u2)) (.inl tk) (.inl xt) (.inl wrb) (.inl nab) (.inl iwb)) (xD 660 X2) (xD 6600 Wb) kp as rd sc ty ik) H) := by
  refine teI (by decide) (Nat.le_of_ble_eq_true rfl) ?_
  intro p_ ev_ s mi_ below_ meth cd_ ls F hK hN hO hH hS hl
  have hH : TH E (tbM (mD (.inl tp) (.inl sp) (.inl nu) (.inl (u, u)) (.inl tk) (.inl xt) (.inl wrb) (.inl nab) (.inl iwb)) (xD 660 X0) (xD 6600 Wa) kp as rd sc ty ik) s.heap := hH
  have hl : lv_has ls 4 [(0, .ref a0), (1, .int a1), (2, .int a2)] := hl
  have hBX0 := okB hX0.1
  have hLX0 := hX0.2
  refine lv_aload_n F.1 F.2.1 dX7_barter_0 rfl (lv_at hl 0 rfl) ?_
  refine lv_iload_n F.1 F.2.1 dX7_barter_1 rfl (lv_at hl 1 rfl) ?_
  refine tVi (b := a0) (As := [.int a1]) (rest := []) F hK hN hO (c_X7_isRight E (xD 6600 Wa) kp as rd sc ty ik (u, u) tk xt tp sp wrb nu nab iwb X0 a0 a1 ha0 ((hX0).1)) mv_X7_isRight wd_31_18 ⟨Nat.le_of_ble_eq_true rfl, Nat.le_of_ble_eq_true rfl⟩ ⟨Nat.le_of_ble_eq_true rfl, Nat.le_of_ble_eq_true rfl⟩ hH hS (tRecv hK hH (tyb ha0 (all1 rfl)) clX7) rfl hl.1 (Nat.le_of_ble_eq_true rfl) dX7_barter_2 (fun z_1 H locs hq hS => ?_)
  obtain ⟨f_2, f_3, f_4, hH⟩ := hq
  have hH : TH E (tbM (mD (.inl tp) (.inl sp) (.inl nu) (.inl (u, u)) (.inl tk) (.inl xt) (.inl wrb) (.inl nab) (.inl iwb)) (xD 660 X0) (xD 6600 Wa) kp as rd sc ty ik) H := hH
  refine z_eq (tgt := 21) F dX7_barter_5 (by decide) (fun c_5 => ?_) (fun c_5 => ?_)
  · skip
    have r_6 : 0 ≤ z_1.toInt ∧ z_1.toInt ≤ 0 := by have h9_ := f_2; omega
    refine lv_iconst (v := (-1)) F.1 F.2.1 dX7_barter_21 (by decide) ?_
    refine topK (a := (-1)) (by decide) (fun k_9 hk_9 => ?_)
    exact txI F hS dX7_barter_22 rfl (⟨u, (by omega), Wa, ⟨hWa, hmWa⟩, X0, ⟨hX0, hqX0⟩, (wkb (eqb hk_9) rfl rfl), hH⟩)
  · skip
    have r_7 : 1 ≤ z_1.toInt ∧ z_1.toInt ≤ 1 := by have h9_ := f_2; omega
    have r_8 : 0 ≤ a1.toInt ∧ a1.toInt ≤ 13 := by have h9_ := (i32b a1); omega
    refine lv_iload_n F.1 F.2.1 dX7_barter_8 rfl (lv_at hl 2 rfl) ?_
    refine lv_iconst (v := (-1)) F.1 F.2.1 dX7_barter_9 (by decide) ?_
    refine topK (a := (-1)) (by decide) (fun k_10 hk_10 => ?_)
    refine wjoin (σ := Int32) (pcj := 23) (stj := fun x9 => []) (fun x9 H locs ls => ((-1) ≤ x9.toInt ∧ x9.toInt ≤ 3) ∧ TH E (tbM (mD (.inl tp) (.inl sp) (.inl nu) (.inl (u, u)) (.inl tk) (.inl xt) (.inl wrb) (.inl nab) (.inl iwb)) (xD 660 X0) (xD 6600 Wa) kp as rd sc ty ik) H ∧ va_S (eA E s.heap.size) s.heap H locs ∧ lv_has ls 4 [(0, .ref a0), (1, .int a1), (2, .int x9)]) (fun u_11 H locs ls h_ => ?_) (fun J_23 => ?_)
    · skip
      obtain ⟨hu_11, hH, hS, hl⟩ := h_
      have hu_11 : ((-1) ≤ u_11.toInt ∧ u_11.toInt ≤ 3) := hu_11
      have hH : TH E (tbM (mD (.inl tp) (.inl sp) (.inl nu) (.inl (u, u)) (.inl tk) (.inl xt) (.inl wrb) (.inl nab) (.inl iwb)) (xD 660 X0) (xD 6600 Wa) kp as rd sc ty ik) H := hH
      have hl : lv_has ls 4 [(0, .ref a0), (1, .int a1), (2, .int u_11)] := hl
      show W _ _ _ _ _ _ _ _ _ _ _ _ _ _ _ (F0 _ _ _ [])
      refine lv_iload_n F.1 F.2.1 dX7_barter_23 rfl (lv_at hl 2 rfl) ?_
      refine lv_iconst (v := (-1)) F.1 F.2.1 dX7_barter_24 (by decide) ?_
      refine topK (a := (-1)) (by decide) (fun k_12 hk_12 => ?_)
      refine wjoin (σ := Int32 × Int32) (pcj := 34) (stj := fun x9 => [.int x9.2]) (fun x9 H locs ls => ((-1) ≤ x9.1.toInt ∧ x9.1.toInt ≤ 3) ∧ ((-2) ≤ x9.2.toInt ∧ x9.2.toInt ≤ 3) ∧ (x9.2.toInt ≠ -1) ∧ TH E (tbM (mD (.inl tp) (.inl sp) (.inl nu) (.inl (u, u)) (.inl tk) (.inl xt) (.inl wrb) (.inl nab) (.inl iwb)) (xD 660 X0) (xD 6600 Wa) kp as rd sc ty ik) H ∧ va_S (eA E s.heap.size) s.heap H locs ∧ lv_has ls 4 [(0, .ref a0), (1, .int a1), (2, .int x9.1)]) (fun x9 H locs ls h_ => ?_) (fun J_34 => ?_)
      · skip
        obtain ⟨u_13, u_14⟩ := x9
        obtain ⟨hu_13, hu_14, hcr34_0, hH, hS, hl⟩ := h_
        have hu_13 : ((-1) ≤ u_13.toInt ∧ u_13.toInt ≤ 3) := hu_13
        have hu_14 : ((-2) ≤ u_14.toInt ∧ u_14.toInt ≤ 3) := hu_14
        have hcr34_0 : (u_14.toInt ≠ -1) := hcr34_0
        have hH : TH E (tbM (mD (.inl tp) (.inl sp) (.inl nu) (.inl (u, u)) (.inl tk) (.inl xt) (.inl wrb) (.inl nab) (.inl iwb)) (xD 660 X0) (xD 6600 Wa) kp as rd sc ty ik) H := hH
        have hl : lv_has ls 4 [(0, .ref a0), (1, .int a1), (2, .int u_13)] := hl
        show W _ _ _ _ _ _ _ _ _ _ _ _ _ _ _ (F0 _ _ _ [.int u_14])
        refine lv_istore_n (lv' := [(3, .int u_14), (0, .ref a0), (1, .int a1), (2, .int u_13)]) F.1 F.2.1 dX7_barter_34 rfl hl (by decide) rfl (fun ls hl => ?_)
        refine lv_aload_n F.1 F.2.1 dX7_barter_35 rfl (lv_at hl 1 rfl) ?_
        refine lv_iload_n F.1 F.2.1 dX7_barter_36 rfl (lv_at hl 2 rfl) ?_
        refine lv_bipush (v := 11) F.1 F.2.1 dX7_barter_37 (by decide) ?_
        refine topK (a := 11) (by decide) (fun k_15 hk_15 => ?_)
        refine tVi (b := a0) (As := [.int a1, .int k_15]) (rest := []) F hK hN hO (c_X7_of_11 E (xD 6600 Wa) kp as rd sc ty ik (u, u) tk xt tp sp wrb nu nab iwb X0 a0 a1 k_15 ha0 r_8 (eqb hk_15) ((hX0).1)) mv_X7_of wd_26_20 ⟨Nat.le_of_ble_eq_true rfl, Nat.le_of_ble_eq_true rfl⟩ ⟨Nat.le_of_ble_eq_true rfl, Nat.le_of_ble_eq_true rfl⟩ hH hS (tRecv hK hH (tyb ha0 (all1 rfl)) clX7) rfl hl.1 (Nat.le_of_ble_eq_true rfl) dX7_barter_39 (fun z_16 H locs hq hS => ?_)
        obtain ⟨f_17, f_18, f_19, hH⟩ := hq
        have hH : TH E (tbM (mD (.inl tp) (.inl sp) (.inl nu) (.inl (u, u)) (.inl tk) (.inl xt) (.inl wrb) (.inl nab) (.inl iwb)) (xD 660 X0) (xD 6600 Wa) kp as rd sc ty ik) H := hH
        refine lv_iload_n F.1 F.2.1 dX7_barter_42 rfl (lv_at hl 0 rfl) ?_
        refine b_ne (tgt := 49) F dX7_barter_43 (by decide) (fun c_20 => ?_) (fun c_20 => ?_)
        · skip
          refine lv_iload_n F.1 F.2.1 dX7_barter_49 rfl (lv_at hl 3 rfl) ?_
          refine lv_iconst (v := (-1)) F.1 F.2.1 dX7_barter_50 (by decide) ?_
          refine topK (a := (-1)) (by decide) (fun k_21 hk_21 => ?_)
          refine wjoin (σ := Unit) (pcj := 76) (stj := fun x9 => []) (fun x9 H locs ls => TH E (tbM (mD (.inl tp) (.inl sp) (.inl nu) (.inl (u, u)) (.inl tk) (.inl xt) (.inl wrb) (.inl nab) (.inl iwb)) (xD 660 X0) (xD 6600 Wa) kp as rd sc ty ik) H ∧ va_S (eA E s.heap.size) s.heap H locs ∧ lv_has ls 4 [(0, .ref a0), (1, .int a1), (3, .int u_14)]) (fun x9 H locs ls h_ => ?_) (fun J_76 => ?_)
          · skip
            obtain ⟨hH, hS, hl⟩ := h_
            have hH : TH E (tbM (mD (.inl tp) (.inl sp) (.inl nu) (.inl (u, u)) (.inl tk) (.inl xt) (.inl wrb) (.inl nab) (.inl iwb)) (xD 660 X0) (xD 6600 Wa) kp as rd sc ty ik) H := hH
            have hl : lv_has ls 4 [(0, .ref a0), (1, .int a1), (3, .int u_14)] := hl
            show W _ _ _ _ _ _ _ _ _ _ _ _ _ _ _ (F0 _ _ _ [])
            refine lv_aload_n F.1 F.2.1 dX7_barter_76 rfl (lv_at hl 0 rfl) ?_
            refine tVv (b := a0) (As := []) (rest := []) F hK hN hO (c_X7_keepsAct E kp as rd sc ty ik tk xt tp sp wrb nu nab iwb u X0 Wa Z a0 ha0 (by omega) hX0 hWa hqX0 hmWa) mv_X7_keepsAct wd_25_7 ⟨Nat.le_of_ble_eq_true rfl, Nat.le_of_ble_eq_true rfl⟩ ⟨Nat.le_of_ble_eq_true rfl, Nat.le_of_ble_eq_true rfl⟩ hH hS (tRecv hK hH (tyb ha0 (all1 rfl)) clX7) rfl hl.1 (Nat.le_of_ble_eq_true rfl) dX7_barter_77 (fun H locs hq hS => ?_)
            obtain ⟨g_23, hg_23, g_24, hg_24, hH⟩ := hq
            have hH : TH E (tbM (mD (.inl tp) (.inl sp) (.inl nu) (.inl (g_23, g_23)) (.inl tk) (.inl xt) (.inl wrb) (.inl nab) (.inl iwb)) (xD 660 X0) (xD 6600 g_24) kp as rd sc ty ik) H := hH
            have hmg_24 := hg_24.2
            refine lv_aload_n F.1 F.2.1 dX7_barter_80 rfl (lv_at hl 0 rfl) ?_
            refine tGetR (j := 0) F hK hH (tyb ha0 (all1 rfl)) rfl (all1 rfl) clX7 (by decide) wd_6_5 dX7_barter_81 (fun q_25 hq_25 _ => ?_)
            refine lv_bipush (v := 78) F.1 F.2.1 dX7_barter_84 (by decide) ?_
            refine topK (a := 78) (by decide) (fun k_26 hk_26 => ?_)
            refine lv_bipush (v := 13) F.1 F.2.1 dX7_barter_86 (by decide) ?_
            refine topK (a := 13) (by decide) (fun k_27 hk_27 => ?_)
            refine lv_iload_n F.1 F.2.1 dX7_barter_88 rfl (lv_at hl 1 rfl) ?_
            refine tMul (lo := 0) (hi := 169) F dX7_barter_89 (eqb hk_27) r_8 rfl (fun z_28 hz_28 => ?_)
            have mz_28 : z_28.toInt = 13 * a1.toInt := by rw [hz_28.1, hk_27]
            refine tAdd (lo := 78) (hi := 247) F dX7_barter_90 (eqb hk_26) hz_28.2 rfl (fun z_29 hz_29 => ?_)
            refine lv_bipush (v := 11) F.1 F.2.1 dX7_barter_91 (by decide) ?_
            refine topK (a := 11) (by decide) (fun k_30 hk_30 => ?_)
            refine tAdd (lo := 89) (hi := 258) F dX7_barter_93 hz_29.2 (eqb hk_30) rfl (fun z_31 hz_31 => ?_)
            refine lv_iload_n F.1 F.2.1 dX7_barter_94 rfl (lv_at hl 2 rfl) ?_
            refine tIastX (t := 25) F hK hH hS (List.mem_singleton.mp hq_25) (by decide) rfl (ixb (n := 660) hz_31.2 rfl rfl) dX7_barter_95 (fun G_32 eG_32 H locs hH hS => ?_)
            have hH : TH E (tbM (mD (.inl tp) (.inl sp) (.inl nu) (.inl (g_23, g_23)) (.inl tk) (.inl xt) (.inl wrb) (.inl nab) (.inl iwb)) (xD 660 G_32) (xD 6600 g_24) kp as rd sc ty ik) H := hH
            have hG_32 : okR G_32 := (okR.st hX0 eG_32 (by omega) (by omega) (by omega) (phiI (by omega) (by omega) (by omega) (by omega) (by omega) (by omega) (by omega) (by omega) (by omega) (by omega) (by omega) (by omega) (by omega) (by omega) (by omega) (by omega) (by omega) (by omega)))
            have hBG_32 := okB hG_32.1
            have hLG_32 := hG_32.2
            have hqG_32 : sQ Z G_32 := sQ.st hqX0 eG_32 (by omega)
            refine lv_iconst (v := 1) F.1 F.2.1 dX7_barter_96 (by decide) ?_
            refine topK (a := 1) (by decide) (fun k_33 hk_33 => ?_)
            exact txI F hS dX7_barter_97 rfl (⟨g_23, (by omega), g_24, ⟨hg_24.1, hmg_24⟩, G_32, ⟨hG_32, hqG_32⟩, (wkb (eqb hk_33) rfl rfl), hH⟩)
          refine b_eq (tgt := 76) F dX7_barter_51 (by decide) (fun c_34 => ?_) (fun c_34 => ?_)
          · skip
            have r_35 : (-1) ≤ u_13.toInt ∧ u_13.toInt ≤ (-1) := by have h9_ := hu_13; omega
            exact J_76 () _ _ _ ⟨hH, hS, lv_sub hl [1, 2, 0] rfl⟩
          · skip
            have r_36 : 0 ≤ u_13.toInt ∧ u_13.toInt ≤ 3 := by have h9_ := hu_13; omega
            refine lv_aload_n F.1 F.2.1 dX7_barter_54 rfl (lv_at hl 1 rfl) ?_
            refine lv_aload_n F.1 F.2.1 dX7_barter_55 rfl (lv_at hl 1 rfl) ?_
            refine lv_iload_n F.1 F.2.1 dX7_barter_56 rfl (lv_at hl 2 rfl) ?_
            refine lv_iconst (v := 0) F.1 F.2.1 dX7_barter_57 (by decide) ?_
            refine topK (a := 0) (by decide) (fun k_37 hk_37 => ?_)
            refine tVi (b := a0) (As := [.int a1, .int k_37]) (rest := [.ref a0]) F hK hN hO (c_X7_of_0 E (xD 6600 Wa) kp as rd sc ty ik (u, u) tk xt tp sp wrb nu nab iwb X0 a0 a1 k_37 ha0 r_8 (eqb hk_37) ((hX0).1)) mv_X7_of wd_26_20 ⟨Nat.le_of_ble_eq_true rfl, Nat.le_of_ble_eq_true rfl⟩ ⟨Nat.le_of_ble_eq_true rfl, Nat.le_of_ble_eq_true rfl⟩ hH hS (tRecv hK hH (tyb ha0 (all1 rfl)) clX7) rfl hl.1 (Nat.le_of_ble_eq_true rfl) dX7_barter_58 (fun z_38 H locs hq hS => ?_)
            obtain ⟨f_39, f_40, hH⟩ := hq
            have hH : TH E (tbM (mD (.inl tp) (.inl sp) (.inl nu) (.inl (u, u)) (.inl tk) (.inl xt) (.inl wrb) (.inl nab) (.inl iwb)) (xD 660 X0) (xD 6600 Wa) kp as rd sc ty ik) H := hH
            refine lv_aload_n F.1 F.2.1 dX7_barter_61 rfl (lv_at hl 1 rfl) ?_
            refine lv_iload_n F.1 F.2.1 dX7_barter_62 rfl (lv_at hl 3 rfl) ?_
            refine lv_iconst (v := 0) F.1 F.2.1 dX7_barter_63 (by decide) ?_
            refine topK (a := 0) (by decide) (fun k_41 hk_41 => ?_)
            refine tVi (b := a0) (As := [.int u_13, .int k_41]) (rest := [.int z_38, .ref a0]) F hK hN hO (c_X7_ofStore_0 E (xD 6600 Wa) kp as rd sc ty ik (u, u) tk xt tp sp wrb nu nab iwb X0 a0 u_13 k_41 ha0 r_36 (eqb hk_41) ((hX0).1)) mv_X7_ofStore wd_27_0 ⟨Nat.le_of_ble_eq_true rfl, Nat.le_of_ble_eq_true rfl⟩ ⟨Nat.le_of_ble_eq_true rfl, Nat.le_of_ble_eq_true rfl⟩ hH hS (tRecv hK hH (tyb ha0 (all1 rfl)) clX7) rfl hl.1 (Nat.le_of_ble_eq_true rfl) dX7_barter_64 (fun z_42 H locs hq hS => ?_)
            obtain ⟨f_43, f_44, hH⟩ := hq
            have hH : TH E (tbM (mD (.inl tp) (.inl sp) (.inl nu) (.inl (u, u)) (.inl tk) (.inl xt) (.inl wrb) (.inl nab) (.inl iwb)) (xD 660 X0) (xD 6600 Wa) kp as rd sc ty ik) H := hH
            refine tVi (b := a0) (As := [.int z_38, .int z_42]) (rest := []) F hK hN hO (c_X7_runsTo E (xD 6600 Wa) kp as rd sc ty ik (u, u) tk xt tp sp wrb nu nab iwb X0 a0 z_38 z_42 ha0 f_39 hX0 (by omega)) mv_X7_runsTo wd_29_6 ⟨Nat.le_of_ble_eq_true rfl, Nat.le_of_ble_eq_true rfl⟩ ⟨Nat.le_of_ble_eq_true rfl, Nat.le_of_ble_eq_true rfl⟩ hH hS (tRecv hK hH (tyb ha0 (all1 rfl)) clX7) rfl hl.1 (Nat.le_of_ble_eq_true rfl) dX7_barter_67 (fun z_45 H locs hq hS => ?_)
            obtain ⟨f_46, hH⟩ := hq
            have hH : TH E (tbM (mD (.inl tp) (.inl sp) (.inl nu) (.inl (u, u)) (.inl tk) (.inl xt) (.inl wrb) (.inl nab) (.inl iwb)) (xD 660 X0) (xD 6600 Wa) kp as rd sc ty ik) H := hH
            refine z_ne (tgt := 76) F dX7_barter_70 (by decide) (fun c_47 => ?_) (fun c_47 => ?_)
            · skip
              have r_48 : 1 ≤ z_45.toInt ∧ z_45.toInt ≤ 1 := by have h9_ := f_46; omega
              exact J_76 () _ _ _ ⟨hH, hS, lv_sub hl [1, 2, 0] rfl⟩
            · skip
              have r_49 : 0 ≤ z_45.toInt ∧ z_45.toInt ≤ 0 := by have h9_ := f_46; omega
              refine lv_bipush (v := (-3)) F.1 F.2.1 dX7_barter_73 (by decide) ?_
              refine topK (a := (-3)) (by decide) (fun k_50 hk_50 => ?_)
              exact txI F hS dX7_barter_75 rfl (⟨u, (by omega), Wa, ⟨hWa, hmWa⟩, X0, ⟨hX0, hqX0⟩, (wkb (eqb hk_50) rfl rfl), hH⟩)
        · skip
          refine lv_bipush (v := (-2)) F.1 F.2.1 dX7_barter_46 (by decide) ?_
          refine topK (a := (-2)) (by decide) (fun k_51 hk_51 => ?_)
          exact txI F hS dX7_barter_48 rfl (⟨u, (by omega), Wa, ⟨hWa, hmWa⟩, X0, ⟨hX0, hqX0⟩, (wkb (eqb hk_51) rfl rfl), hH⟩)
      refine b_ne (tgt := 33) F dX7_barter_25 (by decide) (fun c_52 => ?_) (fun c_52 => ?_)
      · skip
        have r_53 : 0 ≤ u_11.toInt ∧ u_11.toInt ≤ 3 := by have h9_ := hu_11; omega
        refine lv_iload_n F.1 F.2.1 dX7_barter_33 rfl (lv_at hl 2 rfl) ?_
        exact J_34 (u_11, u_11) _ _ _ ⟨(wkb r_53 rfl rfl), (wkb r_53 rfl rfl), (show u_11.toInt ≠ -1 from by omega), hH, hS, lv_sub hl [0, 1, 2] rfl⟩
      · skip
        have r_54 : (-1) ≤ u_11.toInt ∧ u_11.toInt ≤ (-1) := by have h9_ := hu_11; omega
        refine lv_bipush (v := (-2)) F.1 F.2.1 dX7_barter_28 (by decide) ?_
        refine topK (a := (-2)) (by decide) (fun k_55 hk_55 => ?_)
        refine lv_goto (tgt := 34) F.1 F.2.1 dX7_barter_30 (by decide) ?_
        exact J_34 (u_11, k_55) _ _ _ ⟨(wkb r_54 rfl rfl), (wkb (eqb hk_55) rfl rfl), (show k_55.toInt ≠ -1 from by omega), hH, hS, lv_sub hl [0, 1, 2] rfl⟩
    refine b_eq (tgt := 23) F dX7_barter_10 (by decide) (fun c_56 => ?_) (fun c_56 => ?_)
    · skip
      have r_57 : (-1) ≤ a2.toInt ∧ a2.toInt ≤ (-1) := by have h9_ := (i32b a2); omega
      exact J_23 (a2) _ _ _ ⟨(wkb r_57 rfl rfl), hH, hS, lv_sub hl [0, 1, 2] rfl⟩
    · skip
      refine lv_aload_n F.1 F.2.1 dX7_barter_13 rfl (lv_at hl 0 rfl) ?_
      refine lv_iload_n F.1 F.2.1 dX7_barter_14 rfl (lv_at hl 2 rfl) ?_
      refine tVi (b := a0) (As := [.int a2]) (rest := []) F hK hN hO (c_X7_isStore E (xD 6600 Wa) kp as rd sc ty ik (u, u) tk xt tp sp wrb nu nab iwb X0 a0 a2 ha0 ((hX0).1)) mv_X7_isStore wd_32_17 ⟨Nat.le_of_ble_eq_true rfl, Nat.le_of_ble_eq_true rfl⟩ ⟨Nat.le_of_ble_eq_true rfl, Nat.le_of_ble_eq_true rfl⟩ hH hS (tRecv hK hH (tyb ha0 (all1 rfl)) clX7) rfl hl.1 (Nat.le_of_ble_eq_true rfl) dX7_barter_15 (fun z_58 H locs hq hS => ?_)
      obtain ⟨f_59, f_60, f_61, hH⟩ := hq
      have hH : TH E (tbM (mD (.inl tp) (.inl sp) (.inl nu) (.inl (u, u)) (.inl tk) (.inl xt) (.inl wrb) (.inl nab) (.inl iwb)) (xD 660 X0) (xD 6600 Wa) kp as rd sc ty ik) H := hH
      refine z_ne (tgt := 23) F dX7_barter_18 (by decide) (fun c_62 => ?_) (fun c_62 => ?_)
      · skip
        have r_63 : 1 ≤ z_58.toInt ∧ z_58.toInt ≤ 1 := by have h9_ := f_59; omega
        have r_64 : 0 ≤ a2.toInt ∧ a2.toInt ≤ 3 := by have h9_ := (i32b a2); omega
        exact J_23 (a2) _ _ _ ⟨(wkb r_64 rfl rfl), hH, hS, lv_sub hl [0, 1, 2] rfl⟩
      · skip
        have r_65 : 0 ≤ z_58.toInt ∧ z_58.toInt ≤ 0 := by have h9_ := f_59; omega
        refine lv_iconst (v := (-1)) F.1 F.2.1 dX7_barter_21 (by decide) ?_
        refine topK (a := (-1)) (by decide) (fun k_66 hk_66 => ?_)
        exact txI F hS dX7_barter_22 rfl (⟨u, (by omega), Wa, ⟨hWa, hmWa⟩, X0, ⟨hX0, hqX0⟩, (wkb (eqb hk_66) rfl rfl), hH⟩)
set_option maxHeartbeats 4000000 in
set_option maxRecDepth 100000 in
theorem c_X7_trade (E : Ev) (kp : TD) (as : TD) (rd : TD) (sc : TD) (ty : TD) (ik : TD) (tk : Int × Int) (xt : Int × Int) (tp : Int × Int) (sp : Int × Int) (wrb : Int × Int) (nu : Int × Int) (nab : Int × Int) (iwb : Int × Int) (u : Int) (X0 : Nat → Int32) (Wa : Nat → Int32) (Z : Nat → Int32) (a0 : Nat) (a1 : Int32) (a2 : Int32) (ha0 : eT E a0 ∈ [24]) (hu : 0 ≤ u ∧ u ≤ 10) (hX0 : okR X0) (hWa : okN 10 Wa) (hmWa : okM Z u Wa) (hqX0 : sQ Z X0) : TcI E yX7_trade cX7_trade 4 .int ({ frames := 3, cells := 0, slots := 0, locals := 86 }) [.ref a0, .int a1, .int a2] (fun H => TH E (tbM (mD (.inl tp) (.inl sp) (.inl nu) (.inl (u, u)) (.inl tk) (.inl xt) (.inl wrb) (.inl nab) (.inl iwb)) (xD 660 X0) (xD 6600 Wa) kp as rd sc ty ik) H) (fun v H => ∃ u2 : Int, (0 ≤ u2 ∧ u2 ≤ 10) ∧ ∃ Wb : Nat → Int32, (okN 10 Wb ∧ okM Z u2 Wb) ∧ ∃ X2 : Nat → Int32, (okR X2 ∧ sQ Z X2) ∧ ((-2147483648) ≤ v.toInt ∧ v.toInt ≤ 2147483647) ∧ TH E (tbM (mD (.inl tp) (.inl sp) (.inl nu) (.inl (u2, u2)) (.inl tk) (.inl xt) (.inl wrb) (.inl nab) (.inl iwb)) (xD 660 X2) (xD 6600 Wb) kp as rd sc ty ik) H) := by
  refine teI (by decide) (Nat.le_of_ble_eq_true rfl) ?_
  intro p_ ev_ s mi_ below_ meth cd_ ls F hK hN hO hH hS hl
  have hH : TH E (tbM (mD (.inl tp) (.inl sp) (.inl nu) (.inl (u, u)) (.inl tk) (.inl xt) (.inl wrb) (.inl nab) (.inl iwb)) (xD 660 X0) (xD 6600 Wa) kp as rd sc ty ik) s.heap := hH
  have hl : lv_has ls 4 [(0, .ref a0), (1, .int a1), (2, .int a2)] := hl
  have hBX0 := okB hX0.1
  have hLX0 := hX0.2
  refine lv_aload_n F.1 F.2.1 dX7_trade_0 rfl (lv_at hl 0 rfl) ?_
  refine lv_iload_n F.1 F.2.1 dX7_trade_1 rfl (lv_at hl 1 rfl) ?_
  refine tVi (b := a0) (As := [.int a1]) (rest := []) F hK hN hO (c_X7_isRight E (xD 6600 Wa) kp as rd sc ty ik (u, u) tk xt tp sp wrb nu nab iwb X0 a0 a1 ha0 ((hX0).1)) mv_X7_isRight wd_31_18 ⟨Nat.le_of_ble_eq_true rfl, Nat.le_of_ble_eq_true rfl⟩ ⟨Nat.le_of_ble_eq_true rfl, Nat.le_of_ble_eq_true rfl⟩ hH hS (tRecv hK hH (tyb ha0 (all1 rfl)) clX7) rfl hl.1 (Nat.le_of_ble_eq_true rfl) dX7_trade_2 (fun z_1 H locs hq hS => ?_)
  obtain ⟨f_2, f_3, f_4, hH⟩ := hq
  have hH : TH E (tbM (mD (.inl tp) (.inl sp) (.inl nu) (.inl (u, u)) (.inl tk) (.inl xt) (.inl wrb) (.inl nab) (.inl iwb)) (xD 660 X0) (xD 6600 Wa) kp as rd sc ty ik) H := hH
  refine z_eq (tgt := 21) F dX7_trade_5 (by decide) (fun c_5 => ?_) (fun c_5 => ?_)
  · skip
    have r_6 : 0 ≤ z_1.toInt ∧ z_1.toInt ≤ 0 := by have h9_ := f_2; omega
    refine lv_iconst (v := (-1)) F.1 F.2.1 dX7_trade_21 (by decide) ?_
    refine topK (a := (-1)) (by decide) (fun k_9 hk_9 => ?_)
    exact txI F hS dX7_trade_22 rfl (⟨u, (by omega), Wa, ⟨hWa, hmWa⟩, X0, ⟨hX0, hqX0⟩, (wkb (eqb hk_9) rfl rfl), hH⟩)
  · skip
    have r_7 : 1 ≤ z_1.toInt ∧ z_1.toInt ≤ 1 := by have h9_ := f_2; omega
    have r_8 : 0 ≤ a1.toInt ∧ a1.toInt ≤ 13 := by have h9_ := (i32b a1); omega
    refine lv_aload_n F.1 F.2.1 dX7_trade_8 rfl (lv_at hl 0 rfl) ?_
    refine lv_iload_n F.1 F.2.1 dX7_trade_9 rfl (lv_at hl 2 rfl) ?_
    refine tVi (b := a0) (As := [.int a2]) (rest := []) F hK hN hO (c_X7_isRight E (xD 6600 Wa) kp as rd sc ty ik (u, u) tk xt tp sp wrb nu nab iwb X0 a0 a2 ha0 ((hX0).1)) mv_X7_isRight wd_31_18 ⟨Nat.le_of_ble_eq_true rfl, Nat.le_of_ble_eq_true rfl⟩ ⟨Nat.le_of_ble_eq_true rfl, Nat.le_of_ble_eq_true rfl⟩ hH hS (tRecv hK hH (tyb ha0 (all1 rfl)) clX7) rfl hl.1 (Nat.le_of_ble_eq_true rfl) dX7_trade_10 (fun z_10 H locs hq hS => ?_)
    obtain ⟨f_11, f_12, f_13, hH⟩ := hq
    have hH : TH E (tbM (mD (.inl tp) (.inl sp) (.inl nu) (.inl (u, u)) (.inl tk) (.inl xt) (.inl wrb) (.inl nab) (.inl iwb)) (xD 660 X0) (xD 6600 Wa) kp as rd sc ty ik) H := hH
    refine z_eq (tgt := 21) F dX7_trade_13 (by decide) (fun c_14 => ?_) (fun c_14 => ?_)
    · skip
      have r_15 : 0 ≤ z_10.toInt ∧ z_10.toInt ≤ 0 := by have h9_ := f_11; omega
      refine lv_iconst (v := (-1)) F.1 F.2.1 dX7_trade_21 (by decide) ?_
      refine topK (a := (-1)) (by decide) (fun k_18 hk_18 => ?_)
      exact txI F hS dX7_trade_22 rfl (⟨u, (by omega), Wa, ⟨hWa, hmWa⟩, X0, ⟨hX0, hqX0⟩, (wkb (eqb hk_18) rfl rfl), hH⟩)
    · skip
      have r_16 : 1 ≤ z_10.toInt ∧ z_10.toInt ≤ 1 := by have h9_ := f_11; omega
      have r_17 : 0 ≤ a2.toInt ∧ a2.toInt ≤ 13 := by have h9_ := (i32b a2); omega
      refine lv_iload_n F.1 F.2.1 dX7_trade_16 rfl (lv_at hl 1 rfl) ?_
      refine lv_iload_n F.1 F.2.1 dX7_trade_17 rfl (lv_at hl 2 rfl) ?_
      refine b_ne (tgt := 23) F dX7_trade_18 (by decide) (fun c_19 => ?_) (fun c_19 => ?_)
      · skip
        refine lv_aload_n F.1 F.2.1 dX7_trade_23 rfl (lv_at hl 0 rfl) ?_
        refine tVv (b := a0) (As := []) (rest := []) F hK hN hO (c_X7_keepsAct E kp as rd sc ty ik tk xt tp sp wrb nu nab iwb u X0 Wa Z a0 ha0 (by omega) hX0 hWa hqX0 hmWa) mv_X7_keepsAct wd_25_7 ⟨Nat.le_of_ble_eq_true rfl, Nat.le_of_ble_eq_true rfl⟩ ⟨Nat.le_of_ble_eq_true rfl, Nat.le_of_ble_eq_true rfl⟩ hH hS (tRecv hK hH (tyb ha0 (all1 rfl)) clX7) rfl hl.1 (Nat.le_of_ble_eq_true rfl) dX7_trade_24 (fun H locs hq hS => ?_)
        obtain ⟨g_21, hg_21, g_22, hg_22, hH⟩ := hq
        have hH : TH E (tbM (mD (.inl tp) (.inl sp) (.inl nu) (.inl (g_21, g_21)) (.inl tk) (.inl xt) (.inl wrb) (.inl nab) (.inl iwb)) (xD 660 X0) (xD 6600 g_22) kp as rd sc ty ik) H := hH
        have hmg_22 := hg_22.2
        refine lv_aload_n F.1 F.2.1 dX7_trade_27 rfl (lv_at hl 0 rfl) ?_
        refine lv_iload_n F.1 F.2.1 dX7_trade_28 rfl (lv_at hl 1 rfl) ?_
        refine lv_iconst (v := 4) F.1 F.2.1 dX7_trade_29 (by decide) ?_
        refine topK (a := 4) (by decide) (fun k_23 hk_23 => ?_)
        refine tVi (b := a0) (As := [.int a1, .int k_23]) (rest := []) F hK hN hO (c_X7_of_4 E (xD 6600 g_22) kp as rd sc ty ik (g_21, g_21) tk xt tp sp wrb nu nab iwb X0 a0 a1 k_23 ha0 r_8 (eqb hk_23) ((hX0).1)) mv_X7_of wd_26_20 ⟨Nat.le_of_ble_eq_true rfl, Nat.le_of_ble_eq_true rfl⟩ ⟨Nat.le_of_ble_eq_true rfl, Nat.le_of_ble_eq_true rfl⟩ hH hS (tRecv hK hH (tyb ha0 (all1 rfl)) clX7) rfl hl.1 (Nat.le_of_ble_eq_true rfl) dX7_trade_30 (fun z_24 H locs hq hS => ?_)
        obtain ⟨f_25, f_26, hH⟩ := hq
        have hH : TH E (tbM (mD (.inl tp) (.inl sp) (.inl nu) (.inl (g_21, g_21)) (.inl tk) (.inl xt) (.inl wrb) (.inl nab) (.inl iwb)) (xD 660 X0) (xD 6600 g_22) kp as rd sc ty ik) H := hH
        refine lv_istore_n (lv' := [(3, .int z_24), (0, .ref a0), (1, .int a1), (2, .int a2)]) F.1 F.2.1 dX7_trade_33 rfl hl (by decide) rfl (fun ls hl => ?_)
        refine lv_aload_n F.1 F.2.1 dX7_trade_34 rfl (lv_at hl 1 rfl) ?_
        refine tGetR (j := 0) F hK hH (tyb ha0 (all1 rfl)) rfl (all1 rfl) clX7 (by decide) wd_6_5 dX7_trade_35 (fun q_27 hq_27 _ => ?_)
        refine lv_bipush (v := 78) F.1 F.2.1 dX7_trade_38 (by decide) ?_
        refine topK (a := 78) (by decide) (fun k_28 hk_28 => ?_)
        refine lv_bipush (v := 13) F.1 F.2.1 dX7_trade_40 (by decide) ?_
        refine topK (a := 13) (by decide) (fun k_29 hk_29 => ?_)
        refine lv_iload_n F.1 F.2.1 dX7_trade_42 rfl (lv_at hl 2 rfl) ?_
        refine tMul (lo := 0) (hi := 169) F dX7_trade_43 (eqb hk_29) r_8 rfl (fun z_30 hz_30 => ?_)
        have mz_30 : z_30.toInt = 13 * a1.toInt := by rw [hz_30.1, hk_29]
        refine tAdd (lo := 78) (hi := 247) F dX7_trade_44 (eqb hk_28) hz_30.2 rfl (fun z_31 hz_31 => ?_)
        refine lv_iconst (v := 4) F.1 F.2.1 dX7_trade_45 (by decide) ?_
        refine topK (a := 4) (by decide) (fun k_32 hk_32 => ?_)
        refine tAdd (lo := 82) (hi := 251) F dX7_trade_46 hz_31.2 (eqb hk_32) rfl (fun z_33 hz_33 => ?_)
        refine lv_aload_n F.1 F.2.1 dX7_trade_47 rfl (lv_at hl 1 rfl) ?_
        refine lv_iload_n F.1 F.2.1 dX7_trade_48 rfl (lv_at hl 3 rfl) ?_
        refine lv_iconst (v := 4) F.1 F.2.1 dX7_trade_49 (by decide) ?_
        refine topK (a := 4) (by decide) (fun k_34 hk_34 => ?_)
        refine tVi (b := a0) (As := [.int a2, .int k_34]) (rest := [.int z_33, .ref q_27]) F hK hN hO (c_X7_of_4 E (xD 6600 g_22) kp as rd sc ty ik (g_21, g_21) tk xt tp sp wrb nu nab iwb X0 a0 a2 k_34 ha0 r_17 (eqb hk_34) ((hX0).1)) mv_X7_of wd_26_20 ⟨Nat.le_of_ble_eq_true rfl, Nat.le_of_ble_eq_true rfl⟩ ⟨Nat.le_of_ble_eq_true rfl, Nat.le_of_ble_eq_true rfl⟩ hH hS (tRecv hK hH (tyb ha0 (all1 rfl)) clX7) rfl hl.1 (Nat.le_of_ble_eq_true rfl) dX7_trade_50 (fun z_35 H locs hq hS => ?_)
        obtain ⟨f_36, f_37, hH⟩ := hq
        have hH : TH E (tbM (mD (.inl tp) (.inl sp) (.inl nu) (.inl (g_21, g_21)) (.inl tk) (.inl xt) (.inl wrb) (.inl nab) (.inl iwb)) (xD 660 X0) (xD 6600 g_22) kp as rd sc ty ik) H := hH
        refine tIastX (t := 25) F hK hH hS (List.mem_singleton.mp hq_27) (by decide) rfl (ixb (n := 660) hz_33.2 rfl rfl) dX7_trade_53 (fun G_38 eG_38 H locs hH hS => ?_)
        have hH : TH E (tbM (mD (.inl tp) (.inl sp) (.inl nu) (.inl (g_21, g_21)) (.inl tk) (.inl xt) (.inl wrb) (.inl nab) (.inl iwb)) (xD 660 G_38) (xD 6600 g_22) kp as rd sc ty ik) H := hH
        have hG_38 : okR G_38 := (okR.st hX0 eG_38 (by omega) (by omega) (by omega) (phiI (by omega) (by omega) (by omega) (by omega) (by omega) (by omega) (by omega) (by omega) (by omega) (by omega) (by omega) (by omega) (by omega) (by omega) (by omega) (by omega) (by omega) (by omega)))
        have hBG_38 := okB hG_38.1
        have hLG_38 := hG_38.2
        have hqG_38 : sQ Z G_38 := sQ.st hqX0 eG_38 (by omega)
        refine lv_aload_n F.1 F.2.1 dX7_trade_54 rfl (lv_at hl 1 rfl) ?_
        refine tGetR (j := 0) F hK hH (tyb ha0 (all1 rfl)) rfl (all1 rfl) clX7 (by decide) wd_6_5 dX7_trade_55 (fun q_39 hq_39 _ => ?_)
        refine lv_bipush (v := 78) F.1 F.2.1 dX7_trade_58 (by decide) ?_
        refine topK (a := 78) (by decide) (fun k_40 hk_40 => ?_)
        refine lv_bipush (v := 13) F.1 F.2.1 dX7_trade_60 (by decide) ?_
        refine topK (a := 13) (by decide) (fun k_41 hk_41 => ?_)
        refine lv_iload_n F.1 F.2.1 dX7_trade_62 rfl (lv_at hl 3 rfl) ?_
        refine tMul (lo := 0) (hi := 169) F dX7_trade_63 (eqb hk_41) r_17 rfl (fun z_42 hz_42 => ?_)
        have mz_42 : z_42.toInt = 13 * a2.toInt := by rw [hz_42.1, hk_41]
        refine tAdd (lo := 78) (hi := 247) F dX7_trade_64 (eqb hk_40) hz_42.2 rfl (fun z_43 hz_43 => ?_)
        refine lv_iconst (v := 4) F.1 F.2.1 dX7_trade_65 (by decide) ?_
        refine topK (a := 4) (by decide) (fun k_44 hk_44 => ?_)
        refine tAdd (lo := 82) (hi := 251) F dX7_trade_66 hz_43.2 (eqb hk_44) rfl (fun z_45 hz_45 => ?_)
        refine lv_iload_n F.1 F.2.1 dX7_trade_67 rfl (lv_at hl 0 rfl) ?_
        refine tIastX (t := 25) F hK hH hS (List.mem_singleton.mp hq_39) (by decide) rfl (ixb (n := 660) hz_45.2 rfl rfl) dX7_trade_68 (fun G_46 eG_46 H locs hH hS => ?_)
        have hH : TH E (tbM (mD (.inl tp) (.inl sp) (.inl nu) (.inl (g_21, g_21)) (.inl tk) (.inl xt) (.inl wrb) (.inl nab) (.inl iwb)) (xD 660 G_46) (xD 6600 g_22) kp as rd sc ty ik) H := hH
        have hG_46 : okR G_46 := (okR.st hG_38 eG_46 (by omega) (by omega) (by omega) (phiI (by omega) (by omega) (by omega) (by omega) (by omega) (by omega) (by omega) (by omega) (by omega) (by omega) (by omega) (by omega) (by omega) (by omega) (by omega) (by omega) (by omega) (by omega)))
        have hBG_46 := okB hG_46.1
        have hLG_46 := hG_46.2
        have hqG_46 : sQ Z G_46 := sQ.st hqG_38 eG_46 (by omega)
        refine lv_iconst (v := 1) F.1 F.2.1 dX7_trade_69 (by decide) ?_
        refine topK (a := 1) (by decide) (fun k_47 hk_47 => ?_)
        exact txI F hS dX7_trade_70 rfl (⟨g_21, (by omega), g_22, ⟨hg_22.1, hmg_22⟩, G_46, ⟨hG_46, hqG_46⟩, (wkb (eqb hk_47) rfl rfl), hH⟩)
      · skip
        refine lv_iconst (v := (-1)) F.1 F.2.1 dX7_trade_21 (by decide) ?_
        refine topK (a := (-1)) (by decide) (fun k_48 hk_48 => ?_)
        exact txI F hS dX7_trade_22 rfl (⟨u, (by omega), Wa, ⟨hWa, hmWa⟩, X0, ⟨hX0, hqX0⟩, (wkb (eqb hk_48) rfl rfl), hH⟩)
set_option maxHeartbeats 4000000 in
set_option maxRecDepth 100000 in
theorem c_X7_trade_x (E : Ev) (kp : TD) (as : TD) (rd : TD) (sc : TD) (ty : TD) (ik : TD) (tk : Int × Int) (xt : Int × Int) (tp : Int × Int) (sp : Int × Int) (wrb : Int × Int) (nu : Int × Int) (nab : Int × Int) (iwb : Int × Int) (u : Int) (X0 : Nat → Int32) (Wa : Nat → Int32) (Z : Nat → Int32) (a0 : Nat) (a1 : Int32) (a2 : Int32) (ha0 : eT E a0 ∈ [24]) (hu : 0 ≤ u ∧ u ≤ 10) (hX0 : okR X0) (hWa : okN 10 Wa) (hmWa : okM Z u Wa) (hqX0 : sQ Z X0) : TcI E yX7_trade cX7_trade 4 .int ({ frames := 3, cells := 0, slots := 0, locals := 86 }) [.ref a0, .int a1, .int a2] (fun H => TH E (tbM (mD (.inl tp) (.inl sp) (.inl nu) (.inl (u, u)) (.inl tk) (.inl xt) (.inl wrb) (.inl nab) (.inl iwb)) (xD 660 X0) (xD 6600 Wa) kp as rd sc ty ik) H) (fun v H => ∃ u2 : Int, (0 ≤ u2 ∧ u2 ≤ 10) ∧ ∃ Wb : Nat → Int32, (okN 10 Wb ∧ okM Z u2 Wb) ∧ ∃ X2 : Nat → Int32, (okR X2 ∧ sQ Z X2) ∧ ((-2147483648) ≤ v.toInt ∧ v.toInt ≤ 2147483647) ∧ (v.toInt = trA (gI X0 1) a1.toInt a2.toInt) ∧ TH E (tbM (mD (.inl tp) (.inl sp) (.inl nu) (.inl (u2, u2)) (.inl tk) (.inl xt) (.inl wrb) (.inl nab) (.inl iwb)) (xD 660 X2) (xD 6600 Wb) kp as rd sc ty ik) H) := by
  refine teI (by decide) (Nat.le_of_ble_eq_true rfl) ?_
  intro p_ ev_ s mi_ below_ meth cd_ ls F hK hN hO hH hS hl
  have hH : TH E (tbM (mD (.inl tp) (.inl sp) (.inl nu) (.inl (u, u)) (.inl tk) (.inl xt) (.inl wrb) (.inl nab) (.inl iwb)) (xD 660 X0) (xD 6600 Wa) kp as rd sc ty ik) s.heap := hH
  have hl : lv_has ls 4 [(0, .ref a0), (1, .int a1), (2, .int a2)] := hl
  have hBX0 := okB hX0.1
  have hLX0 := hX0.2
  refine lv_aload_n F.1 F.2.1 dX7_trade_0 rfl (lv_at hl 0 rfl) ?_
  refine lv_iload_n F.1 F.2.1 dX7_trade_1 rfl (lv_at hl 1 rfl) ?_
  refine tVi (b := a0) (As := [.int a1]) (rest := []) F hK hN hO (c_X7_isRight_x E (xD 6600 Wa) kp as rd sc ty ik (u, u) tk xt tp sp wrb nu nab iwb X0 a0 a1 ha0 ((hX0).1)) mv_X7_isRight wd_31_18 ⟨Nat.le_of_ble_eq_true rfl, Nat.le_of_ble_eq_true rfl⟩ ⟨Nat.le_of_ble_eq_true rfl, Nat.le_of_ble_eq_true rfl⟩ hH hS (tRecv hK hH (tyb ha0 (all1 rfl)) clX7) rfl hl.1 (Nat.le_of_ble_eq_true rfl) dX7_trade_2 (fun z_1 H locs hq hS => ?_)
  obtain ⟨f_2, f_3, f_4, hH⟩ := hq
  have hH : TH E (tbM (mD (.inl tp) (.inl sp) (.inl nu) (.inl (u, u)) (.inl tk) (.inl xt) (.inl wrb) (.inl nab) (.inl iwb)) (xD 660 X0) (xD 6600 Wa) kp as rd sc ty ik) H := hH
  refine z_eq (tgt := 21) F dX7_trade_5 (by decide) (fun c_5 => ?_) (fun c_5 => ?_)
  · skip
    have r_6 : 0 ≤ z_1.toInt ∧ z_1.toInt ≤ 0 := by have h9_ := f_2; omega
    refine lv_iconst (v := (-1)) F.1 F.2.1 dX7_trade_21 (by decide) ?_
    refine topK (a := (-1)) (by decide) (fun k_9 hk_9 => ?_)
    exact txI F hS dX7_trade_22 rfl (⟨u, (by omega), Wa, ⟨hWa, hmWa⟩, X0, ⟨hX0, hqX0⟩, (wkb (eqb hk_9) rfl rfl), (trA_n (by omega) (by omega)), hH⟩)
  · skip
    have r_7 : 1 ≤ z_1.toInt ∧ z_1.toInt ≤ 1 := by have h9_ := f_2; omega
    have r_8 : 0 ≤ a1.toInt ∧ a1.toInt ≤ 13 := by have h9_ := (i32b a1); omega
    refine lv_aload_n F.1 F.2.1 dX7_trade_8 rfl (lv_at hl 0 rfl) ?_
    refine lv_iload_n F.1 F.2.1 dX7_trade_9 rfl (lv_at hl 2 rfl) ?_
    refine tVi (b := a0) (As := [.int a2]) (rest := []) F hK hN hO (c_X7_isRight_x E (xD 6600 Wa) kp as rd sc ty ik (u, u) tk xt tp sp wrb nu nab iwb X0 a0 a2 ha0 ((hX0).1)) mv_X7_isRight wd_31_18 ⟨Nat.le_of_ble_eq_true rfl, Nat.le_of_ble_eq_true rfl⟩ ⟨Nat.le_of_ble_eq_true rfl, Nat.le_of_ble_eq_true rfl⟩ hH hS (tRecv hK hH (tyb ha0 (all1 rfl)) clX7) rfl hl.1 (Nat.le_of_ble_eq_true rfl) dX7_trade_10 (fun z_10 H locs hq hS => ?_)
    obtain ⟨f_11, f_12, f_13, hH⟩ := hq
    have hH : TH E (tbM (mD (.inl tp) (.inl sp) (.inl nu) (.inl (u, u)) (.inl tk) (.inl xt) (.inl wrb) (.inl nab) (.inl iwb)) (xD 660 X0) (xD 6600 Wa) kp as rd sc ty ik) H := hH
    refine z_eq (tgt := 21) F dX7_trade_13 (by decide) (fun c_14 => ?_) (fun c_14 => ?_)
    · skip
      have r_15 : 0 ≤ z_10.toInt ∧ z_10.toInt ≤ 0 := by have h9_ := f_11; omega
      refine lv_iconst (v := (-1)) F.1 F.2.1 dX7_trade_21 (by decide) ?_
      refine topK (a := (-1)) (by decide) (fun k_18 hk_18 => ?_)
      exact txI F hS dX7_trade_22 rfl (⟨u, (by omega), Wa, ⟨hWa, hmWa⟩, X0, ⟨hX0, hqX0⟩, (wkb (eqb hk_18) rfl rfl), (trA_n (by omega) (by omega)), hH⟩)
    · skip
      have r_16 : 1 ≤ z_10.toInt ∧ z_10.toInt ≤ 1 := by have h9_ := f_11; omega
      have r_17 : 0 ≤ a2.toInt ∧ a2.toInt ≤ 13 := by have h9_ := (i32b a2); omega
      refine lv_iload_n F.1 F.2.1 dX7_trade_16 rfl (lv_at hl 1 rfl) ?_
      refine lv_iload_n F.1 F.2.1 dX7_trade_17 rfl (lv_at hl 2 rfl) ?_
      refine b_ne (tgt := 23) F dX7_trade_18 (by decide) (fun c_19 => ?_) (fun c_19 => ?_)
      · skip
        refine lv_aload_n F.1 F.2.1 dX7_trade_23 rfl (lv_at hl 0 rfl) ?_
        refine tVv (b := a0) (As := []) (rest := []) F hK hN hO (c_X7_keepsAct E kp as rd sc ty ik tk xt tp sp wrb nu nab iwb u X0 Wa Z a0 ha0 (by omega) hX0 hWa hqX0 hmWa) mv_X7_keepsAct wd_25_7 ⟨Nat.le_of_ble_eq_true rfl, Nat.le_of_ble_eq_true rfl⟩ ⟨Nat.le_of_ble_eq_true rfl, Nat.le_of_ble_eq_true rfl⟩ hH hS (tRecv hK hH (tyb ha0 (all1 rfl)) clX7) rfl hl.1 (Nat.le_of_ble_eq_true rfl) dX7_trade_24 (fun H locs hq hS => ?_)
        obtain ⟨g_21, hg_21, g_22, hg_22, hH⟩ := hq
        have hH : TH E (tbM (mD (.inl tp) (.inl sp) (.inl nu) (.inl (g_21, g_21)) (.inl tk) (.inl xt) (.inl wrb) (.inl nab) (.inl iwb)) (xD 660 X0) (xD 6600 g_22) kp as rd sc ty ik) H := hH
        have hmg_22 := hg_22.2
        refine lv_aload_n F.1 F.2.1 dX7_trade_27 rfl (lv_at hl 0 rfl) ?_
        refine lv_iload_n F.1 F.2.1 dX7_trade_28 rfl (lv_at hl 1 rfl) ?_
        refine lv_iconst (v := 4) F.1 F.2.1 dX7_trade_29 (by decide) ?_
        refine topK (a := 4) (by decide) (fun k_23 hk_23 => ?_)
        refine tVi (b := a0) (As := [.int a1, .int k_23]) (rest := []) F hK hN hO (c_X7_of_4 E (xD 6600 g_22) kp as rd sc ty ik (g_21, g_21) tk xt tp sp wrb nu nab iwb X0 a0 a1 k_23 ha0 r_8 (eqb hk_23) ((hX0).1)) mv_X7_of wd_26_20 ⟨Nat.le_of_ble_eq_true rfl, Nat.le_of_ble_eq_true rfl⟩ ⟨Nat.le_of_ble_eq_true rfl, Nat.le_of_ble_eq_true rfl⟩ hH hS (tRecv hK hH (tyb ha0 (all1 rfl)) clX7) rfl hl.1 (Nat.le_of_ble_eq_true rfl) dX7_trade_30 (fun z_24 H locs hq hS => ?_)
        obtain ⟨f_25, f_26, hH⟩ := hq
        have hH : TH E (tbM (mD (.inl tp) (.inl sp) (.inl nu) (.inl (g_21, g_21)) (.inl tk) (.inl xt) (.inl wrb) (.inl nab) (.inl iwb)) (xD 660 X0) (xD 6600 g_22) kp as rd sc ty ik) H := hH
        refine lv_istore_n (lv' := [(3, .int z_24), (0, .ref a0), (1, .int a1), (2, .int a2)]) F.1 F.2.1 dX7_trade_33 rfl hl (by decide) rfl (fun ls hl => ?_)
        refine lv_aload_n F.1 F.2.1 dX7_trade_34 rfl (lv_at hl 1 rfl) ?_
        refine tGetR (j := 0) F hK hH (tyb ha0 (all1 rfl)) rfl (all1 rfl) clX7 (by decide) wd_6_5 dX7_trade_35 (fun q_27 hq_27 _ => ?_)
        refine lv_bipush (v := 78) F.1 F.2.1 dX7_trade_38 (by decide) ?_
        refine topK (a := 78) (by decide) (fun k_28 hk_28 => ?_)
        refine lv_bipush (v := 13) F.1 F.2.1 dX7_trade_40 (by decide) ?_
        refine topK (a := 13) (by decide) (fun k_29 hk_29 => ?_)
        refine lv_iload_n F.1 F.2.1 dX7_trade_42 rfl (lv_at hl 2 rfl) ?_
        refine tMul (lo := 0) (hi := 169) F dX7_trade_43 (eqb hk_29) r_8 rfl (fun z_30 hz_30 => ?_)
        have mz_30 : z_30.toInt = 13 * a1.toInt := by rw [hz_30.1, hk_29]
        refine tAdd (lo := 78) (hi := 247) F dX7_trade_44 (eqb hk_28) hz_30.2 rfl (fun z_31 hz_31 => ?_)
        refine lv_iconst (v := 4) F.1 F.2.1 dX7_trade_45 (by decide) ?_
        refine topK (a := 4) (by decide) (fun k_32 hk_32 => ?_)
        refine tAdd (lo := 82) (hi := 251) F dX7_trade_46 hz_31.2 (eqb hk_32) rfl (fun z_33 hz_33 => ?_)
        refine lv_aload_n F.1 F.2.1 dX7_trade_47 rfl (lv_at hl 1 rfl) ?_
        refine lv_iload_n F.1 F.2.1 dX7_trade_48 rfl (lv_at hl 3 rfl) ?_
        refine lv_iconst (v := 4) F.1 F.2.1 dX7_trade_49 (by decide) ?_
        refine topK (a := 4) (by decide) (fun k_34 hk_34 => ?_)
        refine tVi (b := a0) (As := [.int a2, .int k_34]) (rest := [.int z_33, .ref q_27]) F hK hN hO (c_X7_of_4 E (xD 6600 g_22) kp as rd sc ty ik (g_21, g_21) tk xt tp sp wrb nu nab iwb X0 a0 a2 k_34 ha0 r_17 (eqb hk_34) ((hX0).1)) mv_X7_of wd_26_20 ⟨Nat.le_of_ble_eq_true rfl, Nat.le_of_ble_eq_true rfl⟩ ⟨Nat.le_of_ble_eq_true rfl, Nat.le_of_ble_eq_true rfl⟩ hH hS (tRecv hK hH (tyb ha0 (all1 rfl)) clX7) rfl hl.1 (Nat.le_of_ble_eq_true rfl) dX7_trade_50 (fun z_35 H locs hq hS => ?_)
        obtain ⟨f_36, f_37, hH⟩ := hq
        have hH : TH E (tbM (mD (.inl tp) (.inl sp) (.inl nu) (.inl (g_21, g_21)) (.inl tk) (.inl xt) (.inl wrb) (.inl nab) (.inl iwb)) (xD 660 X0) (xD 6600 g_22) kp as rd sc ty ik) H := hH
        refine tIastX (t := 25) F hK hH hS (List.mem_singleton.mp hq_27) (by decide) rfl (ixb (n := 660) hz_33.2 rfl rfl) dX7_trade_53 (fun G_38 eG_38 H locs hH hS => ?_)
        have hH : TH E (tbM (mD (.inl tp) (.inl sp) (.inl nu) (.inl (g_21, g_21)) (.inl tk) (.inl xt) (.inl wrb) (.inl nab) (.inl iwb)) (xD 660 G_38) (xD 6600 g_22) kp as rd sc ty ik) H := hH
        have hG_38 : okR G_38 := (okR.st hX0 eG_38 (by omega) (by omega) (by omega) (phiI (by omega) (by omega) (by omega) (by omega) (by omega) (by omega) (by omega) (by omega) (by omega) (by omega) (by omega) (by omega) (by omega) (by omega) (by omega) (by omega) (by omega) (by omega)))
        have hBG_38 := okB hG_38.1
        have hLG_38 := hG_38.2
        have hqG_38 : sQ Z G_38 := sQ.st hqX0 eG_38 (by omega)
        refine lv_aload_n F.1 F.2.1 dX7_trade_54 rfl (lv_at hl 1 rfl) ?_
        refine tGetR (j := 0) F hK hH (tyb ha0 (all1 rfl)) rfl (all1 rfl) clX7 (by decide) wd_6_5 dX7_trade_55 (fun q_39 hq_39 _ => ?_)
        refine lv_bipush (v := 78) F.1 F.2.1 dX7_trade_58 (by decide) ?_
        refine topK (a := 78) (by decide) (fun k_40 hk_40 => ?_)
        refine lv_bipush (v := 13) F.1 F.2.1 dX7_trade_60 (by decide) ?_
        refine topK (a := 13) (by decide) (fun k_41 hk_41 => ?_)
        refine lv_iload_n F.1 F.2.1 dX7_trade_62 rfl (lv_at hl 3 rfl) ?_
        refine tMul (lo := 0) (hi := 169) F dX7_trade_63 (eqb hk_41) r_17 rfl (fun z_42 hz_42 => ?_)
        have mz_42 : z_42.toInt = 13 * a2.toInt := by rw [hz_42.1, hk_41]
        refine tAdd (lo := 78) (hi := 247) F dX7_trade_64 (eqb hk_40) hz_42.2 rfl (fun z_43 hz_43 => ?_)
        refine lv_iconst (v := 4) F.1 F.2.1 dX7_trade_65 (by decide) ?_
        refine topK (a := 4) (by decide) (fun k_44 hk_44 => ?_)
        refine tAdd (lo := 82) (hi := 251) F dX7_trade_66 hz_43.2 (eqb hk_44) rfl (fun z_45 hz_45 => ?_)
        refine lv_iload_n F.1 F.2.1 dX7_trade_67 rfl (lv_at hl 0 rfl) ?_
        refine tIastX (t := 25) F hK hH hS (List.mem_singleton.mp hq_39) (by decide) rfl (ixb (n := 660) hz_45.2 rfl rfl) dX7_trade_68 (fun G_46 eG_46 H locs hH hS => ?_)
        have hH : TH E (tbM (mD (.inl tp) (.inl sp) (.inl nu) (.inl (g_21, g_21)) (.inl tk) (.inl xt) (.inl wrb) (.inl nab) (.inl iwb)) (xD 660 G_46) (xD 6600 g_22) kp as rd sc ty ik) H := hH
        have hG_46 : okR G_46 := (okR.st hG_38 eG_46 (by omega) (by omega) (by omega) (phiI (by omega) (by omega) (by omega) (by omega) (by omega) (by omega) (by omega) (by omega) (by omega) (by omega) (by omega) (by omega) (by omega) (by omega) (by omega) (by omega) (by omega) (by omega)))
        have hBG_46 := okB hG_46.1
        have hLG_46 := hG_46.2
        have hqG_46 : sQ Z G_46 := sQ.st hqG_38 eG_46 (by omega)
        refine lv_iconst (v := 1) F.1 F.2.1 dX7_trade_69 (by decide) ?_
        refine topK (a := 1) (by decide) (fun k_47 hk_47 => ?_)
        exact txI F hS dX7_trade_70 rfl (⟨g_21, (by omega), g_22, ⟨hg_22.1, hmg_22⟩, G_46, ⟨hG_46, hqG_46⟩, (wkb (eqb hk_47) rfl rfl), (trA_y (by omega) (by omega)), hH⟩)
      · skip
        refine lv_iconst (v := (-1)) F.1 F.2.1 dX7_trade_21 (by decide) ?_
        refine topK (a := (-1)) (by decide) (fun k_48 hk_48 => ?_)
        exact txI F hS dX7_trade_22 rfl (⟨u, (by omega), Wa, ⟨hWa, hmWa⟩, X0, ⟨hX0, hqX0⟩, (wkb (eqb hk_48) rfl rfl), (trA_n (by omega) (by omega)), hH⟩)
set_option maxHeartbeats 4000000 in
set_option maxRecDepth 100000 in
theorem c_X7_days (E : Ev) (kp : TD) (as : TD) (rd : TD) (ty : TD) (ik : TD) (xt : Int × Int) (tp : Int × Int) (sp : Int × Int) (wrb : Int × Int) (nu : Int × Int) (nab : Int × Int) (iwb : Int × Int) (u : Int) (X0 : Nat → Int32) (Wa : Nat → Int32) (Z : Nat → Int32) (a0 : Nat) (a1 : Int32) (ha0 : eT E a0 ∈ [24]) (hu : 0 ≤ u ∧ u ≤ 10) (hX0 : okR X0) (hWa : okN 10 Wa) (hmWa : okM Z u Wa) (hqX0 : sQ Z X0) : TcI E yX7_days cX7_days 3 .int ({ frames := 9, cells := 0, slots := 0, locals := 222 }) [.ref a0, .int a1] (fun H => TH E (tbM (mD (.inl tp) (.inl sp) (.inl nu) (.inl (u, u)) (.inl (0, 18)) (.inl xt) (.inl wrb) (.inl nab) (.inl iwb)) (xD 660 X0) (xD 6600 Wa) kp as rd m_second ty ik) H) (fun v H => ∃ u2 : Int, (0 ≤ u2 ∧ u2 ≤ 10) ∧ ∃ Wb : Nat → Int32, (okN 10 Wb ∧ okM Z u2 Wb) ∧ ∃ X2 : Nat → Int32, (okR X2 ∧ sQ Z X2) ∧ ((-2147483648) ≤ v.toInt ∧ v.toInt ≤ 2147483647) ∧ TH E (tbM (mD (.inl tp) (.inl sp) (.inl nu) (.inl (u2, u2)) (.inl (0, 18)) (.inl xt) (.inl wrb) (.inl nab) (.inl iwb)) (xD 660 X2) (xD 6600 Wb) kp as rd m_second ty ik) H) := by
  refine teI (by decide) (Nat.le_of_ble_eq_true rfl) ?_
  intro p_ ev_ s mi_ below_ meth cd_ ls F hK hN hO hH hS hl
  have hH : TH E (tbM (mD (.inl tp) (.inl sp) (.inl nu) (.inl (u, u)) (.inl (0, 18)) (.inl xt) (.inl wrb) (.inl nab) (.inl iwb)) (xD 660 X0) (xD 6600 Wa) kp as rd m_second ty ik) s.heap := hH
  have hl : lv_has ls 3 [(0, .ref a0), (1, .int a1)] := hl
  have hBX0 := okB hX0.1
  have hLX0 := hX0.2
  refine lv_iload_n F.1 F.2.1 dX7_days_0 rfl (lv_at hl 1 rfl) ?_
  refine tI2l F dX7_days_1 (fun w_1 hw_1 => ?_)
  refine lv_lconst (v := 1) F.1 F.2.1 dX7_days_2 (by decide) ?_
  refine topKL (a := 1) (by decide) (fun j_2 hj_2 => ?_)
  refine lv_ldc2 (own := RX7) (v := 60) F.1 F.2.1 F.2.2.2.2.1 (F.2.2.2.2.2.2.1 _ wd_25_6) dX7_days_3 ?_
  refine topKL (a := 60) (by decide) (fun j_3 hj_3 => ?_)
  refine tSi (As := [.long w_1, .long j_2, .long j_3]) (rest := []) F hK hN hO (c_X7_in E (mD (.inl tp) (.inl sp) (.inl nu) (.inl (u, u)) (.inl (0, 18)) (.inl xt) (.inl wrb) (.inl nab) (.inl iwb)) (xD 660 X0) (xD 6600 Wa) kp as rd m_second ty ik w_1 j_2 j_3) ms_X7_in wd_8_10 ⟨Nat.le_of_ble_eq_true rfl, Nat.le_of_ble_eq_true rfl⟩ ⟨Nat.le_of_ble_eq_true rfl, Nat.le_of_ble_eq_true rfl⟩ hH hS rfl hl.1 (Nat.le_of_ble_eq_true rfl) dX7_days_6 (fun z_4 H locs hq hS => ?_)
  obtain ⟨f_5, f_6, hH⟩ := hq
  have hH : TH E (tbM (mD (.inl tp) (.inl sp) (.inl nu) (.inl (u, u)) (.inl (0, 18)) (.inl xt) (.inl wrb) (.inl nab) (.inl iwb)) (xD 660 X0) (xD 6600 Wa) kp as rd m_second ty ik) H := hH
  refine z_ne (tgt := 14) F dX7_days_9 (by decide) (fun c_7 => ?_) (fun c_7 => ?_)
  · skip
    have r_8 : 1 ≤ z_4.toInt ∧ z_4.toInt ≤ 1 := by have h9_ := f_5; omega
    have r_9 : 1 ≤ a1.toInt ∧ a1.toInt ≤ 60 := by have h9_ := (i32b a1); omega
    refine lv_aload_n F.1 F.2.1 dX7_days_14 rfl (lv_at hl 0 rfl) ?_
    refine tVv (b := a0) (As := []) (rest := []) F hK hN hO (c_X7_keepsAct E kp as rd m_second ty ik (0, 18) xt tp sp wrb nu nab iwb u X0 Wa Z a0 ha0 (by omega) hX0 hWa hqX0 hmWa) mv_X7_keepsAct wd_25_7 ⟨Nat.le_of_ble_eq_true rfl, Nat.le_of_ble_eq_true rfl⟩ ⟨Nat.le_of_ble_eq_true rfl, Nat.le_of_ble_eq_true rfl⟩ hH hS (tRecv hK hH (tyb ha0 (all1 rfl)) clX7) rfl hl.1 (Nat.le_of_ble_eq_true rfl) dX7_days_15 (fun H locs hq hS => ?_)
    obtain ⟨g_12, hg_12, g_13, hg_13, hH⟩ := hq
    have hH : TH E (tbM (mD (.inl tp) (.inl sp) (.inl nu) (.inl (g_12, g_12)) (.inl (0, 18)) (.inl xt) (.inl wrb) (.inl nab) (.inl iwb)) (xD 660 X0) (xD 6600 g_13) kp as rd m_second ty ik) H := hH
    have hmg_13 := hg_13.2
    refine lv_iconst (v := 0) F.1 F.2.1 dX7_days_18 (by decide) ?_
    refine topK (a := 0) (by decide) (fun k_14 hk_14 => ?_)
    refine lv_istore_n (lv' := [(2, .int k_14), (0, .ref a0), (1, .int a1)]) F.1 F.2.1 dX7_days_19 rfl hl (by decide) rfl (fun ls hl => ?_)
    refine wloop (σ := Int32 × (Nat → Int32)) (fun n9 x9 H locs ls => (60 - x9.1.toInt + 1).toNat < n9 ∧ (0 ≤ x9.1.toInt ∧ x9.1.toInt ≤ 60) ∧ (okR x9.2) ∧ (sQ Z x9.2) ∧ TH E (tbM (mD (.inl tp) (.inl sp) (.inl nu) (.inl (g_12, g_12)) (.inl (0, 18)) (.inl xt) (.inl wrb) (.inl nab) (.inl iwb)) (xD 660 x9.2) (xD 6600 g_13) kp as rd m_second ty ik) H ∧ va_S (eA E s.heap.size) s.heap H locs ∧ lv_has ls 3 [(0, .ref a0), (1, .int a1), (2, .int x9.1)]) ?_ (fun x9 H locs ls h => absurd h.1 (Nat.not_lt_zero _)) _ (k_14, X0) ⟨Nat.lt_succ_self _, (wkb (eqb hk_14) rfl rfl), hX0, (show sQ Z X0 from hqX0), hH, hS, lv_sub hl [1, 2, 0] rfl⟩
    intro n_20 ih_20 ⟨u_15, G_16⟩ H locs ls ⟨hm_20, hu_15, hG_16, hcr20_0, hH, hS, hl⟩
    have hm_20 : (60 - u_15.toInt + 1).toNat < n_20 + 1 := hm_20
    have hu_15 : (0 ≤ u_15.toInt ∧ u_15.toInt ≤ 60) := hu_15
    have hG_16 : (okR G_16) := hG_16
    have hcr20_0 : (sQ Z G_16) := hcr20_0
    have hH : TH E (tbM (mD (.inl tp) (.inl sp) (.inl nu) (.inl (g_12, g_12)) (.inl (0, 18)) (.inl xt) (.inl wrb) (.inl nab) (.inl iwb)) (xD 660 G_16) (xD 6600 g_13) kp as rd m_second ty ik) H := hH
    have hl : lv_has ls 3 [(0, .ref a0), (1, .int a1), (2, .int u_15)] := hl
    have hBG_16 := okB hG_16.1
    have hLG_16 := hG_16.2
    have hqG_16 := hcr20_0
    refine lv_iload_n F.1 F.2.1 dX7_days_20 rfl (lv_at hl 2 rfl) ?_
    refine lv_iload_n F.1 F.2.1 dX7_days_21 rfl (lv_at hl 1 rfl) ?_
    refine b_ge (tgt := 35) F dX7_days_22 (by decide) (fun c_17 => ?_) (fun c_17 => ?_)
    · skip
      have r_18 : 1 ≤ u_15.toInt ∧ u_15.toInt ≤ 60 := by have h9_ := hu_15; omega
      refine lv_aload_n F.1 F.2.1 dX7_days_35 rfl (lv_at hl 0 rfl) ?_
      refine tGetR (j := 0) F hK hH (tyb ha0 (all1 rfl)) rfl (all1 rfl) clX7 (by decide) wd_6_5 dX7_days_36 (fun q_20 hq_20 _ => ?_)
      refine lv_iconst (v := 3) F.1 F.2.1 dX7_days_39 (by decide) ?_
      refine topK (a := 3) (by decide) (fun k_21 hk_21 => ?_)
      refine tIaldX F hK hH (tyb hq_20 (all1 rfl)) (ixb (n := 660) (eqb hk_21) rfl rfl) dX7_days_40 (fun z_22 ez_22 => ?_)
      exact txI F hS dX7_days_41 rfl (⟨g_12, (by omega), g_13, ⟨hg_13.1, hmg_13⟩, G_16, ⟨hG_16, hqG_16⟩, (i32b _), hH⟩)
    · skip
      have r_19 : 0 ≤ u_15.toInt ∧ u_15.toInt ≤ 59 := by have h9_ := hu_15; omega
      refine lv_aload_n F.1 F.2.1 dX7_days_25 rfl (lv_at hl 0 rfl) ?_
      refine tVv (b := a0) (As := []) (rest := []) F hK hN hO (c_X7_passes E (xD 6600 g_13) kp as rd ty ik (g_12, g_12) xt tp sp wrb nu nab iwb G_16 Z a0 ha0 hG_16 hqG_16) mv_X7_passes wd_25_11 ⟨Nat.le_of_ble_eq_true rfl, Nat.le_of_ble_eq_true rfl⟩ ⟨Nat.le_of_ble_eq_true rfl, Nat.le_of_ble_eq_true rfl⟩ hH hS (tRecv hK hH (tyb ha0 (all1 rfl)) clX7) rfl hl.1 (Nat.le_of_ble_eq_true rfl) dX7_days_26 (fun H locs hq hS => ?_)
      obtain ⟨g_24, hg_24, hH⟩ := hq
      have hH : TH E (tbM (mD (.inl tp) (.inl sp) (.inl nu) (.inl (g_12, g_12)) (.inl (0, 18)) (.inl xt) (.inl wrb) (.inl nab) (.inl iwb)) (xD 660 g_24) (xD 6600 g_13) kp as rd m_second ty ik) H := hH
      have hqg_24 := hg_24.2
      have hBg_24 := okB hg_24.1.1
      have hLg_24 := hg_24.1.2
      obtain ⟨x_25, ex_25, hx_25⟩ := iincB (c := 1) (lo := 1) (hi := 60) r_19 rfl
      refine lv_iinc (v := x_25) (lv' := [(2, .int x_25), (0, .ref a0), (1, .int a1)]) F.1 F.2.1 dX7_days_29 hl (k := 2) rfl ex_25 (by decide) rfl (fun ls hl => ?_)
      refine lv_goto (tgt := 20) F.1 F.2.1 dX7_days_32 (by decide) ?_
      exact ih_20 (x_25, g_24) _ _ _ ⟨(show (60 - x_25.toInt + 1).toNat < n_20 from by omega), (wkb hx_25.2 rfl rfl), hg_24.1, (show sQ Z g_24 from hqg_24), hH, hS, lv_sub hl [1, 2, 0] rfl⟩
  · skip
    have r_10 : 0 ≤ z_4.toInt ∧ z_4.toInt ≤ 0 := by have h9_ := f_5; omega
    refine lv_iconst (v := (-1)) F.1 F.2.1 dX7_days_12 (by decide) ?_
    refine topK (a := (-1)) (by decide) (fun k_26 hk_26 => ?_)
    exact txI F hS dX7_days_13 rfl (⟨u, (by omega), Wa, ⟨hWa, hmWa⟩, X0, ⟨hX0, hqX0⟩, (wkb (eqb hk_26) rfl rfl), hH⟩)
set_option maxHeartbeats 4000000 in
set_option maxRecDepth 100000 in
theorem c_X7_move (E : Ev) (kp : TD) (rd : TD) (ty : TD) (ik : TD) (xt : Int × Int) (tp : Int × Int) (sp : Int × Int) (wrb : Int × Int) (nu : Int × Int) (nab : Int × Int) (iwb : Int × Int) (u : Int) (X0 : Nat → Int32) (Wa : Nat → Int32) (A : Nat → Int32) (Z : Nat → Int32) (a0 : Nat) (a1 : Int32) (a2 : Int32) (ha0 : eT E a0 ∈ [24]) (hu : 0 ≤ u ∧ u ≤ 10) (hX0 : okR X0) (hWa : okN 10 Wa) (hA : okR A) (hmWa : okM Z u Wa) (hqX0 : sQ Z X0) : TcI E yX7_move cX7_move 3 .int ({ frames := 12, cells := 0, slots := 0, locals := 291 }) [.ref a0, .int a1, .int a2] (fun H => TH E (tbM (mD (.inl tp) (.inl sp) (.inl nu) (.inl (u, u)) (.inl (0, 18)) (.inl xt) (.inl wrb) (.inl nab) (.inl iwb)) (xD 660 X0) (xD 6600 Wa) kp (xD 660 A) rd m_second ty ik) H) (fun v H => ∃ u2 : Int, (0 ≤ u2 ∧ u2 ≤ 10) ∧ ∃ Wb : Nat → Int32, (okN 10 Wb ∧ okM Z u2 Wb) ∧ ∃ X2 : Nat → Int32, (okR X2 ∧ sQ Z X2) ∧ ∃ A2 : Nat → Int32, (okR A2) ∧ ((-2147483648) ≤ v.toInt ∧ v.toInt ≤ 2147483647) ∧ TH E (tbM (mD (.inl tp) (.inl sp) (.inl nu) (.inl (u2, u2)) (.inl (0, 18)) (.inl xt) (.inl wrb) (.inl nab) (.inl iwb)) (xD 660 X2) (xD 6600 Wb) kp (xD 660 A2) rd m_second ty ik) H) := by
  refine teI (by decide) (Nat.le_of_ble_eq_true rfl) ?_
  intro p_ ev_ s mi_ below_ meth cd_ ls F hK hN hO hH hS hl
  have hH : TH E (tbM (mD (.inl tp) (.inl sp) (.inl nu) (.inl (u, u)) (.inl (0, 18)) (.inl xt) (.inl wrb) (.inl nab) (.inl iwb)) (xD 660 X0) (xD 6600 Wa) kp (xD 660 A) rd m_second ty ik) s.heap := hH
  have hl : lv_has ls 3 [(0, .ref a0), (1, .int a1), (2, .int a2)] := hl
  have hBX0 := okB hX0.1
  have hLX0 := hX0.2
  have hBA := okB hA.1
  have hLA := hA.2
  refine lv_aload_n F.1 F.2.1 dX7_move_0 rfl (lv_at hl 0 rfl) ?_
  refine lv_iload_n F.1 F.2.1 dX7_move_1 rfl (lv_at hl 1 rfl) ?_
  refine tVi (b := a0) (As := [.int a1]) (rest := []) F hK hN hO (c_X7_isRight E (xD 6600 Wa) kp (xD 660 A) rd m_second ty ik (u, u) (0, 18) xt tp sp wrb nu nab iwb X0 a0 a1 ha0 ((hX0).1)) mv_X7_isRight wd_31_18 ⟨Nat.le_of_ble_eq_true rfl, Nat.le_of_ble_eq_true rfl⟩ ⟨Nat.le_of_ble_eq_true rfl, Nat.le_of_ble_eq_true rfl⟩ hH hS (tRecv hK hH (tyb ha0 (all1 rfl)) clX7) rfl hl.1 (Nat.le_of_ble_eq_true rfl) dX7_move_2 (fun z_1 H locs hq hS => ?_)
  obtain ⟨f_2, f_3, f_4, hH⟩ := hq
  have hH : TH E (tbM (mD (.inl tp) (.inl sp) (.inl nu) (.inl (u, u)) (.inl (0, 18)) (.inl xt) (.inl wrb) (.inl nab) (.inl iwb)) (xD 660 X0) (xD 6600 Wa) kp (xD 660 A) rd m_second ty ik) H := hH
  refine z_eq (tgt := 16) F dX7_move_5 (by decide) (fun c_5 => ?_) (fun c_5 => ?_)
  · skip
    have r_6 : 0 ≤ z_1.toInt ∧ z_1.toInt ≤ 0 := by have h9_ := f_2; omega
    refine lv_iconst (v := (-1)) F.1 F.2.1 dX7_move_16 (by decide) ?_
    refine topK (a := (-1)) (by decide) (fun k_9 hk_9 => ?_)
    exact txI F hS dX7_move_17 rfl (⟨u, (by omega), Wa, ⟨hWa, hmWa⟩, X0, ⟨hX0, hqX0⟩, A, hA, (wkb (eqb hk_9) rfl rfl), hH⟩)
  · skip
    have r_7 : 1 ≤ z_1.toInt ∧ z_1.toInt ≤ 1 := by have h9_ := f_2; omega
    have r_8 : 0 ≤ a1.toInt ∧ a1.toInt ≤ 13 := by have h9_ := (i32b a1); omega
    refine lv_aload_n F.1 F.2.1 dX7_move_8 rfl (lv_at hl 0 rfl) ?_
    refine lv_iload_n F.1 F.2.1 dX7_move_9 rfl (lv_at hl 2 rfl) ?_
    refine tVi (b := a0) (As := [.int a2]) (rest := []) F hK hN hO (c_X7_isReach E (xD 6600 Wa) kp (xD 660 A) rd m_second ty ik (u, u) (0, 18) xt tp sp wrb nu nab iwb X0 a0 a2 ha0 ((hX0).1)) mv_X7_isReach wd_37_8 ⟨Nat.le_of_ble_eq_true rfl, Nat.le_of_ble_eq_true rfl⟩ ⟨Nat.le_of_ble_eq_true rfl, Nat.le_of_ble_eq_true rfl⟩ hH hS (tRecv hK hH (tyb ha0 (all1 rfl)) clX7) rfl hl.1 (Nat.le_of_ble_eq_true rfl) dX7_move_10 (fun z_10 H locs hq hS => ?_)
    obtain ⟨f_11, f_12, f_13, hH⟩ := hq
    have hH : TH E (tbM (mD (.inl tp) (.inl sp) (.inl nu) (.inl (u, u)) (.inl (0, 18)) (.inl xt) (.inl wrb) (.inl nab) (.inl iwb)) (xD 660 X0) (xD 6600 Wa) kp (xD 660 A) rd m_second ty ik) H := hH
    refine z_ne (tgt := 18) F dX7_move_13 (by decide) (fun c_14 => ?_) (fun c_14 => ?_)
    · skip
      have r_15 : 1 ≤ z_10.toInt ∧ z_10.toInt ≤ 1 := by have h9_ := f_11; omega
      have r_16 : 0 ≤ a2.toInt ∧ a2.toInt ≤ 11 := by have h9_ := (i32b a2); omega
      refine lv_aload_n F.1 F.2.1 dX7_move_18 rfl (lv_at hl 0 rfl) ?_
      refine lv_iload_n F.1 F.2.1 dX7_move_19 rfl (lv_at hl 1 rfl) ?_
      refine lv_iconst (v := 0) F.1 F.2.1 dX7_move_20 (by decide) ?_
      refine topK (a := 0) (by decide) (fun k_18 hk_18 => ?_)
      refine tVi (b := a0) (As := [.int a1, .int k_18]) (rest := []) F hK hN hO (c_X7_of_0 E (xD 6600 Wa) kp (xD 660 A) rd m_second ty ik (u, u) (0, 18) xt tp sp wrb nu nab iwb X0 a0 a1 k_18 ha0 r_8 (eqb hk_18) ((hX0).1)) mv_X7_of wd_26_20 ⟨Nat.le_of_ble_eq_true rfl, Nat.le_of_ble_eq_true rfl⟩ ⟨Nat.le_of_ble_eq_true rfl, Nat.le_of_ble_eq_true rfl⟩ hH hS (tRecv hK hH (tyb ha0 (all1 rfl)) clX7) rfl hl.1 (Nat.le_of_ble_eq_true rfl) dX7_move_21 (fun z_19 H locs hq hS => ?_)
      obtain ⟨f_20, f_21, hH⟩ := hq
      have hH : TH E (tbM (mD (.inl tp) (.inl sp) (.inl nu) (.inl (u, u)) (.inl (0, 18)) (.inl xt) (.inl wrb) (.inl nab) (.inl iwb)) (xD 660 X0) (xD 6600 Wa) kp (xD 660 A) rd m_second ty ik) H := hH
      refine lv_iload_n F.1 F.2.1 dX7_move_24 rfl (lv_at hl 2 rfl) ?_
      refine b_ne (tgt := 31) F dX7_move_25 (by decide) (fun c_22 => ?_) (fun c_22 => ?_)
      · skip
        refine lv_aload_n F.1 F.2.1 dX7_move_31 rfl (lv_at hl 0 rfl) ?_
        refine tVv (b := a0) (As := []) (rest := []) F hK hN hO (c_X7_stays E (xD 6600 Wa) kp rd ty ik (u, u) xt tp sp wrb nu nab iwb X0 A Z a0 ha0 hX0 hA hqX0) mv_X7_stays wd_37_12 ⟨Nat.le_of_ble_eq_true rfl, Nat.le_of_ble_eq_true rfl⟩ ⟨Nat.le_of_ble_eq_true rfl, Nat.le_of_ble_eq_true rfl⟩ hH hS (tRecv hK hH (tyb ha0 (all1 rfl)) clX7) rfl hl.1 (Nat.le_of_ble_eq_true rfl) dX7_move_32 (fun H locs hq hS => ?_)
        obtain ⟨g_24, hg_24, g_25, hg_25, hH⟩ := hq
        have hH : TH E (tbM (mD (.inl tp) (.inl sp) (.inl nu) (.inl (u, u)) (.inl (0, 18)) (.inl xt) (.inl wrb) (.inl nab) (.inl iwb)) (xD 660 g_24) (xD 6600 Wa) kp (xD 660 g_25) rd m_second ty ik) H := hH
        have hqg_24 := hg_24.2
        have hBg_24 := okB hg_24.1.1
        have hLg_24 := hg_24.1.2
        have hBg_25 := okB hg_25.1
        have hLg_25 := hg_25.2
        refine lv_aload_n F.1 F.2.1 dX7_move_35 rfl (lv_at hl 0 rfl) ?_
        refine lv_iload_n F.1 F.2.1 dX7_move_36 rfl (lv_at hl 1 rfl) ?_
        refine lv_iload_n F.1 F.2.1 dX7_move_37 rfl (lv_at hl 2 rfl) ?_
        refine tVi (b := a0) (As := [.int a1, .int a2]) (rest := []) F hK hN hO (c_X7_mayMove E (xD 6600 Wa) kp rd ty ik (u, u) xt tp sp wrb nu nab iwb g_24 g_25 Z a0 a1 a2 ha0 r_8 r_16 hg_24.1 hg_25 hqg_24) mv_X7_mayMove wd_38_4 ⟨Nat.le_of_ble_eq_true rfl, Nat.le_of_ble_eq_true rfl⟩ ⟨Nat.le_of_ble_eq_true rfl, Nat.le_of_ble_eq_true rfl⟩ hH hS (tRecv hK hH (tyb ha0 (all1 rfl)) clX7) rfl hl.1 (Nat.le_of_ble_eq_true rfl) dX7_move_38 (fun z_26 H locs hq hS => ?_)
        obtain ⟨g_27, hg_27, g_28, hg_28, f_29, hH⟩ := hq
        have hH : TH E (tbM (mD (.inl tp) (.inl sp) (.inl nu) (.inl (u, u)) (.inl (0, 18)) (.inl xt) (.inl wrb) (.inl nab) (.inl iwb)) (xD 660 g_27) (xD 6600 Wa) kp (xD 660 g_28) rd m_second ty ik) H := hH
        have hqg_27 := hg_27.2
        have hBg_27 := okB hg_27.1.1
        have hLg_27 := hg_27.1.2
        have hBg_28 := okB hg_28.1
        have hLg_28 := hg_28.2
        refine z_ne (tgt := 47) F dX7_move_41 (by decide) (fun c_30 => ?_) (fun c_30 => ?_)
        · skip
          have r_31 : 1 ≤ z_26.toInt ∧ z_26.toInt ≤ 1 := by have h9_ := f_29; omega
          refine lv_aload_n F.1 F.2.1 dX7_move_47 rfl (lv_at hl 0 rfl) ?_
          refine tVv (b := a0) (As := []) (rest := []) F hK hN hO (c_X7_keepsAct E kp (xD 660 g_28) rd m_second ty ik (0, 18) xt tp sp wrb nu nab iwb u g_27 Wa Z a0 ha0 (by omega) hg_27.1 hWa hqg_27 hmWa) mv_X7_keepsAct wd_25_7 ⟨Nat.le_of_ble_eq_true rfl, Nat.le_of_ble_eq_true rfl⟩ ⟨Nat.le_of_ble_eq_true rfl, Nat.le_of_ble_eq_true rfl⟩ hH hS (tRecv hK hH (tyb ha0 (all1 rfl)) clX7) rfl hl.1 (Nat.le_of_ble_eq_true rfl) dX7_move_48 (fun H locs hq hS => ?_)
          obtain ⟨g_34, hg_34, g_35, hg_35, hH⟩ := hq
          have hH : TH E (tbM (mD (.inl tp) (.inl sp) (.inl nu) (.inl (g_34, g_34)) (.inl (0, 18)) (.inl xt) (.inl wrb) (.inl nab) (.inl iwb)) (xD 660 g_27) (xD 6600 g_35) kp (xD 660 g_28) rd m_second ty ik) H := hH
          have hmg_35 := hg_35.2
          refine lv_aload_n F.1 F.2.1 dX7_move_51 rfl (lv_at hl 0 rfl) ?_
          refine tGetR (j := 0) F hK hH (tyb ha0 (all1 rfl)) rfl (all1 rfl) clX7 (by decide) wd_6_5 dX7_move_52 (fun q_36 hq_36 _ => ?_)
          refine lv_bipush (v := 78) F.1 F.2.1 dX7_move_55 (by decide) ?_
          refine topK (a := 78) (by decide) (fun k_37 hk_37 => ?_)
          refine lv_bipush (v := 13) F.1 F.2.1 dX7_move_57 (by decide) ?_
          refine topK (a := 13) (by decide) (fun k_38 hk_38 => ?_)
          refine lv_iload_n F.1 F.2.1 dX7_move_59 rfl (lv_at hl 1 rfl) ?_
          refine tMul (lo := 0) (hi := 169) F dX7_move_60 (eqb hk_38) r_8 rfl (fun z_39 hz_39 => ?_)
          have mz_39 : z_39.toInt = 13 * a1.toInt := by rw [hz_39.1, hk_38]
          refine tAdd (lo := 78) (hi := 247) F dX7_move_61 (eqb hk_37) hz_39.2 rfl (fun z_40 hz_40 => ?_)
          refine lv_iconst (v := 0) F.1 F.2.1 dX7_move_62 (by decide) ?_
          refine topK (a := 0) (by decide) (fun k_41 hk_41 => ?_)
          refine tAdd (lo := 78) (hi := 247) F dX7_move_63 hz_40.2 (eqb hk_41) rfl (fun z_42 hz_42 => ?_)
          refine lv_iload_n F.1 F.2.1 dX7_move_64 rfl (lv_at hl 2 rfl) ?_
          refine tIastX (t := 25) F hK hH hS (List.mem_singleton.mp hq_36) (by decide) rfl (ixb (n := 660) hz_42.2 rfl rfl) dX7_move_65 (fun G_43 eG_43 H locs hH hS => ?_)
          have hH : TH E (tbM (mD (.inl tp) (.inl sp) (.inl nu) (.inl (g_34, g_34)) (.inl (0, 18)) (.inl xt) (.inl wrb) (.inl nab) (.inl iwb)) (xD 660 G_43) (xD 6600 g_35) kp (xD 660 g_28) rd m_second ty ik) H := hH
          have hG_43 : okR G_43 := (okR.st hg_27.1 eG_43 (by omega) (by omega) (by omega) (phiI (by omega) (by omega) (by omega) (by omega) (by omega) (by omega) (by omega) (by omega) (by omega) (by omega) (by omega) (by omega) (by omega) (by omega) (by omega) (by omega) (by omega) (by omega)))
          have hBG_43 := okB hG_43.1
          have hLG_43 := hG_43.2
          have hqG_43 : sQ Z G_43 := sQ.st hqg_27 eG_43 (by omega)
          refine lv_iconst (v := 1) F.1 F.2.1 dX7_move_66 (by decide) ?_
          refine topK (a := 1) (by decide) (fun k_44 hk_44 => ?_)
          exact txI F hS dX7_move_67 rfl (⟨g_34, (by omega), g_35, ⟨hg_35.1, hmg_35⟩, G_43, ⟨hG_43, hqG_43⟩, g_28, hg_28, (wkb (eqb hk_44) rfl rfl), hH⟩)
        · skip
          have r_32 : 0 ≤ z_26.toInt ∧ z_26.toInt ≤ 0 := by have h9_ := f_29; omega
          refine lv_bipush (v := (-3)) F.1 F.2.1 dX7_move_44 (by decide) ?_
          refine topK (a := (-3)) (by decide) (fun k_45 hk_45 => ?_)
          exact txI F hS dX7_move_46 rfl (⟨u, (by omega), Wa, ⟨hWa, hmWa⟩, g_27, ⟨hg_27.1, hqg_27⟩, g_28, hg_28, (wkb (eqb hk_45) rfl rfl), hH⟩)
      · skip
        refine lv_bipush (v := (-2)) F.1 F.2.1 dX7_move_28 (by decide) ?_
        refine topK (a := (-2)) (by decide) (fun k_46 hk_46 => ?_)
        exact txI F hS dX7_move_30 rfl (⟨u, (by omega), Wa, ⟨hWa, hmWa⟩, X0, ⟨hX0, hqX0⟩, A, hA, (wkb (eqb hk_46) rfl rfl), hH⟩)
    · skip
      have r_17 : 0 ≤ z_10.toInt ∧ z_10.toInt ≤ 0 := by have h9_ := f_11; omega
      refine lv_iconst (v := (-1)) F.1 F.2.1 dX7_move_16 (by decide) ?_
      refine topK (a := (-1)) (by decide) (fun k_47 hk_47 => ?_)
      exact txI F hS dX7_move_17 rfl (⟨u, (by omega), Wa, ⟨hWa, hmWa⟩, X0, ⟨hX0, hqX0⟩, A, hA, (wkb (eqb hk_47) rfl rfl), hH⟩)
