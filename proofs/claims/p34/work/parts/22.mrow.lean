theorem dX7_in_0 : decode cX7_in 0 = .ok (.lload_n 0, 1) := by decide +kernel
theorem dX7_in_1 : decode cX7_in 1 = .ok (.lload_n 2, 1) := by decide +kernel
theorem dX7_in_2 : decode cX7_in 2 = .ok (.lcmp, 1) := by decide +kernel
theorem dX7_in_3 : decode cX7_in 3 = .ok (.ifCond .lt 14, 3) := by decide +kernel
theorem dX7_in_6 : decode cX7_in 6 = .ok (.lload_n 0, 1) := by decide +kernel
theorem dX7_in_7 : decode cX7_in 7 = .ok (.lload 4, 2) := by decide +kernel
theorem dX7_in_9 : decode cX7_in 9 = .ok (.lcmp, 1) := by decide +kernel
theorem dX7_in_10 : decode cX7_in 10 = .ok (.ifCond .gt 7, 3) := by decide +kernel
theorem dX7_in_13 : decode cX7_in 13 = .ok (.iconst 1, 1) := by decide +kernel
theorem dX7_in_14 : decode cX7_in 14 = .ok (.goto 4, 3) := by decide +kernel
theorem dX7_in_17 : decode cX7_in 17 = .ok (.iconst 0, 1) := by decide +kernel
theorem dX7_in_18 : decode cX7_in 18 = .ok (.ireturn, 1) := by decide +kernel
theorem dX7_has_0 : decode cX7_has 0 = .ok (.iload_n 0, 1) := by decide +kernel
theorem dX7_has_1 : decode cX7_has 1 = .ok (.iload_n 1, 1) := by decide +kernel
theorem dX7_has_2 : decode cX7_has 2 = .ok (.ishr, 1) := by decide +kernel
theorem dX7_has_3 : decode cX7_has 3 = .ok (.iconst 1, 1) := by decide +kernel
theorem dX7_has_4 : decode cX7_has 4 = .ok (.iand, 1) := by decide +kernel
theorem dX7_has_5 : decode cX7_has 5 = .ok (.iconst 1, 1) := by decide +kernel
theorem dX7_has_6 : decode cX7_has 6 = .ok (.if_icmp .ne 7, 3) := by decide +kernel
theorem dX7_has_9 : decode cX7_has 9 = .ok (.iconst 1, 1) := by decide +kernel
theorem dX7_has_10 : decode cX7_has 10 = .ok (.goto 4, 3) := by decide +kernel
theorem dX7_has_13 : decode cX7_has 13 = .ok (.iconst 0, 1) := by decide +kernel
theorem dX7_has_14 : decode cX7_has 14 = .ok (.ireturn, 1) := by decide +kernel
theorem dX7_least_0 : decode cX7_least 0 = .ok (.iload_n 0, 1) := by decide +kernel
theorem dX7_least_1 : decode cX7_least 1 = .ok (.iload_n 1, 1) := by decide +kernel
theorem dX7_least_2 : decode cX7_least 2 = .ok (.if_icmp .ge 7, 3) := by decide +kernel
theorem dX7_least_5 : decode cX7_least 5 = .ok (.iload_n 0, 1) := by decide +kernel
theorem dX7_least_6 : decode cX7_least 6 = .ok (.goto 4, 3) := by decide +kernel
theorem dX7_least_9 : decode cX7_least 9 = .ok (.iload_n 1, 1) := by decide +kernel
theorem dX7_least_10 : decode cX7_least 10 = .ok (.ireturn, 1) := by decide +kernel
theorem dX7_whole_0 : decode cX7_whole 0 = .ok (.iload_n 0, 1) := by decide +kernel
theorem dX7_whole_1 : decode cX7_whole 1 = .ok (.iload_n 1, 1) := by decide +kernel
theorem dX7_whole_2 : decode cX7_whole 2 = .ok (.idiv, 1) := by decide +kernel
theorem dX7_whole_3 : decode cX7_whole 3 = .ok (.ireturn, 1) := by decide +kernel
theorem dX7_reaches_0 : decode cX7_reaches 0 = .ok (.aload_n 0, 1) := by decide +kernel
theorem dX7_reaches_1 : decode cX7_reaches 1 = .ok (.getfield 7, 3) := by decide +kernel
theorem dX7_reaches_4 : decode cX7_reaches 4 = .ok (.iconst 0, 1) := by decide +kernel
theorem dX7_reaches_5 : decode cX7_reaches 5 = .ok (.iaload, 1) := by decide +kernel
theorem dX7_reaches_6 : decode cX7_reaches 6 = .ok (.ireturn, 1) := by decide +kernel
theorem dX7_rights_0 : decode cX7_rights 0 = .ok (.aload_n 0, 1) := by decide +kernel
theorem dX7_rights_1 : decode cX7_rights 1 = .ok (.getfield 7, 3) := by decide +kernel
theorem dX7_rights_4 : decode cX7_rights 4 = .ok (.iconst 1, 1) := by decide +kernel
theorem dX7_rights_5 : decode cX7_rights 5 = .ok (.iaload, 1) := by decide +kernel
theorem dX7_rights_6 : decode cX7_rights 6 = .ok (.ireturn, 1) := by decide +kernel
theorem dX7_stores_0 : decode cX7_stores 0 = .ok (.aload_n 0, 1) := by decide +kernel
theorem dX7_stores_1 : decode cX7_stores 1 = .ok (.getfield 7, 3) := by decide +kernel
theorem dX7_stores_4 : decode cX7_stores 4 = .ok (.iconst 2, 1) := by decide +kernel
theorem dX7_stores_5 : decode cX7_stores 5 = .ok (.iaload, 1) := by decide +kernel
theorem dX7_stores_6 : decode cX7_stores 6 = .ok (.ireturn, 1) := by decide +kernel
theorem dX7_isReach_0 : decode cX7_isReach 0 = .ok (.iload_n 1, 1) := by decide +kernel
theorem dX7_isReach_1 : decode cX7_isReach 1 = .ok (.i2l, 1) := by decide +kernel
theorem dX7_isReach_2 : decode cX7_isReach 2 = .ok (.lconst 0, 1) := by decide +kernel
theorem dX7_isReach_3 : decode cX7_isReach 3 = .ok (.aload_n 0, 1) := by decide +kernel
theorem dX7_isReach_4 : decode cX7_isReach 4 = .ok (.invokevirtual 92, 3) := by decide +kernel
theorem dX7_isReach_7 : decode cX7_isReach 7 = .ok (.iconst 1, 1) := by decide +kernel
theorem dX7_isReach_8 : decode cX7_isReach 8 = .ok (.isub, 1) := by decide +kernel
theorem dX7_isReach_9 : decode cX7_isReach 9 = .ok (.i2l, 1) := by decide +kernel
theorem dX7_isReach_10 : decode cX7_isReach 10 = .ok (.invokestatic 96, 3) := by decide +kernel
theorem dX7_isReach_13 : decode cX7_isReach 13 = .ok (.ireturn, 1) := by decide +kernel
theorem dX7_isRight_0 : decode cX7_isRight 0 = .ok (.iload_n 1, 1) := by decide +kernel
theorem dX7_isRight_1 : decode cX7_isRight 1 = .ok (.i2l, 1) := by decide +kernel
theorem dX7_isRight_2 : decode cX7_isRight 2 = .ok (.lconst 0, 1) := by decide +kernel
theorem dX7_isRight_3 : decode cX7_isRight 3 = .ok (.aload_n 0, 1) := by decide +kernel
theorem dX7_isRight_4 : decode cX7_isRight 4 = .ok (.invokevirtual 100, 3) := by decide +kernel
theorem dX7_isRight_7 : decode cX7_isRight 7 = .ok (.iconst 1, 1) := by decide +kernel
theorem dX7_isRight_8 : decode cX7_isRight 8 = .ok (.isub, 1) := by decide +kernel
theorem dX7_isRight_9 : decode cX7_isRight 9 = .ok (.i2l, 1) := by decide +kernel
theorem dX7_isRight_10 : decode cX7_isRight 10 = .ok (.invokestatic 96, 3) := by decide +kernel
theorem dX7_isRight_13 : decode cX7_isRight 13 = .ok (.ireturn, 1) := by decide +kernel
theorem dX7_isStore_0 : decode cX7_isStore 0 = .ok (.iload_n 1, 1) := by decide +kernel
theorem dX7_isStore_1 : decode cX7_isStore 1 = .ok (.i2l, 1) := by decide +kernel
theorem dX7_isStore_2 : decode cX7_isStore 2 = .ok (.lconst 0, 1) := by decide +kernel
theorem dX7_isStore_3 : decode cX7_isStore 3 = .ok (.aload_n 0, 1) := by decide +kernel
theorem dX7_isStore_4 : decode cX7_isStore 4 = .ok (.invokevirtual 103, 3) := by decide +kernel
theorem dX7_isStore_7 : decode cX7_isStore 7 = .ok (.iconst 1, 1) := by decide +kernel
theorem dX7_isStore_8 : decode cX7_isStore 8 = .ok (.isub, 1) := by decide +kernel
theorem dX7_isStore_9 : decode cX7_isStore 9 = .ok (.i2l, 1) := by decide +kernel
theorem dX7_isStore_10 : decode cX7_isStore 10 = .ok (.invokestatic 96, 3) := by decide +kernel
theorem dX7_isStore_13 : decode cX7_isStore 13 = .ok (.ireturn, 1) := by decide +kernel
theorem dX7_ofReach_0 : decode cX7_ofReach 0 = .ok (.aload_n 0, 1) := by decide +kernel
theorem dX7_ofReach_1 : decode cX7_ofReach 1 = .ok (.getfield 7, 3) := by decide +kernel
theorem dX7_ofReach_4 : decode cX7_ofReach 4 = .ok (.bipush 6, 2) := by decide +kernel
theorem dX7_ofReach_6 : decode cX7_ofReach 6 = .ok (.bipush 6, 2) := by decide +kernel
theorem dX7_ofReach_8 : decode cX7_ofReach 8 = .ok (.iload_n 1, 1) := by decide +kernel
theorem dX7_ofReach_9 : decode cX7_ofReach 9 = .ok (.imul, 1) := by decide +kernel
theorem dX7_ofReach_10 : decode cX7_ofReach 10 = .ok (.iadd, 1) := by decide +kernel
theorem dX7_ofReach_11 : decode cX7_ofReach 11 = .ok (.iload_n 2, 1) := by decide +kernel
theorem dX7_ofReach_12 : decode cX7_ofReach 12 = .ok (.iadd, 1) := by decide +kernel
theorem dX7_ofReach_13 : decode cX7_ofReach 13 = .ok (.iaload, 1) := by decide +kernel
theorem dX7_ofReach_14 : decode cX7_ofReach 14 = .ok (.ireturn, 1) := by decide +kernel
theorem dX7_of_0 : decode cX7_of 0 = .ok (.aload_n 0, 1) := by decide +kernel
theorem dX7_of_1 : decode cX7_of 1 = .ok (.getfield 7, 3) := by decide +kernel
theorem dX7_of_4 : decode cX7_of 4 = .ok (.bipush 78, 2) := by decide +kernel
theorem dX7_of_6 : decode cX7_of 6 = .ok (.bipush 13, 2) := by decide +kernel
theorem dX7_of_8 : decode cX7_of 8 = .ok (.iload_n 1, 1) := by decide +kernel
theorem dX7_of_9 : decode cX7_of 9 = .ok (.imul, 1) := by decide +kernel
theorem dX7_of_10 : decode cX7_of 10 = .ok (.iadd, 1) := by decide +kernel
theorem dX7_of_11 : decode cX7_of 11 = .ok (.iload_n 2, 1) := by decide +kernel
theorem dX7_of_12 : decode cX7_of 12 = .ok (.iadd, 1) := by decide +kernel
theorem dX7_of_13 : decode cX7_of 13 = .ok (.iaload, 1) := by decide +kernel
theorem dX7_of_14 : decode cX7_of 14 = .ok (.ireturn, 1) := by decide +kernel
theorem dX7_ofStore_0 : decode cX7_ofStore 0 = .ok (.aload_n 0, 1) := by decide +kernel
theorem dX7_ofStore_1 : decode cX7_ofStore 1 = .ok (.getfield 7, 3) := by decide +kernel
theorem dX7_ofStore_4 : decode cX7_ofStore 4 = .ok (.sipush 260, 3) := by decide +kernel
theorem dX7_ofStore_7 : decode cX7_ofStore 7 = .ok (.bipush 7, 2) := by decide +kernel
theorem dX7_ofStore_9 : decode cX7_ofStore 9 = .ok (.iload_n 1, 1) := by decide +kernel
theorem dX7_ofStore_10 : decode cX7_ofStore 10 = .ok (.imul, 1) := by decide +kernel
theorem dX7_ofStore_11 : decode cX7_ofStore 11 = .ok (.iadd, 1) := by decide +kernel
theorem dX7_ofStore_12 : decode cX7_ofStore 12 = .ok (.iload_n 2, 1) := by decide +kernel
theorem dX7_ofStore_13 : decode cX7_ofStore 13 = .ok (.iadd, 1) := by decide +kernel
theorem dX7_ofStore_14 : decode cX7_ofStore 14 = .ok (.iaload, 1) := by decide +kernel
theorem dX7_ofStore_15 : decode cX7_ofStore 15 = .ok (.ireturn, 1) := by decide +kernel
theorem dX7_inflowOf_0 : decode cX7_inflowOf 0 = .ok (.aload_n 0, 1) := by decide +kernel
theorem dX7_inflowOf_1 : decode cX7_inflowOf 1 = .ok (.iload_n 1, 1) := by decide +kernel
theorem dX7_inflowOf_2 : decode cX7_inflowOf 2 = .ok (.iconst 2, 1) := by decide +kernel
theorem dX7_inflowOf_3 : decode cX7_inflowOf 3 = .ok (.aload_n 0, 1) := by decide +kernel
theorem dX7_inflowOf_4 : decode cX7_inflowOf 4 = .ok (.getfield 7, 3) := by decide +kernel
theorem dX7_inflowOf_7 : decode cX7_inflowOf 7 = .ok (.iconst 3, 1) := by decide +kernel
theorem dX7_inflowOf_8 : decode cX7_inflowOf 8 = .ok (.iaload, 1) := by decide +kernel
theorem dX7_inflowOf_9 : decode cX7_inflowOf 9 = .ok (.bipush 90, 2) := by decide +kernel
theorem dX7_inflowOf_11 : decode cX7_inflowOf 11 = .ok (.idiv, 1) := by decide +kernel
theorem dX7_inflowOf_12 : decode cX7_inflowOf 12 = .ok (.iadd, 1) := by decide +kernel
theorem dX7_inflowOf_13 : decode cX7_inflowOf 13 = .ok (.invokevirtual 106, 3) := by decide +kernel
theorem dX7_inflowOf_16 : decode cX7_inflowOf 16 = .ok (.aload_n 0, 1) := by decide +kernel
theorem dX7_inflowOf_17 : decode cX7_inflowOf 17 = .ok (.getfield 7, 3) := by decide +kernel
theorem dX7_inflowOf_20 : decode cX7_inflowOf 20 = .ok (.iconst 4, 1) := by decide +kernel
theorem dX7_inflowOf_21 : decode cX7_inflowOf 21 = .ok (.iaload, 1) := by decide +kernel
theorem dX7_inflowOf_22 : decode cX7_inflowOf 22 = .ok (.imul, 1) := by decide +kernel
theorem dX7_inflowOf_23 : decode cX7_inflowOf 23 = .ok (.bipush 100, 2) := by decide +kernel
theorem dX7_inflowOf_25 : decode cX7_inflowOf 25 = .ok (.invokestatic 110, 3) := by decide +kernel
theorem dX7_inflowOf_28 : decode cX7_inflowOf 28 = .ok (.ireturn, 1) := by decide +kernel
theorem dX7_backIn_0 : decode cX7_backIn 0 = .ok (.aload_n 0, 1) := by decide +kernel
theorem dX7_backIn_1 : decode cX7_backIn 1 = .ok (.getfield 7, 3) := by decide +kernel
theorem dX7_backIn_4 : decode cX7_backIn 4 = .ok (.sipush 288, 3) := by decide +kernel
theorem dX7_backIn_7 : decode cX7_backIn 7 = .ok (.bipush 12, 2) := by decide +kernel
theorem dX7_backIn_9 : decode cX7_backIn 9 = .ok (.aload_n 0, 1) := by decide +kernel
theorem dX7_backIn_10 : decode cX7_backIn 10 = .ok (.getfield 7, 3) := by decide +kernel
theorem dX7_backIn_13 : decode cX7_backIn 13 = .ok (.iconst 5, 1) := by decide +kernel
theorem dX7_backIn_14 : decode cX7_backIn 14 = .ok (.iaload, 1) := by decide +kernel
theorem dX7_backIn_15 : decode cX7_backIn 15 = .ok (.iload_n 2, 1) := by decide +kernel
theorem dX7_backIn_16 : decode cX7_backIn 16 = .ok (.iadd, 1) := by decide +kernel
theorem dX7_backIn_17 : decode cX7_backIn 17 = .ok (.bipush 31, 2) := by decide +kernel
theorem dX7_backIn_19 : decode cX7_backIn 19 = .ok (.irem, 1) := by decide +kernel
theorem dX7_backIn_20 : decode cX7_backIn 20 = .ok (.imul, 1) := by decide +kernel
theorem dX7_backIn_21 : decode cX7_backIn 21 = .ok (.iadd, 1) := by decide +kernel
theorem dX7_backIn_22 : decode cX7_backIn 22 = .ok (.iload_n 1, 1) := by decide +kernel
theorem dX7_backIn_23 : decode cX7_backIn 23 = .ok (.iadd, 1) := by decide +kernel
theorem dX7_backIn_24 : decode cX7_backIn 24 = .ok (.iaload, 1) := by decide +kernel
theorem dX7_backIn_25 : decode cX7_backIn 25 = .ok (.ireturn, 1) := by decide +kernel
theorem dX7_runsTo_0 : decode cX7_runsTo 0 = .ok (.iload_n 1, 1) := by decide +kernel
theorem dX7_runsTo_1 : decode cX7_runsTo 1 = .ok (.istore_n 3, 1) := by decide +kernel
theorem dX7_runsTo_2 : decode cX7_runsTo 2 = .ok (.iload_n 3, 1) := by decide +kernel
theorem dX7_runsTo_3 : decode cX7_runsTo 3 = .ok (.iload_n 2, 1) := by decide +kernel
theorem dX7_runsTo_4 : decode cX7_runsTo 4 = .ok (.if_icmp .eq 18, 3) := by decide +kernel
theorem dX7_runsTo_7 : decode cX7_runsTo 7 = .ok (.iload_n 3, 1) := by decide +kernel
theorem dX7_runsTo_8 : decode cX7_runsTo 8 = .ok (.iconst (-1), 1) := by decide +kernel
theorem dX7_runsTo_9 : decode cX7_runsTo 9 = .ok (.if_icmp .eq 13, 3) := by decide +kernel
theorem dX7_runsTo_12 : decode cX7_runsTo 12 = .ok (.aload_n 0, 1) := by decide +kernel
theorem dX7_runsTo_13 : decode cX7_runsTo 13 = .ok (.iload_n 3, 1) := by decide +kernel
theorem dX7_runsTo_14 : decode cX7_runsTo 14 = .ok (.iconst 0, 1) := by decide +kernel
theorem dX7_runsTo_15 : decode cX7_runsTo 15 = .ok (.invokevirtual 106, 3) := by decide +kernel
theorem dX7_runsTo_18 : decode cX7_runsTo 18 = .ok (.istore_n 3, 1) := by decide +kernel
theorem dX7_runsTo_19 : decode cX7_runsTo 19 = .ok (.goto (-17), 3) := by decide +kernel
theorem dX7_runsTo_22 : decode cX7_runsTo 22 = .ok (.iload_n 3, 1) := by decide +kernel
theorem dX7_runsTo_23 : decode cX7_runsTo 23 = .ok (.iload_n 2, 1) := by decide +kernel
theorem dX7_runsTo_24 : decode cX7_runsTo 24 = .ok (.if_icmp .ne 7, 3) := by decide +kernel
theorem dX7_runsTo_27 : decode cX7_runsTo 27 = .ok (.iconst 1, 1) := by decide +kernel
theorem dX7_runsTo_28 : decode cX7_runsTo 28 = .ok (.goto 4, 3) := by decide +kernel
theorem dX7_runsTo_31 : decode cX7_runsTo 31 = .ok (.iconst 0, 1) := by decide +kernel
theorem dX7_runsTo_32 : decode cX7_runsTo 32 = .ok (.ireturn, 1) := by decide +kernel
theorem dX7_farOf_0 : decode cX7_farOf 0 = .ok (.iconst 0, 1) := by decide +kernel
theorem dX7_farOf_1 : decode cX7_farOf 1 = .ok (.istore_n 2, 1) := by decide +kernel
theorem dX7_farOf_2 : decode cX7_farOf 2 = .ok (.iload_n 1, 1) := by decide +kernel
theorem dX7_farOf_3 : decode cX7_farOf 3 = .ok (.istore_n 3, 1) := by decide +kernel
theorem dX7_farOf_4 : decode cX7_farOf 4 = .ok (.iload_n 3, 1) := by decide +kernel
theorem dX7_farOf_5 : decode cX7_farOf 5 = .ok (.iconst (-1), 1) := by decide +kernel
theorem dX7_farOf_6 : decode cX7_farOf 6 = .ok (.if_icmp .eq 16, 3) := by decide +kernel
theorem dX7_farOf_9 : decode cX7_farOf 9 = .ok (.iinc 2 1, 3) := by decide +kernel
theorem dX7_farOf_12 : decode cX7_farOf 12 = .ok (.aload_n 0, 1) := by decide +kernel
theorem dX7_farOf_13 : decode cX7_farOf 13 = .ok (.iload_n 3, 1) := by decide +kernel
theorem dX7_farOf_14 : decode cX7_farOf 14 = .ok (.iconst 0, 1) := by decide +kernel
theorem dX7_farOf_15 : decode cX7_farOf 15 = .ok (.invokevirtual 106, 3) := by decide +kernel
theorem dX7_farOf_18 : decode cX7_farOf 18 = .ok (.istore_n 3, 1) := by decide +kernel
theorem dX7_farOf_19 : decode cX7_farOf 19 = .ok (.goto (-15), 3) := by decide +kernel
theorem dX7_farOf_22 : decode cX7_farOf 22 = .ok (.iload_n 2, 1) := by decide +kernel
theorem dX7_farOf_23 : decode cX7_farOf 23 = .ok (.ireturn, 1) := by decide +kernel
theorem dX7_atOf_0 : decode cX7_atOf 0 = .ok (.iload_n 1, 1) := by decide +kernel
theorem dX7_atOf_1 : decode cX7_atOf 1 = .ok (.bipush 14, 2) := by decide +kernel
theorem dX7_atOf_3 : decode cX7_atOf 3 = .ok (.if_icmp .ge 12, 3) := by decide +kernel
theorem dX7_atOf_6 : decode cX7_atOf 6 = .ok (.aload_n 0, 1) := by decide +kernel
theorem dX7_atOf_7 : decode cX7_atOf 7 = .ok (.iload_n 1, 1) := by decide +kernel
theorem dX7_atOf_8 : decode cX7_atOf 8 = .ok (.iconst 0, 1) := by decide +kernel
theorem dX7_atOf_9 : decode cX7_atOf 9 = .ok (.invokevirtual 113, 3) := by decide +kernel
theorem dX7_atOf_12 : decode cX7_atOf 12 = .ok (.goto 12, 3) := by decide +kernel
theorem dX7_atOf_15 : decode cX7_atOf 15 = .ok (.aload_n 0, 1) := by decide +kernel
theorem dX7_atOf_16 : decode cX7_atOf 16 = .ok (.iload_n 1, 1) := by decide +kernel
theorem dX7_atOf_17 : decode cX7_atOf 17 = .ok (.bipush 14, 2) := by decide +kernel
theorem dX7_atOf_19 : decode cX7_atOf 19 = .ok (.isub, 1) := by decide +kernel
theorem dX7_atOf_20 : decode cX7_atOf 20 = .ok (.iconst 0, 1) := by decide +kernel
theorem dX7_atOf_21 : decode cX7_atOf 21 = .ok (.invokevirtual 116, 3) := by decide +kernel
theorem dX7_atOf_24 : decode cX7_atOf 24 = .ok (.ireturn, 1) := by decide +kernel
theorem dX7_ageOf_0 : decode cX7_ageOf 0 = .ok (.iload_n 1, 1) := by decide +kernel
theorem dX7_ageOf_1 : decode cX7_ageOf 1 = .ok (.bipush 14, 2) := by decide +kernel
theorem dX7_ageOf_3 : decode cX7_ageOf 3 = .ok (.if_icmp .ge 12, 3) := by decide +kernel
theorem dX7_ageOf_6 : decode cX7_ageOf 6 = .ok (.aload_n 0, 1) := by decide +kernel
theorem dX7_ageOf_7 : decode cX7_ageOf 7 = .ok (.iload_n 1, 1) := by decide +kernel
theorem dX7_ageOf_8 : decode cX7_ageOf 8 = .ok (.iconst 4, 1) := by decide +kernel
theorem dX7_ageOf_9 : decode cX7_ageOf 9 = .ok (.invokevirtual 113, 3) := by decide +kernel
theorem dX7_ageOf_12 : decode cX7_ageOf 12 = .ok (.goto 12, 3) := by decide +kernel
theorem dX7_ageOf_15 : decode cX7_ageOf 15 = .ok (.aload_n 0, 1) := by decide +kernel
theorem dX7_ageOf_16 : decode cX7_ageOf 16 = .ok (.iload_n 1, 1) := by decide +kernel
theorem dX7_ageOf_17 : decode cX7_ageOf 17 = .ok (.bipush 14, 2) := by decide +kernel
theorem dX7_ageOf_19 : decode cX7_ageOf 19 = .ok (.isub, 1) := by decide +kernel
theorem dX7_ageOf_20 : decode cX7_ageOf 20 = .ok (.iconst 3, 1) := by decide +kernel
theorem dX7_ageOf_21 : decode cX7_ageOf 21 = .ok (.invokevirtual 116, 3) := by decide +kernel
theorem dX7_ageOf_24 : decode cX7_ageOf 24 = .ok (.ireturn, 1) := by decide +kernel
theorem dX7_isTaker_0 : decode cX7_isTaker 0 = .ok (.iload_n 1, 1) := by decide +kernel
theorem dX7_isTaker_1 : decode cX7_isTaker 1 = .ok (.bipush 14, 2) := by decide +kernel
theorem dX7_isTaker_3 : decode cX7_isTaker 3 = .ok (.if_icmp .ge 19, 3) := by decide +kernel
theorem dX7_isTaker_6 : decode cX7_isTaker 6 = .ok (.iload_n 1, 1) := by decide +kernel
theorem dX7_isTaker_7 : decode cX7_isTaker 7 = .ok (.aload_n 0, 1) := by decide +kernel
theorem dX7_isTaker_8 : decode cX7_isTaker 8 = .ok (.invokevirtual 100, 3) := by decide +kernel
theorem dX7_isTaker_11 : decode cX7_isTaker 11 = .ok (.if_icmp .ge 7, 3) := by decide +kernel
theorem dX7_isTaker_14 : decode cX7_isTaker 14 = .ok (.iconst 1, 1) := by decide +kernel
theorem dX7_isTaker_15 : decode cX7_isTaker 15 = .ok (.goto 23, 3) := by decide +kernel
theorem dX7_isTaker_18 : decode cX7_isTaker 18 = .ok (.iconst 0, 1) := by decide +kernel
theorem dX7_isTaker_19 : decode cX7_isTaker 19 = .ok (.goto 19, 3) := by decide +kernel
theorem dX7_isTaker_22 : decode cX7_isTaker 22 = .ok (.iload_n 1, 1) := by decide +kernel
theorem dX7_isTaker_23 : decode cX7_isTaker 23 = .ok (.bipush 14, 2) := by decide +kernel
theorem dX7_isTaker_25 : decode cX7_isTaker 25 = .ok (.isub, 1) := by decide +kernel
theorem dX7_isTaker_26 : decode cX7_isTaker 26 = .ok (.aload_n 0, 1) := by decide +kernel
theorem dX7_isTaker_27 : decode cX7_isTaker 27 = .ok (.invokevirtual 103, 3) := by decide +kernel
theorem dX7_isTaker_30 : decode cX7_isTaker 30 = .ok (.if_icmp .ge 7, 3) := by decide +kernel
theorem dX7_isTaker_33 : decode cX7_isTaker 33 = .ok (.iconst 1, 1) := by decide +kernel
theorem dX7_isTaker_34 : decode cX7_isTaker 34 = .ok (.goto 4, 3) := by decide +kernel
theorem dX7_isTaker_37 : decode cX7_isTaker 37 = .ok (.iconst 0, 1) := by decide +kernel
theorem dX7_isTaker_38 : decode cX7_isTaker 38 = .ok (.ireturn, 1) := by decide +kernel
theorem dX7_wantsOf_0 : decode cX7_wantsOf 0 = .ok (.iload_n 1, 1) := by decide +kernel
theorem dX7_wantsOf_1 : decode cX7_wantsOf 1 = .ok (.bipush 14, 2) := by decide +kernel
theorem dX7_wantsOf_3 : decode cX7_wantsOf 3 = .ok (.if_icmp .lt 35, 3) := by decide +kernel
theorem dX7_wantsOf_6 : decode cX7_wantsOf 6 = .ok (.aload_n 0, 1) := by decide +kernel
theorem dX7_wantsOf_7 : decode cX7_wantsOf 7 = .ok (.iload_n 1, 1) := by decide +kernel
theorem dX7_wantsOf_8 : decode cX7_wantsOf 8 = .ok (.bipush 14, 2) := by decide +kernel
theorem dX7_wantsOf_10 : decode cX7_wantsOf 10 = .ok (.isub, 1) := by decide +kernel
theorem dX7_wantsOf_11 : decode cX7_wantsOf 11 = .ok (.iconst 2, 1) := by decide +kernel
theorem dX7_wantsOf_12 : decode cX7_wantsOf 12 = .ok (.invokevirtual 116, 3) := by decide +kernel
theorem dX7_wantsOf_15 : decode cX7_wantsOf 15 = .ok (.aload_n 0, 1) := by decide +kernel
theorem dX7_wantsOf_16 : decode cX7_wantsOf 16 = .ok (.iload_n 1, 1) := by decide +kernel
theorem dX7_wantsOf_17 : decode cX7_wantsOf 17 = .ok (.bipush 14, 2) := by decide +kernel
theorem dX7_wantsOf_19 : decode cX7_wantsOf 19 = .ok (.isub, 1) := by decide +kernel
theorem dX7_wantsOf_20 : decode cX7_wantsOf 20 = .ok (.iconst 1, 1) := by decide +kernel
theorem dX7_wantsOf_21 : decode cX7_wantsOf 21 = .ok (.invokevirtual 116, 3) := by decide +kernel
theorem dX7_wantsOf_24 : decode cX7_wantsOf 24 = .ok (.aload_n 0, 1) := by decide +kernel
theorem dX7_wantsOf_25 : decode cX7_wantsOf 25 = .ok (.iload_n 1, 1) := by decide +kernel
theorem dX7_wantsOf_26 : decode cX7_wantsOf 26 = .ok (.bipush 14, 2) := by decide +kernel
theorem dX7_wantsOf_28 : decode cX7_wantsOf 28 = .ok (.isub, 1) := by decide +kernel
theorem dX7_wantsOf_29 : decode cX7_wantsOf 29 = .ok (.iconst 4, 1) := by decide +kernel
theorem dX7_wantsOf_30 : decode cX7_wantsOf 30 = .ok (.invokevirtual 116, 3) := by decide +kernel
theorem dX7_wantsOf_33 : decode cX7_wantsOf 33 = .ok (.isub, 1) := by decide +kernel
theorem dX7_wantsOf_34 : decode cX7_wantsOf 34 = .ok (.invokestatic 119, 3) := by decide +kernel
theorem dX7_wantsOf_37 : decode cX7_wantsOf 37 = .ok (.ireturn, 1) := by decide +kernel
theorem dX7_wantsOf_38 : decode cX7_wantsOf 38 = .ok (.aload_n 0, 1) := by decide +kernel
theorem dX7_wantsOf_39 : decode cX7_wantsOf 39 = .ok (.getfield 7, 3) := by decide +kernel
theorem dX7_wantsOf_42 : decode cX7_wantsOf 42 = .ok (.iconst 3, 1) := by decide +kernel
theorem dX7_wantsOf_43 : decode cX7_wantsOf 43 = .ok (.iaload, 1) := by decide +kernel
theorem dX7_wantsOf_44 : decode cX7_wantsOf 44 = .ok (.i2l, 1) := by decide +kernel
theorem dX7_wantsOf_45 : decode cX7_wantsOf 45 = .ok (.aload_n 0, 1) := by decide +kernel
theorem dX7_wantsOf_46 : decode cX7_wantsOf 46 = .ok (.iload_n 1, 1) := by decide +kernel
theorem dX7_wantsOf_47 : decode cX7_wantsOf 47 = .ok (.iconst 2, 1) := by decide +kernel
theorem dX7_wantsOf_48 : decode cX7_wantsOf 48 = .ok (.invokevirtual 113, 3) := by decide +kernel
theorem dX7_wantsOf_51 : decode cX7_wantsOf 51 = .ok (.i2l, 1) := by decide +kernel
theorem dX7_wantsOf_52 : decode cX7_wantsOf 52 = .ok (.aload_n 0, 1) := by decide +kernel
theorem dX7_wantsOf_53 : decode cX7_wantsOf 53 = .ok (.iload_n 1, 1) := by decide +kernel
theorem dX7_wantsOf_54 : decode cX7_wantsOf 54 = .ok (.iconst 3, 1) := by decide +kernel
theorem dX7_wantsOf_55 : decode cX7_wantsOf 55 = .ok (.invokevirtual 113, 3) := by decide +kernel
theorem dX7_wantsOf_58 : decode cX7_wantsOf 58 = .ok (.i2l, 1) := by decide +kernel
theorem dX7_wantsOf_59 : decode cX7_wantsOf 59 = .ok (.invokestatic 96, 3) := by decide +kernel
theorem dX7_wantsOf_62 : decode cX7_wantsOf 62 = .ok (.ifCond .ne 5, 3) := by decide +kernel
theorem dX7_wantsOf_65 : decode cX7_wantsOf 65 = .ok (.iconst 0, 1) := by decide +kernel
theorem dX7_wantsOf_66 : decode cX7_wantsOf 66 = .ok (.ireturn, 1) := by decide +kernel
theorem dX7_wantsOf_67 : decode cX7_wantsOf 67 = .ok (.aload_n 0, 1) := by decide +kernel
theorem dX7_wantsOf_68 : decode cX7_wantsOf 68 = .ok (.iload_n 1, 1) := by decide +kernel
theorem dX7_wantsOf_69 : decode cX7_wantsOf 69 = .ok (.iconst 5, 1) := by decide +kernel
theorem dX7_wantsOf_70 : decode cX7_wantsOf 70 = .ok (.invokevirtual 113, 3) := by decide +kernel
theorem dX7_wantsOf_73 : decode cX7_wantsOf 73 = .ok (.bipush (-2), 2) := by decide +kernel
theorem dX7_wantsOf_75 : decode cX7_wantsOf 75 = .ok (.if_icmp .ne 13, 3) := by decide +kernel
theorem dX7_wantsOf_78 : decode cX7_wantsOf 78 = .ok (.aload_n 0, 1) := by decide +kernel
theorem dX7_wantsOf_79 : decode cX7_wantsOf 79 = .ok (.iload_n 1, 1) := by decide +kernel
theorem dX7_wantsOf_80 : decode cX7_wantsOf 80 = .ok (.bipush 10, 2) := by decide +kernel
theorem dX7_wantsOf_82 : decode cX7_wantsOf 82 = .ok (.invokevirtual 113, 3) := by decide +kernel
theorem dX7_wantsOf_85 : decode cX7_wantsOf 85 = .ok (.goto 20, 3) := by decide +kernel
theorem dX7_wantsOf_88 : decode cX7_wantsOf 88 = .ok (.aload_n 0, 1) := by decide +kernel
theorem dX7_wantsOf_89 : decode cX7_wantsOf 89 = .ok (.iload_n 1, 1) := by decide +kernel
theorem dX7_wantsOf_90 : decode cX7_wantsOf 90 = .ok (.bipush 10, 2) := by decide +kernel
theorem dX7_wantsOf_92 : decode cX7_wantsOf 92 = .ok (.invokevirtual 113, 3) := by decide +kernel
theorem dX7_wantsOf_95 : decode cX7_wantsOf 95 = .ok (.aload_n 0, 1) := by decide +kernel
theorem dX7_wantsOf_96 : decode cX7_wantsOf 96 = .ok (.iload_n 1, 1) := by decide +kernel
theorem dX7_wantsOf_97 : decode cX7_wantsOf 97 = .ok (.bipush 6, 2) := by decide +kernel
theorem dX7_wantsOf_99 : decode cX7_wantsOf 99 = .ok (.invokevirtual 113, 3) := by decide +kernel
theorem dX7_wantsOf_102 : decode cX7_wantsOf 102 = .ok (.invokestatic 119, 3) := by decide +kernel
theorem dX7_wantsOf_105 : decode cX7_wantsOf 105 = .ok (.ireturn, 1) := by decide +kernel
theorem ms_X7_in : MS yX7_in cX7_in 6 (some .boolean) 3 := ⟨wd_8_12, wd_8_11, wd_1_5, by decide, by decide, by decide +kernel⟩
theorem ms_X7_least : MS yX7_least cX7_least 2 (some .int) 2 := ⟨wd_27_17, wd_27_16, wd_1_5, by decide, by decide, by decide +kernel⟩
theorem ms_X7_whole : MS yX7_whole cX7_whole 2 (some .int) 2 := ⟨wd_28_21, wd_28_20, wd_1_5, by decide, by decide, by decide +kernel⟩
theorem mv_X7_of : MV yX7_of cX7_of 3 (some .int) 2 := ⟨wd_26_23, wd_26_21, wd_26_22, wd_1_5, by decide, by decide, by decide +kernel⟩
theorem mv_X7_ofReach : MV yX7_ofReach cX7_ofReach 3 (some .int) 2 := ⟨wd_28_18, wd_28_16, wd_28_17, wd_1_5, by decide, by decide, by decide +kernel⟩
theorem mv_X7_ofStore : MV yX7_ofStore cX7_ofStore 3 (some .int) 2 := ⟨wd_27_3, wd_27_1, wd_27_2, wd_1_5, by decide, by decide, by decide +kernel⟩
theorem mv_X7_reaches : MV yX7_reaches cX7_reaches 1 (some .int) 0 := ⟨wd_28_10, wd_28_8, wd_28_9, wd_1_5, by decide, by decide, by decide +kernel⟩
theorem mv_X7_rights : MV yX7_rights cX7_rights 1 (some .int) 0 := ⟨wd_19_7, wd_19_5, wd_19_6, wd_1_5, by decide, by decide, by decide +kernel⟩
theorem mv_X7_stores : MV yX7_stores cX7_stores 1 (some .int) 0 := ⟨wd_26_15, wd_26_13, wd_26_14, wd_1_5, by decide, by decide, by decide +kernel⟩
set_option maxHeartbeats 4000000 in
set_option maxRecDepth 100000 in
theorem c_X7_in (E : Ev) (m : TD) (nw : TD) (ws : TD) (kp : TD) (as : TD) (rd : TD) (sc : TD) (ty : TD) (ik : TD) (a0 : Int64) (a1 : Int64) (a2 : Int64) : TcI E yX7_in cX7_in 6 .boolean ({ frames := 1, cells := 0, slots := 0, locals := 40 }) [.long a0, .long a1, .long a2] (fun H => TH E (tbM m nw ws kp as rd sc ty ik) H) (fun v H => (0 ≤ v.toInt ∧ v.toInt ≤ 1) ∧ ((v.toInt = 1 ∧ a1.toInt ≤ a0.toInt ∧ a0.toInt ≤ a2.toInt) ∨ (v.toInt = 0 ∧ (a0.toInt < a1.toInt ∨ a2.toInt < a0.toInt))) ∧ TH E (tbM m nw ws kp as rd sc ty ik) H) := by
  refine teI (by decide) (Nat.le_of_ble_eq_true rfl) ?_
  intro p_ ev_ s mi_ below_ meth cd_ ls F hK hN hO hH hS hl
  have hH : TH E (tbM m nw ws kp as rd sc ty ik) s.heap := hH
  have hl : lv_has ls 6 [(0, .long a0), (2, .long a1), (4, .long a2)] := hl
  refine lv_lload_n F.1 F.2.1 dX7_in_0 rfl (lv_at hl 0 rfl) ?_
  refine lv_lload_n F.1 F.2.1 dX7_in_1 rfl (lv_at hl 1 rfl) ?_
  refine tLcmp F dX7_in_2 (fun z_1 hz_1 => ?_)
  refine z_lt (tgt := 17) F dX7_in_3 (by decide) (fun c_2 => ?_) (fun c_2 => ?_)
  · skip
    have r_3 : (-1) ≤ z_1.toInt ∧ z_1.toInt ≤ (-1) := by have h9_ := (by omega); omega
    refine lv_iconst (v := 0) F.1 F.2.1 dX7_in_17 (by decide) ?_
    refine topK (a := 0) (by decide) (fun k_5 hk_5 => ?_)
    exact txI F hS dX7_in_18 (nar01 (wkb (eqb hk_5) rfl rfl)) (⟨(wkb (eqb hk_5) rfl rfl), (by omega), hH⟩)
  · skip
    have r_4 : 0 ≤ z_1.toInt ∧ z_1.toInt ≤ 1 := by have h9_ := (by omega); omega
    refine lv_lload_n F.1 F.2.1 dX7_in_6 rfl (lv_at hl 0 rfl) ?_
    refine lv_lload F.1 F.2.1 dX7_in_7 (lv_at hl 2 rfl) ?_
    refine tLcmp F dX7_in_9 (fun z_6 hz_6 => ?_)
    refine z_gt (tgt := 17) F dX7_in_10 (by decide) (fun c_7 => ?_) (fun c_7 => ?_)
    · skip
      have r_8 : 1 ≤ z_6.toInt ∧ z_6.toInt ≤ 1 := by have h9_ := (by omega); omega
      refine lv_iconst (v := 0) F.1 F.2.1 dX7_in_17 (by decide) ?_
      refine topK (a := 0) (by decide) (fun k_10 hk_10 => ?_)
      exact txI F hS dX7_in_18 (nar01 (wkb (eqb hk_10) rfl rfl)) (⟨(wkb (eqb hk_10) rfl rfl), (by omega), hH⟩)
    · skip
      have r_9 : (-1) ≤ z_6.toInt ∧ z_6.toInt ≤ 0 := by have h9_ := (by omega); omega
      refine lv_iconst (v := 1) F.1 F.2.1 dX7_in_13 (by decide) ?_
      refine topK (a := 1) (by decide) (fun k_11 hk_11 => ?_)
      refine lv_goto (tgt := 18) F.1 F.2.1 dX7_in_14 (by decide) ?_
      exact txI F hS dX7_in_18 (nar01 (wkb (eqb hk_11) rfl rfl)) (⟨(wkb (eqb hk_11) rfl rfl), (by omega), hH⟩)
set_option maxHeartbeats 4000000 in
set_option maxRecDepth 100000 in
theorem c_X7_has (E : Ev) (m : TD) (nw : TD) (ws : TD) (kp : TD) (as : TD) (rd : TD) (sc : TD) (ty : TD) (ik : TD) (a0 : Int32) (a1 : Int32) : TcI E yX7_has cX7_has 2 .boolean ({ frames := 1, cells := 0, slots := 0, locals := 40 }) [.int a0, .int a1] (fun H => TH E (tbM m nw ws kp as rd sc ty ik) H) (fun v H => (0 ≤ v.toInt ∧ v.toInt ≤ 1) ∧ TH E (tbM m nw ws kp as rd sc ty ik) H) := by
  refine teI (by decide) (Nat.le_of_ble_eq_true rfl) ?_
  intro p_ ev_ s mi_ below_ meth cd_ ls F hK hN hO hH hS hl
  have hH : TH E (tbM m nw ws kp as rd sc ty ik) s.heap := hH
  have hl : lv_has ls 2 [(0, .int a0), (1, .int a1)] := hl
  refine lv_iload_n F.1 F.2.1 dX7_has_0 rfl (lv_at hl 0 rfl) ?_
  refine lv_iload_n F.1 F.2.1 dX7_has_1 rfl (lv_at hl 1 rfl) ?_
  refine lv_ishr F.1 F.2.1 dX7_has_2 ?_
  refine topF (fun z_1 => ?_)
  refine lv_iconst (v := 1) F.1 F.2.1 dX7_has_3 (by decide) ?_
  refine topK (a := 1) (by decide) (fun k_2 hk_2 => ?_)
  refine lv_iand F.1 F.2.1 dX7_has_4 ?_
  refine topF (fun z_3 => ?_)
  refine lv_iconst (v := 1) F.1 F.2.1 dX7_has_5 (by decide) ?_
  refine topK (a := 1) (by decide) (fun k_4 hk_4 => ?_)
  refine b_ne (tgt := 13) F dX7_has_6 (by decide) (fun c_5 => ?_) (fun c_5 => ?_)
  · skip
    refine lv_iconst (v := 0) F.1 F.2.1 dX7_has_13 (by decide) ?_
    refine topK (a := 0) (by decide) (fun k_7 hk_7 => ?_)
    exact txI F hS dX7_has_14 (nar01 (wkb (eqb hk_7) rfl rfl)) (⟨(wkb (eqb hk_7) rfl rfl), hH⟩)
  · skip
    have r_6 : 1 ≤ z_3.toInt ∧ z_3.toInt ≤ 1 := by have h9_ := (i32b z_3); omega
    refine lv_iconst (v := 1) F.1 F.2.1 dX7_has_9 (by decide) ?_
    refine topK (a := 1) (by decide) (fun k_8 hk_8 => ?_)
    refine lv_goto (tgt := 14) F.1 F.2.1 dX7_has_10 (by decide) ?_
    exact txI F hS dX7_has_14 (nar01 (wkb (eqb hk_8) rfl rfl)) (⟨(wkb (eqb hk_8) rfl rfl), hH⟩)
set_option maxHeartbeats 4000000 in
set_option maxRecDepth 100000 in
theorem c_X7_least (E : Ev) (m : TD) (nw : TD) (ws : TD) (kp : TD) (as : TD) (rd : TD) (sc : TD) (ty : TD) (ik : TD) (a0 : Int32) (a1 : Int32) : TcI E yX7_least cX7_least 2 .int ({ frames := 1, cells := 0, slots := 0, locals := 40 }) [.int a0, .int a1] (fun H => TH E (tbM m nw ws kp as rd sc ty ik) H) (fun v H => ((-2147483648) ≤ v.toInt ∧ v.toInt ≤ 2147483647) ∧ ((v.toInt = a0.toInt ∧ a0.toInt ≤ a1.toInt) ∨ (v.toInt = a1.toInt ∧ a1.toInt ≤ a0.toInt)) ∧ TH E (tbM m nw ws kp as rd sc ty ik) H) := by
  refine teI (by decide) (Nat.le_of_ble_eq_true rfl) ?_
  intro p_ ev_ s mi_ below_ meth cd_ ls F hK hN hO hH hS hl
  have hH : TH E (tbM m nw ws kp as rd sc ty ik) s.heap := hH
  have hl : lv_has ls 2 [(0, .int a0), (1, .int a1)] := hl
  refine lv_iload_n F.1 F.2.1 dX7_least_0 rfl (lv_at hl 0 rfl) ?_
  refine lv_iload_n F.1 F.2.1 dX7_least_1 rfl (lv_at hl 1 rfl) ?_
  refine b_ge (tgt := 9) F dX7_least_2 (by decide) (fun c_1 => ?_) (fun c_1 => ?_)
  · skip
    refine lv_iload_n F.1 F.2.1 dX7_least_9 rfl (lv_at hl 1 rfl) ?_
    exact txI F hS dX7_least_10 rfl (⟨(i32b _), (by omega), hH⟩)
  · skip
    refine lv_iload_n F.1 F.2.1 dX7_least_5 rfl (lv_at hl 0 rfl) ?_
    refine lv_goto (tgt := 10) F.1 F.2.1 dX7_least_6 (by decide) ?_
    exact txI F hS dX7_least_10 rfl (⟨(i32b _), (by omega), hH⟩)
set_option maxHeartbeats 4000000 in
set_option maxRecDepth 100000 in
theorem c_X7_whole (E : Ev) (m : TD) (nw : TD) (ws : TD) (kp : TD) (as : TD) (rd : TD) (sc : TD) (ty : TD) (ik : TD) (a0 : Int32) (a1 : Int32) (ha1 : 1 ≤ a1.toInt ∧ a1.toInt ≤ 2147483647) : TcI E yX7_whole cX7_whole 2 .int ({ frames := 1, cells := 0, slots := 0, locals := 40 }) [.int a0, .int a1] (fun H => TH E (tbM m nw ws kp as rd sc ty ik) H) (fun v H => ((-2147483648) ≤ v.toInt ∧ v.toInt ≤ 2147483647) ∧ TH E (tbM m nw ws kp as rd sc ty ik) H) := by
  refine teI (by decide) (Nat.le_of_ble_eq_true rfl) ?_
  intro p_ ev_ s mi_ below_ meth cd_ ls F hK hN hO hH hS hl
  have hH : TH E (tbM m nw ws kp as rd sc ty ik) s.heap := hH
  have hl : lv_has ls 2 [(0, .int a0), (1, .int a1)] := hl
  refine lv_iload_n F.1 F.2.1 dX7_whole_0 rfl (lv_at hl 0 rfl) ?_
  refine lv_iload_n F.1 F.2.1 dX7_whole_1 rfl (lv_at hl 1 rfl) ?_
  refine tDivF F dX7_whole_2 (by omega) (fun z_1 => ?_)
  exact txI F hS dX7_whole_3 rfl (⟨(i32b _), hH⟩)
set_option maxHeartbeats 4000000 in
set_option maxRecDepth 100000 in
theorem c_X7_reaches (E : Ev) (ws : TD) (kp : TD) (as : TD) (rd : TD) (sc : TD) (ty : TD) (ik : TD) (un : Int × Int) (tk : Int × Int) (xt : Int × Int) (tp : Int × Int) (sp : Int × Int) (wrb : Int × Int) (nu : Int × Int) (nab : Int × Int) (iwb : Int × Int) (X0 : Nat → Int32) (a0 : Nat) (ha0 : eT E a0 ∈ [24]) (hX0 : okA X0) : TcI E yX7_reaches cX7_reaches 1 .int ({ frames := 1, cells := 0, slots := 0, locals := 40 }) [.ref a0] (fun H => TH E (tbM (mD (.inl tp) (.inl sp) (.inl nu) (.inl un) (.inl tk) (.inl xt) (.inl wrb) (.inl nab) (.inl iwb)) (xD 660 X0) ws kp as rd sc ty ik) H) (fun v H => (0 ≤ v.toInt ∧ v.toInt ≤ 12) ∧ (v.toInt = gI X0 0) ∧ TH E (tbM (mD (.inl tp) (.inl sp) (.inl nu) (.inl un) (.inl tk) (.inl xt) (.inl wrb) (.inl nab) (.inl iwb)) (xD 660 X0) ws kp as rd sc ty ik) H) := by
  refine teI (by decide) (Nat.le_of_ble_eq_true rfl) ?_
  intro p_ ev_ s mi_ below_ meth cd_ ls F hK hN hO hH hS hl
  have hH : TH E (tbM (mD (.inl tp) (.inl sp) (.inl nu) (.inl un) (.inl tk) (.inl xt) (.inl wrb) (.inl nab) (.inl iwb)) (xD 660 X0) ws kp as rd sc ty ik) s.heap := hH
  have hl : lv_has ls 1 [(0, .ref a0)] := hl
  have hBX0 := okB hX0
  refine lv_aload_n F.1 F.2.1 dX7_reaches_0 rfl (lv_at hl 0 rfl) ?_
  refine tGetR (j := 0) F hK hH (tyb ha0 (all1 rfl)) rfl (all1 rfl) clX7 (by decide) wd_6_5 dX7_reaches_1 (fun q_1 hq_1 _ => ?_)
  refine lv_iconst (v := 0) F.1 F.2.1 dX7_reaches_4 (by decide) ?_
  refine topK (a := 0) (by decide) (fun k_2 hk_2 => ?_)
  refine tIaldX F hK hH (tyb hq_1 (all1 rfl)) (ixb (n := 660) (eqb hk_2) rfl rfl) dX7_reaches_5 (fun z_3 ez_3 => ?_)
  have gz_3 : z_3.toInt = gI X0 (0) := by unfold gI; rw [ez_3, show (k_2).toNatClampNeg = (0) from by show (k_2).toInt.toNat = _; omega]
  have hz_3 : 0 ≤ z_3.toInt ∧ z_3.toInt ≤ 12 := (by have h9_ := okA.at (i := k_2) hX0 (by omega); rw [show gI X0 (k_2).toNatClampNeg = z_3.toInt from by unfold gI; rw [ez_3]] at h9_; have h8_ := phi_0 h9_ (by omega); omega)
  exact txI F hS dX7_reaches_6 rfl (⟨hz_3, (by omega), hH⟩)
set_option maxHeartbeats 4000000 in
set_option maxRecDepth 100000 in
theorem c_X7_rights (E : Ev) (ws : TD) (kp : TD) (as : TD) (rd : TD) (sc : TD) (ty : TD) (ik : TD) (un : Int × Int) (tk : Int × Int) (xt : Int × Int) (tp : Int × Int) (sp : Int × Int) (wrb : Int × Int) (nu : Int × Int) (nab : Int × Int) (iwb : Int × Int) (X0 : Nat → Int32) (a0 : Nat) (ha0 : eT E a0 ∈ [24]) (hX0 : okA X0) : TcI E yX7_rights cX7_rights 1 .int ({ frames := 1, cells := 0, slots := 0, locals := 40 }) [.ref a0] (fun H => TH E (tbM (mD (.inl tp) (.inl sp) (.inl nu) (.inl un) (.inl tk) (.inl xt) (.inl wrb) (.inl nab) (.inl iwb)) (xD 660 X0) ws kp as rd sc ty ik) H) (fun v H => (0 ≤ v.toInt ∧ v.toInt ≤ 14) ∧ (v.toInt = gI X0 1) ∧ TH E (tbM (mD (.inl tp) (.inl sp) (.inl nu) (.inl un) (.inl tk) (.inl xt) (.inl wrb) (.inl nab) (.inl iwb)) (xD 660 X0) ws kp as rd sc ty ik) H) := by
  refine teI (by decide) (Nat.le_of_ble_eq_true rfl) ?_
  intro p_ ev_ s mi_ below_ meth cd_ ls F hK hN hO hH hS hl
  have hH : TH E (tbM (mD (.inl tp) (.inl sp) (.inl nu) (.inl un) (.inl tk) (.inl xt) (.inl wrb) (.inl nab) (.inl iwb)) (xD 660 X0) ws kp as rd sc ty ik) s.heap := hH
  have hl : lv_has ls 1 [(0, .ref a0)] := hl
  have hBX0 := okB hX0
  refine lv_aload_n F.1 F.2.1 dX7_rights_0 rfl (lv_at hl 0 rfl) ?_
  refine tGetR (j := 0) F hK hH (tyb ha0 (all1 rfl)) rfl (all1 rfl) clX7 (by decide) wd_6_5 dX7_rights_1 (fun q_1 hq_1 _ => ?_)
  refine lv_iconst (v := 1) F.1 F.2.1 dX7_rights_4 (by decide) ?_
  refine topK (a := 1) (by decide) (fun k_2 hk_2 => ?_)
  refine tIaldX F hK hH (tyb hq_1 (all1 rfl)) (ixb (n := 660) (eqb hk_2) rfl rfl) dX7_rights_5 (fun z_3 ez_3 => ?_)
  have gz_3 : z_3.toInt = gI X0 (1) := by unfold gI; rw [ez_3, show (k_2).toNatClampNeg = (1) from by show (k_2).toInt.toNat = _; omega]
  have hz_3 : 0 ≤ z_3.toInt ∧ z_3.toInt ≤ 14 := (by have h9_ := okA.at (i := k_2) hX0 (by omega); rw [show gI X0 (k_2).toNatClampNeg = z_3.toInt from by unfold gI; rw [ez_3]] at h9_; have h8_ := phi_1 h9_ (by omega); omega)
  exact txI F hS dX7_rights_6 rfl (⟨hz_3, (by omega), hH⟩)
set_option maxHeartbeats 4000000 in
set_option maxRecDepth 100000 in
theorem c_X7_stores (E : Ev) (ws : TD) (kp : TD) (as : TD) (rd : TD) (sc : TD) (ty : TD) (ik : TD) (un : Int × Int) (tk : Int × Int) (xt : Int × Int) (tp : Int × Int) (sp : Int × Int) (wrb : Int × Int) (nu : Int × Int) (nab : Int × Int) (iwb : Int × Int) (X0 : Nat → Int32) (a0 : Nat) (ha0 : eT E a0 ∈ [24]) (hX0 : okA X0) : TcI E yX7_stores cX7_stores 1 .int ({ frames := 1, cells := 0, slots := 0, locals := 40 }) [.ref a0] (fun H => TH E (tbM (mD (.inl tp) (.inl sp) (.inl nu) (.inl un) (.inl tk) (.inl xt) (.inl wrb) (.inl nab) (.inl iwb)) (xD 660 X0) ws kp as rd sc ty ik) H) (fun v H => (0 ≤ v.toInt ∧ v.toInt ≤ 4) ∧ (v.toInt = gI X0 2) ∧ TH E (tbM (mD (.inl tp) (.inl sp) (.inl nu) (.inl un) (.inl tk) (.inl xt) (.inl wrb) (.inl nab) (.inl iwb)) (xD 660 X0) ws kp as rd sc ty ik) H) := by
  refine teI (by decide) (Nat.le_of_ble_eq_true rfl) ?_
  intro p_ ev_ s mi_ below_ meth cd_ ls F hK hN hO hH hS hl
  have hH : TH E (tbM (mD (.inl tp) (.inl sp) (.inl nu) (.inl un) (.inl tk) (.inl xt) (.inl wrb) (.inl nab) (.inl iwb)) (xD 660 X0) ws kp as rd sc ty ik) s.heap := hH
  have hl : lv_has ls 1 [(0, .ref a0)] := hl
  have hBX0 := okB hX0
  refine lv_aload_n F.1 F.2.1 dX7_stores_0 rfl (lv_at hl 0 rfl) ?_
  refine tGetR (j := 0) F hK hH (tyb ha0 (all1 rfl)) rfl (all1 rfl) clX7 (by decide) wd_6_5 dX7_stores_1 (fun q_1 hq_1 _ => ?_)
  refine lv_iconst (v := 2) F.1 F.2.1 dX7_stores_4 (by decide) ?_
  refine topK (a := 2) (by decide) (fun k_2 hk_2 => ?_)
  refine tIaldX F hK hH (tyb hq_1 (all1 rfl)) (ixb (n := 660) (eqb hk_2) rfl rfl) dX7_stores_5 (fun z_3 ez_3 => ?_)
  have gz_3 : z_3.toInt = gI X0 (2) := by unfold gI; rw [ez_3, show (k_2).toNatClampNeg = (2) from by show (k_2).toInt.toNat = _; omega]
  have hz_3 : 0 ≤ z_3.toInt ∧ z_3.toInt ≤ 4 := (by have h9_ := okA.at (i := k_2) hX0 (by omega); rw [show gI X0 (k_2).toNatClampNeg = z_3.toInt from by unfold gI; rw [ez_3]] at h9_; have h8_ := phi_2 h9_ (by omega); omega)
  exact txI F hS dX7_stores_6 rfl (⟨hz_3, (by omega), hH⟩)
set_option maxHeartbeats 4000000 in
set_option maxRecDepth 100000 in
theorem c_X7_isReach (E : Ev) (ws : TD) (kp : TD) (as : TD) (rd : TD) (sc : TD) (ty : TD) (ik : TD) (un : Int × Int) (tk : Int × Int) (xt : Int × Int) (tp : Int × Int) (sp : Int × Int) (wrb : Int × Int) (nu : Int × Int) (nab : Int × Int) (iwb : Int × Int) (X0 : Nat → Int32) (a0 : Nat) (a1 : Int32) (ha0 : eT E a0 ∈ [24]) (hX0 : okA X0) : TcI E yX7_isReach cX7_isReach 2 .boolean ({ frames := 2, cells := 0, slots := 0, locals := 65 }) [.ref a0, .int a1] (fun H => TH E (tbM (mD (.inl tp) (.inl sp) (.inl nu) (.inl un) (.inl tk) (.inl xt) (.inl wrb) (.inl nab) (.inl iwb)) (xD 660 X0) ws kp as rd sc ty ik) H) (fun v H => (0 ≤ v.toInt ∧ v.toInt ≤ 1) ∧ (v.toInt = 1 → 0 ≤ a1.toInt ∧ a1.toInt ≤ 11) ∧ (v.toInt = 1 → a1.toInt < gI X0 0) ∧ TH E (tbM (mD (.inl tp) (.inl sp) (.inl nu) (.inl un) (.inl tk) (.inl xt) (.inl wrb) (.inl nab) (.inl iwb)) (xD 660 X0) ws kp as rd sc ty ik) H) := by
  refine teI (by decide) (Nat.le_of_ble_eq_true rfl) ?_
  intro p_ ev_ s mi_ below_ meth cd_ ls F hK hN hO hH hS hl
  have hH : TH E (tbM (mD (.inl tp) (.inl sp) (.inl nu) (.inl un) (.inl tk) (.inl xt) (.inl wrb) (.inl nab) (.inl iwb)) (xD 660 X0) ws kp as rd sc ty ik) s.heap := hH
  have hl : lv_has ls 2 [(0, .ref a0), (1, .int a1)] := hl
  have hBX0 := okB hX0
  refine lv_iload_n F.1 F.2.1 dX7_isReach_0 rfl (lv_at hl 1 rfl) ?_
  refine tI2l F dX7_isReach_1 (fun w_1 hw_1 => ?_)
  refine lv_lconst (v := 0) F.1 F.2.1 dX7_isReach_2 (by decide) ?_
  refine topKL (a := 0) (by decide) (fun j_2 hj_2 => ?_)
  refine lv_aload_n F.1 F.2.1 dX7_isReach_3 rfl (lv_at hl 0 rfl) ?_
  refine tVi (b := a0) (As := []) (rest := [.long j_2, .long w_1]) F hK hN hO (c_X7_reaches E ws kp as rd sc ty ik un tk xt tp sp wrb nu nab iwb X0 a0 ha0 hX0) mv_X7_reaches wd_28_7 ⟨Nat.le_of_ble_eq_true rfl, Nat.le_of_ble_eq_true rfl⟩ ⟨Nat.le_of_ble_eq_true rfl, Nat.le_of_ble_eq_true rfl⟩ hH hS (tRecv hK hH (tyb ha0 (all1 rfl)) clX7) rfl hl.1 (Nat.le_of_ble_eq_true rfl) dX7_isReach_4 (fun z_3 H locs hq hS => ?_)
  obtain ⟨f_4, f_5, hH⟩ := hq
  have hH : TH E (tbM (mD (.inl tp) (.inl sp) (.inl nu) (.inl un) (.inl tk) (.inl xt) (.inl wrb) (.inl nab) (.inl iwb)) (xD 660 X0) ws kp as rd sc ty ik) H := hH
  refine lv_iconst (v := 1) F.1 F.2.1 dX7_isReach_7 (by decide) ?_
  refine topK (a := 1) (by decide) (fun k_6 hk_6 => ?_)
  refine tSub (lo := (-1)) (hi := 11) F dX7_isReach_8 f_4 (eqb hk_6) rfl (fun z_7 hz_7 => ?_)
  refine tI2l F dX7_isReach_9 (fun w_8 hw_8 => ?_)
  refine tSi (As := [.long w_1, .long j_2, .long w_8]) (rest := []) F hK hN hO (c_X7_in E (mD (.inl tp) (.inl sp) (.inl nu) (.inl un) (.inl tk) (.inl xt) (.inl wrb) (.inl nab) (.inl iwb)) (xD 660 X0) ws kp as rd sc ty ik w_1 j_2 w_8) ms_X7_in wd_8_10 ⟨Nat.le_of_ble_eq_true rfl, Nat.le_of_ble_eq_true rfl⟩ ⟨Nat.le_of_ble_eq_true rfl, Nat.le_of_ble_eq_true rfl⟩ hH hS rfl hl.1 (Nat.le_of_ble_eq_true rfl) dX7_isReach_10 (fun z_9 H locs hq hS => ?_)
  obtain ⟨f_10, f_11, hH⟩ := hq
  have hH : TH E (tbM (mD (.inl tp) (.inl sp) (.inl nu) (.inl un) (.inl tk) (.inl xt) (.inl wrb) (.inl nab) (.inl iwb)) (xD 660 X0) ws kp as rd sc ty ik) H := hH
  exact txI F hS dX7_isReach_13 (nar01 f_10) (⟨f_10, (by omega), (by omega), hH⟩)
set_option maxHeartbeats 4000000 in
set_option maxRecDepth 100000 in
theorem c_X7_isRight (E : Ev) (ws : TD) (kp : TD) (as : TD) (rd : TD) (sc : TD) (ty : TD) (ik : TD) (un : Int × Int) (tk : Int × Int) (xt : Int × Int) (tp : Int × Int) (sp : Int × Int) (wrb : Int × Int) (nu : Int × Int) (nab : Int × Int) (iwb : Int × Int) (X0 : Nat → Int32) (a0 : Nat) (a1 : Int32) (ha0 : eT E a0 ∈ [24]) (hX0 : okA X0) : TcI E yX7_isRight cX7_isRight 2 .boolean ({ frames := 2, cells := 0, slots := 0, locals := 65 }) [.ref a0, .int a1] (fun H => TH E (tbM (mD (.inl tp) (.inl sp) (.inl nu) (.inl un) (.inl tk) (.inl xt) (.inl wrb) (.inl nab) (.inl iwb)) (xD 660 X0) ws kp as rd sc ty ik) H) (fun v H => (0 ≤ v.toInt ∧ v.toInt ≤ 1) ∧ (v.toInt = 1 → 0 ≤ a1.toInt ∧ a1.toInt ≤ 13) ∧ (v.toInt = 1 → a1.toInt < gI X0 1) ∧ TH E (tbM (mD (.inl tp) (.inl sp) (.inl nu) (.inl un) (.inl tk) (.inl xt) (.inl wrb) (.inl nab) (.inl iwb)) (xD 660 X0) ws kp as rd sc ty ik) H) := by
  refine teI (by decide) (Nat.le_of_ble_eq_true rfl) ?_
  intro p_ ev_ s mi_ below_ meth cd_ ls F hK hN hO hH hS hl
  have hH : TH E (tbM (mD (.inl tp) (.inl sp) (.inl nu) (.inl un) (.inl tk) (.inl xt) (.inl wrb) (.inl nab) (.inl iwb)) (xD 660 X0) ws kp as rd sc ty ik) s.heap := hH
  have hl : lv_has ls 2 [(0, .ref a0), (1, .int a1)] := hl
  have hBX0 := okB hX0
  refine lv_iload_n F.1 F.2.1 dX7_isRight_0 rfl (lv_at hl 1 rfl) ?_
  refine tI2l F dX7_isRight_1 (fun w_1 hw_1 => ?_)
  refine lv_lconst (v := 0) F.1 F.2.1 dX7_isRight_2 (by decide) ?_
  refine topKL (a := 0) (by decide) (fun j_2 hj_2 => ?_)
  refine lv_aload_n F.1 F.2.1 dX7_isRight_3 rfl (lv_at hl 0 rfl) ?_
  refine tVi (b := a0) (As := []) (rest := [.long j_2, .long w_1]) F hK hN hO (c_X7_rights E ws kp as rd sc ty ik un tk xt tp sp wrb nu nab iwb X0 a0 ha0 hX0) mv_X7_rights wd_19_4 ⟨Nat.le_of_ble_eq_true rfl, Nat.le_of_ble_eq_true rfl⟩ ⟨Nat.le_of_ble_eq_true rfl, Nat.le_of_ble_eq_true rfl⟩ hH hS (tRecv hK hH (tyb ha0 (all1 rfl)) clX7) rfl hl.1 (Nat.le_of_ble_eq_true rfl) dX7_isRight_4 (fun z_3 H locs hq hS => ?_)
  obtain ⟨f_4, f_5, hH⟩ := hq
  have hH : TH E (tbM (mD (.inl tp) (.inl sp) (.inl nu) (.inl un) (.inl tk) (.inl xt) (.inl wrb) (.inl nab) (.inl iwb)) (xD 660 X0) ws kp as rd sc ty ik) H := hH
  refine lv_iconst (v := 1) F.1 F.2.1 dX7_isRight_7 (by decide) ?_
  refine topK (a := 1) (by decide) (fun k_6 hk_6 => ?_)
  refine tSub (lo := (-1)) (hi := 13) F dX7_isRight_8 f_4 (eqb hk_6) rfl (fun z_7 hz_7 => ?_)
  refine tI2l F dX7_isRight_9 (fun w_8 hw_8 => ?_)
  refine tSi (As := [.long w_1, .long j_2, .long w_8]) (rest := []) F hK hN hO (c_X7_in E (mD (.inl tp) (.inl sp) (.inl nu) (.inl un) (.inl tk) (.inl xt) (.inl wrb) (.inl nab) (.inl iwb)) (xD 660 X0) ws kp as rd sc ty ik w_1 j_2 w_8) ms_X7_in wd_8_10 ⟨Nat.le_of_ble_eq_true rfl, Nat.le_of_ble_eq_true rfl⟩ ⟨Nat.le_of_ble_eq_true rfl, Nat.le_of_ble_eq_true rfl⟩ hH hS rfl hl.1 (Nat.le_of_ble_eq_true rfl) dX7_isRight_10 (fun z_9 H locs hq hS => ?_)
  obtain ⟨f_10, f_11, hH⟩ := hq
  have hH : TH E (tbM (mD (.inl tp) (.inl sp) (.inl nu) (.inl un) (.inl tk) (.inl xt) (.inl wrb) (.inl nab) (.inl iwb)) (xD 660 X0) ws kp as rd sc ty ik) H := hH
  exact txI F hS dX7_isRight_13 (nar01 f_10) (⟨f_10, (by omega), (by omega), hH⟩)
set_option maxHeartbeats 4000000 in
set_option maxRecDepth 100000 in
theorem c_X7_isRight_x (E : Ev) (ws : TD) (kp : TD) (as : TD) (rd : TD) (sc : TD) (ty : TD) (ik : TD) (un : Int × Int) (tk : Int × Int) (xt : Int × Int) (tp : Int × Int) (sp : Int × Int) (wrb : Int × Int) (nu : Int × Int) (nab : Int × Int) (iwb : Int × Int) (X0 : Nat → Int32) (a0 : Nat) (a1 : Int32) (ha0 : eT E a0 ∈ [24]) (hX0 : okA X0) : TcI E yX7_isRight cX7_isRight 2 .boolean ({ frames := 2, cells := 0, slots := 0, locals := 65 }) [.ref a0, .int a1] (fun H => TH E (tbM (mD (.inl tp) (.inl sp) (.inl nu) (.inl un) (.inl tk) (.inl xt) (.inl wrb) (.inl nab) (.inl iwb)) (xD 660 X0) ws kp as rd sc ty ik) H) (fun v H => (0 ≤ v.toInt ∧ v.toInt ≤ 1) ∧ (v.toInt = 1 → 0 ≤ a1.toInt ∧ a1.toInt ≤ 13) ∧ ((v.toInt = 1 ∧ 0 ≤ a1.toInt ∧ a1.toInt < gI X0 1) ∨ (v.toInt = 0 ∧ (a1.toInt < 0 ∨ gI X0 1 ≤ a1.toInt))) ∧ TH E (tbM (mD (.inl tp) (.inl sp) (.inl nu) (.inl un) (.inl tk) (.inl xt) (.inl wrb) (.inl nab) (.inl iwb)) (xD 660 X0) ws kp as rd sc ty ik) H) := by
  refine teI (by decide) (Nat.le_of_ble_eq_true rfl) ?_
  intro p_ ev_ s mi_ below_ meth cd_ ls F hK hN hO hH hS hl
  have hH : TH E (tbM (mD (.inl tp) (.inl sp) (.inl nu) (.inl un) (.inl tk) (.inl xt) (.inl wrb) (.inl nab) (.inl iwb)) (xD 660 X0) ws kp as rd sc ty ik) s.heap := hH
  have hl : lv_has ls 2 [(0, .ref a0), (1, .int a1)] := hl
  have hBX0 := okB hX0
  refine lv_iload_n F.1 F.2.1 dX7_isRight_0 rfl (lv_at hl 1 rfl) ?_
  refine tI2l F dX7_isRight_1 (fun w_1 hw_1 => ?_)
  refine lv_lconst (v := 0) F.1 F.2.1 dX7_isRight_2 (by decide) ?_
  refine topKL (a := 0) (by decide) (fun j_2 hj_2 => ?_)
  refine lv_aload_n F.1 F.2.1 dX7_isRight_3 rfl (lv_at hl 0 rfl) ?_
  refine tVi (b := a0) (As := []) (rest := [.long j_2, .long w_1]) F hK hN hO (c_X7_rights E ws kp as rd sc ty ik un tk xt tp sp wrb nu nab iwb X0 a0 ha0 hX0) mv_X7_rights wd_19_4 ⟨Nat.le_of_ble_eq_true rfl, Nat.le_of_ble_eq_true rfl⟩ ⟨Nat.le_of_ble_eq_true rfl, Nat.le_of_ble_eq_true rfl⟩ hH hS (tRecv hK hH (tyb ha0 (all1 rfl)) clX7) rfl hl.1 (Nat.le_of_ble_eq_true rfl) dX7_isRight_4 (fun z_3 H locs hq hS => ?_)
  obtain ⟨f_4, f_5, hH⟩ := hq
  have hH : TH E (tbM (mD (.inl tp) (.inl sp) (.inl nu) (.inl un) (.inl tk) (.inl xt) (.inl wrb) (.inl nab) (.inl iwb)) (xD 660 X0) ws kp as rd sc ty ik) H := hH
  refine lv_iconst (v := 1) F.1 F.2.1 dX7_isRight_7 (by decide) ?_
  refine topK (a := 1) (by decide) (fun k_6 hk_6 => ?_)
  refine tSub (lo := (-1)) (hi := 13) F dX7_isRight_8 f_4 (eqb hk_6) rfl (fun z_7 hz_7 => ?_)
  refine tI2l F dX7_isRight_9 (fun w_8 hw_8 => ?_)
  refine tSi (As := [.long w_1, .long j_2, .long w_8]) (rest := []) F hK hN hO (c_X7_in E (mD (.inl tp) (.inl sp) (.inl nu) (.inl un) (.inl tk) (.inl xt) (.inl wrb) (.inl nab) (.inl iwb)) (xD 660 X0) ws kp as rd sc ty ik w_1 j_2 w_8) ms_X7_in wd_8_10 ⟨Nat.le_of_ble_eq_true rfl, Nat.le_of_ble_eq_true rfl⟩ ⟨Nat.le_of_ble_eq_true rfl, Nat.le_of_ble_eq_true rfl⟩ hH hS rfl hl.1 (Nat.le_of_ble_eq_true rfl) dX7_isRight_10 (fun z_9 H locs hq hS => ?_)
  obtain ⟨f_10, f_11, hH⟩ := hq
  have hH : TH E (tbM (mD (.inl tp) (.inl sp) (.inl nu) (.inl un) (.inl tk) (.inl xt) (.inl wrb) (.inl nab) (.inl iwb)) (xD 660 X0) ws kp as rd sc ty ik) H := hH
  exact txI F hS dX7_isRight_13 (nar01 f_10) (⟨f_10, (by omega), (by omega), hH⟩)
set_option maxHeartbeats 4000000 in
set_option maxRecDepth 100000 in
theorem c_X7_isStore (E : Ev) (ws : TD) (kp : TD) (as : TD) (rd : TD) (sc : TD) (ty : TD) (ik : TD) (un : Int × Int) (tk : Int × Int) (xt : Int × Int) (tp : Int × Int) (sp : Int × Int) (wrb : Int × Int) (nu : Int × Int) (nab : Int × Int) (iwb : Int × Int) (X0 : Nat → Int32) (a0 : Nat) (a1 : Int32) (ha0 : eT E a0 ∈ [24]) (hX0 : okA X0) : TcI E yX7_isStore cX7_isStore 2 .boolean ({ frames := 2, cells := 0, slots := 0, locals := 65 }) [.ref a0, .int a1] (fun H => TH E (tbM (mD (.inl tp) (.inl sp) (.inl nu) (.inl un) (.inl tk) (.inl xt) (.inl wrb) (.inl nab) (.inl iwb)) (xD 660 X0) ws kp as rd sc ty ik) H) (fun v H => (0 ≤ v.toInt ∧ v.toInt ≤ 1) ∧ (v.toInt = 1 → 0 ≤ a1.toInt ∧ a1.toInt ≤ 3) ∧ (v.toInt = 1 → a1.toInt < gI X0 2) ∧ TH E (tbM (mD (.inl tp) (.inl sp) (.inl nu) (.inl un) (.inl tk) (.inl xt) (.inl wrb) (.inl nab) (.inl iwb)) (xD 660 X0) ws kp as rd sc ty ik) H) := by
  refine teI (by decide) (Nat.le_of_ble_eq_true rfl) ?_
  intro p_ ev_ s mi_ below_ meth cd_ ls F hK hN hO hH hS hl
  have hH : TH E (tbM (mD (.inl tp) (.inl sp) (.inl nu) (.inl un) (.inl tk) (.inl xt) (.inl wrb) (.inl nab) (.inl iwb)) (xD 660 X0) ws kp as rd sc ty ik) s.heap := hH
  have hl : lv_has ls 2 [(0, .ref a0), (1, .int a1)] := hl
  have hBX0 := okB hX0
  refine lv_iload_n F.1 F.2.1 dX7_isStore_0 rfl (lv_at hl 1 rfl) ?_
  refine tI2l F dX7_isStore_1 (fun w_1 hw_1 => ?_)
  refine lv_lconst (v := 0) F.1 F.2.1 dX7_isStore_2 (by decide) ?_
  refine topKL (a := 0) (by decide) (fun j_2 hj_2 => ?_)
  refine lv_aload_n F.1 F.2.1 dX7_isStore_3 rfl (lv_at hl 0 rfl) ?_
  refine tVi (b := a0) (As := []) (rest := [.long j_2, .long w_1]) F hK hN hO (c_X7_stores E ws kp as rd sc ty ik un tk xt tp sp wrb nu nab iwb X0 a0 ha0 hX0) mv_X7_stores wd_26_12 ⟨Nat.le_of_ble_eq_true rfl, Nat.le_of_ble_eq_true rfl⟩ ⟨Nat.le_of_ble_eq_true rfl, Nat.le_of_ble_eq_true rfl⟩ hH hS (tRecv hK hH (tyb ha0 (all1 rfl)) clX7) rfl hl.1 (Nat.le_of_ble_eq_true rfl) dX7_isStore_4 (fun z_3 H locs hq hS => ?_)
  obtain ⟨f_4, f_5, hH⟩ := hq
  have hH : TH E (tbM (mD (.inl tp) (.inl sp) (.inl nu) (.inl un) (.inl tk) (.inl xt) (.inl wrb) (.inl nab) (.inl iwb)) (xD 660 X0) ws kp as rd sc ty ik) H := hH
  refine lv_iconst (v := 1) F.1 F.2.1 dX7_isStore_7 (by decide) ?_
  refine topK (a := 1) (by decide) (fun k_6 hk_6 => ?_)
  refine tSub (lo := (-1)) (hi := 3) F dX7_isStore_8 f_4 (eqb hk_6) rfl (fun z_7 hz_7 => ?_)
  refine tI2l F dX7_isStore_9 (fun w_8 hw_8 => ?_)
  refine tSi (As := [.long w_1, .long j_2, .long w_8]) (rest := []) F hK hN hO (c_X7_in E (mD (.inl tp) (.inl sp) (.inl nu) (.inl un) (.inl tk) (.inl xt) (.inl wrb) (.inl nab) (.inl iwb)) (xD 660 X0) ws kp as rd sc ty ik w_1 j_2 w_8) ms_X7_in wd_8_10 ⟨Nat.le_of_ble_eq_true rfl, Nat.le_of_ble_eq_true rfl⟩ ⟨Nat.le_of_ble_eq_true rfl, Nat.le_of_ble_eq_true rfl⟩ hH hS rfl hl.1 (Nat.le_of_ble_eq_true rfl) dX7_isStore_10 (fun z_9 H locs hq hS => ?_)
  obtain ⟨f_10, f_11, hH⟩ := hq
  have hH : TH E (tbM (mD (.inl tp) (.inl sp) (.inl nu) (.inl un) (.inl tk) (.inl xt) (.inl wrb) (.inl nab) (.inl iwb)) (xD 660 X0) ws kp as rd sc ty ik) H := hH
  exact txI F hS dX7_isStore_13 (nar01 f_10) (⟨f_10, (by omega), (by omega), hH⟩)
set_option maxHeartbeats 4000000 in
set_option maxRecDepth 100000 in
theorem c_X7_ofReach_0 (E : Ev) (ws : TD) (kp : TD) (as : TD) (rd : TD) (sc : TD) (ty : TD) (ik : TD) (un : Int × Int) (tk : Int × Int) (xt : Int × Int) (tp : Int × Int) (sp : Int × Int) (wrb : Int × Int) (nu : Int × Int) (nab : Int × Int) (iwb : Int × Int) (X0 : Nat → Int32) (a0 : Nat) (a1 : Int32) (a2 : Int32) (ha0 : eT E a0 ∈ [24]) (ha1 : 0 ≤ a1.toInt ∧ a1.toInt ≤ 11) (ha2 : 0 ≤ a2.toInt ∧ a2.toInt ≤ 0) (hX0 : okA X0) : TcI E yX7_ofReach cX7_ofReach 3 .int ({ frames := 1, cells := 0, slots := 0, locals := 40 }) [.ref a0, .int a1, .int a2] (fun H => TH E (tbM (mD (.inl tp) (.inl sp) (.inl nu) (.inl un) (.inl tk) (.inl xt) (.inl wrb) (.inl nab) (.inl iwb)) (xD 660 X0) ws kp as rd sc ty ik) H) (fun v H => ((-1) ≤ v.toInt ∧ v.toInt ≤ 10) ∧ (v.toInt = gI X0 (6 + 6 * a1.toInt + 0).toNat) ∧ (gI X0 6 = -1 → v.toInt < a1.toInt) ∧ TH E (tbM (mD (.inl tp) (.inl sp) (.inl nu) (.inl un) (.inl tk) (.inl xt) (.inl wrb) (.inl nab) (.inl iwb)) (xD 660 X0) ws kp as rd sc ty ik) H) := by
  refine teI (by decide) (Nat.le_of_ble_eq_true rfl) ?_
  intro p_ ev_ s mi_ below_ meth cd_ ls F hK hN hO hH hS hl
  have hH : TH E (tbM (mD (.inl tp) (.inl sp) (.inl nu) (.inl un) (.inl tk) (.inl xt) (.inl wrb) (.inl nab) (.inl iwb)) (xD 660 X0) ws kp as rd sc ty ik) s.heap := hH
  have hl : lv_has ls 3 [(0, .ref a0), (1, .int a1), (2, .int a2)] := hl
  have hBX0 := okB hX0
  refine lv_aload_n F.1 F.2.1 dX7_ofReach_0 rfl (lv_at hl 0 rfl) ?_
  refine tGetR (j := 0) F hK hH (tyb ha0 (all1 rfl)) rfl (all1 rfl) clX7 (by decide) wd_6_5 dX7_ofReach_1 (fun q_1 hq_1 _ => ?_)
  refine lv_bipush (v := 6) F.1 F.2.1 dX7_ofReach_4 (by decide) ?_
  refine topK (a := 6) (by decide) (fun k_2 hk_2 => ?_)
  refine lv_bipush (v := 6) F.1 F.2.1 dX7_ofReach_6 (by decide) ?_
  refine topK (a := 6) (by decide) (fun k_3 hk_3 => ?_)
  refine lv_iload_n F.1 F.2.1 dX7_ofReach_8 rfl (lv_at hl 1 rfl) ?_
  refine tMul (lo := 0) (hi := 66) F dX7_ofReach_9 (eqb hk_3) ha1 rfl (fun z_4 hz_4 => ?_)
  have mz_4 : z_4.toInt = 6 * a1.toInt := by rw [hz_4.1, hk_3]
  refine tAdd (lo := 6) (hi := 72) F dX7_ofReach_10 (eqb hk_2) hz_4.2 rfl (fun z_5 hz_5 => ?_)
  refine lv_iload_n F.1 F.2.1 dX7_ofReach_11 rfl (lv_at hl 2 rfl) ?_
  refine tAdd (lo := 6) (hi := 72) F dX7_ofReach_12 hz_5.2 ha2 rfl (fun z_6 hz_6 => ?_)
  refine tIaldX F hK hH (tyb hq_1 (all1 rfl)) (ixb (n := 660) hz_6.2 rfl rfl) dX7_ofReach_13 (fun z_7 ez_7 => ?_)
  have gz_7 : z_7.toInt = gI X0 ((6 + 6 * a1.toInt + 0).toNat) := by unfold gI; rw [ez_7, show (z_6).toNatClampNeg = ((6 + 6 * a1.toInt + 0).toNat) from by show (z_6).toInt.toNat = _; omega]
  have oz_7 : a1.toInt = 0 → z_7.toInt = gI X0 6 := fun h0_ => by rw [gz_7, show (6 + 6 * a1.toInt + 0).toNat = 6 from by omega]
  have qz_7 := okA.at (i := z_6) hX0 (by omega)
  rw [show gI X0 (z_6).toNatClampNeg = z_7.toInt from by unfold gI; rw [ez_7]] at qz_7
  have pz_7 := phi_d qz_7 (by omega)
  have hz_7 : (-1) ≤ z_7.toInt ∧ z_7.toInt ≤ 10 := (by have h9_ := okA.at (i := z_6) hX0 (by omega); rw [show gI X0 (z_6).toNatClampNeg = z_7.toInt from by unfold gI; rw [ez_7]] at h9_; have h8_ := phi_d h9_ (by omega); omega)
  exact txI F hS dX7_ofReach_14 rfl (⟨hz_7, (by omega), (by omega), hH⟩)
set_option maxHeartbeats 4000000 in
set_option maxRecDepth 100000 in
theorem c_X7_ofReach_1 (E : Ev) (ws : TD) (kp : TD) (as : TD) (rd : TD) (sc : TD) (ty : TD) (ik : TD) (un : Int × Int) (tk : Int × Int) (xt : Int × Int) (tp : Int × Int) (sp : Int × Int) (wrb : Int × Int) (nu : Int × Int) (nab : Int × Int) (iwb : Int × Int) (X0 : Nat → Int32) (a0 : Nat) (a1 : Int32) (a2 : Int32) (ha0 : eT E a0 ∈ [24]) (ha1 : 0 ≤ a1.toInt ∧ a1.toInt ≤ 11) (ha2 : 1 ≤ a2.toInt ∧ a2.toInt ≤ 1) (hX0 : okA X0) : TcI E yX7_ofReach cX7_ofReach 3 .int ({ frames := 1, cells := 0, slots := 0, locals := 40 }) [.ref a0, .int a1, .int a2] (fun H => TH E (tbM (mD (.inl tp) (.inl sp) (.inl nu) (.inl un) (.inl tk) (.inl xt) (.inl wrb) (.inl nab) (.inl iwb)) (xD 660 X0) ws kp as rd sc ty ik) H) (fun v H => ((-2147483648) ≤ v.toInt ∧ v.toInt ≤ 2147483647) ∧ (v.toInt = gI X0 (6 + 6 * a1.toInt + 1).toNat) ∧ TH E (tbM (mD (.inl tp) (.inl sp) (.inl nu) (.inl un) (.inl tk) (.inl xt) (.inl wrb) (.inl nab) (.inl iwb)) (xD 660 X0) ws kp as rd sc ty ik) H) := by
  refine teI (by decide) (Nat.le_of_ble_eq_true rfl) ?_
  intro p_ ev_ s mi_ below_ meth cd_ ls F hK hN hO hH hS hl
  have hH : TH E (tbM (mD (.inl tp) (.inl sp) (.inl nu) (.inl un) (.inl tk) (.inl xt) (.inl wrb) (.inl nab) (.inl iwb)) (xD 660 X0) ws kp as rd sc ty ik) s.heap := hH
  have hl : lv_has ls 3 [(0, .ref a0), (1, .int a1), (2, .int a2)] := hl
  have hBX0 := okB hX0
  refine lv_aload_n F.1 F.2.1 dX7_ofReach_0 rfl (lv_at hl 0 rfl) ?_
  refine tGetR (j := 0) F hK hH (tyb ha0 (all1 rfl)) rfl (all1 rfl) clX7 (by decide) wd_6_5 dX7_ofReach_1 (fun q_1 hq_1 _ => ?_)
  refine lv_bipush (v := 6) F.1 F.2.1 dX7_ofReach_4 (by decide) ?_
  refine topK (a := 6) (by decide) (fun k_2 hk_2 => ?_)
  refine lv_bipush (v := 6) F.1 F.2.1 dX7_ofReach_6 (by decide) ?_
  refine topK (a := 6) (by decide) (fun k_3 hk_3 => ?_)
  refine lv_iload_n F.1 F.2.1 dX7_ofReach_8 rfl (lv_at hl 1 rfl) ?_
  refine tMul (lo := 0) (hi := 66) F dX7_ofReach_9 (eqb hk_3) ha1 rfl (fun z_4 hz_4 => ?_)
  have mz_4 : z_4.toInt = 6 * a1.toInt := by rw [hz_4.1, hk_3]
  refine tAdd (lo := 6) (hi := 72) F dX7_ofReach_10 (eqb hk_2) hz_4.2 rfl (fun z_5 hz_5 => ?_)
  refine lv_iload_n F.1 F.2.1 dX7_ofReach_11 rfl (lv_at hl 2 rfl) ?_
  refine tAdd (lo := 7) (hi := 73) F dX7_ofReach_12 hz_5.2 ha2 rfl (fun z_6 hz_6 => ?_)
  refine tIaldX F hK hH (tyb hq_1 (all1 rfl)) (ixb (n := 660) hz_6.2 rfl rfl) dX7_ofReach_13 (fun z_7 ez_7 => ?_)
  have gz_7 : z_7.toInt = gI X0 ((6 + 6 * a1.toInt + 1).toNat) := by unfold gI; rw [ez_7, show (z_6).toNatClampNeg = ((6 + 6 * a1.toInt + 1).toNat) from by show (z_6).toInt.toNat = _; omega]
  exact txI F hS dX7_ofReach_14 rfl (⟨(i32b _), (by omega), hH⟩)
set_option maxHeartbeats 4000000 in
set_option maxRecDepth 100000 in
theorem c_X7_ofReach_any (E : Ev) (ws : TD) (kp : TD) (as : TD) (rd : TD) (sc : TD) (ty : TD) (ik : TD) (un : Int × Int) (tk : Int × Int) (xt : Int × Int) (tp : Int × Int) (sp : Int × Int) (wrb : Int × Int) (nu : Int × Int) (nab : Int × Int) (iwb : Int × Int) (X0 : Nat → Int32) (a0 : Nat) (a1 : Int32) (a2 : Int32) (ha0 : eT E a0 ∈ [24]) (ha1 : 0 ≤ a1.toInt ∧ a1.toInt ≤ 11) (ha2 : 0 ≤ a2.toInt ∧ a2.toInt ≤ 5) (hX0 : okA X0) : TcI E yX7_ofReach cX7_ofReach 3 .int ({ frames := 1, cells := 0, slots := 0, locals := 40 }) [.ref a0, .int a1, .int a2] (fun H => TH E (tbM (mD (.inl tp) (.inl sp) (.inl nu) (.inl un) (.inl tk) (.inl xt) (.inl wrb) (.inl nab) (.inl iwb)) (xD 660 X0) ws kp as rd sc ty ik) H) (fun v H => ((-2147483648) ≤ v.toInt ∧ v.toInt ≤ 2147483647) ∧ TH E (tbM (mD (.inl tp) (.inl sp) (.inl nu) (.inl un) (.inl tk) (.inl xt) (.inl wrb) (.inl nab) (.inl iwb)) (xD 660 X0) ws kp as rd sc ty ik) H) := by
  refine teI (by decide) (Nat.le_of_ble_eq_true rfl) ?_
  intro p_ ev_ s mi_ below_ meth cd_ ls F hK hN hO hH hS hl
  have hH : TH E (tbM (mD (.inl tp) (.inl sp) (.inl nu) (.inl un) (.inl tk) (.inl xt) (.inl wrb) (.inl nab) (.inl iwb)) (xD 660 X0) ws kp as rd sc ty ik) s.heap := hH
  have hl : lv_has ls 3 [(0, .ref a0), (1, .int a1), (2, .int a2)] := hl
  have hBX0 := okB hX0
  refine lv_aload_n F.1 F.2.1 dX7_ofReach_0 rfl (lv_at hl 0 rfl) ?_
  refine tGetR (j := 0) F hK hH (tyb ha0 (all1 rfl)) rfl (all1 rfl) clX7 (by decide) wd_6_5 dX7_ofReach_1 (fun q_1 hq_1 _ => ?_)
  refine lv_bipush (v := 6) F.1 F.2.1 dX7_ofReach_4 (by decide) ?_
  refine topK (a := 6) (by decide) (fun k_2 hk_2 => ?_)
  refine lv_bipush (v := 6) F.1 F.2.1 dX7_ofReach_6 (by decide) ?_
  refine topK (a := 6) (by decide) (fun k_3 hk_3 => ?_)
  refine lv_iload_n F.1 F.2.1 dX7_ofReach_8 rfl (lv_at hl 1 rfl) ?_
  refine tMul (lo := 0) (hi := 66) F dX7_ofReach_9 (eqb hk_3) ha1 rfl (fun z_4 hz_4 => ?_)
  have mz_4 : z_4.toInt = 6 * a1.toInt := by rw [hz_4.1, hk_3]
  refine tAdd (lo := 6) (hi := 72) F dX7_ofReach_10 (eqb hk_2) hz_4.2 rfl (fun z_5 hz_5 => ?_)
  refine lv_iload_n F.1 F.2.1 dX7_ofReach_11 rfl (lv_at hl 2 rfl) ?_
  refine tAdd (lo := 6) (hi := 77) F dX7_ofReach_12 hz_5.2 ha2 rfl (fun z_6 hz_6 => ?_)
  refine tIaldX F hK hH (tyb hq_1 (all1 rfl)) (ixb (n := 660) hz_6.2 rfl rfl) dX7_ofReach_13 (fun z_7 ez_7 => ?_)
  exact txI F hS dX7_ofReach_14 rfl (⟨(i32b _), hH⟩)
set_option maxHeartbeats 4000000 in
set_option maxRecDepth 100000 in
theorem c_X7_of_0 (E : Ev) (ws : TD) (kp : TD) (as : TD) (rd : TD) (sc : TD) (ty : TD) (ik : TD) (un : Int × Int) (tk : Int × Int) (xt : Int × Int) (tp : Int × Int) (sp : Int × Int) (wrb : Int × Int) (nu : Int × Int) (nab : Int × Int) (iwb : Int × Int) (X0 : Nat → Int32) (a0 : Nat) (a1 : Int32) (a2 : Int32) (ha0 : eT E a0 ∈ [24]) (ha1 : 0 ≤ a1.toInt ∧ a1.toInt ≤ 13) (ha2 : 0 ≤ a2.toInt ∧ a2.toInt ≤ 0) (hX0 : okA X0) : TcI E yX7_of cX7_of 3 .int ({ frames := 1, cells := 0, slots := 0, locals := 40 }) [.ref a0, .int a1, .int a2] (fun H => TH E (tbM (mD (.inl tp) (.inl sp) (.inl nu) (.inl un) (.inl tk) (.inl xt) (.inl wrb) (.inl nab) (.inl iwb)) (xD 660 X0) ws kp as rd sc ty ik) H) (fun v H => (0 ≤ v.toInt ∧ v.toInt ≤ 11) ∧ (v.toInt = gI X0 (78 + 13 * a1.toInt + 0).toNat) ∧ TH E (tbM (mD (.inl tp) (.inl sp) (.inl nu) (.inl un) (.inl tk) (.inl xt) (.inl wrb) (.inl nab) (.inl iwb)) (xD 660 X0) ws kp as rd sc ty ik) H) := by
  refine teI (by decide) (Nat.le_of_ble_eq_true rfl) ?_
  intro p_ ev_ s mi_ below_ meth cd_ ls F hK hN hO hH hS hl
  have hH : TH E (tbM (mD (.inl tp) (.inl sp) (.inl nu) (.inl un) (.inl tk) (.inl xt) (.inl wrb) (.inl nab) (.inl iwb)) (xD 660 X0) ws kp as rd sc ty ik) s.heap := hH
  have hl : lv_has ls 3 [(0, .ref a0), (1, .int a1), (2, .int a2)] := hl
  have hBX0 := okB hX0
  refine lv_aload_n F.1 F.2.1 dX7_of_0 rfl (lv_at hl 0 rfl) ?_
  refine tGetR (j := 0) F hK hH (tyb ha0 (all1 rfl)) rfl (all1 rfl) clX7 (by decide) wd_6_5 dX7_of_1 (fun q_1 hq_1 _ => ?_)
  refine lv_bipush (v := 78) F.1 F.2.1 dX7_of_4 (by decide) ?_
  refine topK (a := 78) (by decide) (fun k_2 hk_2 => ?_)
  refine lv_bipush (v := 13) F.1 F.2.1 dX7_of_6 (by decide) ?_
  refine topK (a := 13) (by decide) (fun k_3 hk_3 => ?_)
  refine lv_iload_n F.1 F.2.1 dX7_of_8 rfl (lv_at hl 1 rfl) ?_
  refine tMul (lo := 0) (hi := 169) F dX7_of_9 (eqb hk_3) ha1 rfl (fun z_4 hz_4 => ?_)
  have mz_4 : z_4.toInt = 13 * a1.toInt := by rw [hz_4.1, hk_3]
  refine tAdd (lo := 78) (hi := 247) F dX7_of_10 (eqb hk_2) hz_4.2 rfl (fun z_5 hz_5 => ?_)
  refine lv_iload_n F.1 F.2.1 dX7_of_11 rfl (lv_at hl 2 rfl) ?_
  refine tAdd (lo := 78) (hi := 247) F dX7_of_12 hz_5.2 ha2 rfl (fun z_6 hz_6 => ?_)
  refine tIaldX F hK hH (tyb hq_1 (all1 rfl)) (ixb (n := 660) hz_6.2 rfl rfl) dX7_of_13 (fun z_7 ez_7 => ?_)
  have gz_7 : z_7.toInt = gI X0 ((78 + 13 * a1.toInt + 0).toNat) := by unfold gI; rw [ez_7, show (z_6).toNatClampNeg = ((78 + 13 * a1.toInt + 0).toNat) from by show (z_6).toInt.toNat = _; omega]
  have hz_7 : 0 ≤ z_7.toInt ∧ z_7.toInt ≤ 11 := (by have h9_ := okA.at (i := z_6) hX0 (by omega); rw [show gI X0 (z_6).toNatClampNeg = z_7.toInt from by unfold gI; rw [ez_7]] at h9_; have h8_ := phi_r0 h9_ (by omega) (by omega); omega)
  exact txI F hS dX7_of_14 rfl (⟨hz_7, (by omega), hH⟩)
set_option maxHeartbeats 4000000 in
set_option maxRecDepth 100000 in
theorem c_X7_of_1 (E : Ev) (ws : TD) (kp : TD) (as : TD) (rd : TD) (sc : TD) (ty : TD) (ik : TD) (un : Int × Int) (tk : Int × Int) (xt : Int × Int) (tp : Int × Int) (sp : Int × Int) (wrb : Int × Int) (nu : Int × Int) (nab : Int × Int) (iwb : Int × Int) (X0 : Nat → Int32) (a0 : Nat) (a1 : Int32) (a2 : Int32) (ha0 : eT E a0 ∈ [24]) (ha1 : 0 ≤ a1.toInt ∧ a1.toInt ≤ 13) (ha2 : 1 ≤ a2.toInt ∧ a2.toInt ≤ 1) (hX0 : okA X0) : TcI E yX7_of cX7_of 3 .int ({ frames := 1, cells := 0, slots := 0, locals := 40 }) [.ref a0, .int a1, .int a2] (fun H => TH E (tbM (mD (.inl tp) (.inl sp) (.inl nu) (.inl un) (.inl tk) (.inl xt) (.inl wrb) (.inl nab) (.inl iwb)) (xD 660 X0) ws kp as rd sc ty ik) H) (fun v H => (0 ≤ v.toInt ∧ v.toInt ≤ 9999) ∧ (v.toInt = gI X0 (78 + 13 * a1.toInt + 1).toNat) ∧ TH E (tbM (mD (.inl tp) (.inl sp) (.inl nu) (.inl un) (.inl tk) (.inl xt) (.inl wrb) (.inl nab) (.inl iwb)) (xD 660 X0) ws kp as rd sc ty ik) H) := by
  refine teI (by decide) (Nat.le_of_ble_eq_true rfl) ?_
  intro p_ ev_ s mi_ below_ meth cd_ ls F hK hN hO hH hS hl
  have hH : TH E (tbM (mD (.inl tp) (.inl sp) (.inl nu) (.inl un) (.inl tk) (.inl xt) (.inl wrb) (.inl nab) (.inl iwb)) (xD 660 X0) ws kp as rd sc ty ik) s.heap := hH
  have hl : lv_has ls 3 [(0, .ref a0), (1, .int a1), (2, .int a2)] := hl
  have hBX0 := okB hX0
  refine lv_aload_n F.1 F.2.1 dX7_of_0 rfl (lv_at hl 0 rfl) ?_
  refine tGetR (j := 0) F hK hH (tyb ha0 (all1 rfl)) rfl (all1 rfl) clX7 (by decide) wd_6_5 dX7_of_1 (fun q_1 hq_1 _ => ?_)
  refine lv_bipush (v := 78) F.1 F.2.1 dX7_of_4 (by decide) ?_
  refine topK (a := 78) (by decide) (fun k_2 hk_2 => ?_)
  refine lv_bipush (v := 13) F.1 F.2.1 dX7_of_6 (by decide) ?_
  refine topK (a := 13) (by decide) (fun k_3 hk_3 => ?_)
  refine lv_iload_n F.1 F.2.1 dX7_of_8 rfl (lv_at hl 1 rfl) ?_
  refine tMul (lo := 0) (hi := 169) F dX7_of_9 (eqb hk_3) ha1 rfl (fun z_4 hz_4 => ?_)
  have mz_4 : z_4.toInt = 13 * a1.toInt := by rw [hz_4.1, hk_3]
  refine tAdd (lo := 78) (hi := 247) F dX7_of_10 (eqb hk_2) hz_4.2 rfl (fun z_5 hz_5 => ?_)
  refine lv_iload_n F.1 F.2.1 dX7_of_11 rfl (lv_at hl 2 rfl) ?_
  refine tAdd (lo := 79) (hi := 248) F dX7_of_12 hz_5.2 ha2 rfl (fun z_6 hz_6 => ?_)
  refine tIaldX F hK hH (tyb hq_1 (all1 rfl)) (ixb (n := 660) hz_6.2 rfl rfl) dX7_of_13 (fun z_7 ez_7 => ?_)
  have gz_7 : z_7.toInt = gI X0 ((78 + 13 * a1.toInt + 1).toNat) := by unfold gI; rw [ez_7, show (z_6).toNatClampNeg = ((78 + 13 * a1.toInt + 1).toNat) from by show (z_6).toInt.toNat = _; omega]
  have hz_7 : 0 ≤ z_7.toInt ∧ z_7.toInt ≤ 9999 := (by have h9_ := okA.at (i := z_6) hX0 (by omega); rw [show gI X0 (z_6).toNatClampNeg = z_7.toInt from by unfold gI; rw [ez_7]] at h9_; have h8_ := phi_r1 h9_ (by omega) (by omega); omega)
  exact txI F hS dX7_of_14 rfl (⟨hz_7, (by omega), hH⟩)
set_option maxHeartbeats 4000000 in
set_option maxRecDepth 100000 in
theorem c_X7_of_5 (E : Ev) (ws : TD) (kp : TD) (as : TD) (rd : TD) (sc : TD) (ty : TD) (ik : TD) (un : Int × Int) (tk : Int × Int) (xt : Int × Int) (tp : Int × Int) (sp : Int × Int) (wrb : Int × Int) (nu : Int × Int) (nab : Int × Int) (iwb : Int × Int) (X0 : Nat → Int32) (a0 : Nat) (a1 : Int32) (a2 : Int32) (ha0 : eT E a0 ∈ [24]) (ha1 : 0 ≤ a1.toInt ∧ a1.toInt ≤ 13) (ha2 : 5 ≤ a2.toInt ∧ a2.toInt ≤ 5) (hX0 : okA X0) : TcI E yX7_of cX7_of 3 .int ({ frames := 1, cells := 0, slots := 0, locals := 40 }) [.ref a0, .int a1, .int a2] (fun H => TH E (tbM (mD (.inl tp) (.inl sp) (.inl nu) (.inl un) (.inl tk) (.inl xt) (.inl wrb) (.inl nab) (.inl iwb)) (xD 660 X0) ws kp as rd sc ty ik) H) (fun v H => ((-2) ≤ v.toInt ∧ v.toInt ≤ 999999) ∧ (v.toInt = gI X0 (78 + 13 * a1.toInt + 5).toNat) ∧ TH E (tbM (mD (.inl tp) (.inl sp) (.inl nu) (.inl un) (.inl tk) (.inl xt) (.inl wrb) (.inl nab) (.inl iwb)) (xD 660 X0) ws kp as rd sc ty ik) H) := by
  refine teI (by decide) (Nat.le_of_ble_eq_true rfl) ?_
  intro p_ ev_ s mi_ below_ meth cd_ ls F hK hN hO hH hS hl
  have hH : TH E (tbM (mD (.inl tp) (.inl sp) (.inl nu) (.inl un) (.inl tk) (.inl xt) (.inl wrb) (.inl nab) (.inl iwb)) (xD 660 X0) ws kp as rd sc ty ik) s.heap := hH
  have hl : lv_has ls 3 [(0, .ref a0), (1, .int a1), (2, .int a2)] := hl
  have hBX0 := okB hX0
  refine lv_aload_n F.1 F.2.1 dX7_of_0 rfl (lv_at hl 0 rfl) ?_
  refine tGetR (j := 0) F hK hH (tyb ha0 (all1 rfl)) rfl (all1 rfl) clX7 (by decide) wd_6_5 dX7_of_1 (fun q_1 hq_1 _ => ?_)
  refine lv_bipush (v := 78) F.1 F.2.1 dX7_of_4 (by decide) ?_
  refine topK (a := 78) (by decide) (fun k_2 hk_2 => ?_)
  refine lv_bipush (v := 13) F.1 F.2.1 dX7_of_6 (by decide) ?_
  refine topK (a := 13) (by decide) (fun k_3 hk_3 => ?_)
  refine lv_iload_n F.1 F.2.1 dX7_of_8 rfl (lv_at hl 1 rfl) ?_
  refine tMul (lo := 0) (hi := 169) F dX7_of_9 (eqb hk_3) ha1 rfl (fun z_4 hz_4 => ?_)
  have mz_4 : z_4.toInt = 13 * a1.toInt := by rw [hz_4.1, hk_3]
  refine tAdd (lo := 78) (hi := 247) F dX7_of_10 (eqb hk_2) hz_4.2 rfl (fun z_5 hz_5 => ?_)
  refine lv_iload_n F.1 F.2.1 dX7_of_11 rfl (lv_at hl 2 rfl) ?_
  refine tAdd (lo := 83) (hi := 252) F dX7_of_12 hz_5.2 ha2 rfl (fun z_6 hz_6 => ?_)
  refine tIaldX F hK hH (tyb hq_1 (all1 rfl)) (ixb (n := 660) hz_6.2 rfl rfl) dX7_of_13 (fun z_7 ez_7 => ?_)
  have gz_7 : z_7.toInt = gI X0 ((78 + 13 * a1.toInt + 5).toNat) := by unfold gI; rw [ez_7, show (z_6).toNatClampNeg = ((78 + 13 * a1.toInt + 5).toNat) from by show (z_6).toInt.toNat = _; omega]
  have hz_7 : (-2) ≤ z_7.toInt ∧ z_7.toInt ≤ 999999 := (by have h9_ := okA.at (i := z_6) hX0 (by omega); rw [show gI X0 (z_6).toNatClampNeg = z_7.toInt from by unfold gI; rw [ez_7]] at h9_; have h8_ := phi_r5 h9_ (by omega) (by omega); omega)
  exact txI F hS dX7_of_14 rfl (⟨hz_7, (by omega), hH⟩)
set_option maxHeartbeats 4000000 in
set_option maxRecDepth 100000 in
theorem c_X7_of_7 (E : Ev) (ws : TD) (kp : TD) (as : TD) (rd : TD) (sc : TD) (ty : TD) (ik : TD) (un : Int × Int) (tk : Int × Int) (xt : Int × Int) (tp : Int × Int) (sp : Int × Int) (wrb : Int × Int) (nu : Int × Int) (nab : Int × Int) (iwb : Int × Int) (X0 : Nat → Int32) (a0 : Nat) (a1 : Int32) (a2 : Int32) (ha0 : eT E a0 ∈ [24]) (ha1 : 0 ≤ a1.toInt ∧ a1.toInt ≤ 13) (ha2 : 7 ≤ a2.toInt ∧ a2.toInt ≤ 7) (hX0 : okA X0) : TcI E yX7_of cX7_of 3 .int ({ frames := 1, cells := 0, slots := 0, locals := 40 }) [.ref a0, .int a1, .int a2] (fun H => TH E (tbM (mD (.inl tp) (.inl sp) (.inl nu) (.inl un) (.inl tk) (.inl xt) (.inl wrb) (.inl nab) (.inl iwb)) (xD 660 X0) ws kp as rd sc ty ik) H) (fun v H => ((-2) ≤ v.toInt ∧ v.toInt ≤ 11) ∧ (v.toInt = gI X0 (78 + 13 * a1.toInt + 7).toNat) ∧ (v.toInt ≠ -1) ∧ TH E (tbM (mD (.inl tp) (.inl sp) (.inl nu) (.inl un) (.inl tk) (.inl xt) (.inl wrb) (.inl nab) (.inl iwb)) (xD 660 X0) ws kp as rd sc ty ik) H) := by
  refine teI (by decide) (Nat.le_of_ble_eq_true rfl) ?_
  intro p_ ev_ s mi_ below_ meth cd_ ls F hK hN hO hH hS hl
  have hH : TH E (tbM (mD (.inl tp) (.inl sp) (.inl nu) (.inl un) (.inl tk) (.inl xt) (.inl wrb) (.inl nab) (.inl iwb)) (xD 660 X0) ws kp as rd sc ty ik) s.heap := hH
  have hl : lv_has ls 3 [(0, .ref a0), (1, .int a1), (2, .int a2)] := hl
  have hBX0 := okB hX0
  refine lv_aload_n F.1 F.2.1 dX7_of_0 rfl (lv_at hl 0 rfl) ?_
  refine tGetR (j := 0) F hK hH (tyb ha0 (all1 rfl)) rfl (all1 rfl) clX7 (by decide) wd_6_5 dX7_of_1 (fun q_1 hq_1 _ => ?_)
  refine lv_bipush (v := 78) F.1 F.2.1 dX7_of_4 (by decide) ?_
  refine topK (a := 78) (by decide) (fun k_2 hk_2 => ?_)
  refine lv_bipush (v := 13) F.1 F.2.1 dX7_of_6 (by decide) ?_
  refine topK (a := 13) (by decide) (fun k_3 hk_3 => ?_)
  refine lv_iload_n F.1 F.2.1 dX7_of_8 rfl (lv_at hl 1 rfl) ?_
  refine tMul (lo := 0) (hi := 169) F dX7_of_9 (eqb hk_3) ha1 rfl (fun z_4 hz_4 => ?_)
  have mz_4 : z_4.toInt = 13 * a1.toInt := by rw [hz_4.1, hk_3]
  refine tAdd (lo := 78) (hi := 247) F dX7_of_10 (eqb hk_2) hz_4.2 rfl (fun z_5 hz_5 => ?_)
  refine lv_iload_n F.1 F.2.1 dX7_of_11 rfl (lv_at hl 2 rfl) ?_
  refine tAdd (lo := 85) (hi := 254) F dX7_of_12 hz_5.2 ha2 rfl (fun z_6 hz_6 => ?_)
  refine tIaldX F hK hH (tyb hq_1 (all1 rfl)) (ixb (n := 660) hz_6.2 rfl rfl) dX7_of_13 (fun z_7 ez_7 => ?_)
  have gz_7 : z_7.toInt = gI X0 ((78 + 13 * a1.toInt + 7).toNat) := by unfold gI; rw [ez_7, show (z_6).toNatClampNeg = ((78 + 13 * a1.toInt + 7).toNat) from by show (z_6).toInt.toNat = _; omega]
  have qz_7 := okA.at (i := z_6) hX0 (by omega)
  rw [show gI X0 (z_6).toNatClampNeg = z_7.toInt from by unfold gI; rw [ez_7]] at qz_7
  have pz_7 := phi_r7 qz_7 (by omega) (by omega)
  have hz_7 : (-2) ≤ z_7.toInt ∧ z_7.toInt ≤ 11 := (by have h9_ := okA.at (i := z_6) hX0 (by omega); rw [show gI X0 (z_6).toNatClampNeg = z_7.toInt from by unfold gI; rw [ez_7]] at h9_; have h8_ := phi_r7 h9_ (by omega) (by omega); omega)
  exact txI F hS dX7_of_14 rfl (⟨hz_7, (by omega), (by omega), hH⟩)
set_option maxHeartbeats 4000000 in
set_option maxRecDepth 100000 in
theorem c_X7_of_8 (E : Ev) (ws : TD) (kp : TD) (as : TD) (rd : TD) (sc : TD) (ty : TD) (ik : TD) (un : Int × Int) (tk : Int × Int) (xt : Int × Int) (tp : Int × Int) (sp : Int × Int) (wrb : Int × Int) (nu : Int × Int) (nab : Int × Int) (iwb : Int × Int) (X0 : Nat → Int32) (a0 : Nat) (a1 : Int32) (a2 : Int32) (ha0 : eT E a0 ∈ [24]) (ha1 : 0 ≤ a1.toInt ∧ a1.toInt ≤ 13) (ha2 : 8 ≤ a2.toInt ∧ a2.toInt ≤ 8) (hX0 : okA X0) : TcI E yX7_of cX7_of 3 .int ({ frames := 1, cells := 0, slots := 0, locals := 40 }) [.ref a0, .int a1, .int a2] (fun H => TH E (tbM (mD (.inl tp) (.inl sp) (.inl nu) (.inl un) (.inl tk) (.inl xt) (.inl wrb) (.inl nab) (.inl iwb)) (xD 660 X0) ws kp as rd sc ty ik) H) (fun v H => (0 ≤ v.toInt ∧ v.toInt ≤ 100) ∧ (v.toInt = gI X0 (78 + 13 * a1.toInt + 8).toNat) ∧ TH E (tbM (mD (.inl tp) (.inl sp) (.inl nu) (.inl un) (.inl tk) (.inl xt) (.inl wrb) (.inl nab) (.inl iwb)) (xD 660 X0) ws kp as rd sc ty ik) H) := by
  refine teI (by decide) (Nat.le_of_ble_eq_true rfl) ?_
  intro p_ ev_ s mi_ below_ meth cd_ ls F hK hN hO hH hS hl
  have hH : TH E (tbM (mD (.inl tp) (.inl sp) (.inl nu) (.inl un) (.inl tk) (.inl xt) (.inl wrb) (.inl nab) (.inl iwb)) (xD 660 X0) ws kp as rd sc ty ik) s.heap := hH
  have hl : lv_has ls 3 [(0, .ref a0), (1, .int a1), (2, .int a2)] := hl
  have hBX0 := okB hX0
  refine lv_aload_n F.1 F.2.1 dX7_of_0 rfl (lv_at hl 0 rfl) ?_
  refine tGetR (j := 0) F hK hH (tyb ha0 (all1 rfl)) rfl (all1 rfl) clX7 (by decide) wd_6_5 dX7_of_1 (fun q_1 hq_1 _ => ?_)
  refine lv_bipush (v := 78) F.1 F.2.1 dX7_of_4 (by decide) ?_
  refine topK (a := 78) (by decide) (fun k_2 hk_2 => ?_)
  refine lv_bipush (v := 13) F.1 F.2.1 dX7_of_6 (by decide) ?_
  refine topK (a := 13) (by decide) (fun k_3 hk_3 => ?_)
  refine lv_iload_n F.1 F.2.1 dX7_of_8 rfl (lv_at hl 1 rfl) ?_
  refine tMul (lo := 0) (hi := 169) F dX7_of_9 (eqb hk_3) ha1 rfl (fun z_4 hz_4 => ?_)
  have mz_4 : z_4.toInt = 13 * a1.toInt := by rw [hz_4.1, hk_3]
  refine tAdd (lo := 78) (hi := 247) F dX7_of_10 (eqb hk_2) hz_4.2 rfl (fun z_5 hz_5 => ?_)
  refine lv_iload_n F.1 F.2.1 dX7_of_11 rfl (lv_at hl 2 rfl) ?_
  refine tAdd (lo := 86) (hi := 255) F dX7_of_12 hz_5.2 ha2 rfl (fun z_6 hz_6 => ?_)
  refine tIaldX F hK hH (tyb hq_1 (all1 rfl)) (ixb (n := 660) hz_6.2 rfl rfl) dX7_of_13 (fun z_7 ez_7 => ?_)
  have gz_7 : z_7.toInt = gI X0 ((78 + 13 * a1.toInt + 8).toNat) := by unfold gI; rw [ez_7, show (z_6).toNatClampNeg = ((78 + 13 * a1.toInt + 8).toNat) from by show (z_6).toInt.toNat = _; omega]
  have hz_7 : 0 ≤ z_7.toInt ∧ z_7.toInt ≤ 100 := (by have h9_ := okA.at (i := z_6) hX0 (by omega); rw [show gI X0 (z_6).toNatClampNeg = z_7.toInt from by unfold gI; rw [ez_7]] at h9_; have h8_ := phi_r8 h9_ (by omega) (by omega); omega)
  exact txI F hS dX7_of_14 rfl (⟨hz_7, (by omega), hH⟩)
set_option maxHeartbeats 4000000 in
set_option maxRecDepth 100000 in
theorem c_X7_of_9 (E : Ev) (ws : TD) (kp : TD) (as : TD) (rd : TD) (sc : TD) (ty : TD) (ik : TD) (un : Int × Int) (tk : Int × Int) (xt : Int × Int) (tp : Int × Int) (sp : Int × Int) (wrb : Int × Int) (nu : Int × Int) (nab : Int × Int) (iwb : Int × Int) (X0 : Nat → Int32) (a0 : Nat) (a1 : Int32) (a2 : Int32) (ha0 : eT E a0 ∈ [24]) (ha1 : 0 ≤ a1.toInt ∧ a1.toInt ≤ 13) (ha2 : 9 ≤ a2.toInt ∧ a2.toInt ≤ 9) (hX0 : okA X0) : TcI E yX7_of cX7_of 3 .int ({ frames := 1, cells := 0, slots := 0, locals := 40 }) [.ref a0, .int a1, .int a2] (fun H => TH E (tbM (mD (.inl tp) (.inl sp) (.inl nu) (.inl un) (.inl tk) (.inl xt) (.inl wrb) (.inl nab) (.inl iwb)) (xD 660 X0) ws kp as rd sc ty ik) H) (fun v H => (0 ≤ v.toInt ∧ v.toInt ≤ 30) ∧ (v.toInt = gI X0 (78 + 13 * a1.toInt + 9).toNat) ∧ TH E (tbM (mD (.inl tp) (.inl sp) (.inl nu) (.inl un) (.inl tk) (.inl xt) (.inl wrb) (.inl nab) (.inl iwb)) (xD 660 X0) ws kp as rd sc ty ik) H) := by
  refine teI (by decide) (Nat.le_of_ble_eq_true rfl) ?_
  intro p_ ev_ s mi_ below_ meth cd_ ls F hK hN hO hH hS hl
  have hH : TH E (tbM (mD (.inl tp) (.inl sp) (.inl nu) (.inl un) (.inl tk) (.inl xt) (.inl wrb) (.inl nab) (.inl iwb)) (xD 660 X0) ws kp as rd sc ty ik) s.heap := hH
  have hl : lv_has ls 3 [(0, .ref a0), (1, .int a1), (2, .int a2)] := hl
  have hBX0 := okB hX0
  refine lv_aload_n F.1 F.2.1 dX7_of_0 rfl (lv_at hl 0 rfl) ?_
  refine tGetR (j := 0) F hK hH (tyb ha0 (all1 rfl)) rfl (all1 rfl) clX7 (by decide) wd_6_5 dX7_of_1 (fun q_1 hq_1 _ => ?_)
  refine lv_bipush (v := 78) F.1 F.2.1 dX7_of_4 (by decide) ?_
  refine topK (a := 78) (by decide) (fun k_2 hk_2 => ?_)
  refine lv_bipush (v := 13) F.1 F.2.1 dX7_of_6 (by decide) ?_
  refine topK (a := 13) (by decide) (fun k_3 hk_3 => ?_)
  refine lv_iload_n F.1 F.2.1 dX7_of_8 rfl (lv_at hl 1 rfl) ?_
  refine tMul (lo := 0) (hi := 169) F dX7_of_9 (eqb hk_3) ha1 rfl (fun z_4 hz_4 => ?_)
  have mz_4 : z_4.toInt = 13 * a1.toInt := by rw [hz_4.1, hk_3]
  refine tAdd (lo := 78) (hi := 247) F dX7_of_10 (eqb hk_2) hz_4.2 rfl (fun z_5 hz_5 => ?_)
  refine lv_iload_n F.1 F.2.1 dX7_of_11 rfl (lv_at hl 2 rfl) ?_
  refine tAdd (lo := 87) (hi := 256) F dX7_of_12 hz_5.2 ha2 rfl (fun z_6 hz_6 => ?_)
  refine tIaldX F hK hH (tyb hq_1 (all1 rfl)) (ixb (n := 660) hz_6.2 rfl rfl) dX7_of_13 (fun z_7 ez_7 => ?_)
  have gz_7 : z_7.toInt = gI X0 ((78 + 13 * a1.toInt + 9).toNat) := by unfold gI; rw [ez_7, show (z_6).toNatClampNeg = ((78 + 13 * a1.toInt + 9).toNat) from by show (z_6).toInt.toNat = _; omega]
  have hz_7 : 0 ≤ z_7.toInt ∧ z_7.toInt ≤ 30 := (by have h9_ := okA.at (i := z_6) hX0 (by omega); rw [show gI X0 (z_6).toNatClampNeg = z_7.toInt from by unfold gI; rw [ez_7]] at h9_; have h8_ := phi_r9 h9_ (by omega) (by omega); omega)
  exact txI F hS dX7_of_14 rfl (⟨hz_7, (by omega), hH⟩)
set_option maxHeartbeats 4000000 in
set_option maxRecDepth 100000 in
theorem c_X7_of_10 (E : Ev) (ws : TD) (kp : TD) (as : TD) (rd : TD) (sc : TD) (ty : TD) (ik : TD) (un : Int × Int) (tk : Int × Int) (xt : Int × Int) (tp : Int × Int) (sp : Int × Int) (wrb : Int × Int) (nu : Int × Int) (nab : Int × Int) (iwb : Int × Int) (X0 : Nat → Int32) (a0 : Nat) (a1 : Int32) (a2 : Int32) (ha0 : eT E a0 ∈ [24]) (ha1 : 0 ≤ a1.toInt ∧ a1.toInt ≤ 13) (ha2 : 10 ≤ a2.toInt ∧ a2.toInt ≤ 10) (hX0 : okA X0) : TcI E yX7_of cX7_of 3 .int ({ frames := 1, cells := 0, slots := 0, locals := 40 }) [.ref a0, .int a1, .int a2] (fun H => TH E (tbM (mD (.inl tp) (.inl sp) (.inl nu) (.inl un) (.inl tk) (.inl xt) (.inl wrb) (.inl nab) (.inl iwb)) (xD 660 X0) ws kp as rd sc ty ik) H) (fun v H => (0 ≤ v.toInt ∧ v.toInt ≤ 9999) ∧ (v.toInt = gI X0 (78 + 13 * a1.toInt + 10).toNat) ∧ TH E (tbM (mD (.inl tp) (.inl sp) (.inl nu) (.inl un) (.inl tk) (.inl xt) (.inl wrb) (.inl nab) (.inl iwb)) (xD 660 X0) ws kp as rd sc ty ik) H) := by
  refine teI (by decide) (Nat.le_of_ble_eq_true rfl) ?_
  intro p_ ev_ s mi_ below_ meth cd_ ls F hK hN hO hH hS hl
  have hH : TH E (tbM (mD (.inl tp) (.inl sp) (.inl nu) (.inl un) (.inl tk) (.inl xt) (.inl wrb) (.inl nab) (.inl iwb)) (xD 660 X0) ws kp as rd sc ty ik) s.heap := hH
  have hl : lv_has ls 3 [(0, .ref a0), (1, .int a1), (2, .int a2)] := hl
  have hBX0 := okB hX0
  refine lv_aload_n F.1 F.2.1 dX7_of_0 rfl (lv_at hl 0 rfl) ?_
  refine tGetR (j := 0) F hK hH (tyb ha0 (all1 rfl)) rfl (all1 rfl) clX7 (by decide) wd_6_5 dX7_of_1 (fun q_1 hq_1 _ => ?_)
  refine lv_bipush (v := 78) F.1 F.2.1 dX7_of_4 (by decide) ?_
  refine topK (a := 78) (by decide) (fun k_2 hk_2 => ?_)
  refine lv_bipush (v := 13) F.1 F.2.1 dX7_of_6 (by decide) ?_
  refine topK (a := 13) (by decide) (fun k_3 hk_3 => ?_)
  refine lv_iload_n F.1 F.2.1 dX7_of_8 rfl (lv_at hl 1 rfl) ?_
  refine tMul (lo := 0) (hi := 169) F dX7_of_9 (eqb hk_3) ha1 rfl (fun z_4 hz_4 => ?_)
  have mz_4 : z_4.toInt = 13 * a1.toInt := by rw [hz_4.1, hk_3]
  refine tAdd (lo := 78) (hi := 247) F dX7_of_10 (eqb hk_2) hz_4.2 rfl (fun z_5 hz_5 => ?_)
  refine lv_iload_n F.1 F.2.1 dX7_of_11 rfl (lv_at hl 2 rfl) ?_
  refine tAdd (lo := 88) (hi := 257) F dX7_of_12 hz_5.2 ha2 rfl (fun z_6 hz_6 => ?_)
  refine tIaldX F hK hH (tyb hq_1 (all1 rfl)) (ixb (n := 660) hz_6.2 rfl rfl) dX7_of_13 (fun z_7 ez_7 => ?_)
  have gz_7 : z_7.toInt = gI X0 ((78 + 13 * a1.toInt + 10).toNat) := by unfold gI; rw [ez_7, show (z_6).toNatClampNeg = ((78 + 13 * a1.toInt + 10).toNat) from by show (z_6).toInt.toNat = _; omega]
  have hz_7 : 0 ≤ z_7.toInt ∧ z_7.toInt ≤ 9999 := (by have h9_ := okA.at (i := z_6) hX0 (by omega); rw [show gI X0 (z_6).toNatClampNeg = z_7.toInt from by unfold gI; rw [ez_7]] at h9_; have h8_ := phi_r10 h9_ (by omega) (by omega); omega)
  exact txI F hS dX7_of_14 rfl (⟨hz_7, (by omega), hH⟩)
set_option maxHeartbeats 4000000 in
set_option maxRecDepth 100000 in
theorem c_X7_of_11 (E : Ev) (ws : TD) (kp : TD) (as : TD) (rd : TD) (sc : TD) (ty : TD) (ik : TD) (un : Int × Int) (tk : Int × Int) (xt : Int × Int) (tp : Int × Int) (sp : Int × Int) (wrb : Int × Int) (nu : Int × Int) (nab : Int × Int) (iwb : Int × Int) (X0 : Nat → Int32) (a0 : Nat) (a1 : Int32) (a2 : Int32) (ha0 : eT E a0 ∈ [24]) (ha1 : 0 ≤ a1.toInt ∧ a1.toInt ≤ 13) (ha2 : 11 ≤ a2.toInt ∧ a2.toInt ≤ 11) (hX0 : okA X0) : TcI E yX7_of cX7_of 3 .int ({ frames := 1, cells := 0, slots := 0, locals := 40 }) [.ref a0, .int a1, .int a2] (fun H => TH E (tbM (mD (.inl tp) (.inl sp) (.inl nu) (.inl un) (.inl tk) (.inl xt) (.inl wrb) (.inl nab) (.inl iwb)) (xD 660 X0) ws kp as rd sc ty ik) H) (fun v H => ((-2) ≤ v.toInt ∧ v.toInt ≤ 3) ∧ (v.toInt = gI X0 (78 + 13 * a1.toInt + 11).toNat) ∧ (v.toInt ≠ -1) ∧ TH E (tbM (mD (.inl tp) (.inl sp) (.inl nu) (.inl un) (.inl tk) (.inl xt) (.inl wrb) (.inl nab) (.inl iwb)) (xD 660 X0) ws kp as rd sc ty ik) H) := by
  refine teI (by decide) (Nat.le_of_ble_eq_true rfl) ?_
  intro p_ ev_ s mi_ below_ meth cd_ ls F hK hN hO hH hS hl
  have hH : TH E (tbM (mD (.inl tp) (.inl sp) (.inl nu) (.inl un) (.inl tk) (.inl xt) (.inl wrb) (.inl nab) (.inl iwb)) (xD 660 X0) ws kp as rd sc ty ik) s.heap := hH
  have hl : lv_has ls 3 [(0, .ref a0), (1, .int a1), (2, .int a2)] := hl
  have hBX0 := okB hX0
  refine lv_aload_n F.1 F.2.1 dX7_of_0 rfl (lv_at hl 0 rfl) ?_
  refine tGetR (j := 0) F hK hH (tyb ha0 (all1 rfl)) rfl (all1 rfl) clX7 (by decide) wd_6_5 dX7_of_1 (fun q_1 hq_1 _ => ?_)
  refine lv_bipush (v := 78) F.1 F.2.1 dX7_of_4 (by decide) ?_
  refine topK (a := 78) (by decide) (fun k_2 hk_2 => ?_)
  refine lv_bipush (v := 13) F.1 F.2.1 dX7_of_6 (by decide) ?_
  refine topK (a := 13) (by decide) (fun k_3 hk_3 => ?_)
  refine lv_iload_n F.1 F.2.1 dX7_of_8 rfl (lv_at hl 1 rfl) ?_
  refine tMul (lo := 0) (hi := 169) F dX7_of_9 (eqb hk_3) ha1 rfl (fun z_4 hz_4 => ?_)
  have mz_4 : z_4.toInt = 13 * a1.toInt := by rw [hz_4.1, hk_3]
  refine tAdd (lo := 78) (hi := 247) F dX7_of_10 (eqb hk_2) hz_4.2 rfl (fun z_5 hz_5 => ?_)
  refine lv_iload_n F.1 F.2.1 dX7_of_11 rfl (lv_at hl 2 rfl) ?_
  refine tAdd (lo := 89) (hi := 258) F dX7_of_12 hz_5.2 ha2 rfl (fun z_6 hz_6 => ?_)
  refine tIaldX F hK hH (tyb hq_1 (all1 rfl)) (ixb (n := 660) hz_6.2 rfl rfl) dX7_of_13 (fun z_7 ez_7 => ?_)
  have gz_7 : z_7.toInt = gI X0 ((78 + 13 * a1.toInt + 11).toNat) := by unfold gI; rw [ez_7, show (z_6).toNatClampNeg = ((78 + 13 * a1.toInt + 11).toNat) from by show (z_6).toInt.toNat = _; omega]
  have qz_7 := okA.at (i := z_6) hX0 (by omega)
  rw [show gI X0 (z_6).toNatClampNeg = z_7.toInt from by unfold gI; rw [ez_7]] at qz_7
  have pz_7 := phi_r11 qz_7 (by omega) (by omega)
  have hz_7 : (-2) ≤ z_7.toInt ∧ z_7.toInt ≤ 3 := (by have h9_ := okA.at (i := z_6) hX0 (by omega); rw [show gI X0 (z_6).toNatClampNeg = z_7.toInt from by unfold gI; rw [ez_7]] at h9_; have h8_ := phi_r11 h9_ (by omega) (by omega); omega)
  exact txI F hS dX7_of_14 rfl (⟨hz_7, (by omega), (by omega), hH⟩)
set_option maxHeartbeats 4000000 in
set_option maxRecDepth 100000 in
theorem c_X7_of_6 (E : Ev) (ws : TD) (kp : TD) (as : TD) (rd : TD) (sc : TD) (ty : TD) (ik : TD) (un : Int × Int) (tk : Int × Int) (xt : Int × Int) (tp : Int × Int) (sp : Int × Int) (wrb : Int × Int) (nu : Int × Int) (nab : Int × Int) (iwb : Int × Int) (X0 : Nat → Int32) (a0 : Nat) (a1 : Int32) (a2 : Int32) (ha0 : eT E a0 ∈ [24]) (ha1 : 0 ≤ a1.toInt ∧ a1.toInt ≤ 13) (ha2 : 6 ≤ a2.toInt ∧ a2.toInt ≤ 6) (hX0 : okR X0) : TcI E yX7_of cX7_of 3 .int ({ frames := 1, cells := 0, slots := 0, locals := 40 }) [.ref a0, .int a1, .int a2] (fun H => TH E (tbM (mD (.inl tp) (.inl sp) (.inl nu) (.inl un) (.inl tk) (.inl xt) (.inl wrb) (.inl nab) (.inl iwb)) (xD 660 X0) ws kp as rd sc ty ik) H) (fun v H => ((-14400002) ≤ v.toInt ∧ v.toInt ≤ 2147483647) ∧ (v.toInt = gI X0 (78 + 13 * a1.toInt + 6).toNat) ∧ TH E (tbM (mD (.inl tp) (.inl sp) (.inl nu) (.inl un) (.inl tk) (.inl xt) (.inl wrb) (.inl nab) (.inl iwb)) (xD 660 X0) ws kp as rd sc ty ik) H) := by
  refine teI (by decide) (Nat.le_of_ble_eq_true rfl) ?_
  intro p_ ev_ s mi_ below_ meth cd_ ls F hK hN hO hH hS hl
  have hH : TH E (tbM (mD (.inl tp) (.inl sp) (.inl nu) (.inl un) (.inl tk) (.inl xt) (.inl wrb) (.inl nab) (.inl iwb)) (xD 660 X0) ws kp as rd sc ty ik) s.heap := hH
  have hl : lv_has ls 3 [(0, .ref a0), (1, .int a1), (2, .int a2)] := hl
  have hBX0 := okB hX0.1
  have hLX0 := hX0.2
  refine lv_aload_n F.1 F.2.1 dX7_of_0 rfl (lv_at hl 0 rfl) ?_
  refine tGetR (j := 0) F hK hH (tyb ha0 (all1 rfl)) rfl (all1 rfl) clX7 (by decide) wd_6_5 dX7_of_1 (fun q_1 hq_1 _ => ?_)
  refine lv_bipush (v := 78) F.1 F.2.1 dX7_of_4 (by decide) ?_
  refine topK (a := 78) (by decide) (fun k_2 hk_2 => ?_)
  refine lv_bipush (v := 13) F.1 F.2.1 dX7_of_6 (by decide) ?_
  refine topK (a := 13) (by decide) (fun k_3 hk_3 => ?_)
  refine lv_iload_n F.1 F.2.1 dX7_of_8 rfl (lv_at hl 1 rfl) ?_
  refine tMul (lo := 0) (hi := 169) F dX7_of_9 (eqb hk_3) ha1 rfl (fun z_4 hz_4 => ?_)
  have mz_4 : z_4.toInt = 13 * a1.toInt := by rw [hz_4.1, hk_3]
  refine tAdd (lo := 78) (hi := 247) F dX7_of_10 (eqb hk_2) hz_4.2 rfl (fun z_5 hz_5 => ?_)
  refine lv_iload_n F.1 F.2.1 dX7_of_11 rfl (lv_at hl 2 rfl) ?_
  refine tAdd (lo := 84) (hi := 253) F dX7_of_12 hz_5.2 ha2 rfl (fun z_6 hz_6 => ?_)
  refine tIaldX F hK hH (tyb hq_1 (all1 rfl)) (ixb (n := 660) hz_6.2 rfl rfl) dX7_of_13 (fun z_7 ez_7 => ?_)
  have gz_7 : z_7.toInt = gI X0 ((78 + 13 * a1.toInt + 6).toNat) := by unfold gI; rw [ez_7, show (z_6).toNatClampNeg = ((78 + 13 * a1.toInt + 6).toNat) from by show (z_6).toInt.toNat = _; omega]
  have jz_7 := i32b z_7
  have oz_7 : -14400002 ≤ z_7.toInt := by
    have h9_ := hX0.2 a1.toInt.toNat (by omega)
    rw [show 84 + 13 * a1.toInt.toNat = (78 + 13 * a1.toInt + 6).toNat from by omega, ← gz_7] at h9_
    omega
  exact txI F hS dX7_of_14 rfl (⟨(by omega), (by omega), hH⟩)
set_option maxHeartbeats 4000000 in
set_option maxRecDepth 100000 in
theorem c_X7_of_2 (E : Ev) (ws : TD) (kp : TD) (as : TD) (rd : TD) (sc : TD) (ty : TD) (ik : TD) (un : Int × Int) (tk : Int × Int) (xt : Int × Int) (tp : Int × Int) (sp : Int × Int) (wrb : Int × Int) (nu : Int × Int) (nab : Int × Int) (iwb : Int × Int) (X0 : Nat → Int32) (a0 : Nat) (a1 : Int32) (a2 : Int32) (ha0 : eT E a0 ∈ [24]) (ha1 : 0 ≤ a1.toInt ∧ a1.toInt ≤ 13) (ha2 : 2 ≤ a2.toInt ∧ a2.toInt ≤ 2) (hX0 : okA X0) : TcI E yX7_of cX7_of 3 .int ({ frames := 1, cells := 0, slots := 0, locals := 40 }) [.ref a0, .int a1, .int a2] (fun H => TH E (tbM (mD (.inl tp) (.inl sp) (.inl nu) (.inl un) (.inl tk) (.inl xt) (.inl wrb) (.inl nab) (.inl iwb)) (xD 660 X0) ws kp as rd sc ty ik) H) (fun v H => ((-2147483648) ≤ v.toInt ∧ v.toInt ≤ 2147483647) ∧ (v.toInt = gI X0 (78 + 13 * a1.toInt + 2).toNat) ∧ TH E (tbM (mD (.inl tp) (.inl sp) (.inl nu) (.inl un) (.inl tk) (.inl xt) (.inl wrb) (.inl nab) (.inl iwb)) (xD 660 X0) ws kp as rd sc ty ik) H) := by
  refine teI (by decide) (Nat.le_of_ble_eq_true rfl) ?_
  intro p_ ev_ s mi_ below_ meth cd_ ls F hK hN hO hH hS hl
  have hH : TH E (tbM (mD (.inl tp) (.inl sp) (.inl nu) (.inl un) (.inl tk) (.inl xt) (.inl wrb) (.inl nab) (.inl iwb)) (xD 660 X0) ws kp as rd sc ty ik) s.heap := hH
  have hl : lv_has ls 3 [(0, .ref a0), (1, .int a1), (2, .int a2)] := hl
  have hBX0 := okB hX0
  refine lv_aload_n F.1 F.2.1 dX7_of_0 rfl (lv_at hl 0 rfl) ?_
  refine tGetR (j := 0) F hK hH (tyb ha0 (all1 rfl)) rfl (all1 rfl) clX7 (by decide) wd_6_5 dX7_of_1 (fun q_1 hq_1 _ => ?_)
  refine lv_bipush (v := 78) F.1 F.2.1 dX7_of_4 (by decide) ?_
  refine topK (a := 78) (by decide) (fun k_2 hk_2 => ?_)
  refine lv_bipush (v := 13) F.1 F.2.1 dX7_of_6 (by decide) ?_
  refine topK (a := 13) (by decide) (fun k_3 hk_3 => ?_)
  refine lv_iload_n F.1 F.2.1 dX7_of_8 rfl (lv_at hl 1 rfl) ?_
  refine tMul (lo := 0) (hi := 169) F dX7_of_9 (eqb hk_3) ha1 rfl (fun z_4 hz_4 => ?_)
  have mz_4 : z_4.toInt = 13 * a1.toInt := by rw [hz_4.1, hk_3]
  refine tAdd (lo := 78) (hi := 247) F dX7_of_10 (eqb hk_2) hz_4.2 rfl (fun z_5 hz_5 => ?_)
  refine lv_iload_n F.1 F.2.1 dX7_of_11 rfl (lv_at hl 2 rfl) ?_
  refine tAdd (lo := 80) (hi := 249) F dX7_of_12 hz_5.2 ha2 rfl (fun z_6 hz_6 => ?_)
  refine tIaldX F hK hH (tyb hq_1 (all1 rfl)) (ixb (n := 660) hz_6.2 rfl rfl) dX7_of_13 (fun z_7 ez_7 => ?_)
  have gz_7 : z_7.toInt = gI X0 ((78 + 13 * a1.toInt + 2).toNat) := by unfold gI; rw [ez_7, show (z_6).toNatClampNeg = ((78 + 13 * a1.toInt + 2).toNat) from by show (z_6).toInt.toNat = _; omega]
  exact txI F hS dX7_of_14 rfl (⟨(i32b _), (by omega), hH⟩)
set_option maxHeartbeats 4000000 in
set_option maxRecDepth 100000 in
theorem c_X7_of_3 (E : Ev) (ws : TD) (kp : TD) (as : TD) (rd : TD) (sc : TD) (ty : TD) (ik : TD) (un : Int × Int) (tk : Int × Int) (xt : Int × Int) (tp : Int × Int) (sp : Int × Int) (wrb : Int × Int) (nu : Int × Int) (nab : Int × Int) (iwb : Int × Int) (X0 : Nat → Int32) (a0 : Nat) (a1 : Int32) (a2 : Int32) (ha0 : eT E a0 ∈ [24]) (ha1 : 0 ≤ a1.toInt ∧ a1.toInt ≤ 13) (ha2 : 3 ≤ a2.toInt ∧ a2.toInt ≤ 3) (hX0 : okA X0) : TcI E yX7_of cX7_of 3 .int ({ frames := 1, cells := 0, slots := 0, locals := 40 }) [.ref a0, .int a1, .int a2] (fun H => TH E (tbM (mD (.inl tp) (.inl sp) (.inl nu) (.inl un) (.inl tk) (.inl xt) (.inl wrb) (.inl nab) (.inl iwb)) (xD 660 X0) ws kp as rd sc ty ik) H) (fun v H => ((-2147483648) ≤ v.toInt ∧ v.toInt ≤ 2147483647) ∧ (v.toInt = gI X0 (78 + 13 * a1.toInt + 3).toNat) ∧ TH E (tbM (mD (.inl tp) (.inl sp) (.inl nu) (.inl un) (.inl tk) (.inl xt) (.inl wrb) (.inl nab) (.inl iwb)) (xD 660 X0) ws kp as rd sc ty ik) H) := by
  refine teI (by decide) (Nat.le_of_ble_eq_true rfl) ?_
  intro p_ ev_ s mi_ below_ meth cd_ ls F hK hN hO hH hS hl
  have hH : TH E (tbM (mD (.inl tp) (.inl sp) (.inl nu) (.inl un) (.inl tk) (.inl xt) (.inl wrb) (.inl nab) (.inl iwb)) (xD 660 X0) ws kp as rd sc ty ik) s.heap := hH
  have hl : lv_has ls 3 [(0, .ref a0), (1, .int a1), (2, .int a2)] := hl
  have hBX0 := okB hX0
  refine lv_aload_n F.1 F.2.1 dX7_of_0 rfl (lv_at hl 0 rfl) ?_
  refine tGetR (j := 0) F hK hH (tyb ha0 (all1 rfl)) rfl (all1 rfl) clX7 (by decide) wd_6_5 dX7_of_1 (fun q_1 hq_1 _ => ?_)
  refine lv_bipush (v := 78) F.1 F.2.1 dX7_of_4 (by decide) ?_
  refine topK (a := 78) (by decide) (fun k_2 hk_2 => ?_)
  refine lv_bipush (v := 13) F.1 F.2.1 dX7_of_6 (by decide) ?_
  refine topK (a := 13) (by decide) (fun k_3 hk_3 => ?_)
  refine lv_iload_n F.1 F.2.1 dX7_of_8 rfl (lv_at hl 1 rfl) ?_
  refine tMul (lo := 0) (hi := 169) F dX7_of_9 (eqb hk_3) ha1 rfl (fun z_4 hz_4 => ?_)
  have mz_4 : z_4.toInt = 13 * a1.toInt := by rw [hz_4.1, hk_3]
  refine tAdd (lo := 78) (hi := 247) F dX7_of_10 (eqb hk_2) hz_4.2 rfl (fun z_5 hz_5 => ?_)
  refine lv_iload_n F.1 F.2.1 dX7_of_11 rfl (lv_at hl 2 rfl) ?_
  refine tAdd (lo := 81) (hi := 250) F dX7_of_12 hz_5.2 ha2 rfl (fun z_6 hz_6 => ?_)
  refine tIaldX F hK hH (tyb hq_1 (all1 rfl)) (ixb (n := 660) hz_6.2 rfl rfl) dX7_of_13 (fun z_7 ez_7 => ?_)
  have gz_7 : z_7.toInt = gI X0 ((78 + 13 * a1.toInt + 3).toNat) := by unfold gI; rw [ez_7, show (z_6).toNatClampNeg = ((78 + 13 * a1.toInt + 3).toNat) from by show (z_6).toInt.toNat = _; omega]
  exact txI F hS dX7_of_14 rfl (⟨(i32b _), (by omega), hH⟩)
set_option maxHeartbeats 4000000 in
set_option maxRecDepth 100000 in
theorem c_X7_of_4 (E : Ev) (ws : TD) (kp : TD) (as : TD) (rd : TD) (sc : TD) (ty : TD) (ik : TD) (un : Int × Int) (tk : Int × Int) (xt : Int × Int) (tp : Int × Int) (sp : Int × Int) (wrb : Int × Int) (nu : Int × Int) (nab : Int × Int) (iwb : Int × Int) (X0 : Nat → Int32) (a0 : Nat) (a1 : Int32) (a2 : Int32) (ha0 : eT E a0 ∈ [24]) (ha1 : 0 ≤ a1.toInt ∧ a1.toInt ≤ 13) (ha2 : 4 ≤ a2.toInt ∧ a2.toInt ≤ 4) (hX0 : okA X0) : TcI E yX7_of cX7_of 3 .int ({ frames := 1, cells := 0, slots := 0, locals := 40 }) [.ref a0, .int a1, .int a2] (fun H => TH E (tbM (mD (.inl tp) (.inl sp) (.inl nu) (.inl un) (.inl tk) (.inl xt) (.inl wrb) (.inl nab) (.inl iwb)) (xD 660 X0) ws kp as rd sc ty ik) H) (fun v H => ((-2147483648) ≤ v.toInt ∧ v.toInt ≤ 2147483647) ∧ (v.toInt = gI X0 (78 + 13 * a1.toInt + 4).toNat) ∧ TH E (tbM (mD (.inl tp) (.inl sp) (.inl nu) (.inl un) (.inl tk) (.inl xt) (.inl wrb) (.inl nab) (.inl iwb)) (xD 660 X0) ws kp as rd sc ty ik) H) := by
  refine teI (by decide) (Nat.le_of_ble_eq_true rfl) ?_
  intro p_ ev_ s mi_ below_ meth cd_ ls F hK hN hO hH hS hl
  have hH : TH E (tbM (mD (.inl tp) (.inl sp) (.inl nu) (.inl un) (.inl tk) (.inl xt) (.inl wrb) (.inl nab) (.inl iwb)) (xD 660 X0) ws kp as rd sc ty ik) s.heap := hH
  have hl : lv_has ls 3 [(0, .ref a0), (1, .int a1), (2, .int a2)] := hl
  have hBX0 := okB hX0
  refine lv_aload_n F.1 F.2.1 dX7_of_0 rfl (lv_at hl 0 rfl) ?_
  refine tGetR (j := 0) F hK hH (tyb ha0 (all1 rfl)) rfl (all1 rfl) clX7 (by decide) wd_6_5 dX7_of_1 (fun q_1 hq_1 _ => ?_)
  refine lv_bipush (v := 78) F.1 F.2.1 dX7_of_4 (by decide) ?_
  refine topK (a := 78) (by decide) (fun k_2 hk_2 => ?_)
  refine lv_bipush (v := 13) F.1 F.2.1 dX7_of_6 (by decide) ?_
  refine topK (a := 13) (by decide) (fun k_3 hk_3 => ?_)
  refine lv_iload_n F.1 F.2.1 dX7_of_8 rfl (lv_at hl 1 rfl) ?_
  refine tMul (lo := 0) (hi := 169) F dX7_of_9 (eqb hk_3) ha1 rfl (fun z_4 hz_4 => ?_)
  have mz_4 : z_4.toInt = 13 * a1.toInt := by rw [hz_4.1, hk_3]
  refine tAdd (lo := 78) (hi := 247) F dX7_of_10 (eqb hk_2) hz_4.2 rfl (fun z_5 hz_5 => ?_)
  refine lv_iload_n F.1 F.2.1 dX7_of_11 rfl (lv_at hl 2 rfl) ?_
  refine tAdd (lo := 82) (hi := 251) F dX7_of_12 hz_5.2 ha2 rfl (fun z_6 hz_6 => ?_)
  refine tIaldX F hK hH (tyb hq_1 (all1 rfl)) (ixb (n := 660) hz_6.2 rfl rfl) dX7_of_13 (fun z_7 ez_7 => ?_)
  have gz_7 : z_7.toInt = gI X0 ((78 + 13 * a1.toInt + 4).toNat) := by unfold gI; rw [ez_7, show (z_6).toNatClampNeg = ((78 + 13 * a1.toInt + 4).toNat) from by show (z_6).toInt.toNat = _; omega]
  exact txI F hS dX7_of_14 rfl (⟨(i32b _), (by omega), hH⟩)
set_option maxHeartbeats 4000000 in
set_option maxRecDepth 100000 in
theorem c_X7_of_12 (E : Ev) (ws : TD) (kp : TD) (as : TD) (rd : TD) (sc : TD) (ty : TD) (ik : TD) (un : Int × Int) (tk : Int × Int) (xt : Int × Int) (tp : Int × Int) (sp : Int × Int) (wrb : Int × Int) (nu : Int × Int) (nab : Int × Int) (iwb : Int × Int) (X0 : Nat → Int32) (a0 : Nat) (a1 : Int32) (a2 : Int32) (ha0 : eT E a0 ∈ [24]) (ha1 : 0 ≤ a1.toInt ∧ a1.toInt ≤ 13) (ha2 : 12 ≤ a2.toInt ∧ a2.toInt ≤ 12) (hX0 : okA X0) : TcI E yX7_of cX7_of 3 .int ({ frames := 1, cells := 0, slots := 0, locals := 40 }) [.ref a0, .int a1, .int a2] (fun H => TH E (tbM (mD (.inl tp) (.inl sp) (.inl nu) (.inl un) (.inl tk) (.inl xt) (.inl wrb) (.inl nab) (.inl iwb)) (xD 660 X0) ws kp as rd sc ty ik) H) (fun v H => ((-2147483648) ≤ v.toInt ∧ v.toInt ≤ 2147483647) ∧ (v.toInt = gI X0 (78 + 13 * a1.toInt + 12).toNat) ∧ TH E (tbM (mD (.inl tp) (.inl sp) (.inl nu) (.inl un) (.inl tk) (.inl xt) (.inl wrb) (.inl nab) (.inl iwb)) (xD 660 X0) ws kp as rd sc ty ik) H) := by
  refine teI (by decide) (Nat.le_of_ble_eq_true rfl) ?_
  intro p_ ev_ s mi_ below_ meth cd_ ls F hK hN hO hH hS hl
  have hH : TH E (tbM (mD (.inl tp) (.inl sp) (.inl nu) (.inl un) (.inl tk) (.inl xt) (.inl wrb) (.inl nab) (.inl iwb)) (xD 660 X0) ws kp as rd sc ty ik) s.heap := hH
  have hl : lv_has ls 3 [(0, .ref a0), (1, .int a1), (2, .int a2)] := hl
  have hBX0 := okB hX0
  refine lv_aload_n F.1 F.2.1 dX7_of_0 rfl (lv_at hl 0 rfl) ?_
  refine tGetR (j := 0) F hK hH (tyb ha0 (all1 rfl)) rfl (all1 rfl) clX7 (by decide) wd_6_5 dX7_of_1 (fun q_1 hq_1 _ => ?_)
  refine lv_bipush (v := 78) F.1 F.2.1 dX7_of_4 (by decide) ?_
  refine topK (a := 78) (by decide) (fun k_2 hk_2 => ?_)
  refine lv_bipush (v := 13) F.1 F.2.1 dX7_of_6 (by decide) ?_
  refine topK (a := 13) (by decide) (fun k_3 hk_3 => ?_)
  refine lv_iload_n F.1 F.2.1 dX7_of_8 rfl (lv_at hl 1 rfl) ?_
  refine tMul (lo := 0) (hi := 169) F dX7_of_9 (eqb hk_3) ha1 rfl (fun z_4 hz_4 => ?_)
  have mz_4 : z_4.toInt = 13 * a1.toInt := by rw [hz_4.1, hk_3]
  refine tAdd (lo := 78) (hi := 247) F dX7_of_10 (eqb hk_2) hz_4.2 rfl (fun z_5 hz_5 => ?_)
  refine lv_iload_n F.1 F.2.1 dX7_of_11 rfl (lv_at hl 2 rfl) ?_
  refine tAdd (lo := 90) (hi := 259) F dX7_of_12 hz_5.2 ha2 rfl (fun z_6 hz_6 => ?_)
  refine tIaldX F hK hH (tyb hq_1 (all1 rfl)) (ixb (n := 660) hz_6.2 rfl rfl) dX7_of_13 (fun z_7 ez_7 => ?_)
  have gz_7 : z_7.toInt = gI X0 ((78 + 13 * a1.toInt + 12).toNat) := by unfold gI; rw [ez_7, show (z_6).toNatClampNeg = ((78 + 13 * a1.toInt + 12).toNat) from by show (z_6).toInt.toNat = _; omega]
  exact txI F hS dX7_of_14 rfl (⟨(i32b _), (by omega), hH⟩)
set_option maxHeartbeats 4000000 in
set_option maxRecDepth 100000 in
theorem c_X7_of_any (E : Ev) (ws : TD) (kp : TD) (as : TD) (rd : TD) (sc : TD) (ty : TD) (ik : TD) (un : Int × Int) (tk : Int × Int) (xt : Int × Int) (tp : Int × Int) (sp : Int × Int) (wrb : Int × Int) (nu : Int × Int) (nab : Int × Int) (iwb : Int × Int) (X0 : Nat → Int32) (a0 : Nat) (a1 : Int32) (a2 : Int32) (ha0 : eT E a0 ∈ [24]) (ha1 : 0 ≤ a1.toInt ∧ a1.toInt ≤ 13) (ha2 : 0 ≤ a2.toInt ∧ a2.toInt ≤ 12) (hX0 : okA X0) : TcI E yX7_of cX7_of 3 .int ({ frames := 1, cells := 0, slots := 0, locals := 40 }) [.ref a0, .int a1, .int a2] (fun H => TH E (tbM (mD (.inl tp) (.inl sp) (.inl nu) (.inl un) (.inl tk) (.inl xt) (.inl wrb) (.inl nab) (.inl iwb)) (xD 660 X0) ws kp as rd sc ty ik) H) (fun v H => ((-2147483648) ≤ v.toInt ∧ v.toInt ≤ 2147483647) ∧ TH E (tbM (mD (.inl tp) (.inl sp) (.inl nu) (.inl un) (.inl tk) (.inl xt) (.inl wrb) (.inl nab) (.inl iwb)) (xD 660 X0) ws kp as rd sc ty ik) H) := by
  refine teI (by decide) (Nat.le_of_ble_eq_true rfl) ?_
  intro p_ ev_ s mi_ below_ meth cd_ ls F hK hN hO hH hS hl
  have hH : TH E (tbM (mD (.inl tp) (.inl sp) (.inl nu) (.inl un) (.inl tk) (.inl xt) (.inl wrb) (.inl nab) (.inl iwb)) (xD 660 X0) ws kp as rd sc ty ik) s.heap := hH
  have hl : lv_has ls 3 [(0, .ref a0), (1, .int a1), (2, .int a2)] := hl
  have hBX0 := okB hX0
  refine lv_aload_n F.1 F.2.1 dX7_of_0 rfl (lv_at hl 0 rfl) ?_
  refine tGetR (j := 0) F hK hH (tyb ha0 (all1 rfl)) rfl (all1 rfl) clX7 (by decide) wd_6_5 dX7_of_1 (fun q_1 hq_1 _ => ?_)
  refine lv_bipush (v := 78) F.1 F.2.1 dX7_of_4 (by decide) ?_
  refine topK (a := 78) (by decide) (fun k_2 hk_2 => ?_)
  refine lv_bipush (v := 13) F.1 F.2.1 dX7_of_6 (by decide) ?_
  refine topK (a := 13) (by decide) (fun k_3 hk_3 => ?_)
  refine lv_iload_n F.1 F.2.1 dX7_of_8 rfl (lv_at hl 1 rfl) ?_
  refine tMul (lo := 0) (hi := 169) F dX7_of_9 (eqb hk_3) ha1 rfl (fun z_4 hz_4 => ?_)
  have mz_4 : z_4.toInt = 13 * a1.toInt := by rw [hz_4.1, hk_3]
  refine tAdd (lo := 78) (hi := 247) F dX7_of_10 (eqb hk_2) hz_4.2 rfl (fun z_5 hz_5 => ?_)
  refine lv_iload_n F.1 F.2.1 dX7_of_11 rfl (lv_at hl 2 rfl) ?_
  refine tAdd (lo := 78) (hi := 259) F dX7_of_12 hz_5.2 ha2 rfl (fun z_6 hz_6 => ?_)
  refine tIaldX F hK hH (tyb hq_1 (all1 rfl)) (ixb (n := 660) hz_6.2 rfl rfl) dX7_of_13 (fun z_7 ez_7 => ?_)
  exact txI F hS dX7_of_14 rfl (⟨(i32b _), hH⟩)
set_option maxHeartbeats 4000000 in
set_option maxRecDepth 100000 in
theorem c_X7_ofStore_0 (E : Ev) (ws : TD) (kp : TD) (as : TD) (rd : TD) (sc : TD) (ty : TD) (ik : TD) (un : Int × Int) (tk : Int × Int) (xt : Int × Int) (tp : Int × Int) (sp : Int × Int) (wrb : Int × Int) (nu : Int × Int) (nab : Int × Int) (iwb : Int × Int) (X0 : Nat → Int32) (a0 : Nat) (a1 : Int32) (a2 : Int32) (ha0 : eT E a0 ∈ [24]) (ha1 : 0 ≤ a1.toInt ∧ a1.toInt ≤ 3) (ha2 : 0 ≤ a2.toInt ∧ a2.toInt ≤ 0) (hX0 : okA X0) : TcI E yX7_ofStore cX7_ofStore 3 .int ({ frames := 1, cells := 0, slots := 0, locals := 40 }) [.ref a0, .int a1, .int a2] (fun H => TH E (tbM (mD (.inl tp) (.inl sp) (.inl nu) (.inl un) (.inl tk) (.inl xt) (.inl wrb) (.inl nab) (.inl iwb)) (xD 660 X0) ws kp as rd sc ty ik) H) (fun v H => (0 ≤ v.toInt ∧ v.toInt ≤ 11) ∧ (v.toInt = gI X0 (260 + 7 * a1.toInt + 0).toNat) ∧ TH E (tbM (mD (.inl tp) (.inl sp) (.inl nu) (.inl un) (.inl tk) (.inl xt) (.inl wrb) (.inl nab) (.inl iwb)) (xD 660 X0) ws kp as rd sc ty ik) H) := by
  refine teI (by decide) (Nat.le_of_ble_eq_true rfl) ?_
  intro p_ ev_ s mi_ below_ meth cd_ ls F hK hN hO hH hS hl
  have hH : TH E (tbM (mD (.inl tp) (.inl sp) (.inl nu) (.inl un) (.inl tk) (.inl xt) (.inl wrb) (.inl nab) (.inl iwb)) (xD 660 X0) ws kp as rd sc ty ik) s.heap := hH
  have hl : lv_has ls 3 [(0, .ref a0), (1, .int a1), (2, .int a2)] := hl
  have hBX0 := okB hX0
  refine lv_aload_n F.1 F.2.1 dX7_ofStore_0 rfl (lv_at hl 0 rfl) ?_
  refine tGetR (j := 0) F hK hH (tyb ha0 (all1 rfl)) rfl (all1 rfl) clX7 (by decide) wd_6_5 dX7_ofStore_1 (fun q_1 hq_1 _ => ?_)
  refine lv_sipush (v := 260) F.1 F.2.1 dX7_ofStore_4 (by decide) ?_
  refine topK (a := 260) (by decide) (fun k_2 hk_2 => ?_)
  refine lv_bipush (v := 7) F.1 F.2.1 dX7_ofStore_7 (by decide) ?_
  refine topK (a := 7) (by decide) (fun k_3 hk_3 => ?_)
  refine lv_iload_n F.1 F.2.1 dX7_ofStore_9 rfl (lv_at hl 1 rfl) ?_
  refine tMul (lo := 0) (hi := 21) F dX7_ofStore_10 (eqb hk_3) ha1 rfl (fun z_4 hz_4 => ?_)
  have mz_4 : z_4.toInt = 7 * a1.toInt := by rw [hz_4.1, hk_3]
  refine tAdd (lo := 260) (hi := 281) F dX7_ofStore_11 (eqb hk_2) hz_4.2 rfl (fun z_5 hz_5 => ?_)
  refine lv_iload_n F.1 F.2.1 dX7_ofStore_12 rfl (lv_at hl 2 rfl) ?_
  refine tAdd (lo := 260) (hi := 281) F dX7_ofStore_13 hz_5.2 ha2 rfl (fun z_6 hz_6 => ?_)
  refine tIaldX F hK hH (tyb hq_1 (all1 rfl)) (ixb (n := 660) hz_6.2 rfl rfl) dX7_ofStore_14 (fun z_7 ez_7 => ?_)
  have gz_7 : z_7.toInt = gI X0 ((260 + 7 * a1.toInt + 0).toNat) := by unfold gI; rw [ez_7, show (z_6).toNatClampNeg = ((260 + 7 * a1.toInt + 0).toNat) from by show (z_6).toInt.toNat = _; omega]
  have hz_7 : 0 ≤ z_7.toInt ∧ z_7.toInt ≤ 11 := (by have h9_ := okA.at (i := z_6) hX0 (by omega); rw [show gI X0 (z_6).toNatClampNeg = z_7.toInt from by unfold gI; rw [ez_7]] at h9_; have h8_ := phi_s0 h9_ (by omega) (by omega); omega)
  exact txI F hS dX7_ofStore_15 rfl (⟨hz_7, (by omega), hH⟩)
set_option maxHeartbeats 4000000 in
set_option maxRecDepth 100000 in
theorem c_X7_ofStore_2 (E : Ev) (ws : TD) (kp : TD) (as : TD) (rd : TD) (sc : TD) (ty : TD) (ik : TD) (un : Int × Int) (tk : Int × Int) (xt : Int × Int) (tp : Int × Int) (sp : Int × Int) (wrb : Int × Int) (nu : Int × Int) (nab : Int × Int) (iwb : Int × Int) (X0 : Nat → Int32) (a0 : Nat) (a1 : Int32) (a2 : Int32) (ha0 : eT E a0 ∈ [24]) (ha1 : 0 ≤ a1.toInt ∧ a1.toInt ≤ 3) (ha2 : 2 ≤ a2.toInt ∧ a2.toInt ≤ 2) (hX0 : okA X0) : TcI E yX7_ofStore cX7_ofStore 3 .int ({ frames := 1, cells := 0, slots := 0, locals := 40 }) [.ref a0, .int a1, .int a2] (fun H => TH E (tbM (mD (.inl tp) (.inl sp) (.inl nu) (.inl un) (.inl tk) (.inl xt) (.inl wrb) (.inl nab) (.inl iwb)) (xD 660 X0) ws kp as rd sc ty ik) H) (fun v H => (0 ≤ v.toInt ∧ v.toInt ≤ 9999) ∧ (v.toInt = gI X0 (260 + 7 * a1.toInt + 2).toNat) ∧ TH E (tbM (mD (.inl tp) (.inl sp) (.inl nu) (.inl un) (.inl tk) (.inl xt) (.inl wrb) (.inl nab) (.inl iwb)) (xD 660 X0) ws kp as rd sc ty ik) H) := by
  refine teI (by decide) (Nat.le_of_ble_eq_true rfl) ?_
  intro p_ ev_ s mi_ below_ meth cd_ ls F hK hN hO hH hS hl
  have hH : TH E (tbM (mD (.inl tp) (.inl sp) (.inl nu) (.inl un) (.inl tk) (.inl xt) (.inl wrb) (.inl nab) (.inl iwb)) (xD 660 X0) ws kp as rd sc ty ik) s.heap := hH
  have hl : lv_has ls 3 [(0, .ref a0), (1, .int a1), (2, .int a2)] := hl
  have hBX0 := okB hX0
  refine lv_aload_n F.1 F.2.1 dX7_ofStore_0 rfl (lv_at hl 0 rfl) ?_
  refine tGetR (j := 0) F hK hH (tyb ha0 (all1 rfl)) rfl (all1 rfl) clX7 (by decide) wd_6_5 dX7_ofStore_1 (fun q_1 hq_1 _ => ?_)
  refine lv_sipush (v := 260) F.1 F.2.1 dX7_ofStore_4 (by decide) ?_
  refine topK (a := 260) (by decide) (fun k_2 hk_2 => ?_)
  refine lv_bipush (v := 7) F.1 F.2.1 dX7_ofStore_7 (by decide) ?_
  refine topK (a := 7) (by decide) (fun k_3 hk_3 => ?_)
  refine lv_iload_n F.1 F.2.1 dX7_ofStore_9 rfl (lv_at hl 1 rfl) ?_
  refine tMul (lo := 0) (hi := 21) F dX7_ofStore_10 (eqb hk_3) ha1 rfl (fun z_4 hz_4 => ?_)
  have mz_4 : z_4.toInt = 7 * a1.toInt := by rw [hz_4.1, hk_3]
  refine tAdd (lo := 260) (hi := 281) F dX7_ofStore_11 (eqb hk_2) hz_4.2 rfl (fun z_5 hz_5 => ?_)
  refine lv_iload_n F.1 F.2.1 dX7_ofStore_12 rfl (lv_at hl 2 rfl) ?_
  refine tAdd (lo := 262) (hi := 283) F dX7_ofStore_13 hz_5.2 ha2 rfl (fun z_6 hz_6 => ?_)
  refine tIaldX F hK hH (tyb hq_1 (all1 rfl)) (ixb (n := 660) hz_6.2 rfl rfl) dX7_ofStore_14 (fun z_7 ez_7 => ?_)
  have gz_7 : z_7.toInt = gI X0 ((260 + 7 * a1.toInt + 2).toNat) := by unfold gI; rw [ez_7, show (z_6).toNatClampNeg = ((260 + 7 * a1.toInt + 2).toNat) from by show (z_6).toInt.toNat = _; omega]
  have hz_7 : 0 ≤ z_7.toInt ∧ z_7.toInt ≤ 9999 := (by have h9_ := okA.at (i := z_6) hX0 (by omega); rw [show gI X0 (z_6).toNatClampNeg = z_7.toInt from by unfold gI; rw [ez_7]] at h9_; have h8_ := phi_s2 h9_ (by omega) (by omega); omega)
  exact txI F hS dX7_ofStore_15 rfl (⟨hz_7, (by omega), hH⟩)
set_option maxHeartbeats 4000000 in
set_option maxRecDepth 100000 in
theorem c_X7_ofStore_5 (E : Ev) (ws : TD) (kp : TD) (as : TD) (rd : TD) (sc : TD) (ty : TD) (ik : TD) (un : Int × Int) (tk : Int × Int) (xt : Int × Int) (tp : Int × Int) (sp : Int × Int) (wrb : Int × Int) (nu : Int × Int) (nab : Int × Int) (iwb : Int × Int) (X0 : Nat → Int32) (a0 : Nat) (a1 : Int32) (a2 : Int32) (ha0 : eT E a0 ∈ [24]) (ha1 : 0 ≤ a1.toInt ∧ a1.toInt ≤ 3) (ha2 : 5 ≤ a2.toInt ∧ a2.toInt ≤ 5) (hX0 : okA X0) : TcI E yX7_ofStore cX7_ofStore 3 .int ({ frames := 1, cells := 0, slots := 0, locals := 40 }) [.ref a0, .int a1, .int a2] (fun H => TH E (tbM (mD (.inl tp) (.inl sp) (.inl nu) (.inl un) (.inl tk) (.inl xt) (.inl wrb) (.inl nab) (.inl iwb)) (xD 660 X0) ws kp as rd sc ty ik) H) (fun v H => ((-2) ≤ v.toInt ∧ v.toInt ≤ 13) ∧ (v.toInt = gI X0 (260 + 7 * a1.toInt + 5).toNat) ∧ (v.toInt ≠ -1) ∧ TH E (tbM (mD (.inl tp) (.inl sp) (.inl nu) (.inl un) (.inl tk) (.inl xt) (.inl wrb) (.inl nab) (.inl iwb)) (xD 660 X0) ws kp as rd sc ty ik) H) := by
  refine teI (by decide) (Nat.le_of_ble_eq_true rfl) ?_
  intro p_ ev_ s mi_ below_ meth cd_ ls F hK hN hO hH hS hl
  have hH : TH E (tbM (mD (.inl tp) (.inl sp) (.inl nu) (.inl un) (.inl tk) (.inl xt) (.inl wrb) (.inl nab) (.inl iwb)) (xD 660 X0) ws kp as rd sc ty ik) s.heap := hH
  have hl : lv_has ls 3 [(0, .ref a0), (1, .int a1), (2, .int a2)] := hl
  have hBX0 := okB hX0
  refine lv_aload_n F.1 F.2.1 dX7_ofStore_0 rfl (lv_at hl 0 rfl) ?_
  refine tGetR (j := 0) F hK hH (tyb ha0 (all1 rfl)) rfl (all1 rfl) clX7 (by decide) wd_6_5 dX7_ofStore_1 (fun q_1 hq_1 _ => ?_)
  refine lv_sipush (v := 260) F.1 F.2.1 dX7_ofStore_4 (by decide) ?_
  refine topK (a := 260) (by decide) (fun k_2 hk_2 => ?_)
  refine lv_bipush (v := 7) F.1 F.2.1 dX7_ofStore_7 (by decide) ?_
  refine topK (a := 7) (by decide) (fun k_3 hk_3 => ?_)
  refine lv_iload_n F.1 F.2.1 dX7_ofStore_9 rfl (lv_at hl 1 rfl) ?_
  refine tMul (lo := 0) (hi := 21) F dX7_ofStore_10 (eqb hk_3) ha1 rfl (fun z_4 hz_4 => ?_)
  have mz_4 : z_4.toInt = 7 * a1.toInt := by rw [hz_4.1, hk_3]
  refine tAdd (lo := 260) (hi := 281) F dX7_ofStore_11 (eqb hk_2) hz_4.2 rfl (fun z_5 hz_5 => ?_)
  refine lv_iload_n F.1 F.2.1 dX7_ofStore_12 rfl (lv_at hl 2 rfl) ?_
  refine tAdd (lo := 265) (hi := 286) F dX7_ofStore_13 hz_5.2 ha2 rfl (fun z_6 hz_6 => ?_)
  refine tIaldX F hK hH (tyb hq_1 (all1 rfl)) (ixb (n := 660) hz_6.2 rfl rfl) dX7_ofStore_14 (fun z_7 ez_7 => ?_)
  have gz_7 : z_7.toInt = gI X0 ((260 + 7 * a1.toInt + 5).toNat) := by unfold gI; rw [ez_7, show (z_6).toNatClampNeg = ((260 + 7 * a1.toInt + 5).toNat) from by show (z_6).toInt.toNat = _; omega]
  have qz_7 := okA.at (i := z_6) hX0 (by omega)
  rw [show gI X0 (z_6).toNatClampNeg = z_7.toInt from by unfold gI; rw [ez_7]] at qz_7
  have pz_7 := phi_s5 qz_7 (by omega) (by omega)
  have hz_7 : (-2) ≤ z_7.toInt ∧ z_7.toInt ≤ 13 := (by have h9_ := okA.at (i := z_6) hX0 (by omega); rw [show gI X0 (z_6).toNatClampNeg = z_7.toInt from by unfold gI; rw [ez_7]] at h9_; have h8_ := phi_s5 h9_ (by omega) (by omega); omega)
  exact txI F hS dX7_ofStore_15 rfl (⟨hz_7, (by omega), (by omega), hH⟩)
set_option maxHeartbeats 4000000 in
set_option maxRecDepth 100000 in
theorem c_X7_ofStore_6 (E : Ev) (ws : TD) (kp : TD) (as : TD) (rd : TD) (sc : TD) (ty : TD) (ik : TD) (un : Int × Int) (tk : Int × Int) (xt : Int × Int) (tp : Int × Int) (sp : Int × Int) (wrb : Int × Int) (nu : Int × Int) (nab : Int × Int) (iwb : Int × Int) (X0 : Nat → Int32) (a0 : Nat) (a1 : Int32) (a2 : Int32) (ha0 : eT E a0 ∈ [24]) (ha1 : 0 ≤ a1.toInt ∧ a1.toInt ≤ 3) (ha2 : 6 ≤ a2.toInt ∧ a2.toInt ≤ 6) (hX0 : okA X0) : TcI E yX7_ofStore cX7_ofStore 3 .int ({ frames := 1, cells := 0, slots := 0, locals := 40 }) [.ref a0, .int a1, .int a2] (fun H => TH E (tbM (mD (.inl tp) (.inl sp) (.inl nu) (.inl un) (.inl tk) (.inl xt) (.inl wrb) (.inl nab) (.inl iwb)) (xD 660 X0) ws kp as rd sc ty ik) H) (fun v H => (0 ≤ v.toInt ∧ v.toInt ≤ 9999) ∧ (v.toInt = gI X0 (260 + 7 * a1.toInt + 6).toNat) ∧ TH E (tbM (mD (.inl tp) (.inl sp) (.inl nu) (.inl un) (.inl tk) (.inl xt) (.inl wrb) (.inl nab) (.inl iwb)) (xD 660 X0) ws kp as rd sc ty ik) H) := by
  refine teI (by decide) (Nat.le_of_ble_eq_true rfl) ?_
  intro p_ ev_ s mi_ below_ meth cd_ ls F hK hN hO hH hS hl
  have hH : TH E (tbM (mD (.inl tp) (.inl sp) (.inl nu) (.inl un) (.inl tk) (.inl xt) (.inl wrb) (.inl nab) (.inl iwb)) (xD 660 X0) ws kp as rd sc ty ik) s.heap := hH
  have hl : lv_has ls 3 [(0, .ref a0), (1, .int a1), (2, .int a2)] := hl
  have hBX0 := okB hX0
  refine lv_aload_n F.1 F.2.1 dX7_ofStore_0 rfl (lv_at hl 0 rfl) ?_
  refine tGetR (j := 0) F hK hH (tyb ha0 (all1 rfl)) rfl (all1 rfl) clX7 (by decide) wd_6_5 dX7_ofStore_1 (fun q_1 hq_1 _ => ?_)
  refine lv_sipush (v := 260) F.1 F.2.1 dX7_ofStore_4 (by decide) ?_
  refine topK (a := 260) (by decide) (fun k_2 hk_2 => ?_)
  refine lv_bipush (v := 7) F.1 F.2.1 dX7_ofStore_7 (by decide) ?_
  refine topK (a := 7) (by decide) (fun k_3 hk_3 => ?_)
  refine lv_iload_n F.1 F.2.1 dX7_ofStore_9 rfl (lv_at hl 1 rfl) ?_
  refine tMul (lo := 0) (hi := 21) F dX7_ofStore_10 (eqb hk_3) ha1 rfl (fun z_4 hz_4 => ?_)
  have mz_4 : z_4.toInt = 7 * a1.toInt := by rw [hz_4.1, hk_3]
  refine tAdd (lo := 260) (hi := 281) F dX7_ofStore_11 (eqb hk_2) hz_4.2 rfl (fun z_5 hz_5 => ?_)
  refine lv_iload_n F.1 F.2.1 dX7_ofStore_12 rfl (lv_at hl 2 rfl) ?_
  refine tAdd (lo := 266) (hi := 287) F dX7_ofStore_13 hz_5.2 ha2 rfl (fun z_6 hz_6 => ?_)
  refine tIaldX F hK hH (tyb hq_1 (all1 rfl)) (ixb (n := 660) hz_6.2 rfl rfl) dX7_ofStore_14 (fun z_7 ez_7 => ?_)
  have gz_7 : z_7.toInt = gI X0 ((260 + 7 * a1.toInt + 6).toNat) := by unfold gI; rw [ez_7, show (z_6).toNatClampNeg = ((260 + 7 * a1.toInt + 6).toNat) from by show (z_6).toInt.toNat = _; omega]
  have hz_7 : 0 ≤ z_7.toInt ∧ z_7.toInt ≤ 9999 := (by have h9_ := okA.at (i := z_6) hX0 (by omega); rw [show gI X0 (z_6).toNatClampNeg = z_7.toInt from by unfold gI; rw [ez_7]] at h9_; have h8_ := phi_s6 h9_ (by omega) (by omega); omega)
  exact txI F hS dX7_ofStore_15 rfl (⟨hz_7, (by omega), hH⟩)
set_option maxHeartbeats 4000000 in
set_option maxRecDepth 100000 in
theorem c_X7_ofStore_1 (E : Ev) (ws : TD) (kp : TD) (as : TD) (rd : TD) (sc : TD) (ty : TD) (ik : TD) (un : Int × Int) (tk : Int × Int) (xt : Int × Int) (tp : Int × Int) (sp : Int × Int) (wrb : Int × Int) (nu : Int × Int) (nab : Int × Int) (iwb : Int × Int) (X0 : Nat → Int32) (a0 : Nat) (a1 : Int32) (a2 : Int32) (ha0 : eT E a0 ∈ [24]) (ha1 : 0 ≤ a1.toInt ∧ a1.toInt ≤ 3) (ha2 : 1 ≤ a2.toInt ∧ a2.toInt ≤ 1) (hX0 : okA X0) : TcI E yX7_ofStore cX7_ofStore 3 .int ({ frames := 1, cells := 0, slots := 0, locals := 40 }) [.ref a0, .int a1, .int a2] (fun H => TH E (tbM (mD (.inl tp) (.inl sp) (.inl nu) (.inl un) (.inl tk) (.inl xt) (.inl wrb) (.inl nab) (.inl iwb)) (xD 660 X0) ws kp as rd sc ty ik) H) (fun v H => ((-2147483648) ≤ v.toInt ∧ v.toInt ≤ 2147483647) ∧ (v.toInt = gI X0 (260 + 7 * a1.toInt + 1).toNat) ∧ TH E (tbM (mD (.inl tp) (.inl sp) (.inl nu) (.inl un) (.inl tk) (.inl xt) (.inl wrb) (.inl nab) (.inl iwb)) (xD 660 X0) ws kp as rd sc ty ik) H) := by
  refine teI (by decide) (Nat.le_of_ble_eq_true rfl) ?_
  intro p_ ev_ s mi_ below_ meth cd_ ls F hK hN hO hH hS hl
  have hH : TH E (tbM (mD (.inl tp) (.inl sp) (.inl nu) (.inl un) (.inl tk) (.inl xt) (.inl wrb) (.inl nab) (.inl iwb)) (xD 660 X0) ws kp as rd sc ty ik) s.heap := hH
  have hl : lv_has ls 3 [(0, .ref a0), (1, .int a1), (2, .int a2)] := hl
  have hBX0 := okB hX0
  refine lv_aload_n F.1 F.2.1 dX7_ofStore_0 rfl (lv_at hl 0 rfl) ?_
  refine tGetR (j := 0) F hK hH (tyb ha0 (all1 rfl)) rfl (all1 rfl) clX7 (by decide) wd_6_5 dX7_ofStore_1 (fun q_1 hq_1 _ => ?_)
  refine lv_sipush (v := 260) F.1 F.2.1 dX7_ofStore_4 (by decide) ?_
  refine topK (a := 260) (by decide) (fun k_2 hk_2 => ?_)
  refine lv_bipush (v := 7) F.1 F.2.1 dX7_ofStore_7 (by decide) ?_
  refine topK (a := 7) (by decide) (fun k_3 hk_3 => ?_)
  refine lv_iload_n F.1 F.2.1 dX7_ofStore_9 rfl (lv_at hl 1 rfl) ?_
  refine tMul (lo := 0) (hi := 21) F dX7_ofStore_10 (eqb hk_3) ha1 rfl (fun z_4 hz_4 => ?_)
  have mz_4 : z_4.toInt = 7 * a1.toInt := by rw [hz_4.1, hk_3]
  refine tAdd (lo := 260) (hi := 281) F dX7_ofStore_11 (eqb hk_2) hz_4.2 rfl (fun z_5 hz_5 => ?_)
  refine lv_iload_n F.1 F.2.1 dX7_ofStore_12 rfl (lv_at hl 2 rfl) ?_
  refine tAdd (lo := 261) (hi := 282) F dX7_ofStore_13 hz_5.2 ha2 rfl (fun z_6 hz_6 => ?_)
  refine tIaldX F hK hH (tyb hq_1 (all1 rfl)) (ixb (n := 660) hz_6.2 rfl rfl) dX7_ofStore_14 (fun z_7 ez_7 => ?_)
  have gz_7 : z_7.toInt = gI X0 ((260 + 7 * a1.toInt + 1).toNat) := by unfold gI; rw [ez_7, show (z_6).toNatClampNeg = ((260 + 7 * a1.toInt + 1).toNat) from by show (z_6).toInt.toNat = _; omega]
  exact txI F hS dX7_ofStore_15 rfl (⟨(i32b _), (by omega), hH⟩)
set_option maxHeartbeats 4000000 in
set_option maxRecDepth 100000 in
theorem c_X7_ofStore_3 (E : Ev) (ws : TD) (kp : TD) (as : TD) (rd : TD) (sc : TD) (ty : TD) (ik : TD) (un : Int × Int) (tk : Int × Int) (xt : Int × Int) (tp : Int × Int) (sp : Int × Int) (wrb : Int × Int) (nu : Int × Int) (nab : Int × Int) (iwb : Int × Int) (X0 : Nat → Int32) (a0 : Nat) (a1 : Int32) (a2 : Int32) (ha0 : eT E a0 ∈ [24]) (ha1 : 0 ≤ a1.toInt ∧ a1.toInt ≤ 3) (ha2 : 3 ≤ a2.toInt ∧ a2.toInt ≤ 3) (hX0 : okA X0) : TcI E yX7_ofStore cX7_ofStore 3 .int ({ frames := 1, cells := 0, slots := 0, locals := 40 }) [.ref a0, .int a1, .int a2] (fun H => TH E (tbM (mD (.inl tp) (.inl sp) (.inl nu) (.inl un) (.inl tk) (.inl xt) (.inl wrb) (.inl nab) (.inl iwb)) (xD 660 X0) ws kp as rd sc ty ik) H) (fun v H => ((-2147483648) ≤ v.toInt ∧ v.toInt ≤ 2147483647) ∧ (v.toInt = gI X0 (260 + 7 * a1.toInt + 3).toNat) ∧ TH E (tbM (mD (.inl tp) (.inl sp) (.inl nu) (.inl un) (.inl tk) (.inl xt) (.inl wrb) (.inl nab) (.inl iwb)) (xD 660 X0) ws kp as rd sc ty ik) H) := by
  refine teI (by decide) (Nat.le_of_ble_eq_true rfl) ?_
  intro p_ ev_ s mi_ below_ meth cd_ ls F hK hN hO hH hS hl
  have hH : TH E (tbM (mD (.inl tp) (.inl sp) (.inl nu) (.inl un) (.inl tk) (.inl xt) (.inl wrb) (.inl nab) (.inl iwb)) (xD 660 X0) ws kp as rd sc ty ik) s.heap := hH
  have hl : lv_has ls 3 [(0, .ref a0), (1, .int a1), (2, .int a2)] := hl
  have hBX0 := okB hX0
  refine lv_aload_n F.1 F.2.1 dX7_ofStore_0 rfl (lv_at hl 0 rfl) ?_
  refine tGetR (j := 0) F hK hH (tyb ha0 (all1 rfl)) rfl (all1 rfl) clX7 (by decide) wd_6_5 dX7_ofStore_1 (fun q_1 hq_1 _ => ?_)
  refine lv_sipush (v := 260) F.1 F.2.1 dX7_ofStore_4 (by decide) ?_
  refine topK (a := 260) (by decide) (fun k_2 hk_2 => ?_)
  refine lv_bipush (v := 7) F.1 F.2.1 dX7_ofStore_7 (by decide) ?_
  refine topK (a := 7) (by decide) (fun k_3 hk_3 => ?_)
  refine lv_iload_n F.1 F.2.1 dX7_ofStore_9 rfl (lv_at hl 1 rfl) ?_
  refine tMul (lo := 0) (hi := 21) F dX7_ofStore_10 (eqb hk_3) ha1 rfl (fun z_4 hz_4 => ?_)
  have mz_4 : z_4.toInt = 7 * a1.toInt := by rw [hz_4.1, hk_3]
  refine tAdd (lo := 260) (hi := 281) F dX7_ofStore_11 (eqb hk_2) hz_4.2 rfl (fun z_5 hz_5 => ?_)
  refine lv_iload_n F.1 F.2.1 dX7_ofStore_12 rfl (lv_at hl 2 rfl) ?_
  refine tAdd (lo := 263) (hi := 284) F dX7_ofStore_13 hz_5.2 ha2 rfl (fun z_6 hz_6 => ?_)
  refine tIaldX F hK hH (tyb hq_1 (all1 rfl)) (ixb (n := 660) hz_6.2 rfl rfl) dX7_ofStore_14 (fun z_7 ez_7 => ?_)
  have gz_7 : z_7.toInt = gI X0 ((260 + 7 * a1.toInt + 3).toNat) := by unfold gI; rw [ez_7, show (z_6).toNatClampNeg = ((260 + 7 * a1.toInt + 3).toNat) from by show (z_6).toInt.toNat = _; omega]
  exact txI F hS dX7_ofStore_15 rfl (⟨(i32b _), (by omega), hH⟩)
set_option maxHeartbeats 4000000 in
set_option maxRecDepth 100000 in
theorem c_X7_ofStore_4 (E : Ev) (ws : TD) (kp : TD) (as : TD) (rd : TD) (sc : TD) (ty : TD) (ik : TD) (un : Int × Int) (tk : Int × Int) (xt : Int × Int) (tp : Int × Int) (sp : Int × Int) (wrb : Int × Int) (nu : Int × Int) (nab : Int × Int) (iwb : Int × Int) (X0 : Nat → Int32) (a0 : Nat) (a1 : Int32) (a2 : Int32) (ha0 : eT E a0 ∈ [24]) (ha1 : 0 ≤ a1.toInt ∧ a1.toInt ≤ 3) (ha2 : 4 ≤ a2.toInt ∧ a2.toInt ≤ 4) (hX0 : okA X0) : TcI E yX7_ofStore cX7_ofStore 3 .int ({ frames := 1, cells := 0, slots := 0, locals := 40 }) [.ref a0, .int a1, .int a2] (fun H => TH E (tbM (mD (.inl tp) (.inl sp) (.inl nu) (.inl un) (.inl tk) (.inl xt) (.inl wrb) (.inl nab) (.inl iwb)) (xD 660 X0) ws kp as rd sc ty ik) H) (fun v H => ((-2147483648) ≤ v.toInt ∧ v.toInt ≤ 2147483647) ∧ (v.toInt = gI X0 (260 + 7 * a1.toInt + 4).toNat) ∧ TH E (tbM (mD (.inl tp) (.inl sp) (.inl nu) (.inl un) (.inl tk) (.inl xt) (.inl wrb) (.inl nab) (.inl iwb)) (xD 660 X0) ws kp as rd sc ty ik) H) := by
  refine teI (by decide) (Nat.le_of_ble_eq_true rfl) ?_
  intro p_ ev_ s mi_ below_ meth cd_ ls F hK hN hO hH hS hl
  have hH : TH E (tbM (mD (.inl tp) (.inl sp) (.inl nu) (.inl un) (.inl tk) (.inl xt) (.inl wrb) (.inl nab) (.inl iwb)) (xD 660 X0) ws kp as rd sc ty ik) s.heap := hH
  have hl : lv_has ls 3 [(0, .ref a0), (1, .int a1), (2, .int a2)] := hl
  have hBX0 := okB hX0
  refine lv_aload_n F.1 F.2.1 dX7_ofStore_0 rfl (lv_at hl 0 rfl) ?_
  refine tGetR (j := 0) F hK hH (tyb ha0 (all1 rfl)) rfl (all1 rfl) clX7 (by decide) wd_6_5 dX7_ofStore_1 (fun q_1 hq_1 _ => ?_)
  refine lv_sipush (v := 260) F.1 F.2.1 dX7_ofStore_4 (by decide) ?_
  refine topK (a := 260) (by decide) (fun k_2 hk_2 => ?_)
  refine lv_bipush (v := 7) F.1 F.2.1 dX7_ofStore_7 (by decide) ?_
  refine topK (a := 7) (by decide) (fun k_3 hk_3 => ?_)
  refine lv_iload_n F.1 F.2.1 dX7_ofStore_9 rfl (lv_at hl 1 rfl) ?_
  refine tMul (lo := 0) (hi := 21) F dX7_ofStore_10 (eqb hk_3) ha1 rfl (fun z_4 hz_4 => ?_)
  have mz_4 : z_4.toInt = 7 * a1.toInt := by rw [hz_4.1, hk_3]
  refine tAdd (lo := 260) (hi := 281) F dX7_ofStore_11 (eqb hk_2) hz_4.2 rfl (fun z_5 hz_5 => ?_)
  refine lv_iload_n F.1 F.2.1 dX7_ofStore_12 rfl (lv_at hl 2 rfl) ?_
  refine tAdd (lo := 264) (hi := 285) F dX7_ofStore_13 hz_5.2 ha2 rfl (fun z_6 hz_6 => ?_)
  refine tIaldX F hK hH (tyb hq_1 (all1 rfl)) (ixb (n := 660) hz_6.2 rfl rfl) dX7_ofStore_14 (fun z_7 ez_7 => ?_)
  have gz_7 : z_7.toInt = gI X0 ((260 + 7 * a1.toInt + 4).toNat) := by unfold gI; rw [ez_7, show (z_6).toNatClampNeg = ((260 + 7 * a1.toInt + 4).toNat) from by show (z_6).toInt.toNat = _; omega]
  exact txI F hS dX7_ofStore_15 rfl (⟨(i32b _), (by omega), hH⟩)
set_option maxHeartbeats 4000000 in
set_option maxRecDepth 100000 in
theorem c_X7_ofStore_any (E : Ev) (ws : TD) (kp : TD) (as : TD) (rd : TD) (sc : TD) (ty : TD) (ik : TD) (un : Int × Int) (tk : Int × Int) (xt : Int × Int) (tp : Int × Int) (sp : Int × Int) (wrb : Int × Int) (nu : Int × Int) (nab : Int × Int) (iwb : Int × Int) (X0 : Nat → Int32) (a0 : Nat) (a1 : Int32) (a2 : Int32) (ha0 : eT E a0 ∈ [24]) (ha1 : 0 ≤ a1.toInt ∧ a1.toInt ≤ 3) (ha2 : 0 ≤ a2.toInt ∧ a2.toInt ≤ 6) (hX0 : okA X0) : TcI E yX7_ofStore cX7_ofStore 3 .int ({ frames := 1, cells := 0, slots := 0, locals := 40 }) [.ref a0, .int a1, .int a2] (fun H => TH E (tbM (mD (.inl tp) (.inl sp) (.inl nu) (.inl un) (.inl tk) (.inl xt) (.inl wrb) (.inl nab) (.inl iwb)) (xD 660 X0) ws kp as rd sc ty ik) H) (fun v H => ((-2147483648) ≤ v.toInt ∧ v.toInt ≤ 2147483647) ∧ TH E (tbM (mD (.inl tp) (.inl sp) (.inl nu) (.inl un) (.inl tk) (.inl xt) (.inl wrb) (.inl nab) (.inl iwb)) (xD 660 X0) ws kp as rd sc ty ik) H) := by
  refine teI (by decide) (Nat.le_of_ble_eq_true rfl) ?_
  intro p_ ev_ s mi_ below_ meth cd_ ls F hK hN hO hH hS hl
  have hH : TH E (tbM (mD (.inl tp) (.inl sp) (.inl nu) (.inl un) (.inl tk) (.inl xt) (.inl wrb) (.inl nab) (.inl iwb)) (xD 660 X0) ws kp as rd sc ty ik) s.heap := hH
  have hl : lv_has ls 3 [(0, .ref a0), (1, .int a1), (2, .int a2)] := hl
  have hBX0 := okB hX0
  refine lv_aload_n F.1 F.2.1 dX7_ofStore_0 rfl (lv_at hl 0 rfl) ?_
  refine tGetR (j := 0) F hK hH (tyb ha0 (all1 rfl)) rfl (all1 rfl) clX7 (by decide) wd_6_5 dX7_ofStore_1 (fun q_1 hq_1 _ => ?_)
  refine lv_sipush (v := 260) F.1 F.2.1 dX7_ofStore_4 (by decide) ?_
  refine topK (a := 260) (by decide) (fun k_2 hk_2 => ?_)
  refine lv_bipush (v := 7) F.1 F.2.1 dX7_ofStore_7 (by decide) ?_
  refine topK (a := 7) (by decide) (fun k_3 hk_3 => ?_)
  refine lv_iload_n F.1 F.2.1 dX7_ofStore_9 rfl (lv_at hl 1 rfl) ?_
  refine tMul (lo := 0) (hi := 21) F dX7_ofStore_10 (eqb hk_3) ha1 rfl (fun z_4 hz_4 => ?_)
  have mz_4 : z_4.toInt = 7 * a1.toInt := by rw [hz_4.1, hk_3]
  refine tAdd (lo := 260) (hi := 281) F dX7_ofStore_11 (eqb hk_2) hz_4.2 rfl (fun z_5 hz_5 => ?_)
  refine lv_iload_n F.1 F.2.1 dX7_ofStore_12 rfl (lv_at hl 2 rfl) ?_
  refine tAdd (lo := 260) (hi := 287) F dX7_ofStore_13 hz_5.2 ha2 rfl (fun z_6 hz_6 => ?_)
  refine tIaldX F hK hH (tyb hq_1 (all1 rfl)) (ixb (n := 660) hz_6.2 rfl rfl) dX7_ofStore_14 (fun z_7 ez_7 => ?_)
  exact txI F hS dX7_ofStore_15 rfl (⟨(i32b _), hH⟩)
set_option maxHeartbeats 4000000 in
set_option maxRecDepth 100000 in
theorem c_X7_inflowOf (E : Ev) (ws : TD) (kp : TD) (as : TD) (rd : TD) (sc : TD) (ty : TD) (ik : TD) (un : Int × Int) (tk : Int × Int) (xt : Int × Int) (tp : Int × Int) (sp : Int × Int) (wrb : Int × Int) (nu : Int × Int) (nab : Int × Int) (iwb : Int × Int) (X0 : Nat → Int32) (a0 : Nat) (a1 : Int32) (ha0 : eT E a0 ∈ [24]) (ha1 : 0 ≤ a1.toInt ∧ a1.toInt ≤ 11) (hX0 : okA X0) : TcI E yX7_inflowOf cX7_inflowOf 2 .int ({ frames := 2, cells := 0, slots := 0, locals := 62 }) [.ref a0, .int a1] (fun H => TH E (tbM (mD (.inl tp) (.inl sp) (.inl nu) (.inl un) (.inl tk) (.inl xt) (.inl wrb) (.inl nab) (.inl iwb)) (xD 660 X0) ws kp as rd sc ty ik) H) (fun v H => ((-2147483648) ≤ v.toInt ∧ v.toInt ≤ 2147483647) ∧ TH E (tbM (mD (.inl tp) (.inl sp) (.inl nu) (.inl un) (.inl tk) (.inl xt) (.inl wrb) (.inl nab) (.inl iwb)) (xD 660 X0) ws kp as rd sc ty ik) H) := by
  refine teI (by decide) (Nat.le_of_ble_eq_true rfl) ?_
  intro p_ ev_ s mi_ below_ meth cd_ ls F hK hN hO hH hS hl
  have hH : TH E (tbM (mD (.inl tp) (.inl sp) (.inl nu) (.inl un) (.inl tk) (.inl xt) (.inl wrb) (.inl nab) (.inl iwb)) (xD 660 X0) ws kp as rd sc ty ik) s.heap := hH
  have hl : lv_has ls 2 [(0, .ref a0), (1, .int a1)] := hl
  have hBX0 := okB hX0
  refine lv_aload_n F.1 F.2.1 dX7_inflowOf_0 rfl (lv_at hl 0 rfl) ?_
  refine lv_iload_n F.1 F.2.1 dX7_inflowOf_1 rfl (lv_at hl 1 rfl) ?_
  refine lv_iconst (v := 2) F.1 F.2.1 dX7_inflowOf_2 (by decide) ?_
  refine topK (a := 2) (by decide) (fun k_1 hk_1 => ?_)
  refine lv_aload_n F.1 F.2.1 dX7_inflowOf_3 rfl (lv_at hl 0 rfl) ?_
  refine tGetR (j := 0) F hK hH (tyb ha0 (all1 rfl)) rfl (all1 rfl) clX7 (by decide) wd_6_5 dX7_inflowOf_4 (fun q_2 hq_2 _ => ?_)
  refine lv_iconst (v := 3) F.1 F.2.1 dX7_inflowOf_7 (by decide) ?_
  refine topK (a := 3) (by decide) (fun k_3 hk_3 => ?_)
  refine tIaldX F hK hH (tyb hq_2 (all1 rfl)) (ixb (n := 660) (eqb hk_3) rfl rfl) dX7_inflowOf_8 (fun z_4 ez_4 => ?_)
  have gz_4 : z_4.toInt = gI X0 (3) := by unfold gI; rw [ez_4, show (k_3).toNatClampNeg = (3) from by show (k_3).toInt.toNat = _; omega]
  have hz_4 : 0 ≤ z_4.toInt ∧ z_4.toInt ≤ 359 := (by have h9_ := okA.at (i := k_3) hX0 (by omega); rw [show gI X0 (k_3).toNatClampNeg = z_4.toInt from by unfold gI; rw [ez_4]] at h9_; have h8_ := phi_3 h9_ (by omega); omega)
  refine lv_bipush (v := 90) F.1 F.2.1 dX7_inflowOf_9 (by decide) ?_
  refine topK (a := 90) (by decide) (fun k_5 hk_5 => ?_)
  refine tDiv (k := 90) (lo := 0) (hi := 3) F dX7_inflowOf_11 hz_4 hk_5 rfl (fun z_6 hz_6 => ?_)
  refine tAdd (lo := 2) (hi := 5) F dX7_inflowOf_12 (eqb hk_1) hz_6.2 rfl (fun z_7 hz_7 => ?_)
  refine tVi (b := a0) (As := [.int a1, .int z_7]) (rest := []) F hK hN hO (c_X7_ofReach_any E ws kp as rd sc ty ik un tk xt tp sp wrb nu nab iwb X0 a0 a1 z_7 ha0 ha1 (wkb hz_7.2 rfl rfl) hX0) mv_X7_ofReach wd_28_15 ⟨Nat.le_of_ble_eq_true rfl, Nat.le_of_ble_eq_true rfl⟩ ⟨Nat.le_of_ble_eq_true rfl, Nat.le_of_ble_eq_true rfl⟩ hH hS (tRecv hK hH (tyb ha0 (all1 rfl)) clX7) rfl hl.1 (Nat.le_of_ble_eq_true rfl) dX7_inflowOf_13 (fun z_8 H locs hq hS => ?_)
  obtain ⟨f_9, hH⟩ := hq
  have hH : TH E (tbM (mD (.inl tp) (.inl sp) (.inl nu) (.inl un) (.inl tk) (.inl xt) (.inl wrb) (.inl nab) (.inl iwb)) (xD 660 X0) ws kp as rd sc ty ik) H := hH
  refine lv_aload_n F.1 F.2.1 dX7_inflowOf_16 rfl (lv_at hl 0 rfl) ?_
  refine tGetR (j := 0) F hK hH (tyb ha0 (all1 rfl)) rfl (all1 rfl) clX7 (by decide) wd_6_5 dX7_inflowOf_17 (fun q_10 hq_10 _ => ?_)
  refine lv_iconst (v := 4) F.1 F.2.1 dX7_inflowOf_20 (by decide) ?_
  refine topK (a := 4) (by decide) (fun k_11 hk_11 => ?_)
  refine tIaldX F hK hH (tyb hq_10 (all1 rfl)) (ixb (n := 660) (eqb hk_11) rfl rfl) dX7_inflowOf_21 (fun z_12 ez_12 => ?_)
  refine lv_imul F.1 F.2.1 dX7_inflowOf_22 ?_
  refine topF (fun z_13 => ?_)
  refine lv_bipush (v := 100) F.1 F.2.1 dX7_inflowOf_23 (by decide) ?_
  refine topK (a := 100) (by decide) (fun k_14 hk_14 => ?_)
  refine tSi (As := [.int z_13, .int k_14]) (rest := []) F hK hN hO (c_X7_whole E (mD (.inl tp) (.inl sp) (.inl nu) (.inl un) (.inl tk) (.inl xt) (.inl wrb) (.inl nab) (.inl iwb)) (xD 660 X0) ws kp as rd sc ty ik z_13 k_14 (wkb (eqb hk_14) rfl rfl)) ms_X7_whole wd_28_19 ⟨Nat.le_of_ble_eq_true rfl, Nat.le_of_ble_eq_true rfl⟩ ⟨Nat.le_of_ble_eq_true rfl, Nat.le_of_ble_eq_true rfl⟩ hH hS rfl hl.1 (Nat.le_of_ble_eq_true rfl) dX7_inflowOf_25 (fun z_15 H locs hq hS => ?_)
  obtain ⟨f_16, hH⟩ := hq
  have hH : TH E (tbM (mD (.inl tp) (.inl sp) (.inl nu) (.inl un) (.inl tk) (.inl xt) (.inl wrb) (.inl nab) (.inl iwb)) (xD 660 X0) ws kp as rd sc ty ik) H := hH
  exact txI F hS dX7_inflowOf_28 rfl (⟨f_16, hH⟩)
set_option maxHeartbeats 4000000 in
set_option maxRecDepth 100000 in
theorem c_X7_backIn (E : Ev) (ws : TD) (kp : TD) (as : TD) (rd : TD) (sc : TD) (ty : TD) (ik : TD) (un : Int × Int) (tk : Int × Int) (xt : Int × Int) (tp : Int × Int) (sp : Int × Int) (wrb : Int × Int) (nu : Int × Int) (nab : Int × Int) (iwb : Int × Int) (X0 : Nat → Int32) (a0 : Nat) (a1 : Int32) (a2 : Int32) (ha0 : eT E a0 ∈ [24]) (ha1 : 0 ≤ a1.toInt ∧ a1.toInt ≤ 11) (ha2 : 0 ≤ a2.toInt ∧ a2.toInt ≤ 30) (hX0 : okA X0) : TcI E yX7_backIn cX7_backIn 3 .int ({ frames := 1, cells := 0, slots := 0, locals := 40 }) [.ref a0, .int a1, .int a2] (fun H => TH E (tbM (mD (.inl tp) (.inl sp) (.inl nu) (.inl un) (.inl tk) (.inl xt) (.inl wrb) (.inl nab) (.inl iwb)) (xD 660 X0) ws kp as rd sc ty ik) H) (fun v H => ((-2147483648) ≤ v.toInt ∧ v.toInt ≤ 2147483647) ∧ TH E (tbM (mD (.inl tp) (.inl sp) (.inl nu) (.inl un) (.inl tk) (.inl xt) (.inl wrb) (.inl nab) (.inl iwb)) (xD 660 X0) ws kp as rd sc ty ik) H) := by
  refine teI (by decide) (Nat.le_of_ble_eq_true rfl) ?_
  intro p_ ev_ s mi_ below_ meth cd_ ls F hK hN hO hH hS hl
  have hH : TH E (tbM (mD (.inl tp) (.inl sp) (.inl nu) (.inl un) (.inl tk) (.inl xt) (.inl wrb) (.inl nab) (.inl iwb)) (xD 660 X0) ws kp as rd sc ty ik) s.heap := hH
  have hl : lv_has ls 3 [(0, .ref a0), (1, .int a1), (2, .int a2)] := hl
  have hBX0 := okB hX0
  refine lv_aload_n F.1 F.2.1 dX7_backIn_0 rfl (lv_at hl 0 rfl) ?_
  refine tGetR (j := 0) F hK hH (tyb ha0 (all1 rfl)) rfl (all1 rfl) clX7 (by decide) wd_6_5 dX7_backIn_1 (fun q_1 hq_1 _ => ?_)
  refine lv_sipush (v := 288) F.1 F.2.1 dX7_backIn_4 (by decide) ?_
  refine topK (a := 288) (by decide) (fun k_2 hk_2 => ?_)
  refine lv_bipush (v := 12) F.1 F.2.1 dX7_backIn_7 (by decide) ?_
  refine topK (a := 12) (by decide) (fun k_3 hk_3 => ?_)
  refine lv_aload_n F.1 F.2.1 dX7_backIn_9 rfl (lv_at hl 0 rfl) ?_
  refine tGetR (j := 0) F hK hH (tyb ha0 (all1 rfl)) rfl (all1 rfl) clX7 (by decide) wd_6_5 dX7_backIn_10 (fun q_4 hq_4 _ => ?_)
  refine lv_iconst (v := 5) F.1 F.2.1 dX7_backIn_13 (by decide) ?_
  refine topK (a := 5) (by decide) (fun k_5 hk_5 => ?_)
  refine tIaldX F hK hH (tyb hq_4 (all1 rfl)) (ixb (n := 660) (eqb hk_5) rfl rfl) dX7_backIn_14 (fun z_6 ez_6 => ?_)
  have gz_6 : z_6.toInt = gI X0 (5) := by unfold gI; rw [ez_6, show (k_5).toNatClampNeg = (5) from by show (k_5).toInt.toNat = _; omega]
  have hz_6 : 0 ≤ z_6.toInt ∧ z_6.toInt ≤ 30 := (by have h9_ := okA.at (i := k_5) hX0 (by omega); rw [show gI X0 (k_5).toNatClampNeg = z_6.toInt from by unfold gI; rw [ez_6]] at h9_; have h8_ := phi_5 h9_ (by omega); omega)
  refine lv_iload_n F.1 F.2.1 dX7_backIn_15 rfl (lv_at hl 2 rfl) ?_
  refine tAdd (lo := 0) (hi := 60) F dX7_backIn_16 hz_6 ha2 rfl (fun z_7 hz_7 => ?_)
  refine lv_bipush (v := 31) F.1 F.2.1 dX7_backIn_17 (by decide) ?_
  refine topK (a := 31) (by decide) (fun k_8 hk_8 => ?_)
  refine tRem (k := 31) (hi := 30) F dX7_backIn_19 hz_7.2 hk_8 rfl (fun z_9 hz_9 => ?_)
  refine tMul (lo := 0) (hi := 360) F dX7_backIn_20 (eqb hk_3) hz_9.2 rfl (fun z_10 hz_10 => ?_)
  have mz_10 : z_10.toInt = 12 * z_9.toInt := by rw [hz_10.1, hk_3]
  refine tAdd (lo := 288) (hi := 648) F dX7_backIn_21 (eqb hk_2) hz_10.2 rfl (fun z_11 hz_11 => ?_)
  refine lv_iload_n F.1 F.2.1 dX7_backIn_22 rfl (lv_at hl 1 rfl) ?_
  refine tAdd (lo := 288) (hi := 659) F dX7_backIn_23 hz_11.2 ha1 rfl (fun z_12 hz_12 => ?_)
  refine tIaldX F hK hH (tyb hq_1 (all1 rfl)) (ixb (n := 660) hz_12.2 rfl rfl) dX7_backIn_24 (fun z_13 ez_13 => ?_)
  exact txI F hS dX7_backIn_25 rfl (⟨(i32b _), hH⟩)
set_option maxHeartbeats 4000000 in
set_option maxRecDepth 100000 in
theorem c_X7_runsTo (E : Ev) (ws : TD) (kp : TD) (as : TD) (rd : TD) (sc : TD) (ty : TD) (ik : TD) (un : Int × Int) (tk : Int × Int) (xt : Int × Int) (tp : Int × Int) (sp : Int × Int) (wrb : Int × Int) (nu : Int × Int) (nab : Int × Int) (iwb : Int × Int) (X0 : Nat → Int32) (a0 : Nat) (a1 : Int32) (a2 : Int32) (ha0 : eT E a0 ∈ [24]) (ha1 : 0 ≤ a1.toInt ∧ a1.toInt ≤ 11) (hX0 : okR X0) (h6 : gI X0 6 = -1) : TcI E yX7_runsTo cX7_runsTo 4 .boolean ({ frames := 2, cells := 0, slots := 0, locals := 62 }) [.ref a0, .int a1, .int a2] (fun H => TH E (tbM (mD (.inl tp) (.inl sp) (.inl nu) (.inl un) (.inl tk) (.inl xt) (.inl wrb) (.inl nab) (.inl iwb)) (xD 660 X0) ws kp as rd sc ty ik) H) (fun v H => (0 ≤ v.toInt ∧ v.toInt ≤ 1) ∧ TH E (tbM (mD (.inl tp) (.inl sp) (.inl nu) (.inl un) (.inl tk) (.inl xt) (.inl wrb) (.inl nab) (.inl iwb)) (xD 660 X0) ws kp as rd sc ty ik) H) := by
  refine teI (by decide) (Nat.le_of_ble_eq_true rfl) ?_
  intro p_ ev_ s mi_ below_ meth cd_ ls F hK hN hO hH hS hl
  have hH : TH E (tbM (mD (.inl tp) (.inl sp) (.inl nu) (.inl un) (.inl tk) (.inl xt) (.inl wrb) (.inl nab) (.inl iwb)) (xD 660 X0) ws kp as rd sc ty ik) s.heap := hH
  have hl : lv_has ls 4 [(0, .ref a0), (1, .int a1), (2, .int a2)] := hl
  have hBX0 := okB hX0.1
  have hLX0 := hX0.2
  refine lv_iload_n F.1 F.2.1 dX7_runsTo_0 rfl (lv_at hl 1 rfl) ?_
  refine lv_istore_n (lv' := [(3, .int a1), (0, .ref a0), (1, .int a1), (2, .int a2)]) F.1 F.2.1 dX7_runsTo_1 rfl hl (by decide) rfl (fun ls hl => ?_)
  refine wloop (σ := Int32) (fun n9 x9 H locs ls => (x9.toInt + 2).toNat < n9 ∧ ((-1) ≤ x9.toInt ∧ x9.toInt ≤ 11) ∧ TH E (tbM (mD (.inl tp) (.inl sp) (.inl nu) (.inl un) (.inl tk) (.inl xt) (.inl wrb) (.inl nab) (.inl iwb)) (xD 660 X0) ws kp as rd sc ty ik) H ∧ va_S (eA E s.heap.size) s.heap H locs ∧ lv_has ls 4 [(0, .ref a0), (2, .int a2), (3, .int x9)]) ?_ (fun x9 H locs ls h => absurd h.1 (Nat.not_lt_zero _)) _ (a1) ⟨Nat.lt_succ_self _, (wkb ha1 rfl rfl), hH, hS, lv_sub hl [1, 3, 0] rfl⟩
  intro n_2 ih_2 u_1 H locs ls ⟨hm_2, hu_1, hH, hS, hl⟩
  have hm_2 : (u_1.toInt + 2).toNat < n_2 + 1 := hm_2
  have hu_1 : ((-1) ≤ u_1.toInt ∧ u_1.toInt ≤ 11) := hu_1
  have hH : TH E (tbM (mD (.inl tp) (.inl sp) (.inl nu) (.inl un) (.inl tk) (.inl xt) (.inl wrb) (.inl nab) (.inl iwb)) (xD 660 X0) ws kp as rd sc ty ik) H := hH
  have hl : lv_has ls 4 [(0, .ref a0), (2, .int a2), (3, .int u_1)] := hl
  refine lv_iload_n F.1 F.2.1 dX7_runsTo_2 rfl (lv_at hl 2 rfl) ?_
  refine lv_iload_n F.1 F.2.1 dX7_runsTo_3 rfl (lv_at hl 1 rfl) ?_
  refine wjoin (σ := Unit) (pcj := 22) (stj := fun x9 => []) (fun x9 H locs ls => TH E (tbM (mD (.inl tp) (.inl sp) (.inl nu) (.inl un) (.inl tk) (.inl xt) (.inl wrb) (.inl nab) (.inl iwb)) (xD 660 X0) ws kp as rd sc ty ik) H ∧ va_S (eA E s.heap.size) s.heap H locs ∧ lv_has ls 4 [(2, .int a2), (3, .int u_1)]) (fun x9 H locs ls h_ => ?_) (fun J_22 => ?_)
  · skip
    obtain ⟨hH, hS, hl⟩ := h_
    have hH : TH E (tbM (mD (.inl tp) (.inl sp) (.inl nu) (.inl un) (.inl tk) (.inl xt) (.inl wrb) (.inl nab) (.inl iwb)) (xD 660 X0) ws kp as rd sc ty ik) H := hH
    have hl : lv_has ls 4 [(2, .int a2), (3, .int u_1)] := hl
    show W _ _ _ _ _ _ _ _ _ _ _ _ _ _ _ (F0 _ _ _ [])
    refine lv_iload_n F.1 F.2.1 dX7_runsTo_22 rfl (lv_at hl 1 rfl) ?_
    refine lv_iload_n F.1 F.2.1 dX7_runsTo_23 rfl (lv_at hl 0 rfl) ?_
    refine b_ne (tgt := 31) F dX7_runsTo_24 (by decide) (fun c_2 => ?_) (fun c_2 => ?_)
    · skip
      refine lv_iconst (v := 0) F.1 F.2.1 dX7_runsTo_31 (by decide) ?_
      refine topK (a := 0) (by decide) (fun k_4 hk_4 => ?_)
      exact txI F hS dX7_runsTo_32 (nar01 (wkb (eqb hk_4) rfl rfl)) (⟨(wkb (eqb hk_4) rfl rfl), hH⟩)
    · skip
      have r_3 : (-1) ≤ a2.toInt ∧ a2.toInt ≤ 11 := by have h9_ := (i32b a2); omega
      refine lv_iconst (v := 1) F.1 F.2.1 dX7_runsTo_27 (by decide) ?_
      refine topK (a := 1) (by decide) (fun k_5 hk_5 => ?_)
      refine lv_goto (tgt := 32) F.1 F.2.1 dX7_runsTo_28 (by decide) ?_
      exact txI F hS dX7_runsTo_32 (nar01 (wkb (eqb hk_5) rfl rfl)) (⟨(wkb (eqb hk_5) rfl rfl), hH⟩)
  refine b_eq (tgt := 22) F dX7_runsTo_4 (by decide) (fun c_6 => ?_) (fun c_6 => ?_)
  · skip
    have r_7 : (-1) ≤ a2.toInt ∧ a2.toInt ≤ 11 := by have h9_ := (i32b a2); omega
    exact J_22 () _ _ _ ⟨hH, hS, lv_sub hl [1, 2] rfl⟩
  · skip
    refine lv_iload_n F.1 F.2.1 dX7_runsTo_7 rfl (lv_at hl 2 rfl) ?_
    refine lv_iconst (v := (-1)) F.1 F.2.1 dX7_runsTo_8 (by decide) ?_
    refine topK (a := (-1)) (by decide) (fun k_8 hk_8 => ?_)
    refine b_eq (tgt := 22) F dX7_runsTo_9 (by decide) (fun c_9 => ?_) (fun c_9 => ?_)
    · skip
      have r_10 : (-1) ≤ u_1.toInt ∧ u_1.toInt ≤ (-1) := by have h9_ := hu_1; omega
      exact J_22 () _ _ _ ⟨hH, hS, lv_sub hl [1, 2] rfl⟩
    · skip
      have r_11 : 0 ≤ u_1.toInt ∧ u_1.toInt ≤ 11 := by have h9_ := hu_1; omega
      refine lv_aload_n F.1 F.2.1 dX7_runsTo_12 rfl (lv_at hl 0 rfl) ?_
      refine lv_iload_n F.1 F.2.1 dX7_runsTo_13 rfl (lv_at hl 2 rfl) ?_
      refine lv_iconst (v := 0) F.1 F.2.1 dX7_runsTo_14 (by decide) ?_
      refine topK (a := 0) (by decide) (fun k_12 hk_12 => ?_)
      refine tVi (b := a0) (As := [.int u_1, .int k_12]) (rest := []) F hK hN hO (c_X7_ofReach_0 E ws kp as rd sc ty ik un tk xt tp sp wrb nu nab iwb X0 a0 u_1 k_12 ha0 r_11 (eqb hk_12) ((hX0).1)) mv_X7_ofReach wd_28_15 ⟨Nat.le_of_ble_eq_true rfl, Nat.le_of_ble_eq_true rfl⟩ ⟨Nat.le_of_ble_eq_true rfl, Nat.le_of_ble_eq_true rfl⟩ hH hS (tRecv hK hH (tyb ha0 (all1 rfl)) clX7) rfl hl.1 (Nat.le_of_ble_eq_true rfl) dX7_runsTo_15 (fun z_13 H locs hq hS => ?_)
      obtain ⟨f_14, f_15, f_16, hH⟩ := hq
      have hH : TH E (tbM (mD (.inl tp) (.inl sp) (.inl nu) (.inl un) (.inl tk) (.inl xt) (.inl wrb) (.inl nab) (.inl iwb)) (xD 660 X0) ws kp as rd sc ty ik) H := hH
      refine lv_istore_n (lv' := [(3, .int z_13), (0, .ref a0), (2, .int a2)]) F.1 F.2.1 dX7_runsTo_18 rfl hl (by decide) rfl (fun ls hl => ?_)
      refine lv_goto (tgt := 2) F.1 F.2.1 dX7_runsTo_19 (by decide) ?_
      exact ih_2 (z_13) _ _ _ ⟨(show (z_13.toInt + 2).toNat < n_2 from by omega), (wkb f_14 rfl rfl), hH, hS, lv_sub hl [1, 2, 0] rfl⟩
set_option maxHeartbeats 4000000 in
set_option maxRecDepth 100000 in
theorem c_X7_farOf (E : Ev) (ws : TD) (kp : TD) (as : TD) (rd : TD) (sc : TD) (ty : TD) (ik : TD) (un : Int × Int) (tk : Int × Int) (xt : Int × Int) (tp : Int × Int) (sp : Int × Int) (wrb : Int × Int) (nu : Int × Int) (nab : Int × Int) (iwb : Int × Int) (X0 : Nat → Int32) (a0 : Nat) (a1 : Int32) (ha0 : eT E a0 ∈ [24]) (ha1 : 0 ≤ a1.toInt ∧ a1.toInt ≤ 11) (hX0 : okR X0) (h6 : gI X0 6 = -1) : TcI E yX7_farOf cX7_farOf 4 .int ({ frames := 2, cells := 0, slots := 0, locals := 62 }) [.ref a0, .int a1] (fun H => TH E (tbM (mD (.inl tp) (.inl sp) (.inl nu) (.inl un) (.inl tk) (.inl xt) (.inl wrb) (.inl nab) (.inl iwb)) (xD 660 X0) ws kp as rd sc ty ik) H) (fun v H => ((-2147483648) ≤ v.toInt ∧ v.toInt ≤ 2147483647) ∧ TH E (tbM (mD (.inl tp) (.inl sp) (.inl nu) (.inl un) (.inl tk) (.inl xt) (.inl wrb) (.inl nab) (.inl iwb)) (xD 660 X0) ws kp as rd sc ty ik) H) := by
  refine teI (by decide) (Nat.le_of_ble_eq_true rfl) ?_
  intro p_ ev_ s mi_ below_ meth cd_ ls F hK hN hO hH hS hl
  have hH : TH E (tbM (mD (.inl tp) (.inl sp) (.inl nu) (.inl un) (.inl tk) (.inl xt) (.inl wrb) (.inl nab) (.inl iwb)) (xD 660 X0) ws kp as rd sc ty ik) s.heap := hH
  have hl : lv_has ls 4 [(0, .ref a0), (1, .int a1)] := hl
  have hBX0 := okB hX0.1
  have hLX0 := hX0.2
  refine lv_iconst (v := 0) F.1 F.2.1 dX7_farOf_0 (by decide) ?_
  refine topK (a := 0) (by decide) (fun k_1 hk_1 => ?_)
  refine lv_istore_n (lv' := [(2, .int k_1), (0, .ref a0), (1, .int a1)]) F.1 F.2.1 dX7_farOf_1 rfl hl (by decide) rfl (fun ls hl => ?_)
  refine lv_iload_n F.1 F.2.1 dX7_farOf_2 rfl (lv_at hl 2 rfl) ?_
  refine lv_istore_n (lv' := [(3, .int a1), (2, .int k_1), (0, .ref a0), (1, .int a1)]) F.1 F.2.1 dX7_farOf_3 rfl hl (by decide) rfl (fun ls hl => ?_)
  refine wloop (σ := Int32 × Int32) (fun n9 x9 H locs ls => (x9.2.toInt + 2).toNat < n9 ∧ ((-1) ≤ x9.2.toInt ∧ x9.2.toInt ≤ 11) ∧ TH E (tbM (mD (.inl tp) (.inl sp) (.inl nu) (.inl un) (.inl tk) (.inl xt) (.inl wrb) (.inl nab) (.inl iwb)) (xD 660 X0) ws kp as rd sc ty ik) H ∧ va_S (eA E s.heap.size) s.heap H locs ∧ lv_has ls 4 [(0, .ref a0), (2, .int x9.1), (3, .int x9.2)]) ?_ (fun x9 H locs ls h => absurd h.1 (Nat.not_lt_zero _)) _ (k_1, a1) ⟨Nat.lt_succ_self _, (wkb ha1 rfl rfl), hH, hS, lv_sub hl [2, 1, 0] rfl⟩
  intro n_4 ih_4 ⟨u_2, u_3⟩ H locs ls ⟨hm_4, hu_3, hH, hS, hl⟩
  have hm_4 : (u_3.toInt + 2).toNat < n_4 + 1 := hm_4
  have hu_3 : ((-1) ≤ u_3.toInt ∧ u_3.toInt ≤ 11) := hu_3
  have hH : TH E (tbM (mD (.inl tp) (.inl sp) (.inl nu) (.inl un) (.inl tk) (.inl xt) (.inl wrb) (.inl nab) (.inl iwb)) (xD 660 X0) ws kp as rd sc ty ik) H := hH
  have hl : lv_has ls 4 [(0, .ref a0), (2, .int u_2), (3, .int u_3)] := hl
  refine lv_iload_n F.1 F.2.1 dX7_farOf_4 rfl (lv_at hl 2 rfl) ?_
  refine lv_iconst (v := (-1)) F.1 F.2.1 dX7_farOf_5 (by decide) ?_
  refine topK (a := (-1)) (by decide) (fun k_4 hk_4 => ?_)
  refine b_eq (tgt := 22) F dX7_farOf_6 (by decide) (fun c_5 => ?_) (fun c_5 => ?_)
  · skip
    have r_6 : (-1) ≤ u_3.toInt ∧ u_3.toInt ≤ (-1) := by have h9_ := hu_3; omega
    refine lv_iload_n F.1 F.2.1 dX7_farOf_22 rfl (lv_at hl 1 rfl) ?_
    exact txI F hS dX7_farOf_23 rfl (⟨(i32b _), hH⟩)
  · skip
    have r_7 : 0 ≤ u_3.toInt ∧ u_3.toInt ≤ 11 := by have h9_ := hu_3; omega
    obtain ⟨x_8, ex_8⟩ := iincF u_2 1
    refine lv_iinc (v := x_8) (lv' := [(2, .int x_8), (0, .ref a0), (3, .int u_3)]) F.1 F.2.1 dX7_farOf_9 hl (k := 1) rfl ex_8 (by decide) rfl (fun ls hl => ?_)
    refine lv_aload_n F.1 F.2.1 dX7_farOf_12 rfl (lv_at hl 1 rfl) ?_
    refine lv_iload_n F.1 F.2.1 dX7_farOf_13 rfl (lv_at hl 2 rfl) ?_
    refine lv_iconst (v := 0) F.1 F.2.1 dX7_farOf_14 (by decide) ?_
    refine topK (a := 0) (by decide) (fun k_9 hk_9 => ?_)
    refine tVi (b := a0) (As := [.int u_3, .int k_9]) (rest := []) F hK hN hO (c_X7_ofReach_0 E ws kp as rd sc ty ik un tk xt tp sp wrb nu nab iwb X0 a0 u_3 k_9 ha0 r_7 (eqb hk_9) ((hX0).1)) mv_X7_ofReach wd_28_15 ⟨Nat.le_of_ble_eq_true rfl, Nat.le_of_ble_eq_true rfl⟩ ⟨Nat.le_of_ble_eq_true rfl, Nat.le_of_ble_eq_true rfl⟩ hH hS (tRecv hK hH (tyb ha0 (all1 rfl)) clX7) rfl hl.1 (Nat.le_of_ble_eq_true rfl) dX7_farOf_15 (fun z_10 H locs hq hS => ?_)
    obtain ⟨f_11, f_12, f_13, hH⟩ := hq
    have hH : TH E (tbM (mD (.inl tp) (.inl sp) (.inl nu) (.inl un) (.inl tk) (.inl xt) (.inl wrb) (.inl nab) (.inl iwb)) (xD 660 X0) ws kp as rd sc ty ik) H := hH
    refine lv_istore_n (lv' := [(3, .int z_10), (2, .int x_8), (0, .ref a0)]) F.1 F.2.1 dX7_farOf_18 rfl hl (by decide) rfl (fun ls hl => ?_)
    refine lv_goto (tgt := 4) F.1 F.2.1 dX7_farOf_19 (by decide) ?_
    exact ih_4 (x_8, z_10) _ _ _ ⟨(show (z_10.toInt + 2).toNat < n_4 from by omega), (wkb f_11 rfl rfl), hH, hS, lv_sub hl [2, 1, 0] rfl⟩
set_option maxHeartbeats 4000000 in
set_option maxRecDepth 100000 in
theorem c_X7_atOf (E : Ev) (ws : TD) (kp : TD) (as : TD) (rd : TD) (sc : TD) (ty : TD) (ik : TD) (un : Int × Int) (tk : Int × Int) (xt : Int × Int) (tp : Int × Int) (sp : Int × Int) (wrb : Int × Int) (nu : Int × Int) (nab : Int × Int) (iwb : Int × Int) (X0 : Nat → Int32) (a0 : Nat) (a1 : Int32) (ha0 : eT E a0 ∈ [24]) (ha1 : 0 ≤ a1.toInt ∧ a1.toInt ≤ 17) (hX0 : okR X0) : TcI E yX7_atOf cX7_atOf 2 .int ({ frames := 2, cells := 0, slots := 0, locals := 62 }) [.ref a0, .int a1] (fun H => TH E (tbM (mD (.inl tp) (.inl sp) (.inl nu) (.inl un) (.inl tk) (.inl xt) (.inl wrb) (.inl nab) (.inl iwb)) (xD 660 X0) ws kp as rd sc ty ik) H) (fun v H => (0 ≤ v.toInt ∧ v.toInt ≤ 11) ∧ TH E (tbM (mD (.inl tp) (.inl sp) (.inl nu) (.inl un) (.inl tk) (.inl xt) (.inl wrb) (.inl nab) (.inl iwb)) (xD 660 X0) ws kp as rd sc ty ik) H) := by
  refine teI (by decide) (Nat.le_of_ble_eq_true rfl) ?_
  intro p_ ev_ s mi_ below_ meth cd_ ls F hK hN hO hH hS hl
  have hH : TH E (tbM (mD (.inl tp) (.inl sp) (.inl nu) (.inl un) (.inl tk) (.inl xt) (.inl wrb) (.inl nab) (.inl iwb)) (xD 660 X0) ws kp as rd sc ty ik) s.heap := hH
  have hl : lv_has ls 2 [(0, .ref a0), (1, .int a1)] := hl
  have hBX0 := okB hX0.1
  have hLX0 := hX0.2
  refine lv_iload_n F.1 F.2.1 dX7_atOf_0 rfl (lv_at hl 1 rfl) ?_
  refine lv_bipush (v := 14) F.1 F.2.1 dX7_atOf_1 (by decide) ?_
  refine topK (a := 14) (by decide) (fun k_1 hk_1 => ?_)
  refine b_ge (tgt := 15) F dX7_atOf_3 (by decide) (fun c_2 => ?_) (fun c_2 => ?_)
  · skip
    have r_3 : 14 ≤ a1.toInt ∧ a1.toInt ≤ 17 := by have h9_ := ha1; omega
    refine lv_aload_n F.1 F.2.1 dX7_atOf_15 rfl (lv_at hl 0 rfl) ?_
    refine lv_iload_n F.1 F.2.1 dX7_atOf_16 rfl (lv_at hl 1 rfl) ?_
    refine lv_bipush (v := 14) F.1 F.2.1 dX7_atOf_17 (by decide) ?_
    refine topK (a := 14) (by decide) (fun k_5 hk_5 => ?_)
    refine tSub (lo := 0) (hi := 3) F dX7_atOf_19 r_3 (eqb hk_5) rfl (fun z_6 hz_6 => ?_)
    refine lv_iconst (v := 0) F.1 F.2.1 dX7_atOf_20 (by decide) ?_
    refine topK (a := 0) (by decide) (fun k_7 hk_7 => ?_)
    refine tVi (b := a0) (As := [.int z_6, .int k_7]) (rest := []) F hK hN hO (c_X7_ofStore_0 E ws kp as rd sc ty ik un tk xt tp sp wrb nu nab iwb X0 a0 z_6 k_7 ha0 hz_6.2 (eqb hk_7) ((hX0).1)) mv_X7_ofStore wd_27_0 ⟨Nat.le_of_ble_eq_true rfl, Nat.le_of_ble_eq_true rfl⟩ ⟨Nat.le_of_ble_eq_true rfl, Nat.le_of_ble_eq_true rfl⟩ hH hS (tRecv hK hH (tyb ha0 (all1 rfl)) clX7) rfl hl.1 (Nat.le_of_ble_eq_true rfl) dX7_atOf_21 (fun z_8 H locs hq hS => ?_)
    obtain ⟨f_9, f_10, hH⟩ := hq
    have hH : TH E (tbM (mD (.inl tp) (.inl sp) (.inl nu) (.inl un) (.inl tk) (.inl xt) (.inl wrb) (.inl nab) (.inl iwb)) (xD 660 X0) ws kp as rd sc ty ik) H := hH
    exact txI F hS dX7_atOf_24 rfl (⟨f_9, hH⟩)
  · skip
    have r_4 : 0 ≤ a1.toInt ∧ a1.toInt ≤ 13 := by have h9_ := ha1; omega
    refine lv_aload_n F.1 F.2.1 dX7_atOf_6 rfl (lv_at hl 0 rfl) ?_
    refine lv_iload_n F.1 F.2.1 dX7_atOf_7 rfl (lv_at hl 1 rfl) ?_
    refine lv_iconst (v := 0) F.1 F.2.1 dX7_atOf_8 (by decide) ?_
    refine topK (a := 0) (by decide) (fun k_11 hk_11 => ?_)
    refine tVi (b := a0) (As := [.int a1, .int k_11]) (rest := []) F hK hN hO (c_X7_of_0 E ws kp as rd sc ty ik un tk xt tp sp wrb nu nab iwb X0 a0 a1 k_11 ha0 r_4 (eqb hk_11) ((hX0).1)) mv_X7_of wd_26_20 ⟨Nat.le_of_ble_eq_true rfl, Nat.le_of_ble_eq_true rfl⟩ ⟨Nat.le_of_ble_eq_true rfl, Nat.le_of_ble_eq_true rfl⟩ hH hS (tRecv hK hH (tyb ha0 (all1 rfl)) clX7) rfl hl.1 (Nat.le_of_ble_eq_true rfl) dX7_atOf_9 (fun z_12 H locs hq hS => ?_)
    obtain ⟨f_13, f_14, hH⟩ := hq
    have hH : TH E (tbM (mD (.inl tp) (.inl sp) (.inl nu) (.inl un) (.inl tk) (.inl xt) (.inl wrb) (.inl nab) (.inl iwb)) (xD 660 X0) ws kp as rd sc ty ik) H := hH
    refine lv_goto (tgt := 24) F.1 F.2.1 dX7_atOf_12 (by decide) ?_
    exact txI F hS dX7_atOf_24 rfl (⟨f_13, hH⟩)
set_option maxHeartbeats 4000000 in
set_option maxRecDepth 100000 in
theorem c_X7_ageOf (E : Ev) (ws : TD) (kp : TD) (as : TD) (rd : TD) (sc : TD) (ty : TD) (ik : TD) (un : Int × Int) (tk : Int × Int) (xt : Int × Int) (tp : Int × Int) (sp : Int × Int) (wrb : Int × Int) (nu : Int × Int) (nab : Int × Int) (iwb : Int × Int) (X0 : Nat → Int32) (a0 : Nat) (a1 : Int32) (ha0 : eT E a0 ∈ [24]) (ha1 : 0 ≤ a1.toInt ∧ a1.toInt ≤ 17) (hX0 : okR X0) : TcI E yX7_ageOf cX7_ageOf 2 .int ({ frames := 2, cells := 0, slots := 0, locals := 62 }) [.ref a0, .int a1] (fun H => TH E (tbM (mD (.inl tp) (.inl sp) (.inl nu) (.inl un) (.inl tk) (.inl xt) (.inl wrb) (.inl nab) (.inl iwb)) (xD 660 X0) ws kp as rd sc ty ik) H) (fun v H => ((-2147483648) ≤ v.toInt ∧ v.toInt ≤ 2147483647) ∧ TH E (tbM (mD (.inl tp) (.inl sp) (.inl nu) (.inl un) (.inl tk) (.inl xt) (.inl wrb) (.inl nab) (.inl iwb)) (xD 660 X0) ws kp as rd sc ty ik) H) := by
  refine teI (by decide) (Nat.le_of_ble_eq_true rfl) ?_
  intro p_ ev_ s mi_ below_ meth cd_ ls F hK hN hO hH hS hl
  have hH : TH E (tbM (mD (.inl tp) (.inl sp) (.inl nu) (.inl un) (.inl tk) (.inl xt) (.inl wrb) (.inl nab) (.inl iwb)) (xD 660 X0) ws kp as rd sc ty ik) s.heap := hH
  have hl : lv_has ls 2 [(0, .ref a0), (1, .int a1)] := hl
  have hBX0 := okB hX0.1
  have hLX0 := hX0.2
  refine lv_iload_n F.1 F.2.1 dX7_ageOf_0 rfl (lv_at hl 1 rfl) ?_
  refine lv_bipush (v := 14) F.1 F.2.1 dX7_ageOf_1 (by decide) ?_
  refine topK (a := 14) (by decide) (fun k_1 hk_1 => ?_)
  refine b_ge (tgt := 15) F dX7_ageOf_3 (by decide) (fun c_2 => ?_) (fun c_2 => ?_)
  · skip
    have r_3 : 14 ≤ a1.toInt ∧ a1.toInt ≤ 17 := by have h9_ := ha1; omega
    refine lv_aload_n F.1 F.2.1 dX7_ageOf_15 rfl (lv_at hl 0 rfl) ?_
    refine lv_iload_n F.1 F.2.1 dX7_ageOf_16 rfl (lv_at hl 1 rfl) ?_
    refine lv_bipush (v := 14) F.1 F.2.1 dX7_ageOf_17 (by decide) ?_
    refine topK (a := 14) (by decide) (fun k_5 hk_5 => ?_)
    refine tSub (lo := 0) (hi := 3) F dX7_ageOf_19 r_3 (eqb hk_5) rfl (fun z_6 hz_6 => ?_)
    refine lv_iconst (v := 3) F.1 F.2.1 dX7_ageOf_20 (by decide) ?_
    refine topK (a := 3) (by decide) (fun k_7 hk_7 => ?_)
    refine tVi (b := a0) (As := [.int z_6, .int k_7]) (rest := []) F hK hN hO (c_X7_ofStore_3 E ws kp as rd sc ty ik un tk xt tp sp wrb nu nab iwb X0 a0 z_6 k_7 ha0 hz_6.2 (eqb hk_7) ((hX0).1)) mv_X7_ofStore wd_27_0 ⟨Nat.le_of_ble_eq_true rfl, Nat.le_of_ble_eq_true rfl⟩ ⟨Nat.le_of_ble_eq_true rfl, Nat.le_of_ble_eq_true rfl⟩ hH hS (tRecv hK hH (tyb ha0 (all1 rfl)) clX7) rfl hl.1 (Nat.le_of_ble_eq_true rfl) dX7_ageOf_21 (fun z_8 H locs hq hS => ?_)
    obtain ⟨f_9, f_10, hH⟩ := hq
    have hH : TH E (tbM (mD (.inl tp) (.inl sp) (.inl nu) (.inl un) (.inl tk) (.inl xt) (.inl wrb) (.inl nab) (.inl iwb)) (xD 660 X0) ws kp as rd sc ty ik) H := hH
    exact txI F hS dX7_ageOf_24 rfl (⟨f_9, hH⟩)
  · skip
    have r_4 : 0 ≤ a1.toInt ∧ a1.toInt ≤ 13 := by have h9_ := ha1; omega
    refine lv_aload_n F.1 F.2.1 dX7_ageOf_6 rfl (lv_at hl 0 rfl) ?_
    refine lv_iload_n F.1 F.2.1 dX7_ageOf_7 rfl (lv_at hl 1 rfl) ?_
    refine lv_iconst (v := 4) F.1 F.2.1 dX7_ageOf_8 (by decide) ?_
    refine topK (a := 4) (by decide) (fun k_11 hk_11 => ?_)
    refine tVi (b := a0) (As := [.int a1, .int k_11]) (rest := []) F hK hN hO (c_X7_of_4 E ws kp as rd sc ty ik un tk xt tp sp wrb nu nab iwb X0 a0 a1 k_11 ha0 r_4 (eqb hk_11) ((hX0).1)) mv_X7_of wd_26_20 ⟨Nat.le_of_ble_eq_true rfl, Nat.le_of_ble_eq_true rfl⟩ ⟨Nat.le_of_ble_eq_true rfl, Nat.le_of_ble_eq_true rfl⟩ hH hS (tRecv hK hH (tyb ha0 (all1 rfl)) clX7) rfl hl.1 (Nat.le_of_ble_eq_true rfl) dX7_ageOf_9 (fun z_12 H locs hq hS => ?_)
    obtain ⟨f_13, f_14, hH⟩ := hq
    have hH : TH E (tbM (mD (.inl tp) (.inl sp) (.inl nu) (.inl un) (.inl tk) (.inl xt) (.inl wrb) (.inl nab) (.inl iwb)) (xD 660 X0) ws kp as rd sc ty ik) H := hH
    refine lv_goto (tgt := 24) F.1 F.2.1 dX7_ageOf_12 (by decide) ?_
    exact txI F hS dX7_ageOf_24 rfl (⟨f_13, hH⟩)
set_option maxHeartbeats 4000000 in
set_option maxRecDepth 100000 in
theorem c_X7_isTaker (E : Ev) (ws : TD) (kp : TD) (as : TD) (rd : TD) (sc : TD) (ty : TD) (ik : TD) (un : Int × Int) (tk : Int × Int) (xt : Int × Int) (tp : Int × Int) (sp : Int × Int) (wrb : Int × Int) (nu : Int × Int) (nab : Int × Int) (iwb : Int × Int) (X0 : Nat → Int32) (a0 : Nat) (a1 : Int32) (ha0 : eT E a0 ∈ [24]) (ha1 : 0 ≤ a1.toInt ∧ a1.toInt ≤ 17) (hX0 : okR X0) : TcI E yX7_isTaker cX7_isTaker 2 .boolean ({ frames := 2, cells := 0, slots := 0, locals := 60 }) [.ref a0, .int a1] (fun H => TH E (tbM (mD (.inl tp) (.inl sp) (.inl nu) (.inl un) (.inl tk) (.inl xt) (.inl wrb) (.inl nab) (.inl iwb)) (xD 660 X0) ws kp as rd sc ty ik) H) (fun v H => (0 ≤ v.toInt ∧ v.toInt ≤ 1) ∧ TH E (tbM (mD (.inl tp) (.inl sp) (.inl nu) (.inl un) (.inl tk) (.inl xt) (.inl wrb) (.inl nab) (.inl iwb)) (xD 660 X0) ws kp as rd sc ty ik) H) := by
  refine teI (by decide) (Nat.le_of_ble_eq_true rfl) ?_
  intro p_ ev_ s mi_ below_ meth cd_ ls F hK hN hO hH hS hl
  have hH : TH E (tbM (mD (.inl tp) (.inl sp) (.inl nu) (.inl un) (.inl tk) (.inl xt) (.inl wrb) (.inl nab) (.inl iwb)) (xD 660 X0) ws kp as rd sc ty ik) s.heap := hH
  have hl : lv_has ls 2 [(0, .ref a0), (1, .int a1)] := hl
  have hBX0 := okB hX0.1
  have hLX0 := hX0.2
  refine lv_iload_n F.1 F.2.1 dX7_isTaker_0 rfl (lv_at hl 1 rfl) ?_
  refine lv_bipush (v := 14) F.1 F.2.1 dX7_isTaker_1 (by decide) ?_
  refine topK (a := 14) (by decide) (fun k_1 hk_1 => ?_)
  refine b_ge (tgt := 22) F dX7_isTaker_3 (by decide) (fun c_2 => ?_) (fun c_2 => ?_)
  · skip
    have r_3 : 14 ≤ a1.toInt ∧ a1.toInt ≤ 17 := by have h9_ := ha1; omega
    refine lv_iload_n F.1 F.2.1 dX7_isTaker_22 rfl (lv_at hl 1 rfl) ?_
    refine lv_bipush (v := 14) F.1 F.2.1 dX7_isTaker_23 (by decide) ?_
    refine topK (a := 14) (by decide) (fun k_5 hk_5 => ?_)
    refine tSub (lo := 0) (hi := 3) F dX7_isTaker_25 r_3 (eqb hk_5) rfl (fun z_6 hz_6 => ?_)
    refine lv_aload_n F.1 F.2.1 dX7_isTaker_26 rfl (lv_at hl 0 rfl) ?_
    refine tVi (b := a0) (As := []) (rest := [.int z_6]) F hK hN hO (c_X7_stores E ws kp as rd sc ty ik un tk xt tp sp wrb nu nab iwb X0 a0 ha0 ((hX0).1)) mv_X7_stores wd_26_12 ⟨Nat.le_of_ble_eq_true rfl, Nat.le_of_ble_eq_true rfl⟩ ⟨Nat.le_of_ble_eq_true rfl, Nat.le_of_ble_eq_true rfl⟩ hH hS (tRecv hK hH (tyb ha0 (all1 rfl)) clX7) rfl hl.1 (Nat.le_of_ble_eq_true rfl) dX7_isTaker_27 (fun z_7 H locs hq hS => ?_)
    obtain ⟨f_8, f_9, hH⟩ := hq
    have hH : TH E (tbM (mD (.inl tp) (.inl sp) (.inl nu) (.inl un) (.inl tk) (.inl xt) (.inl wrb) (.inl nab) (.inl iwb)) (xD 660 X0) ws kp as rd sc ty ik) H := hH
    refine b_ge (tgt := 37) F dX7_isTaker_30 (by decide) (fun c_10 => ?_) (fun c_10 => ?_)
    · skip
      have r_11 : 0 ≤ z_7.toInt ∧ z_7.toInt ≤ 3 := by have h9_ := f_8; omega
      refine lv_iconst (v := 0) F.1 F.2.1 dX7_isTaker_37 (by decide) ?_
      refine topK (a := 0) (by decide) (fun k_13 hk_13 => ?_)
      exact txI F hS dX7_isTaker_38 (nar01 (wkb (eqb hk_13) rfl rfl)) (⟨(wkb (eqb hk_13) rfl rfl), hH⟩)
    · skip
      have r_12 : 1 ≤ z_7.toInt ∧ z_7.toInt ≤ 4 := by have h9_ := f_8; omega
      refine lv_iconst (v := 1) F.1 F.2.1 dX7_isTaker_33 (by decide) ?_
      refine topK (a := 1) (by decide) (fun k_14 hk_14 => ?_)
      refine lv_goto (tgt := 38) F.1 F.2.1 dX7_isTaker_34 (by decide) ?_
      exact txI F hS dX7_isTaker_38 (nar01 (wkb (eqb hk_14) rfl rfl)) (⟨(wkb (eqb hk_14) rfl rfl), hH⟩)
  · skip
    have r_4 : 0 ≤ a1.toInt ∧ a1.toInt ≤ 13 := by have h9_ := ha1; omega
    refine lv_iload_n F.1 F.2.1 dX7_isTaker_6 rfl (lv_at hl 1 rfl) ?_
    refine lv_aload_n F.1 F.2.1 dX7_isTaker_7 rfl (lv_at hl 0 rfl) ?_
    refine tVi (b := a0) (As := []) (rest := [.int a1]) F hK hN hO (c_X7_rights E ws kp as rd sc ty ik un tk xt tp sp wrb nu nab iwb X0 a0 ha0 ((hX0).1)) mv_X7_rights wd_19_4 ⟨Nat.le_of_ble_eq_true rfl, Nat.le_of_ble_eq_true rfl⟩ ⟨Nat.le_of_ble_eq_true rfl, Nat.le_of_ble_eq_true rfl⟩ hH hS (tRecv hK hH (tyb ha0 (all1 rfl)) clX7) rfl hl.1 (Nat.le_of_ble_eq_true rfl) dX7_isTaker_8 (fun z_15 H locs hq hS => ?_)
    obtain ⟨f_16, f_17, hH⟩ := hq
    have hH : TH E (tbM (mD (.inl tp) (.inl sp) (.inl nu) (.inl un) (.inl tk) (.inl xt) (.inl wrb) (.inl nab) (.inl iwb)) (xD 660 X0) ws kp as rd sc ty ik) H := hH
    refine b_ge (tgt := 18) F dX7_isTaker_11 (by decide) (fun c_18 => ?_) (fun c_18 => ?_)
    · skip
      have r_19 : 0 ≤ z_15.toInt ∧ z_15.toInt ≤ 13 := by have h9_ := f_16; omega
      refine lv_iconst (v := 0) F.1 F.2.1 dX7_isTaker_18 (by decide) ?_
      refine topK (a := 0) (by decide) (fun k_21 hk_21 => ?_)
      refine lv_goto (tgt := 38) F.1 F.2.1 dX7_isTaker_19 (by decide) ?_
      exact txI F hS dX7_isTaker_38 (nar01 (wkb (eqb hk_21) rfl rfl)) (⟨(wkb (eqb hk_21) rfl rfl), hH⟩)
    · skip
      have r_20 : 1 ≤ z_15.toInt ∧ z_15.toInt ≤ 14 := by have h9_ := f_16; omega
      refine lv_iconst (v := 1) F.1 F.2.1 dX7_isTaker_14 (by decide) ?_
      refine topK (a := 1) (by decide) (fun k_22 hk_22 => ?_)
      refine lv_goto (tgt := 38) F.1 F.2.1 dX7_isTaker_15 (by decide) ?_
      exact txI F hS dX7_isTaker_38 (nar01 (wkb (eqb hk_22) rfl rfl)) (⟨(wkb (eqb hk_22) rfl rfl), hH⟩)
set_option maxHeartbeats 4000000 in
set_option maxRecDepth 100000 in
theorem c_X7_wantsOf_r (E : Ev) (ws : TD) (kp : TD) (as : TD) (rd : TD) (sc : TD) (ty : TD) (ik : TD) (un : Int × Int) (tk : Int × Int) (xt : Int × Int) (tp : Int × Int) (sp : Int × Int) (wrb : Int × Int) (nu : Int × Int) (nab : Int × Int) (iwb : Int × Int) (X0 : Nat → Int32) (a0 : Nat) (a1 : Int32) (ha0 : eT E a0 ∈ [24]) (ha1 : 0 ≤ a1.toInt ∧ a1.toInt ≤ 13) (hX0 : okR X0) : TcI E yX7_wantsOf cX7_wantsOf 2 .int ({ frames := 2, cells := 0, slots := 0, locals := 65 }) [.ref a0, .int a1] (fun H => TH E (tbM (mD (.inl tp) (.inl sp) (.inl nu) (.inl un) (.inl tk) (.inl xt) (.inl wrb) (.inl nab) (.inl iwb)) (xD 660 X0) ws kp as rd sc ty ik) H) (fun v H => ((-14400002) ≤ v.toInt ∧ v.toInt ≤ 9999) ∧ TH E (tbM (mD (.inl tp) (.inl sp) (.inl nu) (.inl un) (.inl tk) (.inl xt) (.inl wrb) (.inl nab) (.inl iwb)) (xD 660 X0) ws kp as rd sc ty ik) H) := by
  refine teI (by decide) (Nat.le_of_ble_eq_true rfl) ?_
  intro p_ ev_ s mi_ below_ meth cd_ ls F hK hN hO hH hS hl
  have hH : TH E (tbM (mD (.inl tp) (.inl sp) (.inl nu) (.inl un) (.inl tk) (.inl xt) (.inl wrb) (.inl nab) (.inl iwb)) (xD 660 X0) ws kp as rd sc ty ik) s.heap := hH
  have hl : lv_has ls 2 [(0, .ref a0), (1, .int a1)] := hl
  have hBX0 := okB hX0.1
  have hLX0 := hX0.2
  refine lv_iload_n F.1 F.2.1 dX7_wantsOf_0 rfl (lv_at hl 1 rfl) ?_
  refine lv_bipush (v := 14) F.1 F.2.1 dX7_wantsOf_1 (by decide) ?_
  refine topK (a := 14) (by decide) (fun k_1 hk_1 => ?_)
  refine b_lt (tgt := 38) F dX7_wantsOf_3 (by decide) (fun c_2 => ?_) (fun c_2 => absurd c_2 (by omega))
  refine lv_aload_n F.1 F.2.1 dX7_wantsOf_38 rfl (lv_at hl 0 rfl) ?_
  refine tGetR (j := 0) F hK hH (tyb ha0 (all1 rfl)) rfl (all1 rfl) clX7 (by decide) wd_6_5 dX7_wantsOf_39 (fun q_3 hq_3 _ => ?_)
  refine lv_iconst (v := 3) F.1 F.2.1 dX7_wantsOf_42 (by decide) ?_
  refine topK (a := 3) (by decide) (fun k_4 hk_4 => ?_)
  refine tIaldX F hK hH (tyb hq_3 (all1 rfl)) (ixb (n := 660) (eqb hk_4) rfl rfl) dX7_wantsOf_43 (fun z_5 ez_5 => ?_)
  refine tI2l F dX7_wantsOf_44 (fun w_6 hw_6 => ?_)
  refine lv_aload_n F.1 F.2.1 dX7_wantsOf_45 rfl (lv_at hl 0 rfl) ?_
  refine lv_iload_n F.1 F.2.1 dX7_wantsOf_46 rfl (lv_at hl 1 rfl) ?_
  refine lv_iconst (v := 2) F.1 F.2.1 dX7_wantsOf_47 (by decide) ?_
  refine topK (a := 2) (by decide) (fun k_7 hk_7 => ?_)
  refine tVi (b := a0) (As := [.int a1, .int k_7]) (rest := [.long w_6]) F hK hN hO (c_X7_of_2 E ws kp as rd sc ty ik un tk xt tp sp wrb nu nab iwb X0 a0 a1 k_7 ha0 ha1 (eqb hk_7) ((hX0).1)) mv_X7_of wd_26_20 ⟨Nat.le_of_ble_eq_true rfl, Nat.le_of_ble_eq_true rfl⟩ ⟨Nat.le_of_ble_eq_true rfl, Nat.le_of_ble_eq_true rfl⟩ hH hS (tRecv hK hH (tyb ha0 (all1 rfl)) clX7) rfl hl.1 (Nat.le_of_ble_eq_true rfl) dX7_wantsOf_48 (fun z_8 H locs hq hS => ?_)
  obtain ⟨f_9, f_10, hH⟩ := hq
  have hH : TH E (tbM (mD (.inl tp) (.inl sp) (.inl nu) (.inl un) (.inl tk) (.inl xt) (.inl wrb) (.inl nab) (.inl iwb)) (xD 660 X0) ws kp as rd sc ty ik) H := hH
  refine tI2l F dX7_wantsOf_51 (fun w_11 hw_11 => ?_)
  refine lv_aload_n F.1 F.2.1 dX7_wantsOf_52 rfl (lv_at hl 0 rfl) ?_
  refine lv_iload_n F.1 F.2.1 dX7_wantsOf_53 rfl (lv_at hl 1 rfl) ?_
  refine lv_iconst (v := 3) F.1 F.2.1 dX7_wantsOf_54 (by decide) ?_
  refine topK (a := 3) (by decide) (fun k_12 hk_12 => ?_)
  refine tVi (b := a0) (As := [.int a1, .int k_12]) (rest := [.long w_11, .long w_6]) F hK hN hO (c_X7_of_3 E ws kp as rd sc ty ik un tk xt tp sp wrb nu nab iwb X0 a0 a1 k_12 ha0 ha1 (eqb hk_12) ((hX0).1)) mv_X7_of wd_26_20 ⟨Nat.le_of_ble_eq_true rfl, Nat.le_of_ble_eq_true rfl⟩ ⟨Nat.le_of_ble_eq_true rfl, Nat.le_of_ble_eq_true rfl⟩ hH hS (tRecv hK hH (tyb ha0 (all1 rfl)) clX7) rfl hl.1 (Nat.le_of_ble_eq_true rfl) dX7_wantsOf_55 (fun z_13 H locs hq hS => ?_)
  obtain ⟨f_14, f_15, hH⟩ := hq
  have hH : TH E (tbM (mD (.inl tp) (.inl sp) (.inl nu) (.inl un) (.inl tk) (.inl xt) (.inl wrb) (.inl nab) (.inl iwb)) (xD 660 X0) ws kp as rd sc ty ik) H := hH
  refine tI2l F dX7_wantsOf_58 (fun w_16 hw_16 => ?_)
  refine tSi (As := [.long w_6, .long w_11, .long w_16]) (rest := []) F hK hN hO (c_X7_in E (mD (.inl tp) (.inl sp) (.inl nu) (.inl un) (.inl tk) (.inl xt) (.inl wrb) (.inl nab) (.inl iwb)) (xD 660 X0) ws kp as rd sc ty ik w_6 w_11 w_16) ms_X7_in wd_8_10 ⟨Nat.le_of_ble_eq_true rfl, Nat.le_of_ble_eq_true rfl⟩ ⟨Nat.le_of_ble_eq_true rfl, Nat.le_of_ble_eq_true rfl⟩ hH hS rfl hl.1 (Nat.le_of_ble_eq_true rfl) dX7_wantsOf_59 (fun z_17 H locs hq hS => ?_)
  obtain ⟨f_18, f_19, hH⟩ := hq
  have hH : TH E (tbM (mD (.inl tp) (.inl sp) (.inl nu) (.inl un) (.inl tk) (.inl xt) (.inl wrb) (.inl nab) (.inl iwb)) (xD 660 X0) ws kp as rd sc ty ik) H := hH
  refine z_ne (tgt := 67) F dX7_wantsOf_62 (by decide) (fun c_20 => ?_) (fun c_20 => ?_)
  · skip
    have r_21 : 1 ≤ z_17.toInt ∧ z_17.toInt ≤ 1 := by have h9_ := f_18; omega
    refine lv_aload_n F.1 F.2.1 dX7_wantsOf_67 rfl (lv_at hl 0 rfl) ?_
    refine lv_iload_n F.1 F.2.1 dX7_wantsOf_68 rfl (lv_at hl 1 rfl) ?_
    refine lv_iconst (v := 5) F.1 F.2.1 dX7_wantsOf_69 (by decide) ?_
    refine topK (a := 5) (by decide) (fun k_23 hk_23 => ?_)
    refine tVi (b := a0) (As := [.int a1, .int k_23]) (rest := []) F hK hN hO (c_X7_of_5 E ws kp as rd sc ty ik un tk xt tp sp wrb nu nab iwb X0 a0 a1 k_23 ha0 ha1 (eqb hk_23) ((hX0).1)) mv_X7_of wd_26_20 ⟨Nat.le_of_ble_eq_true rfl, Nat.le_of_ble_eq_true rfl⟩ ⟨Nat.le_of_ble_eq_true rfl, Nat.le_of_ble_eq_true rfl⟩ hH hS (tRecv hK hH (tyb ha0 (all1 rfl)) clX7) rfl hl.1 (Nat.le_of_ble_eq_true rfl) dX7_wantsOf_70 (fun z_24 H locs hq hS => ?_)
    obtain ⟨f_25, f_26, hH⟩ := hq
    have hH : TH E (tbM (mD (.inl tp) (.inl sp) (.inl nu) (.inl un) (.inl tk) (.inl xt) (.inl wrb) (.inl nab) (.inl iwb)) (xD 660 X0) ws kp as rd sc ty ik) H := hH
    refine lv_bipush (v := (-2)) F.1 F.2.1 dX7_wantsOf_73 (by decide) ?_
    refine topK (a := (-2)) (by decide) (fun k_27 hk_27 => ?_)
    refine b_ne (tgt := 88) F dX7_wantsOf_75 (by decide) (fun c_28 => ?_) (fun c_28 => ?_)
    · skip
      have r_29 : (-1) ≤ z_24.toInt ∧ z_24.toInt ≤ 999999 := by have h9_ := f_25; omega
      refine lv_aload_n F.1 F.2.1 dX7_wantsOf_88 rfl (lv_at hl 0 rfl) ?_
      refine lv_iload_n F.1 F.2.1 dX7_wantsOf_89 rfl (lv_at hl 1 rfl) ?_
      refine lv_bipush (v := 10) F.1 F.2.1 dX7_wantsOf_90 (by decide) ?_
      refine topK (a := 10) (by decide) (fun k_31 hk_31 => ?_)
      refine tVi (b := a0) (As := [.int a1, .int k_31]) (rest := []) F hK hN hO (c_X7_of_10 E ws kp as rd sc ty ik un tk xt tp sp wrb nu nab iwb X0 a0 a1 k_31 ha0 ha1 (eqb hk_31) ((hX0).1)) mv_X7_of wd_26_20 ⟨Nat.le_of_ble_eq_true rfl, Nat.le_of_ble_eq_true rfl⟩ ⟨Nat.le_of_ble_eq_true rfl, Nat.le_of_ble_eq_true rfl⟩ hH hS (tRecv hK hH (tyb ha0 (all1 rfl)) clX7) rfl hl.1 (Nat.le_of_ble_eq_true rfl) dX7_wantsOf_92 (fun z_32 H locs hq hS => ?_)
      obtain ⟨f_33, f_34, hH⟩ := hq
      have hH : TH E (tbM (mD (.inl tp) (.inl sp) (.inl nu) (.inl un) (.inl tk) (.inl xt) (.inl wrb) (.inl nab) (.inl iwb)) (xD 660 X0) ws kp as rd sc ty ik) H := hH
      refine lv_aload_n F.1 F.2.1 dX7_wantsOf_95 rfl (lv_at hl 0 rfl) ?_
      refine lv_iload_n F.1 F.2.1 dX7_wantsOf_96 rfl (lv_at hl 1 rfl) ?_
      refine lv_bipush (v := 6) F.1 F.2.1 dX7_wantsOf_97 (by decide) ?_
      refine topK (a := 6) (by decide) (fun k_35 hk_35 => ?_)
      refine tVi (b := a0) (As := [.int a1, .int k_35]) (rest := [.int z_32]) F hK hN hO (c_X7_of_6 E ws kp as rd sc ty ik un tk xt tp sp wrb nu nab iwb X0 a0 a1 k_35 ha0 ha1 (eqb hk_35) hX0) mv_X7_of wd_26_20 ⟨Nat.le_of_ble_eq_true rfl, Nat.le_of_ble_eq_true rfl⟩ ⟨Nat.le_of_ble_eq_true rfl, Nat.le_of_ble_eq_true rfl⟩ hH hS (tRecv hK hH (tyb ha0 (all1 rfl)) clX7) rfl hl.1 (Nat.le_of_ble_eq_true rfl) dX7_wantsOf_99 (fun z_36 H locs hq hS => ?_)
      obtain ⟨f_37, f_38, hH⟩ := hq
      have hH : TH E (tbM (mD (.inl tp) (.inl sp) (.inl nu) (.inl un) (.inl tk) (.inl xt) (.inl wrb) (.inl nab) (.inl iwb)) (xD 660 X0) ws kp as rd sc ty ik) H := hH
      refine tSi (As := [.int z_32, .int z_36]) (rest := []) F hK hN hO (c_X7_least E (mD (.inl tp) (.inl sp) (.inl nu) (.inl un) (.inl tk) (.inl xt) (.inl wrb) (.inl nab) (.inl iwb)) (xD 660 X0) ws kp as rd sc ty ik z_32 z_36) ms_X7_least wd_27_15 ⟨Nat.le_of_ble_eq_true rfl, Nat.le_of_ble_eq_true rfl⟩ ⟨Nat.le_of_ble_eq_true rfl, Nat.le_of_ble_eq_true rfl⟩ hH hS rfl hl.1 (Nat.le_of_ble_eq_true rfl) dX7_wantsOf_102 (fun z_39 H locs hq hS => ?_)
      obtain ⟨f_40, f_41, hH⟩ := hq
      have hH : TH E (tbM (mD (.inl tp) (.inl sp) (.inl nu) (.inl un) (.inl tk) (.inl xt) (.inl wrb) (.inl nab) (.inl iwb)) (xD 660 X0) ws kp as rd sc ty ik) H := hH
      have ez_39 : (-14400002) ≤ z_39.toInt ∧ z_39.toInt ≤ 9999 := by omega
      exact txI F hS dX7_wantsOf_105 rfl (⟨ez_39, hH⟩)
    · skip
      have r_30 : (-2) ≤ z_24.toInt ∧ z_24.toInt ≤ (-2) := by have h9_ := f_25; omega
      refine lv_aload_n F.1 F.2.1 dX7_wantsOf_78 rfl (lv_at hl 0 rfl) ?_
      refine lv_iload_n F.1 F.2.1 dX7_wantsOf_79 rfl (lv_at hl 1 rfl) ?_
      refine lv_bipush (v := 10) F.1 F.2.1 dX7_wantsOf_80 (by decide) ?_
      refine topK (a := 10) (by decide) (fun k_42 hk_42 => ?_)
      refine tVi (b := a0) (As := [.int a1, .int k_42]) (rest := []) F hK hN hO (c_X7_of_10 E ws kp as rd sc ty ik un tk xt tp sp wrb nu nab iwb X0 a0 a1 k_42 ha0 ha1 (eqb hk_42) ((hX0).1)) mv_X7_of wd_26_20 ⟨Nat.le_of_ble_eq_true rfl, Nat.le_of_ble_eq_true rfl⟩ ⟨Nat.le_of_ble_eq_true rfl, Nat.le_of_ble_eq_true rfl⟩ hH hS (tRecv hK hH (tyb ha0 (all1 rfl)) clX7) rfl hl.1 (Nat.le_of_ble_eq_true rfl) dX7_wantsOf_82 (fun z_43 H locs hq hS => ?_)
      obtain ⟨f_44, f_45, hH⟩ := hq
      have hH : TH E (tbM (mD (.inl tp) (.inl sp) (.inl nu) (.inl un) (.inl tk) (.inl xt) (.inl wrb) (.inl nab) (.inl iwb)) (xD 660 X0) ws kp as rd sc ty ik) H := hH
      refine lv_goto (tgt := 105) F.1 F.2.1 dX7_wantsOf_85 (by decide) ?_
      exact txI F hS dX7_wantsOf_105 rfl (⟨(wkb f_44 rfl rfl), hH⟩)
  · skip
    have r_22 : 0 ≤ z_17.toInt ∧ z_17.toInt ≤ 0 := by have h9_ := f_18; omega
    refine lv_iconst (v := 0) F.1 F.2.1 dX7_wantsOf_65 (by decide) ?_
    refine topK (a := 0) (by decide) (fun k_46 hk_46 => ?_)
    exact txI F hS dX7_wantsOf_66 rfl (⟨(wkb (eqb hk_46) rfl rfl), hH⟩)
set_option maxHeartbeats 4000000 in
set_option maxRecDepth 100000 in
theorem c_X7_wantsOf_a (E : Ev) (ws : TD) (kp : TD) (as : TD) (rd : TD) (sc : TD) (ty : TD) (ik : TD) (un : Int × Int) (tk : Int × Int) (xt : Int × Int) (tp : Int × Int) (sp : Int × Int) (wrb : Int × Int) (nu : Int × Int) (nab : Int × Int) (iwb : Int × Int) (X0 : Nat → Int32) (a0 : Nat) (a1 : Int32) (ha0 : eT E a0 ∈ [24]) (ha1 : 0 ≤ a1.toInt ∧ a1.toInt ≤ 17) (hX0 : okR X0) : TcI E yX7_wantsOf cX7_wantsOf 2 .int ({ frames := 2, cells := 0, slots := 0, locals := 65 }) [.ref a0, .int a1] (fun H => TH E (tbM (mD (.inl tp) (.inl sp) (.inl nu) (.inl un) (.inl tk) (.inl xt) (.inl wrb) (.inl nab) (.inl iwb)) (xD 660 X0) ws kp as rd sc ty ik) H) (fun v H => ((-2147483648) ≤ v.toInt ∧ v.toInt ≤ 9999) ∧ TH E (tbM (mD (.inl tp) (.inl sp) (.inl nu) (.inl un) (.inl tk) (.inl xt) (.inl wrb) (.inl nab) (.inl iwb)) (xD 660 X0) ws kp as rd sc ty ik) H) := by
  refine teI (by decide) (Nat.le_of_ble_eq_true rfl) ?_
  intro p_ ev_ s mi_ below_ meth cd_ ls F hK hN hO hH hS hl
  have hH : TH E (tbM (mD (.inl tp) (.inl sp) (.inl nu) (.inl un) (.inl tk) (.inl xt) (.inl wrb) (.inl nab) (.inl iwb)) (xD 660 X0) ws kp as rd sc ty ik) s.heap := hH
  have hl : lv_has ls 2 [(0, .ref a0), (1, .int a1)] := hl
  have hBX0 := okB hX0.1
  have hLX0 := hX0.2
  refine lv_iload_n F.1 F.2.1 dX7_wantsOf_0 rfl (lv_at hl 1 rfl) ?_
  refine lv_bipush (v := 14) F.1 F.2.1 dX7_wantsOf_1 (by decide) ?_
  refine topK (a := 14) (by decide) (fun k_1 hk_1 => ?_)
  refine b_lt (tgt := 38) F dX7_wantsOf_3 (by decide) (fun c_2 => ?_) (fun c_2 => ?_)
  · skip
    have r_3 : 0 ≤ a1.toInt ∧ a1.toInt ≤ 13 := by have h9_ := ha1; omega
    refine lv_aload_n F.1 F.2.1 dX7_wantsOf_38 rfl (lv_at hl 0 rfl) ?_
    refine tGetR (j := 0) F hK hH (tyb ha0 (all1 rfl)) rfl (all1 rfl) clX7 (by decide) wd_6_5 dX7_wantsOf_39 (fun q_5 hq_5 _ => ?_)
    refine lv_iconst (v := 3) F.1 F.2.1 dX7_wantsOf_42 (by decide) ?_
    refine topK (a := 3) (by decide) (fun k_6 hk_6 => ?_)
    refine tIaldX F hK hH (tyb hq_5 (all1 rfl)) (ixb (n := 660) (eqb hk_6) rfl rfl) dX7_wantsOf_43 (fun z_7 ez_7 => ?_)
    refine tI2l F dX7_wantsOf_44 (fun w_8 hw_8 => ?_)
    refine lv_aload_n F.1 F.2.1 dX7_wantsOf_45 rfl (lv_at hl 0 rfl) ?_
    refine lv_iload_n F.1 F.2.1 dX7_wantsOf_46 rfl (lv_at hl 1 rfl) ?_
    refine lv_iconst (v := 2) F.1 F.2.1 dX7_wantsOf_47 (by decide) ?_
    refine topK (a := 2) (by decide) (fun k_9 hk_9 => ?_)
    refine tVi (b := a0) (As := [.int a1, .int k_9]) (rest := [.long w_8]) F hK hN hO (c_X7_of_2 E ws kp as rd sc ty ik un tk xt tp sp wrb nu nab iwb X0 a0 a1 k_9 ha0 r_3 (eqb hk_9) ((hX0).1)) mv_X7_of wd_26_20 ⟨Nat.le_of_ble_eq_true rfl, Nat.le_of_ble_eq_true rfl⟩ ⟨Nat.le_of_ble_eq_true rfl, Nat.le_of_ble_eq_true rfl⟩ hH hS (tRecv hK hH (tyb ha0 (all1 rfl)) clX7) rfl hl.1 (Nat.le_of_ble_eq_true rfl) dX7_wantsOf_48 (fun z_10 H locs hq hS => ?_)
    obtain ⟨f_11, f_12, hH⟩ := hq
    have hH : TH E (tbM (mD (.inl tp) (.inl sp) (.inl nu) (.inl un) (.inl tk) (.inl xt) (.inl wrb) (.inl nab) (.inl iwb)) (xD 660 X0) ws kp as rd sc ty ik) H := hH
    refine tI2l F dX7_wantsOf_51 (fun w_13 hw_13 => ?_)
    refine lv_aload_n F.1 F.2.1 dX7_wantsOf_52 rfl (lv_at hl 0 rfl) ?_
    refine lv_iload_n F.1 F.2.1 dX7_wantsOf_53 rfl (lv_at hl 1 rfl) ?_
    refine lv_iconst (v := 3) F.1 F.2.1 dX7_wantsOf_54 (by decide) ?_
    refine topK (a := 3) (by decide) (fun k_14 hk_14 => ?_)
    refine tVi (b := a0) (As := [.int a1, .int k_14]) (rest := [.long w_13, .long w_8]) F hK hN hO (c_X7_of_3 E ws kp as rd sc ty ik un tk xt tp sp wrb nu nab iwb X0 a0 a1 k_14 ha0 r_3 (eqb hk_14) ((hX0).1)) mv_X7_of wd_26_20 ⟨Nat.le_of_ble_eq_true rfl, Nat.le_of_ble_eq_true rfl⟩ ⟨Nat.le_of_ble_eq_true rfl, Nat.le_of_ble_eq_true rfl⟩ hH hS (tRecv hK hH (tyb ha0 (all1 rfl)) clX7) rfl hl.1 (Nat.le_of_ble_eq_true rfl) dX7_wantsOf_55 (fun z_15 H locs hq hS => ?_)
    obtain ⟨f_16, f_17, hH⟩ := hq
    have hH : TH E (tbM (mD (.inl tp) (.inl sp) (.inl nu) (.inl un) (.inl tk) (.inl xt) (.inl wrb) (.inl nab) (.inl iwb)) (xD 660 X0) ws kp as rd sc ty ik) H := hH
    refine tI2l F dX7_wantsOf_58 (fun w_18 hw_18 => ?_)
    refine tSi (As := [.long w_8, .long w_13, .long w_18]) (rest := []) F hK hN hO (c_X7_in E (mD (.inl tp) (.inl sp) (.inl nu) (.inl un) (.inl tk) (.inl xt) (.inl wrb) (.inl nab) (.inl iwb)) (xD 660 X0) ws kp as rd sc ty ik w_8 w_13 w_18) ms_X7_in wd_8_10 ⟨Nat.le_of_ble_eq_true rfl, Nat.le_of_ble_eq_true rfl⟩ ⟨Nat.le_of_ble_eq_true rfl, Nat.le_of_ble_eq_true rfl⟩ hH hS rfl hl.1 (Nat.le_of_ble_eq_true rfl) dX7_wantsOf_59 (fun z_19 H locs hq hS => ?_)
    obtain ⟨f_20, f_21, hH⟩ := hq
    have hH : TH E (tbM (mD (.inl tp) (.inl sp) (.inl nu) (.inl un) (.inl tk) (.inl xt) (.inl wrb) (.inl nab) (.inl iwb)) (xD 660 X0) ws kp as rd sc ty ik) H := hH
    refine z_ne (tgt := 67) F dX7_wantsOf_62 (by decide) (fun c_22 => ?_) (fun c_22 => ?_)
    · skip
      have r_23 : 1 ≤ z_19.toInt ∧ z_19.toInt ≤ 1 := by have h9_ := f_20; omega
      refine lv_aload_n F.1 F.2.1 dX7_wantsOf_67 rfl (lv_at hl 0 rfl) ?_
      refine lv_iload_n F.1 F.2.1 dX7_wantsOf_68 rfl (lv_at hl 1 rfl) ?_
      refine lv_iconst (v := 5) F.1 F.2.1 dX7_wantsOf_69 (by decide) ?_
      refine topK (a := 5) (by decide) (fun k_25 hk_25 => ?_)
      refine tVi (b := a0) (As := [.int a1, .int k_25]) (rest := []) F hK hN hO (c_X7_of_5 E ws kp as rd sc ty ik un tk xt tp sp wrb nu nab iwb X0 a0 a1 k_25 ha0 r_3 (eqb hk_25) ((hX0).1)) mv_X7_of wd_26_20 ⟨Nat.le_of_ble_eq_true rfl, Nat.le_of_ble_eq_true rfl⟩ ⟨Nat.le_of_ble_eq_true rfl, Nat.le_of_ble_eq_true rfl⟩ hH hS (tRecv hK hH (tyb ha0 (all1 rfl)) clX7) rfl hl.1 (Nat.le_of_ble_eq_true rfl) dX7_wantsOf_70 (fun z_26 H locs hq hS => ?_)
      obtain ⟨f_27, f_28, hH⟩ := hq
      have hH : TH E (tbM (mD (.inl tp) (.inl sp) (.inl nu) (.inl un) (.inl tk) (.inl xt) (.inl wrb) (.inl nab) (.inl iwb)) (xD 660 X0) ws kp as rd sc ty ik) H := hH
      refine lv_bipush (v := (-2)) F.1 F.2.1 dX7_wantsOf_73 (by decide) ?_
      refine topK (a := (-2)) (by decide) (fun k_29 hk_29 => ?_)
      refine b_ne (tgt := 88) F dX7_wantsOf_75 (by decide) (fun c_30 => ?_) (fun c_30 => ?_)
      · skip
        have r_31 : (-1) ≤ z_26.toInt ∧ z_26.toInt ≤ 999999 := by have h9_ := f_27; omega
        refine lv_aload_n F.1 F.2.1 dX7_wantsOf_88 rfl (lv_at hl 0 rfl) ?_
        refine lv_iload_n F.1 F.2.1 dX7_wantsOf_89 rfl (lv_at hl 1 rfl) ?_
        refine lv_bipush (v := 10) F.1 F.2.1 dX7_wantsOf_90 (by decide) ?_
        refine topK (a := 10) (by decide) (fun k_33 hk_33 => ?_)
        refine tVi (b := a0) (As := [.int a1, .int k_33]) (rest := []) F hK hN hO (c_X7_of_10 E ws kp as rd sc ty ik un tk xt tp sp wrb nu nab iwb X0 a0 a1 k_33 ha0 r_3 (eqb hk_33) ((hX0).1)) mv_X7_of wd_26_20 ⟨Nat.le_of_ble_eq_true rfl, Nat.le_of_ble_eq_true rfl⟩ ⟨Nat.le_of_ble_eq_true rfl, Nat.le_of_ble_eq_true rfl⟩ hH hS (tRecv hK hH (tyb ha0 (all1 rfl)) clX7) rfl hl.1 (Nat.le_of_ble_eq_true rfl) dX7_wantsOf_92 (fun z_34 H locs hq hS => ?_)
        obtain ⟨f_35, f_36, hH⟩ := hq
        have hH : TH E (tbM (mD (.inl tp) (.inl sp) (.inl nu) (.inl un) (.inl tk) (.inl xt) (.inl wrb) (.inl nab) (.inl iwb)) (xD 660 X0) ws kp as rd sc ty ik) H := hH
        refine lv_aload_n F.1 F.2.1 dX7_wantsOf_95 rfl (lv_at hl 0 rfl) ?_
        refine lv_iload_n F.1 F.2.1 dX7_wantsOf_96 rfl (lv_at hl 1 rfl) ?_
        refine lv_bipush (v := 6) F.1 F.2.1 dX7_wantsOf_97 (by decide) ?_
        refine topK (a := 6) (by decide) (fun k_37 hk_37 => ?_)
        refine tVi (b := a0) (As := [.int a1, .int k_37]) (rest := [.int z_34]) F hK hN hO (c_X7_of_6 E ws kp as rd sc ty ik un tk xt tp sp wrb nu nab iwb X0 a0 a1 k_37 ha0 r_3 (eqb hk_37) hX0) mv_X7_of wd_26_20 ⟨Nat.le_of_ble_eq_true rfl, Nat.le_of_ble_eq_true rfl⟩ ⟨Nat.le_of_ble_eq_true rfl, Nat.le_of_ble_eq_true rfl⟩ hH hS (tRecv hK hH (tyb ha0 (all1 rfl)) clX7) rfl hl.1 (Nat.le_of_ble_eq_true rfl) dX7_wantsOf_99 (fun z_38 H locs hq hS => ?_)
        obtain ⟨f_39, f_40, hH⟩ := hq
        have hH : TH E (tbM (mD (.inl tp) (.inl sp) (.inl nu) (.inl un) (.inl tk) (.inl xt) (.inl wrb) (.inl nab) (.inl iwb)) (xD 660 X0) ws kp as rd sc ty ik) H := hH
        refine tSi (As := [.int z_34, .int z_38]) (rest := []) F hK hN hO (c_X7_least E (mD (.inl tp) (.inl sp) (.inl nu) (.inl un) (.inl tk) (.inl xt) (.inl wrb) (.inl nab) (.inl iwb)) (xD 660 X0) ws kp as rd sc ty ik z_34 z_38) ms_X7_least wd_27_15 ⟨Nat.le_of_ble_eq_true rfl, Nat.le_of_ble_eq_true rfl⟩ ⟨Nat.le_of_ble_eq_true rfl, Nat.le_of_ble_eq_true rfl⟩ hH hS rfl hl.1 (Nat.le_of_ble_eq_true rfl) dX7_wantsOf_102 (fun z_41 H locs hq hS => ?_)
        obtain ⟨f_42, f_43, hH⟩ := hq
        have hH : TH E (tbM (mD (.inl tp) (.inl sp) (.inl nu) (.inl un) (.inl tk) (.inl xt) (.inl wrb) (.inl nab) (.inl iwb)) (xD 660 X0) ws kp as rd sc ty ik) H := hH
        have ez_41 : (-14400002) ≤ z_41.toInt ∧ z_41.toInt ≤ 9999 := by omega
        exact txI F hS dX7_wantsOf_105 rfl (⟨(wkb ez_41 rfl rfl), hH⟩)
      · skip
        have r_32 : (-2) ≤ z_26.toInt ∧ z_26.toInt ≤ (-2) := by have h9_ := f_27; omega
        refine lv_aload_n F.1 F.2.1 dX7_wantsOf_78 rfl (lv_at hl 0 rfl) ?_
        refine lv_iload_n F.1 F.2.1 dX7_wantsOf_79 rfl (lv_at hl 1 rfl) ?_
        refine lv_bipush (v := 10) F.1 F.2.1 dX7_wantsOf_80 (by decide) ?_
        refine topK (a := 10) (by decide) (fun k_44 hk_44 => ?_)
        refine tVi (b := a0) (As := [.int a1, .int k_44]) (rest := []) F hK hN hO (c_X7_of_10 E ws kp as rd sc ty ik un tk xt tp sp wrb nu nab iwb X0 a0 a1 k_44 ha0 r_3 (eqb hk_44) ((hX0).1)) mv_X7_of wd_26_20 ⟨Nat.le_of_ble_eq_true rfl, Nat.le_of_ble_eq_true rfl⟩ ⟨Nat.le_of_ble_eq_true rfl, Nat.le_of_ble_eq_true rfl⟩ hH hS (tRecv hK hH (tyb ha0 (all1 rfl)) clX7) rfl hl.1 (Nat.le_of_ble_eq_true rfl) dX7_wantsOf_82 (fun z_45 H locs hq hS => ?_)
        obtain ⟨f_46, f_47, hH⟩ := hq
        have hH : TH E (tbM (mD (.inl tp) (.inl sp) (.inl nu) (.inl un) (.inl tk) (.inl xt) (.inl wrb) (.inl nab) (.inl iwb)) (xD 660 X0) ws kp as rd sc ty ik) H := hH
        refine lv_goto (tgt := 105) F.1 F.2.1 dX7_wantsOf_85 (by decide) ?_
        exact txI F hS dX7_wantsOf_105 rfl (⟨(wkb f_46 rfl rfl), hH⟩)
    · skip
      have r_24 : 0 ≤ z_19.toInt ∧ z_19.toInt ≤ 0 := by have h9_ := f_20; omega
      refine lv_iconst (v := 0) F.1 F.2.1 dX7_wantsOf_65 (by decide) ?_
      refine topK (a := 0) (by decide) (fun k_48 hk_48 => ?_)
      exact txI F hS dX7_wantsOf_66 rfl (⟨(wkb (eqb hk_48) rfl rfl), hH⟩)
  · skip
    have r_4 : 14 ≤ a1.toInt ∧ a1.toInt ≤ 17 := by have h9_ := ha1; omega
    refine lv_aload_n F.1 F.2.1 dX7_wantsOf_6 rfl (lv_at hl 0 rfl) ?_
    refine lv_iload_n F.1 F.2.1 dX7_wantsOf_7 rfl (lv_at hl 1 rfl) ?_
    refine lv_bipush (v := 14) F.1 F.2.1 dX7_wantsOf_8 (by decide) ?_
    refine topK (a := 14) (by decide) (fun k_49 hk_49 => ?_)
    refine tSub (lo := 0) (hi := 3) F dX7_wantsOf_10 r_4 (eqb hk_49) rfl (fun z_50 hz_50 => ?_)
    refine lv_iconst (v := 2) F.1 F.2.1 dX7_wantsOf_11 (by decide) ?_
    refine topK (a := 2) (by decide) (fun k_51 hk_51 => ?_)
    refine tVi (b := a0) (As := [.int z_50, .int k_51]) (rest := []) F hK hN hO (c_X7_ofStore_2 E ws kp as rd sc ty ik un tk xt tp sp wrb nu nab iwb X0 a0 z_50 k_51 ha0 hz_50.2 (eqb hk_51) ((hX0).1)) mv_X7_ofStore wd_27_0 ⟨Nat.le_of_ble_eq_true rfl, Nat.le_of_ble_eq_true rfl⟩ ⟨Nat.le_of_ble_eq_true rfl, Nat.le_of_ble_eq_true rfl⟩ hH hS (tRecv hK hH (tyb ha0 (all1 rfl)) clX7) rfl hl.1 (Nat.le_of_ble_eq_true rfl) dX7_wantsOf_12 (fun z_52 H locs hq hS => ?_)
    obtain ⟨f_53, f_54, hH⟩ := hq
    have hH : TH E (tbM (mD (.inl tp) (.inl sp) (.inl nu) (.inl un) (.inl tk) (.inl xt) (.inl wrb) (.inl nab) (.inl iwb)) (xD 660 X0) ws kp as rd sc ty ik) H := hH
    refine lv_aload_n F.1 F.2.1 dX7_wantsOf_15 rfl (lv_at hl 0 rfl) ?_
    refine lv_iload_n F.1 F.2.1 dX7_wantsOf_16 rfl (lv_at hl 1 rfl) ?_
    refine lv_bipush (v := 14) F.1 F.2.1 dX7_wantsOf_17 (by decide) ?_
    refine topK (a := 14) (by decide) (fun k_55 hk_55 => ?_)
    refine tSub (lo := 0) (hi := 3) F dX7_wantsOf_19 r_4 (eqb hk_55) rfl (fun z_56 hz_56 => ?_)
    refine lv_iconst (v := 1) F.1 F.2.1 dX7_wantsOf_20 (by decide) ?_
    refine topK (a := 1) (by decide) (fun k_57 hk_57 => ?_)
    refine tVi (b := a0) (As := [.int z_56, .int k_57]) (rest := [.int z_52]) F hK hN hO (c_X7_ofStore_1 E ws kp as rd sc ty ik un tk xt tp sp wrb nu nab iwb X0 a0 z_56 k_57 ha0 hz_56.2 (eqb hk_57) ((hX0).1)) mv_X7_ofStore wd_27_0 ⟨Nat.le_of_ble_eq_true rfl, Nat.le_of_ble_eq_true rfl⟩ ⟨Nat.le_of_ble_eq_true rfl, Nat.le_of_ble_eq_true rfl⟩ hH hS (tRecv hK hH (tyb ha0 (all1 rfl)) clX7) rfl hl.1 (Nat.le_of_ble_eq_true rfl) dX7_wantsOf_21 (fun z_58 H locs hq hS => ?_)
    obtain ⟨f_59, f_60, hH⟩ := hq
    have hH : TH E (tbM (mD (.inl tp) (.inl sp) (.inl nu) (.inl un) (.inl tk) (.inl xt) (.inl wrb) (.inl nab) (.inl iwb)) (xD 660 X0) ws kp as rd sc ty ik) H := hH
    refine lv_aload_n F.1 F.2.1 dX7_wantsOf_24 rfl (lv_at hl 0 rfl) ?_
    refine lv_iload_n F.1 F.2.1 dX7_wantsOf_25 rfl (lv_at hl 1 rfl) ?_
    refine lv_bipush (v := 14) F.1 F.2.1 dX7_wantsOf_26 (by decide) ?_
    refine topK (a := 14) (by decide) (fun k_61 hk_61 => ?_)
    refine tSub (lo := 0) (hi := 3) F dX7_wantsOf_28 r_4 (eqb hk_61) rfl (fun z_62 hz_62 => ?_)
    refine lv_iconst (v := 4) F.1 F.2.1 dX7_wantsOf_29 (by decide) ?_
    refine topK (a := 4) (by decide) (fun k_63 hk_63 => ?_)
    refine tVi (b := a0) (As := [.int z_62, .int k_63]) (rest := [.int z_58, .int z_52]) F hK hN hO (c_X7_ofStore_4 E ws kp as rd sc ty ik un tk xt tp sp wrb nu nab iwb X0 a0 z_62 k_63 ha0 hz_62.2 (eqb hk_63) ((hX0).1)) mv_X7_ofStore wd_27_0 ⟨Nat.le_of_ble_eq_true rfl, Nat.le_of_ble_eq_true rfl⟩ ⟨Nat.le_of_ble_eq_true rfl, Nat.le_of_ble_eq_true rfl⟩ hH hS (tRecv hK hH (tyb ha0 (all1 rfl)) clX7) rfl hl.1 (Nat.le_of_ble_eq_true rfl) dX7_wantsOf_30 (fun z_64 H locs hq hS => ?_)
    obtain ⟨f_65, f_66, hH⟩ := hq
    have hH : TH E (tbM (mD (.inl tp) (.inl sp) (.inl nu) (.inl un) (.inl tk) (.inl xt) (.inl wrb) (.inl nab) (.inl iwb)) (xD 660 X0) ws kp as rd sc ty ik) H := hH
    refine lv_isub F.1 F.2.1 dX7_wantsOf_33 ?_
    refine topF (fun z_67 => ?_)
    refine tSi (As := [.int z_52, .int z_67]) (rest := []) F hK hN hO (c_X7_least E (mD (.inl tp) (.inl sp) (.inl nu) (.inl un) (.inl tk) (.inl xt) (.inl wrb) (.inl nab) (.inl iwb)) (xD 660 X0) ws kp as rd sc ty ik z_52 z_67) ms_X7_least wd_27_15 ⟨Nat.le_of_ble_eq_true rfl, Nat.le_of_ble_eq_true rfl⟩ ⟨Nat.le_of_ble_eq_true rfl, Nat.le_of_ble_eq_true rfl⟩ hH hS rfl hl.1 (Nat.le_of_ble_eq_true rfl) dX7_wantsOf_34 (fun z_68 H locs hq hS => ?_)
    obtain ⟨f_69, f_70, hH⟩ := hq
    have hH : TH E (tbM (mD (.inl tp) (.inl sp) (.inl nu) (.inl un) (.inl tk) (.inl xt) (.inl wrb) (.inl nab) (.inl iwb)) (xD 660 X0) ws kp as rd sc ty ik) H := hH
    have ez_68 : (-2147483648) ≤ z_68.toInt ∧ z_68.toInt ≤ 9999 := by omega
    exact txI F hS dX7_wantsOf_37 rfl (⟨ez_68, hH⟩)
