theorem dX7_tell_0 : decode cX7_tell 0 = .ok (.aload_n 0, 1) := by decide +kernel
theorem dX7_tell_1 : decode cX7_tell 1 = .ok (.invokevirtual 423, 3) := by decide +kernel
theorem dX7_tell_4 : decode cX7_tell 4 = .ok (.istore_n 1, 1) := by decide +kernel
theorem dX7_tell_5 : decode cX7_tell 5 = .ok (.aload_n 0, 1) := by decide +kernel
theorem dX7_tell_6 : decode cX7_tell 6 = .ok (.iconst 0, 1) := by decide +kernel
theorem dX7_tell_7 : decode cX7_tell 7 = .ok (.putfield 292, 3) := by decide +kernel
theorem dX7_tell_10 : decode cX7_tell 10 = .ok (.iload_n 1, 1) := by decide +kernel
theorem dX7_tell_11 : decode cX7_tell 11 = .ok (.ifCond .ne 11, 3) := by decide +kernel
theorem dX7_tell_14 : decode cX7_tell 14 = .ok (.bipush (-2), 2) := by decide +kernel
theorem dX7_tell_16 : decode cX7_tell 16 = .ok (.aload_n 0, 1) := by decide +kernel
theorem dX7_tell_17 : decode cX7_tell 17 = .ok (.getfield 324, 3) := by decide +kernel
theorem dX7_tell_20 : decode cX7_tell 20 = .ok (.isub, 1) := by decide +kernel
theorem dX7_tell_21 : decode cX7_tell 21 = .ok (.ireturn, 1) := by decide +kernel
theorem dX7_tell_22 : decode cX7_tell 22 = .ok (.iconst 0, 1) := by decide +kernel
theorem dX7_tell_23 : decode cX7_tell 23 = .ok (.istore_n 2, 1) := by decide +kernel
theorem dX7_tell_24 : decode cX7_tell 24 = .ok (.iload_n 2, 1) := by decide +kernel
theorem dX7_tell_25 : decode cX7_tell 25 = .ok (.sipush 660, 3) := by decide +kernel
theorem dX7_tell_28 : decode cX7_tell 28 = .ok (.if_icmp .ge 21, 3) := by decide +kernel
theorem dX7_tell_31 : decode cX7_tell 31 = .ok (.aload_n 0, 1) := by decide +kernel
theorem dX7_tell_32 : decode cX7_tell 32 = .ok (.getfield 7, 3) := by decide +kernel
theorem dX7_tell_35 : decode cX7_tell 35 = .ok (.iload_n 2, 1) := by decide +kernel
theorem dX7_tell_36 : decode cX7_tell 36 = .ok (.aload_n 0, 1) := by decide +kernel
theorem dX7_tell_37 : decode cX7_tell 37 = .ok (.getfield 83, 3) := by decide +kernel
theorem dX7_tell_40 : decode cX7_tell 40 = .ok (.iload_n 2, 1) := by decide +kernel
theorem dX7_tell_41 : decode cX7_tell 41 = .ok (.iaload, 1) := by decide +kernel
theorem dX7_tell_42 : decode cX7_tell 42 = .ok (.iastore, 1) := by decide +kernel
theorem dX7_tell_43 : decode cX7_tell 43 = .ok (.iinc 2 1, 3) := by decide +kernel
theorem dX7_tell_46 : decode cX7_tell 46 = .ok (.goto (-22), 3) := by decide +kernel
theorem dX7_tell_49 : decode cX7_tell 49 = .ok (.iconst 0, 1) := by decide +kernel
theorem dX7_tell_50 : decode cX7_tell 50 = .ok (.istore_n 2, 1) := by decide +kernel
theorem dX7_tell_51 : decode cX7_tell 51 = .ok (.iload_n 2, 1) := by decide +kernel
theorem dX7_tell_52 : decode cX7_tell 52 = .ok (.bipush 6, 2) := by decide +kernel
theorem dX7_tell_54 : decode cX7_tell 54 = .ok (.if_icmp .ge 16, 3) := by decide +kernel
theorem dX7_tell_57 : decode cX7_tell 57 = .ok (.aload_n 0, 1) := by decide +kernel
theorem dX7_tell_58 : decode cX7_tell 58 = .ok (.getfield 13, 3) := by decide +kernel
theorem dX7_tell_61 : decode cX7_tell 61 = .ok (.iload_n 2, 1) := by decide +kernel
theorem dX7_tell_62 : decode cX7_tell 62 = .ok (.lconst 0, 1) := by decide +kernel
theorem dX7_tell_63 : decode cX7_tell 63 = .ok (.lastore, 1) := by decide +kernel
theorem dX7_tell_64 : decode cX7_tell 64 = .ok (.iinc 2 1, 3) := by decide +kernel
theorem dX7_tell_67 : decode cX7_tell 67 = .ok (.goto (-16), 3) := by decide +kernel
theorem dX7_tell_70 : decode cX7_tell 70 = .ok (.aload_n 0, 1) := by decide +kernel
theorem dX7_tell_71 : decode cX7_tell 71 = .ok (.iconst 0, 1) := by decide +kernel
theorem dX7_tell_72 : decode cX7_tell 72 = .ok (.putfield 289, 3) := by decide +kernel
theorem dX7_tell_75 : decode cX7_tell 75 = .ok (.aload_n 0, 1) := by decide +kernel
theorem dX7_tell_76 : decode cX7_tell 76 = .ok (.invokevirtual 100, 3) := by decide +kernel
theorem dX7_tell_79 : decode cX7_tell 79 = .ok (.ireturn, 1) := by decide +kernel
theorem dX7_puts_0 : decode cX7_puts 0 = .ok (.bipush 24, 2) := by decide +kernel
theorem dX7_puts_2 : decode cX7_puts 2 = .ok (.istore_n 2, 1) := by decide +kernel
theorem dX7_puts_3 : decode cX7_puts 3 = .ok (.iload_n 2, 1) := by decide +kernel
theorem dX7_puts_4 : decode cX7_puts 4 = .ok (.ifCond .lt 32, 3) := by decide +kernel
theorem dX7_puts_7 : decode cX7_puts 7 = .ok (.aload_n 0, 1) := by decide +kernel
theorem dX7_puts_8 : decode cX7_puts 8 = .ok (.getfield 79, 3) := by decide +kernel
theorem dX7_puts_11 : decode cX7_puts 11 = .ok (.aload_n 0, 1) := by decide +kernel
theorem dX7_puts_12 : decode cX7_puts 12 = .ok (.getfield 292, 3) := by decide +kernel
theorem dX7_puts_15 : decode cX7_puts 15 = .ok (.iload_n 1, 1) := by decide +kernel
theorem dX7_puts_16 : decode cX7_puts 16 = .ok (.iload_n 2, 1) := by decide +kernel
theorem dX7_puts_17 : decode cX7_puts 17 = .ok (.ishr, 1) := by decide +kernel
theorem dX7_puts_18 : decode cX7_puts 18 = .ok (.i2b, 1) := by decide +kernel
theorem dX7_puts_19 : decode cX7_puts 19 = .ok (.bastore, 1) := by decide +kernel
theorem dX7_puts_20 : decode cX7_puts 20 = .ok (.aload_n 0, 1) := by decide +kernel
theorem dX7_puts_21 : decode cX7_puts 21 = .ok (.dup, 1) := by decide +kernel
theorem dX7_puts_22 : decode cX7_puts 22 = .ok (.getfield 292, 3) := by decide +kernel
theorem dX7_puts_25 : decode cX7_puts 25 = .ok (.iconst 1, 1) := by decide +kernel
theorem dX7_puts_26 : decode cX7_puts 26 = .ok (.iadd, 1) := by decide +kernel
theorem dX7_puts_27 : decode cX7_puts 27 = .ok (.putfield 292, 3) := by decide +kernel
theorem dX7_puts_30 : decode cX7_puts 30 = .ok (.iinc 2 (-8), 3) := by decide +kernel
theorem dX7_puts_33 : decode cX7_puts 33 = .ok (.goto (-30), 3) := by decide +kernel
theorem dX7_puts_36 : decode cX7_puts 36 = .ok (.return_, 1) := by decide +kernel
theorem dX7_feed_0 : decode cX7_feed 0 = .ok (.aload_n 0, 1) := by decide +kernel
theorem dX7_feed_1 : decode cX7_feed 1 = .ok (.getfield 292, 3) := by decide +kernel
theorem dX7_feed_4 : decode cX7_feed 4 = .ok (.sipush 380, 3) := by decide +kernel
theorem dX7_feed_7 : decode cX7_feed 7 = .ok (.if_icmp .le 5, 3) := by decide +kernel
theorem dX7_feed_10 : decode cX7_feed 10 = .ok (.iconst (-1), 1) := by decide +kernel
theorem dX7_feed_11 : decode cX7_feed 11 = .ok (.ireturn, 1) := by decide +kernel
theorem dX7_feed_12 : decode cX7_feed 12 = .ok (.aload_n 0, 1) := by decide +kernel
theorem dX7_feed_13 : decode cX7_feed 13 = .ok (.iload_n 1, 1) := by decide +kernel
theorem dX7_feed_14 : decode cX7_feed 14 = .ok (.invokevirtual 315, 3) := by decide +kernel
theorem dX7_feed_17 : decode cX7_feed 17 = .ok (.aload_n 0, 1) := by decide +kernel
theorem dX7_feed_18 : decode cX7_feed 18 = .ok (.iload_n 2, 1) := by decide +kernel
theorem dX7_feed_19 : decode cX7_feed 19 = .ok (.invokevirtual 315, 3) := by decide +kernel
theorem dX7_feed_22 : decode cX7_feed 22 = .ok (.aload_n 0, 1) := by decide +kernel
theorem dX7_feed_23 : decode cX7_feed 23 = .ok (.iload_n 3, 1) := by decide +kernel
theorem dX7_feed_24 : decode cX7_feed 24 = .ok (.invokevirtual 315, 3) := by decide +kernel
theorem dX7_feed_27 : decode cX7_feed 27 = .ok (.aload_n 0, 1) := by decide +kernel
theorem dX7_feed_28 : decode cX7_feed 28 = .ok (.iload 4, 2) := by decide +kernel
theorem dX7_feed_30 : decode cX7_feed 30 = .ok (.invokevirtual 315, 3) := by decide +kernel
theorem dX7_feed_33 : decode cX7_feed 33 = .ok (.aload_n 0, 1) := by decide +kernel
theorem dX7_feed_34 : decode cX7_feed 34 = .ok (.iload 5, 2) := by decide +kernel
theorem dX7_feed_36 : decode cX7_feed 36 = .ok (.invokevirtual 315, 3) := by decide +kernel
theorem dX7_feed_39 : decode cX7_feed 39 = .ok (.aload_n 0, 1) := by decide +kernel
theorem dX7_feed_40 : decode cX7_feed 40 = .ok (.getfield 292, 3) := by decide +kernel
theorem dX7_feed_43 : decode cX7_feed 43 = .ok (.ireturn, 1) := by decide +kernel
theorem dX7_end_0 : decode cX7_end 0 = .ok (.iload_n 1, 1) := by decide +kernel
theorem dX7_end_1 : decode cX7_end 1 = .ok (.i2l, 1) := by decide +kernel
theorem dX7_end_2 : decode cX7_end 2 = .ok (.lconst 0, 1) := by decide +kernel
theorem dX7_end_3 : decode cX7_end 3 = .ok (.aload_n 0, 1) := by decide +kernel
theorem dX7_end_4 : decode cX7_end 4 = .ok (.getfield 292, 3) := by decide +kernel
theorem dX7_end_7 : decode cX7_end 7 = .ok (.i2l, 1) := by decide +kernel
theorem dX7_end_8 : decode cX7_end 8 = .ok (.invokestatic 96, 3) := by decide +kernel
theorem dX7_end_11 : decode cX7_end 11 = .ok (.ifCond .ne 5, 3) := by decide +kernel
theorem dX7_end_14 : decode cX7_end 14 = .ok (.iconst (-1), 1) := by decide +kernel
theorem dX7_end_15 : decode cX7_end 15 = .ok (.ireturn, 1) := by decide +kernel
theorem dX7_end_16 : decode cX7_end 16 = .ok (.aload_n 0, 1) := by decide +kernel
theorem dX7_end_17 : decode cX7_end 17 = .ok (.iload_n 1, 1) := by decide +kernel
theorem dX7_end_18 : decode cX7_end 18 = .ok (.putfield 292, 3) := by decide +kernel
theorem dX7_end_21 : decode cX7_end 21 = .ok (.iload_n 1, 1) := by decide +kernel
theorem dX7_end_22 : decode cX7_end 22 = .ok (.ireturn, 1) := by decide +kernel
theorem dX7_spell_0 : decode cX7_spell 0 = .ok (.aload_n 0, 1) := by decide +kernel
theorem dX7_spell_1 : decode cX7_spell 1 = .ok (.getfield 426, 3) := by decide +kernel
theorem dX7_spell_4 : decode cX7_spell 4 = .ok (.aload_n 0, 1) := by decide +kernel
theorem dX7_spell_5 : decode cX7_spell 5 = .ok (.getfield 429, 3) := by decide +kernel
theorem dX7_spell_8 : decode cX7_spell 8 = .ok (.if_icmp .ne 8, 3) := by decide +kernel
theorem dX7_spell_11 : decode cX7_spell 11 = .ok (.aload_n 0, 1) := by decide +kernel
theorem dX7_spell_12 : decode cX7_spell 12 = .ok (.iload_n 1, 1) := by decide +kernel
theorem dX7_spell_13 : decode cX7_spell 13 = .ok (.putfield 432, 3) := by decide +kernel
theorem dX7_spell_16 : decode cX7_spell 16 = .ok (.aload_n 0, 1) := by decide +kernel
theorem dX7_spell_17 : decode cX7_spell 17 = .ok (.dup, 1) := by decide +kernel
theorem dX7_spell_18 : decode cX7_spell 18 = .ok (.getfield 426, 3) := by decide +kernel
theorem dX7_spell_21 : decode cX7_spell 21 = .ok (.iconst 1, 1) := by decide +kernel
theorem dX7_spell_22 : decode cX7_spell 22 = .ok (.iadd, 1) := by decide +kernel
theorem dX7_spell_23 : decode cX7_spell 23 = .ok (.putfield 426, 3) := by decide +kernel
theorem dX7_spell_26 : decode cX7_spell 26 = .ok (.return_, 1) := by decide +kernel
theorem dX7_spellWord_0 : decode cX7_spellWord 0 = .ok (.iconst 0, 1) := by decide +kernel
theorem dX7_spellWord_1 : decode cX7_spellWord 1 = .ok (.istore_n 2, 1) := by decide +kernel
theorem dX7_spellWord_2 : decode cX7_spellWord 2 = .ok (.iload_n 2, 1) := by decide +kernel
theorem dX7_spellWord_3 : decode cX7_spellWord 3 = .ok (.aload_n 1, 1) := by decide +kernel
theorem dX7_spellWord_4 : decode cX7_spellWord 4 = .ok (.invokevirtual 330, 3) := by decide +kernel
theorem dX7_spellWord_7 : decode cX7_spellWord 7 = .ok (.if_icmp .ge 18, 3) := by decide +kernel
theorem dX7_spellWord_10 : decode cX7_spellWord 10 = .ok (.aload_n 0, 1) := by decide +kernel
theorem dX7_spellWord_11 : decode cX7_spellWord 11 = .ok (.aload_n 1, 1) := by decide +kernel
theorem dX7_spellWord_12 : decode cX7_spellWord 12 = .ok (.iload_n 2, 1) := by decide +kernel
theorem dX7_spellWord_13 : decode cX7_spellWord 13 = .ok (.invokevirtual 335, 3) := by decide +kernel
theorem dX7_spellWord_16 : decode cX7_spellWord 16 = .ok (.invokevirtual 435, 3) := by decide +kernel
theorem dX7_spellWord_19 : decode cX7_spellWord 19 = .ok (.iinc 2 1, 3) := by decide +kernel
theorem dX7_spellWord_22 : decode cX7_spellWord 22 = .ok (.goto (-20), 3) := by decide +kernel
theorem dX7_spellWord_25 : decode cX7_spellWord 25 = .ok (.return_, 1) := by decide +kernel
theorem dX7_spellPart_0 : decode cX7_spellPart 0 = .ok (.aload_n 0, 1) := by decide +kernel
theorem dX7_spellPart_1 : decode cX7_spellPart 1 = .ok (.getfield 426, 3) := by decide +kernel
theorem dX7_spellPart_4 : decode cX7_spellPart 4 = .ok (.ifCond .le 9, 3) := by decide +kernel
theorem dX7_spellPart_7 : decode cX7_spellPart 7 = .ok (.aload_n 0, 1) := by decide +kernel
theorem dX7_spellPart_8 : decode cX7_spellPart 8 = .ok (.bipush 59, 2) := by decide +kernel
theorem dX7_spellPart_10 : decode cX7_spellPart 10 = .ok (.invokevirtual 435, 3) := by decide +kernel
theorem dX7_spellPart_13 : decode cX7_spellPart 13 = .ok (.aload_n 0, 1) := by decide +kernel
theorem dX7_spellPart_14 : decode cX7_spellPart 14 = .ok (.aload_n 1, 1) := by decide +kernel
theorem dX7_spellPart_15 : decode cX7_spellPart 15 = .ok (.invokevirtual 438, 3) := by decide +kernel
theorem dX7_spellPart_18 : decode cX7_spellPart 18 = .ok (.return_, 1) := by decide +kernel
theorem dX7_spellNumber_0 : decode cX7_spellNumber 0 = .ok (.aload_n 0, 1) := by decide +kernel
theorem dX7_spellNumber_1 : decode cX7_spellNumber 1 = .ok (.bipush 32, 2) := by decide +kernel
theorem dX7_spellNumber_3 : decode cX7_spellNumber 3 = .ok (.invokevirtual 435, 3) := by decide +kernel
theorem dX7_spellNumber_6 : decode cX7_spellNumber 6 = .ok (.iconst 1, 1) := by decide +kernel
theorem dX7_spellNumber_7 : decode cX7_spellNumber 7 = .ok (.istore_n 2, 1) := by decide +kernel
theorem dX7_spellNumber_8 : decode cX7_spellNumber 8 = .ok (.iload_n 1, 1) := by decide +kernel
theorem dX7_spellNumber_9 : decode cX7_spellNumber 9 = .ok (.iload_n 2, 1) := by decide +kernel
theorem dX7_spellNumber_10 : decode cX7_spellNumber 10 = .ok (.idiv, 1) := by decide +kernel
theorem dX7_spellNumber_11 : decode cX7_spellNumber 11 = .ok (.bipush 10, 2) := by decide +kernel
theorem dX7_spellNumber_13 : decode cX7_spellNumber 13 = .ok (.if_icmp .lt 11, 3) := by decide +kernel
theorem dX7_spellNumber_16 : decode cX7_spellNumber 16 = .ok (.iload_n 2, 1) := by decide +kernel
theorem dX7_spellNumber_17 : decode cX7_spellNumber 17 = .ok (.bipush 10, 2) := by decide +kernel
theorem dX7_spellNumber_19 : decode cX7_spellNumber 19 = .ok (.imul, 1) := by decide +kernel
theorem dX7_spellNumber_20 : decode cX7_spellNumber 20 = .ok (.istore_n 2, 1) := by decide +kernel
theorem dX7_spellNumber_21 : decode cX7_spellNumber 21 = .ok (.goto (-13), 3) := by decide +kernel
theorem dX7_spellNumber_24 : decode cX7_spellNumber 24 = .ok (.iload_n 2, 1) := by decide +kernel
theorem dX7_spellNumber_25 : decode cX7_spellNumber 25 = .ok (.ifCond .le 24, 3) := by decide +kernel
theorem dX7_spellNumber_28 : decode cX7_spellNumber 28 = .ok (.aload_n 0, 1) := by decide +kernel
theorem dX7_spellNumber_29 : decode cX7_spellNumber 29 = .ok (.bipush 48, 2) := by decide +kernel
theorem dX7_spellNumber_31 : decode cX7_spellNumber 31 = .ok (.iload_n 1, 1) := by decide +kernel
theorem dX7_spellNumber_32 : decode cX7_spellNumber 32 = .ok (.iload_n 2, 1) := by decide +kernel
theorem dX7_spellNumber_33 : decode cX7_spellNumber 33 = .ok (.idiv, 1) := by decide +kernel
theorem dX7_spellNumber_34 : decode cX7_spellNumber 34 = .ok (.bipush 10, 2) := by decide +kernel
theorem dX7_spellNumber_36 : decode cX7_spellNumber 36 = .ok (.irem, 1) := by decide +kernel
theorem dX7_spellNumber_37 : decode cX7_spellNumber 37 = .ok (.iadd, 1) := by decide +kernel
theorem dX7_spellNumber_38 : decode cX7_spellNumber 38 = .ok (.invokevirtual 435, 3) := by decide +kernel
theorem dX7_spellNumber_41 : decode cX7_spellNumber 41 = .ok (.iload_n 2, 1) := by decide +kernel
theorem dX7_spellNumber_42 : decode cX7_spellNumber 42 = .ok (.bipush 10, 2) := by decide +kernel
theorem dX7_spellNumber_44 : decode cX7_spellNumber 44 = .ok (.idiv, 1) := by decide +kernel
theorem dX7_spellNumber_45 : decode cX7_spellNumber 45 = .ok (.istore_n 2, 1) := by decide +kernel
theorem dX7_spellNumber_46 : decode cX7_spellNumber 46 = .ok (.goto (-22), 3) := by decide +kernel
theorem dX7_spellNumber_49 : decode cX7_spellNumber 49 = .ok (.return_, 1) := by decide +kernel
theorem dX7_spellReach_0 : decode cX7_spellReach 0 = .ok (.aload_n 0, 1) := by decide +kernel
theorem dX7_spellReach_1 : decode cX7_spellReach 1 = .ok (.ldc_w 370, 3) := by decide +kernel
theorem dX7_spellReach_4 : decode cX7_spellReach 4 = .ok (.invokevirtual 442, 3) := by decide +kernel
theorem dX7_spellReach_7 : decode cX7_spellReach 7 = .ok (.aload_n 0, 1) := by decide +kernel
theorem dX7_spellReach_8 : decode cX7_spellReach 8 = .ok (.iload_n 1, 1) := by decide +kernel
theorem dX7_spellReach_9 : decode cX7_spellReach 9 = .ok (.iconst 0, 1) := by decide +kernel
theorem dX7_spellReach_10 : decode cX7_spellReach 10 = .ok (.invokevirtual 106, 3) := by decide +kernel
theorem dX7_spellReach_13 : decode cX7_spellReach 13 = .ok (.iconst (-1), 1) := by decide +kernel
theorem dX7_spellReach_14 : decode cX7_spellReach 14 = .ok (.if_icmp .ne 13, 3) := by decide +kernel
theorem dX7_spellReach_17 : decode cX7_spellReach 17 = .ok (.aload_n 0, 1) := by decide +kernel
theorem dX7_spellReach_18 : decode cX7_spellReach 18 = .ok (.ldc_w 445, 3) := by decide +kernel
theorem dX7_spellReach_21 : decode cX7_spellReach 21 = .ok (.invokevirtual 438, 3) := by decide +kernel
theorem dX7_spellReach_24 : decode cX7_spellReach 24 = .ok (.goto 13, 3) := by decide +kernel
theorem dX7_spellReach_27 : decode cX7_spellReach 27 = .ok (.aload_n 0, 1) := by decide +kernel
theorem dX7_spellReach_28 : decode cX7_spellReach 28 = .ok (.aload_n 0, 1) := by decide +kernel
theorem dX7_spellReach_29 : decode cX7_spellReach 29 = .ok (.iload_n 1, 1) := by decide +kernel
theorem dX7_spellReach_30 : decode cX7_spellReach 30 = .ok (.iconst 0, 1) := by decide +kernel
theorem dX7_spellReach_31 : decode cX7_spellReach 31 = .ok (.invokevirtual 106, 3) := by decide +kernel
theorem dX7_spellReach_34 : decode cX7_spellReach 34 = .ok (.invokevirtual 447, 3) := by decide +kernel
theorem dX7_spellReach_37 : decode cX7_spellReach 37 = .ok (.iconst 0, 1) := by decide +kernel
theorem dX7_spellReach_38 : decode cX7_spellReach 38 = .ok (.istore_n 2, 1) := by decide +kernel
theorem dX7_spellReach_39 : decode cX7_spellReach 39 = .ok (.iload_n 2, 1) := by decide +kernel
theorem dX7_spellReach_40 : decode cX7_spellReach 40 = .ok (.iconst 4, 1) := by decide +kernel
theorem dX7_spellReach_41 : decode cX7_spellReach 41 = .ok (.if_icmp .ge 21, 3) := by decide +kernel
theorem dX7_spellReach_44 : decode cX7_spellReach 44 = .ok (.aload_n 0, 1) := by decide +kernel
theorem dX7_spellReach_45 : decode cX7_spellReach 45 = .ok (.aload_n 0, 1) := by decide +kernel
theorem dX7_spellReach_46 : decode cX7_spellReach 46 = .ok (.iload_n 1, 1) := by decide +kernel
theorem dX7_spellReach_47 : decode cX7_spellReach 47 = .ok (.iconst 2, 1) := by decide +kernel
theorem dX7_spellReach_48 : decode cX7_spellReach 48 = .ok (.iload_n 2, 1) := by decide +kernel
theorem dX7_spellReach_49 : decode cX7_spellReach 49 = .ok (.iadd, 1) := by decide +kernel
theorem dX7_spellReach_50 : decode cX7_spellReach 50 = .ok (.invokevirtual 106, 3) := by decide +kernel
theorem dX7_spellReach_53 : decode cX7_spellReach 53 = .ok (.invokevirtual 447, 3) := by decide +kernel
theorem dX7_spellReach_56 : decode cX7_spellReach 56 = .ok (.iinc 2 1, 3) := by decide +kernel
theorem dX7_spellReach_59 : decode cX7_spellReach 59 = .ok (.goto (-20), 3) := by decide +kernel
theorem dX7_spellReach_62 : decode cX7_spellReach 62 = .ok (.aload_n 0, 1) := by decide +kernel
theorem dX7_spellReach_63 : decode cX7_spellReach 63 = .ok (.iload_n 1, 1) := by decide +kernel
theorem dX7_spellReach_64 : decode cX7_spellReach 64 = .ok (.iconst 1, 1) := by decide +kernel
theorem dX7_spellReach_65 : decode cX7_spellReach 65 = .ok (.invokevirtual 106, 3) := by decide +kernel
theorem dX7_spellReach_68 : decode cX7_spellReach 68 = .ok (.ifCond .ne 4, 3) := by decide +kernel
theorem dX7_spellReach_71 : decode cX7_spellReach 71 = .ok (.return_, 1) := by decide +kernel
theorem dX7_spellReach_72 : decode cX7_spellReach 72 = .ok (.aload_n 0, 1) := by decide +kernel
theorem dX7_spellReach_73 : decode cX7_spellReach 73 = .ok (.ldc_w 450, 3) := by decide +kernel
theorem dX7_spellReach_76 : decode cX7_spellReach 76 = .ok (.invokevirtual 438, 3) := by decide +kernel
theorem dX7_spellReach_79 : decode cX7_spellReach 79 = .ok (.aload_n 0, 1) := by decide +kernel
theorem dX7_spellReach_80 : decode cX7_spellReach 80 = .ok (.aload_n 0, 1) := by decide +kernel
theorem dX7_spellReach_81 : decode cX7_spellReach 81 = .ok (.iload_n 1, 1) := by decide +kernel
theorem dX7_spellReach_82 : decode cX7_spellReach 82 = .ok (.iconst 1, 1) := by decide +kernel
theorem dX7_spellReach_83 : decode cX7_spellReach 83 = .ok (.invokevirtual 106, 3) := by decide +kernel
theorem dX7_spellReach_86 : decode cX7_spellReach 86 = .ok (.invokevirtual 447, 3) := by decide +kernel
theorem dX7_spellReach_89 : decode cX7_spellReach 89 = .ok (.return_, 1) := by decide +kernel
theorem dX7_spellRight_0 : decode cX7_spellRight 0 = .ok (.aload_n 0, 1) := by decide +kernel
theorem dX7_spellRight_1 : decode cX7_spellRight 1 = .ok (.ldc_w 390, 3) := by decide +kernel
theorem dX7_spellRight_4 : decode cX7_spellRight 4 = .ok (.invokevirtual 442, 3) := by decide +kernel
theorem dX7_spellRight_7 : decode cX7_spellRight 7 = .ok (.iconst 0, 1) := by decide +kernel
theorem dX7_spellRight_8 : decode cX7_spellRight 8 = .ok (.istore_n 2, 1) := by decide +kernel
theorem dX7_spellRight_9 : decode cX7_spellRight 9 = .ok (.iload_n 2, 1) := by decide +kernel
theorem dX7_spellRight_10 : decode cX7_spellRight 10 = .ok (.iconst 3, 1) := by decide +kernel
theorem dX7_spellRight_11 : decode cX7_spellRight 11 = .ok (.if_icmp .gt 19, 3) := by decide +kernel
theorem dX7_spellRight_14 : decode cX7_spellRight 14 = .ok (.aload_n 0, 1) := by decide +kernel
theorem dX7_spellRight_15 : decode cX7_spellRight 15 = .ok (.aload_n 0, 1) := by decide +kernel
theorem dX7_spellRight_16 : decode cX7_spellRight 16 = .ok (.iload_n 1, 1) := by decide +kernel
theorem dX7_spellRight_17 : decode cX7_spellRight 17 = .ok (.iload_n 2, 1) := by decide +kernel
theorem dX7_spellRight_18 : decode cX7_spellRight 18 = .ok (.invokevirtual 113, 3) := by decide +kernel
theorem dX7_spellRight_21 : decode cX7_spellRight 21 = .ok (.invokevirtual 447, 3) := by decide +kernel
theorem dX7_spellRight_24 : decode cX7_spellRight 24 = .ok (.iinc 2 1, 3) := by decide +kernel
theorem dX7_spellRight_27 : decode cX7_spellRight 27 = .ok (.goto (-18), 3) := by decide +kernel
theorem dX7_spellRight_30 : decode cX7_spellRight 30 = .ok (.aload_n 0, 1) := by decide +kernel
theorem dX7_spellRight_31 : decode cX7_spellRight 31 = .ok (.ldc_w 452, 3) := by decide +kernel
theorem dX7_spellRight_34 : decode cX7_spellRight 34 = .ok (.invokevirtual 438, 3) := by decide +kernel
theorem dX7_spellRight_37 : decode cX7_spellRight 37 = .ok (.aload_n 0, 1) := by decide +kernel
theorem dX7_spellRight_38 : decode cX7_spellRight 38 = .ok (.aload_n 0, 1) := by decide +kernel
theorem dX7_spellRight_39 : decode cX7_spellRight 39 = .ok (.iload_n 1, 1) := by decide +kernel
theorem dX7_spellRight_40 : decode cX7_spellRight 40 = .ok (.iconst 4, 1) := by decide +kernel
theorem dX7_spellRight_41 : decode cX7_spellRight 41 = .ok (.invokevirtual 113, 3) := by decide +kernel
theorem dX7_spellRight_44 : decode cX7_spellRight 44 = .ok (.invokevirtual 447, 3) := by decide +kernel
theorem dX7_spellRight_47 : decode cX7_spellRight 47 = .ok (.aload_n 0, 1) := by decide +kernel
theorem dX7_spellRight_48 : decode cX7_spellRight 48 = .ok (.iload_n 1, 1) := by decide +kernel
theorem dX7_spellRight_49 : decode cX7_spellRight 49 = .ok (.iconst 5, 1) := by decide +kernel
theorem dX7_spellRight_50 : decode cX7_spellRight 50 = .ok (.invokevirtual 113, 3) := by decide +kernel
theorem dX7_spellRight_53 : decode cX7_spellRight 53 = .ok (.bipush (-2), 2) := by decide +kernel
theorem dX7_spellRight_55 : decode cX7_spellRight 55 = .ok (.if_icmp .eq 20, 3) := by decide +kernel
theorem dX7_spellRight_58 : decode cX7_spellRight 58 = .ok (.aload_n 0, 1) := by decide +kernel
theorem dX7_spellRight_59 : decode cX7_spellRight 59 = .ok (.ldc_w 454, 3) := by decide +kernel
theorem dX7_spellRight_62 : decode cX7_spellRight 62 = .ok (.invokevirtual 438, 3) := by decide +kernel
theorem dX7_spellRight_65 : decode cX7_spellRight 65 = .ok (.aload_n 0, 1) := by decide +kernel
theorem dX7_spellRight_66 : decode cX7_spellRight 66 = .ok (.aload_n 0, 1) := by decide +kernel
theorem dX7_spellRight_67 : decode cX7_spellRight 67 = .ok (.iload_n 1, 1) := by decide +kernel
theorem dX7_spellRight_68 : decode cX7_spellRight 68 = .ok (.iconst 5, 1) := by decide +kernel
theorem dX7_spellRight_69 : decode cX7_spellRight 69 = .ok (.invokevirtual 113, 3) := by decide +kernel
theorem dX7_spellRight_72 : decode cX7_spellRight 72 = .ok (.invokevirtual 447, 3) := by decide +kernel
theorem dX7_spellRight_75 : decode cX7_spellRight 75 = .ok (.aload_n 0, 1) := by decide +kernel
theorem dX7_spellRight_76 : decode cX7_spellRight 76 = .ok (.iload_n 1, 1) := by decide +kernel
theorem dX7_spellRight_77 : decode cX7_spellRight 77 = .ok (.bipush 7, 2) := by decide +kernel
theorem dX7_spellRight_79 : decode cX7_spellRight 79 = .ok (.invokevirtual 113, 3) := by decide +kernel
theorem dX7_spellRight_82 : decode cX7_spellRight 82 = .ok (.bipush (-2), 2) := by decide +kernel
theorem dX7_spellRight_84 : decode cX7_spellRight 84 = .ok (.if_icmp .ne 4, 3) := by decide +kernel
theorem dX7_spellRight_87 : decode cX7_spellRight 87 = .ok (.return_, 1) := by decide +kernel
theorem dX7_spellRight_88 : decode cX7_spellRight 88 = .ok (.aload_n 0, 1) := by decide +kernel
theorem dX7_spellRight_89 : decode cX7_spellRight 89 = .ok (.ldc_w 456, 3) := by decide +kernel
theorem dX7_spellRight_92 : decode cX7_spellRight 92 = .ok (.invokevirtual 438, 3) := by decide +kernel
theorem dX7_spellRight_95 : decode cX7_spellRight 95 = .ok (.bipush 7, 2) := by decide +kernel
theorem dX7_spellRight_97 : decode cX7_spellRight 97 = .ok (.istore_n 2, 1) := by decide +kernel
theorem dX7_spellRight_98 : decode cX7_spellRight 98 = .ok (.iload_n 2, 1) := by decide +kernel
theorem dX7_spellRight_99 : decode cX7_spellRight 99 = .ok (.bipush 9, 2) := by decide +kernel
theorem dX7_spellRight_101 : decode cX7_spellRight 101 = .ok (.if_icmp .gt 19, 3) := by decide +kernel
theorem dX7_spellRight_104 : decode cX7_spellRight 104 = .ok (.aload_n 0, 1) := by decide +kernel
theorem dX7_spellRight_105 : decode cX7_spellRight 105 = .ok (.aload_n 0, 1) := by decide +kernel
theorem dX7_spellRight_106 : decode cX7_spellRight 106 = .ok (.iload_n 1, 1) := by decide +kernel
theorem dX7_spellRight_107 : decode cX7_spellRight 107 = .ok (.iload_n 2, 1) := by decide +kernel
theorem dX7_spellRight_108 : decode cX7_spellRight 108 = .ok (.invokevirtual 113, 3) := by decide +kernel
theorem dX7_spellRight_111 : decode cX7_spellRight 111 = .ok (.invokevirtual 447, 3) := by decide +kernel
theorem dX7_spellRight_114 : decode cX7_spellRight 114 = .ok (.iinc 2 1, 3) := by decide +kernel
theorem dX7_spellRight_117 : decode cX7_spellRight 117 = .ok (.goto (-19), 3) := by decide +kernel
theorem dX7_spellRight_120 : decode cX7_spellRight 120 = .ok (.return_, 1) := by decide +kernel
theorem dX7_spellStore_0 : decode cX7_spellStore 0 = .ok (.aload_n 0, 1) := by decide +kernel
theorem dX7_spellStore_1 : decode cX7_spellStore 1 = .ok (.ldc_w 401, 3) := by decide +kernel
theorem dX7_spellStore_4 : decode cX7_spellStore 4 = .ok (.invokevirtual 442, 3) := by decide +kernel
theorem dX7_spellStore_7 : decode cX7_spellStore 7 = .ok (.iconst 0, 1) := by decide +kernel
theorem dX7_spellStore_8 : decode cX7_spellStore 8 = .ok (.istore_n 2, 1) := by decide +kernel
theorem dX7_spellStore_9 : decode cX7_spellStore 9 = .ok (.iload_n 2, 1) := by decide +kernel
theorem dX7_spellStore_10 : decode cX7_spellStore 10 = .ok (.iconst 3, 1) := by decide +kernel
theorem dX7_spellStore_11 : decode cX7_spellStore 11 = .ok (.if_icmp .ge 19, 3) := by decide +kernel
theorem dX7_spellStore_14 : decode cX7_spellStore 14 = .ok (.aload_n 0, 1) := by decide +kernel
theorem dX7_spellStore_15 : decode cX7_spellStore 15 = .ok (.aload_n 0, 1) := by decide +kernel
theorem dX7_spellStore_16 : decode cX7_spellStore 16 = .ok (.iload_n 1, 1) := by decide +kernel
theorem dX7_spellStore_17 : decode cX7_spellStore 17 = .ok (.iload_n 2, 1) := by decide +kernel
theorem dX7_spellStore_18 : decode cX7_spellStore 18 = .ok (.invokevirtual 116, 3) := by decide +kernel
theorem dX7_spellStore_21 : decode cX7_spellStore 21 = .ok (.invokevirtual 447, 3) := by decide +kernel
theorem dX7_spellStore_24 : decode cX7_spellStore 24 = .ok (.iinc 2 1, 3) := by decide +kernel
theorem dX7_spellStore_27 : decode cX7_spellStore 27 = .ok (.goto (-18), 3) := by decide +kernel
theorem dX7_spellStore_30 : decode cX7_spellStore 30 = .ok (.aload_n 0, 1) := by decide +kernel
theorem dX7_spellStore_31 : decode cX7_spellStore 31 = .ok (.ldc_w 452, 3) := by decide +kernel
theorem dX7_spellStore_34 : decode cX7_spellStore 34 = .ok (.invokevirtual 438, 3) := by decide +kernel
theorem dX7_spellStore_37 : decode cX7_spellStore 37 = .ok (.aload_n 0, 1) := by decide +kernel
theorem dX7_spellStore_38 : decode cX7_spellStore 38 = .ok (.aload_n 0, 1) := by decide +kernel
theorem dX7_spellStore_39 : decode cX7_spellStore 39 = .ok (.iload_n 1, 1) := by decide +kernel
theorem dX7_spellStore_40 : decode cX7_spellStore 40 = .ok (.iconst 3, 1) := by decide +kernel
theorem dX7_spellStore_41 : decode cX7_spellStore 41 = .ok (.invokevirtual 116, 3) := by decide +kernel
theorem dX7_spellStore_44 : decode cX7_spellStore 44 = .ok (.invokevirtual 447, 3) := by decide +kernel
theorem dX7_spellStore_47 : decode cX7_spellStore 47 = .ok (.return_, 1) := by decide +kernel
theorem dX7_letter_0 : decode cX7_letter 0 = .ok (.iload_n 1, 1) := by decide +kernel
theorem dX7_letter_1 : decode cX7_letter 1 = .ok (.iconst (-1), 1) := by decide +kernel
theorem dX7_letter_2 : decode cX7_letter 2 = .ok (.if_icmp .ge 5, 3) := by decide +kernel
theorem dX7_letter_5 : decode cX7_letter 5 = .ok (.iconst (-1), 1) := by decide +kernel
theorem dX7_letter_6 : decode cX7_letter 6 = .ok (.ireturn, 1) := by decide +kernel
theorem dX7_letter_7 : decode cX7_letter 7 = .ok (.aload_n 0, 1) := by decide +kernel
theorem dX7_letter_8 : decode cX7_letter 8 = .ok (.iconst 0, 1) := by decide +kernel
theorem dX7_letter_9 : decode cX7_letter 9 = .ok (.putfield 426, 3) := by decide +kernel
theorem dX7_letter_12 : decode cX7_letter 12 = .ok (.aload_n 0, 1) := by decide +kernel
theorem dX7_letter_13 : decode cX7_letter 13 = .ok (.iload_n 1, 1) := by decide +kernel
theorem dX7_letter_14 : decode cX7_letter 14 = .ok (.putfield 429, 3) := by decide +kernel
theorem dX7_letter_17 : decode cX7_letter 17 = .ok (.aload_n 0, 1) := by decide +kernel
theorem dX7_letter_18 : decode cX7_letter 18 = .ok (.bipush (-2), 2) := by decide +kernel
theorem dX7_letter_20 : decode cX7_letter 20 = .ok (.putfield 432, 3) := by decide +kernel
theorem dX7_letter_23 : decode cX7_letter 23 = .ok (.iconst 0, 1) := by decide +kernel
theorem dX7_letter_24 : decode cX7_letter 24 = .ok (.istore_n 2, 1) := by decide +kernel
theorem dX7_letter_25 : decode cX7_letter 25 = .ok (.iload_n 2, 1) := by decide +kernel
theorem dX7_letter_26 : decode cX7_letter 26 = .ok (.aload_n 0, 1) := by decide +kernel
theorem dX7_letter_27 : decode cX7_letter 27 = .ok (.invokevirtual 92, 3) := by decide +kernel
theorem dX7_letter_30 : decode cX7_letter 30 = .ok (.if_icmp .ge 14, 3) := by decide +kernel
theorem dX7_letter_33 : decode cX7_letter 33 = .ok (.aload_n 0, 1) := by decide +kernel
theorem dX7_letter_34 : decode cX7_letter 34 = .ok (.iload_n 2, 1) := by decide +kernel
theorem dX7_letter_35 : decode cX7_letter 35 = .ok (.invokevirtual 458, 3) := by decide +kernel
theorem dX7_letter_38 : decode cX7_letter 38 = .ok (.iinc 2 1, 3) := by decide +kernel
theorem dX7_letter_41 : decode cX7_letter 41 = .ok (.goto (-16), 3) := by decide +kernel
theorem dX7_letter_44 : decode cX7_letter 44 = .ok (.iconst 0, 1) := by decide +kernel
theorem dX7_letter_45 : decode cX7_letter 45 = .ok (.istore_n 2, 1) := by decide +kernel
theorem dX7_letter_46 : decode cX7_letter 46 = .ok (.iload_n 2, 1) := by decide +kernel
theorem dX7_letter_47 : decode cX7_letter 47 = .ok (.aload_n 0, 1) := by decide +kernel
theorem dX7_letter_48 : decode cX7_letter 48 = .ok (.invokevirtual 100, 3) := by decide +kernel
theorem dX7_letter_51 : decode cX7_letter 51 = .ok (.if_icmp .ge 14, 3) := by decide +kernel
theorem dX7_letter_54 : decode cX7_letter 54 = .ok (.aload_n 0, 1) := by decide +kernel
theorem dX7_letter_55 : decode cX7_letter 55 = .ok (.iload_n 2, 1) := by decide +kernel
theorem dX7_letter_56 : decode cX7_letter 56 = .ok (.invokevirtual 461, 3) := by decide +kernel
theorem dX7_letter_59 : decode cX7_letter 59 = .ok (.iinc 2 1, 3) := by decide +kernel
theorem dX7_letter_62 : decode cX7_letter 62 = .ok (.goto (-16), 3) := by decide +kernel
theorem dX7_letter_65 : decode cX7_letter 65 = .ok (.iconst 0, 1) := by decide +kernel
theorem dX7_letter_66 : decode cX7_letter 66 = .ok (.istore_n 2, 1) := by decide +kernel
theorem dX7_letter_67 : decode cX7_letter 67 = .ok (.iload_n 2, 1) := by decide +kernel
theorem dX7_letter_68 : decode cX7_letter 68 = .ok (.aload_n 0, 1) := by decide +kernel
theorem dX7_letter_69 : decode cX7_letter 69 = .ok (.invokevirtual 103, 3) := by decide +kernel
theorem dX7_letter_72 : decode cX7_letter 72 = .ok (.if_icmp .ge 14, 3) := by decide +kernel
theorem dX7_letter_75 : decode cX7_letter 75 = .ok (.aload_n 0, 1) := by decide +kernel
theorem dX7_letter_76 : decode cX7_letter 76 = .ok (.iload_n 2, 1) := by decide +kernel
theorem dX7_letter_77 : decode cX7_letter 77 = .ok (.invokevirtual 464, 3) := by decide +kernel
theorem dX7_letter_80 : decode cX7_letter 80 = .ok (.iinc 2 1, 3) := by decide +kernel
theorem dX7_letter_83 : decode cX7_letter 83 = .ok (.goto (-16), 3) := by decide +kernel
theorem dX7_letter_86 : decode cX7_letter 86 = .ok (.aload_n 0, 1) := by decide +kernel
theorem dX7_letter_87 : decode cX7_letter 87 = .ok (.getfield 7, 3) := by decide +kernel
theorem dX7_letter_90 : decode cX7_letter 90 = .ok (.iconst 4, 1) := by decide +kernel
theorem dX7_letter_91 : decode cX7_letter 91 = .ok (.iaload, 1) := by decide +kernel
theorem dX7_letter_92 : decode cX7_letter 92 = .ok (.bipush 100, 2) := by decide +kernel
theorem dX7_letter_94 : decode cX7_letter 94 = .ok (.if_icmp .eq 20, 3) := by decide +kernel
theorem dX7_letter_97 : decode cX7_letter 97 = .ok (.aload_n 0, 1) := by decide +kernel
theorem dX7_letter_98 : decode cX7_letter 98 = .ok (.ldc_w 415, 3) := by decide +kernel
theorem dX7_letter_101 : decode cX7_letter 101 = .ok (.invokevirtual 442, 3) := by decide +kernel
theorem dX7_letter_104 : decode cX7_letter 104 = .ok (.aload_n 0, 1) := by decide +kernel
theorem dX7_letter_105 : decode cX7_letter 105 = .ok (.aload_n 0, 1) := by decide +kernel
theorem dX7_letter_106 : decode cX7_letter 106 = .ok (.getfield 7, 3) := by decide +kernel
theorem dX7_letter_109 : decode cX7_letter 109 = .ok (.iconst 4, 1) := by decide +kernel
theorem dX7_letter_110 : decode cX7_letter 110 = .ok (.iaload, 1) := by decide +kernel
theorem dX7_letter_111 : decode cX7_letter 111 = .ok (.invokevirtual 447, 3) := by decide +kernel
theorem dX7_letter_114 : decode cX7_letter 114 = .ok (.iload_n 1, 1) := by decide +kernel
theorem dX7_letter_115 : decode cX7_letter 115 = .ok (.iconst (-1), 1) := by decide +kernel
theorem dX7_letter_116 : decode cX7_letter 116 = .ok (.if_icmp .ne 10, 3) := by decide +kernel
theorem dX7_letter_119 : decode cX7_letter 119 = .ok (.aload_n 0, 1) := by decide +kernel
theorem dX7_letter_120 : decode cX7_letter 120 = .ok (.getfield 426, 3) := by decide +kernel
theorem dX7_letter_123 : decode cX7_letter 123 = .ok (.goto 7, 3) := by decide +kernel
theorem dX7_letter_126 : decode cX7_letter 126 = .ok (.aload_n 0, 1) := by decide +kernel
theorem dX7_letter_127 : decode cX7_letter 127 = .ok (.getfield 432, 3) := by decide +kernel
theorem dX7_letter_130 : decode cX7_letter 130 = .ok (.ireturn, 1) := by decide +kernel
theorem mv_X7_puts : MV yX7_puts cX7_puts 3 none 1 := ⟨wd_8_1, wd_7_23, wd_8_0, wd_1_5, by decide, by decide, by decide +kernel⟩
theorem mv_X7_readsAll : MV yX7_readsAll cX7_readsAll 2 (some .boolean) 0 := ⟨wd_15_19, wd_15_17, wd_15_18, wd_1_5, by decide, by decide, by decide +kernel⟩
theorem mv_X7_spell : MV yX7_spell cX7_spell 2 none 1 := ⟨wd_56_2, wd_56_0, wd_56_1, wd_1_5, by decide, by decide, by decide +kernel⟩
theorem mv_X7_spellNumber : MV yX7_spellNumber cX7_spellNumber 3 none 1 := ⟨wd_56_10, wd_56_8, wd_56_9, wd_1_5, by decide, by decide, by decide +kernel⟩
theorem mv_X7_spellPart : MV yX7_spellPart cX7_spellPart 2 none 1 := ⟨wd_55_22, wd_55_20, wd_55_21, wd_1_5, by decide, by decide, by decide +kernel⟩
theorem mv_X7_spellReach : MV yX7_spellReach cX7_spellReach 3 none 1 := ⟨wd_55_18, wd_55_16, wd_55_17, wd_1_5, by decide, by decide, by decide +kernel⟩
theorem mv_X7_spellRight : MV yX7_spellRight cX7_spellRight 3 none 1 := ⟨wd_56_14, wd_56_12, wd_56_13, wd_1_5, by decide, by decide, by decide +kernel⟩
theorem mv_X7_spellStore : MV yX7_spellStore cX7_spellStore 3 none 1 := ⟨wd_56_18, wd_56_16, wd_56_17, wd_1_5, by decide, by decide, by decide +kernel⟩
theorem mv_X7_spellWord : MV yX7_spellWord cX7_spellWord 3 none 1 := ⟨wd_56_6, wd_56_4, wd_56_5, wd_1_5, by decide, by decide, by decide +kernel⟩
set_option maxHeartbeats 4000000 in
set_option maxRecDepth 100000 in
theorem c_X7_tell (E : Ev) (ws : TD) (kp : TD) (as : TD) (sc : TD) (ik : TD) (tk : Int × Int) (xt : Int × Int) (u : Int) (t : Int) (X0 : Nat → Int32) (B : Nat → Int32) (T : Nat → Int32) (a0 : Nat) (ha0 : eT E a0 ∈ [24]) (hu : 0 ≤ u ∧ u ≤ 10) (ht : 0 ≤ t ∧ t ≤ 400) (hX0 : okR X0) (hT : ivP 400 (-128) 127 T) : TcI E yX7_tell cX7_tell 3 .int ({ frames := 12, cells := 0, slots := 0, locals := 331 }) [.ref a0] (fun H => TH E (tbM (mD (.inl (t, t)) (.inl ((-2147483648), 2147483647)) (.inl ((-2147483648), 2147483647)) (.inl (u, u)) (.inl tk) (.inl xt) (.inl (0, 4000)) (.inl ((-2147483648), 2147483647)) (.inl (0, 1))) (xD 660 X0) ws kp as (xD 660 B) sc (xB 400 T) ik) H) (fun v H => ∃ u2 : Int, (0 ≤ u2 ∧ u2 ≤ 10) ∧ ∃ B2 : Nat → Int32, (okR B2) ∧ ∃ X2 : Nat → Int32, (okR X2 ∧ ((v.toInt < 0 ∧ X2 = X0 ∧ u2 = u) ∨ (0 ≤ v.toInt ∧ u2 = 0 ∧ gI X2 1 = v.toInt ∧ sQ B2 X2))) ∧ ((-2147483648) ≤ v.toInt ∧ v.toInt ≤ 2147483647) ∧ (∃ B0 : Nat → Int32, (∀ j : Nat, j < 660 → j ≠ 4 → xI B0 j = 0) ∧ v.toInt = mTell T t B0 ∧ (0 ≤ v.toInt → (mRun T t B0).1 = true ∧ (mRun T t B0).2.2.2.2 = B2)) ∧ TH E (tbM (mD (.inl (0, 0)) (.inl ((-2147483648), 2147483647)) (.inl ((-2147483648), 2147483647)) (.inl (u2, u2)) (.inl tk) (.inl xt) (.inl (0, 4000)) (.inl ((-2147483648), 2147483647)) (.inl (0, 1))) (xD 660 X2) ws kp as (xD 660 B2) sc (xB 400 T) ik) H) := by
  refine teI (by decide) (Nat.le_of_ble_eq_true rfl) ?_
  intro p_ ev_ s mi_ below_ meth cd_ ls F hK hN hO hH hS hl
  have hH : TH E (tbM (mD (.inl (t, t)) (.inl ((-2147483648), 2147483647)) (.inl ((-2147483648), 2147483647)) (.inl (u, u)) (.inl tk) (.inl xt) (.inl (0, 4000)) (.inl ((-2147483648), 2147483647)) (.inl (0, 1))) (xD 660 X0) ws kp as (xD 660 B) sc (xB 400 T) ik) s.heap := hH
  have hl : lv_has ls 3 [(0, .ref a0)] := hl
  have hBX0 := okB hX0.1
  have hLX0 := hX0.2
  refine lv_aload_n F.1 F.2.1 dX7_tell_0 rfl (lv_at hl 0 rfl) ?_
  refine tVi (b := a0) (As := []) (rest := []) F hK hN hO (c_X7_readsAll E (xD 660 X0) ws kp as sc ik (u, u) tk xt t B T a0 ha0 (by omega) hT) mv_X7_readsAll wd_15_16 ⟨Nat.le_of_ble_eq_true rfl, Nat.le_of_ble_eq_true rfl⟩ ⟨Nat.le_of_ble_eq_true rfl, Nat.le_of_ble_eq_true rfl⟩ hH hS (tRecv hK hH (tyb ha0 (all1 rfl)) clX7) rfl hl.1 (Nat.le_of_ble_eq_true rfl) dX7_tell_1 (fun z_1 H locs hq hS => ?_)
  obtain ⟨g_2, hg_2, g_3, hg_3, g_4, hg_4, g_5, hg_5, f_6, hH⟩ := hq
  have hH : TH E (tbM (mD (.inl (t, t)) (.inl (g_2, g_2)) (.inl ((-2147483648), 2147483647)) (.inl (u, u)) (.inl tk) (.inl xt) (.inl (g_3, g_3)) (.inl ((-2147483648), 2147483647)) (.inl (g_4, g_4))) (xD 660 X0) ws kp as (xD 660 g_5) sc (xB 400 T) ik) H := hH
  have hBg_5 := okB hg_5.1.1
  have hLg_5 := hg_5.1.2
  refine lv_istore_n (lv' := [(1, .int z_1), (0, .ref a0)]) F.1 F.2.1 dX7_tell_4 rfl hl (by decide) rfl (fun ls hl => ?_)
  refine lv_aload_n F.1 F.2.1 dX7_tell_5 rfl (lv_at hl 1 rfl) ?_
  refine lv_iconst (v := 0) F.1 F.2.1 dX7_tell_6 (by decide) ?_
  refine topK (a := 0) (by decide) (fun k_7 hk_7 => ?_)
  refine tPutG (j := 30) (t := 24) (fd := (.inl (0, 0))) F hK hH hS (List.mem_singleton.mp ha0) (by decide) rfl rfl (fdI (by omega)) (TB1 := (tbM (mD (.inl (0, 0)) (.inl (g_2, g_2)) (.inl ((-2147483648), 2147483647)) (.inl (u, u)) (.inl tk) (.inl xt) (.inl (g_3, g_3)) (.inl ((-2147483648), 2147483647)) (.inl (g_4, g_4))) (xD 660 X0) ws kp as (xD 660 g_5) sc (xB 400 T) ik)) rfl clX7 (by decide) wd_7_21 rfl rfl rfl rfl dX7_tell_7 (fun H locs hH hS => ?_)
  refine lv_iload_n F.1 F.2.1 dX7_tell_10 rfl (lv_at hl 0 rfl) ?_
  refine z_ne (tgt := 22) F dX7_tell_11 (by decide) (fun c_8 => ?_) (fun c_8 => ?_)
  · skip
    have r_9 : 1 ≤ z_1.toInt ∧ z_1.toInt ≤ 1 := by have h9_ := f_6; omega
    refine lv_iconst (v := 0) F.1 F.2.1 dX7_tell_22 (by decide) ?_
    refine topK (a := 0) (by decide) (fun k_11 hk_11 => ?_)
    refine lv_istore_n (lv' := [(2, .int k_11), (1, .int z_1), (0, .ref a0)]) F.1 F.2.1 dX7_tell_23 rfl hl (by decide) rfl (fun ls hl => ?_)
    refine wloop (σ := Int32 × (Nat → Int32)) (fun n9 x9 H locs ls => (660 - x9.1.toInt + 1).toNat < n9 ∧ (0 ≤ x9.1.toInt ∧ x9.1.toInt ≤ 660) ∧ (True) ∧ (cp X0 x9.2 g_5 0 0 (x9.1.toInt)) ∧ TH E (tbM (mD (.inl (0, 0)) (.inl (g_2, g_2)) (.inl ((-2147483648), 2147483647)) (.inl (u, u)) (.inl tk) (.inl xt) (.inl (g_3, g_3)) (.inl ((-2147483648), 2147483647)) (.inl (g_4, g_4))) (xD 660 x9.2) ws kp as (xD 660 g_5) sc (xB 400 T) ik) H ∧ va_S (eA E s.heap.size) s.heap H locs ∧ lv_has ls 3 [(0, .ref a0), (2, .int x9.1)]) ?_ (fun x9 H locs ls h => absurd h.1 (Nat.not_lt_zero _)) _ (k_11, X0) ⟨Nat.lt_succ_self _, (wkb (eqb hk_11) rfl rfl), trivial, (show cp X0 X0 g_5 0 0 (k_11.toInt) from cp.zero (by omega)), hH, hS, lv_sub hl [2, 0] rfl⟩
    intro n_24 ih_24 ⟨u_12, G_13⟩ H locs ls ⟨hm_24, hu_12, hG_13, hcr24_0, hH, hS, hl⟩
    have hm_24 : (660 - u_12.toInt + 1).toNat < n_24 + 1 := hm_24
    have hu_12 : (0 ≤ u_12.toInt ∧ u_12.toInt ≤ 660) := hu_12
    have hG_13 : (True) := hG_13
    have hcr24_0 : (cp X0 G_13 g_5 0 0 (u_12.toInt)) := hcr24_0
    have hH : TH E (tbM (mD (.inl (0, 0)) (.inl (g_2, g_2)) (.inl ((-2147483648), 2147483647)) (.inl (u, u)) (.inl tk) (.inl xt) (.inl (g_3, g_3)) (.inl ((-2147483648), 2147483647)) (.inl (g_4, g_4))) (xD 660 G_13) ws kp as (xD 660 g_5) sc (xB 400 T) ik) H := hH
    have hl : lv_has ls 3 [(0, .ref a0), (2, .int u_12)] := hl
    refine lv_iload_n F.1 F.2.1 dX7_tell_24 rfl (lv_at hl 1 rfl) ?_
    refine lv_sipush (v := 660) F.1 F.2.1 dX7_tell_25 (by decide) ?_
    refine topK (a := 660) (by decide) (fun k_14 hk_14 => ?_)
    refine b_ge (tgt := 49) F dX7_tell_28 (by decide) (fun c_15 => ?_) (fun c_15 => ?_)
    · skip
      have r_16 : 660 ≤ u_12.toInt ∧ u_12.toInt ≤ 660 := by have h9_ := hu_12; omega
      have hRG_13 : okR G_13 := okR.cpA hg_5.1 hcr24_0 (by omega)
      have hBG_13 := okB hRG_13.1
      have hLG_13 := hRG_13.2
      have hc1_ : gI G_13 1 = gI g_5 1 := cp_gI hcr24_0 (by omega) (by omega)
      refine lv_iconst (v := 0) F.1 F.2.1 dX7_tell_49 (by decide) ?_
      refine topK (a := 0) (by decide) (fun k_18 hk_18 => ?_)
      refine lv_istore_n (lv' := [(2, .int k_18), (0, .ref a0)]) F.1 F.2.1 dX7_tell_50 rfl hl (by decide) rfl (fun ls hl => ?_)
      refine wloop (σ := Int32) (fun n9 x9 H locs ls => (9 - x9.toInt + 1).toNat < n9 ∧ (0 ≤ x9.toInt ∧ x9.toInt ≤ 9) ∧ TH E (tbM (mD (.inl (0, 0)) (.inl (g_2, g_2)) (.inl ((-2147483648), 2147483647)) (.inl (u, u)) (.inl tk) (.inl xt) (.inl (g_3, g_3)) (.inl ((-2147483648), 2147483647)) (.inl (g_4, g_4))) (xD 660 G_13) ws kp as (xD 660 g_5) sc (xB 400 T) ik) H ∧ va_S (eA E s.heap.size) s.heap H locs ∧ lv_has ls 3 [(0, .ref a0), (2, .int x9)]) ?_ (fun x9 H locs ls h => absurd h.1 (Nat.not_lt_zero _)) _ (k_18) ⟨Nat.lt_succ_self _, (wkb (eqb hk_18) rfl rfl), hH, hS, lv_sub hl [1, 0] rfl⟩
      intro n_51 ih_51 u_19 H locs ls ⟨hm_51, hu_19, hH, hS, hl⟩
      have hm_51 : (9 - u_19.toInt + 1).toNat < n_51 + 1 := hm_51
      have hu_19 : (0 ≤ u_19.toInt ∧ u_19.toInt ≤ 9) := hu_19
      have hH : TH E (tbM (mD (.inl (0, 0)) (.inl (g_2, g_2)) (.inl ((-2147483648), 2147483647)) (.inl (u, u)) (.inl tk) (.inl xt) (.inl (g_3, g_3)) (.inl ((-2147483648), 2147483647)) (.inl (g_4, g_4))) (xD 660 G_13) ws kp as (xD 660 g_5) sc (xB 400 T) ik) H := hH
      have hl : lv_has ls 3 [(0, .ref a0), (2, .int u_19)] := hl
      refine lv_iload_n F.1 F.2.1 dX7_tell_51 rfl (lv_at hl 1 rfl) ?_
      refine lv_bipush (v := 6) F.1 F.2.1 dX7_tell_52 (by decide) ?_
      refine topK (a := 6) (by decide) (fun k_20 hk_20 => ?_)
      refine b_ge (tgt := 70) F dX7_tell_54 (by decide) (fun c_21 => ?_) (fun c_21 => ?_)
      · skip
        have r_22 : 6 ≤ u_19.toInt ∧ u_19.toInt ≤ 9 := by have h9_ := hu_19; omega
        refine lv_aload_n F.1 F.2.1 dX7_tell_70 rfl (lv_at hl 0 rfl) ?_
        refine lv_iconst (v := 0) F.1 F.2.1 dX7_tell_71 (by decide) ?_
        refine topK (a := 0) (by decide) (fun k_24 hk_24 => ?_)
        refine tPutG (j := 4) (t := 24) (fd := (.inl (0, 0))) F hK hH hS (List.mem_singleton.mp ha0) (by decide) rfl rfl (fdI (by omega)) (TB1 := (tbM (mD (.inl (0, 0)) (.inl (g_2, g_2)) (.inl ((-2147483648), 2147483647)) (.inl (0, 0)) (.inl tk) (.inl xt) (.inl (g_3, g_3)) (.inl ((-2147483648), 2147483647)) (.inl (g_4, g_4))) (xD 660 G_13) ws kp as (xD 660 g_5) sc (xB 400 T) ik)) rfl clX7 (by decide) wd_15_15 rfl rfl rfl rfl dX7_tell_72 (fun H locs hH hS => ?_)
        refine lv_aload_n F.1 F.2.1 dX7_tell_75 rfl (lv_at hl 0 rfl) ?_
        refine tVi (b := a0) (As := []) (rest := []) F hK hN hO (c_X7_rights E ws kp as (xD 660 g_5) sc (xB 400 T) ik (0, 0) tk xt (0, 0) (g_2, g_2) (g_3, g_3) (((-2147483648), 2147483647)) (((-2147483648), 2147483647)) (g_4, g_4) G_13 a0 ha0 ((hRG_13).1)) mv_X7_rights wd_19_4 ⟨Nat.le_of_ble_eq_true rfl, Nat.le_of_ble_eq_true rfl⟩ ⟨Nat.le_of_ble_eq_true rfl, Nat.le_of_ble_eq_true rfl⟩ hH hS (tRecv hK hH (tyb ha0 (all1 rfl)) clX7) rfl hl.1 (Nat.le_of_ble_eq_true rfl) dX7_tell_76 (fun z_25 H locs hq hS => ?_)
        obtain ⟨f_26, f_27, hH⟩ := hq
        have hH : TH E (tbM (mD (.inl (0, 0)) (.inl (g_2, g_2)) (.inl ((-2147483648), 2147483647)) (.inl (0, 0)) (.inl tk) (.inl xt) (.inl (g_3, g_3)) (.inl ((-2147483648), 2147483647)) (.inl (g_4, g_4))) (xD 660 G_13) ws kp as (xD 660 g_5) sc (xB 400 T) ik) H := hH
        exact txI F hS dX7_tell_79 rfl (⟨0, (by omega), g_5, hg_5.1, G_13, ⟨hRG_13, (Or.inr ⟨by omega, by omega, by omega, sQ_cp (fun _ _ => rfl) hcr24_0 (by omega)⟩)⟩, (wkb f_26 rfl rfl), (by obtain ⟨B0_, h1_, h2_⟩ := hg_5.2; have h5_ := mtell_s h2_ (by omega); exact ⟨B0_, h1_, mtell_g h2_ (by omega) (by show _ = gI g_5 1; omega), fun h3_ => ⟨h5_.1, by rw [h5_.2]⟩⟩), (TH.loose (t := 24) (TB1 := (tbM (mD (.inl (0, 0)) (.inl ((-2147483648), 2147483647)) (.inl ((-2147483648), 2147483647)) (.inl (0, 0)) (.inl tk) (.inl xt) (.inl (0, 4000)) (.inl ((-2147483648), 2147483647)) (.inl (0, 1))) (xD 660 G_13) ws kp as (xD 660 g_5) sc (xB 400 T) ik)) (TH.loose (t := 24) (TB1 := (tbM (mD (.inl (0, 0)) (.inl ((-2147483648), 2147483647)) (.inl ((-2147483648), 2147483647)) (.inl (0, 0)) (.inl tk) (.inl xt) (.inl (0, 4000)) (.inl ((-2147483648), 2147483647)) (.inl (g_4, g_4))) (xD 660 G_13) ws kp as (xD 660 g_5) sc (xB 400 T) ik)) (TH.loose (t := 24) (TB1 := (tbM (mD (.inl (0, 0)) (.inl ((-2147483648), 2147483647)) (.inl ((-2147483648), 2147483647)) (.inl (0, 0)) (.inl tk) (.inl xt) (.inl (g_3, g_3)) (.inl ((-2147483648), 2147483647)) (.inl (g_4, g_4))) (xD 660 G_13) ws kp as (xD 660 g_5) sc (xB 400 T) ik)) hH rfl (tcLoose (j := 31) rfl (by omega)) rfl) rfl (tcLoose (j := 32) rfl (by omega)) rfl) rfl (tcLoose (j := 35) rfl (by omega)) rfl)⟩)
      · skip
        have r_23 : 0 ≤ u_19.toInt ∧ u_19.toInt ≤ 5 := by have h9_ := hu_19; omega
        refine lv_aload_n F.1 F.2.1 dX7_tell_57 rfl (lv_at hl 0 rfl) ?_
        refine tGetR (j := 1) F hK hH (tyb ha0 (all1 rfl)) rfl (all1 rfl) clX7 (by decide) wd_6_6 dX7_tell_58 (fun q_28 hq_28 _ => ?_)
        refine lv_iload_n F.1 F.2.1 dX7_tell_61 rfl (lv_at hl 1 rfl) ?_
        refine lv_lconst (v := 0) F.1 F.2.1 dX7_tell_62 (by decide) ?_
        refine topKL (a := 0) (by decide) (fun j_29 hj_29 => ?_)
        refine tLast F hK hH hS (tyb hq_28 (all1 rfl)) (ixb (n := 6) r_23 rfl rfl) dX7_tell_63 (fun H locs hH hS => ?_)
        obtain ⟨x_30, ex_30, hx_30⟩ := iincB (c := 1) (lo := 1) (hi := 6) r_23 rfl
        refine lv_iinc (v := x_30) (lv' := [(2, .int x_30), (0, .ref a0)]) F.1 F.2.1 dX7_tell_64 hl (k := 1) rfl ex_30 (by decide) rfl (fun ls hl => ?_)
        refine lv_goto (tgt := 51) F.1 F.2.1 dX7_tell_67 (by decide) ?_
        exact ih_51 (x_30) _ _ _ ⟨(show (9 - x_30.toInt + 1).toNat < n_51 from by omega), (wkb hx_30.2 rfl rfl), hH, hS, lv_sub hl [1, 0] rfl⟩
    · skip
      have r_17 : 0 ≤ u_12.toInt ∧ u_12.toInt ≤ 659 := by have h9_ := hu_12; omega
      refine lv_aload_n F.1 F.2.1 dX7_tell_31 rfl (lv_at hl 0 rfl) ?_
      refine tGetR (j := 0) F hK hH (tyb ha0 (all1 rfl)) rfl (all1 rfl) clX7 (by decide) wd_6_5 dX7_tell_32 (fun q_31 hq_31 _ => ?_)
      refine lv_iload_n F.1 F.2.1 dX7_tell_35 rfl (lv_at hl 1 rfl) ?_
      refine lv_aload_n F.1 F.2.1 dX7_tell_36 rfl (lv_at hl 0 rfl) ?_
      refine tGetR (j := 36) F hK hH (tyb ha0 (all1 rfl)) rfl (all1 rfl) clX7 (by decide) wd_7_5 dX7_tell_37 (fun q_32 hq_32 _ => ?_)
      refine lv_iload_n F.1 F.2.1 dX7_tell_40 rfl (lv_at hl 1 rfl) ?_
      refine tIaldX F hK hH (tyb hq_32 (all1 rfl)) (ixb (n := 660) r_17 rfl rfl) dX7_tell_41 (fun z_33 ez_33 => ?_)
      refine tIastX (t := 25) F hK hH hS (List.mem_singleton.mp hq_31) (by decide) rfl (ixb (n := 660) r_17 rfl rfl) dX7_tell_42 (fun G_34 eG_34 H locs hH hS => ?_)
      have hH : TH E (tbM (mD (.inl (0, 0)) (.inl (g_2, g_2)) (.inl ((-2147483648), 2147483647)) (.inl (u, u)) (.inl tk) (.inl xt) (.inl (g_3, g_3)) (.inl ((-2147483648), 2147483647)) (.inl (g_4, g_4))) (xD 660 G_34) ws kp as (xD 660 g_5) sc (xB 400 T) ik) H := hH
      obtain ⟨x_35, ex_35, hx_35⟩ := iincB (c := 1) (lo := 1) (hi := 660) r_17 rfl
      refine lv_iinc (v := x_35) (lv' := [(2, .int x_35), (0, .ref a0)]) F.1 F.2.1 dX7_tell_43 hl (k := 1) rfl ex_35 (by decide) rfl (fun ls hl => ?_)
      refine lv_goto (tgt := 24) F.1 F.2.1 dX7_tell_46 (by decide) ?_
      exact ih_24 (x_35, G_34) _ _ _ ⟨(show (660 - x_35.toInt + 1).toNat < n_24 from by omega), (wkb hx_35.2 rfl rfl), trivial, (show cp X0 G_34 g_5 0 0 (x_35.toInt) from cp.step hcr24_0 eG_34 ez_33 (by omega) (by omega) (by omega) (by omega)), hH, hS, lv_sub hl [1, 0] rfl⟩
  · skip
    have r_10 : 0 ≤ z_1.toInt ∧ z_1.toInt ≤ 0 := by have h9_ := f_6; omega
    refine lv_bipush (v := (-2)) F.1 F.2.1 dX7_tell_14 (by decide) ?_
    refine topK (a := (-2)) (by decide) (fun k_36 hk_36 => ?_)
    refine lv_aload_n F.1 F.2.1 dX7_tell_16 rfl (lv_at hl 1 rfl) ?_
    refine tGetI (j := 32) F hK hH (tyb ha0 (all1 rfl)) rfl clX7 (by decide) wd_15_14 dX7_tell_17 (fun z_37 hz_37 => ?_)
    have ez_37 : 0 ≤ z_37.toInt ∧ z_37.toInt ≤ 4000 := by omega
    refine tSub (lo := (-4002)) (hi := (-2)) F dX7_tell_20 (eqb hk_36) ez_37 rfl (fun z_38 hz_38 => ?_)
    exact txI F hS dX7_tell_21 rfl (⟨u, (by omega), g_5, hg_5.1, X0, ⟨hX0, (Or.inl ⟨by omega, rfl, by omega⟩)⟩, (wkb hz_38.2 rfl rfl), (by obtain ⟨B0_, h1_, h2_⟩ := hg_5.2; exact ⟨B0_, h1_, mtell_f h2_ (by omega) (by omega), fun h3_ => absurd h3_ (by omega)⟩), (TH.loose (t := 24) (TB1 := (tbM (mD (.inl (0, 0)) (.inl ((-2147483648), 2147483647)) (.inl ((-2147483648), 2147483647)) (.inl (u, u)) (.inl tk) (.inl xt) (.inl (0, 4000)) (.inl ((-2147483648), 2147483647)) (.inl (0, 1))) (xD 660 X0) ws kp as (xD 660 g_5) sc (xB 400 T) ik)) (TH.loose (t := 24) (TB1 := (tbM (mD (.inl (0, 0)) (.inl ((-2147483648), 2147483647)) (.inl ((-2147483648), 2147483647)) (.inl (u, u)) (.inl tk) (.inl xt) (.inl (0, 4000)) (.inl ((-2147483648), 2147483647)) (.inl (g_4, g_4))) (xD 660 X0) ws kp as (xD 660 g_5) sc (xB 400 T) ik)) (TH.loose (t := 24) (TB1 := (tbM (mD (.inl (0, 0)) (.inl ((-2147483648), 2147483647)) (.inl ((-2147483648), 2147483647)) (.inl (u, u)) (.inl tk) (.inl xt) (.inl (g_3, g_3)) (.inl ((-2147483648), 2147483647)) (.inl (g_4, g_4))) (xD 660 X0) ws kp as (xD 660 g_5) sc (xB 400 T) ik)) hH rfl (tcLoose (j := 31) rfl (by omega)) rfl) rfl (tcLoose (j := 32) rfl (by omega)) rfl) rfl (tcLoose (j := 35) rfl (by omega)) rfl)⟩)
set_option maxHeartbeats 4000000 in
set_option maxRecDepth 100000 in
theorem c_X7_puts (E : Ev) (nw : TD) (ws : TD) (kp : TD) (as : TD) (rd : TD) (sc : TD) (ik : TD) (un : Int × Int) (tk : Int × Int) (xt : Int × Int) (sp : Int × Int) (wrb : Int × Int) (nu : Int × Int) (nab : Int × Int) (iwb : Int × Int) (t : Int) (T : Nat → Int32) (a0 : Nat) (a1 : Int32) (ha0 : eT E a0 ∈ [24]) (ht : 0 ≤ t ∧ t ≤ 396) (hT : ivP 400 (-128) 127 T) : TcV E yX7_puts cX7_puts 3 ({ frames := 1, cells := 0, slots := 0, locals := 40 }) [.ref a0, .int a1] (fun H => TH E (tbM (mD (.inl (t, t)) (.inl sp) (.inl nu) (.inl un) (.inl tk) (.inl xt) (.inl wrb) (.inl nab) (.inl iwb)) nw ws kp as rd sc (xB 400 T) ik) H) (fun H => ∃ T2 : Nat → Int32, (ivP 400 (-128) 127 T2 ∧ T2 = putF T t a1 4) ∧ TH E (tbM (mD (.inl ((t + 4), (t + 4))) (.inl sp) (.inl nu) (.inl un) (.inl tk) (.inl xt) (.inl wrb) (.inl nab) (.inl iwb)) nw ws kp as rd sc (xB 400 T2) ik) H) := by
  refine teV (by decide) (Nat.le_of_ble_eq_true rfl) ?_
  intro p_ ev_ s mi_ below_ meth cd_ ls F hK hN hO hH hS hl
  have hH : TH E (tbM (mD (.inl (t, t)) (.inl sp) (.inl nu) (.inl un) (.inl tk) (.inl xt) (.inl wrb) (.inl nab) (.inl iwb)) nw ws kp as rd sc (xB 400 T) ik) s.heap := hH
  have hl : lv_has ls 3 [(0, .ref a0), (1, .int a1)] := hl
  refine lv_bipush (v := 24) F.1 F.2.1 dX7_puts_0 (by decide) ?_
  refine topK (a := 24) (by decide) (fun k_1 hk_1 => ?_)
  refine lv_istore_n (lv' := [(2, .int k_1), (0, .ref a0), (1, .int a1)]) F.1 F.2.1 dX7_puts_2 rfl hl (by decide) rfl (fun ls hl => ?_)
  refine wloop (σ := Int32 × Int × (Nat → Int32)) (fun n9 x9 H locs ls => (x9.1.toInt - (-8) + 1).toNat < n9 ∧ ((-8) ≤ x9.1.toInt ∧ x9.1.toInt ≤ 24) ∧ (0 ≤ x9.2.1 ∧ x9.2.1 ≤ 400) ∧ (ivP 400 (-128) 127 x9.2.2) ∧ (8 * x9.2.1 + x9.1.toInt = 8 * t + 24) ∧ (x9.2.2 = putF T t a1 (x9.2.1 - t)) ∧ TH E (tbM (mD (.inl (x9.2.1, x9.2.1)) (.inl sp) (.inl nu) (.inl un) (.inl tk) (.inl xt) (.inl wrb) (.inl nab) (.inl iwb)) nw ws kp as rd sc (xB 400 x9.2.2) ik) H ∧ va_S (eA E s.heap.size) s.heap H locs ∧ lv_has ls 3 [(0, .ref a0), (1, .int a1), (2, .int x9.1)]) ?_ (fun x9 H locs ls h => absurd h.1 (Nat.not_lt_zero _)) _ (k_1, t, T) ⟨Nat.lt_succ_self _, (wkb (eqb hk_1) rfl rfl), (show 0 ≤ t ∧ t ≤ 400 from by omega), hT, (show 8 * t + k_1.toInt = 8 * t + 24 from by omega), (show T = putF T t a1 (t - t) from (put_0 (by omega))), hH, hS, lv_sub hl [1, 2, 0] rfl⟩
  intro n_3 ih_3 ⟨u_2, g_3, G_4⟩ H locs ls ⟨hm_3, hu_2, hg_3, hG_4, hcr3_0, hcr3_1, hH, hS, hl⟩
  have hm_3 : (u_2.toInt - (-8) + 1).toNat < n_3 + 1 := hm_3
  have hu_2 : ((-8) ≤ u_2.toInt ∧ u_2.toInt ≤ 24) := hu_2
  have hg_3 : (0 ≤ g_3 ∧ g_3 ≤ 400) := hg_3
  have hG_4 : (ivP 400 (-128) 127 G_4) := hG_4
  have hcr3_0 : (8 * g_3 + u_2.toInt = 8 * t + 24) := hcr3_0
  have hcr3_1 : (G_4 = putF T t a1 (g_3 - t)) := hcr3_1
  have hH : TH E (tbM (mD (.inl (g_3, g_3)) (.inl sp) (.inl nu) (.inl un) (.inl tk) (.inl xt) (.inl wrb) (.inl nab) (.inl iwb)) nw ws kp as rd sc (xB 400 G_4) ik) H := hH
  have hl : lv_has ls 3 [(0, .ref a0), (1, .int a1), (2, .int u_2)] := hl
  refine lv_iload_n F.1 F.2.1 dX7_puts_3 rfl (lv_at hl 2 rfl) ?_
  refine z_lt (tgt := 36) F dX7_puts_4 (by decide) (fun c_5 => ?_) (fun c_5 => ?_)
  · skip
    have r_6 : (-8) ≤ u_2.toInt ∧ u_2.toInt ≤ (-1) := by have h9_ := hu_2; omega
    have e_8 : g_3 = (t + 4) := by omega
    rw [e_8] at hH
    exact txV F hS dX7_puts_36 (⟨G_4, ⟨hG_4, (put_end hcr3_1 (by omega))⟩, hH⟩)
  · skip
    have r_7 : 0 ≤ u_2.toInt ∧ u_2.toInt ≤ 24 := by have h9_ := hu_2; omega
    refine lv_aload_n F.1 F.2.1 dX7_puts_7 rfl (lv_at hl 0 rfl) ?_
    refine tGetR (j := 29) F hK hH (tyb ha0 (all1 rfl)) rfl (all1 rfl) clX7 (by decide) wd_7_4 dX7_puts_8 (fun q_9 hq_9 _ => ?_)
    refine lv_aload_n F.1 F.2.1 dX7_puts_11 rfl (lv_at hl 0 rfl) ?_
    refine tGetI (j := 30) F hK hH (tyb ha0 (all1 rfl)) rfl clX7 (by decide) wd_7_21 dX7_puts_12 (fun z_10 hz_10 => ?_)
    have ez_10 : 0 ≤ z_10.toInt ∧ z_10.toInt ≤ 400 := by omega
    refine lv_iload_n F.1 F.2.1 dX7_puts_15 rfl (lv_at hl 1 rfl) ?_
    refine lv_iload_n F.1 F.2.1 dX7_puts_16 rfl (lv_at hl 2 rfl) ?_
    refine lv_ishr F.1 F.2.1 dX7_puts_17 ?_
    refine topE (fun z_11 xz_11 => ?_)
    refine lv_i2b F.1 F.2.1 dX7_puts_18 rfl ?_
    refine topE (fun z_12 xz_12 => ?_)
    refine tBastX (t := 31) F hK hH hS (List.mem_singleton.mp hq_9) (by decide) rfl (by omega) dX7_puts_19 (fun G_13 eG_13 H locs hH hS => ?_)
    have hH : TH E (tbM (mD (.inl (g_3, g_3)) (.inl sp) (.inl nu) (.inl un) (.inl tk) (.inl xt) (.inl wrb) (.inl nab) (.inl iwb)) nw ws kp as rd sc (xB 400 G_13) ik) H := hH
    have hG_13 : ivP 400 (-128) 127 G_13 := (ivP_updE hG_4 eG_13 (narB _))
    refine lv_aload_n F.1 F.2.1 dX7_puts_20 rfl (lv_at hl 0 rfl) ?_
    refine lv_dup F.1 F.2.1 dX7_puts_21 rfl ?_
    refine tGetI (j := 30) F hK hH (tyb ha0 (all1 rfl)) rfl clX7 (by decide) wd_7_21 dX7_puts_22 (fun z_14 hz_14 => ?_)
    have ez_14 : 0 ≤ z_14.toInt ∧ z_14.toInt ≤ 400 := by omega
    refine lv_iconst (v := 1) F.1 F.2.1 dX7_puts_25 (by decide) ?_
    refine topK (a := 1) (by decide) (fun k_15 hk_15 => ?_)
    refine tAdd (lo := 1) (hi := 401) F dX7_puts_26 ez_14 (eqb hk_15) rfl (fun z_16 hz_16 => ?_)
    obtain ⟨g_17, hg_17⟩ : ∃ y : Int, z_16.toInt = y := ⟨_, rfl⟩
    have bg_17 : 1 ≤ g_17 ∧ g_17 ≤ 401 := by rw [← hg_17]; exact hz_16.2
    refine tPutG (j := 30) (t := 24) (fd := (.inl (g_17, g_17))) F hK hH hS (List.mem_singleton.mp ha0) (by decide) rfl rfl (fdI (by omega)) (TB1 := (tbM (mD (.inl (g_17, g_17)) (.inl sp) (.inl nu) (.inl un) (.inl tk) (.inl xt) (.inl wrb) (.inl nab) (.inl iwb)) nw ws kp as rd sc (xB 400 G_13) ik)) rfl clX7 (by decide) wd_7_21 rfl rfl rfl rfl dX7_puts_27 (fun H locs hH hS => ?_)
    obtain ⟨x_18, ex_18, hx_18⟩ := iincB (c := (-8)) (lo := (-8)) (hi := 16) r_7 rfl
    refine lv_iinc (v := x_18) (lv' := [(2, .int x_18), (0, .ref a0), (1, .int a1)]) F.1 F.2.1 dX7_puts_30 hl (k := 2) rfl ex_18 (by decide) rfl (fun ls hl => ?_)
    refine lv_goto (tgt := 3) F.1 F.2.1 dX7_puts_33 (by decide) ?_
    exact ih_3 (x_18, g_17, G_13) _ _ _ ⟨(show (x_18.toInt - (-8) + 1).toNat < n_3 from by omega), (wkb hx_18.2 rfl rfl), (show 0 ≤ g_17 ∧ g_17 ≤ 400 from by omega), hG_13, (show 8 * g_17 + x_18.toInt = 8 * t + 24 from by omega), (show G_13 = putF T t a1 (g_17 - t) from (put_step hcr3_1 eG_13 (ref_byte xz_11 xz_12 (by omega)) (by omega) (by omega) (by omega) (by omega))), hH, hS, lv_sub hl [1, 2, 0] rfl⟩
set_option maxHeartbeats 4000000 in
set_option maxRecDepth 100000 in
theorem c_X7_feed (E : Ev) (nw : TD) (ws : TD) (kp : TD) (as : TD) (rd : TD) (sc : TD) (ik : TD) (un : Int × Int) (tk : Int × Int) (xt : Int × Int) (sp : Int × Int) (wrb : Int × Int) (nu : Int × Int) (nab : Int × Int) (iwb : Int × Int) (t : Int) (T : Nat → Int32) (a0 : Nat) (a1 : Int32) (a2 : Int32) (a3 : Int32) (a4 : Int32) (a5 : Int32) (ha0 : eT E a0 ∈ [24]) (ht : 0 ≤ t ∧ t ≤ 400) (hT : ivP 400 (-128) 127 T) : TcI E yX7_feed cX7_feed 6 .int ({ frames := 2, cells := 0, slots := 0, locals := 62 }) [.ref a0, .int a1, .int a2, .int a3, .int a4, .int a5] (fun H => TH E (tbM (mD (.inl (t, t)) (.inl sp) (.inl nu) (.inl un) (.inl tk) (.inl xt) (.inl wrb) (.inl nab) (.inl iwb)) nw ws kp as rd sc (xB 400 T) ik) H) (fun v H => ∃ t2 : Int, (0 ≤ t2 ∧ t2 ≤ 400) ∧ ∃ T2 : Nat → Int32, (ivP 400 (-128) 127 T2 ∧ T2 = feedT T t a1 a2 a3 a4 a5) ∧ ((-2147483648) ≤ v.toInt ∧ v.toInt ≤ 2147483647) ∧ ((t + 20 ≤ 400 ∧ t2 = t + 20 ∧ v.toInt = t2) ∨ (400 < t + 20 ∧ t2 = t ∧ v.toInt = -1)) ∧ TH E (tbM (mD (.inl (t2, t2)) (.inl sp) (.inl nu) (.inl un) (.inl tk) (.inl xt) (.inl wrb) (.inl nab) (.inl iwb)) nw ws kp as rd sc (xB 400 T2) ik) H) := by
  refine teI (by decide) (Nat.le_of_ble_eq_true rfl) ?_
  intro p_ ev_ s mi_ below_ meth cd_ ls F hK hN hO hH hS hl
  have hH : TH E (tbM (mD (.inl (t, t)) (.inl sp) (.inl nu) (.inl un) (.inl tk) (.inl xt) (.inl wrb) (.inl nab) (.inl iwb)) nw ws kp as rd sc (xB 400 T) ik) s.heap := hH
  have hl : lv_has ls 6 [(0, .ref a0), (1, .int a1), (2, .int a2), (3, .int a3), (4, .int a4), (5, .int a5)] := hl
  refine lv_aload_n F.1 F.2.1 dX7_feed_0 rfl (lv_at hl 0 rfl) ?_
  refine tGetI (j := 30) F hK hH (tyb ha0 (all1 rfl)) rfl clX7 (by decide) wd_7_21 dX7_feed_1 (fun z_1 hz_1 => ?_)
  have ez_1 : 0 ≤ z_1.toInt ∧ z_1.toInt ≤ 400 := by omega
  refine lv_sipush (v := 380) F.1 F.2.1 dX7_feed_4 (by decide) ?_
  refine topK (a := 380) (by decide) (fun k_2 hk_2 => ?_)
  refine b_le (tgt := 12) F dX7_feed_7 (by decide) (fun c_3 => ?_) (fun c_3 => ?_)
  · skip
    have r_4 : 0 ≤ z_1.toInt ∧ z_1.toInt ≤ 380 := by have h9_ := ez_1; omega
    refine lv_aload_n F.1 F.2.1 dX7_feed_12 rfl (lv_at hl 0 rfl) ?_
    refine lv_iload_n F.1 F.2.1 dX7_feed_13 rfl (lv_at hl 1 rfl) ?_
    refine tVv (b := a0) (As := [.int a1]) (rest := []) F hK hN hO (c_X7_puts E nw ws kp as rd sc ik un tk xt sp wrb nu nab iwb t T a0 a1 ha0 (by omega) hT) mv_X7_puts wd_7_22 ⟨Nat.le_of_ble_eq_true rfl, Nat.le_of_ble_eq_true rfl⟩ ⟨Nat.le_of_ble_eq_true rfl, Nat.le_of_ble_eq_true rfl⟩ hH hS (tRecv hK hH (tyb ha0 (all1 rfl)) clX7) rfl hl.1 (Nat.le_of_ble_eq_true rfl) dX7_feed_14 (fun H locs hq hS => ?_)
    obtain ⟨g_7, hg_7, hH⟩ := hq
    have hH : TH E (tbM (mD (.inl ((t + 4), (t + 4))) (.inl sp) (.inl nu) (.inl un) (.inl tk) (.inl xt) (.inl wrb) (.inl nab) (.inl iwb)) nw ws kp as rd sc (xB 400 g_7) ik) H := hH
    refine lv_aload_n F.1 F.2.1 dX7_feed_17 rfl (lv_at hl 0 rfl) ?_
    refine lv_iload_n F.1 F.2.1 dX7_feed_18 rfl (lv_at hl 2 rfl) ?_
    refine tVv (b := a0) (As := [.int a2]) (rest := []) F hK hN hO (c_X7_puts E nw ws kp as rd sc ik un tk xt sp wrb nu nab iwb (t + 4) g_7 a0 a2 ha0 (by omega) hg_7.1) mv_X7_puts wd_7_22 ⟨Nat.le_of_ble_eq_true rfl, Nat.le_of_ble_eq_true rfl⟩ ⟨Nat.le_of_ble_eq_true rfl, Nat.le_of_ble_eq_true rfl⟩ hH hS (tRecv hK hH (tyb ha0 (all1 rfl)) clX7) rfl hl.1 (Nat.le_of_ble_eq_true rfl) dX7_feed_19 (fun H locs hq hS => ?_)
    obtain ⟨g_9, hg_9, hH⟩ := hq
    have hH : TH E (tbM (mD (.inl (((t + 4) + 4), ((t + 4) + 4))) (.inl sp) (.inl nu) (.inl un) (.inl tk) (.inl xt) (.inl wrb) (.inl nab) (.inl iwb)) nw ws kp as rd sc (xB 400 g_9) ik) H := hH
    refine lv_aload_n F.1 F.2.1 dX7_feed_22 rfl (lv_at hl 0 rfl) ?_
    refine lv_iload_n F.1 F.2.1 dX7_feed_23 rfl (lv_at hl 3 rfl) ?_
    refine tVv (b := a0) (As := [.int a3]) (rest := []) F hK hN hO (c_X7_puts E nw ws kp as rd sc ik un tk xt sp wrb nu nab iwb (((t + 4) + 4)) g_9 a0 a3 ha0 (by omega) hg_9.1) mv_X7_puts wd_7_22 ⟨Nat.le_of_ble_eq_true rfl, Nat.le_of_ble_eq_true rfl⟩ ⟨Nat.le_of_ble_eq_true rfl, Nat.le_of_ble_eq_true rfl⟩ hH hS (tRecv hK hH (tyb ha0 (all1 rfl)) clX7) rfl hl.1 (Nat.le_of_ble_eq_true rfl) dX7_feed_24 (fun H locs hq hS => ?_)
    obtain ⟨g_11, hg_11, hH⟩ := hq
    have hH : TH E (tbM (mD (.inl ((((t + 4) + 4) + 4), (((t + 4) + 4) + 4))) (.inl sp) (.inl nu) (.inl un) (.inl tk) (.inl xt) (.inl wrb) (.inl nab) (.inl iwb)) nw ws kp as rd sc (xB 400 g_11) ik) H := hH
    refine lv_aload_n F.1 F.2.1 dX7_feed_27 rfl (lv_at hl 0 rfl) ?_
    refine lv_iload F.1 F.2.1 dX7_feed_28 (lv_at hl 4 rfl) ?_
    refine tVv (b := a0) (As := [.int a4]) (rest := []) F hK hN hO (c_X7_puts E nw ws kp as rd sc ik un tk xt sp wrb nu nab iwb ((((t + 4) + 4) + 4)) g_11 a0 a4 ha0 (by omega) hg_11.1) mv_X7_puts wd_7_22 ⟨Nat.le_of_ble_eq_true rfl, Nat.le_of_ble_eq_true rfl⟩ ⟨Nat.le_of_ble_eq_true rfl, Nat.le_of_ble_eq_true rfl⟩ hH hS (tRecv hK hH (tyb ha0 (all1 rfl)) clX7) rfl hl.1 (Nat.le_of_ble_eq_true rfl) dX7_feed_30 (fun H locs hq hS => ?_)
    obtain ⟨g_13, hg_13, hH⟩ := hq
    have hH : TH E (tbM (mD (.inl (((((t + 4) + 4) + 4) + 4), ((((t + 4) + 4) + 4) + 4))) (.inl sp) (.inl nu) (.inl un) (.inl tk) (.inl xt) (.inl wrb) (.inl nab) (.inl iwb)) nw ws kp as rd sc (xB 400 g_13) ik) H := hH
    refine lv_aload_n F.1 F.2.1 dX7_feed_33 rfl (lv_at hl 0 rfl) ?_
    refine lv_iload F.1 F.2.1 dX7_feed_34 (lv_at hl 5 rfl) ?_
    refine tVv (b := a0) (As := [.int a5]) (rest := []) F hK hN hO (c_X7_puts E nw ws kp as rd sc ik un tk xt sp wrb nu nab iwb (((((t + 4) + 4) + 4) + 4)) g_13 a0 a5 ha0 (by omega) hg_13.1) mv_X7_puts wd_7_22 ⟨Nat.le_of_ble_eq_true rfl, Nat.le_of_ble_eq_true rfl⟩ ⟨Nat.le_of_ble_eq_true rfl, Nat.le_of_ble_eq_true rfl⟩ hH hS (tRecv hK hH (tyb ha0 (all1 rfl)) clX7) rfl hl.1 (Nat.le_of_ble_eq_true rfl) dX7_feed_36 (fun H locs hq hS => ?_)
    obtain ⟨g_15, hg_15, hH⟩ := hq
    have hH : TH E (tbM (mD (.inl ((((((t + 4) + 4) + 4) + 4) + 4), (((((t + 4) + 4) + 4) + 4) + 4))) (.inl sp) (.inl nu) (.inl un) (.inl tk) (.inl xt) (.inl wrb) (.inl nab) (.inl iwb)) nw ws kp as rd sc (xB 400 g_15) ik) H := hH
    refine lv_aload_n F.1 F.2.1 dX7_feed_39 rfl (lv_at hl 0 rfl) ?_
    refine tGetI (j := 30) F hK hH (tyb ha0 (all1 rfl)) rfl clX7 (by decide) wd_7_21 dX7_feed_40 (fun z_16 hz_16 => ?_)
    have ez_16 : 20 ≤ z_16.toInt ∧ z_16.toInt ≤ 400 := by omega
    exact txI F hS dX7_feed_43 rfl (⟨(((((t + 4) + 4) + 4) + 4) + 4), (by omega), g_15, ⟨hg_15.1, (feed_yes hg_7.2 hg_9.2 hg_11.2 hg_13.2 hg_15.2 (by omega) (by omega) (by omega) (by omega) (by omega))⟩, (wkb ez_16 rfl rfl), (by omega), hH⟩)
  · skip
    have r_5 : 381 ≤ z_1.toInt ∧ z_1.toInt ≤ 400 := by have h9_ := ez_1; omega
    refine lv_iconst (v := (-1)) F.1 F.2.1 dX7_feed_10 (by decide) ?_
    refine topK (a := (-1)) (by decide) (fun k_17 hk_17 => ?_)
    exact txI F hS dX7_feed_11 rfl (⟨t, (by omega), T, ⟨hT, (feed_no (by omega))⟩, (wkb (eqb hk_17) rfl rfl), (by omega), hH⟩)
set_option maxHeartbeats 4000000 in
set_option maxRecDepth 100000 in
theorem c_X7_end (E : Ev) (nw : TD) (ws : TD) (kp : TD) (as : TD) (rd : TD) (sc : TD) (ty : TD) (ik : TD) (un : Int × Int) (tk : Int × Int) (xt : Int × Int) (sp : Int × Int) (wrb : Int × Int) (nu : Int × Int) (nab : Int × Int) (iwb : Int × Int) (t : Int) (a0 : Nat) (a1 : Int32) (ha0 : eT E a0 ∈ [24]) (ht : 0 ≤ t ∧ t ≤ 400) : TcI E yX7_end cX7_end 2 .int ({ frames := 2, cells := 0, slots := 0, locals := 65 }) [.ref a0, .int a1] (fun H => TH E (tbM (mD (.inl (t, t)) (.inl sp) (.inl nu) (.inl un) (.inl tk) (.inl xt) (.inl wrb) (.inl nab) (.inl iwb)) nw ws kp as rd sc ty ik) H) (fun v H => ∃ t2 : Int, (0 ≤ t2 ∧ t2 ≤ 400) ∧ ((-2147483648) ≤ v.toInt ∧ v.toInt ≤ 2147483647) ∧ ((0 ≤ a1.toInt ∧ a1.toInt ≤ t ∧ t2 = a1.toInt ∧ v.toInt = a1.toInt) ∨ ((a1.toInt < 0 ∨ t < a1.toInt) ∧ t2 = t ∧ v.toInt = -1)) ∧ TH E (tbM (mD (.inl (t2, t2)) (.inl sp) (.inl nu) (.inl un) (.inl tk) (.inl xt) (.inl wrb) (.inl nab) (.inl iwb)) nw ws kp as rd sc ty ik) H) := by
  refine teI (by decide) (Nat.le_of_ble_eq_true rfl) ?_
  intro p_ ev_ s mi_ below_ meth cd_ ls F hK hN hO hH hS hl
  have hH : TH E (tbM (mD (.inl (t, t)) (.inl sp) (.inl nu) (.inl un) (.inl tk) (.inl xt) (.inl wrb) (.inl nab) (.inl iwb)) nw ws kp as rd sc ty ik) s.heap := hH
  have hl : lv_has ls 2 [(0, .ref a0), (1, .int a1)] := hl
  refine lv_iload_n F.1 F.2.1 dX7_end_0 rfl (lv_at hl 1 rfl) ?_
  refine tI2l F dX7_end_1 (fun w_1 hw_1 => ?_)
  refine lv_lconst (v := 0) F.1 F.2.1 dX7_end_2 (by decide) ?_
  refine topKL (a := 0) (by decide) (fun j_2 hj_2 => ?_)
  refine lv_aload_n F.1 F.2.1 dX7_end_3 rfl (lv_at hl 0 rfl) ?_
  refine tGetI (j := 30) F hK hH (tyb ha0 (all1 rfl)) rfl clX7 (by decide) wd_7_21 dX7_end_4 (fun z_3 hz_3 => ?_)
  have ez_3 : 0 ≤ z_3.toInt ∧ z_3.toInt ≤ 400 := by omega
  refine tI2l F dX7_end_7 (fun w_4 hw_4 => ?_)
  refine tSi (As := [.long w_1, .long j_2, .long w_4]) (rest := []) F hK hN hO (c_X7_in E (mD (.inl (t, t)) (.inl sp) (.inl nu) (.inl un) (.inl tk) (.inl xt) (.inl wrb) (.inl nab) (.inl iwb)) nw ws kp as rd sc ty ik w_1 j_2 w_4) ms_X7_in wd_8_10 ⟨Nat.le_of_ble_eq_true rfl, Nat.le_of_ble_eq_true rfl⟩ ⟨Nat.le_of_ble_eq_true rfl, Nat.le_of_ble_eq_true rfl⟩ hH hS rfl hl.1 (Nat.le_of_ble_eq_true rfl) dX7_end_8 (fun z_5 H locs hq hS => ?_)
  obtain ⟨f_6, f_7, hH⟩ := hq
  have hH : TH E (tbM (mD (.inl (t, t)) (.inl sp) (.inl nu) (.inl un) (.inl tk) (.inl xt) (.inl wrb) (.inl nab) (.inl iwb)) nw ws kp as rd sc ty ik) H := hH
  refine z_ne (tgt := 16) F dX7_end_11 (by decide) (fun c_8 => ?_) (fun c_8 => ?_)
  · skip
    have r_9 : 1 ≤ z_5.toInt ∧ z_5.toInt ≤ 1 := by have h9_ := f_6; omega
    have r_10 : 0 ≤ a1.toInt ∧ a1.toInt ≤ 400 := by have h9_ := (i32b a1); omega
    refine lv_aload_n F.1 F.2.1 dX7_end_16 rfl (lv_at hl 0 rfl) ?_
    refine lv_iload_n F.1 F.2.1 dX7_end_17 rfl (lv_at hl 1 rfl) ?_
    obtain ⟨g_12, hg_12⟩ : ∃ y : Int, a1.toInt = y := ⟨_, rfl⟩
    have bg_12 : 0 ≤ g_12 ∧ g_12 ≤ 400 := by rw [← hg_12]; exact r_10
    refine tPutG (j := 30) (t := 24) (fd := (.inl (g_12, g_12))) F hK hH hS (List.mem_singleton.mp ha0) (by decide) rfl rfl (fdI (by omega)) (TB1 := (tbM (mD (.inl (g_12, g_12)) (.inl sp) (.inl nu) (.inl un) (.inl tk) (.inl xt) (.inl wrb) (.inl nab) (.inl iwb)) nw ws kp as rd sc ty ik)) rfl clX7 (by decide) wd_7_21 rfl rfl rfl rfl dX7_end_18 (fun H locs hH hS => ?_)
    refine lv_iload_n F.1 F.2.1 dX7_end_21 rfl (lv_at hl 1 rfl) ?_
    exact txI F hS dX7_end_22 rfl (⟨g_12, (by omega), (wkb r_10 rfl rfl), (by omega), hH⟩)
  · skip
    have r_11 : 0 ≤ z_5.toInt ∧ z_5.toInt ≤ 0 := by have h9_ := f_6; omega
    refine lv_iconst (v := (-1)) F.1 F.2.1 dX7_end_14 (by decide) ?_
    refine topK (a := (-1)) (by decide) (fun k_13 hk_13 => ?_)
    exact txI F hS dX7_end_15 rfl (⟨t, (by omega), (wkb (eqb hk_13) rfl rfl), (by omega), hH⟩)
set_option maxHeartbeats 4000000 in
set_option maxRecDepth 100000 in
theorem c_X7_spell (E : Ev) (ws : TD) (kp : TD) (as : TD) (rd : TD) (sc : TD) (ty : TD) (ik : TD) (un : Int × Int) (tk : Int × Int) (xt : Int × Int) (tp : Int × Int) (sp : Int × Int) (wrb : Int × Int) (nu : Int × Int) (nab : Int × Int) (iwb : Int × Int) (X0 : Nat → Int32) (a0 : Nat) (a1 : Int32) (ha0 : eT E a0 ∈ [24]) (hX0 : okR X0) : TcV E yX7_spell cX7_spell 2 ({ frames := 1, cells := 0, slots := 0, locals := 40 }) [.ref a0, .int a1] (fun H => TH E (tbM (mD (.inl tp) (.inl sp) (.inl nu) (.inl un) (.inl tk) (.inl xt) (.inl wrb) (.inl nab) (.inl iwb)) (xD 660 X0) ws kp as rd sc ty ik) H) (fun H => TH E (tbM (mD (.inl tp) (.inl sp) (.inl nu) (.inl un) (.inl tk) (.inl xt) (.inl wrb) (.inl nab) (.inl iwb)) (xD 660 X0) ws kp as rd sc ty ik) H) := by
  refine teV (by decide) (Nat.le_of_ble_eq_true rfl) ?_
  intro p_ ev_ s mi_ below_ meth cd_ ls F hK hN hO hH hS hl
  have hH : TH E (tbM (mD (.inl tp) (.inl sp) (.inl nu) (.inl un) (.inl tk) (.inl xt) (.inl wrb) (.inl nab) (.inl iwb)) (xD 660 X0) ws kp as rd sc ty ik) s.heap := hH
  have hl : lv_has ls 2 [(0, .ref a0), (1, .int a1)] := hl
  have hBX0 := okB hX0.1
  have hLX0 := hX0.2
  refine lv_aload_n F.1 F.2.1 dX7_spell_0 rfl (lv_at hl 0 rfl) ?_
  refine tGetI (j := 37) F hK hH (tyb ha0 (all1 rfl)) rfl clX7 (by decide) wd_55_12 dX7_spell_1 (fun z_1 hz_1 => ?_)
  refine lv_aload_n F.1 F.2.1 dX7_spell_4 rfl (lv_at hl 0 rfl) ?_
  refine tGetI (j := 38) F hK hH (tyb ha0 (all1 rfl)) rfl clX7 (by decide) wd_55_13 dX7_spell_5 (fun z_2 hz_2 => ?_)
  refine wjoin (σ := Unit) (pcj := 16) (stj := fun x9 => []) (fun x9 H locs ls => TH E (tbM (mD (.inl tp) (.inl sp) (.inl nu) (.inl un) (.inl tk) (.inl xt) (.inl wrb) (.inl nab) (.inl iwb)) (xD 660 X0) ws kp as rd sc ty ik) H ∧ va_S (eA E s.heap.size) s.heap H locs ∧ lv_has ls 2 [(0, .ref a0)]) (fun x9 H locs ls h_ => ?_) (fun J_16 => ?_)
  · skip
    obtain ⟨hH, hS, hl⟩ := h_
    have hH : TH E (tbM (mD (.inl tp) (.inl sp) (.inl nu) (.inl un) (.inl tk) (.inl xt) (.inl wrb) (.inl nab) (.inl iwb)) (xD 660 X0) ws kp as rd sc ty ik) H := hH
    have hl : lv_has ls 2 [(0, .ref a0)] := hl
    show W _ _ _ _ _ _ _ _ _ _ _ _ _ _ _ (F0 _ _ _ [])
    refine lv_aload_n F.1 F.2.1 dX7_spell_16 rfl (lv_at hl 0 rfl) ?_
    refine lv_dup F.1 F.2.1 dX7_spell_17 rfl ?_
    refine tGetI (j := 37) F hK hH (tyb ha0 (all1 rfl)) rfl clX7 (by decide) wd_55_12 dX7_spell_18 (fun z_3 hz_3 => ?_)
    refine lv_iconst (v := 1) F.1 F.2.1 dX7_spell_21 (by decide) ?_
    refine topK (a := 1) (by decide) (fun k_4 hk_4 => ?_)
    refine lv_iadd F.1 F.2.1 dX7_spell_22 ?_
    refine topF (fun z_5 => ?_)
    refine tPut (j := 37) F hK hH hS (tyb ha0 (all1 rfl)) rfl (fdI (i32b _)) clX7 (by decide) wd_55_12 rfl rfl rfl rfl dX7_spell_23 (fun H locs hH hS => ?_)
    exact txV F hS dX7_spell_26 (hH)
  refine b_ne (tgt := 16) F dX7_spell_8 (by decide) (fun c_6 => ?_) (fun c_6 => ?_)
  · skip
    exact J_16 () _ _ _ ⟨hH, hS, lv_sub hl [0] rfl⟩
  · skip
    refine lv_aload_n F.1 F.2.1 dX7_spell_11 rfl (lv_at hl 0 rfl) ?_
    refine lv_iload_n F.1 F.2.1 dX7_spell_12 rfl (lv_at hl 1 rfl) ?_
    refine tPut (j := 39) F hK hH hS (tyb ha0 (all1 rfl)) rfl (fdI (i32b _)) clX7 (by decide) wd_55_14 rfl rfl rfl rfl dX7_spell_13 (fun H locs hH hS => ?_)
    exact J_16 () _ _ _ ⟨hH, hS, lv_sub hl [0] rfl⟩
set_option maxHeartbeats 4000000 in
set_option maxRecDepth 100000 in
theorem c_X7_spellWord (E : Ev) (ws : TD) (kp : TD) (as : TD) (rd : TD) (sc : TD) (ty : TD) (ik : TD) (un : Int × Int) (tk : Int × Int) (xt : Int × Int) (tp : Int × Int) (sp : Int × Int) (wrb : Int × Int) (nu : Int × Int) (nab : Int × Int) (iwb : Int × Int) (X0 : Nat → Int32) (a0 : Nat) (t1 n1 : Nat) (ha0 : eT E a0 ∈ [24]) (ha1 : strOf t1 n1) (hX0 : okR X0) : TcV E yX7_spellWord cX7_spellWord 3 ({ frames := 5, cells := 0, slots := 0, locals := 181 }) [.ref a0, .ref (eX E t1)] (fun H => TH E (tbM (mD (.inl tp) (.inl sp) (.inl nu) (.inl un) (.inl tk) (.inl xt) (.inl wrb) (.inl nab) (.inl iwb)) (xD 660 X0) ws kp as rd sc ty ik) H) (fun H => TH E (tbM (mD (.inl tp) (.inl sp) (.inl nu) (.inl un) (.inl tk) (.inl xt) (.inl wrb) (.inl nab) (.inl iwb)) (xD 660 X0) ws kp as rd sc ty ik) H) := by
  refine teV (by decide) (Nat.le_of_ble_eq_true rfl) ?_
  intro p_ ev_ s mi_ below_ meth cd_ ls F hK hN hO hH hS hl
  have hH : TH E (tbM (mD (.inl tp) (.inl sp) (.inl nu) (.inl un) (.inl tk) (.inl xt) (.inl wrb) (.inl nab) (.inl iwb)) (xD 660 X0) ws kp as rd sc ty ik) s.heap := hH
  have hl : lv_has ls 3 [(0, .ref a0), (1, .ref (eX E t1))] := hl
  have hBX0 := okB hX0.1
  have hLX0 := hX0.2
  refine lv_iconst (v := 0) F.1 F.2.1 dX7_spellWord_0 (by decide) ?_
  refine topK (a := 0) (by decide) (fun k_1 hk_1 => ?_)
  refine lv_istore_n (lv' := [(2, .int k_1), (0, .ref a0), (1, .ref (eX E t1))]) F.1 F.2.1 dX7_spellWord_1 rfl hl (by decide) rfl (fun ls hl => ?_)
  refine wloop (σ := Int32) (fun n9 x9 H locs ls => (9 - x9.toInt + 1).toNat < n9 ∧ (0 ≤ x9.toInt ∧ x9.toInt ≤ 9) ∧ TH E (tbM (mD (.inl tp) (.inl sp) (.inl nu) (.inl un) (.inl tk) (.inl xt) (.inl wrb) (.inl nab) (.inl iwb)) (xD 660 X0) ws kp as rd sc ty ik) H ∧ va_S (eA E s.heap.size) s.heap H locs ∧ lv_has ls 3 [(0, .ref a0), (1, .ref (eX E t1)), (2, .int x9)]) ?_ (fun x9 H locs ls h => absurd h.1 (Nat.not_lt_zero _)) _ (k_1) ⟨Nat.lt_succ_self _, (wkb (eqb hk_1) rfl rfl), hH, hS, lv_sub hl [1, 2, 0] rfl⟩
  intro n_2 ih_2 u_2 H locs ls ⟨hm_2, hu_2, hH, hS, hl⟩
  have hm_2 : (9 - u_2.toInt + 1).toNat < n_2 + 1 := hm_2
  have hu_2 : (0 ≤ u_2.toInt ∧ u_2.toInt ≤ 9) := hu_2
  have hH : TH E (tbM (mD (.inl tp) (.inl sp) (.inl nu) (.inl un) (.inl tk) (.inl xt) (.inl wrb) (.inl nab) (.inl iwb)) (xD 660 X0) ws kp as rd sc ty ik) H := hH
  have hl : lv_has ls 3 [(0, .ref a0), (1, .ref (eX E t1)), (2, .int u_2)] := hl
  refine lv_iload_n F.1 F.2.1 dX7_spellWord_2 rfl (lv_at hl 2 rfl) ?_
  refine lv_aload_n F.1 F.2.1 dX7_spellWord_3 rfl (lv_at hl 1 rfl) ?_
  refine tVi (b := (eX E t1)) (As := []) (rest := [.int u_2]) F hK hN hO (c_len E (fun H => TH E (tbM (mD (.inl tp) (.inl sp) (.inl nu) (.inl un) (.inl tk) (.inl xt) (.inl wrb) (.inl nab) (.inl iwb)) (xD 660 X0) ws kp as rd sc ty ik) H) t1 n1 ha1) mv_J0_length_8abf5 wd_16_16 ⟨Nat.le_of_ble_eq_true rfl, Nat.le_of_ble_eq_true rfl⟩ ⟨Nat.le_of_ble_eq_true rfl, Nat.le_of_ble_eq_true rfl⟩ hH hS (sRecvS hO ha1 hS) rfl hl.1 (Nat.le_of_ble_eq_true rfl) dX7_spellWord_4 (fun z_3 H locs hq hS => ?_)
  obtain ⟨hz_3, hH⟩ := hq
  have hH : TH E (tbM (mD (.inl tp) (.inl sp) (.inl nu) (.inl un) (.inl tk) (.inl xt) (.inl wrb) (.inl nab) (.inl iwb)) (xD 660 X0) ws kp as rd sc ty ik) H := hH
  have ez_3 : 3 ≤ z_3.toInt ∧ z_3.toInt ≤ 6 := by have h9_ := strLe ha1; omega
  refine b_ge (tgt := 25) F dX7_spellWord_7 (by decide) (fun c_4 => ?_) (fun c_4 => ?_)
  · skip
    have r_5 : 3 ≤ u_2.toInt ∧ u_2.toInt ≤ 9 := by have h9_ := hu_2; omega
    exact txV F hS dX7_spellWord_25 (hH)
  · skip
    have r_6 : 0 ≤ u_2.toInt ∧ u_2.toInt ≤ 5 := by have h9_ := hu_2; omega
    refine lv_aload_n F.1 F.2.1 dX7_spellWord_10 rfl (lv_at hl 0 rfl) ?_
    refine lv_aload_n F.1 F.2.1 dX7_spellWord_11 rfl (lv_at hl 1 rfl) ?_
    refine lv_iload_n F.1 F.2.1 dX7_spellWord_12 rfl (lv_at hl 2 rfl) ?_
    refine tVi (b := (eX E t1)) (As := [.int u_2]) (rest := [.ref a0]) F hK hN hO (c_chr E (fun H => TH E (tbM (mD (.inl tp) (.inl sp) (.inl nu) (.inl un) (.inl tk) (.inl xt) (.inl wrb) (.inl nab) (.inl iwb)) (xD 660 X0) ws kp as rd sc ty ik) H) t1 n1 ha1 u_2 (by omega) (by omega)) mv_J0_charAt_5068e wd_16_17 ⟨Nat.le_of_ble_eq_true rfl, Nat.le_of_ble_eq_true rfl⟩ ⟨Nat.le_of_ble_eq_true rfl, Nat.le_of_ble_eq_true rfl⟩ hH hS (sRecvS hO ha1 hS) rfl hl.1 (Nat.le_of_ble_eq_true rfl) dX7_spellWord_13 (fun z_7 H locs hq hS => ?_)
    obtain ⟨hz_7, hH⟩ := hq
    have hH : TH E (tbM (mD (.inl tp) (.inl sp) (.inl nu) (.inl un) (.inl tk) (.inl xt) (.inl wrb) (.inl nab) (.inl iwb)) (xD 660 X0) ws kp as rd sc ty ik) H := hH
    have kz_7 := hz_7.2
    have hz_7 := hz_7.1
    refine tVv (b := a0) (As := [.int z_7]) (rest := []) F hK hN hO (c_X7_spell E ws kp as rd sc ty ik un tk xt tp sp wrb nu nab iwb X0 a0 z_7 ha0 hX0) mv_X7_spell wd_55_23 ⟨Nat.le_of_ble_eq_true rfl, Nat.le_of_ble_eq_true rfl⟩ ⟨Nat.le_of_ble_eq_true rfl, Nat.le_of_ble_eq_true rfl⟩ hH hS (tRecv hK hH (tyb ha0 (all1 rfl)) clX7) rfl hl.1 (Nat.le_of_ble_eq_true rfl) dX7_spellWord_16 (fun H locs hq hS => ?_)
    have hH := hq
    have hH : TH E (tbM (mD (.inl tp) (.inl sp) (.inl nu) (.inl un) (.inl tk) (.inl xt) (.inl wrb) (.inl nab) (.inl iwb)) (xD 660 X0) ws kp as rd sc ty ik) H := hH
    obtain ⟨x_9, ex_9, hx_9⟩ := iincB (c := 1) (lo := 1) (hi := 6) r_6 rfl
    refine lv_iinc (v := x_9) (lv' := [(2, .int x_9), (0, .ref a0), (1, .ref (eX E t1))]) F.1 F.2.1 dX7_spellWord_19 hl (k := 2) rfl ex_9 (by decide) rfl (fun ls hl => ?_)
    refine lv_goto (tgt := 2) F.1 F.2.1 dX7_spellWord_22 (by decide) ?_
    exact ih_2 (x_9) _ _ _ ⟨(show (9 - x_9.toInt + 1).toNat < n_2 from by omega), (wkb hx_9.2 rfl rfl), hH, hS, lv_sub hl [1, 2, 0] rfl⟩
set_option maxHeartbeats 4000000 in
set_option maxRecDepth 100000 in
theorem c_X7_spellPart (E : Ev) (ws : TD) (kp : TD) (as : TD) (rd : TD) (sc : TD) (ty : TD) (ik : TD) (un : Int × Int) (tk : Int × Int) (xt : Int × Int) (tp : Int × Int) (sp : Int × Int) (wrb : Int × Int) (nu : Int × Int) (nab : Int × Int) (iwb : Int × Int) (X0 : Nat → Int32) (a0 : Nat) (t1 n1 : Nat) (ha0 : eT E a0 ∈ [24]) (ha1 : strOf t1 n1) (hX0 : okR X0) : TcV E yX7_spellPart cX7_spellPart 2 ({ frames := 6, cells := 0, slots := 0, locals := 203 }) [.ref a0, .ref (eX E t1)] (fun H => TH E (tbM (mD (.inl tp) (.inl sp) (.inl nu) (.inl un) (.inl tk) (.inl xt) (.inl wrb) (.inl nab) (.inl iwb)) (xD 660 X0) ws kp as rd sc ty ik) H) (fun H => TH E (tbM (mD (.inl tp) (.inl sp) (.inl nu) (.inl un) (.inl tk) (.inl xt) (.inl wrb) (.inl nab) (.inl iwb)) (xD 660 X0) ws kp as rd sc ty ik) H) := by
  refine teV (by decide) (Nat.le_of_ble_eq_true rfl) ?_
  intro p_ ev_ s mi_ below_ meth cd_ ls F hK hN hO hH hS hl
  have hH : TH E (tbM (mD (.inl tp) (.inl sp) (.inl nu) (.inl un) (.inl tk) (.inl xt) (.inl wrb) (.inl nab) (.inl iwb)) (xD 660 X0) ws kp as rd sc ty ik) s.heap := hH
  have hl : lv_has ls 2 [(0, .ref a0), (1, .ref (eX E t1))] := hl
  have hBX0 := okB hX0.1
  have hLX0 := hX0.2
  refine lv_aload_n F.1 F.2.1 dX7_spellPart_0 rfl (lv_at hl 0 rfl) ?_
  refine tGetI (j := 37) F hK hH (tyb ha0 (all1 rfl)) rfl clX7 (by decide) wd_55_12 dX7_spellPart_1 (fun z_1 hz_1 => ?_)
  refine z_le (tgt := 13) F dX7_spellPart_4 (by decide) (fun c_2 => ?_) (fun c_2 => ?_)
  · skip
    have r_3 : (-2147483648) ≤ z_1.toInt ∧ z_1.toInt ≤ 0 := by have h9_ := hz_1; omega
    refine lv_aload_n F.1 F.2.1 dX7_spellPart_13 rfl (lv_at hl 0 rfl) ?_
    refine lv_aload_n F.1 F.2.1 dX7_spellPart_14 rfl (lv_at hl 1 rfl) ?_
    refine tVv (b := a0) (As := [.ref (eX E t1)]) (rest := []) F hK hN hO (c_X7_spellWord E ws kp as rd sc ty ik un tk xt tp sp wrb nu nab iwb X0 a0 t1 n1 ha0 ha1 hX0) mv_X7_spellWord wd_56_3 ⟨Nat.le_of_ble_eq_true rfl, Nat.le_of_ble_eq_true rfl⟩ ⟨Nat.le_of_ble_eq_true rfl, Nat.le_of_ble_eq_true rfl⟩ hH hS (tRecv hK hH (tyb ha0 (all1 rfl)) clX7) rfl hl.1 (Nat.le_of_ble_eq_true rfl) dX7_spellPart_15 (fun H locs hq hS => ?_)
    have hH := hq
    have hH : TH E (tbM (mD (.inl tp) (.inl sp) (.inl nu) (.inl un) (.inl tk) (.inl xt) (.inl wrb) (.inl nab) (.inl iwb)) (xD 660 X0) ws kp as rd sc ty ik) H := hH
    exact txV F hS dX7_spellPart_18 (hH)
  · skip
    have r_4 : 1 ≤ z_1.toInt ∧ z_1.toInt ≤ 2147483647 := by have h9_ := hz_1; omega
    refine lv_aload_n F.1 F.2.1 dX7_spellPart_7 rfl (lv_at hl 0 rfl) ?_
    refine lv_bipush (v := 59) F.1 F.2.1 dX7_spellPart_8 (by decide) ?_
    refine topK (a := 59) (by decide) (fun k_6 hk_6 => ?_)
    refine tVv (b := a0) (As := [.int k_6]) (rest := []) F hK hN hO (c_X7_spell E ws kp as rd sc ty ik un tk xt tp sp wrb nu nab iwb X0 a0 k_6 ha0 hX0) mv_X7_spell wd_55_23 ⟨Nat.le_of_ble_eq_true rfl, Nat.le_of_ble_eq_true rfl⟩ ⟨Nat.le_of_ble_eq_true rfl, Nat.le_of_ble_eq_true rfl⟩ hH hS (tRecv hK hH (tyb ha0 (all1 rfl)) clX7) rfl hl.1 (Nat.le_of_ble_eq_true rfl) dX7_spellPart_10 (fun H locs hq hS => ?_)
    have hH := hq
    have hH : TH E (tbM (mD (.inl tp) (.inl sp) (.inl nu) (.inl un) (.inl tk) (.inl xt) (.inl wrb) (.inl nab) (.inl iwb)) (xD 660 X0) ws kp as rd sc ty ik) H := hH
    refine lv_aload_n F.1 F.2.1 dX7_spellPart_13 rfl (lv_at hl 0 rfl) ?_
    refine lv_aload_n F.1 F.2.1 dX7_spellPart_14 rfl (lv_at hl 1 rfl) ?_
    refine tVv (b := a0) (As := [.ref (eX E t1)]) (rest := []) F hK hN hO (c_X7_spellWord E ws kp as rd sc ty ik un tk xt tp sp wrb nu nab iwb X0 a0 t1 n1 ha0 ha1 hX0) mv_X7_spellWord wd_56_3 ⟨Nat.le_of_ble_eq_true rfl, Nat.le_of_ble_eq_true rfl⟩ ⟨Nat.le_of_ble_eq_true rfl, Nat.le_of_ble_eq_true rfl⟩ hH hS (tRecv hK hH (tyb ha0 (all1 rfl)) clX7) rfl hl.1 (Nat.le_of_ble_eq_true rfl) dX7_spellPart_15 (fun H locs hq hS => ?_)
    have hH := hq
    have hH : TH E (tbM (mD (.inl tp) (.inl sp) (.inl nu) (.inl un) (.inl tk) (.inl xt) (.inl wrb) (.inl nab) (.inl iwb)) (xD 660 X0) ws kp as rd sc ty ik) H := hH
    exact txV F hS dX7_spellPart_18 (hH)
set_option maxHeartbeats 4000000 in
set_option maxRecDepth 100000 in
theorem c_X7_spellNumber (E : Ev) (ws : TD) (kp : TD) (as : TD) (rd : TD) (sc : TD) (ty : TD) (ik : TD) (un : Int × Int) (tk : Int × Int) (xt : Int × Int) (tp : Int × Int) (sp : Int × Int) (wrb : Int × Int) (nu : Int × Int) (nab : Int × Int) (iwb : Int × Int) (X0 : Nat → Int32) (a0 : Nat) (a1 : Int32) (ha0 : eT E a0 ∈ [24]) (hX0 : okR X0) : TcV E yX7_spellNumber cX7_spellNumber 3 ({ frames := 2, cells := 0, slots := 0, locals := 61 }) [.ref a0, .int a1] (fun H => TH E (tbM (mD (.inl tp) (.inl sp) (.inl nu) (.inl un) (.inl tk) (.inl xt) (.inl wrb) (.inl nab) (.inl iwb)) (xD 660 X0) ws kp as rd sc ty ik) H) (fun H => TH E (tbM (mD (.inl tp) (.inl sp) (.inl nu) (.inl un) (.inl tk) (.inl xt) (.inl wrb) (.inl nab) (.inl iwb)) (xD 660 X0) ws kp as rd sc ty ik) H) := by
  refine teV (by decide) (Nat.le_of_ble_eq_true rfl) ?_
  intro p_ ev_ s mi_ below_ meth cd_ ls F hK hN hO hH hS hl
  have hH : TH E (tbM (mD (.inl tp) (.inl sp) (.inl nu) (.inl un) (.inl tk) (.inl xt) (.inl wrb) (.inl nab) (.inl iwb)) (xD 660 X0) ws kp as rd sc ty ik) s.heap := hH
  have hl : lv_has ls 3 [(0, .ref a0), (1, .int a1)] := hl
  have hBX0 := okB hX0.1
  have hLX0 := hX0.2
  refine lv_aload_n F.1 F.2.1 dX7_spellNumber_0 rfl (lv_at hl 0 rfl) ?_
  refine lv_bipush (v := 32) F.1 F.2.1 dX7_spellNumber_1 (by decide) ?_
  refine topK (a := 32) (by decide) (fun k_1 hk_1 => ?_)
  refine tVv (b := a0) (As := [.int k_1]) (rest := []) F hK hN hO (c_X7_spell E ws kp as rd sc ty ik un tk xt tp sp wrb nu nab iwb X0 a0 k_1 ha0 hX0) mv_X7_spell wd_55_23 ⟨Nat.le_of_ble_eq_true rfl, Nat.le_of_ble_eq_true rfl⟩ ⟨Nat.le_of_ble_eq_true rfl, Nat.le_of_ble_eq_true rfl⟩ hH hS (tRecv hK hH (tyb ha0 (all1 rfl)) clX7) rfl hl.1 (Nat.le_of_ble_eq_true rfl) dX7_spellNumber_3 (fun H locs hq hS => ?_)
  have hH := hq
  have hH : TH E (tbM (mD (.inl tp) (.inl sp) (.inl nu) (.inl un) (.inl tk) (.inl xt) (.inl wrb) (.inl nab) (.inl iwb)) (xD 660 X0) ws kp as rd sc ty ik) H := hH
  refine lv_iconst (v := 1) F.1 F.2.1 dX7_spellNumber_6 (by decide) ?_
  refine topK (a := 1) (by decide) (fun k_3 hk_3 => ?_)
  refine lv_istore_n (lv' := [(2, .int k_3), (0, .ref a0), (1, .int a1)]) F.1 F.2.1 dX7_spellNumber_7 rfl hl (by decide) rfl (fun ls hl => ?_)
  refine wloop (σ := Int32) (fun n9 x9 H locs ls => (2147483648 - x9.toInt).toNat < n9 ∧ (1 ≤ x9.toInt ∧ x9.toInt ≤ 2147483640) ∧ TH E (tbM (mD (.inl tp) (.inl sp) (.inl nu) (.inl un) (.inl tk) (.inl xt) (.inl wrb) (.inl nab) (.inl iwb)) (xD 660 X0) ws kp as rd sc ty ik) H ∧ va_S (eA E s.heap.size) s.heap H locs ∧ lv_has ls 3 [(0, .ref a0), (1, .int a1), (2, .int x9)]) ?_ (fun x9 H locs ls h => absurd h.1 (Nat.not_lt_zero _)) _ (k_3) ⟨Nat.lt_succ_self _, (wkb (eqb hk_3) rfl rfl), hH, hS, lv_sub hl [1, 2, 0] rfl⟩
  intro n_8 ih_8 u_4 H locs ls ⟨hm_8, hu_4, hH, hS, hl⟩
  have hm_8 : (2147483648 - u_4.toInt).toNat < n_8 + 1 := hm_8
  have hu_4 : (1 ≤ u_4.toInt ∧ u_4.toInt ≤ 2147483640) := hu_4
  have hH : TH E (tbM (mD (.inl tp) (.inl sp) (.inl nu) (.inl un) (.inl tk) (.inl xt) (.inl wrb) (.inl nab) (.inl iwb)) (xD 660 X0) ws kp as rd sc ty ik) H := hH
  have hl : lv_has ls 3 [(0, .ref a0), (1, .int a1), (2, .int u_4)] := hl
  refine lv_iload_n F.1 F.2.1 dX7_spellNumber_8 rfl (lv_at hl 1 rfl) ?_
  refine lv_iload_n F.1 F.2.1 dX7_spellNumber_9 rfl (lv_at hl 2 rfl) ?_
  refine tDivV F dX7_spellNumber_10 (by omega) (fun z_5 hz_5 => ?_)
  have iz_5 := i32b a1
  refine lv_bipush (v := 10) F.1 F.2.1 dX7_spellNumber_11 (by decide) ?_
  refine topK (a := 10) (by decide) (fun k_6 hk_6 => ?_)
  refine b_lt (tgt := 24) F dX7_spellNumber_13 (by decide) (fun c_7 => ?_) (fun c_7 => ?_)
  · skip
    have r_8 : (-2147483648) ≤ z_5.toInt ∧ z_5.toInt ≤ 9 := by have h9_ := (i32b z_5); omega
    refine wloop (σ := Int32) (fun n9 x9 H locs ls => (x9.toInt).toNat < n9 ∧ (0 ≤ x9.toInt ∧ x9.toInt ≤ 2147483640) ∧ TH E (tbM (mD (.inl tp) (.inl sp) (.inl nu) (.inl un) (.inl tk) (.inl xt) (.inl wrb) (.inl nab) (.inl iwb)) (xD 660 X0) ws kp as rd sc ty ik) H ∧ va_S (eA E s.heap.size) s.heap H locs ∧ lv_has ls 3 [(0, .ref a0), (1, .int a1), (2, .int x9)]) ?_ (fun x9 H locs ls h => absurd h.1 (Nat.not_lt_zero _)) _ (u_4) ⟨Nat.lt_succ_self _, (wkb hu_4 rfl rfl), hH, hS, lv_sub hl [0, 1, 2] rfl⟩
    intro n_24 ih_24 u_10 H locs ls ⟨hm_24, hu_10, hH, hS, hl⟩
    have hm_24 : (u_10.toInt).toNat < n_24 + 1 := hm_24
    have hu_10 : (0 ≤ u_10.toInt ∧ u_10.toInt ≤ 2147483640) := hu_10
    have hH : TH E (tbM (mD (.inl tp) (.inl sp) (.inl nu) (.inl un) (.inl tk) (.inl xt) (.inl wrb) (.inl nab) (.inl iwb)) (xD 660 X0) ws kp as rd sc ty ik) H := hH
    have hl : lv_has ls 3 [(0, .ref a0), (1, .int a1), (2, .int u_10)] := hl
    refine lv_iload_n F.1 F.2.1 dX7_spellNumber_24 rfl (lv_at hl 2 rfl) ?_
    refine z_le (tgt := 49) F dX7_spellNumber_25 (by decide) (fun c_11 => ?_) (fun c_11 => ?_)
    · skip
      have r_12 : 0 ≤ u_10.toInt ∧ u_10.toInt ≤ 0 := by have h9_ := hu_10; omega
      exact txV F hS dX7_spellNumber_49 (hH)
    · skip
      have r_13 : 1 ≤ u_10.toInt ∧ u_10.toInt ≤ 2147483640 := by have h9_ := hu_10; omega
      refine lv_aload_n F.1 F.2.1 dX7_spellNumber_28 rfl (lv_at hl 0 rfl) ?_
      refine lv_bipush (v := 48) F.1 F.2.1 dX7_spellNumber_29 (by decide) ?_
      refine topK (a := 48) (by decide) (fun k_14 hk_14 => ?_)
      refine lv_iload_n F.1 F.2.1 dX7_spellNumber_31 rfl (lv_at hl 1 rfl) ?_
      refine lv_iload_n F.1 F.2.1 dX7_spellNumber_32 rfl (lv_at hl 2 rfl) ?_
      refine tDivF F dX7_spellNumber_33 (by omega) (fun z_15 => ?_)
      refine lv_bipush (v := 10) F.1 F.2.1 dX7_spellNumber_34 (by decide) ?_
      refine topK (a := 10) (by decide) (fun k_16 hk_16 => ?_)
      refine tRemF F dX7_spellNumber_36 (by omega) (fun z_17 => ?_)
      refine lv_iadd F.1 F.2.1 dX7_spellNumber_37 ?_
      refine topF (fun z_18 => ?_)
      refine tVv (b := a0) (As := [.int z_18]) (rest := []) F hK hN hO (c_X7_spell E ws kp as rd sc ty ik un tk xt tp sp wrb nu nab iwb X0 a0 z_18 ha0 hX0) mv_X7_spell wd_55_23 ⟨Nat.le_of_ble_eq_true rfl, Nat.le_of_ble_eq_true rfl⟩ ⟨Nat.le_of_ble_eq_true rfl, Nat.le_of_ble_eq_true rfl⟩ hH hS (tRecv hK hH (tyb ha0 (all1 rfl)) clX7) rfl hl.1 (Nat.le_of_ble_eq_true rfl) dX7_spellNumber_38 (fun H locs hq hS => ?_)
      have hH := hq
      have hH : TH E (tbM (mD (.inl tp) (.inl sp) (.inl nu) (.inl un) (.inl tk) (.inl xt) (.inl wrb) (.inl nab) (.inl iwb)) (xD 660 X0) ws kp as rd sc ty ik) H := hH
      refine lv_iload_n F.1 F.2.1 dX7_spellNumber_41 rfl (lv_at hl 2 rfl) ?_
      refine lv_bipush (v := 10) F.1 F.2.1 dX7_spellNumber_42 (by decide) ?_
      refine topK (a := 10) (by decide) (fun k_20 hk_20 => ?_)
      refine tDiv (k := 10) (lo := 0) (hi := 214748364) F dX7_spellNumber_44 r_13 hk_20 rfl (fun z_21 hz_21 => ?_)
      refine lv_istore_n (lv' := [(2, .int z_21), (0, .ref a0), (1, .int a1)]) F.1 F.2.1 dX7_spellNumber_45 rfl hl (by decide) rfl (fun ls hl => ?_)
      refine lv_goto (tgt := 24) F.1 F.2.1 dX7_spellNumber_46 (by decide) ?_
      exact ih_24 (z_21) _ _ _ ⟨(show (z_21.toInt).toNat < n_24 from by omega), (wkb hz_21.2 rfl rfl), hH, hS, lv_sub hl [1, 2, 0] rfl⟩
  · skip
    have r_9 : 10 ≤ z_5.toInt ∧ z_5.toInt ≤ 2147483647 := by have h9_ := (i32b z_5); omega
    have r_22 : 1 ≤ u_4.toInt ∧ u_4.toInt ≤ 214748364 := by have h9_ := hu_4; omega
    refine lv_iload_n F.1 F.2.1 dX7_spellNumber_16 rfl (lv_at hl 2 rfl) ?_
    refine lv_bipush (v := 10) F.1 F.2.1 dX7_spellNumber_17 (by decide) ?_
    refine topK (a := 10) (by decide) (fun k_23 hk_23 => ?_)
    refine tMul (lo := 10) (hi := 2147483640) F dX7_spellNumber_19 r_22 (eqb hk_23) rfl (fun z_24 hz_24 => ?_)
    have mz_24 : z_24.toInt = u_4.toInt * 10 := by rw [hz_24.1, hk_23]
    refine lv_istore_n (lv' := [(2, .int z_24), (0, .ref a0), (1, .int a1)]) F.1 F.2.1 dX7_spellNumber_20 rfl hl (by decide) rfl (fun ls hl => ?_)
    refine lv_goto (tgt := 8) F.1 F.2.1 dX7_spellNumber_21 (by decide) ?_
    exact ih_8 (z_24) _ _ _ ⟨(show (2147483648 - z_24.toInt).toNat < n_8 from by omega), (wkb hz_24.2 rfl rfl), hH, hS, lv_sub hl [1, 2, 0] rfl⟩
set_option maxHeartbeats 4000000 in
set_option maxRecDepth 100000 in
theorem c_X7_spellReach (E : Ev) (ws : TD) (kp : TD) (as : TD) (rd : TD) (sc : TD) (ty : TD) (ik : TD) (un : Int × Int) (tk : Int × Int) (xt : Int × Int) (tp : Int × Int) (sp : Int × Int) (wrb : Int × Int) (nu : Int × Int) (nab : Int × Int) (iwb : Int × Int) (X0 : Nat → Int32) (a0 : Nat) (a1 : Int32) (ha0 : eT E a0 ∈ [24]) (ha1 : 0 ≤ a1.toInt ∧ a1.toInt ≤ 11) (hX0 : okR X0) : TcV E yX7_spellReach cX7_spellReach 3 ({ frames := 7, cells := 0, slots := 0, locals := 224 }) [.ref a0, .int a1] (fun H => TH E (tbM (mD (.inl tp) (.inl sp) (.inl nu) (.inl un) (.inl tk) (.inl xt) (.inl wrb) (.inl nab) (.inl iwb)) (xD 660 X0) ws kp as rd sc ty ik) H) (fun H => TH E (tbM (mD (.inl tp) (.inl sp) (.inl nu) (.inl un) (.inl tk) (.inl xt) (.inl wrb) (.inl nab) (.inl iwb)) (xD 660 X0) ws kp as rd sc ty ik) H) := by
  refine teV (by decide) (Nat.le_of_ble_eq_true rfl) ?_
  intro p_ ev_ s mi_ below_ meth cd_ ls F hK hN hO hH hS hl
  have hH : TH E (tbM (mD (.inl tp) (.inl sp) (.inl nu) (.inl un) (.inl tk) (.inl xt) (.inl wrb) (.inl nab) (.inl iwb)) (xD 660 X0) ws kp as rd sc ty ik) s.heap := hH
  have hl : lv_has ls 3 [(0, .ref a0), (1, .int a1)] := hl
  have hBX0 := okB hX0.1
  have hLX0 := hX0.2
  refine lv_aload_n F.1 F.2.1 dX7_spellReach_0 rfl (lv_at hl 0 rfl) ?_
  refine ldcwS F.1 F.2.1 F.2.2.2.2.1 (hO.1 18 _ rfl).1 dX7_spellReach_1 ?_
  refine tVv (b := a0) (As := [.ref (eX E 18)]) (rest := []) F hK hN hO (c_X7_spellPart E ws kp as rd sc ty ik un tk xt tp sp wrb nu nab iwb X0 a0 18 5 ha0 (strAt 18 rfl) hX0) mv_X7_spellPart wd_55_19 ⟨Nat.le_of_ble_eq_true rfl, Nat.le_of_ble_eq_true rfl⟩ ⟨Nat.le_of_ble_eq_true rfl, Nat.le_of_ble_eq_true rfl⟩ hH hS (tRecv hK hH (tyb ha0 (all1 rfl)) clX7) rfl hl.1 (Nat.le_of_ble_eq_true rfl) dX7_spellReach_4 (fun H locs hq hS => ?_)
  have hH := hq
  have hH : TH E (tbM (mD (.inl tp) (.inl sp) (.inl nu) (.inl un) (.inl tk) (.inl xt) (.inl wrb) (.inl nab) (.inl iwb)) (xD 660 X0) ws kp as rd sc ty ik) H := hH
  refine lv_aload_n F.1 F.2.1 dX7_spellReach_7 rfl (lv_at hl 0 rfl) ?_
  refine lv_iload_n F.1 F.2.1 dX7_spellReach_8 rfl (lv_at hl 1 rfl) ?_
  refine lv_iconst (v := 0) F.1 F.2.1 dX7_spellReach_9 (by decide) ?_
  refine topK (a := 0) (by decide) (fun k_2 hk_2 => ?_)
  refine tVi (b := a0) (As := [.int a1, .int k_2]) (rest := []) F hK hN hO (c_X7_ofReach_0 E ws kp as rd sc ty ik un tk xt tp sp wrb nu nab iwb X0 a0 a1 k_2 ha0 ha1 (eqb hk_2) ((hX0).1)) mv_X7_ofReach wd_28_15 ⟨Nat.le_of_ble_eq_true rfl, Nat.le_of_ble_eq_true rfl⟩ ⟨Nat.le_of_ble_eq_true rfl, Nat.le_of_ble_eq_true rfl⟩ hH hS (tRecv hK hH (tyb ha0 (all1 rfl)) clX7) rfl hl.1 (Nat.le_of_ble_eq_true rfl) dX7_spellReach_10 (fun z_3 H locs hq hS => ?_)
  obtain ⟨f_4, f_5, f_6, hH⟩ := hq
  have hH : TH E (tbM (mD (.inl tp) (.inl sp) (.inl nu) (.inl un) (.inl tk) (.inl xt) (.inl wrb) (.inl nab) (.inl iwb)) (xD 660 X0) ws kp as rd sc ty ik) H := hH
  refine lv_iconst (v := (-1)) F.1 F.2.1 dX7_spellReach_13 (by decide) ?_
  refine topK (a := (-1)) (by decide) (fun k_7 hk_7 => ?_)
  refine b_ne (tgt := 27) F dX7_spellReach_14 (by decide) (fun c_8 => ?_) (fun c_8 => ?_)
  · skip
    have r_9 : 0 ≤ z_3.toInt ∧ z_3.toInt ≤ 10 := by have h9_ := f_4; omega
    refine lv_aload_n F.1 F.2.1 dX7_spellReach_27 rfl (lv_at hl 0 rfl) ?_
    refine lv_aload_n F.1 F.2.1 dX7_spellReach_28 rfl (lv_at hl 0 rfl) ?_
    refine lv_iload_n F.1 F.2.1 dX7_spellReach_29 rfl (lv_at hl 1 rfl) ?_
    refine lv_iconst (v := 0) F.1 F.2.1 dX7_spellReach_30 (by decide) ?_
    refine topK (a := 0) (by decide) (fun k_11 hk_11 => ?_)
    refine tVi (b := a0) (As := [.int a1, .int k_11]) (rest := [.ref a0]) F hK hN hO (c_X7_ofReach_0 E ws kp as rd sc ty ik un tk xt tp sp wrb nu nab iwb X0 a0 a1 k_11 ha0 ha1 (eqb hk_11) ((hX0).1)) mv_X7_ofReach wd_28_15 ⟨Nat.le_of_ble_eq_true rfl, Nat.le_of_ble_eq_true rfl⟩ ⟨Nat.le_of_ble_eq_true rfl, Nat.le_of_ble_eq_true rfl⟩ hH hS (tRecv hK hH (tyb ha0 (all1 rfl)) clX7) rfl hl.1 (Nat.le_of_ble_eq_true rfl) dX7_spellReach_31 (fun z_12 H locs hq hS => ?_)
    obtain ⟨f_13, f_14, f_15, hH⟩ := hq
    have hH : TH E (tbM (mD (.inl tp) (.inl sp) (.inl nu) (.inl un) (.inl tk) (.inl xt) (.inl wrb) (.inl nab) (.inl iwb)) (xD 660 X0) ws kp as rd sc ty ik) H := hH
    refine tVv (b := a0) (As := [.int z_12]) (rest := []) F hK hN hO (c_X7_spellNumber E ws kp as rd sc ty ik un tk xt tp sp wrb nu nab iwb X0 a0 z_12 ha0 hX0) mv_X7_spellNumber wd_56_7 ⟨Nat.le_of_ble_eq_true rfl, Nat.le_of_ble_eq_true rfl⟩ ⟨Nat.le_of_ble_eq_true rfl, Nat.le_of_ble_eq_true rfl⟩ hH hS (tRecv hK hH (tyb ha0 (all1 rfl)) clX7) rfl hl.1 (Nat.le_of_ble_eq_true rfl) dX7_spellReach_34 (fun H locs hq hS => ?_)
    have hH := hq
    have hH : TH E (tbM (mD (.inl tp) (.inl sp) (.inl nu) (.inl un) (.inl tk) (.inl xt) (.inl wrb) (.inl nab) (.inl iwb)) (xD 660 X0) ws kp as rd sc ty ik) H := hH
    refine lv_iconst (v := 0) F.1 F.2.1 dX7_spellReach_37 (by decide) ?_
    refine topK (a := 0) (by decide) (fun k_17 hk_17 => ?_)
    refine lv_istore_n (lv' := [(2, .int k_17), (0, .ref a0), (1, .int a1)]) F.1 F.2.1 dX7_spellReach_38 rfl hl (by decide) rfl (fun ls hl => ?_)
    refine wloop (σ := Int32) (fun n9 x9 H locs ls => (4 - x9.toInt + 1).toNat < n9 ∧ (0 ≤ x9.toInt ∧ x9.toInt ≤ 4) ∧ TH E (tbM (mD (.inl tp) (.inl sp) (.inl nu) (.inl un) (.inl tk) (.inl xt) (.inl wrb) (.inl nab) (.inl iwb)) (xD 660 X0) ws kp as rd sc ty ik) H ∧ va_S (eA E s.heap.size) s.heap H locs ∧ lv_has ls 3 [(0, .ref a0), (1, .int a1), (2, .int x9)]) ?_ (fun x9 H locs ls h => absurd h.1 (Nat.not_lt_zero _)) _ (k_17) ⟨Nat.lt_succ_self _, (wkb (eqb hk_17) rfl rfl), hH, hS, lv_sub hl [1, 2, 0] rfl⟩
    intro n_39 ih_39 u_18 H locs ls ⟨hm_39, hu_18, hH, hS, hl⟩
    have hm_39 : (4 - u_18.toInt + 1).toNat < n_39 + 1 := hm_39
    have hu_18 : (0 ≤ u_18.toInt ∧ u_18.toInt ≤ 4) := hu_18
    have hH : TH E (tbM (mD (.inl tp) (.inl sp) (.inl nu) (.inl un) (.inl tk) (.inl xt) (.inl wrb) (.inl nab) (.inl iwb)) (xD 660 X0) ws kp as rd sc ty ik) H := hH
    have hl : lv_has ls 3 [(0, .ref a0), (1, .int a1), (2, .int u_18)] := hl
    refine lv_iload_n F.1 F.2.1 dX7_spellReach_39 rfl (lv_at hl 2 rfl) ?_
    refine lv_iconst (v := 4) F.1 F.2.1 dX7_spellReach_40 (by decide) ?_
    refine topK (a := 4) (by decide) (fun k_19 hk_19 => ?_)
    refine b_ge (tgt := 62) F dX7_spellReach_41 (by decide) (fun c_20 => ?_) (fun c_20 => ?_)
    · skip
      have r_21 : 4 ≤ u_18.toInt ∧ u_18.toInt ≤ 4 := by have h9_ := hu_18; omega
      refine lv_aload_n F.1 F.2.1 dX7_spellReach_62 rfl (lv_at hl 0 rfl) ?_
      refine lv_iload_n F.1 F.2.1 dX7_spellReach_63 rfl (lv_at hl 1 rfl) ?_
      refine lv_iconst (v := 1) F.1 F.2.1 dX7_spellReach_64 (by decide) ?_
      refine topK (a := 1) (by decide) (fun k_23 hk_23 => ?_)
      refine tVi (b := a0) (As := [.int a1, .int k_23]) (rest := []) F hK hN hO (c_X7_ofReach_1 E ws kp as rd sc ty ik un tk xt tp sp wrb nu nab iwb X0 a0 a1 k_23 ha0 ha1 (eqb hk_23) ((hX0).1)) mv_X7_ofReach wd_28_15 ⟨Nat.le_of_ble_eq_true rfl, Nat.le_of_ble_eq_true rfl⟩ ⟨Nat.le_of_ble_eq_true rfl, Nat.le_of_ble_eq_true rfl⟩ hH hS (tRecv hK hH (tyb ha0 (all1 rfl)) clX7) rfl hl.1 (Nat.le_of_ble_eq_true rfl) dX7_spellReach_65 (fun z_24 H locs hq hS => ?_)
      obtain ⟨f_25, f_26, hH⟩ := hq
      have hH : TH E (tbM (mD (.inl tp) (.inl sp) (.inl nu) (.inl un) (.inl tk) (.inl xt) (.inl wrb) (.inl nab) (.inl iwb)) (xD 660 X0) ws kp as rd sc ty ik) H := hH
      refine z_ne (tgt := 72) F dX7_spellReach_68 (by decide) (fun c_27 => ?_) (fun c_27 => ?_)
      · skip
        refine lv_aload_n F.1 F.2.1 dX7_spellReach_72 rfl (lv_at hl 0 rfl) ?_
        refine ldcwS F.1 F.2.1 F.2.2.2.2.1 (hO.1 28 _ rfl).1 dX7_spellReach_73 ?_
        refine tVv (b := a0) (As := [.ref (eX E 28)]) (rest := []) F hK hN hO (c_X7_spellWord E ws kp as rd sc ty ik un tk xt tp sp wrb nu nab iwb X0 a0 28 5 ha0 (strAt 28 rfl) hX0) mv_X7_spellWord wd_56_3 ⟨Nat.le_of_ble_eq_true rfl, Nat.le_of_ble_eq_true rfl⟩ ⟨Nat.le_of_ble_eq_true rfl, Nat.le_of_ble_eq_true rfl⟩ hH hS (tRecv hK hH (tyb ha0 (all1 rfl)) clX7) rfl hl.1 (Nat.le_of_ble_eq_true rfl) dX7_spellReach_76 (fun H locs hq hS => ?_)
        have hH := hq
        have hH : TH E (tbM (mD (.inl tp) (.inl sp) (.inl nu) (.inl un) (.inl tk) (.inl xt) (.inl wrb) (.inl nab) (.inl iwb)) (xD 660 X0) ws kp as rd sc ty ik) H := hH
        refine lv_aload_n F.1 F.2.1 dX7_spellReach_79 rfl (lv_at hl 0 rfl) ?_
        refine lv_aload_n F.1 F.2.1 dX7_spellReach_80 rfl (lv_at hl 0 rfl) ?_
        refine lv_iload_n F.1 F.2.1 dX7_spellReach_81 rfl (lv_at hl 1 rfl) ?_
        refine lv_iconst (v := 1) F.1 F.2.1 dX7_spellReach_82 (by decide) ?_
        refine topK (a := 1) (by decide) (fun k_30 hk_30 => ?_)
        refine tVi (b := a0) (As := [.int a1, .int k_30]) (rest := [.ref a0]) F hK hN hO (c_X7_ofReach_1 E ws kp as rd sc ty ik un tk xt tp sp wrb nu nab iwb X0 a0 a1 k_30 ha0 ha1 (eqb hk_30) ((hX0).1)) mv_X7_ofReach wd_28_15 ⟨Nat.le_of_ble_eq_true rfl, Nat.le_of_ble_eq_true rfl⟩ ⟨Nat.le_of_ble_eq_true rfl, Nat.le_of_ble_eq_true rfl⟩ hH hS (tRecv hK hH (tyb ha0 (all1 rfl)) clX7) rfl hl.1 (Nat.le_of_ble_eq_true rfl) dX7_spellReach_83 (fun z_31 H locs hq hS => ?_)
        obtain ⟨f_32, f_33, hH⟩ := hq
        have hH : TH E (tbM (mD (.inl tp) (.inl sp) (.inl nu) (.inl un) (.inl tk) (.inl xt) (.inl wrb) (.inl nab) (.inl iwb)) (xD 660 X0) ws kp as rd sc ty ik) H := hH
        refine tVv (b := a0) (As := [.int z_31]) (rest := []) F hK hN hO (c_X7_spellNumber E ws kp as rd sc ty ik un tk xt tp sp wrb nu nab iwb X0 a0 z_31 ha0 hX0) mv_X7_spellNumber wd_56_7 ⟨Nat.le_of_ble_eq_true rfl, Nat.le_of_ble_eq_true rfl⟩ ⟨Nat.le_of_ble_eq_true rfl, Nat.le_of_ble_eq_true rfl⟩ hH hS (tRecv hK hH (tyb ha0 (all1 rfl)) clX7) rfl hl.1 (Nat.le_of_ble_eq_true rfl) dX7_spellReach_86 (fun H locs hq hS => ?_)
        have hH := hq
        have hH : TH E (tbM (mD (.inl tp) (.inl sp) (.inl nu) (.inl un) (.inl tk) (.inl xt) (.inl wrb) (.inl nab) (.inl iwb)) (xD 660 X0) ws kp as rd sc ty ik) H := hH
        exact txV F hS dX7_spellReach_89 (hH)
      · skip
        have r_28 : 0 ≤ z_24.toInt ∧ z_24.toInt ≤ 0 := by have h9_ := f_25; omega
        exact txV F hS dX7_spellReach_71 (hH)
    · skip
      have r_22 : 0 ≤ u_18.toInt ∧ u_18.toInt ≤ 3 := by have h9_ := hu_18; omega
      refine lv_aload_n F.1 F.2.1 dX7_spellReach_44 rfl (lv_at hl 0 rfl) ?_
      refine lv_aload_n F.1 F.2.1 dX7_spellReach_45 rfl (lv_at hl 0 rfl) ?_
      refine lv_iload_n F.1 F.2.1 dX7_spellReach_46 rfl (lv_at hl 1 rfl) ?_
      refine lv_iconst (v := 2) F.1 F.2.1 dX7_spellReach_47 (by decide) ?_
      refine topK (a := 2) (by decide) (fun k_35 hk_35 => ?_)
      refine lv_iload_n F.1 F.2.1 dX7_spellReach_48 rfl (lv_at hl 2 rfl) ?_
      refine tAdd (lo := 2) (hi := 5) F dX7_spellReach_49 (eqb hk_35) r_22 rfl (fun z_36 hz_36 => ?_)
      refine tVi (b := a0) (As := [.int a1, .int z_36]) (rest := [.ref a0]) F hK hN hO (c_X7_ofReach_any E ws kp as rd sc ty ik un tk xt tp sp wrb nu nab iwb X0 a0 a1 z_36 ha0 ha1 (wkb hz_36.2 rfl rfl) ((hX0).1)) mv_X7_ofReach wd_28_15 ⟨Nat.le_of_ble_eq_true rfl, Nat.le_of_ble_eq_true rfl⟩ ⟨Nat.le_of_ble_eq_true rfl, Nat.le_of_ble_eq_true rfl⟩ hH hS (tRecv hK hH (tyb ha0 (all1 rfl)) clX7) rfl hl.1 (Nat.le_of_ble_eq_true rfl) dX7_spellReach_50 (fun z_37 H locs hq hS => ?_)
      obtain ⟨f_38, hH⟩ := hq
      have hH : TH E (tbM (mD (.inl tp) (.inl sp) (.inl nu) (.inl un) (.inl tk) (.inl xt) (.inl wrb) (.inl nab) (.inl iwb)) (xD 660 X0) ws kp as rd sc ty ik) H := hH
      refine tVv (b := a0) (As := [.int z_37]) (rest := []) F hK hN hO (c_X7_spellNumber E ws kp as rd sc ty ik un tk xt tp sp wrb nu nab iwb X0 a0 z_37 ha0 hX0) mv_X7_spellNumber wd_56_7 ⟨Nat.le_of_ble_eq_true rfl, Nat.le_of_ble_eq_true rfl⟩ ⟨Nat.le_of_ble_eq_true rfl, Nat.le_of_ble_eq_true rfl⟩ hH hS (tRecv hK hH (tyb ha0 (all1 rfl)) clX7) rfl hl.1 (Nat.le_of_ble_eq_true rfl) dX7_spellReach_53 (fun H locs hq hS => ?_)
      have hH := hq
      have hH : TH E (tbM (mD (.inl tp) (.inl sp) (.inl nu) (.inl un) (.inl tk) (.inl xt) (.inl wrb) (.inl nab) (.inl iwb)) (xD 660 X0) ws kp as rd sc ty ik) H := hH
      obtain ⟨x_40, ex_40, hx_40⟩ := iincB (c := 1) (lo := 1) (hi := 4) r_22 rfl
      refine lv_iinc (v := x_40) (lv' := [(2, .int x_40), (0, .ref a0), (1, .int a1)]) F.1 F.2.1 dX7_spellReach_56 hl (k := 2) rfl ex_40 (by decide) rfl (fun ls hl => ?_)
      refine lv_goto (tgt := 39) F.1 F.2.1 dX7_spellReach_59 (by decide) ?_
      exact ih_39 (x_40) _ _ _ ⟨(show (4 - x_40.toInt + 1).toNat < n_39 from by omega), (wkb hx_40.2 rfl rfl), hH, hS, lv_sub hl [1, 2, 0] rfl⟩
  · skip
    have r_10 : (-1) ≤ z_3.toInt ∧ z_3.toInt ≤ (-1) := by have h9_ := f_4; omega
    refine lv_aload_n F.1 F.2.1 dX7_spellReach_17 rfl (lv_at hl 0 rfl) ?_
    refine ldcwS F.1 F.2.1 F.2.2.2.2.1 (hO.1 27 _ rfl).1 dX7_spellReach_18 ?_
    refine tVv (b := a0) (As := [.ref (eX E 27)]) (rest := []) F hK hN hO (c_X7_spellWord E ws kp as rd sc ty ik un tk xt tp sp wrb nu nab iwb X0 a0 27 6 ha0 (strAt 27 rfl) hX0) mv_X7_spellWord wd_56_3 ⟨Nat.le_of_ble_eq_true rfl, Nat.le_of_ble_eq_true rfl⟩ ⟨Nat.le_of_ble_eq_true rfl, Nat.le_of_ble_eq_true rfl⟩ hH hS (tRecv hK hH (tyb ha0 (all1 rfl)) clX7) rfl hl.1 (Nat.le_of_ble_eq_true rfl) dX7_spellReach_21 (fun H locs hq hS => ?_)
    have hH := hq
    have hH : TH E (tbM (mD (.inl tp) (.inl sp) (.inl nu) (.inl un) (.inl tk) (.inl xt) (.inl wrb) (.inl nab) (.inl iwb)) (xD 660 X0) ws kp as rd sc ty ik) H := hH
    refine lv_goto (tgt := 37) F.1 F.2.1 dX7_spellReach_24 (by decide) ?_
    refine lv_iconst (v := 0) F.1 F.2.1 dX7_spellReach_37 (by decide) ?_
    refine topK (a := 0) (by decide) (fun k_42 hk_42 => ?_)
    refine lv_istore_n (lv' := [(2, .int k_42), (0, .ref a0), (1, .int a1)]) F.1 F.2.1 dX7_spellReach_38 rfl hl (by decide) rfl (fun ls hl => ?_)
    refine wloop (σ := Int32) (fun n9 x9 H locs ls => (4 - x9.toInt + 1).toNat < n9 ∧ (0 ≤ x9.toInt ∧ x9.toInt ≤ 4) ∧ TH E (tbM (mD (.inl tp) (.inl sp) (.inl nu) (.inl un) (.inl tk) (.inl xt) (.inl wrb) (.inl nab) (.inl iwb)) (xD 660 X0) ws kp as rd sc ty ik) H ∧ va_S (eA E s.heap.size) s.heap H locs ∧ lv_has ls 3 [(0, .ref a0), (1, .int a1), (2, .int x9)]) ?_ (fun x9 H locs ls h => absurd h.1 (Nat.not_lt_zero _)) _ (k_42) ⟨Nat.lt_succ_self _, (wkb (eqb hk_42) rfl rfl), hH, hS, lv_sub hl [1, 2, 0] rfl⟩
    intro n_39 ih_39 u_43 H locs ls ⟨hm_39, hu_43, hH, hS, hl⟩
    have hm_39 : (4 - u_43.toInt + 1).toNat < n_39 + 1 := hm_39
    have hu_43 : (0 ≤ u_43.toInt ∧ u_43.toInt ≤ 4) := hu_43
    have hH : TH E (tbM (mD (.inl tp) (.inl sp) (.inl nu) (.inl un) (.inl tk) (.inl xt) (.inl wrb) (.inl nab) (.inl iwb)) (xD 660 X0) ws kp as rd sc ty ik) H := hH
    have hl : lv_has ls 3 [(0, .ref a0), (1, .int a1), (2, .int u_43)] := hl
    refine lv_iload_n F.1 F.2.1 dX7_spellReach_39 rfl (lv_at hl 2 rfl) ?_
    refine lv_iconst (v := 4) F.1 F.2.1 dX7_spellReach_40 (by decide) ?_
    refine topK (a := 4) (by decide) (fun k_44 hk_44 => ?_)
    refine b_ge (tgt := 62) F dX7_spellReach_41 (by decide) (fun c_45 => ?_) (fun c_45 => ?_)
    · skip
      have r_46 : 4 ≤ u_43.toInt ∧ u_43.toInt ≤ 4 := by have h9_ := hu_43; omega
      refine lv_aload_n F.1 F.2.1 dX7_spellReach_62 rfl (lv_at hl 0 rfl) ?_
      refine lv_iload_n F.1 F.2.1 dX7_spellReach_63 rfl (lv_at hl 1 rfl) ?_
      refine lv_iconst (v := 1) F.1 F.2.1 dX7_spellReach_64 (by decide) ?_
      refine topK (a := 1) (by decide) (fun k_48 hk_48 => ?_)
      refine tVi (b := a0) (As := [.int a1, .int k_48]) (rest := []) F hK hN hO (c_X7_ofReach_1 E ws kp as rd sc ty ik un tk xt tp sp wrb nu nab iwb X0 a0 a1 k_48 ha0 ha1 (eqb hk_48) ((hX0).1)) mv_X7_ofReach wd_28_15 ⟨Nat.le_of_ble_eq_true rfl, Nat.le_of_ble_eq_true rfl⟩ ⟨Nat.le_of_ble_eq_true rfl, Nat.le_of_ble_eq_true rfl⟩ hH hS (tRecv hK hH (tyb ha0 (all1 rfl)) clX7) rfl hl.1 (Nat.le_of_ble_eq_true rfl) dX7_spellReach_65 (fun z_49 H locs hq hS => ?_)
      obtain ⟨f_50, f_51, hH⟩ := hq
      have hH : TH E (tbM (mD (.inl tp) (.inl sp) (.inl nu) (.inl un) (.inl tk) (.inl xt) (.inl wrb) (.inl nab) (.inl iwb)) (xD 660 X0) ws kp as rd sc ty ik) H := hH
      refine z_ne (tgt := 72) F dX7_spellReach_68 (by decide) (fun c_52 => ?_) (fun c_52 => ?_)
      · skip
        refine lv_aload_n F.1 F.2.1 dX7_spellReach_72 rfl (lv_at hl 0 rfl) ?_
        refine ldcwS F.1 F.2.1 F.2.2.2.2.1 (hO.1 28 _ rfl).1 dX7_spellReach_73 ?_
        refine tVv (b := a0) (As := [.ref (eX E 28)]) (rest := []) F hK hN hO (c_X7_spellWord E ws kp as rd sc ty ik un tk xt tp sp wrb nu nab iwb X0 a0 28 5 ha0 (strAt 28 rfl) hX0) mv_X7_spellWord wd_56_3 ⟨Nat.le_of_ble_eq_true rfl, Nat.le_of_ble_eq_true rfl⟩ ⟨Nat.le_of_ble_eq_true rfl, Nat.le_of_ble_eq_true rfl⟩ hH hS (tRecv hK hH (tyb ha0 (all1 rfl)) clX7) rfl hl.1 (Nat.le_of_ble_eq_true rfl) dX7_spellReach_76 (fun H locs hq hS => ?_)
        have hH := hq
        have hH : TH E (tbM (mD (.inl tp) (.inl sp) (.inl nu) (.inl un) (.inl tk) (.inl xt) (.inl wrb) (.inl nab) (.inl iwb)) (xD 660 X0) ws kp as rd sc ty ik) H := hH
        refine lv_aload_n F.1 F.2.1 dX7_spellReach_79 rfl (lv_at hl 0 rfl) ?_
        refine lv_aload_n F.1 F.2.1 dX7_spellReach_80 rfl (lv_at hl 0 rfl) ?_
        refine lv_iload_n F.1 F.2.1 dX7_spellReach_81 rfl (lv_at hl 1 rfl) ?_
        refine lv_iconst (v := 1) F.1 F.2.1 dX7_spellReach_82 (by decide) ?_
        refine topK (a := 1) (by decide) (fun k_55 hk_55 => ?_)
        refine tVi (b := a0) (As := [.int a1, .int k_55]) (rest := [.ref a0]) F hK hN hO (c_X7_ofReach_1 E ws kp as rd sc ty ik un tk xt tp sp wrb nu nab iwb X0 a0 a1 k_55 ha0 ha1 (eqb hk_55) ((hX0).1)) mv_X7_ofReach wd_28_15 ⟨Nat.le_of_ble_eq_true rfl, Nat.le_of_ble_eq_true rfl⟩ ⟨Nat.le_of_ble_eq_true rfl, Nat.le_of_ble_eq_true rfl⟩ hH hS (tRecv hK hH (tyb ha0 (all1 rfl)) clX7) rfl hl.1 (Nat.le_of_ble_eq_true rfl) dX7_spellReach_83 (fun z_56 H locs hq hS => ?_)
        obtain ⟨f_57, f_58, hH⟩ := hq
        have hH : TH E (tbM (mD (.inl tp) (.inl sp) (.inl nu) (.inl un) (.inl tk) (.inl xt) (.inl wrb) (.inl nab) (.inl iwb)) (xD 660 X0) ws kp as rd sc ty ik) H := hH
        refine tVv (b := a0) (As := [.int z_56]) (rest := []) F hK hN hO (c_X7_spellNumber E ws kp as rd sc ty ik un tk xt tp sp wrb nu nab iwb X0 a0 z_56 ha0 hX0) mv_X7_spellNumber wd_56_7 ⟨Nat.le_of_ble_eq_true rfl, Nat.le_of_ble_eq_true rfl⟩ ⟨Nat.le_of_ble_eq_true rfl, Nat.le_of_ble_eq_true rfl⟩ hH hS (tRecv hK hH (tyb ha0 (all1 rfl)) clX7) rfl hl.1 (Nat.le_of_ble_eq_true rfl) dX7_spellReach_86 (fun H locs hq hS => ?_)
        have hH := hq
        have hH : TH E (tbM (mD (.inl tp) (.inl sp) (.inl nu) (.inl un) (.inl tk) (.inl xt) (.inl wrb) (.inl nab) (.inl iwb)) (xD 660 X0) ws kp as rd sc ty ik) H := hH
        exact txV F hS dX7_spellReach_89 (hH)
      · skip
        have r_53 : 0 ≤ z_49.toInt ∧ z_49.toInt ≤ 0 := by have h9_ := f_50; omega
        exact txV F hS dX7_spellReach_71 (hH)
    · skip
      have r_47 : 0 ≤ u_43.toInt ∧ u_43.toInt ≤ 3 := by have h9_ := hu_43; omega
      refine lv_aload_n F.1 F.2.1 dX7_spellReach_44 rfl (lv_at hl 0 rfl) ?_
      refine lv_aload_n F.1 F.2.1 dX7_spellReach_45 rfl (lv_at hl 0 rfl) ?_
      refine lv_iload_n F.1 F.2.1 dX7_spellReach_46 rfl (lv_at hl 1 rfl) ?_
      refine lv_iconst (v := 2) F.1 F.2.1 dX7_spellReach_47 (by decide) ?_
      refine topK (a := 2) (by decide) (fun k_60 hk_60 => ?_)
      refine lv_iload_n F.1 F.2.1 dX7_spellReach_48 rfl (lv_at hl 2 rfl) ?_
      refine tAdd (lo := 2) (hi := 5) F dX7_spellReach_49 (eqb hk_60) r_47 rfl (fun z_61 hz_61 => ?_)
      refine tVi (b := a0) (As := [.int a1, .int z_61]) (rest := [.ref a0]) F hK hN hO (c_X7_ofReach_any E ws kp as rd sc ty ik un tk xt tp sp wrb nu nab iwb X0 a0 a1 z_61 ha0 ha1 (wkb hz_61.2 rfl rfl) ((hX0).1)) mv_X7_ofReach wd_28_15 ⟨Nat.le_of_ble_eq_true rfl, Nat.le_of_ble_eq_true rfl⟩ ⟨Nat.le_of_ble_eq_true rfl, Nat.le_of_ble_eq_true rfl⟩ hH hS (tRecv hK hH (tyb ha0 (all1 rfl)) clX7) rfl hl.1 (Nat.le_of_ble_eq_true rfl) dX7_spellReach_50 (fun z_62 H locs hq hS => ?_)
      obtain ⟨f_63, hH⟩ := hq
      have hH : TH E (tbM (mD (.inl tp) (.inl sp) (.inl nu) (.inl un) (.inl tk) (.inl xt) (.inl wrb) (.inl nab) (.inl iwb)) (xD 660 X0) ws kp as rd sc ty ik) H := hH
      refine tVv (b := a0) (As := [.int z_62]) (rest := []) F hK hN hO (c_X7_spellNumber E ws kp as rd sc ty ik un tk xt tp sp wrb nu nab iwb X0 a0 z_62 ha0 hX0) mv_X7_spellNumber wd_56_7 ⟨Nat.le_of_ble_eq_true rfl, Nat.le_of_ble_eq_true rfl⟩ ⟨Nat.le_of_ble_eq_true rfl, Nat.le_of_ble_eq_true rfl⟩ hH hS (tRecv hK hH (tyb ha0 (all1 rfl)) clX7) rfl hl.1 (Nat.le_of_ble_eq_true rfl) dX7_spellReach_53 (fun H locs hq hS => ?_)
      have hH := hq
      have hH : TH E (tbM (mD (.inl tp) (.inl sp) (.inl nu) (.inl un) (.inl tk) (.inl xt) (.inl wrb) (.inl nab) (.inl iwb)) (xD 660 X0) ws kp as rd sc ty ik) H := hH
      obtain ⟨x_65, ex_65, hx_65⟩ := iincB (c := 1) (lo := 1) (hi := 4) r_47 rfl
      refine lv_iinc (v := x_65) (lv' := [(2, .int x_65), (0, .ref a0), (1, .int a1)]) F.1 F.2.1 dX7_spellReach_56 hl (k := 2) rfl ex_65 (by decide) rfl (fun ls hl => ?_)
      refine lv_goto (tgt := 39) F.1 F.2.1 dX7_spellReach_59 (by decide) ?_
      exact ih_39 (x_65) _ _ _ ⟨(show (4 - x_65.toInt + 1).toNat < n_39 from by omega), (wkb hx_65.2 rfl rfl), hH, hS, lv_sub hl [1, 2, 0] rfl⟩
set_option maxHeartbeats 4000000 in
set_option maxRecDepth 100000 in
theorem c_X7_spellRight (E : Ev) (ws : TD) (kp : TD) (as : TD) (rd : TD) (sc : TD) (ty : TD) (ik : TD) (un : Int × Int) (tk : Int × Int) (xt : Int × Int) (tp : Int × Int) (sp : Int × Int) (wrb : Int × Int) (nu : Int × Int) (nab : Int × Int) (iwb : Int × Int) (X0 : Nat → Int32) (a0 : Nat) (a1 : Int32) (ha0 : eT E a0 ∈ [24]) (ha1 : 0 ≤ a1.toInt ∧ a1.toInt ≤ 13) (hX0 : okR X0) : TcV E yX7_spellRight cX7_spellRight 3 ({ frames := 7, cells := 0, slots := 0, locals := 224 }) [.ref a0, .int a1] (fun H => TH E (tbM (mD (.inl tp) (.inl sp) (.inl nu) (.inl un) (.inl tk) (.inl xt) (.inl wrb) (.inl nab) (.inl iwb)) (xD 660 X0) ws kp as rd sc ty ik) H) (fun H => TH E (tbM (mD (.inl tp) (.inl sp) (.inl nu) (.inl un) (.inl tk) (.inl xt) (.inl wrb) (.inl nab) (.inl iwb)) (xD 660 X0) ws kp as rd sc ty ik) H) := by
  refine teV (by decide) (Nat.le_of_ble_eq_true rfl) ?_
  intro p_ ev_ s mi_ below_ meth cd_ ls F hK hN hO hH hS hl
  have hH : TH E (tbM (mD (.inl tp) (.inl sp) (.inl nu) (.inl un) (.inl tk) (.inl xt) (.inl wrb) (.inl nab) (.inl iwb)) (xD 660 X0) ws kp as rd sc ty ik) s.heap := hH
  have hl : lv_has ls 3 [(0, .ref a0), (1, .int a1)] := hl
  have hBX0 := okB hX0.1
  have hLX0 := hX0.2
  refine lv_aload_n F.1 F.2.1 dX7_spellRight_0 rfl (lv_at hl 0 rfl) ?_
  refine ldcwS F.1 F.2.1 F.2.2.2.2.1 (hO.1 21 _ rfl).1 dX7_spellRight_1 ?_
  refine tVv (b := a0) (As := [.ref (eX E 21)]) (rest := []) F hK hN hO (c_X7_spellPart E ws kp as rd sc ty ik un tk xt tp sp wrb nu nab iwb X0 a0 21 5 ha0 (strAt 21 rfl) hX0) mv_X7_spellPart wd_55_19 ⟨Nat.le_of_ble_eq_true rfl, Nat.le_of_ble_eq_true rfl⟩ ⟨Nat.le_of_ble_eq_true rfl, Nat.le_of_ble_eq_true rfl⟩ hH hS (tRecv hK hH (tyb ha0 (all1 rfl)) clX7) rfl hl.1 (Nat.le_of_ble_eq_true rfl) dX7_spellRight_4 (fun H locs hq hS => ?_)
  have hH := hq
  have hH : TH E (tbM (mD (.inl tp) (.inl sp) (.inl nu) (.inl un) (.inl tk) (.inl xt) (.inl wrb) (.inl nab) (.inl iwb)) (xD 660 X0) ws kp as rd sc ty ik) H := hH
  refine lv_iconst (v := 0) F.1 F.2.1 dX7_spellRight_7 (by decide) ?_
  refine topK (a := 0) (by decide) (fun k_2 hk_2 => ?_)
  refine lv_istore_n (lv' := [(2, .int k_2), (0, .ref a0), (1, .int a1)]) F.1 F.2.1 dX7_spellRight_8 rfl hl (by decide) rfl (fun ls hl => ?_)
  refine wloop (σ := Int32) (fun n9 x9 H locs ls => (4 - x9.toInt + 1).toNat < n9 ∧ (0 ≤ x9.toInt ∧ x9.toInt ≤ 4) ∧ TH E (tbM (mD (.inl tp) (.inl sp) (.inl nu) (.inl un) (.inl tk) (.inl xt) (.inl wrb) (.inl nab) (.inl iwb)) (xD 660 X0) ws kp as rd sc ty ik) H ∧ va_S (eA E s.heap.size) s.heap H locs ∧ lv_has ls 3 [(0, .ref a0), (1, .int a1), (2, .int x9)]) ?_ (fun x9 H locs ls h => absurd h.1 (Nat.not_lt_zero _)) _ (k_2) ⟨Nat.lt_succ_self _, (wkb (eqb hk_2) rfl rfl), hH, hS, lv_sub hl [1, 2, 0] rfl⟩
  intro n_9 ih_9 u_3 H locs ls ⟨hm_9, hu_3, hH, hS, hl⟩
  have hm_9 : (4 - u_3.toInt + 1).toNat < n_9 + 1 := hm_9
  have hu_3 : (0 ≤ u_3.toInt ∧ u_3.toInt ≤ 4) := hu_3
  have hH : TH E (tbM (mD (.inl tp) (.inl sp) (.inl nu) (.inl un) (.inl tk) (.inl xt) (.inl wrb) (.inl nab) (.inl iwb)) (xD 660 X0) ws kp as rd sc ty ik) H := hH
  have hl : lv_has ls 3 [(0, .ref a0), (1, .int a1), (2, .int u_3)] := hl
  refine lv_iload_n F.1 F.2.1 dX7_spellRight_9 rfl (lv_at hl 2 rfl) ?_
  refine lv_iconst (v := 3) F.1 F.2.1 dX7_spellRight_10 (by decide) ?_
  refine topK (a := 3) (by decide) (fun k_4 hk_4 => ?_)
  refine b_gt (tgt := 30) F dX7_spellRight_11 (by decide) (fun c_5 => ?_) (fun c_5 => ?_)
  · skip
    have r_6 : 4 ≤ u_3.toInt ∧ u_3.toInt ≤ 4 := by have h9_ := hu_3; omega
    refine lv_aload_n F.1 F.2.1 dX7_spellRight_30 rfl (lv_at hl 0 rfl) ?_
    refine ldcwS F.1 F.2.1 F.2.2.2.2.1 (hO.1 29 _ rfl).1 dX7_spellRight_31 ?_
    refine tVv (b := a0) (As := [.ref (eX E 29)]) (rest := []) F hK hN hO (c_X7_spellWord E ws kp as rd sc ty ik un tk xt tp sp wrb nu nab iwb X0 a0 29 4 ha0 (strAt 29 rfl) hX0) mv_X7_spellWord wd_56_3 ⟨Nat.le_of_ble_eq_true rfl, Nat.le_of_ble_eq_true rfl⟩ ⟨Nat.le_of_ble_eq_true rfl, Nat.le_of_ble_eq_true rfl⟩ hH hS (tRecv hK hH (tyb ha0 (all1 rfl)) clX7) rfl hl.1 (Nat.le_of_ble_eq_true rfl) dX7_spellRight_34 (fun H locs hq hS => ?_)
    have hH := hq
    have hH : TH E (tbM (mD (.inl tp) (.inl sp) (.inl nu) (.inl un) (.inl tk) (.inl xt) (.inl wrb) (.inl nab) (.inl iwb)) (xD 660 X0) ws kp as rd sc ty ik) H := hH
    refine lv_aload_n F.1 F.2.1 dX7_spellRight_37 rfl (lv_at hl 0 rfl) ?_
    refine lv_aload_n F.1 F.2.1 dX7_spellRight_38 rfl (lv_at hl 0 rfl) ?_
    refine lv_iload_n F.1 F.2.1 dX7_spellRight_39 rfl (lv_at hl 1 rfl) ?_
    refine lv_iconst (v := 4) F.1 F.2.1 dX7_spellRight_40 (by decide) ?_
    refine topK (a := 4) (by decide) (fun k_9 hk_9 => ?_)
    refine tVi (b := a0) (As := [.int a1, .int k_9]) (rest := [.ref a0]) F hK hN hO (c_X7_of_4 E ws kp as rd sc ty ik un tk xt tp sp wrb nu nab iwb X0 a0 a1 k_9 ha0 ha1 (eqb hk_9) ((hX0).1)) mv_X7_of wd_26_20 ⟨Nat.le_of_ble_eq_true rfl, Nat.le_of_ble_eq_true rfl⟩ ⟨Nat.le_of_ble_eq_true rfl, Nat.le_of_ble_eq_true rfl⟩ hH hS (tRecv hK hH (tyb ha0 (all1 rfl)) clX7) rfl hl.1 (Nat.le_of_ble_eq_true rfl) dX7_spellRight_41 (fun z_10 H locs hq hS => ?_)
    obtain ⟨f_11, f_12, hH⟩ := hq
    have hH : TH E (tbM (mD (.inl tp) (.inl sp) (.inl nu) (.inl un) (.inl tk) (.inl xt) (.inl wrb) (.inl nab) (.inl iwb)) (xD 660 X0) ws kp as rd sc ty ik) H := hH
    refine tVv (b := a0) (As := [.int z_10]) (rest := []) F hK hN hO (c_X7_spellNumber E ws kp as rd sc ty ik un tk xt tp sp wrb nu nab iwb X0 a0 z_10 ha0 hX0) mv_X7_spellNumber wd_56_7 ⟨Nat.le_of_ble_eq_true rfl, Nat.le_of_ble_eq_true rfl⟩ ⟨Nat.le_of_ble_eq_true rfl, Nat.le_of_ble_eq_true rfl⟩ hH hS (tRecv hK hH (tyb ha0 (all1 rfl)) clX7) rfl hl.1 (Nat.le_of_ble_eq_true rfl) dX7_spellRight_44 (fun H locs hq hS => ?_)
    have hH := hq
    have hH : TH E (tbM (mD (.inl tp) (.inl sp) (.inl nu) (.inl un) (.inl tk) (.inl xt) (.inl wrb) (.inl nab) (.inl iwb)) (xD 660 X0) ws kp as rd sc ty ik) H := hH
    refine lv_aload_n F.1 F.2.1 dX7_spellRight_47 rfl (lv_at hl 0 rfl) ?_
    refine lv_iload_n F.1 F.2.1 dX7_spellRight_48 rfl (lv_at hl 1 rfl) ?_
    refine lv_iconst (v := 5) F.1 F.2.1 dX7_spellRight_49 (by decide) ?_
    refine topK (a := 5) (by decide) (fun k_14 hk_14 => ?_)
    refine tVi (b := a0) (As := [.int a1, .int k_14]) (rest := []) F hK hN hO (c_X7_of_5 E ws kp as rd sc ty ik un tk xt tp sp wrb nu nab iwb X0 a0 a1 k_14 ha0 ha1 (eqb hk_14) ((hX0).1)) mv_X7_of wd_26_20 ⟨Nat.le_of_ble_eq_true rfl, Nat.le_of_ble_eq_true rfl⟩ ⟨Nat.le_of_ble_eq_true rfl, Nat.le_of_ble_eq_true rfl⟩ hH hS (tRecv hK hH (tyb ha0 (all1 rfl)) clX7) rfl hl.1 (Nat.le_of_ble_eq_true rfl) dX7_spellRight_50 (fun z_15 H locs hq hS => ?_)
    obtain ⟨f_16, f_17, hH⟩ := hq
    have hH : TH E (tbM (mD (.inl tp) (.inl sp) (.inl nu) (.inl un) (.inl tk) (.inl xt) (.inl wrb) (.inl nab) (.inl iwb)) (xD 660 X0) ws kp as rd sc ty ik) H := hH
    refine lv_bipush (v := (-2)) F.1 F.2.1 dX7_spellRight_53 (by decide) ?_
    refine topK (a := (-2)) (by decide) (fun k_18 hk_18 => ?_)
    refine wjoin (σ := Unit) (pcj := 75) (stj := fun x9 => []) (fun x9 H locs ls => TH E (tbM (mD (.inl tp) (.inl sp) (.inl nu) (.inl un) (.inl tk) (.inl xt) (.inl wrb) (.inl nab) (.inl iwb)) (xD 660 X0) ws kp as rd sc ty ik) H ∧ va_S (eA E s.heap.size) s.heap H locs ∧ lv_has ls 3 [(0, .ref a0), (1, .int a1)]) (fun x9 H locs ls h_ => ?_) (fun J_75 => ?_)
    · skip
      obtain ⟨hH, hS, hl⟩ := h_
      have hH : TH E (tbM (mD (.inl tp) (.inl sp) (.inl nu) (.inl un) (.inl tk) (.inl xt) (.inl wrb) (.inl nab) (.inl iwb)) (xD 660 X0) ws kp as rd sc ty ik) H := hH
      have hl : lv_has ls 3 [(0, .ref a0), (1, .int a1)] := hl
      show W _ _ _ _ _ _ _ _ _ _ _ _ _ _ _ (F0 _ _ _ [])
      refine lv_aload_n F.1 F.2.1 dX7_spellRight_75 rfl (lv_at hl 0 rfl) ?_
      refine lv_iload_n F.1 F.2.1 dX7_spellRight_76 rfl (lv_at hl 1 rfl) ?_
      refine lv_bipush (v := 7) F.1 F.2.1 dX7_spellRight_77 (by decide) ?_
      refine topK (a := 7) (by decide) (fun k_19 hk_19 => ?_)
      refine tVi (b := a0) (As := [.int a1, .int k_19]) (rest := []) F hK hN hO (c_X7_of_7 E ws kp as rd sc ty ik un tk xt tp sp wrb nu nab iwb X0 a0 a1 k_19 ha0 ha1 (eqb hk_19) ((hX0).1)) mv_X7_of wd_26_20 ⟨Nat.le_of_ble_eq_true rfl, Nat.le_of_ble_eq_true rfl⟩ ⟨Nat.le_of_ble_eq_true rfl, Nat.le_of_ble_eq_true rfl⟩ hH hS (tRecv hK hH (tyb ha0 (all1 rfl)) clX7) rfl hl.1 (Nat.le_of_ble_eq_true rfl) dX7_spellRight_79 (fun z_20 H locs hq hS => ?_)
      obtain ⟨f_21, f_22, f_23, hH⟩ := hq
      have hH : TH E (tbM (mD (.inl tp) (.inl sp) (.inl nu) (.inl un) (.inl tk) (.inl xt) (.inl wrb) (.inl nab) (.inl iwb)) (xD 660 X0) ws kp as rd sc ty ik) H := hH
      refine lv_bipush (v := (-2)) F.1 F.2.1 dX7_spellRight_82 (by decide) ?_
      refine topK (a := (-2)) (by decide) (fun k_24 hk_24 => ?_)
      refine b_ne (tgt := 88) F dX7_spellRight_84 (by decide) (fun c_25 => ?_) (fun c_25 => ?_)
      · skip
        have r_26 : 0 ≤ z_20.toInt ∧ z_20.toInt ≤ 11 := by have h9_ := f_21; omega
        refine lv_aload_n F.1 F.2.1 dX7_spellRight_88 rfl (lv_at hl 0 rfl) ?_
        refine ldcwS F.1 F.2.1 F.2.2.2.2.1 (hO.1 31 _ rfl).1 dX7_spellRight_89 ?_
        refine tVv (b := a0) (As := [.ref (eX E 31)]) (rest := []) F hK hN hO (c_X7_spellWord E ws kp as rd sc ty ik un tk xt tp sp wrb nu nab iwb X0 a0 31 5 ha0 (strAt 31 rfl) hX0) mv_X7_spellWord wd_56_3 ⟨Nat.le_of_ble_eq_true rfl, Nat.le_of_ble_eq_true rfl⟩ ⟨Nat.le_of_ble_eq_true rfl, Nat.le_of_ble_eq_true rfl⟩ hH hS (tRecv hK hH (tyb ha0 (all1 rfl)) clX7) rfl hl.1 (Nat.le_of_ble_eq_true rfl) dX7_spellRight_92 (fun H locs hq hS => ?_)
        have hH := hq
        have hH : TH E (tbM (mD (.inl tp) (.inl sp) (.inl nu) (.inl un) (.inl tk) (.inl xt) (.inl wrb) (.inl nab) (.inl iwb)) (xD 660 X0) ws kp as rd sc ty ik) H := hH
        refine lv_bipush (v := 7) F.1 F.2.1 dX7_spellRight_95 (by decide) ?_
        refine topK (a := 7) (by decide) (fun k_29 hk_29 => ?_)
        refine lv_istore_n (lv' := [(2, .int k_29), (0, .ref a0), (1, .int a1)]) F.1 F.2.1 dX7_spellRight_97 rfl hl (by decide) rfl (fun ls hl => ?_)
        refine wloop (σ := Int32) (fun n9 x9 H locs ls => (10 - x9.toInt + 1).toNat < n9 ∧ (7 ≤ x9.toInt ∧ x9.toInt ≤ 10) ∧ TH E (tbM (mD (.inl tp) (.inl sp) (.inl nu) (.inl un) (.inl tk) (.inl xt) (.inl wrb) (.inl nab) (.inl iwb)) (xD 660 X0) ws kp as rd sc ty ik) H ∧ va_S (eA E s.heap.size) s.heap H locs ∧ lv_has ls 3 [(0, .ref a0), (1, .int a1), (2, .int x9)]) ?_ (fun x9 H locs ls h => absurd h.1 (Nat.not_lt_zero _)) _ (k_29) ⟨Nat.lt_succ_self _, (wkb (eqb hk_29) rfl rfl), hH, hS, lv_sub hl [1, 2, 0] rfl⟩
        intro n_98 ih_98 u_30 H locs ls ⟨hm_98, hu_30, hH, hS, hl⟩
        have hm_98 : (10 - u_30.toInt + 1).toNat < n_98 + 1 := hm_98
        have hu_30 : (7 ≤ u_30.toInt ∧ u_30.toInt ≤ 10) := hu_30
        have hH : TH E (tbM (mD (.inl tp) (.inl sp) (.inl nu) (.inl un) (.inl tk) (.inl xt) (.inl wrb) (.inl nab) (.inl iwb)) (xD 660 X0) ws kp as rd sc ty ik) H := hH
        have hl : lv_has ls 3 [(0, .ref a0), (1, .int a1), (2, .int u_30)] := hl
        refine lv_iload_n F.1 F.2.1 dX7_spellRight_98 rfl (lv_at hl 2 rfl) ?_
        refine lv_bipush (v := 9) F.1 F.2.1 dX7_spellRight_99 (by decide) ?_
        refine topK (a := 9) (by decide) (fun k_31 hk_31 => ?_)
        refine b_gt (tgt := 120) F dX7_spellRight_101 (by decide) (fun c_32 => ?_) (fun c_32 => ?_)
        · skip
          have r_33 : 10 ≤ u_30.toInt ∧ u_30.toInt ≤ 10 := by have h9_ := hu_30; omega
          exact txV F hS dX7_spellRight_120 (hH)
        · skip
          have r_34 : 7 ≤ u_30.toInt ∧ u_30.toInt ≤ 9 := by have h9_ := hu_30; omega
          refine lv_aload_n F.1 F.2.1 dX7_spellRight_104 rfl (lv_at hl 0 rfl) ?_
          refine lv_aload_n F.1 F.2.1 dX7_spellRight_105 rfl (lv_at hl 0 rfl) ?_
          refine lv_iload_n F.1 F.2.1 dX7_spellRight_106 rfl (lv_at hl 1 rfl) ?_
          refine lv_iload_n F.1 F.2.1 dX7_spellRight_107 rfl (lv_at hl 2 rfl) ?_
          refine tVi (b := a0) (As := [.int a1, .int u_30]) (rest := [.ref a0]) F hK hN hO (c_X7_of_any E ws kp as rd sc ty ik un tk xt tp sp wrb nu nab iwb X0 a0 a1 u_30 ha0 ha1 (wkb r_34 rfl rfl) ((hX0).1)) mv_X7_of wd_26_20 ⟨Nat.le_of_ble_eq_true rfl, Nat.le_of_ble_eq_true rfl⟩ ⟨Nat.le_of_ble_eq_true rfl, Nat.le_of_ble_eq_true rfl⟩ hH hS (tRecv hK hH (tyb ha0 (all1 rfl)) clX7) rfl hl.1 (Nat.le_of_ble_eq_true rfl) dX7_spellRight_108 (fun z_35 H locs hq hS => ?_)
          obtain ⟨f_36, hH⟩ := hq
          have hH : TH E (tbM (mD (.inl tp) (.inl sp) (.inl nu) (.inl un) (.inl tk) (.inl xt) (.inl wrb) (.inl nab) (.inl iwb)) (xD 660 X0) ws kp as rd sc ty ik) H := hH
          refine tVv (b := a0) (As := [.int z_35]) (rest := []) F hK hN hO (c_X7_spellNumber E ws kp as rd sc ty ik un tk xt tp sp wrb nu nab iwb X0 a0 z_35 ha0 hX0) mv_X7_spellNumber wd_56_7 ⟨Nat.le_of_ble_eq_true rfl, Nat.le_of_ble_eq_true rfl⟩ ⟨Nat.le_of_ble_eq_true rfl, Nat.le_of_ble_eq_true rfl⟩ hH hS (tRecv hK hH (tyb ha0 (all1 rfl)) clX7) rfl hl.1 (Nat.le_of_ble_eq_true rfl) dX7_spellRight_111 (fun H locs hq hS => ?_)
          have hH := hq
          have hH : TH E (tbM (mD (.inl tp) (.inl sp) (.inl nu) (.inl un) (.inl tk) (.inl xt) (.inl wrb) (.inl nab) (.inl iwb)) (xD 660 X0) ws kp as rd sc ty ik) H := hH
          obtain ⟨x_38, ex_38, hx_38⟩ := iincB (c := 1) (lo := 8) (hi := 10) r_34 rfl
          refine lv_iinc (v := x_38) (lv' := [(2, .int x_38), (0, .ref a0), (1, .int a1)]) F.1 F.2.1 dX7_spellRight_114 hl (k := 2) rfl ex_38 (by decide) rfl (fun ls hl => ?_)
          refine lv_goto (tgt := 98) F.1 F.2.1 dX7_spellRight_117 (by decide) ?_
          exact ih_98 (x_38) _ _ _ ⟨(show (10 - x_38.toInt + 1).toNat < n_98 from by omega), (wkb hx_38.2 rfl rfl), hH, hS, lv_sub hl [1, 2, 0] rfl⟩
      · skip
        have r_27 : (-2) ≤ z_20.toInt ∧ z_20.toInt ≤ (-2) := by have h9_ := f_21; omega
        exact txV F hS dX7_spellRight_87 (hH)
    refine b_eq (tgt := 75) F dX7_spellRight_55 (by decide) (fun c_39 => ?_) (fun c_39 => ?_)
    · skip
      have r_40 : (-2) ≤ z_15.toInt ∧ z_15.toInt ≤ (-2) := by have h9_ := f_16; omega
      exact J_75 () _ _ _ ⟨hH, hS, lv_sub hl [0, 1] rfl⟩
    · skip
      have r_41 : (-1) ≤ z_15.toInt ∧ z_15.toInt ≤ 999999 := by have h9_ := f_16; omega
      refine lv_aload_n F.1 F.2.1 dX7_spellRight_58 rfl (lv_at hl 0 rfl) ?_
      refine ldcwS F.1 F.2.1 F.2.2.2.2.1 (hO.1 30 _ rfl).1 dX7_spellRight_59 ?_
      refine tVv (b := a0) (As := [.ref (eX E 30)]) (rest := []) F hK hN hO (c_X7_spellWord E ws kp as rd sc ty ik un tk xt tp sp wrb nu nab iwb X0 a0 30 4 ha0 (strAt 30 rfl) hX0) mv_X7_spellWord wd_56_3 ⟨Nat.le_of_ble_eq_true rfl, Nat.le_of_ble_eq_true rfl⟩ ⟨Nat.le_of_ble_eq_true rfl, Nat.le_of_ble_eq_true rfl⟩ hH hS (tRecv hK hH (tyb ha0 (all1 rfl)) clX7) rfl hl.1 (Nat.le_of_ble_eq_true rfl) dX7_spellRight_62 (fun H locs hq hS => ?_)
      have hH := hq
      have hH : TH E (tbM (mD (.inl tp) (.inl sp) (.inl nu) (.inl un) (.inl tk) (.inl xt) (.inl wrb) (.inl nab) (.inl iwb)) (xD 660 X0) ws kp as rd sc ty ik) H := hH
      refine lv_aload_n F.1 F.2.1 dX7_spellRight_65 rfl (lv_at hl 0 rfl) ?_
      refine lv_aload_n F.1 F.2.1 dX7_spellRight_66 rfl (lv_at hl 0 rfl) ?_
      refine lv_iload_n F.1 F.2.1 dX7_spellRight_67 rfl (lv_at hl 1 rfl) ?_
      refine lv_iconst (v := 5) F.1 F.2.1 dX7_spellRight_68 (by decide) ?_
      refine topK (a := 5) (by decide) (fun k_43 hk_43 => ?_)
      refine tVi (b := a0) (As := [.int a1, .int k_43]) (rest := [.ref a0]) F hK hN hO (c_X7_of_5 E ws kp as rd sc ty ik un tk xt tp sp wrb nu nab iwb X0 a0 a1 k_43 ha0 ha1 (eqb hk_43) ((hX0).1)) mv_X7_of wd_26_20 ⟨Nat.le_of_ble_eq_true rfl, Nat.le_of_ble_eq_true rfl⟩ ⟨Nat.le_of_ble_eq_true rfl, Nat.le_of_ble_eq_true rfl⟩ hH hS (tRecv hK hH (tyb ha0 (all1 rfl)) clX7) rfl hl.1 (Nat.le_of_ble_eq_true rfl) dX7_spellRight_69 (fun z_44 H locs hq hS => ?_)
      obtain ⟨f_45, f_46, hH⟩ := hq
      have hH : TH E (tbM (mD (.inl tp) (.inl sp) (.inl nu) (.inl un) (.inl tk) (.inl xt) (.inl wrb) (.inl nab) (.inl iwb)) (xD 660 X0) ws kp as rd sc ty ik) H := hH
      refine tVv (b := a0) (As := [.int z_44]) (rest := []) F hK hN hO (c_X7_spellNumber E ws kp as rd sc ty ik un tk xt tp sp wrb nu nab iwb X0 a0 z_44 ha0 hX0) mv_X7_spellNumber wd_56_7 ⟨Nat.le_of_ble_eq_true rfl, Nat.le_of_ble_eq_true rfl⟩ ⟨Nat.le_of_ble_eq_true rfl, Nat.le_of_ble_eq_true rfl⟩ hH hS (tRecv hK hH (tyb ha0 (all1 rfl)) clX7) rfl hl.1 (Nat.le_of_ble_eq_true rfl) dX7_spellRight_72 (fun H locs hq hS => ?_)
      have hH := hq
      have hH : TH E (tbM (mD (.inl tp) (.inl sp) (.inl nu) (.inl un) (.inl tk) (.inl xt) (.inl wrb) (.inl nab) (.inl iwb)) (xD 660 X0) ws kp as rd sc ty ik) H := hH
      exact J_75 () _ _ _ ⟨hH, hS, lv_sub hl [0, 1] rfl⟩
  · skip
    have r_7 : 0 ≤ u_3.toInt ∧ u_3.toInt ≤ 3 := by have h9_ := hu_3; omega
    refine lv_aload_n F.1 F.2.1 dX7_spellRight_14 rfl (lv_at hl 0 rfl) ?_
    refine lv_aload_n F.1 F.2.1 dX7_spellRight_15 rfl (lv_at hl 0 rfl) ?_
    refine lv_iload_n F.1 F.2.1 dX7_spellRight_16 rfl (lv_at hl 1 rfl) ?_
    refine lv_iload_n F.1 F.2.1 dX7_spellRight_17 rfl (lv_at hl 2 rfl) ?_
    refine tVi (b := a0) (As := [.int a1, .int u_3]) (rest := [.ref a0]) F hK hN hO (c_X7_of_any E ws kp as rd sc ty ik un tk xt tp sp wrb nu nab iwb X0 a0 a1 u_3 ha0 ha1 (wkb r_7 rfl rfl) ((hX0).1)) mv_X7_of wd_26_20 ⟨Nat.le_of_ble_eq_true rfl, Nat.le_of_ble_eq_true rfl⟩ ⟨Nat.le_of_ble_eq_true rfl, Nat.le_of_ble_eq_true rfl⟩ hH hS (tRecv hK hH (tyb ha0 (all1 rfl)) clX7) rfl hl.1 (Nat.le_of_ble_eq_true rfl) dX7_spellRight_18 (fun z_48 H locs hq hS => ?_)
    obtain ⟨f_49, hH⟩ := hq
    have hH : TH E (tbM (mD (.inl tp) (.inl sp) (.inl nu) (.inl un) (.inl tk) (.inl xt) (.inl wrb) (.inl nab) (.inl iwb)) (xD 660 X0) ws kp as rd sc ty ik) H := hH
    refine tVv (b := a0) (As := [.int z_48]) (rest := []) F hK hN hO (c_X7_spellNumber E ws kp as rd sc ty ik un tk xt tp sp wrb nu nab iwb X0 a0 z_48 ha0 hX0) mv_X7_spellNumber wd_56_7 ⟨Nat.le_of_ble_eq_true rfl, Nat.le_of_ble_eq_true rfl⟩ ⟨Nat.le_of_ble_eq_true rfl, Nat.le_of_ble_eq_true rfl⟩ hH hS (tRecv hK hH (tyb ha0 (all1 rfl)) clX7) rfl hl.1 (Nat.le_of_ble_eq_true rfl) dX7_spellRight_21 (fun H locs hq hS => ?_)
    have hH := hq
    have hH : TH E (tbM (mD (.inl tp) (.inl sp) (.inl nu) (.inl un) (.inl tk) (.inl xt) (.inl wrb) (.inl nab) (.inl iwb)) (xD 660 X0) ws kp as rd sc ty ik) H := hH
    obtain ⟨x_51, ex_51, hx_51⟩ := iincB (c := 1) (lo := 1) (hi := 4) r_7 rfl
    refine lv_iinc (v := x_51) (lv' := [(2, .int x_51), (0, .ref a0), (1, .int a1)]) F.1 F.2.1 dX7_spellRight_24 hl (k := 2) rfl ex_51 (by decide) rfl (fun ls hl => ?_)
    refine lv_goto (tgt := 9) F.1 F.2.1 dX7_spellRight_27 (by decide) ?_
    exact ih_9 (x_51) _ _ _ ⟨(show (4 - x_51.toInt + 1).toNat < n_9 from by omega), (wkb hx_51.2 rfl rfl), hH, hS, lv_sub hl [1, 2, 0] rfl⟩
set_option maxHeartbeats 4000000 in
set_option maxRecDepth 100000 in
theorem c_X7_spellStore (E : Ev) (ws : TD) (kp : TD) (as : TD) (rd : TD) (sc : TD) (ty : TD) (ik : TD) (un : Int × Int) (tk : Int × Int) (xt : Int × Int) (tp : Int × Int) (sp : Int × Int) (wrb : Int × Int) (nu : Int × Int) (nab : Int × Int) (iwb : Int × Int) (X0 : Nat → Int32) (a0 : Nat) (a1 : Int32) (ha0 : eT E a0 ∈ [24]) (ha1 : 0 ≤ a1.toInt ∧ a1.toInt ≤ 3) (hX0 : okR X0) : TcV E yX7_spellStore cX7_spellStore 3 ({ frames := 7, cells := 0, slots := 0, locals := 224 }) [.ref a0, .int a1] (fun H => TH E (tbM (mD (.inl tp) (.inl sp) (.inl nu) (.inl un) (.inl tk) (.inl xt) (.inl wrb) (.inl nab) (.inl iwb)) (xD 660 X0) ws kp as rd sc ty ik) H) (fun H => TH E (tbM (mD (.inl tp) (.inl sp) (.inl nu) (.inl un) (.inl tk) (.inl xt) (.inl wrb) (.inl nab) (.inl iwb)) (xD 660 X0) ws kp as rd sc ty ik) H) := by
  refine teV (by decide) (Nat.le_of_ble_eq_true rfl) ?_
  intro p_ ev_ s mi_ below_ meth cd_ ls F hK hN hO hH hS hl
  have hH : TH E (tbM (mD (.inl tp) (.inl sp) (.inl nu) (.inl un) (.inl tk) (.inl xt) (.inl wrb) (.inl nab) (.inl iwb)) (xD 660 X0) ws kp as rd sc ty ik) s.heap := hH
  have hl : lv_has ls 3 [(0, .ref a0), (1, .int a1)] := hl
  have hBX0 := okB hX0.1
  have hLX0 := hX0.2
  refine lv_aload_n F.1 F.2.1 dX7_spellStore_0 rfl (lv_at hl 0 rfl) ?_
  refine ldcwS F.1 F.2.1 F.2.2.2.2.1 (hO.1 25 _ rfl).1 dX7_spellStore_1 ?_
  refine tVv (b := a0) (As := [.ref (eX E 25)]) (rest := []) F hK hN hO (c_X7_spellPart E ws kp as rd sc ty ik un tk xt tp sp wrb nu nab iwb X0 a0 25 5 ha0 (strAt 25 rfl) hX0) mv_X7_spellPart wd_55_19 ⟨Nat.le_of_ble_eq_true rfl, Nat.le_of_ble_eq_true rfl⟩ ⟨Nat.le_of_ble_eq_true rfl, Nat.le_of_ble_eq_true rfl⟩ hH hS (tRecv hK hH (tyb ha0 (all1 rfl)) clX7) rfl hl.1 (Nat.le_of_ble_eq_true rfl) dX7_spellStore_4 (fun H locs hq hS => ?_)
  have hH := hq
  have hH : TH E (tbM (mD (.inl tp) (.inl sp) (.inl nu) (.inl un) (.inl tk) (.inl xt) (.inl wrb) (.inl nab) (.inl iwb)) (xD 660 X0) ws kp as rd sc ty ik) H := hH
  refine lv_iconst (v := 0) F.1 F.2.1 dX7_spellStore_7 (by decide) ?_
  refine topK (a := 0) (by decide) (fun k_2 hk_2 => ?_)
  refine lv_istore_n (lv' := [(2, .int k_2), (0, .ref a0), (1, .int a1)]) F.1 F.2.1 dX7_spellStore_8 rfl hl (by decide) rfl (fun ls hl => ?_)
  refine wloop (σ := Int32) (fun n9 x9 H locs ls => (3 - x9.toInt + 1).toNat < n9 ∧ (0 ≤ x9.toInt ∧ x9.toInt ≤ 3) ∧ TH E (tbM (mD (.inl tp) (.inl sp) (.inl nu) (.inl un) (.inl tk) (.inl xt) (.inl wrb) (.inl nab) (.inl iwb)) (xD 660 X0) ws kp as rd sc ty ik) H ∧ va_S (eA E s.heap.size) s.heap H locs ∧ lv_has ls 3 [(0, .ref a0), (1, .int a1), (2, .int x9)]) ?_ (fun x9 H locs ls h => absurd h.1 (Nat.not_lt_zero _)) _ (k_2) ⟨Nat.lt_succ_self _, (wkb (eqb hk_2) rfl rfl), hH, hS, lv_sub hl [1, 2, 0] rfl⟩
  intro n_9 ih_9 u_3 H locs ls ⟨hm_9, hu_3, hH, hS, hl⟩
  have hm_9 : (3 - u_3.toInt + 1).toNat < n_9 + 1 := hm_9
  have hu_3 : (0 ≤ u_3.toInt ∧ u_3.toInt ≤ 3) := hu_3
  have hH : TH E (tbM (mD (.inl tp) (.inl sp) (.inl nu) (.inl un) (.inl tk) (.inl xt) (.inl wrb) (.inl nab) (.inl iwb)) (xD 660 X0) ws kp as rd sc ty ik) H := hH
  have hl : lv_has ls 3 [(0, .ref a0), (1, .int a1), (2, .int u_3)] := hl
  refine lv_iload_n F.1 F.2.1 dX7_spellStore_9 rfl (lv_at hl 2 rfl) ?_
  refine lv_iconst (v := 3) F.1 F.2.1 dX7_spellStore_10 (by decide) ?_
  refine topK (a := 3) (by decide) (fun k_4 hk_4 => ?_)
  refine b_ge (tgt := 30) F dX7_spellStore_11 (by decide) (fun c_5 => ?_) (fun c_5 => ?_)
  · skip
    have r_6 : 3 ≤ u_3.toInt ∧ u_3.toInt ≤ 3 := by have h9_ := hu_3; omega
    refine lv_aload_n F.1 F.2.1 dX7_spellStore_30 rfl (lv_at hl 0 rfl) ?_
    refine ldcwS F.1 F.2.1 F.2.2.2.2.1 (hO.1 29 _ rfl).1 dX7_spellStore_31 ?_
    refine tVv (b := a0) (As := [.ref (eX E 29)]) (rest := []) F hK hN hO (c_X7_spellWord E ws kp as rd sc ty ik un tk xt tp sp wrb nu nab iwb X0 a0 29 4 ha0 (strAt 29 rfl) hX0) mv_X7_spellWord wd_56_3 ⟨Nat.le_of_ble_eq_true rfl, Nat.le_of_ble_eq_true rfl⟩ ⟨Nat.le_of_ble_eq_true rfl, Nat.le_of_ble_eq_true rfl⟩ hH hS (tRecv hK hH (tyb ha0 (all1 rfl)) clX7) rfl hl.1 (Nat.le_of_ble_eq_true rfl) dX7_spellStore_34 (fun H locs hq hS => ?_)
    have hH := hq
    have hH : TH E (tbM (mD (.inl tp) (.inl sp) (.inl nu) (.inl un) (.inl tk) (.inl xt) (.inl wrb) (.inl nab) (.inl iwb)) (xD 660 X0) ws kp as rd sc ty ik) H := hH
    refine lv_aload_n F.1 F.2.1 dX7_spellStore_37 rfl (lv_at hl 0 rfl) ?_
    refine lv_aload_n F.1 F.2.1 dX7_spellStore_38 rfl (lv_at hl 0 rfl) ?_
    refine lv_iload_n F.1 F.2.1 dX7_spellStore_39 rfl (lv_at hl 1 rfl) ?_
    refine lv_iconst (v := 3) F.1 F.2.1 dX7_spellStore_40 (by decide) ?_
    refine topK (a := 3) (by decide) (fun k_9 hk_9 => ?_)
    refine tVi (b := a0) (As := [.int a1, .int k_9]) (rest := [.ref a0]) F hK hN hO (c_X7_ofStore_3 E ws kp as rd sc ty ik un tk xt tp sp wrb nu nab iwb X0 a0 a1 k_9 ha0 ha1 (eqb hk_9) ((hX0).1)) mv_X7_ofStore wd_27_0 ⟨Nat.le_of_ble_eq_true rfl, Nat.le_of_ble_eq_true rfl⟩ ⟨Nat.le_of_ble_eq_true rfl, Nat.le_of_ble_eq_true rfl⟩ hH hS (tRecv hK hH (tyb ha0 (all1 rfl)) clX7) rfl hl.1 (Nat.le_of_ble_eq_true rfl) dX7_spellStore_41 (fun z_10 H locs hq hS => ?_)
    obtain ⟨f_11, f_12, hH⟩ := hq
    have hH : TH E (tbM (mD (.inl tp) (.inl sp) (.inl nu) (.inl un) (.inl tk) (.inl xt) (.inl wrb) (.inl nab) (.inl iwb)) (xD 660 X0) ws kp as rd sc ty ik) H := hH
    refine tVv (b := a0) (As := [.int z_10]) (rest := []) F hK hN hO (c_X7_spellNumber E ws kp as rd sc ty ik un tk xt tp sp wrb nu nab iwb X0 a0 z_10 ha0 hX0) mv_X7_spellNumber wd_56_7 ⟨Nat.le_of_ble_eq_true rfl, Nat.le_of_ble_eq_true rfl⟩ ⟨Nat.le_of_ble_eq_true rfl, Nat.le_of_ble_eq_true rfl⟩ hH hS (tRecv hK hH (tyb ha0 (all1 rfl)) clX7) rfl hl.1 (Nat.le_of_ble_eq_true rfl) dX7_spellStore_44 (fun H locs hq hS => ?_)
    have hH := hq
    have hH : TH E (tbM (mD (.inl tp) (.inl sp) (.inl nu) (.inl un) (.inl tk) (.inl xt) (.inl wrb) (.inl nab) (.inl iwb)) (xD 660 X0) ws kp as rd sc ty ik) H := hH
    exact txV F hS dX7_spellStore_47 (hH)
  · skip
    have r_7 : 0 ≤ u_3.toInt ∧ u_3.toInt ≤ 2 := by have h9_ := hu_3; omega
    refine lv_aload_n F.1 F.2.1 dX7_spellStore_14 rfl (lv_at hl 0 rfl) ?_
    refine lv_aload_n F.1 F.2.1 dX7_spellStore_15 rfl (lv_at hl 0 rfl) ?_
    refine lv_iload_n F.1 F.2.1 dX7_spellStore_16 rfl (lv_at hl 1 rfl) ?_
    refine lv_iload_n F.1 F.2.1 dX7_spellStore_17 rfl (lv_at hl 2 rfl) ?_
    refine tVi (b := a0) (As := [.int a1, .int u_3]) (rest := [.ref a0]) F hK hN hO (c_X7_ofStore_any E ws kp as rd sc ty ik un tk xt tp sp wrb nu nab iwb X0 a0 a1 u_3 ha0 ha1 (wkb r_7 rfl rfl) ((hX0).1)) mv_X7_ofStore wd_27_0 ⟨Nat.le_of_ble_eq_true rfl, Nat.le_of_ble_eq_true rfl⟩ ⟨Nat.le_of_ble_eq_true rfl, Nat.le_of_ble_eq_true rfl⟩ hH hS (tRecv hK hH (tyb ha0 (all1 rfl)) clX7) rfl hl.1 (Nat.le_of_ble_eq_true rfl) dX7_spellStore_18 (fun z_14 H locs hq hS => ?_)
    obtain ⟨f_15, hH⟩ := hq
    have hH : TH E (tbM (mD (.inl tp) (.inl sp) (.inl nu) (.inl un) (.inl tk) (.inl xt) (.inl wrb) (.inl nab) (.inl iwb)) (xD 660 X0) ws kp as rd sc ty ik) H := hH
    refine tVv (b := a0) (As := [.int z_14]) (rest := []) F hK hN hO (c_X7_spellNumber E ws kp as rd sc ty ik un tk xt tp sp wrb nu nab iwb X0 a0 z_14 ha0 hX0) mv_X7_spellNumber wd_56_7 ⟨Nat.le_of_ble_eq_true rfl, Nat.le_of_ble_eq_true rfl⟩ ⟨Nat.le_of_ble_eq_true rfl, Nat.le_of_ble_eq_true rfl⟩ hH hS (tRecv hK hH (tyb ha0 (all1 rfl)) clX7) rfl hl.1 (Nat.le_of_ble_eq_true rfl) dX7_spellStore_21 (fun H locs hq hS => ?_)
    have hH := hq
    have hH : TH E (tbM (mD (.inl tp) (.inl sp) (.inl nu) (.inl un) (.inl tk) (.inl xt) (.inl wrb) (.inl nab) (.inl iwb)) (xD 660 X0) ws kp as rd sc ty ik) H := hH
    obtain ⟨x_17, ex_17, hx_17⟩ := iincB (c := 1) (lo := 1) (hi := 3) r_7 rfl
    refine lv_iinc (v := x_17) (lv' := [(2, .int x_17), (0, .ref a0), (1, .int a1)]) F.1 F.2.1 dX7_spellStore_24 hl (k := 2) rfl ex_17 (by decide) rfl (fun ls hl => ?_)
    refine lv_goto (tgt := 9) F.1 F.2.1 dX7_spellStore_27 (by decide) ?_
    exact ih_9 (x_17) _ _ _ ⟨(show (3 - x_17.toInt + 1).toNat < n_9 from by omega), (wkb hx_17.2 rfl rfl), hH, hS, lv_sub hl [1, 2, 0] rfl⟩
set_option maxHeartbeats 4000000 in
set_option maxRecDepth 100000 in
theorem c_X7_letter (E : Ev) (ws : TD) (kp : TD) (as : TD) (rd : TD) (sc : TD) (ty : TD) (ik : TD) (un : Int × Int) (tk : Int × Int) (xt : Int × Int) (tp : Int × Int) (sp : Int × Int) (wrb : Int × Int) (nu : Int × Int) (nab : Int × Int) (iwb : Int × Int) (X0 : Nat → Int32) (a0 : Nat) (a1 : Int32) (ha0 : eT E a0 ∈ [24]) (hX0 : okR X0) : TcI E yX7_letter cX7_letter 3 .int ({ frames := 8, cells := 0, slots := 0, locals := 246 }) [.ref a0, .int a1] (fun H => TH E (tbM (mD (.inl tp) (.inl sp) (.inl nu) (.inl un) (.inl tk) (.inl xt) (.inl wrb) (.inl nab) (.inl iwb)) (xD 660 X0) ws kp as rd sc ty ik) H) (fun v H => ((-2147483648) ≤ v.toInt ∧ v.toInt ≤ 2147483647) ∧ TH E (tbM (mD (.inl tp) (.inl sp) (.inl nu) (.inl un) (.inl tk) (.inl xt) (.inl wrb) (.inl nab) (.inl iwb)) (xD 660 X0) ws kp as rd sc ty ik) H) := by
  refine teI (by decide) (Nat.le_of_ble_eq_true rfl) ?_
  intro p_ ev_ s mi_ below_ meth cd_ ls F hK hN hO hH hS hl
  have hH : TH E (tbM (mD (.inl tp) (.inl sp) (.inl nu) (.inl un) (.inl tk) (.inl xt) (.inl wrb) (.inl nab) (.inl iwb)) (xD 660 X0) ws kp as rd sc ty ik) s.heap := hH
  have hl : lv_has ls 3 [(0, .ref a0), (1, .int a1)] := hl
  have hBX0 := okB hX0.1
  have hLX0 := hX0.2
  refine lv_iload_n F.1 F.2.1 dX7_letter_0 rfl (lv_at hl 1 rfl) ?_
  refine lv_iconst (v := (-1)) F.1 F.2.1 dX7_letter_1 (by decide) ?_
  refine topK (a := (-1)) (by decide) (fun k_1 hk_1 => ?_)
  refine b_ge (tgt := 7) F dX7_letter_2 (by decide) (fun c_2 => ?_) (fun c_2 => ?_)
  · skip
    have r_3 : (-1) ≤ a1.toInt ∧ a1.toInt ≤ 2147483647 := by have h9_ := (i32b a1); omega
    refine lv_aload_n F.1 F.2.1 dX7_letter_7 rfl (lv_at hl 0 rfl) ?_
    refine lv_iconst (v := 0) F.1 F.2.1 dX7_letter_8 (by decide) ?_
    refine topK (a := 0) (by decide) (fun k_5 hk_5 => ?_)
    refine tPut (j := 37) F hK hH hS (tyb ha0 (all1 rfl)) rfl (fdI (wkb (eqb hk_5) rfl rfl)) clX7 (by decide) wd_55_12 rfl rfl rfl rfl dX7_letter_9 (fun H locs hH hS => ?_)
    refine lv_aload_n F.1 F.2.1 dX7_letter_12 rfl (lv_at hl 0 rfl) ?_
    refine lv_iload_n F.1 F.2.1 dX7_letter_13 rfl (lv_at hl 1 rfl) ?_
    refine tPut (j := 38) F hK hH hS (tyb ha0 (all1 rfl)) rfl (fdI (wkb r_3 rfl rfl)) clX7 (by decide) wd_55_13 rfl rfl rfl rfl dX7_letter_14 (fun H locs hH hS => ?_)
    refine lv_aload_n F.1 F.2.1 dX7_letter_17 rfl (lv_at hl 0 rfl) ?_
    refine lv_bipush (v := (-2)) F.1 F.2.1 dX7_letter_18 (by decide) ?_
    refine topK (a := (-2)) (by decide) (fun k_6 hk_6 => ?_)
    refine tPut (j := 39) F hK hH hS (tyb ha0 (all1 rfl)) rfl (fdI (wkb (eqb hk_6) rfl rfl)) clX7 (by decide) wd_55_14 rfl rfl rfl rfl dX7_letter_20 (fun H locs hH hS => ?_)
    refine lv_iconst (v := 0) F.1 F.2.1 dX7_letter_23 (by decide) ?_
    refine topK (a := 0) (by decide) (fun k_7 hk_7 => ?_)
    refine lv_istore_n (lv' := [(2, .int k_7), (0, .ref a0), (1, .int a1)]) F.1 F.2.1 dX7_letter_24 rfl hl (by decide) rfl (fun ls hl => ?_)
    refine wloop (σ := Int32) (fun n9 x9 H locs ls => (12 - x9.toInt + 1).toNat < n9 ∧ (0 ≤ x9.toInt ∧ x9.toInt ≤ 12) ∧ TH E (tbM (mD (.inl tp) (.inl sp) (.inl nu) (.inl un) (.inl tk) (.inl xt) (.inl wrb) (.inl nab) (.inl iwb)) (xD 660 X0) ws kp as rd sc ty ik) H ∧ va_S (eA E s.heap.size) s.heap H locs ∧ lv_has ls 3 [(0, .ref a0), (1, .int a1), (2, .int x9)]) ?_ (fun x9 H locs ls h => absurd h.1 (Nat.not_lt_zero _)) _ (k_7) ⟨Nat.lt_succ_self _, (wkb (eqb hk_7) rfl rfl), hH, hS, lv_sub hl [1, 2, 0] rfl⟩
    intro n_25 ih_25 u_8 H locs ls ⟨hm_25, hu_8, hH, hS, hl⟩
    have hm_25 : (12 - u_8.toInt + 1).toNat < n_25 + 1 := hm_25
    have hu_8 : (0 ≤ u_8.toInt ∧ u_8.toInt ≤ 12) := hu_8
    have hH : TH E (tbM (mD (.inl tp) (.inl sp) (.inl nu) (.inl un) (.inl tk) (.inl xt) (.inl wrb) (.inl nab) (.inl iwb)) (xD 660 X0) ws kp as rd sc ty ik) H := hH
    have hl : lv_has ls 3 [(0, .ref a0), (1, .int a1), (2, .int u_8)] := hl
    refine lv_iload_n F.1 F.2.1 dX7_letter_25 rfl (lv_at hl 2 rfl) ?_
    refine lv_aload_n F.1 F.2.1 dX7_letter_26 rfl (lv_at hl 0 rfl) ?_
    refine tVi (b := a0) (As := []) (rest := [.int u_8]) F hK hN hO (c_X7_reaches E ws kp as rd sc ty ik un tk xt tp sp wrb nu nab iwb X0 a0 ha0 ((hX0).1)) mv_X7_reaches wd_28_7 ⟨Nat.le_of_ble_eq_true rfl, Nat.le_of_ble_eq_true rfl⟩ ⟨Nat.le_of_ble_eq_true rfl, Nat.le_of_ble_eq_true rfl⟩ hH hS (tRecv hK hH (tyb ha0 (all1 rfl)) clX7) rfl hl.1 (Nat.le_of_ble_eq_true rfl) dX7_letter_27 (fun z_9 H locs hq hS => ?_)
    obtain ⟨f_10, f_11, hH⟩ := hq
    have hH : TH E (tbM (mD (.inl tp) (.inl sp) (.inl nu) (.inl un) (.inl tk) (.inl xt) (.inl wrb) (.inl nab) (.inl iwb)) (xD 660 X0) ws kp as rd sc ty ik) H := hH
    refine b_ge (tgt := 44) F dX7_letter_30 (by decide) (fun c_12 => ?_) (fun c_12 => ?_)
    · skip
      refine lv_iconst (v := 0) F.1 F.2.1 dX7_letter_44 (by decide) ?_
      refine topK (a := 0) (by decide) (fun k_15 hk_15 => ?_)
      refine lv_istore_n (lv' := [(2, .int k_15), (0, .ref a0), (1, .int a1)]) F.1 F.2.1 dX7_letter_45 rfl hl (by decide) rfl (fun ls hl => ?_)
      refine wloop (σ := Int32) (fun n9 x9 H locs ls => (14 - x9.toInt + 1).toNat < n9 ∧ (0 ≤ x9.toInt ∧ x9.toInt ≤ 14) ∧ TH E (tbM (mD (.inl tp) (.inl sp) (.inl nu) (.inl un) (.inl tk) (.inl xt) (.inl wrb) (.inl nab) (.inl iwb)) (xD 660 X0) ws kp as rd sc ty ik) H ∧ va_S (eA E s.heap.size) s.heap H locs ∧ lv_has ls 3 [(0, .ref a0), (1, .int a1), (2, .int x9)]) ?_ (fun x9 H locs ls h => absurd h.1 (Nat.not_lt_zero _)) _ (k_15) ⟨Nat.lt_succ_self _, (wkb (eqb hk_15) rfl rfl), hH, hS, lv_sub hl [1, 2, 0] rfl⟩
      intro n_46 ih_46 u_16 H locs ls ⟨hm_46, hu_16, hH, hS, hl⟩
      have hm_46 : (14 - u_16.toInt + 1).toNat < n_46 + 1 := hm_46
      have hu_16 : (0 ≤ u_16.toInt ∧ u_16.toInt ≤ 14) := hu_16
      have hH : TH E (tbM (mD (.inl tp) (.inl sp) (.inl nu) (.inl un) (.inl tk) (.inl xt) (.inl wrb) (.inl nab) (.inl iwb)) (xD 660 X0) ws kp as rd sc ty ik) H := hH
      have hl : lv_has ls 3 [(0, .ref a0), (1, .int a1), (2, .int u_16)] := hl
      refine lv_iload_n F.1 F.2.1 dX7_letter_46 rfl (lv_at hl 2 rfl) ?_
      refine lv_aload_n F.1 F.2.1 dX7_letter_47 rfl (lv_at hl 0 rfl) ?_
      refine tVi (b := a0) (As := []) (rest := [.int u_16]) F hK hN hO (c_X7_rights E ws kp as rd sc ty ik un tk xt tp sp wrb nu nab iwb X0 a0 ha0 ((hX0).1)) mv_X7_rights wd_19_4 ⟨Nat.le_of_ble_eq_true rfl, Nat.le_of_ble_eq_true rfl⟩ ⟨Nat.le_of_ble_eq_true rfl, Nat.le_of_ble_eq_true rfl⟩ hH hS (tRecv hK hH (tyb ha0 (all1 rfl)) clX7) rfl hl.1 (Nat.le_of_ble_eq_true rfl) dX7_letter_48 (fun z_17 H locs hq hS => ?_)
      obtain ⟨f_18, f_19, hH⟩ := hq
      have hH : TH E (tbM (mD (.inl tp) (.inl sp) (.inl nu) (.inl un) (.inl tk) (.inl xt) (.inl wrb) (.inl nab) (.inl iwb)) (xD 660 X0) ws kp as rd sc ty ik) H := hH
      refine b_ge (tgt := 65) F dX7_letter_51 (by decide) (fun c_20 => ?_) (fun c_20 => ?_)
      · skip
        refine lv_iconst (v := 0) F.1 F.2.1 dX7_letter_65 (by decide) ?_
        refine topK (a := 0) (by decide) (fun k_23 hk_23 => ?_)
        refine lv_istore_n (lv' := [(2, .int k_23), (0, .ref a0), (1, .int a1)]) F.1 F.2.1 dX7_letter_66 rfl hl (by decide) rfl (fun ls hl => ?_)
        refine wloop (σ := Int32) (fun n9 x9 H locs ls => (4 - x9.toInt + 1).toNat < n9 ∧ (0 ≤ x9.toInt ∧ x9.toInt ≤ 4) ∧ TH E (tbM (mD (.inl tp) (.inl sp) (.inl nu) (.inl un) (.inl tk) (.inl xt) (.inl wrb) (.inl nab) (.inl iwb)) (xD 660 X0) ws kp as rd sc ty ik) H ∧ va_S (eA E s.heap.size) s.heap H locs ∧ lv_has ls 3 [(0, .ref a0), (1, .int a1), (2, .int x9)]) ?_ (fun x9 H locs ls h => absurd h.1 (Nat.not_lt_zero _)) _ (k_23) ⟨Nat.lt_succ_self _, (wkb (eqb hk_23) rfl rfl), hH, hS, lv_sub hl [1, 2, 0] rfl⟩
        intro n_67 ih_67 u_24 H locs ls ⟨hm_67, hu_24, hH, hS, hl⟩
        have hm_67 : (4 - u_24.toInt + 1).toNat < n_67 + 1 := hm_67
        have hu_24 : (0 ≤ u_24.toInt ∧ u_24.toInt ≤ 4) := hu_24
        have hH : TH E (tbM (mD (.inl tp) (.inl sp) (.inl nu) (.inl un) (.inl tk) (.inl xt) (.inl wrb) (.inl nab) (.inl iwb)) (xD 660 X0) ws kp as rd sc ty ik) H := hH
        have hl : lv_has ls 3 [(0, .ref a0), (1, .int a1), (2, .int u_24)] := hl
        refine lv_iload_n F.1 F.2.1 dX7_letter_67 rfl (lv_at hl 2 rfl) ?_
        refine lv_aload_n F.1 F.2.1 dX7_letter_68 rfl (lv_at hl 0 rfl) ?_
        refine tVi (b := a0) (As := []) (rest := [.int u_24]) F hK hN hO (c_X7_stores E ws kp as rd sc ty ik un tk xt tp sp wrb nu nab iwb X0 a0 ha0 ((hX0).1)) mv_X7_stores wd_26_12 ⟨Nat.le_of_ble_eq_true rfl, Nat.le_of_ble_eq_true rfl⟩ ⟨Nat.le_of_ble_eq_true rfl, Nat.le_of_ble_eq_true rfl⟩ hH hS (tRecv hK hH (tyb ha0 (all1 rfl)) clX7) rfl hl.1 (Nat.le_of_ble_eq_true rfl) dX7_letter_69 (fun z_25 H locs hq hS => ?_)
        obtain ⟨f_26, f_27, hH⟩ := hq
        have hH : TH E (tbM (mD (.inl tp) (.inl sp) (.inl nu) (.inl un) (.inl tk) (.inl xt) (.inl wrb) (.inl nab) (.inl iwb)) (xD 660 X0) ws kp as rd sc ty ik) H := hH
        refine b_ge (tgt := 86) F dX7_letter_72 (by decide) (fun c_28 => ?_) (fun c_28 => ?_)
        · skip
          refine lv_aload_n F.1 F.2.1 dX7_letter_86 rfl (lv_at hl 0 rfl) ?_
          refine tGetR (j := 0) F hK hH (tyb ha0 (all1 rfl)) rfl (all1 rfl) clX7 (by decide) wd_6_5 dX7_letter_87 (fun q_31 hq_31 _ => ?_)
          refine lv_iconst (v := 4) F.1 F.2.1 dX7_letter_90 (by decide) ?_
          refine topK (a := 4) (by decide) (fun k_32 hk_32 => ?_)
          refine tIaldX F hK hH (tyb hq_31 (all1 rfl)) (ixb (n := 660) (eqb hk_32) rfl rfl) dX7_letter_91 (fun z_33 ez_33 => ?_)
          refine lv_bipush (v := 100) F.1 F.2.1 dX7_letter_92 (by decide) ?_
          refine topK (a := 100) (by decide) (fun k_34 hk_34 => ?_)
          refine wjoin (σ := Unit) (pcj := 114) (stj := fun x9 => []) (fun x9 H locs ls => TH E (tbM (mD (.inl tp) (.inl sp) (.inl nu) (.inl un) (.inl tk) (.inl xt) (.inl wrb) (.inl nab) (.inl iwb)) (xD 660 X0) ws kp as rd sc ty ik) H ∧ va_S (eA E s.heap.size) s.heap H locs ∧ lv_has ls 3 [(0, .ref a0), (1, .int a1)]) (fun x9 H locs ls h_ => ?_) (fun J_114 => ?_)
          · skip
            obtain ⟨hH, hS, hl⟩ := h_
            have hH : TH E (tbM (mD (.inl tp) (.inl sp) (.inl nu) (.inl un) (.inl tk) (.inl xt) (.inl wrb) (.inl nab) (.inl iwb)) (xD 660 X0) ws kp as rd sc ty ik) H := hH
            have hl : lv_has ls 3 [(0, .ref a0), (1, .int a1)] := hl
            show W _ _ _ _ _ _ _ _ _ _ _ _ _ _ _ (F0 _ _ _ [])
            refine lv_iload_n F.1 F.2.1 dX7_letter_114 rfl (lv_at hl 1 rfl) ?_
            refine lv_iconst (v := (-1)) F.1 F.2.1 dX7_letter_115 (by decide) ?_
            refine topK (a := (-1)) (by decide) (fun k_35 hk_35 => ?_)
            refine b_ne (tgt := 126) F dX7_letter_116 (by decide) (fun c_36 => ?_) (fun c_36 => ?_)
            · skip
              have r_37 : 0 ≤ a1.toInt ∧ a1.toInt ≤ 2147483647 := by have h9_ := r_3; omega
              refine lv_aload_n F.1 F.2.1 dX7_letter_126 rfl (lv_at hl 0 rfl) ?_
              refine tGetI (j := 39) F hK hH (tyb ha0 (all1 rfl)) rfl clX7 (by decide) wd_55_14 dX7_letter_127 (fun z_39 hz_39 => ?_)
              exact txI F hS dX7_letter_130 rfl (⟨hz_39, hH⟩)
            · skip
              have r_38 : (-1) ≤ a1.toInt ∧ a1.toInt ≤ (-1) := by have h9_ := r_3; omega
              refine lv_aload_n F.1 F.2.1 dX7_letter_119 rfl (lv_at hl 0 rfl) ?_
              refine tGetI (j := 37) F hK hH (tyb ha0 (all1 rfl)) rfl clX7 (by decide) wd_55_12 dX7_letter_120 (fun z_40 hz_40 => ?_)
              refine lv_goto (tgt := 130) F.1 F.2.1 dX7_letter_123 (by decide) ?_
              exact txI F hS dX7_letter_130 rfl (⟨hz_40, hH⟩)
          refine b_eq (tgt := 114) F dX7_letter_94 (by decide) (fun c_41 => ?_) (fun c_41 => ?_)
          · skip
            have r_42 : 100 ≤ z_33.toInt ∧ z_33.toInt ≤ 100 := by have h9_ := (i32b z_33); omega
            exact J_114 () _ _ _ ⟨hH, hS, lv_sub hl [0, 1] rfl⟩
          · skip
            refine lv_aload_n F.1 F.2.1 dX7_letter_97 rfl (lv_at hl 0 rfl) ?_
            refine ldcwS F.1 F.2.1 F.2.2.2.2.1 (hO.1 26 _ rfl).1 dX7_letter_98 ?_
            refine tVv (b := a0) (As := [.ref (eX E 26)]) (rest := []) F hK hN hO (c_X7_spellPart E ws kp as rd sc ty ik un tk xt tp sp wrb nu nab iwb X0 a0 26 3 ha0 (strAt 26 rfl) hX0) mv_X7_spellPart wd_55_19 ⟨Nat.le_of_ble_eq_true rfl, Nat.le_of_ble_eq_true rfl⟩ ⟨Nat.le_of_ble_eq_true rfl, Nat.le_of_ble_eq_true rfl⟩ hH hS (tRecv hK hH (tyb ha0 (all1 rfl)) clX7) rfl hl.1 (Nat.le_of_ble_eq_true rfl) dX7_letter_101 (fun H locs hq hS => ?_)
            have hH := hq
            have hH : TH E (tbM (mD (.inl tp) (.inl sp) (.inl nu) (.inl un) (.inl tk) (.inl xt) (.inl wrb) (.inl nab) (.inl iwb)) (xD 660 X0) ws kp as rd sc ty ik) H := hH
            refine lv_aload_n F.1 F.2.1 dX7_letter_104 rfl (lv_at hl 0 rfl) ?_
            refine lv_aload_n F.1 F.2.1 dX7_letter_105 rfl (lv_at hl 0 rfl) ?_
            refine tGetR (j := 0) F hK hH (tyb ha0 (all1 rfl)) rfl (all1 rfl) clX7 (by decide) wd_6_5 dX7_letter_106 (fun q_44 hq_44 _ => ?_)
            refine lv_iconst (v := 4) F.1 F.2.1 dX7_letter_109 (by decide) ?_
            refine topK (a := 4) (by decide) (fun k_45 hk_45 => ?_)
            refine tIaldX F hK hH (tyb hq_44 (all1 rfl)) (ixb (n := 660) (eqb hk_45) rfl rfl) dX7_letter_110 (fun z_46 ez_46 => ?_)
            refine tVv (b := a0) (As := [.int z_46]) (rest := []) F hK hN hO (c_X7_spellNumber E ws kp as rd sc ty ik un tk xt tp sp wrb nu nab iwb X0 a0 z_46 ha0 hX0) mv_X7_spellNumber wd_56_7 ⟨Nat.le_of_ble_eq_true rfl, Nat.le_of_ble_eq_true rfl⟩ ⟨Nat.le_of_ble_eq_true rfl, Nat.le_of_ble_eq_true rfl⟩ hH hS (tRecv hK hH (tyb ha0 (all1 rfl)) clX7) rfl hl.1 (Nat.le_of_ble_eq_true rfl) dX7_letter_111 (fun H locs hq hS => ?_)
            have hH := hq
            have hH : TH E (tbM (mD (.inl tp) (.inl sp) (.inl nu) (.inl un) (.inl tk) (.inl xt) (.inl wrb) (.inl nab) (.inl iwb)) (xD 660 X0) ws kp as rd sc ty ik) H := hH
            exact J_114 () _ _ _ ⟨hH, hS, lv_sub hl [0, 1] rfl⟩
        · skip
          have r_29 : 0 ≤ u_24.toInt ∧ u_24.toInt ≤ 3 := by have h9_ := hu_24; omega
          have r_30 : 1 ≤ z_25.toInt ∧ z_25.toInt ≤ 4 := by have h9_ := f_26; omega
          refine lv_aload_n F.1 F.2.1 dX7_letter_75 rfl (lv_at hl 0 rfl) ?_
          refine lv_iload_n F.1 F.2.1 dX7_letter_76 rfl (lv_at hl 2 rfl) ?_
          refine tVv (b := a0) (As := [.int u_24]) (rest := []) F hK hN hO (c_X7_spellStore E ws kp as rd sc ty ik un tk xt tp sp wrb nu nab iwb X0 a0 u_24 ha0 r_29 hX0) mv_X7_spellStore wd_56_15 ⟨Nat.le_of_ble_eq_true rfl, Nat.le_of_ble_eq_true rfl⟩ ⟨Nat.le_of_ble_eq_true rfl, Nat.le_of_ble_eq_true rfl⟩ hH hS (tRecv hK hH (tyb ha0 (all1 rfl)) clX7) rfl hl.1 (Nat.le_of_ble_eq_true rfl) dX7_letter_77 (fun H locs hq hS => ?_)
          have hH := hq
          have hH : TH E (tbM (mD (.inl tp) (.inl sp) (.inl nu) (.inl un) (.inl tk) (.inl xt) (.inl wrb) (.inl nab) (.inl iwb)) (xD 660 X0) ws kp as rd sc ty ik) H := hH
          obtain ⟨x_49, ex_49, hx_49⟩ := iincB (c := 1) (lo := 1) (hi := 4) r_29 rfl
          refine lv_iinc (v := x_49) (lv' := [(2, .int x_49), (0, .ref a0), (1, .int a1)]) F.1 F.2.1 dX7_letter_80 hl (k := 2) rfl ex_49 (by decide) rfl (fun ls hl => ?_)
          refine lv_goto (tgt := 67) F.1 F.2.1 dX7_letter_83 (by decide) ?_
          exact ih_67 (x_49) _ _ _ ⟨(show (4 - x_49.toInt + 1).toNat < n_67 from by omega), (wkb hx_49.2 rfl rfl), hH, hS, lv_sub hl [1, 2, 0] rfl⟩
      · skip
        have r_21 : 0 ≤ u_16.toInt ∧ u_16.toInt ≤ 13 := by have h9_ := hu_16; omega
        have r_22 : 1 ≤ z_17.toInt ∧ z_17.toInt ≤ 14 := by have h9_ := f_18; omega
        refine lv_aload_n F.1 F.2.1 dX7_letter_54 rfl (lv_at hl 0 rfl) ?_
        refine lv_iload_n F.1 F.2.1 dX7_letter_55 rfl (lv_at hl 2 rfl) ?_
        refine tVv (b := a0) (As := [.int u_16]) (rest := []) F hK hN hO (c_X7_spellRight E ws kp as rd sc ty ik un tk xt tp sp wrb nu nab iwb X0 a0 u_16 ha0 r_21 hX0) mv_X7_spellRight wd_56_11 ⟨Nat.le_of_ble_eq_true rfl, Nat.le_of_ble_eq_true rfl⟩ ⟨Nat.le_of_ble_eq_true rfl, Nat.le_of_ble_eq_true rfl⟩ hH hS (tRecv hK hH (tyb ha0 (all1 rfl)) clX7) rfl hl.1 (Nat.le_of_ble_eq_true rfl) dX7_letter_56 (fun H locs hq hS => ?_)
        have hH := hq
        have hH : TH E (tbM (mD (.inl tp) (.inl sp) (.inl nu) (.inl un) (.inl tk) (.inl xt) (.inl wrb) (.inl nab) (.inl iwb)) (xD 660 X0) ws kp as rd sc ty ik) H := hH
        obtain ⟨x_51, ex_51, hx_51⟩ := iincB (c := 1) (lo := 1) (hi := 14) r_21 rfl
        refine lv_iinc (v := x_51) (lv' := [(2, .int x_51), (0, .ref a0), (1, .int a1)]) F.1 F.2.1 dX7_letter_59 hl (k := 2) rfl ex_51 (by decide) rfl (fun ls hl => ?_)
        refine lv_goto (tgt := 46) F.1 F.2.1 dX7_letter_62 (by decide) ?_
        exact ih_46 (x_51) _ _ _ ⟨(show (14 - x_51.toInt + 1).toNat < n_46 from by omega), (wkb hx_51.2 rfl rfl), hH, hS, lv_sub hl [1, 2, 0] rfl⟩
    · skip
      have r_13 : 0 ≤ u_8.toInt ∧ u_8.toInt ≤ 11 := by have h9_ := hu_8; omega
      have r_14 : 1 ≤ z_9.toInt ∧ z_9.toInt ≤ 12 := by have h9_ := f_10; omega
      refine lv_aload_n F.1 F.2.1 dX7_letter_33 rfl (lv_at hl 0 rfl) ?_
      refine lv_iload_n F.1 F.2.1 dX7_letter_34 rfl (lv_at hl 2 rfl) ?_
      refine tVv (b := a0) (As := [.int u_8]) (rest := []) F hK hN hO (c_X7_spellReach E ws kp as rd sc ty ik un tk xt tp sp wrb nu nab iwb X0 a0 u_8 ha0 r_13 hX0) mv_X7_spellReach wd_55_15 ⟨Nat.le_of_ble_eq_true rfl, Nat.le_of_ble_eq_true rfl⟩ ⟨Nat.le_of_ble_eq_true rfl, Nat.le_of_ble_eq_true rfl⟩ hH hS (tRecv hK hH (tyb ha0 (all1 rfl)) clX7) rfl hl.1 (Nat.le_of_ble_eq_true rfl) dX7_letter_35 (fun H locs hq hS => ?_)
      have hH := hq
      have hH : TH E (tbM (mD (.inl tp) (.inl sp) (.inl nu) (.inl un) (.inl tk) (.inl xt) (.inl wrb) (.inl nab) (.inl iwb)) (xD 660 X0) ws kp as rd sc ty ik) H := hH
      obtain ⟨x_53, ex_53, hx_53⟩ := iincB (c := 1) (lo := 1) (hi := 12) r_13 rfl
      refine lv_iinc (v := x_53) (lv' := [(2, .int x_53), (0, .ref a0), (1, .int a1)]) F.1 F.2.1 dX7_letter_38 hl (k := 2) rfl ex_53 (by decide) rfl (fun ls hl => ?_)
      refine lv_goto (tgt := 25) F.1 F.2.1 dX7_letter_41 (by decide) ?_
      exact ih_25 (x_53) _ _ _ ⟨(show (12 - x_53.toInt + 1).toNat < n_25 from by omega), (wkb hx_53.2 rfl rfl), hH, hS, lv_sub hl [1, 2, 0] rfl⟩
  · skip
    have r_4 : (-2147483648) ≤ a1.toInt ∧ a1.toInt ≤ (-2) := by have h9_ := (i32b a1); omega
    refine lv_iconst (v := (-1)) F.1 F.2.1 dX7_letter_5 (by decide) ?_
    refine topK (a := (-1)) (by decide) (fun k_54 hk_54 => ?_)
    exact txI F hS dX7_letter_6 rfl (⟨(wkb (eqb hk_54) rfl rfl), hH⟩)
