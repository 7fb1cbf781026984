theorem dX6_isReach_0 : decode cX6_isReach 0 = .ok (.iload_n 1, 1) := by decide +kernel
theorem dX6_isReach_1 : decode cX6_isReach 1 = .ok (.ifCond .lt 18, 3) := by decide +kernel
theorem dX6_isReach_4 : decode cX6_isReach 4 = .ok (.iload_n 1, 1) := by decide +kernel
theorem dX6_isReach_5 : decode cX6_isReach 5 = .ok (.aload_n 0, 1) := by decide +kernel
theorem dX6_isReach_6 : decode cX6_isReach 6 = .ok (.getfield 16, 3) := by decide +kernel
theorem dX6_isReach_9 : decode cX6_isReach 9 = .ok (.getfield 340, 3) := by decide +kernel
theorem dX6_isReach_12 : decode cX6_isReach 12 = .ok (.if_icmp .ge 7, 3) := by decide +kernel
theorem dX6_isReach_15 : decode cX6_isReach 15 = .ok (.iconst 1, 1) := by decide +kernel
theorem dX6_isReach_16 : decode cX6_isReach 16 = .ok (.goto 4, 3) := by decide +kernel
theorem dX6_isReach_19 : decode cX6_isReach 19 = .ok (.iconst 0, 1) := by decide +kernel
theorem dX6_isReach_20 : decode cX6_isReach 20 = .ok (.ireturn, 1) := by decide +kernel
theorem dX6_isRight_0 : decode cX6_isRight 0 = .ok (.iload_n 1, 1) := by decide +kernel
theorem dX6_isRight_1 : decode cX6_isRight 1 = .ok (.ifCond .lt 18, 3) := by decide +kernel
theorem dX6_isRight_4 : decode cX6_isRight 4 = .ok (.iload_n 1, 1) := by decide +kernel
theorem dX6_isRight_5 : decode cX6_isRight 5 = .ok (.aload_n 0, 1) := by decide +kernel
theorem dX6_isRight_6 : decode cX6_isRight 6 = .ok (.getfield 16, 3) := by decide +kernel
theorem dX6_isRight_9 : decode cX6_isRight 9 = .ok (.getfield 96, 3) := by decide +kernel
theorem dX6_isRight_12 : decode cX6_isRight 12 = .ok (.if_icmp .ge 7, 3) := by decide +kernel
theorem dX6_isRight_15 : decode cX6_isRight 15 = .ok (.iconst 1, 1) := by decide +kernel
theorem dX6_isRight_16 : decode cX6_isRight 16 = .ok (.goto 4, 3) := by decide +kernel
theorem dX6_isRight_19 : decode cX6_isRight 19 = .ok (.iconst 0, 1) := by decide +kernel
theorem dX6_isRight_20 : decode cX6_isRight 20 = .ok (.ireturn, 1) := by decide +kernel
theorem dX6_isStore_0 : decode cX6_isStore 0 = .ok (.iload_n 1, 1) := by decide +kernel
theorem dX6_isStore_1 : decode cX6_isStore 1 = .ok (.ifCond .lt 18, 3) := by decide +kernel
theorem dX6_isStore_4 : decode cX6_isStore 4 = .ok (.iload_n 1, 1) := by decide +kernel
theorem dX6_isStore_5 : decode cX6_isStore 5 = .ok (.aload_n 0, 1) := by decide +kernel
theorem dX6_isStore_6 : decode cX6_isStore 6 = .ok (.getfield 16, 3) := by decide +kernel
theorem dX6_isStore_9 : decode cX6_isStore 9 = .ok (.getfield 403, 3) := by decide +kernel
theorem dX6_isStore_12 : decode cX6_isStore 12 = .ok (.if_icmp .ge 7, 3) := by decide +kernel
theorem dX6_isStore_15 : decode cX6_isStore 15 = .ok (.iconst 1, 1) := by decide +kernel
theorem dX6_isStore_16 : decode cX6_isStore 16 = .ok (.goto 4, 3) := by decide +kernel
theorem dX6_isStore_19 : decode cX6_isStore 19 = .ok (.iconst 0, 1) := by decide +kernel
theorem dX6_isStore_20 : decode cX6_isStore 20 = .ok (.ireturn, 1) := by decide +kernel
theorem dX6_areTwoRights_0 : decode cX6_areTwoRights 0 = .ok (.aload_n 0, 1) := by decide +kernel
theorem dX6_areTwoRights_1 : decode cX6_areTwoRights 1 = .ok (.iload_n 1, 1) := by decide +kernel
theorem dX6_areTwoRights_2 : decode cX6_areTwoRights 2 = .ok (.invokevirtual 117, 3) := by decide +kernel
theorem dX6_areTwoRights_5 : decode cX6_areTwoRights 5 = .ok (.ifCond .eq 20, 3) := by decide +kernel
theorem dX6_areTwoRights_8 : decode cX6_areTwoRights 8 = .ok (.aload_n 0, 1) := by decide +kernel
theorem dX6_areTwoRights_9 : decode cX6_areTwoRights 9 = .ok (.iload_n 2, 1) := by decide +kernel
theorem dX6_areTwoRights_10 : decode cX6_areTwoRights 10 = .ok (.invokevirtual 117, 3) := by decide +kernel
theorem dX6_areTwoRights_13 : decode cX6_areTwoRights 13 = .ok (.ifCond .eq 12, 3) := by decide +kernel
theorem dX6_areTwoRights_16 : decode cX6_areTwoRights 16 = .ok (.iload_n 1, 1) := by decide +kernel
theorem dX6_areTwoRights_17 : decode cX6_areTwoRights 17 = .ok (.iload_n 2, 1) := by decide +kernel
theorem dX6_areTwoRights_18 : decode cX6_areTwoRights 18 = .ok (.if_icmp .eq 7, 3) := by decide +kernel
theorem dX6_areTwoRights_21 : decode cX6_areTwoRights 21 = .ok (.iconst 1, 1) := by decide +kernel
theorem dX6_areTwoRights_22 : decode cX6_areTwoRights 22 = .ok (.goto 4, 3) := by decide +kernel
theorem dX6_areTwoRights_25 : decode cX6_areTwoRights 25 = .ok (.iconst 0, 1) := by decide +kernel
theorem dX6_areTwoRights_26 : decode cX6_areTwoRights 26 = .ok (.ireturn, 1) := by decide +kernel
theorem dX6_isSpan_0 : decode cX6_isSpan 0 = .ok (.iload_n 0, 1) := by decide +kernel
theorem dX6_isSpan_1 : decode cX6_isSpan 1 = .ok (.iconst 1, 1) := by decide +kernel
theorem dX6_isSpan_2 : decode cX6_isSpan 2 = .ok (.if_icmp .lt 14, 3) := by decide +kernel
theorem dX6_isSpan_5 : decode cX6_isSpan 5 = .ok (.iload_n 0, 1) := by decide +kernel
theorem dX6_isSpan_6 : decode cX6_isSpan 6 = .ok (.sipush 360, 3) := by decide +kernel
theorem dX6_isSpan_9 : decode cX6_isSpan 9 = .ok (.if_icmp .gt 7, 3) := by decide +kernel
theorem dX6_isSpan_12 : decode cX6_isSpan 12 = .ok (.iconst 1, 1) := by decide +kernel
theorem dX6_isSpan_13 : decode cX6_isSpan 13 = .ok (.goto 4, 3) := by decide +kernel
theorem dX6_isSpan_16 : decode cX6_isSpan 16 = .ok (.iconst 0, 1) := by decide +kernel
theorem dX6_isSpan_17 : decode cX6_isSpan 17 = .ok (.ireturn, 1) := by decide +kernel
theorem dX6_nameOf_0 : decode cX6_nameOf 0 = .ok (.iload_n 0, 1) := by decide +kernel
theorem dX6_nameOf_1 : decode cX6_nameOf 1 = .ok (.bipush 14, 2) := by decide +kernel
theorem dX6_nameOf_3 : decode cX6_nameOf 3 = .ok (.if_icmp .ge 7, 3) := by decide +kernel
theorem dX6_nameOf_6 : decode cX6_nameOf 6 = .ok (.iload_n 0, 1) := by decide +kernel
theorem dX6_nameOf_7 : decode cX6_nameOf 7 = .ok (.goto 10, 3) := by decide +kernel
theorem dX6_nameOf_10 : decode cX6_nameOf 10 = .ok (.bipush 100, 2) := by decide +kernel
theorem dX6_nameOf_12 : decode cX6_nameOf 12 = .ok (.iload_n 0, 1) := by decide +kernel
theorem dX6_nameOf_13 : decode cX6_nameOf 13 = .ok (.iadd, 1) := by decide +kernel
theorem dX6_nameOf_14 : decode cX6_nameOf 14 = .ok (.bipush 14, 2) := by decide +kernel
theorem dX6_nameOf_16 : decode cX6_nameOf 16 = .ok (.isub, 1) := by decide +kernel
theorem dX6_nameOf_17 : decode cX6_nameOf 17 = .ok (.ireturn, 1) := by decide +kernel
theorem dX6_thousandths_0 : decode cX6_thousandths 0 = .ok (.lload_n 2, 1) := by decide +kernel
theorem dX6_thousandths_1 : decode cX6_thousandths 1 = .ok (.lconst 0, 1) := by decide +kernel
theorem dX6_thousandths_2 : decode cX6_thousandths 2 = .ok (.lcmp, 1) := by decide +kernel
theorem dX6_thousandths_3 : decode cX6_thousandths 3 = .ok (.ifCond .gt 9, 3) := by decide +kernel
theorem dX6_thousandths_6 : decode cX6_thousandths 6 = .ok (.sipush 1000, 3) := by decide +kernel
theorem dX6_thousandths_9 : decode cX6_thousandths 9 = .ok (.goto 11, 3) := by decide +kernel
theorem dX6_thousandths_12 : decode cX6_thousandths 12 = .ok (.lload_n 0, 1) := by decide +kernel
theorem dX6_thousandths_13 : decode cX6_thousandths 13 = .ok (.ldc2_w 401, 3) := by decide +kernel
theorem dX6_thousandths_16 : decode cX6_thousandths 16 = .ok (.lmul, 1) := by decide +kernel
theorem dX6_thousandths_17 : decode cX6_thousandths 17 = .ok (.lload_n 2, 1) := by decide +kernel
theorem dX6_thousandths_18 : decode cX6_thousandths 18 = .ok (.ldiv, 1) := by decide +kernel
theorem dX6_thousandths_19 : decode cX6_thousandths 19 = .ok (.l2i, 1) := by decide +kernel
theorem dX6_thousandths_20 : decode cX6_thousandths 20 = .ok (.ireturn, 1) := by decide +kernel
theorem dX6_countTold_0 : decode cX6_countTold 0 = .ok (.iconst 0, 1) := by decide +kernel
theorem dX6_countTold_1 : decode cX6_countTold 1 = .ok (.istore_n 2, 1) := by decide +kernel
theorem dX6_countTold_2 : decode cX6_countTold 2 = .ok (.iconst 0, 1) := by decide +kernel
theorem dX6_countTold_3 : decode cX6_countTold 3 = .ok (.istore_n 3, 1) := by decide +kernel
theorem dX6_countTold_4 : decode cX6_countTold 4 = .ok (.iload_n 3, 1) := by decide +kernel
theorem dX6_countTold_5 : decode cX6_countTold 5 = .ok (.iload_n 1, 1) := by decide +kernel
theorem dX6_countTold_6 : decode cX6_countTold 6 = .ok (.if_icmp .ge 24, 3) := by decide +kernel
theorem dX6_countTold_9 : decode cX6_countTold 9 = .ok (.iload_n 3, 1) := by decide +kernel
theorem dX6_countTold_10 : decode cX6_countTold 10 = .ok (.aload_n 0, 1) := by decide +kernel
theorem dX6_countTold_11 : decode cX6_countTold 11 = .ok (.arraylength, 1) := by decide +kernel
theorem dX6_countTold_12 : decode cX6_countTold 12 = .ok (.if_icmp .ge 18, 3) := by decide +kernel
theorem dX6_countTold_15 : decode cX6_countTold 15 = .ok (.aload_n 0, 1) := by decide +kernel
theorem dX6_countTold_16 : decode cX6_countTold 16 = .ok (.iload_n 3, 1) := by decide +kernel
theorem dX6_countTold_17 : decode cX6_countTold 17 = .ok (.iaload, 1) := by decide +kernel
theorem dX6_countTold_18 : decode cX6_countTold 18 = .ok (.ifCond .lt 6, 3) := by decide +kernel
theorem dX6_countTold_21 : decode cX6_countTold 21 = .ok (.iinc 2 1, 3) := by decide +kernel
theorem dX6_countTold_24 : decode cX6_countTold 24 = .ok (.iinc 3 1, 3) := by decide +kernel
theorem dX6_countTold_27 : decode cX6_countTold 27 = .ok (.goto (-23), 3) := by decide +kernel
theorem dX6_countTold_30 : decode cX6_countTold 30 = .ok (.iload_n 2, 1) := by decide +kernel
theorem dX6_countTold_31 : decode cX6_countTold 31 = .ok (.ireturn, 1) := by decide +kernel
theorem dX6_remember_0 : decode cX6_remember 0 = .ok (.aload_n 0, 1) := by decide +kernel
theorem dX6_remember_1 : decode cX6_remember 1 = .ok (.getfield 30, 3) := by decide +kernel
theorem dX6_remember_4 : decode cX6_remember 4 = .ok (.aload_n 0, 1) := by decide +kernel
theorem dX6_remember_5 : decode cX6_remember 5 = .ok (.getfield 165, 3) := by decide +kernel
theorem dX6_remember_8 : decode cX6_remember 8 = .ok (.aaload, 1) := by decide +kernel
theorem dX6_remember_9 : decode cX6_remember 9 = .ok (.aload_n 0, 1) := by decide +kernel
theorem dX6_remember_10 : decode cX6_remember 10 = .ok (.getfield 26, 3) := by decide +kernel
theorem dX6_remember_13 : decode cX6_remember 13 = .ok (.invokevirtual 168, 3) := by decide +kernel
theorem dX6_remember_16 : decode cX6_remember 16 = .ok (.aload_n 0, 1) := by decide +kernel
theorem dX6_remember_17 : decode cX6_remember 17 = .ok (.aload_n 0, 1) := by decide +kernel
theorem dX6_remember_18 : decode cX6_remember 18 = .ok (.getfield 165, 3) := by decide +kernel
theorem dX6_remember_21 : decode cX6_remember 21 = .ok (.iconst 1, 1) := by decide +kernel
theorem dX6_remember_22 : decode cX6_remember 22 = .ok (.iadd, 1) := by decide +kernel
theorem dX6_remember_23 : decode cX6_remember 23 = .ok (.bipush 10, 2) := by decide +kernel
theorem dX6_remember_25 : decode cX6_remember 25 = .ok (.irem, 1) := by decide +kernel
theorem dX6_remember_26 : decode cX6_remember 26 = .ok (.putfield 165, 3) := by decide +kernel
theorem dX6_remember_29 : decode cX6_remember 29 = .ok (.aload_n 0, 1) := by decide +kernel
theorem dX6_remember_30 : decode cX6_remember 30 = .ok (.aload_n 0, 1) := by decide +kernel
theorem dX6_remember_31 : decode cX6_remember 31 = .ok (.getfield 93, 3) := by decide +kernel
theorem dX6_remember_34 : decode cX6_remember 34 = .ok (.iconst 1, 1) := by decide +kernel
theorem dX6_remember_35 : decode cX6_remember 35 = .ok (.iadd, 1) := by decide +kernel
theorem dX6_remember_36 : decode cX6_remember 36 = .ok (.bipush 10, 2) := by decide +kernel
theorem dX6_remember_38 : decode cX6_remember 38 = .ok (.invokestatic 172, 3) := by decide +kernel
theorem dX6_remember_41 : decode cX6_remember 41 = .ok (.putfield 93, 3) := by decide +kernel
theorem dX6_remember_44 : decode cX6_remember 44 = .ok (.return_, 1) := by decide +kernel
theorem dX6_look_0 : decode cX6_look 0 = .ok (.aload_n 0, 1) := by decide +kernel
theorem dX6_look_1 : decode cX6_look 1 = .ok (.getfield 50, 3) := by decide +kernel
theorem dX6_look_4 : decode cX6_look 4 = .ok (.aload_n 0, 1) := by decide +kernel
theorem dX6_look_5 : decode cX6_look 5 = .ok (.getfield 16, 3) := by decide +kernel
theorem dX6_look_8 : decode cX6_look 8 = .ok (.aload_n 0, 1) := by decide +kernel
theorem dX6_look_9 : decode cX6_look 9 = .ok (.getfield 26, 3) := by decide +kernel
theorem dX6_look_12 : decode cX6_look 12 = .ok (.invokevirtual 102, 3) := by decide +kernel
theorem dX6_look_15 : decode cX6_look 15 = .ok (.aload_n 0, 1) := by decide +kernel
theorem dX6_look_16 : decode cX6_look 16 = .ok (.getfield 50, 3) := by decide +kernel
theorem dX6_look_19 : decode cX6_look 19 = .ok (.invokevirtual 105, 3) := by decide +kernel
theorem dX6_look_22 : decode cX6_look 22 = .ok (.return_, 1) := by decide +kernel
theorem dX6_lookAhead_0 : decode cX6_lookAhead 0 = .ok (.aload_n 0, 1) := by decide +kernel
theorem dX6_lookAhead_1 : decode cX6_lookAhead 1 = .ok (.getfield 57, 3) := by decide +kernel
theorem dX6_lookAhead_4 : decode cX6_lookAhead 4 = .ok (.aload_n 0, 1) := by decide +kernel
theorem dX6_lookAhead_5 : decode cX6_lookAhead 5 = .ok (.getfield 16, 3) := by decide +kernel
theorem dX6_lookAhead_8 : decode cX6_lookAhead 8 = .ok (.aload_n 0, 1) := by decide +kernel
theorem dX6_lookAhead_9 : decode cX6_lookAhead 9 = .ok (.getfield 26, 3) := by decide +kernel
theorem dX6_lookAhead_12 : decode cX6_lookAhead 12 = .ok (.invokevirtual 310, 3) := by decide +kernel
theorem dX6_lookAhead_15 : decode cX6_lookAhead 15 = .ok (.aload_n 0, 1) := by decide +kernel
theorem dX6_lookAhead_16 : decode cX6_lookAhead 16 = .ok (.getfield 57, 3) := by decide +kernel
theorem dX6_lookAhead_19 : decode cX6_lookAhead 19 = .ok (.sipush 360, 3) := by decide +kernel
theorem dX6_lookAhead_22 : decode cX6_lookAhead 22 = .ok (.iconst (-1), 1) := by decide +kernel
theorem dX6_lookAhead_23 : decode cX6_lookAhead 23 = .ok (.invokevirtual 320, 3) := by decide +kernel
theorem dX6_lookAhead_26 : decode cX6_lookAhead 26 = .ok (.iconst 0, 1) := by decide +kernel
theorem dX6_lookAhead_27 : decode cX6_lookAhead 27 = .ok (.istore_n 1, 1) := by decide +kernel
theorem dX6_lookAhead_28 : decode cX6_lookAhead 28 = .ok (.iload_n 1, 1) := by decide +kernel
theorem dX6_lookAhead_29 : decode cX6_lookAhead 29 = .ok (.aload_n 0, 1) := by decide +kernel
theorem dX6_lookAhead_30 : decode cX6_lookAhead 30 = .ok (.getfield 16, 3) := by decide +kernel
theorem dX6_lookAhead_33 : decode cX6_lookAhead 33 = .ok (.getfield 96, 3) := by decide +kernel
theorem dX6_lookAhead_36 : decode cX6_lookAhead 36 = .ok (.if_icmp .ge 23, 3) := by decide +kernel
theorem dX6_lookAhead_39 : decode cX6_lookAhead 39 = .ok (.aload_n 0, 1) := by decide +kernel
theorem dX6_lookAhead_40 : decode cX6_lookAhead 40 = .ok (.getfield 41, 3) := by decide +kernel
theorem dX6_lookAhead_43 : decode cX6_lookAhead 43 = .ok (.iload_n 1, 1) := by decide +kernel
theorem dX6_lookAhead_44 : decode cX6_lookAhead 44 = .ok (.aload_n 0, 1) := by decide +kernel
theorem dX6_lookAhead_45 : decode cX6_lookAhead 45 = .ok (.getfield 57, 3) := by decide +kernel
theorem dX6_lookAhead_48 : decode cX6_lookAhead 48 = .ok (.iload_n 1, 1) := by decide +kernel
theorem dX6_lookAhead_49 : decode cX6_lookAhead 49 = .ok (.invokevirtual 323, 3) := by decide +kernel
theorem dX6_lookAhead_52 : decode cX6_lookAhead 52 = .ok (.iastore, 1) := by decide +kernel
theorem dX6_lookAhead_53 : decode cX6_lookAhead 53 = .ok (.iinc 1 1, 3) := by decide +kernel
theorem dX6_lookAhead_56 : decode cX6_lookAhead 56 = .ok (.goto (-28), 3) := by decide +kernel
theorem dX6_lookAhead_59 : decode cX6_lookAhead 59 = .ok (.return_, 1) := by decide +kernel
theorem dX6_hurtsSomebody_0 : decode cX6_hurtsSomebody 0 = .ok (.aload_n 0, 1) := by decide +kernel
theorem dX6_hurtsSomebody_1 : decode cX6_hurtsSomebody 1 = .ok (.getfield 57, 3) := by decide +kernel
theorem dX6_hurtsSomebody_4 : decode cX6_hurtsSomebody 4 = .ok (.aload_n 0, 1) := by decide +kernel
theorem dX6_hurtsSomebody_5 : decode cX6_hurtsSomebody 5 = .ok (.getfield 16, 3) := by decide +kernel
theorem dX6_hurtsSomebody_8 : decode cX6_hurtsSomebody 8 = .ok (.aload_n 0, 1) := by decide +kernel
theorem dX6_hurtsSomebody_9 : decode cX6_hurtsSomebody 9 = .ok (.getfield 26, 3) := by decide +kernel
theorem dX6_hurtsSomebody_12 : decode cX6_hurtsSomebody 12 = .ok (.iload_n 1, 1) := by decide +kernel
theorem dX6_hurtsSomebody_13 : decode cX6_hurtsSomebody 13 = .ok (.iload_n 2, 1) := by decide +kernel
theorem dX6_hurtsSomebody_14 : decode cX6_hurtsSomebody 14 = .ok (.invokevirtual 333, 3) := by decide +kernel
theorem dX6_hurtsSomebody_17 : decode cX6_hurtsSomebody 17 = .ok (.aload_n 0, 1) := by decide +kernel
theorem dX6_hurtsSomebody_18 : decode cX6_hurtsSomebody 18 = .ok (.getfield 57, 3) := by decide +kernel
theorem dX6_hurtsSomebody_21 : decode cX6_hurtsSomebody 21 = .ok (.sipush 360, 3) := by decide +kernel
theorem dX6_hurtsSomebody_24 : decode cX6_hurtsSomebody 24 = .ok (.iconst (-1), 1) := by decide +kernel
theorem dX6_hurtsSomebody_25 : decode cX6_hurtsSomebody 25 = .ok (.invokevirtual 320, 3) := by decide +kernel
theorem dX6_hurtsSomebody_28 : decode cX6_hurtsSomebody 28 = .ok (.iconst 0, 1) := by decide +kernel
theorem dX6_hurtsSomebody_29 : decode cX6_hurtsSomebody 29 = .ok (.istore_n 3, 1) := by decide +kernel
theorem dX6_hurtsSomebody_30 : decode cX6_hurtsSomebody 30 = .ok (.iload_n 3, 1) := by decide +kernel
theorem dX6_hurtsSomebody_31 : decode cX6_hurtsSomebody 31 = .ok (.aload_n 0, 1) := by decide +kernel
theorem dX6_hurtsSomebody_32 : decode cX6_hurtsSomebody 32 = .ok (.getfield 16, 3) := by decide +kernel
theorem dX6_hurtsSomebody_35 : decode cX6_hurtsSomebody 35 = .ok (.getfield 96, 3) := by decide +kernel
theorem dX6_hurtsSomebody_38 : decode cX6_hurtsSomebody 38 = .ok (.if_icmp .ge 33, 3) := by decide +kernel
theorem dX6_hurtsSomebody_41 : decode cX6_hurtsSomebody 41 = .ok (.iload_n 3, 1) := by decide +kernel
theorem dX6_hurtsSomebody_42 : decode cX6_hurtsSomebody 42 = .ok (.iload_n 1, 1) := by decide +kernel
theorem dX6_hurtsSomebody_43 : decode cX6_hurtsSomebody 43 = .ok (.if_icmp .eq 22, 3) := by decide +kernel
theorem dX6_hurtsSomebody_46 : decode cX6_hurtsSomebody 46 = .ok (.aload_n 0, 1) := by decide +kernel
theorem dX6_hurtsSomebody_47 : decode cX6_hurtsSomebody 47 = .ok (.getfield 57, 3) := by decide +kernel
theorem dX6_hurtsSomebody_50 : decode cX6_hurtsSomebody 50 = .ok (.iload_n 3, 1) := by decide +kernel
theorem dX6_hurtsSomebody_51 : decode cX6_hurtsSomebody 51 = .ok (.invokevirtual 323, 3) := by decide +kernel
theorem dX6_hurtsSomebody_54 : decode cX6_hurtsSomebody 54 = .ok (.aload_n 0, 1) := by decide +kernel
theorem dX6_hurtsSomebody_55 : decode cX6_hurtsSomebody 55 = .ok (.getfield 41, 3) := by decide +kernel
theorem dX6_hurtsSomebody_58 : decode cX6_hurtsSomebody 58 = .ok (.iload_n 3, 1) := by decide +kernel
theorem dX6_hurtsSomebody_59 : decode cX6_hurtsSomebody 59 = .ok (.iaload, 1) := by decide +kernel
theorem dX6_hurtsSomebody_60 : decode cX6_hurtsSomebody 60 = .ok (.if_icmp .ge 5, 3) := by decide +kernel
theorem dX6_hurtsSomebody_63 : decode cX6_hurtsSomebody 63 = .ok (.iconst 1, 1) := by decide +kernel
theorem dX6_hurtsSomebody_64 : decode cX6_hurtsSomebody 64 = .ok (.ireturn, 1) := by decide +kernel
theorem dX6_hurtsSomebody_65 : decode cX6_hurtsSomebody 65 = .ok (.iinc 3 1, 3) := by decide +kernel
theorem dX6_hurtsSomebody_68 : decode cX6_hurtsSomebody 68 = .ok (.goto (-38), 3) := by decide +kernel
theorem dX6_hurtsSomebody_71 : decode cX6_hurtsSomebody 71 = .ok (.iconst 0, 1) := by decide +kernel
theorem dX6_hurtsSomebody_72 : decode cX6_hurtsSomebody 72 = .ok (.ireturn, 1) := by decide +kernel
theorem dX6_isFutileOn_0 : decode cX6_isFutileOn 0 = .ok (.aload_n 0, 1) := by decide +kernel
theorem dX6_isFutileOn_1 : decode cX6_isFutileOn 1 = .ok (.getfield 50, 3) := by decide +kernel
theorem dX6_isFutileOn_4 : decode cX6_isFutileOn 4 = .ok (.iload_n 1, 1) := by decide +kernel
theorem dX6_isFutileOn_5 : decode cX6_isFutileOn 5 = .ok (.invokevirtual 301, 3) := by decide +kernel
theorem dX6_isFutileOn_8 : decode cX6_isFutileOn 8 = .ok (.ifCond .eq 68, 3) := by decide +kernel
theorem dX6_isFutileOn_11 : decode cX6_isFutileOn 11 = .ok (.aload_n 0, 1) := by decide +kernel
theorem dX6_isFutileOn_12 : decode cX6_isFutileOn 12 = .ok (.getfield 26, 3) := by decide +kernel
theorem dX6_isFutileOn_15 : decode cX6_isFutileOn 15 = .ok (.getfield 208, 3) := by decide +kernel
theorem dX6_isFutileOn_18 : decode cX6_isFutileOn 18 = .ok (.iload_n 2, 1) := by decide +kernel
theorem dX6_isFutileOn_19 : decode cX6_isFutileOn 19 = .ok (.iaload, 1) := by decide +kernel
theorem dX6_isFutileOn_20 : decode cX6_isFutileOn 20 = .ok (.aload_n 0, 1) := by decide +kernel
theorem dX6_isFutileOn_21 : decode cX6_isFutileOn 21 = .ok (.getfield 26, 3) := by decide +kernel
theorem dX6_isFutileOn_24 : decode cX6_isFutileOn 24 = .ok (.getfield 208, 3) := by decide +kernel
theorem dX6_isFutileOn_27 : decode cX6_isFutileOn 27 = .ok (.iload_n 1, 1) := by decide +kernel
theorem dX6_isFutileOn_28 : decode cX6_isFutileOn 28 = .ok (.iaload, 1) := by decide +kernel
theorem dX6_isFutileOn_29 : decode cX6_isFutileOn 29 = .ok (.if_icmp .le 47, 3) := by decide +kernel
theorem dX6_isFutileOn_32 : decode cX6_isFutileOn 32 = .ok (.aload_n 0, 1) := by decide +kernel
theorem dX6_isFutileOn_33 : decode cX6_isFutileOn 33 = .ok (.getfield 50, 3) := by decide +kernel
theorem dX6_isFutileOn_36 : decode cX6_isFutileOn 36 = .ok (.getfield 259, 3) := by decide +kernel
theorem dX6_isFutileOn_39 : decode cX6_isFutileOn 39 = .ok (.iload_n 2, 1) := by decide +kernel
theorem dX6_isFutileOn_40 : decode cX6_isFutileOn 40 = .ok (.iaload, 1) := by decide +kernel
theorem dX6_isFutileOn_41 : decode cX6_isFutileOn 41 = .ok (.ifCond .le 35, 3) := by decide +kernel
theorem dX6_isFutileOn_44 : decode cX6_isFutileOn 44 = .ok (.aload_n 0, 1) := by decide +kernel
theorem dX6_isFutileOn_45 : decode cX6_isFutileOn 45 = .ok (.getfield 16, 3) := by decide +kernel
theorem dX6_isFutileOn_48 : decode cX6_isFutileOn 48 = .ok (.aload_n 0, 1) := by decide +kernel
theorem dX6_isFutileOn_49 : decode cX6_isFutileOn 49 = .ok (.getfield 26, 3) := by decide +kernel
theorem dX6_isFutileOn_52 : decode cX6_isFutileOn 52 = .ok (.getfield 139, 3) := by decide +kernel
theorem dX6_isFutileOn_55 : decode cX6_isFutileOn 55 = .ok (.iload_n 2, 1) := by decide +kernel
theorem dX6_isFutileOn_56 : decode cX6_isFutileOn 56 = .ok (.iaload, 1) := by decide +kernel
theorem dX6_isFutileOn_57 : decode cX6_isFutileOn 57 = .ok (.aload_n 0, 1) := by decide +kernel
theorem dX6_isFutileOn_58 : decode cX6_isFutileOn 58 = .ok (.getfield 26, 3) := by decide +kernel
theorem dX6_isFutileOn_61 : decode cX6_isFutileOn 61 = .ok (.getfield 139, 3) := by decide +kernel
theorem dX6_isFutileOn_64 : decode cX6_isFutileOn 64 = .ok (.iload_n 1, 1) := by decide +kernel
theorem dX6_isFutileOn_65 : decode cX6_isFutileOn 65 = .ok (.iaload, 1) := by decide +kernel
theorem dX6_isFutileOn_66 : decode cX6_isFutileOn 66 = .ok (.invokevirtual 142, 3) := by decide +kernel
theorem dX6_isFutileOn_69 : decode cX6_isFutileOn 69 = .ok (.ifCond .eq 7, 3) := by decide +kernel
theorem dX6_isFutileOn_72 : decode cX6_isFutileOn 72 = .ok (.iconst 1, 1) := by decide +kernel
theorem dX6_isFutileOn_73 : decode cX6_isFutileOn 73 = .ok (.goto 4, 3) := by decide +kernel
theorem dX6_isFutileOn_76 : decode cX6_isFutileOn 76 = .ok (.iconst 0, 1) := by decide +kernel
theorem dX6_isFutileOn_77 : decode cX6_isFutileOn 77 = .ok (.ireturn, 1) := by decide +kernel
theorem dX6_isFutileOnSome_0 : decode cX6_isFutileOnSome 0 = .ok (.iconst 0, 1) := by decide +kernel
theorem dX6_isFutileOnSome_1 : decode cX6_isFutileOnSome 1 = .ok (.istore_n 2, 1) := by decide +kernel
theorem dX6_isFutileOnSome_2 : decode cX6_isFutileOnSome 2 = .ok (.iload_n 2, 1) := by decide +kernel
theorem dX6_isFutileOnSome_3 : decode cX6_isFutileOnSome 3 = .ok (.aload_n 0, 1) := by decide +kernel
theorem dX6_isFutileOnSome_4 : decode cX6_isFutileOnSome 4 = .ok (.getfield 16, 3) := by decide +kernel
theorem dX6_isFutileOnSome_7 : decode cX6_isFutileOnSome 7 = .ok (.getfield 96, 3) := by decide +kernel
theorem dX6_isFutileOnSome_10 : decode cX6_isFutileOnSome 10 = .ok (.if_icmp .ge 25, 3) := by decide +kernel
theorem dX6_isFutileOnSome_13 : decode cX6_isFutileOnSome 13 = .ok (.iload_n 2, 1) := by decide +kernel
theorem dX6_isFutileOnSome_14 : decode cX6_isFutileOnSome 14 = .ok (.iload_n 1, 1) := by decide +kernel
theorem dX6_isFutileOnSome_15 : decode cX6_isFutileOnSome 15 = .ok (.if_icmp .eq 14, 3) := by decide +kernel
theorem dX6_isFutileOnSome_18 : decode cX6_isFutileOnSome 18 = .ok (.aload_n 0, 1) := by decide +kernel
theorem dX6_isFutileOnSome_19 : decode cX6_isFutileOnSome 19 = .ok (.iload_n 1, 1) := by decide +kernel
theorem dX6_isFutileOnSome_20 : decode cX6_isFutileOnSome 20 = .ok (.iload_n 2, 1) := by decide +kernel
theorem dX6_isFutileOnSome_21 : decode cX6_isFutileOnSome 21 = .ok (.invokevirtual 307, 3) := by decide +kernel
theorem dX6_isFutileOnSome_24 : decode cX6_isFutileOnSome 24 = .ok (.ifCond .eq 5, 3) := by decide +kernel
theorem dX6_isFutileOnSome_27 : decode cX6_isFutileOnSome 27 = .ok (.iconst 1, 1) := by decide +kernel
theorem dX6_isFutileOnSome_28 : decode cX6_isFutileOnSome 28 = .ok (.ireturn, 1) := by decide +kernel
theorem dX6_isFutileOnSome_29 : decode cX6_isFutileOnSome 29 = .ok (.iinc 2 1, 3) := by decide +kernel
theorem dX6_isFutileOnSome_32 : decode cX6_isFutileOnSome 32 = .ok (.goto (-30), 3) := by decide +kernel
theorem dX6_isFutileOnSome_35 : decode cX6_isFutileOnSome 35 = .ok (.iconst 0, 1) := by decide +kernel
theorem dX6_isFutileOnSome_36 : decode cX6_isFutileOnSome 36 = .ok (.ireturn, 1) := by decide +kernel
theorem dX6_days_0 : decode cX6_days 0 = .ok (.iload_n 1, 1) := by decide +kernel
theorem dX6_days_1 : decode cX6_days 1 = .ok (.iconst 1, 1) := by decide +kernel
theorem dX6_days_2 : decode cX6_days 2 = .ok (.if_icmp .lt 9, 3) := by decide +kernel
theorem dX6_days_5 : decode cX6_days 5 = .ok (.iload_n 1, 1) := by decide +kernel
theorem dX6_days_6 : decode cX6_days 6 = .ok (.bipush 60, 2) := by decide +kernel
theorem dX6_days_8 : decode cX6_days 8 = .ok (.if_icmp .le 5, 3) := by decide +kernel
theorem dX6_days_11 : decode cX6_days 11 = .ok (.iconst (-1), 1) := by decide +kernel
theorem dX6_days_12 : decode cX6_days 12 = .ok (.ireturn, 1) := by decide +kernel
theorem dX6_days_13 : decode cX6_days 13 = .ok (.aload_n 0, 1) := by decide +kernel
theorem dX6_days_14 : decode cX6_days 14 = .ok (.invokevirtual 99, 3) := by decide +kernel
theorem dX6_days_17 : decode cX6_days 17 = .ok (.aload_n 0, 1) := by decide +kernel
theorem dX6_days_18 : decode cX6_days 18 = .ok (.getfield 50, 3) := by decide +kernel
theorem dX6_days_21 : decode cX6_days 21 = .ok (.aload_n 0, 1) := by decide +kernel
theorem dX6_days_22 : decode cX6_days 22 = .ok (.getfield 16, 3) := by decide +kernel
theorem dX6_days_25 : decode cX6_days 25 = .ok (.aload_n 0, 1) := by decide +kernel
theorem dX6_days_26 : decode cX6_days 26 = .ok (.getfield 26, 3) := by decide +kernel
theorem dX6_days_29 : decode cX6_days 29 = .ok (.invokevirtual 102, 3) := by decide +kernel
theorem dX6_days_32 : decode cX6_days 32 = .ok (.iconst 0, 1) := by decide +kernel
theorem dX6_days_33 : decode cX6_days 33 = .ok (.istore_n 2, 1) := by decide +kernel
theorem dX6_days_34 : decode cX6_days 34 = .ok (.iload_n 2, 1) := by decide +kernel
theorem dX6_days_35 : decode cX6_days 35 = .ok (.iload_n 1, 1) := by decide +kernel
theorem dX6_days_36 : decode cX6_days 36 = .ok (.if_icmp .ge 23, 3) := by decide +kernel
theorem dX6_days_39 : decode cX6_days 39 = .ok (.aload_n 0, 1) := by decide +kernel
theorem dX6_days_40 : decode cX6_days 40 = .ok (.getfield 50, 3) := by decide +kernel
theorem dX6_days_43 : decode cX6_days 43 = .ok (.invokevirtual 105, 3) := by decide +kernel
theorem dX6_days_46 : decode cX6_days 46 = .ok (.aload_n 0, 1) := by decide +kernel
theorem dX6_days_47 : decode cX6_days 47 = .ok (.getfield 50, 3) := by decide +kernel
theorem dX6_days_50 : decode cX6_days 50 = .ok (.invokevirtual 108, 3) := by decide +kernel
theorem dX6_days_53 : decode cX6_days 53 = .ok (.iinc 2 1, 3) := by decide +kernel
theorem dX6_days_56 : decode cX6_days 56 = .ok (.goto (-22), 3) := by decide +kernel
theorem dX6_days_59 : decode cX6_days 59 = .ok (.aload_n 0, 1) := by decide +kernel
theorem dX6_days_60 : decode cX6_days 60 = .ok (.getfield 26, 3) := by decide +kernel
theorem dX6_days_63 : decode cX6_days 63 = .ok (.getfield 111, 3) := by decide +kernel
theorem dX6_days_66 : decode cX6_days 66 = .ok (.ireturn, 1) := by decide +kernel
theorem dX6_wet_0 : decode cX6_wet 0 = .ok (.iload_n 1, 1) := by decide +kernel
theorem dX6_wet_1 : decode cX6_wet 1 = .ok (.ifCond .lt 10, 3) := by decide +kernel
theorem dX6_wet_4 : decode cX6_wet 4 = .ok (.iload_n 1, 1) := by decide +kernel
theorem dX6_wet_5 : decode cX6_wet 5 = .ok (.sipush 400, 3) := by decide +kernel
theorem dX6_wet_8 : decode cX6_wet 8 = .ok (.if_icmp .le 5, 3) := by decide +kernel
theorem dX6_wet_11 : decode cX6_wet 11 = .ok (.iconst (-1), 1) := by decide +kernel
theorem dX6_wet_12 : decode cX6_wet 12 = .ok (.ireturn, 1) := by decide +kernel
theorem dX6_wet_13 : decode cX6_wet 13 = .ok (.aload_n 0, 1) := by decide +kernel
theorem dX6_wet_14 : decode cX6_wet 14 = .ok (.getfield 26, 3) := by decide +kernel
theorem dX6_wet_17 : decode cX6_wet 17 = .ok (.getfield 114, 3) := by decide +kernel
theorem dX6_wet_20 : decode cX6_wet 20 = .ok (.istore_n 2, 1) := by decide +kernel
theorem dX6_wet_21 : decode cX6_wet 21 = .ok (.iload_n 2, 1) := by decide +kernel
theorem dX6_wet_22 : decode cX6_wet 22 = .ok (.iload_n 1, 1) := by decide +kernel
theorem dX6_wet_23 : decode cX6_wet 23 = .ok (.if_icmp .ne 6, 3) := by decide +kernel
theorem dX6_wet_26 : decode cX6_wet 26 = .ok (.bipush (-2), 2) := by decide +kernel
theorem dX6_wet_28 : decode cX6_wet 28 = .ok (.ireturn, 1) := by decide +kernel
theorem dX6_wet_29 : decode cX6_wet 29 = .ok (.aload_n 0, 1) := by decide +kernel
theorem dX6_wet_30 : decode cX6_wet 30 = .ok (.invokevirtual 99, 3) := by decide +kernel
theorem dX6_wet_33 : decode cX6_wet 33 = .ok (.aload_n 0, 1) := by decide +kernel
theorem dX6_wet_34 : decode cX6_wet 34 = .ok (.getfield 26, 3) := by decide +kernel
theorem dX6_wet_37 : decode cX6_wet 37 = .ok (.iload_n 1, 1) := by decide +kernel
theorem dX6_wet_38 : decode cX6_wet 38 = .ok (.putfield 114, 3) := by decide +kernel
theorem dX6_wet_41 : decode cX6_wet 41 = .ok (.iload_n 2, 1) := by decide +kernel
theorem dX6_wet_42 : decode cX6_wet 42 = .ok (.ireturn, 1) := by decide +kernel
theorem dX6_demand_0 : decode cX6_demand 0 = .ok (.aload_n 0, 1) := by decide +kernel
theorem dX6_demand_1 : decode cX6_demand 1 = .ok (.iload_n 1, 1) := by decide +kernel
theorem dX6_demand_2 : decode cX6_demand 2 = .ok (.invokevirtual 117, 3) := by decide +kernel
theorem dX6_demand_5 : decode cX6_demand 5 = .ok (.ifCond .eq 20, 3) := by decide +kernel
theorem dX6_demand_8 : decode cX6_demand 8 = .ok (.iload_n 2, 1) := by decide +kernel
theorem dX6_demand_9 : decode cX6_demand 9 = .ok (.ifCond .lt 16, 3) := by decide +kernel
theorem dX6_demand_12 : decode cX6_demand 12 = .ok (.iload_n 2, 1) := by decide +kernel
theorem dX6_demand_13 : decode cX6_demand 13 = .ok (.aload_n 0, 1) := by decide +kernel
theorem dX6_demand_14 : decode cX6_demand 14 = .ok (.getfield 16, 3) := by decide +kernel
theorem dX6_demand_17 : decode cX6_demand 17 = .ok (.getfield 121, 3) := by decide +kernel
theorem dX6_demand_20 : decode cX6_demand 20 = .ok (.iload_n 1, 1) := by decide +kernel
theorem dX6_demand_21 : decode cX6_demand 21 = .ok (.iaload, 1) := by decide +kernel
theorem dX6_demand_22 : decode cX6_demand 22 = .ok (.if_icmp .le 5, 3) := by decide +kernel
theorem dX6_demand_25 : decode cX6_demand 25 = .ok (.iconst (-1), 1) := by decide +kernel
theorem dX6_demand_26 : decode cX6_demand 26 = .ok (.ireturn, 1) := by decide +kernel
theorem dX6_demand_27 : decode cX6_demand 27 = .ok (.aload_n 0, 1) := by decide +kernel
theorem dX6_demand_28 : decode cX6_demand 28 = .ok (.getfield 26, 3) := by decide +kernel
theorem dX6_demand_31 : decode cX6_demand 31 = .ok (.getfield 124, 3) := by decide +kernel
theorem dX6_demand_34 : decode cX6_demand 34 = .ok (.iload_n 1, 1) := by decide +kernel
theorem dX6_demand_35 : decode cX6_demand 35 = .ok (.iaload, 1) := by decide +kernel
theorem dX6_demand_36 : decode cX6_demand 36 = .ok (.istore_n 3, 1) := by decide +kernel
theorem dX6_demand_37 : decode cX6_demand 37 = .ok (.iload_n 3, 1) := by decide +kernel
theorem dX6_demand_38 : decode cX6_demand 38 = .ok (.iload_n 2, 1) := by decide +kernel
theorem dX6_demand_39 : decode cX6_demand 39 = .ok (.if_icmp .ne 6, 3) := by decide +kernel
theorem dX6_demand_42 : decode cX6_demand 42 = .ok (.bipush (-2), 2) := by decide +kernel
theorem dX6_demand_44 : decode cX6_demand 44 = .ok (.ireturn, 1) := by decide +kernel
theorem dX6_demand_45 : decode cX6_demand 45 = .ok (.aload_n 0, 1) := by decide +kernel
theorem dX6_demand_46 : decode cX6_demand 46 = .ok (.invokevirtual 99, 3) := by decide +kernel
theorem dX6_demand_49 : decode cX6_demand 49 = .ok (.aload_n 0, 1) := by decide +kernel
theorem dX6_demand_50 : decode cX6_demand 50 = .ok (.getfield 26, 3) := by decide +kernel
theorem dX6_demand_53 : decode cX6_demand 53 = .ok (.getfield 124, 3) := by decide +kernel
theorem dX6_demand_56 : decode cX6_demand 56 = .ok (.iload_n 1, 1) := by decide +kernel
theorem dX6_demand_57 : decode cX6_demand 57 = .ok (.iload_n 2, 1) := by decide +kernel
theorem dX6_demand_58 : decode cX6_demand 58 = .ok (.iastore, 1) := by decide +kernel
theorem dX6_demand_59 : decode cX6_demand 59 = .ok (.iload_n 3, 1) := by decide +kernel
theorem dX6_demand_60 : decode cX6_demand 60 = .ok (.ireturn, 1) := by decide +kernel
theorem dX6_order_0 : decode cX6_order 0 = .ok (.aload_n 0, 1) := by decide +kernel
theorem dX6_order_1 : decode cX6_order 1 = .ok (.iload_n 1, 1) := by decide +kernel
theorem dX6_order_2 : decode cX6_order 2 = .ok (.invokevirtual 127, 3) := by decide +kernel
theorem dX6_order_5 : decode cX6_order 5 = .ok (.ifCond .eq 22, 3) := by decide +kernel
theorem dX6_order_8 : decode cX6_order 8 = .ok (.aload_n 0, 1) := by decide +kernel
theorem dX6_order_9 : decode cX6_order 9 = .ok (.iload_n 2, 1) := by decide +kernel
theorem dX6_order_10 : decode cX6_order 10 = .ok (.invokevirtual 117, 3) := by decide +kernel
theorem dX6_order_13 : decode cX6_order 13 = .ok (.ifCond .eq 14, 3) := by decide +kernel
theorem dX6_order_16 : decode cX6_order 16 = .ok (.iload_n 3, 1) := by decide +kernel
theorem dX6_order_17 : decode cX6_order 17 = .ok (.ifCond .lt 10, 3) := by decide +kernel
theorem dX6_order_20 : decode cX6_order 20 = .ok (.iload_n 3, 1) := by decide +kernel
theorem dX6_order_21 : decode cX6_order 21 = .ok (.sipush 9999, 3) := by decide +kernel
theorem dX6_order_24 : decode cX6_order 24 = .ok (.if_icmp .le 5, 3) := by decide +kernel
theorem dX6_order_27 : decode cX6_order 27 = .ok (.iconst (-1), 1) := by decide +kernel
theorem dX6_order_28 : decode cX6_order 28 = .ok (.ireturn, 1) := by decide +kernel
theorem dX6_order_29 : decode cX6_order 29 = .ok (.aload_n 0, 1) := by decide +kernel
theorem dX6_order_30 : decode cX6_order 30 = .ok (.getfield 26, 3) := by decide +kernel
theorem dX6_order_33 : decode cX6_order 33 = .ok (.getfield 130, 3) := by decide +kernel
theorem dX6_order_36 : decode cX6_order 36 = .ok (.iload_n 1, 1) := by decide +kernel
theorem dX6_order_37 : decode cX6_order 37 = .ok (.iaload, 1) := by decide +kernel
theorem dX6_order_38 : decode cX6_order 38 = .ok (.iload_n 2, 1) := by decide +kernel
theorem dX6_order_39 : decode cX6_order 39 = .ok (.if_icmp .ne 20, 3) := by decide +kernel
theorem dX6_order_42 : decode cX6_order 42 = .ok (.aload_n 0, 1) := by decide +kernel
theorem dX6_order_43 : decode cX6_order 43 = .ok (.getfield 26, 3) := by decide +kernel
theorem dX6_order_46 : decode cX6_order 46 = .ok (.getfield 133, 3) := by decide +kernel
theorem dX6_order_49 : decode cX6_order 49 = .ok (.iload_n 1, 1) := by decide +kernel
theorem dX6_order_50 : decode cX6_order 50 = .ok (.iaload, 1) := by decide +kernel
theorem dX6_order_51 : decode cX6_order 51 = .ok (.iload_n 3, 1) := by decide +kernel
theorem dX6_order_52 : decode cX6_order 52 = .ok (.if_icmp .ne 7, 3) := by decide +kernel
theorem dX6_order_55 : decode cX6_order 55 = .ok (.iconst 1, 1) := by decide +kernel
theorem dX6_order_56 : decode cX6_order 56 = .ok (.goto 4, 3) := by decide +kernel
theorem dX6_order_59 : decode cX6_order 59 = .ok (.iconst 0, 1) := by decide +kernel
theorem dX6_order_60 : decode cX6_order 60 = .ok (.istore 4, 2) := by decide +kernel
theorem dX6_order_62 : decode cX6_order 62 = .ok (.aload_n 0, 1) := by decide +kernel
theorem dX6_order_63 : decode cX6_order 63 = .ok (.getfield 26, 3) := by decide +kernel
theorem dX6_order_66 : decode cX6_order 66 = .ok (.getfield 130, 3) := by decide +kernel
theorem dX6_order_69 : decode cX6_order 69 = .ok (.iload_n 1, 1) := by decide +kernel
theorem dX6_order_70 : decode cX6_order 70 = .ok (.iaload, 1) := by decide +kernel
theorem dX6_order_71 : decode cX6_order 71 = .ok (.ifCond .ge 11, 3) := by decide +kernel
theorem dX6_order_74 : decode cX6_order 74 = .ok (.iload_n 3, 1) := by decide +kernel
theorem dX6_order_75 : decode cX6_order 75 = .ok (.ifCond .ne 7, 3) := by decide +kernel
theorem dX6_order_78 : decode cX6_order 78 = .ok (.iconst 1, 1) := by decide +kernel
theorem dX6_order_79 : decode cX6_order 79 = .ok (.goto 4, 3) := by decide +kernel
theorem dX6_order_82 : decode cX6_order 82 = .ok (.iconst 0, 1) := by decide +kernel
theorem dX6_order_83 : decode cX6_order 83 = .ok (.istore 5, 2) := by decide +kernel
theorem dX6_order_85 : decode cX6_order 85 = .ok (.iload 4, 2) := by decide +kernel
theorem dX6_order_87 : decode cX6_order 87 = .ok (.ifCond .ne 8, 3) := by decide +kernel
theorem dX6_order_90 : decode cX6_order 90 = .ok (.iload 5, 2) := by decide +kernel
theorem dX6_order_92 : decode cX6_order 92 = .ok (.ifCond .eq 6, 3) := by decide +kernel
theorem dX6_order_95 : decode cX6_order 95 = .ok (.bipush (-2), 2) := by decide +kernel
theorem dX6_order_97 : decode cX6_order 97 = .ok (.ireturn, 1) := by decide +kernel
theorem dX6_order_98 : decode cX6_order 98 = .ok (.aload_n 0, 1) := by decide +kernel
theorem dX6_order_99 : decode cX6_order 99 = .ok (.getfield 16, 3) := by decide +kernel
theorem dX6_order_102 : decode cX6_order 102 = .ok (.aload_n 0, 1) := by decide +kernel
theorem dX6_order_103 : decode cX6_order 103 = .ok (.getfield 16, 3) := by decide +kernel
theorem dX6_order_106 : decode cX6_order 106 = .ok (.getfield 136, 3) := by decide +kernel
theorem dX6_order_109 : decode cX6_order 109 = .ok (.iload_n 1, 1) := by decide +kernel
theorem dX6_order_110 : decode cX6_order 110 = .ok (.iaload, 1) := by decide +kernel
theorem dX6_order_111 : decode cX6_order 111 = .ok (.aload_n 0, 1) := by decide +kernel
theorem dX6_order_112 : decode cX6_order 112 = .ok (.getfield 26, 3) := by decide +kernel
theorem dX6_order_115 : decode cX6_order 115 = .ok (.getfield 139, 3) := by decide +kernel
theorem dX6_order_118 : decode cX6_order 118 = .ok (.iload_n 2, 1) := by decide +kernel
theorem dX6_order_119 : decode cX6_order 119 = .ok (.iaload, 1) := by decide +kernel
theorem dX6_order_120 : decode cX6_order 120 = .ok (.invokevirtual 142, 3) := by decide +kernel
theorem dX6_order_123 : decode cX6_order 123 = .ok (.ifCond .ne 6, 3) := by decide +kernel
theorem dX6_order_126 : decode cX6_order 126 = .ok (.bipush (-3), 2) := by decide +kernel
theorem dX6_order_128 : decode cX6_order 128 = .ok (.ireturn, 1) := by decide +kernel
theorem dX6_order_129 : decode cX6_order 129 = .ok (.aload_n 0, 1) := by decide +kernel
theorem dX6_order_130 : decode cX6_order 130 = .ok (.invokevirtual 99, 3) := by decide +kernel
theorem dX6_order_133 : decode cX6_order 133 = .ok (.aload_n 0, 1) := by decide +kernel
theorem dX6_order_134 : decode cX6_order 134 = .ok (.getfield 26, 3) := by decide +kernel
theorem dX6_order_137 : decode cX6_order 137 = .ok (.getfield 130, 3) := by decide +kernel
theorem dX6_order_140 : decode cX6_order 140 = .ok (.iload_n 1, 1) := by decide +kernel
theorem dX6_order_141 : decode cX6_order 141 = .ok (.iload_n 3, 1) := by decide +kernel
theorem dX6_order_142 : decode cX6_order 142 = .ok (.ifCond .ne 8, 3) := by decide +kernel
theorem dX6_order_145 : decode cX6_order 145 = .ok (.bipush (-2), 2) := by decide +kernel
theorem dX6_order_147 : decode cX6_order 147 = .ok (.goto 4, 3) := by decide +kernel
theorem dX6_order_150 : decode cX6_order 150 = .ok (.iload_n 2, 1) := by decide +kernel
theorem dX6_order_151 : decode cX6_order 151 = .ok (.iastore, 1) := by decide +kernel
theorem dX6_order_152 : decode cX6_order 152 = .ok (.aload_n 0, 1) := by decide +kernel
theorem dX6_order_153 : decode cX6_order 153 = .ok (.getfield 26, 3) := by decide +kernel
theorem dX6_order_156 : decode cX6_order 156 = .ok (.getfield 133, 3) := by decide +kernel
theorem dX6_order_159 : decode cX6_order 159 = .ok (.iload_n 1, 1) := by decide +kernel
theorem dX6_order_160 : decode cX6_order 160 = .ok (.iload_n 3, 1) := by decide +kernel
theorem dX6_order_161 : decode cX6_order 161 = .ok (.iastore, 1) := by decide +kernel
theorem dX6_order_162 : decode cX6_order 162 = .ok (.iconst 1, 1) := by decide +kernel
theorem dX6_order_163 : decode cX6_order 163 = .ok (.ireturn, 1) := by decide +kernel
theorem dX6_barter_0 : decode cX6_barter 0 = .ok (.aload_n 0, 1) := by decide +kernel
theorem dX6_barter_1 : decode cX6_barter 1 = .ok (.iload_n 1, 1) := by decide +kernel
theorem dX6_barter_2 : decode cX6_barter 2 = .ok (.invokevirtual 117, 3) := by decide +kernel
theorem dX6_barter_5 : decode cX6_barter 5 = .ok (.ifCond .eq 16, 3) := by decide +kernel
theorem dX6_barter_8 : decode cX6_barter 8 = .ok (.iload_n 2, 1) := by decide +kernel
theorem dX6_barter_9 : decode cX6_barter 9 = .ok (.iconst (-1), 1) := by decide +kernel
theorem dX6_barter_10 : decode cX6_barter 10 = .ok (.if_icmp .eq 13, 3) := by decide +kernel
theorem dX6_barter_13 : decode cX6_barter 13 = .ok (.aload_n 0, 1) := by decide +kernel
theorem dX6_barter_14 : decode cX6_barter 14 = .ok (.iload_n 2, 1) := by decide +kernel
theorem dX6_barter_15 : decode cX6_barter 15 = .ok (.invokevirtual 127, 3) := by decide +kernel
theorem dX6_barter_18 : decode cX6_barter 18 = .ok (.ifCond .ne 5, 3) := by decide +kernel
theorem dX6_barter_21 : decode cX6_barter 21 = .ok (.iconst (-1), 1) := by decide +kernel
theorem dX6_barter_22 : decode cX6_barter 22 = .ok (.ireturn, 1) := by decide +kernel
theorem dX6_barter_23 : decode cX6_barter 23 = .ok (.iload_n 2, 1) := by decide +kernel
theorem dX6_barter_24 : decode cX6_barter 24 = .ok (.iconst (-1), 1) := by decide +kernel
theorem dX6_barter_25 : decode cX6_barter 25 = .ok (.if_icmp .ne 8, 3) := by decide +kernel
theorem dX6_barter_28 : decode cX6_barter 28 = .ok (.bipush (-2), 2) := by decide +kernel
theorem dX6_barter_30 : decode cX6_barter 30 = .ok (.goto 4, 3) := by decide +kernel
theorem dX6_barter_33 : decode cX6_barter 33 = .ok (.iload_n 2, 1) := by decide +kernel
theorem dX6_barter_34 : decode cX6_barter 34 = .ok (.istore_n 3, 1) := by decide +kernel
theorem dX6_barter_35 : decode cX6_barter 35 = .ok (.aload_n 0, 1) := by decide +kernel
theorem dX6_barter_36 : decode cX6_barter 36 = .ok (.getfield 26, 3) := by decide +kernel
theorem dX6_barter_39 : decode cX6_barter 39 = .ok (.getfield 146, 3) := by decide +kernel
theorem dX6_barter_42 : decode cX6_barter 42 = .ok (.iload_n 1, 1) := by decide +kernel
theorem dX6_barter_43 : decode cX6_barter 43 = .ok (.iaload, 1) := by decide +kernel
theorem dX6_barter_44 : decode cX6_barter 44 = .ok (.iload_n 3, 1) := by decide +kernel
theorem dX6_barter_45 : decode cX6_barter 45 = .ok (.if_icmp .ne 6, 3) := by decide +kernel
theorem dX6_barter_48 : decode cX6_barter 48 = .ok (.bipush (-2), 2) := by decide +kernel
theorem dX6_barter_50 : decode cX6_barter 50 = .ok (.ireturn, 1) := by decide +kernel
theorem dX6_barter_51 : decode cX6_barter 51 = .ok (.iload_n 2, 1) := by decide +kernel
theorem dX6_barter_52 : decode cX6_barter 52 = .ok (.iconst (-1), 1) := by decide +kernel
theorem dX6_barter_53 : decode cX6_barter 53 = .ok (.if_icmp .eq 34, 3) := by decide +kernel
theorem dX6_barter_56 : decode cX6_barter 56 = .ok (.aload_n 0, 1) := by decide +kernel
theorem dX6_barter_57 : decode cX6_barter 57 = .ok (.getfield 16, 3) := by decide +kernel
theorem dX6_barter_60 : decode cX6_barter 60 = .ok (.aload_n 0, 1) := by decide +kernel
theorem dX6_barter_61 : decode cX6_barter 61 = .ok (.getfield 26, 3) := by decide +kernel
theorem dX6_barter_64 : decode cX6_barter 64 = .ok (.getfield 139, 3) := by decide +kernel
theorem dX6_barter_67 : decode cX6_barter 67 = .ok (.iload_n 1, 1) := by decide +kernel
theorem dX6_barter_68 : decode cX6_barter 68 = .ok (.iaload, 1) := by decide +kernel
theorem dX6_barter_69 : decode cX6_barter 69 = .ok (.aload_n 0, 1) := by decide +kernel
theorem dX6_barter_70 : decode cX6_barter 70 = .ok (.getfield 16, 3) := by decide +kernel
theorem dX6_barter_73 : decode cX6_barter 73 = .ok (.getfield 136, 3) := by decide +kernel
theorem dX6_barter_76 : decode cX6_barter 76 = .ok (.iload_n 2, 1) := by decide +kernel
theorem dX6_barter_77 : decode cX6_barter 77 = .ok (.iaload, 1) := by decide +kernel
theorem dX6_barter_78 : decode cX6_barter 78 = .ok (.invokevirtual 142, 3) := by decide +kernel
theorem dX6_barter_81 : decode cX6_barter 81 = .ok (.ifCond .ne 6, 3) := by decide +kernel
theorem dX6_barter_84 : decode cX6_barter 84 = .ok (.bipush (-3), 2) := by decide +kernel
theorem dX6_barter_86 : decode cX6_barter 86 = .ok (.ireturn, 1) := by decide +kernel
theorem dX6_barter_87 : decode cX6_barter 87 = .ok (.aload_n 0, 1) := by decide +kernel
theorem dX6_barter_88 : decode cX6_barter 88 = .ok (.invokevirtual 99, 3) := by decide +kernel
theorem dX6_barter_91 : decode cX6_barter 91 = .ok (.aload_n 0, 1) := by decide +kernel
theorem dX6_barter_92 : decode cX6_barter 92 = .ok (.getfield 26, 3) := by decide +kernel
theorem dX6_barter_95 : decode cX6_barter 95 = .ok (.getfield 146, 3) := by decide +kernel
theorem dX6_barter_98 : decode cX6_barter 98 = .ok (.iload_n 1, 1) := by decide +kernel
theorem dX6_barter_99 : decode cX6_barter 99 = .ok (.iload_n 3, 1) := by decide +kernel
theorem dX6_barter_100 : decode cX6_barter 100 = .ok (.iastore, 1) := by decide +kernel
theorem dX6_barter_101 : decode cX6_barter 101 = .ok (.iconst 1, 1) := by decide +kernel
theorem dX6_barter_102 : decode cX6_barter 102 = .ok (.ireturn, 1) := by decide +kernel
theorem dX6_trade_0 : decode cX6_trade 0 = .ok (.aload_n 0, 1) := by decide +kernel
theorem dX6_trade_1 : decode cX6_trade 1 = .ok (.iload_n 1, 1) := by decide +kernel
theorem dX6_trade_2 : decode cX6_trade 2 = .ok (.iload_n 2, 1) := by decide +kernel
theorem dX6_trade_3 : decode cX6_trade 3 = .ok (.invokevirtual 149, 3) := by decide +kernel
theorem dX6_trade_6 : decode cX6_trade 6 = .ok (.ifCond .ne 5, 3) := by decide +kernel
theorem dX6_trade_9 : decode cX6_trade 9 = .ok (.iconst (-1), 1) := by decide +kernel
theorem dX6_trade_10 : decode cX6_trade 10 = .ok (.ireturn, 1) := by decide +kernel
theorem dX6_trade_11 : decode cX6_trade 11 = .ok (.aload_n 0, 1) := by decide +kernel
theorem dX6_trade_12 : decode cX6_trade 12 = .ok (.invokevirtual 99, 3) := by decide +kernel
theorem dX6_trade_15 : decode cX6_trade 15 = .ok (.aload_n 0, 1) := by decide +kernel
theorem dX6_trade_16 : decode cX6_trade 16 = .ok (.getfield 26, 3) := by decide +kernel
theorem dX6_trade_19 : decode cX6_trade 19 = .ok (.iload_n 1, 1) := by decide +kernel
theorem dX6_trade_20 : decode cX6_trade 20 = .ok (.iload_n 2, 1) := by decide +kernel
theorem dX6_trade_21 : decode cX6_trade 21 = .ok (.invokevirtual 152, 3) := by decide +kernel
theorem dX6_trade_24 : decode cX6_trade 24 = .ok (.iconst 1, 1) := by decide +kernel
theorem dX6_trade_25 : decode cX6_trade 25 = .ok (.ireturn, 1) := by decide +kernel
theorem mv_X1_beginMoved : MV yX1_beginMoved cX1_beginMoved 5 none 4 := ⟨wd_37_1, wd_36_23, wd_37_0, wd_2_10, by decide, by decide, by decide +kernel⟩
theorem mv_X1_run : MV yX1_run cX1_run 5 none 2 := ⟨wd_35_5, wd_35_3, wd_35_4, wd_2_10, by decide, by decide, by decide +kernel⟩
theorem mv_X1_tookOf : MV yX1_tookOf cX1_tookOf 2 (some .int) 1 := ⟨wd_36_16, wd_36_14, wd_36_15, wd_2_10, by decide, by decide, by decide +kernel⟩
theorem mv_X5_tradeAges : MV yX5_tradeAges cX5_tradeAges 4 none 2 := ⟨wd_33_21, wd_33_19, wd_33_20, wd_1_21, by decide, by decide, by decide +kernel⟩
theorem mv_X6_areTwoRights : MV yX6_areTwoRights cX6_areTwoRights 3 (some .boolean) 2 := ⟨wd_33_17, wd_33_15, wd_33_16, wd_1_2, by decide, by decide, by decide +kernel⟩
theorem mv_X6_isFutileOn : MV yX6_isFutileOn cX6_isFutileOn 3 (some .boolean) 2 := ⟨wd_46_2, wd_46_0, wd_46_1, wd_1_2, by decide, by decide, by decide +kernel⟩
theorem mv_X6_isRight : MV yX6_isRight cX6_isRight 2 (some .boolean) 1 := ⟨wd_31_13, wd_31_11, wd_31_12, wd_1_2, by decide, by decide, by decide +kernel⟩
theorem mv_X6_isStore : MV yX6_isStore cX6_isStore 2 (some .boolean) 1 := ⟨wd_32_9, wd_32_7, wd_32_8, wd_1_2, by decide, by decide, by decide +kernel⟩
theorem mv_X6_remember : MV yX6_remember cX6_remember 1 none 0 := ⟨wd_19_16, wd_19_14, wd_19_15, wd_1_2, by decide, by decide, by decide +kernel⟩
set_option maxHeartbeats 4000000 in
set_option maxRecDepth 100000 in
theorem c_X6_isReach (E : Ev) (rd : TD) (tp : TD) (kb : Int × Int) (Fa1 : Int × Int) (Fb1 : Int × Int) (Fa2 : Int × Int) (Fb2 : Int × Int) (Fa3 : Int × Int) (Fb3 : Int × Int) (Fa4 : Int × Int) (Fb4 : Int × Int) (kr : List Nat) (ks : List Nat) (Pd1 : (Nat → Int32) → Prop) (Pd2 : (Nat → Int32) → Prop) (Pd3 : (Nat → Int32) → Prop) (Pd4 : (Nat → Int32) → Prop) (Ps1 : (Nat → Int32) → Prop) (Ps2 : (Nat → Int32) → Prop) (Ps3 : (Nat → Int32) → Prop) (Ps4 : (Nat → Int32) → Prop) (Pi1 : (Nat → Int32) → Prop) (Pi2 : (Nat → Int32) → Prop) (Pi3 : (Nat → Int32) → Prop) (Pi4 : (Nat → Int32) → Prop) (t : Int) (a0 : Nat) (a1 : Int32) (ha0 : eT E a0 ∈ [28]) (ht : 0 ≤ t ∧ t ≤ 400) (hFa1 : 0 ≤ Fa1.1 ∧ Fa1.2 ≤ 12) (hFb1 : 0 ≤ Fb1.1 ∧ Fb1.2 ≤ 14) (hFa2 : 0 ≤ Fa2.1 ∧ Fa2.2 ≤ 12) (hFb2 : 0 ≤ Fb2.1 ∧ Fb2.2 ≤ 14) (hFa3 : 0 ≤ Fa3.1 ∧ Fa3.2 ≤ 12) (hFb3 : 0 ≤ Fb3.1 ∧ Fb3.2 ≤ 14) (hFa4 : 0 ≤ Fa4.1 ∧ Fa4.2 ≤ 12) (hFb4 : 0 ≤ Fb4.1 ∧ Fb4.2 ≤ 14) (hkr : ∀ t ∈ kr, t ∈ [26, 27]) (hks : ∀ t ∈ ks, t ∈ [26, 27]) (hPd1 : ∀ f, Pd1 f → ivP 12 (-2) 11 f) (hPd2 : ∀ f, Pd2 f → ivP 12 (-2) 11 f) (hPd3 : ∀ f, Pd3 f → ivP 12 (-2) 11 f) (hPd4 : ∀ f, Pd4 f → ivP 12 (-2) 11 f) (hPs1 : ∀ f, Ps1 f → ivP 12 (-2147483648) 2147483647 f) (hPs2 : ∀ f, Ps2 f → ivP 12 (-2147483648) 2147483647 f) (hPs3 : ∀ f, Ps3 f → ivP 12 (-2147483648) 2147483647 f) (hPs4 : ∀ f, Ps4 f → ivP 12 (-2147483648) 2147483647 f) (hPi1 : ∀ f, Pi1 f → ivP 48 (-2147483648) 2147483647 f) (hPi2 : ∀ f, Pi2 f → ivP 48 (-2147483648) 2147483647 f) (hPi3 : ∀ f, Pi3 f → ivP 48 (-2147483648) 2147483647 f) (hPi4 : ∀ f, Pi4 f → ivP 48 (-2147483648) 2147483647 f) : TcI E yX6_isReach cX6_isReach 2 .boolean ({ frames := 1, cells := 0, slots := 0, locals := 40 }) [.ref a0, .int a1] (fun H => TH E (tbC (dayD (.inl (0, 18))) (dayD (.inl (0, 18))) (riverD (.inl Fa1) (.inl Fb1) (.inl (0, 4)) 31 33 35 39 43 47) (riverD (.inl Fa2) (.inl Fb2) (.inl (0, 4)) 32 34 36 40 44 48) (rcD (.inl (t, t)) (.inr kr) (.inr ks) (.inl kb)) rd tp A14F A14F A4F A4F A14F A14F (riverD (.inl Fa3) (.inl Fb3) (.inl (0, 4)) 3 8 3 41 45 49) (riverD (.inl Fa4) (.inl Fb4) (.inl (0, 4)) 3 8 3 42 46 50) ((.inr (.inl (0, 12, Pd1)))) ((.inr (.inl (0, 12, Pd2)))) ((.inr (.inl (0, 12, Pd3)))) ((.inr (.inl (0, 12, Pd4)))) ((.inr (.inl (0, 12, Ps1)))) ((.inr (.inl (0, 12, Ps2)))) ((.inr (.inl (0, 12, Ps3)))) ((.inr (.inl (0, 12, Ps4)))) ((.inr (.inl (0, 48, Pi1)))) ((.inr (.inl (0, 48, Pi2)))) ((.inr (.inl (0, 48, Pi3)))) ((.inr (.inl (0, 48, Pi4))))) H) (fun v H => (0 ≤ v.toInt ∧ v.toInt ≤ 1) ∧ (v.toInt = 1 → 0 ≤ a1.toInt ∧ a1.toInt ≤ 11) ∧ TH E (tbC (dayD (.inl (0, 18))) (dayD (.inl (0, 18))) (riverD (.inl Fa1) (.inl Fb1) (.inl (0, 4)) 31 33 35 39 43 47) (riverD (.inl Fa2) (.inl Fb2) (.inl (0, 4)) 32 34 36 40 44 48) (rcD (.inl (t, t)) (.inr kr) (.inr ks) (.inl kb)) rd tp A14F A14F A4F A4F A14F A14F (riverD (.inl Fa3) (.inl Fb3) (.inl (0, 4)) 3 8 3 41 45 49) (riverD (.inl Fa4) (.inl Fb4) (.inl (0, 4)) 3 8 3 42 46 50) ((.inr (.inl (0, 12, Pd1)))) ((.inr (.inl (0, 12, Pd2)))) ((.inr (.inl (0, 12, Pd3)))) ((.inr (.inl (0, 12, Pd4)))) ((.inr (.inl (0, 12, Ps1)))) ((.inr (.inl (0, 12, Ps2)))) ((.inr (.inl (0, 12, Ps3)))) ((.inr (.inl (0, 12, Ps4)))) ((.inr (.inl (0, 48, Pi1)))) ((.inr (.inl (0, 48, Pi2)))) ((.inr (.inl (0, 48, Pi3)))) ((.inr (.inl (0, 48, Pi4))))) H) := by
  refine teI (by decide) (Nat.le_of_ble_eq_true rfl) ?_
  intro p_ ev_ s mi_ below_ meth cd_ ls F hK hN hO hH hS hl
  have hH : TH E (tbC (dayD (.inl (0, 18))) (dayD (.inl (0, 18))) (riverD (.inl Fa1) (.inl Fb1) (.inl (0, 4)) 31 33 35 39 43 47) (riverD (.inl Fa2) (.inl Fb2) (.inl (0, 4)) 32 34 36 40 44 48) (rcD (.inl (t, t)) (.inr kr) (.inr ks) (.inl kb)) rd tp A14F A14F A4F A4F A14F A14F (riverD (.inl Fa3) (.inl Fb3) (.inl (0, 4)) 3 8 3 41 45 49) (riverD (.inl Fa4) (.inl Fb4) (.inl (0, 4)) 3 8 3 42 46 50) ((.inr (.inl (0, 12, Pd1)))) ((.inr (.inl (0, 12, Pd2)))) ((.inr (.inl (0, 12, Pd3)))) ((.inr (.inl (0, 12, Pd4)))) ((.inr (.inl (0, 12, Ps1)))) ((.inr (.inl (0, 12, Ps2)))) ((.inr (.inl (0, 12, Ps3)))) ((.inr (.inl (0, 12, Ps4)))) ((.inr (.inl (0, 48, Pi1)))) ((.inr (.inl (0, 48, Pi2)))) ((.inr (.inl (0, 48, Pi3)))) ((.inr (.inl (0, 48, Pi4))))) s.heap := hH
  have hl : lv_has ls 2 [(0, .ref a0), (1, .int a1)] := hl
  refine lv_iload_n F.1 F.2.1 dX6_isReach_0 rfl (lv_at hl 1 rfl) ?_
  refine z_lt (tgt := 19) F dX6_isReach_1 (by decide) (fun c_1 => ?_) (fun c_1 => ?_)
  · skip
    have r_2 : (-2147483648) ≤ a1.toInt ∧ a1.toInt ≤ (-1) := by have h9_ := (i32b a1); omega
    refine lv_iconst (v := 0) F.1 F.2.1 dX6_isReach_19 (by decide) ?_
    refine topK (a := 0) (by decide) (fun k_4 hk_4 => ?_)
    exact txI F hS dX6_isReach_20 (nar01 (wkb (eqb hk_4) rfl rfl)) (⟨(wkb (eqb hk_4) rfl rfl), (by omega), hH⟩)
  · skip
    have r_3 : 0 ≤ a1.toInt ∧ a1.toInt ≤ 2147483647 := by have h9_ := (i32b a1); omega
    refine lv_iload_n F.1 F.2.1 dX6_isReach_4 rfl (lv_at hl 1 rfl) ?_
    refine lv_aload_n F.1 F.2.1 dX6_isReach_5 rfl (lv_at hl 0 rfl) ?_
    refine tGetR0 (j := 2) F hK hH (tyb ha0 (all1 rfl)) rfl clX6 (by decide) wd_1_17 dX6_isReach_6 (fun q_5 hq_5 => ?_)
    refine tGetIB (j := 0) (lo := 0) (hi := 12) F hK hH (hkr _ hq_5) (alls ⟨_, _, rfl, rfl, by have h9_ := hFa1; omega⟩ (alls1 ⟨_, _, rfl, rfl, by have h9_ := hFa2; omega⟩)) clX2 (by decide) wd_34_10 dX6_isReach_9 (fun z_6 hz_6 => ?_)
    refine b_ge (tgt := 19) F dX6_isReach_12 (by decide) (fun c_7 => ?_) (fun c_7 => ?_)
    · skip
      refine lv_iconst (v := 0) F.1 F.2.1 dX6_isReach_19 (by decide) ?_
      refine topK (a := 0) (by decide) (fun k_10 hk_10 => ?_)
      exact txI F hS dX6_isReach_20 (nar01 (wkb (eqb hk_10) rfl rfl)) (⟨(wkb (eqb hk_10) rfl rfl), (by omega), hH⟩)
    · skip
      have r_8 : 0 ≤ a1.toInt ∧ a1.toInt ≤ 11 := by have h9_ := r_3; omega
      have r_9 : 1 ≤ z_6.toInt ∧ z_6.toInt ≤ 12 := by have h9_ := hz_6; omega
      refine lv_iconst (v := 1) F.1 F.2.1 dX6_isReach_15 (by decide) ?_
      refine topK (a := 1) (by decide) (fun k_11 hk_11 => ?_)
      refine lv_goto (tgt := 20) F.1 F.2.1 dX6_isReach_16 (by decide) ?_
      exact txI F hS dX6_isReach_20 (nar01 (wkb (eqb hk_11) rfl rfl)) (⟨(wkb (eqb hk_11) rfl rfl), (by omega), hH⟩)
set_option maxHeartbeats 4000000 in
set_option maxRecDepth 100000 in
theorem c_X6_isRight (E : Ev) (rd : TD) (tp : TD) (kb : Int × Int) (Fa1 : Int × Int) (Fb1 : Int × Int) (Fa2 : Int × Int) (Fb2 : Int × Int) (Fa3 : Int × Int) (Fb3 : Int × Int) (Fa4 : Int × Int) (Fb4 : Int × Int) (kr : List Nat) (ks : List Nat) (Pd1 : (Nat → Int32) → Prop) (Pd2 : (Nat → Int32) → Prop) (Pd3 : (Nat → Int32) → Prop) (Pd4 : (Nat → Int32) → Prop) (Ps1 : (Nat → Int32) → Prop) (Ps2 : (Nat → Int32) → Prop) (Ps3 : (Nat → Int32) → Prop) (Ps4 : (Nat → Int32) → Prop) (Pi1 : (Nat → Int32) → Prop) (Pi2 : (Nat → Int32) → Prop) (Pi3 : (Nat → Int32) → Prop) (Pi4 : (Nat → Int32) → Prop) (t : Int) (a0 : Nat) (a1 : Int32) (ha0 : eT E a0 ∈ [28]) (ht : 0 ≤ t ∧ t ≤ 400) (hFa1 : 0 ≤ Fa1.1 ∧ Fa1.2 ≤ 12) (hFb1 : 0 ≤ Fb1.1 ∧ Fb1.2 ≤ 14) (hFa2 : 0 ≤ Fa2.1 ∧ Fa2.2 ≤ 12) (hFb2 : 0 ≤ Fb2.1 ∧ Fb2.2 ≤ 14) (hFa3 : 0 ≤ Fa3.1 ∧ Fa3.2 ≤ 12) (hFb3 : 0 ≤ Fb3.1 ∧ Fb3.2 ≤ 14) (hFa4 : 0 ≤ Fa4.1 ∧ Fa4.2 ≤ 12) (hFb4 : 0 ≤ Fb4.1 ∧ Fb4.2 ≤ 14) (hkr : ∀ t ∈ kr, t ∈ [26, 27]) (hks : ∀ t ∈ ks, t ∈ [26, 27]) (hPd1 : ∀ f, Pd1 f → ivP 12 (-2) 11 f) (hPd2 : ∀ f, Pd2 f → ivP 12 (-2) 11 f) (hPd3 : ∀ f, Pd3 f → ivP 12 (-2) 11 f) (hPd4 : ∀ f, Pd4 f → ivP 12 (-2) 11 f) (hPs1 : ∀ f, Ps1 f → ivP 12 (-2147483648) 2147483647 f) (hPs2 : ∀ f, Ps2 f → ivP 12 (-2147483648) 2147483647 f) (hPs3 : ∀ f, Ps3 f → ivP 12 (-2147483648) 2147483647 f) (hPs4 : ∀ f, Ps4 f → ivP 12 (-2147483648) 2147483647 f) (hPi1 : ∀ f, Pi1 f → ivP 48 (-2147483648) 2147483647 f) (hPi2 : ∀ f, Pi2 f → ivP 48 (-2147483648) 2147483647 f) (hPi3 : ∀ f, Pi3 f → ivP 48 (-2147483648) 2147483647 f) (hPi4 : ∀ f, Pi4 f → ivP 48 (-2147483648) 2147483647 f) : TcI E yX6_isRight cX6_isRight 2 .boolean ({ frames := 1, cells := 0, slots := 0, locals := 40 }) [.ref a0, .int a1] (fun H => TH E (tbC (dayD (.inl (0, 18))) (dayD (.inl (0, 18))) (riverD (.inl Fa1) (.inl Fb1) (.inl (0, 4)) 31 33 35 39 43 47) (riverD (.inl Fa2) (.inl Fb2) (.inl (0, 4)) 32 34 36 40 44 48) (rcD (.inl (t, t)) (.inr kr) (.inr ks) (.inl kb)) rd tp A14F A14F A4F A4F A14F A14F (riverD (.inl Fa3) (.inl Fb3) (.inl (0, 4)) 3 8 3 41 45 49) (riverD (.inl Fa4) (.inl Fb4) (.inl (0, 4)) 3 8 3 42 46 50) ((.inr (.inl (0, 12, Pd1)))) ((.inr (.inl (0, 12, Pd2)))) ((.inr (.inl (0, 12, Pd3)))) ((.inr (.inl (0, 12, Pd4)))) ((.inr (.inl (0, 12, Ps1)))) ((.inr (.inl (0, 12, Ps2)))) ((.inr (.inl (0, 12, Ps3)))) ((.inr (.inl (0, 12, Ps4)))) ((.inr (.inl (0, 48, Pi1)))) ((.inr (.inl (0, 48, Pi2)))) ((.inr (.inl (0, 48, Pi3)))) ((.inr (.inl (0, 48, Pi4))))) H) (fun v H => (0 ≤ v.toInt ∧ v.toInt ≤ 1) ∧ (v.toInt = 1 → 0 ≤ a1.toInt ∧ a1.toInt ≤ 13) ∧ TH E (tbC (dayD (.inl (0, 18))) (dayD (.inl (0, 18))) (riverD (.inl Fa1) (.inl Fb1) (.inl (0, 4)) 31 33 35 39 43 47) (riverD (.inl Fa2) (.inl Fb2) (.inl (0, 4)) 32 34 36 40 44 48) (rcD (.inl (t, t)) (.inr kr) (.inr ks) (.inl kb)) rd tp A14F A14F A4F A4F A14F A14F (riverD (.inl Fa3) (.inl Fb3) (.inl (0, 4)) 3 8 3 41 45 49) (riverD (.inl Fa4) (.inl Fb4) (.inl (0, 4)) 3 8 3 42 46 50) ((.inr (.inl (0, 12, Pd1)))) ((.inr (.inl (0, 12, Pd2)))) ((.inr (.inl (0, 12, Pd3)))) ((.inr (.inl (0, 12, Pd4)))) ((.inr (.inl (0, 12, Ps1)))) ((.inr (.inl (0, 12, Ps2)))) ((.inr (.inl (0, 12, Ps3)))) ((.inr (.inl (0, 12, Ps4)))) ((.inr (.inl (0, 48, Pi1)))) ((.inr (.inl (0, 48, Pi2)))) ((.inr (.inl (0, 48, Pi3)))) ((.inr (.inl (0, 48, Pi4))))) H) := by
  refine teI (by decide) (Nat.le_of_ble_eq_true rfl) ?_
  intro p_ ev_ s mi_ below_ meth cd_ ls F hK hN hO hH hS hl
  have hH : TH E (tbC (dayD (.inl (0, 18))) (dayD (.inl (0, 18))) (riverD (.inl Fa1) (.inl Fb1) (.inl (0, 4)) 31 33 35 39 43 47) (riverD (.inl Fa2) (.inl Fb2) (.inl (0, 4)) 32 34 36 40 44 48) (rcD (.inl (t, t)) (.inr kr) (.inr ks) (.inl kb)) rd tp A14F A14F A4F A4F A14F A14F (riverD (.inl Fa3) (.inl Fb3) (.inl (0, 4)) 3 8 3 41 45 49) (riverD (.inl Fa4) (.inl Fb4) (.inl (0, 4)) 3 8 3 42 46 50) ((.inr (.inl (0, 12, Pd1)))) ((.inr (.inl (0, 12, Pd2)))) ((.inr (.inl (0, 12, Pd3)))) ((.inr (.inl (0, 12, Pd4)))) ((.inr (.inl (0, 12, Ps1)))) ((.inr (.inl (0, 12, Ps2)))) ((.inr (.inl (0, 12, Ps3)))) ((.inr (.inl (0, 12, Ps4)))) ((.inr (.inl (0, 48, Pi1)))) ((.inr (.inl (0, 48, Pi2)))) ((.inr (.inl (0, 48, Pi3)))) ((.inr (.inl (0, 48, Pi4))))) s.heap := hH
  have hl : lv_has ls 2 [(0, .ref a0), (1, .int a1)] := hl
  refine lv_iload_n F.1 F.2.1 dX6_isRight_0 rfl (lv_at hl 1 rfl) ?_
  refine z_lt (tgt := 19) F dX6_isRight_1 (by decide) (fun c_1 => ?_) (fun c_1 => ?_)
  · skip
    have r_2 : (-2147483648) ≤ a1.toInt ∧ a1.toInt ≤ (-1) := by have h9_ := (i32b a1); omega
    refine lv_iconst (v := 0) F.1 F.2.1 dX6_isRight_19 (by decide) ?_
    refine topK (a := 0) (by decide) (fun k_4 hk_4 => ?_)
    exact txI F hS dX6_isRight_20 (nar01 (wkb (eqb hk_4) rfl rfl)) (⟨(wkb (eqb hk_4) rfl rfl), (by omega), hH⟩)
  · skip
    have r_3 : 0 ≤ a1.toInt ∧ a1.toInt ≤ 2147483647 := by have h9_ := (i32b a1); omega
    refine lv_iload_n F.1 F.2.1 dX6_isRight_4 rfl (lv_at hl 1 rfl) ?_
    refine lv_aload_n F.1 F.2.1 dX6_isRight_5 rfl (lv_at hl 0 rfl) ?_
    refine tGetR0 (j := 2) F hK hH (tyb ha0 (all1 rfl)) rfl clX6 (by decide) wd_1_17 dX6_isRight_6 (fun q_5 hq_5 => ?_)
    refine tGetIB (j := 4) (lo := 0) (hi := 14) F hK hH (hkr _ hq_5) (alls ⟨_, _, rfl, rfl, by have h9_ := hFb1; omega⟩ (alls1 ⟨_, _, rfl, rfl, by have h9_ := hFb2; omega⟩)) clX2 (by decide) wd_8_18 dX6_isRight_9 (fun z_6 hz_6 => ?_)
    refine b_ge (tgt := 19) F dX6_isRight_12 (by decide) (fun c_7 => ?_) (fun c_7 => ?_)
    · skip
      refine lv_iconst (v := 0) F.1 F.2.1 dX6_isRight_19 (by decide) ?_
      refine topK (a := 0) (by decide) (fun k_10 hk_10 => ?_)
      exact txI F hS dX6_isRight_20 (nar01 (wkb (eqb hk_10) rfl rfl)) (⟨(wkb (eqb hk_10) rfl rfl), (by omega), hH⟩)
    · skip
      have r_8 : 0 ≤ a1.toInt ∧ a1.toInt ≤ 13 := by have h9_ := r_3; omega
      have r_9 : 1 ≤ z_6.toInt ∧ z_6.toInt ≤ 14 := by have h9_ := hz_6; omega
      refine lv_iconst (v := 1) F.1 F.2.1 dX6_isRight_15 (by decide) ?_
      refine topK (a := 1) (by decide) (fun k_11 hk_11 => ?_)
      refine lv_goto (tgt := 20) F.1 F.2.1 dX6_isRight_16 (by decide) ?_
      exact txI F hS dX6_isRight_20 (nar01 (wkb (eqb hk_11) rfl rfl)) (⟨(wkb (eqb hk_11) rfl rfl), (by omega), hH⟩)
set_option maxHeartbeats 4000000 in
set_option maxRecDepth 100000 in
theorem c_X6_isRight_1 (E : Ev) (rd : TD) (tp : TD) (kb : Int × Int) (Fa1 : Int × Int) (Fa2 : Int × Int) (Fb2 : Int × Int) (Fa3 : Int × Int) (Fb3 : Int × Int) (Fa4 : Int × Int) (Fb4 : Int × Int) (ks : List Nat) (Pd1 : (Nat → Int32) → Prop) (Pd2 : (Nat → Int32) → Prop) (Pd3 : (Nat → Int32) → Prop) (Pd4 : (Nat → Int32) → Prop) (Ps1 : (Nat → Int32) → Prop) (Ps2 : (Nat → Int32) → Prop) (Ps3 : (Nat → Int32) → Prop) (Ps4 : (Nat → Int32) → Prop) (Pi1 : (Nat → Int32) → Prop) (Pi2 : (Nat → Int32) → Prop) (Pi3 : (Nat → Int32) → Prop) (Pi4 : (Nat → Int32) → Prop) (b : Int) (t : Int) (a0 : Nat) (a1 : Int32) (ha0 : eT E a0 ∈ [28]) (hb : 0 ≤ b ∧ b ≤ 14) (ht : 0 ≤ t ∧ t ≤ 400) (hFa1 : 0 ≤ Fa1.1 ∧ Fa1.2 ≤ 12) (hFa2 : 0 ≤ Fa2.1 ∧ Fa2.2 ≤ 12) (hFb2 : 0 ≤ Fb2.1 ∧ Fb2.2 ≤ 14) (hFa3 : 0 ≤ Fa3.1 ∧ Fa3.2 ≤ 12) (hFb3 : 0 ≤ Fb3.1 ∧ Fb3.2 ≤ 14) (hFa4 : 0 ≤ Fa4.1 ∧ Fa4.2 ≤ 12) (hFb4 : 0 ≤ Fb4.1 ∧ Fb4.2 ≤ 14) (hks : ∀ t ∈ ks, t ∈ [26, 27]) (hPd1 : ∀ f, Pd1 f → ivP 12 (-2) 11 f) (hPd2 : ∀ f, Pd2 f → ivP 12 (-2) 11 f) (hPd3 : ∀ f, Pd3 f → ivP 12 (-2) 11 f) (hPd4 : ∀ f, Pd4 f → ivP 12 (-2) 11 f) (hPs1 : ∀ f, Ps1 f → ivP 12 (-2147483648) 2147483647 f) (hPs2 : ∀ f, Ps2 f → ivP 12 (-2147483648) 2147483647 f) (hPs3 : ∀ f, Ps3 f → ivP 12 (-2147483648) 2147483647 f) (hPs4 : ∀ f, Ps4 f → ivP 12 (-2147483648) 2147483647 f) (hPi1 : ∀ f, Pi1 f → ivP 48 (-2147483648) 2147483647 f) (hPi2 : ∀ f, Pi2 f → ivP 48 (-2147483648) 2147483647 f) (hPi3 : ∀ f, Pi3 f → ivP 48 (-2147483648) 2147483647 f) (hPi4 : ∀ f, Pi4 f → ivP 48 (-2147483648) 2147483647 f) : TcI E yX6_isRight cX6_isRight 2 .boolean ({ frames := 1, cells := 0, slots := 0, locals := 40 }) [.ref a0, .int a1] (fun H => TH E (tbC (dayD (.inl (0, 18))) (dayD (.inl (0, 18))) (riverD (.inl Fa1) (.inl (b, b)) (.inl (0, 4)) 31 33 35 39 43 47) (riverD (.inl Fa2) (.inl Fb2) (.inl (0, 4)) 32 34 36 40 44 48) (rcD (.inl (t, t)) (.inr [26]) (.inr ks) (.inl kb)) rd tp A14F A14F A4F A4F A14F A14F (riverD (.inl Fa3) (.inl Fb3) (.inl (0, 4)) 3 8 3 41 45 49) (riverD (.inl Fa4) (.inl Fb4) (.inl (0, 4)) 3 8 3 42 46 50) ((.inr (.inl (0, 12, Pd1)))) ((.inr (.inl (0, 12, Pd2)))) ((.inr (.inl (0, 12, Pd3)))) ((.inr (.inl (0, 12, Pd4)))) ((.inr (.inl (0, 12, Ps1)))) ((.inr (.inl (0, 12, Ps2)))) ((.inr (.inl (0, 12, Ps3)))) ((.inr (.inl (0, 12, Ps4)))) ((.inr (.inl (0, 48, Pi1)))) ((.inr (.inl (0, 48, Pi2)))) ((.inr (.inl (0, 48, Pi3)))) ((.inr (.inl (0, 48, Pi4))))) H) (fun v H => (0 ≤ v.toInt ∧ v.toInt ≤ 1) ∧ (v.toInt = 1 → 0 ≤ a1.toInt ∧ a1.toInt ≤ 13) ∧ ((v.toInt = 1 ∧ 0 ≤ a1.toInt ∧ a1.toInt < b) ∨ (v.toInt = 0 ∧ (a1.toInt < 0 ∨ b ≤ a1.toInt))) ∧ TH E (tbC (dayD (.inl (0, 18))) (dayD (.inl (0, 18))) (riverD (.inl Fa1) (.inl (b, b)) (.inl (0, 4)) 31 33 35 39 43 47) (riverD (.inl Fa2) (.inl Fb2) (.inl (0, 4)) 32 34 36 40 44 48) (rcD (.inl (t, t)) (.inr [26]) (.inr ks) (.inl kb)) rd tp A14F A14F A4F A4F A14F A14F (riverD (.inl Fa3) (.inl Fb3) (.inl (0, 4)) 3 8 3 41 45 49) (riverD (.inl Fa4) (.inl Fb4) (.inl (0, 4)) 3 8 3 42 46 50) ((.inr (.inl (0, 12, Pd1)))) ((.inr (.inl (0, 12, Pd2)))) ((.inr (.inl (0, 12, Pd3)))) ((.inr (.inl (0, 12, Pd4)))) ((.inr (.inl (0, 12, Ps1)))) ((.inr (.inl (0, 12, Ps2)))) ((.inr (.inl (0, 12, Ps3)))) ((.inr (.inl (0, 12, Ps4)))) ((.inr (.inl (0, 48, Pi1)))) ((.inr (.inl (0, 48, Pi2)))) ((.inr (.inl (0, 48, Pi3)))) ((.inr (.inl (0, 48, Pi4))))) H) := by
  refine teI (by decide) (Nat.le_of_ble_eq_true rfl) ?_
  intro p_ ev_ s mi_ below_ meth cd_ ls F hK hN hO hH hS hl
  have hH : TH E (tbC (dayD (.inl (0, 18))) (dayD (.inl (0, 18))) (riverD (.inl Fa1) (.inl (b, b)) (.inl (0, 4)) 31 33 35 39 43 47) (riverD (.inl Fa2) (.inl Fb2) (.inl (0, 4)) 32 34 36 40 44 48) (rcD (.inl (t, t)) (.inr [26]) (.inr ks) (.inl kb)) rd tp A14F A14F A4F A4F A14F A14F (riverD (.inl Fa3) (.inl Fb3) (.inl (0, 4)) 3 8 3 41 45 49) (riverD (.inl Fa4) (.inl Fb4) (.inl (0, 4)) 3 8 3 42 46 50) ((.inr (.inl (0, 12, Pd1)))) ((.inr (.inl (0, 12, Pd2)))) ((.inr (.inl (0, 12, Pd3)))) ((.inr (.inl (0, 12, Pd4)))) ((.inr (.inl (0, 12, Ps1)))) ((.inr (.inl (0, 12, Ps2)))) ((.inr (.inl (0, 12, Ps3)))) ((.inr (.inl (0, 12, Ps4)))) ((.inr (.inl (0, 48, Pi1)))) ((.inr (.inl (0, 48, Pi2)))) ((.inr (.inl (0, 48, Pi3)))) ((.inr (.inl (0, 48, Pi4))))) s.heap := hH
  have hl : lv_has ls 2 [(0, .ref a0), (1, .int a1)] := hl
  refine lv_iload_n F.1 F.2.1 dX6_isRight_0 rfl (lv_at hl 1 rfl) ?_
  refine z_lt (tgt := 19) F dX6_isRight_1 (by decide) (fun c_1 => ?_) (fun c_1 => ?_)
  · skip
    have r_2 : (-2147483648) ≤ a1.toInt ∧ a1.toInt ≤ (-1) := by have h9_ := (i32b a1); omega
    refine lv_iconst (v := 0) F.1 F.2.1 dX6_isRight_19 (by decide) ?_
    refine topK (a := 0) (by decide) (fun k_4 hk_4 => ?_)
    exact txI F hS dX6_isRight_20 (nar01 (wkb (eqb hk_4) rfl rfl)) (⟨(wkb (eqb hk_4) rfl rfl), (by omega), (by omega), hH⟩)
  · skip
    have r_3 : 0 ≤ a1.toInt ∧ a1.toInt ≤ 2147483647 := by have h9_ := (i32b a1); omega
    refine lv_iload_n F.1 F.2.1 dX6_isRight_4 rfl (lv_at hl 1 rfl) ?_
    refine lv_aload_n F.1 F.2.1 dX6_isRight_5 rfl (lv_at hl 0 rfl) ?_
    refine tGetR (j := 2) F hK hH (tyb ha0 (all1 rfl)) rfl (all1 rfl) clX6 (by decide) wd_1_17 dX6_isRight_6 (fun q_5 hq_5 _ => ?_)
    refine tGetI (j := 4) F hK hH (tyb hq_5 (all1 rfl)) rfl clX2 (by decide) wd_8_18 dX6_isRight_9 (fun z_6 hz_6 => ?_)
    have ez_6 : 0 ≤ z_6.toInt ∧ z_6.toInt ≤ 14 := by omega
    refine b_ge (tgt := 19) F dX6_isRight_12 (by decide) (fun c_7 => ?_) (fun c_7 => ?_)
    · skip
      refine lv_iconst (v := 0) F.1 F.2.1 dX6_isRight_19 (by decide) ?_
      refine topK (a := 0) (by decide) (fun k_10 hk_10 => ?_)
      exact txI F hS dX6_isRight_20 (nar01 (wkb (eqb hk_10) rfl rfl)) (⟨(wkb (eqb hk_10) rfl rfl), (by omega), (by omega), hH⟩)
    · skip
      have r_8 : 0 ≤ a1.toInt ∧ a1.toInt ≤ 13 := by have h9_ := r_3; omega
      have r_9 : 1 ≤ z_6.toInt ∧ z_6.toInt ≤ 14 := by have h9_ := ez_6; omega
      refine lv_iconst (v := 1) F.1 F.2.1 dX6_isRight_15 (by decide) ?_
      refine topK (a := 1) (by decide) (fun k_11 hk_11 => ?_)
      refine lv_goto (tgt := 20) F.1 F.2.1 dX6_isRight_16 (by decide) ?_
      exact txI F hS dX6_isRight_20 (nar01 (wkb (eqb hk_11) rfl rfl)) (⟨(wkb (eqb hk_11) rfl rfl), (by omega), (by omega), hH⟩)
set_option maxHeartbeats 4000000 in
set_option maxRecDepth 100000 in
theorem c_X6_isRight_2 (E : Ev) (rd : TD) (tp : TD) (kb : Int × Int) (Fa1 : Int × Int) (Fb1 : Int × Int) (Fa2 : Int × Int) (Fa3 : Int × Int) (Fb3 : Int × Int) (Fa4 : Int × Int) (Fb4 : Int × Int) (ks : List Nat) (Pd1 : (Nat → Int32) → Prop) (Pd2 : (Nat → Int32) → Prop) (Pd3 : (Nat → Int32) → Prop) (Pd4 : (Nat → Int32) → Prop) (Ps1 : (Nat → Int32) → Prop) (Ps2 : (Nat → Int32) → Prop) (Ps3 : (Nat → Int32) → Prop) (Ps4 : (Nat → Int32) → Prop) (Pi1 : (Nat → Int32) → Prop) (Pi2 : (Nat → Int32) → Prop) (Pi3 : (Nat → Int32) → Prop) (Pi4 : (Nat → Int32) → Prop) (b : Int) (t : Int) (a0 : Nat) (a1 : Int32) (ha0 : eT E a0 ∈ [28]) (hb : 0 ≤ b ∧ b ≤ 14) (ht : 0 ≤ t ∧ t ≤ 400) (hFa1 : 0 ≤ Fa1.1 ∧ Fa1.2 ≤ 12) (hFb1 : 0 ≤ Fb1.1 ∧ Fb1.2 ≤ 14) (hFa2 : 0 ≤ Fa2.1 ∧ Fa2.2 ≤ 12) (hFa3 : 0 ≤ Fa3.1 ∧ Fa3.2 ≤ 12) (hFb3 : 0 ≤ Fb3.1 ∧ Fb3.2 ≤ 14) (hFa4 : 0 ≤ Fa4.1 ∧ Fa4.2 ≤ 12) (hFb4 : 0 ≤ Fb4.1 ∧ Fb4.2 ≤ 14) (hks : ∀ t ∈ ks, t ∈ [26, 27]) (hPd1 : ∀ f, Pd1 f → ivP 12 (-2) 11 f) (hPd2 : ∀ f, Pd2 f → ivP 12 (-2) 11 f) (hPd3 : ∀ f, Pd3 f → ivP 12 (-2) 11 f) (hPd4 : ∀ f, Pd4 f → ivP 12 (-2) 11 f) (hPs1 : ∀ f, Ps1 f → ivP 12 (-2147483648) 2147483647 f) (hPs2 : ∀ f, Ps2 f → ivP 12 (-2147483648) 2147483647 f) (hPs3 : ∀ f, Ps3 f → ivP 12 (-2147483648) 2147483647 f) (hPs4 : ∀ f, Ps4 f → ivP 12 (-2147483648) 2147483647 f) (hPi1 : ∀ f, Pi1 f → ivP 48 (-2147483648) 2147483647 f) (hPi2 : ∀ f, Pi2 f → ivP 48 (-2147483648) 2147483647 f) (hPi3 : ∀ f, Pi3 f → ivP 48 (-2147483648) 2147483647 f) (hPi4 : ∀ f, Pi4 f → ivP 48 (-2147483648) 2147483647 f) : TcI E yX6_isRight cX6_isRight 2 .boolean ({ frames := 1, cells := 0, slots := 0, locals := 40 }) [.ref a0, .int a1] (fun H => TH E (tbC (dayD (.inl (0, 18))) (dayD (.inl (0, 18))) (riverD (.inl Fa1) (.inl Fb1) (.inl (0, 4)) 31 33 35 39 43 47) (riverD (.inl Fa2) (.inl (b, b)) (.inl (0, 4)) 32 34 36 40 44 48) (rcD (.inl (t, t)) (.inr [27]) (.inr ks) (.inl kb)) rd tp A14F A14F A4F A4F A14F A14F (riverD (.inl Fa3) (.inl Fb3) (.inl (0, 4)) 3 8 3 41 45 49) (riverD (.inl Fa4) (.inl Fb4) (.inl (0, 4)) 3 8 3 42 46 50) ((.inr (.inl (0, 12, Pd1)))) ((.inr (.inl (0, 12, Pd2)))) ((.inr (.inl (0, 12, Pd3)))) ((.inr (.inl (0, 12, Pd4)))) ((.inr (.inl (0, 12, Ps1)))) ((.inr (.inl (0, 12, Ps2)))) ((.inr (.inl (0, 12, Ps3)))) ((.inr (.inl (0, 12, Ps4)))) ((.inr (.inl (0, 48, Pi1)))) ((.inr (.inl (0, 48, Pi2)))) ((.inr (.inl (0, 48, Pi3)))) ((.inr (.inl (0, 48, Pi4))))) H) (fun v H => (0 ≤ v.toInt ∧ v.toInt ≤ 1) ∧ (v.toInt = 1 → 0 ≤ a1.toInt ∧ a1.toInt ≤ 13) ∧ ((v.toInt = 1 ∧ 0 ≤ a1.toInt ∧ a1.toInt < b) ∨ (v.toInt = 0 ∧ (a1.toInt < 0 ∨ b ≤ a1.toInt))) ∧ TH E (tbC (dayD (.inl (0, 18))) (dayD (.inl (0, 18))) (riverD (.inl Fa1) (.inl Fb1) (.inl (0, 4)) 31 33 35 39 43 47) (riverD (.inl Fa2) (.inl (b, b)) (.inl (0, 4)) 32 34 36 40 44 48) (rcD (.inl (t, t)) (.inr [27]) (.inr ks) (.inl kb)) rd tp A14F A14F A4F A4F A14F A14F (riverD (.inl Fa3) (.inl Fb3) (.inl (0, 4)) 3 8 3 41 45 49) (riverD (.inl Fa4) (.inl Fb4) (.inl (0, 4)) 3 8 3 42 46 50) ((.inr (.inl (0, 12, Pd1)))) ((.inr (.inl (0, 12, Pd2)))) ((.inr (.inl (0, 12, Pd3)))) ((.inr (.inl (0, 12, Pd4)))) ((.inr (.inl (0, 12, Ps1)))) ((.inr (.inl (0, 12, Ps2)))) ((.inr (.inl (0, 12, Ps3)))) ((.inr (.inl (0, 12, Ps4)))) ((.inr (.inl (0, 48, Pi1)))) ((.inr (.inl (0, 48, Pi2)))) ((.inr (.inl (0, 48, Pi3)))) ((.inr (.inl (0, 48, Pi4))))) H) := by
  refine teI (by decide) (Nat.le_of_ble_eq_true rfl) ?_
  intro p_ ev_ s mi_ below_ meth cd_ ls F hK hN hO hH hS hl
  have hH : TH E (tbC (dayD (.inl (0, 18))) (dayD (.inl (0, 18))) (riverD (.inl Fa1) (.inl Fb1) (.inl (0, 4)) 31 33 35 39 43 47) (riverD (.inl Fa2) (.inl (b, b)) (.inl (0, 4)) 32 34 36 40 44 48) (rcD (.inl (t, t)) (.inr [27]) (.inr ks) (.inl kb)) rd tp A14F A14F A4F A4F A14F A14F (riverD (.inl Fa3) (.inl Fb3) (.inl (0, 4)) 3 8 3 41 45 49) (riverD (.inl Fa4) (.inl Fb4) (.inl (0, 4)) 3 8 3 42 46 50) ((.inr (.inl (0, 12, Pd1)))) ((.inr (.inl (0, 12, Pd2)))) ((.inr (.inl (0, 12, Pd3)))) ((.inr (.inl (0, 12, Pd4)))) ((.inr (.inl (0, 12, Ps1)))) ((.inr (.inl (0, 12, Ps2)))) ((.inr (.inl (0, 12, Ps3)))) ((.inr (.inl (0, 12, Ps4)))) ((.inr (.inl (0, 48, Pi1)))) ((.inr (.inl (0, 48, Pi2)))) ((.inr (.inl (0, 48, Pi3)))) ((.inr (.inl (0, 48, Pi4))))) s.heap := hH
  have hl : lv_has ls 2 [(0, .ref a0), (1, .int a1)] := hl
  refine lv_iload_n F.1 F.2.1 dX6_isRight_0 rfl (lv_at hl 1 rfl) ?_
  refine z_lt (tgt := 19) F dX6_isRight_1 (by decide) (fun c_1 => ?_) (fun c_1 => ?_)
  · skip
    have r_2 : (-2147483648) ≤ a1.toInt ∧ a1.toInt ≤ (-1) := by have h9_ := (i32b a1); omega
    refine lv_iconst (v := 0) F.1 F.2.1 dX6_isRight_19 (by decide) ?_
    refine topK (a := 0) (by decide) (fun k_4 hk_4 => ?_)
    exact txI F hS dX6_isRight_20 (nar01 (wkb (eqb hk_4) rfl rfl)) (⟨(wkb (eqb hk_4) rfl rfl), (by omega), (by omega), hH⟩)
  · skip
    have r_3 : 0 ≤ a1.toInt ∧ a1.toInt ≤ 2147483647 := by have h9_ := (i32b a1); omega
    refine lv_iload_n F.1 F.2.1 dX6_isRight_4 rfl (lv_at hl 1 rfl) ?_
    refine lv_aload_n F.1 F.2.1 dX6_isRight_5 rfl (lv_at hl 0 rfl) ?_
    refine tGetR (j := 2) F hK hH (tyb ha0 (all1 rfl)) rfl (all1 rfl) clX6 (by decide) wd_1_17 dX6_isRight_6 (fun q_5 hq_5 _ => ?_)
    refine tGetI (j := 4) F hK hH (tyb hq_5 (all1 rfl)) rfl clX2 (by decide) wd_8_18 dX6_isRight_9 (fun z_6 hz_6 => ?_)
    have ez_6 : 0 ≤ z_6.toInt ∧ z_6.toInt ≤ 14 := by omega
    refine b_ge (tgt := 19) F dX6_isRight_12 (by decide) (fun c_7 => ?_) (fun c_7 => ?_)
    · skip
      refine lv_iconst (v := 0) F.1 F.2.1 dX6_isRight_19 (by decide) ?_
      refine topK (a := 0) (by decide) (fun k_10 hk_10 => ?_)
      exact txI F hS dX6_isRight_20 (nar01 (wkb (eqb hk_10) rfl rfl)) (⟨(wkb (eqb hk_10) rfl rfl), (by omega), (by omega), hH⟩)
    · skip
      have r_8 : 0 ≤ a1.toInt ∧ a1.toInt ≤ 13 := by have h9_ := r_3; omega
      have r_9 : 1 ≤ z_6.toInt ∧ z_6.toInt ≤ 14 := by have h9_ := ez_6; omega
      refine lv_iconst (v := 1) F.1 F.2.1 dX6_isRight_15 (by decide) ?_
      refine topK (a := 1) (by decide) (fun k_11 hk_11 => ?_)
      refine lv_goto (tgt := 20) F.1 F.2.1 dX6_isRight_16 (by decide) ?_
      exact txI F hS dX6_isRight_20 (nar01 (wkb (eqb hk_11) rfl rfl)) (⟨(wkb (eqb hk_11) rfl rfl), (by omega), (by omega), hH⟩)
set_option maxHeartbeats 4000000 in
set_option maxRecDepth 100000 in
theorem c_X6_isStore (E : Ev) (rd : TD) (tp : TD) (kb : Int × Int) (Fa1 : Int × Int) (Fb1 : Int × Int) (Fa2 : Int × Int) (Fb2 : Int × Int) (Fa3 : Int × Int) (Fb3 : Int × Int) (Fa4 : Int × Int) (Fb4 : Int × Int) (kr : List Nat) (ks : List Nat) (Pd1 : (Nat → Int32) → Prop) (Pd2 : (Nat → Int32) → Prop) (Pd3 : (Nat → Int32) → Prop) (Pd4 : (Nat → Int32) → Prop) (Ps1 : (Nat → Int32) → Prop) (Ps2 : (Nat → Int32) → Prop) (Ps3 : (Nat → Int32) → Prop) (Ps4 : (Nat → Int32) → Prop) (Pi1 : (Nat → Int32) → Prop) (Pi2 : (Nat → Int32) → Prop) (Pi3 : (Nat → Int32) → Prop) (Pi4 : (Nat → Int32) → Prop) (t : Int) (a0 : Nat) (a1 : Int32) (ha0 : eT E a0 ∈ [28]) (ht : 0 ≤ t ∧ t ≤ 400) (hFa1 : 0 ≤ Fa1.1 ∧ Fa1.2 ≤ 12) (hFb1 : 0 ≤ Fb1.1 ∧ Fb1.2 ≤ 14) (hFa2 : 0 ≤ Fa2.1 ∧ Fa2.2 ≤ 12) (hFb2 : 0 ≤ Fb2.1 ∧ Fb2.2 ≤ 14) (hFa3 : 0 ≤ Fa3.1 ∧ Fa3.2 ≤ 12) (hFb3 : 0 ≤ Fb3.1 ∧ Fb3.2 ≤ 14) (hFa4 : 0 ≤ Fa4.1 ∧ Fa4.2 ≤ 12) (hFb4 : 0 ≤ Fb4.1 ∧ Fb4.2 ≤ 14) (hkr : ∀ t ∈ kr, t ∈ [26, 27]) (hks : ∀ t ∈ ks, t ∈ [26, 27]) (hPd1 : ∀ f, Pd1 f → ivP 12 (-2) 11 f) (hPd2 : ∀ f, Pd2 f → ivP 12 (-2) 11 f) (hPd3 : ∀ f, Pd3 f → ivP 12 (-2) 11 f) (hPd4 : ∀ f, Pd4 f → ivP 12 (-2) 11 f) (hPs1 : ∀ f, Ps1 f → ivP 12 (-2147483648) 2147483647 f) (hPs2 : ∀ f, Ps2 f → ivP 12 (-2147483648) 2147483647 f) (hPs3 : ∀ f, Ps3 f → ivP 12 (-2147483648) 2147483647 f) (hPs4 : ∀ f, Ps4 f → ivP 12 (-2147483648) 2147483647 f) (hPi1 : ∀ f, Pi1 f → ivP 48 (-2147483648) 2147483647 f) (hPi2 : ∀ f, Pi2 f → ivP 48 (-2147483648) 2147483647 f) (hPi3 : ∀ f, Pi3 f → ivP 48 (-2147483648) 2147483647 f) (hPi4 : ∀ f, Pi4 f → ivP 48 (-2147483648) 2147483647 f) : TcI E yX6_isStore cX6_isStore 2 .boolean ({ frames := 1, cells := 0, slots := 0, locals := 40 }) [.ref a0, .int a1] (fun H => TH E (tbC (dayD (.inl (0, 18))) (dayD (.inl (0, 18))) (riverD (.inl Fa1) (.inl Fb1) (.inl (0, 4)) 31 33 35 39 43 47) (riverD (.inl Fa2) (.inl Fb2) (.inl (0, 4)) 32 34 36 40 44 48) (rcD (.inl (t, t)) (.inr kr) (.inr ks) (.inl kb)) rd tp A14F A14F A4F A4F A14F A14F (riverD (.inl Fa3) (.inl Fb3) (.inl (0, 4)) 3 8 3 41 45 49) (riverD (.inl Fa4) (.inl Fb4) (.inl (0, 4)) 3 8 3 42 46 50) ((.inr (.inl (0, 12, Pd1)))) ((.inr (.inl (0, 12, Pd2)))) ((.inr (.inl (0, 12, Pd3)))) ((.inr (.inl (0, 12, Pd4)))) ((.inr (.inl (0, 12, Ps1)))) ((.inr (.inl (0, 12, Ps2)))) ((.inr (.inl (0, 12, Ps3)))) ((.inr (.inl (0, 12, Ps4)))) ((.inr (.inl (0, 48, Pi1)))) ((.inr (.inl (0, 48, Pi2)))) ((.inr (.inl (0, 48, Pi3)))) ((.inr (.inl (0, 48, Pi4))))) H) (fun v H => (0 ≤ v.toInt ∧ v.toInt ≤ 1) ∧ (v.toInt = 1 → 0 ≤ a1.toInt ∧ a1.toInt ≤ 3) ∧ TH E (tbC (dayD (.inl (0, 18))) (dayD (.inl (0, 18))) (riverD (.inl Fa1) (.inl Fb1) (.inl (0, 4)) 31 33 35 39 43 47) (riverD (.inl Fa2) (.inl Fb2) (.inl (0, 4)) 32 34 36 40 44 48) (rcD (.inl (t, t)) (.inr kr) (.inr ks) (.inl kb)) rd tp A14F A14F A4F A4F A14F A14F (riverD (.inl Fa3) (.inl Fb3) (.inl (0, 4)) 3 8 3 41 45 49) (riverD (.inl Fa4) (.inl Fb4) (.inl (0, 4)) 3 8 3 42 46 50) ((.inr (.inl (0, 12, Pd1)))) ((.inr (.inl (0, 12, Pd2)))) ((.inr (.inl (0, 12, Pd3)))) ((.inr (.inl (0, 12, Pd4)))) ((.inr (.inl (0, 12, Ps1)))) ((.inr (.inl (0, 12, Ps2)))) ((.inr (.inl (0, 12, Ps3)))) ((.inr (.inl (0, 12, Ps4)))) ((.inr (.inl (0, 48, Pi1)))) ((.inr (.inl (0, 48, Pi2)))) ((.inr (.inl (0, 48, Pi3)))) ((.inr (.inl (0, 48, Pi4))))) H) := by
  refine teI (by decide) (Nat.le_of_ble_eq_true rfl) ?_
  intro p_ ev_ s mi_ below_ meth cd_ ls F hK hN hO hH hS hl
  have hH : TH E (tbC (dayD (.inl (0, 18))) (dayD (.inl (0, 18))) (riverD (.inl Fa1) (.inl Fb1) (.inl (0, 4)) 31 33 35 39 43 47) (riverD (.inl Fa2) (.inl Fb2) (.inl (0, 4)) 32 34 36 40 44 48) (rcD (.inl (t, t)) (.inr kr) (.inr ks) (.inl kb)) rd tp A14F A14F A4F A4F A14F A14F (riverD (.inl Fa3) (.inl Fb3) (.inl (0, 4)) 3 8 3 41 45 49) (riverD (.inl Fa4) (.inl Fb4) (.inl (0, 4)) 3 8 3 42 46 50) ((.inr (.inl (0, 12, Pd1)))) ((.inr (.inl (0, 12, Pd2)))) ((.inr (.inl (0, 12, Pd3)))) ((.inr (.inl (0, 12, Pd4)))) ((.inr (.inl (0, 12, Ps1)))) ((.inr (.inl (0, 12, Ps2)))) ((.inr (.inl (0, 12, Ps3)))) ((.inr (.inl (0, 12, Ps4)))) ((.inr (.inl (0, 48, Pi1)))) ((.inr (.inl (0, 48, Pi2)))) ((.inr (.inl (0, 48, Pi3)))) ((.inr (.inl (0, 48, Pi4))))) s.heap := hH
  have hl : lv_has ls 2 [(0, .ref a0), (1, .int a1)] := hl
  refine lv_iload_n F.1 F.2.1 dX6_isStore_0 rfl (lv_at hl 1 rfl) ?_
  refine z_lt (tgt := 19) F dX6_isStore_1 (by decide) (fun c_1 => ?_) (fun c_1 => ?_)
  · skip
    have r_2 : (-2147483648) ≤ a1.toInt ∧ a1.toInt ≤ (-1) := by have h9_ := (i32b a1); omega
    refine lv_iconst (v := 0) F.1 F.2.1 dX6_isStore_19 (by decide) ?_
    refine topK (a := 0) (by decide) (fun k_4 hk_4 => ?_)
    exact txI F hS dX6_isStore_20 (nar01 (wkb (eqb hk_4) rfl rfl)) (⟨(wkb (eqb hk_4) rfl rfl), (by omega), hH⟩)
  · skip
    have r_3 : 0 ≤ a1.toInt ∧ a1.toInt ≤ 2147483647 := by have h9_ := (i32b a1); omega
    refine lv_iload_n F.1 F.2.1 dX6_isStore_4 rfl (lv_at hl 1 rfl) ?_
    refine lv_aload_n F.1 F.2.1 dX6_isStore_5 rfl (lv_at hl 0 rfl) ?_
    refine tGetR0 (j := 2) F hK hH (tyb ha0 (all1 rfl)) rfl clX6 (by decide) wd_1_17 dX6_isStore_6 (fun q_5 hq_5 => ?_)
    refine tGetIM (j := 14) F hK hH (hkr _ hq_5) (alls ⟨_, rfl, rfl⟩ (alls1 ⟨_, rfl, rfl⟩)) clX2 (by decide) wd_32_10 dX6_isStore_9 (fun z_6 hz_6 => ?_)
    refine b_ge (tgt := 19) F dX6_isStore_12 (by decide) (fun c_7 => ?_) (fun c_7 => ?_)
    · skip
      refine lv_iconst (v := 0) F.1 F.2.1 dX6_isStore_19 (by decide) ?_
      refine topK (a := 0) (by decide) (fun k_10 hk_10 => ?_)
      exact txI F hS dX6_isStore_20 (nar01 (wkb (eqb hk_10) rfl rfl)) (⟨(wkb (eqb hk_10) rfl rfl), (by omega), hH⟩)
    · skip
      have r_8 : 0 ≤ a1.toInt ∧ a1.toInt ≤ 3 := by have h9_ := r_3; omega
      have r_9 : 1 ≤ z_6.toInt ∧ z_6.toInt ≤ 4 := by have h9_ := hz_6; omega
      refine lv_iconst (v := 1) F.1 F.2.1 dX6_isStore_15 (by decide) ?_
      refine topK (a := 1) (by decide) (fun k_11 hk_11 => ?_)
      refine lv_goto (tgt := 20) F.1 F.2.1 dX6_isStore_16 (by decide) ?_
      exact txI F hS dX6_isStore_20 (nar01 (wkb (eqb hk_11) rfl rfl)) (⟨(wkb (eqb hk_11) rfl rfl), (by omega), hH⟩)
set_option maxHeartbeats 4000000 in
set_option maxRecDepth 100000 in
theorem c_X6_areTwoRights (E : Ev) (rd : TD) (tp : TD) (kb : Int × Int) (Fa1 : Int × Int) (Fb1 : Int × Int) (Fa2 : Int × Int) (Fb2 : Int × Int) (Fa3 : Int × Int) (Fb3 : Int × Int) (Fa4 : Int × Int) (Fb4 : Int × Int) (kr : List Nat) (ks : List Nat) (Pd1 : (Nat → Int32) → Prop) (Pd2 : (Nat → Int32) → Prop) (Pd3 : (Nat → Int32) → Prop) (Pd4 : (Nat → Int32) → Prop) (Ps1 : (Nat → Int32) → Prop) (Ps2 : (Nat → Int32) → Prop) (Ps3 : (Nat → Int32) → Prop) (Ps4 : (Nat → Int32) → Prop) (Pi1 : (Nat → Int32) → Prop) (Pi2 : (Nat → Int32) → Prop) (Pi3 : (Nat → Int32) → Prop) (Pi4 : (Nat → Int32) → Prop) (t : Int) (a0 : Nat) (a1 : Int32) (a2 : Int32) (ha0 : eT E a0 ∈ [28]) (ht : 0 ≤ t ∧ t ≤ 400) (hFa1 : 0 ≤ Fa1.1 ∧ Fa1.2 ≤ 12) (hFb1 : 0 ≤ Fb1.1 ∧ Fb1.2 ≤ 14) (hFa2 : 0 ≤ Fa2.1 ∧ Fa2.2 ≤ 12) (hFb2 : 0 ≤ Fb2.1 ∧ Fb2.2 ≤ 14) (hFa3 : 0 ≤ Fa3.1 ∧ Fa3.2 ≤ 12) (hFb3 : 0 ≤ Fb3.1 ∧ Fb3.2 ≤ 14) (hFa4 : 0 ≤ Fa4.1 ∧ Fa4.2 ≤ 12) (hFb4 : 0 ≤ Fb4.1 ∧ Fb4.2 ≤ 14) (hkr : ∀ t ∈ kr, t ∈ [26, 27]) (hks : ∀ t ∈ ks, t ∈ [26, 27]) (hPd1 : ∀ f, Pd1 f → ivP 12 (-2) 11 f) (hPd2 : ∀ f, Pd2 f → ivP 12 (-2) 11 f) (hPd3 : ∀ f, Pd3 f → ivP 12 (-2) 11 f) (hPd4 : ∀ f, Pd4 f → ivP 12 (-2) 11 f) (hPs1 : ∀ f, Ps1 f → ivP 12 (-2147483648) 2147483647 f) (hPs2 : ∀ f, Ps2 f → ivP 12 (-2147483648) 2147483647 f) (hPs3 : ∀ f, Ps3 f → ivP 12 (-2147483648) 2147483647 f) (hPs4 : ∀ f, Ps4 f → ivP 12 (-2147483648) 2147483647 f) (hPi1 : ∀ f, Pi1 f → ivP 48 (-2147483648) 2147483647 f) (hPi2 : ∀ f, Pi2 f → ivP 48 (-2147483648) 2147483647 f) (hPi3 : ∀ f, Pi3 f → ivP 48 (-2147483648) 2147483647 f) (hPi4 : ∀ f, Pi4 f → ivP 48 (-2147483648) 2147483647 f) : TcI E yX6_areTwoRights cX6_areTwoRights 3 .boolean ({ frames := 2, cells := 0, slots := 0, locals := 61 }) [.ref a0, .int a1, .int a2] (fun H => TH E (tbC (dayD (.inl (0, 18))) (dayD (.inl (0, 18))) (riverD (.inl Fa1) (.inl Fb1) (.inl (0, 4)) 31 33 35 39 43 47) (riverD (.inl Fa2) (.inl Fb2) (.inl (0, 4)) 32 34 36 40 44 48) (rcD (.inl (t, t)) (.inr kr) (.inr ks) (.inl kb)) rd tp A14F A14F A4F A4F A14F A14F (riverD (.inl Fa3) (.inl Fb3) (.inl (0, 4)) 3 8 3 41 45 49) (riverD (.inl Fa4) (.inl Fb4) (.inl (0, 4)) 3 8 3 42 46 50) ((.inr (.inl (0, 12, Pd1)))) ((.inr (.inl (0, 12, Pd2)))) ((.inr (.inl (0, 12, Pd3)))) ((.inr (.inl (0, 12, Pd4)))) ((.inr (.inl (0, 12, Ps1)))) ((.inr (.inl (0, 12, Ps2)))) ((.inr (.inl (0, 12, Ps3)))) ((.inr (.inl (0, 12, Ps4)))) ((.inr (.inl (0, 48, Pi1)))) ((.inr (.inl (0, 48, Pi2)))) ((.inr (.inl (0, 48, Pi3)))) ((.inr (.inl (0, 48, Pi4))))) H) (fun v H => (0 ≤ v.toInt ∧ v.toInt ≤ 1) ∧ (v.toInt = 1 → 0 ≤ a1.toInt ∧ a1.toInt ≤ 13) ∧ (v.toInt = 1 → 0 ≤ a2.toInt ∧ a2.toInt ≤ 13) ∧ TH E (tbC (dayD (.inl (0, 18))) (dayD (.inl (0, 18))) (riverD (.inl Fa1) (.inl Fb1) (.inl (0, 4)) 31 33 35 39 43 47) (riverD (.inl Fa2) (.inl Fb2) (.inl (0, 4)) 32 34 36 40 44 48) (rcD (.inl (t, t)) (.inr kr) (.inr ks) (.inl kb)) rd tp A14F A14F A4F A4F A14F A14F (riverD (.inl Fa3) (.inl Fb3) (.inl (0, 4)) 3 8 3 41 45 49) (riverD (.inl Fa4) (.inl Fb4) (.inl (0, 4)) 3 8 3 42 46 50) ((.inr (.inl (0, 12, Pd1)))) ((.inr (.inl (0, 12, Pd2)))) ((.inr (.inl (0, 12, Pd3)))) ((.inr (.inl (0, 12, Pd4)))) ((.inr (.inl (0, 12, Ps1)))) ((.inr (.inl (0, 12, Ps2)))) ((.inr (.inl (0, 12, Ps3)))) ((.inr (.inl (0, 12, Ps4)))) ((.inr (.inl (0, 48, Pi1)))) ((.inr (.inl (0, 48, Pi2)))) ((.inr (.inl (0, 48, Pi3)))) ((.inr (.inl (0, 48, Pi4))))) H) := by
  refine teI (by decide) (Nat.le_of_ble_eq_true rfl) ?_
  intro p_ ev_ s mi_ below_ meth cd_ ls F hK hN hO hH hS hl
  have hH : TH E (tbC (dayD (.inl (0, 18))) (dayD (.inl (0, 18))) (riverD (.inl Fa1) (.inl Fb1) (.inl (0, 4)) 31 33 35 39 43 47) (riverD (.inl Fa2) (.inl Fb2) (.inl (0, 4)) 32 34 36 40 44 48) (rcD (.inl (t, t)) (.inr kr) (.inr ks) (.inl kb)) rd tp A14F A14F A4F A4F A14F A14F (riverD (.inl Fa3) (.inl Fb3) (.inl (0, 4)) 3 8 3 41 45 49) (riverD (.inl Fa4) (.inl Fb4) (.inl (0, 4)) 3 8 3 42 46 50) ((.inr (.inl (0, 12, Pd1)))) ((.inr (.inl (0, 12, Pd2)))) ((.inr (.inl (0, 12, Pd3)))) ((.inr (.inl (0, 12, Pd4)))) ((.inr (.inl (0, 12, Ps1)))) ((.inr (.inl (0, 12, Ps2)))) ((.inr (.inl (0, 12, Ps3)))) ((.inr (.inl (0, 12, Ps4)))) ((.inr (.inl (0, 48, Pi1)))) ((.inr (.inl (0, 48, Pi2)))) ((.inr (.inl (0, 48, Pi3)))) ((.inr (.inl (0, 48, Pi4))))) s.heap := hH
  have hl : lv_has ls 3 [(0, .ref a0), (1, .int a1), (2, .int a2)] := hl
  refine lv_aload_n F.1 F.2.1 dX6_areTwoRights_0 rfl (lv_at hl 0 rfl) ?_
  refine lv_iload_n F.1 F.2.1 dX6_areTwoRights_1 rfl (lv_at hl 1 rfl) ?_
  refine tVi (b := a0) (As := [.int a1]) (rest := []) F hK hN hO (c_X6_isRight E rd tp kb Fa1 Fb1 Fa2 Fb2 Fa3 Fb3 Fa4 Fb4 kr ks Pd1 Pd2 Pd3 Pd4 Ps1 Ps2 Ps3 Ps4 Pi1 Pi2 Pi3 Pi4 t a0 a1 ha0 (by omega) hFa1 hFb1 hFa2 hFb2 hFa3 hFb3 hFa4 hFb4 hkr hks hPd1 hPd2 hPd3 hPd4 hPs1 hPs2 hPs3 hPs4 hPi1 hPi2 hPi3 hPi4) mv_X6_isRight wd_31_10 ⟨Nat.le_of_ble_eq_true rfl, Nat.le_of_ble_eq_true rfl⟩ ⟨Nat.le_of_ble_eq_true rfl, Nat.le_of_ble_eq_true rfl⟩ hH hS (tRecv hK hH (tyb ha0 (all1 rfl)) clX6) rfl hl.1 (Nat.le_of_ble_eq_true rfl) dX6_areTwoRights_2 (fun z_1 H locs hq hS => ?_)
  obtain ⟨f_2, f_3, hH⟩ := hq
  have hH : TH E (tbC (dayD (.inl (0, 18))) (dayD (.inl (0, 18))) (riverD (.inl Fa1) (.inl Fb1) (.inl (0, 4)) 31 33 35 39 43 47) (riverD (.inl Fa2) (.inl Fb2) (.inl (0, 4)) 32 34 36 40 44 48) (rcD (.inl (t, t)) (.inr kr) (.inr ks) (.inl kb)) rd tp A14F A14F A4F A4F A14F A14F (riverD (.inl Fa3) (.inl Fb3) (.inl (0, 4)) 3 8 3 41 45 49) (riverD (.inl Fa4) (.inl Fb4) (.inl (0, 4)) 3 8 3 42 46 50) ((.inr (.inl (0, 12, Pd1)))) ((.inr (.inl (0, 12, Pd2)))) ((.inr (.inl (0, 12, Pd3)))) ((.inr (.inl (0, 12, Pd4)))) ((.inr (.inl (0, 12, Ps1)))) ((.inr (.inl (0, 12, Ps2)))) ((.inr (.inl (0, 12, Ps3)))) ((.inr (.inl (0, 12, Ps4)))) ((.inr (.inl (0, 48, Pi1)))) ((.inr (.inl (0, 48, Pi2)))) ((.inr (.inl (0, 48, Pi3)))) ((.inr (.inl (0, 48, Pi4))))) H := hH
  refine z_eq (tgt := 25) F dX6_areTwoRights_5 (by decide) (fun c_4 => ?_) (fun c_4 => ?_)
  · skip
    have r_5 : 0 ≤ z_1.toInt ∧ z_1.toInt ≤ 0 := by have h9_ := f_2; omega
    refine lv_iconst (v := 0) F.1 F.2.1 dX6_areTwoRights_25 (by decide) ?_
    refine topK (a := 0) (by decide) (fun k_8 hk_8 => ?_)
    exact txI F hS dX6_areTwoRights_26 (nar01 (wkb (eqb hk_8) rfl rfl)) (⟨(wkb (eqb hk_8) rfl rfl), (by omega), (by omega), hH⟩)
  · skip
    have r_6 : 1 ≤ z_1.toInt ∧ z_1.toInt ≤ 1 := by have h9_ := f_2; omega
    have r_7 : 0 ≤ a1.toInt ∧ a1.toInt ≤ 13 := by have h9_ := (i32b a1); omega
    refine lv_aload_n F.1 F.2.1 dX6_areTwoRights_8 rfl (lv_at hl 0 rfl) ?_
    refine lv_iload_n F.1 F.2.1 dX6_areTwoRights_9 rfl (lv_at hl 2 rfl) ?_
    refine tVi (b := a0) (As := [.int a2]) (rest := []) F hK hN hO (c_X6_isRight E rd tp kb Fa1 Fb1 Fa2 Fb2 Fa3 Fb3 Fa4 Fb4 kr ks Pd1 Pd2 Pd3 Pd4 Ps1 Ps2 Ps3 Ps4 Pi1 Pi2 Pi3 Pi4 t a0 a2 ha0 (by omega) hFa1 hFb1 hFa2 hFb2 hFa3 hFb3 hFa4 hFb4 hkr hks hPd1 hPd2 hPd3 hPd4 hPs1 hPs2 hPs3 hPs4 hPi1 hPi2 hPi3 hPi4) mv_X6_isRight wd_31_10 ⟨Nat.le_of_ble_eq_true rfl, Nat.le_of_ble_eq_true rfl⟩ ⟨Nat.le_of_ble_eq_true rfl, Nat.le_of_ble_eq_true rfl⟩ hH hS (tRecv hK hH (tyb ha0 (all1 rfl)) clX6) rfl hl.1 (Nat.le_of_ble_eq_true rfl) dX6_areTwoRights_10 (fun z_9 H locs hq hS => ?_)
    obtain ⟨f_10, f_11, hH⟩ := hq
    have hH : TH E (tbC (dayD (.inl (0, 18))) (dayD (.inl (0, 18))) (riverD (.inl Fa1) (.inl Fb1) (.inl (0, 4)) 31 33 35 39 43 47) (riverD (.inl Fa2) (.inl Fb2) (.inl (0, 4)) 32 34 36 40 44 48) (rcD (.inl (t, t)) (.inr kr) (.inr ks) (.inl kb)) rd tp A14F A14F A4F A4F A14F A14F (riverD (.inl Fa3) (.inl Fb3) (.inl (0, 4)) 3 8 3 41 45 49) (riverD (.inl Fa4) (.inl Fb4) (.inl (0, 4)) 3 8 3 42 46 50) ((.inr (.inl (0, 12, Pd1)))) ((.inr (.inl (0, 12, Pd2)))) ((.inr (.inl (0, 12, Pd3)))) ((.inr (.inl (0, 12, Pd4)))) ((.inr (.inl (0, 12, Ps1)))) ((.inr (.inl (0, 12, Ps2)))) ((.inr (.inl (0, 12, Ps3)))) ((.inr (.inl (0, 12, Ps4)))) ((.inr (.inl (0, 48, Pi1)))) ((.inr (.inl (0, 48, Pi2)))) ((.inr (.inl (0, 48, Pi3)))) ((.inr (.inl (0, 48, Pi4))))) H := hH
    refine z_eq (tgt := 25) F dX6_areTwoRights_13 (by decide) (fun c_12 => ?_) (fun c_12 => ?_)
    · skip
      have r_13 : 0 ≤ z_9.toInt ∧ z_9.toInt ≤ 0 := by have h9_ := f_10; omega
      refine lv_iconst (v := 0) F.1 F.2.1 dX6_areTwoRights_25 (by decide) ?_
      refine topK (a := 0) (by decide) (fun k_16 hk_16 => ?_)
      exact txI F hS dX6_areTwoRights_26 (nar01 (wkb (eqb hk_16) rfl rfl)) (⟨(wkb (eqb hk_16) rfl rfl), (by omega), (by omega), hH⟩)
    · skip
      have r_14 : 1 ≤ z_9.toInt ∧ z_9.toInt ≤ 1 := by have h9_ := f_10; omega
      have r_15 : 0 ≤ a2.toInt ∧ a2.toInt ≤ 13 := by have h9_ := (i32b a2); omega
      refine lv_iload_n F.1 F.2.1 dX6_areTwoRights_16 rfl (lv_at hl 1 rfl) ?_
      refine lv_iload_n F.1 F.2.1 dX6_areTwoRights_17 rfl (lv_at hl 2 rfl) ?_
      refine b_eq (tgt := 25) F dX6_areTwoRights_18 (by decide) (fun c_17 => ?_) (fun c_17 => ?_)
      · skip
        refine lv_iconst (v := 0) F.1 F.2.1 dX6_areTwoRights_25 (by decide) ?_
        refine topK (a := 0) (by decide) (fun k_18 hk_18 => ?_)
        exact txI F hS dX6_areTwoRights_26 (nar01 (wkb (eqb hk_18) rfl rfl)) (⟨(wkb (eqb hk_18) rfl rfl), (by omega), (by omega), hH⟩)
      · skip
        refine lv_iconst (v := 1) F.1 F.2.1 dX6_areTwoRights_21 (by decide) ?_
        refine topK (a := 1) (by decide) (fun k_19 hk_19 => ?_)
        refine lv_goto (tgt := 26) F.1 F.2.1 dX6_areTwoRights_22 (by decide) ?_
        exact txI F hS dX6_areTwoRights_26 (nar01 (wkb (eqb hk_19) rfl rfl)) (⟨(wkb (eqb hk_19) rfl rfl), (by omega), (by omega), hH⟩)
set_option maxHeartbeats 4000000 in
set_option maxRecDepth 100000 in
theorem c_X6_areTwoRights_1 (E : Ev) (rd : TD) (tp : TD) (kb : Int × Int) (Fa1 : Int × Int) (Fa2 : Int × Int) (Fb2 : Int × Int) (Fa3 : Int × Int) (Fb3 : Int × Int) (Fa4 : Int × Int) (Fb4 : Int × Int) (ks : List Nat) (Pd1 : (Nat → Int32) → Prop) (Pd2 : (Nat → Int32) → Prop) (Pd3 : (Nat → Int32) → Prop) (Pd4 : (Nat → Int32) → Prop) (Ps1 : (Nat → Int32) → Prop) (Ps2 : (Nat → Int32) → Prop) (Ps3 : (Nat → Int32) → Prop) (Ps4 : (Nat → Int32) → Prop) (Pi1 : (Nat → Int32) → Prop) (Pi2 : (Nat → Int32) → Prop) (Pi3 : (Nat → Int32) → Prop) (Pi4 : (Nat → Int32) → Prop) (b : Int) (t : Int) (a0 : Nat) (a1 : Int32) (a2 : Int32) (ha0 : eT E a0 ∈ [28]) (hb : 0 ≤ b ∧ b ≤ 14) (ht : 0 ≤ t ∧ t ≤ 400) (hFa1 : 0 ≤ Fa1.1 ∧ Fa1.2 ≤ 12) (hFa2 : 0 ≤ Fa2.1 ∧ Fa2.2 ≤ 12) (hFb2 : 0 ≤ Fb2.1 ∧ Fb2.2 ≤ 14) (hFa3 : 0 ≤ Fa3.1 ∧ Fa3.2 ≤ 12) (hFb3 : 0 ≤ Fb3.1 ∧ Fb3.2 ≤ 14) (hFa4 : 0 ≤ Fa4.1 ∧ Fa4.2 ≤ 12) (hFb4 : 0 ≤ Fb4.1 ∧ Fb4.2 ≤ 14) (hks : ∀ t ∈ ks, t ∈ [26, 27]) (hPd1 : ∀ f, Pd1 f → ivP 12 (-2) 11 f) (hPd2 : ∀ f, Pd2 f → ivP 12 (-2) 11 f) (hPd3 : ∀ f, Pd3 f → ivP 12 (-2) 11 f) (hPd4 : ∀ f, Pd4 f → ivP 12 (-2) 11 f) (hPs1 : ∀ f, Ps1 f → ivP 12 (-2147483648) 2147483647 f) (hPs2 : ∀ f, Ps2 f → ivP 12 (-2147483648) 2147483647 f) (hPs3 : ∀ f, Ps3 f → ivP 12 (-2147483648) 2147483647 f) (hPs4 : ∀ f, Ps4 f → ivP 12 (-2147483648) 2147483647 f) (hPi1 : ∀ f, Pi1 f → ivP 48 (-2147483648) 2147483647 f) (hPi2 : ∀ f, Pi2 f → ivP 48 (-2147483648) 2147483647 f) (hPi3 : ∀ f, Pi3 f → ivP 48 (-2147483648) 2147483647 f) (hPi4 : ∀ f, Pi4 f → ivP 48 (-2147483648) 2147483647 f) : TcI E yX6_areTwoRights cX6_areTwoRights 3 .boolean ({ frames := 2, cells := 0, slots := 0, locals := 61 }) [.ref a0, .int a1, .int a2] (fun H => TH E (tbC (dayD (.inl (0, 18))) (dayD (.inl (0, 18))) (riverD (.inl Fa1) (.inl (b, b)) (.inl (0, 4)) 31 33 35 39 43 47) (riverD (.inl Fa2) (.inl Fb2) (.inl (0, 4)) 32 34 36 40 44 48) (rcD (.inl (t, t)) (.inr [26]) (.inr ks) (.inl kb)) rd tp A14F A14F A4F A4F A14F A14F (riverD (.inl Fa3) (.inl Fb3) (.inl (0, 4)) 3 8 3 41 45 49) (riverD (.inl Fa4) (.inl Fb4) (.inl (0, 4)) 3 8 3 42 46 50) ((.inr (.inl (0, 12, Pd1)))) ((.inr (.inl (0, 12, Pd2)))) ((.inr (.inl (0, 12, Pd3)))) ((.inr (.inl (0, 12, Pd4)))) ((.inr (.inl (0, 12, Ps1)))) ((.inr (.inl (0, 12, Ps2)))) ((.inr (.inl (0, 12, Ps3)))) ((.inr (.inl (0, 12, Ps4)))) ((.inr (.inl (0, 48, Pi1)))) ((.inr (.inl (0, 48, Pi2)))) ((.inr (.inl (0, 48, Pi3)))) ((.inr (.inl (0, 48, Pi4))))) H) (fun v H => (0 ≤ v.toInt ∧ v.toInt ≤ 1) ∧ (v.toInt = 1 → 0 ≤ a1.toInt ∧ a1.toInt ≤ 13) ∧ (v.toInt = 1 → 0 ≤ a2.toInt ∧ a2.toInt ≤ 13) ∧ ((v.toInt = 1 ∧ 0 ≤ a1.toInt ∧ a1.toInt < b ∧ 0 ≤ a2.toInt ∧ a2.toInt < b ∧ a1.toInt ≠ a2.toInt) ∨ (v.toInt = 0 ∧ ¬ (0 ≤ a1.toInt ∧ a1.toInt < b ∧ 0 ≤ a2.toInt ∧ a2.toInt < b ∧ a1.toInt ≠ a2.toInt))) ∧ TH E (tbC (dayD (.inl (0, 18))) (dayD (.inl (0, 18))) (riverD (.inl Fa1) (.inl (b, b)) (.inl (0, 4)) 31 33 35 39 43 47) (riverD (.inl Fa2) (.inl Fb2) (.inl (0, 4)) 32 34 36 40 44 48) (rcD (.inl (t, t)) (.inr [26]) (.inr ks) (.inl kb)) rd tp A14F A14F A4F A4F A14F A14F (riverD (.inl Fa3) (.inl Fb3) (.inl (0, 4)) 3 8 3 41 45 49) (riverD (.inl Fa4) (.inl Fb4) (.inl (0, 4)) 3 8 3 42 46 50) ((.inr (.inl (0, 12, Pd1)))) ((.inr (.inl (0, 12, Pd2)))) ((.inr (.inl (0, 12, Pd3)))) ((.inr (.inl (0, 12, Pd4)))) ((.inr (.inl (0, 12, Ps1)))) ((.inr (.inl (0, 12, Ps2)))) ((.inr (.inl (0, 12, Ps3)))) ((.inr (.inl (0, 12, Ps4)))) ((.inr (.inl (0, 48, Pi1)))) ((.inr (.inl (0, 48, Pi2)))) ((.inr (.inl (0, 48, Pi3)))) ((.inr (.inl (0, 48, Pi4))))) H) := by
  refine teI (by decide) (Nat.le_of_ble_eq_true rfl) ?_
  intro p_ ev_ s mi_ below_ meth cd_ ls F hK hN hO hH hS hl
  have hH : TH E (tbC (dayD (.inl (0, 18))) (dayD (.inl (0, 18))) (riverD (.inl Fa1) (.inl (b, b)) (.inl (0, 4)) 31 33 35 39 43 47) (riverD (.inl Fa2) (.inl Fb2) (.inl (0, 4)) 32 34 36 40 44 48) (rcD (.inl (t, t)) (.inr [26]) (.inr ks) (.inl kb)) rd tp A14F A14F A4F A4F A14F A14F (riverD (.inl Fa3) (.inl Fb3) (.inl (0, 4)) 3 8 3 41 45 49) (riverD (.inl Fa4) (.inl Fb4) (.inl (0, 4)) 3 8 3 42 46 50) ((.inr (.inl (0, 12, Pd1)))) ((.inr (.inl (0, 12, Pd2)))) ((.inr (.inl (0, 12, Pd3)))) ((.inr (.inl (0, 12, Pd4)))) ((.inr (.inl (0, 12, Ps1)))) ((.inr (.inl (0, 12, Ps2)))) ((.inr (.inl (0, 12, Ps3)))) ((.inr (.inl (0, 12, Ps4)))) ((.inr (.inl (0, 48, Pi1)))) ((.inr (.inl (0, 48, Pi2)))) ((.inr (.inl (0, 48, Pi3)))) ((.inr (.inl (0, 48, Pi4))))) s.heap := hH
  have hl : lv_has ls 3 [(0, .ref a0), (1, .int a1), (2, .int a2)] := hl
  refine lv_aload_n F.1 F.2.1 dX6_areTwoRights_0 rfl (lv_at hl 0 rfl) ?_
  refine lv_iload_n F.1 F.2.1 dX6_areTwoRights_1 rfl (lv_at hl 1 rfl) ?_
  refine tVi (b := a0) (As := [.int a1]) (rest := []) F hK hN hO (c_X6_isRight_1 E rd tp kb Fa1 Fa2 Fb2 Fa3 Fb3 Fa4 Fb4 ks Pd1 Pd2 Pd3 Pd4 Ps1 Ps2 Ps3 Ps4 Pi1 Pi2 Pi3 Pi4 b t a0 a1 ha0 (by omega) (by omega) hFa1 hFa2 hFb2 hFa3 hFb3 hFa4 hFb4 hks hPd1 hPd2 hPd3 hPd4 hPs1 hPs2 hPs3 hPs4 hPi1 hPi2 hPi3 hPi4) mv_X6_isRight wd_31_10 ⟨Nat.le_of_ble_eq_true rfl, Nat.le_of_ble_eq_true rfl⟩ ⟨Nat.le_of_ble_eq_true rfl, Nat.le_of_ble_eq_true rfl⟩ hH hS (tRecv hK hH (tyb ha0 (all1 rfl)) clX6) rfl hl.1 (Nat.le_of_ble_eq_true rfl) dX6_areTwoRights_2 (fun z_1 H locs hq hS => ?_)
  obtain ⟨f_2, f_3, f_4, hH⟩ := hq
  have hH : TH E (tbC (dayD (.inl (0, 18))) (dayD (.inl (0, 18))) (riverD (.inl Fa1) (.inl (b, b)) (.inl (0, 4)) 31 33 35 39 43 47) (riverD (.inl Fa2) (.inl Fb2) (.inl (0, 4)) 32 34 36 40 44 48) (rcD (.inl (t, t)) (.inr [26]) (.inr ks) (.inl kb)) rd tp A14F A14F A4F A4F A14F A14F (riverD (.inl Fa3) (.inl Fb3) (.inl (0, 4)) 3 8 3 41 45 49) (riverD (.inl Fa4) (.inl Fb4) (.inl (0, 4)) 3 8 3 42 46 50) ((.inr (.inl (0, 12, Pd1)))) ((.inr (.inl (0, 12, Pd2)))) ((.inr (.inl (0, 12, Pd3)))) ((.inr (.inl (0, 12, Pd4)))) ((.inr (.inl (0, 12, Ps1)))) ((.inr (.inl (0, 12, Ps2)))) ((.inr (.inl (0, 12, Ps3)))) ((.inr (.inl (0, 12, Ps4)))) ((.inr (.inl (0, 48, Pi1)))) ((.inr (.inl (0, 48, Pi2)))) ((.inr (.inl (0, 48, Pi3)))) ((.inr (.inl (0, 48, Pi4))))) H := hH
  refine z_eq (tgt := 25) F dX6_areTwoRights_5 (by decide) (fun c_5 => ?_) (fun c_5 => ?_)
  · skip
    have r_6 : 0 ≤ z_1.toInt ∧ z_1.toInt ≤ 0 := by have h9_ := f_2; omega
    refine lv_iconst (v := 0) F.1 F.2.1 dX6_areTwoRights_25 (by decide) ?_
    refine topK (a := 0) (by decide) (fun k_9 hk_9 => ?_)
    exact txI F hS dX6_areTwoRights_26 (nar01 (wkb (eqb hk_9) rfl rfl)) (⟨(wkb (eqb hk_9) rfl rfl), (by omega), (by omega), (by omega), hH⟩)
  · skip
    have r_7 : 1 ≤ z_1.toInt ∧ z_1.toInt ≤ 1 := by have h9_ := f_2; omega
    have r_8 : 0 ≤ a1.toInt ∧ a1.toInt ≤ 13 := by have h9_ := (i32b a1); omega
    refine lv_aload_n F.1 F.2.1 dX6_areTwoRights_8 rfl (lv_at hl 0 rfl) ?_
    refine lv_iload_n F.1 F.2.1 dX6_areTwoRights_9 rfl (lv_at hl 2 rfl) ?_
    refine tVi (b := a0) (As := [.int a2]) (rest := []) F hK hN hO (c_X6_isRight_1 E rd tp kb Fa1 Fa2 Fb2 Fa3 Fb3 Fa4 Fb4 ks Pd1 Pd2 Pd3 Pd4 Ps1 Ps2 Ps3 Ps4 Pi1 Pi2 Pi3 Pi4 b t a0 a2 ha0 (by omega) (by omega) hFa1 hFa2 hFb2 hFa3 hFb3 hFa4 hFb4 hks hPd1 hPd2 hPd3 hPd4 hPs1 hPs2 hPs3 hPs4 hPi1 hPi2 hPi3 hPi4) mv_X6_isRight wd_31_10 ⟨Nat.le_of_ble_eq_true rfl, Nat.le_of_ble_eq_true rfl⟩ ⟨Nat.le_of_ble_eq_true rfl, Nat.le_of_ble_eq_true rfl⟩ hH hS (tRecv hK hH (tyb ha0 (all1 rfl)) clX6) rfl hl.1 (Nat.le_of_ble_eq_true rfl) dX6_areTwoRights_10 (fun z_10 H locs hq hS => ?_)
    obtain ⟨f_11, f_12, f_13, hH⟩ := hq
    have hH : TH E (tbC (dayD (.inl (0, 18))) (dayD (.inl (0, 18))) (riverD (.inl Fa1) (.inl (b, b)) (.inl (0, 4)) 31 33 35 39 43 47) (riverD (.inl Fa2) (.inl Fb2) (.inl (0, 4)) 32 34 36 40 44 48) (rcD (.inl (t, t)) (.inr [26]) (.inr ks) (.inl kb)) rd tp A14F A14F A4F A4F A14F A14F (riverD (.inl Fa3) (.inl Fb3) (.inl (0, 4)) 3 8 3 41 45 49) (riverD (.inl Fa4) (.inl Fb4) (.inl (0, 4)) 3 8 3 42 46 50) ((.inr (.inl (0, 12, Pd1)))) ((.inr (.inl (0, 12, Pd2)))) ((.inr (.inl (0, 12, Pd3)))) ((.inr (.inl (0, 12, Pd4)))) ((.inr (.inl (0, 12, Ps1)))) ((.inr (.inl (0, 12, Ps2)))) ((.inr (.inl (0, 12, Ps3)))) ((.inr (.inl (0, 12, Ps4)))) ((.inr (.inl (0, 48, Pi1)))) ((.inr (.inl (0, 48, Pi2)))) ((.inr (.inl (0, 48, Pi3)))) ((.inr (.inl (0, 48, Pi4))))) H := hH
    refine z_eq (tgt := 25) F dX6_areTwoRights_13 (by decide) (fun c_14 => ?_) (fun c_14 => ?_)
    · skip
      have r_15 : 0 ≤ z_10.toInt ∧ z_10.toInt ≤ 0 := by have h9_ := f_11; omega
      refine lv_iconst (v := 0) F.1 F.2.1 dX6_areTwoRights_25 (by decide) ?_
      refine topK (a := 0) (by decide) (fun k_18 hk_18 => ?_)
      exact txI F hS dX6_areTwoRights_26 (nar01 (wkb (eqb hk_18) rfl rfl)) (⟨(wkb (eqb hk_18) rfl rfl), (by omega), (by omega), (by omega), hH⟩)
    · skip
      have r_16 : 1 ≤ z_10.toInt ∧ z_10.toInt ≤ 1 := by have h9_ := f_11; omega
      have r_17 : 0 ≤ a2.toInt ∧ a2.toInt ≤ 13 := by have h9_ := (i32b a2); omega
      refine lv_iload_n F.1 F.2.1 dX6_areTwoRights_16 rfl (lv_at hl 1 rfl) ?_
      refine lv_iload_n F.1 F.2.1 dX6_areTwoRights_17 rfl (lv_at hl 2 rfl) ?_
      refine b_eq (tgt := 25) F dX6_areTwoRights_18 (by decide) (fun c_19 => ?_) (fun c_19 => ?_)
      · skip
        refine lv_iconst (v := 0) F.1 F.2.1 dX6_areTwoRights_25 (by decide) ?_
        refine topK (a := 0) (by decide) (fun k_20 hk_20 => ?_)
        exact txI F hS dX6_areTwoRights_26 (nar01 (wkb (eqb hk_20) rfl rfl)) (⟨(wkb (eqb hk_20) rfl rfl), (by omega), (by omega), (by omega), hH⟩)
      · skip
        refine lv_iconst (v := 1) F.1 F.2.1 dX6_areTwoRights_21 (by decide) ?_
        refine topK (a := 1) (by decide) (fun k_21 hk_21 => ?_)
        refine lv_goto (tgt := 26) F.1 F.2.1 dX6_areTwoRights_22 (by decide) ?_
        exact txI F hS dX6_areTwoRights_26 (nar01 (wkb (eqb hk_21) rfl rfl)) (⟨(wkb (eqb hk_21) rfl rfl), (by omega), (by omega), (by omega), hH⟩)
set_option maxHeartbeats 4000000 in
set_option maxRecDepth 100000 in
theorem c_X6_areTwoRights_2 (E : Ev) (rd : TD) (tp : TD) (kb : Int × Int) (Fa1 : Int × Int) (Fb1 : Int × Int) (Fa2 : Int × Int) (Fa3 : Int × Int) (Fb3 : Int × Int) (Fa4 : Int × Int) (Fb4 : Int × Int) (ks : List Nat) (Pd1 : (Nat → Int32) → Prop) (Pd2 : (Nat → Int32) → Prop) (Pd3 : (Nat → Int32) → Prop) (Pd4 : (Nat → Int32) → Prop) (Ps1 : (Nat → Int32) → Prop) (Ps2 : (Nat → Int32) → Prop) (Ps3 : (Nat → Int32) → Prop) (Ps4 : (Nat → Int32) → Prop) (Pi1 : (Nat → Int32) → Prop) (Pi2 : (Nat → Int32) → Prop) (Pi3 : (Nat → Int32) → Prop) (Pi4 : (Nat → Int32) → Prop) (b : Int) (t : Int) (a0 : Nat) (a1 : Int32) (a2 : Int32) (ha0 : eT E a0 ∈ [28]) (hb : 0 ≤ b ∧ b ≤ 14) (ht : 0 ≤ t ∧ t ≤ 400) (hFa1 : 0 ≤ Fa1.1 ∧ Fa1.2 ≤ 12) (hFb1 : 0 ≤ Fb1.1 ∧ Fb1.2 ≤ 14) (hFa2 : 0 ≤ Fa2.1 ∧ Fa2.2 ≤ 12) (hFa3 : 0 ≤ Fa3.1 ∧ Fa3.2 ≤ 12) (hFb3 : 0 ≤ Fb3.1 ∧ Fb3.2 ≤ 14) (hFa4 : 0 ≤ Fa4.1 ∧ Fa4.2 ≤ 12) (hFb4 : 0 ≤ Fb4.1 ∧ Fb4.2 ≤ 14) (hks : ∀ t ∈ ks, t ∈ [26, 27]) (hPd1 : ∀ f, Pd1 f → ivP 12 (-2) 11 f) (hPd2 : ∀ f, Pd2 f → ivP 12 (-2) 11 f) (hPd3 : ∀ f, Pd3 f → ivP 12 (-2) 11 f) (hPd4 : ∀ f, Pd4 f → ivP 12 (-2) 11 f) (hPs1 : ∀ f, Ps1 f → ivP 12 (-2147483648) 2147483647 f) (hPs2 : ∀ f, Ps2 f → ivP 12 (-2147483648) 2147483647 f) (hPs3 : ∀ f, Ps3 f → ivP 12 (-2147483648) 2147483647 f) (hPs4 : ∀ f, Ps4 f → ivP 12 (-2147483648) 2147483647 f) (hPi1 : ∀ f, Pi1 f → ivP 48 (-2147483648) 2147483647 f) (hPi2 : ∀ f, Pi2 f → ivP 48 (-2147483648) 2147483647 f) (hPi3 : ∀ f, Pi3 f → ivP 48 (-2147483648) 2147483647 f) (hPi4 : ∀ f, Pi4 f → ivP 48 (-2147483648) 2147483647 f) : TcI E yX6_areTwoRights cX6_areTwoRights 3 .boolean ({ frames := 2, cells := 0, slots := 0, locals := 61 }) [.ref a0, .int a1, .int a2] (fun H => TH E (tbC (dayD (.inl (0, 18))) (dayD (.inl (0, 18))) (riverD (.inl Fa1) (.inl Fb1) (.inl (0, 4)) 31 33 35 39 43 47) (riverD (.inl Fa2) (.inl (b, b)) (.inl (0, 4)) 32 34 36 40 44 48) (rcD (.inl (t, t)) (.inr [27]) (.inr ks) (.inl kb)) rd tp A14F A14F A4F A4F A14F A14F (riverD (.inl Fa3) (.inl Fb3) (.inl (0, 4)) 3 8 3 41 45 49) (riverD (.inl Fa4) (.inl Fb4) (.inl (0, 4)) 3 8 3 42 46 50) ((.inr (.inl (0, 12, Pd1)))) ((.inr (.inl (0, 12, Pd2)))) ((.inr (.inl (0, 12, Pd3)))) ((.inr (.inl (0, 12, Pd4)))) ((.inr (.inl (0, 12, Ps1)))) ((.inr (.inl (0, 12, Ps2)))) ((.inr (.inl (0, 12, Ps3)))) ((.inr (.inl (0, 12, Ps4)))) ((.inr (.inl (0, 48, Pi1)))) ((.inr (.inl (0, 48, Pi2)))) ((.inr (.inl (0, 48, Pi3)))) ((.inr (.inl (0, 48, Pi4))))) H) (fun v H => (0 ≤ v.toInt ∧ v.toInt ≤ 1) ∧ (v.toInt = 1 → 0 ≤ a1.toInt ∧ a1.toInt ≤ 13) ∧ (v.toInt = 1 → 0 ≤ a2.toInt ∧ a2.toInt ≤ 13) ∧ ((v.toInt = 1 ∧ 0 ≤ a1.toInt ∧ a1.toInt < b ∧ 0 ≤ a2.toInt ∧ a2.toInt < b ∧ a1.toInt ≠ a2.toInt) ∨ (v.toInt = 0 ∧ ¬ (0 ≤ a1.toInt ∧ a1.toInt < b ∧ 0 ≤ a2.toInt ∧ a2.toInt < b ∧ a1.toInt ≠ a2.toInt))) ∧ TH E (tbC (dayD (.inl (0, 18))) (dayD (.inl (0, 18))) (riverD (.inl Fa1) (.inl Fb1) (.inl (0, 4)) 31 33 35 39 43 47) (riverD (.inl Fa2) (.inl (b, b)) (.inl (0, 4)) 32 34 36 40 44 48) (rcD (.inl (t, t)) (.inr [27]) (.inr ks) (.inl kb)) rd tp A14F A14F A4F A4F A14F A14F (riverD (.inl Fa3) (.inl Fb3) (.inl (0, 4)) 3 8 3 41 45 49) (riverD (.inl Fa4) (.inl Fb4) (.inl (0, 4)) 3 8 3 42 46 50) ((.inr (.inl (0, 12, Pd1)))) ((.inr (.inl (0, 12, Pd2)))) ((.inr (.inl (0, 12, Pd3)))) ((.inr (.inl (0, 12, Pd4)))) ((.inr (.inl (0, 12, Ps1)))) ((.inr (.inl (0, 12, Ps2)))) ((.inr (.inl (0, 12, Ps3)))) ((.inr (.inl (0, 12, Ps4)))) ((.inr (.inl (0, 48, Pi1)))) ((.inr (.inl (0, 48, Pi2)))) ((.inr (.inl (0, 48, Pi3)))) ((.inr (.inl (0, 48, Pi4))))) H) := by
  refine teI (by decide) (Nat.le_of_ble_eq_true rfl) ?_
  intro p_ ev_ s mi_ below_ meth cd_ ls F hK hN hO hH hS hl
  have hH : TH E (tbC (dayD (.inl (0, 18))) (dayD (.inl (0, 18))) (riverD (.inl Fa1) (.inl Fb1) (.inl (0, 4)) 31 33 35 39 43 47) (riverD (.inl Fa2) (.inl (b, b)) (.inl (0, 4)) 32 34 36 40 44 48) (rcD (.inl (t, t)) (.inr [27]) (.inr ks) (.inl kb)) rd tp A14F A14F A4F A4F A14F A14F (riverD (.inl Fa3) (.inl Fb3) (.inl (0, 4)) 3 8 3 41 45 49) (riverD (.inl Fa4) (.inl Fb4) (.inl (0, 4)) 3 8 3 42 46 50) ((.inr (.inl (0, 12, Pd1)))) ((.inr (.inl (0, 12, Pd2)))) ((.inr (.inl (0, 12, Pd3)))) ((.inr (.inl (0, 12, Pd4)))) ((.inr (.inl (0, 12, Ps1)))) ((.inr (.inl (0, 12, Ps2)))) ((.inr (.inl (0, 12, Ps3)))) ((.inr (.inl (0, 12, Ps4)))) ((.inr (.inl (0, 48, Pi1)))) ((.inr (.inl (0, 48, Pi2)))) ((.inr (.inl (0, 48, Pi3)))) ((.inr (.inl (0, 48, Pi4))))) s.heap := hH
  have hl : lv_has ls 3 [(0, .ref a0), (1, .int a1), (2, .int a2)] := hl
  refine lv_aload_n F.1 F.2.1 dX6_areTwoRights_0 rfl (lv_at hl 0 rfl) ?_
  refine lv_iload_n F.1 F.2.1 dX6_areTwoRights_1 rfl (lv_at hl 1 rfl) ?_
  refine tVi (b := a0) (As := [.int a1]) (rest := []) F hK hN hO (c_X6_isRight_2 E rd tp kb Fa1 Fb1 Fa2 Fa3 Fb3 Fa4 Fb4 ks Pd1 Pd2 Pd3 Pd4 Ps1 Ps2 Ps3 Ps4 Pi1 Pi2 Pi3 Pi4 b t a0 a1 ha0 (by omega) (by omega) hFa1 hFb1 hFa2 hFa3 hFb3 hFa4 hFb4 hks hPd1 hPd2 hPd3 hPd4 hPs1 hPs2 hPs3 hPs4 hPi1 hPi2 hPi3 hPi4) mv_X6_isRight wd_31_10 ⟨Nat.le_of_ble_eq_true rfl, Nat.le_of_ble_eq_true rfl⟩ ⟨Nat.le_of_ble_eq_true rfl, Nat.le_of_ble_eq_true rfl⟩ hH hS (tRecv hK hH (tyb ha0 (all1 rfl)) clX6) rfl hl.1 (Nat.le_of_ble_eq_true rfl) dX6_areTwoRights_2 (fun z_1 H locs hq hS => ?_)
  obtain ⟨f_2, f_3, f_4, hH⟩ := hq
  have hH : TH E (tbC (dayD (.inl (0, 18))) (dayD (.inl (0, 18))) (riverD (.inl Fa1) (.inl Fb1) (.inl (0, 4)) 31 33 35 39 43 47) (riverD (.inl Fa2) (.inl (b, b)) (.inl (0, 4)) 32 34 36 40 44 48) (rcD (.inl (t, t)) (.inr [27]) (.inr ks) (.inl kb)) rd tp A14F A14F A4F A4F A14F A14F (riverD (.inl Fa3) (.inl Fb3) (.inl (0, 4)) 3 8 3 41 45 49) (riverD (.inl Fa4) (.inl Fb4) (.inl (0, 4)) 3 8 3 42 46 50) ((.inr (.inl (0, 12, Pd1)))) ((.inr (.inl (0, 12, Pd2)))) ((.inr (.inl (0, 12, Pd3)))) ((.inr (.inl (0, 12, Pd4)))) ((.inr (.inl (0, 12, Ps1)))) ((.inr (.inl (0, 12, Ps2)))) ((.inr (.inl (0, 12, Ps3)))) ((.inr (.inl (0, 12, Ps4)))) ((.inr (.inl (0, 48, Pi1)))) ((.inr (.inl (0, 48, Pi2)))) ((.inr (.inl (0, 48, Pi3)))) ((.inr (.inl (0, 48, Pi4))))) H := hH
  refine z_eq (tgt := 25) F dX6_areTwoRights_5 (by decide) (fun c_5 => ?_) (fun c_5 => ?_)
  · skip
    have r_6 : 0 ≤ z_1.toInt ∧ z_1.toInt ≤ 0 := by have h9_ := f_2; omega
    refine lv_iconst (v := 0) F.1 F.2.1 dX6_areTwoRights_25 (by decide) ?_
    refine topK (a := 0) (by decide) (fun k_9 hk_9 => ?_)
    exact txI F hS dX6_areTwoRights_26 (nar01 (wkb (eqb hk_9) rfl rfl)) (⟨(wkb (eqb hk_9) rfl rfl), (by omega), (by omega), (by omega), hH⟩)
  · skip
    have r_7 : 1 ≤ z_1.toInt ∧ z_1.toInt ≤ 1 := by have h9_ := f_2; omega
    have r_8 : 0 ≤ a1.toInt ∧ a1.toInt ≤ 13 := by have h9_ := (i32b a1); omega
    refine lv_aload_n F.1 F.2.1 dX6_areTwoRights_8 rfl (lv_at hl 0 rfl) ?_
    refine lv_iload_n F.1 F.2.1 dX6_areTwoRights_9 rfl (lv_at hl 2 rfl) ?_
    refine tVi (b := a0) (As := [.int a2]) (rest := []) F hK hN hO (c_X6_isRight_2 E rd tp kb Fa1 Fb1 Fa2 Fa3 Fb3 Fa4 Fb4 ks Pd1 Pd2 Pd3 Pd4 Ps1 Ps2 Ps3 Ps4 Pi1 Pi2 Pi3 Pi4 b t a0 a2 ha0 (by omega) (by omega) hFa1 hFb1 hFa2 hFa3 hFb3 hFa4 hFb4 hks hPd1 hPd2 hPd3 hPd4 hPs1 hPs2 hPs3 hPs4 hPi1 hPi2 hPi3 hPi4) mv_X6_isRight wd_31_10 ⟨Nat.le_of_ble_eq_true rfl, Nat.le_of_ble_eq_true rfl⟩ ⟨Nat.le_of_ble_eq_true rfl, Nat.le_of_ble_eq_true rfl⟩ hH hS (tRecv hK hH (tyb ha0 (all1 rfl)) clX6) rfl hl.1 (Nat.le_of_ble_eq_true rfl) dX6_areTwoRights_10 (fun z_10 H locs hq hS => ?_)
    obtain ⟨f_11, f_12, f_13, hH⟩ := hq
    have hH : TH E (tbC (dayD (.inl (0, 18))) (dayD (.inl (0, 18))) (riverD (.inl Fa1) (.inl Fb1) (.inl (0, 4)) 31 33 35 39 43 47) (riverD (.inl Fa2) (.inl (b, b)) (.inl (0, 4)) 32 34 36 40 44 48) (rcD (.inl (t, t)) (.inr [27]) (.inr ks) (.inl kb)) rd tp A14F A14F A4F A4F A14F A14F (riverD (.inl Fa3) (.inl Fb3) (.inl (0, 4)) 3 8 3 41 45 49) (riverD (.inl Fa4) (.inl Fb4) (.inl (0, 4)) 3 8 3 42 46 50) ((.inr (.inl (0, 12, Pd1)))) ((.inr (.inl (0, 12, Pd2)))) ((.inr (.inl (0, 12, Pd3)))) ((.inr (.inl (0, 12, Pd4)))) ((.inr (.inl (0, 12, Ps1)))) ((.inr (.inl (0, 12, Ps2)))) ((.inr (.inl (0, 12, Ps3)))) ((.inr (.inl (0, 12, Ps4)))) ((.inr (.inl (0, 48, Pi1)))) ((.inr (.inl (0, 48, Pi2)))) ((.inr (.inl (0, 48, Pi3)))) ((.inr (.inl (0, 48, Pi4))))) H := hH
    refine z_eq (tgt := 25) F dX6_areTwoRights_13 (by decide) (fun c_14 => ?_) (fun c_14 => ?_)
    · skip
      have r_15 : 0 ≤ z_10.toInt ∧ z_10.toInt ≤ 0 := by have h9_ := f_11; omega
      refine lv_iconst (v := 0) F.1 F.2.1 dX6_areTwoRights_25 (by decide) ?_
      refine topK (a := 0) (by decide) (fun k_18 hk_18 => ?_)
      exact txI F hS dX6_areTwoRights_26 (nar01 (wkb (eqb hk_18) rfl rfl)) (⟨(wkb (eqb hk_18) rfl rfl), (by omega), (by omega), (by omega), hH⟩)
    · skip
      have r_16 : 1 ≤ z_10.toInt ∧ z_10.toInt ≤ 1 := by have h9_ := f_11; omega
      have r_17 : 0 ≤ a2.toInt ∧ a2.toInt ≤ 13 := by have h9_ := (i32b a2); omega
      refine lv_iload_n F.1 F.2.1 dX6_areTwoRights_16 rfl (lv_at hl 1 rfl) ?_
      refine lv_iload_n F.1 F.2.1 dX6_areTwoRights_17 rfl (lv_at hl 2 rfl) ?_
      refine b_eq (tgt := 25) F dX6_areTwoRights_18 (by decide) (fun c_19 => ?_) (fun c_19 => ?_)
      · skip
        refine lv_iconst (v := 0) F.1 F.2.1 dX6_areTwoRights_25 (by decide) ?_
        refine topK (a := 0) (by decide) (fun k_20 hk_20 => ?_)
        exact txI F hS dX6_areTwoRights_26 (nar01 (wkb (eqb hk_20) rfl rfl)) (⟨(wkb (eqb hk_20) rfl rfl), (by omega), (by omega), (by omega), hH⟩)
      · skip
        refine lv_iconst (v := 1) F.1 F.2.1 dX6_areTwoRights_21 (by decide) ?_
        refine topK (a := 1) (by decide) (fun k_21 hk_21 => ?_)
        refine lv_goto (tgt := 26) F.1 F.2.1 dX6_areTwoRights_22 (by decide) ?_
        exact txI F hS dX6_areTwoRights_26 (nar01 (wkb (eqb hk_21) rfl rfl)) (⟨(wkb (eqb hk_21) rfl rfl), (by omega), (by omega), (by omega), hH⟩)
set_option maxHeartbeats 4000000 in
set_option maxRecDepth 100000 in
theorem c_X6_isSpan (E : Ev) (dA : TD) (dB : TD) (rA : TD) (rB : TD) (rc : TD) (rd : TD) (tp : TD) (ya : TD) (yb : TD) (yc : TD) (yd : TD) (ye : TD) (yf : TD) (rC : TD) (rD : TD) (wd1 : TD) (wd2 : TD) (wd3 : TD) (wd4 : TD) (ws1 : TD) (ws2 : TD) (ws3 : TD) (ws4 : TD) (wi1 : TD) (wi2 : TD) (wi3 : TD) (wi4 : TD) (a0 : Int32) : TcI E yX6_isSpan cX6_isSpan 1 .boolean ({ frames := 1, cells := 0, slots := 0, locals := 40 }) [.int a0] (fun H => TH E (tbC dA dB rA rB rc rd tp ya yb yc yd ye yf rC rD wd1 wd2 wd3 wd4 ws1 ws2 ws3 ws4 wi1 wi2 wi3 wi4) H) (fun v H => (0 ≤ v.toInt ∧ v.toInt ≤ 1) ∧ (v.toInt = 1 → 1 ≤ a0.toInt ∧ a0.toInt ≤ 360) ∧ TH E (tbC dA dB rA rB rc rd tp ya yb yc yd ye yf rC rD wd1 wd2 wd3 wd4 ws1 ws2 ws3 ws4 wi1 wi2 wi3 wi4) H) := by
  refine teI (by decide) (Nat.le_of_ble_eq_true rfl) ?_
  intro p_ ev_ s mi_ below_ meth cd_ ls F hK hN hO hH hS hl
  have hH : TH E (tbC dA dB rA rB rc rd tp ya yb yc yd ye yf rC rD wd1 wd2 wd3 wd4 ws1 ws2 ws3 ws4 wi1 wi2 wi3 wi4) s.heap := hH
  have hl : lv_has ls 1 [(0, .int a0)] := hl
  refine lv_iload_n F.1 F.2.1 dX6_isSpan_0 rfl (lv_at hl 0 rfl) ?_
  refine lv_iconst (v := 1) F.1 F.2.1 dX6_isSpan_1 (by decide) ?_
  refine topK (a := 1) (by decide) (fun k_1 hk_1 => ?_)
  refine b_lt (tgt := 16) F dX6_isSpan_2 (by decide) (fun c_2 => ?_) (fun c_2 => ?_)
  · skip
    have r_3 : (-2147483648) ≤ a0.toInt ∧ a0.toInt ≤ 0 := by have h9_ := (i32b a0); omega
    refine lv_iconst (v := 0) F.1 F.2.1 dX6_isSpan_16 (by decide) ?_
    refine topK (a := 0) (by decide) (fun k_5 hk_5 => ?_)
    exact txI F hS dX6_isSpan_17 (nar01 (wkb (eqb hk_5) rfl rfl)) (⟨(wkb (eqb hk_5) rfl rfl), (by omega), hH⟩)
  · skip
    have r_4 : 1 ≤ a0.toInt ∧ a0.toInt ≤ 2147483647 := by have h9_ := (i32b a0); omega
    refine lv_iload_n F.1 F.2.1 dX6_isSpan_5 rfl (lv_at hl 0 rfl) ?_
    refine lv_sipush (v := 360) F.1 F.2.1 dX6_isSpan_6 (by decide) ?_
    refine topK (a := 360) (by decide) (fun k_6 hk_6 => ?_)
    refine b_gt (tgt := 16) F dX6_isSpan_9 (by decide) (fun c_7 => ?_) (fun c_7 => ?_)
    · skip
      have r_8 : 361 ≤ a0.toInt ∧ a0.toInt ≤ 2147483647 := by have h9_ := r_4; omega
      refine lv_iconst (v := 0) F.1 F.2.1 dX6_isSpan_16 (by decide) ?_
      refine topK (a := 0) (by decide) (fun k_10 hk_10 => ?_)
      exact txI F hS dX6_isSpan_17 (nar01 (wkb (eqb hk_10) rfl rfl)) (⟨(wkb (eqb hk_10) rfl rfl), (by omega), hH⟩)
    · skip
      have r_9 : 1 ≤ a0.toInt ∧ a0.toInt ≤ 360 := by have h9_ := r_4; omega
      refine lv_iconst (v := 1) F.1 F.2.1 dX6_isSpan_12 (by decide) ?_
      refine topK (a := 1) (by decide) (fun k_11 hk_11 => ?_)
      refine lv_goto (tgt := 17) F.1 F.2.1 dX6_isSpan_13 (by decide) ?_
      exact txI F hS dX6_isSpan_17 (nar01 (wkb (eqb hk_11) rfl rfl)) (⟨(wkb (eqb hk_11) rfl rfl), (by omega), hH⟩)
set_option maxHeartbeats 4000000 in
set_option maxRecDepth 100000 in
theorem c_X6_nameOf (E : Ev) (dA : TD) (dB : TD) (rA : TD) (rB : TD) (rc : TD) (rd : TD) (tp : TD) (ya : TD) (yb : TD) (yc : TD) (yd : TD) (ye : TD) (yf : TD) (rC : TD) (rD : TD) (wd1 : TD) (wd2 : TD) (wd3 : TD) (wd4 : TD) (ws1 : TD) (ws2 : TD) (ws3 : TD) (ws4 : TD) (wi1 : TD) (wi2 : TD) (wi3 : TD) (wi4 : TD) (a0 : Int32) : TcI E yX6_nameOf cX6_nameOf 1 .int ({ frames := 1, cells := 0, slots := 0, locals := 40 }) [.int a0] (fun H => TH E (tbC dA dB rA rB rc rd tp ya yb yc yd ye yf rC rD wd1 wd2 wd3 wd4 ws1 ws2 ws3 ws4 wi1 wi2 wi3 wi4) H) (fun v H => ((-2147483648) ≤ v.toInt ∧ v.toInt ≤ 2147483647) ∧ TH E (tbC dA dB rA rB rc rd tp ya yb yc yd ye yf rC rD wd1 wd2 wd3 wd4 ws1 ws2 ws3 ws4 wi1 wi2 wi3 wi4) H) := by
  refine teI (by decide) (Nat.le_of_ble_eq_true rfl) ?_
  intro p_ ev_ s mi_ below_ meth cd_ ls F hK hN hO hH hS hl
  have hH : TH E (tbC dA dB rA rB rc rd tp ya yb yc yd ye yf rC rD wd1 wd2 wd3 wd4 ws1 ws2 ws3 ws4 wi1 wi2 wi3 wi4) s.heap := hH
  have hl : lv_has ls 1 [(0, .int a0)] := hl
  refine lv_iload_n F.1 F.2.1 dX6_nameOf_0 rfl (lv_at hl 0 rfl) ?_
  refine lv_bipush (v := 14) F.1 F.2.1 dX6_nameOf_1 (by decide) ?_
  refine topK (a := 14) (by decide) (fun k_1 hk_1 => ?_)
  refine b_ge (tgt := 10) F dX6_nameOf_3 (by decide) (fun c_2 => ?_) (fun c_2 => ?_)
  · skip
    have r_3 : 14 ≤ a0.toInt ∧ a0.toInt ≤ 2147483647 := by have h9_ := (i32b a0); omega
    refine lv_bipush (v := 100) F.1 F.2.1 dX6_nameOf_10 (by decide) ?_
    refine topK (a := 100) (by decide) (fun k_5 hk_5 => ?_)
    refine lv_iload_n F.1 F.2.1 dX6_nameOf_12 rfl (lv_at hl 0 rfl) ?_
    refine lv_iadd F.1 F.2.1 dX6_nameOf_13 ?_
    refine topF (fun z_6 => ?_)
    refine lv_bipush (v := 14) F.1 F.2.1 dX6_nameOf_14 (by decide) ?_
    refine topK (a := 14) (by decide) (fun k_7 hk_7 => ?_)
    refine lv_isub F.1 F.2.1 dX6_nameOf_16 ?_
    refine topF (fun z_8 => ?_)
    exact txI F hS dX6_nameOf_17 rfl (⟨(i32b _), hH⟩)
  · skip
    have r_4 : (-2147483648) ≤ a0.toInt ∧ a0.toInt ≤ 13 := by have h9_ := (i32b a0); omega
    refine lv_iload_n F.1 F.2.1 dX6_nameOf_6 rfl (lv_at hl 0 rfl) ?_
    refine lv_goto (tgt := 17) F.1 F.2.1 dX6_nameOf_7 (by decide) ?_
    exact txI F hS dX6_nameOf_17 rfl (⟨(wkb r_4 rfl rfl), hH⟩)
set_option maxHeartbeats 4000000 in
set_option maxRecDepth 100000 in
theorem c_X6_thousandths (E : Ev) (dA : TD) (dB : TD) (rA : TD) (rB : TD) (rc : TD) (rd : TD) (tp : TD) (ya : TD) (yb : TD) (yc : TD) (yd : TD) (ye : TD) (yf : TD) (rC : TD) (rD : TD) (wd1 : TD) (wd2 : TD) (wd3 : TD) (wd4 : TD) (ws1 : TD) (ws2 : TD) (ws3 : TD) (ws4 : TD) (wi1 : TD) (wi2 : TD) (wi3 : TD) (wi4 : TD) (a0 : Int64) (a1 : Int64) : TcI E yX6_thousandths cX6_thousandths 4 .int ({ frames := 1, cells := 0, slots := 0, locals := 40 }) [.long a0, .long a1] (fun H => TH E (tbC dA dB rA rB rc rd tp ya yb yc yd ye yf rC rD wd1 wd2 wd3 wd4 ws1 ws2 ws3 ws4 wi1 wi2 wi3 wi4) H) (fun v H => ((-2147483648) ≤ v.toInt ∧ v.toInt ≤ 2147483647) ∧ TH E (tbC dA dB rA rB rc rd tp ya yb yc yd ye yf rC rD wd1 wd2 wd3 wd4 ws1 ws2 ws3 ws4 wi1 wi2 wi3 wi4) H) := by
  refine teI (by decide) (Nat.le_of_ble_eq_true rfl) ?_
  intro p_ ev_ s mi_ below_ meth cd_ ls F hK hN hO hH hS hl
  have hH : TH E (tbC dA dB rA rB rc rd tp ya yb yc yd ye yf rC rD wd1 wd2 wd3 wd4 ws1 ws2 ws3 ws4 wi1 wi2 wi3 wi4) s.heap := hH
  have hl : lv_has ls 4 [(0, .long a0), (2, .long a1)] := hl
  refine lv_lload_n F.1 F.2.1 dX6_thousandths_0 rfl (lv_at hl 1 rfl) ?_
  refine lv_lconst (v := 0) F.1 F.2.1 dX6_thousandths_1 (by decide) ?_
  refine topKL (a := 0) (by decide) (fun j_1 hj_1 => ?_)
  refine tLcmp F dX6_thousandths_2 (fun z_2 hz_2 => ?_)
  refine z_gt (tgt := 12) F dX6_thousandths_3 (by decide) (fun c_3 => ?_) (fun c_3 => ?_)
  · skip
    have r_4 : 1 ≤ z_2.toInt ∧ z_2.toInt ≤ 1 := by have h9_ := (by omega); omega
    refine lv_lload_n F.1 F.2.1 dX6_thousandths_12 rfl (lv_at hl 0 rfl) ?_
    refine lv_ldc2 (own := RX6) (v := 1000) F.1 F.2.1 F.2.2.2.2.1 (F.2.2.2.2.2.2.1 _ wd_59_19) dX6_thousandths_13 ?_
    refine topKL (a := 1000) (by decide) (fun j_6 hj_6 => ?_)
    refine lv_lmul F.1 F.2.1 dX6_thousandths_16 ?_
    refine topFL (fun w_7 => ?_)
    refine lv_lload_n F.1 F.2.1 dX6_thousandths_17 rfl (lv_at hl 1 rfl) ?_
    refine lv_ldiv F.1 F.2.1 dX6_thousandths_18 (l_ne0 (by omega)) ?_
    refine topFL (fun w_8 => ?_)
    refine lv_l2i F.1 F.2.1 dX6_thousandths_19 rfl ?_
    refine topF (fun z_9 => ?_)
    exact txI F hS dX6_thousandths_20 rfl (⟨(i32b _), hH⟩)
  · skip
    have r_5 : (-1) ≤ z_2.toInt ∧ z_2.toInt ≤ 0 := by have h9_ := (by omega); omega
    refine lv_sipush (v := 1000) F.1 F.2.1 dX6_thousandths_6 (by decide) ?_
    refine topK (a := 1000) (by decide) (fun k_10 hk_10 => ?_)
    refine lv_goto (tgt := 20) F.1 F.2.1 dX6_thousandths_9 (by decide) ?_
    exact txI F hS dX6_thousandths_20 rfl (⟨(wkb (eqb hk_10) rfl rfl), hH⟩)
set_option maxHeartbeats 4000000 in
set_option maxRecDepth 100000 in
theorem c_X6_countTold_4 (E : Ev) (dA : TD) (dB : TD) (rA : TD) (rB : TD) (rc : TD) (rd : TD) (tp : TD) (ya : TD) (yb : TD) (yc : TD) (yd : TD) (ye : TD) (yf : TD) (rC : TD) (rD : TD) (wd1 : TD) (wd2 : TD) (wd3 : TD) (wd4 : TD) (ws1 : TD) (ws2 : TD) (ws3 : TD) (ws4 : TD) (wi1 : TD) (wi2 : TD) (wi3 : TD) (wi4 : TD) (a0 : Nat) (a1 : Int32) (ha0 : eT E a0 ∈ [10]) : TcI E yX6_countTold cX6_countTold 4 .int ({ frames := 1, cells := 0, slots := 0, locals := 40 }) [.ref a0, .int a1] (fun H => TH E (tbC dA dB rA rB rc rd tp ya yb yc yd ye yf rC rD wd1 wd2 wd3 wd4 ws1 ws2 ws3 ws4 wi1 wi2 wi3 wi4) H) (fun v H => ((-2147483648) ≤ v.toInt ∧ v.toInt ≤ 2147483647) ∧ TH E (tbC dA dB rA rB rc rd tp ya yb yc yd ye yf rC rD wd1 wd2 wd3 wd4 ws1 ws2 ws3 ws4 wi1 wi2 wi3 wi4) H) := by
  refine teI (by decide) (Nat.le_of_ble_eq_true rfl) ?_
  intro p_ ev_ s mi_ below_ meth cd_ ls F hK hN hO hH hS hl
  have hH : TH E (tbC dA dB rA rB rc rd tp ya yb yc yd ye yf rC rD wd1 wd2 wd3 wd4 ws1 ws2 ws3 ws4 wi1 wi2 wi3 wi4) s.heap := hH
  have hl : lv_has ls 4 [(0, .ref a0), (1, .int a1)] := hl
  refine lv_iconst (v := 0) F.1 F.2.1 dX6_countTold_0 (by decide) ?_
  refine topK (a := 0) (by decide) (fun k_1 hk_1 => ?_)
  refine lv_istore_n (lv' := [(2, .int k_1), (0, .ref a0), (1, .int a1)]) F.1 F.2.1 dX6_countTold_1 rfl hl (by decide) rfl (fun ls hl => ?_)
  refine lv_iconst (v := 0) F.1 F.2.1 dX6_countTold_2 (by decide) ?_
  refine topK (a := 0) (by decide) (fun k_2 hk_2 => ?_)
  refine lv_istore_n (lv' := [(3, .int k_2), (2, .int k_1), (0, .ref a0), (1, .int a1)]) F.1 F.2.1 dX6_countTold_3 rfl hl (by decide) rfl (fun ls hl => ?_)
  refine wloop (σ := Int32 × Int32) (fun n9 x9 H locs ls => (4 - x9.2.toInt + 1).toNat < n9 ∧ (0 ≤ x9.2.toInt ∧ x9.2.toInt ≤ 4) ∧ TH E (tbC dA dB rA rB rc rd tp ya yb yc yd ye yf rC rD wd1 wd2 wd3 wd4 ws1 ws2 ws3 ws4 wi1 wi2 wi3 wi4) H ∧ va_S (eA E s.heap.size) s.heap H locs ∧ lv_has ls 4 [(0, .ref a0), (1, .int a1), (2, .int x9.1), (3, .int x9.2)]) ?_ (fun x9 H locs ls h => absurd h.1 (Nat.not_lt_zero _)) _ (k_1, k_2) ⟨Nat.lt_succ_self _, (wkb (eqb hk_2) rfl rfl), hH, hS, lv_sub hl [2, 3, 1, 0] rfl⟩
  intro n_4 ih_4 ⟨u_3, u_4⟩ H locs ls ⟨hm_4, hu_4, hH, hS, hl⟩
  have hm_4 : (4 - u_4.toInt + 1).toNat < n_4 + 1 := hm_4
  have hu_4 : (0 ≤ u_4.toInt ∧ u_4.toInt ≤ 4) := hu_4
  have hH : TH E (tbC dA dB rA rB rc rd tp ya yb yc yd ye yf rC rD wd1 wd2 wd3 wd4 ws1 ws2 ws3 ws4 wi1 wi2 wi3 wi4) H := hH
  have hl : lv_has ls 4 [(0, .ref a0), (1, .int a1), (2, .int u_3), (3, .int u_4)] := hl
  refine lv_iload_n F.1 F.2.1 dX6_countTold_4 rfl (lv_at hl 3 rfl) ?_
  refine lv_iload_n F.1 F.2.1 dX6_countTold_5 rfl (lv_at hl 1 rfl) ?_
  refine b_ge (tgt := 30) F dX6_countTold_6 (by decide) (fun c_5 => ?_) (fun c_5 => ?_)
  · skip
    have r_6 : (-2147483648) ≤ a1.toInt ∧ a1.toInt ≤ 4 := by have h9_ := (i32b a1); omega
    refine lv_iload_n F.1 F.2.1 dX6_countTold_30 rfl (lv_at hl 2 rfl) ?_
    exact txI F hS dX6_countTold_31 rfl (⟨(i32b _), hH⟩)
  · skip
    have r_7 : 1 ≤ a1.toInt ∧ a1.toInt ≤ 2147483647 := by have h9_ := (i32b a1); omega
    refine lv_iload_n F.1 F.2.1 dX6_countTold_9 rfl (lv_at hl 3 rfl) ?_
    refine lv_aload_n F.1 F.2.1 dX6_countTold_10 rfl (lv_at hl 0 rfl) ?_
    refine tAlen (v := 4) F hK hH (tyb ha0 (all1 rfl)) rfl (by decide) dX6_countTold_11 ?_
    refine topK (a := 4) (by decide) (fun k_8 hk_8 => ?_)
    refine b_ge (tgt := 30) F dX6_countTold_12 (by decide) (fun c_9 => ?_) (fun c_9 => ?_)
    · skip
      have r_10 : 4 ≤ u_4.toInt ∧ u_4.toInt ≤ 4 := by have h9_ := hu_4; omega
      refine lv_iload_n F.1 F.2.1 dX6_countTold_30 rfl (lv_at hl 2 rfl) ?_
      exact txI F hS dX6_countTold_31 rfl (⟨(i32b _), hH⟩)
    · skip
      have r_11 : 0 ≤ u_4.toInt ∧ u_4.toInt ≤ 3 := by have h9_ := hu_4; omega
      refine lv_aload_n F.1 F.2.1 dX6_countTold_15 rfl (lv_at hl 0 rfl) ?_
      refine lv_iload_n F.1 F.2.1 dX6_countTold_16 rfl (lv_at hl 3 rfl) ?_
      refine tIaldB F hK hH (tyb ha0 (all1 rfl)) (ixb (n := 4) r_11 rfl rfl) dX6_countTold_17 (fun z_12 hz_12 => ?_)
      refine z_lt (tgt := 24) F dX6_countTold_18 (by decide) (fun c_13 => ?_) (fun c_13 => ?_)
      · skip
        have r_14 : (-2) ≤ z_12.toInt ∧ z_12.toInt ≤ (-1) := by have h9_ := hz_12; omega
        obtain ⟨x_16, ex_16, hx_16⟩ := iincB (c := 1) (lo := 1) (hi := 4) r_11 rfl
        refine lv_iinc (v := x_16) (lv' := [(3, .int x_16), (0, .ref a0), (1, .int a1), (2, .int u_3)]) F.1 F.2.1 dX6_countTold_24 hl (k := 3) rfl ex_16 (by decide) rfl (fun ls hl => ?_)
        refine lv_goto (tgt := 4) F.1 F.2.1 dX6_countTold_27 (by decide) ?_
        exact ih_4 (u_3, x_16) _ _ _ ⟨(show (4 - x_16.toInt + 1).toNat < n_4 from by omega), (wkb hx_16.2 rfl rfl), hH, hS, lv_sub hl [1, 2, 3, 0] rfl⟩
      · skip
        have r_15 : 0 ≤ z_12.toInt ∧ z_12.toInt ≤ 13 := by have h9_ := hz_12; omega
        obtain ⟨x_17, ex_17⟩ := iincF u_3 1
        refine lv_iinc (v := x_17) (lv' := [(2, .int x_17), (0, .ref a0), (1, .int a1), (3, .int u_4)]) F.1 F.2.1 dX6_countTold_21 hl (k := 2) rfl ex_17 (by decide) rfl (fun ls hl => ?_)
        obtain ⟨x_18, ex_18, hx_18⟩ := iincB (c := 1) (lo := 1) (hi := 4) r_11 rfl
        refine lv_iinc (v := x_18) (lv' := [(3, .int x_18), (2, .int x_17), (0, .ref a0), (1, .int a1)]) F.1 F.2.1 dX6_countTold_24 hl (k := 3) rfl ex_18 (by decide) rfl (fun ls hl => ?_)
        refine lv_goto (tgt := 4) F.1 F.2.1 dX6_countTold_27 (by decide) ?_
        exact ih_4 (x_17, x_18) _ _ _ ⟨(show (4 - x_18.toInt + 1).toNat < n_4 from by omega), (wkb hx_18.2 rfl rfl), hH, hS, lv_sub hl [2, 3, 1, 0] rfl⟩
set_option maxHeartbeats 4000000 in
set_option maxRecDepth 100000 in
theorem c_X6_countTold_14 (E : Ev) (dA : TD) (dB : TD) (rA : TD) (rB : TD) (rc : TD) (rd : TD) (tp : TD) (ya : TD) (yb : TD) (yc : TD) (yd : TD) (ye : TD) (yf : TD) (rC : TD) (rD : TD) (wd1 : TD) (wd2 : TD) (wd3 : TD) (wd4 : TD) (ws1 : TD) (ws2 : TD) (ws3 : TD) (ws4 : TD) (wi1 : TD) (wi2 : TD) (wi3 : TD) (wi4 : TD) (a0 : Nat) (a1 : Int32) (ha0 : eT E a0 ∈ [7]) : TcI E yX6_countTold cX6_countTold 4 .int ({ frames := 1, cells := 0, slots := 0, locals := 40 }) [.ref a0, .int a1] (fun H => TH E (tbC dA dB rA rB rc rd tp ya yb yc yd ye yf rC rD wd1 wd2 wd3 wd4 ws1 ws2 ws3 ws4 wi1 wi2 wi3 wi4) H) (fun v H => ((-2147483648) ≤ v.toInt ∧ v.toInt ≤ 2147483647) ∧ TH E (tbC dA dB rA rB rc rd tp ya yb yc yd ye yf rC rD wd1 wd2 wd3 wd4 ws1 ws2 ws3 ws4 wi1 wi2 wi3 wi4) H) := by
  refine teI (by decide) (Nat.le_of_ble_eq_true rfl) ?_
  intro p_ ev_ s mi_ below_ meth cd_ ls F hK hN hO hH hS hl
  have hH : TH E (tbC dA dB rA rB rc rd tp ya yb yc yd ye yf rC rD wd1 wd2 wd3 wd4 ws1 ws2 ws3 ws4 wi1 wi2 wi3 wi4) s.heap := hH
  have hl : lv_has ls 4 [(0, .ref a0), (1, .int a1)] := hl
  refine lv_iconst (v := 0) F.1 F.2.1 dX6_countTold_0 (by decide) ?_
  refine topK (a := 0) (by decide) (fun k_1 hk_1 => ?_)
  refine lv_istore_n (lv' := [(2, .int k_1), (0, .ref a0), (1, .int a1)]) F.1 F.2.1 dX6_countTold_1 rfl hl (by decide) rfl (fun ls hl => ?_)
  refine lv_iconst (v := 0) F.1 F.2.1 dX6_countTold_2 (by decide) ?_
  refine topK (a := 0) (by decide) (fun k_2 hk_2 => ?_)
  refine lv_istore_n (lv' := [(3, .int k_2), (2, .int k_1), (0, .ref a0), (1, .int a1)]) F.1 F.2.1 dX6_countTold_3 rfl hl (by decide) rfl (fun ls hl => ?_)
  refine wloop (σ := Int32 × Int32) (fun n9 x9 H locs ls => (14 - x9.2.toInt + 1).toNat < n9 ∧ (0 ≤ x9.2.toInt ∧ x9.2.toInt ≤ 14) ∧ TH E (tbC dA dB rA rB rc rd tp ya yb yc yd ye yf rC rD wd1 wd2 wd3 wd4 ws1 ws2 ws3 ws4 wi1 wi2 wi3 wi4) H ∧ va_S (eA E s.heap.size) s.heap H locs ∧ lv_has ls 4 [(0, .ref a0), (1, .int a1), (2, .int x9.1), (3, .int x9.2)]) ?_ (fun x9 H locs ls h => absurd h.1 (Nat.not_lt_zero _)) _ (k_1, k_2) ⟨Nat.lt_succ_self _, (wkb (eqb hk_2) rfl rfl), hH, hS, lv_sub hl [2, 3, 1, 0] rfl⟩
  intro n_4 ih_4 ⟨u_3, u_4⟩ H locs ls ⟨hm_4, hu_4, hH, hS, hl⟩
  have hm_4 : (14 - u_4.toInt + 1).toNat < n_4 + 1 := hm_4
  have hu_4 : (0 ≤ u_4.toInt ∧ u_4.toInt ≤ 14) := hu_4
  have hH : TH E (tbC dA dB rA rB rc rd tp ya yb yc yd ye yf rC rD wd1 wd2 wd3 wd4 ws1 ws2 ws3 ws4 wi1 wi2 wi3 wi4) H := hH
  have hl : lv_has ls 4 [(0, .ref a0), (1, .int a1), (2, .int u_3), (3, .int u_4)] := hl
  refine lv_iload_n F.1 F.2.1 dX6_countTold_4 rfl (lv_at hl 3 rfl) ?_
  refine lv_iload_n F.1 F.2.1 dX6_countTold_5 rfl (lv_at hl 1 rfl) ?_
  refine b_ge (tgt := 30) F dX6_countTold_6 (by decide) (fun c_5 => ?_) (fun c_5 => ?_)
  · skip
    have r_6 : (-2147483648) ≤ a1.toInt ∧ a1.toInt ≤ 14 := by have h9_ := (i32b a1); omega
    refine lv_iload_n F.1 F.2.1 dX6_countTold_30 rfl (lv_at hl 2 rfl) ?_
    exact txI F hS dX6_countTold_31 rfl (⟨(i32b _), hH⟩)
  · skip
    have r_7 : 1 ≤ a1.toInt ∧ a1.toInt ≤ 2147483647 := by have h9_ := (i32b a1); omega
    refine lv_iload_n F.1 F.2.1 dX6_countTold_9 rfl (lv_at hl 3 rfl) ?_
    refine lv_aload_n F.1 F.2.1 dX6_countTold_10 rfl (lv_at hl 0 rfl) ?_
    refine tAlen (v := 14) F hK hH (tyb ha0 (all1 rfl)) rfl (by decide) dX6_countTold_11 ?_
    refine topK (a := 14) (by decide) (fun k_8 hk_8 => ?_)
    refine b_ge (tgt := 30) F dX6_countTold_12 (by decide) (fun c_9 => ?_) (fun c_9 => ?_)
    · skip
      have r_10 : 14 ≤ u_4.toInt ∧ u_4.toInt ≤ 14 := by have h9_ := hu_4; omega
      refine lv_iload_n F.1 F.2.1 dX6_countTold_30 rfl (lv_at hl 2 rfl) ?_
      exact txI F hS dX6_countTold_31 rfl (⟨(i32b _), hH⟩)
    · skip
      have r_11 : 0 ≤ u_4.toInt ∧ u_4.toInt ≤ 13 := by have h9_ := hu_4; omega
      refine lv_aload_n F.1 F.2.1 dX6_countTold_15 rfl (lv_at hl 0 rfl) ?_
      refine lv_iload_n F.1 F.2.1 dX6_countTold_16 rfl (lv_at hl 3 rfl) ?_
      refine tIaldB F hK hH (tyb ha0 (all1 rfl)) (ixb (n := 14) r_11 rfl rfl) dX6_countTold_17 (fun z_12 hz_12 => ?_)
      refine z_lt (tgt := 24) F dX6_countTold_18 (by decide) (fun c_13 => ?_) (fun c_13 => ?_)
      · skip
        have r_14 : (-2) ≤ z_12.toInt ∧ z_12.toInt ≤ (-1) := by have h9_ := hz_12; omega
        obtain ⟨x_16, ex_16, hx_16⟩ := iincB (c := 1) (lo := 1) (hi := 14) r_11 rfl
        refine lv_iinc (v := x_16) (lv' := [(3, .int x_16), (0, .ref a0), (1, .int a1), (2, .int u_3)]) F.1 F.2.1 dX6_countTold_24 hl (k := 3) rfl ex_16 (by decide) rfl (fun ls hl => ?_)
        refine lv_goto (tgt := 4) F.1 F.2.1 dX6_countTold_27 (by decide) ?_
        exact ih_4 (u_3, x_16) _ _ _ ⟨(show (14 - x_16.toInt + 1).toNat < n_4 from by omega), (wkb hx_16.2 rfl rfl), hH, hS, lv_sub hl [1, 2, 3, 0] rfl⟩
      · skip
        have r_15 : 0 ≤ z_12.toInt ∧ z_12.toInt ≤ 3 := by have h9_ := hz_12; omega
        obtain ⟨x_17, ex_17⟩ := iincF u_3 1
        refine lv_iinc (v := x_17) (lv' := [(2, .int x_17), (0, .ref a0), (1, .int a1), (3, .int u_4)]) F.1 F.2.1 dX6_countTold_21 hl (k := 2) rfl ex_17 (by decide) rfl (fun ls hl => ?_)
        obtain ⟨x_18, ex_18, hx_18⟩ := iincB (c := 1) (lo := 1) (hi := 14) r_11 rfl
        refine lv_iinc (v := x_18) (lv' := [(3, .int x_18), (2, .int x_17), (0, .ref a0), (1, .int a1)]) F.1 F.2.1 dX6_countTold_24 hl (k := 3) rfl ex_18 (by decide) rfl (fun ls hl => ?_)
        refine lv_goto (tgt := 4) F.1 F.2.1 dX6_countTold_27 (by decide) ?_
        exact ih_4 (x_17, x_18) _ _ _ ⟨(show (14 - x_18.toInt + 1).toNat < n_4 from by omega), (wkb hx_18.2 rfl rfl), hH, hS, lv_sub hl [2, 3, 1, 0] rfl⟩
set_option maxHeartbeats 4000000 in
set_option maxRecDepth 100000 in
theorem c_X6_remember (E : Ev) (rd : TD) (tp : TD) (kb : Int × Int) (Fa1 : Int × Int) (Fb1 : Int × Int) (Fa2 : Int × Int) (Fb2 : Int × Int) (Fa3 : Int × Int) (Fb3 : Int × Int) (Fa4 : Int × Int) (Fb4 : Int × Int) (kr : List Nat) (ks : List Nat) (Pd1 : (Nat → Int32) → Prop) (Pd2 : (Nat → Int32) → Prop) (Pd3 : (Nat → Int32) → Prop) (Pd4 : (Nat → Int32) → Prop) (Ps1 : (Nat → Int32) → Prop) (Ps2 : (Nat → Int32) → Prop) (Ps3 : (Nat → Int32) → Prop) (Ps4 : (Nat → Int32) → Prop) (Pi1 : (Nat → Int32) → Prop) (Pi2 : (Nat → Int32) → Prop) (Pi3 : (Nat → Int32) → Prop) (Pi4 : (Nat → Int32) → Prop) (t : Int) (a0 : Nat) (ha0 : eT E a0 ∈ [28]) (ht : 0 ≤ t ∧ t ≤ 400) (hFa1 : 0 ≤ Fa1.1 ∧ Fa1.2 ≤ 12) (hFb1 : 0 ≤ Fb1.1 ∧ Fb1.2 ≤ 14) (hFa2 : 0 ≤ Fa2.1 ∧ Fa2.2 ≤ 12) (hFb2 : 0 ≤ Fb2.1 ∧ Fb2.2 ≤ 14) (hFa3 : 0 ≤ Fa3.1 ∧ Fa3.2 ≤ 12) (hFb3 : 0 ≤ Fb3.1 ∧ Fb3.2 ≤ 14) (hFa4 : 0 ≤ Fa4.1 ∧ Fa4.2 ≤ 12) (hFb4 : 0 ≤ Fb4.1 ∧ Fb4.2 ≤ 14) (hkr : ∀ t ∈ kr, t ∈ [26, 27]) (hks : ∀ t ∈ ks, t ∈ [26, 27]) (hPd1 : ∀ f, Pd1 f → ivP 12 (-2) 11 f) (hPd2 : ∀ f, Pd2 f → ivP 12 (-2) 11 f) (hPd3 : ∀ f, Pd3 f → ivP 12 (-2) 11 f) (hPd4 : ∀ f, Pd4 f → ivP 12 (-2) 11 f) (hPs1 : ∀ f, Ps1 f → ivP 12 (-2147483648) 2147483647 f) (hPs2 : ∀ f, Ps2 f → ivP 12 (-2147483648) 2147483647 f) (hPs3 : ∀ f, Ps3 f → ivP 12 (-2147483648) 2147483647 f) (hPs4 : ∀ f, Ps4 f → ivP 12 (-2147483648) 2147483647 f) (hPi1 : ∀ f, Pi1 f → ivP 48 (-2147483648) 2147483647 f) (hPi2 : ∀ f, Pi2 f → ivP 48 (-2147483648) 2147483647 f) (hPi3 : ∀ f, Pi3 f → ivP 48 (-2147483648) 2147483647 f) (hPi4 : ∀ f, Pi4 f → ivP 48 (-2147483648) 2147483647 f) : TcV E yX6_remember cX6_remember 1 ({ frames := 3, cells := 0, slots := 0, locals := 82 }) [.ref a0] (fun H => TH E (tbC (dayD (.inl (0, 18))) (dayD (.inl (0, 18))) (riverD (.inl Fa1) (.inl Fb1) (.inl (0, 4)) 31 33 35 39 43 47) (riverD (.inl Fa2) (.inl Fb2) (.inl (0, 4)) 32 34 36 40 44 48) (rcD (.inl (t, t)) (.inr kr) (.inr ks) (.inl kb)) rd tp A14F A14F A4F A4F A14F A14F (riverD (.inl Fa3) (.inl Fb3) (.inl (0, 4)) 3 8 3 41 45 49) (riverD (.inl Fa4) (.inl Fb4) (.inl (0, 4)) 3 8 3 42 46 50) ((.inr (.inl (0, 12, Pd1)))) ((.inr (.inl (0, 12, Pd2)))) ((.inr (.inl (0, 12, Pd3)))) ((.inr (.inl (0, 12, Pd4)))) ((.inr (.inl (0, 12, Ps1)))) ((.inr (.inl (0, 12, Ps2)))) ((.inr (.inl (0, 12, Ps3)))) ((.inr (.inl (0, 12, Ps4)))) ((.inr (.inl (0, 48, Pi1)))) ((.inr (.inl (0, 48, Pi2)))) ((.inr (.inl (0, 48, Pi3)))) ((.inr (.inl (0, 48, Pi4))))) H) (fun H => TH E (tbC (dayD (.inl (0, 18))) (dayD (.inl (0, 18))) (riverD (.inl Fa1) (.inl Fb1) (.inl (0, 4)) 31 33 35 39 43 47) (riverD (.inl Fa2) (.inl Fb2) (.inl (0, 4)) 32 34 36 40 44 48) (rcD (.inl (t, t)) (.inr kr) (.inr ks) (.inl kb)) rd tp A14F A14F A4F A4F A14F A14F (riverD (.inl Fa3) (.inl Fb3) (.inl (0, 4)) 3 8 3 41 45 49) (riverD (.inl Fa4) (.inl Fb4) (.inl (0, 4)) 3 8 3 42 46 50) ((.inr (.inl (0, 12, Pd1)))) ((.inr (.inl (0, 12, Pd2)))) ((.inr (.inl (0, 12, Pd3)))) ((.inr (.inl (0, 12, Pd4)))) ((.inr (.inl (0, 12, Ps1)))) ((.inr (.inl (0, 12, Ps2)))) ((.inr (.inl (0, 12, Ps3)))) ((.inr (.inl (0, 12, Ps4)))) ((.inr (.inl (0, 48, Pi1)))) ((.inr (.inl (0, 48, Pi2)))) ((.inr (.inl (0, 48, Pi3)))) ((.inr (.inl (0, 48, Pi4))))) H) := by
  refine teV (by decide) (Nat.le_of_ble_eq_true rfl) ?_
  intro p_ ev_ s mi_ below_ meth cd_ ls F hK hN hO hH hS hl
  have hH : TH E (tbC (dayD (.inl (0, 18))) (dayD (.inl (0, 18))) (riverD (.inl Fa1) (.inl Fb1) (.inl (0, 4)) 31 33 35 39 43 47) (riverD (.inl Fa2) (.inl Fb2) (.inl (0, 4)) 32 34 36 40 44 48) (rcD (.inl (t, t)) (.inr kr) (.inr ks) (.inl kb)) rd tp A14F A14F A4F A4F A14F A14F (riverD (.inl Fa3) (.inl Fb3) (.inl (0, 4)) 3 8 3 41 45 49) (riverD (.inl Fa4) (.inl Fb4) (.inl (0, 4)) 3 8 3 42 46 50) ((.inr (.inl (0, 12, Pd1)))) ((.inr (.inl (0, 12, Pd2)))) ((.inr (.inl (0, 12, Pd3)))) ((.inr (.inl (0, 12, Pd4)))) ((.inr (.inl (0, 12, Ps1)))) ((.inr (.inl (0, 12, Ps2)))) ((.inr (.inl (0, 12, Ps3)))) ((.inr (.inl (0, 12, Ps4)))) ((.inr (.inl (0, 48, Pi1)))) ((.inr (.inl (0, 48, Pi2)))) ((.inr (.inl (0, 48, Pi3)))) ((.inr (.inl (0, 48, Pi4))))) s.heap := hH
  have hl : lv_has ls 1 [(0, .ref a0)] := hl
  refine lv_aload_n F.1 F.2.1 dX6_remember_0 rfl (lv_at hl 0 rfl) ?_
  refine tGetR (j := 5) F hK hH (tyb ha0 (all1 rfl)) rfl (all1 rfl) clX6 (by decide) wd_1_23 dX6_remember_1 (fun q_1 hq_1 _ => ?_)
  refine lv_aload_n F.1 F.2.1 dX6_remember_4 rfl (lv_at hl 0 rfl) ?_
  refine tGetI (j := 6) F hK hH (tyb ha0 (all1 rfl)) rfl clX6 (by decide) wd_19_17 dX6_remember_5 (fun z_2 hz_2 => ?_)
  refine tAald F hK hH (tyb hq_1 (all1 rfl)) rfl (all1 rfl) (ixb (n := 10) hz_2 rfl rfl) dX6_remember_8 (fun q_3 hq_3 _ => ?_)
  refine lv_aload_n F.1 F.2.1 dX6_remember_9 rfl (lv_at hl 0 rfl) ?_
  refine tGetR (j := 4) F hK hH (tyb ha0 (all1 rfl)) rfl (all1 rfl) clX6 (by decide) wd_1_22 dX6_remember_10 (fun q_4 hq_4 _ => ?_)
  refine tVv (b := q_3) (As := [.ref q_4]) (rest := []) F hK hN hO (c_X5_copyOf E (dayD (.inl (0, 18))) (dayD (.inl (0, 18))) (riverD (.inl Fa1) (.inl Fb1) (.inl (0, 4)) 31 33 35 39 43 47) (riverD (.inl Fa2) (.inl Fb2) (.inl (0, 4)) 32 34 36 40 44 48) (rcD (.inl (t, t)) (.inr kr) (.inr ks) (.inl kb)) rd tp A14F A14F A4F A4F A14F A14F (riverD (.inl Fa3) (.inl Fb3) (.inl (0, 4)) 3 8 3 41 45 49) (riverD (.inl Fa4) (.inl Fb4) (.inl (0, 4)) 3 8 3 42 46 50) ((.inr (.inl (0, 12, Pd1)))) ((.inr (.inl (0, 12, Pd2)))) ((.inr (.inl (0, 12, Pd3)))) ((.inr (.inl (0, 12, Pd4)))) ((.inr (.inl (0, 12, Ps1)))) ((.inr (.inl (0, 12, Ps2)))) ((.inr (.inl (0, 12, Ps3)))) ((.inr (.inl (0, 12, Ps4)))) ((.inr (.inl (0, 48, Pi1)))) ((.inr (.inl (0, 48, Pi2)))) ((.inr (.inl (0, 48, Pi3)))) ((.inr (.inl (0, 48, Pi4)))) q_3 q_4 hq_3 hq_4) mv_X5_copyOf wd_19_18 ⟨Nat.le_of_ble_eq_true rfl, Nat.le_of_ble_eq_true rfl⟩ ⟨Nat.le_of_ble_eq_true rfl, Nat.le_of_ble_eq_true rfl⟩ hH hS (tRecv hK hH (tyb hq_3 (all1 rfl)) clX5) rfl hl.1 (Nat.le_of_ble_eq_true rfl) dX6_remember_13 (fun H locs hq hS => ?_)
  have hH := hq
  have hH : TH E (tbC (dayD (.inl (0, 18))) (dayD (.inl (0, 18))) (riverD (.inl Fa1) (.inl Fb1) (.inl (0, 4)) 31 33 35 39 43 47) (riverD (.inl Fa2) (.inl Fb2) (.inl (0, 4)) 32 34 36 40 44 48) (rcD (.inl (t, t)) (.inr kr) (.inr ks) (.inl kb)) rd tp A14F A14F A4F A4F A14F A14F (riverD (.inl Fa3) (.inl Fb3) (.inl (0, 4)) 3 8 3 41 45 49) (riverD (.inl Fa4) (.inl Fb4) (.inl (0, 4)) 3 8 3 42 46 50) ((.inr (.inl (0, 12, Pd1)))) ((.inr (.inl (0, 12, Pd2)))) ((.inr (.inl (0, 12, Pd3)))) ((.inr (.inl (0, 12, Pd4)))) ((.inr (.inl (0, 12, Ps1)))) ((.inr (.inl (0, 12, Ps2)))) ((.inr (.inl (0, 12, Ps3)))) ((.inr (.inl (0, 12, Ps4)))) ((.inr (.inl (0, 48, Pi1)))) ((.inr (.inl (0, 48, Pi2)))) ((.inr (.inl (0, 48, Pi3)))) ((.inr (.inl (0, 48, Pi4))))) H := hH
  refine lv_aload_n F.1 F.2.1 dX6_remember_16 rfl (lv_at hl 0 rfl) ?_
  refine lv_aload_n F.1 F.2.1 dX6_remember_17 rfl (lv_at hl 0 rfl) ?_
  refine tGetI (j := 6) F hK hH (tyb ha0 (all1 rfl)) rfl clX6 (by decide) wd_19_17 dX6_remember_18 (fun z_6 hz_6 => ?_)
  refine lv_iconst (v := 1) F.1 F.2.1 dX6_remember_21 (by decide) ?_
  refine topK (a := 1) (by decide) (fun k_7 hk_7 => ?_)
  refine tAdd (lo := 1) (hi := 10) F dX6_remember_22 hz_6 (eqb hk_7) rfl (fun z_8 hz_8 => ?_)
  refine lv_bipush (v := 10) F.1 F.2.1 dX6_remember_23 (by decide) ?_
  refine topK (a := 10) (by decide) (fun k_9 hk_9 => ?_)
  refine tRem (k := 10) (hi := 9) F dX6_remember_25 hz_8.2 hk_9 rfl (fun z_10 hz_10 => ?_)
  refine tPut (j := 6) F hK hH hS (tyb ha0 (all1 rfl)) rfl (fdI hz_10.2) clX6 (by decide) wd_19_17 rfl rfl rfl rfl dX6_remember_26 (fun H locs hH hS => ?_)
  refine lv_aload_n F.1 F.2.1 dX6_remember_29 rfl (lv_at hl 0 rfl) ?_
  refine lv_aload_n F.1 F.2.1 dX6_remember_30 rfl (lv_at hl 0 rfl) ?_
  refine tGetI (j := 7) F hK hH (tyb ha0 (all1 rfl)) rfl clX6 (by decide) wd_8_17 dX6_remember_31 (fun z_11 hz_11 => ?_)
  refine lv_iconst (v := 1) F.1 F.2.1 dX6_remember_34 (by decide) ?_
  refine topK (a := 1) (by decide) (fun k_12 hk_12 => ?_)
  refine lv_iadd F.1 F.2.1 dX6_remember_35 ?_
  refine topF (fun z_13 => ?_)
  refine lv_bipush (v := 10) F.1 F.2.1 dX6_remember_36 (by decide) ?_
  refine topK (a := 10) (by decide) (fun k_14 hk_14 => ?_)
  refine tMin (lo := (-2147483648)) (hi := 10) F wd_15_5 wd_9_0 wd_9_1 wd_9_2 hl.1 (Nat.le_of_ble_eq_true rfl) (Nat.le_of_ble_eq_true rfl) (Nat.le_of_ble_eq_true rfl) (Nat.le_of_ble_eq_true rfl) dX6_remember_38 (i32b _) (eqb hk_14) rfl (fun z_15 hz_15 => ?_)
  refine tPut (j := 7) F hK hH hS (tyb ha0 (all1 rfl)) rfl (fdI (wkb hz_15.2 rfl rfl)) clX6 (by decide) wd_8_17 rfl rfl rfl rfl dX6_remember_41 (fun H locs hH hS => ?_)
  exact txV F hS dX6_remember_44 (hH)
set_option maxHeartbeats 4000000 in
set_option maxRecDepth 100000 in
theorem c_X6_look (E : Ev) (rd : TD) (tp : TD) (kb : Int × Int) (Fa1 : Int × Int) (Fb1 : Int × Int) (Fa2 : Int × Int) (Fb2 : Int × Int) (Fa3 : Int × Int) (Fb3 : Int × Int) (Fa4 : Int × Int) (Fb4 : Int × Int) (kr : List Nat) (ks : List Nat) (Pd1 : (Nat → Int32) → Prop) (Pd2 : (Nat → Int32) → Prop) (Pd3 : (Nat → Int32) → Prop) (Pd4 : (Nat → Int32) → Prop) (Ps1 : (Nat → Int32) → Prop) (Ps2 : (Nat → Int32) → Prop) (Ps3 : (Nat → Int32) → Prop) (Ps4 : (Nat → Int32) → Prop) (Pi1 : (Nat → Int32) → Prop) (Pi2 : (Nat → Int32) → Prop) (Pi3 : (Nat → Int32) → Prop) (Pi4 : (Nat → Int32) → Prop) (t : Int) (a0 : Nat) (ha0 : eT E a0 ∈ [28]) (ht : 0 ≤ t ∧ t ≤ 400) (hFa1 : 0 ≤ Fa1.1 ∧ Fa1.2 ≤ 12) (hFb1 : 0 ≤ Fb1.1 ∧ Fb1.2 ≤ 14) (hFa2 : 0 ≤ Fa2.1 ∧ Fa2.2 ≤ 12) (hFb2 : 0 ≤ Fb2.1 ∧ Fb2.2 ≤ 14) (hFa3 : 0 ≤ Fa3.1 ∧ Fa3.2 ≤ 12) (hFb3 : 0 ≤ Fb3.1 ∧ Fb3.2 ≤ 14) (hFa4 : 0 ≤ Fa4.1 ∧ Fa4.2 ≤ 12) (hFb4 : 0 ≤ Fb4.1 ∧ Fb4.2 ≤ 14) (hkr : ∀ t ∈ kr, t ∈ [26, 27]) (hks : ∀ t ∈ ks, t ∈ [26, 27]) (hPd1 : ∀ f, Pd1 f → ivP 12 (-2) 11 f) (hPd2 : ∀ f, Pd2 f → ivP 12 (-2) 11 f) (hPd3 : ∀ f, Pd3 f → ivP 12 (-2) 11 f) (hPd4 : ∀ f, Pd4 f → ivP 12 (-2) 11 f) (hPs1 : ∀ f, Ps1 f → ivP 12 (-2147483648) 2147483647 f) (hPs2 : ∀ f, Ps2 f → ivP 12 (-2147483648) 2147483647 f) (hPs3 : ∀ f, Ps3 f → ivP 12 (-2147483648) 2147483647 f) (hPs4 : ∀ f, Ps4 f → ivP 12 (-2147483648) 2147483647 f) (hPi1 : ∀ f, Pi1 f → ivP 48 (-2147483648) 2147483647 f) (hPi2 : ∀ f, Pi2 f → ivP 48 (-2147483648) 2147483647 f) (hPi3 : ∀ f, Pi3 f → ivP 48 (-2147483648) 2147483647 f) (hPi4 : ∀ f, Pi4 f → ivP 48 (-2147483648) 2147483647 f) : TcV E yX6_look cX6_look 1 ({ frames := 5, cells := 0, slots := 0, locals := 139 }) [.ref a0] (fun H => TH E (tbC (dayD (.inl (0, 18))) (dayD (.inl (0, 18))) (riverD (.inl Fa1) (.inl Fb1) (.inl (0, 4)) 31 33 35 39 43 47) (riverD (.inl Fa2) (.inl Fb2) (.inl (0, 4)) 32 34 36 40 44 48) (rcD (.inl (t, t)) (.inr kr) (.inr ks) (.inl kb)) rd tp A14F A14F A4F A4F A14F A14F (riverD (.inl Fa3) (.inl Fb3) (.inl (0, 4)) 3 8 3 41 45 49) (riverD (.inl Fa4) (.inl Fb4) (.inl (0, 4)) 3 8 3 42 46 50) ((.inr (.inl (0, 12, Pd1)))) ((.inr (.inl (0, 12, Pd2)))) ((.inr (.inl (0, 12, Pd3)))) ((.inr (.inl (0, 12, Pd4)))) ((.inr (.inl (0, 12, Ps1)))) ((.inr (.inl (0, 12, Ps2)))) ((.inr (.inl (0, 12, Ps3)))) ((.inr (.inl (0, 12, Ps4)))) ((.inr (.inl (0, 48, Pi1)))) ((.inr (.inl (0, 48, Pi2)))) ((.inr (.inl (0, 48, Pi3)))) ((.inr (.inl (0, 48, Pi4))))) H) (fun H => TH E (tbC (dayD (.inl (0, 18))) (dayD (.inl (0, 18))) (riverD (.inl Fa1) (.inl Fb1) (.inl (0, 4)) 31 33 35 39 43 47) (riverD (.inl Fa2) (.inl Fb2) (.inl (0, 4)) 32 34 36 40 44 48) (rcD (.inl (t, t)) (.inr kr) (.inr ks) (.inl kb)) rd tp A14F A14F A4F A4F A14F A14F (riverD (.inl Fa3) (.inl Fb3) (.inl (0, 4)) 3 8 3 41 45 49) (riverD (.inl Fa4) (.inl Fb4) (.inl (0, 4)) 3 8 3 42 46 50) ((.inr (.inl (0, 12, Pd1)))) ((.inr (.inl (0, 12, Pd2)))) ((.inr (.inl (0, 12, Pd3)))) ((.inr (.inl (0, 12, Pd4)))) ((.inr (.inl (0, 12, Ps1)))) ((.inr (.inl (0, 12, Ps2)))) ((.inr (.inl (0, 12, Ps3)))) ((.inr (.inl (0, 12, Ps4)))) ((.inr (.inl (0, 48, Pi1)))) ((.inr (.inl (0, 48, Pi2)))) ((.inr (.inl (0, 48, Pi3)))) ((.inr (.inl (0, 48, Pi4))))) H) := by
  refine teV (by decide) (Nat.le_of_ble_eq_true rfl) ?_
  intro p_ ev_ s mi_ below_ meth cd_ ls F hK hN hO hH hS hl
  have hH : TH E (tbC (dayD (.inl (0, 18))) (dayD (.inl (0, 18))) (riverD (.inl Fa1) (.inl Fb1) (.inl (0, 4)) 31 33 35 39 43 47) (riverD (.inl Fa2) (.inl Fb2) (.inl (0, 4)) 32 34 36 40 44 48) (rcD (.inl (t, t)) (.inr kr) (.inr ks) (.inl kb)) rd tp A14F A14F A4F A4F A14F A14F (riverD (.inl Fa3) (.inl Fb3) (.inl (0, 4)) 3 8 3 41 45 49) (riverD (.inl Fa4) (.inl Fb4) (.inl (0, 4)) 3 8 3 42 46 50) ((.inr (.inl (0, 12, Pd1)))) ((.inr (.inl (0, 12, Pd2)))) ((.inr (.inl (0, 12, Pd3)))) ((.inr (.inl (0, 12, Pd4)))) ((.inr (.inl (0, 12, Ps1)))) ((.inr (.inl (0, 12, Ps2)))) ((.inr (.inl (0, 12, Ps3)))) ((.inr (.inl (0, 12, Ps4)))) ((.inr (.inl (0, 48, Pi1)))) ((.inr (.inl (0, 48, Pi2)))) ((.inr (.inl (0, 48, Pi3)))) ((.inr (.inl (0, 48, Pi4))))) s.heap := hH
  have hl : lv_has ls 1 [(0, .ref a0)] := hl
  refine lv_aload_n F.1 F.2.1 dX6_look_0 rfl (lv_at hl 0 rfl) ?_
  refine tGetR (j := 11) F hK hH (tyb ha0 (all1 rfl)) rfl (all1 rfl) clX6 (by decide) wd_2_7 dX6_look_1 (fun q_1 hq_1 _ => ?_)
  refine lv_aload_n F.1 F.2.1 dX6_look_4 rfl (lv_at hl 0 rfl) ?_
  refine tGetR0 (j := 2) F hK hH (tyb ha0 (all1 rfl)) rfl clX6 (by decide) wd_1_17 dX6_look_5 (fun q_2 hq_2 => ?_)
  refine lv_aload_n F.1 F.2.1 dX6_look_8 rfl (lv_at hl 0 rfl) ?_
  refine tGetR (j := 4) F hK hH (tyb ha0 (all1 rfl)) rfl (all1 rfl) clX6 (by decide) wd_1_22 dX6_look_9 (fun q_3 hq_3 _ => ?_)
  refine tVv (b := q_1) (As := [.ref q_2, .ref q_3]) (rest := []) F hK hN hO (c_X0_open_A E (dayD (.inl (0, 18))) (rcD (.inl (t, t)) (.inr kr) (.inr ks) (.inl kb)) rd tp Fa1 Fb1 Fa2 Fb2 Fa3 Fb3 Fa4 Fb4 Pd1 Pd2 Pd3 Pd4 Ps1 Ps2 Ps3 Ps4 Pi1 Pi2 Pi3 Pi4 q_1 q_2 q_3 hq_1 (hkr _ hq_2) hq_3 hFa1 hFb1 hFa2 hFb2 hFa3 hFb3 hFa4 hFb4 hPd1 hPd2 hPd3 hPd4 hPs1 hPs2 hPs3 hPs4 hPi1 hPi2 hPi3 hPi4) mv_X0_open wd_19_23 ⟨Nat.le_of_ble_eq_true rfl, Nat.le_of_ble_eq_true rfl⟩ ⟨Nat.le_of_ble_eq_true rfl, Nat.le_of_ble_eq_true rfl⟩ hH hS (tRecv hK hH (tyb hq_1 (all1 rfl)) clX0) rfl hl.1 (Nat.le_of_ble_eq_true rfl) dX6_look_12 (fun H locs hq hS => ?_)
  have hH := hq
  have hH : TH E (tbC (dayD (.inl (0, 18))) (dayD (.inl (0, 18))) (riverD (.inl Fa1) (.inl Fb1) (.inl (0, 4)) 31 33 35 39 43 47) (riverD (.inl Fa2) (.inl Fb2) (.inl (0, 4)) 32 34 36 40 44 48) (rcD (.inl (t, t)) (.inr kr) (.inr ks) (.inl kb)) rd tp A14F A14F A4F A4F A14F A14F (riverD (.inl Fa3) (.inl Fb3) (.inl (0, 4)) 3 8 3 41 45 49) (riverD (.inl Fa4) (.inl Fb4) (.inl (0, 4)) 3 8 3 42 46 50) ((.inr (.inl (0, 12, Pd1)))) ((.inr (.inl (0, 12, Pd2)))) ((.inr (.inl (0, 12, Pd3)))) ((.inr (.inl (0, 12, Pd4)))) ((.inr (.inl (0, 12, Ps1)))) ((.inr (.inl (0, 12, Ps2)))) ((.inr (.inl (0, 12, Ps3)))) ((.inr (.inl (0, 12, Ps4)))) ((.inr (.inl (0, 48, Pi1)))) ((.inr (.inl (0, 48, Pi2)))) ((.inr (.inl (0, 48, Pi3)))) ((.inr (.inl (0, 48, Pi4))))) H := hH
  refine lv_aload_n F.1 F.2.1 dX6_look_15 rfl (lv_at hl 0 rfl) ?_
  refine tGetR (j := 11) F hK hH (tyb ha0 (all1 rfl)) rfl (all1 rfl) clX6 (by decide) wd_2_7 dX6_look_16 (fun q_5 hq_5 _ => ?_)
  refine tVv (b := q_5) (As := []) (rest := []) F hK hN hO (c_X0_work E (rcD (.inl (t, t)) (.inr kr) (.inr ks) (.inl kb)) rd tp Fa1 Fb1 Fa2 Fb2 Fa3 Fb3 Fa4 Fb4 Pd1 Pd2 Pd3 Pd4 Ps1 Ps2 Ps3 Ps4 Pi1 Pi2 Pi3 Pi4 q_5 (by have h9_ := hq_5; simp at h9_ ⊢; omega) hFa1 hFb1 hFa2 hFb2 hFa3 hFb3 hFa4 hFb4 hPd1 hPd2 hPd3 hPd4 hPs1 hPs2 hPs3 hPs4 hPi1 hPi2 hPi3 hPi4) mv_X0_work wd_20_18 ⟨Nat.le_of_ble_eq_true rfl, Nat.le_of_ble_eq_true rfl⟩ ⟨Nat.le_of_ble_eq_true rfl, Nat.le_of_ble_eq_true rfl⟩ hH hS (tRecv hK hH (tyb hq_5 (all1 rfl)) clX0) rfl hl.1 (Nat.le_of_ble_eq_true rfl) dX6_look_19 (fun H locs hq hS => ?_)
  have hH := hq
  have hH : TH E (tbC (dayD (.inl (0, 18))) (dayD (.inl (0, 18))) (riverD (.inl Fa1) (.inl Fb1) (.inl (0, 4)) 31 33 35 39 43 47) (riverD (.inl Fa2) (.inl Fb2) (.inl (0, 4)) 32 34 36 40 44 48) (rcD (.inl (t, t)) (.inr kr) (.inr ks) (.inl kb)) rd tp A14F A14F A4F A4F A14F A14F (riverD (.inl Fa3) (.inl Fb3) (.inl (0, 4)) 3 8 3 41 45 49) (riverD (.inl Fa4) (.inl Fb4) (.inl (0, 4)) 3 8 3 42 46 50) ((.inr (.inl (0, 12, Pd1)))) ((.inr (.inl (0, 12, Pd2)))) ((.inr (.inl (0, 12, Pd3)))) ((.inr (.inl (0, 12, Pd4)))) ((.inr (.inl (0, 12, Ps1)))) ((.inr (.inl (0, 12, Ps2)))) ((.inr (.inl (0, 12, Ps3)))) ((.inr (.inl (0, 12, Ps4)))) ((.inr (.inl (0, 48, Pi1)))) ((.inr (.inl (0, 48, Pi2)))) ((.inr (.inl (0, 48, Pi3)))) ((.inr (.inl (0, 48, Pi4))))) H := hH
  exact txV F hS dX6_look_22 (hH)
set_option maxHeartbeats 4000000 in
set_option maxRecDepth 100000 in
theorem c_X6_lookAhead (E : Ev) (rd : TD) (tp : TD) (kb : Int × Int) (Fa1 : Int × Int) (Fb1 : Int × Int) (Fa2 : Int × Int) (Fb2 : Int × Int) (Fa3 : Int × Int) (Fb3 : Int × Int) (Fa4 : Int × Int) (Fb4 : Int × Int) (kr : List Nat) (ks : List Nat) (Pd1 : (Nat → Int32) → Prop) (Pd2 : (Nat → Int32) → Prop) (Pd3 : (Nat → Int32) → Prop) (Pd4 : (Nat → Int32) → Prop) (Ps1 : (Nat → Int32) → Prop) (Ps2 : (Nat → Int32) → Prop) (Ps3 : (Nat → Int32) → Prop) (Ps4 : (Nat → Int32) → Prop) (Pi1 : (Nat → Int32) → Prop) (Pi2 : (Nat → Int32) → Prop) (Pi3 : (Nat → Int32) → Prop) (Pi4 : (Nat → Int32) → Prop) (t : Int) (a0 : Nat) (ha0 : eT E a0 ∈ [28]) (ht : 0 ≤ t ∧ t ≤ 400) (hFa1 : 0 ≤ Fa1.1 ∧ Fa1.2 ≤ 12) (hFb1 : 0 ≤ Fb1.1 ∧ Fb1.2 ≤ 14) (hFa2 : 0 ≤ Fa2.1 ∧ Fa2.2 ≤ 12) (hFb2 : 0 ≤ Fb2.1 ∧ Fb2.2 ≤ 14) (hFa3 : 0 ≤ Fa3.1 ∧ Fa3.2 ≤ 12) (hFb3 : 0 ≤ Fb3.1 ∧ Fb3.2 ≤ 14) (hFa4 : 0 ≤ Fa4.1 ∧ Fa4.2 ≤ 12) (hFb4 : 0 ≤ Fb4.1 ∧ Fb4.2 ≤ 14) (hkr : ∀ t ∈ kr, t ∈ [26, 27]) (hks : ∀ t ∈ ks, t ∈ [26, 27]) (hPd1 : ∀ f, Pd1 f → ivP 12 (-2) 11 f) (hPd2 : ∀ f, Pd2 f → ivP 12 (-2) 11 f) (hPd3 : ∀ f, Pd3 f → ivP 12 (-2) 11 f) (hPd4 : ∀ f, Pd4 f → ivP 12 (-2) 11 f) (hPs1 : ∀ f, Ps1 f → ivP 12 (-2147483648) 2147483647 f) (hPs2 : ∀ f, Ps2 f → ivP 12 (-2147483648) 2147483647 f) (hPs3 : ∀ f, Ps3 f → ivP 12 (-2147483648) 2147483647 f) (hPs4 : ∀ f, Ps4 f → ivP 12 (-2147483648) 2147483647 f) (hPi1 : ∀ f, Pi1 f → ivP 48 (-2147483648) 2147483647 f) (hPi2 : ∀ f, Pi2 f → ivP 48 (-2147483648) 2147483647 f) (hPi3 : ∀ f, Pi3 f → ivP 48 (-2147483648) 2147483647 f) (hPi4 : ∀ f, Pi4 f → ivP 48 (-2147483648) 2147483647 f) : TcV E yX6_lookAhead cX6_lookAhead 2 ({ frames := 6, cells := 0, slots := 0, locals := 163 }) [.ref a0] (fun H => TH E (tbC (dayD (.inl (0, 18))) (dayD (.inl (0, 18))) (riverD (.inl Fa1) (.inl Fb1) (.inl (0, 4)) 31 33 35 39 43 47) (riverD (.inl Fa2) (.inl Fb2) (.inl (0, 4)) 32 34 36 40 44 48) (rcD (.inl (t, t)) (.inr kr) (.inr ks) (.inl kb)) rd tp A14F A14F A4F A4F A14F A14F (riverD (.inl Fa3) (.inl Fb3) (.inl (0, 4)) 3 8 3 41 45 49) (riverD (.inl Fa4) (.inl Fb4) (.inl (0, 4)) 3 8 3 42 46 50) ((.inr (.inl (0, 12, Pd1)))) ((.inr (.inl (0, 12, Pd2)))) ((.inr (.inl (0, 12, Pd3)))) ((.inr (.inl (0, 12, Pd4)))) ((.inr (.inl (0, 12, Ps1)))) ((.inr (.inl (0, 12, Ps2)))) ((.inr (.inl (0, 12, Ps3)))) ((.inr (.inl (0, 12, Ps4)))) ((.inr (.inl (0, 48, Pi1)))) ((.inr (.inl (0, 48, Pi2)))) ((.inr (.inl (0, 48, Pi3)))) ((.inr (.inl (0, 48, Pi4))))) H) (fun H => TH E (tbC (dayD (.inl (0, 18))) (dayD (.inl (0, 18))) (riverD (.inl Fa1) (.inl Fb1) (.inl (0, 4)) 31 33 35 39 43 47) (riverD (.inl Fa2) (.inl Fb2) (.inl (0, 4)) 32 34 36 40 44 48) (rcD (.inl (t, t)) (.inr kr) (.inr ks) (.inl kb)) rd tp A14F A14F A4F A4F A14F A14F (riverD (.inl Fa3) (.inl Fb3) (.inl (0, 4)) 3 8 3 41 45 49) (riverD (.inl Fa4) (.inl Fb4) (.inl (0, 4)) 3 8 3 42 46 50) ((.inr (.inl (0, 12, Pd1)))) ((.inr (.inl (0, 12, Pd2)))) ((.inr (.inl (0, 12, Pd3)))) ((.inr (.inl (0, 12, Pd4)))) ((.inr (.inl (0, 12, Ps1)))) ((.inr (.inl (0, 12, Ps2)))) ((.inr (.inl (0, 12, Ps3)))) ((.inr (.inl (0, 12, Ps4)))) ((.inr (.inl (0, 48, Pi1)))) ((.inr (.inl (0, 48, Pi2)))) ((.inr (.inl (0, 48, Pi3)))) ((.inr (.inl (0, 48, Pi4))))) H) := by
  refine teV (by decide) (Nat.le_of_ble_eq_true rfl) ?_
  intro p_ ev_ s mi_ below_ meth cd_ ls F hK hN hO hH hS hl
  have hH : TH E (tbC (dayD (.inl (0, 18))) (dayD (.inl (0, 18))) (riverD (.inl Fa1) (.inl Fb1) (.inl (0, 4)) 31 33 35 39 43 47) (riverD (.inl Fa2) (.inl Fb2) (.inl (0, 4)) 32 34 36 40 44 48) (rcD (.inl (t, t)) (.inr kr) (.inr ks) (.inl kb)) rd tp A14F A14F A4F A4F A14F A14F (riverD (.inl Fa3) (.inl Fb3) (.inl (0, 4)) 3 8 3 41 45 49) (riverD (.inl Fa4) (.inl Fb4) (.inl (0, 4)) 3 8 3 42 46 50) ((.inr (.inl (0, 12, Pd1)))) ((.inr (.inl (0, 12, Pd2)))) ((.inr (.inl (0, 12, Pd3)))) ((.inr (.inl (0, 12, Pd4)))) ((.inr (.inl (0, 12, Ps1)))) ((.inr (.inl (0, 12, Ps2)))) ((.inr (.inl (0, 12, Ps3)))) ((.inr (.inl (0, 12, Ps4)))) ((.inr (.inl (0, 48, Pi1)))) ((.inr (.inl (0, 48, Pi2)))) ((.inr (.inl (0, 48, Pi3)))) ((.inr (.inl (0, 48, Pi4))))) s.heap := hH
  have hl : lv_has ls 2 [(0, .ref a0)] := hl
  refine lv_aload_n F.1 F.2.1 dX6_lookAhead_0 rfl (lv_at hl 0 rfl) ?_
  refine tGetR (j := 12) F hK hH (tyb ha0 (all1 rfl)) rfl (all1 rfl) clX6 (by decide) wd_2_11 dX6_lookAhead_1 (fun q_1 hq_1 _ => ?_)
  refine lv_aload_n F.1 F.2.1 dX6_lookAhead_4 rfl (lv_at hl 0 rfl) ?_
  refine tGetR0 (j := 2) F hK hH (tyb ha0 (all1 rfl)) rfl clX6 (by decide) wd_1_17 dX6_lookAhead_5 (fun q_2 hq_2 => ?_)
  refine lv_aload_n F.1 F.2.1 dX6_lookAhead_8 rfl (lv_at hl 0 rfl) ?_
  refine tGetR (j := 4) F hK hH (tyb ha0 (all1 rfl)) rfl (all1 rfl) clX6 (by decide) wd_1_22 dX6_lookAhead_9 (fun q_3 hq_3 _ => ?_)
  refine tVv (b := q_1) (As := [.ref q_2, .ref q_3]) (rest := []) F hK hN hO (c_X1_begin E (rcD (.inl (t, t)) (.inr kr) (.inr ks) (.inl kb)) rd tp Fa1 Fb1 Fa2 Fb2 Fa3 Fb3 Fa4 Fb4 Pd1 Pd2 Pd3 Pd4 Ps1 Ps2 Ps3 Ps4 Pi1 Pi2 Pi3 Pi4 q_1 q_2 q_3 hq_1 (hkr _ hq_2) hq_3 hFa1 hFb1 hFa2 hFb2 hFa3 hFb3 hFa4 hFb4 hPd1 hPd2 hPd3 hPd4 hPs1 hPs2 hPs3 hPs4 hPi1 hPi2 hPi3 hPi4) mv_X1_begin wd_34_15 ⟨Nat.le_of_ble_eq_true rfl, Nat.le_of_ble_eq_true rfl⟩ ⟨Nat.le_of_ble_eq_true rfl, Nat.le_of_ble_eq_true rfl⟩ hH hS (tRecv hK hH (tyb hq_1 (all1 rfl)) clX1) rfl hl.1 (Nat.le_of_ble_eq_true rfl) dX6_lookAhead_12 (fun H locs hq hS => ?_)
  have hH := hq
  have hH : TH E (tbC (dayD (.inl (0, 18))) (dayD (.inl (0, 18))) (riverD (.inl Fa1) (.inl Fb1) (.inl (0, 4)) 31 33 35 39 43 47) (riverD (.inl Fa2) (.inl Fb2) (.inl (0, 4)) 32 34 36 40 44 48) (rcD (.inl (t, t)) (.inr kr) (.inr ks) (.inl kb)) rd tp A14F A14F A4F A4F A14F A14F (riverD (.inl Fa3) (.inl Fb3) (.inl (0, 4)) 3 8 3 41 45 49) (riverD (.inl Fa4) (.inl Fb4) (.inl (0, 4)) 3 8 3 42 46 50) ((.inr (.inl (0, 12, Pd1)))) ((.inr (.inl (0, 12, Pd2)))) ((.inr (.inl (0, 12, Pd3)))) ((.inr (.inl (0, 12, Pd4)))) ((.inr (.inl (0, 12, Ps1)))) ((.inr (.inl (0, 12, Ps2)))) ((.inr (.inl (0, 12, Ps3)))) ((.inr (.inl (0, 12, Ps4)))) ((.inr (.inl (0, 48, Pi1)))) ((.inr (.inl (0, 48, Pi2)))) ((.inr (.inl (0, 48, Pi3)))) ((.inr (.inl (0, 48, Pi4))))) H := hH
  refine lv_aload_n F.1 F.2.1 dX6_lookAhead_15 rfl (lv_at hl 0 rfl) ?_
  refine tGetR (j := 12) F hK hH (tyb ha0 (all1 rfl)) rfl (all1 rfl) clX6 (by decide) wd_2_11 dX6_lookAhead_16 (fun q_5 hq_5 _ => ?_)
  refine lv_sipush (v := 360) F.1 F.2.1 dX6_lookAhead_19 (by decide) ?_
  refine topK (a := 360) (by decide) (fun k_6 hk_6 => ?_)
  refine lv_iconst (v := (-1)) F.1 F.2.1 dX6_lookAhead_22 (by decide) ?_
  refine topK (a := (-1)) (by decide) (fun k_7 hk_7 => ?_)
  refine tVv (b := q_5) (As := [.int k_6, .int k_7]) (rest := []) F hK hN hO (c_X1_run E (rcD (.inl (t, t)) (.inr kr) (.inr ks) (.inl kb)) rd tp Fa1 Fb1 Fa2 Fb2 Fa3 Fb3 Fa4 Fb4 Pd1 Pd2 Pd3 Pd4 Ps1 Ps2 Ps3 Ps4 Pi1 Pi2 Pi3 Pi4 q_5 k_6 k_7 hq_5 (wkb (eqb hk_6) rfl rfl) hFa1 hFb1 hFa2 hFb2 hFa3 hFb3 hFa4 hFb4 hPd1 hPd2 hPd3 hPd4 hPs1 hPs2 hPs3 hPs4 hPi1 hPi2 hPi3 hPi4) mv_X1_run wd_35_2 ⟨Nat.le_of_ble_eq_true rfl, Nat.le_of_ble_eq_true rfl⟩ ⟨Nat.le_of_ble_eq_true rfl, Nat.le_of_ble_eq_true rfl⟩ hH hS (tRecv hK hH (tyb hq_5 (all1 rfl)) clX1) rfl hl.1 (Nat.le_of_ble_eq_true rfl) dX6_lookAhead_23 (fun H locs hq hS => ?_)
  have hH := hq
  have hH : TH E (tbC (dayD (.inl (0, 18))) (dayD (.inl (0, 18))) (riverD (.inl Fa1) (.inl Fb1) (.inl (0, 4)) 31 33 35 39 43 47) (riverD (.inl Fa2) (.inl Fb2) (.inl (0, 4)) 32 34 36 40 44 48) (rcD (.inl (t, t)) (.inr kr) (.inr ks) (.inl kb)) rd tp A14F A14F A4F A4F A14F A14F (riverD (.inl Fa3) (.inl Fb3) (.inl (0, 4)) 3 8 3 41 45 49) (riverD (.inl Fa4) (.inl Fb4) (.inl (0, 4)) 3 8 3 42 46 50) ((.inr (.inl (0, 12, Pd1)))) ((.inr (.inl (0, 12, Pd2)))) ((.inr (.inl (0, 12, Pd3)))) ((.inr (.inl (0, 12, Pd4)))) ((.inr (.inl (0, 12, Ps1)))) ((.inr (.inl (0, 12, Ps2)))) ((.inr (.inl (0, 12, Ps3)))) ((.inr (.inl (0, 12, Ps4)))) ((.inr (.inl (0, 48, Pi1)))) ((.inr (.inl (0, 48, Pi2)))) ((.inr (.inl (0, 48, Pi3)))) ((.inr (.inl (0, 48, Pi4))))) H := hH
  refine lv_iconst (v := 0) F.1 F.2.1 dX6_lookAhead_26 (by decide) ?_
  refine topK (a := 0) (by decide) (fun k_9 hk_9 => ?_)
  refine lv_istore_n (lv' := [(1, .int k_9), (0, .ref a0)]) F.1 F.2.1 dX6_lookAhead_27 rfl hl (by decide) rfl (fun ls hl => ?_)
  refine wloop (σ := Int32) (fun n9 x9 H locs ls => (14 - x9.toInt + 1).toNat < n9 ∧ (0 ≤ x9.toInt ∧ x9.toInt ≤ 14) ∧ TH E (tbC (dayD (.inl (0, 18))) (dayD (.inl (0, 18))) (riverD (.inl Fa1) (.inl Fb1) (.inl (0, 4)) 31 33 35 39 43 47) (riverD (.inl Fa2) (.inl Fb2) (.inl (0, 4)) 32 34 36 40 44 48) (rcD (.inl (t, t)) (.inr kr) (.inr ks) (.inl kb)) rd tp A14F A14F A4F A4F A14F A14F (riverD (.inl Fa3) (.inl Fb3) (.inl (0, 4)) 3 8 3 41 45 49) (riverD (.inl Fa4) (.inl Fb4) (.inl (0, 4)) 3 8 3 42 46 50) ((.inr (.inl (0, 12, Pd1)))) ((.inr (.inl (0, 12, Pd2)))) ((.inr (.inl (0, 12, Pd3)))) ((.inr (.inl (0, 12, Pd4)))) ((.inr (.inl (0, 12, Ps1)))) ((.inr (.inl (0, 12, Ps2)))) ((.inr (.inl (0, 12, Ps3)))) ((.inr (.inl (0, 12, Ps4)))) ((.inr (.inl (0, 48, Pi1)))) ((.inr (.inl (0, 48, Pi2)))) ((.inr (.inl (0, 48, Pi3)))) ((.inr (.inl (0, 48, Pi4))))) H ∧ va_S (eA E s.heap.size) s.heap H locs ∧ lv_has ls 2 [(0, .ref a0), (1, .int x9)]) ?_ (fun x9 H locs ls h => absurd h.1 (Nat.not_lt_zero _)) _ (k_9) ⟨Nat.lt_succ_self _, (wkb (eqb hk_9) rfl rfl), hH, hS, lv_sub hl [1, 0] rfl⟩
  intro n_28 ih_28 u_10 H locs ls ⟨hm_28, hu_10, hH, hS, hl⟩
  have hm_28 : (14 - u_10.toInt + 1).toNat < n_28 + 1 := hm_28
  have hu_10 : (0 ≤ u_10.toInt ∧ u_10.toInt ≤ 14) := hu_10
  have hH : TH E (tbC (dayD (.inl (0, 18))) (dayD (.inl (0, 18))) (riverD (.inl Fa1) (.inl Fb1) (.inl (0, 4)) 31 33 35 39 43 47) (riverD (.inl Fa2) (.inl Fb2) (.inl (0, 4)) 32 34 36 40 44 48) (rcD (.inl (t, t)) (.inr kr) (.inr ks) (.inl kb)) rd tp A14F A14F A4F A4F A14F A14F (riverD (.inl Fa3) (.inl Fb3) (.inl (0, 4)) 3 8 3 41 45 49) (riverD (.inl Fa4) (.inl Fb4) (.inl (0, 4)) 3 8 3 42 46 50) ((.inr (.inl (0, 12, Pd1)))) ((.inr (.inl (0, 12, Pd2)))) ((.inr (.inl (0, 12, Pd3)))) ((.inr (.inl (0, 12, Pd4)))) ((.inr (.inl (0, 12, Ps1)))) ((.inr (.inl (0, 12, Ps2)))) ((.inr (.inl (0, 12, Ps3)))) ((.inr (.inl (0, 12, Ps4)))) ((.inr (.inl (0, 48, Pi1)))) ((.inr (.inl (0, 48, Pi2)))) ((.inr (.inl (0, 48, Pi3)))) ((.inr (.inl (0, 48, Pi4))))) H := hH
  have hl : lv_has ls 2 [(0, .ref a0), (1, .int u_10)] := hl
  refine lv_iload_n F.1 F.2.1 dX6_lookAhead_28 rfl (lv_at hl 1 rfl) ?_
  refine lv_aload_n F.1 F.2.1 dX6_lookAhead_29 rfl (lv_at hl 0 rfl) ?_
  refine tGetR0 (j := 2) F hK hH (tyb ha0 (all1 rfl)) rfl clX6 (by decide) wd_1_17 dX6_lookAhead_30 (fun q_11 hq_11 => ?_)
  refine tGetIB (j := 4) (lo := 0) (hi := 14) F hK hH (hkr _ hq_11) (alls ⟨_, _, rfl, rfl, by have h9_ := hFb1; omega⟩ (alls1 ⟨_, _, rfl, rfl, by have h9_ := hFb2; omega⟩)) clX2 (by decide) wd_8_18 dX6_lookAhead_33 (fun z_12 hz_12 => ?_)
  refine b_ge (tgt := 59) F dX6_lookAhead_36 (by decide) (fun c_13 => ?_) (fun c_13 => ?_)
  · skip
    exact txV F hS dX6_lookAhead_59 (hH)
  · skip
    have r_14 : 0 ≤ u_10.toInt ∧ u_10.toInt ≤ 13 := by have h9_ := hu_10; omega
    have r_15 : 1 ≤ z_12.toInt ∧ z_12.toInt ≤ 14 := by have h9_ := hz_12; omega
    refine lv_aload_n F.1 F.2.1 dX6_lookAhead_39 rfl (lv_at hl 0 rfl) ?_
    refine tGetR (j := 15) F hK hH (tyb ha0 (all1 rfl)) rfl (all1 rfl) clX6 (by decide) wd_2_3 dX6_lookAhead_40 (fun q_16 hq_16 _ => ?_)
    refine lv_iload_n F.1 F.2.1 dX6_lookAhead_43 rfl (lv_at hl 1 rfl) ?_
    refine lv_aload_n F.1 F.2.1 dX6_lookAhead_44 rfl (lv_at hl 0 rfl) ?_
    refine tGetR (j := 12) F hK hH (tyb ha0 (all1 rfl)) rfl (all1 rfl) clX6 (by decide) wd_2_11 dX6_lookAhead_45 (fun q_17 hq_17 _ => ?_)
    refine lv_iload_n F.1 F.2.1 dX6_lookAhead_48 rfl (lv_at hl 1 rfl) ?_
    refine tVi (b := q_17) (As := [.int u_10]) (rest := [.int u_10, .ref q_16]) F hK hN hO (c_X1_tookOf E (rcD (.inl (t, t)) (.inr kr) (.inr ks) (.inl kb)) rd tp Fa1 Fb1 Fa2 Fb2 Fa3 Fb3 Fa4 Fb4 Pd1 Pd2 Pd3 Pd4 Ps1 Ps2 Ps3 Ps4 Pi1 Pi2 Pi3 Pi4 q_17 u_10 hq_17 r_14 hFa1 hFb1 hFa2 hFb2 hFa3 hFb3 hFa4 hFb4 hPd1 hPd2 hPd3 hPd4 hPs1 hPs2 hPs3 hPs4 hPi1 hPi2 hPi3 hPi4) mv_X1_tookOf wd_36_13 ⟨Nat.le_of_ble_eq_true rfl, Nat.le_of_ble_eq_true rfl⟩ ⟨Nat.le_of_ble_eq_true rfl, Nat.le_of_ble_eq_true rfl⟩ hH hS (tRecv hK hH (tyb hq_17 (all1 rfl)) clX1) rfl hl.1 (Nat.le_of_ble_eq_true rfl) dX6_lookAhead_49 (fun z_18 H locs hq hS => ?_)
    obtain ⟨f_19, hH⟩ := hq
    have hH : TH E (tbC (dayD (.inl (0, 18))) (dayD (.inl (0, 18))) (riverD (.inl Fa1) (.inl Fb1) (.inl (0, 4)) 31 33 35 39 43 47) (riverD (.inl Fa2) (.inl Fb2) (.inl (0, 4)) 32 34 36 40 44 48) (rcD (.inl (t, t)) (.inr kr) (.inr ks) (.inl kb)) rd tp A14F A14F A4F A4F A14F A14F (riverD (.inl Fa3) (.inl Fb3) (.inl (0, 4)) 3 8 3 41 45 49) (riverD (.inl Fa4) (.inl Fb4) (.inl (0, 4)) 3 8 3 42 46 50) ((.inr (.inl (0, 12, Pd1)))) ((.inr (.inl (0, 12, Pd2)))) ((.inr (.inl (0, 12, Pd3)))) ((.inr (.inl (0, 12, Pd4)))) ((.inr (.inl (0, 12, Ps1)))) ((.inr (.inl (0, 12, Ps2)))) ((.inr (.inl (0, 12, Ps3)))) ((.inr (.inl (0, 12, Ps4)))) ((.inr (.inl (0, 48, Pi1)))) ((.inr (.inl (0, 48, Pi2)))) ((.inr (.inl (0, 48, Pi3)))) ((.inr (.inl (0, 48, Pi4))))) H := hH
    refine tIastB F hK hH hS (tyb hq_16 (all1 rfl)) (ixb (n := 14) r_14 rfl rfl) f_19 dX6_lookAhead_52 (fun H locs hH hS => ?_)
    obtain ⟨x_20, ex_20, hx_20⟩ := iincB (c := 1) (lo := 1) (hi := 14) r_14 rfl
    refine lv_iinc (v := x_20) (lv' := [(1, .int x_20), (0, .ref a0)]) F.1 F.2.1 dX6_lookAhead_53 hl (k := 1) rfl ex_20 (by decide) rfl (fun ls hl => ?_)
    refine lv_goto (tgt := 28) F.1 F.2.1 dX6_lookAhead_56 (by decide) ?_
    exact ih_28 (x_20) _ _ _ ⟨(show (14 - x_20.toInt + 1).toNat < n_28 from by omega), (wkb hx_20.2 rfl rfl), hH, hS, lv_sub hl [1, 0] rfl⟩
set_option maxHeartbeats 4000000 in
set_option maxRecDepth 100000 in
theorem c_X6_hurtsSomebody (E : Ev) (rd : TD) (tp : TD) (kb : Int × Int) (Fa1 : Int × Int) (Fb1 : Int × Int) (Fa2 : Int × Int) (Fb2 : Int × Int) (Fa3 : Int × Int) (Fb3 : Int × Int) (Fa4 : Int × Int) (Fb4 : Int × Int) (kr : List Nat) (ks : List Nat) (Pd1 : (Nat → Int32) → Prop) (Pd2 : (Nat → Int32) → Prop) (Pd3 : (Nat → Int32) → Prop) (Pd4 : (Nat → Int32) → Prop) (Ps1 : (Nat → Int32) → Prop) (Ps2 : (Nat → Int32) → Prop) (Ps3 : (Nat → Int32) → Prop) (Ps4 : (Nat → Int32) → Prop) (Pi1 : (Nat → Int32) → Prop) (Pi2 : (Nat → Int32) → Prop) (Pi3 : (Nat → Int32) → Prop) (Pi4 : (Nat → Int32) → Prop) (t : Int) (a0 : Nat) (a1 : Int32) (a2 : Int32) (ha0 : eT E a0 ∈ [28]) (ha1 : 0 ≤ a1.toInt ∧ a1.toInt ≤ 13) (ha2 : 0 ≤ a2.toInt ∧ a2.toInt ≤ 11) (ht : 0 ≤ t ∧ t ≤ 400) (hFa1 : 0 ≤ Fa1.1 ∧ Fa1.2 ≤ 12) (hFb1 : 0 ≤ Fb1.1 ∧ Fb1.2 ≤ 14) (hFa2 : 0 ≤ Fa2.1 ∧ Fa2.2 ≤ 12) (hFb2 : 0 ≤ Fb2.1 ∧ Fb2.2 ≤ 14) (hFa3 : 0 ≤ Fa3.1 ∧ Fa3.2 ≤ 12) (hFb3 : 0 ≤ Fb3.1 ∧ Fb3.2 ≤ 14) (hFa4 : 0 ≤ Fa4.1 ∧ Fa4.2 ≤ 12) (hFb4 : 0 ≤ Fb4.1 ∧ Fb4.2 ≤ 14) (hkr : ∀ t ∈ kr, t ∈ [26, 27]) (hks : ∀ t ∈ ks, t ∈ [26, 27]) (hPd1 : ∀ f, Pd1 f → ivP 12 (-2) 11 f) (hPd2 : ∀ f, Pd2 f → ivP 12 (-2) 11 f) (hPd3 : ∀ f, Pd3 f → ivP 12 (-2) 11 f) (hPd4 : ∀ f, Pd4 f → ivP 12 (-2) 11 f) (hPs1 : ∀ f, Ps1 f → ivP 12 (-2147483648) 2147483647 f) (hPs2 : ∀ f, Ps2 f → ivP 12 (-2147483648) 2147483647 f) (hPs3 : ∀ f, Ps3 f → ivP 12 (-2147483648) 2147483647 f) (hPs4 : ∀ f, Ps4 f → ivP 12 (-2147483648) 2147483647 f) (hPi1 : ∀ f, Pi1 f → ivP 48 (-2147483648) 2147483647 f) (hPi2 : ∀ f, Pi2 f → ivP 48 (-2147483648) 2147483647 f) (hPi3 : ∀ f, Pi3 f → ivP 48 (-2147483648) 2147483647 f) (hPi4 : ∀ f, Pi4 f → ivP 48 (-2147483648) 2147483647 f) : TcI E yX6_hurtsSomebody cX6_hurtsSomebody 4 .boolean ({ frames := 6, cells := 0, slots := 0, locals := 163 }) [.ref a0, .int a1, .int a2] (fun H => TH E (tbC (dayD (.inl (0, 18))) (dayD (.inl (0, 18))) (riverD (.inl Fa1) (.inl Fb1) (.inl (0, 4)) 31 33 35 39 43 47) (riverD (.inl Fa2) (.inl Fb2) (.inl (0, 4)) 32 34 36 40 44 48) (rcD (.inl (t, t)) (.inr kr) (.inr ks) (.inl kb)) rd tp A14F A14F A4F A4F A14F A14F (riverD (.inl Fa3) (.inl Fb3) (.inl (0, 4)) 3 8 3 41 45 49) (riverD (.inl Fa4) (.inl Fb4) (.inl (0, 4)) 3 8 3 42 46 50) ((.inr (.inl (0, 12, Pd1)))) ((.inr (.inl (0, 12, Pd2)))) ((.inr (.inl (0, 12, Pd3)))) ((.inr (.inl (0, 12, Pd4)))) ((.inr (.inl (0, 12, Ps1)))) ((.inr (.inl (0, 12, Ps2)))) ((.inr (.inl (0, 12, Ps3)))) ((.inr (.inl (0, 12, Ps4)))) ((.inr (.inl (0, 48, Pi1)))) ((.inr (.inl (0, 48, Pi2)))) ((.inr (.inl (0, 48, Pi3)))) ((.inr (.inl (0, 48, Pi4))))) H) (fun v H => (0 ≤ v.toInt ∧ v.toInt ≤ 1) ∧ TH E (tbC (dayD (.inl (0, 18))) (dayD (.inl (0, 18))) (riverD (.inl Fa1) (.inl Fb1) (.inl (0, 4)) 31 33 35 39 43 47) (riverD (.inl Fa2) (.inl Fb2) (.inl (0, 4)) 32 34 36 40 44 48) (rcD (.inl (t, t)) (.inr kr) (.inr ks) (.inl kb)) rd tp A14F A14F A4F A4F A14F A14F (riverD (.inl Fa3) (.inl Fb3) (.inl (0, 4)) 3 8 3 41 45 49) (riverD (.inl Fa4) (.inl Fb4) (.inl (0, 4)) 3 8 3 42 46 50) ((.inr (.inl (0, 12, Pd1)))) ((.inr (.inl (0, 12, Pd2)))) ((.inr (.inl (0, 12, Pd3)))) ((.inr (.inl (0, 12, Pd4)))) ((.inr (.inl (0, 12, Ps1)))) ((.inr (.inl (0, 12, Ps2)))) ((.inr (.inl (0, 12, Ps3)))) ((.inr (.inl (0, 12, Ps4)))) ((.inr (.inl (0, 48, Pi1)))) ((.inr (.inl (0, 48, Pi2)))) ((.inr (.inl (0, 48, Pi3)))) ((.inr (.inl (0, 48, Pi4))))) H) := by
  refine teI (by decide) (Nat.le_of_ble_eq_true rfl) ?_
  intro p_ ev_ s mi_ below_ meth cd_ ls F hK hN hO hH hS hl
  have hH : TH E (tbC (dayD (.inl (0, 18))) (dayD (.inl (0, 18))) (riverD (.inl Fa1) (.inl Fb1) (.inl (0, 4)) 31 33 35 39 43 47) (riverD (.inl Fa2) (.inl Fb2) (.inl (0, 4)) 32 34 36 40 44 48) (rcD (.inl (t, t)) (.inr kr) (.inr ks) (.inl kb)) rd tp A14F A14F A4F A4F A14F A14F (riverD (.inl Fa3) (.inl Fb3) (.inl (0, 4)) 3 8 3 41 45 49) (riverD (.inl Fa4) (.inl Fb4) (.inl (0, 4)) 3 8 3 42 46 50) ((.inr (.inl (0, 12, Pd1)))) ((.inr (.inl (0, 12, Pd2)))) ((.inr (.inl (0, 12, Pd3)))) ((.inr (.inl (0, 12, Pd4)))) ((.inr (.inl (0, 12, Ps1)))) ((.inr (.inl (0, 12, Ps2)))) ((.inr (.inl (0, 12, Ps3)))) ((.inr (.inl (0, 12, Ps4)))) ((.inr (.inl (0, 48, Pi1)))) ((.inr (.inl (0, 48, Pi2)))) ((.inr (.inl (0, 48, Pi3)))) ((.inr (.inl (0, 48, Pi4))))) s.heap := hH
  have hl : lv_has ls 4 [(0, .ref a0), (1, .int a1), (2, .int a2)] := hl
  refine lv_aload_n F.1 F.2.1 dX6_hurtsSomebody_0 rfl (lv_at hl 0 rfl) ?_
  refine tGetR (j := 12) F hK hH (tyb ha0 (all1 rfl)) rfl (all1 rfl) clX6 (by decide) wd_2_11 dX6_hurtsSomebody_1 (fun q_1 hq_1 _ => ?_)
  refine lv_aload_n F.1 F.2.1 dX6_hurtsSomebody_4 rfl (lv_at hl 0 rfl) ?_
  refine tGetR0 (j := 2) F hK hH (tyb ha0 (all1 rfl)) rfl clX6 (by decide) wd_1_17 dX6_hurtsSomebody_5 (fun q_2 hq_2 => ?_)
  refine lv_aload_n F.1 F.2.1 dX6_hurtsSomebody_8 rfl (lv_at hl 0 rfl) ?_
  refine tGetR (j := 4) F hK hH (tyb ha0 (all1 rfl)) rfl (all1 rfl) clX6 (by decide) wd_1_22 dX6_hurtsSomebody_9 (fun q_3 hq_3 _ => ?_)
  refine lv_iload_n F.1 F.2.1 dX6_hurtsSomebody_12 rfl (lv_at hl 1 rfl) ?_
  refine lv_iload_n F.1 F.2.1 dX6_hurtsSomebody_13 rfl (lv_at hl 2 rfl) ?_
  refine tVv (b := q_1) (As := [.ref q_2, .ref q_3, .int a1, .int a2]) (rest := []) F hK hN hO (c_X1_beginMoved E (rcD (.inl (t, t)) (.inr kr) (.inr ks) (.inl kb)) rd tp Fa1 Fb1 Fa2 Fb2 Fa3 Fb3 Fa4 Fb4 Pd1 Pd2 Pd3 Pd4 Ps1 Ps2 Ps3 Ps4 Pi1 Pi2 Pi3 Pi4 q_1 q_2 q_3 a1 a2 hq_1 (hkr _ hq_2) hq_3 ha1 ha2 hFa1 hFb1 hFa2 hFb2 hFa3 hFb3 hFa4 hFb4 hPd1 hPd2 hPd3 hPd4 hPs1 hPs2 hPs3 hPs4 hPi1 hPi2 hPi3 hPi4) mv_X1_beginMoved wd_36_22 ⟨Nat.le_of_ble_eq_true rfl, Nat.le_of_ble_eq_true rfl⟩ ⟨Nat.le_of_ble_eq_true rfl, Nat.le_of_ble_eq_true rfl⟩ hH hS (tRecv hK hH (tyb hq_1 (all1 rfl)) clX1) rfl hl.1 (Nat.le_of_ble_eq_true rfl) dX6_hurtsSomebody_14 (fun H locs hq hS => ?_)
  have hH := hq
  have hH : TH E (tbC (dayD (.inl (0, 18))) (dayD (.inl (0, 18))) (riverD (.inl Fa1) (.inl Fb1) (.inl (0, 4)) 31 33 35 39 43 47) (riverD (.inl Fa2) (.inl Fb2) (.inl (0, 4)) 32 34 36 40 44 48) (rcD (.inl (t, t)) (.inr kr) (.inr ks) (.inl kb)) rd tp A14F A14F A4F A4F A14F A14F (riverD (.inl Fa3) (.inl Fb3) (.inl (0, 4)) 3 8 3 41 45 49) (riverD (.inl Fa4) (.inl Fb4) (.inl (0, 4)) 3 8 3 42 46 50) ((.inr (.inl (0, 12, Pd1)))) ((.inr (.inl (0, 12, Pd2)))) ((.inr (.inl (0, 12, Pd3)))) ((.inr (.inl (0, 12, Pd4)))) ((.inr (.inl (0, 12, Ps1)))) ((.inr (.inl (0, 12, Ps2)))) ((.inr (.inl (0, 12, Ps3)))) ((.inr (.inl (0, 12, Ps4)))) ((.inr (.inl (0, 48, Pi1)))) ((.inr (.inl (0, 48, Pi2)))) ((.inr (.inl (0, 48, Pi3)))) ((.inr (.inl (0, 48, Pi4))))) H := hH
  refine lv_aload_n F.1 F.2.1 dX6_hurtsSomebody_17 rfl (lv_at hl 0 rfl) ?_
  refine tGetR (j := 12) F hK hH (tyb ha0 (all1 rfl)) rfl (all1 rfl) clX6 (by decide) wd_2_11 dX6_hurtsSomebody_18 (fun q_5 hq_5 _ => ?_)
  refine lv_sipush (v := 360) F.1 F.2.1 dX6_hurtsSomebody_21 (by decide) ?_
  refine topK (a := 360) (by decide) (fun k_6 hk_6 => ?_)
  refine lv_iconst (v := (-1)) F.1 F.2.1 dX6_hurtsSomebody_24 (by decide) ?_
  refine topK (a := (-1)) (by decide) (fun k_7 hk_7 => ?_)
  refine tVv (b := q_5) (As := [.int k_6, .int k_7]) (rest := []) F hK hN hO (c_X1_run E (rcD (.inl (t, t)) (.inr kr) (.inr ks) (.inl kb)) rd tp Fa1 Fb1 Fa2 Fb2 Fa3 Fb3 Fa4 Fb4 Pd1 Pd2 Pd3 Pd4 Ps1 Ps2 Ps3 Ps4 Pi1 Pi2 Pi3 Pi4 q_5 k_6 k_7 hq_5 (wkb (eqb hk_6) rfl rfl) hFa1 hFb1 hFa2 hFb2 hFa3 hFb3 hFa4 hFb4 hPd1 hPd2 hPd3 hPd4 hPs1 hPs2 hPs3 hPs4 hPi1 hPi2 hPi3 hPi4) mv_X1_run wd_35_2 ⟨Nat.le_of_ble_eq_true rfl, Nat.le_of_ble_eq_true rfl⟩ ⟨Nat.le_of_ble_eq_true rfl, Nat.le_of_ble_eq_true rfl⟩ hH hS (tRecv hK hH (tyb hq_5 (all1 rfl)) clX1) rfl hl.1 (Nat.le_of_ble_eq_true rfl) dX6_hurtsSomebody_25 (fun H locs hq hS => ?_)
  have hH := hq
  have hH : TH E (tbC (dayD (.inl (0, 18))) (dayD (.inl (0, 18))) (riverD (.inl Fa1) (.inl Fb1) (.inl (0, 4)) 31 33 35 39 43 47) (riverD (.inl Fa2) (.inl Fb2) (.inl (0, 4)) 32 34 36 40 44 48) (rcD (.inl (t, t)) (.inr kr) (.inr ks) (.inl kb)) rd tp A14F A14F A4F A4F A14F A14F (riverD (.inl Fa3) (.inl Fb3) (.inl (0, 4)) 3 8 3 41 45 49) (riverD (.inl Fa4) (.inl Fb4) (.inl (0, 4)) 3 8 3 42 46 50) ((.inr (.inl (0, 12, Pd1)))) ((.inr (.inl (0, 12, Pd2)))) ((.inr (.inl (0, 12, Pd3)))) ((.inr (.inl (0, 12, Pd4)))) ((.inr (.inl (0, 12, Ps1)))) ((.inr (.inl (0, 12, Ps2)))) ((.inr (.inl (0, 12, Ps3)))) ((.inr (.inl (0, 12, Ps4)))) ((.inr (.inl (0, 48, Pi1)))) ((.inr (.inl (0, 48, Pi2)))) ((.inr (.inl (0, 48, Pi3)))) ((.inr (.inl (0, 48, Pi4))))) H := hH
  refine lv_iconst (v := 0) F.1 F.2.1 dX6_hurtsSomebody_28 (by decide) ?_
  refine topK (a := 0) (by decide) (fun k_9 hk_9 => ?_)
  refine lv_istore_n (lv' := [(3, .int k_9), (0, .ref a0), (1, .int a1), (2, .int a2)]) F.1 F.2.1 dX6_hurtsSomebody_29 rfl hl (by decide) rfl (fun ls hl => ?_)
  refine wloop (σ := Int32) (fun n9 x9 H locs ls => (14 - x9.toInt + 1).toNat < n9 ∧ (0 ≤ x9.toInt ∧ x9.toInt ≤ 14) ∧ TH E (tbC (dayD (.inl (0, 18))) (dayD (.inl (0, 18))) (riverD (.inl Fa1) (.inl Fb1) (.inl (0, 4)) 31 33 35 39 43 47) (riverD (.inl Fa2) (.inl Fb2) (.inl (0, 4)) 32 34 36 40 44 48) (rcD (.inl (t, t)) (.inr kr) (.inr ks) (.inl kb)) rd tp A14F A14F A4F A4F A14F A14F (riverD (.inl Fa3) (.inl Fb3) (.inl (0, 4)) 3 8 3 41 45 49) (riverD (.inl Fa4) (.inl Fb4) (.inl (0, 4)) 3 8 3 42 46 50) ((.inr (.inl (0, 12, Pd1)))) ((.inr (.inl (0, 12, Pd2)))) ((.inr (.inl (0, 12, Pd3)))) ((.inr (.inl (0, 12, Pd4)))) ((.inr (.inl (0, 12, Ps1)))) ((.inr (.inl (0, 12, Ps2)))) ((.inr (.inl (0, 12, Ps3)))) ((.inr (.inl (0, 12, Ps4)))) ((.inr (.inl (0, 48, Pi1)))) ((.inr (.inl (0, 48, Pi2)))) ((.inr (.inl (0, 48, Pi3)))) ((.inr (.inl (0, 48, Pi4))))) H ∧ va_S (eA E s.heap.size) s.heap H locs ∧ lv_has ls 4 [(0, .ref a0), (1, .int a1), (3, .int x9)]) ?_ (fun x9 H locs ls h => absurd h.1 (Nat.not_lt_zero _)) _ (k_9) ⟨Nat.lt_succ_self _, (wkb (eqb hk_9) rfl rfl), hH, hS, lv_sub hl [1, 2, 0] rfl⟩
  intro n_30 ih_30 u_10 H locs ls ⟨hm_30, hu_10, hH, hS, hl⟩
  have hm_30 : (14 - u_10.toInt + 1).toNat < n_30 + 1 := hm_30
  have hu_10 : (0 ≤ u_10.toInt ∧ u_10.toInt ≤ 14) := hu_10
  have hH : TH E (tbC (dayD (.inl (0, 18))) (dayD (.inl (0, 18))) (riverD (.inl Fa1) (.inl Fb1) (.inl (0, 4)) 31 33 35 39 43 47) (riverD (.inl Fa2) (.inl Fb2) (.inl (0, 4)) 32 34 36 40 44 48) (rcD (.inl (t, t)) (.inr kr) (.inr ks) (.inl kb)) rd tp A14F A14F A4F A4F A14F A14F (riverD (.inl Fa3) (.inl Fb3) (.inl (0, 4)) 3 8 3 41 45 49) (riverD (.inl Fa4) (.inl Fb4) (.inl (0, 4)) 3 8 3 42 46 50) ((.inr (.inl (0, 12, Pd1)))) ((.inr (.inl (0, 12, Pd2)))) ((.inr (.inl (0, 12, Pd3)))) ((.inr (.inl (0, 12, Pd4)))) ((.inr (.inl (0, 12, Ps1)))) ((.inr (.inl (0, 12, Ps2)))) ((.inr (.inl (0, 12, Ps3)))) ((.inr (.inl (0, 12, Ps4)))) ((.inr (.inl (0, 48, Pi1)))) ((.inr (.inl (0, 48, Pi2)))) ((.inr (.inl (0, 48, Pi3)))) ((.inr (.inl (0, 48, Pi4))))) H := hH
  have hl : lv_has ls 4 [(0, .ref a0), (1, .int a1), (3, .int u_10)] := hl
  refine lv_iload_n F.1 F.2.1 dX6_hurtsSomebody_30 rfl (lv_at hl 2 rfl) ?_
  refine lv_aload_n F.1 F.2.1 dX6_hurtsSomebody_31 rfl (lv_at hl 0 rfl) ?_
  refine tGetR0 (j := 2) F hK hH (tyb ha0 (all1 rfl)) rfl clX6 (by decide) wd_1_17 dX6_hurtsSomebody_32 (fun q_11 hq_11 => ?_)
  refine tGetIB (j := 4) (lo := 0) (hi := 14) F hK hH (hkr _ hq_11) (alls ⟨_, _, rfl, rfl, by have h9_ := hFb1; omega⟩ (alls1 ⟨_, _, rfl, rfl, by have h9_ := hFb2; omega⟩)) clX2 (by decide) wd_8_18 dX6_hurtsSomebody_35 (fun z_12 hz_12 => ?_)
  refine b_ge (tgt := 71) F dX6_hurtsSomebody_38 (by decide) (fun c_13 => ?_) (fun c_13 => ?_)
  · skip
    refine lv_iconst (v := 0) F.1 F.2.1 dX6_hurtsSomebody_71 (by decide) ?_
    refine topK (a := 0) (by decide) (fun k_16 hk_16 => ?_)
    exact txI F hS dX6_hurtsSomebody_72 (nar01 (wkb (eqb hk_16) rfl rfl)) (⟨(wkb (eqb hk_16) rfl rfl), hH⟩)
  · skip
    have r_14 : 0 ≤ u_10.toInt ∧ u_10.toInt ≤ 13 := by have h9_ := hu_10; omega
    have r_15 : 1 ≤ z_12.toInt ∧ z_12.toInt ≤ 14 := by have h9_ := hz_12; omega
    refine lv_iload_n F.1 F.2.1 dX6_hurtsSomebody_41 rfl (lv_at hl 2 rfl) ?_
    refine lv_iload_n F.1 F.2.1 dX6_hurtsSomebody_42 rfl (lv_at hl 1 rfl) ?_
    refine b_eq (tgt := 65) F dX6_hurtsSomebody_43 (by decide) (fun c_17 => ?_) (fun c_17 => ?_)
    · skip
      obtain ⟨x_18, ex_18, hx_18⟩ := iincB (c := 1) (lo := 1) (hi := 14) r_14 rfl
      refine lv_iinc (v := x_18) (lv' := [(3, .int x_18), (0, .ref a0), (1, .int a1)]) F.1 F.2.1 dX6_hurtsSomebody_65 hl (k := 2) rfl ex_18 (by decide) rfl (fun ls hl => ?_)
      refine lv_goto (tgt := 30) F.1 F.2.1 dX6_hurtsSomebody_68 (by decide) ?_
      exact ih_30 (x_18) _ _ _ ⟨(show (14 - x_18.toInt + 1).toNat < n_30 from by omega), (wkb hx_18.2 rfl rfl), hH, hS, lv_sub hl [1, 2, 0] rfl⟩
    · skip
      refine lv_aload_n F.1 F.2.1 dX6_hurtsSomebody_46 rfl (lv_at hl 0 rfl) ?_
      refine tGetR (j := 12) F hK hH (tyb ha0 (all1 rfl)) rfl (all1 rfl) clX6 (by decide) wd_2_11 dX6_hurtsSomebody_47 (fun q_19 hq_19 _ => ?_)
      refine lv_iload_n F.1 F.2.1 dX6_hurtsSomebody_50 rfl (lv_at hl 2 rfl) ?_
      refine tVi (b := q_19) (As := [.int u_10]) (rest := []) F hK hN hO (c_X1_tookOf E (rcD (.inl (t, t)) (.inr kr) (.inr ks) (.inl kb)) rd tp Fa1 Fb1 Fa2 Fb2 Fa3 Fb3 Fa4 Fb4 Pd1 Pd2 Pd3 Pd4 Ps1 Ps2 Ps3 Ps4 Pi1 Pi2 Pi3 Pi4 q_19 u_10 hq_19 r_14 hFa1 hFb1 hFa2 hFb2 hFa3 hFb3 hFa4 hFb4 hPd1 hPd2 hPd3 hPd4 hPs1 hPs2 hPs3 hPs4 hPi1 hPi2 hPi3 hPi4) mv_X1_tookOf wd_36_13 ⟨Nat.le_of_ble_eq_true rfl, Nat.le_of_ble_eq_true rfl⟩ ⟨Nat.le_of_ble_eq_true rfl, Nat.le_of_ble_eq_true rfl⟩ hH hS (tRecv hK hH (tyb hq_19 (all1 rfl)) clX1) rfl hl.1 (Nat.le_of_ble_eq_true rfl) dX6_hurtsSomebody_51 (fun z_20 H locs hq hS => ?_)
      obtain ⟨f_21, hH⟩ := hq
      have hH : TH E (tbC (dayD (.inl (0, 18))) (dayD (.inl (0, 18))) (riverD (.inl Fa1) (.inl Fb1) (.inl (0, 4)) 31 33 35 39 43 47) (riverD (.inl Fa2) (.inl Fb2) (.inl (0, 4)) 32 34 36 40 44 48) (rcD (.inl (t, t)) (.inr kr) (.inr ks) (.inl kb)) rd tp A14F A14F A4F A4F A14F A14F (riverD (.inl Fa3) (.inl Fb3) (.inl (0, 4)) 3 8 3 41 45 49) (riverD (.inl Fa4) (.inl Fb4) (.inl (0, 4)) 3 8 3 42 46 50) ((.inr (.inl (0, 12, Pd1)))) ((.inr (.inl (0, 12, Pd2)))) ((.inr (.inl (0, 12, Pd3)))) ((.inr (.inl (0, 12, Pd4)))) ((.inr (.inl (0, 12, Ps1)))) ((.inr (.inl (0, 12, Ps2)))) ((.inr (.inl (0, 12, Ps3)))) ((.inr (.inl (0, 12, Ps4)))) ((.inr (.inl (0, 48, Pi1)))) ((.inr (.inl (0, 48, Pi2)))) ((.inr (.inl (0, 48, Pi3)))) ((.inr (.inl (0, 48, Pi4))))) H := hH
      refine lv_aload_n F.1 F.2.1 dX6_hurtsSomebody_54 rfl (lv_at hl 0 rfl) ?_
      refine tGetR (j := 15) F hK hH (tyb ha0 (all1 rfl)) rfl (all1 rfl) clX6 (by decide) wd_2_3 dX6_hurtsSomebody_55 (fun q_22 hq_22 _ => ?_)
      refine lv_iload_n F.1 F.2.1 dX6_hurtsSomebody_58 rfl (lv_at hl 2 rfl) ?_
      refine tIaldB F hK hH (tyb hq_22 (all1 rfl)) (ixb (n := 14) r_14 rfl rfl) dX6_hurtsSomebody_59 (fun z_23 hz_23 => ?_)
      refine b_ge (tgt := 65) F dX6_hurtsSomebody_60 (by decide) (fun c_24 => ?_) (fun c_24 => ?_)
      · skip
        obtain ⟨x_25, ex_25, hx_25⟩ := iincB (c := 1) (lo := 1) (hi := 14) r_14 rfl
        refine lv_iinc (v := x_25) (lv' := [(3, .int x_25), (0, .ref a0), (1, .int a1)]) F.1 F.2.1 dX6_hurtsSomebody_65 hl (k := 2) rfl ex_25 (by decide) rfl (fun ls hl => ?_)
        refine lv_goto (tgt := 30) F.1 F.2.1 dX6_hurtsSomebody_68 (by decide) ?_
        exact ih_30 (x_25) _ _ _ ⟨(show (14 - x_25.toInt + 1).toNat < n_30 from by omega), (wkb hx_25.2 rfl rfl), hH, hS, lv_sub hl [1, 2, 0] rfl⟩
      · skip
        refine lv_iconst (v := 1) F.1 F.2.1 dX6_hurtsSomebody_63 (by decide) ?_
        refine topK (a := 1) (by decide) (fun k_26 hk_26 => ?_)
        exact txI F hS dX6_hurtsSomebody_64 (nar01 (wkb (eqb hk_26) rfl rfl)) (⟨(wkb (eqb hk_26) rfl rfl), hH⟩)
set_option maxHeartbeats 4000000 in
set_option maxRecDepth 100000 in
theorem c_X6_isFutileOn (E : Ev) (rd : TD) (tp : TD) (kb : Int × Int) (Fa1 : Int × Int) (Fb1 : Int × Int) (Fa2 : Int × Int) (Fb2 : Int × Int) (Fa3 : Int × Int) (Fb3 : Int × Int) (Fa4 : Int × Int) (Fb4 : Int × Int) (kr : List Nat) (ks : List Nat) (Pd1 : (Nat → Int32) → Prop) (Pd2 : (Nat → Int32) → Prop) (Pd3 : (Nat → Int32) → Prop) (Pd4 : (Nat → Int32) → Prop) (Ps1 : (Nat → Int32) → Prop) (Ps2 : (Nat → Int32) → Prop) (Ps3 : (Nat → Int32) → Prop) (Ps4 : (Nat → Int32) → Prop) (Pi1 : (Nat → Int32) → Prop) (Pi2 : (Nat → Int32) → Prop) (Pi3 : (Nat → Int32) → Prop) (Pi4 : (Nat → Int32) → Prop) (t : Int) (a0 : Nat) (a1 : Int32) (a2 : Int32) (ha0 : eT E a0 ∈ [28]) (ha1 : 0 ≤ a1.toInt ∧ a1.toInt ≤ 13) (ha2 : 0 ≤ a2.toInt ∧ a2.toInt ≤ 13) (ht : 0 ≤ t ∧ t ≤ 400) (hFa1 : 0 ≤ Fa1.1 ∧ Fa1.2 ≤ 12) (hFb1 : 0 ≤ Fb1.1 ∧ Fb1.2 ≤ 14) (hFa2 : 0 ≤ Fa2.1 ∧ Fa2.2 ≤ 12) (hFb2 : 0 ≤ Fb2.1 ∧ Fb2.2 ≤ 14) (hFa3 : 0 ≤ Fa3.1 ∧ Fa3.2 ≤ 12) (hFb3 : 0 ≤ Fb3.1 ∧ Fb3.2 ≤ 14) (hFa4 : 0 ≤ Fa4.1 ∧ Fa4.2 ≤ 12) (hFb4 : 0 ≤ Fb4.1 ∧ Fb4.2 ≤ 14) (hkr : ∀ t ∈ kr, t ∈ [26, 27]) (hks : ∀ t ∈ ks, t ∈ [26, 27]) (hPd1 : ∀ f, Pd1 f → ivP 12 (-2) 11 f) (hPd2 : ∀ f, Pd2 f → ivP 12 (-2) 11 f) (hPd3 : ∀ f, Pd3 f → ivP 12 (-2) 11 f) (hPd4 : ∀ f, Pd4 f → ivP 12 (-2) 11 f) (hPs1 : ∀ f, Ps1 f → ivP 12 (-2147483648) 2147483647 f) (hPs2 : ∀ f, Ps2 f → ivP 12 (-2147483648) 2147483647 f) (hPs3 : ∀ f, Ps3 f → ivP 12 (-2147483648) 2147483647 f) (hPs4 : ∀ f, Ps4 f → ivP 12 (-2147483648) 2147483647 f) (hPi1 : ∀ f, Pi1 f → ivP 48 (-2147483648) 2147483647 f) (hPi2 : ∀ f, Pi2 f → ivP 48 (-2147483648) 2147483647 f) (hPi3 : ∀ f, Pi3 f → ivP 48 (-2147483648) 2147483647 f) (hPi4 : ∀ f, Pi4 f → ivP 48 (-2147483648) 2147483647 f) : TcI E yX6_isFutileOn cX6_isFutileOn 3 .boolean ({ frames := 4, cells := 0, slots := 0, locals := 103 }) [.ref a0, .int a1, .int a2] (fun H => TH E (tbC (dayD (.inl (0, 18))) (dayD (.inl (0, 18))) (riverD (.inl Fa1) (.inl Fb1) (.inl (0, 4)) 31 33 35 39 43 47) (riverD (.inl Fa2) (.inl Fb2) (.inl (0, 4)) 32 34 36 40 44 48) (rcD (.inl (t, t)) (.inr kr) (.inr ks) (.inl kb)) rd tp A14F A14F A4F A4F A14F A14F (riverD (.inl Fa3) (.inl Fb3) (.inl (0, 4)) 3 8 3 41 45 49) (riverD (.inl Fa4) (.inl Fb4) (.inl (0, 4)) 3 8 3 42 46 50) ((.inr (.inl (0, 12, Pd1)))) ((.inr (.inl (0, 12, Pd2)))) ((.inr (.inl (0, 12, Pd3)))) ((.inr (.inl (0, 12, Pd4)))) ((.inr (.inl (0, 12, Ps1)))) ((.inr (.inl (0, 12, Ps2)))) ((.inr (.inl (0, 12, Ps3)))) ((.inr (.inl (0, 12, Ps4)))) ((.inr (.inl (0, 48, Pi1)))) ((.inr (.inl (0, 48, Pi2)))) ((.inr (.inl (0, 48, Pi3)))) ((.inr (.inl (0, 48, Pi4))))) H) (fun v H => (0 ≤ v.toInt ∧ v.toInt ≤ 1) ∧ TH E (tbC (dayD (.inl (0, 18))) (dayD (.inl (0, 18))) (riverD (.inl Fa1) (.inl Fb1) (.inl (0, 4)) 31 33 35 39 43 47) (riverD (.inl Fa2) (.inl Fb2) (.inl (0, 4)) 32 34 36 40 44 48) (rcD (.inl (t, t)) (.inr kr) (.inr ks) (.inl kb)) rd tp A14F A14F A4F A4F A14F A14F (riverD (.inl Fa3) (.inl Fb3) (.inl (0, 4)) 3 8 3 41 45 49) (riverD (.inl Fa4) (.inl Fb4) (.inl (0, 4)) 3 8 3 42 46 50) ((.inr (.inl (0, 12, Pd1)))) ((.inr (.inl (0, 12, Pd2)))) ((.inr (.inl (0, 12, Pd3)))) ((.inr (.inl (0, 12, Pd4)))) ((.inr (.inl (0, 12, Ps1)))) ((.inr (.inl (0, 12, Ps2)))) ((.inr (.inl (0, 12, Ps3)))) ((.inr (.inl (0, 12, Ps4)))) ((.inr (.inl (0, 48, Pi1)))) ((.inr (.inl (0, 48, Pi2)))) ((.inr (.inl (0, 48, Pi3)))) ((.inr (.inl (0, 48, Pi4))))) H) := by
  refine teI (by decide) (Nat.le_of_ble_eq_true rfl) ?_
  intro p_ ev_ s mi_ below_ meth cd_ ls F hK hN hO hH hS hl
  have hH : TH E (tbC (dayD (.inl (0, 18))) (dayD (.inl (0, 18))) (riverD (.inl Fa1) (.inl Fb1) (.inl (0, 4)) 31 33 35 39 43 47) (riverD (.inl Fa2) (.inl Fb2) (.inl (0, 4)) 32 34 36 40 44 48) (rcD (.inl (t, t)) (.inr kr) (.inr ks) (.inl kb)) rd tp A14F A14F A4F A4F A14F A14F (riverD (.inl Fa3) (.inl Fb3) (.inl (0, 4)) 3 8 3 41 45 49) (riverD (.inl Fa4) (.inl Fb4) (.inl (0, 4)) 3 8 3 42 46 50) ((.inr (.inl (0, 12, Pd1)))) ((.inr (.inl (0, 12, Pd2)))) ((.inr (.inl (0, 12, Pd3)))) ((.inr (.inl (0, 12, Pd4)))) ((.inr (.inl (0, 12, Ps1)))) ((.inr (.inl (0, 12, Ps2)))) ((.inr (.inl (0, 12, Ps3)))) ((.inr (.inl (0, 12, Ps4)))) ((.inr (.inl (0, 48, Pi1)))) ((.inr (.inl (0, 48, Pi2)))) ((.inr (.inl (0, 48, Pi3)))) ((.inr (.inl (0, 48, Pi4))))) s.heap := hH
  have hl : lv_has ls 3 [(0, .ref a0), (1, .int a1), (2, .int a2)] := hl
  refine lv_aload_n F.1 F.2.1 dX6_isFutileOn_0 rfl (lv_at hl 0 rfl) ?_
  refine tGetR (j := 11) F hK hH (tyb ha0 (all1 rfl)) rfl (all1 rfl) clX6 (by decide) wd_2_7 dX6_isFutileOn_1 (fun q_1 hq_1 _ => ?_)
  refine lv_iload_n F.1 F.2.1 dX6_isFutileOn_4 rfl (lv_at hl 1 rfl) ?_
  refine tVi (b := q_1) (As := [.int a1]) (rest := []) F hK hN hO (c_X0_isShort E (rcD (.inl (t, t)) (.inr kr) (.inr ks) (.inl kb)) rd tp Fa1 Fb1 Fa2 Fb2 Fa3 Fb3 Fa4 Fb4 Pd1 Pd2 Pd3 Pd4 Ps1 Ps2 Ps3 Ps4 Pi1 Pi2 Pi3 Pi4 q_1 a1 (by have h9_ := hq_1; simp at h9_ ⊢; omega) ha1 hFa1 hFb1 hFa2 hFb2 hFa3 hFb3 hFa4 hFb4 hPd1 hPd2 hPd3 hPd4 hPs1 hPs2 hPs3 hPs4 hPi1 hPi2 hPi3 hPi4) mv_X0_isShort wd_45_18 ⟨Nat.le_of_ble_eq_true rfl, Nat.le_of_ble_eq_true rfl⟩ ⟨Nat.le_of_ble_eq_true rfl, Nat.le_of_ble_eq_true rfl⟩ hH hS (tRecv hK hH (tyb hq_1 (all1 rfl)) clX0) rfl hl.1 (Nat.le_of_ble_eq_true rfl) dX6_isFutileOn_5 (fun z_2 H locs hq hS => ?_)
  obtain ⟨f_3, hH⟩ := hq
  have hH : TH E (tbC (dayD (.inl (0, 18))) (dayD (.inl (0, 18))) (riverD (.inl Fa1) (.inl Fb1) (.inl (0, 4)) 31 33 35 39 43 47) (riverD (.inl Fa2) (.inl Fb2) (.inl (0, 4)) 32 34 36 40 44 48) (rcD (.inl (t, t)) (.inr kr) (.inr ks) (.inl kb)) rd tp A14F A14F A4F A4F A14F A14F (riverD (.inl Fa3) (.inl Fb3) (.inl (0, 4)) 3 8 3 41 45 49) (riverD (.inl Fa4) (.inl Fb4) (.inl (0, 4)) 3 8 3 42 46 50) ((.inr (.inl (0, 12, Pd1)))) ((.inr (.inl (0, 12, Pd2)))) ((.inr (.inl (0, 12, Pd3)))) ((.inr (.inl (0, 12, Pd4)))) ((.inr (.inl (0, 12, Ps1)))) ((.inr (.inl (0, 12, Ps2)))) ((.inr (.inl (0, 12, Ps3)))) ((.inr (.inl (0, 12, Ps4)))) ((.inr (.inl (0, 48, Pi1)))) ((.inr (.inl (0, 48, Pi2)))) ((.inr (.inl (0, 48, Pi3)))) ((.inr (.inl (0, 48, Pi4))))) H := hH
  refine z_eq (tgt := 76) F dX6_isFutileOn_8 (by decide) (fun c_4 => ?_) (fun c_4 => ?_)
  · skip
    have r_5 : 0 ≤ z_2.toInt ∧ z_2.toInt ≤ 0 := by have h9_ := f_3; omega
    refine lv_iconst (v := 0) F.1 F.2.1 dX6_isFutileOn_76 (by decide) ?_
    refine topK (a := 0) (by decide) (fun k_7 hk_7 => ?_)
    exact txI F hS dX6_isFutileOn_77 (nar01 (wkb (eqb hk_7) rfl rfl)) (⟨(wkb (eqb hk_7) rfl rfl), hH⟩)
  · skip
    have r_6 : 1 ≤ z_2.toInt ∧ z_2.toInt ≤ 1 := by have h9_ := f_3; omega
    refine lv_aload_n F.1 F.2.1 dX6_isFutileOn_11 rfl (lv_at hl 0 rfl) ?_
    refine tGetR (j := 4) F hK hH (tyb ha0 (all1 rfl)) rfl (all1 rfl) clX6 (by decide) wd_1_22 dX6_isFutileOn_12 (fun q_8 hq_8 _ => ?_)
    refine tGetR (j := 3) F hK hH (tyb hq_8 (all1 rfl)) rfl (all1 rfl) clX5 (by decide) wd_41_3 dX6_isFutileOn_15 (fun q_9 hq_9 _ => ?_)
    refine lv_iload_n F.1 F.2.1 dX6_isFutileOn_18 rfl (lv_at hl 2 rfl) ?_
    refine tIaldB F hK hH (tyb hq_9 (all1 rfl)) (ixb (n := 14) ha2 rfl rfl) dX6_isFutileOn_19 (fun z_10 hz_10 => ?_)
    refine lv_aload_n F.1 F.2.1 dX6_isFutileOn_20 rfl (lv_at hl 0 rfl) ?_
    refine tGetR (j := 4) F hK hH (tyb ha0 (all1 rfl)) rfl (all1 rfl) clX6 (by decide) wd_1_22 dX6_isFutileOn_21 (fun q_11 hq_11 _ => ?_)
    refine tGetR (j := 3) F hK hH (tyb hq_11 (all1 rfl)) rfl (all1 rfl) clX5 (by decide) wd_41_3 dX6_isFutileOn_24 (fun q_12 hq_12 _ => ?_)
    refine lv_iload_n F.1 F.2.1 dX6_isFutileOn_27 rfl (lv_at hl 1 rfl) ?_
    refine tIaldB F hK hH (tyb hq_12 (all1 rfl)) (ixb (n := 14) ha1 rfl rfl) dX6_isFutileOn_28 (fun z_13 hz_13 => ?_)
    refine b_le (tgt := 76) F dX6_isFutileOn_29 (by decide) (fun c_14 => ?_) (fun c_14 => ?_)
    · skip
      refine lv_iconst (v := 0) F.1 F.2.1 dX6_isFutileOn_76 (by decide) ?_
      refine topK (a := 0) (by decide) (fun k_15 hk_15 => ?_)
      exact txI F hS dX6_isFutileOn_77 (nar01 (wkb (eqb hk_15) rfl rfl)) (⟨(wkb (eqb hk_15) rfl rfl), hH⟩)
    · skip
      refine lv_aload_n F.1 F.2.1 dX6_isFutileOn_32 rfl (lv_at hl 0 rfl) ?_
      refine tGetR (j := 11) F hK hH (tyb ha0 (all1 rfl)) rfl (all1 rfl) clX6 (by decide) wd_2_7 dX6_isFutileOn_33 (fun q_16 hq_16 _ => ?_)
      refine tGetR (j := 8) F hK hH (tyb hq_16 (all1 rfl)) rfl (all1 rfl) clX0 (by decide) wd_43_3 dX6_isFutileOn_36 (fun q_17 hq_17 _ => ?_)
      refine lv_iload_n F.1 F.2.1 dX6_isFutileOn_39 rfl (lv_at hl 2 rfl) ?_
      refine tIaldB F hK hH (tyb hq_17 (all1 rfl)) (ixb (n := 18) ha2 rfl rfl) dX6_isFutileOn_40 (fun z_18 hz_18 => ?_)
      refine z_le (tgt := 76) F dX6_isFutileOn_41 (by decide) (fun c_19 => ?_) (fun c_19 => ?_)
      · skip
        have r_20 : (-2147483648) ≤ z_18.toInt ∧ z_18.toInt ≤ 0 := by have h9_ := hz_18; omega
        refine lv_iconst (v := 0) F.1 F.2.1 dX6_isFutileOn_76 (by decide) ?_
        refine topK (a := 0) (by decide) (fun k_22 hk_22 => ?_)
        exact txI F hS dX6_isFutileOn_77 (nar01 (wkb (eqb hk_22) rfl rfl)) (⟨(wkb (eqb hk_22) rfl rfl), hH⟩)
      · skip
        have r_21 : 1 ≤ z_18.toInt ∧ z_18.toInt ≤ 2147483647 := by have h9_ := hz_18; omega
        refine lv_aload_n F.1 F.2.1 dX6_isFutileOn_44 rfl (lv_at hl 0 rfl) ?_
        refine tGetR0 (j := 2) F hK hH (tyb ha0 (all1 rfl)) rfl clX6 (by decide) wd_1_17 dX6_isFutileOn_45 (fun q_23 hq_23 => ?_)
        refine lv_aload_n F.1 F.2.1 dX6_isFutileOn_48 rfl (lv_at hl 0 rfl) ?_
        refine tGetR (j := 4) F hK hH (tyb ha0 (all1 rfl)) rfl (all1 rfl) clX6 (by decide) wd_1_22 dX6_isFutileOn_49 (fun q_24 hq_24 _ => ?_)
        refine tGetR (j := 2) F hK hH (tyb hq_24 (all1 rfl)) rfl (all1 rfl) clX5 (by decide) wd_32_5 dX6_isFutileOn_52 (fun q_25 hq_25 _ => ?_)
        refine lv_iload_n F.1 F.2.1 dX6_isFutileOn_55 rfl (lv_at hl 2 rfl) ?_
        refine tIaldB F hK hH (tyb hq_25 (all1 rfl)) (ixb (n := 14) ha2 rfl rfl) dX6_isFutileOn_56 (fun z_26 hz_26 => ?_)
        refine lv_aload_n F.1 F.2.1 dX6_isFutileOn_57 rfl (lv_at hl 0 rfl) ?_
        refine tGetR (j := 4) F hK hH (tyb ha0 (all1 rfl)) rfl (all1 rfl) clX6 (by decide) wd_1_22 dX6_isFutileOn_58 (fun q_27 hq_27 _ => ?_)
        refine tGetR (j := 2) F hK hH (tyb hq_27 (all1 rfl)) rfl (all1 rfl) clX5 (by decide) wd_32_5 dX6_isFutileOn_61 (fun q_28 hq_28 _ => ?_)
        refine lv_iload_n F.1 F.2.1 dX6_isFutileOn_64 rfl (lv_at hl 1 rfl) ?_
        refine tIaldB F hK hH (tyb hq_28 (all1 rfl)) (ixb (n := 14) ha1 rfl rfl) dX6_isFutileOn_65 (fun z_29 hz_29 => ?_)
        refine tVi (b := q_23) (As := [.int z_26, .int z_29]) (rest := []) F hK hN hO (c_X2_runsTo E (dayD (.inl (0, 18))) (dayD (.inl (0, 18))) (rcD (.inl (t, t)) (.inr kr) (.inr ks) (.inl kb)) rd tp Fa1 Fb1 Fa2 Fb2 Fa3 Fb3 Fa4 Fb4 Pd1 Pd2 Pd3 Pd4 Ps1 Ps2 Ps3 Ps4 Pi1 Pi2 Pi3 Pi4 q_23 z_26 z_29 (by have h9_ := (hkr _ hq_23); simp at h9_ ⊢; omega) (wkb hz_26 rfl rfl) hFa1 hFb1 hFa2 hFb2 hFa3 hFb3 hFa4 hFb4 hPd1 hPd2 hPd3 hPd4 hPs1 hPs2 hPs3 hPs4 hPi1 hPi2 hPi3 hPi4) mv_X2_runsTo wd_32_11 ⟨Nat.le_of_ble_eq_true rfl, Nat.le_of_ble_eq_true rfl⟩ ⟨Nat.le_of_ble_eq_true rfl, Nat.le_of_ble_eq_true rfl⟩ hH hS (tRecvM hK hH (hkr _ hq_23) (alls ⟨_, rfl⟩ (alls1 ⟨_, rfl⟩)) clX2) rfl hl.1 (Nat.le_of_ble_eq_true rfl) dX6_isFutileOn_66 (fun z_30 H locs hq hS => ?_)
        obtain ⟨f_31, hH⟩ := hq
        have hH : TH E (tbC (dayD (.inl (0, 18))) (dayD (.inl (0, 18))) (riverD (.inl Fa1) (.inl Fb1) (.inl (0, 4)) 31 33 35 39 43 47) (riverD (.inl Fa2) (.inl Fb2) (.inl (0, 4)) 32 34 36 40 44 48) (rcD (.inl (t, t)) (.inr kr) (.inr ks) (.inl kb)) rd tp A14F A14F A4F A4F A14F A14F (riverD (.inl Fa3) (.inl Fb3) (.inl (0, 4)) 3 8 3 41 45 49) (riverD (.inl Fa4) (.inl Fb4) (.inl (0, 4)) 3 8 3 42 46 50) ((.inr (.inl (0, 12, Pd1)))) ((.inr (.inl (0, 12, Pd2)))) ((.inr (.inl (0, 12, Pd3)))) ((.inr (.inl (0, 12, Pd4)))) ((.inr (.inl (0, 12, Ps1)))) ((.inr (.inl (0, 12, Ps2)))) ((.inr (.inl (0, 12, Ps3)))) ((.inr (.inl (0, 12, Ps4)))) ((.inr (.inl (0, 48, Pi1)))) ((.inr (.inl (0, 48, Pi2)))) ((.inr (.inl (0, 48, Pi3)))) ((.inr (.inl (0, 48, Pi4))))) H := hH
        refine z_eq (tgt := 76) F dX6_isFutileOn_69 (by decide) (fun c_32 => ?_) (fun c_32 => ?_)
        · skip
          have r_33 : 0 ≤ z_30.toInt ∧ z_30.toInt ≤ 0 := by have h9_ := f_31; omega
          refine lv_iconst (v := 0) F.1 F.2.1 dX6_isFutileOn_76 (by decide) ?_
          refine topK (a := 0) (by decide) (fun k_35 hk_35 => ?_)
          exact txI F hS dX6_isFutileOn_77 (nar01 (wkb (eqb hk_35) rfl rfl)) (⟨(wkb (eqb hk_35) rfl rfl), hH⟩)
        · skip
          have r_34 : 1 ≤ z_30.toInt ∧ z_30.toInt ≤ 1 := by have h9_ := f_31; omega
          refine lv_iconst (v := 1) F.1 F.2.1 dX6_isFutileOn_72 (by decide) ?_
          refine topK (a := 1) (by decide) (fun k_36 hk_36 => ?_)
          refine lv_goto (tgt := 77) F.1 F.2.1 dX6_isFutileOn_73 (by decide) ?_
          exact txI F hS dX6_isFutileOn_77 (nar01 (wkb (eqb hk_36) rfl rfl)) (⟨(wkb (eqb hk_36) rfl rfl), hH⟩)
set_option maxHeartbeats 4000000 in
set_option maxRecDepth 100000 in
theorem c_X6_isFutileOnSome (E : Ev) (rd : TD) (tp : TD) (kb : Int × Int) (Fa1 : Int × Int) (Fb1 : Int × Int) (Fa2 : Int × Int) (Fb2 : Int × Int) (Fa3 : Int × Int) (Fb3 : Int × Int) (Fa4 : Int × Int) (Fb4 : Int × Int) (kr : List Nat) (ks : List Nat) (Pd1 : (Nat → Int32) → Prop) (Pd2 : (Nat → Int32) → Prop) (Pd3 : (Nat → Int32) → Prop) (Pd4 : (Nat → Int32) → Prop) (Ps1 : (Nat → Int32) → Prop) (Ps2 : (Nat → Int32) → Prop) (Ps3 : (Nat → Int32) → Prop) (Ps4 : (Nat → Int32) → Prop) (Pi1 : (Nat → Int32) → Prop) (Pi2 : (Nat → Int32) → Prop) (Pi3 : (Nat → Int32) → Prop) (Pi4 : (Nat → Int32) → Prop) (t : Int) (a0 : Nat) (a1 : Int32) (ha0 : eT E a0 ∈ [28]) (ha1 : 0 ≤ a1.toInt ∧ a1.toInt ≤ 13) (ht : 0 ≤ t ∧ t ≤ 400) (hFa1 : 0 ≤ Fa1.1 ∧ Fa1.2 ≤ 12) (hFb1 : 0 ≤ Fb1.1 ∧ Fb1.2 ≤ 14) (hFa2 : 0 ≤ Fa2.1 ∧ Fa2.2 ≤ 12) (hFb2 : 0 ≤ Fb2.1 ∧ Fb2.2 ≤ 14) (hFa3 : 0 ≤ Fa3.1 ∧ Fa3.2 ≤ 12) (hFb3 : 0 ≤ Fb3.1 ∧ Fb3.2 ≤ 14) (hFa4 : 0 ≤ Fa4.1 ∧ Fa4.2 ≤ 12) (hFb4 : 0 ≤ Fb4.1 ∧ Fb4.2 ≤ 14) (hkr : ∀ t ∈ kr, t ∈ [26, 27]) (hks : ∀ t ∈ ks, t ∈ [26, 27]) (hPd1 : ∀ f, Pd1 f → ivP 12 (-2) 11 f) (hPd2 : ∀ f, Pd2 f → ivP 12 (-2) 11 f) (hPd3 : ∀ f, Pd3 f → ivP 12 (-2) 11 f) (hPd4 : ∀ f, Pd4 f → ivP 12 (-2) 11 f) (hPs1 : ∀ f, Ps1 f → ivP 12 (-2147483648) 2147483647 f) (hPs2 : ∀ f, Ps2 f → ivP 12 (-2147483648) 2147483647 f) (hPs3 : ∀ f, Ps3 f → ivP 12 (-2147483648) 2147483647 f) (hPs4 : ∀ f, Ps4 f → ivP 12 (-2147483648) 2147483647 f) (hPi1 : ∀ f, Pi1 f → ivP 48 (-2147483648) 2147483647 f) (hPi2 : ∀ f, Pi2 f → ivP 48 (-2147483648) 2147483647 f) (hPi3 : ∀ f, Pi3 f → ivP 48 (-2147483648) 2147483647 f) (hPi4 : ∀ f, Pi4 f → ivP 48 (-2147483648) 2147483647 f) : TcI E yX6_isFutileOnSome cX6_isFutileOnSome 3 .boolean ({ frames := 5, cells := 0, slots := 0, locals := 125 }) [.ref a0, .int a1] (fun H => TH E (tbC (dayD (.inl (0, 18))) (dayD (.inl (0, 18))) (riverD (.inl Fa1) (.inl Fb1) (.inl (0, 4)) 31 33 35 39 43 47) (riverD (.inl Fa2) (.inl Fb2) (.inl (0, 4)) 32 34 36 40 44 48) (rcD (.inl (t, t)) (.inr kr) (.inr ks) (.inl kb)) rd tp A14F A14F A4F A4F A14F A14F (riverD (.inl Fa3) (.inl Fb3) (.inl (0, 4)) 3 8 3 41 45 49) (riverD (.inl Fa4) (.inl Fb4) (.inl (0, 4)) 3 8 3 42 46 50) ((.inr (.inl (0, 12, Pd1)))) ((.inr (.inl (0, 12, Pd2)))) ((.inr (.inl (0, 12, Pd3)))) ((.inr (.inl (0, 12, Pd4)))) ((.inr (.inl (0, 12, Ps1)))) ((.inr (.inl (0, 12, Ps2)))) ((.inr (.inl (0, 12, Ps3)))) ((.inr (.inl (0, 12, Ps4)))) ((.inr (.inl (0, 48, Pi1)))) ((.inr (.inl (0, 48, Pi2)))) ((.inr (.inl (0, 48, Pi3)))) ((.inr (.inl (0, 48, Pi4))))) H) (fun v H => (0 ≤ v.toInt ∧ v.toInt ≤ 1) ∧ TH E (tbC (dayD (.inl (0, 18))) (dayD (.inl (0, 18))) (riverD (.inl Fa1) (.inl Fb1) (.inl (0, 4)) 31 33 35 39 43 47) (riverD (.inl Fa2) (.inl Fb2) (.inl (0, 4)) 32 34 36 40 44 48) (rcD (.inl (t, t)) (.inr kr) (.inr ks) (.inl kb)) rd tp A14F A14F A4F A4F A14F A14F (riverD (.inl Fa3) (.inl Fb3) (.inl (0, 4)) 3 8 3 41 45 49) (riverD (.inl Fa4) (.inl Fb4) (.inl (0, 4)) 3 8 3 42 46 50) ((.inr (.inl (0, 12, Pd1)))) ((.inr (.inl (0, 12, Pd2)))) ((.inr (.inl (0, 12, Pd3)))) ((.inr (.inl (0, 12, Pd4)))) ((.inr (.inl (0, 12, Ps1)))) ((.inr (.inl (0, 12, Ps2)))) ((.inr (.inl (0, 12, Ps3)))) ((.inr (.inl (0, 12, Ps4)))) ((.inr (.inl (0, 48, Pi1)))) ((.inr (.inl (0, 48, Pi2)))) ((.inr (.inl (0, 48, Pi3)))) ((.inr (.inl (0, 48, Pi4))))) H) := by
  refine teI (by decide) (Nat.le_of_ble_eq_true rfl) ?_
  intro p_ ev_ s mi_ below_ meth cd_ ls F hK hN hO hH hS hl
  have hH : TH E (tbC (dayD (.inl (0, 18))) (dayD (.inl (0, 18))) (riverD (.inl Fa1) (.inl Fb1) (.inl (0, 4)) 31 33 35 39 43 47) (riverD (.inl Fa2) (.inl Fb2) (.inl (0, 4)) 32 34 36 40 44 48) (rcD (.inl (t, t)) (.inr kr) (.inr ks) (.inl kb)) rd tp A14F A14F A4F A4F A14F A14F (riverD (.inl Fa3) (.inl Fb3) (.inl (0, 4)) 3 8 3 41 45 49) (riverD (.inl Fa4) (.inl Fb4) (.inl (0, 4)) 3 8 3 42 46 50) ((.inr (.inl (0, 12, Pd1)))) ((.inr (.inl (0, 12, Pd2)))) ((.inr (.inl (0, 12, Pd3)))) ((.inr (.inl (0, 12, Pd4)))) ((.inr (.inl (0, 12, Ps1)))) ((.inr (.inl (0, 12, Ps2)))) ((.inr (.inl (0, 12, Ps3)))) ((.inr (.inl (0, 12, Ps4)))) ((.inr (.inl (0, 48, Pi1)))) ((.inr (.inl (0, 48, Pi2)))) ((.inr (.inl (0, 48, Pi3)))) ((.inr (.inl (0, 48, Pi4))))) s.heap := hH
  have hl : lv_has ls 3 [(0, .ref a0), (1, .int a1)] := hl
  refine lv_iconst (v := 0) F.1 F.2.1 dX6_isFutileOnSome_0 (by decide) ?_
  refine topK (a := 0) (by decide) (fun k_1 hk_1 => ?_)
  refine lv_istore_n (lv' := [(2, .int k_1), (0, .ref a0), (1, .int a1)]) F.1 F.2.1 dX6_isFutileOnSome_1 rfl hl (by decide) rfl (fun ls hl => ?_)
  refine wloop (σ := Int32) (fun n9 x9 H locs ls => (14 - x9.toInt + 1).toNat < n9 ∧ (0 ≤ x9.toInt ∧ x9.toInt ≤ 14) ∧ TH E (tbC (dayD (.inl (0, 18))) (dayD (.inl (0, 18))) (riverD (.inl Fa1) (.inl Fb1) (.inl (0, 4)) 31 33 35 39 43 47) (riverD (.inl Fa2) (.inl Fb2) (.inl (0, 4)) 32 34 36 40 44 48) (rcD (.inl (t, t)) (.inr kr) (.inr ks) (.inl kb)) rd tp A14F A14F A4F A4F A14F A14F (riverD (.inl Fa3) (.inl Fb3) (.inl (0, 4)) 3 8 3 41 45 49) (riverD (.inl Fa4) (.inl Fb4) (.inl (0, 4)) 3 8 3 42 46 50) ((.inr (.inl (0, 12, Pd1)))) ((.inr (.inl (0, 12, Pd2)))) ((.inr (.inl (0, 12, Pd3)))) ((.inr (.inl (0, 12, Pd4)))) ((.inr (.inl (0, 12, Ps1)))) ((.inr (.inl (0, 12, Ps2)))) ((.inr (.inl (0, 12, Ps3)))) ((.inr (.inl (0, 12, Ps4)))) ((.inr (.inl (0, 48, Pi1)))) ((.inr (.inl (0, 48, Pi2)))) ((.inr (.inl (0, 48, Pi3)))) ((.inr (.inl (0, 48, Pi4))))) H ∧ va_S (eA E s.heap.size) s.heap H locs ∧ lv_has ls 3 [(0, .ref a0), (1, .int a1), (2, .int x9)]) ?_ (fun x9 H locs ls h => absurd h.1 (Nat.not_lt_zero _)) _ (k_1) ⟨Nat.lt_succ_self _, (wkb (eqb hk_1) rfl rfl), hH, hS, lv_sub hl [1, 2, 0] rfl⟩
  intro n_2 ih_2 u_2 H locs ls ⟨hm_2, hu_2, hH, hS, hl⟩
  have hm_2 : (14 - u_2.toInt + 1).toNat < n_2 + 1 := hm_2
  have hu_2 : (0 ≤ u_2.toInt ∧ u_2.toInt ≤ 14) := hu_2
  have hH : TH E (tbC (dayD (.inl (0, 18))) (dayD (.inl (0, 18))) (riverD (.inl Fa1) (.inl Fb1) (.inl (0, 4)) 31 33 35 39 43 47) (riverD (.inl Fa2) (.inl Fb2) (.inl (0, 4)) 32 34 36 40 44 48) (rcD (.inl (t, t)) (.inr kr) (.inr ks) (.inl kb)) rd tp A14F A14F A4F A4F A14F A14F (riverD (.inl Fa3) (.inl Fb3) (.inl (0, 4)) 3 8 3 41 45 49) (riverD (.inl Fa4) (.inl Fb4) (.inl (0, 4)) 3 8 3 42 46 50) ((.inr (.inl (0, 12, Pd1)))) ((.inr (.inl (0, 12, Pd2)))) ((.inr (.inl (0, 12, Pd3)))) ((.inr (.inl (0, 12, Pd4)))) ((.inr (.inl (0, 12, Ps1)))) ((.inr (.inl (0, 12, Ps2)))) ((.inr (.inl (0, 12, Ps3)))) ((.inr (.inl (0, 12, Ps4)))) ((.inr (.inl (0, 48, Pi1)))) ((.inr (.inl (0, 48, Pi2)))) ((.inr (.inl (0, 48, Pi3)))) ((.inr (.inl (0, 48, Pi4))))) H := hH
  have hl : lv_has ls 3 [(0, .ref a0), (1, .int a1), (2, .int u_2)] := hl
  refine lv_iload_n F.1 F.2.1 dX6_isFutileOnSome_2 rfl (lv_at hl 2 rfl) ?_
  refine lv_aload_n F.1 F.2.1 dX6_isFutileOnSome_3 rfl (lv_at hl 0 rfl) ?_
  refine tGetR0 (j := 2) F hK hH (tyb ha0 (all1 rfl)) rfl clX6 (by decide) wd_1_17 dX6_isFutileOnSome_4 (fun q_3 hq_3 => ?_)
  refine tGetIB (j := 4) (lo := 0) (hi := 14) F hK hH (hkr _ hq_3) (alls ⟨_, _, rfl, rfl, by have h9_ := hFb1; omega⟩ (alls1 ⟨_, _, rfl, rfl, by have h9_ := hFb2; omega⟩)) clX2 (by decide) wd_8_18 dX6_isFutileOnSome_7 (fun z_4 hz_4 => ?_)
  refine b_ge (tgt := 35) F dX6_isFutileOnSome_10 (by decide) (fun c_5 => ?_) (fun c_5 => ?_)
  · skip
    refine lv_iconst (v := 0) F.1 F.2.1 dX6_isFutileOnSome_35 (by decide) ?_
    refine topK (a := 0) (by decide) (fun k_8 hk_8 => ?_)
    exact txI F hS dX6_isFutileOnSome_36 (nar01 (wkb (eqb hk_8) rfl rfl)) (⟨(wkb (eqb hk_8) rfl rfl), hH⟩)
  · skip
    have r_6 : 0 ≤ u_2.toInt ∧ u_2.toInt ≤ 13 := by have h9_ := hu_2; omega
    have r_7 : 1 ≤ z_4.toInt ∧ z_4.toInt ≤ 14 := by have h9_ := hz_4; omega
    refine lv_iload_n F.1 F.2.1 dX6_isFutileOnSome_13 rfl (lv_at hl 2 rfl) ?_
    refine lv_iload_n F.1 F.2.1 dX6_isFutileOnSome_14 rfl (lv_at hl 1 rfl) ?_
    refine b_eq (tgt := 29) F dX6_isFutileOnSome_15 (by decide) (fun c_9 => ?_) (fun c_9 => ?_)
    · skip
      obtain ⟨x_10, ex_10, hx_10⟩ := iincB (c := 1) (lo := 1) (hi := 14) r_6 rfl
      refine lv_iinc (v := x_10) (lv' := [(2, .int x_10), (0, .ref a0), (1, .int a1)]) F.1 F.2.1 dX6_isFutileOnSome_29 hl (k := 2) rfl ex_10 (by decide) rfl (fun ls hl => ?_)
      refine lv_goto (tgt := 2) F.1 F.2.1 dX6_isFutileOnSome_32 (by decide) ?_
      exact ih_2 (x_10) _ _ _ ⟨(show (14 - x_10.toInt + 1).toNat < n_2 from by omega), (wkb hx_10.2 rfl rfl), hH, hS, lv_sub hl [1, 2, 0] rfl⟩
    · skip
      refine lv_aload_n F.1 F.2.1 dX6_isFutileOnSome_18 rfl (lv_at hl 0 rfl) ?_
      refine lv_iload_n F.1 F.2.1 dX6_isFutileOnSome_19 rfl (lv_at hl 1 rfl) ?_
      refine lv_iload_n F.1 F.2.1 dX6_isFutileOnSome_20 rfl (lv_at hl 2 rfl) ?_
      refine tVi (b := a0) (As := [.int a1, .int u_2]) (rest := []) F hK hN hO (c_X6_isFutileOn E rd tp kb Fa1 Fb1 Fa2 Fb2 Fa3 Fb3 Fa4 Fb4 kr ks Pd1 Pd2 Pd3 Pd4 Ps1 Ps2 Ps3 Ps4 Pi1 Pi2 Pi3 Pi4 t a0 a1 u_2 ha0 ha1 r_6 (by omega) hFa1 hFb1 hFa2 hFb2 hFa3 hFb3 hFa4 hFb4 hkr hks hPd1 hPd2 hPd3 hPd4 hPs1 hPs2 hPs3 hPs4 hPi1 hPi2 hPi3 hPi4) mv_X6_isFutileOn wd_45_23 ⟨Nat.le_of_ble_eq_true rfl, Nat.le_of_ble_eq_true rfl⟩ ⟨Nat.le_of_ble_eq_true rfl, Nat.le_of_ble_eq_true rfl⟩ hH hS (tRecv hK hH (tyb ha0 (all1 rfl)) clX6) rfl hl.1 (Nat.le_of_ble_eq_true rfl) dX6_isFutileOnSome_21 (fun z_11 H locs hq hS => ?_)
      obtain ⟨f_12, hH⟩ := hq
      have hH : TH E (tbC (dayD (.inl (0, 18))) (dayD (.inl (0, 18))) (riverD (.inl Fa1) (.inl Fb1) (.inl (0, 4)) 31 33 35 39 43 47) (riverD (.inl Fa2) (.inl Fb2) (.inl (0, 4)) 32 34 36 40 44 48) (rcD (.inl (t, t)) (.inr kr) (.inr ks) (.inl kb)) rd tp A14F A14F A4F A4F A14F A14F (riverD (.inl Fa3) (.inl Fb3) (.inl (0, 4)) 3 8 3 41 45 49) (riverD (.inl Fa4) (.inl Fb4) (.inl (0, 4)) 3 8 3 42 46 50) ((.inr (.inl (0, 12, Pd1)))) ((.inr (.inl (0, 12, Pd2)))) ((.inr (.inl (0, 12, Pd3)))) ((.inr (.inl (0, 12, Pd4)))) ((.inr (.inl (0, 12, Ps1)))) ((.inr (.inl (0, 12, Ps2)))) ((.inr (.inl (0, 12, Ps3)))) ((.inr (.inl (0, 12, Ps4)))) ((.inr (.inl (0, 48, Pi1)))) ((.inr (.inl (0, 48, Pi2)))) ((.inr (.inl (0, 48, Pi3)))) ((.inr (.inl (0, 48, Pi4))))) H := hH
      refine z_eq (tgt := 29) F dX6_isFutileOnSome_24 (by decide) (fun c_13 => ?_) (fun c_13 => ?_)
      · skip
        have r_14 : 0 ≤ z_11.toInt ∧ z_11.toInt ≤ 0 := by have h9_ := f_12; omega
        obtain ⟨x_16, ex_16, hx_16⟩ := iincB (c := 1) (lo := 1) (hi := 14) r_6 rfl
        refine lv_iinc (v := x_16) (lv' := [(2, .int x_16), (0, .ref a0), (1, .int a1)]) F.1 F.2.1 dX6_isFutileOnSome_29 hl (k := 2) rfl ex_16 (by decide) rfl (fun ls hl => ?_)
        refine lv_goto (tgt := 2) F.1 F.2.1 dX6_isFutileOnSome_32 (by decide) ?_
        exact ih_2 (x_16) _ _ _ ⟨(show (14 - x_16.toInt + 1).toNat < n_2 from by omega), (wkb hx_16.2 rfl rfl), hH, hS, lv_sub hl [1, 2, 0] rfl⟩
      · skip
        have r_15 : 1 ≤ z_11.toInt ∧ z_11.toInt ≤ 1 := by have h9_ := f_12; omega
        refine lv_iconst (v := 1) F.1 F.2.1 dX6_isFutileOnSome_27 (by decide) ?_
        refine topK (a := 1) (by decide) (fun k_17 hk_17 => ?_)
        exact txI F hS dX6_isFutileOnSome_28 (nar01 (wkb (eqb hk_17) rfl rfl)) (⟨(wkb (eqb hk_17) rfl rfl), hH⟩)
set_option maxHeartbeats 4000000 in
set_option maxRecDepth 100000 in
theorem c_X6_days (E : Ev) (rd : TD) (tp : TD) (kb : Int × Int) (Fa1 : Int × Int) (Fb1 : Int × Int) (Fa2 : Int × Int) (Fb2 : Int × Int) (Fa3 : Int × Int) (Fb3 : Int × Int) (Fa4 : Int × Int) (Fb4 : Int × Int) (kr : List Nat) (ks : List Nat) (Pd1 : (Nat → Int32) → Prop) (Pd2 : (Nat → Int32) → Prop) (Pd3 : (Nat → Int32) → Prop) (Pd4 : (Nat → Int32) → Prop) (Ps1 : (Nat → Int32) → Prop) (Ps2 : (Nat → Int32) → Prop) (Ps3 : (Nat → Int32) → Prop) (Ps4 : (Nat → Int32) → Prop) (Pi1 : (Nat → Int32) → Prop) (Pi2 : (Nat → Int32) → Prop) (Pi3 : (Nat → Int32) → Prop) (Pi4 : (Nat → Int32) → Prop) (t : Int) (a0 : Nat) (a1 : Int32) (ha0 : eT E a0 ∈ [28]) (ht : 0 ≤ t ∧ t ≤ 400) (hFa1 : 0 ≤ Fa1.1 ∧ Fa1.2 ≤ 12) (hFb1 : 0 ≤ Fb1.1 ∧ Fb1.2 ≤ 14) (hFa2 : 0 ≤ Fa2.1 ∧ Fa2.2 ≤ 12) (hFb2 : 0 ≤ Fb2.1 ∧ Fb2.2 ≤ 14) (hFa3 : 0 ≤ Fa3.1 ∧ Fa3.2 ≤ 12) (hFb3 : 0 ≤ Fb3.1 ∧ Fb3.2 ≤ 14) (hFa4 : 0 ≤ Fa4.1 ∧ Fa4.2 ≤ 12) (hFb4 : 0 ≤ Fb4.1 ∧ Fb4.2 ≤ 14) (hkr : ∀ t ∈ kr, t ∈ [26, 27]) (hks : ∀ t ∈ ks, t ∈ [26, 27]) (hPd1 : ∀ f, Pd1 f → ivP 12 (-2) 11 f) (hPd2 : ∀ f, Pd2 f → ivP 12 (-2) 11 f) (hPd3 : ∀ f, Pd3 f → ivP 12 (-2) 11 f) (hPd4 : ∀ f, Pd4 f → ivP 12 (-2) 11 f) (hPs1 : ∀ f, Ps1 f → ivP 12 (-2147483648) 2147483647 f) (hPs2 : ∀ f, Ps2 f → ivP 12 (-2147483648) 2147483647 f) (hPs3 : ∀ f, Ps3 f → ivP 12 (-2147483648) 2147483647 f) (hPs4 : ∀ f, Ps4 f → ivP 12 (-2147483648) 2147483647 f) (hPi1 : ∀ f, Pi1 f → ivP 48 (-2147483648) 2147483647 f) (hPi2 : ∀ f, Pi2 f → ivP 48 (-2147483648) 2147483647 f) (hPi3 : ∀ f, Pi3 f → ivP 48 (-2147483648) 2147483647 f) (hPi4 : ∀ f, Pi4 f → ivP 48 (-2147483648) 2147483647 f) : TcI E yX6_days cX6_days 3 .int ({ frames := 5, cells := 0, slots := 0, locals := 139 }) [.ref a0, .int a1] (fun H => TH E (tbC (dayD (.inl (0, 18))) (dayD (.inl (0, 18))) (riverD (.inl Fa1) (.inl Fb1) (.inl (0, 4)) 31 33 35 39 43 47) (riverD (.inl Fa2) (.inl Fb2) (.inl (0, 4)) 32 34 36 40 44 48) (rcD (.inl (t, t)) (.inr kr) (.inr ks) (.inl kb)) rd tp A14F A14F A4F A4F A14F A14F (riverD (.inl Fa3) (.inl Fb3) (.inl (0, 4)) 3 8 3 41 45 49) (riverD (.inl Fa4) (.inl Fb4) (.inl (0, 4)) 3 8 3 42 46 50) ((.inr (.inl (0, 12, Pd1)))) ((.inr (.inl (0, 12, Pd2)))) ((.inr (.inl (0, 12, Pd3)))) ((.inr (.inl (0, 12, Pd4)))) ((.inr (.inl (0, 12, Ps1)))) ((.inr (.inl (0, 12, Ps2)))) ((.inr (.inl (0, 12, Ps3)))) ((.inr (.inl (0, 12, Ps4)))) ((.inr (.inl (0, 48, Pi1)))) ((.inr (.inl (0, 48, Pi2)))) ((.inr (.inl (0, 48, Pi3)))) ((.inr (.inl (0, 48, Pi4))))) H) (fun v H => ((-2147483648) ≤ v.toInt ∧ v.toInt ≤ 2147483647) ∧ TH E (tbC (dayD (.inl (0, 18))) (dayD (.inl (0, 18))) (riverD (.inl Fa1) (.inl Fb1) (.inl (0, 4)) 31 33 35 39 43 47) (riverD (.inl Fa2) (.inl Fb2) (.inl (0, 4)) 32 34 36 40 44 48) (rcD (.inl (t, t)) (.inr kr) (.inr ks) (.inl kb)) rd tp A14F A14F A4F A4F A14F A14F (riverD (.inl Fa3) (.inl Fb3) (.inl (0, 4)) 3 8 3 41 45 49) (riverD (.inl Fa4) (.inl Fb4) (.inl (0, 4)) 3 8 3 42 46 50) ((.inr (.inl (0, 12, Pd1)))) ((.inr (.inl (0, 12, Pd2)))) ((.inr (.inl (0, 12, Pd3)))) ((.inr (.inl (0, 12, Pd4)))) ((.inr (.inl (0, 12, Ps1)))) ((.inr (.inl (0, 12, Ps2)))) ((.inr (.inl (0, 12, Ps3)))) ((.inr (.inl (0, 12, Ps4)))) ((.inr (.inl (0, 48, Pi1)))) ((.inr (.inl (0, 48, Pi2)))) ((.inr (.inl (0, 48, Pi3)))) ((.inr (.inl (0, 48, Pi4))))) H) := by
  refine teI (by decide) (Nat.le_of_ble_eq_true rfl) ?_
  intro p_ ev_ s mi_ below_ meth cd_ ls F hK hN hO hH hS hl
  have hH : TH E (tbC (dayD (.inl (0, 18))) (dayD (.inl (0, 18))) (riverD (.inl Fa1) (.inl Fb1) (.inl (0, 4)) 31 33 35 39 43 47) (riverD (.inl Fa2) (.inl Fb2) (.inl (0, 4)) 32 34 36 40 44 48) (rcD (.inl (t, t)) (.inr kr) (.inr ks) (.inl kb)) rd tp A14F A14F A4F A4F A14F A14F (riverD (.inl Fa3) (.inl Fb3) (.inl (0, 4)) 3 8 3 41 45 49) (riverD (.inl Fa4) (.inl Fb4) (.inl (0, 4)) 3 8 3 42 46 50) ((.inr (.inl (0, 12, Pd1)))) ((.inr (.inl (0, 12, Pd2)))) ((.inr (.inl (0, 12, Pd3)))) ((.inr (.inl (0, 12, Pd4)))) ((.inr (.inl (0, 12, Ps1)))) ((.inr (.inl (0, 12, Ps2)))) ((.inr (.inl (0, 12, Ps3)))) ((.inr (.inl (0, 12, Ps4)))) ((.inr (.inl (0, 48, Pi1)))) ((.inr (.inl (0, 48, Pi2)))) ((.inr (.inl (0, 48, Pi3)))) ((.inr (.inl (0, 48, Pi4))))) s.heap := hH
  have hl : lv_has ls 3 [(0, .ref a0), (1, .int a1)] := hl
  refine lv_iload_n F.1 F.2.1 dX6_days_0 rfl (lv_at hl 1 rfl) ?_
  refine lv_iconst (v := 1) F.1 F.2.1 dX6_days_1 (by decide) ?_
  refine topK (a := 1) (by decide) (fun k_1 hk_1 => ?_)
  refine b_lt (tgt := 11) F dX6_days_2 (by decide) (fun c_2 => ?_) (fun c_2 => ?_)
  · skip
    have r_3 : (-2147483648) ≤ a1.toInt ∧ a1.toInt ≤ 0 := by have h9_ := (i32b a1); omega
    refine lv_iconst (v := (-1)) F.1 F.2.1 dX6_days_11 (by decide) ?_
    refine topK (a := (-1)) (by decide) (fun k_5 hk_5 => ?_)
    exact txI F hS dX6_days_12 rfl (⟨(wkb (eqb hk_5) rfl rfl), hH⟩)
  · skip
    have r_4 : 1 ≤ a1.toInt ∧ a1.toInt ≤ 2147483647 := by have h9_ := (i32b a1); omega
    refine lv_iload_n F.1 F.2.1 dX6_days_5 rfl (lv_at hl 1 rfl) ?_
    refine lv_bipush (v := 60) F.1 F.2.1 dX6_days_6 (by decide) ?_
    refine topK (a := 60) (by decide) (fun k_6 hk_6 => ?_)
    refine b_le (tgt := 13) F dX6_days_8 (by decide) (fun c_7 => ?_) (fun c_7 => ?_)
    · skip
      have r_8 : 1 ≤ a1.toInt ∧ a1.toInt ≤ 60 := by have h9_ := r_4; omega
      refine lv_aload_n F.1 F.2.1 dX6_days_13 rfl (lv_at hl 0 rfl) ?_
      refine tVv (b := a0) (As := []) (rest := []) F hK hN hO (c_X6_remember E rd tp kb Fa1 Fb1 Fa2 Fb2 Fa3 Fb3 Fa4 Fb4 kr ks Pd1 Pd2 Pd3 Pd4 Ps1 Ps2 Ps3 Ps4 Pi1 Pi2 Pi3 Pi4 t a0 ha0 (by omega) hFa1 hFb1 hFa2 hFb2 hFa3 hFb3 hFa4 hFb4 hkr hks hPd1 hPd2 hPd3 hPd4 hPs1 hPs2 hPs3 hPs4 hPi1 hPi2 hPi3 hPi4) mv_X6_remember wd_19_13 ⟨Nat.le_of_ble_eq_true rfl, Nat.le_of_ble_eq_true rfl⟩ ⟨Nat.le_of_ble_eq_true rfl, Nat.le_of_ble_eq_true rfl⟩ hH hS (tRecv hK hH (tyb ha0 (all1 rfl)) clX6) rfl hl.1 (Nat.le_of_ble_eq_true rfl) dX6_days_14 (fun H locs hq hS => ?_)
      have hH := hq
      have hH : TH E (tbC (dayD (.inl (0, 18))) (dayD (.inl (0, 18))) (riverD (.inl Fa1) (.inl Fb1) (.inl (0, 4)) 31 33 35 39 43 47) (riverD (.inl Fa2) (.inl Fb2) (.inl (0, 4)) 32 34 36 40 44 48) (rcD (.inl (t, t)) (.inr kr) (.inr ks) (.inl kb)) rd tp A14F A14F A4F A4F A14F A14F (riverD (.inl Fa3) (.inl Fb3) (.inl (0, 4)) 3 8 3 41 45 49) (riverD (.inl Fa4) (.inl Fb4) (.inl (0, 4)) 3 8 3 42 46 50) ((.inr (.inl (0, 12, Pd1)))) ((.inr (.inl (0, 12, Pd2)))) ((.inr (.inl (0, 12, Pd3)))) ((.inr (.inl (0, 12, Pd4)))) ((.inr (.inl (0, 12, Ps1)))) ((.inr (.inl (0, 12, Ps2)))) ((.inr (.inl (0, 12, Ps3)))) ((.inr (.inl (0, 12, Ps4)))) ((.inr (.inl (0, 48, Pi1)))) ((.inr (.inl (0, 48, Pi2)))) ((.inr (.inl (0, 48, Pi3)))) ((.inr (.inl (0, 48, Pi4))))) H := hH
      refine lv_aload_n F.1 F.2.1 dX6_days_17 rfl (lv_at hl 0 rfl) ?_
      refine tGetR (j := 11) F hK hH (tyb ha0 (all1 rfl)) rfl (all1 rfl) clX6 (by decide) wd_2_7 dX6_days_18 (fun q_11 hq_11 _ => ?_)
      refine lv_aload_n F.1 F.2.1 dX6_days_21 rfl (lv_at hl 0 rfl) ?_
      refine tGetR0 (j := 2) F hK hH (tyb ha0 (all1 rfl)) rfl clX6 (by decide) wd_1_17 dX6_days_22 (fun q_12 hq_12 => ?_)
      refine lv_aload_n F.1 F.2.1 dX6_days_25 rfl (lv_at hl 0 rfl) ?_
      refine tGetR (j := 4) F hK hH (tyb ha0 (all1 rfl)) rfl (all1 rfl) clX6 (by decide) wd_1_22 dX6_days_26 (fun q_13 hq_13 _ => ?_)
      refine tVv (b := q_11) (As := [.ref q_12, .ref q_13]) (rest := []) F hK hN hO (c_X0_open_A E (dayD (.inl (0, 18))) (rcD (.inl (t, t)) (.inr kr) (.inr ks) (.inl kb)) rd tp Fa1 Fb1 Fa2 Fb2 Fa3 Fb3 Fa4 Fb4 Pd1 Pd2 Pd3 Pd4 Ps1 Ps2 Ps3 Ps4 Pi1 Pi2 Pi3 Pi4 q_11 q_12 q_13 hq_11 (hkr _ hq_12) hq_13 hFa1 hFb1 hFa2 hFb2 hFa3 hFb3 hFa4 hFb4 hPd1 hPd2 hPd3 hPd4 hPs1 hPs2 hPs3 hPs4 hPi1 hPi2 hPi3 hPi4) mv_X0_open wd_19_23 ⟨Nat.le_of_ble_eq_true rfl, Nat.le_of_ble_eq_true rfl⟩ ⟨Nat.le_of_ble_eq_true rfl, Nat.le_of_ble_eq_true rfl⟩ hH hS (tRecv hK hH (tyb hq_11 (all1 rfl)) clX0) rfl hl.1 (Nat.le_of_ble_eq_true rfl) dX6_days_29 (fun H locs hq hS => ?_)
      have hH := hq
      have hH : TH E (tbC (dayD (.inl (0, 18))) (dayD (.inl (0, 18))) (riverD (.inl Fa1) (.inl Fb1) (.inl (0, 4)) 31 33 35 39 43 47) (riverD (.inl Fa2) (.inl Fb2) (.inl (0, 4)) 32 34 36 40 44 48) (rcD (.inl (t, t)) (.inr kr) (.inr ks) (.inl kb)) rd tp A14F A14F A4F A4F A14F A14F (riverD (.inl Fa3) (.inl Fb3) (.inl (0, 4)) 3 8 3 41 45 49) (riverD (.inl Fa4) (.inl Fb4) (.inl (0, 4)) 3 8 3 42 46 50) ((.inr (.inl (0, 12, Pd1)))) ((.inr (.inl (0, 12, Pd2)))) ((.inr (.inl (0, 12, Pd3)))) ((.inr (.inl (0, 12, Pd4)))) ((.inr (.inl (0, 12, Ps1)))) ((.inr (.inl (0, 12, Ps2)))) ((.inr (.inl (0, 12, Ps3)))) ((.inr (.inl (0, 12, Ps4)))) ((.inr (.inl (0, 48, Pi1)))) ((.inr (.inl (0, 48, Pi2)))) ((.inr (.inl (0, 48, Pi3)))) ((.inr (.inl (0, 48, Pi4))))) H := hH
      refine lv_iconst (v := 0) F.1 F.2.1 dX6_days_32 (by decide) ?_
      refine topK (a := 0) (by decide) (fun k_15 hk_15 => ?_)
      refine lv_istore_n (lv' := [(2, .int k_15), (0, .ref a0), (1, .int a1)]) F.1 F.2.1 dX6_days_33 rfl hl (by decide) rfl (fun ls hl => ?_)
      refine wloop (σ := Int32) (fun n9 x9 H locs ls => (60 - x9.toInt + 1).toNat < n9 ∧ (0 ≤ x9.toInt ∧ x9.toInt ≤ 60) ∧ TH E (tbC (dayD (.inl (0, 18))) (dayD (.inl (0, 18))) (riverD (.inl Fa1) (.inl Fb1) (.inl (0, 4)) 31 33 35 39 43 47) (riverD (.inl Fa2) (.inl Fb2) (.inl (0, 4)) 32 34 36 40 44 48) (rcD (.inl (t, t)) (.inr kr) (.inr ks) (.inl kb)) rd tp A14F A14F A4F A4F A14F A14F (riverD (.inl Fa3) (.inl Fb3) (.inl (0, 4)) 3 8 3 41 45 49) (riverD (.inl Fa4) (.inl Fb4) (.inl (0, 4)) 3 8 3 42 46 50) ((.inr (.inl (0, 12, Pd1)))) ((.inr (.inl (0, 12, Pd2)))) ((.inr (.inl (0, 12, Pd3)))) ((.inr (.inl (0, 12, Pd4)))) ((.inr (.inl (0, 12, Ps1)))) ((.inr (.inl (0, 12, Ps2)))) ((.inr (.inl (0, 12, Ps3)))) ((.inr (.inl (0, 12, Ps4)))) ((.inr (.inl (0, 48, Pi1)))) ((.inr (.inl (0, 48, Pi2)))) ((.inr (.inl (0, 48, Pi3)))) ((.inr (.inl (0, 48, Pi4))))) H ∧ va_S (eA E s.heap.size) s.heap H locs ∧ lv_has ls 3 [(0, .ref a0), (1, .int a1), (2, .int x9)]) ?_ (fun x9 H locs ls h => absurd h.1 (Nat.not_lt_zero _)) _ (k_15) ⟨Nat.lt_succ_self _, (wkb (eqb hk_15) rfl rfl), hH, hS, lv_sub hl [1, 2, 0] rfl⟩
      intro n_34 ih_34 u_16 H locs ls ⟨hm_34, hu_16, hH, hS, hl⟩
      have hm_34 : (60 - u_16.toInt + 1).toNat < n_34 + 1 := hm_34
      have hu_16 : (0 ≤ u_16.toInt ∧ u_16.toInt ≤ 60) := hu_16
      have hH : TH E (tbC (dayD (.inl (0, 18))) (dayD (.inl (0, 18))) (riverD (.inl Fa1) (.inl Fb1) (.inl (0, 4)) 31 33 35 39 43 47) (riverD (.inl Fa2) (.inl Fb2) (.inl (0, 4)) 32 34 36 40 44 48) (rcD (.inl (t, t)) (.inr kr) (.inr ks) (.inl kb)) rd tp A14F A14F A4F A4F A14F A14F (riverD (.inl Fa3) (.inl Fb3) (.inl (0, 4)) 3 8 3 41 45 49) (riverD (.inl Fa4) (.inl Fb4) (.inl (0, 4)) 3 8 3 42 46 50) ((.inr (.inl (0, 12, Pd1)))) ((.inr (.inl (0, 12, Pd2)))) ((.inr (.inl (0, 12, Pd3)))) ((.inr (.inl (0, 12, Pd4)))) ((.inr (.inl (0, 12, Ps1)))) ((.inr (.inl (0, 12, Ps2)))) ((.inr (.inl (0, 12, Ps3)))) ((.inr (.inl (0, 12, Ps4)))) ((.inr (.inl (0, 48, Pi1)))) ((.inr (.inl (0, 48, Pi2)))) ((.inr (.inl (0, 48, Pi3)))) ((.inr (.inl (0, 48, Pi4))))) H := hH
      have hl : lv_has ls 3 [(0, .ref a0), (1, .int a1), (2, .int u_16)] := hl
      refine lv_iload_n F.1 F.2.1 dX6_days_34 rfl (lv_at hl 2 rfl) ?_
      refine lv_iload_n F.1 F.2.1 dX6_days_35 rfl (lv_at hl 1 rfl) ?_
      refine b_ge (tgt := 59) F dX6_days_36 (by decide) (fun c_17 => ?_) (fun c_17 => ?_)
      · skip
        have r_18 : 1 ≤ u_16.toInt ∧ u_16.toInt ≤ 60 := by have h9_ := hu_16; omega
        refine lv_aload_n F.1 F.2.1 dX6_days_59 rfl (lv_at hl 0 rfl) ?_
        refine tGetR (j := 4) F hK hH (tyb ha0 (all1 rfl)) rfl (all1 rfl) clX6 (by decide) wd_1_22 dX6_days_60 (fun q_20 hq_20 _ => ?_)
        refine tGetI (j := 0) F hK hH (tyb hq_20 (all1 rfl)) rfl clX5 (by decide) wd_19_12 dX6_days_63 (fun z_21 hz_21 => ?_)
        exact txI F hS dX6_days_66 rfl (⟨(wkb hz_21 rfl rfl), hH⟩)
      · skip
        have r_19 : 0 ≤ u_16.toInt ∧ u_16.toInt ≤ 59 := by have h9_ := hu_16; omega
        refine lv_aload_n F.1 F.2.1 dX6_days_39 rfl (lv_at hl 0 rfl) ?_
        refine tGetR (j := 11) F hK hH (tyb ha0 (all1 rfl)) rfl (all1 rfl) clX6 (by decide) wd_2_7 dX6_days_40 (fun q_22 hq_22 _ => ?_)
        refine tVv (b := q_22) (As := []) (rest := []) F hK hN hO (c_X0_work E (rcD (.inl (t, t)) (.inr kr) (.inr ks) (.inl kb)) rd tp Fa1 Fb1 Fa2 Fb2 Fa3 Fb3 Fa4 Fb4 Pd1 Pd2 Pd3 Pd4 Ps1 Ps2 Ps3 Ps4 Pi1 Pi2 Pi3 Pi4 q_22 (by have h9_ := hq_22; simp at h9_ ⊢; omega) hFa1 hFb1 hFa2 hFb2 hFa3 hFb3 hFa4 hFb4 hPd1 hPd2 hPd3 hPd4 hPs1 hPs2 hPs3 hPs4 hPi1 hPi2 hPi3 hPi4) mv_X0_work wd_20_18 ⟨Nat.le_of_ble_eq_true rfl, Nat.le_of_ble_eq_true rfl⟩ ⟨Nat.le_of_ble_eq_true rfl, Nat.le_of_ble_eq_true rfl⟩ hH hS (tRecv hK hH (tyb hq_22 (all1 rfl)) clX0) rfl hl.1 (Nat.le_of_ble_eq_true rfl) dX6_days_43 (fun H locs hq hS => ?_)
        have hH := hq
        have hH : TH E (tbC (dayD (.inl (0, 18))) (dayD (.inl (0, 18))) (riverD (.inl Fa1) (.inl Fb1) (.inl (0, 4)) 31 33 35 39 43 47) (riverD (.inl Fa2) (.inl Fb2) (.inl (0, 4)) 32 34 36 40 44 48) (rcD (.inl (t, t)) (.inr kr) (.inr ks) (.inl kb)) rd tp A14F A14F A4F A4F A14F A14F (riverD (.inl Fa3) (.inl Fb3) (.inl (0, 4)) 3 8 3 41 45 49) (riverD (.inl Fa4) (.inl Fb4) (.inl (0, 4)) 3 8 3 42 46 50) ((.inr (.inl (0, 12, Pd1)))) ((.inr (.inl (0, 12, Pd2)))) ((.inr (.inl (0, 12, Pd3)))) ((.inr (.inl (0, 12, Pd4)))) ((.inr (.inl (0, 12, Ps1)))) ((.inr (.inl (0, 12, Ps2)))) ((.inr (.inl (0, 12, Ps3)))) ((.inr (.inl (0, 12, Ps4)))) ((.inr (.inl (0, 48, Pi1)))) ((.inr (.inl (0, 48, Pi2)))) ((.inr (.inl (0, 48, Pi3)))) ((.inr (.inl (0, 48, Pi4))))) H := hH
        refine lv_aload_n F.1 F.2.1 dX6_days_46 rfl (lv_at hl 0 rfl) ?_
        refine tGetR (j := 11) F hK hH (tyb ha0 (all1 rfl)) rfl (all1 rfl) clX6 (by decide) wd_2_7 dX6_days_47 (fun q_24 hq_24 _ => ?_)
        refine tVv (b := q_24) (As := []) (rest := []) F hK hN hO (c_X0_pass E (rcD (.inl (t, t)) (.inr kr) (.inr ks) (.inl kb)) rd tp Fa1 Fb1 Fa2 Fb2 Fa3 Fb3 Fa4 Fb4 Pd1 Pd2 Pd3 Pd4 Ps1 Ps2 Ps3 Ps4 Pi1 Pi2 Pi3 Pi4 q_24 (by have h9_ := hq_24; simp at h9_ ⊢; omega) hFa1 hFb1 hFa2 hFb2 hFa3 hFb3 hFa4 hFb4 hPd1 hPd2 hPd3 hPd4 hPs1 hPs2 hPs3 hPs4 hPi1 hPi2 hPi3 hPi4) mv_X0_pass wd_24_1 ⟨Nat.le_of_ble_eq_true rfl, Nat.le_of_ble_eq_true rfl⟩ ⟨Nat.le_of_ble_eq_true rfl, Nat.le_of_ble_eq_true rfl⟩ hH hS (tRecv hK hH (tyb hq_24 (all1 rfl)) clX0) rfl hl.1 (Nat.le_of_ble_eq_true rfl) dX6_days_50 (fun H locs hq hS => ?_)
        have hH := hq
        have hH : TH E (tbC (dayD (.inl (0, 18))) (dayD (.inl (0, 18))) (riverD (.inl Fa1) (.inl Fb1) (.inl (0, 4)) 31 33 35 39 43 47) (riverD (.inl Fa2) (.inl Fb2) (.inl (0, 4)) 32 34 36 40 44 48) (rcD (.inl (t, t)) (.inr kr) (.inr ks) (.inl kb)) rd tp A14F A14F A4F A4F A14F A14F (riverD (.inl Fa3) (.inl Fb3) (.inl (0, 4)) 3 8 3 41 45 49) (riverD (.inl Fa4) (.inl Fb4) (.inl (0, 4)) 3 8 3 42 46 50) ((.inr (.inl (0, 12, Pd1)))) ((.inr (.inl (0, 12, Pd2)))) ((.inr (.inl (0, 12, Pd3)))) ((.inr (.inl (0, 12, Pd4)))) ((.inr (.inl (0, 12, Ps1)))) ((.inr (.inl (0, 12, Ps2)))) ((.inr (.inl (0, 12, Ps3)))) ((.inr (.inl (0, 12, Ps4)))) ((.inr (.inl (0, 48, Pi1)))) ((.inr (.inl (0, 48, Pi2)))) ((.inr (.inl (0, 48, Pi3)))) ((.inr (.inl (0, 48, Pi4))))) H := hH
        obtain ⟨x_26, ex_26, hx_26⟩ := iincB (c := 1) (lo := 1) (hi := 60) r_19 rfl
        refine lv_iinc (v := x_26) (lv' := [(2, .int x_26), (0, .ref a0), (1, .int a1)]) F.1 F.2.1 dX6_days_53 hl (k := 2) rfl ex_26 (by decide) rfl (fun ls hl => ?_)
        refine lv_goto (tgt := 34) F.1 F.2.1 dX6_days_56 (by decide) ?_
        exact ih_34 (x_26) _ _ _ ⟨(show (60 - x_26.toInt + 1).toNat < n_34 from by omega), (wkb hx_26.2 rfl rfl), hH, hS, lv_sub hl [1, 2, 0] rfl⟩
    · skip
      have r_9 : 61 ≤ a1.toInt ∧ a1.toInt ≤ 2147483647 := by have h9_ := r_4; omega
      refine lv_iconst (v := (-1)) F.1 F.2.1 dX6_days_11 (by decide) ?_
      refine topK (a := (-1)) (by decide) (fun k_27 hk_27 => ?_)
      exact txI F hS dX6_days_12 rfl (⟨(wkb (eqb hk_27) rfl rfl), hH⟩)
set_option maxHeartbeats 4000000 in
set_option maxRecDepth 100000 in
theorem c_X6_wet (E : Ev) (rd : TD) (tp : TD) (kb : Int × Int) (Fa1 : Int × Int) (Fb1 : Int × Int) (Fa2 : Int × Int) (Fb2 : Int × Int) (Fa3 : Int × Int) (Fb3 : Int × Int) (Fa4 : Int × Int) (Fb4 : Int × Int) (kr : List Nat) (ks : List Nat) (Pd1 : (Nat → Int32) → Prop) (Pd2 : (Nat → Int32) → Prop) (Pd3 : (Nat → Int32) → Prop) (Pd4 : (Nat → Int32) → Prop) (Ps1 : (Nat → Int32) → Prop) (Ps2 : (Nat → Int32) → Prop) (Ps3 : (Nat → Int32) → Prop) (Ps4 : (Nat → Int32) → Prop) (Pi1 : (Nat → Int32) → Prop) (Pi2 : (Nat → Int32) → Prop) (Pi3 : (Nat → Int32) → Prop) (Pi4 : (Nat → Int32) → Prop) (t : Int) (a0 : Nat) (a1 : Int32) (ha0 : eT E a0 ∈ [28]) (ht : 0 ≤ t ∧ t ≤ 400) (hFa1 : 0 ≤ Fa1.1 ∧ Fa1.2 ≤ 12) (hFb1 : 0 ≤ Fb1.1 ∧ Fb1.2 ≤ 14) (hFa2 : 0 ≤ Fa2.1 ∧ Fa2.2 ≤ 12) (hFb2 : 0 ≤ Fb2.1 ∧ Fb2.2 ≤ 14) (hFa3 : 0 ≤ Fa3.1 ∧ Fa3.2 ≤ 12) (hFb3 : 0 ≤ Fb3.1 ∧ Fb3.2 ≤ 14) (hFa4 : 0 ≤ Fa4.1 ∧ Fa4.2 ≤ 12) (hFb4 : 0 ≤ Fb4.1 ∧ Fb4.2 ≤ 14) (hkr : ∀ t ∈ kr, t ∈ [26, 27]) (hks : ∀ t ∈ ks, t ∈ [26, 27]) (hPd1 : ∀ f, Pd1 f → ivP 12 (-2) 11 f) (hPd2 : ∀ f, Pd2 f → ivP 12 (-2) 11 f) (hPd3 : ∀ f, Pd3 f → ivP 12 (-2) 11 f) (hPd4 : ∀ f, Pd4 f → ivP 12 (-2) 11 f) (hPs1 : ∀ f, Ps1 f → ivP 12 (-2147483648) 2147483647 f) (hPs2 : ∀ f, Ps2 f → ivP 12 (-2147483648) 2147483647 f) (hPs3 : ∀ f, Ps3 f → ivP 12 (-2147483648) 2147483647 f) (hPs4 : ∀ f, Ps4 f → ivP 12 (-2147483648) 2147483647 f) (hPi1 : ∀ f, Pi1 f → ivP 48 (-2147483648) 2147483647 f) (hPi2 : ∀ f, Pi2 f → ivP 48 (-2147483648) 2147483647 f) (hPi3 : ∀ f, Pi3 f → ivP 48 (-2147483648) 2147483647 f) (hPi4 : ∀ f, Pi4 f → ivP 48 (-2147483648) 2147483647 f) : TcI E yX6_wet cX6_wet 3 .int ({ frames := 4, cells := 0, slots := 0, locals := 102 }) [.ref a0, .int a1] (fun H => TH E (tbC (dayD (.inl (0, 18))) (dayD (.inl (0, 18))) (riverD (.inl Fa1) (.inl Fb1) (.inl (0, 4)) 31 33 35 39 43 47) (riverD (.inl Fa2) (.inl Fb2) (.inl (0, 4)) 32 34 36 40 44 48) (rcD (.inl (t, t)) (.inr kr) (.inr ks) (.inl kb)) rd tp A14F A14F A4F A4F A14F A14F (riverD (.inl Fa3) (.inl Fb3) (.inl (0, 4)) 3 8 3 41 45 49) (riverD (.inl Fa4) (.inl Fb4) (.inl (0, 4)) 3 8 3 42 46 50) ((.inr (.inl (0, 12, Pd1)))) ((.inr (.inl (0, 12, Pd2)))) ((.inr (.inl (0, 12, Pd3)))) ((.inr (.inl (0, 12, Pd4)))) ((.inr (.inl (0, 12, Ps1)))) ((.inr (.inl (0, 12, Ps2)))) ((.inr (.inl (0, 12, Ps3)))) ((.inr (.inl (0, 12, Ps4)))) ((.inr (.inl (0, 48, Pi1)))) ((.inr (.inl (0, 48, Pi2)))) ((.inr (.inl (0, 48, Pi3)))) ((.inr (.inl (0, 48, Pi4))))) H) (fun v H => ((-2147483648) ≤ v.toInt ∧ v.toInt ≤ 2147483647) ∧ TH E (tbC (dayD (.inl (0, 18))) (dayD (.inl (0, 18))) (riverD (.inl Fa1) (.inl Fb1) (.inl (0, 4)) 31 33 35 39 43 47) (riverD (.inl Fa2) (.inl Fb2) (.inl (0, 4)) 32 34 36 40 44 48) (rcD (.inl (t, t)) (.inr kr) (.inr ks) (.inl kb)) rd tp A14F A14F A4F A4F A14F A14F (riverD (.inl Fa3) (.inl Fb3) (.inl (0, 4)) 3 8 3 41 45 49) (riverD (.inl Fa4) (.inl Fb4) (.inl (0, 4)) 3 8 3 42 46 50) ((.inr (.inl (0, 12, Pd1)))) ((.inr (.inl (0, 12, Pd2)))) ((.inr (.inl (0, 12, Pd3)))) ((.inr (.inl (0, 12, Pd4)))) ((.inr (.inl (0, 12, Ps1)))) ((.inr (.inl (0, 12, Ps2)))) ((.inr (.inl (0, 12, Ps3)))) ((.inr (.inl (0, 12, Ps4)))) ((.inr (.inl (0, 48, Pi1)))) ((.inr (.inl (0, 48, Pi2)))) ((.inr (.inl (0, 48, Pi3)))) ((.inr (.inl (0, 48, Pi4))))) H) := by
  refine teI (by decide) (Nat.le_of_ble_eq_true rfl) ?_
  intro p_ ev_ s mi_ below_ meth cd_ ls F hK hN hO hH hS hl
  have hH : TH E (tbC (dayD (.inl (0, 18))) (dayD (.inl (0, 18))) (riverD (.inl Fa1) (.inl Fb1) (.inl (0, 4)) 31 33 35 39 43 47) (riverD (.inl Fa2) (.inl Fb2) (.inl (0, 4)) 32 34 36 40 44 48) (rcD (.inl (t, t)) (.inr kr) (.inr ks) (.inl kb)) rd tp A14F A14F A4F A4F A14F A14F (riverD (.inl Fa3) (.inl Fb3) (.inl (0, 4)) 3 8 3 41 45 49) (riverD (.inl Fa4) (.inl Fb4) (.inl (0, 4)) 3 8 3 42 46 50) ((.inr (.inl (0, 12, Pd1)))) ((.inr (.inl (0, 12, Pd2)))) ((.inr (.inl (0, 12, Pd3)))) ((.inr (.inl (0, 12, Pd4)))) ((.inr (.inl (0, 12, Ps1)))) ((.inr (.inl (0, 12, Ps2)))) ((.inr (.inl (0, 12, Ps3)))) ((.inr (.inl (0, 12, Ps4)))) ((.inr (.inl (0, 48, Pi1)))) ((.inr (.inl (0, 48, Pi2)))) ((.inr (.inl (0, 48, Pi3)))) ((.inr (.inl (0, 48, Pi4))))) s.heap := hH
  have hl : lv_has ls 3 [(0, .ref a0), (1, .int a1)] := hl
  refine lv_iload_n F.1 F.2.1 dX6_wet_0 rfl (lv_at hl 1 rfl) ?_
  refine z_lt (tgt := 11) F dX6_wet_1 (by decide) (fun c_1 => ?_) (fun c_1 => ?_)
  · skip
    have r_2 : (-2147483648) ≤ a1.toInt ∧ a1.toInt ≤ (-1) := by have h9_ := (i32b a1); omega
    refine lv_iconst (v := (-1)) F.1 F.2.1 dX6_wet_11 (by decide) ?_
    refine topK (a := (-1)) (by decide) (fun k_4 hk_4 => ?_)
    exact txI F hS dX6_wet_12 rfl (⟨(wkb (eqb hk_4) rfl rfl), hH⟩)
  · skip
    have r_3 : 0 ≤ a1.toInt ∧ a1.toInt ≤ 2147483647 := by have h9_ := (i32b a1); omega
    refine lv_iload_n F.1 F.2.1 dX6_wet_4 rfl (lv_at hl 1 rfl) ?_
    refine lv_sipush (v := 400) F.1 F.2.1 dX6_wet_5 (by decide) ?_
    refine topK (a := 400) (by decide) (fun k_5 hk_5 => ?_)
    refine b_le (tgt := 13) F dX6_wet_8 (by decide) (fun c_6 => ?_) (fun c_6 => ?_)
    · skip
      have r_7 : 0 ≤ a1.toInt ∧ a1.toInt ≤ 400 := by have h9_ := r_3; omega
      refine lv_aload_n F.1 F.2.1 dX6_wet_13 rfl (lv_at hl 0 rfl) ?_
      refine tGetR (j := 4) F hK hH (tyb ha0 (all1 rfl)) rfl (all1 rfl) clX6 (by decide) wd_1_22 dX6_wet_14 (fun q_9 hq_9 _ => ?_)
      refine tGetI (j := 1) F hK hH (tyb hq_9 (all1 rfl)) rfl clX5 (by decide) wd_30_18 dX6_wet_17 (fun z_10 hz_10 => ?_)
      refine lv_istore_n (lv' := [(2, .int z_10), (0, .ref a0), (1, .int a1)]) F.1 F.2.1 dX6_wet_20 rfl hl (by decide) rfl (fun ls hl => ?_)
      refine lv_iload_n F.1 F.2.1 dX6_wet_21 rfl (lv_at hl 0 rfl) ?_
      refine lv_iload_n F.1 F.2.1 dX6_wet_22 rfl (lv_at hl 2 rfl) ?_
      refine b_ne (tgt := 29) F dX6_wet_23 (by decide) (fun c_11 => ?_) (fun c_11 => ?_)
      · skip
        refine lv_aload_n F.1 F.2.1 dX6_wet_29 rfl (lv_at hl 1 rfl) ?_
        refine tVv (b := a0) (As := []) (rest := []) F hK hN hO (c_X6_remember E rd tp kb Fa1 Fb1 Fa2 Fb2 Fa3 Fb3 Fa4 Fb4 kr ks Pd1 Pd2 Pd3 Pd4 Ps1 Ps2 Ps3 Ps4 Pi1 Pi2 Pi3 Pi4 t a0 ha0 (by omega) hFa1 hFb1 hFa2 hFb2 hFa3 hFb3 hFa4 hFb4 hkr hks hPd1 hPd2 hPd3 hPd4 hPs1 hPs2 hPs3 hPs4 hPi1 hPi2 hPi3 hPi4) mv_X6_remember wd_19_13 ⟨Nat.le_of_ble_eq_true rfl, Nat.le_of_ble_eq_true rfl⟩ ⟨Nat.le_of_ble_eq_true rfl, Nat.le_of_ble_eq_true rfl⟩ hH hS (tRecv hK hH (tyb ha0 (all1 rfl)) clX6) rfl hl.1 (Nat.le_of_ble_eq_true rfl) dX6_wet_30 (fun H locs hq hS => ?_)
        have hH := hq
        have hH : TH E (tbC (dayD (.inl (0, 18))) (dayD (.inl (0, 18))) (riverD (.inl Fa1) (.inl Fb1) (.inl (0, 4)) 31 33 35 39 43 47) (riverD (.inl Fa2) (.inl Fb2) (.inl (0, 4)) 32 34 36 40 44 48) (rcD (.inl (t, t)) (.inr kr) (.inr ks) (.inl kb)) rd tp A14F A14F A4F A4F A14F A14F (riverD (.inl Fa3) (.inl Fb3) (.inl (0, 4)) 3 8 3 41 45 49) (riverD (.inl Fa4) (.inl Fb4) (.inl (0, 4)) 3 8 3 42 46 50) ((.inr (.inl (0, 12, Pd1)))) ((.inr (.inl (0, 12, Pd2)))) ((.inr (.inl (0, 12, Pd3)))) ((.inr (.inl (0, 12, Pd4)))) ((.inr (.inl (0, 12, Ps1)))) ((.inr (.inl (0, 12, Ps2)))) ((.inr (.inl (0, 12, Ps3)))) ((.inr (.inl (0, 12, Ps4)))) ((.inr (.inl (0, 48, Pi1)))) ((.inr (.inl (0, 48, Pi2)))) ((.inr (.inl (0, 48, Pi3)))) ((.inr (.inl (0, 48, Pi4))))) H := hH
        refine lv_aload_n F.1 F.2.1 dX6_wet_33 rfl (lv_at hl 1 rfl) ?_
        refine tGetR (j := 4) F hK hH (tyb ha0 (all1 rfl)) rfl (all1 rfl) clX6 (by decide) wd_1_22 dX6_wet_34 (fun q_14 hq_14 _ => ?_)
        refine lv_iload_n F.1 F.2.1 dX6_wet_37 rfl (lv_at hl 2 rfl) ?_
        refine tPut (j := 1) F hK hH hS (tyb hq_14 (all1 rfl)) rfl (fdI (wkb r_7 rfl rfl)) clX5 (by decide) wd_30_18 rfl rfl rfl rfl dX6_wet_38 (fun H locs hH hS => ?_)
        refine lv_iload_n F.1 F.2.1 dX6_wet_41 rfl (lv_at hl 0 rfl) ?_
        exact txI F hS dX6_wet_42 rfl (⟨hz_10, hH⟩)
      · skip
        have r_12 : 0 ≤ z_10.toInt ∧ z_10.toInt ≤ 400 := by have h9_ := hz_10; omega
        refine lv_bipush (v := (-2)) F.1 F.2.1 dX6_wet_26 (by decide) ?_
        refine topK (a := (-2)) (by decide) (fun k_15 hk_15 => ?_)
        exact txI F hS dX6_wet_28 rfl (⟨(wkb (eqb hk_15) rfl rfl), hH⟩)
    · skip
      have r_8 : 401 ≤ a1.toInt ∧ a1.toInt ≤ 2147483647 := by have h9_ := r_3; omega
      refine lv_iconst (v := (-1)) F.1 F.2.1 dX6_wet_11 (by decide) ?_
      refine topK (a := (-1)) (by decide) (fun k_16 hk_16 => ?_)
      exact txI F hS dX6_wet_12 rfl (⟨(wkb (eqb hk_16) rfl rfl), hH⟩)
set_option maxHeartbeats 4000000 in
set_option maxRecDepth 100000 in
theorem c_X6_demand (E : Ev) (rd : TD) (tp : TD) (kb : Int × Int) (Fa1 : Int × Int) (Fb1 : Int × Int) (Fa2 : Int × Int) (Fb2 : Int × Int) (Fa3 : Int × Int) (Fb3 : Int × Int) (Fa4 : Int × Int) (Fb4 : Int × Int) (kr : List Nat) (ks : List Nat) (Pd1 : (Nat → Int32) → Prop) (Pd2 : (Nat → Int32) → Prop) (Pd3 : (Nat → Int32) → Prop) (Pd4 : (Nat → Int32) → Prop) (Ps1 : (Nat → Int32) → Prop) (Ps2 : (Nat → Int32) → Prop) (Ps3 : (Nat → Int32) → Prop) (Ps4 : (Nat → Int32) → Prop) (Pi1 : (Nat → Int32) → Prop) (Pi2 : (Nat → Int32) → Prop) (Pi3 : (Nat → Int32) → Prop) (Pi4 : (Nat → Int32) → Prop) (t : Int) (a0 : Nat) (a1 : Int32) (a2 : Int32) (ha0 : eT E a0 ∈ [28]) (ht : 0 ≤ t ∧ t ≤ 400) (hFa1 : 0 ≤ Fa1.1 ∧ Fa1.2 ≤ 12) (hFb1 : 0 ≤ Fb1.1 ∧ Fb1.2 ≤ 14) (hFa2 : 0 ≤ Fa2.1 ∧ Fa2.2 ≤ 12) (hFb2 : 0 ≤ Fb2.1 ∧ Fb2.2 ≤ 14) (hFa3 : 0 ≤ Fa3.1 ∧ Fa3.2 ≤ 12) (hFb3 : 0 ≤ Fb3.1 ∧ Fb3.2 ≤ 14) (hFa4 : 0 ≤ Fa4.1 ∧ Fa4.2 ≤ 12) (hFb4 : 0 ≤ Fb4.1 ∧ Fb4.2 ≤ 14) (hkr : ∀ t ∈ kr, t ∈ [26, 27]) (hks : ∀ t ∈ ks, t ∈ [26, 27]) (hPd1 : ∀ f, Pd1 f → ivP 12 (-2) 11 f) (hPd2 : ∀ f, Pd2 f → ivP 12 (-2) 11 f) (hPd3 : ∀ f, Pd3 f → ivP 12 (-2) 11 f) (hPd4 : ∀ f, Pd4 f → ivP 12 (-2) 11 f) (hPs1 : ∀ f, Ps1 f → ivP 12 (-2147483648) 2147483647 f) (hPs2 : ∀ f, Ps2 f → ivP 12 (-2147483648) 2147483647 f) (hPs3 : ∀ f, Ps3 f → ivP 12 (-2147483648) 2147483647 f) (hPs4 : ∀ f, Ps4 f → ivP 12 (-2147483648) 2147483647 f) (hPi1 : ∀ f, Pi1 f → ivP 48 (-2147483648) 2147483647 f) (hPi2 : ∀ f, Pi2 f → ivP 48 (-2147483648) 2147483647 f) (hPi3 : ∀ f, Pi3 f → ivP 48 (-2147483648) 2147483647 f) (hPi4 : ∀ f, Pi4 f → ivP 48 (-2147483648) 2147483647 f) : TcI E yX6_demand cX6_demand 4 .int ({ frames := 4, cells := 0, slots := 0, locals := 102 }) [.ref a0, .int a1, .int a2] (fun H => TH E (tbC (dayD (.inl (0, 18))) (dayD (.inl (0, 18))) (riverD (.inl Fa1) (.inl Fb1) (.inl (0, 4)) 31 33 35 39 43 47) (riverD (.inl Fa2) (.inl Fb2) (.inl (0, 4)) 32 34 36 40 44 48) (rcD (.inl (t, t)) (.inr kr) (.inr ks) (.inl kb)) rd tp A14F A14F A4F A4F A14F A14F (riverD (.inl Fa3) (.inl Fb3) (.inl (0, 4)) 3 8 3 41 45 49) (riverD (.inl Fa4) (.inl Fb4) (.inl (0, 4)) 3 8 3 42 46 50) ((.inr (.inl (0, 12, Pd1)))) ((.inr (.inl (0, 12, Pd2)))) ((.inr (.inl (0, 12, Pd3)))) ((.inr (.inl (0, 12, Pd4)))) ((.inr (.inl (0, 12, Ps1)))) ((.inr (.inl (0, 12, Ps2)))) ((.inr (.inl (0, 12, Ps3)))) ((.inr (.inl (0, 12, Ps4)))) ((.inr (.inl (0, 48, Pi1)))) ((.inr (.inl (0, 48, Pi2)))) ((.inr (.inl (0, 48, Pi3)))) ((.inr (.inl (0, 48, Pi4))))) H) (fun v H => ((-2147483648) ≤ v.toInt ∧ v.toInt ≤ 2147483647) ∧ TH E (tbC (dayD (.inl (0, 18))) (dayD (.inl (0, 18))) (riverD (.inl Fa1) (.inl Fb1) (.inl (0, 4)) 31 33 35 39 43 47) (riverD (.inl Fa2) (.inl Fb2) (.inl (0, 4)) 32 34 36 40 44 48) (rcD (.inl (t, t)) (.inr kr) (.inr ks) (.inl kb)) rd tp A14F A14F A4F A4F A14F A14F (riverD (.inl Fa3) (.inl Fb3) (.inl (0, 4)) 3 8 3 41 45 49) (riverD (.inl Fa4) (.inl Fb4) (.inl (0, 4)) 3 8 3 42 46 50) ((.inr (.inl (0, 12, Pd1)))) ((.inr (.inl (0, 12, Pd2)))) ((.inr (.inl (0, 12, Pd3)))) ((.inr (.inl (0, 12, Pd4)))) ((.inr (.inl (0, 12, Ps1)))) ((.inr (.inl (0, 12, Ps2)))) ((.inr (.inl (0, 12, Ps3)))) ((.inr (.inl (0, 12, Ps4)))) ((.inr (.inl (0, 48, Pi1)))) ((.inr (.inl (0, 48, Pi2)))) ((.inr (.inl (0, 48, Pi3)))) ((.inr (.inl (0, 48, Pi4))))) H) := by
  refine teI (by decide) (Nat.le_of_ble_eq_true rfl) ?_
  intro p_ ev_ s mi_ below_ meth cd_ ls F hK hN hO hH hS hl
  have hH : TH E (tbC (dayD (.inl (0, 18))) (dayD (.inl (0, 18))) (riverD (.inl Fa1) (.inl Fb1) (.inl (0, 4)) 31 33 35 39 43 47) (riverD (.inl Fa2) (.inl Fb2) (.inl (0, 4)) 32 34 36 40 44 48) (rcD (.inl (t, t)) (.inr kr) (.inr ks) (.inl kb)) rd tp A14F A14F A4F A4F A14F A14F (riverD (.inl Fa3) (.inl Fb3) (.inl (0, 4)) 3 8 3 41 45 49) (riverD (.inl Fa4) (.inl Fb4) (.inl (0, 4)) 3 8 3 42 46 50) ((.inr (.inl (0, 12, Pd1)))) ((.inr (.inl (0, 12, Pd2)))) ((.inr (.inl (0, 12, Pd3)))) ((.inr (.inl (0, 12, Pd4)))) ((.inr (.inl (0, 12, Ps1)))) ((.inr (.inl (0, 12, Ps2)))) ((.inr (.inl (0, 12, Ps3)))) ((.inr (.inl (0, 12, Ps4)))) ((.inr (.inl (0, 48, Pi1)))) ((.inr (.inl (0, 48, Pi2)))) ((.inr (.inl (0, 48, Pi3)))) ((.inr (.inl (0, 48, Pi4))))) s.heap := hH
  have hl : lv_has ls 4 [(0, .ref a0), (1, .int a1), (2, .int a2)] := hl
  refine lv_aload_n F.1 F.2.1 dX6_demand_0 rfl (lv_at hl 0 rfl) ?_
  refine lv_iload_n F.1 F.2.1 dX6_demand_1 rfl (lv_at hl 1 rfl) ?_
  refine tVi (b := a0) (As := [.int a1]) (rest := []) F hK hN hO (c_X6_isRight E rd tp kb Fa1 Fb1 Fa2 Fb2 Fa3 Fb3 Fa4 Fb4 kr ks Pd1 Pd2 Pd3 Pd4 Ps1 Ps2 Ps3 Ps4 Pi1 Pi2 Pi3 Pi4 t a0 a1 ha0 (by omega) hFa1 hFb1 hFa2 hFb2 hFa3 hFb3 hFa4 hFb4 hkr hks hPd1 hPd2 hPd3 hPd4 hPs1 hPs2 hPs3 hPs4 hPi1 hPi2 hPi3 hPi4) mv_X6_isRight wd_31_10 ⟨Nat.le_of_ble_eq_true rfl, Nat.le_of_ble_eq_true rfl⟩ ⟨Nat.le_of_ble_eq_true rfl, Nat.le_of_ble_eq_true rfl⟩ hH hS (tRecv hK hH (tyb ha0 (all1 rfl)) clX6) rfl hl.1 (Nat.le_of_ble_eq_true rfl) dX6_demand_2 (fun z_1 H locs hq hS => ?_)
  obtain ⟨f_2, f_3, hH⟩ := hq
  have hH : TH E (tbC (dayD (.inl (0, 18))) (dayD (.inl (0, 18))) (riverD (.inl Fa1) (.inl Fb1) (.inl (0, 4)) 31 33 35 39 43 47) (riverD (.inl Fa2) (.inl Fb2) (.inl (0, 4)) 32 34 36 40 44 48) (rcD (.inl (t, t)) (.inr kr) (.inr ks) (.inl kb)) rd tp A14F A14F A4F A4F A14F A14F (riverD (.inl Fa3) (.inl Fb3) (.inl (0, 4)) 3 8 3 41 45 49) (riverD (.inl Fa4) (.inl Fb4) (.inl (0, 4)) 3 8 3 42 46 50) ((.inr (.inl (0, 12, Pd1)))) ((.inr (.inl (0, 12, Pd2)))) ((.inr (.inl (0, 12, Pd3)))) ((.inr (.inl (0, 12, Pd4)))) ((.inr (.inl (0, 12, Ps1)))) ((.inr (.inl (0, 12, Ps2)))) ((.inr (.inl (0, 12, Ps3)))) ((.inr (.inl (0, 12, Ps4)))) ((.inr (.inl (0, 48, Pi1)))) ((.inr (.inl (0, 48, Pi2)))) ((.inr (.inl (0, 48, Pi3)))) ((.inr (.inl (0, 48, Pi4))))) H := hH
  refine z_eq (tgt := 25) F dX6_demand_5 (by decide) (fun c_4 => ?_) (fun c_4 => ?_)
  · skip
    have r_5 : 0 ≤ z_1.toInt ∧ z_1.toInt ≤ 0 := by have h9_ := f_2; omega
    refine lv_iconst (v := (-1)) F.1 F.2.1 dX6_demand_25 (by decide) ?_
    refine topK (a := (-1)) (by decide) (fun k_8 hk_8 => ?_)
    exact txI F hS dX6_demand_26 rfl (⟨(wkb (eqb hk_8) rfl rfl), hH⟩)
  · skip
    have r_6 : 1 ≤ z_1.toInt ∧ z_1.toInt ≤ 1 := by have h9_ := f_2; omega
    have r_7 : 0 ≤ a1.toInt ∧ a1.toInt ≤ 13 := by have h9_ := (i32b a1); omega
    refine lv_iload_n F.1 F.2.1 dX6_demand_8 rfl (lv_at hl 2 rfl) ?_
    refine z_lt (tgt := 25) F dX6_demand_9 (by decide) (fun c_9 => ?_) (fun c_9 => ?_)
    · skip
      have r_10 : (-2147483648) ≤ a2.toInt ∧ a2.toInt ≤ (-1) := by have h9_ := (i32b a2); omega
      refine lv_iconst (v := (-1)) F.1 F.2.1 dX6_demand_25 (by decide) ?_
      refine topK (a := (-1)) (by decide) (fun k_12 hk_12 => ?_)
      exact txI F hS dX6_demand_26 rfl (⟨(wkb (eqb hk_12) rfl rfl), hH⟩)
    · skip
      have r_11 : 0 ≤ a2.toInt ∧ a2.toInt ≤ 2147483647 := by have h9_ := (i32b a2); omega
      refine lv_iload_n F.1 F.2.1 dX6_demand_12 rfl (lv_at hl 2 rfl) ?_
      refine lv_aload_n F.1 F.2.1 dX6_demand_13 rfl (lv_at hl 0 rfl) ?_
      refine tGetR0 (j := 2) F hK hH (tyb ha0 (all1 rfl)) rfl clX6 (by decide) wd_1_17 dX6_demand_14 (fun q_13 hq_13 => ?_)
      refine tGetRM (j := 6) (L := [3]) F hK hH (hkr _ hq_13) (alls ⟨_, _, rfl, rfl, by decide⟩ (alls1 ⟨_, _, rfl, rfl, by decide⟩)) (all1 rfl) clX2 (by decide) wd_31_8 dX6_demand_17 (fun q_14 hq_14 _ => ?_)
      refine lv_iload_n F.1 F.2.1 dX6_demand_20 rfl (lv_at hl 1 rfl) ?_
      refine tIaldB F hK hH (tyb hq_14 (all1 rfl)) (ixb (n := 14) r_7 rfl rfl) dX6_demand_21 (fun z_15 hz_15 => ?_)
      refine b_le (tgt := 27) F dX6_demand_22 (by decide) (fun c_16 => ?_) (fun c_16 => ?_)
      · skip
        have r_17 : 0 ≤ z_15.toInt ∧ z_15.toInt ≤ 2147483647 := by have h9_ := hz_15; omega
        refine lv_aload_n F.1 F.2.1 dX6_demand_27 rfl (lv_at hl 0 rfl) ?_
        refine tGetR (j := 4) F hK hH (tyb ha0 (all1 rfl)) rfl (all1 rfl) clX6 (by decide) wd_1_22 dX6_demand_28 (fun q_18 hq_18 _ => ?_)
        refine tGetR (j := 4) F hK hH (tyb hq_18 (all1 rfl)) rfl (all1 rfl) clX5 (by decide) wd_31_9 dX6_demand_31 (fun q_19 hq_19 _ => ?_)
        refine lv_iload_n F.1 F.2.1 dX6_demand_34 rfl (lv_at hl 1 rfl) ?_
        refine tIaldB F hK hH (tyb hq_19 (all1 rfl)) (ixb (n := 14) r_7 rfl rfl) dX6_demand_35 (fun z_20 hz_20 => ?_)
        refine lv_istore_n (lv' := [(3, .int z_20), (0, .ref a0), (1, .int a1), (2, .int a2)]) F.1 F.2.1 dX6_demand_36 rfl hl (by decide) rfl (fun ls hl => ?_)
        refine lv_iload_n F.1 F.2.1 dX6_demand_37 rfl (lv_at hl 0 rfl) ?_
        refine lv_iload_n F.1 F.2.1 dX6_demand_38 rfl (lv_at hl 3 rfl) ?_
        refine b_ne (tgt := 45) F dX6_demand_39 (by decide) (fun c_21 => ?_) (fun c_21 => ?_)
        · skip
          refine lv_aload_n F.1 F.2.1 dX6_demand_45 rfl (lv_at hl 1 rfl) ?_
          refine tVv (b := a0) (As := []) (rest := []) F hK hN hO (c_X6_remember E rd tp kb Fa1 Fb1 Fa2 Fb2 Fa3 Fb3 Fa4 Fb4 kr ks Pd1 Pd2 Pd3 Pd4 Ps1 Ps2 Ps3 Ps4 Pi1 Pi2 Pi3 Pi4 t a0 ha0 (by omega) hFa1 hFb1 hFa2 hFb2 hFa3 hFb3 hFa4 hFb4 hkr hks hPd1 hPd2 hPd3 hPd4 hPs1 hPs2 hPs3 hPs4 hPi1 hPi2 hPi3 hPi4) mv_X6_remember wd_19_13 ⟨Nat.le_of_ble_eq_true rfl, Nat.le_of_ble_eq_true rfl⟩ ⟨Nat.le_of_ble_eq_true rfl, Nat.le_of_ble_eq_true rfl⟩ hH hS (tRecv hK hH (tyb ha0 (all1 rfl)) clX6) rfl hl.1 (Nat.le_of_ble_eq_true rfl) dX6_demand_46 (fun H locs hq hS => ?_)
          have hH := hq
          have hH : TH E (tbC (dayD (.inl (0, 18))) (dayD (.inl (0, 18))) (riverD (.inl Fa1) (.inl Fb1) (.inl (0, 4)) 31 33 35 39 43 47) (riverD (.inl Fa2) (.inl Fb2) (.inl (0, 4)) 32 34 36 40 44 48) (rcD (.inl (t, t)) (.inr kr) (.inr ks) (.inl kb)) rd tp A14F A14F A4F A4F A14F A14F (riverD (.inl Fa3) (.inl Fb3) (.inl (0, 4)) 3 8 3 41 45 49) (riverD (.inl Fa4) (.inl Fb4) (.inl (0, 4)) 3 8 3 42 46 50) ((.inr (.inl (0, 12, Pd1)))) ((.inr (.inl (0, 12, Pd2)))) ((.inr (.inl (0, 12, Pd3)))) ((.inr (.inl (0, 12, Pd4)))) ((.inr (.inl (0, 12, Ps1)))) ((.inr (.inl (0, 12, Ps2)))) ((.inr (.inl (0, 12, Ps3)))) ((.inr (.inl (0, 12, Ps4)))) ((.inr (.inl (0, 48, Pi1)))) ((.inr (.inl (0, 48, Pi2)))) ((.inr (.inl (0, 48, Pi3)))) ((.inr (.inl (0, 48, Pi4))))) H := hH
          refine lv_aload_n F.1 F.2.1 dX6_demand_49 rfl (lv_at hl 1 rfl) ?_
          refine tGetR (j := 4) F hK hH (tyb ha0 (all1 rfl)) rfl (all1 rfl) clX6 (by decide) wd_1_22 dX6_demand_50 (fun q_24 hq_24 _ => ?_)
          refine tGetR (j := 4) F hK hH (tyb hq_24 (all1 rfl)) rfl (all1 rfl) clX5 (by decide) wd_31_9 dX6_demand_53 (fun q_25 hq_25 _ => ?_)
          refine lv_iload_n F.1 F.2.1 dX6_demand_56 rfl (lv_at hl 2 rfl) ?_
          refine lv_iload_n F.1 F.2.1 dX6_demand_57 rfl (lv_at hl 3 rfl) ?_
          refine tIastB F hK hH hS (tyb hq_25 (all1 rfl)) (ixb (n := 14) r_7 rfl rfl) (wkb r_11 rfl rfl) dX6_demand_58 (fun H locs hH hS => ?_)
          refine lv_iload_n F.1 F.2.1 dX6_demand_59 rfl (lv_at hl 0 rfl) ?_
          exact txI F hS dX6_demand_60 rfl (⟨hz_20, hH⟩)
        · skip
          have r_22 : 0 ≤ z_20.toInt ∧ z_20.toInt ≤ 2147483647 := by have h9_ := hz_20; omega
          refine lv_bipush (v := (-2)) F.1 F.2.1 dX6_demand_42 (by decide) ?_
          refine topK (a := (-2)) (by decide) (fun k_26 hk_26 => ?_)
          exact txI F hS dX6_demand_44 rfl (⟨(wkb (eqb hk_26) rfl rfl), hH⟩)
      · skip
        refine lv_iconst (v := (-1)) F.1 F.2.1 dX6_demand_25 (by decide) ?_
        refine topK (a := (-1)) (by decide) (fun k_27 hk_27 => ?_)
        exact txI F hS dX6_demand_26 rfl (⟨(wkb (eqb hk_27) rfl rfl), hH⟩)
set_option maxHeartbeats 4000000 in
set_option maxRecDepth 100000 in
theorem c_X6_order (E : Ev) (rd : TD) (tp : TD) (kb : Int × Int) (Fa1 : Int × Int) (Fb1 : Int × Int) (Fa2 : Int × Int) (Fb2 : Int × Int) (Fa3 : Int × Int) (Fb3 : Int × Int) (Fa4 : Int × Int) (Fb4 : Int × Int) (kr : List Nat) (ks : List Nat) (Pd1 : (Nat → Int32) → Prop) (Pd2 : (Nat → Int32) → Prop) (Pd3 : (Nat → Int32) → Prop) (Pd4 : (Nat → Int32) → Prop) (Ps1 : (Nat → Int32) → Prop) (Ps2 : (Nat → Int32) → Prop) (Ps3 : (Nat → Int32) → Prop) (Ps4 : (Nat → Int32) → Prop) (Pi1 : (Nat → Int32) → Prop) (Pi2 : (Nat → Int32) → Prop) (Pi3 : (Nat → Int32) → Prop) (Pi4 : (Nat → Int32) → Prop) (t : Int) (a0 : Nat) (a1 : Int32) (a2 : Int32) (a3 : Int32) (ha0 : eT E a0 ∈ [28]) (ht : 0 ≤ t ∧ t ≤ 400) (hFa1 : 0 ≤ Fa1.1 ∧ Fa1.2 ≤ 12) (hFb1 : 0 ≤ Fb1.1 ∧ Fb1.2 ≤ 14) (hFa2 : 0 ≤ Fa2.1 ∧ Fa2.2 ≤ 12) (hFb2 : 0 ≤ Fb2.1 ∧ Fb2.2 ≤ 14) (hFa3 : 0 ≤ Fa3.1 ∧ Fa3.2 ≤ 12) (hFb3 : 0 ≤ Fb3.1 ∧ Fb3.2 ≤ 14) (hFa4 : 0 ≤ Fa4.1 ∧ Fa4.2 ≤ 12) (hFb4 : 0 ≤ Fb4.1 ∧ Fb4.2 ≤ 14) (hkr : ∀ t ∈ kr, t ∈ [26, 27]) (hks : ∀ t ∈ ks, t ∈ [26, 27]) (hPd1 : ∀ f, Pd1 f → ivP 12 (-2) 11 f) (hPd2 : ∀ f, Pd2 f → ivP 12 (-2) 11 f) (hPd3 : ∀ f, Pd3 f → ivP 12 (-2) 11 f) (hPd4 : ∀ f, Pd4 f → ivP 12 (-2) 11 f) (hPs1 : ∀ f, Ps1 f → ivP 12 (-2147483648) 2147483647 f) (hPs2 : ∀ f, Ps2 f → ivP 12 (-2147483648) 2147483647 f) (hPs3 : ∀ f, Ps3 f → ivP 12 (-2147483648) 2147483647 f) (hPs4 : ∀ f, Ps4 f → ivP 12 (-2147483648) 2147483647 f) (hPi1 : ∀ f, Pi1 f → ivP 48 (-2147483648) 2147483647 f) (hPi2 : ∀ f, Pi2 f → ivP 48 (-2147483648) 2147483647 f) (hPi3 : ∀ f, Pi3 f → ivP 48 (-2147483648) 2147483647 f) (hPi4 : ∀ f, Pi4 f → ivP 48 (-2147483648) 2147483647 f) : TcI E yX6_order cX6_order 6 .int ({ frames := 4, cells := 0, slots := 0, locals := 102 }) [.ref a0, .int a1, .int a2, .int a3] (fun H => TH E (tbC (dayD (.inl (0, 18))) (dayD (.inl (0, 18))) (riverD (.inl Fa1) (.inl Fb1) (.inl (0, 4)) 31 33 35 39 43 47) (riverD (.inl Fa2) (.inl Fb2) (.inl (0, 4)) 32 34 36 40 44 48) (rcD (.inl (t, t)) (.inr kr) (.inr ks) (.inl kb)) rd tp A14F A14F A4F A4F A14F A14F (riverD (.inl Fa3) (.inl Fb3) (.inl (0, 4)) 3 8 3 41 45 49) (riverD (.inl Fa4) (.inl Fb4) (.inl (0, 4)) 3 8 3 42 46 50) ((.inr (.inl (0, 12, Pd1)))) ((.inr (.inl (0, 12, Pd2)))) ((.inr (.inl (0, 12, Pd3)))) ((.inr (.inl (0, 12, Pd4)))) ((.inr (.inl (0, 12, Ps1)))) ((.inr (.inl (0, 12, Ps2)))) ((.inr (.inl (0, 12, Ps3)))) ((.inr (.inl (0, 12, Ps4)))) ((.inr (.inl (0, 48, Pi1)))) ((.inr (.inl (0, 48, Pi2)))) ((.inr (.inl (0, 48, Pi3)))) ((.inr (.inl (0, 48, Pi4))))) H) (fun v H => ((-2147483648) ≤ v.toInt ∧ v.toInt ≤ 2147483647) ∧ TH E (tbC (dayD (.inl (0, 18))) (dayD (.inl (0, 18))) (riverD (.inl Fa1) (.inl Fb1) (.inl (0, 4)) 31 33 35 39 43 47) (riverD (.inl Fa2) (.inl Fb2) (.inl (0, 4)) 32 34 36 40 44 48) (rcD (.inl (t, t)) (.inr kr) (.inr ks) (.inl kb)) rd tp A14F A14F A4F A4F A14F A14F (riverD (.inl Fa3) (.inl Fb3) (.inl (0, 4)) 3 8 3 41 45 49) (riverD (.inl Fa4) (.inl Fb4) (.inl (0, 4)) 3 8 3 42 46 50) ((.inr (.inl (0, 12, Pd1)))) ((.inr (.inl (0, 12, Pd2)))) ((.inr (.inl (0, 12, Pd3)))) ((.inr (.inl (0, 12, Pd4)))) ((.inr (.inl (0, 12, Ps1)))) ((.inr (.inl (0, 12, Ps2)))) ((.inr (.inl (0, 12, Ps3)))) ((.inr (.inl (0, 12, Ps4)))) ((.inr (.inl (0, 48, Pi1)))) ((.inr (.inl (0, 48, Pi2)))) ((.inr (.inl (0, 48, Pi3)))) ((.inr (.inl (0, 48, Pi4))))) H) := by
  refine teI (by decide) (Nat.le_of_ble_eq_true rfl) ?_
  intro p_ ev_ s mi_ below_ meth cd_ ls F hK hN hO hH hS hl
  have hH : TH E (tbC (dayD (.inl (0, 18))) (dayD (.inl (0, 18))) (riverD (.inl Fa1) (.inl Fb1) (.inl (0, 4)) 31 33 35 39 43 47) (riverD (.inl Fa2) (.inl Fb2) (.inl (0, 4)) 32 34 36 40 44 48) (rcD (.inl (t, t)) (.inr kr) (.inr ks) (.inl kb)) rd tp A14F A14F A4F A4F A14F A14F (riverD (.inl Fa3) (.inl Fb3) (.inl (0, 4)) 3 8 3 41 45 49) (riverD (.inl Fa4) (.inl Fb4) (.inl (0, 4)) 3 8 3 42 46 50) ((.inr (.inl (0, 12, Pd1)))) ((.inr (.inl (0, 12, Pd2)))) ((.inr (.inl (0, 12, Pd3)))) ((.inr (.inl (0, 12, Pd4)))) ((.inr (.inl (0, 12, Ps1)))) ((.inr (.inl (0, 12, Ps2)))) ((.inr (.inl (0, 12, Ps3)))) ((.inr (.inl (0, 12, Ps4)))) ((.inr (.inl (0, 48, Pi1)))) ((.inr (.inl (0, 48, Pi2)))) ((.inr (.inl (0, 48, Pi3)))) ((.inr (.inl (0, 48, Pi4))))) s.heap := hH
  have hl : lv_has ls 6 [(0, .ref a0), (1, .int a1), (2, .int a2), (3, .int a3)] := hl
  refine lv_aload_n F.1 F.2.1 dX6_order_0 rfl (lv_at hl 0 rfl) ?_
  refine lv_iload_n F.1 F.2.1 dX6_order_1 rfl (lv_at hl 1 rfl) ?_
  refine tVi (b := a0) (As := [.int a1]) (rest := []) F hK hN hO (c_X6_isStore E rd tp kb Fa1 Fb1 Fa2 Fb2 Fa3 Fb3 Fa4 Fb4 kr ks Pd1 Pd2 Pd3 Pd4 Ps1 Ps2 Ps3 Ps4 Pi1 Pi2 Pi3 Pi4 t a0 a1 ha0 (by omega) hFa1 hFb1 hFa2 hFb2 hFa3 hFb3 hFa4 hFb4 hkr hks hPd1 hPd2 hPd3 hPd4 hPs1 hPs2 hPs3 hPs4 hPi1 hPi2 hPi3 hPi4) mv_X6_isStore wd_32_6 ⟨Nat.le_of_ble_eq_true rfl, Nat.le_of_ble_eq_true rfl⟩ ⟨Nat.le_of_ble_eq_true rfl, Nat.le_of_ble_eq_true rfl⟩ hH hS (tRecv hK hH (tyb ha0 (all1 rfl)) clX6) rfl hl.1 (Nat.le_of_ble_eq_true rfl) dX6_order_2 (fun z_1 H locs hq hS => ?_)
  obtain ⟨f_2, f_3, hH⟩ := hq
  have hH : TH E (tbC (dayD (.inl (0, 18))) (dayD (.inl (0, 18))) (riverD (.inl Fa1) (.inl Fb1) (.inl (0, 4)) 31 33 35 39 43 47) (riverD (.inl Fa2) (.inl Fb2) (.inl (0, 4)) 32 34 36 40 44 48) (rcD (.inl (t, t)) (.inr kr) (.inr ks) (.inl kb)) rd tp A14F A14F A4F A4F A14F A14F (riverD (.inl Fa3) (.inl Fb3) (.inl (0, 4)) 3 8 3 41 45 49) (riverD (.inl Fa4) (.inl Fb4) (.inl (0, 4)) 3 8 3 42 46 50) ((.inr (.inl (0, 12, Pd1)))) ((.inr (.inl (0, 12, Pd2)))) ((.inr (.inl (0, 12, Pd3)))) ((.inr (.inl (0, 12, Pd4)))) ((.inr (.inl (0, 12, Ps1)))) ((.inr (.inl (0, 12, Ps2)))) ((.inr (.inl (0, 12, Ps3)))) ((.inr (.inl (0, 12, Ps4)))) ((.inr (.inl (0, 48, Pi1)))) ((.inr (.inl (0, 48, Pi2)))) ((.inr (.inl (0, 48, Pi3)))) ((.inr (.inl (0, 48, Pi4))))) H := hH
  refine z_eq (tgt := 27) F dX6_order_5 (by decide) (fun c_4 => ?_) (fun c_4 => ?_)
  · skip
    have r_5 : 0 ≤ z_1.toInt ∧ z_1.toInt ≤ 0 := by have h9_ := f_2; omega
    refine lv_iconst (v := (-1)) F.1 F.2.1 dX6_order_27 (by decide) ?_
    refine topK (a := (-1)) (by decide) (fun k_8 hk_8 => ?_)
    exact txI F hS dX6_order_28 rfl (⟨(wkb (eqb hk_8) rfl rfl), hH⟩)
  · skip
    have r_6 : 1 ≤ z_1.toInt ∧ z_1.toInt ≤ 1 := by have h9_ := f_2; omega
    have r_7 : 0 ≤ a1.toInt ∧ a1.toInt ≤ 3 := by have h9_ := (i32b a1); omega
    refine lv_aload_n F.1 F.2.1 dX6_order_8 rfl (lv_at hl 0 rfl) ?_
    refine lv_iload_n F.1 F.2.1 dX6_order_9 rfl (lv_at hl 2 rfl) ?_
    refine tVi (b := a0) (As := [.int a2]) (rest := []) F hK hN hO (c_X6_isRight E rd tp kb Fa1 Fb1 Fa2 Fb2 Fa3 Fb3 Fa4 Fb4 kr ks Pd1 Pd2 Pd3 Pd4 Ps1 Ps2 Ps3 Ps4 Pi1 Pi2 Pi3 Pi4 t a0 a2 ha0 (by omega) hFa1 hFb1 hFa2 hFb2 hFa3 hFb3 hFa4 hFb4 hkr hks hPd1 hPd2 hPd3 hPd4 hPs1 hPs2 hPs3 hPs4 hPi1 hPi2 hPi3 hPi4) mv_X6_isRight wd_31_10 ⟨Nat.le_of_ble_eq_true rfl, Nat.le_of_ble_eq_true rfl⟩ ⟨Nat.le_of_ble_eq_true rfl, Nat.le_of_ble_eq_true rfl⟩ hH hS (tRecv hK hH (tyb ha0 (all1 rfl)) clX6) rfl hl.1 (Nat.le_of_ble_eq_true rfl) dX6_order_10 (fun z_9 H locs hq hS => ?_)
    obtain ⟨f_10, f_11, hH⟩ := hq
    have hH : TH E (tbC (dayD (.inl (0, 18))) (dayD (.inl (0, 18))) (riverD (.inl Fa1) (.inl Fb1) (.inl (0, 4)) 31 33 35 39 43 47) (riverD (.inl Fa2) (.inl Fb2) (.inl (0, 4)) 32 34 36 40 44 48) (rcD (.inl (t, t)) (.inr kr) (.inr ks) (.inl kb)) rd tp A14F A14F A4F A4F A14F A14F (riverD (.inl Fa3) (.inl Fb3) (.inl (0, 4)) 3 8 3 41 45 49) (riverD (.inl Fa4) (.inl Fb4) (.inl (0, 4)) 3 8 3 42 46 50) ((.inr (.inl (0, 12, Pd1)))) ((.inr (.inl (0, 12, Pd2)))) ((.inr (.inl (0, 12, Pd3)))) ((.inr (.inl (0, 12, Pd4)))) ((.inr (.inl (0, 12, Ps1)))) ((.inr (.inl (0, 12, Ps2)))) ((.inr (.inl (0, 12, Ps3)))) ((.inr (.inl (0, 12, Ps4)))) ((.inr (.inl (0, 48, Pi1)))) ((.inr (.inl (0, 48, Pi2)))) ((.inr (.inl (0, 48, Pi3)))) ((.inr (.inl (0, 48, Pi4))))) H := hH
    refine z_eq (tgt := 27) F dX6_order_13 (by decide) (fun c_12 => ?_) (fun c_12 => ?_)
    · skip
      have r_13 : 0 ≤ z_9.toInt ∧ z_9.toInt ≤ 0 := by have h9_ := f_10; omega
      refine lv_iconst (v := (-1)) F.1 F.2.1 dX6_order_27 (by decide) ?_
      refine topK (a := (-1)) (by decide) (fun k_16 hk_16 => ?_)
      exact txI F hS dX6_order_28 rfl (⟨(wkb (eqb hk_16) rfl rfl), hH⟩)
    · skip
      have r_14 : 1 ≤ z_9.toInt ∧ z_9.toInt ≤ 1 := by have h9_ := f_10; omega
      have r_15 : 0 ≤ a2.toInt ∧ a2.toInt ≤ 13 := by have h9_ := (i32b a2); omega
      refine lv_iload_n F.1 F.2.1 dX6_order_16 rfl (lv_at hl 3 rfl) ?_
      refine z_lt (tgt := 27) F dX6_order_17 (by decide) (fun c_17 => ?_) (fun c_17 => ?_)
      · skip
        have r_18 : (-2147483648) ≤ a3.toInt ∧ a3.toInt ≤ (-1) := by have h9_ := (i32b a3); omega
        refine lv_iconst (v := (-1)) F.1 F.2.1 dX6_order_27 (by decide) ?_
        refine topK (a := (-1)) (by decide) (fun k_20 hk_20 => ?_)
        exact txI F hS dX6_order_28 rfl (⟨(wkb (eqb hk_20) rfl rfl), hH⟩)
      · skip
        have r_19 : 0 ≤ a3.toInt ∧ a3.toInt ≤ 2147483647 := by have h9_ := (i32b a3); omega
        refine lv_iload_n F.1 F.2.1 dX6_order_20 rfl (lv_at hl 3 rfl) ?_
        refine lv_sipush (v := 9999) F.1 F.2.1 dX6_order_21 (by decide) ?_
        refine topK (a := 9999) (by decide) (fun k_21 hk_21 => ?_)
        refine b_le (tgt := 29) F dX6_order_24 (by decide) (fun c_22 => ?_) (fun c_22 => ?_)
        · skip
          have r_23 : 0 ≤ a3.toInt ∧ a3.toInt ≤ 9999 := by have h9_ := r_19; omega
          refine lv_aload_n F.1 F.2.1 dX6_order_29 rfl (lv_at hl 0 rfl) ?_
          refine tGetR (j := 4) F hK hH (tyb ha0 (all1 rfl)) rfl (all1 rfl) clX6 (by decide) wd_1_22 dX6_order_30 (fun q_25 hq_25 _ => ?_)
          refine tGetR (j := 9) F hK hH (tyb hq_25 (all1 rfl)) rfl (all1 rfl) clX5 (by decide) wd_32_2 dX6_order_33 (fun q_26 hq_26 _ => ?_)
          refine lv_iload_n F.1 F.2.1 dX6_order_36 rfl (lv_at hl 1 rfl) ?_
          refine tIaldB F hK hH (tyb hq_26 (all1 rfl)) (ixb (n := 4) r_7 rfl rfl) dX6_order_37 (fun z_27 hz_27 => ?_)
          refine lv_iload_n F.1 F.2.1 dX6_order_38 rfl (lv_at hl 2 rfl) ?_
          refine wjoin (σ := Int32) (pcj := 60) (stj := fun x9 => [.int x9]) (fun x9 H locs ls => (0 ≤ x9.toInt ∧ x9.toInt ≤ 1) ∧ TH E (tbC (dayD (.inl (0, 18))) (dayD (.inl (0, 18))) (riverD (.inl Fa1) (.inl Fb1) (.inl (0, 4)) 31 33 35 39 43 47) (riverD (.inl Fa2) (.inl Fb2) (.inl (0, 4)) 32 34 36 40 44 48) (rcD (.inl (t, t)) (.inr kr) (.inr ks) (.inl kb)) rd tp A14F A14F A4F A4F A14F A14F (riverD (.inl Fa3) (.inl Fb3) (.inl (0, 4)) 3 8 3 41 45 49) (riverD (.inl Fa4) (.inl Fb4) (.inl (0, 4)) 3 8 3 42 46 50) ((.inr (.inl (0, 12, Pd1)))) ((.inr (.inl (0, 12, Pd2)))) ((.inr (.inl (0, 12, Pd3)))) ((.inr (.inl (0, 12, Pd4)))) ((.inr (.inl (0, 12, Ps1)))) ((.inr (.inl (0, 12, Ps2)))) ((.inr (.inl (0, 12, Ps3)))) ((.inr (.inl (0, 12, Ps4)))) ((.inr (.inl (0, 48, Pi1)))) ((.inr (.inl (0, 48, Pi2)))) ((.inr (.inl (0, 48, Pi3)))) ((.inr (.inl (0, 48, Pi4))))) H ∧ va_S (eA E s.heap.size) s.heap H locs ∧ lv_has ls 6 [(0, .ref a0), (1, .int a1), (2, .int a2), (3, .int a3)]) (fun u_28 H locs ls h_ => ?_) (fun J_60 => ?_)
          · skip
            obtain ⟨hu_28, hH, hS, hl⟩ := h_
            have hu_28 : (0 ≤ u_28.toInt ∧ u_28.toInt ≤ 1) := hu_28
            have hH : TH E (tbC (dayD (.inl (0, 18))) (dayD (.inl (0, 18))) (riverD (.inl Fa1) (.inl Fb1) (.inl (0, 4)) 31 33 35 39 43 47) (riverD (.inl Fa2) (.inl Fb2) (.inl (0, 4)) 32 34 36 40 44 48) (rcD (.inl (t, t)) (.inr kr) (.inr ks) (.inl kb)) rd tp A14F A14F A4F A4F A14F A14F (riverD (.inl Fa3) (.inl Fb3) (.inl (0, 4)) 3 8 3 41 45 49) (riverD (.inl Fa4) (.inl Fb4) (.inl (0, 4)) 3 8 3 42 46 50) ((.inr (.inl (0, 12, Pd1)))) ((.inr (.inl (0, 12, Pd2)))) ((.inr (.inl (0, 12, Pd3)))) ((.inr (.inl (0, 12, Pd4)))) ((.inr (.inl (0, 12, Ps1)))) ((.inr (.inl (0, 12, Ps2)))) ((.inr (.inl (0, 12, Ps3)))) ((.inr (.inl (0, 12, Ps4)))) ((.inr (.inl (0, 48, Pi1)))) ((.inr (.inl (0, 48, Pi2)))) ((.inr (.inl (0, 48, Pi3)))) ((.inr (.inl (0, 48, Pi4))))) H := hH
            have hl : lv_has ls 6 [(0, .ref a0), (1, .int a1), (2, .int a2), (3, .int a3)] := hl
            show W _ _ _ _ _ _ _ _ _ _ _ _ _ _ _ (F0 _ _ _ [.int u_28])
            refine lv_istore (lv' := [(4, .int u_28), (0, .ref a0), (1, .int a1), (2, .int a2), (3, .int a3)]) F.1 F.2.1 dX6_order_60 hl (by decide) rfl (fun ls hl => ?_)
            refine lv_aload_n F.1 F.2.1 dX6_order_62 rfl (lv_at hl 1 rfl) ?_
            refine tGetR (j := 4) F hK hH (tyb ha0 (all1 rfl)) rfl (all1 rfl) clX6 (by decide) wd_1_22 dX6_order_63 (fun q_29 hq_29 _ => ?_)
            refine tGetR (j := 9) F hK hH (tyb hq_29 (all1 rfl)) rfl (all1 rfl) clX5 (by decide) wd_32_2 dX6_order_66 (fun q_30 hq_30 _ => ?_)
            refine lv_iload_n F.1 F.2.1 dX6_order_69 rfl (lv_at hl 2 rfl) ?_
            refine tIaldB F hK hH (tyb hq_30 (all1 rfl)) (ixb (n := 4) r_7 rfl rfl) dX6_order_70 (fun z_31 hz_31 => ?_)
            refine wjoin (σ := Int32) (pcj := 83) (stj := fun x9 => [.int x9]) (fun x9 H locs ls => (0 ≤ x9.toInt ∧ x9.toInt ≤ 1) ∧ TH E (tbC (dayD (.inl (0, 18))) (dayD (.inl (0, 18))) (riverD (.inl Fa1) (.inl Fb1) (.inl (0, 4)) 31 33 35 39 43 47) (riverD (.inl Fa2) (.inl Fb2) (.inl (0, 4)) 32 34 36 40 44 48) (rcD (.inl (t, t)) (.inr kr) (.inr ks) (.inl kb)) rd tp A14F A14F A4F A4F A14F A14F (riverD (.inl Fa3) (.inl Fb3) (.inl (0, 4)) 3 8 3 41 45 49) (riverD (.inl Fa4) (.inl Fb4) (.inl (0, 4)) 3 8 3 42 46 50) ((.inr (.inl (0, 12, Pd1)))) ((.inr (.inl (0, 12, Pd2)))) ((.inr (.inl (0, 12, Pd3)))) ((.inr (.inl (0, 12, Pd4)))) ((.inr (.inl (0, 12, Ps1)))) ((.inr (.inl (0, 12, Ps2)))) ((.inr (.inl (0, 12, Ps3)))) ((.inr (.inl (0, 12, Ps4)))) ((.inr (.inl (0, 48, Pi1)))) ((.inr (.inl (0, 48, Pi2)))) ((.inr (.inl (0, 48, Pi3)))) ((.inr (.inl (0, 48, Pi4))))) H ∧ va_S (eA E s.heap.size) s.heap H locs ∧ lv_has ls 6 [(0, .ref a0), (1, .int a1), (2, .int a2), (3, .int a3), (4, .int u_28)]) (fun u_32 H locs ls h_ => ?_) (fun J_83 => ?_)
            · skip
              obtain ⟨hu_32, hH, hS, hl⟩ := h_
              have hu_32 : (0 ≤ u_32.toInt ∧ u_32.toInt ≤ 1) := hu_32
              have hH : TH E (tbC (dayD (.inl (0, 18))) (dayD (.inl (0, 18))) (riverD (.inl Fa1) (.inl Fb1) (.inl (0, 4)) 31 33 35 39 43 47) (riverD (.inl Fa2) (.inl Fb2) (.inl (0, 4)) 32 34 36 40 44 48) (rcD (.inl (t, t)) (.inr kr) (.inr ks) (.inl kb)) rd tp A14F A14F A4F A4F A14F A14F (riverD (.inl Fa3) (.inl Fb3) (.inl (0, 4)) 3 8 3 41 45 49) (riverD (.inl Fa4) (.inl Fb4) (.inl (0, 4)) 3 8 3 42 46 50) ((.inr (.inl (0, 12, Pd1)))) ((.inr (.inl (0, 12, Pd2)))) ((.inr (.inl (0, 12, Pd3)))) ((.inr (.inl (0, 12, Pd4)))) ((.inr (.inl (0, 12, Ps1)))) ((.inr (.inl (0, 12, Ps2)))) ((.inr (.inl (0, 12, Ps3)))) ((.inr (.inl (0, 12, Ps4)))) ((.inr (.inl (0, 48, Pi1)))) ((.inr (.inl (0, 48, Pi2)))) ((.inr (.inl (0, 48, Pi3)))) ((.inr (.inl (0, 48, Pi4))))) H := hH
              have hl : lv_has ls 6 [(0, .ref a0), (1, .int a1), (2, .int a2), (3, .int a3), (4, .int u_28)] := hl
              show W _ _ _ _ _ _ _ _ _ _ _ _ _ _ _ (F0 _ _ _ [.int u_32])
              refine lv_istore (lv' := [(5, .int u_32), (0, .ref a0), (1, .int a1), (2, .int a2), (3, .int a3), (4, .int u_28)]) F.1 F.2.1 dX6_order_83 hl (by decide) rfl (fun ls hl => ?_)
              refine lv_iload F.1 F.2.1 dX6_order_85 (lv_at hl 5 rfl) ?_
              refine z_ne (tgt := 95) F dX6_order_87 (by decide) (fun c_33 => ?_) (fun c_33 => ?_)
              · skip
                have r_34 : 1 ≤ u_28.toInt ∧ u_28.toInt ≤ 1 := by have h9_ := hu_28; omega
                refine lv_bipush (v := (-2)) F.1 F.2.1 dX6_order_95 (by decide) ?_
                refine topK (a := (-2)) (by decide) (fun k_36 hk_36 => ?_)
                exact txI F hS dX6_order_97 rfl (⟨(wkb (eqb hk_36) rfl rfl), hH⟩)
              · skip
                have r_35 : 0 ≤ u_28.toInt ∧ u_28.toInt ≤ 0 := by have h9_ := hu_28; omega
                refine lv_iload F.1 F.2.1 dX6_order_90 (lv_at hl 0 rfl) ?_
                refine z_eq (tgt := 98) F dX6_order_92 (by decide) (fun c_37 => ?_) (fun c_37 => ?_)
                · skip
                  have r_38 : 0 ≤ u_32.toInt ∧ u_32.toInt ≤ 0 := by have h9_ := hu_32; omega
                  refine lv_aload_n F.1 F.2.1 dX6_order_98 rfl (lv_at hl 1 rfl) ?_
                  refine tGetR0 (j := 2) F hK hH (tyb ha0 (all1 rfl)) rfl clX6 (by decide) wd_1_17 dX6_order_99 (fun q_40 hq_40 => ?_)
                  refine lv_aload_n F.1 F.2.1 dX6_order_102 rfl (lv_at hl 1 rfl) ?_
                  refine tGetR0 (j := 2) F hK hH (tyb ha0 (all1 rfl)) rfl clX6 (by decide) wd_1_17 dX6_order_103 (fun q_41 hq_41 => ?_)
                  refine tGetRM (j := 15) (L := [9]) F hK hH (hkr _ hq_41) (alls ⟨_, _, rfl, rfl, by decide⟩ (alls1 ⟨_, _, rfl, rfl, by decide⟩)) (all1 rfl) clX2 (by decide) wd_32_4 dX6_order_106 (fun q_42 hq_42 _ => ?_)
                  refine lv_iload_n F.1 F.2.1 dX6_order_109 rfl (lv_at hl 2 rfl) ?_
                  refine tIaldB F hK hH (tyb hq_42 (all1 rfl)) (ixb (n := 4) r_7 rfl rfl) dX6_order_110 (fun z_43 hz_43 => ?_)
                  refine lv_aload_n F.1 F.2.1 dX6_order_111 rfl (lv_at hl 1 rfl) ?_
                  refine tGetR (j := 4) F hK hH (tyb ha0 (all1 rfl)) rfl (all1 rfl) clX6 (by decide) wd_1_22 dX6_order_112 (fun q_44 hq_44 _ => ?_)
                  refine tGetR (j := 2) F hK hH (tyb hq_44 (all1 rfl)) rfl (all1 rfl) clX5 (by decide) wd_32_5 dX6_order_115 (fun q_45 hq_45 _ => ?_)
                  refine lv_iload_n F.1 F.2.1 dX6_order_118 rfl (lv_at hl 3 rfl) ?_
                  refine tIaldB F hK hH (tyb hq_45 (all1 rfl)) (ixb (n := 14) r_15 rfl rfl) dX6_order_119 (fun z_46 hz_46 => ?_)
                  refine tVi (b := q_40) (As := [.int z_43, .int z_46]) (rest := []) F hK hN hO (c_X2_runsTo E (dayD (.inl (0, 18))) (dayD (.inl (0, 18))) (rcD (.inl (t, t)) (.inr kr) (.inr ks) (.inl kb)) rd tp Fa1 Fb1 Fa2 Fb2 Fa3 Fb3 Fa4 Fb4 Pd1 Pd2 Pd3 Pd4 Ps1 Ps2 Ps3 Ps4 Pi1 Pi2 Pi3 Pi4 q_40 z_43 z_46 (by have h9_ := (hkr _ hq_40); simp at h9_ ⊢; omega) (wkb hz_43 rfl rfl) hFa1 hFb1 hFa2 hFb2 hFa3 hFb3 hFa4 hFb4 hPd1 hPd2 hPd3 hPd4 hPs1 hPs2 hPs3 hPs4 hPi1 hPi2 hPi3 hPi4) mv_X2_runsTo wd_32_11 ⟨Nat.le_of_ble_eq_true rfl, Nat.le_of_ble_eq_true rfl⟩ ⟨Nat.le_of_ble_eq_true rfl, Nat.le_of_ble_eq_true rfl⟩ hH hS (tRecvM hK hH (hkr _ hq_40) (alls ⟨_, rfl⟩ (alls1 ⟨_, rfl⟩)) clX2) rfl hl.1 (Nat.le_of_ble_eq_true rfl) dX6_order_120 (fun z_47 H locs hq hS => ?_)
                  obtain ⟨f_48, hH⟩ := hq
                  have hH : TH E (tbC (dayD (.inl (0, 18))) (dayD (.inl (0, 18))) (riverD (.inl Fa1) (.inl Fb1) (.inl (0, 4)) 31 33 35 39 43 47) (riverD (.inl Fa2) (.inl Fb2) (.inl (0, 4)) 32 34 36 40 44 48) (rcD (.inl (t, t)) (.inr kr) (.inr ks) (.inl kb)) rd tp A14F A14F A4F A4F A14F A14F (riverD (.inl Fa3) (.inl Fb3) (.inl (0, 4)) 3 8 3 41 45 49) (riverD (.inl Fa4) (.inl Fb4) (.inl (0, 4)) 3 8 3 42 46 50) ((.inr (.inl (0, 12, Pd1)))) ((.inr (.inl (0, 12, Pd2)))) ((.inr (.inl (0, 12, Pd3)))) ((.inr (.inl (0, 12, Pd4)))) ((.inr (.inl (0, 12, Ps1)))) ((.inr (.inl (0, 12, Ps2)))) ((.inr (.inl (0, 12, Ps3)))) ((.inr (.inl (0, 12, Ps4)))) ((.inr (.inl (0, 48, Pi1)))) ((.inr (.inl (0, 48, Pi2)))) ((.inr (.inl (0, 48, Pi3)))) ((.inr (.inl (0, 48, Pi4))))) H := hH
                  refine z_ne (tgt := 129) F dX6_order_123 (by decide) (fun c_49 => ?_) (fun c_49 => ?_)
                  · skip
                    have r_50 : 1 ≤ z_47.toInt ∧ z_47.toInt ≤ 1 := by have h9_ := f_48; omega
                    refine lv_aload_n F.1 F.2.1 dX6_order_129 rfl (lv_at hl 1 rfl) ?_
                    refine tVv (b := a0) (As := []) (rest := []) F hK hN hO (c_X6_remember E rd tp kb Fa1 Fb1 Fa2 Fb2 Fa3 Fb3 Fa4 Fb4 kr ks Pd1 Pd2 Pd3 Pd4 Ps1 Ps2 Ps3 Ps4 Pi1 Pi2 Pi3 Pi4 t a0 ha0 (by omega) hFa1 hFb1 hFa2 hFb2 hFa3 hFb3 hFa4 hFb4 hkr hks hPd1 hPd2 hPd3 hPd4 hPs1 hPs2 hPs3 hPs4 hPi1 hPi2 hPi3 hPi4) mv_X6_remember wd_19_13 ⟨Nat.le_of_ble_eq_true rfl, Nat.le_of_ble_eq_true rfl⟩ ⟨Nat.le_of_ble_eq_true rfl, Nat.le_of_ble_eq_true rfl⟩ hH hS (tRecv hK hH (tyb ha0 (all1 rfl)) clX6) rfl hl.1 (Nat.le_of_ble_eq_true rfl) dX6_order_130 (fun H locs hq hS => ?_)
                    have hH := hq
                    have hH : TH E (tbC (dayD (.inl (0, 18))) (dayD (.inl (0, 18))) (riverD (.inl Fa1) (.inl Fb1) (.inl (0, 4)) 31 33 35 39 43 47) (riverD (.inl Fa2) (.inl Fb2) (.inl (0, 4)) 32 34 36 40 44 48) (rcD (.inl (t, t)) (.inr kr) (.inr ks) (.inl kb)) rd tp A14F A14F A4F A4F A14F A14F (riverD (.inl Fa3) (.inl Fb3) (.inl (0, 4)) 3 8 3 41 45 49) (riverD (.inl Fa4) (.inl Fb4) (.inl (0, 4)) 3 8 3 42 46 50) ((.inr (.inl (0, 12, Pd1)))) ((.inr (.inl (0, 12, Pd2)))) ((.inr (.inl (0, 12, Pd3)))) ((.inr (.inl (0, 12, Pd4)))) ((.inr (.inl (0, 12, Ps1)))) ((.inr (.inl (0, 12, Ps2)))) ((.inr (.inl (0, 12, Ps3)))) ((.inr (.inl (0, 12, Ps4)))) ((.inr (.inl (0, 48, Pi1)))) ((.inr (.inl (0, 48, Pi2)))) ((.inr (.inl (0, 48, Pi3)))) ((.inr (.inl (0, 48, Pi4))))) H := hH
                    refine lv_aload_n F.1 F.2.1 dX6_order_133 rfl (lv_at hl 1 rfl) ?_
                    refine tGetR (j := 4) F hK hH (tyb ha0 (all1 rfl)) rfl (all1 rfl) clX6 (by decide) wd_1_22 dX6_order_134 (fun q_53 hq_53 _ => ?_)
                    refine tGetR (j := 9) F hK hH (tyb hq_53 (all1 rfl)) rfl (all1 rfl) clX5 (by decide) wd_32_2 dX6_order_137 (fun q_54 hq_54 _ => ?_)
                    refine lv_iload_n F.1 F.2.1 dX6_order_140 rfl (lv_at hl 2 rfl) ?_
                    refine lv_iload_n F.1 F.2.1 dX6_order_141 rfl (lv_at hl 4 rfl) ?_
                    refine wjoin (σ := Int32) (pcj := 151) (stj := fun x9 => [.int x9, .int a1, .ref q_54]) (fun x9 H locs ls => ((-2) ≤ x9.toInt ∧ x9.toInt ≤ 13) ∧ TH E (tbC (dayD (.inl (0, 18))) (dayD (.inl (0, 18))) (riverD (.inl Fa1) (.inl Fb1) (.inl (0, 4)) 31 33 35 39 43 47) (riverD (.inl Fa2) (.inl Fb2) (.inl (0, 4)) 32 34 36 40 44 48) (rcD (.inl (t, t)) (.inr kr) (.inr ks) (.inl kb)) rd tp A14F A14F A4F A4F A14F A14F (riverD (.inl Fa3) (.inl Fb3) (.inl (0, 4)) 3 8 3 41 45 49) (riverD (.inl Fa4) (.inl Fb4) (.inl (0, 4)) 3 8 3 42 46 50) ((.inr (.inl (0, 12, Pd1)))) ((.inr (.inl (0, 12, Pd2)))) ((.inr (.inl (0, 12, Pd3)))) ((.inr (.inl (0, 12, Pd4)))) ((.inr (.inl (0, 12, Ps1)))) ((.inr (.inl (0, 12, Ps2)))) ((.inr (.inl (0, 12, Ps3)))) ((.inr (.inl (0, 12, Ps4)))) ((.inr (.inl (0, 48, Pi1)))) ((.inr (.inl (0, 48, Pi2)))) ((.inr (.inl (0, 48, Pi3)))) ((.inr (.inl (0, 48, Pi4))))) H ∧ va_S (eA E s.heap.size) s.heap H locs ∧ lv_has ls 6 [(0, .ref a0), (1, .int a1), (3, .int a3)]) (fun u_55 H locs ls h_ => ?_) (fun J_151 => ?_)
                    · skip
                      obtain ⟨hu_55, hH, hS, hl⟩ := h_
                      have hu_55 : ((-2) ≤ u_55.toInt ∧ u_55.toInt ≤ 13) := hu_55
                      have hH : TH E (tbC (dayD (.inl (0, 18))) (dayD (.inl (0, 18))) (riverD (.inl Fa1) (.inl Fb1) (.inl (0, 4)) 31 33 35 39 43 47) (riverD (.inl Fa2) (.inl Fb2) (.inl (0, 4)) 32 34 36 40 44 48) (rcD (.inl (t, t)) (.inr kr) (.inr ks) (.inl kb)) rd tp A14F A14F A4F A4F A14F A14F (riverD (.inl Fa3) (.inl Fb3) (.inl (0, 4)) 3 8 3 41 45 49) (riverD (.inl Fa4) (.inl Fb4) (.inl (0, 4)) 3 8 3 42 46 50) ((.inr (.inl (0, 12, Pd1)))) ((.inr (.inl (0, 12, Pd2)))) ((.inr (.inl (0, 12, Pd3)))) ((.inr (.inl (0, 12, Pd4)))) ((.inr (.inl (0, 12, Ps1)))) ((.inr (.inl (0, 12, Ps2)))) ((.inr (.inl (0, 12, Ps3)))) ((.inr (.inl (0, 12, Ps4)))) ((.inr (.inl (0, 48, Pi1)))) ((.inr (.inl (0, 48, Pi2)))) ((.inr (.inl (0, 48, Pi3)))) ((.inr (.inl (0, 48, Pi4))))) H := hH
                      have hl : lv_has ls 6 [(0, .ref a0), (1, .int a1), (3, .int a3)] := hl
                      show W _ _ _ _ _ _ _ _ _ _ _ _ _ _ _ (F0 _ _ _ [.int u_55, .int a1, .ref q_54])
                      refine tIastB F hK hH hS (tyb hq_54 (all1 rfl)) (ixb (n := 4) r_7 rfl rfl) hu_55 dX6_order_151 (fun H locs hH hS => ?_)
                      refine lv_aload_n F.1 F.2.1 dX6_order_152 rfl (lv_at hl 0 rfl) ?_
                      refine tGetR (j := 4) F hK hH (tyb ha0 (all1 rfl)) rfl (all1 rfl) clX6 (by decide) wd_1_22 dX6_order_153 (fun q_56 hq_56 _ => ?_)
                      refine tGetR (j := 10) F hK hH (tyb hq_56 (all1 rfl)) rfl (all1 rfl) clX5 (by decide) wd_32_3 dX6_order_156 (fun q_57 hq_57 _ => ?_)
                      refine lv_iload_n F.1 F.2.1 dX6_order_159 rfl (lv_at hl 1 rfl) ?_
                      refine lv_iload_n F.1 F.2.1 dX6_order_160 rfl (lv_at hl 2 rfl) ?_
                      refine tIastB F hK hH hS (tyb hq_57 (all1 rfl)) (ixb (n := 4) r_7 rfl rfl) (wkb r_23 rfl rfl) dX6_order_161 (fun H locs hH hS => ?_)
                      refine lv_iconst (v := 1) F.1 F.2.1 dX6_order_162 (by decide) ?_
                      refine topK (a := 1) (by decide) (fun k_58 hk_58 => ?_)
                      exact txI F hS dX6_order_163 rfl (⟨(wkb (eqb hk_58) rfl rfl), hH⟩)
                    refine z_ne (tgt := 150) F dX6_order_142 (by decide) (fun c_59 => ?_) (fun c_59 => ?_)
                    · skip
                      have r_60 : 1 ≤ a3.toInt ∧ a3.toInt ≤ 9999 := by have h9_ := r_23; omega
                      refine lv_iload_n F.1 F.2.1 dX6_order_150 rfl (lv_at hl 3 rfl) ?_
                      exact J_151 (a2) _ _ _ ⟨(wkb r_15 rfl rfl), hH, hS, lv_sub hl [1, 2, 4] rfl⟩
                    · skip
                      have r_61 : 0 ≤ a3.toInt ∧ a3.toInt ≤ 0 := by have h9_ := r_23; omega
                      refine lv_bipush (v := (-2)) F.1 F.2.1 dX6_order_145 (by decide) ?_
                      refine topK (a := (-2)) (by decide) (fun k_62 hk_62 => ?_)
                      refine lv_goto (tgt := 151) F.1 F.2.1 dX6_order_147 (by decide) ?_
                      exact J_151 (k_62) _ _ _ ⟨(wkb (eqb hk_62) rfl rfl), hH, hS, lv_sub hl [1, 2, 4] rfl⟩
                  · skip
                    have r_51 : 0 ≤ z_47.toInt ∧ z_47.toInt ≤ 0 := by have h9_ := f_48; omega
                    refine lv_bipush (v := (-3)) F.1 F.2.1 dX6_order_126 (by decide) ?_
                    refine topK (a := (-3)) (by decide) (fun k_63 hk_63 => ?_)
                    exact txI F hS dX6_order_128 rfl (⟨(wkb (eqb hk_63) rfl rfl), hH⟩)
                · skip
                  have r_39 : 1 ≤ u_32.toInt ∧ u_32.toInt ≤ 1 := by have h9_ := hu_32; omega
                  refine lv_bipush (v := (-2)) F.1 F.2.1 dX6_order_95 (by decide) ?_
                  refine topK (a := (-2)) (by decide) (fun k_64 hk_64 => ?_)
                  exact txI F hS dX6_order_97 rfl (⟨(wkb (eqb hk_64) rfl rfl), hH⟩)
            refine wjoin (σ := Unit) (pcj := 82) (stj := fun x9 => []) (fun x9 H locs ls => TH E (tbC (dayD (.inl (0, 18))) (dayD (.inl (0, 18))) (riverD (.inl Fa1) (.inl Fb1) (.inl (0, 4)) 31 33 35 39 43 47) (riverD (.inl Fa2) (.inl Fb2) (.inl (0, 4)) 32 34 36 40 44 48) (rcD (.inl (t, t)) (.inr kr) (.inr ks) (.inl kb)) rd tp A14F A14F A4F A4F A14F A14F (riverD (.inl Fa3) (.inl Fb3) (.inl (0, 4)) 3 8 3 41 45 49) (riverD (.inl Fa4) (.inl Fb4) (.inl (0, 4)) 3 8 3 42 46 50) ((.inr (.inl (0, 12, Pd1)))) ((.inr (.inl (0, 12, Pd2)))) ((.inr (.inl (0, 12, Pd3)))) ((.inr (.inl (0, 12, Pd4)))) ((.inr (.inl (0, 12, Ps1)))) ((.inr (.inl (0, 12, Ps2)))) ((.inr (.inl (0, 12, Ps3)))) ((.inr (.inl (0, 12, Ps4)))) ((.inr (.inl (0, 48, Pi1)))) ((.inr (.inl (0, 48, Pi2)))) ((.inr (.inl (0, 48, Pi3)))) ((.inr (.inl (0, 48, Pi4))))) H ∧ va_S (eA E s.heap.size) s.heap H locs ∧ lv_has ls 6 [(0, .ref a0), (1, .int a1), (2, .int a2), (3, .int a3), (4, .int u_28)]) (fun x9 H locs ls h_ => ?_) (fun J_82 => ?_)
            · skip
              obtain ⟨hH, hS, hl⟩ := h_
              have hH : TH E (tbC (dayD (.inl (0, 18))) (dayD (.inl (0, 18))) (riverD (.inl Fa1) (.inl Fb1) (.inl (0, 4)) 31 33 35 39 43 47) (riverD (.inl Fa2) (.inl Fb2) (.inl (0, 4)) 32 34 36 40 44 48) (rcD (.inl (t, t)) (.inr kr) (.inr ks) (.inl kb)) rd tp A14F A14F A4F A4F A14F A14F (riverD (.inl Fa3) (.inl Fb3) (.inl (0, 4)) 3 8 3 41 45 49) (riverD (.inl Fa4) (.inl Fb4) (.inl (0, 4)) 3 8 3 42 46 50) ((.inr (.inl (0, 12, Pd1)))) ((.inr (.inl (0, 12, Pd2)))) ((.inr (.inl (0, 12, Pd3)))) ((.inr (.inl (0, 12, Pd4)))) ((.inr (.inl (0, 12, Ps1)))) ((.inr (.inl (0, 12, Ps2)))) ((.inr (.inl (0, 12, Ps3)))) ((.inr (.inl (0, 12, Ps4)))) ((.inr (.inl (0, 48, Pi1)))) ((.inr (.inl (0, 48, Pi2)))) ((.inr (.inl (0, 48, Pi3)))) ((.inr (.inl (0, 48, Pi4))))) H := hH
              have hl : lv_has ls 6 [(0, .ref a0), (1, .int a1), (2, .int a2), (3, .int a3), (4, .int u_28)] := hl
              show W _ _ _ _ _ _ _ _ _ _ _ _ _ _ _ (F0 _ _ _ [])
              refine lv_iconst (v := 0) F.1 F.2.1 dX6_order_82 (by decide) ?_
              refine topK (a := 0) (by decide) (fun k_65 hk_65 => ?_)
              exact J_83 (k_65) _ _ _ ⟨(wkb (eqb hk_65) rfl rfl), hH, hS, lv_sub hl [0, 1, 2, 3, 4] rfl⟩
            refine z_ge (tgt := 82) F dX6_order_71 (by decide) (fun c_66 => ?_) (fun c_66 => ?_)
            · skip
              have r_67 : 0 ≤ z_31.toInt ∧ z_31.toInt ≤ 13 := by have h9_ := hz_31; omega
              exact J_82 () _ _ _ ⟨hH, hS, lv_sub hl [1, 2, 3, 4, 0] rfl⟩
            · skip
              have r_68 : (-2) ≤ z_31.toInt ∧ z_31.toInt ≤ (-1) := by have h9_ := hz_31; omega
              refine lv_iload_n F.1 F.2.1 dX6_order_74 rfl (lv_at hl 4 rfl) ?_
              refine z_ne (tgt := 82) F dX6_order_75 (by decide) (fun c_69 => ?_) (fun c_69 => ?_)
              · skip
                have r_70 : 1 ≤ a3.toInt ∧ a3.toInt ≤ 9999 := by have h9_ := r_23; omega
                exact J_82 () _ _ _ ⟨hH, hS, lv_sub hl [1, 2, 3, 4, 0] rfl⟩
              · skip
                have r_71 : 0 ≤ a3.toInt ∧ a3.toInt ≤ 0 := by have h9_ := r_23; omega
                refine lv_iconst (v := 1) F.1 F.2.1 dX6_order_78 (by decide) ?_
                refine topK (a := 1) (by decide) (fun k_72 hk_72 => ?_)
                refine lv_goto (tgt := 83) F.1 F.2.1 dX6_order_79 (by decide) ?_
                exact J_83 (k_72) _ _ _ ⟨(wkb (eqb hk_72) rfl rfl), hH, hS, lv_sub hl [1, 2, 3, 4, 0] rfl⟩
          refine wjoin (σ := Unit) (pcj := 59) (stj := fun x9 => []) (fun x9 H locs ls => TH E (tbC (dayD (.inl (0, 18))) (dayD (.inl (0, 18))) (riverD (.inl Fa1) (.inl Fb1) (.inl (0, 4)) 31 33 35 39 43 47) (riverD (.inl Fa2) (.inl Fb2) (.inl (0, 4)) 32 34 36 40 44 48) (rcD (.inl (t, t)) (.inr kr) (.inr ks) (.inl kb)) rd tp A14F A14F A4F A4F A14F A14F (riverD (.inl Fa3) (.inl Fb3) (.inl (0, 4)) 3 8 3 41 45 49) (riverD (.inl Fa4) (.inl Fb4) (.inl (0, 4)) 3 8 3 42 46 50) ((.inr (.inl (0, 12, Pd1)))) ((.inr (.inl (0, 12, Pd2)))) ((.inr (.inl (0, 12, Pd3)))) ((.inr (.inl (0, 12, Pd4)))) ((.inr (.inl (0, 12, Ps1)))) ((.inr (.inl (0, 12, Ps2)))) ((.inr (.inl (0, 12, Ps3)))) ((.inr (.inl (0, 12, Ps4)))) ((.inr (.inl (0, 48, Pi1)))) ((.inr (.inl (0, 48, Pi2)))) ((.inr (.inl (0, 48, Pi3)))) ((.inr (.inl (0, 48, Pi4))))) H ∧ va_S (eA E s.heap.size) s.heap H locs ∧ lv_has ls 6 [(0, .ref a0), (1, .int a1), (2, .int a2), (3, .int a3)]) (fun x9 H locs ls h_ => ?_) (fun J_59 => ?_)
          · skip
            obtain ⟨hH, hS, hl⟩ := h_
            have hH : TH E (tbC (dayD (.inl (0, 18))) (dayD (.inl (0, 18))) (riverD (.inl Fa1) (.inl Fb1) (.inl (0, 4)) 31 33 35 39 43 47) (riverD (.inl Fa2) (.inl Fb2) (.inl (0, 4)) 32 34 36 40 44 48) (rcD (.inl (t, t)) (.inr kr) (.inr ks) (.inl kb)) rd tp A14F A14F A4F A4F A14F A14F (riverD (.inl Fa3) (.inl Fb3) (.inl (0, 4)) 3 8 3 41 45 49) (riverD (.inl Fa4) (.inl Fb4) (.inl (0, 4)) 3 8 3 42 46 50) ((.inr (.inl (0, 12, Pd1)))) ((.inr (.inl (0, 12, Pd2)))) ((.inr (.inl (0, 12, Pd3)))) ((.inr (.inl (0, 12, Pd4)))) ((.inr (.inl (0, 12, Ps1)))) ((.inr (.inl (0, 12, Ps2)))) ((.inr (.inl (0, 12, Ps3)))) ((.inr (.inl (0, 12, Ps4)))) ((.inr (.inl (0, 48, Pi1)))) ((.inr (.inl (0, 48, Pi2)))) ((.inr (.inl (0, 48, Pi3)))) ((.inr (.inl (0, 48, Pi4))))) H := hH
            have hl : lv_has ls 6 [(0, .ref a0), (1, .int a1), (2, .int a2), (3, .int a3)] := hl
            show W _ _ _ _ _ _ _ _ _ _ _ _ _ _ _ (F0 _ _ _ [])
            refine lv_iconst (v := 0) F.1 F.2.1 dX6_order_59 (by decide) ?_
            refine topK (a := 0) (by decide) (fun k_73 hk_73 => ?_)
            exact J_60 (k_73) _ _ _ ⟨(wkb (eqb hk_73) rfl rfl), hH, hS, lv_sub hl [0, 1, 2, 3] rfl⟩
          refine b_ne (tgt := 59) F dX6_order_39 (by decide) (fun c_74 => ?_) (fun c_74 => ?_)
          · skip
            exact J_59 () _ _ _ ⟨hH, hS, lv_sub hl [0, 1, 2, 3] rfl⟩
          · skip
            have r_75 : 0 ≤ z_27.toInt ∧ z_27.toInt ≤ 13 := by have h9_ := hz_27; omega
            refine lv_aload_n F.1 F.2.1 dX6_order_42 rfl (lv_at hl 0 rfl) ?_
            refine tGetR (j := 4) F hK hH (tyb ha0 (all1 rfl)) rfl (all1 rfl) clX6 (by decide) wd_1_22 dX6_order_43 (fun q_76 hq_76 _ => ?_)
            refine tGetR (j := 10) F hK hH (tyb hq_76 (all1 rfl)) rfl (all1 rfl) clX5 (by decide) wd_32_3 dX6_order_46 (fun q_77 hq_77 _ => ?_)
            refine lv_iload_n F.1 F.2.1 dX6_order_49 rfl (lv_at hl 1 rfl) ?_
            refine tIaldB F hK hH (tyb hq_77 (all1 rfl)) (ixb (n := 4) r_7 rfl rfl) dX6_order_50 (fun z_78 hz_78 => ?_)
            refine lv_iload_n F.1 F.2.1 dX6_order_51 rfl (lv_at hl 3 rfl) ?_
            refine b_ne (tgt := 59) F dX6_order_52 (by decide) (fun c_79 => ?_) (fun c_79 => ?_)
            · skip
              exact J_59 () _ _ _ ⟨hH, hS, lv_sub hl [0, 1, 2, 3] rfl⟩
            · skip
              have r_80 : 0 ≤ z_78.toInt ∧ z_78.toInt ≤ 9999 := by have h9_ := hz_78; omega
              refine lv_iconst (v := 1) F.1 F.2.1 dX6_order_55 (by decide) ?_
              refine topK (a := 1) (by decide) (fun k_81 hk_81 => ?_)
              refine lv_goto (tgt := 60) F.1 F.2.1 dX6_order_56 (by decide) ?_
              exact J_60 (k_81) _ _ _ ⟨(wkb (eqb hk_81) rfl rfl), hH, hS, lv_sub hl [0, 1, 2, 3] rfl⟩
        · skip
          have r_24 : 10000 ≤ a3.toInt ∧ a3.toInt ≤ 2147483647 := by have h9_ := r_19; omega
          refine lv_iconst (v := (-1)) F.1 F.2.1 dX6_order_27 (by decide) ?_
          refine topK (a := (-1)) (by decide) (fun k_82 hk_82 => ?_)
          exact txI F hS dX6_order_28 rfl (⟨(wkb (eqb hk_82) rfl rfl), hH⟩)
set_option maxHeartbeats 4000000 in
set_option maxRecDepth 100000 in
theorem c_X6_barter (E : Ev) (rd : TD) (tp : TD) (kb : Int × Int) (Fa1 : Int × Int) (Fb1 : Int × Int) (Fa2 : Int × Int) (Fb2 : Int × Int) (Fa3 : Int × Int) (Fb3 : Int × Int) (Fa4 : Int × Int) (Fb4 : Int × Int) (kr : List Nat) (ks : List Nat) (Pd1 : (Nat → Int32) → Prop) (Pd2 : (Nat → Int32) → Prop) (Pd3 : (Nat → Int32) → Prop) (Pd4 : (Nat → Int32) → Prop) (Ps1 : (Nat → Int32) → Prop) (Ps2 : (Nat → Int32) → Prop) (Ps3 : (Nat → Int32) → Prop) (Ps4 : (Nat → Int32) → Prop) (Pi1 : (Nat → Int32) → Prop) (Pi2 : (Nat → Int32) → Prop) (Pi3 : (Nat → Int32) → Prop) (Pi4 : (Nat → Int32) → Prop) (t : Int) (a0 : Nat) (a1 : Int32) (a2 : Int32) (ha0 : eT E a0 ∈ [28]) (ht : 0 ≤ t ∧ t ≤ 400) (hFa1 : 0 ≤ Fa1.1 ∧ Fa1.2 ≤ 12) (hFb1 : 0 ≤ Fb1.1 ∧ Fb1.2 ≤ 14) (hFa2 : 0 ≤ Fa2.1 ∧ Fa2.2 ≤ 12) (hFb2 : 0 ≤ Fb2.1 ∧ Fb2.2 ≤ 14) (hFa3 : 0 ≤ Fa3.1 ∧ Fa3.2 ≤ 12) (hFb3 : 0 ≤ Fb3.1 ∧ Fb3.2 ≤ 14) (hFa4 : 0 ≤ Fa4.1 ∧ Fa4.2 ≤ 12) (hFb4 : 0 ≤ Fb4.1 ∧ Fb4.2 ≤ 14) (hkr : ∀ t ∈ kr, t ∈ [26, 27]) (hks : ∀ t ∈ ks, t ∈ [26, 27]) (hPd1 : ∀ f, Pd1 f → ivP 12 (-2) 11 f) (hPd2 : ∀ f, Pd2 f → ivP 12 (-2) 11 f) (hPd3 : ∀ f, Pd3 f → ivP 12 (-2) 11 f) (hPd4 : ∀ f, Pd4 f → ivP 12 (-2) 11 f) (hPs1 : ∀ f, Ps1 f → ivP 12 (-2147483648) 2147483647 f) (hPs2 : ∀ f, Ps2 f → ivP 12 (-2147483648) 2147483647 f) (hPs3 : ∀ f, Ps3 f → ivP 12 (-2147483648) 2147483647 f) (hPs4 : ∀ f, Ps4 f → ivP 12 (-2147483648) 2147483647 f) (hPi1 : ∀ f, Pi1 f → ivP 48 (-2147483648) 2147483647 f) (hPi2 : ∀ f, Pi2 f → ivP 48 (-2147483648) 2147483647 f) (hPi3 : ∀ f, Pi3 f → ivP 48 (-2147483648) 2147483647 f) (hPi4 : ∀ f, Pi4 f → ivP 48 (-2147483648) 2147483647 f) : TcI E yX6_barter cX6_barter 4 .int ({ frames := 4, cells := 0, slots := 0, locals := 102 }) [.ref a0, .int a1, .int a2] (fun H => TH E (tbC (dayD (.inl (0, 18))) (dayD (.inl (0, 18))) (riverD (.inl Fa1) (.inl Fb1) (.inl (0, 4)) 31 33 35 39 43 47) (riverD (.inl Fa2) (.inl Fb2) (.inl (0, 4)) 32 34 36 40 44 48) (rcD (.inl (t, t)) (.inr kr) (.inr ks) (.inl kb)) rd tp A14F A14F A4F A4F A14F A14F (riverD (.inl Fa3) (.inl Fb3) (.inl (0, 4)) 3 8 3 41 45 49) (riverD (.inl Fa4) (.inl Fb4) (.inl (0, 4)) 3 8 3 42 46 50) ((.inr (.inl (0, 12, Pd1)))) ((.inr (.inl (0, 12, Pd2)))) ((.inr (.inl (0, 12, Pd3)))) ((.inr (.inl (0, 12, Pd4)))) ((.inr (.inl (0, 12, Ps1)))) ((.inr (.inl (0, 12, Ps2)))) ((.inr (.inl (0, 12, Ps3)))) ((.inr (.inl (0, 12, Ps4)))) ((.inr (.inl (0, 48, Pi1)))) ((.inr (.inl (0, 48, Pi2)))) ((.inr (.inl (0, 48, Pi3)))) ((.inr (.inl (0, 48, Pi4))))) H) (fun v H => ((-2147483648) ≤ v.toInt ∧ v.toInt ≤ 2147483647) ∧ TH E (tbC (dayD (.inl (0, 18))) (dayD (.inl (0, 18))) (riverD (.inl Fa1) (.inl Fb1) (.inl (0, 4)) 31 33 35 39 43 47) (riverD (.inl Fa2) (.inl Fb2) (.inl (0, 4)) 32 34 36 40 44 48) (rcD (.inl (t, t)) (.inr kr) (.inr ks) (.inl kb)) rd tp A14F A14F A4F A4F A14F A14F (riverD (.inl Fa3) (.inl Fb3) (.inl (0, 4)) 3 8 3 41 45 49) (riverD (.inl Fa4) (.inl Fb4) (.inl (0, 4)) 3 8 3 42 46 50) ((.inr (.inl (0, 12, Pd1)))) ((.inr (.inl (0, 12, Pd2)))) ((.inr (.inl (0, 12, Pd3)))) ((.inr (.inl (0, 12, Pd4)))) ((.inr (.inl (0, 12, Ps1)))) ((.inr (.inl (0, 12, Ps2)))) ((.inr (.inl (0, 12, Ps3)))) ((.inr (.inl (0, 12, Ps4)))) ((.inr (.inl (0, 48, Pi1)))) ((.inr (.inl (0, 48, Pi2)))) ((.inr (.inl (0, 48, Pi3)))) ((.inr (.inl (0, 48, Pi4))))) H) := by
  refine teI (by decide) (Nat.le_of_ble_eq_true rfl) ?_
  intro p_ ev_ s mi_ below_ meth cd_ ls F hK hN hO hH hS hl
  have hH : TH E (tbC (dayD (.inl (0, 18))) (dayD (.inl (0, 18))) (riverD (.inl Fa1) (.inl Fb1) (.inl (0, 4)) 31 33 35 39 43 47) (riverD (.inl Fa2) (.inl Fb2) (.inl (0, 4)) 32 34 36 40 44 48) (rcD (.inl (t, t)) (.inr kr) (.inr ks) (.inl kb)) rd tp A14F A14F A4F A4F A14F A14F (riverD (.inl Fa3) (.inl Fb3) (.inl (0, 4)) 3 8 3 41 45 49) (riverD (.inl Fa4) (.inl Fb4) (.inl (0, 4)) 3 8 3 42 46 50) ((.inr (.inl (0, 12, Pd1)))) ((.inr (.inl (0, 12, Pd2)))) ((.inr (.inl (0, 12, Pd3)))) ((.inr (.inl (0, 12, Pd4)))) ((.inr (.inl (0, 12, Ps1)))) ((.inr (.inl (0, 12, Ps2)))) ((.inr (.inl (0, 12, Ps3)))) ((.inr (.inl (0, 12, Ps4)))) ((.inr (.inl (0, 48, Pi1)))) ((.inr (.inl (0, 48, Pi2)))) ((.inr (.inl (0, 48, Pi3)))) ((.inr (.inl (0, 48, Pi4))))) s.heap := hH
  have hl : lv_has ls 4 [(0, .ref a0), (1, .int a1), (2, .int a2)] := hl
  refine lv_aload_n F.1 F.2.1 dX6_barter_0 rfl (lv_at hl 0 rfl) ?_
  refine lv_iload_n F.1 F.2.1 dX6_barter_1 rfl (lv_at hl 1 rfl) ?_
  refine tVi (b := a0) (As := [.int a1]) (rest := []) F hK hN hO (c_X6_isRight E rd tp kb Fa1 Fb1 Fa2 Fb2 Fa3 Fb3 Fa4 Fb4 kr ks Pd1 Pd2 Pd3 Pd4 Ps1 Ps2 Ps3 Ps4 Pi1 Pi2 Pi3 Pi4 t a0 a1 ha0 (by omega) hFa1 hFb1 hFa2 hFb2 hFa3 hFb3 hFa4 hFb4 hkr hks hPd1 hPd2 hPd3 hPd4 hPs1 hPs2 hPs3 hPs4 hPi1 hPi2 hPi3 hPi4) mv_X6_isRight wd_31_10 ⟨Nat.le_of_ble_eq_true rfl, Nat.le_of_ble_eq_true rfl⟩ ⟨Nat.le_of_ble_eq_true rfl, Nat.le_of_ble_eq_true rfl⟩ hH hS (tRecv hK hH (tyb ha0 (all1 rfl)) clX6) rfl hl.1 (Nat.le_of_ble_eq_true rfl) dX6_barter_2 (fun z_1 H locs hq hS => ?_)
  obtain ⟨f_2, f_3, hH⟩ := hq
  have hH : TH E (tbC (dayD (.inl (0, 18))) (dayD (.inl (0, 18))) (riverD (.inl Fa1) (.inl Fb1) (.inl (0, 4)) 31 33 35 39 43 47) (riverD (.inl Fa2) (.inl Fb2) (.inl (0, 4)) 32 34 36 40 44 48) (rcD (.inl (t, t)) (.inr kr) (.inr ks) (.inl kb)) rd tp A14F A14F A4F A4F A14F A14F (riverD (.inl Fa3) (.inl Fb3) (.inl (0, 4)) 3 8 3 41 45 49) (riverD (.inl Fa4) (.inl Fb4) (.inl (0, 4)) 3 8 3 42 46 50) ((.inr (.inl (0, 12, Pd1)))) ((.inr (.inl (0, 12, Pd2)))) ((.inr (.inl (0, 12, Pd3)))) ((.inr (.inl (0, 12, Pd4)))) ((.inr (.inl (0, 12, Ps1)))) ((.inr (.inl (0, 12, Ps2)))) ((.inr (.inl (0, 12, Ps3)))) ((.inr (.inl (0, 12, Ps4)))) ((.inr (.inl (0, 48, Pi1)))) ((.inr (.inl (0, 48, Pi2)))) ((.inr (.inl (0, 48, Pi3)))) ((.inr (.inl (0, 48, Pi4))))) H := hH
  refine z_eq (tgt := 21) F dX6_barter_5 (by decide) (fun c_4 => ?_) (fun c_4 => ?_)
  · skip
    have r_5 : 0 ≤ z_1.toInt ∧ z_1.toInt ≤ 0 := by have h9_ := f_2; omega
    refine lv_iconst (v := (-1)) F.1 F.2.1 dX6_barter_21 (by decide) ?_
    refine topK (a := (-1)) (by decide) (fun k_8 hk_8 => ?_)
    exact txI F hS dX6_barter_22 rfl (⟨(wkb (eqb hk_8) rfl rfl), hH⟩)
  · skip
    have r_6 : 1 ≤ z_1.toInt ∧ z_1.toInt ≤ 1 := by have h9_ := f_2; omega
    have r_7 : 0 ≤ a1.toInt ∧ a1.toInt ≤ 13 := by have h9_ := (i32b a1); omega
    refine lv_iload_n F.1 F.2.1 dX6_barter_8 rfl (lv_at hl 2 rfl) ?_
    refine lv_iconst (v := (-1)) F.1 F.2.1 dX6_barter_9 (by decide) ?_
    refine topK (a := (-1)) (by decide) (fun k_9 hk_9 => ?_)
    refine wjoin (σ := Int32) (pcj := 23) (stj := fun x9 => []) (fun x9 H locs ls => ((-1) ≤ x9.toInt ∧ x9.toInt ≤ 3) ∧ TH E (tbC (dayD (.inl (0, 18))) (dayD (.inl (0, 18))) (riverD (.inl Fa1) (.inl Fb1) (.inl (0, 4)) 31 33 35 39 43 47) (riverD (.inl Fa2) (.inl Fb2) (.inl (0, 4)) 32 34 36 40 44 48) (rcD (.inl (t, t)) (.inr kr) (.inr ks) (.inl kb)) rd tp A14F A14F A4F A4F A14F A14F (riverD (.inl Fa3) (.inl Fb3) (.inl (0, 4)) 3 8 3 41 45 49) (riverD (.inl Fa4) (.inl Fb4) (.inl (0, 4)) 3 8 3 42 46 50) ((.inr (.inl (0, 12, Pd1)))) ((.inr (.inl (0, 12, Pd2)))) ((.inr (.inl (0, 12, Pd3)))) ((.inr (.inl (0, 12, Pd4)))) ((.inr (.inl (0, 12, Ps1)))) ((.inr (.inl (0, 12, Ps2)))) ((.inr (.inl (0, 12, Ps3)))) ((.inr (.inl (0, 12, Ps4)))) ((.inr (.inl (0, 48, Pi1)))) ((.inr (.inl (0, 48, Pi2)))) ((.inr (.inl (0, 48, Pi3)))) ((.inr (.inl (0, 48, Pi4))))) H ∧ va_S (eA E s.heap.size) s.heap H locs ∧ lv_has ls 4 [(0, .ref a0), (1, .int a1), (2, .int x9)]) (fun u_10 H locs ls h_ => ?_) (fun J_23 => ?_)
    · skip
      obtain ⟨hu_10, hH, hS, hl⟩ := h_
      have hu_10 : ((-1) ≤ u_10.toInt ∧ u_10.toInt ≤ 3) := hu_10
      have hH : TH E (tbC (dayD (.inl (0, 18))) (dayD (.inl (0, 18))) (riverD (.inl Fa1) (.inl Fb1) (.inl (0, 4)) 31 33 35 39 43 47) (riverD (.inl Fa2) (.inl Fb2) (.inl (0, 4)) 32 34 36 40 44 48) (rcD (.inl (t, t)) (.inr kr) (.inr ks) (.inl kb)) rd tp A14F A14F A4F A4F A14F A14F (riverD (.inl Fa3) (.inl Fb3) (.inl (0, 4)) 3 8 3 41 45 49) (riverD (.inl Fa4) (.inl Fb4) (.inl (0, 4)) 3 8 3 42 46 50) ((.inr (.inl (0, 12, Pd1)))) ((.inr (.inl (0, 12, Pd2)))) ((.inr (.inl (0, 12, Pd3)))) ((.inr (.inl (0, 12, Pd4)))) ((.inr (.inl (0, 12, Ps1)))) ((.inr (.inl (0, 12, Ps2)))) ((.inr (.inl (0, 12, Ps3)))) ((.inr (.inl (0, 12, Ps4)))) ((.inr (.inl (0, 48, Pi1)))) ((.inr (.inl (0, 48, Pi2)))) ((.inr (.inl (0, 48, Pi3)))) ((.inr (.inl (0, 48, Pi4))))) H := hH
      have hl : lv_has ls 4 [(0, .ref a0), (1, .int a1), (2, .int u_10)] := hl
      show W _ _ _ _ _ _ _ _ _ _ _ _ _ _ _ (F0 _ _ _ [])
      refine lv_iload_n F.1 F.2.1 dX6_barter_23 rfl (lv_at hl 2 rfl) ?_
      refine lv_iconst (v := (-1)) F.1 F.2.1 dX6_barter_24 (by decide) ?_
      refine topK (a := (-1)) (by decide) (fun k_11 hk_11 => ?_)
      refine wjoin (σ := Int32 × Int32) (pcj := 34) (stj := fun x9 => [.int x9.2]) (fun x9 H locs ls => ((-1) ≤ x9.1.toInt ∧ x9.1.toInt ≤ 3) ∧ ((-2) ≤ x9.2.toInt ∧ x9.2.toInt ≤ 3) ∧ TH E (tbC (dayD (.inl (0, 18))) (dayD (.inl (0, 18))) (riverD (.inl Fa1) (.inl Fb1) (.inl (0, 4)) 31 33 35 39 43 47) (riverD (.inl Fa2) (.inl Fb2) (.inl (0, 4)) 32 34 36 40 44 48) (rcD (.inl (t, t)) (.inr kr) (.inr ks) (.inl kb)) rd tp A14F A14F A4F A4F A14F A14F (riverD (.inl Fa3) (.inl Fb3) (.inl (0, 4)) 3 8 3 41 45 49) (riverD (.inl Fa4) (.inl Fb4) (.inl (0, 4)) 3 8 3 42 46 50) ((.inr (.inl (0, 12, Pd1)))) ((.inr (.inl (0, 12, Pd2)))) ((.inr (.inl (0, 12, Pd3)))) ((.inr (.inl (0, 12, Pd4)))) ((.inr (.inl (0, 12, Ps1)))) ((.inr (.inl (0, 12, Ps2)))) ((.inr (.inl (0, 12, Ps3)))) ((.inr (.inl (0, 12, Ps4)))) ((.inr (.inl (0, 48, Pi1)))) ((.inr (.inl (0, 48, Pi2)))) ((.inr (.inl (0, 48, Pi3)))) ((.inr (.inl (0, 48, Pi4))))) H ∧ va_S (eA E s.heap.size) s.heap H locs ∧ lv_has ls 4 [(0, .ref a0), (1, .int a1), (2, .int x9.1)]) (fun x9 H locs ls h_ => ?_) (fun J_34 => ?_)
      · skip
        obtain ⟨u_12, u_13⟩ := x9
        obtain ⟨hu_12, hu_13, hH, hS, hl⟩ := h_
        have hu_12 : ((-1) ≤ u_12.toInt ∧ u_12.toInt ≤ 3) := hu_12
        have hu_13 : ((-2) ≤ u_13.toInt ∧ u_13.toInt ≤ 3) := hu_13
        have hH : TH E (tbC (dayD (.inl (0, 18))) (dayD (.inl (0, 18))) (riverD (.inl Fa1) (.inl Fb1) (.inl (0, 4)) 31 33 35 39 43 47) (riverD (.inl Fa2) (.inl Fb2) (.inl (0, 4)) 32 34 36 40 44 48) (rcD (.inl (t, t)) (.inr kr) (.inr ks) (.inl kb)) rd tp A14F A14F A4F A4F A14F A14F (riverD (.inl Fa3) (.inl Fb3) (.inl (0, 4)) 3 8 3 41 45 49) (riverD (.inl Fa4) (.inl Fb4) (.inl (0, 4)) 3 8 3 42 46 50) ((.inr (.inl (0, 12, Pd1)))) ((.inr (.inl (0, 12, Pd2)))) ((.inr (.inl (0, 12, Pd3)))) ((.inr (.inl (0, 12, Pd4)))) ((.inr (.inl (0, 12, Ps1)))) ((.inr (.inl (0, 12, Ps2)))) ((.inr (.inl (0, 12, Ps3)))) ((.inr (.inl (0, 12, Ps4)))) ((.inr (.inl (0, 48, Pi1)))) ((.inr (.inl (0, 48, Pi2)))) ((.inr (.inl (0, 48, Pi3)))) ((.inr (.inl (0, 48, Pi4))))) H := hH
        have hl : lv_has ls 4 [(0, .ref a0), (1, .int a1), (2, .int u_12)] := hl
        show W _ _ _ _ _ _ _ _ _ _ _ _ _ _ _ (F0 _ _ _ [.int u_13])
        refine lv_istore_n (lv' := [(3, .int u_13), (0, .ref a0), (1, .int a1), (2, .int u_12)]) F.1 F.2.1 dX6_barter_34 rfl hl (by decide) rfl (fun ls hl => ?_)
        refine lv_aload_n F.1 F.2.1 dX6_barter_35 rfl (lv_at hl 1 rfl) ?_
        refine tGetR (j := 4) F hK hH (tyb ha0 (all1 rfl)) rfl (all1 rfl) clX6 (by decide) wd_1_22 dX6_barter_36 (fun q_14 hq_14 _ => ?_)
        refine tGetR (j := 6) F hK hH (tyb hq_14 (all1 rfl)) rfl (all1 rfl) clX5 (by decide) wd_33_5 dX6_barter_39 (fun q_15 hq_15 _ => ?_)
        refine lv_iload_n F.1 F.2.1 dX6_barter_42 rfl (lv_at hl 2 rfl) ?_
        refine tIaldB F hK hH (tyb hq_15 (all1 rfl)) (ixb (n := 14) r_7 rfl rfl) dX6_barter_43 (fun z_16 hz_16 => ?_)
        refine lv_iload_n F.1 F.2.1 dX6_barter_44 rfl (lv_at hl 0 rfl) ?_
        refine b_ne (tgt := 51) F dX6_barter_45 (by decide) (fun c_17 => ?_) (fun c_17 => ?_)
        · skip
          refine lv_iload_n F.1 F.2.1 dX6_barter_51 rfl (lv_at hl 3 rfl) ?_
          refine lv_iconst (v := (-1)) F.1 F.2.1 dX6_barter_52 (by decide) ?_
          refine topK (a := (-1)) (by decide) (fun k_18 hk_18 => ?_)
          refine wjoin (σ := Unit) (pcj := 87) (stj := fun x9 => []) (fun x9 H locs ls => TH E (tbC (dayD (.inl (0, 18))) (dayD (.inl (0, 18))) (riverD (.inl Fa1) (.inl Fb1) (.inl (0, 4)) 31 33 35 39 43 47) (riverD (.inl Fa2) (.inl Fb2) (.inl (0, 4)) 32 34 36 40 44 48) (rcD (.inl (t, t)) (.inr kr) (.inr ks) (.inl kb)) rd tp A14F A14F A4F A4F A14F A14F (riverD (.inl Fa3) (.inl Fb3) (.inl (0, 4)) 3 8 3 41 45 49) (riverD (.inl Fa4) (.inl Fb4) (.inl (0, 4)) 3 8 3 42 46 50) ((.inr (.inl (0, 12, Pd1)))) ((.inr (.inl (0, 12, Pd2)))) ((.inr (.inl (0, 12, Pd3)))) ((.inr (.inl (0, 12, Pd4)))) ((.inr (.inl (0, 12, Ps1)))) ((.inr (.inl (0, 12, Ps2)))) ((.inr (.inl (0, 12, Ps3)))) ((.inr (.inl (0, 12, Ps4)))) ((.inr (.inl (0, 48, Pi1)))) ((.inr (.inl (0, 48, Pi2)))) ((.inr (.inl (0, 48, Pi3)))) ((.inr (.inl (0, 48, Pi4))))) H ∧ va_S (eA E s.heap.size) s.heap H locs ∧ lv_has ls 4 [(0, .ref a0), (1, .int a1), (3, .int u_13)]) (fun x9 H locs ls h_ => ?_) (fun J_87 => ?_)
          · skip
            obtain ⟨hH, hS, hl⟩ := h_
            have hH : TH E (tbC (dayD (.inl (0, 18))) (dayD (.inl (0, 18))) (riverD (.inl Fa1) (.inl Fb1) (.inl (0, 4)) 31 33 35 39 43 47) (riverD (.inl Fa2) (.inl Fb2) (.inl (0, 4)) 32 34 36 40 44 48) (rcD (.inl (t, t)) (.inr kr) (.inr ks) (.inl kb)) rd tp A14F A14F A4F A4F A14F A14F (riverD (.inl Fa3) (.inl Fb3) (.inl (0, 4)) 3 8 3 41 45 49) (riverD (.inl Fa4) (.inl Fb4) (.inl (0, 4)) 3 8 3 42 46 50) ((.inr (.inl (0, 12, Pd1)))) ((.inr (.inl (0, 12, Pd2)))) ((.inr (.inl (0, 12, Pd3)))) ((.inr (.inl (0, 12, Pd4)))) ((.inr (.inl (0, 12, Ps1)))) ((.inr (.inl (0, 12, Ps2)))) ((.inr (.inl (0, 12, Ps3)))) ((.inr (.inl (0, 12, Ps4)))) ((.inr (.inl (0, 48, Pi1)))) ((.inr (.inl (0, 48, Pi2)))) ((.inr (.inl (0, 48, Pi3)))) ((.inr (.inl (0, 48, Pi4))))) H := hH
            have hl : lv_has ls 4 [(0, .ref a0), (1, .int a1), (3, .int u_13)] := hl
            show W _ _ _ _ _ _ _ _ _ _ _ _ _ _ _ (F0 _ _ _ [])
            refine lv_aload_n F.1 F.2.1 dX6_barter_87 rfl (lv_at hl 0 rfl) ?_
            refine tVv (b := a0) (As := []) (rest := []) F hK hN hO (c_X6_remember E rd tp kb Fa1 Fb1 Fa2 Fb2 Fa3 Fb3 Fa4 Fb4 kr ks Pd1 Pd2 Pd3 Pd4 Ps1 Ps2 Ps3 Ps4 Pi1 Pi2 Pi3 Pi4 t a0 ha0 (by omega) hFa1 hFb1 hFa2 hFb2 hFa3 hFb3 hFa4 hFb4 hkr hks hPd1 hPd2 hPd3 hPd4 hPs1 hPs2 hPs3 hPs4 hPi1 hPi2 hPi3 hPi4) mv_X6_remember wd_19_13 ⟨Nat.le_of_ble_eq_true rfl, Nat.le_of_ble_eq_true rfl⟩ ⟨Nat.le_of_ble_eq_true rfl, Nat.le_of_ble_eq_true rfl⟩ hH hS (tRecv hK hH (tyb ha0 (all1 rfl)) clX6) rfl hl.1 (Nat.le_of_ble_eq_true rfl) dX6_barter_88 (fun H locs hq hS => ?_)
            have hH := hq
            have hH : TH E (tbC (dayD (.inl (0, 18))) (dayD (.inl (0, 18))) (riverD (.inl Fa1) (.inl Fb1) (.inl (0, 4)) 31 33 35 39 43 47) (riverD (.inl Fa2) (.inl Fb2) (.inl (0, 4)) 32 34 36 40 44 48) (rcD (.inl (t, t)) (.inr kr) (.inr ks) (.inl kb)) rd tp A14F A14F A4F A4F A14F A14F (riverD (.inl Fa3) (.inl Fb3) (.inl (0, 4)) 3 8 3 41 45 49) (riverD (.inl Fa4) (.inl Fb4) (.inl (0, 4)) 3 8 3 42 46 50) ((.inr (.inl (0, 12, Pd1)))) ((.inr (.inl (0, 12, Pd2)))) ((.inr (.inl (0, 12, Pd3)))) ((.inr (.inl (0, 12, Pd4)))) ((.inr (.inl (0, 12, Ps1)))) ((.inr (.inl (0, 12, Ps2)))) ((.inr (.inl (0, 12, Ps3)))) ((.inr (.inl (0, 12, Ps4)))) ((.inr (.inl (0, 48, Pi1)))) ((.inr (.inl (0, 48, Pi2)))) ((.inr (.inl (0, 48, Pi3)))) ((.inr (.inl (0, 48, Pi4))))) H := hH
            refine lv_aload_n F.1 F.2.1 dX6_barter_91 rfl (lv_at hl 0 rfl) ?_
            refine tGetR (j := 4) F hK hH (tyb ha0 (all1 rfl)) rfl (all1 rfl) clX6 (by decide) wd_1_22 dX6_barter_92 (fun q_20 hq_20 _ => ?_)
            refine tGetR (j := 6) F hK hH (tyb hq_20 (all1 rfl)) rfl (all1 rfl) clX5 (by decide) wd_33_5 dX6_barter_95 (fun q_21 hq_21 _ => ?_)
            refine lv_iload_n F.1 F.2.1 dX6_barter_98 rfl (lv_at hl 1 rfl) ?_
            refine lv_iload_n F.1 F.2.1 dX6_barter_99 rfl (lv_at hl 2 rfl) ?_
            refine tIastB F hK hH hS (tyb hq_21 (all1 rfl)) (ixb (n := 14) r_7 rfl rfl) hu_13 dX6_barter_100 (fun H locs hH hS => ?_)
            refine lv_iconst (v := 1) F.1 F.2.1 dX6_barter_101 (by decide) ?_
            refine topK (a := 1) (by decide) (fun k_22 hk_22 => ?_)
            exact txI F hS dX6_barter_102 rfl (⟨(wkb (eqb hk_22) rfl rfl), hH⟩)
          refine b_eq (tgt := 87) F dX6_barter_53 (by decide) (fun c_23 => ?_) (fun c_23 => ?_)
          · skip
            have r_24 : (-1) ≤ u_12.toInt ∧ u_12.toInt ≤ (-1) := by have h9_ := hu_12; omega
            exact J_87 () _ _ _ ⟨hH, hS, lv_sub hl [1, 2, 0] rfl⟩
          · skip
            have r_25 : 0 ≤ u_12.toInt ∧ u_12.toInt ≤ 3 := by have h9_ := hu_12; omega
            refine lv_aload_n F.1 F.2.1 dX6_barter_56 rfl (lv_at hl 1 rfl) ?_
            refine tGetR0 (j := 2) F hK hH (tyb ha0 (all1 rfl)) rfl clX6 (by decide) wd_1_17 dX6_barter_57 (fun q_26 hq_26 => ?_)
            refine lv_aload_n F.1 F.2.1 dX6_barter_60 rfl (lv_at hl 1 rfl) ?_
            refine tGetR (j := 4) F hK hH (tyb ha0 (all1 rfl)) rfl (all1 rfl) clX6 (by decide) wd_1_22 dX6_barter_61 (fun q_27 hq_27 _ => ?_)
            refine tGetR (j := 2) F hK hH (tyb hq_27 (all1 rfl)) rfl (all1 rfl) clX5 (by decide) wd_32_5 dX6_barter_64 (fun q_28 hq_28 _ => ?_)
            refine lv_iload_n F.1 F.2.1 dX6_barter_67 rfl (lv_at hl 2 rfl) ?_
            refine tIaldB F hK hH (tyb hq_28 (all1 rfl)) (ixb (n := 14) r_7 rfl rfl) dX6_barter_68 (fun z_29 hz_29 => ?_)
            refine lv_aload_n F.1 F.2.1 dX6_barter_69 rfl (lv_at hl 1 rfl) ?_
            refine tGetR0 (j := 2) F hK hH (tyb ha0 (all1 rfl)) rfl clX6 (by decide) wd_1_17 dX6_barter_70 (fun q_30 hq_30 => ?_)
            refine tGetRM (j := 15) (L := [9]) F hK hH (hkr _ hq_30) (alls ⟨_, _, rfl, rfl, by decide⟩ (alls1 ⟨_, _, rfl, rfl, by decide⟩)) (all1 rfl) clX2 (by decide) wd_32_4 dX6_barter_73 (fun q_31 hq_31 _ => ?_)
            refine lv_iload_n F.1 F.2.1 dX6_barter_76 rfl (lv_at hl 3 rfl) ?_
            refine tIaldB F hK hH (tyb hq_31 (all1 rfl)) (ixb (n := 4) r_25 rfl rfl) dX6_barter_77 (fun z_32 hz_32 => ?_)
            refine tVi (b := q_26) (As := [.int z_29, .int z_32]) (rest := []) F hK hN hO (c_X2_runsTo E (dayD (.inl (0, 18))) (dayD (.inl (0, 18))) (rcD (.inl (t, t)) (.inr kr) (.inr ks) (.inl kb)) rd tp Fa1 Fb1 Fa2 Fb2 Fa3 Fb3 Fa4 Fb4 Pd1 Pd2 Pd3 Pd4 Ps1 Ps2 Ps3 Ps4 Pi1 Pi2 Pi3 Pi4 q_26 z_29 z_32 (by have h9_ := (hkr _ hq_26); simp at h9_ ⊢; omega) (wkb hz_29 rfl rfl) hFa1 hFb1 hFa2 hFb2 hFa3 hFb3 hFa4 hFb4 hPd1 hPd2 hPd3 hPd4 hPs1 hPs2 hPs3 hPs4 hPi1 hPi2 hPi3 hPi4) mv_X2_runsTo wd_32_11 ⟨Nat.le_of_ble_eq_true rfl, Nat.le_of_ble_eq_true rfl⟩ ⟨Nat.le_of_ble_eq_true rfl, Nat.le_of_ble_eq_true rfl⟩ hH hS (tRecvM hK hH (hkr _ hq_26) (alls ⟨_, rfl⟩ (alls1 ⟨_, rfl⟩)) clX2) rfl hl.1 (Nat.le_of_ble_eq_true rfl) dX6_barter_78 (fun z_33 H locs hq hS => ?_)
            obtain ⟨f_34, hH⟩ := hq
            have hH : TH E (tbC (dayD (.inl (0, 18))) (dayD (.inl (0, 18))) (riverD (.inl Fa1) (.inl Fb1) (.inl (0, 4)) 31 33 35 39 43 47) (riverD (.inl Fa2) (.inl Fb2) (.inl (0, 4)) 32 34 36 40 44 48) (rcD (.inl (t, t)) (.inr kr) (.inr ks) (.inl kb)) rd tp A14F A14F A4F A4F A14F A14F (riverD (.inl Fa3) (.inl Fb3) (.inl (0, 4)) 3 8 3 41 45 49) (riverD (.inl Fa4) (.inl Fb4) (.inl (0, 4)) 3 8 3 42 46 50) ((.inr (.inl (0, 12, Pd1)))) ((.inr (.inl (0, 12, Pd2)))) ((.inr (.inl (0, 12, Pd3)))) ((.inr (.inl (0, 12, Pd4)))) ((.inr (.inl (0, 12, Ps1)))) ((.inr (.inl (0, 12, Ps2)))) ((.inr (.inl (0, 12, Ps3)))) ((.inr (.inl (0, 12, Ps4)))) ((.inr (.inl (0, 48, Pi1)))) ((.inr (.inl (0, 48, Pi2)))) ((.inr (.inl (0, 48, Pi3)))) ((.inr (.inl (0, 48, Pi4))))) H := hH
            refine z_ne (tgt := 87) F dX6_barter_81 (by decide) (fun c_35 => ?_) (fun c_35 => ?_)
            · skip
              have r_36 : 1 ≤ z_33.toInt ∧ z_33.toInt ≤ 1 := by have h9_ := f_34; omega
              exact J_87 () _ _ _ ⟨hH, hS, lv_sub hl [1, 2, 0] rfl⟩
            · skip
              have r_37 : 0 ≤ z_33.toInt ∧ z_33.toInt ≤ 0 := by have h9_ := f_34; omega
              refine lv_bipush (v := (-3)) F.1 F.2.1 dX6_barter_84 (by decide) ?_
              refine topK (a := (-3)) (by decide) (fun k_38 hk_38 => ?_)
              exact txI F hS dX6_barter_86 rfl (⟨(wkb (eqb hk_38) rfl rfl), hH⟩)
        · skip
          refine lv_bipush (v := (-2)) F.1 F.2.1 dX6_barter_48 (by decide) ?_
          refine topK (a := (-2)) (by decide) (fun k_39 hk_39 => ?_)
          exact txI F hS dX6_barter_50 rfl (⟨(wkb (eqb hk_39) rfl rfl), hH⟩)
      refine b_ne (tgt := 33) F dX6_barter_25 (by decide) (fun c_40 => ?_) (fun c_40 => ?_)
      · skip
        have r_41 : 0 ≤ u_10.toInt ∧ u_10.toInt ≤ 3 := by have h9_ := hu_10; omega
        refine lv_iload_n F.1 F.2.1 dX6_barter_33 rfl (lv_at hl 2 rfl) ?_
        exact J_34 (u_10, u_10) _ _ _ ⟨(wkb r_41 rfl rfl), (wkb r_41 rfl rfl), hH, hS, lv_sub hl [0, 1, 2] rfl⟩
      · skip
        have r_42 : (-1) ≤ u_10.toInt ∧ u_10.toInt ≤ (-1) := by have h9_ := hu_10; omega
        refine lv_bipush (v := (-2)) F.1 F.2.1 dX6_barter_28 (by decide) ?_
        refine topK (a := (-2)) (by decide) (fun k_43 hk_43 => ?_)
        refine lv_goto (tgt := 34) F.1 F.2.1 dX6_barter_30 (by decide) ?_
        exact J_34 (u_10, k_43) _ _ _ ⟨(wkb r_42 rfl rfl), (wkb (eqb hk_43) rfl rfl), hH, hS, lv_sub hl [0, 1, 2] rfl⟩
    refine b_eq (tgt := 23) F dX6_barter_10 (by decide) (fun c_44 => ?_) (fun c_44 => ?_)
    · skip
      have r_45 : (-1) ≤ a2.toInt ∧ a2.toInt ≤ (-1) := by have h9_ := (i32b a2); omega
      exact J_23 (a2) _ _ _ ⟨(wkb r_45 rfl rfl), hH, hS, lv_sub hl [0, 1, 2] rfl⟩
    · skip
      refine lv_aload_n F.1 F.2.1 dX6_barter_13 rfl (lv_at hl 0 rfl) ?_
      refine lv_iload_n F.1 F.2.1 dX6_barter_14 rfl (lv_at hl 2 rfl) ?_
      refine tVi (b := a0) (As := [.int a2]) (rest := []) F hK hN hO (c_X6_isStore E rd tp kb Fa1 Fb1 Fa2 Fb2 Fa3 Fb3 Fa4 Fb4 kr ks Pd1 Pd2 Pd3 Pd4 Ps1 Ps2 Ps3 Ps4 Pi1 Pi2 Pi3 Pi4 t a0 a2 ha0 (by omega) hFa1 hFb1 hFa2 hFb2 hFa3 hFb3 hFa4 hFb4 hkr hks hPd1 hPd2 hPd3 hPd4 hPs1 hPs2 hPs3 hPs4 hPi1 hPi2 hPi3 hPi4) mv_X6_isStore wd_32_6 ⟨Nat.le_of_ble_eq_true rfl, Nat.le_of_ble_eq_true rfl⟩ ⟨Nat.le_of_ble_eq_true rfl, Nat.le_of_ble_eq_true rfl⟩ hH hS (tRecv hK hH (tyb ha0 (all1 rfl)) clX6) rfl hl.1 (Nat.le_of_ble_eq_true rfl) dX6_barter_15 (fun z_46 H locs hq hS => ?_)
      obtain ⟨f_47, f_48, hH⟩ := hq
      have hH : TH E (tbC (dayD (.inl (0, 18))) (dayD (.inl (0, 18))) (riverD (.inl Fa1) (.inl Fb1) (.inl (0, 4)) 31 33 35 39 43 47) (riverD (.inl Fa2) (.inl Fb2) (.inl (0, 4)) 32 34 36 40 44 48) (rcD (.inl (t, t)) (.inr kr) (.inr ks) (.inl kb)) rd tp A14F A14F A4F A4F A14F A14F (riverD (.inl Fa3) (.inl Fb3) (.inl (0, 4)) 3 8 3 41 45 49) (riverD (.inl Fa4) (.inl Fb4) (.inl (0, 4)) 3 8 3 42 46 50) ((.inr (.inl (0, 12, Pd1)))) ((.inr (.inl (0, 12, Pd2)))) ((.inr (.inl (0, 12, Pd3)))) ((.inr (.inl (0, 12, Pd4)))) ((.inr (.inl (0, 12, Ps1)))) ((.inr (.inl (0, 12, Ps2)))) ((.inr (.inl (0, 12, Ps3)))) ((.inr (.inl (0, 12, Ps4)))) ((.inr (.inl (0, 48, Pi1)))) ((.inr (.inl (0, 48, Pi2)))) ((.inr (.inl (0, 48, Pi3)))) ((.inr (.inl (0, 48, Pi4))))) H := hH
      refine z_ne (tgt := 23) F dX6_barter_18 (by decide) (fun c_49 => ?_) (fun c_49 => ?_)
      · skip
        have r_50 : 1 ≤ z_46.toInt ∧ z_46.toInt ≤ 1 := by have h9_ := f_47; omega
        have r_51 : 0 ≤ a2.toInt ∧ a2.toInt ≤ 3 := by have h9_ := (i32b a2); omega
        exact J_23 (a2) _ _ _ ⟨(wkb r_51 rfl rfl), hH, hS, lv_sub hl [0, 1, 2] rfl⟩
      · skip
        have r_52 : 0 ≤ z_46.toInt ∧ z_46.toInt ≤ 0 := by have h9_ := f_47; omega
        refine lv_iconst (v := (-1)) F.1 F.2.1 dX6_barter_21 (by decide) ?_
        refine topK (a := (-1)) (by decide) (fun k_53 hk_53 => ?_)
        exact txI F hS dX6_barter_22 rfl (⟨(wkb (eqb hk_53) rfl rfl), hH⟩)
set_option maxHeartbeats 4000000 in
set_option maxRecDepth 100000 in
theorem c_X6_trade (E : Ev) (rd : TD) (tp : TD) (kb : Int × Int) (Fa1 : Int × Int) (Fb1 : Int × Int) (Fa2 : Int × Int) (Fb2 : Int × Int) (Fa3 : Int × Int) (Fb3 : Int × Int) (Fa4 : Int × Int) (Fb4 : Int × Int) (kr : List Nat) (ks : List Nat) (Pd1 : (Nat → Int32) → Prop) (Pd2 : (Nat → Int32) → Prop) (Pd3 : (Nat → Int32) → Prop) (Pd4 : (Nat → Int32) → Prop) (Ps1 : (Nat → Int32) → Prop) (Ps2 : (Nat → Int32) → Prop) (Ps3 : (Nat → Int32) → Prop) (Ps4 : (Nat → Int32) → Prop) (Pi1 : (Nat → Int32) → Prop) (Pi2 : (Nat → Int32) → Prop) (Pi3 : (Nat → Int32) → Prop) (Pi4 : (Nat → Int32) → Prop) (t : Int) (a0 : Nat) (a1 : Int32) (a2 : Int32) (ha0 : eT E a0 ∈ [28]) (ht : 0 ≤ t ∧ t ≤ 400) (hFa1 : 0 ≤ Fa1.1 ∧ Fa1.2 ≤ 12) (hFb1 : 0 ≤ Fb1.1 ∧ Fb1.2 ≤ 14) (hFa2 : 0 ≤ Fa2.1 ∧ Fa2.2 ≤ 12) (hFb2 : 0 ≤ Fb2.1 ∧ Fb2.2 ≤ 14) (hFa3 : 0 ≤ Fa3.1 ∧ Fa3.2 ≤ 12) (hFb3 : 0 ≤ Fb3.1 ∧ Fb3.2 ≤ 14) (hFa4 : 0 ≤ Fa4.1 ∧ Fa4.2 ≤ 12) (hFb4 : 0 ≤ Fb4.1 ∧ Fb4.2 ≤ 14) (hkr : ∀ t ∈ kr, t ∈ [26, 27]) (hks : ∀ t ∈ ks, t ∈ [26, 27]) (hPd1 : ∀ f, Pd1 f → ivP 12 (-2) 11 f) (hPd2 : ∀ f, Pd2 f → ivP 12 (-2) 11 f) (hPd3 : ∀ f, Pd3 f → ivP 12 (-2) 11 f) (hPd4 : ∀ f, Pd4 f → ivP 12 (-2) 11 f) (hPs1 : ∀ f, Ps1 f → ivP 12 (-2147483648) 2147483647 f) (hPs2 : ∀ f, Ps2 f → ivP 12 (-2147483648) 2147483647 f) (hPs3 : ∀ f, Ps3 f → ivP 12 (-2147483648) 2147483647 f) (hPs4 : ∀ f, Ps4 f → ivP 12 (-2147483648) 2147483647 f) (hPi1 : ∀ f, Pi1 f → ivP 48 (-2147483648) 2147483647 f) (hPi2 : ∀ f, Pi2 f → ivP 48 (-2147483648) 2147483647 f) (hPi3 : ∀ f, Pi3 f → ivP 48 (-2147483648) 2147483647 f) (hPi4 : ∀ f, Pi4 f → ivP 48 (-2147483648) 2147483647 f) : TcI E yX6_trade cX6_trade 3 .int ({ frames := 4, cells := 0, slots := 0, locals := 102 }) [.ref a0, .int a1, .int a2] (fun H => TH E (tbC (dayD (.inl (0, 18))) (dayD (.inl (0, 18))) (riverD (.inl Fa1) (.inl Fb1) (.inl (0, 4)) 31 33 35 39 43 47) (riverD (.inl Fa2) (.inl Fb2) (.inl (0, 4)) 32 34 36 40 44 48) (rcD (.inl (t, t)) (.inr kr) (.inr ks) (.inl kb)) rd tp A14F A14F A4F A4F A14F A14F (riverD (.inl Fa3) (.inl Fb3) (.inl (0, 4)) 3 8 3 41 45 49) (riverD (.inl Fa4) (.inl Fb4) (.inl (0, 4)) 3 8 3 42 46 50) ((.inr (.inl (0, 12, Pd1)))) ((.inr (.inl (0, 12, Pd2)))) ((.inr (.inl (0, 12, Pd3)))) ((.inr (.inl (0, 12, Pd4)))) ((.inr (.inl (0, 12, Ps1)))) ((.inr (.inl (0, 12, Ps2)))) ((.inr (.inl (0, 12, Ps3)))) ((.inr (.inl (0, 12, Ps4)))) ((.inr (.inl (0, 48, Pi1)))) ((.inr (.inl (0, 48, Pi2)))) ((.inr (.inl (0, 48, Pi3)))) ((.inr (.inl (0, 48, Pi4))))) H) (fun v H => ((-2147483648) ≤ v.toInt ∧ v.toInt ≤ 2147483647) ∧ TH E (tbC (dayD (.inl (0, 18))) (dayD (.inl (0, 18))) (riverD (.inl Fa1) (.inl Fb1) (.inl (0, 4)) 31 33 35 39 43 47) (riverD (.inl Fa2) (.inl Fb2) (.inl (0, 4)) 32 34 36 40 44 48) (rcD (.inl (t, t)) (.inr kr) (.inr ks) (.inl kb)) rd tp A14F A14F A4F A4F A14F A14F (riverD (.inl Fa3) (.inl Fb3) (.inl (0, 4)) 3 8 3 41 45 49) (riverD (.inl Fa4) (.inl Fb4) (.inl (0, 4)) 3 8 3 42 46 50) ((.inr (.inl (0, 12, Pd1)))) ((.inr (.inl (0, 12, Pd2)))) ((.inr (.inl (0, 12, Pd3)))) ((.inr (.inl (0, 12, Pd4)))) ((.inr (.inl (0, 12, Ps1)))) ((.inr (.inl (0, 12, Ps2)))) ((.inr (.inl (0, 12, Ps3)))) ((.inr (.inl (0, 12, Ps4)))) ((.inr (.inl (0, 48, Pi1)))) ((.inr (.inl (0, 48, Pi2)))) ((.inr (.inl (0, 48, Pi3)))) ((.inr (.inl (0, 48, Pi4))))) H) := by
  refine teI (by decide) (Nat.le_of_ble_eq_true rfl) ?_
  intro p_ ev_ s mi_ below_ meth cd_ ls F hK hN hO hH hS hl
  have hH : TH E (tbC (dayD (.inl (0, 18))) (dayD (.inl (0, 18))) (riverD (.inl Fa1) (.inl Fb1) (.inl (0, 4)) 31 33 35 39 43 47) (riverD (.inl Fa2) (.inl Fb2) (.inl (0, 4)) 32 34 36 40 44 48) (rcD (.inl (t, t)) (.inr kr) (.inr ks) (.inl kb)) rd tp A14F A14F A4F A4F A14F A14F (riverD (.inl Fa3) (.inl Fb3) (.inl (0, 4)) 3 8 3 41 45 49) (riverD (.inl Fa4) (.inl Fb4) (.inl (0, 4)) 3 8 3 42 46 50) ((.inr (.inl (0, 12, Pd1)))) ((.inr (.inl (0, 12, Pd2)))) ((.inr (.inl (0, 12, Pd3)))) ((.inr (.inl (0, 12, Pd4)))) ((.inr (.inl (0, 12, Ps1)))) ((.inr (.inl (0, 12, Ps2)))) ((.inr (.inl (0, 12, Ps3)))) ((.inr (.inl (0, 12, Ps4)))) ((.inr (.inl (0, 48, Pi1)))) ((.inr (.inl (0, 48, Pi2)))) ((.inr (.inl (0, 48, Pi3)))) ((.inr (.inl (0, 48, Pi4))))) s.heap := hH
  have hl : lv_has ls 3 [(0, .ref a0), (1, .int a1), (2, .int a2)] := hl
  refine lv_aload_n F.1 F.2.1 dX6_trade_0 rfl (lv_at hl 0 rfl) ?_
  refine lv_iload_n F.1 F.2.1 dX6_trade_1 rfl (lv_at hl 1 rfl) ?_
  refine lv_iload_n F.1 F.2.1 dX6_trade_2 rfl (lv_at hl 2 rfl) ?_
  refine tVi (b := a0) (As := [.int a1, .int a2]) (rest := []) F hK hN hO (c_X6_areTwoRights E rd tp kb Fa1 Fb1 Fa2 Fb2 Fa3 Fb3 Fa4 Fb4 kr ks Pd1 Pd2 Pd3 Pd4 Ps1 Ps2 Ps3 Ps4 Pi1 Pi2 Pi3 Pi4 t a0 a1 a2 ha0 (by omega) hFa1 hFb1 hFa2 hFb2 hFa3 hFb3 hFa4 hFb4 hkr hks hPd1 hPd2 hPd3 hPd4 hPs1 hPs2 hPs3 hPs4 hPi1 hPi2 hPi3 hPi4) mv_X6_areTwoRights wd_33_14 ⟨Nat.le_of_ble_eq_true rfl, Nat.le_of_ble_eq_true rfl⟩ ⟨Nat.le_of_ble_eq_true rfl, Nat.le_of_ble_eq_true rfl⟩ hH hS (tRecv hK hH (tyb ha0 (all1 rfl)) clX6) rfl hl.1 (Nat.le_of_ble_eq_true rfl) dX6_trade_3 (fun z_1 H locs hq hS => ?_)
  obtain ⟨f_2, f_3, f_4, hH⟩ := hq
  have hH : TH E (tbC (dayD (.inl (0, 18))) (dayD (.inl (0, 18))) (riverD (.inl Fa1) (.inl Fb1) (.inl (0, 4)) 31 33 35 39 43 47) (riverD (.inl Fa2) (.inl Fb2) (.inl (0, 4)) 32 34 36 40 44 48) (rcD (.inl (t, t)) (.inr kr) (.inr ks) (.inl kb)) rd tp A14F A14F A4F A4F A14F A14F (riverD (.inl Fa3) (.inl Fb3) (.inl (0, 4)) 3 8 3 41 45 49) (riverD (.inl Fa4) (.inl Fb4) (.inl (0, 4)) 3 8 3 42 46 50) ((.inr (.inl (0, 12, Pd1)))) ((.inr (.inl (0, 12, Pd2)))) ((.inr (.inl (0, 12, Pd3)))) ((.inr (.inl (0, 12, Pd4)))) ((.inr (.inl (0, 12, Ps1)))) ((.inr (.inl (0, 12, Ps2)))) ((.inr (.inl (0, 12, Ps3)))) ((.inr (.inl (0, 12, Ps4)))) ((.inr (.inl (0, 48, Pi1)))) ((.inr (.inl (0, 48, Pi2)))) ((.inr (.inl (0, 48, Pi3)))) ((.inr (.inl (0, 48, Pi4))))) H := hH
  refine z_ne (tgt := 11) F dX6_trade_6 (by decide) (fun c_5 => ?_) (fun c_5 => ?_)
  · skip
    have r_6 : 1 ≤ z_1.toInt ∧ z_1.toInt ≤ 1 := by have h9_ := f_2; omega
    have r_7 : 0 ≤ a1.toInt ∧ a1.toInt ≤ 13 := by have h9_ := (i32b a1); omega
    have r_8 : 0 ≤ a2.toInt ∧ a2.toInt ≤ 13 := by have h9_ := (i32b a2); omega
    refine lv_aload_n F.1 F.2.1 dX6_trade_11 rfl (lv_at hl 0 rfl) ?_
    refine tVv (b := a0) (As := []) (rest := []) F hK hN hO (c_X6_remember E rd tp kb Fa1 Fb1 Fa2 Fb2 Fa3 Fb3 Fa4 Fb4 kr ks Pd1 Pd2 Pd3 Pd4 Ps1 Ps2 Ps3 Ps4 Pi1 Pi2 Pi3 Pi4 t a0 ha0 (by omega) hFa1 hFb1 hFa2 hFb2 hFa3 hFb3 hFa4 hFb4 hkr hks hPd1 hPd2 hPd3 hPd4 hPs1 hPs2 hPs3 hPs4 hPi1 hPi2 hPi3 hPi4) mv_X6_remember wd_19_13 ⟨Nat.le_of_ble_eq_true rfl, Nat.le_of_ble_eq_true rfl⟩ ⟨Nat.le_of_ble_eq_true rfl, Nat.le_of_ble_eq_true rfl⟩ hH hS (tRecv hK hH (tyb ha0 (all1 rfl)) clX6) rfl hl.1 (Nat.le_of_ble_eq_true rfl) dX6_trade_12 (fun H locs hq hS => ?_)
    have hH := hq
    have hH : TH E (tbC (dayD (.inl (0, 18))) (dayD (.inl (0, 18))) (riverD (.inl Fa1) (.inl Fb1) (.inl (0, 4)) 31 33 35 39 43 47) (riverD (.inl Fa2) (.inl Fb2) (.inl (0, 4)) 32 34 36 40 44 48) (rcD (.inl (t, t)) (.inr kr) (.inr ks) (.inl kb)) rd tp A14F A14F A4F A4F A14F A14F (riverD (.inl Fa3) (.inl Fb3) (.inl (0, 4)) 3 8 3 41 45 49) (riverD (.inl Fa4) (.inl Fb4) (.inl (0, 4)) 3 8 3 42 46 50) ((.inr (.inl (0, 12, Pd1)))) ((.inr (.inl (0, 12, Pd2)))) ((.inr (.inl (0, 12, Pd3)))) ((.inr (.inl (0, 12, Pd4)))) ((.inr (.inl (0, 12, Ps1)))) ((.inr (.inl (0, 12, Ps2)))) ((.inr (.inl (0, 12, Ps3)))) ((.inr (.inl (0, 12, Ps4)))) ((.inr (.inl (0, 48, Pi1)))) ((.inr (.inl (0, 48, Pi2)))) ((.inr (.inl (0, 48, Pi3)))) ((.inr (.inl (0, 48, Pi4))))) H := hH
    refine lv_aload_n F.1 F.2.1 dX6_trade_15 rfl (lv_at hl 0 rfl) ?_
    refine tGetR (j := 4) F hK hH (tyb ha0 (all1 rfl)) rfl (all1 rfl) clX6 (by decide) wd_1_22 dX6_trade_16 (fun q_11 hq_11 _ => ?_)
    refine lv_iload_n F.1 F.2.1 dX6_trade_19 rfl (lv_at hl 1 rfl) ?_
    refine lv_iload_n F.1 F.2.1 dX6_trade_20 rfl (lv_at hl 2 rfl) ?_
    refine tVv (b := q_11) (As := [.int a1, .int a2]) (rest := []) F hK hN hO (c_X5_tradeAges E (dayD (.inl (0, 18))) (dayD (.inl (0, 18))) (riverD (.inl Fa1) (.inl Fb1) (.inl (0, 4)) 31 33 35 39 43 47) (riverD (.inl Fa2) (.inl Fb2) (.inl (0, 4)) 32 34 36 40 44 48) (rcD (.inl (t, t)) (.inr kr) (.inr ks) (.inl kb)) rd tp A14F A14F A4F A4F A14F A14F (riverD (.inl Fa3) (.inl Fb3) (.inl (0, 4)) 3 8 3 41 45 49) (riverD (.inl Fa4) (.inl Fb4) (.inl (0, 4)) 3 8 3 42 46 50) ((.inr (.inl (0, 12, Pd1)))) ((.inr (.inl (0, 12, Pd2)))) ((.inr (.inl (0, 12, Pd3)))) ((.inr (.inl (0, 12, Pd4)))) ((.inr (.inl (0, 12, Ps1)))) ((.inr (.inl (0, 12, Ps2)))) ((.inr (.inl (0, 12, Ps3)))) ((.inr (.inl (0, 12, Ps4)))) ((.inr (.inl (0, 48, Pi1)))) ((.inr (.inl (0, 48, Pi2)))) ((.inr (.inl (0, 48, Pi3)))) ((.inr (.inl (0, 48, Pi4)))) q_11 a1 a2 hq_11 r_7 r_8) mv_X5_tradeAges wd_33_18 ⟨Nat.le_of_ble_eq_true rfl, Nat.le_of_ble_eq_true rfl⟩ ⟨Nat.le_of_ble_eq_true rfl, Nat.le_of_ble_eq_true rfl⟩ hH hS (tRecv hK hH (tyb hq_11 (all1 rfl)) clX5) rfl hl.1 (Nat.le_of_ble_eq_true rfl) dX6_trade_21 (fun H locs hq hS => ?_)
    have hH := hq
    have hH : TH E (tbC (dayD (.inl (0, 18))) (dayD (.inl (0, 18))) (riverD (.inl Fa1) (.inl Fb1) (.inl (0, 4)) 31 33 35 39 43 47) (riverD (.inl Fa2) (.inl Fb2) (.inl (0, 4)) 32 34 36 40 44 48) (rcD (.inl (t, t)) (.inr kr) (.inr ks) (.inl kb)) rd tp A14F A14F A4F A4F A14F A14F (riverD (.inl Fa3) (.inl Fb3) (.inl (0, 4)) 3 8 3 41 45 49) (riverD (.inl Fa4) (.inl Fb4) (.inl (0, 4)) 3 8 3 42 46 50) ((.inr (.inl (0, 12, Pd1)))) ((.inr (.inl (0, 12, Pd2)))) ((.inr (.inl (0, 12, Pd3)))) ((.inr (.inl (0, 12, Pd4)))) ((.inr (.inl (0, 12, Ps1)))) ((.inr (.inl (0, 12, Ps2)))) ((.inr (.inl (0, 12, Ps3)))) ((.inr (.inl (0, 12, Ps4)))) ((.inr (.inl (0, 48, Pi1)))) ((.inr (.inl (0, 48, Pi2)))) ((.inr (.inl (0, 48, Pi3)))) ((.inr (.inl (0, 48, Pi4))))) H := hH
    refine lv_iconst (v := 1) F.1 F.2.1 dX6_trade_24 (by decide) ?_
    refine topK (a := 1) (by decide) (fun k_13 hk_13 => ?_)
    exact txI F hS dX6_trade_25 rfl (⟨(wkb (eqb hk_13) rfl rfl), hH⟩)
  · skip
    have r_9 : 0 ≤ z_1.toInt ∧ z_1.toInt ≤ 0 := by have h9_ := f_2; omega
    refine lv_iconst (v := (-1)) F.1 F.2.1 dX6_trade_9 (by decide) ?_
    refine topK (a := (-1)) (by decide) (fun k_14 hk_14 => ?_)
    exact txI F hS dX6_trade_10 rfl (⟨(wkb (eqb hk_14) rfl rfl), hH⟩)
set_option maxHeartbeats 4000000 in
set_option maxRecDepth 100000 in
theorem c_X6_trade_1 (E : Ev) (rd : TD) (tp : TD) (kb : Int × Int) (Fa1 : Int × Int) (Fa2 : Int × Int) (Fb2 : Int × Int) (Fa3 : Int × Int) (Fb3 : Int × Int) (Fa4 : Int × Int) (Fb4 : Int × Int) (ks : List Nat) (Pd1 : (Nat → Int32) → Prop) (Pd2 : (Nat → Int32) → Prop) (Pd3 : (Nat → Int32) → Prop) (Pd4 : (Nat → Int32) → Prop) (Ps1 : (Nat → Int32) → Prop) (Ps2 : (Nat → Int32) → Prop) (Ps3 : (Nat → Int32) → Prop) (Ps4 : (Nat → Int32) → Prop) (Pi1 : (Nat → Int32) → Prop) (Pi2 : (Nat → Int32) → Prop) (Pi3 : (Nat → Int32) → Prop) (Pi4 : (Nat → Int32) → Prop) (b : Int) (t : Int) (a0 : Nat) (a1 : Int32) (a2 : Int32) (ha0 : eT E a0 ∈ [28]) (hb : 0 ≤ b ∧ b ≤ 14) (ht : 0 ≤ t ∧ t ≤ 400) (hFa1 : 0 ≤ Fa1.1 ∧ Fa1.2 ≤ 12) (hFa2 : 0 ≤ Fa2.1 ∧ Fa2.2 ≤ 12) (hFb2 : 0 ≤ Fb2.1 ∧ Fb2.2 ≤ 14) (hFa3 : 0 ≤ Fa3.1 ∧ Fa3.2 ≤ 12) (hFb3 : 0 ≤ Fb3.1 ∧ Fb3.2 ≤ 14) (hFa4 : 0 ≤ Fa4.1 ∧ Fa4.2 ≤ 12) (hFb4 : 0 ≤ Fb4.1 ∧ Fb4.2 ≤ 14) (hks : ∀ t ∈ ks, t ∈ [26, 27]) (hPd1 : ∀ f, Pd1 f → ivP 12 (-2) 11 f) (hPd2 : ∀ f, Pd2 f → ivP 12 (-2) 11 f) (hPd3 : ∀ f, Pd3 f → ivP 12 (-2) 11 f) (hPd4 : ∀ f, Pd4 f → ivP 12 (-2) 11 f) (hPs1 : ∀ f, Ps1 f → ivP 12 (-2147483648) 2147483647 f) (hPs2 : ∀ f, Ps2 f → ivP 12 (-2147483648) 2147483647 f) (hPs3 : ∀ f, Ps3 f → ivP 12 (-2147483648) 2147483647 f) (hPs4 : ∀ f, Ps4 f → ivP 12 (-2147483648) 2147483647 f) (hPi1 : ∀ f, Pi1 f → ivP 48 (-2147483648) 2147483647 f) (hPi2 : ∀ f, Pi2 f → ivP 48 (-2147483648) 2147483647 f) (hPi3 : ∀ f, Pi3 f → ivP 48 (-2147483648) 2147483647 f) (hPi4 : ∀ f, Pi4 f → ivP 48 (-2147483648) 2147483647 f) : TcI E yX6_trade cX6_trade 3 .int ({ frames := 4, cells := 0, slots := 0, locals := 102 }) [.ref a0, .int a1, .int a2] (fun H => TH E (tbC (dayD (.inl (0, 18))) (dayD (.inl (0, 18))) (riverD (.inl Fa1) (.inl (b, b)) (.inl (0, 4)) 31 33 35 39 43 47) (riverD (.inl Fa2) (.inl Fb2) (.inl (0, 4)) 32 34 36 40 44 48) (rcD (.inl (t, t)) (.inr [26]) (.inr ks) (.inl kb)) rd tp A14F A14F A4F A4F A14F A14F (riverD (.inl Fa3) (.inl Fb3) (.inl (0, 4)) 3 8 3 41 45 49) (riverD (.inl Fa4) (.inl Fb4) (.inl (0, 4)) 3 8 3 42 46 50) ((.inr (.inl (0, 12, Pd1)))) ((.inr (.inl (0, 12, Pd2)))) ((.inr (.inl (0, 12, Pd3)))) ((.inr (.inl (0, 12, Pd4)))) ((.inr (.inl (0, 12, Ps1)))) ((.inr (.inl (0, 12, Ps2)))) ((.inr (.inl (0, 12, Ps3)))) ((.inr (.inl (0, 12, Ps4)))) ((.inr (.inl (0, 48, Pi1)))) ((.inr (.inl (0, 48, Pi2)))) ((.inr (.inl (0, 48, Pi3)))) ((.inr (.inl (0, 48, Pi4))))) H) (fun v H => ((-2147483648) ≤ v.toInt ∧ v.toInt ≤ 2147483647) ∧ (v.toInt = trA b a1.toInt a2.toInt) ∧ TH E (tbC (dayD (.inl (0, 18))) (dayD (.inl (0, 18))) (riverD (.inl Fa1) (.inl (b, b)) (.inl (0, 4)) 31 33 35 39 43 47) (riverD (.inl Fa2) (.inl Fb2) (.inl (0, 4)) 32 34 36 40 44 48) (rcD (.inl (t, t)) (.inr [26]) (.inr ks) (.inl kb)) rd tp A14F A14F A4F A4F A14F A14F (riverD (.inl Fa3) (.inl Fb3) (.inl (0, 4)) 3 8 3 41 45 49) (riverD (.inl Fa4) (.inl Fb4) (.inl (0, 4)) 3 8 3 42 46 50) ((.inr (.inl (0, 12, Pd1)))) ((.inr (.inl (0, 12, Pd2)))) ((.inr (.inl (0, 12, Pd3)))) ((.inr (.inl (0, 12, Pd4)))) ((.inr (.inl (0, 12, Ps1)))) ((.inr (.inl (0, 12, Ps2)))) ((.inr (.inl (0, 12, Ps3)))) ((.inr (.inl (0, 12, Ps4)))) ((.inr (.inl (0, 48, Pi1)))) ((.inr (.inl (0, 48, Pi2)))) ((.inr (.inl (0, 48, Pi3)))) ((.inr (.inl (0, 48, Pi4))))) H) := by
  refine teI (by decide) (Nat.le_of_ble_eq_true rfl) ?_
  intro p_ ev_ s mi_ below_ meth cd_ ls F hK hN hO hH hS hl
  have hH : TH E (tbC (dayD (.inl (0, 18))) (dayD (.inl (0, 18))) (riverD (.inl Fa1) (.inl (b, b)) (.inl (0, 4)) 31 33 35 39 43 47) (riverD (.inl Fa2) (.inl Fb2) (.inl (0, 4)) 32 34 36 40 44 48) (rcD (.inl (t, t)) (.inr [26]) (.inr ks) (.inl kb)) rd tp A14F A14F A4F A4F A14F A14F (riverD (.inl Fa3) (.inl Fb3) (.inl (0, 4)) 3 8 3 41 45 49) (riverD (.inl Fa4) (.inl Fb4) (.inl (0, 4)) 3 8 3 42 46 50) ((.inr (.inl (0, 12, Pd1)))) ((.inr (.inl (0, 12, Pd2)))) ((.inr (.inl (0, 12, Pd3)))) ((.inr (.inl (0, 12, Pd4)))) ((.inr (.inl (0, 12, Ps1)))) ((.inr (.inl (0, 12, Ps2)))) ((.inr (.inl (0, 12, Ps3)))) ((.inr (.inl (0, 12, Ps4)))) ((.inr (.inl (0, 48, Pi1)))) ((.inr (.inl (0, 48, Pi2)))) ((.inr (.inl (0, 48, Pi3)))) ((.inr (.inl (0, 48, Pi4))))) s.heap := hH
  have hl : lv_has ls 3 [(0, .ref a0), (1, .int a1), (2, .int a2)] := hl
  refine lv_aload_n F.1 F.2.1 dX6_trade_0 rfl (lv_at hl 0 rfl) ?_
  refine lv_iload_n F.1 F.2.1 dX6_trade_1 rfl (lv_at hl 1 rfl) ?_
  refine lv_iload_n F.1 F.2.1 dX6_trade_2 rfl (lv_at hl 2 rfl) ?_
  refine tVi (b := a0) (As := [.int a1, .int a2]) (rest := []) F hK hN hO (c_X6_areTwoRights_1 E rd tp kb Fa1 Fa2 Fb2 Fa3 Fb3 Fa4 Fb4 ks Pd1 Pd2 Pd3 Pd4 Ps1 Ps2 Ps3 Ps4 Pi1 Pi2 Pi3 Pi4 b t a0 a1 a2 ha0 (by omega) (by omega) hFa1 hFa2 hFb2 hFa3 hFb3 hFa4 hFb4 hks hPd1 hPd2 hPd3 hPd4 hPs1 hPs2 hPs3 hPs4 hPi1 hPi2 hPi3 hPi4) mv_X6_areTwoRights wd_33_14 ⟨Nat.le_of_ble_eq_true rfl, Nat.le_of_ble_eq_true rfl⟩ ⟨Nat.le_of_ble_eq_true rfl, Nat.le_of_ble_eq_true rfl⟩ hH hS (tRecv hK hH (tyb ha0 (all1 rfl)) clX6) rfl hl.1 (Nat.le_of_ble_eq_true rfl) dX6_trade_3 (fun z_1 H locs hq hS => ?_)
  obtain ⟨f_2, f_3, f_4, f_5, hH⟩ := hq
  have hH : TH E (tbC (dayD (.inl (0, 18))) (dayD (.inl (0, 18))) (riverD (.inl Fa1) (.inl (b, b)) (.inl (0, 4)) 31 33 35 39 43 47) (riverD (.inl Fa2) (.inl Fb2) (.inl (0, 4)) 32 34 36 40 44 48) (rcD (.inl (t, t)) (.inr [26]) (.inr ks) (.inl kb)) rd tp A14F A14F A4F A4F A14F A14F (riverD (.inl Fa3) (.inl Fb3) (.inl (0, 4)) 3 8 3 41 45 49) (riverD (.inl Fa4) (.inl Fb4) (.inl (0, 4)) 3 8 3 42 46 50) ((.inr (.inl (0, 12, Pd1)))) ((.inr (.inl (0, 12, Pd2)))) ((.inr (.inl (0, 12, Pd3)))) ((.inr (.inl (0, 12, Pd4)))) ((.inr (.inl (0, 12, Ps1)))) ((.inr (.inl (0, 12, Ps2)))) ((.inr (.inl (0, 12, Ps3)))) ((.inr (.inl (0, 12, Ps4)))) ((.inr (.inl (0, 48, Pi1)))) ((.inr (.inl (0, 48, Pi2)))) ((.inr (.inl (0, 48, Pi3)))) ((.inr (.inl (0, 48, Pi4))))) H := hH
  refine z_ne (tgt := 11) F dX6_trade_6 (by decide) (fun c_6 => ?_) (fun c_6 => ?_)
  · skip
    have r_7 : 1 ≤ z_1.toInt ∧ z_1.toInt ≤ 1 := by have h9_ := f_2; omega
    have r_8 : 0 ≤ a1.toInt ∧ a1.toInt ≤ 13 := by have h9_ := (i32b a1); omega
    have r_9 : 0 ≤ a2.toInt ∧ a2.toInt ≤ 13 := by have h9_ := (i32b a2); omega
    refine lv_aload_n F.1 F.2.1 dX6_trade_11 rfl (lv_at hl 0 rfl) ?_
    refine tVv (b := a0) (As := []) (rest := []) F hK hN hO (c_X6_remember E rd tp kb Fa1 (b, b) Fa2 Fb2 Fa3 Fb3 Fa4 Fb4 ([26]) ks Pd1 Pd2 Pd3 Pd4 Ps1 Ps2 Ps3 Ps4 Pi1 Pi2 Pi3 Pi4 t a0 ha0 (by omega) hFa1 (by show 0 ≤ b ∧ b ≤ 14; omega) hFa2 hFb2 hFa3 hFb3 hFa4 hFb4 (by decide) hks hPd1 hPd2 hPd3 hPd4 hPs1 hPs2 hPs3 hPs4 hPi1 hPi2 hPi3 hPi4) mv_X6_remember wd_19_13 ⟨Nat.le_of_ble_eq_true rfl, Nat.le_of_ble_eq_true rfl⟩ ⟨Nat.le_of_ble_eq_true rfl, Nat.le_of_ble_eq_true rfl⟩ hH hS (tRecv hK hH (tyb ha0 (all1 rfl)) clX6) rfl hl.1 (Nat.le_of_ble_eq_true rfl) dX6_trade_12 (fun H locs hq hS => ?_)
    have hH := hq
    have hH : TH E (tbC (dayD (.inl (0, 18))) (dayD (.inl (0, 18))) (riverD (.inl Fa1) (.inl (b, b)) (.inl (0, 4)) 31 33 35 39 43 47) (riverD (.inl Fa2) (.inl Fb2) (.inl (0, 4)) 32 34 36 40 44 48) (rcD (.inl (t, t)) (.inr [26]) (.inr ks) (.inl kb)) rd tp A14F A14F A4F A4F A14F A14F (riverD (.inl Fa3) (.inl Fb3) (.inl (0, 4)) 3 8 3 41 45 49) (riverD (.inl Fa4) (.inl Fb4) (.inl (0, 4)) 3 8 3 42 46 50) ((.inr (.inl (0, 12, Pd1)))) ((.inr (.inl (0, 12, Pd2)))) ((.inr (.inl (0, 12, Pd3)))) ((.inr (.inl (0, 12, Pd4)))) ((.inr (.inl (0, 12, Ps1)))) ((.inr (.inl (0, 12, Ps2)))) ((.inr (.inl (0, 12, Ps3)))) ((.inr (.inl (0, 12, Ps4)))) ((.inr (.inl (0, 48, Pi1)))) ((.inr (.inl (0, 48, Pi2)))) ((.inr (.inl (0, 48, Pi3)))) ((.inr (.inl (0, 48, Pi4))))) H := hH
    refine lv_aload_n F.1 F.2.1 dX6_trade_15 rfl (lv_at hl 0 rfl) ?_
    refine tGetR (j := 4) F hK hH (tyb ha0 (all1 rfl)) rfl (all1 rfl) clX6 (by decide) wd_1_22 dX6_trade_16 (fun q_12 hq_12 _ => ?_)
    refine lv_iload_n F.1 F.2.1 dX6_trade_19 rfl (lv_at hl 1 rfl) ?_
    refine lv_iload_n F.1 F.2.1 dX6_trade_20 rfl (lv_at hl 2 rfl) ?_
    refine tVv (b := q_12) (As := [.int a1, .int a2]) (rest := []) F hK hN hO (c_X5_tradeAges E (dayD (.inl (0, 18))) (dayD (.inl (0, 18))) (riverD (.inl Fa1) (.inl (b, b)) (.inl (0, 4)) 31 33 35 39 43 47) (riverD (.inl Fa2) (.inl Fb2) (.inl (0, 4)) 32 34 36 40 44 48) (rcD (.inl (t, t)) (.inr [26]) (.inr ks) (.inl kb)) rd tp A14F A14F A4F A4F A14F A14F (riverD (.inl Fa3) (.inl Fb3) (.inl (0, 4)) 3 8 3 41 45 49) (riverD (.inl Fa4) (.inl Fb4) (.inl (0, 4)) 3 8 3 42 46 50) ((.inr (.inl (0, 12, Pd1)))) ((.inr (.inl (0, 12, Pd2)))) ((.inr (.inl (0, 12, Pd3)))) ((.inr (.inl (0, 12, Pd4)))) ((.inr (.inl (0, 12, Ps1)))) ((.inr (.inl (0, 12, Ps2)))) ((.inr (.inl (0, 12, Ps3)))) ((.inr (.inl (0, 12, Ps4)))) ((.inr (.inl (0, 48, Pi1)))) ((.inr (.inl (0, 48, Pi2)))) ((.inr (.inl (0, 48, Pi3)))) ((.inr (.inl (0, 48, Pi4)))) q_12 a1 a2 hq_12 r_8 r_9) mv_X5_tradeAges wd_33_18 ⟨Nat.le_of_ble_eq_true rfl, Nat.le_of_ble_eq_true rfl⟩ ⟨Nat.le_of_ble_eq_true rfl, Nat.le_of_ble_eq_true rfl⟩ hH hS (tRecv hK hH (tyb hq_12 (all1 rfl)) clX5) rfl hl.1 (Nat.le_of_ble_eq_true rfl) dX6_trade_21 (fun H locs hq hS => ?_)
    have hH := hq
    have hH : TH E (tbC (dayD (.inl (0, 18))) (dayD (.inl (0, 18))) (riverD (.inl Fa1) (.inl (b, b)) (.inl (0, 4)) 31 33 35 39 43 47) (riverD (.inl Fa2) (.inl Fb2) (.inl (0, 4)) 32 34 36 40 44 48) (rcD (.inl (t, t)) (.inr [26]) (.inr ks) (.inl kb)) rd tp A14F A14F A4F A4F A14F A14F (riverD (.inl Fa3) (.inl Fb3) (.inl (0, 4)) 3 8 3 41 45 49) (riverD (.inl Fa4) (.inl Fb4) (.inl (0, 4)) 3 8 3 42 46 50) ((.inr (.inl (0, 12, Pd1)))) ((.inr (.inl (0, 12, Pd2)))) ((.inr (.inl (0, 12, Pd3)))) ((.inr (.inl (0, 12, Pd4)))) ((.inr (.inl (0, 12, Ps1)))) ((.inr (.inl (0, 12, Ps2)))) ((.inr (.inl (0, 12, Ps3)))) ((.inr (.inl (0, 12, Ps4)))) ((.inr (.inl (0, 48, Pi1)))) ((.inr (.inl (0, 48, Pi2)))) ((.inr (.inl (0, 48, Pi3)))) ((.inr (.inl (0, 48, Pi4))))) H := hH
    refine lv_iconst (v := 1) F.1 F.2.1 dX6_trade_24 (by decide) ?_
    refine topK (a := 1) (by decide) (fun k_14 hk_14 => ?_)
    exact txI F hS dX6_trade_25 rfl (⟨(wkb (eqb hk_14) rfl rfl), (trA_y (by omega) (by omega)), hH⟩)
  · skip
    have r_10 : 0 ≤ z_1.toInt ∧ z_1.toInt ≤ 0 := by have h9_ := f_2; omega
    refine lv_iconst (v := (-1)) F.1 F.2.1 dX6_trade_9 (by decide) ?_
    refine topK (a := (-1)) (by decide) (fun k_15 hk_15 => ?_)
    exact txI F hS dX6_trade_10 rfl (⟨(wkb (eqb hk_15) rfl rfl), (trA_n (by omega) (by omega)), hH⟩)
