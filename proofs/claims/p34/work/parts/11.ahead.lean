theorem dX1_comeMore_0 : decode cX1_comeMore 0 = .ok (.aload_n 0, 1) := by decide +kernel
theorem dX1_comeMore_1 : decode cX1_comeMore 1 = .ok (.getfield 34, 3) := by decide +kernel
theorem dX1_comeMore_4 : decode cX1_comeMore 4 = .ok (.iload_n 1, 1) := by decide +kernel
theorem dX1_comeMore_5 : decode cX1_comeMore 5 = .ok (.putfield 52, 3) := by decide +kernel
theorem dX1_comeMore_8 : decode cX1_comeMore 8 = .ok (.aload_n 0, 1) := by decide +kernel
theorem dX1_comeMore_9 : decode cX1_comeMore 9 = .ok (.getfield 34, 3) := by decide +kernel
theorem dX1_comeMore_12 : decode cX1_comeMore 12 = .ok (.iload_n 2, 1) := by decide +kernel
theorem dX1_comeMore_13 : decode cX1_comeMore 13 = .ok (.putfield 56, 3) := by decide +kernel
theorem dX1_comeMore_16 : decode cX1_comeMore 16 = .ok (.return_, 1) := by decide +kernel
theorem dX1_begin_0 : decode cX1_begin 0 = .ok (.aload_n 0, 1) := by decide +kernel
theorem dX1_begin_1 : decode cX1_begin 1 = .ok (.aload_n 1, 1) := by decide +kernel
theorem dX1_begin_2 : decode cX1_begin 2 = .ok (.putfield 22, 3) := by decide +kernel
theorem dX1_begin_5 : decode cX1_begin 5 = .ok (.aload_n 0, 1) := by decide +kernel
theorem dX1_begin_6 : decode cX1_begin 6 = .ok (.aload_n 2, 1) := by decide +kernel
theorem dX1_begin_7 : decode cX1_begin 7 = .ok (.putfield 26, 3) := by decide +kernel
theorem dX1_begin_10 : decode cX1_begin 10 = .ok (.aload_n 0, 1) := by decide +kernel
theorem dX1_begin_11 : decode cX1_begin 11 = .ok (.getfield 12, 3) := by decide +kernel
theorem dX1_begin_14 : decode cX1_begin 14 = .ok (.aload_n 2, 1) := by decide +kernel
theorem dX1_begin_15 : decode cX1_begin 15 = .ok (.invokevirtual 38, 3) := by decide +kernel
theorem dX1_begin_18 : decode cX1_begin 18 = .ok (.aload_n 0, 1) := by decide +kernel
theorem dX1_begin_19 : decode cX1_begin 19 = .ok (.iconst (-1), 1) := by decide +kernel
theorem dX1_begin_20 : decode cX1_begin 20 = .ok (.iconst 0, 1) := by decide +kernel
theorem dX1_begin_21 : decode cX1_begin 21 = .ok (.invokevirtual 42, 3) := by decide +kernel
theorem dX1_begin_24 : decode cX1_begin 24 = .ok (.return_, 1) := by decide +kernel
theorem dX1_beginMoved_0 : decode cX1_beginMoved 0 = .ok (.aload_n 0, 1) := by decide +kernel
theorem dX1_beginMoved_1 : decode cX1_beginMoved 1 = .ok (.aload_n 1, 1) := by decide +kernel
theorem dX1_beginMoved_2 : decode cX1_beginMoved 2 = .ok (.aload_n 2, 1) := by decide +kernel
theorem dX1_beginMoved_3 : decode cX1_beginMoved 3 = .ok (.invokevirtual 46, 3) := by decide +kernel
theorem dX1_beginMoved_6 : decode cX1_beginMoved 6 = .ok (.aload_n 0, 1) := by decide +kernel
theorem dX1_beginMoved_7 : decode cX1_beginMoved 7 = .ok (.getfield 12, 3) := by decide +kernel
theorem dX1_beginMoved_10 : decode cX1_beginMoved 10 = .ok (.getfield 49, 3) := by decide +kernel
theorem dX1_beginMoved_13 : decode cX1_beginMoved 13 = .ok (.iload_n 3, 1) := by decide +kernel
theorem dX1_beginMoved_14 : decode cX1_beginMoved 14 = .ok (.iload 4, 2) := by decide +kernel
theorem dX1_beginMoved_16 : decode cX1_beginMoved 16 = .ok (.iastore, 1) := by decide +kernel
theorem dX1_beginMoved_17 : decode cX1_beginMoved 17 = .ok (.return_, 1) := by decide +kernel
theorem dX1_forget_0 : decode cX1_forget 0 = .ok (.iconst 0, 1) := by decide +kernel
theorem dX1_forget_1 : decode cX1_forget 1 = .ok (.istore_n 1, 1) := by decide +kernel
theorem dX1_forget_2 : decode cX1_forget 2 = .ok (.iload_n 1, 1) := by decide +kernel
theorem dX1_forget_3 : decode cX1_forget 3 = .ok (.bipush 14, 2) := by decide +kernel
theorem dX1_forget_5 : decode cX1_forget 5 = .ok (.if_icmp .ge 16, 3) := by decide +kernel
theorem dX1_forget_8 : decode cX1_forget 8 = .ok (.aload_n 0, 1) := by decide +kernel
theorem dX1_forget_9 : decode cX1_forget 9 = .ok (.getfield 18, 3) := by decide +kernel
theorem dX1_forget_12 : decode cX1_forget 12 = .ok (.iload_n 1, 1) := by decide +kernel
theorem dX1_forget_13 : decode cX1_forget 13 = .ok (.iconst 0, 1) := by decide +kernel
theorem dX1_forget_14 : decode cX1_forget 14 = .ok (.iastore, 1) := by decide +kernel
theorem dX1_forget_15 : decode cX1_forget 15 = .ok (.iinc 1 1, 3) := by decide +kernel
theorem dX1_forget_18 : decode cX1_forget 18 = .ok (.goto (-16), 3) := by decide +kernel
theorem dX1_forget_21 : decode cX1_forget 21 = .ok (.aload_n 0, 1) := by decide +kernel
theorem dX1_forget_22 : decode cX1_forget 22 = .ok (.iconst 0, 1) := by decide +kernel
theorem dX1_forget_23 : decode cX1_forget 23 = .ok (.putfield 80, 3) := by decide +kernel
theorem dX1_forget_26 : decode cX1_forget 26 = .ok (.aload_n 0, 1) := by decide +kernel
theorem dX1_forget_27 : decode cX1_forget 27 = .ok (.sipush 9999, 3) := by decide +kernel
theorem dX1_forget_30 : decode cX1_forget 30 = .ok (.putfield 89, 3) := by decide +kernel
theorem dX1_forget_33 : decode cX1_forget 33 = .ok (.aload_n 0, 1) := by decide +kernel
theorem dX1_forget_34 : decode cX1_forget 34 = .ok (.iconst 0, 1) := by decide +kernel
theorem dX1_forget_35 : decode cX1_forget 35 = .ok (.putfield 92, 3) := by decide +kernel
theorem dX1_forget_38 : decode cX1_forget 38 = .ok (.aload_n 0, 1) := by decide +kernel
theorem dX1_forget_39 : decode cX1_forget 39 = .ok (.bipush (-2), 2) := by decide +kernel
theorem dX1_forget_41 : decode cX1_forget 41 = .ok (.putfield 95, 3) := by decide +kernel
theorem dX1_forget_44 : decode cX1_forget 44 = .ok (.aload_n 0, 1) := by decide +kernel
theorem dX1_forget_45 : decode cX1_forget 45 = .ok (.iconst 0, 1) := by decide +kernel
theorem dX1_forget_46 : decode cX1_forget 46 = .ok (.putfield 98, 3) := by decide +kernel
theorem dX1_forget_49 : decode cX1_forget 49 = .ok (.aload_n 0, 1) := by decide +kernel
theorem dX1_forget_50 : decode cX1_forget 50 = .ok (.iconst 0, 1) := by decide +kernel
theorem dX1_forget_51 : decode cX1_forget 51 = .ok (.putfield 101, 3) := by decide +kernel
theorem dX1_forget_54 : decode cX1_forget 54 = .ok (.return_, 1) := by decide +kernel
theorem dX1_watch_0 : decode cX1_watch 0 = .ok (.aload_n 0, 1) := by decide +kernel
theorem dX1_watch_1 : decode cX1_watch 1 = .ok (.aload_n 0, 1) := by decide +kernel
theorem dX1_watch_2 : decode cX1_watch 2 = .ok (.getfield 89, 3) := by decide +kernel
theorem dX1_watch_5 : decode cX1_watch 5 = .ok (.aload_n 0, 1) := by decide +kernel
theorem dX1_watch_6 : decode cX1_watch 6 = .ok (.getfield 34, 3) := by decide +kernel
theorem dX1_watch_9 : decode cX1_watch 9 = .ok (.iload_n 1, 1) := by decide +kernel
theorem dX1_watch_10 : decode cX1_watch 10 = .ok (.invokevirtual 104, 3) := by decide +kernel
theorem dX1_watch_13 : decode cX1_watch 13 = .ok (.invokestatic 108, 3) := by decide +kernel
theorem dX1_watch_16 : decode cX1_watch 16 = .ok (.putfield 89, 3) := by decide +kernel
theorem dX1_watch_19 : decode cX1_watch 19 = .ok (.aload_n 0, 1) := by decide +kernel
theorem dX1_watch_20 : decode cX1_watch 20 = .ok (.getfield 34, 3) := by decide +kernel
theorem dX1_watch_23 : decode cX1_watch 23 = .ok (.iload_n 1, 1) := by decide +kernel
theorem dX1_watch_24 : decode cX1_watch 24 = .ok (.invokevirtual 114, 3) := by decide +kernel
theorem dX1_watch_27 : decode cX1_watch 27 = .ok (.ifCond .ne 9, 3) := by decide +kernel
theorem dX1_watch_30 : decode cX1_watch 30 = .ok (.aload_n 0, 1) := by decide +kernel
theorem dX1_watch_31 : decode cX1_watch 31 = .ok (.iconst 0, 1) := by decide +kernel
theorem dX1_watch_32 : decode cX1_watch 32 = .ok (.putfield 101, 3) := by decide +kernel
theorem dX1_watch_35 : decode cX1_watch 35 = .ok (.return_, 1) := by decide +kernel
theorem dX1_watch_36 : decode cX1_watch 36 = .ok (.aload_n 0, 1) := by decide +kernel
theorem dX1_watch_37 : decode cX1_watch 37 = .ok (.dup, 1) := by decide +kernel
theorem dX1_watch_38 : decode cX1_watch 38 = .ok (.getfield 92, 3) := by decide +kernel
theorem dX1_watch_41 : decode cX1_watch 41 = .ok (.iconst 1, 1) := by decide +kernel
theorem dX1_watch_42 : decode cX1_watch 42 = .ok (.iadd, 1) := by decide +kernel
theorem dX1_watch_43 : decode cX1_watch 43 = .ok (.putfield 92, 3) := by decide +kernel
theorem dX1_watch_46 : decode cX1_watch 46 = .ok (.aload_n 0, 1) := by decide +kernel
theorem dX1_watch_47 : decode cX1_watch 47 = .ok (.dup, 1) := by decide +kernel
theorem dX1_watch_48 : decode cX1_watch 48 = .ok (.getfield 101, 3) := by decide +kernel
theorem dX1_watch_51 : decode cX1_watch 51 = .ok (.iconst 1, 1) := by decide +kernel
theorem dX1_watch_52 : decode cX1_watch 52 = .ok (.iadd, 1) := by decide +kernel
theorem dX1_watch_53 : decode cX1_watch 53 = .ok (.putfield 101, 3) := by decide +kernel
theorem dX1_watch_56 : decode cX1_watch 56 = .ok (.aload_n 0, 1) := by decide +kernel
theorem dX1_watch_57 : decode cX1_watch 57 = .ok (.aload_n 0, 1) := by decide +kernel
theorem dX1_watch_58 : decode cX1_watch 58 = .ok (.getfield 98, 3) := by decide +kernel
theorem dX1_watch_61 : decode cX1_watch 61 = .ok (.aload_n 0, 1) := by decide +kernel
theorem dX1_watch_62 : decode cX1_watch 62 = .ok (.getfield 101, 3) := by decide +kernel
theorem dX1_watch_65 : decode cX1_watch 65 = .ok (.invokestatic 118, 3) := by decide +kernel
theorem dX1_watch_68 : decode cX1_watch 68 = .ok (.putfield 98, 3) := by decide +kernel
theorem dX1_watch_71 : decode cX1_watch 71 = .ok (.aload_n 0, 1) := by decide +kernel
theorem dX1_watch_72 : decode cX1_watch 72 = .ok (.getfield 95, 3) := by decide +kernel
theorem dX1_watch_75 : decode cX1_watch 75 = .ok (.ifCond .ge 8, 3) := by decide +kernel
theorem dX1_watch_78 : decode cX1_watch 78 = .ok (.aload_n 0, 1) := by decide +kernel
theorem dX1_watch_79 : decode cX1_watch 79 = .ok (.iload_n 2, 1) := by decide +kernel
theorem dX1_watch_80 : decode cX1_watch 80 = .ok (.putfield 95, 3) := by decide +kernel
theorem dX1_watch_83 : decode cX1_watch 83 = .ok (.return_, 1) := by decide +kernel
theorem dX1_run_0 : decode cX1_run 0 = .ok (.aload_n 0, 1) := by decide +kernel
theorem dX1_run_1 : decode cX1_run 1 = .ok (.getfield 34, 3) := by decide +kernel
theorem dX1_run_4 : decode cX1_run 4 = .ok (.aload_n 0, 1) := by decide +kernel
theorem dX1_run_5 : decode cX1_run 5 = .ok (.getfield 22, 3) := by decide +kernel
theorem dX1_run_8 : decode cX1_run 8 = .ok (.aload_n 0, 1) := by decide +kernel
theorem dX1_run_9 : decode cX1_run 9 = .ok (.getfield 12, 3) := by decide +kernel
theorem dX1_run_12 : decode cX1_run 12 = .ok (.invokevirtual 59, 3) := by decide +kernel
theorem dX1_run_15 : decode cX1_run 15 = .ok (.aload_n 0, 1) := by decide +kernel
theorem dX1_run_16 : decode cX1_run 16 = .ok (.invokevirtual 62, 3) := by decide +kernel
theorem dX1_run_19 : decode cX1_run 19 = .ok (.iconst 0, 1) := by decide +kernel
theorem dX1_run_20 : decode cX1_run 20 = .ok (.istore_n 3, 1) := by decide +kernel
theorem dX1_run_21 : decode cX1_run 21 = .ok (.iload_n 3, 1) := by decide +kernel
theorem dX1_run_22 : decode cX1_run 22 = .ok (.iload_n 1, 1) := by decide +kernel
theorem dX1_run_23 : decode cX1_run 23 = .ok (.if_icmp .ge 105, 3) := by decide +kernel
theorem dX1_run_26 : decode cX1_run 26 = .ok (.aload_n 0, 1) := by decide +kernel
theorem dX1_run_27 : decode cX1_run 27 = .ok (.getfield 34, 3) := by decide +kernel
theorem dX1_run_30 : decode cX1_run 30 = .ok (.invokevirtual 65, 3) := by decide +kernel
theorem dX1_run_33 : decode cX1_run 33 = .ok (.iconst 0, 1) := by decide +kernel
theorem dX1_run_34 : decode cX1_run 34 = .ok (.istore 4, 2) := by decide +kernel
theorem dX1_run_36 : decode cX1_run 36 = .ok (.iload 4, 2) := by decide +kernel
theorem dX1_run_38 : decode cX1_run 38 = .ok (.aload_n 0, 1) := by decide +kernel
theorem dX1_run_39 : decode cX1_run 39 = .ok (.getfield 22, 3) := by decide +kernel
theorem dX1_run_42 : decode cX1_run 42 = .ok (.getfield 68, 3) := by decide +kernel
theorem dX1_run_45 : decode cX1_run 45 = .ok (.if_icmp .ge 29, 3) := by decide +kernel
theorem dX1_run_48 : decode cX1_run 48 = .ok (.aload_n 0, 1) := by decide +kernel
theorem dX1_run_49 : decode cX1_run 49 = .ok (.getfield 18, 3) := by decide +kernel
theorem dX1_run_52 : decode cX1_run 52 = .ok (.iload 4, 2) := by decide +kernel
theorem dX1_run_54 : decode cX1_run 54 = .ok (.dup2, 1) := by decide +kernel
theorem dX1_run_55 : decode cX1_run 55 = .ok (.iaload, 1) := by decide +kernel
theorem dX1_run_56 : decode cX1_run 56 = .ok (.aload_n 0, 1) := by decide +kernel
theorem dX1_run_57 : decode cX1_run 57 = .ok (.getfield 34, 3) := by decide +kernel
theorem dX1_run_60 : decode cX1_run 60 = .ok (.getfield 73, 3) := by decide +kernel
theorem dX1_run_63 : decode cX1_run 63 = .ok (.iload 4, 2) := by decide +kernel
theorem dX1_run_65 : decode cX1_run 65 = .ok (.iaload, 1) := by decide +kernel
theorem dX1_run_66 : decode cX1_run 66 = .ok (.iadd, 1) := by decide +kernel
theorem dX1_run_67 : decode cX1_run 67 = .ok (.iastore, 1) := by decide +kernel
theorem dX1_run_68 : decode cX1_run 68 = .ok (.iinc 4 1, 3) := by decide +kernel
theorem dX1_run_71 : decode cX1_run 71 = .ok (.goto (-35), 3) := by decide +kernel
theorem dX1_run_74 : decode cX1_run 74 = .ok (.aload_n 0, 1) := by decide +kernel
theorem dX1_run_75 : decode cX1_run 75 = .ok (.getfield 34, 3) := by decide +kernel
theorem dX1_run_78 : decode cX1_run 78 = .ok (.invokevirtual 76, 3) := by decide +kernel
theorem dX1_run_81 : decode cX1_run 81 = .ok (.ifCond .eq 13, 3) := by decide +kernel
theorem dX1_run_84 : decode cX1_run 84 = .ok (.aload_n 0, 1) := by decide +kernel
theorem dX1_run_85 : decode cX1_run 85 = .ok (.dup, 1) := by decide +kernel
theorem dX1_run_86 : decode cX1_run 86 = .ok (.getfield 80, 3) := by decide +kernel
theorem dX1_run_89 : decode cX1_run 89 = .ok (.iconst 1, 1) := by decide +kernel
theorem dX1_run_90 : decode cX1_run 90 = .ok (.iadd, 1) := by decide +kernel
theorem dX1_run_91 : decode cX1_run 91 = .ok (.putfield 80, 3) := by decide +kernel
theorem dX1_run_94 : decode cX1_run 94 = .ok (.iload_n 2, 1) := by decide +kernel
theorem dX1_run_95 : decode cX1_run 95 = .ok (.ifCond .lt 20, 3) := by decide +kernel
theorem dX1_run_98 : decode cX1_run 98 = .ok (.iload_n 2, 1) := by decide +kernel
theorem dX1_run_99 : decode cX1_run 99 = .ok (.aload_n 0, 1) := by decide +kernel
theorem dX1_run_100 : decode cX1_run 100 = .ok (.getfield 22, 3) := by decide +kernel
theorem dX1_run_103 : decode cX1_run 103 = .ok (.getfield 68, 3) := by decide +kernel
theorem dX1_run_106 : decode cX1_run 106 = .ok (.if_icmp .ge 9, 3) := by decide +kernel
theorem dX1_run_109 : decode cX1_run 109 = .ok (.aload_n 0, 1) := by decide +kernel
theorem dX1_run_110 : decode cX1_run 110 = .ok (.iload_n 2, 1) := by decide +kernel
theorem dX1_run_111 : decode cX1_run 111 = .ok (.iload_n 3, 1) := by decide +kernel
theorem dX1_run_112 : decode cX1_run 112 = .ok (.invokevirtual 83, 3) := by decide +kernel
theorem dX1_run_115 : decode cX1_run 115 = .ok (.aload_n 0, 1) := by decide +kernel
theorem dX1_run_116 : decode cX1_run 116 = .ok (.getfield 34, 3) := by decide +kernel
theorem dX1_run_119 : decode cX1_run 119 = .ok (.invokevirtual 86, 3) := by decide +kernel
theorem dX1_run_122 : decode cX1_run 122 = .ok (.iinc 3 1, 3) := by decide +kernel
theorem dX1_run_125 : decode cX1_run 125 = .ok (.goto (-104), 3) := by decide +kernel
theorem dX1_run_128 : decode cX1_run 128 = .ok (.return_, 1) := by decide +kernel
theorem dX1_tookOf_0 : decode cX1_tookOf 0 = .ok (.aload_n 0, 1) := by decide +kernel
theorem dX1_tookOf_1 : decode cX1_tookOf 1 = .ok (.getfield 12, 3) := by decide +kernel
theorem dX1_tookOf_4 : decode cX1_tookOf 4 = .ok (.getfield 121, 3) := by decide +kernel
theorem dX1_tookOf_7 : decode cX1_tookOf 7 = .ok (.iload_n 1, 1) := by decide +kernel
theorem dX1_tookOf_8 : decode cX1_tookOf 8 = .ok (.iaload, 1) := by decide +kernel
theorem dX1_tookOf_9 : decode cX1_tookOf 9 = .ok (.aload_n 0, 1) := by decide +kernel
theorem dX1_tookOf_10 : decode cX1_tookOf 10 = .ok (.getfield 26, 3) := by decide +kernel
theorem dX1_tookOf_13 : decode cX1_tookOf 13 = .ok (.getfield 121, 3) := by decide +kernel
theorem dX1_tookOf_16 : decode cX1_tookOf 16 = .ok (.iload_n 1, 1) := by decide +kernel
theorem dX1_tookOf_17 : decode cX1_tookOf 17 = .ok (.iaload, 1) := by decide +kernel
theorem dX1_tookOf_18 : decode cX1_tookOf 18 = .ok (.isub, 1) := by decide +kernel
theorem dX1_tookOf_19 : decode cX1_tookOf 19 = .ok (.ireturn, 1) := by decide +kernel
theorem dX1_sumOf_0 : decode cX1_sumOf 0 = .ok (.aload_n 0, 1) := by decide +kernel
theorem dX1_sumOf_1 : decode cX1_sumOf 1 = .ok (.getfield 12, 3) := by decide +kernel
theorem dX1_sumOf_4 : decode cX1_sumOf 4 = .ok (.getfield 124, 3) := by decide +kernel
theorem dX1_sumOf_7 : decode cX1_sumOf 7 = .ok (.iload_n 1, 1) := by decide +kernel
theorem dX1_sumOf_8 : decode cX1_sumOf 8 = .ok (.laload, 1) := by decide +kernel
theorem dX1_sumOf_9 : decode cX1_sumOf 9 = .ok (.aload_n 0, 1) := by decide +kernel
theorem dX1_sumOf_10 : decode cX1_sumOf 10 = .ok (.getfield 26, 3) := by decide +kernel
theorem dX1_sumOf_13 : decode cX1_sumOf 13 = .ok (.getfield 124, 3) := by decide +kernel
theorem dX1_sumOf_16 : decode cX1_sumOf 16 = .ok (.iload_n 1, 1) := by decide +kernel
theorem dX1_sumOf_17 : decode cX1_sumOf 17 = .ok (.laload, 1) := by decide +kernel
theorem dX1_sumOf_18 : decode cX1_sumOf 18 = .ok (.lsub, 1) := by decide +kernel
theorem dX1_sumOf_19 : decode cX1_sumOf 19 = .ok (.l2i, 1) := by decide +kernel
theorem dX1_sumOf_20 : decode cX1_sumOf 20 = .ok (.ireturn, 1) := by decide +kernel
theorem dX1_isShortNow_0 : decode cX1_isShortNow 0 = .ok (.aload_n 0, 1) := by decide +kernel
theorem dX1_isShortNow_1 : decode cX1_isShortNow 1 = .ok (.getfield 34, 3) := by decide +kernel
theorem dX1_isShortNow_4 : decode cX1_isShortNow 4 = .ok (.aload_n 0, 1) := by decide +kernel
theorem dX1_isShortNow_5 : decode cX1_isShortNow 5 = .ok (.getfield 22, 3) := by decide +kernel
theorem dX1_isShortNow_8 : decode cX1_isShortNow 8 = .ok (.aload_n 0, 1) := by decide +kernel
theorem dX1_isShortNow_9 : decode cX1_isShortNow 9 = .ok (.getfield 12, 3) := by decide +kernel
theorem dX1_isShortNow_12 : decode cX1_isShortNow 12 = .ok (.invokevirtual 59, 3) := by decide +kernel
theorem dX1_isShortNow_15 : decode cX1_isShortNow 15 = .ok (.aload_n 0, 1) := by decide +kernel
theorem dX1_isShortNow_16 : decode cX1_isShortNow 16 = .ok (.getfield 34, 3) := by decide +kernel
theorem dX1_isShortNow_19 : decode cX1_isShortNow 19 = .ok (.invokevirtual 65, 3) := by decide +kernel
theorem dX1_isShortNow_22 : decode cX1_isShortNow 22 = .ok (.aload_n 0, 1) := by decide +kernel
theorem dX1_isShortNow_23 : decode cX1_isShortNow 23 = .ok (.getfield 34, 3) := by decide +kernel
theorem dX1_isShortNow_26 : decode cX1_isShortNow 26 = .ok (.iload_n 1, 1) := by decide +kernel
theorem dX1_isShortNow_27 : decode cX1_isShortNow 27 = .ok (.invokevirtual 114, 3) := by decide +kernel
theorem dX1_isShortNow_30 : decode cX1_isShortNow 30 = .ok (.ireturn, 1) := by decide +kernel
theorem dX1_isCalm_0 : decode cX1_isCalm 0 = .ok (.aload_n 0, 1) := by decide +kernel
theorem dX1_isCalm_1 : decode cX1_isCalm 1 = .ok (.getfield 34, 3) := by decide +kernel
theorem dX1_isCalm_4 : decode cX1_isCalm 4 = .ok (.aload_n 0, 1) := by decide +kernel
theorem dX1_isCalm_5 : decode cX1_isCalm 5 = .ok (.getfield 22, 3) := by decide +kernel
theorem dX1_isCalm_8 : decode cX1_isCalm 8 = .ok (.aload_n 0, 1) := by decide +kernel
theorem dX1_isCalm_9 : decode cX1_isCalm 9 = .ok (.getfield 12, 3) := by decide +kernel
theorem dX1_isCalm_12 : decode cX1_isCalm 12 = .ok (.invokevirtual 59, 3) := by decide +kernel
theorem dX1_isCalm_15 : decode cX1_isCalm 15 = .ok (.iconst 0, 1) := by decide +kernel
theorem dX1_isCalm_16 : decode cX1_isCalm 16 = .ok (.istore_n 2, 1) := by decide +kernel
theorem dX1_isCalm_17 : decode cX1_isCalm 17 = .ok (.iload_n 2, 1) := by decide +kernel
theorem dX1_isCalm_18 : decode cX1_isCalm 18 = .ok (.iload_n 1, 1) := by decide +kernel
theorem dX1_isCalm_19 : decode cX1_isCalm 19 = .ok (.if_icmp .ge 35, 3) := by decide +kernel
theorem dX1_isCalm_22 : decode cX1_isCalm 22 = .ok (.aload_n 0, 1) := by decide +kernel
theorem dX1_isCalm_23 : decode cX1_isCalm 23 = .ok (.getfield 34, 3) := by decide +kernel
theorem dX1_isCalm_26 : decode cX1_isCalm 26 = .ok (.invokevirtual 65, 3) := by decide +kernel
theorem dX1_isCalm_29 : decode cX1_isCalm 29 = .ok (.aload_n 0, 1) := by decide +kernel
theorem dX1_isCalm_30 : decode cX1_isCalm 30 = .ok (.getfield 34, 3) := by decide +kernel
theorem dX1_isCalm_33 : decode cX1_isCalm 33 = .ok (.invokevirtual 76, 3) := by decide +kernel
theorem dX1_isCalm_36 : decode cX1_isCalm 36 = .ok (.ifCond .eq 5, 3) := by decide +kernel
theorem dX1_isCalm_39 : decode cX1_isCalm 39 = .ok (.iconst 0, 1) := by decide +kernel
theorem dX1_isCalm_40 : decode cX1_isCalm 40 = .ok (.ireturn, 1) := by decide +kernel
theorem dX1_isCalm_41 : decode cX1_isCalm 41 = .ok (.aload_n 0, 1) := by decide +kernel
theorem dX1_isCalm_42 : decode cX1_isCalm 42 = .ok (.getfield 34, 3) := by decide +kernel
theorem dX1_isCalm_45 : decode cX1_isCalm 45 = .ok (.invokevirtual 86, 3) := by decide +kernel
theorem dX1_isCalm_48 : decode cX1_isCalm 48 = .ok (.iinc 2 1, 3) := by decide +kernel
theorem dX1_isCalm_51 : decode cX1_isCalm 51 = .ok (.goto (-34), 3) := by decide +kernel
theorem dX1_isCalm_54 : decode cX1_isCalm 54 = .ok (.iconst 1, 1) := by decide +kernel
theorem dX1_isCalm_55 : decode cX1_isCalm 55 = .ok (.ireturn, 1) := by decide +kernel
theorem dX1_daysUntil_0 : decode cX1_daysUntil 0 = .ok (.aload_n 0, 1) := by decide +kernel
theorem dX1_daysUntil_1 : decode cX1_daysUntil 1 = .ok (.getfield 34, 3) := by decide +kernel
theorem dX1_daysUntil_4 : decode cX1_daysUntil 4 = .ok (.aload_n 0, 1) := by decide +kernel
theorem dX1_daysUntil_5 : decode cX1_daysUntil 5 = .ok (.getfield 22, 3) := by decide +kernel
theorem dX1_daysUntil_8 : decode cX1_daysUntil 8 = .ok (.aload_n 0, 1) := by decide +kernel
theorem dX1_daysUntil_9 : decode cX1_daysUntil 9 = .ok (.getfield 12, 3) := by decide +kernel
theorem dX1_daysUntil_12 : decode cX1_daysUntil 12 = .ok (.invokevirtual 59, 3) := by decide +kernel
theorem dX1_daysUntil_15 : decode cX1_daysUntil 15 = .ok (.iconst 0, 1) := by decide +kernel
theorem dX1_daysUntil_16 : decode cX1_daysUntil 16 = .ok (.istore_n 3, 1) := by decide +kernel
theorem dX1_daysUntil_17 : decode cX1_daysUntil 17 = .ok (.iload_n 3, 1) := by decide +kernel
theorem dX1_daysUntil_18 : decode cX1_daysUntil 18 = .ok (.sipush 360, 3) := by decide +kernel
theorem dX1_daysUntil_21 : decode cX1_daysUntil 21 = .ok (.if_icmp .gt 38, 3) := by decide +kernel
theorem dX1_daysUntil_24 : decode cX1_daysUntil 24 = .ok (.aload_n 0, 1) := by decide +kernel
theorem dX1_daysUntil_25 : decode cX1_daysUntil 25 = .ok (.getfield 12, 3) := by decide +kernel
theorem dX1_daysUntil_28 : decode cX1_daysUntil 28 = .ok (.getfield 128, 3) := by decide +kernel
theorem dX1_daysUntil_31 : decode cX1_daysUntil 31 = .ok (.iload_n 1, 1) := by decide +kernel
theorem dX1_daysUntil_32 : decode cX1_daysUntil 32 = .ok (.iaload, 1) := by decide +kernel
theorem dX1_daysUntil_33 : decode cX1_daysUntil 33 = .ok (.iload_n 2, 1) := by decide +kernel
theorem dX1_daysUntil_34 : decode cX1_daysUntil 34 = .ok (.if_icmp .ne 5, 3) := by decide +kernel
theorem dX1_daysUntil_37 : decode cX1_daysUntil 37 = .ok (.iload_n 3, 1) := by decide +kernel
theorem dX1_daysUntil_38 : decode cX1_daysUntil 38 = .ok (.ireturn, 1) := by decide +kernel
theorem dX1_daysUntil_39 : decode cX1_daysUntil 39 = .ok (.aload_n 0, 1) := by decide +kernel
theorem dX1_daysUntil_40 : decode cX1_daysUntil 40 = .ok (.getfield 34, 3) := by decide +kernel
theorem dX1_daysUntil_43 : decode cX1_daysUntil 43 = .ok (.invokevirtual 65, 3) := by decide +kernel
theorem dX1_daysUntil_46 : decode cX1_daysUntil 46 = .ok (.aload_n 0, 1) := by decide +kernel
theorem dX1_daysUntil_47 : decode cX1_daysUntil 47 = .ok (.getfield 34, 3) := by decide +kernel
theorem dX1_daysUntil_50 : decode cX1_daysUntil 50 = .ok (.invokevirtual 86, 3) := by decide +kernel
theorem dX1_daysUntil_53 : decode cX1_daysUntil 53 = .ok (.iinc 3 1, 3) := by decide +kernel
theorem dX1_daysUntil_56 : decode cX1_daysUntil 56 = .ok (.goto (-39), 3) := by decide +kernel
theorem dX1_daysUntil_59 : decode cX1_daysUntil 59 = .ok (.bipush (-2), 2) := by decide +kernel
theorem dX1_daysUntil_61 : decode cX1_daysUntil 61 = .ok (.ireturn, 1) := by decide +kernel
theorem mv_X0_open : MV yX0_open cX0_open 4 none 2 := ⟨wd_20_2, wd_20_0, wd_20_1, wd_2_6, by decide, by decide, by decide +kernel⟩
theorem mv_X0_pass : MV yX0_pass cX0_pass 2 none 0 := ⟨wd_24_4, wd_24_2, wd_24_3, wd_2_6, by decide, by decide, by decide +kernel⟩
theorem mv_X0_someCalls : MV yX0_someCalls cX0_someCalls 2 (some .boolean) 0 := ⟨wd_35_23, wd_35_21, wd_35_22, wd_2_6, by decide, by decide, by decide +kernel⟩
theorem mv_X0_work : MV yX0_work cX0_work 1 none 0 := ⟨wd_20_21, wd_20_19, wd_20_20, wd_2_6, by decide, by decide, by decide +kernel⟩
theorem mv_X1_begin : MV yX1_begin cX1_begin 3 none 2 := ⟨wd_34_18, wd_34_16, wd_34_17, wd_2_10, by decide, by decide, by decide +kernel⟩
theorem mv_X1_comeMore : MV yX1_comeMore cX1_comeMore 3 none 2 := ⟨wd_34_23, wd_34_21, wd_34_22, wd_2_10, by decide, by decide, by decide +kernel⟩
theorem mv_X1_forget : MV yX1_forget cX1_forget 2 none 0 := ⟨wd_35_13, wd_35_11, wd_35_12, wd_2_10, by decide, by decide, by decide +kernel⟩
theorem mv_X1_watch : MV yX1_watch cX1_watch 3 none 2 := ⟨wd_36_7, wd_36_5, wd_36_6, wd_2_10, by decide, by decide, by decide +kernel⟩
theorem mv_X5_copyOf : MV yX5_copyOf cX5_copyOf 2 none 1 := ⟨wd_19_21, wd_19_19, wd_19_20, wd_1_21, by decide, by decide, by decide +kernel⟩
set_option maxHeartbeats 4000000 in
set_option maxRecDepth 100000 in
theorem c_X1_comeMore (E : Ev) (rc : TD) (rd : TD) (tp : TD) (Fa1 : Int × Int) (Fb1 : Int × Int) (Fa2 : Int × Int) (Fb2 : Int × Int) (Fa3 : Int × Int) (Fb3 : Int × Int) (Fa4 : Int × Int) (Fb4 : Int × Int) (Pd1 : (Nat → Int32) → Prop) (Pd2 : (Nat → Int32) → Prop) (Pd3 : (Nat → Int32) → Prop) (Pd4 : (Nat → Int32) → Prop) (Ps1 : (Nat → Int32) → Prop) (Ps2 : (Nat → Int32) → Prop) (Ps3 : (Nat → Int32) → Prop) (Ps4 : (Nat → Int32) → Prop) (Pi1 : (Nat → Int32) → Prop) (Pi2 : (Nat → Int32) → Prop) (Pi3 : (Nat → Int32) → Prop) (Pi4 : (Nat → Int32) → Prop) (a0 : Nat) (a1 : Int32) (a2 : Int32) (ha0 : eT E a0 ∈ [22]) (hFa1 : 0 ≤ Fa1.1 ∧ Fa1.2 ≤ 12) (hFb1 : 0 ≤ Fb1.1 ∧ Fb1.2 ≤ 14) (hFa2 : 0 ≤ Fa2.1 ∧ Fa2.2 ≤ 12) (hFb2 : 0 ≤ Fb2.1 ∧ Fb2.2 ≤ 14) (hFa3 : 0 ≤ Fa3.1 ∧ Fa3.2 ≤ 12) (hFb3 : 0 ≤ Fb3.1 ∧ Fb3.2 ≤ 14) (hFa4 : 0 ≤ Fa4.1 ∧ Fa4.2 ≤ 12) (hFb4 : 0 ≤ Fb4.1 ∧ Fb4.2 ≤ 14) (hPd1 : ∀ f, Pd1 f → ivP 12 (-2) 11 f) (hPd2 : ∀ f, Pd2 f → ivP 12 (-2) 11 f) (hPd3 : ∀ f, Pd3 f → ivP 12 (-2) 11 f) (hPd4 : ∀ f, Pd4 f → ivP 12 (-2) 11 f) (hPs1 : ∀ f, Ps1 f → ivP 12 (-2147483648) 2147483647 f) (hPs2 : ∀ f, Ps2 f → ivP 12 (-2147483648) 2147483647 f) (hPs3 : ∀ f, Ps3 f → ivP 12 (-2147483648) 2147483647 f) (hPs4 : ∀ f, Ps4 f → ivP 12 (-2147483648) 2147483647 f) (hPi1 : ∀ f, Pi1 f → ivP 48 (-2147483648) 2147483647 f) (hPi2 : ∀ f, Pi2 f → ivP 48 (-2147483648) 2147483647 f) (hPi3 : ∀ f, Pi3 f → ivP 48 (-2147483648) 2147483647 f) (hPi4 : ∀ f, Pi4 f → ivP 48 (-2147483648) 2147483647 f) : TcV E yX1_comeMore cX1_comeMore 3 ({ frames := 1, cells := 0, slots := 0, locals := 40 }) [.ref a0, .int a1, .int a2] (fun H => TH E (tbC (dayD (.inl (0, 18))) (dayD (.inl (0, 18))) (riverD (.inl Fa1) (.inl Fb1) (.inl (0, 4)) 31 33 35 39 43 47) (riverD (.inl Fa2) (.inl Fb2) (.inl (0, 4)) 32 34 36 40 44 48) rc rd tp A14F A14F A4F A4F A14F A14F (riverD (.inl Fa3) (.inl Fb3) (.inl (0, 4)) 3 8 3 41 45 49) (riverD (.inl Fa4) (.inl Fb4) (.inl (0, 4)) 3 8 3 42 46 50) ((.inr (.inl (0, 12, Pd1)))) ((.inr (.inl (0, 12, Pd2)))) ((.inr (.inl (0, 12, Pd3)))) ((.inr (.inl (0, 12, Pd4)))) ((.inr (.inl (0, 12, Ps1)))) ((.inr (.inl (0, 12, Ps2)))) ((.inr (.inl (0, 12, Ps3)))) ((.inr (.inl (0, 12, Ps4)))) ((.inr (.inl (0, 48, Pi1)))) ((.inr (.inl (0, 48, Pi2)))) ((.inr (.inl (0, 48, Pi3)))) ((.inr (.inl (0, 48, Pi4))))) H) (fun H => TH E (tbC (dayD (.inl (0, 18))) (dayD (.inl (0, 18))) (riverD (.inl Fa1) (.inl Fb1) (.inl (0, 4)) 31 33 35 39 43 47) (riverD (.inl Fa2) (.inl Fb2) (.inl (0, 4)) 32 34 36 40 44 48) rc rd tp A14F A14F A4F A4F A14F A14F (riverD (.inl Fa3) (.inl Fb3) (.inl (0, 4)) 3 8 3 41 45 49) (riverD (.inl Fa4) (.inl Fb4) (.inl (0, 4)) 3 8 3 42 46 50) ((.inr (.inl (0, 12, Pd1)))) ((.inr (.inl (0, 12, Pd2)))) ((.inr (.inl (0, 12, Pd3)))) ((.inr (.inl (0, 12, Pd4)))) ((.inr (.inl (0, 12, Ps1)))) ((.inr (.inl (0, 12, Ps2)))) ((.inr (.inl (0, 12, Ps3)))) ((.inr (.inl (0, 12, Ps4)))) ((.inr (.inl (0, 48, Pi1)))) ((.inr (.inl (0, 48, Pi2)))) ((.inr (.inl (0, 48, Pi3)))) ((.inr (.inl (0, 48, Pi4))))) H) := by
  refine teV (by decide) (Nat.le_of_ble_eq_true rfl) ?_
  intro p_ ev_ s mi_ below_ meth cd_ ls F hK hN hO hH hS hl
  have hH : TH E (tbC (dayD (.inl (0, 18))) (dayD (.inl (0, 18))) (riverD (.inl Fa1) (.inl Fb1) (.inl (0, 4)) 31 33 35 39 43 47) (riverD (.inl Fa2) (.inl Fb2) (.inl (0, 4)) 32 34 36 40 44 48) rc rd tp A14F A14F A4F A4F A14F A14F (riverD (.inl Fa3) (.inl Fb3) (.inl (0, 4)) 3 8 3 41 45 49) (riverD (.inl Fa4) (.inl Fb4) (.inl (0, 4)) 3 8 3 42 46 50) ((.inr (.inl (0, 12, Pd1)))) ((.inr (.inl (0, 12, Pd2)))) ((.inr (.inl (0, 12, Pd3)))) ((.inr (.inl (0, 12, Pd4)))) ((.inr (.inl (0, 12, Ps1)))) ((.inr (.inl (0, 12, Ps2)))) ((.inr (.inl (0, 12, Ps3)))) ((.inr (.inl (0, 12, Ps4)))) ((.inr (.inl (0, 48, Pi1)))) ((.inr (.inl (0, 48, Pi2)))) ((.inr (.inl (0, 48, Pi3)))) ((.inr (.inl (0, 48, Pi4))))) s.heap := hH
  have hl : lv_has ls 3 [(0, .ref a0), (1, .int a1), (2, .int a2)] := hl
  refine lv_aload_n F.1 F.2.1 dX1_comeMore_0 rfl (lv_at hl 0 rfl) ?_
  refine tGetR (j := 1) F hK hH (tyb ha0 (all1 rfl)) rfl (all1 rfl) clX1 (by decide) wd_5_11 dX1_comeMore_1 (fun q_1 hq_1 _ => ?_)
  refine lv_iload_n F.1 F.2.1 dX1_comeMore_4 rfl (lv_at hl 1 rfl) ?_
  refine tPut (j := 13) F hK hH hS (tyb hq_1 (all1 rfl)) rfl (fdI (i32b _)) clX0 (by decide) wd_35_0 rfl rfl rfl rfl dX1_comeMore_5 (fun H locs hH hS => ?_)
  refine lv_aload_n F.1 F.2.1 dX1_comeMore_8 rfl (lv_at hl 0 rfl) ?_
  refine tGetR (j := 1) F hK hH (tyb ha0 (all1 rfl)) rfl (all1 rfl) clX1 (by decide) wd_5_11 dX1_comeMore_9 (fun q_2 hq_2 _ => ?_)
  refine lv_iload_n F.1 F.2.1 dX1_comeMore_12 rfl (lv_at hl 2 rfl) ?_
  refine tPut (j := 14) F hK hH hS (tyb hq_2 (all1 rfl)) rfl (fdI (i32b _)) clX0 (by decide) wd_35_1 rfl rfl rfl rfl dX1_comeMore_13 (fun H locs hH hS => ?_)
  exact txV F hS dX1_comeMore_16 (hH)
set_option maxHeartbeats 4000000 in
set_option maxRecDepth 100000 in
theorem c_X1_begin (E : Ev) (rc : TD) (rd : TD) (tp : TD) (Fa1 : Int × Int) (Fb1 : Int × Int) (Fa2 : Int × Int) (Fb2 : Int × Int) (Fa3 : Int × Int) (Fb3 : Int × Int) (Fa4 : Int × Int) (Fb4 : Int × Int) (Pd1 : (Nat → Int32) → Prop) (Pd2 : (Nat → Int32) → Prop) (Pd3 : (Nat → Int32) → Prop) (Pd4 : (Nat → Int32) → Prop) (Ps1 : (Nat → Int32) → Prop) (Ps2 : (Nat → Int32) → Prop) (Ps3 : (Nat → Int32) → Prop) (Ps4 : (Nat → Int32) → Prop) (Pi1 : (Nat → Int32) → Prop) (Pi2 : (Nat → Int32) → Prop) (Pi3 : (Nat → Int32) → Prop) (Pi4 : (Nat → Int32) → Prop) (a0 : Nat) (a1 : Nat) (a2 : Nat) (ha0 : eT E a0 ∈ [22]) (ha1 : eT E a1 ∈ [26, 27]) (ha2 : eT E a2 ∈ [17]) (hFa1 : 0 ≤ Fa1.1 ∧ Fa1.2 ≤ 12) (hFb1 : 0 ≤ Fb1.1 ∧ Fb1.2 ≤ 14) (hFa2 : 0 ≤ Fa2.1 ∧ Fa2.2 ≤ 12) (hFb2 : 0 ≤ Fb2.1 ∧ Fb2.2 ≤ 14) (hFa3 : 0 ≤ Fa3.1 ∧ Fa3.2 ≤ 12) (hFb3 : 0 ≤ Fb3.1 ∧ Fb3.2 ≤ 14) (hFa4 : 0 ≤ Fa4.1 ∧ Fa4.2 ≤ 12) (hFb4 : 0 ≤ Fb4.1 ∧ Fb4.2 ≤ 14) (hPd1 : ∀ f, Pd1 f → ivP 12 (-2) 11 f) (hPd2 : ∀ f, Pd2 f → ivP 12 (-2) 11 f) (hPd3 : ∀ f, Pd3 f → ivP 12 (-2) 11 f) (hPd4 : ∀ f, Pd4 f → ivP 12 (-2) 11 f) (hPs1 : ∀ f, Ps1 f → ivP 12 (-2147483648) 2147483647 f) (hPs2 : ∀ f, Ps2 f → ivP 12 (-2147483648) 2147483647 f) (hPs3 : ∀ f, Ps3 f → ivP 12 (-2147483648) 2147483647 f) (hPs4 : ∀ f, Ps4 f → ivP 12 (-2147483648) 2147483647 f) (hPi1 : ∀ f, Pi1 f → ivP 48 (-2147483648) 2147483647 f) (hPi2 : ∀ f, Pi2 f → ivP 48 (-2147483648) 2147483647 f) (hPi3 : ∀ f, Pi3 f → ivP 48 (-2147483648) 2147483647 f) (hPi4 : ∀ f, Pi4 f → ivP 48 (-2147483648) 2147483647 f) : TcV E yX1_begin cX1_begin 3 ({ frames := 3, cells := 0, slots := 0, locals := 82 }) [.ref a0, .ref a1, .ref a2] (fun H => TH E (tbC (dayD (.inl (0, 18))) (dayD (.inl (0, 18))) (riverD (.inl Fa1) (.inl Fb1) (.inl (0, 4)) 31 33 35 39 43 47) (riverD (.inl Fa2) (.inl Fb2) (.inl (0, 4)) 32 34 36 40 44 48) rc rd tp A14F A14F A4F A4F A14F A14F (riverD (.inl Fa3) (.inl Fb3) (.inl (0, 4)) 3 8 3 41 45 49) (riverD (.inl Fa4) (.inl Fb4) (.inl (0, 4)) 3 8 3 42 46 50) ((.inr (.inl (0, 12, Pd1)))) ((.inr (.inl (0, 12, Pd2)))) ((.inr (.inl (0, 12, Pd3)))) ((.inr (.inl (0, 12, Pd4)))) ((.inr (.inl (0, 12, Ps1)))) ((.inr (.inl (0, 12, Ps2)))) ((.inr (.inl (0, 12, Ps3)))) ((.inr (.inl (0, 12, Ps4)))) ((.inr (.inl (0, 48, Pi1)))) ((.inr (.inl (0, 48, Pi2)))) ((.inr (.inl (0, 48, Pi3)))) ((.inr (.inl (0, 48, Pi4))))) H) (fun H => TH E (tbC (dayD (.inl (0, 18))) (dayD (.inl (0, 18))) (riverD (.inl Fa1) (.inl Fb1) (.inl (0, 4)) 31 33 35 39 43 47) (riverD (.inl Fa2) (.inl Fb2) (.inl (0, 4)) 32 34 36 40 44 48) rc rd tp A14F A14F A4F A4F A14F A14F (riverD (.inl Fa3) (.inl Fb3) (.inl (0, 4)) 3 8 3 41 45 49) (riverD (.inl Fa4) (.inl Fb4) (.inl (0, 4)) 3 8 3 42 46 50) ((.inr (.inl (0, 12, Pd1)))) ((.inr (.inl (0, 12, Pd2)))) ((.inr (.inl (0, 12, Pd3)))) ((.inr (.inl (0, 12, Pd4)))) ((.inr (.inl (0, 12, Ps1)))) ((.inr (.inl (0, 12, Ps2)))) ((.inr (.inl (0, 12, Ps3)))) ((.inr (.inl (0, 12, Ps4)))) ((.inr (.inl (0, 48, Pi1)))) ((.inr (.inl (0, 48, Pi2)))) ((.inr (.inl (0, 48, Pi3)))) ((.inr (.inl (0, 48, Pi4))))) H) := by
  refine teV (by decide) (Nat.le_of_ble_eq_true rfl) ?_
  intro p_ ev_ s mi_ below_ meth cd_ ls F hK hN hO hH hS hl
  have hH : TH E (tbC (dayD (.inl (0, 18))) (dayD (.inl (0, 18))) (riverD (.inl Fa1) (.inl Fb1) (.inl (0, 4)) 31 33 35 39 43 47) (riverD (.inl Fa2) (.inl Fb2) (.inl (0, 4)) 32 34 36 40 44 48) rc rd tp A14F A14F A4F A4F A14F A14F (riverD (.inl Fa3) (.inl Fb3) (.inl (0, 4)) 3 8 3 41 45 49) (riverD (.inl Fa4) (.inl Fb4) (.inl (0, 4)) 3 8 3 42 46 50) ((.inr (.inl (0, 12, Pd1)))) ((.inr (.inl (0, 12, Pd2)))) ((.inr (.inl (0, 12, Pd3)))) ((.inr (.inl (0, 12, Pd4)))) ((.inr (.inl (0, 12, Ps1)))) ((.inr (.inl (0, 12, Ps2)))) ((.inr (.inl (0, 12, Ps3)))) ((.inr (.inl (0, 12, Ps4)))) ((.inr (.inl (0, 48, Pi1)))) ((.inr (.inl (0, 48, Pi2)))) ((.inr (.inl (0, 48, Pi3)))) ((.inr (.inl (0, 48, Pi4))))) s.heap := hH
  have hl : lv_has ls 3 [(0, .ref a0), (1, .ref a1), (2, .ref a2)] := hl
  refine lv_aload_n F.1 F.2.1 dX1_begin_0 rfl (lv_at hl 0 rfl) ?_
  refine lv_aload_n F.1 F.2.1 dX1_begin_1 rfl (lv_at hl 1 rfl) ?_
  refine tPut (j := 2) F hK hH hS (tyb ha0 (all1 rfl)) rfl (fdR ha1) clX1 (by decide) wd_5_8 rfl rfl rfl rfl dX1_begin_2 (fun H locs hH hS => ?_)
  refine lv_aload_n F.1 F.2.1 dX1_begin_5 rfl (lv_at hl 0 rfl) ?_
  refine lv_aload_n F.1 F.2.1 dX1_begin_6 rfl (lv_at hl 2 rfl) ?_
  refine tPut (j := 3) F hK hH hS (tyb ha0 (all1 rfl)) rfl (fdR ha2) clX1 (by decide) wd_5_9 rfl rfl rfl rfl dX1_begin_7 (fun H locs hH hS => ?_)
  refine lv_aload_n F.1 F.2.1 dX1_begin_10 rfl (lv_at hl 0 rfl) ?_
  refine tGetR (j := 0) F hK hH (tyb ha0 (all1 rfl)) rfl (all1 rfl) clX1 (by decide) wd_5_6 dX1_begin_11 (fun q_1 hq_1 _ => ?_)
  refine lv_aload_n F.1 F.2.1 dX1_begin_14 rfl (lv_at hl 2 rfl) ?_
  refine tVv (b := q_1) (As := [.ref a2]) (rest := []) F hK hN hO (c_X5_copyOf E (dayD (.inl (0, 18))) (dayD (.inl (0, 18))) (riverD (.inl Fa1) (.inl Fb1) (.inl (0, 4)) 31 33 35 39 43 47) (riverD (.inl Fa2) (.inl Fb2) (.inl (0, 4)) 32 34 36 40 44 48) rc rd tp A14F A14F A4F A4F A14F A14F (riverD (.inl Fa3) (.inl Fb3) (.inl (0, 4)) 3 8 3 41 45 49) (riverD (.inl Fa4) (.inl Fb4) (.inl (0, 4)) 3 8 3 42 46 50) ((.inr (.inl (0, 12, Pd1)))) ((.inr (.inl (0, 12, Pd2)))) ((.inr (.inl (0, 12, Pd3)))) ((.inr (.inl (0, 12, Pd4)))) ((.inr (.inl (0, 12, Ps1)))) ((.inr (.inl (0, 12, Ps2)))) ((.inr (.inl (0, 12, Ps3)))) ((.inr (.inl (0, 12, Ps4)))) ((.inr (.inl (0, 48, Pi1)))) ((.inr (.inl (0, 48, Pi2)))) ((.inr (.inl (0, 48, Pi3)))) ((.inr (.inl (0, 48, Pi4)))) q_1 a2 hq_1 ha2) mv_X5_copyOf wd_34_19 ⟨Nat.le_of_ble_eq_true rfl, Nat.le_of_ble_eq_true rfl⟩ ⟨Nat.le_of_ble_eq_true rfl, Nat.le_of_ble_eq_true rfl⟩ hH hS (tRecv hK hH (tyb hq_1 (all1 rfl)) clX5) rfl hl.1 (Nat.le_of_ble_eq_true rfl) dX1_begin_15 (fun H locs hq hS => ?_)
  have hH := hq
  have hH : TH E (tbC (dayD (.inl (0, 18))) (dayD (.inl (0, 18))) (riverD (.inl Fa1) (.inl Fb1) (.inl (0, 4)) 31 33 35 39 43 47) (riverD (.inl Fa2) (.inl Fb2) (.inl (0, 4)) 32 34 36 40 44 48) rc rd tp A14F A14F A4F A4F A14F A14F (riverD (.inl Fa3) (.inl Fb3) (.inl (0, 4)) 3 8 3 41 45 49) (riverD (.inl Fa4) (.inl Fb4) (.inl (0, 4)) 3 8 3 42 46 50) ((.inr (.inl (0, 12, Pd1)))) ((.inr (.inl (0, 12, Pd2)))) ((.inr (.inl (0, 12, Pd3)))) ((.inr (.inl (0, 12, Pd4)))) ((.inr (.inl (0, 12, Ps1)))) ((.inr (.inl (0, 12, Ps2)))) ((.inr (.inl (0, 12, Ps3)))) ((.inr (.inl (0, 12, Ps4)))) ((.inr (.inl (0, 48, Pi1)))) ((.inr (.inl (0, 48, Pi2)))) ((.inr (.inl (0, 48, Pi3)))) ((.inr (.inl (0, 48, Pi4))))) H := hH
  refine lv_aload_n F.1 F.2.1 dX1_begin_18 rfl (lv_at hl 0 rfl) ?_
  refine lv_iconst (v := (-1)) F.1 F.2.1 dX1_begin_19 (by decide) ?_
  refine topK (a := (-1)) (by decide) (fun k_3 hk_3 => ?_)
  refine lv_iconst (v := 0) F.1 F.2.1 dX1_begin_20 (by decide) ?_
  refine topK (a := 0) (by decide) (fun k_4 hk_4 => ?_)
  refine tVv (b := a0) (As := [.int k_3, .int k_4]) (rest := []) F hK hN hO (c_X1_comeMore E rc rd tp Fa1 Fb1 Fa2 Fb2 Fa3 Fb3 Fa4 Fb4 Pd1 Pd2 Pd3 Pd4 Ps1 Ps2 Ps3 Ps4 Pi1 Pi2 Pi3 Pi4 a0 k_3 k_4 ha0 hFa1 hFb1 hFa2 hFb2 hFa3 hFb3 hFa4 hFb4 hPd1 hPd2 hPd3 hPd4 hPs1 hPs2 hPs3 hPs4 hPi1 hPi2 hPi3 hPi4) mv_X1_comeMore wd_34_20 ⟨Nat.le_of_ble_eq_true rfl, Nat.le_of_ble_eq_true rfl⟩ ⟨Nat.le_of_ble_eq_true rfl, Nat.le_of_ble_eq_true rfl⟩ hH hS (tRecv hK hH (tyb ha0 (all1 rfl)) clX1) rfl hl.1 (Nat.le_of_ble_eq_true rfl) dX1_begin_21 (fun H locs hq hS => ?_)
  have hH := hq
  have hH : TH E (tbC (dayD (.inl (0, 18))) (dayD (.inl (0, 18))) (riverD (.inl Fa1) (.inl Fb1) (.inl (0, 4)) 31 33 35 39 43 47) (riverD (.inl Fa2) (.inl Fb2) (.inl (0, 4)) 32 34 36 40 44 48) rc rd tp A14F A14F A4F A4F A14F A14F (riverD (.inl Fa3) (.inl Fb3) (.inl (0, 4)) 3 8 3 41 45 49) (riverD (.inl Fa4) (.inl Fb4) (.inl (0, 4)) 3 8 3 42 46 50) ((.inr (.inl (0, 12, Pd1)))) ((.inr (.inl (0, 12, Pd2)))) ((.inr (.inl (0, 12, Pd3)))) ((.inr (.inl (0, 12, Pd4)))) ((.inr (.inl (0, 12, Ps1)))) ((.inr (.inl (0, 12, Ps2)))) ((.inr (.inl (0, 12, Ps3)))) ((.inr (.inl (0, 12, Ps4)))) ((.inr (.inl (0, 48, Pi1)))) ((.inr (.inl (0, 48, Pi2)))) ((.inr (.inl (0, 48, Pi3)))) ((.inr (.inl (0, 48, Pi4))))) H := hH
  exact txV F hS dX1_begin_24 (hH)
set_option maxHeartbeats 4000000 in
set_option maxRecDepth 100000 in
theorem c_X1_beginMoved (E : Ev) (rc : TD) (rd : TD) (tp : TD) (Fa1 : Int × Int) (Fb1 : Int × Int) (Fa2 : Int × Int) (Fb2 : Int × Int) (Fa3 : Int × Int) (Fb3 : Int × Int) (Fa4 : Int × Int) (Fb4 : Int × Int) (Pd1 : (Nat → Int32) → Prop) (Pd2 : (Nat → Int32) → Prop) (Pd3 : (Nat → Int32) → Prop) (Pd4 : (Nat → Int32) → Prop) (Ps1 : (Nat → Int32) → Prop) (Ps2 : (Nat → Int32) → Prop) (Ps3 : (Nat → Int32) → Prop) (Ps4 : (Nat → Int32) → Prop) (Pi1 : (Nat → Int32) → Prop) (Pi2 : (Nat → Int32) → Prop) (Pi3 : (Nat → Int32) → Prop) (Pi4 : (Nat → Int32) → Prop) (a0 : Nat) (a1 : Nat) (a2 : Nat) (a3 : Int32) (a4 : Int32) (ha0 : eT E a0 ∈ [22]) (ha1 : eT E a1 ∈ [26, 27]) (ha2 : eT E a2 ∈ [17]) (ha3 : 0 ≤ a3.toInt ∧ a3.toInt ≤ 13) (ha4 : 0 ≤ a4.toInt ∧ a4.toInt ≤ 11) (hFa1 : 0 ≤ Fa1.1 ∧ Fa1.2 ≤ 12) (hFb1 : 0 ≤ Fb1.1 ∧ Fb1.2 ≤ 14) (hFa2 : 0 ≤ Fa2.1 ∧ Fa2.2 ≤ 12) (hFb2 : 0 ≤ Fb2.1 ∧ Fb2.2 ≤ 14) (hFa3 : 0 ≤ Fa3.1 ∧ Fa3.2 ≤ 12) (hFb3 : 0 ≤ Fb3.1 ∧ Fb3.2 ≤ 14) (hFa4 : 0 ≤ Fa4.1 ∧ Fa4.2 ≤ 12) (hFb4 : 0 ≤ Fb4.1 ∧ Fb4.2 ≤ 14) (hPd1 : ∀ f, Pd1 f → ivP 12 (-2) 11 f) (hPd2 : ∀ f, Pd2 f → ivP 12 (-2) 11 f) (hPd3 : ∀ f, Pd3 f → ivP 12 (-2) 11 f) (hPd4 : ∀ f, Pd4 f → ivP 12 (-2) 11 f) (hPs1 : ∀ f, Ps1 f → ivP 12 (-2147483648) 2147483647 f) (hPs2 : ∀ f, Ps2 f → ivP 12 (-2147483648) 2147483647 f) (hPs3 : ∀ f, Ps3 f → ivP 12 (-2147483648) 2147483647 f) (hPs4 : ∀ f, Ps4 f → ivP 12 (-2147483648) 2147483647 f) (hPi1 : ∀ f, Pi1 f → ivP 48 (-2147483648) 2147483647 f) (hPi2 : ∀ f, Pi2 f → ivP 48 (-2147483648) 2147483647 f) (hPi3 : ∀ f, Pi3 f → ivP 48 (-2147483648) 2147483647 f) (hPi4 : ∀ f, Pi4 f → ivP 48 (-2147483648) 2147483647 f) : TcV E yX1_beginMoved cX1_beginMoved 5 ({ frames := 4, cells := 0, slots := 0, locals := 104 }) [.ref a0, .ref a1, .ref a2, .int a3, .int a4] (fun H => TH E (tbC (dayD (.inl (0, 18))) (dayD (.inl (0, 18))) (riverD (.inl Fa1) (.inl Fb1) (.inl (0, 4)) 31 33 35 39 43 47) (riverD (.inl Fa2) (.inl Fb2) (.inl (0, 4)) 32 34 36 40 44 48) rc rd tp A14F A14F A4F A4F A14F A14F (riverD (.inl Fa3) (.inl Fb3) (.inl (0, 4)) 3 8 3 41 45 49) (riverD (.inl Fa4) (.inl Fb4) (.inl (0, 4)) 3 8 3 42 46 50) ((.inr (.inl (0, 12, Pd1)))) ((.inr (.inl (0, 12, Pd2)))) ((.inr (.inl (0, 12, Pd3)))) ((.inr (.inl (0, 12, Pd4)))) ((.inr (.inl (0, 12, Ps1)))) ((.inr (.inl (0, 12, Ps2)))) ((.inr (.inl (0, 12, Ps3)))) ((.inr (.inl (0, 12, Ps4)))) ((.inr (.inl (0, 48, Pi1)))) ((.inr (.inl (0, 48, Pi2)))) ((.inr (.inl (0, 48, Pi3)))) ((.inr (.inl (0, 48, Pi4))))) H) (fun H => TH E (tbC (dayD (.inl (0, 18))) (dayD (.inl (0, 18))) (riverD (.inl Fa1) (.inl Fb1) (.inl (0, 4)) 31 33 35 39 43 47) (riverD (.inl Fa2) (.inl Fb2) (.inl (0, 4)) 32 34 36 40 44 48) rc rd tp A14F A14F A4F A4F A14F A14F (riverD (.inl Fa3) (.inl Fb3) (.inl (0, 4)) 3 8 3 41 45 49) (riverD (.inl Fa4) (.inl Fb4) (.inl (0, 4)) 3 8 3 42 46 50) ((.inr (.inl (0, 12, Pd1)))) ((.inr (.inl (0, 12, Pd2)))) ((.inr (.inl (0, 12, Pd3)))) ((.inr (.inl (0, 12, Pd4)))) ((.inr (.inl (0, 12, Ps1)))) ((.inr (.inl (0, 12, Ps2)))) ((.inr (.inl (0, 12, Ps3)))) ((.inr (.inl (0, 12, Ps4)))) ((.inr (.inl (0, 48, Pi1)))) ((.inr (.inl (0, 48, Pi2)))) ((.inr (.inl (0, 48, Pi3)))) ((.inr (.inl (0, 48, Pi4))))) H) := by
  refine teV (by decide) (Nat.le_of_ble_eq_true rfl) ?_
  intro p_ ev_ s mi_ below_ meth cd_ ls F hK hN hO hH hS hl
  have hH : TH E (tbC (dayD (.inl (0, 18))) (dayD (.inl (0, 18))) (riverD (.inl Fa1) (.inl Fb1) (.inl (0, 4)) 31 33 35 39 43 47) (riverD (.inl Fa2) (.inl Fb2) (.inl (0, 4)) 32 34 36 40 44 48) rc rd tp A14F A14F A4F A4F A14F A14F (riverD (.inl Fa3) (.inl Fb3) (.inl (0, 4)) 3 8 3 41 45 49) (riverD (.inl Fa4) (.inl Fb4) (.inl (0, 4)) 3 8 3 42 46 50) ((.inr (.inl (0, 12, Pd1)))) ((.inr (.inl (0, 12, Pd2)))) ((.inr (.inl (0, 12, Pd3)))) ((.inr (.inl (0, 12, Pd4)))) ((.inr (.inl (0, 12, Ps1)))) ((.inr (.inl (0, 12, Ps2)))) ((.inr (.inl (0, 12, Ps3)))) ((.inr (.inl (0, 12, Ps4)))) ((.inr (.inl (0, 48, Pi1)))) ((.inr (.inl (0, 48, Pi2)))) ((.inr (.inl (0, 48, Pi3)))) ((.inr (.inl (0, 48, Pi4))))) s.heap := hH
  have hl : lv_has ls 5 [(0, .ref a0), (1, .ref a1), (2, .ref a2), (3, .int a3), (4, .int a4)] := hl
  refine lv_aload_n F.1 F.2.1 dX1_beginMoved_0 rfl (lv_at hl 0 rfl) ?_
  refine lv_aload_n F.1 F.2.1 dX1_beginMoved_1 rfl (lv_at hl 1 rfl) ?_
  refine lv_aload_n F.1 F.2.1 dX1_beginMoved_2 rfl (lv_at hl 2 rfl) ?_
  refine tVv (b := a0) (As := [.ref a1, .ref a2]) (rest := []) F hK hN hO (c_X1_begin E rc rd tp Fa1 Fb1 Fa2 Fb2 Fa3 Fb3 Fa4 Fb4 Pd1 Pd2 Pd3 Pd4 Ps1 Ps2 Ps3 Ps4 Pi1 Pi2 Pi3 Pi4 a0 a1 a2 ha0 ha1 ha2 hFa1 hFb1 hFa2 hFb2 hFa3 hFb3 hFa4 hFb4 hPd1 hPd2 hPd3 hPd4 hPs1 hPs2 hPs3 hPs4 hPi1 hPi2 hPi3 hPi4) mv_X1_begin wd_37_3 ⟨Nat.le_of_ble_eq_true rfl, Nat.le_of_ble_eq_true rfl⟩ ⟨Nat.le_of_ble_eq_true rfl, Nat.le_of_ble_eq_true rfl⟩ hH hS (tRecv hK hH (tyb ha0 (all1 rfl)) clX1) rfl hl.1 (Nat.le_of_ble_eq_true rfl) dX1_beginMoved_3 (fun H locs hq hS => ?_)
  have hH := hq
  have hH : TH E (tbC (dayD (.inl (0, 18))) (dayD (.inl (0, 18))) (riverD (.inl Fa1) (.inl Fb1) (.inl (0, 4)) 31 33 35 39 43 47) (riverD (.inl Fa2) (.inl Fb2) (.inl (0, 4)) 32 34 36 40 44 48) rc rd tp A14F A14F A4F A4F A14F A14F (riverD (.inl Fa3) (.inl Fb3) (.inl (0, 4)) 3 8 3 41 45 49) (riverD (.inl Fa4) (.inl Fb4) (.inl (0, 4)) 3 8 3 42 46 50) ((.inr (.inl (0, 12, Pd1)))) ((.inr (.inl (0, 12, Pd2)))) ((.inr (.inl (0, 12, Pd3)))) ((.inr (.inl (0, 12, Pd4)))) ((.inr (.inl (0, 12, Ps1)))) ((.inr (.inl (0, 12, Ps2)))) ((.inr (.inl (0, 12, Ps3)))) ((.inr (.inl (0, 12, Ps4)))) ((.inr (.inl (0, 48, Pi1)))) ((.inr (.inl (0, 48, Pi2)))) ((.inr (.inl (0, 48, Pi3)))) ((.inr (.inl (0, 48, Pi4))))) H := hH
  refine lv_aload_n F.1 F.2.1 dX1_beginMoved_6 rfl (lv_at hl 0 rfl) ?_
  refine tGetR (j := 0) F hK hH (tyb ha0 (all1 rfl)) rfl (all1 rfl) clX1 (by decide) wd_5_6 dX1_beginMoved_7 (fun q_2 hq_2 _ => ?_)
  refine tGetR (j := 2) F hK hH (tyb hq_2 (all1 rfl)) rfl (all1 rfl) clX5 (by decide) wd_37_2 dX1_beginMoved_10 (fun q_3 hq_3 _ => ?_)
  refine lv_iload_n F.1 F.2.1 dX1_beginMoved_13 rfl (lv_at hl 3 rfl) ?_
  refine lv_iload F.1 F.2.1 dX1_beginMoved_14 (lv_at hl 4 rfl) ?_
  refine tIastB F hK hH hS (tyb hq_3 (all1 rfl)) (ixb (n := 14) ha3 rfl rfl) ha4 dX1_beginMoved_16 (fun H locs hH hS => ?_)
  exact txV F hS dX1_beginMoved_17 (hH)
set_option maxHeartbeats 4000000 in
set_option maxRecDepth 100000 in
theorem c_X1_forget (E : Ev) (rc : TD) (rd : TD) (tp : TD) (Fa1 : Int × Int) (Fb1 : Int × Int) (Fa2 : Int × Int) (Fb2 : Int × Int) (Fa3 : Int × Int) (Fb3 : Int × Int) (Fa4 : Int × Int) (Fb4 : Int × Int) (Pd1 : (Nat → Int32) → Prop) (Pd2 : (Nat → Int32) → Prop) (Pd3 : (Nat → Int32) → Prop) (Pd4 : (Nat → Int32) → Prop) (Ps1 : (Nat → Int32) → Prop) (Ps2 : (Nat → Int32) → Prop) (Ps3 : (Nat → Int32) → Prop) (Ps4 : (Nat → Int32) → Prop) (Pi1 : (Nat → Int32) → Prop) (Pi2 : (Nat → Int32) → Prop) (Pi3 : (Nat → Int32) → Prop) (Pi4 : (Nat → Int32) → Prop) (a0 : Nat) (ha0 : eT E a0 ∈ [22]) (hFa1 : 0 ≤ Fa1.1 ∧ Fa1.2 ≤ 12) (hFb1 : 0 ≤ Fb1.1 ∧ Fb1.2 ≤ 14) (hFa2 : 0 ≤ Fa2.1 ∧ Fa2.2 ≤ 12) (hFb2 : 0 ≤ Fb2.1 ∧ Fb2.2 ≤ 14) (hFa3 : 0 ≤ Fa3.1 ∧ Fa3.2 ≤ 12) (hFb3 : 0 ≤ Fb3.1 ∧ Fb3.2 ≤ 14) (hFa4 : 0 ≤ Fa4.1 ∧ Fa4.2 ≤ 12) (hFb4 : 0 ≤ Fb4.1 ∧ Fb4.2 ≤ 14) (hPd1 : ∀ f, Pd1 f → ivP 12 (-2) 11 f) (hPd2 : ∀ f, Pd2 f → ivP 12 (-2) 11 f) (hPd3 : ∀ f, Pd3 f → ivP 12 (-2) 11 f) (hPd4 : ∀ f, Pd4 f → ivP 12 (-2) 11 f) (hPs1 : ∀ f, Ps1 f → ivP 12 (-2147483648) 2147483647 f) (hPs2 : ∀ f, Ps2 f → ivP 12 (-2147483648) 2147483647 f) (hPs3 : ∀ f, Ps3 f → ivP 12 (-2147483648) 2147483647 f) (hPs4 : ∀ f, Ps4 f → ivP 12 (-2147483648) 2147483647 f) (hPi1 : ∀ f, Pi1 f → ivP 48 (-2147483648) 2147483647 f) (hPi2 : ∀ f, Pi2 f → ivP 48 (-2147483648) 2147483647 f) (hPi3 : ∀ f, Pi3 f → ivP 48 (-2147483648) 2147483647 f) (hPi4 : ∀ f, Pi4 f → ivP 48 (-2147483648) 2147483647 f) : TcV E yX1_forget cX1_forget 2 ({ frames := 1, cells := 0, slots := 0, locals := 40 }) [.ref a0] (fun H => TH E (tbC (dayD (.inl (0, 18))) (dayD (.inl (0, 18))) (riverD (.inl Fa1) (.inl Fb1) (.inl (0, 4)) 31 33 35 39 43 47) (riverD (.inl Fa2) (.inl Fb2) (.inl (0, 4)) 32 34 36 40 44 48) rc rd tp A14F A14F A4F A4F A14F A14F (riverD (.inl Fa3) (.inl Fb3) (.inl (0, 4)) 3 8 3 41 45 49) (riverD (.inl Fa4) (.inl Fb4) (.inl (0, 4)) 3 8 3 42 46 50) ((.inr (.inl (0, 12, Pd1)))) ((.inr (.inl (0, 12, Pd2)))) ((.inr (.inl (0, 12, Pd3)))) ((.inr (.inl (0, 12, Pd4)))) ((.inr (.inl (0, 12, Ps1)))) ((.inr (.inl (0, 12, Ps2)))) ((.inr (.inl (0, 12, Ps3)))) ((.inr (.inl (0, 12, Ps4)))) ((.inr (.inl (0, 48, Pi1)))) ((.inr (.inl (0, 48, Pi2)))) ((.inr (.inl (0, 48, Pi3)))) ((.inr (.inl (0, 48, Pi4))))) H) (fun H => TH E (tbC (dayD (.inl (0, 18))) (dayD (.inl (0, 18))) (riverD (.inl Fa1) (.inl Fb1) (.inl (0, 4)) 31 33 35 39 43 47) (riverD (.inl Fa2) (.inl Fb2) (.inl (0, 4)) 32 34 36 40 44 48) rc rd tp A14F A14F A4F A4F A14F A14F (riverD (.inl Fa3) (.inl Fb3) (.inl (0, 4)) 3 8 3 41 45 49) (riverD (.inl Fa4) (.inl Fb4) (.inl (0, 4)) 3 8 3 42 46 50) ((.inr (.inl (0, 12, Pd1)))) ((.inr (.inl (0, 12, Pd2)))) ((.inr (.inl (0, 12, Pd3)))) ((.inr (.inl (0, 12, Pd4)))) ((.inr (.inl (0, 12, Ps1)))) ((.inr (.inl (0, 12, Ps2)))) ((.inr (.inl (0, 12, Ps3)))) ((.inr (.inl (0, 12, Ps4)))) ((.inr (.inl (0, 48, Pi1)))) ((.inr (.inl (0, 48, Pi2)))) ((.inr (.inl (0, 48, Pi3)))) ((.inr (.inl (0, 48, Pi4))))) H) := by
  refine teV (by decide) (Nat.le_of_ble_eq_true rfl) ?_
  intro p_ ev_ s mi_ below_ meth cd_ ls F hK hN hO hH hS hl
  have hH : TH E (tbC (dayD (.inl (0, 18))) (dayD (.inl (0, 18))) (riverD (.inl Fa1) (.inl Fb1) (.inl (0, 4)) 31 33 35 39 43 47) (riverD (.inl Fa2) (.inl Fb2) (.inl (0, 4)) 32 34 36 40 44 48) rc rd tp A14F A14F A4F A4F A14F A14F (riverD (.inl Fa3) (.inl Fb3) (.inl (0, 4)) 3 8 3 41 45 49) (riverD (.inl Fa4) (.inl Fb4) (.inl (0, 4)) 3 8 3 42 46 50) ((.inr (.inl (0, 12, Pd1)))) ((.inr (.inl (0, 12, Pd2)))) ((.inr (.inl (0, 12, Pd3)))) ((.inr (.inl (0, 12, Pd4)))) ((.inr (.inl (0, 12, Ps1)))) ((.inr (.inl (0, 12, Ps2)))) ((.inr (.inl (0, 12, Ps3)))) ((.inr (.inl (0, 12, Ps4)))) ((.inr (.inl (0, 48, Pi1)))) ((.inr (.inl (0, 48, Pi2)))) ((.inr (.inl (0, 48, Pi3)))) ((.inr (.inl (0, 48, Pi4))))) s.heap := hH
  have hl : lv_has ls 2 [(0, .ref a0)] := hl
  refine lv_iconst (v := 0) F.1 F.2.1 dX1_forget_0 (by decide) ?_
  refine topK (a := 0) (by decide) (fun k_1 hk_1 => ?_)
  refine lv_istore_n (lv' := [(1, .int k_1), (0, .ref a0)]) F.1 F.2.1 dX1_forget_1 rfl hl (by decide) rfl (fun ls hl => ?_)
  refine wloop (σ := Int32) (fun n9 x9 H locs ls => (14 - x9.toInt + 1).toNat < n9 ∧ (0 ≤ x9.toInt ∧ x9.toInt ≤ 14) ∧ TH E (tbC (dayD (.inl (0, 18))) (dayD (.inl (0, 18))) (riverD (.inl Fa1) (.inl Fb1) (.inl (0, 4)) 31 33 35 39 43 47) (riverD (.inl Fa2) (.inl Fb2) (.inl (0, 4)) 32 34 36 40 44 48) rc rd tp A14F A14F A4F A4F A14F A14F (riverD (.inl Fa3) (.inl Fb3) (.inl (0, 4)) 3 8 3 41 45 49) (riverD (.inl Fa4) (.inl Fb4) (.inl (0, 4)) 3 8 3 42 46 50) ((.inr (.inl (0, 12, Pd1)))) ((.inr (.inl (0, 12, Pd2)))) ((.inr (.inl (0, 12, Pd3)))) ((.inr (.inl (0, 12, Pd4)))) ((.inr (.inl (0, 12, Ps1)))) ((.inr (.inl (0, 12, Ps2)))) ((.inr (.inl (0, 12, Ps3)))) ((.inr (.inl (0, 12, Ps4)))) ((.inr (.inl (0, 48, Pi1)))) ((.inr (.inl (0, 48, Pi2)))) ((.inr (.inl (0, 48, Pi3)))) ((.inr (.inl (0, 48, Pi4))))) H ∧ va_S (eA E s.heap.size) s.heap H locs ∧ lv_has ls 2 [(0, .ref a0), (1, .int x9)]) ?_ (fun x9 H locs ls h => absurd h.1 (Nat.not_lt_zero _)) _ (k_1) ⟨Nat.lt_succ_self _, (wkb (eqb hk_1) rfl rfl), hH, hS, lv_sub hl [1, 0] rfl⟩
  intro n_2 ih_2 u_2 H locs ls ⟨hm_2, hu_2, hH, hS, hl⟩
  have hm_2 : (14 - u_2.toInt + 1).toNat < n_2 + 1 := hm_2
  have hu_2 : (0 ≤ u_2.toInt ∧ u_2.toInt ≤ 14) := hu_2
  have hH : TH E (tbC (dayD (.inl (0, 18))) (dayD (.inl (0, 18))) (riverD (.inl Fa1) (.inl Fb1) (.inl (0, 4)) 31 33 35 39 43 47) (riverD (.inl Fa2) (.inl Fb2) (.inl (0, 4)) 32 34 36 40 44 48) rc rd tp A14F A14F A4F A4F A14F A14F (riverD (.inl Fa3) (.inl Fb3) (.inl (0, 4)) 3 8 3 41 45 49) (riverD (.inl Fa4) (.inl Fb4) (.inl (0, 4)) 3 8 3 42 46 50) ((.inr (.inl (0, 12, Pd1)))) ((.inr (.inl (0, 12, Pd2)))) ((.inr (.inl (0, 12, Pd3)))) ((.inr (.inl (0, 12, Pd4)))) ((.inr (.inl (0, 12, Ps1)))) ((.inr (.inl (0, 12, Ps2)))) ((.inr (.inl (0, 12, Ps3)))) ((.inr (.inl (0, 12, Ps4)))) ((.inr (.inl (0, 48, Pi1)))) ((.inr (.inl (0, 48, Pi2)))) ((.inr (.inl (0, 48, Pi3)))) ((.inr (.inl (0, 48, Pi4))))) H := hH
  have hl : lv_has ls 2 [(0, .ref a0), (1, .int u_2)] := hl
  refine lv_iload_n F.1 F.2.1 dX1_forget_2 rfl (lv_at hl 1 rfl) ?_
  refine lv_bipush (v := 14) F.1 F.2.1 dX1_forget_3 (by decide) ?_
  refine topK (a := 14) (by decide) (fun k_3 hk_3 => ?_)
  refine b_ge (tgt := 21) F dX1_forget_5 (by decide) (fun c_4 => ?_) (fun c_4 => ?_)
  · skip
    have r_5 : 14 ≤ u_2.toInt ∧ u_2.toInt ≤ 14 := by have h9_ := hu_2; omega
    refine lv_aload_n F.1 F.2.1 dX1_forget_21 rfl (lv_at hl 0 rfl) ?_
    refine lv_iconst (v := 0) F.1 F.2.1 dX1_forget_22 (by decide) ?_
    refine topK (a := 0) (by decide) (fun k_7 hk_7 => ?_)
    refine tPut (j := 5) F hK hH hS (tyb ha0 (all1 rfl)) rfl (fdI (wkb (eqb hk_7) rfl rfl)) clX1 (by decide) wd_35_8 rfl rfl rfl rfl dX1_forget_23 (fun H locs hH hS => ?_)
    refine lv_aload_n F.1 F.2.1 dX1_forget_26 rfl (lv_at hl 0 rfl) ?_
    refine lv_sipush (v := 9999) F.1 F.2.1 dX1_forget_27 (by decide) ?_
    refine topK (a := 9999) (by decide) (fun k_8 hk_8 => ?_)
    refine tPut (j := 6) F hK hH hS (tyb ha0 (all1 rfl)) rfl (fdI (wkb (eqb hk_8) rfl rfl)) clX1 (by decide) wd_35_14 rfl rfl rfl rfl dX1_forget_30 (fun H locs hH hS => ?_)
    refine lv_aload_n F.1 F.2.1 dX1_forget_33 rfl (lv_at hl 0 rfl) ?_
    refine lv_iconst (v := 0) F.1 F.2.1 dX1_forget_34 (by decide) ?_
    refine topK (a := 0) (by decide) (fun k_9 hk_9 => ?_)
    refine tPut (j := 7) F hK hH hS (tyb ha0 (all1 rfl)) rfl (fdI (wkb (eqb hk_9) rfl rfl)) clX1 (by decide) wd_35_15 rfl rfl rfl rfl dX1_forget_35 (fun H locs hH hS => ?_)
    refine lv_aload_n F.1 F.2.1 dX1_forget_38 rfl (lv_at hl 0 rfl) ?_
    refine lv_bipush (v := (-2)) F.1 F.2.1 dX1_forget_39 (by decide) ?_
    refine topK (a := (-2)) (by decide) (fun k_10 hk_10 => ?_)
    refine tPut (j := 8) F hK hH hS (tyb ha0 (all1 rfl)) rfl (fdI (wkb (eqb hk_10) rfl rfl)) clX1 (by decide) wd_35_16 rfl rfl rfl rfl dX1_forget_41 (fun H locs hH hS => ?_)
    refine lv_aload_n F.1 F.2.1 dX1_forget_44 rfl (lv_at hl 0 rfl) ?_
    refine lv_iconst (v := 0) F.1 F.2.1 dX1_forget_45 (by decide) ?_
    refine topK (a := 0) (by decide) (fun k_11 hk_11 => ?_)
    refine tPut (j := 9) F hK hH hS (tyb ha0 (all1 rfl)) rfl (fdI (wkb (eqb hk_11) rfl rfl)) clX1 (by decide) wd_35_17 rfl rfl rfl rfl dX1_forget_46 (fun H locs hH hS => ?_)
    refine lv_aload_n F.1 F.2.1 dX1_forget_49 rfl (lv_at hl 0 rfl) ?_
    refine lv_iconst (v := 0) F.1 F.2.1 dX1_forget_50 (by decide) ?_
    refine topK (a := 0) (by decide) (fun k_12 hk_12 => ?_)
    refine tPut (j := 10) F hK hH hS (tyb ha0 (all1 rfl)) rfl (fdI (wkb (eqb hk_12) rfl rfl)) clX1 (by decide) wd_35_18 rfl rfl rfl rfl dX1_forget_51 (fun H locs hH hS => ?_)
    exact txV F hS dX1_forget_54 (hH)
  · skip
    have r_6 : 0 ≤ u_2.toInt ∧ u_2.toInt ≤ 13 := by have h9_ := hu_2; omega
    refine lv_aload_n F.1 F.2.1 dX1_forget_8 rfl (lv_at hl 0 rfl) ?_
    refine tGetR (j := 4) F hK hH (tyb ha0 (all1 rfl)) rfl (all1 rfl) clX1 (by decide) wd_5_7 dX1_forget_9 (fun q_13 hq_13 _ => ?_)
    refine lv_iload_n F.1 F.2.1 dX1_forget_12 rfl (lv_at hl 1 rfl) ?_
    refine lv_iconst (v := 0) F.1 F.2.1 dX1_forget_13 (by decide) ?_
    refine topK (a := 0) (by decide) (fun k_14 hk_14 => ?_)
    refine tIastB F hK hH hS (tyb hq_13 (all1 rfl)) (ixb (n := 14) r_6 rfl rfl) (wkb (eqb hk_14) rfl rfl) dX1_forget_14 (fun H locs hH hS => ?_)
    obtain ⟨x_15, ex_15, hx_15⟩ := iincB (c := 1) (lo := 1) (hi := 14) r_6 rfl
    refine lv_iinc (v := x_15) (lv' := [(1, .int x_15), (0, .ref a0)]) F.1 F.2.1 dX1_forget_15 hl (k := 1) rfl ex_15 (by decide) rfl (fun ls hl => ?_)
    refine lv_goto (tgt := 2) F.1 F.2.1 dX1_forget_18 (by decide) ?_
    exact ih_2 (x_15) _ _ _ ⟨(show (14 - x_15.toInt + 1).toNat < n_2 from by omega), (wkb hx_15.2 rfl rfl), hH, hS, lv_sub hl [1, 0] rfl⟩
set_option maxHeartbeats 4000000 in
set_option maxRecDepth 100000 in
theorem c_X1_watch (E : Ev) (rc : TD) (rd : TD) (tp : TD) (Fa1 : Int × Int) (Fb1 : Int × Int) (Fa2 : Int × Int) (Fb2 : Int × Int) (Fa3 : Int × Int) (Fb3 : Int × Int) (Fa4 : Int × Int) (Fb4 : Int × Int) (Pd1 : (Nat → Int32) → Prop) (Pd2 : (Nat → Int32) → Prop) (Pd3 : (Nat → Int32) → Prop) (Pd4 : (Nat → Int32) → Prop) (Ps1 : (Nat → Int32) → Prop) (Ps2 : (Nat → Int32) → Prop) (Ps3 : (Nat → Int32) → Prop) (Ps4 : (Nat → Int32) → Prop) (Pi1 : (Nat → Int32) → Prop) (Pi2 : (Nat → Int32) → Prop) (Pi3 : (Nat → Int32) → Prop) (Pi4 : (Nat → Int32) → Prop) (a0 : Nat) (a1 : Int32) (a2 : Int32) (ha0 : eT E a0 ∈ [22]) (ha1 : 0 ≤ a1.toInt ∧ a1.toInt ≤ 13) (hFa1 : 0 ≤ Fa1.1 ∧ Fa1.2 ≤ 12) (hFb1 : 0 ≤ Fb1.1 ∧ Fb1.2 ≤ 14) (hFa2 : 0 ≤ Fa2.1 ∧ Fa2.2 ≤ 12) (hFb2 : 0 ≤ Fb2.1 ∧ Fb2.2 ≤ 14) (hFa3 : 0 ≤ Fa3.1 ∧ Fa3.2 ≤ 12) (hFb3 : 0 ≤ Fb3.1 ∧ Fb3.2 ≤ 14) (hFa4 : 0 ≤ Fa4.1 ∧ Fa4.2 ≤ 12) (hFb4 : 0 ≤ Fb4.1 ∧ Fb4.2 ≤ 14) (hPd1 : ∀ f, Pd1 f → ivP 12 (-2) 11 f) (hPd2 : ∀ f, Pd2 f → ivP 12 (-2) 11 f) (hPd3 : ∀ f, Pd3 f → ivP 12 (-2) 11 f) (hPd4 : ∀ f, Pd4 f → ivP 12 (-2) 11 f) (hPs1 : ∀ f, Ps1 f → ivP 12 (-2147483648) 2147483647 f) (hPs2 : ∀ f, Ps2 f → ivP 12 (-2147483648) 2147483647 f) (hPs3 : ∀ f, Ps3 f → ivP 12 (-2147483648) 2147483647 f) (hPs4 : ∀ f, Ps4 f → ivP 12 (-2147483648) 2147483647 f) (hPi1 : ∀ f, Pi1 f → ivP 48 (-2147483648) 2147483647 f) (hPi2 : ∀ f, Pi2 f → ivP 48 (-2147483648) 2147483647 f) (hPi3 : ∀ f, Pi3 f → ivP 48 (-2147483648) 2147483647 f) (hPi4 : ∀ f, Pi4 f → ivP 48 (-2147483648) 2147483647 f) : TcV E yX1_watch cX1_watch 3 ({ frames := 4, cells := 0, slots := 0, locals := 103 }) [.ref a0, .int a1, .int a2] (fun H => TH E (tbC (dayD (.inl (0, 18))) (dayD (.inl (0, 18))) (riverD (.inl Fa1) (.inl Fb1) (.inl (0, 4)) 31 33 35 39 43 47) (riverD (.inl Fa2) (.inl Fb2) (.inl (0, 4)) 32 34 36 40 44 48) rc rd tp A14F A14F A4F A4F A14F A14F (riverD (.inl Fa3) (.inl Fb3) (.inl (0, 4)) 3 8 3 41 45 49) (riverD (.inl Fa4) (.inl Fb4) (.inl (0, 4)) 3 8 3 42 46 50) ((.inr (.inl (0, 12, Pd1)))) ((.inr (.inl (0, 12, Pd2)))) ((.inr (.inl (0, 12, Pd3)))) ((.inr (.inl (0, 12, Pd4)))) ((.inr (.inl (0, 12, Ps1)))) ((.inr (.inl (0, 12, Ps2)))) ((.inr (.inl (0, 12, Ps3)))) ((.inr (.inl (0, 12, Ps4)))) ((.inr (.inl (0, 48, Pi1)))) ((.inr (.inl (0, 48, Pi2)))) ((.inr (.inl (0, 48, Pi3)))) ((.inr (.inl (0, 48, Pi4))))) H) (fun H => TH E (tbC (dayD (.inl (0, 18))) (dayD (.inl (0, 18))) (riverD (.inl Fa1) (.inl Fb1) (.inl (0, 4)) 31 33 35 39 43 47) (riverD (.inl Fa2) (.inl Fb2) (.inl (0, 4)) 32 34 36 40 44 48) rc rd tp A14F A14F A4F A4F A14F A14F (riverD (.inl Fa3) (.inl Fb3) (.inl (0, 4)) 3 8 3 41 45 49) (riverD (.inl Fa4) (.inl Fb4) (.inl (0, 4)) 3 8 3 42 46 50) ((.inr (.inl (0, 12, Pd1)))) ((.inr (.inl (0, 12, Pd2)))) ((.inr (.inl (0, 12, Pd3)))) ((.inr (.inl (0, 12, Pd4)))) ((.inr (.inl (0, 12, Ps1)))) ((.inr (.inl (0, 12, Ps2)))) ((.inr (.inl (0, 12, Ps3)))) ((.inr (.inl (0, 12, Ps4)))) ((.inr (.inl (0, 48, Pi1)))) ((.inr (.inl (0, 48, Pi2)))) ((.inr (.inl (0, 48, Pi3)))) ((.inr (.inl (0, 48, Pi4))))) H) := by
  refine teV (by decide) (Nat.le_of_ble_eq_true rfl) ?_
  intro p_ ev_ s mi_ below_ meth cd_ ls F hK hN hO hH hS hl
  have hH : TH E (tbC (dayD (.inl (0, 18))) (dayD (.inl (0, 18))) (riverD (.inl Fa1) (.inl Fb1) (.inl (0, 4)) 31 33 35 39 43 47) (riverD (.inl Fa2) (.inl Fb2) (.inl (0, 4)) 32 34 36 40 44 48) rc rd tp A14F A14F A4F A4F A14F A14F (riverD (.inl Fa3) (.inl Fb3) (.inl (0, 4)) 3 8 3 41 45 49) (riverD (.inl Fa4) (.inl Fb4) (.inl (0, 4)) 3 8 3 42 46 50) ((.inr (.inl (0, 12, Pd1)))) ((.inr (.inl (0, 12, Pd2)))) ((.inr (.inl (0, 12, Pd3)))) ((.inr (.inl (0, 12, Pd4)))) ((.inr (.inl (0, 12, Ps1)))) ((.inr (.inl (0, 12, Ps2)))) ((.inr (.inl (0, 12, Ps3)))) ((.inr (.inl (0, 12, Ps4)))) ((.inr (.inl (0, 48, Pi1)))) ((.inr (.inl (0, 48, Pi2)))) ((.inr (.inl (0, 48, Pi3)))) ((.inr (.inl (0, 48, Pi4))))) s.heap := hH
  have hl : lv_has ls 3 [(0, .ref a0), (1, .int a1), (2, .int a2)] := hl
  refine lv_aload_n F.1 F.2.1 dX1_watch_0 rfl (lv_at hl 0 rfl) ?_
  refine lv_aload_n F.1 F.2.1 dX1_watch_1 rfl (lv_at hl 0 rfl) ?_
  refine tGetI (j := 6) F hK hH (tyb ha0 (all1 rfl)) rfl clX1 (by decide) wd_35_14 dX1_watch_2 (fun z_1 hz_1 => ?_)
  refine lv_aload_n F.1 F.2.1 dX1_watch_5 rfl (lv_at hl 0 rfl) ?_
  refine tGetR (j := 1) F hK hH (tyb ha0 (all1 rfl)) rfl (all1 rfl) clX1 (by decide) wd_5_11 dX1_watch_6 (fun q_2 hq_2 _ => ?_)
  refine lv_iload_n F.1 F.2.1 dX1_watch_9 rfl (lv_at hl 1 rfl) ?_
  refine tVi (b := q_2) (As := [.int a1]) (rest := [.int z_1, .ref a0]) F hK hN hO (c_X0_takenBy E rc rd tp Fa1 Fb1 Fa2 Fb2 Fa3 Fb3 Fa4 Fb4 Pd1 Pd2 Pd3 Pd4 Ps1 Ps2 Ps3 Ps4 Pi1 Pi2 Pi3 Pi4 q_2 a1 (by have h9_ := hq_2; simp at h9_ ⊢; omega) ha1 hFa1 hFb1 hFa2 hFb2 hFa3 hFb3 hFa4 hFb4 hPd1 hPd2 hPd3 hPd4 hPs1 hPs2 hPs3 hPs4 hPi1 hPi2 hPi3 hPi4) mv_X0_takenBy wd_36_10 ⟨Nat.le_of_ble_eq_true rfl, Nat.le_of_ble_eq_true rfl⟩ ⟨Nat.le_of_ble_eq_true rfl, Nat.le_of_ble_eq_true rfl⟩ hH hS (tRecv hK hH (tyb hq_2 (all1 rfl)) clX0) rfl hl.1 (Nat.le_of_ble_eq_true rfl) dX1_watch_10 (fun z_3 H locs hq hS => ?_)
  obtain ⟨f_4, hH⟩ := hq
  have hH : TH E (tbC (dayD (.inl (0, 18))) (dayD (.inl (0, 18))) (riverD (.inl Fa1) (.inl Fb1) (.inl (0, 4)) 31 33 35 39 43 47) (riverD (.inl Fa2) (.inl Fb2) (.inl (0, 4)) 32 34 36 40 44 48) rc rd tp A14F A14F A4F A4F A14F A14F (riverD (.inl Fa3) (.inl Fb3) (.inl (0, 4)) 3 8 3 41 45 49) (riverD (.inl Fa4) (.inl Fb4) (.inl (0, 4)) 3 8 3 42 46 50) ((.inr (.inl (0, 12, Pd1)))) ((.inr (.inl (0, 12, Pd2)))) ((.inr (.inl (0, 12, Pd3)))) ((.inr (.inl (0, 12, Pd4)))) ((.inr (.inl (0, 12, Ps1)))) ((.inr (.inl (0, 12, Ps2)))) ((.inr (.inl (0, 12, Ps3)))) ((.inr (.inl (0, 12, Ps4)))) ((.inr (.inl (0, 48, Pi1)))) ((.inr (.inl (0, 48, Pi2)))) ((.inr (.inl (0, 48, Pi3)))) ((.inr (.inl (0, 48, Pi4))))) H := hH
  refine tMin (lo := (-2147483648)) (hi := 2147483647) F wd_36_8 wd_9_0 wd_9_1 wd_9_2 hl.1 (Nat.le_of_ble_eq_true rfl) (Nat.le_of_ble_eq_true rfl) (Nat.le_of_ble_eq_true rfl) (Nat.le_of_ble_eq_true rfl) dX1_watch_13 hz_1 f_4 rfl (fun z_5 hz_5 => ?_)
  refine tPut (j := 6) F hK hH hS (tyb ha0 (all1 rfl)) rfl (fdI hz_5.2) clX1 (by decide) wd_35_14 rfl rfl rfl rfl dX1_watch_16 (fun H locs hH hS => ?_)
  refine lv_aload_n F.1 F.2.1 dX1_watch_19 rfl (lv_at hl 0 rfl) ?_
  refine tGetR (j := 1) F hK hH (tyb ha0 (all1 rfl)) rfl (all1 rfl) clX1 (by decide) wd_5_11 dX1_watch_20 (fun q_6 hq_6 _ => ?_)
  refine lv_iload_n F.1 F.2.1 dX1_watch_23 rfl (lv_at hl 1 rfl) ?_
  refine tVi (b := q_6) (As := [.int a1]) (rest := []) F hK hN hO (c_X0_isShort E rc rd tp Fa1 Fb1 Fa2 Fb2 Fa3 Fb3 Fa4 Fb4 Pd1 Pd2 Pd3 Pd4 Ps1 Ps2 Ps3 Ps4 Pi1 Pi2 Pi3 Pi4 q_6 a1 (by have h9_ := hq_6; simp at h9_ ⊢; omega) ha1 hFa1 hFb1 hFa2 hFb2 hFa3 hFb3 hFa4 hFb4 hPd1 hPd2 hPd3 hPd4 hPs1 hPs2 hPs3 hPs4 hPi1 hPi2 hPi3 hPi4) mv_X0_isShort wd_36_11 ⟨Nat.le_of_ble_eq_true rfl, Nat.le_of_ble_eq_true rfl⟩ ⟨Nat.le_of_ble_eq_true rfl, Nat.le_of_ble_eq_true rfl⟩ hH hS (tRecv hK hH (tyb hq_6 (all1 rfl)) clX0) rfl hl.1 (Nat.le_of_ble_eq_true rfl) dX1_watch_24 (fun z_7 H locs hq hS => ?_)
  obtain ⟨f_8, hH⟩ := hq
  have hH : TH E (tbC (dayD (.inl (0, 18))) (dayD (.inl (0, 18))) (riverD (.inl Fa1) (.inl Fb1) (.inl (0, 4)) 31 33 35 39 43 47) (riverD (.inl Fa2) (.inl Fb2) (.inl (0, 4)) 32 34 36 40 44 48) rc rd tp A14F A14F A4F A4F A14F A14F (riverD (.inl Fa3) (.inl Fb3) (.inl (0, 4)) 3 8 3 41 45 49) (riverD (.inl Fa4) (.inl Fb4) (.inl (0, 4)) 3 8 3 42 46 50) ((.inr (.inl (0, 12, Pd1)))) ((.inr (.inl (0, 12, Pd2)))) ((.inr (.inl (0, 12, Pd3)))) ((.inr (.inl (0, 12, Pd4)))) ((.inr (.inl (0, 12, Ps1)))) ((.inr (.inl (0, 12, Ps2)))) ((.inr (.inl (0, 12, Ps3)))) ((.inr (.inl (0, 12, Ps4)))) ((.inr (.inl (0, 48, Pi1)))) ((.inr (.inl (0, 48, Pi2)))) ((.inr (.inl (0, 48, Pi3)))) ((.inr (.inl (0, 48, Pi4))))) H := hH
  refine z_ne (tgt := 36) F dX1_watch_27 (by decide) (fun c_9 => ?_) (fun c_9 => ?_)
  · skip
    have r_10 : 1 ≤ z_7.toInt ∧ z_7.toInt ≤ 1 := by have h9_ := f_8; omega
    refine lv_aload_n F.1 F.2.1 dX1_watch_36 rfl (lv_at hl 0 rfl) ?_
    refine lv_dup F.1 F.2.1 dX1_watch_37 rfl ?_
    refine tGetI (j := 7) F hK hH (tyb ha0 (all1 rfl)) rfl clX1 (by decide) wd_35_15 dX1_watch_38 (fun z_12 hz_12 => ?_)
    refine lv_iconst (v := 1) F.1 F.2.1 dX1_watch_41 (by decide) ?_
    refine topK (a := 1) (by decide) (fun k_13 hk_13 => ?_)
    refine lv_iadd F.1 F.2.1 dX1_watch_42 ?_
    refine topF (fun z_14 => ?_)
    refine tPut (j := 7) F hK hH hS (tyb ha0 (all1 rfl)) rfl (fdI (i32b _)) clX1 (by decide) wd_35_15 rfl rfl rfl rfl dX1_watch_43 (fun H locs hH hS => ?_)
    refine lv_aload_n F.1 F.2.1 dX1_watch_46 rfl (lv_at hl 0 rfl) ?_
    refine lv_dup F.1 F.2.1 dX1_watch_47 rfl ?_
    refine tGetI (j := 10) F hK hH (tyb ha0 (all1 rfl)) rfl clX1 (by decide) wd_35_18 dX1_watch_48 (fun z_15 hz_15 => ?_)
    refine lv_iconst (v := 1) F.1 F.2.1 dX1_watch_51 (by decide) ?_
    refine topK (a := 1) (by decide) (fun k_16 hk_16 => ?_)
    refine lv_iadd F.1 F.2.1 dX1_watch_52 ?_
    refine topF (fun z_17 => ?_)
    refine tPut (j := 10) F hK hH hS (tyb ha0 (all1 rfl)) rfl (fdI (i32b _)) clX1 (by decide) wd_35_18 rfl rfl rfl rfl dX1_watch_53 (fun H locs hH hS => ?_)
    refine lv_aload_n F.1 F.2.1 dX1_watch_56 rfl (lv_at hl 0 rfl) ?_
    refine lv_aload_n F.1 F.2.1 dX1_watch_57 rfl (lv_at hl 0 rfl) ?_
    refine tGetI (j := 9) F hK hH (tyb ha0 (all1 rfl)) rfl clX1 (by decide) wd_35_17 dX1_watch_58 (fun z_18 hz_18 => ?_)
    refine lv_aload_n F.1 F.2.1 dX1_watch_61 rfl (lv_at hl 0 rfl) ?_
    refine tGetI (j := 10) F hK hH (tyb ha0 (all1 rfl)) rfl clX1 (by decide) wd_35_18 dX1_watch_62 (fun z_19 hz_19 => ?_)
    refine tMax (lo := (-2147483648)) (hi := 2147483647) F wd_36_9 wd_21_10 wd_9_1 wd_21_11 hl.1 (Nat.le_of_ble_eq_true rfl) (Nat.le_of_ble_eq_true rfl) (Nat.le_of_ble_eq_true rfl) (Nat.le_of_ble_eq_true rfl) dX1_watch_65 hz_18 hz_19 rfl (fun z_20 hz_20 => ?_)
    refine tPut (j := 9) F hK hH hS (tyb ha0 (all1 rfl)) rfl (fdI hz_20.2) clX1 (by decide) wd_35_17 rfl rfl rfl rfl dX1_watch_68 (fun H locs hH hS => ?_)
    refine lv_aload_n F.1 F.2.1 dX1_watch_71 rfl (lv_at hl 0 rfl) ?_
    refine tGetI (j := 8) F hK hH (tyb ha0 (all1 rfl)) rfl clX1 (by decide) wd_35_16 dX1_watch_72 (fun z_21 hz_21 => ?_)
    refine z_ge (tgt := 83) F dX1_watch_75 (by decide) (fun c_22 => ?_) (fun c_22 => ?_)
    · skip
      have r_23 : 0 ≤ z_21.toInt ∧ z_21.toInt ≤ 2147483647 := by have h9_ := hz_21; omega
      exact txV F hS dX1_watch_83 (hH)
    · skip
      have r_24 : (-2147483648) ≤ z_21.toInt ∧ z_21.toInt ≤ (-1) := by have h9_ := hz_21; omega
      refine lv_aload_n F.1 F.2.1 dX1_watch_78 rfl (lv_at hl 0 rfl) ?_
      refine lv_iload_n F.1 F.2.1 dX1_watch_79 rfl (lv_at hl 2 rfl) ?_
      refine tPut (j := 8) F hK hH hS (tyb ha0 (all1 rfl)) rfl (fdI (i32b _)) clX1 (by decide) wd_35_16 rfl rfl rfl rfl dX1_watch_80 (fun H locs hH hS => ?_)
      exact txV F hS dX1_watch_83 (hH)
  · skip
    have r_11 : 0 ≤ z_7.toInt ∧ z_7.toInt ≤ 0 := by have h9_ := f_8; omega
    refine lv_aload_n F.1 F.2.1 dX1_watch_30 rfl (lv_at hl 0 rfl) ?_
    refine lv_iconst (v := 0) F.1 F.2.1 dX1_watch_31 (by decide) ?_
    refine topK (a := 0) (by decide) (fun k_25 hk_25 => ?_)
    refine tPut (j := 10) F hK hH hS (tyb ha0 (all1 rfl)) rfl (fdI (wkb (eqb hk_25) rfl rfl)) clX1 (by decide) wd_35_18 rfl rfl rfl rfl dX1_watch_32 (fun H locs hH hS => ?_)
    exact txV F hS dX1_watch_35 (hH)
set_option maxHeartbeats 4000000 in
set_option maxRecDepth 100000 in
theorem c_X1_run (E : Ev) (rc : TD) (rd : TD) (tp : TD) (Fa1 : Int × Int) (Fb1 : Int × Int) (Fa2 : Int × Int) (Fb2 : Int × Int) (Fa3 : Int × Int) (Fb3 : Int × Int) (Fa4 : Int × Int) (Fb4 : Int × Int) (Pd1 : (Nat → Int32) → Prop) (Pd2 : (Nat → Int32) → Prop) (Pd3 : (Nat → Int32) → Prop) (Pd4 : (Nat → Int32) → Prop) (Ps1 : (Nat → Int32) → Prop) (Ps2 : (Nat → Int32) → Prop) (Ps3 : (Nat → Int32) → Prop) (Ps4 : (Nat → Int32) → Prop) (Pi1 : (Nat → Int32) → Prop) (Pi2 : (Nat → Int32) → Prop) (Pi3 : (Nat → Int32) → Prop) (Pi4 : (Nat → Int32) → Prop) (a0 : Nat) (a1 : Int32) (a2 : Int32) (ha0 : eT E a0 ∈ [22]) (ha1 : 1 ≤ a1.toInt ∧ a1.toInt ≤ 360) (hFa1 : 0 ≤ Fa1.1 ∧ Fa1.2 ≤ 12) (hFb1 : 0 ≤ Fb1.1 ∧ Fb1.2 ≤ 14) (hFa2 : 0 ≤ Fa2.1 ∧ Fa2.2 ≤ 12) (hFb2 : 0 ≤ Fb2.1 ∧ Fb2.2 ≤ 14) (hFa3 : 0 ≤ Fa3.1 ∧ Fa3.2 ≤ 12) (hFb3 : 0 ≤ Fb3.1 ∧ Fb3.2 ≤ 14) (hFa4 : 0 ≤ Fa4.1 ∧ Fa4.2 ≤ 12) (hFb4 : 0 ≤ Fb4.1 ∧ Fb4.2 ≤ 14) (hPd1 : ∀ f, Pd1 f → ivP 12 (-2) 11 f) (hPd2 : ∀ f, Pd2 f → ivP 12 (-2) 11 f) (hPd3 : ∀ f, Pd3 f → ivP 12 (-2) 11 f) (hPd4 : ∀ f, Pd4 f → ivP 12 (-2) 11 f) (hPs1 : ∀ f, Ps1 f → ivP 12 (-2147483648) 2147483647 f) (hPs2 : ∀ f, Ps2 f → ivP 12 (-2147483648) 2147483647 f) (hPs3 : ∀ f, Ps3 f → ivP 12 (-2147483648) 2147483647 f) (hPs4 : ∀ f, Ps4 f → ivP 12 (-2147483648) 2147483647 f) (hPi1 : ∀ f, Pi1 f → ivP 48 (-2147483648) 2147483647 f) (hPi2 : ∀ f, Pi2 f → ivP 48 (-2147483648) 2147483647 f) (hPi3 : ∀ f, Pi3 f → ivP 48 (-2147483648) 2147483647 f) (hPi4 : ∀ f, Pi4 f → ivP 48 (-2147483648) 2147483647 f) : TcV E yX1_run cX1_run 5 ({ frames := 5, cells := 0, slots := 0, locals := 139 }) [.ref a0, .int a1, .int a2] (fun H => TH E (tbC (dayD (.inl (0, 18))) (dayD (.inl (0, 18))) (riverD (.inl Fa1) (.inl Fb1) (.inl (0, 4)) 31 33 35 39 43 47) (riverD (.inl Fa2) (.inl Fb2) (.inl (0, 4)) 32 34 36 40 44 48) rc rd tp A14F A14F A4F A4F A14F A14F (riverD (.inl Fa3) (.inl Fb3) (.inl (0, 4)) 3 8 3 41 45 49) (riverD (.inl Fa4) (.inl Fb4) (.inl (0, 4)) 3 8 3 42 46 50) ((.inr (.inl (0, 12, Pd1)))) ((.inr (.inl (0, 12, Pd2)))) ((.inr (.inl (0, 12, Pd3)))) ((.inr (.inl (0, 12, Pd4)))) ((.inr (.inl (0, 12, Ps1)))) ((.inr (.inl (0, 12, Ps2)))) ((.inr (.inl (0, 12, Ps3)))) ((.inr (.inl (0, 12, Ps4)))) ((.inr (.inl (0, 48, Pi1)))) ((.inr (.inl (0, 48, Pi2)))) ((.inr (.inl (0, 48, Pi3)))) ((.inr (.inl (0, 48, Pi4))))) H) (fun H => TH E (tbC (dayD (.inl (0, 18))) (dayD (.inl (0, 18))) (riverD (.inl Fa1) (.inl Fb1) (.inl (0, 4)) 31 33 35 39 43 47) (riverD (.inl Fa2) (.inl Fb2) (.inl (0, 4)) 32 34 36 40 44 48) rc rd tp A14F A14F A4F A4F A14F A14F (riverD (.inl Fa3) (.inl Fb3) (.inl (0, 4)) 3 8 3 41 45 49) (riverD (.inl Fa4) (.inl Fb4) (.inl (0, 4)) 3 8 3 42 46 50) ((.inr (.inl (0, 12, Pd1)))) ((.inr (.inl (0, 12, Pd2)))) ((.inr (.inl (0, 12, Pd3)))) ((.inr (.inl (0, 12, Pd4)))) ((.inr (.inl (0, 12, Ps1)))) ((.inr (.inl (0, 12, Ps2)))) ((.inr (.inl (0, 12, Ps3)))) ((.inr (.inl (0, 12, Ps4)))) ((.inr (.inl (0, 48, Pi1)))) ((.inr (.inl (0, 48, Pi2)))) ((.inr (.inl (0, 48, Pi3)))) ((.inr (.inl (0, 48, Pi4))))) H) := by
  refine teV (by decide) (Nat.le_of_ble_eq_true rfl) ?_
  intro p_ ev_ s mi_ below_ meth cd_ ls F hK hN hO hH hS hl
  have hH : TH E (tbC (dayD (.inl (0, 18))) (dayD (.inl (0, 18))) (riverD (.inl Fa1) (.inl Fb1) (.inl (0, 4)) 31 33 35 39 43 47) (riverD (.inl Fa2) (.inl Fb2) (.inl (0, 4)) 32 34 36 40 44 48) rc rd tp A14F A14F A4F A4F A14F A14F (riverD (.inl Fa3) (.inl Fb3) (.inl (0, 4)) 3 8 3 41 45 49) (riverD (.inl Fa4) (.inl Fb4) (.inl (0, 4)) 3 8 3 42 46 50) ((.inr (.inl (0, 12, Pd1)))) ((.inr (.inl (0, 12, Pd2)))) ((.inr (.inl (0, 12, Pd3)))) ((.inr (.inl (0, 12, Pd4)))) ((.inr (.inl (0, 12, Ps1)))) ((.inr (.inl (0, 12, Ps2)))) ((.inr (.inl (0, 12, Ps3)))) ((.inr (.inl (0, 12, Ps4)))) ((.inr (.inl (0, 48, Pi1)))) ((.inr (.inl (0, 48, Pi2)))) ((.inr (.inl (0, 48, Pi3)))) ((.inr (.inl (0, 48, Pi4))))) s.heap := hH
  have hl : lv_has ls 5 [(0, .ref a0), (1, .int a1), (2, .int a2)] := hl
  refine lv_aload_n F.1 F.2.1 dX1_run_0 rfl (lv_at hl 0 rfl) ?_
  refine tGetR (j := 1) F hK hH (tyb ha0 (all1 rfl)) rfl (all1 rfl) clX1 (by decide) wd_5_11 dX1_run_1 (fun q_1 hq_1 _ => ?_)
  refine lv_aload_n F.1 F.2.1 dX1_run_4 rfl (lv_at hl 0 rfl) ?_
  refine tGetR0 (j := 2) F hK hH (tyb ha0 (all1 rfl)) rfl clX1 (by decide) wd_5_8 dX1_run_5 (fun q_2 hq_2 => ?_)
  refine lv_aload_n F.1 F.2.1 dX1_run_8 rfl (lv_at hl 0 rfl) ?_
  refine tGetR (j := 0) F hK hH (tyb ha0 (all1 rfl)) rfl (all1 rfl) clX1 (by decide) wd_5_6 dX1_run_9 (fun q_3 hq_3 _ => ?_)
  refine tVv (b := q_1) (As := [.ref q_2, .ref q_3]) (rest := []) F hK hN hO (c_X0_open_B E (dayD (.inl (0, 18))) rc rd tp Fa1 Fb1 Fa2 Fb2 Fa3 Fb3 Fa4 Fb4 Pd1 Pd2 Pd3 Pd4 Ps1 Ps2 Ps3 Ps4 Pi1 Pi2 Pi3 Pi4 q_1 q_2 q_3 hq_1 hq_2 hq_3 hFa1 hFb1 hFa2 hFb2 hFa3 hFb3 hFa4 hFb4 hPd1 hPd2 hPd3 hPd4 hPs1 hPs2 hPs3 hPs4 hPi1 hPi2 hPi3 hPi4) mv_X0_open wd_35_9 ⟨Nat.le_of_ble_eq_true rfl, Nat.le_of_ble_eq_true rfl⟩ ⟨Nat.le_of_ble_eq_true rfl, Nat.le_of_ble_eq_true rfl⟩ hH hS (tRecv hK hH (tyb hq_1 (all1 rfl)) clX0) rfl hl.1 (Nat.le_of_ble_eq_true rfl) dX1_run_12 (fun H locs hq hS => ?_)
  have hH := hq
  have hH : TH E (tbC (dayD (.inl (0, 18))) (dayD (.inl (0, 18))) (riverD (.inl Fa1) (.inl Fb1) (.inl (0, 4)) 31 33 35 39 43 47) (riverD (.inl Fa2) (.inl Fb2) (.inl (0, 4)) 32 34 36 40 44 48) rc rd tp A14F A14F A4F A4F A14F A14F (riverD (.inl Fa3) (.inl Fb3) (.inl (0, 4)) 3 8 3 41 45 49) (riverD (.inl Fa4) (.inl Fb4) (.inl (0, 4)) 3 8 3 42 46 50) ((.inr (.inl (0, 12, Pd1)))) ((.inr (.inl (0, 12, Pd2)))) ((.inr (.inl (0, 12, Pd3)))) ((.inr (.inl (0, 12, Pd4)))) ((.inr (.inl (0, 12, Ps1)))) ((.inr (.inl (0, 12, Ps2)))) ((.inr (.inl (0, 12, Ps3)))) ((.inr (.inl (0, 12, Ps4)))) ((.inr (.inl (0, 48, Pi1)))) ((.inr (.inl (0, 48, Pi2)))) ((.inr (.inl (0, 48, Pi3)))) ((.inr (.inl (0, 48, Pi4))))) H := hH
  refine lv_aload_n F.1 F.2.1 dX1_run_15 rfl (lv_at hl 0 rfl) ?_
  refine tVv (b := a0) (As := []) (rest := []) F hK hN hO (c_X1_forget E rc rd tp Fa1 Fb1 Fa2 Fb2 Fa3 Fb3 Fa4 Fb4 Pd1 Pd2 Pd3 Pd4 Ps1 Ps2 Ps3 Ps4 Pi1 Pi2 Pi3 Pi4 a0 ha0 hFa1 hFb1 hFa2 hFb2 hFa3 hFb3 hFa4 hFb4 hPd1 hPd2 hPd3 hPd4 hPs1 hPs2 hPs3 hPs4 hPi1 hPi2 hPi3 hPi4) mv_X1_forget wd_35_10 ⟨Nat.le_of_ble_eq_true rfl, Nat.le_of_ble_eq_true rfl⟩ ⟨Nat.le_of_ble_eq_true rfl, Nat.le_of_ble_eq_true rfl⟩ hH hS (tRecv hK hH (tyb ha0 (all1 rfl)) clX1) rfl hl.1 (Nat.le_of_ble_eq_true rfl) dX1_run_16 (fun H locs hq hS => ?_)
  have hH := hq
  have hH : TH E (tbC (dayD (.inl (0, 18))) (dayD (.inl (0, 18))) (riverD (.inl Fa1) (.inl Fb1) (.inl (0, 4)) 31 33 35 39 43 47) (riverD (.inl Fa2) (.inl Fb2) (.inl (0, 4)) 32 34 36 40 44 48) rc rd tp A14F A14F A4F A4F A14F A14F (riverD (.inl Fa3) (.inl Fb3) (.inl (0, 4)) 3 8 3 41 45 49) (riverD (.inl Fa4) (.inl Fb4) (.inl (0, 4)) 3 8 3 42 46 50) ((.inr (.inl (0, 12, Pd1)))) ((.inr (.inl (0, 12, Pd2)))) ((.inr (.inl (0, 12, Pd3)))) ((.inr (.inl (0, 12, Pd4)))) ((.inr (.inl (0, 12, Ps1)))) ((.inr (.inl (0, 12, Ps2)))) ((.inr (.inl (0, 12, Ps3)))) ((.inr (.inl (0, 12, Ps4)))) ((.inr (.inl (0, 48, Pi1)))) ((.inr (.inl (0, 48, Pi2)))) ((.inr (.inl (0, 48, Pi3)))) ((.inr (.inl (0, 48, Pi4))))) H := hH
  refine lv_iconst (v := 0) F.1 F.2.1 dX1_run_19 (by decide) ?_
  refine topK (a := 0) (by decide) (fun k_6 hk_6 => ?_)
  refine lv_istore_n (lv' := [(3, .int k_6), (0, .ref a0), (1, .int a1), (2, .int a2)]) F.1 F.2.1 dX1_run_20 rfl hl (by decide) rfl (fun ls hl => ?_)
  refine wloop (σ := Int32) (fun n9 x9 H locs ls => (360 - x9.toInt + 1).toNat < n9 ∧ (0 ≤ x9.toInt ∧ x9.toInt ≤ 360) ∧ TH E (tbC (dayD (.inl (0, 18))) (dayD (.inl (0, 18))) (riverD (.inl Fa1) (.inl Fb1) (.inl (0, 4)) 31 33 35 39 43 47) (riverD (.inl Fa2) (.inl Fb2) (.inl (0, 4)) 32 34 36 40 44 48) rc rd tp A14F A14F A4F A4F A14F A14F (riverD (.inl Fa3) (.inl Fb3) (.inl (0, 4)) 3 8 3 41 45 49) (riverD (.inl Fa4) (.inl Fb4) (.inl (0, 4)) 3 8 3 42 46 50) ((.inr (.inl (0, 12, Pd1)))) ((.inr (.inl (0, 12, Pd2)))) ((.inr (.inl (0, 12, Pd3)))) ((.inr (.inl (0, 12, Pd4)))) ((.inr (.inl (0, 12, Ps1)))) ((.inr (.inl (0, 12, Ps2)))) ((.inr (.inl (0, 12, Ps3)))) ((.inr (.inl (0, 12, Ps4)))) ((.inr (.inl (0, 48, Pi1)))) ((.inr (.inl (0, 48, Pi2)))) ((.inr (.inl (0, 48, Pi3)))) ((.inr (.inl (0, 48, Pi4))))) H ∧ va_S (eA E s.heap.size) s.heap H locs ∧ lv_has ls 5 [(0, .ref a0), (1, .int a1), (2, .int a2), (3, .int x9)]) ?_ (fun x9 H locs ls h => absurd h.1 (Nat.not_lt_zero _)) _ (k_6) ⟨Nat.lt_succ_self _, (wkb (eqb hk_6) rfl rfl), hH, hS, lv_sub hl [1, 2, 3, 0] rfl⟩
  intro n_21 ih_21 u_7 H locs ls ⟨hm_21, hu_7, hH, hS, hl⟩
  have hm_21 : (360 - u_7.toInt + 1).toNat < n_21 + 1 := hm_21
  have hu_7 : (0 ≤ u_7.toInt ∧ u_7.toInt ≤ 360) := hu_7
  have hH : TH E (tbC (dayD (.inl (0, 18))) (dayD (.inl (0, 18))) (riverD (.inl Fa1) (.inl Fb1) (.inl (0, 4)) 31 33 35 39 43 47) (riverD (.inl Fa2) (.inl Fb2) (.inl (0, 4)) 32 34 36 40 44 48) rc rd tp A14F A14F A4F A4F A14F A14F (riverD (.inl Fa3) (.inl Fb3) (.inl (0, 4)) 3 8 3 41 45 49) (riverD (.inl Fa4) (.inl Fb4) (.inl (0, 4)) 3 8 3 42 46 50) ((.inr (.inl (0, 12, Pd1)))) ((.inr (.inl (0, 12, Pd2)))) ((.inr (.inl (0, 12, Pd3)))) ((.inr (.inl (0, 12, Pd4)))) ((.inr (.inl (0, 12, Ps1)))) ((.inr (.inl (0, 12, Ps2)))) ((.inr (.inl (0, 12, Ps3)))) ((.inr (.inl (0, 12, Ps4)))) ((.inr (.inl (0, 48, Pi1)))) ((.inr (.inl (0, 48, Pi2)))) ((.inr (.inl (0, 48, Pi3)))) ((.inr (.inl (0, 48, Pi4))))) H := hH
  have hl : lv_has ls 5 [(0, .ref a0), (1, .int a1), (2, .int a2), (3, .int u_7)] := hl
  refine lv_iload_n F.1 F.2.1 dX1_run_21 rfl (lv_at hl 3 rfl) ?_
  refine lv_iload_n F.1 F.2.1 dX1_run_22 rfl (lv_at hl 1 rfl) ?_
  refine b_ge (tgt := 128) F dX1_run_23 (by decide) (fun c_8 => ?_) (fun c_8 => ?_)
  · skip
    have r_9 : 1 ≤ u_7.toInt ∧ u_7.toInt ≤ 360 := by have h9_ := hu_7; omega
    exact txV F hS dX1_run_128 (hH)
  · skip
    have r_10 : 0 ≤ u_7.toInt ∧ u_7.toInt ≤ 359 := by have h9_ := hu_7; omega
    refine lv_aload_n F.1 F.2.1 dX1_run_26 rfl (lv_at hl 0 rfl) ?_
    refine tGetR (j := 1) F hK hH (tyb ha0 (all1 rfl)) rfl (all1 rfl) clX1 (by decide) wd_5_11 dX1_run_27 (fun q_11 hq_11 _ => ?_)
    refine tVv (b := q_11) (As := []) (rest := []) F hK hN hO (c_X0_work E rc rd tp Fa1 Fb1 Fa2 Fb2 Fa3 Fb3 Fa4 Fb4 Pd1 Pd2 Pd3 Pd4 Ps1 Ps2 Ps3 Ps4 Pi1 Pi2 Pi3 Pi4 q_11 (by have h9_ := hq_11; simp at h9_ ⊢; omega) hFa1 hFb1 hFa2 hFb2 hFa3 hFb3 hFa4 hFb4 hPd1 hPd2 hPd3 hPd4 hPs1 hPs2 hPs3 hPs4 hPi1 hPi2 hPi3 hPi4) mv_X0_work wd_35_19 ⟨Nat.le_of_ble_eq_true rfl, Nat.le_of_ble_eq_true rfl⟩ ⟨Nat.le_of_ble_eq_true rfl, Nat.le_of_ble_eq_true rfl⟩ hH hS (tRecv hK hH (tyb hq_11 (all1 rfl)) clX0) rfl hl.1 (Nat.le_of_ble_eq_true rfl) dX1_run_30 (fun H locs hq hS => ?_)
    have hH := hq
    have hH : TH E (tbC (dayD (.inl (0, 18))) (dayD (.inl (0, 18))) (riverD (.inl Fa1) (.inl Fb1) (.inl (0, 4)) 31 33 35 39 43 47) (riverD (.inl Fa2) (.inl Fb2) (.inl (0, 4)) 32 34 36 40 44 48) rc rd tp A14F A14F A4F A4F A14F A14F (riverD (.inl Fa3) (.inl Fb3) (.inl (0, 4)) 3 8 3 41 45 49) (riverD (.inl Fa4) (.inl Fb4) (.inl (0, 4)) 3 8 3 42 46 50) ((.inr (.inl (0, 12, Pd1)))) ((.inr (.inl (0, 12, Pd2)))) ((.inr (.inl (0, 12, Pd3)))) ((.inr (.inl (0, 12, Pd4)))) ((.inr (.inl (0, 12, Ps1)))) ((.inr (.inl (0, 12, Ps2)))) ((.inr (.inl (0, 12, Ps3)))) ((.inr (.inl (0, 12, Ps4)))) ((.inr (.inl (0, 48, Pi1)))) ((.inr (.inl (0, 48, Pi2)))) ((.inr (.inl (0, 48, Pi3)))) ((.inr (.inl (0, 48, Pi4))))) H := hH
    refine lv_iconst (v := 0) F.1 F.2.1 dX1_run_33 (by decide) ?_
    refine topK (a := 0) (by decide) (fun k_13 hk_13 => ?_)
    refine lv_istore (lv' := [(4, .int k_13), (0, .ref a0), (1, .int a1), (2, .int a2), (3, .int u_7)]) F.1 F.2.1 dX1_run_34 hl (by decide) rfl (fun ls hl => ?_)
    refine wloop (σ := Int32) (fun n9 x9 H locs ls => (14 - x9.toInt + 1).toNat < n9 ∧ (0 ≤ x9.toInt ∧ x9.toInt ≤ 14) ∧ TH E (tbC (dayD (.inl (0, 18))) (dayD (.inl (0, 18))) (riverD (.inl Fa1) (.inl Fb1) (.inl (0, 4)) 31 33 35 39 43 47) (riverD (.inl Fa2) (.inl Fb2) (.inl (0, 4)) 32 34 36 40 44 48) rc rd tp A14F A14F A4F A4F A14F A14F (riverD (.inl Fa3) (.inl Fb3) (.inl (0, 4)) 3 8 3 41 45 49) (riverD (.inl Fa4) (.inl Fb4) (.inl (0, 4)) 3 8 3 42 46 50) ((.inr (.inl (0, 12, Pd1)))) ((.inr (.inl (0, 12, Pd2)))) ((.inr (.inl (0, 12, Pd3)))) ((.inr (.inl (0, 12, Pd4)))) ((.inr (.inl (0, 12, Ps1)))) ((.inr (.inl (0, 12, Ps2)))) ((.inr (.inl (0, 12, Ps3)))) ((.inr (.inl (0, 12, Ps4)))) ((.inr (.inl (0, 48, Pi1)))) ((.inr (.inl (0, 48, Pi2)))) ((.inr (.inl (0, 48, Pi3)))) ((.inr (.inl (0, 48, Pi4))))) H ∧ va_S (eA E s.heap.size) s.heap H locs ∧ lv_has ls 5 [(0, .ref a0), (1, .int a1), (2, .int a2), (3, .int u_7), (4, .int x9)]) ?_ (fun x9 H locs ls h => absurd h.1 (Nat.not_lt_zero _)) _ (k_13) ⟨Nat.lt_succ_self _, (wkb (eqb hk_13) rfl rfl), hH, hS, lv_sub hl [1, 2, 3, 4, 0] rfl⟩
    intro n_36 ih_36 u_14 H locs ls ⟨hm_36, hu_14, hH, hS, hl⟩
    have hm_36 : (14 - u_14.toInt + 1).toNat < n_36 + 1 := hm_36
    have hu_14 : (0 ≤ u_14.toInt ∧ u_14.toInt ≤ 14) := hu_14
    have hH : TH E (tbC (dayD (.inl (0, 18))) (dayD (.inl (0, 18))) (riverD (.inl Fa1) (.inl Fb1) (.inl (0, 4)) 31 33 35 39 43 47) (riverD (.inl Fa2) (.inl Fb2) (.inl (0, 4)) 32 34 36 40 44 48) rc rd tp A14F A14F A4F A4F A14F A14F (riverD (.inl Fa3) (.inl Fb3) (.inl (0, 4)) 3 8 3 41 45 49) (riverD (.inl Fa4) (.inl Fb4) (.inl (0, 4)) 3 8 3 42 46 50) ((.inr (.inl (0, 12, Pd1)))) ((.inr (.inl (0, 12, Pd2)))) ((.inr (.inl (0, 12, Pd3)))) ((.inr (.inl (0, 12, Pd4)))) ((.inr (.inl (0, 12, Ps1)))) ((.inr (.inl (0, 12, Ps2)))) ((.inr (.inl (0, 12, Ps3)))) ((.inr (.inl (0, 12, Ps4)))) ((.inr (.inl (0, 48, Pi1)))) ((.inr (.inl (0, 48, Pi2)))) ((.inr (.inl (0, 48, Pi3)))) ((.inr (.inl (0, 48, Pi4))))) H := hH
    have hl : lv_has ls 5 [(0, .ref a0), (1, .int a1), (2, .int a2), (3, .int u_7), (4, .int u_14)] := hl
    refine lv_iload F.1 F.2.1 dX1_run_36 (lv_at hl 4 rfl) ?_
    refine lv_aload_n F.1 F.2.1 dX1_run_38 rfl (lv_at hl 0 rfl) ?_
    refine tGetR0 (j := 2) F hK hH (tyb ha0 (all1 rfl)) rfl clX1 (by decide) wd_5_8 dX1_run_39 (fun q_15 hq_15 => ?_)
    refine tGetIB (j := 4) (lo := 0) (hi := 14) F hK hH hq_15 (alls ⟨_, _, rfl, rfl, by have h9_ := hFb1; omega⟩ (alls1 ⟨_, _, rfl, rfl, by have h9_ := hFb2; omega⟩)) clX2 (by decide) wd_35_6 dX1_run_42 (fun z_16 hz_16 => ?_)
    refine b_ge (tgt := 74) F dX1_run_45 (by decide) (fun c_17 => ?_) (fun c_17 => ?_)
    · skip
      refine lv_aload_n F.1 F.2.1 dX1_run_74 rfl (lv_at hl 0 rfl) ?_
      refine tGetR (j := 1) F hK hH (tyb ha0 (all1 rfl)) rfl (all1 rfl) clX1 (by decide) wd_5_11 dX1_run_75 (fun q_20 hq_20 _ => ?_)
      refine tVi (b := q_20) (As := []) (rest := []) F hK hN hO (c_X0_someCalls E rc rd tp Fa1 Fb1 Fa2 Fb2 Fa3 Fb3 Fa4 Fb4 Pd1 Pd2 Pd3 Pd4 Ps1 Ps2 Ps3 Ps4 Pi1 Pi2 Pi3 Pi4 q_20 (by have h9_ := hq_20; simp at h9_ ⊢; omega) hFa1 hFb1 hFa2 hFb2 hFa3 hFb3 hFa4 hFb4 hPd1 hPd2 hPd3 hPd4 hPs1 hPs2 hPs3 hPs4 hPi1 hPi2 hPi3 hPi4) mv_X0_someCalls wd_35_20 ⟨Nat.le_of_ble_eq_true rfl, Nat.le_of_ble_eq_true rfl⟩ ⟨Nat.le_of_ble_eq_true rfl, Nat.le_of_ble_eq_true rfl⟩ hH hS (tRecv hK hH (tyb hq_20 (all1 rfl)) clX0) rfl hl.1 (Nat.le_of_ble_eq_true rfl) dX1_run_78 (fun z_21 H locs hq hS => ?_)
      obtain ⟨f_22, hH⟩ := hq
      have hH : TH E (tbC (dayD (.inl (0, 18))) (dayD (.inl (0, 18))) (riverD (.inl Fa1) (.inl Fb1) (.inl (0, 4)) 31 33 35 39 43 47) (riverD (.inl Fa2) (.inl Fb2) (.inl (0, 4)) 32 34 36 40 44 48) rc rd tp A14F A14F A4F A4F A14F A14F (riverD (.inl Fa3) (.inl Fb3) (.inl (0, 4)) 3 8 3 41 45 49) (riverD (.inl Fa4) (.inl Fb4) (.inl (0, 4)) 3 8 3 42 46 50) ((.inr (.inl (0, 12, Pd1)))) ((.inr (.inl (0, 12, Pd2)))) ((.inr (.inl (0, 12, Pd3)))) ((.inr (.inl (0, 12, Pd4)))) ((.inr (.inl (0, 12, Ps1)))) ((.inr (.inl (0, 12, Ps2)))) ((.inr (.inl (0, 12, Ps3)))) ((.inr (.inl (0, 12, Ps4)))) ((.inr (.inl (0, 48, Pi1)))) ((.inr (.inl (0, 48, Pi2)))) ((.inr (.inl (0, 48, Pi3)))) ((.inr (.inl (0, 48, Pi4))))) H := hH
      refine wjoin (σ := Unit) (pcj := 94) (stj := fun x9 => []) (fun x9 H locs ls => TH E (tbC (dayD (.inl (0, 18))) (dayD (.inl (0, 18))) (riverD (.inl Fa1) (.inl Fb1) (.inl (0, 4)) 31 33 35 39 43 47) (riverD (.inl Fa2) (.inl Fb2) (.inl (0, 4)) 32 34 36 40 44 48) rc rd tp A14F A14F A4F A4F A14F A14F (riverD (.inl Fa3) (.inl Fb3) (.inl (0, 4)) 3 8 3 41 45 49) (riverD (.inl Fa4) (.inl Fb4) (.inl (0, 4)) 3 8 3 42 46 50) ((.inr (.inl (0, 12, Pd1)))) ((.inr (.inl (0, 12, Pd2)))) ((.inr (.inl (0, 12, Pd3)))) ((.inr (.inl (0, 12, Pd4)))) ((.inr (.inl (0, 12, Ps1)))) ((.inr (.inl (0, 12, Ps2)))) ((.inr (.inl (0, 12, Ps3)))) ((.inr (.inl (0, 12, Ps4)))) ((.inr (.inl (0, 48, Pi1)))) ((.inr (.inl (0, 48, Pi2)))) ((.inr (.inl (0, 48, Pi3)))) ((.inr (.inl (0, 48, Pi4))))) H ∧ va_S (eA E s.heap.size) s.heap H locs ∧ lv_has ls 5 [(0, .ref a0), (1, .int a1), (2, .int a2), (3, .int u_7)]) (fun x9 H locs ls h_ => ?_) (fun J_94 => ?_)
      · skip
        obtain ⟨hH, hS, hl⟩ := h_
        have hH : TH E (tbC (dayD (.inl (0, 18))) (dayD (.inl (0, 18))) (riverD (.inl Fa1) (.inl Fb1) (.inl (0, 4)) 31 33 35 39 43 47) (riverD (.inl Fa2) (.inl Fb2) (.inl (0, 4)) 32 34 36 40 44 48) rc rd tp A14F A14F A4F A4F A14F A14F (riverD (.inl Fa3) (.inl Fb3) (.inl (0, 4)) 3 8 3 41 45 49) (riverD (.inl Fa4) (.inl Fb4) (.inl (0, 4)) 3 8 3 42 46 50) ((.inr (.inl (0, 12, Pd1)))) ((.inr (.inl (0, 12, Pd2)))) ((.inr (.inl (0, 12, Pd3)))) ((.inr (.inl (0, 12, Pd4)))) ((.inr (.inl (0, 12, Ps1)))) ((.inr (.inl (0, 12, Ps2)))) ((.inr (.inl (0, 12, Ps3)))) ((.inr (.inl (0, 12, Ps4)))) ((.inr (.inl (0, 48, Pi1)))) ((.inr (.inl (0, 48, Pi2)))) ((.inr (.inl (0, 48, Pi3)))) ((.inr (.inl (0, 48, Pi4))))) H := hH
        have hl : lv_has ls 5 [(0, .ref a0), (1, .int a1), (2, .int a2), (3, .int u_7)] := hl
        show W _ _ _ _ _ _ _ _ _ _ _ _ _ _ _ (F0 _ _ _ [])
        refine lv_iload_n F.1 F.2.1 dX1_run_94 rfl (lv_at hl 2 rfl) ?_
        refine z_lt (tgt := 115) F dX1_run_95 (by decide) (fun c_23 => ?_) (fun c_23 => ?_)
        · skip
          have r_24 : (-2147483648) ≤ a2.toInt ∧ a2.toInt ≤ (-1) := by have h9_ := (i32b a2); omega
          refine lv_aload_n F.1 F.2.1 dX1_run_115 rfl (lv_at hl 0 rfl) ?_
          refine tGetR (j := 1) F hK hH (tyb ha0 (all1 rfl)) rfl (all1 rfl) clX1 (by decide) wd_5_11 dX1_run_116 (fun q_26 hq_26 _ => ?_)
          refine tVv (b := q_26) (As := []) (rest := []) F hK hN hO (c_X0_pass E rc rd tp Fa1 Fb1 Fa2 Fb2 Fa3 Fb3 Fa4 Fb4 Pd1 Pd2 Pd3 Pd4 Ps1 Ps2 Ps3 Ps4 Pi1 Pi2 Pi3 Pi4 q_26 (by have h9_ := hq_26; simp at h9_ ⊢; omega) hFa1 hFb1 hFa2 hFb2 hFa3 hFb3 hFa4 hFb4 hPd1 hPd2 hPd3 hPd4 hPs1 hPs2 hPs3 hPs4 hPi1 hPi2 hPi3 hPi4) mv_X0_pass wd_36_12 ⟨Nat.le_of_ble_eq_true rfl, Nat.le_of_ble_eq_true rfl⟩ ⟨Nat.le_of_ble_eq_true rfl, Nat.le_of_ble_eq_true rfl⟩ hH hS (tRecv hK hH (tyb hq_26 (all1 rfl)) clX0) rfl hl.1 (Nat.le_of_ble_eq_true rfl) dX1_run_119 (fun H locs hq hS => ?_)
          have hH := hq
          have hH : TH E (tbC (dayD (.inl (0, 18))) (dayD (.inl (0, 18))) (riverD (.inl Fa1) (.inl Fb1) (.inl (0, 4)) 31 33 35 39 43 47) (riverD (.inl Fa2) (.inl Fb2) (.inl (0, 4)) 32 34 36 40 44 48) rc rd tp A14F A14F A4F A4F A14F A14F (riverD (.inl Fa3) (.inl Fb3) (.inl (0, 4)) 3 8 3 41 45 49) (riverD (.inl Fa4) (.inl Fb4) (.inl (0, 4)) 3 8 3 42 46 50) ((.inr (.inl (0, 12, Pd1)))) ((.inr (.inl (0, 12, Pd2)))) ((.inr (.inl (0, 12, Pd3)))) ((.inr (.inl (0, 12, Pd4)))) ((.inr (.inl (0, 12, Ps1)))) ((.inr (.inl (0, 12, Ps2)))) ((.inr (.inl (0, 12, Ps3)))) ((.inr (.inl (0, 12, Ps4)))) ((.inr (.inl (0, 48, Pi1)))) ((.inr (.inl (0, 48, Pi2)))) ((.inr (.inl (0, 48, Pi3)))) ((.inr (.inl (0, 48, Pi4))))) H := hH
          obtain ⟨x_28, ex_28, hx_28⟩ := iincB (c := 1) (lo := 1) (hi := 360) r_10 rfl
          refine lv_iinc (v := x_28) (lv' := [(3, .int x_28), (0, .ref a0), (1, .int a1), (2, .int a2)]) F.1 F.2.1 dX1_run_122 hl (k := 3) rfl ex_28 (by decide) rfl (fun ls hl => ?_)
          refine lv_goto (tgt := 21) F.1 F.2.1 dX1_run_125 (by decide) ?_
          exact ih_21 (x_28) _ _ _ ⟨(show (360 - x_28.toInt + 1).toNat < n_21 from by omega), (wkb hx_28.2 rfl rfl), hH, hS, lv_sub hl [1, 2, 3, 0] rfl⟩
        · skip
          have r_25 : 0 ≤ a2.toInt ∧ a2.toInt ≤ 2147483647 := by have h9_ := (i32b a2); omega
          refine lv_iload_n F.1 F.2.1 dX1_run_98 rfl (lv_at hl 2 rfl) ?_
          refine lv_aload_n F.1 F.2.1 dX1_run_99 rfl (lv_at hl 0 rfl) ?_
          refine tGetR0 (j := 2) F hK hH (tyb ha0 (all1 rfl)) rfl clX1 (by decide) wd_5_8 dX1_run_100 (fun q_29 hq_29 => ?_)
          refine tGetIB (j := 4) (lo := 0) (hi := 14) F hK hH hq_29 (alls ⟨_, _, rfl, rfl, by have h9_ := hFb1; omega⟩ (alls1 ⟨_, _, rfl, rfl, by have h9_ := hFb2; omega⟩)) clX2 (by decide) wd_35_6 dX1_run_103 (fun z_30 hz_30 => ?_)
          refine b_ge (tgt := 115) F dX1_run_106 (by decide) (fun c_31 => ?_) (fun c_31 => ?_)
          · skip
            refine lv_aload_n F.1 F.2.1 dX1_run_115 rfl (lv_at hl 0 rfl) ?_
            refine tGetR (j := 1) F hK hH (tyb ha0 (all1 rfl)) rfl (all1 rfl) clX1 (by decide) wd_5_11 dX1_run_116 (fun q_34 hq_34 _ => ?_)
            refine tVv (b := q_34) (As := []) (rest := []) F hK hN hO (c_X0_pass E rc rd tp Fa1 Fb1 Fa2 Fb2 Fa3 Fb3 Fa4 Fb4 Pd1 Pd2 Pd3 Pd4 Ps1 Ps2 Ps3 Ps4 Pi1 Pi2 Pi3 Pi4 q_34 (by have h9_ := hq_34; simp at h9_ ⊢; omega) hFa1 hFb1 hFa2 hFb2 hFa3 hFb3 hFa4 hFb4 hPd1 hPd2 hPd3 hPd4 hPs1 hPs2 hPs3 hPs4 hPi1 hPi2 hPi3 hPi4) mv_X0_pass wd_36_12 ⟨Nat.le_of_ble_eq_true rfl, Nat.le_of_ble_eq_true rfl⟩ ⟨Nat.le_of_ble_eq_true rfl, Nat.le_of_ble_eq_true rfl⟩ hH hS (tRecv hK hH (tyb hq_34 (all1 rfl)) clX0) rfl hl.1 (Nat.le_of_ble_eq_true rfl) dX1_run_119 (fun H locs hq hS => ?_)
            have hH := hq
            have hH : TH E (tbC (dayD (.inl (0, 18))) (dayD (.inl (0, 18))) (riverD (.inl Fa1) (.inl Fb1) (.inl (0, 4)) 31 33 35 39 43 47) (riverD (.inl Fa2) (.inl Fb2) (.inl (0, 4)) 32 34 36 40 44 48) rc rd tp A14F A14F A4F A4F A14F A14F (riverD (.inl Fa3) (.inl Fb3) (.inl (0, 4)) 3 8 3 41 45 49) (riverD (.inl Fa4) (.inl Fb4) (.inl (0, 4)) 3 8 3 42 46 50) ((.inr (.inl (0, 12, Pd1)))) ((.inr (.inl (0, 12, Pd2)))) ((.inr (.inl (0, 12, Pd3)))) ((.inr (.inl (0, 12, Pd4)))) ((.inr (.inl (0, 12, Ps1)))) ((.inr (.inl (0, 12, Ps2)))) ((.inr (.inl (0, 12, Ps3)))) ((.inr (.inl (0, 12, Ps4)))) ((.inr (.inl (0, 48, Pi1)))) ((.inr (.inl (0, 48, Pi2)))) ((.inr (.inl (0, 48, Pi3)))) ((.inr (.inl (0, 48, Pi4))))) H := hH
            obtain ⟨x_36, ex_36, hx_36⟩ := iincB (c := 1) (lo := 1) (hi := 360) r_10 rfl
            refine lv_iinc (v := x_36) (lv' := [(3, .int x_36), (0, .ref a0), (1, .int a1), (2, .int a2)]) F.1 F.2.1 dX1_run_122 hl (k := 3) rfl ex_36 (by decide) rfl (fun ls hl => ?_)
            refine lv_goto (tgt := 21) F.1 F.2.1 dX1_run_125 (by decide) ?_
            exact ih_21 (x_36) _ _ _ ⟨(show (360 - x_36.toInt + 1).toNat < n_21 from by omega), (wkb hx_36.2 rfl rfl), hH, hS, lv_sub hl [1, 2, 3, 0] rfl⟩
          · skip
            have r_32 : 0 ≤ a2.toInt ∧ a2.toInt ≤ 13 := by have h9_ := r_25; omega
            have r_33 : 1 ≤ z_30.toInt ∧ z_30.toInt ≤ 14 := by have h9_ := hz_30; omega
            refine lv_aload_n F.1 F.2.1 dX1_run_109 rfl (lv_at hl 0 rfl) ?_
            refine lv_iload_n F.1 F.2.1 dX1_run_110 rfl (lv_at hl 2 rfl) ?_
            refine lv_iload_n F.1 F.2.1 dX1_run_111 rfl (lv_at hl 3 rfl) ?_
            refine tVv (b := a0) (As := [.int a2, .int u_7]) (rest := []) F hK hN hO (c_X1_watch E rc rd tp Fa1 Fb1 Fa2 Fb2 Fa3 Fb3 Fa4 Fb4 Pd1 Pd2 Pd3 Pd4 Ps1 Ps2 Ps3 Ps4 Pi1 Pi2 Pi3 Pi4 a0 a2 u_7 ha0 r_32 hFa1 hFb1 hFa2 hFb2 hFa3 hFb3 hFa4 hFb4 hPd1 hPd2 hPd3 hPd4 hPs1 hPs2 hPs3 hPs4 hPi1 hPi2 hPi3 hPi4) mv_X1_watch wd_36_4 ⟨Nat.le_of_ble_eq_true rfl, Nat.le_of_ble_eq_true rfl⟩ ⟨Nat.le_of_ble_eq_true rfl, Nat.le_of_ble_eq_true rfl⟩ hH hS (tRecv hK hH (tyb ha0 (all1 rfl)) clX1) rfl hl.1 (Nat.le_of_ble_eq_true rfl) dX1_run_112 (fun H locs hq hS => ?_)
            have hH := hq
            have hH : TH E (tbC (dayD (.inl (0, 18))) (dayD (.inl (0, 18))) (riverD (.inl Fa1) (.inl Fb1) (.inl (0, 4)) 31 33 35 39 43 47) (riverD (.inl Fa2) (.inl Fb2) (.inl (0, 4)) 32 34 36 40 44 48) rc rd tp A14F A14F A4F A4F A14F A14F (riverD (.inl Fa3) (.inl Fb3) (.inl (0, 4)) 3 8 3 41 45 49) (riverD (.inl Fa4) (.inl Fb4) (.inl (0, 4)) 3 8 3 42 46 50) ((.inr (.inl (0, 12, Pd1)))) ((.inr (.inl (0, 12, Pd2)))) ((.inr (.inl (0, 12, Pd3)))) ((.inr (.inl (0, 12, Pd4)))) ((.inr (.inl (0, 12, Ps1)))) ((.inr (.inl (0, 12, Ps2)))) ((.inr (.inl (0, 12, Ps3)))) ((.inr (.inl (0, 12, Ps4)))) ((.inr (.inl (0, 48, Pi1)))) ((.inr (.inl (0, 48, Pi2)))) ((.inr (.inl (0, 48, Pi3)))) ((.inr (.inl (0, 48, Pi4))))) H := hH
            refine lv_aload_n F.1 F.2.1 dX1_run_115 rfl (lv_at hl 0 rfl) ?_
            refine tGetR (j := 1) F hK hH (tyb ha0 (all1 rfl)) rfl (all1 rfl) clX1 (by decide) wd_5_11 dX1_run_116 (fun q_38 hq_38 _ => ?_)
            refine tVv (b := q_38) (As := []) (rest := []) F hK hN hO (c_X0_pass E rc rd tp Fa1 Fb1 Fa2 Fb2 Fa3 Fb3 Fa4 Fb4 Pd1 Pd2 Pd3 Pd4 Ps1 Ps2 Ps3 Ps4 Pi1 Pi2 Pi3 Pi4 q_38 (by have h9_ := hq_38; simp at h9_ ⊢; omega) hFa1 hFb1 hFa2 hFb2 hFa3 hFb3 hFa4 hFb4 hPd1 hPd2 hPd3 hPd4 hPs1 hPs2 hPs3 hPs4 hPi1 hPi2 hPi3 hPi4) mv_X0_pass wd_36_12 ⟨Nat.le_of_ble_eq_true rfl, Nat.le_of_ble_eq_true rfl⟩ ⟨Nat.le_of_ble_eq_true rfl, Nat.le_of_ble_eq_true rfl⟩ hH hS (tRecv hK hH (tyb hq_38 (all1 rfl)) clX0) rfl hl.1 (Nat.le_of_ble_eq_true rfl) dX1_run_119 (fun H locs hq hS => ?_)
            have hH := hq
            have hH : TH E (tbC (dayD (.inl (0, 18))) (dayD (.inl (0, 18))) (riverD (.inl Fa1) (.inl Fb1) (.inl (0, 4)) 31 33 35 39 43 47) (riverD (.inl Fa2) (.inl Fb2) (.inl (0, 4)) 32 34 36 40 44 48) rc rd tp A14F A14F A4F A4F A14F A14F (riverD (.inl Fa3) (.inl Fb3) (.inl (0, 4)) 3 8 3 41 45 49) (riverD (.inl Fa4) (.inl Fb4) (.inl (0, 4)) 3 8 3 42 46 50) ((.inr (.inl (0, 12, Pd1)))) ((.inr (.inl (0, 12, Pd2)))) ((.inr (.inl (0, 12, Pd3)))) ((.inr (.inl (0, 12, Pd4)))) ((.inr (.inl (0, 12, Ps1)))) ((.inr (.inl (0, 12, Ps2)))) ((.inr (.inl (0, 12, Ps3)))) ((.inr (.inl (0, 12, Ps4)))) ((.inr (.inl (0, 48, Pi1)))) ((.inr (.inl (0, 48, Pi2)))) ((.inr (.inl (0, 48, Pi3)))) ((.inr (.inl (0, 48, Pi4))))) H := hH
            obtain ⟨x_40, ex_40, hx_40⟩ := iincB (c := 1) (lo := 1) (hi := 360) r_10 rfl
            refine lv_iinc (v := x_40) (lv' := [(3, .int x_40), (0, .ref a0), (1, .int a1), (2, .int a2)]) F.1 F.2.1 dX1_run_122 hl (k := 3) rfl ex_40 (by decide) rfl (fun ls hl => ?_)
            refine lv_goto (tgt := 21) F.1 F.2.1 dX1_run_125 (by decide) ?_
            exact ih_21 (x_40) _ _ _ ⟨(show (360 - x_40.toInt + 1).toNat < n_21 from by omega), (wkb hx_40.2 rfl rfl), hH, hS, lv_sub hl [1, 2, 3, 0] rfl⟩
      refine z_eq (tgt := 94) F dX1_run_81 (by decide) (fun c_41 => ?_) (fun c_41 => ?_)
      · skip
        have r_42 : 0 ≤ z_21.toInt ∧ z_21.toInt ≤ 0 := by have h9_ := f_22; omega
        exact J_94 () _ _ _ ⟨hH, hS, lv_sub hl [0, 1, 2, 3] rfl⟩
      · skip
        have r_43 : 1 ≤ z_21.toInt ∧ z_21.toInt ≤ 1 := by have h9_ := f_22; omega
        refine lv_aload_n F.1 F.2.1 dX1_run_84 rfl (lv_at hl 0 rfl) ?_
        refine lv_dup F.1 F.2.1 dX1_run_85 rfl ?_
        refine tGetI (j := 5) F hK hH (tyb ha0 (all1 rfl)) rfl clX1 (by decide) wd_35_8 dX1_run_86 (fun z_44 hz_44 => ?_)
        refine lv_iconst (v := 1) F.1 F.2.1 dX1_run_89 (by decide) ?_
        refine topK (a := 1) (by decide) (fun k_45 hk_45 => ?_)
        refine lv_iadd F.1 F.2.1 dX1_run_90 ?_
        refine topF (fun z_46 => ?_)
        refine tPut (j := 5) F hK hH hS (tyb ha0 (all1 rfl)) rfl (fdI (i32b _)) clX1 (by decide) wd_35_8 rfl rfl rfl rfl dX1_run_91 (fun H locs hH hS => ?_)
        exact J_94 () _ _ _ ⟨hH, hS, lv_sub hl [0, 1, 2, 3] rfl⟩
    · skip
      have r_18 : 0 ≤ u_14.toInt ∧ u_14.toInt ≤ 13 := by have h9_ := hu_14; omega
      have r_19 : 1 ≤ z_16.toInt ∧ z_16.toInt ≤ 14 := by have h9_ := hz_16; omega
      refine lv_aload_n F.1 F.2.1 dX1_run_48 rfl (lv_at hl 0 rfl) ?_
      refine tGetR (j := 4) F hK hH (tyb ha0 (all1 rfl)) rfl (all1 rfl) clX1 (by decide) wd_5_7 dX1_run_49 (fun q_47 hq_47 _ => ?_)
      refine lv_iload F.1 F.2.1 dX1_run_52 (lv_at hl 4 rfl) ?_
      refine lv_dup2_11 F.1 F.2.1 dX1_run_54 rfl rfl ?_
      refine tIaldB F hK hH (tyb hq_47 (all1 rfl)) (ixb (n := 14) r_18 rfl rfl) dX1_run_55 (fun z_48 hz_48 => ?_)
      refine lv_aload_n F.1 F.2.1 dX1_run_56 rfl (lv_at hl 0 rfl) ?_
      refine tGetR (j := 1) F hK hH (tyb ha0 (all1 rfl)) rfl (all1 rfl) clX1 (by decide) wd_5_11 dX1_run_57 (fun q_49 hq_49 _ => ?_)
      refine tGetR (j := 7) F hK hH (tyb hq_49 (all1 rfl)) rfl (all1 rfl) clX0 (by decide) wd_35_7 dX1_run_60 (fun q_50 hq_50 _ => ?_)
      refine lv_iload F.1 F.2.1 dX1_run_63 (lv_at hl 4 rfl) ?_
      refine tIaldB F hK hH (tyb hq_50 (all1 rfl)) (ixb (n := 18) r_18 rfl rfl) dX1_run_65 (fun z_51 hz_51 => ?_)
      refine lv_iadd F.1 F.2.1 dX1_run_66 ?_
      refine topF (fun z_52 => ?_)
      refine tIastB F hK hH hS (tyb hq_47 (all1 rfl)) (ixb (n := 14) r_18 rfl rfl) (i32b _) dX1_run_67 (fun H locs hH hS => ?_)
      obtain ⟨x_53, ex_53, hx_53⟩ := iincB (c := 1) (lo := 1) (hi := 14) r_18 rfl
      refine lv_iinc (v := x_53) (lv' := [(4, .int x_53), (0, .ref a0), (1, .int a1), (2, .int a2), (3, .int u_7)]) F.1 F.2.1 dX1_run_68 hl (k := 4) rfl ex_53 (by decide) rfl (fun ls hl => ?_)
      refine lv_goto (tgt := 36) F.1 F.2.1 dX1_run_71 (by decide) ?_
      exact ih_36 (x_53) _ _ _ ⟨(show (14 - x_53.toInt + 1).toNat < n_36 from by omega), (wkb hx_53.2 rfl rfl), hH, hS, lv_sub hl [1, 2, 3, 4, 0] rfl⟩
set_option maxHeartbeats 4000000 in
set_option maxRecDepth 100000 in
theorem c_X1_tookOf (E : Ev) (rc : TD) (rd : TD) (tp : TD) (Fa1 : Int × Int) (Fb1 : Int × Int) (Fa2 : Int × Int) (Fb2 : Int × Int) (Fa3 : Int × Int) (Fb3 : Int × Int) (Fa4 : Int × Int) (Fb4 : Int × Int) (Pd1 : (Nat → Int32) → Prop) (Pd2 : (Nat → Int32) → Prop) (Pd3 : (Nat → Int32) → Prop) (Pd4 : (Nat → Int32) → Prop) (Ps1 : (Nat → Int32) → Prop) (Ps2 : (Nat → Int32) → Prop) (Ps3 : (Nat → Int32) → Prop) (Ps4 : (Nat → Int32) → Prop) (Pi1 : (Nat → Int32) → Prop) (Pi2 : (Nat → Int32) → Prop) (Pi3 : (Nat → Int32) → Prop) (Pi4 : (Nat → Int32) → Prop) (a0 : Nat) (a1 : Int32) (ha0 : eT E a0 ∈ [22]) (ha1 : 0 ≤ a1.toInt ∧ a1.toInt ≤ 13) (hFa1 : 0 ≤ Fa1.1 ∧ Fa1.2 ≤ 12) (hFb1 : 0 ≤ Fb1.1 ∧ Fb1.2 ≤ 14) (hFa2 : 0 ≤ Fa2.1 ∧ Fa2.2 ≤ 12) (hFb2 : 0 ≤ Fb2.1 ∧ Fb2.2 ≤ 14) (hFa3 : 0 ≤ Fa3.1 ∧ Fa3.2 ≤ 12) (hFb3 : 0 ≤ Fb3.1 ∧ Fb3.2 ≤ 14) (hFa4 : 0 ≤ Fa4.1 ∧ Fa4.2 ≤ 12) (hFb4 : 0 ≤ Fb4.1 ∧ Fb4.2 ≤ 14) (hPd1 : ∀ f, Pd1 f → ivP 12 (-2) 11 f) (hPd2 : ∀ f, Pd2 f → ivP 12 (-2) 11 f) (hPd3 : ∀ f, Pd3 f → ivP 12 (-2) 11 f) (hPd4 : ∀ f, Pd4 f → ivP 12 (-2) 11 f) (hPs1 : ∀ f, Ps1 f → ivP 12 (-2147483648) 2147483647 f) (hPs2 : ∀ f, Ps2 f → ivP 12 (-2147483648) 2147483647 f) (hPs3 : ∀ f, Ps3 f → ivP 12 (-2147483648) 2147483647 f) (hPs4 : ∀ f, Ps4 f → ivP 12 (-2147483648) 2147483647 f) (hPi1 : ∀ f, Pi1 f → ivP 48 (-2147483648) 2147483647 f) (hPi2 : ∀ f, Pi2 f → ivP 48 (-2147483648) 2147483647 f) (hPi3 : ∀ f, Pi3 f → ivP 48 (-2147483648) 2147483647 f) (hPi4 : ∀ f, Pi4 f → ivP 48 (-2147483648) 2147483647 f) : TcI E yX1_tookOf cX1_tookOf 2 .int ({ frames := 1, cells := 0, slots := 0, locals := 40 }) [.ref a0, .int a1] (fun H => TH E (tbC (dayD (.inl (0, 18))) (dayD (.inl (0, 18))) (riverD (.inl Fa1) (.inl Fb1) (.inl (0, 4)) 31 33 35 39 43 47) (riverD (.inl Fa2) (.inl Fb2) (.inl (0, 4)) 32 34 36 40 44 48) rc rd tp A14F A14F A4F A4F A14F A14F (riverD (.inl Fa3) (.inl Fb3) (.inl (0, 4)) 3 8 3 41 45 49) (riverD (.inl Fa4) (.inl Fb4) (.inl (0, 4)) 3 8 3 42 46 50) ((.inr (.inl (0, 12, Pd1)))) ((.inr (.inl (0, 12, Pd2)))) ((.inr (.inl (0, 12, Pd3)))) ((.inr (.inl (0, 12, Pd4)))) ((.inr (.inl (0, 12, Ps1)))) ((.inr (.inl (0, 12, Ps2)))) ((.inr (.inl (0, 12, Ps3)))) ((.inr (.inl (0, 12, Ps4)))) ((.inr (.inl (0, 48, Pi1)))) ((.inr (.inl (0, 48, Pi2)))) ((.inr (.inl (0, 48, Pi3)))) ((.inr (.inl (0, 48, Pi4))))) H) (fun v H => ((-2147483648) ≤ v.toInt ∧ v.toInt ≤ 2147483647) ∧ TH E (tbC (dayD (.inl (0, 18))) (dayD (.inl (0, 18))) (riverD (.inl Fa1) (.inl Fb1) (.inl (0, 4)) 31 33 35 39 43 47) (riverD (.inl Fa2) (.inl Fb2) (.inl (0, 4)) 32 34 36 40 44 48) rc rd tp A14F A14F A4F A4F A14F A14F (riverD (.inl Fa3) (.inl Fb3) (.inl (0, 4)) 3 8 3 41 45 49) (riverD (.inl Fa4) (.inl Fb4) (.inl (0, 4)) 3 8 3 42 46 50) ((.inr (.inl (0, 12, Pd1)))) ((.inr (.inl (0, 12, Pd2)))) ((.inr (.inl (0, 12, Pd3)))) ((.inr (.inl (0, 12, Pd4)))) ((.inr (.inl (0, 12, Ps1)))) ((.inr (.inl (0, 12, Ps2)))) ((.inr (.inl (0, 12, Ps3)))) ((.inr (.inl (0, 12, Ps4)))) ((.inr (.inl (0, 48, Pi1)))) ((.inr (.inl (0, 48, Pi2)))) ((.inr (.inl (0, 48, Pi3)))) ((.inr (.inl (0, 48, Pi4))))) H) := by
  refine teI (by decide) (Nat.le_of_ble_eq_true rfl) ?_
  intro p_ ev_ s mi_ below_ meth cd_ ls F hK hN hO hH hS hl
  have hH : TH E (tbC (dayD (.inl (0, 18))) (dayD (.inl (0, 18))) (riverD (.inl Fa1) (.inl Fb1) (.inl (0, 4)) 31 33 35 39 43 47) (riverD (.inl Fa2) (.inl Fb2) (.inl (0, 4)) 32 34 36 40 44 48) rc rd tp A14F A14F A4F A4F A14F A14F (riverD (.inl Fa3) (.inl Fb3) (.inl (0, 4)) 3 8 3 41 45 49) (riverD (.inl Fa4) (.inl Fb4) (.inl (0, 4)) 3 8 3 42 46 50) ((.inr (.inl (0, 12, Pd1)))) ((.inr (.inl (0, 12, Pd2)))) ((.inr (.inl (0, 12, Pd3)))) ((.inr (.inl (0, 12, Pd4)))) ((.inr (.inl (0, 12, Ps1)))) ((.inr (.inl (0, 12, Ps2)))) ((.inr (.inl (0, 12, Ps3)))) ((.inr (.inl (0, 12, Ps4)))) ((.inr (.inl (0, 48, Pi1)))) ((.inr (.inl (0, 48, Pi2)))) ((.inr (.inl (0, 48, Pi3)))) ((.inr (.inl (0, 48, Pi4))))) s.heap := hH
  have hl : lv_has ls 2 [(0, .ref a0), (1, .int a1)] := hl
  refine lv_aload_n F.1 F.2.1 dX1_tookOf_0 rfl (lv_at hl 0 rfl) ?_
  refine tGetR (j := 0) F hK hH (tyb ha0 (all1 rfl)) rfl (all1 rfl) clX1 (by decide) wd_5_6 dX1_tookOf_1 (fun q_1 hq_1 _ => ?_)
  refine tGetR (j := 7) F hK hH (tyb hq_1 (all1 rfl)) rfl (all1 rfl) clX5 (by decide) wd_36_17 dX1_tookOf_4 (fun q_2 hq_2 _ => ?_)
  refine lv_iload_n F.1 F.2.1 dX1_tookOf_7 rfl (lv_at hl 1 rfl) ?_
  refine tIaldB F hK hH (tyb hq_2 (all1 rfl)) (ixb (n := 14) ha1 rfl rfl) dX1_tookOf_8 (fun z_3 hz_3 => ?_)
  refine lv_aload_n F.1 F.2.1 dX1_tookOf_9 rfl (lv_at hl 0 rfl) ?_
  refine tGetR (j := 3) F hK hH (tyb ha0 (all1 rfl)) rfl (all1 rfl) clX1 (by decide) wd_5_9 dX1_tookOf_10 (fun q_4 hq_4 _ => ?_)
  refine tGetR (j := 7) F hK hH (tyb hq_4 (all1 rfl)) rfl (all1 rfl) clX5 (by decide) wd_36_17 dX1_tookOf_13 (fun q_5 hq_5 _ => ?_)
  refine lv_iload_n F.1 F.2.1 dX1_tookOf_16 rfl (lv_at hl 1 rfl) ?_
  refine tIaldB F hK hH (tyb hq_5 (all1 rfl)) (ixb (n := 14) ha1 rfl rfl) dX1_tookOf_17 (fun z_6 hz_6 => ?_)
  refine lv_isub F.1 F.2.1 dX1_tookOf_18 ?_
  refine topF (fun z_7 => ?_)
  exact txI F hS dX1_tookOf_19 rfl (⟨(i32b _), hH⟩)
set_option maxHeartbeats 4000000 in
set_option maxRecDepth 100000 in
theorem c_X1_sumOf (E : Ev) (rc : TD) (rd : TD) (tp : TD) (Fa1 : Int × Int) (Fb1 : Int × Int) (Fa2 : Int × Int) (Fb2 : Int × Int) (Fa3 : Int × Int) (Fb3 : Int × Int) (Fa4 : Int × Int) (Fb4 : Int × Int) (Pd1 : (Nat → Int32) → Prop) (Pd2 : (Nat → Int32) → Prop) (Pd3 : (Nat → Int32) → Prop) (Pd4 : (Nat → Int32) → Prop) (Ps1 : (Nat → Int32) → Prop) (Ps2 : (Nat → Int32) → Prop) (Ps3 : (Nat → Int32) → Prop) (Ps4 : (Nat → Int32) → Prop) (Pi1 : (Nat → Int32) → Prop) (Pi2 : (Nat → Int32) → Prop) (Pi3 : (Nat → Int32) → Prop) (Pi4 : (Nat → Int32) → Prop) (a0 : Nat) (a1 : Int32) (ha0 : eT E a0 ∈ [22]) (ha1 : 0 ≤ a1.toInt ∧ a1.toInt ≤ 5) (hFa1 : 0 ≤ Fa1.1 ∧ Fa1.2 ≤ 12) (hFb1 : 0 ≤ Fb1.1 ∧ Fb1.2 ≤ 14) (hFa2 : 0 ≤ Fa2.1 ∧ Fa2.2 ≤ 12) (hFb2 : 0 ≤ Fb2.1 ∧ Fb2.2 ≤ 14) (hFa3 : 0 ≤ Fa3.1 ∧ Fa3.2 ≤ 12) (hFb3 : 0 ≤ Fb3.1 ∧ Fb3.2 ≤ 14) (hFa4 : 0 ≤ Fa4.1 ∧ Fa4.2 ≤ 12) (hFb4 : 0 ≤ Fb4.1 ∧ Fb4.2 ≤ 14) (hPd1 : ∀ f, Pd1 f → ivP 12 (-2) 11 f) (hPd2 : ∀ f, Pd2 f → ivP 12 (-2) 11 f) (hPd3 : ∀ f, Pd3 f → ivP 12 (-2) 11 f) (hPd4 : ∀ f, Pd4 f → ivP 12 (-2) 11 f) (hPs1 : ∀ f, Ps1 f → ivP 12 (-2147483648) 2147483647 f) (hPs2 : ∀ f, Ps2 f → ivP 12 (-2147483648) 2147483647 f) (hPs3 : ∀ f, Ps3 f → ivP 12 (-2147483648) 2147483647 f) (hPs4 : ∀ f, Ps4 f → ivP 12 (-2147483648) 2147483647 f) (hPi1 : ∀ f, Pi1 f → ivP 48 (-2147483648) 2147483647 f) (hPi2 : ∀ f, Pi2 f → ivP 48 (-2147483648) 2147483647 f) (hPi3 : ∀ f, Pi3 f → ivP 48 (-2147483648) 2147483647 f) (hPi4 : ∀ f, Pi4 f → ivP 48 (-2147483648) 2147483647 f) : TcI E yX1_sumOf cX1_sumOf 2 .int ({ frames := 1, cells := 0, slots := 0, locals := 40 }) [.ref a0, .int a1] (fun H => TH E (tbC (dayD (.inl (0, 18))) (dayD (.inl (0, 18))) (riverD (.inl Fa1) (.inl Fb1) (.inl (0, 4)) 31 33 35 39 43 47) (riverD (.inl Fa2) (.inl Fb2) (.inl (0, 4)) 32 34 36 40 44 48) rc rd tp A14F A14F A4F A4F A14F A14F (riverD (.inl Fa3) (.inl Fb3) (.inl (0, 4)) 3 8 3 41 45 49) (riverD (.inl Fa4) (.inl Fb4) (.inl (0, 4)) 3 8 3 42 46 50) ((.inr (.inl (0, 12, Pd1)))) ((.inr (.inl (0, 12, Pd2)))) ((.inr (.inl (0, 12, Pd3)))) ((.inr (.inl (0, 12, Pd4)))) ((.inr (.inl (0, 12, Ps1)))) ((.inr (.inl (0, 12, Ps2)))) ((.inr (.inl (0, 12, Ps3)))) ((.inr (.inl (0, 12, Ps4)))) ((.inr (.inl (0, 48, Pi1)))) ((.inr (.inl (0, 48, Pi2)))) ((.inr (.inl (0, 48, Pi3)))) ((.inr (.inl (0, 48, Pi4))))) H) (fun v H => ((-2147483648) ≤ v.toInt ∧ v.toInt ≤ 2147483647) ∧ TH E (tbC (dayD (.inl (0, 18))) (dayD (.inl (0, 18))) (riverD (.inl Fa1) (.inl Fb1) (.inl (0, 4)) 31 33 35 39 43 47) (riverD (.inl Fa2) (.inl Fb2) (.inl (0, 4)) 32 34 36 40 44 48) rc rd tp A14F A14F A4F A4F A14F A14F (riverD (.inl Fa3) (.inl Fb3) (.inl (0, 4)) 3 8 3 41 45 49) (riverD (.inl Fa4) (.inl Fb4) (.inl (0, 4)) 3 8 3 42 46 50) ((.inr (.inl (0, 12, Pd1)))) ((.inr (.inl (0, 12, Pd2)))) ((.inr (.inl (0, 12, Pd3)))) ((.inr (.inl (0, 12, Pd4)))) ((.inr (.inl (0, 12, Ps1)))) ((.inr (.inl (0, 12, Ps2)))) ((.inr (.inl (0, 12, Ps3)))) ((.inr (.inl (0, 12, Ps4)))) ((.inr (.inl (0, 48, Pi1)))) ((.inr (.inl (0, 48, Pi2)))) ((.inr (.inl (0, 48, Pi3)))) ((.inr (.inl (0, 48, Pi4))))) H) := by
  refine teI (by decide) (Nat.le_of_ble_eq_true rfl) ?_
  intro p_ ev_ s mi_ below_ meth cd_ ls F hK hN hO hH hS hl
  have hH : TH E (tbC (dayD (.inl (0, 18))) (dayD (.inl (0, 18))) (riverD (.inl Fa1) (.inl Fb1) (.inl (0, 4)) 31 33 35 39 43 47) (riverD (.inl Fa2) (.inl Fb2) (.inl (0, 4)) 32 34 36 40 44 48) rc rd tp A14F A14F A4F A4F A14F A14F (riverD (.inl Fa3) (.inl Fb3) (.inl (0, 4)) 3 8 3 41 45 49) (riverD (.inl Fa4) (.inl Fb4) (.inl (0, 4)) 3 8 3 42 46 50) ((.inr (.inl (0, 12, Pd1)))) ((.inr (.inl (0, 12, Pd2)))) ((.inr (.inl (0, 12, Pd3)))) ((.inr (.inl (0, 12, Pd4)))) ((.inr (.inl (0, 12, Ps1)))) ((.inr (.inl (0, 12, Ps2)))) ((.inr (.inl (0, 12, Ps3)))) ((.inr (.inl (0, 12, Ps4)))) ((.inr (.inl (0, 48, Pi1)))) ((.inr (.inl (0, 48, Pi2)))) ((.inr (.inl (0, 48, Pi3)))) ((.inr (.inl (0, 48, Pi4))))) s.heap := hH
  have hl : lv_has ls 2 [(0, .ref a0), (1, .int a1)] := hl
  refine lv_aload_n F.1 F.2.1 dX1_sumOf_0 rfl (lv_at hl 0 rfl) ?_
  refine tGetR (j := 0) F hK hH (tyb ha0 (all1 rfl)) rfl (all1 rfl) clX1 (by decide) wd_5_6 dX1_sumOf_1 (fun q_1 hq_1 _ => ?_)
  refine tGetR (j := 12) F hK hH (tyb hq_1 (all1 rfl)) rfl (all1 rfl) clX5 (by decide) wd_49_19 dX1_sumOf_4 (fun q_2 hq_2 _ => ?_)
  refine lv_iload_n F.1 F.2.1 dX1_sumOf_7 rfl (lv_at hl 1 rfl) ?_
  refine tLald F hK hH (tyb hq_2 (all1 rfl)) (ixb (n := 6) ha1 rfl rfl) dX1_sumOf_8 (fun w_3 => ?_)
  refine lv_aload_n F.1 F.2.1 dX1_sumOf_9 rfl (lv_at hl 0 rfl) ?_
  refine tGetR (j := 3) F hK hH (tyb ha0 (all1 rfl)) rfl (all1 rfl) clX1 (by decide) wd_5_9 dX1_sumOf_10 (fun q_4 hq_4 _ => ?_)
  refine tGetR (j := 12) F hK hH (tyb hq_4 (all1 rfl)) rfl (all1 rfl) clX5 (by decide) wd_49_19 dX1_sumOf_13 (fun q_5 hq_5 _ => ?_)
  refine lv_iload_n F.1 F.2.1 dX1_sumOf_16 rfl (lv_at hl 1 rfl) ?_
  refine tLald F hK hH (tyb hq_5 (all1 rfl)) (ixb (n := 6) ha1 rfl rfl) dX1_sumOf_17 (fun w_6 => ?_)
  refine lv_lsub F.1 F.2.1 dX1_sumOf_18 ?_
  refine topFL (fun w_7 => ?_)
  refine lv_l2i F.1 F.2.1 dX1_sumOf_19 rfl ?_
  refine topF (fun z_8 => ?_)
  exact txI F hS dX1_sumOf_20 rfl (⟨(i32b _), hH⟩)
set_option maxHeartbeats 4000000 in
set_option maxRecDepth 100000 in
theorem c_X1_isShortNow (E : Ev) (rc : TD) (rd : TD) (tp : TD) (Fa1 : Int × Int) (Fb1 : Int × Int) (Fa2 : Int × Int) (Fb2 : Int × Int) (Fa3 : Int × Int) (Fb3 : Int × Int) (Fa4 : Int × Int) (Fb4 : Int × Int) (Pd1 : (Nat → Int32) → Prop) (Pd2 : (Nat → Int32) → Prop) (Pd3 : (Nat → Int32) → Prop) (Pd4 : (Nat → Int32) → Prop) (Ps1 : (Nat → Int32) → Prop) (Ps2 : (Nat → Int32) → Prop) (Ps3 : (Nat → Int32) → Prop) (Ps4 : (Nat → Int32) → Prop) (Pi1 : (Nat → Int32) → Prop) (Pi2 : (Nat → Int32) → Prop) (Pi3 : (Nat → Int32) → Prop) (Pi4 : (Nat → Int32) → Prop) (a0 : Nat) (a1 : Int32) (ha0 : eT E a0 ∈ [22]) (ha1 : 0 ≤ a1.toInt ∧ a1.toInt ≤ 13) (hFa1 : 0 ≤ Fa1.1 ∧ Fa1.2 ≤ 12) (hFb1 : 0 ≤ Fb1.1 ∧ Fb1.2 ≤ 14) (hFa2 : 0 ≤ Fa2.1 ∧ Fa2.2 ≤ 12) (hFb2 : 0 ≤ Fb2.1 ∧ Fb2.2 ≤ 14) (hFa3 : 0 ≤ Fa3.1 ∧ Fa3.2 ≤ 12) (hFb3 : 0 ≤ Fb3.1 ∧ Fb3.2 ≤ 14) (hFa4 : 0 ≤ Fa4.1 ∧ Fa4.2 ≤ 12) (hFb4 : 0 ≤ Fb4.1 ∧ Fb4.2 ≤ 14) (hPd1 : ∀ f, Pd1 f → ivP 12 (-2) 11 f) (hPd2 : ∀ f, Pd2 f → ivP 12 (-2) 11 f) (hPd3 : ∀ f, Pd3 f → ivP 12 (-2) 11 f) (hPd4 : ∀ f, Pd4 f → ivP 12 (-2) 11 f) (hPs1 : ∀ f, Ps1 f → ivP 12 (-2147483648) 2147483647 f) (hPs2 : ∀ f, Ps2 f → ivP 12 (-2147483648) 2147483647 f) (hPs3 : ∀ f, Ps3 f → ivP 12 (-2147483648) 2147483647 f) (hPs4 : ∀ f, Ps4 f → ivP 12 (-2147483648) 2147483647 f) (hPi1 : ∀ f, Pi1 f → ivP 48 (-2147483648) 2147483647 f) (hPi2 : ∀ f, Pi2 f → ivP 48 (-2147483648) 2147483647 f) (hPi3 : ∀ f, Pi3 f → ivP 48 (-2147483648) 2147483647 f) (hPi4 : ∀ f, Pi4 f → ivP 48 (-2147483648) 2147483647 f) : TcI E yX1_isShortNow cX1_isShortNow 2 .boolean ({ frames := 5, cells := 0, slots := 0, locals := 139 }) [.ref a0, .int a1] (fun H => TH E (tbC (dayD (.inl (0, 18))) (dayD (.inl (0, 18))) (riverD (.inl Fa1) (.inl Fb1) (.inl (0, 4)) 31 33 35 39 43 47) (riverD (.inl Fa2) (.inl Fb2) (.inl (0, 4)) 32 34 36 40 44 48) rc rd tp A14F A14F A4F A4F A14F A14F (riverD (.inl Fa3) (.inl Fb3) (.inl (0, 4)) 3 8 3 41 45 49) (riverD (.inl Fa4) (.inl Fb4) (.inl (0, 4)) 3 8 3 42 46 50) ((.inr (.inl (0, 12, Pd1)))) ((.inr (.inl (0, 12, Pd2)))) ((.inr (.inl (0, 12, Pd3)))) ((.inr (.inl (0, 12, Pd4)))) ((.inr (.inl (0, 12, Ps1)))) ((.inr (.inl (0, 12, Ps2)))) ((.inr (.inl (0, 12, Ps3)))) ((.inr (.inl (0, 12, Ps4)))) ((.inr (.inl (0, 48, Pi1)))) ((.inr (.inl (0, 48, Pi2)))) ((.inr (.inl (0, 48, Pi3)))) ((.inr (.inl (0, 48, Pi4))))) H) (fun v H => (0 ≤ v.toInt ∧ v.toInt ≤ 1) ∧ TH E (tbC (dayD (.inl (0, 18))) (dayD (.inl (0, 18))) (riverD (.inl Fa1) (.inl Fb1) (.inl (0, 4)) 31 33 35 39 43 47) (riverD (.inl Fa2) (.inl Fb2) (.inl (0, 4)) 32 34 36 40 44 48) rc rd tp A14F A14F A4F A4F A14F A14F (riverD (.inl Fa3) (.inl Fb3) (.inl (0, 4)) 3 8 3 41 45 49) (riverD (.inl Fa4) (.inl Fb4) (.inl (0, 4)) 3 8 3 42 46 50) ((.inr (.inl (0, 12, Pd1)))) ((.inr (.inl (0, 12, Pd2)))) ((.inr (.inl (0, 12, Pd3)))) ((.inr (.inl (0, 12, Pd4)))) ((.inr (.inl (0, 12, Ps1)))) ((.inr (.inl (0, 12, Ps2)))) ((.inr (.inl (0, 12, Ps3)))) ((.inr (.inl (0, 12, Ps4)))) ((.inr (.inl (0, 48, Pi1)))) ((.inr (.inl (0, 48, Pi2)))) ((.inr (.inl (0, 48, Pi3)))) ((.inr (.inl (0, 48, Pi4))))) H) := by
  refine teI (by decide) (Nat.le_of_ble_eq_true rfl) ?_
  intro p_ ev_ s mi_ below_ meth cd_ ls F hK hN hO hH hS hl
  have hH : TH E (tbC (dayD (.inl (0, 18))) (dayD (.inl (0, 18))) (riverD (.inl Fa1) (.inl Fb1) (.inl (0, 4)) 31 33 35 39 43 47) (riverD (.inl Fa2) (.inl Fb2) (.inl (0, 4)) 32 34 36 40 44 48) rc rd tp A14F A14F A4F A4F A14F A14F (riverD (.inl Fa3) (.inl Fb3) (.inl (0, 4)) 3 8 3 41 45 49) (riverD (.inl Fa4) (.inl Fb4) (.inl (0, 4)) 3 8 3 42 46 50) ((.inr (.inl (0, 12, Pd1)))) ((.inr (.inl (0, 12, Pd2)))) ((.inr (.inl (0, 12, Pd3)))) ((.inr (.inl (0, 12, Pd4)))) ((.inr (.inl (0, 12, Ps1)))) ((.inr (.inl (0, 12, Ps2)))) ((.inr (.inl (0, 12, Ps3)))) ((.inr (.inl (0, 12, Ps4)))) ((.inr (.inl (0, 48, Pi1)))) ((.inr (.inl (0, 48, Pi2)))) ((.inr (.inl (0, 48, Pi3)))) ((.inr (.inl (0, 48, Pi4))))) s.heap := hH
  have hl : lv_has ls 2 [(0, .ref a0), (1, .int a1)] := hl
  refine lv_aload_n F.1 F.2.1 dX1_isShortNow_0 rfl (lv_at hl 0 rfl) ?_
  refine tGetR (j := 1) F hK hH (tyb ha0 (all1 rfl)) rfl (all1 rfl) clX1 (by decide) wd_5_11 dX1_isShortNow_1 (fun q_1 hq_1 _ => ?_)
  refine lv_aload_n F.1 F.2.1 dX1_isShortNow_4 rfl (lv_at hl 0 rfl) ?_
  refine tGetR0 (j := 2) F hK hH (tyb ha0 (all1 rfl)) rfl clX1 (by decide) wd_5_8 dX1_isShortNow_5 (fun q_2 hq_2 => ?_)
  refine lv_aload_n F.1 F.2.1 dX1_isShortNow_8 rfl (lv_at hl 0 rfl) ?_
  refine tGetR (j := 0) F hK hH (tyb ha0 (all1 rfl)) rfl (all1 rfl) clX1 (by decide) wd_5_6 dX1_isShortNow_9 (fun q_3 hq_3 _ => ?_)
  refine tVv (b := q_1) (As := [.ref q_2, .ref q_3]) (rest := []) F hK hN hO (c_X0_open_B E (dayD (.inl (0, 18))) rc rd tp Fa1 Fb1 Fa2 Fb2 Fa3 Fb3 Fa4 Fb4 Pd1 Pd2 Pd3 Pd4 Ps1 Ps2 Ps3 Ps4 Pi1 Pi2 Pi3 Pi4 q_1 q_2 q_3 hq_1 hq_2 hq_3 hFa1 hFb1 hFa2 hFb2 hFa3 hFb3 hFa4 hFb4 hPd1 hPd2 hPd3 hPd4 hPs1 hPs2 hPs3 hPs4 hPi1 hPi2 hPi3 hPi4) mv_X0_open wd_35_9 ⟨Nat.le_of_ble_eq_true rfl, Nat.le_of_ble_eq_true rfl⟩ ⟨Nat.le_of_ble_eq_true rfl, Nat.le_of_ble_eq_true rfl⟩ hH hS (tRecv hK hH (tyb hq_1 (all1 rfl)) clX0) rfl hl.1 (Nat.le_of_ble_eq_true rfl) dX1_isShortNow_12 (fun H locs hq hS => ?_)
  have hH := hq
  have hH : TH E (tbC (dayD (.inl (0, 18))) (dayD (.inl (0, 18))) (riverD (.inl Fa1) (.inl Fb1) (.inl (0, 4)) 31 33 35 39 43 47) (riverD (.inl Fa2) (.inl Fb2) (.inl (0, 4)) 32 34 36 40 44 48) rc rd tp A14F A14F A4F A4F A14F A14F (riverD (.inl Fa3) (.inl Fb3) (.inl (0, 4)) 3 8 3 41 45 49) (riverD (.inl Fa4) (.inl Fb4) (.inl (0, 4)) 3 8 3 42 46 50) ((.inr (.inl (0, 12, Pd1)))) ((.inr (.inl (0, 12, Pd2)))) ((.inr (.inl (0, 12, Pd3)))) ((.inr (.inl (0, 12, Pd4)))) ((.inr (.inl (0, 12, Ps1)))) ((.inr (.inl (0, 12, Ps2)))) ((.inr (.inl (0, 12, Ps3)))) ((.inr (.inl (0, 12, Ps4)))) ((.inr (.inl (0, 48, Pi1)))) ((.inr (.inl (0, 48, Pi2)))) ((.inr (.inl (0, 48, Pi3)))) ((.inr (.inl (0, 48, Pi4))))) H := hH
  refine lv_aload_n F.1 F.2.1 dX1_isShortNow_15 rfl (lv_at hl 0 rfl) ?_
  refine tGetR (j := 1) F hK hH (tyb ha0 (all1 rfl)) rfl (all1 rfl) clX1 (by decide) wd_5_11 dX1_isShortNow_16 (fun q_5 hq_5 _ => ?_)
  refine tVv (b := q_5) (As := []) (rest := []) F hK hN hO (c_X0_work E rc rd tp Fa1 Fb1 Fa2 Fb2 Fa3 Fb3 Fa4 Fb4 Pd1 Pd2 Pd3 Pd4 Ps1 Ps2 Ps3 Ps4 Pi1 Pi2 Pi3 Pi4 q_5 (by have h9_ := hq_5; simp at h9_ ⊢; omega) hFa1 hFb1 hFa2 hFb2 hFa3 hFb3 hFa4 hFb4 hPd1 hPd2 hPd3 hPd4 hPs1 hPs2 hPs3 hPs4 hPi1 hPi2 hPi3 hPi4) mv_X0_work wd_35_19 ⟨Nat.le_of_ble_eq_true rfl, Nat.le_of_ble_eq_true rfl⟩ ⟨Nat.le_of_ble_eq_true rfl, Nat.le_of_ble_eq_true rfl⟩ hH hS (tRecv hK hH (tyb hq_5 (all1 rfl)) clX0) rfl hl.1 (Nat.le_of_ble_eq_true rfl) dX1_isShortNow_19 (fun H locs hq hS => ?_)
  have hH := hq
  have hH : TH E (tbC (dayD (.inl (0, 18))) (dayD (.inl (0, 18))) (riverD (.inl Fa1) (.inl Fb1) (.inl (0, 4)) 31 33 35 39 43 47) (riverD (.inl Fa2) (.inl Fb2) (.inl (0, 4)) 32 34 36 40 44 48) rc rd tp A14F A14F A4F A4F A14F A14F (riverD (.inl Fa3) (.inl Fb3) (.inl (0, 4)) 3 8 3 41 45 49) (riverD (.inl Fa4) (.inl Fb4) (.inl (0, 4)) 3 8 3 42 46 50) ((.inr (.inl (0, 12, Pd1)))) ((.inr (.inl (0, 12, Pd2)))) ((.inr (.inl (0, 12, Pd3)))) ((.inr (.inl (0, 12, Pd4)))) ((.inr (.inl (0, 12, Ps1)))) ((.inr (.inl (0, 12, Ps2)))) ((.inr (.inl (0, 12, Ps3)))) ((.inr (.inl (0, 12, Ps4)))) ((.inr (.inl (0, 48, Pi1)))) ((.inr (.inl (0, 48, Pi2)))) ((.inr (.inl (0, 48, Pi3)))) ((.inr (.inl (0, 48, Pi4))))) H := hH
  refine lv_aload_n F.1 F.2.1 dX1_isShortNow_22 rfl (lv_at hl 0 rfl) ?_
  refine tGetR (j := 1) F hK hH (tyb ha0 (all1 rfl)) rfl (all1 rfl) clX1 (by decide) wd_5_11 dX1_isShortNow_23 (fun q_7 hq_7 _ => ?_)
  refine lv_iload_n F.1 F.2.1 dX1_isShortNow_26 rfl (lv_at hl 1 rfl) ?_
  refine tVi (b := q_7) (As := [.int a1]) (rest := []) F hK hN hO (c_X0_isShort E rc rd tp Fa1 Fb1 Fa2 Fb2 Fa3 Fb3 Fa4 Fb4 Pd1 Pd2 Pd3 Pd4 Ps1 Ps2 Ps3 Ps4 Pi1 Pi2 Pi3 Pi4 q_7 a1 (by have h9_ := hq_7; simp at h9_ ⊢; omega) ha1 hFa1 hFb1 hFa2 hFb2 hFa3 hFb3 hFa4 hFb4 hPd1 hPd2 hPd3 hPd4 hPs1 hPs2 hPs3 hPs4 hPi1 hPi2 hPi3 hPi4) mv_X0_isShort wd_36_11 ⟨Nat.le_of_ble_eq_true rfl, Nat.le_of_ble_eq_true rfl⟩ ⟨Nat.le_of_ble_eq_true rfl, Nat.le_of_ble_eq_true rfl⟩ hH hS (tRecv hK hH (tyb hq_7 (all1 rfl)) clX0) rfl hl.1 (Nat.le_of_ble_eq_true rfl) dX1_isShortNow_27 (fun z_8 H locs hq hS => ?_)
  obtain ⟨f_9, hH⟩ := hq
  have hH : TH E (tbC (dayD (.inl (0, 18))) (dayD (.inl (0, 18))) (riverD (.inl Fa1) (.inl Fb1) (.inl (0, 4)) 31 33 35 39 43 47) (riverD (.inl Fa2) (.inl Fb2) (.inl (0, 4)) 32 34 36 40 44 48) rc rd tp A14F A14F A4F A4F A14F A14F (riverD (.inl Fa3) (.inl Fb3) (.inl (0, 4)) 3 8 3 41 45 49) (riverD (.inl Fa4) (.inl Fb4) (.inl (0, 4)) 3 8 3 42 46 50) ((.inr (.inl (0, 12, Pd1)))) ((.inr (.inl (0, 12, Pd2)))) ((.inr (.inl (0, 12, Pd3)))) ((.inr (.inl (0, 12, Pd4)))) ((.inr (.inl (0, 12, Ps1)))) ((.inr (.inl (0, 12, Ps2)))) ((.inr (.inl (0, 12, Ps3)))) ((.inr (.inl (0, 12, Ps4)))) ((.inr (.inl (0, 48, Pi1)))) ((.inr (.inl (0, 48, Pi2)))) ((.inr (.inl (0, 48, Pi3)))) ((.inr (.inl (0, 48, Pi4))))) H := hH
  exact txI F hS dX1_isShortNow_30 (nar01 f_9) (⟨f_9, hH⟩)
set_option maxHeartbeats 4000000 in
set_option maxRecDepth 100000 in
theorem c_X1_isCalm (E : Ev) (rc : TD) (rd : TD) (tp : TD) (Fa1 : Int × Int) (Fb1 : Int × Int) (Fa2 : Int × Int) (Fb2 : Int × Int) (Fa3 : Int × Int) (Fb3 : Int × Int) (Fa4 : Int × Int) (Fb4 : Int × Int) (Pd1 : (Nat → Int32) → Prop) (Pd2 : (Nat → Int32) → Prop) (Pd3 : (Nat → Int32) → Prop) (Pd4 : (Nat → Int32) → Prop) (Ps1 : (Nat → Int32) → Prop) (Ps2 : (Nat → Int32) → Prop) (Ps3 : (Nat → Int32) → Prop) (Ps4 : (Nat → Int32) → Prop) (Pi1 : (Nat → Int32) → Prop) (Pi2 : (Nat → Int32) → Prop) (Pi3 : (Nat → Int32) → Prop) (Pi4 : (Nat → Int32) → Prop) (a0 : Nat) (a1 : Int32) (ha0 : eT E a0 ∈ [22]) (ha1 : 1 ≤ a1.toInt ∧ a1.toInt ≤ 10) (hFa1 : 0 ≤ Fa1.1 ∧ Fa1.2 ≤ 12) (hFb1 : 0 ≤ Fb1.1 ∧ Fb1.2 ≤ 14) (hFa2 : 0 ≤ Fa2.1 ∧ Fa2.2 ≤ 12) (hFb2 : 0 ≤ Fb2.1 ∧ Fb2.2 ≤ 14) (hFa3 : 0 ≤ Fa3.1 ∧ Fa3.2 ≤ 12) (hFb3 : 0 ≤ Fb3.1 ∧ Fb3.2 ≤ 14) (hFa4 : 0 ≤ Fa4.1 ∧ Fa4.2 ≤ 12) (hFb4 : 0 ≤ Fb4.1 ∧ Fb4.2 ≤ 14) (hPd1 : ∀ f, Pd1 f → ivP 12 (-2) 11 f) (hPd2 : ∀ f, Pd2 f → ivP 12 (-2) 11 f) (hPd3 : ∀ f, Pd3 f → ivP 12 (-2) 11 f) (hPd4 : ∀ f, Pd4 f → ivP 12 (-2) 11 f) (hPs1 : ∀ f, Ps1 f → ivP 12 (-2147483648) 2147483647 f) (hPs2 : ∀ f, Ps2 f → ivP 12 (-2147483648) 2147483647 f) (hPs3 : ∀ f, Ps3 f → ivP 12 (-2147483648) 2147483647 f) (hPs4 : ∀ f, Ps4 f → ivP 12 (-2147483648) 2147483647 f) (hPi1 : ∀ f, Pi1 f → ivP 48 (-2147483648) 2147483647 f) (hPi2 : ∀ f, Pi2 f → ivP 48 (-2147483648) 2147483647 f) (hPi3 : ∀ f, Pi3 f → ivP 48 (-2147483648) 2147483647 f) (hPi4 : ∀ f, Pi4 f → ivP 48 (-2147483648) 2147483647 f) : TcI E yX1_isCalm cX1_isCalm 3 .boolean ({ frames := 5, cells := 0, slots := 0, locals := 139 }) [.ref a0, .int a1] (fun H => TH E (tbC (dayD (.inl (0, 18))) (dayD (.inl (0, 18))) (riverD (.inl Fa1) (.inl Fb1) (.inl (0, 4)) 31 33 35 39 43 47) (riverD (.inl Fa2) (.inl Fb2) (.inl (0, 4)) 32 34 36 40 44 48) rc rd tp A14F A14F A4F A4F A14F A14F (riverD (.inl Fa3) (.inl Fb3) (.inl (0, 4)) 3 8 3 41 45 49) (riverD (.inl Fa4) (.inl Fb4) (.inl (0, 4)) 3 8 3 42 46 50) ((.inr (.inl (0, 12, Pd1)))) ((.inr (.inl (0, 12, Pd2)))) ((.inr (.inl (0, 12, Pd3)))) ((.inr (.inl (0, 12, Pd4)))) ((.inr (.inl (0, 12, Ps1)))) ((.inr (.inl (0, 12, Ps2)))) ((.inr (.inl (0, 12, Ps3)))) ((.inr (.inl (0, 12, Ps4)))) ((.inr (.inl (0, 48, Pi1)))) ((.inr (.inl (0, 48, Pi2)))) ((.inr (.inl (0, 48, Pi3)))) ((.inr (.inl (0, 48, Pi4))))) H) (fun v H => (0 ≤ v.toInt ∧ v.toInt ≤ 1) ∧ TH E (tbC (dayD (.inl (0, 18))) (dayD (.inl (0, 18))) (riverD (.inl Fa1) (.inl Fb1) (.inl (0, 4)) 31 33 35 39 43 47) (riverD (.inl Fa2) (.inl Fb2) (.inl (0, 4)) 32 34 36 40 44 48) rc rd tp A14F A14F A4F A4F A14F A14F (riverD (.inl Fa3) (.inl Fb3) (.inl (0, 4)) 3 8 3 41 45 49) (riverD (.inl Fa4) (.inl Fb4) (.inl (0, 4)) 3 8 3 42 46 50) ((.inr (.inl (0, 12, Pd1)))) ((.inr (.inl (0, 12, Pd2)))) ((.inr (.inl (0, 12, Pd3)))) ((.inr (.inl (0, 12, Pd4)))) ((.inr (.inl (0, 12, Ps1)))) ((.inr (.inl (0, 12, Ps2)))) ((.inr (.inl (0, 12, Ps3)))) ((.inr (.inl (0, 12, Ps4)))) ((.inr (.inl (0, 48, Pi1)))) ((.inr (.inl (0, 48, Pi2)))) ((.inr (.inl (0, 48, Pi3)))) ((.inr (.inl (0, 48, Pi4))))) H) := by
  refine teI (by decide) (Nat.le_of_ble_eq_true rfl) ?_
  intro p_ ev_ s mi_ below_ meth cd_ ls F hK hN hO hH hS hl
  have hH : TH E (tbC (dayD (.inl (0, 18))) (dayD (.inl (0, 18))) (riverD (.inl Fa1) (.inl Fb1) (.inl (0, 4)) 31 33 35 39 43 47) (riverD (.inl Fa2) (.inl Fb2) (.inl (0, 4)) 32 34 36 40 44 48) rc rd tp A14F A14F A4F A4F A14F A14F (riverD (.inl Fa3) (.inl Fb3) (.inl (0, 4)) 3 8 3 41 45 49) (riverD (.inl Fa4) (.inl Fb4) (.inl (0, 4)) 3 8 3 42 46 50) ((.inr (.inl (0, 12, Pd1)))) ((.inr (.inl (0, 12, Pd2)))) ((.inr (.inl (0, 12, Pd3)))) ((.inr (.inl (0, 12, Pd4)))) ((.inr (.inl (0, 12, Ps1)))) ((.inr (.inl (0, 12, Ps2)))) ((.inr (.inl (0, 12, Ps3)))) ((.inr (.inl (0, 12, Ps4)))) ((.inr (.inl (0, 48, Pi1)))) ((.inr (.inl (0, 48, Pi2)))) ((.inr (.inl (0, 48, Pi3)))) ((.inr (.inl (0, 48, Pi4))))) s.heap := hH
  have hl : lv_has ls 3 [(0, .ref a0), (1, .int a1)] := hl
  refine lv_aload_n F.1 F.2.1 dX1_isCalm_0 rfl (lv_at hl 0 rfl) ?_
  refine tGetR (j := 1) F hK hH (tyb ha0 (all1 rfl)) rfl (all1 rfl) clX1 (by decide) wd_5_11 dX1_isCalm_1 (fun q_1 hq_1 _ => ?_)
  refine lv_aload_n F.1 F.2.1 dX1_isCalm_4 rfl (lv_at hl 0 rfl) ?_
  refine tGetR0 (j := 2) F hK hH (tyb ha0 (all1 rfl)) rfl clX1 (by decide) wd_5_8 dX1_isCalm_5 (fun q_2 hq_2 => ?_)
  refine lv_aload_n F.1 F.2.1 dX1_isCalm_8 rfl (lv_at hl 0 rfl) ?_
  refine tGetR (j := 0) F hK hH (tyb ha0 (all1 rfl)) rfl (all1 rfl) clX1 (by decide) wd_5_6 dX1_isCalm_9 (fun q_3 hq_3 _ => ?_)
  refine tVv (b := q_1) (As := [.ref q_2, .ref q_3]) (rest := []) F hK hN hO (c_X0_open_B E (dayD (.inl (0, 18))) rc rd tp Fa1 Fb1 Fa2 Fb2 Fa3 Fb3 Fa4 Fb4 Pd1 Pd2 Pd3 Pd4 Ps1 Ps2 Ps3 Ps4 Pi1 Pi2 Pi3 Pi4 q_1 q_2 q_3 hq_1 hq_2 hq_3 hFa1 hFb1 hFa2 hFb2 hFa3 hFb3 hFa4 hFb4 hPd1 hPd2 hPd3 hPd4 hPs1 hPs2 hPs3 hPs4 hPi1 hPi2 hPi3 hPi4) mv_X0_open wd_35_9 ⟨Nat.le_of_ble_eq_true rfl, Nat.le_of_ble_eq_true rfl⟩ ⟨Nat.le_of_ble_eq_true rfl, Nat.le_of_ble_eq_true rfl⟩ hH hS (tRecv hK hH (tyb hq_1 (all1 rfl)) clX0) rfl hl.1 (Nat.le_of_ble_eq_true rfl) dX1_isCalm_12 (fun H locs hq hS => ?_)
  have hH := hq
  have hH : TH E (tbC (dayD (.inl (0, 18))) (dayD (.inl (0, 18))) (riverD (.inl Fa1) (.inl Fb1) (.inl (0, 4)) 31 33 35 39 43 47) (riverD (.inl Fa2) (.inl Fb2) (.inl (0, 4)) 32 34 36 40 44 48) rc rd tp A14F A14F A4F A4F A14F A14F (riverD (.inl Fa3) (.inl Fb3) (.inl (0, 4)) 3 8 3 41 45 49) (riverD (.inl Fa4) (.inl Fb4) (.inl (0, 4)) 3 8 3 42 46 50) ((.inr (.inl (0, 12, Pd1)))) ((.inr (.inl (0, 12, Pd2)))) ((.inr (.inl (0, 12, Pd3)))) ((.inr (.inl (0, 12, Pd4)))) ((.inr (.inl (0, 12, Ps1)))) ((.inr (.inl (0, 12, Ps2)))) ((.inr (.inl (0, 12, Ps3)))) ((.inr (.inl (0, 12, Ps4)))) ((.inr (.inl (0, 48, Pi1)))) ((.inr (.inl (0, 48, Pi2)))) ((.inr (.inl (0, 48, Pi3)))) ((.inr (.inl (0, 48, Pi4))))) H := hH
  refine lv_iconst (v := 0) F.1 F.2.1 dX1_isCalm_15 (by decide) ?_
  refine topK (a := 0) (by decide) (fun k_5 hk_5 => ?_)
  refine lv_istore_n (lv' := [(2, .int k_5), (0, .ref a0), (1, .int a1)]) F.1 F.2.1 dX1_isCalm_16 rfl hl (by decide) rfl (fun ls hl => ?_)
  refine wloop (σ := Int32) (fun n9 x9 H locs ls => (10 - x9.toInt + 1).toNat < n9 ∧ (0 ≤ x9.toInt ∧ x9.toInt ≤ 10) ∧ TH E (tbC (dayD (.inl (0, 18))) (dayD (.inl (0, 18))) (riverD (.inl Fa1) (.inl Fb1) (.inl (0, 4)) 31 33 35 39 43 47) (riverD (.inl Fa2) (.inl Fb2) (.inl (0, 4)) 32 34 36 40 44 48) rc rd tp A14F A14F A4F A4F A14F A14F (riverD (.inl Fa3) (.inl Fb3) (.inl (0, 4)) 3 8 3 41 45 49) (riverD (.inl Fa4) (.inl Fb4) (.inl (0, 4)) 3 8 3 42 46 50) ((.inr (.inl (0, 12, Pd1)))) ((.inr (.inl (0, 12, Pd2)))) ((.inr (.inl (0, 12, Pd3)))) ((.inr (.inl (0, 12, Pd4)))) ((.inr (.inl (0, 12, Ps1)))) ((.inr (.inl (0, 12, Ps2)))) ((.inr (.inl (0, 12, Ps3)))) ((.inr (.inl (0, 12, Ps4)))) ((.inr (.inl (0, 48, Pi1)))) ((.inr (.inl (0, 48, Pi2)))) ((.inr (.inl (0, 48, Pi3)))) ((.inr (.inl (0, 48, Pi4))))) H ∧ va_S (eA E s.heap.size) s.heap H locs ∧ lv_has ls 3 [(0, .ref a0), (1, .int a1), (2, .int x9)]) ?_ (fun x9 H locs ls h => absurd h.1 (Nat.not_lt_zero _)) _ (k_5) ⟨Nat.lt_succ_self _, (wkb (eqb hk_5) rfl rfl), hH, hS, lv_sub hl [1, 2, 0] rfl⟩
  intro n_17 ih_17 u_6 H locs ls ⟨hm_17, hu_6, hH, hS, hl⟩
  have hm_17 : (10 - u_6.toInt + 1).toNat < n_17 + 1 := hm_17
  have hu_6 : (0 ≤ u_6.toInt ∧ u_6.toInt ≤ 10) := hu_6
  have hH : TH E (tbC (dayD (.inl (0, 18))) (dayD (.inl (0, 18))) (riverD (.inl Fa1) (.inl Fb1) (.inl (0, 4)) 31 33 35 39 43 47) (riverD (.inl Fa2) (.inl Fb2) (.inl (0, 4)) 32 34 36 40 44 48) rc rd tp A14F A14F A4F A4F A14F A14F (riverD (.inl Fa3) (.inl Fb3) (.inl (0, 4)) 3 8 3 41 45 49) (riverD (.inl Fa4) (.inl Fb4) (.inl (0, 4)) 3 8 3 42 46 50) ((.inr (.inl (0, 12, Pd1)))) ((.inr (.inl (0, 12, Pd2)))) ((.inr (.inl (0, 12, Pd3)))) ((.inr (.inl (0, 12, Pd4)))) ((.inr (.inl (0, 12, Ps1)))) ((.inr (.inl (0, 12, Ps2)))) ((.inr (.inl (0, 12, Ps3)))) ((.inr (.inl (0, 12, Ps4)))) ((.inr (.inl (0, 48, Pi1)))) ((.inr (.inl (0, 48, Pi2)))) ((.inr (.inl (0, 48, Pi3)))) ((.inr (.inl (0, 48, Pi4))))) H := hH
  have hl : lv_has ls 3 [(0, .ref a0), (1, .int a1), (2, .int u_6)] := hl
  refine lv_iload_n F.1 F.2.1 dX1_isCalm_17 rfl (lv_at hl 2 rfl) ?_
  refine lv_iload_n F.1 F.2.1 dX1_isCalm_18 rfl (lv_at hl 1 rfl) ?_
  refine b_ge (tgt := 54) F dX1_isCalm_19 (by decide) (fun c_7 => ?_) (fun c_7 => ?_)
  · skip
    have r_8 : 1 ≤ u_6.toInt ∧ u_6.toInt ≤ 10 := by have h9_ := hu_6; omega
    refine lv_iconst (v := 1) F.1 F.2.1 dX1_isCalm_54 (by decide) ?_
    refine topK (a := 1) (by decide) (fun k_10 hk_10 => ?_)
    exact txI F hS dX1_isCalm_55 (nar01 (wkb (eqb hk_10) rfl rfl)) (⟨(wkb (eqb hk_10) rfl rfl), hH⟩)
  · skip
    have r_9 : 0 ≤ u_6.toInt ∧ u_6.toInt ≤ 9 := by have h9_ := hu_6; omega
    refine lv_aload_n F.1 F.2.1 dX1_isCalm_22 rfl (lv_at hl 0 rfl) ?_
    refine tGetR (j := 1) F hK hH (tyb ha0 (all1 rfl)) rfl (all1 rfl) clX1 (by decide) wd_5_11 dX1_isCalm_23 (fun q_11 hq_11 _ => ?_)
    refine tVv (b := q_11) (As := []) (rest := []) F hK hN hO (c_X0_work E rc rd tp Fa1 Fb1 Fa2 Fb2 Fa3 Fb3 Fa4 Fb4 Pd1 Pd2 Pd3 Pd4 Ps1 Ps2 Ps3 Ps4 Pi1 Pi2 Pi3 Pi4 q_11 (by have h9_ := hq_11; simp at h9_ ⊢; omega) hFa1 hFb1 hFa2 hFb2 hFa3 hFb3 hFa4 hFb4 hPd1 hPd2 hPd3 hPd4 hPs1 hPs2 hPs3 hPs4 hPi1 hPi2 hPi3 hPi4) mv_X0_work wd_35_19 ⟨Nat.le_of_ble_eq_true rfl, Nat.le_of_ble_eq_true rfl⟩ ⟨Nat.le_of_ble_eq_true rfl, Nat.le_of_ble_eq_true rfl⟩ hH hS (tRecv hK hH (tyb hq_11 (all1 rfl)) clX0) rfl hl.1 (Nat.le_of_ble_eq_true rfl) dX1_isCalm_26 (fun H locs hq hS => ?_)
    have hH := hq
    have hH : TH E (tbC (dayD (.inl (0, 18))) (dayD (.inl (0, 18))) (riverD (.inl Fa1) (.inl Fb1) (.inl (0, 4)) 31 33 35 39 43 47) (riverD (.inl Fa2) (.inl Fb2) (.inl (0, 4)) 32 34 36 40 44 48) rc rd tp A14F A14F A4F A4F A14F A14F (riverD (.inl Fa3) (.inl Fb3) (.inl (0, 4)) 3 8 3 41 45 49) (riverD (.inl Fa4) (.inl Fb4) (.inl (0, 4)) 3 8 3 42 46 50) ((.inr (.inl (0, 12, Pd1)))) ((.inr (.inl (0, 12, Pd2)))) ((.inr (.inl (0, 12, Pd3)))) ((.inr (.inl (0, 12, Pd4)))) ((.inr (.inl (0, 12, Ps1)))) ((.inr (.inl (0, 12, Ps2)))) ((.inr (.inl (0, 12, Ps3)))) ((.inr (.inl (0, 12, Ps4)))) ((.inr (.inl (0, 48, Pi1)))) ((.inr (.inl (0, 48, Pi2)))) ((.inr (.inl (0, 48, Pi3)))) ((.inr (.inl (0, 48, Pi4))))) H := hH
    refine lv_aload_n F.1 F.2.1 dX1_isCalm_29 rfl (lv_at hl 0 rfl) ?_
    refine tGetR (j := 1) F hK hH (tyb ha0 (all1 rfl)) rfl (all1 rfl) clX1 (by decide) wd_5_11 dX1_isCalm_30 (fun q_13 hq_13 _ => ?_)
    refine tVi (b := q_13) (As := []) (rest := []) F hK hN hO (c_X0_someCalls E rc rd tp Fa1 Fb1 Fa2 Fb2 Fa3 Fb3 Fa4 Fb4 Pd1 Pd2 Pd3 Pd4 Ps1 Ps2 Ps3 Ps4 Pi1 Pi2 Pi3 Pi4 q_13 (by have h9_ := hq_13; simp at h9_ ⊢; omega) hFa1 hFb1 hFa2 hFb2 hFa3 hFb3 hFa4 hFb4 hPd1 hPd2 hPd3 hPd4 hPs1 hPs2 hPs3 hPs4 hPi1 hPi2 hPi3 hPi4) mv_X0_someCalls wd_35_20 ⟨Nat.le_of_ble_eq_true rfl, Nat.le_of_ble_eq_true rfl⟩ ⟨Nat.le_of_ble_eq_true rfl, Nat.le_of_ble_eq_true rfl⟩ hH hS (tRecv hK hH (tyb hq_13 (all1 rfl)) clX0) rfl hl.1 (Nat.le_of_ble_eq_true rfl) dX1_isCalm_33 (fun z_14 H locs hq hS => ?_)
    obtain ⟨f_15, hH⟩ := hq
    have hH : TH E (tbC (dayD (.inl (0, 18))) (dayD (.inl (0, 18))) (riverD (.inl Fa1) (.inl Fb1) (.inl (0, 4)) 31 33 35 39 43 47) (riverD (.inl Fa2) (.inl Fb2) (.inl (0, 4)) 32 34 36 40 44 48) rc rd tp A14F A14F A4F A4F A14F A14F (riverD (.inl Fa3) (.inl Fb3) (.inl (0, 4)) 3 8 3 41 45 49) (riverD (.inl Fa4) (.inl Fb4) (.inl (0, 4)) 3 8 3 42 46 50) ((.inr (.inl (0, 12, Pd1)))) ((.inr (.inl (0, 12, Pd2)))) ((.inr (.inl (0, 12, Pd3)))) ((.inr (.inl (0, 12, Pd4)))) ((.inr (.inl (0, 12, Ps1)))) ((.inr (.inl (0, 12, Ps2)))) ((.inr (.inl (0, 12, Ps3)))) ((.inr (.inl (0, 12, Ps4)))) ((.inr (.inl (0, 48, Pi1)))) ((.inr (.inl (0, 48, Pi2)))) ((.inr (.inl (0, 48, Pi3)))) ((.inr (.inl (0, 48, Pi4))))) H := hH
    refine z_eq (tgt := 41) F dX1_isCalm_36 (by decide) (fun c_16 => ?_) (fun c_16 => ?_)
    · skip
      have r_17 : 0 ≤ z_14.toInt ∧ z_14.toInt ≤ 0 := by have h9_ := f_15; omega
      refine lv_aload_n F.1 F.2.1 dX1_isCalm_41 rfl (lv_at hl 0 rfl) ?_
      refine tGetR (j := 1) F hK hH (tyb ha0 (all1 rfl)) rfl (all1 rfl) clX1 (by decide) wd_5_11 dX1_isCalm_42 (fun q_19 hq_19 _ => ?_)
      refine tVv (b := q_19) (As := []) (rest := []) F hK hN hO (c_X0_pass E rc rd tp Fa1 Fb1 Fa2 Fb2 Fa3 Fb3 Fa4 Fb4 Pd1 Pd2 Pd3 Pd4 Ps1 Ps2 Ps3 Ps4 Pi1 Pi2 Pi3 Pi4 q_19 (by have h9_ := hq_19; simp at h9_ ⊢; omega) hFa1 hFb1 hFa2 hFb2 hFa3 hFb3 hFa4 hFb4 hPd1 hPd2 hPd3 hPd4 hPs1 hPs2 hPs3 hPs4 hPi1 hPi2 hPi3 hPi4) mv_X0_pass wd_36_12 ⟨Nat.le_of_ble_eq_true rfl, Nat.le_of_ble_eq_true rfl⟩ ⟨Nat.le_of_ble_eq_true rfl, Nat.le_of_ble_eq_true rfl⟩ hH hS (tRecv hK hH (tyb hq_19 (all1 rfl)) clX0) rfl hl.1 (Nat.le_of_ble_eq_true rfl) dX1_isCalm_45 (fun H locs hq hS => ?_)
      have hH := hq
      have hH : TH E (tbC (dayD (.inl (0, 18))) (dayD (.inl (0, 18))) (riverD (.inl Fa1) (.inl Fb1) (.inl (0, 4)) 31 33 35 39 43 47) (riverD (.inl Fa2) (.inl Fb2) (.inl (0, 4)) 32 34 36 40 44 48) rc rd tp A14F A14F A4F A4F A14F A14F (riverD (.inl Fa3) (.inl Fb3) (.inl (0, 4)) 3 8 3 41 45 49) (riverD (.inl Fa4) (.inl Fb4) (.inl (0, 4)) 3 8 3 42 46 50) ((.inr (.inl (0, 12, Pd1)))) ((.inr (.inl (0, 12, Pd2)))) ((.inr (.inl (0, 12, Pd3)))) ((.inr (.inl (0, 12, Pd4)))) ((.inr (.inl (0, 12, Ps1)))) ((.inr (.inl (0, 12, Ps2)))) ((.inr (.inl (0, 12, Ps3)))) ((.inr (.inl (0, 12, Ps4)))) ((.inr (.inl (0, 48, Pi1)))) ((.inr (.inl (0, 48, Pi2)))) ((.inr (.inl (0, 48, Pi3)))) ((.inr (.inl (0, 48, Pi4))))) H := hH
      obtain ⟨x_21, ex_21, hx_21⟩ := iincB (c := 1) (lo := 1) (hi := 10) r_9 rfl
      refine lv_iinc (v := x_21) (lv' := [(2, .int x_21), (0, .ref a0), (1, .int a1)]) F.1 F.2.1 dX1_isCalm_48 hl (k := 2) rfl ex_21 (by decide) rfl (fun ls hl => ?_)
      refine lv_goto (tgt := 17) F.1 F.2.1 dX1_isCalm_51 (by decide) ?_
      exact ih_17 (x_21) _ _ _ ⟨(show (10 - x_21.toInt + 1).toNat < n_17 from by omega), (wkb hx_21.2 rfl rfl), hH, hS, lv_sub hl [1, 2, 0] rfl⟩
    · skip
      have r_18 : 1 ≤ z_14.toInt ∧ z_14.toInt ≤ 1 := by have h9_ := f_15; omega
      refine lv_iconst (v := 0) F.1 F.2.1 dX1_isCalm_39 (by decide) ?_
      refine topK (a := 0) (by decide) (fun k_22 hk_22 => ?_)
      exact txI F hS dX1_isCalm_40 (nar01 (wkb (eqb hk_22) rfl rfl)) (⟨(wkb (eqb hk_22) rfl rfl), hH⟩)
set_option maxHeartbeats 4000000 in
set_option maxRecDepth 100000 in
theorem c_X1_daysUntil (E : Ev) (rc : TD) (rd : TD) (tp : TD) (Fa1 : Int × Int) (Fb1 : Int × Int) (Fa2 : Int × Int) (Fb2 : Int × Int) (Fa3 : Int × Int) (Fb3 : Int × Int) (Fa4 : Int × Int) (Fb4 : Int × Int) (Pd1 : (Nat → Int32) → Prop) (Pd2 : (Nat → Int32) → Prop) (Pd3 : (Nat → Int32) → Prop) (Pd4 : (Nat → Int32) → Prop) (Ps1 : (Nat → Int32) → Prop) (Ps2 : (Nat → Int32) → Prop) (Ps3 : (Nat → Int32) → Prop) (Ps4 : (Nat → Int32) → Prop) (Pi1 : (Nat → Int32) → Prop) (Pi2 : (Nat → Int32) → Prop) (Pi3 : (Nat → Int32) → Prop) (Pi4 : (Nat → Int32) → Prop) (a0 : Nat) (a1 : Int32) (a2 : Int32) (ha0 : eT E a0 ∈ [22]) (ha1 : 0 ≤ a1.toInt ∧ a1.toInt ≤ 3) (hFa1 : 0 ≤ Fa1.1 ∧ Fa1.2 ≤ 12) (hFb1 : 0 ≤ Fb1.1 ∧ Fb1.2 ≤ 14) (hFa2 : 0 ≤ Fa2.1 ∧ Fa2.2 ≤ 12) (hFb2 : 0 ≤ Fb2.1 ∧ Fb2.2 ≤ 14) (hFa3 : 0 ≤ Fa3.1 ∧ Fa3.2 ≤ 12) (hFb3 : 0 ≤ Fb3.1 ∧ Fb3.2 ≤ 14) (hFa4 : 0 ≤ Fa4.1 ∧ Fa4.2 ≤ 12) (hFb4 : 0 ≤ Fb4.1 ∧ Fb4.2 ≤ 14) (hPd1 : ∀ f, Pd1 f → ivP 12 (-2) 11 f) (hPd2 : ∀ f, Pd2 f → ivP 12 (-2) 11 f) (hPd3 : ∀ f, Pd3 f → ivP 12 (-2) 11 f) (hPd4 : ∀ f, Pd4 f → ivP 12 (-2) 11 f) (hPs1 : ∀ f, Ps1 f → ivP 12 (-2147483648) 2147483647 f) (hPs2 : ∀ f, Ps2 f → ivP 12 (-2147483648) 2147483647 f) (hPs3 : ∀ f, Ps3 f → ivP 12 (-2147483648) 2147483647 f) (hPs4 : ∀ f, Ps4 f → ivP 12 (-2147483648) 2147483647 f) (hPi1 : ∀ f, Pi1 f → ivP 48 (-2147483648) 2147483647 f) (hPi2 : ∀ f, Pi2 f → ivP 48 (-2147483648) 2147483647 f) (hPi3 : ∀ f, Pi3 f → ivP 48 (-2147483648) 2147483647 f) (hPi4 : ∀ f, Pi4 f → ivP 48 (-2147483648) 2147483647 f) : TcI E yX1_daysUntil cX1_daysUntil 4 .int ({ frames := 5, cells := 0, slots := 0, locals := 139 }) [.ref a0, .int a1, .int a2] (fun H => TH E (tbC (dayD (.inl (0, 18))) (dayD (.inl (0, 18))) (riverD (.inl Fa1) (.inl Fb1) (.inl (0, 4)) 31 33 35 39 43 47) (riverD (.inl Fa2) (.inl Fb2) (.inl (0, 4)) 32 34 36 40 44 48) rc rd tp A14F A14F A4F A4F A14F A14F (riverD (.inl Fa3) (.inl Fb3) (.inl (0, 4)) 3 8 3 41 45 49) (riverD (.inl Fa4) (.inl Fb4) (.inl (0, 4)) 3 8 3 42 46 50) ((.inr (.inl (0, 12, Pd1)))) ((.inr (.inl (0, 12, Pd2)))) ((.inr (.inl (0, 12, Pd3)))) ((.inr (.inl (0, 12, Pd4)))) ((.inr (.inl (0, 12, Ps1)))) ((.inr (.inl (0, 12, Ps2)))) ((.inr (.inl (0, 12, Ps3)))) ((.inr (.inl (0, 12, Ps4)))) ((.inr (.inl (0, 48, Pi1)))) ((.inr (.inl (0, 48, Pi2)))) ((.inr (.inl (0, 48, Pi3)))) ((.inr (.inl (0, 48, Pi4))))) H) (fun v H => ((-2147483648) ≤ v.toInt ∧ v.toInt ≤ 2147483647) ∧ TH E (tbC (dayD (.inl (0, 18))) (dayD (.inl (0, 18))) (riverD (.inl Fa1) (.inl Fb1) (.inl (0, 4)) 31 33 35 39 43 47) (riverD (.inl Fa2) (.inl Fb2) (.inl (0, 4)) 32 34 36 40 44 48) rc rd tp A14F A14F A4F A4F A14F A14F (riverD (.inl Fa3) (.inl Fb3) (.inl (0, 4)) 3 8 3 41 45 49) (riverD (.inl Fa4) (.inl Fb4) (.inl (0, 4)) 3 8 3 42 46 50) ((.inr (.inl (0, 12, Pd1)))) ((.inr (.inl (0, 12, Pd2)))) ((.inr (.inl (0, 12, Pd3)))) ((.inr (.inl (0, 12, Pd4)))) ((.inr (.inl (0, 12, Ps1)))) ((.inr (.inl (0, 12, Ps2)))) ((.inr (.inl (0, 12, Ps3)))) ((.inr (.inl (0, 12, Ps4)))) ((.inr (.inl (0, 48, Pi1)))) ((.inr (.inl (0, 48, Pi2)))) ((.inr (.inl (0, 48, Pi3)))) ((.inr (.inl (0, 48, Pi4))))) H) := by
  refine teI (by decide) (Nat.le_of_ble_eq_true rfl) ?_
  intro p_ ev_ s mi_ below_ meth cd_ ls F hK hN hO hH hS hl
  have hH : TH E (tbC (dayD (.inl (0, 18))) (dayD (.inl (0, 18))) (riverD (.inl Fa1) (.inl Fb1) (.inl (0, 4)) 31 33 35 39 43 47) (riverD (.inl Fa2) (.inl Fb2) (.inl (0, 4)) 32 34 36 40 44 48) rc rd tp A14F A14F A4F A4F A14F A14F (riverD (.inl Fa3) (.inl Fb3) (.inl (0, 4)) 3 8 3 41 45 49) (riverD (.inl Fa4) (.inl Fb4) (.inl (0, 4)) 3 8 3 42 46 50) ((.inr (.inl (0, 12, Pd1)))) ((.inr (.inl (0, 12, Pd2)))) ((.inr (.inl (0, 12, Pd3)))) ((.inr (.inl (0, 12, Pd4)))) ((.inr (.inl (0, 12, Ps1)))) ((.inr (.inl (0, 12, Ps2)))) ((.inr (.inl (0, 12, Ps3)))) ((.inr (.inl (0, 12, Ps4)))) ((.inr (.inl (0, 48, Pi1)))) ((.inr (.inl (0, 48, Pi2)))) ((.inr (.inl (0, 48, Pi3)))) ((.inr (.inl (0, 48, Pi4))))) s.heap := hH
  have hl : lv_has ls 4 [(0, .ref a0), (1, .int a1), (2, .int a2)] := hl
  refine lv_aload_n F.1 F.2.1 dX1_daysUntil_0 rfl (lv_at hl 0 rfl) ?_
  refine tGetR (j := 1) F hK hH (tyb ha0 (all1 rfl)) rfl (all1 rfl) clX1 (by decide) wd_5_11 dX1_daysUntil_1 (fun q_1 hq_1 _ => ?_)
  refine lv_aload_n F.1 F.2.1 dX1_daysUntil_4 rfl (lv_at hl 0 rfl) ?_
  refine tGetR0 (j := 2) F hK hH (tyb ha0 (all1 rfl)) rfl clX1 (by decide) wd_5_8 dX1_daysUntil_5 (fun q_2 hq_2 => ?_)
  refine lv_aload_n F.1 F.2.1 dX1_daysUntil_8 rfl (lv_at hl 0 rfl) ?_
  refine tGetR (j := 0) F hK hH (tyb ha0 (all1 rfl)) rfl (all1 rfl) clX1 (by decide) wd_5_6 dX1_daysUntil_9 (fun q_3 hq_3 _ => ?_)
  refine tVv (b := q_1) (As := [.ref q_2, .ref q_3]) (rest := []) F hK hN hO (c_X0_open_B E (dayD (.inl (0, 18))) rc rd tp Fa1 Fb1 Fa2 Fb2 Fa3 Fb3 Fa4 Fb4 Pd1 Pd2 Pd3 Pd4 Ps1 Ps2 Ps3 Ps4 Pi1 Pi2 Pi3 Pi4 q_1 q_2 q_3 hq_1 hq_2 hq_3 hFa1 hFb1 hFa2 hFb2 hFa3 hFb3 hFa4 hFb4 hPd1 hPd2 hPd3 hPd4 hPs1 hPs2 hPs3 hPs4 hPi1 hPi2 hPi3 hPi4) mv_X0_open wd_35_9 ⟨Nat.le_of_ble_eq_true rfl, Nat.le_of_ble_eq_true rfl⟩ ⟨Nat.le_of_ble_eq_true rfl, Nat.le_of_ble_eq_true rfl⟩ hH hS (tRecv hK hH (tyb hq_1 (all1 rfl)) clX0) rfl hl.1 (Nat.le_of_ble_eq_true rfl) dX1_daysUntil_12 (fun H locs hq hS => ?_)
  have hH := hq
  have hH : TH E (tbC (dayD (.inl (0, 18))) (dayD (.inl (0, 18))) (riverD (.inl Fa1) (.inl Fb1) (.inl (0, 4)) 31 33 35 39 43 47) (riverD (.inl Fa2) (.inl Fb2) (.inl (0, 4)) 32 34 36 40 44 48) rc rd tp A14F A14F A4F A4F A14F A14F (riverD (.inl Fa3) (.inl Fb3) (.inl (0, 4)) 3 8 3 41 45 49) (riverD (.inl Fa4) (.inl Fb4) (.inl (0, 4)) 3 8 3 42 46 50) ((.inr (.inl (0, 12, Pd1)))) ((.inr (.inl (0, 12, Pd2)))) ((.inr (.inl (0, 12, Pd3)))) ((.inr (.inl (0, 12, Pd4)))) ((.inr (.inl (0, 12, Ps1)))) ((.inr (.inl (0, 12, Ps2)))) ((.inr (.inl (0, 12, Ps3)))) ((.inr (.inl (0, 12, Ps4)))) ((.inr (.inl (0, 48, Pi1)))) ((.inr (.inl (0, 48, Pi2)))) ((.inr (.inl (0, 48, Pi3)))) ((.inr (.inl (0, 48, Pi4))))) H := hH
  refine lv_iconst (v := 0) F.1 F.2.1 dX1_daysUntil_15 (by decide) ?_
  refine topK (a := 0) (by decide) (fun k_5 hk_5 => ?_)
  refine lv_istore_n (lv' := [(3, .int k_5), (0, .ref a0), (1, .int a1), (2, .int a2)]) F.1 F.2.1 dX1_daysUntil_16 rfl hl (by decide) rfl (fun ls hl => ?_)
  refine wloop (σ := Int32) (fun n9 x9 H locs ls => (361 - x9.toInt + 1).toNat < n9 ∧ (0 ≤ x9.toInt ∧ x9.toInt ≤ 361) ∧ TH E (tbC (dayD (.inl (0, 18))) (dayD (.inl (0, 18))) (riverD (.inl Fa1) (.inl Fb1) (.inl (0, 4)) 31 33 35 39 43 47) (riverD (.inl Fa2) (.inl Fb2) (.inl (0, 4)) 32 34 36 40 44 48) rc rd tp A14F A14F A4F A4F A14F A14F (riverD (.inl Fa3) (.inl Fb3) (.inl (0, 4)) 3 8 3 41 45 49) (riverD (.inl Fa4) (.inl Fb4) (.inl (0, 4)) 3 8 3 42 46 50) ((.inr (.inl (0, 12, Pd1)))) ((.inr (.inl (0, 12, Pd2)))) ((.inr (.inl (0, 12, Pd3)))) ((.inr (.inl (0, 12, Pd4)))) ((.inr (.inl (0, 12, Ps1)))) ((.inr (.inl (0, 12, Ps2)))) ((.inr (.inl (0, 12, Ps3)))) ((.inr (.inl (0, 12, Ps4)))) ((.inr (.inl (0, 48, Pi1)))) ((.inr (.inl (0, 48, Pi2)))) ((.inr (.inl (0, 48, Pi3)))) ((.inr (.inl (0, 48, Pi4))))) H ∧ va_S (eA E s.heap.size) s.heap H locs ∧ lv_has ls 4 [(0, .ref a0), (1, .int a1), (2, .int a2), (3, .int x9)]) ?_ (fun x9 H locs ls h => absurd h.1 (Nat.not_lt_zero _)) _ (k_5) ⟨Nat.lt_succ_self _, (wkb (eqb hk_5) rfl rfl), hH, hS, lv_sub hl [1, 2, 3, 0] rfl⟩
  intro n_17 ih_17 u_6 H locs ls ⟨hm_17, hu_6, hH, hS, hl⟩
  have hm_17 : (361 - u_6.toInt + 1).toNat < n_17 + 1 := hm_17
  have hu_6 : (0 ≤ u_6.toInt ∧ u_6.toInt ≤ 361) := hu_6
  have hH : TH E (tbC (dayD (.inl (0, 18))) (dayD (.inl (0, 18))) (riverD (.inl Fa1) (.inl Fb1) (.inl (0, 4)) 31 33 35 39 43 47) (riverD (.inl Fa2) (.inl Fb2) (.inl (0, 4)) 32 34 36 40 44 48) rc rd tp A14F A14F A4F A4F A14F A14F (riverD (.inl Fa3) (.inl Fb3) (.inl (0, 4)) 3 8 3 41 45 49) (riverD (.inl Fa4) (.inl Fb4) (.inl (0, 4)) 3 8 3 42 46 50) ((.inr (.inl (0, 12, Pd1)))) ((.inr (.inl (0, 12, Pd2)))) ((.inr (.inl (0, 12, Pd3)))) ((.inr (.inl (0, 12, Pd4)))) ((.inr (.inl (0, 12, Ps1)))) ((.inr (.inl (0, 12, Ps2)))) ((.inr (.inl (0, 12, Ps3)))) ((.inr (.inl (0, 12, Ps4)))) ((.inr (.inl (0, 48, Pi1)))) ((.inr (.inl (0, 48, Pi2)))) ((.inr (.inl (0, 48, Pi3)))) ((.inr (.inl (0, 48, Pi4))))) H := hH
  have hl : lv_has ls 4 [(0, .ref a0), (1, .int a1), (2, .int a2), (3, .int u_6)] := hl
  refine lv_iload_n F.1 F.2.1 dX1_daysUntil_17 rfl (lv_at hl 3 rfl) ?_
  refine lv_sipush (v := 360) F.1 F.2.1 dX1_daysUntil_18 (by decide) ?_
  refine topK (a := 360) (by decide) (fun k_7 hk_7 => ?_)
  refine b_gt (tgt := 59) F dX1_daysUntil_21 (by decide) (fun c_8 => ?_) (fun c_8 => ?_)
  · skip
    have r_9 : 361 ≤ u_6.toInt ∧ u_6.toInt ≤ 361 := by have h9_ := hu_6; omega
    refine lv_bipush (v := (-2)) F.1 F.2.1 dX1_daysUntil_59 (by decide) ?_
    refine topK (a := (-2)) (by decide) (fun k_11 hk_11 => ?_)
    exact txI F hS dX1_daysUntil_61 rfl (⟨(wkb (eqb hk_11) rfl rfl), hH⟩)
  · skip
    have r_10 : 0 ≤ u_6.toInt ∧ u_6.toInt ≤ 360 := by have h9_ := hu_6; omega
    refine lv_aload_n F.1 F.2.1 dX1_daysUntil_24 rfl (lv_at hl 0 rfl) ?_
    refine tGetR (j := 0) F hK hH (tyb ha0 (all1 rfl)) rfl (all1 rfl) clX1 (by decide) wd_5_6 dX1_daysUntil_25 (fun q_12 hq_12 _ => ?_)
    refine tGetR (j := 8) F hK hH (tyb hq_12 (all1 rfl)) rfl (all1 rfl) clX5 (by decide) wd_57_20 dX1_daysUntil_28 (fun q_13 hq_13 _ => ?_)
    refine lv_iload_n F.1 F.2.1 dX1_daysUntil_31 rfl (lv_at hl 1 rfl) ?_
    refine tIaldB F hK hH (tyb hq_13 (all1 rfl)) (ixb (n := 4) ha1 rfl rfl) dX1_daysUntil_32 (fun z_14 hz_14 => ?_)
    refine lv_iload_n F.1 F.2.1 dX1_daysUntil_33 rfl (lv_at hl 2 rfl) ?_
    refine b_ne (tgt := 39) F dX1_daysUntil_34 (by decide) (fun c_15 => ?_) (fun c_15 => ?_)
    · skip
      refine lv_aload_n F.1 F.2.1 dX1_daysUntil_39 rfl (lv_at hl 0 rfl) ?_
      refine tGetR (j := 1) F hK hH (tyb ha0 (all1 rfl)) rfl (all1 rfl) clX1 (by decide) wd_5_11 dX1_daysUntil_40 (fun q_16 hq_16 _ => ?_)
      refine tVv (b := q_16) (As := []) (rest := []) F hK hN hO (c_X0_work E rc rd tp Fa1 Fb1 Fa2 Fb2 Fa3 Fb3 Fa4 Fb4 Pd1 Pd2 Pd3 Pd4 Ps1 Ps2 Ps3 Ps4 Pi1 Pi2 Pi3 Pi4 q_16 (by have h9_ := hq_16; simp at h9_ ⊢; omega) hFa1 hFb1 hFa2 hFb2 hFa3 hFb3 hFa4 hFb4 hPd1 hPd2 hPd3 hPd4 hPs1 hPs2 hPs3 hPs4 hPi1 hPi2 hPi3 hPi4) mv_X0_work wd_35_19 ⟨Nat.le_of_ble_eq_true rfl, Nat.le_of_ble_eq_true rfl⟩ ⟨Nat.le_of_ble_eq_true rfl, Nat.le_of_ble_eq_true rfl⟩ hH hS (tRecv hK hH (tyb hq_16 (all1 rfl)) clX0) rfl hl.1 (Nat.le_of_ble_eq_true rfl) dX1_daysUntil_43 (fun H locs hq hS => ?_)
      have hH := hq
      have hH : TH E (tbC (dayD (.inl (0, 18))) (dayD (.inl (0, 18))) (riverD (.inl Fa1) (.inl Fb1) (.inl (0, 4)) 31 33 35 39 43 47) (riverD (.inl Fa2) (.inl Fb2) (.inl (0, 4)) 32 34 36 40 44 48) rc rd tp A14F A14F A4F A4F A14F A14F (riverD (.inl Fa3) (.inl Fb3) (.inl (0, 4)) 3 8 3 41 45 49) (riverD (.inl Fa4) (.inl Fb4) (.inl (0, 4)) 3 8 3 42 46 50) ((.inr (.inl (0, 12, Pd1)))) ((.inr (.inl (0, 12, Pd2)))) ((.inr (.inl (0, 12, Pd3)))) ((.inr (.inl (0, 12, Pd4)))) ((.inr (.inl (0, 12, Ps1)))) ((.inr (.inl (0, 12, Ps2)))) ((.inr (.inl (0, 12, Ps3)))) ((.inr (.inl (0, 12, Ps4)))) ((.inr (.inl (0, 48, Pi1)))) ((.inr (.inl (0, 48, Pi2)))) ((.inr (.inl (0, 48, Pi3)))) ((.inr (.inl (0, 48, Pi4))))) H := hH
      refine lv_aload_n F.1 F.2.1 dX1_daysUntil_46 rfl (lv_at hl 0 rfl) ?_
      refine tGetR (j := 1) F hK hH (tyb ha0 (all1 rfl)) rfl (all1 rfl) clX1 (by decide) wd_5_11 dX1_daysUntil_47 (fun q_18 hq_18 _ => ?_)
      refine tVv (b := q_18) (As := []) (rest := []) F hK hN hO (c_X0_pass E rc rd tp Fa1 Fb1 Fa2 Fb2 Fa3 Fb3 Fa4 Fb4 Pd1 Pd2 Pd3 Pd4 Ps1 Ps2 Ps3 Ps4 Pi1 Pi2 Pi3 Pi4 q_18 (by have h9_ := hq_18; simp at h9_ ⊢; omega) hFa1 hFb1 hFa2 hFb2 hFa3 hFb3 hFa4 hFb4 hPd1 hPd2 hPd3 hPd4 hPs1 hPs2 hPs3 hPs4 hPi1 hPi2 hPi3 hPi4) mv_X0_pass wd_36_12 ⟨Nat.le_of_ble_eq_true rfl, Nat.le_of_ble_eq_true rfl⟩ ⟨Nat.le_of_ble_eq_true rfl, Nat.le_of_ble_eq_true rfl⟩ hH hS (tRecv hK hH (tyb hq_18 (all1 rfl)) clX0) rfl hl.1 (Nat.le_of_ble_eq_true rfl) dX1_daysUntil_50 (fun H locs hq hS => ?_)
      have hH := hq
      have hH : TH E (tbC (dayD (.inl (0, 18))) (dayD (.inl (0, 18))) (riverD (.inl Fa1) (.inl Fb1) (.inl (0, 4)) 31 33 35 39 43 47) (riverD (.inl Fa2) (.inl Fb2) (.inl (0, 4)) 32 34 36 40 44 48) rc rd tp A14F A14F A4F A4F A14F A14F (riverD (.inl Fa3) (.inl Fb3) (.inl (0, 4)) 3 8 3 41 45 49) (riverD (.inl Fa4) (.inl Fb4) (.inl (0, 4)) 3 8 3 42 46 50) ((.inr (.inl (0, 12, Pd1)))) ((.inr (.inl (0, 12, Pd2)))) ((.inr (.inl (0, 12, Pd3)))) ((.inr (.inl (0, 12, Pd4)))) ((.inr (.inl (0, 12, Ps1)))) ((.inr (.inl (0, 12, Ps2)))) ((.inr (.inl (0, 12, Ps3)))) ((.inr (.inl (0, 12, Ps4)))) ((.inr (.inl (0, 48, Pi1)))) ((.inr (.inl (0, 48, Pi2)))) ((.inr (.inl (0, 48, Pi3)))) ((.inr (.inl (0, 48, Pi4))))) H := hH
      obtain ⟨x_20, ex_20, hx_20⟩ := iincB (c := 1) (lo := 1) (hi := 361) r_10 rfl
      refine lv_iinc (v := x_20) (lv' := [(3, .int x_20), (0, .ref a0), (1, .int a1), (2, .int a2)]) F.1 F.2.1 dX1_daysUntil_53 hl (k := 3) rfl ex_20 (by decide) rfl (fun ls hl => ?_)
      refine lv_goto (tgt := 17) F.1 F.2.1 dX1_daysUntil_56 (by decide) ?_
      exact ih_17 (x_20) _ _ _ ⟨(show (361 - x_20.toInt + 1).toNat < n_17 from by omega), (wkb hx_20.2 rfl rfl), hH, hS, lv_sub hl [1, 2, 3, 0] rfl⟩
    · skip
      refine lv_iload_n F.1 F.2.1 dX1_daysUntil_37 rfl (lv_at hl 3 rfl) ?_
      exact txI F hS dX1_daysUntil_38 rfl (⟨(wkb r_10 rfl rfl), hH⟩)
