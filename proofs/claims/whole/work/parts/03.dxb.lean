theorem dX7_init_0 : decode cX7_init 0 = .ok (.aload_n 0, 1) := by decide +kernel
theorem dX7_init_1 : decode cX7_init 1 = .ok (.invokespecial 3, 3) := by decide +kernel
theorem dX7_init_4 : decode cX7_init 4 = .ok (.aload_n 0, 1) := by decide +kernel
theorem dX7_init_5 : decode cX7_init 5 = .ok (.new 9, 3) := by decide +kernel
theorem dX7_init_8 : decode cX7_init 8 = .ok (.dup, 1) := by decide +kernel
theorem dX7_init_9 : decode cX7_init 9 = .ok (.invokespecial 11, 3) := by decide +kernel
theorem dX7_init_12 : decode cX7_init 12 = .ok (.putfield 12, 3) := by decide +kernel
theorem dX7_init_15 : decode cX7_init 15 = .ok (.aload_n 0, 1) := by decide +kernel
theorem dX7_init_16 : decode cX7_init 16 = .ok (.new 16, 3) := by decide +kernel
theorem dX7_init_19 : decode cX7_init 19 = .ok (.dup, 1) := by decide +kernel
theorem dX7_init_20 : decode cX7_init 20 = .ok (.invokespecial 18, 3) := by decide +kernel
theorem dX7_init_23 : decode cX7_init 23 = .ok (.putfield 19, 3) := by decide +kernel
theorem dX7_init_26 : decode cX7_init 26 = .ok (.aload_n 0, 1) := by decide +kernel
theorem dX7_init_27 : decode cX7_init 27 = .ok (.new 16, 3) := by decide +kernel
theorem dX7_init_30 : decode cX7_init 30 = .ok (.dup, 1) := by decide +kernel
theorem dX7_init_31 : decode cX7_init 31 = .ok (.invokespecial 18, 3) := by decide +kernel
theorem dX7_init_34 : decode cX7_init 34 = .ok (.putfield 23, 3) := by decide +kernel
theorem dX7_init_37 : decode cX7_init 37 = .ok (.aload_n 0, 1) := by decide +kernel
theorem dX7_init_38 : decode cX7_init 38 = .ok (.new 26, 3) := by decide +kernel
theorem dX7_init_41 : decode cX7_init 41 = .ok (.dup, 1) := by decide +kernel
theorem dX7_init_42 : decode cX7_init 42 = .ok (.invokespecial 28, 3) := by decide +kernel
theorem dX7_init_45 : decode cX7_init 45 = .ok (.putfield 29, 3) := by decide +kernel
theorem dX7_init_48 : decode cX7_init 48 = .ok (.aload_n 0, 1) := by decide +kernel
theorem dX7_init_49 : decode cX7_init 49 = .ok (.new 33, 3) := by decide +kernel
theorem dX7_init_52 : decode cX7_init 52 = .ok (.dup, 1) := by decide +kernel
theorem dX7_init_53 : decode cX7_init 53 = .ok (.invokespecial 35, 3) := by decide +kernel
theorem dX7_init_56 : decode cX7_init 56 = .ok (.putfield 36, 3) := by decide +kernel
theorem dX7_init_59 : decode cX7_init 59 = .ok (.aload_n 0, 1) := by decide +kernel
theorem dX7_init_60 : decode cX7_init 60 = .ok (.new 40, 3) := by decide +kernel
theorem dX7_init_63 : decode cX7_init 63 = .ok (.dup, 1) := by decide +kernel
theorem dX7_init_64 : decode cX7_init 64 = .ok (.invokespecial 42, 3) := by decide +kernel
theorem dX7_init_67 : decode cX7_init 67 = .ok (.putfield 43, 3) := by decide +kernel
theorem dX7_init_70 : decode cX7_init 70 = .ok (.aload_n 0, 1) := by decide +kernel
theorem dX7_init_71 : decode cX7_init 71 = .ok (.new 47, 3) := by decide +kernel
theorem dX7_init_74 : decode cX7_init 74 = .ok (.dup, 1) := by decide +kernel
theorem dX7_init_75 : decode cX7_init 75 = .ok (.invokespecial 49, 3) := by decide +kernel
theorem dX7_init_78 : decode cX7_init 78 = .ok (.putfield 50, 3) := by decide +kernel
theorem dX7_init_81 : decode cX7_init 81 = .ok (.aload_n 0, 1) := by decide +kernel
theorem dX7_init_82 : decode cX7_init 82 = .ok (.iconst 4, 1) := by decide +kernel
theorem dX7_init_83 : decode cX7_init 83 = .ok (.anewarray 54, 3) := by decide +kernel
theorem dX7_init_86 : decode cX7_init 86 = .ok (.putfield 56, 3) := by decide +kernel
theorem dX7_init_89 : decode cX7_init 89 = .ok (.iconst 0, 1) := by decide +kernel
theorem dX7_init_90 : decode cX7_init 90 = .ok (.istore_n 1, 1) := by decide +kernel
theorem dX7_init_91 : decode cX7_init 91 = .ok (.iload_n 1, 1) := by decide +kernel
theorem dX7_init_92 : decode cX7_init 92 = .ok (.iconst 4, 1) := by decide +kernel
theorem dX7_init_93 : decode cX7_init 93 = .ok (.if_icmp .ge 22, 3) := by decide +kernel
theorem dX7_init_96 : decode cX7_init 96 = .ok (.aload_n 0, 1) := by decide +kernel
theorem dX7_init_97 : decode cX7_init 97 = .ok (.getfield 56, 3) := by decide +kernel
theorem dX7_init_100 : decode cX7_init 100 = .ok (.iload_n 1, 1) := by decide +kernel
theorem dX7_init_101 : decode cX7_init 101 = .ok (.new 54, 3) := by decide +kernel
theorem dX7_init_104 : decode cX7_init 104 = .ok (.dup, 1) := by decide +kernel
theorem dX7_init_105 : decode cX7_init 105 = .ok (.invokespecial 60, 3) := by decide +kernel
theorem dX7_init_108 : decode cX7_init 108 = .ok (.aastore, 1) := by decide +kernel
theorem dX7_init_109 : decode cX7_init 109 = .ok (.iinc 1 1, 3) := by decide +kernel
theorem dX7_init_112 : decode cX7_init 112 = .ok (.goto (-21), 3) := by decide +kernel
theorem dX7_init_115 : decode cX7_init 115 = .ok (.aload_n 0, 1) := by decide +kernel
theorem dX7_init_116 : decode cX7_init 116 = .ok (.iconst 2, 1) := by decide +kernel
theorem dX7_init_117 : decode cX7_init 117 = .ok (.anewarray 16, 3) := by decide +kernel
theorem dX7_init_120 : decode cX7_init 120 = .ok (.putfield 61, 3) := by decide +kernel
theorem dX7_init_123 : decode cX7_init 123 = .ok (.aload_n 0, 1) := by decide +kernel
theorem dX7_init_124 : decode cX7_init 124 = .ok (.iconst 2, 1) := by decide +kernel
theorem dX7_init_125 : decode cX7_init 125 = .ok (.newarray .boolean, 2) := by decide +kernel
theorem dX7_init_127 : decode cX7_init 127 = .ok (.putfield 65, 3) := by decide +kernel
theorem dX7_init_130 : decode cX7_init 130 = .ok (.iconst 0, 1) := by decide +kernel
theorem dX7_init_131 : decode cX7_init 131 = .ok (.istore_n 1, 1) := by decide +kernel
theorem dX7_init_132 : decode cX7_init 132 = .ok (.iload_n 1, 1) := by decide +kernel
theorem dX7_init_133 : decode cX7_init 133 = .ok (.iconst 2, 1) := by decide +kernel
theorem dX7_init_134 : decode cX7_init 134 = .ok (.if_icmp .ge 22, 3) := by decide +kernel
theorem dX7_init_137 : decode cX7_init 137 = .ok (.aload_n 0, 1) := by decide +kernel
theorem dX7_init_138 : decode cX7_init 138 = .ok (.getfield 61, 3) := by decide +kernel
theorem dX7_init_141 : decode cX7_init 141 = .ok (.iload_n 1, 1) := by decide +kernel
theorem dX7_init_142 : decode cX7_init 142 = .ok (.new 16, 3) := by decide +kernel
theorem dX7_init_145 : decode cX7_init 145 = .ok (.dup, 1) := by decide +kernel
theorem dX7_init_146 : decode cX7_init 146 = .ok (.invokespecial 18, 3) := by decide +kernel
theorem dX7_init_149 : decode cX7_init 149 = .ok (.aastore, 1) := by decide +kernel
theorem dX7_init_150 : decode cX7_init 150 = .ok (.iinc 1 1, 3) := by decide +kernel
theorem dX7_init_153 : decode cX7_init 153 = .ok (.goto (-21), 3) := by decide +kernel
theorem dX7_init_156 : decode cX7_init 156 = .ok (.return_, 1) := by decide +kernel
theorem dX7_feed_0 : decode cX7_feed 0 = .ok (.aload_n 0, 1) := by decide +kernel
theorem dX7_feed_1 : decode cX7_feed 1 = .ok (.getfield 12, 3) := by decide +kernel
theorem dX7_feed_4 : decode cX7_feed 4 = .ok (.getfield 69, 3) := by decide +kernel
theorem dX7_feed_7 : decode cX7_feed 7 = .ok (.bipush 20, 2) := by decide +kernel
theorem dX7_feed_9 : decode cX7_feed 9 = .ok (.iadd, 1) := by decide +kernel
theorem dX7_feed_10 : decode cX7_feed 10 = .ok (.sipush 900, 3) := by decide +kernel
theorem dX7_feed_13 : decode cX7_feed 13 = .ok (.if_icmp .le 6, 3) := by decide +kernel
theorem dX7_feed_16 : decode cX7_feed 16 = .ok (.bipush (-5), 2) := by decide +kernel
theorem dX7_feed_18 : decode cX7_feed 18 = .ok (.ireturn, 1) := by decide +kernel
theorem dX7_feed_19 : decode cX7_feed 19 = .ok (.aload_n 0, 1) := by decide +kernel
theorem dX7_feed_20 : decode cX7_feed 20 = .ok (.getfield 12, 3) := by decide +kernel
theorem dX7_feed_23 : decode cX7_feed 23 = .ok (.iload_n 1, 1) := by decide +kernel
theorem dX7_feed_24 : decode cX7_feed 24 = .ok (.invokevirtual 73, 3) := by decide +kernel
theorem dX7_feed_27 : decode cX7_feed 27 = .ok (.aload_n 0, 1) := by decide +kernel
theorem dX7_feed_28 : decode cX7_feed 28 = .ok (.getfield 12, 3) := by decide +kernel
theorem dX7_feed_31 : decode cX7_feed 31 = .ok (.iload_n 2, 1) := by decide +kernel
theorem dX7_feed_32 : decode cX7_feed 32 = .ok (.invokevirtual 73, 3) := by decide +kernel
theorem dX7_feed_35 : decode cX7_feed 35 = .ok (.aload_n 0, 1) := by decide +kernel
theorem dX7_feed_36 : decode cX7_feed 36 = .ok (.getfield 12, 3) := by decide +kernel
theorem dX7_feed_39 : decode cX7_feed 39 = .ok (.iload_n 3, 1) := by decide +kernel
theorem dX7_feed_40 : decode cX7_feed 40 = .ok (.invokevirtual 73, 3) := by decide +kernel
theorem dX7_feed_43 : decode cX7_feed 43 = .ok (.aload_n 0, 1) := by decide +kernel
theorem dX7_feed_44 : decode cX7_feed 44 = .ok (.getfield 12, 3) := by decide +kernel
theorem dX7_feed_47 : decode cX7_feed 47 = .ok (.iload 4, 2) := by decide +kernel
theorem dX7_feed_49 : decode cX7_feed 49 = .ok (.invokevirtual 73, 3) := by decide +kernel
theorem dX7_feed_52 : decode cX7_feed 52 = .ok (.aload_n 0, 1) := by decide +kernel
theorem dX7_feed_53 : decode cX7_feed 53 = .ok (.getfield 12, 3) := by decide +kernel
theorem dX7_feed_56 : decode cX7_feed 56 = .ok (.iload 5, 2) := by decide +kernel
theorem dX7_feed_58 : decode cX7_feed 58 = .ok (.invokevirtual 73, 3) := by decide +kernel
theorem dX7_feed_61 : decode cX7_feed 61 = .ok (.aload_n 0, 1) := by decide +kernel
theorem dX7_feed_62 : decode cX7_feed 62 = .ok (.getfield 12, 3) := by decide +kernel
theorem dX7_feed_65 : decode cX7_feed 65 = .ok (.getfield 69, 3) := by decide +kernel
theorem dX7_feed_68 : decode cX7_feed 68 = .ok (.ireturn, 1) := by decide +kernel
theorem dX7_court_0 : decode cX7_court 0 = .ok (.iload_n 1, 1) := by decide +kernel
theorem dX7_court_1 : decode cX7_court 1 = .ok (.ifCond .lt 14, 3) := by decide +kernel
theorem dX7_court_4 : decode cX7_court 4 = .ok (.iload_n 1, 1) := by decide +kernel
theorem dX7_court_5 : decode cX7_court 5 = .ok (.aload_n 0, 1) := by decide +kernel
theorem dX7_court_6 : decode cX7_court 6 = .ok (.getfield 12, 3) := by decide +kernel
theorem dX7_court_9 : decode cX7_court 9 = .ok (.getfield 69, 3) := by decide +kernel
theorem dX7_court_12 : decode cX7_court 12 = .ok (.if_icmp .le 6, 3) := by decide +kernel
theorem dX7_court_15 : decode cX7_court 15 = .ok (.bipush (-3), 2) := by decide +kernel
theorem dX7_court_17 : decode cX7_court 17 = .ok (.ireturn, 1) := by decide +kernel
theorem dX7_court_18 : decode cX7_court 18 = .ok (.aload_n 0, 1) := by decide +kernel
theorem dX7_court_19 : decode cX7_court 19 = .ok (.getfield 12, 3) := by decide +kernel
theorem dX7_court_22 : decode cX7_court 22 = .ok (.aload_n 0, 1) := by decide +kernel
theorem dX7_court_23 : decode cX7_court 23 = .ok (.getfield 23, 3) := by decide +kernel
theorem dX7_court_26 : decode cX7_court 26 = .ok (.iload_n 1, 1) := by decide +kernel
theorem dX7_court_27 : decode cX7_court 27 = .ok (.invokevirtual 77, 3) := by decide +kernel
theorem dX7_court_30 : decode cX7_court 30 = .ok (.aload_n 0, 1) := by decide +kernel
theorem dX7_court_31 : decode cX7_court 31 = .ok (.getfield 12, 3) := by decide +kernel
theorem dX7_court_34 : decode cX7_court 34 = .ok (.getfield 81, 3) := by decide +kernel
theorem dX7_court_37 : decode cX7_court 37 = .ok (.ifCond .eq 14, 3) := by decide +kernel
theorem dX7_court_40 : decode cX7_court 40 = .ok (.bipush (-30), 2) := by decide +kernel
theorem dX7_court_42 : decode cX7_court 42 = .ok (.aload_n 0, 1) := by decide +kernel
theorem dX7_court_43 : decode cX7_court 43 = .ok (.getfield 12, 3) := by decide +kernel
theorem dX7_court_46 : decode cX7_court 46 = .ok (.getfield 81, 3) := by decide +kernel
theorem dX7_court_49 : decode cX7_court 49 = .ok (.isub, 1) := by decide +kernel
theorem dX7_court_50 : decode cX7_court 50 = .ok (.ireturn, 1) := by decide +kernel
theorem dX7_court_51 : decode cX7_court 51 = .ok (.aload_n 0, 1) := by decide +kernel
theorem dX7_court_52 : decode cX7_court 52 = .ok (.getfield 23, 3) := by decide +kernel
theorem dX7_court_55 : decode cX7_court 55 = .ok (.astore_n 2, 1) := by decide +kernel
theorem dX7_court_56 : decode cX7_court 56 = .ok (.aload_n 0, 1) := by decide +kernel
theorem dX7_court_57 : decode cX7_court 57 = .ok (.aload_n 0, 1) := by decide +kernel
theorem dX7_court_58 : decode cX7_court 58 = .ok (.getfield 19, 3) := by decide +kernel
theorem dX7_court_61 : decode cX7_court 61 = .ok (.putfield 23, 3) := by decide +kernel
theorem dX7_court_64 : decode cX7_court 64 = .ok (.aload_n 0, 1) := by decide +kernel
theorem dX7_court_65 : decode cX7_court 65 = .ok (.aload_n 2, 1) := by decide +kernel
theorem dX7_court_66 : decode cX7_court 66 = .ok (.putfield 19, 3) := by decide +kernel
theorem dX7_court_69 : decode cX7_court 69 = .ok (.aload_n 0, 1) := by decide +kernel
theorem dX7_court_70 : decode cX7_court 70 = .ok (.getfield 19, 3) := by decide +kernel
theorem dX7_court_73 : decode cX7_court 73 = .ok (.getfield 84, 3) := by decide +kernel
theorem dX7_court_76 : decode cX7_court 76 = .ok (.ireturn, 1) := by decide +kernel
theorem dX7_fault_0 : decode cX7_fault 0 = .ok (.iload_n 1, 1) := by decide +kernel
theorem dX7_fault_1 : decode cX7_fault 1 = .ok (.lookupswitch 43 #[(0, 27), (1, 35)], 27) := by decide +kernel
theorem dX7_fault_28 : decode cX7_fault 28 = .ok (.aload_n 0, 1) := by decide +kernel
theorem dX7_fault_29 : decode cX7_fault 29 = .ok (.getfield 12, 3) := by decide +kernel
theorem dX7_fault_32 : decode cX7_fault 32 = .ok (.getfield 81, 3) := by decide +kernel
theorem dX7_fault_35 : decode cX7_fault 35 = .ok (.ireturn, 1) := by decide +kernel
theorem dX7_fault_36 : decode cX7_fault 36 = .ok (.aload_n 0, 1) := by decide +kernel
theorem dX7_fault_37 : decode cX7_fault 37 = .ok (.getfield 12, 3) := by decide +kernel
theorem dX7_fault_40 : decode cX7_fault 40 = .ok (.getfield 87, 3) := by decide +kernel
theorem dX7_fault_43 : decode cX7_fault 43 = .ok (.ireturn, 1) := by decide +kernel
theorem dX7_fault_44 : decode cX7_fault 44 = .ok (.iconst (-1), 1) := by decide +kernel
theorem dX7_fault_45 : decode cX7_fault 45 = .ok (.ireturn, 1) := by decide +kernel
theorem dX7_window_0 : decode cX7_window 0 = .ok (.aload_n 0, 1) := by decide +kernel
theorem dX7_window_1 : decode cX7_window 1 = .ok (.getfield 19, 3) := by decide +kernel
theorem dX7_window_4 : decode cX7_window 4 = .ok (.iload_n 1, 1) := by decide +kernel
theorem dX7_window_5 : decode cX7_window 5 = .ok (.invokevirtual 90, 3) := by decide +kernel
theorem dX7_window_8 : decode cX7_window 8 = .ok (.ifCond .ne 6, 3) := by decide +kernel
theorem dX7_window_11 : decode cX7_window 11 = .ok (.bipush (-2), 2) := by decide +kernel
theorem dX7_window_13 : decode cX7_window 13 = .ok (.ireturn, 1) := by decide +kernel
theorem dX7_window_14 : decode cX7_window 14 = .ok (.iload_n 2, 1) := by decide +kernel
theorem dX7_window_15 : decode cX7_window 15 = .ok (.tableswitch 63 0 3 #[29, 39, 48, 57], 29) := by decide +kernel
theorem dX7_window_44 : decode cX7_window 44 = .ok (.aload_n 0, 1) := by decide +kernel
theorem dX7_window_45 : decode cX7_window 45 = .ok (.getfield 19, 3) := by decide +kernel
theorem dX7_window_48 : decode cX7_window 48 = .ok (.getfield 94, 3) := by decide +kernel
theorem dX7_window_51 : decode cX7_window 51 = .ok (.iload_n 1, 1) := by decide +kernel
theorem dX7_window_52 : decode cX7_window 52 = .ok (.iaload, 1) := by decide +kernel
theorem dX7_window_53 : decode cX7_window 53 = .ok (.ireturn, 1) := by decide +kernel
theorem dX7_window_54 : decode cX7_window 54 = .ok (.aload_n 0, 1) := by decide +kernel
theorem dX7_window_55 : decode cX7_window 55 = .ok (.getfield 19, 3) := by decide +kernel
theorem dX7_window_58 : decode cX7_window 58 = .ok (.iload_n 1, 1) := by decide +kernel
theorem dX7_window_59 : decode cX7_window 59 = .ok (.invokevirtual 98, 3) := by decide +kernel
theorem dX7_window_62 : decode cX7_window 62 = .ok (.ireturn, 1) := by decide +kernel
theorem dX7_window_63 : decode cX7_window 63 = .ok (.aload_n 0, 1) := by decide +kernel
theorem dX7_window_64 : decode cX7_window 64 = .ok (.iload_n 1, 1) := by decide +kernel
theorem dX7_window_65 : decode cX7_window 65 = .ok (.invokevirtual 102, 3) := by decide +kernel
theorem dX7_window_68 : decode cX7_window 68 = .ok (.invokestatic 105, 3) := by decide +kernel
theorem dX7_window_71 : decode cX7_window 71 = .ok (.ireturn, 1) := by decide +kernel
theorem dX7_window_72 : decode cX7_window 72 = .ok (.aload_n 0, 1) := by decide +kernel
theorem dX7_window_73 : decode cX7_window 73 = .ok (.iload_n 1, 1) := by decide +kernel
theorem dX7_window_74 : decode cX7_window 74 = .ok (.invokevirtual 102, 3) := by decide +kernel
theorem dX7_window_77 : decode cX7_window 77 = .ok (.ireturn, 1) := by decide +kernel
theorem dX7_window_78 : decode cX7_window 78 = .ok (.bipush (-2), 2) := by decide +kernel
theorem dX7_window_80 : decode cX7_window 80 = .ok (.ireturn, 1) := by decide +kernel
theorem dX7_cross_0 : decode cX7_cross 0 = .ok (.aload_n 0, 1) := by decide +kernel
theorem dX7_cross_1 : decode cX7_cross 1 = .ok (.getfield 19, 3) := by decide +kernel
theorem dX7_cross_4 : decode cX7_cross 4 = .ok (.iload_n 1, 1) := by decide +kernel
theorem dX7_cross_5 : decode cX7_cross 5 = .ok (.i2l, 1) := by decide +kernel
theorem dX7_cross_6 : decode cX7_cross 6 = .ok (.invokevirtual 110, 3) := by decide +kernel
theorem dX7_cross_9 : decode cX7_cross 9 = .ok (.ifCond .eq 15, 3) := by decide +kernel
theorem dX7_cross_12 : decode cX7_cross 12 = .ok (.aload_n 0, 1) := by decide +kernel
theorem dX7_cross_13 : decode cX7_cross 13 = .ok (.getfield 19, 3) := by decide +kernel
theorem dX7_cross_16 : decode cX7_cross 16 = .ok (.iload_n 2, 1) := by decide +kernel
theorem dX7_cross_17 : decode cX7_cross 17 = .ok (.i2l, 1) := by decide +kernel
theorem dX7_cross_18 : decode cX7_cross 18 = .ok (.invokevirtual 110, 3) := by decide +kernel
theorem dX7_cross_21 : decode cX7_cross 21 = .ok (.ifCond .ne 6, 3) := by decide +kernel
theorem dX7_cross_24 : decode cX7_cross 24 = .ok (.bipush (-2), 2) := by decide +kernel
theorem dX7_cross_26 : decode cX7_cross 26 = .ok (.ireturn, 1) := by decide +kernel
theorem dX7_cross_27 : decode cX7_cross 27 = .ok (.iload_n 1, 1) := by decide +kernel
theorem dX7_cross_28 : decode cX7_cross 28 = .ok (.iload_n 2, 1) := by decide +kernel
theorem dX7_cross_29 : decode cX7_cross 29 = .ok (.invokestatic 114, 3) := by decide +kernel
theorem dX7_cross_32 : decode cX7_cross 32 = .ok (.ifCond .eq 7, 3) := by decide +kernel
theorem dX7_cross_35 : decode cX7_cross 35 = .ok (.iconst 1, 1) := by decide +kernel
theorem dX7_cross_36 : decode cX7_cross 36 = .ok (.goto 4, 3) := by decide +kernel
theorem dX7_cross_39 : decode cX7_cross 39 = .ok (.iconst 0, 1) := by decide +kernel
theorem dX7_cross_40 : decode cX7_cross 40 = .ok (.ireturn, 1) := by decide +kernel
theorem dX7_pair_0 : decode cX7_pair 0 = .ok (.aload_n 0, 1) := by decide +kernel
theorem dX7_pair_1 : decode cX7_pair 1 = .ok (.getfield 19, 3) := by decide +kernel
theorem dX7_pair_4 : decode cX7_pair 4 = .ok (.iload_n 1, 1) := by decide +kernel
theorem dX7_pair_5 : decode cX7_pair 5 = .ok (.i2l, 1) := by decide +kernel
theorem dX7_pair_6 : decode cX7_pair 6 = .ok (.invokevirtual 110, 3) := by decide +kernel
theorem dX7_pair_9 : decode cX7_pair 9 = .ok (.ifCond .ne 6, 3) := by decide +kernel
theorem dX7_pair_12 : decode cX7_pair 12 = .ok (.bipush (-2), 2) := by decide +kernel
theorem dX7_pair_14 : decode cX7_pair 14 = .ok (.ireturn, 1) := by decide +kernel
theorem dX7_pair_15 : decode cX7_pair 15 = .ok (.aload_n 0, 1) := by decide +kernel
theorem dX7_pair_16 : decode cX7_pair 16 = .ok (.getfield 19, 3) := by decide +kernel
theorem dX7_pair_19 : decode cX7_pair 19 = .ok (.iload_n 1, 1) := by decide +kernel
theorem dX7_pair_20 : decode cX7_pair 20 = .ok (.invokevirtual 118, 3) := by decide +kernel
theorem dX7_pair_23 : decode cX7_pair 23 = .ok (.istore_n 3, 1) := by decide +kernel
theorem dX7_pair_24 : decode cX7_pair 24 = .ok (.iload_n 2, 1) := by decide +kernel
theorem dX7_pair_25 : decode cX7_pair 25 = .ok (.tableswitch 108 0 3 #[31, 40, 59, 84], 31) := by decide +kernel
theorem dX7_pair_56 : decode cX7_pair 56 = .ok (.aload_n 0, 1) := by decide +kernel
theorem dX7_pair_57 : decode cX7_pair 57 = .ok (.getfield 19, 3) := by decide +kernel
theorem dX7_pair_60 : decode cX7_pair 60 = .ok (.iload_n 1, 1) := by decide +kernel
theorem dX7_pair_61 : decode cX7_pair 61 = .ok (.invokevirtual 121, 3) := by decide +kernel
theorem dX7_pair_64 : decode cX7_pair 64 = .ok (.ireturn, 1) := by decide +kernel
theorem dX7_pair_65 : decode cX7_pair 65 = .ok (.iload_n 3, 1) := by decide +kernel
theorem dX7_pair_66 : decode cX7_pair 66 = .ok (.iconst (-1), 1) := by decide +kernel
theorem dX7_pair_67 : decode cX7_pair 67 = .ok (.if_icmp .ne 7, 3) := by decide +kernel
theorem dX7_pair_70 : decode cX7_pair 70 = .ok (.iconst (-1), 1) := by decide +kernel
theorem dX7_pair_71 : decode cX7_pair 71 = .ok (.goto 12, 3) := by decide +kernel
theorem dX7_pair_74 : decode cX7_pair 74 = .ok (.aload_n 0, 1) := by decide +kernel
theorem dX7_pair_75 : decode cX7_pair 75 = .ok (.getfield 19, 3) := by decide +kernel
theorem dX7_pair_78 : decode cX7_pair 78 = .ok (.getfield 124, 3) := by decide +kernel
theorem dX7_pair_81 : decode cX7_pair 81 = .ok (.iload_n 3, 1) := by decide +kernel
theorem dX7_pair_82 : decode cX7_pair 82 = .ok (.iaload, 1) := by decide +kernel
theorem dX7_pair_83 : decode cX7_pair 83 = .ok (.ireturn, 1) := by decide +kernel
theorem dX7_pair_84 : decode cX7_pair 84 = .ok (.iload_n 3, 1) := by decide +kernel
theorem dX7_pair_85 : decode cX7_pair 85 = .ok (.iconst (-1), 1) := by decide +kernel
theorem dX7_pair_86 : decode cX7_pair 86 = .ok (.if_icmp .ne 14, 3) := by decide +kernel
theorem dX7_pair_89 : decode cX7_pair 89 = .ok (.aload_n 0, 1) := by decide +kernel
theorem dX7_pair_90 : decode cX7_pair 90 = .ok (.getfield 19, 3) := by decide +kernel
theorem dX7_pair_93 : decode cX7_pair 93 = .ok (.iload_n 1, 1) := by decide +kernel
theorem dX7_pair_94 : decode cX7_pair 94 = .ok (.invokevirtual 127, 3) := by decide +kernel
theorem dX7_pair_97 : decode cX7_pair 97 = .ok (.goto 11, 3) := by decide +kernel
theorem dX7_pair_100 : decode cX7_pair 100 = .ok (.aload_n 0, 1) := by decide +kernel
theorem dX7_pair_101 : decode cX7_pair 101 = .ok (.getfield 19, 3) := by decide +kernel
theorem dX7_pair_104 : decode cX7_pair 104 = .ok (.iload_n 3, 1) := by decide +kernel
theorem dX7_pair_105 : decode cX7_pair 105 = .ok (.invokevirtual 130, 3) := by decide +kernel
theorem dX7_pair_108 : decode cX7_pair 108 = .ok (.ireturn, 1) := by decide +kernel
theorem dX7_pair_109 : decode cX7_pair 109 = .ok (.aload_n 0, 1) := by decide +kernel
theorem dX7_pair_110 : decode cX7_pair 110 = .ok (.getfield 19, 3) := by decide +kernel
theorem dX7_pair_113 : decode cX7_pair 113 = .ok (.iload_n 1, 1) := by decide +kernel
theorem dX7_pair_114 : decode cX7_pair 114 = .ok (.aload_n 0, 1) := by decide +kernel
theorem dX7_pair_115 : decode cX7_pair 115 = .ok (.getfield 19, 3) := by decide +kernel
theorem dX7_pair_118 : decode cX7_pair 118 = .ok (.getfield 133, 3) := by decide +kernel
theorem dX7_pair_121 : decode cX7_pair 121 = .ok (.invokevirtual 136, 3) := by decide +kernel
theorem dX7_pair_124 : decode cX7_pair 124 = .ok (.ifCond .eq 7, 3) := by decide +kernel
theorem dX7_pair_127 : decode cX7_pair 127 = .ok (.iconst 1, 1) := by decide +kernel
theorem dX7_pair_128 : decode cX7_pair 128 = .ok (.goto 4, 3) := by decide +kernel
theorem dX7_pair_131 : decode cX7_pair 131 = .ok (.iconst 0, 1) := by decide +kernel
theorem dX7_pair_132 : decode cX7_pair 132 = .ok (.ireturn, 1) := by decide +kernel
theorem dX7_pair_133 : decode cX7_pair 133 = .ok (.bipush (-2), 2) := by decide +kernel
theorem dX7_pair_135 : decode cX7_pair 135 = .ok (.ireturn, 1) := by decide +kernel
theorem dX7_may_0 : decode cX7_may 0 = .ok (.aload_n 0, 1) := by decide +kernel
theorem dX7_may_1 : decode cX7_may 1 = .ok (.getfield 19, 3) := by decide +kernel
theorem dX7_may_4 : decode cX7_may 4 = .ok (.iload_n 1, 1) := by decide +kernel
theorem dX7_may_5 : decode cX7_may 5 = .ok (.invokevirtual 139, 3) := by decide +kernel
theorem dX7_may_8 : decode cX7_may 8 = .ok (.ireturn, 1) := by decide +kernel
theorem dX7_tie_0 : decode cX7_tie 0 = .ok (.aload_n 0, 1) := by decide +kernel
theorem dX7_tie_1 : decode cX7_tie 1 = .ok (.getfield 19, 3) := by decide +kernel
theorem dX7_tie_4 : decode cX7_tie 4 = .ok (.iload_n 1, 1) := by decide +kernel
theorem dX7_tie_5 : decode cX7_tie 5 = .ok (.invokevirtual 139, 3) := by decide +kernel
theorem dX7_tie_8 : decode cX7_tie 8 = .ok (.istore_n 3, 1) := by decide +kernel
theorem dX7_tie_9 : decode cX7_tie 9 = .ok (.iload_n 3, 1) := by decide +kernel
theorem dX7_tie_10 : decode cX7_tie 10 = .ok (.ifCond .eq 8, 3) := by decide +kernel
theorem dX7_tie_13 : decode cX7_tie 13 = .ok (.bipush (-10), 2) := by decide +kernel
theorem dX7_tie_15 : decode cX7_tie 15 = .ok (.iload_n 3, 1) := by decide +kernel
theorem dX7_tie_16 : decode cX7_tie 16 = .ok (.isub, 1) := by decide +kernel
theorem dX7_tie_17 : decode cX7_tie 17 = .ok (.ireturn, 1) := by decide +kernel
theorem dX7_tie_18 : decode cX7_tie 18 = .ok (.iload_n 2, 1) := by decide +kernel
theorem dX7_tie_19 : decode cX7_tie 19 = .ok (.ifCond .lt 9, 3) := by decide +kernel
theorem dX7_tie_22 : decode cX7_tie 22 = .ok (.iload_n 2, 1) := by decide +kernel
theorem dX7_tie_23 : decode cX7_tie 23 = .ok (.bipush 9, 2) := by decide +kernel
theorem dX7_tie_25 : decode cX7_tie 25 = .ok (.if_icmp .le 6, 3) := by decide +kernel
theorem dX7_tie_28 : decode cX7_tie 28 = .ok (.bipush (-3), 2) := by decide +kernel
theorem dX7_tie_30 : decode cX7_tie 30 = .ok (.ireturn, 1) := by decide +kernel
theorem dX7_tie_31 : decode cX7_tie 31 = .ok (.aload_n 0, 1) := by decide +kernel
theorem dX7_tie_32 : decode cX7_tie 32 = .ok (.getfield 19, 3) := by decide +kernel
theorem dX7_tie_35 : decode cX7_tie 35 = .ok (.iload_n 1, 1) := by decide +kernel
theorem dX7_tie_36 : decode cX7_tie 36 = .ok (.iload_n 2, 1) := by decide +kernel
theorem dX7_tie_37 : decode cX7_tie 37 = .ok (.invokevirtual 142, 3) := by decide +kernel
theorem dX7_tie_40 : decode cX7_tie 40 = .ok (.aload_n 0, 1) := by decide +kernel
theorem dX7_tie_41 : decode cX7_tie 41 = .ok (.getfield 19, 3) := by decide +kernel
theorem dX7_tie_44 : decode cX7_tie 44 = .ok (.getfield 146, 3) := by decide +kernel
theorem dX7_tie_47 : decode cX7_tie 47 = .ok (.ireturn, 1) := by decide +kernel
theorem dX7_cut_0 : decode cX7_cut 0 = .ok (.aload_n 0, 1) := by decide +kernel
theorem dX7_cut_1 : decode cX7_cut 1 = .ok (.getfield 19, 3) := by decide +kernel
theorem dX7_cut_4 : decode cX7_cut 4 = .ok (.iload_n 1, 1) := by decide +kernel
theorem dX7_cut_5 : decode cX7_cut 5 = .ok (.invokevirtual 118, 3) := by decide +kernel
theorem dX7_cut_8 : decode cX7_cut 8 = .ok (.istore_n 2, 1) := by decide +kernel
theorem dX7_cut_9 : decode cX7_cut 9 = .ok (.iload_n 2, 1) := by decide +kernel
theorem dX7_cut_10 : decode cX7_cut 10 = .ok (.iconst (-1), 1) := by decide +kernel
theorem dX7_cut_11 : decode cX7_cut 11 = .ok (.if_icmp .ne 6, 3) := by decide +kernel
theorem dX7_cut_14 : decode cX7_cut 14 = .ok (.bipush (-2), 2) := by decide +kernel
theorem dX7_cut_16 : decode cX7_cut 16 = .ok (.ireturn, 1) := by decide +kernel
theorem dX7_cut_17 : decode cX7_cut 17 = .ok (.aload_n 0, 1) := by decide +kernel
theorem dX7_cut_18 : decode cX7_cut 18 = .ok (.getfield 19, 3) := by decide +kernel
theorem dX7_cut_21 : decode cX7_cut 21 = .ok (.iload_n 2, 1) := by decide +kernel
theorem dX7_cut_22 : decode cX7_cut 22 = .ok (.invokevirtual 149, 3) := by decide +kernel
theorem dX7_cut_25 : decode cX7_cut 25 = .ok (.aload_n 0, 1) := by decide +kernel
theorem dX7_cut_26 : decode cX7_cut 26 = .ok (.getfield 19, 3) := by decide +kernel
theorem dX7_cut_29 : decode cX7_cut 29 = .ok (.getfield 146, 3) := by decide +kernel
theorem dX7_cut_32 : decode cX7_cut 32 = .ok (.ireturn, 1) := by decide +kernel
theorem dX7_knot_0 : decode cX7_knot 0 = .ok (.aload_n 0, 1) := by decide +kernel
theorem dX7_knot_1 : decode cX7_knot 1 = .ok (.getfield 19, 3) := by decide +kernel
theorem dX7_knot_4 : decode cX7_knot 4 = .ok (.iload_n 1, 1) := by decide +kernel
theorem dX7_knot_5 : decode cX7_knot 5 = .ok (.invokevirtual 118, 3) := by decide +kernel
theorem dX7_knot_8 : decode cX7_knot 8 = .ok (.istore_n 2, 1) := by decide +kernel
theorem dX7_knot_9 : decode cX7_knot 9 = .ok (.iload_n 2, 1) := by decide +kernel
theorem dX7_knot_10 : decode cX7_knot 10 = .ok (.iconst (-1), 1) := by decide +kernel
theorem dX7_knot_11 : decode cX7_knot 11 = .ok (.if_icmp .ne 6, 3) := by decide +kernel
theorem dX7_knot_14 : decode cX7_knot 14 = .ok (.bipush (-2), 2) := by decide +kernel
theorem dX7_knot_16 : decode cX7_knot 16 = .ok (.ireturn, 1) := by decide +kernel
theorem dX7_knot_17 : decode cX7_knot 17 = .ok (.aload_n 0, 1) := by decide +kernel
theorem dX7_knot_18 : decode cX7_knot 18 = .ok (.getfield 19, 3) := by decide +kernel
theorem dX7_knot_21 : decode cX7_knot 21 = .ok (.getfield 124, 3) := by decide +kernel
theorem dX7_knot_24 : decode cX7_knot 24 = .ok (.iload_n 2, 1) := by decide +kernel
theorem dX7_knot_25 : decode cX7_knot 25 = .ok (.iaload, 1) := by decide +kernel
theorem dX7_knot_26 : decode cX7_knot 26 = .ok (.bipush 9, 2) := by decide +kernel
theorem dX7_knot_28 : decode cX7_knot 28 = .ok (.if_icmp .lt 6, 3) := by decide +kernel
theorem dX7_knot_31 : decode cX7_knot 31 = .ok (.bipush (-4), 2) := by decide +kernel
theorem dX7_knot_33 : decode cX7_knot 33 = .ok (.ireturn, 1) := by decide +kernel
theorem dX7_knot_34 : decode cX7_knot 34 = .ok (.aload_n 0, 1) := by decide +kernel
theorem dX7_knot_35 : decode cX7_knot 35 = .ok (.getfield 19, 3) := by decide +kernel
theorem dX7_knot_38 : decode cX7_knot 38 = .ok (.getfield 124, 3) := by decide +kernel
theorem dX7_knot_41 : decode cX7_knot 41 = .ok (.iload_n 2, 1) := by decide +kernel
theorem dX7_knot_42 : decode cX7_knot 42 = .ok (.dup2, 1) := by decide +kernel
theorem dX7_knot_43 : decode cX7_knot 43 = .ok (.iaload, 1) := by decide +kernel
theorem dX7_knot_44 : decode cX7_knot 44 = .ok (.iconst 1, 1) := by decide +kernel
theorem dX7_knot_45 : decode cX7_knot 45 = .ok (.iadd, 1) := by decide +kernel
theorem dX7_knot_46 : decode cX7_knot 46 = .ok (.iastore, 1) := by decide +kernel
theorem dX7_knot_47 : decode cX7_knot 47 = .ok (.aload_n 0, 1) := by decide +kernel
theorem dX7_knot_48 : decode cX7_knot 48 = .ok (.getfield 19, 3) := by decide +kernel
theorem dX7_knot_51 : decode cX7_knot 51 = .ok (.getfield 124, 3) := by decide +kernel
theorem dX7_knot_54 : decode cX7_knot 54 = .ok (.iload_n 2, 1) := by decide +kernel
theorem dX7_knot_55 : decode cX7_knot 55 = .ok (.iaload, 1) := by decide +kernel
theorem dX7_knot_56 : decode cX7_knot 56 = .ok (.ireturn, 1) := by decide +kernel
theorem dX7_tieAll_0 : decode cX7_tieAll 0 = .ok (.aload_n 0, 1) := by decide +kernel
theorem dX7_tieAll_1 : decode cX7_tieAll 1 = .ok (.iload_n 1, 1) := by decide +kernel
theorem dX7_tieAll_2 : decode cX7_tieAll 2 = .ok (.invokevirtual 152, 3) := by decide +kernel
theorem dX7_tieAll_5 : decode cX7_tieAll 5 = .ok (.istore_n 2, 1) := by decide +kernel
theorem dX7_tieAll_6 : decode cX7_tieAll 6 = .ok (.iload_n 2, 1) := by decide +kernel
theorem dX7_tieAll_7 : decode cX7_tieAll 7 = .ok (.ifCond .eq 5, 3) := by decide +kernel
theorem dX7_tieAll_10 : decode cX7_tieAll 10 = .ok (.iload_n 2, 1) := by decide +kernel
theorem dX7_tieAll_11 : decode cX7_tieAll 11 = .ok (.ireturn, 1) := by decide +kernel
theorem dX7_tieAll_12 : decode cX7_tieAll 12 = .ok (.aload_n 0, 1) := by decide +kernel
theorem dX7_tieAll_13 : decode cX7_tieAll 13 = .ok (.getfield 56, 3) := by decide +kernel
theorem dX7_tieAll_16 : decode cX7_tieAll 16 = .ok (.iload_n 1, 1) := by decide +kernel
theorem dX7_tieAll_17 : decode cX7_tieAll 17 = .ok (.aaload, 1) := by decide +kernel
theorem dX7_tieAll_18 : decode cX7_tieAll 18 = .ok (.astore_n 3, 1) := by decide +kernel
theorem dX7_tieAll_19 : decode cX7_tieAll 19 = .ok (.iconst 0, 1) := by decide +kernel
theorem dX7_tieAll_20 : decode cX7_tieAll 20 = .ok (.istore 4, 2) := by decide +kernel
theorem dX7_tieAll_22 : decode cX7_tieAll 22 = .ok (.iconst 0, 1) := by decide +kernel
theorem dX7_tieAll_23 : decode cX7_tieAll 23 = .ok (.istore 5, 2) := by decide +kernel
theorem dX7_tieAll_25 : decode cX7_tieAll 25 = .ok (.iload 5, 2) := by decide +kernel
theorem dX7_tieAll_27 : decode cX7_tieAll 27 = .ok (.aload_n 3, 1) := by decide +kernel
theorem dX7_tieAll_28 : decode cX7_tieAll 28 = .ok (.getfield 155, 3) := by decide +kernel
theorem dX7_tieAll_31 : decode cX7_tieAll 31 = .ok (.if_icmp .ge 56, 3) := by decide +kernel
theorem dX7_tieAll_34 : decode cX7_tieAll 34 = .ok (.aload_n 3, 1) := by decide +kernel
theorem dX7_tieAll_35 : decode cX7_tieAll 35 = .ok (.iload 5, 2) := by decide +kernel
theorem dX7_tieAll_37 : decode cX7_tieAll 37 = .ok (.invokevirtual 158, 3) := by decide +kernel
theorem dX7_tieAll_40 : decode cX7_tieAll 40 = .ok (.lstore 6, 2) := by decide +kernel
theorem dX7_tieAll_42 : decode cX7_tieAll 42 = .ok (.aload_n 0, 1) := by decide +kernel
theorem dX7_tieAll_43 : decode cX7_tieAll 43 = .ok (.getfield 19, 3) := by decide +kernel
theorem dX7_tieAll_46 : decode cX7_tieAll 46 = .ok (.lload 6, 2) := by decide +kernel
theorem dX7_tieAll_48 : decode cX7_tieAll 48 = .ok (.invokevirtual 110, 3) := by decide +kernel
theorem dX7_tieAll_51 : decode cX7_tieAll 51 = .ok (.ifCond .eq 30, 3) := by decide +kernel
theorem dX7_tieAll_54 : decode cX7_tieAll 54 = .ok (.aload_n 0, 1) := by decide +kernel
theorem dX7_tieAll_55 : decode cX7_tieAll 55 = .ok (.getfield 19, 3) := by decide +kernel
theorem dX7_tieAll_58 : decode cX7_tieAll 58 = .ok (.lload 6, 2) := by decide +kernel
theorem dX7_tieAll_60 : decode cX7_tieAll 60 = .ok (.l2i, 1) := by decide +kernel
theorem dX7_tieAll_61 : decode cX7_tieAll 61 = .ok (.invokevirtual 139, 3) := by decide +kernel
theorem dX7_tieAll_64 : decode cX7_tieAll 64 = .ok (.ifCond .ne 17, 3) := by decide +kernel
theorem dX7_tieAll_67 : decode cX7_tieAll 67 = .ok (.aload_n 0, 1) := by decide +kernel
theorem dX7_tieAll_68 : decode cX7_tieAll 68 = .ok (.getfield 19, 3) := by decide +kernel
theorem dX7_tieAll_71 : decode cX7_tieAll 71 = .ok (.lload 6, 2) := by decide +kernel
theorem dX7_tieAll_73 : decode cX7_tieAll 73 = .ok (.l2i, 1) := by decide +kernel
theorem dX7_tieAll_74 : decode cX7_tieAll 74 = .ok (.iconst 0, 1) := by decide +kernel
theorem dX7_tieAll_75 : decode cX7_tieAll 75 = .ok (.invokevirtual 142, 3) := by decide +kernel
theorem dX7_tieAll_78 : decode cX7_tieAll 78 = .ok (.iinc 4 1, 3) := by decide +kernel
theorem dX7_tieAll_81 : decode cX7_tieAll 81 = .ok (.iinc 5 1, 3) := by decide +kernel
theorem dX7_tieAll_84 : decode cX7_tieAll 84 = .ok (.goto (-59), 3) := by decide +kernel
theorem dX7_tieAll_87 : decode cX7_tieAll 87 = .ok (.iload 4, 2) := by decide +kernel
theorem dX7_tieAll_89 : decode cX7_tieAll 89 = .ok (.ireturn, 1) := by decide +kernel
theorem dX7_pass_0 : decode cX7_pass 0 = .ok (.iload_n 1, 1) := by decide +kernel
theorem dX7_pass_1 : decode cX7_pass 1 = .ok (.ifCond .lt 9, 3) := by decide +kernel
theorem dX7_pass_4 : decode cX7_pass 4 = .ok (.iload_n 1, 1) := by decide +kernel
theorem dX7_pass_5 : decode cX7_pass 5 = .ok (.bipush 99, 2) := by decide +kernel
theorem dX7_pass_7 : decode cX7_pass 7 = .ok (.if_icmp .le 6, 3) := by decide +kernel
theorem dX7_pass_10 : decode cX7_pass 10 = .ok (.bipush (-3), 2) := by decide +kernel
theorem dX7_pass_12 : decode cX7_pass 12 = .ok (.ireturn, 1) := by decide +kernel
theorem dX7_pass_13 : decode cX7_pass 13 = .ok (.aload_n 0, 1) := by decide +kernel
theorem dX7_pass_14 : decode cX7_pass 14 = .ok (.getfield 19, 3) := by decide +kernel
theorem dX7_pass_17 : decode cX7_pass 17 = .ok (.getfield 133, 3) := by decide +kernel
theorem dX7_pass_20 : decode cX7_pass 20 = .ok (.iload_n 1, 1) := by decide +kernel
theorem dX7_pass_21 : decode cX7_pass 21 = .ok (.iadd, 1) := by decide +kernel
theorem dX7_pass_22 : decode cX7_pass 22 = .ok (.sipush 9999, 3) := by decide +kernel
theorem dX7_pass_25 : decode cX7_pass 25 = .ok (.if_icmp .le 6, 3) := by decide +kernel
theorem dX7_pass_28 : decode cX7_pass 28 = .ok (.bipush (-5), 2) := by decide +kernel
theorem dX7_pass_30 : decode cX7_pass 30 = .ok (.ireturn, 1) := by decide +kernel
theorem dX7_pass_31 : decode cX7_pass 31 = .ok (.aload_n 0, 1) := by decide +kernel
theorem dX7_pass_32 : decode cX7_pass 32 = .ok (.getfield 19, 3) := by decide +kernel
theorem dX7_pass_35 : decode cX7_pass 35 = .ok (.dup, 1) := by decide +kernel
theorem dX7_pass_36 : decode cX7_pass 36 = .ok (.getfield 133, 3) := by decide +kernel
theorem dX7_pass_39 : decode cX7_pass 39 = .ok (.iload_n 1, 1) := by decide +kernel
theorem dX7_pass_40 : decode cX7_pass 40 = .ok (.iadd, 1) := by decide +kernel
theorem dX7_pass_41 : decode cX7_pass 41 = .ok (.putfield 133, 3) := by decide +kernel
theorem dX7_pass_44 : decode cX7_pass 44 = .ok (.aload_n 0, 1) := by decide +kernel
theorem dX7_pass_45 : decode cX7_pass 45 = .ok (.getfield 19, 3) := by decide +kernel
theorem dX7_pass_48 : decode cX7_pass 48 = .ok (.getfield 133, 3) := by decide +kernel
theorem dX7_pass_51 : decode cX7_pass 51 = .ok (.ireturn, 1) := by decide +kernel
theorem dX7_damp_0 : decode cX7_damp 0 = .ok (.iload_n 1, 1) := by decide +kernel
theorem dX7_damp_1 : decode cX7_damp 1 = .ok (.ifCond .lt 9, 3) := by decide +kernel
theorem dX7_damp_4 : decode cX7_damp 4 = .ok (.iload_n 1, 1) := by decide +kernel
theorem dX7_damp_5 : decode cX7_damp 5 = .ok (.bipush 20, 2) := by decide +kernel
theorem dX7_damp_7 : decode cX7_damp 7 = .ok (.if_icmp .le 6, 3) := by decide +kernel
theorem dX7_damp_10 : decode cX7_damp 10 = .ok (.bipush (-3), 2) := by decide +kernel
theorem dX7_damp_12 : decode cX7_damp 12 = .ok (.ireturn, 1) := by decide +kernel
theorem dX7_damp_13 : decode cX7_damp 13 = .ok (.aload_n 0, 1) := by decide +kernel
theorem dX7_damp_14 : decode cX7_damp 14 = .ok (.getfield 19, 3) := by decide +kernel
theorem dX7_damp_17 : decode cX7_damp 17 = .ok (.getfield 162, 3) := by decide +kernel
theorem dX7_damp_20 : decode cX7_damp 20 = .ok (.istore_n 2, 1) := by decide +kernel
theorem dX7_damp_21 : decode cX7_damp 21 = .ok (.aload_n 0, 1) := by decide +kernel
theorem dX7_damp_22 : decode cX7_damp 22 = .ok (.getfield 19, 3) := by decide +kernel
theorem dX7_damp_25 : decode cX7_damp 25 = .ok (.iload_n 1, 1) := by decide +kernel
theorem dX7_damp_26 : decode cX7_damp 26 = .ok (.putfield 162, 3) := by decide +kernel
theorem dX7_damp_29 : decode cX7_damp 29 = .ok (.iload_n 2, 1) := by decide +kernel
theorem dX7_damp_30 : decode cX7_damp 30 = .ok (.ireturn, 1) := by decide +kernel
theorem dX7_gust_0 : decode cX7_gust 0 = .ok (.aload_n 0, 1) := by decide +kernel
theorem dX7_gust_1 : decode cX7_gust 1 = .ok (.getfield 19, 3) := by decide +kernel
theorem dX7_gust_4 : decode cX7_gust 4 = .ok (.getfield 165, 3) := by decide +kernel
theorem dX7_gust_7 : decode cX7_gust 7 = .ok (.iconst 1, 1) := by decide +kernel
theorem dX7_gust_8 : decode cX7_gust 8 = .ok (.if_icmp .ge 6, 3) := by decide +kernel
theorem dX7_gust_11 : decode cX7_gust 11 = .ok (.bipush (-5), 2) := by decide +kernel
theorem dX7_gust_13 : decode cX7_gust 13 = .ok (.ireturn, 1) := by decide +kernel
theorem dX7_gust_14 : decode cX7_gust 14 = .ok (.iload_n 2, 1) := by decide +kernel
theorem dX7_gust_15 : decode cX7_gust 15 = .ok (.iconst 1, 1) := by decide +kernel
theorem dX7_gust_16 : decode cX7_gust 16 = .ok (.if_icmp .lt 9, 3) := by decide +kernel
theorem dX7_gust_19 : decode cX7_gust 19 = .ok (.iload_n 2, 1) := by decide +kernel
theorem dX7_gust_20 : decode cX7_gust 20 = .ok (.bipush 60, 2) := by decide +kernel
theorem dX7_gust_22 : decode cX7_gust 22 = .ok (.if_icmp .le 6, 3) := by decide +kernel
theorem dX7_gust_25 : decode cX7_gust 25 = .ok (.bipush (-3), 2) := by decide +kernel
theorem dX7_gust_27 : decode cX7_gust 27 = .ok (.ireturn, 1) := by decide +kernel
theorem dX7_gust_28 : decode cX7_gust 28 = .ok (.iload_n 1, 1) := by decide +kernel
theorem dX7_gust_29 : decode cX7_gust 29 = .ok (.istore_n 3, 1) := by decide +kernel
theorem dX7_gust_30 : decode cX7_gust 30 = .ok (.iconst 0, 1) := by decide +kernel
theorem dX7_gust_31 : decode cX7_gust 31 = .ok (.istore 4, 2) := by decide +kernel
theorem dX7_gust_33 : decode cX7_gust 33 = .ok (.iload 4, 2) := by decide +kernel
theorem dX7_gust_35 : decode cX7_gust 35 = .ok (.iload_n 2, 1) := by decide +kernel
theorem dX7_gust_36 : decode cX7_gust 36 = .ok (.if_icmp .ge 15, 3) := by decide +kernel
theorem dX7_gust_39 : decode cX7_gust 39 = .ok (.aload_n 0, 1) := by decide +kernel
theorem dX7_gust_40 : decode cX7_gust 40 = .ok (.iload_n 3, 1) := by decide +kernel
theorem dX7_gust_41 : decode cX7_gust 41 = .ok (.invokevirtual 168, 3) := by decide +kernel
theorem dX7_gust_44 : decode cX7_gust 44 = .ok (.istore_n 3, 1) := by decide +kernel
theorem dX7_gust_45 : decode cX7_gust 45 = .ok (.iinc 4 1, 3) := by decide +kernel
theorem dX7_gust_48 : decode cX7_gust 48 = .ok (.goto (-15), 3) := by decide +kernel
theorem dX7_gust_51 : decode cX7_gust 51 = .ok (.aload_n 0, 1) := by decide +kernel
theorem dX7_gust_52 : decode cX7_gust 52 = .ok (.getfield 19, 3) := by decide +kernel
theorem dX7_gust_55 : decode cX7_gust 55 = .ok (.getfield 146, 3) := by decide +kernel
theorem dX7_gust_58 : decode cX7_gust 58 = .ok (.ireturn, 1) := by decide +kernel
theorem dX7_best_0 : decode cX7_best 0 = .ok (.iload 4, 2) := by decide +kernel
theorem dX7_best_2 : decode cX7_best 2 = .ok (.bipush 10, 2) := by decide +kernel
theorem dX7_best_4 : decode cX7_best 4 = .ok (.if_icmp .lt 14, 3) := by decide +kernel
theorem dX7_best_7 : decode cX7_best 7 = .ok (.iload 4, 2) := by decide +kernel
theorem dX7_best_9 : decode cX7_best 9 = .ok (.bipush 22, 2) := by decide +kernel
theorem dX7_best_11 : decode cX7_best 11 = .ok (.if_icmp .ge 7, 3) := by decide +kernel
theorem dX7_best_14 : decode cX7_best 14 = .ok (.iconst 1, 1) := by decide +kernel
theorem dX7_best_15 : decode cX7_best 15 = .ok (.goto 4, 3) := by decide +kernel
theorem dX7_best_18 : decode cX7_best 18 = .ok (.iconst 0, 1) := by decide +kernel
theorem dX7_best_19 : decode cX7_best 19 = .ok (.istore 5, 2) := by decide +kernel
theorem dX7_best_21 : decode cX7_best 21 = .ok (.aload_n 0, 1) := by decide +kernel
theorem dX7_best_22 : decode cX7_best 22 = .ok (.iload_n 1, 1) := by decide +kernel
theorem dX7_best_23 : decode cX7_best 23 = .ok (.iload_n 2, 1) := by decide +kernel
theorem dX7_best_24 : decode cX7_best 24 = .ok (.invokevirtual 171, 3) := by decide +kernel
theorem dX7_best_27 : decode cX7_best 27 = .ok (.ifCond .eq 19, 3) := by decide +kernel
theorem dX7_best_30 : decode cX7_best 30 = .ok (.iload 4, 2) := by decide +kernel
theorem dX7_best_32 : decode cX7_best 32 = .ok (.ifCond .eq 17, 3) := by decide +kernel
theorem dX7_best_35 : decode cX7_best 35 = .ok (.iload 4, 2) := by decide +kernel
theorem dX7_best_37 : decode cX7_best 37 = .ok (.iconst 1, 1) := by decide +kernel
theorem dX7_best_38 : decode cX7_best 38 = .ok (.if_icmp .eq 11, 3) := by decide +kernel
theorem dX7_best_41 : decode cX7_best 41 = .ok (.iload 5, 2) := by decide +kernel
theorem dX7_best_43 : decode cX7_best 43 = .ok (.ifCond .ne 6, 3) := by decide +kernel
theorem dX7_best_46 : decode cX7_best 46 = .ok (.bipush (-2), 2) := by decide +kernel
theorem dX7_best_48 : decode cX7_best 48 = .ok (.ireturn, 1) := by decide +kernel
theorem dX7_best_49 : decode cX7_best 49 = .ok (.aload_n 0, 1) := by decide +kernel
theorem dX7_best_50 : decode cX7_best 50 = .ok (.getfield 19, 3) := by decide +kernel
theorem dX7_best_53 : decode cX7_best 53 = .ok (.invokevirtual 174, 3) := by decide +kernel
theorem dX7_best_56 : decode cX7_best 56 = .ok (.iconst 1, 1) := by decide +kernel
theorem dX7_best_57 : decode cX7_best 57 = .ok (.iload_n 1, 1) := by decide +kernel
theorem dX7_best_58 : decode cX7_best 58 = .ok (.ishl, 1) := by decide +kernel
theorem dX7_best_59 : decode cX7_best 59 = .ok (.iconst (-1), 1) := by decide +kernel
theorem dX7_best_60 : decode cX7_best 60 = .ok (.ixor, 1) := by decide +kernel
theorem dX7_best_61 : decode cX7_best 61 = .ok (.iand, 1) := by decide +kernel
theorem dX7_best_62 : decode cX7_best 62 = .ok (.iconst 1, 1) := by decide +kernel
theorem dX7_best_63 : decode cX7_best 63 = .ok (.iload_n 2, 1) := by decide +kernel
theorem dX7_best_64 : decode cX7_best 64 = .ok (.ishl, 1) := by decide +kernel
theorem dX7_best_65 : decode cX7_best 65 = .ok (.iconst (-1), 1) := by decide +kernel
theorem dX7_best_66 : decode cX7_best 66 = .ok (.ixor, 1) := by decide +kernel
theorem dX7_best_67 : decode cX7_best 67 = .ok (.iand, 1) := by decide +kernel
theorem dX7_best_68 : decode cX7_best 68 = .ok (.istore 6, 2) := by decide +kernel
theorem dX7_best_70 : decode cX7_best 70 = .ok (.iload_n 3, 1) := by decide +kernel
theorem dX7_best_71 : decode cX7_best 71 = .ok (.iload 6, 2) := by decide +kernel
theorem dX7_best_73 : decode cX7_best 73 = .ok (.iconst (-1), 1) := by decide +kernel
theorem dX7_best_74 : decode cX7_best 74 = .ok (.ixor, 1) := by decide +kernel
theorem dX7_best_75 : decode cX7_best 75 = .ok (.iand, 1) := by decide +kernel
theorem dX7_best_76 : decode cX7_best 76 = .ok (.ifCond .eq 6, 3) := by decide +kernel
theorem dX7_best_79 : decode cX7_best 79 = .ok (.bipush (-3), 2) := by decide +kernel
theorem dX7_best_81 : decode cX7_best 81 = .ok (.ireturn, 1) := by decide +kernel
theorem dX7_best_82 : decode cX7_best 82 = .ok (.aload_n 0, 1) := by decide +kernel
theorem dX7_best_83 : decode cX7_best 83 = .ok (.getfield 29, 3) := by decide +kernel
theorem dX7_best_86 : decode cX7_best 86 = .ok (.aload_n 0, 1) := by decide +kernel
theorem dX7_best_87 : decode cX7_best 87 = .ok (.getfield 19, 3) := by decide +kernel
theorem dX7_best_90 : decode cX7_best 90 = .ok (.aload_n 0, 1) := by decide +kernel
theorem dX7_best_91 : decode cX7_best 91 = .ok (.getfield 19, 3) := by decide +kernel
theorem dX7_best_94 : decode cX7_best 94 = .ok (.getfield 133, 3) := by decide +kernel
theorem dX7_best_97 : decode cX7_best 97 = .ok (.invokevirtual 178, 3) := by decide +kernel
theorem dX7_best_100 : decode cX7_best 100 = .ok (.aload_n 0, 1) := by decide +kernel
theorem dX7_best_101 : decode cX7_best 101 = .ok (.getfield 29, 3) := by decide +kernel
theorem dX7_best_104 : decode cX7_best 104 = .ok (.iload_n 2, 1) := by decide +kernel
theorem dX7_best_105 : decode cX7_best 105 = .ok (.iload_n 3, 1) := by decide +kernel
theorem dX7_best_106 : decode cX7_best 106 = .ok (.invokevirtual 181, 3) := by decide +kernel
theorem dX7_best_109 : decode cX7_best 109 = .ok (.iload 4, 2) := by decide +kernel
theorem dX7_best_111 : decode cX7_best 111 = .ok (.ifCond .ne 12, 3) := by decide +kernel
theorem dX7_best_114 : decode cX7_best 114 = .ok (.aload_n 0, 1) := by decide +kernel
theorem dX7_best_115 : decode cX7_best 115 = .ok (.getfield 29, 3) := by decide +kernel
theorem dX7_best_118 : decode cX7_best 118 = .ok (.iload_n 1, 1) := by decide +kernel
theorem dX7_best_119 : decode cX7_best 119 = .ok (.invokevirtual 184, 3) := by decide +kernel
theorem dX7_best_122 : decode cX7_best 122 = .ok (.ireturn, 1) := by decide +kernel
theorem dX7_best_123 : decode cX7_best 123 = .ok (.iload 4, 2) := by decide +kernel
theorem dX7_best_125 : decode cX7_best 125 = .ok (.iconst 1, 1) := by decide +kernel
theorem dX7_best_126 : decode cX7_best 126 = .ok (.if_icmp .ne 12, 3) := by decide +kernel
theorem dX7_best_129 : decode cX7_best 129 = .ok (.aload_n 0, 1) := by decide +kernel
theorem dX7_best_130 : decode cX7_best 130 = .ok (.getfield 29, 3) := by decide +kernel
theorem dX7_best_133 : decode cX7_best 133 = .ok (.iload_n 1, 1) := by decide +kernel
theorem dX7_best_134 : decode cX7_best 134 = .ok (.invokevirtual 187, 3) := by decide +kernel
theorem dX7_best_137 : decode cX7_best 137 = .ok (.ireturn, 1) := by decide +kernel
theorem dX7_best_138 : decode cX7_best 138 = .ok (.aload_n 0, 1) := by decide +kernel
theorem dX7_best_139 : decode cX7_best 139 = .ok (.getfield 29, 3) := by decide +kernel
theorem dX7_best_142 : decode cX7_best 142 = .ok (.iload_n 1, 1) := by decide +kernel
theorem dX7_best_143 : decode cX7_best 143 = .ok (.iload 4, 2) := by decide +kernel
theorem dX7_best_145 : decode cX7_best 145 = .ok (.bipush 10, 2) := by decide +kernel
theorem dX7_best_147 : decode cX7_best 147 = .ok (.isub, 1) := by decide +kernel
theorem dX7_best_148 : decode cX7_best 148 = .ok (.invokevirtual 190, 3) := by decide +kernel
theorem dX7_best_151 : decode cX7_best 151 = .ok (.ireturn, 1) := by decide +kernel
theorem dX7_hears_0 : decode cX7_hears 0 = .ok (.aload_n 0, 1) := by decide +kernel
theorem dX7_hears_1 : decode cX7_hears 1 = .ok (.getfield 19, 3) := by decide +kernel
theorem dX7_hears_4 : decode cX7_hears 4 = .ok (.iload_n 1, 1) := by decide +kernel
theorem dX7_hears_5 : decode cX7_hears 5 = .ok (.invokevirtual 90, 3) := by decide +kernel
theorem dX7_hears_8 : decode cX7_hears 8 = .ok (.ifCond .ne 6, 3) := by decide +kernel
theorem dX7_hears_11 : decode cX7_hears 11 = .ok (.bipush (-2), 2) := by decide +kernel
theorem dX7_hears_13 : decode cX7_hears 13 = .ok (.ireturn, 1) := by decide +kernel
theorem dX7_hears_14 : decode cX7_hears 14 = .ok (.aload_n 0, 1) := by decide +kernel
theorem dX7_hears_15 : decode cX7_hears 15 = .ok (.getfield 29, 3) := by decide +kernel
theorem dX7_hears_18 : decode cX7_hears 18 = .ok (.aload_n 0, 1) := by decide +kernel
theorem dX7_hears_19 : decode cX7_hears 19 = .ok (.getfield 19, 3) := by decide +kernel
theorem dX7_hears_22 : decode cX7_hears 22 = .ok (.aload_n 0, 1) := by decide +kernel
theorem dX7_hears_23 : decode cX7_hears 23 = .ok (.getfield 19, 3) := by decide +kernel
theorem dX7_hears_26 : decode cX7_hears 26 = .ok (.getfield 133, 3) := by decide +kernel
theorem dX7_hears_29 : decode cX7_hears 29 = .ok (.invokevirtual 178, 3) := by decide +kernel
theorem dX7_hears_32 : decode cX7_hears 32 = .ok (.aload_n 0, 1) := by decide +kernel
theorem dX7_hears_33 : decode cX7_hears 33 = .ok (.getfield 29, 3) := by decide +kernel
theorem dX7_hears_36 : decode cX7_hears 36 = .ok (.iload_n 1, 1) := by decide +kernel
theorem dX7_hears_37 : decode cX7_hears 37 = .ok (.iconst 0, 1) := by decide +kernel
theorem dX7_hears_38 : decode cX7_hears 38 = .ok (.invokevirtual 181, 3) := by decide +kernel
theorem dX7_hears_41 : decode cX7_hears 41 = .ok (.iconst 0, 1) := by decide +kernel
theorem dX7_hears_42 : decode cX7_hears 42 = .ok (.istore_n 2, 1) := by decide +kernel
theorem dX7_hears_43 : decode cX7_hears 43 = .ok (.iconst 0, 1) := by decide +kernel
theorem dX7_hears_44 : decode cX7_hears 44 = .ok (.istore_n 3, 1) := by decide +kernel
theorem dX7_hears_45 : decode cX7_hears 45 = .ok (.iload_n 3, 1) := by decide +kernel
theorem dX7_hears_46 : decode cX7_hears 46 = .ok (.aload_n 0, 1) := by decide +kernel
theorem dX7_hears_47 : decode cX7_hears 47 = .ok (.getfield 19, 3) := by decide +kernel
theorem dX7_hears_50 : decode cX7_hears 50 = .ok (.getfield 165, 3) := by decide +kernel
theorem dX7_hears_53 : decode cX7_hears 53 = .ok (.if_icmp .ge 38, 3) := by decide +kernel
theorem dX7_hears_56 : decode cX7_hears 56 = .ok (.iload_n 3, 1) := by decide +kernel
theorem dX7_hears_57 : decode cX7_hears 57 = .ok (.iload_n 1, 1) := by decide +kernel
theorem dX7_hears_58 : decode cX7_hears 58 = .ok (.if_icmp .eq 27, 3) := by decide +kernel
theorem dX7_hears_61 : decode cX7_hears 61 = .ok (.aload_n 0, 1) := by decide +kernel
theorem dX7_hears_62 : decode cX7_hears 62 = .ok (.getfield 29, 3) := by decide +kernel
theorem dX7_hears_65 : decode cX7_hears 65 = .ok (.iload_n 3, 1) := by decide +kernel
theorem dX7_hears_66 : decode cX7_hears 66 = .ok (.aload_n 0, 1) := by decide +kernel
theorem dX7_hears_67 : decode cX7_hears 67 = .ok (.getfield 19, 3) := by decide +kernel
theorem dX7_hears_70 : decode cX7_hears 70 = .ok (.getfield 194, 3) := by decide +kernel
theorem dX7_hears_73 : decode cX7_hears 73 = .ok (.invokevirtual 197, 3) := by decide +kernel
theorem dX7_hears_76 : decode cX7_hears 76 = .ok (.ifCond .eq 9, 3) := by decide +kernel
theorem dX7_hears_79 : decode cX7_hears 79 = .ok (.iload_n 2, 1) := by decide +kernel
theorem dX7_hears_80 : decode cX7_hears 80 = .ok (.iconst 1, 1) := by decide +kernel
theorem dX7_hears_81 : decode cX7_hears 81 = .ok (.iload_n 3, 1) := by decide +kernel
theorem dX7_hears_82 : decode cX7_hears 82 = .ok (.ishl, 1) := by decide +kernel
theorem dX7_hears_83 : decode cX7_hears 83 = .ok (.ior, 1) := by decide +kernel
theorem dX7_hears_84 : decode cX7_hears 84 = .ok (.istore_n 2, 1) := by decide +kernel
theorem dX7_hears_85 : decode cX7_hears 85 = .ok (.iinc 3 1, 3) := by decide +kernel
theorem dX7_hears_88 : decode cX7_hears 88 = .ok (.goto (-43), 3) := by decide +kernel
theorem dX7_hears_91 : decode cX7_hears 91 = .ok (.iload_n 2, 1) := by decide +kernel
theorem dX7_hears_92 : decode cX7_hears 92 = .ok (.ireturn, 1) := by decide +kernel
theorem dX7_overhears_0 : decode cX7_overhears 0 = .ok (.aload_n 0, 1) := by decide +kernel
theorem dX7_overhears_1 : decode cX7_overhears 1 = .ok (.iload_n 1, 1) := by decide +kernel
theorem dX7_overhears_2 : decode cX7_overhears 2 = .ok (.iload_n 2, 1) := by decide +kernel
theorem dX7_overhears_3 : decode cX7_overhears 3 = .ok (.invokevirtual 171, 3) := by decide +kernel
theorem dX7_overhears_6 : decode cX7_overhears 6 = .ok (.ifCond .ne 6, 3) := by decide +kernel
theorem dX7_overhears_9 : decode cX7_overhears 9 = .ok (.bipush (-2), 2) := by decide +kernel
theorem dX7_overhears_11 : decode cX7_overhears 11 = .ok (.ireturn, 1) := by decide +kernel
theorem dX7_overhears_12 : decode cX7_overhears 12 = .ok (.aload_n 0, 1) := by decide +kernel
theorem dX7_overhears_13 : decode cX7_overhears 13 = .ok (.getfield 29, 3) := by decide +kernel
theorem dX7_overhears_16 : decode cX7_overhears 16 = .ok (.aload_n 0, 1) := by decide +kernel
theorem dX7_overhears_17 : decode cX7_overhears 17 = .ok (.getfield 19, 3) := by decide +kernel
theorem dX7_overhears_20 : decode cX7_overhears 20 = .ok (.aload_n 0, 1) := by decide +kernel
theorem dX7_overhears_21 : decode cX7_overhears 21 = .ok (.getfield 19, 3) := by decide +kernel
theorem dX7_overhears_24 : decode cX7_overhears 24 = .ok (.getfield 133, 3) := by decide +kernel
theorem dX7_overhears_27 : decode cX7_overhears 27 = .ok (.invokevirtual 178, 3) := by decide +kernel
theorem dX7_overhears_30 : decode cX7_overhears 30 = .ok (.aload_n 0, 1) := by decide +kernel
theorem dX7_overhears_31 : decode cX7_overhears 31 = .ok (.getfield 29, 3) := by decide +kernel
theorem dX7_overhears_34 : decode cX7_overhears 34 = .ok (.iload_n 2, 1) := by decide +kernel
theorem dX7_overhears_35 : decode cX7_overhears 35 = .ok (.iconst 0, 1) := by decide +kernel
theorem dX7_overhears_36 : decode cX7_overhears 36 = .ok (.invokevirtual 181, 3) := by decide +kernel
theorem dX7_overhears_39 : decode cX7_overhears 39 = .ok (.iconst 0, 1) := by decide +kernel
theorem dX7_overhears_40 : decode cX7_overhears 40 = .ok (.istore_n 3, 1) := by decide +kernel
theorem dX7_overhears_41 : decode cX7_overhears 41 = .ok (.iconst 1, 1) := by decide +kernel
theorem dX7_overhears_42 : decode cX7_overhears 42 = .ok (.istore 4, 2) := by decide +kernel
theorem dX7_overhears_44 : decode cX7_overhears 44 = .ok (.iload 4, 2) := by decide +kernel
theorem dX7_overhears_46 : decode cX7_overhears 46 = .ok (.aload_n 0, 1) := by decide +kernel
theorem dX7_overhears_47 : decode cX7_overhears 47 = .ok (.getfield 29, 3) := by decide +kernel
theorem dX7_overhears_50 : decode cX7_overhears 50 = .ok (.iload_n 1, 1) := by decide +kernel
theorem dX7_overhears_51 : decode cX7_overhears 51 = .ok (.invokevirtual 187, 3) := by decide +kernel
theorem dX7_overhears_54 : decode cX7_overhears 54 = .ok (.if_icmp .ge 24, 3) := by decide +kernel
theorem dX7_overhears_57 : decode cX7_overhears 57 = .ok (.iload_n 3, 1) := by decide +kernel
theorem dX7_overhears_58 : decode cX7_overhears 58 = .ok (.iconst 1, 1) := by decide +kernel
theorem dX7_overhears_59 : decode cX7_overhears 59 = .ok (.aload_n 0, 1) := by decide +kernel
theorem dX7_overhears_60 : decode cX7_overhears 60 = .ok (.getfield 29, 3) := by decide +kernel
theorem dX7_overhears_63 : decode cX7_overhears 63 = .ok (.iload_n 1, 1) := by decide +kernel
theorem dX7_overhears_64 : decode cX7_overhears 64 = .ok (.iload 4, 2) := by decide +kernel
theorem dX7_overhears_66 : decode cX7_overhears 66 = .ok (.invokevirtual 190, 3) := by decide +kernel
theorem dX7_overhears_69 : decode cX7_overhears 69 = .ok (.ishl, 1) := by decide +kernel
theorem dX7_overhears_70 : decode cX7_overhears 70 = .ok (.ior, 1) := by decide +kernel
theorem dX7_overhears_71 : decode cX7_overhears 71 = .ok (.istore_n 3, 1) := by decide +kernel
theorem dX7_overhears_72 : decode cX7_overhears 72 = .ok (.iinc 4 1, 3) := by decide +kernel
theorem dX7_overhears_75 : decode cX7_overhears 75 = .ok (.goto (-31), 3) := by decide +kernel
theorem dX7_overhears_78 : decode cX7_overhears 78 = .ok (.iload_n 3, 1) := by decide +kernel
theorem dX7_overhears_79 : decode cX7_overhears 79 = .ok (.ireturn, 1) := by decide +kernel
theorem dX7_needs_0 : decode cX7_needs 0 = .ok (.aload_n 0, 1) := by decide +kernel
theorem dX7_needs_1 : decode cX7_needs 1 = .ok (.iload_n 1, 1) := by decide +kernel
theorem dX7_needs_2 : decode cX7_needs 2 = .ok (.iload_n 2, 1) := by decide +kernel
theorem dX7_needs_3 : decode cX7_needs 3 = .ok (.invokevirtual 171, 3) := by decide +kernel
theorem dX7_needs_6 : decode cX7_needs 6 = .ok (.ifCond .ne 6, 3) := by decide +kernel
theorem dX7_needs_9 : decode cX7_needs 9 = .ok (.bipush (-2), 2) := by decide +kernel
theorem dX7_needs_11 : decode cX7_needs 11 = .ok (.ireturn, 1) := by decide +kernel
theorem dX7_needs_12 : decode cX7_needs 12 = .ok (.aload_n 0, 1) := by decide +kernel
theorem dX7_needs_13 : decode cX7_needs 13 = .ok (.getfield 29, 3) := by decide +kernel
theorem dX7_needs_16 : decode cX7_needs 16 = .ok (.aload_n 0, 1) := by decide +kernel
theorem dX7_needs_17 : decode cX7_needs 17 = .ok (.getfield 19, 3) := by decide +kernel
theorem dX7_needs_20 : decode cX7_needs 20 = .ok (.aload_n 0, 1) := by decide +kernel
theorem dX7_needs_21 : decode cX7_needs 21 = .ok (.getfield 19, 3) := by decide +kernel
theorem dX7_needs_24 : decode cX7_needs 24 = .ok (.getfield 133, 3) := by decide +kernel
theorem dX7_needs_27 : decode cX7_needs 27 = .ok (.invokevirtual 178, 3) := by decide +kernel
theorem dX7_needs_30 : decode cX7_needs 30 = .ok (.aload_n 0, 1) := by decide +kernel
theorem dX7_needs_31 : decode cX7_needs 31 = .ok (.iload_n 1, 1) := by decide +kernel
theorem dX7_needs_32 : decode cX7_needs 32 = .ok (.iload_n 2, 1) := by decide +kernel
theorem dX7_needs_33 : decode cX7_needs 33 = .ok (.iconst 0, 1) := by decide +kernel
theorem dX7_needs_34 : decode cX7_needs 34 = .ok (.invokevirtual 200, 3) := by decide +kernel
theorem dX7_needs_37 : decode cX7_needs 37 = .ok (.ifCond .ne 5, 3) := by decide +kernel
theorem dX7_needs_40 : decode cX7_needs 40 = .ok (.iconst (-1), 1) := by decide +kernel
theorem dX7_needs_41 : decode cX7_needs 41 = .ok (.ireturn, 1) := by decide +kernel
theorem dX7_needs_42 : decode cX7_needs 42 = .ok (.iconst 0, 1) := by decide +kernel
theorem dX7_needs_43 : decode cX7_needs 43 = .ok (.istore_n 3, 1) := by decide +kernel
theorem dX7_needs_44 : decode cX7_needs 44 = .ok (.iload_n 3, 1) := by decide +kernel
theorem dX7_needs_45 : decode cX7_needs 45 = .ok (.aload_n 0, 1) := by decide +kernel
theorem dX7_needs_46 : decode cX7_needs 46 = .ok (.getfield 19, 3) := by decide +kernel
theorem dX7_needs_49 : decode cX7_needs 49 = .ok (.getfield 165, 3) := by decide +kernel
theorem dX7_needs_52 : decode cX7_needs 52 = .ok (.if_icmp .ge 33, 3) := by decide +kernel
theorem dX7_needs_55 : decode cX7_needs 55 = .ok (.iload_n 3, 1) := by decide +kernel
theorem dX7_needs_56 : decode cX7_needs 56 = .ok (.iload_n 1, 1) := by decide +kernel
theorem dX7_needs_57 : decode cX7_needs 57 = .ok (.if_icmp .eq 22, 3) := by decide +kernel
theorem dX7_needs_60 : decode cX7_needs 60 = .ok (.iload_n 3, 1) := by decide +kernel
theorem dX7_needs_61 : decode cX7_needs 61 = .ok (.iload_n 2, 1) := by decide +kernel
theorem dX7_needs_62 : decode cX7_needs 62 = .ok (.if_icmp .eq 17, 3) := by decide +kernel
theorem dX7_needs_65 : decode cX7_needs 65 = .ok (.aload_n 0, 1) := by decide +kernel
theorem dX7_needs_66 : decode cX7_needs 66 = .ok (.iload_n 1, 1) := by decide +kernel
theorem dX7_needs_67 : decode cX7_needs 67 = .ok (.iload_n 2, 1) := by decide +kernel
theorem dX7_needs_68 : decode cX7_needs 68 = .ok (.iconst 1, 1) := by decide +kernel
theorem dX7_needs_69 : decode cX7_needs 69 = .ok (.iload_n 3, 1) := by decide +kernel
theorem dX7_needs_70 : decode cX7_needs 70 = .ok (.ishl, 1) := by decide +kernel
theorem dX7_needs_71 : decode cX7_needs 71 = .ok (.invokevirtual 200, 3) := by decide +kernel
theorem dX7_needs_74 : decode cX7_needs 74 = .ok (.ifCond .ne 5, 3) := by decide +kernel
theorem dX7_needs_77 : decode cX7_needs 77 = .ok (.iload_n 3, 1) := by decide +kernel
theorem dX7_needs_78 : decode cX7_needs 78 = .ok (.ireturn, 1) := by decide +kernel
theorem dX7_needs_79 : decode cX7_needs 79 = .ok (.iinc 3 1, 3) := by decide +kernel
theorem dX7_needs_82 : decode cX7_needs 82 = .ok (.goto (-38), 3) := by decide +kernel
theorem dX7_needs_85 : decode cX7_needs 85 = .ok (.iconst (-1), 1) := by decide +kernel
theorem dX7_needs_86 : decode cX7_needs 86 = .ok (.ireturn, 1) := by decide +kernel
theorem dX7_openHours_0 : decode cX7_openHours 0 = .ok (.aload_n 0, 1) := by decide +kernel
theorem dX7_openHours_1 : decode cX7_openHours 1 = .ok (.getfield 19, 3) := by decide +kernel
theorem dX7_openHours_4 : decode cX7_openHours 4 = .ok (.iload_n 1, 1) := by decide +kernel
theorem dX7_openHours_5 : decode cX7_openHours 5 = .ok (.i2l, 1) := by decide +kernel
theorem dX7_openHours_6 : decode cX7_openHours 6 = .ok (.invokevirtual 110, 3) := by decide +kernel
theorem dX7_openHours_9 : decode cX7_openHours 9 = .ok (.ifCond .ne 6, 3) := by decide +kernel
theorem dX7_openHours_12 : decode cX7_openHours 12 = .ok (.bipush (-2), 2) := by decide +kernel
theorem dX7_openHours_14 : decode cX7_openHours 14 = .ok (.ireturn, 1) := by decide +kernel
theorem dX7_openHours_15 : decode cX7_openHours 15 = .ok (.iconst 0, 1) := by decide +kernel
theorem dX7_openHours_16 : decode cX7_openHours 16 = .ok (.istore_n 2, 1) := by decide +kernel
theorem dX7_openHours_17 : decode cX7_openHours 17 = .ok (.iconst 0, 1) := by decide +kernel
theorem dX7_openHours_18 : decode cX7_openHours 18 = .ok (.istore_n 3, 1) := by decide +kernel
theorem dX7_openHours_19 : decode cX7_openHours 19 = .ok (.iload_n 3, 1) := by decide +kernel
theorem dX7_openHours_20 : decode cX7_openHours 20 = .ok (.bipush 12, 2) := by decide +kernel
theorem dX7_openHours_22 : decode cX7_openHours 22 = .ok (.if_icmp .ge 43, 3) := by decide +kernel
theorem dX7_openHours_25 : decode cX7_openHours 25 = .ok (.aload_n 0, 1) := by decide +kernel
theorem dX7_openHours_26 : decode cX7_openHours 26 = .ok (.getfield 29, 3) := by decide +kernel
theorem dX7_openHours_29 : decode cX7_openHours 29 = .ok (.aload_n 0, 1) := by decide +kernel
theorem dX7_openHours_30 : decode cX7_openHours 30 = .ok (.getfield 19, 3) := by decide +kernel
theorem dX7_openHours_33 : decode cX7_openHours 33 = .ok (.iload_n 3, 1) := by decide +kernel
theorem dX7_openHours_34 : decode cX7_openHours 34 = .ok (.invokevirtual 178, 3) := by decide +kernel
theorem dX7_openHours_37 : decode cX7_openHours 37 = .ok (.aload_n 0, 1) := by decide +kernel
theorem dX7_openHours_38 : decode cX7_openHours 38 = .ok (.iload_n 1, 1) := by decide +kernel
theorem dX7_openHours_39 : decode cX7_openHours 39 = .ok (.invokestatic 204, 3) := by decide +kernel
theorem dX7_openHours_42 : decode cX7_openHours 42 = .ok (.iload_n 1, 1) := by decide +kernel
theorem dX7_openHours_43 : decode cX7_openHours 43 = .ok (.invokestatic 207, 3) := by decide +kernel
theorem dX7_openHours_46 : decode cX7_openHours 46 = .ok (.iconst 0, 1) := by decide +kernel
theorem dX7_openHours_47 : decode cX7_openHours 47 = .ok (.invokevirtual 200, 3) := by decide +kernel
theorem dX7_openHours_50 : decode cX7_openHours 50 = .ok (.ifCond .eq 9, 3) := by decide +kernel
theorem dX7_openHours_53 : decode cX7_openHours 53 = .ok (.iload_n 2, 1) := by decide +kernel
theorem dX7_openHours_54 : decode cX7_openHours 54 = .ok (.iconst 1, 1) := by decide +kernel
theorem dX7_openHours_55 : decode cX7_openHours 55 = .ok (.iload_n 3, 1) := by decide +kernel
theorem dX7_openHours_56 : decode cX7_openHours 56 = .ok (.ishl, 1) := by decide +kernel
theorem dX7_openHours_57 : decode cX7_openHours 57 = .ok (.ior, 1) := by decide +kernel
theorem dX7_openHours_58 : decode cX7_openHours 58 = .ok (.istore_n 2, 1) := by decide +kernel
theorem dX7_openHours_59 : decode cX7_openHours 59 = .ok (.iinc 3 1, 3) := by decide +kernel
theorem dX7_openHours_62 : decode cX7_openHours 62 = .ok (.goto (-43), 3) := by decide +kernel
theorem dX7_openHours_65 : decode cX7_openHours 65 = .ok (.iload_n 2, 1) := by decide +kernel
theorem dX7_openHours_66 : decode cX7_openHours 66 = .ok (.ireturn, 1) := by decide +kernel
theorem dX7_part_0 : decode cX7_part 0 = .ok (.aload_n 0, 1) := by decide +kernel
theorem dX7_part_1 : decode cX7_part 1 = .ok (.getfield 19, 3) := by decide +kernel
theorem dX7_part_4 : decode cX7_part 4 = .ok (.iload_n 1, 1) := by decide +kernel
theorem dX7_part_5 : decode cX7_part 5 = .ok (.invokevirtual 90, 3) := by decide +kernel
theorem dX7_part_8 : decode cX7_part 8 = .ok (.ifCond .ne 6, 3) := by decide +kernel
theorem dX7_part_11 : decode cX7_part 11 = .ok (.bipush (-2), 2) := by decide +kernel
theorem dX7_part_13 : decode cX7_part 13 = .ok (.ireturn, 1) := by decide +kernel
theorem dX7_part_14 : decode cX7_part 14 = .ok (.aload_n 0, 1) := by decide +kernel
theorem dX7_part_15 : decode cX7_part 15 = .ok (.getfield 29, 3) := by decide +kernel
theorem dX7_part_18 : decode cX7_part 18 = .ok (.aload_n 0, 1) := by decide +kernel
theorem dX7_part_19 : decode cX7_part 19 = .ok (.getfield 19, 3) := by decide +kernel
theorem dX7_part_22 : decode cX7_part 22 = .ok (.aload_n 0, 1) := by decide +kernel
theorem dX7_part_23 : decode cX7_part 23 = .ok (.getfield 19, 3) := by decide +kernel
theorem dX7_part_26 : decode cX7_part 26 = .ok (.getfield 133, 3) := by decide +kernel
theorem dX7_part_29 : decode cX7_part 29 = .ok (.invokevirtual 178, 3) := by decide +kernel
theorem dX7_part_32 : decode cX7_part 32 = .ok (.aload_n 0, 1) := by decide +kernel
theorem dX7_part_33 : decode cX7_part 33 = .ok (.getfield 29, 3) := by decide +kernel
theorem dX7_part_36 : decode cX7_part 36 = .ok (.iload_n 1, 1) := by decide +kernel
theorem dX7_part_37 : decode cX7_part 37 = .ok (.invokevirtual 210, 3) := by decide +kernel
theorem dX7_part_40 : decode cX7_part 40 = .ok (.ireturn, 1) := by decide +kernel
theorem dX7_parts_0 : decode cX7_parts 0 = .ok (.aload_n 0, 1) := by decide +kernel
theorem dX7_parts_1 : decode cX7_parts 1 = .ok (.getfield 29, 3) := by decide +kernel
theorem dX7_parts_4 : decode cX7_parts 4 = .ok (.aload_n 0, 1) := by decide +kernel
theorem dX7_parts_5 : decode cX7_parts 5 = .ok (.getfield 19, 3) := by decide +kernel
theorem dX7_parts_8 : decode cX7_parts 8 = .ok (.aload_n 0, 1) := by decide +kernel
theorem dX7_parts_9 : decode cX7_parts 9 = .ok (.getfield 19, 3) := by decide +kernel
theorem dX7_parts_12 : decode cX7_parts 12 = .ok (.getfield 133, 3) := by decide +kernel
theorem dX7_parts_15 : decode cX7_parts 15 = .ok (.invokevirtual 178, 3) := by decide +kernel
theorem dX7_parts_18 : decode cX7_parts 18 = .ok (.iconst 0, 1) := by decide +kernel
theorem dX7_parts_19 : decode cX7_parts 19 = .ok (.istore_n 1, 1) := by decide +kernel
theorem dX7_parts_20 : decode cX7_parts 20 = .ok (.iconst 0, 1) := by decide +kernel
theorem dX7_parts_21 : decode cX7_parts 21 = .ok (.istore_n 2, 1) := by decide +kernel
theorem dX7_parts_22 : decode cX7_parts 22 = .ok (.iconst 0, 1) := by decide +kernel
theorem dX7_parts_23 : decode cX7_parts 23 = .ok (.istore_n 3, 1) := by decide +kernel
theorem dX7_parts_24 : decode cX7_parts 24 = .ok (.iload_n 3, 1) := by decide +kernel
theorem dX7_parts_25 : decode cX7_parts 25 = .ok (.aload_n 0, 1) := by decide +kernel
theorem dX7_parts_26 : decode cX7_parts 26 = .ok (.getfield 19, 3) := by decide +kernel
theorem dX7_parts_29 : decode cX7_parts 29 = .ok (.getfield 165, 3) := by decide +kernel
theorem dX7_parts_32 : decode cX7_parts 32 = .ok (.if_icmp .ge 31, 3) := by decide +kernel
theorem dX7_parts_35 : decode cX7_parts 35 = .ok (.iload_n 2, 1) := by decide +kernel
theorem dX7_parts_36 : decode cX7_parts 36 = .ok (.iload_n 3, 1) := by decide +kernel
theorem dX7_parts_37 : decode cX7_parts 37 = .ok (.ishr, 1) := by decide +kernel
theorem dX7_parts_38 : decode cX7_parts 38 = .ok (.iconst 1, 1) := by decide +kernel
theorem dX7_parts_39 : decode cX7_parts 39 = .ok (.iand, 1) := by decide +kernel
theorem dX7_parts_40 : decode cX7_parts 40 = .ok (.ifCond .ne 17, 3) := by decide +kernel
theorem dX7_parts_43 : decode cX7_parts 43 = .ok (.iload_n 2, 1) := by decide +kernel
theorem dX7_parts_44 : decode cX7_parts 44 = .ok (.aload_n 0, 1) := by decide +kernel
theorem dX7_parts_45 : decode cX7_parts 45 = .ok (.getfield 29, 3) := by decide +kernel
theorem dX7_parts_48 : decode cX7_parts 48 = .ok (.iload_n 3, 1) := by decide +kernel
theorem dX7_parts_49 : decode cX7_parts 49 = .ok (.invokevirtual 210, 3) := by decide +kernel
theorem dX7_parts_52 : decode cX7_parts 52 = .ok (.ior, 1) := by decide +kernel
theorem dX7_parts_53 : decode cX7_parts 53 = .ok (.istore_n 2, 1) := by decide +kernel
theorem dX7_parts_54 : decode cX7_parts 54 = .ok (.iinc 1 1, 3) := by decide +kernel
theorem dX7_parts_57 : decode cX7_parts 57 = .ok (.iinc 3 1, 3) := by decide +kernel
theorem dX7_parts_60 : decode cX7_parts 60 = .ok (.goto (-36), 3) := by decide +kernel
theorem dX7_parts_63 : decode cX7_parts 63 = .ok (.iload_n 1, 1) := by decide +kernel
theorem dX7_parts_64 : decode cX7_parts 64 = .ok (.ireturn, 1) := by decide +kernel
theorem dX7_stay_0 : decode cX7_stay 0 = .ok (.aload_n 0, 1) := by decide +kernel
theorem dX7_stay_1 : decode cX7_stay 1 = .ok (.getfield 29, 3) := by decide +kernel
theorem dX7_stay_4 : decode cX7_stay 4 = .ok (.aload_n 0, 1) := by decide +kernel
theorem dX7_stay_5 : decode cX7_stay 5 = .ok (.getfield 19, 3) := by decide +kernel
theorem dX7_stay_8 : decode cX7_stay 8 = .ok (.aload_n 0, 1) := by decide +kernel
theorem dX7_stay_9 : decode cX7_stay 9 = .ok (.getfield 19, 3) := by decide +kernel
theorem dX7_stay_12 : decode cX7_stay 12 = .ok (.getfield 133, 3) := by decide +kernel
theorem dX7_stay_15 : decode cX7_stay 15 = .ok (.invokevirtual 178, 3) := by decide +kernel
theorem dX7_stay_18 : decode cX7_stay 18 = .ok (.iload_n 1, 1) := by decide +kernel
theorem dX7_stay_19 : decode cX7_stay 19 = .ok (.iconst (-1), 1) := by decide +kernel
theorem dX7_stay_20 : decode cX7_stay 20 = .ok (.if_icmp .ne 13, 3) := by decide +kernel
theorem dX7_stay_23 : decode cX7_stay 23 = .ok (.aload_n 0, 1) := by decide +kernel
theorem dX7_stay_24 : decode cX7_stay 24 = .ok (.getfield 29, 3) := by decide +kernel
theorem dX7_stay_27 : decode cX7_stay 27 = .ok (.invokevirtual 213, 3) := by decide +kernel
theorem dX7_stay_30 : decode cX7_stay 30 = .ok (.goto 11, 3) := by decide +kernel
theorem dX7_stay_33 : decode cX7_stay 33 = .ok (.aload_n 0, 1) := by decide +kernel
theorem dX7_stay_34 : decode cX7_stay 34 = .ok (.getfield 29, 3) := by decide +kernel
theorem dX7_stay_37 : decode cX7_stay 37 = .ok (.iload_n 1, 1) := by decide +kernel
theorem dX7_stay_38 : decode cX7_stay 38 = .ok (.invokevirtual 216, 3) := by decide +kernel
theorem dX7_stay_41 : decode cX7_stay 41 = .ok (.ireturn, 1) := by decide +kernel
theorem dX7_brace_0 : decode cX7_brace 0 = .ok (.aload_n 0, 1) := by decide +kernel
theorem dX7_brace_1 : decode cX7_brace 1 = .ok (.getfield 29, 3) := by decide +kernel
theorem dX7_brace_4 : decode cX7_brace 4 = .ok (.aload_n 0, 1) := by decide +kernel
theorem dX7_brace_5 : decode cX7_brace 5 = .ok (.getfield 19, 3) := by decide +kernel
theorem dX7_brace_8 : decode cX7_brace 8 = .ok (.aload_n 0, 1) := by decide +kernel
theorem dX7_brace_9 : decode cX7_brace 9 = .ok (.getfield 19, 3) := by decide +kernel
theorem dX7_brace_12 : decode cX7_brace 12 = .ok (.getfield 133, 3) := by decide +kernel
theorem dX7_brace_15 : decode cX7_brace 15 = .ok (.invokevirtual 178, 3) := by decide +kernel
theorem dX7_brace_18 : decode cX7_brace 18 = .ok (.iconst (-1), 1) := by decide +kernel
theorem dX7_brace_19 : decode cX7_brace 19 = .ok (.istore_n 1, 1) := by decide +kernel
theorem dX7_brace_20 : decode cX7_brace 20 = .ok (.iconst 0, 1) := by decide +kernel
theorem dX7_brace_21 : decode cX7_brace 21 = .ok (.istore_n 2, 1) := by decide +kernel
theorem dX7_brace_22 : decode cX7_brace 22 = .ok (.iconst 0, 1) := by decide +kernel
theorem dX7_brace_23 : decode cX7_brace 23 = .ok (.istore_n 3, 1) := by decide +kernel
theorem dX7_brace_24 : decode cX7_brace 24 = .ok (.iload_n 3, 1) := by decide +kernel
theorem dX7_brace_25 : decode cX7_brace 25 = .ok (.aload_n 0, 1) := by decide +kernel
theorem dX7_brace_26 : decode cX7_brace 26 = .ok (.getfield 19, 3) := by decide +kernel
theorem dX7_brace_29 : decode cX7_brace 29 = .ok (.getfield 165, 3) := by decide +kernel
theorem dX7_brace_32 : decode cX7_brace 32 = .ok (.if_icmp .ge 119, 3) := by decide +kernel
theorem dX7_brace_35 : decode cX7_brace 35 = .ok (.iload_n 3, 1) := by decide +kernel
theorem dX7_brace_36 : decode cX7_brace 36 = .ok (.iconst 1, 1) := by decide +kernel
theorem dX7_brace_37 : decode cX7_brace 37 = .ok (.iadd, 1) := by decide +kernel
theorem dX7_brace_38 : decode cX7_brace 38 = .ok (.istore 4, 2) := by decide +kernel
theorem dX7_brace_40 : decode cX7_brace 40 = .ok (.iload 4, 2) := by decide +kernel
theorem dX7_brace_42 : decode cX7_brace 42 = .ok (.aload_n 0, 1) := by decide +kernel
theorem dX7_brace_43 : decode cX7_brace 43 = .ok (.getfield 19, 3) := by decide +kernel
theorem dX7_brace_46 : decode cX7_brace 46 = .ok (.getfield 165, 3) := by decide +kernel
theorem dX7_brace_49 : decode cX7_brace 49 = .ok (.if_icmp .ge 96, 3) := by decide +kernel
theorem dX7_brace_52 : decode cX7_brace 52 = .ok (.iload_n 3, 1) := by decide +kernel
theorem dX7_brace_53 : decode cX7_brace 53 = .ok (.iload 4, 2) := by decide +kernel
theorem dX7_brace_55 : decode cX7_brace 55 = .ok (.invokestatic 219, 3) := by decide +kernel
theorem dX7_brace_58 : decode cX7_brace 58 = .ok (.istore 5, 2) := by decide +kernel
theorem dX7_brace_60 : decode cX7_brace 60 = .ok (.aload_n 0, 1) := by decide +kernel
theorem dX7_brace_61 : decode cX7_brace 61 = .ok (.getfield 19, 3) := by decide +kernel
theorem dX7_brace_64 : decode cX7_brace 64 = .ok (.iload 5, 2) := by decide +kernel
theorem dX7_brace_66 : decode cX7_brace 66 = .ok (.invokevirtual 222, 3) := by decide +kernel
theorem dX7_brace_69 : decode cX7_brace 69 = .ok (.ifCond .ne 6, 3) := by decide +kernel
theorem dX7_brace_72 : decode cX7_brace 72 = .ok (.goto 67, 3) := by decide +kernel
theorem dX7_brace_75 : decode cX7_brace 75 = .ok (.aload_n 0, 1) := by decide +kernel
theorem dX7_brace_76 : decode cX7_brace 76 = .ok (.iload_n 3, 1) := by decide +kernel
theorem dX7_brace_77 : decode cX7_brace 77 = .ok (.iload 4, 2) := by decide +kernel
theorem dX7_brace_79 : decode cX7_brace 79 = .ok (.invokevirtual 225, 3) := by decide +kernel
theorem dX7_brace_82 : decode cX7_brace 82 = .ok (.istore 6, 2) := by decide +kernel
theorem dX7_brace_84 : decode cX7_brace 84 = .ok (.iload_n 1, 1) := by decide +kernel
theorem dX7_brace_85 : decode cX7_brace 85 = .ok (.iconst (-1), 1) := by decide +kernel
theorem dX7_brace_86 : decode cX7_brace 86 = .ok (.if_icmp .eq 35, 3) := by decide +kernel
theorem dX7_brace_89 : decode cX7_brace 89 = .ok (.iload 6, 2) := by decide +kernel
theorem dX7_brace_91 : decode cX7_brace 91 = .ok (.iload_n 2, 1) := by decide +kernel
theorem dX7_brace_92 : decode cX7_brace 92 = .ok (.if_icmp .lt 29, 3) := by decide +kernel
theorem dX7_brace_95 : decode cX7_brace 95 = .ok (.iload 6, 2) := by decide +kernel
theorem dX7_brace_97 : decode cX7_brace 97 = .ok (.iload_n 2, 1) := by decide +kernel
theorem dX7_brace_98 : decode cX7_brace 98 = .ok (.if_icmp .ne 27, 3) := by decide +kernel
theorem dX7_brace_101 : decode cX7_brace 101 = .ok (.aload_n 0, 1) := by decide +kernel
theorem dX7_brace_102 : decode cX7_brace 102 = .ok (.getfield 19, 3) := by decide +kernel
theorem dX7_brace_105 : decode cX7_brace 105 = .ok (.iload 5, 2) := by decide +kernel
theorem dX7_brace_107 : decode cX7_brace 107 = .ok (.invokevirtual 121, 3) := by decide +kernel
theorem dX7_brace_110 : decode cX7_brace 110 = .ok (.aload_n 0, 1) := by decide +kernel
theorem dX7_brace_111 : decode cX7_brace 111 = .ok (.getfield 19, 3) := by decide +kernel
theorem dX7_brace_114 : decode cX7_brace 114 = .ok (.iload_n 1, 1) := by decide +kernel
theorem dX7_brace_115 : decode cX7_brace 115 = .ok (.invokevirtual 121, 3) := by decide +kernel
theorem dX7_brace_118 : decode cX7_brace 118 = .ok (.if_icmp .ge 7, 3) := by decide +kernel
theorem dX7_brace_121 : decode cX7_brace 121 = .ok (.iconst 1, 1) := by decide +kernel
theorem dX7_brace_122 : decode cX7_brace 122 = .ok (.goto 4, 3) := by decide +kernel
theorem dX7_brace_125 : decode cX7_brace 125 = .ok (.iconst 0, 1) := by decide +kernel
theorem dX7_brace_126 : decode cX7_brace 126 = .ok (.istore 7, 2) := by decide +kernel
theorem dX7_brace_128 : decode cX7_brace 128 = .ok (.iload 7, 2) := by decide +kernel
theorem dX7_brace_130 : decode cX7_brace 130 = .ok (.ifCond .eq 9, 3) := by decide +kernel
theorem dX7_brace_133 : decode cX7_brace 133 = .ok (.iload 5, 2) := by decide +kernel
theorem dX7_brace_135 : decode cX7_brace 135 = .ok (.istore_n 1, 1) := by decide +kernel
theorem dX7_brace_136 : decode cX7_brace 136 = .ok (.iload 6, 2) := by decide +kernel
theorem dX7_brace_138 : decode cX7_brace 138 = .ok (.istore_n 2, 1) := by decide +kernel
theorem dX7_brace_139 : decode cX7_brace 139 = .ok (.iinc 4 1, 3) := by decide +kernel
theorem dX7_brace_142 : decode cX7_brace 142 = .ok (.goto (-102), 3) := by decide +kernel
theorem dX7_brace_145 : decode cX7_brace 145 = .ok (.iinc 3 1, 3) := by decide +kernel
theorem dX7_brace_148 : decode cX7_brace 148 = .ok (.goto (-124), 3) := by decide +kernel
theorem dX7_brace_151 : decode cX7_brace 151 = .ok (.iload_n 1, 1) := by decide +kernel
theorem dX7_brace_152 : decode cX7_brace 152 = .ok (.ireturn, 1) := by decide +kernel
theorem dX7_both_0 : decode cX7_both 0 = .ok (.aload_n 0, 1) := by decide +kernel
theorem dX7_both_1 : decode cX7_both 1 = .ok (.getfield 19, 3) := by decide +kernel
theorem dX7_both_4 : decode cX7_both 4 = .ok (.iload_n 1, 1) := by decide +kernel
theorem dX7_both_5 : decode cX7_both 5 = .ok (.i2l, 1) := by decide +kernel
theorem dX7_both_6 : decode cX7_both 6 = .ok (.invokevirtual 110, 3) := by decide +kernel
theorem dX7_both_9 : decode cX7_both 9 = .ok (.ifCond .eq 15, 3) := by decide +kernel
theorem dX7_both_12 : decode cX7_both 12 = .ok (.aload_n 0, 1) := by decide +kernel
theorem dX7_both_13 : decode cX7_both 13 = .ok (.getfield 19, 3) := by decide +kernel
theorem dX7_both_16 : decode cX7_both 16 = .ok (.iload_n 2, 1) := by decide +kernel
theorem dX7_both_17 : decode cX7_both 17 = .ok (.i2l, 1) := by decide +kernel
theorem dX7_both_18 : decode cX7_both 18 = .ok (.invokevirtual 110, 3) := by decide +kernel
theorem dX7_both_21 : decode cX7_both 21 = .ok (.ifCond .ne 6, 3) := by decide +kernel
theorem dX7_both_24 : decode cX7_both 24 = .ok (.bipush (-2), 2) := by decide +kernel
theorem dX7_both_26 : decode cX7_both 26 = .ok (.ireturn, 1) := by decide +kernel
theorem dX7_both_27 : decode cX7_both 27 = .ok (.iload_n 1, 1) := by decide +kernel
theorem dX7_both_28 : decode cX7_both 28 = .ok (.invokestatic 228, 3) := by decide +kernel
theorem dX7_both_31 : decode cX7_both 31 = .ok (.iload_n 2, 1) := by decide +kernel
theorem dX7_both_32 : decode cX7_both 32 = .ok (.invokestatic 228, 3) := by decide +kernel
theorem dX7_both_35 : decode cX7_both 35 = .ok (.iand, 1) := by decide +kernel
theorem dX7_both_36 : decode cX7_both 36 = .ok (.ifCond .eq 6, 3) := by decide +kernel
theorem dX7_both_39 : decode cX7_both 39 = .ok (.bipush (-3), 2) := by decide +kernel
theorem dX7_both_41 : decode cX7_both 41 = .ok (.ireturn, 1) := by decide +kernel
theorem dX7_both_42 : decode cX7_both 42 = .ok (.aload_n 0, 1) := by decide +kernel
theorem dX7_both_43 : decode cX7_both 43 = .ok (.getfield 29, 3) := by decide +kernel
theorem dX7_both_46 : decode cX7_both 46 = .ok (.aload_n 0, 1) := by decide +kernel
theorem dX7_both_47 : decode cX7_both 47 = .ok (.getfield 19, 3) := by decide +kernel
theorem dX7_both_50 : decode cX7_both 50 = .ok (.aload_n 0, 1) := by decide +kernel
theorem dX7_both_51 : decode cX7_both 51 = .ok (.getfield 19, 3) := by decide +kernel
theorem dX7_both_54 : decode cX7_both 54 = .ok (.getfield 133, 3) := by decide +kernel
theorem dX7_both_57 : decode cX7_both 57 = .ok (.invokevirtual 178, 3) := by decide +kernel
theorem dX7_both_60 : decode cX7_both 60 = .ok (.aload_n 0, 1) := by decide +kernel
theorem dX7_both_61 : decode cX7_both 61 = .ok (.getfield 29, 3) := by decide +kernel
theorem dX7_both_64 : decode cX7_both 64 = .ok (.iload_n 1, 1) := by decide +kernel
theorem dX7_both_65 : decode cX7_both 65 = .ok (.iload_n 2, 1) := by decide +kernel
theorem dX7_both_66 : decode cX7_both 66 = .ok (.invokevirtual 231, 3) := by decide +kernel
theorem dX7_both_69 : decode cX7_both 69 = .ok (.ireturn, 1) := by decide +kernel
theorem dX7_renewed_0 : decode cX7_renewed 0 = .ok (.aload_n 0, 1) := by decide +kernel
theorem dX7_renewed_1 : decode cX7_renewed 1 = .ok (.getfield 19, 3) := by decide +kernel
theorem dX7_renewed_4 : decode cX7_renewed 4 = .ok (.iload_n 1, 1) := by decide +kernel
theorem dX7_renewed_5 : decode cX7_renewed 5 = .ok (.i2l, 1) := by decide +kernel
theorem dX7_renewed_6 : decode cX7_renewed 6 = .ok (.invokevirtual 110, 3) := by decide +kernel
theorem dX7_renewed_9 : decode cX7_renewed 9 = .ok (.ifCond .eq 12, 3) := by decide +kernel
theorem dX7_renewed_12 : decode cX7_renewed 12 = .ok (.iload_n 2, 1) := by decide +kernel
theorem dX7_renewed_13 : decode cX7_renewed 13 = .ok (.ifCond .lt 8, 3) := by decide +kernel
theorem dX7_renewed_16 : decode cX7_renewed 16 = .ok (.iload_n 2, 1) := by decide +kernel
theorem dX7_renewed_17 : decode cX7_renewed 17 = .ok (.iconst 1, 1) := by decide +kernel
theorem dX7_renewed_18 : decode cX7_renewed 18 = .ok (.if_icmp .le 6, 3) := by decide +kernel
theorem dX7_renewed_21 : decode cX7_renewed 21 = .ok (.bipush (-2), 2) := by decide +kernel
theorem dX7_renewed_23 : decode cX7_renewed 23 = .ok (.ireturn, 1) := by decide +kernel
theorem dX7_renewed_24 : decode cX7_renewed 24 = .ok (.iload_n 1, 1) := by decide +kernel
theorem dX7_renewed_25 : decode cX7_renewed 25 = .ok (.invokestatic 204, 3) := by decide +kernel
theorem dX7_renewed_28 : decode cX7_renewed 28 = .ok (.istore_n 3, 1) := by decide +kernel
theorem dX7_renewed_29 : decode cX7_renewed 29 = .ok (.iload_n 1, 1) := by decide +kernel
theorem dX7_renewed_30 : decode cX7_renewed 30 = .ok (.invokestatic 207, 3) := by decide +kernel
theorem dX7_renewed_33 : decode cX7_renewed 33 = .ok (.istore 4, 2) := by decide +kernel
theorem dX7_renewed_35 : decode cX7_renewed 35 = .ok (.aload_n 0, 1) := by decide +kernel
theorem dX7_renewed_36 : decode cX7_renewed 36 = .ok (.getfield 29, 3) := by decide +kernel
theorem dX7_renewed_39 : decode cX7_renewed 39 = .ok (.aload_n 0, 1) := by decide +kernel
theorem dX7_renewed_40 : decode cX7_renewed 40 = .ok (.getfield 19, 3) := by decide +kernel
theorem dX7_renewed_43 : decode cX7_renewed 43 = .ok (.aload_n 0, 1) := by decide +kernel
theorem dX7_renewed_44 : decode cX7_renewed 44 = .ok (.getfield 19, 3) := by decide +kernel
theorem dX7_renewed_47 : decode cX7_renewed 47 = .ok (.getfield 133, 3) := by decide +kernel
theorem dX7_renewed_50 : decode cX7_renewed 50 = .ok (.invokevirtual 178, 3) := by decide +kernel
theorem dX7_renewed_53 : decode cX7_renewed 53 = .ok (.aload_n 0, 1) := by decide +kernel
theorem dX7_renewed_54 : decode cX7_renewed 54 = .ok (.getfield 29, 3) := by decide +kernel
theorem dX7_renewed_57 : decode cX7_renewed 57 = .ok (.iload 4, 2) := by decide +kernel
theorem dX7_renewed_59 : decode cX7_renewed 59 = .ok (.iconst 0, 1) := by decide +kernel
theorem dX7_renewed_60 : decode cX7_renewed 60 = .ok (.invokevirtual 181, 3) := by decide +kernel
theorem dX7_renewed_63 : decode cX7_renewed 63 = .ok (.aload_n 0, 1) := by decide +kernel
theorem dX7_renewed_64 : decode cX7_renewed 64 = .ok (.getfield 29, 3) := by decide +kernel
theorem dX7_renewed_67 : decode cX7_renewed 67 = .ok (.iload_n 3, 1) := by decide +kernel
theorem dX7_renewed_68 : decode cX7_renewed 68 = .ok (.invokevirtual 184, 3) := by decide +kernel
theorem dX7_renewed_71 : decode cX7_renewed 71 = .ok (.istore 5, 2) := by decide +kernel
theorem dX7_renewed_73 : decode cX7_renewed 73 = .ok (.iload 5, 2) := by decide +kernel
theorem dX7_renewed_75 : decode cX7_renewed 75 = .ok (.iconst (-1), 1) := by decide +kernel
theorem dX7_renewed_76 : decode cX7_renewed 76 = .ok (.if_icmp .ne 6, 3) := by decide +kernel
theorem dX7_renewed_79 : decode cX7_renewed 79 = .ok (.bipush (-5), 2) := by decide +kernel
theorem dX7_renewed_81 : decode cX7_renewed 81 = .ok (.ireturn, 1) := by decide +kernel
theorem dX7_renewed_82 : decode cX7_renewed 82 = .ok (.iconst 0, 1) := by decide +kernel
theorem dX7_renewed_83 : decode cX7_renewed 83 = .ok (.istore 6, 2) := by decide +kernel
theorem dX7_renewed_85 : decode cX7_renewed 85 = .ok (.iconst (-1), 1) := by decide +kernel
theorem dX7_renewed_86 : decode cX7_renewed 86 = .ok (.istore 7, 2) := by decide +kernel
theorem dX7_renewed_88 : decode cX7_renewed 88 = .ok (.iconst 0, 1) := by decide +kernel
theorem dX7_renewed_89 : decode cX7_renewed 89 = .ok (.istore 8, 2) := by decide +kernel
theorem dX7_renewed_91 : decode cX7_renewed 91 = .ok (.iload 8, 2) := by decide +kernel
theorem dX7_renewed_93 : decode cX7_renewed 93 = .ok (.aload_n 0, 1) := by decide +kernel
theorem dX7_renewed_94 : decode cX7_renewed 94 = .ok (.getfield 19, 3) := by decide +kernel
theorem dX7_renewed_97 : decode cX7_renewed 97 = .ok (.getfield 146, 3) := by decide +kernel
theorem dX7_renewed_100 : decode cX7_renewed 100 = .ok (.if_icmp .ge 63, 3) := by decide +kernel
theorem dX7_renewed_103 : decode cX7_renewed 103 = .ok (.aload_n 0, 1) := by decide +kernel
theorem dX7_renewed_104 : decode cX7_renewed 104 = .ok (.getfield 19, 3) := by decide +kernel
theorem dX7_renewed_107 : decode cX7_renewed 107 = .ok (.getfield 124, 3) := by decide +kernel
theorem dX7_renewed_110 : decode cX7_renewed 110 = .ok (.iload 8, 2) := by decide +kernel
theorem dX7_renewed_112 : decode cX7_renewed 112 = .ok (.iaload, 1) := by decide +kernel
theorem dX7_renewed_113 : decode cX7_renewed 113 = .ok (.ifCond .ne 7, 3) := by decide +kernel
theorem dX7_renewed_116 : decode cX7_renewed 116 = .ok (.iconst 0, 1) := by decide +kernel
theorem dX7_renewed_117 : decode cX7_renewed 117 = .ok (.goto 15, 3) := by decide +kernel
theorem dX7_renewed_120 : decode cX7_renewed 120 = .ok (.iload 5, 2) := by decide +kernel
theorem dX7_renewed_122 : decode cX7_renewed 122 = .ok (.aload_n 0, 1) := by decide +kernel
theorem dX7_renewed_123 : decode cX7_renewed 123 = .ok (.iload 8, 2) := by decide +kernel
theorem dX7_renewed_125 : decode cX7_renewed 125 = .ok (.iload_n 3, 1) := by decide +kernel
theorem dX7_renewed_126 : decode cX7_renewed 126 = .ok (.iload 4, 2) := by decide +kernel
theorem dX7_renewed_128 : decode cX7_renewed 128 = .ok (.invokevirtual 234, 3) := by decide +kernel
theorem dX7_renewed_131 : decode cX7_renewed 131 = .ok (.isub, 1) := by decide +kernel
theorem dX7_renewed_132 : decode cX7_renewed 132 = .ok (.istore 9, 2) := by decide +kernel
theorem dX7_renewed_134 : decode cX7_renewed 134 = .ok (.iload 9, 2) := by decide +kernel
theorem dX7_renewed_136 : decode cX7_renewed 136 = .ok (.iload 6, 2) := by decide +kernel
theorem dX7_renewed_138 : decode cX7_renewed 138 = .ok (.if_icmp .le 19, 3) := by decide +kernel
theorem dX7_renewed_141 : decode cX7_renewed 141 = .ok (.iload 9, 2) := by decide +kernel
theorem dX7_renewed_143 : decode cX7_renewed 143 = .ok (.istore 6, 2) := by decide +kernel
theorem dX7_renewed_145 : decode cX7_renewed 145 = .ok (.aload_n 0, 1) := by decide +kernel
theorem dX7_renewed_146 : decode cX7_renewed 146 = .ok (.getfield 19, 3) := by decide +kernel
theorem dX7_renewed_149 : decode cX7_renewed 149 = .ok (.getfield 238, 3) := by decide +kernel
theorem dX7_renewed_152 : decode cX7_renewed 152 = .ok (.iload 8, 2) := by decide +kernel
theorem dX7_renewed_154 : decode cX7_renewed 154 = .ok (.iaload, 1) := by decide +kernel
theorem dX7_renewed_155 : decode cX7_renewed 155 = .ok (.istore 7, 2) := by decide +kernel
theorem dX7_renewed_157 : decode cX7_renewed 157 = .ok (.iinc 8 1, 3) := by decide +kernel
theorem dX7_renewed_160 : decode cX7_renewed 160 = .ok (.goto (-69), 3) := by decide +kernel
theorem dX7_renewed_163 : decode cX7_renewed 163 = .ok (.iload_n 2, 1) := by decide +kernel
theorem dX7_renewed_164 : decode cX7_renewed 164 = .ok (.ifCond .ne 8, 3) := by decide +kernel
theorem dX7_renewed_167 : decode cX7_renewed 167 = .ok (.iload 6, 2) := by decide +kernel
theorem dX7_renewed_169 : decode cX7_renewed 169 = .ok (.goto 5, 3) := by decide +kernel
theorem dX7_renewed_172 : decode cX7_renewed 172 = .ok (.iload 7, 2) := by decide +kernel
theorem dX7_renewed_174 : decode cX7_renewed 174 = .ok (.ireturn, 1) := by decide +kernel
theorem dX7_exchange_0 : decode cX7_exchange 0 = .ok (.iload_n 1, 1) := by decide +kernel
theorem dX7_exchange_1 : decode cX7_exchange 1 = .ok (.ifCond .lt 8, 3) := by decide +kernel
theorem dX7_exchange_4 : decode cX7_exchange 4 = .ok (.iload_n 1, 1) := by decide +kernel
theorem dX7_exchange_5 : decode cX7_exchange 5 = .ok (.iconst 2, 1) := by decide +kernel
theorem dX7_exchange_6 : decode cX7_exchange 6 = .ok (.if_icmp .le 6, 3) := by decide +kernel
theorem dX7_exchange_9 : decode cX7_exchange 9 = .ok (.bipush (-2), 2) := by decide +kernel
theorem dX7_exchange_11 : decode cX7_exchange 11 = .ok (.ireturn, 1) := by decide +kernel
theorem dX7_exchange_12 : decode cX7_exchange 12 = .ok (.aload_n 0, 1) := by decide +kernel
theorem dX7_exchange_13 : decode cX7_exchange 13 = .ok (.getfield 29, 3) := by decide +kernel
theorem dX7_exchange_16 : decode cX7_exchange 16 = .ok (.aload_n 0, 1) := by decide +kernel
theorem dX7_exchange_17 : decode cX7_exchange 17 = .ok (.getfield 19, 3) := by decide +kernel
theorem dX7_exchange_20 : decode cX7_exchange 20 = .ok (.aload_n 0, 1) := by decide +kernel
theorem dX7_exchange_21 : decode cX7_exchange 21 = .ok (.getfield 19, 3) := by decide +kernel
theorem dX7_exchange_24 : decode cX7_exchange 24 = .ok (.getfield 133, 3) := by decide +kernel
theorem dX7_exchange_27 : decode cX7_exchange 27 = .ok (.invokevirtual 178, 3) := by decide +kernel
theorem dX7_exchange_30 : decode cX7_exchange 30 = .ok (.iconst (-1), 1) := by decide +kernel
theorem dX7_exchange_31 : decode cX7_exchange 31 = .ok (.istore_n 2, 1) := by decide +kernel
theorem dX7_exchange_32 : decode cX7_exchange 32 = .ok (.iconst (-1), 1) := by decide +kernel
theorem dX7_exchange_33 : decode cX7_exchange 33 = .ok (.istore_n 3, 1) := by decide +kernel
theorem dX7_exchange_34 : decode cX7_exchange 34 = .ok (.iconst (-1), 1) := by decide +kernel
theorem dX7_exchange_35 : decode cX7_exchange 35 = .ok (.istore 4, 2) := by decide +kernel
theorem dX7_exchange_37 : decode cX7_exchange 37 = .ok (.iconst 0, 1) := by decide +kernel
theorem dX7_exchange_38 : decode cX7_exchange 38 = .ok (.istore 5, 2) := by decide +kernel
theorem dX7_exchange_40 : decode cX7_exchange 40 = .ok (.iload 5, 2) := by decide +kernel
theorem dX7_exchange_42 : decode cX7_exchange 42 = .ok (.aload_n 0, 1) := by decide +kernel
theorem dX7_exchange_43 : decode cX7_exchange 43 = .ok (.getfield 19, 3) := by decide +kernel
theorem dX7_exchange_46 : decode cX7_exchange 46 = .ok (.getfield 165, 3) := by decide +kernel
theorem dX7_exchange_49 : decode cX7_exchange 49 = .ok (.if_icmp .ge 84, 3) := by decide +kernel
theorem dX7_exchange_52 : decode cX7_exchange 52 = .ok (.aload_n 0, 1) := by decide +kernel
theorem dX7_exchange_53 : decode cX7_exchange 53 = .ok (.getfield 29, 3) := by decide +kernel
theorem dX7_exchange_56 : decode cX7_exchange 56 = .ok (.iload 5, 2) := by decide +kernel
theorem dX7_exchange_58 : decode cX7_exchange 58 = .ok (.iconst 0, 1) := by decide +kernel
theorem dX7_exchange_59 : decode cX7_exchange 59 = .ok (.invokevirtual 181, 3) := by decide +kernel
theorem dX7_exchange_62 : decode cX7_exchange 62 = .ok (.aload_n 0, 1) := by decide +kernel
theorem dX7_exchange_63 : decode cX7_exchange 63 = .ok (.getfield 29, 3) := by decide +kernel
theorem dX7_exchange_66 : decode cX7_exchange 66 = .ok (.iload 5, 2) := by decide +kernel
theorem dX7_exchange_68 : decode cX7_exchange 68 = .ok (.aload_n 0, 1) := by decide +kernel
theorem dX7_exchange_69 : decode cX7_exchange 69 = .ok (.getfield 19, 3) := by decide +kernel
theorem dX7_exchange_72 : decode cX7_exchange 72 = .ok (.getfield 194, 3) := by decide +kernel
theorem dX7_exchange_75 : decode cX7_exchange 75 = .ok (.invokevirtual 241, 3) := by decide +kernel
theorem dX7_exchange_78 : decode cX7_exchange 78 = .ok (.istore 6, 2) := by decide +kernel
theorem dX7_exchange_80 : decode cX7_exchange 80 = .ok (.aload_n 0, 1) := by decide +kernel
theorem dX7_exchange_81 : decode cX7_exchange 81 = .ok (.getfield 29, 3) := by decide +kernel
theorem dX7_exchange_84 : decode cX7_exchange 84 = .ok (.iload 5, 2) := by decide +kernel
theorem dX7_exchange_86 : decode cX7_exchange 86 = .ok (.aload_n 0, 1) := by decide +kernel
theorem dX7_exchange_87 : decode cX7_exchange 87 = .ok (.getfield 19, 3) := by decide +kernel
theorem dX7_exchange_90 : decode cX7_exchange 90 = .ok (.getfield 194, 3) := by decide +kernel
theorem dX7_exchange_93 : decode cX7_exchange 93 = .ok (.invokevirtual 244, 3) := by decide +kernel
theorem dX7_exchange_96 : decode cX7_exchange 96 = .ok (.istore 7, 2) := by decide +kernel
theorem dX7_exchange_98 : decode cX7_exchange 98 = .ok (.iload 6, 2) := by decide +kernel
theorem dX7_exchange_100 : decode cX7_exchange 100 = .ok (.iload_n 3, 1) := by decide +kernel
theorem dX7_exchange_101 : decode cX7_exchange 101 = .ok (.if_icmp .gt 16, 3) := by decide +kernel
theorem dX7_exchange_104 : decode cX7_exchange 104 = .ok (.iload 6, 2) := by decide +kernel
theorem dX7_exchange_106 : decode cX7_exchange 106 = .ok (.iload_n 3, 1) := by decide +kernel
theorem dX7_exchange_107 : decode cX7_exchange 107 = .ok (.if_icmp .ne 20, 3) := by decide +kernel
theorem dX7_exchange_110 : decode cX7_exchange 110 = .ok (.iload 7, 2) := by decide +kernel
theorem dX7_exchange_112 : decode cX7_exchange 112 = .ok (.iload 4, 2) := by decide +kernel
theorem dX7_exchange_114 : decode cX7_exchange 114 = .ok (.if_icmp .ge 13, 3) := by decide +kernel
theorem dX7_exchange_117 : decode cX7_exchange 117 = .ok (.iload 5, 2) := by decide +kernel
theorem dX7_exchange_119 : decode cX7_exchange 119 = .ok (.istore_n 2, 1) := by decide +kernel
theorem dX7_exchange_120 : decode cX7_exchange 120 = .ok (.iload 6, 2) := by decide +kernel
theorem dX7_exchange_122 : decode cX7_exchange 122 = .ok (.istore_n 3, 1) := by decide +kernel
theorem dX7_exchange_123 : decode cX7_exchange 123 = .ok (.iload 7, 2) := by decide +kernel
theorem dX7_exchange_125 : decode cX7_exchange 125 = .ok (.istore 4, 2) := by decide +kernel
theorem dX7_exchange_127 : decode cX7_exchange 127 = .ok (.iinc 5 1, 3) := by decide +kernel
theorem dX7_exchange_130 : decode cX7_exchange 130 = .ok (.goto (-90), 3) := by decide +kernel
theorem dX7_exchange_133 : decode cX7_exchange 133 = .ok (.iload_n 1, 1) := by decide +kernel
theorem dX7_exchange_134 : decode cX7_exchange 134 = .ok (.ifCond .ne 5, 3) := by decide +kernel
theorem dX7_exchange_137 : decode cX7_exchange 137 = .ok (.iload_n 2, 1) := by decide +kernel
theorem dX7_exchange_138 : decode cX7_exchange 138 = .ok (.ireturn, 1) := by decide +kernel
theorem dX7_exchange_139 : decode cX7_exchange 139 = .ok (.iload_n 1, 1) := by decide +kernel
theorem dX7_exchange_140 : decode cX7_exchange 140 = .ok (.iconst 1, 1) := by decide +kernel
theorem dX7_exchange_141 : decode cX7_exchange 141 = .ok (.if_icmp .ne 7, 3) := by decide +kernel
theorem dX7_exchange_144 : decode cX7_exchange 144 = .ok (.iload_n 3, 1) := by decide +kernel
theorem dX7_exchange_145 : decode cX7_exchange 145 = .ok (.goto 5, 3) := by decide +kernel
theorem dX7_exchange_148 : decode cX7_exchange 148 = .ok (.iload 4, 2) := by decide +kernel
theorem dX7_exchange_150 : decode cX7_exchange 150 = .ok (.ireturn, 1) := by decide +kernel
theorem dX7_missing_0 : decode cX7_missing 0 = .ok (.aload_n 0, 1) := by decide +kernel
theorem dX7_missing_1 : decode cX7_missing 1 = .ok (.iload_n 1, 1) := by decide +kernel
theorem dX7_missing_2 : decode cX7_missing 2 = .ok (.iload_n 2, 1) := by decide +kernel
theorem dX7_missing_3 : decode cX7_missing 3 = .ok (.invokevirtual 171, 3) := by decide +kernel
theorem dX7_missing_6 : decode cX7_missing 6 = .ok (.ifCond .eq 12, 3) := by decide +kernel
theorem dX7_missing_9 : decode cX7_missing 9 = .ok (.iload_n 3, 1) := by decide +kernel
theorem dX7_missing_10 : decode cX7_missing 10 = .ok (.ifCond .lt 8, 3) := by decide +kernel
theorem dX7_missing_13 : decode cX7_missing 13 = .ok (.iload_n 3, 1) := by decide +kernel
theorem dX7_missing_14 : decode cX7_missing 14 = .ok (.iconst 2, 1) := by decide +kernel
theorem dX7_missing_15 : decode cX7_missing 15 = .ok (.if_icmp .le 6, 3) := by decide +kernel
theorem dX7_missing_18 : decode cX7_missing 18 = .ok (.bipush (-2), 2) := by decide +kernel
theorem dX7_missing_20 : decode cX7_missing 20 = .ok (.ireturn, 1) := by decide +kernel
theorem dX7_missing_21 : decode cX7_missing 21 = .ok (.aload_n 0, 1) := by decide +kernel
theorem dX7_missing_22 : decode cX7_missing 22 = .ok (.getfield 29, 3) := by decide +kernel
theorem dX7_missing_25 : decode cX7_missing 25 = .ok (.aload_n 0, 1) := by decide +kernel
theorem dX7_missing_26 : decode cX7_missing 26 = .ok (.getfield 19, 3) := by decide +kernel
theorem dX7_missing_29 : decode cX7_missing 29 = .ok (.aload_n 0, 1) := by decide +kernel
theorem dX7_missing_30 : decode cX7_missing 30 = .ok (.getfield 19, 3) := by decide +kernel
theorem dX7_missing_33 : decode cX7_missing 33 = .ok (.getfield 133, 3) := by decide +kernel
theorem dX7_missing_36 : decode cX7_missing 36 = .ok (.invokevirtual 178, 3) := by decide +kernel
theorem dX7_missing_39 : decode cX7_missing 39 = .ok (.aload_n 0, 1) := by decide +kernel
theorem dX7_missing_40 : decode cX7_missing 40 = .ok (.getfield 36, 3) := by decide +kernel
theorem dX7_missing_43 : decode cX7_missing 43 = .ok (.aload_n 0, 1) := by decide +kernel
theorem dX7_missing_44 : decode cX7_missing 44 = .ok (.getfield 19, 3) := by decide +kernel
theorem dX7_missing_47 : decode cX7_missing 47 = .ok (.aload_n 0, 1) := by decide +kernel
theorem dX7_missing_48 : decode cX7_missing 48 = .ok (.getfield 29, 3) := by decide +kernel
theorem dX7_missing_51 : decode cX7_missing 51 = .ok (.iload_n 1, 1) := by decide +kernel
theorem dX7_missing_52 : decode cX7_missing 52 = .ok (.iload_n 2, 1) := by decide +kernel
theorem dX7_missing_53 : decode cX7_missing 53 = .ok (.invokevirtual 247, 3) := by decide +kernel
theorem dX7_missing_56 : decode cX7_missing 56 = .ok (.iload_n 3, 1) := by decide +kernel
theorem dX7_missing_57 : decode cX7_missing 57 = .ok (.ifCond .ne 11, 3) := by decide +kernel
theorem dX7_missing_60 : decode cX7_missing 60 = .ok (.aload_n 0, 1) := by decide +kernel
theorem dX7_missing_61 : decode cX7_missing 61 = .ok (.getfield 36, 3) := by decide +kernel
theorem dX7_missing_64 : decode cX7_missing 64 = .ok (.getfield 251, 3) := by decide +kernel
theorem dX7_missing_67 : decode cX7_missing 67 = .ok (.ireturn, 1) := by decide +kernel
theorem dX7_missing_68 : decode cX7_missing 68 = .ok (.iload_n 3, 1) := by decide +kernel
theorem dX7_missing_69 : decode cX7_missing 69 = .ok (.iconst 1, 1) := by decide +kernel
theorem dX7_missing_70 : decode cX7_missing 70 = .ok (.if_icmp .ne 13, 3) := by decide +kernel
theorem dX7_missing_73 : decode cX7_missing 73 = .ok (.aload_n 0, 1) := by decide +kernel
theorem dX7_missing_74 : decode cX7_missing 74 = .ok (.getfield 36, 3) := by decide +kernel
theorem dX7_missing_77 : decode cX7_missing 77 = .ok (.getfield 252, 3) := by decide +kernel
theorem dX7_missing_80 : decode cX7_missing 80 = .ok (.goto 10, 3) := by decide +kernel
theorem dX7_missing_83 : decode cX7_missing 83 = .ok (.aload_n 0, 1) := by decide +kernel
theorem dX7_missing_84 : decode cX7_missing 84 = .ok (.getfield 36, 3) := by decide +kernel
theorem dX7_missing_87 : decode cX7_missing 87 = .ok (.getfield 255, 3) := by decide +kernel
theorem dX7_missing_90 : decode cX7_missing 90 = .ok (.ireturn, 1) := by decide +kernel
theorem dX7_together_0 : decode cX7_together 0 = .ok (.iload_n 1, 1) := by decide +kernel
theorem dX7_together_1 : decode cX7_together 1 = .ok (.invokestatic 258, 3) := by decide +kernel
theorem dX7_together_4 : decode cX7_together 4 = .ok (.ifCond .eq 12, 3) := by decide +kernel
theorem dX7_together_7 : decode cX7_together 7 = .ok (.iload_n 2, 1) := by decide +kernel
theorem dX7_together_8 : decode cX7_together 8 = .ok (.ifCond .lt 8, 3) := by decide +kernel
theorem dX7_together_11 : decode cX7_together 11 = .ok (.iload_n 2, 1) := by decide +kernel
theorem dX7_together_12 : decode cX7_together 12 = .ok (.iconst 2, 1) := by decide +kernel
theorem dX7_together_13 : decode cX7_together 13 = .ok (.if_icmp .le 6, 3) := by decide +kernel
theorem dX7_together_16 : decode cX7_together 16 = .ok (.bipush (-2), 2) := by decide +kernel
theorem dX7_together_18 : decode cX7_together 18 = .ok (.ireturn, 1) := by decide +kernel
theorem dX7_together_19 : decode cX7_together 19 = .ok (.aload_n 0, 1) := by decide +kernel
theorem dX7_together_20 : decode cX7_together 20 = .ok (.iload_n 1, 1) := by decide +kernel
theorem dX7_together_21 : decode cX7_together 21 = .ok (.invokevirtual 261, 3) := by decide +kernel
theorem dX7_together_24 : decode cX7_together 24 = .ok (.istore_n 3, 1) := by decide +kernel
theorem dX7_together_25 : decode cX7_together 25 = .ok (.iload_n 3, 1) := by decide +kernel
theorem dX7_together_26 : decode cX7_together 26 = .ok (.ifCond .eq 5, 3) := by decide +kernel
theorem dX7_together_29 : decode cX7_together 29 = .ok (.iload_n 3, 1) := by decide +kernel
theorem dX7_together_30 : decode cX7_together 30 = .ok (.ireturn, 1) := by decide +kernel
theorem dX7_together_31 : decode cX7_together 31 = .ok (.aload_n 0, 1) := by decide +kernel
theorem dX7_together_32 : decode cX7_together 32 = .ok (.getfield 56, 3) := by decide +kernel
theorem dX7_together_35 : decode cX7_together 35 = .ok (.iload_n 1, 1) := by decide +kernel
theorem dX7_together_36 : decode cX7_together 36 = .ok (.aaload, 1) := by decide +kernel
theorem dX7_together_37 : decode cX7_together 37 = .ok (.getfield 155, 3) := by decide +kernel
theorem dX7_together_40 : decode cX7_together 40 = .ok (.bipush 12, 2) := by decide +kernel
theorem dX7_together_42 : decode cX7_together 42 = .ok (.if_icmp .le 6, 3) := by decide +kernel
theorem dX7_together_45 : decode cX7_together 45 = .ok (.bipush (-4), 2) := by decide +kernel
theorem dX7_together_47 : decode cX7_together 47 = .ok (.ireturn, 1) := by decide +kernel
theorem dX7_together_48 : decode cX7_together 48 = .ok (.aload_n 0, 1) := by decide +kernel
theorem dX7_together_49 : decode cX7_together 49 = .ok (.getfield 43, 3) := by decide +kernel
theorem dX7_together_52 : decode cX7_together 52 = .ok (.aload_n 0, 1) := by decide +kernel
theorem dX7_together_53 : decode cX7_together 53 = .ok (.getfield 19, 3) := by decide +kernel
theorem dX7_together_56 : decode cX7_together 56 = .ok (.aload_n 0, 1) := by decide +kernel
theorem dX7_together_57 : decode cX7_together 57 = .ok (.getfield 56, 3) := by decide +kernel
theorem dX7_together_60 : decode cX7_together 60 = .ok (.iload_n 1, 1) := by decide +kernel
theorem dX7_together_61 : decode cX7_together 61 = .ok (.aaload, 1) := by decide +kernel
theorem dX7_together_62 : decode cX7_together 62 = .ok (.invokevirtual 264, 3) := by decide +kernel
theorem dX7_together_65 : decode cX7_together 65 = .ok (.iload_n 2, 1) := by decide +kernel
theorem dX7_together_66 : decode cX7_together 66 = .ok (.ifCond .ne 11, 3) := by decide +kernel
theorem dX7_together_69 : decode cX7_together 69 = .ok (.aload_n 0, 1) := by decide +kernel
theorem dX7_together_70 : decode cX7_together 70 = .ok (.getfield 43, 3) := by decide +kernel
theorem dX7_together_73 : decode cX7_together 73 = .ok (.getfield 268, 3) := by decide +kernel
theorem dX7_together_76 : decode cX7_together 76 = .ok (.ireturn, 1) := by decide +kernel
theorem dX7_together_77 : decode cX7_together 77 = .ok (.iload_n 2, 1) := by decide +kernel
theorem dX7_together_78 : decode cX7_together 78 = .ok (.iconst 1, 1) := by decide +kernel
theorem dX7_together_79 : decode cX7_together 79 = .ok (.if_icmp .ne 13, 3) := by decide +kernel
theorem dX7_together_82 : decode cX7_together 82 = .ok (.aload_n 0, 1) := by decide +kernel
theorem dX7_together_83 : decode cX7_together 83 = .ok (.getfield 43, 3) := by decide +kernel
theorem dX7_together_86 : decode cX7_together 86 = .ok (.getfield 271, 3) := by decide +kernel
theorem dX7_together_89 : decode cX7_together 89 = .ok (.goto 10, 3) := by decide +kernel
theorem dX7_together_92 : decode cX7_together 92 = .ok (.aload_n 0, 1) := by decide +kernel
theorem dX7_together_93 : decode cX7_together 93 = .ok (.getfield 43, 3) := by decide +kernel
theorem dX7_together_96 : decode cX7_together 96 = .ok (.getfield 274, 3) := by decide +kernel
theorem dX7_together_99 : decode cX7_together 99 = .ok (.ireturn, 1) := by decide +kernel
theorem dX7_shut_0 : decode cX7_shut 0 = .ok (.aload_n 0, 1) := by decide +kernel
theorem dX7_shut_1 : decode cX7_shut 1 = .ok (.iload_n 1, 1) := by decide +kernel
theorem dX7_shut_2 : decode cX7_shut 2 = .ok (.invokevirtual 152, 3) := by decide +kernel
theorem dX7_shut_5 : decode cX7_shut 5 = .ok (.istore_n 3, 1) := by decide +kernel
theorem dX7_shut_6 : decode cX7_shut 6 = .ok (.iload_n 3, 1) := by decide +kernel
theorem dX7_shut_7 : decode cX7_shut 7 = .ok (.ifCond .eq 5, 3) := by decide +kernel
theorem dX7_shut_10 : decode cX7_shut 10 = .ok (.iload_n 3, 1) := by decide +kernel
theorem dX7_shut_11 : decode cX7_shut 11 = .ok (.ireturn, 1) := by decide +kernel
theorem dX7_shut_12 : decode cX7_shut 12 = .ok (.aload_n 0, 1) := by decide +kernel
theorem dX7_shut_13 : decode cX7_shut 13 = .ok (.getfield 56, 3) := by decide +kernel
theorem dX7_shut_16 : decode cX7_shut 16 = .ok (.iload_n 1, 1) := by decide +kernel
theorem dX7_shut_17 : decode cX7_shut 17 = .ok (.aaload, 1) := by decide +kernel
theorem dX7_shut_18 : decode cX7_shut 18 = .ok (.astore 4, 2) := by decide +kernel
theorem dX7_shut_20 : decode cX7_shut 20 = .ok (.iload_n 2, 1) := by decide +kernel
theorem dX7_shut_21 : decode cX7_shut 21 = .ok (.ifCond .lt 12, 3) := by decide +kernel
theorem dX7_shut_24 : decode cX7_shut 24 = .ok (.iload_n 2, 1) := by decide +kernel
theorem dX7_shut_25 : decode cX7_shut 25 = .ok (.aload 4, 2) := by decide +kernel
theorem dX7_shut_27 : decode cX7_shut 27 = .ok (.getfield 155, 3) := by decide +kernel
theorem dX7_shut_30 : decode cX7_shut 30 = .ok (.if_icmp .lt 6, 3) := by decide +kernel
theorem dX7_shut_33 : decode cX7_shut 33 = .ok (.bipush (-7), 2) := by decide +kernel
theorem dX7_shut_35 : decode cX7_shut 35 = .ok (.ireturn, 1) := by decide +kernel
theorem dX7_shut_36 : decode cX7_shut 36 = .ok (.aload_n 0, 1) := by decide +kernel
theorem dX7_shut_37 : decode cX7_shut 37 = .ok (.iload_n 1, 1) := by decide +kernel
theorem dX7_shut_38 : decode cX7_shut 38 = .ok (.invokevirtual 261, 3) := by decide +kernel
theorem dX7_shut_41 : decode cX7_shut 41 = .ok (.istore_n 3, 1) := by decide +kernel
theorem dX7_shut_42 : decode cX7_shut 42 = .ok (.iload_n 3, 1) := by decide +kernel
theorem dX7_shut_43 : decode cX7_shut 43 = .ok (.ifCond .eq 5, 3) := by decide +kernel
theorem dX7_shut_46 : decode cX7_shut 46 = .ok (.iload_n 3, 1) := by decide +kernel
theorem dX7_shut_47 : decode cX7_shut 47 = .ok (.ireturn, 1) := by decide +kernel
theorem dX7_shut_48 : decode cX7_shut 48 = .ok (.iconst 0, 1) := by decide +kernel
theorem dX7_shut_49 : decode cX7_shut 49 = .ok (.istore 5, 2) := by decide +kernel
theorem dX7_shut_51 : decode cX7_shut 51 = .ok (.iconst 0, 1) := by decide +kernel
theorem dX7_shut_52 : decode cX7_shut 52 = .ok (.istore 6, 2) := by decide +kernel
theorem dX7_shut_54 : decode cX7_shut 54 = .ok (.iload 6, 2) := by decide +kernel
theorem dX7_shut_56 : decode cX7_shut 56 = .ok (.aload 4, 2) := by decide +kernel
theorem dX7_shut_58 : decode cX7_shut 58 = .ok (.getfield 155, 3) := by decide +kernel
theorem dX7_shut_61 : decode cX7_shut 61 = .ok (.if_icmp .ge 33, 3) := by decide +kernel
theorem dX7_shut_64 : decode cX7_shut 64 = .ok (.aload 4, 2) := by decide +kernel
theorem dX7_shut_66 : decode cX7_shut 66 = .ok (.iload_n 2, 1) := by decide +kernel
theorem dX7_shut_67 : decode cX7_shut 67 = .ok (.invokevirtual 158, 3) := by decide +kernel
theorem dX7_shut_70 : decode cX7_shut 70 = .ok (.l2i, 1) := by decide +kernel
theorem dX7_shut_71 : decode cX7_shut 71 = .ok (.aload 4, 2) := by decide +kernel
theorem dX7_shut_73 : decode cX7_shut 73 = .ok (.iload 6, 2) := by decide +kernel
theorem dX7_shut_75 : decode cX7_shut 75 = .ok (.invokevirtual 158, 3) := by decide +kernel
theorem dX7_shut_78 : decode cX7_shut 78 = .ok (.l2i, 1) := by decide +kernel
theorem dX7_shut_79 : decode cX7_shut 79 = .ok (.invokestatic 114, 3) := by decide +kernel
theorem dX7_shut_82 : decode cX7_shut 82 = .ok (.ifCond .eq 6, 3) := by decide +kernel
theorem dX7_shut_85 : decode cX7_shut 85 = .ok (.iinc 5 1, 3) := by decide +kernel
theorem dX7_shut_88 : decode cX7_shut 88 = .ok (.iinc 6 1, 3) := by decide +kernel
theorem dX7_shut_91 : decode cX7_shut 91 = .ok (.goto (-37), 3) := by decide +kernel
theorem dX7_shut_94 : decode cX7_shut 94 = .ok (.iload 5, 2) := by decide +kernel
theorem dX7_shut_96 : decode cX7_shut 96 = .ok (.ireturn, 1) := by decide +kernel
theorem dX7_web_0 : decode cX7_web 0 = .ok (.iload_n 1, 1) := by decide +kernel
theorem dX7_web_1 : decode cX7_web 1 = .ok (.ifCond .lt 8, 3) := by decide +kernel
theorem dX7_web_4 : decode cX7_web 4 = .ok (.iload_n 1, 1) := by decide +kernel
theorem dX7_web_5 : decode cX7_web 5 = .ok (.iconst 1, 1) := by decide +kernel
theorem dX7_web_6 : decode cX7_web 6 = .ok (.if_icmp .le 6, 3) := by decide +kernel
theorem dX7_web_9 : decode cX7_web 9 = .ok (.bipush (-2), 2) := by decide +kernel
theorem dX7_web_11 : decode cX7_web 11 = .ok (.ireturn, 1) := by decide +kernel
theorem dX7_web_12 : decode cX7_web 12 = .ok (.aload_n 0, 1) := by decide +kernel
theorem dX7_web_13 : decode cX7_web 13 = .ok (.getfield 19, 3) := by decide +kernel
theorem dX7_web_16 : decode cX7_web 16 = .ok (.getfield 165, 3) := by decide +kernel
theorem dX7_web_19 : decode cX7_web 19 = .ok (.iconst 1, 1) := by decide +kernel
theorem dX7_web_20 : decode cX7_web 20 = .ok (.if_icmp .ge 6, 3) := by decide +kernel
theorem dX7_web_23 : decode cX7_web 23 = .ok (.bipush (-5), 2) := by decide +kernel
theorem dX7_web_25 : decode cX7_web 25 = .ok (.ireturn, 1) := by decide +kernel
theorem dX7_web_26 : decode cX7_web 26 = .ok (.aload_n 0, 1) := by decide +kernel
theorem dX7_web_27 : decode cX7_web 27 = .ok (.getfield 19, 3) := by decide +kernel
theorem dX7_web_30 : decode cX7_web 30 = .ok (.getfield 165, 3) := by decide +kernel
theorem dX7_web_33 : decode cX7_web 33 = .ok (.iconst 1, 1) := by decide +kernel
theorem dX7_web_34 : decode cX7_web 34 = .ok (.isub, 1) := by decide +kernel
theorem dX7_web_35 : decode cX7_web 35 = .ok (.istore_n 2, 1) := by decide +kernel
theorem dX7_web_36 : decode cX7_web 36 = .ok (.aload_n 0, 1) := by decide +kernel
theorem dX7_web_37 : decode cX7_web 37 = .ok (.getfield 19, 3) := by decide +kernel
theorem dX7_web_40 : decode cX7_web 40 = .ok (.getfield 165, 3) := by decide +kernel
theorem dX7_web_43 : decode cX7_web 43 = .ok (.iconst 1, 1) := by decide +kernel
theorem dX7_web_44 : decode cX7_web 44 = .ok (.isub, 1) := by decide +kernel
theorem dX7_web_45 : decode cX7_web 45 = .ok (.istore_n 3, 1) := by decide +kernel
theorem dX7_web_46 : decode cX7_web 46 = .ok (.iload_n 1, 1) := by decide +kernel
theorem dX7_web_47 : decode cX7_web 47 = .ok (.ifCond .ne 9, 3) := by decide +kernel
theorem dX7_web_50 : decode cX7_web 50 = .ok (.iload_n 2, 1) := by decide +kernel
theorem dX7_web_51 : decode cX7_web 51 = .ok (.iload_n 3, 1) := by decide +kernel
theorem dX7_web_52 : decode cX7_web 52 = .ok (.imul, 1) := by decide +kernel
theorem dX7_web_53 : decode cX7_web 53 = .ok (.goto 10, 3) := by decide +kernel
theorem dX7_web_56 : decode cX7_web 56 = .ok (.aload_n 0, 1) := by decide +kernel
theorem dX7_web_57 : decode cX7_web 57 = .ok (.getfield 19, 3) := by decide +kernel
theorem dX7_web_60 : decode cX7_web 60 = .ok (.getfield 165, 3) := by decide +kernel
theorem dX7_web_63 : decode cX7_web 63 = .ok (.ireturn, 1) := by decide +kernel
theorem dX7_more_0 : decode cX7_more 0 = .ok (.aload_n 0, 1) := by decide +kernel
theorem dX7_more_1 : decode cX7_more 1 = .ok (.getfield 23, 3) := by decide +kernel
theorem dX7_more_4 : decode cX7_more 4 = .ok (.aload_n 0, 1) := by decide +kernel
theorem dX7_more_5 : decode cX7_more 5 = .ok (.getfield 19, 3) := by decide +kernel
theorem dX7_more_8 : decode cX7_more 8 = .ok (.invokevirtual 277, 3) := by decide +kernel
theorem dX7_more_11 : decode cX7_more 11 = .ok (.iconst 0, 1) := by decide +kernel
theorem dX7_more_12 : decode cX7_more 12 = .ok (.istore_n 1, 1) := by decide +kernel
theorem dX7_more_13 : decode cX7_more 13 = .ok (.iload_n 1, 1) := by decide +kernel
theorem dX7_more_14 : decode cX7_more 14 = .ok (.aload_n 0, 1) := by decide +kernel
theorem dX7_more_15 : decode cX7_more 15 = .ok (.getfield 23, 3) := by decide +kernel
theorem dX7_more_18 : decode cX7_more 18 = .ok (.getfield 165, 3) := by decide +kernel
theorem dX7_more_21 : decode cX7_more 21 = .ok (.if_icmp .ge 58, 3) := by decide +kernel
theorem dX7_more_24 : decode cX7_more 24 = .ok (.iload_n 1, 1) := by decide +kernel
theorem dX7_more_25 : decode cX7_more 25 = .ok (.iconst 1, 1) := by decide +kernel
theorem dX7_more_26 : decode cX7_more 26 = .ok (.iadd, 1) := by decide +kernel
theorem dX7_more_27 : decode cX7_more 27 = .ok (.istore_n 2, 1) := by decide +kernel
theorem dX7_more_28 : decode cX7_more 28 = .ok (.iload_n 2, 1) := by decide +kernel
theorem dX7_more_29 : decode cX7_more 29 = .ok (.aload_n 0, 1) := by decide +kernel
theorem dX7_more_30 : decode cX7_more 30 = .ok (.getfield 23, 3) := by decide +kernel
theorem dX7_more_33 : decode cX7_more 33 = .ok (.getfield 165, 3) := by decide +kernel
theorem dX7_more_36 : decode cX7_more 36 = .ok (.if_icmp .ge 37, 3) := by decide +kernel
theorem dX7_more_39 : decode cX7_more 39 = .ok (.aload_n 0, 1) := by decide +kernel
theorem dX7_more_40 : decode cX7_more 40 = .ok (.getfield 23, 3) := by decide +kernel
theorem dX7_more_43 : decode cX7_more 43 = .ok (.iload_n 1, 1) := by decide +kernel
theorem dX7_more_44 : decode cX7_more 44 = .ok (.iload_n 2, 1) := by decide +kernel
theorem dX7_more_45 : decode cX7_more 45 = .ok (.invokestatic 219, 3) := by decide +kernel
theorem dX7_more_48 : decode cX7_more 48 = .ok (.invokevirtual 139, 3) := by decide +kernel
theorem dX7_more_51 : decode cX7_more 51 = .ok (.ifCond .ne 16, 3) := by decide +kernel
theorem dX7_more_54 : decode cX7_more 54 = .ok (.aload_n 0, 1) := by decide +kernel
theorem dX7_more_55 : decode cX7_more 55 = .ok (.getfield 23, 3) := by decide +kernel
theorem dX7_more_58 : decode cX7_more 58 = .ok (.iload_n 1, 1) := by decide +kernel
theorem dX7_more_59 : decode cX7_more 59 = .ok (.iload_n 2, 1) := by decide +kernel
theorem dX7_more_60 : decode cX7_more 60 = .ok (.invokestatic 219, 3) := by decide +kernel
theorem dX7_more_63 : decode cX7_more 63 = .ok (.iconst 0, 1) := by decide +kernel
theorem dX7_more_64 : decode cX7_more 64 = .ok (.invokevirtual 142, 3) := by decide +kernel
theorem dX7_more_67 : decode cX7_more 67 = .ok (.iinc 2 1, 3) := by decide +kernel
theorem dX7_more_70 : decode cX7_more 70 = .ok (.goto (-42), 3) := by decide +kernel
theorem dX7_more_73 : decode cX7_more 73 = .ok (.iinc 1 1, 3) := by decide +kernel
theorem dX7_more_76 : decode cX7_more 76 = .ok (.goto (-63), 3) := by decide +kernel
theorem dX7_more_79 : decode cX7_more 79 = .ok (.aload_n 0, 1) := by decide +kernel
theorem dX7_more_80 : decode cX7_more 80 = .ok (.getfield 23, 3) := by decide +kernel
theorem dX7_more_83 : decode cX7_more 83 = .ok (.getfield 146, 3) := by decide +kernel
theorem dX7_more_86 : decode cX7_more 86 = .ok (.aload_n 0, 1) := by decide +kernel
theorem dX7_more_87 : decode cX7_more 87 = .ok (.getfield 19, 3) := by decide +kernel
theorem dX7_more_90 : decode cX7_more 90 = .ok (.getfield 146, 3) := by decide +kernel
theorem dX7_more_93 : decode cX7_more 93 = .ok (.isub, 1) := by decide +kernel
theorem dX7_more_94 : decode cX7_more 94 = .ok (.ireturn, 1) := by decide +kernel
theorem dX7_calls_0 : decode cX7_calls 0 = .ok (.iload_n 2, 1) := by decide +kernel
theorem dX7_calls_1 : decode cX7_calls 1 = .ok (.bipush 10, 2) := by decide +kernel
theorem dX7_calls_3 : decode cX7_calls 3 = .ok (.if_icmp .lt 13, 3) := by decide +kernel
theorem dX7_calls_6 : decode cX7_calls 6 = .ok (.iload_n 2, 1) := by decide +kernel
theorem dX7_calls_7 : decode cX7_calls 7 = .ok (.bipush 50, 2) := by decide +kernel
theorem dX7_calls_9 : decode cX7_calls 9 = .ok (.if_icmp .ge 7, 3) := by decide +kernel
theorem dX7_calls_12 : decode cX7_calls 12 = .ok (.iconst 1, 1) := by decide +kernel
theorem dX7_calls_13 : decode cX7_calls 13 = .ok (.goto 4, 3) := by decide +kernel
theorem dX7_calls_16 : decode cX7_calls 16 = .ok (.iconst 0, 1) := by decide +kernel
theorem dX7_calls_17 : decode cX7_calls 17 = .ok (.istore_n 3, 1) := by decide +kernel
theorem dX7_calls_18 : decode cX7_calls 18 = .ok (.iload_n 1, 1) := by decide +kernel
theorem dX7_calls_19 : decode cX7_calls 19 = .ok (.invokestatic 258, 3) := by decide +kernel
theorem dX7_calls_22 : decode cX7_calls 22 = .ok (.ifCond .eq 16, 3) := by decide +kernel
theorem dX7_calls_25 : decode cX7_calls 25 = .ok (.iload_n 2, 1) := by decide +kernel
theorem dX7_calls_26 : decode cX7_calls 26 = .ok (.ifCond .lt 8, 3) := by decide +kernel
theorem dX7_calls_29 : decode cX7_calls 29 = .ok (.iload_n 2, 1) := by decide +kernel
theorem dX7_calls_30 : decode cX7_calls 30 = .ok (.iconst 2, 1) := by decide +kernel
theorem dX7_calls_31 : decode cX7_calls 31 = .ok (.if_icmp .le 10, 3) := by decide +kernel
theorem dX7_calls_34 : decode cX7_calls 34 = .ok (.iload_n 3, 1) := by decide +kernel
theorem dX7_calls_35 : decode cX7_calls 35 = .ok (.ifCond .ne 6, 3) := by decide +kernel
theorem dX7_calls_38 : decode cX7_calls 38 = .ok (.bipush (-2), 2) := by decide +kernel
theorem dX7_calls_40 : decode cX7_calls 40 = .ok (.ireturn, 1) := by decide +kernel
theorem dX7_calls_41 : decode cX7_calls 41 = .ok (.aload_n 0, 1) := by decide +kernel
theorem dX7_calls_42 : decode cX7_calls 42 = .ok (.iload_n 1, 1) := by decide +kernel
theorem dX7_calls_43 : decode cX7_calls 43 = .ok (.invokevirtual 261, 3) := by decide +kernel
theorem dX7_calls_46 : decode cX7_calls 46 = .ok (.istore 4, 2) := by decide +kernel
theorem dX7_calls_48 : decode cX7_calls 48 = .ok (.iload 4, 2) := by decide +kernel
theorem dX7_calls_50 : decode cX7_calls 50 = .ok (.ifCond .eq 6, 3) := by decide +kernel
theorem dX7_calls_53 : decode cX7_calls 53 = .ok (.iload 4, 2) := by decide +kernel
theorem dX7_calls_55 : decode cX7_calls 55 = .ok (.ireturn, 1) := by decide +kernel
theorem dX7_calls_56 : decode cX7_calls 56 = .ok (.aload_n 0, 1) := by decide +kernel
theorem dX7_calls_57 : decode cX7_calls 57 = .ok (.getfield 29, 3) := by decide +kernel
theorem dX7_calls_60 : decode cX7_calls 60 = .ok (.aload_n 0, 1) := by decide +kernel
theorem dX7_calls_61 : decode cX7_calls 61 = .ok (.getfield 19, 3) := by decide +kernel
theorem dX7_calls_64 : decode cX7_calls 64 = .ok (.aload_n 0, 1) := by decide +kernel
theorem dX7_calls_65 : decode cX7_calls 65 = .ok (.getfield 19, 3) := by decide +kernel
theorem dX7_calls_68 : decode cX7_calls 68 = .ok (.getfield 133, 3) := by decide +kernel
theorem dX7_calls_71 : decode cX7_calls 71 = .ok (.invokevirtual 178, 3) := by decide +kernel
theorem dX7_calls_74 : decode cX7_calls 74 = .ok (.aload_n 0, 1) := by decide +kernel
theorem dX7_calls_75 : decode cX7_calls 75 = .ok (.getfield 50, 3) := by decide +kernel
theorem dX7_calls_78 : decode cX7_calls 78 = .ok (.aload_n 0, 1) := by decide +kernel
theorem dX7_calls_79 : decode cX7_calls 79 = .ok (.getfield 19, 3) := by decide +kernel
theorem dX7_calls_82 : decode cX7_calls 82 = .ok (.aload_n 0, 1) := by decide +kernel
theorem dX7_calls_83 : decode cX7_calls 83 = .ok (.getfield 29, 3) := by decide +kernel
theorem dX7_calls_86 : decode cX7_calls 86 = .ok (.aload_n 0, 1) := by decide +kernel
theorem dX7_calls_87 : decode cX7_calls 87 = .ok (.getfield 56, 3) := by decide +kernel
theorem dX7_calls_90 : decode cX7_calls 90 = .ok (.iload_n 1, 1) := by decide +kernel
theorem dX7_calls_91 : decode cX7_calls 91 = .ok (.aaload, 1) := by decide +kernel
theorem dX7_calls_92 : decode cX7_calls 92 = .ok (.invokevirtual 281, 3) := by decide +kernel
theorem dX7_calls_95 : decode cX7_calls 95 = .ok (.iload_n 2, 1) := by decide +kernel
theorem dX7_calls_96 : decode cX7_calls 96 = .ok (.tableswitch 52 0 2 #[28, 36, 44], 28) := by decide +kernel
theorem dX7_calls_124 : decode cX7_calls 124 = .ok (.aload_n 0, 1) := by decide +kernel
theorem dX7_calls_125 : decode cX7_calls 125 = .ok (.getfield 50, 3) := by decide +kernel
theorem dX7_calls_128 : decode cX7_calls 128 = .ok (.getfield 285, 3) := by decide +kernel
theorem dX7_calls_131 : decode cX7_calls 131 = .ok (.ireturn, 1) := by decide +kernel
theorem dX7_calls_132 : decode cX7_calls 132 = .ok (.aload_n 0, 1) := by decide +kernel
theorem dX7_calls_133 : decode cX7_calls 133 = .ok (.getfield 50, 3) := by decide +kernel
theorem dX7_calls_136 : decode cX7_calls 136 = .ok (.getfield 288, 3) := by decide +kernel
theorem dX7_calls_139 : decode cX7_calls 139 = .ok (.ireturn, 1) := by decide +kernel
theorem dX7_calls_140 : decode cX7_calls 140 = .ok (.aload_n 0, 1) := by decide +kernel
theorem dX7_calls_141 : decode cX7_calls 141 = .ok (.getfield 50, 3) := by decide +kernel
theorem dX7_calls_144 : decode cX7_calls 144 = .ok (.getfield 291, 3) := by decide +kernel
theorem dX7_calls_147 : decode cX7_calls 147 = .ok (.ireturn, 1) := by decide +kernel
theorem dX7_calls_148 : decode cX7_calls 148 = .ok (.aload_n 0, 1) := by decide +kernel
theorem dX7_calls_149 : decode cX7_calls 149 = .ok (.getfield 50, 3) := by decide +kernel
theorem dX7_calls_152 : decode cX7_calls 152 = .ok (.iload_n 2, 1) := by decide +kernel
theorem dX7_calls_153 : decode cX7_calls 153 = .ok (.bipush 10, 2) := by decide +kernel
theorem dX7_calls_155 : decode cX7_calls 155 = .ok (.isub, 1) := by decide +kernel
theorem dX7_calls_156 : decode cX7_calls 156 = .ok (.invokevirtual 294, 3) := by decide +kernel
theorem dX7_calls_159 : decode cX7_calls 159 = .ok (.ireturn, 1) := by decide +kernel
theorem dX7_echo_0 : decode cX7_echo 0 = .ok (.aload_n 0, 1) := by decide +kernel
theorem dX7_echo_1 : decode cX7_echo 1 = .ok (.getfield 19, 3) := by decide +kernel
theorem dX7_echo_4 : decode cX7_echo 4 = .ok (.iload_n 1, 1) := by decide +kernel
theorem dX7_echo_5 : decode cX7_echo 5 = .ok (.invokevirtual 90, 3) := by decide +kernel
theorem dX7_echo_8 : decode cX7_echo 8 = .ok (.ifCond .eq 14, 3) := by decide +kernel
theorem dX7_echo_11 : decode cX7_echo 11 = .ok (.aload_n 0, 1) := by decide +kernel
theorem dX7_echo_12 : decode cX7_echo 12 = .ok (.getfield 19, 3) := by decide +kernel
theorem dX7_echo_15 : decode cX7_echo 15 = .ok (.iload_n 2, 1) := by decide +kernel
theorem dX7_echo_16 : decode cX7_echo 16 = .ok (.invokevirtual 90, 3) := by decide +kernel
theorem dX7_echo_19 : decode cX7_echo 19 = .ok (.ifCond .ne 6, 3) := by decide +kernel
theorem dX7_echo_22 : decode cX7_echo 22 = .ok (.bipush (-2), 2) := by decide +kernel
theorem dX7_echo_24 : decode cX7_echo 24 = .ok (.ireturn, 1) := by decide +kernel
theorem dX7_echo_25 : decode cX7_echo 25 = .ok (.aload_n 0, 1) := by decide +kernel
theorem dX7_echo_26 : decode cX7_echo 26 = .ok (.getfield 29, 3) := by decide +kernel
theorem dX7_echo_29 : decode cX7_echo 29 = .ok (.aload_n 0, 1) := by decide +kernel
theorem dX7_echo_30 : decode cX7_echo 30 = .ok (.getfield 19, 3) := by decide +kernel
theorem dX7_echo_33 : decode cX7_echo 33 = .ok (.aload_n 0, 1) := by decide +kernel
theorem dX7_echo_34 : decode cX7_echo 34 = .ok (.getfield 19, 3) := by decide +kernel
theorem dX7_echo_37 : decode cX7_echo 37 = .ok (.getfield 133, 3) := by decide +kernel
theorem dX7_echo_40 : decode cX7_echo 40 = .ok (.invokevirtual 178, 3) := by decide +kernel
theorem dX7_echo_43 : decode cX7_echo 43 = .ok (.aload_n 0, 1) := by decide +kernel
theorem dX7_echo_44 : decode cX7_echo 44 = .ok (.getfield 29, 3) := by decide +kernel
theorem dX7_echo_47 : decode cX7_echo 47 = .ok (.iload_n 1, 1) := by decide +kernel
theorem dX7_echo_48 : decode cX7_echo 48 = .ok (.invokevirtual 297, 3) := by decide +kernel
theorem dX7_echo_51 : decode cX7_echo 51 = .ok (.aload_n 0, 1) := by decide +kernel
theorem dX7_echo_52 : decode cX7_echo 52 = .ok (.getfield 29, 3) := by decide +kernel
theorem dX7_echo_55 : decode cX7_echo 55 = .ok (.getfield 300, 3) := by decide +kernel
theorem dX7_echo_58 : decode cX7_echo 58 = .ok (.iload_n 2, 1) := by decide +kernel
theorem dX7_echo_59 : decode cX7_echo 59 = .ok (.iaload, 1) := by decide +kernel
theorem dX7_echo_60 : decode cX7_echo 60 = .ok (.ireturn, 1) := by decide +kernel
theorem dX7_explained_0 : decode cX7_explained 0 = .ok (.aload_n 0, 1) := by decide +kernel
theorem dX7_explained_1 : decode cX7_explained 1 = .ok (.getfield 19, 3) := by decide +kernel
theorem dX7_explained_4 : decode cX7_explained 4 = .ok (.iload_n 1, 1) := by decide +kernel
theorem dX7_explained_5 : decode cX7_explained 5 = .ok (.invokevirtual 90, 3) := by decide +kernel
theorem dX7_explained_8 : decode cX7_explained 8 = .ok (.ifCond .eq 19, 3) := by decide +kernel
theorem dX7_explained_11 : decode cX7_explained 11 = .ok (.iload_n 2, 1) := by decide +kernel
theorem dX7_explained_12 : decode cX7_explained 12 = .ok (.invokestatic 258, 3) := by decide +kernel
theorem dX7_explained_15 : decode cX7_explained 15 = .ok (.ifCond .eq 12, 3) := by decide +kernel
theorem dX7_explained_18 : decode cX7_explained 18 = .ok (.iload_n 3, 1) := by decide +kernel
theorem dX7_explained_19 : decode cX7_explained 19 = .ok (.ifCond .lt 8, 3) := by decide +kernel
theorem dX7_explained_22 : decode cX7_explained 22 = .ok (.iload_n 3, 1) := by decide +kernel
theorem dX7_explained_23 : decode cX7_explained 23 = .ok (.iconst 1, 1) := by decide +kernel
theorem dX7_explained_24 : decode cX7_explained 24 = .ok (.if_icmp .le 6, 3) := by decide +kernel
theorem dX7_explained_27 : decode cX7_explained 27 = .ok (.bipush (-2), 2) := by decide +kernel
theorem dX7_explained_29 : decode cX7_explained 29 = .ok (.ireturn, 1) := by decide +kernel
theorem dX7_explained_30 : decode cX7_explained 30 = .ok (.aload_n 0, 1) := by decide +kernel
theorem dX7_explained_31 : decode cX7_explained 31 = .ok (.getfield 56, 3) := by decide +kernel
theorem dX7_explained_34 : decode cX7_explained 34 = .ok (.iload_n 2, 1) := by decide +kernel
theorem dX7_explained_35 : decode cX7_explained 35 = .ok (.aaload, 1) := by decide +kernel
theorem dX7_explained_36 : decode cX7_explained 36 = .ok (.astore 4, 2) := by decide +kernel
theorem dX7_explained_38 : decode cX7_explained 38 = .ok (.aload 4, 2) := by decide +kernel
theorem dX7_explained_40 : decode cX7_explained 40 = .ok (.getfield 155, 3) := by decide +kernel
theorem dX7_explained_43 : decode cX7_explained 43 = .ok (.iconst (-1), 1) := by decide +kernel
theorem dX7_explained_44 : decode cX7_explained 44 = .ok (.if_icmp .ne 6, 3) := by decide +kernel
theorem dX7_explained_47 : decode cX7_explained 47 = .ok (.bipush (-6), 2) := by decide +kernel
theorem dX7_explained_49 : decode cX7_explained 49 = .ok (.ireturn, 1) := by decide +kernel
theorem dX7_explained_50 : decode cX7_explained 50 = .ok (.aload 4, 2) := by decide +kernel
theorem dX7_explained_52 : decode cX7_explained 52 = .ok (.getfield 155, 3) := by decide +kernel
theorem dX7_explained_55 : decode cX7_explained 55 = .ok (.aload_n 0, 1) := by decide +kernel
theorem dX7_explained_56 : decode cX7_explained 56 = .ok (.getfield 19, 3) := by decide +kernel
theorem dX7_explained_59 : decode cX7_explained 59 = .ok (.getfield 165, 3) := by decide +kernel
theorem dX7_explained_62 : decode cX7_explained 62 = .ok (.if_icmp .eq 6, 3) := by decide +kernel
theorem dX7_explained_65 : decode cX7_explained 65 = .ok (.bipush (-7), 2) := by decide +kernel
theorem dX7_explained_67 : decode cX7_explained 67 = .ok (.ireturn, 1) := by decide +kernel
theorem dX7_explained_68 : decode cX7_explained 68 = .ok (.aload_n 0, 1) := by decide +kernel
theorem dX7_explained_69 : decode cX7_explained 69 = .ok (.getfield 29, 3) := by decide +kernel
theorem dX7_explained_72 : decode cX7_explained 72 = .ok (.aload_n 0, 1) := by decide +kernel
theorem dX7_explained_73 : decode cX7_explained 73 = .ok (.getfield 19, 3) := by decide +kernel
theorem dX7_explained_76 : decode cX7_explained 76 = .ok (.aload_n 0, 1) := by decide +kernel
theorem dX7_explained_77 : decode cX7_explained 77 = .ok (.getfield 19, 3) := by decide +kernel
theorem dX7_explained_80 : decode cX7_explained 80 = .ok (.getfield 133, 3) := by decide +kernel
theorem dX7_explained_83 : decode cX7_explained 83 = .ok (.invokevirtual 178, 3) := by decide +kernel
theorem dX7_explained_86 : decode cX7_explained 86 = .ok (.aload_n 0, 1) := by decide +kernel
theorem dX7_explained_87 : decode cX7_explained 87 = .ok (.getfield 29, 3) := by decide +kernel
theorem dX7_explained_90 : decode cX7_explained 90 = .ok (.iload_n 1, 1) := by decide +kernel
theorem dX7_explained_91 : decode cX7_explained 91 = .ok (.aload 4, 2) := by decide +kernel
theorem dX7_explained_93 : decode cX7_explained 93 = .ok (.invokevirtual 303, 3) := by decide +kernel
theorem dX7_explained_96 : decode cX7_explained 96 = .ok (.ifCond .eq 13, 3) := by decide +kernel
theorem dX7_explained_99 : decode cX7_explained 99 = .ok (.iload_n 3, 1) := by decide +kernel
theorem dX7_explained_100 : decode cX7_explained 100 = .ok (.ifCond .ne 7, 3) := by decide +kernel
theorem dX7_explained_103 : decode cX7_explained 103 = .ok (.iconst 0, 1) := by decide +kernel
theorem dX7_explained_104 : decode cX7_explained 104 = .ok (.goto 4, 3) := by decide +kernel
theorem dX7_explained_107 : decode cX7_explained 107 = .ok (.iconst (-1), 1) := by decide +kernel
theorem dX7_explained_108 : decode cX7_explained 108 = .ok (.ireturn, 1) := by decide +kernel
theorem dX7_explained_109 : decode cX7_explained 109 = .ok (.aload_n 0, 1) := by decide +kernel
theorem dX7_explained_110 : decode cX7_explained 110 = .ok (.iload_n 1, 1) := by decide +kernel
theorem dX7_explained_111 : decode cX7_explained 111 = .ok (.aload 4, 2) := by decide +kernel
theorem dX7_explained_113 : decode cX7_explained 113 = .ok (.invokevirtual 307, 3) := by decide +kernel
theorem dX7_explained_116 : decode cX7_explained 116 = .ok (.istore 5, 2) := by decide +kernel
theorem dX7_explained_118 : decode cX7_explained 118 = .ok (.iload 5, 2) := by decide +kernel
theorem dX7_explained_120 : decode cX7_explained 120 = .ok (.iconst (-1), 1) := by decide +kernel
theorem dX7_explained_121 : decode cX7_explained 121 = .ok (.if_icmp .eq 14, 3) := by decide +kernel
theorem dX7_explained_124 : decode cX7_explained 124 = .ok (.iload_n 3, 1) := by decide +kernel
theorem dX7_explained_125 : decode cX7_explained 125 = .ok (.ifCond .ne 7, 3) := by decide +kernel
theorem dX7_explained_128 : decode cX7_explained 128 = .ok (.iconst 1, 1) := by decide +kernel
theorem dX7_explained_129 : decode cX7_explained 129 = .ok (.goto 5, 3) := by decide +kernel
theorem dX7_explained_132 : decode cX7_explained 132 = .ok (.iload 5, 2) := by decide +kernel
theorem dX7_explained_134 : decode cX7_explained 134 = .ok (.ireturn, 1) := by decide +kernel
theorem dX7_explained_135 : decode cX7_explained 135 = .ok (.aload_n 0, 1) := by decide +kernel
theorem dX7_explained_136 : decode cX7_explained 136 = .ok (.iload_n 1, 1) := by decide +kernel
theorem dX7_explained_137 : decode cX7_explained 137 = .ok (.aload 4, 2) := by decide +kernel
theorem dX7_explained_139 : decode cX7_explained 139 = .ok (.invokevirtual 311, 3) := by decide +kernel
theorem dX7_explained_142 : decode cX7_explained 142 = .ok (.istore 5, 2) := by decide +kernel
theorem dX7_explained_144 : decode cX7_explained 144 = .ok (.iload 5, 2) := by decide +kernel
theorem dX7_explained_146 : decode cX7_explained 146 = .ok (.iconst (-1), 1) := by decide +kernel
theorem dX7_explained_147 : decode cX7_explained 147 = .ok (.if_icmp .eq 14, 3) := by decide +kernel
theorem dX7_explained_150 : decode cX7_explained 150 = .ok (.iload_n 3, 1) := by decide +kernel
theorem dX7_explained_151 : decode cX7_explained 151 = .ok (.ifCond .ne 7, 3) := by decide +kernel
theorem dX7_explained_154 : decode cX7_explained 154 = .ok (.iconst 2, 1) := by decide +kernel
theorem dX7_explained_155 : decode cX7_explained 155 = .ok (.goto 5, 3) := by decide +kernel
theorem dX7_explained_158 : decode cX7_explained 158 = .ok (.iload 5, 2) := by decide +kernel
theorem dX7_explained_160 : decode cX7_explained 160 = .ok (.ireturn, 1) := by decide +kernel
theorem dX7_explained_161 : decode cX7_explained 161 = .ok (.iload_n 3, 1) := by decide +kernel
theorem dX7_explained_162 : decode cX7_explained 162 = .ok (.ifCond .ne 7, 3) := by decide +kernel
theorem dX7_explained_165 : decode cX7_explained 165 = .ok (.iconst 3, 1) := by decide +kernel
theorem dX7_explained_166 : decode cX7_explained 166 = .ok (.goto 4, 3) := by decide +kernel
theorem dX7_explained_169 : decode cX7_explained 169 = .ok (.iconst (-1), 1) := by decide +kernel
theorem dX7_explained_170 : decode cX7_explained 170 = .ok (.ireturn, 1) := by decide +kernel
theorem dX7_numbers_0 : decode cX7_numbers 0 = .ok (.iload_n 1, 1) := by decide +kernel
theorem dX7_numbers_1 : decode cX7_numbers 1 = .ok (.invokestatic 258, 3) := by decide +kernel
theorem dX7_numbers_4 : decode cX7_numbers 4 = .ok (.ifCond .eq 12, 3) := by decide +kernel
theorem dX7_numbers_7 : decode cX7_numbers 7 = .ok (.iload_n 2, 1) := by decide +kernel
theorem dX7_numbers_8 : decode cX7_numbers 8 = .ok (.ifCond .lt 8, 3) := by decide +kernel
theorem dX7_numbers_11 : decode cX7_numbers 11 = .ok (.iload_n 2, 1) := by decide +kernel
theorem dX7_numbers_12 : decode cX7_numbers 12 = .ok (.iconst 4, 1) := by decide +kernel
theorem dX7_numbers_13 : decode cX7_numbers 13 = .ok (.if_icmp .lt 6, 3) := by decide +kernel
theorem dX7_numbers_16 : decode cX7_numbers 16 = .ok (.bipush (-2), 2) := by decide +kernel
theorem dX7_numbers_18 : decode cX7_numbers 18 = .ok (.ireturn, 1) := by decide +kernel
theorem dX7_numbers_19 : decode cX7_numbers 19 = .ok (.iload_n 3, 1) := by decide +kernel
theorem dX7_numbers_20 : decode cX7_numbers 20 = .ok (.ifCond .lt 9, 3) := by decide +kernel
theorem dX7_numbers_23 : decode cX7_numbers 23 = .ok (.iload_n 3, 1) := by decide +kernel
theorem dX7_numbers_24 : decode cX7_numbers 24 = .ok (.bipush 40, 2) := by decide +kernel
theorem dX7_numbers_26 : decode cX7_numbers 26 = .ok (.if_icmp .le 6, 3) := by decide +kernel
theorem dX7_numbers_29 : decode cX7_numbers 29 = .ok (.bipush (-3), 2) := by decide +kernel
theorem dX7_numbers_31 : decode cX7_numbers 31 = .ok (.ireturn, 1) := by decide +kernel
theorem dX7_numbers_32 : decode cX7_numbers 32 = .ok (.aload_n 0, 1) := by decide +kernel
theorem dX7_numbers_33 : decode cX7_numbers 33 = .ok (.getfield 56, 3) := by decide +kernel
theorem dX7_numbers_36 : decode cX7_numbers 36 = .ok (.iload_n 1, 1) := by decide +kernel
theorem dX7_numbers_37 : decode cX7_numbers 37 = .ok (.aaload, 1) := by decide +kernel
theorem dX7_numbers_38 : decode cX7_numbers 38 = .ok (.iload_n 2, 1) := by decide +kernel
theorem dX7_numbers_39 : decode cX7_numbers 39 = .ok (.iload_n 3, 1) := by decide +kernel
theorem dX7_numbers_40 : decode cX7_numbers 40 = .ok (.invokevirtual 314, 3) := by decide +kernel
theorem dX7_numbers_43 : decode cX7_numbers 43 = .ok (.iconst 0, 1) := by decide +kernel
theorem dX7_numbers_44 : decode cX7_numbers 44 = .ok (.ireturn, 1) := by decide +kernel
theorem dX7_write_0 : decode cX7_write 0 = .ok (.aload_n 0, 1) := by decide +kernel
theorem dX7_write_1 : decode cX7_write 1 = .ok (.iload_n 1, 1) := by decide +kernel
theorem dX7_write_2 : decode cX7_write 2 = .ok (.invokevirtual 152, 3) := by decide +kernel
theorem dX7_write_5 : decode cX7_write 5 = .ok (.istore 5, 2) := by decide +kernel
theorem dX7_write_7 : decode cX7_write 7 = .ok (.iload 5, 2) := by decide +kernel
theorem dX7_write_9 : decode cX7_write 9 = .ok (.ifCond .eq 7, 3) := by decide +kernel
theorem dX7_write_12 : decode cX7_write 12 = .ok (.iload 5, 2) := by decide +kernel
theorem dX7_write_14 : decode cX7_write 14 = .ok (.i2l, 1) := by decide +kernel
theorem dX7_write_15 : decode cX7_write 15 = .ok (.lreturn, 1) := by decide +kernel
theorem dX7_write_16 : decode cX7_write 16 = .ok (.iload_n 2, 1) := by decide +kernel
theorem dX7_write_17 : decode cX7_write 17 = .ok (.ifCond .lt 16, 3) := by decide +kernel
theorem dX7_write_20 : decode cX7_write 20 = .ok (.iload_n 2, 1) := by decide +kernel
theorem dX7_write_21 : decode cX7_write 21 = .ok (.aload_n 0, 1) := by decide +kernel
theorem dX7_write_22 : decode cX7_write 22 = .ok (.getfield 56, 3) := by decide +kernel
theorem dX7_write_25 : decode cX7_write 25 = .ok (.iload_n 1, 1) := by decide +kernel
theorem dX7_write_26 : decode cX7_write 26 = .ok (.aaload, 1) := by decide +kernel
theorem dX7_write_27 : decode cX7_write 27 = .ok (.getfield 155, 3) := by decide +kernel
theorem dX7_write_30 : decode cX7_write 30 = .ok (.if_icmp .lt 7, 3) := by decide +kernel
theorem dX7_write_33 : decode cX7_write 33 = .ok (.ldc2_w 317, 3) := by decide +kernel
theorem dX7_write_36 : decode cX7_write 36 = .ok (.lreturn, 1) := by decide +kernel
theorem dX7_write_37 : decode cX7_write 37 = .ok (.aload_n 0, 1) := by decide +kernel
theorem dX7_write_38 : decode cX7_write 38 = .ok (.getfield 56, 3) := by decide +kernel
theorem dX7_write_41 : decode cX7_write 41 = .ok (.iload_n 1, 1) := by decide +kernel
theorem dX7_write_42 : decode cX7_write 42 = .ok (.aaload, 1) := by decide +kernel
theorem dX7_write_43 : decode cX7_write 43 = .ok (.iload_n 2, 1) := by decide +kernel
theorem dX7_write_44 : decode cX7_write 44 = .ok (.lload_n 3, 1) := by decide +kernel
theorem dX7_write_45 : decode cX7_write 45 = .ok (.invokevirtual 319, 3) := by decide +kernel
theorem dX7_write_48 : decode cX7_write 48 = .ok (.lreturn, 1) := by decide +kernel
theorem dX7_copy_0 : decode cX7_copy 0 = .ok (.aload_n 0, 1) := by decide +kernel
theorem dX7_copy_1 : decode cX7_copy 1 = .ok (.iload_n 1, 1) := by decide +kernel
theorem dX7_copy_2 : decode cX7_copy 2 = .ok (.invokevirtual 152, 3) := by decide +kernel
theorem dX7_copy_5 : decode cX7_copy 5 = .ok (.istore_n 2, 1) := by decide +kernel
theorem dX7_copy_6 : decode cX7_copy 6 = .ok (.iload_n 2, 1) := by decide +kernel
theorem dX7_copy_7 : decode cX7_copy 7 = .ok (.ifCond .eq 5, 3) := by decide +kernel
theorem dX7_copy_10 : decode cX7_copy 10 = .ok (.iload_n 2, 1) := by decide +kernel
theorem dX7_copy_11 : decode cX7_copy 11 = .ok (.ireturn, 1) := by decide +kernel
theorem dX7_copy_12 : decode cX7_copy 12 = .ok (.aload_n 0, 1) := by decide +kernel
theorem dX7_copy_13 : decode cX7_copy 13 = .ok (.getfield 19, 3) := by decide +kernel
theorem dX7_copy_16 : decode cX7_copy 16 = .ok (.getfield 146, 3) := by decide +kernel
theorem dX7_copy_19 : decode cX7_copy 19 = .ok (.aload_n 0, 1) := by decide +kernel
theorem dX7_copy_20 : decode cX7_copy 20 = .ok (.getfield 56, 3) := by decide +kernel
theorem dX7_copy_23 : decode cX7_copy 23 = .ok (.iload_n 1, 1) := by decide +kernel
theorem dX7_copy_24 : decode cX7_copy 24 = .ok (.aaload, 1) := by decide +kernel
theorem dX7_copy_25 : decode cX7_copy 25 = .ok (.getfield 155, 3) := by decide +kernel
theorem dX7_copy_28 : decode cX7_copy 28 = .ok (.invokestatic 323, 3) := by decide +kernel
theorem dX7_copy_31 : decode cX7_copy 31 = .ok (.istore_n 3, 1) := by decide +kernel
theorem dX7_copy_32 : decode cX7_copy 32 = .ok (.iconst 0, 1) := by decide +kernel
theorem dX7_copy_33 : decode cX7_copy 33 = .ok (.istore 4, 2) := by decide +kernel
theorem dX7_copy_35 : decode cX7_copy 35 = .ok (.iload 4, 2) := by decide +kernel
theorem dX7_copy_37 : decode cX7_copy 37 = .ok (.iload_n 3, 1) := by decide +kernel
theorem dX7_copy_38 : decode cX7_copy 38 = .ok (.if_icmp .ge 32, 3) := by decide +kernel
theorem dX7_copy_41 : decode cX7_copy 41 = .ok (.aload_n 0, 1) := by decide +kernel
theorem dX7_copy_42 : decode cX7_copy 42 = .ok (.getfield 56, 3) := by decide +kernel
theorem dX7_copy_45 : decode cX7_copy 45 = .ok (.iload_n 1, 1) := by decide +kernel
theorem dX7_copy_46 : decode cX7_copy 46 = .ok (.aaload, 1) := by decide +kernel
theorem dX7_copy_47 : decode cX7_copy 47 = .ok (.iload 4, 2) := by decide +kernel
theorem dX7_copy_49 : decode cX7_copy 49 = .ok (.aload_n 0, 1) := by decide +kernel
theorem dX7_copy_50 : decode cX7_copy 50 = .ok (.getfield 19, 3) := by decide +kernel
theorem dX7_copy_53 : decode cX7_copy 53 = .ok (.getfield 238, 3) := by decide +kernel
theorem dX7_copy_56 : decode cX7_copy 56 = .ok (.iload 4, 2) := by decide +kernel
theorem dX7_copy_58 : decode cX7_copy 58 = .ok (.iaload, 1) := by decide +kernel
theorem dX7_copy_59 : decode cX7_copy 59 = .ok (.i2l, 1) := by decide +kernel
theorem dX7_copy_60 : decode cX7_copy 60 = .ok (.invokevirtual 319, 3) := by decide +kernel
theorem dX7_copy_63 : decode cX7_copy 63 = .ok (.pop2, 1) := by decide +kernel
theorem dX7_copy_64 : decode cX7_copy 64 = .ok (.iinc 4 1, 3) := by decide +kernel
theorem dX7_copy_67 : decode cX7_copy 67 = .ok (.goto (-32), 3) := by decide +kernel
theorem dX7_copy_70 : decode cX7_copy 70 = .ok (.iload_n 3, 1) := by decide +kernel
theorem dX7_copy_71 : decode cX7_copy 71 = .ok (.ireturn, 1) := by decide +kernel
theorem dX7_image_0 : decode cX7_image 0 = .ok (.iload_n 1, 1) := by decide +kernel
theorem dX7_image_1 : decode cX7_image 1 = .ok (.ifCond .lt 8, 3) := by decide +kernel
theorem dX7_image_4 : decode cX7_image 4 = .ok (.iload_n 1, 1) := by decide +kernel
theorem dX7_image_5 : decode cX7_image 5 = .ok (.iconst 2, 1) := by decide +kernel
theorem dX7_image_6 : decode cX7_image 6 = .ok (.if_icmp .lt 6, 3) := by decide +kernel
theorem dX7_image_9 : decode cX7_image 9 = .ok (.bipush (-2), 2) := by decide +kernel
theorem dX7_image_11 : decode cX7_image 11 = .ok (.ireturn, 1) := by decide +kernel
theorem dX7_image_12 : decode cX7_image 12 = .ok (.aload_n 0, 1) := by decide +kernel
theorem dX7_image_13 : decode cX7_image 13 = .ok (.getfield 61, 3) := by decide +kernel
theorem dX7_image_16 : decode cX7_image 16 = .ok (.iload_n 1, 1) := by decide +kernel
theorem dX7_image_17 : decode cX7_image 17 = .ok (.aaload, 1) := by decide +kernel
theorem dX7_image_18 : decode cX7_image 18 = .ok (.aload_n 0, 1) := by decide +kernel
theorem dX7_image_19 : decode cX7_image 19 = .ok (.getfield 19, 3) := by decide +kernel
theorem dX7_image_22 : decode cX7_image 22 = .ok (.invokevirtual 277, 3) := by decide +kernel
theorem dX7_image_25 : decode cX7_image 25 = .ok (.aload_n 0, 1) := by decide +kernel
theorem dX7_image_26 : decode cX7_image 26 = .ok (.getfield 65, 3) := by decide +kernel
theorem dX7_image_29 : decode cX7_image 29 = .ok (.iload_n 1, 1) := by decide +kernel
theorem dX7_image_30 : decode cX7_image 30 = .ok (.iconst 1, 1) := by decide +kernel
theorem dX7_image_31 : decode cX7_image 31 = .ok (.bastore, 1) := by decide +kernel
theorem dX7_image_32 : decode cX7_image 32 = .ok (.iconst 0, 1) := by decide +kernel
theorem dX7_image_33 : decode cX7_image 33 = .ok (.ireturn, 1) := by decide +kernel
theorem dX7_restore_0 : decode cX7_restore 0 = .ok (.iload_n 1, 1) := by decide +kernel
theorem dX7_restore_1 : decode cX7_restore 1 = .ok (.ifCond .lt 8, 3) := by decide +kernel
theorem dX7_restore_4 : decode cX7_restore 4 = .ok (.iload_n 1, 1) := by decide +kernel
theorem dX7_restore_5 : decode cX7_restore 5 = .ok (.iconst 2, 1) := by decide +kernel
theorem dX7_restore_6 : decode cX7_restore 6 = .ok (.if_icmp .lt 6, 3) := by decide +kernel
theorem dX7_restore_9 : decode cX7_restore 9 = .ok (.bipush (-2), 2) := by decide +kernel
theorem dX7_restore_11 : decode cX7_restore 11 = .ok (.ireturn, 1) := by decide +kernel
theorem dX7_restore_12 : decode cX7_restore 12 = .ok (.aload_n 0, 1) := by decide +kernel
theorem dX7_restore_13 : decode cX7_restore 13 = .ok (.getfield 65, 3) := by decide +kernel
theorem dX7_restore_16 : decode cX7_restore 16 = .ok (.iload_n 1, 1) := by decide +kernel
theorem dX7_restore_17 : decode cX7_restore 17 = .ok (.baload, 1) := by decide +kernel
theorem dX7_restore_18 : decode cX7_restore 18 = .ok (.ifCond .ne 6, 3) := by decide +kernel
theorem dX7_restore_21 : decode cX7_restore 21 = .ok (.bipush (-5), 2) := by decide +kernel
theorem dX7_restore_23 : decode cX7_restore 23 = .ok (.ireturn, 1) := by decide +kernel
theorem dX7_restore_24 : decode cX7_restore 24 = .ok (.aload_n 0, 1) := by decide +kernel
theorem dX7_restore_25 : decode cX7_restore 25 = .ok (.getfield 19, 3) := by decide +kernel
theorem dX7_restore_28 : decode cX7_restore 28 = .ok (.aload_n 0, 1) := by decide +kernel
theorem dX7_restore_29 : decode cX7_restore 29 = .ok (.getfield 61, 3) := by decide +kernel
theorem dX7_restore_32 : decode cX7_restore 32 = .ok (.iload_n 1, 1) := by decide +kernel
theorem dX7_restore_33 : decode cX7_restore 33 = .ok (.aaload, 1) := by decide +kernel
theorem dX7_restore_34 : decode cX7_restore 34 = .ok (.invokevirtual 277, 3) := by decide +kernel
theorem dX7_restore_37 : decode cX7_restore 37 = .ok (.iconst 0, 1) := by decide +kernel
theorem dX7_restore_38 : decode cX7_restore 38 = .ok (.ireturn, 1) := by decide +kernel
theorem dX7_count_0 : decode cX7_count 0 = .ok (.iload_n 1, 1) := by decide +kernel
theorem dX7_count_1 : decode cX7_count 1 = .ok (.tableswitch 135 0 9 #[55, 63, 71, 79, 87, 95, 103, 111, 119, 127], 55) := by decide +kernel
theorem dX7_count_56 : decode cX7_count 56 = .ok (.aload_n 0, 1) := by decide +kernel
theorem dX7_count_57 : decode cX7_count 57 = .ok (.getfield 19, 3) := by decide +kernel
theorem dX7_count_60 : decode cX7_count 60 = .ok (.getfield 165, 3) := by decide +kernel
theorem dX7_count_63 : decode cX7_count 63 = .ok (.ireturn, 1) := by decide +kernel
theorem dX7_count_64 : decode cX7_count 64 = .ok (.aload_n 0, 1) := by decide +kernel
theorem dX7_count_65 : decode cX7_count 65 = .ok (.getfield 19, 3) := by decide +kernel
theorem dX7_count_68 : decode cX7_count 68 = .ok (.getfield 146, 3) := by decide +kernel
theorem dX7_count_71 : decode cX7_count 71 = .ok (.ireturn, 1) := by decide +kernel
theorem dX7_count_72 : decode cX7_count 72 = .ok (.aload_n 0, 1) := by decide +kernel
theorem dX7_count_73 : decode cX7_count 73 = .ok (.getfield 19, 3) := by decide +kernel
theorem dX7_count_76 : decode cX7_count 76 = .ok (.getfield 133, 3) := by decide +kernel
theorem dX7_count_79 : decode cX7_count 79 = .ok (.ireturn, 1) := by decide +kernel
theorem dX7_count_80 : decode cX7_count 80 = .ok (.aload_n 0, 1) := by decide +kernel
theorem dX7_count_81 : decode cX7_count 81 = .ok (.getfield 19, 3) := by decide +kernel
theorem dX7_count_84 : decode cX7_count 84 = .ok (.getfield 162, 3) := by decide +kernel
theorem dX7_count_87 : decode cX7_count 87 = .ok (.ireturn, 1) := by decide +kernel
theorem dX7_count_88 : decode cX7_count 88 = .ok (.aload_n 0, 1) := by decide +kernel
theorem dX7_count_89 : decode cX7_count 89 = .ok (.getfield 19, 3) := by decide +kernel
theorem dX7_count_92 : decode cX7_count 92 = .ok (.getfield 194, 3) := by decide +kernel
theorem dX7_count_95 : decode cX7_count 95 = .ok (.ireturn, 1) := by decide +kernel
theorem dX7_count_96 : decode cX7_count 96 = .ok (.aload_n 0, 1) := by decide +kernel
theorem dX7_count_97 : decode cX7_count 97 = .ok (.getfield 19, 3) := by decide +kernel
theorem dX7_count_100 : decode cX7_count 100 = .ok (.getfield 328, 3) := by decide +kernel
theorem dX7_count_103 : decode cX7_count 103 = .ok (.ireturn, 1) := by decide +kernel
theorem dX7_count_104 : decode cX7_count 104 = .ok (.aload_n 0, 1) := by decide +kernel
theorem dX7_count_105 : decode cX7_count 105 = .ok (.getfield 19, 3) := by decide +kernel
theorem dX7_count_108 : decode cX7_count 108 = .ok (.invokevirtual 331, 3) := by decide +kernel
theorem dX7_count_111 : decode cX7_count 111 = .ok (.ireturn, 1) := by decide +kernel
theorem dX7_count_112 : decode cX7_count 112 = .ok (.aload_n 0, 1) := by decide +kernel
theorem dX7_count_113 : decode cX7_count 113 = .ok (.getfield 19, 3) := by decide +kernel
theorem dX7_count_116 : decode cX7_count 116 = .ok (.invokevirtual 334, 3) := by decide +kernel
theorem dX7_count_119 : decode cX7_count 119 = .ok (.ireturn, 1) := by decide +kernel
theorem dX7_count_120 : decode cX7_count 120 = .ok (.aload_n 0, 1) := by decide +kernel
theorem dX7_count_121 : decode cX7_count 121 = .ok (.getfield 12, 3) := by decide +kernel
theorem dX7_count_124 : decode cX7_count 124 = .ok (.getfield 69, 3) := by decide +kernel
theorem dX7_count_127 : decode cX7_count 127 = .ok (.ireturn, 1) := by decide +kernel
theorem dX7_count_128 : decode cX7_count 128 = .ok (.aload_n 0, 1) := by decide +kernel
theorem dX7_count_129 : decode cX7_count 129 = .ok (.getfield 19, 3) := by decide +kernel
theorem dX7_count_132 : decode cX7_count 132 = .ok (.getfield 84, 3) := by decide +kernel
theorem dX7_count_135 : decode cX7_count 135 = .ok (.ireturn, 1) := by decide +kernel
theorem dX7_count_136 : decode cX7_count 136 = .ok (.iconst (-1), 1) := by decide +kernel
theorem dX7_count_137 : decode cX7_count 137 = .ok (.ireturn, 1) := by decide +kernel
theorem dX7_linksNow_0 : decode cX7_linksNow 0 = .ok (.aload_n 0, 1) := by decide +kernel
theorem dX7_linksNow_1 : decode cX7_linksNow 1 = .ok (.getfield 29, 3) := by decide +kernel
theorem dX7_linksNow_4 : decode cX7_linksNow 4 = .ok (.aload_n 0, 1) := by decide +kernel
theorem dX7_linksNow_5 : decode cX7_linksNow 5 = .ok (.getfield 19, 3) := by decide +kernel
theorem dX7_linksNow_8 : decode cX7_linksNow 8 = .ok (.aload_n 0, 1) := by decide +kernel
theorem dX7_linksNow_9 : decode cX7_linksNow 9 = .ok (.getfield 19, 3) := by decide +kernel
theorem dX7_linksNow_12 : decode cX7_linksNow 12 = .ok (.getfield 133, 3) := by decide +kernel
theorem dX7_linksNow_15 : decode cX7_linksNow 15 = .ok (.invokevirtual 178, 3) := by decide +kernel
theorem dX7_linksNow_18 : decode cX7_linksNow 18 = .ok (.aload_n 0, 1) := by decide +kernel
theorem dX7_linksNow_19 : decode cX7_linksNow 19 = .ok (.getfield 29, 3) := by decide +kernel
theorem dX7_linksNow_22 : decode cX7_linksNow 22 = .ok (.getfield 337, 3) := by decide +kernel
theorem dX7_linksNow_25 : decode cX7_linksNow 25 = .ok (.iload_n 1, 1) := by decide +kernel
theorem dX7_linksNow_26 : decode cX7_linksNow 26 = .ok (.iaload, 1) := by decide +kernel
theorem dX7_linksNow_27 : decode cX7_linksNow 27 = .ok (.ireturn, 1) := by decide +kernel
theorem dX7_blow_0 : decode cX7_blow 0 = .ok (.iload_n 1, 1) := by decide +kernel
theorem dX7_blow_1 : decode cX7_blow 1 = .ok (.invokestatic 340, 3) := by decide +kernel
theorem dX7_blow_4 : decode cX7_blow 4 = .ok (.istore_n 2, 1) := by decide +kernel
theorem dX7_blow_5 : decode cX7_blow 5 = .ok (.iload_n 2, 1) := by decide +kernel
theorem dX7_blow_6 : decode cX7_blow 6 = .ok (.aload_n 0, 1) := by decide +kernel
theorem dX7_blow_7 : decode cX7_blow 7 = .ok (.getfield 19, 3) := by decide +kernel
theorem dX7_blow_10 : decode cX7_blow 10 = .ok (.getfield 165, 3) := by decide +kernel
theorem dX7_blow_13 : decode cX7_blow 13 = .ok (.invokestatic 343, 3) := by decide +kernel
theorem dX7_blow_16 : decode cX7_blow 16 = .ok (.istore_n 3, 1) := by decide +kernel
theorem dX7_blow_17 : decode cX7_blow 17 = .ok (.iload_n 2, 1) := by decide +kernel
theorem dX7_blow_18 : decode cX7_blow 18 = .ok (.invokestatic 340, 3) := by decide +kernel
theorem dX7_blow_21 : decode cX7_blow 21 = .ok (.istore_n 2, 1) := by decide +kernel
theorem dX7_blow_22 : decode cX7_blow 22 = .ok (.iload_n 3, 1) := by decide +kernel
theorem dX7_blow_23 : decode cX7_blow 23 = .ok (.iload_n 2, 1) := by decide +kernel
theorem dX7_blow_24 : decode cX7_blow 24 = .ok (.aload_n 0, 1) := by decide +kernel
theorem dX7_blow_25 : decode cX7_blow 25 = .ok (.getfield 19, 3) := by decide +kernel
theorem dX7_blow_28 : decode cX7_blow 28 = .ok (.getfield 165, 3) := by decide +kernel
theorem dX7_blow_31 : decode cX7_blow 31 = .ok (.invokestatic 343, 3) := by decide +kernel
theorem dX7_blow_34 : decode cX7_blow 34 = .ok (.invokestatic 219, 3) := by decide +kernel
theorem dX7_blow_37 : decode cX7_blow 37 = .ok (.istore 4, 2) := by decide +kernel
theorem dX7_blow_39 : decode cX7_blow 39 = .ok (.aload_n 0, 1) := by decide +kernel
theorem dX7_blow_40 : decode cX7_blow 40 = .ok (.getfield 19, 3) := by decide +kernel
theorem dX7_blow_43 : decode cX7_blow 43 = .ok (.iload 4, 2) := by decide +kernel
theorem dX7_blow_45 : decode cX7_blow 45 = .ok (.invokevirtual 118, 3) := by decide +kernel
theorem dX7_blow_48 : decode cX7_blow 48 = .ok (.istore 5, 2) := by decide +kernel
theorem dX7_blow_50 : decode cX7_blow 50 = .ok (.iload 5, 2) := by decide +kernel
theorem dX7_blow_52 : decode cX7_blow 52 = .ok (.iconst (-1), 1) := by decide +kernel
theorem dX7_blow_53 : decode cX7_blow 53 = .ok (.if_icmp .eq 15, 3) := by decide +kernel
theorem dX7_blow_56 : decode cX7_blow 56 = .ok (.aload_n 0, 1) := by decide +kernel
theorem dX7_blow_57 : decode cX7_blow 57 = .ok (.getfield 19, 3) := by decide +kernel
theorem dX7_blow_60 : decode cX7_blow 60 = .ok (.iload 5, 2) := by decide +kernel
theorem dX7_blow_62 : decode cX7_blow 62 = .ok (.invokevirtual 149, 3) := by decide +kernel
theorem dX7_blow_65 : decode cX7_blow 65 = .ok (.goto 34, 3) := by decide +kernel
theorem dX7_blow_68 : decode cX7_blow 68 = .ok (.aload_n 0, 1) := by decide +kernel
theorem dX7_blow_69 : decode cX7_blow 69 = .ok (.getfield 19, 3) := by decide +kernel
theorem dX7_blow_72 : decode cX7_blow 72 = .ok (.iload 4, 2) := by decide +kernel
theorem dX7_blow_74 : decode cX7_blow 74 = .ok (.invokevirtual 139, 3) := by decide +kernel
theorem dX7_blow_77 : decode cX7_blow 77 = .ok (.ifCond .ne 22, 3) := by decide +kernel
theorem dX7_blow_80 : decode cX7_blow 80 = .ok (.iload_n 2, 1) := by decide +kernel
theorem dX7_blow_81 : decode cX7_blow 81 = .ok (.invokestatic 340, 3) := by decide +kernel
theorem dX7_blow_84 : decode cX7_blow 84 = .ok (.istore_n 2, 1) := by decide +kernel
theorem dX7_blow_85 : decode cX7_blow 85 = .ok (.aload_n 0, 1) := by decide +kernel
theorem dX7_blow_86 : decode cX7_blow 86 = .ok (.getfield 19, 3) := by decide +kernel
theorem dX7_blow_89 : decode cX7_blow 89 = .ok (.iload 4, 2) := by decide +kernel
theorem dX7_blow_91 : decode cX7_blow 91 = .ok (.iload_n 2, 1) := by decide +kernel
theorem dX7_blow_92 : decode cX7_blow 92 = .ok (.iconst 3, 1) := by decide +kernel
theorem dX7_blow_93 : decode cX7_blow 93 = .ok (.invokestatic 343, 3) := by decide +kernel
theorem dX7_blow_96 : decode cX7_blow 96 = .ok (.invokevirtual 142, 3) := by decide +kernel
theorem dX7_blow_99 : decode cX7_blow 99 = .ok (.iload_n 2, 1) := by decide +kernel
theorem dX7_blow_100 : decode cX7_blow 100 = .ok (.ireturn, 1) := by decide +kernel
theorem dX7_nextDraw_0 : decode cX7_nextDraw 0 = .ok (.ldc_w 346, 3) := by decide +kernel
theorem dX7_nextDraw_3 : decode cX7_nextDraw 3 = .ok (.iload_n 0, 1) := by decide +kernel
theorem dX7_nextDraw_4 : decode cX7_nextDraw 4 = .ok (.imul, 1) := by decide +kernel
theorem dX7_nextDraw_5 : decode cX7_nextDraw 5 = .ok (.sipush 12345, 3) := by decide +kernel
theorem dX7_nextDraw_8 : decode cX7_nextDraw 8 = .ok (.iadd, 1) := by decide +kernel
theorem dX7_nextDraw_9 : decode cX7_nextDraw 9 = .ok (.ireturn, 1) := by decide +kernel
theorem dX7_drawn_0 : decode cX7_drawn 0 = .ok (.iload_n 1, 1) := by decide +kernel
theorem dX7_drawn_1 : decode cX7_drawn 1 = .ok (.iconst 1, 1) := by decide +kernel
theorem dX7_drawn_2 : decode cX7_drawn 2 = .ok (.if_icmp .ge 7, 3) := by decide +kernel
theorem dX7_drawn_5 : decode cX7_drawn 5 = .ok (.iconst 0, 1) := by decide +kernel
theorem dX7_drawn_6 : decode cX7_drawn 6 = .ok (.goto 9, 3) := by decide +kernel
theorem dX7_drawn_9 : decode cX7_drawn 9 = .ok (.iload_n 0, 1) := by decide +kernel
theorem dX7_drawn_10 : decode cX7_drawn 10 = .ok (.bipush 16, 2) := by decide +kernel
theorem dX7_drawn_12 : decode cX7_drawn 12 = .ok (.iushr, 1) := by decide +kernel
theorem dX7_drawn_13 : decode cX7_drawn 13 = .ok (.iload_n 1, 1) := by decide +kernel
theorem dX7_drawn_14 : decode cX7_drawn 14 = .ok (.irem, 1) := by decide +kernel
theorem dX7_drawn_15 : decode cX7_drawn 15 = .ok (.ireturn, 1) := by decide +kernel
theorem dX7_areTwoWindows_0 : decode cX7_areTwoWindows 0 = .ok (.aload_n 0, 1) := by decide +kernel
theorem dX7_areTwoWindows_1 : decode cX7_areTwoWindows 1 = .ok (.getfield 19, 3) := by decide +kernel
theorem dX7_areTwoWindows_4 : decode cX7_areTwoWindows 4 = .ok (.iload_n 1, 1) := by decide +kernel
theorem dX7_areTwoWindows_5 : decode cX7_areTwoWindows 5 = .ok (.invokevirtual 90, 3) := by decide +kernel
theorem dX7_areTwoWindows_8 : decode cX7_areTwoWindows 8 = .ok (.ifCond .eq 23, 3) := by decide +kernel
theorem dX7_areTwoWindows_11 : decode cX7_areTwoWindows 11 = .ok (.aload_n 0, 1) := by decide +kernel
theorem dX7_areTwoWindows_12 : decode cX7_areTwoWindows 12 = .ok (.getfield 19, 3) := by decide +kernel
theorem dX7_areTwoWindows_15 : decode cX7_areTwoWindows 15 = .ok (.iload_n 2, 1) := by decide +kernel
theorem dX7_areTwoWindows_16 : decode cX7_areTwoWindows 16 = .ok (.invokevirtual 90, 3) := by decide +kernel
theorem dX7_areTwoWindows_19 : decode cX7_areTwoWindows 19 = .ok (.ifCond .eq 12, 3) := by decide +kernel
theorem dX7_areTwoWindows_22 : decode cX7_areTwoWindows 22 = .ok (.iload_n 1, 1) := by decide +kernel
theorem dX7_areTwoWindows_23 : decode cX7_areTwoWindows 23 = .ok (.iload_n 2, 1) := by decide +kernel
theorem dX7_areTwoWindows_24 : decode cX7_areTwoWindows 24 = .ok (.if_icmp .eq 7, 3) := by decide +kernel
theorem dX7_areTwoWindows_27 : decode cX7_areTwoWindows 27 = .ok (.iconst 1, 1) := by decide +kernel
theorem dX7_areTwoWindows_28 : decode cX7_areTwoWindows 28 = .ok (.goto 4, 3) := by decide +kernel
theorem dX7_areTwoWindows_31 : decode cX7_areTwoWindows 31 = .ok (.iconst 0, 1) := by decide +kernel
theorem dX7_areTwoWindows_32 : decode cX7_areTwoWindows 32 = .ok (.ireturn, 1) := by decide +kernel
theorem dX7_heardPast_0 : decode cX7_heardPast 0 = .ok (.aload_n 0, 1) := by decide +kernel
theorem dX7_heardPast_1 : decode cX7_heardPast 1 = .ok (.getfield 29, 3) := by decide +kernel
theorem dX7_heardPast_4 : decode cX7_heardPast 4 = .ok (.iload_n 2, 1) := by decide +kernel
theorem dX7_heardPast_5 : decode cX7_heardPast 5 = .ok (.iload_n 3, 1) := by decide +kernel
theorem dX7_heardPast_6 : decode cX7_heardPast 6 = .ok (.invokevirtual 181, 3) := by decide +kernel
theorem dX7_heardPast_9 : decode cX7_heardPast 9 = .ok (.aload_n 0, 1) := by decide +kernel
theorem dX7_heardPast_10 : decode cX7_heardPast 10 = .ok (.getfield 29, 3) := by decide +kernel
theorem dX7_heardPast_13 : decode cX7_heardPast 13 = .ok (.iload_n 1, 1) := by decide +kernel
theorem dX7_heardPast_14 : decode cX7_heardPast 14 = .ok (.aload_n 0, 1) := by decide +kernel
theorem dX7_heardPast_15 : decode cX7_heardPast 15 = .ok (.getfield 19, 3) := by decide +kernel
theorem dX7_heardPast_18 : decode cX7_heardPast 18 = .ok (.getfield 194, 3) := by decide +kernel
theorem dX7_heardPast_21 : decode cX7_heardPast 21 = .ok (.invokevirtual 197, 3) := by decide +kernel
theorem dX7_heardPast_24 : decode cX7_heardPast 24 = .ok (.ireturn, 1) := by decide +kernel
theorem dX7_staysWith_0 : decode cX7_staysWith 0 = .ok (.aload_n 0, 1) := by decide +kernel
theorem dX7_staysWith_1 : decode cX7_staysWith 1 = .ok (.getfield 29, 3) := by decide +kernel
theorem dX7_staysWith_4 : decode cX7_staysWith 4 = .ok (.iload_n 1, 1) := by decide +kernel
theorem dX7_staysWith_5 : decode cX7_staysWith 5 = .ok (.iload_n 2, 1) := by decide +kernel
theorem dX7_staysWith_6 : decode cX7_staysWith 6 = .ok (.invokevirtual 347, 3) := by decide +kernel
theorem dX7_staysWith_9 : decode cX7_staysWith 9 = .ok (.aload_n 0, 1) := by decide +kernel
theorem dX7_staysWith_10 : decode cX7_staysWith 10 = .ok (.getfield 29, 3) := by decide +kernel
theorem dX7_staysWith_13 : decode cX7_staysWith 13 = .ok (.invokevirtual 213, 3) := by decide +kernel
theorem dX7_staysWith_16 : decode cX7_staysWith 16 = .ok (.istore_n 3, 1) := by decide +kernel
theorem dX7_staysWith_17 : decode cX7_staysWith 17 = .ok (.aload_n 0, 1) := by decide +kernel
theorem dX7_staysWith_18 : decode cX7_staysWith 18 = .ok (.getfield 29, 3) := by decide +kernel
theorem dX7_staysWith_21 : decode cX7_staysWith 21 = .ok (.iload_n 1, 1) := by decide +kernel
theorem dX7_staysWith_22 : decode cX7_staysWith 22 = .ok (.iload_n 2, 1) := by decide +kernel
theorem dX7_staysWith_23 : decode cX7_staysWith 23 = .ok (.invokevirtual 350, 3) := by decide +kernel
theorem dX7_staysWith_26 : decode cX7_staysWith 26 = .ok (.iload_n 3, 1) := by decide +kernel
theorem dX7_staysWith_27 : decode cX7_staysWith 27 = .ok (.ireturn, 1) := by decide +kernel
theorem dX7_lossWithoutKnots_0 : decode cX7_lossWithoutKnots 0 = .ok (.aload_n 0, 1) := by decide +kernel
theorem dX7_lossWithoutKnots_1 : decode cX7_lossWithoutKnots 1 = .ok (.getfield 19, 3) := by decide +kernel
theorem dX7_lossWithoutKnots_4 : decode cX7_lossWithoutKnots 4 = .ok (.getfield 238, 3) := by decide +kernel
theorem dX7_lossWithoutKnots_7 : decode cX7_lossWithoutKnots 7 = .ok (.iload_n 1, 1) := by decide +kernel
theorem dX7_lossWithoutKnots_8 : decode cX7_lossWithoutKnots 8 = .ok (.iaload, 1) := by decide +kernel
theorem dX7_lossWithoutKnots_9 : decode cX7_lossWithoutKnots 9 = .ok (.invokestatic 204, 3) := by decide +kernel
theorem dX7_lossWithoutKnots_12 : decode cX7_lossWithoutKnots 12 = .ok (.istore 4, 2) := by decide +kernel
theorem dX7_lossWithoutKnots_14 : decode cX7_lossWithoutKnots 14 = .ok (.aload_n 0, 1) := by decide +kernel
theorem dX7_lossWithoutKnots_15 : decode cX7_lossWithoutKnots 15 = .ok (.getfield 19, 3) := by decide +kernel
theorem dX7_lossWithoutKnots_18 : decode cX7_lossWithoutKnots 18 = .ok (.getfield 238, 3) := by decide +kernel
theorem dX7_lossWithoutKnots_21 : decode cX7_lossWithoutKnots 21 = .ok (.iload_n 1, 1) := by decide +kernel
theorem dX7_lossWithoutKnots_22 : decode cX7_lossWithoutKnots 22 = .ok (.iaload, 1) := by decide +kernel
theorem dX7_lossWithoutKnots_23 : decode cX7_lossWithoutKnots 23 = .ok (.invokestatic 207, 3) := by decide +kernel
theorem dX7_lossWithoutKnots_26 : decode cX7_lossWithoutKnots 26 = .ok (.istore 5, 2) := by decide +kernel
theorem dX7_lossWithoutKnots_28 : decode cX7_lossWithoutKnots 28 = .ok (.aload_n 0, 1) := by decide +kernel
theorem dX7_lossWithoutKnots_29 : decode cX7_lossWithoutKnots 29 = .ok (.getfield 29, 3) := by decide +kernel
theorem dX7_lossWithoutKnots_32 : decode cX7_lossWithoutKnots 32 = .ok (.iload 4, 2) := by decide +kernel
theorem dX7_lossWithoutKnots_34 : decode cX7_lossWithoutKnots 34 = .ok (.iload 5, 2) := by decide +kernel
theorem dX7_lossWithoutKnots_36 : decode cX7_lossWithoutKnots 36 = .ok (.aload_n 0, 1) := by decide +kernel
theorem dX7_lossWithoutKnots_37 : decode cX7_lossWithoutKnots 37 = .ok (.getfield 19, 3) := by decide +kernel
theorem dX7_lossWithoutKnots_40 : decode cX7_lossWithoutKnots 40 = .ok (.aload_n 0, 1) := by decide +kernel
theorem dX7_lossWithoutKnots_41 : decode cX7_lossWithoutKnots 41 = .ok (.getfield 19, 3) := by decide +kernel
theorem dX7_lossWithoutKnots_44 : decode cX7_lossWithoutKnots 44 = .ok (.getfield 238, 3) := by decide +kernel
theorem dX7_lossWithoutKnots_47 : decode cX7_lossWithoutKnots 47 = .ok (.iload_n 1, 1) := by decide +kernel
theorem dX7_lossWithoutKnots_48 : decode cX7_lossWithoutKnots 48 = .ok (.iaload, 1) := by decide +kernel
theorem dX7_lossWithoutKnots_49 : decode cX7_lossWithoutKnots 49 = .ok (.invokevirtual 127, 3) := by decide +kernel
theorem dX7_lossWithoutKnots_52 : decode cX7_lossWithoutKnots 52 = .ok (.invokevirtual 353, 3) := by decide +kernel
theorem dX7_lossWithoutKnots_55 : decode cX7_lossWithoutKnots 55 = .ok (.aload_n 0, 1) := by decide +kernel
theorem dX7_lossWithoutKnots_56 : decode cX7_lossWithoutKnots 56 = .ok (.getfield 29, 3) := by decide +kernel
theorem dX7_lossWithoutKnots_59 : decode cX7_lossWithoutKnots 59 = .ok (.iload_n 3, 1) := by decide +kernel
theorem dX7_lossWithoutKnots_60 : decode cX7_lossWithoutKnots 60 = .ok (.iconst 0, 1) := by decide +kernel
theorem dX7_lossWithoutKnots_61 : decode cX7_lossWithoutKnots 61 = .ok (.invokevirtual 181, 3) := by decide +kernel
theorem dX7_lossWithoutKnots_64 : decode cX7_lossWithoutKnots 64 = .ok (.aload_n 0, 1) := by decide +kernel
theorem dX7_lossWithoutKnots_65 : decode cX7_lossWithoutKnots 65 = .ok (.getfield 29, 3) := by decide +kernel
theorem dX7_lossWithoutKnots_68 : decode cX7_lossWithoutKnots 68 = .ok (.iload 4, 2) := by decide +kernel
theorem dX7_lossWithoutKnots_70 : decode cX7_lossWithoutKnots 70 = .ok (.iload 5, 2) := by decide +kernel
theorem dX7_lossWithoutKnots_72 : decode cX7_lossWithoutKnots 72 = .ok (.aload_n 0, 1) := by decide +kernel
theorem dX7_lossWithoutKnots_73 : decode cX7_lossWithoutKnots 73 = .ok (.getfield 19, 3) := by decide +kernel
theorem dX7_lossWithoutKnots_76 : decode cX7_lossWithoutKnots 76 = .ok (.iload_n 1, 1) := by decide +kernel
theorem dX7_lossWithoutKnots_77 : decode cX7_lossWithoutKnots 77 = .ok (.invokevirtual 130, 3) := by decide +kernel
theorem dX7_lossWithoutKnots_80 : decode cX7_lossWithoutKnots 80 = .ok (.invokevirtual 353, 3) := by decide +kernel
theorem dX7_lossWithoutKnots_83 : decode cX7_lossWithoutKnots 83 = .ok (.aload_n 0, 1) := by decide +kernel
theorem dX7_lossWithoutKnots_84 : decode cX7_lossWithoutKnots 84 = .ok (.getfield 29, 3) := by decide +kernel
theorem dX7_lossWithoutKnots_87 : decode cX7_lossWithoutKnots 87 = .ok (.iload_n 2, 1) := by decide +kernel
theorem dX7_lossWithoutKnots_88 : decode cX7_lossWithoutKnots 88 = .ok (.invokevirtual 184, 3) := by decide +kernel
theorem dX7_lossWithoutKnots_91 : decode cX7_lossWithoutKnots 91 = .ok (.ireturn, 1) := by decide +kernel
theorem dX7_stringTooMany_0 : decode cX7_stringTooMany 0 = .ok (.iconst 0, 1) := by decide +kernel
theorem dX7_stringTooMany_1 : decode cX7_stringTooMany 1 = .ok (.istore_n 3, 1) := by decide +kernel
theorem dX7_stringTooMany_2 : decode cX7_stringTooMany 2 = .ok (.iload_n 3, 1) := by decide +kernel
theorem dX7_stringTooMany_3 : decode cX7_stringTooMany 3 = .ok (.aload_n 0, 1) := by decide +kernel
theorem dX7_stringTooMany_4 : decode cX7_stringTooMany 4 = .ok (.getfield 19, 3) := by decide +kernel
theorem dX7_stringTooMany_7 : decode cX7_stringTooMany 7 = .ok (.getfield 165, 3) := by decide +kernel
theorem dX7_stringTooMany_10 : decode cX7_stringTooMany 10 = .ok (.if_icmp .ge 91, 3) := by decide +kernel
theorem dX7_stringTooMany_13 : decode cX7_stringTooMany 13 = .ok (.iload_n 3, 1) := by decide +kernel
theorem dX7_stringTooMany_14 : decode cX7_stringTooMany 14 = .ok (.iconst 1, 1) := by decide +kernel
theorem dX7_stringTooMany_15 : decode cX7_stringTooMany 15 = .ok (.iadd, 1) := by decide +kernel
theorem dX7_stringTooMany_16 : decode cX7_stringTooMany 16 = .ok (.istore 4, 2) := by decide +kernel
theorem dX7_stringTooMany_18 : decode cX7_stringTooMany 18 = .ok (.iload 4, 2) := by decide +kernel
theorem dX7_stringTooMany_20 : decode cX7_stringTooMany 20 = .ok (.aload_n 0, 1) := by decide +kernel
theorem dX7_stringTooMany_21 : decode cX7_stringTooMany 21 = .ok (.getfield 19, 3) := by decide +kernel
theorem dX7_stringTooMany_24 : decode cX7_stringTooMany 24 = .ok (.getfield 165, 3) := by decide +kernel
theorem dX7_stringTooMany_27 : decode cX7_stringTooMany 27 = .ok (.if_icmp .ge 68, 3) := by decide +kernel
theorem dX7_stringTooMany_30 : decode cX7_stringTooMany 30 = .ok (.aload_n 0, 1) := by decide +kernel
theorem dX7_stringTooMany_31 : decode cX7_stringTooMany 31 = .ok (.getfield 29, 3) := by decide +kernel
theorem dX7_stringTooMany_34 : decode cX7_stringTooMany 34 = .ok (.iload_n 3, 1) := by decide +kernel
theorem dX7_stringTooMany_35 : decode cX7_stringTooMany 35 = .ok (.iload 4, 2) := by decide +kernel
theorem dX7_stringTooMany_37 : decode cX7_stringTooMany 37 = .ok (.invokevirtual 357, 3) := by decide +kernel
theorem dX7_stringTooMany_40 : decode cX7_stringTooMany 40 = .ok (.ifCond .ne 6, 3) := by decide +kernel
theorem dX7_stringTooMany_43 : decode cX7_stringTooMany 43 = .ok (.goto 46, 3) := by decide +kernel
theorem dX7_stringTooMany_46 : decode cX7_stringTooMany 46 = .ok (.aload_n 0, 1) := by decide +kernel
theorem dX7_stringTooMany_47 : decode cX7_stringTooMany 47 = .ok (.getfield 29, 3) := by decide +kernel
theorem dX7_stringTooMany_50 : decode cX7_stringTooMany 50 = .ok (.iload_n 3, 1) := by decide +kernel
theorem dX7_stringTooMany_51 : decode cX7_stringTooMany 51 = .ok (.iload 4, 2) := by decide +kernel
theorem dX7_stringTooMany_53 : decode cX7_stringTooMany 53 = .ok (.invokevirtual 350, 3) := by decide +kernel
theorem dX7_stringTooMany_56 : decode cX7_stringTooMany 56 = .ok (.aload_n 0, 1) := by decide +kernel
theorem dX7_stringTooMany_57 : decode cX7_stringTooMany 57 = .ok (.getfield 29, 3) := by decide +kernel
theorem dX7_stringTooMany_60 : decode cX7_stringTooMany 60 = .ok (.iload_n 1, 1) := by decide +kernel
theorem dX7_stringTooMany_61 : decode cX7_stringTooMany 61 = .ok (.aload_n 2, 1) := by decide +kernel
theorem dX7_stringTooMany_62 : decode cX7_stringTooMany 62 = .ok (.invokevirtual 303, 3) := by decide +kernel
theorem dX7_stringTooMany_65 : decode cX7_stringTooMany 65 = .ok (.istore 5, 2) := by decide +kernel
theorem dX7_stringTooMany_67 : decode cX7_stringTooMany 67 = .ok (.aload_n 0, 1) := by decide +kernel
theorem dX7_stringTooMany_68 : decode cX7_stringTooMany 68 = .ok (.getfield 29, 3) := by decide +kernel
theorem dX7_stringTooMany_71 : decode cX7_stringTooMany 71 = .ok (.iload_n 3, 1) := by decide +kernel
theorem dX7_stringTooMany_72 : decode cX7_stringTooMany 72 = .ok (.iload 4, 2) := by decide +kernel
theorem dX7_stringTooMany_74 : decode cX7_stringTooMany 74 = .ok (.invokevirtual 347, 3) := by decide +kernel
theorem dX7_stringTooMany_77 : decode cX7_stringTooMany 77 = .ok (.iload 5, 2) := by decide +kernel
theorem dX7_stringTooMany_79 : decode cX7_stringTooMany 79 = .ok (.ifCond .eq 10, 3) := by decide +kernel
theorem dX7_stringTooMany_82 : decode cX7_stringTooMany 82 = .ok (.iload_n 3, 1) := by decide +kernel
theorem dX7_stringTooMany_83 : decode cX7_stringTooMany 83 = .ok (.iload 4, 2) := by decide +kernel
theorem dX7_stringTooMany_85 : decode cX7_stringTooMany 85 = .ok (.invokestatic 219, 3) := by decide +kernel
theorem dX7_stringTooMany_88 : decode cX7_stringTooMany 88 = .ok (.ireturn, 1) := by decide +kernel
theorem dX7_stringTooMany_89 : decode cX7_stringTooMany 89 = .ok (.iinc 4 1, 3) := by decide +kernel
theorem dX7_stringTooMany_92 : decode cX7_stringTooMany 92 = .ok (.goto (-74), 3) := by decide +kernel
theorem dX7_stringTooMany_95 : decode cX7_stringTooMany 95 = .ok (.iinc 3 1, 3) := by decide +kernel
theorem dX7_stringTooMany_98 : decode cX7_stringTooMany 98 = .ok (.goto (-96), 3) := by decide +kernel
theorem dX7_stringTooMany_101 : decode cX7_stringTooMany 101 = .ok (.iconst (-1), 1) := by decide +kernel
theorem dX7_stringTooMany_102 : decode cX7_stringTooMany 102 = .ok (.ireturn, 1) := by decide +kernel
theorem dX7_pairTooFew_0 : decode cX7_pairTooFew 0 = .ok (.iconst 0, 1) := by decide +kernel
theorem dX7_pairTooFew_1 : decode cX7_pairTooFew 1 = .ok (.istore_n 3, 1) := by decide +kernel
theorem dX7_pairTooFew_2 : decode cX7_pairTooFew 2 = .ok (.iload_n 3, 1) := by decide +kernel
theorem dX7_pairTooFew_3 : decode cX7_pairTooFew 3 = .ok (.aload_n 0, 1) := by decide +kernel
theorem dX7_pairTooFew_4 : decode cX7_pairTooFew 4 = .ok (.getfield 19, 3) := by decide +kernel
theorem dX7_pairTooFew_7 : decode cX7_pairTooFew 7 = .ok (.getfield 165, 3) := by decide +kernel
theorem dX7_pairTooFew_10 : decode cX7_pairTooFew 10 = .ok (.if_icmp .ge 94, 3) := by decide +kernel
theorem dX7_pairTooFew_13 : decode cX7_pairTooFew 13 = .ok (.iload_n 3, 1) := by decide +kernel
theorem dX7_pairTooFew_14 : decode cX7_pairTooFew 14 = .ok (.iconst 1, 1) := by decide +kernel
theorem dX7_pairTooFew_15 : decode cX7_pairTooFew 15 = .ok (.iadd, 1) := by decide +kernel
theorem dX7_pairTooFew_16 : decode cX7_pairTooFew 16 = .ok (.istore 4, 2) := by decide +kernel
theorem dX7_pairTooFew_18 : decode cX7_pairTooFew 18 = .ok (.iload 4, 2) := by decide +kernel
theorem dX7_pairTooFew_20 : decode cX7_pairTooFew 20 = .ok (.aload_n 0, 1) := by decide +kernel
theorem dX7_pairTooFew_21 : decode cX7_pairTooFew 21 = .ok (.getfield 19, 3) := by decide +kernel
theorem dX7_pairTooFew_24 : decode cX7_pairTooFew 24 = .ok (.getfield 165, 3) := by decide +kernel
theorem dX7_pairTooFew_27 : decode cX7_pairTooFew 27 = .ok (.if_icmp .ge 71, 3) := by decide +kernel
theorem dX7_pairTooFew_30 : decode cX7_pairTooFew 30 = .ok (.aload_n 0, 1) := by decide +kernel
theorem dX7_pairTooFew_31 : decode cX7_pairTooFew 31 = .ok (.getfield 19, 3) := by decide +kernel
theorem dX7_pairTooFew_34 : decode cX7_pairTooFew 34 = .ok (.iload_n 3, 1) := by decide +kernel
theorem dX7_pairTooFew_35 : decode cX7_pairTooFew 35 = .ok (.iload 4, 2) := by decide +kernel
theorem dX7_pairTooFew_37 : decode cX7_pairTooFew 37 = .ok (.invokestatic 219, 3) := by decide +kernel
theorem dX7_pairTooFew_40 : decode cX7_pairTooFew 40 = .ok (.invokevirtual 222, 3) := by decide +kernel
theorem dX7_pairTooFew_43 : decode cX7_pairTooFew 43 = .ok (.ifCond .ne 6, 3) := by decide +kernel
theorem dX7_pairTooFew_46 : decode cX7_pairTooFew 46 = .ok (.goto 46, 3) := by decide +kernel
theorem dX7_pairTooFew_49 : decode cX7_pairTooFew 49 = .ok (.aload_n 0, 1) := by decide +kernel
theorem dX7_pairTooFew_50 : decode cX7_pairTooFew 50 = .ok (.getfield 29, 3) := by decide +kernel
theorem dX7_pairTooFew_53 : decode cX7_pairTooFew 53 = .ok (.iload_n 3, 1) := by decide +kernel
theorem dX7_pairTooFew_54 : decode cX7_pairTooFew 54 = .ok (.iload 4, 2) := by decide +kernel
theorem dX7_pairTooFew_56 : decode cX7_pairTooFew 56 = .ok (.invokevirtual 347, 3) := by decide +kernel
theorem dX7_pairTooFew_59 : decode cX7_pairTooFew 59 = .ok (.aload_n 0, 1) := by decide +kernel
theorem dX7_pairTooFew_60 : decode cX7_pairTooFew 60 = .ok (.getfield 29, 3) := by decide +kernel
theorem dX7_pairTooFew_63 : decode cX7_pairTooFew 63 = .ok (.iload_n 1, 1) := by decide +kernel
theorem dX7_pairTooFew_64 : decode cX7_pairTooFew 64 = .ok (.aload_n 2, 1) := by decide +kernel
theorem dX7_pairTooFew_65 : decode cX7_pairTooFew 65 = .ok (.invokevirtual 303, 3) := by decide +kernel
theorem dX7_pairTooFew_68 : decode cX7_pairTooFew 68 = .ok (.istore 5, 2) := by decide +kernel
theorem dX7_pairTooFew_70 : decode cX7_pairTooFew 70 = .ok (.aload_n 0, 1) := by decide +kernel
theorem dX7_pairTooFew_71 : decode cX7_pairTooFew 71 = .ok (.getfield 29, 3) := by decide +kernel
theorem dX7_pairTooFew_74 : decode cX7_pairTooFew 74 = .ok (.iload_n 3, 1) := by decide +kernel
theorem dX7_pairTooFew_75 : decode cX7_pairTooFew 75 = .ok (.iload 4, 2) := by decide +kernel
theorem dX7_pairTooFew_77 : decode cX7_pairTooFew 77 = .ok (.invokevirtual 350, 3) := by decide +kernel
theorem dX7_pairTooFew_80 : decode cX7_pairTooFew 80 = .ok (.iload 5, 2) := by decide +kernel
theorem dX7_pairTooFew_82 : decode cX7_pairTooFew 82 = .ok (.ifCond .eq 10, 3) := by decide +kernel
theorem dX7_pairTooFew_85 : decode cX7_pairTooFew 85 = .ok (.iload_n 3, 1) := by decide +kernel
theorem dX7_pairTooFew_86 : decode cX7_pairTooFew 86 = .ok (.iload 4, 2) := by decide +kernel
theorem dX7_pairTooFew_88 : decode cX7_pairTooFew 88 = .ok (.invokestatic 219, 3) := by decide +kernel
theorem dX7_pairTooFew_91 : decode cX7_pairTooFew 91 = .ok (.ireturn, 1) := by decide +kernel
theorem dX7_pairTooFew_92 : decode cX7_pairTooFew 92 = .ok (.iinc 4 1, 3) := by decide +kernel
theorem dX7_pairTooFew_95 : decode cX7_pairTooFew 95 = .ok (.goto (-77), 3) := by decide +kernel
theorem dX7_pairTooFew_98 : decode cX7_pairTooFew 98 = .ok (.iinc 3 1, 3) := by decide +kernel
theorem dX7_pairTooFew_101 : decode cX7_pairTooFew 101 = .ok (.goto (-99), 3) := by decide +kernel
theorem dX7_pairTooFew_104 : decode cX7_pairTooFew 104 = .ok (.iconst (-1), 1) := by decide +kernel
theorem dX7_pairTooFew_105 : decode cX7_pairTooFew 105 = .ok (.ireturn, 1) := by decide +kernel
theorem dX7_isRow_0 : decode cX7_isRow 0 = .ok (.iload_n 0, 1) := by decide +kernel
theorem dX7_isRow_1 : decode cX7_isRow 1 = .ok (.ifCond .lt 12, 3) := by decide +kernel
theorem dX7_isRow_4 : decode cX7_isRow 4 = .ok (.iload_n 0, 1) := by decide +kernel
theorem dX7_isRow_5 : decode cX7_isRow 5 = .ok (.iconst 4, 1) := by decide +kernel
theorem dX7_isRow_6 : decode cX7_isRow 6 = .ok (.if_icmp .ge 7, 3) := by decide +kernel
theorem dX7_isRow_9 : decode cX7_isRow 9 = .ok (.iconst 1, 1) := by decide +kernel
theorem dX7_isRow_10 : decode cX7_isRow 10 = .ok (.goto 4, 3) := by decide +kernel
theorem dX7_isRow_13 : decode cX7_isRow 13 = .ok (.iconst 0, 1) := by decide +kernel
theorem dX7_isRow_14 : decode cX7_isRow 14 = .ok (.ireturn, 1) := by decide +kernel
theorem dX7_rowRefusal_0 : decode cX7_rowRefusal 0 = .ok (.iload_n 1, 1) := by decide +kernel
theorem dX7_rowRefusal_1 : decode cX7_rowRefusal 1 = .ok (.invokestatic 258, 3) := by decide +kernel
theorem dX7_rowRefusal_4 : decode cX7_rowRefusal 4 = .ok (.ifCond .ne 6, 3) := by decide +kernel
theorem dX7_rowRefusal_7 : decode cX7_rowRefusal 7 = .ok (.bipush (-2), 2) := by decide +kernel
theorem dX7_rowRefusal_9 : decode cX7_rowRefusal 9 = .ok (.ireturn, 1) := by decide +kernel
theorem dX7_rowRefusal_10 : decode cX7_rowRefusal 10 = .ok (.aload_n 0, 1) := by decide +kernel
theorem dX7_rowRefusal_11 : decode cX7_rowRefusal 11 = .ok (.getfield 56, 3) := by decide +kernel
theorem dX7_rowRefusal_14 : decode cX7_rowRefusal 14 = .ok (.iload_n 1, 1) := by decide +kernel
theorem dX7_rowRefusal_15 : decode cX7_rowRefusal 15 = .ok (.aaload, 1) := by decide +kernel
theorem dX7_rowRefusal_16 : decode cX7_rowRefusal 16 = .ok (.getfield 155, 3) := by decide +kernel
theorem dX7_rowRefusal_19 : decode cX7_rowRefusal 19 = .ok (.iconst (-1), 1) := by decide +kernel
theorem dX7_rowRefusal_20 : decode cX7_rowRefusal 20 = .ok (.if_icmp .ne 8, 3) := by decide +kernel
theorem dX7_rowRefusal_23 : decode cX7_rowRefusal 23 = .ok (.bipush (-6), 2) := by decide +kernel
theorem dX7_rowRefusal_25 : decode cX7_rowRefusal 25 = .ok (.goto 4, 3) := by decide +kernel
theorem dX7_rowRefusal_28 : decode cX7_rowRefusal 28 = .ok (.iconst 0, 1) := by decide +kernel
theorem dX7_rowRefusal_29 : decode cX7_rowRefusal 29 = .ok (.ireturn, 1) := by decide +kernel
theorem dX7_pairsRefusal_0 : decode cX7_pairsRefusal 0 = .ok (.aload_n 0, 1) := by decide +kernel
theorem dX7_pairsRefusal_1 : decode cX7_pairsRefusal 1 = .ok (.iload_n 1, 1) := by decide +kernel
theorem dX7_pairsRefusal_2 : decode cX7_pairsRefusal 2 = .ok (.invokevirtual 152, 3) := by decide +kernel
theorem dX7_pairsRefusal_5 : decode cX7_pairsRefusal 5 = .ok (.istore_n 2, 1) := by decide +kernel
theorem dX7_pairsRefusal_6 : decode cX7_pairsRefusal 6 = .ok (.iload_n 2, 1) := by decide +kernel
theorem dX7_pairsRefusal_7 : decode cX7_pairsRefusal 7 = .ok (.ifCond .eq 5, 3) := by decide +kernel
theorem dX7_pairsRefusal_10 : decode cX7_pairsRefusal 10 = .ok (.iload_n 2, 1) := by decide +kernel
theorem dX7_pairsRefusal_11 : decode cX7_pairsRefusal 11 = .ok (.ireturn, 1) := by decide +kernel
theorem dX7_pairsRefusal_12 : decode cX7_pairsRefusal 12 = .ok (.iconst 0, 1) := by decide +kernel
theorem dX7_pairsRefusal_13 : decode cX7_pairsRefusal 13 = .ok (.istore_n 3, 1) := by decide +kernel
theorem dX7_pairsRefusal_14 : decode cX7_pairsRefusal 14 = .ok (.iload_n 3, 1) := by decide +kernel
theorem dX7_pairsRefusal_15 : decode cX7_pairsRefusal 15 = .ok (.aload_n 0, 1) := by decide +kernel
theorem dX7_pairsRefusal_16 : decode cX7_pairsRefusal 16 = .ok (.getfield 56, 3) := by decide +kernel
theorem dX7_pairsRefusal_19 : decode cX7_pairsRefusal 19 = .ok (.iload_n 1, 1) := by decide +kernel
theorem dX7_pairsRefusal_20 : decode cX7_pairsRefusal 20 = .ok (.aaload, 1) := by decide +kernel
theorem dX7_pairsRefusal_21 : decode cX7_pairsRefusal 21 = .ok (.getfield 155, 3) := by decide +kernel
theorem dX7_pairsRefusal_24 : decode cX7_pairsRefusal 24 = .ok (.if_icmp .ge 32, 3) := by decide +kernel
theorem dX7_pairsRefusal_27 : decode cX7_pairsRefusal 27 = .ok (.aload_n 0, 1) := by decide +kernel
theorem dX7_pairsRefusal_28 : decode cX7_pairsRefusal 28 = .ok (.getfield 19, 3) := by decide +kernel
theorem dX7_pairsRefusal_31 : decode cX7_pairsRefusal 31 = .ok (.aload_n 0, 1) := by decide +kernel
theorem dX7_pairsRefusal_32 : decode cX7_pairsRefusal 32 = .ok (.getfield 56, 3) := by decide +kernel
theorem dX7_pairsRefusal_35 : decode cX7_pairsRefusal 35 = .ok (.iload_n 1, 1) := by decide +kernel
theorem dX7_pairsRefusal_36 : decode cX7_pairsRefusal 36 = .ok (.aaload, 1) := by decide +kernel
theorem dX7_pairsRefusal_37 : decode cX7_pairsRefusal 37 = .ok (.iload_n 3, 1) := by decide +kernel
theorem dX7_pairsRefusal_38 : decode cX7_pairsRefusal 38 = .ok (.invokevirtual 158, 3) := by decide +kernel
theorem dX7_pairsRefusal_41 : decode cX7_pairsRefusal 41 = .ok (.invokevirtual 110, 3) := by decide +kernel
theorem dX7_pairsRefusal_44 : decode cX7_pairsRefusal 44 = .ok (.ifCond .ne 6, 3) := by decide +kernel
theorem dX7_pairsRefusal_47 : decode cX7_pairsRefusal 47 = .ok (.bipush (-3), 2) := by decide +kernel
theorem dX7_pairsRefusal_49 : decode cX7_pairsRefusal 49 = .ok (.ireturn, 1) := by decide +kernel
theorem dX7_pairsRefusal_50 : decode cX7_pairsRefusal 50 = .ok (.iinc 3 1, 3) := by decide +kernel
theorem dX7_pairsRefusal_53 : decode cX7_pairsRefusal 53 = .ok (.goto (-39), 3) := by decide +kernel
theorem dX7_pairsRefusal_56 : decode cX7_pairsRefusal 56 = .ok (.iconst 0, 1) := by decide +kernel
theorem dX7_pairsRefusal_57 : decode cX7_pairsRefusal 57 = .ok (.ireturn, 1) := by decide +kernel
theorem dX7_pairOf_0 : decode cX7_pairOf 0 = .ok (.bipush 20, 2) := by decide +kernel
theorem dX7_pairOf_2 : decode cX7_pairOf 2 = .ok (.iload_n 0, 1) := by decide +kernel
theorem dX7_pairOf_3 : decode cX7_pairOf 3 = .ok (.iload_n 1, 1) := by decide +kernel
theorem dX7_pairOf_4 : decode cX7_pairOf 4 = .ok (.invokestatic 323, 3) := by decide +kernel
theorem dX7_pairOf_7 : decode cX7_pairOf 7 = .ok (.imul, 1) := by decide +kernel
theorem dX7_pairOf_8 : decode cX7_pairOf 8 = .ok (.iload_n 0, 1) := by decide +kernel
theorem dX7_pairOf_9 : decode cX7_pairOf 9 = .ok (.iload_n 1, 1) := by decide +kernel
theorem dX7_pairOf_10 : decode cX7_pairOf 10 = .ok (.invokestatic 360, 3) := by decide +kernel
theorem dX7_pairOf_13 : decode cX7_pairOf 13 = .ok (.iadd, 1) := by decide +kernel
theorem dX7_pairOf_14 : decode cX7_pairOf 14 = .ok (.ireturn, 1) := by decide +kernel
theorem dX7_lesser_0 : decode cX7_lesser 0 = .ok (.iload_n 0, 1) := by decide +kernel
theorem dX7_lesser_1 : decode cX7_lesser 1 = .ok (.bipush 20, 2) := by decide +kernel
theorem dX7_lesser_3 : decode cX7_lesser 3 = .ok (.idiv, 1) := by decide +kernel
theorem dX7_lesser_4 : decode cX7_lesser 4 = .ok (.ireturn, 1) := by decide +kernel
theorem dX7_greater_0 : decode cX7_greater 0 = .ok (.iload_n 0, 1) := by decide +kernel
theorem dX7_greater_1 : decode cX7_greater 1 = .ok (.bipush 20, 2) := by decide +kernel
theorem dX7_greater_3 : decode cX7_greater 3 = .ok (.irem, 1) := by decide +kernel
theorem dX7_greater_4 : decode cX7_greater 4 = .ok (.ireturn, 1) := by decide +kernel
theorem dX7_endsOf_0 : decode cX7_endsOf 0 = .ok (.iconst 1, 1) := by decide +kernel
theorem dX7_endsOf_1 : decode cX7_endsOf 1 = .ok (.iload_n 0, 1) := by decide +kernel
theorem dX7_endsOf_2 : decode cX7_endsOf 2 = .ok (.invokestatic 204, 3) := by decide +kernel
theorem dX7_endsOf_5 : decode cX7_endsOf 5 = .ok (.ishl, 1) := by decide +kernel
theorem dX7_endsOf_6 : decode cX7_endsOf 6 = .ok (.iconst 1, 1) := by decide +kernel
theorem dX7_endsOf_7 : decode cX7_endsOf 7 = .ok (.iload_n 0, 1) := by decide +kernel
theorem dX7_endsOf_8 : decode cX7_endsOf 8 = .ok (.invokestatic 207, 3) := by decide +kernel
theorem dX7_endsOf_11 : decode cX7_endsOf 11 = .ok (.ishl, 1) := by decide +kernel
theorem dX7_endsOf_12 : decode cX7_endsOf 12 = .ok (.ior, 1) := by decide +kernel
theorem dX7_endsOf_13 : decode cX7_endsOf 13 = .ok (.ireturn, 1) := by decide +kernel
theorem dX7_crossing_0 : decode cX7_crossing 0 = .ok (.iload_n 0, 1) := by decide +kernel
theorem dX7_crossing_1 : decode cX7_crossing 1 = .ok (.invokestatic 204, 3) := by decide +kernel
theorem dX7_crossing_4 : decode cX7_crossing 4 = .ok (.istore_n 2, 1) := by decide +kernel
theorem dX7_crossing_5 : decode cX7_crossing 5 = .ok (.iload_n 0, 1) := by decide +kernel
theorem dX7_crossing_6 : decode cX7_crossing 6 = .ok (.invokestatic 207, 3) := by decide +kernel
theorem dX7_crossing_9 : decode cX7_crossing 9 = .ok (.istore_n 3, 1) := by decide +kernel
theorem dX7_crossing_10 : decode cX7_crossing 10 = .ok (.iload_n 1, 1) := by decide +kernel
theorem dX7_crossing_11 : decode cX7_crossing 11 = .ok (.invokestatic 204, 3) := by decide +kernel
theorem dX7_crossing_14 : decode cX7_crossing 14 = .ok (.istore 4, 2) := by decide +kernel
theorem dX7_crossing_16 : decode cX7_crossing 16 = .ok (.iload_n 1, 1) := by decide +kernel
theorem dX7_crossing_17 : decode cX7_crossing 17 = .ok (.invokestatic 207, 3) := by decide +kernel
theorem dX7_crossing_20 : decode cX7_crossing 20 = .ok (.istore 5, 2) := by decide +kernel
theorem dX7_crossing_22 : decode cX7_crossing 22 = .ok (.iload_n 2, 1) := by decide +kernel
theorem dX7_crossing_23 : decode cX7_crossing 23 = .ok (.iload 4, 2) := by decide +kernel
theorem dX7_crossing_25 : decode cX7_crossing 25 = .ok (.if_icmp .eq 25, 3) := by decide +kernel
theorem dX7_crossing_28 : decode cX7_crossing 28 = .ok (.iload_n 2, 1) := by decide +kernel
theorem dX7_crossing_29 : decode cX7_crossing 29 = .ok (.iload 5, 2) := by decide +kernel
theorem dX7_crossing_31 : decode cX7_crossing 31 = .ok (.if_icmp .eq 19, 3) := by decide +kernel
theorem dX7_crossing_34 : decode cX7_crossing 34 = .ok (.iload_n 3, 1) := by decide +kernel
theorem dX7_crossing_35 : decode cX7_crossing 35 = .ok (.iload 4, 2) := by decide +kernel
theorem dX7_crossing_37 : decode cX7_crossing 37 = .ok (.if_icmp .eq 13, 3) := by decide +kernel
theorem dX7_crossing_40 : decode cX7_crossing 40 = .ok (.iload_n 3, 1) := by decide +kernel
theorem dX7_crossing_41 : decode cX7_crossing 41 = .ok (.iload 5, 2) := by decide +kernel
theorem dX7_crossing_43 : decode cX7_crossing 43 = .ok (.if_icmp .eq 7, 3) := by decide +kernel
theorem dX7_crossing_46 : decode cX7_crossing 46 = .ok (.iconst 1, 1) := by decide +kernel
theorem dX7_crossing_47 : decode cX7_crossing 47 = .ok (.goto 4, 3) := by decide +kernel
theorem dX7_crossing_50 : decode cX7_crossing 50 = .ok (.iconst 0, 1) := by decide +kernel
theorem dX7_crossing_51 : decode cX7_crossing 51 = .ok (.istore 6, 2) := by decide +kernel
theorem dX7_crossing_53 : decode cX7_crossing 53 = .ok (.iload 6, 2) := by decide +kernel
theorem dX7_crossing_55 : decode cX7_crossing 55 = .ok (.ifCond .eq 44, 3) := by decide +kernel
theorem dX7_crossing_58 : decode cX7_crossing 58 = .ok (.iload 4, 2) := by decide +kernel
theorem dX7_crossing_60 : decode cX7_crossing 60 = .ok (.iload_n 2, 1) := by decide +kernel
theorem dX7_crossing_61 : decode cX7_crossing 61 = .ok (.if_icmp .le 13, 3) := by decide +kernel
theorem dX7_crossing_64 : decode cX7_crossing 64 = .ok (.iload 4, 2) := by decide +kernel
theorem dX7_crossing_66 : decode cX7_crossing 66 = .ok (.iload_n 3, 1) := by decide +kernel
theorem dX7_crossing_67 : decode cX7_crossing 67 = .ok (.if_icmp .ge 7, 3) := by decide +kernel
theorem dX7_crossing_70 : decode cX7_crossing 70 = .ok (.iconst 1, 1) := by decide +kernel
theorem dX7_crossing_71 : decode cX7_crossing 71 = .ok (.goto 4, 3) := by decide +kernel
theorem dX7_crossing_74 : decode cX7_crossing 74 = .ok (.iconst 0, 1) := by decide +kernel
theorem dX7_crossing_75 : decode cX7_crossing 75 = .ok (.iload 5, 2) := by decide +kernel
theorem dX7_crossing_77 : decode cX7_crossing 77 = .ok (.iload_n 2, 1) := by decide +kernel
theorem dX7_crossing_78 : decode cX7_crossing 78 = .ok (.if_icmp .le 13, 3) := by decide +kernel
theorem dX7_crossing_81 : decode cX7_crossing 81 = .ok (.iload 5, 2) := by decide +kernel
theorem dX7_crossing_83 : decode cX7_crossing 83 = .ok (.iload_n 3, 1) := by decide +kernel
theorem dX7_crossing_84 : decode cX7_crossing 84 = .ok (.if_icmp .ge 7, 3) := by decide +kernel
theorem dX7_crossing_87 : decode cX7_crossing 87 = .ok (.iconst 1, 1) := by decide +kernel
theorem dX7_crossing_88 : decode cX7_crossing 88 = .ok (.goto 4, 3) := by decide +kernel
theorem dX7_crossing_91 : decode cX7_crossing 91 = .ok (.iconst 0, 1) := by decide +kernel
theorem dX7_crossing_92 : decode cX7_crossing 92 = .ok (.if_icmp .eq 7, 3) := by decide +kernel
theorem dX7_crossing_95 : decode cX7_crossing 95 = .ok (.iconst 1, 1) := by decide +kernel
theorem dX7_crossing_96 : decode cX7_crossing 96 = .ok (.goto 4, 3) := by decide +kernel
theorem dX7_crossing_99 : decode cX7_crossing 99 = .ok (.iconst 0, 1) := by decide +kernel
theorem dX7_crossing_100 : decode cX7_crossing 100 = .ok (.ireturn, 1) := by decide +kernel
