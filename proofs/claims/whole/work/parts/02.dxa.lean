theorem dX0_init_0 : decode cX0_init 0 = .ok (.aload_n 0, 1) := by decide +kernel
theorem dX0_init_1 : decode cX0_init 1 = .ok (.invokespecial 3, 3) := by decide +kernel
theorem dX0_init_4 : decode cX0_init 4 = .ok (.aload_n 0, 1) := by decide +kernel
theorem dX0_init_5 : decode cX0_init 5 = .ok (.bipush 12, 2) := by decide +kernel
theorem dX0_init_7 : decode cX0_init 7 = .ok (.newarray .int, 2) := by decide +kernel
theorem dX0_init_9 : decode cX0_init 9 = .ok (.putfield 9, 3) := by decide +kernel
theorem dX0_init_12 : decode cX0_init 12 = .ok (.aload_n 0, 1) := by decide +kernel
theorem dX0_init_13 : decode cX0_init 13 = .ok (.bipush 12, 2) := by decide +kernel
theorem dX0_init_15 : decode cX0_init 15 = .ok (.newarray .int, 2) := by decide +kernel
theorem dX0_init_17 : decode cX0_init 17 = .ok (.putfield 15, 3) := by decide +kernel
theorem dX0_init_20 : decode cX0_init 20 = .ok (.return_, 1) := by decide +kernel
theorem dX0_choose_0 : decode cX0_choose 0 = .ok (.aload_n 0, 1) := by decide +kernel
theorem dX0_choose_1 : decode cX0_choose 1 = .ok (.aload_n 2, 1) := by decide +kernel
theorem dX0_choose_2 : decode cX0_choose 2 = .ok (.getfield 18, 3) := by decide +kernel
theorem dX0_choose_5 : decode cX0_choose 5 = .ok (.bipush 12, 2) := by decide +kernel
theorem dX0_choose_7 : decode cX0_choose 7 = .ok (.invokestatic 24, 3) := by decide +kernel
theorem dX0_choose_10 : decode cX0_choose 10 = .ok (.putfield 30, 3) := by decide +kernel
theorem dX0_choose_13 : decode cX0_choose 13 = .ok (.iconst 0, 1) := by decide +kernel
theorem dX0_choose_14 : decode cX0_choose 14 = .ok (.istore_n 3, 1) := by decide +kernel
theorem dX0_choose_15 : decode cX0_choose 15 = .ok (.iload_n 3, 1) := by decide +kernel
theorem dX0_choose_16 : decode cX0_choose 16 = .ok (.aload_n 0, 1) := by decide +kernel
theorem dX0_choose_17 : decode cX0_choose 17 = .ok (.getfield 30, 3) := by decide +kernel
theorem dX0_choose_20 : decode cX0_choose 20 = .ok (.if_icmp .ge 82, 3) := by decide +kernel
theorem dX0_choose_23 : decode cX0_choose 23 = .ok (.aload_n 0, 1) := by decide +kernel
theorem dX0_choose_24 : decode cX0_choose 24 = .ok (.getfield 9, 3) := by decide +kernel
theorem dX0_choose_27 : decode cX0_choose 27 = .ok (.iload_n 3, 1) := by decide +kernel
theorem dX0_choose_28 : decode cX0_choose 28 = .ok (.aload_n 1, 1) := by decide +kernel
theorem dX0_choose_29 : decode cX0_choose 29 = .ok (.aload_n 2, 1) := by decide +kernel
theorem dX0_choose_30 : decode cX0_choose 30 = .ok (.iload_n 3, 1) := by decide +kernel
theorem dX0_choose_31 : decode cX0_choose 31 = .ok (.invokevirtual 33, 3) := by decide +kernel
theorem dX0_choose_34 : decode cX0_choose 34 = .ok (.l2i, 1) := by decide +kernel
theorem dX0_choose_35 : decode cX0_choose 35 = .ok (.invokevirtual 37, 3) := by decide +kernel
theorem dX0_choose_38 : decode cX0_choose 38 = .ok (.iastore, 1) := by decide +kernel
theorem dX0_choose_39 : decode cX0_choose 39 = .ok (.aload_n 0, 1) := by decide +kernel
theorem dX0_choose_40 : decode cX0_choose 40 = .ok (.getfield 15, 3) := by decide +kernel
theorem dX0_choose_43 : decode cX0_choose 43 = .ok (.iload_n 3, 1) := by decide +kernel
theorem dX0_choose_44 : decode cX0_choose 44 = .ok (.iconst 0, 1) := by decide +kernel
theorem dX0_choose_45 : decode cX0_choose 45 = .ok (.iastore, 1) := by decide +kernel
theorem dX0_choose_46 : decode cX0_choose 46 = .ok (.iconst 0, 1) := by decide +kernel
theorem dX0_choose_47 : decode cX0_choose 47 = .ok (.istore 4, 2) := by decide +kernel
theorem dX0_choose_49 : decode cX0_choose 49 = .ok (.iload 4, 2) := by decide +kernel
theorem dX0_choose_51 : decode cX0_choose 51 = .ok (.aload_n 0, 1) := by decide +kernel
theorem dX0_choose_52 : decode cX0_choose 52 = .ok (.getfield 30, 3) := by decide +kernel
theorem dX0_choose_55 : decode cX0_choose 55 = .ok (.if_icmp .ge 41, 3) := by decide +kernel
theorem dX0_choose_58 : decode cX0_choose 58 = .ok (.aload_n 2, 1) := by decide +kernel
theorem dX0_choose_59 : decode cX0_choose 59 = .ok (.iload_n 3, 1) := by decide +kernel
theorem dX0_choose_60 : decode cX0_choose 60 = .ok (.invokevirtual 33, 3) := by decide +kernel
theorem dX0_choose_63 : decode cX0_choose 63 = .ok (.l2i, 1) := by decide +kernel
theorem dX0_choose_64 : decode cX0_choose 64 = .ok (.aload_n 2, 1) := by decide +kernel
theorem dX0_choose_65 : decode cX0_choose 65 = .ok (.iload 4, 2) := by decide +kernel
theorem dX0_choose_67 : decode cX0_choose 67 = .ok (.invokevirtual 33, 3) := by decide +kernel
theorem dX0_choose_70 : decode cX0_choose 70 = .ok (.l2i, 1) := by decide +kernel
theorem dX0_choose_71 : decode cX0_choose 71 = .ok (.invokestatic 43, 3) := by decide +kernel
theorem dX0_choose_74 : decode cX0_choose 74 = .ok (.ifCond .eq 16, 3) := by decide +kernel
theorem dX0_choose_77 : decode cX0_choose 77 = .ok (.aload_n 0, 1) := by decide +kernel
theorem dX0_choose_78 : decode cX0_choose 78 = .ok (.getfield 15, 3) := by decide +kernel
theorem dX0_choose_81 : decode cX0_choose 81 = .ok (.iload_n 3, 1) := by decide +kernel
theorem dX0_choose_82 : decode cX0_choose 82 = .ok (.dup2, 1) := by decide +kernel
theorem dX0_choose_83 : decode cX0_choose 83 = .ok (.iaload, 1) := by decide +kernel
theorem dX0_choose_84 : decode cX0_choose 84 = .ok (.iconst 1, 1) := by decide +kernel
theorem dX0_choose_85 : decode cX0_choose 85 = .ok (.iload 4, 2) := by decide +kernel
theorem dX0_choose_87 : decode cX0_choose 87 = .ok (.ishl, 1) := by decide +kernel
theorem dX0_choose_88 : decode cX0_choose 88 = .ok (.ior, 1) := by decide +kernel
theorem dX0_choose_89 : decode cX0_choose 89 = .ok (.iastore, 1) := by decide +kernel
theorem dX0_choose_90 : decode cX0_choose 90 = .ok (.iinc 4 1, 3) := by decide +kernel
theorem dX0_choose_93 : decode cX0_choose 93 = .ok (.goto (-44), 3) := by decide +kernel
theorem dX0_choose_96 : decode cX0_choose 96 = .ok (.iinc 3 1, 3) := by decide +kernel
theorem dX0_choose_99 : decode cX0_choose 99 = .ok (.goto (-84), 3) := by decide +kernel
theorem dX0_choose_102 : decode cX0_choose 102 = .ok (.aload_n 0, 1) := by decide +kernel
theorem dX0_choose_103 : decode cX0_choose 103 = .ok (.iconst (-1), 1) := by decide +kernel
theorem dX0_choose_104 : decode cX0_choose 104 = .ok (.putfield 47, 3) := by decide +kernel
theorem dX0_choose_107 : decode cX0_choose 107 = .ok (.aload_n 0, 1) := by decide +kernel
theorem dX0_choose_108 : decode cX0_choose 108 = .ok (.iconst 0, 1) := by decide +kernel
theorem dX0_choose_109 : decode cX0_choose 109 = .ok (.iconst 0, 1) := by decide +kernel
theorem dX0_choose_110 : decode cX0_choose 110 = .ok (.iconst 0, 1) := by decide +kernel
theorem dX0_choose_111 : decode cX0_choose 111 = .ok (.iconst 0, 1) := by decide +kernel
theorem dX0_choose_112 : decode cX0_choose 112 = .ok (.invokevirtual 50, 3) := by decide +kernel
theorem dX0_choose_115 : decode cX0_choose 115 = .ok (.return_, 1) := by decide +kernel
theorem dX0_decide_0 : decode cX0_decide 0 = .ok (.iload_n 2, 1) := by decide +kernel
theorem dX0_decide_1 : decode cX0_decide 1 = .ok (.aload_n 0, 1) := by decide +kernel
theorem dX0_decide_2 : decode cX0_decide 2 = .ok (.getfield 30, 3) := by decide +kernel
theorem dX0_decide_5 : decode cX0_decide 5 = .ok (.iadd, 1) := by decide +kernel
theorem dX0_decide_6 : decode cX0_decide 6 = .ok (.iload_n 1, 1) := by decide +kernel
theorem dX0_decide_7 : decode cX0_decide 7 = .ok (.isub, 1) := by decide +kernel
theorem dX0_decide_8 : decode cX0_decide 8 = .ok (.aload_n 0, 1) := by decide +kernel
theorem dX0_decide_9 : decode cX0_decide 9 = .ok (.getfield 47, 3) := by decide +kernel
theorem dX0_decide_12 : decode cX0_decide 12 = .ok (.if_icmp .ge 4, 3) := by decide +kernel
theorem dX0_decide_15 : decode cX0_decide 15 = .ok (.return_, 1) := by decide +kernel
theorem dX0_decide_16 : decode cX0_decide 16 = .ok (.iload_n 1, 1) := by decide +kernel
theorem dX0_decide_17 : decode cX0_decide 17 = .ok (.aload_n 0, 1) := by decide +kernel
theorem dX0_decide_18 : decode cX0_decide 18 = .ok (.getfield 30, 3) := by decide +kernel
theorem dX0_decide_21 : decode cX0_decide 21 = .ok (.if_icmp .lt 12, 3) := by decide +kernel
theorem dX0_decide_24 : decode cX0_decide 24 = .ok (.aload_n 0, 1) := by decide +kernel
theorem dX0_decide_25 : decode cX0_decide 25 = .ok (.iload_n 2, 1) := by decide +kernel
theorem dX0_decide_26 : decode cX0_decide 26 = .ok (.iload_n 3, 1) := by decide +kernel
theorem dX0_decide_27 : decode cX0_decide 27 = .ok (.iload 4, 2) := by decide +kernel
theorem dX0_decide_29 : decode cX0_decide 29 = .ok (.invokevirtual 54, 3) := by decide +kernel
theorem dX0_decide_32 : decode cX0_decide 32 = .ok (.return_, 1) := by decide +kernel
theorem dX0_decide_33 : decode cX0_decide 33 = .ok (.aload_n 0, 1) := by decide +kernel
theorem dX0_decide_34 : decode cX0_decide 34 = .ok (.getfield 15, 3) := by decide +kernel
theorem dX0_decide_37 : decode cX0_decide 37 = .ok (.iload_n 1, 1) := by decide +kernel
theorem dX0_decide_38 : decode cX0_decide 38 = .ok (.iaload, 1) := by decide +kernel
theorem dX0_decide_39 : decode cX0_decide 39 = .ok (.iload 4, 2) := by decide +kernel
theorem dX0_decide_41 : decode cX0_decide 41 = .ok (.iand, 1) := by decide +kernel
theorem dX0_decide_42 : decode cX0_decide 42 = .ok (.ifCond .ne 27, 3) := by decide +kernel
theorem dX0_decide_45 : decode cX0_decide 45 = .ok (.aload_n 0, 1) := by decide +kernel
theorem dX0_decide_46 : decode cX0_decide 46 = .ok (.iload_n 1, 1) := by decide +kernel
theorem dX0_decide_47 : decode cX0_decide 47 = .ok (.iconst 1, 1) := by decide +kernel
theorem dX0_decide_48 : decode cX0_decide 48 = .ok (.iadd, 1) := by decide +kernel
theorem dX0_decide_49 : decode cX0_decide 49 = .ok (.iload_n 2, 1) := by decide +kernel
theorem dX0_decide_50 : decode cX0_decide 50 = .ok (.iconst 1, 1) := by decide +kernel
theorem dX0_decide_51 : decode cX0_decide 51 = .ok (.iadd, 1) := by decide +kernel
theorem dX0_decide_52 : decode cX0_decide 52 = .ok (.iload_n 3, 1) := by decide +kernel
theorem dX0_decide_53 : decode cX0_decide 53 = .ok (.aload_n 0, 1) := by decide +kernel
theorem dX0_decide_54 : decode cX0_decide 54 = .ok (.getfield 9, 3) := by decide +kernel
theorem dX0_decide_57 : decode cX0_decide 57 = .ok (.iload_n 1, 1) := by decide +kernel
theorem dX0_decide_58 : decode cX0_decide 58 = .ok (.iaload, 1) := by decide +kernel
theorem dX0_decide_59 : decode cX0_decide 59 = .ok (.iadd, 1) := by decide +kernel
theorem dX0_decide_60 : decode cX0_decide 60 = .ok (.iload 4, 2) := by decide +kernel
theorem dX0_decide_62 : decode cX0_decide 62 = .ok (.iconst 1, 1) := by decide +kernel
theorem dX0_decide_63 : decode cX0_decide 63 = .ok (.iload_n 1, 1) := by decide +kernel
theorem dX0_decide_64 : decode cX0_decide 64 = .ok (.ishl, 1) := by decide +kernel
theorem dX0_decide_65 : decode cX0_decide 65 = .ok (.ior, 1) := by decide +kernel
theorem dX0_decide_66 : decode cX0_decide 66 = .ok (.invokevirtual 50, 3) := by decide +kernel
theorem dX0_decide_69 : decode cX0_decide 69 = .ok (.aload_n 0, 1) := by decide +kernel
theorem dX0_decide_70 : decode cX0_decide 70 = .ok (.iload_n 1, 1) := by decide +kernel
theorem dX0_decide_71 : decode cX0_decide 71 = .ok (.iconst 1, 1) := by decide +kernel
theorem dX0_decide_72 : decode cX0_decide 72 = .ok (.iadd, 1) := by decide +kernel
theorem dX0_decide_73 : decode cX0_decide 73 = .ok (.iload_n 2, 1) := by decide +kernel
theorem dX0_decide_74 : decode cX0_decide 74 = .ok (.iload_n 3, 1) := by decide +kernel
theorem dX0_decide_75 : decode cX0_decide 75 = .ok (.iload 4, 2) := by decide +kernel
theorem dX0_decide_77 : decode cX0_decide 77 = .ok (.invokevirtual 50, 3) := by decide +kernel
theorem dX0_decide_80 : decode cX0_decide 80 = .ok (.return_, 1) := by decide +kernel
theorem dX0_compare_0 : decode cX0_compare 0 = .ok (.iload_n 1, 1) := by decide +kernel
theorem dX0_compare_1 : decode cX0_compare 1 = .ok (.aload_n 0, 1) := by decide +kernel
theorem dX0_compare_2 : decode cX0_compare 2 = .ok (.getfield 47, 3) := by decide +kernel
theorem dX0_compare_5 : decode cX0_compare 5 = .ok (.if_icmp .ne 15, 3) := by decide +kernel
theorem dX0_compare_8 : decode cX0_compare 8 = .ok (.iload_n 2, 1) := by decide +kernel
theorem dX0_compare_9 : decode cX0_compare 9 = .ok (.aload_n 0, 1) := by decide +kernel
theorem dX0_compare_10 : decode cX0_compare 10 = .ok (.getfield 58, 3) := by decide +kernel
theorem dX0_compare_13 : decode cX0_compare 13 = .ok (.if_icmp .ne 7, 3) := by decide +kernel
theorem dX0_compare_16 : decode cX0_compare 16 = .ok (.iconst 1, 1) := by decide +kernel
theorem dX0_compare_17 : decode cX0_compare 17 = .ok (.goto 4, 3) := by decide +kernel
theorem dX0_compare_20 : decode cX0_compare 20 = .ok (.iconst 0, 1) := by decide +kernel
theorem dX0_compare_21 : decode cX0_compare 21 = .ok (.istore 4, 2) := by decide +kernel
theorem dX0_compare_23 : decode cX0_compare 23 = .ok (.iload_n 1, 1) := by decide +kernel
theorem dX0_compare_24 : decode cX0_compare 24 = .ok (.aload_n 0, 1) := by decide +kernel
theorem dX0_compare_25 : decode cX0_compare 25 = .ok (.getfield 47, 3) := by decide +kernel
theorem dX0_compare_28 : decode cX0_compare 28 = .ok (.if_icmp .gt 32, 3) := by decide +kernel
theorem dX0_compare_31 : decode cX0_compare 31 = .ok (.iload_n 1, 1) := by decide +kernel
theorem dX0_compare_32 : decode cX0_compare 32 = .ok (.aload_n 0, 1) := by decide +kernel
theorem dX0_compare_33 : decode cX0_compare 33 = .ok (.getfield 47, 3) := by decide +kernel
theorem dX0_compare_36 : decode cX0_compare 36 = .ok (.if_icmp .ne 11, 3) := by decide +kernel
theorem dX0_compare_39 : decode cX0_compare 39 = .ok (.iload_n 2, 1) := by decide +kernel
theorem dX0_compare_40 : decode cX0_compare 40 = .ok (.aload_n 0, 1) := by decide +kernel
theorem dX0_compare_41 : decode cX0_compare 41 = .ok (.getfield 58, 3) := by decide +kernel
theorem dX0_compare_44 : decode cX0_compare 44 = .ok (.if_icmp .lt 16, 3) := by decide +kernel
theorem dX0_compare_47 : decode cX0_compare 47 = .ok (.iload 4, 2) := by decide +kernel
theorem dX0_compare_49 : decode cX0_compare 49 = .ok (.ifCond .eq 26, 3) := by decide +kernel
theorem dX0_compare_52 : decode cX0_compare 52 = .ok (.iload_n 3, 1) := by decide +kernel
theorem dX0_compare_53 : decode cX0_compare 53 = .ok (.aload_n 0, 1) := by decide +kernel
theorem dX0_compare_54 : decode cX0_compare 54 = .ok (.getfield 61, 3) := by decide +kernel
theorem dX0_compare_57 : decode cX0_compare 57 = .ok (.if_icmp .ge 18, 3) := by decide +kernel
theorem dX0_compare_60 : decode cX0_compare 60 = .ok (.aload_n 0, 1) := by decide +kernel
theorem dX0_compare_61 : decode cX0_compare 61 = .ok (.iload_n 1, 1) := by decide +kernel
theorem dX0_compare_62 : decode cX0_compare 62 = .ok (.putfield 47, 3) := by decide +kernel
theorem dX0_compare_65 : decode cX0_compare 65 = .ok (.aload_n 0, 1) := by decide +kernel
theorem dX0_compare_66 : decode cX0_compare 66 = .ok (.iload_n 2, 1) := by decide +kernel
theorem dX0_compare_67 : decode cX0_compare 67 = .ok (.putfield 58, 3) := by decide +kernel
theorem dX0_compare_70 : decode cX0_compare 70 = .ok (.aload_n 0, 1) := by decide +kernel
theorem dX0_compare_71 : decode cX0_compare 71 = .ok (.iload_n 3, 1) := by decide +kernel
theorem dX0_compare_72 : decode cX0_compare 72 = .ok (.putfield 61, 3) := by decide +kernel
theorem dX0_compare_75 : decode cX0_compare 75 = .ok (.return_, 1) := by decide +kernel
theorem dX1_init_0 : decode cX1_init 0 = .ok (.aload_n 0, 1) := by decide +kernel
theorem dX1_init_1 : decode cX1_init 1 = .ok (.invokespecial 3, 3) := by decide +kernel
theorem dX1_init_4 : decode cX1_init 4 = .ok (.aload_n 0, 1) := by decide +kernel
theorem dX1_init_5 : decode cX1_init 5 = .ok (.bipush 12, 2) := by decide +kernel
theorem dX1_init_7 : decode cX1_init 7 = .ok (.newarray .int, 2) := by decide +kernel
theorem dX1_init_9 : decode cX1_init 9 = .ok (.putfield 9, 3) := by decide +kernel
theorem dX1_init_12 : decode cX1_init 12 = .ok (.aload_n 0, 1) := by decide +kernel
theorem dX1_init_13 : decode cX1_init 13 = .ok (.bipush 8, 2) := by decide +kernel
theorem dX1_init_15 : decode cX1_init 15 = .ok (.newarray .int, 2) := by decide +kernel
theorem dX1_init_17 : decode cX1_init 17 = .ok (.putfield 15, 3) := by decide +kernel
theorem dX1_init_20 : decode cX1_init 20 = .ok (.aload_n 0, 1) := by decide +kernel
theorem dX1_init_21 : decode cX1_init 21 = .ok (.bipush 8, 2) := by decide +kernel
theorem dX1_init_23 : decode cX1_init 23 = .ok (.newarray .int, 2) := by decide +kernel
theorem dX1_init_25 : decode cX1_init 25 = .ok (.putfield 18, 3) := by decide +kernel
theorem dX1_init_28 : decode cX1_init 28 = .ok (.aload_n 0, 1) := by decide +kernel
theorem dX1_init_29 : decode cX1_init 29 = .ok (.bipush 21, 2) := by decide +kernel
theorem dX1_init_31 : decode cX1_init 31 = .ok (.newarray .int, 2) := by decide +kernel
theorem dX1_init_33 : decode cX1_init 33 = .ok (.putfield 21, 3) := by decide +kernel
theorem dX1_init_36 : decode cX1_init 36 = .ok (.aload_n 0, 1) := by decide +kernel
theorem dX1_init_37 : decode cX1_init 37 = .ok (.bipush 21, 2) := by decide +kernel
theorem dX1_init_39 : decode cX1_init 39 = .ok (.newarray .int, 2) := by decide +kernel
theorem dX1_init_41 : decode cX1_init 41 = .ok (.putfield 24, 3) := by decide +kernel
theorem dX1_init_44 : decode cX1_init 44 = .ok (.aload_n 0, 1) := by decide +kernel
theorem dX1_init_45 : decode cX1_init 45 = .ok (.invokevirtual 27, 3) := by decide +kernel
theorem dX1_init_48 : decode cX1_init 48 = .ok (.return_, 1) := by decide +kernel
theorem dX1_clear_0 : decode cX1_clear 0 = .ok (.aload_n 0, 1) := by decide +kernel
theorem dX1_clear_1 : decode cX1_clear 1 = .ok (.iconst 0, 1) := by decide +kernel
theorem dX1_clear_2 : decode cX1_clear 2 = .ok (.putfield 30, 3) := by decide +kernel
theorem dX1_clear_5 : decode cX1_clear 5 = .ok (.aload_n 0, 1) := by decide +kernel
theorem dX1_clear_6 : decode cX1_clear 6 = .ok (.iconst 0, 1) := by decide +kernel
theorem dX1_clear_7 : decode cX1_clear 7 = .ok (.putfield 34, 3) := by decide +kernel
theorem dX1_clear_10 : decode cX1_clear 10 = .ok (.aload_n 0, 1) := by decide +kernel
theorem dX1_clear_11 : decode cX1_clear 11 = .ok (.iconst 0, 1) := by decide +kernel
theorem dX1_clear_12 : decode cX1_clear 12 = .ok (.putfield 37, 3) := by decide +kernel
theorem dX1_clear_15 : decode cX1_clear 15 = .ok (.aload_n 0, 1) := by decide +kernel
theorem dX1_clear_16 : decode cX1_clear 16 = .ok (.bipush 60, 2) := by decide +kernel
theorem dX1_clear_18 : decode cX1_clear 18 = .ok (.putfield 40, 3) := by decide +kernel
theorem dX1_clear_21 : decode cX1_clear 21 = .ok (.aload_n 0, 1) := by decide +kernel
theorem dX1_clear_22 : decode cX1_clear 22 = .ok (.iconst 0, 1) := by decide +kernel
theorem dX1_clear_23 : decode cX1_clear 23 = .ok (.putfield 43, 3) := by decide +kernel
theorem dX1_clear_26 : decode cX1_clear 26 = .ok (.aload_n 0, 1) := by decide +kernel
theorem dX1_clear_27 : decode cX1_clear 27 = .ok (.iconst 0, 1) := by decide +kernel
theorem dX1_clear_28 : decode cX1_clear 28 = .ok (.putfield 46, 3) := by decide +kernel
theorem dX1_clear_31 : decode cX1_clear 31 = .ok (.aload_n 0, 1) := by decide +kernel
theorem dX1_clear_32 : decode cX1_clear 32 = .ok (.iconst 0, 1) := by decide +kernel
theorem dX1_clear_33 : decode cX1_clear 33 = .ok (.putfield 49, 3) := by decide +kernel
theorem dX1_clear_36 : decode cX1_clear 36 = .ok (.aload_n 0, 1) := by decide +kernel
theorem dX1_clear_37 : decode cX1_clear 37 = .ok (.getfield 9, 3) := by decide +kernel
theorem dX1_clear_40 : decode cX1_clear 40 = .ok (.iconst 3, 1) := by decide +kernel
theorem dX1_clear_41 : decode cX1_clear 41 = .ok (.invokestatic 52, 3) := by decide +kernel
theorem dX1_clear_44 : decode cX1_clear 44 = .ok (.return_, 1) := by decide +kernel
theorem dX1_takeFrom_0 : decode cX1_takeFrom 0 = .ok (.aload_n 0, 1) := by decide +kernel
theorem dX1_takeFrom_1 : decode cX1_takeFrom 1 = .ok (.aload_n 1, 1) := by decide +kernel
theorem dX1_takeFrom_2 : decode cX1_takeFrom 2 = .ok (.getfield 30, 3) := by decide +kernel
theorem dX1_takeFrom_5 : decode cX1_takeFrom 5 = .ok (.putfield 30, 3) := by decide +kernel
theorem dX1_takeFrom_8 : decode cX1_takeFrom 8 = .ok (.aload_n 0, 1) := by decide +kernel
theorem dX1_takeFrom_9 : decode cX1_takeFrom 9 = .ok (.aload_n 1, 1) := by decide +kernel
theorem dX1_takeFrom_10 : decode cX1_takeFrom 10 = .ok (.getfield 34, 3) := by decide +kernel
theorem dX1_takeFrom_13 : decode cX1_takeFrom 13 = .ok (.putfield 34, 3) := by decide +kernel
theorem dX1_takeFrom_16 : decode cX1_takeFrom 16 = .ok (.aload_n 0, 1) := by decide +kernel
theorem dX1_takeFrom_17 : decode cX1_takeFrom 17 = .ok (.aload_n 1, 1) := by decide +kernel
theorem dX1_takeFrom_18 : decode cX1_takeFrom 18 = .ok (.getfield 37, 3) := by decide +kernel
theorem dX1_takeFrom_21 : decode cX1_takeFrom 21 = .ok (.putfield 37, 3) := by decide +kernel
theorem dX1_takeFrom_24 : decode cX1_takeFrom 24 = .ok (.aload_n 0, 1) := by decide +kernel
theorem dX1_takeFrom_25 : decode cX1_takeFrom 25 = .ok (.aload_n 1, 1) := by decide +kernel
theorem dX1_takeFrom_26 : decode cX1_takeFrom 26 = .ok (.getfield 40, 3) := by decide +kernel
theorem dX1_takeFrom_29 : decode cX1_takeFrom 29 = .ok (.putfield 40, 3) := by decide +kernel
theorem dX1_takeFrom_32 : decode cX1_takeFrom 32 = .ok (.aload_n 0, 1) := by decide +kernel
theorem dX1_takeFrom_33 : decode cX1_takeFrom 33 = .ok (.aload_n 1, 1) := by decide +kernel
theorem dX1_takeFrom_34 : decode cX1_takeFrom 34 = .ok (.getfield 43, 3) := by decide +kernel
theorem dX1_takeFrom_37 : decode cX1_takeFrom 37 = .ok (.putfield 43, 3) := by decide +kernel
theorem dX1_takeFrom_40 : decode cX1_takeFrom 40 = .ok (.aload_n 0, 1) := by decide +kernel
theorem dX1_takeFrom_41 : decode cX1_takeFrom 41 = .ok (.aload_n 1, 1) := by decide +kernel
theorem dX1_takeFrom_42 : decode cX1_takeFrom 42 = .ok (.getfield 46, 3) := by decide +kernel
theorem dX1_takeFrom_45 : decode cX1_takeFrom 45 = .ok (.putfield 46, 3) := by decide +kernel
theorem dX1_takeFrom_48 : decode cX1_takeFrom 48 = .ok (.aload_n 0, 1) := by decide +kernel
theorem dX1_takeFrom_49 : decode cX1_takeFrom 49 = .ok (.aload_n 1, 1) := by decide +kernel
theorem dX1_takeFrom_50 : decode cX1_takeFrom 50 = .ok (.getfield 49, 3) := by decide +kernel
theorem dX1_takeFrom_53 : decode cX1_takeFrom 53 = .ok (.putfield 49, 3) := by decide +kernel
theorem dX1_takeFrom_56 : decode cX1_takeFrom 56 = .ok (.aload_n 1, 1) := by decide +kernel
theorem dX1_takeFrom_57 : decode cX1_takeFrom 57 = .ok (.getfield 9, 3) := by decide +kernel
theorem dX1_takeFrom_60 : decode cX1_takeFrom 60 = .ok (.iconst 0, 1) := by decide +kernel
theorem dX1_takeFrom_61 : decode cX1_takeFrom 61 = .ok (.aload_n 0, 1) := by decide +kernel
theorem dX1_takeFrom_62 : decode cX1_takeFrom 62 = .ok (.getfield 9, 3) := by decide +kernel
theorem dX1_takeFrom_65 : decode cX1_takeFrom 65 = .ok (.iconst 0, 1) := by decide +kernel
theorem dX1_takeFrom_66 : decode cX1_takeFrom 66 = .ok (.bipush 12, 2) := by decide +kernel
theorem dX1_takeFrom_68 : decode cX1_takeFrom 68 = .ok (.invokestatic 58, 3) := by decide +kernel
theorem dX1_takeFrom_71 : decode cX1_takeFrom 71 = .ok (.aload_n 1, 1) := by decide +kernel
theorem dX1_takeFrom_72 : decode cX1_takeFrom 72 = .ok (.getfield 15, 3) := by decide +kernel
theorem dX1_takeFrom_75 : decode cX1_takeFrom 75 = .ok (.iconst 0, 1) := by decide +kernel
theorem dX1_takeFrom_76 : decode cX1_takeFrom 76 = .ok (.aload_n 0, 1) := by decide +kernel
theorem dX1_takeFrom_77 : decode cX1_takeFrom 77 = .ok (.getfield 15, 3) := by decide +kernel
theorem dX1_takeFrom_80 : decode cX1_takeFrom 80 = .ok (.iconst 0, 1) := by decide +kernel
theorem dX1_takeFrom_81 : decode cX1_takeFrom 81 = .ok (.bipush 8, 2) := by decide +kernel
theorem dX1_takeFrom_83 : decode cX1_takeFrom 83 = .ok (.invokestatic 58, 3) := by decide +kernel
theorem dX1_takeFrom_86 : decode cX1_takeFrom 86 = .ok (.aload_n 1, 1) := by decide +kernel
theorem dX1_takeFrom_87 : decode cX1_takeFrom 87 = .ok (.getfield 18, 3) := by decide +kernel
theorem dX1_takeFrom_90 : decode cX1_takeFrom 90 = .ok (.iconst 0, 1) := by decide +kernel
theorem dX1_takeFrom_91 : decode cX1_takeFrom 91 = .ok (.aload_n 0, 1) := by decide +kernel
theorem dX1_takeFrom_92 : decode cX1_takeFrom 92 = .ok (.getfield 18, 3) := by decide +kernel
theorem dX1_takeFrom_95 : decode cX1_takeFrom 95 = .ok (.iconst 0, 1) := by decide +kernel
theorem dX1_takeFrom_96 : decode cX1_takeFrom 96 = .ok (.bipush 8, 2) := by decide +kernel
theorem dX1_takeFrom_98 : decode cX1_takeFrom 98 = .ok (.invokestatic 58, 3) := by decide +kernel
theorem dX1_takeFrom_101 : decode cX1_takeFrom 101 = .ok (.aload_n 1, 1) := by decide +kernel
theorem dX1_takeFrom_102 : decode cX1_takeFrom 102 = .ok (.getfield 21, 3) := by decide +kernel
theorem dX1_takeFrom_105 : decode cX1_takeFrom 105 = .ok (.iconst 0, 1) := by decide +kernel
theorem dX1_takeFrom_106 : decode cX1_takeFrom 106 = .ok (.aload_n 0, 1) := by decide +kernel
theorem dX1_takeFrom_107 : decode cX1_takeFrom 107 = .ok (.getfield 21, 3) := by decide +kernel
theorem dX1_takeFrom_110 : decode cX1_takeFrom 110 = .ok (.iconst 0, 1) := by decide +kernel
theorem dX1_takeFrom_111 : decode cX1_takeFrom 111 = .ok (.bipush 21, 2) := by decide +kernel
theorem dX1_takeFrom_113 : decode cX1_takeFrom 113 = .ok (.invokestatic 58, 3) := by decide +kernel
theorem dX1_takeFrom_116 : decode cX1_takeFrom 116 = .ok (.aload_n 1, 1) := by decide +kernel
theorem dX1_takeFrom_117 : decode cX1_takeFrom 117 = .ok (.getfield 24, 3) := by decide +kernel
theorem dX1_takeFrom_120 : decode cX1_takeFrom 120 = .ok (.iconst 0, 1) := by decide +kernel
theorem dX1_takeFrom_121 : decode cX1_takeFrom 121 = .ok (.aload_n 0, 1) := by decide +kernel
theorem dX1_takeFrom_122 : decode cX1_takeFrom 122 = .ok (.getfield 24, 3) := by decide +kernel
theorem dX1_takeFrom_125 : decode cX1_takeFrom 125 = .ok (.iconst 0, 1) := by decide +kernel
theorem dX1_takeFrom_126 : decode cX1_takeFrom 126 = .ok (.bipush 21, 2) := by decide +kernel
theorem dX1_takeFrom_128 : decode cX1_takeFrom 128 = .ok (.invokestatic 58, 3) := by decide +kernel
theorem dX1_takeFrom_131 : decode cX1_takeFrom 131 = .ok (.return_, 1) := by decide +kernel
theorem dX1_hasWindow_0 : decode cX1_hasWindow 0 = .ok (.iload_n 1, 1) := by decide +kernel
theorem dX1_hasWindow_1 : decode cX1_hasWindow 1 = .ok (.ifCond .lt 15, 3) := by decide +kernel
theorem dX1_hasWindow_4 : decode cX1_hasWindow 4 = .ok (.iload_n 1, 1) := by decide +kernel
theorem dX1_hasWindow_5 : decode cX1_hasWindow 5 = .ok (.aload_n 0, 1) := by decide +kernel
theorem dX1_hasWindow_6 : decode cX1_hasWindow 6 = .ok (.getfield 30, 3) := by decide +kernel
theorem dX1_hasWindow_9 : decode cX1_hasWindow 9 = .ok (.if_icmp .ge 7, 3) := by decide +kernel
theorem dX1_hasWindow_12 : decode cX1_hasWindow 12 = .ok (.iconst 1, 1) := by decide +kernel
theorem dX1_hasWindow_13 : decode cX1_hasWindow 13 = .ok (.goto 4, 3) := by decide +kernel
theorem dX1_hasWindow_16 : decode cX1_hasWindow 16 = .ok (.iconst 0, 1) := by decide +kernel
theorem dX1_hasWindow_17 : decode cX1_hasWindow 17 = .ok (.ireturn, 1) := by decide +kernel
theorem dX1_everyWindow_0 : decode cX1_everyWindow 0 = .ok (.iconst 1, 1) := by decide +kernel
theorem dX1_everyWindow_1 : decode cX1_everyWindow 1 = .ok (.aload_n 0, 1) := by decide +kernel
theorem dX1_everyWindow_2 : decode cX1_everyWindow 2 = .ok (.getfield 30, 3) := by decide +kernel
theorem dX1_everyWindow_5 : decode cX1_everyWindow 5 = .ok (.ishl, 1) := by decide +kernel
theorem dX1_everyWindow_6 : decode cX1_everyWindow 6 = .ok (.iconst 1, 1) := by decide +kernel
theorem dX1_everyWindow_7 : decode cX1_everyWindow 7 = .ok (.isub, 1) := by decide +kernel
theorem dX1_everyWindow_8 : decode cX1_everyWindow 8 = .ok (.ireturn, 1) := by decide +kernel
theorem dX1_hasPair_0 : decode cX1_hasPair 0 = .ok (.lload_n 1, 1) := by decide +kernel
theorem dX1_hasPair_1 : decode cX1_hasPair 1 = .ok (.lconst 0, 1) := by decide +kernel
theorem dX1_hasPair_2 : decode cX1_hasPair 2 = .ok (.lcmp, 1) := by decide +kernel
theorem dX1_hasPair_3 : decode cX1_hasPair 3 = .ok (.ifCond .lt 11, 3) := by decide +kernel
theorem dX1_hasPair_6 : decode cX1_hasPair 6 = .ok (.lload_n 1, 1) := by decide +kernel
theorem dX1_hasPair_7 : decode cX1_hasPair 7 = .ok (.ldc2_w 64, 3) := by decide +kernel
theorem dX1_hasPair_10 : decode cX1_hasPair 10 = .ok (.lcmp, 1) := by decide +kernel
theorem dX1_hasPair_11 : decode cX1_hasPair 11 = .ok (.ifCond .lt 5, 3) := by decide +kernel
theorem dX1_hasPair_14 : decode cX1_hasPair 14 = .ok (.iconst 0, 1) := by decide +kernel
theorem dX1_hasPair_15 : decode cX1_hasPair 15 = .ok (.ireturn, 1) := by decide +kernel
theorem dX1_hasPair_16 : decode cX1_hasPair 16 = .ok (.lload_n 1, 1) := by decide +kernel
theorem dX1_hasPair_17 : decode cX1_hasPair 17 = .ok (.l2i, 1) := by decide +kernel
theorem dX1_hasPair_18 : decode cX1_hasPair 18 = .ok (.istore_n 3, 1) := by decide +kernel
theorem dX1_hasPair_19 : decode cX1_hasPair 19 = .ok (.iload_n 3, 1) := by decide +kernel
theorem dX1_hasPair_20 : decode cX1_hasPair 20 = .ok (.invokestatic 66, 3) := by decide +kernel
theorem dX1_hasPair_23 : decode cX1_hasPair 23 = .ok (.iload_n 3, 1) := by decide +kernel
theorem dX1_hasPair_24 : decode cX1_hasPair 24 = .ok (.invokestatic 70, 3) := by decide +kernel
theorem dX1_hasPair_27 : decode cX1_hasPair 27 = .ok (.if_icmp .ge 18, 3) := by decide +kernel
theorem dX1_hasPair_30 : decode cX1_hasPair 30 = .ok (.iload_n 3, 1) := by decide +kernel
theorem dX1_hasPair_31 : decode cX1_hasPair 31 = .ok (.invokestatic 70, 3) := by decide +kernel
theorem dX1_hasPair_34 : decode cX1_hasPair 34 = .ok (.aload_n 0, 1) := by decide +kernel
theorem dX1_hasPair_35 : decode cX1_hasPair 35 = .ok (.getfield 30, 3) := by decide +kernel
theorem dX1_hasPair_38 : decode cX1_hasPair 38 = .ok (.if_icmp .ge 7, 3) := by decide +kernel
theorem dX1_hasPair_41 : decode cX1_hasPair 41 = .ok (.iconst 1, 1) := by decide +kernel
theorem dX1_hasPair_42 : decode cX1_hasPair 42 = .ok (.goto 4, 3) := by decide +kernel
theorem dX1_hasPair_45 : decode cX1_hasPair 45 = .ok (.iconst 0, 1) := by decide +kernel
theorem dX1_hasPair_46 : decode cX1_hasPair 46 = .ok (.ireturn, 1) := by decide +kernel
theorem dX1_lengthOf_0 : decode cX1_lengthOf 0 = .ok (.iload_n 1, 1) := by decide +kernel
theorem dX1_lengthOf_1 : decode cX1_lengthOf 1 = .ok (.invokestatic 70, 3) := by decide +kernel
theorem dX1_lengthOf_4 : decode cX1_lengthOf 4 = .ok (.iload_n 1, 1) := by decide +kernel
theorem dX1_lengthOf_5 : decode cX1_lengthOf 5 = .ok (.invokestatic 66, 3) := by decide +kernel
theorem dX1_lengthOf_8 : decode cX1_lengthOf 8 = .ok (.isub, 1) := by decide +kernel
theorem dX1_lengthOf_9 : decode cX1_lengthOf 9 = .ok (.istore_n 2, 1) := by decide +kernel
theorem dX1_lengthOf_10 : decode cX1_lengthOf 10 = .ok (.iload_n 2, 1) := by decide +kernel
theorem dX1_lengthOf_11 : decode cX1_lengthOf 11 = .ok (.aload_n 0, 1) := by decide +kernel
theorem dX1_lengthOf_12 : decode cX1_lengthOf 12 = .ok (.getfield 30, 3) := by decide +kernel
theorem dX1_lengthOf_15 : decode cX1_lengthOf 15 = .ok (.iload_n 2, 1) := by decide +kernel
theorem dX1_lengthOf_16 : decode cX1_lengthOf 16 = .ok (.isub, 1) := by decide +kernel
theorem dX1_lengthOf_17 : decode cX1_lengthOf 17 = .ok (.imul, 1) := by decide +kernel
theorem dX1_lengthOf_18 : decode cX1_lengthOf 18 = .ok (.ireturn, 1) := by decide +kernel
theorem dX1_bareLoss_0 : decode cX1_bareLoss 0 = .ok (.aload_n 0, 1) := by decide +kernel
theorem dX1_bareLoss_1 : decode cX1_bareLoss 1 = .ok (.iload_n 1, 1) := by decide +kernel
theorem dX1_bareLoss_2 : decode cX1_bareLoss 2 = .ok (.invokevirtual 73, 3) := by decide +kernel
theorem dX1_bareLoss_5 : decode cX1_bareLoss 5 = .ok (.bipush 10, 2) := by decide +kernel
theorem dX1_bareLoss_7 : decode cX1_bareLoss 7 = .ok (.aload_n 0, 1) := by decide +kernel
theorem dX1_bareLoss_8 : decode cX1_bareLoss 8 = .ok (.getfield 37, 3) := by decide +kernel
theorem dX1_bareLoss_11 : decode cX1_bareLoss 11 = .ok (.iadd, 1) := by decide +kernel
theorem dX1_bareLoss_12 : decode cX1_bareLoss 12 = .ok (.imul, 1) := by decide +kernel
theorem dX1_bareLoss_13 : decode cX1_bareLoss 13 = .ok (.bipush 10, 2) := by decide +kernel
theorem dX1_bareLoss_15 : decode cX1_bareLoss 15 = .ok (.idiv, 1) := by decide +kernel
theorem dX1_bareLoss_16 : decode cX1_bareLoss 16 = .ok (.ireturn, 1) := by decide +kernel
theorem dX1_lossAt_0 : decode cX1_lossAt 0 = .ok (.aload_n 0, 1) := by decide +kernel
theorem dX1_lossAt_1 : decode cX1_lossAt 1 = .ok (.aload_n 0, 1) := by decide +kernel
theorem dX1_lossAt_2 : decode cX1_lossAt 2 = .ok (.getfield 21, 3) := by decide +kernel
theorem dX1_lossAt_5 : decode cX1_lossAt 5 = .ok (.iload_n 1, 1) := by decide +kernel
theorem dX1_lossAt_6 : decode cX1_lossAt 6 = .ok (.iaload, 1) := by decide +kernel
theorem dX1_lossAt_7 : decode cX1_lossAt 7 = .ok (.invokevirtual 76, 3) := by decide +kernel
theorem dX1_lossAt_10 : decode cX1_lossAt 10 = .ok (.iconst 3, 1) := by decide +kernel
theorem dX1_lossAt_11 : decode cX1_lossAt 11 = .ok (.aload_n 0, 1) := by decide +kernel
theorem dX1_lossAt_12 : decode cX1_lossAt 12 = .ok (.getfield 24, 3) := by decide +kernel
theorem dX1_lossAt_15 : decode cX1_lossAt 15 = .ok (.iload_n 1, 1) := by decide +kernel
theorem dX1_lossAt_16 : decode cX1_lossAt 16 = .ok (.iaload, 1) := by decide +kernel
theorem dX1_lossAt_17 : decode cX1_lossAt 17 = .ok (.imul, 1) := by decide +kernel
theorem dX1_lossAt_18 : decode cX1_lossAt 18 = .ok (.iadd, 1) := by decide +kernel
theorem dX1_lossAt_19 : decode cX1_lossAt 19 = .ok (.ireturn, 1) := by decide +kernel
theorem dX1_slackAt_0 : decode cX1_slackAt 0 = .ok (.iconst 0, 1) := by decide +kernel
theorem dX1_slackAt_1 : decode cX1_slackAt 1 = .ok (.istore_n 3, 1) := by decide +kernel
theorem dX1_slackAt_2 : decode cX1_slackAt 2 = .ok (.iload_n 3, 1) := by decide +kernel
theorem dX1_slackAt_3 : decode cX1_slackAt 3 = .ok (.aload_n 0, 1) := by decide +kernel
theorem dX1_slackAt_4 : decode cX1_slackAt 4 = .ok (.getfield 34, 3) := by decide +kernel
theorem dX1_slackAt_7 : decode cX1_slackAt 7 = .ok (.if_icmp .ge 52, 3) := by decide +kernel
theorem dX1_slackAt_10 : decode cX1_slackAt 10 = .ok (.aload_n 0, 1) := by decide +kernel
theorem dX1_slackAt_11 : decode cX1_slackAt 11 = .ok (.getfield 18, 3) := by decide +kernel
theorem dX1_slackAt_14 : decode cX1_slackAt 14 = .ok (.iload_n 3, 1) := by decide +kernel
theorem dX1_slackAt_15 : decode cX1_slackAt 15 = .ok (.iaload, 1) := by decide +kernel
theorem dX1_slackAt_16 : decode cX1_slackAt 16 = .ok (.iload_n 2, 1) := by decide +kernel
theorem dX1_slackAt_17 : decode cX1_slackAt 17 = .ok (.bipush 12, 2) := by decide +kernel
theorem dX1_slackAt_19 : decode cX1_slackAt 19 = .ok (.irem, 1) := by decide +kernel
theorem dX1_slackAt_20 : decode cX1_slackAt 20 = .ok (.ishr, 1) := by decide +kernel
theorem dX1_slackAt_21 : decode cX1_slackAt 21 = .ok (.iconst 1, 1) := by decide +kernel
theorem dX1_slackAt_22 : decode cX1_slackAt 22 = .ok (.iand, 1) := by decide +kernel
theorem dX1_slackAt_23 : decode cX1_slackAt 23 = .ok (.ifCond .eq 7, 3) := by decide +kernel
theorem dX1_slackAt_26 : decode cX1_slackAt 26 = .ok (.iconst 1, 1) := by decide +kernel
theorem dX1_slackAt_27 : decode cX1_slackAt 27 = .ok (.goto 4, 3) := by decide +kernel
theorem dX1_slackAt_30 : decode cX1_slackAt 30 = .ok (.iconst 0, 1) := by decide +kernel
theorem dX1_slackAt_31 : decode cX1_slackAt 31 = .ok (.istore 4, 2) := by decide +kernel
theorem dX1_slackAt_33 : decode cX1_slackAt 33 = .ok (.iload 4, 2) := by decide +kernel
theorem dX1_slackAt_35 : decode cX1_slackAt 35 = .ok (.ifCond .eq 18, 3) := by decide +kernel
theorem dX1_slackAt_38 : decode cX1_slackAt 38 = .ok (.iload_n 1, 1) := by decide +kernel
theorem dX1_slackAt_39 : decode cX1_slackAt 39 = .ok (.aload_n 0, 1) := by decide +kernel
theorem dX1_slackAt_40 : decode cX1_slackAt 40 = .ok (.getfield 15, 3) := by decide +kernel
theorem dX1_slackAt_43 : decode cX1_slackAt 43 = .ok (.iload_n 3, 1) := by decide +kernel
theorem dX1_slackAt_44 : decode cX1_slackAt 44 = .ok (.iaload, 1) := by decide +kernel
theorem dX1_slackAt_45 : decode cX1_slackAt 45 = .ok (.invokestatic 79, 3) := by decide +kernel
theorem dX1_slackAt_48 : decode cX1_slackAt 48 = .ok (.ifCond .eq 5, 3) := by decide +kernel
theorem dX1_slackAt_51 : decode cX1_slackAt 51 = .ok (.iconst 1, 1) := by decide +kernel
theorem dX1_slackAt_52 : decode cX1_slackAt 52 = .ok (.ireturn, 1) := by decide +kernel
theorem dX1_slackAt_53 : decode cX1_slackAt 53 = .ok (.iinc 3 1, 3) := by decide +kernel
theorem dX1_slackAt_56 : decode cX1_slackAt 56 = .ok (.goto (-54), 3) := by decide +kernel
theorem dX1_slackAt_59 : decode cX1_slackAt 59 = .ok (.iconst 0, 1) := by decide +kernel
theorem dX1_slackAt_60 : decode cX1_slackAt 60 = .ok (.ireturn, 1) := by decide +kernel
theorem dX1_indexOf_0 : decode cX1_indexOf 0 = .ok (.iconst 0, 1) := by decide +kernel
theorem dX1_indexOf_1 : decode cX1_indexOf 1 = .ok (.istore_n 2, 1) := by decide +kernel
theorem dX1_indexOf_2 : decode cX1_indexOf 2 = .ok (.iload_n 2, 1) := by decide +kernel
theorem dX1_indexOf_3 : decode cX1_indexOf 3 = .ok (.aload_n 0, 1) := by decide +kernel
theorem dX1_indexOf_4 : decode cX1_indexOf 4 = .ok (.getfield 49, 3) := by decide +kernel
theorem dX1_indexOf_7 : decode cX1_indexOf 7 = .ok (.if_icmp .ge 21, 3) := by decide +kernel
theorem dX1_indexOf_10 : decode cX1_indexOf 10 = .ok (.aload_n 0, 1) := by decide +kernel
theorem dX1_indexOf_11 : decode cX1_indexOf 11 = .ok (.getfield 21, 3) := by decide +kernel
theorem dX1_indexOf_14 : decode cX1_indexOf 14 = .ok (.iload_n 2, 1) := by decide +kernel
theorem dX1_indexOf_15 : decode cX1_indexOf 15 = .ok (.iaload, 1) := by decide +kernel
theorem dX1_indexOf_16 : decode cX1_indexOf 16 = .ok (.iload_n 1, 1) := by decide +kernel
theorem dX1_indexOf_17 : decode cX1_indexOf 17 = .ok (.if_icmp .ne 5, 3) := by decide +kernel
theorem dX1_indexOf_20 : decode cX1_indexOf 20 = .ok (.iload_n 2, 1) := by decide +kernel
theorem dX1_indexOf_21 : decode cX1_indexOf 21 = .ok (.ireturn, 1) := by decide +kernel
theorem dX1_indexOf_22 : decode cX1_indexOf 22 = .ok (.iinc 2 1, 3) := by decide +kernel
theorem dX1_indexOf_25 : decode cX1_indexOf 25 = .ok (.goto (-23), 3) := by decide +kernel
theorem dX1_indexOf_28 : decode cX1_indexOf 28 = .ok (.iconst (-1), 1) := by decide +kernel
theorem dX1_indexOf_29 : decode cX1_indexOf 29 = .ok (.ireturn, 1) := by decide +kernel
theorem dX1_stringsAt_0 : decode cX1_stringsAt 0 = .ok (.iconst 0, 1) := by decide +kernel
theorem dX1_stringsAt_1 : decode cX1_stringsAt 1 = .ok (.istore_n 2, 1) := by decide +kernel
theorem dX1_stringsAt_2 : decode cX1_stringsAt 2 = .ok (.iconst 0, 1) := by decide +kernel
theorem dX1_stringsAt_3 : decode cX1_stringsAt 3 = .ok (.istore_n 3, 1) := by decide +kernel
theorem dX1_stringsAt_4 : decode cX1_stringsAt 4 = .ok (.iload_n 3, 1) := by decide +kernel
theorem dX1_stringsAt_5 : decode cX1_stringsAt 5 = .ok (.aload_n 0, 1) := by decide +kernel
theorem dX1_stringsAt_6 : decode cX1_stringsAt 6 = .ok (.getfield 49, 3) := by decide +kernel
theorem dX1_stringsAt_9 : decode cX1_stringsAt 9 = .ok (.if_icmp .ge 38, 3) := by decide +kernel
theorem dX1_stringsAt_12 : decode cX1_stringsAt 12 = .ok (.aload_n 0, 1) := by decide +kernel
theorem dX1_stringsAt_13 : decode cX1_stringsAt 13 = .ok (.getfield 21, 3) := by decide +kernel
theorem dX1_stringsAt_16 : decode cX1_stringsAt 16 = .ok (.iload_n 3, 1) := by decide +kernel
theorem dX1_stringsAt_17 : decode cX1_stringsAt 17 = .ok (.iaload, 1) := by decide +kernel
theorem dX1_stringsAt_18 : decode cX1_stringsAt 18 = .ok (.invokestatic 66, 3) := by decide +kernel
theorem dX1_stringsAt_21 : decode cX1_stringsAt 21 = .ok (.iload_n 1, 1) := by decide +kernel
theorem dX1_stringsAt_22 : decode cX1_stringsAt 22 = .ok (.if_icmp .eq 16, 3) := by decide +kernel
theorem dX1_stringsAt_25 : decode cX1_stringsAt 25 = .ok (.aload_n 0, 1) := by decide +kernel
theorem dX1_stringsAt_26 : decode cX1_stringsAt 26 = .ok (.getfield 21, 3) := by decide +kernel
theorem dX1_stringsAt_29 : decode cX1_stringsAt 29 = .ok (.iload_n 3, 1) := by decide +kernel
theorem dX1_stringsAt_30 : decode cX1_stringsAt 30 = .ok (.iaload, 1) := by decide +kernel
theorem dX1_stringsAt_31 : decode cX1_stringsAt 31 = .ok (.invokestatic 70, 3) := by decide +kernel
theorem dX1_stringsAt_34 : decode cX1_stringsAt 34 = .ok (.iload_n 1, 1) := by decide +kernel
theorem dX1_stringsAt_35 : decode cX1_stringsAt 35 = .ok (.if_icmp .ne 6, 3) := by decide +kernel
theorem dX1_stringsAt_38 : decode cX1_stringsAt 38 = .ok (.iinc 2 1, 3) := by decide +kernel
theorem dX1_stringsAt_41 : decode cX1_stringsAt 41 = .ok (.iinc 3 1, 3) := by decide +kernel
theorem dX1_stringsAt_44 : decode cX1_stringsAt 44 = .ok (.goto (-40), 3) := by decide +kernel
theorem dX1_stringsAt_47 : decode cX1_stringsAt 47 = .ok (.iload_n 2, 1) := by decide +kernel
theorem dX1_stringsAt_48 : decode cX1_stringsAt 48 = .ok (.ireturn, 1) := by decide +kernel
theorem dX1_whyNot_0 : decode cX1_whyNot 0 = .ok (.aload_n 0, 1) := by decide +kernel
theorem dX1_whyNot_1 : decode cX1_whyNot 1 = .ok (.iload_n 1, 1) := by decide +kernel
theorem dX1_whyNot_2 : decode cX1_whyNot 2 = .ok (.i2l, 1) := by decide +kernel
theorem dX1_whyNot_3 : decode cX1_whyNot 3 = .ok (.invokevirtual 83, 3) := by decide +kernel
theorem dX1_whyNot_6 : decode cX1_whyNot 6 = .ok (.ifCond .ne 5, 3) := by decide +kernel
theorem dX1_whyNot_9 : decode cX1_whyNot 9 = .ok (.iconst 1, 1) := by decide +kernel
theorem dX1_whyNot_10 : decode cX1_whyNot 10 = .ok (.ireturn, 1) := by decide +kernel
theorem dX1_whyNot_11 : decode cX1_whyNot 11 = .ok (.aload_n 0, 1) := by decide +kernel
theorem dX1_whyNot_12 : decode cX1_whyNot 12 = .ok (.iload_n 1, 1) := by decide +kernel
theorem dX1_whyNot_13 : decode cX1_whyNot 13 = .ok (.invokevirtual 87, 3) := by decide +kernel
theorem dX1_whyNot_16 : decode cX1_whyNot 16 = .ok (.iconst (-1), 1) := by decide +kernel
theorem dX1_whyNot_17 : decode cX1_whyNot 17 = .ok (.if_icmp .eq 5, 3) := by decide +kernel
theorem dX1_whyNot_20 : decode cX1_whyNot 20 = .ok (.iconst 2, 1) := by decide +kernel
theorem dX1_whyNot_21 : decode cX1_whyNot 21 = .ok (.ireturn, 1) := by decide +kernel
theorem dX1_whyNot_22 : decode cX1_whyNot 22 = .ok (.iload_n 1, 1) := by decide +kernel
theorem dX1_whyNot_23 : decode cX1_whyNot 23 = .ok (.invokestatic 66, 3) := by decide +kernel
theorem dX1_whyNot_26 : decode cX1_whyNot 26 = .ok (.istore_n 2, 1) := by decide +kernel
theorem dX1_whyNot_27 : decode cX1_whyNot 27 = .ok (.iload_n 1, 1) := by decide +kernel
theorem dX1_whyNot_28 : decode cX1_whyNot 28 = .ok (.invokestatic 70, 3) := by decide +kernel
theorem dX1_whyNot_31 : decode cX1_whyNot 31 = .ok (.istore_n 3, 1) := by decide +kernel
theorem dX1_whyNot_32 : decode cX1_whyNot 32 = .ok (.aload_n 0, 1) := by decide +kernel
theorem dX1_whyNot_33 : decode cX1_whyNot 33 = .ok (.iload_n 2, 1) := by decide +kernel
theorem dX1_whyNot_34 : decode cX1_whyNot 34 = .ok (.invokevirtual 90, 3) := by decide +kernel
theorem dX1_whyNot_37 : decode cX1_whyNot 37 = .ok (.aload_n 0, 1) := by decide +kernel
theorem dX1_whyNot_38 : decode cX1_whyNot 38 = .ok (.getfield 9, 3) := by decide +kernel
theorem dX1_whyNot_41 : decode cX1_whyNot 41 = .ok (.iload_n 2, 1) := by decide +kernel
theorem dX1_whyNot_42 : decode cX1_whyNot 42 = .ok (.iaload, 1) := by decide +kernel
theorem dX1_whyNot_43 : decode cX1_whyNot 43 = .ok (.if_icmp .ge 17, 3) := by decide +kernel
theorem dX1_whyNot_46 : decode cX1_whyNot 46 = .ok (.aload_n 0, 1) := by decide +kernel
theorem dX1_whyNot_47 : decode cX1_whyNot 47 = .ok (.iload_n 3, 1) := by decide +kernel
theorem dX1_whyNot_48 : decode cX1_whyNot 48 = .ok (.invokevirtual 90, 3) := by decide +kernel
theorem dX1_whyNot_51 : decode cX1_whyNot 51 = .ok (.aload_n 0, 1) := by decide +kernel
theorem dX1_whyNot_52 : decode cX1_whyNot 52 = .ok (.getfield 9, 3) := by decide +kernel
theorem dX1_whyNot_55 : decode cX1_whyNot 55 = .ok (.iload_n 3, 1) := by decide +kernel
theorem dX1_whyNot_56 : decode cX1_whyNot 56 = .ok (.iaload, 1) := by decide +kernel
theorem dX1_whyNot_57 : decode cX1_whyNot 57 = .ok (.if_icmp .lt 5, 3) := by decide +kernel
theorem dX1_whyNot_60 : decode cX1_whyNot 60 = .ok (.iconst 3, 1) := by decide +kernel
theorem dX1_whyNot_61 : decode cX1_whyNot 61 = .ok (.ireturn, 1) := by decide +kernel
theorem dX1_whyNot_62 : decode cX1_whyNot 62 = .ok (.iconst 0, 1) := by decide +kernel
theorem dX1_whyNot_63 : decode cX1_whyNot 63 = .ok (.istore 4, 2) := by decide +kernel
theorem dX1_whyNot_65 : decode cX1_whyNot 65 = .ok (.iload 4, 2) := by decide +kernel
theorem dX1_whyNot_67 : decode cX1_whyNot 67 = .ok (.aload_n 0, 1) := by decide +kernel
theorem dX1_whyNot_68 : decode cX1_whyNot 68 = .ok (.getfield 49, 3) := by decide +kernel
theorem dX1_whyNot_71 : decode cX1_whyNot 71 = .ok (.if_icmp .ge 25, 3) := by decide +kernel
theorem dX1_whyNot_74 : decode cX1_whyNot 74 = .ok (.iload_n 1, 1) := by decide +kernel
theorem dX1_whyNot_75 : decode cX1_whyNot 75 = .ok (.aload_n 0, 1) := by decide +kernel
theorem dX1_whyNot_76 : decode cX1_whyNot 76 = .ok (.getfield 21, 3) := by decide +kernel
theorem dX1_whyNot_79 : decode cX1_whyNot 79 = .ok (.iload 4, 2) := by decide +kernel
theorem dX1_whyNot_81 : decode cX1_whyNot 81 = .ok (.iaload, 1) := by decide +kernel
theorem dX1_whyNot_82 : decode cX1_whyNot 82 = .ok (.invokestatic 79, 3) := by decide +kernel
theorem dX1_whyNot_85 : decode cX1_whyNot 85 = .ok (.ifCond .eq 5, 3) := by decide +kernel
theorem dX1_whyNot_88 : decode cX1_whyNot 88 = .ok (.iconst 4, 1) := by decide +kernel
theorem dX1_whyNot_89 : decode cX1_whyNot 89 = .ok (.ireturn, 1) := by decide +kernel
theorem dX1_whyNot_90 : decode cX1_whyNot 90 = .ok (.iinc 4 1, 3) := by decide +kernel
theorem dX1_whyNot_93 : decode cX1_whyNot 93 = .ok (.goto (-28), 3) := by decide +kernel
theorem dX1_whyNot_96 : decode cX1_whyNot 96 = .ok (.iconst 0, 1) := by decide +kernel
theorem dX1_whyNot_97 : decode cX1_whyNot 97 = .ok (.ireturn, 1) := by decide +kernel
theorem dX1_mayBeTaut_0 : decode cX1_mayBeTaut 0 = .ok (.aload_n 0, 1) := by decide +kernel
theorem dX1_mayBeTaut_1 : decode cX1_mayBeTaut 1 = .ok (.iload_n 1, 1) := by decide +kernel
theorem dX1_mayBeTaut_2 : decode cX1_mayBeTaut 2 = .ok (.invokevirtual 93, 3) := by decide +kernel
theorem dX1_mayBeTaut_5 : decode cX1_mayBeTaut 5 = .ok (.ifCond .ne 19, 3) := by decide +kernel
theorem dX1_mayBeTaut_8 : decode cX1_mayBeTaut 8 = .ok (.aload_n 0, 1) := by decide +kernel
theorem dX1_mayBeTaut_9 : decode cX1_mayBeTaut 9 = .ok (.iload_n 1, 1) := by decide +kernel
theorem dX1_mayBeTaut_10 : decode cX1_mayBeTaut 10 = .ok (.aload_n 0, 1) := by decide +kernel
theorem dX1_mayBeTaut_11 : decode cX1_mayBeTaut 11 = .ok (.getfield 46, 3) := by decide +kernel
theorem dX1_mayBeTaut_14 : decode cX1_mayBeTaut 14 = .ok (.invokevirtual 96, 3) := by decide +kernel
theorem dX1_mayBeTaut_17 : decode cX1_mayBeTaut 17 = .ok (.ifCond .ne 7, 3) := by decide +kernel
theorem dX1_mayBeTaut_20 : decode cX1_mayBeTaut 20 = .ok (.iconst 1, 1) := by decide +kernel
theorem dX1_mayBeTaut_21 : decode cX1_mayBeTaut 21 = .ok (.goto 4, 3) := by decide +kernel
theorem dX1_mayBeTaut_24 : decode cX1_mayBeTaut 24 = .ok (.iconst 0, 1) := by decide +kernel
theorem dX1_mayBeTaut_25 : decode cX1_mayBeTaut 25 = .ok (.ireturn, 1) := by decide +kernel
theorem dX1_addString_0 : decode cX1_addString 0 = .ok (.aload_n 0, 1) := by decide +kernel
theorem dX1_addString_1 : decode cX1_addString 1 = .ok (.getfield 49, 3) := by decide +kernel
theorem dX1_addString_4 : decode cX1_addString 4 = .ok (.bipush 21, 2) := by decide +kernel
theorem dX1_addString_6 : decode cX1_addString 6 = .ok (.if_icmp .lt 4, 3) := by decide +kernel
theorem dX1_addString_9 : decode cX1_addString 9 = .ok (.return_, 1) := by decide +kernel
theorem dX1_addString_10 : decode cX1_addString 10 = .ok (.aload_n 0, 1) := by decide +kernel
theorem dX1_addString_11 : decode cX1_addString 11 = .ok (.getfield 49, 3) := by decide +kernel
theorem dX1_addString_14 : decode cX1_addString 14 = .ok (.istore_n 3, 1) := by decide +kernel
theorem dX1_addString_15 : decode cX1_addString 15 = .ok (.aload_n 0, 1) := by decide +kernel
theorem dX1_addString_16 : decode cX1_addString 16 = .ok (.getfield 49, 3) := by decide +kernel
theorem dX1_addString_19 : decode cX1_addString 19 = .ok (.istore 4, 2) := by decide +kernel
theorem dX1_addString_21 : decode cX1_addString 21 = .ok (.iload 4, 2) := by decide +kernel
theorem dX1_addString_23 : decode cX1_addString 23 = .ok (.ifCond .le 59, 3) := by decide +kernel
theorem dX1_addString_26 : decode cX1_addString 26 = .ok (.aload_n 0, 1) := by decide +kernel
theorem dX1_addString_27 : decode cX1_addString 27 = .ok (.getfield 21, 3) := by decide +kernel
theorem dX1_addString_30 : decode cX1_addString 30 = .ok (.iload 4, 2) := by decide +kernel
theorem dX1_addString_32 : decode cX1_addString 32 = .ok (.iconst 1, 1) := by decide +kernel
theorem dX1_addString_33 : decode cX1_addString 33 = .ok (.isub, 1) := by decide +kernel
theorem dX1_addString_34 : decode cX1_addString 34 = .ok (.iaload, 1) := by decide +kernel
theorem dX1_addString_35 : decode cX1_addString 35 = .ok (.iload_n 1, 1) := by decide +kernel
theorem dX1_addString_36 : decode cX1_addString 36 = .ok (.if_icmp .le 46, 3) := by decide +kernel
theorem dX1_addString_39 : decode cX1_addString 39 = .ok (.aload_n 0, 1) := by decide +kernel
theorem dX1_addString_40 : decode cX1_addString 40 = .ok (.getfield 21, 3) := by decide +kernel
theorem dX1_addString_43 : decode cX1_addString 43 = .ok (.iload 4, 2) := by decide +kernel
theorem dX1_addString_45 : decode cX1_addString 45 = .ok (.aload_n 0, 1) := by decide +kernel
theorem dX1_addString_46 : decode cX1_addString 46 = .ok (.getfield 21, 3) := by decide +kernel
theorem dX1_addString_49 : decode cX1_addString 49 = .ok (.iload 4, 2) := by decide +kernel
theorem dX1_addString_51 : decode cX1_addString 51 = .ok (.iconst 1, 1) := by decide +kernel
theorem dX1_addString_52 : decode cX1_addString 52 = .ok (.isub, 1) := by decide +kernel
theorem dX1_addString_53 : decode cX1_addString 53 = .ok (.iaload, 1) := by decide +kernel
theorem dX1_addString_54 : decode cX1_addString 54 = .ok (.iastore, 1) := by decide +kernel
theorem dX1_addString_55 : decode cX1_addString 55 = .ok (.aload_n 0, 1) := by decide +kernel
theorem dX1_addString_56 : decode cX1_addString 56 = .ok (.getfield 24, 3) := by decide +kernel
theorem dX1_addString_59 : decode cX1_addString 59 = .ok (.iload 4, 2) := by decide +kernel
theorem dX1_addString_61 : decode cX1_addString 61 = .ok (.aload_n 0, 1) := by decide +kernel
theorem dX1_addString_62 : decode cX1_addString 62 = .ok (.getfield 24, 3) := by decide +kernel
theorem dX1_addString_65 : decode cX1_addString 65 = .ok (.iload 4, 2) := by decide +kernel
theorem dX1_addString_67 : decode cX1_addString 67 = .ok (.iconst 1, 1) := by decide +kernel
theorem dX1_addString_68 : decode cX1_addString 68 = .ok (.isub, 1) := by decide +kernel
theorem dX1_addString_69 : decode cX1_addString 69 = .ok (.iaload, 1) := by decide +kernel
theorem dX1_addString_70 : decode cX1_addString 70 = .ok (.iastore, 1) := by decide +kernel
theorem dX1_addString_71 : decode cX1_addString 71 = .ok (.iload 4, 2) := by decide +kernel
theorem dX1_addString_73 : decode cX1_addString 73 = .ok (.iconst 1, 1) := by decide +kernel
theorem dX1_addString_74 : decode cX1_addString 74 = .ok (.isub, 1) := by decide +kernel
theorem dX1_addString_75 : decode cX1_addString 75 = .ok (.istore_n 3, 1) := by decide +kernel
theorem dX1_addString_76 : decode cX1_addString 76 = .ok (.iinc 4 (-1), 3) := by decide +kernel
theorem dX1_addString_79 : decode cX1_addString 79 = .ok (.goto (-58), 3) := by decide +kernel
theorem dX1_addString_82 : decode cX1_addString 82 = .ok (.aload_n 0, 1) := by decide +kernel
theorem dX1_addString_83 : decode cX1_addString 83 = .ok (.getfield 21, 3) := by decide +kernel
theorem dX1_addString_86 : decode cX1_addString 86 = .ok (.iload_n 3, 1) := by decide +kernel
theorem dX1_addString_87 : decode cX1_addString 87 = .ok (.iload_n 1, 1) := by decide +kernel
theorem dX1_addString_88 : decode cX1_addString 88 = .ok (.iastore, 1) := by decide +kernel
theorem dX1_addString_89 : decode cX1_addString 89 = .ok (.aload_n 0, 1) := by decide +kernel
theorem dX1_addString_90 : decode cX1_addString 90 = .ok (.getfield 24, 3) := by decide +kernel
theorem dX1_addString_93 : decode cX1_addString 93 = .ok (.iload_n 3, 1) := by decide +kernel
theorem dX1_addString_94 : decode cX1_addString 94 = .ok (.iload_n 2, 1) := by decide +kernel
theorem dX1_addString_95 : decode cX1_addString 95 = .ok (.iastore, 1) := by decide +kernel
theorem dX1_addString_96 : decode cX1_addString 96 = .ok (.aload_n 0, 1) := by decide +kernel
theorem dX1_addString_97 : decode cX1_addString 97 = .ok (.dup, 1) := by decide +kernel
theorem dX1_addString_98 : decode cX1_addString 98 = .ok (.getfield 49, 3) := by decide +kernel
theorem dX1_addString_101 : decode cX1_addString 101 = .ok (.iconst 1, 1) := by decide +kernel
theorem dX1_addString_102 : decode cX1_addString 102 = .ok (.iadd, 1) := by decide +kernel
theorem dX1_addString_103 : decode cX1_addString 103 = .ok (.putfield 49, 3) := by decide +kernel
theorem dX1_addString_106 : decode cX1_addString 106 = .ok (.return_, 1) := by decide +kernel
theorem dX1_removeString_0 : decode cX1_removeString 0 = .ok (.iload_n 1, 1) := by decide +kernel
theorem dX1_removeString_1 : decode cX1_removeString 1 = .ok (.ifCond .lt 11, 3) := by decide +kernel
theorem dX1_removeString_4 : decode cX1_removeString 4 = .ok (.iload_n 1, 1) := by decide +kernel
theorem dX1_removeString_5 : decode cX1_removeString 5 = .ok (.aload_n 0, 1) := by decide +kernel
theorem dX1_removeString_6 : decode cX1_removeString 6 = .ok (.getfield 49, 3) := by decide +kernel
theorem dX1_removeString_9 : decode cX1_removeString 9 = .ok (.if_icmp .lt 4, 3) := by decide +kernel
theorem dX1_removeString_12 : decode cX1_removeString 12 = .ok (.return_, 1) := by decide +kernel
theorem dX1_removeString_13 : decode cX1_removeString 13 = .ok (.iload_n 1, 1) := by decide +kernel
theorem dX1_removeString_14 : decode cX1_removeString 14 = .ok (.iconst 1, 1) := by decide +kernel
theorem dX1_removeString_15 : decode cX1_removeString 15 = .ok (.iadd, 1) := by decide +kernel
theorem dX1_removeString_16 : decode cX1_removeString 16 = .ok (.istore_n 2, 1) := by decide +kernel
theorem dX1_removeString_17 : decode cX1_removeString 17 = .ok (.iload_n 2, 1) := by decide +kernel
theorem dX1_removeString_18 : decode cX1_removeString 18 = .ok (.aload_n 0, 1) := by decide +kernel
theorem dX1_removeString_19 : decode cX1_removeString 19 = .ok (.getfield 49, 3) := by decide +kernel
theorem dX1_removeString_22 : decode cX1_removeString 22 = .ok (.if_icmp .ge 37, 3) := by decide +kernel
theorem dX1_removeString_25 : decode cX1_removeString 25 = .ok (.aload_n 0, 1) := by decide +kernel
theorem dX1_removeString_26 : decode cX1_removeString 26 = .ok (.getfield 21, 3) := by decide +kernel
theorem dX1_removeString_29 : decode cX1_removeString 29 = .ok (.iload_n 2, 1) := by decide +kernel
theorem dX1_removeString_30 : decode cX1_removeString 30 = .ok (.iconst 1, 1) := by decide +kernel
theorem dX1_removeString_31 : decode cX1_removeString 31 = .ok (.isub, 1) := by decide +kernel
theorem dX1_removeString_32 : decode cX1_removeString 32 = .ok (.aload_n 0, 1) := by decide +kernel
theorem dX1_removeString_33 : decode cX1_removeString 33 = .ok (.getfield 21, 3) := by decide +kernel
theorem dX1_removeString_36 : decode cX1_removeString 36 = .ok (.iload_n 2, 1) := by decide +kernel
theorem dX1_removeString_37 : decode cX1_removeString 37 = .ok (.iaload, 1) := by decide +kernel
theorem dX1_removeString_38 : decode cX1_removeString 38 = .ok (.iastore, 1) := by decide +kernel
theorem dX1_removeString_39 : decode cX1_removeString 39 = .ok (.aload_n 0, 1) := by decide +kernel
theorem dX1_removeString_40 : decode cX1_removeString 40 = .ok (.getfield 24, 3) := by decide +kernel
theorem dX1_removeString_43 : decode cX1_removeString 43 = .ok (.iload_n 2, 1) := by decide +kernel
theorem dX1_removeString_44 : decode cX1_removeString 44 = .ok (.iconst 1, 1) := by decide +kernel
theorem dX1_removeString_45 : decode cX1_removeString 45 = .ok (.isub, 1) := by decide +kernel
theorem dX1_removeString_46 : decode cX1_removeString 46 = .ok (.aload_n 0, 1) := by decide +kernel
theorem dX1_removeString_47 : decode cX1_removeString 47 = .ok (.getfield 24, 3) := by decide +kernel
theorem dX1_removeString_50 : decode cX1_removeString 50 = .ok (.iload_n 2, 1) := by decide +kernel
theorem dX1_removeString_51 : decode cX1_removeString 51 = .ok (.iaload, 1) := by decide +kernel
theorem dX1_removeString_52 : decode cX1_removeString 52 = .ok (.iastore, 1) := by decide +kernel
theorem dX1_removeString_53 : decode cX1_removeString 53 = .ok (.iinc 2 1, 3) := by decide +kernel
theorem dX1_removeString_56 : decode cX1_removeString 56 = .ok (.goto (-39), 3) := by decide +kernel
theorem dX1_removeString_59 : decode cX1_removeString 59 = .ok (.aload_n 0, 1) := by decide +kernel
theorem dX1_removeString_60 : decode cX1_removeString 60 = .ok (.dup, 1) := by decide +kernel
theorem dX1_removeString_61 : decode cX1_removeString 61 = .ok (.getfield 49, 3) := by decide +kernel
theorem dX1_removeString_64 : decode cX1_removeString 64 = .ok (.iconst 1, 1) := by decide +kernel
theorem dX1_removeString_65 : decode cX1_removeString 65 = .ok (.isub, 1) := by decide +kernel
theorem dX1_removeString_66 : decode cX1_removeString 66 = .ok (.putfield 49, 3) := by decide +kernel
theorem dX1_removeString_69 : decode cX1_removeString 69 = .ok (.return_, 1) := by decide +kernel
theorem dX1_slackStrings_0 : decode cX1_slackStrings 0 = .ok (.iconst 0, 1) := by decide +kernel
theorem dX1_slackStrings_1 : decode cX1_slackStrings 1 = .ok (.istore_n 1, 1) := by decide +kernel
theorem dX1_slackStrings_2 : decode cX1_slackStrings 2 = .ok (.iconst 0, 1) := by decide +kernel
theorem dX1_slackStrings_3 : decode cX1_slackStrings 3 = .ok (.istore_n 2, 1) := by decide +kernel
theorem dX1_slackStrings_4 : decode cX1_slackStrings 4 = .ok (.iload_n 2, 1) := by decide +kernel
theorem dX1_slackStrings_5 : decode cX1_slackStrings 5 = .ok (.aload_n 0, 1) := by decide +kernel
theorem dX1_slackStrings_6 : decode cX1_slackStrings 6 = .ok (.getfield 49, 3) := by decide +kernel
theorem dX1_slackStrings_9 : decode cX1_slackStrings 9 = .ok (.if_icmp .ge 29, 3) := by decide +kernel
theorem dX1_slackStrings_12 : decode cX1_slackStrings 12 = .ok (.aload_n 0, 1) := by decide +kernel
theorem dX1_slackStrings_13 : decode cX1_slackStrings 13 = .ok (.aload_n 0, 1) := by decide +kernel
theorem dX1_slackStrings_14 : decode cX1_slackStrings 14 = .ok (.getfield 21, 3) := by decide +kernel
theorem dX1_slackStrings_17 : decode cX1_slackStrings 17 = .ok (.iload_n 2, 1) := by decide +kernel
theorem dX1_slackStrings_18 : decode cX1_slackStrings 18 = .ok (.iaload, 1) := by decide +kernel
theorem dX1_slackStrings_19 : decode cX1_slackStrings 19 = .ok (.aload_n 0, 1) := by decide +kernel
theorem dX1_slackStrings_20 : decode cX1_slackStrings 20 = .ok (.getfield 46, 3) := by decide +kernel
theorem dX1_slackStrings_23 : decode cX1_slackStrings 23 = .ok (.invokevirtual 96, 3) := by decide +kernel
theorem dX1_slackStrings_26 : decode cX1_slackStrings 26 = .ok (.ifCond .eq 6, 3) := by decide +kernel
theorem dX1_slackStrings_29 : decode cX1_slackStrings 29 = .ok (.iinc 1 1, 3) := by decide +kernel
theorem dX1_slackStrings_32 : decode cX1_slackStrings 32 = .ok (.iinc 2 1, 3) := by decide +kernel
theorem dX1_slackStrings_35 : decode cX1_slackStrings 35 = .ok (.goto (-31), 3) := by decide +kernel
theorem dX1_slackStrings_38 : decode cX1_slackStrings 38 = .ok (.iload_n 1, 1) := by decide +kernel
theorem dX1_slackStrings_39 : decode cX1_slackStrings 39 = .ok (.ireturn, 1) := by decide +kernel
theorem dX1_lengthOfStrings_0 : decode cX1_lengthOfStrings 0 = .ok (.iconst 0, 1) := by decide +kernel
theorem dX1_lengthOfStrings_1 : decode cX1_lengthOfStrings 1 = .ok (.istore_n 1, 1) := by decide +kernel
theorem dX1_lengthOfStrings_2 : decode cX1_lengthOfStrings 2 = .ok (.iconst 0, 1) := by decide +kernel
theorem dX1_lengthOfStrings_3 : decode cX1_lengthOfStrings 3 = .ok (.istore_n 2, 1) := by decide +kernel
theorem dX1_lengthOfStrings_4 : decode cX1_lengthOfStrings 4 = .ok (.iload_n 2, 1) := by decide +kernel
theorem dX1_lengthOfStrings_5 : decode cX1_lengthOfStrings 5 = .ok (.aload_n 0, 1) := by decide +kernel
theorem dX1_lengthOfStrings_6 : decode cX1_lengthOfStrings 6 = .ok (.getfield 49, 3) := by decide +kernel
theorem dX1_lengthOfStrings_9 : decode cX1_lengthOfStrings 9 = .ok (.if_icmp .ge 22, 3) := by decide +kernel
theorem dX1_lengthOfStrings_12 : decode cX1_lengthOfStrings 12 = .ok (.iload_n 1, 1) := by decide +kernel
theorem dX1_lengthOfStrings_13 : decode cX1_lengthOfStrings 13 = .ok (.aload_n 0, 1) := by decide +kernel
theorem dX1_lengthOfStrings_14 : decode cX1_lengthOfStrings 14 = .ok (.aload_n 0, 1) := by decide +kernel
theorem dX1_lengthOfStrings_15 : decode cX1_lengthOfStrings 15 = .ok (.getfield 21, 3) := by decide +kernel
theorem dX1_lengthOfStrings_18 : decode cX1_lengthOfStrings 18 = .ok (.iload_n 2, 1) := by decide +kernel
theorem dX1_lengthOfStrings_19 : decode cX1_lengthOfStrings 19 = .ok (.iaload, 1) := by decide +kernel
theorem dX1_lengthOfStrings_20 : decode cX1_lengthOfStrings 20 = .ok (.invokevirtual 73, 3) := by decide +kernel
theorem dX1_lengthOfStrings_23 : decode cX1_lengthOfStrings 23 = .ok (.iadd, 1) := by decide +kernel
theorem dX1_lengthOfStrings_24 : decode cX1_lengthOfStrings 24 = .ok (.istore_n 1, 1) := by decide +kernel
theorem dX1_lengthOfStrings_25 : decode cX1_lengthOfStrings 25 = .ok (.iinc 2 1, 3) := by decide +kernel
theorem dX1_lengthOfStrings_28 : decode cX1_lengthOfStrings 28 = .ok (.goto (-24), 3) := by decide +kernel
theorem dX1_lengthOfStrings_31 : decode cX1_lengthOfStrings 31 = .ok (.iload_n 1, 1) := by decide +kernel
theorem dX1_lengthOfStrings_32 : decode cX1_lengthOfStrings 32 = .ok (.ireturn, 1) := by decide +kernel
theorem dX2_init_0 : decode cX2_init 0 = .ok (.aload_n 0, 1) := by decide +kernel
theorem dX2_init_1 : decode cX2_init 1 = .ok (.invokespecial 3, 3) := by decide +kernel
theorem dX2_init_4 : decode cX2_init 4 = .ok (.return_, 1) := by decide +kernel
theorem dX2_seek_0 : decode cX2_seek 0 = .ok (.aload_n 0, 1) := by decide +kernel
theorem dX2_seek_1 : decode cX2_seek 1 = .ok (.iconst (-1), 1) := by decide +kernel
theorem dX2_seek_2 : decode cX2_seek 2 = .ok (.putfield 9, 3) := by decide +kernel
theorem dX2_seek_5 : decode cX2_seek 5 = .ok (.aload_n 0, 1) := by decide +kernel
theorem dX2_seek_6 : decode cX2_seek 6 = .ok (.iconst (-1), 1) := by decide +kernel
theorem dX2_seek_7 : decode cX2_seek 7 = .ok (.putfield 15, 3) := by decide +kernel
theorem dX2_seek_10 : decode cX2_seek 10 = .ok (.aload_n 0, 1) := by decide +kernel
theorem dX2_seek_11 : decode cX2_seek 11 = .ok (.iconst (-1), 1) := by decide +kernel
theorem dX2_seek_12 : decode cX2_seek 12 = .ok (.putfield 18, 3) := by decide +kernel
theorem dX2_seek_15 : decode cX2_seek 15 = .ok (.aload_n 2, 1) := by decide +kernel
theorem dX2_seek_16 : decode cX2_seek 16 = .ok (.iload_n 3, 1) := by decide +kernel
theorem dX2_seek_17 : decode cX2_seek 17 = .ok (.invokevirtual 21, 3) := by decide +kernel
theorem dX2_seek_20 : decode cX2_seek 20 = .ok (.istore 5, 2) := by decide +kernel
theorem dX2_seek_22 : decode cX2_seek 22 = .ok (.iload 5, 2) := by decide +kernel
theorem dX2_seek_24 : decode cX2_seek 24 = .ok (.iload 4, 2) := by decide +kernel
theorem dX2_seek_26 : decode cX2_seek 26 = .ok (.ishr, 1) := by decide +kernel
theorem dX2_seek_27 : decode cX2_seek 27 = .ok (.iconst 1, 1) := by decide +kernel
theorem dX2_seek_28 : decode cX2_seek 28 = .ok (.iand, 1) := by decide +kernel
theorem dX2_seek_29 : decode cX2_seek 29 = .ok (.ifCond .eq 9, 3) := by decide +kernel
theorem dX2_seek_32 : decode cX2_seek 32 = .ok (.aload_n 0, 1) := by decide +kernel
theorem dX2_seek_33 : decode cX2_seek 33 = .ok (.iconst 0, 1) := by decide +kernel
theorem dX2_seek_34 : decode cX2_seek 34 = .ok (.putfield 9, 3) := by decide +kernel
theorem dX2_seek_37 : decode cX2_seek 37 = .ok (.return_, 1) := by decide +kernel
theorem dX2_seek_38 : decode cX2_seek 38 = .ok (.aload_n 0, 1) := by decide +kernel
theorem dX2_seek_39 : decode cX2_seek 39 = .ok (.aload_n 1, 1) := by decide +kernel
theorem dX2_seek_40 : decode cX2_seek 40 = .ok (.iload 5, 2) := by decide +kernel
theorem dX2_seek_42 : decode cX2_seek 42 = .ok (.aload_n 2, 1) := by decide +kernel
theorem dX2_seek_43 : decode cX2_seek 43 = .ok (.iload 4, 2) := by decide +kernel
theorem dX2_seek_45 : decode cX2_seek 45 = .ok (.invokevirtual 21, 3) := by decide +kernel
theorem dX2_seek_48 : decode cX2_seek 48 = .ok (.invokestatic 27, 3) := by decide +kernel
theorem dX2_seek_51 : decode cX2_seek 51 = .ok (.putfield 15, 3) := by decide +kernel
theorem dX2_seek_54 : decode cX2_seek 54 = .ok (.aload_n 0, 1) := by decide +kernel
theorem dX2_seek_55 : decode cX2_seek 55 = .ok (.getfield 15, 3) := by decide +kernel
theorem dX2_seek_58 : decode cX2_seek 58 = .ok (.iconst (-1), 1) := by decide +kernel
theorem dX2_seek_59 : decode cX2_seek 59 = .ok (.if_icmp .eq 9, 3) := by decide +kernel
theorem dX2_seek_62 : decode cX2_seek 62 = .ok (.aload_n 0, 1) := by decide +kernel
theorem dX2_seek_63 : decode cX2_seek 63 = .ok (.iconst 1, 1) := by decide +kernel
theorem dX2_seek_64 : decode cX2_seek 64 = .ok (.putfield 9, 3) := by decide +kernel
theorem dX2_seek_67 : decode cX2_seek 67 = .ok (.return_, 1) := by decide +kernel
theorem dX2_seek_68 : decode cX2_seek 68 = .ok (.aload_n 0, 1) := by decide +kernel
theorem dX2_seek_69 : decode cX2_seek 69 = .ok (.aload_n 1, 1) := by decide +kernel
theorem dX2_seek_70 : decode cX2_seek 70 = .ok (.aload_n 2, 1) := by decide +kernel
theorem dX2_seek_71 : decode cX2_seek 71 = .ok (.iload_n 3, 1) := by decide +kernel
theorem dX2_seek_72 : decode cX2_seek 72 = .ok (.iload 4, 2) := by decide +kernel
theorem dX2_seek_74 : decode cX2_seek 74 = .ok (.invokevirtual 31, 3) := by decide +kernel
theorem dX2_seek_77 : decode cX2_seek 77 = .ok (.return_, 1) := by decide +kernel
theorem dX2_seekTwo_0 : decode cX2_seekTwo 0 = .ok (.iconst 0, 1) := by decide +kernel
theorem dX2_seekTwo_1 : decode cX2_seekTwo 1 = .ok (.istore 5, 2) := by decide +kernel
theorem dX2_seekTwo_3 : decode cX2_seekTwo 3 = .ok (.iload 5, 2) := by decide +kernel
theorem dX2_seekTwo_5 : decode cX2_seekTwo 5 = .ok (.aload_n 1, 1) := by decide +kernel
theorem dX2_seekTwo_6 : decode cX2_seekTwo 6 = .ok (.getfield 35, 3) := by decide +kernel
theorem dX2_seekTwo_9 : decode cX2_seekTwo 9 = .ok (.if_icmp .ge 134, 3) := by decide +kernel
theorem dX2_seekTwo_12 : decode cX2_seekTwo 12 = .ok (.iload 5, 2) := by decide +kernel
theorem dX2_seekTwo_14 : decode cX2_seekTwo 14 = .ok (.iconst 1, 1) := by decide +kernel
theorem dX2_seekTwo_15 : decode cX2_seekTwo 15 = .ok (.iadd, 1) := by decide +kernel
theorem dX2_seekTwo_16 : decode cX2_seekTwo 16 = .ok (.istore 6, 2) := by decide +kernel
theorem dX2_seekTwo_18 : decode cX2_seekTwo 18 = .ok (.iload 6, 2) := by decide +kernel
theorem dX2_seekTwo_20 : decode cX2_seekTwo 20 = .ok (.aload_n 1, 1) := by decide +kernel
theorem dX2_seekTwo_21 : decode cX2_seekTwo 21 = .ok (.getfield 35, 3) := by decide +kernel
theorem dX2_seekTwo_24 : decode cX2_seekTwo 24 = .ok (.if_icmp .ge 113, 3) := by decide +kernel
theorem dX2_seekTwo_27 : decode cX2_seekTwo 27 = .ok (.aload_n 1, 1) := by decide +kernel
theorem dX2_seekTwo_28 : decode cX2_seekTwo 28 = .ok (.iload 5, 2) := by decide +kernel
theorem dX2_seekTwo_30 : decode cX2_seekTwo 30 = .ok (.iload 6, 2) := by decide +kernel
theorem dX2_seekTwo_32 : decode cX2_seekTwo 32 = .ok (.invokestatic 40, 3) := by decide +kernel
theorem dX2_seekTwo_35 : decode cX2_seekTwo 35 = .ok (.invokevirtual 44, 3) := by decide +kernel
theorem dX2_seekTwo_38 : decode cX2_seekTwo 38 = .ok (.ifCond .ne 6, 3) := by decide +kernel
theorem dX2_seekTwo_41 : decode cX2_seekTwo 41 = .ok (.goto 90, 3) := by decide +kernel
theorem dX2_seekTwo_44 : decode cX2_seekTwo 44 = .ok (.aload_n 1, 1) := by decide +kernel
theorem dX2_seekTwo_45 : decode cX2_seekTwo 45 = .ok (.iload 5, 2) := by decide +kernel
theorem dX2_seekTwo_47 : decode cX2_seekTwo 47 = .ok (.iload 6, 2) := by decide +kernel
theorem dX2_seekTwo_49 : decode cX2_seekTwo 49 = .ok (.invokestatic 40, 3) := by decide +kernel
theorem dX2_seekTwo_52 : decode cX2_seekTwo 52 = .ok (.iconst 0, 1) := by decide +kernel
theorem dX2_seekTwo_53 : decode cX2_seekTwo 53 = .ok (.invokevirtual 48, 3) := by decide +kernel
theorem dX2_seekTwo_56 : decode cX2_seekTwo 56 = .ok (.aload_n 2, 1) := by decide +kernel
theorem dX2_seekTwo_57 : decode cX2_seekTwo 57 = .ok (.iload 5, 2) := by decide +kernel
theorem dX2_seekTwo_59 : decode cX2_seekTwo 59 = .ok (.iload 6, 2) := by decide +kernel
theorem dX2_seekTwo_61 : decode cX2_seekTwo 61 = .ok (.invokevirtual 52, 3) := by decide +kernel
theorem dX2_seekTwo_64 : decode cX2_seekTwo 64 = .ok (.aload_n 0, 1) := by decide +kernel
theorem dX2_seekTwo_65 : decode cX2_seekTwo 65 = .ok (.aload_n 1, 1) := by decide +kernel
theorem dX2_seekTwo_66 : decode cX2_seekTwo 66 = .ok (.aload_n 2, 1) := by decide +kernel
theorem dX2_seekTwo_67 : decode cX2_seekTwo 67 = .ok (.iload_n 3, 1) := by decide +kernel
theorem dX2_seekTwo_68 : decode cX2_seekTwo 68 = .ok (.invokevirtual 21, 3) := by decide +kernel
theorem dX2_seekTwo_71 : decode cX2_seekTwo 71 = .ok (.aload_n 2, 1) := by decide +kernel
theorem dX2_seekTwo_72 : decode cX2_seekTwo 72 = .ok (.iload 4, 2) := by decide +kernel
theorem dX2_seekTwo_74 : decode cX2_seekTwo 74 = .ok (.invokevirtual 21, 3) := by decide +kernel
theorem dX2_seekTwo_77 : decode cX2_seekTwo 77 = .ok (.invokestatic 27, 3) := by decide +kernel
theorem dX2_seekTwo_80 : decode cX2_seekTwo 80 = .ok (.putfield 18, 3) := by decide +kernel
theorem dX2_seekTwo_83 : decode cX2_seekTwo 83 = .ok (.aload_n 2, 1) := by decide +kernel
theorem dX2_seekTwo_84 : decode cX2_seekTwo 84 = .ok (.iload 5, 2) := by decide +kernel
theorem dX2_seekTwo_86 : decode cX2_seekTwo 86 = .ok (.iload 6, 2) := by decide +kernel
theorem dX2_seekTwo_88 : decode cX2_seekTwo 88 = .ok (.invokevirtual 55, 3) := by decide +kernel
theorem dX2_seekTwo_91 : decode cX2_seekTwo 91 = .ok (.aload_n 1, 1) := by decide +kernel
theorem dX2_seekTwo_92 : decode cX2_seekTwo 92 = .ok (.aload_n 1, 1) := by decide +kernel
theorem dX2_seekTwo_93 : decode cX2_seekTwo 93 = .ok (.iload 5, 2) := by decide +kernel
theorem dX2_seekTwo_95 : decode cX2_seekTwo 95 = .ok (.iload 6, 2) := by decide +kernel
theorem dX2_seekTwo_97 : decode cX2_seekTwo 97 = .ok (.invokestatic 40, 3) := by decide +kernel
theorem dX2_seekTwo_100 : decode cX2_seekTwo 100 = .ok (.invokevirtual 58, 3) := by decide +kernel
theorem dX2_seekTwo_103 : decode cX2_seekTwo 103 = .ok (.invokevirtual 61, 3) := by decide +kernel
theorem dX2_seekTwo_106 : decode cX2_seekTwo 106 = .ok (.aload_n 0, 1) := by decide +kernel
theorem dX2_seekTwo_107 : decode cX2_seekTwo 107 = .ok (.getfield 18, 3) := by decide +kernel
theorem dX2_seekTwo_110 : decode cX2_seekTwo 110 = .ok (.iconst (-1), 1) := by decide +kernel
theorem dX2_seekTwo_111 : decode cX2_seekTwo 111 = .ok (.if_icmp .eq 20, 3) := by decide +kernel
theorem dX2_seekTwo_114 : decode cX2_seekTwo 114 = .ok (.aload_n 0, 1) := by decide +kernel
theorem dX2_seekTwo_115 : decode cX2_seekTwo 115 = .ok (.iload 5, 2) := by decide +kernel
theorem dX2_seekTwo_117 : decode cX2_seekTwo 117 = .ok (.iload 6, 2) := by decide +kernel
theorem dX2_seekTwo_119 : decode cX2_seekTwo 119 = .ok (.invokestatic 40, 3) := by decide +kernel
theorem dX2_seekTwo_122 : decode cX2_seekTwo 122 = .ok (.putfield 15, 3) := by decide +kernel
theorem dX2_seekTwo_125 : decode cX2_seekTwo 125 = .ok (.aload_n 0, 1) := by decide +kernel
theorem dX2_seekTwo_126 : decode cX2_seekTwo 126 = .ok (.iconst 2, 1) := by decide +kernel
theorem dX2_seekTwo_127 : decode cX2_seekTwo 127 = .ok (.putfield 9, 3) := by decide +kernel
theorem dX2_seekTwo_130 : decode cX2_seekTwo 130 = .ok (.return_, 1) := by decide +kernel
theorem dX2_seekTwo_131 : decode cX2_seekTwo 131 = .ok (.iinc 6 1, 3) := by decide +kernel
theorem dX2_seekTwo_134 : decode cX2_seekTwo 134 = .ok (.goto (-116), 3) := by decide +kernel
theorem dX2_seekTwo_137 : decode cX2_seekTwo 137 = .ok (.iinc 5 1, 3) := by decide +kernel
theorem dX2_seekTwo_140 : decode cX2_seekTwo 140 = .ok (.goto (-137), 3) := by decide +kernel
theorem dX2_seekTwo_143 : decode cX2_seekTwo 143 = .ok (.return_, 1) := by decide +kernel
theorem dX2_firstJoining_0 : decode cX2_firstJoining 0 = .ok (.iconst 0, 1) := by decide +kernel
theorem dX2_firstJoining_1 : decode cX2_firstJoining 1 = .ok (.istore_n 3, 1) := by decide +kernel
theorem dX2_firstJoining_2 : decode cX2_firstJoining 2 = .ok (.iload_n 3, 1) := by decide +kernel
theorem dX2_firstJoining_3 : decode cX2_firstJoining 3 = .ok (.aload_n 0, 1) := by decide +kernel
theorem dX2_firstJoining_4 : decode cX2_firstJoining 4 = .ok (.getfield 35, 3) := by decide +kernel
theorem dX2_firstJoining_7 : decode cX2_firstJoining 7 = .ok (.if_icmp .ge 87, 3) := by decide +kernel
theorem dX2_firstJoining_10 : decode cX2_firstJoining 10 = .ok (.iload_n 3, 1) := by decide +kernel
theorem dX2_firstJoining_11 : decode cX2_firstJoining 11 = .ok (.iconst 1, 1) := by decide +kernel
theorem dX2_firstJoining_12 : decode cX2_firstJoining 12 = .ok (.iadd, 1) := by decide +kernel
theorem dX2_firstJoining_13 : decode cX2_firstJoining 13 = .ok (.istore 4, 2) := by decide +kernel
theorem dX2_firstJoining_15 : decode cX2_firstJoining 15 = .ok (.iload 4, 2) := by decide +kernel
theorem dX2_firstJoining_17 : decode cX2_firstJoining 17 = .ok (.aload_n 0, 1) := by decide +kernel
theorem dX2_firstJoining_18 : decode cX2_firstJoining 18 = .ok (.getfield 35, 3) := by decide +kernel
theorem dX2_firstJoining_21 : decode cX2_firstJoining 21 = .ok (.if_icmp .ge 67, 3) := by decide +kernel
theorem dX2_firstJoining_24 : decode cX2_firstJoining 24 = .ok (.iload_n 1, 1) := by decide +kernel
theorem dX2_firstJoining_25 : decode cX2_firstJoining 25 = .ok (.iload_n 3, 1) := by decide +kernel
theorem dX2_firstJoining_26 : decode cX2_firstJoining 26 = .ok (.ishr, 1) := by decide +kernel
theorem dX2_firstJoining_27 : decode cX2_firstJoining 27 = .ok (.iload_n 2, 1) := by decide +kernel
theorem dX2_firstJoining_28 : decode cX2_firstJoining 28 = .ok (.iload 4, 2) := by decide +kernel
theorem dX2_firstJoining_30 : decode cX2_firstJoining 30 = .ok (.ishr, 1) := by decide +kernel
theorem dX2_firstJoining_31 : decode cX2_firstJoining 31 = .ok (.iand, 1) := by decide +kernel
theorem dX2_firstJoining_32 : decode cX2_firstJoining 32 = .ok (.iconst 1, 1) := by decide +kernel
theorem dX2_firstJoining_33 : decode cX2_firstJoining 33 = .ok (.iand, 1) := by decide +kernel
theorem dX2_firstJoining_34 : decode cX2_firstJoining 34 = .ok (.ifCond .ne 16, 3) := by decide +kernel
theorem dX2_firstJoining_37 : decode cX2_firstJoining 37 = .ok (.iload_n 1, 1) := by decide +kernel
theorem dX2_firstJoining_38 : decode cX2_firstJoining 38 = .ok (.iload 4, 2) := by decide +kernel
theorem dX2_firstJoining_40 : decode cX2_firstJoining 40 = .ok (.ishr, 1) := by decide +kernel
theorem dX2_firstJoining_41 : decode cX2_firstJoining 41 = .ok (.iload_n 2, 1) := by decide +kernel
theorem dX2_firstJoining_42 : decode cX2_firstJoining 42 = .ok (.iload_n 3, 1) := by decide +kernel
theorem dX2_firstJoining_43 : decode cX2_firstJoining 43 = .ok (.ishr, 1) := by decide +kernel
theorem dX2_firstJoining_44 : decode cX2_firstJoining 44 = .ok (.iand, 1) := by decide +kernel
theorem dX2_firstJoining_45 : decode cX2_firstJoining 45 = .ok (.iconst 1, 1) := by decide +kernel
theorem dX2_firstJoining_46 : decode cX2_firstJoining 46 = .ok (.iand, 1) := by decide +kernel
theorem dX2_firstJoining_47 : decode cX2_firstJoining 47 = .ok (.ifCond .eq 7, 3) := by decide +kernel
theorem dX2_firstJoining_50 : decode cX2_firstJoining 50 = .ok (.iconst 1, 1) := by decide +kernel
theorem dX2_firstJoining_51 : decode cX2_firstJoining 51 = .ok (.goto 4, 3) := by decide +kernel
theorem dX2_firstJoining_54 : decode cX2_firstJoining 54 = .ok (.iconst 0, 1) := by decide +kernel
theorem dX2_firstJoining_55 : decode cX2_firstJoining 55 = .ok (.istore 5, 2) := by decide +kernel
theorem dX2_firstJoining_57 : decode cX2_firstJoining 57 = .ok (.iload 5, 2) := by decide +kernel
theorem dX2_firstJoining_59 : decode cX2_firstJoining 59 = .ok (.ifCond .eq 23, 3) := by decide +kernel
theorem dX2_firstJoining_62 : decode cX2_firstJoining 62 = .ok (.aload_n 0, 1) := by decide +kernel
theorem dX2_firstJoining_63 : decode cX2_firstJoining 63 = .ok (.iload_n 3, 1) := by decide +kernel
theorem dX2_firstJoining_64 : decode cX2_firstJoining 64 = .ok (.iload 4, 2) := by decide +kernel
theorem dX2_firstJoining_66 : decode cX2_firstJoining 66 = .ok (.invokestatic 40, 3) := by decide +kernel
theorem dX2_firstJoining_69 : decode cX2_firstJoining 69 = .ok (.invokevirtual 44, 3) := by decide +kernel
theorem dX2_firstJoining_72 : decode cX2_firstJoining 72 = .ok (.ifCond .eq 10, 3) := by decide +kernel
theorem dX2_firstJoining_75 : decode cX2_firstJoining 75 = .ok (.iload_n 3, 1) := by decide +kernel
theorem dX2_firstJoining_76 : decode cX2_firstJoining 76 = .ok (.iload 4, 2) := by decide +kernel
theorem dX2_firstJoining_78 : decode cX2_firstJoining 78 = .ok (.invokestatic 40, 3) := by decide +kernel
theorem dX2_firstJoining_81 : decode cX2_firstJoining 81 = .ok (.ireturn, 1) := by decide +kernel
theorem dX2_firstJoining_82 : decode cX2_firstJoining 82 = .ok (.iinc 4 1, 3) := by decide +kernel
theorem dX2_firstJoining_85 : decode cX2_firstJoining 85 = .ok (.goto (-70), 3) := by decide +kernel
theorem dX2_firstJoining_88 : decode cX2_firstJoining 88 = .ok (.iinc 3 1, 3) := by decide +kernel
theorem dX2_firstJoining_91 : decode cX2_firstJoining 91 = .ok (.goto (-89), 3) := by decide +kernel
theorem dX2_firstJoining_94 : decode cX2_firstJoining 94 = .ok (.iconst (-1), 1) := by decide +kernel
theorem dX2_firstJoining_95 : decode cX2_firstJoining 95 = .ok (.ireturn, 1) := by decide +kernel
theorem dX3_init_0 : decode cX3_init 0 = .ok (.aload_n 0, 1) := by decide +kernel
theorem dX3_init_1 : decode cX3_init 1 = .ok (.invokespecial 3, 3) := by decide +kernel
theorem dX3_init_4 : decode cX3_init 4 = .ok (.aload_n 0, 1) := by decide +kernel
theorem dX3_init_5 : decode cX3_init 5 = .ok (.sipush 900, 3) := by decide +kernel
theorem dX3_init_8 : decode cX3_init 8 = .ok (.newarray .byte, 2) := by decide +kernel
theorem dX3_init_10 : decode cX3_init 10 = .ok (.putfield 9, 3) := by decide +kernel
theorem dX3_init_13 : decode cX3_init 13 = .ok (.aload_n 0, 1) := by decide +kernel
theorem dX3_init_14 : decode cX3_init 14 = .ok (.iconst (-1), 1) := by decide +kernel
theorem dX3_init_15 : decode cX3_init 15 = .ok (.putfield 15, 3) := by decide +kernel
theorem dX3_init_18 : decode cX3_init 18 = .ok (.return_, 1) := by decide +kernel
theorem dX3_putOnTape_0 : decode cX3_putOnTape 0 = .ok (.bipush 24, 2) := by decide +kernel
theorem dX3_putOnTape_2 : decode cX3_putOnTape 2 = .ok (.istore_n 2, 1) := by decide +kernel
theorem dX3_putOnTape_3 : decode cX3_putOnTape 3 = .ok (.iload_n 2, 1) := by decide +kernel
theorem dX3_putOnTape_4 : decode cX3_putOnTape 4 = .ok (.ifCond .lt 42, 3) := by decide +kernel
theorem dX3_putOnTape_7 : decode cX3_putOnTape 7 = .ok (.aload_n 0, 1) := by decide +kernel
theorem dX3_putOnTape_8 : decode cX3_putOnTape 8 = .ok (.getfield 19, 3) := by decide +kernel
theorem dX3_putOnTape_11 : decode cX3_putOnTape 11 = .ok (.sipush 900, 3) := by decide +kernel
theorem dX3_putOnTape_14 : decode cX3_putOnTape 14 = .ok (.if_icmp .ge 32, 3) := by decide +kernel
theorem dX3_putOnTape_17 : decode cX3_putOnTape 17 = .ok (.aload_n 0, 1) := by decide +kernel
theorem dX3_putOnTape_18 : decode cX3_putOnTape 18 = .ok (.getfield 9, 3) := by decide +kernel
theorem dX3_putOnTape_21 : decode cX3_putOnTape 21 = .ok (.aload_n 0, 1) := by decide +kernel
theorem dX3_putOnTape_22 : decode cX3_putOnTape 22 = .ok (.getfield 19, 3) := by decide +kernel
theorem dX3_putOnTape_25 : decode cX3_putOnTape 25 = .ok (.iload_n 1, 1) := by decide +kernel
theorem dX3_putOnTape_26 : decode cX3_putOnTape 26 = .ok (.iload_n 2, 1) := by decide +kernel
theorem dX3_putOnTape_27 : decode cX3_putOnTape 27 = .ok (.iushr, 1) := by decide +kernel
theorem dX3_putOnTape_28 : decode cX3_putOnTape 28 = .ok (.i2b, 1) := by decide +kernel
theorem dX3_putOnTape_29 : decode cX3_putOnTape 29 = .ok (.bastore, 1) := by decide +kernel
theorem dX3_putOnTape_30 : decode cX3_putOnTape 30 = .ok (.aload_n 0, 1) := by decide +kernel
theorem dX3_putOnTape_31 : decode cX3_putOnTape 31 = .ok (.dup, 1) := by decide +kernel
theorem dX3_putOnTape_32 : decode cX3_putOnTape 32 = .ok (.getfield 19, 3) := by decide +kernel
theorem dX3_putOnTape_35 : decode cX3_putOnTape 35 = .ok (.iconst 1, 1) := by decide +kernel
theorem dX3_putOnTape_36 : decode cX3_putOnTape 36 = .ok (.iadd, 1) := by decide +kernel
theorem dX3_putOnTape_37 : decode cX3_putOnTape 37 = .ok (.putfield 19, 3) := by decide +kernel
theorem dX3_putOnTape_40 : decode cX3_putOnTape 40 = .ok (.iinc 2 (-8), 3) := by decide +kernel
theorem dX3_putOnTape_43 : decode cX3_putOnTape 43 = .ok (.goto (-40), 3) := by decide +kernel
theorem dX3_putOnTape_46 : decode cX3_putOnTape 46 = .ok (.return_, 1) := by decide +kernel
theorem dX3_readTape_0 : decode cX3_readTape 0 = .ok (.aload_n 1, 1) := by decide +kernel
theorem dX3_readTape_1 : decode cX3_readTape 1 = .ok (.invokevirtual 22, 3) := by decide +kernel
theorem dX3_readTape_4 : decode cX3_readTape 4 = .ok (.aload_n 0, 1) := by decide +kernel
theorem dX3_readTape_5 : decode cX3_readTape 5 = .ok (.iload_n 2, 1) := by decide +kernel
theorem dX3_readTape_6 : decode cX3_readTape 6 = .ok (.aload_n 0, 1) := by decide +kernel
theorem dX3_readTape_7 : decode cX3_readTape 7 = .ok (.getfield 19, 3) := by decide +kernel
theorem dX3_readTape_10 : decode cX3_readTape 10 = .ok (.invokestatic 27, 3) := by decide +kernel
theorem dX3_readTape_13 : decode cX3_readTape 13 = .ok (.putfield 33, 3) := by decide +kernel
theorem dX3_readTape_16 : decode cX3_readTape 16 = .ok (.aload_n 0, 1) := by decide +kernel
theorem dX3_readTape_17 : decode cX3_readTape 17 = .ok (.iconst 0, 1) := by decide +kernel
theorem dX3_readTape_18 : decode cX3_readTape 18 = .ok (.putfield 19, 3) := by decide +kernel
theorem dX3_readTape_21 : decode cX3_readTape 21 = .ok (.aload_n 0, 1) := by decide +kernel
theorem dX3_readTape_22 : decode cX3_readTape 22 = .ok (.iconst 0, 1) := by decide +kernel
theorem dX3_readTape_23 : decode cX3_readTape 23 = .ok (.putfield 36, 3) := by decide +kernel
theorem dX3_readTape_26 : decode cX3_readTape 26 = .ok (.aload_n 0, 1) := by decide +kernel
theorem dX3_readTape_27 : decode cX3_readTape 27 = .ok (.iconst 0, 1) := by decide +kernel
theorem dX3_readTape_28 : decode cX3_readTape 28 = .ok (.putfield 39, 3) := by decide +kernel
theorem dX3_readTape_31 : decode cX3_readTape 31 = .ok (.aload_n 0, 1) := by decide +kernel
theorem dX3_readTape_32 : decode cX3_readTape 32 = .ok (.iconst (-1), 1) := by decide +kernel
theorem dX3_readTape_33 : decode cX3_readTape 33 = .ok (.putfield 15, 3) := by decide +kernel
theorem dX3_readTape_36 : decode cX3_readTape 36 = .ok (.aload_n 0, 1) := by decide +kernel
theorem dX3_readTape_37 : decode cX3_readTape 37 = .ok (.invokevirtual 42, 3) := by decide +kernel
theorem dX3_readTape_40 : decode cX3_readTape 40 = .ok (.iconst 0, 1) := by decide +kernel
theorem dX3_readTape_41 : decode cX3_readTape 41 = .ok (.istore_n 3, 1) := by decide +kernel
theorem dX3_readTape_42 : decode cX3_readTape 42 = .ok (.iload_n 3, 1) := by decide +kernel
theorem dX3_readTape_43 : decode cX3_readTape 43 = .ok (.aload_n 0, 1) := by decide +kernel
theorem dX3_readTape_44 : decode cX3_readTape 44 = .ok (.getfield 33, 3) := by decide +kernel
theorem dX3_readTape_47 : decode cX3_readTape 47 = .ok (.if_icmp .ge 50, 3) := by decide +kernel
theorem dX3_readTape_50 : decode cX3_readTape 50 = .ok (.aload_n 0, 1) := by decide +kernel
theorem dX3_readTape_51 : decode cX3_readTape 51 = .ok (.getfield 39, 3) := by decide +kernel
theorem dX3_readTape_54 : decode cX3_readTape 54 = .ok (.ifCond .ne 43, 3) := by decide +kernel
theorem dX3_readTape_57 : decode cX3_readTape 57 = .ok (.aload_n 0, 1) := by decide +kernel
theorem dX3_readTape_58 : decode cX3_readTape 58 = .ok (.getfield 45, 3) := by decide +kernel
theorem dX3_readTape_61 : decode cX3_readTape 61 = .ok (.iconst 5, 1) := by decide +kernel
theorem dX3_readTape_62 : decode cX3_readTape 62 = .ok (.if_icmp .eq 35, 3) := by decide +kernel
theorem dX3_readTape_65 : decode cX3_readTape 65 = .ok (.aload_n 0, 1) := by decide +kernel
theorem dX3_readTape_66 : decode cX3_readTape 66 = .ok (.aload_n 1, 1) := by decide +kernel
theorem dX3_readTape_67 : decode cX3_readTape 67 = .ok (.invokevirtual 48, 3) := by decide +kernel
theorem dX3_readTape_70 : decode cX3_readTape 70 = .ok (.aload_n 0, 1) := by decide +kernel
theorem dX3_readTape_71 : decode cX3_readTape 71 = .ok (.getfield 39, 3) := by decide +kernel
theorem dX3_readTape_74 : decode cX3_readTape 74 = .ok (.ifCond .ne 17, 3) := by decide +kernel
theorem dX3_readTape_77 : decode cX3_readTape 77 = .ok (.aload_n 1, 1) := by decide +kernel
theorem dX3_readTape_78 : decode cX3_readTape 78 = .ok (.dup, 1) := by decide +kernel
theorem dX3_readTape_79 : decode cX3_readTape 79 = .ok (.getfield 52, 3) := by decide +kernel
theorem dX3_readTape_82 : decode cX3_readTape 82 = .ok (.iconst 1, 1) := by decide +kernel
theorem dX3_readTape_83 : decode cX3_readTape 83 = .ok (.iadd, 1) := by decide +kernel
theorem dX3_readTape_84 : decode cX3_readTape 84 = .ok (.putfield 52, 3) := by decide +kernel
theorem dX3_readTape_87 : decode cX3_readTape 87 = .ok (.aload_n 0, 1) := by decide +kernel
theorem dX3_readTape_88 : decode cX3_readTape 88 = .ok (.invokevirtual 42, 3) := by decide +kernel
theorem dX3_readTape_91 : decode cX3_readTape 91 = .ok (.iinc 3 1, 3) := by decide +kernel
theorem dX3_readTape_94 : decode cX3_readTape 94 = .ok (.goto (-52), 3) := by decide +kernel
theorem dX3_readTape_97 : decode cX3_readTape 97 = .ok (.return_, 1) := by decide +kernel
theorem dX3_readLine_0 : decode cX3_readLine 0 = .ok (.aload_n 0, 1) := by decide +kernel
theorem dX3_readLine_1 : decode cX3_readLine 1 = .ok (.ldc 55, 2) := by decide +kernel
theorem dX3_readLine_3 : decode cX3_readLine 3 = .ok (.invokevirtual 57, 3) := by decide +kernel
theorem dX3_readLine_6 : decode cX3_readLine 6 = .ok (.istore_n 2, 1) := by decide +kernel
theorem dX3_readLine_7 : decode cX3_readLine 7 = .ok (.iload_n 2, 1) := by decide +kernel
theorem dX3_readLine_8 : decode cX3_readLine 8 = .ok (.ifCond .eq 18, 3) := by decide +kernel
theorem dX3_readLine_11 : decode cX3_readLine 11 = .ok (.aload_n 1, 1) := by decide +kernel
theorem dX3_readLine_12 : decode cX3_readLine 12 = .ok (.getfield 61, 3) := by decide +kernel
theorem dX3_readLine_15 : decode cX3_readLine 15 = .ok (.ifCond .le 11, 3) := by decide +kernel
theorem dX3_readLine_18 : decode cX3_readLine 18 = .ok (.aload_n 0, 1) := by decide +kernel
theorem dX3_readLine_19 : decode cX3_readLine 19 = .ok (.iconst 4, 1) := by decide +kernel
theorem dX3_readLine_20 : decode cX3_readLine 20 = .ok (.invokevirtual 63, 3) := by decide +kernel
theorem dX3_readLine_23 : decode cX3_readLine 23 = .ok (.goto 141, 3) := by decide +kernel
theorem dX3_readLine_26 : decode cX3_readLine 26 = .ok (.iload_n 2, 1) := by decide +kernel
theorem dX3_readLine_27 : decode cX3_readLine 27 = .ok (.ifCond .eq 11, 3) := by decide +kernel
theorem dX3_readLine_30 : decode cX3_readLine 30 = .ok (.aload_n 0, 1) := by decide +kernel
theorem dX3_readLine_31 : decode cX3_readLine 31 = .ok (.aload_n 1, 1) := by decide +kernel
theorem dX3_readLine_32 : decode cX3_readLine 32 = .ok (.invokevirtual 67, 3) := by decide +kernel
theorem dX3_readLine_35 : decode cX3_readLine 35 = .ok (.goto 129, 3) := by decide +kernel
theorem dX3_readLine_38 : decode cX3_readLine 38 = .ok (.aload_n 1, 1) := by decide +kernel
theorem dX3_readLine_39 : decode cX3_readLine 39 = .ok (.getfield 61, 3) := by decide +kernel
theorem dX3_readLine_42 : decode cX3_readLine 42 = .ok (.ifCond .ne 11, 3) := by decide +kernel
theorem dX3_readLine_45 : decode cX3_readLine 45 = .ok (.aload_n 0, 1) := by decide +kernel
theorem dX3_readLine_46 : decode cX3_readLine 46 = .ok (.iconst 2, 1) := by decide +kernel
theorem dX3_readLine_47 : decode cX3_readLine 47 = .ok (.invokevirtual 63, 3) := by decide +kernel
theorem dX3_readLine_50 : decode cX3_readLine 50 = .ok (.goto 114, 3) := by decide +kernel
theorem dX3_readLine_53 : decode cX3_readLine 53 = .ok (.aload_n 0, 1) := by decide +kernel
theorem dX3_readLine_54 : decode cX3_readLine 54 = .ok (.ldc 70, 2) := by decide +kernel
theorem dX3_readLine_56 : decode cX3_readLine 56 = .ok (.invokevirtual 57, 3) := by decide +kernel
theorem dX3_readLine_59 : decode cX3_readLine 59 = .ok (.ifCond .eq 11, 3) := by decide +kernel
theorem dX3_readLine_62 : decode cX3_readLine 62 = .ok (.aload_n 0, 1) := by decide +kernel
theorem dX3_readLine_63 : decode cX3_readLine 63 = .ok (.aload_n 1, 1) := by decide +kernel
theorem dX3_readLine_64 : decode cX3_readLine 64 = .ok (.invokevirtual 72, 3) := by decide +kernel
theorem dX3_readLine_67 : decode cX3_readLine 67 = .ok (.goto 97, 3) := by decide +kernel
theorem dX3_readLine_70 : decode cX3_readLine 70 = .ok (.aload_n 0, 1) := by decide +kernel
theorem dX3_readLine_71 : decode cX3_readLine 71 = .ok (.ldc 75, 2) := by decide +kernel
theorem dX3_readLine_73 : decode cX3_readLine 73 = .ok (.invokevirtual 57, 3) := by decide +kernel
theorem dX3_readLine_76 : decode cX3_readLine 76 = .ok (.ifCond .eq 11, 3) := by decide +kernel
theorem dX3_readLine_79 : decode cX3_readLine 79 = .ok (.aload_n 0, 1) := by decide +kernel
theorem dX3_readLine_80 : decode cX3_readLine 80 = .ok (.aload_n 1, 1) := by decide +kernel
theorem dX3_readLine_81 : decode cX3_readLine 81 = .ok (.invokevirtual 77, 3) := by decide +kernel
theorem dX3_readLine_84 : decode cX3_readLine 84 = .ok (.goto 80, 3) := by decide +kernel
theorem dX3_readLine_87 : decode cX3_readLine 87 = .ok (.aload_n 0, 1) := by decide +kernel
theorem dX3_readLine_88 : decode cX3_readLine 88 = .ok (.ldc 80, 2) := by decide +kernel
theorem dX3_readLine_90 : decode cX3_readLine 90 = .ok (.invokevirtual 57, 3) := by decide +kernel
theorem dX3_readLine_93 : decode cX3_readLine 93 = .ok (.ifCond .eq 21, 3) := by decide +kernel
theorem dX3_readLine_96 : decode cX3_readLine 96 = .ok (.aload_n 1, 1) := by decide +kernel
theorem dX3_readLine_97 : decode cX3_readLine 97 = .ok (.aload_n 0, 1) := by decide +kernel
theorem dX3_readLine_98 : decode cX3_readLine 98 = .ok (.iconst 0, 1) := by decide +kernel
theorem dX3_readLine_99 : decode cX3_readLine 99 = .ok (.bipush 20, 2) := by decide +kernel
theorem dX3_readLine_101 : decode cX3_readLine 101 = .ok (.invokevirtual 82, 3) := by decide +kernel
theorem dX3_readLine_104 : decode cX3_readLine 104 = .ok (.putfield 85, 3) := by decide +kernel
theorem dX3_readLine_107 : decode cX3_readLine 107 = .ok (.aload_n 0, 1) := by decide +kernel
theorem dX3_readLine_108 : decode cX3_readLine 108 = .ok (.invokevirtual 87, 3) := by decide +kernel
theorem dX3_readLine_111 : decode cX3_readLine 111 = .ok (.goto 53, 3) := by decide +kernel
theorem dX3_readLine_114 : decode cX3_readLine 114 = .ok (.aload_n 0, 1) := by decide +kernel
theorem dX3_readLine_115 : decode cX3_readLine 115 = .ok (.ldc 90, 2) := by decide +kernel
theorem dX3_readLine_117 : decode cX3_readLine 117 = .ok (.invokevirtual 57, 3) := by decide +kernel
theorem dX3_readLine_120 : decode cX3_readLine 120 = .ok (.ifCond .eq 22, 3) := by decide +kernel
theorem dX3_readLine_123 : decode cX3_readLine 123 = .ok (.aload_n 1, 1) := by decide +kernel
theorem dX3_readLine_124 : decode cX3_readLine 124 = .ok (.aload_n 0, 1) := by decide +kernel
theorem dX3_readLine_125 : decode cX3_readLine 125 = .ok (.iconst 1, 1) := by decide +kernel
theorem dX3_readLine_126 : decode cX3_readLine 126 = .ok (.sipush 999, 3) := by decide +kernel
theorem dX3_readLine_129 : decode cX3_readLine 129 = .ok (.invokevirtual 82, 3) := by decide +kernel
theorem dX3_readLine_132 : decode cX3_readLine 132 = .ok (.putfield 92, 3) := by decide +kernel
theorem dX3_readLine_135 : decode cX3_readLine 135 = .ok (.aload_n 0, 1) := by decide +kernel
theorem dX3_readLine_136 : decode cX3_readLine 136 = .ok (.invokevirtual 87, 3) := by decide +kernel
theorem dX3_readLine_139 : decode cX3_readLine 139 = .ok (.goto 25, 3) := by decide +kernel
theorem dX3_readLine_142 : decode cX3_readLine 142 = .ok (.aload_n 0, 1) := by decide +kernel
theorem dX3_readLine_143 : decode cX3_readLine 143 = .ok (.ldc 94, 2) := by decide +kernel
theorem dX3_readLine_145 : decode cX3_readLine 145 = .ok (.invokevirtual 57, 3) := by decide +kernel
theorem dX3_readLine_148 : decode cX3_readLine 148 = .ok (.ifCond .eq 11, 3) := by decide +kernel
theorem dX3_readLine_151 : decode cX3_readLine 151 = .ok (.aload_n 0, 1) := by decide +kernel
theorem dX3_readLine_152 : decode cX3_readLine 152 = .ok (.aload_n 1, 1) := by decide +kernel
theorem dX3_readLine_153 : decode cX3_readLine 153 = .ok (.invokevirtual 96, 3) := by decide +kernel
theorem dX3_readLine_156 : decode cX3_readLine 156 = .ok (.goto 8, 3) := by decide +kernel
theorem dX3_readLine_159 : decode cX3_readLine 159 = .ok (.aload_n 0, 1) := by decide +kernel
theorem dX3_readLine_160 : decode cX3_readLine 160 = .ok (.iconst 2, 1) := by decide +kernel
theorem dX3_readLine_161 : decode cX3_readLine 161 = .ok (.invokevirtual 63, 3) := by decide +kernel
theorem dX3_readLine_164 : decode cX3_readLine 164 = .ok (.return_, 1) := by decide +kernel
theorem dX3_readWindows_0 : decode cX3_readWindows 0 = .ok (.aload_n 1, 1) := by decide +kernel
theorem dX3_readWindows_1 : decode cX3_readWindows 1 = .ok (.aload_n 0, 1) := by decide +kernel
theorem dX3_readWindows_2 : decode cX3_readWindows 2 = .ok (.iconst 3, 1) := by decide +kernel
theorem dX3_readWindows_3 : decode cX3_readWindows 3 = .ok (.bipush 12, 2) := by decide +kernel
theorem dX3_readWindows_5 : decode cX3_readWindows 5 = .ok (.invokevirtual 82, 3) := by decide +kernel
theorem dX3_readWindows_8 : decode cX3_readWindows 8 = .ok (.putfield 61, 3) := by decide +kernel
theorem dX3_readWindows_11 : decode cX3_readWindows 11 = .ok (.aload_n 0, 1) := by decide +kernel
theorem dX3_readWindows_12 : decode cX3_readWindows 12 = .ok (.invokevirtual 87, 3) := by decide +kernel
theorem dX3_readWindows_15 : decode cX3_readWindows 15 = .ok (.return_, 1) := by decide +kernel
theorem dX3_readCans_0 : decode cX3_readCans 0 = .ok (.aload_n 0, 1) := by decide +kernel
theorem dX3_readCans_1 : decode cX3_readCans 1 = .ok (.iconst 0, 1) := by decide +kernel
theorem dX3_readCans_2 : decode cX3_readCans 2 = .ok (.aload_n 1, 1) := by decide +kernel
theorem dX3_readCans_3 : decode cX3_readCans 3 = .ok (.getfield 61, 3) := by decide +kernel
theorem dX3_readCans_6 : decode cX3_readCans 6 = .ok (.iconst 1, 1) := by decide +kernel
theorem dX3_readCans_7 : decode cX3_readCans 7 = .ok (.isub, 1) := by decide +kernel
theorem dX3_readCans_8 : decode cX3_readCans 8 = .ok (.invokevirtual 82, 3) := by decide +kernel
theorem dX3_readCans_11 : decode cX3_readCans 11 = .ok (.istore_n 2, 1) := by decide +kernel
theorem dX3_readCans_12 : decode cX3_readCans 12 = .ok (.aload_n 0, 1) := by decide +kernel
theorem dX3_readCans_13 : decode cX3_readCans 13 = .ok (.iconst 0, 1) := by decide +kernel
theorem dX3_readCans_14 : decode cX3_readCans 14 = .ok (.bipush 11, 2) := by decide +kernel
theorem dX3_readCans_16 : decode cX3_readCans 16 = .ok (.invokevirtual 82, 3) := by decide +kernel
theorem dX3_readCans_19 : decode cX3_readCans 19 = .ok (.istore_n 3, 1) := by decide +kernel
theorem dX3_readCans_20 : decode cX3_readCans 20 = .ok (.aload_n 0, 1) := by decide +kernel
theorem dX3_readCans_21 : decode cX3_readCans 21 = .ok (.invokevirtual 87, 3) := by decide +kernel
theorem dX3_readCans_24 : decode cX3_readCans 24 = .ok (.aload_n 0, 1) := by decide +kernel
theorem dX3_readCans_25 : decode cX3_readCans 25 = .ok (.getfield 39, 3) := by decide +kernel
theorem dX3_readCans_28 : decode cX3_readCans 28 = .ok (.ifCond .ne 10, 3) := by decide +kernel
theorem dX3_readCans_31 : decode cX3_readCans 31 = .ok (.aload_n 1, 1) := by decide +kernel
theorem dX3_readCans_32 : decode cX3_readCans 32 = .ok (.getfield 99, 3) := by decide +kernel
theorem dX3_readCans_35 : decode cX3_readCans 35 = .ok (.iload_n 2, 1) := by decide +kernel
theorem dX3_readCans_36 : decode cX3_readCans 36 = .ok (.iload_n 3, 1) := by decide +kernel
theorem dX3_readCans_37 : decode cX3_readCans 37 = .ok (.iastore, 1) := by decide +kernel
theorem dX3_readCans_38 : decode cX3_readCans 38 = .ok (.return_, 1) := by decide +kernel
theorem dX3_readWash_0 : decode cX3_readWash 0 = .ok (.aload_n 1, 1) := by decide +kernel
theorem dX3_readWash_1 : decode cX3_readWash 1 = .ok (.getfield 102, 3) := by decide +kernel
theorem dX3_readWash_4 : decode cX3_readWash 4 = .ok (.bipush 8, 2) := by decide +kernel
theorem dX3_readWash_6 : decode cX3_readWash 6 = .ok (.if_icmp .lt 9, 3) := by decide +kernel
theorem dX3_readWash_9 : decode cX3_readWash 9 = .ok (.aload_n 0, 1) := by decide +kernel
theorem dX3_readWash_10 : decode cX3_readWash 10 = .ok (.iconst 4, 1) := by decide +kernel
theorem dX3_readWash_11 : decode cX3_readWash 11 = .ok (.invokevirtual 63, 3) := by decide +kernel
theorem dX3_readWash_14 : decode cX3_readWash 14 = .ok (.return_, 1) := by decide +kernel
theorem dX3_readWash_15 : decode cX3_readWash 15 = .ok (.aload_n 0, 1) := by decide +kernel
theorem dX3_readWash_16 : decode cX3_readWash 16 = .ok (.iconst 0, 1) := by decide +kernel
theorem dX3_readWash_17 : decode cX3_readWash 17 = .ok (.aload_n 1, 1) := by decide +kernel
theorem dX3_readWash_18 : decode cX3_readWash 18 = .ok (.getfield 61, 3) := by decide +kernel
theorem dX3_readWash_21 : decode cX3_readWash 21 = .ok (.iconst 1, 1) := by decide +kernel
theorem dX3_readWash_22 : decode cX3_readWash 22 = .ok (.isub, 1) := by decide +kernel
theorem dX3_readWash_23 : decode cX3_readWash 23 = .ok (.invokevirtual 82, 3) := by decide +kernel
theorem dX3_readWash_26 : decode cX3_readWash 26 = .ok (.istore_n 2, 1) := by decide +kernel
theorem dX3_readWash_27 : decode cX3_readWash 27 = .ok (.aload_n 0, 1) := by decide +kernel
theorem dX3_readWash_28 : decode cX3_readWash 28 = .ok (.iconst 0, 1) := by decide +kernel
theorem dX3_readWash_29 : decode cX3_readWash 29 = .ok (.aload_n 1, 1) := by decide +kernel
theorem dX3_readWash_30 : decode cX3_readWash 30 = .ok (.getfield 61, 3) := by decide +kernel
theorem dX3_readWash_33 : decode cX3_readWash 33 = .ok (.iconst 1, 1) := by decide +kernel
theorem dX3_readWash_34 : decode cX3_readWash 34 = .ok (.isub, 1) := by decide +kernel
theorem dX3_readWash_35 : decode cX3_readWash 35 = .ok (.invokevirtual 82, 3) := by decide +kernel
theorem dX3_readWash_38 : decode cX3_readWash 38 = .ok (.istore_n 3, 1) := by decide +kernel
theorem dX3_readWash_39 : decode cX3_readWash 39 = .ok (.aload_n 0, 1) := by decide +kernel
theorem dX3_readWash_40 : decode cX3_readWash 40 = .ok (.aload_n 1, 1) := by decide +kernel
theorem dX3_readWash_41 : decode cX3_readWash 41 = .ok (.iload_n 2, 1) := by decide +kernel
theorem dX3_readWash_42 : decode cX3_readWash 42 = .ok (.iload_n 3, 1) := by decide +kernel
theorem dX3_readWash_43 : decode cX3_readWash 43 = .ok (.iconst 2, 1) := by decide +kernel
theorem dX3_readWash_44 : decode cX3_readWash 44 = .ok (.invokevirtual 105, 3) := by decide +kernel
theorem dX3_readWash_47 : decode cX3_readWash 47 = .ok (.aload_n 0, 1) := by decide +kernel
theorem dX3_readWash_48 : decode cX3_readWash 48 = .ok (.iconst 0, 1) := by decide +kernel
theorem dX3_readWash_49 : decode cX3_readWash 49 = .ok (.sipush 4095, 3) := by decide +kernel
theorem dX3_readWash_52 : decode cX3_readWash 52 = .ok (.invokevirtual 82, 3) := by decide +kernel
theorem dX3_readWash_55 : decode cX3_readWash 55 = .ok (.istore 4, 2) := by decide +kernel
theorem dX3_readWash_57 : decode cX3_readWash 57 = .ok (.aload_n 0, 1) := by decide +kernel
theorem dX3_readWash_58 : decode cX3_readWash 58 = .ok (.invokevirtual 87, 3) := by decide +kernel
theorem dX3_readWash_61 : decode cX3_readWash 61 = .ok (.aload_n 0, 1) := by decide +kernel
theorem dX3_readWash_62 : decode cX3_readWash 62 = .ok (.getfield 39, 3) := by decide +kernel
theorem dX3_readWash_65 : decode cX3_readWash 65 = .ok (.ifCond .ne 38, 3) := by decide +kernel
theorem dX3_readWash_68 : decode cX3_readWash 68 = .ok (.aload_n 1, 1) := by decide +kernel
theorem dX3_readWash_69 : decode cX3_readWash 69 = .ok (.getfield 109, 3) := by decide +kernel
theorem dX3_readWash_72 : decode cX3_readWash 72 = .ok (.aload_n 1, 1) := by decide +kernel
theorem dX3_readWash_73 : decode cX3_readWash 73 = .ok (.getfield 102, 3) := by decide +kernel
theorem dX3_readWash_76 : decode cX3_readWash 76 = .ok (.iload_n 2, 1) := by decide +kernel
theorem dX3_readWash_77 : decode cX3_readWash 77 = .ok (.iload_n 3, 1) := by decide +kernel
theorem dX3_readWash_78 : decode cX3_readWash 78 = .ok (.invokestatic 112, 3) := by decide +kernel
theorem dX3_readWash_81 : decode cX3_readWash 81 = .ok (.iastore, 1) := by decide +kernel
theorem dX3_readWash_82 : decode cX3_readWash 82 = .ok (.aload_n 1, 1) := by decide +kernel
theorem dX3_readWash_83 : decode cX3_readWash 83 = .ok (.getfield 115, 3) := by decide +kernel
theorem dX3_readWash_86 : decode cX3_readWash 86 = .ok (.aload_n 1, 1) := by decide +kernel
theorem dX3_readWash_87 : decode cX3_readWash 87 = .ok (.getfield 102, 3) := by decide +kernel
theorem dX3_readWash_90 : decode cX3_readWash 90 = .ok (.iload 4, 2) := by decide +kernel
theorem dX3_readWash_92 : decode cX3_readWash 92 = .ok (.iastore, 1) := by decide +kernel
theorem dX3_readWash_93 : decode cX3_readWash 93 = .ok (.aload_n 1, 1) := by decide +kernel
theorem dX3_readWash_94 : decode cX3_readWash 94 = .ok (.dup, 1) := by decide +kernel
theorem dX3_readWash_95 : decode cX3_readWash 95 = .ok (.getfield 102, 3) := by decide +kernel
theorem dX3_readWash_98 : decode cX3_readWash 98 = .ok (.iconst 1, 1) := by decide +kernel
theorem dX3_readWash_99 : decode cX3_readWash 99 = .ok (.iadd, 1) := by decide +kernel
theorem dX3_readWash_100 : decode cX3_readWash 100 = .ok (.putfield 102, 3) := by decide +kernel
theorem dX3_readWash_103 : decode cX3_readWash 103 = .ok (.return_, 1) := by decide +kernel
theorem dX3_readString_0 : decode cX3_readString 0 = .ok (.aload_n 0, 1) := by decide +kernel
theorem dX3_readString_1 : decode cX3_readString 1 = .ok (.iconst 0, 1) := by decide +kernel
theorem dX3_readString_2 : decode cX3_readString 2 = .ok (.aload_n 1, 1) := by decide +kernel
theorem dX3_readString_3 : decode cX3_readString 3 = .ok (.getfield 61, 3) := by decide +kernel
theorem dX3_readString_6 : decode cX3_readString 6 = .ok (.iconst 1, 1) := by decide +kernel
theorem dX3_readString_7 : decode cX3_readString 7 = .ok (.isub, 1) := by decide +kernel
theorem dX3_readString_8 : decode cX3_readString 8 = .ok (.invokevirtual 82, 3) := by decide +kernel
theorem dX3_readString_11 : decode cX3_readString 11 = .ok (.istore_n 2, 1) := by decide +kernel
theorem dX3_readString_12 : decode cX3_readString 12 = .ok (.aload_n 0, 1) := by decide +kernel
theorem dX3_readString_13 : decode cX3_readString 13 = .ok (.iconst 0, 1) := by decide +kernel
theorem dX3_readString_14 : decode cX3_readString 14 = .ok (.aload_n 1, 1) := by decide +kernel
theorem dX3_readString_15 : decode cX3_readString 15 = .ok (.getfield 61, 3) := by decide +kernel
theorem dX3_readString_18 : decode cX3_readString 18 = .ok (.iconst 1, 1) := by decide +kernel
theorem dX3_readString_19 : decode cX3_readString 19 = .ok (.isub, 1) := by decide +kernel
theorem dX3_readString_20 : decode cX3_readString 20 = .ok (.invokevirtual 82, 3) := by decide +kernel
theorem dX3_readString_23 : decode cX3_readString 23 = .ok (.istore_n 3, 1) := by decide +kernel
theorem dX3_readString_24 : decode cX3_readString 24 = .ok (.aload_n 0, 1) := by decide +kernel
theorem dX3_readString_25 : decode cX3_readString 25 = .ok (.aload_n 1, 1) := by decide +kernel
theorem dX3_readString_26 : decode cX3_readString 26 = .ok (.iload_n 2, 1) := by decide +kernel
theorem dX3_readString_27 : decode cX3_readString 27 = .ok (.iload_n 3, 1) := by decide +kernel
theorem dX3_readString_28 : decode cX3_readString 28 = .ok (.iconst 1, 1) := by decide +kernel
theorem dX3_readString_29 : decode cX3_readString 29 = .ok (.invokevirtual 105, 3) := by decide +kernel
theorem dX3_readString_32 : decode cX3_readString 32 = .ok (.aload_n 0, 1) := by decide +kernel
theorem dX3_readString_33 : decode cX3_readString 33 = .ok (.invokevirtual 42, 3) := by decide +kernel
theorem dX3_readString_36 : decode cX3_readString 36 = .ok (.iconst 0, 1) := by decide +kernel
theorem dX3_readString_37 : decode cX3_readString 37 = .ok (.istore 4, 2) := by decide +kernel
theorem dX3_readString_39 : decode cX3_readString 39 = .ok (.aload_n 0, 1) := by decide +kernel
theorem dX3_readString_40 : decode cX3_readString 40 = .ok (.ldc 118, 2) := by decide +kernel
theorem dX3_readString_42 : decode cX3_readString 42 = .ok (.invokevirtual 57, 3) := by decide +kernel
theorem dX3_readString_45 : decode cX3_readString 45 = .ok (.ifCond .eq 16, 3) := by decide +kernel
theorem dX3_readString_48 : decode cX3_readString 48 = .ok (.aload_n 0, 1) := by decide +kernel
theorem dX3_readString_49 : decode cX3_readString 49 = .ok (.iconst 0, 1) := by decide +kernel
theorem dX3_readString_50 : decode cX3_readString 50 = .ok (.bipush 9, 2) := by decide +kernel
theorem dX3_readString_52 : decode cX3_readString 52 = .ok (.invokevirtual 82, 3) := by decide +kernel
theorem dX3_readString_55 : decode cX3_readString 55 = .ok (.istore 4, 2) := by decide +kernel
theorem dX3_readString_57 : decode cX3_readString 57 = .ok (.aload_n 0, 1) := by decide +kernel
theorem dX3_readString_58 : decode cX3_readString 58 = .ok (.invokevirtual 42, 3) := by decide +kernel
theorem dX3_readString_61 : decode cX3_readString 61 = .ok (.aload_n 0, 1) := by decide +kernel
theorem dX3_readString_62 : decode cX3_readString 62 = .ok (.invokevirtual 120, 3) := by decide +kernel
theorem dX3_readString_65 : decode cX3_readString 65 = .ok (.aload_n 1, 1) := by decide +kernel
theorem dX3_readString_66 : decode cX3_readString 66 = .ok (.iload_n 2, 1) := by decide +kernel
theorem dX3_readString_67 : decode cX3_readString 67 = .ok (.iload_n 3, 1) := by decide +kernel
theorem dX3_readString_68 : decode cX3_readString 68 = .ok (.invokestatic 112, 3) := by decide +kernel
theorem dX3_readString_71 : decode cX3_readString 71 = .ok (.invokevirtual 123, 3) := by decide +kernel
theorem dX3_readString_74 : decode cX3_readString 74 = .ok (.ifCond .eq 8, 3) := by decide +kernel
theorem dX3_readString_77 : decode cX3_readString 77 = .ok (.aload_n 0, 1) := by decide +kernel
theorem dX3_readString_78 : decode cX3_readString 78 = .ok (.iconst 5, 1) := by decide +kernel
theorem dX3_readString_79 : decode cX3_readString 79 = .ok (.invokevirtual 63, 3) := by decide +kernel
theorem dX3_readString_82 : decode cX3_readString 82 = .ok (.aload_n 0, 1) := by decide +kernel
theorem dX3_readString_83 : decode cX3_readString 83 = .ok (.getfield 39, 3) := by decide +kernel
theorem dX3_readString_86 : decode cX3_readString 86 = .ok (.ifCond .ne 14, 3) := by decide +kernel
theorem dX3_readString_89 : decode cX3_readString 89 = .ok (.aload_n 1, 1) := by decide +kernel
theorem dX3_readString_90 : decode cX3_readString 90 = .ok (.iload_n 2, 1) := by decide +kernel
theorem dX3_readString_91 : decode cX3_readString 91 = .ok (.iload_n 3, 1) := by decide +kernel
theorem dX3_readString_92 : decode cX3_readString 92 = .ok (.invokestatic 112, 3) := by decide +kernel
theorem dX3_readString_95 : decode cX3_readString 95 = .ok (.iload 4, 2) := by decide +kernel
theorem dX3_readString_97 : decode cX3_readString 97 = .ok (.invokevirtual 127, 3) := by decide +kernel
theorem dX3_readString_100 : decode cX3_readString 100 = .ok (.return_, 1) := by decide +kernel
theorem dX3_readNumber_0 : decode cX3_readNumber 0 = .ok (.aload_n 0, 1) := by decide +kernel
theorem dX3_readNumber_1 : decode cX3_readNumber 1 = .ok (.invokevirtual 42, 3) := by decide +kernel
theorem dX3_readNumber_4 : decode cX3_readNumber 4 = .ok (.aload_n 0, 1) := by decide +kernel
theorem dX3_readNumber_5 : decode cX3_readNumber 5 = .ok (.getfield 45, 3) := by decide +kernel
theorem dX3_readNumber_8 : decode cX3_readNumber 8 = .ok (.iconst 1, 1) := by decide +kernel
theorem dX3_readNumber_9 : decode cX3_readNumber 9 = .ok (.if_icmp .eq 11, 3) := by decide +kernel
theorem dX3_readNumber_12 : decode cX3_readNumber 12 = .ok (.aload_n 0, 1) := by decide +kernel
theorem dX3_readNumber_13 : decode cX3_readNumber 13 = .ok (.iconst 2, 1) := by decide +kernel
theorem dX3_readNumber_14 : decode cX3_readNumber 14 = .ok (.invokevirtual 63, 3) := by decide +kernel
theorem dX3_readNumber_17 : decode cX3_readNumber 17 = .ok (.goto 24, 3) := by decide +kernel
theorem dX3_readNumber_20 : decode cX3_readNumber 20 = .ok (.aload_n 0, 1) := by decide +kernel
theorem dX3_readNumber_21 : decode cX3_readNumber 21 = .ok (.getfield 131, 3) := by decide +kernel
theorem dX3_readNumber_24 : decode cX3_readNumber 24 = .ok (.iload_n 1, 1) := by decide +kernel
theorem dX3_readNumber_25 : decode cX3_readNumber 25 = .ok (.if_icmp .lt 11, 3) := by decide +kernel
theorem dX3_readNumber_28 : decode cX3_readNumber 28 = .ok (.aload_n 0, 1) := by decide +kernel
theorem dX3_readNumber_29 : decode cX3_readNumber 29 = .ok (.getfield 131, 3) := by decide +kernel
theorem dX3_readNumber_32 : decode cX3_readNumber 32 = .ok (.iload_n 2, 1) := by decide +kernel
theorem dX3_readNumber_33 : decode cX3_readNumber 33 = .ok (.if_icmp .le 8, 3) := by decide +kernel
theorem dX3_readNumber_36 : decode cX3_readNumber 36 = .ok (.aload_n 0, 1) := by decide +kernel
theorem dX3_readNumber_37 : decode cX3_readNumber 37 = .ok (.iconst 3, 1) := by decide +kernel
theorem dX3_readNumber_38 : decode cX3_readNumber 38 = .ok (.invokevirtual 63, 3) := by decide +kernel
theorem dX3_readNumber_41 : decode cX3_readNumber 41 = .ok (.aload_n 0, 1) := by decide +kernel
theorem dX3_readNumber_42 : decode cX3_readNumber 42 = .ok (.getfield 39, 3) := by decide +kernel
theorem dX3_readNumber_45 : decode cX3_readNumber 45 = .ok (.ifCond .ne 10, 3) := by decide +kernel
theorem dX3_readNumber_48 : decode cX3_readNumber 48 = .ok (.aload_n 0, 1) := by decide +kernel
theorem dX3_readNumber_49 : decode cX3_readNumber 49 = .ok (.getfield 131, 3) := by decide +kernel
theorem dX3_readNumber_52 : decode cX3_readNumber 52 = .ok (.goto 4, 3) := by decide +kernel
theorem dX3_readNumber_55 : decode cX3_readNumber 55 = .ok (.iconst 0, 1) := by decide +kernel
theorem dX3_readNumber_56 : decode cX3_readNumber 56 = .ok (.ireturn, 1) := by decide +kernel
theorem dX3_readSemicolon_0 : decode cX3_readSemicolon 0 = .ok (.aload_n 0, 1) := by decide +kernel
theorem dX3_readSemicolon_1 : decode cX3_readSemicolon 1 = .ok (.invokevirtual 42, 3) := by decide +kernel
theorem dX3_readSemicolon_4 : decode cX3_readSemicolon 4 = .ok (.aload_n 0, 1) := by decide +kernel
theorem dX3_readSemicolon_5 : decode cX3_readSemicolon 5 = .ok (.invokevirtual 120, 3) := by decide +kernel
theorem dX3_readSemicolon_8 : decode cX3_readSemicolon 8 = .ok (.return_, 1) := by decide +kernel
theorem dX3_wantSemicolon_0 : decode cX3_wantSemicolon 0 = .ok (.aload_n 0, 1) := by decide +kernel
theorem dX3_wantSemicolon_1 : decode cX3_wantSemicolon 1 = .ok (.getfield 45, 3) := by decide +kernel
theorem dX3_wantSemicolon_4 : decode cX3_wantSemicolon 4 = .ok (.iconst 2, 1) := by decide +kernel
theorem dX3_wantSemicolon_5 : decode cX3_wantSemicolon 5 = .ok (.if_icmp .eq 8, 3) := by decide +kernel
theorem dX3_wantSemicolon_8 : decode cX3_wantSemicolon 8 = .ok (.aload_n 0, 1) := by decide +kernel
theorem dX3_wantSemicolon_9 : decode cX3_wantSemicolon 9 = .ok (.iconst 2, 1) := by decide +kernel
theorem dX3_wantSemicolon_10 : decode cX3_wantSemicolon 10 = .ok (.invokevirtual 63, 3) := by decide +kernel
theorem dX3_wantSemicolon_13 : decode cX3_wantSemicolon 13 = .ok (.return_, 1) := by decide +kernel
theorem dX3_wantSteps_0 : decode cX3_wantSteps 0 = .ok (.iload_n 2, 1) := by decide +kernel
theorem dX3_wantSteps_1 : decode cX3_wantSteps 1 = .ok (.iload_n 3, 1) := by decide +kernel
theorem dX3_wantSteps_2 : decode cX3_wantSteps 2 = .ok (.isub, 1) := by decide +kernel
theorem dX3_wantSteps_3 : decode cX3_wantSteps 3 = .ok (.invokestatic 134, 3) := by decide +kernel
theorem dX3_wantSteps_6 : decode cX3_wantSteps 6 = .ok (.istore 5, 2) := by decide +kernel
theorem dX3_wantSteps_8 : decode cX3_wantSteps 8 = .ok (.iload 5, 2) := by decide +kernel
theorem dX3_wantSteps_10 : decode cX3_wantSteps 10 = .ok (.aload_n 1, 1) := by decide +kernel
theorem dX3_wantSteps_11 : decode cX3_wantSteps 11 = .ok (.getfield 61, 3) := by decide +kernel
theorem dX3_wantSteps_14 : decode cX3_wantSteps 14 = .ok (.iload 5, 2) := by decide +kernel
theorem dX3_wantSteps_16 : decode cX3_wantSteps 16 = .ok (.isub, 1) := by decide +kernel
theorem dX3_wantSteps_17 : decode cX3_wantSteps 17 = .ok (.invokestatic 27, 3) := by decide +kernel
theorem dX3_wantSteps_20 : decode cX3_wantSteps 20 = .ok (.iload 4, 2) := by decide +kernel
theorem dX3_wantSteps_22 : decode cX3_wantSteps 22 = .ok (.if_icmp .ge 8, 3) := by decide +kernel
theorem dX3_wantSteps_25 : decode cX3_wantSteps 25 = .ok (.aload_n 0, 1) := by decide +kernel
theorem dX3_wantSteps_26 : decode cX3_wantSteps 26 = .ok (.iconst 3, 1) := by decide +kernel
theorem dX3_wantSteps_27 : decode cX3_wantSteps 27 = .ok (.invokevirtual 63, 3) := by decide +kernel
theorem dX3_wantSteps_30 : decode cX3_wantSteps 30 = .ok (.return_, 1) := by decide +kernel
theorem dX3_refuse_0 : decode cX3_refuse 0 = .ok (.aload_n 0, 1) := by decide +kernel
theorem dX3_refuse_1 : decode cX3_refuse 1 = .ok (.getfield 39, 3) := by decide +kernel
theorem dX3_refuse_4 : decode cX3_refuse 4 = .ok (.ifCond .ne 16, 3) := by decide +kernel
theorem dX3_refuse_7 : decode cX3_refuse 7 = .ok (.aload_n 0, 1) := by decide +kernel
theorem dX3_refuse_8 : decode cX3_refuse 8 = .ok (.iload_n 1, 1) := by decide +kernel
theorem dX3_refuse_9 : decode cX3_refuse 9 = .ok (.putfield 39, 3) := by decide +kernel
theorem dX3_refuse_12 : decode cX3_refuse 12 = .ok (.aload_n 0, 1) := by decide +kernel
theorem dX3_refuse_13 : decode cX3_refuse 13 = .ok (.aload_n 0, 1) := by decide +kernel
theorem dX3_refuse_14 : decode cX3_refuse 14 = .ok (.getfield 137, 3) := by decide +kernel
theorem dX3_refuse_17 : decode cX3_refuse 17 = .ok (.putfield 15, 3) := by decide +kernel
theorem dX3_refuse_20 : decode cX3_refuse 20 = .ok (.return_, 1) := by decide +kernel
theorem dX3_nextToken_0 : decode cX3_nextToken 0 = .ok (.aload_n 0, 1) := by decide +kernel
theorem dX3_nextToken_1 : decode cX3_nextToken 1 = .ok (.getfield 39, 3) := by decide +kernel
theorem dX3_nextToken_4 : decode cX3_nextToken 4 = .ok (.ifCond .eq 4, 3) := by decide +kernel
theorem dX3_nextToken_7 : decode cX3_nextToken 7 = .ok (.return_, 1) := by decide +kernel
theorem dX3_nextToken_8 : decode cX3_nextToken 8 = .ok (.aload_n 0, 1) := by decide +kernel
theorem dX3_nextToken_9 : decode cX3_nextToken 9 = .ok (.getfield 36, 3) := by decide +kernel
theorem dX3_nextToken_12 : decode cX3_nextToken 12 = .ok (.istore_n 1, 1) := by decide +kernel
theorem dX3_nextToken_13 : decode cX3_nextToken 13 = .ok (.iload_n 1, 1) := by decide +kernel
theorem dX3_nextToken_14 : decode cX3_nextToken 14 = .ok (.aload_n 0, 1) := by decide +kernel
theorem dX3_nextToken_15 : decode cX3_nextToken 15 = .ok (.getfield 33, 3) := by decide +kernel
theorem dX3_nextToken_18 : decode cX3_nextToken 18 = .ok (.if_icmp .ge 29, 3) := by decide +kernel
theorem dX3_nextToken_21 : decode cX3_nextToken 21 = .ok (.aload_n 0, 1) := by decide +kernel
theorem dX3_nextToken_22 : decode cX3_nextToken 22 = .ok (.getfield 9, 3) := by decide +kernel
theorem dX3_nextToken_25 : decode cX3_nextToken 25 = .ok (.iload_n 1, 1) := by decide +kernel
theorem dX3_nextToken_26 : decode cX3_nextToken 26 = .ok (.baload, 1) := by decide +kernel
theorem dX3_nextToken_27 : decode cX3_nextToken 27 = .ok (.invokestatic 140, 3) := by decide +kernel
theorem dX3_nextToken_30 : decode cX3_nextToken 30 = .ok (.iconst 3, 1) := by decide +kernel
theorem dX3_nextToken_31 : decode cX3_nextToken 31 = .ok (.if_icmp .ne 16, 3) := by decide +kernel
theorem dX3_nextToken_34 : decode cX3_nextToken 34 = .ok (.aload_n 0, 1) := by decide +kernel
theorem dX3_nextToken_35 : decode cX3_nextToken 35 = .ok (.iload_n 1, 1) := by decide +kernel
theorem dX3_nextToken_36 : decode cX3_nextToken 36 = .ok (.iconst 1, 1) := by decide +kernel
theorem dX3_nextToken_37 : decode cX3_nextToken 37 = .ok (.iadd, 1) := by decide +kernel
theorem dX3_nextToken_38 : decode cX3_nextToken 38 = .ok (.putfield 36, 3) := by decide +kernel
theorem dX3_nextToken_41 : decode cX3_nextToken 41 = .ok (.iinc 1 1, 3) := by decide +kernel
theorem dX3_nextToken_44 : decode cX3_nextToken 44 = .ok (.goto (-31), 3) := by decide +kernel
theorem dX3_nextToken_47 : decode cX3_nextToken 47 = .ok (.aload_n 0, 1) := by decide +kernel
theorem dX3_nextToken_48 : decode cX3_nextToken 48 = .ok (.aload_n 0, 1) := by decide +kernel
theorem dX3_nextToken_49 : decode cX3_nextToken 49 = .ok (.getfield 36, 3) := by decide +kernel
theorem dX3_nextToken_52 : decode cX3_nextToken 52 = .ok (.putfield 137, 3) := by decide +kernel
theorem dX3_nextToken_55 : decode cX3_nextToken 55 = .ok (.aload_n 0, 1) := by decide +kernel
theorem dX3_nextToken_56 : decode cX3_nextToken 56 = .ok (.aload_n 0, 1) := by decide +kernel
theorem dX3_nextToken_57 : decode cX3_nextToken 57 = .ok (.getfield 36, 3) := by decide +kernel
theorem dX3_nextToken_60 : decode cX3_nextToken 60 = .ok (.aload_n 0, 1) := by decide +kernel
theorem dX3_nextToken_61 : decode cX3_nextToken 61 = .ok (.getfield 33, 3) := by decide +kernel
theorem dX3_nextToken_64 : decode cX3_nextToken 64 = .ok (.if_icmp .ge 18, 3) := by decide +kernel
theorem dX3_nextToken_67 : decode cX3_nextToken 67 = .ok (.aload_n 0, 1) := by decide +kernel
theorem dX3_nextToken_68 : decode cX3_nextToken 68 = .ok (.getfield 9, 3) := by decide +kernel
theorem dX3_nextToken_71 : decode cX3_nextToken 71 = .ok (.aload_n 0, 1) := by decide +kernel
theorem dX3_nextToken_72 : decode cX3_nextToken 72 = .ok (.getfield 36, 3) := by decide +kernel
theorem dX3_nextToken_75 : decode cX3_nextToken 75 = .ok (.baload, 1) := by decide +kernel
theorem dX3_nextToken_76 : decode cX3_nextToken 76 = .ok (.invokestatic 140, 3) := by decide +kernel
theorem dX3_nextToken_79 : decode cX3_nextToken 79 = .ok (.goto 4, 3) := by decide +kernel
theorem dX3_nextToken_82 : decode cX3_nextToken 82 = .ok (.iconst 5, 1) := by decide +kernel
theorem dX3_nextToken_83 : decode cX3_nextToken 83 = .ok (.putfield 45, 3) := by decide +kernel
theorem dX3_nextToken_86 : decode cX3_nextToken 86 = .ok (.aload_n 0, 1) := by decide +kernel
theorem dX3_nextToken_87 : decode cX3_nextToken 87 = .ok (.getfield 45, 3) := by decide +kernel
theorem dX3_nextToken_90 : decode cX3_nextToken 90 = .ok (.iconst 2, 1) := by decide +kernel
theorem dX3_nextToken_91 : decode cX3_nextToken 91 = .ok (.if_icmp .ne 16, 3) := by decide +kernel
theorem dX3_nextToken_94 : decode cX3_nextToken 94 = .ok (.aload_n 0, 1) := by decide +kernel
theorem dX3_nextToken_95 : decode cX3_nextToken 95 = .ok (.dup, 1) := by decide +kernel
theorem dX3_nextToken_96 : decode cX3_nextToken 96 = .ok (.getfield 36, 3) := by decide +kernel
theorem dX3_nextToken_99 : decode cX3_nextToken 99 = .ok (.iconst 1, 1) := by decide +kernel
theorem dX3_nextToken_100 : decode cX3_nextToken 100 = .ok (.iadd, 1) := by decide +kernel
theorem dX3_nextToken_101 : decode cX3_nextToken 101 = .ok (.putfield 36, 3) := by decide +kernel
theorem dX3_nextToken_104 : decode cX3_nextToken 104 = .ok (.goto 45, 3) := by decide +kernel
theorem dX3_nextToken_107 : decode cX3_nextToken 107 = .ok (.aload_n 0, 1) := by decide +kernel
theorem dX3_nextToken_108 : decode cX3_nextToken 108 = .ok (.getfield 36, 3) := by decide +kernel
theorem dX3_nextToken_111 : decode cX3_nextToken 111 = .ok (.istore_n 1, 1) := by decide +kernel
theorem dX3_nextToken_112 : decode cX3_nextToken 112 = .ok (.iload_n 1, 1) := by decide +kernel
theorem dX3_nextToken_113 : decode cX3_nextToken 113 = .ok (.aload_n 0, 1) := by decide +kernel
theorem dX3_nextToken_114 : decode cX3_nextToken 114 = .ok (.getfield 33, 3) := by decide +kernel
theorem dX3_nextToken_117 : decode cX3_nextToken 117 = .ok (.if_icmp .ge 32, 3) := by decide +kernel
theorem dX3_nextToken_120 : decode cX3_nextToken 120 = .ok (.aload_n 0, 1) := by decide +kernel
theorem dX3_nextToken_121 : decode cX3_nextToken 121 = .ok (.getfield 9, 3) := by decide +kernel
theorem dX3_nextToken_124 : decode cX3_nextToken 124 = .ok (.iload_n 1, 1) := by decide +kernel
theorem dX3_nextToken_125 : decode cX3_nextToken 125 = .ok (.baload, 1) := by decide +kernel
theorem dX3_nextToken_126 : decode cX3_nextToken 126 = .ok (.invokestatic 140, 3) := by decide +kernel
theorem dX3_nextToken_129 : decode cX3_nextToken 129 = .ok (.aload_n 0, 1) := by decide +kernel
theorem dX3_nextToken_130 : decode cX3_nextToken 130 = .ok (.getfield 45, 3) := by decide +kernel
theorem dX3_nextToken_133 : decode cX3_nextToken 133 = .ok (.if_icmp .ne 16, 3) := by decide +kernel
theorem dX3_nextToken_136 : decode cX3_nextToken 136 = .ok (.aload_n 0, 1) := by decide +kernel
theorem dX3_nextToken_137 : decode cX3_nextToken 137 = .ok (.iload_n 1, 1) := by decide +kernel
theorem dX3_nextToken_138 : decode cX3_nextToken 138 = .ok (.iconst 1, 1) := by decide +kernel
theorem dX3_nextToken_139 : decode cX3_nextToken 139 = .ok (.iadd, 1) := by decide +kernel
theorem dX3_nextToken_140 : decode cX3_nextToken 140 = .ok (.putfield 36, 3) := by decide +kernel
theorem dX3_nextToken_143 : decode cX3_nextToken 143 = .ok (.iinc 1 1, 3) := by decide +kernel
theorem dX3_nextToken_146 : decode cX3_nextToken 146 = .ok (.goto (-34), 3) := by decide +kernel
theorem dX3_nextToken_149 : decode cX3_nextToken 149 = .ok (.aload_n 0, 1) := by decide +kernel
theorem dX3_nextToken_150 : decode cX3_nextToken 150 = .ok (.getfield 45, 3) := by decide +kernel
theorem dX3_nextToken_153 : decode cX3_nextToken 153 = .ok (.iconst 4, 1) := by decide +kernel
theorem dX3_nextToken_154 : decode cX3_nextToken 154 = .ok (.if_icmp .eq 24, 3) := by decide +kernel
theorem dX3_nextToken_157 : decode cX3_nextToken 157 = .ok (.aload_n 0, 1) := by decide +kernel
theorem dX3_nextToken_158 : decode cX3_nextToken 158 = .ok (.getfield 45, 3) := by decide +kernel
theorem dX3_nextToken_161 : decode cX3_nextToken 161 = .ok (.iconst 1, 1) := by decide +kernel
theorem dX3_nextToken_162 : decode cX3_nextToken 162 = .ok (.if_icmp .ne 24, 3) := by decide +kernel
theorem dX3_nextToken_165 : decode cX3_nextToken 165 = .ok (.aload_n 0, 1) := by decide +kernel
theorem dX3_nextToken_166 : decode cX3_nextToken 166 = .ok (.getfield 36, 3) := by decide +kernel
theorem dX3_nextToken_169 : decode cX3_nextToken 169 = .ok (.aload_n 0, 1) := by decide +kernel
theorem dX3_nextToken_170 : decode cX3_nextToken 170 = .ok (.getfield 137, 3) := by decide +kernel
theorem dX3_nextToken_173 : decode cX3_nextToken 173 = .ok (.isub, 1) := by decide +kernel
theorem dX3_nextToken_174 : decode cX3_nextToken 174 = .ok (.iconst 4, 1) := by decide +kernel
theorem dX3_nextToken_175 : decode cX3_nextToken 175 = .ok (.if_icmp .le 11, 3) := by decide +kernel
theorem dX3_nextToken_178 : decode cX3_nextToken 178 = .ok (.aload_n 0, 1) := by decide +kernel
theorem dX3_nextToken_179 : decode cX3_nextToken 179 = .ok (.iconst 1, 1) := by decide +kernel
theorem dX3_nextToken_180 : decode cX3_nextToken 180 = .ok (.invokevirtual 63, 3) := by decide +kernel
theorem dX3_nextToken_183 : decode cX3_nextToken 183 = .ok (.goto 19, 3) := by decide +kernel
theorem dX3_nextToken_186 : decode cX3_nextToken 186 = .ok (.aload_n 0, 1) := by decide +kernel
theorem dX3_nextToken_187 : decode cX3_nextToken 187 = .ok (.getfield 45, 3) := by decide +kernel
theorem dX3_nextToken_190 : decode cX3_nextToken 190 = .ok (.iconst 1, 1) := by decide +kernel
theorem dX3_nextToken_191 : decode cX3_nextToken 191 = .ok (.if_icmp .ne 11, 3) := by decide +kernel
theorem dX3_nextToken_194 : decode cX3_nextToken 194 = .ok (.aload_n 0, 1) := by decide +kernel
theorem dX3_nextToken_195 : decode cX3_nextToken 195 = .ok (.aload_n 0, 1) := by decide +kernel
theorem dX3_nextToken_196 : decode cX3_nextToken 196 = .ok (.invokevirtual 143, 3) := by decide +kernel
theorem dX3_nextToken_199 : decode cX3_nextToken 199 = .ok (.putfield 131, 3) := by decide +kernel
theorem dX3_nextToken_202 : decode cX3_nextToken 202 = .ok (.return_, 1) := by decide +kernel
theorem dX3_valueOfToken_0 : decode cX3_valueOfToken 0 = .ok (.iconst 0, 1) := by decide +kernel
theorem dX3_valueOfToken_1 : decode cX3_valueOfToken 1 = .ok (.istore_n 1, 1) := by decide +kernel
theorem dX3_valueOfToken_2 : decode cX3_valueOfToken 2 = .ok (.aload_n 0, 1) := by decide +kernel
theorem dX3_valueOfToken_3 : decode cX3_valueOfToken 3 = .ok (.getfield 137, 3) := by decide +kernel
theorem dX3_valueOfToken_6 : decode cX3_valueOfToken 6 = .ok (.istore_n 2, 1) := by decide +kernel
theorem dX3_valueOfToken_7 : decode cX3_valueOfToken 7 = .ok (.iload_n 2, 1) := by decide +kernel
theorem dX3_valueOfToken_8 : decode cX3_valueOfToken 8 = .ok (.aload_n 0, 1) := by decide +kernel
theorem dX3_valueOfToken_9 : decode cX3_valueOfToken 9 = .ok (.getfield 36, 3) := by decide +kernel
theorem dX3_valueOfToken_12 : decode cX3_valueOfToken 12 = .ok (.if_icmp .ge 24, 3) := by decide +kernel
theorem dX3_valueOfToken_15 : decode cX3_valueOfToken 15 = .ok (.bipush 10, 2) := by decide +kernel
theorem dX3_valueOfToken_17 : decode cX3_valueOfToken 17 = .ok (.iload_n 1, 1) := by decide +kernel
theorem dX3_valueOfToken_18 : decode cX3_valueOfToken 18 = .ok (.imul, 1) := by decide +kernel
theorem dX3_valueOfToken_19 : decode cX3_valueOfToken 19 = .ok (.aload_n 0, 1) := by decide +kernel
theorem dX3_valueOfToken_20 : decode cX3_valueOfToken 20 = .ok (.getfield 9, 3) := by decide +kernel
theorem dX3_valueOfToken_23 : decode cX3_valueOfToken 23 = .ok (.iload_n 2, 1) := by decide +kernel
theorem dX3_valueOfToken_24 : decode cX3_valueOfToken 24 = .ok (.baload, 1) := by decide +kernel
theorem dX3_valueOfToken_25 : decode cX3_valueOfToken 25 = .ok (.iadd, 1) := by decide +kernel
theorem dX3_valueOfToken_26 : decode cX3_valueOfToken 26 = .ok (.bipush 48, 2) := by decide +kernel
theorem dX3_valueOfToken_28 : decode cX3_valueOfToken 28 = .ok (.isub, 1) := by decide +kernel
theorem dX3_valueOfToken_29 : decode cX3_valueOfToken 29 = .ok (.istore_n 1, 1) := by decide +kernel
theorem dX3_valueOfToken_30 : decode cX3_valueOfToken 30 = .ok (.iinc 2 1, 3) := by decide +kernel
theorem dX3_valueOfToken_33 : decode cX3_valueOfToken 33 = .ok (.goto (-26), 3) := by decide +kernel
theorem dX3_valueOfToken_36 : decode cX3_valueOfToken 36 = .ok (.iload_n 1, 1) := by decide +kernel
theorem dX3_valueOfToken_37 : decode cX3_valueOfToken 37 = .ok (.ireturn, 1) := by decide +kernel
theorem dX3_kindOf_0 : decode cX3_kindOf 0 = .ok (.iload_n 0, 1) := by decide +kernel
theorem dX3_kindOf_1 : decode cX3_kindOf 1 = .ok (.bipush 97, 2) := by decide +kernel
theorem dX3_kindOf_3 : decode cX3_kindOf 3 = .ok (.if_icmp .lt 11, 3) := by decide +kernel
theorem dX3_kindOf_6 : decode cX3_kindOf 6 = .ok (.iload_n 0, 1) := by decide +kernel
theorem dX3_kindOf_7 : decode cX3_kindOf 7 = .ok (.bipush 122, 2) := by decide +kernel
theorem dX3_kindOf_9 : decode cX3_kindOf 9 = .ok (.if_icmp .gt 5, 3) := by decide +kernel
theorem dX3_kindOf_12 : decode cX3_kindOf 12 = .ok (.iconst 0, 1) := by decide +kernel
theorem dX3_kindOf_13 : decode cX3_kindOf 13 = .ok (.ireturn, 1) := by decide +kernel
theorem dX3_kindOf_14 : decode cX3_kindOf 14 = .ok (.iload_n 0, 1) := by decide +kernel
theorem dX3_kindOf_15 : decode cX3_kindOf 15 = .ok (.bipush 48, 2) := by decide +kernel
theorem dX3_kindOf_17 : decode cX3_kindOf 17 = .ok (.if_icmp .lt 11, 3) := by decide +kernel
theorem dX3_kindOf_20 : decode cX3_kindOf 20 = .ok (.iload_n 0, 1) := by decide +kernel
theorem dX3_kindOf_21 : decode cX3_kindOf 21 = .ok (.bipush 57, 2) := by decide +kernel
theorem dX3_kindOf_23 : decode cX3_kindOf 23 = .ok (.if_icmp .gt 5, 3) := by decide +kernel
theorem dX3_kindOf_26 : decode cX3_kindOf 26 = .ok (.iconst 1, 1) := by decide +kernel
theorem dX3_kindOf_27 : decode cX3_kindOf 27 = .ok (.ireturn, 1) := by decide +kernel
theorem dX3_kindOf_28 : decode cX3_kindOf 28 = .ok (.iload_n 0, 1) := by decide +kernel
theorem dX3_kindOf_29 : decode cX3_kindOf 29 = .ok (.bipush 59, 2) := by decide +kernel
theorem dX3_kindOf_31 : decode cX3_kindOf 31 = .ok (.if_icmp .ne 5, 3) := by decide +kernel
theorem dX3_kindOf_34 : decode cX3_kindOf 34 = .ok (.iconst 2, 1) := by decide +kernel
theorem dX3_kindOf_35 : decode cX3_kindOf 35 = .ok (.ireturn, 1) := by decide +kernel
theorem dX3_kindOf_36 : decode cX3_kindOf 36 = .ok (.iload_n 0, 1) := by decide +kernel
theorem dX3_kindOf_37 : decode cX3_kindOf 37 = .ok (.bipush 10, 2) := by decide +kernel
theorem dX3_kindOf_39 : decode cX3_kindOf 39 = .ok (.if_icmp .eq 9, 3) := by decide +kernel
theorem dX3_kindOf_42 : decode cX3_kindOf 42 = .ok (.iload_n 0, 1) := by decide +kernel
theorem dX3_kindOf_43 : decode cX3_kindOf 43 = .ok (.bipush 32, 2) := by decide +kernel
theorem dX3_kindOf_45 : decode cX3_kindOf 45 = .ok (.if_icmp .ne 7, 3) := by decide +kernel
theorem dX3_kindOf_48 : decode cX3_kindOf 48 = .ok (.iconst 3, 1) := by decide +kernel
theorem dX3_kindOf_49 : decode cX3_kindOf 49 = .ok (.goto 4, 3) := by decide +kernel
theorem dX3_kindOf_52 : decode cX3_kindOf 52 = .ok (.iconst 4, 1) := by decide +kernel
theorem dX3_kindOf_53 : decode cX3_kindOf 53 = .ok (.ireturn, 1) := by decide +kernel
theorem dX3_isWord_0 : decode cX3_isWord 0 = .ok (.aload_n 0, 1) := by decide +kernel
theorem dX3_isWord_1 : decode cX3_isWord 1 = .ok (.getfield 45, 3) := by decide +kernel
theorem dX3_isWord_4 : decode cX3_isWord 4 = .ok (.ifCond .ne 19, 3) := by decide +kernel
theorem dX3_isWord_7 : decode cX3_isWord 7 = .ok (.aload_n 0, 1) := by decide +kernel
theorem dX3_isWord_8 : decode cX3_isWord 8 = .ok (.getfield 36, 3) := by decide +kernel
theorem dX3_isWord_11 : decode cX3_isWord 11 = .ok (.aload_n 0, 1) := by decide +kernel
theorem dX3_isWord_12 : decode cX3_isWord 12 = .ok (.getfield 137, 3) := by decide +kernel
theorem dX3_isWord_15 : decode cX3_isWord 15 = .ok (.isub, 1) := by decide +kernel
theorem dX3_isWord_16 : decode cX3_isWord 16 = .ok (.aload_n 1, 1) := by decide +kernel
theorem dX3_isWord_17 : decode cX3_isWord 17 = .ok (.invokevirtual 147, 3) := by decide +kernel
theorem dX3_isWord_20 : decode cX3_isWord 20 = .ok (.if_icmp .eq 5, 3) := by decide +kernel
theorem dX3_isWord_23 : decode cX3_isWord 23 = .ok (.iconst 0, 1) := by decide +kernel
theorem dX3_isWord_24 : decode cX3_isWord 24 = .ok (.ireturn, 1) := by decide +kernel
theorem dX3_isWord_25 : decode cX3_isWord 25 = .ok (.iconst 0, 1) := by decide +kernel
theorem dX3_isWord_26 : decode cX3_isWord 26 = .ok (.istore_n 2, 1) := by decide +kernel
theorem dX3_isWord_27 : decode cX3_isWord 27 = .ok (.iload_n 2, 1) := by decide +kernel
theorem dX3_isWord_28 : decode cX3_isWord 28 = .ok (.aload_n 1, 1) := by decide +kernel
theorem dX3_isWord_29 : decode cX3_isWord 29 = .ok (.invokevirtual 147, 3) := by decide +kernel
theorem dX3_isWord_32 : decode cX3_isWord 32 = .ok (.if_icmp .ge 30, 3) := by decide +kernel
theorem dX3_isWord_35 : decode cX3_isWord 35 = .ok (.aload_n 0, 1) := by decide +kernel
theorem dX3_isWord_36 : decode cX3_isWord 36 = .ok (.getfield 9, 3) := by decide +kernel
theorem dX3_isWord_39 : decode cX3_isWord 39 = .ok (.aload_n 0, 1) := by decide +kernel
theorem dX3_isWord_40 : decode cX3_isWord 40 = .ok (.getfield 137, 3) := by decide +kernel
theorem dX3_isWord_43 : decode cX3_isWord 43 = .ok (.iload_n 2, 1) := by decide +kernel
theorem dX3_isWord_44 : decode cX3_isWord 44 = .ok (.iadd, 1) := by decide +kernel
theorem dX3_isWord_45 : decode cX3_isWord 45 = .ok (.baload, 1) := by decide +kernel
theorem dX3_isWord_46 : decode cX3_isWord 46 = .ok (.aload_n 1, 1) := by decide +kernel
theorem dX3_isWord_47 : decode cX3_isWord 47 = .ok (.iload_n 2, 1) := by decide +kernel
theorem dX3_isWord_48 : decode cX3_isWord 48 = .ok (.invokevirtual 151, 3) := by decide +kernel
theorem dX3_isWord_51 : decode cX3_isWord 51 = .ok (.if_icmp .eq 5, 3) := by decide +kernel
theorem dX3_isWord_54 : decode cX3_isWord 54 = .ok (.iconst 0, 1) := by decide +kernel
theorem dX3_isWord_55 : decode cX3_isWord 55 = .ok (.ireturn, 1) := by decide +kernel
theorem dX3_isWord_56 : decode cX3_isWord 56 = .ok (.iinc 2 1, 3) := by decide +kernel
theorem dX3_isWord_59 : decode cX3_isWord 59 = .ok (.goto (-32), 3) := by decide +kernel
theorem dX3_isWord_62 : decode cX3_isWord 62 = .ok (.iconst 1, 1) := by decide +kernel
theorem dX3_isWord_63 : decode cX3_isWord 63 = .ok (.ireturn, 1) := by decide +kernel
theorem dX4_init_0 : decode cX4_init 0 = .ok (.aload_n 0, 1) := by decide +kernel
theorem dX4_init_1 : decode cX4_init 1 = .ok (.invokespecial 3, 3) := by decide +kernel
theorem dX4_init_4 : decode cX4_init 4 = .ok (.aload_n 0, 1) := by decide +kernel
theorem dX4_init_5 : decode cX4_init 5 = .ok (.bipush 40, 2) := by decide +kernel
theorem dX4_init_7 : decode cX4_init 7 = .ok (.newarray .long, 2) := by decide +kernel
theorem dX4_init_9 : decode cX4_init 9 = .ok (.putfield 9, 3) := by decide +kernel
theorem dX4_init_12 : decode cX4_init 12 = .ok (.aload_n 0, 1) := by decide +kernel
theorem dX4_init_13 : decode cX4_init 13 = .ok (.iconst (-1), 1) := by decide +kernel
theorem dX4_init_14 : decode cX4_init 14 = .ok (.putfield 15, 3) := by decide +kernel
theorem dX4_init_17 : decode cX4_init 17 = .ok (.return_, 1) := by decide +kernel
theorem dX4_begin_0 : decode cX4_begin 0 = .ok (.aload_n 0, 1) := by decide +kernel
theorem dX4_begin_1 : decode cX4_begin 1 = .ok (.iload_n 1, 1) := by decide +kernel
theorem dX4_begin_2 : decode cX4_begin 2 = .ok (.putfield 19, 3) := by decide +kernel
theorem dX4_begin_5 : decode cX4_begin 5 = .ok (.aload_n 0, 1) := by decide +kernel
theorem dX4_begin_6 : decode cX4_begin 6 = .ok (.iload_n 2, 1) := by decide +kernel
theorem dX4_begin_7 : decode cX4_begin 7 = .ok (.putfield 15, 3) := by decide +kernel
theorem dX4_begin_10 : decode cX4_begin 10 = .ok (.aload_n 0, 1) := by decide +kernel
theorem dX4_begin_11 : decode cX4_begin 11 = .ok (.getfield 9, 3) := by decide +kernel
theorem dX4_begin_14 : decode cX4_begin 14 = .ok (.lconst 0, 1) := by decide +kernel
theorem dX4_begin_15 : decode cX4_begin 15 = .ok (.invokestatic 22, 3) := by decide +kernel
theorem dX4_begin_18 : decode cX4_begin 18 = .ok (.return_, 1) := by decide +kernel
theorem dX4_numberAt_0 : decode cX4_numberAt 0 = .ok (.iload_n 1, 1) := by decide +kernel
theorem dX4_numberAt_1 : decode cX4_numberAt 1 = .ok (.ifCond .lt 20, 3) := by decide +kernel
theorem dX4_numberAt_4 : decode cX4_numberAt 4 = .ok (.iload_n 1, 1) := by decide +kernel
theorem dX4_numberAt_5 : decode cX4_numberAt 5 = .ok (.aload_n 0, 1) := by decide +kernel
theorem dX4_numberAt_6 : decode cX4_numberAt 6 = .ok (.getfield 15, 3) := by decide +kernel
theorem dX4_numberAt_9 : decode cX4_numberAt 9 = .ok (.if_icmp .ge 12, 3) := by decide +kernel
theorem dX4_numberAt_12 : decode cX4_numberAt 12 = .ok (.aload_n 0, 1) := by decide +kernel
theorem dX4_numberAt_13 : decode cX4_numberAt 13 = .ok (.getfield 9, 3) := by decide +kernel
theorem dX4_numberAt_16 : decode cX4_numberAt 16 = .ok (.iload_n 1, 1) := by decide +kernel
theorem dX4_numberAt_17 : decode cX4_numberAt 17 = .ok (.laload, 1) := by decide +kernel
theorem dX4_numberAt_18 : decode cX4_numberAt 18 = .ok (.goto 4, 3) := by decide +kernel
theorem dX4_numberAt_21 : decode cX4_numberAt 21 = .ok (.lconst 0, 1) := by decide +kernel
theorem dX4_numberAt_22 : decode cX4_numberAt 22 = .ok (.lreturn, 1) := by decide +kernel
theorem dX4_put_0 : decode cX4_put 0 = .ok (.iload_n 1, 1) := by decide +kernel
theorem dX4_put_1 : decode cX4_put 1 = .ok (.ifCond .lt 11, 3) := by decide +kernel
theorem dX4_put_4 : decode cX4_put 4 = .ok (.iload_n 1, 1) := by decide +kernel
theorem dX4_put_5 : decode cX4_put 5 = .ok (.aload_n 0, 1) := by decide +kernel
theorem dX4_put_6 : decode cX4_put 6 = .ok (.getfield 15, 3) := by decide +kernel
theorem dX4_put_9 : decode cX4_put 9 = .ok (.if_icmp .lt 7, 3) := by decide +kernel
theorem dX4_put_12 : decode cX4_put 12 = .ok (.ldc2_w 28, 3) := by decide +kernel
theorem dX4_put_15 : decode cX4_put 15 = .ok (.lreturn, 1) := by decide +kernel
theorem dX4_put_16 : decode cX4_put 16 = .ok (.aload_n 0, 1) := by decide +kernel
theorem dX4_put_17 : decode cX4_put 17 = .ok (.getfield 9, 3) := by decide +kernel
theorem dX4_put_20 : decode cX4_put 20 = .ok (.iload_n 1, 1) := by decide +kernel
theorem dX4_put_21 : decode cX4_put 21 = .ok (.aload_n 0, 1) := by decide +kernel
theorem dX4_put_22 : decode cX4_put 22 = .ok (.lload_n 2, 1) := by decide +kernel
theorem dX4_put_23 : decode cX4_put 23 = .ok (.invokevirtual 30, 3) := by decide +kernel
theorem dX4_put_26 : decode cX4_put 26 = .ok (.lastore, 1) := by decide +kernel
theorem dX4_put_27 : decode cX4_put 27 = .ok (.aload_n 0, 1) := by decide +kernel
theorem dX4_put_28 : decode cX4_put 28 = .ok (.getfield 9, 3) := by decide +kernel
theorem dX4_put_31 : decode cX4_put 31 = .ok (.iload_n 1, 1) := by decide +kernel
theorem dX4_put_32 : decode cX4_put 32 = .ok (.laload, 1) := by decide +kernel
theorem dX4_put_33 : decode cX4_put 33 = .ok (.lreturn, 1) := by decide +kernel
theorem dX4_trimmed_0 : decode cX4_trimmed 0 = .ok (.aload_n 0, 1) := by decide +kernel
theorem dX4_trimmed_1 : decode cX4_trimmed 1 = .ok (.getfield 19, 3) := by decide +kernel
theorem dX4_trimmed_4 : decode cX4_trimmed 4 = .ok (.tableswitch 42 0 2 #[28, 33, 38], 28) := by decide +kernel
theorem dX4_trimmed_32 : decode cX4_trimmed 32 = .ok (.lload_n 1, 1) := by decide +kernel
theorem dX4_trimmed_33 : decode cX4_trimmed 33 = .ok (.l2i, 1) := by decide +kernel
theorem dX4_trimmed_34 : decode cX4_trimmed 34 = .ok (.i2b, 1) := by decide +kernel
theorem dX4_trimmed_35 : decode cX4_trimmed 35 = .ok (.i2l, 1) := by decide +kernel
theorem dX4_trimmed_36 : decode cX4_trimmed 36 = .ok (.lreturn, 1) := by decide +kernel
theorem dX4_trimmed_37 : decode cX4_trimmed 37 = .ok (.lload_n 1, 1) := by decide +kernel
theorem dX4_trimmed_38 : decode cX4_trimmed 38 = .ok (.l2i, 1) := by decide +kernel
theorem dX4_trimmed_39 : decode cX4_trimmed 39 = .ok (.i2s, 1) := by decide +kernel
theorem dX4_trimmed_40 : decode cX4_trimmed 40 = .ok (.i2l, 1) := by decide +kernel
theorem dX4_trimmed_41 : decode cX4_trimmed 41 = .ok (.lreturn, 1) := by decide +kernel
theorem dX4_trimmed_42 : decode cX4_trimmed 42 = .ok (.lload_n 1, 1) := by decide +kernel
theorem dX4_trimmed_43 : decode cX4_trimmed 43 = .ok (.l2i, 1) := by decide +kernel
theorem dX4_trimmed_44 : decode cX4_trimmed 44 = .ok (.i2l, 1) := by decide +kernel
theorem dX4_trimmed_45 : decode cX4_trimmed 45 = .ok (.lreturn, 1) := by decide +kernel
theorem dX4_trimmed_46 : decode cX4_trimmed 46 = .ok (.lload_n 1, 1) := by decide +kernel
theorem dX4_trimmed_47 : decode cX4_trimmed 47 = .ok (.lreturn, 1) := by decide +kernel
theorem dX5_init_0 : decode cX5_init 0 = .ok (.aload_n 0, 1) := by decide +kernel
theorem dX5_init_1 : decode cX5_init 1 = .ok (.invokespecial 3, 3) := by decide +kernel
theorem dX5_init_4 : decode cX5_init 4 = .ok (.aload_n 0, 1) := by decide +kernel
theorem dX5_init_5 : decode cX5_init 5 = .ok (.sipush 492, 3) := by decide +kernel
theorem dX5_init_8 : decode cX5_init 8 = .ok (.newarray .int, 2) := by decide +kernel
theorem dX5_init_10 : decode cX5_init 10 = .ok (.putfield 11, 3) := by decide +kernel
theorem dX5_init_13 : decode cX5_init 13 = .ok (.aload_n 0, 1) := by decide +kernel
theorem dX5_init_14 : decode cX5_init 14 = .ok (.bipush 40, 2) := by decide +kernel
theorem dX5_init_16 : decode cX5_init 16 = .ok (.newarray .int, 2) := by decide +kernel
theorem dX5_init_18 : decode cX5_init 18 = .ok (.putfield 15, 3) := by decide +kernel
theorem dX5_init_21 : decode cX5_init 21 = .ok (.aload_n 0, 1) := by decide +kernel
theorem dX5_init_22 : decode cX5_init 22 = .ok (.bipush 12, 2) := by decide +kernel
theorem dX5_init_24 : decode cX5_init 24 = .ok (.newarray .int, 2) := by decide +kernel
theorem dX5_init_26 : decode cX5_init 26 = .ok (.putfield 18, 3) := by decide +kernel
theorem dX5_init_29 : decode cX5_init 29 = .ok (.return_, 1) := by decide +kernel
theorem dX5_placeCalls_0 : decode cX5_placeCalls 0 = .ok (.aload_n 0, 1) := by decide +kernel
theorem dX5_placeCalls_1 : decode cX5_placeCalls 1 = .ok (.getfield 11, 3) := by decide +kernel
theorem dX5_placeCalls_4 : decode cX5_placeCalls 4 = .ok (.iconst 0, 1) := by decide +kernel
theorem dX5_placeCalls_5 : decode cX5_placeCalls 5 = .ok (.invokestatic 21, 3) := by decide +kernel
theorem dX5_placeCalls_8 : decode cX5_placeCalls 8 = .ok (.aload_n 0, 1) := by decide +kernel
theorem dX5_placeCalls_9 : decode cX5_placeCalls 9 = .ok (.getfield 15, 3) := by decide +kernel
theorem dX5_placeCalls_12 : decode cX5_placeCalls 12 = .ok (.iconst (-1), 1) := by decide +kernel
theorem dX5_placeCalls_13 : decode cX5_placeCalls 13 = .ok (.invokestatic 21, 3) := by decide +kernel
theorem dX5_placeCalls_16 : decode cX5_placeCalls 16 = .ok (.aload_n 0, 1) := by decide +kernel
theorem dX5_placeCalls_17 : decode cX5_placeCalls 17 = .ok (.iconst 0, 1) := by decide +kernel
theorem dX5_placeCalls_18 : decode cX5_placeCalls 18 = .ok (.putfield 27, 3) := by decide +kernel
theorem dX5_placeCalls_21 : decode cX5_placeCalls 21 = .ok (.aload_n 0, 1) := by decide +kernel
theorem dX5_placeCalls_22 : decode cX5_placeCalls 22 = .ok (.iconst 0, 1) := by decide +kernel
theorem dX5_placeCalls_23 : decode cX5_placeCalls 23 = .ok (.putfield 31, 3) := by decide +kernel
theorem dX5_placeCalls_26 : decode cX5_placeCalls 26 = .ok (.aload_n 0, 1) := by decide +kernel
theorem dX5_placeCalls_27 : decode cX5_placeCalls 27 = .ok (.iconst 0, 1) := by decide +kernel
theorem dX5_placeCalls_28 : decode cX5_placeCalls 28 = .ok (.putfield 34, 3) := by decide +kernel
theorem dX5_placeCalls_31 : decode cX5_placeCalls 31 = .ok (.iconst 0, 1) := by decide +kernel
theorem dX5_placeCalls_32 : decode cX5_placeCalls 32 = .ok (.istore 4, 2) := by decide +kernel
theorem dX5_placeCalls_34 : decode cX5_placeCalls 34 = .ok (.iload 4, 2) := by decide +kernel
theorem dX5_placeCalls_36 : decode cX5_placeCalls 36 = .ok (.aload_n 3, 1) := by decide +kernel
theorem dX5_placeCalls_37 : decode cX5_placeCalls 37 = .ok (.getfield 37, 3) := by decide +kernel
theorem dX5_placeCalls_40 : decode cX5_placeCalls 40 = .ok (.if_icmp .ge 66, 3) := by decide +kernel
theorem dX5_placeCalls_43 : decode cX5_placeCalls 43 = .ok (.aload_n 3, 1) := by decide +kernel
theorem dX5_placeCalls_44 : decode cX5_placeCalls 44 = .ok (.iload 4, 2) := by decide +kernel
theorem dX5_placeCalls_46 : decode cX5_placeCalls 46 = .ok (.invokevirtual 42, 3) := by decide +kernel
theorem dX5_placeCalls_49 : decode cX5_placeCalls 49 = .ok (.l2i, 1) := by decide +kernel
theorem dX5_placeCalls_50 : decode cX5_placeCalls 50 = .ok (.istore 5, 2) := by decide +kernel
theorem dX5_placeCalls_52 : decode cX5_placeCalls 52 = .ok (.aload_n 2, 1) := by decide +kernel
theorem dX5_placeCalls_53 : decode cX5_placeCalls 53 = .ok (.iload 5, 2) := by decide +kernel
theorem dX5_placeCalls_55 : decode cX5_placeCalls 55 = .ok (.invokestatic 46, 3) := by decide +kernel
theorem dX5_placeCalls_58 : decode cX5_placeCalls 58 = .ok (.iconst 0, 1) := by decide +kernel
theorem dX5_placeCalls_59 : decode cX5_placeCalls 59 = .ok (.invokevirtual 50, 3) := by decide +kernel
theorem dX5_placeCalls_62 : decode cX5_placeCalls 62 = .ok (.aload_n 2, 1) := by decide +kernel
theorem dX5_placeCalls_63 : decode cX5_placeCalls 63 = .ok (.iload 5, 2) := by decide +kernel
theorem dX5_placeCalls_65 : decode cX5_placeCalls 65 = .ok (.invokestatic 56, 3) := by decide +kernel
theorem dX5_placeCalls_68 : decode cX5_placeCalls 68 = .ok (.aload_n 1, 1) := by decide +kernel
theorem dX5_placeCalls_69 : decode cX5_placeCalls 69 = .ok (.getfield 59, 3) := by decide +kernel
theorem dX5_placeCalls_72 : decode cX5_placeCalls 72 = .ok (.invokevirtual 64, 3) := by decide +kernel
theorem dX5_placeCalls_75 : decode cX5_placeCalls 75 = .ok (.ifCond .eq 25, 3) := by decide +kernel
theorem dX5_placeCalls_78 : decode cX5_placeCalls 78 = .ok (.aload_n 0, 1) := by decide +kernel
theorem dX5_placeCalls_79 : decode cX5_placeCalls 79 = .ok (.getfield 15, 3) := by decide +kernel
theorem dX5_placeCalls_82 : decode cX5_placeCalls 82 = .ok (.iload 4, 2) := by decide +kernel
theorem dX5_placeCalls_84 : decode cX5_placeCalls 84 = .ok (.aload_n 0, 1) := by decide +kernel
theorem dX5_placeCalls_85 : decode cX5_placeCalls 85 = .ok (.aload_n 0, 1) := by decide +kernel
theorem dX5_placeCalls_86 : decode cX5_placeCalls 86 = .ok (.aload_n 1, 1) := by decide +kernel
theorem dX5_placeCalls_87 : decode cX5_placeCalls 87 = .ok (.aload_n 2, 1) := by decide +kernel
theorem dX5_placeCalls_88 : decode cX5_placeCalls 88 = .ok (.iload 5, 2) := by decide +kernel
theorem dX5_placeCalls_90 : decode cX5_placeCalls 90 = .ok (.invokestatic 56, 3) := by decide +kernel
theorem dX5_placeCalls_93 : decode cX5_placeCalls 93 = .ok (.invokevirtual 68, 3) := by decide +kernel
theorem dX5_placeCalls_96 : decode cX5_placeCalls 96 = .ok (.invokevirtual 72, 3) := by decide +kernel
theorem dX5_placeCalls_99 : decode cX5_placeCalls 99 = .ok (.iastore, 1) := by decide +kernel
theorem dX5_placeCalls_100 : decode cX5_placeCalls 100 = .ok (.iinc 4 1, 3) := by decide +kernel
theorem dX5_placeCalls_103 : decode cX5_placeCalls 103 = .ok (.goto (-69), 3) := by decide +kernel
theorem dX5_placeCalls_106 : decode cX5_placeCalls 106 = .ok (.return_, 1) := by decide +kernel
theorem dX5_beginOf_0 : decode cX5_beginOf 0 = .ok (.iload_n 1, 1) := by decide +kernel
theorem dX5_beginOf_1 : decode cX5_beginOf 1 = .ok (.ifCond .lt 18, 3) := by decide +kernel
theorem dX5_beginOf_4 : decode cX5_beginOf 4 = .ok (.iload_n 1, 1) := by decide +kernel
theorem dX5_beginOf_5 : decode cX5_beginOf 5 = .ok (.bipush 40, 2) := by decide +kernel
theorem dX5_beginOf_7 : decode cX5_beginOf 7 = .ok (.if_icmp .ge 12, 3) := by decide +kernel
theorem dX5_beginOf_10 : decode cX5_beginOf 10 = .ok (.aload_n 0, 1) := by decide +kernel
theorem dX5_beginOf_11 : decode cX5_beginOf 11 = .ok (.getfield 15, 3) := by decide +kernel
theorem dX5_beginOf_14 : decode cX5_beginOf 14 = .ok (.iload_n 1, 1) := by decide +kernel
theorem dX5_beginOf_15 : decode cX5_beginOf 15 = .ok (.iaload, 1) := by decide +kernel
theorem dX5_beginOf_16 : decode cX5_beginOf 16 = .ok (.goto 4, 3) := by decide +kernel
theorem dX5_beginOf_19 : decode cX5_beginOf 19 = .ok (.iconst (-1), 1) := by decide +kernel
theorem dX5_beginOf_20 : decode cX5_beginOf 20 = .ok (.ireturn, 1) := by decide +kernel
theorem dX5_layRoute_0 : decode cX5_layRoute 0 = .ok (.aload_n 2, 1) := by decide +kernel
theorem dX5_layRoute_1 : decode cX5_layRoute 1 = .ok (.iload_n 3, 1) := by decide +kernel
theorem dX5_layRoute_2 : decode cX5_layRoute 2 = .ok (.invokevirtual 75, 3) := by decide +kernel
theorem dX5_layRoute_5 : decode cX5_layRoute 5 = .ok (.bipush 12, 2) := by decide +kernel
theorem dX5_layRoute_7 : decode cX5_layRoute 7 = .ok (.invokestatic 78, 3) := by decide +kernel
theorem dX5_layRoute_10 : decode cX5_layRoute 10 = .ok (.istore 4, 2) := by decide +kernel
theorem dX5_layRoute_12 : decode cX5_layRoute 12 = .ok (.iconst 0, 1) := by decide +kernel
theorem dX5_layRoute_13 : decode cX5_layRoute 13 = .ok (.istore 5, 2) := by decide +kernel
theorem dX5_layRoute_15 : decode cX5_layRoute 15 = .ok (.iload 5, 2) := by decide +kernel
theorem dX5_layRoute_17 : decode cX5_layRoute 17 = .ok (.iload 4, 2) := by decide +kernel
theorem dX5_layRoute_19 : decode cX5_layRoute 19 = .ok (.if_icmp .ge 49, 3) := by decide +kernel
theorem dX5_layRoute_22 : decode cX5_layRoute 22 = .ok (.aload_n 2, 1) := by decide +kernel
theorem dX5_layRoute_23 : decode cX5_layRoute 23 = .ok (.iload_n 3, 1) := by decide +kernel
theorem dX5_layRoute_24 : decode cX5_layRoute 24 = .ok (.iload 5, 2) := by decide +kernel
theorem dX5_layRoute_26 : decode cX5_layRoute 26 = .ok (.invokevirtual 84, 3) := by decide +kernel
theorem dX5_layRoute_29 : decode cX5_layRoute 29 = .ok (.istore 6, 2) := by decide +kernel
theorem dX5_layRoute_31 : decode cX5_layRoute 31 = .ok (.aload_n 2, 1) := by decide +kernel
theorem dX5_layRoute_32 : decode cX5_layRoute 32 = .ok (.iload_n 3, 1) := by decide +kernel
theorem dX5_layRoute_33 : decode cX5_layRoute 33 = .ok (.iload 5, 2) := by decide +kernel
theorem dX5_layRoute_35 : decode cX5_layRoute 35 = .ok (.iconst 1, 1) := by decide +kernel
theorem dX5_layRoute_36 : decode cX5_layRoute 36 = .ok (.iadd, 1) := by decide +kernel
theorem dX5_layRoute_37 : decode cX5_layRoute 37 = .ok (.invokevirtual 84, 3) := by decide +kernel
theorem dX5_layRoute_40 : decode cX5_layRoute 40 = .ok (.istore 7, 2) := by decide +kernel
theorem dX5_layRoute_42 : decode cX5_layRoute 42 = .ok (.aload_n 0, 1) := by decide +kernel
theorem dX5_layRoute_43 : decode cX5_layRoute 43 = .ok (.getfield 18, 3) := by decide +kernel
theorem dX5_layRoute_46 : decode cX5_layRoute 46 = .ok (.iload 5, 2) := by decide +kernel
theorem dX5_layRoute_48 : decode cX5_layRoute 48 = .ok (.iconst 1, 1) := by decide +kernel
theorem dX5_layRoute_49 : decode cX5_layRoute 49 = .ok (.aload_n 1, 1) := by decide +kernel
theorem dX5_layRoute_50 : decode cX5_layRoute 50 = .ok (.iload 6, 2) := by decide +kernel
theorem dX5_layRoute_52 : decode cX5_layRoute 52 = .ok (.iload 7, 2) := by decide +kernel
theorem dX5_layRoute_54 : decode cX5_layRoute 54 = .ok (.invokestatic 87, 3) := by decide +kernel
theorem dX5_layRoute_57 : decode cX5_layRoute 57 = .ok (.invokevirtual 90, 3) := by decide +kernel
theorem dX5_layRoute_60 : decode cX5_layRoute 60 = .ok (.ishl, 1) := by decide +kernel
theorem dX5_layRoute_61 : decode cX5_layRoute 61 = .ok (.iastore, 1) := by decide +kernel
theorem dX5_layRoute_62 : decode cX5_layRoute 62 = .ok (.iinc 5 1, 3) := by decide +kernel
theorem dX5_layRoute_65 : decode cX5_layRoute 65 = .ok (.goto (-50), 3) := by decide +kernel
theorem dX5_layRoute_68 : decode cX5_layRoute 68 = .ok (.iload 4, 2) := by decide +kernel
theorem dX5_layRoute_70 : decode cX5_layRoute 70 = .ok (.ireturn, 1) := by decide +kernel
theorem dX5_placeCall_0 : decode cX5_placeCall 0 = .ok (.iconst 0, 1) := by decide +kernel
theorem dX5_placeCall_1 : decode cX5_placeCall 1 = .ok (.istore_n 2, 1) := by decide +kernel
theorem dX5_placeCall_2 : decode cX5_placeCall 2 = .ok (.iload_n 2, 1) := by decide +kernel
theorem dX5_placeCall_3 : decode cX5_placeCall 3 = .ok (.iload_n 1, 1) := by decide +kernel
theorem dX5_placeCall_4 : decode cX5_placeCall 4 = .ok (.iadd, 1) := by decide +kernel
theorem dX5_placeCall_5 : decode cX5_placeCall 5 = .ok (.sipush 492, 3) := by decide +kernel
theorem dX5_placeCall_8 : decode cX5_placeCall 8 = .ok (.if_icmp .gt 84, 3) := by decide +kernel
theorem dX5_placeCall_11 : decode cX5_placeCall 11 = .ok (.aload_n 0, 1) := by decide +kernel
theorem dX5_placeCall_12 : decode cX5_placeCall 12 = .ok (.iload_n 2, 1) := by decide +kernel
theorem dX5_placeCall_13 : decode cX5_placeCall 13 = .ok (.iload_n 1, 1) := by decide +kernel
theorem dX5_placeCall_14 : decode cX5_placeCall 14 = .ok (.invokevirtual 93, 3) := by decide +kernel
theorem dX5_placeCall_17 : decode cX5_placeCall 17 = .ok (.ifCond .eq 69, 3) := by decide +kernel
theorem dX5_placeCall_20 : decode cX5_placeCall 20 = .ok (.iconst 0, 1) := by decide +kernel
theorem dX5_placeCall_21 : decode cX5_placeCall 21 = .ok (.istore_n 3, 1) := by decide +kernel
theorem dX5_placeCall_22 : decode cX5_placeCall 22 = .ok (.iload_n 3, 1) := by decide +kernel
theorem dX5_placeCall_23 : decode cX5_placeCall 23 = .ok (.iload_n 1, 1) := by decide +kernel
theorem dX5_placeCall_24 : decode cX5_placeCall 24 = .ok (.if_icmp .ge 26, 3) := by decide +kernel
theorem dX5_placeCall_27 : decode cX5_placeCall 27 = .ok (.aload_n 0, 1) := by decide +kernel
theorem dX5_placeCall_28 : decode cX5_placeCall 28 = .ok (.getfield 11, 3) := by decide +kernel
theorem dX5_placeCall_31 : decode cX5_placeCall 31 = .ok (.iload_n 2, 1) := by decide +kernel
theorem dX5_placeCall_32 : decode cX5_placeCall 32 = .ok (.iload_n 3, 1) := by decide +kernel
theorem dX5_placeCall_33 : decode cX5_placeCall 33 = .ok (.iadd, 1) := by decide +kernel
theorem dX5_placeCall_34 : decode cX5_placeCall 34 = .ok (.dup2, 1) := by decide +kernel
theorem dX5_placeCall_35 : decode cX5_placeCall 35 = .ok (.iaload, 1) := by decide +kernel
theorem dX5_placeCall_36 : decode cX5_placeCall 36 = .ok (.aload_n 0, 1) := by decide +kernel
theorem dX5_placeCall_37 : decode cX5_placeCall 37 = .ok (.getfield 18, 3) := by decide +kernel
theorem dX5_placeCall_40 : decode cX5_placeCall 40 = .ok (.iload_n 3, 1) := by decide +kernel
theorem dX5_placeCall_41 : decode cX5_placeCall 41 = .ok (.iaload, 1) := by decide +kernel
theorem dX5_placeCall_42 : decode cX5_placeCall 42 = .ok (.ior, 1) := by decide +kernel
theorem dX5_placeCall_43 : decode cX5_placeCall 43 = .ok (.iastore, 1) := by decide +kernel
theorem dX5_placeCall_44 : decode cX5_placeCall 44 = .ok (.iinc 3 1, 3) := by decide +kernel
theorem dX5_placeCall_47 : decode cX5_placeCall 47 = .ok (.goto (-25), 3) := by decide +kernel
theorem dX5_placeCall_50 : decode cX5_placeCall 50 = .ok (.aload_n 0, 1) := by decide +kernel
theorem dX5_placeCall_51 : decode cX5_placeCall 51 = .ok (.dup, 1) := by decide +kernel
theorem dX5_placeCall_52 : decode cX5_placeCall 52 = .ok (.getfield 27, 3) := by decide +kernel
theorem dX5_placeCall_55 : decode cX5_placeCall 55 = .ok (.iconst 1, 1) := by decide +kernel
theorem dX5_placeCall_56 : decode cX5_placeCall 56 = .ok (.iadd, 1) := by decide +kernel
theorem dX5_placeCall_57 : decode cX5_placeCall 57 = .ok (.putfield 27, 3) := by decide +kernel
theorem dX5_placeCall_60 : decode cX5_placeCall 60 = .ok (.aload_n 0, 1) := by decide +kernel
theorem dX5_placeCall_61 : decode cX5_placeCall 61 = .ok (.dup, 1) := by decide +kernel
theorem dX5_placeCall_62 : decode cX5_placeCall 62 = .ok (.getfield 34, 3) := by decide +kernel
theorem dX5_placeCall_65 : decode cX5_placeCall 65 = .ok (.iload_n 2, 1) := by decide +kernel
theorem dX5_placeCall_66 : decode cX5_placeCall 66 = .ok (.iadd, 1) := by decide +kernel
theorem dX5_placeCall_67 : decode cX5_placeCall 67 = .ok (.putfield 34, 3) := by decide +kernel
theorem dX5_placeCall_70 : decode cX5_placeCall 70 = .ok (.aload_n 0, 1) := by decide +kernel
theorem dX5_placeCall_71 : decode cX5_placeCall 71 = .ok (.aload_n 0, 1) := by decide +kernel
theorem dX5_placeCall_72 : decode cX5_placeCall 72 = .ok (.getfield 31, 3) := by decide +kernel
theorem dX5_placeCall_75 : decode cX5_placeCall 75 = .ok (.iload_n 2, 1) := by decide +kernel
theorem dX5_placeCall_76 : decode cX5_placeCall 76 = .ok (.iload_n 1, 1) := by decide +kernel
theorem dX5_placeCall_77 : decode cX5_placeCall 77 = .ok (.iadd, 1) := by decide +kernel
theorem dX5_placeCall_78 : decode cX5_placeCall 78 = .ok (.invokestatic 96, 3) := by decide +kernel
theorem dX5_placeCall_81 : decode cX5_placeCall 81 = .ok (.putfield 31, 3) := by decide +kernel
theorem dX5_placeCall_84 : decode cX5_placeCall 84 = .ok (.iload_n 2, 1) := by decide +kernel
theorem dX5_placeCall_85 : decode cX5_placeCall 85 = .ok (.ireturn, 1) := by decide +kernel
theorem dX5_placeCall_86 : decode cX5_placeCall 86 = .ok (.iinc 2 1, 3) := by decide +kernel
theorem dX5_placeCall_89 : decode cX5_placeCall 89 = .ok (.goto (-87), 3) := by decide +kernel
theorem dX5_placeCall_92 : decode cX5_placeCall 92 = .ok (.iconst (-1), 1) := by decide +kernel
theorem dX5_placeCall_93 : decode cX5_placeCall 93 = .ok (.ireturn, 1) := by decide +kernel
theorem dX5_isFree_0 : decode cX5_isFree 0 = .ok (.iconst 0, 1) := by decide +kernel
theorem dX5_isFree_1 : decode cX5_isFree 1 = .ok (.istore_n 3, 1) := by decide +kernel
theorem dX5_isFree_2 : decode cX5_isFree 2 = .ok (.iload_n 3, 1) := by decide +kernel
theorem dX5_isFree_3 : decode cX5_isFree 3 = .ok (.iload_n 2, 1) := by decide +kernel
theorem dX5_isFree_4 : decode cX5_isFree 4 = .ok (.if_icmp .ge 29, 3) := by decide +kernel
theorem dX5_isFree_7 : decode cX5_isFree 7 = .ok (.aload_n 0, 1) := by decide +kernel
theorem dX5_isFree_8 : decode cX5_isFree 8 = .ok (.getfield 11, 3) := by decide +kernel
theorem dX5_isFree_11 : decode cX5_isFree 11 = .ok (.iload_n 1, 1) := by decide +kernel
theorem dX5_isFree_12 : decode cX5_isFree 12 = .ok (.iload_n 3, 1) := by decide +kernel
theorem dX5_isFree_13 : decode cX5_isFree 13 = .ok (.iadd, 1) := by decide +kernel
theorem dX5_isFree_14 : decode cX5_isFree 14 = .ok (.iaload, 1) := by decide +kernel
theorem dX5_isFree_15 : decode cX5_isFree 15 = .ok (.aload_n 0, 1) := by decide +kernel
theorem dX5_isFree_16 : decode cX5_isFree 16 = .ok (.getfield 18, 3) := by decide +kernel
theorem dX5_isFree_19 : decode cX5_isFree 19 = .ok (.iload_n 3, 1) := by decide +kernel
theorem dX5_isFree_20 : decode cX5_isFree 20 = .ok (.iaload, 1) := by decide +kernel
theorem dX5_isFree_21 : decode cX5_isFree 21 = .ok (.iand, 1) := by decide +kernel
theorem dX5_isFree_22 : decode cX5_isFree 22 = .ok (.ifCond .eq 5, 3) := by decide +kernel
theorem dX5_isFree_25 : decode cX5_isFree 25 = .ok (.iconst 0, 1) := by decide +kernel
theorem dX5_isFree_26 : decode cX5_isFree 26 = .ok (.ireturn, 1) := by decide +kernel
theorem dX5_isFree_27 : decode cX5_isFree 27 = .ok (.iinc 3 1, 3) := by decide +kernel
theorem dX5_isFree_30 : decode cX5_isFree 30 = .ok (.goto (-28), 3) := by decide +kernel
theorem dX5_isFree_33 : decode cX5_isFree 33 = .ok (.iconst 1, 1) := by decide +kernel
theorem dX5_isFree_34 : decode cX5_isFree 34 = .ok (.ireturn, 1) := by decide +kernel
theorem dX6_init_0 : decode cX6_init 0 = .ok (.aload_n 0, 1) := by decide +kernel
theorem dX6_init_1 : decode cX6_init 1 = .ok (.invokespecial 3, 3) := by decide +kernel
theorem dX6_init_4 : decode cX6_init 4 = .ok (.aload_n 0, 1) := by decide +kernel
theorem dX6_init_5 : decode cX6_init 5 = .ok (.bipush 12, 2) := by decide +kernel
theorem dX6_init_7 : decode cX6_init 7 = .ok (.newarray .int, 2) := by decide +kernel
theorem dX6_init_9 : decode cX6_init 9 = .ok (.putfield 9, 3) := by decide +kernel
theorem dX6_init_12 : decode cX6_init 12 = .ok (.aload_n 0, 1) := by decide +kernel
theorem dX6_init_13 : decode cX6_init 13 = .ok (.sipush 144, 3) := by decide +kernel
theorem dX6_init_16 : decode cX6_init 16 = .ok (.newarray .int, 2) := by decide +kernel
theorem dX6_init_18 : decode cX6_init 18 = .ok (.putfield 15, 3) := by decide +kernel
theorem dX6_init_21 : decode cX6_init 21 = .ok (.aload_n 0, 1) := by decide +kernel
theorem dX6_init_22 : decode cX6_init 22 = .ok (.bipush 12, 2) := by decide +kernel
theorem dX6_init_24 : decode cX6_init 24 = .ok (.newarray .int, 2) := by decide +kernel
theorem dX6_init_26 : decode cX6_init 26 = .ok (.putfield 18, 3) := by decide +kernel
theorem dX6_init_29 : decode cX6_init 29 = .ok (.aload_n 0, 1) := by decide +kernel
theorem dX6_init_30 : decode cX6_init 30 = .ok (.bipush 12, 2) := by decide +kernel
theorem dX6_init_32 : decode cX6_init 32 = .ok (.newarray .int, 2) := by decide +kernel
theorem dX6_init_34 : decode cX6_init 34 = .ok (.putfield 21, 3) := by decide +kernel
theorem dX6_init_37 : decode cX6_init 37 = .ok (.return_, 1) := by decide +kernel
theorem dX6_takeStrings_0 : decode cX6_takeStrings 0 = .ok (.aload_n 0, 1) := by decide +kernel
theorem dX6_takeStrings_1 : decode cX6_takeStrings 1 = .ok (.aload_n 1, 1) := by decide +kernel
theorem dX6_takeStrings_2 : decode cX6_takeStrings 2 = .ok (.getfield 24, 3) := by decide +kernel
theorem dX6_takeStrings_5 : decode cX6_takeStrings 5 = .ok (.putfield 30, 3) := by decide +kernel
theorem dX6_takeStrings_8 : decode cX6_takeStrings 8 = .ok (.aload_n 0, 1) := by decide +kernel
theorem dX6_takeStrings_9 : decode cX6_takeStrings 9 = .ok (.getfield 9, 3) := by decide +kernel
theorem dX6_takeStrings_12 : decode cX6_takeStrings 12 = .ok (.iconst 0, 1) := by decide +kernel
theorem dX6_takeStrings_13 : decode cX6_takeStrings 13 = .ok (.invokestatic 31, 3) := by decide +kernel
theorem dX6_takeStrings_16 : decode cX6_takeStrings 16 = .ok (.iconst 0, 1) := by decide +kernel
theorem dX6_takeStrings_17 : decode cX6_takeStrings 17 = .ok (.istore_n 3, 1) := by decide +kernel
theorem dX6_takeStrings_18 : decode cX6_takeStrings 18 = .ok (.iload_n 3, 1) := by decide +kernel
theorem dX6_takeStrings_19 : decode cX6_takeStrings 19 = .ok (.aload_n 1, 1) := by decide +kernel
theorem dX6_takeStrings_20 : decode cX6_takeStrings 20 = .ok (.getfield 37, 3) := by decide +kernel
theorem dX6_takeStrings_23 : decode cX6_takeStrings 23 = .ok (.if_icmp .ge 60, 3) := by decide +kernel
theorem dX6_takeStrings_26 : decode cX6_takeStrings 26 = .ok (.aload_n 1, 1) := by decide +kernel
theorem dX6_takeStrings_27 : decode cX6_takeStrings 27 = .ok (.getfield 40, 3) := by decide +kernel
theorem dX6_takeStrings_30 : decode cX6_takeStrings 30 = .ok (.iload_n 3, 1) := by decide +kernel
theorem dX6_takeStrings_31 : decode cX6_takeStrings 31 = .ok (.iaload, 1) := by decide +kernel
theorem dX6_takeStrings_32 : decode cX6_takeStrings 32 = .ok (.istore 4, 2) := by decide +kernel
theorem dX6_takeStrings_34 : decode cX6_takeStrings 34 = .ok (.aload_n 1, 1) := by decide +kernel
theorem dX6_takeStrings_35 : decode cX6_takeStrings 35 = .ok (.iload 4, 2) := by decide +kernel
theorem dX6_takeStrings_37 : decode cX6_takeStrings 37 = .ok (.iload_n 2, 1) := by decide +kernel
theorem dX6_takeStrings_38 : decode cX6_takeStrings 38 = .ok (.invokevirtual 43, 3) := by decide +kernel
theorem dX6_takeStrings_41 : decode cX6_takeStrings 41 = .ok (.ifCond .ne 36, 3) := by decide +kernel
theorem dX6_takeStrings_44 : decode cX6_takeStrings 44 = .ok (.aload_n 0, 1) := by decide +kernel
theorem dX6_takeStrings_45 : decode cX6_takeStrings 45 = .ok (.iload 4, 2) := by decide +kernel
theorem dX6_takeStrings_47 : decode cX6_takeStrings 47 = .ok (.invokestatic 47, 3) := by decide +kernel
theorem dX6_takeStrings_50 : decode cX6_takeStrings 50 = .ok (.iload 4, 2) := by decide +kernel
theorem dX6_takeStrings_52 : decode cX6_takeStrings 52 = .ok (.invokestatic 51, 3) := by decide +kernel
theorem dX6_takeStrings_55 : decode cX6_takeStrings 55 = .ok (.invokevirtual 54, 3) := by decide +kernel
theorem dX6_takeStrings_58 : decode cX6_takeStrings 58 = .ok (.aload_n 0, 1) := by decide +kernel
theorem dX6_takeStrings_59 : decode cX6_takeStrings 59 = .ok (.iload 4, 2) := by decide +kernel
theorem dX6_takeStrings_61 : decode cX6_takeStrings 61 = .ok (.invokestatic 47, 3) := by decide +kernel
theorem dX6_takeStrings_64 : decode cX6_takeStrings 64 = .ok (.iload 4, 2) := by decide +kernel
theorem dX6_takeStrings_66 : decode cX6_takeStrings 66 = .ok (.invokestatic 51, 3) := by decide +kernel
theorem dX6_takeStrings_69 : decode cX6_takeStrings 69 = .ok (.aload_n 1, 1) := by decide +kernel
theorem dX6_takeStrings_70 : decode cX6_takeStrings 70 = .ok (.iload_n 3, 1) := by decide +kernel
theorem dX6_takeStrings_71 : decode cX6_takeStrings 71 = .ok (.invokevirtual 58, 3) := by decide +kernel
theorem dX6_takeStrings_74 : decode cX6_takeStrings 74 = .ok (.invokevirtual 61, 3) := by decide +kernel
theorem dX6_takeStrings_77 : decode cX6_takeStrings 77 = .ok (.iinc 3 1, 3) := by decide +kernel
theorem dX6_takeStrings_80 : decode cX6_takeStrings 80 = .ok (.goto (-62), 3) := by decide +kernel
theorem dX6_takeStrings_83 : decode cX6_takeStrings 83 = .ok (.return_, 1) := by decide +kernel
theorem dX6_join_0 : decode cX6_join 0 = .ok (.aload_n 0, 1) := by decide +kernel
theorem dX6_join_1 : decode cX6_join 1 = .ok (.getfield 9, 3) := by decide +kernel
theorem dX6_join_4 : decode cX6_join 4 = .ok (.iload_n 1, 1) := by decide +kernel
theorem dX6_join_5 : decode cX6_join 5 = .ok (.dup2, 1) := by decide +kernel
theorem dX6_join_6 : decode cX6_join 6 = .ok (.iaload, 1) := by decide +kernel
theorem dX6_join_7 : decode cX6_join 7 = .ok (.iconst 1, 1) := by decide +kernel
theorem dX6_join_8 : decode cX6_join 8 = .ok (.iload_n 2, 1) := by decide +kernel
theorem dX6_join_9 : decode cX6_join 9 = .ok (.ishl, 1) := by decide +kernel
theorem dX6_join_10 : decode cX6_join 10 = .ok (.ior, 1) := by decide +kernel
theorem dX6_join_11 : decode cX6_join 11 = .ok (.iastore, 1) := by decide +kernel
theorem dX6_join_12 : decode cX6_join 12 = .ok (.aload_n 0, 1) := by decide +kernel
theorem dX6_join_13 : decode cX6_join 13 = .ok (.getfield 9, 3) := by decide +kernel
theorem dX6_join_16 : decode cX6_join 16 = .ok (.iload_n 2, 1) := by decide +kernel
theorem dX6_join_17 : decode cX6_join 17 = .ok (.dup2, 1) := by decide +kernel
theorem dX6_join_18 : decode cX6_join 18 = .ok (.iaload, 1) := by decide +kernel
theorem dX6_join_19 : decode cX6_join 19 = .ok (.iconst 1, 1) := by decide +kernel
theorem dX6_join_20 : decode cX6_join 20 = .ok (.iload_n 1, 1) := by decide +kernel
theorem dX6_join_21 : decode cX6_join 21 = .ok (.ishl, 1) := by decide +kernel
theorem dX6_join_22 : decode cX6_join 22 = .ok (.ior, 1) := by decide +kernel
theorem dX6_join_23 : decode cX6_join 23 = .ok (.iastore, 1) := by decide +kernel
theorem dX6_join_24 : decode cX6_join 24 = .ok (.return_, 1) := by decide +kernel
theorem dX6_sever_0 : decode cX6_sever 0 = .ok (.aload_n 0, 1) := by decide +kernel
theorem dX6_sever_1 : decode cX6_sever 1 = .ok (.getfield 9, 3) := by decide +kernel
theorem dX6_sever_4 : decode cX6_sever 4 = .ok (.iload_n 1, 1) := by decide +kernel
theorem dX6_sever_5 : decode cX6_sever 5 = .ok (.dup2, 1) := by decide +kernel
theorem dX6_sever_6 : decode cX6_sever 6 = .ok (.iaload, 1) := by decide +kernel
theorem dX6_sever_7 : decode cX6_sever 7 = .ok (.iconst 1, 1) := by decide +kernel
theorem dX6_sever_8 : decode cX6_sever 8 = .ok (.iload_n 2, 1) := by decide +kernel
theorem dX6_sever_9 : decode cX6_sever 9 = .ok (.ishl, 1) := by decide +kernel
theorem dX6_sever_10 : decode cX6_sever 10 = .ok (.iconst (-1), 1) := by decide +kernel
theorem dX6_sever_11 : decode cX6_sever 11 = .ok (.ixor, 1) := by decide +kernel
theorem dX6_sever_12 : decode cX6_sever 12 = .ok (.iand, 1) := by decide +kernel
theorem dX6_sever_13 : decode cX6_sever 13 = .ok (.iastore, 1) := by decide +kernel
theorem dX6_sever_14 : decode cX6_sever 14 = .ok (.aload_n 0, 1) := by decide +kernel
theorem dX6_sever_15 : decode cX6_sever 15 = .ok (.getfield 9, 3) := by decide +kernel
theorem dX6_sever_18 : decode cX6_sever 18 = .ok (.iload_n 2, 1) := by decide +kernel
theorem dX6_sever_19 : decode cX6_sever 19 = .ok (.dup2, 1) := by decide +kernel
theorem dX6_sever_20 : decode cX6_sever 20 = .ok (.iaload, 1) := by decide +kernel
theorem dX6_sever_21 : decode cX6_sever 21 = .ok (.iconst 1, 1) := by decide +kernel
theorem dX6_sever_22 : decode cX6_sever 22 = .ok (.iload_n 1, 1) := by decide +kernel
theorem dX6_sever_23 : decode cX6_sever 23 = .ok (.ishl, 1) := by decide +kernel
theorem dX6_sever_24 : decode cX6_sever 24 = .ok (.iconst (-1), 1) := by decide +kernel
theorem dX6_sever_25 : decode cX6_sever 25 = .ok (.ixor, 1) := by decide +kernel
theorem dX6_sever_26 : decode cX6_sever 26 = .ok (.iand, 1) := by decide +kernel
theorem dX6_sever_27 : decode cX6_sever 27 = .ok (.iastore, 1) := by decide +kernel
theorem dX6_sever_28 : decode cX6_sever 28 = .ok (.return_, 1) := by decide +kernel
theorem dX6_areLinked_0 : decode cX6_areLinked 0 = .ok (.aload_n 0, 1) := by decide +kernel
theorem dX6_areLinked_1 : decode cX6_areLinked 1 = .ok (.getfield 9, 3) := by decide +kernel
theorem dX6_areLinked_4 : decode cX6_areLinked 4 = .ok (.iload_n 1, 1) := by decide +kernel
theorem dX6_areLinked_5 : decode cX6_areLinked 5 = .ok (.iaload, 1) := by decide +kernel
theorem dX6_areLinked_6 : decode cX6_areLinked 6 = .ok (.iload_n 2, 1) := by decide +kernel
theorem dX6_areLinked_7 : decode cX6_areLinked 7 = .ok (.ishr, 1) := by decide +kernel
theorem dX6_areLinked_8 : decode cX6_areLinked 8 = .ok (.iconst 1, 1) := by decide +kernel
theorem dX6_areLinked_9 : decode cX6_areLinked 9 = .ok (.iand, 1) := by decide +kernel
theorem dX6_areLinked_10 : decode cX6_areLinked 10 = .ok (.ifCond .eq 7, 3) := by decide +kernel
theorem dX6_areLinked_13 : decode cX6_areLinked 13 = .ok (.iconst 1, 1) := by decide +kernel
theorem dX6_areLinked_14 : decode cX6_areLinked 14 = .ok (.goto 4, 3) := by decide +kernel
theorem dX6_areLinked_17 : decode cX6_areLinked 17 = .ok (.iconst 0, 1) := by decide +kernel
theorem dX6_areLinked_18 : decode cX6_areLinked 18 = .ok (.ireturn, 1) := by decide +kernel
theorem dX6_setLoss_0 : decode cX6_setLoss 0 = .ok (.bipush 16, 2) := by decide +kernel
theorem dX6_setLoss_2 : decode cX6_setLoss 2 = .ok (.iload_n 3, 1) := by decide +kernel
theorem dX6_setLoss_3 : decode cX6_setLoss 3 = .ok (.imul, 1) := by decide +kernel
theorem dX6_setLoss_4 : decode cX6_setLoss 4 = .ok (.iconst 1, 1) := by decide +kernel
theorem dX6_setLoss_5 : decode cX6_setLoss 5 = .ok (.iadd, 1) := by decide +kernel
theorem dX6_setLoss_6 : decode cX6_setLoss 6 = .ok (.istore 4, 2) := by decide +kernel
theorem dX6_setLoss_8 : decode cX6_setLoss 8 = .ok (.aload_n 0, 1) := by decide +kernel
theorem dX6_setLoss_9 : decode cX6_setLoss 9 = .ok (.getfield 15, 3) := by decide +kernel
theorem dX6_setLoss_12 : decode cX6_setLoss 12 = .ok (.bipush 12, 2) := by decide +kernel
theorem dX6_setLoss_14 : decode cX6_setLoss 14 = .ok (.iload_n 1, 1) := by decide +kernel
theorem dX6_setLoss_15 : decode cX6_setLoss 15 = .ok (.imul, 1) := by decide +kernel
theorem dX6_setLoss_16 : decode cX6_setLoss 16 = .ok (.iload_n 2, 1) := by decide +kernel
theorem dX6_setLoss_17 : decode cX6_setLoss 17 = .ok (.iadd, 1) := by decide +kernel
theorem dX6_setLoss_18 : decode cX6_setLoss 18 = .ok (.iload 4, 2) := by decide +kernel
theorem dX6_setLoss_20 : decode cX6_setLoss 20 = .ok (.iastore, 1) := by decide +kernel
theorem dX6_setLoss_21 : decode cX6_setLoss 21 = .ok (.aload_n 0, 1) := by decide +kernel
theorem dX6_setLoss_22 : decode cX6_setLoss 22 = .ok (.getfield 15, 3) := by decide +kernel
theorem dX6_setLoss_25 : decode cX6_setLoss 25 = .ok (.bipush 12, 2) := by decide +kernel
theorem dX6_setLoss_27 : decode cX6_setLoss 27 = .ok (.iload_n 2, 1) := by decide +kernel
theorem dX6_setLoss_28 : decode cX6_setLoss 28 = .ok (.imul, 1) := by decide +kernel
theorem dX6_setLoss_29 : decode cX6_setLoss 29 = .ok (.iload_n 1, 1) := by decide +kernel
theorem dX6_setLoss_30 : decode cX6_setLoss 30 = .ok (.iadd, 1) := by decide +kernel
theorem dX6_setLoss_31 : decode cX6_setLoss 31 = .ok (.iload 4, 2) := by decide +kernel
theorem dX6_setLoss_33 : decode cX6_setLoss 33 = .ok (.iastore, 1) := by decide +kernel
theorem dX6_setLoss_34 : decode cX6_setLoss 34 = .ok (.return_, 1) := by decide +kernel
theorem dX6_priceOf_0 : decode cX6_priceOf 0 = .ok (.aload_n 0, 1) := by decide +kernel
theorem dX6_priceOf_1 : decode cX6_priceOf 1 = .ok (.getfield 15, 3) := by decide +kernel
theorem dX6_priceOf_4 : decode cX6_priceOf 4 = .ok (.bipush 12, 2) := by decide +kernel
theorem dX6_priceOf_6 : decode cX6_priceOf 6 = .ok (.iload_n 1, 1) := by decide +kernel
theorem dX6_priceOf_7 : decode cX6_priceOf 7 = .ok (.imul, 1) := by decide +kernel
theorem dX6_priceOf_8 : decode cX6_priceOf 8 = .ok (.iload_n 2, 1) := by decide +kernel
theorem dX6_priceOf_9 : decode cX6_priceOf 9 = .ok (.iadd, 1) := by decide +kernel
theorem dX6_priceOf_10 : decode cX6_priceOf 10 = .ok (.iaload, 1) := by decide +kernel
theorem dX6_priceOf_11 : decode cX6_priceOf 11 = .ok (.ireturn, 1) := by decide +kernel
theorem dX6_measure_0 : decode cX6_measure 0 = .ok (.aload_n 0, 1) := by decide +kernel
theorem dX6_measure_1 : decode cX6_measure 1 = .ok (.getfield 18, 3) := by decide +kernel
theorem dX6_measure_4 : decode cX6_measure 4 = .ok (.ldc 65, 2) := by decide +kernel
theorem dX6_measure_6 : decode cX6_measure 6 = .ok (.invokestatic 31, 3) := by decide +kernel
theorem dX6_measure_9 : decode cX6_measure 9 = .ok (.aload_n 0, 1) := by decide +kernel
theorem dX6_measure_10 : decode cX6_measure 10 = .ok (.getfield 18, 3) := by decide +kernel
theorem dX6_measure_13 : decode cX6_measure 13 = .ok (.iload_n 1, 1) := by decide +kernel
theorem dX6_measure_14 : decode cX6_measure 14 = .ok (.iconst 0, 1) := by decide +kernel
theorem dX6_measure_15 : decode cX6_measure 15 = .ok (.iastore, 1) := by decide +kernel
theorem dX6_measure_16 : decode cX6_measure 16 = .ok (.iconst 1, 1) := by decide +kernel
theorem dX6_measure_17 : decode cX6_measure 17 = .ok (.aload_n 0, 1) := by decide +kernel
theorem dX6_measure_18 : decode cX6_measure 18 = .ok (.getfield 30, 3) := by decide +kernel
theorem dX6_measure_21 : decode cX6_measure 21 = .ok (.ishl, 1) := by decide +kernel
theorem dX6_measure_22 : decode cX6_measure 22 = .ok (.iconst 1, 1) := by decide +kernel
theorem dX6_measure_23 : decode cX6_measure 23 = .ok (.isub, 1) := by decide +kernel
theorem dX6_measure_24 : decode cX6_measure 24 = .ok (.iload_n 2, 1) := by decide +kernel
theorem dX6_measure_25 : decode cX6_measure 25 = .ok (.iconst (-1), 1) := by decide +kernel
theorem dX6_measure_26 : decode cX6_measure 26 = .ok (.ixor, 1) := by decide +kernel
theorem dX6_measure_27 : decode cX6_measure 27 = .ok (.iand, 1) := by decide +kernel
theorem dX6_measure_28 : decode cX6_measure 28 = .ok (.istore_n 3, 1) := by decide +kernel
theorem dX6_measure_29 : decode cX6_measure 29 = .ok (.iconst 0, 1) := by decide +kernel
theorem dX6_measure_30 : decode cX6_measure 30 = .ok (.istore 4, 2) := by decide +kernel
theorem dX6_measure_32 : decode cX6_measure 32 = .ok (.iload 4, 2) := by decide +kernel
theorem dX6_measure_34 : decode cX6_measure 34 = .ok (.aload_n 0, 1) := by decide +kernel
theorem dX6_measure_35 : decode cX6_measure 35 = .ok (.getfield 30, 3) := by decide +kernel
theorem dX6_measure_38 : decode cX6_measure 38 = .ok (.if_icmp .ge 47, 3) := by decide +kernel
theorem dX6_measure_41 : decode cX6_measure 41 = .ok (.aload_n 0, 1) := by decide +kernel
theorem dX6_measure_42 : decode cX6_measure 42 = .ok (.iload_n 3, 1) := by decide +kernel
theorem dX6_measure_43 : decode cX6_measure 43 = .ok (.invokevirtual 66, 3) := by decide +kernel
theorem dX6_measure_46 : decode cX6_measure 46 = .ok (.istore 5, 2) := by decide +kernel
theorem dX6_measure_48 : decode cX6_measure 48 = .ok (.iload 5, 2) := by decide +kernel
theorem dX6_measure_50 : decode cX6_measure 50 = .ok (.iconst (-1), 1) := by decide +kernel
theorem dX6_measure_51 : decode cX6_measure 51 = .ok (.if_icmp .ne 4, 3) := by decide +kernel
theorem dX6_measure_54 : decode cX6_measure 54 = .ok (.return_, 1) := by decide +kernel
theorem dX6_measure_55 : decode cX6_measure 55 = .ok (.iload_n 3, 1) := by decide +kernel
theorem dX6_measure_56 : decode cX6_measure 56 = .ok (.iconst 1, 1) := by decide +kernel
theorem dX6_measure_57 : decode cX6_measure 57 = .ok (.iload 5, 2) := by decide +kernel
theorem dX6_measure_59 : decode cX6_measure 59 = .ok (.ishl, 1) := by decide +kernel
theorem dX6_measure_60 : decode cX6_measure 60 = .ok (.iconst (-1), 1) := by decide +kernel
theorem dX6_measure_61 : decode cX6_measure 61 = .ok (.ixor, 1) := by decide +kernel
theorem dX6_measure_62 : decode cX6_measure 62 = .ok (.iand, 1) := by decide +kernel
theorem dX6_measure_63 : decode cX6_measure 63 = .ok (.istore_n 3, 1) := by decide +kernel
theorem dX6_measure_64 : decode cX6_measure 64 = .ok (.aload_n 0, 1) := by decide +kernel
theorem dX6_measure_65 : decode cX6_measure 65 = .ok (.iload 5, 2) := by decide +kernel
theorem dX6_measure_67 : decode cX6_measure 67 = .ok (.aload_n 0, 1) := by decide +kernel
theorem dX6_measure_68 : decode cX6_measure 68 = .ok (.getfield 9, 3) := by decide +kernel
theorem dX6_measure_71 : decode cX6_measure 71 = .ok (.iload 5, 2) := by decide +kernel
theorem dX6_measure_73 : decode cX6_measure 73 = .ok (.iaload, 1) := by decide +kernel
theorem dX6_measure_74 : decode cX6_measure 74 = .ok (.iload_n 3, 1) := by decide +kernel
theorem dX6_measure_75 : decode cX6_measure 75 = .ok (.iand, 1) := by decide +kernel
theorem dX6_measure_76 : decode cX6_measure 76 = .ok (.invokevirtual 69, 3) := by decide +kernel
theorem dX6_measure_79 : decode cX6_measure 79 = .ok (.iinc 4 1, 3) := by decide +kernel
theorem dX6_measure_82 : decode cX6_measure 82 = .ok (.goto (-50), 3) := by decide +kernel
theorem dX6_measure_85 : decode cX6_measure 85 = .ok (.return_, 1) := by decide +kernel
theorem dX6_nearest_0 : decode cX6_nearest 0 = .ok (.iconst (-1), 1) := by decide +kernel
theorem dX6_nearest_1 : decode cX6_nearest 1 = .ok (.istore_n 2, 1) := by decide +kernel
theorem dX6_nearest_2 : decode cX6_nearest 2 = .ok (.ldc 65, 2) := by decide +kernel
theorem dX6_nearest_4 : decode cX6_nearest 4 = .ok (.istore_n 3, 1) := by decide +kernel
theorem dX6_nearest_5 : decode cX6_nearest 5 = .ok (.iconst 0, 1) := by decide +kernel
theorem dX6_nearest_6 : decode cX6_nearest 6 = .ok (.istore 4, 2) := by decide +kernel
theorem dX6_nearest_8 : decode cX6_nearest 8 = .ok (.iload 4, 2) := by decide +kernel
theorem dX6_nearest_10 : decode cX6_nearest 10 = .ok (.aload_n 0, 1) := by decide +kernel
theorem dX6_nearest_11 : decode cX6_nearest 11 = .ok (.getfield 30, 3) := by decide +kernel
theorem dX6_nearest_14 : decode cX6_nearest 14 = .ok (.if_icmp .ge 40, 3) := by decide +kernel
theorem dX6_nearest_17 : decode cX6_nearest 17 = .ok (.iload_n 1, 1) := by decide +kernel
theorem dX6_nearest_18 : decode cX6_nearest 18 = .ok (.iload 4, 2) := by decide +kernel
theorem dX6_nearest_20 : decode cX6_nearest 20 = .ok (.ishr, 1) := by decide +kernel
theorem dX6_nearest_21 : decode cX6_nearest 21 = .ok (.iconst 1, 1) := by decide +kernel
theorem dX6_nearest_22 : decode cX6_nearest 22 = .ok (.iand, 1) := by decide +kernel
theorem dX6_nearest_23 : decode cX6_nearest 23 = .ok (.ifCond .eq 25, 3) := by decide +kernel
theorem dX6_nearest_26 : decode cX6_nearest 26 = .ok (.aload_n 0, 1) := by decide +kernel
theorem dX6_nearest_27 : decode cX6_nearest 27 = .ok (.getfield 18, 3) := by decide +kernel
theorem dX6_nearest_30 : decode cX6_nearest 30 = .ok (.iload 4, 2) := by decide +kernel
theorem dX6_nearest_32 : decode cX6_nearest 32 = .ok (.iaload, 1) := by decide +kernel
theorem dX6_nearest_33 : decode cX6_nearest 33 = .ok (.iload_n 3, 1) := by decide +kernel
theorem dX6_nearest_34 : decode cX6_nearest 34 = .ok (.if_icmp .ge 14, 3) := by decide +kernel
theorem dX6_nearest_37 : decode cX6_nearest 37 = .ok (.iload 4, 2) := by decide +kernel
theorem dX6_nearest_39 : decode cX6_nearest 39 = .ok (.istore_n 2, 1) := by decide +kernel
theorem dX6_nearest_40 : decode cX6_nearest 40 = .ok (.aload_n 0, 1) := by decide +kernel
theorem dX6_nearest_41 : decode cX6_nearest 41 = .ok (.getfield 18, 3) := by decide +kernel
theorem dX6_nearest_44 : decode cX6_nearest 44 = .ok (.iload 4, 2) := by decide +kernel
theorem dX6_nearest_46 : decode cX6_nearest 46 = .ok (.iaload, 1) := by decide +kernel
theorem dX6_nearest_47 : decode cX6_nearest 47 = .ok (.istore_n 3, 1) := by decide +kernel
theorem dX6_nearest_48 : decode cX6_nearest 48 = .ok (.iinc 4 1, 3) := by decide +kernel
theorem dX6_nearest_51 : decode cX6_nearest 51 = .ok (.goto (-43), 3) := by decide +kernel
theorem dX6_nearest_54 : decode cX6_nearest 54 = .ok (.iload_n 2, 1) := by decide +kernel
theorem dX6_nearest_55 : decode cX6_nearest 55 = .ok (.ireturn, 1) := by decide +kernel
theorem dX6_shorten_0 : decode cX6_shorten 0 = .ok (.iconst 0, 1) := by decide +kernel
theorem dX6_shorten_1 : decode cX6_shorten 1 = .ok (.istore_n 3, 1) := by decide +kernel
theorem dX6_shorten_2 : decode cX6_shorten 2 = .ok (.iload_n 3, 1) := by decide +kernel
theorem dX6_shorten_3 : decode cX6_shorten 3 = .ok (.aload_n 0, 1) := by decide +kernel
theorem dX6_shorten_4 : decode cX6_shorten 4 = .ok (.getfield 30, 3) := by decide +kernel
theorem dX6_shorten_7 : decode cX6_shorten 7 = .ok (.if_icmp .ge 45, 3) := by decide +kernel
theorem dX6_shorten_10 : decode cX6_shorten 10 = .ok (.iload_n 2, 1) := by decide +kernel
theorem dX6_shorten_11 : decode cX6_shorten 11 = .ok (.iload_n 3, 1) := by decide +kernel
theorem dX6_shorten_12 : decode cX6_shorten 12 = .ok (.ishr, 1) := by decide +kernel
theorem dX6_shorten_13 : decode cX6_shorten 13 = .ok (.iconst 1, 1) := by decide +kernel
theorem dX6_shorten_14 : decode cX6_shorten 14 = .ok (.iand, 1) := by decide +kernel
theorem dX6_shorten_15 : decode cX6_shorten 15 = .ok (.ifCond .eq 31, 3) := by decide +kernel
theorem dX6_shorten_18 : decode cX6_shorten 18 = .ok (.aload_n 0, 1) := by decide +kernel
theorem dX6_shorten_19 : decode cX6_shorten 19 = .ok (.getfield 18, 3) := by decide +kernel
theorem dX6_shorten_22 : decode cX6_shorten 22 = .ok (.iload_n 3, 1) := by decide +kernel
theorem dX6_shorten_23 : decode cX6_shorten 23 = .ok (.aload_n 0, 1) := by decide +kernel
theorem dX6_shorten_24 : decode cX6_shorten 24 = .ok (.getfield 18, 3) := by decide +kernel
theorem dX6_shorten_27 : decode cX6_shorten 27 = .ok (.iload_n 3, 1) := by decide +kernel
theorem dX6_shorten_28 : decode cX6_shorten 28 = .ok (.iaload, 1) := by decide +kernel
theorem dX6_shorten_29 : decode cX6_shorten 29 = .ok (.aload_n 0, 1) := by decide +kernel
theorem dX6_shorten_30 : decode cX6_shorten 30 = .ok (.getfield 18, 3) := by decide +kernel
theorem dX6_shorten_33 : decode cX6_shorten 33 = .ok (.iload_n 1, 1) := by decide +kernel
theorem dX6_shorten_34 : decode cX6_shorten 34 = .ok (.iaload, 1) := by decide +kernel
theorem dX6_shorten_35 : decode cX6_shorten 35 = .ok (.aload_n 0, 1) := by decide +kernel
theorem dX6_shorten_36 : decode cX6_shorten 36 = .ok (.iload_n 3, 1) := by decide +kernel
theorem dX6_shorten_37 : decode cX6_shorten 37 = .ok (.iload_n 1, 1) := by decide +kernel
theorem dX6_shorten_38 : decode cX6_shorten 38 = .ok (.invokevirtual 72, 3) := by decide +kernel
theorem dX6_shorten_41 : decode cX6_shorten 41 = .ok (.iadd, 1) := by decide +kernel
theorem dX6_shorten_42 : decode cX6_shorten 42 = .ok (.invokestatic 76, 3) := by decide +kernel
theorem dX6_shorten_45 : decode cX6_shorten 45 = .ok (.iastore, 1) := by decide +kernel
theorem dX6_shorten_46 : decode cX6_shorten 46 = .ok (.iinc 3 1, 3) := by decide +kernel
theorem dX6_shorten_49 : decode cX6_shorten 49 = .ok (.goto (-47), 3) := by decide +kernel
theorem dX6_shorten_52 : decode cX6_shorten 52 = .ok (.return_, 1) := by decide +kernel
theorem dX6_lossFrom_0 : decode cX6_lossFrom 0 = .ok (.aload_n 0, 1) := by decide +kernel
theorem dX6_lossFrom_1 : decode cX6_lossFrom 1 = .ok (.getfield 18, 3) := by decide +kernel
theorem dX6_lossFrom_4 : decode cX6_lossFrom 4 = .ok (.iload_n 1, 1) := by decide +kernel
theorem dX6_lossFrom_5 : decode cX6_lossFrom 5 = .ok (.iaload, 1) := by decide +kernel
theorem dX6_lossFrom_6 : decode cX6_lossFrom 6 = .ok (.ldc 65, 2) := by decide +kernel
theorem dX6_lossFrom_8 : decode cX6_lossFrom 8 = .ok (.if_icmp .ne 7, 3) := by decide +kernel
theorem dX6_lossFrom_11 : decode cX6_lossFrom 11 = .ok (.iconst (-1), 1) := by decide +kernel
theorem dX6_lossFrom_12 : decode cX6_lossFrom 12 = .ok (.goto 12, 3) := by decide +kernel
theorem dX6_lossFrom_15 : decode cX6_lossFrom 15 = .ok (.aload_n 0, 1) := by decide +kernel
theorem dX6_lossFrom_16 : decode cX6_lossFrom 16 = .ok (.getfield 18, 3) := by decide +kernel
theorem dX6_lossFrom_19 : decode cX6_lossFrom 19 = .ok (.iload_n 1, 1) := by decide +kernel
theorem dX6_lossFrom_20 : decode cX6_lossFrom 20 = .ok (.iaload, 1) := by decide +kernel
theorem dX6_lossFrom_21 : decode cX6_lossFrom 21 = .ok (.bipush 16, 2) := by decide +kernel
theorem dX6_lossFrom_23 : decode cX6_lossFrom 23 = .ok (.idiv, 1) := by decide +kernel
theorem dX6_lossFrom_24 : decode cX6_lossFrom 24 = .ok (.ireturn, 1) := by decide +kernel
theorem dX6_stringsFrom_0 : decode cX6_stringsFrom 0 = .ok (.aload_n 0, 1) := by decide +kernel
theorem dX6_stringsFrom_1 : decode cX6_stringsFrom 1 = .ok (.getfield 18, 3) := by decide +kernel
theorem dX6_stringsFrom_4 : decode cX6_stringsFrom 4 = .ok (.iload_n 1, 1) := by decide +kernel
theorem dX6_stringsFrom_5 : decode cX6_stringsFrom 5 = .ok (.iaload, 1) := by decide +kernel
theorem dX6_stringsFrom_6 : decode cX6_stringsFrom 6 = .ok (.ldc 65, 2) := by decide +kernel
theorem dX6_stringsFrom_8 : decode cX6_stringsFrom 8 = .ok (.if_icmp .ne 7, 3) := by decide +kernel
theorem dX6_stringsFrom_11 : decode cX6_stringsFrom 11 = .ok (.iconst (-1), 1) := by decide +kernel
theorem dX6_stringsFrom_12 : decode cX6_stringsFrom 12 = .ok (.goto 12, 3) := by decide +kernel
theorem dX6_stringsFrom_15 : decode cX6_stringsFrom 15 = .ok (.aload_n 0, 1) := by decide +kernel
theorem dX6_stringsFrom_16 : decode cX6_stringsFrom 16 = .ok (.getfield 18, 3) := by decide +kernel
theorem dX6_stringsFrom_19 : decode cX6_stringsFrom 19 = .ok (.iload_n 1, 1) := by decide +kernel
theorem dX6_stringsFrom_20 : decode cX6_stringsFrom 20 = .ok (.iaload, 1) := by decide +kernel
theorem dX6_stringsFrom_21 : decode cX6_stringsFrom 21 = .ok (.bipush 16, 2) := by decide +kernel
theorem dX6_stringsFrom_23 : decode cX6_stringsFrom 23 = .ok (.irem, 1) := by decide +kernel
theorem dX6_stringsFrom_24 : decode cX6_stringsFrom 24 = .ok (.ireturn, 1) := by decide +kernel
theorem dX6_isHeardFrom_0 : decode cX6_isHeardFrom 0 = .ok (.aload_n 0, 1) := by decide +kernel
theorem dX6_isHeardFrom_1 : decode cX6_isHeardFrom 1 = .ok (.getfield 18, 3) := by decide +kernel
theorem dX6_isHeardFrom_4 : decode cX6_isHeardFrom 4 = .ok (.iload_n 1, 1) := by decide +kernel
theorem dX6_isHeardFrom_5 : decode cX6_isHeardFrom 5 = .ok (.iaload, 1) := by decide +kernel
theorem dX6_isHeardFrom_6 : decode cX6_isHeardFrom 6 = .ok (.ldc 65, 2) := by decide +kernel
theorem dX6_isHeardFrom_8 : decode cX6_isHeardFrom 8 = .ok (.if_icmp .eq 16, 3) := by decide +kernel
theorem dX6_isHeardFrom_11 : decode cX6_isHeardFrom 11 = .ok (.aload_n 0, 1) := by decide +kernel
theorem dX6_isHeardFrom_12 : decode cX6_isHeardFrom 12 = .ok (.iload_n 1, 1) := by decide +kernel
theorem dX6_isHeardFrom_13 : decode cX6_isHeardFrom 13 = .ok (.invokevirtual 81, 3) := by decide +kernel
theorem dX6_isHeardFrom_16 : decode cX6_isHeardFrom 16 = .ok (.iload_n 2, 1) := by decide +kernel
theorem dX6_isHeardFrom_17 : decode cX6_isHeardFrom 17 = .ok (.if_icmp .gt 7, 3) := by decide +kernel
theorem dX6_isHeardFrom_20 : decode cX6_isHeardFrom 20 = .ok (.iconst 1, 1) := by decide +kernel
theorem dX6_isHeardFrom_21 : decode cX6_isHeardFrom 21 = .ok (.goto 4, 3) := by decide +kernel
theorem dX6_isHeardFrom_24 : decode cX6_isHeardFrom 24 = .ok (.iconst 0, 1) := by decide +kernel
theorem dX6_isHeardFrom_25 : decode cX6_isHeardFrom 25 = .ok (.ireturn, 1) := by decide +kernel
theorem dX6_heardCount_0 : decode cX6_heardCount 0 = .ok (.iconst 0, 1) := by decide +kernel
theorem dX6_heardCount_1 : decode cX6_heardCount 1 = .ok (.istore_n 3, 1) := by decide +kernel
theorem dX6_heardCount_2 : decode cX6_heardCount 2 = .ok (.iconst 0, 1) := by decide +kernel
theorem dX6_heardCount_3 : decode cX6_heardCount 3 = .ok (.istore 4, 2) := by decide +kernel
theorem dX6_heardCount_5 : decode cX6_heardCount 5 = .ok (.iload 4, 2) := by decide +kernel
theorem dX6_heardCount_7 : decode cX6_heardCount 7 = .ok (.aload_n 0, 1) := by decide +kernel
theorem dX6_heardCount_8 : decode cX6_heardCount 8 = .ok (.getfield 30, 3) := by decide +kernel
theorem dX6_heardCount_11 : decode cX6_heardCount 11 = .ok (.if_icmp .ge 28, 3) := by decide +kernel
theorem dX6_heardCount_14 : decode cX6_heardCount 14 = .ok (.iload 4, 2) := by decide +kernel
theorem dX6_heardCount_16 : decode cX6_heardCount 16 = .ok (.iload_n 1, 1) := by decide +kernel
theorem dX6_heardCount_17 : decode cX6_heardCount 17 = .ok (.if_icmp .eq 16, 3) := by decide +kernel
theorem dX6_heardCount_20 : decode cX6_heardCount 20 = .ok (.aload_n 0, 1) := by decide +kernel
theorem dX6_heardCount_21 : decode cX6_heardCount 21 = .ok (.iload 4, 2) := by decide +kernel
theorem dX6_heardCount_23 : decode cX6_heardCount 23 = .ok (.iload_n 2, 1) := by decide +kernel
theorem dX6_heardCount_24 : decode cX6_heardCount 24 = .ok (.invokevirtual 84, 3) := by decide +kernel
theorem dX6_heardCount_27 : decode cX6_heardCount 27 = .ok (.ifCond .eq 6, 3) := by decide +kernel
theorem dX6_heardCount_30 : decode cX6_heardCount 30 = .ok (.iinc 3 1, 3) := by decide +kernel
theorem dX6_heardCount_33 : decode cX6_heardCount 33 = .ok (.iinc 4 1, 3) := by decide +kernel
theorem dX6_heardCount_36 : decode cX6_heardCount 36 = .ok (.goto (-31), 3) := by decide +kernel
theorem dX6_heardCount_39 : decode cX6_heardCount 39 = .ok (.iload_n 3, 1) := by decide +kernel
theorem dX6_heardCount_40 : decode cX6_heardCount 40 = .ok (.ireturn, 1) := by decide +kernel
theorem dX6_heardLoss_0 : decode cX6_heardLoss 0 = .ok (.iconst 0, 1) := by decide +kernel
theorem dX6_heardLoss_1 : decode cX6_heardLoss 1 = .ok (.istore_n 3, 1) := by decide +kernel
theorem dX6_heardLoss_2 : decode cX6_heardLoss 2 = .ok (.iconst 0, 1) := by decide +kernel
theorem dX6_heardLoss_3 : decode cX6_heardLoss 3 = .ok (.istore 4, 2) := by decide +kernel
theorem dX6_heardLoss_5 : decode cX6_heardLoss 5 = .ok (.iload 4, 2) := by decide +kernel
theorem dX6_heardLoss_7 : decode cX6_heardLoss 7 = .ok (.aload_n 0, 1) := by decide +kernel
theorem dX6_heardLoss_8 : decode cX6_heardLoss 8 = .ok (.getfield 30, 3) := by decide +kernel
theorem dX6_heardLoss_11 : decode cX6_heardLoss 11 = .ok (.if_icmp .ge 34, 3) := by decide +kernel
theorem dX6_heardLoss_14 : decode cX6_heardLoss 14 = .ok (.iload 4, 2) := by decide +kernel
theorem dX6_heardLoss_16 : decode cX6_heardLoss 16 = .ok (.iload_n 1, 1) := by decide +kernel
theorem dX6_heardLoss_17 : decode cX6_heardLoss 17 = .ok (.if_icmp .eq 22, 3) := by decide +kernel
theorem dX6_heardLoss_20 : decode cX6_heardLoss 20 = .ok (.aload_n 0, 1) := by decide +kernel
theorem dX6_heardLoss_21 : decode cX6_heardLoss 21 = .ok (.iload 4, 2) := by decide +kernel
theorem dX6_heardLoss_23 : decode cX6_heardLoss 23 = .ok (.iload_n 2, 1) := by decide +kernel
theorem dX6_heardLoss_24 : decode cX6_heardLoss 24 = .ok (.invokevirtual 84, 3) := by decide +kernel
theorem dX6_heardLoss_27 : decode cX6_heardLoss 27 = .ok (.ifCond .eq 12, 3) := by decide +kernel
theorem dX6_heardLoss_30 : decode cX6_heardLoss 30 = .ok (.iload_n 3, 1) := by decide +kernel
theorem dX6_heardLoss_31 : decode cX6_heardLoss 31 = .ok (.aload_n 0, 1) := by decide +kernel
theorem dX6_heardLoss_32 : decode cX6_heardLoss 32 = .ok (.iload 4, 2) := by decide +kernel
theorem dX6_heardLoss_34 : decode cX6_heardLoss 34 = .ok (.invokevirtual 81, 3) := by decide +kernel
theorem dX6_heardLoss_37 : decode cX6_heardLoss 37 = .ok (.iadd, 1) := by decide +kernel
theorem dX6_heardLoss_38 : decode cX6_heardLoss 38 = .ok (.istore_n 3, 1) := by decide +kernel
theorem dX6_heardLoss_39 : decode cX6_heardLoss 39 = .ok (.iinc 4 1, 3) := by decide +kernel
theorem dX6_heardLoss_42 : decode cX6_heardLoss 42 = .ok (.goto (-37), 3) := by decide +kernel
theorem dX6_heardLoss_45 : decode cX6_heardLoss 45 = .ok (.iload_n 3, 1) := by decide +kernel
theorem dX6_heardLoss_46 : decode cX6_heardLoss 46 = .ok (.ireturn, 1) := by decide +kernel
theorem dX6_windowOnWay_0 : decode cX6_windowOnWay 0 = .ok (.iload_n 2, 1) := by decide +kernel
theorem dX6_windowOnWay_1 : decode cX6_windowOnWay 1 = .ok (.aload_n 0, 1) := by decide +kernel
theorem dX6_windowOnWay_2 : decode cX6_windowOnWay 2 = .ok (.iload_n 1, 1) := by decide +kernel
theorem dX6_windowOnWay_3 : decode cX6_windowOnWay 3 = .ok (.invokevirtual 87, 3) := by decide +kernel
theorem dX6_windowOnWay_6 : decode cX6_windowOnWay 6 = .ok (.if_icmp .le 5, 3) := by decide +kernel
theorem dX6_windowOnWay_9 : decode cX6_windowOnWay 9 = .ok (.iconst (-1), 1) := by decide +kernel
theorem dX6_windowOnWay_10 : decode cX6_windowOnWay 10 = .ok (.ireturn, 1) := by decide +kernel
theorem dX6_windowOnWay_11 : decode cX6_windowOnWay 11 = .ok (.iload_n 1, 1) := by decide +kernel
theorem dX6_windowOnWay_12 : decode cX6_windowOnWay 12 = .ok (.istore_n 3, 1) := by decide +kernel
theorem dX6_windowOnWay_13 : decode cX6_windowOnWay 13 = .ok (.iconst 0, 1) := by decide +kernel
theorem dX6_windowOnWay_14 : decode cX6_windowOnWay 14 = .ok (.istore 4, 2) := by decide +kernel
theorem dX6_windowOnWay_16 : decode cX6_windowOnWay 16 = .ok (.iload 4, 2) := by decide +kernel
theorem dX6_windowOnWay_18 : decode cX6_windowOnWay 18 = .ok (.iload_n 2, 1) := by decide +kernel
theorem dX6_windowOnWay_19 : decode cX6_windowOnWay 19 = .ok (.if_icmp .ge 20, 3) := by decide +kernel
theorem dX6_windowOnWay_22 : decode cX6_windowOnWay 22 = .ok (.iload_n 3, 1) := by decide +kernel
theorem dX6_windowOnWay_23 : decode cX6_windowOnWay 23 = .ok (.iconst (-1), 1) := by decide +kernel
theorem dX6_windowOnWay_24 : decode cX6_windowOnWay 24 = .ok (.if_icmp .eq 15, 3) := by decide +kernel
theorem dX6_windowOnWay_27 : decode cX6_windowOnWay 27 = .ok (.aload_n 0, 1) := by decide +kernel
theorem dX6_windowOnWay_28 : decode cX6_windowOnWay 28 = .ok (.iload_n 3, 1) := by decide +kernel
theorem dX6_windowOnWay_29 : decode cX6_windowOnWay 29 = .ok (.invokevirtual 90, 3) := by decide +kernel
theorem dX6_windowOnWay_32 : decode cX6_windowOnWay 32 = .ok (.istore_n 3, 1) := by decide +kernel
theorem dX6_windowOnWay_33 : decode cX6_windowOnWay 33 = .ok (.iinc 4 1, 3) := by decide +kernel
theorem dX6_windowOnWay_36 : decode cX6_windowOnWay 36 = .ok (.goto (-20), 3) := by decide +kernel
theorem dX6_windowOnWay_39 : decode cX6_windowOnWay 39 = .ok (.iload_n 3, 1) := by decide +kernel
theorem dX6_windowOnWay_40 : decode cX6_windowOnWay 40 = .ok (.ireturn, 1) := by decide +kernel
theorem dX6_onward_0 : decode cX6_onward 0 = .ok (.iconst 0, 1) := by decide +kernel
theorem dX6_onward_1 : decode cX6_onward 1 = .ok (.istore_n 2, 1) := by decide +kernel
theorem dX6_onward_2 : decode cX6_onward 2 = .ok (.iload_n 2, 1) := by decide +kernel
theorem dX6_onward_3 : decode cX6_onward 3 = .ok (.aload_n 0, 1) := by decide +kernel
theorem dX6_onward_4 : decode cX6_onward 4 = .ok (.getfield 30, 3) := by decide +kernel
theorem dX6_onward_7 : decode cX6_onward 7 = .ok (.if_icmp .ge 42, 3) := by decide +kernel
theorem dX6_onward_10 : decode cX6_onward 10 = .ok (.aload_n 0, 1) := by decide +kernel
theorem dX6_onward_11 : decode cX6_onward 11 = .ok (.iload_n 1, 1) := by decide +kernel
theorem dX6_onward_12 : decode cX6_onward 12 = .ok (.iload_n 2, 1) := by decide +kernel
theorem dX6_onward_13 : decode cX6_onward 13 = .ok (.invokevirtual 93, 3) := by decide +kernel
theorem dX6_onward_16 : decode cX6_onward 16 = .ok (.ifCond .eq 27, 3) := by decide +kernel
theorem dX6_onward_19 : decode cX6_onward 19 = .ok (.aload_n 0, 1) := by decide +kernel
theorem dX6_onward_20 : decode cX6_onward 20 = .ok (.getfield 18, 3) := by decide +kernel
theorem dX6_onward_23 : decode cX6_onward 23 = .ok (.iload_n 2, 1) := by decide +kernel
theorem dX6_onward_24 : decode cX6_onward 24 = .ok (.iaload, 1) := by decide +kernel
theorem dX6_onward_25 : decode cX6_onward 25 = .ok (.aload_n 0, 1) := by decide +kernel
theorem dX6_onward_26 : decode cX6_onward 26 = .ok (.iload_n 1, 1) := by decide +kernel
theorem dX6_onward_27 : decode cX6_onward 27 = .ok (.iload_n 2, 1) := by decide +kernel
theorem dX6_onward_28 : decode cX6_onward 28 = .ok (.invokevirtual 72, 3) := by decide +kernel
theorem dX6_onward_31 : decode cX6_onward 31 = .ok (.iadd, 1) := by decide +kernel
theorem dX6_onward_32 : decode cX6_onward 32 = .ok (.aload_n 0, 1) := by decide +kernel
theorem dX6_onward_33 : decode cX6_onward 33 = .ok (.getfield 18, 3) := by decide +kernel
theorem dX6_onward_36 : decode cX6_onward 36 = .ok (.iload_n 1, 1) := by decide +kernel
theorem dX6_onward_37 : decode cX6_onward 37 = .ok (.iaload, 1) := by decide +kernel
theorem dX6_onward_38 : decode cX6_onward 38 = .ok (.if_icmp .ne 5, 3) := by decide +kernel
theorem dX6_onward_41 : decode cX6_onward 41 = .ok (.iload_n 2, 1) := by decide +kernel
theorem dX6_onward_42 : decode cX6_onward 42 = .ok (.ireturn, 1) := by decide +kernel
theorem dX6_onward_43 : decode cX6_onward 43 = .ok (.iinc 2 1, 3) := by decide +kernel
theorem dX6_onward_46 : decode cX6_onward 46 = .ok (.goto (-44), 3) := by decide +kernel
theorem dX6_onward_49 : decode cX6_onward 49 = .ok (.iconst (-1), 1) := by decide +kernel
theorem dX6_onward_50 : decode cX6_onward 50 = .ok (.ireturn, 1) := by decide +kernel
theorem dX6_reachOf_0 : decode cX6_reachOf 0 = .ok (.iconst 1, 1) := by decide +kernel
theorem dX6_reachOf_1 : decode cX6_reachOf 1 = .ok (.iload_n 1, 1) := by decide +kernel
theorem dX6_reachOf_2 : decode cX6_reachOf 2 = .ok (.ishl, 1) := by decide +kernel
theorem dX6_reachOf_3 : decode cX6_reachOf 3 = .ok (.istore_n 2, 1) := by decide +kernel
theorem dX6_reachOf_4 : decode cX6_reachOf 4 = .ok (.iload_n 2, 1) := by decide +kernel
theorem dX6_reachOf_5 : decode cX6_reachOf 5 = .ok (.istore_n 3, 1) := by decide +kernel
theorem dX6_reachOf_6 : decode cX6_reachOf 6 = .ok (.iconst 0, 1) := by decide +kernel
theorem dX6_reachOf_7 : decode cX6_reachOf 7 = .ok (.istore 4, 2) := by decide +kernel
theorem dX6_reachOf_9 : decode cX6_reachOf 9 = .ok (.iload 4, 2) := by decide +kernel
theorem dX6_reachOf_11 : decode cX6_reachOf 11 = .ok (.aload_n 0, 1) := by decide +kernel
theorem dX6_reachOf_12 : decode cX6_reachOf 12 = .ok (.getfield 30, 3) := by decide +kernel
theorem dX6_reachOf_15 : decode cX6_reachOf 15 = .ok (.if_icmp .ge 27, 3) := by decide +kernel
theorem dX6_reachOf_18 : decode cX6_reachOf 18 = .ok (.iload_n 3, 1) := by decide +kernel
theorem dX6_reachOf_19 : decode cX6_reachOf 19 = .ok (.ifCond .eq 23, 3) := by decide +kernel
theorem dX6_reachOf_22 : decode cX6_reachOf 22 = .ok (.aload_n 0, 1) := by decide +kernel
theorem dX6_reachOf_23 : decode cX6_reachOf 23 = .ok (.iload_n 3, 1) := by decide +kernel
theorem dX6_reachOf_24 : decode cX6_reachOf 24 = .ok (.invokevirtual 96, 3) := by decide +kernel
theorem dX6_reachOf_27 : decode cX6_reachOf 27 = .ok (.iload_n 2, 1) := by decide +kernel
theorem dX6_reachOf_28 : decode cX6_reachOf 28 = .ok (.iconst (-1), 1) := by decide +kernel
theorem dX6_reachOf_29 : decode cX6_reachOf 29 = .ok (.ixor, 1) := by decide +kernel
theorem dX6_reachOf_30 : decode cX6_reachOf 30 = .ok (.iand, 1) := by decide +kernel
theorem dX6_reachOf_31 : decode cX6_reachOf 31 = .ok (.istore_n 3, 1) := by decide +kernel
theorem dX6_reachOf_32 : decode cX6_reachOf 32 = .ok (.iload_n 2, 1) := by decide +kernel
theorem dX6_reachOf_33 : decode cX6_reachOf 33 = .ok (.iload_n 3, 1) := by decide +kernel
theorem dX6_reachOf_34 : decode cX6_reachOf 34 = .ok (.ior, 1) := by decide +kernel
theorem dX6_reachOf_35 : decode cX6_reachOf 35 = .ok (.istore_n 2, 1) := by decide +kernel
theorem dX6_reachOf_36 : decode cX6_reachOf 36 = .ok (.iinc 4 1, 3) := by decide +kernel
theorem dX6_reachOf_39 : decode cX6_reachOf 39 = .ok (.goto (-30), 3) := by decide +kernel
theorem dX6_reachOf_42 : decode cX6_reachOf 42 = .ok (.iload_n 2, 1) := by decide +kernel
theorem dX6_reachOf_43 : decode cX6_reachOf 43 = .ok (.ireturn, 1) := by decide +kernel
theorem dX6_linksOf_0 : decode cX6_linksOf 0 = .ok (.iconst 0, 1) := by decide +kernel
theorem dX6_linksOf_1 : decode cX6_linksOf 1 = .ok (.istore_n 2, 1) := by decide +kernel
theorem dX6_linksOf_2 : decode cX6_linksOf 2 = .ok (.iconst 0, 1) := by decide +kernel
theorem dX6_linksOf_3 : decode cX6_linksOf 3 = .ok (.istore_n 3, 1) := by decide +kernel
theorem dX6_linksOf_4 : decode cX6_linksOf 4 = .ok (.iload_n 3, 1) := by decide +kernel
theorem dX6_linksOf_5 : decode cX6_linksOf 5 = .ok (.aload_n 0, 1) := by decide +kernel
theorem dX6_linksOf_6 : decode cX6_linksOf 6 = .ok (.getfield 30, 3) := by decide +kernel
theorem dX6_linksOf_9 : decode cX6_linksOf 9 = .ok (.if_icmp .ge 26, 3) := by decide +kernel
theorem dX6_linksOf_12 : decode cX6_linksOf 12 = .ok (.iload_n 1, 1) := by decide +kernel
theorem dX6_linksOf_13 : decode cX6_linksOf 13 = .ok (.iload_n 3, 1) := by decide +kernel
theorem dX6_linksOf_14 : decode cX6_linksOf 14 = .ok (.ishr, 1) := by decide +kernel
theorem dX6_linksOf_15 : decode cX6_linksOf 15 = .ok (.iconst 1, 1) := by decide +kernel
theorem dX6_linksOf_16 : decode cX6_linksOf 16 = .ok (.iand, 1) := by decide +kernel
theorem dX6_linksOf_17 : decode cX6_linksOf 17 = .ok (.ifCond .eq 12, 3) := by decide +kernel
theorem dX6_linksOf_20 : decode cX6_linksOf 20 = .ok (.iload_n 2, 1) := by decide +kernel
theorem dX6_linksOf_21 : decode cX6_linksOf 21 = .ok (.aload_n 0, 1) := by decide +kernel
theorem dX6_linksOf_22 : decode cX6_linksOf 22 = .ok (.getfield 9, 3) := by decide +kernel
theorem dX6_linksOf_25 : decode cX6_linksOf 25 = .ok (.iload_n 3, 1) := by decide +kernel
theorem dX6_linksOf_26 : decode cX6_linksOf 26 = .ok (.iaload, 1) := by decide +kernel
theorem dX6_linksOf_27 : decode cX6_linksOf 27 = .ok (.ior, 1) := by decide +kernel
theorem dX6_linksOf_28 : decode cX6_linksOf 28 = .ok (.istore_n 2, 1) := by decide +kernel
theorem dX6_linksOf_29 : decode cX6_linksOf 29 = .ok (.iinc 3 1, 3) := by decide +kernel
theorem dX6_linksOf_32 : decode cX6_linksOf 32 = .ok (.goto (-28), 3) := by decide +kernel
theorem dX6_linksOf_35 : decode cX6_linksOf 35 = .ok (.iload_n 2, 1) := by decide +kernel
theorem dX6_linksOf_36 : decode cX6_linksOf 36 = .ok (.ireturn, 1) := by decide +kernel
theorem dX6_spread_0 : decode cX6_spread 0 = .ok (.aload_n 0, 1) := by decide +kernel
theorem dX6_spread_1 : decode cX6_spread 1 = .ok (.getfield 21, 3) := by decide +kernel
theorem dX6_spread_4 : decode cX6_spread 4 = .ok (.iconst (-1), 1) := by decide +kernel
theorem dX6_spread_5 : decode cX6_spread 5 = .ok (.invokestatic 31, 3) := by decide +kernel
theorem dX6_spread_8 : decode cX6_spread 8 = .ok (.iconst 1, 1) := by decide +kernel
theorem dX6_spread_9 : decode cX6_spread 9 = .ok (.iload_n 1, 1) := by decide +kernel
theorem dX6_spread_10 : decode cX6_spread 10 = .ok (.ishl, 1) := by decide +kernel
theorem dX6_spread_11 : decode cX6_spread 11 = .ok (.istore_n 2, 1) := by decide +kernel
theorem dX6_spread_12 : decode cX6_spread 12 = .ok (.iload_n 2, 1) := by decide +kernel
theorem dX6_spread_13 : decode cX6_spread 13 = .ok (.istore_n 3, 1) := by decide +kernel
theorem dX6_spread_14 : decode cX6_spread 14 = .ok (.iconst 0, 1) := by decide +kernel
theorem dX6_spread_15 : decode cX6_spread 15 = .ok (.istore 4, 2) := by decide +kernel
theorem dX6_spread_17 : decode cX6_spread 17 = .ok (.iload 4, 2) := by decide +kernel
theorem dX6_spread_19 : decode cX6_spread 19 = .ok (.aload_n 0, 1) := by decide +kernel
theorem dX6_spread_20 : decode cX6_spread 20 = .ok (.getfield 30, 3) := by decide +kernel
theorem dX6_spread_23 : decode cX6_spread 23 = .ok (.if_icmp .ge 63, 3) := by decide +kernel
theorem dX6_spread_26 : decode cX6_spread 26 = .ok (.iload_n 3, 1) := by decide +kernel
theorem dX6_spread_27 : decode cX6_spread 27 = .ok (.ifCond .eq 59, 3) := by decide +kernel
theorem dX6_spread_30 : decode cX6_spread 30 = .ok (.iconst 0, 1) := by decide +kernel
theorem dX6_spread_31 : decode cX6_spread 31 = .ok (.istore 5, 2) := by decide +kernel
theorem dX6_spread_33 : decode cX6_spread 33 = .ok (.iload 5, 2) := by decide +kernel
theorem dX6_spread_35 : decode cX6_spread 35 = .ok (.aload_n 0, 1) := by decide +kernel
theorem dX6_spread_36 : decode cX6_spread 36 = .ok (.getfield 30, 3) := by decide +kernel
theorem dX6_spread_39 : decode cX6_spread 39 = .ok (.if_icmp .ge 27, 3) := by decide +kernel
theorem dX6_spread_42 : decode cX6_spread 42 = .ok (.iload_n 3, 1) := by decide +kernel
theorem dX6_spread_43 : decode cX6_spread 43 = .ok (.iload 5, 2) := by decide +kernel
theorem dX6_spread_45 : decode cX6_spread 45 = .ok (.ishr, 1) := by decide +kernel
theorem dX6_spread_46 : decode cX6_spread 46 = .ok (.iconst 1, 1) := by decide +kernel
theorem dX6_spread_47 : decode cX6_spread 47 = .ok (.iand, 1) := by decide +kernel
theorem dX6_spread_48 : decode cX6_spread 48 = .ok (.ifCond .eq 12, 3) := by decide +kernel
theorem dX6_spread_51 : decode cX6_spread 51 = .ok (.aload_n 0, 1) := by decide +kernel
theorem dX6_spread_52 : decode cX6_spread 52 = .ok (.getfield 21, 3) := by decide +kernel
theorem dX6_spread_55 : decode cX6_spread 55 = .ok (.iload 5, 2) := by decide +kernel
theorem dX6_spread_57 : decode cX6_spread 57 = .ok (.iload 4, 2) := by decide +kernel
theorem dX6_spread_59 : decode cX6_spread 59 = .ok (.iastore, 1) := by decide +kernel
theorem dX6_spread_60 : decode cX6_spread 60 = .ok (.iinc 5 1, 3) := by decide +kernel
theorem dX6_spread_63 : decode cX6_spread 63 = .ok (.goto (-30), 3) := by decide +kernel
theorem dX6_spread_66 : decode cX6_spread 66 = .ok (.aload_n 0, 1) := by decide +kernel
theorem dX6_spread_67 : decode cX6_spread 67 = .ok (.iload_n 3, 1) := by decide +kernel
theorem dX6_spread_68 : decode cX6_spread 68 = .ok (.invokevirtual 96, 3) := by decide +kernel
theorem dX6_spread_71 : decode cX6_spread 71 = .ok (.iload_n 2, 1) := by decide +kernel
theorem dX6_spread_72 : decode cX6_spread 72 = .ok (.iconst (-1), 1) := by decide +kernel
theorem dX6_spread_73 : decode cX6_spread 73 = .ok (.ixor, 1) := by decide +kernel
theorem dX6_spread_74 : decode cX6_spread 74 = .ok (.iand, 1) := by decide +kernel
theorem dX6_spread_75 : decode cX6_spread 75 = .ok (.istore_n 3, 1) := by decide +kernel
theorem dX6_spread_76 : decode cX6_spread 76 = .ok (.iload_n 2, 1) := by decide +kernel
theorem dX6_spread_77 : decode cX6_spread 77 = .ok (.iload_n 3, 1) := by decide +kernel
theorem dX6_spread_78 : decode cX6_spread 78 = .ok (.ior, 1) := by decide +kernel
theorem dX6_spread_79 : decode cX6_spread 79 = .ok (.istore_n 2, 1) := by decide +kernel
theorem dX6_spread_80 : decode cX6_spread 80 = .ok (.iinc 4 1, 3) := by decide +kernel
theorem dX6_spread_83 : decode cX6_spread 83 = .ok (.goto (-66), 3) := by decide +kernel
theorem dX6_spread_86 : decode cX6_spread 86 = .ok (.return_, 1) := by decide +kernel
theorem dX6_spreadsAs_0 : decode cX6_spreadsAs 0 = .ok (.aload_n 0, 1) := by decide +kernel
theorem dX6_spreadsAs_1 : decode cX6_spreadsAs 1 = .ok (.iload_n 1, 1) := by decide +kernel
theorem dX6_spreadsAs_2 : decode cX6_spreadsAs 2 = .ok (.invokevirtual 99, 3) := by decide +kernel
theorem dX6_spreadsAs_5 : decode cX6_spreadsAs 5 = .ok (.iconst 0, 1) := by decide +kernel
theorem dX6_spreadsAs_6 : decode cX6_spreadsAs 6 = .ok (.istore_n 3, 1) := by decide +kernel
theorem dX6_spreadsAs_7 : decode cX6_spreadsAs 7 = .ok (.iload_n 3, 1) := by decide +kernel
theorem dX6_spreadsAs_8 : decode cX6_spreadsAs 8 = .ok (.aload_n 0, 1) := by decide +kernel
theorem dX6_spreadsAs_9 : decode cX6_spreadsAs 9 = .ok (.getfield 30, 3) := by decide +kernel
theorem dX6_spreadsAs_12 : decode cX6_spreadsAs 12 = .ok (.if_icmp .ge 27, 3) := by decide +kernel
theorem dX6_spreadsAs_15 : decode cX6_spreadsAs 15 = .ok (.aload_n 2, 1) := by decide +kernel
theorem dX6_spreadsAs_16 : decode cX6_spreadsAs 16 = .ok (.iload_n 3, 1) := by decide +kernel
theorem dX6_spreadsAs_17 : decode cX6_spreadsAs 17 = .ok (.invokevirtual 103, 3) := by decide +kernel
theorem dX6_spreadsAs_20 : decode cX6_spreadsAs 20 = .ok (.aload_n 0, 1) := by decide +kernel
theorem dX6_spreadsAs_21 : decode cX6_spreadsAs 21 = .ok (.getfield 21, 3) := by decide +kernel
theorem dX6_spreadsAs_24 : decode cX6_spreadsAs 24 = .ok (.iload_n 3, 1) := by decide +kernel
theorem dX6_spreadsAs_25 : decode cX6_spreadsAs 25 = .ok (.iaload, 1) := by decide +kernel
theorem dX6_spreadsAs_26 : decode cX6_spreadsAs 26 = .ok (.i2l, 1) := by decide +kernel
theorem dX6_spreadsAs_27 : decode cX6_spreadsAs 27 = .ok (.lcmp, 1) := by decide +kernel
theorem dX6_spreadsAs_28 : decode cX6_spreadsAs 28 = .ok (.ifCond .eq 5, 3) := by decide +kernel
theorem dX6_spreadsAs_31 : decode cX6_spreadsAs 31 = .ok (.iconst 0, 1) := by decide +kernel
theorem dX6_spreadsAs_32 : decode cX6_spreadsAs 32 = .ok (.ireturn, 1) := by decide +kernel
theorem dX6_spreadsAs_33 : decode cX6_spreadsAs 33 = .ok (.iinc 3 1, 3) := by decide +kernel
theorem dX6_spreadsAs_36 : decode cX6_spreadsAs 36 = .ok (.goto (-29), 3) := by decide +kernel
theorem dX6_spreadsAs_39 : decode cX6_spreadsAs 39 = .ok (.iconst 1, 1) := by decide +kernel
theorem dX6_spreadsAs_40 : decode cX6_spreadsAs 40 = .ok (.ireturn, 1) := by decide +kernel
theorem dX6_isStay_0 : decode cX6_isStay 0 = .ok (.aload_n 0, 1) := by decide +kernel
theorem dX6_isStay_1 : decode cX6_isStay 1 = .ok (.iload_n 1, 1) := by decide +kernel
theorem dX6_isStay_2 : decode cX6_isStay 2 = .ok (.iload_n 2, 1) := by decide +kernel
theorem dX6_isStay_3 : decode cX6_isStay 3 = .ok (.invokevirtual 93, 3) := by decide +kernel
theorem dX6_isStay_6 : decode cX6_isStay 6 = .ok (.ifCond .ne 5, 3) := by decide +kernel
theorem dX6_isStay_9 : decode cX6_isStay 9 = .ok (.iconst 0, 1) := by decide +kernel
theorem dX6_isStay_10 : decode cX6_isStay 10 = .ok (.ireturn, 1) := by decide +kernel
theorem dX6_isStay_11 : decode cX6_isStay 11 = .ok (.aload_n 0, 1) := by decide +kernel
theorem dX6_isStay_12 : decode cX6_isStay 12 = .ok (.iload_n 1, 1) := by decide +kernel
theorem dX6_isStay_13 : decode cX6_isStay 13 = .ok (.iload_n 2, 1) := by decide +kernel
theorem dX6_isStay_14 : decode cX6_isStay 14 = .ok (.invokevirtual 109, 3) := by decide +kernel
theorem dX6_isStay_17 : decode cX6_isStay 17 = .ok (.aload_n 0, 1) := by decide +kernel
theorem dX6_isStay_18 : decode cX6_isStay 18 = .ok (.iload_n 1, 1) := by decide +kernel
theorem dX6_isStay_19 : decode cX6_isStay 19 = .ok (.invokevirtual 112, 3) := by decide +kernel
theorem dX6_isStay_22 : decode cX6_isStay 22 = .ok (.iload_n 2, 1) := by decide +kernel
theorem dX6_isStay_23 : decode cX6_isStay 23 = .ok (.ishr, 1) := by decide +kernel
theorem dX6_isStay_24 : decode cX6_isStay 24 = .ok (.iconst 1, 1) := by decide +kernel
theorem dX6_isStay_25 : decode cX6_isStay 25 = .ok (.iand, 1) := by decide +kernel
theorem dX6_isStay_26 : decode cX6_isStay 26 = .ok (.ifCond .ne 7, 3) := by decide +kernel
theorem dX6_isStay_29 : decode cX6_isStay 29 = .ok (.iconst 1, 1) := by decide +kernel
theorem dX6_isStay_30 : decode cX6_isStay 30 = .ok (.goto 4, 3) := by decide +kernel
theorem dX6_isStay_33 : decode cX6_isStay 33 = .ok (.iconst 0, 1) := by decide +kernel
theorem dX6_isStay_34 : decode cX6_isStay 34 = .ok (.istore_n 3, 1) := by decide +kernel
theorem dX6_isStay_35 : decode cX6_isStay 35 = .ok (.aload_n 0, 1) := by decide +kernel
theorem dX6_isStay_36 : decode cX6_isStay 36 = .ok (.iload_n 1, 1) := by decide +kernel
theorem dX6_isStay_37 : decode cX6_isStay 37 = .ok (.iload_n 2, 1) := by decide +kernel
theorem dX6_isStay_38 : decode cX6_isStay 38 = .ok (.invokevirtual 54, 3) := by decide +kernel
theorem dX6_isStay_41 : decode cX6_isStay 41 = .ok (.iload_n 3, 1) := by decide +kernel
theorem dX6_isStay_42 : decode cX6_isStay 42 = .ok (.ireturn, 1) := by decide +kernel
theorem dX6_stays_0 : decode cX6_stays 0 = .ok (.iconst 0, 1) := by decide +kernel
theorem dX6_stays_1 : decode cX6_stays 1 = .ok (.istore_n 1, 1) := by decide +kernel
theorem dX6_stays_2 : decode cX6_stays 2 = .ok (.iconst 0, 1) := by decide +kernel
theorem dX6_stays_3 : decode cX6_stays 3 = .ok (.istore_n 2, 1) := by decide +kernel
theorem dX6_stays_4 : decode cX6_stays 4 = .ok (.iload_n 2, 1) := by decide +kernel
theorem dX6_stays_5 : decode cX6_stays 5 = .ok (.aload_n 0, 1) := by decide +kernel
theorem dX6_stays_6 : decode cX6_stays 6 = .ok (.getfield 30, 3) := by decide +kernel
theorem dX6_stays_9 : decode cX6_stays 9 = .ok (.if_icmp .ge 39, 3) := by decide +kernel
theorem dX6_stays_12 : decode cX6_stays 12 = .ok (.iload_n 2, 1) := by decide +kernel
theorem dX6_stays_13 : decode cX6_stays 13 = .ok (.iconst 1, 1) := by decide +kernel
theorem dX6_stays_14 : decode cX6_stays 14 = .ok (.iadd, 1) := by decide +kernel
theorem dX6_stays_15 : decode cX6_stays 15 = .ok (.istore_n 3, 1) := by decide +kernel
theorem dX6_stays_16 : decode cX6_stays 16 = .ok (.iload_n 3, 1) := by decide +kernel
theorem dX6_stays_17 : decode cX6_stays 17 = .ok (.aload_n 0, 1) := by decide +kernel
theorem dX6_stays_18 : decode cX6_stays 18 = .ok (.getfield 30, 3) := by decide +kernel
theorem dX6_stays_21 : decode cX6_stays 21 = .ok (.if_icmp .ge 21, 3) := by decide +kernel
theorem dX6_stays_24 : decode cX6_stays 24 = .ok (.aload_n 0, 1) := by decide +kernel
theorem dX6_stays_25 : decode cX6_stays 25 = .ok (.iload_n 2, 1) := by decide +kernel
theorem dX6_stays_26 : decode cX6_stays 26 = .ok (.iload_n 3, 1) := by decide +kernel
theorem dX6_stays_27 : decode cX6_stays 27 = .ok (.invokevirtual 115, 3) := by decide +kernel
theorem dX6_stays_30 : decode cX6_stays 30 = .ok (.ifCond .eq 6, 3) := by decide +kernel
theorem dX6_stays_33 : decode cX6_stays 33 = .ok (.iinc 1 1, 3) := by decide +kernel
theorem dX6_stays_36 : decode cX6_stays 36 = .ok (.iinc 3 1, 3) := by decide +kernel
theorem dX6_stays_39 : decode cX6_stays 39 = .ok (.goto (-23), 3) := by decide +kernel
theorem dX6_stays_42 : decode cX6_stays 42 = .ok (.iinc 2 1, 3) := by decide +kernel
theorem dX6_stays_45 : decode cX6_stays 45 = .ok (.goto (-41), 3) := by decide +kernel
theorem dX6_stays_48 : decode cX6_stays 48 = .ok (.iload_n 1, 1) := by decide +kernel
theorem dX6_stays_49 : decode cX6_stays 49 = .ok (.ireturn, 1) := by decide +kernel
theorem dX6_stayAt_0 : decode cX6_stayAt 0 = .ok (.iconst 0, 1) := by decide +kernel
theorem dX6_stayAt_1 : decode cX6_stayAt 1 = .ok (.istore_n 2, 1) := by decide +kernel
theorem dX6_stayAt_2 : decode cX6_stayAt 2 = .ok (.iconst 0, 1) := by decide +kernel
theorem dX6_stayAt_3 : decode cX6_stayAt 3 = .ok (.istore_n 3, 1) := by decide +kernel
theorem dX6_stayAt_4 : decode cX6_stayAt 4 = .ok (.iload_n 3, 1) := by decide +kernel
theorem dX6_stayAt_5 : decode cX6_stayAt 5 = .ok (.aload_n 0, 1) := by decide +kernel
theorem dX6_stayAt_6 : decode cX6_stayAt 6 = .ok (.getfield 30, 3) := by decide +kernel
theorem dX6_stayAt_9 : decode cX6_stayAt 9 = .ok (.if_icmp .ge 54, 3) := by decide +kernel
theorem dX6_stayAt_12 : decode cX6_stayAt 12 = .ok (.iload_n 3, 1) := by decide +kernel
theorem dX6_stayAt_13 : decode cX6_stayAt 13 = .ok (.iconst 1, 1) := by decide +kernel
theorem dX6_stayAt_14 : decode cX6_stayAt 14 = .ok (.iadd, 1) := by decide +kernel
theorem dX6_stayAt_15 : decode cX6_stayAt 15 = .ok (.istore 4, 2) := by decide +kernel
theorem dX6_stayAt_17 : decode cX6_stayAt 17 = .ok (.iload 4, 2) := by decide +kernel
theorem dX6_stayAt_19 : decode cX6_stayAt 19 = .ok (.aload_n 0, 1) := by decide +kernel
theorem dX6_stayAt_20 : decode cX6_stayAt 20 = .ok (.getfield 30, 3) := by decide +kernel
theorem dX6_stayAt_23 : decode cX6_stayAt 23 = .ok (.if_icmp .ge 34, 3) := by decide +kernel
theorem dX6_stayAt_26 : decode cX6_stayAt 26 = .ok (.aload_n 0, 1) := by decide +kernel
theorem dX6_stayAt_27 : decode cX6_stayAt 27 = .ok (.iload_n 3, 1) := by decide +kernel
theorem dX6_stayAt_28 : decode cX6_stayAt 28 = .ok (.iload 4, 2) := by decide +kernel
theorem dX6_stayAt_30 : decode cX6_stayAt 30 = .ok (.invokevirtual 115, 3) := by decide +kernel
theorem dX6_stayAt_33 : decode cX6_stayAt 33 = .ok (.ifCond .eq 18, 3) := by decide +kernel
theorem dX6_stayAt_36 : decode cX6_stayAt 36 = .ok (.iload_n 2, 1) := by decide +kernel
theorem dX6_stayAt_37 : decode cX6_stayAt 37 = .ok (.iload_n 1, 1) := by decide +kernel
theorem dX6_stayAt_38 : decode cX6_stayAt 38 = .ok (.if_icmp .ne 10, 3) := by decide +kernel
theorem dX6_stayAt_41 : decode cX6_stayAt 41 = .ok (.iload_n 3, 1) := by decide +kernel
theorem dX6_stayAt_42 : decode cX6_stayAt 42 = .ok (.iload 4, 2) := by decide +kernel
theorem dX6_stayAt_44 : decode cX6_stayAt 44 = .ok (.invokestatic 118, 3) := by decide +kernel
theorem dX6_stayAt_47 : decode cX6_stayAt 47 = .ok (.ireturn, 1) := by decide +kernel
theorem dX6_stayAt_48 : decode cX6_stayAt 48 = .ok (.iinc 2 1, 3) := by decide +kernel
theorem dX6_stayAt_51 : decode cX6_stayAt 51 = .ok (.iinc 4 1, 3) := by decide +kernel
theorem dX6_stayAt_54 : decode cX6_stayAt 54 = .ok (.goto (-37), 3) := by decide +kernel
theorem dX6_stayAt_57 : decode cX6_stayAt 57 = .ok (.iinc 3 1, 3) := by decide +kernel
theorem dX6_stayAt_60 : decode cX6_stayAt 60 = .ok (.goto (-56), 3) := by decide +kernel
theorem dX6_stayAt_63 : decode cX6_stayAt 63 = .ok (.iconst (-1), 1) := by decide +kernel
theorem dX6_stayAt_64 : decode cX6_stayAt 64 = .ok (.ireturn, 1) := by decide +kernel
theorem dX6_leastApart_0 : decode cX6_leastApart 0 = .ok (.aload_n 0, 1) := by decide +kernel
theorem dX6_leastApart_1 : decode cX6_leastApart 1 = .ok (.iload_n 1, 1) := by decide +kernel
theorem dX6_leastApart_2 : decode cX6_leastApart 2 = .ok (.invokestatic 51, 3) := by decide +kernel
theorem dX6_leastApart_5 : decode cX6_leastApart 5 = .ok (.putfield 121, 3) := by decide +kernel
theorem dX6_leastApart_8 : decode cX6_leastApart 8 = .ok (.aload_n 0, 1) := by decide +kernel
theorem dX6_leastApart_9 : decode cX6_leastApart 9 = .ok (.iload_n 2, 1) := by decide +kernel
theorem dX6_leastApart_10 : decode cX6_leastApart 10 = .ok (.invokestatic 47, 3) := by decide +kernel
theorem dX6_leastApart_13 : decode cX6_leastApart 13 = .ok (.putfield 124, 3) := by decide +kernel
theorem dX6_leastApart_16 : decode cX6_leastApart 16 = .ok (.aload_n 0, 1) := by decide +kernel
theorem dX6_leastApart_17 : decode cX6_leastApart 17 = .ok (.iload_n 2, 1) := by decide +kernel
theorem dX6_leastApart_18 : decode cX6_leastApart 18 = .ok (.invokestatic 51, 3) := by decide +kernel
theorem dX6_leastApart_21 : decode cX6_leastApart 21 = .ok (.putfield 127, 3) := by decide +kernel
theorem dX6_leastApart_24 : decode cX6_leastApart 24 = .ok (.aload_n 0, 1) := by decide +kernel
theorem dX6_leastApart_25 : decode cX6_leastApart 25 = .ok (.ldc 65, 2) := by decide +kernel
theorem dX6_leastApart_27 : decode cX6_leastApart 27 = .ok (.putfield 130, 3) := by decide +kernel
theorem dX6_leastApart_30 : decode cX6_leastApart 30 = .ok (.aload_n 0, 1) := by decide +kernel
theorem dX6_leastApart_31 : decode cX6_leastApart 31 = .ok (.iload_n 1, 1) := by decide +kernel
theorem dX6_leastApart_32 : decode cX6_leastApart 32 = .ok (.invokestatic 47, 3) := by decide +kernel
theorem dX6_leastApart_35 : decode cX6_leastApart 35 = .ok (.iconst 1, 1) := by decide +kernel
theorem dX6_leastApart_36 : decode cX6_leastApart 36 = .ok (.iload_n 1, 1) := by decide +kernel
theorem dX6_leastApart_37 : decode cX6_leastApart 37 = .ok (.invokestatic 47, 3) := by decide +kernel
theorem dX6_leastApart_40 : decode cX6_leastApart 40 = .ok (.ishl, 1) := by decide +kernel
theorem dX6_leastApart_41 : decode cX6_leastApart 41 = .ok (.iconst 0, 1) := by decide +kernel
theorem dX6_leastApart_42 : decode cX6_leastApart 42 = .ok (.iconst 0, 1) := by decide +kernel
theorem dX6_leastApart_43 : decode cX6_leastApart 43 = .ok (.invokevirtual 133, 3) := by decide +kernel
theorem dX6_leastApart_46 : decode cX6_leastApart 46 = .ok (.aload_n 0, 1) := by decide +kernel
theorem dX6_leastApart_47 : decode cX6_leastApart 47 = .ok (.getfield 130, 3) := by decide +kernel
theorem dX6_leastApart_50 : decode cX6_leastApart 50 = .ok (.ldc 65, 2) := by decide +kernel
theorem dX6_leastApart_52 : decode cX6_leastApart 52 = .ok (.if_icmp .ne 7, 3) := by decide +kernel
theorem dX6_leastApart_55 : decode cX6_leastApart 55 = .ok (.iconst (-1), 1) := by decide +kernel
theorem dX6_leastApart_56 : decode cX6_leastApart 56 = .ok (.goto 7, 3) := by decide +kernel
theorem dX6_leastApart_59 : decode cX6_leastApart 59 = .ok (.aload_n 0, 1) := by decide +kernel
theorem dX6_leastApart_60 : decode cX6_leastApart 60 = .ok (.getfield 130, 3) := by decide +kernel
theorem dX6_leastApart_63 : decode cX6_leastApart 63 = .ok (.ireturn, 1) := by decide +kernel
theorem dX6_goFrom_0 : decode cX6_goFrom 0 = .ok (.iload 4, 2) := by decide +kernel
theorem dX6_goFrom_2 : decode cX6_goFrom 2 = .ok (.bipush 12, 2) := by decide +kernel
theorem dX6_goFrom_4 : decode cX6_goFrom 4 = .ok (.if_icmp .ge 11, 3) := by decide +kernel
theorem dX6_goFrom_7 : decode cX6_goFrom 7 = .ok (.iload_n 3, 1) := by decide +kernel
theorem dX6_goFrom_8 : decode cX6_goFrom 8 = .ok (.aload_n 0, 1) := by decide +kernel
theorem dX6_goFrom_9 : decode cX6_goFrom 9 = .ok (.getfield 130, 3) := by decide +kernel
theorem dX6_goFrom_12 : decode cX6_goFrom 12 = .ok (.if_icmp .lt 4, 3) := by decide +kernel
theorem dX6_goFrom_15 : decode cX6_goFrom 15 = .ok (.return_, 1) := by decide +kernel
theorem dX6_goFrom_16 : decode cX6_goFrom 16 = .ok (.iload_n 1, 1) := by decide +kernel
theorem dX6_goFrom_17 : decode cX6_goFrom 17 = .ok (.aload_n 0, 1) := by decide +kernel
theorem dX6_goFrom_18 : decode cX6_goFrom 18 = .ok (.getfield 121, 3) := by decide +kernel
theorem dX6_goFrom_21 : decode cX6_goFrom 21 = .ok (.if_icmp .ne 48, 3) := by decide +kernel
theorem dX6_goFrom_24 : decode cX6_goFrom 24 = .ok (.aload_n 0, 1) := by decide +kernel
theorem dX6_goFrom_25 : decode cX6_goFrom 25 = .ok (.aload_n 0, 1) := by decide +kernel
theorem dX6_goFrom_26 : decode cX6_goFrom 26 = .ok (.getfield 127, 3) := by decide +kernel
theorem dX6_goFrom_29 : decode cX6_goFrom 29 = .ok (.iload_n 2, 1) := by decide +kernel
theorem dX6_goFrom_30 : decode cX6_goFrom 30 = .ok (.invokevirtual 137, 3) := by decide +kernel
theorem dX6_goFrom_33 : decode cX6_goFrom 33 = .ok (.aload_n 0, 1) := by decide +kernel
theorem dX6_goFrom_34 : decode cX6_goFrom 34 = .ok (.getfield 18, 3) := by decide +kernel
theorem dX6_goFrom_37 : decode cX6_goFrom 37 = .ok (.aload_n 0, 1) := by decide +kernel
theorem dX6_goFrom_38 : decode cX6_goFrom 38 = .ok (.getfield 124, 3) := by decide +kernel
theorem dX6_goFrom_41 : decode cX6_goFrom 41 = .ok (.iaload, 1) := by decide +kernel
theorem dX6_goFrom_42 : decode cX6_goFrom 42 = .ok (.ldc 65, 2) := by decide +kernel
theorem dX6_goFrom_44 : decode cX6_goFrom 44 = .ok (.if_icmp .eq 24, 3) := by decide +kernel
theorem dX6_goFrom_47 : decode cX6_goFrom 47 = .ok (.aload_n 0, 1) := by decide +kernel
theorem dX6_goFrom_48 : decode cX6_goFrom 48 = .ok (.aload_n 0, 1) := by decide +kernel
theorem dX6_goFrom_49 : decode cX6_goFrom 49 = .ok (.getfield 130, 3) := by decide +kernel
theorem dX6_goFrom_52 : decode cX6_goFrom 52 = .ok (.iload_n 3, 1) := by decide +kernel
theorem dX6_goFrom_53 : decode cX6_goFrom 53 = .ok (.aload_n 0, 1) := by decide +kernel
theorem dX6_goFrom_54 : decode cX6_goFrom 54 = .ok (.aload_n 0, 1) := by decide +kernel
theorem dX6_goFrom_55 : decode cX6_goFrom 55 = .ok (.getfield 124, 3) := by decide +kernel
theorem dX6_goFrom_58 : decode cX6_goFrom 58 = .ok (.invokevirtual 81, 3) := by decide +kernel
theorem dX6_goFrom_61 : decode cX6_goFrom 61 = .ok (.iadd, 1) := by decide +kernel
theorem dX6_goFrom_62 : decode cX6_goFrom 62 = .ok (.invokestatic 76, 3) := by decide +kernel
theorem dX6_goFrom_65 : decode cX6_goFrom 65 = .ok (.putfield 130, 3) := by decide +kernel
theorem dX6_goFrom_68 : decode cX6_goFrom 68 = .ok (.return_, 1) := by decide +kernel
theorem dX6_goFrom_69 : decode cX6_goFrom 69 = .ok (.aload_n 0, 1) := by decide +kernel
theorem dX6_goFrom_70 : decode cX6_goFrom 70 = .ok (.getfield 9, 3) := by decide +kernel
theorem dX6_goFrom_73 : decode cX6_goFrom 73 = .ok (.iload_n 1, 1) := by decide +kernel
theorem dX6_goFrom_74 : decode cX6_goFrom 74 = .ok (.iaload, 1) := by decide +kernel
theorem dX6_goFrom_75 : decode cX6_goFrom 75 = .ok (.iload_n 2, 1) := by decide +kernel
theorem dX6_goFrom_76 : decode cX6_goFrom 76 = .ok (.iconst (-1), 1) := by decide +kernel
theorem dX6_goFrom_77 : decode cX6_goFrom 77 = .ok (.ixor, 1) := by decide +kernel
theorem dX6_goFrom_78 : decode cX6_goFrom 78 = .ok (.iand, 1) := by decide +kernel
theorem dX6_goFrom_79 : decode cX6_goFrom 79 = .ok (.iconst 1, 1) := by decide +kernel
theorem dX6_goFrom_80 : decode cX6_goFrom 80 = .ok (.aload_n 0, 1) := by decide +kernel
theorem dX6_goFrom_81 : decode cX6_goFrom 81 = .ok (.getfield 124, 3) := by decide +kernel
theorem dX6_goFrom_84 : decode cX6_goFrom 84 = .ok (.ishl, 1) := by decide +kernel
theorem dX6_goFrom_85 : decode cX6_goFrom 85 = .ok (.iconst (-1), 1) := by decide +kernel
theorem dX6_goFrom_86 : decode cX6_goFrom 86 = .ok (.ixor, 1) := by decide +kernel
theorem dX6_goFrom_87 : decode cX6_goFrom 87 = .ok (.iand, 1) := by decide +kernel
theorem dX6_goFrom_88 : decode cX6_goFrom 88 = .ok (.iconst 1, 1) := by decide +kernel
theorem dX6_goFrom_89 : decode cX6_goFrom 89 = .ok (.aload_n 0, 1) := by decide +kernel
theorem dX6_goFrom_90 : decode cX6_goFrom 90 = .ok (.getfield 127, 3) := by decide +kernel
theorem dX6_goFrom_93 : decode cX6_goFrom 93 = .ok (.ishl, 1) := by decide +kernel
theorem dX6_goFrom_94 : decode cX6_goFrom 94 = .ok (.iconst (-1), 1) := by decide +kernel
theorem dX6_goFrom_95 : decode cX6_goFrom 95 = .ok (.ixor, 1) := by decide +kernel
theorem dX6_goFrom_96 : decode cX6_goFrom 96 = .ok (.iand, 1) := by decide +kernel
theorem dX6_goFrom_97 : decode cX6_goFrom 97 = .ok (.istore 5, 2) := by decide +kernel
theorem dX6_goFrom_99 : decode cX6_goFrom 99 = .ok (.iconst 0, 1) := by decide +kernel
theorem dX6_goFrom_100 : decode cX6_goFrom 100 = .ok (.istore 6, 2) := by decide +kernel
theorem dX6_goFrom_102 : decode cX6_goFrom 102 = .ok (.iload 6, 2) := by decide +kernel
theorem dX6_goFrom_104 : decode cX6_goFrom 104 = .ok (.aload_n 0, 1) := by decide +kernel
theorem dX6_goFrom_105 : decode cX6_goFrom 105 = .ok (.getfield 30, 3) := by decide +kernel
theorem dX6_goFrom_108 : decode cX6_goFrom 108 = .ok (.if_icmp .ge 47, 3) := by decide +kernel
theorem dX6_goFrom_111 : decode cX6_goFrom 111 = .ok (.iload 5, 2) := by decide +kernel
theorem dX6_goFrom_113 : decode cX6_goFrom 113 = .ok (.iload 6, 2) := by decide +kernel
theorem dX6_goFrom_115 : decode cX6_goFrom 115 = .ok (.ishr, 1) := by decide +kernel
theorem dX6_goFrom_116 : decode cX6_goFrom 116 = .ok (.iconst 1, 1) := by decide +kernel
theorem dX6_goFrom_117 : decode cX6_goFrom 117 = .ok (.iand, 1) := by decide +kernel
theorem dX6_goFrom_118 : decode cX6_goFrom 118 = .ok (.ifCond .eq 31, 3) := by decide +kernel
theorem dX6_goFrom_121 : decode cX6_goFrom 121 = .ok (.aload_n 0, 1) := by decide +kernel
theorem dX6_goFrom_122 : decode cX6_goFrom 122 = .ok (.iload 6, 2) := by decide +kernel
theorem dX6_goFrom_124 : decode cX6_goFrom 124 = .ok (.iload_n 2, 1) := by decide +kernel
theorem dX6_goFrom_125 : decode cX6_goFrom 125 = .ok (.iconst 1, 1) := by decide +kernel
theorem dX6_goFrom_126 : decode cX6_goFrom 126 = .ok (.iload 6, 2) := by decide +kernel
theorem dX6_goFrom_128 : decode cX6_goFrom 128 = .ok (.ishl, 1) := by decide +kernel
theorem dX6_goFrom_129 : decode cX6_goFrom 129 = .ok (.ior, 1) := by decide +kernel
theorem dX6_goFrom_130 : decode cX6_goFrom 130 = .ok (.iload_n 3, 1) := by decide +kernel
theorem dX6_goFrom_131 : decode cX6_goFrom 131 = .ok (.aload_n 0, 1) := by decide +kernel
theorem dX6_goFrom_132 : decode cX6_goFrom 132 = .ok (.iload_n 1, 1) := by decide +kernel
theorem dX6_goFrom_133 : decode cX6_goFrom 133 = .ok (.iload 6, 2) := by decide +kernel
theorem dX6_goFrom_135 : decode cX6_goFrom 135 = .ok (.invokevirtual 72, 3) := by decide +kernel
theorem dX6_goFrom_138 : decode cX6_goFrom 138 = .ok (.bipush 16, 2) := by decide +kernel
theorem dX6_goFrom_140 : decode cX6_goFrom 140 = .ok (.idiv, 1) := by decide +kernel
theorem dX6_goFrom_141 : decode cX6_goFrom 141 = .ok (.iadd, 1) := by decide +kernel
theorem dX6_goFrom_142 : decode cX6_goFrom 142 = .ok (.iload 4, 2) := by decide +kernel
theorem dX6_goFrom_144 : decode cX6_goFrom 144 = .ok (.iconst 1, 1) := by decide +kernel
theorem dX6_goFrom_145 : decode cX6_goFrom 145 = .ok (.iadd, 1) := by decide +kernel
theorem dX6_goFrom_146 : decode cX6_goFrom 146 = .ok (.invokevirtual 133, 3) := by decide +kernel
theorem dX6_goFrom_149 : decode cX6_goFrom 149 = .ok (.iinc 6 1, 3) := by decide +kernel
theorem dX6_goFrom_152 : decode cX6_goFrom 152 = .ok (.goto (-50), 3) := by decide +kernel
theorem dX6_goFrom_155 : decode cX6_goFrom 155 = .ok (.return_, 1) := by decide +kernel
theorem dJ6_bitCount_0f7a4_0 : decode cJ6_bitCount_0f7a4 0 = .ok (.iload_n 0, 1) := by decide +kernel
theorem dJ6_bitCount_0f7a4_1 : decode cJ6_bitCount_0f7a4 1 = .ok (.iload_n 0, 1) := by decide +kernel
theorem dJ6_bitCount_0f7a4_2 : decode cJ6_bitCount_0f7a4 2 = .ok (.iconst 1, 1) := by decide +kernel
theorem dJ6_bitCount_0f7a4_3 : decode cJ6_bitCount_0f7a4 3 = .ok (.iushr, 1) := by decide +kernel
theorem dJ6_bitCount_0f7a4_4 : decode cJ6_bitCount_0f7a4 4 = .ok (.ldc_w 265, 3) := by decide +kernel
theorem dJ6_bitCount_0f7a4_7 : decode cJ6_bitCount_0f7a4 7 = .ok (.iand, 1) := by decide +kernel
theorem dJ6_bitCount_0f7a4_8 : decode cJ6_bitCount_0f7a4 8 = .ok (.isub, 1) := by decide +kernel
theorem dJ6_bitCount_0f7a4_9 : decode cJ6_bitCount_0f7a4 9 = .ok (.istore_n 0, 1) := by decide +kernel
theorem dJ6_bitCount_0f7a4_10 : decode cJ6_bitCount_0f7a4 10 = .ok (.iload_n 0, 1) := by decide +kernel
theorem dJ6_bitCount_0f7a4_11 : decode cJ6_bitCount_0f7a4 11 = .ok (.ldc_w 266, 3) := by decide +kernel
theorem dJ6_bitCount_0f7a4_14 : decode cJ6_bitCount_0f7a4 14 = .ok (.iand, 1) := by decide +kernel
theorem dJ6_bitCount_0f7a4_15 : decode cJ6_bitCount_0f7a4 15 = .ok (.iload_n 0, 1) := by decide +kernel
theorem dJ6_bitCount_0f7a4_16 : decode cJ6_bitCount_0f7a4 16 = .ok (.iconst 2, 1) := by decide +kernel
theorem dJ6_bitCount_0f7a4_17 : decode cJ6_bitCount_0f7a4 17 = .ok (.iushr, 1) := by decide +kernel
theorem dJ6_bitCount_0f7a4_18 : decode cJ6_bitCount_0f7a4 18 = .ok (.ldc_w 266, 3) := by decide +kernel
theorem dJ6_bitCount_0f7a4_21 : decode cJ6_bitCount_0f7a4 21 = .ok (.iand, 1) := by decide +kernel
theorem dJ6_bitCount_0f7a4_22 : decode cJ6_bitCount_0f7a4 22 = .ok (.iadd, 1) := by decide +kernel
theorem dJ6_bitCount_0f7a4_23 : decode cJ6_bitCount_0f7a4 23 = .ok (.istore_n 0, 1) := by decide +kernel
theorem dJ6_bitCount_0f7a4_24 : decode cJ6_bitCount_0f7a4 24 = .ok (.iload_n 0, 1) := by decide +kernel
theorem dJ6_bitCount_0f7a4_25 : decode cJ6_bitCount_0f7a4 25 = .ok (.iload_n 0, 1) := by decide +kernel
theorem dJ6_bitCount_0f7a4_26 : decode cJ6_bitCount_0f7a4 26 = .ok (.iconst 4, 1) := by decide +kernel
theorem dJ6_bitCount_0f7a4_27 : decode cJ6_bitCount_0f7a4 27 = .ok (.iushr, 1) := by decide +kernel
theorem dJ6_bitCount_0f7a4_28 : decode cJ6_bitCount_0f7a4 28 = .ok (.iadd, 1) := by decide +kernel
theorem dJ6_bitCount_0f7a4_29 : decode cJ6_bitCount_0f7a4 29 = .ok (.ldc_w 267, 3) := by decide +kernel
theorem dJ6_bitCount_0f7a4_32 : decode cJ6_bitCount_0f7a4 32 = .ok (.iand, 1) := by decide +kernel
theorem dJ6_bitCount_0f7a4_33 : decode cJ6_bitCount_0f7a4 33 = .ok (.istore_n 0, 1) := by decide +kernel
theorem dJ6_bitCount_0f7a4_34 : decode cJ6_bitCount_0f7a4 34 = .ok (.iload_n 0, 1) := by decide +kernel
theorem dJ6_bitCount_0f7a4_35 : decode cJ6_bitCount_0f7a4 35 = .ok (.iload_n 0, 1) := by decide +kernel
theorem dJ6_bitCount_0f7a4_36 : decode cJ6_bitCount_0f7a4 36 = .ok (.bipush 8, 2) := by decide +kernel
theorem dJ6_bitCount_0f7a4_38 : decode cJ6_bitCount_0f7a4 38 = .ok (.iushr, 1) := by decide +kernel
theorem dJ6_bitCount_0f7a4_39 : decode cJ6_bitCount_0f7a4 39 = .ok (.iadd, 1) := by decide +kernel
theorem dJ6_bitCount_0f7a4_40 : decode cJ6_bitCount_0f7a4 40 = .ok (.istore_n 0, 1) := by decide +kernel
theorem dJ6_bitCount_0f7a4_41 : decode cJ6_bitCount_0f7a4 41 = .ok (.iload_n 0, 1) := by decide +kernel
theorem dJ6_bitCount_0f7a4_42 : decode cJ6_bitCount_0f7a4 42 = .ok (.iload_n 0, 1) := by decide +kernel
theorem dJ6_bitCount_0f7a4_43 : decode cJ6_bitCount_0f7a4 43 = .ok (.bipush 16, 2) := by decide +kernel
theorem dJ6_bitCount_0f7a4_45 : decode cJ6_bitCount_0f7a4 45 = .ok (.iushr, 1) := by decide +kernel
theorem dJ6_bitCount_0f7a4_46 : decode cJ6_bitCount_0f7a4 46 = .ok (.iadd, 1) := by decide +kernel
theorem dJ6_bitCount_0f7a4_47 : decode cJ6_bitCount_0f7a4 47 = .ok (.istore_n 0, 1) := by decide +kernel
theorem dJ6_bitCount_0f7a4_48 : decode cJ6_bitCount_0f7a4 48 = .ok (.iload_n 0, 1) := by decide +kernel
theorem dJ6_bitCount_0f7a4_49 : decode cJ6_bitCount_0f7a4 49 = .ok (.bipush 63, 2) := by decide +kernel
theorem dJ6_bitCount_0f7a4_51 : decode cJ6_bitCount_0f7a4 51 = .ok (.iand, 1) := by decide +kernel
theorem dJ6_bitCount_0f7a4_52 : decode cJ6_bitCount_0f7a4 52 = .ok (.ireturn, 1) := by decide +kernel
theorem dJ9_abs_0f7a4_0 : decode cJ9_abs_0f7a4 0 = .ok (.iload_n 0, 1) := by decide +kernel
theorem dJ9_abs_0f7a4_1 : decode cJ9_abs_0f7a4 1 = .ok (.ifCond .ge 8, 3) := by decide +kernel
theorem dJ9_abs_0f7a4_4 : decode cJ9_abs_0f7a4 4 = .ok (.iload_n 0, 1) := by decide +kernel
theorem dJ9_abs_0f7a4_5 : decode cJ9_abs_0f7a4 5 = .ok (.ineg, 1) := by decide +kernel
theorem dJ9_abs_0f7a4_6 : decode cJ9_abs_0f7a4 6 = .ok (.goto 4, 3) := by decide +kernel
theorem dJ9_abs_0f7a4_9 : decode cJ9_abs_0f7a4 9 = .ok (.iload_n 0, 1) := by decide +kernel
theorem dJ9_abs_0f7a4_10 : decode cJ9_abs_0f7a4 10 = .ok (.ireturn, 1) := by decide +kernel
theorem dJ9_max_7cf53_0 : decode cJ9_max_7cf53 0 = .ok (.iload_n 0, 1) := by decide +kernel
theorem dJ9_max_7cf53_1 : decode cJ9_max_7cf53 1 = .ok (.iload_n 1, 1) := by decide +kernel
theorem dJ9_max_7cf53_2 : decode cJ9_max_7cf53 2 = .ok (.if_icmp .lt 7, 3) := by decide +kernel
theorem dJ9_max_7cf53_5 : decode cJ9_max_7cf53 5 = .ok (.iload_n 0, 1) := by decide +kernel
theorem dJ9_max_7cf53_6 : decode cJ9_max_7cf53 6 = .ok (.goto 4, 3) := by decide +kernel
theorem dJ9_max_7cf53_9 : decode cJ9_max_7cf53 9 = .ok (.iload_n 1, 1) := by decide +kernel
theorem dJ9_max_7cf53_10 : decode cJ9_max_7cf53 10 = .ok (.ireturn, 1) := by decide +kernel
theorem dJ9_min_7cf53_0 : decode cJ9_min_7cf53 0 = .ok (.iload_n 0, 1) := by decide +kernel
theorem dJ9_min_7cf53_1 : decode cJ9_min_7cf53 1 = .ok (.iload_n 1, 1) := by decide +kernel
theorem dJ9_min_7cf53_2 : decode cJ9_min_7cf53 2 = .ok (.if_icmp .gt 7, 3) := by decide +kernel
theorem dJ9_min_7cf53_5 : decode cJ9_min_7cf53 5 = .ok (.iload_n 0, 1) := by decide +kernel
theorem dJ9_min_7cf53_6 : decode cJ9_min_7cf53 6 = .ok (.goto 4, 3) := by decide +kernel
theorem dJ9_min_7cf53_9 : decode cJ9_min_7cf53 9 = .ok (.iload_n 1, 1) := by decide +kernel
theorem dJ9_min_7cf53_10 : decode cJ9_min_7cf53 10 = .ok (.ireturn, 1) := by decide +kernel
theorem dJ0_length_8abf5_0 : decode cJ0_length_8abf5 0 = .ok (.aload_n 0, 1) := by decide +kernel
theorem dJ0_length_8abf5_1 : decode cJ0_length_8abf5 1 = .ok (.getfield 9, 3) := by decide +kernel
theorem dJ0_length_8abf5_4 : decode cJ0_length_8abf5 4 = .ok (.arraylength, 1) := by decide +kernel
theorem dJ0_length_8abf5_5 : decode cJ0_length_8abf5 5 = .ok (.aload_n 0, 1) := by decide +kernel
theorem dJ0_length_8abf5_6 : decode cJ0_length_8abf5 6 = .ok (.invokevirtual 335, 3) := by decide +kernel
theorem dJ0_length_8abf5_9 : decode cJ0_length_8abf5 9 = .ok (.ishr, 1) := by decide +kernel
theorem dJ0_length_8abf5_10 : decode cJ0_length_8abf5 10 = .ok (.ireturn, 1) := by decide +kernel
theorem dJ0_charAt_5068e_0 : decode cJ0_charAt_5068e 0 = .ok (.aload_n 0, 1) := by decide +kernel
theorem dJ0_charAt_5068e_1 : decode cJ0_charAt_5068e 1 = .ok (.invokevirtual 492, 3) := by decide +kernel
theorem dJ0_charAt_5068e_4 : decode cJ0_charAt_5068e 4 = .ok (.ifCond .eq 12, 3) := by decide +kernel
theorem dJ0_charAt_5068e_7 : decode cJ0_charAt_5068e 7 = .ok (.aload_n 0, 1) := by decide +kernel
theorem dJ0_charAt_5068e_8 : decode cJ0_charAt_5068e 8 = .ok (.getfield 9, 3) := by decide +kernel
theorem dJ0_charAt_5068e_11 : decode cJ0_charAt_5068e 11 = .ok (.iload_n 1, 1) := by decide +kernel
theorem dJ0_charAt_5068e_12 : decode cJ0_charAt_5068e 12 = .ok (.invokestatic 495, 3) := by decide +kernel
theorem dJ0_charAt_5068e_15 : decode cJ0_charAt_5068e 15 = .ok (.ireturn, 1) := by decide +kernel
theorem dJ0_charAt_5068e_16 : decode cJ0_charAt_5068e 16 = .ok (.aload_n 0, 1) := by decide +kernel
theorem dJ0_charAt_5068e_17 : decode cJ0_charAt_5068e 17 = .ok (.getfield 9, 3) := by decide +kernel
theorem dJ0_charAt_5068e_20 : decode cJ0_charAt_5068e 20 = .ok (.iload_n 1, 1) := by decide +kernel
theorem dJ0_charAt_5068e_21 : decode cJ0_charAt_5068e 21 = .ok (.invokestatic 498, 3) := by decide +kernel
theorem dJ0_charAt_5068e_24 : decode cJ0_charAt_5068e 24 = .ok (.ireturn, 1) := by decide +kernel
theorem dJ0_coder_7d493_0 : decode cJ0_coder_7d493 0 = .ok (.getstatic 38, 3) := by decide +kernel
theorem dJ0_coder_7d493_3 : decode cJ0_coder_7d493 3 = .ok (.ifCond .eq 10, 3) := by decide +kernel
theorem dJ0_coder_7d493_6 : decode cJ0_coder_7d493 6 = .ok (.aload_n 0, 1) := by decide +kernel
theorem dJ0_coder_7d493_7 : decode cJ0_coder_7d493 7 = .ok (.getfield 15, 3) := by decide +kernel
theorem dJ0_coder_7d493_10 : decode cJ0_coder_7d493 10 = .ok (.goto 4, 3) := by decide +kernel
theorem dJ0_coder_7d493_13 : decode cJ0_coder_7d493 13 = .ok (.iconst 1, 1) := by decide +kernel
theorem dJ0_coder_7d493_14 : decode cJ0_coder_7d493 14 = .ok (.ireturn, 1) := by decide +kernel
theorem dJ0_isLatin1_aae02_0 : decode cJ0_isLatin1_aae02 0 = .ok (.getstatic 38, 3) := by decide +kernel
theorem dJ0_isLatin1_aae02_3 : decode cJ0_isLatin1_aae02 3 = .ok (.ifCond .eq 14, 3) := by decide +kernel
theorem dJ0_isLatin1_aae02_6 : decode cJ0_isLatin1_aae02 6 = .ok (.aload_n 0, 1) := by decide +kernel
theorem dJ0_isLatin1_aae02_7 : decode cJ0_isLatin1_aae02 7 = .ok (.getfield 15, 3) := by decide +kernel
theorem dJ0_isLatin1_aae02_10 : decode cJ0_isLatin1_aae02 10 = .ok (.ifCond .ne 7, 3) := by decide +kernel
theorem dJ0_isLatin1_aae02_13 : decode cJ0_isLatin1_aae02 13 = .ok (.iconst 1, 1) := by decide +kernel
theorem dJ0_isLatin1_aae02_14 : decode cJ0_isLatin1_aae02 14 = .ok (.goto 4, 3) := by decide +kernel
theorem dJ0_isLatin1_aae02_17 : decode cJ0_isLatin1_aae02 17 = .ok (.iconst 0, 1) := by decide +kernel
theorem dJ0_isLatin1_aae02_18 : decode cJ0_isLatin1_aae02 18 = .ok (.ireturn, 1) := by decide +kernel
theorem dJ0_checkIndex_df160_0 : decode cJ0_checkIndex_df160 0 = .ok (.iload_n 0, 1) := by decide +kernel
theorem dJ0_checkIndex_df160_1 : decode cJ0_checkIndex_df160 1 = .ok (.iload_n 1, 1) := by decide +kernel
theorem dJ0_checkIndex_df160_2 : decode cJ0_checkIndex_df160 2 = .ok (.getstatic 1053, 3) := by decide +kernel
theorem dJ0_checkIndex_df160_5 : decode cJ0_checkIndex_df160 5 = .ok (.invokestatic 1059, 3) := by decide +kernel
theorem dJ0_checkIndex_df160_8 : decode cJ0_checkIndex_df160 8 = .ok (.pop, 1) := by decide +kernel
theorem dJ0_checkIndex_df160_9 : decode cJ0_checkIndex_df160 9 = .ok (.return_, 1) := by decide +kernel
theorem dJ1_charAt_3b067_0 : decode cJ1_charAt_3b067 0 = .ok (.iload_n 1, 1) := by decide +kernel
theorem dJ1_charAt_3b067_1 : decode cJ1_charAt_3b067 1 = .ok (.aload_n 0, 1) := by decide +kernel
theorem dJ1_charAt_3b067_2 : decode cJ1_charAt_3b067 2 = .ok (.arraylength, 1) := by decide +kernel
theorem dJ1_charAt_3b067_3 : decode cJ1_charAt_3b067 3 = .ok (.invokestatic 9, 3) := by decide +kernel
theorem dJ1_charAt_3b067_6 : decode cJ1_charAt_3b067 6 = .ok (.aload_n 0, 1) := by decide +kernel
theorem dJ1_charAt_3b067_7 : decode cJ1_charAt_3b067 7 = .ok (.iload_n 1, 1) := by decide +kernel
theorem dJ1_charAt_3b067_8 : decode cJ1_charAt_3b067 8 = .ok (.baload, 1) := by decide +kernel
theorem dJ1_charAt_3b067_9 : decode cJ1_charAt_3b067 9 = .ok (.sipush 255, 3) := by decide +kernel
theorem dJ1_charAt_3b067_12 : decode cJ1_charAt_3b067 12 = .ok (.iand, 1) := by decide +kernel
theorem dJ1_charAt_3b067_13 : decode cJ1_charAt_3b067 13 = .ok (.i2c, 1) := by decide +kernel
theorem dJ1_charAt_3b067_14 : decode cJ1_charAt_3b067 14 = .ok (.ireturn, 1) := by decide +kernel
theorem dJ2_getChar_3b067_0 : decode cJ2_getChar_3b067 0 = .ok (.getstatic 44, 3) := by decide +kernel
theorem dJ2_getChar_3b067_3 : decode cJ2_getChar_3b067 3 = .ok (.ifCond .ne 25, 3) := by decide +kernel
theorem dJ2_getChar_3b067_6 : decode cJ2_getChar_3b067 6 = .ok (.iload_n 1, 1) := by decide +kernel
theorem dJ2_getChar_3b067_7 : decode cJ2_getChar_3b067 7 = .ok (.ifCond .lt 11, 3) := by decide +kernel
theorem dJ2_getChar_3b067_10 : decode cJ2_getChar_3b067 10 = .ok (.iload_n 1, 1) := by decide +kernel
theorem dJ2_getChar_3b067_11 : decode cJ2_getChar_3b067 11 = .ok (.aload_n 0, 1) := by decide +kernel
theorem dJ2_getChar_3b067_12 : decode cJ2_getChar_3b067 12 = .ok (.invokestatic 48, 3) := by decide +kernel
theorem dJ2_getChar_3b067_15 : decode cJ2_getChar_3b067 15 = .ok (.if_icmp .lt 13, 3) := by decide +kernel
theorem dJ2_getChar_3b067_18 : decode cJ2_getChar_3b067 18 = .ok (.new 52, 3) := by decide +kernel
theorem dJ2_getChar_3b067_21 : decode cJ2_getChar_3b067 21 = .ok (.dup, 1) := by decide +kernel
theorem dJ2_getChar_3b067_22 : decode cJ2_getChar_3b067 22 = .ok (.ldc 54, 2) := by decide +kernel
theorem dJ2_getChar_3b067_24 : decode cJ2_getChar_3b067 24 = .ok (.invokespecial 56, 3) := by decide +kernel
theorem dJ2_getChar_3b067_27 : decode cJ2_getChar_3b067 27 = .ok (.athrow, 1) := by decide +kernel
theorem dJ2_getChar_3b067_28 : decode cJ2_getChar_3b067 28 = .ok (.iload_n 1, 1) := by decide +kernel
theorem dJ2_getChar_3b067_29 : decode cJ2_getChar_3b067 29 = .ok (.iconst 1, 1) := by decide +kernel
theorem dJ2_getChar_3b067_30 : decode cJ2_getChar_3b067 30 = .ok (.ishl, 1) := by decide +kernel
theorem dJ2_getChar_3b067_31 : decode cJ2_getChar_3b067 31 = .ok (.istore_n 1, 1) := by decide +kernel
theorem dJ2_getChar_3b067_32 : decode cJ2_getChar_3b067 32 = .ok (.aload_n 0, 1) := by decide +kernel
theorem dJ2_getChar_3b067_33 : decode cJ2_getChar_3b067 33 = .ok (.iload_n 1, 1) := by decide +kernel
theorem dJ2_getChar_3b067_34 : decode cJ2_getChar_3b067 34 = .ok (.iinc 1 1, 3) := by decide +kernel
theorem dJ2_getChar_3b067_37 : decode cJ2_getChar_3b067 37 = .ok (.baload, 1) := by decide +kernel
theorem dJ2_getChar_3b067_38 : decode cJ2_getChar_3b067 38 = .ok (.sipush 255, 3) := by decide +kernel
theorem dJ2_getChar_3b067_41 : decode cJ2_getChar_3b067 41 = .ok (.iand, 1) := by decide +kernel
theorem dJ2_getChar_3b067_42 : decode cJ2_getChar_3b067 42 = .ok (.getstatic 59, 3) := by decide +kernel
theorem dJ2_getChar_3b067_45 : decode cJ2_getChar_3b067 45 = .ok (.ishl, 1) := by decide +kernel
theorem dJ2_getChar_3b067_46 : decode cJ2_getChar_3b067 46 = .ok (.aload_n 0, 1) := by decide +kernel
theorem dJ2_getChar_3b067_47 : decode cJ2_getChar_3b067 47 = .ok (.iload_n 1, 1) := by decide +kernel
theorem dJ2_getChar_3b067_48 : decode cJ2_getChar_3b067 48 = .ok (.baload, 1) := by decide +kernel
theorem dJ2_getChar_3b067_49 : decode cJ2_getChar_3b067 49 = .ok (.sipush 255, 3) := by decide +kernel
theorem dJ2_getChar_3b067_52 : decode cJ2_getChar_3b067 52 = .ok (.iand, 1) := by decide +kernel
theorem dJ2_getChar_3b067_53 : decode cJ2_getChar_3b067 53 = .ok (.getstatic 63, 3) := by decide +kernel
theorem dJ2_getChar_3b067_56 : decode cJ2_getChar_3b067 56 = .ok (.ishl, 1) := by decide +kernel
theorem dJ2_getChar_3b067_57 : decode cJ2_getChar_3b067 57 = .ok (.ior, 1) := by decide +kernel
theorem dJ2_getChar_3b067_58 : decode cJ2_getChar_3b067 58 = .ok (.i2c, 1) := by decide +kernel
theorem dJ2_getChar_3b067_59 : decode cJ2_getChar_3b067 59 = .ok (.ireturn, 1) := by decide +kernel
theorem dJ2_length_9d52b_0 : decode cJ2_length_9d52b 0 = .ok (.aload_n 0, 1) := by decide +kernel
theorem dJ2_length_9d52b_1 : decode cJ2_length_9d52b 1 = .ok (.arraylength, 1) := by decide +kernel
theorem dJ2_length_9d52b_2 : decode cJ2_length_9d52b 2 = .ok (.iconst 1, 1) := by decide +kernel
theorem dJ2_length_9d52b_3 : decode cJ2_length_9d52b 3 = .ok (.ishr, 1) := by decide +kernel
theorem dJ2_length_9d52b_4 : decode cJ2_length_9d52b 4 = .ok (.ireturn, 1) := by decide +kernel
theorem dJ2_charAt_3b067_0 : decode cJ2_charAt_3b067 0 = .ok (.iload_n 1, 1) := by decide +kernel
theorem dJ2_charAt_3b067_1 : decode cJ2_charAt_3b067 1 = .ok (.aload_n 0, 1) := by decide +kernel
theorem dJ2_charAt_3b067_2 : decode cJ2_charAt_3b067 2 = .ok (.invokestatic 67, 3) := by decide +kernel
theorem dJ2_charAt_3b067_5 : decode cJ2_charAt_3b067 5 = .ok (.aload_n 0, 1) := by decide +kernel
theorem dJ2_charAt_3b067_6 : decode cJ2_charAt_3b067 6 = .ok (.iload_n 1, 1) := by decide +kernel
theorem dJ2_charAt_3b067_7 : decode cJ2_charAt_3b067 7 = .ok (.invokestatic 71, 3) := by decide +kernel
theorem dJ2_charAt_3b067_10 : decode cJ2_charAt_3b067 10 = .ok (.ireturn, 1) := by decide +kernel
theorem dJ2_checkIndex_2214a_0 : decode cJ2_checkIndex_2214a 0 = .ok (.iload_n 0, 1) := by decide +kernel
theorem dJ2_checkIndex_2214a_1 : decode cJ2_checkIndex_2214a 1 = .ok (.aload_n 1, 1) := by decide +kernel
theorem dJ2_checkIndex_2214a_2 : decode cJ2_checkIndex_2214a 2 = .ok (.invokestatic 48, 3) := by decide +kernel
theorem dJ2_checkIndex_2214a_5 : decode cJ2_checkIndex_2214a 5 = .ok (.invokestatic 414, 3) := by decide +kernel
theorem dJ2_checkIndex_2214a_8 : decode cJ2_checkIndex_2214a 8 = .ok (.return_, 1) := by decide +kernel
theorem dJ7_fill_d0a16_0 : decode cJ7_fill_d0a16 0 = .ok (.iconst 0, 1) := by decide +kernel
theorem dJ7_fill_d0a16_1 : decode cJ7_fill_d0a16 1 = .ok (.istore_n 3, 1) := by decide +kernel
theorem dJ7_fill_d0a16_2 : decode cJ7_fill_d0a16 2 = .ok (.aload_n 0, 1) := by decide +kernel
theorem dJ7_fill_d0a16_3 : decode cJ7_fill_d0a16 3 = .ok (.arraylength, 1) := by decide +kernel
theorem dJ7_fill_d0a16_4 : decode cJ7_fill_d0a16 4 = .ok (.istore 4, 2) := by decide +kernel
theorem dJ7_fill_d0a16_6 : decode cJ7_fill_d0a16 6 = .ok (.iload_n 3, 1) := by decide +kernel
theorem dJ7_fill_d0a16_7 : decode cJ7_fill_d0a16 7 = .ok (.iload 4, 2) := by decide +kernel
theorem dJ7_fill_d0a16_9 : decode cJ7_fill_d0a16 9 = .ok (.if_icmp .ge 13, 3) := by decide +kernel
theorem dJ7_fill_d0a16_12 : decode cJ7_fill_d0a16 12 = .ok (.aload_n 0, 1) := by decide +kernel
theorem dJ7_fill_d0a16_13 : decode cJ7_fill_d0a16 13 = .ok (.iload_n 3, 1) := by decide +kernel
theorem dJ7_fill_d0a16_14 : decode cJ7_fill_d0a16 14 = .ok (.lload_n 1, 1) := by decide +kernel
theorem dJ7_fill_d0a16_15 : decode cJ7_fill_d0a16 15 = .ok (.lastore, 1) := by decide +kernel
theorem dJ7_fill_d0a16_16 : decode cJ7_fill_d0a16 16 = .ok (.iinc 3 1, 3) := by decide +kernel
theorem dJ7_fill_d0a16_19 : decode cJ7_fill_d0a16 19 = .ok (.goto (-13), 3) := by decide +kernel
theorem dJ7_fill_d0a16_22 : decode cJ7_fill_d0a16 22 = .ok (.return_, 1) := by decide +kernel
theorem dJ7_fill_53178_0 : decode cJ7_fill_53178 0 = .ok (.iconst 0, 1) := by decide +kernel
theorem dJ7_fill_53178_1 : decode cJ7_fill_53178 1 = .ok (.istore_n 2, 1) := by decide +kernel
theorem dJ7_fill_53178_2 : decode cJ7_fill_53178 2 = .ok (.aload_n 0, 1) := by decide +kernel
theorem dJ7_fill_53178_3 : decode cJ7_fill_53178 3 = .ok (.arraylength, 1) := by decide +kernel
theorem dJ7_fill_53178_4 : decode cJ7_fill_53178 4 = .ok (.istore_n 3, 1) := by decide +kernel
theorem dJ7_fill_53178_5 : decode cJ7_fill_53178 5 = .ok (.iload_n 2, 1) := by decide +kernel
theorem dJ7_fill_53178_6 : decode cJ7_fill_53178 6 = .ok (.iload_n 3, 1) := by decide +kernel
theorem dJ7_fill_53178_7 : decode cJ7_fill_53178 7 = .ok (.if_icmp .ge 13, 3) := by decide +kernel
theorem dJ7_fill_53178_10 : decode cJ7_fill_53178 10 = .ok (.aload_n 0, 1) := by decide +kernel
theorem dJ7_fill_53178_11 : decode cJ7_fill_53178 11 = .ok (.iload_n 2, 1) := by decide +kernel
theorem dJ7_fill_53178_12 : decode cJ7_fill_53178 12 = .ok (.iload_n 1, 1) := by decide +kernel
theorem dJ7_fill_53178_13 : decode cJ7_fill_53178 13 = .ok (.iastore, 1) := by decide +kernel
theorem dJ7_fill_53178_14 : decode cJ7_fill_53178 14 = .ok (.iinc 2 1, 3) := by decide +kernel
theorem dJ7_fill_53178_17 : decode cJ7_fill_53178 17 = .ok (.goto (-12), 3) := by decide +kernel
theorem dJ7_fill_53178_20 : decode cJ7_fill_53178 20 = .ok (.return_, 1) := by decide +kernel
theorem dJ3_checkIndex_8e157_0 : decode cJ3_checkIndex_8e157 0 = .ok (.iload_n 0, 1) := by decide +kernel
theorem dJ3_checkIndex_8e157_1 : decode cJ3_checkIndex_8e157 1 = .ok (.ifCond .lt 8, 3) := by decide +kernel
theorem dJ3_checkIndex_8e157_4 : decode cJ3_checkIndex_8e157 4 = .ok (.iload_n 0, 1) := by decide +kernel
theorem dJ3_checkIndex_8e157_5 : decode cJ3_checkIndex_8e157 5 = .ok (.iload_n 1, 1) := by decide +kernel
theorem dJ3_checkIndex_8e157_6 : decode cJ3_checkIndex_8e157 6 = .ok (.if_icmp .lt 10, 3) := by decide +kernel
theorem dJ3_checkIndex_8e157_9 : decode cJ3_checkIndex_8e157 9 = .ok (.aload_n 2, 1) := by decide +kernel
theorem dJ3_checkIndex_8e157_10 : decode cJ3_checkIndex_8e157 10 = .ok (.iload_n 0, 1) := by decide +kernel
theorem dJ3_checkIndex_8e157_11 : decode cJ3_checkIndex_8e157 11 = .ok (.iload_n 1, 1) := by decide +kernel
theorem dJ3_checkIndex_8e157_12 : decode cJ3_checkIndex_8e157 12 = .ok (.invokestatic 95, 3) := by decide +kernel
theorem dJ3_checkIndex_8e157_15 : decode cJ3_checkIndex_8e157 15 = .ok (.athrow, 1) := by decide +kernel
theorem dJ3_checkIndex_8e157_16 : decode cJ3_checkIndex_8e157 16 = .ok (.iload_n 0, 1) := by decide +kernel
theorem dJ3_checkIndex_8e157_17 : decode cJ3_checkIndex_8e157 17 = .ok (.ireturn, 1) := by decide +kernel
