theorem dX8_openHours_53 : decode cX8_openHours 53 = .ok (.istore_n 2, 1) := by decide +kernel
theorem dX8_openHours_54 : decode cX8_openHours 54 = .ok (.iinc 3 1, 3) := by decide +kernel
theorem dX8_openHours_57 : decode cX8_openHours 57 = .ok (.goto (-36), 3) := by decide +kernel
theorem dX8_openHours_60 : decode cX8_openHours 60 = .ok (.iload_n 2, 1) := by decide +kernel
theorem dX8_openHours_61 : decode cX8_openHours 61 = .ok (.ireturn, 1) := by decide +kernel
theorem dX8_partOf_0 : decode cX8_partOf 0 = .ok (.iconst 1, 1) := by decide +kernel
theorem dX8_partOf_1 : decode cX8_partOf 1 = .ok (.iload_n 1, 1) := by decide +kernel
theorem dX8_partOf_2 : decode cX8_partOf 2 = .ok (.ishl, 1) := by decide +kernel
theorem dX8_partOf_3 : decode cX8_partOf 3 = .ok (.istore_n 2, 1) := by decide +kernel
theorem dX8_partOf_4 : decode cX8_partOf 4 = .ok (.iconst 0, 1) := by decide +kernel
theorem dX8_partOf_5 : decode cX8_partOf 5 = .ok (.istore_n 3, 1) := by decide +kernel
theorem dX8_partOf_6 : decode cX8_partOf 6 = .ok (.iload_n 3, 1) := by decide +kernel
theorem dX8_partOf_7 : decode cX8_partOf 7 = .ok (.iload_n 2, 1) := by decide +kernel
theorem dX8_partOf_8 : decode cX8_partOf 8 = .ok (.if_icmp .eq 51, 3) := by decide +kernel
theorem dX8_partOf_11 : decode cX8_partOf 11 = .ok (.iload_n 2, 1) := by decide +kernel
theorem dX8_partOf_12 : decode cX8_partOf 12 = .ok (.istore_n 3, 1) := by decide +kernel
theorem dX8_partOf_13 : decode cX8_partOf 13 = .ok (.iconst 0, 1) := by decide +kernel
theorem dX8_partOf_14 : decode cX8_partOf 14 = .ok (.istore 4, 2) := by decide +kernel
theorem dX8_partOf_16 : decode cX8_partOf 16 = .ok (.iload 4, 2) := by decide +kernel
theorem dX8_partOf_18 : decode cX8_partOf 18 = .ok (.aload_n 0, 1) := by decide +kernel
theorem dX8_partOf_19 : decode cX8_partOf 19 = .ok (.getfield 13, 3) := by decide +kernel
theorem dX8_partOf_22 : decode cX8_partOf 22 = .ok (.iconst 0, 1) := by decide +kernel
theorem dX8_partOf_23 : decode cX8_partOf 23 = .ok (.iaload, 1) := by decide +kernel
theorem dX8_partOf_24 : decode cX8_partOf 24 = .ok (.if_icmp .ge 32, 3) := by decide +kernel
theorem dX8_partOf_27 : decode cX8_partOf 27 = .ok (.iload_n 2, 1) := by decide +kernel
theorem dX8_partOf_28 : decode cX8_partOf 28 = .ok (.iload_n 3, 1) := by decide +kernel
theorem dX8_partOf_29 : decode cX8_partOf 29 = .ok (.iload 4, 2) := by decide +kernel
theorem dX8_partOf_31 : decode cX8_partOf 31 = .ok (.ishr, 1) := by decide +kernel
theorem dX8_partOf_32 : decode cX8_partOf 32 = .ok (.iconst 1, 1) := by decide +kernel
theorem dX8_partOf_33 : decode cX8_partOf 33 = .ok (.iand, 1) := by decide +kernel
theorem dX8_partOf_34 : decode cX8_partOf 34 = .ok (.iconst 1, 1) := by decide +kernel
theorem dX8_partOf_35 : decode cX8_partOf 35 = .ok (.if_icmp .ne 12, 3) := by decide +kernel
theorem dX8_partOf_38 : decode cX8_partOf 38 = .ok (.aload_n 0, 1) := by decide +kernel
theorem dX8_partOf_39 : decode cX8_partOf 39 = .ok (.iload 4, 2) := by decide +kernel
theorem dX8_partOf_41 : decode cX8_partOf 41 = .ok (.invokevirtual 216, 3) := by decide +kernel
theorem dX8_partOf_44 : decode cX8_partOf 44 = .ok (.goto 4, 3) := by decide +kernel
theorem dX8_partOf_47 : decode cX8_partOf 47 = .ok (.iconst 0, 1) := by decide +kernel
theorem dX8_partOf_48 : decode cX8_partOf 48 = .ok (.ior, 1) := by decide +kernel
theorem dX8_partOf_49 : decode cX8_partOf 49 = .ok (.istore_n 2, 1) := by decide +kernel
theorem dX8_partOf_50 : decode cX8_partOf 50 = .ok (.iinc 4 1, 3) := by decide +kernel
theorem dX8_partOf_53 : decode cX8_partOf 53 = .ok (.goto (-37), 3) := by decide +kernel
theorem dX8_partOf_56 : decode cX8_partOf 56 = .ok (.goto (-50), 3) := by decide +kernel
theorem dX8_partOf_59 : decode cX8_partOf 59 = .ok (.iload_n 2, 1) := by decide +kernel
theorem dX8_partOf_60 : decode cX8_partOf 60 = .ok (.ireturn, 1) := by decide +kernel
theorem dX8_part_0 : decode cX8_part 0 = .ok (.aload_n 0, 1) := by decide +kernel
theorem dX8_part_1 : decode cX8_part 1 = .ok (.iconst 0, 1) := by decide +kernel
theorem dX8_part_2 : decode cX8_part 2 = .ok (.putfield 1, 3) := by decide +kernel
theorem dX8_part_5 : decode cX8_part 5 = .ok (.aload_n 0, 1) := by decide +kernel
theorem dX8_part_6 : decode cX8_part 6 = .ok (.iload_n 1, 1) := by decide +kernel
theorem dX8_part_7 : decode cX8_part 7 = .ok (.i2l, 1) := by decide +kernel
theorem dX8_part_8 : decode cX8_part 8 = .ok (.invokevirtual 182, 3) := by decide +kernel
theorem dX8_part_11 : decode cX8_part 11 = .ok (.ifCond .eq 11, 3) := by decide +kernel
theorem dX8_part_14 : decode cX8_part 14 = .ok (.aload_n 0, 1) := by decide +kernel
theorem dX8_part_15 : decode cX8_part 15 = .ok (.iload_n 1, 1) := by decide +kernel
theorem dX8_part_16 : decode cX8_part 16 = .ok (.invokevirtual 273, 3) := by decide +kernel
theorem dX8_part_19 : decode cX8_part 19 = .ok (.goto 5, 3) := by decide +kernel
theorem dX8_part_22 : decode cX8_part 22 = .ok (.bipush (-2), 2) := by decide +kernel
theorem dX8_part_24 : decode cX8_part 24 = .ok (.ireturn, 1) := by decide +kernel
theorem dX8_partMany_0 : decode cX8_partMany 0 = .ok (.iconst 0, 1) := by decide +kernel
theorem dX8_partMany_1 : decode cX8_partMany 1 = .ok (.istore_n 1, 1) := by decide +kernel
theorem dX8_partMany_2 : decode cX8_partMany 2 = .ok (.iconst 0, 1) := by decide +kernel
theorem dX8_partMany_3 : decode cX8_partMany 3 = .ok (.istore_n 2, 1) := by decide +kernel
theorem dX8_partMany_4 : decode cX8_partMany 4 = .ok (.iconst 0, 1) := by decide +kernel
theorem dX8_partMany_5 : decode cX8_partMany 5 = .ok (.istore_n 3, 1) := by decide +kernel
theorem dX8_partMany_6 : decode cX8_partMany 6 = .ok (.iload_n 3, 1) := by decide +kernel
theorem dX8_partMany_7 : decode cX8_partMany 7 = .ok (.aload_n 0, 1) := by decide +kernel
theorem dX8_partMany_8 : decode cX8_partMany 8 = .ok (.getfield 13, 3) := by decide +kernel
theorem dX8_partMany_11 : decode cX8_partMany 11 = .ok (.iconst 0, 1) := by decide +kernel
theorem dX8_partMany_12 : decode cX8_partMany 12 = .ok (.iaload, 1) := by decide +kernel
theorem dX8_partMany_13 : decode cX8_partMany 13 = .ok (.if_icmp .ge 32, 3) := by decide +kernel
theorem dX8_partMany_16 : decode cX8_partMany 16 = .ok (.iload_n 2, 1) := by decide +kernel
theorem dX8_partMany_17 : decode cX8_partMany 17 = .ok (.iload_n 3, 1) := by decide +kernel
theorem dX8_partMany_18 : decode cX8_partMany 18 = .ok (.ishr, 1) := by decide +kernel
theorem dX8_partMany_19 : decode cX8_partMany 19 = .ok (.iconst 1, 1) := by decide +kernel
theorem dX8_partMany_20 : decode cX8_partMany 20 = .ok (.iand, 1) := by decide +kernel
theorem dX8_partMany_21 : decode cX8_partMany 21 = .ok (.iconst 1, 1) := by decide +kernel
theorem dX8_partMany_22 : decode cX8_partMany 22 = .ok (.if_icmp .ne 6, 3) := by decide +kernel
theorem dX8_partMany_25 : decode cX8_partMany 25 = .ok (.goto 14, 3) := by decide +kernel
theorem dX8_partMany_28 : decode cX8_partMany 28 = .ok (.iload_n 2, 1) := by decide +kernel
theorem dX8_partMany_29 : decode cX8_partMany 29 = .ok (.aload_n 0, 1) := by decide +kernel
theorem dX8_partMany_30 : decode cX8_partMany 30 = .ok (.iload_n 3, 1) := by decide +kernel
theorem dX8_partMany_31 : decode cX8_partMany 31 = .ok (.invokevirtual 273, 3) := by decide +kernel
theorem dX8_partMany_34 : decode cX8_partMany 34 = .ok (.ior, 1) := by decide +kernel
theorem dX8_partMany_35 : decode cX8_partMany 35 = .ok (.istore_n 2, 1) := by decide +kernel
theorem dX8_partMany_36 : decode cX8_partMany 36 = .ok (.iinc 1 1, 3) := by decide +kernel
theorem dX8_partMany_39 : decode cX8_partMany 39 = .ok (.iinc 3 1, 3) := by decide +kernel
theorem dX8_partMany_42 : decode cX8_partMany 42 = .ok (.goto (-36), 3) := by decide +kernel
theorem dX8_partMany_45 : decode cX8_partMany 45 = .ok (.iload_n 1, 1) := by decide +kernel
theorem dX8_partMany_46 : decode cX8_partMany 46 = .ok (.ireturn, 1) := by decide +kernel
theorem dX8_parts_0 : decode cX8_parts 0 = .ok (.aload_n 0, 1) := by decide +kernel
theorem dX8_parts_1 : decode cX8_parts 1 = .ok (.iconst 0, 1) := by decide +kernel
theorem dX8_parts_2 : decode cX8_parts 2 = .ok (.putfield 1, 3) := by decide +kernel
theorem dX8_parts_5 : decode cX8_parts 5 = .ok (.aload_n 0, 1) := by decide +kernel
theorem dX8_parts_6 : decode cX8_parts 6 = .ok (.invokevirtual 276, 3) := by decide +kernel
theorem dX8_parts_9 : decode cX8_parts 9 = .ok (.ireturn, 1) := by decide +kernel
theorem dX8_isStay_0 : decode cX8_isStay 0 = .ok (.aload_n 0, 1) := by decide +kernel
theorem dX8_isStay_1 : decode cX8_isStay 1 = .ok (.iload_n 1, 1) := by decide +kernel
theorem dX8_isStay_2 : decode cX8_isStay 2 = .ok (.iload_n 2, 1) := by decide +kernel
theorem dX8_isStay_3 : decode cX8_isStay 3 = .ok (.aload_n 0, 1) := by decide +kernel
theorem dX8_isStay_4 : decode cX8_isStay 4 = .ok (.getfield 13, 3) := by decide +kernel
theorem dX8_isStay_7 : decode cX8_isStay 7 = .ok (.iconst 1, 1) := by decide +kernel
theorem dX8_isStay_8 : decode cX8_isStay 8 = .ok (.iaload, 1) := by decide +kernel
theorem dX8_isStay_9 : decode cX8_isStay 9 = .ok (.invokevirtual 211, 3) := by decide +kernel
theorem dX8_isStay_12 : decode cX8_isStay 12 = .ok (.ifCond .ne 5, 3) := by decide +kernel
theorem dX8_isStay_15 : decode cX8_isStay 15 = .ok (.iconst 0, 1) := by decide +kernel
theorem dX8_isStay_16 : decode cX8_isStay 16 = .ok (.ireturn, 1) := by decide +kernel
theorem dX8_isStay_17 : decode cX8_isStay 17 = .ok (.aload_n 0, 1) := by decide +kernel
theorem dX8_isStay_18 : decode cX8_isStay 18 = .ok (.getfield 13, 3) := by decide +kernel
theorem dX8_isStay_21 : decode cX8_isStay 21 = .ok (.bipush 42, 2) := by decide +kernel
theorem dX8_isStay_23 : decode cX8_isStay 23 = .ok (.bipush 12, 2) := by decide +kernel
theorem dX8_isStay_25 : decode cX8_isStay 25 = .ok (.iload_n 1, 1) := by decide +kernel
theorem dX8_isStay_26 : decode cX8_isStay 26 = .ok (.imul, 1) := by decide +kernel
theorem dX8_isStay_27 : decode cX8_isStay 27 = .ok (.iadd, 1) := by decide +kernel
theorem dX8_isStay_28 : decode cX8_isStay 28 = .ok (.iload_n 2, 1) := by decide +kernel
theorem dX8_isStay_29 : decode cX8_isStay 29 = .ok (.iadd, 1) := by decide +kernel
theorem dX8_isStay_30 : decode cX8_isStay 30 = .ok (.iaload, 1) := by decide +kernel
theorem dX8_isStay_31 : decode cX8_isStay 31 = .ok (.istore_n 3, 1) := by decide +kernel
theorem dX8_isStay_32 : decode cX8_isStay 32 = .ok (.aload_n 0, 1) := by decide +kernel
theorem dX8_isStay_33 : decode cX8_isStay 33 = .ok (.getfield 13, 3) := by decide +kernel
theorem dX8_isStay_36 : decode cX8_isStay 36 = .ok (.iload_n 1, 1) := by decide +kernel
theorem dX8_isStay_37 : decode cX8_isStay 37 = .ok (.iload_n 2, 1) := by decide +kernel
theorem dX8_isStay_38 : decode cX8_isStay 38 = .ok (.iconst 0, 1) := by decide +kernel
theorem dX8_isStay_39 : decode cX8_isStay 39 = .ok (.invokestatic 158, 3) := by decide +kernel
theorem dX8_isStay_42 : decode cX8_isStay 42 = .ok (.aload_n 0, 1) := by decide +kernel
theorem dX8_isStay_43 : decode cX8_isStay 43 = .ok (.iload_n 1, 1) := by decide +kernel
theorem dX8_isStay_44 : decode cX8_isStay 44 = .ok (.invokevirtual 273, 3) := by decide +kernel
theorem dX8_isStay_47 : decode cX8_isStay 47 = .ok (.iload_n 2, 1) := by decide +kernel
theorem dX8_isStay_48 : decode cX8_isStay 48 = .ok (.ishr, 1) := by decide +kernel
theorem dX8_isStay_49 : decode cX8_isStay 49 = .ok (.iconst 1, 1) := by decide +kernel
theorem dX8_isStay_50 : decode cX8_isStay 50 = .ok (.iand, 1) := by decide +kernel
theorem dX8_isStay_51 : decode cX8_isStay 51 = .ok (.ifCond .ne 7, 3) := by decide +kernel
theorem dX8_isStay_54 : decode cX8_isStay 54 = .ok (.iconst 1, 1) := by decide +kernel
theorem dX8_isStay_55 : decode cX8_isStay 55 = .ok (.goto 4, 3) := by decide +kernel
theorem dX8_isStay_58 : decode cX8_isStay 58 = .ok (.iconst 0, 1) := by decide +kernel
theorem dX8_isStay_59 : decode cX8_isStay 59 = .ok (.istore 4, 2) := by decide +kernel
theorem dX8_isStay_61 : decode cX8_isStay 61 = .ok (.aload_n 0, 1) := by decide +kernel
theorem dX8_isStay_62 : decode cX8_isStay 62 = .ok (.getfield 13, 3) := by decide +kernel
theorem dX8_isStay_65 : decode cX8_isStay 65 = .ok (.iload_n 1, 1) := by decide +kernel
theorem dX8_isStay_66 : decode cX8_isStay 66 = .ok (.iload_n 2, 1) := by decide +kernel
theorem dX8_isStay_67 : decode cX8_isStay 67 = .ok (.iload_n 3, 1) := by decide +kernel
theorem dX8_isStay_68 : decode cX8_isStay 68 = .ok (.invokestatic 158, 3) := by decide +kernel
theorem dX8_isStay_71 : decode cX8_isStay 71 = .ok (.iload 4, 2) := by decide +kernel
theorem dX8_isStay_73 : decode cX8_isStay 73 = .ok (.ireturn, 1) := by decide +kernel
theorem dX8_stays_0 : decode cX8_stays 0 = .ok (.iconst 0, 1) := by decide +kernel
theorem dX8_stays_1 : decode cX8_stays 1 = .ok (.istore_n 1, 1) := by decide +kernel
theorem dX8_stays_2 : decode cX8_stays 2 = .ok (.iconst 0, 1) := by decide +kernel
theorem dX8_stays_3 : decode cX8_stays 3 = .ok (.istore_n 2, 1) := by decide +kernel
theorem dX8_stays_4 : decode cX8_stays 4 = .ok (.iload_n 2, 1) := by decide +kernel
theorem dX8_stays_5 : decode cX8_stays 5 = .ok (.aload_n 0, 1) := by decide +kernel
theorem dX8_stays_6 : decode cX8_stays 6 = .ok (.getfield 13, 3) := by decide +kernel
theorem dX8_stays_9 : decode cX8_stays 9 = .ok (.iconst 0, 1) := by decide +kernel
theorem dX8_stays_10 : decode cX8_stays 10 = .ok (.iaload, 1) := by decide +kernel
theorem dX8_stays_11 : decode cX8_stays 11 = .ok (.if_icmp .ge 46, 3) := by decide +kernel
theorem dX8_stays_14 : decode cX8_stays 14 = .ok (.iload_n 2, 1) := by decide +kernel
theorem dX8_stays_15 : decode cX8_stays 15 = .ok (.iconst 1, 1) := by decide +kernel
theorem dX8_stays_16 : decode cX8_stays 16 = .ok (.iadd, 1) := by decide +kernel
theorem dX8_stays_17 : decode cX8_stays 17 = .ok (.istore_n 3, 1) := by decide +kernel
theorem dX8_stays_18 : decode cX8_stays 18 = .ok (.iload_n 3, 1) := by decide +kernel
theorem dX8_stays_19 : decode cX8_stays 19 = .ok (.aload_n 0, 1) := by decide +kernel
theorem dX8_stays_20 : decode cX8_stays 20 = .ok (.getfield 13, 3) := by decide +kernel
theorem dX8_stays_23 : decode cX8_stays 23 = .ok (.iconst 0, 1) := by decide +kernel
theorem dX8_stays_24 : decode cX8_stays 24 = .ok (.iaload, 1) := by decide +kernel
theorem dX8_stays_25 : decode cX8_stays 25 = .ok (.if_icmp .ge 26, 3) := by decide +kernel
theorem dX8_stays_28 : decode cX8_stays 28 = .ok (.iload_n 1, 1) := by decide +kernel
theorem dX8_stays_29 : decode cX8_stays 29 = .ok (.aload_n 0, 1) := by decide +kernel
theorem dX8_stays_30 : decode cX8_stays 30 = .ok (.iload_n 2, 1) := by decide +kernel
theorem dX8_stays_31 : decode cX8_stays 31 = .ok (.iload_n 3, 1) := by decide +kernel
theorem dX8_stays_32 : decode cX8_stays 32 = .ok (.invokevirtual 279, 3) := by decide +kernel
theorem dX8_stays_35 : decode cX8_stays 35 = .ok (.ifCond .eq 7, 3) := by decide +kernel
theorem dX8_stays_38 : decode cX8_stays 38 = .ok (.iconst 1, 1) := by decide +kernel
theorem dX8_stays_39 : decode cX8_stays 39 = .ok (.goto 4, 3) := by decide +kernel
theorem dX8_stays_42 : decode cX8_stays 42 = .ok (.iconst 0, 1) := by decide +kernel
theorem dX8_stays_43 : decode cX8_stays 43 = .ok (.iadd, 1) := by decide +kernel
theorem dX8_stays_44 : decode cX8_stays 44 = .ok (.istore_n 1, 1) := by decide +kernel
theorem dX8_stays_45 : decode cX8_stays 45 = .ok (.iinc 3 1, 3) := by decide +kernel
theorem dX8_stays_48 : decode cX8_stays 48 = .ok (.goto (-30), 3) := by decide +kernel
theorem dX8_stays_51 : decode cX8_stays 51 = .ok (.iinc 2 1, 3) := by decide +kernel
theorem dX8_stays_54 : decode cX8_stays 54 = .ok (.goto (-50), 3) := by decide +kernel
theorem dX8_stays_57 : decode cX8_stays 57 = .ok (.iload_n 1, 1) := by decide +kernel
theorem dX8_stays_58 : decode cX8_stays 58 = .ok (.ireturn, 1) := by decide +kernel
theorem dX8_stay_0 : decode cX8_stay 0 = .ok (.aload_n 0, 1) := by decide +kernel
theorem dX8_stay_1 : decode cX8_stay 1 = .ok (.iconst 0, 1) := by decide +kernel
theorem dX8_stay_2 : decode cX8_stay 2 = .ok (.putfield 1, 3) := by decide +kernel
theorem dX8_stay_5 : decode cX8_stay 5 = .ok (.iconst 0, 1) := by decide +kernel
theorem dX8_stay_6 : decode cX8_stay 6 = .ok (.istore_n 2, 1) := by decide +kernel
theorem dX8_stay_7 : decode cX8_stay 7 = .ok (.iconst 0, 1) := by decide +kernel
theorem dX8_stay_8 : decode cX8_stay 8 = .ok (.istore_n 3, 1) := by decide +kernel
theorem dX8_stay_9 : decode cX8_stay 9 = .ok (.iload_n 3, 1) := by decide +kernel
theorem dX8_stay_10 : decode cX8_stay 10 = .ok (.aload_n 0, 1) := by decide +kernel
theorem dX8_stay_11 : decode cX8_stay 11 = .ok (.getfield 13, 3) := by decide +kernel
theorem dX8_stay_14 : decode cX8_stay 14 = .ok (.iconst 0, 1) := by decide +kernel
theorem dX8_stay_15 : decode cX8_stay 15 = .ok (.iaload, 1) := by decide +kernel
theorem dX8_stay_16 : decode cX8_stay 16 = .ok (.if_icmp .ge 60, 3) := by decide +kernel
theorem dX8_stay_19 : decode cX8_stay 19 = .ok (.iload_n 3, 1) := by decide +kernel
theorem dX8_stay_20 : decode cX8_stay 20 = .ok (.iconst 1, 1) := by decide +kernel
theorem dX8_stay_21 : decode cX8_stay 21 = .ok (.iadd, 1) := by decide +kernel
theorem dX8_stay_22 : decode cX8_stay 22 = .ok (.istore 4, 2) := by decide +kernel
theorem dX8_stay_24 : decode cX8_stay 24 = .ok (.iload 4, 2) := by decide +kernel
theorem dX8_stay_26 : decode cX8_stay 26 = .ok (.aload_n 0, 1) := by decide +kernel
theorem dX8_stay_27 : decode cX8_stay 27 = .ok (.getfield 13, 3) := by decide +kernel
theorem dX8_stay_30 : decode cX8_stay 30 = .ok (.iconst 0, 1) := by decide +kernel
theorem dX8_stay_31 : decode cX8_stay 31 = .ok (.iaload, 1) := by decide +kernel
theorem dX8_stay_32 : decode cX8_stay 32 = .ok (.if_icmp .ge 38, 3) := by decide +kernel
theorem dX8_stay_35 : decode cX8_stay 35 = .ok (.aload_n 0, 1) := by decide +kernel
theorem dX8_stay_36 : decode cX8_stay 36 = .ok (.iload_n 3, 1) := by decide +kernel
theorem dX8_stay_37 : decode cX8_stay 37 = .ok (.iload 4, 2) := by decide +kernel
theorem dX8_stay_39 : decode cX8_stay 39 = .ok (.invokevirtual 279, 3) := by decide +kernel
theorem dX8_stay_42 : decode cX8_stay 42 = .ok (.ifCond .ne 6, 3) := by decide +kernel
theorem dX8_stay_45 : decode cX8_stay 45 = .ok (.goto 19, 3) := by decide +kernel
theorem dX8_stay_48 : decode cX8_stay 48 = .ok (.iload_n 2, 1) := by decide +kernel
theorem dX8_stay_49 : decode cX8_stay 49 = .ok (.iload_n 1, 1) := by decide +kernel
theorem dX8_stay_50 : decode cX8_stay 50 = .ok (.if_icmp .ne 11, 3) := by decide +kernel
theorem dX8_stay_53 : decode cX8_stay 53 = .ok (.bipush 20, 2) := by decide +kernel
theorem dX8_stay_55 : decode cX8_stay 55 = .ok (.iload_n 3, 1) := by decide +kernel
theorem dX8_stay_56 : decode cX8_stay 56 = .ok (.imul, 1) := by decide +kernel
theorem dX8_stay_57 : decode cX8_stay 57 = .ok (.iload 4, 2) := by decide +kernel
theorem dX8_stay_59 : decode cX8_stay 59 = .ok (.iadd, 1) := by decide +kernel
theorem dX8_stay_60 : decode cX8_stay 60 = .ok (.ireturn, 1) := by decide +kernel
theorem dX8_stay_61 : decode cX8_stay 61 = .ok (.iinc 2 1, 3) := by decide +kernel
theorem dX8_stay_64 : decode cX8_stay 64 = .ok (.iinc 4 1, 3) := by decide +kernel
theorem dX8_stay_67 : decode cX8_stay 67 = .ok (.goto (-43), 3) := by decide +kernel
theorem dX8_stay_70 : decode cX8_stay 70 = .ok (.iinc 3 1, 3) := by decide +kernel
theorem dX8_stay_73 : decode cX8_stay 73 = .ok (.goto (-64), 3) := by decide +kernel
theorem dX8_stay_76 : decode cX8_stay 76 = .ok (.iload_n 1, 1) := by decide +kernel
theorem dX8_stay_77 : decode cX8_stay 77 = .ok (.iconst (-1), 1) := by decide +kernel
theorem dX8_stay_78 : decode cX8_stay 78 = .ok (.if_icmp .ne 7, 3) := by decide +kernel
theorem dX8_stay_81 : decode cX8_stay 81 = .ok (.iload_n 2, 1) := by decide +kernel
theorem dX8_stay_82 : decode cX8_stay 82 = .ok (.goto 4, 3) := by decide +kernel
theorem dX8_stay_85 : decode cX8_stay 85 = .ok (.iconst (-1), 1) := by decide +kernel
theorem dX8_stay_86 : decode cX8_stay 86 = .ok (.ireturn, 1) := by decide +kernel
theorem dX8_brace_0 : decode cX8_brace 0 = .ok (.aload_n 0, 1) := by decide +kernel
theorem dX8_brace_1 : decode cX8_brace 1 = .ok (.iconst 0, 1) := by decide +kernel
theorem dX8_brace_2 : decode cX8_brace 2 = .ok (.putfield 1, 3) := by decide +kernel
theorem dX8_brace_5 : decode cX8_brace 5 = .ok (.iconst (-1), 1) := by decide +kernel
theorem dX8_brace_6 : decode cX8_brace 6 = .ok (.istore_n 1, 1) := by decide +kernel
theorem dX8_brace_7 : decode cX8_brace 7 = .ok (.iconst 0, 1) := by decide +kernel
theorem dX8_brace_8 : decode cX8_brace 8 = .ok (.istore_n 2, 1) := by decide +kernel
theorem dX8_brace_9 : decode cX8_brace 9 = .ok (.iconst 0, 1) := by decide +kernel
theorem dX8_brace_10 : decode cX8_brace 10 = .ok (.istore_n 3, 1) := by decide +kernel
theorem dX8_brace_11 : decode cX8_brace 11 = .ok (.iconst 0, 1) := by decide +kernel
theorem dX8_brace_12 : decode cX8_brace 12 = .ok (.istore 4, 2) := by decide +kernel
theorem dX8_brace_14 : decode cX8_brace 14 = .ok (.iload 4, 2) := by decide +kernel
theorem dX8_brace_16 : decode cX8_brace 16 = .ok (.aload_n 0, 1) := by decide +kernel
theorem dX8_brace_17 : decode cX8_brace 17 = .ok (.getfield 13, 3) := by decide +kernel
theorem dX8_brace_20 : decode cX8_brace 20 = .ok (.iconst 0, 1) := by decide +kernel
theorem dX8_brace_21 : decode cX8_brace 21 = .ok (.iaload, 1) := by decide +kernel
theorem dX8_brace_22 : decode cX8_brace 22 = .ok (.if_icmp .ge 141, 3) := by decide +kernel
theorem dX8_brace_25 : decode cX8_brace 25 = .ok (.iload 4, 2) := by decide +kernel
theorem dX8_brace_27 : decode cX8_brace 27 = .ok (.iconst 1, 1) := by decide +kernel
theorem dX8_brace_28 : decode cX8_brace 28 = .ok (.iadd, 1) := by decide +kernel
theorem dX8_brace_29 : decode cX8_brace 29 = .ok (.istore 5, 2) := by decide +kernel
theorem dX8_brace_31 : decode cX8_brace 31 = .ok (.iload 5, 2) := by decide +kernel
theorem dX8_brace_33 : decode cX8_brace 33 = .ok (.aload_n 0, 1) := by decide +kernel
theorem dX8_brace_34 : decode cX8_brace 34 = .ok (.getfield 13, 3) := by decide +kernel
theorem dX8_brace_37 : decode cX8_brace 37 = .ok (.iconst 0, 1) := by decide +kernel
theorem dX8_brace_38 : decode cX8_brace 38 = .ok (.iaload, 1) := by decide +kernel
theorem dX8_brace_39 : decode cX8_brace 39 = .ok (.if_icmp .ge 118, 3) := by decide +kernel
theorem dX8_brace_42 : decode cX8_brace 42 = .ok (.aload_n 0, 1) := by decide +kernel
theorem dX8_brace_43 : decode cX8_brace 43 = .ok (.getfield 13, 3) := by decide +kernel
theorem dX8_brace_46 : decode cX8_brace 46 = .ok (.iload 4, 2) := by decide +kernel
theorem dX8_brace_48 : decode cX8_brace 48 = .ok (.iload 5, 2) := by decide +kernel
theorem dX8_brace_50 : decode cX8_brace 50 = .ok (.invokestatic 154, 3) := by decide +kernel
theorem dX8_brace_53 : decode cX8_brace 53 = .ok (.ifCond .ne 98, 3) := by decide +kernel
theorem dX8_brace_56 : decode cX8_brace 56 = .ok (.aload_n 0, 1) := by decide +kernel
theorem dX8_brace_57 : decode cX8_brace 57 = .ok (.iload 4, 2) := by decide +kernel
theorem dX8_brace_59 : decode cX8_brace 59 = .ok (.iload 5, 2) := by decide +kernel
theorem dX8_brace_61 : decode cX8_brace 61 = .ok (.invokevirtual 228, 3) := by decide +kernel
theorem dX8_brace_64 : decode cX8_brace 64 = .ok (.ifCond .eq 6, 3) := by decide +kernel
theorem dX8_brace_67 : decode cX8_brace 67 = .ok (.goto 84, 3) := by decide +kernel
theorem dX8_brace_70 : decode cX8_brace 70 = .ok (.aload_n 0, 1) := by decide +kernel
theorem dX8_brace_71 : decode cX8_brace 71 = .ok (.getfield 13, 3) := by decide +kernel
theorem dX8_brace_74 : decode cX8_brace 74 = .ok (.iload 4, 2) := by decide +kernel
theorem dX8_brace_76 : decode cX8_brace 76 = .ok (.iload 5, 2) := by decide +kernel
theorem dX8_brace_78 : decode cX8_brace 78 = .ok (.iconst 1, 1) := by decide +kernel
theorem dX8_brace_79 : decode cX8_brace 79 = .ok (.invokestatic 158, 3) := by decide +kernel
theorem dX8_brace_82 : decode cX8_brace 82 = .ok (.aload_n 0, 1) := by decide +kernel
theorem dX8_brace_83 : decode cX8_brace 83 = .ok (.invokevirtual 282, 3) := by decide +kernel
theorem dX8_brace_86 : decode cX8_brace 86 = .ok (.istore 6, 2) := by decide +kernel
theorem dX8_brace_88 : decode cX8_brace 88 = .ok (.aload_n 0, 1) := by decide +kernel
theorem dX8_brace_89 : decode cX8_brace 89 = .ok (.getfield 13, 3) := by decide +kernel
theorem dX8_brace_92 : decode cX8_brace 92 = .ok (.iload 4, 2) := by decide +kernel
theorem dX8_brace_94 : decode cX8_brace 94 = .ok (.iload 5, 2) := by decide +kernel
theorem dX8_brace_96 : decode cX8_brace 96 = .ok (.iconst 0, 1) := by decide +kernel
theorem dX8_brace_97 : decode cX8_brace 97 = .ok (.invokestatic 158, 3) := by decide +kernel
theorem dX8_brace_100 : decode cX8_brace 100 = .ok (.aload_n 0, 1) := by decide +kernel
theorem dX8_brace_101 : decode cX8_brace 101 = .ok (.iload 4, 2) := by decide +kernel
theorem dX8_brace_103 : decode cX8_brace 103 = .ok (.iload 5, 2) := by decide +kernel
theorem dX8_brace_105 : decode cX8_brace 105 = .ok (.invokevirtual 198, 3) := by decide +kernel
theorem dX8_brace_108 : decode cX8_brace 108 = .ok (.istore 7, 2) := by decide +kernel
theorem dX8_brace_110 : decode cX8_brace 110 = .ok (.iload_n 1, 1) := by decide +kernel
theorem dX8_brace_111 : decode cX8_brace 111 = .ok (.iconst (-1), 1) := by decide +kernel
theorem dX8_brace_112 : decode cX8_brace 112 = .ok (.if_icmp .eq 24, 3) := by decide +kernel
theorem dX8_brace_115 : decode cX8_brace 115 = .ok (.iload 6, 2) := by decide +kernel
theorem dX8_brace_117 : decode cX8_brace 117 = .ok (.iload_n 2, 1) := by decide +kernel
theorem dX8_brace_118 : decode cX8_brace 118 = .ok (.if_icmp .gt 33, 3) := by decide +kernel
theorem dX8_brace_121 : decode cX8_brace 121 = .ok (.iload 6, 2) := by decide +kernel
theorem dX8_brace_123 : decode cX8_brace 123 = .ok (.iload_n 2, 1) := by decide +kernel
theorem dX8_brace_124 : decode cX8_brace 124 = .ok (.if_icmp .ne 12, 3) := by decide +kernel
theorem dX8_brace_127 : decode cX8_brace 127 = .ok (.iload 7, 2) := by decide +kernel
theorem dX8_brace_129 : decode cX8_brace 129 = .ok (.iload_n 3, 1) := by decide +kernel
theorem dX8_brace_130 : decode cX8_brace 130 = .ok (.if_icmp .lt 6, 3) := by decide +kernel
theorem dX8_brace_133 : decode cX8_brace 133 = .ok (.goto 18, 3) := by decide +kernel
theorem dX8_brace_136 : decode cX8_brace 136 = .ok (.bipush 20, 2) := by decide +kernel
theorem dX8_brace_138 : decode cX8_brace 138 = .ok (.iload 4, 2) := by decide +kernel
theorem dX8_brace_140 : decode cX8_brace 140 = .ok (.imul, 1) := by decide +kernel
theorem dX8_brace_141 : decode cX8_brace 141 = .ok (.iload 5, 2) := by decide +kernel
theorem dX8_brace_143 : decode cX8_brace 143 = .ok (.iadd, 1) := by decide +kernel
theorem dX8_brace_144 : decode cX8_brace 144 = .ok (.istore_n 1, 1) := by decide +kernel
theorem dX8_brace_145 : decode cX8_brace 145 = .ok (.iload 6, 2) := by decide +kernel
theorem dX8_brace_147 : decode cX8_brace 147 = .ok (.istore_n 2, 1) := by decide +kernel
theorem dX8_brace_148 : decode cX8_brace 148 = .ok (.iload 7, 2) := by decide +kernel
theorem dX8_brace_150 : decode cX8_brace 150 = .ok (.istore_n 3, 1) := by decide +kernel
theorem dX8_brace_151 : decode cX8_brace 151 = .ok (.iinc 5 1, 3) := by decide +kernel
theorem dX8_brace_154 : decode cX8_brace 154 = .ok (.goto (-123), 3) := by decide +kernel
theorem dX8_brace_157 : decode cX8_brace 157 = .ok (.iinc 4 1, 3) := by decide +kernel
theorem dX8_brace_160 : decode cX8_brace 160 = .ok (.goto (-146), 3) := by decide +kernel
theorem dX8_brace_163 : decode cX8_brace 163 = .ok (.iload_n 1, 1) := by decide +kernel
theorem dX8_brace_164 : decode cX8_brace 164 = .ok (.ireturn, 1) := by decide +kernel
theorem dX8_goesBoth_0 : decode cX8_goesBoth 0 = .ok (.iload_n 1, 1) := by decide +kernel
theorem dX8_goesBoth_1 : decode cX8_goesBoth 1 = .ok (.iload_n 2, 1) := by decide +kernel
theorem dX8_goesBoth_2 : decode cX8_goesBoth 2 = .ok (.if_icmp .ne 68, 3) := by decide +kernel
theorem dX8_goesBoth_5 : decode cX8_goesBoth 5 = .ok (.aload_n 0, 1) := by decide +kernel
theorem dX8_goesBoth_6 : decode cX8_goesBoth 6 = .ok (.iload 6, 2) := by decide +kernel
theorem dX8_goesBoth_8 : decode cX8_goesBoth 8 = .ok (.iload_n 3, 1) := by decide +kernel
theorem dX8_goesBoth_9 : decode cX8_goesBoth 9 = .ok (.aload_n 0, 1) := by decide +kernel
theorem dX8_goesBoth_10 : decode cX8_goesBoth 10 = .ok (.getfield 13, 3) := by decide +kernel
theorem dX8_goesBoth_13 : decode cX8_goesBoth 13 = .ok (.iconst 1, 1) := by decide +kernel
theorem dX8_goesBoth_14 : decode cX8_goesBoth 14 = .ok (.iaload, 1) := by decide +kernel
theorem dX8_goesBoth_15 : decode cX8_goesBoth 15 = .ok (.invokevirtual 262, 3) := by decide +kernel
theorem dX8_goesBoth_18 : decode cX8_goesBoth 18 = .ok (.aload_n 0, 1) := by decide +kernel
theorem dX8_goesBoth_19 : decode cX8_goesBoth 19 = .ok (.getfield 30, 3) := by decide +kernel
theorem dX8_goesBoth_22 : decode cX8_goesBoth 22 = .ok (.iload 5, 2) := by decide +kernel
theorem dX8_goesBoth_24 : decode cX8_goesBoth 24 = .ok (.iaload, 1) := by decide +kernel
theorem dX8_goesBoth_25 : decode cX8_goesBoth 25 = .ok (.ldc 251, 2) := by decide +kernel
theorem dX8_goesBoth_27 : decode cX8_goesBoth 27 = .ok (.if_icmp .ge 42, 3) := by decide +kernel
theorem dX8_goesBoth_30 : decode cX8_goesBoth 30 = .ok (.aload_n 0, 1) := by decide +kernel
theorem dX8_goesBoth_31 : decode cX8_goesBoth 31 = .ok (.getfield 285, 3) := by decide +kernel
theorem dX8_goesBoth_34 : decode cX8_goesBoth 34 = .ok (.iconst (-1), 1) := by decide +kernel
theorem dX8_goesBoth_35 : decode cX8_goesBoth 35 = .ok (.if_icmp .eq 20, 3) := by decide +kernel
theorem dX8_goesBoth_38 : decode cX8_goesBoth 38 = .ok (.iload 4, 2) := by decide +kernel
theorem dX8_goesBoth_40 : decode cX8_goesBoth 40 = .ok (.aload_n 0, 1) := by decide +kernel
theorem dX8_goesBoth_41 : decode cX8_goesBoth 41 = .ok (.getfield 30, 3) := by decide +kernel
theorem dX8_goesBoth_44 : decode cX8_goesBoth 44 = .ok (.iload 5, 2) := by decide +kernel
theorem dX8_goesBoth_46 : decode cX8_goesBoth 46 = .ok (.iaload, 1) := by decide +kernel
theorem dX8_goesBoth_47 : decode cX8_goesBoth 47 = .ok (.iadd, 1) := by decide +kernel
theorem dX8_goesBoth_48 : decode cX8_goesBoth 48 = .ok (.aload_n 0, 1) := by decide +kernel
theorem dX8_goesBoth_49 : decode cX8_goesBoth 49 = .ok (.getfield 285, 3) := by decide +kernel
theorem dX8_goesBoth_52 : decode cX8_goesBoth 52 = .ok (.if_icmp .ge 17, 3) := by decide +kernel
theorem dX8_goesBoth_55 : decode cX8_goesBoth 55 = .ok (.aload_n 0, 1) := by decide +kernel
theorem dX8_goesBoth_56 : decode cX8_goesBoth 56 = .ok (.iload 4, 2) := by decide +kernel
theorem dX8_goesBoth_58 : decode cX8_goesBoth 58 = .ok (.aload_n 0, 1) := by decide +kernel
theorem dX8_goesBoth_59 : decode cX8_goesBoth 59 = .ok (.getfield 30, 3) := by decide +kernel
theorem dX8_goesBoth_62 : decode cX8_goesBoth 62 = .ok (.iload 5, 2) := by decide +kernel
theorem dX8_goesBoth_64 : decode cX8_goesBoth 64 = .ok (.iaload, 1) := by decide +kernel
theorem dX8_goesBoth_65 : decode cX8_goesBoth 65 = .ok (.iadd, 1) := by decide +kernel
theorem dX8_goesBoth_66 : decode cX8_goesBoth 66 = .ok (.putfield 285, 3) := by decide +kernel
theorem dX8_goesBoth_69 : decode cX8_goesBoth 69 = .ok (.return_, 1) := by decide +kernel
theorem dX8_goesBoth_70 : decode cX8_goesBoth 70 = .ok (.iconst 0, 1) := by decide +kernel
theorem dX8_goesBoth_71 : decode cX8_goesBoth 71 = .ok (.istore 7, 2) := by decide +kernel
theorem dX8_goesBoth_73 : decode cX8_goesBoth 73 = .ok (.iload 7, 2) := by decide +kernel
theorem dX8_goesBoth_75 : decode cX8_goesBoth 75 = .ok (.aload_n 0, 1) := by decide +kernel
theorem dX8_goesBoth_76 : decode cX8_goesBoth 76 = .ok (.getfield 13, 3) := by decide +kernel
theorem dX8_goesBoth_79 : decode cX8_goesBoth 79 = .ok (.iconst 0, 1) := by decide +kernel
theorem dX8_goesBoth_80 : decode cX8_goesBoth 80 = .ok (.iaload, 1) := by decide +kernel
theorem dX8_goesBoth_81 : decode cX8_goesBoth 81 = .ok (.if_icmp .ge 75, 3) := by decide +kernel
theorem dX8_goesBoth_84 : decode cX8_goesBoth 84 = .ok (.iload_n 3, 1) := by decide +kernel
theorem dX8_goesBoth_85 : decode cX8_goesBoth 85 = .ok (.iload 7, 2) := by decide +kernel
theorem dX8_goesBoth_87 : decode cX8_goesBoth 87 = .ok (.ishr, 1) := by decide +kernel
theorem dX8_goesBoth_88 : decode cX8_goesBoth 88 = .ok (.iconst 1, 1) := by decide +kernel
theorem dX8_goesBoth_89 : decode cX8_goesBoth 89 = .ok (.iand, 1) := by decide +kernel
theorem dX8_goesBoth_90 : decode cX8_goesBoth 90 = .ok (.ifCond .ne 60, 3) := by decide +kernel
theorem dX8_goesBoth_93 : decode cX8_goesBoth 93 = .ok (.iload 7, 2) := by decide +kernel
theorem dX8_goesBoth_95 : decode cX8_goesBoth 95 = .ok (.iload 5, 2) := by decide +kernel
theorem dX8_goesBoth_97 : decode cX8_goesBoth 97 = .ok (.if_icmp .eq 53, 3) := by decide +kernel
theorem dX8_goesBoth_100 : decode cX8_goesBoth 100 = .ok (.iload 7, 2) := by decide +kernel
theorem dX8_goesBoth_102 : decode cX8_goesBoth 102 = .ok (.iload 6, 2) := by decide +kernel
theorem dX8_goesBoth_104 : decode cX8_goesBoth 104 = .ok (.if_icmp .eq 46, 3) := by decide +kernel
theorem dX8_goesBoth_107 : decode cX8_goesBoth 107 = .ok (.aload_n 0, 1) := by decide +kernel
theorem dX8_goesBoth_108 : decode cX8_goesBoth 108 = .ok (.iload_n 1, 1) := by decide +kernel
theorem dX8_goesBoth_109 : decode cX8_goesBoth 109 = .ok (.iload 7, 2) := by decide +kernel
theorem dX8_goesBoth_111 : decode cX8_goesBoth 111 = .ok (.aload_n 0, 1) := by decide +kernel
theorem dX8_goesBoth_112 : decode cX8_goesBoth 112 = .ok (.getfield 13, 3) := by decide +kernel
theorem dX8_goesBoth_115 : decode cX8_goesBoth 115 = .ok (.iconst 1, 1) := by decide +kernel
theorem dX8_goesBoth_116 : decode cX8_goesBoth 116 = .ok (.iaload, 1) := by decide +kernel
theorem dX8_goesBoth_117 : decode cX8_goesBoth 117 = .ok (.invokevirtual 211, 3) := by decide +kernel
theorem dX8_goesBoth_120 : decode cX8_goesBoth 120 = .ok (.ifCond .eq 30, 3) := by decide +kernel
theorem dX8_goesBoth_123 : decode cX8_goesBoth 123 = .ok (.aload_n 0, 1) := by decide +kernel
theorem dX8_goesBoth_124 : decode cX8_goesBoth 124 = .ok (.iload 7, 2) := by decide +kernel
theorem dX8_goesBoth_126 : decode cX8_goesBoth 126 = .ok (.iload_n 2, 1) := by decide +kernel
theorem dX8_goesBoth_127 : decode cX8_goesBoth 127 = .ok (.iload_n 3, 1) := by decide +kernel
theorem dX8_goesBoth_128 : decode cX8_goesBoth 128 = .ok (.iconst 1, 1) := by decide +kernel
theorem dX8_goesBoth_129 : decode cX8_goesBoth 129 = .ok (.iload 7, 2) := by decide +kernel
theorem dX8_goesBoth_131 : decode cX8_goesBoth 131 = .ok (.ishl, 1) := by decide +kernel
theorem dX8_goesBoth_132 : decode cX8_goesBoth 132 = .ok (.ior, 1) := by decide +kernel
theorem dX8_goesBoth_133 : decode cX8_goesBoth 133 = .ok (.iload 4, 2) := by decide +kernel
theorem dX8_goesBoth_135 : decode cX8_goesBoth 135 = .ok (.aload_n 0, 1) := by decide +kernel
theorem dX8_goesBoth_136 : decode cX8_goesBoth 136 = .ok (.iload_n 1, 1) := by decide +kernel
theorem dX8_goesBoth_137 : decode cX8_goesBoth 137 = .ok (.iload 7, 2) := by decide +kernel
theorem dX8_goesBoth_139 : decode cX8_goesBoth 139 = .ok (.invokevirtual 225, 3) := by decide +kernel
theorem dX8_goesBoth_142 : decode cX8_goesBoth 142 = .ok (.iadd, 1) := by decide +kernel
theorem dX8_goesBoth_143 : decode cX8_goesBoth 143 = .ok (.iload 5, 2) := by decide +kernel
theorem dX8_goesBoth_145 : decode cX8_goesBoth 145 = .ok (.iload 6, 2) := by decide +kernel
theorem dX8_goesBoth_147 : decode cX8_goesBoth 147 = .ok (.invokevirtual 288, 3) := by decide +kernel
theorem dX8_goesBoth_150 : decode cX8_goesBoth 150 = .ok (.iinc 7 1, 3) := by decide +kernel
theorem dX8_goesBoth_153 : decode cX8_goesBoth 153 = .ok (.goto (-80), 3) := by decide +kernel
theorem dX8_goesBoth_156 : decode cX8_goesBoth 156 = .ok (.return_, 1) := by decide +kernel
theorem dX8_both_0 : decode cX8_both 0 = .ok (.aload_n 0, 1) := by decide +kernel
theorem dX8_both_1 : decode cX8_both 1 = .ok (.iconst 0, 1) := by decide +kernel
theorem dX8_both_2 : decode cX8_both 2 = .ok (.putfield 1, 3) := by decide +kernel
theorem dX8_both_5 : decode cX8_both 5 = .ok (.aload_n 0, 1) := by decide +kernel
theorem dX8_both_6 : decode cX8_both 6 = .ok (.iload_n 1, 1) := by decide +kernel
theorem dX8_both_7 : decode cX8_both 7 = .ok (.i2l, 1) := by decide +kernel
theorem dX8_both_8 : decode cX8_both 8 = .ok (.invokevirtual 222, 3) := by decide +kernel
theorem dX8_both_11 : decode cX8_both 11 = .ok (.ifCond .eq 12, 3) := by decide +kernel
theorem dX8_both_14 : decode cX8_both 14 = .ok (.aload_n 0, 1) := by decide +kernel
theorem dX8_both_15 : decode cX8_both 15 = .ok (.iload_n 2, 1) := by decide +kernel
theorem dX8_both_16 : decode cX8_both 16 = .ok (.i2l, 1) := by decide +kernel
theorem dX8_both_17 : decode cX8_both 17 = .ok (.invokevirtual 222, 3) := by decide +kernel
theorem dX8_both_20 : decode cX8_both 20 = .ok (.ifCond .ne 6, 3) := by decide +kernel
theorem dX8_both_23 : decode cX8_both 23 = .ok (.bipush (-2), 2) := by decide +kernel
theorem dX8_both_25 : decode cX8_both 25 = .ok (.ireturn, 1) := by decide +kernel
theorem dX8_both_26 : decode cX8_both 26 = .ok (.iload_n 1, 1) := by decide +kernel
theorem dX8_both_27 : decode cX8_both 27 = .ok (.bipush 20, 2) := by decide +kernel
theorem dX8_both_29 : decode cX8_both 29 = .ok (.idiv, 1) := by decide +kernel
theorem dX8_both_30 : decode cX8_both 30 = .ok (.istore_n 3, 1) := by decide +kernel
theorem dX8_both_31 : decode cX8_both 31 = .ok (.iload_n 1, 1) := by decide +kernel
theorem dX8_both_32 : decode cX8_both 32 = .ok (.bipush 20, 2) := by decide +kernel
theorem dX8_both_34 : decode cX8_both 34 = .ok (.irem, 1) := by decide +kernel
theorem dX8_both_35 : decode cX8_both 35 = .ok (.istore 4, 2) := by decide +kernel
theorem dX8_both_37 : decode cX8_both 37 = .ok (.iload_n 2, 1) := by decide +kernel
theorem dX8_both_38 : decode cX8_both 38 = .ok (.bipush 20, 2) := by decide +kernel
theorem dX8_both_40 : decode cX8_both 40 = .ok (.idiv, 1) := by decide +kernel
theorem dX8_both_41 : decode cX8_both 41 = .ok (.istore 5, 2) := by decide +kernel
theorem dX8_both_43 : decode cX8_both 43 = .ok (.iload_n 2, 1) := by decide +kernel
theorem dX8_both_44 : decode cX8_both 44 = .ok (.bipush 20, 2) := by decide +kernel
theorem dX8_both_46 : decode cX8_both 46 = .ok (.irem, 1) := by decide +kernel
theorem dX8_both_47 : decode cX8_both 47 = .ok (.istore 6, 2) := by decide +kernel
theorem dX8_both_49 : decode cX8_both 49 = .ok (.iload_n 3, 1) := by decide +kernel
theorem dX8_both_50 : decode cX8_both 50 = .ok (.iload 5, 2) := by decide +kernel
theorem dX8_both_52 : decode cX8_both 52 = .ok (.if_icmp .eq 23, 3) := by decide +kernel
theorem dX8_both_55 : decode cX8_both 55 = .ok (.iload_n 3, 1) := by decide +kernel
theorem dX8_both_56 : decode cX8_both 56 = .ok (.iload 6, 2) := by decide +kernel
theorem dX8_both_58 : decode cX8_both 58 = .ok (.if_icmp .eq 17, 3) := by decide +kernel
theorem dX8_both_61 : decode cX8_both 61 = .ok (.iload 4, 2) := by decide +kernel
theorem dX8_both_63 : decode cX8_both 63 = .ok (.iload 5, 2) := by decide +kernel
theorem dX8_both_65 : decode cX8_both 65 = .ok (.if_icmp .eq 10, 3) := by decide +kernel
theorem dX8_both_68 : decode cX8_both 68 = .ok (.iload 4, 2) := by decide +kernel
theorem dX8_both_70 : decode cX8_both 70 = .ok (.iload 6, 2) := by decide +kernel
theorem dX8_both_72 : decode cX8_both 72 = .ok (.if_icmp .ne 6, 3) := by decide +kernel
theorem dX8_both_75 : decode cX8_both 75 = .ok (.bipush (-3), 2) := by decide +kernel
theorem dX8_both_77 : decode cX8_both 77 = .ok (.ireturn, 1) := by decide +kernel
theorem dX8_both_78 : decode cX8_both 78 = .ok (.aload_n 0, 1) := by decide +kernel
theorem dX8_both_79 : decode cX8_both 79 = .ok (.iconst (-1), 1) := by decide +kernel
theorem dX8_both_80 : decode cX8_both 80 = .ok (.putfield 285, 3) := by decide +kernel
theorem dX8_both_83 : decode cX8_both 83 = .ok (.aload_n 0, 1) := by decide +kernel
theorem dX8_both_84 : decode cX8_both 84 = .ok (.iload_n 3, 1) := by decide +kernel
theorem dX8_both_85 : decode cX8_both 85 = .ok (.iload 4, 2) := by decide +kernel
theorem dX8_both_87 : decode cX8_both 87 = .ok (.iconst 1, 1) := by decide +kernel
theorem dX8_both_88 : decode cX8_both 88 = .ok (.iload_n 3, 1) := by decide +kernel
theorem dX8_both_89 : decode cX8_both 89 = .ok (.ishl, 1) := by decide +kernel
theorem dX8_both_90 : decode cX8_both 90 = .ok (.iconst 0, 1) := by decide +kernel
theorem dX8_both_91 : decode cX8_both 91 = .ok (.iload 5, 2) := by decide +kernel
theorem dX8_both_93 : decode cX8_both 93 = .ok (.iload 6, 2) := by decide +kernel
theorem dX8_both_95 : decode cX8_both 95 = .ok (.invokevirtual 288, 3) := by decide +kernel
theorem dX8_both_98 : decode cX8_both 98 = .ok (.aload_n 0, 1) := by decide +kernel
theorem dX8_both_99 : decode cX8_both 99 = .ok (.getfield 285, 3) := by decide +kernel
theorem dX8_both_102 : decode cX8_both 102 = .ok (.ireturn, 1) := by decide +kernel
theorem dX8_renewed_0 : decode cX8_renewed 0 = .ok (.aload_n 0, 1) := by decide +kernel
theorem dX8_renewed_1 : decode cX8_renewed 1 = .ok (.iconst 0, 1) := by decide +kernel
theorem dX8_renewed_2 : decode cX8_renewed 2 = .ok (.putfield 1, 3) := by decide +kernel
theorem dX8_renewed_5 : decode cX8_renewed 5 = .ok (.aload_n 0, 1) := by decide +kernel
theorem dX8_renewed_6 : decode cX8_renewed 6 = .ok (.iload_n 1, 1) := by decide +kernel
theorem dX8_renewed_7 : decode cX8_renewed 7 = .ok (.i2l, 1) := by decide +kernel
theorem dX8_renewed_8 : decode cX8_renewed 8 = .ok (.invokevirtual 222, 3) := by decide +kernel
theorem dX8_renewed_11 : decode cX8_renewed 11 = .ok (.ifCond .eq 13, 3) := by decide +kernel
theorem dX8_renewed_14 : decode cX8_renewed 14 = .ok (.iload_n 2, 1) := by decide +kernel
theorem dX8_renewed_15 : decode cX8_renewed 15 = .ok (.i2l, 1) := by decide +kernel
theorem dX8_renewed_16 : decode cX8_renewed 16 = .ok (.lconst 0, 1) := by decide +kernel
theorem dX8_renewed_17 : decode cX8_renewed 17 = .ok (.lconst 1, 1) := by decide +kernel
theorem dX8_renewed_18 : decode cX8_renewed 18 = .ok (.invokestatic 137, 3) := by decide +kernel
theorem dX8_renewed_21 : decode cX8_renewed 21 = .ok (.ifCond .ne 6, 3) := by decide +kernel
theorem dX8_renewed_24 : decode cX8_renewed 24 = .ok (.bipush (-2), 2) := by decide +kernel
theorem dX8_renewed_26 : decode cX8_renewed 26 = .ok (.ireturn, 1) := by decide +kernel
theorem dX8_renewed_27 : decode cX8_renewed 27 = .ok (.iload_n 1, 1) := by decide +kernel
theorem dX8_renewed_28 : decode cX8_renewed 28 = .ok (.bipush 20, 2) := by decide +kernel
theorem dX8_renewed_30 : decode cX8_renewed 30 = .ok (.idiv, 1) := by decide +kernel
theorem dX8_renewed_31 : decode cX8_renewed 31 = .ok (.istore_n 3, 1) := by decide +kernel
theorem dX8_renewed_32 : decode cX8_renewed 32 = .ok (.iload_n 1, 1) := by decide +kernel
theorem dX8_renewed_33 : decode cX8_renewed 33 = .ok (.bipush 20, 2) := by decide +kernel
theorem dX8_renewed_35 : decode cX8_renewed 35 = .ok (.irem, 1) := by decide +kernel
theorem dX8_renewed_36 : decode cX8_renewed 36 = .ok (.istore 4, 2) := by decide +kernel
theorem dX8_renewed_38 : decode cX8_renewed 38 = .ok (.aload_n 0, 1) := by decide +kernel
theorem dX8_renewed_39 : decode cX8_renewed 39 = .ok (.iload 4, 2) := by decide +kernel
theorem dX8_renewed_41 : decode cX8_renewed 41 = .ok (.iconst 0, 1) := by decide +kernel
theorem dX8_renewed_42 : decode cX8_renewed 42 = .ok (.aload_n 0, 1) := by decide +kernel
theorem dX8_renewed_43 : decode cX8_renewed 43 = .ok (.getfield 13, 3) := by decide +kernel
theorem dX8_renewed_46 : decode cX8_renewed 46 = .ok (.iconst 1, 1) := by decide +kernel
theorem dX8_renewed_47 : decode cX8_renewed 47 = .ok (.iaload, 1) := by decide +kernel
theorem dX8_renewed_48 : decode cX8_renewed 48 = .ok (.invokevirtual 262, 3) := by decide +kernel
theorem dX8_renewed_51 : decode cX8_renewed 51 = .ok (.aload_n 0, 1) := by decide +kernel
theorem dX8_renewed_52 : decode cX8_renewed 52 = .ok (.getfield 30, 3) := by decide +kernel
theorem dX8_renewed_55 : decode cX8_renewed 55 = .ok (.iload_n 3, 1) := by decide +kernel
theorem dX8_renewed_56 : decode cX8_renewed 56 = .ok (.iaload, 1) := by decide +kernel
theorem dX8_renewed_57 : decode cX8_renewed 57 = .ok (.istore 5, 2) := by decide +kernel
theorem dX8_renewed_59 : decode cX8_renewed 59 = .ok (.iload 5, 2) := by decide +kernel
theorem dX8_renewed_61 : decode cX8_renewed 61 = .ok (.ldc 251, 2) := by decide +kernel
theorem dX8_renewed_63 : decode cX8_renewed 63 = .ok (.if_icmp .ne 6, 3) := by decide +kernel
theorem dX8_renewed_66 : decode cX8_renewed 66 = .ok (.bipush (-5), 2) := by decide +kernel
theorem dX8_renewed_68 : decode cX8_renewed 68 = .ok (.ireturn, 1) := by decide +kernel
theorem dX8_renewed_69 : decode cX8_renewed 69 = .ok (.iconst 0, 1) := by decide +kernel
theorem dX8_renewed_70 : decode cX8_renewed 70 = .ok (.istore 6, 2) := by decide +kernel
theorem dX8_renewed_72 : decode cX8_renewed 72 = .ok (.iconst (-1), 1) := by decide +kernel
theorem dX8_renewed_73 : decode cX8_renewed 73 = .ok (.istore 7, 2) := by decide +kernel
theorem dX8_renewed_75 : decode cX8_renewed 75 = .ok (.iconst 0, 1) := by decide +kernel
theorem dX8_renewed_76 : decode cX8_renewed 76 = .ok (.istore 8, 2) := by decide +kernel
theorem dX8_renewed_78 : decode cX8_renewed 78 = .ok (.iload 8, 2) := by decide +kernel
theorem dX8_renewed_80 : decode cX8_renewed 80 = .ok (.aload_n 0, 1) := by decide +kernel
theorem dX8_renewed_81 : decode cX8_renewed 81 = .ok (.getfield 13, 3) := by decide +kernel
theorem dX8_renewed_84 : decode cX8_renewed 84 = .ok (.iconst 0, 1) := by decide +kernel
theorem dX8_renewed_85 : decode cX8_renewed 85 = .ok (.iaload, 1) := by decide +kernel
theorem dX8_renewed_86 : decode cX8_renewed 86 = .ok (.if_icmp .ge 146, 3) := by decide +kernel
theorem dX8_renewed_89 : decode cX8_renewed 89 = .ok (.iload 8, 2) := by decide +kernel
theorem dX8_renewed_91 : decode cX8_renewed 91 = .ok (.iconst 1, 1) := by decide +kernel
theorem dX8_renewed_92 : decode cX8_renewed 92 = .ok (.iadd, 1) := by decide +kernel
theorem dX8_renewed_93 : decode cX8_renewed 93 = .ok (.istore 9, 2) := by decide +kernel
theorem dX8_renewed_95 : decode cX8_renewed 95 = .ok (.iload 9, 2) := by decide +kernel
theorem dX8_renewed_97 : decode cX8_renewed 97 = .ok (.aload_n 0, 1) := by decide +kernel
theorem dX8_renewed_98 : decode cX8_renewed 98 = .ok (.getfield 13, 3) := by decide +kernel
theorem dX8_renewed_101 : decode cX8_renewed 101 = .ok (.iconst 0, 1) := by decide +kernel
theorem dX8_renewed_102 : decode cX8_renewed 102 = .ok (.iaload, 1) := by decide +kernel
theorem dX8_renewed_103 : decode cX8_renewed 103 = .ok (.if_icmp .ge 123, 3) := by decide +kernel
theorem dX8_renewed_106 : decode cX8_renewed 106 = .ok (.aload_n 0, 1) := by decide +kernel
theorem dX8_renewed_107 : decode cX8_renewed 107 = .ok (.iload 8, 2) := by decide +kernel
theorem dX8_renewed_109 : decode cX8_renewed 109 = .ok (.iload 9, 2) := by decide +kernel
theorem dX8_renewed_111 : decode cX8_renewed 111 = .ok (.aload_n 0, 1) := by decide +kernel
theorem dX8_renewed_112 : decode cX8_renewed 112 = .ok (.getfield 13, 3) := by decide +kernel
theorem dX8_renewed_115 : decode cX8_renewed 115 = .ok (.iconst 1, 1) := by decide +kernel
theorem dX8_renewed_116 : decode cX8_renewed 116 = .ok (.iaload, 1) := by decide +kernel
theorem dX8_renewed_117 : decode cX8_renewed 117 = .ok (.invokevirtual 211, 3) := by decide +kernel
theorem dX8_renewed_120 : decode cX8_renewed 120 = .ok (.ifCond .ne 6, 3) := by decide +kernel
theorem dX8_renewed_123 : decode cX8_renewed 123 = .ok (.goto 97, 3) := by decide +kernel
theorem dX8_renewed_126 : decode cX8_renewed 126 = .ok (.aload_n 0, 1) := by decide +kernel
theorem dX8_renewed_127 : decode cX8_renewed 127 = .ok (.getfield 13, 3) := by decide +kernel
theorem dX8_renewed_130 : decode cX8_renewed 130 = .ok (.bipush 42, 2) := by decide +kernel
theorem dX8_renewed_132 : decode cX8_renewed 132 = .ok (.bipush 12, 2) := by decide +kernel
theorem dX8_renewed_134 : decode cX8_renewed 134 = .ok (.iload 8, 2) := by decide +kernel
theorem dX8_renewed_136 : decode cX8_renewed 136 = .ok (.imul, 1) := by decide +kernel
theorem dX8_renewed_137 : decode cX8_renewed 137 = .ok (.iadd, 1) := by decide +kernel
theorem dX8_renewed_138 : decode cX8_renewed 138 = .ok (.iload 9, 2) := by decide +kernel
theorem dX8_renewed_140 : decode cX8_renewed 140 = .ok (.iadd, 1) := by decide +kernel
theorem dX8_renewed_141 : decode cX8_renewed 141 = .ok (.iaload, 1) := by decide +kernel
theorem dX8_renewed_142 : decode cX8_renewed 142 = .ok (.istore 10, 2) := by decide +kernel
theorem dX8_renewed_144 : decode cX8_renewed 144 = .ok (.aload_n 0, 1) := by decide +kernel
theorem dX8_renewed_145 : decode cX8_renewed 145 = .ok (.getfield 13, 3) := by decide +kernel
theorem dX8_renewed_148 : decode cX8_renewed 148 = .ok (.iload 8, 2) := by decide +kernel
theorem dX8_renewed_150 : decode cX8_renewed 150 = .ok (.iload 9, 2) := by decide +kernel
theorem dX8_renewed_152 : decode cX8_renewed 152 = .ok (.iconst 1, 1) := by decide +kernel
theorem dX8_renewed_153 : decode cX8_renewed 153 = .ok (.invokestatic 158, 3) := by decide +kernel
theorem dX8_renewed_156 : decode cX8_renewed 156 = .ok (.aload_n 0, 1) := by decide +kernel
theorem dX8_renewed_157 : decode cX8_renewed 157 = .ok (.iload 4, 2) := by decide +kernel
theorem dX8_renewed_159 : decode cX8_renewed 159 = .ok (.iconst 0, 1) := by decide +kernel
theorem dX8_renewed_160 : decode cX8_renewed 160 = .ok (.aload_n 0, 1) := by decide +kernel
theorem dX8_renewed_161 : decode cX8_renewed 161 = .ok (.getfield 13, 3) := by decide +kernel
theorem dX8_renewed_164 : decode cX8_renewed 164 = .ok (.iconst 1, 1) := by decide +kernel
theorem dX8_renewed_165 : decode cX8_renewed 165 = .ok (.iaload, 1) := by decide +kernel
theorem dX8_renewed_166 : decode cX8_renewed 166 = .ok (.invokevirtual 262, 3) := by decide +kernel
theorem dX8_renewed_169 : decode cX8_renewed 169 = .ok (.aload_n 0, 1) := by decide +kernel
theorem dX8_renewed_170 : decode cX8_renewed 170 = .ok (.getfield 13, 3) := by decide +kernel
theorem dX8_renewed_173 : decode cX8_renewed 173 = .ok (.iload 8, 2) := by decide +kernel
theorem dX8_renewed_175 : decode cX8_renewed 175 = .ok (.iload 9, 2) := by decide +kernel
theorem dX8_renewed_177 : decode cX8_renewed 177 = .ok (.iload 10, 2) := by decide +kernel
theorem dX8_renewed_179 : decode cX8_renewed 179 = .ok (.invokestatic 158, 3) := by decide +kernel
theorem dX8_renewed_182 : decode cX8_renewed 182 = .ok (.iload 5, 2) := by decide +kernel
theorem dX8_renewed_184 : decode cX8_renewed 184 = .ok (.aload_n 0, 1) := by decide +kernel
theorem dX8_renewed_185 : decode cX8_renewed 185 = .ok (.getfield 30, 3) := by decide +kernel
theorem dX8_renewed_188 : decode cX8_renewed 188 = .ok (.iload_n 3, 1) := by decide +kernel
theorem dX8_renewed_189 : decode cX8_renewed 189 = .ok (.iaload, 1) := by decide +kernel
theorem dX8_renewed_190 : decode cX8_renewed 190 = .ok (.isub, 1) := by decide +kernel
theorem dX8_renewed_191 : decode cX8_renewed 191 = .ok (.iload 6, 2) := by decide +kernel
theorem dX8_renewed_193 : decode cX8_renewed 193 = .ok (.if_icmp .gt 6, 3) := by decide +kernel
theorem dX8_renewed_196 : decode cX8_renewed 196 = .ok (.goto 24, 3) := by decide +kernel
theorem dX8_renewed_199 : decode cX8_renewed 199 = .ok (.iload 5, 2) := by decide +kernel
theorem dX8_renewed_201 : decode cX8_renewed 201 = .ok (.aload_n 0, 1) := by decide +kernel
theorem dX8_renewed_202 : decode cX8_renewed 202 = .ok (.getfield 30, 3) := by decide +kernel
theorem dX8_renewed_205 : decode cX8_renewed 205 = .ok (.iload_n 3, 1) := by decide +kernel
theorem dX8_renewed_206 : decode cX8_renewed 206 = .ok (.iaload, 1) := by decide +kernel
theorem dX8_renewed_207 : decode cX8_renewed 207 = .ok (.isub, 1) := by decide +kernel
theorem dX8_renewed_208 : decode cX8_renewed 208 = .ok (.istore 6, 2) := by decide +kernel
theorem dX8_renewed_210 : decode cX8_renewed 210 = .ok (.bipush 20, 2) := by decide +kernel
theorem dX8_renewed_212 : decode cX8_renewed 212 = .ok (.iload 8, 2) := by decide +kernel
theorem dX8_renewed_214 : decode cX8_renewed 214 = .ok (.imul, 1) := by decide +kernel
theorem dX8_renewed_215 : decode cX8_renewed 215 = .ok (.iload 9, 2) := by decide +kernel
theorem dX8_renewed_217 : decode cX8_renewed 217 = .ok (.iadd, 1) := by decide +kernel
theorem dX8_renewed_218 : decode cX8_renewed 218 = .ok (.istore 7, 2) := by decide +kernel
theorem dX8_renewed_220 : decode cX8_renewed 220 = .ok (.iinc 9 1, 3) := by decide +kernel
theorem dX8_renewed_223 : decode cX8_renewed 223 = .ok (.goto (-128), 3) := by decide +kernel
theorem dX8_renewed_226 : decode cX8_renewed 226 = .ok (.iinc 8 1, 3) := by decide +kernel
theorem dX8_renewed_229 : decode cX8_renewed 229 = .ok (.goto (-151), 3) := by decide +kernel
theorem dX8_renewed_232 : decode cX8_renewed 232 = .ok (.iload_n 2, 1) := by decide +kernel
theorem dX8_renewed_233 : decode cX8_renewed 233 = .ok (.ifCond .ne 8, 3) := by decide +kernel
theorem dX8_renewed_236 : decode cX8_renewed 236 = .ok (.iload 6, 2) := by decide +kernel
theorem dX8_renewed_238 : decode cX8_renewed 238 = .ok (.goto 5, 3) := by decide +kernel
theorem dX8_renewed_241 : decode cX8_renewed 241 = .ok (.iload 7, 2) := by decide +kernel
theorem dX8_renewed_243 : decode cX8_renewed 243 = .ok (.ireturn, 1) := by decide +kernel
theorem dX8_exchange_0 : decode cX8_exchange 0 = .ok (.aload_n 0, 1) := by decide +kernel
theorem dX8_exchange_1 : decode cX8_exchange 1 = .ok (.iconst 0, 1) := by decide +kernel
theorem dX8_exchange_2 : decode cX8_exchange 2 = .ok (.putfield 1, 3) := by decide +kernel
theorem dX8_exchange_5 : decode cX8_exchange 5 = .ok (.iload_n 1, 1) := by decide +kernel
theorem dX8_exchange_6 : decode cX8_exchange 6 = .ok (.i2l, 1) := by decide +kernel
theorem dX8_exchange_7 : decode cX8_exchange 7 = .ok (.lconst 0, 1) := by decide +kernel
theorem dX8_exchange_8 : decode cX8_exchange 8 = .ok (.ldc2_w 292, 3) := by decide +kernel
theorem dX8_exchange_11 : decode cX8_exchange 11 = .ok (.invokestatic 137, 3) := by decide +kernel
theorem dX8_exchange_14 : decode cX8_exchange 14 = .ok (.ifCond .ne 6, 3) := by decide +kernel
theorem dX8_exchange_17 : decode cX8_exchange 17 = .ok (.bipush (-2), 2) := by decide +kernel
theorem dX8_exchange_19 : decode cX8_exchange 19 = .ok (.ireturn, 1) := by decide +kernel
theorem dX8_exchange_20 : decode cX8_exchange 20 = .ok (.iconst (-1), 1) := by decide +kernel
theorem dX8_exchange_21 : decode cX8_exchange 21 = .ok (.istore_n 2, 1) := by decide +kernel
theorem dX8_exchange_22 : decode cX8_exchange 22 = .ok (.iconst 0, 1) := by decide +kernel
theorem dX8_exchange_23 : decode cX8_exchange 23 = .ok (.istore_n 3, 1) := by decide +kernel
theorem dX8_exchange_24 : decode cX8_exchange 24 = .ok (.iconst 0, 1) := by decide +kernel
theorem dX8_exchange_25 : decode cX8_exchange 25 = .ok (.istore 4, 2) := by decide +kernel
theorem dX8_exchange_27 : decode cX8_exchange 27 = .ok (.iconst 0, 1) := by decide +kernel
theorem dX8_exchange_28 : decode cX8_exchange 28 = .ok (.istore 5, 2) := by decide +kernel
theorem dX8_exchange_30 : decode cX8_exchange 30 = .ok (.iload 5, 2) := by decide +kernel
theorem dX8_exchange_32 : decode cX8_exchange 32 = .ok (.aload_n 0, 1) := by decide +kernel
theorem dX8_exchange_33 : decode cX8_exchange 33 = .ok (.getfield 13, 3) := by decide +kernel
theorem dX8_exchange_36 : decode cX8_exchange 36 = .ok (.iconst 0, 1) := by decide +kernel
theorem dX8_exchange_37 : decode cX8_exchange 37 = .ok (.iaload, 1) := by decide +kernel
theorem dX8_exchange_38 : decode cX8_exchange 38 = .ok (.if_icmp .ge 126, 3) := by decide +kernel
theorem dX8_exchange_41 : decode cX8_exchange 41 = .ok (.aload_n 0, 1) := by decide +kernel
theorem dX8_exchange_42 : decode cX8_exchange 42 = .ok (.iload 5, 2) := by decide +kernel
theorem dX8_exchange_44 : decode cX8_exchange 44 = .ok (.iconst 0, 1) := by decide +kernel
theorem dX8_exchange_45 : decode cX8_exchange 45 = .ok (.aload_n 0, 1) := by decide +kernel
theorem dX8_exchange_46 : decode cX8_exchange 46 = .ok (.getfield 13, 3) := by decide +kernel
theorem dX8_exchange_49 : decode cX8_exchange 49 = .ok (.iconst 1, 1) := by decide +kernel
theorem dX8_exchange_50 : decode cX8_exchange 50 = .ok (.iaload, 1) := by decide +kernel
theorem dX8_exchange_51 : decode cX8_exchange 51 = .ok (.invokevirtual 262, 3) := by decide +kernel
theorem dX8_exchange_54 : decode cX8_exchange 54 = .ok (.iconst 0, 1) := by decide +kernel
theorem dX8_exchange_55 : decode cX8_exchange 55 = .ok (.istore 6, 2) := by decide +kernel
theorem dX8_exchange_57 : decode cX8_exchange 57 = .ok (.iconst 0, 1) := by decide +kernel
theorem dX8_exchange_58 : decode cX8_exchange 58 = .ok (.istore 7, 2) := by decide +kernel
theorem dX8_exchange_60 : decode cX8_exchange 60 = .ok (.iconst 0, 1) := by decide +kernel
theorem dX8_exchange_61 : decode cX8_exchange 61 = .ok (.istore 8, 2) := by decide +kernel
theorem dX8_exchange_63 : decode cX8_exchange 63 = .ok (.iload 8, 2) := by decide +kernel
theorem dX8_exchange_65 : decode cX8_exchange 65 = .ok (.aload_n 0, 1) := by decide +kernel
theorem dX8_exchange_66 : decode cX8_exchange 66 = .ok (.getfield 13, 3) := by decide +kernel
theorem dX8_exchange_69 : decode cX8_exchange 69 = .ok (.iconst 0, 1) := by decide +kernel
theorem dX8_exchange_70 : decode cX8_exchange 70 = .ok (.iaload, 1) := by decide +kernel
theorem dX8_exchange_71 : decode cX8_exchange 71 = .ok (.if_icmp .ge 50, 3) := by decide +kernel
theorem dX8_exchange_74 : decode cX8_exchange 74 = .ok (.iload 8, 2) := by decide +kernel
theorem dX8_exchange_76 : decode cX8_exchange 76 = .ok (.iload 5, 2) := by decide +kernel
theorem dX8_exchange_78 : decode cX8_exchange 78 = .ok (.if_icmp .eq 37, 3) := by decide +kernel
theorem dX8_exchange_81 : decode cX8_exchange 81 = .ok (.aload_n 0, 1) := by decide +kernel
theorem dX8_exchange_82 : decode cX8_exchange 82 = .ok (.getfield 30, 3) := by decide +kernel
theorem dX8_exchange_85 : decode cX8_exchange 85 = .ok (.iload 8, 2) := by decide +kernel
theorem dX8_exchange_87 : decode cX8_exchange 87 = .ok (.iaload, 1) := by decide +kernel
theorem dX8_exchange_88 : decode cX8_exchange 88 = .ok (.aload_n 0, 1) := by decide +kernel
theorem dX8_exchange_89 : decode cX8_exchange 89 = .ok (.getfield 13, 3) := by decide +kernel
theorem dX8_exchange_92 : decode cX8_exchange 92 = .ok (.iconst 3, 1) := by decide +kernel
theorem dX8_exchange_93 : decode cX8_exchange 93 = .ok (.iaload, 1) := by decide +kernel
theorem dX8_exchange_94 : decode cX8_exchange 94 = .ok (.if_icmp .le 6, 3) := by decide +kernel
theorem dX8_exchange_97 : decode cX8_exchange 97 = .ok (.goto 18, 3) := by decide +kernel
theorem dX8_exchange_100 : decode cX8_exchange 100 = .ok (.iinc 6 1, 3) := by decide +kernel
theorem dX8_exchange_103 : decode cX8_exchange 103 = .ok (.iload 7, 2) := by decide +kernel
theorem dX8_exchange_105 : decode cX8_exchange 105 = .ok (.aload_n 0, 1) := by decide +kernel
theorem dX8_exchange_106 : decode cX8_exchange 106 = .ok (.getfield 30, 3) := by decide +kernel
theorem dX8_exchange_109 : decode cX8_exchange 109 = .ok (.iload 8, 2) := by decide +kernel
theorem dX8_exchange_111 : decode cX8_exchange 111 = .ok (.iaload, 1) := by decide +kernel
theorem dX8_exchange_112 : decode cX8_exchange 112 = .ok (.iadd, 1) := by decide +kernel
theorem dX8_exchange_113 : decode cX8_exchange 113 = .ok (.istore 7, 2) := by decide +kernel
theorem dX8_exchange_115 : decode cX8_exchange 115 = .ok (.iinc 8 1, 3) := by decide +kernel
theorem dX8_exchange_118 : decode cX8_exchange 118 = .ok (.goto (-55), 3) := by decide +kernel
theorem dX8_exchange_121 : decode cX8_exchange 121 = .ok (.iload_n 2, 1) := by decide +kernel
theorem dX8_exchange_122 : decode cX8_exchange 122 = .ok (.iconst (-1), 1) := by decide +kernel
theorem dX8_exchange_123 : decode cX8_exchange 123 = .ok (.if_icmp .eq 25, 3) := by decide +kernel
theorem dX8_exchange_126 : decode cX8_exchange 126 = .ok (.iload 6, 2) := by decide +kernel
theorem dX8_exchange_128 : decode cX8_exchange 128 = .ok (.iload_n 3, 1) := by decide +kernel
theorem dX8_exchange_129 : decode cX8_exchange 129 = .ok (.if_icmp .lt 29, 3) := by decide +kernel
theorem dX8_exchange_132 : decode cX8_exchange 132 = .ok (.iload 6, 2) := by decide +kernel
theorem dX8_exchange_134 : decode cX8_exchange 134 = .ok (.iload_n 3, 1) := by decide +kernel
theorem dX8_exchange_135 : decode cX8_exchange 135 = .ok (.if_icmp .ne 13, 3) := by decide +kernel
theorem dX8_exchange_138 : decode cX8_exchange 138 = .ok (.iload 7, 2) := by decide +kernel
theorem dX8_exchange_140 : decode cX8_exchange 140 = .ok (.iload 4, 2) := by decide +kernel
theorem dX8_exchange_142 : decode cX8_exchange 142 = .ok (.if_icmp .lt 6, 3) := by decide +kernel
theorem dX8_exchange_145 : decode cX8_exchange 145 = .ok (.goto 13, 3) := by decide +kernel
theorem dX8_exchange_148 : decode cX8_exchange 148 = .ok (.iload 5, 2) := by decide +kernel
theorem dX8_exchange_150 : decode cX8_exchange 150 = .ok (.istore_n 2, 1) := by decide +kernel
theorem dX8_exchange_151 : decode cX8_exchange 151 = .ok (.iload 6, 2) := by decide +kernel
theorem dX8_exchange_153 : decode cX8_exchange 153 = .ok (.istore_n 3, 1) := by decide +kernel
theorem dX8_exchange_154 : decode cX8_exchange 154 = .ok (.iload 7, 2) := by decide +kernel
theorem dX8_exchange_156 : decode cX8_exchange 156 = .ok (.istore 4, 2) := by decide +kernel
theorem dX8_exchange_158 : decode cX8_exchange 158 = .ok (.iinc 5 1, 3) := by decide +kernel
theorem dX8_exchange_161 : decode cX8_exchange 161 = .ok (.goto (-131), 3) := by decide +kernel
theorem dX8_exchange_164 : decode cX8_exchange 164 = .ok (.iload_n 2, 1) := by decide +kernel
theorem dX8_exchange_165 : decode cX8_exchange 165 = .ok (.iconst (-1), 1) := by decide +kernel
theorem dX8_exchange_166 : decode cX8_exchange 166 = .ok (.if_icmp .eq 7, 3) := by decide +kernel
theorem dX8_exchange_169 : decode cX8_exchange 169 = .ok (.iload_n 1, 1) := by decide +kernel
theorem dX8_exchange_170 : decode cX8_exchange 170 = .ok (.ifCond .ne 7, 3) := by decide +kernel
theorem dX8_exchange_173 : decode cX8_exchange 173 = .ok (.iload_n 2, 1) := by decide +kernel
theorem dX8_exchange_174 : decode cX8_exchange 174 = .ok (.goto 14, 3) := by decide +kernel
theorem dX8_exchange_177 : decode cX8_exchange 177 = .ok (.iload_n 1, 1) := by decide +kernel
theorem dX8_exchange_178 : decode cX8_exchange 178 = .ok (.iconst 1, 1) := by decide +kernel
theorem dX8_exchange_179 : decode cX8_exchange 179 = .ok (.if_icmp .ne 7, 3) := by decide +kernel
theorem dX8_exchange_182 : decode cX8_exchange 182 = .ok (.iload_n 3, 1) := by decide +kernel
theorem dX8_exchange_183 : decode cX8_exchange 183 = .ok (.goto 5, 3) := by decide +kernel
theorem dX8_exchange_186 : decode cX8_exchange 186 = .ok (.iload 4, 2) := by decide +kernel
theorem dX8_exchange_188 : decode cX8_exchange 188 = .ok (.ireturn, 1) := by decide +kernel
theorem dX8_joins_0 : decode cX8_joins 0 = .ok (.iload_n 1, 1) := by decide +kernel
theorem dX8_joins_1 : decode cX8_joins 1 = .ok (.iload_n 2, 1) := by decide +kernel
theorem dX8_joins_2 : decode cX8_joins 2 = .ok (.if_icmp .ne 23, 3) := by decide +kernel
theorem dX8_joins_5 : decode cX8_joins 5 = .ok (.aload_n 0, 1) := by decide +kernel
theorem dX8_joins_6 : decode cX8_joins 6 = .ok (.iload_n 3, 1) := by decide +kernel
theorem dX8_joins_7 : decode cX8_joins 7 = .ok (.invokevirtual 273, 3) := by decide +kernel
theorem dX8_joins_10 : decode cX8_joins 10 = .ok (.iload 4, 2) := by decide +kernel
theorem dX8_joins_12 : decode cX8_joins 12 = .ok (.ishr, 1) := by decide +kernel
theorem dX8_joins_13 : decode cX8_joins 13 = .ok (.iconst 1, 1) := by decide +kernel
theorem dX8_joins_14 : decode cX8_joins 14 = .ok (.iand, 1) := by decide +kernel
theorem dX8_joins_15 : decode cX8_joins 15 = .ok (.iconst 1, 1) := by decide +kernel
theorem dX8_joins_16 : decode cX8_joins 16 = .ok (.if_icmp .ne 7, 3) := by decide +kernel
theorem dX8_joins_19 : decode cX8_joins 19 = .ok (.iconst 1, 1) := by decide +kernel
theorem dX8_joins_20 : decode cX8_joins 20 = .ok (.goto 4, 3) := by decide +kernel
theorem dX8_joins_23 : decode cX8_joins 23 = .ok (.iconst 0, 1) := by decide +kernel
theorem dX8_joins_24 : decode cX8_joins 24 = .ok (.ireturn, 1) := by decide +kernel
theorem dX8_joins_25 : decode cX8_joins 25 = .ok (.iconst 0, 1) := by decide +kernel
theorem dX8_joins_26 : decode cX8_joins 26 = .ok (.istore 5, 2) := by decide +kernel
theorem dX8_joins_28 : decode cX8_joins 28 = .ok (.iload 5, 2) := by decide +kernel
theorem dX8_joins_30 : decode cX8_joins 30 = .ok (.aload_n 0, 1) := by decide +kernel
theorem dX8_joins_31 : decode cX8_joins 31 = .ok (.getfield 13, 3) := by decide +kernel
theorem dX8_joins_34 : decode cX8_joins 34 = .ok (.iconst 0, 1) := by decide +kernel
theorem dX8_joins_35 : decode cX8_joins 35 = .ok (.iaload, 1) := by decide +kernel
theorem dX8_joins_36 : decode cX8_joins 36 = .ok (.if_icmp .ge 121, 3) := by decide +kernel
theorem dX8_joins_39 : decode cX8_joins 39 = .ok (.iload 5, 2) := by decide +kernel
theorem dX8_joins_41 : decode cX8_joins 41 = .ok (.iconst 1, 1) := by decide +kernel
theorem dX8_joins_42 : decode cX8_joins 42 = .ok (.iadd, 1) := by decide +kernel
theorem dX8_joins_43 : decode cX8_joins 43 = .ok (.istore 6, 2) := by decide +kernel
theorem dX8_joins_45 : decode cX8_joins 45 = .ok (.iload 6, 2) := by decide +kernel
theorem dX8_joins_47 : decode cX8_joins 47 = .ok (.aload_n 0, 1) := by decide +kernel
theorem dX8_joins_48 : decode cX8_joins 48 = .ok (.getfield 13, 3) := by decide +kernel
theorem dX8_joins_51 : decode cX8_joins 51 = .ok (.iconst 0, 1) := by decide +kernel
theorem dX8_joins_52 : decode cX8_joins 52 = .ok (.iaload, 1) := by decide +kernel
theorem dX8_joins_53 : decode cX8_joins 53 = .ok (.if_icmp .ge 98, 3) := by decide +kernel
theorem dX8_joins_56 : decode cX8_joins 56 = .ok (.aload_n 0, 1) := by decide +kernel
theorem dX8_joins_57 : decode cX8_joins 57 = .ok (.getfield 13, 3) := by decide +kernel
theorem dX8_joins_60 : decode cX8_joins 60 = .ok (.iload 5, 2) := by decide +kernel
theorem dX8_joins_62 : decode cX8_joins 62 = .ok (.iload 6, 2) := by decide +kernel
theorem dX8_joins_64 : decode cX8_joins 64 = .ok (.invokestatic 154, 3) := by decide +kernel
theorem dX8_joins_67 : decode cX8_joins 67 = .ok (.ifCond .ne 78, 3) := by decide +kernel
theorem dX8_joins_70 : decode cX8_joins 70 = .ok (.aload_n 0, 1) := by decide +kernel
theorem dX8_joins_71 : decode cX8_joins 71 = .ok (.iload 5, 2) := by decide +kernel
theorem dX8_joins_73 : decode cX8_joins 73 = .ok (.iload 6, 2) := by decide +kernel
theorem dX8_joins_75 : decode cX8_joins 75 = .ok (.invokevirtual 228, 3) := by decide +kernel
theorem dX8_joins_78 : decode cX8_joins 78 = .ok (.ifCond .eq 6, 3) := by decide +kernel
theorem dX8_joins_81 : decode cX8_joins 81 = .ok (.goto 64, 3) := by decide +kernel
theorem dX8_joins_84 : decode cX8_joins 84 = .ok (.aload_n 0, 1) := by decide +kernel
theorem dX8_joins_85 : decode cX8_joins 85 = .ok (.getfield 13, 3) := by decide +kernel
theorem dX8_joins_88 : decode cX8_joins 88 = .ok (.iload 5, 2) := by decide +kernel
theorem dX8_joins_90 : decode cX8_joins 90 = .ok (.iload 6, 2) := by decide +kernel
theorem dX8_joins_92 : decode cX8_joins 92 = .ok (.iconst 1, 1) := by decide +kernel
theorem dX8_joins_93 : decode cX8_joins 93 = .ok (.invokestatic 158, 3) := by decide +kernel
theorem dX8_joins_96 : decode cX8_joins 96 = .ok (.aload_n 0, 1) := by decide +kernel
theorem dX8_joins_97 : decode cX8_joins 97 = .ok (.iload_n 1, 1) := by decide +kernel
theorem dX8_joins_98 : decode cX8_joins 98 = .ok (.iconst 1, 1) := by decide +kernel
theorem dX8_joins_99 : decode cX8_joins 99 = .ok (.iadd, 1) := by decide +kernel
theorem dX8_joins_100 : decode cX8_joins 100 = .ok (.iload_n 2, 1) := by decide +kernel
theorem dX8_joins_101 : decode cX8_joins 101 = .ok (.iload_n 3, 1) := by decide +kernel
theorem dX8_joins_102 : decode cX8_joins 102 = .ok (.iload 4, 2) := by decide +kernel
theorem dX8_joins_104 : decode cX8_joins 104 = .ok (.invokevirtual 294, 3) := by decide +kernel
theorem dX8_joins_107 : decode cX8_joins 107 = .ok (.istore 7, 2) := by decide +kernel
theorem dX8_joins_109 : decode cX8_joins 109 = .ok (.aload_n 0, 1) := by decide +kernel
theorem dX8_joins_110 : decode cX8_joins 110 = .ok (.getfield 13, 3) := by decide +kernel
theorem dX8_joins_113 : decode cX8_joins 113 = .ok (.iload 5, 2) := by decide +kernel
theorem dX8_joins_115 : decode cX8_joins 115 = .ok (.iload 6, 2) := by decide +kernel
theorem dX8_joins_117 : decode cX8_joins 117 = .ok (.iconst 0, 1) := by decide +kernel
theorem dX8_joins_118 : decode cX8_joins 118 = .ok (.invokestatic 158, 3) := by decide +kernel
theorem dX8_joins_121 : decode cX8_joins 121 = .ok (.iload 7, 2) := by decide +kernel
theorem dX8_joins_123 : decode cX8_joins 123 = .ok (.ifCond .ne 6, 3) := by decide +kernel
theorem dX8_joins_126 : decode cX8_joins 126 = .ok (.goto 19, 3) := by decide +kernel
theorem dX8_joins_129 : decode cX8_joins 129 = .ok (.aload_n 0, 1) := by decide +kernel
theorem dX8_joins_130 : decode cX8_joins 130 = .ok (.getfield 39, 3) := by decide +kernel
theorem dX8_joins_133 : decode cX8_joins 133 = .ok (.iload_n 1, 1) := by decide +kernel
theorem dX8_joins_134 : decode cX8_joins 134 = .ok (.bipush 20, 2) := by decide +kernel
theorem dX8_joins_136 : decode cX8_joins 136 = .ok (.iload 5, 2) := by decide +kernel
theorem dX8_joins_138 : decode cX8_joins 138 = .ok (.imul, 1) := by decide +kernel
theorem dX8_joins_139 : decode cX8_joins 139 = .ok (.iload 6, 2) := by decide +kernel
theorem dX8_joins_141 : decode cX8_joins 141 = .ok (.iadd, 1) := by decide +kernel
theorem dX8_joins_142 : decode cX8_joins 142 = .ok (.iastore, 1) := by decide +kernel
theorem dX8_joins_143 : decode cX8_joins 143 = .ok (.iconst 1, 1) := by decide +kernel
theorem dX8_joins_144 : decode cX8_joins 144 = .ok (.ireturn, 1) := by decide +kernel
theorem dX8_joins_145 : decode cX8_joins 145 = .ok (.iinc 6 1, 3) := by decide +kernel
theorem dX8_joins_148 : decode cX8_joins 148 = .ok (.goto (-103), 3) := by decide +kernel
theorem dX8_joins_151 : decode cX8_joins 151 = .ok (.iinc 5 1, 3) := by decide +kernel
theorem dX8_joins_154 : decode cX8_joins 154 = .ok (.goto (-126), 3) := by decide +kernel
theorem dX8_joins_157 : decode cX8_joins 157 = .ok (.iconst 0, 1) := by decide +kernel
theorem dX8_joins_158 : decode cX8_joins 158 = .ok (.ireturn, 1) := by decide +kernel
theorem dX8_missing_0 : decode cX8_missing 0 = .ok (.aload_n 0, 1) := by decide +kernel
theorem dX8_missing_1 : decode cX8_missing 1 = .ok (.iconst 0, 1) := by decide +kernel
theorem dX8_missing_2 : decode cX8_missing 2 = .ok (.putfield 1, 3) := by decide +kernel
theorem dX8_missing_5 : decode cX8_missing 5 = .ok (.aload_n 0, 1) := by decide +kernel
theorem dX8_missing_6 : decode cX8_missing 6 = .ok (.iload_n 1, 1) := by decide +kernel
theorem dX8_missing_7 : decode cX8_missing 7 = .ok (.iload_n 2, 1) := by decide +kernel
theorem dX8_missing_8 : decode cX8_missing 8 = .ok (.invokevirtual 255, 3) := by decide +kernel
theorem dX8_missing_11 : decode cX8_missing 11 = .ok (.ifCond .eq 15, 3) := by decide +kernel
theorem dX8_missing_14 : decode cX8_missing 14 = .ok (.iload_n 3, 1) := by decide +kernel
theorem dX8_missing_15 : decode cX8_missing 15 = .ok (.i2l, 1) := by decide +kernel
theorem dX8_missing_16 : decode cX8_missing 16 = .ok (.lconst 0, 1) := by decide +kernel
theorem dX8_missing_17 : decode cX8_missing 17 = .ok (.ldc2_w 292, 3) := by decide +kernel
theorem dX8_missing_20 : decode cX8_missing 20 = .ok (.invokestatic 137, 3) := by decide +kernel
theorem dX8_missing_23 : decode cX8_missing 23 = .ok (.ifCond .ne 6, 3) := by decide +kernel
theorem dX8_missing_26 : decode cX8_missing 26 = .ok (.bipush (-2), 2) := by decide +kernel
theorem dX8_missing_28 : decode cX8_missing 28 = .ok (.ireturn, 1) := by decide +kernel
theorem dX8_missing_29 : decode cX8_missing 29 = .ok (.iconst 0, 1) := by decide +kernel
theorem dX8_missing_30 : decode cX8_missing 30 = .ok (.istore 4, 2) := by decide +kernel
theorem dX8_missing_32 : decode cX8_missing 32 = .ok (.iload 4, 2) := by decide +kernel
theorem dX8_missing_34 : decode cX8_missing 34 = .ok (.iconst 3, 1) := by decide +kernel
theorem dX8_missing_35 : decode cX8_missing 35 = .ok (.if_icmp .ge 49, 3) := by decide +kernel
theorem dX8_missing_38 : decode cX8_missing 38 = .ok (.aload_n 0, 1) := by decide +kernel
theorem dX8_missing_39 : decode cX8_missing 39 = .ok (.iconst 0, 1) := by decide +kernel
theorem dX8_missing_40 : decode cX8_missing 40 = .ok (.iload 4, 2) := by decide +kernel
theorem dX8_missing_42 : decode cX8_missing 42 = .ok (.iload_n 1, 1) := by decide +kernel
theorem dX8_missing_43 : decode cX8_missing 43 = .ok (.iload_n 2, 1) := by decide +kernel
theorem dX8_missing_44 : decode cX8_missing 44 = .ok (.invokevirtual 294, 3) := by decide +kernel
theorem dX8_missing_47 : decode cX8_missing 47 = .ok (.ifCond .eq 31, 3) := by decide +kernel
theorem dX8_missing_50 : decode cX8_missing 50 = .ok (.iload_n 3, 1) := by decide +kernel
theorem dX8_missing_51 : decode cX8_missing 51 = .ok (.ifCond .ne 8, 3) := by decide +kernel
theorem dX8_missing_54 : decode cX8_missing 54 = .ok (.iload 4, 2) := by decide +kernel
theorem dX8_missing_56 : decode cX8_missing 56 = .ok (.goto 21, 3) := by decide +kernel
theorem dX8_missing_59 : decode cX8_missing 59 = .ok (.iload_n 3, 1) := by decide +kernel
theorem dX8_missing_60 : decode cX8_missing 60 = .ok (.iload 4, 2) := by decide +kernel
theorem dX8_missing_62 : decode cX8_missing 62 = .ok (.if_icmp .gt 14, 3) := by decide +kernel
theorem dX8_missing_65 : decode cX8_missing 65 = .ok (.aload_n 0, 1) := by decide +kernel
theorem dX8_missing_66 : decode cX8_missing 66 = .ok (.getfield 39, 3) := by decide +kernel
theorem dX8_missing_69 : decode cX8_missing 69 = .ok (.iload_n 3, 1) := by decide +kernel
theorem dX8_missing_70 : decode cX8_missing 70 = .ok (.iconst 1, 1) := by decide +kernel
theorem dX8_missing_71 : decode cX8_missing 71 = .ok (.isub, 1) := by decide +kernel
theorem dX8_missing_72 : decode cX8_missing 72 = .ok (.iaload, 1) := by decide +kernel
theorem dX8_missing_73 : decode cX8_missing 73 = .ok (.goto 4, 3) := by decide +kernel
theorem dX8_missing_76 : decode cX8_missing 76 = .ok (.iconst (-1), 1) := by decide +kernel
theorem dX8_missing_77 : decode cX8_missing 77 = .ok (.ireturn, 1) := by decide +kernel
theorem dX8_missing_78 : decode cX8_missing 78 = .ok (.iinc 4 1, 3) := by decide +kernel
theorem dX8_missing_81 : decode cX8_missing 81 = .ok (.goto (-49), 3) := by decide +kernel
theorem dX8_missing_84 : decode cX8_missing 84 = .ok (.iconst (-1), 1) := by decide +kernel
theorem dX8_missing_85 : decode cX8_missing 85 = .ok (.ireturn, 1) := by decide +kernel
theorem dX8_arePairs_0 : decode cX8_arePairs 0 = .ok (.iconst 0, 1) := by decide +kernel
theorem dX8_arePairs_1 : decode cX8_arePairs 1 = .ok (.istore_n 2, 1) := by decide +kernel
theorem dX8_arePairs_2 : decode cX8_arePairs 2 = .ok (.iload_n 2, 1) := by decide +kernel
theorem dX8_arePairs_3 : decode cX8_arePairs 3 = .ok (.aload_n 0, 1) := by decide +kernel
theorem dX8_arePairs_4 : decode cX8_arePairs 4 = .ok (.getfield 70, 3) := by decide +kernel
theorem dX8_arePairs_7 : decode cX8_arePairs 7 = .ok (.iload_n 1, 1) := by decide +kernel
theorem dX8_arePairs_8 : decode cX8_arePairs 8 = .ok (.iaload, 1) := by decide +kernel
theorem dX8_arePairs_9 : decode cX8_arePairs 9 = .ok (.if_icmp .ge 29, 3) := by decide +kernel
theorem dX8_arePairs_12 : decode cX8_arePairs 12 = .ok (.aload_n 0, 1) := by decide +kernel
theorem dX8_arePairs_13 : decode cX8_arePairs 13 = .ok (.aload_n 0, 1) := by decide +kernel
theorem dX8_arePairs_14 : decode cX8_arePairs 14 = .ok (.getfield 73, 3) := by decide +kernel
theorem dX8_arePairs_17 : decode cX8_arePairs 17 = .ok (.bipush 40, 2) := by decide +kernel
theorem dX8_arePairs_19 : decode cX8_arePairs 19 = .ok (.iload_n 1, 1) := by decide +kernel
theorem dX8_arePairs_20 : decode cX8_arePairs 20 = .ok (.imul, 1) := by decide +kernel
theorem dX8_arePairs_21 : decode cX8_arePairs 21 = .ok (.iload_n 2, 1) := by decide +kernel
theorem dX8_arePairs_22 : decode cX8_arePairs 22 = .ok (.iadd, 1) := by decide +kernel
theorem dX8_arePairs_23 : decode cX8_arePairs 23 = .ok (.laload, 1) := by decide +kernel
theorem dX8_arePairs_24 : decode cX8_arePairs 24 = .ok (.invokevirtual 222, 3) := by decide +kernel
theorem dX8_arePairs_27 : decode cX8_arePairs 27 = .ok (.ifCond .ne 5, 3) := by decide +kernel
theorem dX8_arePairs_30 : decode cX8_arePairs 30 = .ok (.iconst 0, 1) := by decide +kernel
theorem dX8_arePairs_31 : decode cX8_arePairs 31 = .ok (.ireturn, 1) := by decide +kernel
theorem dX8_arePairs_32 : decode cX8_arePairs 32 = .ok (.iinc 2 1, 3) := by decide +kernel
theorem dX8_arePairs_35 : decode cX8_arePairs 35 = .ok (.goto (-33), 3) := by decide +kernel
theorem dX8_arePairs_38 : decode cX8_arePairs 38 = .ok (.iconst 1, 1) := by decide +kernel
theorem dX8_arePairs_39 : decode cX8_arePairs 39 = .ok (.ireturn, 1) := by decide +kernel
theorem dX8_areCrossed_0 : decode cX8_areCrossed 0 = .ok (.aload_n 0, 1) := by decide +kernel
theorem dX8_areCrossed_1 : decode cX8_areCrossed 1 = .ok (.getfield 73, 3) := by decide +kernel
theorem dX8_areCrossed_4 : decode cX8_areCrossed 4 = .ok (.bipush 40, 2) := by decide +kernel
theorem dX8_areCrossed_6 : decode cX8_areCrossed 6 = .ok (.iload_n 1, 1) := by decide +kernel
theorem dX8_areCrossed_7 : decode cX8_areCrossed 7 = .ok (.imul, 1) := by decide +kernel
theorem dX8_areCrossed_8 : decode cX8_areCrossed 8 = .ok (.iload_n 2, 1) := by decide +kernel
theorem dX8_areCrossed_9 : decode cX8_areCrossed 9 = .ok (.iadd, 1) := by decide +kernel
theorem dX8_areCrossed_10 : decode cX8_areCrossed 10 = .ok (.laload, 1) := by decide +kernel
theorem dX8_areCrossed_11 : decode cX8_areCrossed 11 = .ok (.l2i, 1) := by decide +kernel
theorem dX8_areCrossed_12 : decode cX8_areCrossed 12 = .ok (.istore 4, 2) := by decide +kernel
theorem dX8_areCrossed_14 : decode cX8_areCrossed 14 = .ok (.aload_n 0, 1) := by decide +kernel
theorem dX8_areCrossed_15 : decode cX8_areCrossed 15 = .ok (.getfield 73, 3) := by decide +kernel
theorem dX8_areCrossed_18 : decode cX8_areCrossed 18 = .ok (.bipush 40, 2) := by decide +kernel
theorem dX8_areCrossed_20 : decode cX8_areCrossed 20 = .ok (.iload_n 1, 1) := by decide +kernel
theorem dX8_areCrossed_21 : decode cX8_areCrossed 21 = .ok (.imul, 1) := by decide +kernel
theorem dX8_areCrossed_22 : decode cX8_areCrossed 22 = .ok (.iload_n 3, 1) := by decide +kernel
theorem dX8_areCrossed_23 : decode cX8_areCrossed 23 = .ok (.iadd, 1) := by decide +kernel
theorem dX8_areCrossed_24 : decode cX8_areCrossed 24 = .ok (.laload, 1) := by decide +kernel
theorem dX8_areCrossed_25 : decode cX8_areCrossed 25 = .ok (.l2i, 1) := by decide +kernel
theorem dX8_areCrossed_26 : decode cX8_areCrossed 26 = .ok (.istore 5, 2) := by decide +kernel
theorem dX8_areCrossed_28 : decode cX8_areCrossed 28 = .ok (.iload 4, 2) := by decide +kernel
theorem dX8_areCrossed_30 : decode cX8_areCrossed 30 = .ok (.bipush 20, 2) := by decide +kernel
theorem dX8_areCrossed_32 : decode cX8_areCrossed 32 = .ok (.idiv, 1) := by decide +kernel
theorem dX8_areCrossed_33 : decode cX8_areCrossed 33 = .ok (.iload 4, 2) := by decide +kernel
theorem dX8_areCrossed_35 : decode cX8_areCrossed 35 = .ok (.bipush 20, 2) := by decide +kernel
theorem dX8_areCrossed_37 : decode cX8_areCrossed 37 = .ok (.irem, 1) := by decide +kernel
theorem dX8_areCrossed_38 : decode cX8_areCrossed 38 = .ok (.iload 5, 2) := by decide +kernel
theorem dX8_areCrossed_40 : decode cX8_areCrossed 40 = .ok (.bipush 20, 2) := by decide +kernel
theorem dX8_areCrossed_42 : decode cX8_areCrossed 42 = .ok (.idiv, 1) := by decide +kernel
theorem dX8_areCrossed_43 : decode cX8_areCrossed 43 = .ok (.iload 5, 2) := by decide +kernel
theorem dX8_areCrossed_45 : decode cX8_areCrossed 45 = .ok (.bipush 20, 2) := by decide +kernel
theorem dX8_areCrossed_47 : decode cX8_areCrossed 47 = .ok (.irem, 1) := by decide +kernel
theorem dX8_areCrossed_48 : decode cX8_areCrossed 48 = .ok (.invokestatic 194, 3) := by decide +kernel
theorem dX8_areCrossed_51 : decode cX8_areCrossed 51 = .ok (.ireturn, 1) := by decide +kernel
theorem dX8_together_0 : decode cX8_together 0 = .ok (.aload_n 0, 1) := by decide +kernel
theorem dX8_together_1 : decode cX8_together 1 = .ok (.iconst 0, 1) := by decide +kernel
theorem dX8_together_2 : decode cX8_together 2 = .ok (.putfield 1, 3) := by decide +kernel
theorem dX8_together_5 : decode cX8_together 5 = .ok (.iload_n 1, 1) := by decide +kernel
theorem dX8_together_6 : decode cX8_together 6 = .ok (.i2l, 1) := by decide +kernel
theorem dX8_together_7 : decode cX8_together 7 = .ok (.lconst 0, 1) := by decide +kernel
theorem dX8_together_8 : decode cX8_together 8 = .ok (.ldc2_w 214, 3) := by decide +kernel
theorem dX8_together_11 : decode cX8_together 11 = .ok (.invokestatic 137, 3) := by decide +kernel
theorem dX8_together_14 : decode cX8_together 14 = .ok (.ifCond .eq 15, 3) := by decide +kernel
theorem dX8_together_17 : decode cX8_together 17 = .ok (.iload_n 2, 1) := by decide +kernel
theorem dX8_together_18 : decode cX8_together 18 = .ok (.i2l, 1) := by decide +kernel
theorem dX8_together_19 : decode cX8_together 19 = .ok (.lconst 0, 1) := by decide +kernel
theorem dX8_together_20 : decode cX8_together 20 = .ok (.ldc2_w 292, 3) := by decide +kernel
theorem dX8_together_23 : decode cX8_together 23 = .ok (.invokestatic 137, 3) := by decide +kernel
theorem dX8_together_26 : decode cX8_together 26 = .ok (.ifCond .ne 6, 3) := by decide +kernel
theorem dX8_together_29 : decode cX8_together 29 = .ok (.bipush (-2), 2) := by decide +kernel
theorem dX8_together_31 : decode cX8_together 31 = .ok (.ireturn, 1) := by decide +kernel
theorem dX8_together_32 : decode cX8_together 32 = .ok (.aload_n 0, 1) := by decide +kernel
theorem dX8_together_33 : decode cX8_together 33 = .ok (.getfield 67, 3) := by decide +kernel
theorem dX8_together_36 : decode cX8_together 36 = .ok (.iload_n 1, 1) := by decide +kernel
theorem dX8_together_37 : decode cX8_together 37 = .ok (.iaload, 1) := by decide +kernel
theorem dX8_together_38 : decode cX8_together 38 = .ok (.iconst (-1), 1) := by decide +kernel
theorem dX8_together_39 : decode cX8_together 39 = .ok (.if_icmp .ne 6, 3) := by decide +kernel
theorem dX8_together_42 : decode cX8_together 42 = .ok (.bipush (-6), 2) := by decide +kernel
theorem dX8_together_44 : decode cX8_together 44 = .ok (.ireturn, 1) := by decide +kernel
theorem dX8_together_45 : decode cX8_together 45 = .ok (.aload_n 0, 1) := by decide +kernel
theorem dX8_together_46 : decode cX8_together 46 = .ok (.iload_n 1, 1) := by decide +kernel
theorem dX8_together_47 : decode cX8_together 47 = .ok (.invokevirtual 297, 3) := by decide +kernel
theorem dX8_together_50 : decode cX8_together 50 = .ok (.ifCond .ne 6, 3) := by decide +kernel
theorem dX8_together_53 : decode cX8_together 53 = .ok (.bipush (-3), 2) := by decide +kernel
theorem dX8_together_55 : decode cX8_together 55 = .ok (.ireturn, 1) := by decide +kernel
theorem dX8_together_56 : decode cX8_together 56 = .ok (.aload_n 0, 1) := by decide +kernel
theorem dX8_together_57 : decode cX8_together 57 = .ok (.getfield 70, 3) := by decide +kernel
theorem dX8_together_60 : decode cX8_together 60 = .ok (.iload_n 1, 1) := by decide +kernel
theorem dX8_together_61 : decode cX8_together 61 = .ok (.iaload, 1) := by decide +kernel
theorem dX8_together_62 : decode cX8_together 62 = .ok (.istore_n 3, 1) := by decide +kernel
theorem dX8_together_63 : decode cX8_together 63 = .ok (.iload_n 3, 1) := by decide +kernel
theorem dX8_together_64 : decode cX8_together 64 = .ok (.bipush 12, 2) := by decide +kernel
theorem dX8_together_66 : decode cX8_together 66 = .ok (.if_icmp .le 6, 3) := by decide +kernel
theorem dX8_together_69 : decode cX8_together 69 = .ok (.bipush (-4), 2) := by decide +kernel
theorem dX8_together_71 : decode cX8_together 71 = .ok (.ireturn, 1) := by decide +kernel
theorem dX8_together_72 : decode cX8_together 72 = .ok (.iconst 0, 1) := by decide +kernel
theorem dX8_together_73 : decode cX8_together 73 = .ok (.istore 4, 2) := by decide +kernel
theorem dX8_together_75 : decode cX8_together 75 = .ok (.iconst 0, 1) := by decide +kernel
theorem dX8_together_76 : decode cX8_together 76 = .ok (.istore 5, 2) := by decide +kernel
theorem dX8_together_78 : decode cX8_together 78 = .ok (.iconst 1, 1) := by decide +kernel
theorem dX8_together_79 : decode cX8_together 79 = .ok (.istore 6, 2) := by decide +kernel
theorem dX8_together_81 : decode cX8_together 81 = .ok (.iload 6, 2) := by decide +kernel
theorem dX8_together_83 : decode cX8_together 83 = .ok (.iconst 1, 1) := by decide +kernel
theorem dX8_together_84 : decode cX8_together 84 = .ok (.iload_n 3, 1) := by decide +kernel
theorem dX8_together_85 : decode cX8_together 85 = .ok (.ishl, 1) := by decide +kernel
theorem dX8_together_86 : decode cX8_together 86 = .ok (.if_icmp .ge 188, 3) := by decide +kernel
theorem dX8_together_89 : decode cX8_together 89 = .ok (.iconst 1, 1) := by decide +kernel
theorem dX8_together_90 : decode cX8_together 90 = .ok (.istore 7, 2) := by decide +kernel
theorem dX8_together_92 : decode cX8_together 92 = .ok (.iconst 0, 1) := by decide +kernel
theorem dX8_together_93 : decode cX8_together 93 = .ok (.istore 8, 2) := by decide +kernel
theorem dX8_together_95 : decode cX8_together 95 = .ok (.iconst 0, 1) := by decide +kernel
theorem dX8_together_96 : decode cX8_together 96 = .ok (.istore 9, 2) := by decide +kernel
theorem dX8_together_98 : decode cX8_together 98 = .ok (.iload 9, 2) := by decide +kernel
theorem dX8_together_100 : decode cX8_together 100 = .ok (.iload_n 3, 1) := by decide +kernel
theorem dX8_together_101 : decode cX8_together 101 = .ok (.if_icmp .ge 118, 3) := by decide +kernel
theorem dX8_together_104 : decode cX8_together 104 = .ok (.iload 7, 2) := by decide +kernel
theorem dX8_together_106 : decode cX8_together 106 = .ok (.ifCond .eq 113, 3) := by decide +kernel
theorem dX8_together_109 : decode cX8_together 109 = .ok (.iload 6, 2) := by decide +kernel
theorem dX8_together_111 : decode cX8_together 111 = .ok (.iload 9, 2) := by decide +kernel
theorem dX8_together_113 : decode cX8_together 113 = .ok (.ishr, 1) := by decide +kernel
theorem dX8_together_114 : decode cX8_together 114 = .ok (.iconst 1, 1) := by decide +kernel
theorem dX8_together_115 : decode cX8_together 115 = .ok (.iand, 1) := by decide +kernel
theorem dX8_together_116 : decode cX8_together 116 = .ok (.ifCond .ne 6, 3) := by decide +kernel
theorem dX8_together_119 : decode cX8_together 119 = .ok (.goto 94, 3) := by decide +kernel
theorem dX8_together_122 : decode cX8_together 122 = .ok (.iload 8, 2) := by decide +kernel
theorem dX8_together_124 : decode cX8_together 124 = .ok (.aload_n 0, 1) := by decide +kernel
theorem dX8_together_125 : decode cX8_together 125 = .ok (.aload_n 0, 1) := by decide +kernel
theorem dX8_together_126 : decode cX8_together 126 = .ok (.getfield 73, 3) := by decide +kernel
theorem dX8_together_129 : decode cX8_together 129 = .ok (.bipush 40, 2) := by decide +kernel
theorem dX8_together_131 : decode cX8_together 131 = .ok (.iload_n 1, 1) := by decide +kernel
theorem dX8_together_132 : decode cX8_together 132 = .ok (.imul, 1) := by decide +kernel
theorem dX8_together_133 : decode cX8_together 133 = .ok (.iload 9, 2) := by decide +kernel
theorem dX8_together_135 : decode cX8_together 135 = .ok (.iadd, 1) := by decide +kernel
theorem dX8_together_136 : decode cX8_together 136 = .ok (.laload, 1) := by decide +kernel
theorem dX8_together_137 : decode cX8_together 137 = .ok (.l2i, 1) := by decide +kernel
theorem dX8_together_138 : decode cX8_together 138 = .ok (.bipush 20, 2) := by decide +kernel
theorem dX8_together_140 : decode cX8_together 140 = .ok (.idiv, 1) := by decide +kernel
theorem dX8_together_141 : decode cX8_together 141 = .ok (.aload_n 0, 1) := by decide +kernel
theorem dX8_together_142 : decode cX8_together 142 = .ok (.getfield 73, 3) := by decide +kernel
theorem dX8_together_145 : decode cX8_together 145 = .ok (.bipush 40, 2) := by decide +kernel
theorem dX8_together_147 : decode cX8_together 147 = .ok (.iload_n 1, 1) := by decide +kernel
theorem dX8_together_148 : decode cX8_together 148 = .ok (.imul, 1) := by decide +kernel
theorem dX8_together_149 : decode cX8_together 149 = .ok (.iload 9, 2) := by decide +kernel
theorem dX8_together_151 : decode cX8_together 151 = .ok (.iadd, 1) := by decide +kernel
theorem dX8_together_152 : decode cX8_together 152 = .ok (.laload, 1) := by decide +kernel
theorem dX8_together_153 : decode cX8_together 153 = .ok (.l2i, 1) := by decide +kernel
theorem dX8_together_154 : decode cX8_together 154 = .ok (.bipush 20, 2) := by decide +kernel
theorem dX8_together_156 : decode cX8_together 156 = .ok (.irem, 1) := by decide +kernel
theorem dX8_together_157 : decode cX8_together 157 = .ok (.invokevirtual 198, 3) := by decide +kernel
theorem dX8_together_160 : decode cX8_together 160 = .ok (.iadd, 1) := by decide +kernel
theorem dX8_together_161 : decode cX8_together 161 = .ok (.istore 8, 2) := by decide +kernel
theorem dX8_together_163 : decode cX8_together 163 = .ok (.iconst 0, 1) := by decide +kernel
theorem dX8_together_164 : decode cX8_together 164 = .ok (.istore 10, 2) := by decide +kernel
theorem dX8_together_166 : decode cX8_together 166 = .ok (.iload 10, 2) := by decide +kernel
theorem dX8_together_168 : decode cX8_together 168 = .ok (.iload 9, 2) := by decide +kernel
theorem dX8_together_170 : decode cX8_together 170 = .ok (.if_icmp .ge 43, 3) := by decide +kernel
theorem dX8_together_173 : decode cX8_together 173 = .ok (.iload 7, 2) := by decide +kernel
theorem dX8_together_175 : decode cX8_together 175 = .ok (.ifCond .eq 38, 3) := by decide +kernel
theorem dX8_together_178 : decode cX8_together 178 = .ok (.iload 6, 2) := by decide +kernel
theorem dX8_together_180 : decode cX8_together 180 = .ok (.iload 10, 2) := by decide +kernel
theorem dX8_together_182 : decode cX8_together 182 = .ok (.ishr, 1) := by decide +kernel
theorem dX8_together_183 : decode cX8_together 183 = .ok (.iconst 1, 1) := by decide +kernel
theorem dX8_together_184 : decode cX8_together 184 = .ok (.iand, 1) := by decide +kernel
theorem dX8_together_185 : decode cX8_together 185 = .ok (.ifCond .eq 15, 3) := by decide +kernel
theorem dX8_together_188 : decode cX8_together 188 = .ok (.aload_n 0, 1) := by decide +kernel
theorem dX8_together_189 : decode cX8_together 189 = .ok (.iload_n 1, 1) := by decide +kernel
theorem dX8_together_190 : decode cX8_together 190 = .ok (.iload 9, 2) := by decide +kernel
theorem dX8_together_192 : decode cX8_together 192 = .ok (.iload 10, 2) := by decide +kernel
theorem dX8_together_194 : decode cX8_together 194 = .ok (.invokevirtual 300, 3) := by decide +kernel
theorem dX8_together_197 : decode cX8_together 197 = .ok (.ifCond .ne 7, 3) := by decide +kernel
theorem dX8_together_200 : decode cX8_together 200 = .ok (.iconst 1, 1) := by decide +kernel
theorem dX8_together_201 : decode cX8_together 201 = .ok (.goto 4, 3) := by decide +kernel
theorem dX8_together_204 : decode cX8_together 204 = .ok (.iconst 0, 1) := by decide +kernel
theorem dX8_together_205 : decode cX8_together 205 = .ok (.istore 7, 2) := by decide +kernel
theorem dX8_together_207 : decode cX8_together 207 = .ok (.iinc 10 1, 3) := by decide +kernel
theorem dX8_together_210 : decode cX8_together 210 = .ok (.goto (-44), 3) := by decide +kernel
theorem dX8_together_213 : decode cX8_together 213 = .ok (.iinc 9 1, 3) := by decide +kernel
theorem dX8_together_216 : decode cX8_together 216 = .ok (.goto (-118), 3) := by decide +kernel
theorem dX8_together_219 : decode cX8_together 219 = .ok (.iload 7, 2) := by decide +kernel
theorem dX8_together_221 : decode cX8_together 221 = .ok (.ifCond .eq 47, 3) := by decide +kernel
theorem dX8_together_224 : decode cX8_together 224 = .ok (.iload 6, 2) := by decide +kernel
theorem dX8_together_226 : decode cX8_together 226 = .ok (.invokestatic 219, 3) := by decide +kernel
theorem dX8_together_229 : decode cX8_together 229 = .ok (.iload 4, 2) := by decide +kernel
theorem dX8_together_231 : decode cX8_together 231 = .ok (.invokestatic 219, 3) := by decide +kernel
theorem dX8_together_234 : decode cX8_together 234 = .ok (.if_icmp .lt 34, 3) := by decide +kernel
theorem dX8_together_237 : decode cX8_together 237 = .ok (.iload 6, 2) := by decide +kernel
theorem dX8_together_239 : decode cX8_together 239 = .ok (.invokestatic 219, 3) := by decide +kernel
theorem dX8_together_242 : decode cX8_together 242 = .ok (.iload 4, 2) := by decide +kernel
theorem dX8_together_244 : decode cX8_together 244 = .ok (.invokestatic 219, 3) := by decide +kernel
theorem dX8_together_247 : decode cX8_together 247 = .ok (.if_icmp .ne 13, 3) := by decide +kernel
theorem dX8_together_250 : decode cX8_together 250 = .ok (.iload 8, 2) := by decide +kernel
theorem dX8_together_252 : decode cX8_together 252 = .ok (.iload 5, 2) := by decide +kernel
theorem dX8_together_254 : decode cX8_together 254 = .ok (.if_icmp .lt 6, 3) := by decide +kernel
theorem dX8_together_257 : decode cX8_together 257 = .ok (.goto 11, 3) := by decide +kernel
theorem dX8_together_260 : decode cX8_together 260 = .ok (.iload 6, 2) := by decide +kernel
theorem dX8_together_262 : decode cX8_together 262 = .ok (.istore 4, 2) := by decide +kernel
theorem dX8_together_264 : decode cX8_together 264 = .ok (.iload 8, 2) := by decide +kernel
theorem dX8_together_266 : decode cX8_together 266 = .ok (.istore 5, 2) := by decide +kernel
theorem dX8_together_268 : decode cX8_together 268 = .ok (.iinc 6 1, 3) := by decide +kernel
theorem dX8_together_271 : decode cX8_together 271 = .ok (.goto (-190), 3) := by decide +kernel
theorem dX8_together_274 : decode cX8_together 274 = .ok (.iload_n 2, 1) := by decide +kernel
theorem dX8_together_275 : decode cX8_together 275 = .ok (.ifCond .ne 11, 3) := by decide +kernel
theorem dX8_together_278 : decode cX8_together 278 = .ok (.iload 4, 2) := by decide +kernel
theorem dX8_together_280 : decode cX8_together 280 = .ok (.invokestatic 219, 3) := by decide +kernel
theorem dX8_together_283 : decode cX8_together 283 = .ok (.goto 15, 3) := by decide +kernel
theorem dX8_together_286 : decode cX8_together 286 = .ok (.iload_n 2, 1) := by decide +kernel
theorem dX8_together_287 : decode cX8_together 287 = .ok (.iconst 1, 1) := by decide +kernel
theorem dX8_together_288 : decode cX8_together 288 = .ok (.if_icmp .ne 8, 3) := by decide +kernel
theorem dX8_together_291 : decode cX8_together 291 = .ok (.iload 5, 2) := by decide +kernel
theorem dX8_together_293 : decode cX8_together 293 = .ok (.goto 5, 3) := by decide +kernel
theorem dX8_together_296 : decode cX8_together 296 = .ok (.iload 4, 2) := by decide +kernel
theorem dX8_together_298 : decode cX8_together 298 = .ok (.ireturn, 1) := by decide +kernel
theorem dX8_shut_0 : decode cX8_shut 0 = .ok (.aload_n 0, 1) := by decide +kernel
theorem dX8_shut_1 : decode cX8_shut 1 = .ok (.iconst 0, 1) := by decide +kernel
theorem dX8_shut_2 : decode cX8_shut 2 = .ok (.putfield 1, 3) := by decide +kernel
theorem dX8_shut_5 : decode cX8_shut 5 = .ok (.iload_n 1, 1) := by decide +kernel
theorem dX8_shut_6 : decode cX8_shut 6 = .ok (.i2l, 1) := by decide +kernel
theorem dX8_shut_7 : decode cX8_shut 7 = .ok (.lconst 0, 1) := by decide +kernel
theorem dX8_shut_8 : decode cX8_shut 8 = .ok (.ldc2_w 214, 3) := by decide +kernel
theorem dX8_shut_11 : decode cX8_shut 11 = .ok (.invokestatic 137, 3) := by decide +kernel
theorem dX8_shut_14 : decode cX8_shut 14 = .ok (.ifCond .ne 6, 3) := by decide +kernel
theorem dX8_shut_17 : decode cX8_shut 17 = .ok (.bipush (-2), 2) := by decide +kernel
theorem dX8_shut_19 : decode cX8_shut 19 = .ok (.ireturn, 1) := by decide +kernel
theorem dX8_shut_20 : decode cX8_shut 20 = .ok (.aload_n 0, 1) := by decide +kernel
theorem dX8_shut_21 : decode cX8_shut 21 = .ok (.getfield 67, 3) := by decide +kernel
theorem dX8_shut_24 : decode cX8_shut 24 = .ok (.iload_n 1, 1) := by decide +kernel
theorem dX8_shut_25 : decode cX8_shut 25 = .ok (.iaload, 1) := by decide +kernel
theorem dX8_shut_26 : decode cX8_shut 26 = .ok (.iconst (-1), 1) := by decide +kernel
theorem dX8_shut_27 : decode cX8_shut 27 = .ok (.if_icmp .ne 6, 3) := by decide +kernel
theorem dX8_shut_30 : decode cX8_shut 30 = .ok (.bipush (-6), 2) := by decide +kernel
theorem dX8_shut_32 : decode cX8_shut 32 = .ok (.ireturn, 1) := by decide +kernel
theorem dX8_shut_33 : decode cX8_shut 33 = .ok (.iload_n 2, 1) := by decide +kernel
theorem dX8_shut_34 : decode cX8_shut 34 = .ok (.i2l, 1) := by decide +kernel
theorem dX8_shut_35 : decode cX8_shut 35 = .ok (.lconst 0, 1) := by decide +kernel
theorem dX8_shut_36 : decode cX8_shut 36 = .ok (.aload_n 0, 1) := by decide +kernel
theorem dX8_shut_37 : decode cX8_shut 37 = .ok (.getfield 70, 3) := by decide +kernel
theorem dX8_shut_40 : decode cX8_shut 40 = .ok (.iload_n 1, 1) := by decide +kernel
theorem dX8_shut_41 : decode cX8_shut 41 = .ok (.iaload, 1) := by decide +kernel
theorem dX8_shut_42 : decode cX8_shut 42 = .ok (.iconst 1, 1) := by decide +kernel
theorem dX8_shut_43 : decode cX8_shut 43 = .ok (.isub, 1) := by decide +kernel
theorem dX8_shut_44 : decode cX8_shut 44 = .ok (.i2l, 1) := by decide +kernel
theorem dX8_shut_45 : decode cX8_shut 45 = .ok (.invokestatic 137, 3) := by decide +kernel
theorem dX8_shut_48 : decode cX8_shut 48 = .ok (.ifCond .ne 6, 3) := by decide +kernel
theorem dX8_shut_51 : decode cX8_shut 51 = .ok (.bipush (-7), 2) := by decide +kernel
theorem dX8_shut_53 : decode cX8_shut 53 = .ok (.ireturn, 1) := by decide +kernel
theorem dX8_shut_54 : decode cX8_shut 54 = .ok (.aload_n 0, 1) := by decide +kernel
theorem dX8_shut_55 : decode cX8_shut 55 = .ok (.iload_n 1, 1) := by decide +kernel
theorem dX8_shut_56 : decode cX8_shut 56 = .ok (.invokevirtual 297, 3) := by decide +kernel
theorem dX8_shut_59 : decode cX8_shut 59 = .ok (.ifCond .ne 6, 3) := by decide +kernel
theorem dX8_shut_62 : decode cX8_shut 62 = .ok (.bipush (-3), 2) := by decide +kernel
theorem dX8_shut_64 : decode cX8_shut 64 = .ok (.ireturn, 1) := by decide +kernel
theorem dX8_shut_65 : decode cX8_shut 65 = .ok (.iconst 0, 1) := by decide +kernel
theorem dX8_shut_66 : decode cX8_shut 66 = .ok (.istore_n 3, 1) := by decide +kernel
theorem dX8_shut_67 : decode cX8_shut 67 = .ok (.iconst 0, 1) := by decide +kernel
theorem dX8_shut_68 : decode cX8_shut 68 = .ok (.istore 4, 2) := by decide +kernel
theorem dX8_shut_70 : decode cX8_shut 70 = .ok (.iload 4, 2) := by decide +kernel
theorem dX8_shut_72 : decode cX8_shut 72 = .ok (.aload_n 0, 1) := by decide +kernel
theorem dX8_shut_73 : decode cX8_shut 73 = .ok (.getfield 70, 3) := by decide +kernel
theorem dX8_shut_76 : decode cX8_shut 76 = .ok (.iload_n 1, 1) := by decide +kernel
theorem dX8_shut_77 : decode cX8_shut 77 = .ok (.iaload, 1) := by decide +kernel
theorem dX8_shut_78 : decode cX8_shut 78 = .ok (.if_icmp .ge 28, 3) := by decide +kernel
theorem dX8_shut_81 : decode cX8_shut 81 = .ok (.iload_n 3, 1) := by decide +kernel
theorem dX8_shut_82 : decode cX8_shut 82 = .ok (.aload_n 0, 1) := by decide +kernel
theorem dX8_shut_83 : decode cX8_shut 83 = .ok (.iload_n 1, 1) := by decide +kernel
theorem dX8_shut_84 : decode cX8_shut 84 = .ok (.iload_n 2, 1) := by decide +kernel
theorem dX8_shut_85 : decode cX8_shut 85 = .ok (.iload 4, 2) := by decide +kernel
theorem dX8_shut_87 : decode cX8_shut 87 = .ok (.invokevirtual 300, 3) := by decide +kernel
theorem dX8_shut_90 : decode cX8_shut 90 = .ok (.ifCond .eq 7, 3) := by decide +kernel
theorem dX8_shut_93 : decode cX8_shut 93 = .ok (.iconst 1, 1) := by decide +kernel
theorem dX8_shut_94 : decode cX8_shut 94 = .ok (.goto 4, 3) := by decide +kernel
theorem dX8_shut_97 : decode cX8_shut 97 = .ok (.iconst 0, 1) := by decide +kernel
theorem dX8_shut_98 : decode cX8_shut 98 = .ok (.iadd, 1) := by decide +kernel
theorem dX8_shut_99 : decode cX8_shut 99 = .ok (.istore_n 3, 1) := by decide +kernel
theorem dX8_shut_100 : decode cX8_shut 100 = .ok (.iinc 4 1, 3) := by decide +kernel
theorem dX8_shut_103 : decode cX8_shut 103 = .ok (.goto (-33), 3) := by decide +kernel
theorem dX8_shut_106 : decode cX8_shut 106 = .ok (.iload_n 3, 1) := by decide +kernel
theorem dX8_shut_107 : decode cX8_shut 107 = .ok (.ireturn, 1) := by decide +kernel
theorem dX8_adds_0 : decode cX8_adds 0 = .ok (.iload 4, 2) := by decide +kernel
theorem dX8_adds_2 : decode cX8_adds 2 = .ok (.ifCond .eq 10, 3) := by decide +kernel
theorem dX8_adds_5 : decode cX8_adds 5 = .ok (.iload_n 3, 1) := by decide +kernel
theorem dX8_adds_6 : decode cX8_adds 6 = .ok (.aload_n 0, 1) := by decide +kernel
theorem dX8_adds_7 : decode cX8_adds 7 = .ok (.iload_n 2, 1) := by decide +kernel
theorem dX8_adds_8 : decode cX8_adds 8 = .ok (.iaload, 1) := by decide +kernel
theorem dX8_adds_9 : decode cX8_adds 9 = .ok (.if_icmp .le 4, 3) := by decide +kernel
theorem dX8_adds_12 : decode cX8_adds 12 = .ok (.return_, 1) := by decide +kernel
theorem dX8_adds_13 : decode cX8_adds 13 = .ok (.aload_n 1, 1) := by decide +kernel
theorem dX8_adds_14 : decode cX8_adds 14 = .ok (.iload_n 2, 1) := by decide +kernel
theorem dX8_adds_15 : decode cX8_adds 15 = .ok (.iload_n 3, 1) := by decide +kernel
theorem dX8_adds_16 : decode cX8_adds 16 = .ok (.aload_n 0, 1) := by decide +kernel
theorem dX8_adds_17 : decode cX8_adds 17 = .ok (.iload_n 2, 1) := by decide +kernel
theorem dX8_adds_18 : decode cX8_adds 18 = .ok (.iaload, 1) := by decide +kernel
theorem dX8_adds_19 : decode cX8_adds 19 = .ok (.if_icmp .ne 12, 3) := by decide +kernel
theorem dX8_adds_22 : decode cX8_adds 22 = .ok (.aload_n 1, 1) := by decide +kernel
theorem dX8_adds_23 : decode cX8_adds 23 = .ok (.iload_n 2, 1) := by decide +kernel
theorem dX8_adds_24 : decode cX8_adds 24 = .ok (.iaload, 1) := by decide +kernel
theorem dX8_adds_25 : decode cX8_adds 25 = .ok (.iload 4, 2) := by decide +kernel
theorem dX8_adds_27 : decode cX8_adds 27 = .ok (.iadd, 1) := by decide +kernel
theorem dX8_adds_28 : decode cX8_adds 28 = .ok (.goto 5, 3) := by decide +kernel
theorem dX8_adds_31 : decode cX8_adds 31 = .ok (.iload 4, 2) := by decide +kernel
theorem dX8_adds_33 : decode cX8_adds 33 = .ok (.iastore, 1) := by decide +kernel
theorem dX8_adds_34 : decode cX8_adds 34 = .ok (.aload_n 0, 1) := by decide +kernel
theorem dX8_adds_35 : decode cX8_adds 35 = .ok (.iload_n 2, 1) := by decide +kernel
theorem dX8_adds_36 : decode cX8_adds 36 = .ok (.iload_n 3, 1) := by decide +kernel
theorem dX8_adds_37 : decode cX8_adds 37 = .ok (.iastore, 1) := by decide +kernel
theorem dX8_adds_38 : decode cX8_adds 38 = .ok (.return_, 1) := by decide +kernel
theorem dX8_laysNets_0 : decode cX8_laysNets 0 = .ok (.iconst 0, 1) := by decide +kernel
theorem dX8_laysNets_1 : decode cX8_laysNets 1 = .ok (.istore_n 1, 1) := by decide +kernel
theorem dX8_laysNets_2 : decode cX8_laysNets 2 = .ok (.iload_n 1, 1) := by decide +kernel
theorem dX8_laysNets_3 : decode cX8_laysNets 3 = .ok (.aload_n 0, 1) := by decide +kernel
theorem dX8_laysNets_4 : decode cX8_laysNets 4 = .ok (.getfield 13, 3) := by decide +kernel
theorem dX8_laysNets_7 : decode cX8_laysNets 7 = .ok (.iconst 0, 1) := by decide +kernel
theorem dX8_laysNets_8 : decode cX8_laysNets 8 = .ok (.iaload, 1) := by decide +kernel
theorem dX8_laysNets_9 : decode cX8_laysNets 9 = .ok (.if_icmp .ge 29, 3) := by decide +kernel
theorem dX8_laysNets_12 : decode cX8_laysNets 12 = .ok (.aload_n 0, 1) := by decide +kernel
theorem dX8_laysNets_13 : decode cX8_laysNets 13 = .ok (.getfield 42, 3) := by decide +kernel
theorem dX8_laysNets_16 : decode cX8_laysNets 16 = .ok (.bipush 13, 2) := by decide +kernel
theorem dX8_laysNets_18 : decode cX8_laysNets 18 = .ok (.iload_n 1, 1) := by decide +kernel
theorem dX8_laysNets_19 : decode cX8_laysNets 19 = .ok (.imul, 1) := by decide +kernel
theorem dX8_laysNets_20 : decode cX8_laysNets 20 = .ok (.iconst 0, 1) := by decide +kernel
theorem dX8_laysNets_21 : decode cX8_laysNets 21 = .ok (.iastore, 1) := by decide +kernel
theorem dX8_laysNets_22 : decode cX8_laysNets 22 = .ok (.aload_n 0, 1) := by decide +kernel
theorem dX8_laysNets_23 : decode cX8_laysNets 23 = .ok (.getfield 45, 3) := by decide +kernel
theorem dX8_laysNets_26 : decode cX8_laysNets 26 = .ok (.bipush 13, 2) := by decide +kernel
theorem dX8_laysNets_28 : decode cX8_laysNets 28 = .ok (.iload_n 1, 1) := by decide +kernel
theorem dX8_laysNets_29 : decode cX8_laysNets 29 = .ok (.imul, 1) := by decide +kernel
theorem dX8_laysNets_30 : decode cX8_laysNets 30 = .ok (.iconst 1, 1) := by decide +kernel
theorem dX8_laysNets_31 : decode cX8_laysNets 31 = .ok (.iastore, 1) := by decide +kernel
theorem dX8_laysNets_32 : decode cX8_laysNets 32 = .ok (.iinc 1 1, 3) := by decide +kernel
theorem dX8_laysNets_35 : decode cX8_laysNets 35 = .ok (.goto (-33), 3) := by decide +kernel
theorem dX8_laysNets_38 : decode cX8_laysNets 38 = .ok (.iconst 1, 1) := by decide +kernel
theorem dX8_laysNets_39 : decode cX8_laysNets 39 = .ok (.istore_n 1, 1) := by decide +kernel
theorem dX8_laysNets_40 : decode cX8_laysNets 40 = .ok (.iload_n 1, 1) := by decide +kernel
theorem dX8_laysNets_41 : decode cX8_laysNets 41 = .ok (.aload_n 0, 1) := by decide +kernel
theorem dX8_laysNets_42 : decode cX8_laysNets 42 = .ok (.getfield 13, 3) := by decide +kernel
theorem dX8_laysNets_45 : decode cX8_laysNets 45 = .ok (.iconst 0, 1) := by decide +kernel
theorem dX8_laysNets_46 : decode cX8_laysNets 46 = .ok (.iaload, 1) := by decide +kernel
theorem dX8_laysNets_47 : decode cX8_laysNets 47 = .ok (.if_icmp .ge 253, 3) := by decide +kernel
theorem dX8_laysNets_50 : decode cX8_laysNets 50 = .ok (.iconst 0, 1) := by decide +kernel
theorem dX8_laysNets_51 : decode cX8_laysNets 51 = .ok (.istore_n 2, 1) := by decide +kernel
theorem dX8_laysNets_52 : decode cX8_laysNets 52 = .ok (.iload_n 2, 1) := by decide +kernel
theorem dX8_laysNets_53 : decode cX8_laysNets 53 = .ok (.iload_n 1, 1) := by decide +kernel
theorem dX8_laysNets_54 : decode cX8_laysNets 54 = .ok (.iadd, 1) := by decide +kernel
theorem dX8_laysNets_55 : decode cX8_laysNets 55 = .ok (.aload_n 0, 1) := by decide +kernel
theorem dX8_laysNets_56 : decode cX8_laysNets 56 = .ok (.getfield 13, 3) := by decide +kernel
theorem dX8_laysNets_59 : decode cX8_laysNets 59 = .ok (.iconst 0, 1) := by decide +kernel
theorem dX8_laysNets_60 : decode cX8_laysNets 60 = .ok (.iaload, 1) := by decide +kernel
theorem dX8_laysNets_61 : decode cX8_laysNets 61 = .ok (.if_icmp .ge 233, 3) := by decide +kernel
theorem dX8_laysNets_64 : decode cX8_laysNets 64 = .ok (.iload_n 2, 1) := by decide +kernel
theorem dX8_laysNets_65 : decode cX8_laysNets 65 = .ok (.iload_n 1, 1) := by decide +kernel
theorem dX8_laysNets_66 : decode cX8_laysNets 66 = .ok (.iadd, 1) := by decide +kernel
theorem dX8_laysNets_67 : decode cX8_laysNets 67 = .ok (.istore_n 3, 1) := by decide +kernel
theorem dX8_laysNets_68 : decode cX8_laysNets 68 = .ok (.bipush 12, 2) := by decide +kernel
theorem dX8_laysNets_70 : decode cX8_laysNets 70 = .ok (.iload_n 2, 1) := by decide +kernel
theorem dX8_laysNets_71 : decode cX8_laysNets 71 = .ok (.imul, 1) := by decide +kernel
theorem dX8_laysNets_72 : decode cX8_laysNets 72 = .ok (.iload_n 3, 1) := by decide +kernel
theorem dX8_laysNets_73 : decode cX8_laysNets 73 = .ok (.iadd, 1) := by decide +kernel
theorem dX8_laysNets_74 : decode cX8_laysNets 74 = .ok (.istore 4, 2) := by decide +kernel
theorem dX8_laysNets_76 : decode cX8_laysNets 76 = .ok (.aload_n 0, 1) := by decide +kernel
theorem dX8_laysNets_77 : decode cX8_laysNets 77 = .ok (.getfield 48, 3) := by decide +kernel
theorem dX8_laysNets_80 : decode cX8_laysNets 80 = .ok (.iload 4, 2) := by decide +kernel
theorem dX8_laysNets_82 : decode cX8_laysNets 82 = .ok (.ldc 251, 2) := by decide +kernel
theorem dX8_laysNets_84 : decode cX8_laysNets 84 = .ok (.iastore, 1) := by decide +kernel
theorem dX8_laysNets_85 : decode cX8_laysNets 85 = .ok (.aload_n 0, 1) := by decide +kernel
theorem dX8_laysNets_86 : decode cX8_laysNets 86 = .ok (.getfield 51, 3) := by decide +kernel
theorem dX8_laysNets_89 : decode cX8_laysNets 89 = .ok (.iload 4, 2) := by decide +kernel
theorem dX8_laysNets_91 : decode cX8_laysNets 91 = .ok (.iconst 0, 1) := by decide +kernel
theorem dX8_laysNets_92 : decode cX8_laysNets 92 = .ok (.iastore, 1) := by decide +kernel
theorem dX8_laysNets_93 : decode cX8_laysNets 93 = .ok (.aload_n 0, 1) := by decide +kernel
theorem dX8_laysNets_94 : decode cX8_laysNets 94 = .ok (.getfield 42, 3) := by decide +kernel
theorem dX8_laysNets_97 : decode cX8_laysNets 97 = .ok (.iload 4, 2) := by decide +kernel
theorem dX8_laysNets_99 : decode cX8_laysNets 99 = .ok (.ldc 251, 2) := by decide +kernel
theorem dX8_laysNets_101 : decode cX8_laysNets 101 = .ok (.iastore, 1) := by decide +kernel
theorem dX8_laysNets_102 : decode cX8_laysNets 102 = .ok (.aload_n 0, 1) := by decide +kernel
theorem dX8_laysNets_103 : decode cX8_laysNets 103 = .ok (.getfield 45, 3) := by decide +kernel
theorem dX8_laysNets_106 : decode cX8_laysNets 106 = .ok (.iload 4, 2) := by decide +kernel
theorem dX8_laysNets_108 : decode cX8_laysNets 108 = .ok (.iconst 0, 1) := by decide +kernel
theorem dX8_laysNets_109 : decode cX8_laysNets 109 = .ok (.iastore, 1) := by decide +kernel
theorem dX8_laysNets_110 : decode cX8_laysNets 110 = .ok (.iload_n 2, 1) := by decide +kernel
theorem dX8_laysNets_111 : decode cX8_laysNets 111 = .ok (.istore 5, 2) := by decide +kernel
theorem dX8_laysNets_113 : decode cX8_laysNets 113 = .ok (.iload 5, 2) := by decide +kernel
theorem dX8_laysNets_115 : decode cX8_laysNets 115 = .ok (.iload_n 3, 1) := by decide +kernel
theorem dX8_laysNets_116 : decode cX8_laysNets 116 = .ok (.if_icmp .ge 92, 3) := by decide +kernel
theorem dX8_laysNets_119 : decode cX8_laysNets 119 = .ok (.aload_n 0, 1) := by decide +kernel
theorem dX8_laysNets_120 : decode cX8_laysNets 120 = .ok (.iload_n 2, 1) := by decide +kernel
theorem dX8_laysNets_121 : decode cX8_laysNets 121 = .ok (.iload_n 3, 1) := by decide +kernel
theorem dX8_laysNets_122 : decode cX8_laysNets 122 = .ok (.invokevirtual 228, 3) := by decide +kernel
theorem dX8_laysNets_125 : decode cX8_laysNets 125 = .ok (.ifCond .ne 83, 3) := by decide +kernel
theorem dX8_laysNets_128 : decode cX8_laysNets 128 = .ok (.aload_n 0, 1) := by decide +kernel
theorem dX8_laysNets_129 : decode cX8_laysNets 129 = .ok (.getfield 48, 3) := by decide +kernel
theorem dX8_laysNets_132 : decode cX8_laysNets 132 = .ok (.aload_n 0, 1) := by decide +kernel
theorem dX8_laysNets_133 : decode cX8_laysNets 133 = .ok (.getfield 51, 3) := by decide +kernel
theorem dX8_laysNets_136 : decode cX8_laysNets 136 = .ok (.iload 4, 2) := by decide +kernel
theorem dX8_laysNets_138 : decode cX8_laysNets 138 = .ok (.aload_n 0, 1) := by decide +kernel
theorem dX8_laysNets_139 : decode cX8_laysNets 139 = .ok (.getfield 42, 3) := by decide +kernel
theorem dX8_laysNets_142 : decode cX8_laysNets 142 = .ok (.bipush 12, 2) := by decide +kernel
theorem dX8_laysNets_144 : decode cX8_laysNets 144 = .ok (.iload_n 2, 1) := by decide +kernel
theorem dX8_laysNets_145 : decode cX8_laysNets 145 = .ok (.imul, 1) := by decide +kernel
theorem dX8_laysNets_146 : decode cX8_laysNets 146 = .ok (.iload 5, 2) := by decide +kernel
theorem dX8_laysNets_148 : decode cX8_laysNets 148 = .ok (.iadd, 1) := by decide +kernel
theorem dX8_laysNets_149 : decode cX8_laysNets 149 = .ok (.iaload, 1) := by decide +kernel
theorem dX8_laysNets_150 : decode cX8_laysNets 150 = .ok (.aload_n 0, 1) := by decide +kernel
theorem dX8_laysNets_151 : decode cX8_laysNets 151 = .ok (.getfield 42, 3) := by decide +kernel
theorem dX8_laysNets_154 : decode cX8_laysNets 154 = .ok (.bipush 12, 2) := by decide +kernel
theorem dX8_laysNets_156 : decode cX8_laysNets 156 = .ok (.iload 5, 2) := by decide +kernel
theorem dX8_laysNets_158 : decode cX8_laysNets 158 = .ok (.iconst 1, 1) := by decide +kernel
theorem dX8_laysNets_159 : decode cX8_laysNets 159 = .ok (.iadd, 1) := by decide +kernel
theorem dX8_laysNets_160 : decode cX8_laysNets 160 = .ok (.imul, 1) := by decide +kernel
theorem dX8_laysNets_161 : decode cX8_laysNets 161 = .ok (.iload_n 3, 1) := by decide +kernel
theorem dX8_laysNets_162 : decode cX8_laysNets 162 = .ok (.iadd, 1) := by decide +kernel
theorem dX8_laysNets_163 : decode cX8_laysNets 163 = .ok (.iaload, 1) := by decide +kernel
theorem dX8_laysNets_164 : decode cX8_laysNets 164 = .ok (.iadd, 1) := by decide +kernel
theorem dX8_laysNets_165 : decode cX8_laysNets 165 = .ok (.aload_n 0, 1) := by decide +kernel
theorem dX8_laysNets_166 : decode cX8_laysNets 166 = .ok (.iload_n 2, 1) := by decide +kernel
theorem dX8_laysNets_167 : decode cX8_laysNets 167 = .ok (.iload_n 3, 1) := by decide +kernel
theorem dX8_laysNets_168 : decode cX8_laysNets 168 = .ok (.invokevirtual 198, 3) := by decide +kernel
theorem dX8_laysNets_171 : decode cX8_laysNets 171 = .ok (.iadd, 1) := by decide +kernel
theorem dX8_laysNets_172 : decode cX8_laysNets 172 = .ok (.aload_n 0, 1) := by decide +kernel
theorem dX8_laysNets_173 : decode cX8_laysNets 173 = .ok (.getfield 45, 3) := by decide +kernel
theorem dX8_laysNets_176 : decode cX8_laysNets 176 = .ok (.bipush 12, 2) := by decide +kernel
theorem dX8_laysNets_178 : decode cX8_laysNets 178 = .ok (.iload_n 2, 1) := by decide +kernel
theorem dX8_laysNets_179 : decode cX8_laysNets 179 = .ok (.imul, 1) := by decide +kernel
theorem dX8_laysNets_180 : decode cX8_laysNets 180 = .ok (.iload 5, 2) := by decide +kernel
theorem dX8_laysNets_182 : decode cX8_laysNets 182 = .ok (.iadd, 1) := by decide +kernel
theorem dX8_laysNets_183 : decode cX8_laysNets 183 = .ok (.iaload, 1) := by decide +kernel
theorem dX8_laysNets_184 : decode cX8_laysNets 184 = .ok (.aload_n 0, 1) := by decide +kernel
theorem dX8_laysNets_185 : decode cX8_laysNets 185 = .ok (.getfield 45, 3) := by decide +kernel
theorem dX8_laysNets_188 : decode cX8_laysNets 188 = .ok (.bipush 12, 2) := by decide +kernel
theorem dX8_laysNets_190 : decode cX8_laysNets 190 = .ok (.iload 5, 2) := by decide +kernel
theorem dX8_laysNets_192 : decode cX8_laysNets 192 = .ok (.iconst 1, 1) := by decide +kernel
theorem dX8_laysNets_193 : decode cX8_laysNets 193 = .ok (.iadd, 1) := by decide +kernel
theorem dX8_laysNets_194 : decode cX8_laysNets 194 = .ok (.imul, 1) := by decide +kernel
theorem dX8_laysNets_195 : decode cX8_laysNets 195 = .ok (.iload_n 3, 1) := by decide +kernel
theorem dX8_laysNets_196 : decode cX8_laysNets 196 = .ok (.iadd, 1) := by decide +kernel
theorem dX8_laysNets_197 : decode cX8_laysNets 197 = .ok (.iaload, 1) := by decide +kernel
theorem dX8_laysNets_198 : decode cX8_laysNets 198 = .ok (.imul, 1) := by decide +kernel
theorem dX8_laysNets_199 : decode cX8_laysNets 199 = .ok (.invokestatic 303, 3) := by decide +kernel
theorem dX8_laysNets_202 : decode cX8_laysNets 202 = .ok (.iinc 5 1, 3) := by decide +kernel
theorem dX8_laysNets_205 : decode cX8_laysNets 205 = .ok (.goto (-92), 3) := by decide +kernel
theorem dX8_laysNets_208 : decode cX8_laysNets 208 = .ok (.iload_n 2, 1) := by decide +kernel
theorem dX8_laysNets_209 : decode cX8_laysNets 209 = .ok (.iconst 1, 1) := by decide +kernel
theorem dX8_laysNets_210 : decode cX8_laysNets 210 = .ok (.iadd, 1) := by decide +kernel
theorem dX8_laysNets_211 : decode cX8_laysNets 211 = .ok (.istore 5, 2) := by decide +kernel
theorem dX8_laysNets_213 : decode cX8_laysNets 213 = .ok (.iload 5, 2) := by decide +kernel
theorem dX8_laysNets_215 : decode cX8_laysNets 215 = .ok (.iload_n 3, 1) := by decide +kernel
theorem dX8_laysNets_216 : decode cX8_laysNets 216 = .ok (.if_icmp .gt 72, 3) := by decide +kernel
theorem dX8_laysNets_219 : decode cX8_laysNets 219 = .ok (.aload_n 0, 1) := by decide +kernel
theorem dX8_laysNets_220 : decode cX8_laysNets 220 = .ok (.getfield 42, 3) := by decide +kernel
theorem dX8_laysNets_223 : decode cX8_laysNets 223 = .ok (.aload_n 0, 1) := by decide +kernel
theorem dX8_laysNets_224 : decode cX8_laysNets 224 = .ok (.getfield 45, 3) := by decide +kernel
theorem dX8_laysNets_227 : decode cX8_laysNets 227 = .ok (.iload 4, 2) := by decide +kernel
theorem dX8_laysNets_229 : decode cX8_laysNets 229 = .ok (.aload_n 0, 1) := by decide +kernel
theorem dX8_laysNets_230 : decode cX8_laysNets 230 = .ok (.getfield 48, 3) := by decide +kernel
theorem dX8_laysNets_233 : decode cX8_laysNets 233 = .ok (.bipush 12, 2) := by decide +kernel
theorem dX8_laysNets_235 : decode cX8_laysNets 235 = .ok (.iload_n 2, 1) := by decide +kernel
theorem dX8_laysNets_236 : decode cX8_laysNets 236 = .ok (.imul, 1) := by decide +kernel
theorem dX8_laysNets_237 : decode cX8_laysNets 237 = .ok (.iload 5, 2) := by decide +kernel
theorem dX8_laysNets_239 : decode cX8_laysNets 239 = .ok (.iadd, 1) := by decide +kernel
theorem dX8_laysNets_240 : decode cX8_laysNets 240 = .ok (.iaload, 1) := by decide +kernel
theorem dX8_laysNets_241 : decode cX8_laysNets 241 = .ok (.aload_n 0, 1) := by decide +kernel
theorem dX8_laysNets_242 : decode cX8_laysNets 242 = .ok (.getfield 42, 3) := by decide +kernel
theorem dX8_laysNets_245 : decode cX8_laysNets 245 = .ok (.bipush 12, 2) := by decide +kernel
theorem dX8_laysNets_247 : decode cX8_laysNets 247 = .ok (.iload 5, 2) := by decide +kernel
theorem dX8_laysNets_249 : decode cX8_laysNets 249 = .ok (.imul, 1) := by decide +kernel
theorem dX8_laysNets_250 : decode cX8_laysNets 250 = .ok (.iload_n 3, 1) := by decide +kernel
theorem dX8_laysNets_251 : decode cX8_laysNets 251 = .ok (.iadd, 1) := by decide +kernel
theorem dX8_laysNets_252 : decode cX8_laysNets 252 = .ok (.iaload, 1) := by decide +kernel
theorem dX8_laysNets_253 : decode cX8_laysNets 253 = .ok (.iadd, 1) := by decide +kernel
theorem dX8_laysNets_254 : decode cX8_laysNets 254 = .ok (.aload_n 0, 1) := by decide +kernel
theorem dX8_laysNets_255 : decode cX8_laysNets 255 = .ok (.getfield 51, 3) := by decide +kernel
theorem dX8_laysNets_258 : decode cX8_laysNets 258 = .ok (.bipush 12, 2) := by decide +kernel
theorem dX8_laysNets_260 : decode cX8_laysNets 260 = .ok (.iload_n 2, 1) := by decide +kernel
theorem dX8_laysNets_261 : decode cX8_laysNets 261 = .ok (.imul, 1) := by decide +kernel
theorem dX8_laysNets_262 : decode cX8_laysNets 262 = .ok (.iload 5, 2) := by decide +kernel
theorem dX8_laysNets_264 : decode cX8_laysNets 264 = .ok (.iadd, 1) := by decide +kernel
theorem dX8_laysNets_265 : decode cX8_laysNets 265 = .ok (.iaload, 1) := by decide +kernel
theorem dX8_laysNets_266 : decode cX8_laysNets 266 = .ok (.aload_n 0, 1) := by decide +kernel
theorem dX8_laysNets_267 : decode cX8_laysNets 267 = .ok (.getfield 45, 3) := by decide +kernel
theorem dX8_laysNets_270 : decode cX8_laysNets 270 = .ok (.bipush 12, 2) := by decide +kernel
theorem dX8_laysNets_272 : decode cX8_laysNets 272 = .ok (.iload 5, 2) := by decide +kernel
theorem dX8_laysNets_274 : decode cX8_laysNets 274 = .ok (.imul, 1) := by decide +kernel
theorem dX8_laysNets_275 : decode cX8_laysNets 275 = .ok (.iload_n 3, 1) := by decide +kernel
theorem dX8_laysNets_276 : decode cX8_laysNets 276 = .ok (.iadd, 1) := by decide +kernel
theorem dX8_laysNets_277 : decode cX8_laysNets 277 = .ok (.iaload, 1) := by decide +kernel
theorem dX8_laysNets_278 : decode cX8_laysNets 278 = .ok (.imul, 1) := by decide +kernel
theorem dX8_laysNets_279 : decode cX8_laysNets 279 = .ok (.invokestatic 303, 3) := by decide +kernel
theorem dX8_laysNets_282 : decode cX8_laysNets 282 = .ok (.iinc 5 1, 3) := by decide +kernel
theorem dX8_laysNets_285 : decode cX8_laysNets 285 = .ok (.goto (-72), 3) := by decide +kernel
theorem dX8_laysNets_288 : decode cX8_laysNets 288 = .ok (.iinc 2 1, 3) := by decide +kernel
theorem dX8_laysNets_291 : decode cX8_laysNets 291 = .ok (.goto (-239), 3) := by decide +kernel
theorem dX8_laysNets_294 : decode cX8_laysNets 294 = .ok (.iinc 1 1, 3) := by decide +kernel
theorem dX8_laysNets_297 : decode cX8_laysNets 297 = .ok (.goto (-257), 3) := by decide +kernel
theorem dX8_laysNets_300 : decode cX8_laysNets 300 = .ok (.return_, 1) := by decide +kernel
theorem dX8_web_0 : decode cX8_web 0 = .ok (.aload_n 0, 1) := by decide +kernel
theorem dX8_web_1 : decode cX8_web 1 = .ok (.iconst 0, 1) := by decide +kernel
theorem dX8_web_2 : decode cX8_web 2 = .ok (.putfield 1, 3) := by decide +kernel
theorem dX8_web_5 : decode cX8_web 5 = .ok (.iload_n 1, 1) := by decide +kernel
theorem dX8_web_6 : decode cX8_web 6 = .ok (.i2l, 1) := by decide +kernel
theorem dX8_web_7 : decode cX8_web 7 = .ok (.lconst 0, 1) := by decide +kernel
theorem dX8_web_8 : decode cX8_web 8 = .ok (.lconst 1, 1) := by decide +kernel
theorem dX8_web_9 : decode cX8_web 9 = .ok (.invokestatic 137, 3) := by decide +kernel
theorem dX8_web_12 : decode cX8_web 12 = .ok (.ifCond .ne 6, 3) := by decide +kernel
theorem dX8_web_15 : decode cX8_web 15 = .ok (.bipush (-2), 2) := by decide +kernel
theorem dX8_web_17 : decode cX8_web 17 = .ok (.ireturn, 1) := by decide +kernel
theorem dX8_web_18 : decode cX8_web 18 = .ok (.aload_n 0, 1) := by decide +kernel
theorem dX8_web_19 : decode cX8_web 19 = .ok (.getfield 13, 3) := by decide +kernel
theorem dX8_web_22 : decode cX8_web 22 = .ok (.iconst 0, 1) := by decide +kernel
theorem dX8_web_23 : decode cX8_web 23 = .ok (.iaload, 1) := by decide +kernel
theorem dX8_web_24 : decode cX8_web 24 = .ok (.ifCond .ne 6, 3) := by decide +kernel
theorem dX8_web_27 : decode cX8_web 27 = .ok (.bipush (-5), 2) := by decide +kernel
theorem dX8_web_29 : decode cX8_web 29 = .ok (.ireturn, 1) := by decide +kernel
theorem dX8_web_30 : decode cX8_web 30 = .ok (.aload_n 0, 1) := by decide +kernel
theorem dX8_web_31 : decode cX8_web 31 = .ok (.invokevirtual 307, 3) := by decide +kernel
theorem dX8_web_34 : decode cX8_web 34 = .ok (.aload_n 0, 1) := by decide +kernel
theorem dX8_web_35 : decode cX8_web 35 = .ok (.getfield 13, 3) := by decide +kernel
theorem dX8_web_38 : decode cX8_web 38 = .ok (.iconst 0, 1) := by decide +kernel
theorem dX8_web_39 : decode cX8_web 39 = .ok (.iaload, 1) := by decide +kernel
theorem dX8_web_40 : decode cX8_web 40 = .ok (.iconst 1, 1) := by decide +kernel
theorem dX8_web_41 : decode cX8_web 41 = .ok (.isub, 1) := by decide +kernel
theorem dX8_web_42 : decode cX8_web 42 = .ok (.istore_n 2, 1) := by decide +kernel
theorem dX8_web_43 : decode cX8_web 43 = .ok (.iload_n 1, 1) := by decide +kernel
theorem dX8_web_44 : decode cX8_web 44 = .ok (.iconst 1, 1) := by decide +kernel
theorem dX8_web_45 : decode cX8_web 45 = .ok (.if_icmp .ne 12, 3) := by decide +kernel
theorem dX8_web_48 : decode cX8_web 48 = .ok (.aload_n 0, 1) := by decide +kernel
theorem dX8_web_49 : decode cX8_web 49 = .ok (.getfield 45, 3) := by decide +kernel
theorem dX8_web_52 : decode cX8_web 52 = .ok (.iload_n 2, 1) := by decide +kernel
theorem dX8_web_53 : decode cX8_web 53 = .ok (.iaload, 1) := by decide +kernel
theorem dX8_web_54 : decode cX8_web 54 = .ok (.goto 22, 3) := by decide +kernel
theorem dX8_web_57 : decode cX8_web 57 = .ok (.aload_n 0, 1) := by decide +kernel
theorem dX8_web_58 : decode cX8_web 58 = .ok (.getfield 45, 3) := by decide +kernel
theorem dX8_web_61 : decode cX8_web 61 = .ok (.iload_n 2, 1) := by decide +kernel
theorem dX8_web_62 : decode cX8_web 62 = .ok (.iaload, 1) := by decide +kernel
theorem dX8_web_63 : decode cX8_web 63 = .ok (.ifCond .ne 7, 3) := by decide +kernel
theorem dX8_web_66 : decode cX8_web 66 = .ok (.iconst (-1), 1) := by decide +kernel
theorem dX8_web_67 : decode cX8_web 67 = .ok (.goto 9, 3) := by decide +kernel
theorem dX8_web_70 : decode cX8_web 70 = .ok (.aload_n 0, 1) := by decide +kernel
theorem dX8_web_71 : decode cX8_web 71 = .ok (.getfield 42, 3) := by decide +kernel
theorem dX8_web_74 : decode cX8_web 74 = .ok (.iload_n 2, 1) := by decide +kernel
theorem dX8_web_75 : decode cX8_web 75 = .ok (.iaload, 1) := by decide +kernel
theorem dX8_web_76 : decode cX8_web 76 = .ok (.ireturn, 1) := by decide +kernel
theorem dX8_more_0 : decode cX8_more 0 = .ok (.aload_n 0, 1) := by decide +kernel
theorem dX8_more_1 : decode cX8_more 1 = .ok (.iconst 0, 1) := by decide +kernel
theorem dX8_more_2 : decode cX8_more 2 = .ok (.putfield 1, 3) := by decide +kernel
theorem dX8_more_5 : decode cX8_more 5 = .ok (.iconst 0, 1) := by decide +kernel
theorem dX8_more_6 : decode cX8_more 6 = .ok (.istore_n 1, 1) := by decide +kernel
theorem dX8_more_7 : decode cX8_more 7 = .ok (.iload_n 1, 1) := by decide +kernel
theorem dX8_more_8 : decode cX8_more 8 = .ok (.sipush 186, 3) := by decide +kernel
theorem dX8_more_11 : decode cX8_more 11 = .ok (.if_icmp .ge 21, 3) := by decide +kernel
theorem dX8_more_14 : decode cX8_more 14 = .ok (.aload_n 0, 1) := by decide +kernel
theorem dX8_more_15 : decode cX8_more 15 = .ok (.getfield 54, 3) := by decide +kernel
theorem dX8_more_18 : decode cX8_more 18 = .ok (.iload_n 1, 1) := by decide +kernel
theorem dX8_more_19 : decode cX8_more 19 = .ok (.aload_n 0, 1) := by decide +kernel
theorem dX8_more_20 : decode cX8_more 20 = .ok (.getfield 13, 3) := by decide +kernel
theorem dX8_more_23 : decode cX8_more 23 = .ok (.iload_n 1, 1) := by decide +kernel
theorem dX8_more_24 : decode cX8_more 24 = .ok (.iaload, 1) := by decide +kernel
theorem dX8_more_25 : decode cX8_more 25 = .ok (.iastore, 1) := by decide +kernel
theorem dX8_more_26 : decode cX8_more 26 = .ok (.iinc 1 1, 3) := by decide +kernel
theorem dX8_more_29 : decode cX8_more 29 = .ok (.goto (-22), 3) := by decide +kernel
theorem dX8_more_32 : decode cX8_more 32 = .ok (.iconst 0, 1) := by decide +kernel
theorem dX8_more_33 : decode cX8_more 33 = .ok (.istore_n 1, 1) := by decide +kernel
theorem dX8_more_34 : decode cX8_more 34 = .ok (.iconst 0, 1) := by decide +kernel
theorem dX8_more_35 : decode cX8_more 35 = .ok (.istore_n 2, 1) := by decide +kernel
theorem dX8_more_36 : decode cX8_more 36 = .ok (.iload_n 2, 1) := by decide +kernel
theorem dX8_more_37 : decode cX8_more 37 = .ok (.aload_n 0, 1) := by decide +kernel
theorem dX8_more_38 : decode cX8_more 38 = .ok (.getfield 13, 3) := by decide +kernel
theorem dX8_more_41 : decode cX8_more 41 = .ok (.iconst 0, 1) := by decide +kernel
theorem dX8_more_42 : decode cX8_more 42 = .ok (.iaload, 1) := by decide +kernel
theorem dX8_more_43 : decode cX8_more 43 = .ok (.if_icmp .ge 57, 3) := by decide +kernel
theorem dX8_more_46 : decode cX8_more 46 = .ok (.iload_n 2, 1) := by decide +kernel
theorem dX8_more_47 : decode cX8_more 47 = .ok (.iconst 1, 1) := by decide +kernel
theorem dX8_more_48 : decode cX8_more 48 = .ok (.iadd, 1) := by decide +kernel
theorem dX8_more_49 : decode cX8_more 49 = .ok (.istore_n 3, 1) := by decide +kernel
theorem dX8_more_50 : decode cX8_more 50 = .ok (.iload_n 3, 1) := by decide +kernel
theorem dX8_more_51 : decode cX8_more 51 = .ok (.aload_n 0, 1) := by decide +kernel
theorem dX8_more_52 : decode cX8_more 52 = .ok (.getfield 13, 3) := by decide +kernel
theorem dX8_more_55 : decode cX8_more 55 = .ok (.iconst 0, 1) := by decide +kernel
theorem dX8_more_56 : decode cX8_more 56 = .ok (.iaload, 1) := by decide +kernel
theorem dX8_more_57 : decode cX8_more 57 = .ok (.if_icmp .ge 37, 3) := by decide +kernel
theorem dX8_more_60 : decode cX8_more 60 = .ok (.aload_n 0, 1) := by decide +kernel
theorem dX8_more_61 : decode cX8_more 61 = .ok (.getfield 13, 3) := by decide +kernel
theorem dX8_more_64 : decode cX8_more 64 = .ok (.iload_n 2, 1) := by decide +kernel
theorem dX8_more_65 : decode cX8_more 65 = .ok (.iload_n 3, 1) := by decide +kernel
theorem dX8_more_66 : decode cX8_more 66 = .ok (.invokestatic 154, 3) := by decide +kernel
theorem dX8_more_69 : decode cX8_more 69 = .ok (.ifCond .eq 6, 3) := by decide +kernel
theorem dX8_more_72 : decode cX8_more 72 = .ok (.goto 16, 3) := by decide +kernel
theorem dX8_more_75 : decode cX8_more 75 = .ok (.aload_n 0, 1) := by decide +kernel
theorem dX8_more_76 : decode cX8_more 76 = .ok (.getfield 13, 3) := by decide +kernel
theorem dX8_more_79 : decode cX8_more 79 = .ok (.iload_n 2, 1) := by decide +kernel
theorem dX8_more_80 : decode cX8_more 80 = .ok (.iload_n 3, 1) := by decide +kernel
theorem dX8_more_81 : decode cX8_more 81 = .ok (.iconst 1, 1) := by decide +kernel
theorem dX8_more_82 : decode cX8_more 82 = .ok (.invokestatic 158, 3) := by decide +kernel
theorem dX8_more_85 : decode cX8_more 85 = .ok (.iinc 1 1, 3) := by decide +kernel
theorem dX8_more_88 : decode cX8_more 88 = .ok (.iinc 3 1, 3) := by decide +kernel
theorem dX8_more_91 : decode cX8_more 91 = .ok (.goto (-41), 3) := by decide +kernel
theorem dX8_more_94 : decode cX8_more 94 = .ok (.iinc 2 1, 3) := by decide +kernel
theorem dX8_more_97 : decode cX8_more 97 = .ok (.goto (-61), 3) := by decide +kernel
theorem dX8_more_100 : decode cX8_more 100 = .ok (.iconst 0, 1) := by decide +kernel
theorem dX8_more_101 : decode cX8_more 101 = .ok (.istore_n 2, 1) := by decide +kernel
theorem dX8_more_102 : decode cX8_more 102 = .ok (.iload_n 2, 1) := by decide +kernel
theorem dX8_more_103 : decode cX8_more 103 = .ok (.sipush 186, 3) := by decide +kernel
theorem dX8_more_106 : decode cX8_more 106 = .ok (.if_icmp .ge 21, 3) := by decide +kernel
theorem dX8_more_109 : decode cX8_more 109 = .ok (.aload_n 0, 1) := by decide +kernel
theorem dX8_more_110 : decode cX8_more 110 = .ok (.getfield 13, 3) := by decide +kernel
theorem dX8_more_113 : decode cX8_more 113 = .ok (.iload_n 2, 1) := by decide +kernel
theorem dX8_more_114 : decode cX8_more 114 = .ok (.aload_n 0, 1) := by decide +kernel
theorem dX8_more_115 : decode cX8_more 115 = .ok (.getfield 54, 3) := by decide +kernel
theorem dX8_more_118 : decode cX8_more 118 = .ok (.iload_n 2, 1) := by decide +kernel
theorem dX8_more_119 : decode cX8_more 119 = .ok (.iaload, 1) := by decide +kernel
theorem dX8_more_120 : decode cX8_more 120 = .ok (.iastore, 1) := by decide +kernel
theorem dX8_more_121 : decode cX8_more 121 = .ok (.iinc 2 1, 3) := by decide +kernel
theorem dX8_more_124 : decode cX8_more 124 = .ok (.goto (-22), 3) := by decide +kernel
theorem dX8_more_127 : decode cX8_more 127 = .ok (.iload_n 1, 1) := by decide +kernel
theorem dX8_more_128 : decode cX8_more 128 = .ok (.ireturn, 1) := by decide +kernel
theorem dX8_takenAt_0 : decode cX8_takenAt 0 = .ok (.sipush 512, 3) := by decide +kernel
theorem dX8_takenAt_3 : decode cX8_takenAt 3 = .ok (.bipush 12, 2) := by decide +kernel
theorem dX8_takenAt_5 : decode cX8_takenAt 5 = .ok (.iload_n 0, 1) := by decide +kernel
theorem dX8_takenAt_6 : decode cX8_takenAt 6 = .ok (.iload_n 1, 1) := by decide +kernel
theorem dX8_takenAt_7 : decode cX8_takenAt 7 = .ok (.if_icmp .ge 7, 3) := by decide +kernel
theorem dX8_takenAt_10 : decode cX8_takenAt 10 = .ok (.iload_n 0, 1) := by decide +kernel
theorem dX8_takenAt_11 : decode cX8_takenAt 11 = .ok (.goto 4, 3) := by decide +kernel
theorem dX8_takenAt_14 : decode cX8_takenAt 14 = .ok (.iload_n 1, 1) := by decide +kernel
theorem dX8_takenAt_15 : decode cX8_takenAt 15 = .ok (.imul, 1) := by decide +kernel
theorem dX8_takenAt_16 : decode cX8_takenAt 16 = .ok (.iload_n 0, 1) := by decide +kernel
theorem dX8_takenAt_17 : decode cX8_takenAt 17 = .ok (.iload_n 1, 1) := by decide +kernel
theorem dX8_takenAt_18 : decode cX8_takenAt 18 = .ok (.if_icmp .ge 7, 3) := by decide +kernel
theorem dX8_takenAt_21 : decode cX8_takenAt 21 = .ok (.iload_n 1, 1) := by decide +kernel
theorem dX8_takenAt_22 : decode cX8_takenAt 22 = .ok (.goto 4, 3) := by decide +kernel
theorem dX8_takenAt_25 : decode cX8_takenAt 25 = .ok (.iload_n 0, 1) := by decide +kernel
theorem dX8_takenAt_26 : decode cX8_takenAt 26 = .ok (.iadd, 1) := by decide +kernel
theorem dX8_takenAt_27 : decode cX8_takenAt 27 = .ok (.imul, 1) := by decide +kernel
theorem dX8_takenAt_28 : decode cX8_takenAt 28 = .ok (.iload_n 2, 1) := by decide +kernel
theorem dX8_takenAt_29 : decode cX8_takenAt 29 = .ok (.iadd, 1) := by decide +kernel
theorem dX8_takenAt_30 : decode cX8_takenAt 30 = .ok (.ireturn, 1) := by decide +kernel
theorem dX8_canBegin_0 : decode cX8_canBegin 0 = .ok (.iconst 0, 1) := by decide +kernel
theorem dX8_canBegin_1 : decode cX8_canBegin 1 = .ok (.istore_n 2, 1) := by decide +kernel
theorem dX8_canBegin_2 : decode cX8_canBegin 2 = .ok (.iload_n 2, 1) := by decide +kernel
theorem dX8_canBegin_3 : decode cX8_canBegin 3 = .ok (.aload_n 0, 1) := by decide +kernel
theorem dX8_canBegin_4 : decode cX8_canBegin 4 = .ok (.getfield 252, 3) := by decide +kernel
theorem dX8_canBegin_7 : decode cX8_canBegin 7 = .ok (.if_icmp .ge 39, 3) := by decide +kernel
theorem dX8_canBegin_10 : decode cX8_canBegin 10 = .ok (.aload_n 0, 1) := by decide +kernel
theorem dX8_canBegin_11 : decode cX8_canBegin 11 = .ok (.getfield 58, 3) := by decide +kernel
theorem dX8_canBegin_14 : decode cX8_canBegin 14 = .ok (.aload_n 0, 1) := by decide +kernel
theorem dX8_canBegin_15 : decode cX8_canBegin 15 = .ok (.getfield 36, 3) := by decide +kernel
theorem dX8_canBegin_18 : decode cX8_canBegin 18 = .ok (.iload_n 2, 1) := by decide +kernel
theorem dX8_canBegin_19 : decode cX8_canBegin 19 = .ok (.iaload, 1) := by decide +kernel
theorem dX8_canBegin_20 : decode cX8_canBegin 20 = .ok (.aload_n 0, 1) := by decide +kernel
theorem dX8_canBegin_21 : decode cX8_canBegin 21 = .ok (.getfield 36, 3) := by decide +kernel
theorem dX8_canBegin_24 : decode cX8_canBegin 24 = .ok (.iload_n 2, 1) := by decide +kernel
theorem dX8_canBegin_25 : decode cX8_canBegin 25 = .ok (.iconst 1, 1) := by decide +kernel
theorem dX8_canBegin_26 : decode cX8_canBegin 26 = .ok (.iadd, 1) := by decide +kernel
theorem dX8_canBegin_27 : decode cX8_canBegin 27 = .ok (.iaload, 1) := by decide +kernel
theorem dX8_canBegin_28 : decode cX8_canBegin 28 = .ok (.iload_n 1, 1) := by decide +kernel
theorem dX8_canBegin_29 : decode cX8_canBegin 29 = .ok (.iload_n 2, 1) := by decide +kernel
theorem dX8_canBegin_30 : decode cX8_canBegin 30 = .ok (.iadd, 1) := by decide +kernel
theorem dX8_canBegin_31 : decode cX8_canBegin 31 = .ok (.invokestatic 310, 3) := by decide +kernel
theorem dX8_canBegin_34 : decode cX8_canBegin 34 = .ok (.baload, 1) := by decide +kernel
theorem dX8_canBegin_35 : decode cX8_canBegin 35 = .ok (.ifCond .eq 5, 3) := by decide +kernel
theorem dX8_canBegin_38 : decode cX8_canBegin 38 = .ok (.iconst 0, 1) := by decide +kernel
theorem dX8_canBegin_39 : decode cX8_canBegin 39 = .ok (.ireturn, 1) := by decide +kernel
theorem dX8_canBegin_40 : decode cX8_canBegin 40 = .ok (.iinc 2 1, 3) := by decide +kernel
theorem dX8_canBegin_43 : decode cX8_canBegin 43 = .ok (.goto (-41), 3) := by decide +kernel
theorem dX8_canBegin_46 : decode cX8_canBegin 46 = .ok (.iconst 1, 1) := by decide +kernel
theorem dX8_canBegin_47 : decode cX8_canBegin 47 = .ok (.ireturn, 1) := by decide +kernel
theorem dX8_calls_0 : decode cX8_calls 0 = .ok (.aload_n 0, 1) := by decide +kernel
theorem dX8_calls_1 : decode cX8_calls 1 = .ok (.iconst 0, 1) := by decide +kernel
theorem dX8_calls_2 : decode cX8_calls 2 = .ok (.putfield 1, 3) := by decide +kernel
theorem dX8_calls_5 : decode cX8_calls 5 = .ok (.iload_n 1, 1) := by decide +kernel
theorem dX8_calls_6 : decode cX8_calls 6 = .ok (.i2l, 1) := by decide +kernel
theorem dX8_calls_7 : decode cX8_calls 7 = .ok (.lconst 0, 1) := by decide +kernel
theorem dX8_calls_8 : decode cX8_calls 8 = .ok (.ldc2_w 214, 3) := by decide +kernel
theorem dX8_calls_11 : decode cX8_calls 11 = .ok (.invokestatic 137, 3) := by decide +kernel
theorem dX8_calls_14 : decode cX8_calls 14 = .ok (.ifCond .eq 29, 3) := by decide +kernel
theorem dX8_calls_17 : decode cX8_calls 17 = .ok (.iload_n 2, 1) := by decide +kernel
theorem dX8_calls_18 : decode cX8_calls 18 = .ok (.i2l, 1) := by decide +kernel
theorem dX8_calls_19 : decode cX8_calls 19 = .ok (.lconst 0, 1) := by decide +kernel
theorem dX8_calls_20 : decode cX8_calls 20 = .ok (.ldc2_w 292, 3) := by decide +kernel
theorem dX8_calls_23 : decode cX8_calls 23 = .ok (.invokestatic 137, 3) := by decide +kernel
theorem dX8_calls_26 : decode cX8_calls 26 = .ok (.ifCond .ne 20, 3) := by decide +kernel
theorem dX8_calls_29 : decode cX8_calls 29 = .ok (.iload_n 2, 1) := by decide +kernel
theorem dX8_calls_30 : decode cX8_calls 30 = .ok (.i2l, 1) := by decide +kernel
theorem dX8_calls_31 : decode cX8_calls 31 = .ok (.ldc2_w 258, 3) := by decide +kernel
theorem dX8_calls_34 : decode cX8_calls 34 = .ok (.ldc2_w 314, 3) := by decide +kernel
theorem dX8_calls_37 : decode cX8_calls 37 = .ok (.invokestatic 137, 3) := by decide +kernel
theorem dX8_calls_40 : decode cX8_calls 40 = .ok (.ifCond .ne 6, 3) := by decide +kernel
theorem dX8_calls_43 : decode cX8_calls 43 = .ok (.bipush (-2), 2) := by decide +kernel
theorem dX8_calls_45 : decode cX8_calls 45 = .ok (.ireturn, 1) := by decide +kernel
theorem dX8_calls_46 : decode cX8_calls 46 = .ok (.aload_n 0, 1) := by decide +kernel
theorem dX8_calls_47 : decode cX8_calls 47 = .ok (.getfield 67, 3) := by decide +kernel
theorem dX8_calls_50 : decode cX8_calls 50 = .ok (.iload_n 1, 1) := by decide +kernel
theorem dX8_calls_51 : decode cX8_calls 51 = .ok (.iaload, 1) := by decide +kernel
theorem dX8_calls_52 : decode cX8_calls 52 = .ok (.iconst (-1), 1) := by decide +kernel
theorem dX8_calls_53 : decode cX8_calls 53 = .ok (.if_icmp .ne 6, 3) := by decide +kernel
theorem dX8_calls_56 : decode cX8_calls 56 = .ok (.bipush (-6), 2) := by decide +kernel
theorem dX8_calls_58 : decode cX8_calls 58 = .ok (.ireturn, 1) := by decide +kernel
theorem dX8_calls_59 : decode cX8_calls 59 = .ok (.aload_n 0, 1) := by decide +kernel
theorem dX8_calls_60 : decode cX8_calls 60 = .ok (.iload_n 1, 1) := by decide +kernel
theorem dX8_calls_61 : decode cX8_calls 61 = .ok (.invokevirtual 297, 3) := by decide +kernel
theorem dX8_calls_64 : decode cX8_calls 64 = .ok (.ifCond .ne 6, 3) := by decide +kernel
theorem dX8_calls_67 : decode cX8_calls 67 = .ok (.bipush (-3), 2) := by decide +kernel
theorem dX8_calls_69 : decode cX8_calls 69 = .ok (.ireturn, 1) := by decide +kernel
theorem dX8_calls_70 : decode cX8_calls 70 = .ok (.iconst 0, 1) := by decide +kernel
theorem dX8_calls_71 : decode cX8_calls 71 = .ok (.istore_n 3, 1) := by decide +kernel
theorem dX8_calls_72 : decode cX8_calls 72 = .ok (.iload_n 3, 1) := by decide +kernel
theorem dX8_calls_73 : decode cX8_calls 73 = .ok (.ldc 57, 2) := by decide +kernel
theorem dX8_calls_75 : decode cX8_calls 75 = .ok (.if_icmp .ge 16, 3) := by decide +kernel
theorem dX8_calls_78 : decode cX8_calls 78 = .ok (.aload_n 0, 1) := by decide +kernel
theorem dX8_calls_79 : decode cX8_calls 79 = .ok (.getfield 58, 3) := by decide +kernel
theorem dX8_calls_82 : decode cX8_calls 82 = .ok (.iload_n 3, 1) := by decide +kernel
theorem dX8_calls_83 : decode cX8_calls 83 = .ok (.iconst 0, 1) := by decide +kernel
theorem dX8_calls_84 : decode cX8_calls 84 = .ok (.bastore, 1) := by decide +kernel
theorem dX8_calls_85 : decode cX8_calls 85 = .ok (.iinc 3 1, 3) := by decide +kernel
theorem dX8_calls_88 : decode cX8_calls 88 = .ok (.goto (-16), 3) := by decide +kernel
theorem dX8_calls_91 : decode cX8_calls 91 = .ok (.iconst 0, 1) := by decide +kernel
theorem dX8_calls_92 : decode cX8_calls 92 = .ok (.istore_n 3, 1) := by decide +kernel
theorem dX8_calls_93 : decode cX8_calls 93 = .ok (.iconst 0, 1) := by decide +kernel
theorem dX8_calls_94 : decode cX8_calls 94 = .ok (.istore 4, 2) := by decide +kernel
theorem dX8_calls_96 : decode cX8_calls 96 = .ok (.iconst 0, 1) := by decide +kernel
theorem dX8_calls_97 : decode cX8_calls 97 = .ok (.istore 5, 2) := by decide +kernel
theorem dX8_calls_99 : decode cX8_calls 99 = .ok (.iconst 0, 1) := by decide +kernel
theorem dX8_calls_100 : decode cX8_calls 100 = .ok (.istore 6, 2) := by decide +kernel
theorem dX8_calls_102 : decode cX8_calls 102 = .ok (.iload 6, 2) := by decide +kernel
theorem dX8_calls_104 : decode cX8_calls 104 = .ok (.aload_n 0, 1) := by decide +kernel
theorem dX8_calls_105 : decode cX8_calls 105 = .ok (.getfield 70, 3) := by decide +kernel
theorem dX8_calls_108 : decode cX8_calls 108 = .ok (.iload_n 1, 1) := by decide +kernel
theorem dX8_calls_109 : decode cX8_calls 109 = .ok (.iaload, 1) := by decide +kernel
theorem dX8_calls_110 : decode cX8_calls 110 = .ok (.if_icmp .ge 180, 3) := by decide +kernel
theorem dX8_calls_113 : decode cX8_calls 113 = .ok (.aload_n 0, 1) := by decide +kernel
theorem dX8_calls_114 : decode cX8_calls 114 = .ok (.getfield 73, 3) := by decide +kernel
theorem dX8_calls_117 : decode cX8_calls 117 = .ok (.bipush 40, 2) := by decide +kernel
theorem dX8_calls_119 : decode cX8_calls 119 = .ok (.iload_n 1, 1) := by decide +kernel
theorem dX8_calls_120 : decode cX8_calls 120 = .ok (.imul, 1) := by decide +kernel
theorem dX8_calls_121 : decode cX8_calls 121 = .ok (.iload 6, 2) := by decide +kernel
theorem dX8_calls_123 : decode cX8_calls 123 = .ok (.iadd, 1) := by decide +kernel
theorem dX8_calls_124 : decode cX8_calls 124 = .ok (.laload, 1) := by decide +kernel
theorem dX8_calls_125 : decode cX8_calls 125 = .ok (.l2i, 1) := by decide +kernel
theorem dX8_calls_126 : decode cX8_calls 126 = .ok (.istore 7, 2) := by decide +kernel
theorem dX8_calls_128 : decode cX8_calls 128 = .ok (.aload_n 0, 1) := by decide +kernel
theorem dX8_calls_129 : decode cX8_calls 129 = .ok (.getfield 61, 3) := by decide +kernel
theorem dX8_calls_132 : decode cX8_calls 132 = .ok (.iload 6, 2) := by decide +kernel
theorem dX8_calls_134 : decode cX8_calls 134 = .ok (.iconst (-1), 1) := by decide +kernel
theorem dX8_calls_135 : decode cX8_calls 135 = .ok (.iastore, 1) := by decide +kernel
theorem dX8_calls_136 : decode cX8_calls 136 = .ok (.aload_n 0, 1) := by decide +kernel
theorem dX8_calls_137 : decode cX8_calls 137 = .ok (.iload 7, 2) := by decide +kernel
theorem dX8_calls_139 : decode cX8_calls 139 = .ok (.bipush 20, 2) := by decide +kernel
theorem dX8_calls_141 : decode cX8_calls 141 = .ok (.idiv, 1) := by decide +kernel
theorem dX8_calls_142 : decode cX8_calls 142 = .ok (.iload 7, 2) := by decide +kernel
theorem dX8_calls_144 : decode cX8_calls 144 = .ok (.bipush 20, 2) := by decide +kernel
theorem dX8_calls_146 : decode cX8_calls 146 = .ok (.irem, 1) := by decide +kernel
theorem dX8_calls_147 : decode cX8_calls 147 = .ok (.iconst 0, 1) := by decide +kernel
theorem dX8_calls_148 : decode cX8_calls 148 = .ok (.aload_n 0, 1) := by decide +kernel
theorem dX8_calls_149 : decode cX8_calls 149 = .ok (.getfield 13, 3) := by decide +kernel
theorem dX8_calls_152 : decode cX8_calls 152 = .ok (.iconst 1, 1) := by decide +kernel
theorem dX8_calls_153 : decode cX8_calls 153 = .ok (.iaload, 1) := by decide +kernel
theorem dX8_calls_154 : decode cX8_calls 154 = .ok (.invokevirtual 270, 3) := by decide +kernel
theorem dX8_calls_157 : decode cX8_calls 157 = .ok (.ifCond .ne 6, 3) := by decide +kernel
theorem dX8_calls_160 : decode cX8_calls 160 = .ok (.goto 124, 3) := by decide +kernel
theorem dX8_calls_163 : decode cX8_calls 163 = .ok (.aload_n 0, 1) := by decide +kernel
theorem dX8_calls_164 : decode cX8_calls 164 = .ok (.iload 7, 2) := by decide +kernel
theorem dX8_calls_166 : decode cX8_calls 166 = .ok (.bipush 20, 2) := by decide +kernel
theorem dX8_calls_168 : decode cX8_calls 168 = .ok (.idiv, 1) := by decide +kernel
theorem dX8_calls_169 : decode cX8_calls 169 = .ok (.iconst 0, 1) := by decide +kernel
theorem dX8_calls_170 : decode cX8_calls 170 = .ok (.invokevirtual 266, 3) := by decide +kernel
theorem dX8_calls_173 : decode cX8_calls 173 = .ok (.iconst 0, 1) := by decide +kernel
theorem dX8_calls_174 : decode cX8_calls 174 = .ok (.istore 8, 2) := by decide +kernel
theorem dX8_calls_176 : decode cX8_calls 176 = .ok (.aload_n 0, 1) := by decide +kernel
theorem dX8_calls_177 : decode cX8_calls 177 = .ok (.iload 8, 2) := by decide +kernel
theorem dX8_calls_179 : decode cX8_calls 179 = .ok (.invokevirtual 316, 3) := by decide +kernel
theorem dX8_calls_182 : decode cX8_calls 182 = .ok (.ifCond .ne 9, 3) := by decide +kernel
theorem dX8_calls_185 : decode cX8_calls 185 = .ok (.iinc 8 1, 3) := by decide +kernel
theorem dX8_calls_188 : decode cX8_calls 188 = .ok (.goto (-12), 3) := by decide +kernel
theorem dX8_calls_191 : decode cX8_calls 191 = .ok (.iconst 0, 1) := by decide +kernel
theorem dX8_calls_192 : decode cX8_calls 192 = .ok (.istore 9, 2) := by decide +kernel
theorem dX8_calls_194 : decode cX8_calls 194 = .ok (.iload 9, 2) := by decide +kernel
theorem dX8_calls_196 : decode cX8_calls 196 = .ok (.aload_n 0, 1) := by decide +kernel
theorem dX8_calls_197 : decode cX8_calls 197 = .ok (.getfield 252, 3) := by decide +kernel
theorem dX8_calls_200 : decode cX8_calls 200 = .ok (.if_icmp .ge 39, 3) := by decide +kernel
theorem dX8_calls_203 : decode cX8_calls 203 = .ok (.aload_n 0, 1) := by decide +kernel
theorem dX8_calls_204 : decode cX8_calls 204 = .ok (.getfield 58, 3) := by decide +kernel
theorem dX8_calls_207 : decode cX8_calls 207 = .ok (.aload_n 0, 1) := by decide +kernel
theorem dX8_calls_208 : decode cX8_calls 208 = .ok (.getfield 36, 3) := by decide +kernel
theorem dX8_calls_211 : decode cX8_calls 211 = .ok (.iload 9, 2) := by decide +kernel
theorem dX8_calls_213 : decode cX8_calls 213 = .ok (.iaload, 1) := by decide +kernel
theorem dX8_calls_214 : decode cX8_calls 214 = .ok (.aload_n 0, 1) := by decide +kernel
theorem dX8_calls_215 : decode cX8_calls 215 = .ok (.getfield 36, 3) := by decide +kernel
theorem dX8_calls_218 : decode cX8_calls 218 = .ok (.iload 9, 2) := by decide +kernel
theorem dX8_calls_220 : decode cX8_calls 220 = .ok (.iconst 1, 1) := by decide +kernel
theorem dX8_calls_221 : decode cX8_calls 221 = .ok (.iadd, 1) := by decide +kernel
theorem dX8_calls_222 : decode cX8_calls 222 = .ok (.iaload, 1) := by decide +kernel
theorem dX8_calls_223 : decode cX8_calls 223 = .ok (.iload 8, 2) := by decide +kernel
theorem dX8_calls_225 : decode cX8_calls 225 = .ok (.iload 9, 2) := by decide +kernel
theorem dX8_calls_227 : decode cX8_calls 227 = .ok (.iadd, 1) := by decide +kernel
theorem dX8_calls_228 : decode cX8_calls 228 = .ok (.invokestatic 310, 3) := by decide +kernel
theorem dX8_calls_231 : decode cX8_calls 231 = .ok (.iconst 1, 1) := by decide +kernel
theorem dX8_calls_232 : decode cX8_calls 232 = .ok (.bastore, 1) := by decide +kernel
theorem dX8_calls_233 : decode cX8_calls 233 = .ok (.iinc 9 1, 3) := by decide +kernel
theorem dX8_calls_236 : decode cX8_calls 236 = .ok (.goto (-42), 3) := by decide +kernel
theorem dX8_calls_239 : decode cX8_calls 239 = .ok (.aload_n 0, 1) := by decide +kernel
theorem dX8_calls_240 : decode cX8_calls 240 = .ok (.getfield 61, 3) := by decide +kernel
theorem dX8_calls_243 : decode cX8_calls 243 = .ok (.iload 6, 2) := by decide +kernel
theorem dX8_calls_245 : decode cX8_calls 245 = .ok (.iload 8, 2) := by decide +kernel
theorem dX8_calls_247 : decode cX8_calls 247 = .ok (.iastore, 1) := by decide +kernel
theorem dX8_calls_248 : decode cX8_calls 248 = .ok (.iinc 3 1, 3) := by decide +kernel
theorem dX8_calls_251 : decode cX8_calls 251 = .ok (.iload 5, 2) := by decide +kernel
theorem dX8_calls_253 : decode cX8_calls 253 = .ok (.iload 8, 2) := by decide +kernel
theorem dX8_calls_255 : decode cX8_calls 255 = .ok (.iadd, 1) := by decide +kernel
theorem dX8_calls_256 : decode cX8_calls 256 = .ok (.istore 5, 2) := by decide +kernel
theorem dX8_calls_258 : decode cX8_calls 258 = .ok (.iload 8, 2) := by decide +kernel
theorem dX8_calls_260 : decode cX8_calls 260 = .ok (.aload_n 0, 1) := by decide +kernel
theorem dX8_calls_261 : decode cX8_calls 261 = .ok (.getfield 252, 3) := by decide +kernel
theorem dX8_calls_264 : decode cX8_calls 264 = .ok (.iadd, 1) := by decide +kernel
theorem dX8_calls_265 : decode cX8_calls 265 = .ok (.iload 4, 2) := by decide +kernel
theorem dX8_calls_267 : decode cX8_calls 267 = .ok (.if_icmp .le 13, 3) := by decide +kernel
theorem dX8_calls_270 : decode cX8_calls 270 = .ok (.iload 8, 2) := by decide +kernel
theorem dX8_calls_272 : decode cX8_calls 272 = .ok (.aload_n 0, 1) := by decide +kernel
theorem dX8_calls_273 : decode cX8_calls 273 = .ok (.getfield 252, 3) := by decide +kernel
theorem dX8_calls_276 : decode cX8_calls 276 = .ok (.iadd, 1) := by decide +kernel
theorem dX8_calls_277 : decode cX8_calls 277 = .ok (.goto 5, 3) := by decide +kernel
theorem dX8_calls_280 : decode cX8_calls 280 = .ok (.iload 4, 2) := by decide +kernel
theorem dX8_calls_282 : decode cX8_calls 282 = .ok (.istore 4, 2) := by decide +kernel
theorem dX8_calls_284 : decode cX8_calls 284 = .ok (.iinc 6 1, 3) := by decide +kernel
theorem dX8_calls_287 : decode cX8_calls 287 = .ok (.goto (-185), 3) := by decide +kernel
theorem dX8_calls_290 : decode cX8_calls 290 = .ok (.iload_n 2, 1) := by decide +kernel
theorem dX8_calls_291 : decode cX8_calls 291 = .ok (.ifCond .ne 7, 3) := by decide +kernel
theorem dX8_calls_294 : decode cX8_calls 294 = .ok (.iload_n 3, 1) := by decide +kernel
theorem dX8_calls_295 : decode cX8_calls 295 = .ok (.goto 49, 3) := by decide +kernel
theorem dX8_calls_298 : decode cX8_calls 298 = .ok (.iload_n 2, 1) := by decide +kernel
theorem dX8_calls_299 : decode cX8_calls 299 = .ok (.iconst 1, 1) := by decide +kernel
theorem dX8_calls_300 : decode cX8_calls 300 = .ok (.if_icmp .ne 8, 3) := by decide +kernel
theorem dX8_calls_303 : decode cX8_calls 303 = .ok (.iload 4, 2) := by decide +kernel
theorem dX8_calls_305 : decode cX8_calls 305 = .ok (.goto 39, 3) := by decide +kernel
theorem dX8_calls_308 : decode cX8_calls 308 = .ok (.iload_n 2, 1) := by decide +kernel
theorem dX8_calls_309 : decode cX8_calls 309 = .ok (.iconst 2, 1) := by decide +kernel
theorem dX8_calls_310 : decode cX8_calls 310 = .ok (.if_icmp .ne 8, 3) := by decide +kernel
theorem dX8_calls_313 : decode cX8_calls 313 = .ok (.iload 5, 2) := by decide +kernel
theorem dX8_calls_315 : decode cX8_calls 315 = .ok (.goto 29, 3) := by decide +kernel
theorem dX8_calls_318 : decode cX8_calls 318 = .ok (.iload_n 2, 1) := by decide +kernel
theorem dX8_calls_319 : decode cX8_calls 319 = .ok (.bipush 10, 2) := by decide +kernel
theorem dX8_calls_321 : decode cX8_calls 321 = .ok (.isub, 1) := by decide +kernel
theorem dX8_calls_322 : decode cX8_calls 322 = .ok (.aload_n 0, 1) := by decide +kernel
theorem dX8_calls_323 : decode cX8_calls 323 = .ok (.getfield 70, 3) := by decide +kernel
theorem dX8_calls_326 : decode cX8_calls 326 = .ok (.iload_n 1, 1) := by decide +kernel
theorem dX8_calls_327 : decode cX8_calls 327 = .ok (.iaload, 1) := by decide +kernel
theorem dX8_calls_328 : decode cX8_calls 328 = .ok (.if_icmp .ge 15, 3) := by decide +kernel
theorem dX8_calls_331 : decode cX8_calls 331 = .ok (.aload_n 0, 1) := by decide +kernel
theorem dX8_calls_332 : decode cX8_calls 332 = .ok (.getfield 61, 3) := by decide +kernel
theorem dX8_calls_335 : decode cX8_calls 335 = .ok (.iload_n 2, 1) := by decide +kernel
theorem dX8_calls_336 : decode cX8_calls 336 = .ok (.bipush 10, 2) := by decide +kernel
theorem dX8_calls_338 : decode cX8_calls 338 = .ok (.isub, 1) := by decide +kernel
theorem dX8_calls_339 : decode cX8_calls 339 = .ok (.iaload, 1) := by decide +kernel
theorem dX8_calls_340 : decode cX8_calls 340 = .ok (.goto 4, 3) := by decide +kernel
theorem dX8_calls_343 : decode cX8_calls 343 = .ok (.iconst (-1), 1) := by decide +kernel
theorem dX8_calls_344 : decode cX8_calls 344 = .ok (.ireturn, 1) := by decide +kernel
theorem dX8_laysEchoes_0 : decode cX8_laysEchoes 0 = .ok (.iconst 0, 1) := by decide +kernel
theorem dX8_laysEchoes_1 : decode cX8_laysEchoes 1 = .ok (.istore_n 2, 1) := by decide +kernel
theorem dX8_laysEchoes_2 : decode cX8_laysEchoes 2 = .ok (.iload_n 2, 1) := by decide +kernel
theorem dX8_laysEchoes_3 : decode cX8_laysEchoes 3 = .ok (.bipush 12, 2) := by decide +kernel
theorem dX8_laysEchoes_5 : decode cX8_laysEchoes 5 = .ok (.if_icmp .ge 25, 3) := by decide +kernel
theorem dX8_laysEchoes_8 : decode cX8_laysEchoes 8 = .ok (.aload_n 0, 1) := by decide +kernel
theorem dX8_laysEchoes_9 : decode cX8_laysEchoes 9 = .ok (.getfield 64, 3) := by decide +kernel
theorem dX8_laysEchoes_12 : decode cX8_laysEchoes 12 = .ok (.iload_n 2, 1) := by decide +kernel
theorem dX8_laysEchoes_13 : decode cX8_laysEchoes 13 = .ok (.iload_n 2, 1) := by decide +kernel
theorem dX8_laysEchoes_14 : decode cX8_laysEchoes 14 = .ok (.iload_n 1, 1) := by decide +kernel
theorem dX8_laysEchoes_15 : decode cX8_laysEchoes 15 = .ok (.if_icmp .ne 7, 3) := by decide +kernel
theorem dX8_laysEchoes_18 : decode cX8_laysEchoes 18 = .ok (.iconst 0, 1) := by decide +kernel
theorem dX8_laysEchoes_19 : decode cX8_laysEchoes 19 = .ok (.goto 4, 3) := by decide +kernel
theorem dX8_laysEchoes_22 : decode cX8_laysEchoes 22 = .ok (.iconst (-1), 1) := by decide +kernel
theorem dX8_laysEchoes_23 : decode cX8_laysEchoes 23 = .ok (.iastore, 1) := by decide +kernel
theorem dX8_laysEchoes_24 : decode cX8_laysEchoes 24 = .ok (.iinc 2 1, 3) := by decide +kernel
theorem dX8_laysEchoes_27 : decode cX8_laysEchoes 27 = .ok (.goto (-25), 3) := by decide +kernel
theorem dX8_laysEchoes_30 : decode cX8_laysEchoes 30 = .ok (.iconst 1, 1) := by decide +kernel
theorem dX8_laysEchoes_31 : decode cX8_laysEchoes 31 = .ok (.istore_n 2, 1) := by decide +kernel
theorem dX8_laysEchoes_32 : decode cX8_laysEchoes 32 = .ok (.iload_n 2, 1) := by decide +kernel
theorem dX8_laysEchoes_33 : decode cX8_laysEchoes 33 = .ok (.aload_n 0, 1) := by decide +kernel
theorem dX8_laysEchoes_34 : decode cX8_laysEchoes 34 = .ok (.getfield 13, 3) := by decide +kernel
theorem dX8_laysEchoes_37 : decode cX8_laysEchoes 37 = .ok (.iconst 0, 1) := by decide +kernel
theorem dX8_laysEchoes_38 : decode cX8_laysEchoes 38 = .ok (.iaload, 1) := by decide +kernel
theorem dX8_laysEchoes_39 : decode cX8_laysEchoes 39 = .ok (.if_icmp .ge 99, 3) := by decide +kernel
theorem dX8_laysEchoes_42 : decode cX8_laysEchoes 42 = .ok (.iconst 0, 1) := by decide +kernel
theorem dX8_laysEchoes_43 : decode cX8_laysEchoes 43 = .ok (.istore_n 3, 1) := by decide +kernel
theorem dX8_laysEchoes_44 : decode cX8_laysEchoes 44 = .ok (.iload_n 3, 1) := by decide +kernel
theorem dX8_laysEchoes_45 : decode cX8_laysEchoes 45 = .ok (.aload_n 0, 1) := by decide +kernel
theorem dX8_laysEchoes_46 : decode cX8_laysEchoes 46 = .ok (.getfield 13, 3) := by decide +kernel
theorem dX8_laysEchoes_49 : decode cX8_laysEchoes 49 = .ok (.iconst 0, 1) := by decide +kernel
theorem dX8_laysEchoes_50 : decode cX8_laysEchoes 50 = .ok (.iaload, 1) := by decide +kernel
theorem dX8_laysEchoes_51 : decode cX8_laysEchoes 51 = .ok (.if_icmp .ge 81, 3) := by decide +kernel
theorem dX8_laysEchoes_54 : decode cX8_laysEchoes 54 = .ok (.aload_n 0, 1) := by decide +kernel
theorem dX8_laysEchoes_55 : decode cX8_laysEchoes 55 = .ok (.getfield 64, 3) := by decide +kernel
theorem dX8_laysEchoes_58 : decode cX8_laysEchoes 58 = .ok (.iload_n 3, 1) := by decide +kernel
theorem dX8_laysEchoes_59 : decode cX8_laysEchoes 59 = .ok (.iaload, 1) := by decide +kernel
theorem dX8_laysEchoes_60 : decode cX8_laysEchoes 60 = .ok (.iload_n 2, 1) := by decide +kernel
theorem dX8_laysEchoes_61 : decode cX8_laysEchoes 61 = .ok (.iconst 1, 1) := by decide +kernel
theorem dX8_laysEchoes_62 : decode cX8_laysEchoes 62 = .ok (.isub, 1) := by decide +kernel
theorem dX8_laysEchoes_63 : decode cX8_laysEchoes 63 = .ok (.if_icmp .eq 6, 3) := by decide +kernel
theorem dX8_laysEchoes_66 : decode cX8_laysEchoes 66 = .ok (.goto 60, 3) := by decide +kernel
theorem dX8_laysEchoes_69 : decode cX8_laysEchoes 69 = .ok (.aload_n 0, 1) := by decide +kernel
theorem dX8_laysEchoes_70 : decode cX8_laysEchoes 70 = .ok (.iload_n 3, 1) := by decide +kernel
theorem dX8_laysEchoes_71 : decode cX8_laysEchoes 71 = .ok (.invokevirtual 216, 3) := by decide +kernel
theorem dX8_laysEchoes_74 : decode cX8_laysEchoes 74 = .ok (.istore 4, 2) := by decide +kernel
theorem dX8_laysEchoes_76 : decode cX8_laysEchoes 76 = .ok (.iconst 0, 1) := by decide +kernel
theorem dX8_laysEchoes_77 : decode cX8_laysEchoes 77 = .ok (.istore 5, 2) := by decide +kernel
theorem dX8_laysEchoes_79 : decode cX8_laysEchoes 79 = .ok (.iload 5, 2) := by decide +kernel
theorem dX8_laysEchoes_81 : decode cX8_laysEchoes 81 = .ok (.aload_n 0, 1) := by decide +kernel
theorem dX8_laysEchoes_82 : decode cX8_laysEchoes 82 = .ok (.getfield 13, 3) := by decide +kernel
theorem dX8_laysEchoes_85 : decode cX8_laysEchoes 85 = .ok (.iconst 0, 1) := by decide +kernel
theorem dX8_laysEchoes_86 : decode cX8_laysEchoes 86 = .ok (.iaload, 1) := by decide +kernel
theorem dX8_laysEchoes_87 : decode cX8_laysEchoes 87 = .ok (.if_icmp .ge 39, 3) := by decide +kernel
theorem dX8_laysEchoes_90 : decode cX8_laysEchoes 90 = .ok (.iload 4, 2) := by decide +kernel
theorem dX8_laysEchoes_92 : decode cX8_laysEchoes 92 = .ok (.iload 5, 2) := by decide +kernel
theorem dX8_laysEchoes_94 : decode cX8_laysEchoes 94 = .ok (.ishr, 1) := by decide +kernel
theorem dX8_laysEchoes_95 : decode cX8_laysEchoes 95 = .ok (.iconst 1, 1) := by decide +kernel
theorem dX8_laysEchoes_96 : decode cX8_laysEchoes 96 = .ok (.iand, 1) := by decide +kernel
theorem dX8_laysEchoes_97 : decode cX8_laysEchoes 97 = .ok (.iconst 1, 1) := by decide +kernel
theorem dX8_laysEchoes_98 : decode cX8_laysEchoes 98 = .ok (.if_icmp .ne 22, 3) := by decide +kernel
theorem dX8_laysEchoes_101 : decode cX8_laysEchoes 101 = .ok (.aload_n 0, 1) := by decide +kernel
theorem dX8_laysEchoes_102 : decode cX8_laysEchoes 102 = .ok (.getfield 64, 3) := by decide +kernel
theorem dX8_laysEchoes_105 : decode cX8_laysEchoes 105 = .ok (.iload 5, 2) := by decide +kernel
theorem dX8_laysEchoes_107 : decode cX8_laysEchoes 107 = .ok (.iaload, 1) := by decide +kernel
theorem dX8_laysEchoes_108 : decode cX8_laysEchoes 108 = .ok (.iconst (-1), 1) := by decide +kernel
theorem dX8_laysEchoes_109 : decode cX8_laysEchoes 109 = .ok (.if_icmp .ne 11, 3) := by decide +kernel
theorem dX8_laysEchoes_112 : decode cX8_laysEchoes 112 = .ok (.aload_n 0, 1) := by decide +kernel
theorem dX8_laysEchoes_113 : decode cX8_laysEchoes 113 = .ok (.getfield 64, 3) := by decide +kernel
theorem dX8_laysEchoes_116 : decode cX8_laysEchoes 116 = .ok (.iload 5, 2) := by decide +kernel
theorem dX8_laysEchoes_118 : decode cX8_laysEchoes 118 = .ok (.iload_n 2, 1) := by decide +kernel
theorem dX8_laysEchoes_119 : decode cX8_laysEchoes 119 = .ok (.iastore, 1) := by decide +kernel
theorem dX8_laysEchoes_120 : decode cX8_laysEchoes 120 = .ok (.iinc 5 1, 3) := by decide +kernel
theorem dX8_laysEchoes_123 : decode cX8_laysEchoes 123 = .ok (.goto (-44), 3) := by decide +kernel
theorem dX8_laysEchoes_126 : decode cX8_laysEchoes 126 = .ok (.iinc 3 1, 3) := by decide +kernel
theorem dX8_laysEchoes_129 : decode cX8_laysEchoes 129 = .ok (.goto (-85), 3) := by decide +kernel
theorem dX8_laysEchoes_132 : decode cX8_laysEchoes 132 = .ok (.iinc 2 1, 3) := by decide +kernel
theorem dX8_laysEchoes_135 : decode cX8_laysEchoes 135 = .ok (.goto (-103), 3) := by decide +kernel
theorem dX8_laysEchoes_138 : decode cX8_laysEchoes 138 = .ok (.return_, 1) := by decide +kernel
theorem dX8_echo_0 : decode cX8_echo 0 = .ok (.aload_n 0, 1) := by decide +kernel
theorem dX8_echo_1 : decode cX8_echo 1 = .ok (.iconst 0, 1) := by decide +kernel
theorem dX8_echo_2 : decode cX8_echo 2 = .ok (.putfield 1, 3) := by decide +kernel
theorem dX8_echo_5 : decode cX8_echo 5 = .ok (.aload_n 0, 1) := by decide +kernel
theorem dX8_echo_6 : decode cX8_echo 6 = .ok (.iload_n 1, 1) := by decide +kernel
theorem dX8_echo_7 : decode cX8_echo 7 = .ok (.i2l, 1) := by decide +kernel
theorem dX8_echo_8 : decode cX8_echo 8 = .ok (.invokevirtual 182, 3) := by decide +kernel
theorem dX8_echo_11 : decode cX8_echo 11 = .ok (.ifCond .eq 12, 3) := by decide +kernel
theorem dX8_echo_14 : decode cX8_echo 14 = .ok (.aload_n 0, 1) := by decide +kernel
theorem dX8_echo_15 : decode cX8_echo 15 = .ok (.iload_n 2, 1) := by decide +kernel
theorem dX8_echo_16 : decode cX8_echo 16 = .ok (.i2l, 1) := by decide +kernel
theorem dX8_echo_17 : decode cX8_echo 17 = .ok (.invokevirtual 182, 3) := by decide +kernel
theorem dX8_echo_20 : decode cX8_echo 20 = .ok (.ifCond .ne 6, 3) := by decide +kernel
theorem dX8_echo_23 : decode cX8_echo 23 = .ok (.bipush (-2), 2) := by decide +kernel
theorem dX8_echo_25 : decode cX8_echo 25 = .ok (.ireturn, 1) := by decide +kernel
theorem dX8_echo_26 : decode cX8_echo 26 = .ok (.aload_n 0, 1) := by decide +kernel
theorem dX8_echo_27 : decode cX8_echo 27 = .ok (.iload_n 1, 1) := by decide +kernel
theorem dX8_echo_28 : decode cX8_echo 28 = .ok (.invokevirtual 319, 3) := by decide +kernel
theorem dX8_echo_31 : decode cX8_echo 31 = .ok (.aload_n 0, 1) := by decide +kernel
theorem dX8_echo_32 : decode cX8_echo 32 = .ok (.getfield 64, 3) := by decide +kernel
theorem dX8_echo_35 : decode cX8_echo 35 = .ok (.iload_n 2, 1) := by decide +kernel
theorem dX8_echo_36 : decode cX8_echo 36 = .ok (.iaload, 1) := by decide +kernel
theorem dX8_echo_37 : decode cX8_echo 37 = .ok (.ireturn, 1) := by decide +kernel
theorem dX8_isAsTold_0 : decode cX8_isAsTold 0 = .ok (.aload_n 0, 1) := by decide +kernel
theorem dX8_isAsTold_1 : decode cX8_isAsTold 1 = .ok (.iload_n 1, 1) := by decide +kernel
theorem dX8_isAsTold_2 : decode cX8_isAsTold 2 = .ok (.invokevirtual 319, 3) := by decide +kernel
theorem dX8_isAsTold_5 : decode cX8_isAsTold 5 = .ok (.iconst 0, 1) := by decide +kernel
theorem dX8_isAsTold_6 : decode cX8_isAsTold 6 = .ok (.istore_n 3, 1) := by decide +kernel
theorem dX8_isAsTold_7 : decode cX8_isAsTold 7 = .ok (.iload_n 3, 1) := by decide +kernel
theorem dX8_isAsTold_8 : decode cX8_isAsTold 8 = .ok (.aload_n 0, 1) := by decide +kernel
theorem dX8_isAsTold_9 : decode cX8_isAsTold 9 = .ok (.getfield 13, 3) := by decide +kernel
theorem dX8_isAsTold_12 : decode cX8_isAsTold 12 = .ok (.iconst 0, 1) := by decide +kernel
theorem dX8_isAsTold_13 : decode cX8_isAsTold 13 = .ok (.iaload, 1) := by decide +kernel
theorem dX8_isAsTold_14 : decode cX8_isAsTold 14 = .ok (.if_icmp .ge 33, 3) := by decide +kernel
theorem dX8_isAsTold_17 : decode cX8_isAsTold 17 = .ok (.aload_n 0, 1) := by decide +kernel
theorem dX8_isAsTold_18 : decode cX8_isAsTold 18 = .ok (.getfield 64, 3) := by decide +kernel
theorem dX8_isAsTold_21 : decode cX8_isAsTold 21 = .ok (.iload_n 3, 1) := by decide +kernel
theorem dX8_isAsTold_22 : decode cX8_isAsTold 22 = .ok (.iaload, 1) := by decide +kernel
theorem dX8_isAsTold_23 : decode cX8_isAsTold 23 = .ok (.i2l, 1) := by decide +kernel
theorem dX8_isAsTold_24 : decode cX8_isAsTold 24 = .ok (.aload_n 0, 1) := by decide +kernel
theorem dX8_isAsTold_25 : decode cX8_isAsTold 25 = .ok (.getfield 73, 3) := by decide +kernel
theorem dX8_isAsTold_28 : decode cX8_isAsTold 28 = .ok (.bipush 40, 2) := by decide +kernel
theorem dX8_isAsTold_30 : decode cX8_isAsTold 30 = .ok (.iload_n 2, 1) := by decide +kernel
theorem dX8_isAsTold_31 : decode cX8_isAsTold 31 = .ok (.imul, 1) := by decide +kernel
theorem dX8_isAsTold_32 : decode cX8_isAsTold 32 = .ok (.iload_n 3, 1) := by decide +kernel
theorem dX8_isAsTold_33 : decode cX8_isAsTold 33 = .ok (.iadd, 1) := by decide +kernel
theorem dX8_isAsTold_34 : decode cX8_isAsTold 34 = .ok (.laload, 1) := by decide +kernel
theorem dX8_isAsTold_35 : decode cX8_isAsTold 35 = .ok (.lcmp, 1) := by decide +kernel
theorem dX8_isAsTold_36 : decode cX8_isAsTold 36 = .ok (.ifCond .eq 5, 3) := by decide +kernel
theorem dX8_isAsTold_39 : decode cX8_isAsTold 39 = .ok (.iconst 0, 1) := by decide +kernel
theorem dX8_isAsTold_40 : decode cX8_isAsTold 40 = .ok (.ireturn, 1) := by decide +kernel
theorem dX8_isAsTold_41 : decode cX8_isAsTold 41 = .ok (.iinc 3 1, 3) := by decide +kernel
theorem dX8_isAsTold_44 : decode cX8_isAsTold 44 = .ok (.goto (-37), 3) := by decide +kernel
theorem dX8_isAsTold_47 : decode cX8_isAsTold 47 = .ok (.iconst 1, 1) := by decide +kernel
theorem dX8_isAsTold_48 : decode cX8_isAsTold 48 = .ok (.ireturn, 1) := by decide +kernel
theorem dX8_firstBy_0 : decode cX8_firstBy 0 = .ok (.iconst 0, 1) := by decide +kernel
theorem dX8_firstBy_1 : decode cX8_firstBy 1 = .ok (.istore 4, 2) := by decide +kernel
theorem dX8_firstBy_3 : decode cX8_firstBy 3 = .ok (.iload 4, 2) := by decide +kernel
theorem dX8_firstBy_5 : decode cX8_firstBy 5 = .ok (.aload_n 0, 1) := by decide +kernel
theorem dX8_firstBy_6 : decode cX8_firstBy 6 = .ok (.getfield 13, 3) := by decide +kernel
theorem dX8_firstBy_9 : decode cX8_firstBy 9 = .ok (.iconst 0, 1) := by decide +kernel
theorem dX8_firstBy_10 : decode cX8_firstBy 10 = .ok (.iaload, 1) := by decide +kernel
theorem dX8_firstBy_11 : decode cX8_firstBy 11 = .ok (.if_icmp .ge 151, 3) := by decide +kernel
theorem dX8_firstBy_14 : decode cX8_firstBy 14 = .ok (.iload 4, 2) := by decide +kernel
theorem dX8_firstBy_16 : decode cX8_firstBy 16 = .ok (.iconst 1, 1) := by decide +kernel
theorem dX8_firstBy_17 : decode cX8_firstBy 17 = .ok (.iadd, 1) := by decide +kernel
theorem dX8_firstBy_18 : decode cX8_firstBy 18 = .ok (.istore 5, 2) := by decide +kernel
theorem dX8_firstBy_20 : decode cX8_firstBy 20 = .ok (.iload 5, 2) := by decide +kernel
theorem dX8_firstBy_22 : decode cX8_firstBy 22 = .ok (.aload_n 0, 1) := by decide +kernel
theorem dX8_firstBy_23 : decode cX8_firstBy 23 = .ok (.getfield 13, 3) := by decide +kernel
theorem dX8_firstBy_26 : decode cX8_firstBy 26 = .ok (.iconst 0, 1) := by decide +kernel
theorem dX8_firstBy_27 : decode cX8_firstBy 27 = .ok (.iaload, 1) := by decide +kernel
theorem dX8_firstBy_28 : decode cX8_firstBy 28 = .ok (.if_icmp .ge 128, 3) := by decide +kernel
theorem dX8_firstBy_31 : decode cX8_firstBy 31 = .ok (.aload_n 0, 1) := by decide +kernel
theorem dX8_firstBy_32 : decode cX8_firstBy 32 = .ok (.iload 4, 2) := by decide +kernel
theorem dX8_firstBy_34 : decode cX8_firstBy 34 = .ok (.iload 5, 2) := by decide +kernel
theorem dX8_firstBy_36 : decode cX8_firstBy 36 = .ok (.invokevirtual 228, 3) := by decide +kernel
theorem dX8_firstBy_39 : decode cX8_firstBy 39 = .ok (.ifCond .ne 111, 3) := by decide +kernel
theorem dX8_firstBy_42 : decode cX8_firstBy 42 = .ok (.iload_n 3, 1) := by decide +kernel
theorem dX8_firstBy_43 : decode cX8_firstBy 43 = .ok (.ifCond .eq 17, 3) := by decide +kernel
theorem dX8_firstBy_46 : decode cX8_firstBy 46 = .ok (.aload_n 0, 1) := by decide +kernel
theorem dX8_firstBy_47 : decode cX8_firstBy 47 = .ok (.iload 4, 2) := by decide +kernel
theorem dX8_firstBy_49 : decode cX8_firstBy 49 = .ok (.iload 5, 2) := by decide +kernel
theorem dX8_firstBy_51 : decode cX8_firstBy 51 = .ok (.invokevirtual 201, 3) := by decide +kernel
theorem dX8_firstBy_54 : decode cX8_firstBy 54 = .ok (.ifCond .ne 23, 3) := by decide +kernel
theorem dX8_firstBy_57 : decode cX8_firstBy 57 = .ok (.goto 93, 3) := by decide +kernel
theorem dX8_firstBy_60 : decode cX8_firstBy 60 = .ok (.aload_n 0, 1) := by decide +kernel
theorem dX8_firstBy_61 : decode cX8_firstBy 61 = .ok (.getfield 13, 3) := by decide +kernel
theorem dX8_firstBy_64 : decode cX8_firstBy 64 = .ok (.iload 4, 2) := by decide +kernel
theorem dX8_firstBy_66 : decode cX8_firstBy 66 = .ok (.iload 5, 2) := by decide +kernel
theorem dX8_firstBy_68 : decode cX8_firstBy 68 = .ok (.invokestatic 154, 3) := by decide +kernel
theorem dX8_firstBy_71 : decode cX8_firstBy 71 = .ok (.ifCond .eq 6, 3) := by decide +kernel
theorem dX8_firstBy_74 : decode cX8_firstBy 74 = .ok (.goto 76, 3) := by decide +kernel
theorem dX8_firstBy_77 : decode cX8_firstBy 77 = .ok (.aload_n 0, 1) := by decide +kernel
theorem dX8_firstBy_78 : decode cX8_firstBy 78 = .ok (.getfield 13, 3) := by decide +kernel
theorem dX8_firstBy_81 : decode cX8_firstBy 81 = .ok (.bipush 42, 2) := by decide +kernel
theorem dX8_firstBy_83 : decode cX8_firstBy 83 = .ok (.bipush 12, 2) := by decide +kernel
theorem dX8_firstBy_85 : decode cX8_firstBy 85 = .ok (.iload 4, 2) := by decide +kernel
theorem dX8_firstBy_87 : decode cX8_firstBy 87 = .ok (.imul, 1) := by decide +kernel
theorem dX8_firstBy_88 : decode cX8_firstBy 88 = .ok (.iadd, 1) := by decide +kernel
theorem dX8_firstBy_89 : decode cX8_firstBy 89 = .ok (.iload 5, 2) := by decide +kernel
theorem dX8_firstBy_91 : decode cX8_firstBy 91 = .ok (.iadd, 1) := by decide +kernel
theorem dX8_firstBy_92 : decode cX8_firstBy 92 = .ok (.iaload, 1) := by decide +kernel
theorem dX8_firstBy_93 : decode cX8_firstBy 93 = .ok (.istore 6, 2) := by decide +kernel
theorem dX8_firstBy_95 : decode cX8_firstBy 95 = .ok (.aload_n 0, 1) := by decide +kernel
theorem dX8_firstBy_96 : decode cX8_firstBy 96 = .ok (.getfield 13, 3) := by decide +kernel
theorem dX8_firstBy_99 : decode cX8_firstBy 99 = .ok (.iload 4, 2) := by decide +kernel
theorem dX8_firstBy_101 : decode cX8_firstBy 101 = .ok (.iload 5, 2) := by decide +kernel
theorem dX8_firstBy_103 : decode cX8_firstBy 103 = .ok (.iload_n 3, 1) := by decide +kernel
theorem dX8_firstBy_104 : decode cX8_firstBy 104 = .ok (.ifCond .eq 7, 3) := by decide +kernel
theorem dX8_firstBy_107 : decode cX8_firstBy 107 = .ok (.iconst 0, 1) := by decide +kernel
theorem dX8_firstBy_108 : decode cX8_firstBy 108 = .ok (.goto 4, 3) := by decide +kernel
theorem dX8_firstBy_111 : decode cX8_firstBy 111 = .ok (.iconst 1, 1) := by decide +kernel
theorem dX8_firstBy_112 : decode cX8_firstBy 112 = .ok (.invokestatic 158, 3) := by decide +kernel
theorem dX8_firstBy_115 : decode cX8_firstBy 115 = .ok (.aload_n 0, 1) := by decide +kernel
theorem dX8_firstBy_116 : decode cX8_firstBy 116 = .ok (.iload_n 1, 1) := by decide +kernel
theorem dX8_firstBy_117 : decode cX8_firstBy 117 = .ok (.iload_n 2, 1) := by decide +kernel
theorem dX8_firstBy_118 : decode cX8_firstBy 118 = .ok (.invokevirtual 322, 3) := by decide +kernel
theorem dX8_firstBy_121 : decode cX8_firstBy 121 = .ok (.istore 7, 2) := by decide +kernel
theorem dX8_firstBy_123 : decode cX8_firstBy 123 = .ok (.aload_n 0, 1) := by decide +kernel
theorem dX8_firstBy_124 : decode cX8_firstBy 124 = .ok (.getfield 13, 3) := by decide +kernel
theorem dX8_firstBy_127 : decode cX8_firstBy 127 = .ok (.iload 4, 2) := by decide +kernel
theorem dX8_firstBy_129 : decode cX8_firstBy 129 = .ok (.iload 5, 2) := by decide +kernel
theorem dX8_firstBy_131 : decode cX8_firstBy 131 = .ok (.iload 6, 2) := by decide +kernel
theorem dX8_firstBy_133 : decode cX8_firstBy 133 = .ok (.invokestatic 158, 3) := by decide +kernel
theorem dX8_firstBy_136 : decode cX8_firstBy 136 = .ok (.iload 7, 2) := by decide +kernel
theorem dX8_firstBy_138 : decode cX8_firstBy 138 = .ok (.ifCond .eq 12, 3) := by decide +kernel
theorem dX8_firstBy_141 : decode cX8_firstBy 141 = .ok (.bipush 20, 2) := by decide +kernel
theorem dX8_firstBy_143 : decode cX8_firstBy 143 = .ok (.iload 4, 2) := by decide +kernel
theorem dX8_firstBy_145 : decode cX8_firstBy 145 = .ok (.imul, 1) := by decide +kernel
theorem dX8_firstBy_146 : decode cX8_firstBy 146 = .ok (.iload 5, 2) := by decide +kernel
theorem dX8_firstBy_148 : decode cX8_firstBy 148 = .ok (.iadd, 1) := by decide +kernel
theorem dX8_firstBy_149 : decode cX8_firstBy 149 = .ok (.ireturn, 1) := by decide +kernel
theorem dX8_firstBy_150 : decode cX8_firstBy 150 = .ok (.iinc 5 1, 3) := by decide +kernel
theorem dX8_firstBy_153 : decode cX8_firstBy 153 = .ok (.goto (-133), 3) := by decide +kernel
theorem dX8_firstBy_156 : decode cX8_firstBy 156 = .ok (.iinc 4 1, 3) := by decide +kernel
theorem dX8_firstBy_159 : decode cX8_firstBy 159 = .ok (.goto (-156), 3) := by decide +kernel
theorem dX8_firstBy_162 : decode cX8_firstBy 162 = .ok (.iconst (-1), 1) := by decide +kernel
theorem dX8_firstBy_163 : decode cX8_firstBy 163 = .ok (.ireturn, 1) := by decide +kernel
theorem dX8_explained_0 : decode cX8_explained 0 = .ok (.aload_n 0, 1) := by decide +kernel
theorem dX8_explained_1 : decode cX8_explained 1 = .ok (.iconst 0, 1) := by decide +kernel
theorem dX8_explained_2 : decode cX8_explained 2 = .ok (.putfield 1, 3) := by decide +kernel
theorem dX8_explained_5 : decode cX8_explained 5 = .ok (.aload_n 0, 1) := by decide +kernel
theorem dX8_explained_6 : decode cX8_explained 6 = .ok (.iload_n 1, 1) := by decide +kernel
theorem dX8_explained_7 : decode cX8_explained 7 = .ok (.i2l, 1) := by decide +kernel
theorem dX8_explained_8 : decode cX8_explained 8 = .ok (.invokevirtual 182, 3) := by decide +kernel
theorem dX8_explained_11 : decode cX8_explained 11 = .ok (.ifCond .eq 25, 3) := by decide +kernel
theorem dX8_explained_14 : decode cX8_explained 14 = .ok (.iload_n 2, 1) := by decide +kernel
theorem dX8_explained_15 : decode cX8_explained 15 = .ok (.i2l, 1) := by decide +kernel
theorem dX8_explained_16 : decode cX8_explained 16 = .ok (.lconst 0, 1) := by decide +kernel
theorem dX8_explained_17 : decode cX8_explained 17 = .ok (.ldc2_w 214, 3) := by decide +kernel
theorem dX8_explained_20 : decode cX8_explained 20 = .ok (.invokestatic 137, 3) := by decide +kernel
theorem dX8_explained_23 : decode cX8_explained 23 = .ok (.ifCond .eq 13, 3) := by decide +kernel
theorem dX8_explained_26 : decode cX8_explained 26 = .ok (.iload_n 3, 1) := by decide +kernel
theorem dX8_explained_27 : decode cX8_explained 27 = .ok (.i2l, 1) := by decide +kernel
theorem dX8_explained_28 : decode cX8_explained 28 = .ok (.lconst 0, 1) := by decide +kernel
theorem dX8_explained_29 : decode cX8_explained 29 = .ok (.lconst 1, 1) := by decide +kernel
theorem dX8_explained_30 : decode cX8_explained 30 = .ok (.invokestatic 137, 3) := by decide +kernel
theorem dX8_explained_33 : decode cX8_explained 33 = .ok (.ifCond .ne 6, 3) := by decide +kernel
theorem dX8_explained_36 : decode cX8_explained 36 = .ok (.bipush (-2), 2) := by decide +kernel
theorem dX8_explained_38 : decode cX8_explained 38 = .ok (.ireturn, 1) := by decide +kernel
theorem dX8_explained_39 : decode cX8_explained 39 = .ok (.aload_n 0, 1) := by decide +kernel
theorem dX8_explained_40 : decode cX8_explained 40 = .ok (.getfield 67, 3) := by decide +kernel
theorem dX8_explained_43 : decode cX8_explained 43 = .ok (.iload_n 2, 1) := by decide +kernel
theorem dX8_explained_44 : decode cX8_explained 44 = .ok (.iaload, 1) := by decide +kernel
theorem dX8_explained_45 : decode cX8_explained 45 = .ok (.iconst (-1), 1) := by decide +kernel
theorem dX8_explained_46 : decode cX8_explained 46 = .ok (.if_icmp .ne 6, 3) := by decide +kernel
theorem dX8_explained_49 : decode cX8_explained 49 = .ok (.bipush (-6), 2) := by decide +kernel
theorem dX8_explained_51 : decode cX8_explained 51 = .ok (.ireturn, 1) := by decide +kernel
theorem dX8_explained_52 : decode cX8_explained 52 = .ok (.aload_n 0, 1) := by decide +kernel
theorem dX8_explained_53 : decode cX8_explained 53 = .ok (.getfield 70, 3) := by decide +kernel
theorem dX8_explained_56 : decode cX8_explained 56 = .ok (.iload_n 2, 1) := by decide +kernel
theorem dX8_explained_57 : decode cX8_explained 57 = .ok (.iaload, 1) := by decide +kernel
theorem dX8_explained_58 : decode cX8_explained 58 = .ok (.aload_n 0, 1) := by decide +kernel
theorem dX8_explained_59 : decode cX8_explained 59 = .ok (.getfield 13, 3) := by decide +kernel
theorem dX8_explained_62 : decode cX8_explained 62 = .ok (.iconst 0, 1) := by decide +kernel
theorem dX8_explained_63 : decode cX8_explained 63 = .ok (.iaload, 1) := by decide +kernel
theorem dX8_explained_64 : decode cX8_explained 64 = .ok (.if_icmp .eq 6, 3) := by decide +kernel
theorem dX8_explained_67 : decode cX8_explained 67 = .ok (.bipush (-7), 2) := by decide +kernel
theorem dX8_explained_69 : decode cX8_explained 69 = .ok (.ireturn, 1) := by decide +kernel
theorem dX8_explained_70 : decode cX8_explained 70 = .ok (.aload_n 0, 1) := by decide +kernel
theorem dX8_explained_71 : decode cX8_explained 71 = .ok (.iload_n 1, 1) := by decide +kernel
theorem dX8_explained_72 : decode cX8_explained 72 = .ok (.iload_n 2, 1) := by decide +kernel
theorem dX8_explained_73 : decode cX8_explained 73 = .ok (.invokevirtual 322, 3) := by decide +kernel
theorem dX8_explained_76 : decode cX8_explained 76 = .ok (.ifCond .eq 13, 3) := by decide +kernel
theorem dX8_explained_79 : decode cX8_explained 79 = .ok (.iload_n 3, 1) := by decide +kernel
theorem dX8_explained_80 : decode cX8_explained 80 = .ok (.ifCond .ne 7, 3) := by decide +kernel
theorem dX8_explained_83 : decode cX8_explained 83 = .ok (.iconst 0, 1) := by decide +kernel
theorem dX8_explained_84 : decode cX8_explained 84 = .ok (.goto 4, 3) := by decide +kernel
theorem dX8_explained_87 : decode cX8_explained 87 = .ok (.iconst (-1), 1) := by decide +kernel
theorem dX8_explained_88 : decode cX8_explained 88 = .ok (.ireturn, 1) := by decide +kernel
theorem dX8_explained_89 : decode cX8_explained 89 = .ok (.aload_n 0, 1) := by decide +kernel
theorem dX8_explained_90 : decode cX8_explained 90 = .ok (.iload_n 1, 1) := by decide +kernel
theorem dX8_explained_91 : decode cX8_explained 91 = .ok (.iload_n 2, 1) := by decide +kernel
theorem dX8_explained_92 : decode cX8_explained 92 = .ok (.iconst 1, 1) := by decide +kernel
theorem dX8_explained_93 : decode cX8_explained 93 = .ok (.invokevirtual 325, 3) := by decide +kernel
theorem dX8_explained_96 : decode cX8_explained 96 = .ok (.istore 4, 2) := by decide +kernel
theorem dX8_explained_98 : decode cX8_explained 98 = .ok (.iload 4, 2) := by decide +kernel
theorem dX8_explained_100 : decode cX8_explained 100 = .ok (.iconst (-1), 1) := by decide +kernel
theorem dX8_explained_101 : decode cX8_explained 101 = .ok (.if_icmp .eq 14, 3) := by decide +kernel
theorem dX8_explained_104 : decode cX8_explained 104 = .ok (.iload_n 3, 1) := by decide +kernel
theorem dX8_explained_105 : decode cX8_explained 105 = .ok (.ifCond .ne 7, 3) := by decide +kernel
theorem dX8_explained_108 : decode cX8_explained 108 = .ok (.iconst 1, 1) := by decide +kernel
theorem dX8_explained_109 : decode cX8_explained 109 = .ok (.goto 5, 3) := by decide +kernel
theorem dX8_explained_112 : decode cX8_explained 112 = .ok (.iload 4, 2) := by decide +kernel
theorem dX8_explained_114 : decode cX8_explained 114 = .ok (.ireturn, 1) := by decide +kernel
theorem dX8_explained_115 : decode cX8_explained 115 = .ok (.aload_n 0, 1) := by decide +kernel
theorem dX8_explained_116 : decode cX8_explained 116 = .ok (.iload_n 1, 1) := by decide +kernel
theorem dX8_explained_117 : decode cX8_explained 117 = .ok (.iload_n 2, 1) := by decide +kernel
theorem dX8_explained_118 : decode cX8_explained 118 = .ok (.iconst 0, 1) := by decide +kernel
theorem dX8_explained_119 : decode cX8_explained 119 = .ok (.invokevirtual 325, 3) := by decide +kernel
theorem dX8_explained_122 : decode cX8_explained 122 = .ok (.istore 5, 2) := by decide +kernel
theorem dX8_explained_124 : decode cX8_explained 124 = .ok (.iload_n 3, 1) := by decide +kernel
theorem dX8_explained_125 : decode cX8_explained 125 = .ok (.iconst 1, 1) := by decide +kernel
theorem dX8_explained_126 : decode cX8_explained 126 = .ok (.if_icmp .ne 8, 3) := by decide +kernel
theorem dX8_explained_129 : decode cX8_explained 129 = .ok (.iload 5, 2) := by decide +kernel
theorem dX8_explained_131 : decode cX8_explained 131 = .ok (.goto 14, 3) := by decide +kernel
theorem dX8_explained_134 : decode cX8_explained 134 = .ok (.iload 5, 2) := by decide +kernel
theorem dX8_explained_136 : decode cX8_explained 136 = .ok (.iconst (-1), 1) := by decide +kernel
theorem dX8_explained_137 : decode cX8_explained 137 = .ok (.if_icmp .ne 7, 3) := by decide +kernel
theorem dX8_explained_140 : decode cX8_explained 140 = .ok (.iconst 3, 1) := by decide +kernel
theorem dX8_explained_141 : decode cX8_explained 141 = .ok (.goto 4, 3) := by decide +kernel
theorem dX8_explained_144 : decode cX8_explained 144 = .ok (.iconst 2, 1) := by decide +kernel
theorem dX8_explained_145 : decode cX8_explained 145 = .ok (.ireturn, 1) := by decide +kernel
theorem dX8_cutTo_0 : decode cX8_cutTo 0 = .ok (.iload_n 2, 1) := by decide +kernel
theorem dX8_cutTo_1 : decode cX8_cutTo 1 = .ok (.ifCond .ne 10, 3) := by decide +kernel
theorem dX8_cutTo_4 : decode cX8_cutTo 4 = .ok (.lload_n 0, 1) := by decide +kernel
theorem dX8_cutTo_5 : decode cX8_cutTo 5 = .ok (.l2i, 1) := by decide +kernel
theorem dX8_cutTo_6 : decode cX8_cutTo 6 = .ok (.i2b, 1) := by decide +kernel
theorem dX8_cutTo_7 : decode cX8_cutTo 7 = .ok (.i2l, 1) := by decide +kernel
theorem dX8_cutTo_8 : decode cX8_cutTo 8 = .ok (.goto 27, 3) := by decide +kernel
theorem dX8_cutTo_11 : decode cX8_cutTo 11 = .ok (.iload_n 2, 1) := by decide +kernel
theorem dX8_cutTo_12 : decode cX8_cutTo 12 = .ok (.iconst 1, 1) := by decide +kernel
theorem dX8_cutTo_13 : decode cX8_cutTo 13 = .ok (.if_icmp .ne 10, 3) := by decide +kernel
theorem dX8_cutTo_16 : decode cX8_cutTo 16 = .ok (.lload_n 0, 1) := by decide +kernel
theorem dX8_cutTo_17 : decode cX8_cutTo 17 = .ok (.l2i, 1) := by decide +kernel
theorem dX8_cutTo_18 : decode cX8_cutTo 18 = .ok (.i2s, 1) := by decide +kernel
theorem dX8_cutTo_19 : decode cX8_cutTo 19 = .ok (.i2l, 1) := by decide +kernel
theorem dX8_cutTo_20 : decode cX8_cutTo 20 = .ok (.goto 15, 3) := by decide +kernel
theorem dX8_cutTo_23 : decode cX8_cutTo 23 = .ok (.iload_n 2, 1) := by decide +kernel
theorem dX8_cutTo_24 : decode cX8_cutTo 24 = .ok (.iconst 2, 1) := by decide +kernel
theorem dX8_cutTo_25 : decode cX8_cutTo 25 = .ok (.if_icmp .ne 9, 3) := by decide +kernel
theorem dX8_cutTo_28 : decode cX8_cutTo 28 = .ok (.lload_n 0, 1) := by decide +kernel
theorem dX8_cutTo_29 : decode cX8_cutTo 29 = .ok (.l2i, 1) := by decide +kernel
theorem dX8_cutTo_30 : decode cX8_cutTo 30 = .ok (.i2l, 1) := by decide +kernel
theorem dX8_cutTo_31 : decode cX8_cutTo 31 = .ok (.goto 4, 3) := by decide +kernel
theorem dX8_cutTo_34 : decode cX8_cutTo 34 = .ok (.lload_n 0, 1) := by decide +kernel
theorem dX8_cutTo_35 : decode cX8_cutTo 35 = .ok (.lreturn, 1) := by decide +kernel
theorem dX8_numbers_0 : decode cX8_numbers 0 = .ok (.aload_n 0, 1) := by decide +kernel
theorem dX8_numbers_1 : decode cX8_numbers 1 = .ok (.iconst 0, 1) := by decide +kernel
theorem dX8_numbers_2 : decode cX8_numbers 2 = .ok (.putfield 1, 3) := by decide +kernel
theorem dX8_numbers_5 : decode cX8_numbers 5 = .ok (.iload_n 1, 1) := by decide +kernel
theorem dX8_numbers_6 : decode cX8_numbers 6 = .ok (.i2l, 1) := by decide +kernel
theorem dX8_numbers_7 : decode cX8_numbers 7 = .ok (.lconst 0, 1) := by decide +kernel
theorem dX8_numbers_8 : decode cX8_numbers 8 = .ok (.ldc2_w 214, 3) := by decide +kernel
theorem dX8_numbers_11 : decode cX8_numbers 11 = .ok (.invokestatic 137, 3) := by decide +kernel
theorem dX8_numbers_14 : decode cX8_numbers 14 = .ok (.ifCond .eq 15, 3) := by decide +kernel
theorem dX8_numbers_17 : decode cX8_numbers 17 = .ok (.iload_n 2, 1) := by decide +kernel
theorem dX8_numbers_18 : decode cX8_numbers 18 = .ok (.i2l, 1) := by decide +kernel
theorem dX8_numbers_19 : decode cX8_numbers 19 = .ok (.lconst 0, 1) := by decide +kernel
theorem dX8_numbers_20 : decode cX8_numbers 20 = .ok (.ldc2_w 214, 3) := by decide +kernel
theorem dX8_numbers_23 : decode cX8_numbers 23 = .ok (.invokestatic 137, 3) := by decide +kernel
theorem dX8_numbers_26 : decode cX8_numbers 26 = .ok (.ifCond .ne 6, 3) := by decide +kernel
theorem dX8_numbers_29 : decode cX8_numbers 29 = .ok (.bipush (-2), 2) := by decide +kernel
theorem dX8_numbers_31 : decode cX8_numbers 31 = .ok (.ireturn, 1) := by decide +kernel
theorem dX8_numbers_32 : decode cX8_numbers 32 = .ok (.iload_n 3, 1) := by decide +kernel
theorem dX8_numbers_33 : decode cX8_numbers 33 = .ok (.i2l, 1) := by decide +kernel
theorem dX8_numbers_34 : decode cX8_numbers 34 = .ok (.lconst 0, 1) := by decide +kernel
theorem dX8_numbers_35 : decode cX8_numbers 35 = .ok (.ldc2_w 329, 3) := by decide +kernel
theorem dX8_numbers_38 : decode cX8_numbers 38 = .ok (.invokestatic 137, 3) := by decide +kernel
theorem dX8_numbers_41 : decode cX8_numbers 41 = .ok (.ifCond .ne 6, 3) := by decide +kernel
theorem dX8_numbers_44 : decode cX8_numbers 44 = .ok (.bipush (-3), 2) := by decide +kernel
theorem dX8_numbers_46 : decode cX8_numbers 46 = .ok (.ireturn, 1) := by decide +kernel
theorem dX8_numbers_47 : decode cX8_numbers 47 = .ok (.aload_n 0, 1) := by decide +kernel
theorem dX8_numbers_48 : decode cX8_numbers 48 = .ok (.getfield 67, 3) := by decide +kernel
theorem dX8_numbers_51 : decode cX8_numbers 51 = .ok (.iload_n 1, 1) := by decide +kernel
theorem dX8_numbers_52 : decode cX8_numbers 52 = .ok (.iload_n 2, 1) := by decide +kernel
theorem dX8_numbers_53 : decode cX8_numbers 53 = .ok (.iastore, 1) := by decide +kernel
theorem dX8_numbers_54 : decode cX8_numbers 54 = .ok (.aload_n 0, 1) := by decide +kernel
theorem dX8_numbers_55 : decode cX8_numbers 55 = .ok (.getfield 70, 3) := by decide +kernel
theorem dX8_numbers_58 : decode cX8_numbers 58 = .ok (.iload_n 1, 1) := by decide +kernel
theorem dX8_numbers_59 : decode cX8_numbers 59 = .ok (.iload_n 3, 1) := by decide +kernel
theorem dX8_numbers_60 : decode cX8_numbers 60 = .ok (.iastore, 1) := by decide +kernel
theorem dX8_numbers_61 : decode cX8_numbers 61 = .ok (.iconst 0, 1) := by decide +kernel
theorem dX8_numbers_62 : decode cX8_numbers 62 = .ok (.istore 4, 2) := by decide +kernel
theorem dX8_numbers_64 : decode cX8_numbers 64 = .ok (.iload 4, 2) := by decide +kernel
theorem dX8_numbers_66 : decode cX8_numbers 66 = .ok (.iload_n 3, 1) := by decide +kernel
theorem dX8_numbers_67 : decode cX8_numbers 67 = .ok (.if_icmp .ge 22, 3) := by decide +kernel
theorem dX8_numbers_70 : decode cX8_numbers 70 = .ok (.aload_n 0, 1) := by decide +kernel
theorem dX8_numbers_71 : decode cX8_numbers 71 = .ok (.getfield 73, 3) := by decide +kernel
theorem dX8_numbers_74 : decode cX8_numbers 74 = .ok (.bipush 40, 2) := by decide +kernel
theorem dX8_numbers_76 : decode cX8_numbers 76 = .ok (.iload_n 1, 1) := by decide +kernel
theorem dX8_numbers_77 : decode cX8_numbers 77 = .ok (.imul, 1) := by decide +kernel
theorem dX8_numbers_78 : decode cX8_numbers 78 = .ok (.iload 4, 2) := by decide +kernel
theorem dX8_numbers_80 : decode cX8_numbers 80 = .ok (.iadd, 1) := by decide +kernel
theorem dX8_numbers_81 : decode cX8_numbers 81 = .ok (.lconst 0, 1) := by decide +kernel
theorem dX8_numbers_82 : decode cX8_numbers 82 = .ok (.lastore, 1) := by decide +kernel
theorem dX8_numbers_83 : decode cX8_numbers 83 = .ok (.iinc 4 1, 3) := by decide +kernel
theorem dX8_numbers_86 : decode cX8_numbers 86 = .ok (.goto (-22), 3) := by decide +kernel
theorem dX8_numbers_89 : decode cX8_numbers 89 = .ok (.iconst 0, 1) := by decide +kernel
theorem dX8_numbers_90 : decode cX8_numbers 90 = .ok (.ireturn, 1) := by decide +kernel
theorem dX8_write_0 : decode cX8_write 0 = .ok (.aload_n 0, 1) := by decide +kernel
theorem dX8_write_1 : decode cX8_write 1 = .ok (.iconst 0, 1) := by decide +kernel
theorem dX8_write_2 : decode cX8_write 2 = .ok (.putfield 1, 3) := by decide +kernel
theorem dX8_write_5 : decode cX8_write 5 = .ok (.iload_n 1, 1) := by decide +kernel
theorem dX8_write_6 : decode cX8_write 6 = .ok (.i2l, 1) := by decide +kernel
theorem dX8_write_7 : decode cX8_write 7 = .ok (.lconst 0, 1) := by decide +kernel
theorem dX8_write_8 : decode cX8_write 8 = .ok (.ldc2_w 214, 3) := by decide +kernel
theorem dX8_write_11 : decode cX8_write 11 = .ok (.invokestatic 137, 3) := by decide +kernel
theorem dX8_write_14 : decode cX8_write 14 = .ok (.ifCond .ne 7, 3) := by decide +kernel
theorem dX8_write_17 : decode cX8_write 17 = .ok (.ldc2_w 331, 3) := by decide +kernel
theorem dX8_write_20 : decode cX8_write 20 = .ok (.lreturn, 1) := by decide +kernel
theorem dX8_write_21 : decode cX8_write 21 = .ok (.aload_n 0, 1) := by decide +kernel
theorem dX8_write_22 : decode cX8_write 22 = .ok (.getfield 67, 3) := by decide +kernel
theorem dX8_write_25 : decode cX8_write 25 = .ok (.iload_n 1, 1) := by decide +kernel
theorem dX8_write_26 : decode cX8_write 26 = .ok (.iaload, 1) := by decide +kernel
theorem dX8_write_27 : decode cX8_write 27 = .ok (.iconst (-1), 1) := by decide +kernel
theorem dX8_write_28 : decode cX8_write 28 = .ok (.if_icmp .ne 7, 3) := by decide +kernel
theorem dX8_write_31 : decode cX8_write 31 = .ok (.ldc2_w 333, 3) := by decide +kernel
theorem dX8_write_34 : decode cX8_write 34 = .ok (.lreturn, 1) := by decide +kernel
theorem dX8_write_35 : decode cX8_write 35 = .ok (.iload_n 2, 1) := by decide +kernel
theorem dX8_write_36 : decode cX8_write 36 = .ok (.i2l, 1) := by decide +kernel
theorem dX8_write_37 : decode cX8_write 37 = .ok (.lconst 0, 1) := by decide +kernel
theorem dX8_write_38 : decode cX8_write 38 = .ok (.aload_n 0, 1) := by decide +kernel
theorem dX8_write_39 : decode cX8_write 39 = .ok (.getfield 70, 3) := by decide +kernel
theorem dX8_write_42 : decode cX8_write 42 = .ok (.iload_n 1, 1) := by decide +kernel
theorem dX8_write_43 : decode cX8_write 43 = .ok (.iaload, 1) := by decide +kernel
theorem dX8_write_44 : decode cX8_write 44 = .ok (.iconst 1, 1) := by decide +kernel
theorem dX8_write_45 : decode cX8_write 45 = .ok (.isub, 1) := by decide +kernel
theorem dX8_write_46 : decode cX8_write 46 = .ok (.i2l, 1) := by decide +kernel
theorem dX8_write_47 : decode cX8_write 47 = .ok (.invokestatic 137, 3) := by decide +kernel
theorem dX8_write_50 : decode cX8_write 50 = .ok (.ifCond .ne 7, 3) := by decide +kernel
theorem dX8_write_53 : decode cX8_write 53 = .ok (.ldc2_w 335, 3) := by decide +kernel
theorem dX8_write_56 : decode cX8_write 56 = .ok (.lreturn, 1) := by decide +kernel
theorem dX8_write_57 : decode cX8_write 57 = .ok (.aload_n 0, 1) := by decide +kernel
theorem dX8_write_58 : decode cX8_write 58 = .ok (.getfield 73, 3) := by decide +kernel
theorem dX8_write_61 : decode cX8_write 61 = .ok (.bipush 40, 2) := by decide +kernel
theorem dX8_write_63 : decode cX8_write 63 = .ok (.iload_n 1, 1) := by decide +kernel
theorem dX8_write_64 : decode cX8_write 64 = .ok (.imul, 1) := by decide +kernel
theorem dX8_write_65 : decode cX8_write 65 = .ok (.iload_n 2, 1) := by decide +kernel
theorem dX8_write_66 : decode cX8_write 66 = .ok (.iadd, 1) := by decide +kernel
theorem dX8_write_67 : decode cX8_write 67 = .ok (.lload_n 3, 1) := by decide +kernel
theorem dX8_write_68 : decode cX8_write 68 = .ok (.aload_n 0, 1) := by decide +kernel
theorem dX8_write_69 : decode cX8_write 69 = .ok (.getfield 67, 3) := by decide +kernel
theorem dX8_write_72 : decode cX8_write 72 = .ok (.iload_n 1, 1) := by decide +kernel
theorem dX8_write_73 : decode cX8_write 73 = .ok (.iaload, 1) := by decide +kernel
theorem dX8_write_74 : decode cX8_write 74 = .ok (.invokestatic 337, 3) := by decide +kernel
theorem dX8_write_77 : decode cX8_write 77 = .ok (.lastore, 1) := by decide +kernel
theorem dX8_write_78 : decode cX8_write 78 = .ok (.aload_n 0, 1) := by decide +kernel
theorem dX8_write_79 : decode cX8_write 79 = .ok (.getfield 73, 3) := by decide +kernel
theorem dX8_write_82 : decode cX8_write 82 = .ok (.bipush 40, 2) := by decide +kernel
theorem dX8_write_84 : decode cX8_write 84 = .ok (.iload_n 1, 1) := by decide +kernel
theorem dX8_write_85 : decode cX8_write 85 = .ok (.imul, 1) := by decide +kernel
theorem dX8_write_86 : decode cX8_write 86 = .ok (.iload_n 2, 1) := by decide +kernel
theorem dX8_write_87 : decode cX8_write 87 = .ok (.iadd, 1) := by decide +kernel
theorem dX8_write_88 : decode cX8_write 88 = .ok (.laload, 1) := by decide +kernel
theorem dX8_write_89 : decode cX8_write 89 = .ok (.lreturn, 1) := by decide +kernel
theorem dX8_copy_0 : decode cX8_copy 0 = .ok (.aload_n 0, 1) := by decide +kernel
theorem dX8_copy_1 : decode cX8_copy 1 = .ok (.iconst 0, 1) := by decide +kernel
theorem dX8_copy_2 : decode cX8_copy 2 = .ok (.putfield 1, 3) := by decide +kernel
theorem dX8_copy_5 : decode cX8_copy 5 = .ok (.iload_n 1, 1) := by decide +kernel
theorem dX8_copy_6 : decode cX8_copy 6 = .ok (.i2l, 1) := by decide +kernel
theorem dX8_copy_7 : decode cX8_copy 7 = .ok (.lconst 0, 1) := by decide +kernel
theorem dX8_copy_8 : decode cX8_copy 8 = .ok (.ldc2_w 214, 3) := by decide +kernel
theorem dX8_copy_11 : decode cX8_copy 11 = .ok (.invokestatic 137, 3) := by decide +kernel
theorem dX8_copy_14 : decode cX8_copy 14 = .ok (.ifCond .ne 6, 3) := by decide +kernel
theorem dX8_copy_17 : decode cX8_copy 17 = .ok (.bipush (-2), 2) := by decide +kernel
theorem dX8_copy_19 : decode cX8_copy 19 = .ok (.ireturn, 1) := by decide +kernel
theorem dX8_copy_20 : decode cX8_copy 20 = .ok (.aload_n 0, 1) := by decide +kernel
theorem dX8_copy_21 : decode cX8_copy 21 = .ok (.getfield 67, 3) := by decide +kernel
theorem dX8_copy_24 : decode cX8_copy 24 = .ok (.iload_n 1, 1) := by decide +kernel
theorem dX8_copy_25 : decode cX8_copy 25 = .ok (.iaload, 1) := by decide +kernel
theorem dX8_copy_26 : decode cX8_copy 26 = .ok (.iconst (-1), 1) := by decide +kernel
theorem dX8_copy_27 : decode cX8_copy 27 = .ok (.if_icmp .ne 6, 3) := by decide +kernel
theorem dX8_copy_30 : decode cX8_copy 30 = .ok (.bipush (-6), 2) := by decide +kernel
theorem dX8_copy_32 : decode cX8_copy 32 = .ok (.ireturn, 1) := by decide +kernel
theorem dX8_copy_33 : decode cX8_copy 33 = .ok (.iconst 0, 1) := by decide +kernel
theorem dX8_copy_34 : decode cX8_copy 34 = .ok (.istore_n 2, 1) := by decide +kernel
theorem dX8_copy_35 : decode cX8_copy 35 = .ok (.iconst 0, 1) := by decide +kernel
theorem dX8_copy_36 : decode cX8_copy 36 = .ok (.istore_n 3, 1) := by decide +kernel
theorem dX8_copy_37 : decode cX8_copy 37 = .ok (.iload_n 3, 1) := by decide +kernel
theorem dX8_copy_38 : decode cX8_copy 38 = .ok (.aload_n 0, 1) := by decide +kernel
theorem dX8_copy_39 : decode cX8_copy 39 = .ok (.getfield 13, 3) := by decide +kernel
theorem dX8_copy_42 : decode cX8_copy 42 = .ok (.iconst 0, 1) := by decide +kernel
theorem dX8_copy_43 : decode cX8_copy 43 = .ok (.iaload, 1) := by decide +kernel
theorem dX8_copy_44 : decode cX8_copy 44 = .ok (.if_icmp .ge 85, 3) := by decide +kernel
theorem dX8_copy_47 : decode cX8_copy 47 = .ok (.iload_n 3, 1) := by decide +kernel
theorem dX8_copy_48 : decode cX8_copy 48 = .ok (.iconst 1, 1) := by decide +kernel
theorem dX8_copy_49 : decode cX8_copy 49 = .ok (.iadd, 1) := by decide +kernel
theorem dX8_copy_50 : decode cX8_copy 50 = .ok (.istore 4, 2) := by decide +kernel
theorem dX8_copy_52 : decode cX8_copy 52 = .ok (.iload 4, 2) := by decide +kernel
theorem dX8_copy_54 : decode cX8_copy 54 = .ok (.aload_n 0, 1) := by decide +kernel
theorem dX8_copy_55 : decode cX8_copy 55 = .ok (.getfield 13, 3) := by decide +kernel
theorem dX8_copy_58 : decode cX8_copy 58 = .ok (.iconst 0, 1) := by decide +kernel
theorem dX8_copy_59 : decode cX8_copy 59 = .ok (.iaload, 1) := by decide +kernel
theorem dX8_copy_60 : decode cX8_copy 60 = .ok (.if_icmp .ge 63, 3) := by decide +kernel
theorem dX8_copy_63 : decode cX8_copy 63 = .ok (.aload_n 0, 1) := by decide +kernel
theorem dX8_copy_64 : decode cX8_copy 64 = .ok (.iload_n 3, 1) := by decide +kernel
theorem dX8_copy_65 : decode cX8_copy 65 = .ok (.iload 4, 2) := by decide +kernel
theorem dX8_copy_67 : decode cX8_copy 67 = .ok (.invokevirtual 201, 3) := by decide +kernel
theorem dX8_copy_70 : decode cX8_copy 70 = .ok (.ifCond .eq 47, 3) := by decide +kernel
theorem dX8_copy_73 : decode cX8_copy 73 = .ok (.iload_n 2, 1) := by decide +kernel
theorem dX8_copy_74 : decode cX8_copy 74 = .ok (.aload_n 0, 1) := by decide +kernel
theorem dX8_copy_75 : decode cX8_copy 75 = .ok (.getfield 70, 3) := by decide +kernel
theorem dX8_copy_78 : decode cX8_copy 78 = .ok (.iload_n 1, 1) := by decide +kernel
theorem dX8_copy_79 : decode cX8_copy 79 = .ok (.iaload, 1) := by decide +kernel
theorem dX8_copy_80 : decode cX8_copy 80 = .ok (.if_icmp .ne 6, 3) := by decide +kernel
theorem dX8_copy_83 : decode cX8_copy 83 = .ok (.goto 34, 3) := by decide +kernel
theorem dX8_copy_86 : decode cX8_copy 86 = .ok (.aload_n 0, 1) := by decide +kernel
theorem dX8_copy_87 : decode cX8_copy 87 = .ok (.getfield 73, 3) := by decide +kernel
theorem dX8_copy_90 : decode cX8_copy 90 = .ok (.bipush 40, 2) := by decide +kernel
theorem dX8_copy_92 : decode cX8_copy 92 = .ok (.iload_n 1, 1) := by decide +kernel
theorem dX8_copy_93 : decode cX8_copy 93 = .ok (.imul, 1) := by decide +kernel
theorem dX8_copy_94 : decode cX8_copy 94 = .ok (.iload_n 2, 1) := by decide +kernel
theorem dX8_copy_95 : decode cX8_copy 95 = .ok (.iadd, 1) := by decide +kernel
theorem dX8_copy_96 : decode cX8_copy 96 = .ok (.bipush 20, 2) := by decide +kernel
theorem dX8_copy_98 : decode cX8_copy 98 = .ok (.iload_n 3, 1) := by decide +kernel
theorem dX8_copy_99 : decode cX8_copy 99 = .ok (.imul, 1) := by decide +kernel
theorem dX8_copy_100 : decode cX8_copy 100 = .ok (.iload 4, 2) := by decide +kernel
theorem dX8_copy_102 : decode cX8_copy 102 = .ok (.iadd, 1) := by decide +kernel
theorem dX8_copy_103 : decode cX8_copy 103 = .ok (.i2l, 1) := by decide +kernel
theorem dX8_copy_104 : decode cX8_copy 104 = .ok (.aload_n 0, 1) := by decide +kernel
theorem dX8_copy_105 : decode cX8_copy 105 = .ok (.getfield 67, 3) := by decide +kernel
theorem dX8_copy_108 : decode cX8_copy 108 = .ok (.iload_n 1, 1) := by decide +kernel
theorem dX8_copy_109 : decode cX8_copy 109 = .ok (.iaload, 1) := by decide +kernel
theorem dX8_copy_110 : decode cX8_copy 110 = .ok (.invokestatic 337, 3) := by decide +kernel
theorem dX8_copy_113 : decode cX8_copy 113 = .ok (.lastore, 1) := by decide +kernel
theorem dX8_copy_114 : decode cX8_copy 114 = .ok (.iinc 2 1, 3) := by decide +kernel
theorem dX8_copy_117 : decode cX8_copy 117 = .ok (.iinc 4 1, 3) := by decide +kernel
theorem dX8_copy_120 : decode cX8_copy 120 = .ok (.goto (-68), 3) := by decide +kernel
theorem dX8_copy_123 : decode cX8_copy 123 = .ok (.iinc 3 1, 3) := by decide +kernel
theorem dX8_copy_126 : decode cX8_copy 126 = .ok (.goto (-89), 3) := by decide +kernel
theorem dX8_copy_129 : decode cX8_copy 129 = .ok (.iload_n 2, 1) := by decide +kernel
theorem dX8_copy_130 : decode cX8_copy 130 = .ok (.ireturn, 1) := by decide +kernel
theorem dX8_image_0 : decode cX8_image 0 = .ok (.aload_n 0, 1) := by decide +kernel
theorem dX8_image_1 : decode cX8_image 1 = .ok (.iconst 0, 1) := by decide +kernel
theorem dX8_image_2 : decode cX8_image 2 = .ok (.putfield 1, 3) := by decide +kernel
theorem dX8_image_5 : decode cX8_image 5 = .ok (.iload_n 1, 1) := by decide +kernel
theorem dX8_image_6 : decode cX8_image 6 = .ok (.i2l, 1) := by decide +kernel
theorem dX8_image_7 : decode cX8_image 7 = .ok (.lconst 0, 1) := by decide +kernel
theorem dX8_image_8 : decode cX8_image 8 = .ok (.lconst 1, 1) := by decide +kernel
theorem dX8_image_9 : decode cX8_image 9 = .ok (.invokestatic 137, 3) := by decide +kernel
theorem dX8_image_12 : decode cX8_image 12 = .ok (.ifCond .ne 6, 3) := by decide +kernel
theorem dX8_image_15 : decode cX8_image 15 = .ok (.bipush (-2), 2) := by decide +kernel
theorem dX8_image_17 : decode cX8_image 17 = .ok (.ireturn, 1) := by decide +kernel
theorem dX8_image_18 : decode cX8_image 18 = .ok (.iconst 0, 1) := by decide +kernel
theorem dX8_image_19 : decode cX8_image 19 = .ok (.istore_n 2, 1) := by decide +kernel
theorem dX8_image_20 : decode cX8_image 20 = .ok (.iload_n 2, 1) := by decide +kernel
theorem dX8_image_21 : decode cX8_image 21 = .ok (.sipush 186, 3) := by decide +kernel
theorem dX8_image_24 : decode cX8_image 24 = .ok (.if_icmp .ge 29, 3) := by decide +kernel
theorem dX8_image_27 : decode cX8_image 27 = .ok (.aload_n 0, 1) := by decide +kernel
theorem dX8_image_28 : decode cX8_image 28 = .ok (.getfield 13, 3) := by decide +kernel
theorem dX8_image_31 : decode cX8_image 31 = .ok (.sipush 186, 3) := by decide +kernel
theorem dX8_image_34 : decode cX8_image 34 = .ok (.iload_n 1, 1) := by decide +kernel
theorem dX8_image_35 : decode cX8_image 35 = .ok (.iconst 1, 1) := by decide +kernel
theorem dX8_image_36 : decode cX8_image 36 = .ok (.iadd, 1) := by decide +kernel
theorem dX8_image_37 : decode cX8_image 37 = .ok (.imul, 1) := by decide +kernel
theorem dX8_image_38 : decode cX8_image 38 = .ok (.iload_n 2, 1) := by decide +kernel
theorem dX8_image_39 : decode cX8_image 39 = .ok (.iadd, 1) := by decide +kernel
theorem dX8_image_40 : decode cX8_image 40 = .ok (.aload_n 0, 1) := by decide +kernel
theorem dX8_image_41 : decode cX8_image 41 = .ok (.getfield 13, 3) := by decide +kernel
theorem dX8_image_44 : decode cX8_image 44 = .ok (.iload_n 2, 1) := by decide +kernel
theorem dX8_image_45 : decode cX8_image 45 = .ok (.iaload, 1) := by decide +kernel
theorem dX8_image_46 : decode cX8_image 46 = .ok (.iastore, 1) := by decide +kernel
theorem dX8_image_47 : decode cX8_image 47 = .ok (.iinc 2 1, 3) := by decide +kernel
theorem dX8_image_50 : decode cX8_image 50 = .ok (.goto (-30), 3) := by decide +kernel
theorem dX8_image_53 : decode cX8_image 53 = .ok (.aload_n 0, 1) := by decide +kernel
theorem dX8_image_54 : decode cX8_image 54 = .ok (.getfield 17, 3) := by decide +kernel
theorem dX8_image_57 : decode cX8_image 57 = .ok (.iload_n 1, 1) := by decide +kernel
theorem dX8_image_58 : decode cX8_image 58 = .ok (.iconst 1, 1) := by decide +kernel
theorem dX8_image_59 : decode cX8_image 59 = .ok (.bastore, 1) := by decide +kernel
theorem dX8_image_60 : decode cX8_image 60 = .ok (.iconst 0, 1) := by decide +kernel
theorem dX8_image_61 : decode cX8_image 61 = .ok (.ireturn, 1) := by decide +kernel
theorem dX8_restore_0 : decode cX8_restore 0 = .ok (.aload_n 0, 1) := by decide +kernel
theorem dX8_restore_1 : decode cX8_restore 1 = .ok (.iconst 0, 1) := by decide +kernel
theorem dX8_restore_2 : decode cX8_restore 2 = .ok (.putfield 1, 3) := by decide +kernel
theorem dX8_restore_5 : decode cX8_restore 5 = .ok (.iload_n 1, 1) := by decide +kernel
theorem dX8_restore_6 : decode cX8_restore 6 = .ok (.i2l, 1) := by decide +kernel
theorem dX8_restore_7 : decode cX8_restore 7 = .ok (.lconst 0, 1) := by decide +kernel
theorem dX8_restore_8 : decode cX8_restore 8 = .ok (.lconst 1, 1) := by decide +kernel
theorem dX8_restore_9 : decode cX8_restore 9 = .ok (.invokestatic 137, 3) := by decide +kernel
theorem dX8_restore_12 : decode cX8_restore 12 = .ok (.ifCond .ne 6, 3) := by decide +kernel
theorem dX8_restore_15 : decode cX8_restore 15 = .ok (.bipush (-2), 2) := by decide +kernel
theorem dX8_restore_17 : decode cX8_restore 17 = .ok (.ireturn, 1) := by decide +kernel
theorem dX8_restore_18 : decode cX8_restore 18 = .ok (.aload_n 0, 1) := by decide +kernel
theorem dX8_restore_19 : decode cX8_restore 19 = .ok (.getfield 17, 3) := by decide +kernel
theorem dX8_restore_22 : decode cX8_restore 22 = .ok (.iload_n 1, 1) := by decide +kernel
theorem dX8_restore_23 : decode cX8_restore 23 = .ok (.baload, 1) := by decide +kernel
theorem dX8_restore_24 : decode cX8_restore 24 = .ok (.ifCond .ne 6, 3) := by decide +kernel
theorem dX8_restore_27 : decode cX8_restore 27 = .ok (.bipush (-5), 2) := by decide +kernel
theorem dX8_restore_29 : decode cX8_restore 29 = .ok (.ireturn, 1) := by decide +kernel
theorem dX8_restore_30 : decode cX8_restore 30 = .ok (.iconst 0, 1) := by decide +kernel
theorem dX8_restore_31 : decode cX8_restore 31 = .ok (.istore_n 2, 1) := by decide +kernel
theorem dX8_restore_32 : decode cX8_restore 32 = .ok (.iload_n 2, 1) := by decide +kernel
theorem dX8_restore_33 : decode cX8_restore 33 = .ok (.sipush 186, 3) := by decide +kernel
theorem dX8_restore_36 : decode cX8_restore 36 = .ok (.if_icmp .ge 29, 3) := by decide +kernel
theorem dX8_restore_39 : decode cX8_restore 39 = .ok (.aload_n 0, 1) := by decide +kernel
theorem dX8_restore_40 : decode cX8_restore 40 = .ok (.getfield 13, 3) := by decide +kernel
theorem dX8_restore_43 : decode cX8_restore 43 = .ok (.iload_n 2, 1) := by decide +kernel
theorem dX8_restore_44 : decode cX8_restore 44 = .ok (.aload_n 0, 1) := by decide +kernel
theorem dX8_restore_45 : decode cX8_restore 45 = .ok (.getfield 13, 3) := by decide +kernel
theorem dX8_restore_48 : decode cX8_restore 48 = .ok (.sipush 186, 3) := by decide +kernel
theorem dX8_restore_51 : decode cX8_restore 51 = .ok (.iload_n 1, 1) := by decide +kernel
theorem dX8_restore_52 : decode cX8_restore 52 = .ok (.iconst 1, 1) := by decide +kernel
theorem dX8_restore_53 : decode cX8_restore 53 = .ok (.iadd, 1) := by decide +kernel
theorem dX8_restore_54 : decode cX8_restore 54 = .ok (.imul, 1) := by decide +kernel
theorem dX8_restore_55 : decode cX8_restore 55 = .ok (.iload_n 2, 1) := by decide +kernel
theorem dX8_restore_56 : decode cX8_restore 56 = .ok (.iadd, 1) := by decide +kernel
theorem dX8_restore_57 : decode cX8_restore 57 = .ok (.iaload, 1) := by decide +kernel
theorem dX8_restore_58 : decode cX8_restore 58 = .ok (.iastore, 1) := by decide +kernel
theorem dX8_restore_59 : decode cX8_restore 59 = .ok (.iinc 2 1, 3) := by decide +kernel
theorem dX8_restore_62 : decode cX8_restore 62 = .ok (.goto (-30), 3) := by decide +kernel
theorem dX8_restore_65 : decode cX8_restore 65 = .ok (.iconst 0, 1) := by decide +kernel
theorem dX8_restore_66 : decode cX8_restore 66 = .ok (.ireturn, 1) := by decide +kernel
theorem dX8_count_0 : decode cX8_count 0 = .ok (.aload_n 0, 1) := by decide +kernel
theorem dX8_count_1 : decode cX8_count 1 = .ok (.iconst 0, 1) := by decide +kernel
theorem dX8_count_2 : decode cX8_count 2 = .ok (.putfield 1, 3) := by decide +kernel
theorem dX8_count_5 : decode cX8_count 5 = .ok (.iconst 0, 1) := by decide +kernel
theorem dX8_count_6 : decode cX8_count 6 = .ok (.istore_n 2, 1) := by decide +kernel
theorem dX8_count_7 : decode cX8_count 7 = .ok (.iconst 0, 1) := by decide +kernel
theorem dX8_count_8 : decode cX8_count 8 = .ok (.istore_n 3, 1) := by decide +kernel
theorem dX8_count_9 : decode cX8_count 9 = .ok (.iconst 0, 1) := by decide +kernel
theorem dX8_count_10 : decode cX8_count 10 = .ok (.istore 4, 2) := by decide +kernel
theorem dX8_count_12 : decode cX8_count 12 = .ok (.iload 4, 2) := by decide +kernel
theorem dX8_count_14 : decode cX8_count 14 = .ok (.aload_n 0, 1) := by decide +kernel
theorem dX8_count_15 : decode cX8_count 15 = .ok (.getfield 13, 3) := by decide +kernel
theorem dX8_count_18 : decode cX8_count 18 = .ok (.iconst 0, 1) := by decide +kernel
theorem dX8_count_19 : decode cX8_count 19 = .ok (.iaload, 1) := by decide +kernel
theorem dX8_count_20 : decode cX8_count 20 = .ok (.if_icmp .ge 76, 3) := by decide +kernel
theorem dX8_count_23 : decode cX8_count 23 = .ok (.iload 4, 2) := by decide +kernel
theorem dX8_count_25 : decode cX8_count 25 = .ok (.iconst 1, 1) := by decide +kernel
theorem dX8_count_26 : decode cX8_count 26 = .ok (.iadd, 1) := by decide +kernel
theorem dX8_count_27 : decode cX8_count 27 = .ok (.istore 5, 2) := by decide +kernel
theorem dX8_count_29 : decode cX8_count 29 = .ok (.iload 5, 2) := by decide +kernel
theorem dX8_count_31 : decode cX8_count 31 = .ok (.aload_n 0, 1) := by decide +kernel
theorem dX8_count_32 : decode cX8_count 32 = .ok (.getfield 13, 3) := by decide +kernel
theorem dX8_count_35 : decode cX8_count 35 = .ok (.iconst 0, 1) := by decide +kernel
theorem dX8_count_36 : decode cX8_count 36 = .ok (.iaload, 1) := by decide +kernel
theorem dX8_count_37 : decode cX8_count 37 = .ok (.if_icmp .ge 53, 3) := by decide +kernel
theorem dX8_count_40 : decode cX8_count 40 = .ok (.aload_n 0, 1) := by decide +kernel
theorem dX8_count_41 : decode cX8_count 41 = .ok (.iload 4, 2) := by decide +kernel
theorem dX8_count_43 : decode cX8_count 43 = .ok (.iload 5, 2) := by decide +kernel
theorem dX8_count_45 : decode cX8_count 45 = .ok (.invokevirtual 201, 3) := by decide +kernel
theorem dX8_count_48 : decode cX8_count 48 = .ok (.ifCond .ne 6, 3) := by decide +kernel
theorem dX8_count_51 : decode cX8_count 51 = .ok (.goto 33, 3) := by decide +kernel
theorem dX8_count_54 : decode cX8_count 54 = .ok (.iload_n 2, 1) := by decide +kernel
theorem dX8_count_55 : decode cX8_count 55 = .ok (.aload_n 0, 1) := by decide +kernel
theorem dX8_count_56 : decode cX8_count 56 = .ok (.iload 4, 2) := by decide +kernel
theorem dX8_count_58 : decode cX8_count 58 = .ok (.iload 5, 2) := by decide +kernel
theorem dX8_count_60 : decode cX8_count 60 = .ok (.invokevirtual 228, 3) := by decide +kernel
theorem dX8_count_63 : decode cX8_count 63 = .ok (.ifCond .eq 7, 3) := by decide +kernel
theorem dX8_count_66 : decode cX8_count 66 = .ok (.iconst 1, 1) := by decide +kernel
theorem dX8_count_67 : decode cX8_count 67 = .ok (.goto 4, 3) := by decide +kernel
theorem dX8_count_70 : decode cX8_count 70 = .ok (.iconst 0, 1) := by decide +kernel
theorem dX8_count_71 : decode cX8_count 71 = .ok (.iadd, 1) := by decide +kernel
theorem dX8_count_72 : decode cX8_count 72 = .ok (.istore_n 2, 1) := by decide +kernel
theorem dX8_count_73 : decode cX8_count 73 = .ok (.iload_n 3, 1) := by decide +kernel
theorem dX8_count_74 : decode cX8_count 74 = .ok (.aload_n 0, 1) := by decide +kernel
theorem dX8_count_75 : decode cX8_count 75 = .ok (.iload 4, 2) := by decide +kernel
theorem dX8_count_77 : decode cX8_count 77 = .ok (.iload 5, 2) := by decide +kernel
theorem dX8_count_79 : decode cX8_count 79 = .ok (.invokevirtual 198, 3) := by decide +kernel
theorem dX8_count_82 : decode cX8_count 82 = .ok (.iadd, 1) := by decide +kernel
theorem dX8_count_83 : decode cX8_count 83 = .ok (.istore_n 3, 1) := by decide +kernel
theorem dX8_count_84 : decode cX8_count 84 = .ok (.iinc 5 1, 3) := by decide +kernel
theorem dX8_count_87 : decode cX8_count 87 = .ok (.goto (-58), 3) := by decide +kernel
theorem dX8_count_90 : decode cX8_count 90 = .ok (.iinc 4 1, 3) := by decide +kernel
theorem dX8_count_93 : decode cX8_count 93 = .ok (.goto (-81), 3) := by decide +kernel
theorem dX8_count_96 : decode cX8_count 96 = .ok (.iload_n 1, 1) := by decide +kernel
theorem dX8_count_97 : decode cX8_count 97 = .ok (.tableswitch 111 0 9 #[55, 62, 67, 74, 81, 88, 95, 97, 99, 104], 55) := by decide +kernel
theorem dX8_count_152 : decode cX8_count 152 = .ok (.aload_n 0, 1) := by decide +kernel
theorem dX8_count_153 : decode cX8_count 153 = .ok (.getfield 13, 3) := by decide +kernel
theorem dX8_count_156 : decode cX8_count 156 = .ok (.iconst 0, 1) := by decide +kernel
theorem dX8_count_157 : decode cX8_count 157 = .ok (.iaload, 1) := by decide +kernel
theorem dX8_count_158 : decode cX8_count 158 = .ok (.ireturn, 1) := by decide +kernel
theorem dX8_count_159 : decode cX8_count 159 = .ok (.aload_n 0, 1) := by decide +kernel
theorem dX8_count_160 : decode cX8_count 160 = .ok (.invokevirtual 237, 3) := by decide +kernel
theorem dX8_count_163 : decode cX8_count 163 = .ok (.ireturn, 1) := by decide +kernel
theorem dX8_count_164 : decode cX8_count 164 = .ok (.aload_n 0, 1) := by decide +kernel
theorem dX8_count_165 : decode cX8_count 165 = .ok (.getfield 13, 3) := by decide +kernel
theorem dX8_count_168 : decode cX8_count 168 = .ok (.iconst 1, 1) := by decide +kernel
theorem dX8_count_169 : decode cX8_count 169 = .ok (.iaload, 1) := by decide +kernel
theorem dX8_count_170 : decode cX8_count 170 = .ok (.ireturn, 1) := by decide +kernel
theorem dX8_count_171 : decode cX8_count 171 = .ok (.aload_n 0, 1) := by decide +kernel
theorem dX8_count_172 : decode cX8_count 172 = .ok (.getfield 13, 3) := by decide +kernel
theorem dX8_count_175 : decode cX8_count 175 = .ok (.iconst 2, 1) := by decide +kernel
theorem dX8_count_176 : decode cX8_count 176 = .ok (.iaload, 1) := by decide +kernel
theorem dX8_count_177 : decode cX8_count 177 = .ok (.ireturn, 1) := by decide +kernel
theorem dX8_count_178 : decode cX8_count 178 = .ok (.aload_n 0, 1) := by decide +kernel
theorem dX8_count_179 : decode cX8_count 179 = .ok (.getfield 13, 3) := by decide +kernel
theorem dX8_count_182 : decode cX8_count 182 = .ok (.iconst 3, 1) := by decide +kernel
theorem dX8_count_183 : decode cX8_count 183 = .ok (.iaload, 1) := by decide +kernel
theorem dX8_count_184 : decode cX8_count 184 = .ok (.ireturn, 1) := by decide +kernel
theorem dX8_count_185 : decode cX8_count 185 = .ok (.aload_n 0, 1) := by decide +kernel
theorem dX8_count_186 : decode cX8_count 186 = .ok (.getfield 13, 3) := by decide +kernel
theorem dX8_count_189 : decode cX8_count 189 = .ok (.iconst 4, 1) := by decide +kernel
theorem dX8_count_190 : decode cX8_count 190 = .ok (.iaload, 1) := by decide +kernel
theorem dX8_count_191 : decode cX8_count 191 = .ok (.ireturn, 1) := by decide +kernel
theorem dX8_count_192 : decode cX8_count 192 = .ok (.iload_n 2, 1) := by decide +kernel
theorem dX8_count_193 : decode cX8_count 193 = .ok (.ireturn, 1) := by decide +kernel
theorem dX8_count_194 : decode cX8_count 194 = .ok (.iload_n 3, 1) := by decide +kernel
theorem dX8_count_195 : decode cX8_count 195 = .ok (.ireturn, 1) := by decide +kernel
theorem dX8_count_196 : decode cX8_count 196 = .ok (.aload_n 0, 1) := by decide +kernel
theorem dX8_count_197 : decode cX8_count 197 = .ok (.getfield 77, 3) := by decide +kernel
theorem dX8_count_200 : decode cX8_count 200 = .ok (.ireturn, 1) := by decide +kernel
theorem dX8_count_201 : decode cX8_count 201 = .ok (.aload_n 0, 1) := by decide +kernel
theorem dX8_count_202 : decode cX8_count 202 = .ok (.getfield 13, 3) := by decide +kernel
theorem dX8_count_205 : decode cX8_count 205 = .ok (.iconst 5, 1) := by decide +kernel
theorem dX8_count_206 : decode cX8_count 206 = .ok (.iaload, 1) := by decide +kernel
theorem dX8_count_207 : decode cX8_count 207 = .ok (.ireturn, 1) := by decide +kernel
theorem dX8_count_208 : decode cX8_count 208 = .ok (.iconst (-1), 1) := by decide +kernel
theorem dX8_count_209 : decode cX8_count 209 = .ok (.ireturn, 1) := by decide +kernel
