theorem dX8_within_0 : decode cX8_within 0 = .ok (.lload_n 0, 1) := by decide +kernel
theorem dX8_within_1 : decode cX8_within 1 = .ok (.lload_n 2, 1) := by decide +kernel
theorem dX8_within_2 : decode cX8_within 2 = .ok (.lcmp, 1) := by decide +kernel
theorem dX8_within_3 : decode cX8_within 3 = .ok (.ifCond .lt 14, 3) := by decide +kernel
theorem dX8_within_6 : decode cX8_within 6 = .ok (.lload_n 0, 1) := by decide +kernel
theorem dX8_within_7 : decode cX8_within 7 = .ok (.lload 4, 2) := by decide +kernel
theorem dX8_within_9 : decode cX8_within 9 = .ok (.lcmp, 1) := by decide +kernel
theorem dX8_within_10 : decode cX8_within 10 = .ok (.ifCond .gt 7, 3) := by decide +kernel
theorem dX8_within_13 : decode cX8_within 13 = .ok (.iconst 1, 1) := by decide +kernel
theorem dX8_within_14 : decode cX8_within 14 = .ok (.goto 4, 3) := by decide +kernel
theorem dX8_within_17 : decode cX8_within 17 = .ok (.iconst 0, 1) := by decide +kernel
theorem dX8_within_18 : decode cX8_within 18 = .ok (.ireturn, 1) := by decide +kernel
theorem dX8_init_0 : decode cX8_init 0 = .ok (.aload_n 0, 1) := by decide +kernel
theorem dX8_init_1 : decode cX8_init 1 = .ok (.invokespecial 7, 3) := by decide +kernel
theorem dX8_init_4 : decode cX8_init 4 = .ok (.aload_n 0, 1) := by decide +kernel
theorem dX8_init_5 : decode cX8_init 5 = .ok (.sipush 558, 3) := by decide +kernel
theorem dX8_init_8 : decode cX8_init 8 = .ok (.newarray .int, 2) := by decide +kernel
theorem dX8_init_10 : decode cX8_init 10 = .ok (.putfield 13, 3) := by decide +kernel
theorem dX8_init_13 : decode cX8_init 13 = .ok (.aload_n 0, 1) := by decide +kernel
theorem dX8_init_14 : decode cX8_init 14 = .ok (.iconst 2, 1) := by decide +kernel
theorem dX8_init_15 : decode cX8_init 15 = .ok (.newarray .boolean, 2) := by decide +kernel
theorem dX8_init_17 : decode cX8_init 17 = .ok (.putfield 17, 3) := by decide +kernel
theorem dX8_init_20 : decode cX8_init 20 = .ok (.aload_n 0, 1) := by decide +kernel
theorem dX8_init_21 : decode cX8_init 21 = .ok (.sipush 900, 3) := by decide +kernel
theorem dX8_init_24 : decode cX8_init 24 = .ok (.newarray .int, 2) := by decide +kernel
theorem dX8_init_26 : decode cX8_init 26 = .ok (.putfield 21, 3) := by decide +kernel
theorem dX8_init_29 : decode cX8_init 29 = .ok (.aload_n 0, 1) := by decide +kernel
theorem dX8_init_30 : decode cX8_init 30 = .ok (.sipush 186, 3) := by decide +kernel
theorem dX8_init_33 : decode cX8_init 33 = .ok (.newarray .int, 2) := by decide +kernel
theorem dX8_init_35 : decode cX8_init 35 = .ok (.putfield 24, 3) := by decide +kernel
theorem dX8_init_38 : decode cX8_init 38 = .ok (.aload_n 0, 1) := by decide +kernel
theorem dX8_init_39 : decode cX8_init 39 = .ok (.iconst (-1), 1) := by decide +kernel
theorem dX8_init_40 : decode cX8_init 40 = .ok (.putfield 27, 3) := by decide +kernel
theorem dX8_init_43 : decode cX8_init 43 = .ok (.aload_n 0, 1) := by decide +kernel
theorem dX8_init_44 : decode cX8_init 44 = .ok (.bipush 12, 2) := by decide +kernel
theorem dX8_init_46 : decode cX8_init 46 = .ok (.newarray .int, 2) := by decide +kernel
theorem dX8_init_48 : decode cX8_init 48 = .ok (.putfield 30, 3) := by decide +kernel
theorem dX8_init_51 : decode cX8_init 51 = .ok (.aload_n 0, 1) := by decide +kernel
theorem dX8_init_52 : decode cX8_init 52 = .ok (.bipush 12, 2) := by decide +kernel
theorem dX8_init_54 : decode cX8_init 54 = .ok (.newarray .int, 2) := by decide +kernel
theorem dX8_init_56 : decode cX8_init 56 = .ok (.putfield 33, 3) := by decide +kernel
theorem dX8_init_59 : decode cX8_init 59 = .ok (.aload_n 0, 1) := by decide +kernel
theorem dX8_init_60 : decode cX8_init 60 = .ok (.bipush 12, 2) := by decide +kernel
theorem dX8_init_62 : decode cX8_init 62 = .ok (.newarray .int, 2) := by decide +kernel
theorem dX8_init_64 : decode cX8_init 64 = .ok (.putfield 36, 3) := by decide +kernel
theorem dX8_init_67 : decode cX8_init 67 = .ok (.aload_n 0, 1) := by decide +kernel
theorem dX8_init_68 : decode cX8_init 68 = .ok (.iconst 2, 1) := by decide +kernel
theorem dX8_init_69 : decode cX8_init 69 = .ok (.newarray .int, 2) := by decide +kernel
theorem dX8_init_71 : decode cX8_init 71 = .ok (.putfield 39, 3) := by decide +kernel
theorem dX8_init_74 : decode cX8_init 74 = .ok (.aload_n 0, 1) := by decide +kernel
theorem dX8_init_75 : decode cX8_init 75 = .ok (.sipush 144, 3) := by decide +kernel
theorem dX8_init_78 : decode cX8_init 78 = .ok (.newarray .int, 2) := by decide +kernel
theorem dX8_init_80 : decode cX8_init 80 = .ok (.putfield 42, 3) := by decide +kernel
theorem dX8_init_83 : decode cX8_init 83 = .ok (.aload_n 0, 1) := by decide +kernel
theorem dX8_init_84 : decode cX8_init 84 = .ok (.sipush 144, 3) := by decide +kernel
theorem dX8_init_87 : decode cX8_init 87 = .ok (.newarray .int, 2) := by decide +kernel
theorem dX8_init_89 : decode cX8_init 89 = .ok (.putfield 45, 3) := by decide +kernel
theorem dX8_init_92 : decode cX8_init 92 = .ok (.aload_n 0, 1) := by decide +kernel
theorem dX8_init_93 : decode cX8_init 93 = .ok (.sipush 144, 3) := by decide +kernel
theorem dX8_init_96 : decode cX8_init 96 = .ok (.newarray .int, 2) := by decide +kernel
theorem dX8_init_98 : decode cX8_init 98 = .ok (.putfield 48, 3) := by decide +kernel
theorem dX8_init_101 : decode cX8_init 101 = .ok (.aload_n 0, 1) := by decide +kernel
theorem dX8_init_102 : decode cX8_init 102 = .ok (.sipush 144, 3) := by decide +kernel
theorem dX8_init_105 : decode cX8_init 105 = .ok (.newarray .int, 2) := by decide +kernel
theorem dX8_init_107 : decode cX8_init 107 = .ok (.putfield 51, 3) := by decide +kernel
theorem dX8_init_110 : decode cX8_init 110 = .ok (.aload_n 0, 1) := by decide +kernel
theorem dX8_init_111 : decode cX8_init 111 = .ok (.sipush 186, 3) := by decide +kernel
theorem dX8_init_114 : decode cX8_init 114 = .ok (.newarray .int, 2) := by decide +kernel
theorem dX8_init_116 : decode cX8_init 116 = .ok (.putfield 54, 3) := by decide +kernel
theorem dX8_init_119 : decode cX8_init 119 = .ok (.aload_n 0, 1) := by decide +kernel
theorem dX8_init_120 : decode cX8_init 120 = .ok (.ldc 57, 2) := by decide +kernel
theorem dX8_init_122 : decode cX8_init 122 = .ok (.newarray .boolean, 2) := by decide +kernel
theorem dX8_init_124 : decode cX8_init 124 = .ok (.putfield 58, 3) := by decide +kernel
theorem dX8_init_127 : decode cX8_init 127 = .ok (.aload_n 0, 1) := by decide +kernel
theorem dX8_init_128 : decode cX8_init 128 = .ok (.bipush 40, 2) := by decide +kernel
theorem dX8_init_130 : decode cX8_init 130 = .ok (.newarray .int, 2) := by decide +kernel
theorem dX8_init_132 : decode cX8_init 132 = .ok (.putfield 61, 3) := by decide +kernel
theorem dX8_init_135 : decode cX8_init 135 = .ok (.aload_n 0, 1) := by decide +kernel
theorem dX8_init_136 : decode cX8_init 136 = .ok (.bipush 12, 2) := by decide +kernel
theorem dX8_init_138 : decode cX8_init 138 = .ok (.newarray .int, 2) := by decide +kernel
theorem dX8_init_140 : decode cX8_init 140 = .ok (.putfield 64, 3) := by decide +kernel
theorem dX8_init_143 : decode cX8_init 143 = .ok (.aload_n 0, 1) := by decide +kernel
theorem dX8_init_144 : decode cX8_init 144 = .ok (.iconst 4, 1) := by decide +kernel
theorem dX8_init_145 : decode cX8_init 145 = .ok (.newarray .int, 2) := by decide +kernel
theorem dX8_init_147 : decode cX8_init 147 = .ok (.dup, 1) := by decide +kernel
theorem dX8_init_148 : decode cX8_init 148 = .ok (.iconst 0, 1) := by decide +kernel
theorem dX8_init_149 : decode cX8_init 149 = .ok (.iconst (-1), 1) := by decide +kernel
theorem dX8_init_150 : decode cX8_init 150 = .ok (.iastore, 1) := by decide +kernel
theorem dX8_init_151 : decode cX8_init 151 = .ok (.dup, 1) := by decide +kernel
theorem dX8_init_152 : decode cX8_init 152 = .ok (.iconst 1, 1) := by decide +kernel
theorem dX8_init_153 : decode cX8_init 153 = .ok (.iconst (-1), 1) := by decide +kernel
theorem dX8_init_154 : decode cX8_init 154 = .ok (.iastore, 1) := by decide +kernel
theorem dX8_init_155 : decode cX8_init 155 = .ok (.dup, 1) := by decide +kernel
theorem dX8_init_156 : decode cX8_init 156 = .ok (.iconst 2, 1) := by decide +kernel
theorem dX8_init_157 : decode cX8_init 157 = .ok (.iconst (-1), 1) := by decide +kernel
theorem dX8_init_158 : decode cX8_init 158 = .ok (.iastore, 1) := by decide +kernel
theorem dX8_init_159 : decode cX8_init 159 = .ok (.dup, 1) := by decide +kernel
theorem dX8_init_160 : decode cX8_init 160 = .ok (.iconst 3, 1) := by decide +kernel
theorem dX8_init_161 : decode cX8_init 161 = .ok (.iconst (-1), 1) := by decide +kernel
theorem dX8_init_162 : decode cX8_init 162 = .ok (.iastore, 1) := by decide +kernel
theorem dX8_init_163 : decode cX8_init 163 = .ok (.putfield 67, 3) := by decide +kernel
theorem dX8_init_166 : decode cX8_init 166 = .ok (.aload_n 0, 1) := by decide +kernel
theorem dX8_init_167 : decode cX8_init 167 = .ok (.iconst 4, 1) := by decide +kernel
theorem dX8_init_168 : decode cX8_init 168 = .ok (.newarray .int, 2) := by decide +kernel
theorem dX8_init_170 : decode cX8_init 170 = .ok (.putfield 70, 3) := by decide +kernel
theorem dX8_init_173 : decode cX8_init 173 = .ok (.aload_n 0, 1) := by decide +kernel
theorem dX8_init_174 : decode cX8_init 174 = .ok (.sipush 160, 3) := by decide +kernel
theorem dX8_init_177 : decode cX8_init 177 = .ok (.newarray .long, 2) := by decide +kernel
theorem dX8_init_179 : decode cX8_init 179 = .ok (.putfield 73, 3) := by decide +kernel
theorem dX8_init_182 : decode cX8_init 182 = .ok (.aload_n 0, 1) := by decide +kernel
theorem dX8_init_183 : decode cX8_init 183 = .ok (.getfield 13, 3) := by decide +kernel
theorem dX8_init_186 : decode cX8_init 186 = .ok (.iconst 3, 1) := by decide +kernel
theorem dX8_init_187 : decode cX8_init 187 = .ok (.bipush 60, 2) := by decide +kernel
theorem dX8_init_189 : decode cX8_init 189 = .ok (.iastore, 1) := by decide +kernel
theorem dX8_init_190 : decode cX8_init 190 = .ok (.return_, 1) := by decide +kernel
theorem dX8_feed_0 : decode cX8_feed 0 = .ok (.aload_n 0, 1) := by decide +kernel
theorem dX8_feed_1 : decode cX8_feed 1 = .ok (.iconst 0, 1) := by decide +kernel
theorem dX8_feed_2 : decode cX8_feed 2 = .ok (.putfield 1, 3) := by decide +kernel
theorem dX8_feed_5 : decode cX8_feed 5 = .ok (.aload_n 0, 1) := by decide +kernel
theorem dX8_feed_6 : decode cX8_feed 6 = .ok (.getfield 77, 3) := by decide +kernel
theorem dX8_feed_9 : decode cX8_feed 9 = .ok (.bipush 20, 2) := by decide +kernel
theorem dX8_feed_11 : decode cX8_feed 11 = .ok (.iadd, 1) := by decide +kernel
theorem dX8_feed_12 : decode cX8_feed 12 = .ok (.sipush 900, 3) := by decide +kernel
theorem dX8_feed_15 : decode cX8_feed 15 = .ok (.if_icmp .le 6, 3) := by decide +kernel
theorem dX8_feed_18 : decode cX8_feed 18 = .ok (.bipush (-5), 2) := by decide +kernel
theorem dX8_feed_20 : decode cX8_feed 20 = .ok (.ireturn, 1) := by decide +kernel
theorem dX8_feed_21 : decode cX8_feed 21 = .ok (.iconst 0, 1) := by decide +kernel
theorem dX8_feed_22 : decode cX8_feed 22 = .ok (.istore 6, 2) := by decide +kernel
theorem dX8_feed_24 : decode cX8_feed 24 = .ok (.iload 6, 2) := by decide +kernel
theorem dX8_feed_26 : decode cX8_feed 26 = .ok (.bipush 20, 2) := by decide +kernel
theorem dX8_feed_28 : decode cX8_feed 28 = .ok (.if_icmp .ge 93, 3) := by decide +kernel
theorem dX8_feed_31 : decode cX8_feed 31 = .ok (.iload 6, 2) := by decide +kernel
theorem dX8_feed_33 : decode cX8_feed 33 = .ok (.iconst 4, 1) := by decide +kernel
theorem dX8_feed_34 : decode cX8_feed 34 = .ok (.if_icmp .ge 7, 3) := by decide +kernel
theorem dX8_feed_37 : decode cX8_feed 37 = .ok (.iload_n 1, 1) := by decide +kernel
theorem dX8_feed_38 : decode cX8_feed 38 = .ok (.goto 39, 3) := by decide +kernel
theorem dX8_feed_41 : decode cX8_feed 41 = .ok (.iload 6, 2) := by decide +kernel
theorem dX8_feed_43 : decode cX8_feed 43 = .ok (.bipush 8, 2) := by decide +kernel
theorem dX8_feed_45 : decode cX8_feed 45 = .ok (.if_icmp .ge 7, 3) := by decide +kernel
theorem dX8_feed_48 : decode cX8_feed 48 = .ok (.iload_n 2, 1) := by decide +kernel
theorem dX8_feed_49 : decode cX8_feed 49 = .ok (.goto 28, 3) := by decide +kernel
theorem dX8_feed_52 : decode cX8_feed 52 = .ok (.iload 6, 2) := by decide +kernel
theorem dX8_feed_54 : decode cX8_feed 54 = .ok (.bipush 12, 2) := by decide +kernel
theorem dX8_feed_56 : decode cX8_feed 56 = .ok (.if_icmp .ge 7, 3) := by decide +kernel
theorem dX8_feed_59 : decode cX8_feed 59 = .ok (.iload_n 3, 1) := by decide +kernel
theorem dX8_feed_60 : decode cX8_feed 60 = .ok (.goto 17, 3) := by decide +kernel
theorem dX8_feed_63 : decode cX8_feed 63 = .ok (.iload 6, 2) := by decide +kernel
theorem dX8_feed_65 : decode cX8_feed 65 = .ok (.bipush 16, 2) := by decide +kernel
theorem dX8_feed_67 : decode cX8_feed 67 = .ok (.if_icmp .ge 8, 3) := by decide +kernel
theorem dX8_feed_70 : decode cX8_feed 70 = .ok (.iload 4, 2) := by decide +kernel
theorem dX8_feed_72 : decode cX8_feed 72 = .ok (.goto 5, 3) := by decide +kernel
theorem dX8_feed_75 : decode cX8_feed 75 = .ok (.iload 5, 2) := by decide +kernel
theorem dX8_feed_77 : decode cX8_feed 77 = .ok (.istore 7, 2) := by decide +kernel
theorem dX8_feed_79 : decode cX8_feed 79 = .ok (.aload_n 0, 1) := by decide +kernel
theorem dX8_feed_80 : decode cX8_feed 80 = .ok (.getfield 21, 3) := by decide +kernel
theorem dX8_feed_83 : decode cX8_feed 83 = .ok (.aload_n 0, 1) := by decide +kernel
theorem dX8_feed_84 : decode cX8_feed 84 = .ok (.getfield 77, 3) := by decide +kernel
theorem dX8_feed_87 : decode cX8_feed 87 = .ok (.iload 7, 2) := by decide +kernel
theorem dX8_feed_89 : decode cX8_feed 89 = .ok (.bipush 24, 2) := by decide +kernel
theorem dX8_feed_91 : decode cX8_feed 91 = .ok (.bipush 8, 2) := by decide +kernel
theorem dX8_feed_93 : decode cX8_feed 93 = .ok (.iload 6, 2) := by decide +kernel
theorem dX8_feed_95 : decode cX8_feed 95 = .ok (.iconst 4, 1) := by decide +kernel
theorem dX8_feed_96 : decode cX8_feed 96 = .ok (.irem, 1) := by decide +kernel
theorem dX8_feed_97 : decode cX8_feed 97 = .ok (.imul, 1) := by decide +kernel
theorem dX8_feed_98 : decode cX8_feed 98 = .ok (.isub, 1) := by decide +kernel
theorem dX8_feed_99 : decode cX8_feed 99 = .ok (.ishr, 1) := by decide +kernel
theorem dX8_feed_100 : decode cX8_feed 100 = .ok (.sipush 255, 3) := by decide +kernel
theorem dX8_feed_103 : decode cX8_feed 103 = .ok (.iand, 1) := by decide +kernel
theorem dX8_feed_104 : decode cX8_feed 104 = .ok (.iastore, 1) := by decide +kernel
theorem dX8_feed_105 : decode cX8_feed 105 = .ok (.aload_n 0, 1) := by decide +kernel
theorem dX8_feed_106 : decode cX8_feed 106 = .ok (.dup, 1) := by decide +kernel
theorem dX8_feed_107 : decode cX8_feed 107 = .ok (.getfield 77, 3) := by decide +kernel
theorem dX8_feed_110 : decode cX8_feed 110 = .ok (.iconst 1, 1) := by decide +kernel
theorem dX8_feed_111 : decode cX8_feed 111 = .ok (.iadd, 1) := by decide +kernel
theorem dX8_feed_112 : decode cX8_feed 112 = .ok (.putfield 77, 3) := by decide +kernel
theorem dX8_feed_115 : decode cX8_feed 115 = .ok (.iinc 6 1, 3) := by decide +kernel
theorem dX8_feed_118 : decode cX8_feed 118 = .ok (.goto (-94), 3) := by decide +kernel
theorem dX8_feed_121 : decode cX8_feed 121 = .ok (.aload_n 0, 1) := by decide +kernel
theorem dX8_feed_122 : decode cX8_feed 122 = .ok (.getfield 77, 3) := by decide +kernel
theorem dX8_feed_125 : decode cX8_feed 125 = .ok (.ireturn, 1) := by decide +kernel
theorem dX8_see_0 : decode cX8_see 0 = .ok (.iload_n 1, 1) := by decide +kernel
theorem dX8_see_1 : decode cX8_see 1 = .ok (.aload_n 0, 1) := by decide +kernel
theorem dX8_see_2 : decode cX8_see 2 = .ok (.getfield 80, 3) := by decide +kernel
theorem dX8_see_5 : decode cX8_see 5 = .ok (.if_icmp .ge 12, 3) := by decide +kernel
theorem dX8_see_8 : decode cX8_see 8 = .ok (.aload_n 0, 1) := by decide +kernel
theorem dX8_see_9 : decode cX8_see 9 = .ok (.getfield 21, 3) := by decide +kernel
theorem dX8_see_12 : decode cX8_see 12 = .ok (.iload_n 1, 1) := by decide +kernel
theorem dX8_see_13 : decode cX8_see 13 = .ok (.iaload, 1) := by decide +kernel
theorem dX8_see_14 : decode cX8_see 14 = .ok (.goto 4, 3) := by decide +kernel
theorem dX8_see_17 : decode cX8_see 17 = .ok (.iconst (-1), 1) := by decide +kernel
theorem dX8_see_18 : decode cX8_see 18 = .ok (.ireturn, 1) := by decide +kernel
theorem dX8_isSmall_0 : decode cX8_isSmall 0 = .ok (.iload_n 0, 1) := by decide +kernel
theorem dX8_isSmall_1 : decode cX8_isSmall 1 = .ok (.bipush 97, 2) := by decide +kernel
theorem dX8_isSmall_3 : decode cX8_isSmall 3 = .ok (.if_icmp .lt 13, 3) := by decide +kernel
theorem dX8_isSmall_6 : decode cX8_isSmall 6 = .ok (.iload_n 0, 1) := by decide +kernel
theorem dX8_isSmall_7 : decode cX8_isSmall 7 = .ok (.bipush 122, 2) := by decide +kernel
theorem dX8_isSmall_9 : decode cX8_isSmall 9 = .ok (.if_icmp .gt 7, 3) := by decide +kernel
theorem dX8_isSmall_12 : decode cX8_isSmall 12 = .ok (.iconst 1, 1) := by decide +kernel
theorem dX8_isSmall_13 : decode cX8_isSmall 13 = .ok (.goto 4, 3) := by decide +kernel
theorem dX8_isSmall_16 : decode cX8_isSmall 16 = .ok (.iconst 0, 1) := by decide +kernel
theorem dX8_isSmall_17 : decode cX8_isSmall 17 = .ok (.ireturn, 1) := by decide +kernel
theorem dX8_isDigit_0 : decode cX8_isDigit 0 = .ok (.iload_n 0, 1) := by decide +kernel
theorem dX8_isDigit_1 : decode cX8_isDigit 1 = .ok (.bipush 48, 2) := by decide +kernel
theorem dX8_isDigit_3 : decode cX8_isDigit 3 = .ok (.if_icmp .lt 13, 3) := by decide +kernel
theorem dX8_isDigit_6 : decode cX8_isDigit 6 = .ok (.iload_n 0, 1) := by decide +kernel
theorem dX8_isDigit_7 : decode cX8_isDigit 7 = .ok (.bipush 57, 2) := by decide +kernel
theorem dX8_isDigit_9 : decode cX8_isDigit 9 = .ok (.if_icmp .gt 7, 3) := by decide +kernel
theorem dX8_isDigit_12 : decode cX8_isDigit 12 = .ok (.iconst 1, 1) := by decide +kernel
theorem dX8_isDigit_13 : decode cX8_isDigit 13 = .ok (.goto 4, 3) := by decide +kernel
theorem dX8_isDigit_16 : decode cX8_isDigit 16 = .ok (.iconst 0, 1) := by decide +kernel
theorem dX8_isDigit_17 : decode cX8_isDigit 17 = .ok (.ireturn, 1) := by decide +kernel
theorem dX8_keyAt_0 : decode cX8_keyAt 0 = .ok (.iconst 0, 1) := by decide +kernel
theorem dX8_keyAt_1 : decode cX8_keyAt 1 = .ok (.istore_n 1, 1) := by decide +kernel
theorem dX8_keyAt_2 : decode cX8_keyAt 2 = .ok (.iconst 1, 1) := by decide +kernel
theorem dX8_keyAt_3 : decode cX8_keyAt 3 = .ok (.istore_n 2, 1) := by decide +kernel
theorem dX8_keyAt_4 : decode cX8_keyAt 4 = .ok (.iload_n 2, 1) := by decide +kernel
theorem dX8_keyAt_5 : decode cX8_keyAt 5 = .ok (.ldc 83, 2) := by decide +kernel
theorem dX8_keyAt_7 : decode cX8_keyAt 7 = .ok (.invokevirtual 85, 3) := by decide +kernel
theorem dX8_keyAt_10 : decode cX8_keyAt 10 = .ok (.if_icmp .ge 113, 3) := by decide +kernel
theorem dX8_keyAt_13 : decode cX8_keyAt 13 = .ok (.iconst 0, 1) := by decide +kernel
theorem dX8_keyAt_14 : decode cX8_keyAt 14 = .ok (.istore_n 3, 1) := by decide +kernel
theorem dX8_keyAt_15 : decode cX8_keyAt 15 = .ok (.ldc 83, 2) := by decide +kernel
theorem dX8_keyAt_17 : decode cX8_keyAt 17 = .ok (.iload_n 2, 1) := by decide +kernel
theorem dX8_keyAt_18 : decode cX8_keyAt 18 = .ok (.iload_n 3, 1) := by decide +kernel
theorem dX8_keyAt_19 : decode cX8_keyAt 19 = .ok (.iadd, 1) := by decide +kernel
theorem dX8_keyAt_20 : decode cX8_keyAt 20 = .ok (.invokevirtual 91, 3) := by decide +kernel
theorem dX8_keyAt_23 : decode cX8_keyAt 23 = .ok (.bipush 32, 2) := by decide +kernel
theorem dX8_keyAt_25 : decode cX8_keyAt 25 = .ok (.if_icmp .eq 44, 3) := by decide +kernel
theorem dX8_keyAt_28 : decode cX8_keyAt 28 = .ok (.aload_n 0, 1) := by decide +kernel
theorem dX8_keyAt_29 : decode cX8_keyAt 29 = .ok (.getfield 95, 3) := by decide +kernel
theorem dX8_keyAt_32 : decode cX8_keyAt 32 = .ok (.iload_n 3, 1) := by decide +kernel
theorem dX8_keyAt_33 : decode cX8_keyAt 33 = .ok (.iadd, 1) := by decide +kernel
theorem dX8_keyAt_34 : decode cX8_keyAt 34 = .ok (.aload_n 0, 1) := by decide +kernel
theorem dX8_keyAt_35 : decode cX8_keyAt 35 = .ok (.getfield 98, 3) := by decide +kernel
theorem dX8_keyAt_38 : decode cX8_keyAt 38 = .ok (.if_icmp .ge 31, 3) := by decide +kernel
theorem dX8_keyAt_41 : decode cX8_keyAt 41 = .ok (.aload_n 0, 1) := by decide +kernel
theorem dX8_keyAt_42 : decode cX8_keyAt 42 = .ok (.getfield 21, 3) := by decide +kernel
theorem dX8_keyAt_45 : decode cX8_keyAt 45 = .ok (.aload_n 0, 1) := by decide +kernel
theorem dX8_keyAt_46 : decode cX8_keyAt 46 = .ok (.getfield 95, 3) := by decide +kernel
theorem dX8_keyAt_49 : decode cX8_keyAt 49 = .ok (.iload_n 3, 1) := by decide +kernel
theorem dX8_keyAt_50 : decode cX8_keyAt 50 = .ok (.iadd, 1) := by decide +kernel
theorem dX8_keyAt_51 : decode cX8_keyAt 51 = .ok (.iaload, 1) := by decide +kernel
theorem dX8_keyAt_52 : decode cX8_keyAt 52 = .ok (.ldc 83, 2) := by decide +kernel
theorem dX8_keyAt_54 : decode cX8_keyAt 54 = .ok (.iload_n 2, 1) := by decide +kernel
theorem dX8_keyAt_55 : decode cX8_keyAt 55 = .ok (.iload_n 3, 1) := by decide +kernel
theorem dX8_keyAt_56 : decode cX8_keyAt 56 = .ok (.iadd, 1) := by decide +kernel
theorem dX8_keyAt_57 : decode cX8_keyAt 57 = .ok (.invokevirtual 91, 3) := by decide +kernel
theorem dX8_keyAt_60 : decode cX8_keyAt 60 = .ok (.if_icmp .ne 9, 3) := by decide +kernel
theorem dX8_keyAt_63 : decode cX8_keyAt 63 = .ok (.iinc 3 1, 3) := by decide +kernel
theorem dX8_keyAt_66 : decode cX8_keyAt 66 = .ok (.goto (-51), 3) := by decide +kernel
theorem dX8_keyAt_69 : decode cX8_keyAt 69 = .ok (.ldc 83, 2) := by decide +kernel
theorem dX8_keyAt_71 : decode cX8_keyAt 71 = .ok (.iload_n 2, 1) := by decide +kernel
theorem dX8_keyAt_72 : decode cX8_keyAt 72 = .ok (.iload_n 3, 1) := by decide +kernel
theorem dX8_keyAt_73 : decode cX8_keyAt 73 = .ok (.iadd, 1) := by decide +kernel
theorem dX8_keyAt_74 : decode cX8_keyAt 74 = .ok (.invokevirtual 91, 3) := by decide +kernel
theorem dX8_keyAt_77 : decode cX8_keyAt 77 = .ok (.bipush 32, 2) := by decide +kernel
theorem dX8_keyAt_79 : decode cX8_keyAt 79 = .ok (.if_icmp .ne 18, 3) := by decide +kernel
theorem dX8_keyAt_82 : decode cX8_keyAt 82 = .ok (.aload_n 0, 1) := by decide +kernel
theorem dX8_keyAt_83 : decode cX8_keyAt 83 = .ok (.getfield 95, 3) := by decide +kernel
theorem dX8_keyAt_86 : decode cX8_keyAt 86 = .ok (.iload_n 3, 1) := by decide +kernel
theorem dX8_keyAt_87 : decode cX8_keyAt 87 = .ok (.iadd, 1) := by decide +kernel
theorem dX8_keyAt_88 : decode cX8_keyAt 88 = .ok (.aload_n 0, 1) := by decide +kernel
theorem dX8_keyAt_89 : decode cX8_keyAt 89 = .ok (.getfield 98, 3) := by decide +kernel
theorem dX8_keyAt_92 : decode cX8_keyAt 92 = .ok (.if_icmp .ne 5, 3) := by decide +kernel
theorem dX8_keyAt_95 : decode cX8_keyAt 95 = .ok (.iload_n 1, 1) := by decide +kernel
theorem dX8_keyAt_96 : decode cX8_keyAt 96 = .ok (.ireturn, 1) := by decide +kernel
theorem dX8_keyAt_97 : decode cX8_keyAt 97 = .ok (.ldc 83, 2) := by decide +kernel
theorem dX8_keyAt_99 : decode cX8_keyAt 99 = .ok (.iload_n 2, 1) := by decide +kernel
theorem dX8_keyAt_100 : decode cX8_keyAt 100 = .ok (.invokevirtual 91, 3) := by decide +kernel
theorem dX8_keyAt_103 : decode cX8_keyAt 103 = .ok (.bipush 32, 2) := by decide +kernel
theorem dX8_keyAt_105 : decode cX8_keyAt 105 = .ok (.if_icmp .eq 9, 3) := by decide +kernel
theorem dX8_keyAt_108 : decode cX8_keyAt 108 = .ok (.iinc 2 1, 3) := by decide +kernel
theorem dX8_keyAt_111 : decode cX8_keyAt 111 = .ok (.goto (-14), 3) := by decide +kernel
theorem dX8_keyAt_114 : decode cX8_keyAt 114 = .ok (.iinc 2 1, 3) := by decide +kernel
theorem dX8_keyAt_117 : decode cX8_keyAt 117 = .ok (.iinc 1 1, 3) := by decide +kernel
theorem dX8_keyAt_120 : decode cX8_keyAt 120 = .ok (.goto (-116), 3) := by decide +kernel
theorem dX8_keyAt_123 : decode cX8_keyAt 123 = .ok (.bipush 7, 2) := by decide +kernel
theorem dX8_keyAt_125 : decode cX8_keyAt 125 = .ok (.ireturn, 1) := by decide +kernel
theorem dX8_next_0 : decode cX8_next 0 = .ok (.aload_n 0, 1) := by decide +kernel
theorem dX8_next_1 : decode cX8_next 1 = .ok (.aload_n 0, 1) := by decide +kernel
theorem dX8_next_2 : decode cX8_next 2 = .ok (.getfield 98, 3) := by decide +kernel
theorem dX8_next_5 : decode cX8_next 5 = .ok (.putfield 95, 3) := by decide +kernel
theorem dX8_next_8 : decode cX8_next 8 = .ok (.aload_n 0, 1) := by decide +kernel
theorem dX8_next_9 : decode cX8_next 9 = .ok (.aload_n 0, 1) := by decide +kernel
theorem dX8_next_10 : decode cX8_next 10 = .ok (.getfield 95, 3) := by decide +kernel
theorem dX8_next_13 : decode cX8_next 13 = .ok (.invokevirtual 101, 3) := by decide +kernel
theorem dX8_next_16 : decode cX8_next 16 = .ok (.bipush 10, 2) := by decide +kernel
theorem dX8_next_18 : decode cX8_next 18 = .ok (.if_icmp .eq 16, 3) := by decide +kernel
theorem dX8_next_21 : decode cX8_next 21 = .ok (.aload_n 0, 1) := by decide +kernel
theorem dX8_next_22 : decode cX8_next 22 = .ok (.aload_n 0, 1) := by decide +kernel
theorem dX8_next_23 : decode cX8_next 23 = .ok (.getfield 95, 3) := by decide +kernel
theorem dX8_next_26 : decode cX8_next 26 = .ok (.invokevirtual 101, 3) := by decide +kernel
theorem dX8_next_29 : decode cX8_next 29 = .ok (.bipush 32, 2) := by decide +kernel
theorem dX8_next_31 : decode cX8_next 31 = .ok (.if_icmp .ne 16, 3) := by decide +kernel
theorem dX8_next_34 : decode cX8_next 34 = .ok (.aload_n 0, 1) := by decide +kernel
theorem dX8_next_35 : decode cX8_next 35 = .ok (.dup, 1) := by decide +kernel
theorem dX8_next_36 : decode cX8_next 36 = .ok (.getfield 95, 3) := by decide +kernel
theorem dX8_next_39 : decode cX8_next 39 = .ok (.iconst 1, 1) := by decide +kernel
theorem dX8_next_40 : decode cX8_next 40 = .ok (.iadd, 1) := by decide +kernel
theorem dX8_next_41 : decode cX8_next 41 = .ok (.putfield 95, 3) := by decide +kernel
theorem dX8_next_44 : decode cX8_next 44 = .ok (.goto (-36), 3) := by decide +kernel
theorem dX8_next_47 : decode cX8_next 47 = .ok (.aload_n 0, 1) := by decide +kernel
theorem dX8_next_48 : decode cX8_next 48 = .ok (.aload_n 0, 1) := by decide +kernel
theorem dX8_next_49 : decode cX8_next 49 = .ok (.getfield 95, 3) := by decide +kernel
theorem dX8_next_52 : decode cX8_next 52 = .ok (.putfield 98, 3) := by decide +kernel
theorem dX8_next_55 : decode cX8_next 55 = .ok (.aload_n 0, 1) := by decide +kernel
theorem dX8_next_56 : decode cX8_next 56 = .ok (.getfield 95, 3) := by decide +kernel
theorem dX8_next_59 : decode cX8_next 59 = .ok (.aload_n 0, 1) := by decide +kernel
theorem dX8_next_60 : decode cX8_next 60 = .ok (.getfield 80, 3) := by decide +kernel
theorem dX8_next_63 : decode cX8_next 63 = .ok (.if_icmp .lt 12, 3) := by decide +kernel
theorem dX8_next_66 : decode cX8_next 66 = .ok (.aload_n 0, 1) := by decide +kernel
theorem dX8_next_67 : decode cX8_next 67 = .ok (.bipush 10, 2) := by decide +kernel
theorem dX8_next_69 : decode cX8_next 69 = .ok (.putfield 105, 3) := by decide +kernel
theorem dX8_next_72 : decode cX8_next 72 = .ok (.goto 198, 3) := by decide +kernel
theorem dX8_next_75 : decode cX8_next 75 = .ok (.aload_n 0, 1) := by decide +kernel
theorem dX8_next_76 : decode cX8_next 76 = .ok (.aload_n 0, 1) := by decide +kernel
theorem dX8_next_77 : decode cX8_next 77 = .ok (.getfield 95, 3) := by decide +kernel
theorem dX8_next_80 : decode cX8_next 80 = .ok (.invokevirtual 101, 3) := by decide +kernel
theorem dX8_next_83 : decode cX8_next 83 = .ok (.invokestatic 108, 3) := by decide +kernel
theorem dX8_next_86 : decode cX8_next 86 = .ok (.ifCond .eq 41, 3) := by decide +kernel
theorem dX8_next_89 : decode cX8_next 89 = .ok (.aload_n 0, 1) := by decide +kernel
theorem dX8_next_90 : decode cX8_next 90 = .ok (.aload_n 0, 1) := by decide +kernel
theorem dX8_next_91 : decode cX8_next 91 = .ok (.getfield 98, 3) := by decide +kernel
theorem dX8_next_94 : decode cX8_next 94 = .ok (.invokevirtual 101, 3) := by decide +kernel
theorem dX8_next_97 : decode cX8_next 97 = .ok (.invokestatic 108, 3) := by decide +kernel
theorem dX8_next_100 : decode cX8_next 100 = .ok (.ifCond .eq 16, 3) := by decide +kernel
theorem dX8_next_103 : decode cX8_next 103 = .ok (.aload_n 0, 1) := by decide +kernel
theorem dX8_next_104 : decode cX8_next 104 = .ok (.dup, 1) := by decide +kernel
theorem dX8_next_105 : decode cX8_next 105 = .ok (.getfield 98, 3) := by decide +kernel
theorem dX8_next_108 : decode cX8_next 108 = .ok (.iconst 1, 1) := by decide +kernel
theorem dX8_next_109 : decode cX8_next 109 = .ok (.iadd, 1) := by decide +kernel
theorem dX8_next_110 : decode cX8_next 110 = .ok (.putfield 98, 3) := by decide +kernel
theorem dX8_next_113 : decode cX8_next 113 = .ok (.goto (-24), 3) := by decide +kernel
theorem dX8_next_116 : decode cX8_next 116 = .ok (.aload_n 0, 1) := by decide +kernel
theorem dX8_next_117 : decode cX8_next 117 = .ok (.aload_n 0, 1) := by decide +kernel
theorem dX8_next_118 : decode cX8_next 118 = .ok (.invokevirtual 112, 3) := by decide +kernel
theorem dX8_next_121 : decode cX8_next 121 = .ok (.putfield 105, 3) := by decide +kernel
theorem dX8_next_124 : decode cX8_next 124 = .ok (.goto 146, 3) := by decide +kernel
theorem dX8_next_127 : decode cX8_next 127 = .ok (.aload_n 0, 1) := by decide +kernel
theorem dX8_next_128 : decode cX8_next 128 = .ok (.aload_n 0, 1) := by decide +kernel
theorem dX8_next_129 : decode cX8_next 129 = .ok (.getfield 95, 3) := by decide +kernel
theorem dX8_next_132 : decode cX8_next 132 = .ok (.invokevirtual 101, 3) := by decide +kernel
theorem dX8_next_135 : decode cX8_next 135 = .ok (.invokestatic 115, 3) := by decide +kernel
theorem dX8_next_138 : decode cX8_next 138 = .ok (.ifCond .eq 98, 3) := by decide +kernel
theorem dX8_next_141 : decode cX8_next 141 = .ok (.aload_n 0, 1) := by decide +kernel
theorem dX8_next_142 : decode cX8_next 142 = .ok (.iconst 0, 1) := by decide +kernel
theorem dX8_next_143 : decode cX8_next 143 = .ok (.putfield 118, 3) := by decide +kernel
theorem dX8_next_146 : decode cX8_next 146 = .ok (.aload_n 0, 1) := by decide +kernel
theorem dX8_next_147 : decode cX8_next 147 = .ok (.aload_n 0, 1) := by decide +kernel
theorem dX8_next_148 : decode cX8_next 148 = .ok (.getfield 98, 3) := by decide +kernel
theorem dX8_next_151 : decode cX8_next 151 = .ok (.invokevirtual 101, 3) := by decide +kernel
theorem dX8_next_154 : decode cX8_next 154 = .ok (.invokestatic 115, 3) := by decide +kernel
theorem dX8_next_157 : decode cX8_next 157 = .ok (.ifCond .eq 52, 3) := by decide +kernel
theorem dX8_next_160 : decode cX8_next 160 = .ok (.aload_n 0, 1) := by decide +kernel
theorem dX8_next_161 : decode cX8_next 161 = .ok (.getfield 98, 3) := by decide +kernel
theorem dX8_next_164 : decode cX8_next 164 = .ok (.aload_n 0, 1) := by decide +kernel
theorem dX8_next_165 : decode cX8_next 165 = .ok (.getfield 95, 3) := by decide +kernel
theorem dX8_next_168 : decode cX8_next 168 = .ok (.isub, 1) := by decide +kernel
theorem dX8_next_169 : decode cX8_next 169 = .ok (.iconst 4, 1) := by decide +kernel
theorem dX8_next_170 : decode cX8_next 170 = .ok (.if_icmp .ge 26, 3) := by decide +kernel
theorem dX8_next_173 : decode cX8_next 173 = .ok (.aload_n 0, 1) := by decide +kernel
theorem dX8_next_174 : decode cX8_next 174 = .ok (.bipush 10, 2) := by decide +kernel
theorem dX8_next_176 : decode cX8_next 176 = .ok (.aload_n 0, 1) := by decide +kernel
theorem dX8_next_177 : decode cX8_next 177 = .ok (.getfield 118, 3) := by decide +kernel
theorem dX8_next_180 : decode cX8_next 180 = .ok (.imul, 1) := by decide +kernel
theorem dX8_next_181 : decode cX8_next 181 = .ok (.aload_n 0, 1) := by decide +kernel
theorem dX8_next_182 : decode cX8_next 182 = .ok (.aload_n 0, 1) := by decide +kernel
theorem dX8_next_183 : decode cX8_next 183 = .ok (.getfield 98, 3) := by decide +kernel
theorem dX8_next_186 : decode cX8_next 186 = .ok (.invokevirtual 101, 3) := by decide +kernel
theorem dX8_next_189 : decode cX8_next 189 = .ok (.iadd, 1) := by decide +kernel
theorem dX8_next_190 : decode cX8_next 190 = .ok (.bipush 48, 2) := by decide +kernel
theorem dX8_next_192 : decode cX8_next 192 = .ok (.isub, 1) := by decide +kernel
theorem dX8_next_193 : decode cX8_next 193 = .ok (.putfield 118, 3) := by decide +kernel
theorem dX8_next_196 : decode cX8_next 196 = .ok (.aload_n 0, 1) := by decide +kernel
theorem dX8_next_197 : decode cX8_next 197 = .ok (.dup, 1) := by decide +kernel
theorem dX8_next_198 : decode cX8_next 198 = .ok (.getfield 98, 3) := by decide +kernel
theorem dX8_next_201 : decode cX8_next 201 = .ok (.iconst 1, 1) := by decide +kernel
theorem dX8_next_202 : decode cX8_next 202 = .ok (.iadd, 1) := by decide +kernel
theorem dX8_next_203 : decode cX8_next 203 = .ok (.putfield 98, 3) := by decide +kernel
theorem dX8_next_206 : decode cX8_next 206 = .ok (.goto (-60), 3) := by decide +kernel
theorem dX8_next_209 : decode cX8_next 209 = .ok (.aload_n 0, 1) := by decide +kernel
theorem dX8_next_210 : decode cX8_next 210 = .ok (.aload_n 0, 1) := by decide +kernel
theorem dX8_next_211 : decode cX8_next 211 = .ok (.getfield 98, 3) := by decide +kernel
theorem dX8_next_214 : decode cX8_next 214 = .ok (.aload_n 0, 1) := by decide +kernel
theorem dX8_next_215 : decode cX8_next 215 = .ok (.getfield 95, 3) := by decide +kernel
theorem dX8_next_218 : decode cX8_next 218 = .ok (.isub, 1) := by decide +kernel
theorem dX8_next_219 : decode cX8_next 219 = .ok (.iconst 4, 1) := by decide +kernel
theorem dX8_next_220 : decode cX8_next 220 = .ok (.if_icmp .le 8, 3) := by decide +kernel
theorem dX8_next_223 : decode cX8_next 223 = .ok (.bipush 11, 2) := by decide +kernel
theorem dX8_next_225 : decode cX8_next 225 = .ok (.goto 5, 3) := by decide +kernel
theorem dX8_next_228 : decode cX8_next 228 = .ok (.bipush 8, 2) := by decide +kernel
theorem dX8_next_230 : decode cX8_next 230 = .ok (.putfield 105, 3) := by decide +kernel
theorem dX8_next_233 : decode cX8_next 233 = .ok (.goto 37, 3) := by decide +kernel
theorem dX8_next_236 : decode cX8_next 236 = .ok (.aload_n 0, 1) := by decide +kernel
theorem dX8_next_237 : decode cX8_next 237 = .ok (.dup, 1) := by decide +kernel
theorem dX8_next_238 : decode cX8_next 238 = .ok (.getfield 98, 3) := by decide +kernel
theorem dX8_next_241 : decode cX8_next 241 = .ok (.iconst 1, 1) := by decide +kernel
theorem dX8_next_242 : decode cX8_next 242 = .ok (.iadd, 1) := by decide +kernel
theorem dX8_next_243 : decode cX8_next 243 = .ok (.putfield 98, 3) := by decide +kernel
theorem dX8_next_246 : decode cX8_next 246 = .ok (.aload_n 0, 1) := by decide +kernel
theorem dX8_next_247 : decode cX8_next 247 = .ok (.aload_n 0, 1) := by decide +kernel
theorem dX8_next_248 : decode cX8_next 248 = .ok (.aload_n 0, 1) := by decide +kernel
theorem dX8_next_249 : decode cX8_next 249 = .ok (.getfield 95, 3) := by decide +kernel
theorem dX8_next_252 : decode cX8_next 252 = .ok (.invokevirtual 101, 3) := by decide +kernel
theorem dX8_next_255 : decode cX8_next 255 = .ok (.bipush 59, 2) := by decide +kernel
theorem dX8_next_257 : decode cX8_next 257 = .ok (.if_icmp .ne 8, 3) := by decide +kernel
theorem dX8_next_260 : decode cX8_next 260 = .ok (.bipush 9, 2) := by decide +kernel
theorem dX8_next_262 : decode cX8_next 262 = .ok (.goto 5, 3) := by decide +kernel
theorem dX8_next_265 : decode cX8_next 265 = .ok (.bipush 11, 2) := by decide +kernel
theorem dX8_next_267 : decode cX8_next 267 = .ok (.putfield 105, 3) := by decide +kernel
theorem dX8_next_270 : decode cX8_next 270 = .ok (.return_, 1) := by decide +kernel
theorem dX8_fails_0 : decode cX8_fails 0 = .ok (.aload_n 0, 1) := by decide +kernel
theorem dX8_fails_1 : decode cX8_fails 1 = .ok (.getfield 121, 3) := by decide +kernel
theorem dX8_fails_4 : decode cX8_fails 4 = .ok (.ifCond .eq 4, 3) := by decide +kernel
theorem dX8_fails_7 : decode cX8_fails 7 = .ok (.return_, 1) := by decide +kernel
theorem dX8_fails_8 : decode cX8_fails 8 = .ok (.aload_n 0, 1) := by decide +kernel
theorem dX8_fails_9 : decode cX8_fails 9 = .ok (.aload_n 0, 1) := by decide +kernel
theorem dX8_fails_10 : decode cX8_fails 10 = .ok (.getfield 105, 3) := by decide +kernel
theorem dX8_fails_13 : decode cX8_fails 13 = .ok (.bipush 11, 2) := by decide +kernel
theorem dX8_fails_15 : decode cX8_fails 15 = .ok (.if_icmp .ne 7, 3) := by decide +kernel
theorem dX8_fails_18 : decode cX8_fails 18 = .ok (.iconst 1, 1) := by decide +kernel
theorem dX8_fails_19 : decode cX8_fails 19 = .ok (.goto 4, 3) := by decide +kernel
theorem dX8_fails_22 : decode cX8_fails 22 = .ok (.iload_n 1, 1) := by decide +kernel
theorem dX8_fails_23 : decode cX8_fails 23 = .ok (.putfield 121, 3) := by decide +kernel
theorem dX8_fails_26 : decode cX8_fails 26 = .ok (.aload_n 0, 1) := by decide +kernel
theorem dX8_fails_27 : decode cX8_fails 27 = .ok (.aload_n 0, 1) := by decide +kernel
theorem dX8_fails_28 : decode cX8_fails 28 = .ok (.getfield 95, 3) := by decide +kernel
theorem dX8_fails_31 : decode cX8_fails 31 = .ok (.putfield 124, 3) := by decide +kernel
theorem dX8_fails_34 : decode cX8_fails 34 = .ok (.return_, 1) := by decide +kernel
theorem dX8_is_0 : decode cX8_is 0 = .ok (.aload_n 0, 1) := by decide +kernel
theorem dX8_is_1 : decode cX8_is 1 = .ok (.getfield 121, 3) := by decide +kernel
theorem dX8_is_4 : decode cX8_is 4 = .ok (.ifCond .ne 15, 3) := by decide +kernel
theorem dX8_is_7 : decode cX8_is 7 = .ok (.aload_n 0, 1) := by decide +kernel
theorem dX8_is_8 : decode cX8_is 8 = .ok (.getfield 105, 3) := by decide +kernel
theorem dX8_is_11 : decode cX8_is 11 = .ok (.iload_n 1, 1) := by decide +kernel
theorem dX8_is_12 : decode cX8_is 12 = .ok (.if_icmp .ne 7, 3) := by decide +kernel
theorem dX8_is_15 : decode cX8_is 15 = .ok (.iconst 1, 1) := by decide +kernel
theorem dX8_is_16 : decode cX8_is 16 = .ok (.goto 4, 3) := by decide +kernel
theorem dX8_is_19 : decode cX8_is 19 = .ok (.iconst 0, 1) := by decide +kernel
theorem dX8_is_20 : decode cX8_is 20 = .ok (.ireturn, 1) := by decide +kernel
theorem dX8_eats_0 : decode cX8_eats 0 = .ok (.aload_n 0, 1) := by decide +kernel
theorem dX8_eats_1 : decode cX8_eats 1 = .ok (.iload_n 1, 1) := by decide +kernel
theorem dX8_eats_2 : decode cX8_eats 2 = .ok (.invokevirtual 127, 3) := by decide +kernel
theorem dX8_eats_5 : decode cX8_eats 5 = .ok (.ifCond .ne 5, 3) := by decide +kernel
theorem dX8_eats_8 : decode cX8_eats 8 = .ok (.iconst 0, 1) := by decide +kernel
theorem dX8_eats_9 : decode cX8_eats 9 = .ok (.ireturn, 1) := by decide +kernel
theorem dX8_eats_10 : decode cX8_eats 10 = .ok (.aload_n 0, 1) := by decide +kernel
theorem dX8_eats_11 : decode cX8_eats 11 = .ok (.invokevirtual 130, 3) := by decide +kernel
theorem dX8_eats_14 : decode cX8_eats 14 = .ok (.iconst 1, 1) := by decide +kernel
theorem dX8_eats_15 : decode cX8_eats 15 = .ok (.ireturn, 1) := by decide +kernel
theorem dX8_takes_0 : decode cX8_takes 0 = .ok (.aload_n 0, 1) := by decide +kernel
theorem dX8_takes_1 : decode cX8_takes 1 = .ok (.bipush 8, 2) := by decide +kernel
theorem dX8_takes_3 : decode cX8_takes 3 = .ok (.invokevirtual 127, 3) := by decide +kernel
theorem dX8_takes_6 : decode cX8_takes 6 = .ok (.ifCond .ne 11, 3) := by decide +kernel
theorem dX8_takes_9 : decode cX8_takes 9 = .ok (.aload_n 0, 1) := by decide +kernel
theorem dX8_takes_10 : decode cX8_takes 10 = .ok (.iconst 2, 1) := by decide +kernel
theorem dX8_takes_11 : decode cX8_takes 11 = .ok (.invokevirtual 133, 3) := by decide +kernel
theorem dX8_takes_14 : decode cX8_takes 14 = .ok (.goto 23, 3) := by decide +kernel
theorem dX8_takes_17 : decode cX8_takes 17 = .ok (.aload_n 0, 1) := by decide +kernel
theorem dX8_takes_18 : decode cX8_takes 18 = .ok (.getfield 118, 3) := by decide +kernel
theorem dX8_takes_21 : decode cX8_takes 21 = .ok (.i2l, 1) := by decide +kernel
theorem dX8_takes_22 : decode cX8_takes 22 = .ok (.iload_n 1, 1) := by decide +kernel
theorem dX8_takes_23 : decode cX8_takes 23 = .ok (.i2l, 1) := by decide +kernel
theorem dX8_takes_24 : decode cX8_takes 24 = .ok (.iload_n 2, 1) := by decide +kernel
theorem dX8_takes_25 : decode cX8_takes 25 = .ok (.i2l, 1) := by decide +kernel
theorem dX8_takes_26 : decode cX8_takes 26 = .ok (.invokestatic 137, 3) := by decide +kernel
theorem dX8_takes_29 : decode cX8_takes 29 = .ok (.ifCond .ne 8, 3) := by decide +kernel
theorem dX8_takes_32 : decode cX8_takes 32 = .ok (.aload_n 0, 1) := by decide +kernel
theorem dX8_takes_33 : decode cX8_takes 33 = .ok (.iconst 3, 1) := by decide +kernel
theorem dX8_takes_34 : decode cX8_takes 34 = .ok (.invokevirtual 133, 3) := by decide +kernel
theorem dX8_takes_37 : decode cX8_takes 37 = .ok (.aload_n 0, 1) := by decide +kernel
theorem dX8_takes_38 : decode cX8_takes 38 = .ok (.getfield 118, 3) := by decide +kernel
theorem dX8_takes_41 : decode cX8_takes 41 = .ok (.istore_n 3, 1) := by decide +kernel
theorem dX8_takes_42 : decode cX8_takes 42 = .ok (.aload_n 0, 1) := by decide +kernel
theorem dX8_takes_43 : decode cX8_takes 43 = .ok (.getfield 121, 3) := by decide +kernel
theorem dX8_takes_46 : decode cX8_takes 46 = .ok (.ifCond .ne 7, 3) := by decide +kernel
theorem dX8_takes_49 : decode cX8_takes 49 = .ok (.aload_n 0, 1) := by decide +kernel
theorem dX8_takes_50 : decode cX8_takes 50 = .ok (.invokevirtual 130, 3) := by decide +kernel
theorem dX8_takes_53 : decode cX8_takes 53 = .ok (.iload_n 3, 1) := by decide +kernel
theorem dX8_takes_54 : decode cX8_takes 54 = .ok (.ireturn, 1) := by decide +kernel
theorem dX8_takesWindow_0 : decode cX8_takesWindow 0 = .ok (.aload_n 0, 1) := by decide +kernel
theorem dX8_takesWindow_1 : decode cX8_takesWindow 1 = .ok (.iconst 0, 1) := by decide +kernel
theorem dX8_takesWindow_2 : decode cX8_takesWindow 2 = .ok (.aload_n 0, 1) := by decide +kernel
theorem dX8_takesWindow_3 : decode cX8_takesWindow 3 = .ok (.getfield 24, 3) := by decide +kernel
theorem dX8_takesWindow_6 : decode cX8_takesWindow 6 = .ok (.iconst 0, 1) := by decide +kernel
theorem dX8_takesWindow_7 : decode cX8_takesWindow 7 = .ok (.iaload, 1) := by decide +kernel
theorem dX8_takesWindow_8 : decode cX8_takesWindow 8 = .ok (.iconst 1, 1) := by decide +kernel
theorem dX8_takesWindow_9 : decode cX8_takesWindow 9 = .ok (.isub, 1) := by decide +kernel
theorem dX8_takesWindow_10 : decode cX8_takesWindow 10 = .ok (.invokevirtual 141, 3) := by decide +kernel
theorem dX8_takesWindow_13 : decode cX8_takesWindow 13 = .ok (.ireturn, 1) := by decide +kernel
theorem dX8_stepsOf_0 : decode cX8_stepsOf 0 = .ok (.iload_n 0, 1) := by decide +kernel
theorem dX8_stepsOf_1 : decode cX8_stepsOf 1 = .ok (.iload_n 1, 1) := by decide +kernel
theorem dX8_stepsOf_2 : decode cX8_stepsOf 2 = .ok (.if_icmp .ge 9, 3) := by decide +kernel
theorem dX8_stepsOf_5 : decode cX8_stepsOf 5 = .ok (.iload_n 1, 1) := by decide +kernel
theorem dX8_stepsOf_6 : decode cX8_stepsOf 6 = .ok (.iload_n 0, 1) := by decide +kernel
theorem dX8_stepsOf_7 : decode cX8_stepsOf 7 = .ok (.isub, 1) := by decide +kernel
theorem dX8_stepsOf_8 : decode cX8_stepsOf 8 = .ok (.goto 6, 3) := by decide +kernel
theorem dX8_stepsOf_11 : decode cX8_stepsOf 11 = .ok (.iload_n 0, 1) := by decide +kernel
theorem dX8_stepsOf_12 : decode cX8_stepsOf 12 = .ok (.iload_n 1, 1) := by decide +kernel
theorem dX8_stepsOf_13 : decode cX8_stepsOf 13 = .ok (.isub, 1) := by decide +kernel
theorem dX8_stepsOf_14 : decode cX8_stepsOf 14 = .ok (.ireturn, 1) := by decide +kernel
theorem dX8_readWindows_0 : decode cX8_readWindows 0 = .ok (.aload_n 0, 1) := by decide +kernel
theorem dX8_readWindows_1 : decode cX8_readWindows 1 = .ok (.getfield 24, 3) := by decide +kernel
theorem dX8_readWindows_4 : decode cX8_readWindows 4 = .ok (.iconst 0, 1) := by decide +kernel
theorem dX8_readWindows_5 : decode cX8_readWindows 5 = .ok (.iaload, 1) := by decide +kernel
theorem dX8_readWindows_6 : decode cX8_readWindows 6 = .ok (.ifCond .le 8, 3) := by decide +kernel
theorem dX8_readWindows_9 : decode cX8_readWindows 9 = .ok (.aload_n 0, 1) := by decide +kernel
theorem dX8_readWindows_10 : decode cX8_readWindows 10 = .ok (.iconst 4, 1) := by decide +kernel
theorem dX8_readWindows_11 : decode cX8_readWindows 11 = .ok (.invokevirtual 133, 3) := by decide +kernel
theorem dX8_readWindows_14 : decode cX8_readWindows 14 = .ok (.aload_n 0, 1) := by decide +kernel
theorem dX8_readWindows_15 : decode cX8_readWindows 15 = .ok (.getfield 121, 3) := by decide +kernel
theorem dX8_readWindows_18 : decode cX8_readWindows 18 = .ok (.ifCond .eq 4, 3) := by decide +kernel
theorem dX8_readWindows_21 : decode cX8_readWindows 21 = .ok (.return_, 1) := by decide +kernel
theorem dX8_readWindows_22 : decode cX8_readWindows 22 = .ok (.aload_n 0, 1) := by decide +kernel
theorem dX8_readWindows_23 : decode cX8_readWindows 23 = .ok (.invokevirtual 130, 3) := by decide +kernel
theorem dX8_readWindows_26 : decode cX8_readWindows 26 = .ok (.aload_n 0, 1) := by decide +kernel
theorem dX8_readWindows_27 : decode cX8_readWindows 27 = .ok (.getfield 24, 3) := by decide +kernel
theorem dX8_readWindows_30 : decode cX8_readWindows 30 = .ok (.iconst 0, 1) := by decide +kernel
theorem dX8_readWindows_31 : decode cX8_readWindows 31 = .ok (.aload_n 0, 1) := by decide +kernel
theorem dX8_readWindows_32 : decode cX8_readWindows 32 = .ok (.iconst 3, 1) := by decide +kernel
theorem dX8_readWindows_33 : decode cX8_readWindows 33 = .ok (.bipush 12, 2) := by decide +kernel
theorem dX8_readWindows_35 : decode cX8_readWindows 35 = .ok (.invokevirtual 141, 3) := by decide +kernel
theorem dX8_readWindows_38 : decode cX8_readWindows 38 = .ok (.iastore, 1) := by decide +kernel
theorem dX8_readWindows_39 : decode cX8_readWindows 39 = .ok (.iconst 0, 1) := by decide +kernel
theorem dX8_readWindows_40 : decode cX8_readWindows 40 = .ok (.istore_n 1, 1) := by decide +kernel
theorem dX8_readWindows_41 : decode cX8_readWindows 41 = .ok (.iload_n 1, 1) := by decide +kernel
theorem dX8_readWindows_42 : decode cX8_readWindows 42 = .ok (.bipush 12, 2) := by decide +kernel
theorem dX8_readWindows_44 : decode cX8_readWindows 44 = .ok (.if_icmp .ge 19, 3) := by decide +kernel
theorem dX8_readWindows_47 : decode cX8_readWindows 47 = .ok (.aload_n 0, 1) := by decide +kernel
theorem dX8_readWindows_48 : decode cX8_readWindows 48 = .ok (.getfield 24, 3) := by decide +kernel
theorem dX8_readWindows_51 : decode cX8_readWindows 51 = .ok (.bipush 6, 2) := by decide +kernel
theorem dX8_readWindows_53 : decode cX8_readWindows 53 = .ok (.iload_n 1, 1) := by decide +kernel
theorem dX8_readWindows_54 : decode cX8_readWindows 54 = .ok (.iadd, 1) := by decide +kernel
theorem dX8_readWindows_55 : decode cX8_readWindows 55 = .ok (.iconst 3, 1) := by decide +kernel
theorem dX8_readWindows_56 : decode cX8_readWindows 56 = .ok (.iastore, 1) := by decide +kernel
theorem dX8_readWindows_57 : decode cX8_readWindows 57 = .ok (.iinc 1 1, 3) := by decide +kernel
theorem dX8_readWindows_60 : decode cX8_readWindows 60 = .ok (.goto (-19), 3) := by decide +kernel
theorem dX8_readWindows_63 : decode cX8_readWindows 63 = .ok (.return_, 1) := by decide +kernel
theorem dX8_readWash_0 : decode cX8_readWash 0 = .ok (.aload_n 0, 1) := by decide +kernel
theorem dX8_readWash_1 : decode cX8_readWash 1 = .ok (.getfield 24, 3) := by decide +kernel
theorem dX8_readWash_4 : decode cX8_readWash 4 = .ok (.iconst 4, 1) := by decide +kernel
theorem dX8_readWash_5 : decode cX8_readWash 5 = .ok (.iaload, 1) := by decide +kernel
theorem dX8_readWash_6 : decode cX8_readWash 6 = .ok (.istore_n 1, 1) := by decide +kernel
theorem dX8_readWash_7 : decode cX8_readWash 7 = .ok (.iload_n 1, 1) := by decide +kernel
theorem dX8_readWash_8 : decode cX8_readWash 8 = .ok (.bipush 8, 2) := by decide +kernel
theorem dX8_readWash_10 : decode cX8_readWash 10 = .ok (.if_icmp .ne 8, 3) := by decide +kernel
theorem dX8_readWash_13 : decode cX8_readWash 13 = .ok (.aload_n 0, 1) := by decide +kernel
theorem dX8_readWash_14 : decode cX8_readWash 14 = .ok (.iconst 4, 1) := by decide +kernel
theorem dX8_readWash_15 : decode cX8_readWash 15 = .ok (.invokevirtual 133, 3) := by decide +kernel
theorem dX8_readWash_18 : decode cX8_readWash 18 = .ok (.aload_n 0, 1) := by decide +kernel
theorem dX8_readWash_19 : decode cX8_readWash 19 = .ok (.getfield 121, 3) := by decide +kernel
theorem dX8_readWash_22 : decode cX8_readWash 22 = .ok (.ifCond .eq 4, 3) := by decide +kernel
theorem dX8_readWash_25 : decode cX8_readWash 25 = .ok (.return_, 1) := by decide +kernel
theorem dX8_readWash_26 : decode cX8_readWash 26 = .ok (.aload_n 0, 1) := by decide +kernel
theorem dX8_readWash_27 : decode cX8_readWash 27 = .ok (.invokevirtual 130, 3) := by decide +kernel
theorem dX8_readWash_30 : decode cX8_readWash 30 = .ok (.aload_n 0, 1) := by decide +kernel
theorem dX8_readWash_31 : decode cX8_readWash 31 = .ok (.invokevirtual 145, 3) := by decide +kernel
theorem dX8_readWash_34 : decode cX8_readWash 34 = .ok (.istore_n 2, 1) := by decide +kernel
theorem dX8_readWash_35 : decode cX8_readWash 35 = .ok (.iload_n 2, 1) := by decide +kernel
theorem dX8_readWash_36 : decode cX8_readWash 36 = .ok (.aload_n 0, 1) := by decide +kernel
theorem dX8_readWash_37 : decode cX8_readWash 37 = .ok (.getfield 118, 3) := by decide +kernel
theorem dX8_readWash_40 : decode cX8_readWash 40 = .ok (.invokestatic 148, 3) := by decide +kernel
theorem dX8_readWash_43 : decode cX8_readWash 43 = .ok (.istore_n 3, 1) := by decide +kernel
theorem dX8_readWash_44 : decode cX8_readWash 44 = .ok (.aload_n 0, 1) := by decide +kernel
theorem dX8_readWash_45 : decode cX8_readWash 45 = .ok (.bipush 8, 2) := by decide +kernel
theorem dX8_readWash_47 : decode cX8_readWash 47 = .ok (.invokevirtual 127, 3) := by decide +kernel
theorem dX8_readWash_50 : decode cX8_readWash 50 = .ok (.ifCond .eq 38, 3) := by decide +kernel
theorem dX8_readWash_53 : decode cX8_readWash 53 = .ok (.aload_n 0, 1) := by decide +kernel
theorem dX8_readWash_54 : decode cX8_readWash 54 = .ok (.getfield 118, 3) := by decide +kernel
theorem dX8_readWash_57 : decode cX8_readWash 57 = .ok (.aload_n 0, 1) := by decide +kernel
theorem dX8_readWash_58 : decode cX8_readWash 58 = .ok (.getfield 24, 3) := by decide +kernel
theorem dX8_readWash_61 : decode cX8_readWash 61 = .ok (.iconst 0, 1) := by decide +kernel
theorem dX8_readWash_62 : decode cX8_readWash 62 = .ok (.iaload, 1) := by decide +kernel
theorem dX8_readWash_63 : decode cX8_readWash 63 = .ok (.if_icmp .ge 25, 3) := by decide +kernel
theorem dX8_readWash_66 : decode cX8_readWash 66 = .ok (.iload_n 3, 1) := by decide +kernel
theorem dX8_readWash_67 : decode cX8_readWash 67 = .ok (.iconst 2, 1) := by decide +kernel
theorem dX8_readWash_68 : decode cX8_readWash 68 = .ok (.if_icmp .lt 15, 3) := by decide +kernel
theorem dX8_readWash_71 : decode cX8_readWash 71 = .ok (.iload_n 3, 1) := by decide +kernel
theorem dX8_readWash_72 : decode cX8_readWash 72 = .ok (.aload_n 0, 1) := by decide +kernel
theorem dX8_readWash_73 : decode cX8_readWash 73 = .ok (.getfield 24, 3) := by decide +kernel
theorem dX8_readWash_76 : decode cX8_readWash 76 = .ok (.iconst 0, 1) := by decide +kernel
theorem dX8_readWash_77 : decode cX8_readWash 77 = .ok (.iaload, 1) := by decide +kernel
theorem dX8_readWash_78 : decode cX8_readWash 78 = .ok (.iconst 2, 1) := by decide +kernel
theorem dX8_readWash_79 : decode cX8_readWash 79 = .ok (.isub, 1) := by decide +kernel
theorem dX8_readWash_80 : decode cX8_readWash 80 = .ok (.if_icmp .le 8, 3) := by decide +kernel
theorem dX8_readWash_83 : decode cX8_readWash 83 = .ok (.aload_n 0, 1) := by decide +kernel
theorem dX8_readWash_84 : decode cX8_readWash 84 = .ok (.iconst 3, 1) := by decide +kernel
theorem dX8_readWash_85 : decode cX8_readWash 85 = .ok (.invokevirtual 133, 3) := by decide +kernel
theorem dX8_readWash_88 : decode cX8_readWash 88 = .ok (.aload_n 0, 1) := by decide +kernel
theorem dX8_readWash_89 : decode cX8_readWash 89 = .ok (.invokevirtual 145, 3) := by decide +kernel
theorem dX8_readWash_92 : decode cX8_readWash 92 = .ok (.istore 4, 2) := by decide +kernel
theorem dX8_readWash_94 : decode cX8_readWash 94 = .ok (.aload_n 0, 1) := by decide +kernel
theorem dX8_readWash_95 : decode cX8_readWash 95 = .ok (.iconst 0, 1) := by decide +kernel
theorem dX8_readWash_96 : decode cX8_readWash 96 = .ok (.sipush 4095, 3) := by decide +kernel
theorem dX8_readWash_99 : decode cX8_readWash 99 = .ok (.invokevirtual 141, 3) := by decide +kernel
theorem dX8_readWash_102 : decode cX8_readWash 102 = .ok (.istore 5, 2) := by decide +kernel
theorem dX8_readWash_104 : decode cX8_readWash 104 = .ok (.aload_n 0, 1) := by decide +kernel
theorem dX8_readWash_105 : decode cX8_readWash 105 = .ok (.getfield 121, 3) := by decide +kernel
theorem dX8_readWash_108 : decode cX8_readWash 108 = .ok (.ifCond .eq 4, 3) := by decide +kernel
theorem dX8_readWash_111 : decode cX8_readWash 111 = .ok (.return_, 1) := by decide +kernel
theorem dX8_readWash_112 : decode cX8_readWash 112 = .ok (.aload_n 0, 1) := by decide +kernel
theorem dX8_readWash_113 : decode cX8_readWash 113 = .ok (.getfield 24, 3) := by decide +kernel
theorem dX8_readWash_116 : decode cX8_readWash 116 = .ok (.bipush 18, 2) := by decide +kernel
theorem dX8_readWash_118 : decode cX8_readWash 118 = .ok (.iconst 3, 1) := by decide +kernel
theorem dX8_readWash_119 : decode cX8_readWash 119 = .ok (.iload_n 1, 1) := by decide +kernel
theorem dX8_readWash_120 : decode cX8_readWash 120 = .ok (.imul, 1) := by decide +kernel
theorem dX8_readWash_121 : decode cX8_readWash 121 = .ok (.iadd, 1) := by decide +kernel
theorem dX8_readWash_122 : decode cX8_readWash 122 = .ok (.iload_n 2, 1) := by decide +kernel
theorem dX8_readWash_123 : decode cX8_readWash 123 = .ok (.iastore, 1) := by decide +kernel
theorem dX8_readWash_124 : decode cX8_readWash 124 = .ok (.aload_n 0, 1) := by decide +kernel
theorem dX8_readWash_125 : decode cX8_readWash 125 = .ok (.getfield 24, 3) := by decide +kernel
theorem dX8_readWash_128 : decode cX8_readWash 128 = .ok (.bipush 18, 2) := by decide +kernel
theorem dX8_readWash_130 : decode cX8_readWash 130 = .ok (.iconst 3, 1) := by decide +kernel
theorem dX8_readWash_131 : decode cX8_readWash 131 = .ok (.iload_n 1, 1) := by decide +kernel
theorem dX8_readWash_132 : decode cX8_readWash 132 = .ok (.imul, 1) := by decide +kernel
theorem dX8_readWash_133 : decode cX8_readWash 133 = .ok (.iadd, 1) := by decide +kernel
theorem dX8_readWash_134 : decode cX8_readWash 134 = .ok (.iconst 1, 1) := by decide +kernel
theorem dX8_readWash_135 : decode cX8_readWash 135 = .ok (.iadd, 1) := by decide +kernel
theorem dX8_readWash_136 : decode cX8_readWash 136 = .ok (.iload 4, 2) := by decide +kernel
theorem dX8_readWash_138 : decode cX8_readWash 138 = .ok (.iastore, 1) := by decide +kernel
theorem dX8_readWash_139 : decode cX8_readWash 139 = .ok (.aload_n 0, 1) := by decide +kernel
theorem dX8_readWash_140 : decode cX8_readWash 140 = .ok (.getfield 24, 3) := by decide +kernel
theorem dX8_readWash_143 : decode cX8_readWash 143 = .ok (.bipush 18, 2) := by decide +kernel
theorem dX8_readWash_145 : decode cX8_readWash 145 = .ok (.iconst 3, 1) := by decide +kernel
theorem dX8_readWash_146 : decode cX8_readWash 146 = .ok (.iload_n 1, 1) := by decide +kernel
theorem dX8_readWash_147 : decode cX8_readWash 147 = .ok (.imul, 1) := by decide +kernel
theorem dX8_readWash_148 : decode cX8_readWash 148 = .ok (.iadd, 1) := by decide +kernel
theorem dX8_readWash_149 : decode cX8_readWash 149 = .ok (.iconst 2, 1) := by decide +kernel
theorem dX8_readWash_150 : decode cX8_readWash 150 = .ok (.iadd, 1) := by decide +kernel
theorem dX8_readWash_151 : decode cX8_readWash 151 = .ok (.iload 5, 2) := by decide +kernel
theorem dX8_readWash_153 : decode cX8_readWash 153 = .ok (.iastore, 1) := by decide +kernel
theorem dX8_readWash_154 : decode cX8_readWash 154 = .ok (.aload_n 0, 1) := by decide +kernel
theorem dX8_readWash_155 : decode cX8_readWash 155 = .ok (.getfield 24, 3) := by decide +kernel
theorem dX8_readWash_158 : decode cX8_readWash 158 = .ok (.iconst 4, 1) := by decide +kernel
theorem dX8_readWash_159 : decode cX8_readWash 159 = .ok (.dup2, 1) := by decide +kernel
theorem dX8_readWash_160 : decode cX8_readWash 160 = .ok (.iaload, 1) := by decide +kernel
theorem dX8_readWash_161 : decode cX8_readWash 161 = .ok (.iconst 1, 1) := by decide +kernel
theorem dX8_readWash_162 : decode cX8_readWash 162 = .ok (.iadd, 1) := by decide +kernel
theorem dX8_readWash_163 : decode cX8_readWash 163 = .ok (.iastore, 1) := by decide +kernel
theorem dX8_readWash_164 : decode cX8_readWash 164 = .ok (.return_, 1) := by decide +kernel
theorem dX8_readCans_0 : decode cX8_readCans 0 = .ok (.aload_n 0, 1) := by decide +kernel
theorem dX8_readCans_1 : decode cX8_readCans 1 = .ok (.invokevirtual 145, 3) := by decide +kernel
theorem dX8_readCans_4 : decode cX8_readCans 4 = .ok (.istore_n 1, 1) := by decide +kernel
theorem dX8_readCans_5 : decode cX8_readCans 5 = .ok (.aload_n 0, 1) := by decide +kernel
theorem dX8_readCans_6 : decode cX8_readCans 6 = .ok (.iconst 0, 1) := by decide +kernel
theorem dX8_readCans_7 : decode cX8_readCans 7 = .ok (.bipush 11, 2) := by decide +kernel
theorem dX8_readCans_9 : decode cX8_readCans 9 = .ok (.invokevirtual 141, 3) := by decide +kernel
theorem dX8_readCans_12 : decode cX8_readCans 12 = .ok (.istore_n 2, 1) := by decide +kernel
theorem dX8_readCans_13 : decode cX8_readCans 13 = .ok (.aload_n 0, 1) := by decide +kernel
theorem dX8_readCans_14 : decode cX8_readCans 14 = .ok (.getfield 121, 3) := by decide +kernel
theorem dX8_readCans_17 : decode cX8_readCans 17 = .ok (.ifCond .ne 13, 3) := by decide +kernel
theorem dX8_readCans_20 : decode cX8_readCans 20 = .ok (.aload_n 0, 1) := by decide +kernel
theorem dX8_readCans_21 : decode cX8_readCans 21 = .ok (.getfield 24, 3) := by decide +kernel
theorem dX8_readCans_24 : decode cX8_readCans 24 = .ok (.bipush 6, 2) := by decide +kernel
theorem dX8_readCans_26 : decode cX8_readCans 26 = .ok (.iload_n 1, 1) := by decide +kernel
theorem dX8_readCans_27 : decode cX8_readCans 27 = .ok (.iadd, 1) := by decide +kernel
theorem dX8_readCans_28 : decode cX8_readCans 28 = .ok (.iload_n 2, 1) := by decide +kernel
theorem dX8_readCans_29 : decode cX8_readCans 29 = .ok (.iastore, 1) := by decide +kernel
theorem dX8_readCans_30 : decode cX8_readCans 30 = .ok (.return_, 1) := by decide +kernel
theorem dX8_readString_0 : decode cX8_readString 0 = .ok (.aload_n 0, 1) := by decide +kernel
theorem dX8_readString_1 : decode cX8_readString 1 = .ok (.invokevirtual 145, 3) := by decide +kernel
theorem dX8_readString_4 : decode cX8_readString 4 = .ok (.istore_n 1, 1) := by decide +kernel
theorem dX8_readString_5 : decode cX8_readString 5 = .ok (.aload_n 0, 1) := by decide +kernel
theorem dX8_readString_6 : decode cX8_readString 6 = .ok (.bipush 8, 2) := by decide +kernel
theorem dX8_readString_8 : decode cX8_readString 8 = .ok (.invokevirtual 127, 3) := by decide +kernel
theorem dX8_readString_11 : decode cX8_readString 11 = .ok (.ifCond .eq 16, 3) := by decide +kernel
theorem dX8_readString_14 : decode cX8_readString 14 = .ok (.aload_n 0, 1) := by decide +kernel
theorem dX8_readString_15 : decode cX8_readString 15 = .ok (.getfield 118, 3) := by decide +kernel
theorem dX8_readString_18 : decode cX8_readString 18 = .ok (.iload_n 1, 1) := by decide +kernel
theorem dX8_readString_19 : decode cX8_readString 19 = .ok (.if_icmp .ne 8, 3) := by decide +kernel
theorem dX8_readString_22 : decode cX8_readString 22 = .ok (.aload_n 0, 1) := by decide +kernel
theorem dX8_readString_23 : decode cX8_readString 23 = .ok (.iconst 3, 1) := by decide +kernel
theorem dX8_readString_24 : decode cX8_readString 24 = .ok (.invokevirtual 133, 3) := by decide +kernel
theorem dX8_readString_27 : decode cX8_readString 27 = .ok (.aload_n 0, 1) := by decide +kernel
theorem dX8_readString_28 : decode cX8_readString 28 = .ok (.invokevirtual 145, 3) := by decide +kernel
theorem dX8_readString_31 : decode cX8_readString 31 = .ok (.istore_n 2, 1) := by decide +kernel
theorem dX8_readString_32 : decode cX8_readString 32 = .ok (.aload_n 0, 1) := by decide +kernel
theorem dX8_readString_33 : decode cX8_readString 33 = .ok (.bipush 6, 2) := by decide +kernel
theorem dX8_readString_35 : decode cX8_readString 35 = .ok (.invokevirtual 151, 3) := by decide +kernel
theorem dX8_readString_38 : decode cX8_readString 38 = .ok (.ifCond .eq 13, 3) := by decide +kernel
theorem dX8_readString_41 : decode cX8_readString 41 = .ok (.aload_n 0, 1) := by decide +kernel
theorem dX8_readString_42 : decode cX8_readString 42 = .ok (.iconst 0, 1) := by decide +kernel
theorem dX8_readString_43 : decode cX8_readString 43 = .ok (.bipush 9, 2) := by decide +kernel
theorem dX8_readString_45 : decode cX8_readString 45 = .ok (.invokevirtual 141, 3) := by decide +kernel
theorem dX8_readString_48 : decode cX8_readString 48 = .ok (.goto 4, 3) := by decide +kernel
theorem dX8_readString_51 : decode cX8_readString 51 = .ok (.iconst 0, 1) := by decide +kernel
theorem dX8_readString_52 : decode cX8_readString 52 = .ok (.istore_n 3, 1) := by decide +kernel
theorem dX8_readString_53 : decode cX8_readString 53 = .ok (.aload_n 0, 1) := by decide +kernel
theorem dX8_readString_54 : decode cX8_readString 54 = .ok (.bipush 9, 2) := by decide +kernel
theorem dX8_readString_56 : decode cX8_readString 56 = .ok (.invokevirtual 127, 3) := by decide +kernel
theorem dX8_readString_59 : decode cX8_readString 59 = .ok (.ifCond .ne 11, 3) := by decide +kernel
theorem dX8_readString_62 : decode cX8_readString 62 = .ok (.aload_n 0, 1) := by decide +kernel
theorem dX8_readString_63 : decode cX8_readString 63 = .ok (.iconst 2, 1) := by decide +kernel
theorem dX8_readString_64 : decode cX8_readString 64 = .ok (.invokevirtual 133, 3) := by decide +kernel
theorem dX8_readString_67 : decode cX8_readString 67 = .ok (.goto 38, 3) := by decide +kernel
theorem dX8_readString_70 : decode cX8_readString 70 = .ok (.aload_n 0, 1) := by decide +kernel
theorem dX8_readString_71 : decode cX8_readString 71 = .ok (.getfield 24, 3) := by decide +kernel
theorem dX8_readString_74 : decode cX8_readString 74 = .ok (.iload_n 1, 1) := by decide +kernel
theorem dX8_readString_75 : decode cX8_readString 75 = .ok (.iload_n 2, 1) := by decide +kernel
theorem dX8_readString_76 : decode cX8_readString 76 = .ok (.if_icmp .ge 7, 3) := by decide +kernel
theorem dX8_readString_79 : decode cX8_readString 79 = .ok (.iload_n 1, 1) := by decide +kernel
theorem dX8_readString_80 : decode cX8_readString 80 = .ok (.goto 4, 3) := by decide +kernel
theorem dX8_readString_83 : decode cX8_readString 83 = .ok (.iload_n 2, 1) := by decide +kernel
theorem dX8_readString_84 : decode cX8_readString 84 = .ok (.iload_n 1, 1) := by decide +kernel
theorem dX8_readString_85 : decode cX8_readString 85 = .ok (.iload_n 2, 1) := by decide +kernel
theorem dX8_readString_86 : decode cX8_readString 86 = .ok (.if_icmp .ge 7, 3) := by decide +kernel
theorem dX8_readString_89 : decode cX8_readString 89 = .ok (.iload_n 2, 1) := by decide +kernel
theorem dX8_readString_90 : decode cX8_readString 90 = .ok (.goto 4, 3) := by decide +kernel
theorem dX8_readString_93 : decode cX8_readString 93 = .ok (.iload_n 1, 1) := by decide +kernel
theorem dX8_readString_94 : decode cX8_readString 94 = .ok (.invokestatic 154, 3) := by decide +kernel
theorem dX8_readString_97 : decode cX8_readString 97 = .ok (.ifCond .eq 8, 3) := by decide +kernel
theorem dX8_readString_100 : decode cX8_readString 100 = .ok (.aload_n 0, 1) := by decide +kernel
theorem dX8_readString_101 : decode cX8_readString 101 = .ok (.iconst 5, 1) := by decide +kernel
theorem dX8_readString_102 : decode cX8_readString 102 = .ok (.invokevirtual 133, 3) := by decide +kernel
theorem dX8_readString_105 : decode cX8_readString 105 = .ok (.aload_n 0, 1) := by decide +kernel
theorem dX8_readString_106 : decode cX8_readString 106 = .ok (.getfield 121, 3) := by decide +kernel
theorem dX8_readString_109 : decode cX8_readString 109 = .ok (.ifCond .eq 4, 3) := by decide +kernel
theorem dX8_readString_112 : decode cX8_readString 112 = .ok (.return_, 1) := by decide +kernel
theorem dX8_readString_113 : decode cX8_readString 113 = .ok (.aload_n 0, 1) := by decide +kernel
theorem dX8_readString_114 : decode cX8_readString 114 = .ok (.getfield 24, 3) := by decide +kernel
theorem dX8_readString_117 : decode cX8_readString 117 = .ok (.iload_n 1, 1) := by decide +kernel
theorem dX8_readString_118 : decode cX8_readString 118 = .ok (.iload_n 2, 1) := by decide +kernel
theorem dX8_readString_119 : decode cX8_readString 119 = .ok (.iload_n 3, 1) := by decide +kernel
theorem dX8_readString_120 : decode cX8_readString 120 = .ok (.iconst 1, 1) := by decide +kernel
theorem dX8_readString_121 : decode cX8_readString 121 = .ok (.iadd, 1) := by decide +kernel
theorem dX8_readString_122 : decode cX8_readString 122 = .ok (.invokestatic 158, 3) := by decide +kernel
theorem dX8_readString_125 : decode cX8_readString 125 = .ok (.return_, 1) := by decide +kernel
theorem dX8_readLine_0 : decode cX8_readLine 0 = .ok (.aload_n 0, 1) := by decide +kernel
theorem dX8_readLine_1 : decode cX8_readLine 1 = .ok (.iconst 0, 1) := by decide +kernel
theorem dX8_readLine_2 : decode cX8_readLine 2 = .ok (.invokevirtual 127, 3) := by decide +kernel
theorem dX8_readLine_5 : decode cX8_readLine 5 = .ok (.ifCond .eq 10, 3) := by decide +kernel
theorem dX8_readLine_8 : decode cX8_readLine 8 = .ok (.aload_n 0, 1) := by decide +kernel
theorem dX8_readLine_9 : decode cX8_readLine 9 = .ok (.invokevirtual 162, 3) := by decide +kernel
theorem dX8_readLine_12 : decode cX8_readLine 12 = .ok (.goto 119, 3) := by decide +kernel
theorem dX8_readLine_15 : decode cX8_readLine 15 = .ok (.aload_n 0, 1) := by decide +kernel
theorem dX8_readLine_16 : decode cX8_readLine 16 = .ok (.getfield 24, 3) := by decide +kernel
theorem dX8_readLine_19 : decode cX8_readLine 19 = .ok (.iconst 0, 1) := by decide +kernel
theorem dX8_readLine_20 : decode cX8_readLine 20 = .ok (.iaload, 1) := by decide +kernel
theorem dX8_readLine_21 : decode cX8_readLine 21 = .ok (.ifCond .ne 11, 3) := by decide +kernel
theorem dX8_readLine_24 : decode cX8_readLine 24 = .ok (.aload_n 0, 1) := by decide +kernel
theorem dX8_readLine_25 : decode cX8_readLine 25 = .ok (.iconst 2, 1) := by decide +kernel
theorem dX8_readLine_26 : decode cX8_readLine 26 = .ok (.invokevirtual 133, 3) := by decide +kernel
theorem dX8_readLine_29 : decode cX8_readLine 29 = .ok (.goto 102, 3) := by decide +kernel
theorem dX8_readLine_32 : decode cX8_readLine 32 = .ok (.aload_n 0, 1) := by decide +kernel
theorem dX8_readLine_33 : decode cX8_readLine 33 = .ok (.iconst 2, 1) := by decide +kernel
theorem dX8_readLine_34 : decode cX8_readLine 34 = .ok (.invokevirtual 127, 3) := by decide +kernel
theorem dX8_readLine_37 : decode cX8_readLine 37 = .ok (.ifCond .eq 10, 3) := by decide +kernel
theorem dX8_readLine_40 : decode cX8_readLine 40 = .ok (.aload_n 0, 1) := by decide +kernel
theorem dX8_readLine_41 : decode cX8_readLine 41 = .ok (.invokevirtual 165, 3) := by decide +kernel
theorem dX8_readLine_44 : decode cX8_readLine 44 = .ok (.goto 87, 3) := by decide +kernel
theorem dX8_readLine_47 : decode cX8_readLine 47 = .ok (.aload_n 0, 1) := by decide +kernel
theorem dX8_readLine_48 : decode cX8_readLine 48 = .ok (.iconst 1, 1) := by decide +kernel
theorem dX8_readLine_49 : decode cX8_readLine 49 = .ok (.invokevirtual 151, 3) := by decide +kernel
theorem dX8_readLine_52 : decode cX8_readLine 52 = .ok (.ifCond .eq 10, 3) := by decide +kernel
theorem dX8_readLine_55 : decode cX8_readLine 55 = .ok (.aload_n 0, 1) := by decide +kernel
theorem dX8_readLine_56 : decode cX8_readLine 56 = .ok (.invokevirtual 168, 3) := by decide +kernel
theorem dX8_readLine_59 : decode cX8_readLine 59 = .ok (.goto 72, 3) := by decide +kernel
theorem dX8_readLine_62 : decode cX8_readLine 62 = .ok (.aload_n 0, 1) := by decide +kernel
theorem dX8_readLine_63 : decode cX8_readLine 63 = .ok (.iconst 3, 1) := by decide +kernel
theorem dX8_readLine_64 : decode cX8_readLine 64 = .ok (.invokevirtual 151, 3) := by decide +kernel
theorem dX8_readLine_67 : decode cX8_readLine 67 = .ok (.ifCond .eq 19, 3) := by decide +kernel
theorem dX8_readLine_70 : decode cX8_readLine 70 = .ok (.aload_n 0, 1) := by decide +kernel
theorem dX8_readLine_71 : decode cX8_readLine 71 = .ok (.getfield 24, 3) := by decide +kernel
theorem dX8_readLine_74 : decode cX8_readLine 74 = .ok (.iconst 2, 1) := by decide +kernel
theorem dX8_readLine_75 : decode cX8_readLine 75 = .ok (.aload_n 0, 1) := by decide +kernel
theorem dX8_readLine_76 : decode cX8_readLine 76 = .ok (.iconst 0, 1) := by decide +kernel
theorem dX8_readLine_77 : decode cX8_readLine 77 = .ok (.bipush 20, 2) := by decide +kernel
theorem dX8_readLine_79 : decode cX8_readLine 79 = .ok (.invokevirtual 141, 3) := by decide +kernel
theorem dX8_readLine_82 : decode cX8_readLine 82 = .ok (.iastore, 1) := by decide +kernel
theorem dX8_readLine_83 : decode cX8_readLine 83 = .ok (.goto 48, 3) := by decide +kernel
theorem dX8_readLine_86 : decode cX8_readLine 86 = .ok (.aload_n 0, 1) := by decide +kernel
theorem dX8_readLine_87 : decode cX8_readLine 87 = .ok (.iconst 4, 1) := by decide +kernel
theorem dX8_readLine_88 : decode cX8_readLine 88 = .ok (.invokevirtual 151, 3) := by decide +kernel
theorem dX8_readLine_91 : decode cX8_readLine 91 = .ok (.ifCond .eq 20, 3) := by decide +kernel
theorem dX8_readLine_94 : decode cX8_readLine 94 = .ok (.aload_n 0, 1) := by decide +kernel
theorem dX8_readLine_95 : decode cX8_readLine 95 = .ok (.getfield 24, 3) := by decide +kernel
theorem dX8_readLine_98 : decode cX8_readLine 98 = .ok (.iconst 3, 1) := by decide +kernel
theorem dX8_readLine_99 : decode cX8_readLine 99 = .ok (.aload_n 0, 1) := by decide +kernel
theorem dX8_readLine_100 : decode cX8_readLine 100 = .ok (.iconst 1, 1) := by decide +kernel
theorem dX8_readLine_101 : decode cX8_readLine 101 = .ok (.sipush 999, 3) := by decide +kernel
theorem dX8_readLine_104 : decode cX8_readLine 104 = .ok (.invokevirtual 141, 3) := by decide +kernel
theorem dX8_readLine_107 : decode cX8_readLine 107 = .ok (.iastore, 1) := by decide +kernel
theorem dX8_readLine_108 : decode cX8_readLine 108 = .ok (.goto 23, 3) := by decide +kernel
theorem dX8_readLine_111 : decode cX8_readLine 111 = .ok (.aload_n 0, 1) := by decide +kernel
theorem dX8_readLine_112 : decode cX8_readLine 112 = .ok (.iconst 5, 1) := by decide +kernel
theorem dX8_readLine_113 : decode cX8_readLine 113 = .ok (.invokevirtual 151, 3) := by decide +kernel
theorem dX8_readLine_116 : decode cX8_readLine 116 = .ok (.ifCond .eq 10, 3) := by decide +kernel
theorem dX8_readLine_119 : decode cX8_readLine 119 = .ok (.aload_n 0, 1) := by decide +kernel
theorem dX8_readLine_120 : decode cX8_readLine 120 = .ok (.invokevirtual 171, 3) := by decide +kernel
theorem dX8_readLine_123 : decode cX8_readLine 123 = .ok (.goto 8, 3) := by decide +kernel
theorem dX8_readLine_126 : decode cX8_readLine 126 = .ok (.aload_n 0, 1) := by decide +kernel
theorem dX8_readLine_127 : decode cX8_readLine 127 = .ok (.iconst 2, 1) := by decide +kernel
theorem dX8_readLine_128 : decode cX8_readLine 128 = .ok (.invokevirtual 133, 3) := by decide +kernel
theorem dX8_readLine_131 : decode cX8_readLine 131 = .ok (.aload_n 0, 1) := by decide +kernel
theorem dX8_readLine_132 : decode cX8_readLine 132 = .ok (.bipush 9, 2) := by decide +kernel
theorem dX8_readLine_134 : decode cX8_readLine 134 = .ok (.invokevirtual 151, 3) := by decide +kernel
theorem dX8_readLine_137 : decode cX8_readLine 137 = .ok (.ifCond .ne 8, 3) := by decide +kernel
theorem dX8_readLine_140 : decode cX8_readLine 140 = .ok (.aload_n 0, 1) := by decide +kernel
theorem dX8_readLine_141 : decode cX8_readLine 141 = .ok (.iconst 2, 1) := by decide +kernel
theorem dX8_readLine_142 : decode cX8_readLine 142 = .ok (.invokevirtual 133, 3) := by decide +kernel
theorem dX8_readLine_145 : decode cX8_readLine 145 = .ok (.aload_n 0, 1) := by decide +kernel
theorem dX8_readLine_146 : decode cX8_readLine 146 = .ok (.getfield 24, 3) := by decide +kernel
theorem dX8_readLine_149 : decode cX8_readLine 149 = .ok (.iconst 5, 1) := by decide +kernel
theorem dX8_readLine_150 : decode cX8_readLine 150 = .ok (.dup2, 1) := by decide +kernel
theorem dX8_readLine_151 : decode cX8_readLine 151 = .ok (.iaload, 1) := by decide +kernel
theorem dX8_readLine_152 : decode cX8_readLine 152 = .ok (.iconst 1, 1) := by decide +kernel
theorem dX8_readLine_153 : decode cX8_readLine 153 = .ok (.iadd, 1) := by decide +kernel
theorem dX8_readLine_154 : decode cX8_readLine 154 = .ok (.iastore, 1) := by decide +kernel
theorem dX8_readLine_155 : decode cX8_readLine 155 = .ok (.return_, 1) := by decide +kernel
theorem dX8_court_0 : decode cX8_court 0 = .ok (.aload_n 0, 1) := by decide +kernel
theorem dX8_court_1 : decode cX8_court 1 = .ok (.iconst 0, 1) := by decide +kernel
theorem dX8_court_2 : decode cX8_court 2 = .ok (.putfield 1, 3) := by decide +kernel
theorem dX8_court_5 : decode cX8_court 5 = .ok (.iload_n 1, 1) := by decide +kernel
theorem dX8_court_6 : decode cX8_court 6 = .ok (.i2l, 1) := by decide +kernel
theorem dX8_court_7 : decode cX8_court 7 = .ok (.lconst 0, 1) := by decide +kernel
theorem dX8_court_8 : decode cX8_court 8 = .ok (.aload_n 0, 1) := by decide +kernel
theorem dX8_court_9 : decode cX8_court 9 = .ok (.getfield 77, 3) := by decide +kernel
theorem dX8_court_12 : decode cX8_court 12 = .ok (.i2l, 1) := by decide +kernel
theorem dX8_court_13 : decode cX8_court 13 = .ok (.invokestatic 137, 3) := by decide +kernel
theorem dX8_court_16 : decode cX8_court 16 = .ok (.ifCond .ne 6, 3) := by decide +kernel
theorem dX8_court_19 : decode cX8_court 19 = .ok (.bipush (-3), 2) := by decide +kernel
theorem dX8_court_21 : decode cX8_court 21 = .ok (.ireturn, 1) := by decide +kernel
theorem dX8_court_22 : decode cX8_court 22 = .ok (.aload_n 0, 1) := by decide +kernel
theorem dX8_court_23 : decode cX8_court 23 = .ok (.iload_n 1, 1) := by decide +kernel
theorem dX8_court_24 : decode cX8_court 24 = .ok (.putfield 80, 3) := by decide +kernel
theorem dX8_court_27 : decode cX8_court 27 = .ok (.aload_n 0, 1) := by decide +kernel
theorem dX8_court_28 : decode cX8_court 28 = .ok (.iconst 0, 1) := by decide +kernel
theorem dX8_court_29 : decode cX8_court 29 = .ok (.putfield 77, 3) := by decide +kernel
theorem dX8_court_32 : decode cX8_court 32 = .ok (.aload_n 0, 1) := by decide +kernel
theorem dX8_court_33 : decode cX8_court 33 = .ok (.iconst 0, 1) := by decide +kernel
theorem dX8_court_34 : decode cX8_court 34 = .ok (.putfield 98, 3) := by decide +kernel
theorem dX8_court_37 : decode cX8_court 37 = .ok (.aload_n 0, 1) := by decide +kernel
theorem dX8_court_38 : decode cX8_court 38 = .ok (.iconst 0, 1) := by decide +kernel
theorem dX8_court_39 : decode cX8_court 39 = .ok (.putfield 121, 3) := by decide +kernel
theorem dX8_court_42 : decode cX8_court 42 = .ok (.iconst 0, 1) := by decide +kernel
theorem dX8_court_43 : decode cX8_court 43 = .ok (.istore_n 2, 1) := by decide +kernel
theorem dX8_court_44 : decode cX8_court 44 = .ok (.iload_n 2, 1) := by decide +kernel
theorem dX8_court_45 : decode cX8_court 45 = .ok (.sipush 186, 3) := by decide +kernel
theorem dX8_court_48 : decode cX8_court 48 = .ok (.if_icmp .ge 26, 3) := by decide +kernel
theorem dX8_court_51 : decode cX8_court 51 = .ok (.aload_n 0, 1) := by decide +kernel
theorem dX8_court_52 : decode cX8_court 52 = .ok (.getfield 24, 3) := by decide +kernel
theorem dX8_court_55 : decode cX8_court 55 = .ok (.iload_n 2, 1) := by decide +kernel
theorem dX8_court_56 : decode cX8_court 56 = .ok (.iload_n 2, 1) := by decide +kernel
theorem dX8_court_57 : decode cX8_court 57 = .ok (.iconst 3, 1) := by decide +kernel
theorem dX8_court_58 : decode cX8_court 58 = .ok (.if_icmp .ne 8, 3) := by decide +kernel
theorem dX8_court_61 : decode cX8_court 61 = .ok (.bipush 60, 2) := by decide +kernel
theorem dX8_court_63 : decode cX8_court 63 = .ok (.goto 4, 3) := by decide +kernel
theorem dX8_court_66 : decode cX8_court 66 = .ok (.iconst 0, 1) := by decide +kernel
theorem dX8_court_67 : decode cX8_court 67 = .ok (.iastore, 1) := by decide +kernel
theorem dX8_court_68 : decode cX8_court 68 = .ok (.iinc 2 1, 3) := by decide +kernel
theorem dX8_court_71 : decode cX8_court 71 = .ok (.goto (-27), 3) := by decide +kernel
theorem dX8_court_74 : decode cX8_court 74 = .ok (.aload_n 0, 1) := by decide +kernel
theorem dX8_court_75 : decode cX8_court 75 = .ok (.invokevirtual 130, 3) := by decide +kernel
theorem dX8_court_78 : decode cX8_court 78 = .ok (.aload_n 0, 1) := by decide +kernel
theorem dX8_court_79 : decode cX8_court 79 = .ok (.getfield 121, 3) := by decide +kernel
theorem dX8_court_82 : decode cX8_court 82 = .ok (.ifCond .ne 19, 3) := by decide +kernel
theorem dX8_court_85 : decode cX8_court 85 = .ok (.aload_n 0, 1) := by decide +kernel
theorem dX8_court_86 : decode cX8_court 86 = .ok (.getfield 105, 3) := by decide +kernel
theorem dX8_court_89 : decode cX8_court 89 = .ok (.bipush 10, 2) := by decide +kernel
theorem dX8_court_91 : decode cX8_court 91 = .ok (.if_icmp .eq 10, 3) := by decide +kernel
theorem dX8_court_94 : decode cX8_court 94 = .ok (.aload_n 0, 1) := by decide +kernel
theorem dX8_court_95 : decode cX8_court 95 = .ok (.invokevirtual 174, 3) := by decide +kernel
theorem dX8_court_98 : decode cX8_court 98 = .ok (.goto (-20), 3) := by decide +kernel
theorem dX8_court_101 : decode cX8_court 101 = .ok (.aload_n 0, 1) := by decide +kernel
theorem dX8_court_102 : decode cX8_court 102 = .ok (.aload_n 0, 1) := by decide +kernel
theorem dX8_court_103 : decode cX8_court 103 = .ok (.getfield 121, 3) := by decide +kernel
theorem dX8_court_106 : decode cX8_court 106 = .ok (.putfield 177, 3) := by decide +kernel
theorem dX8_court_109 : decode cX8_court 109 = .ok (.aload_n 0, 1) := by decide +kernel
theorem dX8_court_110 : decode cX8_court 110 = .ok (.aload_n 0, 1) := by decide +kernel
theorem dX8_court_111 : decode cX8_court 111 = .ok (.getfield 121, 3) := by decide +kernel
theorem dX8_court_114 : decode cX8_court 114 = .ok (.ifCond .ne 7, 3) := by decide +kernel
theorem dX8_court_117 : decode cX8_court 117 = .ok (.iconst (-1), 1) := by decide +kernel
theorem dX8_court_118 : decode cX8_court 118 = .ok (.goto 7, 3) := by decide +kernel
theorem dX8_court_121 : decode cX8_court 121 = .ok (.aload_n 0, 1) := by decide +kernel
theorem dX8_court_122 : decode cX8_court 122 = .ok (.getfield 124, 3) := by decide +kernel
theorem dX8_court_125 : decode cX8_court 125 = .ok (.putfield 27, 3) := by decide +kernel
theorem dX8_court_128 : decode cX8_court 128 = .ok (.aload_n 0, 1) := by decide +kernel
theorem dX8_court_129 : decode cX8_court 129 = .ok (.getfield 121, 3) := by decide +kernel
theorem dX8_court_132 : decode cX8_court 132 = .ok (.ifCond .eq 11, 3) := by decide +kernel
theorem dX8_court_135 : decode cX8_court 135 = .ok (.bipush (-30), 2) := by decide +kernel
theorem dX8_court_137 : decode cX8_court 137 = .ok (.aload_n 0, 1) := by decide +kernel
theorem dX8_court_138 : decode cX8_court 138 = .ok (.getfield 121, 3) := by decide +kernel
theorem dX8_court_141 : decode cX8_court 141 = .ok (.isub, 1) := by decide +kernel
theorem dX8_court_142 : decode cX8_court 142 = .ok (.ireturn, 1) := by decide +kernel
theorem dX8_court_143 : decode cX8_court 143 = .ok (.iconst 0, 1) := by decide +kernel
theorem dX8_court_144 : decode cX8_court 144 = .ok (.istore_n 2, 1) := by decide +kernel
theorem dX8_court_145 : decode cX8_court 145 = .ok (.iload_n 2, 1) := by decide +kernel
theorem dX8_court_146 : decode cX8_court 146 = .ok (.sipush 186, 3) := by decide +kernel
theorem dX8_court_149 : decode cX8_court 149 = .ok (.if_icmp .ge 21, 3) := by decide +kernel
theorem dX8_court_152 : decode cX8_court 152 = .ok (.aload_n 0, 1) := by decide +kernel
theorem dX8_court_153 : decode cX8_court 153 = .ok (.getfield 13, 3) := by decide +kernel
theorem dX8_court_156 : decode cX8_court 156 = .ok (.iload_n 2, 1) := by decide +kernel
theorem dX8_court_157 : decode cX8_court 157 = .ok (.aload_n 0, 1) := by decide +kernel
theorem dX8_court_158 : decode cX8_court 158 = .ok (.getfield 24, 3) := by decide +kernel
theorem dX8_court_161 : decode cX8_court 161 = .ok (.iload_n 2, 1) := by decide +kernel
theorem dX8_court_162 : decode cX8_court 162 = .ok (.iaload, 1) := by decide +kernel
theorem dX8_court_163 : decode cX8_court 163 = .ok (.iastore, 1) := by decide +kernel
theorem dX8_court_164 : decode cX8_court 164 = .ok (.iinc 2 1, 3) := by decide +kernel
theorem dX8_court_167 : decode cX8_court 167 = .ok (.goto (-22), 3) := by decide +kernel
theorem dX8_court_170 : decode cX8_court 170 = .ok (.aload_n 0, 1) := by decide +kernel
theorem dX8_court_171 : decode cX8_court 171 = .ok (.getfield 13, 3) := by decide +kernel
theorem dX8_court_174 : decode cX8_court 174 = .ok (.iconst 5, 1) := by decide +kernel
theorem dX8_court_175 : decode cX8_court 175 = .ok (.iaload, 1) := by decide +kernel
theorem dX8_court_176 : decode cX8_court 176 = .ok (.ireturn, 1) := by decide +kernel
theorem dX8_fault_0 : decode cX8_fault 0 = .ok (.aload_n 0, 1) := by decide +kernel
theorem dX8_fault_1 : decode cX8_fault 1 = .ok (.iconst 0, 1) := by decide +kernel
theorem dX8_fault_2 : decode cX8_fault 2 = .ok (.putfield 1, 3) := by decide +kernel
theorem dX8_fault_5 : decode cX8_fault 5 = .ok (.iload_n 1, 1) := by decide +kernel
theorem dX8_fault_6 : decode cX8_fault 6 = .ok (.ifCond .ne 10, 3) := by decide +kernel
theorem dX8_fault_9 : decode cX8_fault 9 = .ok (.aload_n 0, 1) := by decide +kernel
theorem dX8_fault_10 : decode cX8_fault 10 = .ok (.getfield 177, 3) := by decide +kernel
theorem dX8_fault_13 : decode cX8_fault 13 = .ok (.goto 16, 3) := by decide +kernel
theorem dX8_fault_16 : decode cX8_fault 16 = .ok (.iload_n 1, 1) := by decide +kernel
theorem dX8_fault_17 : decode cX8_fault 17 = .ok (.iconst 1, 1) := by decide +kernel
theorem dX8_fault_18 : decode cX8_fault 18 = .ok (.if_icmp .ne 10, 3) := by decide +kernel
theorem dX8_fault_21 : decode cX8_fault 21 = .ok (.aload_n 0, 1) := by decide +kernel
theorem dX8_fault_22 : decode cX8_fault 22 = .ok (.getfield 27, 3) := by decide +kernel
theorem dX8_fault_25 : decode cX8_fault 25 = .ok (.goto 4, 3) := by decide +kernel
theorem dX8_fault_28 : decode cX8_fault 28 = .ok (.iconst (-1), 1) := by decide +kernel
theorem dX8_fault_29 : decode cX8_fault 29 = .ok (.ireturn, 1) := by decide +kernel
theorem dX8_isWindow_0 : decode cX8_isWindow 0 = .ok (.lload_n 1, 1) := by decide +kernel
theorem dX8_isWindow_1 : decode cX8_isWindow 1 = .ok (.lconst 0, 1) := by decide +kernel
theorem dX8_isWindow_2 : decode cX8_isWindow 2 = .ok (.aload_n 0, 1) := by decide +kernel
theorem dX8_isWindow_3 : decode cX8_isWindow 3 = .ok (.getfield 13, 3) := by decide +kernel
theorem dX8_isWindow_6 : decode cX8_isWindow 6 = .ok (.iconst 0, 1) := by decide +kernel
theorem dX8_isWindow_7 : decode cX8_isWindow 7 = .ok (.iaload, 1) := by decide +kernel
theorem dX8_isWindow_8 : decode cX8_isWindow 8 = .ok (.iconst 1, 1) := by decide +kernel
theorem dX8_isWindow_9 : decode cX8_isWindow 9 = .ok (.isub, 1) := by decide +kernel
theorem dX8_isWindow_10 : decode cX8_isWindow 10 = .ok (.i2l, 1) := by decide +kernel
theorem dX8_isWindow_11 : decode cX8_isWindow 11 = .ok (.invokestatic 137, 3) := by decide +kernel
theorem dX8_isWindow_14 : decode cX8_isWindow 14 = .ok (.ireturn, 1) := by decide +kernel
theorem dX8_isPair_0 : decode cX8_isPair 0 = .ok (.lload_n 1, 1) := by decide +kernel
theorem dX8_isPair_1 : decode cX8_isPair 1 = .ok (.lconst 0, 1) := by decide +kernel
theorem dX8_isPair_2 : decode cX8_isPair 2 = .ok (.lcmp, 1) := by decide +kernel
theorem dX8_isPair_3 : decode cX8_isPair 3 = .ok (.ifCond .lt 45, 3) := by decide +kernel
theorem dX8_isPair_6 : decode cX8_isPair 6 = .ok (.aload_n 0, 1) := by decide +kernel
theorem dX8_isPair_7 : decode cX8_isPair 7 = .ok (.lload_n 1, 1) := by decide +kernel
theorem dX8_isPair_8 : decode cX8_isPair 8 = .ok (.ldc2_w 180, 3) := by decide +kernel
theorem dX8_isPair_11 : decode cX8_isPair 11 = .ok (.ldiv, 1) := by decide +kernel
theorem dX8_isPair_12 : decode cX8_isPair 12 = .ok (.invokevirtual 182, 3) := by decide +kernel
theorem dX8_isPair_15 : decode cX8_isPair 15 = .ok (.ifCond .eq 33, 3) := by decide +kernel
theorem dX8_isPair_18 : decode cX8_isPair 18 = .ok (.aload_n 0, 1) := by decide +kernel
theorem dX8_isPair_19 : decode cX8_isPair 19 = .ok (.lload_n 1, 1) := by decide +kernel
theorem dX8_isPair_20 : decode cX8_isPair 20 = .ok (.ldc2_w 180, 3) := by decide +kernel
theorem dX8_isPair_23 : decode cX8_isPair 23 = .ok (.lrem, 1) := by decide +kernel
theorem dX8_isPair_24 : decode cX8_isPair 24 = .ok (.invokevirtual 182, 3) := by decide +kernel
theorem dX8_isPair_27 : decode cX8_isPair 27 = .ok (.ifCond .eq 21, 3) := by decide +kernel
theorem dX8_isPair_30 : decode cX8_isPair 30 = .ok (.lload_n 1, 1) := by decide +kernel
theorem dX8_isPair_31 : decode cX8_isPair 31 = .ok (.ldc2_w 180, 3) := by decide +kernel
theorem dX8_isPair_34 : decode cX8_isPair 34 = .ok (.ldiv, 1) := by decide +kernel
theorem dX8_isPair_35 : decode cX8_isPair 35 = .ok (.lload_n 1, 1) := by decide +kernel
theorem dX8_isPair_36 : decode cX8_isPair 36 = .ok (.ldc2_w 180, 3) := by decide +kernel
theorem dX8_isPair_39 : decode cX8_isPair 39 = .ok (.lrem, 1) := by decide +kernel
theorem dX8_isPair_40 : decode cX8_isPair 40 = .ok (.lcmp, 1) := by decide +kernel
theorem dX8_isPair_41 : decode cX8_isPair 41 = .ok (.ifCond .ge 7, 3) := by decide +kernel
theorem dX8_isPair_44 : decode cX8_isPair 44 = .ok (.iconst 1, 1) := by decide +kernel
theorem dX8_isPair_45 : decode cX8_isPair 45 = .ok (.goto 4, 3) := by decide +kernel
theorem dX8_isPair_48 : decode cX8_isPair 48 = .ok (.iconst 0, 1) := by decide +kernel
theorem dX8_isPair_49 : decode cX8_isPair 49 = .ok (.ireturn, 1) := by decide +kernel
theorem dX8_isBetween_0 : decode cX8_isBetween 0 = .ok (.iload_n 0, 1) := by decide +kernel
theorem dX8_isBetween_1 : decode cX8_isBetween 1 = .ok (.iload_n 1, 1) := by decide +kernel
theorem dX8_isBetween_2 : decode cX8_isBetween 2 = .ok (.if_icmp .le 12, 3) := by decide +kernel
theorem dX8_isBetween_5 : decode cX8_isBetween 5 = .ok (.iload_n 0, 1) := by decide +kernel
theorem dX8_isBetween_6 : decode cX8_isBetween 6 = .ok (.iload_n 2, 1) := by decide +kernel
theorem dX8_isBetween_7 : decode cX8_isBetween 7 = .ok (.if_icmp .ge 7, 3) := by decide +kernel
theorem dX8_isBetween_10 : decode cX8_isBetween 10 = .ok (.iconst 1, 1) := by decide +kernel
theorem dX8_isBetween_11 : decode cX8_isBetween 11 = .ok (.goto 4, 3) := by decide +kernel
theorem dX8_isBetween_14 : decode cX8_isBetween 14 = .ok (.iconst 0, 1) := by decide +kernel
theorem dX8_isBetween_15 : decode cX8_isBetween 15 = .ok (.ireturn, 1) := by decide +kernel
theorem dX8_crosses_0 : decode cX8_crosses 0 = .ok (.iload_n 0, 1) := by decide +kernel
theorem dX8_crosses_1 : decode cX8_crosses 1 = .ok (.iload_n 1, 1) := by decide +kernel
theorem dX8_crosses_2 : decode cX8_crosses 2 = .ok (.if_icmp .ge 7, 3) := by decide +kernel
theorem dX8_crosses_5 : decode cX8_crosses 5 = .ok (.iload_n 0, 1) := by decide +kernel
theorem dX8_crosses_6 : decode cX8_crosses 6 = .ok (.goto 4, 3) := by decide +kernel
theorem dX8_crosses_9 : decode cX8_crosses 9 = .ok (.iload_n 1, 1) := by decide +kernel
theorem dX8_crosses_10 : decode cX8_crosses 10 = .ok (.istore 4, 2) := by decide +kernel
theorem dX8_crosses_12 : decode cX8_crosses 12 = .ok (.iload_n 0, 1) := by decide +kernel
theorem dX8_crosses_13 : decode cX8_crosses 13 = .ok (.iload_n 1, 1) := by decide +kernel
theorem dX8_crosses_14 : decode cX8_crosses 14 = .ok (.if_icmp .ge 7, 3) := by decide +kernel
theorem dX8_crosses_17 : decode cX8_crosses 17 = .ok (.iload_n 1, 1) := by decide +kernel
theorem dX8_crosses_18 : decode cX8_crosses 18 = .ok (.goto 4, 3) := by decide +kernel
theorem dX8_crosses_21 : decode cX8_crosses 21 = .ok (.iload_n 0, 1) := by decide +kernel
theorem dX8_crosses_22 : decode cX8_crosses 22 = .ok (.istore 5, 2) := by decide +kernel
theorem dX8_crosses_24 : decode cX8_crosses 24 = .ok (.iload_n 2, 1) := by decide +kernel
theorem dX8_crosses_25 : decode cX8_crosses 25 = .ok (.iload 4, 2) := by decide +kernel
theorem dX8_crosses_27 : decode cX8_crosses 27 = .ok (.if_icmp .eq 21, 3) := by decide +kernel
theorem dX8_crosses_30 : decode cX8_crosses 30 = .ok (.iload_n 2, 1) := by decide +kernel
theorem dX8_crosses_31 : decode cX8_crosses 31 = .ok (.iload 5, 2) := by decide +kernel
theorem dX8_crosses_33 : decode cX8_crosses 33 = .ok (.if_icmp .eq 15, 3) := by decide +kernel
theorem dX8_crosses_36 : decode cX8_crosses 36 = .ok (.iload_n 3, 1) := by decide +kernel
theorem dX8_crosses_37 : decode cX8_crosses 37 = .ok (.iload 4, 2) := by decide +kernel
theorem dX8_crosses_39 : decode cX8_crosses 39 = .ok (.if_icmp .eq 9, 3) := by decide +kernel
theorem dX8_crosses_42 : decode cX8_crosses 42 = .ok (.iload_n 3, 1) := by decide +kernel
theorem dX8_crosses_43 : decode cX8_crosses 43 = .ok (.iload 5, 2) := by decide +kernel
theorem dX8_crosses_45 : decode cX8_crosses 45 = .ok (.if_icmp .ne 5, 3) := by decide +kernel
theorem dX8_crosses_48 : decode cX8_crosses 48 = .ok (.iconst 0, 1) := by decide +kernel
theorem dX8_crosses_49 : decode cX8_crosses 49 = .ok (.ireturn, 1) := by decide +kernel
theorem dX8_crosses_50 : decode cX8_crosses 50 = .ok (.iload_n 2, 1) := by decide +kernel
theorem dX8_crosses_51 : decode cX8_crosses 51 = .ok (.iload 4, 2) := by decide +kernel
theorem dX8_crosses_53 : decode cX8_crosses 53 = .ok (.iload 5, 2) := by decide +kernel
theorem dX8_crosses_55 : decode cX8_crosses 55 = .ok (.invokestatic 186, 3) := by decide +kernel
theorem dX8_crosses_58 : decode cX8_crosses 58 = .ok (.iload_n 3, 1) := by decide +kernel
theorem dX8_crosses_59 : decode cX8_crosses 59 = .ok (.iload 4, 2) := by decide +kernel
theorem dX8_crosses_61 : decode cX8_crosses 61 = .ok (.iload 5, 2) := by decide +kernel
theorem dX8_crosses_63 : decode cX8_crosses 63 = .ok (.invokestatic 186, 3) := by decide +kernel
theorem dX8_crosses_66 : decode cX8_crosses 66 = .ok (.if_icmp .eq 7, 3) := by decide +kernel
theorem dX8_crosses_69 : decode cX8_crosses 69 = .ok (.iconst 1, 1) := by decide +kernel
theorem dX8_crosses_70 : decode cX8_crosses 70 = .ok (.goto 4, 3) := by decide +kernel
theorem dX8_crosses_73 : decode cX8_crosses 73 = .ok (.iconst 0, 1) := by decide +kernel
theorem dX8_crosses_74 : decode cX8_crosses 74 = .ok (.ireturn, 1) := by decide +kernel
theorem dX8_sets_0 : decode cX8_sets 0 = .ok (.aload_n 0, 1) := by decide +kernel
theorem dX8_sets_1 : decode cX8_sets 1 = .ok (.bipush 42, 2) := by decide +kernel
theorem dX8_sets_3 : decode cX8_sets 3 = .ok (.bipush 12, 2) := by decide +kernel
theorem dX8_sets_5 : decode cX8_sets 5 = .ok (.iload_n 1, 1) := by decide +kernel
theorem dX8_sets_6 : decode cX8_sets 6 = .ok (.imul, 1) := by decide +kernel
theorem dX8_sets_7 : decode cX8_sets 7 = .ok (.iadd, 1) := by decide +kernel
theorem dX8_sets_8 : decode cX8_sets 8 = .ok (.iload_n 2, 1) := by decide +kernel
theorem dX8_sets_9 : decode cX8_sets 9 = .ok (.iadd, 1) := by decide +kernel
theorem dX8_sets_10 : decode cX8_sets 10 = .ok (.iload_n 3, 1) := by decide +kernel
theorem dX8_sets_11 : decode cX8_sets 11 = .ok (.iastore, 1) := by decide +kernel
theorem dX8_sets_12 : decode cX8_sets 12 = .ok (.aload_n 0, 1) := by decide +kernel
theorem dX8_sets_13 : decode cX8_sets 13 = .ok (.bipush 42, 2) := by decide +kernel
theorem dX8_sets_15 : decode cX8_sets 15 = .ok (.bipush 12, 2) := by decide +kernel
theorem dX8_sets_17 : decode cX8_sets 17 = .ok (.iload_n 2, 1) := by decide +kernel
theorem dX8_sets_18 : decode cX8_sets 18 = .ok (.imul, 1) := by decide +kernel
theorem dX8_sets_19 : decode cX8_sets 19 = .ok (.iadd, 1) := by decide +kernel
theorem dX8_sets_20 : decode cX8_sets 20 = .ok (.iload_n 1, 1) := by decide +kernel
theorem dX8_sets_21 : decode cX8_sets 21 = .ok (.iadd, 1) := by decide +kernel
theorem dX8_sets_22 : decode cX8_sets 22 = .ok (.iload_n 3, 1) := by decide +kernel
theorem dX8_sets_23 : decode cX8_sets 23 = .ok (.iastore, 1) := by decide +kernel
theorem dX8_sets_24 : decode cX8_sets 24 = .ok (.return_, 1) := by decide +kernel
theorem dX8_stringsAt_0 : decode cX8_stringsAt 0 = .ok (.iconst 0, 1) := by decide +kernel
theorem dX8_stringsAt_1 : decode cX8_stringsAt 1 = .ok (.istore_n 2, 1) := by decide +kernel
theorem dX8_stringsAt_2 : decode cX8_stringsAt 2 = .ok (.iconst 0, 1) := by decide +kernel
theorem dX8_stringsAt_3 : decode cX8_stringsAt 3 = .ok (.istore_n 3, 1) := by decide +kernel
theorem dX8_stringsAt_4 : decode cX8_stringsAt 4 = .ok (.iload_n 3, 1) := by decide +kernel
theorem dX8_stringsAt_5 : decode cX8_stringsAt 5 = .ok (.bipush 12, 2) := by decide +kernel
theorem dX8_stringsAt_7 : decode cX8_stringsAt 7 = .ok (.if_icmp .ge 31, 3) := by decide +kernel
theorem dX8_stringsAt_10 : decode cX8_stringsAt 10 = .ok (.iload_n 2, 1) := by decide +kernel
theorem dX8_stringsAt_11 : decode cX8_stringsAt 11 = .ok (.aload_n 0, 1) := by decide +kernel
theorem dX8_stringsAt_12 : decode cX8_stringsAt 12 = .ok (.bipush 42, 2) := by decide +kernel
theorem dX8_stringsAt_14 : decode cX8_stringsAt 14 = .ok (.bipush 12, 2) := by decide +kernel
theorem dX8_stringsAt_16 : decode cX8_stringsAt 16 = .ok (.iload_n 1, 1) := by decide +kernel
theorem dX8_stringsAt_17 : decode cX8_stringsAt 17 = .ok (.imul, 1) := by decide +kernel
theorem dX8_stringsAt_18 : decode cX8_stringsAt 18 = .ok (.iadd, 1) := by decide +kernel
theorem dX8_stringsAt_19 : decode cX8_stringsAt 19 = .ok (.iload_n 3, 1) := by decide +kernel
theorem dX8_stringsAt_20 : decode cX8_stringsAt 20 = .ok (.iadd, 1) := by decide +kernel
theorem dX8_stringsAt_21 : decode cX8_stringsAt 21 = .ok (.iaload, 1) := by decide +kernel
theorem dX8_stringsAt_22 : decode cX8_stringsAt 22 = .ok (.ifCond .le 7, 3) := by decide +kernel
theorem dX8_stringsAt_25 : decode cX8_stringsAt 25 = .ok (.iconst 1, 1) := by decide +kernel
theorem dX8_stringsAt_26 : decode cX8_stringsAt 26 = .ok (.goto 4, 3) := by decide +kernel
theorem dX8_stringsAt_29 : decode cX8_stringsAt 29 = .ok (.iconst 0, 1) := by decide +kernel
theorem dX8_stringsAt_30 : decode cX8_stringsAt 30 = .ok (.iadd, 1) := by decide +kernel
theorem dX8_stringsAt_31 : decode cX8_stringsAt 31 = .ok (.istore_n 2, 1) := by decide +kernel
theorem dX8_stringsAt_32 : decode cX8_stringsAt 32 = .ok (.iinc 3 1, 3) := by decide +kernel
theorem dX8_stringsAt_35 : decode cX8_stringsAt 35 = .ok (.goto (-31), 3) := by decide +kernel
theorem dX8_stringsAt_38 : decode cX8_stringsAt 38 = .ok (.iload_n 2, 1) := by decide +kernel
theorem dX8_stringsAt_39 : decode cX8_stringsAt 39 = .ok (.ireturn, 1) := by decide +kernel
theorem dX8_refusesIn_0 : decode cX8_refusesIn 0 = .ok (.aload_n 0, 1) := by decide +kernel
theorem dX8_refusesIn_1 : decode cX8_refusesIn 1 = .ok (.bipush 42, 2) := by decide +kernel
theorem dX8_refusesIn_3 : decode cX8_refusesIn 3 = .ok (.bipush 12, 2) := by decide +kernel
theorem dX8_refusesIn_5 : decode cX8_refusesIn 5 = .ok (.iload_n 1, 1) := by decide +kernel
theorem dX8_refusesIn_6 : decode cX8_refusesIn 6 = .ok (.imul, 1) := by decide +kernel
theorem dX8_refusesIn_7 : decode cX8_refusesIn 7 = .ok (.iadd, 1) := by decide +kernel
theorem dX8_refusesIn_8 : decode cX8_refusesIn 8 = .ok (.iload_n 2, 1) := by decide +kernel
theorem dX8_refusesIn_9 : decode cX8_refusesIn 9 = .ok (.iadd, 1) := by decide +kernel
theorem dX8_refusesIn_10 : decode cX8_refusesIn 10 = .ok (.iaload, 1) := by decide +kernel
theorem dX8_refusesIn_11 : decode cX8_refusesIn 11 = .ok (.ifCond .le 5, 3) := by decide +kernel
theorem dX8_refusesIn_14 : decode cX8_refusesIn 14 = .ok (.iconst 2, 1) := by decide +kernel
theorem dX8_refusesIn_15 : decode cX8_refusesIn 15 = .ok (.ireturn, 1) := by decide +kernel
theorem dX8_refusesIn_16 : decode cX8_refusesIn 16 = .ok (.aload_n 0, 1) := by decide +kernel
theorem dX8_refusesIn_17 : decode cX8_refusesIn 17 = .ok (.iload_n 1, 1) := by decide +kernel
theorem dX8_refusesIn_18 : decode cX8_refusesIn 18 = .ok (.invokestatic 190, 3) := by decide +kernel
theorem dX8_refusesIn_21 : decode cX8_refusesIn 21 = .ok (.aload_n 0, 1) := by decide +kernel
theorem dX8_refusesIn_22 : decode cX8_refusesIn 22 = .ok (.bipush 6, 2) := by decide +kernel
theorem dX8_refusesIn_24 : decode cX8_refusesIn 24 = .ok (.iload_n 1, 1) := by decide +kernel
theorem dX8_refusesIn_25 : decode cX8_refusesIn 25 = .ok (.iadd, 1) := by decide +kernel
theorem dX8_refusesIn_26 : decode cX8_refusesIn 26 = .ok (.iaload, 1) := by decide +kernel
theorem dX8_refusesIn_27 : decode cX8_refusesIn 27 = .ok (.if_icmp .ge 17, 3) := by decide +kernel
theorem dX8_refusesIn_30 : decode cX8_refusesIn 30 = .ok (.aload_n 0, 1) := by decide +kernel
theorem dX8_refusesIn_31 : decode cX8_refusesIn 31 = .ok (.iload_n 2, 1) := by decide +kernel
theorem dX8_refusesIn_32 : decode cX8_refusesIn 32 = .ok (.invokestatic 190, 3) := by decide +kernel
theorem dX8_refusesIn_35 : decode cX8_refusesIn 35 = .ok (.aload_n 0, 1) := by decide +kernel
theorem dX8_refusesIn_36 : decode cX8_refusesIn 36 = .ok (.bipush 6, 2) := by decide +kernel
theorem dX8_refusesIn_38 : decode cX8_refusesIn 38 = .ok (.iload_n 2, 1) := by decide +kernel
theorem dX8_refusesIn_39 : decode cX8_refusesIn 39 = .ok (.iadd, 1) := by decide +kernel
theorem dX8_refusesIn_40 : decode cX8_refusesIn 40 = .ok (.iaload, 1) := by decide +kernel
theorem dX8_refusesIn_41 : decode cX8_refusesIn 41 = .ok (.if_icmp .lt 5, 3) := by decide +kernel
theorem dX8_refusesIn_44 : decode cX8_refusesIn 44 = .ok (.iconst 3, 1) := by decide +kernel
theorem dX8_refusesIn_45 : decode cX8_refusesIn 45 = .ok (.ireturn, 1) := by decide +kernel
theorem dX8_refusesIn_46 : decode cX8_refusesIn 46 = .ok (.iconst 0, 1) := by decide +kernel
theorem dX8_refusesIn_47 : decode cX8_refusesIn 47 = .ok (.istore_n 3, 1) := by decide +kernel
theorem dX8_refusesIn_48 : decode cX8_refusesIn 48 = .ok (.iload_n 3, 1) := by decide +kernel
theorem dX8_refusesIn_49 : decode cX8_refusesIn 49 = .ok (.aload_n 0, 1) := by decide +kernel
theorem dX8_refusesIn_50 : decode cX8_refusesIn 50 = .ok (.iconst 0, 1) := by decide +kernel
theorem dX8_refusesIn_51 : decode cX8_refusesIn 51 = .ok (.iaload, 1) := by decide +kernel
theorem dX8_refusesIn_52 : decode cX8_refusesIn 52 = .ok (.if_icmp .ge 56, 3) := by decide +kernel
theorem dX8_refusesIn_55 : decode cX8_refusesIn 55 = .ok (.iload_n 3, 1) := by decide +kernel
theorem dX8_refusesIn_56 : decode cX8_refusesIn 56 = .ok (.iconst 1, 1) := by decide +kernel
theorem dX8_refusesIn_57 : decode cX8_refusesIn 57 = .ok (.iadd, 1) := by decide +kernel
theorem dX8_refusesIn_58 : decode cX8_refusesIn 58 = .ok (.istore 4, 2) := by decide +kernel
theorem dX8_refusesIn_60 : decode cX8_refusesIn 60 = .ok (.iload 4, 2) := by decide +kernel
theorem dX8_refusesIn_62 : decode cX8_refusesIn 62 = .ok (.aload_n 0, 1) := by decide +kernel
theorem dX8_refusesIn_63 : decode cX8_refusesIn 63 = .ok (.iconst 0, 1) := by decide +kernel
theorem dX8_refusesIn_64 : decode cX8_refusesIn 64 = .ok (.iaload, 1) := by decide +kernel
theorem dX8_refusesIn_65 : decode cX8_refusesIn 65 = .ok (.if_icmp .ge 37, 3) := by decide +kernel
theorem dX8_refusesIn_68 : decode cX8_refusesIn 68 = .ok (.aload_n 0, 1) := by decide +kernel
theorem dX8_refusesIn_69 : decode cX8_refusesIn 69 = .ok (.bipush 42, 2) := by decide +kernel
theorem dX8_refusesIn_71 : decode cX8_refusesIn 71 = .ok (.bipush 12, 2) := by decide +kernel
theorem dX8_refusesIn_73 : decode cX8_refusesIn 73 = .ok (.iload_n 3, 1) := by decide +kernel
theorem dX8_refusesIn_74 : decode cX8_refusesIn 74 = .ok (.imul, 1) := by decide +kernel
theorem dX8_refusesIn_75 : decode cX8_refusesIn 75 = .ok (.iadd, 1) := by decide +kernel
theorem dX8_refusesIn_76 : decode cX8_refusesIn 76 = .ok (.iload 4, 2) := by decide +kernel
theorem dX8_refusesIn_78 : decode cX8_refusesIn 78 = .ok (.iadd, 1) := by decide +kernel
theorem dX8_refusesIn_79 : decode cX8_refusesIn 79 = .ok (.iaload, 1) := by decide +kernel
theorem dX8_refusesIn_80 : decode cX8_refusesIn 80 = .ok (.ifCond .le 16, 3) := by decide +kernel
theorem dX8_refusesIn_83 : decode cX8_refusesIn 83 = .ok (.iload_n 1, 1) := by decide +kernel
theorem dX8_refusesIn_84 : decode cX8_refusesIn 84 = .ok (.iload_n 2, 1) := by decide +kernel
theorem dX8_refusesIn_85 : decode cX8_refusesIn 85 = .ok (.iload_n 3, 1) := by decide +kernel
theorem dX8_refusesIn_86 : decode cX8_refusesIn 86 = .ok (.iload 4, 2) := by decide +kernel
theorem dX8_refusesIn_88 : decode cX8_refusesIn 88 = .ok (.invokestatic 194, 3) := by decide +kernel
theorem dX8_refusesIn_91 : decode cX8_refusesIn 91 = .ok (.ifCond .eq 5, 3) := by decide +kernel
theorem dX8_refusesIn_94 : decode cX8_refusesIn 94 = .ok (.iconst 4, 1) := by decide +kernel
theorem dX8_refusesIn_95 : decode cX8_refusesIn 95 = .ok (.ireturn, 1) := by decide +kernel
theorem dX8_refusesIn_96 : decode cX8_refusesIn 96 = .ok (.iinc 4 1, 3) := by decide +kernel
theorem dX8_refusesIn_99 : decode cX8_refusesIn 99 = .ok (.goto (-39), 3) := by decide +kernel
theorem dX8_refusesIn_102 : decode cX8_refusesIn 102 = .ok (.iinc 3 1, 3) := by decide +kernel
theorem dX8_refusesIn_105 : decode cX8_refusesIn 105 = .ok (.goto (-57), 3) := by decide +kernel
theorem dX8_refusesIn_108 : decode cX8_refusesIn 108 = .ok (.iconst 0, 1) := by decide +kernel
theorem dX8_refusesIn_109 : decode cX8_refusesIn 109 = .ok (.ireturn, 1) := by decide +kernel
theorem dX8_knotsOf_0 : decode cX8_knotsOf 0 = .ok (.aload_n 0, 1) := by decide +kernel
theorem dX8_knotsOf_1 : decode cX8_knotsOf 1 = .ok (.getfield 13, 3) := by decide +kernel
theorem dX8_knotsOf_4 : decode cX8_knotsOf 4 = .ok (.bipush 42, 2) := by decide +kernel
theorem dX8_knotsOf_6 : decode cX8_knotsOf 6 = .ok (.bipush 12, 2) := by decide +kernel
theorem dX8_knotsOf_8 : decode cX8_knotsOf 8 = .ok (.iload_n 1, 1) := by decide +kernel
theorem dX8_knotsOf_9 : decode cX8_knotsOf 9 = .ok (.imul, 1) := by decide +kernel
theorem dX8_knotsOf_10 : decode cX8_knotsOf 10 = .ok (.iadd, 1) := by decide +kernel
theorem dX8_knotsOf_11 : decode cX8_knotsOf 11 = .ok (.iload_n 2, 1) := by decide +kernel
theorem dX8_knotsOf_12 : decode cX8_knotsOf 12 = .ok (.iadd, 1) := by decide +kernel
theorem dX8_knotsOf_13 : decode cX8_knotsOf 13 = .ok (.iaload, 1) := by decide +kernel
theorem dX8_knotsOf_14 : decode cX8_knotsOf 14 = .ok (.iconst 1, 1) := by decide +kernel
theorem dX8_knotsOf_15 : decode cX8_knotsOf 15 = .ok (.isub, 1) := by decide +kernel
theorem dX8_knotsOf_16 : decode cX8_knotsOf 16 = .ok (.ireturn, 1) := by decide +kernel
theorem dX8_isTied_0 : decode cX8_isTied 0 = .ok (.aload_n 0, 1) := by decide +kernel
theorem dX8_isTied_1 : decode cX8_isTied 1 = .ok (.getfield 13, 3) := by decide +kernel
theorem dX8_isTied_4 : decode cX8_isTied 4 = .ok (.bipush 42, 2) := by decide +kernel
theorem dX8_isTied_6 : decode cX8_isTied 6 = .ok (.bipush 12, 2) := by decide +kernel
theorem dX8_isTied_8 : decode cX8_isTied 8 = .ok (.iload_n 1, 1) := by decide +kernel
theorem dX8_isTied_9 : decode cX8_isTied 9 = .ok (.imul, 1) := by decide +kernel
theorem dX8_isTied_10 : decode cX8_isTied 10 = .ok (.iadd, 1) := by decide +kernel
theorem dX8_isTied_11 : decode cX8_isTied 11 = .ok (.iload_n 2, 1) := by decide +kernel
theorem dX8_isTied_12 : decode cX8_isTied 12 = .ok (.iadd, 1) := by decide +kernel
theorem dX8_isTied_13 : decode cX8_isTied 13 = .ok (.iaload, 1) := by decide +kernel
theorem dX8_isTied_14 : decode cX8_isTied 14 = .ok (.ifCond .le 7, 3) := by decide +kernel
theorem dX8_isTied_17 : decode cX8_isTied 17 = .ok (.iconst 1, 1) := by decide +kernel
theorem dX8_isTied_18 : decode cX8_isTied 18 = .ok (.goto 4, 3) := by decide +kernel
theorem dX8_isTied_21 : decode cX8_isTied 21 = .ok (.iconst 0, 1) := by decide +kernel
theorem dX8_isTied_22 : decode cX8_isTied 22 = .ok (.ireturn, 1) := by decide +kernel
theorem dX8_lengthOf_0 : decode cX8_lengthOf 0 = .ok (.iload_n 1, 1) := by decide +kernel
theorem dX8_lengthOf_1 : decode cX8_lengthOf 1 = .ok (.iload_n 2, 1) := by decide +kernel
theorem dX8_lengthOf_2 : decode cX8_lengthOf 2 = .ok (.invokestatic 148, 3) := by decide +kernel
theorem dX8_lengthOf_5 : decode cX8_lengthOf 5 = .ok (.istore_n 3, 1) := by decide +kernel
theorem dX8_lengthOf_6 : decode cX8_lengthOf 6 = .ok (.iload_n 3, 1) := by decide +kernel
theorem dX8_lengthOf_7 : decode cX8_lengthOf 7 = .ok (.aload_n 0, 1) := by decide +kernel
theorem dX8_lengthOf_8 : decode cX8_lengthOf 8 = .ok (.getfield 13, 3) := by decide +kernel
theorem dX8_lengthOf_11 : decode cX8_lengthOf 11 = .ok (.iconst 0, 1) := by decide +kernel
theorem dX8_lengthOf_12 : decode cX8_lengthOf 12 = .ok (.iaload, 1) := by decide +kernel
theorem dX8_lengthOf_13 : decode cX8_lengthOf 13 = .ok (.iload_n 3, 1) := by decide +kernel
theorem dX8_lengthOf_14 : decode cX8_lengthOf 14 = .ok (.isub, 1) := by decide +kernel
theorem dX8_lengthOf_15 : decode cX8_lengthOf 15 = .ok (.imul, 1) := by decide +kernel
theorem dX8_lengthOf_16 : decode cX8_lengthOf 16 = .ok (.ireturn, 1) := by decide +kernel
theorem dX8_lossOf_0 : decode cX8_lossOf 0 = .ok (.aload_n 0, 1) := by decide +kernel
theorem dX8_lossOf_1 : decode cX8_lossOf 1 = .ok (.iload_n 1, 1) := by decide +kernel
theorem dX8_lossOf_2 : decode cX8_lossOf 2 = .ok (.iload_n 2, 1) := by decide +kernel
theorem dX8_lossOf_3 : decode cX8_lossOf 3 = .ok (.invokevirtual 198, 3) := by decide +kernel
theorem dX8_lossOf_6 : decode cX8_lossOf 6 = .ok (.bipush 10, 2) := by decide +kernel
theorem dX8_lossOf_8 : decode cX8_lossOf 8 = .ok (.aload_n 0, 1) := by decide +kernel
theorem dX8_lossOf_9 : decode cX8_lossOf 9 = .ok (.getfield 13, 3) := by decide +kernel
theorem dX8_lossOf_12 : decode cX8_lossOf 12 = .ok (.iconst 2, 1) := by decide +kernel
theorem dX8_lossOf_13 : decode cX8_lossOf 13 = .ok (.iaload, 1) := by decide +kernel
theorem dX8_lossOf_14 : decode cX8_lossOf 14 = .ok (.iadd, 1) := by decide +kernel
theorem dX8_lossOf_15 : decode cX8_lossOf 15 = .ok (.imul, 1) := by decide +kernel
theorem dX8_lossOf_16 : decode cX8_lossOf 16 = .ok (.bipush 10, 2) := by decide +kernel
theorem dX8_lossOf_18 : decode cX8_lossOf 18 = .ok (.idiv, 1) := by decide +kernel
theorem dX8_lossOf_19 : decode cX8_lossOf 19 = .ok (.aload_n 0, 1) := by decide +kernel
theorem dX8_lossOf_20 : decode cX8_lossOf 20 = .ok (.iload_n 1, 1) := by decide +kernel
theorem dX8_lossOf_21 : decode cX8_lossOf 21 = .ok (.iload_n 2, 1) := by decide +kernel
theorem dX8_lossOf_22 : decode cX8_lossOf 22 = .ok (.invokevirtual 201, 3) := by decide +kernel
theorem dX8_lossOf_25 : decode cX8_lossOf 25 = .ok (.ifCond .eq 14, 3) := by decide +kernel
theorem dX8_lossOf_28 : decode cX8_lossOf 28 = .ok (.iconst 3, 1) := by decide +kernel
theorem dX8_lossOf_29 : decode cX8_lossOf 29 = .ok (.aload_n 0, 1) := by decide +kernel
theorem dX8_lossOf_30 : decode cX8_lossOf 30 = .ok (.iload_n 1, 1) := by decide +kernel
theorem dX8_lossOf_31 : decode cX8_lossOf 31 = .ok (.iload_n 2, 1) := by decide +kernel
theorem dX8_lossOf_32 : decode cX8_lossOf 32 = .ok (.invokevirtual 205, 3) := by decide +kernel
theorem dX8_lossOf_35 : decode cX8_lossOf 35 = .ok (.imul, 1) := by decide +kernel
theorem dX8_lossOf_36 : decode cX8_lossOf 36 = .ok (.goto 4, 3) := by decide +kernel
theorem dX8_lossOf_39 : decode cX8_lossOf 39 = .ok (.iconst 0, 1) := by decide +kernel
theorem dX8_lossOf_40 : decode cX8_lossOf 40 = .ok (.iadd, 1) := by decide +kernel
theorem dX8_lossOf_41 : decode cX8_lossOf 41 = .ok (.ireturn, 1) := by decide +kernel
theorem dX8_isSlackAt_0 : decode cX8_isSlackAt 0 = .ok (.iconst 0, 1) := by decide +kernel
theorem dX8_isSlackAt_1 : decode cX8_isSlackAt 1 = .ok (.istore 4, 2) := by decide +kernel
theorem dX8_isSlackAt_3 : decode cX8_isSlackAt 3 = .ok (.iload 4, 2) := by decide +kernel
theorem dX8_isSlackAt_5 : decode cX8_isSlackAt 5 = .ok (.aload_n 0, 1) := by decide +kernel
theorem dX8_isSlackAt_6 : decode cX8_isSlackAt 6 = .ok (.getfield 13, 3) := by decide +kernel
theorem dX8_isSlackAt_9 : decode cX8_isSlackAt 9 = .ok (.iconst 4, 1) := by decide +kernel
theorem dX8_isSlackAt_10 : decode cX8_isSlackAt 10 = .ok (.iaload, 1) := by decide +kernel
theorem dX8_isSlackAt_11 : decode cX8_isSlackAt 11 = .ok (.if_icmp .ge 70, 3) := by decide +kernel
theorem dX8_isSlackAt_14 : decode cX8_isSlackAt 14 = .ok (.aload_n 0, 1) := by decide +kernel
theorem dX8_isSlackAt_15 : decode cX8_isSlackAt 15 = .ok (.getfield 13, 3) := by decide +kernel
theorem dX8_isSlackAt_18 : decode cX8_isSlackAt 18 = .ok (.bipush 18, 2) := by decide +kernel
theorem dX8_isSlackAt_20 : decode cX8_isSlackAt 20 = .ok (.iconst 3, 1) := by decide +kernel
theorem dX8_isSlackAt_21 : decode cX8_isSlackAt 21 = .ok (.iload 4, 2) := by decide +kernel
theorem dX8_isSlackAt_23 : decode cX8_isSlackAt 23 = .ok (.imul, 1) := by decide +kernel
theorem dX8_isSlackAt_24 : decode cX8_isSlackAt 24 = .ok (.iadd, 1) := by decide +kernel
theorem dX8_isSlackAt_25 : decode cX8_isSlackAt 25 = .ok (.iconst 2, 1) := by decide +kernel
theorem dX8_isSlackAt_26 : decode cX8_isSlackAt 26 = .ok (.iadd, 1) := by decide +kernel
theorem dX8_isSlackAt_27 : decode cX8_isSlackAt 27 = .ok (.iaload, 1) := by decide +kernel
theorem dX8_isSlackAt_28 : decode cX8_isSlackAt 28 = .ok (.iload_n 3, 1) := by decide +kernel
theorem dX8_isSlackAt_29 : decode cX8_isSlackAt 29 = .ok (.bipush 12, 2) := by decide +kernel
theorem dX8_isSlackAt_31 : decode cX8_isSlackAt 31 = .ok (.irem, 1) := by decide +kernel
theorem dX8_isSlackAt_32 : decode cX8_isSlackAt 32 = .ok (.ishr, 1) := by decide +kernel
theorem dX8_isSlackAt_33 : decode cX8_isSlackAt 33 = .ok (.iconst 1, 1) := by decide +kernel
theorem dX8_isSlackAt_34 : decode cX8_isSlackAt 34 = .ok (.iand, 1) := by decide +kernel
theorem dX8_isSlackAt_35 : decode cX8_isSlackAt 35 = .ok (.iconst 1, 1) := by decide +kernel
theorem dX8_isSlackAt_36 : decode cX8_isSlackAt 36 = .ok (.if_icmp .ne 39, 3) := by decide +kernel
theorem dX8_isSlackAt_39 : decode cX8_isSlackAt 39 = .ok (.iload_n 1, 1) := by decide +kernel
theorem dX8_isSlackAt_40 : decode cX8_isSlackAt 40 = .ok (.iload_n 2, 1) := by decide +kernel
theorem dX8_isSlackAt_41 : decode cX8_isSlackAt 41 = .ok (.aload_n 0, 1) := by decide +kernel
theorem dX8_isSlackAt_42 : decode cX8_isSlackAt 42 = .ok (.getfield 13, 3) := by decide +kernel
theorem dX8_isSlackAt_45 : decode cX8_isSlackAt 45 = .ok (.bipush 18, 2) := by decide +kernel
theorem dX8_isSlackAt_47 : decode cX8_isSlackAt 47 = .ok (.iconst 3, 1) := by decide +kernel
theorem dX8_isSlackAt_48 : decode cX8_isSlackAt 48 = .ok (.iload 4, 2) := by decide +kernel
theorem dX8_isSlackAt_50 : decode cX8_isSlackAt 50 = .ok (.imul, 1) := by decide +kernel
theorem dX8_isSlackAt_51 : decode cX8_isSlackAt 51 = .ok (.iadd, 1) := by decide +kernel
theorem dX8_isSlackAt_52 : decode cX8_isSlackAt 52 = .ok (.iaload, 1) := by decide +kernel
theorem dX8_isSlackAt_53 : decode cX8_isSlackAt 53 = .ok (.aload_n 0, 1) := by decide +kernel
theorem dX8_isSlackAt_54 : decode cX8_isSlackAt 54 = .ok (.getfield 13, 3) := by decide +kernel
theorem dX8_isSlackAt_57 : decode cX8_isSlackAt 57 = .ok (.bipush 18, 2) := by decide +kernel
theorem dX8_isSlackAt_59 : decode cX8_isSlackAt 59 = .ok (.iconst 3, 1) := by decide +kernel
theorem dX8_isSlackAt_60 : decode cX8_isSlackAt 60 = .ok (.iload 4, 2) := by decide +kernel
theorem dX8_isSlackAt_62 : decode cX8_isSlackAt 62 = .ok (.imul, 1) := by decide +kernel
theorem dX8_isSlackAt_63 : decode cX8_isSlackAt 63 = .ok (.iadd, 1) := by decide +kernel
theorem dX8_isSlackAt_64 : decode cX8_isSlackAt 64 = .ok (.iconst 1, 1) := by decide +kernel
theorem dX8_isSlackAt_65 : decode cX8_isSlackAt 65 = .ok (.iadd, 1) := by decide +kernel
theorem dX8_isSlackAt_66 : decode cX8_isSlackAt 66 = .ok (.iaload, 1) := by decide +kernel
theorem dX8_isSlackAt_67 : decode cX8_isSlackAt 67 = .ok (.invokestatic 194, 3) := by decide +kernel
theorem dX8_isSlackAt_70 : decode cX8_isSlackAt 70 = .ok (.ifCond .eq 5, 3) := by decide +kernel
theorem dX8_isSlackAt_73 : decode cX8_isSlackAt 73 = .ok (.iconst 1, 1) := by decide +kernel
theorem dX8_isSlackAt_74 : decode cX8_isSlackAt 74 = .ok (.ireturn, 1) := by decide +kernel
theorem dX8_isSlackAt_75 : decode cX8_isSlackAt 75 = .ok (.iinc 4 1, 3) := by decide +kernel
theorem dX8_isSlackAt_78 : decode cX8_isSlackAt 78 = .ok (.goto (-75), 3) := by decide +kernel
theorem dX8_isSlackAt_81 : decode cX8_isSlackAt 81 = .ok (.iconst 0, 1) := by decide +kernel
theorem dX8_isSlackAt_82 : decode cX8_isSlackAt 82 = .ok (.ireturn, 1) := by decide +kernel
theorem dX8_isSlack_0 : decode cX8_isSlack 0 = .ok (.aload_n 0, 1) := by decide +kernel
theorem dX8_isSlack_1 : decode cX8_isSlack 1 = .ok (.iload_n 1, 1) := by decide +kernel
theorem dX8_isSlack_2 : decode cX8_isSlack 2 = .ok (.iload_n 2, 1) := by decide +kernel
theorem dX8_isSlack_3 : decode cX8_isSlack 3 = .ok (.aload_n 0, 1) := by decide +kernel
theorem dX8_isSlack_4 : decode cX8_isSlack 4 = .ok (.getfield 13, 3) := by decide +kernel
theorem dX8_isSlack_7 : decode cX8_isSlack 7 = .ok (.iconst 1, 1) := by decide +kernel
theorem dX8_isSlack_8 : decode cX8_isSlack 8 = .ok (.iaload, 1) := by decide +kernel
theorem dX8_isSlack_9 : decode cX8_isSlack 9 = .ok (.invokevirtual 208, 3) := by decide +kernel
theorem dX8_isSlack_12 : decode cX8_isSlack 12 = .ok (.ireturn, 1) := by decide +kernel
theorem dX8_talks_0 : decode cX8_talks 0 = .ok (.aload_n 0, 1) := by decide +kernel
theorem dX8_talks_1 : decode cX8_talks 1 = .ok (.iload_n 1, 1) := by decide +kernel
theorem dX8_talks_2 : decode cX8_talks 2 = .ok (.iload_n 2, 1) := by decide +kernel
theorem dX8_talks_3 : decode cX8_talks 3 = .ok (.invokevirtual 201, 3) := by decide +kernel
theorem dX8_talks_6 : decode cX8_talks 6 = .ok (.ifCond .eq 17, 3) := by decide +kernel
theorem dX8_talks_9 : decode cX8_talks 9 = .ok (.aload_n 0, 1) := by decide +kernel
theorem dX8_talks_10 : decode cX8_talks 10 = .ok (.iload_n 1, 1) := by decide +kernel
theorem dX8_talks_11 : decode cX8_talks 11 = .ok (.iload_n 2, 1) := by decide +kernel
theorem dX8_talks_12 : decode cX8_talks 12 = .ok (.iload_n 3, 1) := by decide +kernel
theorem dX8_talks_13 : decode cX8_talks 13 = .ok (.invokevirtual 208, 3) := by decide +kernel
theorem dX8_talks_16 : decode cX8_talks 16 = .ok (.ifCond .ne 7, 3) := by decide +kernel
theorem dX8_talks_19 : decode cX8_talks 19 = .ok (.iconst 1, 1) := by decide +kernel
theorem dX8_talks_20 : decode cX8_talks 20 = .ok (.goto 4, 3) := by decide +kernel
theorem dX8_talks_23 : decode cX8_talks 23 = .ok (.iconst 0, 1) := by decide +kernel
theorem dX8_talks_24 : decode cX8_talks 24 = .ok (.ireturn, 1) := by decide +kernel
theorem dX8_strings_0 : decode cX8_strings 0 = .ok (.iconst 0, 1) := by decide +kernel
theorem dX8_strings_1 : decode cX8_strings 1 = .ok (.istore_n 1, 1) := by decide +kernel
theorem dX8_strings_2 : decode cX8_strings 2 = .ok (.iconst 0, 1) := by decide +kernel
theorem dX8_strings_3 : decode cX8_strings 3 = .ok (.istore_n 2, 1) := by decide +kernel
theorem dX8_strings_4 : decode cX8_strings 4 = .ok (.iload_n 2, 1) := by decide +kernel
theorem dX8_strings_5 : decode cX8_strings 5 = .ok (.aload_n 0, 1) := by decide +kernel
theorem dX8_strings_6 : decode cX8_strings 6 = .ok (.getfield 13, 3) := by decide +kernel
theorem dX8_strings_9 : decode cX8_strings 9 = .ok (.iconst 0, 1) := by decide +kernel
theorem dX8_strings_10 : decode cX8_strings 10 = .ok (.iaload, 1) := by decide +kernel
theorem dX8_strings_11 : decode cX8_strings 11 = .ok (.if_icmp .ge 46, 3) := by decide +kernel
theorem dX8_strings_14 : decode cX8_strings 14 = .ok (.iload_n 2, 1) := by decide +kernel
theorem dX8_strings_15 : decode cX8_strings 15 = .ok (.iconst 1, 1) := by decide +kernel
theorem dX8_strings_16 : decode cX8_strings 16 = .ok (.iadd, 1) := by decide +kernel
theorem dX8_strings_17 : decode cX8_strings 17 = .ok (.istore_n 3, 1) := by decide +kernel
theorem dX8_strings_18 : decode cX8_strings 18 = .ok (.iload_n 3, 1) := by decide +kernel
theorem dX8_strings_19 : decode cX8_strings 19 = .ok (.aload_n 0, 1) := by decide +kernel
theorem dX8_strings_20 : decode cX8_strings 20 = .ok (.getfield 13, 3) := by decide +kernel
theorem dX8_strings_23 : decode cX8_strings 23 = .ok (.iconst 0, 1) := by decide +kernel
theorem dX8_strings_24 : decode cX8_strings 24 = .ok (.iaload, 1) := by decide +kernel
theorem dX8_strings_25 : decode cX8_strings 25 = .ok (.if_icmp .ge 26, 3) := by decide +kernel
theorem dX8_strings_28 : decode cX8_strings 28 = .ok (.iload_n 1, 1) := by decide +kernel
theorem dX8_strings_29 : decode cX8_strings 29 = .ok (.aload_n 0, 1) := by decide +kernel
theorem dX8_strings_30 : decode cX8_strings 30 = .ok (.iload_n 2, 1) := by decide +kernel
theorem dX8_strings_31 : decode cX8_strings 31 = .ok (.iload_n 3, 1) := by decide +kernel
theorem dX8_strings_32 : decode cX8_strings 32 = .ok (.invokevirtual 201, 3) := by decide +kernel
theorem dX8_strings_35 : decode cX8_strings 35 = .ok (.ifCond .eq 7, 3) := by decide +kernel
theorem dX8_strings_38 : decode cX8_strings 38 = .ok (.iconst 1, 1) := by decide +kernel
theorem dX8_strings_39 : decode cX8_strings 39 = .ok (.goto 4, 3) := by decide +kernel
theorem dX8_strings_42 : decode cX8_strings 42 = .ok (.iconst 0, 1) := by decide +kernel
theorem dX8_strings_43 : decode cX8_strings 43 = .ok (.iadd, 1) := by decide +kernel
theorem dX8_strings_44 : decode cX8_strings 44 = .ok (.istore_n 1, 1) := by decide +kernel
theorem dX8_strings_45 : decode cX8_strings 45 = .ok (.iinc 3 1, 3) := by decide +kernel
theorem dX8_strings_48 : decode cX8_strings 48 = .ok (.goto (-30), 3) := by decide +kernel
theorem dX8_strings_51 : decode cX8_strings 51 = .ok (.iinc 2 1, 3) := by decide +kernel
theorem dX8_strings_54 : decode cX8_strings 54 = .ok (.goto (-50), 3) := by decide +kernel
theorem dX8_strings_57 : decode cX8_strings 57 = .ok (.iload_n 1, 1) := by decide +kernel
theorem dX8_strings_58 : decode cX8_strings 58 = .ok (.ireturn, 1) := by decide +kernel
theorem dX8_leadsTo_0 : decode cX8_leadsTo 0 = .ok (.iconst 0, 1) := by decide +kernel
theorem dX8_leadsTo_1 : decode cX8_leadsTo 1 = .ok (.istore_n 2, 1) := by decide +kernel
theorem dX8_leadsTo_2 : decode cX8_leadsTo 2 = .ok (.iconst 0, 1) := by decide +kernel
theorem dX8_leadsTo_3 : decode cX8_leadsTo 3 = .ok (.istore_n 3, 1) := by decide +kernel
theorem dX8_leadsTo_4 : decode cX8_leadsTo 4 = .ok (.iload_n 3, 1) := by decide +kernel
theorem dX8_leadsTo_5 : decode cX8_leadsTo 5 = .ok (.aload_n 0, 1) := by decide +kernel
theorem dX8_leadsTo_6 : decode cX8_leadsTo 6 = .ok (.getfield 13, 3) := by decide +kernel
theorem dX8_leadsTo_9 : decode cX8_leadsTo 9 = .ok (.iconst 0, 1) := by decide +kernel
theorem dX8_leadsTo_10 : decode cX8_leadsTo 10 = .ok (.iaload, 1) := by decide +kernel
theorem dX8_leadsTo_11 : decode cX8_leadsTo 11 = .ok (.if_icmp .ge 34, 3) := by decide +kernel
theorem dX8_leadsTo_14 : decode cX8_leadsTo 14 = .ok (.iload_n 2, 1) := by decide +kernel
theorem dX8_leadsTo_15 : decode cX8_leadsTo 15 = .ok (.aload_n 0, 1) := by decide +kernel
theorem dX8_leadsTo_16 : decode cX8_leadsTo 16 = .ok (.iload_n 1, 1) := by decide +kernel
theorem dX8_leadsTo_17 : decode cX8_leadsTo 17 = .ok (.iload_n 3, 1) := by decide +kernel
theorem dX8_leadsTo_18 : decode cX8_leadsTo 18 = .ok (.aload_n 0, 1) := by decide +kernel
theorem dX8_leadsTo_19 : decode cX8_leadsTo 19 = .ok (.getfield 13, 3) := by decide +kernel
theorem dX8_leadsTo_22 : decode cX8_leadsTo 22 = .ok (.iconst 1, 1) := by decide +kernel
theorem dX8_leadsTo_23 : decode cX8_leadsTo 23 = .ok (.iaload, 1) := by decide +kernel
theorem dX8_leadsTo_24 : decode cX8_leadsTo 24 = .ok (.invokevirtual 211, 3) := by decide +kernel
theorem dX8_leadsTo_27 : decode cX8_leadsTo 27 = .ok (.ifCond .eq 9, 3) := by decide +kernel
theorem dX8_leadsTo_30 : decode cX8_leadsTo 30 = .ok (.iconst 1, 1) := by decide +kernel
theorem dX8_leadsTo_31 : decode cX8_leadsTo 31 = .ok (.iload_n 3, 1) := by decide +kernel
theorem dX8_leadsTo_32 : decode cX8_leadsTo 32 = .ok (.ishl, 1) := by decide +kernel
theorem dX8_leadsTo_33 : decode cX8_leadsTo 33 = .ok (.goto 4, 3) := by decide +kernel
theorem dX8_leadsTo_36 : decode cX8_leadsTo 36 = .ok (.iconst 0, 1) := by decide +kernel
theorem dX8_leadsTo_37 : decode cX8_leadsTo 37 = .ok (.ior, 1) := by decide +kernel
theorem dX8_leadsTo_38 : decode cX8_leadsTo 38 = .ok (.istore_n 2, 1) := by decide +kernel
theorem dX8_leadsTo_39 : decode cX8_leadsTo 39 = .ok (.iinc 3 1, 3) := by decide +kernel
theorem dX8_leadsTo_42 : decode cX8_leadsTo 42 = .ok (.goto (-38), 3) := by decide +kernel
theorem dX8_leadsTo_45 : decode cX8_leadsTo 45 = .ok (.iload_n 2, 1) := by decide +kernel
theorem dX8_leadsTo_46 : decode cX8_leadsTo 46 = .ok (.ireturn, 1) := by decide +kernel
theorem dX8_bitsOf_0 : decode cX8_bitsOf 0 = .ok (.iconst 0, 1) := by decide +kernel
theorem dX8_bitsOf_1 : decode cX8_bitsOf 1 = .ok (.istore_n 1, 1) := by decide +kernel
theorem dX8_bitsOf_2 : decode cX8_bitsOf 2 = .ok (.iconst 0, 1) := by decide +kernel
theorem dX8_bitsOf_3 : decode cX8_bitsOf 3 = .ok (.istore_n 2, 1) := by decide +kernel
theorem dX8_bitsOf_4 : decode cX8_bitsOf 4 = .ok (.iload_n 2, 1) := by decide +kernel
theorem dX8_bitsOf_5 : decode cX8_bitsOf 5 = .ok (.bipush 12, 2) := by decide +kernel
theorem dX8_bitsOf_7 : decode cX8_bitsOf 7 = .ok (.if_icmp .ge 17, 3) := by decide +kernel
theorem dX8_bitsOf_10 : decode cX8_bitsOf 10 = .ok (.iload_n 1, 1) := by decide +kernel
theorem dX8_bitsOf_11 : decode cX8_bitsOf 11 = .ok (.iload_n 0, 1) := by decide +kernel
theorem dX8_bitsOf_12 : decode cX8_bitsOf 12 = .ok (.iload_n 2, 1) := by decide +kernel
theorem dX8_bitsOf_13 : decode cX8_bitsOf 13 = .ok (.ishr, 1) := by decide +kernel
theorem dX8_bitsOf_14 : decode cX8_bitsOf 14 = .ok (.iconst 1, 1) := by decide +kernel
theorem dX8_bitsOf_15 : decode cX8_bitsOf 15 = .ok (.iand, 1) := by decide +kernel
theorem dX8_bitsOf_16 : decode cX8_bitsOf 16 = .ok (.iadd, 1) := by decide +kernel
theorem dX8_bitsOf_17 : decode cX8_bitsOf 17 = .ok (.istore_n 1, 1) := by decide +kernel
theorem dX8_bitsOf_18 : decode cX8_bitsOf 18 = .ok (.iinc 2 1, 3) := by decide +kernel
theorem dX8_bitsOf_21 : decode cX8_bitsOf 21 = .ok (.goto (-17), 3) := by decide +kernel
theorem dX8_bitsOf_24 : decode cX8_bitsOf 24 = .ok (.iload_n 1, 1) := by decide +kernel
theorem dX8_bitsOf_25 : decode cX8_bitsOf 25 = .ok (.ireturn, 1) := by decide +kernel
theorem dX8_window_0 : decode cX8_window 0 = .ok (.aload_n 0, 1) := by decide +kernel
theorem dX8_window_1 : decode cX8_window 1 = .ok (.iconst 0, 1) := by decide +kernel
theorem dX8_window_2 : decode cX8_window 2 = .ok (.putfield 1, 3) := by decide +kernel
theorem dX8_window_5 : decode cX8_window 5 = .ok (.aload_n 0, 1) := by decide +kernel
theorem dX8_window_6 : decode cX8_window 6 = .ok (.iload_n 1, 1) := by decide +kernel
theorem dX8_window_7 : decode cX8_window 7 = .ok (.i2l, 1) := by decide +kernel
theorem dX8_window_8 : decode cX8_window 8 = .ok (.invokevirtual 182, 3) := by decide +kernel
theorem dX8_window_11 : decode cX8_window 11 = .ok (.ifCond .eq 15, 3) := by decide +kernel
theorem dX8_window_14 : decode cX8_window 14 = .ok (.iload_n 2, 1) := by decide +kernel
theorem dX8_window_15 : decode cX8_window 15 = .ok (.i2l, 1) := by decide +kernel
theorem dX8_window_16 : decode cX8_window 16 = .ok (.lconst 0, 1) := by decide +kernel
theorem dX8_window_17 : decode cX8_window 17 = .ok (.ldc2_w 214, 3) := by decide +kernel
theorem dX8_window_20 : decode cX8_window 20 = .ok (.invokestatic 137, 3) := by decide +kernel
theorem dX8_window_23 : decode cX8_window 23 = .ok (.ifCond .ne 6, 3) := by decide +kernel
theorem dX8_window_26 : decode cX8_window 26 = .ok (.bipush (-2), 2) := by decide +kernel
theorem dX8_window_28 : decode cX8_window 28 = .ok (.ireturn, 1) := by decide +kernel
theorem dX8_window_29 : decode cX8_window 29 = .ok (.iload_n 2, 1) := by decide +kernel
theorem dX8_window_30 : decode cX8_window 30 = .ok (.ifCond .ne 15, 3) := by decide +kernel
theorem dX8_window_33 : decode cX8_window 33 = .ok (.aload_n 0, 1) := by decide +kernel
theorem dX8_window_34 : decode cX8_window 34 = .ok (.getfield 13, 3) := by decide +kernel
theorem dX8_window_37 : decode cX8_window 37 = .ok (.bipush 6, 2) := by decide +kernel
theorem dX8_window_39 : decode cX8_window 39 = .ok (.iload_n 1, 1) := by decide +kernel
theorem dX8_window_40 : decode cX8_window 40 = .ok (.iadd, 1) := by decide +kernel
theorem dX8_window_41 : decode cX8_window 41 = .ok (.iaload, 1) := by decide +kernel
theorem dX8_window_42 : decode cX8_window 42 = .ok (.goto 40, 3) := by decide +kernel
theorem dX8_window_45 : decode cX8_window 45 = .ok (.iload_n 2, 1) := by decide +kernel
theorem dX8_window_46 : decode cX8_window 46 = .ok (.iconst 1, 1) := by decide +kernel
theorem dX8_window_47 : decode cX8_window 47 = .ok (.if_icmp .ne 14, 3) := by decide +kernel
theorem dX8_window_50 : decode cX8_window 50 = .ok (.aload_n 0, 1) := by decide +kernel
theorem dX8_window_51 : decode cX8_window 51 = .ok (.getfield 13, 3) := by decide +kernel
theorem dX8_window_54 : decode cX8_window 54 = .ok (.iload_n 1, 1) := by decide +kernel
theorem dX8_window_55 : decode cX8_window 55 = .ok (.invokestatic 190, 3) := by decide +kernel
theorem dX8_window_58 : decode cX8_window 58 = .ok (.goto 24, 3) := by decide +kernel
theorem dX8_window_61 : decode cX8_window 61 = .ok (.iload_n 2, 1) := by decide +kernel
theorem dX8_window_62 : decode cX8_window 62 = .ok (.iconst 2, 1) := by decide +kernel
theorem dX8_window_63 : decode cX8_window 63 = .ok (.if_icmp .ne 14, 3) := by decide +kernel
theorem dX8_window_66 : decode cX8_window 66 = .ok (.aload_n 0, 1) := by decide +kernel
theorem dX8_window_67 : decode cX8_window 67 = .ok (.iload_n 1, 1) := by decide +kernel
theorem dX8_window_68 : decode cX8_window 68 = .ok (.invokevirtual 216, 3) := by decide +kernel
theorem dX8_window_71 : decode cX8_window 71 = .ok (.invokestatic 219, 3) := by decide +kernel
theorem dX8_window_74 : decode cX8_window 74 = .ok (.goto 8, 3) := by decide +kernel
theorem dX8_window_77 : decode cX8_window 77 = .ok (.aload_n 0, 1) := by decide +kernel
theorem dX8_window_78 : decode cX8_window 78 = .ok (.iload_n 1, 1) := by decide +kernel
theorem dX8_window_79 : decode cX8_window 79 = .ok (.invokevirtual 216, 3) := by decide +kernel
theorem dX8_window_82 : decode cX8_window 82 = .ok (.ireturn, 1) := by decide +kernel
theorem dX8_cross_0 : decode cX8_cross 0 = .ok (.aload_n 0, 1) := by decide +kernel
theorem dX8_cross_1 : decode cX8_cross 1 = .ok (.iconst 0, 1) := by decide +kernel
theorem dX8_cross_2 : decode cX8_cross 2 = .ok (.putfield 1, 3) := by decide +kernel
theorem dX8_cross_5 : decode cX8_cross 5 = .ok (.aload_n 0, 1) := by decide +kernel
theorem dX8_cross_6 : decode cX8_cross 6 = .ok (.iload_n 1, 1) := by decide +kernel
theorem dX8_cross_7 : decode cX8_cross 7 = .ok (.i2l, 1) := by decide +kernel
theorem dX8_cross_8 : decode cX8_cross 8 = .ok (.invokevirtual 222, 3) := by decide +kernel
theorem dX8_cross_11 : decode cX8_cross 11 = .ok (.ifCond .eq 12, 3) := by decide +kernel
theorem dX8_cross_14 : decode cX8_cross 14 = .ok (.aload_n 0, 1) := by decide +kernel
theorem dX8_cross_15 : decode cX8_cross 15 = .ok (.iload_n 2, 1) := by decide +kernel
theorem dX8_cross_16 : decode cX8_cross 16 = .ok (.i2l, 1) := by decide +kernel
theorem dX8_cross_17 : decode cX8_cross 17 = .ok (.invokevirtual 222, 3) := by decide +kernel
theorem dX8_cross_20 : decode cX8_cross 20 = .ok (.ifCond .ne 6, 3) := by decide +kernel
theorem dX8_cross_23 : decode cX8_cross 23 = .ok (.bipush (-2), 2) := by decide +kernel
theorem dX8_cross_25 : decode cX8_cross 25 = .ok (.ireturn, 1) := by decide +kernel
theorem dX8_cross_26 : decode cX8_cross 26 = .ok (.iload_n 1, 1) := by decide +kernel
theorem dX8_cross_27 : decode cX8_cross 27 = .ok (.bipush 20, 2) := by decide +kernel
theorem dX8_cross_29 : decode cX8_cross 29 = .ok (.idiv, 1) := by decide +kernel
theorem dX8_cross_30 : decode cX8_cross 30 = .ok (.iload_n 1, 1) := by decide +kernel
theorem dX8_cross_31 : decode cX8_cross 31 = .ok (.bipush 20, 2) := by decide +kernel
theorem dX8_cross_33 : decode cX8_cross 33 = .ok (.irem, 1) := by decide +kernel
theorem dX8_cross_34 : decode cX8_cross 34 = .ok (.iload_n 2, 1) := by decide +kernel
theorem dX8_cross_35 : decode cX8_cross 35 = .ok (.bipush 20, 2) := by decide +kernel
theorem dX8_cross_37 : decode cX8_cross 37 = .ok (.idiv, 1) := by decide +kernel
theorem dX8_cross_38 : decode cX8_cross 38 = .ok (.iload_n 2, 1) := by decide +kernel
theorem dX8_cross_39 : decode cX8_cross 39 = .ok (.bipush 20, 2) := by decide +kernel
theorem dX8_cross_41 : decode cX8_cross 41 = .ok (.irem, 1) := by decide +kernel
theorem dX8_cross_42 : decode cX8_cross 42 = .ok (.invokestatic 194, 3) := by decide +kernel
theorem dX8_cross_45 : decode cX8_cross 45 = .ok (.ifCond .eq 7, 3) := by decide +kernel
theorem dX8_cross_48 : decode cX8_cross 48 = .ok (.iconst 1, 1) := by decide +kernel
theorem dX8_cross_49 : decode cX8_cross 49 = .ok (.goto 4, 3) := by decide +kernel
theorem dX8_cross_52 : decode cX8_cross 52 = .ok (.iconst 0, 1) := by decide +kernel
theorem dX8_cross_53 : decode cX8_cross 53 = .ok (.ireturn, 1) := by decide +kernel
theorem dX8_pair_0 : decode cX8_pair 0 = .ok (.aload_n 0, 1) := by decide +kernel
theorem dX8_pair_1 : decode cX8_pair 1 = .ok (.iconst 0, 1) := by decide +kernel
theorem dX8_pair_2 : decode cX8_pair 2 = .ok (.putfield 1, 3) := by decide +kernel
theorem dX8_pair_5 : decode cX8_pair 5 = .ok (.aload_n 0, 1) := by decide +kernel
theorem dX8_pair_6 : decode cX8_pair 6 = .ok (.iload_n 1, 1) := by decide +kernel
theorem dX8_pair_7 : decode cX8_pair 7 = .ok (.i2l, 1) := by decide +kernel
theorem dX8_pair_8 : decode cX8_pair 8 = .ok (.invokevirtual 222, 3) := by decide +kernel
theorem dX8_pair_11 : decode cX8_pair 11 = .ok (.ifCond .eq 15, 3) := by decide +kernel
theorem dX8_pair_14 : decode cX8_pair 14 = .ok (.iload_n 2, 1) := by decide +kernel
theorem dX8_pair_15 : decode cX8_pair 15 = .ok (.i2l, 1) := by decide +kernel
theorem dX8_pair_16 : decode cX8_pair 16 = .ok (.lconst 0, 1) := by decide +kernel
theorem dX8_pair_17 : decode cX8_pair 17 = .ok (.ldc2_w 214, 3) := by decide +kernel
theorem dX8_pair_20 : decode cX8_pair 20 = .ok (.invokestatic 137, 3) := by decide +kernel
theorem dX8_pair_23 : decode cX8_pair 23 = .ok (.ifCond .ne 6, 3) := by decide +kernel
theorem dX8_pair_26 : decode cX8_pair 26 = .ok (.bipush (-2), 2) := by decide +kernel
theorem dX8_pair_28 : decode cX8_pair 28 = .ok (.ireturn, 1) := by decide +kernel
theorem dX8_pair_29 : decode cX8_pair 29 = .ok (.iload_n 1, 1) := by decide +kernel
theorem dX8_pair_30 : decode cX8_pair 30 = .ok (.bipush 20, 2) := by decide +kernel
theorem dX8_pair_32 : decode cX8_pair 32 = .ok (.idiv, 1) := by decide +kernel
theorem dX8_pair_33 : decode cX8_pair 33 = .ok (.istore_n 3, 1) := by decide +kernel
theorem dX8_pair_34 : decode cX8_pair 34 = .ok (.iload_n 1, 1) := by decide +kernel
theorem dX8_pair_35 : decode cX8_pair 35 = .ok (.bipush 20, 2) := by decide +kernel
theorem dX8_pair_37 : decode cX8_pair 37 = .ok (.irem, 1) := by decide +kernel
theorem dX8_pair_38 : decode cX8_pair 38 = .ok (.istore 4, 2) := by decide +kernel
theorem dX8_pair_40 : decode cX8_pair 40 = .ok (.iload_n 2, 1) := by decide +kernel
theorem dX8_pair_41 : decode cX8_pair 41 = .ok (.ifCond .ne 13, 3) := by decide +kernel
theorem dX8_pair_44 : decode cX8_pair 44 = .ok (.aload_n 0, 1) := by decide +kernel
theorem dX8_pair_45 : decode cX8_pair 45 = .ok (.iload_n 3, 1) := by decide +kernel
theorem dX8_pair_46 : decode cX8_pair 46 = .ok (.iload 4, 2) := by decide +kernel
theorem dX8_pair_48 : decode cX8_pair 48 = .ok (.invokevirtual 198, 3) := by decide +kernel
theorem dX8_pair_51 : decode cX8_pair 51 = .ok (.goto 48, 3) := by decide +kernel
theorem dX8_pair_54 : decode cX8_pair 54 = .ok (.iload_n 2, 1) := by decide +kernel
theorem dX8_pair_55 : decode cX8_pair 55 = .ok (.iconst 1, 1) := by decide +kernel
theorem dX8_pair_56 : decode cX8_pair 56 = .ok (.if_icmp .ne 13, 3) := by decide +kernel
theorem dX8_pair_59 : decode cX8_pair 59 = .ok (.aload_n 0, 1) := by decide +kernel
theorem dX8_pair_60 : decode cX8_pair 60 = .ok (.iload_n 3, 1) := by decide +kernel
theorem dX8_pair_61 : decode cX8_pair 61 = .ok (.iload 4, 2) := by decide +kernel
theorem dX8_pair_63 : decode cX8_pair 63 = .ok (.invokevirtual 205, 3) := by decide +kernel
theorem dX8_pair_66 : decode cX8_pair 66 = .ok (.goto 33, 3) := by decide +kernel
theorem dX8_pair_69 : decode cX8_pair 69 = .ok (.iload_n 2, 1) := by decide +kernel
theorem dX8_pair_70 : decode cX8_pair 70 = .ok (.iconst 2, 1) := by decide +kernel
theorem dX8_pair_71 : decode cX8_pair 71 = .ok (.if_icmp .ne 13, 3) := by decide +kernel
theorem dX8_pair_74 : decode cX8_pair 74 = .ok (.aload_n 0, 1) := by decide +kernel
theorem dX8_pair_75 : decode cX8_pair 75 = .ok (.iload_n 3, 1) := by decide +kernel
theorem dX8_pair_76 : decode cX8_pair 76 = .ok (.iload 4, 2) := by decide +kernel
theorem dX8_pair_78 : decode cX8_pair 78 = .ok (.invokevirtual 225, 3) := by decide +kernel
theorem dX8_pair_81 : decode cX8_pair 81 = .ok (.goto 18, 3) := by decide +kernel
theorem dX8_pair_84 : decode cX8_pair 84 = .ok (.aload_n 0, 1) := by decide +kernel
theorem dX8_pair_85 : decode cX8_pair 85 = .ok (.iload_n 3, 1) := by decide +kernel
theorem dX8_pair_86 : decode cX8_pair 86 = .ok (.iload 4, 2) := by decide +kernel
theorem dX8_pair_88 : decode cX8_pair 88 = .ok (.invokevirtual 228, 3) := by decide +kernel
theorem dX8_pair_91 : decode cX8_pair 91 = .ok (.ifCond .eq 7, 3) := by decide +kernel
theorem dX8_pair_94 : decode cX8_pair 94 = .ok (.iconst 1, 1) := by decide +kernel
theorem dX8_pair_95 : decode cX8_pair 95 = .ok (.goto 4, 3) := by decide +kernel
theorem dX8_pair_98 : decode cX8_pair 98 = .ok (.iconst 0, 1) := by decide +kernel
theorem dX8_pair_99 : decode cX8_pair 99 = .ok (.ireturn, 1) := by decide +kernel
theorem dX8_refuses_0 : decode cX8_refuses 0 = .ok (.aload_n 0, 1) := by decide +kernel
theorem dX8_refuses_1 : decode cX8_refuses 1 = .ok (.lload_n 1, 1) := by decide +kernel
theorem dX8_refuses_2 : decode cX8_refuses 2 = .ok (.invokevirtual 222, 3) := by decide +kernel
theorem dX8_refuses_5 : decode cX8_refuses 5 = .ok (.ifCond .eq 23, 3) := by decide +kernel
theorem dX8_refuses_8 : decode cX8_refuses 8 = .ok (.aload_n 0, 1) := by decide +kernel
theorem dX8_refuses_9 : decode cX8_refuses 9 = .ok (.getfield 13, 3) := by decide +kernel
theorem dX8_refuses_12 : decode cX8_refuses 12 = .ok (.lload_n 1, 1) := by decide +kernel
theorem dX8_refuses_13 : decode cX8_refuses 13 = .ok (.l2i, 1) := by decide +kernel
theorem dX8_refuses_14 : decode cX8_refuses 14 = .ok (.bipush 20, 2) := by decide +kernel
theorem dX8_refuses_16 : decode cX8_refuses 16 = .ok (.idiv, 1) := by decide +kernel
theorem dX8_refuses_17 : decode cX8_refuses 17 = .ok (.lload_n 1, 1) := by decide +kernel
theorem dX8_refuses_18 : decode cX8_refuses 18 = .ok (.l2i, 1) := by decide +kernel
theorem dX8_refuses_19 : decode cX8_refuses 19 = .ok (.bipush 20, 2) := by decide +kernel
theorem dX8_refuses_21 : decode cX8_refuses 21 = .ok (.irem, 1) := by decide +kernel
theorem dX8_refuses_22 : decode cX8_refuses 22 = .ok (.invokestatic 154, 3) := by decide +kernel
theorem dX8_refuses_25 : decode cX8_refuses 25 = .ok (.goto 4, 3) := by decide +kernel
theorem dX8_refuses_28 : decode cX8_refuses 28 = .ok (.iconst 1, 1) := by decide +kernel
theorem dX8_refuses_29 : decode cX8_refuses 29 = .ok (.ireturn, 1) := by decide +kernel
theorem dX8_may_0 : decode cX8_may 0 = .ok (.aload_n 0, 1) := by decide +kernel
theorem dX8_may_1 : decode cX8_may 1 = .ok (.iconst 0, 1) := by decide +kernel
theorem dX8_may_2 : decode cX8_may 2 = .ok (.putfield 1, 3) := by decide +kernel
theorem dX8_may_5 : decode cX8_may 5 = .ok (.aload_n 0, 1) := by decide +kernel
theorem dX8_may_6 : decode cX8_may 6 = .ok (.iload_n 1, 1) := by decide +kernel
theorem dX8_may_7 : decode cX8_may 7 = .ok (.i2l, 1) := by decide +kernel
theorem dX8_may_8 : decode cX8_may 8 = .ok (.invokevirtual 231, 3) := by decide +kernel
theorem dX8_may_11 : decode cX8_may 11 = .ok (.ireturn, 1) := by decide +kernel
theorem dX8_tie_0 : decode cX8_tie 0 = .ok (.aload_n 0, 1) := by decide +kernel
theorem dX8_tie_1 : decode cX8_tie 1 = .ok (.iconst 0, 1) := by decide +kernel
theorem dX8_tie_2 : decode cX8_tie 2 = .ok (.putfield 1, 3) := by decide +kernel
theorem dX8_tie_5 : decode cX8_tie 5 = .ok (.aload_n 0, 1) := by decide +kernel
theorem dX8_tie_6 : decode cX8_tie 6 = .ok (.iload_n 1, 1) := by decide +kernel
theorem dX8_tie_7 : decode cX8_tie 7 = .ok (.i2l, 1) := by decide +kernel
theorem dX8_tie_8 : decode cX8_tie 8 = .ok (.invokevirtual 231, 3) := by decide +kernel
theorem dX8_tie_11 : decode cX8_tie 11 = .ok (.istore_n 3, 1) := by decide +kernel
theorem dX8_tie_12 : decode cX8_tie 12 = .ok (.iload_n 3, 1) := by decide +kernel
theorem dX8_tie_13 : decode cX8_tie 13 = .ok (.ifCond .eq 8, 3) := by decide +kernel
theorem dX8_tie_16 : decode cX8_tie 16 = .ok (.bipush (-10), 2) := by decide +kernel
theorem dX8_tie_18 : decode cX8_tie 18 = .ok (.iload_n 3, 1) := by decide +kernel
theorem dX8_tie_19 : decode cX8_tie 19 = .ok (.isub, 1) := by decide +kernel
theorem dX8_tie_20 : decode cX8_tie 20 = .ok (.ireturn, 1) := by decide +kernel
theorem dX8_tie_21 : decode cX8_tie 21 = .ok (.iload_n 2, 1) := by decide +kernel
theorem dX8_tie_22 : decode cX8_tie 22 = .ok (.i2l, 1) := by decide +kernel
theorem dX8_tie_23 : decode cX8_tie 23 = .ok (.lconst 0, 1) := by decide +kernel
theorem dX8_tie_24 : decode cX8_tie 24 = .ok (.ldc2_w 235, 3) := by decide +kernel
theorem dX8_tie_27 : decode cX8_tie 27 = .ok (.invokestatic 137, 3) := by decide +kernel
theorem dX8_tie_30 : decode cX8_tie 30 = .ok (.ifCond .ne 6, 3) := by decide +kernel
theorem dX8_tie_33 : decode cX8_tie 33 = .ok (.bipush (-3), 2) := by decide +kernel
theorem dX8_tie_35 : decode cX8_tie 35 = .ok (.ireturn, 1) := by decide +kernel
theorem dX8_tie_36 : decode cX8_tie 36 = .ok (.aload_n 0, 1) := by decide +kernel
theorem dX8_tie_37 : decode cX8_tie 37 = .ok (.getfield 13, 3) := by decide +kernel
theorem dX8_tie_40 : decode cX8_tie 40 = .ok (.iload_n 1, 1) := by decide +kernel
theorem dX8_tie_41 : decode cX8_tie 41 = .ok (.bipush 20, 2) := by decide +kernel
theorem dX8_tie_43 : decode cX8_tie 43 = .ok (.idiv, 1) := by decide +kernel
theorem dX8_tie_44 : decode cX8_tie 44 = .ok (.iload_n 1, 1) := by decide +kernel
theorem dX8_tie_45 : decode cX8_tie 45 = .ok (.bipush 20, 2) := by decide +kernel
theorem dX8_tie_47 : decode cX8_tie 47 = .ok (.irem, 1) := by decide +kernel
theorem dX8_tie_48 : decode cX8_tie 48 = .ok (.iload_n 2, 1) := by decide +kernel
theorem dX8_tie_49 : decode cX8_tie 49 = .ok (.iconst 1, 1) := by decide +kernel
theorem dX8_tie_50 : decode cX8_tie 50 = .ok (.iadd, 1) := by decide +kernel
theorem dX8_tie_51 : decode cX8_tie 51 = .ok (.invokestatic 158, 3) := by decide +kernel
theorem dX8_tie_54 : decode cX8_tie 54 = .ok (.aload_n 0, 1) := by decide +kernel
theorem dX8_tie_55 : decode cX8_tie 55 = .ok (.invokevirtual 237, 3) := by decide +kernel
theorem dX8_tie_58 : decode cX8_tie 58 = .ok (.ireturn, 1) := by decide +kernel
theorem dX8_cut_0 : decode cX8_cut 0 = .ok (.aload_n 0, 1) := by decide +kernel
theorem dX8_cut_1 : decode cX8_cut 1 = .ok (.iconst 0, 1) := by decide +kernel
theorem dX8_cut_2 : decode cX8_cut 2 = .ok (.putfield 1, 3) := by decide +kernel
theorem dX8_cut_5 : decode cX8_cut 5 = .ok (.aload_n 0, 1) := by decide +kernel
theorem dX8_cut_6 : decode cX8_cut 6 = .ok (.iload_n 1, 1) := by decide +kernel
theorem dX8_cut_7 : decode cX8_cut 7 = .ok (.i2l, 1) := by decide +kernel
theorem dX8_cut_8 : decode cX8_cut 8 = .ok (.invokevirtual 222, 3) := by decide +kernel
theorem dX8_cut_11 : decode cX8_cut 11 = .ok (.ifCond .eq 18, 3) := by decide +kernel
theorem dX8_cut_14 : decode cX8_cut 14 = .ok (.aload_n 0, 1) := by decide +kernel
theorem dX8_cut_15 : decode cX8_cut 15 = .ok (.iload_n 1, 1) := by decide +kernel
theorem dX8_cut_16 : decode cX8_cut 16 = .ok (.bipush 20, 2) := by decide +kernel
theorem dX8_cut_18 : decode cX8_cut 18 = .ok (.idiv, 1) := by decide +kernel
theorem dX8_cut_19 : decode cX8_cut 19 = .ok (.iload_n 1, 1) := by decide +kernel
theorem dX8_cut_20 : decode cX8_cut 20 = .ok (.bipush 20, 2) := by decide +kernel
theorem dX8_cut_22 : decode cX8_cut 22 = .ok (.irem, 1) := by decide +kernel
theorem dX8_cut_23 : decode cX8_cut 23 = .ok (.invokevirtual 201, 3) := by decide +kernel
theorem dX8_cut_26 : decode cX8_cut 26 = .ok (.ifCond .ne 6, 3) := by decide +kernel
theorem dX8_cut_29 : decode cX8_cut 29 = .ok (.bipush (-2), 2) := by decide +kernel
theorem dX8_cut_31 : decode cX8_cut 31 = .ok (.ireturn, 1) := by decide +kernel
theorem dX8_cut_32 : decode cX8_cut 32 = .ok (.aload_n 0, 1) := by decide +kernel
theorem dX8_cut_33 : decode cX8_cut 33 = .ok (.getfield 13, 3) := by decide +kernel
theorem dX8_cut_36 : decode cX8_cut 36 = .ok (.iload_n 1, 1) := by decide +kernel
theorem dX8_cut_37 : decode cX8_cut 37 = .ok (.bipush 20, 2) := by decide +kernel
theorem dX8_cut_39 : decode cX8_cut 39 = .ok (.idiv, 1) := by decide +kernel
theorem dX8_cut_40 : decode cX8_cut 40 = .ok (.iload_n 1, 1) := by decide +kernel
theorem dX8_cut_41 : decode cX8_cut 41 = .ok (.bipush 20, 2) := by decide +kernel
theorem dX8_cut_43 : decode cX8_cut 43 = .ok (.irem, 1) := by decide +kernel
theorem dX8_cut_44 : decode cX8_cut 44 = .ok (.iconst 0, 1) := by decide +kernel
theorem dX8_cut_45 : decode cX8_cut 45 = .ok (.invokestatic 158, 3) := by decide +kernel
theorem dX8_cut_48 : decode cX8_cut 48 = .ok (.aload_n 0, 1) := by decide +kernel
theorem dX8_cut_49 : decode cX8_cut 49 = .ok (.invokevirtual 237, 3) := by decide +kernel
theorem dX8_cut_52 : decode cX8_cut 52 = .ok (.ireturn, 1) := by decide +kernel
theorem dX8_knot_0 : decode cX8_knot 0 = .ok (.aload_n 0, 1) := by decide +kernel
theorem dX8_knot_1 : decode cX8_knot 1 = .ok (.iconst 0, 1) := by decide +kernel
theorem dX8_knot_2 : decode cX8_knot 2 = .ok (.putfield 1, 3) := by decide +kernel
theorem dX8_knot_5 : decode cX8_knot 5 = .ok (.aload_n 0, 1) := by decide +kernel
theorem dX8_knot_6 : decode cX8_knot 6 = .ok (.iload_n 1, 1) := by decide +kernel
theorem dX8_knot_7 : decode cX8_knot 7 = .ok (.i2l, 1) := by decide +kernel
theorem dX8_knot_8 : decode cX8_knot 8 = .ok (.invokevirtual 222, 3) := by decide +kernel
theorem dX8_knot_11 : decode cX8_knot 11 = .ok (.ifCond .eq 18, 3) := by decide +kernel
theorem dX8_knot_14 : decode cX8_knot 14 = .ok (.aload_n 0, 1) := by decide +kernel
theorem dX8_knot_15 : decode cX8_knot 15 = .ok (.iload_n 1, 1) := by decide +kernel
theorem dX8_knot_16 : decode cX8_knot 16 = .ok (.bipush 20, 2) := by decide +kernel
theorem dX8_knot_18 : decode cX8_knot 18 = .ok (.idiv, 1) := by decide +kernel
theorem dX8_knot_19 : decode cX8_knot 19 = .ok (.iload_n 1, 1) := by decide +kernel
theorem dX8_knot_20 : decode cX8_knot 20 = .ok (.bipush 20, 2) := by decide +kernel
theorem dX8_knot_22 : decode cX8_knot 22 = .ok (.irem, 1) := by decide +kernel
theorem dX8_knot_23 : decode cX8_knot 23 = .ok (.invokevirtual 201, 3) := by decide +kernel
theorem dX8_knot_26 : decode cX8_knot 26 = .ok (.ifCond .ne 6, 3) := by decide +kernel
theorem dX8_knot_29 : decode cX8_knot 29 = .ok (.bipush (-2), 2) := by decide +kernel
theorem dX8_knot_31 : decode cX8_knot 31 = .ok (.ireturn, 1) := by decide +kernel
theorem dX8_knot_32 : decode cX8_knot 32 = .ok (.aload_n 0, 1) := by decide +kernel
theorem dX8_knot_33 : decode cX8_knot 33 = .ok (.iload_n 1, 1) := by decide +kernel
theorem dX8_knot_34 : decode cX8_knot 34 = .ok (.bipush 20, 2) := by decide +kernel
theorem dX8_knot_36 : decode cX8_knot 36 = .ok (.idiv, 1) := by decide +kernel
theorem dX8_knot_37 : decode cX8_knot 37 = .ok (.iload_n 1, 1) := by decide +kernel
theorem dX8_knot_38 : decode cX8_knot 38 = .ok (.bipush 20, 2) := by decide +kernel
theorem dX8_knot_40 : decode cX8_knot 40 = .ok (.irem, 1) := by decide +kernel
theorem dX8_knot_41 : decode cX8_knot 41 = .ok (.invokevirtual 205, 3) := by decide +kernel
theorem dX8_knot_44 : decode cX8_knot 44 = .ok (.istore_n 2, 1) := by decide +kernel
theorem dX8_knot_45 : decode cX8_knot 45 = .ok (.iload_n 2, 1) := by decide +kernel
theorem dX8_knot_46 : decode cX8_knot 46 = .ok (.bipush 9, 2) := by decide +kernel
theorem dX8_knot_48 : decode cX8_knot 48 = .ok (.if_icmp .ne 6, 3) := by decide +kernel
theorem dX8_knot_51 : decode cX8_knot 51 = .ok (.bipush (-4), 2) := by decide +kernel
theorem dX8_knot_53 : decode cX8_knot 53 = .ok (.ireturn, 1) := by decide +kernel
theorem dX8_knot_54 : decode cX8_knot 54 = .ok (.aload_n 0, 1) := by decide +kernel
theorem dX8_knot_55 : decode cX8_knot 55 = .ok (.getfield 13, 3) := by decide +kernel
theorem dX8_knot_58 : decode cX8_knot 58 = .ok (.iload_n 1, 1) := by decide +kernel
theorem dX8_knot_59 : decode cX8_knot 59 = .ok (.bipush 20, 2) := by decide +kernel
theorem dX8_knot_61 : decode cX8_knot 61 = .ok (.idiv, 1) := by decide +kernel
theorem dX8_knot_62 : decode cX8_knot 62 = .ok (.iload_n 1, 1) := by decide +kernel
theorem dX8_knot_63 : decode cX8_knot 63 = .ok (.bipush 20, 2) := by decide +kernel
theorem dX8_knot_65 : decode cX8_knot 65 = .ok (.irem, 1) := by decide +kernel
theorem dX8_knot_66 : decode cX8_knot 66 = .ok (.iload_n 2, 1) := by decide +kernel
theorem dX8_knot_67 : decode cX8_knot 67 = .ok (.iconst 2, 1) := by decide +kernel
theorem dX8_knot_68 : decode cX8_knot 68 = .ok (.iadd, 1) := by decide +kernel
theorem dX8_knot_69 : decode cX8_knot 69 = .ok (.invokestatic 158, 3) := by decide +kernel
theorem dX8_knot_72 : decode cX8_knot 72 = .ok (.iload_n 2, 1) := by decide +kernel
theorem dX8_knot_73 : decode cX8_knot 73 = .ok (.iconst 1, 1) := by decide +kernel
theorem dX8_knot_74 : decode cX8_knot 74 = .ok (.iadd, 1) := by decide +kernel
theorem dX8_knot_75 : decode cX8_knot 75 = .ok (.ireturn, 1) := by decide +kernel
theorem dX8_tieAll_0 : decode cX8_tieAll 0 = .ok (.aload_n 0, 1) := by decide +kernel
theorem dX8_tieAll_1 : decode cX8_tieAll 1 = .ok (.iconst 0, 1) := by decide +kernel
theorem dX8_tieAll_2 : decode cX8_tieAll 2 = .ok (.putfield 1, 3) := by decide +kernel
theorem dX8_tieAll_5 : decode cX8_tieAll 5 = .ok (.iload_n 1, 1) := by decide +kernel
theorem dX8_tieAll_6 : decode cX8_tieAll 6 = .ok (.i2l, 1) := by decide +kernel
theorem dX8_tieAll_7 : decode cX8_tieAll 7 = .ok (.lconst 0, 1) := by decide +kernel
theorem dX8_tieAll_8 : decode cX8_tieAll 8 = .ok (.ldc2_w 214, 3) := by decide +kernel
theorem dX8_tieAll_11 : decode cX8_tieAll 11 = .ok (.invokestatic 137, 3) := by decide +kernel
theorem dX8_tieAll_14 : decode cX8_tieAll 14 = .ok (.ifCond .ne 6, 3) := by decide +kernel
theorem dX8_tieAll_17 : decode cX8_tieAll 17 = .ok (.bipush (-2), 2) := by decide +kernel
theorem dX8_tieAll_19 : decode cX8_tieAll 19 = .ok (.ireturn, 1) := by decide +kernel
theorem dX8_tieAll_20 : decode cX8_tieAll 20 = .ok (.aload_n 0, 1) := by decide +kernel
theorem dX8_tieAll_21 : decode cX8_tieAll 21 = .ok (.getfield 67, 3) := by decide +kernel
theorem dX8_tieAll_24 : decode cX8_tieAll 24 = .ok (.iload_n 1, 1) := by decide +kernel
theorem dX8_tieAll_25 : decode cX8_tieAll 25 = .ok (.iaload, 1) := by decide +kernel
theorem dX8_tieAll_26 : decode cX8_tieAll 26 = .ok (.iconst (-1), 1) := by decide +kernel
theorem dX8_tieAll_27 : decode cX8_tieAll 27 = .ok (.if_icmp .ne 6, 3) := by decide +kernel
theorem dX8_tieAll_30 : decode cX8_tieAll 30 = .ok (.bipush (-6), 2) := by decide +kernel
theorem dX8_tieAll_32 : decode cX8_tieAll 32 = .ok (.ireturn, 1) := by decide +kernel
theorem dX8_tieAll_33 : decode cX8_tieAll 33 = .ok (.iconst 0, 1) := by decide +kernel
theorem dX8_tieAll_34 : decode cX8_tieAll 34 = .ok (.istore_n 2, 1) := by decide +kernel
theorem dX8_tieAll_35 : decode cX8_tieAll 35 = .ok (.iconst 0, 1) := by decide +kernel
theorem dX8_tieAll_36 : decode cX8_tieAll 36 = .ok (.istore_n 3, 1) := by decide +kernel
theorem dX8_tieAll_37 : decode cX8_tieAll 37 = .ok (.iload_n 3, 1) := by decide +kernel
theorem dX8_tieAll_38 : decode cX8_tieAll 38 = .ok (.aload_n 0, 1) := by decide +kernel
theorem dX8_tieAll_39 : decode cX8_tieAll 39 = .ok (.getfield 70, 3) := by decide +kernel
theorem dX8_tieAll_42 : decode cX8_tieAll 42 = .ok (.iload_n 1, 1) := by decide +kernel
theorem dX8_tieAll_43 : decode cX8_tieAll 43 = .ok (.iaload, 1) := by decide +kernel
theorem dX8_tieAll_44 : decode cX8_tieAll 44 = .ok (.if_icmp .ge 57, 3) := by decide +kernel
theorem dX8_tieAll_47 : decode cX8_tieAll 47 = .ok (.aload_n 0, 1) := by decide +kernel
theorem dX8_tieAll_48 : decode cX8_tieAll 48 = .ok (.getfield 73, 3) := by decide +kernel
theorem dX8_tieAll_51 : decode cX8_tieAll 51 = .ok (.bipush 40, 2) := by decide +kernel
theorem dX8_tieAll_53 : decode cX8_tieAll 53 = .ok (.iload_n 1, 1) := by decide +kernel
theorem dX8_tieAll_54 : decode cX8_tieAll 54 = .ok (.imul, 1) := by decide +kernel
theorem dX8_tieAll_55 : decode cX8_tieAll 55 = .ok (.iload_n 3, 1) := by decide +kernel
theorem dX8_tieAll_56 : decode cX8_tieAll 56 = .ok (.iadd, 1) := by decide +kernel
theorem dX8_tieAll_57 : decode cX8_tieAll 57 = .ok (.laload, 1) := by decide +kernel
theorem dX8_tieAll_58 : decode cX8_tieAll 58 = .ok (.lstore 4, 2) := by decide +kernel
theorem dX8_tieAll_60 : decode cX8_tieAll 60 = .ok (.aload_n 0, 1) := by decide +kernel
theorem dX8_tieAll_61 : decode cX8_tieAll 61 = .ok (.lload 4, 2) := by decide +kernel
theorem dX8_tieAll_63 : decode cX8_tieAll 63 = .ok (.invokevirtual 231, 3) := by decide +kernel
theorem dX8_tieAll_66 : decode cX8_tieAll 66 = .ok (.ifCond .eq 6, 3) := by decide +kernel
theorem dX8_tieAll_69 : decode cX8_tieAll 69 = .ok (.goto 26, 3) := by decide +kernel
theorem dX8_tieAll_72 : decode cX8_tieAll 72 = .ok (.aload_n 0, 1) := by decide +kernel
theorem dX8_tieAll_73 : decode cX8_tieAll 73 = .ok (.getfield 13, 3) := by decide +kernel
theorem dX8_tieAll_76 : decode cX8_tieAll 76 = .ok (.lload 4, 2) := by decide +kernel
theorem dX8_tieAll_78 : decode cX8_tieAll 78 = .ok (.l2i, 1) := by decide +kernel
theorem dX8_tieAll_79 : decode cX8_tieAll 79 = .ok (.bipush 20, 2) := by decide +kernel
theorem dX8_tieAll_81 : decode cX8_tieAll 81 = .ok (.idiv, 1) := by decide +kernel
theorem dX8_tieAll_82 : decode cX8_tieAll 82 = .ok (.lload 4, 2) := by decide +kernel
theorem dX8_tieAll_84 : decode cX8_tieAll 84 = .ok (.l2i, 1) := by decide +kernel
theorem dX8_tieAll_85 : decode cX8_tieAll 85 = .ok (.bipush 20, 2) := by decide +kernel
theorem dX8_tieAll_87 : decode cX8_tieAll 87 = .ok (.irem, 1) := by decide +kernel
theorem dX8_tieAll_88 : decode cX8_tieAll 88 = .ok (.iconst 1, 1) := by decide +kernel
theorem dX8_tieAll_89 : decode cX8_tieAll 89 = .ok (.invokestatic 158, 3) := by decide +kernel
theorem dX8_tieAll_92 : decode cX8_tieAll 92 = .ok (.iinc 2 1, 3) := by decide +kernel
theorem dX8_tieAll_95 : decode cX8_tieAll 95 = .ok (.iinc 3 1, 3) := by decide +kernel
theorem dX8_tieAll_98 : decode cX8_tieAll 98 = .ok (.goto (-61), 3) := by decide +kernel
theorem dX8_tieAll_101 : decode cX8_tieAll 101 = .ok (.iload_n 2, 1) := by decide +kernel
theorem dX8_tieAll_102 : decode cX8_tieAll 102 = .ok (.ireturn, 1) := by decide +kernel
theorem dX8_pass_0 : decode cX8_pass 0 = .ok (.aload_n 0, 1) := by decide +kernel
theorem dX8_pass_1 : decode cX8_pass 1 = .ok (.iconst 0, 1) := by decide +kernel
theorem dX8_pass_2 : decode cX8_pass 2 = .ok (.putfield 1, 3) := by decide +kernel
theorem dX8_pass_5 : decode cX8_pass 5 = .ok (.iload_n 1, 1) := by decide +kernel
theorem dX8_pass_6 : decode cX8_pass 6 = .ok (.i2l, 1) := by decide +kernel
theorem dX8_pass_7 : decode cX8_pass 7 = .ok (.lconst 0, 1) := by decide +kernel
theorem dX8_pass_8 : decode cX8_pass 8 = .ok (.ldc2_w 240, 3) := by decide +kernel
theorem dX8_pass_11 : decode cX8_pass 11 = .ok (.invokestatic 137, 3) := by decide +kernel
theorem dX8_pass_14 : decode cX8_pass 14 = .ok (.ifCond .ne 6, 3) := by decide +kernel
theorem dX8_pass_17 : decode cX8_pass 17 = .ok (.bipush (-3), 2) := by decide +kernel
theorem dX8_pass_19 : decode cX8_pass 19 = .ok (.ireturn, 1) := by decide +kernel
theorem dX8_pass_20 : decode cX8_pass 20 = .ok (.aload_n 0, 1) := by decide +kernel
theorem dX8_pass_21 : decode cX8_pass 21 = .ok (.getfield 13, 3) := by decide +kernel
theorem dX8_pass_24 : decode cX8_pass 24 = .ok (.iconst 1, 1) := by decide +kernel
theorem dX8_pass_25 : decode cX8_pass 25 = .ok (.iaload, 1) := by decide +kernel
theorem dX8_pass_26 : decode cX8_pass 26 = .ok (.iload_n 1, 1) := by decide +kernel
theorem dX8_pass_27 : decode cX8_pass 27 = .ok (.iadd, 1) := by decide +kernel
theorem dX8_pass_28 : decode cX8_pass 28 = .ok (.sipush 9999, 3) := by decide +kernel
theorem dX8_pass_31 : decode cX8_pass 31 = .ok (.if_icmp .le 6, 3) := by decide +kernel
theorem dX8_pass_34 : decode cX8_pass 34 = .ok (.bipush (-5), 2) := by decide +kernel
theorem dX8_pass_36 : decode cX8_pass 36 = .ok (.ireturn, 1) := by decide +kernel
theorem dX8_pass_37 : decode cX8_pass 37 = .ok (.aload_n 0, 1) := by decide +kernel
theorem dX8_pass_38 : decode cX8_pass 38 = .ok (.getfield 13, 3) := by decide +kernel
theorem dX8_pass_41 : decode cX8_pass 41 = .ok (.iconst 1, 1) := by decide +kernel
theorem dX8_pass_42 : decode cX8_pass 42 = .ok (.dup2, 1) := by decide +kernel
theorem dX8_pass_43 : decode cX8_pass 43 = .ok (.iaload, 1) := by decide +kernel
theorem dX8_pass_44 : decode cX8_pass 44 = .ok (.iload_n 1, 1) := by decide +kernel
theorem dX8_pass_45 : decode cX8_pass 45 = .ok (.iadd, 1) := by decide +kernel
theorem dX8_pass_46 : decode cX8_pass 46 = .ok (.iastore, 1) := by decide +kernel
theorem dX8_pass_47 : decode cX8_pass 47 = .ok (.aload_n 0, 1) := by decide +kernel
theorem dX8_pass_48 : decode cX8_pass 48 = .ok (.getfield 13, 3) := by decide +kernel
theorem dX8_pass_51 : decode cX8_pass 51 = .ok (.iconst 1, 1) := by decide +kernel
theorem dX8_pass_52 : decode cX8_pass 52 = .ok (.iaload, 1) := by decide +kernel
theorem dX8_pass_53 : decode cX8_pass 53 = .ok (.ireturn, 1) := by decide +kernel
theorem dX8_damp_0 : decode cX8_damp 0 = .ok (.aload_n 0, 1) := by decide +kernel
theorem dX8_damp_1 : decode cX8_damp 1 = .ok (.iconst 0, 1) := by decide +kernel
theorem dX8_damp_2 : decode cX8_damp 2 = .ok (.putfield 1, 3) := by decide +kernel
theorem dX8_damp_5 : decode cX8_damp 5 = .ok (.iload_n 1, 1) := by decide +kernel
theorem dX8_damp_6 : decode cX8_damp 6 = .ok (.i2l, 1) := by decide +kernel
theorem dX8_damp_7 : decode cX8_damp 7 = .ok (.lconst 0, 1) := by decide +kernel
theorem dX8_damp_8 : decode cX8_damp 8 = .ok (.ldc2_w 180, 3) := by decide +kernel
theorem dX8_damp_11 : decode cX8_damp 11 = .ok (.invokestatic 137, 3) := by decide +kernel
theorem dX8_damp_14 : decode cX8_damp 14 = .ok (.ifCond .ne 6, 3) := by decide +kernel
theorem dX8_damp_17 : decode cX8_damp 17 = .ok (.bipush (-3), 2) := by decide +kernel
theorem dX8_damp_19 : decode cX8_damp 19 = .ok (.ireturn, 1) := by decide +kernel
theorem dX8_damp_20 : decode cX8_damp 20 = .ok (.aload_n 0, 1) := by decide +kernel
theorem dX8_damp_21 : decode cX8_damp 21 = .ok (.getfield 13, 3) := by decide +kernel
theorem dX8_damp_24 : decode cX8_damp 24 = .ok (.iconst 2, 1) := by decide +kernel
theorem dX8_damp_25 : decode cX8_damp 25 = .ok (.iaload, 1) := by decide +kernel
theorem dX8_damp_26 : decode cX8_damp 26 = .ok (.istore_n 2, 1) := by decide +kernel
theorem dX8_damp_27 : decode cX8_damp 27 = .ok (.aload_n 0, 1) := by decide +kernel
theorem dX8_damp_28 : decode cX8_damp 28 = .ok (.getfield 13, 3) := by decide +kernel
theorem dX8_damp_31 : decode cX8_damp 31 = .ok (.iconst 2, 1) := by decide +kernel
theorem dX8_damp_32 : decode cX8_damp 32 = .ok (.iload_n 1, 1) := by decide +kernel
theorem dX8_damp_33 : decode cX8_damp 33 = .ok (.iastore, 1) := by decide +kernel
theorem dX8_damp_34 : decode cX8_damp 34 = .ok (.iload_n 2, 1) := by decide +kernel
theorem dX8_damp_35 : decode cX8_damp 35 = .ok (.ireturn, 1) := by decide +kernel
theorem dX8_draw_0 : decode cX8_draw 0 = .ok (.aload_n 0, 1) := by decide +kernel
theorem dX8_draw_1 : decode cX8_draw 1 = .ok (.ldc 242, 2) := by decide +kernel
theorem dX8_draw_3 : decode cX8_draw 3 = .ok (.aload_n 0, 1) := by decide +kernel
theorem dX8_draw_4 : decode cX8_draw 4 = .ok (.getfield 243, 3) := by decide +kernel
theorem dX8_draw_7 : decode cX8_draw 7 = .ok (.imul, 1) := by decide +kernel
theorem dX8_draw_8 : decode cX8_draw 8 = .ok (.sipush 12345, 3) := by decide +kernel
theorem dX8_draw_11 : decode cX8_draw 11 = .ok (.iadd, 1) := by decide +kernel
theorem dX8_draw_12 : decode cX8_draw 12 = .ok (.putfield 243, 3) := by decide +kernel
theorem dX8_draw_15 : decode cX8_draw 15 = .ok (.aload_n 0, 1) := by decide +kernel
theorem dX8_draw_16 : decode cX8_draw 16 = .ok (.getfield 243, 3) := by decide +kernel
theorem dX8_draw_19 : decode cX8_draw 19 = .ok (.bipush 16, 2) := by decide +kernel
theorem dX8_draw_21 : decode cX8_draw 21 = .ok (.iushr, 1) := by decide +kernel
theorem dX8_draw_22 : decode cX8_draw 22 = .ok (.iload_n 1, 1) := by decide +kernel
theorem dX8_draw_23 : decode cX8_draw 23 = .ok (.irem, 1) := by decide +kernel
theorem dX8_draw_24 : decode cX8_draw 24 = .ok (.ireturn, 1) := by decide +kernel
theorem dX8_gust_0 : decode cX8_gust 0 = .ok (.aload_n 0, 1) := by decide +kernel
theorem dX8_gust_1 : decode cX8_gust 1 = .ok (.iconst 0, 1) := by decide +kernel
theorem dX8_gust_2 : decode cX8_gust 2 = .ok (.putfield 1, 3) := by decide +kernel
theorem dX8_gust_5 : decode cX8_gust 5 = .ok (.aload_n 0, 1) := by decide +kernel
theorem dX8_gust_6 : decode cX8_gust 6 = .ok (.getfield 13, 3) := by decide +kernel
theorem dX8_gust_9 : decode cX8_gust 9 = .ok (.iconst 0, 1) := by decide +kernel
theorem dX8_gust_10 : decode cX8_gust 10 = .ok (.iaload, 1) := by decide +kernel
theorem dX8_gust_11 : decode cX8_gust 11 = .ok (.ifCond .ne 6, 3) := by decide +kernel
theorem dX8_gust_14 : decode cX8_gust 14 = .ok (.bipush (-5), 2) := by decide +kernel
theorem dX8_gust_16 : decode cX8_gust 16 = .ok (.ireturn, 1) := by decide +kernel
theorem dX8_gust_17 : decode cX8_gust 17 = .ok (.iload_n 2, 1) := by decide +kernel
theorem dX8_gust_18 : decode cX8_gust 18 = .ok (.i2l, 1) := by decide +kernel
theorem dX8_gust_19 : decode cX8_gust 19 = .ok (.lconst 1, 1) := by decide +kernel
theorem dX8_gust_20 : decode cX8_gust 20 = .ok (.ldc2_w 246, 3) := by decide +kernel
theorem dX8_gust_23 : decode cX8_gust 23 = .ok (.invokestatic 137, 3) := by decide +kernel
theorem dX8_gust_26 : decode cX8_gust 26 = .ok (.ifCond .ne 6, 3) := by decide +kernel
theorem dX8_gust_29 : decode cX8_gust 29 = .ok (.bipush (-3), 2) := by decide +kernel
theorem dX8_gust_31 : decode cX8_gust 31 = .ok (.ireturn, 1) := by decide +kernel
theorem dX8_gust_32 : decode cX8_gust 32 = .ok (.aload_n 0, 1) := by decide +kernel
theorem dX8_gust_33 : decode cX8_gust 33 = .ok (.iload_n 1, 1) := by decide +kernel
theorem dX8_gust_34 : decode cX8_gust 34 = .ok (.putfield 243, 3) := by decide +kernel
theorem dX8_gust_37 : decode cX8_gust 37 = .ok (.iconst 0, 1) := by decide +kernel
theorem dX8_gust_38 : decode cX8_gust 38 = .ok (.istore_n 3, 1) := by decide +kernel
theorem dX8_gust_39 : decode cX8_gust 39 = .ok (.iload_n 3, 1) := by decide +kernel
theorem dX8_gust_40 : decode cX8_gust 40 = .ok (.iload_n 2, 1) := by decide +kernel
theorem dX8_gust_41 : decode cX8_gust 41 = .ok (.if_icmp .ge 101, 3) := by decide +kernel
theorem dX8_gust_44 : decode cX8_gust 44 = .ok (.aload_n 0, 1) := by decide +kernel
theorem dX8_gust_45 : decode cX8_gust 45 = .ok (.aload_n 0, 1) := by decide +kernel
theorem dX8_gust_46 : decode cX8_gust 46 = .ok (.getfield 13, 3) := by decide +kernel
theorem dX8_gust_49 : decode cX8_gust 49 = .ok (.iconst 0, 1) := by decide +kernel
theorem dX8_gust_50 : decode cX8_gust 50 = .ok (.iaload, 1) := by decide +kernel
theorem dX8_gust_51 : decode cX8_gust 51 = .ok (.invokevirtual 248, 3) := by decide +kernel
theorem dX8_gust_54 : decode cX8_gust 54 = .ok (.istore 4, 2) := by decide +kernel
theorem dX8_gust_56 : decode cX8_gust 56 = .ok (.aload_n 0, 1) := by decide +kernel
theorem dX8_gust_57 : decode cX8_gust 57 = .ok (.aload_n 0, 1) := by decide +kernel
theorem dX8_gust_58 : decode cX8_gust 58 = .ok (.getfield 13, 3) := by decide +kernel
theorem dX8_gust_61 : decode cX8_gust 61 = .ok (.iconst 0, 1) := by decide +kernel
theorem dX8_gust_62 : decode cX8_gust 62 = .ok (.iaload, 1) := by decide +kernel
theorem dX8_gust_63 : decode cX8_gust 63 = .ok (.invokevirtual 248, 3) := by decide +kernel
theorem dX8_gust_66 : decode cX8_gust 66 = .ok (.istore 5, 2) := by decide +kernel
theorem dX8_gust_68 : decode cX8_gust 68 = .ok (.iload 4, 2) := by decide +kernel
theorem dX8_gust_70 : decode cX8_gust 70 = .ok (.iload 5, 2) := by decide +kernel
theorem dX8_gust_72 : decode cX8_gust 72 = .ok (.if_icmp .ne 6, 3) := by decide +kernel
theorem dX8_gust_75 : decode cX8_gust 75 = .ok (.goto 61, 3) := by decide +kernel
theorem dX8_gust_78 : decode cX8_gust 78 = .ok (.aload_n 0, 1) := by decide +kernel
theorem dX8_gust_79 : decode cX8_gust 79 = .ok (.iload 4, 2) := by decide +kernel
theorem dX8_gust_81 : decode cX8_gust 81 = .ok (.iload 5, 2) := by decide +kernel
theorem dX8_gust_83 : decode cX8_gust 83 = .ok (.invokevirtual 201, 3) := by decide +kernel
theorem dX8_gust_86 : decode cX8_gust 86 = .ok (.ifCond .eq 18, 3) := by decide +kernel
theorem dX8_gust_89 : decode cX8_gust 89 = .ok (.aload_n 0, 1) := by decide +kernel
theorem dX8_gust_90 : decode cX8_gust 90 = .ok (.getfield 13, 3) := by decide +kernel
theorem dX8_gust_93 : decode cX8_gust 93 = .ok (.iload 4, 2) := by decide +kernel
theorem dX8_gust_95 : decode cX8_gust 95 = .ok (.iload 5, 2) := by decide +kernel
theorem dX8_gust_97 : decode cX8_gust 97 = .ok (.iconst 0, 1) := by decide +kernel
theorem dX8_gust_98 : decode cX8_gust 98 = .ok (.invokestatic 158, 3) := by decide +kernel
theorem dX8_gust_101 : decode cX8_gust 101 = .ok (.goto 35, 3) := by decide +kernel
theorem dX8_gust_104 : decode cX8_gust 104 = .ok (.aload_n 0, 1) := by decide +kernel
theorem dX8_gust_105 : decode cX8_gust 105 = .ok (.getfield 13, 3) := by decide +kernel
theorem dX8_gust_108 : decode cX8_gust 108 = .ok (.iload 4, 2) := by decide +kernel
theorem dX8_gust_110 : decode cX8_gust 110 = .ok (.iload 5, 2) := by decide +kernel
theorem dX8_gust_112 : decode cX8_gust 112 = .ok (.invokestatic 154, 3) := by decide +kernel
theorem dX8_gust_115 : decode cX8_gust 115 = .ok (.ifCond .ne 21, 3) := by decide +kernel
theorem dX8_gust_118 : decode cX8_gust 118 = .ok (.aload_n 0, 1) := by decide +kernel
theorem dX8_gust_119 : decode cX8_gust 119 = .ok (.getfield 13, 3) := by decide +kernel
theorem dX8_gust_122 : decode cX8_gust 122 = .ok (.iload 4, 2) := by decide +kernel
theorem dX8_gust_124 : decode cX8_gust 124 = .ok (.iload 5, 2) := by decide +kernel
theorem dX8_gust_126 : decode cX8_gust 126 = .ok (.iconst 1, 1) := by decide +kernel
theorem dX8_gust_127 : decode cX8_gust 127 = .ok (.aload_n 0, 1) := by decide +kernel
theorem dX8_gust_128 : decode cX8_gust 128 = .ok (.iconst 3, 1) := by decide +kernel
theorem dX8_gust_129 : decode cX8_gust 129 = .ok (.invokevirtual 248, 3) := by decide +kernel
theorem dX8_gust_132 : decode cX8_gust 132 = .ok (.iadd, 1) := by decide +kernel
theorem dX8_gust_133 : decode cX8_gust 133 = .ok (.invokestatic 158, 3) := by decide +kernel
theorem dX8_gust_136 : decode cX8_gust 136 = .ok (.iinc 3 1, 3) := by decide +kernel
theorem dX8_gust_139 : decode cX8_gust 139 = .ok (.goto (-100), 3) := by decide +kernel
theorem dX8_gust_142 : decode cX8_gust 142 = .ok (.aload_n 0, 1) := by decide +kernel
theorem dX8_gust_143 : decode cX8_gust 143 = .ok (.invokevirtual 237, 3) := by decide +kernel
theorem dX8_gust_146 : decode cX8_gust 146 = .ok (.ireturn, 1) := by decide +kernel
theorem dX8_laysLoss_0 : decode cX8_laysLoss 0 = .ok (.iconst 0, 1) := by decide +kernel
theorem dX8_laysLoss_1 : decode cX8_laysLoss 1 = .ok (.istore 4, 2) := by decide +kernel
theorem dX8_laysLoss_3 : decode cX8_laysLoss 3 = .ok (.iload 4, 2) := by decide +kernel
theorem dX8_laysLoss_5 : decode cX8_laysLoss 5 = .ok (.bipush 12, 2) := by decide +kernel
theorem dX8_laysLoss_7 : decode cX8_laysLoss 7 = .ok (.if_icmp .ge 28, 3) := by decide +kernel
theorem dX8_laysLoss_10 : decode cX8_laysLoss 10 = .ok (.aload_n 0, 1) := by decide +kernel
theorem dX8_laysLoss_11 : decode cX8_laysLoss 11 = .ok (.getfield 30, 3) := by decide +kernel
theorem dX8_laysLoss_14 : decode cX8_laysLoss 14 = .ok (.iload 4, 2) := by decide +kernel
theorem dX8_laysLoss_16 : decode cX8_laysLoss 16 = .ok (.iload 4, 2) := by decide +kernel
theorem dX8_laysLoss_18 : decode cX8_laysLoss 18 = .ok (.iload_n 1, 1) := by decide +kernel
theorem dX8_laysLoss_19 : decode cX8_laysLoss 19 = .ok (.if_icmp .ne 7, 3) := by decide +kernel
theorem dX8_laysLoss_22 : decode cX8_laysLoss 22 = .ok (.iconst 0, 1) := by decide +kernel
theorem dX8_laysLoss_23 : decode cX8_laysLoss 23 = .ok (.goto 5, 3) := by decide +kernel
theorem dX8_laysLoss_26 : decode cX8_laysLoss 26 = .ok (.ldc 251, 2) := by decide +kernel
theorem dX8_laysLoss_28 : decode cX8_laysLoss 28 = .ok (.iastore, 1) := by decide +kernel
theorem dX8_laysLoss_29 : decode cX8_laysLoss 29 = .ok (.iinc 4 1, 3) := by decide +kernel
theorem dX8_laysLoss_32 : decode cX8_laysLoss 32 = .ok (.goto (-29), 3) := by decide +kernel
theorem dX8_laysLoss_35 : decode cX8_laysLoss 35 = .ok (.aload_n 0, 1) := by decide +kernel
theorem dX8_laysLoss_36 : decode cX8_laysLoss 36 = .ok (.getfield 33, 3) := by decide +kernel
theorem dX8_laysLoss_39 : decode cX8_laysLoss 39 = .ok (.iload_n 1, 1) := by decide +kernel
theorem dX8_laysLoss_40 : decode cX8_laysLoss 40 = .ok (.iconst 0, 1) := by decide +kernel
theorem dX8_laysLoss_41 : decode cX8_laysLoss 41 = .ok (.iastore, 1) := by decide +kernel
theorem dX8_laysLoss_42 : decode cX8_laysLoss 42 = .ok (.iconst 1, 1) := by decide +kernel
theorem dX8_laysLoss_43 : decode cX8_laysLoss 43 = .ok (.istore 4, 2) := by decide +kernel
theorem dX8_laysLoss_45 : decode cX8_laysLoss 45 = .ok (.iload 4, 2) := by decide +kernel
theorem dX8_laysLoss_47 : decode cX8_laysLoss 47 = .ok (.ifCond .eq 185, 3) := by decide +kernel
theorem dX8_laysLoss_50 : decode cX8_laysLoss 50 = .ok (.iconst 0, 1) := by decide +kernel
theorem dX8_laysLoss_51 : decode cX8_laysLoss 51 = .ok (.istore 4, 2) := by decide +kernel
theorem dX8_laysLoss_53 : decode cX8_laysLoss 53 = .ok (.iconst 0, 1) := by decide +kernel
theorem dX8_laysLoss_54 : decode cX8_laysLoss 54 = .ok (.istore 5, 2) := by decide +kernel
theorem dX8_laysLoss_56 : decode cX8_laysLoss 56 = .ok (.iload 5, 2) := by decide +kernel
theorem dX8_laysLoss_58 : decode cX8_laysLoss 58 = .ok (.aload_n 0, 1) := by decide +kernel
theorem dX8_laysLoss_59 : decode cX8_laysLoss 59 = .ok (.getfield 13, 3) := by decide +kernel
theorem dX8_laysLoss_62 : decode cX8_laysLoss 62 = .ok (.iconst 0, 1) := by decide +kernel
theorem dX8_laysLoss_63 : decode cX8_laysLoss 63 = .ok (.iaload, 1) := by decide +kernel
theorem dX8_laysLoss_64 : decode cX8_laysLoss 64 = .ok (.if_icmp .ge 165, 3) := by decide +kernel
theorem dX8_laysLoss_67 : decode cX8_laysLoss 67 = .ok (.iconst 0, 1) := by decide +kernel
theorem dX8_laysLoss_68 : decode cX8_laysLoss 68 = .ok (.istore 6, 2) := by decide +kernel
theorem dX8_laysLoss_70 : decode cX8_laysLoss 70 = .ok (.iload 6, 2) := by decide +kernel
theorem dX8_laysLoss_72 : decode cX8_laysLoss 72 = .ok (.aload_n 0, 1) := by decide +kernel
theorem dX8_laysLoss_73 : decode cX8_laysLoss 73 = .ok (.getfield 13, 3) := by decide +kernel
theorem dX8_laysLoss_76 : decode cX8_laysLoss 76 = .ok (.iconst 0, 1) := by decide +kernel
theorem dX8_laysLoss_77 : decode cX8_laysLoss 77 = .ok (.iaload, 1) := by decide +kernel
theorem dX8_laysLoss_78 : decode cX8_laysLoss 78 = .ok (.if_icmp .ge 145, 3) := by decide +kernel
theorem dX8_laysLoss_81 : decode cX8_laysLoss 81 = .ok (.iload 5, 2) := by decide +kernel
theorem dX8_laysLoss_83 : decode cX8_laysLoss 83 = .ok (.iload 6, 2) := by decide +kernel
theorem dX8_laysLoss_85 : decode cX8_laysLoss 85 = .ok (.if_icmp .eq 132, 3) := by decide +kernel
theorem dX8_laysLoss_88 : decode cX8_laysLoss 88 = .ok (.iload_n 2, 1) := by decide +kernel
theorem dX8_laysLoss_89 : decode cX8_laysLoss 89 = .ok (.iload 5, 2) := by decide +kernel
theorem dX8_laysLoss_91 : decode cX8_laysLoss 91 = .ok (.ishr, 1) := by decide +kernel
theorem dX8_laysLoss_92 : decode cX8_laysLoss 92 = .ok (.iconst 1, 1) := by decide +kernel
theorem dX8_laysLoss_93 : decode cX8_laysLoss 93 = .ok (.iand, 1) := by decide +kernel
theorem dX8_laysLoss_94 : decode cX8_laysLoss 94 = .ok (.iconst 1, 1) := by decide +kernel
theorem dX8_laysLoss_95 : decode cX8_laysLoss 95 = .ok (.if_icmp .eq 122, 3) := by decide +kernel
theorem dX8_laysLoss_98 : decode cX8_laysLoss 98 = .ok (.aload_n 0, 1) := by decide +kernel
theorem dX8_laysLoss_99 : decode cX8_laysLoss 99 = .ok (.getfield 30, 3) := by decide +kernel
theorem dX8_laysLoss_102 : decode cX8_laysLoss 102 = .ok (.iload 6, 2) := by decide +kernel
theorem dX8_laysLoss_104 : decode cX8_laysLoss 104 = .ok (.iaload, 1) := by decide +kernel
theorem dX8_laysLoss_105 : decode cX8_laysLoss 105 = .ok (.ldc 251, 2) := by decide +kernel
theorem dX8_laysLoss_107 : decode cX8_laysLoss 107 = .ok (.if_icmp .eq 110, 3) := by decide +kernel
theorem dX8_laysLoss_110 : decode cX8_laysLoss 110 = .ok (.aload_n 0, 1) := by decide +kernel
theorem dX8_laysLoss_111 : decode cX8_laysLoss 111 = .ok (.iload 5, 2) := by decide +kernel
theorem dX8_laysLoss_113 : decode cX8_laysLoss 113 = .ok (.iload 6, 2) := by decide +kernel
theorem dX8_laysLoss_115 : decode cX8_laysLoss 115 = .ok (.iload_n 3, 1) := by decide +kernel
theorem dX8_laysLoss_116 : decode cX8_laysLoss 116 = .ok (.invokevirtual 211, 3) := by decide +kernel
theorem dX8_laysLoss_119 : decode cX8_laysLoss 119 = .ok (.ifCond .ne 6, 3) := by decide +kernel
theorem dX8_laysLoss_122 : decode cX8_laysLoss 122 = .ok (.goto 95, 3) := by decide +kernel
theorem dX8_laysLoss_125 : decode cX8_laysLoss 125 = .ok (.aload_n 0, 1) := by decide +kernel
theorem dX8_laysLoss_126 : decode cX8_laysLoss 126 = .ok (.getfield 30, 3) := by decide +kernel
theorem dX8_laysLoss_129 : decode cX8_laysLoss 129 = .ok (.iload 6, 2) := by decide +kernel
theorem dX8_laysLoss_131 : decode cX8_laysLoss 131 = .ok (.iaload, 1) := by decide +kernel
theorem dX8_laysLoss_132 : decode cX8_laysLoss 132 = .ok (.aload_n 0, 1) := by decide +kernel
theorem dX8_laysLoss_133 : decode cX8_laysLoss 133 = .ok (.iload 5, 2) := by decide +kernel
theorem dX8_laysLoss_135 : decode cX8_laysLoss 135 = .ok (.iload 6, 2) := by decide +kernel
theorem dX8_laysLoss_137 : decode cX8_laysLoss 137 = .ok (.invokevirtual 225, 3) := by decide +kernel
theorem dX8_laysLoss_140 : decode cX8_laysLoss 140 = .ok (.iadd, 1) := by decide +kernel
theorem dX8_laysLoss_141 : decode cX8_laysLoss 141 = .ok (.istore 7, 2) := by decide +kernel
theorem dX8_laysLoss_143 : decode cX8_laysLoss 143 = .ok (.iload 7, 2) := by decide +kernel
theorem dX8_laysLoss_145 : decode cX8_laysLoss 145 = .ok (.aload_n 0, 1) := by decide +kernel
theorem dX8_laysLoss_146 : decode cX8_laysLoss 146 = .ok (.getfield 30, 3) := by decide +kernel
theorem dX8_laysLoss_149 : decode cX8_laysLoss 149 = .ok (.iload 5, 2) := by decide +kernel
theorem dX8_laysLoss_151 : decode cX8_laysLoss 151 = .ok (.iaload, 1) := by decide +kernel
theorem dX8_laysLoss_152 : decode cX8_laysLoss 152 = .ok (.if_icmp .gt 65, 3) := by decide +kernel
theorem dX8_laysLoss_155 : decode cX8_laysLoss 155 = .ok (.iload 7, 2) := by decide +kernel
theorem dX8_laysLoss_157 : decode cX8_laysLoss 157 = .ok (.aload_n 0, 1) := by decide +kernel
theorem dX8_laysLoss_158 : decode cX8_laysLoss 158 = .ok (.getfield 30, 3) := by decide +kernel
theorem dX8_laysLoss_161 : decode cX8_laysLoss 161 = .ok (.iload 5, 2) := by decide +kernel
theorem dX8_laysLoss_163 : decode cX8_laysLoss 163 = .ok (.iaload, 1) := by decide +kernel
theorem dX8_laysLoss_164 : decode cX8_laysLoss 164 = .ok (.if_icmp .ne 25, 3) := by decide +kernel
theorem dX8_laysLoss_167 : decode cX8_laysLoss 167 = .ok (.aload_n 0, 1) := by decide +kernel
theorem dX8_laysLoss_168 : decode cX8_laysLoss 168 = .ok (.getfield 33, 3) := by decide +kernel
theorem dX8_laysLoss_171 : decode cX8_laysLoss 171 = .ok (.iload 6, 2) := by decide +kernel
theorem dX8_laysLoss_173 : decode cX8_laysLoss 173 = .ok (.iaload, 1) := by decide +kernel
theorem dX8_laysLoss_174 : decode cX8_laysLoss 174 = .ok (.iconst 1, 1) := by decide +kernel
theorem dX8_laysLoss_175 : decode cX8_laysLoss 175 = .ok (.iadd, 1) := by decide +kernel
theorem dX8_laysLoss_176 : decode cX8_laysLoss 176 = .ok (.aload_n 0, 1) := by decide +kernel
theorem dX8_laysLoss_177 : decode cX8_laysLoss 177 = .ok (.getfield 33, 3) := by decide +kernel
theorem dX8_laysLoss_180 : decode cX8_laysLoss 180 = .ok (.iload 5, 2) := by decide +kernel
theorem dX8_laysLoss_182 : decode cX8_laysLoss 182 = .ok (.iaload, 1) := by decide +kernel
theorem dX8_laysLoss_183 : decode cX8_laysLoss 183 = .ok (.if_icmp .lt 6, 3) := by decide +kernel
theorem dX8_laysLoss_186 : decode cX8_laysLoss 186 = .ok (.goto 31, 3) := by decide +kernel
theorem dX8_laysLoss_189 : decode cX8_laysLoss 189 = .ok (.aload_n 0, 1) := by decide +kernel
theorem dX8_laysLoss_190 : decode cX8_laysLoss 190 = .ok (.getfield 30, 3) := by decide +kernel
theorem dX8_laysLoss_193 : decode cX8_laysLoss 193 = .ok (.iload 5, 2) := by decide +kernel
theorem dX8_laysLoss_195 : decode cX8_laysLoss 195 = .ok (.iload 7, 2) := by decide +kernel
theorem dX8_laysLoss_197 : decode cX8_laysLoss 197 = .ok (.iastore, 1) := by decide +kernel
theorem dX8_laysLoss_198 : decode cX8_laysLoss 198 = .ok (.aload_n 0, 1) := by decide +kernel
theorem dX8_laysLoss_199 : decode cX8_laysLoss 199 = .ok (.getfield 33, 3) := by decide +kernel
theorem dX8_laysLoss_202 : decode cX8_laysLoss 202 = .ok (.iload 5, 2) := by decide +kernel
theorem dX8_laysLoss_204 : decode cX8_laysLoss 204 = .ok (.aload_n 0, 1) := by decide +kernel
theorem dX8_laysLoss_205 : decode cX8_laysLoss 205 = .ok (.getfield 33, 3) := by decide +kernel
theorem dX8_laysLoss_208 : decode cX8_laysLoss 208 = .ok (.iload 6, 2) := by decide +kernel
theorem dX8_laysLoss_210 : decode cX8_laysLoss 210 = .ok (.iaload, 1) := by decide +kernel
theorem dX8_laysLoss_211 : decode cX8_laysLoss 211 = .ok (.iconst 1, 1) := by decide +kernel
theorem dX8_laysLoss_212 : decode cX8_laysLoss 212 = .ok (.iadd, 1) := by decide +kernel
theorem dX8_laysLoss_213 : decode cX8_laysLoss 213 = .ok (.iastore, 1) := by decide +kernel
theorem dX8_laysLoss_214 : decode cX8_laysLoss 214 = .ok (.iconst 1, 1) := by decide +kernel
theorem dX8_laysLoss_215 : decode cX8_laysLoss 215 = .ok (.istore 4, 2) := by decide +kernel
theorem dX8_laysLoss_217 : decode cX8_laysLoss 217 = .ok (.iinc 6 1, 3) := by decide +kernel
theorem dX8_laysLoss_220 : decode cX8_laysLoss 220 = .ok (.goto (-150), 3) := by decide +kernel
theorem dX8_laysLoss_223 : decode cX8_laysLoss 223 = .ok (.iinc 5 1, 3) := by decide +kernel
theorem dX8_laysLoss_226 : decode cX8_laysLoss 226 = .ok (.goto (-170), 3) := by decide +kernel
theorem dX8_laysLoss_229 : decode cX8_laysLoss 229 = .ok (.goto (-184), 3) := by decide +kernel
theorem dX8_laysLoss_232 : decode cX8_laysLoss 232 = .ok (.return_, 1) := by decide +kernel
theorem dX8_walks_0 : decode cX8_walks 0 = .ok (.aload_n 0, 1) := by decide +kernel
theorem dX8_walks_1 : decode cX8_walks 1 = .ok (.aload_n 0, 1) := by decide +kernel
theorem dX8_walks_2 : decode cX8_walks 2 = .ok (.getfield 33, 3) := by decide +kernel
theorem dX8_walks_5 : decode cX8_walks 5 = .ok (.iload_n 1, 1) := by decide +kernel
theorem dX8_walks_6 : decode cX8_walks 6 = .ok (.iaload, 1) := by decide +kernel
theorem dX8_walks_7 : decode cX8_walks 7 = .ok (.putfield 252, 3) := by decide +kernel
theorem dX8_walks_10 : decode cX8_walks 10 = .ok (.aload_n 0, 1) := by decide +kernel
theorem dX8_walks_11 : decode cX8_walks 11 = .ok (.getfield 36, 3) := by decide +kernel
theorem dX8_walks_14 : decode cX8_walks 14 = .ok (.iconst 0, 1) := by decide +kernel
theorem dX8_walks_15 : decode cX8_walks 15 = .ok (.iload_n 1, 1) := by decide +kernel
theorem dX8_walks_16 : decode cX8_walks 16 = .ok (.iastore, 1) := by decide +kernel
theorem dX8_walks_17 : decode cX8_walks 17 = .ok (.iconst 1, 1) := by decide +kernel
theorem dX8_walks_18 : decode cX8_walks 18 = .ok (.istore_n 3, 1) := by decide +kernel
theorem dX8_walks_19 : decode cX8_walks 19 = .ok (.iload_n 3, 1) := by decide +kernel
theorem dX8_walks_20 : decode cX8_walks 20 = .ok (.aload_n 0, 1) := by decide +kernel
theorem dX8_walks_21 : decode cX8_walks 21 = .ok (.getfield 252, 3) := by decide +kernel
theorem dX8_walks_24 : decode cX8_walks 24 = .ok (.if_icmp .gt 127, 3) := by decide +kernel
theorem dX8_walks_27 : decode cX8_walks 27 = .ok (.aload_n 0, 1) := by decide +kernel
theorem dX8_walks_28 : decode cX8_walks 28 = .ok (.getfield 36, 3) := by decide +kernel
theorem dX8_walks_31 : decode cX8_walks 31 = .ok (.iload_n 3, 1) := by decide +kernel
theorem dX8_walks_32 : decode cX8_walks 32 = .ok (.iconst 1, 1) := by decide +kernel
theorem dX8_walks_33 : decode cX8_walks 33 = .ok (.isub, 1) := by decide +kernel
theorem dX8_walks_34 : decode cX8_walks 34 = .ok (.iaload, 1) := by decide +kernel
theorem dX8_walks_35 : decode cX8_walks 35 = .ok (.istore 4, 2) := by decide +kernel
theorem dX8_walks_37 : decode cX8_walks 37 = .ok (.iconst 0, 1) := by decide +kernel
theorem dX8_walks_38 : decode cX8_walks 38 = .ok (.istore 5, 2) := by decide +kernel
theorem dX8_walks_40 : decode cX8_walks 40 = .ok (.iload 5, 2) := by decide +kernel
theorem dX8_walks_42 : decode cX8_walks 42 = .ok (.iload 4, 2) := by decide +kernel
theorem dX8_walks_44 : decode cX8_walks 44 = .ok (.if_icmp .eq 87, 3) := by decide +kernel
theorem dX8_walks_47 : decode cX8_walks 47 = .ok (.iload_n 2, 1) := by decide +kernel
theorem dX8_walks_48 : decode cX8_walks 48 = .ok (.iload 5, 2) := by decide +kernel
theorem dX8_walks_50 : decode cX8_walks 50 = .ok (.ishr, 1) := by decide +kernel
theorem dX8_walks_51 : decode cX8_walks 51 = .ok (.iconst 1, 1) := by decide +kernel
theorem dX8_walks_52 : decode cX8_walks 52 = .ok (.iand, 1) := by decide +kernel
theorem dX8_walks_53 : decode cX8_walks 53 = .ok (.iconst 1, 1) := by decide +kernel
theorem dX8_walks_54 : decode cX8_walks 54 = .ok (.if_icmp .eq 77, 3) := by decide +kernel
theorem dX8_walks_57 : decode cX8_walks 57 = .ok (.aload_n 0, 1) := by decide +kernel
theorem dX8_walks_58 : decode cX8_walks 58 = .ok (.getfield 30, 3) := by decide +kernel
theorem dX8_walks_61 : decode cX8_walks 61 = .ok (.iload 5, 2) := by decide +kernel
theorem dX8_walks_63 : decode cX8_walks 63 = .ok (.iaload, 1) := by decide +kernel
theorem dX8_walks_64 : decode cX8_walks 64 = .ok (.ldc 251, 2) := by decide +kernel
theorem dX8_walks_66 : decode cX8_walks 66 = .ok (.if_icmp .eq 65, 3) := by decide +kernel
theorem dX8_walks_69 : decode cX8_walks 69 = .ok (.aload_n 0, 1) := by decide +kernel
theorem dX8_walks_70 : decode cX8_walks 70 = .ok (.iload 4, 2) := by decide +kernel
theorem dX8_walks_72 : decode cX8_walks 72 = .ok (.iload 5, 2) := by decide +kernel
theorem dX8_walks_74 : decode cX8_walks 74 = .ok (.aload_n 0, 1) := by decide +kernel
theorem dX8_walks_75 : decode cX8_walks 75 = .ok (.getfield 13, 3) := by decide +kernel
theorem dX8_walks_78 : decode cX8_walks 78 = .ok (.iconst 1, 1) := by decide +kernel
theorem dX8_walks_79 : decode cX8_walks 79 = .ok (.iaload, 1) := by decide +kernel
theorem dX8_walks_80 : decode cX8_walks 80 = .ok (.invokevirtual 211, 3) := by decide +kernel
theorem dX8_walks_83 : decode cX8_walks 83 = .ok (.ifCond .eq 48, 3) := by decide +kernel
theorem dX8_walks_86 : decode cX8_walks 86 = .ok (.aload_n 0, 1) := by decide +kernel
theorem dX8_walks_87 : decode cX8_walks 87 = .ok (.getfield 30, 3) := by decide +kernel
theorem dX8_walks_90 : decode cX8_walks 90 = .ok (.iload 5, 2) := by decide +kernel
theorem dX8_walks_92 : decode cX8_walks 92 = .ok (.iaload, 1) := by decide +kernel
theorem dX8_walks_93 : decode cX8_walks 93 = .ok (.aload_n 0, 1) := by decide +kernel
theorem dX8_walks_94 : decode cX8_walks 94 = .ok (.iload 4, 2) := by decide +kernel
theorem dX8_walks_96 : decode cX8_walks 96 = .ok (.iload 5, 2) := by decide +kernel
theorem dX8_walks_98 : decode cX8_walks 98 = .ok (.invokevirtual 225, 3) := by decide +kernel
theorem dX8_walks_101 : decode cX8_walks 101 = .ok (.iadd, 1) := by decide +kernel
theorem dX8_walks_102 : decode cX8_walks 102 = .ok (.aload_n 0, 1) := by decide +kernel
theorem dX8_walks_103 : decode cX8_walks 103 = .ok (.getfield 30, 3) := by decide +kernel
theorem dX8_walks_106 : decode cX8_walks 106 = .ok (.iload 4, 2) := by decide +kernel
theorem dX8_walks_108 : decode cX8_walks 108 = .ok (.iaload, 1) := by decide +kernel
theorem dX8_walks_109 : decode cX8_walks 109 = .ok (.if_icmp .ne 22, 3) := by decide +kernel
theorem dX8_walks_112 : decode cX8_walks 112 = .ok (.aload_n 0, 1) := by decide +kernel
theorem dX8_walks_113 : decode cX8_walks 113 = .ok (.getfield 33, 3) := by decide +kernel
theorem dX8_walks_116 : decode cX8_walks 116 = .ok (.iload 5, 2) := by decide +kernel
theorem dX8_walks_118 : decode cX8_walks 118 = .ok (.iaload, 1) := by decide +kernel
theorem dX8_walks_119 : decode cX8_walks 119 = .ok (.iconst 1, 1) := by decide +kernel
theorem dX8_walks_120 : decode cX8_walks 120 = .ok (.iadd, 1) := by decide +kernel
theorem dX8_walks_121 : decode cX8_walks 121 = .ok (.aload_n 0, 1) := by decide +kernel
theorem dX8_walks_122 : decode cX8_walks 122 = .ok (.getfield 33, 3) := by decide +kernel
theorem dX8_walks_125 : decode cX8_walks 125 = .ok (.iload 4, 2) := by decide +kernel
theorem dX8_walks_127 : decode cX8_walks 127 = .ok (.iaload, 1) := by decide +kernel
theorem dX8_walks_128 : decode cX8_walks 128 = .ok (.if_icmp .eq 9, 3) := by decide +kernel
theorem dX8_walks_131 : decode cX8_walks 131 = .ok (.iinc 5 1, 3) := by decide +kernel
theorem dX8_walks_134 : decode cX8_walks 134 = .ok (.goto (-94), 3) := by decide +kernel
theorem dX8_walks_137 : decode cX8_walks 137 = .ok (.aload_n 0, 1) := by decide +kernel
theorem dX8_walks_138 : decode cX8_walks 138 = .ok (.getfield 36, 3) := by decide +kernel
theorem dX8_walks_141 : decode cX8_walks 141 = .ok (.iload_n 3, 1) := by decide +kernel
theorem dX8_walks_142 : decode cX8_walks 142 = .ok (.iload 5, 2) := by decide +kernel
theorem dX8_walks_144 : decode cX8_walks 144 = .ok (.iastore, 1) := by decide +kernel
theorem dX8_walks_145 : decode cX8_walks 145 = .ok (.iinc 3 1, 3) := by decide +kernel
theorem dX8_walks_148 : decode cX8_walks 148 = .ok (.goto (-129), 3) := by decide +kernel
theorem dX8_walks_151 : decode cX8_walks 151 = .ok (.return_, 1) := by decide +kernel
theorem dX8_areTwo_0 : decode cX8_areTwo 0 = .ok (.aload_n 0, 1) := by decide +kernel
theorem dX8_areTwo_1 : decode cX8_areTwo 1 = .ok (.iload_n 1, 1) := by decide +kernel
theorem dX8_areTwo_2 : decode cX8_areTwo 2 = .ok (.i2l, 1) := by decide +kernel
theorem dX8_areTwo_3 : decode cX8_areTwo 3 = .ok (.invokevirtual 182, 3) := by decide +kernel
theorem dX8_areTwo_6 : decode cX8_areTwo 6 = .ok (.ifCond .eq 21, 3) := by decide +kernel
theorem dX8_areTwo_9 : decode cX8_areTwo 9 = .ok (.aload_n 0, 1) := by decide +kernel
theorem dX8_areTwo_10 : decode cX8_areTwo 10 = .ok (.iload_n 2, 1) := by decide +kernel
theorem dX8_areTwo_11 : decode cX8_areTwo 11 = .ok (.i2l, 1) := by decide +kernel
theorem dX8_areTwo_12 : decode cX8_areTwo 12 = .ok (.invokevirtual 182, 3) := by decide +kernel
theorem dX8_areTwo_15 : decode cX8_areTwo 15 = .ok (.ifCond .eq 12, 3) := by decide +kernel
theorem dX8_areTwo_18 : decode cX8_areTwo 18 = .ok (.iload_n 1, 1) := by decide +kernel
theorem dX8_areTwo_19 : decode cX8_areTwo 19 = .ok (.iload_n 2, 1) := by decide +kernel
theorem dX8_areTwo_20 : decode cX8_areTwo 20 = .ok (.if_icmp .eq 7, 3) := by decide +kernel
theorem dX8_areTwo_23 : decode cX8_areTwo 23 = .ok (.iconst 1, 1) := by decide +kernel
theorem dX8_areTwo_24 : decode cX8_areTwo 24 = .ok (.goto 4, 3) := by decide +kernel
theorem dX8_areTwo_27 : decode cX8_areTwo 27 = .ok (.iconst 0, 1) := by decide +kernel
theorem dX8_areTwo_28 : decode cX8_areTwo 28 = .ok (.ireturn, 1) := by decide +kernel
theorem dX8_best_0 : decode cX8_best 0 = .ok (.aload_n 0, 1) := by decide +kernel
theorem dX8_best_1 : decode cX8_best 1 = .ok (.iconst 0, 1) := by decide +kernel
theorem dX8_best_2 : decode cX8_best 2 = .ok (.putfield 1, 3) := by decide +kernel
theorem dX8_best_5 : decode cX8_best 5 = .ok (.aload_n 0, 1) := by decide +kernel
theorem dX8_best_6 : decode cX8_best 6 = .ok (.iload_n 1, 1) := by decide +kernel
theorem dX8_best_7 : decode cX8_best 7 = .ok (.iload_n 2, 1) := by decide +kernel
theorem dX8_best_8 : decode cX8_best 8 = .ok (.invokevirtual 255, 3) := by decide +kernel
theorem dX8_best_11 : decode cX8_best 11 = .ok (.ifCond .eq 29, 3) := by decide +kernel
theorem dX8_best_14 : decode cX8_best 14 = .ok (.iload 4, 2) := by decide +kernel
theorem dX8_best_16 : decode cX8_best 16 = .ok (.i2l, 1) := by decide +kernel
theorem dX8_best_17 : decode cX8_best 17 = .ok (.lconst 0, 1) := by decide +kernel
theorem dX8_best_18 : decode cX8_best 18 = .ok (.lconst 1, 1) := by decide +kernel
theorem dX8_best_19 : decode cX8_best 19 = .ok (.invokestatic 137, 3) := by decide +kernel
theorem dX8_best_22 : decode cX8_best 22 = .ok (.ifCond .ne 21, 3) := by decide +kernel
theorem dX8_best_25 : decode cX8_best 25 = .ok (.iload 4, 2) := by decide +kernel
theorem dX8_best_27 : decode cX8_best 27 = .ok (.i2l, 1) := by decide +kernel
theorem dX8_best_28 : decode cX8_best 28 = .ok (.ldc2_w 258, 3) := by decide +kernel
theorem dX8_best_31 : decode cX8_best 31 = .ok (.ldc2_w 260, 3) := by decide +kernel
theorem dX8_best_34 : decode cX8_best 34 = .ok (.invokestatic 137, 3) := by decide +kernel
theorem dX8_best_37 : decode cX8_best 37 = .ok (.ifCond .ne 6, 3) := by decide +kernel
theorem dX8_best_40 : decode cX8_best 40 = .ok (.bipush (-2), 2) := by decide +kernel
theorem dX8_best_42 : decode cX8_best 42 = .ok (.ireturn, 1) := by decide +kernel
theorem dX8_best_43 : decode cX8_best 43 = .ok (.iload_n 3, 1) := by decide +kernel
theorem dX8_best_44 : decode cX8_best 44 = .ok (.i2l, 1) := by decide +kernel
theorem dX8_best_45 : decode cX8_best 45 = .ok (.lconst 0, 1) := by decide +kernel
theorem dX8_best_46 : decode cX8_best 46 = .ok (.iconst 1, 1) := by decide +kernel
theorem dX8_best_47 : decode cX8_best 47 = .ok (.aload_n 0, 1) := by decide +kernel
theorem dX8_best_48 : decode cX8_best 48 = .ok (.getfield 13, 3) := by decide +kernel
theorem dX8_best_51 : decode cX8_best 51 = .ok (.iconst 0, 1) := by decide +kernel
theorem dX8_best_52 : decode cX8_best 52 = .ok (.iaload, 1) := by decide +kernel
theorem dX8_best_53 : decode cX8_best 53 = .ok (.ishl, 1) := by decide +kernel
theorem dX8_best_54 : decode cX8_best 54 = .ok (.iconst 1, 1) := by decide +kernel
theorem dX8_best_55 : decode cX8_best 55 = .ok (.isub, 1) := by decide +kernel
theorem dX8_best_56 : decode cX8_best 56 = .ok (.i2l, 1) := by decide +kernel
theorem dX8_best_57 : decode cX8_best 57 = .ok (.invokestatic 137, 3) := by decide +kernel
theorem dX8_best_60 : decode cX8_best 60 = .ok (.ifCond .eq 21, 3) := by decide +kernel
theorem dX8_best_63 : decode cX8_best 63 = .ok (.iload_n 3, 1) := by decide +kernel
theorem dX8_best_64 : decode cX8_best 64 = .ok (.iload_n 1, 1) := by decide +kernel
theorem dX8_best_65 : decode cX8_best 65 = .ok (.ishr, 1) := by decide +kernel
theorem dX8_best_66 : decode cX8_best 66 = .ok (.iconst 1, 1) := by decide +kernel
theorem dX8_best_67 : decode cX8_best 67 = .ok (.iand, 1) := by decide +kernel
theorem dX8_best_68 : decode cX8_best 68 = .ok (.iconst 1, 1) := by decide +kernel
theorem dX8_best_69 : decode cX8_best 69 = .ok (.if_icmp .eq 12, 3) := by decide +kernel
theorem dX8_best_72 : decode cX8_best 72 = .ok (.iload_n 3, 1) := by decide +kernel
theorem dX8_best_73 : decode cX8_best 73 = .ok (.iload_n 2, 1) := by decide +kernel
theorem dX8_best_74 : decode cX8_best 74 = .ok (.ishr, 1) := by decide +kernel
theorem dX8_best_75 : decode cX8_best 75 = .ok (.iconst 1, 1) := by decide +kernel
theorem dX8_best_76 : decode cX8_best 76 = .ok (.iand, 1) := by decide +kernel
theorem dX8_best_77 : decode cX8_best 77 = .ok (.iconst 1, 1) := by decide +kernel
theorem dX8_best_78 : decode cX8_best 78 = .ok (.if_icmp .ne 6, 3) := by decide +kernel
theorem dX8_best_81 : decode cX8_best 81 = .ok (.bipush (-3), 2) := by decide +kernel
theorem dX8_best_83 : decode cX8_best 83 = .ok (.ireturn, 1) := by decide +kernel
theorem dX8_best_84 : decode cX8_best 84 = .ok (.aload_n 0, 1) := by decide +kernel
theorem dX8_best_85 : decode cX8_best 85 = .ok (.iload_n 2, 1) := by decide +kernel
theorem dX8_best_86 : decode cX8_best 86 = .ok (.iload_n 3, 1) := by decide +kernel
theorem dX8_best_87 : decode cX8_best 87 = .ok (.aload_n 0, 1) := by decide +kernel
theorem dX8_best_88 : decode cX8_best 88 = .ok (.getfield 13, 3) := by decide +kernel
theorem dX8_best_91 : decode cX8_best 91 = .ok (.iconst 1, 1) := by decide +kernel
theorem dX8_best_92 : decode cX8_best 92 = .ok (.iaload, 1) := by decide +kernel
theorem dX8_best_93 : decode cX8_best 93 = .ok (.invokevirtual 262, 3) := by decide +kernel
theorem dX8_best_96 : decode cX8_best 96 = .ok (.aload_n 0, 1) := by decide +kernel
theorem dX8_best_97 : decode cX8_best 97 = .ok (.getfield 30, 3) := by decide +kernel
theorem dX8_best_100 : decode cX8_best 100 = .ok (.iload_n 1, 1) := by decide +kernel
theorem dX8_best_101 : decode cX8_best 101 = .ok (.iaload, 1) := by decide +kernel
theorem dX8_best_102 : decode cX8_best 102 = .ok (.ldc 251, 2) := by decide +kernel
theorem dX8_best_104 : decode cX8_best 104 = .ok (.if_icmp .ne 5, 3) := by decide +kernel
theorem dX8_best_107 : decode cX8_best 107 = .ok (.iconst (-1), 1) := by decide +kernel
theorem dX8_best_108 : decode cX8_best 108 = .ok (.ireturn, 1) := by decide +kernel
theorem dX8_best_109 : decode cX8_best 109 = .ok (.aload_n 0, 1) := by decide +kernel
theorem dX8_best_110 : decode cX8_best 110 = .ok (.iload_n 1, 1) := by decide +kernel
theorem dX8_best_111 : decode cX8_best 111 = .ok (.iload_n 3, 1) := by decide +kernel
theorem dX8_best_112 : decode cX8_best 112 = .ok (.invokevirtual 266, 3) := by decide +kernel
theorem dX8_best_115 : decode cX8_best 115 = .ok (.iload 4, 2) := by decide +kernel
theorem dX8_best_117 : decode cX8_best 117 = .ok (.ifCond .ne 12, 3) := by decide +kernel
theorem dX8_best_120 : decode cX8_best 120 = .ok (.aload_n 0, 1) := by decide +kernel
theorem dX8_best_121 : decode cX8_best 121 = .ok (.getfield 30, 3) := by decide +kernel
theorem dX8_best_124 : decode cX8_best 124 = .ok (.iload_n 1, 1) := by decide +kernel
theorem dX8_best_125 : decode cX8_best 125 = .ok (.iaload, 1) := by decide +kernel
theorem dX8_best_126 : decode cX8_best 126 = .ok (.goto 42, 3) := by decide +kernel
theorem dX8_best_129 : decode cX8_best 129 = .ok (.iload 4, 2) := by decide +kernel
theorem dX8_best_131 : decode cX8_best 131 = .ok (.iconst 1, 1) := by decide +kernel
theorem dX8_best_132 : decode cX8_best 132 = .ok (.if_icmp .ne 10, 3) := by decide +kernel
theorem dX8_best_135 : decode cX8_best 135 = .ok (.aload_n 0, 1) := by decide +kernel
theorem dX8_best_136 : decode cX8_best 136 = .ok (.getfield 252, 3) := by decide +kernel
theorem dX8_best_139 : decode cX8_best 139 = .ok (.goto 29, 3) := by decide +kernel
theorem dX8_best_142 : decode cX8_best 142 = .ok (.iload 4, 2) := by decide +kernel
theorem dX8_best_144 : decode cX8_best 144 = .ok (.bipush 10, 2) := by decide +kernel
theorem dX8_best_146 : decode cX8_best 146 = .ok (.isub, 1) := by decide +kernel
theorem dX8_best_147 : decode cX8_best 147 = .ok (.aload_n 0, 1) := by decide +kernel
theorem dX8_best_148 : decode cX8_best 148 = .ok (.getfield 252, 3) := by decide +kernel
theorem dX8_best_151 : decode cX8_best 151 = .ok (.if_icmp .gt 16, 3) := by decide +kernel
theorem dX8_best_154 : decode cX8_best 154 = .ok (.aload_n 0, 1) := by decide +kernel
theorem dX8_best_155 : decode cX8_best 155 = .ok (.getfield 36, 3) := by decide +kernel
theorem dX8_best_158 : decode cX8_best 158 = .ok (.iload 4, 2) := by decide +kernel
theorem dX8_best_160 : decode cX8_best 160 = .ok (.bipush 10, 2) := by decide +kernel
theorem dX8_best_162 : decode cX8_best 162 = .ok (.isub, 1) := by decide +kernel
theorem dX8_best_163 : decode cX8_best 163 = .ok (.iaload, 1) := by decide +kernel
theorem dX8_best_164 : decode cX8_best 164 = .ok (.goto 4, 3) := by decide +kernel
theorem dX8_best_167 : decode cX8_best 167 = .ok (.iconst (-1), 1) := by decide +kernel
theorem dX8_best_168 : decode cX8_best 168 = .ok (.ireturn, 1) := by decide +kernel
theorem dX8_hears_0 : decode cX8_hears 0 = .ok (.aload_n 0, 1) := by decide +kernel
theorem dX8_hears_1 : decode cX8_hears 1 = .ok (.iconst 0, 1) := by decide +kernel
theorem dX8_hears_2 : decode cX8_hears 2 = .ok (.putfield 1, 3) := by decide +kernel
theorem dX8_hears_5 : decode cX8_hears 5 = .ok (.aload_n 0, 1) := by decide +kernel
theorem dX8_hears_6 : decode cX8_hears 6 = .ok (.iload_n 1, 1) := by decide +kernel
theorem dX8_hears_7 : decode cX8_hears 7 = .ok (.i2l, 1) := by decide +kernel
theorem dX8_hears_8 : decode cX8_hears 8 = .ok (.invokevirtual 182, 3) := by decide +kernel
theorem dX8_hears_11 : decode cX8_hears 11 = .ok (.ifCond .ne 6, 3) := by decide +kernel
theorem dX8_hears_14 : decode cX8_hears 14 = .ok (.bipush (-2), 2) := by decide +kernel
theorem dX8_hears_16 : decode cX8_hears 16 = .ok (.ireturn, 1) := by decide +kernel
theorem dX8_hears_17 : decode cX8_hears 17 = .ok (.aload_n 0, 1) := by decide +kernel
theorem dX8_hears_18 : decode cX8_hears 18 = .ok (.iload_n 1, 1) := by decide +kernel
theorem dX8_hears_19 : decode cX8_hears 19 = .ok (.iconst 0, 1) := by decide +kernel
theorem dX8_hears_20 : decode cX8_hears 20 = .ok (.aload_n 0, 1) := by decide +kernel
theorem dX8_hears_21 : decode cX8_hears 21 = .ok (.getfield 13, 3) := by decide +kernel
theorem dX8_hears_24 : decode cX8_hears 24 = .ok (.iconst 1, 1) := by decide +kernel
theorem dX8_hears_25 : decode cX8_hears 25 = .ok (.iaload, 1) := by decide +kernel
theorem dX8_hears_26 : decode cX8_hears 26 = .ok (.invokevirtual 262, 3) := by decide +kernel
theorem dX8_hears_29 : decode cX8_hears 29 = .ok (.iconst 0, 1) := by decide +kernel
theorem dX8_hears_30 : decode cX8_hears 30 = .ok (.istore_n 2, 1) := by decide +kernel
theorem dX8_hears_31 : decode cX8_hears 31 = .ok (.iconst 0, 1) := by decide +kernel
theorem dX8_hears_32 : decode cX8_hears 32 = .ok (.istore_n 3, 1) := by decide +kernel
theorem dX8_hears_33 : decode cX8_hears 33 = .ok (.iload_n 3, 1) := by decide +kernel
theorem dX8_hears_34 : decode cX8_hears 34 = .ok (.aload_n 0, 1) := by decide +kernel
theorem dX8_hears_35 : decode cX8_hears 35 = .ok (.getfield 13, 3) := by decide +kernel
theorem dX8_hears_38 : decode cX8_hears 38 = .ok (.iconst 0, 1) := by decide +kernel
theorem dX8_hears_39 : decode cX8_hears 39 = .ok (.iaload, 1) := by decide +kernel
theorem dX8_hears_40 : decode cX8_hears 40 = .ok (.if_icmp .ge 39, 3) := by decide +kernel
theorem dX8_hears_43 : decode cX8_hears 43 = .ok (.iload_n 2, 1) := by decide +kernel
theorem dX8_hears_44 : decode cX8_hears 44 = .ok (.iload_n 3, 1) := by decide +kernel
theorem dX8_hears_45 : decode cX8_hears 45 = .ok (.iload_n 1, 1) := by decide +kernel
theorem dX8_hears_46 : decode cX8_hears 46 = .ok (.if_icmp .eq 24, 3) := by decide +kernel
theorem dX8_hears_49 : decode cX8_hears 49 = .ok (.aload_n 0, 1) := by decide +kernel
theorem dX8_hears_50 : decode cX8_hears 50 = .ok (.getfield 30, 3) := by decide +kernel
theorem dX8_hears_53 : decode cX8_hears 53 = .ok (.iload_n 3, 1) := by decide +kernel
theorem dX8_hears_54 : decode cX8_hears 54 = .ok (.iaload, 1) := by decide +kernel
theorem dX8_hears_55 : decode cX8_hears 55 = .ok (.aload_n 0, 1) := by decide +kernel
theorem dX8_hears_56 : decode cX8_hears 56 = .ok (.getfield 13, 3) := by decide +kernel
theorem dX8_hears_59 : decode cX8_hears 59 = .ok (.iconst 3, 1) := by decide +kernel
theorem dX8_hears_60 : decode cX8_hears 60 = .ok (.iaload, 1) := by decide +kernel
theorem dX8_hears_61 : decode cX8_hears 61 = .ok (.if_icmp .gt 9, 3) := by decide +kernel
theorem dX8_hears_64 : decode cX8_hears 64 = .ok (.iconst 1, 1) := by decide +kernel
theorem dX8_hears_65 : decode cX8_hears 65 = .ok (.iload_n 3, 1) := by decide +kernel
theorem dX8_hears_66 : decode cX8_hears 66 = .ok (.ishl, 1) := by decide +kernel
theorem dX8_hears_67 : decode cX8_hears 67 = .ok (.goto 4, 3) := by decide +kernel
theorem dX8_hears_70 : decode cX8_hears 70 = .ok (.iconst 0, 1) := by decide +kernel
theorem dX8_hears_71 : decode cX8_hears 71 = .ok (.ior, 1) := by decide +kernel
theorem dX8_hears_72 : decode cX8_hears 72 = .ok (.istore_n 2, 1) := by decide +kernel
theorem dX8_hears_73 : decode cX8_hears 73 = .ok (.iinc 3 1, 3) := by decide +kernel
theorem dX8_hears_76 : decode cX8_hears 76 = .ok (.goto (-43), 3) := by decide +kernel
theorem dX8_hears_79 : decode cX8_hears 79 = .ok (.iload_n 2, 1) := by decide +kernel
theorem dX8_hears_80 : decode cX8_hears 80 = .ok (.ireturn, 1) := by decide +kernel
theorem dX8_overhears_0 : decode cX8_overhears 0 = .ok (.aload_n 0, 1) := by decide +kernel
theorem dX8_overhears_1 : decode cX8_overhears 1 = .ok (.iconst 0, 1) := by decide +kernel
theorem dX8_overhears_2 : decode cX8_overhears 2 = .ok (.putfield 1, 3) := by decide +kernel
theorem dX8_overhears_5 : decode cX8_overhears 5 = .ok (.aload_n 0, 1) := by decide +kernel
theorem dX8_overhears_6 : decode cX8_overhears 6 = .ok (.iload_n 1, 1) := by decide +kernel
theorem dX8_overhears_7 : decode cX8_overhears 7 = .ok (.iload_n 2, 1) := by decide +kernel
theorem dX8_overhears_8 : decode cX8_overhears 8 = .ok (.invokevirtual 255, 3) := by decide +kernel
theorem dX8_overhears_11 : decode cX8_overhears 11 = .ok (.ifCond .ne 6, 3) := by decide +kernel
theorem dX8_overhears_14 : decode cX8_overhears 14 = .ok (.bipush (-2), 2) := by decide +kernel
theorem dX8_overhears_16 : decode cX8_overhears 16 = .ok (.ireturn, 1) := by decide +kernel
theorem dX8_overhears_17 : decode cX8_overhears 17 = .ok (.aload_n 0, 1) := by decide +kernel
theorem dX8_overhears_18 : decode cX8_overhears 18 = .ok (.iload_n 2, 1) := by decide +kernel
theorem dX8_overhears_19 : decode cX8_overhears 19 = .ok (.iconst 0, 1) := by decide +kernel
theorem dX8_overhears_20 : decode cX8_overhears 20 = .ok (.aload_n 0, 1) := by decide +kernel
theorem dX8_overhears_21 : decode cX8_overhears 21 = .ok (.getfield 13, 3) := by decide +kernel
theorem dX8_overhears_24 : decode cX8_overhears 24 = .ok (.iconst 1, 1) := by decide +kernel
theorem dX8_overhears_25 : decode cX8_overhears 25 = .ok (.iaload, 1) := by decide +kernel
theorem dX8_overhears_26 : decode cX8_overhears 26 = .ok (.invokevirtual 262, 3) := by decide +kernel
theorem dX8_overhears_29 : decode cX8_overhears 29 = .ok (.aload_n 0, 1) := by decide +kernel
theorem dX8_overhears_30 : decode cX8_overhears 30 = .ok (.getfield 30, 3) := by decide +kernel
theorem dX8_overhears_33 : decode cX8_overhears 33 = .ok (.iload_n 1, 1) := by decide +kernel
theorem dX8_overhears_34 : decode cX8_overhears 34 = .ok (.iaload, 1) := by decide +kernel
theorem dX8_overhears_35 : decode cX8_overhears 35 = .ok (.ldc 251, 2) := by decide +kernel
theorem dX8_overhears_37 : decode cX8_overhears 37 = .ok (.if_icmp .ne 5, 3) := by decide +kernel
theorem dX8_overhears_40 : decode cX8_overhears 40 = .ok (.iconst 0, 1) := by decide +kernel
theorem dX8_overhears_41 : decode cX8_overhears 41 = .ok (.ireturn, 1) := by decide +kernel
theorem dX8_overhears_42 : decode cX8_overhears 42 = .ok (.aload_n 0, 1) := by decide +kernel
theorem dX8_overhears_43 : decode cX8_overhears 43 = .ok (.iload_n 1, 1) := by decide +kernel
theorem dX8_overhears_44 : decode cX8_overhears 44 = .ok (.iconst 0, 1) := by decide +kernel
theorem dX8_overhears_45 : decode cX8_overhears 45 = .ok (.invokevirtual 266, 3) := by decide +kernel
theorem dX8_overhears_48 : decode cX8_overhears 48 = .ok (.iconst 0, 1) := by decide +kernel
theorem dX8_overhears_49 : decode cX8_overhears 49 = .ok (.istore_n 3, 1) := by decide +kernel
theorem dX8_overhears_50 : decode cX8_overhears 50 = .ok (.iconst 1, 1) := by decide +kernel
theorem dX8_overhears_51 : decode cX8_overhears 51 = .ok (.istore 4, 2) := by decide +kernel
theorem dX8_overhears_53 : decode cX8_overhears 53 = .ok (.iload 4, 2) := by decide +kernel
theorem dX8_overhears_55 : decode cX8_overhears 55 = .ok (.aload_n 0, 1) := by decide +kernel
theorem dX8_overhears_56 : decode cX8_overhears 56 = .ok (.getfield 252, 3) := by decide +kernel
theorem dX8_overhears_59 : decode cX8_overhears 59 = .ok (.if_icmp .ge 21, 3) := by decide +kernel
theorem dX8_overhears_62 : decode cX8_overhears 62 = .ok (.iload_n 3, 1) := by decide +kernel
theorem dX8_overhears_63 : decode cX8_overhears 63 = .ok (.iconst 1, 1) := by decide +kernel
theorem dX8_overhears_64 : decode cX8_overhears 64 = .ok (.aload_n 0, 1) := by decide +kernel
theorem dX8_overhears_65 : decode cX8_overhears 65 = .ok (.getfield 36, 3) := by decide +kernel
theorem dX8_overhears_68 : decode cX8_overhears 68 = .ok (.iload 4, 2) := by decide +kernel
theorem dX8_overhears_70 : decode cX8_overhears 70 = .ok (.iaload, 1) := by decide +kernel
theorem dX8_overhears_71 : decode cX8_overhears 71 = .ok (.ishl, 1) := by decide +kernel
theorem dX8_overhears_72 : decode cX8_overhears 72 = .ok (.ior, 1) := by decide +kernel
theorem dX8_overhears_73 : decode cX8_overhears 73 = .ok (.istore_n 3, 1) := by decide +kernel
theorem dX8_overhears_74 : decode cX8_overhears 74 = .ok (.iinc 4 1, 3) := by decide +kernel
theorem dX8_overhears_77 : decode cX8_overhears 77 = .ok (.goto (-24), 3) := by decide +kernel
theorem dX8_overhears_80 : decode cX8_overhears 80 = .ok (.iload_n 3, 1) := by decide +kernel
theorem dX8_overhears_81 : decode cX8_overhears 81 = .ok (.ireturn, 1) := by decide +kernel
theorem dX8_isHeard_0 : decode cX8_isHeard 0 = .ok (.aload_n 0, 1) := by decide +kernel
theorem dX8_isHeard_1 : decode cX8_isHeard 1 = .ok (.iload_n 2, 1) := by decide +kernel
theorem dX8_isHeard_2 : decode cX8_isHeard 2 = .ok (.iload_n 3, 1) := by decide +kernel
theorem dX8_isHeard_3 : decode cX8_isHeard 3 = .ok (.iload 4, 2) := by decide +kernel
theorem dX8_isHeard_5 : decode cX8_isHeard 5 = .ok (.invokevirtual 262, 3) := by decide +kernel
theorem dX8_isHeard_8 : decode cX8_isHeard 8 = .ok (.aload_n 0, 1) := by decide +kernel
theorem dX8_isHeard_9 : decode cX8_isHeard 9 = .ok (.getfield 30, 3) := by decide +kernel
theorem dX8_isHeard_12 : decode cX8_isHeard 12 = .ok (.iload_n 1, 1) := by decide +kernel
theorem dX8_isHeard_13 : decode cX8_isHeard 13 = .ok (.iaload, 1) := by decide +kernel
theorem dX8_isHeard_14 : decode cX8_isHeard 14 = .ok (.aload_n 0, 1) := by decide +kernel
theorem dX8_isHeard_15 : decode cX8_isHeard 15 = .ok (.getfield 13, 3) := by decide +kernel
theorem dX8_isHeard_18 : decode cX8_isHeard 18 = .ok (.iconst 3, 1) := by decide +kernel
theorem dX8_isHeard_19 : decode cX8_isHeard 19 = .ok (.iaload, 1) := by decide +kernel
theorem dX8_isHeard_20 : decode cX8_isHeard 20 = .ok (.if_icmp .gt 7, 3) := by decide +kernel
theorem dX8_isHeard_23 : decode cX8_isHeard 23 = .ok (.iconst 1, 1) := by decide +kernel
theorem dX8_isHeard_24 : decode cX8_isHeard 24 = .ok (.goto 4, 3) := by decide +kernel
theorem dX8_isHeard_27 : decode cX8_isHeard 27 = .ok (.iconst 0, 1) := by decide +kernel
theorem dX8_isHeard_28 : decode cX8_isHeard 28 = .ok (.ireturn, 1) := by decide +kernel
theorem dX8_needs_0 : decode cX8_needs 0 = .ok (.aload_n 0, 1) := by decide +kernel
theorem dX8_needs_1 : decode cX8_needs 1 = .ok (.iconst 0, 1) := by decide +kernel
theorem dX8_needs_2 : decode cX8_needs 2 = .ok (.putfield 1, 3) := by decide +kernel
theorem dX8_needs_5 : decode cX8_needs 5 = .ok (.aload_n 0, 1) := by decide +kernel
theorem dX8_needs_6 : decode cX8_needs 6 = .ok (.iload_n 1, 1) := by decide +kernel
theorem dX8_needs_7 : decode cX8_needs 7 = .ok (.iload_n 2, 1) := by decide +kernel
theorem dX8_needs_8 : decode cX8_needs 8 = .ok (.invokevirtual 255, 3) := by decide +kernel
theorem dX8_needs_11 : decode cX8_needs 11 = .ok (.ifCond .ne 6, 3) := by decide +kernel
theorem dX8_needs_14 : decode cX8_needs 14 = .ok (.bipush (-2), 2) := by decide +kernel
theorem dX8_needs_16 : decode cX8_needs 16 = .ok (.ireturn, 1) := by decide +kernel
theorem dX8_needs_17 : decode cX8_needs 17 = .ok (.aload_n 0, 1) := by decide +kernel
theorem dX8_needs_18 : decode cX8_needs 18 = .ok (.iload_n 1, 1) := by decide +kernel
theorem dX8_needs_19 : decode cX8_needs 19 = .ok (.iload_n 2, 1) := by decide +kernel
theorem dX8_needs_20 : decode cX8_needs 20 = .ok (.iconst 0, 1) := by decide +kernel
theorem dX8_needs_21 : decode cX8_needs 21 = .ok (.aload_n 0, 1) := by decide +kernel
theorem dX8_needs_22 : decode cX8_needs 22 = .ok (.getfield 13, 3) := by decide +kernel
theorem dX8_needs_25 : decode cX8_needs 25 = .ok (.iconst 1, 1) := by decide +kernel
theorem dX8_needs_26 : decode cX8_needs 26 = .ok (.iaload, 1) := by decide +kernel
theorem dX8_needs_27 : decode cX8_needs 27 = .ok (.invokevirtual 270, 3) := by decide +kernel
theorem dX8_needs_30 : decode cX8_needs 30 = .ok (.ifCond .ne 5, 3) := by decide +kernel
theorem dX8_needs_33 : decode cX8_needs 33 = .ok (.iconst (-1), 1) := by decide +kernel
theorem dX8_needs_34 : decode cX8_needs 34 = .ok (.ireturn, 1) := by decide +kernel
theorem dX8_needs_35 : decode cX8_needs 35 = .ok (.iconst 0, 1) := by decide +kernel
theorem dX8_needs_36 : decode cX8_needs 36 = .ok (.istore_n 3, 1) := by decide +kernel
theorem dX8_needs_37 : decode cX8_needs 37 = .ok (.iload_n 3, 1) := by decide +kernel
theorem dX8_needs_38 : decode cX8_needs 38 = .ok (.aload_n 0, 1) := by decide +kernel
theorem dX8_needs_39 : decode cX8_needs 39 = .ok (.getfield 13, 3) := by decide +kernel
theorem dX8_needs_42 : decode cX8_needs 42 = .ok (.iconst 0, 1) := by decide +kernel
theorem dX8_needs_43 : decode cX8_needs 43 = .ok (.iaload, 1) := by decide +kernel
theorem dX8_needs_44 : decode cX8_needs 44 = .ok (.if_icmp .ge 39, 3) := by decide +kernel
theorem dX8_needs_47 : decode cX8_needs 47 = .ok (.iload_n 3, 1) := by decide +kernel
theorem dX8_needs_48 : decode cX8_needs 48 = .ok (.iload_n 1, 1) := by decide +kernel
theorem dX8_needs_49 : decode cX8_needs 49 = .ok (.if_icmp .eq 28, 3) := by decide +kernel
theorem dX8_needs_52 : decode cX8_needs 52 = .ok (.iload_n 3, 1) := by decide +kernel
theorem dX8_needs_53 : decode cX8_needs 53 = .ok (.iload_n 2, 1) := by decide +kernel
theorem dX8_needs_54 : decode cX8_needs 54 = .ok (.if_icmp .eq 23, 3) := by decide +kernel
theorem dX8_needs_57 : decode cX8_needs 57 = .ok (.aload_n 0, 1) := by decide +kernel
theorem dX8_needs_58 : decode cX8_needs 58 = .ok (.iload_n 1, 1) := by decide +kernel
theorem dX8_needs_59 : decode cX8_needs 59 = .ok (.iload_n 2, 1) := by decide +kernel
theorem dX8_needs_60 : decode cX8_needs 60 = .ok (.iconst 1, 1) := by decide +kernel
theorem dX8_needs_61 : decode cX8_needs 61 = .ok (.iload_n 3, 1) := by decide +kernel
theorem dX8_needs_62 : decode cX8_needs 62 = .ok (.ishl, 1) := by decide +kernel
theorem dX8_needs_63 : decode cX8_needs 63 = .ok (.aload_n 0, 1) := by decide +kernel
theorem dX8_needs_64 : decode cX8_needs 64 = .ok (.getfield 13, 3) := by decide +kernel
theorem dX8_needs_67 : decode cX8_needs 67 = .ok (.iconst 1, 1) := by decide +kernel
theorem dX8_needs_68 : decode cX8_needs 68 = .ok (.iaload, 1) := by decide +kernel
theorem dX8_needs_69 : decode cX8_needs 69 = .ok (.invokevirtual 270, 3) := by decide +kernel
theorem dX8_needs_72 : decode cX8_needs 72 = .ok (.ifCond .ne 5, 3) := by decide +kernel
theorem dX8_needs_75 : decode cX8_needs 75 = .ok (.iload_n 3, 1) := by decide +kernel
theorem dX8_needs_76 : decode cX8_needs 76 = .ok (.ireturn, 1) := by decide +kernel
theorem dX8_needs_77 : decode cX8_needs 77 = .ok (.iinc 3 1, 3) := by decide +kernel
theorem dX8_needs_80 : decode cX8_needs 80 = .ok (.goto (-43), 3) := by decide +kernel
theorem dX8_needs_83 : decode cX8_needs 83 = .ok (.iconst (-1), 1) := by decide +kernel
theorem dX8_needs_84 : decode cX8_needs 84 = .ok (.ireturn, 1) := by decide +kernel
theorem dX8_openHours_0 : decode cX8_openHours 0 = .ok (.aload_n 0, 1) := by decide +kernel
theorem dX8_openHours_1 : decode cX8_openHours 1 = .ok (.iconst 0, 1) := by decide +kernel
theorem dX8_openHours_2 : decode cX8_openHours 2 = .ok (.putfield 1, 3) := by decide +kernel
theorem dX8_openHours_5 : decode cX8_openHours 5 = .ok (.aload_n 0, 1) := by decide +kernel
theorem dX8_openHours_6 : decode cX8_openHours 6 = .ok (.iload_n 1, 1) := by decide +kernel
theorem dX8_openHours_7 : decode cX8_openHours 7 = .ok (.i2l, 1) := by decide +kernel
theorem dX8_openHours_8 : decode cX8_openHours 8 = .ok (.invokevirtual 222, 3) := by decide +kernel
theorem dX8_openHours_11 : decode cX8_openHours 11 = .ok (.ifCond .ne 6, 3) := by decide +kernel
theorem dX8_openHours_14 : decode cX8_openHours 14 = .ok (.bipush (-2), 2) := by decide +kernel
theorem dX8_openHours_16 : decode cX8_openHours 16 = .ok (.ireturn, 1) := by decide +kernel
theorem dX8_openHours_17 : decode cX8_openHours 17 = .ok (.iconst 0, 1) := by decide +kernel
theorem dX8_openHours_18 : decode cX8_openHours 18 = .ok (.istore_n 2, 1) := by decide +kernel
theorem dX8_openHours_19 : decode cX8_openHours 19 = .ok (.iconst 0, 1) := by decide +kernel
theorem dX8_openHours_20 : decode cX8_openHours 20 = .ok (.istore_n 3, 1) := by decide +kernel
theorem dX8_openHours_21 : decode cX8_openHours 21 = .ok (.iload_n 3, 1) := by decide +kernel
theorem dX8_openHours_22 : decode cX8_openHours 22 = .ok (.bipush 12, 2) := by decide +kernel
theorem dX8_openHours_24 : decode cX8_openHours 24 = .ok (.if_icmp .ge 36, 3) := by decide +kernel
theorem dX8_openHours_27 : decode cX8_openHours 27 = .ok (.iload_n 2, 1) := by decide +kernel
theorem dX8_openHours_28 : decode cX8_openHours 28 = .ok (.aload_n 0, 1) := by decide +kernel
theorem dX8_openHours_29 : decode cX8_openHours 29 = .ok (.iload_n 1, 1) := by decide +kernel
theorem dX8_openHours_30 : decode cX8_openHours 30 = .ok (.bipush 20, 2) := by decide +kernel
theorem dX8_openHours_32 : decode cX8_openHours 32 = .ok (.idiv, 1) := by decide +kernel
theorem dX8_openHours_33 : decode cX8_openHours 33 = .ok (.iload_n 1, 1) := by decide +kernel
theorem dX8_openHours_34 : decode cX8_openHours 34 = .ok (.bipush 20, 2) := by decide +kernel
theorem dX8_openHours_36 : decode cX8_openHours 36 = .ok (.irem, 1) := by decide +kernel
theorem dX8_openHours_37 : decode cX8_openHours 37 = .ok (.iconst 0, 1) := by decide +kernel
theorem dX8_openHours_38 : decode cX8_openHours 38 = .ok (.iload_n 3, 1) := by decide +kernel
theorem dX8_openHours_39 : decode cX8_openHours 39 = .ok (.invokevirtual 270, 3) := by decide +kernel
theorem dX8_openHours_42 : decode cX8_openHours 42 = .ok (.ifCond .eq 9, 3) := by decide +kernel
theorem dX8_openHours_45 : decode cX8_openHours 45 = .ok (.iconst 1, 1) := by decide +kernel
theorem dX8_openHours_46 : decode cX8_openHours 46 = .ok (.iload_n 3, 1) := by decide +kernel
theorem dX8_openHours_47 : decode cX8_openHours 47 = .ok (.ishl, 1) := by decide +kernel
theorem dX8_openHours_48 : decode cX8_openHours 48 = .ok (.goto 4, 3) := by decide +kernel
theorem dX8_openHours_51 : decode cX8_openHours 51 = .ok (.iconst 0, 1) := by decide +kernel
theorem dX8_openHours_52 : decode cX8_openHours 52 = .ok (.ior, 1) := by decide +kernel
