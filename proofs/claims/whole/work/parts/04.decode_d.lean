theorem dX11_thrown_0 : decode cX11_thrown 0 = .ok (.aload_n 0, 1) := by decide +kernel
theorem dX11_thrown_1 : decode cX11_thrown 1 = .ok (.getfield 1, 3) := by decide +kernel
theorem dX11_thrown_4 : decode cX11_thrown 4 = .ok (.ireturn, 1) := by decide +kernel
theorem dX11_refuse_0 : decode cX11_refuse 0 = .ok (.aload_n 0, 1) := by decide +kernel
theorem dX11_refuse_1 : decode cX11_refuse 1 = .ok (.iconst 1, 1) := by decide +kernel
theorem dX11_refuse_2 : decode cX11_refuse 2 = .ok (.putfield 1, 3) := by decide +kernel
theorem dX11_refuse_5 : decode cX11_refuse 5 = .ok (.iconst 0, 1) := by decide +kernel
theorem dX11_refuse_6 : decode cX11_refuse 6 = .ok (.ireturn, 1) := by decide +kernel
theorem dX11_isIn_0 : decode cX11_isIn 0 = .ok (.iload_n 0, 1) := by decide +kernel
theorem dX11_isIn_1 : decode cX11_isIn 1 = .ok (.iload_n 1, 1) := by decide +kernel
theorem dX11_isIn_2 : decode cX11_isIn 2 = .ok (.if_icmp .lt 12, 3) := by decide +kernel
theorem dX11_isIn_5 : decode cX11_isIn 5 = .ok (.iload_n 0, 1) := by decide +kernel
theorem dX11_isIn_6 : decode cX11_isIn 6 = .ok (.iload_n 2, 1) := by decide +kernel
theorem dX11_isIn_7 : decode cX11_isIn 7 = .ok (.if_icmp .gt 7, 3) := by decide +kernel
theorem dX11_isIn_10 : decode cX11_isIn 10 = .ok (.iconst 1, 1) := by decide +kernel
theorem dX11_isIn_11 : decode cX11_isIn 11 = .ok (.goto 4, 3) := by decide +kernel
theorem dX11_isIn_14 : decode cX11_isIn 14 = .ok (.iconst 0, 1) := by decide +kernel
theorem dX11_isIn_15 : decode cX11_isIn 15 = .ok (.ireturn, 1) := by decide +kernel
theorem dX11_has_0 : decode cX11_has 0 = .ok (.iload_n 0, 1) := by decide +kernel
theorem dX11_has_1 : decode cX11_has 1 = .ok (.iload_n 1, 1) := by decide +kernel
theorem dX11_has_2 : decode cX11_has 2 = .ok (.ishr, 1) := by decide +kernel
theorem dX11_has_3 : decode cX11_has 3 = .ok (.iconst 1, 1) := by decide +kernel
theorem dX11_has_4 : decode cX11_has 4 = .ok (.iand, 1) := by decide +kernel
theorem dX11_has_5 : decode cX11_has 5 = .ok (.iconst 1, 1) := by decide +kernel
theorem dX11_has_6 : decode cX11_has 6 = .ok (.if_icmp .ne 7, 3) := by decide +kernel
theorem dX11_has_9 : decode cX11_has 9 = .ok (.iconst 1, 1) := by decide +kernel
theorem dX11_has_10 : decode cX11_has 10 = .ok (.goto 4, 3) := by decide +kernel
theorem dX11_has_13 : decode cX11_has 13 = .ok (.iconst 0, 1) := by decide +kernel
theorem dX11_has_14 : decode cX11_has 14 = .ok (.ireturn, 1) := by decide +kernel
theorem dX11_bits_0 : decode cX11_bits 0 = .ok (.iconst 0, 1) := by decide +kernel
theorem dX11_bits_1 : decode cX11_bits 1 = .ok (.istore_n 1, 1) := by decide +kernel
theorem dX11_bits_2 : decode cX11_bits 2 = .ok (.iload_n 0, 1) := by decide +kernel
theorem dX11_bits_3 : decode cX11_bits 3 = .ok (.istore_n 2, 1) := by decide +kernel
theorem dX11_bits_4 : decode cX11_bits 4 = .ok (.iload_n 2, 1) := by decide +kernel
theorem dX11_bits_5 : decode cX11_bits 5 = .ok (.ifCond .eq 15, 3) := by decide +kernel
theorem dX11_bits_8 : decode cX11_bits 8 = .ok (.iinc 1 1, 3) := by decide +kernel
theorem dX11_bits_11 : decode cX11_bits 11 = .ok (.iload_n 2, 1) := by decide +kernel
theorem dX11_bits_12 : decode cX11_bits 12 = .ok (.iload_n 2, 1) := by decide +kernel
theorem dX11_bits_13 : decode cX11_bits 13 = .ok (.iconst 1, 1) := by decide +kernel
theorem dX11_bits_14 : decode cX11_bits 14 = .ok (.isub, 1) := by decide +kernel
theorem dX11_bits_15 : decode cX11_bits 15 = .ok (.iand, 1) := by decide +kernel
theorem dX11_bits_16 : decode cX11_bits 16 = .ok (.istore_n 2, 1) := by decide +kernel
theorem dX11_bits_17 : decode cX11_bits 17 = .ok (.goto (-13), 3) := by decide +kernel
theorem dX11_bits_20 : decode cX11_bits 20 = .ok (.iload_n 1, 1) := by decide +kernel
theorem dX11_bits_21 : decode cX11_bits 21 = .ok (.ireturn, 1) := by decide +kernel
theorem dX11_lay_0 : decode cX11_lay 0 = .ok (.bipush 24, 2) := by decide +kernel
theorem dX11_lay_2 : decode cX11_lay 2 = .ok (.istore_n 2, 1) := by decide +kernel
theorem dX11_lay_3 : decode cX11_lay 3 = .ok (.iload_n 2, 1) := by decide +kernel
theorem dX11_lay_4 : decode cX11_lay 4 = .ok (.ifCond .lt 35, 3) := by decide +kernel
theorem dX11_lay_7 : decode cX11_lay 7 = .ok (.aload_n 0, 1) := by decide +kernel
theorem dX11_lay_8 : decode cX11_lay 8 = .ok (.getfield 7, 3) := by decide +kernel
theorem dX11_lay_11 : decode cX11_lay 11 = .ok (.aload_n 0, 1) := by decide +kernel
theorem dX11_lay_12 : decode cX11_lay 12 = .ok (.getfield 11, 3) := by decide +kernel
theorem dX11_lay_15 : decode cX11_lay 15 = .ok (.iload_n 1, 1) := by decide +kernel
theorem dX11_lay_16 : decode cX11_lay 16 = .ok (.iload_n 2, 1) := by decide +kernel
theorem dX11_lay_17 : decode cX11_lay 17 = .ok (.iushr, 1) := by decide +kernel
theorem dX11_lay_18 : decode cX11_lay 18 = .ok (.sipush 255, 3) := by decide +kernel
theorem dX11_lay_21 : decode cX11_lay 21 = .ok (.iand, 1) := by decide +kernel
theorem dX11_lay_22 : decode cX11_lay 22 = .ok (.iastore, 1) := by decide +kernel
theorem dX11_lay_23 : decode cX11_lay 23 = .ok (.aload_n 0, 1) := by decide +kernel
theorem dX11_lay_24 : decode cX11_lay 24 = .ok (.dup, 1) := by decide +kernel
theorem dX11_lay_25 : decode cX11_lay 25 = .ok (.getfield 11, 3) := by decide +kernel
theorem dX11_lay_28 : decode cX11_lay 28 = .ok (.iconst 1, 1) := by decide +kernel
theorem dX11_lay_29 : decode cX11_lay 29 = .ok (.iadd, 1) := by decide +kernel
theorem dX11_lay_30 : decode cX11_lay 30 = .ok (.putfield 11, 3) := by decide +kernel
theorem dX11_lay_33 : decode cX11_lay 33 = .ok (.iinc 2 (-8), 3) := by decide +kernel
theorem dX11_lay_36 : decode cX11_lay 36 = .ok (.goto (-33), 3) := by decide +kernel
theorem dX11_lay_39 : decode cX11_lay 39 = .ok (.return_, 1) := by decide +kernel
theorem dX11_feed_0 : decode cX11_feed 0 = .ok (.aload_n 0, 1) := by decide +kernel
theorem dX11_feed_1 : decode cX11_feed 1 = .ok (.iconst 0, 1) := by decide +kernel
theorem dX11_feed_2 : decode cX11_feed 2 = .ok (.putfield 1, 3) := by decide +kernel
theorem dX11_feed_5 : decode cX11_feed 5 = .ok (.aload_n 0, 1) := by decide +kernel
theorem dX11_feed_6 : decode cX11_feed 6 = .ok (.getfield 11, 3) := by decide +kernel
theorem dX11_feed_9 : decode cX11_feed 9 = .ok (.bipush 20, 2) := by decide +kernel
theorem dX11_feed_11 : decode cX11_feed 11 = .ok (.iadd, 1) := by decide +kernel
theorem dX11_feed_12 : decode cX11_feed 12 = .ok (.sipush 540, 3) := by decide +kernel
theorem dX11_feed_15 : decode cX11_feed 15 = .ok (.if_icmp .le 5, 3) := by decide +kernel
theorem dX11_feed_18 : decode cX11_feed 18 = .ok (.iconst (-1), 1) := by decide +kernel
theorem dX11_feed_19 : decode cX11_feed 19 = .ok (.ireturn, 1) := by decide +kernel
theorem dX11_feed_20 : decode cX11_feed 20 = .ok (.aload_n 0, 1) := by decide +kernel
theorem dX11_feed_21 : decode cX11_feed 21 = .ok (.iload_n 1, 1) := by decide +kernel
theorem dX11_feed_22 : decode cX11_feed 22 = .ok (.invokevirtual 14, 3) := by decide +kernel
theorem dX11_feed_25 : decode cX11_feed 25 = .ok (.aload_n 0, 1) := by decide +kernel
theorem dX11_feed_26 : decode cX11_feed 26 = .ok (.iload_n 2, 1) := by decide +kernel
theorem dX11_feed_27 : decode cX11_feed 27 = .ok (.invokevirtual 14, 3) := by decide +kernel
theorem dX11_feed_30 : decode cX11_feed 30 = .ok (.aload_n 0, 1) := by decide +kernel
theorem dX11_feed_31 : decode cX11_feed 31 = .ok (.iload_n 3, 1) := by decide +kernel
theorem dX11_feed_32 : decode cX11_feed 32 = .ok (.invokevirtual 14, 3) := by decide +kernel
theorem dX11_feed_35 : decode cX11_feed 35 = .ok (.aload_n 0, 1) := by decide +kernel
theorem dX11_feed_36 : decode cX11_feed 36 = .ok (.iload 4, 2) := by decide +kernel
theorem dX11_feed_38 : decode cX11_feed 38 = .ok (.invokevirtual 14, 3) := by decide +kernel
theorem dX11_feed_41 : decode cX11_feed 41 = .ok (.aload_n 0, 1) := by decide +kernel
theorem dX11_feed_42 : decode cX11_feed 42 = .ok (.iload 5, 2) := by decide +kernel
theorem dX11_feed_44 : decode cX11_feed 44 = .ok (.invokevirtual 14, 3) := by decide +kernel
theorem dX11_feed_47 : decode cX11_feed 47 = .ok (.aload_n 0, 1) := by decide +kernel
theorem dX11_feed_48 : decode cX11_feed 48 = .ok (.getfield 11, 3) := by decide +kernel
theorem dX11_feed_51 : decode cX11_feed 51 = .ok (.ireturn, 1) := by decide +kernel
theorem dX11_end_0 : decode cX11_end 0 = .ok (.aload_n 0, 1) := by decide +kernel
theorem dX11_end_1 : decode cX11_end 1 = .ok (.iconst 0, 1) := by decide +kernel
theorem dX11_end_2 : decode cX11_end 2 = .ok (.putfield 1, 3) := by decide +kernel
theorem dX11_end_5 : decode cX11_end 5 = .ok (.iload_n 1, 1) := by decide +kernel
theorem dX11_end_6 : decode cX11_end 6 = .ok (.ifCond .lt 11, 3) := by decide +kernel
theorem dX11_end_9 : decode cX11_end 9 = .ok (.iload_n 1, 1) := by decide +kernel
theorem dX11_end_10 : decode cX11_end 10 = .ok (.aload_n 0, 1) := by decide +kernel
theorem dX11_end_11 : decode cX11_end 11 = .ok (.getfield 11, 3) := by decide +kernel
theorem dX11_end_14 : decode cX11_end 14 = .ok (.if_icmp .le 5, 3) := by decide +kernel
theorem dX11_end_17 : decode cX11_end 17 = .ok (.iconst 0, 1) := by decide +kernel
theorem dX11_end_18 : decode cX11_end 18 = .ok (.ireturn, 1) := by decide +kernel
theorem dX11_end_19 : decode cX11_end 19 = .ok (.aload_n 0, 1) := by decide +kernel
theorem dX11_end_20 : decode cX11_end 20 = .ok (.iload_n 1, 1) := by decide +kernel
theorem dX11_end_21 : decode cX11_end 21 = .ok (.putfield 11, 3) := by decide +kernel
theorem dX11_end_24 : decode cX11_end 24 = .ok (.iconst 1, 1) := by decide +kernel
theorem dX11_end_25 : decode cX11_end 25 = .ok (.ireturn, 1) := by decide +kernel
theorem dX11_tapeAt_0 : decode cX11_tapeAt 0 = .ok (.iload_n 1, 1) := by decide +kernel
theorem dX11_tapeAt_1 : decode cX11_tapeAt 1 = .ok (.aload_n 0, 1) := by decide +kernel
theorem dX11_tapeAt_2 : decode cX11_tapeAt 2 = .ok (.getfield 18, 3) := by decide +kernel
theorem dX11_tapeAt_5 : decode cX11_tapeAt 5 = .ok (.if_icmp .ge 12, 3) := by decide +kernel
theorem dX11_tapeAt_8 : decode cX11_tapeAt 8 = .ok (.aload_n 0, 1) := by decide +kernel
theorem dX11_tapeAt_9 : decode cX11_tapeAt 9 = .ok (.getfield 7, 3) := by decide +kernel
theorem dX11_tapeAt_12 : decode cX11_tapeAt 12 = .ok (.iload_n 1, 1) := by decide +kernel
theorem dX11_tapeAt_13 : decode cX11_tapeAt 13 = .ok (.iaload, 1) := by decide +kernel
theorem dX11_tapeAt_14 : decode cX11_tapeAt 14 = .ok (.goto 4, 3) := by decide +kernel
theorem dX11_tapeAt_17 : decode cX11_tapeAt 17 = .ok (.iconst 0, 1) := by decide +kernel
theorem dX11_tapeAt_18 : decode cX11_tapeAt 18 = .ok (.ireturn, 1) := by decide +kernel
theorem dX11_isLetter_0 : decode cX11_isLetter 0 = .ok (.iload_n 0, 1) := by decide +kernel
theorem dX11_isLetter_1 : decode cX11_isLetter 1 = .ok (.bipush 97, 2) := by decide +kernel
theorem dX11_isLetter_3 : decode cX11_isLetter 3 = .ok (.if_icmp .lt 13, 3) := by decide +kernel
theorem dX11_isLetter_6 : decode cX11_isLetter 6 = .ok (.iload_n 0, 1) := by decide +kernel
theorem dX11_isLetter_7 : decode cX11_isLetter 7 = .ok (.bipush 122, 2) := by decide +kernel
theorem dX11_isLetter_9 : decode cX11_isLetter 9 = .ok (.if_icmp .gt 7, 3) := by decide +kernel
theorem dX11_isLetter_12 : decode cX11_isLetter 12 = .ok (.iconst 1, 1) := by decide +kernel
theorem dX11_isLetter_13 : decode cX11_isLetter 13 = .ok (.goto 4, 3) := by decide +kernel
theorem dX11_isLetter_16 : decode cX11_isLetter 16 = .ok (.iconst 0, 1) := by decide +kernel
theorem dX11_isLetter_17 : decode cX11_isLetter 17 = .ok (.ireturn, 1) := by decide +kernel
theorem dX11_next_0 : decode cX11_next 0 = .ok (.aload_n 0, 1) := by decide +kernel
theorem dX11_next_1 : decode cX11_next 1 = .ok (.getfield 21, 3) := by decide +kernel
theorem dX11_next_4 : decode cX11_next 4 = .ok (.aload_n 0, 1) := by decide +kernel
theorem dX11_next_5 : decode cX11_next 5 = .ok (.getfield 18, 3) := by decide +kernel
theorem dX11_next_8 : decode cX11_next 8 = .ok (.if_icmp .ge 44, 3) := by decide +kernel
theorem dX11_next_11 : decode cX11_next 11 = .ok (.aload_n 0, 1) := by decide +kernel
theorem dX11_next_12 : decode cX11_next 12 = .ok (.getfield 7, 3) := by decide +kernel
theorem dX11_next_15 : decode cX11_next 15 = .ok (.aload_n 0, 1) := by decide +kernel
theorem dX11_next_16 : decode cX11_next 16 = .ok (.getfield 21, 3) := by decide +kernel
theorem dX11_next_19 : decode cX11_next 19 = .ok (.iaload, 1) := by decide +kernel
theorem dX11_next_20 : decode cX11_next 20 = .ok (.bipush 32, 2) := by decide +kernel
theorem dX11_next_22 : decode cX11_next 22 = .ok (.if_icmp .eq 17, 3) := by decide +kernel
theorem dX11_next_25 : decode cX11_next 25 = .ok (.aload_n 0, 1) := by decide +kernel
theorem dX11_next_26 : decode cX11_next 26 = .ok (.getfield 7, 3) := by decide +kernel
theorem dX11_next_29 : decode cX11_next 29 = .ok (.aload_n 0, 1) := by decide +kernel
theorem dX11_next_30 : decode cX11_next 30 = .ok (.getfield 21, 3) := by decide +kernel
theorem dX11_next_33 : decode cX11_next 33 = .ok (.iaload, 1) := by decide +kernel
theorem dX11_next_34 : decode cX11_next 34 = .ok (.bipush 10, 2) := by decide +kernel
theorem dX11_next_36 : decode cX11_next 36 = .ok (.if_icmp .ne 16, 3) := by decide +kernel
theorem dX11_next_39 : decode cX11_next 39 = .ok (.aload_n 0, 1) := by decide +kernel
theorem dX11_next_40 : decode cX11_next 40 = .ok (.dup, 1) := by decide +kernel
theorem dX11_next_41 : decode cX11_next 41 = .ok (.getfield 21, 3) := by decide +kernel
theorem dX11_next_44 : decode cX11_next 44 = .ok (.iconst 1, 1) := by decide +kernel
theorem dX11_next_45 : decode cX11_next 45 = .ok (.iadd, 1) := by decide +kernel
theorem dX11_next_46 : decode cX11_next 46 = .ok (.putfield 21, 3) := by decide +kernel
theorem dX11_next_49 : decode cX11_next 49 = .ok (.goto (-49), 3) := by decide +kernel
theorem dX11_next_52 : decode cX11_next 52 = .ok (.aload_n 0, 1) := by decide +kernel
theorem dX11_next_53 : decode cX11_next 53 = .ok (.aload_n 0, 1) := by decide +kernel
theorem dX11_next_54 : decode cX11_next 54 = .ok (.getfield 21, 3) := by decide +kernel
theorem dX11_next_57 : decode cX11_next 57 = .ok (.putfield 24, 3) := by decide +kernel
theorem dX11_next_60 : decode cX11_next 60 = .ok (.aload_n 0, 1) := by decide +kernel
theorem dX11_next_61 : decode cX11_next 61 = .ok (.getfield 18, 3) := by decide +kernel
theorem dX11_next_64 : decode cX11_next 64 = .ok (.sipush 500, 3) := by decide +kernel
theorem dX11_next_67 : decode cX11_next 67 = .ok (.if_icmp .le 26, 3) := by decide +kernel
theorem dX11_next_70 : decode cX11_next 70 = .ok (.aload_n 0, 1) := by decide +kernel
theorem dX11_next_71 : decode cX11_next 71 = .ok (.getfield 24, 3) := by decide +kernel
theorem dX11_next_74 : decode cX11_next 74 = .ok (.sipush 500, 3) := by decide +kernel
theorem dX11_next_77 : decode cX11_next 77 = .ok (.if_icmp .lt 16, 3) := by decide +kernel
theorem dX11_next_80 : decode cX11_next 80 = .ok (.aload_n 0, 1) := by decide +kernel
theorem dX11_next_81 : decode cX11_next 81 = .ok (.sipush 500, 3) := by decide +kernel
theorem dX11_next_84 : decode cX11_next 84 = .ok (.putfield 24, 3) := by decide +kernel
theorem dX11_next_87 : decode cX11_next 87 = .ok (.aload_n 0, 1) := by decide +kernel
theorem dX11_next_88 : decode cX11_next 88 = .ok (.iconst 1, 1) := by decide +kernel
theorem dX11_next_89 : decode cX11_next 89 = .ok (.putfield 27, 3) := by decide +kernel
theorem dX11_next_92 : decode cX11_next 92 = .ok (.return_, 1) := by decide +kernel
theorem dX11_next_93 : decode cX11_next 93 = .ok (.aload_n 0, 1) := by decide +kernel
theorem dX11_next_94 : decode cX11_next 94 = .ok (.getfield 21, 3) := by decide +kernel
theorem dX11_next_97 : decode cX11_next 97 = .ok (.aload_n 0, 1) := by decide +kernel
theorem dX11_next_98 : decode cX11_next 98 = .ok (.getfield 18, 3) := by decide +kernel
theorem dX11_next_101 : decode cX11_next 101 = .ok (.if_icmp .lt 9, 3) := by decide +kernel
theorem dX11_next_104 : decode cX11_next 104 = .ok (.aload_n 0, 1) := by decide +kernel
theorem dX11_next_105 : decode cX11_next 105 = .ok (.iconst 0, 1) := by decide +kernel
theorem dX11_next_106 : decode cX11_next 106 = .ok (.putfield 27, 3) := by decide +kernel
theorem dX11_next_109 : decode cX11_next 109 = .ok (.return_, 1) := by decide +kernel
theorem dX11_next_110 : decode cX11_next 110 = .ok (.aload_n 0, 1) := by decide +kernel
theorem dX11_next_111 : decode cX11_next 111 = .ok (.getfield 7, 3) := by decide +kernel
theorem dX11_next_114 : decode cX11_next 114 = .ok (.aload_n 0, 1) := by decide +kernel
theorem dX11_next_115 : decode cX11_next 115 = .ok (.getfield 21, 3) := by decide +kernel
theorem dX11_next_118 : decode cX11_next 118 = .ok (.iaload, 1) := by decide +kernel
theorem dX11_next_119 : decode cX11_next 119 = .ok (.invokestatic 30, 3) := by decide +kernel
theorem dX11_next_122 : decode cX11_next 122 = .ok (.ifCond .ne 37, 3) := by decide +kernel
theorem dX11_next_125 : decode cX11_next 125 = .ok (.aload_n 0, 1) := by decide +kernel
theorem dX11_next_126 : decode cX11_next 126 = .ok (.aload_n 0, 1) := by decide +kernel
theorem dX11_next_127 : decode cX11_next 127 = .ok (.getfield 7, 3) := by decide +kernel
theorem dX11_next_130 : decode cX11_next 130 = .ok (.aload_n 0, 1) := by decide +kernel
theorem dX11_next_131 : decode cX11_next 131 = .ok (.getfield 21, 3) := by decide +kernel
theorem dX11_next_134 : decode cX11_next 134 = .ok (.iaload, 1) := by decide +kernel
theorem dX11_next_135 : decode cX11_next 135 = .ok (.bipush 59, 2) := by decide +kernel
theorem dX11_next_137 : decode cX11_next 137 = .ok (.if_icmp .ne 7, 3) := by decide +kernel
theorem dX11_next_140 : decode cX11_next 140 = .ok (.iconst 3, 1) := by decide +kernel
theorem dX11_next_141 : decode cX11_next 141 = .ok (.goto 4, 3) := by decide +kernel
theorem dX11_next_144 : decode cX11_next 144 = .ok (.iconst 1, 1) := by decide +kernel
theorem dX11_next_145 : decode cX11_next 145 = .ok (.putfield 27, 3) := by decide +kernel
theorem dX11_next_148 : decode cX11_next 148 = .ok (.aload_n 0, 1) := by decide +kernel
theorem dX11_next_149 : decode cX11_next 149 = .ok (.dup, 1) := by decide +kernel
theorem dX11_next_150 : decode cX11_next 150 = .ok (.getfield 21, 3) := by decide +kernel
theorem dX11_next_153 : decode cX11_next 153 = .ok (.iconst 1, 1) := by decide +kernel
theorem dX11_next_154 : decode cX11_next 154 = .ok (.iadd, 1) := by decide +kernel
theorem dX11_next_155 : decode cX11_next 155 = .ok (.putfield 21, 3) := by decide +kernel
theorem dX11_next_158 : decode cX11_next 158 = .ok (.return_, 1) := by decide +kernel
theorem dX11_next_159 : decode cX11_next 159 = .ok (.aload_n 0, 1) := by decide +kernel
theorem dX11_next_160 : decode cX11_next 160 = .ok (.lconst 0, 1) := by decide +kernel
theorem dX11_next_161 : decode cX11_next 161 = .ok (.putfield 34, 3) := by decide +kernel
theorem dX11_next_164 : decode cX11_next 164 = .ok (.aload_n 0, 1) := by decide +kernel
theorem dX11_next_165 : decode cX11_next 165 = .ok (.aload_n 0, 1) := by decide +kernel
theorem dX11_next_166 : decode cX11_next 166 = .ok (.getfield 21, 3) := by decide +kernel
theorem dX11_next_169 : decode cX11_next 169 = .ok (.invokevirtual 38, 3) := by decide +kernel
theorem dX11_next_172 : decode cX11_next 172 = .ok (.invokestatic 30, 3) := by decide +kernel
theorem dX11_next_175 : decode cX11_next 175 = .ok (.ifCond .eq 57, 3) := by decide +kernel
theorem dX11_next_178 : decode cX11_next 178 = .ok (.aload_n 0, 1) := by decide +kernel
theorem dX11_next_179 : decode cX11_next 179 = .ok (.getfield 21, 3) := by decide +kernel
theorem dX11_next_182 : decode cX11_next 182 = .ok (.aload_n 0, 1) := by decide +kernel
theorem dX11_next_183 : decode cX11_next 183 = .ok (.getfield 24, 3) := by decide +kernel
theorem dX11_next_186 : decode cX11_next 186 = .ok (.isub, 1) := by decide +kernel
theorem dX11_next_187 : decode cX11_next 187 = .ok (.bipush 7, 2) := by decide +kernel
theorem dX11_next_189 : decode cX11_next 189 = .ok (.if_icmp .ge 30, 3) := by decide +kernel
theorem dX11_next_192 : decode cX11_next 192 = .ok (.aload_n 0, 1) := by decide +kernel
theorem dX11_next_193 : decode cX11_next 193 = .ok (.ldc2_w 42, 3) := by decide +kernel
theorem dX11_next_196 : decode cX11_next 196 = .ok (.aload_n 0, 1) := by decide +kernel
theorem dX11_next_197 : decode cX11_next 197 = .ok (.getfield 34, 3) := by decide +kernel
theorem dX11_next_200 : decode cX11_next 200 = .ok (.lmul, 1) := by decide +kernel
theorem dX11_next_201 : decode cX11_next 201 = .ok (.aload_n 0, 1) := by decide +kernel
theorem dX11_next_202 : decode cX11_next 202 = .ok (.getfield 7, 3) := by decide +kernel
theorem dX11_next_205 : decode cX11_next 205 = .ok (.aload_n 0, 1) := by decide +kernel
theorem dX11_next_206 : decode cX11_next 206 = .ok (.getfield 21, 3) := by decide +kernel
theorem dX11_next_209 : decode cX11_next 209 = .ok (.iaload, 1) := by decide +kernel
theorem dX11_next_210 : decode cX11_next 210 = .ok (.i2l, 1) := by decide +kernel
theorem dX11_next_211 : decode cX11_next 211 = .ok (.ladd, 1) := by decide +kernel
theorem dX11_next_212 : decode cX11_next 212 = .ok (.ldc2_w 44, 3) := by decide +kernel
theorem dX11_next_215 : decode cX11_next 215 = .ok (.lsub, 1) := by decide +kernel
theorem dX11_next_216 : decode cX11_next 216 = .ok (.putfield 34, 3) := by decide +kernel
theorem dX11_next_219 : decode cX11_next 219 = .ok (.aload_n 0, 1) := by decide +kernel
theorem dX11_next_220 : decode cX11_next 220 = .ok (.dup, 1) := by decide +kernel
theorem dX11_next_221 : decode cX11_next 221 = .ok (.getfield 21, 3) := by decide +kernel
theorem dX11_next_224 : decode cX11_next 224 = .ok (.iconst 1, 1) := by decide +kernel
theorem dX11_next_225 : decode cX11_next 225 = .ok (.iadd, 1) := by decide +kernel
theorem dX11_next_226 : decode cX11_next 226 = .ok (.putfield 21, 3) := by decide +kernel
theorem dX11_next_229 : decode cX11_next 229 = .ok (.goto (-65), 3) := by decide +kernel
theorem dX11_next_232 : decode cX11_next 232 = .ok (.aload_n 0, 1) := by decide +kernel
theorem dX11_next_233 : decode cX11_next 233 = .ok (.aload_n 0, 1) := by decide +kernel
theorem dX11_next_234 : decode cX11_next 234 = .ok (.getfield 21, 3) := by decide +kernel
theorem dX11_next_237 : decode cX11_next 237 = .ok (.aload_n 0, 1) := by decide +kernel
theorem dX11_next_238 : decode cX11_next 238 = .ok (.getfield 24, 3) := by decide +kernel
theorem dX11_next_241 : decode cX11_next 241 = .ok (.isub, 1) := by decide +kernel
theorem dX11_next_242 : decode cX11_next 242 = .ok (.bipush 7, 2) := by decide +kernel
theorem dX11_next_244 : decode cX11_next 244 = .ok (.if_icmp .le 7, 3) := by decide +kernel
theorem dX11_next_247 : decode cX11_next 247 = .ok (.iconst 1, 1) := by decide +kernel
theorem dX11_next_248 : decode cX11_next 248 = .ok (.goto 4, 3) := by decide +kernel
theorem dX11_next_251 : decode cX11_next 251 = .ok (.iconst 2, 1) := by decide +kernel
theorem dX11_next_252 : decode cX11_next 252 = .ok (.putfield 27, 3) := by decide +kernel
theorem dX11_next_255 : decode cX11_next 255 = .ok (.return_, 1) := by decide +kernel
theorem dX11_spelt_0 : decode cX11_spelt 0 = .ok (.ldc2_w 42, 3) := by decide +kernel
theorem dX11_spelt_3 : decode cX11_spelt 3 = .ok (.ldc2_w 42, 3) := by decide +kernel
theorem dX11_spelt_6 : decode cX11_spelt 6 = .ok (.iload_n 0, 1) := by decide +kernel
theorem dX11_spelt_7 : decode cX11_spelt 7 = .ok (.i2l, 1) := by decide +kernel
theorem dX11_spelt_8 : decode cX11_spelt 8 = .ok (.ldc2_w 44, 3) := by decide +kernel
theorem dX11_spelt_11 : decode cX11_spelt 11 = .ok (.lsub, 1) := by decide +kernel
theorem dX11_spelt_12 : decode cX11_spelt 12 = .ok (.lmul, 1) := by decide +kernel
theorem dX11_spelt_13 : decode cX11_spelt 13 = .ok (.iload_n 1, 1) := by decide +kernel
theorem dX11_spelt_14 : decode cX11_spelt 14 = .ok (.i2l, 1) := by decide +kernel
theorem dX11_spelt_15 : decode cX11_spelt 15 = .ok (.ladd, 1) := by decide +kernel
theorem dX11_spelt_16 : decode cX11_spelt 16 = .ok (.ldc2_w 44, 3) := by decide +kernel
theorem dX11_spelt_19 : decode cX11_spelt 19 = .ok (.lsub, 1) := by decide +kernel
theorem dX11_spelt_20 : decode cX11_spelt 20 = .ok (.lmul, 1) := by decide +kernel
theorem dX11_spelt_21 : decode cX11_spelt 21 = .ok (.iload_n 2, 1) := by decide +kernel
theorem dX11_spelt_22 : decode cX11_spelt 22 = .ok (.i2l, 1) := by decide +kernel
theorem dX11_spelt_23 : decode cX11_spelt 23 = .ok (.ladd, 1) := by decide +kernel
theorem dX11_spelt_24 : decode cX11_spelt 24 = .ok (.ldc2_w 44, 3) := by decide +kernel
theorem dX11_spelt_27 : decode cX11_spelt 27 = .ok (.lsub, 1) := by decide +kernel
theorem dX11_spelt_28 : decode cX11_spelt 28 = .ok (.lstore 5, 2) := by decide +kernel
theorem dX11_spelt_30 : decode cX11_spelt 30 = .ok (.iload_n 3, 1) := by decide +kernel
theorem dX11_spelt_31 : decode cX11_spelt 31 = .ok (.ifCond .le 18, 3) := by decide +kernel
theorem dX11_spelt_34 : decode cX11_spelt 34 = .ok (.ldc2_w 42, 3) := by decide +kernel
theorem dX11_spelt_37 : decode cX11_spelt 37 = .ok (.lload 5, 2) := by decide +kernel
theorem dX11_spelt_39 : decode cX11_spelt 39 = .ok (.lmul, 1) := by decide +kernel
theorem dX11_spelt_40 : decode cX11_spelt 40 = .ok (.iload_n 3, 1) := by decide +kernel
theorem dX11_spelt_41 : decode cX11_spelt 41 = .ok (.i2l, 1) := by decide +kernel
theorem dX11_spelt_42 : decode cX11_spelt 42 = .ok (.ladd, 1) := by decide +kernel
theorem dX11_spelt_43 : decode cX11_spelt 43 = .ok (.ldc2_w 44, 3) := by decide +kernel
theorem dX11_spelt_46 : decode cX11_spelt 46 = .ok (.lsub, 1) := by decide +kernel
theorem dX11_spelt_47 : decode cX11_spelt 47 = .ok (.lstore 5, 2) := by decide +kernel
theorem dX11_spelt_49 : decode cX11_spelt 49 = .ok (.iload 4, 2) := by decide +kernel
theorem dX11_spelt_51 : decode cX11_spelt 51 = .ok (.ifCond .le 20, 3) := by decide +kernel
theorem dX11_spelt_54 : decode cX11_spelt 54 = .ok (.ldc2_w 42, 3) := by decide +kernel
theorem dX11_spelt_57 : decode cX11_spelt 57 = .ok (.lload 5, 2) := by decide +kernel
theorem dX11_spelt_59 : decode cX11_spelt 59 = .ok (.lmul, 1) := by decide +kernel
theorem dX11_spelt_60 : decode cX11_spelt 60 = .ok (.iload 4, 2) := by decide +kernel
theorem dX11_spelt_62 : decode cX11_spelt 62 = .ok (.i2l, 1) := by decide +kernel
theorem dX11_spelt_63 : decode cX11_spelt 63 = .ok (.ladd, 1) := by decide +kernel
theorem dX11_spelt_64 : decode cX11_spelt 64 = .ok (.ldc2_w 44, 3) := by decide +kernel
theorem dX11_spelt_67 : decode cX11_spelt 67 = .ok (.lsub, 1) := by decide +kernel
theorem dX11_spelt_68 : decode cX11_spelt 68 = .ok (.goto 5, 3) := by decide +kernel
theorem dX11_spelt_71 : decode cX11_spelt 71 = .ok (.lload 5, 2) := by decide +kernel
theorem dX11_spelt_73 : decode cX11_spelt 73 = .ok (.lreturn, 1) := by decide +kernel
theorem dX11_isPointWord_0 : decode cX11_isPointWord 0 = .ok (.aload_n 0, 1) := by decide +kernel
theorem dX11_isPointWord_1 : decode cX11_isPointWord 1 = .ok (.getfield 27, 3) := by decide +kernel
theorem dX11_isPointWord_4 : decode cX11_isPointWord 4 = .ok (.iconst 2, 1) := by decide +kernel
theorem dX11_isPointWord_5 : decode cX11_isPointWord 5 = .ok (.if_icmp .ne 28, 3) := by decide +kernel
theorem dX11_isPointWord_8 : decode cX11_isPointWord 8 = .ok (.aload_n 0, 1) := by decide +kernel
theorem dX11_isPointWord_9 : decode cX11_isPointWord 9 = .ok (.getfield 34, 3) := by decide +kernel
theorem dX11_isPointWord_12 : decode cX11_isPointWord 12 = .ok (.bipush 112, 2) := by decide +kernel
theorem dX11_isPointWord_14 : decode cX11_isPointWord 14 = .ok (.bipush 111, 2) := by decide +kernel
theorem dX11_isPointWord_16 : decode cX11_isPointWord 16 = .ok (.bipush 105, 2) := by decide +kernel
theorem dX11_isPointWord_18 : decode cX11_isPointWord 18 = .ok (.bipush 110, 2) := by decide +kernel
theorem dX11_isPointWord_20 : decode cX11_isPointWord 20 = .ok (.bipush 116, 2) := by decide +kernel
theorem dX11_isPointWord_22 : decode cX11_isPointWord 22 = .ok (.invokestatic 46, 3) := by decide +kernel
theorem dX11_isPointWord_25 : decode cX11_isPointWord 25 = .ok (.lcmp, 1) := by decide +kernel
theorem dX11_isPointWord_26 : decode cX11_isPointWord 26 = .ok (.ifCond .ne 7, 3) := by decide +kernel
theorem dX11_isPointWord_29 : decode cX11_isPointWord 29 = .ok (.iconst 1, 1) := by decide +kernel
theorem dX11_isPointWord_30 : decode cX11_isPointWord 30 = .ok (.goto 4, 3) := by decide +kernel
theorem dX11_isPointWord_33 : decode cX11_isPointWord 33 = .ok (.iconst 0, 1) := by decide +kernel
theorem dX11_isPointWord_34 : decode cX11_isPointWord 34 = .ok (.ireturn, 1) := by decide +kernel
theorem dX11_isArcWord_0 : decode cX11_isArcWord 0 = .ok (.aload_n 0, 1) := by decide +kernel
theorem dX11_isArcWord_1 : decode cX11_isArcWord 1 = .ok (.getfield 27, 3) := by decide +kernel
theorem dX11_isArcWord_4 : decode cX11_isArcWord 4 = .ok (.iconst 2, 1) := by decide +kernel
theorem dX11_isArcWord_5 : decode cX11_isArcWord 5 = .ok (.if_icmp .ne 26, 3) := by decide +kernel
theorem dX11_isArcWord_8 : decode cX11_isArcWord 8 = .ok (.aload_n 0, 1) := by decide +kernel
theorem dX11_isArcWord_9 : decode cX11_isArcWord 9 = .ok (.getfield 34, 3) := by decide +kernel
theorem dX11_isArcWord_12 : decode cX11_isArcWord 12 = .ok (.bipush 97, 2) := by decide +kernel
theorem dX11_isArcWord_14 : decode cX11_isArcWord 14 = .ok (.bipush 114, 2) := by decide +kernel
theorem dX11_isArcWord_16 : decode cX11_isArcWord 16 = .ok (.bipush 99, 2) := by decide +kernel
theorem dX11_isArcWord_18 : decode cX11_isArcWord 18 = .ok (.iconst 0, 1) := by decide +kernel
theorem dX11_isArcWord_19 : decode cX11_isArcWord 19 = .ok (.iconst 0, 1) := by decide +kernel
theorem dX11_isArcWord_20 : decode cX11_isArcWord 20 = .ok (.invokestatic 46, 3) := by decide +kernel
theorem dX11_isArcWord_23 : decode cX11_isArcWord 23 = .ok (.lcmp, 1) := by decide +kernel
theorem dX11_isArcWord_24 : decode cX11_isArcWord 24 = .ok (.ifCond .ne 7, 3) := by decide +kernel
theorem dX11_isArcWord_27 : decode cX11_isArcWord 27 = .ok (.iconst 1, 1) := by decide +kernel
theorem dX11_isArcWord_28 : decode cX11_isArcWord 28 = .ok (.goto 4, 3) := by decide +kernel
theorem dX11_isArcWord_31 : decode cX11_isArcWord 31 = .ok (.iconst 0, 1) := by decide +kernel
theorem dX11_isArcWord_32 : decode cX11_isArcWord 32 = .ok (.ireturn, 1) := by decide +kernel
theorem dX11_isName_0 : decode cX11_isName 0 = .ok (.aload_n 0, 1) := by decide +kernel
theorem dX11_isName_1 : decode cX11_isName 1 = .ok (.getfield 27, 3) := by decide +kernel
theorem dX11_isName_4 : decode cX11_isName 4 = .ok (.iconst 2, 1) := by decide +kernel
theorem dX11_isName_5 : decode cX11_isName 5 = .ok (.if_icmp .ne 21, 3) := by decide +kernel
theorem dX11_isName_8 : decode cX11_isName 8 = .ok (.aload_n 0, 1) := by decide +kernel
theorem dX11_isName_9 : decode cX11_isName 9 = .ok (.invokevirtual 50, 3) := by decide +kernel
theorem dX11_isName_12 : decode cX11_isName 12 = .ok (.ifCond .ne 14, 3) := by decide +kernel
theorem dX11_isName_15 : decode cX11_isName 15 = .ok (.aload_n 0, 1) := by decide +kernel
theorem dX11_isName_16 : decode cX11_isName 16 = .ok (.invokevirtual 54, 3) := by decide +kernel
theorem dX11_isName_19 : decode cX11_isName 19 = .ok (.ifCond .ne 7, 3) := by decide +kernel
theorem dX11_isName_22 : decode cX11_isName 22 = .ok (.iconst 1, 1) := by decide +kernel
theorem dX11_isName_23 : decode cX11_isName 23 = .ok (.goto 4, 3) := by decide +kernel
theorem dX11_isName_26 : decode cX11_isName 26 = .ok (.iconst 0, 1) := by decide +kernel
theorem dX11_isName_27 : decode cX11_isName 27 = .ok (.ireturn, 1) := by decide +kernel
theorem dX11_bad_0 : decode cX11_bad 0 = .ok (.aload_n 0, 1) := by decide +kernel
theorem dX11_bad_1 : decode cX11_bad 1 = .ok (.aload_n 0, 1) := by decide +kernel
theorem dX11_bad_2 : decode cX11_bad 2 = .ok (.getfield 27, 3) := by decide +kernel
theorem dX11_bad_5 : decode cX11_bad 5 = .ok (.iconst 1, 1) := by decide +kernel
theorem dX11_bad_6 : decode cX11_bad 6 = .ok (.if_icmp .ne 7, 3) := by decide +kernel
theorem dX11_bad_9 : decode cX11_bad 9 = .ok (.iconst 1, 1) := by decide +kernel
theorem dX11_bad_10 : decode cX11_bad 10 = .ok (.goto 4, 3) := by decide +kernel
theorem dX11_bad_13 : decode cX11_bad 13 = .ok (.iload_n 1, 1) := by decide +kernel
theorem dX11_bad_14 : decode cX11_bad 14 = .ok (.putfield 57, 3) := by decide +kernel
theorem dX11_bad_17 : decode cX11_bad 17 = .ok (.aload_n 0, 1) := by decide +kernel
theorem dX11_bad_18 : decode cX11_bad 18 = .ok (.aload_n 0, 1) := by decide +kernel
theorem dX11_bad_19 : decode cX11_bad 19 = .ok (.getfield 24, 3) := by decide +kernel
theorem dX11_bad_22 : decode cX11_bad 22 = .ok (.putfield 60, 3) := by decide +kernel
theorem dX11_bad_25 : decode cX11_bad 25 = .ok (.iconst 0, 1) := by decide +kernel
theorem dX11_bad_26 : decode cX11_bad 26 = .ok (.ireturn, 1) := by decide +kernel
theorem dX11_init_0 : decode cX11_init 0 = .ok (.aload_n 0, 1) := by decide +kernel
theorem dX11_init_1 : decode cX11_init 1 = .ok (.invokespecial 63, 3) := by decide +kernel
theorem dX11_init_4 : decode cX11_init 4 = .ok (.aload_n 0, 1) := by decide +kernel
theorem dX11_init_5 : decode cX11_init 5 = .ok (.sipush 540, 3) := by decide +kernel
theorem dX11_init_8 : decode cX11_init 8 = .ok (.newarray .int, 2) := by decide +kernel
theorem dX11_init_10 : decode cX11_init 10 = .ok (.putfield 7, 3) := by decide +kernel
theorem dX11_init_13 : decode cX11_init 13 = .ok (.aload_n 0, 1) := by decide +kernel
theorem dX11_init_14 : decode cX11_init 14 = .ok (.bipush 34, 2) := by decide +kernel
theorem dX11_init_16 : decode cX11_init 16 = .ok (.newarray .int, 2) := by decide +kernel
theorem dX11_init_18 : decode cX11_init 18 = .ok (.putfield 69, 3) := by decide +kernel
theorem dX11_init_21 : decode cX11_init 21 = .ok (.aload_n 0, 1) := by decide +kernel
theorem dX11_init_22 : decode cX11_init 22 = .ok (.bipush 34, 2) := by decide +kernel
theorem dX11_init_24 : decode cX11_init 24 = .ok (.newarray .int, 2) := by decide +kernel
theorem dX11_init_26 : decode cX11_init 26 = .ok (.putfield 72, 3) := by decide +kernel
theorem dX11_init_29 : decode cX11_init 29 = .ok (.aload_n 0, 1) := by decide +kernel
theorem dX11_init_30 : decode cX11_init 30 = .ok (.bipush 68, 2) := by decide +kernel
theorem dX11_init_32 : decode cX11_init 32 = .ok (.newarray .int, 2) := by decide +kernel
theorem dX11_init_34 : decode cX11_init 34 = .ok (.putfield 75, 3) := by decide +kernel
theorem dX11_init_37 : decode cX11_init 37 = .ok (.aload_n 0, 1) := by decide +kernel
theorem dX11_init_38 : decode cX11_init 38 = .ok (.sipush 272, 3) := by decide +kernel
theorem dX11_init_41 : decode cX11_init 41 = .ok (.newarray .int, 2) := by decide +kernel
theorem dX11_init_43 : decode cX11_init 43 = .ok (.putfield 78, 3) := by decide +kernel
theorem dX11_init_46 : decode cX11_init 46 = .ok (.aload_n 0, 1) := by decide +kernel
theorem dX11_init_47 : decode cX11_init 47 = .ok (.bipush 34, 2) := by decide +kernel
theorem dX11_init_49 : decode cX11_init 49 = .ok (.newarray .int, 2) := by decide +kernel
theorem dX11_init_51 : decode cX11_init 51 = .ok (.putfield 81, 3) := by decide +kernel
theorem dX11_init_54 : decode cX11_init 54 = .ok (.aload_n 0, 1) := by decide +kernel
theorem dX11_init_55 : decode cX11_init 55 = .ok (.bipush 34, 2) := by decide +kernel
theorem dX11_init_57 : decode cX11_init 57 = .ok (.newarray .int, 2) := by decide +kernel
theorem dX11_init_59 : decode cX11_init 59 = .ok (.putfield 84, 3) := by decide +kernel
theorem dX11_init_62 : decode cX11_init 62 = .ok (.aload_n 0, 1) := by decide +kernel
theorem dX11_init_63 : decode cX11_init 63 = .ok (.bipush 34, 2) := by decide +kernel
theorem dX11_init_65 : decode cX11_init 65 = .ok (.newarray .int, 2) := by decide +kernel
theorem dX11_init_67 : decode cX11_init 67 = .ok (.putfield 87, 3) := by decide +kernel
theorem dX11_init_70 : decode cX11_init 70 = .ok (.aload_n 0, 1) := by decide +kernel
theorem dX11_init_71 : decode cX11_init 71 = .ok (.bipush 8, 2) := by decide +kernel
theorem dX11_init_73 : decode cX11_init 73 = .ok (.newarray .long, 2) := by decide +kernel
theorem dX11_init_75 : decode cX11_init 75 = .ok (.putfield 90, 3) := by decide +kernel
theorem dX11_init_78 : decode cX11_init 78 = .ok (.aload_n 0, 1) := by decide +kernel
theorem dX11_init_79 : decode cX11_init 79 = .ok (.iconst 2, 1) := by decide +kernel
theorem dX11_init_80 : decode cX11_init 80 = .ok (.newarray .boolean, 2) := by decide +kernel
theorem dX11_init_82 : decode cX11_init 82 = .ok (.putfield 94, 3) := by decide +kernel
theorem dX11_init_85 : decode cX11_init 85 = .ok (.aload_n 0, 1) := by decide +kernel
theorem dX11_init_86 : decode cX11_init 86 = .ok (.sipush 1024, 3) := by decide +kernel
theorem dX11_init_89 : decode cX11_init 89 = .ok (.newarray .int, 2) := by decide +kernel
theorem dX11_init_91 : decode cX11_init 91 = .ok (.putfield 98, 3) := by decide +kernel
theorem dX11_init_94 : decode cX11_init 94 = .ok (.aload_n 0, 1) := by decide +kernel
theorem dX11_init_95 : decode cX11_init 95 = .ok (.ldc 101, 2) := by decide +kernel
theorem dX11_init_97 : decode cX11_init 97 = .ok (.newarray .long, 2) := by decide +kernel
theorem dX11_init_99 : decode cX11_init 99 = .ok (.putfield 102, 3) := by decide +kernel
theorem dX11_init_102 : decode cX11_init 102 = .ok (.aload_n 0, 1) := by decide +kernel
theorem dX11_init_103 : decode cX11_init 103 = .ok (.bipush 8, 2) := by decide +kernel
theorem dX11_init_105 : decode cX11_init 105 = .ok (.newarray .int, 2) := by decide +kernel
theorem dX11_init_107 : decode cX11_init 107 = .ok (.putfield 105, 3) := by decide +kernel
theorem dX11_init_110 : decode cX11_init 110 = .ok (.aload_n 0, 1) := by decide +kernel
theorem dX11_init_111 : decode cX11_init 111 = .ok (.bipush 16, 2) := by decide +kernel
theorem dX11_init_113 : decode cX11_init 113 = .ok (.newarray .int, 2) := by decide +kernel
theorem dX11_init_115 : decode cX11_init 115 = .ok (.putfield 108, 3) := by decide +kernel
theorem dX11_init_118 : decode cX11_init 118 = .ok (.aload_n 0, 1) := by decide +kernel
theorem dX11_init_119 : decode cX11_init 119 = .ok (.bipush 16, 2) := by decide +kernel
theorem dX11_init_121 : decode cX11_init 121 = .ok (.newarray .int, 2) := by decide +kernel
theorem dX11_init_123 : decode cX11_init 123 = .ok (.putfield 111, 3) := by decide +kernel
theorem dX11_init_126 : decode cX11_init 126 = .ok (.aload_n 0, 1) := by decide +kernel
theorem dX11_init_127 : decode cX11_init 127 = .ok (.iconst (-1), 1) := by decide +kernel
theorem dX11_init_128 : decode cX11_init 128 = .ok (.putfield 114, 3) := by decide +kernel
theorem dX11_init_131 : decode cX11_init 131 = .ok (.aload_n 0, 1) := by decide +kernel
theorem dX11_init_132 : decode cX11_init 132 = .ok (.bipush 17, 2) := by decide +kernel
theorem dX11_init_134 : decode cX11_init 134 = .ok (.newarray .int, 2) := by decide +kernel
theorem dX11_init_136 : decode cX11_init 136 = .ok (.putfield 117, 3) := by decide +kernel
theorem dX11_init_139 : decode cX11_init 139 = .ok (.aload_n 0, 1) := by decide +kernel
theorem dX11_init_140 : decode cX11_init 140 = .ok (.bipush 17, 2) := by decide +kernel
theorem dX11_init_142 : decode cX11_init 142 = .ok (.newarray .int, 2) := by decide +kernel
theorem dX11_init_144 : decode cX11_init 144 = .ok (.putfield 120, 3) := by decide +kernel
theorem dX11_init_147 : decode cX11_init 147 = .ok (.aload_n 0, 1) := by decide +kernel
theorem dX11_init_148 : decode cX11_init 148 = .ok (.bipush 9, 2) := by decide +kernel
theorem dX11_init_150 : decode cX11_init 150 = .ok (.newarray .int, 2) := by decide +kernel
theorem dX11_init_152 : decode cX11_init 152 = .ok (.putfield 123, 3) := by decide +kernel
theorem dX11_init_155 : decode cX11_init 155 = .ok (.aload_n 0, 1) := by decide +kernel
theorem dX11_init_156 : decode cX11_init 156 = .ok (.bipush 16, 2) := by decide +kernel
theorem dX11_init_158 : decode cX11_init 158 = .ok (.newarray .int, 2) := by decide +kernel
theorem dX11_init_160 : decode cX11_init 160 = .ok (.putfield 126, 3) := by decide +kernel
theorem dX11_init_163 : decode cX11_init 163 = .ok (.aload_n 0, 1) := by decide +kernel
theorem dX11_init_164 : decode cX11_init 164 = .ok (.bipush 8, 2) := by decide +kernel
theorem dX11_init_166 : decode cX11_init 166 = .ok (.newarray .int, 2) := by decide +kernel
theorem dX11_init_168 : decode cX11_init 168 = .ok (.putfield 129, 3) := by decide +kernel
theorem dX11_init_171 : decode cX11_init 171 = .ok (.aload_n 0, 1) := by decide +kernel
theorem dX11_init_172 : decode cX11_init 172 = .ok (.bipush 8, 2) := by decide +kernel
theorem dX11_init_174 : decode cX11_init 174 = .ok (.newarray .int, 2) := by decide +kernel
theorem dX11_init_176 : decode cX11_init 176 = .ok (.putfield 132, 3) := by decide +kernel
theorem dX11_init_179 : decode cX11_init 179 = .ok (.return_, 1) := by decide +kernel
theorem dX11_copy_0 : decode cX11_copy 0 = .ok (.iconst 0, 1) := by decide +kernel
theorem dX11_copy_1 : decode cX11_copy 1 = .ok (.istore 4, 2) := by decide +kernel
theorem dX11_copy_3 : decode cX11_copy 3 = .ok (.iload 4, 2) := by decide +kernel
theorem dX11_copy_5 : decode cX11_copy 5 = .ok (.bipush 34, 2) := by decide +kernel
theorem dX11_copy_7 : decode cX11_copy 7 = .ok (.if_icmp .ge 21, 3) := by decide +kernel
theorem dX11_copy_10 : decode cX11_copy 10 = .ok (.aload_n 2, 1) := by decide +kernel
theorem dX11_copy_11 : decode cX11_copy 11 = .ok (.iload_n 3, 1) := by decide +kernel
theorem dX11_copy_12 : decode cX11_copy 12 = .ok (.iload 4, 2) := by decide +kernel
theorem dX11_copy_14 : decode cX11_copy 14 = .ok (.iadd, 1) := by decide +kernel
theorem dX11_copy_15 : decode cX11_copy 15 = .ok (.aload_n 0, 1) := by decide +kernel
theorem dX11_copy_16 : decode cX11_copy 16 = .ok (.iload_n 1, 1) := by decide +kernel
theorem dX11_copy_17 : decode cX11_copy 17 = .ok (.iload 4, 2) := by decide +kernel
theorem dX11_copy_19 : decode cX11_copy 19 = .ok (.iadd, 1) := by decide +kernel
theorem dX11_copy_20 : decode cX11_copy 20 = .ok (.iaload, 1) := by decide +kernel
theorem dX11_copy_21 : decode cX11_copy 21 = .ok (.iastore, 1) := by decide +kernel
theorem dX11_copy_22 : decode cX11_copy 22 = .ok (.iinc 4 1, 3) := by decide +kernel
theorem dX11_copy_25 : decode cX11_copy 25 = .ok (.goto (-22), 3) := by decide +kernel
theorem dX11_copy_28 : decode cX11_copy 28 = .ok (.return_, 1) := by decide +kernel
theorem dX11_named_0 : decode cX11_named 0 = .ok (.iconst 0, 1) := by decide +kernel
theorem dX11_named_1 : decode cX11_named 1 = .ok (.istore_n 1, 1) := by decide +kernel
theorem dX11_named_2 : decode cX11_named 2 = .ok (.iload_n 1, 1) := by decide +kernel
theorem dX11_named_3 : decode cX11_named 3 = .ok (.aload_n 0, 1) := by decide +kernel
theorem dX11_named_4 : decode cX11_named 4 = .ok (.getfield 72, 3) := by decide +kernel
theorem dX11_named_7 : decode cX11_named 7 = .ok (.iconst 0, 1) := by decide +kernel
theorem dX11_named_8 : decode cX11_named 8 = .ok (.iaload, 1) := by decide +kernel
theorem dX11_named_9 : decode cX11_named 9 = .ok (.if_icmp .ge 25, 3) := by decide +kernel
theorem dX11_named_12 : decode cX11_named 12 = .ok (.aload_n 0, 1) := by decide +kernel
theorem dX11_named_13 : decode cX11_named 13 = .ok (.getfield 90, 3) := by decide +kernel
theorem dX11_named_16 : decode cX11_named 16 = .ok (.iload_n 1, 1) := by decide +kernel
theorem dX11_named_17 : decode cX11_named 17 = .ok (.laload, 1) := by decide +kernel
theorem dX11_named_18 : decode cX11_named 18 = .ok (.aload_n 0, 1) := by decide +kernel
theorem dX11_named_19 : decode cX11_named 19 = .ok (.getfield 34, 3) := by decide +kernel
theorem dX11_named_22 : decode cX11_named 22 = .ok (.lcmp, 1) := by decide +kernel
theorem dX11_named_23 : decode cX11_named 23 = .ok (.ifCond .ne 5, 3) := by decide +kernel
theorem dX11_named_26 : decode cX11_named 26 = .ok (.iload_n 1, 1) := by decide +kernel
theorem dX11_named_27 : decode cX11_named 27 = .ok (.ireturn, 1) := by decide +kernel
theorem dX11_named_28 : decode cX11_named 28 = .ok (.iinc 1 1, 3) := by decide +kernel
theorem dX11_named_31 : decode cX11_named 31 = .ok (.goto (-29), 3) := by decide +kernel
theorem dX11_named_34 : decode cX11_named 34 = .ok (.iconst (-1), 1) := by decide +kernel
theorem dX11_named_35 : decode cX11_named 35 = .ok (.ireturn, 1) := by decide +kernel
theorem dX11_readPoint_0 : decode cX11_readPoint 0 = .ok (.aload_n 0, 1) := by decide +kernel
theorem dX11_readPoint_1 : decode cX11_readPoint 1 = .ok (.getfield 72, 3) := by decide +kernel
theorem dX11_readPoint_4 : decode cX11_readPoint 4 = .ok (.iconst 0, 1) := by decide +kernel
theorem dX11_readPoint_5 : decode cX11_readPoint 5 = .ok (.iaload, 1) := by decide +kernel
theorem dX11_readPoint_6 : decode cX11_readPoint 6 = .ok (.bipush 8, 2) := by decide +kernel
theorem dX11_readPoint_8 : decode cX11_readPoint 8 = .ok (.if_icmp .ne 9, 3) := by decide +kernel
theorem dX11_readPoint_11 : decode cX11_readPoint 11 = .ok (.aload_n 0, 1) := by decide +kernel
theorem dX11_readPoint_12 : decode cX11_readPoint 12 = .ok (.iconst 3, 1) := by decide +kernel
theorem dX11_readPoint_13 : decode cX11_readPoint 13 = .ok (.invokevirtual 135, 3) := by decide +kernel
theorem dX11_readPoint_16 : decode cX11_readPoint 16 = .ok (.ireturn, 1) := by decide +kernel
theorem dX11_readPoint_17 : decode cX11_readPoint 17 = .ok (.aload_n 0, 1) := by decide +kernel
theorem dX11_readPoint_18 : decode cX11_readPoint 18 = .ok (.invokevirtual 138, 3) := by decide +kernel
theorem dX11_readPoint_21 : decode cX11_readPoint 21 = .ok (.aload_n 0, 1) := by decide +kernel
theorem dX11_readPoint_22 : decode cX11_readPoint 22 = .ok (.invokevirtual 141, 3) := by decide +kernel
theorem dX11_readPoint_25 : decode cX11_readPoint 25 = .ok (.ifCond .ne 9, 3) := by decide +kernel
theorem dX11_readPoint_28 : decode cX11_readPoint 28 = .ok (.aload_n 0, 1) := by decide +kernel
theorem dX11_readPoint_29 : decode cX11_readPoint 29 = .ok (.iconst 1, 1) := by decide +kernel
theorem dX11_readPoint_30 : decode cX11_readPoint 30 = .ok (.invokevirtual 135, 3) := by decide +kernel
theorem dX11_readPoint_33 : decode cX11_readPoint 33 = .ok (.ireturn, 1) := by decide +kernel
theorem dX11_readPoint_34 : decode cX11_readPoint 34 = .ok (.aload_n 0, 1) := by decide +kernel
theorem dX11_readPoint_35 : decode cX11_readPoint 35 = .ok (.invokevirtual 144, 3) := by decide +kernel
theorem dX11_readPoint_38 : decode cX11_readPoint 38 = .ok (.iconst (-1), 1) := by decide +kernel
theorem dX11_readPoint_39 : decode cX11_readPoint 39 = .ok (.if_icmp .eq 9, 3) := by decide +kernel
theorem dX11_readPoint_42 : decode cX11_readPoint 42 = .ok (.aload_n 0, 1) := by decide +kernel
theorem dX11_readPoint_43 : decode cX11_readPoint 43 = .ok (.iconst 2, 1) := by decide +kernel
theorem dX11_readPoint_44 : decode cX11_readPoint 44 = .ok (.invokevirtual 135, 3) := by decide +kernel
theorem dX11_readPoint_47 : decode cX11_readPoint 47 = .ok (.ireturn, 1) := by decide +kernel
theorem dX11_readPoint_48 : decode cX11_readPoint 48 = .ok (.aload_n 0, 1) := by decide +kernel
theorem dX11_readPoint_49 : decode cX11_readPoint 49 = .ok (.getfield 90, 3) := by decide +kernel
theorem dX11_readPoint_52 : decode cX11_readPoint 52 = .ok (.aload_n 0, 1) := by decide +kernel
theorem dX11_readPoint_53 : decode cX11_readPoint 53 = .ok (.getfield 72, 3) := by decide +kernel
theorem dX11_readPoint_56 : decode cX11_readPoint 56 = .ok (.iconst 0, 1) := by decide +kernel
theorem dX11_readPoint_57 : decode cX11_readPoint 57 = .ok (.iaload, 1) := by decide +kernel
theorem dX11_readPoint_58 : decode cX11_readPoint 58 = .ok (.aload_n 0, 1) := by decide +kernel
theorem dX11_readPoint_59 : decode cX11_readPoint 59 = .ok (.getfield 34, 3) := by decide +kernel
theorem dX11_readPoint_62 : decode cX11_readPoint 62 = .ok (.lastore, 1) := by decide +kernel
theorem dX11_readPoint_63 : decode cX11_readPoint 63 = .ok (.aload_n 0, 1) := by decide +kernel
theorem dX11_readPoint_64 : decode cX11_readPoint 64 = .ok (.getfield 72, 3) := by decide +kernel
theorem dX11_readPoint_67 : decode cX11_readPoint 67 = .ok (.iconst 0, 1) := by decide +kernel
theorem dX11_readPoint_68 : decode cX11_readPoint 68 = .ok (.dup2, 1) := by decide +kernel
theorem dX11_readPoint_69 : decode cX11_readPoint 69 = .ok (.iaload, 1) := by decide +kernel
theorem dX11_readPoint_70 : decode cX11_readPoint 70 = .ok (.iconst 1, 1) := by decide +kernel
theorem dX11_readPoint_71 : decode cX11_readPoint 71 = .ok (.iadd, 1) := by decide +kernel
theorem dX11_readPoint_72 : decode cX11_readPoint 72 = .ok (.iastore, 1) := by decide +kernel
theorem dX11_readPoint_73 : decode cX11_readPoint 73 = .ok (.aload_n 0, 1) := by decide +kernel
theorem dX11_readPoint_74 : decode cX11_readPoint 74 = .ok (.invokevirtual 138, 3) := by decide +kernel
theorem dX11_readPoint_77 : decode cX11_readPoint 77 = .ok (.iconst 1, 1) := by decide +kernel
theorem dX11_readPoint_78 : decode cX11_readPoint 78 = .ok (.ireturn, 1) := by decide +kernel
theorem dX11_readArc_0 : decode cX11_readArc 0 = .ok (.aload_n 0, 1) := by decide +kernel
theorem dX11_readArc_1 : decode cX11_readArc 1 = .ok (.getfield 72, 3) := by decide +kernel
theorem dX11_readArc_4 : decode cX11_readArc 4 = .ok (.iconst 1, 1) := by decide +kernel
theorem dX11_readArc_5 : decode cX11_readArc 5 = .ok (.iaload, 1) := by decide +kernel
theorem dX11_readArc_6 : decode cX11_readArc 6 = .ok (.bipush 16, 2) := by decide +kernel
theorem dX11_readArc_8 : decode cX11_readArc 8 = .ok (.if_icmp .ne 9, 3) := by decide +kernel
theorem dX11_readArc_11 : decode cX11_readArc 11 = .ok (.aload_n 0, 1) := by decide +kernel
theorem dX11_readArc_12 : decode cX11_readArc 12 = .ok (.iconst 3, 1) := by decide +kernel
theorem dX11_readArc_13 : decode cX11_readArc 13 = .ok (.invokevirtual 135, 3) := by decide +kernel
theorem dX11_readArc_16 : decode cX11_readArc 16 = .ok (.ireturn, 1) := by decide +kernel
theorem dX11_readArc_17 : decode cX11_readArc 17 = .ok (.aload_n 0, 1) := by decide +kernel
theorem dX11_readArc_18 : decode cX11_readArc 18 = .ok (.invokevirtual 138, 3) := by decide +kernel
theorem dX11_readArc_21 : decode cX11_readArc 21 = .ok (.aload_n 0, 1) := by decide +kernel
theorem dX11_readArc_22 : decode cX11_readArc 22 = .ok (.invokevirtual 141, 3) := by decide +kernel
theorem dX11_readArc_25 : decode cX11_readArc 25 = .ok (.ifCond .ne 9, 3) := by decide +kernel
theorem dX11_readArc_28 : decode cX11_readArc 28 = .ok (.aload_n 0, 1) := by decide +kernel
theorem dX11_readArc_29 : decode cX11_readArc 29 = .ok (.iconst 1, 1) := by decide +kernel
theorem dX11_readArc_30 : decode cX11_readArc 30 = .ok (.invokevirtual 135, 3) := by decide +kernel
theorem dX11_readArc_33 : decode cX11_readArc 33 = .ok (.ireturn, 1) := by decide +kernel
theorem dX11_readArc_34 : decode cX11_readArc 34 = .ok (.aload_n 0, 1) := by decide +kernel
theorem dX11_readArc_35 : decode cX11_readArc 35 = .ok (.invokevirtual 144, 3) := by decide +kernel
theorem dX11_readArc_38 : decode cX11_readArc 38 = .ok (.istore_n 1, 1) := by decide +kernel
theorem dX11_readArc_39 : decode cX11_readArc 39 = .ok (.iload_n 1, 1) := by decide +kernel
theorem dX11_readArc_40 : decode cX11_readArc 40 = .ok (.iconst (-1), 1) := by decide +kernel
theorem dX11_readArc_41 : decode cX11_readArc 41 = .ok (.if_icmp .ne 9, 3) := by decide +kernel
theorem dX11_readArc_44 : decode cX11_readArc 44 = .ok (.aload_n 0, 1) := by decide +kernel
theorem dX11_readArc_45 : decode cX11_readArc 45 = .ok (.iconst 2, 1) := by decide +kernel
theorem dX11_readArc_46 : decode cX11_readArc 46 = .ok (.invokevirtual 135, 3) := by decide +kernel
theorem dX11_readArc_49 : decode cX11_readArc 49 = .ok (.ireturn, 1) := by decide +kernel
theorem dX11_readArc_50 : decode cX11_readArc 50 = .ok (.aload_n 0, 1) := by decide +kernel
theorem dX11_readArc_51 : decode cX11_readArc 51 = .ok (.invokevirtual 138, 3) := by decide +kernel
theorem dX11_readArc_54 : decode cX11_readArc 54 = .ok (.aload_n 0, 1) := by decide +kernel
theorem dX11_readArc_55 : decode cX11_readArc 55 = .ok (.invokevirtual 141, 3) := by decide +kernel
theorem dX11_readArc_58 : decode cX11_readArc 58 = .ok (.ifCond .ne 9, 3) := by decide +kernel
theorem dX11_readArc_61 : decode cX11_readArc 61 = .ok (.aload_n 0, 1) := by decide +kernel
theorem dX11_readArc_62 : decode cX11_readArc 62 = .ok (.iconst 1, 1) := by decide +kernel
theorem dX11_readArc_63 : decode cX11_readArc 63 = .ok (.invokevirtual 135, 3) := by decide +kernel
theorem dX11_readArc_66 : decode cX11_readArc 66 = .ok (.ireturn, 1) := by decide +kernel
theorem dX11_readArc_67 : decode cX11_readArc 67 = .ok (.aload_n 0, 1) := by decide +kernel
theorem dX11_readArc_68 : decode cX11_readArc 68 = .ok (.invokevirtual 144, 3) := by decide +kernel
theorem dX11_readArc_71 : decode cX11_readArc 71 = .ok (.istore_n 2, 1) := by decide +kernel
theorem dX11_readArc_72 : decode cX11_readArc 72 = .ok (.iload_n 2, 1) := by decide +kernel
theorem dX11_readArc_73 : decode cX11_readArc 73 = .ok (.iconst (-1), 1) := by decide +kernel
theorem dX11_readArc_74 : decode cX11_readArc 74 = .ok (.if_icmp .ne 9, 3) := by decide +kernel
theorem dX11_readArc_77 : decode cX11_readArc 77 = .ok (.aload_n 0, 1) := by decide +kernel
theorem dX11_readArc_78 : decode cX11_readArc 78 = .ok (.iconst 2, 1) := by decide +kernel
theorem dX11_readArc_79 : decode cX11_readArc 79 = .ok (.invokevirtual 135, 3) := by decide +kernel
theorem dX11_readArc_82 : decode cX11_readArc 82 = .ok (.ireturn, 1) := by decide +kernel
theorem dX11_readArc_83 : decode cX11_readArc 83 = .ok (.aload_n 0, 1) := by decide +kernel
theorem dX11_readArc_84 : decode cX11_readArc 84 = .ok (.getfield 72, 3) := by decide +kernel
theorem dX11_readArc_87 : decode cX11_readArc 87 = .ok (.iload_n 1, 1) := by decide +kernel
theorem dX11_readArc_88 : decode cX11_readArc 88 = .ok (.iload_n 2, 1) := by decide +kernel
theorem dX11_readArc_89 : decode cX11_readArc 89 = .ok (.invokestatic 148, 3) := by decide +kernel
theorem dX11_readArc_92 : decode cX11_readArc 92 = .ok (.aload_n 0, 1) := by decide +kernel
theorem dX11_readArc_93 : decode cX11_readArc 93 = .ok (.invokevirtual 138, 3) := by decide +kernel
theorem dX11_readArc_96 : decode cX11_readArc 96 = .ok (.iconst 1, 1) := by decide +kernel
theorem dX11_readArc_97 : decode cX11_readArc 97 = .ok (.ireturn, 1) := by decide +kernel
theorem dX11_goes_0 : decode cX11_goes 0 = .ok (.aload_n 0, 1) := by decide +kernel
theorem dX11_goes_1 : decode cX11_goes 1 = .ok (.iconst 2, 1) := by decide +kernel
theorem dX11_goes_2 : decode cX11_goes 2 = .ok (.aload_n 0, 1) := by decide +kernel
theorem dX11_goes_3 : decode cX11_goes 3 = .ok (.iconst 1, 1) := by decide +kernel
theorem dX11_goes_4 : decode cX11_goes 4 = .ok (.iaload, 1) := by decide +kernel
theorem dX11_goes_5 : decode cX11_goes 5 = .ok (.iadd, 1) := by decide +kernel
theorem dX11_goes_6 : decode cX11_goes 6 = .ok (.iload_n 1, 1) := by decide +kernel
theorem dX11_goes_7 : decode cX11_goes 7 = .ok (.iastore, 1) := by decide +kernel
theorem dX11_goes_8 : decode cX11_goes 8 = .ok (.aload_n 0, 1) := by decide +kernel
theorem dX11_goes_9 : decode cX11_goes 9 = .ok (.bipush 18, 2) := by decide +kernel
theorem dX11_goes_11 : decode cX11_goes 11 = .ok (.aload_n 0, 1) := by decide +kernel
theorem dX11_goes_12 : decode cX11_goes 12 = .ok (.iconst 1, 1) := by decide +kernel
theorem dX11_goes_13 : decode cX11_goes 13 = .ok (.iaload, 1) := by decide +kernel
theorem dX11_goes_14 : decode cX11_goes 14 = .ok (.iadd, 1) := by decide +kernel
theorem dX11_goes_15 : decode cX11_goes 15 = .ok (.iload_n 2, 1) := by decide +kernel
theorem dX11_goes_16 : decode cX11_goes 16 = .ok (.iastore, 1) := by decide +kernel
theorem dX11_goes_17 : decode cX11_goes 17 = .ok (.aload_n 0, 1) := by decide +kernel
theorem dX11_goes_18 : decode cX11_goes 18 = .ok (.iconst 1, 1) := by decide +kernel
theorem dX11_goes_19 : decode cX11_goes 19 = .ok (.dup2, 1) := by decide +kernel
theorem dX11_goes_20 : decode cX11_goes 20 = .ok (.iaload, 1) := by decide +kernel
theorem dX11_goes_21 : decode cX11_goes 21 = .ok (.iconst 1, 1) := by decide +kernel
theorem dX11_goes_22 : decode cX11_goes 22 = .ok (.iadd, 1) := by decide +kernel
theorem dX11_goes_23 : decode cX11_goes 23 = .ok (.iastore, 1) := by decide +kernel
theorem dX11_goes_24 : decode cX11_goes 24 = .ok (.return_, 1) := by decide +kernel
theorem dX11_readEnd_0 : decode cX11_readEnd 0 = .ok (.aload_n 0, 1) := by decide +kernel
theorem dX11_readEnd_1 : decode cX11_readEnd 1 = .ok (.getfield 27, 3) := by decide +kernel
theorem dX11_readEnd_4 : decode cX11_readEnd 4 = .ok (.iconst 3, 1) := by decide +kernel
theorem dX11_readEnd_5 : decode cX11_readEnd 5 = .ok (.if_icmp .eq 9, 3) := by decide +kernel
theorem dX11_readEnd_8 : decode cX11_readEnd 8 = .ok (.aload_n 0, 1) := by decide +kernel
theorem dX11_readEnd_9 : decode cX11_readEnd 9 = .ok (.iconst 1, 1) := by decide +kernel
theorem dX11_readEnd_10 : decode cX11_readEnd 10 = .ok (.invokevirtual 135, 3) := by decide +kernel
theorem dX11_readEnd_13 : decode cX11_readEnd 13 = .ok (.ireturn, 1) := by decide +kernel
theorem dX11_readEnd_14 : decode cX11_readEnd 14 = .ok (.aload_n 0, 1) := by decide +kernel
theorem dX11_readEnd_15 : decode cX11_readEnd 15 = .ok (.invokevirtual 138, 3) := by decide +kernel
theorem dX11_readEnd_18 : decode cX11_readEnd 18 = .ok (.iconst 1, 1) := by decide +kernel
theorem dX11_readEnd_19 : decode cX11_readEnd 19 = .ok (.ireturn, 1) := by decide +kernel
theorem dX11_net_0 : decode cX11_net 0 = .ok (.aload_n 0, 1) := by decide +kernel
theorem dX11_net_1 : decode cX11_net 1 = .ok (.iconst 0, 1) := by decide +kernel
theorem dX11_net_2 : decode cX11_net 2 = .ok (.putfield 1, 3) := by decide +kernel
theorem dX11_net_5 : decode cX11_net 5 = .ok (.aload_n 0, 1) := by decide +kernel
theorem dX11_net_6 : decode cX11_net 6 = .ok (.aload_n 0, 1) := by decide +kernel
theorem dX11_net_7 : decode cX11_net 7 = .ok (.getfield 11, 3) := by decide +kernel
theorem dX11_net_10 : decode cX11_net 10 = .ok (.putfield 18, 3) := by decide +kernel
theorem dX11_net_13 : decode cX11_net 13 = .ok (.aload_n 0, 1) := by decide +kernel
theorem dX11_net_14 : decode cX11_net 14 = .ok (.iconst 0, 1) := by decide +kernel
theorem dX11_net_15 : decode cX11_net 15 = .ok (.putfield 11, 3) := by decide +kernel
theorem dX11_net_18 : decode cX11_net 18 = .ok (.aload_n 0, 1) := by decide +kernel
theorem dX11_net_19 : decode cX11_net 19 = .ok (.iconst 0, 1) := by decide +kernel
theorem dX11_net_20 : decode cX11_net 20 = .ok (.putfield 57, 3) := by decide +kernel
theorem dX11_net_23 : decode cX11_net 23 = .ok (.aload_n 0, 1) := by decide +kernel
theorem dX11_net_24 : decode cX11_net 24 = .ok (.iconst 0, 1) := by decide +kernel
theorem dX11_net_25 : decode cX11_net 25 = .ok (.putfield 21, 3) := by decide +kernel
theorem dX11_net_28 : decode cX11_net 28 = .ok (.iconst 0, 1) := by decide +kernel
theorem dX11_net_29 : decode cX11_net 29 = .ok (.istore_n 1, 1) := by decide +kernel
theorem dX11_net_30 : decode cX11_net 30 = .ok (.iconst 0, 1) := by decide +kernel
theorem dX11_net_31 : decode cX11_net 31 = .ok (.istore_n 2, 1) := by decide +kernel
theorem dX11_net_32 : decode cX11_net 32 = .ok (.iload_n 2, 1) := by decide +kernel
theorem dX11_net_33 : decode cX11_net 33 = .ok (.bipush 34, 2) := by decide +kernel
theorem dX11_net_35 : decode cX11_net 35 = .ok (.if_icmp .ge 16, 3) := by decide +kernel
theorem dX11_net_38 : decode cX11_net 38 = .ok (.aload_n 0, 1) := by decide +kernel
theorem dX11_net_39 : decode cX11_net 39 = .ok (.getfield 72, 3) := by decide +kernel
theorem dX11_net_42 : decode cX11_net 42 = .ok (.iload_n 2, 1) := by decide +kernel
theorem dX11_net_43 : decode cX11_net 43 = .ok (.iconst 0, 1) := by decide +kernel
theorem dX11_net_44 : decode cX11_net 44 = .ok (.iastore, 1) := by decide +kernel
theorem dX11_net_45 : decode cX11_net 45 = .ok (.iinc 2 1, 3) := by decide +kernel
theorem dX11_net_48 : decode cX11_net 48 = .ok (.goto (-16), 3) := by decide +kernel
theorem dX11_net_51 : decode cX11_net 51 = .ok (.aload_n 0, 1) := by decide +kernel
theorem dX11_net_52 : decode cX11_net 52 = .ok (.invokevirtual 138, 3) := by decide +kernel
theorem dX11_net_55 : decode cX11_net 55 = .ok (.aload_n 0, 1) := by decide +kernel
theorem dX11_net_56 : decode cX11_net 56 = .ok (.getfield 27, 3) := by decide +kernel
theorem dX11_net_59 : decode cX11_net 59 = .ok (.ifCond .eq 61, 3) := by decide +kernel
theorem dX11_net_62 : decode cX11_net 62 = .ok (.aload_n 0, 1) := by decide +kernel
theorem dX11_net_63 : decode cX11_net 63 = .ok (.invokevirtual 50, 3) := by decide +kernel
theorem dX11_net_66 : decode cX11_net 66 = .ok (.ifCond .eq 10, 3) := by decide +kernel
theorem dX11_net_69 : decode cX11_net 69 = .ok (.aload_n 0, 1) := by decide +kernel
theorem dX11_net_70 : decode cX11_net 70 = .ok (.invokevirtual 152, 3) := by decide +kernel
theorem dX11_net_73 : decode cX11_net 73 = .ok (.goto 22, 3) := by decide +kernel
theorem dX11_net_76 : decode cX11_net 76 = .ok (.aload_n 0, 1) := by decide +kernel
theorem dX11_net_77 : decode cX11_net 77 = .ok (.invokevirtual 54, 3) := by decide +kernel
theorem dX11_net_80 : decode cX11_net 80 = .ok (.ifCond .eq 10, 3) := by decide +kernel
theorem dX11_net_83 : decode cX11_net 83 = .ok (.aload_n 0, 1) := by decide +kernel
theorem dX11_net_84 : decode cX11_net 84 = .ok (.invokevirtual 155, 3) := by decide +kernel
theorem dX11_net_87 : decode cX11_net 87 = .ok (.goto 8, 3) := by decide +kernel
theorem dX11_net_90 : decode cX11_net 90 = .ok (.aload_n 0, 1) := by decide +kernel
theorem dX11_net_91 : decode cX11_net 91 = .ok (.iconst 1, 1) := by decide +kernel
theorem dX11_net_92 : decode cX11_net 92 = .ok (.invokevirtual 135, 3) := by decide +kernel
theorem dX11_net_95 : decode cX11_net 95 = .ok (.istore_n 2, 1) := by decide +kernel
theorem dX11_net_96 : decode cX11_net 96 = .ok (.iload_n 2, 1) := by decide +kernel
theorem dX11_net_97 : decode cX11_net 97 = .ok (.ifCond .eq 10, 3) := by decide +kernel
theorem dX11_net_100 : decode cX11_net 100 = .ok (.aload_n 0, 1) := by decide +kernel
theorem dX11_net_101 : decode cX11_net 101 = .ok (.invokevirtual 158, 3) := by decide +kernel
theorem dX11_net_104 : decode cX11_net 104 = .ok (.ifCond .ne 10, 3) := by decide +kernel
theorem dX11_net_107 : decode cX11_net 107 = .ok (.iconst (-1), 1) := by decide +kernel
theorem dX11_net_108 : decode cX11_net 108 = .ok (.aload_n 0, 1) := by decide +kernel
theorem dX11_net_109 : decode cX11_net 109 = .ok (.getfield 60, 3) := by decide +kernel
theorem dX11_net_112 : decode cX11_net 112 = .ok (.isub, 1) := by decide +kernel
theorem dX11_net_113 : decode cX11_net 113 = .ok (.ireturn, 1) := by decide +kernel
theorem dX11_net_114 : decode cX11_net 114 = .ok (.iinc 1 1, 3) := by decide +kernel
theorem dX11_net_117 : decode cX11_net 117 = .ok (.goto (-62), 3) := by decide +kernel
theorem dX11_net_120 : decode cX11_net 120 = .ok (.aload_n 0, 1) := by decide +kernel
theorem dX11_net_121 : decode cX11_net 121 = .ok (.getfield 72, 3) := by decide +kernel
theorem dX11_net_124 : decode cX11_net 124 = .ok (.iconst 0, 1) := by decide +kernel
theorem dX11_net_125 : decode cX11_net 125 = .ok (.aload_n 0, 1) := by decide +kernel
theorem dX11_net_126 : decode cX11_net 126 = .ok (.getfield 69, 3) := by decide +kernel
theorem dX11_net_129 : decode cX11_net 129 = .ok (.iconst 0, 1) := by decide +kernel
theorem dX11_net_130 : decode cX11_net 130 = .ok (.invokestatic 161, 3) := by decide +kernel
theorem dX11_net_133 : decode cX11_net 133 = .ok (.aload_n 0, 1) := by decide +kernel
theorem dX11_net_134 : decode cX11_net 134 = .ok (.iconst 0, 1) := by decide +kernel
theorem dX11_net_135 : decode cX11_net 135 = .ok (.putfield 165, 3) := by decide +kernel
theorem dX11_net_138 : decode cX11_net 138 = .ok (.iload_n 1, 1) := by decide +kernel
theorem dX11_net_139 : decode cX11_net 139 = .ok (.ireturn, 1) := by decide +kernel
theorem dX11_fault_0 : decode cX11_fault 0 = .ok (.aload_n 0, 1) := by decide +kernel
theorem dX11_fault_1 : decode cX11_fault 1 = .ok (.iconst 0, 1) := by decide +kernel
theorem dX11_fault_2 : decode cX11_fault 2 = .ok (.putfield 1, 3) := by decide +kernel
theorem dX11_fault_5 : decode cX11_fault 5 = .ok (.aload_n 0, 1) := by decide +kernel
theorem dX11_fault_6 : decode cX11_fault 6 = .ok (.getfield 57, 3) := by decide +kernel
theorem dX11_fault_9 : decode cX11_fault 9 = .ok (.ireturn, 1) := by decide +kernel
theorem dX11_arcs_0 : decode cX11_arcs 0 = .ok (.aload_n 0, 1) := by decide +kernel
theorem dX11_arcs_1 : decode cX11_arcs 1 = .ok (.getfield 69, 3) := by decide +kernel
theorem dX11_arcs_4 : decode cX11_arcs 4 = .ok (.iconst 1, 1) := by decide +kernel
theorem dX11_arcs_5 : decode cX11_arcs 5 = .ok (.iaload, 1) := by decide +kernel
theorem dX11_arcs_6 : decode cX11_arcs 6 = .ok (.ireturn, 1) := by decide +kernel
theorem dX11_points_0 : decode cX11_points 0 = .ok (.aload_n 0, 1) := by decide +kernel
theorem dX11_points_1 : decode cX11_points 1 = .ok (.getfield 69, 3) := by decide +kernel
theorem dX11_points_4 : decode cX11_points 4 = .ok (.iconst 0, 1) := by decide +kernel
theorem dX11_points_5 : decode cX11_points 5 = .ok (.iaload, 1) := by decide +kernel
theorem dX11_points_6 : decode cX11_points 6 = .ok (.ireturn, 1) := by decide +kernel
theorem dX11_isPoint_0 : decode cX11_isPoint 0 = .ok (.iload_n 1, 1) := by decide +kernel
theorem dX11_isPoint_1 : decode cX11_isPoint 1 = .ok (.iconst 0, 1) := by decide +kernel
theorem dX11_isPoint_2 : decode cX11_isPoint 2 = .ok (.aload_n 0, 1) := by decide +kernel
theorem dX11_isPoint_3 : decode cX11_isPoint 3 = .ok (.invokevirtual 168, 3) := by decide +kernel
theorem dX11_isPoint_6 : decode cX11_isPoint 6 = .ok (.iconst 1, 1) := by decide +kernel
theorem dX11_isPoint_7 : decode cX11_isPoint 7 = .ok (.isub, 1) := by decide +kernel
theorem dX11_isPoint_8 : decode cX11_isPoint 8 = .ok (.invokestatic 171, 3) := by decide +kernel
theorem dX11_isPoint_11 : decode cX11_isPoint 11 = .ok (.ireturn, 1) := by decide +kernel
theorem dX11_isArc_0 : decode cX11_isArc 0 = .ok (.iload_n 1, 1) := by decide +kernel
theorem dX11_isArc_1 : decode cX11_isArc 1 = .ok (.iconst 0, 1) := by decide +kernel
theorem dX11_isArc_2 : decode cX11_isArc 2 = .ok (.aload_n 0, 1) := by decide +kernel
theorem dX11_isArc_3 : decode cX11_isArc 3 = .ok (.invokevirtual 175, 3) := by decide +kernel
theorem dX11_isArc_6 : decode cX11_isArc 6 = .ok (.iconst 1, 1) := by decide +kernel
theorem dX11_isArc_7 : decode cX11_isArc 7 = .ok (.isub, 1) := by decide +kernel
theorem dX11_isArc_8 : decode cX11_isArc 8 = .ok (.invokestatic 171, 3) := by decide +kernel
theorem dX11_isArc_11 : decode cX11_isArc 11 = .ok (.ireturn, 1) := by decide +kernel
theorem dX11_out_0 : decode cX11_out 0 = .ok (.iconst 0, 1) := by decide +kernel
theorem dX11_out_1 : decode cX11_out 1 = .ok (.istore_n 2, 1) := by decide +kernel
theorem dX11_out_2 : decode cX11_out 2 = .ok (.iconst 0, 1) := by decide +kernel
theorem dX11_out_3 : decode cX11_out 3 = .ok (.istore_n 3, 1) := by decide +kernel
theorem dX11_out_4 : decode cX11_out 4 = .ok (.iload_n 3, 1) := by decide +kernel
theorem dX11_out_5 : decode cX11_out 5 = .ok (.aload_n 0, 1) := by decide +kernel
theorem dX11_out_6 : decode cX11_out 6 = .ok (.iconst 1, 1) := by decide +kernel
theorem dX11_out_7 : decode cX11_out 7 = .ok (.iaload, 1) := by decide +kernel
theorem dX11_out_8 : decode cX11_out 8 = .ok (.if_icmp .ge 21, 3) := by decide +kernel
theorem dX11_out_11 : decode cX11_out 11 = .ok (.aload_n 0, 1) := by decide +kernel
theorem dX11_out_12 : decode cX11_out 12 = .ok (.iconst 2, 1) := by decide +kernel
theorem dX11_out_13 : decode cX11_out 13 = .ok (.iload_n 3, 1) := by decide +kernel
theorem dX11_out_14 : decode cX11_out 14 = .ok (.iadd, 1) := by decide +kernel
theorem dX11_out_15 : decode cX11_out 15 = .ok (.iaload, 1) := by decide +kernel
theorem dX11_out_16 : decode cX11_out 16 = .ok (.iload_n 1, 1) := by decide +kernel
theorem dX11_out_17 : decode cX11_out 17 = .ok (.if_icmp .ne 6, 3) := by decide +kernel
theorem dX11_out_20 : decode cX11_out 20 = .ok (.iinc 2 1, 3) := by decide +kernel
theorem dX11_out_23 : decode cX11_out 23 = .ok (.iinc 3 1, 3) := by decide +kernel
theorem dX11_out_26 : decode cX11_out 26 = .ok (.goto (-22), 3) := by decide +kernel
theorem dX11_out_29 : decode cX11_out 29 = .ok (.iload_n 2, 1) := by decide +kernel
theorem dX11_out_30 : decode cX11_out 30 = .ok (.ireturn, 1) := by decide +kernel
theorem dX11_in_0 : decode cX11_in 0 = .ok (.iconst 0, 1) := by decide +kernel
theorem dX11_in_1 : decode cX11_in 1 = .ok (.istore_n 2, 1) := by decide +kernel
theorem dX11_in_2 : decode cX11_in 2 = .ok (.iconst 0, 1) := by decide +kernel
theorem dX11_in_3 : decode cX11_in 3 = .ok (.istore_n 3, 1) := by decide +kernel
theorem dX11_in_4 : decode cX11_in 4 = .ok (.iload_n 3, 1) := by decide +kernel
theorem dX11_in_5 : decode cX11_in 5 = .ok (.aload_n 0, 1) := by decide +kernel
theorem dX11_in_6 : decode cX11_in 6 = .ok (.iconst 1, 1) := by decide +kernel
theorem dX11_in_7 : decode cX11_in 7 = .ok (.iaload, 1) := by decide +kernel
theorem dX11_in_8 : decode cX11_in 8 = .ok (.if_icmp .ge 22, 3) := by decide +kernel
theorem dX11_in_11 : decode cX11_in 11 = .ok (.aload_n 0, 1) := by decide +kernel
theorem dX11_in_12 : decode cX11_in 12 = .ok (.bipush 18, 2) := by decide +kernel
theorem dX11_in_14 : decode cX11_in 14 = .ok (.iload_n 3, 1) := by decide +kernel
theorem dX11_in_15 : decode cX11_in 15 = .ok (.iadd, 1) := by decide +kernel
theorem dX11_in_16 : decode cX11_in 16 = .ok (.iaload, 1) := by decide +kernel
theorem dX11_in_17 : decode cX11_in 17 = .ok (.iload_n 1, 1) := by decide +kernel
theorem dX11_in_18 : decode cX11_in 18 = .ok (.if_icmp .ne 6, 3) := by decide +kernel
theorem dX11_in_21 : decode cX11_in 21 = .ok (.iinc 2 1, 3) := by decide +kernel
theorem dX11_in_24 : decode cX11_in 24 = .ok (.iinc 3 1, 3) := by decide +kernel
theorem dX11_in_27 : decode cX11_in 27 = .ok (.goto (-23), 3) := by decide +kernel
theorem dX11_in_30 : decode cX11_in 30 = .ok (.iload_n 2, 1) := by decide +kernel
theorem dX11_in_31 : decode cX11_in 31 = .ok (.ireturn, 1) := by decide +kernel
theorem dX11_used_0 : decode cX11_used 0 = .ok (.iconst 0, 1) := by decide +kernel
theorem dX11_used_1 : decode cX11_used 1 = .ok (.istore_n 1, 1) := by decide +kernel
theorem dX11_used_2 : decode cX11_used 2 = .ok (.iconst 0, 1) := by decide +kernel
theorem dX11_used_3 : decode cX11_used 3 = .ok (.istore_n 2, 1) := by decide +kernel
theorem dX11_used_4 : decode cX11_used 4 = .ok (.iload_n 2, 1) := by decide +kernel
theorem dX11_used_5 : decode cX11_used 5 = .ok (.aload_n 0, 1) := by decide +kernel
theorem dX11_used_6 : decode cX11_used 6 = .ok (.iconst 1, 1) := by decide +kernel
theorem dX11_used_7 : decode cX11_used 7 = .ok (.iaload, 1) := by decide +kernel
theorem dX11_used_8 : decode cX11_used 8 = .ok (.if_icmp .ge 28, 3) := by decide +kernel
theorem dX11_used_11 : decode cX11_used 11 = .ok (.iload_n 1, 1) := by decide +kernel
theorem dX11_used_12 : decode cX11_used 12 = .ok (.iconst 1, 1) := by decide +kernel
theorem dX11_used_13 : decode cX11_used 13 = .ok (.aload_n 0, 1) := by decide +kernel
theorem dX11_used_14 : decode cX11_used 14 = .ok (.iconst 2, 1) := by decide +kernel
theorem dX11_used_15 : decode cX11_used 15 = .ok (.iload_n 2, 1) := by decide +kernel
theorem dX11_used_16 : decode cX11_used 16 = .ok (.iadd, 1) := by decide +kernel
theorem dX11_used_17 : decode cX11_used 17 = .ok (.iaload, 1) := by decide +kernel
theorem dX11_used_18 : decode cX11_used 18 = .ok (.ishl, 1) := by decide +kernel
theorem dX11_used_19 : decode cX11_used 19 = .ok (.iconst 1, 1) := by decide +kernel
theorem dX11_used_20 : decode cX11_used 20 = .ok (.aload_n 0, 1) := by decide +kernel
theorem dX11_used_21 : decode cX11_used 21 = .ok (.bipush 18, 2) := by decide +kernel
theorem dX11_used_23 : decode cX11_used 23 = .ok (.iload_n 2, 1) := by decide +kernel
theorem dX11_used_24 : decode cX11_used 24 = .ok (.iadd, 1) := by decide +kernel
theorem dX11_used_25 : decode cX11_used 25 = .ok (.iaload, 1) := by decide +kernel
theorem dX11_used_26 : decode cX11_used 26 = .ok (.ishl, 1) := by decide +kernel
theorem dX11_used_27 : decode cX11_used 27 = .ok (.ior, 1) := by decide +kernel
theorem dX11_used_28 : decode cX11_used 28 = .ok (.ior, 1) := by decide +kernel
theorem dX11_used_29 : decode cX11_used 29 = .ok (.istore_n 1, 1) := by decide +kernel
theorem dX11_used_30 : decode cX11_used 30 = .ok (.iinc 2 1, 3) := by decide +kernel
theorem dX11_used_33 : decode cX11_used 33 = .ok (.goto (-29), 3) := by decide +kernel
theorem dX11_used_36 : decode cX11_used 36 = .ok (.iload_n 1, 1) := by decide +kernel
theorem dX11_used_37 : decode cX11_used 37 = .ok (.ireturn, 1) := by decide +kernel
theorem dX11_reach_0 : decode cX11_reach 0 = .ok (.iconst 1, 1) := by decide +kernel
theorem dX11_reach_1 : decode cX11_reach 1 = .ok (.iload_n 1, 1) := by decide +kernel
theorem dX11_reach_2 : decode cX11_reach 2 = .ok (.ishl, 1) := by decide +kernel
theorem dX11_reach_3 : decode cX11_reach 3 = .ok (.istore_n 3, 1) := by decide +kernel
theorem dX11_reach_4 : decode cX11_reach 4 = .ok (.iconst 0, 1) := by decide +kernel
theorem dX11_reach_5 : decode cX11_reach 5 = .ok (.istore 4, 2) := by decide +kernel
theorem dX11_reach_7 : decode cX11_reach 7 = .ok (.iload_n 3, 1) := by decide +kernel
theorem dX11_reach_8 : decode cX11_reach 8 = .ok (.iload 4, 2) := by decide +kernel
theorem dX11_reach_10 : decode cX11_reach 10 = .ok (.if_icmp .eq 80, 3) := by decide +kernel
theorem dX11_reach_13 : decode cX11_reach 13 = .ok (.iload_n 3, 1) := by decide +kernel
theorem dX11_reach_14 : decode cX11_reach 14 = .ok (.istore 4, 2) := by decide +kernel
theorem dX11_reach_16 : decode cX11_reach 16 = .ok (.iconst 0, 1) := by decide +kernel
theorem dX11_reach_17 : decode cX11_reach 17 = .ok (.istore 5, 2) := by decide +kernel
theorem dX11_reach_19 : decode cX11_reach 19 = .ok (.iload 5, 2) := by decide +kernel
theorem dX11_reach_21 : decode cX11_reach 21 = .ok (.aload_n 0, 1) := by decide +kernel
theorem dX11_reach_22 : decode cX11_reach 22 = .ok (.iconst 1, 1) := by decide +kernel
theorem dX11_reach_23 : decode cX11_reach 23 = .ok (.iaload, 1) := by decide +kernel
theorem dX11_reach_24 : decode cX11_reach 24 = .ok (.if_icmp .ge 63, 3) := by decide +kernel
theorem dX11_reach_27 : decode cX11_reach 27 = .ok (.iload_n 3, 1) := by decide +kernel
theorem dX11_reach_28 : decode cX11_reach 28 = .ok (.aload_n 0, 1) := by decide +kernel
theorem dX11_reach_29 : decode cX11_reach 29 = .ok (.iconst 2, 1) := by decide +kernel
theorem dX11_reach_30 : decode cX11_reach 30 = .ok (.iload 5, 2) := by decide +kernel
theorem dX11_reach_32 : decode cX11_reach 32 = .ok (.iadd, 1) := by decide +kernel
theorem dX11_reach_33 : decode cX11_reach 33 = .ok (.iaload, 1) := by decide +kernel
theorem dX11_reach_34 : decode cX11_reach 34 = .ok (.invokestatic 178, 3) := by decide +kernel
theorem dX11_reach_37 : decode cX11_reach 37 = .ok (.ifCond .eq 15, 3) := by decide +kernel
theorem dX11_reach_40 : decode cX11_reach 40 = .ok (.iload_n 3, 1) := by decide +kernel
theorem dX11_reach_41 : decode cX11_reach 41 = .ok (.iconst 1, 1) := by decide +kernel
theorem dX11_reach_42 : decode cX11_reach 42 = .ok (.aload_n 0, 1) := by decide +kernel
theorem dX11_reach_43 : decode cX11_reach 43 = .ok (.bipush 18, 2) := by decide +kernel
theorem dX11_reach_45 : decode cX11_reach 45 = .ok (.iload 5, 2) := by decide +kernel
theorem dX11_reach_47 : decode cX11_reach 47 = .ok (.iadd, 1) := by decide +kernel
theorem dX11_reach_48 : decode cX11_reach 48 = .ok (.iaload, 1) := by decide +kernel
theorem dX11_reach_49 : decode cX11_reach 49 = .ok (.ishl, 1) := by decide +kernel
theorem dX11_reach_50 : decode cX11_reach 50 = .ok (.ior, 1) := by decide +kernel
theorem dX11_reach_51 : decode cX11_reach 51 = .ok (.istore_n 3, 1) := by decide +kernel
theorem dX11_reach_52 : decode cX11_reach 52 = .ok (.iload_n 2, 1) := by decide +kernel
theorem dX11_reach_53 : decode cX11_reach 53 = .ok (.ifCond .eq 28, 3) := by decide +kernel
theorem dX11_reach_56 : decode cX11_reach 56 = .ok (.iload_n 3, 1) := by decide +kernel
theorem dX11_reach_57 : decode cX11_reach 57 = .ok (.aload_n 0, 1) := by decide +kernel
theorem dX11_reach_58 : decode cX11_reach 58 = .ok (.bipush 18, 2) := by decide +kernel
theorem dX11_reach_60 : decode cX11_reach 60 = .ok (.iload 5, 2) := by decide +kernel
theorem dX11_reach_62 : decode cX11_reach 62 = .ok (.iadd, 1) := by decide +kernel
theorem dX11_reach_63 : decode cX11_reach 63 = .ok (.iaload, 1) := by decide +kernel
theorem dX11_reach_64 : decode cX11_reach 64 = .ok (.invokestatic 178, 3) := by decide +kernel
theorem dX11_reach_67 : decode cX11_reach 67 = .ok (.ifCond .eq 14, 3) := by decide +kernel
theorem dX11_reach_70 : decode cX11_reach 70 = .ok (.iload_n 3, 1) := by decide +kernel
theorem dX11_reach_71 : decode cX11_reach 71 = .ok (.iconst 1, 1) := by decide +kernel
theorem dX11_reach_72 : decode cX11_reach 72 = .ok (.aload_n 0, 1) := by decide +kernel
theorem dX11_reach_73 : decode cX11_reach 73 = .ok (.iconst 2, 1) := by decide +kernel
theorem dX11_reach_74 : decode cX11_reach 74 = .ok (.iload 5, 2) := by decide +kernel
theorem dX11_reach_76 : decode cX11_reach 76 = .ok (.iadd, 1) := by decide +kernel
theorem dX11_reach_77 : decode cX11_reach 77 = .ok (.iaload, 1) := by decide +kernel
theorem dX11_reach_78 : decode cX11_reach 78 = .ok (.ishl, 1) := by decide +kernel
theorem dX11_reach_79 : decode cX11_reach 79 = .ok (.ior, 1) := by decide +kernel
theorem dX11_reach_80 : decode cX11_reach 80 = .ok (.istore_n 3, 1) := by decide +kernel
theorem dX11_reach_81 : decode cX11_reach 81 = .ok (.iinc 5 1, 3) := by decide +kernel
theorem dX11_reach_84 : decode cX11_reach 84 = .ok (.goto (-65), 3) := by decide +kernel
theorem dX11_reach_87 : decode cX11_reach 87 = .ok (.goto (-80), 3) := by decide +kernel
theorem dX11_reach_90 : decode cX11_reach 90 = .ok (.iload_n 3, 1) := by decide +kernel
theorem dX11_reach_91 : decode cX11_reach 91 = .ok (.ireturn, 1) := by decide +kernel
theorem dX11_isJoined_0 : decode cX11_isJoined 0 = .ok (.aload_n 0, 1) := by decide +kernel
theorem dX11_isJoined_1 : decode cX11_isJoined 1 = .ok (.iconst 1, 1) := by decide +kernel
theorem dX11_isJoined_2 : decode cX11_isJoined 2 = .ok (.iaload, 1) := by decide +kernel
theorem dX11_isJoined_3 : decode cX11_isJoined 3 = .ok (.ifCond .eq 18, 3) := by decide +kernel
theorem dX11_isJoined_6 : decode cX11_isJoined 6 = .ok (.aload_n 0, 1) := by decide +kernel
theorem dX11_isJoined_7 : decode cX11_isJoined 7 = .ok (.aload_n 0, 1) := by decide +kernel
theorem dX11_isJoined_8 : decode cX11_isJoined 8 = .ok (.iconst 2, 1) := by decide +kernel
theorem dX11_isJoined_9 : decode cX11_isJoined 9 = .ok (.iaload, 1) := by decide +kernel
theorem dX11_isJoined_10 : decode cX11_isJoined 10 = .ok (.iconst 1, 1) := by decide +kernel
theorem dX11_isJoined_11 : decode cX11_isJoined 11 = .ok (.invokestatic 182, 3) := by decide +kernel
theorem dX11_isJoined_14 : decode cX11_isJoined 14 = .ok (.aload_n 0, 1) := by decide +kernel
theorem dX11_isJoined_15 : decode cX11_isJoined 15 = .ok (.invokestatic 186, 3) := by decide +kernel
theorem dX11_isJoined_18 : decode cX11_isJoined 18 = .ok (.if_icmp .ne 7, 3) := by decide +kernel
theorem dX11_isJoined_21 : decode cX11_isJoined 21 = .ok (.iconst 1, 1) := by decide +kernel
theorem dX11_isJoined_22 : decode cX11_isJoined 22 = .ok (.goto 4, 3) := by decide +kernel
theorem dX11_isJoined_25 : decode cX11_isJoined 25 = .ok (.iconst 0, 1) := by decide +kernel
theorem dX11_isJoined_26 : decode cX11_isJoined 26 = .ok (.ireturn, 1) := by decide +kernel
theorem dX11_isStrong_0 : decode cX11_isStrong 0 = .ok (.iconst 0, 1) := by decide +kernel
theorem dX11_isStrong_1 : decode cX11_isStrong 1 = .ok (.istore_n 1, 1) := by decide +kernel
theorem dX11_isStrong_2 : decode cX11_isStrong 2 = .ok (.iload_n 1, 1) := by decide +kernel
theorem dX11_isStrong_3 : decode cX11_isStrong 3 = .ok (.aload_n 0, 1) := by decide +kernel
theorem dX11_isStrong_4 : decode cX11_isStrong 4 = .ok (.iconst 1, 1) := by decide +kernel
theorem dX11_isStrong_5 : decode cX11_isStrong 5 = .ok (.iaload, 1) := by decide +kernel
theorem dX11_isStrong_6 : decode cX11_isStrong 6 = .ok (.if_icmp .ge 46, 3) := by decide +kernel
theorem dX11_isStrong_9 : decode cX11_isStrong 9 = .ok (.aload_n 0, 1) := by decide +kernel
theorem dX11_isStrong_10 : decode cX11_isStrong 10 = .ok (.aload_n 0, 1) := by decide +kernel
theorem dX11_isStrong_11 : decode cX11_isStrong 11 = .ok (.iconst 2, 1) := by decide +kernel
theorem dX11_isStrong_12 : decode cX11_isStrong 12 = .ok (.iload_n 1, 1) := by decide +kernel
theorem dX11_isStrong_13 : decode cX11_isStrong 13 = .ok (.iadd, 1) := by decide +kernel
theorem dX11_isStrong_14 : decode cX11_isStrong 14 = .ok (.iaload, 1) := by decide +kernel
theorem dX11_isStrong_15 : decode cX11_isStrong 15 = .ok (.iconst 0, 1) := by decide +kernel
theorem dX11_isStrong_16 : decode cX11_isStrong 16 = .ok (.invokestatic 182, 3) := by decide +kernel
theorem dX11_isStrong_19 : decode cX11_isStrong 19 = .ok (.aload_n 0, 1) := by decide +kernel
theorem dX11_isStrong_20 : decode cX11_isStrong 20 = .ok (.invokestatic 186, 3) := by decide +kernel
theorem dX11_isStrong_23 : decode cX11_isStrong 23 = .ok (.if_icmp .ne 21, 3) := by decide +kernel
theorem dX11_isStrong_26 : decode cX11_isStrong 26 = .ok (.aload_n 0, 1) := by decide +kernel
theorem dX11_isStrong_27 : decode cX11_isStrong 27 = .ok (.aload_n 0, 1) := by decide +kernel
theorem dX11_isStrong_28 : decode cX11_isStrong 28 = .ok (.bipush 18, 2) := by decide +kernel
theorem dX11_isStrong_30 : decode cX11_isStrong 30 = .ok (.iload_n 1, 1) := by decide +kernel
theorem dX11_isStrong_31 : decode cX11_isStrong 31 = .ok (.iadd, 1) := by decide +kernel
theorem dX11_isStrong_32 : decode cX11_isStrong 32 = .ok (.iaload, 1) := by decide +kernel
theorem dX11_isStrong_33 : decode cX11_isStrong 33 = .ok (.iconst 0, 1) := by decide +kernel
theorem dX11_isStrong_34 : decode cX11_isStrong 34 = .ok (.invokestatic 182, 3) := by decide +kernel
theorem dX11_isStrong_37 : decode cX11_isStrong 37 = .ok (.aload_n 0, 1) := by decide +kernel
theorem dX11_isStrong_38 : decode cX11_isStrong 38 = .ok (.invokestatic 186, 3) := by decide +kernel
theorem dX11_isStrong_41 : decode cX11_isStrong 41 = .ok (.if_icmp .eq 5, 3) := by decide +kernel
theorem dX11_isStrong_44 : decode cX11_isStrong 44 = .ok (.iconst 0, 1) := by decide +kernel
theorem dX11_isStrong_45 : decode cX11_isStrong 45 = .ok (.ireturn, 1) := by decide +kernel
theorem dX11_isStrong_46 : decode cX11_isStrong 46 = .ok (.iinc 1 1, 3) := by decide +kernel
theorem dX11_isStrong_49 : decode cX11_isStrong 49 = .ok (.goto (-47), 3) := by decide +kernel
theorem dX11_isStrong_52 : decode cX11_isStrong 52 = .ok (.iconst 1, 1) := by decide +kernel
theorem dX11_isStrong_53 : decode cX11_isStrong 53 = .ok (.ireturn, 1) := by decide +kernel
theorem dX11_off_0 : decode cX11_off 0 = .ok (.aload_n 0, 1) := by decide +kernel
theorem dX11_off_1 : decode cX11_off 1 = .ok (.iload_n 1, 1) := by decide +kernel
theorem dX11_off_2 : decode cX11_off 2 = .ok (.invokestatic 190, 3) := by decide +kernel
theorem dX11_off_5 : decode cX11_off 5 = .ok (.aload_n 0, 1) := by decide +kernel
theorem dX11_off_6 : decode cX11_off 6 = .ok (.iload_n 1, 1) := by decide +kernel
theorem dX11_off_7 : decode cX11_off 7 = .ok (.invokestatic 194, 3) := by decide +kernel
theorem dX11_off_10 : decode cX11_off 10 = .ok (.isub, 1) := by decide +kernel
theorem dX11_off_11 : decode cX11_off 11 = .ok (.ireturn, 1) := by decide +kernel
theorem dX11_offs_0 : decode cX11_offs 0 = .ok (.iconst 0, 1) := by decide +kernel
theorem dX11_offs_1 : decode cX11_offs 1 = .ok (.istore_n 2, 1) := by decide +kernel
theorem dX11_offs_2 : decode cX11_offs 2 = .ok (.iconst 0, 1) := by decide +kernel
theorem dX11_offs_3 : decode cX11_offs 3 = .ok (.istore_n 3, 1) := by decide +kernel
theorem dX11_offs_4 : decode cX11_offs 4 = .ok (.iload_n 3, 1) := by decide +kernel
theorem dX11_offs_5 : decode cX11_offs 5 = .ok (.aload_n 0, 1) := by decide +kernel
theorem dX11_offs_6 : decode cX11_offs 6 = .ok (.iconst 0, 1) := by decide +kernel
theorem dX11_offs_7 : decode cX11_offs 7 = .ok (.iaload, 1) := by decide +kernel
theorem dX11_offs_8 : decode cX11_offs 8 = .ok (.if_icmp .ge 25, 3) := by decide +kernel
theorem dX11_offs_11 : decode cX11_offs 11 = .ok (.iload_n 1, 1) := by decide +kernel
theorem dX11_offs_12 : decode cX11_offs 12 = .ok (.aload_n 0, 1) := by decide +kernel
theorem dX11_offs_13 : decode cX11_offs 13 = .ok (.iload_n 3, 1) := by decide +kernel
theorem dX11_offs_14 : decode cX11_offs 14 = .ok (.invokestatic 197, 3) := by decide +kernel
theorem dX11_offs_17 : decode cX11_offs 17 = .ok (.imul, 1) := by decide +kernel
theorem dX11_offs_18 : decode cX11_offs 18 = .ok (.ifCond .le 9, 3) := by decide +kernel
theorem dX11_offs_21 : decode cX11_offs 21 = .ok (.iload_n 2, 1) := by decide +kernel
theorem dX11_offs_22 : decode cX11_offs 22 = .ok (.iconst 1, 1) := by decide +kernel
theorem dX11_offs_23 : decode cX11_offs 23 = .ok (.iload_n 3, 1) := by decide +kernel
theorem dX11_offs_24 : decode cX11_offs 24 = .ok (.ishl, 1) := by decide +kernel
theorem dX11_offs_25 : decode cX11_offs 25 = .ok (.ior, 1) := by decide +kernel
theorem dX11_offs_26 : decode cX11_offs 26 = .ok (.istore_n 2, 1) := by decide +kernel
theorem dX11_offs_27 : decode cX11_offs 27 = .ok (.iinc 3 1, 3) := by decide +kernel
theorem dX11_offs_30 : decode cX11_offs 30 = .ok (.goto (-26), 3) := by decide +kernel
theorem dX11_offs_33 : decode cX11_offs 33 = .ok (.iload_n 2, 1) := by decide +kernel
theorem dX11_offs_34 : decode cX11_offs 34 = .ok (.ireturn, 1) := by decide +kernel
theorem dX11_lacking_0 : decode cX11_lacking 0 = .ok (.iconst 0, 1) := by decide +kernel
theorem dX11_lacking_1 : decode cX11_lacking 1 = .ok (.istore_n 1, 1) := by decide +kernel
theorem dX11_lacking_2 : decode cX11_lacking 2 = .ok (.iconst 0, 1) := by decide +kernel
theorem dX11_lacking_3 : decode cX11_lacking 3 = .ok (.istore_n 2, 1) := by decide +kernel
theorem dX11_lacking_4 : decode cX11_lacking 4 = .ok (.iload_n 2, 1) := by decide +kernel
theorem dX11_lacking_5 : decode cX11_lacking 5 = .ok (.aload_n 0, 1) := by decide +kernel
theorem dX11_lacking_6 : decode cX11_lacking 6 = .ok (.iconst 0, 1) := by decide +kernel
theorem dX11_lacking_7 : decode cX11_lacking 7 = .ok (.iaload, 1) := by decide +kernel
theorem dX11_lacking_8 : decode cX11_lacking 8 = .ok (.if_icmp .ge 25, 3) := by decide +kernel
theorem dX11_lacking_11 : decode cX11_lacking 11 = .ok (.aload_n 0, 1) := by decide +kernel
theorem dX11_lacking_12 : decode cX11_lacking 12 = .ok (.iload_n 2, 1) := by decide +kernel
theorem dX11_lacking_13 : decode cX11_lacking 13 = .ok (.invokestatic 197, 3) := by decide +kernel
theorem dX11_lacking_16 : decode cX11_lacking 16 = .ok (.ifCond .le 11, 3) := by decide +kernel
theorem dX11_lacking_19 : decode cX11_lacking 19 = .ok (.iload_n 1, 1) := by decide +kernel
theorem dX11_lacking_20 : decode cX11_lacking 20 = .ok (.aload_n 0, 1) := by decide +kernel
theorem dX11_lacking_21 : decode cX11_lacking 21 = .ok (.iload_n 2, 1) := by decide +kernel
theorem dX11_lacking_22 : decode cX11_lacking 22 = .ok (.invokestatic 197, 3) := by decide +kernel
theorem dX11_lacking_25 : decode cX11_lacking 25 = .ok (.iadd, 1) := by decide +kernel
theorem dX11_lacking_26 : decode cX11_lacking 26 = .ok (.istore_n 1, 1) := by decide +kernel
theorem dX11_lacking_27 : decode cX11_lacking 27 = .ok (.iinc 2 1, 3) := by decide +kernel
theorem dX11_lacking_30 : decode cX11_lacking 30 = .ok (.goto (-26), 3) := by decide +kernel
theorem dX11_lacking_33 : decode cX11_lacking 33 = .ok (.iload_n 1, 1) := by decide +kernel
theorem dX11_lacking_34 : decode cX11_lacking 34 = .ok (.ireturn, 1) := by decide +kernel
theorem dX11_kindOf_0 : decode cX11_kindOf 0 = .ok (.aload_n 0, 1) := by decide +kernel
theorem dX11_kindOf_1 : decode cX11_kindOf 1 = .ok (.iconst 1, 1) := by decide +kernel
theorem dX11_kindOf_2 : decode cX11_kindOf 2 = .ok (.iaload, 1) := by decide +kernel
theorem dX11_kindOf_3 : decode cX11_kindOf 3 = .ok (.ifCond .eq 18, 3) := by decide +kernel
theorem dX11_kindOf_6 : decode cX11_kindOf 6 = .ok (.aload_n 0, 1) := by decide +kernel
theorem dX11_kindOf_7 : decode cX11_kindOf 7 = .ok (.invokestatic 200, 3) := by decide +kernel
theorem dX11_kindOf_10 : decode cX11_kindOf 10 = .ok (.ifCond .eq 11, 3) := by decide +kernel
theorem dX11_kindOf_13 : decode cX11_kindOf 13 = .ok (.aload_n 0, 1) := by decide +kernel
theorem dX11_kindOf_14 : decode cX11_kindOf 14 = .ok (.invokestatic 204, 3) := by decide +kernel
theorem dX11_kindOf_17 : decode cX11_kindOf 17 = .ok (.iconst 1, 1) := by decide +kernel
theorem dX11_kindOf_18 : decode cX11_kindOf 18 = .ok (.if_icmp .le 7, 3) := by decide +kernel
theorem dX11_kindOf_21 : decode cX11_kindOf 21 = .ok (.iconst 0, 1) := by decide +kernel
theorem dX11_kindOf_22 : decode cX11_kindOf 22 = .ok (.goto 15, 3) := by decide +kernel
theorem dX11_kindOf_25 : decode cX11_kindOf 25 = .ok (.aload_n 0, 1) := by decide +kernel
theorem dX11_kindOf_26 : decode cX11_kindOf 26 = .ok (.invokestatic 204, 3) := by decide +kernel
theorem dX11_kindOf_29 : decode cX11_kindOf 29 = .ok (.ifCond .ne 7, 3) := by decide +kernel
theorem dX11_kindOf_32 : decode cX11_kindOf 32 = .ok (.iconst 1, 1) := by decide +kernel
theorem dX11_kindOf_33 : decode cX11_kindOf 33 = .ok (.goto 4, 3) := by decide +kernel
theorem dX11_kindOf_36 : decode cX11_kindOf 36 = .ok (.iconst 2, 1) := by decide +kernel
theorem dX11_kindOf_37 : decode cX11_kindOf 37 = .ok (.ireturn, 1) := by decide +kernel
theorem dX11_now_0 : decode cX11_now 0 = .ok (.aload_n 0, 1) := by decide +kernel
theorem dX11_now_1 : decode cX11_now 1 = .ok (.iconst 0, 1) := by decide +kernel
theorem dX11_now_2 : decode cX11_now 2 = .ok (.putfield 1, 3) := by decide +kernel
theorem dX11_now_5 : decode cX11_now 5 = .ok (.iload_n 1, 1) := by decide +kernel
theorem dX11_now_6 : decode cX11_now 6 = .ok (.tableswitch 128 0 8 #[50, 55, 60, 68, 84, 93, 102, 118, 123], 50) := by decide +kernel
theorem dX11_now_56 : decode cX11_now 56 = .ok (.aload_n 0, 1) := by decide +kernel
theorem dX11_now_57 : decode cX11_now 57 = .ok (.invokevirtual 168, 3) := by decide +kernel
theorem dX11_now_60 : decode cX11_now 60 = .ok (.ireturn, 1) := by decide +kernel
theorem dX11_now_61 : decode cX11_now 61 = .ok (.aload_n 0, 1) := by decide +kernel
theorem dX11_now_62 : decode cX11_now 62 = .ok (.invokevirtual 175, 3) := by decide +kernel
theorem dX11_now_65 : decode cX11_now 65 = .ok (.ireturn, 1) := by decide +kernel
theorem dX11_now_66 : decode cX11_now 66 = .ok (.aload_n 0, 1) := by decide +kernel
theorem dX11_now_67 : decode cX11_now 67 = .ok (.getfield 69, 3) := by decide +kernel
theorem dX11_now_70 : decode cX11_now 70 = .ok (.invokestatic 186, 3) := by decide +kernel
theorem dX11_now_73 : decode cX11_now 73 = .ok (.ireturn, 1) := by decide +kernel
theorem dX11_now_74 : decode cX11_now 74 = .ok (.aload_n 0, 1) := by decide +kernel
theorem dX11_now_75 : decode cX11_now 75 = .ok (.getfield 69, 3) := by decide +kernel
theorem dX11_now_78 : decode cX11_now 78 = .ok (.invokestatic 200, 3) := by decide +kernel
theorem dX11_now_81 : decode cX11_now 81 = .ok (.ifCond .eq 7, 3) := by decide +kernel
theorem dX11_now_84 : decode cX11_now 84 = .ok (.iconst 1, 1) := by decide +kernel
theorem dX11_now_85 : decode cX11_now 85 = .ok (.goto 4, 3) := by decide +kernel
theorem dX11_now_88 : decode cX11_now 88 = .ok (.iconst 0, 1) := by decide +kernel
theorem dX11_now_89 : decode cX11_now 89 = .ok (.ireturn, 1) := by decide +kernel
theorem dX11_now_90 : decode cX11_now 90 = .ok (.aload_n 0, 1) := by decide +kernel
theorem dX11_now_91 : decode cX11_now 91 = .ok (.getfield 69, 3) := by decide +kernel
theorem dX11_now_94 : decode cX11_now 94 = .ok (.iconst 1, 1) := by decide +kernel
theorem dX11_now_95 : decode cX11_now 95 = .ok (.invokestatic 207, 3) := by decide +kernel
theorem dX11_now_98 : decode cX11_now 98 = .ok (.ireturn, 1) := by decide +kernel
theorem dX11_now_99 : decode cX11_now 99 = .ok (.aload_n 0, 1) := by decide +kernel
theorem dX11_now_100 : decode cX11_now 100 = .ok (.getfield 69, 3) := by decide +kernel
theorem dX11_now_103 : decode cX11_now 103 = .ok (.iconst (-1), 1) := by decide +kernel
theorem dX11_now_104 : decode cX11_now 104 = .ok (.invokestatic 207, 3) := by decide +kernel
theorem dX11_now_107 : decode cX11_now 107 = .ok (.ireturn, 1) := by decide +kernel
theorem dX11_now_108 : decode cX11_now 108 = .ok (.aload_n 0, 1) := by decide +kernel
theorem dX11_now_109 : decode cX11_now 109 = .ok (.getfield 69, 3) := by decide +kernel
theorem dX11_now_112 : decode cX11_now 112 = .ok (.invokestatic 210, 3) := by decide +kernel
theorem dX11_now_115 : decode cX11_now 115 = .ok (.ifCond .eq 7, 3) := by decide +kernel
theorem dX11_now_118 : decode cX11_now 118 = .ok (.iconst 1, 1) := by decide +kernel
theorem dX11_now_119 : decode cX11_now 119 = .ok (.goto 4, 3) := by decide +kernel
theorem dX11_now_122 : decode cX11_now 122 = .ok (.iconst 0, 1) := by decide +kernel
theorem dX11_now_123 : decode cX11_now 123 = .ok (.ireturn, 1) := by decide +kernel
theorem dX11_now_124 : decode cX11_now 124 = .ok (.aload_n 0, 1) := by decide +kernel
theorem dX11_now_125 : decode cX11_now 125 = .ok (.getfield 165, 3) := by decide +kernel
theorem dX11_now_128 : decode cX11_now 128 = .ok (.ireturn, 1) := by decide +kernel
theorem dX11_now_129 : decode cX11_now 129 = .ok (.aload_n 0, 1) := by decide +kernel
theorem dX11_now_130 : decode cX11_now 130 = .ok (.getfield 11, 3) := by decide +kernel
theorem dX11_now_133 : decode cX11_now 133 = .ok (.ireturn, 1) := by decide +kernel
theorem dX11_now_134 : decode cX11_now 134 = .ok (.iconst (-1), 1) := by decide +kernel
theorem dX11_now_135 : decode cX11_now 135 = .ok (.ireturn, 1) := by decide +kernel
theorem dX11_arc_0 : decode cX11_arc 0 = .ok (.aload_n 0, 1) := by decide +kernel
theorem dX11_arc_1 : decode cX11_arc 1 = .ok (.iconst 0, 1) := by decide +kernel
theorem dX11_arc_2 : decode cX11_arc 2 = .ok (.putfield 1, 3) := by decide +kernel
theorem dX11_arc_5 : decode cX11_arc 5 = .ok (.aload_n 0, 1) := by decide +kernel
theorem dX11_arc_6 : decode cX11_arc 6 = .ok (.iload_n 1, 1) := by decide +kernel
theorem dX11_arc_7 : decode cX11_arc 7 = .ok (.invokevirtual 213, 3) := by decide +kernel
theorem dX11_arc_10 : decode cX11_arc 10 = .ok (.ifCond .eq 12, 3) := by decide +kernel
theorem dX11_arc_13 : decode cX11_arc 13 = .ok (.iload_n 2, 1) := by decide +kernel
theorem dX11_arc_14 : decode cX11_arc 14 = .ok (.iconst 0, 1) := by decide +kernel
theorem dX11_arc_15 : decode cX11_arc 15 = .ok (.iconst 1, 1) := by decide +kernel
theorem dX11_arc_16 : decode cX11_arc 16 = .ok (.invokestatic 171, 3) := by decide +kernel
theorem dX11_arc_19 : decode cX11_arc 19 = .ok (.ifCond .ne 8, 3) := by decide +kernel
theorem dX11_arc_22 : decode cX11_arc 22 = .ok (.aload_n 0, 1) := by decide +kernel
theorem dX11_arc_23 : decode cX11_arc 23 = .ok (.invokevirtual 216, 3) := by decide +kernel
theorem dX11_arc_26 : decode cX11_arc 26 = .ok (.ireturn, 1) := by decide +kernel
theorem dX11_arc_27 : decode cX11_arc 27 = .ok (.iload_n 2, 1) := by decide +kernel
theorem dX11_arc_28 : decode cX11_arc 28 = .ok (.ifCond .ne 14, 3) := by decide +kernel
theorem dX11_arc_31 : decode cX11_arc 31 = .ok (.aload_n 0, 1) := by decide +kernel
theorem dX11_arc_32 : decode cX11_arc 32 = .ok (.getfield 69, 3) := by decide +kernel
theorem dX11_arc_35 : decode cX11_arc 35 = .ok (.iconst 2, 1) := by decide +kernel
theorem dX11_arc_36 : decode cX11_arc 36 = .ok (.iload_n 1, 1) := by decide +kernel
theorem dX11_arc_37 : decode cX11_arc 37 = .ok (.iadd, 1) := by decide +kernel
theorem dX11_arc_38 : decode cX11_arc 38 = .ok (.iaload, 1) := by decide +kernel
theorem dX11_arc_39 : decode cX11_arc 39 = .ok (.goto 12, 3) := by decide +kernel
theorem dX11_arc_42 : decode cX11_arc 42 = .ok (.aload_n 0, 1) := by decide +kernel
theorem dX11_arc_43 : decode cX11_arc 43 = .ok (.getfield 69, 3) := by decide +kernel
theorem dX11_arc_46 : decode cX11_arc 46 = .ok (.bipush 18, 2) := by decide +kernel
theorem dX11_arc_48 : decode cX11_arc 48 = .ok (.iload_n 1, 1) := by decide +kernel
theorem dX11_arc_49 : decode cX11_arc 49 = .ok (.iadd, 1) := by decide +kernel
theorem dX11_arc_50 : decode cX11_arc 50 = .ok (.iaload, 1) := by decide +kernel
theorem dX11_arc_51 : decode cX11_arc 51 = .ok (.ireturn, 1) := by decide +kernel
theorem dX11_degree_0 : decode cX11_degree 0 = .ok (.aload_n 0, 1) := by decide +kernel
theorem dX11_degree_1 : decode cX11_degree 1 = .ok (.iconst 0, 1) := by decide +kernel
theorem dX11_degree_2 : decode cX11_degree 2 = .ok (.putfield 1, 3) := by decide +kernel
theorem dX11_degree_5 : decode cX11_degree 5 = .ok (.aload_n 0, 1) := by decide +kernel
theorem dX11_degree_6 : decode cX11_degree 6 = .ok (.iload_n 1, 1) := by decide +kernel
theorem dX11_degree_7 : decode cX11_degree 7 = .ok (.invokevirtual 219, 3) := by decide +kernel
theorem dX11_degree_10 : decode cX11_degree 10 = .ok (.ifCond .eq 12, 3) := by decide +kernel
theorem dX11_degree_13 : decode cX11_degree 13 = .ok (.iload_n 2, 1) := by decide +kernel
theorem dX11_degree_14 : decode cX11_degree 14 = .ok (.iconst 0, 1) := by decide +kernel
theorem dX11_degree_15 : decode cX11_degree 15 = .ok (.iconst 1, 1) := by decide +kernel
theorem dX11_degree_16 : decode cX11_degree 16 = .ok (.invokestatic 171, 3) := by decide +kernel
theorem dX11_degree_19 : decode cX11_degree 19 = .ok (.ifCond .ne 8, 3) := by decide +kernel
theorem dX11_degree_22 : decode cX11_degree 22 = .ok (.aload_n 0, 1) := by decide +kernel
theorem dX11_degree_23 : decode cX11_degree 23 = .ok (.invokevirtual 216, 3) := by decide +kernel
theorem dX11_degree_26 : decode cX11_degree 26 = .ok (.ireturn, 1) := by decide +kernel
theorem dX11_degree_27 : decode cX11_degree 27 = .ok (.iload_n 2, 1) := by decide +kernel
theorem dX11_degree_28 : decode cX11_degree 28 = .ok (.ifCond .ne 14, 3) := by decide +kernel
theorem dX11_degree_31 : decode cX11_degree 31 = .ok (.aload_n 0, 1) := by decide +kernel
theorem dX11_degree_32 : decode cX11_degree 32 = .ok (.getfield 69, 3) := by decide +kernel
theorem dX11_degree_35 : decode cX11_degree 35 = .ok (.iload_n 1, 1) := by decide +kernel
theorem dX11_degree_36 : decode cX11_degree 36 = .ok (.invokestatic 190, 3) := by decide +kernel
theorem dX11_degree_39 : decode cX11_degree 39 = .ok (.goto 11, 3) := by decide +kernel
theorem dX11_degree_42 : decode cX11_degree 42 = .ok (.aload_n 0, 1) := by decide +kernel
theorem dX11_degree_43 : decode cX11_degree 43 = .ok (.getfield 69, 3) := by decide +kernel
theorem dX11_degree_46 : decode cX11_degree 46 = .ok (.iload_n 1, 1) := by decide +kernel
theorem dX11_degree_47 : decode cX11_degree 47 = .ok (.invokestatic 194, 3) := by decide +kernel
theorem dX11_degree_50 : decode cX11_degree 50 = .ok (.ireturn, 1) := by decide +kernel
theorem dX11_kind_0 : decode cX11_kind 0 = .ok (.aload_n 0, 1) := by decide +kernel
theorem dX11_kind_1 : decode cX11_kind 1 = .ok (.iconst 0, 1) := by decide +kernel
theorem dX11_kind_2 : decode cX11_kind 2 = .ok (.putfield 1, 3) := by decide +kernel
theorem dX11_kind_5 : decode cX11_kind 5 = .ok (.aload_n 0, 1) := by decide +kernel
theorem dX11_kind_6 : decode cX11_kind 6 = .ok (.getfield 69, 3) := by decide +kernel
theorem dX11_kind_9 : decode cX11_kind 9 = .ok (.invokestatic 222, 3) := by decide +kernel
theorem dX11_kind_12 : decode cX11_kind 12 = .ok (.ireturn, 1) := by decide +kernel
theorem dX11_only_0 : decode cX11_only 0 = .ok (.iconst 0, 1) := by decide +kernel
theorem dX11_only_1 : decode cX11_only 1 = .ok (.istore_n 1, 1) := by decide +kernel
theorem dX11_only_2 : decode cX11_only 2 = .ok (.iload_n 0, 1) := by decide +kernel
theorem dX11_only_3 : decode cX11_only 3 = .ok (.iload_n 1, 1) := by decide +kernel
theorem dX11_only_4 : decode cX11_only 4 = .ok (.invokestatic 178, 3) := by decide +kernel
theorem dX11_only_7 : decode cX11_only 7 = .ok (.ifCond .ne 9, 3) := by decide +kernel
theorem dX11_only_10 : decode cX11_only 10 = .ok (.iinc 1 1, 3) := by decide +kernel
theorem dX11_only_13 : decode cX11_only 13 = .ok (.goto (-11), 3) := by decide +kernel
theorem dX11_only_16 : decode cX11_only 16 = .ok (.iload_n 1, 1) := by decide +kernel
theorem dX11_only_17 : decode cX11_only 17 = .ok (.ireturn, 1) := by decide +kernel
theorem dX11_start_0 : decode cX11_start 0 = .ok (.aload_n 0, 1) := by decide +kernel
theorem dX11_start_1 : decode cX11_start 1 = .ok (.invokestatic 222, 3) := by decide +kernel
theorem dX11_start_4 : decode cX11_start 4 = .ok (.iconst 1, 1) := by decide +kernel
theorem dX11_start_5 : decode cX11_start 5 = .ok (.if_icmp .ne 9, 3) := by decide +kernel
theorem dX11_start_8 : decode cX11_start 8 = .ok (.aload_n 0, 1) := by decide +kernel
theorem dX11_start_9 : decode cX11_start 9 = .ok (.iconst 2, 1) := by decide +kernel
theorem dX11_start_10 : decode cX11_start 10 = .ok (.iaload, 1) := by decide +kernel
theorem dX11_start_11 : decode cX11_start 11 = .ok (.goto 11, 3) := by decide +kernel
theorem dX11_start_14 : decode cX11_start 14 = .ok (.aload_n 0, 1) := by decide +kernel
theorem dX11_start_15 : decode cX11_start 15 = .ok (.iconst 1, 1) := by decide +kernel
theorem dX11_start_16 : decode cX11_start 16 = .ok (.invokestatic 207, 3) := by decide +kernel
theorem dX11_start_19 : decode cX11_start 19 = .ok (.invokestatic 225, 3) := by decide +kernel
theorem dX11_start_22 : decode cX11_start 22 = .ok (.ireturn, 1) := by decide +kernel
theorem dX11_last_0 : decode cX11_last 0 = .ok (.aload_n 0, 1) := by decide +kernel
theorem dX11_last_1 : decode cX11_last 1 = .ok (.invokestatic 222, 3) := by decide +kernel
theorem dX11_last_4 : decode cX11_last 4 = .ok (.iconst 1, 1) := by decide +kernel
theorem dX11_last_5 : decode cX11_last 5 = .ok (.if_icmp .ne 9, 3) := by decide +kernel
theorem dX11_last_8 : decode cX11_last 8 = .ok (.aload_n 0, 1) := by decide +kernel
theorem dX11_last_9 : decode cX11_last 9 = .ok (.iconst 2, 1) := by decide +kernel
theorem dX11_last_10 : decode cX11_last 10 = .ok (.iaload, 1) := by decide +kernel
theorem dX11_last_11 : decode cX11_last 11 = .ok (.goto 11, 3) := by decide +kernel
theorem dX11_last_14 : decode cX11_last 14 = .ok (.aload_n 0, 1) := by decide +kernel
theorem dX11_last_15 : decode cX11_last 15 = .ok (.iconst (-1), 1) := by decide +kernel
theorem dX11_last_16 : decode cX11_last 16 = .ok (.invokestatic 207, 3) := by decide +kernel
theorem dX11_last_19 : decode cX11_last 19 = .ok (.invokestatic 225, 3) := by decide +kernel
theorem dX11_last_22 : decode cX11_last 22 = .ok (.ireturn, 1) := by decide +kernel
theorem dX11_ends_0 : decode cX11_ends 0 = .ok (.aload_n 0, 1) := by decide +kernel
theorem dX11_ends_1 : decode cX11_ends 1 = .ok (.iconst 0, 1) := by decide +kernel
theorem dX11_ends_2 : decode cX11_ends 2 = .ok (.putfield 1, 3) := by decide +kernel
theorem dX11_ends_5 : decode cX11_ends 5 = .ok (.aload_n 0, 1) := by decide +kernel
theorem dX11_ends_6 : decode cX11_ends 6 = .ok (.getfield 69, 3) := by decide +kernel
theorem dX11_ends_9 : decode cX11_ends 9 = .ok (.invokestatic 222, 3) := by decide +kernel
theorem dX11_ends_12 : decode cX11_ends 12 = .ok (.ifCond .eq 12, 3) := by decide +kernel
theorem dX11_ends_15 : decode cX11_ends 15 = .ok (.iload_n 1, 1) := by decide +kernel
theorem dX11_ends_16 : decode cX11_ends 16 = .ok (.iconst 0, 1) := by decide +kernel
theorem dX11_ends_17 : decode cX11_ends 17 = .ok (.iconst 1, 1) := by decide +kernel
theorem dX11_ends_18 : decode cX11_ends 18 = .ok (.invokestatic 171, 3) := by decide +kernel
theorem dX11_ends_21 : decode cX11_ends 21 = .ok (.ifCond .ne 5, 3) := by decide +kernel
theorem dX11_ends_24 : decode cX11_ends 24 = .ok (.iconst (-1), 1) := by decide +kernel
theorem dX11_ends_25 : decode cX11_ends 25 = .ok (.ireturn, 1) := by decide +kernel
theorem dX11_ends_26 : decode cX11_ends 26 = .ok (.iload_n 1, 1) := by decide +kernel
theorem dX11_ends_27 : decode cX11_ends 27 = .ok (.ifCond .ne 13, 3) := by decide +kernel
theorem dX11_ends_30 : decode cX11_ends 30 = .ok (.aload_n 0, 1) := by decide +kernel
theorem dX11_ends_31 : decode cX11_ends 31 = .ok (.getfield 69, 3) := by decide +kernel
theorem dX11_ends_34 : decode cX11_ends 34 = .ok (.invokestatic 228, 3) := by decide +kernel
theorem dX11_ends_37 : decode cX11_ends 37 = .ok (.goto 10, 3) := by decide +kernel
theorem dX11_ends_40 : decode cX11_ends 40 = .ok (.aload_n 0, 1) := by decide +kernel
theorem dX11_ends_41 : decode cX11_ends 41 = .ok (.getfield 69, 3) := by decide +kernel
theorem dX11_ends_44 : decode cX11_ends 44 = .ok (.invokestatic 231, 3) := by decide +kernel
theorem dX11_ends_47 : decode cX11_ends 47 = .ok (.ireturn, 1) := by decide +kernel
theorem dX11_chooses_0 : decode cX11_chooses 0 = .ok (.iload_n 2, 1) := by decide +kernel
theorem dX11_chooses_1 : decode cX11_chooses 1 = .ok (.aload_n 0, 1) := by decide +kernel
theorem dX11_chooses_2 : decode cX11_chooses 2 = .ok (.invokevirtual 168, 3) := by decide +kernel
theorem dX11_chooses_5 : decode cX11_chooses 5 = .ok (.if_icmp .ne 33, 3) := by decide +kernel
theorem dX11_chooses_8 : decode cX11_chooses 8 = .ok (.aload_n 0, 1) := by decide +kernel
theorem dX11_chooses_9 : decode cX11_chooses 9 = .ok (.iload_n 1, 1) := by decide +kernel
theorem dX11_chooses_10 : decode cX11_chooses 10 = .ok (.iload_n 3, 1) := by decide +kernel
theorem dX11_chooses_11 : decode cX11_chooses 11 = .ok (.invokevirtual 234, 3) := by decide +kernel
theorem dX11_chooses_14 : decode cX11_chooses 14 = .ok (.ifCond .eq 23, 3) := by decide +kernel
theorem dX11_chooses_17 : decode cX11_chooses 17 = .ok (.aload_n 0, 1) := by decide +kernel
theorem dX11_chooses_18 : decode cX11_chooses 18 = .ok (.getfield 98, 3) := by decide +kernel
theorem dX11_chooses_21 : decode cX11_chooses 21 = .ok (.aload_n 0, 1) := by decide +kernel
theorem dX11_chooses_22 : decode cX11_chooses 22 = .ok (.getfield 237, 3) := by decide +kernel
theorem dX11_chooses_25 : decode cX11_chooses 25 = .ok (.iload_n 3, 1) := by decide +kernel
theorem dX11_chooses_26 : decode cX11_chooses 26 = .ok (.iastore, 1) := by decide +kernel
theorem dX11_chooses_27 : decode cX11_chooses 27 = .ok (.aload_n 0, 1) := by decide +kernel
theorem dX11_chooses_28 : decode cX11_chooses 28 = .ok (.dup, 1) := by decide +kernel
theorem dX11_chooses_29 : decode cX11_chooses 29 = .ok (.getfield 237, 3) := by decide +kernel
theorem dX11_chooses_32 : decode cX11_chooses 32 = .ok (.iconst 1, 1) := by decide +kernel
theorem dX11_chooses_33 : decode cX11_chooses 33 = .ok (.iadd, 1) := by decide +kernel
theorem dX11_chooses_34 : decode cX11_chooses 34 = .ok (.putfield 237, 3) := by decide +kernel
theorem dX11_chooses_37 : decode cX11_chooses 37 = .ok (.return_, 1) := by decide +kernel
theorem dX11_chooses_38 : decode cX11_chooses 38 = .ok (.iload_n 2, 1) := by decide +kernel
theorem dX11_chooses_39 : decode cX11_chooses 39 = .ok (.iload_n 1, 1) := by decide +kernel
theorem dX11_chooses_40 : decode cX11_chooses 40 = .ok (.if_icmp .eq 17, 3) := by decide +kernel
theorem dX11_chooses_43 : decode cX11_chooses 43 = .ok (.aload_n 0, 1) := by decide +kernel
theorem dX11_chooses_44 : decode cX11_chooses 44 = .ok (.getfield 69, 3) := by decide +kernel
theorem dX11_chooses_47 : decode cX11_chooses 47 = .ok (.invokestatic 186, 3) := by decide +kernel
theorem dX11_chooses_50 : decode cX11_chooses 50 = .ok (.iload_n 2, 1) := by decide +kernel
theorem dX11_chooses_51 : decode cX11_chooses 51 = .ok (.invokestatic 178, 3) := by decide +kernel
theorem dX11_chooses_54 : decode cX11_chooses 54 = .ok (.ifCond .ne 13, 3) := by decide +kernel
theorem dX11_chooses_57 : decode cX11_chooses 57 = .ok (.aload_n 0, 1) := by decide +kernel
theorem dX11_chooses_58 : decode cX11_chooses 58 = .ok (.iload_n 1, 1) := by decide +kernel
theorem dX11_chooses_59 : decode cX11_chooses 59 = .ok (.iload_n 2, 1) := by decide +kernel
theorem dX11_chooses_60 : decode cX11_chooses 60 = .ok (.iconst 1, 1) := by decide +kernel
theorem dX11_chooses_61 : decode cX11_chooses 61 = .ok (.iadd, 1) := by decide +kernel
theorem dX11_chooses_62 : decode cX11_chooses 62 = .ok (.iload_n 3, 1) := by decide +kernel
theorem dX11_chooses_63 : decode cX11_chooses 63 = .ok (.invokevirtual 240, 3) := by decide +kernel
theorem dX11_chooses_66 : decode cX11_chooses 66 = .ok (.return_, 1) := by decide +kernel
theorem dX11_chooses_67 : decode cX11_chooses 67 = .ok (.iconst 0, 1) := by decide +kernel
theorem dX11_chooses_68 : decode cX11_chooses 68 = .ok (.istore 4, 2) := by decide +kernel
theorem dX11_chooses_70 : decode cX11_chooses 70 = .ok (.iload 4, 2) := by decide +kernel
theorem dX11_chooses_72 : decode cX11_chooses 72 = .ok (.aload_n 0, 1) := by decide +kernel
theorem dX11_chooses_73 : decode cX11_chooses 73 = .ok (.invokevirtual 175, 3) := by decide +kernel
theorem dX11_chooses_76 : decode cX11_chooses 76 = .ok (.if_icmp .ge 36, 3) := by decide +kernel
theorem dX11_chooses_79 : decode cX11_chooses 79 = .ok (.aload_n 0, 1) := by decide +kernel
theorem dX11_chooses_80 : decode cX11_chooses 80 = .ok (.getfield 69, 3) := by decide +kernel
theorem dX11_chooses_83 : decode cX11_chooses 83 = .ok (.iconst 2, 1) := by decide +kernel
theorem dX11_chooses_84 : decode cX11_chooses 84 = .ok (.iload 4, 2) := by decide +kernel
theorem dX11_chooses_86 : decode cX11_chooses 86 = .ok (.iadd, 1) := by decide +kernel
theorem dX11_chooses_87 : decode cX11_chooses 87 = .ok (.iaload, 1) := by decide +kernel
theorem dX11_chooses_88 : decode cX11_chooses 88 = .ok (.iload_n 2, 1) := by decide +kernel
theorem dX11_chooses_89 : decode cX11_chooses 89 = .ok (.if_icmp .ne 17, 3) := by decide +kernel
theorem dX11_chooses_92 : decode cX11_chooses 92 = .ok (.aload_n 0, 1) := by decide +kernel
theorem dX11_chooses_93 : decode cX11_chooses 93 = .ok (.iload_n 1, 1) := by decide +kernel
theorem dX11_chooses_94 : decode cX11_chooses 94 = .ok (.iload_n 2, 1) := by decide +kernel
theorem dX11_chooses_95 : decode cX11_chooses 95 = .ok (.iconst 1, 1) := by decide +kernel
theorem dX11_chooses_96 : decode cX11_chooses 96 = .ok (.iadd, 1) := by decide +kernel
theorem dX11_chooses_97 : decode cX11_chooses 97 = .ok (.iload_n 3, 1) := by decide +kernel
theorem dX11_chooses_98 : decode cX11_chooses 98 = .ok (.iconst 1, 1) := by decide +kernel
theorem dX11_chooses_99 : decode cX11_chooses 99 = .ok (.iload 4, 2) := by decide +kernel
theorem dX11_chooses_101 : decode cX11_chooses 101 = .ok (.ishl, 1) := by decide +kernel
theorem dX11_chooses_102 : decode cX11_chooses 102 = .ok (.ior, 1) := by decide +kernel
theorem dX11_chooses_103 : decode cX11_chooses 103 = .ok (.invokevirtual 240, 3) := by decide +kernel
theorem dX11_chooses_106 : decode cX11_chooses 106 = .ok (.iinc 4 1, 3) := by decide +kernel
theorem dX11_chooses_109 : decode cX11_chooses 109 = .ok (.goto (-39), 3) := by decide +kernel
theorem dX11_chooses_112 : decode cX11_chooses 112 = .ok (.return_, 1) := by decide +kernel
theorem dX11_isTree_0 : decode cX11_isTree 0 = .ok (.iconst 1, 1) := by decide +kernel
theorem dX11_isTree_1 : decode cX11_isTree 1 = .ok (.iload_n 1, 1) := by decide +kernel
theorem dX11_isTree_2 : decode cX11_isTree 2 = .ok (.ishl, 1) := by decide +kernel
theorem dX11_isTree_3 : decode cX11_isTree 3 = .ok (.istore_n 3, 1) := by decide +kernel
theorem dX11_isTree_4 : decode cX11_isTree 4 = .ok (.iconst 0, 1) := by decide +kernel
theorem dX11_isTree_5 : decode cX11_isTree 5 = .ok (.istore 4, 2) := by decide +kernel
theorem dX11_isTree_7 : decode cX11_isTree 7 = .ok (.iload_n 3, 1) := by decide +kernel
theorem dX11_isTree_8 : decode cX11_isTree 8 = .ok (.iload 4, 2) := by decide +kernel
theorem dX11_isTree_10 : decode cX11_isTree 10 = .ok (.if_icmp .eq 67, 3) := by decide +kernel
theorem dX11_isTree_13 : decode cX11_isTree 13 = .ok (.iload_n 3, 1) := by decide +kernel
theorem dX11_isTree_14 : decode cX11_isTree 14 = .ok (.istore 4, 2) := by decide +kernel
theorem dX11_isTree_16 : decode cX11_isTree 16 = .ok (.iconst 0, 1) := by decide +kernel
theorem dX11_isTree_17 : decode cX11_isTree 17 = .ok (.istore 5, 2) := by decide +kernel
theorem dX11_isTree_19 : decode cX11_isTree 19 = .ok (.iload 5, 2) := by decide +kernel
theorem dX11_isTree_21 : decode cX11_isTree 21 = .ok (.aload_n 0, 1) := by decide +kernel
theorem dX11_isTree_22 : decode cX11_isTree 22 = .ok (.invokevirtual 175, 3) := by decide +kernel
theorem dX11_isTree_25 : decode cX11_isTree 25 = .ok (.if_icmp .ge 49, 3) := by decide +kernel
theorem dX11_isTree_28 : decode cX11_isTree 28 = .ok (.iload_n 2, 1) := by decide +kernel
theorem dX11_isTree_29 : decode cX11_isTree 29 = .ok (.iload 5, 2) := by decide +kernel
theorem dX11_isTree_31 : decode cX11_isTree 31 = .ok (.invokestatic 178, 3) := by decide +kernel
theorem dX11_isTree_34 : decode cX11_isTree 34 = .ok (.ifCond .eq 34, 3) := by decide +kernel
theorem dX11_isTree_37 : decode cX11_isTree 37 = .ok (.iload_n 3, 1) := by decide +kernel
theorem dX11_isTree_38 : decode cX11_isTree 38 = .ok (.aload_n 0, 1) := by decide +kernel
theorem dX11_isTree_39 : decode cX11_isTree 39 = .ok (.getfield 69, 3) := by decide +kernel
theorem dX11_isTree_42 : decode cX11_isTree 42 = .ok (.bipush 18, 2) := by decide +kernel
theorem dX11_isTree_44 : decode cX11_isTree 44 = .ok (.iload 5, 2) := by decide +kernel
theorem dX11_isTree_46 : decode cX11_isTree 46 = .ok (.iadd, 1) := by decide +kernel
theorem dX11_isTree_47 : decode cX11_isTree 47 = .ok (.iaload, 1) := by decide +kernel
theorem dX11_isTree_48 : decode cX11_isTree 48 = .ok (.invokestatic 178, 3) := by decide +kernel
theorem dX11_isTree_51 : decode cX11_isTree 51 = .ok (.ifCond .eq 17, 3) := by decide +kernel
theorem dX11_isTree_54 : decode cX11_isTree 54 = .ok (.iload_n 3, 1) := by decide +kernel
theorem dX11_isTree_55 : decode cX11_isTree 55 = .ok (.iconst 1, 1) := by decide +kernel
theorem dX11_isTree_56 : decode cX11_isTree 56 = .ok (.aload_n 0, 1) := by decide +kernel
theorem dX11_isTree_57 : decode cX11_isTree 57 = .ok (.getfield 69, 3) := by decide +kernel
theorem dX11_isTree_60 : decode cX11_isTree 60 = .ok (.iconst 2, 1) := by decide +kernel
theorem dX11_isTree_61 : decode cX11_isTree 61 = .ok (.iload 5, 2) := by decide +kernel
theorem dX11_isTree_63 : decode cX11_isTree 63 = .ok (.iadd, 1) := by decide +kernel
theorem dX11_isTree_64 : decode cX11_isTree 64 = .ok (.iaload, 1) := by decide +kernel
theorem dX11_isTree_65 : decode cX11_isTree 65 = .ok (.ishl, 1) := by decide +kernel
theorem dX11_isTree_66 : decode cX11_isTree 66 = .ok (.ior, 1) := by decide +kernel
theorem dX11_isTree_67 : decode cX11_isTree 67 = .ok (.istore_n 3, 1) := by decide +kernel
theorem dX11_isTree_68 : decode cX11_isTree 68 = .ok (.iinc 5 1, 3) := by decide +kernel
theorem dX11_isTree_71 : decode cX11_isTree 71 = .ok (.goto (-52), 3) := by decide +kernel
theorem dX11_isTree_74 : decode cX11_isTree 74 = .ok (.goto (-67), 3) := by decide +kernel
theorem dX11_isTree_77 : decode cX11_isTree 77 = .ok (.iload_n 3, 1) := by decide +kernel
theorem dX11_isTree_78 : decode cX11_isTree 78 = .ok (.aload_n 0, 1) := by decide +kernel
theorem dX11_isTree_79 : decode cX11_isTree 79 = .ok (.getfield 69, 3) := by decide +kernel
theorem dX11_isTree_82 : decode cX11_isTree 82 = .ok (.invokestatic 186, 3) := by decide +kernel
theorem dX11_isTree_85 : decode cX11_isTree 85 = .ok (.if_icmp .ne 7, 3) := by decide +kernel
theorem dX11_isTree_88 : decode cX11_isTree 88 = .ok (.iconst 1, 1) := by decide +kernel
theorem dX11_isTree_89 : decode cX11_isTree 89 = .ok (.goto 4, 3) := by decide +kernel
theorem dX11_isTree_92 : decode cX11_isTree 92 = .ok (.iconst 0, 1) := by decide +kernel
theorem dX11_isTree_93 : decode cX11_isTree 93 = .ok (.ireturn, 1) := by decide +kernel
theorem dX11_laysTrees_0 : decode cX11_laysTrees 0 = .ok (.aload_n 0, 1) := by decide +kernel
theorem dX11_laysTrees_1 : decode cX11_laysTrees 1 = .ok (.iconst 0, 1) := by decide +kernel
theorem dX11_laysTrees_2 : decode cX11_laysTrees 2 = .ok (.putfield 237, 3) := by decide +kernel
theorem dX11_laysTrees_5 : decode cX11_laysTrees 5 = .ok (.aload_n 0, 1) := by decide +kernel
theorem dX11_laysTrees_6 : decode cX11_laysTrees 6 = .ok (.iload_n 1, 1) := by decide +kernel
theorem dX11_laysTrees_7 : decode cX11_laysTrees 7 = .ok (.iconst 0, 1) := by decide +kernel
theorem dX11_laysTrees_8 : decode cX11_laysTrees 8 = .ok (.iconst 0, 1) := by decide +kernel
theorem dX11_laysTrees_9 : decode cX11_laysTrees 9 = .ok (.invokevirtual 240, 3) := by decide +kernel
theorem dX11_laysTrees_12 : decode cX11_laysTrees 12 = .ok (.return_, 1) := by decide +kernel
theorem dX11_trees_0 : decode cX11_trees 0 = .ok (.aload_n 0, 1) := by decide +kernel
theorem dX11_trees_1 : decode cX11_trees 1 = .ok (.iconst 0, 1) := by decide +kernel
theorem dX11_trees_2 : decode cX11_trees 2 = .ok (.putfield 1, 3) := by decide +kernel
theorem dX11_trees_5 : decode cX11_trees 5 = .ok (.aload_n 0, 1) := by decide +kernel
theorem dX11_trees_6 : decode cX11_trees 6 = .ok (.iload_n 1, 1) := by decide +kernel
theorem dX11_trees_7 : decode cX11_trees 7 = .ok (.invokevirtual 219, 3) := by decide +kernel
theorem dX11_trees_10 : decode cX11_trees 10 = .ok (.ifCond .eq 17, 3) := by decide +kernel
theorem dX11_trees_13 : decode cX11_trees 13 = .ok (.aload_n 0, 1) := by decide +kernel
theorem dX11_trees_14 : decode cX11_trees 14 = .ok (.getfield 69, 3) := by decide +kernel
theorem dX11_trees_17 : decode cX11_trees 17 = .ok (.invokestatic 186, 3) := by decide +kernel
theorem dX11_trees_20 : decode cX11_trees 20 = .ok (.iload_n 1, 1) := by decide +kernel
theorem dX11_trees_21 : decode cX11_trees 21 = .ok (.invokestatic 178, 3) := by decide +kernel
theorem dX11_trees_24 : decode cX11_trees 24 = .ok (.ifCond .ne 7, 3) := by decide +kernel
theorem dX11_trees_27 : decode cX11_trees 27 = .ok (.ldc2_w 244, 3) := by decide +kernel
theorem dX11_trees_30 : decode cX11_trees 30 = .ok (.lreturn, 1) := by decide +kernel
theorem dX11_trees_31 : decode cX11_trees 31 = .ok (.aload_n 0, 1) := by decide +kernel
theorem dX11_trees_32 : decode cX11_trees 32 = .ok (.iload_n 1, 1) := by decide +kernel
theorem dX11_trees_33 : decode cX11_trees 33 = .ok (.invokevirtual 246, 3) := by decide +kernel
theorem dX11_trees_36 : decode cX11_trees 36 = .ok (.aload_n 0, 1) := by decide +kernel
theorem dX11_trees_37 : decode cX11_trees 37 = .ok (.getfield 237, 3) := by decide +kernel
theorem dX11_trees_40 : decode cX11_trees 40 = .ok (.i2l, 1) := by decide +kernel
theorem dX11_trees_41 : decode cX11_trees 41 = .ok (.lreturn, 1) := by decide +kernel
theorem dX11_tree_0 : decode cX11_tree 0 = .ok (.aload_n 0, 1) := by decide +kernel
theorem dX11_tree_1 : decode cX11_tree 1 = .ok (.iconst 0, 1) := by decide +kernel
theorem dX11_tree_2 : decode cX11_tree 2 = .ok (.putfield 1, 3) := by decide +kernel
theorem dX11_tree_5 : decode cX11_tree 5 = .ok (.aload_n 0, 1) := by decide +kernel
theorem dX11_tree_6 : decode cX11_tree 6 = .ok (.iload_n 1, 1) := by decide +kernel
theorem dX11_tree_7 : decode cX11_tree 7 = .ok (.invokevirtual 219, 3) := by decide +kernel
theorem dX11_tree_10 : decode cX11_tree 10 = .ok (.ifCond .eq 17, 3) := by decide +kernel
theorem dX11_tree_13 : decode cX11_tree 13 = .ok (.aload_n 0, 1) := by decide +kernel
theorem dX11_tree_14 : decode cX11_tree 14 = .ok (.getfield 69, 3) := by decide +kernel
theorem dX11_tree_17 : decode cX11_tree 17 = .ok (.invokestatic 186, 3) := by decide +kernel
theorem dX11_tree_20 : decode cX11_tree 20 = .ok (.iload_n 1, 1) := by decide +kernel
theorem dX11_tree_21 : decode cX11_tree 21 = .ok (.invokestatic 178, 3) := by decide +kernel
theorem dX11_tree_24 : decode cX11_tree 24 = .ok (.ifCond .ne 8, 3) := by decide +kernel
theorem dX11_tree_27 : decode cX11_tree 27 = .ok (.aload_n 0, 1) := by decide +kernel
theorem dX11_tree_28 : decode cX11_tree 28 = .ok (.invokevirtual 216, 3) := by decide +kernel
theorem dX11_tree_31 : decode cX11_tree 31 = .ok (.ireturn, 1) := by decide +kernel
theorem dX11_tree_32 : decode cX11_tree 32 = .ok (.aload_n 0, 1) := by decide +kernel
theorem dX11_tree_33 : decode cX11_tree 33 = .ok (.iload_n 1, 1) := by decide +kernel
theorem dX11_tree_34 : decode cX11_tree 34 = .ok (.invokevirtual 246, 3) := by decide +kernel
theorem dX11_tree_37 : decode cX11_tree 37 = .ok (.iconst 0, 1) := by decide +kernel
theorem dX11_tree_38 : decode cX11_tree 38 = .ok (.istore_n 3, 1) := by decide +kernel
theorem dX11_tree_39 : decode cX11_tree 39 = .ok (.iload_n 3, 1) := by decide +kernel
theorem dX11_tree_40 : decode cX11_tree 40 = .ok (.aload_n 0, 1) := by decide +kernel
theorem dX11_tree_41 : decode cX11_tree 41 = .ok (.getfield 237, 3) := by decide +kernel
theorem dX11_tree_44 : decode cX11_tree 44 = .ok (.if_icmp .ge 62, 3) := by decide +kernel
theorem dX11_tree_47 : decode cX11_tree 47 = .ok (.iconst 0, 1) := by decide +kernel
theorem dX11_tree_48 : decode cX11_tree 48 = .ok (.istore 4, 2) := by decide +kernel
theorem dX11_tree_50 : decode cX11_tree 50 = .ok (.iconst 0, 1) := by decide +kernel
theorem dX11_tree_51 : decode cX11_tree 51 = .ok (.istore 5, 2) := by decide +kernel
theorem dX11_tree_53 : decode cX11_tree 53 = .ok (.iload 5, 2) := by decide +kernel
theorem dX11_tree_55 : decode cX11_tree 55 = .ok (.aload_n 0, 1) := by decide +kernel
theorem dX11_tree_56 : decode cX11_tree 56 = .ok (.getfield 237, 3) := by decide +kernel
theorem dX11_tree_59 : decode cX11_tree 59 = .ok (.if_icmp .ge 28, 3) := by decide +kernel
theorem dX11_tree_62 : decode cX11_tree 62 = .ok (.aload_n 0, 1) := by decide +kernel
theorem dX11_tree_63 : decode cX11_tree 63 = .ok (.getfield 98, 3) := by decide +kernel
theorem dX11_tree_66 : decode cX11_tree 66 = .ok (.iload 5, 2) := by decide +kernel
theorem dX11_tree_68 : decode cX11_tree 68 = .ok (.iaload, 1) := by decide +kernel
theorem dX11_tree_69 : decode cX11_tree 69 = .ok (.aload_n 0, 1) := by decide +kernel
theorem dX11_tree_70 : decode cX11_tree 70 = .ok (.getfield 98, 3) := by decide +kernel
theorem dX11_tree_73 : decode cX11_tree 73 = .ok (.iload_n 3, 1) := by decide +kernel
theorem dX11_tree_74 : decode cX11_tree 74 = .ok (.iaload, 1) := by decide +kernel
theorem dX11_tree_75 : decode cX11_tree 75 = .ok (.if_icmp .ge 6, 3) := by decide +kernel
theorem dX11_tree_78 : decode cX11_tree 78 = .ok (.iinc 4 1, 3) := by decide +kernel
theorem dX11_tree_81 : decode cX11_tree 81 = .ok (.iinc 5 1, 3) := by decide +kernel
theorem dX11_tree_84 : decode cX11_tree 84 = .ok (.goto (-31), 3) := by decide +kernel
theorem dX11_tree_87 : decode cX11_tree 87 = .ok (.iload 4, 2) := by decide +kernel
theorem dX11_tree_89 : decode cX11_tree 89 = .ok (.iload_n 2, 1) := by decide +kernel
theorem dX11_tree_90 : decode cX11_tree 90 = .ok (.if_icmp .ne 10, 3) := by decide +kernel
theorem dX11_tree_93 : decode cX11_tree 93 = .ok (.aload_n 0, 1) := by decide +kernel
theorem dX11_tree_94 : decode cX11_tree 94 = .ok (.getfield 98, 3) := by decide +kernel
theorem dX11_tree_97 : decode cX11_tree 97 = .ok (.iload_n 3, 1) := by decide +kernel
theorem dX11_tree_98 : decode cX11_tree 98 = .ok (.iaload, 1) := by decide +kernel
theorem dX11_tree_99 : decode cX11_tree 99 = .ok (.ireturn, 1) := by decide +kernel
theorem dX11_tree_100 : decode cX11_tree 100 = .ok (.iinc 3 1, 3) := by decide +kernel
theorem dX11_tree_103 : decode cX11_tree 103 = .ok (.goto (-64), 3) := by decide +kernel
theorem dX11_tree_106 : decode cX11_tree 106 = .ok (.aload_n 0, 1) := by decide +kernel
theorem dX11_tree_107 : decode cX11_tree 107 = .ok (.invokevirtual 216, 3) := by decide +kernel
theorem dX11_tree_110 : decode cX11_tree 110 = .ok (.ireturn, 1) := by decide +kernel
theorem dX11_where_0 : decode cX11_where 0 = .ok (.iconst 0, 1) := by decide +kernel
theorem dX11_where_1 : decode cX11_where 1 = .ok (.istore 4, 2) := by decide +kernel
theorem dX11_where_3 : decode cX11_where 3 = .ok (.iload 4, 2) := by decide +kernel
theorem dX11_where_5 : decode cX11_where 5 = .ok (.bipush 8, 2) := by decide +kernel
theorem dX11_where_7 : decode cX11_where 7 = .ok (.if_icmp .ge 27, 3) := by decide +kernel
theorem dX11_where_10 : decode cX11_where 10 = .ok (.aload_n 0, 1) := by decide +kernel
theorem dX11_where_11 : decode cX11_where 11 = .ok (.getfield 105, 3) := by decide +kernel
theorem dX11_where_14 : decode cX11_where 14 = .ok (.iload 4, 2) := by decide +kernel
theorem dX11_where_16 : decode cX11_where 16 = .ok (.iload 4, 2) := by decide +kernel
theorem dX11_where_18 : decode cX11_where 18 = .ok (.iload_n 2, 1) := by decide +kernel
theorem dX11_where_19 : decode cX11_where 19 = .ok (.if_icmp .ne 7, 3) := by decide +kernel
theorem dX11_where_22 : decode cX11_where 22 = .ok (.iconst 1, 1) := by decide +kernel
theorem dX11_where_23 : decode cX11_where 23 = .ok (.goto 4, 3) := by decide +kernel
theorem dX11_where_26 : decode cX11_where 26 = .ok (.iconst 0, 1) := by decide +kernel
theorem dX11_where_27 : decode cX11_where 27 = .ok (.iastore, 1) := by decide +kernel
theorem dX11_where_28 : decode cX11_where 28 = .ok (.iinc 4 1, 3) := by decide +kernel
theorem dX11_where_31 : decode cX11_where 31 = .ok (.goto (-28), 3) := by decide +kernel
theorem dX11_where_34 : decode cX11_where 34 = .ok (.iconst 0, 1) := by decide +kernel
theorem dX11_where_35 : decode cX11_where 35 = .ok (.istore 4, 2) := by decide +kernel
theorem dX11_where_37 : decode cX11_where 37 = .ok (.iload 4, 2) := by decide +kernel
theorem dX11_where_39 : decode cX11_where 39 = .ok (.aload_n 1, 1) := by decide +kernel
theorem dX11_where_40 : decode cX11_where 40 = .ok (.iconst 1, 1) := by decide +kernel
theorem dX11_where_41 : decode cX11_where 41 = .ok (.iaload, 1) := by decide +kernel
theorem dX11_where_42 : decode cX11_where 42 = .ok (.if_icmp .ge 52, 3) := by decide +kernel
theorem dX11_where_45 : decode cX11_where 45 = .ok (.iload_n 3, 1) := by decide +kernel
theorem dX11_where_46 : decode cX11_where 46 = .ok (.iload 4, 2) := by decide +kernel
theorem dX11_where_48 : decode cX11_where 48 = .ok (.invokestatic 178, 3) := by decide +kernel
theorem dX11_where_51 : decode cX11_where 51 = .ok (.ifCond .ne 6, 3) := by decide +kernel
theorem dX11_where_54 : decode cX11_where 54 = .ok (.goto 34, 3) := by decide +kernel
theorem dX11_where_57 : decode cX11_where 57 = .ok (.aload_n 0, 1) := by decide +kernel
theorem dX11_where_58 : decode cX11_where 58 = .ok (.getfield 105, 3) := by decide +kernel
theorem dX11_where_61 : decode cX11_where 61 = .ok (.aload_n 1, 1) := by decide +kernel
theorem dX11_where_62 : decode cX11_where 62 = .ok (.bipush 18, 2) := by decide +kernel
theorem dX11_where_64 : decode cX11_where 64 = .ok (.iload 4, 2) := by decide +kernel
theorem dX11_where_66 : decode cX11_where 66 = .ok (.iadd, 1) := by decide +kernel
theorem dX11_where_67 : decode cX11_where 67 = .ok (.iaload, 1) := by decide +kernel
theorem dX11_where_68 : decode cX11_where 68 = .ok (.dup2, 1) := by decide +kernel
theorem dX11_where_69 : decode cX11_where 69 = .ok (.iaload, 1) := by decide +kernel
theorem dX11_where_70 : decode cX11_where 70 = .ok (.iconst 1, 1) := by decide +kernel
theorem dX11_where_71 : decode cX11_where 71 = .ok (.iadd, 1) := by decide +kernel
theorem dX11_where_72 : decode cX11_where 72 = .ok (.iastore, 1) := by decide +kernel
theorem dX11_where_73 : decode cX11_where 73 = .ok (.aload_n 0, 1) := by decide +kernel
theorem dX11_where_74 : decode cX11_where 74 = .ok (.getfield 105, 3) := by decide +kernel
theorem dX11_where_77 : decode cX11_where 77 = .ok (.aload_n 1, 1) := by decide +kernel
theorem dX11_where_78 : decode cX11_where 78 = .ok (.iconst 2, 1) := by decide +kernel
theorem dX11_where_79 : decode cX11_where 79 = .ok (.iload 4, 2) := by decide +kernel
theorem dX11_where_81 : decode cX11_where 81 = .ok (.iadd, 1) := by decide +kernel
theorem dX11_where_82 : decode cX11_where 82 = .ok (.iaload, 1) := by decide +kernel
theorem dX11_where_83 : decode cX11_where 83 = .ok (.dup2, 1) := by decide +kernel
theorem dX11_where_84 : decode cX11_where 84 = .ok (.iaload, 1) := by decide +kernel
theorem dX11_where_85 : decode cX11_where 85 = .ok (.iconst 1, 1) := by decide +kernel
theorem dX11_where_86 : decode cX11_where 86 = .ok (.isub, 1) := by decide +kernel
theorem dX11_where_87 : decode cX11_where 87 = .ok (.iastore, 1) := by decide +kernel
theorem dX11_where_88 : decode cX11_where 88 = .ok (.iinc 4 1, 3) := by decide +kernel
theorem dX11_where_91 : decode cX11_where 91 = .ok (.goto (-54), 3) := by decide +kernel
theorem dX11_where_94 : decode cX11_where 94 = .ok (.iconst (-1), 1) := by decide +kernel
theorem dX11_where_95 : decode cX11_where 95 = .ok (.istore 4, 2) := by decide +kernel
theorem dX11_where_97 : decode cX11_where 97 = .ok (.iconst 0, 1) := by decide +kernel
theorem dX11_where_98 : decode cX11_where 98 = .ok (.istore 5, 2) := by decide +kernel
theorem dX11_where_100 : decode cX11_where 100 = .ok (.iload 5, 2) := by decide +kernel
theorem dX11_where_102 : decode cX11_where 102 = .ok (.bipush 8, 2) := by decide +kernel
theorem dX11_where_104 : decode cX11_where 104 = .ok (.if_icmp .ge 53, 3) := by decide +kernel
theorem dX11_where_107 : decode cX11_where 107 = .ok (.aload_n 0, 1) := by decide +kernel
theorem dX11_where_108 : decode cX11_where 108 = .ok (.getfield 105, 3) := by decide +kernel
theorem dX11_where_111 : decode cX11_where 111 = .ok (.iload 5, 2) := by decide +kernel
theorem dX11_where_113 : decode cX11_where 113 = .ok (.iaload, 1) := by decide +kernel
theorem dX11_where_114 : decode cX11_where 114 = .ok (.ifCond .eq 22, 3) := by decide +kernel
theorem dX11_where_117 : decode cX11_where 117 = .ok (.aload_n 0, 1) := by decide +kernel
theorem dX11_where_118 : decode cX11_where 118 = .ok (.getfield 105, 3) := by decide +kernel
theorem dX11_where_121 : decode cX11_where 121 = .ok (.iload 5, 2) := by decide +kernel
theorem dX11_where_123 : decode cX11_where 123 = .ok (.iaload, 1) := by decide +kernel
theorem dX11_where_124 : decode cX11_where 124 = .ok (.iconst 1, 1) := by decide +kernel
theorem dX11_where_125 : decode cX11_where 125 = .ok (.if_icmp .ne 9, 3) := by decide +kernel
theorem dX11_where_128 : decode cX11_where 128 = .ok (.iload 4, 2) := by decide +kernel
theorem dX11_where_130 : decode cX11_where 130 = .ok (.iconst (-1), 1) := by decide +kernel
theorem dX11_where_131 : decode cX11_where 131 = .ok (.if_icmp .eq 5, 3) := by decide +kernel
theorem dX11_where_134 : decode cX11_where 134 = .ok (.iconst (-1), 1) := by decide +kernel
theorem dX11_where_135 : decode cX11_where 135 = .ok (.ireturn, 1) := by decide +kernel
theorem dX11_where_136 : decode cX11_where 136 = .ok (.aload_n 0, 1) := by decide +kernel
theorem dX11_where_137 : decode cX11_where 137 = .ok (.getfield 105, 3) := by decide +kernel
theorem dX11_where_140 : decode cX11_where 140 = .ok (.iload 5, 2) := by decide +kernel
theorem dX11_where_142 : decode cX11_where 142 = .ok (.iaload, 1) := by decide +kernel
theorem dX11_where_143 : decode cX11_where 143 = .ok (.iconst 1, 1) := by decide +kernel
theorem dX11_where_144 : decode cX11_where 144 = .ok (.if_icmp .ne 7, 3) := by decide +kernel
theorem dX11_where_147 : decode cX11_where 147 = .ok (.iload 5, 2) := by decide +kernel
theorem dX11_where_149 : decode cX11_where 149 = .ok (.istore 4, 2) := by decide +kernel
theorem dX11_where_151 : decode cX11_where 151 = .ok (.iinc 5 1, 3) := by decide +kernel
theorem dX11_where_154 : decode cX11_where 154 = .ok (.goto (-54), 3) := by decide +kernel
theorem dX11_where_157 : decode cX11_where 157 = .ok (.iload 4, 2) := by decide +kernel
theorem dX11_where_159 : decode cX11_where 159 = .ok (.ireturn, 1) := by decide +kernel
theorem dX11_mayGo_0 : decode cX11_mayGo 0 = .ok (.iload_n 2, 1) := by decide +kernel
theorem dX11_mayGo_1 : decode cX11_mayGo 1 = .ok (.iload_n 3, 1) := by decide +kernel
theorem dX11_mayGo_2 : decode cX11_mayGo 2 = .ok (.invokestatic 178, 3) := by decide +kernel
theorem dX11_mayGo_5 : decode cX11_mayGo 5 = .ok (.ifCond .eq 5, 3) := by decide +kernel
theorem dX11_mayGo_8 : decode cX11_mayGo 8 = .ok (.iconst 0, 1) := by decide +kernel
theorem dX11_mayGo_9 : decode cX11_mayGo 9 = .ok (.ireturn, 1) := by decide +kernel
theorem dX11_mayGo_10 : decode cX11_mayGo 10 = .ok (.iload 4, 2) := by decide +kernel
theorem dX11_mayGo_12 : decode cX11_mayGo 12 = .ok (.iconst 2, 1) := by decide +kernel
theorem dX11_mayGo_13 : decode cX11_mayGo 13 = .ok (.if_icmp .ne 55, 3) := by decide +kernel
theorem dX11_mayGo_16 : decode cX11_mayGo 16 = .ok (.iload_n 3, 1) := by decide +kernel
theorem dX11_mayGo_17 : decode cX11_mayGo 17 = .ok (.ifCond .eq 45, 3) := by decide +kernel
theorem dX11_mayGo_20 : decode cX11_mayGo 20 = .ok (.iload_n 2, 1) := by decide +kernel
theorem dX11_mayGo_21 : decode cX11_mayGo 21 = .ok (.iload_n 3, 1) := by decide +kernel
theorem dX11_mayGo_22 : decode cX11_mayGo 22 = .ok (.iconst 1, 1) := by decide +kernel
theorem dX11_mayGo_23 : decode cX11_mayGo 23 = .ok (.isub, 1) := by decide +kernel
theorem dX11_mayGo_24 : decode cX11_mayGo 24 = .ok (.invokestatic 178, 3) := by decide +kernel
theorem dX11_mayGo_27 : decode cX11_mayGo 27 = .ok (.ifCond .ne 35, 3) := by decide +kernel
theorem dX11_mayGo_30 : decode cX11_mayGo 30 = .ok (.aload_n 1, 1) := by decide +kernel
theorem dX11_mayGo_31 : decode cX11_mayGo 31 = .ok (.iconst 2, 1) := by decide +kernel
theorem dX11_mayGo_32 : decode cX11_mayGo 32 = .ok (.iload_n 3, 1) := by decide +kernel
theorem dX11_mayGo_33 : decode cX11_mayGo 33 = .ok (.iadd, 1) := by decide +kernel
theorem dX11_mayGo_34 : decode cX11_mayGo 34 = .ok (.iaload, 1) := by decide +kernel
theorem dX11_mayGo_35 : decode cX11_mayGo 35 = .ok (.aload_n 1, 1) := by decide +kernel
theorem dX11_mayGo_36 : decode cX11_mayGo 36 = .ok (.iconst 2, 1) := by decide +kernel
theorem dX11_mayGo_37 : decode cX11_mayGo 37 = .ok (.iload_n 3, 1) := by decide +kernel
theorem dX11_mayGo_38 : decode cX11_mayGo 38 = .ok (.iadd, 1) := by decide +kernel
theorem dX11_mayGo_39 : decode cX11_mayGo 39 = .ok (.iconst 1, 1) := by decide +kernel
theorem dX11_mayGo_40 : decode cX11_mayGo 40 = .ok (.isub, 1) := by decide +kernel
theorem dX11_mayGo_41 : decode cX11_mayGo 41 = .ok (.iaload, 1) := by decide +kernel
theorem dX11_mayGo_42 : decode cX11_mayGo 42 = .ok (.if_icmp .ne 20, 3) := by decide +kernel
theorem dX11_mayGo_45 : decode cX11_mayGo 45 = .ok (.aload_n 1, 1) := by decide +kernel
theorem dX11_mayGo_46 : decode cX11_mayGo 46 = .ok (.bipush 18, 2) := by decide +kernel
theorem dX11_mayGo_48 : decode cX11_mayGo 48 = .ok (.iload_n 3, 1) := by decide +kernel
theorem dX11_mayGo_49 : decode cX11_mayGo 49 = .ok (.iadd, 1) := by decide +kernel
theorem dX11_mayGo_50 : decode cX11_mayGo 50 = .ok (.iaload, 1) := by decide +kernel
theorem dX11_mayGo_51 : decode cX11_mayGo 51 = .ok (.aload_n 1, 1) := by decide +kernel
theorem dX11_mayGo_52 : decode cX11_mayGo 52 = .ok (.bipush 18, 2) := by decide +kernel
theorem dX11_mayGo_54 : decode cX11_mayGo 54 = .ok (.iload_n 3, 1) := by decide +kernel
theorem dX11_mayGo_55 : decode cX11_mayGo 55 = .ok (.iadd, 1) := by decide +kernel
theorem dX11_mayGo_56 : decode cX11_mayGo 56 = .ok (.iconst 1, 1) := by decide +kernel
theorem dX11_mayGo_57 : decode cX11_mayGo 57 = .ok (.isub, 1) := by decide +kernel
theorem dX11_mayGo_58 : decode cX11_mayGo 58 = .ok (.iaload, 1) := by decide +kernel
theorem dX11_mayGo_59 : decode cX11_mayGo 59 = .ok (.if_icmp .eq 7, 3) := by decide +kernel
theorem dX11_mayGo_62 : decode cX11_mayGo 62 = .ok (.iconst 1, 1) := by decide +kernel
theorem dX11_mayGo_63 : decode cX11_mayGo 63 = .ok (.goto 4, 3) := by decide +kernel
theorem dX11_mayGo_66 : decode cX11_mayGo 66 = .ok (.iconst 0, 1) := by decide +kernel
theorem dX11_mayGo_67 : decode cX11_mayGo 67 = .ok (.ireturn, 1) := by decide +kernel
theorem dX11_mayGo_68 : decode cX11_mayGo 68 = .ok (.iload 4, 2) := by decide +kernel
theorem dX11_mayGo_70 : decode cX11_mayGo 70 = .ok (.ifCond .eq 15, 3) := by decide +kernel
theorem dX11_mayGo_73 : decode cX11_mayGo 73 = .ok (.aload_n 1, 1) := by decide +kernel
theorem dX11_mayGo_74 : decode cX11_mayGo 74 = .ok (.iconst 2, 1) := by decide +kernel
theorem dX11_mayGo_75 : decode cX11_mayGo 75 = .ok (.iload_n 3, 1) := by decide +kernel
theorem dX11_mayGo_76 : decode cX11_mayGo 76 = .ok (.iadd, 1) := by decide +kernel
theorem dX11_mayGo_77 : decode cX11_mayGo 77 = .ok (.iaload, 1) := by decide +kernel
theorem dX11_mayGo_78 : decode cX11_mayGo 78 = .ok (.aload_n 0, 1) := by decide +kernel
theorem dX11_mayGo_79 : decode cX11_mayGo 79 = .ok (.getfield 249, 3) := by decide +kernel
theorem dX11_mayGo_82 : decode cX11_mayGo 82 = .ok (.if_icmp .ne 5, 3) := by decide +kernel
theorem dX11_mayGo_85 : decode cX11_mayGo 85 = .ok (.iconst 1, 1) := by decide +kernel
theorem dX11_mayGo_86 : decode cX11_mayGo 86 = .ok (.ireturn, 1) := by decide +kernel
theorem dX11_mayGo_87 : decode cX11_mayGo 87 = .ok (.iconst 1, 1) := by decide +kernel
theorem dX11_mayGo_88 : decode cX11_mayGo 88 = .ok (.istore 6, 2) := by decide +kernel
theorem dX11_mayGo_90 : decode cX11_mayGo 90 = .ok (.iconst 0, 1) := by decide +kernel
theorem dX11_mayGo_91 : decode cX11_mayGo 91 = .ok (.istore 7, 2) := by decide +kernel
theorem dX11_mayGo_93 : decode cX11_mayGo 93 = .ok (.iload 7, 2) := by decide +kernel
theorem dX11_mayGo_95 : decode cX11_mayGo 95 = .ok (.aload_n 1, 1) := by decide +kernel
theorem dX11_mayGo_96 : decode cX11_mayGo 96 = .ok (.iconst 1, 1) := by decide +kernel
theorem dX11_mayGo_97 : decode cX11_mayGo 97 = .ok (.iaload, 1) := by decide +kernel
theorem dX11_mayGo_98 : decode cX11_mayGo 98 = .ok (.if_icmp .ge 41, 3) := by decide +kernel
theorem dX11_mayGo_101 : decode cX11_mayGo 101 = .ok (.iload 7, 2) := by decide +kernel
theorem dX11_mayGo_103 : decode cX11_mayGo 103 = .ok (.iload_n 3, 1) := by decide +kernel
theorem dX11_mayGo_104 : decode cX11_mayGo 104 = .ok (.if_icmp .eq 29, 3) := by decide +kernel
theorem dX11_mayGo_107 : decode cX11_mayGo 107 = .ok (.aload_n 1, 1) := by decide +kernel
theorem dX11_mayGo_108 : decode cX11_mayGo 108 = .ok (.iconst 2, 1) := by decide +kernel
theorem dX11_mayGo_109 : decode cX11_mayGo 109 = .ok (.iload 7, 2) := by decide +kernel
theorem dX11_mayGo_111 : decode cX11_mayGo 111 = .ok (.iadd, 1) := by decide +kernel
theorem dX11_mayGo_112 : decode cX11_mayGo 112 = .ok (.iaload, 1) := by decide +kernel
theorem dX11_mayGo_113 : decode cX11_mayGo 113 = .ok (.aload_n 1, 1) := by decide +kernel
theorem dX11_mayGo_114 : decode cX11_mayGo 114 = .ok (.iconst 2, 1) := by decide +kernel
theorem dX11_mayGo_115 : decode cX11_mayGo 115 = .ok (.iload_n 3, 1) := by decide +kernel
theorem dX11_mayGo_116 : decode cX11_mayGo 116 = .ok (.iadd, 1) := by decide +kernel
theorem dX11_mayGo_117 : decode cX11_mayGo 117 = .ok (.iaload, 1) := by decide +kernel
theorem dX11_mayGo_118 : decode cX11_mayGo 118 = .ok (.if_icmp .ne 15, 3) := by decide +kernel
theorem dX11_mayGo_121 : decode cX11_mayGo 121 = .ok (.iload_n 2, 1) := by decide +kernel
theorem dX11_mayGo_122 : decode cX11_mayGo 122 = .ok (.iload 7, 2) := by decide +kernel
theorem dX11_mayGo_124 : decode cX11_mayGo 124 = .ok (.invokestatic 178, 3) := by decide +kernel
theorem dX11_mayGo_127 : decode cX11_mayGo 127 = .ok (.ifCond .ne 6, 3) := by decide +kernel
theorem dX11_mayGo_130 : decode cX11_mayGo 130 = .ok (.iconst 0, 1) := by decide +kernel
theorem dX11_mayGo_131 : decode cX11_mayGo 131 = .ok (.istore 6, 2) := by decide +kernel
theorem dX11_mayGo_133 : decode cX11_mayGo 133 = .ok (.iinc 7 1, 3) := by decide +kernel
theorem dX11_mayGo_136 : decode cX11_mayGo 136 = .ok (.goto (-43), 3) := by decide +kernel
theorem dX11_mayGo_139 : decode cX11_mayGo 139 = .ok (.iload 6, 2) := by decide +kernel
theorem dX11_mayGo_141 : decode cX11_mayGo 141 = .ok (.iload 5, 2) := by decide +kernel
theorem dX11_mayGo_143 : decode cX11_mayGo 143 = .ok (.iload_n 3, 1) := by decide +kernel
theorem dX11_mayGo_144 : decode cX11_mayGo 144 = .ok (.invokestatic 178, 3) := by decide +kernel
theorem dX11_mayGo_147 : decode cX11_mayGo 147 = .ok (.if_icmp .ne 7, 3) := by decide +kernel
theorem dX11_mayGo_150 : decode cX11_mayGo 150 = .ok (.iconst 1, 1) := by decide +kernel
theorem dX11_mayGo_151 : decode cX11_mayGo 151 = .ok (.goto 4, 3) := by decide +kernel
theorem dX11_mayGo_154 : decode cX11_mayGo 154 = .ok (.iconst 0, 1) := by decide +kernel
theorem dX11_mayGo_155 : decode cX11_mayGo 155 = .ok (.ireturn, 1) := by decide +kernel
theorem dX11_laysWays_0 : decode cX11_laysWays 0 = .ok (.iconst 1, 1) := by decide +kernel
theorem dX11_laysWays_1 : decode cX11_laysWays 1 = .ok (.aload_n 1, 1) := by decide +kernel
theorem dX11_laysWays_2 : decode cX11_laysWays 2 = .ok (.iconst 1, 1) := by decide +kernel
theorem dX11_laysWays_3 : decode cX11_laysWays 3 = .ok (.iaload, 1) := by decide +kernel
theorem dX11_laysWays_4 : decode cX11_laysWays 4 = .ok (.ishl, 1) := by decide +kernel
theorem dX11_laysWays_5 : decode cX11_laysWays 5 = .ok (.iconst 1, 1) := by decide +kernel
theorem dX11_laysWays_6 : decode cX11_laysWays 6 = .ok (.isub, 1) := by decide +kernel
theorem dX11_laysWays_7 : decode cX11_laysWays 7 = .ok (.istore 5, 2) := by decide +kernel
theorem dX11_laysWays_9 : decode cX11_laysWays 9 = .ok (.iload 5, 2) := by decide +kernel
theorem dX11_laysWays_11 : decode cX11_laysWays 11 = .ok (.istore 6, 2) := by decide +kernel
theorem dX11_laysWays_13 : decode cX11_laysWays 13 = .ok (.iload 6, 2) := by decide +kernel
theorem dX11_laysWays_15 : decode cX11_laysWays 15 = .ok (.ifCond .lt 120, 3) := by decide +kernel
theorem dX11_laysWays_18 : decode cX11_laysWays 18 = .ok (.aload_n 0, 1) := by decide +kernel
theorem dX11_laysWays_19 : decode cX11_laysWays 19 = .ok (.getfield 102, 3) := by decide +kernel
theorem dX11_laysWays_22 : decode cX11_laysWays 22 = .ok (.iload 6, 2) := by decide +kernel
theorem dX11_laysWays_24 : decode cX11_laysWays 24 = .ok (.iload 6, 2) := by decide +kernel
theorem dX11_laysWays_26 : decode cX11_laysWays 26 = .ok (.iload 5, 2) := by decide +kernel
theorem dX11_laysWays_28 : decode cX11_laysWays 28 = .ok (.if_icmp .ne 7, 3) := by decide +kernel
theorem dX11_laysWays_31 : decode cX11_laysWays 31 = .ok (.lconst 1, 1) := by decide +kernel
theorem dX11_laysWays_32 : decode cX11_laysWays 32 = .ok (.goto 4, 3) := by decide +kernel
theorem dX11_laysWays_35 : decode cX11_laysWays 35 = .ok (.lconst 0, 1) := by decide +kernel
theorem dX11_laysWays_36 : decode cX11_laysWays 36 = .ok (.lastore, 1) := by decide +kernel
theorem dX11_laysWays_37 : decode cX11_laysWays 37 = .ok (.iload 6, 2) := by decide +kernel
theorem dX11_laysWays_39 : decode cX11_laysWays 39 = .ok (.iload 5, 2) := by decide +kernel
theorem dX11_laysWays_41 : decode cX11_laysWays 41 = .ok (.if_icmp .ne 7, 3) := by decide +kernel
theorem dX11_laysWays_44 : decode cX11_laysWays 44 = .ok (.iconst (-1), 1) := by decide +kernel
theorem dX11_laysWays_45 : decode cX11_laysWays 45 = .ok (.goto 11, 3) := by decide +kernel
theorem dX11_laysWays_48 : decode cX11_laysWays 48 = .ok (.aload_n 0, 1) := by decide +kernel
theorem dX11_laysWays_49 : decode cX11_laysWays 49 = .ok (.aload_n 1, 1) := by decide +kernel
theorem dX11_laysWays_50 : decode cX11_laysWays 50 = .ok (.iload_n 2, 1) := by decide +kernel
theorem dX11_laysWays_51 : decode cX11_laysWays 51 = .ok (.iload 6, 2) := by decide +kernel
theorem dX11_laysWays_53 : decode cX11_laysWays 53 = .ok (.invokevirtual 252, 3) := by decide +kernel
theorem dX11_laysWays_56 : decode cX11_laysWays 56 = .ok (.istore 7, 2) := by decide +kernel
theorem dX11_laysWays_58 : decode cX11_laysWays 58 = .ok (.iconst 0, 1) := by decide +kernel
theorem dX11_laysWays_59 : decode cX11_laysWays 59 = .ok (.istore 8, 2) := by decide +kernel
theorem dX11_laysWays_61 : decode cX11_laysWays 61 = .ok (.iload 7, 2) := by decide +kernel
theorem dX11_laysWays_63 : decode cX11_laysWays 63 = .ok (.iconst (-1), 1) := by decide +kernel
theorem dX11_laysWays_64 : decode cX11_laysWays 64 = .ok (.if_icmp .eq 65, 3) := by decide +kernel
theorem dX11_laysWays_67 : decode cX11_laysWays 67 = .ok (.iload 8, 2) := by decide +kernel
theorem dX11_laysWays_69 : decode cX11_laysWays 69 = .ok (.aload_n 1, 1) := by decide +kernel
theorem dX11_laysWays_70 : decode cX11_laysWays 70 = .ok (.iconst 1, 1) := by decide +kernel
theorem dX11_laysWays_71 : decode cX11_laysWays 71 = .ok (.iaload, 1) := by decide +kernel
theorem dX11_laysWays_72 : decode cX11_laysWays 72 = .ok (.if_icmp .ge 57, 3) := by decide +kernel
theorem dX11_laysWays_75 : decode cX11_laysWays 75 = .ok (.aload_n 1, 1) := by decide +kernel
theorem dX11_laysWays_76 : decode cX11_laysWays 76 = .ok (.iconst 2, 1) := by decide +kernel
theorem dX11_laysWays_77 : decode cX11_laysWays 77 = .ok (.iload 8, 2) := by decide +kernel
theorem dX11_laysWays_79 : decode cX11_laysWays 79 = .ok (.iadd, 1) := by decide +kernel
theorem dX11_laysWays_80 : decode cX11_laysWays 80 = .ok (.iaload, 1) := by decide +kernel
theorem dX11_laysWays_81 : decode cX11_laysWays 81 = .ok (.iload 7, 2) := by decide +kernel
theorem dX11_laysWays_83 : decode cX11_laysWays 83 = .ok (.if_icmp .ne 40, 3) := by decide +kernel
theorem dX11_laysWays_86 : decode cX11_laysWays 86 = .ok (.aload_n 0, 1) := by decide +kernel
theorem dX11_laysWays_87 : decode cX11_laysWays 87 = .ok (.aload_n 1, 1) := by decide +kernel
theorem dX11_laysWays_88 : decode cX11_laysWays 88 = .ok (.iload 6, 2) := by decide +kernel
theorem dX11_laysWays_90 : decode cX11_laysWays 90 = .ok (.iload 8, 2) := by decide +kernel
theorem dX11_laysWays_92 : decode cX11_laysWays 92 = .ok (.iload_n 3, 1) := by decide +kernel
theorem dX11_laysWays_93 : decode cX11_laysWays 93 = .ok (.iload 4, 2) := by decide +kernel
theorem dX11_laysWays_95 : decode cX11_laysWays 95 = .ok (.invokevirtual 256, 3) := by decide +kernel
theorem dX11_laysWays_98 : decode cX11_laysWays 98 = .ok (.ifCond .eq 25, 3) := by decide +kernel
theorem dX11_laysWays_101 : decode cX11_laysWays 101 = .ok (.aload_n 0, 1) := by decide +kernel
theorem dX11_laysWays_102 : decode cX11_laysWays 102 = .ok (.getfield 102, 3) := by decide +kernel
theorem dX11_laysWays_105 : decode cX11_laysWays 105 = .ok (.iload 6, 2) := by decide +kernel
theorem dX11_laysWays_107 : decode cX11_laysWays 107 = .ok (.dup2, 1) := by decide +kernel
theorem dX11_laysWays_108 : decode cX11_laysWays 108 = .ok (.laload, 1) := by decide +kernel
theorem dX11_laysWays_109 : decode cX11_laysWays 109 = .ok (.aload_n 0, 1) := by decide +kernel
theorem dX11_laysWays_110 : decode cX11_laysWays 110 = .ok (.getfield 102, 3) := by decide +kernel
theorem dX11_laysWays_113 : decode cX11_laysWays 113 = .ok (.iload 6, 2) := by decide +kernel
theorem dX11_laysWays_115 : decode cX11_laysWays 115 = .ok (.iconst 1, 1) := by decide +kernel
theorem dX11_laysWays_116 : decode cX11_laysWays 116 = .ok (.iload 8, 2) := by decide +kernel
theorem dX11_laysWays_118 : decode cX11_laysWays 118 = .ok (.ishl, 1) := by decide +kernel
theorem dX11_laysWays_119 : decode cX11_laysWays 119 = .ok (.ior, 1) := by decide +kernel
theorem dX11_laysWays_120 : decode cX11_laysWays 120 = .ok (.laload, 1) := by decide +kernel
theorem dX11_laysWays_121 : decode cX11_laysWays 121 = .ok (.ladd, 1) := by decide +kernel
theorem dX11_laysWays_122 : decode cX11_laysWays 122 = .ok (.lastore, 1) := by decide +kernel
theorem dX11_laysWays_123 : decode cX11_laysWays 123 = .ok (.iinc 8 1, 3) := by decide +kernel
theorem dX11_laysWays_126 : decode cX11_laysWays 126 = .ok (.goto (-65), 3) := by decide +kernel
theorem dX11_laysWays_129 : decode cX11_laysWays 129 = .ok (.iinc 6 (-1), 3) := by decide +kernel
theorem dX11_laysWays_132 : decode cX11_laysWays 132 = .ok (.goto (-119), 3) := by decide +kernel
theorem dX11_laysWays_135 : decode cX11_laysWays 135 = .ok (.return_, 1) := by decide +kernel
theorem dX11_begun_0 : decode cX11_begun 0 = .ok (.aload_n 0, 1) := by decide +kernel
theorem dX11_begun_1 : decode cX11_begun 1 = .ok (.getfield 69, 3) := by decide +kernel
theorem dX11_begun_4 : decode cX11_begun 4 = .ok (.invokestatic 222, 3) := by decide +kernel
theorem dX11_begun_7 : decode cX11_begun 7 = .ok (.iconst 1, 1) := by decide +kernel
theorem dX11_begun_8 : decode cX11_begun 8 = .ok (.if_icmp .ne 7, 3) := by decide +kernel
theorem dX11_begun_11 : decode cX11_begun 11 = .ok (.iconst 1, 1) := by decide +kernel
theorem dX11_begun_12 : decode cX11_begun 12 = .ok (.goto 4, 3) := by decide +kernel
theorem dX11_begun_15 : decode cX11_begun 15 = .ok (.iconst 0, 1) := by decide +kernel
theorem dX11_begun_16 : decode cX11_begun 16 = .ok (.ireturn, 1) := by decide +kernel
theorem dX11_laysWalks_0 : decode cX11_laysWalks 0 = .ok (.aload_n 0, 1) := by decide +kernel
theorem dX11_laysWalks_1 : decode cX11_laysWalks 1 = .ok (.getfield 69, 3) := by decide +kernel
theorem dX11_laysWalks_4 : decode cX11_laysWalks 4 = .ok (.invokestatic 222, 3) := by decide +kernel
theorem dX11_laysWalks_7 : decode cX11_laysWalks 7 = .ok (.ifCond .ne 5, 3) := by decide +kernel
theorem dX11_laysWalks_10 : decode cX11_laysWalks 10 = .ok (.lconst 0, 1) := by decide +kernel
theorem dX11_laysWalks_11 : decode cX11_laysWalks 11 = .ok (.lreturn, 1) := by decide +kernel
theorem dX11_laysWalks_12 : decode cX11_laysWalks 12 = .ok (.aload_n 0, 1) := by decide +kernel
theorem dX11_laysWalks_13 : decode cX11_laysWalks 13 = .ok (.aload_n 0, 1) := by decide +kernel
theorem dX11_laysWalks_14 : decode cX11_laysWalks 14 = .ok (.getfield 69, 3) := by decide +kernel
theorem dX11_laysWalks_17 : decode cX11_laysWalks 17 = .ok (.invokestatic 231, 3) := by decide +kernel
theorem dX11_laysWalks_20 : decode cX11_laysWalks 20 = .ok (.putfield 249, 3) := by decide +kernel
theorem dX11_laysWalks_23 : decode cX11_laysWalks 23 = .ok (.aload_n 0, 1) := by decide +kernel
theorem dX11_laysWalks_24 : decode cX11_laysWalks 24 = .ok (.aload_n 0, 1) := by decide +kernel
theorem dX11_laysWalks_25 : decode cX11_laysWalks 25 = .ok (.getfield 69, 3) := by decide +kernel
theorem dX11_laysWalks_28 : decode cX11_laysWalks 28 = .ok (.aload_n 0, 1) := by decide +kernel
theorem dX11_laysWalks_29 : decode cX11_laysWalks 29 = .ok (.getfield 69, 3) := by decide +kernel
theorem dX11_laysWalks_32 : decode cX11_laysWalks 32 = .ok (.invokestatic 228, 3) := by decide +kernel
theorem dX11_laysWalks_35 : decode cX11_laysWalks 35 = .ok (.iload_n 1, 1) := by decide +kernel
theorem dX11_laysWalks_36 : decode cX11_laysWalks 36 = .ok (.iload_n 2, 1) := by decide +kernel
theorem dX11_laysWalks_37 : decode cX11_laysWalks 37 = .ok (.invokevirtual 260, 3) := by decide +kernel
theorem dX11_laysWalks_40 : decode cX11_laysWalks 40 = .ok (.aload_n 0, 1) := by decide +kernel
theorem dX11_laysWalks_41 : decode cX11_laysWalks 41 = .ok (.getfield 102, 3) := by decide +kernel
theorem dX11_laysWalks_44 : decode cX11_laysWalks 44 = .ok (.aload_n 0, 1) := by decide +kernel
theorem dX11_laysWalks_45 : decode cX11_laysWalks 45 = .ok (.invokevirtual 264, 3) := by decide +kernel
theorem dX11_laysWalks_48 : decode cX11_laysWalks 48 = .ok (.laload, 1) := by decide +kernel
theorem dX11_laysWalks_49 : decode cX11_laysWalks 49 = .ok (.lreturn, 1) := by decide +kernel
theorem dX11_walks_0 : decode cX11_walks 0 = .ok (.aload_n 0, 1) := by decide +kernel
theorem dX11_walks_1 : decode cX11_walks 1 = .ok (.iconst 0, 1) := by decide +kernel
theorem dX11_walks_2 : decode cX11_walks 2 = .ok (.putfield 1, 3) := by decide +kernel
theorem dX11_walks_5 : decode cX11_walks 5 = .ok (.aload_n 0, 1) := by decide +kernel
theorem dX11_walks_6 : decode cX11_walks 6 = .ok (.iconst 0, 1) := by decide +kernel
theorem dX11_walks_7 : decode cX11_walks 7 = .ok (.iconst 0, 1) := by decide +kernel
theorem dX11_walks_8 : decode cX11_walks 8 = .ok (.invokevirtual 267, 3) := by decide +kernel
theorem dX11_walks_11 : decode cX11_walks 11 = .ok (.lreturn, 1) := by decide +kernel
theorem dX11_looks_0 : decode cX11_looks 0 = .ok (.aload_n 0, 1) := by decide +kernel
theorem dX11_looks_1 : decode cX11_looks 1 = .ok (.aload_n 0, 1) := by decide +kernel
theorem dX11_looks_2 : decode cX11_looks 2 = .ok (.invokevirtual 175, 3) := by decide +kernel
theorem dX11_looks_5 : decode cX11_looks 5 = .ok (.putfield 271, 3) := by decide +kernel
theorem dX11_looks_8 : decode cX11_looks 8 = .ok (.aload_n 0, 1) := by decide +kernel
theorem dX11_looks_9 : decode cX11_looks 9 = .ok (.iconst 0, 1) := by decide +kernel
theorem dX11_looks_10 : decode cX11_looks 10 = .ok (.putfield 114, 3) := by decide +kernel
theorem dX11_looks_13 : decode cX11_looks 13 = .ok (.aload_n 0, 1) := by decide +kernel
theorem dX11_looks_14 : decode cX11_looks 14 = .ok (.getfield 69, 3) := by decide +kernel
theorem dX11_looks_17 : decode cX11_looks 17 = .ok (.invokestatic 231, 3) := by decide +kernel
theorem dX11_looks_20 : decode cX11_looks 20 = .ok (.istore_n 2, 1) := by decide +kernel
theorem dX11_looks_21 : decode cX11_looks 21 = .ok (.iconst 0, 1) := by decide +kernel
theorem dX11_looks_22 : decode cX11_looks 22 = .ok (.istore_n 3, 1) := by decide +kernel
theorem dX11_looks_23 : decode cX11_looks 23 = .ok (.iload_n 3, 1) := by decide +kernel
theorem dX11_looks_24 : decode cX11_looks 24 = .ok (.aload_n 0, 1) := by decide +kernel
theorem dX11_looks_25 : decode cX11_looks 25 = .ok (.getfield 271, 3) := by decide +kernel
theorem dX11_looks_28 : decode cX11_looks 28 = .ok (.if_icmp .ge 103, 3) := by decide +kernel
theorem dX11_looks_31 : decode cX11_looks 31 = .ok (.aload_n 0, 1) := by decide +kernel
theorem dX11_looks_32 : decode cX11_looks 32 = .ok (.getfield 108, 3) := by decide +kernel
theorem dX11_looks_35 : decode cX11_looks 35 = .ok (.iload_n 3, 1) := by decide +kernel
theorem dX11_looks_36 : decode cX11_looks 36 = .ok (.aload_n 1, 1) := by decide +kernel
theorem dX11_looks_37 : decode cX11_looks 37 = .ok (.iload_n 3, 1) := by decide +kernel
theorem dX11_looks_38 : decode cX11_looks 38 = .ok (.iaload, 1) := by decide +kernel
theorem dX11_looks_39 : decode cX11_looks 39 = .ok (.iastore, 1) := by decide +kernel
theorem dX11_looks_40 : decode cX11_looks 40 = .ok (.aload_n 0, 1) := by decide +kernel
theorem dX11_looks_41 : decode cX11_looks 41 = .ok (.getfield 69, 3) := by decide +kernel
theorem dX11_looks_44 : decode cX11_looks 44 = .ok (.iconst 2, 1) := by decide +kernel
theorem dX11_looks_45 : decode cX11_looks 45 = .ok (.aload_n 0, 1) := by decide +kernel
theorem dX11_looks_46 : decode cX11_looks 46 = .ok (.getfield 108, 3) := by decide +kernel
theorem dX11_looks_49 : decode cX11_looks 49 = .ok (.iload_n 3, 1) := by decide +kernel
theorem dX11_looks_50 : decode cX11_looks 50 = .ok (.iaload, 1) := by decide +kernel
theorem dX11_looks_51 : decode cX11_looks 51 = .ok (.iadd, 1) := by decide +kernel
theorem dX11_looks_52 : decode cX11_looks 52 = .ok (.iaload, 1) := by decide +kernel
theorem dX11_looks_53 : decode cX11_looks 53 = .ok (.istore 4, 2) := by decide +kernel
theorem dX11_looks_55 : decode cX11_looks 55 = .ok (.iconst 0, 1) := by decide +kernel
theorem dX11_looks_56 : decode cX11_looks 56 = .ok (.istore 5, 2) := by decide +kernel
theorem dX11_looks_58 : decode cX11_looks 58 = .ok (.iload 5, 2) := by decide +kernel
theorem dX11_looks_60 : decode cX11_looks 60 = .ok (.aload_n 0, 1) := by decide +kernel
theorem dX11_looks_61 : decode cX11_looks 61 = .ok (.invokevirtual 175, 3) := by decide +kernel
theorem dX11_looks_64 : decode cX11_looks 64 = .ok (.if_icmp .ge 38, 3) := by decide +kernel
theorem dX11_looks_67 : decode cX11_looks 67 = .ok (.aload_n 0, 1) := by decide +kernel
theorem dX11_looks_68 : decode cX11_looks 68 = .ok (.getfield 69, 3) := by decide +kernel
theorem dX11_looks_71 : decode cX11_looks 71 = .ok (.iconst 2, 1) := by decide +kernel
theorem dX11_looks_72 : decode cX11_looks 72 = .ok (.iload 5, 2) := by decide +kernel
theorem dX11_looks_74 : decode cX11_looks 74 = .ok (.iadd, 1) := by decide +kernel
theorem dX11_looks_75 : decode cX11_looks 75 = .ok (.iaload, 1) := by decide +kernel
theorem dX11_looks_76 : decode cX11_looks 76 = .ok (.iload 4, 2) := by decide +kernel
theorem dX11_looks_78 : decode cX11_looks 78 = .ok (.if_icmp .ne 18, 3) := by decide +kernel
theorem dX11_looks_81 : decode cX11_looks 81 = .ok (.aload_n 0, 1) := by decide +kernel
theorem dX11_looks_82 : decode cX11_looks 82 = .ok (.dup, 1) := by decide +kernel
theorem dX11_looks_83 : decode cX11_looks 83 = .ok (.getfield 114, 3) := by decide +kernel
theorem dX11_looks_86 : decode cX11_looks 86 = .ok (.iconst 1, 1) := by decide +kernel
theorem dX11_looks_87 : decode cX11_looks 87 = .ok (.iload 5, 2) := by decide +kernel
theorem dX11_looks_89 : decode cX11_looks 89 = .ok (.ishl, 1) := by decide +kernel
theorem dX11_looks_90 : decode cX11_looks 90 = .ok (.iconst (-1), 1) := by decide +kernel
theorem dX11_looks_91 : decode cX11_looks 91 = .ok (.ixor, 1) := by decide +kernel
theorem dX11_looks_92 : decode cX11_looks 92 = .ok (.iand, 1) := by decide +kernel
theorem dX11_looks_93 : decode cX11_looks 93 = .ok (.putfield 114, 3) := by decide +kernel
theorem dX11_looks_96 : decode cX11_looks 96 = .ok (.iinc 5 1, 3) := by decide +kernel
theorem dX11_looks_99 : decode cX11_looks 99 = .ok (.goto (-41), 3) := by decide +kernel
theorem dX11_looks_102 : decode cX11_looks 102 = .ok (.iload 4, 2) := by decide +kernel
theorem dX11_looks_104 : decode cX11_looks 104 = .ok (.iload_n 2, 1) := by decide +kernel
theorem dX11_looks_105 : decode cX11_looks 105 = .ok (.if_icmp .eq 20, 3) := by decide +kernel
theorem dX11_looks_108 : decode cX11_looks 108 = .ok (.aload_n 0, 1) := by decide +kernel
theorem dX11_looks_109 : decode cX11_looks 109 = .ok (.dup, 1) := by decide +kernel
theorem dX11_looks_110 : decode cX11_looks 110 = .ok (.getfield 114, 3) := by decide +kernel
theorem dX11_looks_113 : decode cX11_looks 113 = .ok (.iconst 1, 1) := by decide +kernel
theorem dX11_looks_114 : decode cX11_looks 114 = .ok (.aload_n 0, 1) := by decide +kernel
theorem dX11_looks_115 : decode cX11_looks 115 = .ok (.getfield 108, 3) := by decide +kernel
theorem dX11_looks_118 : decode cX11_looks 118 = .ok (.iload_n 3, 1) := by decide +kernel
theorem dX11_looks_119 : decode cX11_looks 119 = .ok (.iaload, 1) := by decide +kernel
theorem dX11_looks_120 : decode cX11_looks 120 = .ok (.ishl, 1) := by decide +kernel
theorem dX11_looks_121 : decode cX11_looks 121 = .ok (.ior, 1) := by decide +kernel
theorem dX11_looks_122 : decode cX11_looks 122 = .ok (.putfield 114, 3) := by decide +kernel
theorem dX11_looks_125 : decode cX11_looks 125 = .ok (.iinc 3 1, 3) := by decide +kernel
theorem dX11_looks_128 : decode cX11_looks 128 = .ok (.goto (-105), 3) := by decide +kernel
theorem dX11_looks_131 : decode cX11_looks 131 = .ok (.return_, 1) := by decide +kernel
theorem dX11_laysRank_0 : decode cX11_laysRank 0 = .ok (.lload 4, 2) := by decide +kernel
theorem dX11_laysRank_2 : decode cX11_laysRank 2 = .ok (.lstore 8, 2) := by decide +kernel
theorem dX11_laysRank_4 : decode cX11_laysRank 4 = .ok (.iload_n 3, 1) := by decide +kernel
theorem dX11_laysRank_5 : decode cX11_laysRank 5 = .ok (.istore 10, 2) := by decide +kernel
theorem dX11_laysRank_7 : decode cX11_laysRank 7 = .ok (.iload_n 3, 1) := by decide +kernel
theorem dX11_laysRank_8 : decode cX11_laysRank 8 = .ok (.invokestatic 274, 3) := by decide +kernel
theorem dX11_laysRank_11 : decode cX11_laysRank 11 = .ok (.istore 11, 2) := by decide +kernel
theorem dX11_laysRank_13 : decode cX11_laysRank 13 = .ok (.iload 11, 2) := by decide +kernel
theorem dX11_laysRank_15 : decode cX11_laysRank 15 = .ok (.iconst 1, 1) := by decide +kernel
theorem dX11_laysRank_16 : decode cX11_laysRank 16 = .ok (.if_icmp .ne 10, 3) := by decide +kernel
theorem dX11_laysRank_19 : decode cX11_laysRank 19 = .ok (.aload_n 0, 1) := by decide +kernel
theorem dX11_laysRank_20 : decode cX11_laysRank 20 = .ok (.getfield 111, 3) := by decide +kernel
theorem dX11_laysRank_23 : decode cX11_laysRank 23 = .ok (.iconst 0, 1) := by decide +kernel
theorem dX11_laysRank_24 : decode cX11_laysRank 24 = .ok (.iconst 0, 1) := by decide +kernel
theorem dX11_laysRank_25 : decode cX11_laysRank 25 = .ok (.iastore, 1) := by decide +kernel
theorem dX11_laysRank_26 : decode cX11_laysRank 26 = .ok (.iload 11, 2) := by decide +kernel
theorem dX11_laysRank_28 : decode cX11_laysRank 28 = .ok (.aload_n 1, 1) := by decide +kernel
theorem dX11_laysRank_29 : decode cX11_laysRank 29 = .ok (.iconst 1, 1) := by decide +kernel
theorem dX11_laysRank_30 : decode cX11_laysRank 30 = .ok (.iaload, 1) := by decide +kernel
theorem dX11_laysRank_31 : decode cX11_laysRank 31 = .ok (.if_icmp .ge 135, 3) := by decide +kernel
theorem dX11_laysRank_34 : decode cX11_laysRank 34 = .ok (.aload_n 0, 1) := by decide +kernel
theorem dX11_laysRank_35 : decode cX11_laysRank 35 = .ok (.aload_n 1, 1) := by decide +kernel
theorem dX11_laysRank_36 : decode cX11_laysRank 36 = .ok (.iload_n 2, 1) := by decide +kernel
theorem dX11_laysRank_37 : decode cX11_laysRank 37 = .ok (.iload 10, 2) := by decide +kernel
theorem dX11_laysRank_39 : decode cX11_laysRank 39 = .ok (.invokevirtual 252, 3) := by decide +kernel
theorem dX11_laysRank_42 : decode cX11_laysRank 42 = .ok (.istore 12, 2) := by decide +kernel
theorem dX11_laysRank_44 : decode cX11_laysRank 44 = .ok (.iconst 0, 1) := by decide +kernel
theorem dX11_laysRank_45 : decode cX11_laysRank 45 = .ok (.istore 13, 2) := by decide +kernel
theorem dX11_laysRank_47 : decode cX11_laysRank 47 = .ok (.aload_n 1, 1) := by decide +kernel
theorem dX11_laysRank_48 : decode cX11_laysRank 48 = .ok (.iconst 2, 1) := by decide +kernel
theorem dX11_laysRank_49 : decode cX11_laysRank 49 = .ok (.iload 13, 2) := by decide +kernel
theorem dX11_laysRank_51 : decode cX11_laysRank 51 = .ok (.iadd, 1) := by decide +kernel
theorem dX11_laysRank_52 : decode cX11_laysRank 52 = .ok (.iaload, 1) := by decide +kernel
theorem dX11_laysRank_53 : decode cX11_laysRank 53 = .ok (.iload 12, 2) := by decide +kernel
theorem dX11_laysRank_55 : decode cX11_laysRank 55 = .ok (.if_icmp .ne 37, 3) := by decide +kernel
theorem dX11_laysRank_58 : decode cX11_laysRank 58 = .ok (.aload_n 0, 1) := by decide +kernel
theorem dX11_laysRank_59 : decode cX11_laysRank 59 = .ok (.aload_n 1, 1) := by decide +kernel
theorem dX11_laysRank_60 : decode cX11_laysRank 60 = .ok (.iload 10, 2) := by decide +kernel
theorem dX11_laysRank_62 : decode cX11_laysRank 62 = .ok (.iload 13, 2) := by decide +kernel
theorem dX11_laysRank_64 : decode cX11_laysRank 64 = .ok (.iload 6, 2) := by decide +kernel
theorem dX11_laysRank_66 : decode cX11_laysRank 66 = .ok (.iload 7, 2) := by decide +kernel
theorem dX11_laysRank_68 : decode cX11_laysRank 68 = .ok (.invokevirtual 256, 3) := by decide +kernel
theorem dX11_laysRank_71 : decode cX11_laysRank 71 = .ok (.ifCond .eq 21, 3) := by decide +kernel
theorem dX11_laysRank_74 : decode cX11_laysRank 74 = .ok (.lload 8, 2) := by decide +kernel
theorem dX11_laysRank_76 : decode cX11_laysRank 76 = .ok (.aload_n 0, 1) := by decide +kernel
theorem dX11_laysRank_77 : decode cX11_laysRank 77 = .ok (.getfield 102, 3) := by decide +kernel
theorem dX11_laysRank_80 : decode cX11_laysRank 80 = .ok (.iload 10, 2) := by decide +kernel
theorem dX11_laysRank_82 : decode cX11_laysRank 82 = .ok (.iconst 1, 1) := by decide +kernel
theorem dX11_laysRank_83 : decode cX11_laysRank 83 = .ok (.iload 13, 2) := by decide +kernel
theorem dX11_laysRank_85 : decode cX11_laysRank 85 = .ok (.ishl, 1) := by decide +kernel
theorem dX11_laysRank_86 : decode cX11_laysRank 86 = .ok (.ior, 1) := by decide +kernel
theorem dX11_laysRank_87 : decode cX11_laysRank 87 = .ok (.laload, 1) := by decide +kernel
theorem dX11_laysRank_88 : decode cX11_laysRank 88 = .ok (.lcmp, 1) := by decide +kernel
theorem dX11_laysRank_89 : decode cX11_laysRank 89 = .ok (.ifCond .lt 53, 3) := by decide +kernel
theorem dX11_laysRank_92 : decode cX11_laysRank 92 = .ok (.aload_n 1, 1) := by decide +kernel
theorem dX11_laysRank_93 : decode cX11_laysRank 93 = .ok (.iconst 2, 1) := by decide +kernel
theorem dX11_laysRank_94 : decode cX11_laysRank 94 = .ok (.iload 13, 2) := by decide +kernel
theorem dX11_laysRank_96 : decode cX11_laysRank 96 = .ok (.iadd, 1) := by decide +kernel
theorem dX11_laysRank_97 : decode cX11_laysRank 97 = .ok (.iaload, 1) := by decide +kernel
theorem dX11_laysRank_98 : decode cX11_laysRank 98 = .ok (.iload 12, 2) := by decide +kernel
theorem dX11_laysRank_100 : decode cX11_laysRank 100 = .ok (.if_icmp .ne 36, 3) := by decide +kernel
theorem dX11_laysRank_103 : decode cX11_laysRank 103 = .ok (.aload_n 0, 1) := by decide +kernel
theorem dX11_laysRank_104 : decode cX11_laysRank 104 = .ok (.aload_n 1, 1) := by decide +kernel
theorem dX11_laysRank_105 : decode cX11_laysRank 105 = .ok (.iload 10, 2) := by decide +kernel
theorem dX11_laysRank_107 : decode cX11_laysRank 107 = .ok (.iload 13, 2) := by decide +kernel
theorem dX11_laysRank_109 : decode cX11_laysRank 109 = .ok (.iload 6, 2) := by decide +kernel
theorem dX11_laysRank_111 : decode cX11_laysRank 111 = .ok (.iload 7, 2) := by decide +kernel
theorem dX11_laysRank_113 : decode cX11_laysRank 113 = .ok (.invokevirtual 256, 3) := by decide +kernel
theorem dX11_laysRank_116 : decode cX11_laysRank 116 = .ok (.ifCond .eq 20, 3) := by decide +kernel
theorem dX11_laysRank_119 : decode cX11_laysRank 119 = .ok (.lload 8, 2) := by decide +kernel
theorem dX11_laysRank_121 : decode cX11_laysRank 121 = .ok (.aload_n 0, 1) := by decide +kernel
theorem dX11_laysRank_122 : decode cX11_laysRank 122 = .ok (.getfield 102, 3) := by decide +kernel
theorem dX11_laysRank_125 : decode cX11_laysRank 125 = .ok (.iload 10, 2) := by decide +kernel
theorem dX11_laysRank_127 : decode cX11_laysRank 127 = .ok (.iconst 1, 1) := by decide +kernel
theorem dX11_laysRank_128 : decode cX11_laysRank 128 = .ok (.iload 13, 2) := by decide +kernel
theorem dX11_laysRank_130 : decode cX11_laysRank 130 = .ok (.ishl, 1) := by decide +kernel
theorem dX11_laysRank_131 : decode cX11_laysRank 131 = .ok (.ior, 1) := by decide +kernel
theorem dX11_laysRank_132 : decode cX11_laysRank 132 = .ok (.laload, 1) := by decide +kernel
theorem dX11_laysRank_133 : decode cX11_laysRank 133 = .ok (.lsub, 1) := by decide +kernel
theorem dX11_laysRank_134 : decode cX11_laysRank 134 = .ok (.lstore 8, 2) := by decide +kernel
theorem dX11_laysRank_136 : decode cX11_laysRank 136 = .ok (.iinc 13 1, 3) := by decide +kernel
theorem dX11_laysRank_139 : decode cX11_laysRank 139 = .ok (.goto (-92), 3) := by decide +kernel
theorem dX11_laysRank_142 : decode cX11_laysRank 142 = .ok (.aload_n 0, 1) := by decide +kernel
theorem dX11_laysRank_143 : decode cX11_laysRank 143 = .ok (.getfield 111, 3) := by decide +kernel
theorem dX11_laysRank_146 : decode cX11_laysRank 146 = .ok (.iload 11, 2) := by decide +kernel
theorem dX11_laysRank_148 : decode cX11_laysRank 148 = .ok (.iload 13, 2) := by decide +kernel
theorem dX11_laysRank_150 : decode cX11_laysRank 150 = .ok (.iastore, 1) := by decide +kernel
theorem dX11_laysRank_151 : decode cX11_laysRank 151 = .ok (.iinc 11 1, 3) := by decide +kernel
theorem dX11_laysRank_154 : decode cX11_laysRank 154 = .ok (.iload 10, 2) := by decide +kernel
theorem dX11_laysRank_156 : decode cX11_laysRank 156 = .ok (.iconst 1, 1) := by decide +kernel
theorem dX11_laysRank_157 : decode cX11_laysRank 157 = .ok (.iload 13, 2) := by decide +kernel
theorem dX11_laysRank_159 : decode cX11_laysRank 159 = .ok (.ishl, 1) := by decide +kernel
theorem dX11_laysRank_160 : decode cX11_laysRank 160 = .ok (.ior, 1) := by decide +kernel
theorem dX11_laysRank_161 : decode cX11_laysRank 161 = .ok (.istore 10, 2) := by decide +kernel
theorem dX11_laysRank_163 : decode cX11_laysRank 163 = .ok (.goto (-137), 3) := by decide +kernel
theorem dX11_laysRank_166 : decode cX11_laysRank 166 = .ok (.return_, 1) := by decide +kernel
theorem dX11_walk_0 : decode cX11_walk 0 = .ok (.aload_n 0, 1) := by decide +kernel
theorem dX11_walk_1 : decode cX11_walk 1 = .ok (.iconst 0, 1) := by decide +kernel
theorem dX11_walk_2 : decode cX11_walk 2 = .ok (.putfield 1, 3) := by decide +kernel
theorem dX11_walk_5 : decode cX11_walk 5 = .ok (.lload_n 1, 1) := by decide +kernel
theorem dX11_walk_6 : decode cX11_walk 6 = .ok (.lconst 0, 1) := by decide +kernel
theorem dX11_walk_7 : decode cX11_walk 7 = .ok (.lcmp, 1) := by decide +kernel
theorem dX11_walk_8 : decode cX11_walk 8 = .ok (.ifCond .lt 14, 3) := by decide +kernel
theorem dX11_walk_11 : decode cX11_walk 11 = .ok (.lload_n 1, 1) := by decide +kernel
theorem dX11_walk_12 : decode cX11_walk 12 = .ok (.aload_n 0, 1) := by decide +kernel
theorem dX11_walk_13 : decode cX11_walk 13 = .ok (.iconst 0, 1) := by decide +kernel
theorem dX11_walk_14 : decode cX11_walk 14 = .ok (.iconst 0, 1) := by decide +kernel
theorem dX11_walk_15 : decode cX11_walk 15 = .ok (.invokevirtual 267, 3) := by decide +kernel
theorem dX11_walk_18 : decode cX11_walk 18 = .ok (.lcmp, 1) := by decide +kernel
theorem dX11_walk_19 : decode cX11_walk 19 = .ok (.ifCond .lt 8, 3) := by decide +kernel
theorem dX11_walk_22 : decode cX11_walk 22 = .ok (.aload_n 0, 1) := by decide +kernel
theorem dX11_walk_23 : decode cX11_walk 23 = .ok (.invokevirtual 216, 3) := by decide +kernel
theorem dX11_walk_26 : decode cX11_walk 26 = .ok (.ireturn, 1) := by decide +kernel
theorem dX11_walk_27 : decode cX11_walk 27 = .ok (.aload_n 0, 1) := by decide +kernel
theorem dX11_walk_28 : decode cX11_walk 28 = .ok (.aload_n 0, 1) := by decide +kernel
theorem dX11_walk_29 : decode cX11_walk 29 = .ok (.getfield 69, 3) := by decide +kernel
theorem dX11_walk_32 : decode cX11_walk 32 = .ok (.aload_n 0, 1) := by decide +kernel
theorem dX11_walk_33 : decode cX11_walk 33 = .ok (.getfield 69, 3) := by decide +kernel
theorem dX11_walk_36 : decode cX11_walk 36 = .ok (.invokestatic 228, 3) := by decide +kernel
theorem dX11_walk_39 : decode cX11_walk 39 = .ok (.aload_n 0, 1) := by decide +kernel
theorem dX11_walk_40 : decode cX11_walk 40 = .ok (.invokevirtual 264, 3) := by decide +kernel
theorem dX11_walk_43 : decode cX11_walk 43 = .ok (.lload_n 1, 1) := by decide +kernel
theorem dX11_walk_44 : decode cX11_walk 44 = .ok (.iconst 0, 1) := by decide +kernel
theorem dX11_walk_45 : decode cX11_walk 45 = .ok (.iconst 0, 1) := by decide +kernel
theorem dX11_walk_46 : decode cX11_walk 46 = .ok (.invokevirtual 277, 3) := by decide +kernel
theorem dX11_walk_49 : decode cX11_walk 49 = .ok (.aload_n 0, 1) := by decide +kernel
theorem dX11_walk_50 : decode cX11_walk 50 = .ok (.aload_n 0, 1) := by decide +kernel
theorem dX11_walk_51 : decode cX11_walk 51 = .ok (.getfield 111, 3) := by decide +kernel
theorem dX11_walk_54 : decode cX11_walk 54 = .ok (.invokevirtual 281, 3) := by decide +kernel
theorem dX11_walk_57 : decode cX11_walk 57 = .ok (.aload_n 0, 1) := by decide +kernel
theorem dX11_walk_58 : decode cX11_walk 58 = .ok (.getfield 108, 3) := by decide +kernel
theorem dX11_walk_61 : decode cX11_walk 61 = .ok (.aload_n 0, 1) := by decide +kernel
theorem dX11_walk_62 : decode cX11_walk 62 = .ok (.getfield 271, 3) := by decide +kernel
theorem dX11_walk_65 : decode cX11_walk 65 = .ok (.iconst 1, 1) := by decide +kernel
theorem dX11_walk_66 : decode cX11_walk 66 = .ok (.isub, 1) := by decide +kernel
theorem dX11_walk_67 : decode cX11_walk 67 = .ok (.iaload, 1) := by decide +kernel
theorem dX11_walk_68 : decode cX11_walk 68 = .ok (.ireturn, 1) := by decide +kernel
theorem dX11_walkAt_0 : decode cX11_walkAt 0 = .ok (.aload_n 0, 1) := by decide +kernel
theorem dX11_walkAt_1 : decode cX11_walkAt 1 = .ok (.iconst 0, 1) := by decide +kernel
theorem dX11_walkAt_2 : decode cX11_walkAt 2 = .ok (.putfield 1, 3) := by decide +kernel
theorem dX11_walkAt_5 : decode cX11_walkAt 5 = .ok (.iload_n 1, 1) := by decide +kernel
theorem dX11_walkAt_6 : decode cX11_walkAt 6 = .ok (.iconst 0, 1) := by decide +kernel
theorem dX11_walkAt_7 : decode cX11_walkAt 7 = .ok (.aload_n 0, 1) := by decide +kernel
theorem dX11_walkAt_8 : decode cX11_walkAt 8 = .ok (.getfield 271, 3) := by decide +kernel
theorem dX11_walkAt_11 : decode cX11_walkAt 11 = .ok (.iconst 1, 1) := by decide +kernel
theorem dX11_walkAt_12 : decode cX11_walkAt 12 = .ok (.isub, 1) := by decide +kernel
theorem dX11_walkAt_13 : decode cX11_walkAt 13 = .ok (.invokestatic 171, 3) := by decide +kernel
theorem dX11_walkAt_16 : decode cX11_walkAt 16 = .ok (.ifCond .eq 12, 3) := by decide +kernel
theorem dX11_walkAt_19 : decode cX11_walkAt 19 = .ok (.aload_n 0, 1) := by decide +kernel
theorem dX11_walkAt_20 : decode cX11_walkAt 20 = .ok (.getfield 108, 3) := by decide +kernel
theorem dX11_walkAt_23 : decode cX11_walkAt 23 = .ok (.iload_n 1, 1) := by decide +kernel
theorem dX11_walkAt_24 : decode cX11_walkAt 24 = .ok (.iaload, 1) := by decide +kernel
theorem dX11_walkAt_25 : decode cX11_walkAt 25 = .ok (.goto 4, 3) := by decide +kernel
theorem dX11_walkAt_28 : decode cX11_walkAt 28 = .ok (.iconst (-1), 1) := by decide +kernel
theorem dX11_walkAt_29 : decode cX11_walkAt 29 = .ok (.ireturn, 1) := by decide +kernel
theorem dX11_lasts_0 : decode cX11_lasts 0 = .ok (.aload_n 0, 1) := by decide +kernel
theorem dX11_lasts_1 : decode cX11_lasts 1 = .ok (.iconst 0, 1) := by decide +kernel
theorem dX11_lasts_2 : decode cX11_lasts 2 = .ok (.putfield 1, 3) := by decide +kernel
theorem dX11_lasts_5 : decode cX11_lasts 5 = .ok (.aload_n 0, 1) := by decide +kernel
theorem dX11_lasts_6 : decode cX11_lasts 6 = .ok (.getfield 114, 3) := by decide +kernel
theorem dX11_lasts_9 : decode cX11_lasts 9 = .ok (.ireturn, 1) := by decide +kernel
theorem dX11_ahead_0 : decode cX11_ahead 0 = .ok (.lconst 0, 1) := by decide +kernel
theorem dX11_ahead_1 : decode cX11_ahead 1 = .ok (.lstore_n 1, 1) := by decide +kernel
theorem dX11_ahead_2 : decode cX11_ahead 2 = .ok (.aload_n 0, 1) := by decide +kernel
theorem dX11_ahead_3 : decode cX11_ahead 3 = .ok (.invokevirtual 264, 3) := by decide +kernel
theorem dX11_ahead_6 : decode cX11_ahead 6 = .ok (.istore_n 3, 1) := by decide +kernel
theorem dX11_ahead_7 : decode cX11_ahead 7 = .ok (.iload_n 3, 1) := by decide +kernel
theorem dX11_ahead_8 : decode cX11_ahead 8 = .ok (.invokestatic 274, 3) := by decide +kernel
theorem dX11_ahead_11 : decode cX11_ahead 11 = .ok (.istore 4, 2) := by decide +kernel
theorem dX11_ahead_13 : decode cX11_ahead 13 = .ok (.iload 4, 2) := by decide +kernel
theorem dX11_ahead_15 : decode cX11_ahead 15 = .ok (.aload_n 0, 1) := by decide +kernel
theorem dX11_ahead_16 : decode cX11_ahead 16 = .ok (.invokevirtual 175, 3) := by decide +kernel
theorem dX11_ahead_19 : decode cX11_ahead 19 = .ok (.if_icmp .ge 91, 3) := by decide +kernel
theorem dX11_ahead_22 : decode cX11_ahead 22 = .ok (.iconst 0, 1) := by decide +kernel
theorem dX11_ahead_23 : decode cX11_ahead 23 = .ok (.istore 5, 2) := by decide +kernel
theorem dX11_ahead_25 : decode cX11_ahead 25 = .ok (.iload 5, 2) := by decide +kernel
theorem dX11_ahead_27 : decode cX11_ahead 27 = .ok (.aload_n 0, 1) := by decide +kernel
theorem dX11_ahead_28 : decode cX11_ahead 28 = .ok (.getfield 111, 3) := by decide +kernel
theorem dX11_ahead_31 : decode cX11_ahead 31 = .ok (.iload 4, 2) := by decide +kernel
theorem dX11_ahead_33 : decode cX11_ahead 33 = .ok (.iaload, 1) := by decide +kernel
theorem dX11_ahead_34 : decode cX11_ahead 34 = .ok (.if_icmp .ge 58, 3) := by decide +kernel
theorem dX11_ahead_37 : decode cX11_ahead 37 = .ok (.iload_n 3, 1) := by decide +kernel
theorem dX11_ahead_38 : decode cX11_ahead 38 = .ok (.iload 5, 2) := by decide +kernel
theorem dX11_ahead_40 : decode cX11_ahead 40 = .ok (.invokestatic 178, 3) := by decide +kernel
theorem dX11_ahead_43 : decode cX11_ahead 43 = .ok (.ifCond .ne 43, 3) := by decide +kernel
theorem dX11_ahead_46 : decode cX11_ahead 46 = .ok (.aload_n 0, 1) := by decide +kernel
theorem dX11_ahead_47 : decode cX11_ahead 47 = .ok (.getfield 69, 3) := by decide +kernel
theorem dX11_ahead_50 : decode cX11_ahead 50 = .ok (.iconst 2, 1) := by decide +kernel
theorem dX11_ahead_51 : decode cX11_ahead 51 = .ok (.iload 5, 2) := by decide +kernel
theorem dX11_ahead_53 : decode cX11_ahead 53 = .ok (.iadd, 1) := by decide +kernel
theorem dX11_ahead_54 : decode cX11_ahead 54 = .ok (.iaload, 1) := by decide +kernel
theorem dX11_ahead_55 : decode cX11_ahead 55 = .ok (.aload_n 0, 1) := by decide +kernel
theorem dX11_ahead_56 : decode cX11_ahead 56 = .ok (.getfield 69, 3) := by decide +kernel
theorem dX11_ahead_59 : decode cX11_ahead 59 = .ok (.iconst 2, 1) := by decide +kernel
theorem dX11_ahead_60 : decode cX11_ahead 60 = .ok (.aload_n 0, 1) := by decide +kernel
theorem dX11_ahead_61 : decode cX11_ahead 61 = .ok (.getfield 111, 3) := by decide +kernel
theorem dX11_ahead_64 : decode cX11_ahead 64 = .ok (.iload 4, 2) := by decide +kernel
theorem dX11_ahead_66 : decode cX11_ahead 66 = .ok (.iaload, 1) := by decide +kernel
theorem dX11_ahead_67 : decode cX11_ahead 67 = .ok (.iadd, 1) := by decide +kernel
theorem dX11_ahead_68 : decode cX11_ahead 68 = .ok (.iaload, 1) := by decide +kernel
theorem dX11_ahead_69 : decode cX11_ahead 69 = .ok (.if_icmp .ne 17, 3) := by decide +kernel
theorem dX11_ahead_72 : decode cX11_ahead 72 = .ok (.lload_n 1, 1) := by decide +kernel
theorem dX11_ahead_73 : decode cX11_ahead 73 = .ok (.aload_n 0, 1) := by decide +kernel
theorem dX11_ahead_74 : decode cX11_ahead 74 = .ok (.getfield 102, 3) := by decide +kernel
theorem dX11_ahead_77 : decode cX11_ahead 77 = .ok (.iload_n 3, 1) := by decide +kernel
theorem dX11_ahead_78 : decode cX11_ahead 78 = .ok (.iconst 1, 1) := by decide +kernel
theorem dX11_ahead_79 : decode cX11_ahead 79 = .ok (.iload 5, 2) := by decide +kernel
theorem dX11_ahead_81 : decode cX11_ahead 81 = .ok (.ishl, 1) := by decide +kernel
theorem dX11_ahead_82 : decode cX11_ahead 82 = .ok (.ior, 1) := by decide +kernel
theorem dX11_ahead_83 : decode cX11_ahead 83 = .ok (.laload, 1) := by decide +kernel
theorem dX11_ahead_84 : decode cX11_ahead 84 = .ok (.ladd, 1) := by decide +kernel
theorem dX11_ahead_85 : decode cX11_ahead 85 = .ok (.lstore_n 1, 1) := by decide +kernel
theorem dX11_ahead_86 : decode cX11_ahead 86 = .ok (.iinc 5 1, 3) := by decide +kernel
theorem dX11_ahead_89 : decode cX11_ahead 89 = .ok (.goto (-64), 3) := by decide +kernel
theorem dX11_ahead_92 : decode cX11_ahead 92 = .ok (.iload_n 3, 1) := by decide +kernel
theorem dX11_ahead_93 : decode cX11_ahead 93 = .ok (.iconst 1, 1) := by decide +kernel
theorem dX11_ahead_94 : decode cX11_ahead 94 = .ok (.aload_n 0, 1) := by decide +kernel
theorem dX11_ahead_95 : decode cX11_ahead 95 = .ok (.getfield 111, 3) := by decide +kernel
theorem dX11_ahead_98 : decode cX11_ahead 98 = .ok (.iload 4, 2) := by decide +kernel
theorem dX11_ahead_100 : decode cX11_ahead 100 = .ok (.iaload, 1) := by decide +kernel
theorem dX11_ahead_101 : decode cX11_ahead 101 = .ok (.ishl, 1) := by decide +kernel
theorem dX11_ahead_102 : decode cX11_ahead 102 = .ok (.ior, 1) := by decide +kernel
theorem dX11_ahead_103 : decode cX11_ahead 103 = .ok (.istore_n 3, 1) := by decide +kernel
theorem dX11_ahead_104 : decode cX11_ahead 104 = .ok (.iinc 4 1, 3) := by decide +kernel
theorem dX11_ahead_107 : decode cX11_ahead 107 = .ok (.goto (-94), 3) := by decide +kernel
theorem dX11_ahead_110 : decode cX11_ahead 110 = .ok (.lload_n 1, 1) := by decide +kernel
theorem dX11_ahead_111 : decode cX11_ahead 111 = .ok (.lreturn, 1) := by decide +kernel
theorem dX11_isWalk_0 : decode cX11_isWalk 0 = .ok (.aload_n 0, 1) := by decide +kernel
theorem dX11_isWalk_1 : decode cX11_isWalk 1 = .ok (.getfield 69, 3) := by decide +kernel
theorem dX11_isWalk_4 : decode cX11_isWalk 4 = .ok (.invokestatic 222, 3) := by decide +kernel
theorem dX11_isWalk_7 : decode cX11_isWalk 7 = .ok (.ifCond .eq 20, 3) := by decide +kernel
theorem dX11_isWalk_10 : decode cX11_isWalk 10 = .ok (.aload_n 0, 1) := by decide +kernel
theorem dX11_isWalk_11 : decode cX11_isWalk 11 = .ok (.invokevirtual 264, 3) := by decide +kernel
theorem dX11_isWalk_14 : decode cX11_isWalk 14 = .ok (.iconst 1, 1) := by decide +kernel
theorem dX11_isWalk_15 : decode cX11_isWalk 15 = .ok (.if_icmp .ne 14, 3) := by decide +kernel
theorem dX11_isWalk_18 : decode cX11_isWalk 18 = .ok (.aload_n 0, 1) := by decide +kernel
theorem dX11_isWalk_19 : decode cX11_isWalk 19 = .ok (.getfield 111, 3) := by decide +kernel
theorem dX11_isWalk_22 : decode cX11_isWalk 22 = .ok (.iconst 0, 1) := by decide +kernel
theorem dX11_isWalk_23 : decode cX11_isWalk 23 = .ok (.iaload, 1) := by decide +kernel
theorem dX11_isWalk_24 : decode cX11_isWalk 24 = .ok (.ifCond .eq 5, 3) := by decide +kernel
theorem dX11_isWalk_27 : decode cX11_isWalk 27 = .ok (.iconst 0, 1) := by decide +kernel
theorem dX11_isWalk_28 : decode cX11_isWalk 28 = .ok (.ireturn, 1) := by decide +kernel
theorem dX11_isWalk_29 : decode cX11_isWalk 29 = .ok (.iconst 0, 1) := by decide +kernel
theorem dX11_isWalk_30 : decode cX11_isWalk 30 = .ok (.istore_n 1, 1) := by decide +kernel
theorem dX11_isWalk_31 : decode cX11_isWalk 31 = .ok (.aload_n 0, 1) := by decide +kernel
theorem dX11_isWalk_32 : decode cX11_isWalk 32 = .ok (.getfield 69, 3) := by decide +kernel
theorem dX11_isWalk_35 : decode cX11_isWalk 35 = .ok (.invokestatic 228, 3) := by decide +kernel
theorem dX11_isWalk_38 : decode cX11_isWalk 38 = .ok (.istore_n 2, 1) := by decide +kernel
theorem dX11_isWalk_39 : decode cX11_isWalk 39 = .ok (.iconst 0, 1) := by decide +kernel
theorem dX11_isWalk_40 : decode cX11_isWalk 40 = .ok (.istore_n 3, 1) := by decide +kernel
theorem dX11_isWalk_41 : decode cX11_isWalk 41 = .ok (.iload_n 3, 1) := by decide +kernel
theorem dX11_isWalk_42 : decode cX11_isWalk 42 = .ok (.aload_n 0, 1) := by decide +kernel
theorem dX11_isWalk_43 : decode cX11_isWalk 43 = .ok (.invokevirtual 175, 3) := by decide +kernel
theorem dX11_isWalk_46 : decode cX11_isWalk 46 = .ok (.if_icmp .ge 68, 3) := by decide +kernel
theorem dX11_isWalk_49 : decode cX11_isWalk 49 = .ok (.aload_n 0, 1) := by decide +kernel
theorem dX11_isWalk_50 : decode cX11_isWalk 50 = .ok (.getfield 111, 3) := by decide +kernel
theorem dX11_isWalk_53 : decode cX11_isWalk 53 = .ok (.iload_n 3, 1) := by decide +kernel
theorem dX11_isWalk_54 : decode cX11_isWalk 54 = .ok (.iaload, 1) := by decide +kernel
theorem dX11_isWalk_55 : decode cX11_isWalk 55 = .ok (.istore 4, 2) := by decide +kernel
theorem dX11_isWalk_57 : decode cX11_isWalk 57 = .ok (.iload 4, 2) := by decide +kernel
theorem dX11_isWalk_59 : decode cX11_isWalk 59 = .ok (.aload_n 0, 1) := by decide +kernel
theorem dX11_isWalk_60 : decode cX11_isWalk 60 = .ok (.invokevirtual 175, 3) := by decide +kernel
theorem dX11_isWalk_63 : decode cX11_isWalk 63 = .ok (.if_icmp .ge 25, 3) := by decide +kernel
theorem dX11_isWalk_66 : decode cX11_isWalk 66 = .ok (.iload_n 1, 1) := by decide +kernel
theorem dX11_isWalk_67 : decode cX11_isWalk 67 = .ok (.iload 4, 2) := by decide +kernel
theorem dX11_isWalk_69 : decode cX11_isWalk 69 = .ok (.invokestatic 178, 3) := by decide +kernel
theorem dX11_isWalk_72 : decode cX11_isWalk 72 = .ok (.ifCond .ne 16, 3) := by decide +kernel
theorem dX11_isWalk_75 : decode cX11_isWalk 75 = .ok (.aload_n 0, 1) := by decide +kernel
theorem dX11_isWalk_76 : decode cX11_isWalk 76 = .ok (.getfield 69, 3) := by decide +kernel
theorem dX11_isWalk_79 : decode cX11_isWalk 79 = .ok (.iconst 2, 1) := by decide +kernel
theorem dX11_isWalk_80 : decode cX11_isWalk 80 = .ok (.iload 4, 2) := by decide +kernel
theorem dX11_isWalk_82 : decode cX11_isWalk 82 = .ok (.iadd, 1) := by decide +kernel
theorem dX11_isWalk_83 : decode cX11_isWalk 83 = .ok (.iaload, 1) := by decide +kernel
theorem dX11_isWalk_84 : decode cX11_isWalk 84 = .ok (.iload_n 2, 1) := by decide +kernel
theorem dX11_isWalk_85 : decode cX11_isWalk 85 = .ok (.if_icmp .eq 5, 3) := by decide +kernel
theorem dX11_isWalk_88 : decode cX11_isWalk 88 = .ok (.iconst 0, 1) := by decide +kernel
theorem dX11_isWalk_89 : decode cX11_isWalk 89 = .ok (.ireturn, 1) := by decide +kernel
theorem dX11_isWalk_90 : decode cX11_isWalk 90 = .ok (.iload_n 1, 1) := by decide +kernel
theorem dX11_isWalk_91 : decode cX11_isWalk 91 = .ok (.iconst 1, 1) := by decide +kernel
theorem dX11_isWalk_92 : decode cX11_isWalk 92 = .ok (.iload 4, 2) := by decide +kernel
theorem dX11_isWalk_94 : decode cX11_isWalk 94 = .ok (.ishl, 1) := by decide +kernel
theorem dX11_isWalk_95 : decode cX11_isWalk 95 = .ok (.ior, 1) := by decide +kernel
theorem dX11_isWalk_96 : decode cX11_isWalk 96 = .ok (.istore_n 1, 1) := by decide +kernel
theorem dX11_isWalk_97 : decode cX11_isWalk 97 = .ok (.aload_n 0, 1) := by decide +kernel
theorem dX11_isWalk_98 : decode cX11_isWalk 98 = .ok (.getfield 69, 3) := by decide +kernel
theorem dX11_isWalk_101 : decode cX11_isWalk 101 = .ok (.bipush 18, 2) := by decide +kernel
theorem dX11_isWalk_103 : decode cX11_isWalk 103 = .ok (.iload 4, 2) := by decide +kernel
theorem dX11_isWalk_105 : decode cX11_isWalk 105 = .ok (.iadd, 1) := by decide +kernel
theorem dX11_isWalk_106 : decode cX11_isWalk 106 = .ok (.iaload, 1) := by decide +kernel
theorem dX11_isWalk_107 : decode cX11_isWalk 107 = .ok (.istore_n 2, 1) := by decide +kernel
theorem dX11_isWalk_108 : decode cX11_isWalk 108 = .ok (.iinc 3 1, 3) := by decide +kernel
theorem dX11_isWalk_111 : decode cX11_isWalk 111 = .ok (.goto (-70), 3) := by decide +kernel
theorem dX11_isWalk_114 : decode cX11_isWalk 114 = .ok (.iconst 1, 1) := by decide +kernel
theorem dX11_isWalk_115 : decode cX11_isWalk 115 = .ok (.ireturn, 1) := by decide +kernel
theorem dX11_rank_0 : decode cX11_rank 0 = .ok (.aload_n 0, 1) := by decide +kernel
theorem dX11_rank_1 : decode cX11_rank 1 = .ok (.iconst 0, 1) := by decide +kernel
theorem dX11_rank_2 : decode cX11_rank 2 = .ok (.putfield 1, 3) := by decide +kernel
theorem dX11_rank_5 : decode cX11_rank 5 = .ok (.aload_n 0, 1) := by decide +kernel
theorem dX11_rank_6 : decode cX11_rank 6 = .ok (.getfield 11, 3) := by decide +kernel
theorem dX11_rank_9 : decode cX11_rank 9 = .ok (.istore_n 1, 1) := by decide +kernel
theorem dX11_rank_10 : decode cX11_rank 10 = .ok (.aload_n 0, 1) := by decide +kernel
theorem dX11_rank_11 : decode cX11_rank 11 = .ok (.iconst 0, 1) := by decide +kernel
theorem dX11_rank_12 : decode cX11_rank 12 = .ok (.putfield 11, 3) := by decide +kernel
theorem dX11_rank_15 : decode cX11_rank 15 = .ok (.iload_n 1, 1) := by decide +kernel
theorem dX11_rank_16 : decode cX11_rank 16 = .ok (.aload_n 0, 1) := by decide +kernel
theorem dX11_rank_17 : decode cX11_rank 17 = .ok (.invokevirtual 175, 3) := by decide +kernel
theorem dX11_rank_20 : decode cX11_rank 20 = .ok (.if_icmp .ne 7, 3) := by decide +kernel
theorem dX11_rank_23 : decode cX11_rank 23 = .ok (.iload_n 1, 1) := by decide +kernel
theorem dX11_rank_24 : decode cX11_rank 24 = .ok (.ifCond .ne 7, 3) := by decide +kernel
theorem dX11_rank_27 : decode cX11_rank 27 = .ok (.ldc2_w 244, 3) := by decide +kernel
theorem dX11_rank_30 : decode cX11_rank 30 = .ok (.lreturn, 1) := by decide +kernel
theorem dX11_rank_31 : decode cX11_rank 31 = .ok (.iconst 0, 1) := by decide +kernel
theorem dX11_rank_32 : decode cX11_rank 32 = .ok (.istore_n 2, 1) := by decide +kernel
theorem dX11_rank_33 : decode cX11_rank 33 = .ok (.iload_n 2, 1) := by decide +kernel
theorem dX11_rank_34 : decode cX11_rank 34 = .ok (.iload_n 1, 1) := by decide +kernel
theorem dX11_rank_35 : decode cX11_rank 35 = .ok (.if_icmp .ge 21, 3) := by decide +kernel
theorem dX11_rank_38 : decode cX11_rank 38 = .ok (.aload_n 0, 1) := by decide +kernel
theorem dX11_rank_39 : decode cX11_rank 39 = .ok (.getfield 111, 3) := by decide +kernel
theorem dX11_rank_42 : decode cX11_rank 42 = .ok (.iload_n 2, 1) := by decide +kernel
theorem dX11_rank_43 : decode cX11_rank 43 = .ok (.aload_n 0, 1) := by decide +kernel
theorem dX11_rank_44 : decode cX11_rank 44 = .ok (.getfield 7, 3) := by decide +kernel
theorem dX11_rank_47 : decode cX11_rank 47 = .ok (.iload_n 2, 1) := by decide +kernel
theorem dX11_rank_48 : decode cX11_rank 48 = .ok (.iaload, 1) := by decide +kernel
theorem dX11_rank_49 : decode cX11_rank 49 = .ok (.iastore, 1) := by decide +kernel
theorem dX11_rank_50 : decode cX11_rank 50 = .ok (.iinc 2 1, 3) := by decide +kernel
theorem dX11_rank_53 : decode cX11_rank 53 = .ok (.goto (-20), 3) := by decide +kernel
theorem dX11_rank_56 : decode cX11_rank 56 = .ok (.aload_n 0, 1) := by decide +kernel
theorem dX11_rank_57 : decode cX11_rank 57 = .ok (.invokevirtual 285, 3) := by decide +kernel
theorem dX11_rank_60 : decode cX11_rank 60 = .ok (.ifCond .ne 7, 3) := by decide +kernel
theorem dX11_rank_63 : decode cX11_rank 63 = .ok (.ldc2_w 244, 3) := by decide +kernel
theorem dX11_rank_66 : decode cX11_rank 66 = .ok (.lreturn, 1) := by decide +kernel
theorem dX11_rank_67 : decode cX11_rank 67 = .ok (.aload_n 0, 1) := by decide +kernel
theorem dX11_rank_68 : decode cX11_rank 68 = .ok (.iconst 0, 1) := by decide +kernel
theorem dX11_rank_69 : decode cX11_rank 69 = .ok (.iconst 0, 1) := by decide +kernel
theorem dX11_rank_70 : decode cX11_rank 70 = .ok (.invokevirtual 267, 3) := by decide +kernel
theorem dX11_rank_73 : decode cX11_rank 73 = .ok (.pop2, 1) := by decide +kernel
theorem dX11_rank_74 : decode cX11_rank 74 = .ok (.aload_n 0, 1) := by decide +kernel
theorem dX11_rank_75 : decode cX11_rank 75 = .ok (.aload_n 0, 1) := by decide +kernel
theorem dX11_rank_76 : decode cX11_rank 76 = .ok (.getfield 111, 3) := by decide +kernel
theorem dX11_rank_79 : decode cX11_rank 79 = .ok (.invokevirtual 281, 3) := by decide +kernel
theorem dX11_rank_82 : decode cX11_rank 82 = .ok (.aload_n 0, 1) := by decide +kernel
theorem dX11_rank_83 : decode cX11_rank 83 = .ok (.invokevirtual 288, 3) := by decide +kernel
theorem dX11_rank_86 : decode cX11_rank 86 = .ok (.lreturn, 1) := by decide +kernel
theorem dX11_laysBy_0 : decode cX11_laysBy 0 = .ok (.aload_n 0, 1) := by decide +kernel
theorem dX11_laysBy_1 : decode cX11_laysBy 1 = .ok (.getfield 69, 3) := by decide +kernel
theorem dX11_laysBy_4 : decode cX11_laysBy 4 = .ok (.invokestatic 222, 3) := by decide +kernel
theorem dX11_laysBy_7 : decode cX11_laysBy 7 = .ok (.ifCond .eq 16, 3) := by decide +kernel
theorem dX11_laysBy_10 : decode cX11_laysBy 10 = .ok (.iload_n 1, 1) := by decide +kernel
theorem dX11_laysBy_11 : decode cX11_laysBy 11 = .ok (.ifCond .lt 12, 3) := by decide +kernel
theorem dX11_laysBy_14 : decode cX11_laysBy 14 = .ok (.iload_n 1, 1) := by decide +kernel
theorem dX11_laysBy_15 : decode cX11_laysBy 15 = .ok (.aload_n 0, 1) := by decide +kernel
theorem dX11_laysBy_16 : decode cX11_laysBy 16 = .ok (.invokevirtual 175, 3) := by decide +kernel
theorem dX11_laysBy_19 : decode cX11_laysBy 19 = .ok (.ishr, 1) := by decide +kernel
theorem dX11_laysBy_20 : decode cX11_laysBy 20 = .ok (.ifCond .eq 5, 3) := by decide +kernel
theorem dX11_laysBy_23 : decode cX11_laysBy 23 = .ok (.lconst 0, 1) := by decide +kernel
theorem dX11_laysBy_24 : decode cX11_laysBy 24 = .ok (.lreturn, 1) := by decide +kernel
theorem dX11_laysBy_25 : decode cX11_laysBy 25 = .ok (.iconst 0, 1) := by decide +kernel
theorem dX11_laysBy_26 : decode cX11_laysBy 26 = .ok (.istore_n 2, 1) := by decide +kernel
theorem dX11_laysBy_27 : decode cX11_laysBy 27 = .ok (.iload_n 2, 1) := by decide +kernel
theorem dX11_laysBy_28 : decode cX11_laysBy 28 = .ok (.aload_n 0, 1) := by decide +kernel
theorem dX11_laysBy_29 : decode cX11_laysBy 29 = .ok (.invokevirtual 175, 3) := by decide +kernel
theorem dX11_laysBy_32 : decode cX11_laysBy 32 = .ok (.if_icmp .ge 37, 3) := by decide +kernel
theorem dX11_laysBy_35 : decode cX11_laysBy 35 = .ok (.iload_n 1, 1) := by decide +kernel
theorem dX11_laysBy_36 : decode cX11_laysBy 36 = .ok (.iload_n 2, 1) := by decide +kernel
theorem dX11_laysBy_37 : decode cX11_laysBy 37 = .ok (.invokestatic 178, 3) := by decide +kernel
theorem dX11_laysBy_40 : decode cX11_laysBy 40 = .ok (.ifCond .eq 23, 3) := by decide +kernel
theorem dX11_laysBy_43 : decode cX11_laysBy 43 = .ok (.aload_n 0, 1) := by decide +kernel
theorem dX11_laysBy_44 : decode cX11_laysBy 44 = .ok (.getfield 69, 3) := by decide +kernel
theorem dX11_laysBy_47 : decode cX11_laysBy 47 = .ok (.iconst 2, 1) := by decide +kernel
theorem dX11_laysBy_48 : decode cX11_laysBy 48 = .ok (.iload_n 2, 1) := by decide +kernel
theorem dX11_laysBy_49 : decode cX11_laysBy 49 = .ok (.iadd, 1) := by decide +kernel
theorem dX11_laysBy_50 : decode cX11_laysBy 50 = .ok (.iaload, 1) := by decide +kernel
theorem dX11_laysBy_51 : decode cX11_laysBy 51 = .ok (.aload_n 0, 1) := by decide +kernel
theorem dX11_laysBy_52 : decode cX11_laysBy 52 = .ok (.getfield 69, 3) := by decide +kernel
theorem dX11_laysBy_55 : decode cX11_laysBy 55 = .ok (.invokestatic 231, 3) := by decide +kernel
theorem dX11_laysBy_58 : decode cX11_laysBy 58 = .ok (.if_icmp .ne 5, 3) := by decide +kernel
theorem dX11_laysBy_61 : decode cX11_laysBy 61 = .ok (.lconst 0, 1) := by decide +kernel
theorem dX11_laysBy_62 : decode cX11_laysBy 62 = .ok (.lreturn, 1) := by decide +kernel
theorem dX11_laysBy_63 : decode cX11_laysBy 63 = .ok (.iinc 2 1, 3) := by decide +kernel
theorem dX11_laysBy_66 : decode cX11_laysBy 66 = .ok (.goto (-39), 3) := by decide +kernel
theorem dX11_laysBy_69 : decode cX11_laysBy 69 = .ok (.aload_n 0, 1) := by decide +kernel
theorem dX11_laysBy_70 : decode cX11_laysBy 70 = .ok (.iconst 1, 1) := by decide +kernel
theorem dX11_laysBy_71 : decode cX11_laysBy 71 = .ok (.iload_n 1, 1) := by decide +kernel
theorem dX11_laysBy_72 : decode cX11_laysBy 72 = .ok (.invokevirtual 267, 3) := by decide +kernel
theorem dX11_laysBy_75 : decode cX11_laysBy 75 = .ok (.lreturn, 1) := by decide +kernel
theorem dX11_by_0 : decode cX11_by 0 = .ok (.aload_n 0, 1) := by decide +kernel
theorem dX11_by_1 : decode cX11_by 1 = .ok (.iconst 0, 1) := by decide +kernel
theorem dX11_by_2 : decode cX11_by 2 = .ok (.putfield 1, 3) := by decide +kernel
theorem dX11_by_5 : decode cX11_by 5 = .ok (.aload_n 0, 1) := by decide +kernel
theorem dX11_by_6 : decode cX11_by 6 = .ok (.iload_n 1, 1) := by decide +kernel
theorem dX11_by_7 : decode cX11_by 7 = .ok (.invokevirtual 292, 3) := by decide +kernel
theorem dX11_by_10 : decode cX11_by 10 = .ok (.lreturn, 1) := by decide +kernel
theorem dX11_first_0 : decode cX11_first 0 = .ok (.aload_n 0, 1) := by decide +kernel
theorem dX11_first_1 : decode cX11_first 1 = .ok (.iconst 0, 1) := by decide +kernel
theorem dX11_first_2 : decode cX11_first 2 = .ok (.putfield 1, 3) := by decide +kernel
theorem dX11_first_5 : decode cX11_first 5 = .ok (.aload_n 0, 1) := by decide +kernel
theorem dX11_first_6 : decode cX11_first 6 = .ok (.iload_n 1, 1) := by decide +kernel
theorem dX11_first_7 : decode cX11_first 7 = .ok (.invokevirtual 292, 3) := by decide +kernel
theorem dX11_first_10 : decode cX11_first 10 = .ok (.lconst 0, 1) := by decide +kernel
theorem dX11_first_11 : decode cX11_first 11 = .ok (.lcmp, 1) := by decide +kernel
theorem dX11_first_12 : decode cX11_first 12 = .ok (.ifCond .ne 7, 3) := by decide +kernel
theorem dX11_first_15 : decode cX11_first 15 = .ok (.ldc2_w 244, 3) := by decide +kernel
theorem dX11_first_18 : decode cX11_first 18 = .ok (.lreturn, 1) := by decide +kernel
theorem dX11_first_19 : decode cX11_first 19 = .ok (.aload_n 0, 1) := by decide +kernel
theorem dX11_first_20 : decode cX11_first 20 = .ok (.aload_n 0, 1) := by decide +kernel
theorem dX11_first_21 : decode cX11_first 21 = .ok (.getfield 69, 3) := by decide +kernel
theorem dX11_first_24 : decode cX11_first 24 = .ok (.aload_n 0, 1) := by decide +kernel
theorem dX11_first_25 : decode cX11_first 25 = .ok (.getfield 69, 3) := by decide +kernel
theorem dX11_first_28 : decode cX11_first 28 = .ok (.invokestatic 228, 3) := by decide +kernel
theorem dX11_first_31 : decode cX11_first 31 = .ok (.aload_n 0, 1) := by decide +kernel
theorem dX11_first_32 : decode cX11_first 32 = .ok (.invokevirtual 264, 3) := by decide +kernel
theorem dX11_first_35 : decode cX11_first 35 = .ok (.lconst 0, 1) := by decide +kernel
theorem dX11_first_36 : decode cX11_first 36 = .ok (.iconst 1, 1) := by decide +kernel
theorem dX11_first_37 : decode cX11_first 37 = .ok (.iload_n 1, 1) := by decide +kernel
theorem dX11_first_38 : decode cX11_first 38 = .ok (.invokevirtual 277, 3) := by decide +kernel
theorem dX11_first_41 : decode cX11_first 41 = .ok (.aload_n 0, 1) := by decide +kernel
theorem dX11_first_42 : decode cX11_first 42 = .ok (.iconst 0, 1) := by decide +kernel
theorem dX11_first_43 : decode cX11_first 43 = .ok (.iconst 0, 1) := by decide +kernel
theorem dX11_first_44 : decode cX11_first 44 = .ok (.invokevirtual 267, 3) := by decide +kernel
theorem dX11_first_47 : decode cX11_first 47 = .ok (.pop2, 1) := by decide +kernel
theorem dX11_first_48 : decode cX11_first 48 = .ok (.aload_n 0, 1) := by decide +kernel
theorem dX11_first_49 : decode cX11_first 49 = .ok (.invokevirtual 288, 3) := by decide +kernel
theorem dX11_first_52 : decode cX11_first 52 = .ok (.lreturn, 1) := by decide +kernel
theorem dX11_draw_0 : decode cX11_draw 0 = .ok (.aload_n 0, 1) := by decide +kernel
theorem dX11_draw_1 : decode cX11_draw 1 = .ok (.aload_n 0, 1) := by decide +kernel
theorem dX11_draw_2 : decode cX11_draw 2 = .ok (.getfield 296, 3) := by decide +kernel
theorem dX11_draw_5 : decode cX11_draw 5 = .ok (.ldc_w 299, 3) := by decide +kernel
theorem dX11_draw_8 : decode cX11_draw 8 = .ok (.imul, 1) := by decide +kernel
theorem dX11_draw_9 : decode cX11_draw 9 = .ok (.sipush 12345, 3) := by decide +kernel
theorem dX11_draw_12 : decode cX11_draw 12 = .ok (.iadd, 1) := by decide +kernel
theorem dX11_draw_13 : decode cX11_draw 13 = .ok (.putfield 296, 3) := by decide +kernel
theorem dX11_draw_16 : decode cX11_draw 16 = .ok (.aload_n 0, 1) := by decide +kernel
theorem dX11_draw_17 : decode cX11_draw 17 = .ok (.getfield 296, 3) := by decide +kernel
theorem dX11_draw_20 : decode cX11_draw 20 = .ok (.bipush 8, 2) := by decide +kernel
theorem dX11_draw_22 : decode cX11_draw 22 = .ok (.iushr, 1) := by decide +kernel
theorem dX11_draw_23 : decode cX11_draw 23 = .ok (.ireturn, 1) := by decide +kernel
theorem dX11_drawsMuch_0 : decode cX11_drawsMuch 0 = .ok (.aload_n 0, 1) := by decide +kernel
theorem dX11_drawsMuch_1 : decode cX11_drawsMuch 1 = .ok (.invokevirtual 300, 3) := by decide +kernel
theorem dX11_drawsMuch_4 : decode cX11_drawsMuch 4 = .ok (.sipush 16384, 3) := by decide +kernel
theorem dX11_drawsMuch_7 : decode cX11_drawsMuch 7 = .ok (.irem, 1) := by decide +kernel
theorem dX11_drawsMuch_8 : decode cX11_drawsMuch 8 = .ok (.i2l, 1) := by decide +kernel
theorem dX11_drawsMuch_9 : decode cX11_drawsMuch 9 = .ok (.lstore_n 1, 1) := by decide +kernel
theorem dX11_drawsMuch_10 : decode cX11_drawsMuch 10 = .ok (.aload_n 0, 1) := by decide +kernel
theorem dX11_drawsMuch_11 : decode cX11_drawsMuch 11 = .ok (.invokevirtual 300, 3) := by decide +kernel
theorem dX11_drawsMuch_14 : decode cX11_drawsMuch 14 = .ok (.i2l, 1) := by decide +kernel
theorem dX11_drawsMuch_15 : decode cX11_drawsMuch 15 = .ok (.lstore_n 3, 1) := by decide +kernel
theorem dX11_drawsMuch_16 : decode cX11_drawsMuch 16 = .ok (.aload_n 0, 1) := by decide +kernel
theorem dX11_drawsMuch_17 : decode cX11_drawsMuch 17 = .ok (.invokevirtual 300, 3) := by decide +kernel
theorem dX11_drawsMuch_20 : decode cX11_drawsMuch 20 = .ok (.i2l, 1) := by decide +kernel
theorem dX11_drawsMuch_21 : decode cX11_drawsMuch 21 = .ok (.lstore 5, 2) := by decide +kernel
theorem dX11_drawsMuch_23 : decode cX11_drawsMuch 23 = .ok (.lload_n 1, 1) := by decide +kernel
theorem dX11_drawsMuch_24 : decode cX11_drawsMuch 24 = .ok (.bipush 48, 2) := by decide +kernel
theorem dX11_drawsMuch_26 : decode cX11_drawsMuch 26 = .ok (.lshl, 1) := by decide +kernel
theorem dX11_drawsMuch_27 : decode cX11_drawsMuch 27 = .ok (.lload_n 3, 1) := by decide +kernel
theorem dX11_drawsMuch_28 : decode cX11_drawsMuch 28 = .ok (.bipush 24, 2) := by decide +kernel
theorem dX11_drawsMuch_30 : decode cX11_drawsMuch 30 = .ok (.lshl, 1) := by decide +kernel
theorem dX11_drawsMuch_31 : decode cX11_drawsMuch 31 = .ok (.ladd, 1) := by decide +kernel
theorem dX11_drawsMuch_32 : decode cX11_drawsMuch 32 = .ok (.lload 5, 2) := by decide +kernel
theorem dX11_drawsMuch_34 : decode cX11_drawsMuch 34 = .ok (.ladd, 1) := by decide +kernel
theorem dX11_drawsMuch_35 : decode cX11_drawsMuch 35 = .ok (.lreturn, 1) := by decide +kernel
theorem dX11_drawn_0 : decode cX11_drawn 0 = .ok (.aload_n 0, 1) := by decide +kernel
theorem dX11_drawn_1 : decode cX11_drawn 1 = .ok (.iconst 0, 1) := by decide +kernel
theorem dX11_drawn_2 : decode cX11_drawn 2 = .ok (.putfield 1, 3) := by decide +kernel
theorem dX11_drawn_5 : decode cX11_drawn 5 = .ok (.aload_n 0, 1) := by decide +kernel
theorem dX11_drawn_6 : decode cX11_drawn 6 = .ok (.iconst 0, 1) := by decide +kernel
theorem dX11_drawn_7 : decode cX11_drawn 7 = .ok (.iconst 0, 1) := by decide +kernel
theorem dX11_drawn_8 : decode cX11_drawn 8 = .ok (.invokevirtual 267, 3) := by decide +kernel
theorem dX11_drawn_11 : decode cX11_drawn 11 = .ok (.lstore_n 2, 1) := by decide +kernel
theorem dX11_drawn_12 : decode cX11_drawn 12 = .ok (.lload_n 2, 1) := by decide +kernel
theorem dX11_drawn_13 : decode cX11_drawn 13 = .ok (.lconst 0, 1) := by decide +kernel
theorem dX11_drawn_14 : decode cX11_drawn 14 = .ok (.lcmp, 1) := by decide +kernel
theorem dX11_drawn_15 : decode cX11_drawn 15 = .ok (.ifCond .ne 7, 3) := by decide +kernel
theorem dX11_drawn_18 : decode cX11_drawn 18 = .ok (.ldc2_w 244, 3) := by decide +kernel
theorem dX11_drawn_21 : decode cX11_drawn 21 = .ok (.lreturn, 1) := by decide +kernel
theorem dX11_drawn_22 : decode cX11_drawn 22 = .ok (.aload_n 0, 1) := by decide +kernel
theorem dX11_drawn_23 : decode cX11_drawn 23 = .ok (.iload_n 1, 1) := by decide +kernel
theorem dX11_drawn_24 : decode cX11_drawn 24 = .ok (.putfield 296, 3) := by decide +kernel
theorem dX11_drawn_27 : decode cX11_drawn 27 = .ok (.ldc2_w 303, 3) := by decide +kernel
theorem dX11_drawn_30 : decode cX11_drawn 30 = .ok (.lload_n 2, 1) := by decide +kernel
theorem dX11_drawn_31 : decode cX11_drawn 31 = .ok (.ldiv, 1) := by decide +kernel
theorem dX11_drawn_32 : decode cX11_drawn 32 = .ok (.lload_n 2, 1) := by decide +kernel
theorem dX11_drawn_33 : decode cX11_drawn 33 = .ok (.lmul, 1) := by decide +kernel
theorem dX11_drawn_34 : decode cX11_drawn 34 = .ok (.lstore 4, 2) := by decide +kernel
theorem dX11_drawn_36 : decode cX11_drawn 36 = .ok (.aload_n 0, 1) := by decide +kernel
theorem dX11_drawn_37 : decode cX11_drawn 37 = .ok (.invokevirtual 305, 3) := by decide +kernel
theorem dX11_drawn_40 : decode cX11_drawn 40 = .ok (.lstore 6, 2) := by decide +kernel
theorem dX11_drawn_42 : decode cX11_drawn 42 = .ok (.lload 6, 2) := by decide +kernel
theorem dX11_drawn_44 : decode cX11_drawn 44 = .ok (.lload 4, 2) := by decide +kernel
theorem dX11_drawn_46 : decode cX11_drawn 46 = .ok (.lcmp, 1) := by decide +kernel
theorem dX11_drawn_47 : decode cX11_drawn 47 = .ok (.ifCond .lt 12, 3) := by decide +kernel
theorem dX11_drawn_50 : decode cX11_drawn 50 = .ok (.aload_n 0, 1) := by decide +kernel
theorem dX11_drawn_51 : decode cX11_drawn 51 = .ok (.invokevirtual 305, 3) := by decide +kernel
theorem dX11_drawn_54 : decode cX11_drawn 54 = .ok (.lstore 6, 2) := by decide +kernel
theorem dX11_drawn_56 : decode cX11_drawn 56 = .ok (.goto (-14), 3) := by decide +kernel
theorem dX11_drawn_59 : decode cX11_drawn 59 = .ok (.aload_n 0, 1) := by decide +kernel
theorem dX11_drawn_60 : decode cX11_drawn 60 = .ok (.aload_n 0, 1) := by decide +kernel
theorem dX11_drawn_61 : decode cX11_drawn 61 = .ok (.getfield 69, 3) := by decide +kernel
theorem dX11_drawn_64 : decode cX11_drawn 64 = .ok (.aload_n 0, 1) := by decide +kernel
theorem dX11_drawn_65 : decode cX11_drawn 65 = .ok (.getfield 69, 3) := by decide +kernel
theorem dX11_drawn_68 : decode cX11_drawn 68 = .ok (.invokestatic 228, 3) := by decide +kernel
theorem dX11_drawn_71 : decode cX11_drawn 71 = .ok (.aload_n 0, 1) := by decide +kernel
theorem dX11_drawn_72 : decode cX11_drawn 72 = .ok (.invokevirtual 264, 3) := by decide +kernel
theorem dX11_drawn_75 : decode cX11_drawn 75 = .ok (.lload 6, 2) := by decide +kernel
theorem dX11_drawn_77 : decode cX11_drawn 77 = .ok (.lload_n 2, 1) := by decide +kernel
theorem dX11_drawn_78 : decode cX11_drawn 78 = .ok (.lrem, 1) := by decide +kernel
theorem dX11_drawn_79 : decode cX11_drawn 79 = .ok (.iconst 0, 1) := by decide +kernel
theorem dX11_drawn_80 : decode cX11_drawn 80 = .ok (.iconst 0, 1) := by decide +kernel
theorem dX11_drawn_81 : decode cX11_drawn 81 = .ok (.invokevirtual 277, 3) := by decide +kernel
theorem dX11_drawn_84 : decode cX11_drawn 84 = .ok (.aload_n 0, 1) := by decide +kernel
theorem dX11_drawn_85 : decode cX11_drawn 85 = .ok (.aload_n 0, 1) := by decide +kernel
theorem dX11_drawn_86 : decode cX11_drawn 86 = .ok (.getfield 111, 3) := by decide +kernel
theorem dX11_drawn_89 : decode cX11_drawn 89 = .ok (.invokevirtual 281, 3) := by decide +kernel
theorem dX11_drawn_92 : decode cX11_drawn 92 = .ok (.lload 6, 2) := by decide +kernel
theorem dX11_drawn_94 : decode cX11_drawn 94 = .ok (.lload_n 2, 1) := by decide +kernel
theorem dX11_drawn_95 : decode cX11_drawn 95 = .ok (.lrem, 1) := by decide +kernel
theorem dX11_drawn_96 : decode cX11_drawn 96 = .ok (.lreturn, 1) := by decide +kernel
theorem dX11_unlike_0 : decode cX11_unlike 0 = .ok (.iconst 0, 1) := by decide +kernel
theorem dX11_unlike_1 : decode cX11_unlike 1 = .ok (.istore_n 2, 1) := by decide +kernel
theorem dX11_unlike_2 : decode cX11_unlike 2 = .ok (.iconst 0, 1) := by decide +kernel
theorem dX11_unlike_3 : decode cX11_unlike 3 = .ok (.istore_n 3, 1) := by decide +kernel
theorem dX11_unlike_4 : decode cX11_unlike 4 = .ok (.iload_n 3, 1) := by decide +kernel
theorem dX11_unlike_5 : decode cX11_unlike 5 = .ok (.iload_n 1, 1) := by decide +kernel
theorem dX11_unlike_6 : decode cX11_unlike 6 = .ok (.if_icmp .ge 23, 3) := by decide +kernel
theorem dX11_unlike_9 : decode cX11_unlike 9 = .ok (.iload_n 2, 1) := by decide +kernel
theorem dX11_unlike_10 : decode cX11_unlike 10 = .ok (.iconst 1, 1) := by decide +kernel
theorem dX11_unlike_11 : decode cX11_unlike 11 = .ok (.aload_n 0, 1) := by decide +kernel
theorem dX11_unlike_12 : decode cX11_unlike 12 = .ok (.getfield 7, 3) := by decide +kernel
theorem dX11_unlike_15 : decode cX11_unlike 15 = .ok (.iload_n 3, 1) := by decide +kernel
theorem dX11_unlike_16 : decode cX11_unlike 16 = .ok (.iaload, 1) := by decide +kernel
theorem dX11_unlike_17 : decode cX11_unlike 17 = .ok (.bipush 97, 2) := by decide +kernel
theorem dX11_unlike_19 : decode cX11_unlike 19 = .ok (.isub, 1) := by decide +kernel
theorem dX11_unlike_20 : decode cX11_unlike 20 = .ok (.ishl, 1) := by decide +kernel
theorem dX11_unlike_21 : decode cX11_unlike 21 = .ok (.ior, 1) := by decide +kernel
theorem dX11_unlike_22 : decode cX11_unlike 22 = .ok (.istore_n 2, 1) := by decide +kernel
theorem dX11_unlike_23 : decode cX11_unlike 23 = .ok (.iinc 3 1, 3) := by decide +kernel
theorem dX11_unlike_26 : decode cX11_unlike 26 = .ok (.goto (-22), 3) := by decide +kernel
theorem dX11_unlike_29 : decode cX11_unlike 29 = .ok (.iload_n 2, 1) := by decide +kernel
theorem dX11_unlike_30 : decode cX11_unlike 30 = .ok (.invokestatic 274, 3) := by decide +kernel
theorem dX11_unlike_33 : decode cX11_unlike 33 = .ok (.ireturn, 1) := by decide +kernel
theorem dX11_isGood_0 : decode cX11_isGood 0 = .ok (.iload_n 1, 1) := by decide +kernel
theorem dX11_isGood_1 : decode cX11_isGood 1 = .ok (.iconst 2, 1) := by decide +kernel
theorem dX11_isGood_2 : decode cX11_isGood 2 = .ok (.bipush 17, 2) := by decide +kernel
theorem dX11_isGood_4 : decode cX11_isGood 4 = .ok (.invokestatic 171, 3) := by decide +kernel
theorem dX11_isGood_7 : decode cX11_isGood 7 = .ok (.ifCond .ne 5, 3) := by decide +kernel
theorem dX11_isGood_10 : decode cX11_isGood 10 = .ok (.iconst 0, 1) := by decide +kernel
theorem dX11_isGood_11 : decode cX11_isGood 11 = .ok (.ireturn, 1) := by decide +kernel
theorem dX11_isGood_12 : decode cX11_isGood 12 = .ok (.iconst 0, 1) := by decide +kernel
theorem dX11_isGood_13 : decode cX11_isGood 13 = .ok (.istore_n 2, 1) := by decide +kernel
theorem dX11_isGood_14 : decode cX11_isGood 14 = .ok (.iload_n 2, 1) := by decide +kernel
theorem dX11_isGood_15 : decode cX11_isGood 15 = .ok (.iload_n 1, 1) := by decide +kernel
theorem dX11_isGood_16 : decode cX11_isGood 16 = .ok (.if_icmp .ge 23, 3) := by decide +kernel
theorem dX11_isGood_19 : decode cX11_isGood 19 = .ok (.aload_n 0, 1) := by decide +kernel
theorem dX11_isGood_20 : decode cX11_isGood 20 = .ok (.getfield 7, 3) := by decide +kernel
theorem dX11_isGood_23 : decode cX11_isGood 23 = .ok (.iload_n 2, 1) := by decide +kernel
theorem dX11_isGood_24 : decode cX11_isGood 24 = .ok (.iaload, 1) := by decide +kernel
theorem dX11_isGood_25 : decode cX11_isGood 25 = .ok (.invokestatic 30, 3) := by decide +kernel
theorem dX11_isGood_28 : decode cX11_isGood 28 = .ok (.ifCond .ne 5, 3) := by decide +kernel
theorem dX11_isGood_31 : decode cX11_isGood 31 = .ok (.iconst 0, 1) := by decide +kernel
theorem dX11_isGood_32 : decode cX11_isGood 32 = .ok (.ireturn, 1) := by decide +kernel
theorem dX11_isGood_33 : decode cX11_isGood 33 = .ok (.iinc 2 1, 3) := by decide +kernel
theorem dX11_isGood_36 : decode cX11_isGood 36 = .ok (.goto (-22), 3) := by decide +kernel
theorem dX11_isGood_39 : decode cX11_isGood 39 = .ok (.aload_n 0, 1) := by decide +kernel
theorem dX11_isGood_40 : decode cX11_isGood 40 = .ok (.iload_n 1, 1) := by decide +kernel
theorem dX11_isGood_41 : decode cX11_isGood 41 = .ok (.invokevirtual 308, 3) := by decide +kernel
theorem dX11_isGood_44 : decode cX11_isGood 44 = .ok (.bipush 8, 2) := by decide +kernel
theorem dX11_isGood_46 : decode cX11_isGood 46 = .ok (.if_icmp .gt 7, 3) := by decide +kernel
theorem dX11_isGood_49 : decode cX11_isGood 49 = .ok (.iconst 1, 1) := by decide +kernel
theorem dX11_isGood_50 : decode cX11_isGood 50 = .ok (.goto 4, 3) := by decide +kernel
theorem dX11_isGood_53 : decode cX11_isGood 53 = .ok (.iconst 0, 1) := by decide +kernel
theorem dX11_isGood_54 : decode cX11_isGood 54 = .ok (.ireturn, 1) := by decide +kernel
theorem dX11_pointOf_0 : decode cX11_pointOf 0 = .ok (.iconst 0, 1) := by decide +kernel
theorem dX11_pointOf_1 : decode cX11_pointOf 1 = .ok (.istore_n 2, 1) := by decide +kernel
theorem dX11_pointOf_2 : decode cX11_pointOf 2 = .ok (.aload_n 0, 1) := by decide +kernel
theorem dX11_pointOf_3 : decode cX11_pointOf 3 = .ok (.getfield 123, 3) := by decide +kernel
theorem dX11_pointOf_6 : decode cX11_pointOf 6 = .ok (.iload_n 2, 1) := by decide +kernel
theorem dX11_pointOf_7 : decode cX11_pointOf 7 = .ok (.iaload, 1) := by decide +kernel
theorem dX11_pointOf_8 : decode cX11_pointOf 8 = .ok (.iload_n 1, 1) := by decide +kernel
theorem dX11_pointOf_9 : decode cX11_pointOf 9 = .ok (.if_icmp .eq 9, 3) := by decide +kernel
theorem dX11_pointOf_12 : decode cX11_pointOf 12 = .ok (.iinc 2 1, 3) := by decide +kernel
theorem dX11_pointOf_15 : decode cX11_pointOf 15 = .ok (.goto (-13), 3) := by decide +kernel
theorem dX11_pointOf_18 : decode cX11_pointOf 18 = .ok (.iload_n 2, 1) := by decide +kernel
theorem dX11_pointOf_19 : decode cX11_pointOf 19 = .ok (.ireturn, 1) := by decide +kernel
theorem dX11_laysLetters_0 : decode cX11_laysLetters 0 = .ok (.iconst 0, 1) := by decide +kernel
theorem dX11_laysLetters_1 : decode cX11_laysLetters 1 = .ok (.istore_n 1, 1) := by decide +kernel
theorem dX11_laysLetters_2 : decode cX11_laysLetters 2 = .ok (.iload_n 1, 1) := by decide +kernel
theorem dX11_laysLetters_3 : decode cX11_laysLetters 3 = .ok (.bipush 34, 2) := by decide +kernel
theorem dX11_laysLetters_5 : decode cX11_laysLetters 5 = .ok (.if_icmp .ge 16, 3) := by decide +kernel
theorem dX11_laysLetters_8 : decode cX11_laysLetters 8 = .ok (.aload_n 0, 1) := by decide +kernel
theorem dX11_laysLetters_9 : decode cX11_laysLetters 9 = .ok (.getfield 87, 3) := by decide +kernel
theorem dX11_laysLetters_12 : decode cX11_laysLetters 12 = .ok (.iload_n 1, 1) := by decide +kernel
theorem dX11_laysLetters_13 : decode cX11_laysLetters 13 = .ok (.iconst 0, 1) := by decide +kernel
theorem dX11_laysLetters_14 : decode cX11_laysLetters 14 = .ok (.iastore, 1) := by decide +kernel
theorem dX11_laysLetters_15 : decode cX11_laysLetters 15 = .ok (.iinc 1 1, 3) := by decide +kernel
theorem dX11_laysLetters_18 : decode cX11_laysLetters 18 = .ok (.goto (-16), 3) := by decide +kernel
theorem dX11_laysLetters_21 : decode cX11_laysLetters 21 = .ok (.bipush 97, 2) := by decide +kernel
theorem dX11_laysLetters_23 : decode cX11_laysLetters 23 = .ok (.istore_n 1, 1) := by decide +kernel
theorem dX11_laysLetters_24 : decode cX11_laysLetters 24 = .ok (.iload_n 1, 1) := by decide +kernel
theorem dX11_laysLetters_25 : decode cX11_laysLetters 25 = .ok (.bipush 122, 2) := by decide +kernel
theorem dX11_laysLetters_27 : decode cX11_laysLetters 27 = .ok (.if_icmp .gt 68, 3) := by decide +kernel
theorem dX11_laysLetters_30 : decode cX11_laysLetters 30 = .ok (.iconst 0, 1) := by decide +kernel
theorem dX11_laysLetters_31 : decode cX11_laysLetters 31 = .ok (.istore_n 2, 1) := by decide +kernel
theorem dX11_laysLetters_32 : decode cX11_laysLetters 32 = .ok (.iconst 0, 1) := by decide +kernel
theorem dX11_laysLetters_33 : decode cX11_laysLetters 33 = .ok (.istore_n 3, 1) := by decide +kernel
theorem dX11_laysLetters_34 : decode cX11_laysLetters 34 = .ok (.iload_n 3, 1) := by decide +kernel
theorem dX11_laysLetters_35 : decode cX11_laysLetters 35 = .ok (.aload_n 0, 1) := by decide +kernel
theorem dX11_laysLetters_36 : decode cX11_laysLetters 36 = .ok (.getfield 311, 3) := by decide +kernel
theorem dX11_laysLetters_39 : decode cX11_laysLetters 39 = .ok (.if_icmp .ge 21, 3) := by decide +kernel
theorem dX11_laysLetters_42 : decode cX11_laysLetters 42 = .ok (.aload_n 0, 1) := by decide +kernel
theorem dX11_laysLetters_43 : decode cX11_laysLetters 43 = .ok (.getfield 117, 3) := by decide +kernel
theorem dX11_laysLetters_46 : decode cX11_laysLetters 46 = .ok (.iload_n 3, 1) := by decide +kernel
theorem dX11_laysLetters_47 : decode cX11_laysLetters 47 = .ok (.iaload, 1) := by decide +kernel
theorem dX11_laysLetters_48 : decode cX11_laysLetters 48 = .ok (.iload_n 1, 1) := by decide +kernel
theorem dX11_laysLetters_49 : decode cX11_laysLetters 49 = .ok (.if_icmp .ne 5, 3) := by decide +kernel
theorem dX11_laysLetters_52 : decode cX11_laysLetters 52 = .ok (.iconst 1, 1) := by decide +kernel
theorem dX11_laysLetters_53 : decode cX11_laysLetters 53 = .ok (.istore_n 2, 1) := by decide +kernel
theorem dX11_laysLetters_54 : decode cX11_laysLetters 54 = .ok (.iinc 3 1, 3) := by decide +kernel
theorem dX11_laysLetters_57 : decode cX11_laysLetters 57 = .ok (.goto (-23), 3) := by decide +kernel
theorem dX11_laysLetters_60 : decode cX11_laysLetters 60 = .ok (.iload_n 2, 1) := by decide +kernel
theorem dX11_laysLetters_61 : decode cX11_laysLetters 61 = .ok (.ifCond .ne 6, 3) := by decide +kernel
theorem dX11_laysLetters_64 : decode cX11_laysLetters 64 = .ok (.goto 25, 3) := by decide +kernel
theorem dX11_laysLetters_67 : decode cX11_laysLetters 67 = .ok (.aload_n 0, 1) := by decide +kernel
theorem dX11_laysLetters_68 : decode cX11_laysLetters 68 = .ok (.getfield 123, 3) := by decide +kernel
theorem dX11_laysLetters_71 : decode cX11_laysLetters 71 = .ok (.aload_n 0, 1) := by decide +kernel
theorem dX11_laysLetters_72 : decode cX11_laysLetters 72 = .ok (.getfield 87, 3) := by decide +kernel
theorem dX11_laysLetters_75 : decode cX11_laysLetters 75 = .ok (.iconst 0, 1) := by decide +kernel
theorem dX11_laysLetters_76 : decode cX11_laysLetters 76 = .ok (.iaload, 1) := by decide +kernel
theorem dX11_laysLetters_77 : decode cX11_laysLetters 77 = .ok (.iload_n 1, 1) := by decide +kernel
theorem dX11_laysLetters_78 : decode cX11_laysLetters 78 = .ok (.iastore, 1) := by decide +kernel
theorem dX11_laysLetters_79 : decode cX11_laysLetters 79 = .ok (.aload_n 0, 1) := by decide +kernel
theorem dX11_laysLetters_80 : decode cX11_laysLetters 80 = .ok (.getfield 87, 3) := by decide +kernel
theorem dX11_laysLetters_83 : decode cX11_laysLetters 83 = .ok (.iconst 0, 1) := by decide +kernel
theorem dX11_laysLetters_84 : decode cX11_laysLetters 84 = .ok (.dup2, 1) := by decide +kernel
theorem dX11_laysLetters_85 : decode cX11_laysLetters 85 = .ok (.iaload, 1) := by decide +kernel
theorem dX11_laysLetters_86 : decode cX11_laysLetters 86 = .ok (.iconst 1, 1) := by decide +kernel
theorem dX11_laysLetters_87 : decode cX11_laysLetters 87 = .ok (.iadd, 1) := by decide +kernel
theorem dX11_laysLetters_88 : decode cX11_laysLetters 88 = .ok (.iastore, 1) := by decide +kernel
theorem dX11_laysLetters_89 : decode cX11_laysLetters 89 = .ok (.iinc 1 1, 3) := by decide +kernel
theorem dX11_laysLetters_92 : decode cX11_laysLetters 92 = .ok (.goto (-68), 3) := by decide +kernel
theorem dX11_laysLetters_95 : decode cX11_laysLetters 95 = .ok (.iconst 0, 1) := by decide +kernel
theorem dX11_laysLetters_96 : decode cX11_laysLetters 96 = .ok (.istore_n 1, 1) := by decide +kernel
theorem dX11_laysLetters_97 : decode cX11_laysLetters 97 = .ok (.iload_n 1, 1) := by decide +kernel
theorem dX11_laysLetters_98 : decode cX11_laysLetters 98 = .ok (.aload_n 0, 1) := by decide +kernel
theorem dX11_laysLetters_99 : decode cX11_laysLetters 99 = .ok (.getfield 87, 3) := by decide +kernel
theorem dX11_laysLetters_102 : decode cX11_laysLetters 102 = .ok (.iconst 0, 1) := by decide +kernel
theorem dX11_laysLetters_103 : decode cX11_laysLetters 103 = .ok (.iaload, 1) := by decide +kernel
theorem dX11_laysLetters_104 : decode cX11_laysLetters 104 = .ok (.if_icmp .ge 86, 3) := by decide +kernel
theorem dX11_laysLetters_107 : decode cX11_laysLetters 107 = .ok (.iconst 0, 1) := by decide +kernel
theorem dX11_laysLetters_108 : decode cX11_laysLetters 108 = .ok (.istore_n 2, 1) := by decide +kernel
theorem dX11_laysLetters_109 : decode cX11_laysLetters 109 = .ok (.iload_n 2, 1) := by decide +kernel
theorem dX11_laysLetters_110 : decode cX11_laysLetters 110 = .ok (.aload_n 0, 1) := by decide +kernel
theorem dX11_laysLetters_111 : decode cX11_laysLetters 111 = .ok (.getfield 87, 3) := by decide +kernel
theorem dX11_laysLetters_114 : decode cX11_laysLetters 114 = .ok (.iconst 0, 1) := by decide +kernel
theorem dX11_laysLetters_115 : decode cX11_laysLetters 115 = .ok (.iaload, 1) := by decide +kernel
theorem dX11_laysLetters_116 : decode cX11_laysLetters 116 = .ok (.if_icmp .ge 68, 3) := by decide +kernel
theorem dX11_laysLetters_119 : decode cX11_laysLetters 119 = .ok (.iconst 0, 1) := by decide +kernel
theorem dX11_laysLetters_120 : decode cX11_laysLetters 120 = .ok (.istore_n 3, 1) := by decide +kernel
theorem dX11_laysLetters_121 : decode cX11_laysLetters 121 = .ok (.iload_n 3, 1) := by decide +kernel
theorem dX11_laysLetters_122 : decode cX11_laysLetters 122 = .ok (.iconst 1, 1) := by decide +kernel
theorem dX11_laysLetters_123 : decode cX11_laysLetters 123 = .ok (.iadd, 1) := by decide +kernel
theorem dX11_laysLetters_124 : decode cX11_laysLetters 124 = .ok (.aload_n 0, 1) := by decide +kernel
theorem dX11_laysLetters_125 : decode cX11_laysLetters 125 = .ok (.getfield 311, 3) := by decide +kernel
theorem dX11_laysLetters_128 : decode cX11_laysLetters 128 = .ok (.if_icmp .ge 50, 3) := by decide +kernel
theorem dX11_laysLetters_131 : decode cX11_laysLetters 131 = .ok (.aload_n 0, 1) := by decide +kernel
theorem dX11_laysLetters_132 : decode cX11_laysLetters 132 = .ok (.getfield 117, 3) := by decide +kernel
theorem dX11_laysLetters_135 : decode cX11_laysLetters 135 = .ok (.iload_n 3, 1) := by decide +kernel
theorem dX11_laysLetters_136 : decode cX11_laysLetters 136 = .ok (.iaload, 1) := by decide +kernel
theorem dX11_laysLetters_137 : decode cX11_laysLetters 137 = .ok (.aload_n 0, 1) := by decide +kernel
theorem dX11_laysLetters_138 : decode cX11_laysLetters 138 = .ok (.getfield 123, 3) := by decide +kernel
theorem dX11_laysLetters_141 : decode cX11_laysLetters 141 = .ok (.iload_n 1, 1) := by decide +kernel
theorem dX11_laysLetters_142 : decode cX11_laysLetters 142 = .ok (.iaload, 1) := by decide +kernel
theorem dX11_laysLetters_143 : decode cX11_laysLetters 143 = .ok (.if_icmp .ne 29, 3) := by decide +kernel
theorem dX11_laysLetters_146 : decode cX11_laysLetters 146 = .ok (.aload_n 0, 1) := by decide +kernel
theorem dX11_laysLetters_147 : decode cX11_laysLetters 147 = .ok (.getfield 117, 3) := by decide +kernel
theorem dX11_laysLetters_150 : decode cX11_laysLetters 150 = .ok (.iload_n 3, 1) := by decide +kernel
theorem dX11_laysLetters_151 : decode cX11_laysLetters 151 = .ok (.iconst 1, 1) := by decide +kernel
theorem dX11_laysLetters_152 : decode cX11_laysLetters 152 = .ok (.iadd, 1) := by decide +kernel
theorem dX11_laysLetters_153 : decode cX11_laysLetters 153 = .ok (.iaload, 1) := by decide +kernel
theorem dX11_laysLetters_154 : decode cX11_laysLetters 154 = .ok (.aload_n 0, 1) := by decide +kernel
theorem dX11_laysLetters_155 : decode cX11_laysLetters 155 = .ok (.getfield 123, 3) := by decide +kernel
theorem dX11_laysLetters_158 : decode cX11_laysLetters 158 = .ok (.iload_n 2, 1) := by decide +kernel
theorem dX11_laysLetters_159 : decode cX11_laysLetters 159 = .ok (.iaload, 1) := by decide +kernel
theorem dX11_laysLetters_160 : decode cX11_laysLetters 160 = .ok (.if_icmp .ne 12, 3) := by decide +kernel
theorem dX11_laysLetters_163 : decode cX11_laysLetters 163 = .ok (.aload_n 0, 1) := by decide +kernel
theorem dX11_laysLetters_164 : decode cX11_laysLetters 164 = .ok (.getfield 87, 3) := by decide +kernel
theorem dX11_laysLetters_167 : decode cX11_laysLetters 167 = .ok (.iload_n 1, 1) := by decide +kernel
theorem dX11_laysLetters_168 : decode cX11_laysLetters 168 = .ok (.iload_n 2, 1) := by decide +kernel
theorem dX11_laysLetters_169 : decode cX11_laysLetters 169 = .ok (.invokestatic 148, 3) := by decide +kernel
theorem dX11_laysLetters_172 : decode cX11_laysLetters 172 = .ok (.iinc 3 1, 3) := by decide +kernel
theorem dX11_laysLetters_175 : decode cX11_laysLetters 175 = .ok (.goto (-54), 3) := by decide +kernel
theorem dX11_laysLetters_178 : decode cX11_laysLetters 178 = .ok (.iinc 2 1, 3) := by decide +kernel
theorem dX11_laysLetters_181 : decode cX11_laysLetters 181 = .ok (.goto (-72), 3) := by decide +kernel
theorem dX11_laysLetters_184 : decode cX11_laysLetters 184 = .ok (.iinc 1 1, 3) := by decide +kernel
theorem dX11_laysLetters_187 : decode cX11_laysLetters 187 = .ok (.goto (-90), 3) := by decide +kernel
theorem dX11_laysLetters_190 : decode cX11_laysLetters 190 = .ok (.aload_n 0, 1) := by decide +kernel
theorem dX11_laysLetters_191 : decode cX11_laysLetters 191 = .ok (.aload_n 0, 1) := by decide +kernel
theorem dX11_laysLetters_192 : decode cX11_laysLetters 192 = .ok (.getfield 87, 3) := by decide +kernel
theorem dX11_laysLetters_195 : decode cX11_laysLetters 195 = .ok (.aload_n 0, 1) := by decide +kernel
theorem dX11_laysLetters_196 : decode cX11_laysLetters 196 = .ok (.aload_n 0, 1) := by decide +kernel
theorem dX11_laysLetters_197 : decode cX11_laysLetters 197 = .ok (.getfield 117, 3) := by decide +kernel
theorem dX11_laysLetters_200 : decode cX11_laysLetters 200 = .ok (.iconst 0, 1) := by decide +kernel
theorem dX11_laysLetters_201 : decode cX11_laysLetters 201 = .ok (.iaload, 1) := by decide +kernel
theorem dX11_laysLetters_202 : decode cX11_laysLetters 202 = .ok (.invokevirtual 314, 3) := by decide +kernel
theorem dX11_laysLetters_205 : decode cX11_laysLetters 205 = .ok (.iconst 2, 1) := by decide +kernel
theorem dX11_laysLetters_206 : decode cX11_laysLetters 206 = .ok (.iconst 0, 1) := by decide +kernel
theorem dX11_laysLetters_207 : decode cX11_laysLetters 207 = .ok (.invokevirtual 260, 3) := by decide +kernel
theorem dX11_laysLetters_210 : decode cX11_laysLetters 210 = .ok (.return_, 1) := by decide +kernel
theorem dX11_words_0 : decode cX11_words 0 = .ok (.aload_n 0, 1) := by decide +kernel
theorem dX11_words_1 : decode cX11_words 1 = .ok (.iconst 0, 1) := by decide +kernel
theorem dX11_words_2 : decode cX11_words 2 = .ok (.putfield 1, 3) := by decide +kernel
theorem dX11_words_5 : decode cX11_words 5 = .ok (.aload_n 0, 1) := by decide +kernel
theorem dX11_words_6 : decode cX11_words 6 = .ok (.getfield 11, 3) := by decide +kernel
theorem dX11_words_9 : decode cX11_words 9 = .ok (.istore_n 1, 1) := by decide +kernel
theorem dX11_words_10 : decode cX11_words 10 = .ok (.aload_n 0, 1) := by decide +kernel
theorem dX11_words_11 : decode cX11_words 11 = .ok (.iconst 0, 1) := by decide +kernel
theorem dX11_words_12 : decode cX11_words 12 = .ok (.putfield 11, 3) := by decide +kernel
theorem dX11_words_15 : decode cX11_words 15 = .ok (.aload_n 0, 1) := by decide +kernel
theorem dX11_words_16 : decode cX11_words 16 = .ok (.iload_n 1, 1) := by decide +kernel
theorem dX11_words_17 : decode cX11_words 17 = .ok (.invokevirtual 317, 3) := by decide +kernel
theorem dX11_words_20 : decode cX11_words 20 = .ok (.ifCond .ne 7, 3) := by decide +kernel
theorem dX11_words_23 : decode cX11_words 23 = .ok (.ldc2_w 244, 3) := by decide +kernel
theorem dX11_words_26 : decode cX11_words 26 = .ok (.lreturn, 1) := by decide +kernel
theorem dX11_words_27 : decode cX11_words 27 = .ok (.aload_n 0, 1) := by decide +kernel
theorem dX11_words_28 : decode cX11_words 28 = .ok (.iload_n 1, 1) := by decide +kernel
theorem dX11_words_29 : decode cX11_words 29 = .ok (.putfield 311, 3) := by decide +kernel
theorem dX11_words_32 : decode cX11_words 32 = .ok (.iconst 0, 1) := by decide +kernel
theorem dX11_words_33 : decode cX11_words 33 = .ok (.istore_n 2, 1) := by decide +kernel
theorem dX11_words_34 : decode cX11_words 34 = .ok (.iload_n 2, 1) := by decide +kernel
theorem dX11_words_35 : decode cX11_words 35 = .ok (.iload_n 1, 1) := by decide +kernel
theorem dX11_words_36 : decode cX11_words 36 = .ok (.if_icmp .ge 21, 3) := by decide +kernel
theorem dX11_words_39 : decode cX11_words 39 = .ok (.aload_n 0, 1) := by decide +kernel
theorem dX11_words_40 : decode cX11_words 40 = .ok (.getfield 117, 3) := by decide +kernel
theorem dX11_words_43 : decode cX11_words 43 = .ok (.iload_n 2, 1) := by decide +kernel
theorem dX11_words_44 : decode cX11_words 44 = .ok (.aload_n 0, 1) := by decide +kernel
theorem dX11_words_45 : decode cX11_words 45 = .ok (.getfield 7, 3) := by decide +kernel
theorem dX11_words_48 : decode cX11_words 48 = .ok (.iload_n 2, 1) := by decide +kernel
theorem dX11_words_49 : decode cX11_words 49 = .ok (.iaload, 1) := by decide +kernel
theorem dX11_words_50 : decode cX11_words 50 = .ok (.iastore, 1) := by decide +kernel
theorem dX11_words_51 : decode cX11_words 51 = .ok (.iinc 2 1, 3) := by decide +kernel
theorem dX11_words_54 : decode cX11_words 54 = .ok (.goto (-20), 3) := by decide +kernel
theorem dX11_words_57 : decode cX11_words 57 = .ok (.aload_n 0, 1) := by decide +kernel
theorem dX11_words_58 : decode cX11_words 58 = .ok (.invokevirtual 320, 3) := by decide +kernel
theorem dX11_words_61 : decode cX11_words 61 = .ok (.aload_n 0, 1) := by decide +kernel
theorem dX11_words_62 : decode cX11_words 62 = .ok (.getfield 102, 3) := by decide +kernel
theorem dX11_words_65 : decode cX11_words 65 = .ok (.iconst 0, 1) := by decide +kernel
theorem dX11_words_66 : decode cX11_words 66 = .ok (.laload, 1) := by decide +kernel
theorem dX11_words_67 : decode cX11_words 67 = .ok (.lreturn, 1) := by decide +kernel
theorem dX11_wordRank_0 : decode cX11_wordRank 0 = .ok (.aload_n 0, 1) := by decide +kernel
theorem dX11_wordRank_1 : decode cX11_wordRank 1 = .ok (.iconst 0, 1) := by decide +kernel
theorem dX11_wordRank_2 : decode cX11_wordRank 2 = .ok (.putfield 1, 3) := by decide +kernel
theorem dX11_wordRank_5 : decode cX11_wordRank 5 = .ok (.aload_n 0, 1) := by decide +kernel
theorem dX11_wordRank_6 : decode cX11_wordRank 6 = .ok (.getfield 311, 3) := by decide +kernel
theorem dX11_wordRank_9 : decode cX11_wordRank 9 = .ok (.ifCond .ne 7, 3) := by decide +kernel
theorem dX11_wordRank_12 : decode cX11_wordRank 12 = .ok (.ldc2_w 244, 3) := by decide +kernel
theorem dX11_wordRank_15 : decode cX11_wordRank 15 = .ok (.lreturn, 1) := by decide +kernel
theorem dX11_wordRank_16 : decode cX11_wordRank 16 = .ok (.aload_n 0, 1) := by decide +kernel
theorem dX11_wordRank_17 : decode cX11_wordRank 17 = .ok (.invokevirtual 320, 3) := by decide +kernel
theorem dX11_wordRank_20 : decode cX11_wordRank 20 = .ok (.lconst 0, 1) := by decide +kernel
theorem dX11_wordRank_21 : decode cX11_wordRank 21 = .ok (.lstore_n 1, 1) := by decide +kernel
theorem dX11_wordRank_22 : decode cX11_wordRank 22 = .ok (.iconst 0, 1) := by decide +kernel
theorem dX11_wordRank_23 : decode cX11_wordRank 23 = .ok (.istore_n 3, 1) := by decide +kernel
theorem dX11_wordRank_24 : decode cX11_wordRank 24 = .ok (.iconst 0, 1) := by decide +kernel
theorem dX11_wordRank_25 : decode cX11_wordRank 25 = .ok (.istore 4, 2) := by decide +kernel
theorem dX11_wordRank_27 : decode cX11_wordRank 27 = .ok (.iload 4, 2) := by decide +kernel
theorem dX11_wordRank_29 : decode cX11_wordRank 29 = .ok (.iconst 1, 1) := by decide +kernel
theorem dX11_wordRank_30 : decode cX11_wordRank 30 = .ok (.iadd, 1) := by decide +kernel
theorem dX11_wordRank_31 : decode cX11_wordRank 31 = .ok (.aload_n 0, 1) := by decide +kernel
theorem dX11_wordRank_32 : decode cX11_wordRank 32 = .ok (.getfield 311, 3) := by decide +kernel
theorem dX11_wordRank_35 : decode cX11_wordRank 35 = .ok (.if_icmp .ge 142, 3) := by decide +kernel
theorem dX11_wordRank_38 : decode cX11_wordRank 38 = .ok (.aload_n 0, 1) := by decide +kernel
theorem dX11_wordRank_39 : decode cX11_wordRank 39 = .ok (.aload_n 0, 1) := by decide +kernel
theorem dX11_wordRank_40 : decode cX11_wordRank 40 = .ok (.getfield 117, 3) := by decide +kernel
theorem dX11_wordRank_43 : decode cX11_wordRank 43 = .ok (.iload 4, 2) := by decide +kernel
theorem dX11_wordRank_45 : decode cX11_wordRank 45 = .ok (.iaload, 1) := by decide +kernel
theorem dX11_wordRank_46 : decode cX11_wordRank 46 = .ok (.invokevirtual 314, 3) := by decide +kernel
theorem dX11_wordRank_49 : decode cX11_wordRank 49 = .ok (.istore 5, 2) := by decide +kernel
theorem dX11_wordRank_51 : decode cX11_wordRank 51 = .ok (.aload_n 0, 1) := by decide +kernel
theorem dX11_wordRank_52 : decode cX11_wordRank 52 = .ok (.aload_n 0, 1) := by decide +kernel
theorem dX11_wordRank_53 : decode cX11_wordRank 53 = .ok (.getfield 117, 3) := by decide +kernel
theorem dX11_wordRank_56 : decode cX11_wordRank 56 = .ok (.iload 4, 2) := by decide +kernel
theorem dX11_wordRank_58 : decode cX11_wordRank 58 = .ok (.iconst 1, 1) := by decide +kernel
theorem dX11_wordRank_59 : decode cX11_wordRank 59 = .ok (.iadd, 1) := by decide +kernel
theorem dX11_wordRank_60 : decode cX11_wordRank 60 = .ok (.iaload, 1) := by decide +kernel
theorem dX11_wordRank_61 : decode cX11_wordRank 61 = .ok (.invokevirtual 314, 3) := by decide +kernel
theorem dX11_wordRank_64 : decode cX11_wordRank 64 = .ok (.istore 6, 2) := by decide +kernel
theorem dX11_wordRank_66 : decode cX11_wordRank 66 = .ok (.iconst (-1), 1) := by decide +kernel
theorem dX11_wordRank_67 : decode cX11_wordRank 67 = .ok (.istore 7, 2) := by decide +kernel
theorem dX11_wordRank_69 : decode cX11_wordRank 69 = .ok (.iconst 0, 1) := by decide +kernel
theorem dX11_wordRank_70 : decode cX11_wordRank 70 = .ok (.istore 8, 2) := by decide +kernel
theorem dX11_wordRank_72 : decode cX11_wordRank 72 = .ok (.iload 8, 2) := by decide +kernel
theorem dX11_wordRank_74 : decode cX11_wordRank 74 = .ok (.aload_n 0, 1) := by decide +kernel
theorem dX11_wordRank_75 : decode cX11_wordRank 75 = .ok (.getfield 87, 3) := by decide +kernel
theorem dX11_wordRank_78 : decode cX11_wordRank 78 = .ok (.iconst 1, 1) := by decide +kernel
theorem dX11_wordRank_79 : decode cX11_wordRank 79 = .ok (.iaload, 1) := by decide +kernel
theorem dX11_wordRank_80 : decode cX11_wordRank 80 = .ok (.if_icmp .ge 84, 3) := by decide +kernel
theorem dX11_wordRank_83 : decode cX11_wordRank 83 = .ok (.iload 7, 2) := by decide +kernel
theorem dX11_wordRank_85 : decode cX11_wordRank 85 = .ok (.iconst (-1), 1) := by decide +kernel
theorem dX11_wordRank_86 : decode cX11_wordRank 86 = .ok (.if_icmp .ne 78, 3) := by decide +kernel
theorem dX11_wordRank_89 : decode cX11_wordRank 89 = .ok (.aload_n 0, 1) := by decide +kernel
theorem dX11_wordRank_90 : decode cX11_wordRank 90 = .ok (.getfield 87, 3) := by decide +kernel
theorem dX11_wordRank_93 : decode cX11_wordRank 93 = .ok (.iconst 2, 1) := by decide +kernel
theorem dX11_wordRank_94 : decode cX11_wordRank 94 = .ok (.iload 8, 2) := by decide +kernel
theorem dX11_wordRank_96 : decode cX11_wordRank 96 = .ok (.iadd, 1) := by decide +kernel
theorem dX11_wordRank_97 : decode cX11_wordRank 97 = .ok (.iaload, 1) := by decide +kernel
theorem dX11_wordRank_98 : decode cX11_wordRank 98 = .ok (.iload 5, 2) := by decide +kernel
theorem dX11_wordRank_100 : decode cX11_wordRank 100 = .ok (.if_icmp .ne 58, 3) := by decide +kernel
theorem dX11_wordRank_103 : decode cX11_wordRank 103 = .ok (.aload_n 0, 1) := by decide +kernel
theorem dX11_wordRank_104 : decode cX11_wordRank 104 = .ok (.aload_n 0, 1) := by decide +kernel
theorem dX11_wordRank_105 : decode cX11_wordRank 105 = .ok (.getfield 87, 3) := by decide +kernel
theorem dX11_wordRank_108 : decode cX11_wordRank 108 = .ok (.iload_n 3, 1) := by decide +kernel
theorem dX11_wordRank_109 : decode cX11_wordRank 109 = .ok (.iload 8, 2) := by decide +kernel
theorem dX11_wordRank_111 : decode cX11_wordRank 111 = .ok (.iconst 2, 1) := by decide +kernel
theorem dX11_wordRank_112 : decode cX11_wordRank 112 = .ok (.iconst 0, 1) := by decide +kernel
theorem dX11_wordRank_113 : decode cX11_wordRank 113 = .ok (.invokevirtual 256, 3) := by decide +kernel
theorem dX11_wordRank_116 : decode cX11_wordRank 116 = .ok (.ifCond .ne 6, 3) := by decide +kernel
theorem dX11_wordRank_119 : decode cX11_wordRank 119 = .ok (.goto 39, 3) := by decide +kernel
theorem dX11_wordRank_122 : decode cX11_wordRank 122 = .ok (.aload_n 0, 1) := by decide +kernel
theorem dX11_wordRank_123 : decode cX11_wordRank 123 = .ok (.getfield 87, 3) := by decide +kernel
theorem dX11_wordRank_126 : decode cX11_wordRank 126 = .ok (.bipush 18, 2) := by decide +kernel
theorem dX11_wordRank_128 : decode cX11_wordRank 128 = .ok (.iload 8, 2) := by decide +kernel
theorem dX11_wordRank_130 : decode cX11_wordRank 130 = .ok (.iadd, 1) := by decide +kernel
theorem dX11_wordRank_131 : decode cX11_wordRank 131 = .ok (.iaload, 1) := by decide +kernel
theorem dX11_wordRank_132 : decode cX11_wordRank 132 = .ok (.iload 6, 2) := by decide +kernel
theorem dX11_wordRank_134 : decode cX11_wordRank 134 = .ok (.if_icmp .ne 10, 3) := by decide +kernel
theorem dX11_wordRank_137 : decode cX11_wordRank 137 = .ok (.iload 8, 2) := by decide +kernel
theorem dX11_wordRank_139 : decode cX11_wordRank 139 = .ok (.istore 7, 2) := by decide +kernel
theorem dX11_wordRank_141 : decode cX11_wordRank 141 = .ok (.goto 17, 3) := by decide +kernel
theorem dX11_wordRank_144 : decode cX11_wordRank 144 = .ok (.lload_n 1, 1) := by decide +kernel
theorem dX11_wordRank_145 : decode cX11_wordRank 145 = .ok (.aload_n 0, 1) := by decide +kernel
theorem dX11_wordRank_146 : decode cX11_wordRank 146 = .ok (.getfield 102, 3) := by decide +kernel
theorem dX11_wordRank_149 : decode cX11_wordRank 149 = .ok (.iload_n 3, 1) := by decide +kernel
theorem dX11_wordRank_150 : decode cX11_wordRank 150 = .ok (.iconst 1, 1) := by decide +kernel
theorem dX11_wordRank_151 : decode cX11_wordRank 151 = .ok (.iload 8, 2) := by decide +kernel
theorem dX11_wordRank_153 : decode cX11_wordRank 153 = .ok (.ishl, 1) := by decide +kernel
theorem dX11_wordRank_154 : decode cX11_wordRank 154 = .ok (.ior, 1) := by decide +kernel
theorem dX11_wordRank_155 : decode cX11_wordRank 155 = .ok (.laload, 1) := by decide +kernel
theorem dX11_wordRank_156 : decode cX11_wordRank 156 = .ok (.ladd, 1) := by decide +kernel
theorem dX11_wordRank_157 : decode cX11_wordRank 157 = .ok (.lstore_n 1, 1) := by decide +kernel
theorem dX11_wordRank_158 : decode cX11_wordRank 158 = .ok (.iinc 8 1, 3) := by decide +kernel
theorem dX11_wordRank_161 : decode cX11_wordRank 161 = .ok (.goto (-89), 3) := by decide +kernel
theorem dX11_wordRank_164 : decode cX11_wordRank 164 = .ok (.iload_n 3, 1) := by decide +kernel
theorem dX11_wordRank_165 : decode cX11_wordRank 165 = .ok (.iconst 1, 1) := by decide +kernel
theorem dX11_wordRank_166 : decode cX11_wordRank 166 = .ok (.iload 7, 2) := by decide +kernel
theorem dX11_wordRank_168 : decode cX11_wordRank 168 = .ok (.ishl, 1) := by decide +kernel
theorem dX11_wordRank_169 : decode cX11_wordRank 169 = .ok (.ior, 1) := by decide +kernel
theorem dX11_wordRank_170 : decode cX11_wordRank 170 = .ok (.istore_n 3, 1) := by decide +kernel
theorem dX11_wordRank_171 : decode cX11_wordRank 171 = .ok (.iinc 4 1, 3) := by decide +kernel
theorem dX11_wordRank_174 : decode cX11_wordRank 174 = .ok (.goto (-147), 3) := by decide +kernel
theorem dX11_wordRank_177 : decode cX11_wordRank 177 = .ok (.lload_n 1, 1) := by decide +kernel
theorem dX11_wordRank_178 : decode cX11_wordRank 178 = .ok (.lreturn, 1) := by decide +kernel
theorem dX11_word_0 : decode cX11_word 0 = .ok (.aload_n 0, 1) := by decide +kernel
theorem dX11_word_1 : decode cX11_word 1 = .ok (.iconst 0, 1) := by decide +kernel
theorem dX11_word_2 : decode cX11_word 2 = .ok (.putfield 1, 3) := by decide +kernel
theorem dX11_word_5 : decode cX11_word 5 = .ok (.aload_n 0, 1) := by decide +kernel
theorem dX11_word_6 : decode cX11_word 6 = .ok (.getfield 311, 3) := by decide +kernel
theorem dX11_word_9 : decode cX11_word 9 = .ok (.ifCond .eq 9, 3) := by decide +kernel
theorem dX11_word_12 : decode cX11_word 12 = .ok (.lload_n 1, 1) := by decide +kernel
theorem dX11_word_13 : decode cX11_word 13 = .ok (.lconst 0, 1) := by decide +kernel
theorem dX11_word_14 : decode cX11_word 14 = .ok (.lcmp, 1) := by decide +kernel
theorem dX11_word_15 : decode cX11_word 15 = .ok (.ifCond .ge 8, 3) := by decide +kernel
theorem dX11_word_18 : decode cX11_word 18 = .ok (.aload_n 0, 1) := by decide +kernel
theorem dX11_word_19 : decode cX11_word 19 = .ok (.invokevirtual 216, 3) := by decide +kernel
theorem dX11_word_22 : decode cX11_word 22 = .ok (.ireturn, 1) := by decide +kernel
theorem dX11_word_23 : decode cX11_word 23 = .ok (.aload_n 0, 1) := by decide +kernel
theorem dX11_word_24 : decode cX11_word 24 = .ok (.invokevirtual 320, 3) := by decide +kernel
theorem dX11_word_27 : decode cX11_word 27 = .ok (.lload_n 1, 1) := by decide +kernel
theorem dX11_word_28 : decode cX11_word 28 = .ok (.aload_n 0, 1) := by decide +kernel
theorem dX11_word_29 : decode cX11_word 29 = .ok (.getfield 102, 3) := by decide +kernel
theorem dX11_word_32 : decode cX11_word 32 = .ok (.iconst 0, 1) := by decide +kernel
theorem dX11_word_33 : decode cX11_word 33 = .ok (.laload, 1) := by decide +kernel
theorem dX11_word_34 : decode cX11_word 34 = .ok (.lcmp, 1) := by decide +kernel
theorem dX11_word_35 : decode cX11_word 35 = .ok (.ifCond .lt 8, 3) := by decide +kernel
theorem dX11_word_38 : decode cX11_word 38 = .ok (.aload_n 0, 1) := by decide +kernel
theorem dX11_word_39 : decode cX11_word 39 = .ok (.invokevirtual 216, 3) := by decide +kernel
theorem dX11_word_42 : decode cX11_word 42 = .ok (.ireturn, 1) := by decide +kernel
theorem dX11_word_43 : decode cX11_word 43 = .ok (.aload_n 0, 1) := by decide +kernel
theorem dX11_word_44 : decode cX11_word 44 = .ok (.aload_n 0, 1) := by decide +kernel
theorem dX11_word_45 : decode cX11_word 45 = .ok (.getfield 87, 3) := by decide +kernel
theorem dX11_word_48 : decode cX11_word 48 = .ok (.aload_n 0, 1) := by decide +kernel
theorem dX11_word_49 : decode cX11_word 49 = .ok (.aload_n 0, 1) := by decide +kernel
theorem dX11_word_50 : decode cX11_word 50 = .ok (.getfield 117, 3) := by decide +kernel
theorem dX11_word_53 : decode cX11_word 53 = .ok (.iconst 0, 1) := by decide +kernel
theorem dX11_word_54 : decode cX11_word 54 = .ok (.iaload, 1) := by decide +kernel
theorem dX11_word_55 : decode cX11_word 55 = .ok (.invokevirtual 314, 3) := by decide +kernel
theorem dX11_word_58 : decode cX11_word 58 = .ok (.iconst 0, 1) := by decide +kernel
theorem dX11_word_59 : decode cX11_word 59 = .ok (.lload_n 1, 1) := by decide +kernel
theorem dX11_word_60 : decode cX11_word 60 = .ok (.iconst 2, 1) := by decide +kernel
theorem dX11_word_61 : decode cX11_word 61 = .ok (.iconst 0, 1) := by decide +kernel
theorem dX11_word_62 : decode cX11_word 62 = .ok (.invokevirtual 277, 3) := by decide +kernel
theorem dX11_word_65 : decode cX11_word 65 = .ok (.aload_n 0, 1) := by decide +kernel
theorem dX11_word_66 : decode cX11_word 66 = .ok (.aload_n 0, 1) := by decide +kernel
theorem dX11_word_67 : decode cX11_word 67 = .ok (.getfield 311, 3) := by decide +kernel
theorem dX11_word_70 : decode cX11_word 70 = .ok (.putfield 323, 3) := by decide +kernel
theorem dX11_word_73 : decode cX11_word 73 = .ok (.aload_n 0, 1) := by decide +kernel
theorem dX11_word_74 : decode cX11_word 74 = .ok (.getfield 120, 3) := by decide +kernel
theorem dX11_word_77 : decode cX11_word 77 = .ok (.iconst 0, 1) := by decide +kernel
theorem dX11_word_78 : decode cX11_word 78 = .ok (.aload_n 0, 1) := by decide +kernel
theorem dX11_word_79 : decode cX11_word 79 = .ok (.getfield 117, 3) := by decide +kernel
theorem dX11_word_82 : decode cX11_word 82 = .ok (.iconst 0, 1) := by decide +kernel
theorem dX11_word_83 : decode cX11_word 83 = .ok (.iaload, 1) := by decide +kernel
theorem dX11_word_84 : decode cX11_word 84 = .ok (.iastore, 1) := by decide +kernel
theorem dX11_word_85 : decode cX11_word 85 = .ok (.iconst 1, 1) := by decide +kernel
theorem dX11_word_86 : decode cX11_word 86 = .ok (.istore_n 3, 1) := by decide +kernel
theorem dX11_word_87 : decode cX11_word 87 = .ok (.iload_n 3, 1) := by decide +kernel
theorem dX11_word_88 : decode cX11_word 88 = .ok (.aload_n 0, 1) := by decide +kernel
theorem dX11_word_89 : decode cX11_word 89 = .ok (.getfield 323, 3) := by decide +kernel
theorem dX11_word_92 : decode cX11_word 92 = .ok (.if_icmp .ge 36, 3) := by decide +kernel
theorem dX11_word_95 : decode cX11_word 95 = .ok (.aload_n 0, 1) := by decide +kernel
theorem dX11_word_96 : decode cX11_word 96 = .ok (.getfield 120, 3) := by decide +kernel
theorem dX11_word_99 : decode cX11_word 99 = .ok (.iload_n 3, 1) := by decide +kernel
theorem dX11_word_100 : decode cX11_word 100 = .ok (.aload_n 0, 1) := by decide +kernel
theorem dX11_word_101 : decode cX11_word 101 = .ok (.getfield 123, 3) := by decide +kernel
theorem dX11_word_104 : decode cX11_word 104 = .ok (.aload_n 0, 1) := by decide +kernel
theorem dX11_word_105 : decode cX11_word 105 = .ok (.getfield 87, 3) := by decide +kernel
theorem dX11_word_108 : decode cX11_word 108 = .ok (.bipush 18, 2) := by decide +kernel
theorem dX11_word_110 : decode cX11_word 110 = .ok (.aload_n 0, 1) := by decide +kernel
theorem dX11_word_111 : decode cX11_word 111 = .ok (.getfield 111, 3) := by decide +kernel
theorem dX11_word_114 : decode cX11_word 114 = .ok (.iload_n 3, 1) := by decide +kernel
theorem dX11_word_115 : decode cX11_word 115 = .ok (.iconst 1, 1) := by decide +kernel
theorem dX11_word_116 : decode cX11_word 116 = .ok (.isub, 1) := by decide +kernel
theorem dX11_word_117 : decode cX11_word 117 = .ok (.iaload, 1) := by decide +kernel
theorem dX11_word_118 : decode cX11_word 118 = .ok (.iadd, 1) := by decide +kernel
theorem dX11_word_119 : decode cX11_word 119 = .ok (.iaload, 1) := by decide +kernel
theorem dX11_word_120 : decode cX11_word 120 = .ok (.iaload, 1) := by decide +kernel
theorem dX11_word_121 : decode cX11_word 121 = .ok (.iastore, 1) := by decide +kernel
theorem dX11_word_122 : decode cX11_word 122 = .ok (.iinc 3 1, 3) := by decide +kernel
theorem dX11_word_125 : decode cX11_word 125 = .ok (.goto (-38), 3) := by decide +kernel
theorem dX11_word_128 : decode cX11_word 128 = .ok (.aload_n 0, 1) := by decide +kernel
theorem dX11_word_129 : decode cX11_word 129 = .ok (.getfield 120, 3) := by decide +kernel
theorem dX11_word_132 : decode cX11_word 132 = .ok (.aload_n 0, 1) := by decide +kernel
theorem dX11_word_133 : decode cX11_word 133 = .ok (.getfield 323, 3) := by decide +kernel
theorem dX11_word_136 : decode cX11_word 136 = .ok (.iconst 1, 1) := by decide +kernel
theorem dX11_word_137 : decode cX11_word 137 = .ok (.isub, 1) := by decide +kernel
theorem dX11_word_138 : decode cX11_word 138 = .ok (.iaload, 1) := by decide +kernel
theorem dX11_word_139 : decode cX11_word 139 = .ok (.ireturn, 1) := by decide +kernel
theorem dX11_letterAt_0 : decode cX11_letterAt 0 = .ok (.aload_n 0, 1) := by decide +kernel
theorem dX11_letterAt_1 : decode cX11_letterAt 1 = .ok (.iconst 0, 1) := by decide +kernel
theorem dX11_letterAt_2 : decode cX11_letterAt 2 = .ok (.putfield 1, 3) := by decide +kernel
theorem dX11_letterAt_5 : decode cX11_letterAt 5 = .ok (.iload_n 1, 1) := by decide +kernel
theorem dX11_letterAt_6 : decode cX11_letterAt 6 = .ok (.iconst 0, 1) := by decide +kernel
theorem dX11_letterAt_7 : decode cX11_letterAt 7 = .ok (.aload_n 0, 1) := by decide +kernel
theorem dX11_letterAt_8 : decode cX11_letterAt 8 = .ok (.getfield 323, 3) := by decide +kernel
theorem dX11_letterAt_11 : decode cX11_letterAt 11 = .ok (.iconst 1, 1) := by decide +kernel
theorem dX11_letterAt_12 : decode cX11_letterAt 12 = .ok (.isub, 1) := by decide +kernel
theorem dX11_letterAt_13 : decode cX11_letterAt 13 = .ok (.invokestatic 171, 3) := by decide +kernel
theorem dX11_letterAt_16 : decode cX11_letterAt 16 = .ok (.ifCond .eq 12, 3) := by decide +kernel
theorem dX11_letterAt_19 : decode cX11_letterAt 19 = .ok (.aload_n 0, 1) := by decide +kernel
theorem dX11_letterAt_20 : decode cX11_letterAt 20 = .ok (.getfield 120, 3) := by decide +kernel
theorem dX11_letterAt_23 : decode cX11_letterAt 23 = .ok (.iload_n 1, 1) := by decide +kernel
theorem dX11_letterAt_24 : decode cX11_letterAt 24 = .ok (.iaload, 1) := by decide +kernel
theorem dX11_letterAt_25 : decode cX11_letterAt 25 = .ok (.goto 4, 3) := by decide +kernel
theorem dX11_letterAt_28 : decode cX11_letterAt 28 = .ok (.iconst (-1), 1) := by decide +kernel
theorem dX11_letterAt_29 : decode cX11_letterAt 29 = .ok (.ireturn, 1) := by decide +kernel
theorem dX11_braid_0 : decode cX11_braid 0 = .ok (.aload_n 0, 1) := by decide +kernel
theorem dX11_braid_1 : decode cX11_braid 1 = .ok (.iconst 0, 1) := by decide +kernel
theorem dX11_braid_2 : decode cX11_braid 2 = .ok (.putfield 1, 3) := by decide +kernel
theorem dX11_braid_5 : decode cX11_braid 5 = .ok (.iload_n 1, 1) := by decide +kernel
theorem dX11_braid_6 : decode cX11_braid 6 = .ok (.iconst 1, 1) := by decide +kernel
theorem dX11_braid_7 : decode cX11_braid 7 = .ok (.iconst 4, 1) := by decide +kernel
theorem dX11_braid_8 : decode cX11_braid 8 = .ok (.invokestatic 171, 3) := by decide +kernel
theorem dX11_braid_11 : decode cX11_braid 11 = .ok (.ifCond .eq 12, 3) := by decide +kernel
theorem dX11_braid_14 : decode cX11_braid 14 = .ok (.iload_n 2, 1) := by decide +kernel
theorem dX11_braid_15 : decode cX11_braid 15 = .ok (.iconst 1, 1) := by decide +kernel
theorem dX11_braid_16 : decode cX11_braid 16 = .ok (.iconst 4, 1) := by decide +kernel
theorem dX11_braid_17 : decode cX11_braid 17 = .ok (.invokestatic 171, 3) := by decide +kernel
theorem dX11_braid_20 : decode cX11_braid 20 = .ok (.ifCond .ne 5, 3) := by decide +kernel
theorem dX11_braid_23 : decode cX11_braid 23 = .ok (.iconst (-1), 1) := by decide +kernel
theorem dX11_braid_24 : decode cX11_braid 24 = .ok (.ireturn, 1) := by decide +kernel
theorem dX11_braid_25 : decode cX11_braid 25 = .ok (.iconst 1, 1) := by decide +kernel
theorem dX11_braid_26 : decode cX11_braid 26 = .ok (.istore_n 3, 1) := by decide +kernel
theorem dX11_braid_27 : decode cX11_braid 27 = .ok (.iconst 0, 1) := by decide +kernel
theorem dX11_braid_28 : decode cX11_braid 28 = .ok (.istore 4, 2) := by decide +kernel
theorem dX11_braid_30 : decode cX11_braid 30 = .ok (.iload 4, 2) := by decide +kernel
theorem dX11_braid_32 : decode cX11_braid 32 = .ok (.iload_n 2, 1) := by decide +kernel
theorem dX11_braid_33 : decode cX11_braid 33 = .ok (.if_icmp .ge 13, 3) := by decide +kernel
theorem dX11_braid_36 : decode cX11_braid 36 = .ok (.iload_n 3, 1) := by decide +kernel
theorem dX11_braid_37 : decode cX11_braid 37 = .ok (.iload_n 1, 1) := by decide +kernel
theorem dX11_braid_38 : decode cX11_braid 38 = .ok (.imul, 1) := by decide +kernel
theorem dX11_braid_39 : decode cX11_braid 39 = .ok (.istore_n 3, 1) := by decide +kernel
theorem dX11_braid_40 : decode cX11_braid 40 = .ok (.iinc 4 1, 3) := by decide +kernel
theorem dX11_braid_43 : decode cX11_braid 43 = .ok (.goto (-13), 3) := by decide +kernel
theorem dX11_braid_46 : decode cX11_braid 46 = .ok (.iload_n 3, 1) := by decide +kernel
theorem dX11_braid_47 : decode cX11_braid 47 = .ok (.bipush 16, 2) := by decide +kernel
theorem dX11_braid_49 : decode cX11_braid 49 = .ok (.if_icmp .le 5, 3) := by decide +kernel
theorem dX11_braid_52 : decode cX11_braid 52 = .ok (.iconst (-1), 1) := by decide +kernel
theorem dX11_braid_53 : decode cX11_braid 53 = .ok (.ireturn, 1) := by decide +kernel
theorem dX11_braid_54 : decode cX11_braid 54 = .ok (.aload_n 0, 1) := by decide +kernel
theorem dX11_braid_55 : decode cX11_braid 55 = .ok (.invokevirtual 326, 3) := by decide +kernel
theorem dX11_braid_58 : decode cX11_braid 58 = .ok (.iconst 0, 1) := by decide +kernel
theorem dX11_braid_59 : decode cX11_braid 59 = .ok (.istore 4, 2) := by decide +kernel
theorem dX11_braid_61 : decode cX11_braid 61 = .ok (.iload 4, 2) := by decide +kernel
theorem dX11_braid_63 : decode cX11_braid 63 = .ok (.bipush 34, 2) := by decide +kernel
theorem dX11_braid_65 : decode cX11_braid 65 = .ok (.if_icmp .ge 17, 3) := by decide +kernel
theorem dX11_braid_68 : decode cX11_braid 68 = .ok (.aload_n 0, 1) := by decide +kernel
theorem dX11_braid_69 : decode cX11_braid 69 = .ok (.getfield 69, 3) := by decide +kernel
theorem dX11_braid_72 : decode cX11_braid 72 = .ok (.iload 4, 2) := by decide +kernel
theorem dX11_braid_74 : decode cX11_braid 74 = .ok (.iconst 0, 1) := by decide +kernel
theorem dX11_braid_75 : decode cX11_braid 75 = .ok (.iastore, 1) := by decide +kernel
theorem dX11_braid_76 : decode cX11_braid 76 = .ok (.iinc 4 1, 3) := by decide +kernel
theorem dX11_braid_79 : decode cX11_braid 79 = .ok (.goto (-18), 3) := by decide +kernel
theorem dX11_braid_82 : decode cX11_braid 82 = .ok (.aload_n 0, 1) := by decide +kernel
theorem dX11_braid_83 : decode cX11_braid 83 = .ok (.getfield 69, 3) := by decide +kernel
theorem dX11_braid_86 : decode cX11_braid 86 = .ok (.iconst 0, 1) := by decide +kernel
theorem dX11_braid_87 : decode cX11_braid 87 = .ok (.iload_n 3, 1) := by decide +kernel
theorem dX11_braid_88 : decode cX11_braid 88 = .ok (.iload_n 1, 1) := by decide +kernel
theorem dX11_braid_89 : decode cX11_braid 89 = .ok (.idiv, 1) := by decide +kernel
theorem dX11_braid_90 : decode cX11_braid 90 = .ok (.iastore, 1) := by decide +kernel
theorem dX11_braid_91 : decode cX11_braid 91 = .ok (.iconst 0, 1) := by decide +kernel
theorem dX11_braid_92 : decode cX11_braid 92 = .ok (.istore 4, 2) := by decide +kernel
theorem dX11_braid_94 : decode cX11_braid 94 = .ok (.iload 4, 2) := by decide +kernel
theorem dX11_braid_96 : decode cX11_braid 96 = .ok (.iload_n 3, 1) := by decide +kernel
theorem dX11_braid_97 : decode cX11_braid 97 = .ok (.if_icmp .ge 26, 3) := by decide +kernel
theorem dX11_braid_100 : decode cX11_braid 100 = .ok (.aload_n 0, 1) := by decide +kernel
theorem dX11_braid_101 : decode cX11_braid 101 = .ok (.getfield 69, 3) := by decide +kernel
theorem dX11_braid_104 : decode cX11_braid 104 = .ok (.iload 4, 2) := by decide +kernel
theorem dX11_braid_106 : decode cX11_braid 106 = .ok (.iload_n 1, 1) := by decide +kernel
theorem dX11_braid_107 : decode cX11_braid 107 = .ok (.idiv, 1) := by decide +kernel
theorem dX11_braid_108 : decode cX11_braid 108 = .ok (.iload 4, 2) := by decide +kernel
theorem dX11_braid_110 : decode cX11_braid 110 = .ok (.iload_n 3, 1) := by decide +kernel
theorem dX11_braid_111 : decode cX11_braid 111 = .ok (.iload_n 1, 1) := by decide +kernel
theorem dX11_braid_112 : decode cX11_braid 112 = .ok (.idiv, 1) := by decide +kernel
theorem dX11_braid_113 : decode cX11_braid 113 = .ok (.irem, 1) := by decide +kernel
theorem dX11_braid_114 : decode cX11_braid 114 = .ok (.invokestatic 148, 3) := by decide +kernel
theorem dX11_braid_117 : decode cX11_braid 117 = .ok (.iinc 4 1, 3) := by decide +kernel
theorem dX11_braid_120 : decode cX11_braid 120 = .ok (.goto (-26), 3) := by decide +kernel
theorem dX11_braid_123 : decode cX11_braid 123 = .ok (.iload_n 3, 1) := by decide +kernel
theorem dX11_braid_124 : decode cX11_braid 124 = .ok (.ireturn, 1) := by decide +kernel
theorem dX11_extra_0 : decode cX11_extra 0 = .ok (.aload_n 0, 1) := by decide +kernel
theorem dX11_extra_1 : decode cX11_extra 1 = .ok (.getfield 69, 3) := by decide +kernel
theorem dX11_extra_4 : decode cX11_extra 4 = .ok (.iload_n 1, 1) := by decide +kernel
theorem dX11_extra_5 : decode cX11_extra 5 = .ok (.invokestatic 197, 3) := by decide +kernel
theorem dX11_extra_8 : decode cX11_extra 8 = .ok (.ineg, 1) := by decide +kernel
theorem dX11_extra_9 : decode cX11_extra 9 = .ok (.istore_n 2, 1) := by decide +kernel
theorem dX11_extra_10 : decode cX11_extra 10 = .ok (.iconst 0, 1) := by decide +kernel
theorem dX11_extra_11 : decode cX11_extra 11 = .ok (.istore_n 3, 1) := by decide +kernel
theorem dX11_extra_12 : decode cX11_extra 12 = .ok (.iload_n 3, 1) := by decide +kernel
theorem dX11_extra_13 : decode cX11_extra 13 = .ok (.aload_n 0, 1) := by decide +kernel
theorem dX11_extra_14 : decode cX11_extra 14 = .ok (.invokevirtual 175, 3) := by decide +kernel
theorem dX11_extra_17 : decode cX11_extra 17 = .ok (.if_icmp .ge 52, 3) := by decide +kernel
theorem dX11_extra_20 : decode cX11_extra 20 = .ok (.aload_n 0, 1) := by decide +kernel
theorem dX11_extra_21 : decode cX11_extra 21 = .ok (.getfield 69, 3) := by decide +kernel
theorem dX11_extra_24 : decode cX11_extra 24 = .ok (.iconst 2, 1) := by decide +kernel
theorem dX11_extra_25 : decode cX11_extra 25 = .ok (.iload_n 3, 1) := by decide +kernel
theorem dX11_extra_26 : decode cX11_extra 26 = .ok (.iadd, 1) := by decide +kernel
theorem dX11_extra_27 : decode cX11_extra 27 = .ok (.iaload, 1) := by decide +kernel
theorem dX11_extra_28 : decode cX11_extra 28 = .ok (.iload_n 1, 1) := by decide +kernel
theorem dX11_extra_29 : decode cX11_extra 29 = .ok (.if_icmp .ne 12, 3) := by decide +kernel
theorem dX11_extra_32 : decode cX11_extra 32 = .ok (.iload_n 2, 1) := by decide +kernel
theorem dX11_extra_33 : decode cX11_extra 33 = .ok (.aload_n 0, 1) := by decide +kernel
theorem dX11_extra_34 : decode cX11_extra 34 = .ok (.getfield 126, 3) := by decide +kernel
theorem dX11_extra_37 : decode cX11_extra 37 = .ok (.iload_n 3, 1) := by decide +kernel
theorem dX11_extra_38 : decode cX11_extra 38 = .ok (.iaload, 1) := by decide +kernel
theorem dX11_extra_39 : decode cX11_extra 39 = .ok (.isub, 1) := by decide +kernel
theorem dX11_extra_40 : decode cX11_extra 40 = .ok (.istore_n 2, 1) := by decide +kernel
theorem dX11_extra_41 : decode cX11_extra 41 = .ok (.aload_n 0, 1) := by decide +kernel
theorem dX11_extra_42 : decode cX11_extra 42 = .ok (.getfield 69, 3) := by decide +kernel
theorem dX11_extra_45 : decode cX11_extra 45 = .ok (.bipush 18, 2) := by decide +kernel
theorem dX11_extra_47 : decode cX11_extra 47 = .ok (.iload_n 3, 1) := by decide +kernel
theorem dX11_extra_48 : decode cX11_extra 48 = .ok (.iadd, 1) := by decide +kernel
theorem dX11_extra_49 : decode cX11_extra 49 = .ok (.iaload, 1) := by decide +kernel
theorem dX11_extra_50 : decode cX11_extra 50 = .ok (.iload_n 1, 1) := by decide +kernel
theorem dX11_extra_51 : decode cX11_extra 51 = .ok (.if_icmp .ne 12, 3) := by decide +kernel
theorem dX11_extra_54 : decode cX11_extra 54 = .ok (.iload_n 2, 1) := by decide +kernel
theorem dX11_extra_55 : decode cX11_extra 55 = .ok (.aload_n 0, 1) := by decide +kernel
theorem dX11_extra_56 : decode cX11_extra 56 = .ok (.getfield 126, 3) := by decide +kernel
theorem dX11_extra_59 : decode cX11_extra 59 = .ok (.iload_n 3, 1) := by decide +kernel
theorem dX11_extra_60 : decode cX11_extra 60 = .ok (.iaload, 1) := by decide +kernel
theorem dX11_extra_61 : decode cX11_extra 61 = .ok (.iadd, 1) := by decide +kernel
theorem dX11_extra_62 : decode cX11_extra 62 = .ok (.istore_n 2, 1) := by decide +kernel
theorem dX11_extra_63 : decode cX11_extra 63 = .ok (.iinc 3 1, 3) := by decide +kernel
theorem dX11_extra_66 : decode cX11_extra 66 = .ok (.goto (-54), 3) := by decide +kernel
theorem dX11_extra_69 : decode cX11_extra 69 = .ok (.iload_n 2, 1) := by decide +kernel
theorem dX11_extra_70 : decode cX11_extra 70 = .ok (.ireturn, 1) := by decide +kernel
theorem dX11_laysFar_0 : decode cX11_laysFar 0 = .ok (.iconst 0, 1) := by decide +kernel
theorem dX11_laysFar_1 : decode cX11_laysFar 1 = .ok (.istore_n 1, 1) := by decide +kernel
theorem dX11_laysFar_2 : decode cX11_laysFar 2 = .ok (.iload_n 1, 1) := by decide +kernel
theorem dX11_laysFar_3 : decode cX11_laysFar 3 = .ok (.aload_n 0, 1) := by decide +kernel
theorem dX11_laysFar_4 : decode cX11_laysFar 4 = .ok (.invokevirtual 168, 3) := by decide +kernel
theorem dX11_laysFar_7 : decode cX11_laysFar 7 = .ok (.if_icmp .ge 37, 3) := by decide +kernel
theorem dX11_laysFar_10 : decode cX11_laysFar 10 = .ok (.aload_n 0, 1) := by decide +kernel
theorem dX11_laysFar_11 : decode cX11_laysFar 11 = .ok (.getfield 129, 3) := by decide +kernel
theorem dX11_laysFar_14 : decode cX11_laysFar 14 = .ok (.iload_n 1, 1) := by decide +kernel
theorem dX11_laysFar_15 : decode cX11_laysFar 15 = .ok (.aload_n 0, 1) := by decide +kernel
theorem dX11_laysFar_16 : decode cX11_laysFar 16 = .ok (.iload_n 1, 1) := by decide +kernel
theorem dX11_laysFar_17 : decode cX11_laysFar 17 = .ok (.invokevirtual 329, 3) := by decide +kernel
theorem dX11_laysFar_20 : decode cX11_laysFar 20 = .ok (.ifCond .le 7, 3) := by decide +kernel
theorem dX11_laysFar_23 : decode cX11_laysFar 23 = .ok (.iconst 0, 1) := by decide +kernel
theorem dX11_laysFar_24 : decode cX11_laysFar 24 = .ok (.goto 6, 3) := by decide +kernel
theorem dX11_laysFar_27 : decode cX11_laysFar 27 = .ok (.sipush 1000, 3) := by decide +kernel
theorem dX11_laysFar_30 : decode cX11_laysFar 30 = .ok (.iastore, 1) := by decide +kernel
theorem dX11_laysFar_31 : decode cX11_laysFar 31 = .ok (.aload_n 0, 1) := by decide +kernel
theorem dX11_laysFar_32 : decode cX11_laysFar 32 = .ok (.getfield 132, 3) := by decide +kernel
theorem dX11_laysFar_35 : decode cX11_laysFar 35 = .ok (.iload_n 1, 1) := by decide +kernel
theorem dX11_laysFar_36 : decode cX11_laysFar 36 = .ok (.iconst (-1), 1) := by decide +kernel
theorem dX11_laysFar_37 : decode cX11_laysFar 37 = .ok (.iastore, 1) := by decide +kernel
theorem dX11_laysFar_38 : decode cX11_laysFar 38 = .ok (.iinc 1 1, 3) := by decide +kernel
theorem dX11_laysFar_41 : decode cX11_laysFar 41 = .ok (.goto (-39), 3) := by decide +kernel
theorem dX11_laysFar_44 : decode cX11_laysFar 44 = .ok (.iconst 0, 1) := by decide +kernel
theorem dX11_laysFar_45 : decode cX11_laysFar 45 = .ok (.istore_n 1, 1) := by decide +kernel
theorem dX11_laysFar_46 : decode cX11_laysFar 46 = .ok (.iload_n 1, 1) := by decide +kernel
theorem dX11_laysFar_47 : decode cX11_laysFar 47 = .ok (.bipush 16, 2) := by decide +kernel
theorem dX11_laysFar_49 : decode cX11_laysFar 49 = .ok (.if_icmp .ge 163, 3) := by decide +kernel
theorem dX11_laysFar_52 : decode cX11_laysFar 52 = .ok (.iconst 0, 1) := by decide +kernel
theorem dX11_laysFar_53 : decode cX11_laysFar 53 = .ok (.istore_n 2, 1) := by decide +kernel
theorem dX11_laysFar_54 : decode cX11_laysFar 54 = .ok (.iload_n 2, 1) := by decide +kernel
theorem dX11_laysFar_55 : decode cX11_laysFar 55 = .ok (.aload_n 0, 1) := by decide +kernel
theorem dX11_laysFar_56 : decode cX11_laysFar 56 = .ok (.invokevirtual 175, 3) := by decide +kernel
theorem dX11_laysFar_59 : decode cX11_laysFar 59 = .ok (.if_icmp .ge 147, 3) := by decide +kernel
theorem dX11_laysFar_62 : decode cX11_laysFar 62 = .ok (.aload_n 0, 1) := by decide +kernel
theorem dX11_laysFar_63 : decode cX11_laysFar 63 = .ok (.getfield 69, 3) := by decide +kernel
theorem dX11_laysFar_66 : decode cX11_laysFar 66 = .ok (.iconst 2, 1) := by decide +kernel
theorem dX11_laysFar_67 : decode cX11_laysFar 67 = .ok (.iload_n 2, 1) := by decide +kernel
theorem dX11_laysFar_68 : decode cX11_laysFar 68 = .ok (.iadd, 1) := by decide +kernel
theorem dX11_laysFar_69 : decode cX11_laysFar 69 = .ok (.iaload, 1) := by decide +kernel
theorem dX11_laysFar_70 : decode cX11_laysFar 70 = .ok (.istore_n 3, 1) := by decide +kernel
theorem dX11_laysFar_71 : decode cX11_laysFar 71 = .ok (.aload_n 0, 1) := by decide +kernel
theorem dX11_laysFar_72 : decode cX11_laysFar 72 = .ok (.getfield 69, 3) := by decide +kernel
theorem dX11_laysFar_75 : decode cX11_laysFar 75 = .ok (.bipush 18, 2) := by decide +kernel
theorem dX11_laysFar_77 : decode cX11_laysFar 77 = .ok (.iload_n 2, 1) := by decide +kernel
theorem dX11_laysFar_78 : decode cX11_laysFar 78 = .ok (.iadd, 1) := by decide +kernel
theorem dX11_laysFar_79 : decode cX11_laysFar 79 = .ok (.iaload, 1) := by decide +kernel
theorem dX11_laysFar_80 : decode cX11_laysFar 80 = .ok (.istore 4, 2) := by decide +kernel
theorem dX11_laysFar_82 : decode cX11_laysFar 82 = .ok (.aload_n 0, 1) := by decide +kernel
theorem dX11_laysFar_83 : decode cX11_laysFar 83 = .ok (.getfield 129, 3) := by decide +kernel
theorem dX11_laysFar_86 : decode cX11_laysFar 86 = .ok (.iload_n 3, 1) := by decide +kernel
theorem dX11_laysFar_87 : decode cX11_laysFar 87 = .ok (.iaload, 1) := by decide +kernel
theorem dX11_laysFar_88 : decode cX11_laysFar 88 = .ok (.sipush 1000, 3) := by decide +kernel
theorem dX11_laysFar_91 : decode cX11_laysFar 91 = .ok (.if_icmp .ge 44, 3) := by decide +kernel
theorem dX11_laysFar_94 : decode cX11_laysFar 94 = .ok (.aload_n 0, 1) := by decide +kernel
theorem dX11_laysFar_95 : decode cX11_laysFar 95 = .ok (.getfield 129, 3) := by decide +kernel
theorem dX11_laysFar_98 : decode cX11_laysFar 98 = .ok (.iload_n 3, 1) := by decide +kernel
theorem dX11_laysFar_99 : decode cX11_laysFar 99 = .ok (.iaload, 1) := by decide +kernel
theorem dX11_laysFar_100 : decode cX11_laysFar 100 = .ok (.iconst 1, 1) := by decide +kernel
theorem dX11_laysFar_101 : decode cX11_laysFar 101 = .ok (.iadd, 1) := by decide +kernel
theorem dX11_laysFar_102 : decode cX11_laysFar 102 = .ok (.aload_n 0, 1) := by decide +kernel
theorem dX11_laysFar_103 : decode cX11_laysFar 103 = .ok (.getfield 129, 3) := by decide +kernel
theorem dX11_laysFar_106 : decode cX11_laysFar 106 = .ok (.iload 4, 2) := by decide +kernel
theorem dX11_laysFar_108 : decode cX11_laysFar 108 = .ok (.iaload, 1) := by decide +kernel
theorem dX11_laysFar_109 : decode cX11_laysFar 109 = .ok (.if_icmp .ge 26, 3) := by decide +kernel
theorem dX11_laysFar_112 : decode cX11_laysFar 112 = .ok (.aload_n 0, 1) := by decide +kernel
theorem dX11_laysFar_113 : decode cX11_laysFar 113 = .ok (.getfield 129, 3) := by decide +kernel
theorem dX11_laysFar_116 : decode cX11_laysFar 116 = .ok (.iload 4, 2) := by decide +kernel
theorem dX11_laysFar_118 : decode cX11_laysFar 118 = .ok (.aload_n 0, 1) := by decide +kernel
theorem dX11_laysFar_119 : decode cX11_laysFar 119 = .ok (.getfield 129, 3) := by decide +kernel
theorem dX11_laysFar_122 : decode cX11_laysFar 122 = .ok (.iload_n 3, 1) := by decide +kernel
theorem dX11_laysFar_123 : decode cX11_laysFar 123 = .ok (.iaload, 1) := by decide +kernel
theorem dX11_laysFar_124 : decode cX11_laysFar 124 = .ok (.iconst 1, 1) := by decide +kernel
theorem dX11_laysFar_125 : decode cX11_laysFar 125 = .ok (.iadd, 1) := by decide +kernel
theorem dX11_laysFar_126 : decode cX11_laysFar 126 = .ok (.iastore, 1) := by decide +kernel
theorem dX11_laysFar_127 : decode cX11_laysFar 127 = .ok (.aload_n 0, 1) := by decide +kernel
theorem dX11_laysFar_128 : decode cX11_laysFar 128 = .ok (.getfield 132, 3) := by decide +kernel
theorem dX11_laysFar_131 : decode cX11_laysFar 131 = .ok (.iload 4, 2) := by decide +kernel
theorem dX11_laysFar_133 : decode cX11_laysFar 133 = .ok (.iload_n 2, 1) := by decide +kernel
theorem dX11_laysFar_134 : decode cX11_laysFar 134 = .ok (.iastore, 1) := by decide +kernel
theorem dX11_laysFar_135 : decode cX11_laysFar 135 = .ok (.aload_n 0, 1) := by decide +kernel
theorem dX11_laysFar_136 : decode cX11_laysFar 136 = .ok (.getfield 126, 3) := by decide +kernel
theorem dX11_laysFar_139 : decode cX11_laysFar 139 = .ok (.iload_n 2, 1) := by decide +kernel
theorem dX11_laysFar_140 : decode cX11_laysFar 140 = .ok (.iaload, 1) := by decide +kernel
theorem dX11_laysFar_141 : decode cX11_laysFar 141 = .ok (.ifCond .le 59, 3) := by decide +kernel
theorem dX11_laysFar_144 : decode cX11_laysFar 144 = .ok (.aload_n 0, 1) := by decide +kernel
theorem dX11_laysFar_145 : decode cX11_laysFar 145 = .ok (.getfield 129, 3) := by decide +kernel
theorem dX11_laysFar_148 : decode cX11_laysFar 148 = .ok (.iload 4, 2) := by decide +kernel
theorem dX11_laysFar_150 : decode cX11_laysFar 150 = .ok (.iaload, 1) := by decide +kernel
theorem dX11_laysFar_151 : decode cX11_laysFar 151 = .ok (.sipush 1000, 3) := by decide +kernel
theorem dX11_laysFar_154 : decode cX11_laysFar 154 = .ok (.if_icmp .ge 46, 3) := by decide +kernel
theorem dX11_laysFar_157 : decode cX11_laysFar 157 = .ok (.aload_n 0, 1) := by decide +kernel
theorem dX11_laysFar_158 : decode cX11_laysFar 158 = .ok (.getfield 129, 3) := by decide +kernel
theorem dX11_laysFar_161 : decode cX11_laysFar 161 = .ok (.iload 4, 2) := by decide +kernel
theorem dX11_laysFar_163 : decode cX11_laysFar 163 = .ok (.iaload, 1) := by decide +kernel
theorem dX11_laysFar_164 : decode cX11_laysFar 164 = .ok (.iconst 1, 1) := by decide +kernel
theorem dX11_laysFar_165 : decode cX11_laysFar 165 = .ok (.isub, 1) := by decide +kernel
theorem dX11_laysFar_166 : decode cX11_laysFar 166 = .ok (.aload_n 0, 1) := by decide +kernel
theorem dX11_laysFar_167 : decode cX11_laysFar 167 = .ok (.getfield 129, 3) := by decide +kernel
theorem dX11_laysFar_170 : decode cX11_laysFar 170 = .ok (.iload_n 3, 1) := by decide +kernel
theorem dX11_laysFar_171 : decode cX11_laysFar 171 = .ok (.iaload, 1) := by decide +kernel
theorem dX11_laysFar_172 : decode cX11_laysFar 172 = .ok (.if_icmp .ge 28, 3) := by decide +kernel
theorem dX11_laysFar_175 : decode cX11_laysFar 175 = .ok (.aload_n 0, 1) := by decide +kernel
theorem dX11_laysFar_176 : decode cX11_laysFar 176 = .ok (.getfield 129, 3) := by decide +kernel
theorem dX11_laysFar_179 : decode cX11_laysFar 179 = .ok (.iload_n 3, 1) := by decide +kernel
theorem dX11_laysFar_180 : decode cX11_laysFar 180 = .ok (.aload_n 0, 1) := by decide +kernel
theorem dX11_laysFar_181 : decode cX11_laysFar 181 = .ok (.getfield 129, 3) := by decide +kernel
theorem dX11_laysFar_184 : decode cX11_laysFar 184 = .ok (.iload 4, 2) := by decide +kernel
theorem dX11_laysFar_186 : decode cX11_laysFar 186 = .ok (.iaload, 1) := by decide +kernel
theorem dX11_laysFar_187 : decode cX11_laysFar 187 = .ok (.iconst 1, 1) := by decide +kernel
theorem dX11_laysFar_188 : decode cX11_laysFar 188 = .ok (.isub, 1) := by decide +kernel
theorem dX11_laysFar_189 : decode cX11_laysFar 189 = .ok (.iastore, 1) := by decide +kernel
theorem dX11_laysFar_190 : decode cX11_laysFar 190 = .ok (.aload_n 0, 1) := by decide +kernel
theorem dX11_laysFar_191 : decode cX11_laysFar 191 = .ok (.getfield 132, 3) := by decide +kernel
theorem dX11_laysFar_194 : decode cX11_laysFar 194 = .ok (.iload_n 3, 1) := by decide +kernel
theorem dX11_laysFar_195 : decode cX11_laysFar 195 = .ok (.bipush 16, 2) := by decide +kernel
theorem dX11_laysFar_197 : decode cX11_laysFar 197 = .ok (.iload_n 2, 1) := by decide +kernel
theorem dX11_laysFar_198 : decode cX11_laysFar 198 = .ok (.iadd, 1) := by decide +kernel
theorem dX11_laysFar_199 : decode cX11_laysFar 199 = .ok (.iastore, 1) := by decide +kernel
theorem dX11_laysFar_200 : decode cX11_laysFar 200 = .ok (.iinc 2 1, 3) := by decide +kernel
theorem dX11_laysFar_203 : decode cX11_laysFar 203 = .ok (.goto (-149), 3) := by decide +kernel
theorem dX11_laysFar_206 : decode cX11_laysFar 206 = .ok (.iinc 1 1, 3) := by decide +kernel
theorem dX11_laysFar_209 : decode cX11_laysFar 209 = .ok (.goto (-163), 3) := by decide +kernel
theorem dX11_laysFar_212 : decode cX11_laysFar 212 = .ok (.return_, 1) := by decide +kernel
theorem dX11_goesAgain_0 : decode cX11_goesAgain 0 = .ok (.iload_n 1, 1) := by decide +kernel
theorem dX11_goesAgain_1 : decode cX11_goesAgain 1 = .ok (.istore_n 2, 1) := by decide +kernel
theorem dX11_goesAgain_2 : decode cX11_goesAgain 2 = .ok (.aload_n 0, 1) := by decide +kernel
theorem dX11_goesAgain_3 : decode cX11_goesAgain 3 = .ok (.getfield 132, 3) := by decide +kernel
theorem dX11_goesAgain_6 : decode cX11_goesAgain 6 = .ok (.iload_n 2, 1) := by decide +kernel
theorem dX11_goesAgain_7 : decode cX11_goesAgain 7 = .ok (.iaload, 1) := by decide +kernel
theorem dX11_goesAgain_8 : decode cX11_goesAgain 8 = .ok (.iconst (-1), 1) := by decide +kernel
theorem dX11_goesAgain_9 : decode cX11_goesAgain 9 = .ok (.if_icmp .eq 79, 3) := by decide +kernel
theorem dX11_goesAgain_12 : decode cX11_goesAgain 12 = .ok (.aload_n 0, 1) := by decide +kernel
theorem dX11_goesAgain_13 : decode cX11_goesAgain 13 = .ok (.getfield 132, 3) := by decide +kernel
theorem dX11_goesAgain_16 : decode cX11_goesAgain 16 = .ok (.iload_n 2, 1) := by decide +kernel
theorem dX11_goesAgain_17 : decode cX11_goesAgain 17 = .ok (.iaload, 1) := by decide +kernel
theorem dX11_goesAgain_18 : decode cX11_goesAgain 18 = .ok (.bipush 16, 2) := by decide +kernel
theorem dX11_goesAgain_20 : decode cX11_goesAgain 20 = .ok (.irem, 1) := by decide +kernel
theorem dX11_goesAgain_21 : decode cX11_goesAgain 21 = .ok (.istore_n 3, 1) := by decide +kernel
theorem dX11_goesAgain_22 : decode cX11_goesAgain 22 = .ok (.aload_n 0, 1) := by decide +kernel
theorem dX11_goesAgain_23 : decode cX11_goesAgain 23 = .ok (.getfield 132, 3) := by decide +kernel
theorem dX11_goesAgain_26 : decode cX11_goesAgain 26 = .ok (.iload_n 2, 1) := by decide +kernel
theorem dX11_goesAgain_27 : decode cX11_goesAgain 27 = .ok (.iaload, 1) := by decide +kernel
theorem dX11_goesAgain_28 : decode cX11_goesAgain 28 = .ok (.bipush 16, 2) := by decide +kernel
theorem dX11_goesAgain_30 : decode cX11_goesAgain 30 = .ok (.if_icmp .lt 7, 3) := by decide +kernel
theorem dX11_goesAgain_33 : decode cX11_goesAgain 33 = .ok (.iconst 1, 1) := by decide +kernel
theorem dX11_goesAgain_34 : decode cX11_goesAgain 34 = .ok (.goto 4, 3) := by decide +kernel
theorem dX11_goesAgain_37 : decode cX11_goesAgain 37 = .ok (.iconst 0, 1) := by decide +kernel
theorem dX11_goesAgain_38 : decode cX11_goesAgain 38 = .ok (.istore 4, 2) := by decide +kernel
theorem dX11_goesAgain_40 : decode cX11_goesAgain 40 = .ok (.aload_n 0, 1) := by decide +kernel
theorem dX11_goesAgain_41 : decode cX11_goesAgain 41 = .ok (.getfield 126, 3) := by decide +kernel
theorem dX11_goesAgain_44 : decode cX11_goesAgain 44 = .ok (.iload_n 3, 1) := by decide +kernel
theorem dX11_goesAgain_45 : decode cX11_goesAgain 45 = .ok (.dup2, 1) := by decide +kernel
theorem dX11_goesAgain_46 : decode cX11_goesAgain 46 = .ok (.iaload, 1) := by decide +kernel
theorem dX11_goesAgain_47 : decode cX11_goesAgain 47 = .ok (.iload 4, 2) := by decide +kernel
theorem dX11_goesAgain_49 : decode cX11_goesAgain 49 = .ok (.ifCond .eq 7, 3) := by decide +kernel
theorem dX11_goesAgain_52 : decode cX11_goesAgain 52 = .ok (.iconst (-1), 1) := by decide +kernel
theorem dX11_goesAgain_53 : decode cX11_goesAgain 53 = .ok (.goto 4, 3) := by decide +kernel
theorem dX11_goesAgain_56 : decode cX11_goesAgain 56 = .ok (.iconst 1, 1) := by decide +kernel
theorem dX11_goesAgain_57 : decode cX11_goesAgain 57 = .ok (.iadd, 1) := by decide +kernel
theorem dX11_goesAgain_58 : decode cX11_goesAgain 58 = .ok (.iastore, 1) := by decide +kernel
theorem dX11_goesAgain_59 : decode cX11_goesAgain 59 = .ok (.iload 4, 2) := by decide +kernel
theorem dX11_goesAgain_61 : decode cX11_goesAgain 61 = .ok (.ifCond .eq 15, 3) := by decide +kernel
theorem dX11_goesAgain_64 : decode cX11_goesAgain 64 = .ok (.aload_n 0, 1) := by decide +kernel
theorem dX11_goesAgain_65 : decode cX11_goesAgain 65 = .ok (.getfield 69, 3) := by decide +kernel
theorem dX11_goesAgain_68 : decode cX11_goesAgain 68 = .ok (.bipush 18, 2) := by decide +kernel
theorem dX11_goesAgain_70 : decode cX11_goesAgain 70 = .ok (.iload_n 3, 1) := by decide +kernel
theorem dX11_goesAgain_71 : decode cX11_goesAgain 71 = .ok (.iadd, 1) := by decide +kernel
theorem dX11_goesAgain_72 : decode cX11_goesAgain 72 = .ok (.iaload, 1) := by decide +kernel
theorem dX11_goesAgain_73 : decode cX11_goesAgain 73 = .ok (.goto 11, 3) := by decide +kernel
theorem dX11_goesAgain_76 : decode cX11_goesAgain 76 = .ok (.aload_n 0, 1) := by decide +kernel
theorem dX11_goesAgain_77 : decode cX11_goesAgain 77 = .ok (.getfield 69, 3) := by decide +kernel
theorem dX11_goesAgain_80 : decode cX11_goesAgain 80 = .ok (.iconst 2, 1) := by decide +kernel
theorem dX11_goesAgain_81 : decode cX11_goesAgain 81 = .ok (.iload_n 3, 1) := by decide +kernel
theorem dX11_goesAgain_82 : decode cX11_goesAgain 82 = .ok (.iadd, 1) := by decide +kernel
theorem dX11_goesAgain_83 : decode cX11_goesAgain 83 = .ok (.iaload, 1) := by decide +kernel
theorem dX11_goesAgain_84 : decode cX11_goesAgain 84 = .ok (.istore_n 2, 1) := by decide +kernel
theorem dX11_goesAgain_85 : decode cX11_goesAgain 85 = .ok (.goto (-83), 3) := by decide +kernel
theorem dX11_goesAgain_88 : decode cX11_goesAgain 88 = .ok (.return_, 1) := by decide +kernel
theorem dX11_again_0 : decode cX11_again 0 = .ok (.aload_n 0, 1) := by decide +kernel
theorem dX11_again_1 : decode cX11_again 1 = .ok (.iconst 0, 1) := by decide +kernel
theorem dX11_again_2 : decode cX11_again 2 = .ok (.putfield 1, 3) := by decide +kernel
theorem dX11_again_5 : decode cX11_again 5 = .ok (.aload_n 0, 1) := by decide +kernel
theorem dX11_again_6 : decode cX11_again 6 = .ok (.invokevirtual 175, 3) := by decide +kernel
theorem dX11_again_9 : decode cX11_again 9 = .ok (.ifCond .eq 13, 3) := by decide +kernel
theorem dX11_again_12 : decode cX11_again 12 = .ok (.aload_n 0, 1) := by decide +kernel
theorem dX11_again_13 : decode cX11_again 13 = .ok (.getfield 69, 3) := by decide +kernel
theorem dX11_again_16 : decode cX11_again 16 = .ok (.invokestatic 210, 3) := by decide +kernel
theorem dX11_again_19 : decode cX11_again 19 = .ok (.ifCond .ne 5, 3) := by decide +kernel
theorem dX11_again_22 : decode cX11_again 22 = .ok (.iconst (-1), 1) := by decide +kernel
theorem dX11_again_23 : decode cX11_again 23 = .ok (.ireturn, 1) := by decide +kernel
theorem dX11_again_24 : decode cX11_again 24 = .ok (.iconst 0, 1) := by decide +kernel
theorem dX11_again_25 : decode cX11_again 25 = .ok (.istore_n 1, 1) := by decide +kernel
theorem dX11_again_26 : decode cX11_again 26 = .ok (.iload_n 1, 1) := by decide +kernel
theorem dX11_again_27 : decode cX11_again 27 = .ok (.bipush 16, 2) := by decide +kernel
theorem dX11_again_29 : decode cX11_again 29 = .ok (.if_icmp .ge 16, 3) := by decide +kernel
theorem dX11_again_32 : decode cX11_again 32 = .ok (.aload_n 0, 1) := by decide +kernel
theorem dX11_again_33 : decode cX11_again 33 = .ok (.getfield 126, 3) := by decide +kernel
theorem dX11_again_36 : decode cX11_again 36 = .ok (.iload_n 1, 1) := by decide +kernel
theorem dX11_again_37 : decode cX11_again 37 = .ok (.iconst 0, 1) := by decide +kernel
theorem dX11_again_38 : decode cX11_again 38 = .ok (.iastore, 1) := by decide +kernel
theorem dX11_again_39 : decode cX11_again 39 = .ok (.iinc 1 1, 3) := by decide +kernel
theorem dX11_again_42 : decode cX11_again 42 = .ok (.goto (-16), 3) := by decide +kernel
theorem dX11_again_45 : decode cX11_again 45 = .ok (.aload_n 0, 1) := by decide +kernel
theorem dX11_again_46 : decode cX11_again 46 = .ok (.invokevirtual 332, 3) := by decide +kernel
theorem dX11_again_49 : decode cX11_again 49 = .ok (.iconst (-1), 1) := by decide +kernel
theorem dX11_again_50 : decode cX11_again 50 = .ok (.istore_n 1, 1) := by decide +kernel
theorem dX11_again_51 : decode cX11_again 51 = .ok (.iconst 0, 1) := by decide +kernel
theorem dX11_again_52 : decode cX11_again 52 = .ok (.istore_n 2, 1) := by decide +kernel
theorem dX11_again_53 : decode cX11_again 53 = .ok (.iload_n 2, 1) := by decide +kernel
theorem dX11_again_54 : decode cX11_again 54 = .ok (.aload_n 0, 1) := by decide +kernel
theorem dX11_again_55 : decode cX11_again 55 = .ok (.invokevirtual 168, 3) := by decide +kernel
theorem dX11_again_58 : decode cX11_again 58 = .ok (.if_icmp .ge 39, 3) := by decide +kernel
theorem dX11_again_61 : decode cX11_again 61 = .ok (.aload_n 0, 1) := by decide +kernel
theorem dX11_again_62 : decode cX11_again 62 = .ok (.iload_n 2, 1) := by decide +kernel
theorem dX11_again_63 : decode cX11_again 63 = .ok (.invokevirtual 329, 3) := by decide +kernel
theorem dX11_again_66 : decode cX11_again 66 = .ok (.ifCond .ge 25, 3) := by decide +kernel
theorem dX11_again_69 : decode cX11_again 69 = .ok (.iload_n 1, 1) := by decide +kernel
theorem dX11_again_70 : decode cX11_again 70 = .ok (.iconst (-1), 1) := by decide +kernel
theorem dX11_again_71 : decode cX11_again 71 = .ok (.if_icmp .eq 18, 3) := by decide +kernel
theorem dX11_again_74 : decode cX11_again 74 = .ok (.aload_n 0, 1) := by decide +kernel
theorem dX11_again_75 : decode cX11_again 75 = .ok (.getfield 129, 3) := by decide +kernel
theorem dX11_again_78 : decode cX11_again 78 = .ok (.iload_n 2, 1) := by decide +kernel
theorem dX11_again_79 : decode cX11_again 79 = .ok (.iaload, 1) := by decide +kernel
theorem dX11_again_80 : decode cX11_again 80 = .ok (.aload_n 0, 1) := by decide +kernel
theorem dX11_again_81 : decode cX11_again 81 = .ok (.getfield 129, 3) := by decide +kernel
theorem dX11_again_84 : decode cX11_again 84 = .ok (.iload_n 1, 1) := by decide +kernel
theorem dX11_again_85 : decode cX11_again 85 = .ok (.iaload, 1) := by decide +kernel
theorem dX11_again_86 : decode cX11_again 86 = .ok (.if_icmp .ge 5, 3) := by decide +kernel
theorem dX11_again_89 : decode cX11_again 89 = .ok (.iload_n 2, 1) := by decide +kernel
theorem dX11_again_90 : decode cX11_again 90 = .ok (.istore_n 1, 1) := by decide +kernel
theorem dX11_again_91 : decode cX11_again 91 = .ok (.iinc 2 1, 3) := by decide +kernel
theorem dX11_again_94 : decode cX11_again 94 = .ok (.goto (-41), 3) := by decide +kernel
theorem dX11_again_97 : decode cX11_again 97 = .ok (.iload_n 1, 1) := by decide +kernel
theorem dX11_again_98 : decode cX11_again 98 = .ok (.iconst (-1), 1) := by decide +kernel
theorem dX11_again_99 : decode cX11_again 99 = .ok (.if_icmp .ne 6, 3) := by decide +kernel
theorem dX11_again_102 : decode cX11_again 102 = .ok (.goto 11, 3) := by decide +kernel
theorem dX11_again_105 : decode cX11_again 105 = .ok (.aload_n 0, 1) := by decide +kernel
theorem dX11_again_106 : decode cX11_again 106 = .ok (.iload_n 1, 1) := by decide +kernel
theorem dX11_again_107 : decode cX11_again 107 = .ok (.invokevirtual 335, 3) := by decide +kernel
theorem dX11_again_110 : decode cX11_again 110 = .ok (.goto (-65), 3) := by decide +kernel
theorem dX11_again_113 : decode cX11_again 113 = .ok (.iconst 0, 1) := by decide +kernel
theorem dX11_again_114 : decode cX11_again 114 = .ok (.istore_n 1, 1) := by decide +kernel
theorem dX11_again_115 : decode cX11_again 115 = .ok (.iconst 0, 1) := by decide +kernel
theorem dX11_again_116 : decode cX11_again 116 = .ok (.istore_n 2, 1) := by decide +kernel
theorem dX11_again_117 : decode cX11_again 117 = .ok (.iload_n 2, 1) := by decide +kernel
theorem dX11_again_118 : decode cX11_again 118 = .ok (.aload_n 0, 1) := by decide +kernel
theorem dX11_again_119 : decode cX11_again 119 = .ok (.invokevirtual 175, 3) := by decide +kernel
theorem dX11_again_122 : decode cX11_again 122 = .ok (.if_icmp .ge 18, 3) := by decide +kernel
theorem dX11_again_125 : decode cX11_again 125 = .ok (.iload_n 1, 1) := by decide +kernel
theorem dX11_again_126 : decode cX11_again 126 = .ok (.aload_n 0, 1) := by decide +kernel
theorem dX11_again_127 : decode cX11_again 127 = .ok (.getfield 126, 3) := by decide +kernel
theorem dX11_again_130 : decode cX11_again 130 = .ok (.iload_n 2, 1) := by decide +kernel
theorem dX11_again_131 : decode cX11_again 131 = .ok (.iaload, 1) := by decide +kernel
theorem dX11_again_132 : decode cX11_again 132 = .ok (.iadd, 1) := by decide +kernel
theorem dX11_again_133 : decode cX11_again 133 = .ok (.istore_n 1, 1) := by decide +kernel
theorem dX11_again_134 : decode cX11_again 134 = .ok (.iinc 2 1, 3) := by decide +kernel
theorem dX11_again_137 : decode cX11_again 137 = .ok (.goto (-20), 3) := by decide +kernel
theorem dX11_again_140 : decode cX11_again 140 = .ok (.iload_n 1, 1) := by decide +kernel
theorem dX11_again_141 : decode cX11_again 141 = .ok (.ireturn, 1) := by decide +kernel
theorem dX11_lack_0 : decode cX11_lack 0 = .ok (.aload_n 0, 1) := by decide +kernel
theorem dX11_lack_1 : decode cX11_lack 1 = .ok (.iconst 0, 1) := by decide +kernel
theorem dX11_lack_2 : decode cX11_lack 2 = .ok (.putfield 1, 3) := by decide +kernel
theorem dX11_lack_5 : decode cX11_lack 5 = .ok (.aload_n 0, 1) := by decide +kernel
theorem dX11_lack_6 : decode cX11_lack 6 = .ok (.invokevirtual 175, 3) := by decide +kernel
theorem dX11_lack_9 : decode cX11_lack 9 = .ok (.ifCond .eq 13, 3) := by decide +kernel
theorem dX11_lack_12 : decode cX11_lack 12 = .ok (.aload_n 0, 1) := by decide +kernel
theorem dX11_lack_13 : decode cX11_lack 13 = .ok (.getfield 69, 3) := by decide +kernel
theorem dX11_lack_16 : decode cX11_lack 16 = .ok (.invokestatic 200, 3) := by decide +kernel
theorem dX11_lack_19 : decode cX11_lack 19 = .ok (.ifCond .ne 5, 3) := by decide +kernel
theorem dX11_lack_22 : decode cX11_lack 22 = .ok (.iconst (-1), 1) := by decide +kernel
theorem dX11_lack_23 : decode cX11_lack 23 = .ok (.ireturn, 1) := by decide +kernel
theorem dX11_lack_24 : decode cX11_lack 24 = .ok (.aload_n 0, 1) := by decide +kernel
theorem dX11_lack_25 : decode cX11_lack 25 = .ok (.getfield 69, 3) := by decide +kernel
theorem dX11_lack_28 : decode cX11_lack 28 = .ok (.invokestatic 204, 3) := by decide +kernel
theorem dX11_lack_31 : decode cX11_lack 31 = .ok (.istore_n 1, 1) := by decide +kernel
theorem dX11_lack_32 : decode cX11_lack 32 = .ok (.iload_n 1, 1) := by decide +kernel
theorem dX11_lack_33 : decode cX11_lack 33 = .ok (.iconst 1, 1) := by decide +kernel
theorem dX11_lack_34 : decode cX11_lack 34 = .ok (.if_icmp .le 9, 3) := by decide +kernel
theorem dX11_lack_37 : decode cX11_lack 37 = .ok (.iload_n 1, 1) := by decide +kernel
theorem dX11_lack_38 : decode cX11_lack 38 = .ok (.iconst 1, 1) := by decide +kernel
theorem dX11_lack_39 : decode cX11_lack 39 = .ok (.isub, 1) := by decide +kernel
theorem dX11_lack_40 : decode cX11_lack 40 = .ok (.goto 4, 3) := by decide +kernel
theorem dX11_lack_43 : decode cX11_lack 43 = .ok (.iconst 0, 1) := by decide +kernel
theorem dX11_lack_44 : decode cX11_lack 44 = .ok (.ireturn, 1) := by decide +kernel
theorem dX11_isRight_0 : decode cX11_isRight 0 = .ok (.iconst 0, 1) := by decide +kernel
theorem dX11_isRight_1 : decode cX11_isRight 1 = .ok (.istore_n 2, 1) := by decide +kernel
theorem dX11_isRight_2 : decode cX11_isRight 2 = .ok (.iload_n 2, 1) := by decide +kernel
theorem dX11_isRight_3 : decode cX11_isRight 3 = .ok (.aload_n 0, 1) := by decide +kernel
theorem dX11_isRight_4 : decode cX11_isRight 4 = .ok (.invokevirtual 168, 3) := by decide +kernel
theorem dX11_isRight_7 : decode cX11_isRight 7 = .ok (.if_icmp .ge 16, 3) := by decide +kernel
theorem dX11_isRight_10 : decode cX11_isRight 10 = .ok (.aload_n 0, 1) := by decide +kernel
theorem dX11_isRight_11 : decode cX11_isRight 11 = .ok (.getfield 105, 3) := by decide +kernel
theorem dX11_isRight_14 : decode cX11_isRight 14 = .ok (.iload_n 2, 1) := by decide +kernel
theorem dX11_isRight_15 : decode cX11_isRight 15 = .ok (.iconst 0, 1) := by decide +kernel
theorem dX11_isRight_16 : decode cX11_isRight 16 = .ok (.iastore, 1) := by decide +kernel
theorem dX11_isRight_17 : decode cX11_isRight 17 = .ok (.iinc 2 1, 3) := by decide +kernel
theorem dX11_isRight_20 : decode cX11_isRight 20 = .ok (.goto (-18), 3) := by decide +kernel
theorem dX11_isRight_23 : decode cX11_isRight 23 = .ok (.iconst 0, 1) := by decide +kernel
theorem dX11_isRight_24 : decode cX11_isRight 24 = .ok (.istore_n 2, 1) := by decide +kernel
theorem dX11_isRight_25 : decode cX11_isRight 25 = .ok (.iload_n 2, 1) := by decide +kernel
theorem dX11_isRight_26 : decode cX11_isRight 26 = .ok (.aload_n 0, 1) := by decide +kernel
theorem dX11_isRight_27 : decode cX11_isRight 27 = .ok (.invokevirtual 175, 3) := by decide +kernel
theorem dX11_isRight_30 : decode cX11_isRight 30 = .ok (.if_icmp .ge 68, 3) := by decide +kernel
theorem dX11_isRight_33 : decode cX11_isRight 33 = .ok (.aload_n 0, 1) := by decide +kernel
theorem dX11_isRight_34 : decode cX11_isRight 34 = .ok (.getfield 105, 3) := by decide +kernel
theorem dX11_isRight_37 : decode cX11_isRight 37 = .ok (.aload_n 0, 1) := by decide +kernel
theorem dX11_isRight_38 : decode cX11_isRight 38 = .ok (.getfield 69, 3) := by decide +kernel
theorem dX11_isRight_41 : decode cX11_isRight 41 = .ok (.iconst 2, 1) := by decide +kernel
theorem dX11_isRight_42 : decode cX11_isRight 42 = .ok (.iload_n 2, 1) := by decide +kernel
theorem dX11_isRight_43 : decode cX11_isRight 43 = .ok (.iadd, 1) := by decide +kernel
theorem dX11_isRight_44 : decode cX11_isRight 44 = .ok (.iaload, 1) := by decide +kernel
theorem dX11_isRight_45 : decode cX11_isRight 45 = .ok (.dup2, 1) := by decide +kernel
theorem dX11_isRight_46 : decode cX11_isRight 46 = .ok (.iaload, 1) := by decide +kernel
theorem dX11_isRight_47 : decode cX11_isRight 47 = .ok (.iload_n 1, 1) := by decide +kernel
theorem dX11_isRight_48 : decode cX11_isRight 48 = .ok (.iload_n 2, 1) := by decide +kernel
theorem dX11_isRight_49 : decode cX11_isRight 49 = .ok (.invokestatic 178, 3) := by decide +kernel
theorem dX11_isRight_52 : decode cX11_isRight 52 = .ok (.ifCond .eq 7, 3) := by decide +kernel
theorem dX11_isRight_55 : decode cX11_isRight 55 = .ok (.iconst (-1), 1) := by decide +kernel
theorem dX11_isRight_56 : decode cX11_isRight 56 = .ok (.goto 4, 3) := by decide +kernel
theorem dX11_isRight_59 : decode cX11_isRight 59 = .ok (.iconst 1, 1) := by decide +kernel
theorem dX11_isRight_60 : decode cX11_isRight 60 = .ok (.iadd, 1) := by decide +kernel
theorem dX11_isRight_61 : decode cX11_isRight 61 = .ok (.iastore, 1) := by decide +kernel
theorem dX11_isRight_62 : decode cX11_isRight 62 = .ok (.aload_n 0, 1) := by decide +kernel
theorem dX11_isRight_63 : decode cX11_isRight 63 = .ok (.getfield 105, 3) := by decide +kernel
theorem dX11_isRight_66 : decode cX11_isRight 66 = .ok (.aload_n 0, 1) := by decide +kernel
theorem dX11_isRight_67 : decode cX11_isRight 67 = .ok (.getfield 69, 3) := by decide +kernel
theorem dX11_isRight_70 : decode cX11_isRight 70 = .ok (.bipush 18, 2) := by decide +kernel
theorem dX11_isRight_72 : decode cX11_isRight 72 = .ok (.iload_n 2, 1) := by decide +kernel
theorem dX11_isRight_73 : decode cX11_isRight 73 = .ok (.iadd, 1) := by decide +kernel
theorem dX11_isRight_74 : decode cX11_isRight 74 = .ok (.iaload, 1) := by decide +kernel
theorem dX11_isRight_75 : decode cX11_isRight 75 = .ok (.dup2, 1) := by decide +kernel
theorem dX11_isRight_76 : decode cX11_isRight 76 = .ok (.iaload, 1) := by decide +kernel
theorem dX11_isRight_77 : decode cX11_isRight 77 = .ok (.iload_n 1, 1) := by decide +kernel
theorem dX11_isRight_78 : decode cX11_isRight 78 = .ok (.iload_n 2, 1) := by decide +kernel
theorem dX11_isRight_79 : decode cX11_isRight 79 = .ok (.invokestatic 178, 3) := by decide +kernel
theorem dX11_isRight_82 : decode cX11_isRight 82 = .ok (.ifCond .eq 7, 3) := by decide +kernel
theorem dX11_isRight_85 : decode cX11_isRight 85 = .ok (.iconst 1, 1) := by decide +kernel
theorem dX11_isRight_86 : decode cX11_isRight 86 = .ok (.goto 4, 3) := by decide +kernel
theorem dX11_isRight_89 : decode cX11_isRight 89 = .ok (.iconst (-1), 1) := by decide +kernel
theorem dX11_isRight_90 : decode cX11_isRight 90 = .ok (.iadd, 1) := by decide +kernel
theorem dX11_isRight_91 : decode cX11_isRight 91 = .ok (.iastore, 1) := by decide +kernel
theorem dX11_isRight_92 : decode cX11_isRight 92 = .ok (.iinc 2 1, 3) := by decide +kernel
theorem dX11_isRight_95 : decode cX11_isRight 95 = .ok (.goto (-70), 3) := by decide +kernel
theorem dX11_isRight_98 : decode cX11_isRight 98 = .ok (.iconst 0, 1) := by decide +kernel
theorem dX11_isRight_99 : decode cX11_isRight 99 = .ok (.istore_n 2, 1) := by decide +kernel
theorem dX11_isRight_100 : decode cX11_isRight 100 = .ok (.iload_n 2, 1) := by decide +kernel
theorem dX11_isRight_101 : decode cX11_isRight 101 = .ok (.aload_n 0, 1) := by decide +kernel
theorem dX11_isRight_102 : decode cX11_isRight 102 = .ok (.invokevirtual 168, 3) := by decide +kernel
theorem dX11_isRight_105 : decode cX11_isRight 105 = .ok (.if_icmp .ge 20, 3) := by decide +kernel
theorem dX11_isRight_108 : decode cX11_isRight 108 = .ok (.aload_n 0, 1) := by decide +kernel
theorem dX11_isRight_109 : decode cX11_isRight 109 = .ok (.getfield 105, 3) := by decide +kernel
theorem dX11_isRight_112 : decode cX11_isRight 112 = .ok (.iload_n 2, 1) := by decide +kernel
theorem dX11_isRight_113 : decode cX11_isRight 113 = .ok (.iaload, 1) := by decide +kernel
theorem dX11_isRight_114 : decode cX11_isRight 114 = .ok (.ifCond .eq 5, 3) := by decide +kernel
theorem dX11_isRight_117 : decode cX11_isRight 117 = .ok (.iconst 0, 1) := by decide +kernel
theorem dX11_isRight_118 : decode cX11_isRight 118 = .ok (.ireturn, 1) := by decide +kernel
theorem dX11_isRight_119 : decode cX11_isRight 119 = .ok (.iinc 2 1, 3) := by decide +kernel
theorem dX11_isRight_122 : decode cX11_isRight 122 = .ok (.goto (-22), 3) := by decide +kernel
theorem dX11_isRight_125 : decode cX11_isRight 125 = .ok (.iconst 1, 1) := by decide +kernel
theorem dX11_isRight_126 : decode cX11_isRight 126 = .ok (.ireturn, 1) := by decide +kernel
theorem dX11_righted_0 : decode cX11_righted 0 = .ok (.aload_n 0, 1) := by decide +kernel
theorem dX11_righted_1 : decode cX11_righted 1 = .ok (.iconst 0, 1) := by decide +kernel
theorem dX11_righted_2 : decode cX11_righted 2 = .ok (.putfield 1, 3) := by decide +kernel
theorem dX11_righted_5 : decode cX11_righted 5 = .ok (.iload_n 1, 1) := by decide +kernel
theorem dX11_righted_6 : decode cX11_righted 6 = .ok (.iconst 0, 1) := by decide +kernel
theorem dX11_righted_7 : decode cX11_righted 7 = .ok (.iconst 1, 1) := by decide +kernel
theorem dX11_righted_8 : decode cX11_righted 8 = .ok (.invokestatic 171, 3) := by decide +kernel
theorem dX11_righted_11 : decode cX11_righted 11 = .ok (.ifCond .ne 5, 3) := by decide +kernel
theorem dX11_righted_14 : decode cX11_righted 14 = .ok (.iconst (-1), 1) := by decide +kernel
theorem dX11_righted_15 : decode cX11_righted 15 = .ok (.ireturn, 1) := by decide +kernel
theorem dX11_righted_16 : decode cX11_righted 16 = .ok (.iconst 0, 1) := by decide +kernel
theorem dX11_righted_17 : decode cX11_righted 17 = .ok (.istore_n 2, 1) := by decide +kernel
theorem dX11_righted_18 : decode cX11_righted 18 = .ok (.iload_n 2, 1) := by decide +kernel
theorem dX11_righted_19 : decode cX11_righted 19 = .ok (.aload_n 0, 1) := by decide +kernel
theorem dX11_righted_20 : decode cX11_righted 20 = .ok (.invokevirtual 175, 3) := by decide +kernel
theorem dX11_righted_23 : decode cX11_righted 23 = .ok (.if_icmp .gt 53, 3) := by decide +kernel
theorem dX11_righted_26 : decode cX11_righted 26 = .ok (.iconst 0, 1) := by decide +kernel
theorem dX11_righted_27 : decode cX11_righted 27 = .ok (.istore_n 3, 1) := by decide +kernel
theorem dX11_righted_28 : decode cX11_righted 28 = .ok (.iload_n 3, 1) := by decide +kernel
theorem dX11_righted_29 : decode cX11_righted 29 = .ok (.iconst 1, 1) := by decide +kernel
theorem dX11_righted_30 : decode cX11_righted 30 = .ok (.aload_n 0, 1) := by decide +kernel
theorem dX11_righted_31 : decode cX11_righted 31 = .ok (.invokevirtual 175, 3) := by decide +kernel
theorem dX11_righted_34 : decode cX11_righted 34 = .ok (.ishl, 1) := by decide +kernel
theorem dX11_righted_35 : decode cX11_righted 35 = .ok (.if_icmp .ge 35, 3) := by decide +kernel
theorem dX11_righted_38 : decode cX11_righted 38 = .ok (.iload_n 3, 1) := by decide +kernel
theorem dX11_righted_39 : decode cX11_righted 39 = .ok (.invokestatic 274, 3) := by decide +kernel
theorem dX11_righted_42 : decode cX11_righted 42 = .ok (.iload_n 2, 1) := by decide +kernel
theorem dX11_righted_43 : decode cX11_righted 43 = .ok (.if_icmp .ne 21, 3) := by decide +kernel
theorem dX11_righted_46 : decode cX11_righted 46 = .ok (.aload_n 0, 1) := by decide +kernel
theorem dX11_righted_47 : decode cX11_righted 47 = .ok (.iload_n 3, 1) := by decide +kernel
theorem dX11_righted_48 : decode cX11_righted 48 = .ok (.invokevirtual 338, 3) := by decide +kernel
theorem dX11_righted_51 : decode cX11_righted 51 = .ok (.ifCond .eq 13, 3) := by decide +kernel
theorem dX11_righted_54 : decode cX11_righted 54 = .ok (.iload_n 1, 1) := by decide +kernel
theorem dX11_righted_55 : decode cX11_righted 55 = .ok (.ifCond .ne 7, 3) := by decide +kernel
theorem dX11_righted_58 : decode cX11_righted 58 = .ok (.iload_n 2, 1) := by decide +kernel
theorem dX11_righted_59 : decode cX11_righted 59 = .ok (.goto 4, 3) := by decide +kernel
theorem dX11_righted_62 : decode cX11_righted 62 = .ok (.iload_n 3, 1) := by decide +kernel
theorem dX11_righted_63 : decode cX11_righted 63 = .ok (.ireturn, 1) := by decide +kernel
theorem dX11_righted_64 : decode cX11_righted 64 = .ok (.iinc 3 1, 3) := by decide +kernel
theorem dX11_righted_67 : decode cX11_righted 67 = .ok (.goto (-39), 3) := by decide +kernel
theorem dX11_righted_70 : decode cX11_righted 70 = .ok (.iinc 2 1, 3) := by decide +kernel
theorem dX11_righted_73 : decode cX11_righted 73 = .ok (.goto (-55), 3) := by decide +kernel
theorem dX11_righted_76 : decode cX11_righted 76 = .ok (.iconst (-1), 1) := by decide +kernel
theorem dX11_righted_77 : decode cX11_righted 77 = .ok (.ireturn, 1) := by decide +kernel
theorem dX11_snap_0 : decode cX11_snap 0 = .ok (.aload_n 0, 1) := by decide +kernel
theorem dX11_snap_1 : decode cX11_snap 1 = .ok (.getfield 165, 3) := by decide +kernel
theorem dX11_snap_4 : decode cX11_snap 4 = .ok (.bipush 8, 2) := by decide +kernel
theorem dX11_snap_6 : decode cX11_snap 6 = .ok (.if_icmp .ne 43, 3) := by decide +kernel
theorem dX11_snap_9 : decode cX11_snap 9 = .ok (.iconst 0, 1) := by decide +kernel
theorem dX11_snap_10 : decode cX11_snap 10 = .ok (.istore_n 1, 1) := by decide +kernel
theorem dX11_snap_11 : decode cX11_snap 11 = .ok (.iload_n 1, 1) := by decide +kernel
theorem dX11_snap_12 : decode cX11_snap 12 = .ok (.sipush 238, 3) := by decide +kernel
theorem dX11_snap_15 : decode cX11_snap 15 = .ok (.if_icmp .ge 24, 3) := by decide +kernel
theorem dX11_snap_18 : decode cX11_snap 18 = .ok (.aload_n 0, 1) := by decide +kernel
theorem dX11_snap_19 : decode cX11_snap 19 = .ok (.getfield 78, 3) := by decide +kernel
theorem dX11_snap_22 : decode cX11_snap 22 = .ok (.iload_n 1, 1) := by decide +kernel
theorem dX11_snap_23 : decode cX11_snap 23 = .ok (.aload_n 0, 1) := by decide +kernel
theorem dX11_snap_24 : decode cX11_snap 24 = .ok (.getfield 78, 3) := by decide +kernel
theorem dX11_snap_27 : decode cX11_snap 27 = .ok (.iload_n 1, 1) := by decide +kernel
theorem dX11_snap_28 : decode cX11_snap 28 = .ok (.bipush 34, 2) := by decide +kernel
theorem dX11_snap_30 : decode cX11_snap 30 = .ok (.iadd, 1) := by decide +kernel
theorem dX11_snap_31 : decode cX11_snap 31 = .ok (.iaload, 1) := by decide +kernel
theorem dX11_snap_32 : decode cX11_snap 32 = .ok (.iastore, 1) := by decide +kernel
theorem dX11_snap_33 : decode cX11_snap 33 = .ok (.iinc 1 1, 3) := by decide +kernel
theorem dX11_snap_36 : decode cX11_snap 36 = .ok (.goto (-25), 3) := by decide +kernel
theorem dX11_snap_39 : decode cX11_snap 39 = .ok (.aload_n 0, 1) := by decide +kernel
theorem dX11_snap_40 : decode cX11_snap 40 = .ok (.dup, 1) := by decide +kernel
theorem dX11_snap_41 : decode cX11_snap 41 = .ok (.getfield 165, 3) := by decide +kernel
theorem dX11_snap_44 : decode cX11_snap 44 = .ok (.iconst 1, 1) := by decide +kernel
theorem dX11_snap_45 : decode cX11_snap 45 = .ok (.isub, 1) := by decide +kernel
theorem dX11_snap_46 : decode cX11_snap 46 = .ok (.putfield 165, 3) := by decide +kernel
theorem dX11_snap_49 : decode cX11_snap 49 = .ok (.aload_n 0, 1) := by decide +kernel
theorem dX11_snap_50 : decode cX11_snap 50 = .ok (.getfield 69, 3) := by decide +kernel
theorem dX11_snap_53 : decode cX11_snap 53 = .ok (.iconst 0, 1) := by decide +kernel
theorem dX11_snap_54 : decode cX11_snap 54 = .ok (.aload_n 0, 1) := by decide +kernel
theorem dX11_snap_55 : decode cX11_snap 55 = .ok (.getfield 78, 3) := by decide +kernel
theorem dX11_snap_58 : decode cX11_snap 58 = .ok (.bipush 34, 2) := by decide +kernel
theorem dX11_snap_60 : decode cX11_snap 60 = .ok (.aload_n 0, 1) := by decide +kernel
theorem dX11_snap_61 : decode cX11_snap 61 = .ok (.getfield 165, 3) := by decide +kernel
theorem dX11_snap_64 : decode cX11_snap 64 = .ok (.imul, 1) := by decide +kernel
theorem dX11_snap_65 : decode cX11_snap 65 = .ok (.invokestatic 161, 3) := by decide +kernel
theorem dX11_snap_68 : decode cX11_snap 68 = .ok (.aload_n 0, 1) := by decide +kernel
theorem dX11_snap_69 : decode cX11_snap 69 = .ok (.dup, 1) := by decide +kernel
theorem dX11_snap_70 : decode cX11_snap 70 = .ok (.getfield 165, 3) := by decide +kernel
theorem dX11_snap_73 : decode cX11_snap 73 = .ok (.iconst 1, 1) := by decide +kernel
theorem dX11_snap_74 : decode cX11_snap 74 = .ok (.iadd, 1) := by decide +kernel
theorem dX11_snap_75 : decode cX11_snap 75 = .ok (.putfield 165, 3) := by decide +kernel
theorem dX11_snap_78 : decode cX11_snap 78 = .ok (.return_, 1) := by decide +kernel
theorem dX11_stay_0 : decode cX11_stay 0 = .ok (.aload_n 0, 1) := by decide +kernel
theorem dX11_stay_1 : decode cX11_stay 1 = .ok (.getfield 69, 3) := by decide +kernel
theorem dX11_stay_4 : decode cX11_stay 4 = .ok (.iconst 0, 1) := by decide +kernel
theorem dX11_stay_5 : decode cX11_stay 5 = .ok (.aload_n 0, 1) := by decide +kernel
theorem dX11_stay_6 : decode cX11_stay 6 = .ok (.getfield 84, 3) := by decide +kernel
theorem dX11_stay_9 : decode cX11_stay 9 = .ok (.iconst 0, 1) := by decide +kernel
theorem dX11_stay_10 : decode cX11_stay 10 = .ok (.invokestatic 161, 3) := by decide +kernel
theorem dX11_stay_13 : decode cX11_stay 13 = .ok (.aload_n 0, 1) := by decide +kernel
theorem dX11_stay_14 : decode cX11_stay 14 = .ok (.getfield 81, 3) := by decide +kernel
theorem dX11_stay_17 : decode cX11_stay 17 = .ok (.iconst 0, 1) := by decide +kernel
theorem dX11_stay_18 : decode cX11_stay 18 = .ok (.aload_n 0, 1) := by decide +kernel
theorem dX11_stay_19 : decode cX11_stay 19 = .ok (.getfield 69, 3) := by decide +kernel
theorem dX11_stay_22 : decode cX11_stay 22 = .ok (.iconst 0, 1) := by decide +kernel
theorem dX11_stay_23 : decode cX11_stay 23 = .ok (.invokestatic 161, 3) := by decide +kernel
theorem dX11_stay_26 : decode cX11_stay 26 = .ok (.aload_n 0, 1) := by decide +kernel
theorem dX11_stay_27 : decode cX11_stay 27 = .ok (.invokevirtual 326, 3) := by decide +kernel
theorem dX11_stay_30 : decode cX11_stay 30 = .ok (.aload_n 0, 1) := by decide +kernel
theorem dX11_stay_31 : decode cX11_stay 31 = .ok (.getfield 84, 3) := by decide +kernel
theorem dX11_stay_34 : decode cX11_stay 34 = .ok (.iconst 0, 1) := by decide +kernel
theorem dX11_stay_35 : decode cX11_stay 35 = .ok (.aload_n 0, 1) := by decide +kernel
theorem dX11_stay_36 : decode cX11_stay 36 = .ok (.getfield 69, 3) := by decide +kernel
theorem dX11_stay_39 : decode cX11_stay 39 = .ok (.iconst 0, 1) := by decide +kernel
theorem dX11_stay_40 : decode cX11_stay 40 = .ok (.invokestatic 161, 3) := by decide +kernel
theorem dX11_stay_43 : decode cX11_stay 43 = .ok (.return_, 1) := by decide +kernel
theorem dX11_add_0 : decode cX11_add 0 = .ok (.aload_n 0, 1) := by decide +kernel
theorem dX11_add_1 : decode cX11_add 1 = .ok (.iconst 0, 1) := by decide +kernel
theorem dX11_add_2 : decode cX11_add 2 = .ok (.putfield 1, 3) := by decide +kernel
theorem dX11_add_5 : decode cX11_add 5 = .ok (.aload_n 0, 1) := by decide +kernel
theorem dX11_add_6 : decode cX11_add 6 = .ok (.invokevirtual 175, 3) := by decide +kernel
theorem dX11_add_9 : decode cX11_add 9 = .ok (.bipush 16, 2) := by decide +kernel
theorem dX11_add_11 : decode cX11_add 11 = .ok (.if_icmp .eq 19, 3) := by decide +kernel
theorem dX11_add_14 : decode cX11_add 14 = .ok (.aload_n 0, 1) := by decide +kernel
theorem dX11_add_15 : decode cX11_add 15 = .ok (.iload_n 1, 1) := by decide +kernel
theorem dX11_add_16 : decode cX11_add 16 = .ok (.invokevirtual 219, 3) := by decide +kernel
theorem dX11_add_19 : decode cX11_add 19 = .ok (.ifCond .eq 11, 3) := by decide +kernel
theorem dX11_add_22 : decode cX11_add 22 = .ok (.aload_n 0, 1) := by decide +kernel
theorem dX11_add_23 : decode cX11_add 23 = .ok (.iload_n 2, 1) := by decide +kernel
theorem dX11_add_24 : decode cX11_add 24 = .ok (.invokevirtual 219, 3) := by decide +kernel
theorem dX11_add_27 : decode cX11_add 27 = .ok (.ifCond .ne 5, 3) := by decide +kernel
theorem dX11_add_30 : decode cX11_add 30 = .ok (.iconst (-1), 1) := by decide +kernel
theorem dX11_add_31 : decode cX11_add 31 = .ok (.ireturn, 1) := by decide +kernel
theorem dX11_add_32 : decode cX11_add 32 = .ok (.aload_n 0, 1) := by decide +kernel
theorem dX11_add_33 : decode cX11_add 33 = .ok (.invokevirtual 326, 3) := by decide +kernel
theorem dX11_add_36 : decode cX11_add 36 = .ok (.aload_n 0, 1) := by decide +kernel
theorem dX11_add_37 : decode cX11_add 37 = .ok (.getfield 69, 3) := by decide +kernel
theorem dX11_add_40 : decode cX11_add 40 = .ok (.iload_n 1, 1) := by decide +kernel
theorem dX11_add_41 : decode cX11_add 41 = .ok (.iload_n 2, 1) := by decide +kernel
theorem dX11_add_42 : decode cX11_add 42 = .ok (.invokestatic 148, 3) := by decide +kernel
theorem dX11_add_45 : decode cX11_add 45 = .ok (.aload_n 0, 1) := by decide +kernel
theorem dX11_add_46 : decode cX11_add 46 = .ok (.invokevirtual 175, 3) := by decide +kernel
theorem dX11_add_49 : decode cX11_add 49 = .ok (.iconst 1, 1) := by decide +kernel
theorem dX11_add_50 : decode cX11_add 50 = .ok (.isub, 1) := by decide +kernel
theorem dX11_add_51 : decode cX11_add 51 = .ok (.ireturn, 1) := by decide +kernel
theorem dX11_drops_0 : decode cX11_drops 0 = .ok (.iload_n 1, 1) := by decide +kernel
theorem dX11_drops_1 : decode cX11_drops 1 = .ok (.istore_n 2, 1) := by decide +kernel
theorem dX11_drops_2 : decode cX11_drops 2 = .ok (.iload_n 2, 1) := by decide +kernel
theorem dX11_drops_3 : decode cX11_drops 3 = .ok (.iconst 1, 1) := by decide +kernel
theorem dX11_drops_4 : decode cX11_drops 4 = .ok (.iadd, 1) := by decide +kernel
theorem dX11_drops_5 : decode cX11_drops 5 = .ok (.aload_n 0, 1) := by decide +kernel
theorem dX11_drops_6 : decode cX11_drops 6 = .ok (.iconst 1, 1) := by decide +kernel
theorem dX11_drops_7 : decode cX11_drops 7 = .ok (.iaload, 1) := by decide +kernel
theorem dX11_drops_8 : decode cX11_drops 8 = .ok (.if_icmp .ge 35, 3) := by decide +kernel
theorem dX11_drops_11 : decode cX11_drops 11 = .ok (.aload_n 0, 1) := by decide +kernel
theorem dX11_drops_12 : decode cX11_drops 12 = .ok (.iconst 2, 1) := by decide +kernel
theorem dX11_drops_13 : decode cX11_drops 13 = .ok (.iload_n 2, 1) := by decide +kernel
theorem dX11_drops_14 : decode cX11_drops 14 = .ok (.iadd, 1) := by decide +kernel
theorem dX11_drops_15 : decode cX11_drops 15 = .ok (.aload_n 0, 1) := by decide +kernel
theorem dX11_drops_16 : decode cX11_drops 16 = .ok (.iconst 2, 1) := by decide +kernel
theorem dX11_drops_17 : decode cX11_drops 17 = .ok (.iload_n 2, 1) := by decide +kernel
theorem dX11_drops_18 : decode cX11_drops 18 = .ok (.iadd, 1) := by decide +kernel
theorem dX11_drops_19 : decode cX11_drops 19 = .ok (.iconst 1, 1) := by decide +kernel
theorem dX11_drops_20 : decode cX11_drops 20 = .ok (.iadd, 1) := by decide +kernel
theorem dX11_drops_21 : decode cX11_drops 21 = .ok (.iaload, 1) := by decide +kernel
theorem dX11_drops_22 : decode cX11_drops 22 = .ok (.iastore, 1) := by decide +kernel
theorem dX11_drops_23 : decode cX11_drops 23 = .ok (.aload_n 0, 1) := by decide +kernel
theorem dX11_drops_24 : decode cX11_drops 24 = .ok (.bipush 18, 2) := by decide +kernel
theorem dX11_drops_26 : decode cX11_drops 26 = .ok (.iload_n 2, 1) := by decide +kernel
theorem dX11_drops_27 : decode cX11_drops 27 = .ok (.iadd, 1) := by decide +kernel
theorem dX11_drops_28 : decode cX11_drops 28 = .ok (.aload_n 0, 1) := by decide +kernel
theorem dX11_drops_29 : decode cX11_drops 29 = .ok (.bipush 18, 2) := by decide +kernel
theorem dX11_drops_31 : decode cX11_drops 31 = .ok (.iload_n 2, 1) := by decide +kernel
theorem dX11_drops_32 : decode cX11_drops 32 = .ok (.iadd, 1) := by decide +kernel
theorem dX11_drops_33 : decode cX11_drops 33 = .ok (.iconst 1, 1) := by decide +kernel
theorem dX11_drops_34 : decode cX11_drops 34 = .ok (.iadd, 1) := by decide +kernel
theorem dX11_drops_35 : decode cX11_drops 35 = .ok (.iaload, 1) := by decide +kernel
theorem dX11_drops_36 : decode cX11_drops 36 = .ok (.iastore, 1) := by decide +kernel
theorem dX11_drops_37 : decode cX11_drops 37 = .ok (.iinc 2 1, 3) := by decide +kernel
theorem dX11_drops_40 : decode cX11_drops 40 = .ok (.goto (-38), 3) := by decide +kernel
theorem dX11_drops_43 : decode cX11_drops 43 = .ok (.aload_n 0, 1) := by decide +kernel
theorem dX11_drops_44 : decode cX11_drops 44 = .ok (.iconst 1, 1) := by decide +kernel
theorem dX11_drops_45 : decode cX11_drops 45 = .ok (.dup2, 1) := by decide +kernel
theorem dX11_drops_46 : decode cX11_drops 46 = .ok (.iaload, 1) := by decide +kernel
theorem dX11_drops_47 : decode cX11_drops 47 = .ok (.iconst 1, 1) := by decide +kernel
theorem dX11_drops_48 : decode cX11_drops 48 = .ok (.isub, 1) := by decide +kernel
theorem dX11_drops_49 : decode cX11_drops 49 = .ok (.iastore, 1) := by decide +kernel
theorem dX11_drops_50 : decode cX11_drops 50 = .ok (.aload_n 0, 1) := by decide +kernel
theorem dX11_drops_51 : decode cX11_drops 51 = .ok (.iconst 2, 1) := by decide +kernel
theorem dX11_drops_52 : decode cX11_drops 52 = .ok (.aload_n 0, 1) := by decide +kernel
theorem dX11_drops_53 : decode cX11_drops 53 = .ok (.iconst 1, 1) := by decide +kernel
theorem dX11_drops_54 : decode cX11_drops 54 = .ok (.iaload, 1) := by decide +kernel
theorem dX11_drops_55 : decode cX11_drops 55 = .ok (.iadd, 1) := by decide +kernel
theorem dX11_drops_56 : decode cX11_drops 56 = .ok (.iconst 0, 1) := by decide +kernel
theorem dX11_drops_57 : decode cX11_drops 57 = .ok (.iastore, 1) := by decide +kernel
theorem dX11_drops_58 : decode cX11_drops 58 = .ok (.aload_n 0, 1) := by decide +kernel
theorem dX11_drops_59 : decode cX11_drops 59 = .ok (.bipush 18, 2) := by decide +kernel
theorem dX11_drops_61 : decode cX11_drops 61 = .ok (.aload_n 0, 1) := by decide +kernel
theorem dX11_drops_62 : decode cX11_drops 62 = .ok (.iconst 1, 1) := by decide +kernel
theorem dX11_drops_63 : decode cX11_drops 63 = .ok (.iaload, 1) := by decide +kernel
theorem dX11_drops_64 : decode cX11_drops 64 = .ok (.iadd, 1) := by decide +kernel
theorem dX11_drops_65 : decode cX11_drops 65 = .ok (.iconst 0, 1) := by decide +kernel
theorem dX11_drops_66 : decode cX11_drops 66 = .ok (.iastore, 1) := by decide +kernel
theorem dX11_drops_67 : decode cX11_drops 67 = .ok (.return_, 1) := by decide +kernel
theorem dX11_turns_0 : decode cX11_turns 0 = .ok (.aload_n 0, 1) := by decide +kernel
theorem dX11_turns_1 : decode cX11_turns 1 = .ok (.iconst 2, 1) := by decide +kernel
theorem dX11_turns_2 : decode cX11_turns 2 = .ok (.iload_n 1, 1) := by decide +kernel
theorem dX11_turns_3 : decode cX11_turns 3 = .ok (.iadd, 1) := by decide +kernel
theorem dX11_turns_4 : decode cX11_turns 4 = .ok (.iaload, 1) := by decide +kernel
theorem dX11_turns_5 : decode cX11_turns 5 = .ok (.istore_n 2, 1) := by decide +kernel
theorem dX11_turns_6 : decode cX11_turns 6 = .ok (.aload_n 0, 1) := by decide +kernel
theorem dX11_turns_7 : decode cX11_turns 7 = .ok (.iconst 2, 1) := by decide +kernel
theorem dX11_turns_8 : decode cX11_turns 8 = .ok (.iload_n 1, 1) := by decide +kernel
theorem dX11_turns_9 : decode cX11_turns 9 = .ok (.iadd, 1) := by decide +kernel
theorem dX11_turns_10 : decode cX11_turns 10 = .ok (.aload_n 0, 1) := by decide +kernel
theorem dX11_turns_11 : decode cX11_turns 11 = .ok (.bipush 18, 2) := by decide +kernel
theorem dX11_turns_13 : decode cX11_turns 13 = .ok (.iload_n 1, 1) := by decide +kernel
theorem dX11_turns_14 : decode cX11_turns 14 = .ok (.iadd, 1) := by decide +kernel
theorem dX11_turns_15 : decode cX11_turns 15 = .ok (.iaload, 1) := by decide +kernel
theorem dX11_turns_16 : decode cX11_turns 16 = .ok (.iastore, 1) := by decide +kernel
theorem dX11_turns_17 : decode cX11_turns 17 = .ok (.aload_n 0, 1) := by decide +kernel
theorem dX11_turns_18 : decode cX11_turns 18 = .ok (.bipush 18, 2) := by decide +kernel
theorem dX11_turns_20 : decode cX11_turns 20 = .ok (.iload_n 1, 1) := by decide +kernel
theorem dX11_turns_21 : decode cX11_turns 21 = .ok (.iadd, 1) := by decide +kernel
theorem dX11_turns_22 : decode cX11_turns 22 = .ok (.iload_n 2, 1) := by decide +kernel
theorem dX11_turns_23 : decode cX11_turns 23 = .ok (.iastore, 1) := by decide +kernel
theorem dX11_turns_24 : decode cX11_turns 24 = .ok (.return_, 1) := by decide +kernel
theorem dX11_drop_0 : decode cX11_drop 0 = .ok (.aload_n 0, 1) := by decide +kernel
theorem dX11_drop_1 : decode cX11_drop 1 = .ok (.iconst 0, 1) := by decide +kernel
theorem dX11_drop_2 : decode cX11_drop 2 = .ok (.putfield 1, 3) := by decide +kernel
theorem dX11_drop_5 : decode cX11_drop 5 = .ok (.aload_n 0, 1) := by decide +kernel
theorem dX11_drop_6 : decode cX11_drop 6 = .ok (.iload_n 1, 1) := by decide +kernel
theorem dX11_drop_7 : decode cX11_drop 7 = .ok (.invokevirtual 213, 3) := by decide +kernel
theorem dX11_drop_10 : decode cX11_drop 10 = .ok (.ifCond .ne 5, 3) := by decide +kernel
theorem dX11_drop_13 : decode cX11_drop 13 = .ok (.iconst (-1), 1) := by decide +kernel
theorem dX11_drop_14 : decode cX11_drop 14 = .ok (.ireturn, 1) := by decide +kernel
theorem dX11_drop_15 : decode cX11_drop 15 = .ok (.aload_n 0, 1) := by decide +kernel
theorem dX11_drop_16 : decode cX11_drop 16 = .ok (.invokevirtual 326, 3) := by decide +kernel
theorem dX11_drop_19 : decode cX11_drop 19 = .ok (.aload_n 0, 1) := by decide +kernel
theorem dX11_drop_20 : decode cX11_drop 20 = .ok (.getfield 69, 3) := by decide +kernel
theorem dX11_drop_23 : decode cX11_drop 23 = .ok (.iload_n 1, 1) := by decide +kernel
theorem dX11_drop_24 : decode cX11_drop 24 = .ok (.invokestatic 341, 3) := by decide +kernel
theorem dX11_drop_27 : decode cX11_drop 27 = .ok (.aload_n 0, 1) := by decide +kernel
theorem dX11_drop_28 : decode cX11_drop 28 = .ok (.invokevirtual 175, 3) := by decide +kernel
theorem dX11_drop_31 : decode cX11_drop 31 = .ok (.ireturn, 1) := by decide +kernel
theorem dX11_turn_0 : decode cX11_turn 0 = .ok (.aload_n 0, 1) := by decide +kernel
theorem dX11_turn_1 : decode cX11_turn 1 = .ok (.iconst 0, 1) := by decide +kernel
theorem dX11_turn_2 : decode cX11_turn 2 = .ok (.putfield 1, 3) := by decide +kernel
theorem dX11_turn_5 : decode cX11_turn 5 = .ok (.aload_n 0, 1) := by decide +kernel
theorem dX11_turn_6 : decode cX11_turn 6 = .ok (.iload_n 1, 1) := by decide +kernel
theorem dX11_turn_7 : decode cX11_turn 7 = .ok (.invokevirtual 213, 3) := by decide +kernel
theorem dX11_turn_10 : decode cX11_turn 10 = .ok (.ifCond .ne 5, 3) := by decide +kernel
theorem dX11_turn_13 : decode cX11_turn 13 = .ok (.iconst (-1), 1) := by decide +kernel
theorem dX11_turn_14 : decode cX11_turn 14 = .ok (.ireturn, 1) := by decide +kernel
theorem dX11_turn_15 : decode cX11_turn 15 = .ok (.aload_n 0, 1) := by decide +kernel
theorem dX11_turn_16 : decode cX11_turn 16 = .ok (.invokevirtual 326, 3) := by decide +kernel
theorem dX11_turn_19 : decode cX11_turn 19 = .ok (.aload_n 0, 1) := by decide +kernel
theorem dX11_turn_20 : decode cX11_turn 20 = .ok (.getfield 69, 3) := by decide +kernel
theorem dX11_turn_23 : decode cX11_turn 23 = .ok (.iload_n 1, 1) := by decide +kernel
theorem dX11_turn_24 : decode cX11_turn 24 = .ok (.invokestatic 345, 3) := by decide +kernel
theorem dX11_turn_27 : decode cX11_turn 27 = .ok (.aload_n 0, 1) := by decide +kernel
theorem dX11_turn_28 : decode cX11_turn 28 = .ok (.getfield 69, 3) := by decide +kernel
theorem dX11_turn_31 : decode cX11_turn 31 = .ok (.bipush 18, 2) := by decide +kernel
theorem dX11_turn_33 : decode cX11_turn 33 = .ok (.iload_n 1, 1) := by decide +kernel
theorem dX11_turn_34 : decode cX11_turn 34 = .ok (.iadd, 1) := by decide +kernel
theorem dX11_turn_35 : decode cX11_turn 35 = .ok (.iaload, 1) := by decide +kernel
theorem dX11_turn_36 : decode cX11_turn 36 = .ok (.ireturn, 1) := by decide +kernel
theorem dX11_does_0 : decode cX11_does 0 = .ok (.aload_n 0, 1) := by decide +kernel
theorem dX11_does_1 : decode cX11_does 1 = .ok (.invokevirtual 300, 3) := by decide +kernel
theorem dX11_does_4 : decode cX11_does 4 = .ok (.iconst 4, 1) := by decide +kernel
theorem dX11_does_5 : decode cX11_does 5 = .ok (.irem, 1) := by decide +kernel
theorem dX11_does_6 : decode cX11_does 6 = .ok (.istore_n 1, 1) := by decide +kernel
theorem dX11_does_7 : decode cX11_does 7 = .ok (.iload_n 1, 1) := by decide +kernel
theorem dX11_does_8 : decode cX11_does 8 = .ok (.iconst 2, 1) := by decide +kernel
theorem dX11_does_9 : decode cX11_does 9 = .ok (.if_icmp .ge 47, 3) := by decide +kernel
theorem dX11_does_12 : decode cX11_does 12 = .ok (.aload_n 0, 1) := by decide +kernel
theorem dX11_does_13 : decode cX11_does 13 = .ok (.invokevirtual 175, 3) := by decide +kernel
theorem dX11_does_16 : decode cX11_does 16 = .ok (.ifCond .ne 5, 3) := by decide +kernel
theorem dX11_does_19 : decode cX11_does 19 = .ok (.iconst 0, 1) := by decide +kernel
theorem dX11_does_20 : decode cX11_does 20 = .ok (.ireturn, 1) := by decide +kernel
theorem dX11_does_21 : decode cX11_does 21 = .ok (.aload_n 0, 1) := by decide +kernel
theorem dX11_does_22 : decode cX11_does 22 = .ok (.invokevirtual 300, 3) := by decide +kernel
theorem dX11_does_25 : decode cX11_does 25 = .ok (.aload_n 0, 1) := by decide +kernel
theorem dX11_does_26 : decode cX11_does 26 = .ok (.invokevirtual 175, 3) := by decide +kernel
theorem dX11_does_29 : decode cX11_does 29 = .ok (.irem, 1) := by decide +kernel
theorem dX11_does_30 : decode cX11_does 30 = .ok (.istore_n 2, 1) := by decide +kernel
theorem dX11_does_31 : decode cX11_does 31 = .ok (.iload_n 1, 1) := by decide +kernel
theorem dX11_does_32 : decode cX11_does 32 = .ok (.ifCond .ne 14, 3) := by decide +kernel
theorem dX11_does_35 : decode cX11_does 35 = .ok (.aload_n 0, 1) := by decide +kernel
theorem dX11_does_36 : decode cX11_does 36 = .ok (.getfield 69, 3) := by decide +kernel
theorem dX11_does_39 : decode cX11_does 39 = .ok (.iload_n 2, 1) := by decide +kernel
theorem dX11_does_40 : decode cX11_does 40 = .ok (.invokestatic 341, 3) := by decide +kernel
theorem dX11_does_43 : decode cX11_does 43 = .ok (.goto 11, 3) := by decide +kernel
theorem dX11_does_46 : decode cX11_does 46 = .ok (.aload_n 0, 1) := by decide +kernel
theorem dX11_does_47 : decode cX11_does 47 = .ok (.getfield 69, 3) := by decide +kernel
theorem dX11_does_50 : decode cX11_does 50 = .ok (.iload_n 2, 1) := by decide +kernel
theorem dX11_does_51 : decode cX11_does 51 = .ok (.invokestatic 345, 3) := by decide +kernel
theorem dX11_does_54 : decode cX11_does 54 = .ok (.iconst 1, 1) := by decide +kernel
theorem dX11_does_55 : decode cX11_does 55 = .ok (.ireturn, 1) := by decide +kernel
theorem dX11_does_56 : decode cX11_does 56 = .ok (.aload_n 0, 1) := by decide +kernel
theorem dX11_does_57 : decode cX11_does 57 = .ok (.invokevirtual 168, 3) := by decide +kernel
theorem dX11_does_60 : decode cX11_does 60 = .ok (.ifCond .eq 12, 3) := by decide +kernel
theorem dX11_does_63 : decode cX11_does 63 = .ok (.aload_n 0, 1) := by decide +kernel
theorem dX11_does_64 : decode cX11_does 64 = .ok (.invokevirtual 175, 3) := by decide +kernel
theorem dX11_does_67 : decode cX11_does 67 = .ok (.bipush 16, 2) := by decide +kernel
theorem dX11_does_69 : decode cX11_does 69 = .ok (.if_icmp .ne 5, 3) := by decide +kernel
theorem dX11_does_72 : decode cX11_does 72 = .ok (.iconst 0, 1) := by decide +kernel
theorem dX11_does_73 : decode cX11_does 73 = .ok (.ireturn, 1) := by decide +kernel
theorem dX11_does_74 : decode cX11_does 74 = .ok (.aload_n 0, 1) := by decide +kernel
theorem dX11_does_75 : decode cX11_does 75 = .ok (.invokevirtual 300, 3) := by decide +kernel
theorem dX11_does_78 : decode cX11_does 78 = .ok (.aload_n 0, 1) := by decide +kernel
theorem dX11_does_79 : decode cX11_does 79 = .ok (.invokevirtual 168, 3) := by decide +kernel
theorem dX11_does_82 : decode cX11_does 82 = .ok (.irem, 1) := by decide +kernel
theorem dX11_does_83 : decode cX11_does 83 = .ok (.istore_n 2, 1) := by decide +kernel
theorem dX11_does_84 : decode cX11_does 84 = .ok (.aload_n 0, 1) := by decide +kernel
theorem dX11_does_85 : decode cX11_does 85 = .ok (.getfield 69, 3) := by decide +kernel
theorem dX11_does_88 : decode cX11_does 88 = .ok (.iload_n 2, 1) := by decide +kernel
theorem dX11_does_89 : decode cX11_does 89 = .ok (.aload_n 0, 1) := by decide +kernel
theorem dX11_does_90 : decode cX11_does 90 = .ok (.invokevirtual 300, 3) := by decide +kernel
theorem dX11_does_93 : decode cX11_does 93 = .ok (.aload_n 0, 1) := by decide +kernel
theorem dX11_does_94 : decode cX11_does 94 = .ok (.invokevirtual 168, 3) := by decide +kernel
theorem dX11_does_97 : decode cX11_does 97 = .ok (.irem, 1) := by decide +kernel
theorem dX11_does_98 : decode cX11_does 98 = .ok (.invokestatic 148, 3) := by decide +kernel
theorem dX11_does_101 : decode cX11_does 101 = .ok (.iconst 1, 1) := by decide +kernel
theorem dX11_does_102 : decode cX11_does 102 = .ok (.ireturn, 1) := by decide +kernel
theorem dX11_deeds_0 : decode cX11_deeds 0 = .ok (.aload_n 0, 1) := by decide +kernel
theorem dX11_deeds_1 : decode cX11_deeds 1 = .ok (.iconst 0, 1) := by decide +kernel
theorem dX11_deeds_2 : decode cX11_deeds 2 = .ok (.putfield 1, 3) := by decide +kernel
theorem dX11_deeds_5 : decode cX11_deeds 5 = .ok (.iload_n 1, 1) := by decide +kernel
theorem dX11_deeds_6 : decode cX11_deeds 6 = .ok (.iconst 1, 1) := by decide +kernel
theorem dX11_deeds_7 : decode cX11_deeds 7 = .ok (.bipush 60, 2) := by decide +kernel
theorem dX11_deeds_9 : decode cX11_deeds 9 = .ok (.invokestatic 171, 3) := by decide +kernel
theorem dX11_deeds_12 : decode cX11_deeds 12 = .ok (.ifCond .ne 5, 3) := by decide +kernel
theorem dX11_deeds_15 : decode cX11_deeds 15 = .ok (.iconst (-1), 1) := by decide +kernel
theorem dX11_deeds_16 : decode cX11_deeds 16 = .ok (.ireturn, 1) := by decide +kernel
theorem dX11_deeds_17 : decode cX11_deeds 17 = .ok (.aload_n 0, 1) := by decide +kernel
theorem dX11_deeds_18 : decode cX11_deeds 18 = .ok (.getfield 69, 3) := by decide +kernel
theorem dX11_deeds_21 : decode cX11_deeds 21 = .ok (.iconst 0, 1) := by decide +kernel
theorem dX11_deeds_22 : decode cX11_deeds 22 = .ok (.aload_n 0, 1) := by decide +kernel
theorem dX11_deeds_23 : decode cX11_deeds 23 = .ok (.getfield 81, 3) := by decide +kernel
theorem dX11_deeds_26 : decode cX11_deeds 26 = .ok (.iconst 0, 1) := by decide +kernel
theorem dX11_deeds_27 : decode cX11_deeds 27 = .ok (.invokestatic 161, 3) := by decide +kernel
theorem dX11_deeds_30 : decode cX11_deeds 30 = .ok (.aload_n 0, 1) := by decide +kernel
theorem dX11_deeds_31 : decode cX11_deeds 31 = .ok (.iload_n 2, 1) := by decide +kernel
theorem dX11_deeds_32 : decode cX11_deeds 32 = .ok (.putfield 296, 3) := by decide +kernel
theorem dX11_deeds_35 : decode cX11_deeds 35 = .ok (.iconst 0, 1) := by decide +kernel
theorem dX11_deeds_36 : decode cX11_deeds 36 = .ok (.istore_n 3, 1) := by decide +kernel
theorem dX11_deeds_37 : decode cX11_deeds 37 = .ok (.iconst 0, 1) := by decide +kernel
theorem dX11_deeds_38 : decode cX11_deeds 38 = .ok (.istore 4, 2) := by decide +kernel
theorem dX11_deeds_40 : decode cX11_deeds 40 = .ok (.iload 4, 2) := by decide +kernel
theorem dX11_deeds_42 : decode cX11_deeds 42 = .ok (.iload_n 1, 1) := by decide +kernel
theorem dX11_deeds_43 : decode cX11_deeds 43 = .ok (.if_icmp .ge 19, 3) := by decide +kernel
theorem dX11_deeds_46 : decode cX11_deeds 46 = .ok (.aload_n 0, 1) := by decide +kernel
theorem dX11_deeds_47 : decode cX11_deeds 47 = .ok (.invokevirtual 348, 3) := by decide +kernel
theorem dX11_deeds_50 : decode cX11_deeds 50 = .ok (.ifCond .eq 6, 3) := by decide +kernel
theorem dX11_deeds_53 : decode cX11_deeds 53 = .ok (.iinc 3 1, 3) := by decide +kernel
theorem dX11_deeds_56 : decode cX11_deeds 56 = .ok (.iinc 4 1, 3) := by decide +kernel
theorem dX11_deeds_59 : decode cX11_deeds 59 = .ok (.goto (-19), 3) := by decide +kernel
theorem dX11_deeds_62 : decode cX11_deeds 62 = .ok (.iload_n 3, 1) := by decide +kernel
theorem dX11_deeds_63 : decode cX11_deeds 63 = .ok (.ifCond .le 7, 3) := by decide +kernel
theorem dX11_deeds_66 : decode cX11_deeds 66 = .ok (.aload_n 0, 1) := by decide +kernel
theorem dX11_deeds_67 : decode cX11_deeds 67 = .ok (.invokevirtual 351, 3) := by decide +kernel
theorem dX11_deeds_70 : decode cX11_deeds 70 = .ok (.iload_n 3, 1) := by decide +kernel
theorem dX11_deeds_71 : decode cX11_deeds 71 = .ok (.ireturn, 1) := by decide +kernel
theorem dX11_undo_0 : decode cX11_undo 0 = .ok (.aload_n 0, 1) := by decide +kernel
theorem dX11_undo_1 : decode cX11_undo 1 = .ok (.iconst 0, 1) := by decide +kernel
theorem dX11_undo_2 : decode cX11_undo 2 = .ok (.putfield 1, 3) := by decide +kernel
theorem dX11_undo_5 : decode cX11_undo 5 = .ok (.aload_n 0, 1) := by decide +kernel
theorem dX11_undo_6 : decode cX11_undo 6 = .ok (.getfield 165, 3) := by decide +kernel
theorem dX11_undo_9 : decode cX11_undo 9 = .ok (.ifCond .ne 5, 3) := by decide +kernel
theorem dX11_undo_12 : decode cX11_undo 12 = .ok (.iconst (-1), 1) := by decide +kernel
theorem dX11_undo_13 : decode cX11_undo 13 = .ok (.ireturn, 1) := by decide +kernel
theorem dX11_undo_14 : decode cX11_undo 14 = .ok (.aload_n 0, 1) := by decide +kernel
theorem dX11_undo_15 : decode cX11_undo 15 = .ok (.dup, 1) := by decide +kernel
theorem dX11_undo_16 : decode cX11_undo 16 = .ok (.getfield 165, 3) := by decide +kernel
theorem dX11_undo_19 : decode cX11_undo 19 = .ok (.iconst 1, 1) := by decide +kernel
theorem dX11_undo_20 : decode cX11_undo 20 = .ok (.isub, 1) := by decide +kernel
theorem dX11_undo_21 : decode cX11_undo 21 = .ok (.putfield 165, 3) := by decide +kernel
theorem dX11_undo_24 : decode cX11_undo 24 = .ok (.aload_n 0, 1) := by decide +kernel
theorem dX11_undo_25 : decode cX11_undo 25 = .ok (.getfield 78, 3) := by decide +kernel
theorem dX11_undo_28 : decode cX11_undo 28 = .ok (.bipush 34, 2) := by decide +kernel
theorem dX11_undo_30 : decode cX11_undo 30 = .ok (.aload_n 0, 1) := by decide +kernel
theorem dX11_undo_31 : decode cX11_undo 31 = .ok (.getfield 165, 3) := by decide +kernel
theorem dX11_undo_34 : decode cX11_undo 34 = .ok (.imul, 1) := by decide +kernel
theorem dX11_undo_35 : decode cX11_undo 35 = .ok (.aload_n 0, 1) := by decide +kernel
theorem dX11_undo_36 : decode cX11_undo 36 = .ok (.getfield 69, 3) := by decide +kernel
theorem dX11_undo_39 : decode cX11_undo 39 = .ok (.iconst 0, 1) := by decide +kernel
theorem dX11_undo_40 : decode cX11_undo 40 = .ok (.invokestatic 161, 3) := by decide +kernel
theorem dX11_undo_43 : decode cX11_undo 43 = .ok (.aload_n 0, 1) := by decide +kernel
theorem dX11_undo_44 : decode cX11_undo 44 = .ok (.getfield 165, 3) := by decide +kernel
theorem dX11_undo_47 : decode cX11_undo 47 = .ok (.ireturn, 1) := by decide +kernel
theorem dX11_image_0 : decode cX11_image 0 = .ok (.aload_n 0, 1) := by decide +kernel
theorem dX11_image_1 : decode cX11_image 1 = .ok (.iconst 0, 1) := by decide +kernel
theorem dX11_image_2 : decode cX11_image 2 = .ok (.putfield 1, 3) := by decide +kernel
theorem dX11_image_5 : decode cX11_image 5 = .ok (.iload_n 1, 1) := by decide +kernel
theorem dX11_image_6 : decode cX11_image 6 = .ok (.iconst 0, 1) := by decide +kernel
theorem dX11_image_7 : decode cX11_image 7 = .ok (.iconst 1, 1) := by decide +kernel
theorem dX11_image_8 : decode cX11_image 8 = .ok (.invokestatic 171, 3) := by decide +kernel
theorem dX11_image_11 : decode cX11_image 11 = .ok (.ifCond .ne 5, 3) := by decide +kernel
theorem dX11_image_14 : decode cX11_image 14 = .ok (.iconst 0, 1) := by decide +kernel
theorem dX11_image_15 : decode cX11_image 15 = .ok (.ireturn, 1) := by decide +kernel
theorem dX11_image_16 : decode cX11_image 16 = .ok (.aload_n 0, 1) := by decide +kernel
theorem dX11_image_17 : decode cX11_image 17 = .ok (.getfield 69, 3) := by decide +kernel
theorem dX11_image_20 : decode cX11_image 20 = .ok (.iconst 0, 1) := by decide +kernel
theorem dX11_image_21 : decode cX11_image 21 = .ok (.aload_n 0, 1) := by decide +kernel
theorem dX11_image_22 : decode cX11_image 22 = .ok (.getfield 75, 3) := by decide +kernel
theorem dX11_image_25 : decode cX11_image 25 = .ok (.bipush 34, 2) := by decide +kernel
theorem dX11_image_27 : decode cX11_image 27 = .ok (.iload_n 1, 1) := by decide +kernel
theorem dX11_image_28 : decode cX11_image 28 = .ok (.imul, 1) := by decide +kernel
theorem dX11_image_29 : decode cX11_image 29 = .ok (.invokestatic 161, 3) := by decide +kernel
theorem dX11_image_32 : decode cX11_image 32 = .ok (.aload_n 0, 1) := by decide +kernel
theorem dX11_image_33 : decode cX11_image 33 = .ok (.getfield 94, 3) := by decide +kernel
theorem dX11_image_36 : decode cX11_image 36 = .ok (.iload_n 1, 1) := by decide +kernel
theorem dX11_image_37 : decode cX11_image 37 = .ok (.iconst 1, 1) := by decide +kernel
theorem dX11_image_38 : decode cX11_image 38 = .ok (.bastore, 1) := by decide +kernel
theorem dX11_image_39 : decode cX11_image 39 = .ok (.iconst 1, 1) := by decide +kernel
theorem dX11_image_40 : decode cX11_image 40 = .ok (.ireturn, 1) := by decide +kernel
theorem dX11_restore_0 : decode cX11_restore 0 = .ok (.aload_n 0, 1) := by decide +kernel
theorem dX11_restore_1 : decode cX11_restore 1 = .ok (.iconst 0, 1) := by decide +kernel
theorem dX11_restore_2 : decode cX11_restore 2 = .ok (.putfield 1, 3) := by decide +kernel
theorem dX11_restore_5 : decode cX11_restore 5 = .ok (.iload_n 1, 1) := by decide +kernel
theorem dX11_restore_6 : decode cX11_restore 6 = .ok (.iconst 0, 1) := by decide +kernel
theorem dX11_restore_7 : decode cX11_restore 7 = .ok (.iconst 1, 1) := by decide +kernel
theorem dX11_restore_8 : decode cX11_restore 8 = .ok (.invokestatic 171, 3) := by decide +kernel
theorem dX11_restore_11 : decode cX11_restore 11 = .ok (.ifCond .eq 12, 3) := by decide +kernel
theorem dX11_restore_14 : decode cX11_restore 14 = .ok (.aload_n 0, 1) := by decide +kernel
theorem dX11_restore_15 : decode cX11_restore 15 = .ok (.getfield 94, 3) := by decide +kernel
theorem dX11_restore_18 : decode cX11_restore 18 = .ok (.iload_n 1, 1) := by decide +kernel
theorem dX11_restore_19 : decode cX11_restore 19 = .ok (.baload, 1) := by decide +kernel
theorem dX11_restore_20 : decode cX11_restore 20 = .ok (.ifCond .ne 5, 3) := by decide +kernel
theorem dX11_restore_23 : decode cX11_restore 23 = .ok (.iconst 0, 1) := by decide +kernel
theorem dX11_restore_24 : decode cX11_restore 24 = .ok (.ireturn, 1) := by decide +kernel
theorem dX11_restore_25 : decode cX11_restore 25 = .ok (.aload_n 0, 1) := by decide +kernel
theorem dX11_restore_26 : decode cX11_restore 26 = .ok (.getfield 75, 3) := by decide +kernel
theorem dX11_restore_29 : decode cX11_restore 29 = .ok (.bipush 34, 2) := by decide +kernel
theorem dX11_restore_31 : decode cX11_restore 31 = .ok (.iload_n 1, 1) := by decide +kernel
theorem dX11_restore_32 : decode cX11_restore 32 = .ok (.imul, 1) := by decide +kernel
theorem dX11_restore_33 : decode cX11_restore 33 = .ok (.aload_n 0, 1) := by decide +kernel
theorem dX11_restore_34 : decode cX11_restore 34 = .ok (.getfield 69, 3) := by decide +kernel
theorem dX11_restore_37 : decode cX11_restore 37 = .ok (.iconst 0, 1) := by decide +kernel
theorem dX11_restore_38 : decode cX11_restore 38 = .ok (.invokestatic 161, 3) := by decide +kernel
theorem dX11_restore_41 : decode cX11_restore 41 = .ok (.aload_n 0, 1) := by decide +kernel
theorem dX11_restore_42 : decode cX11_restore 42 = .ok (.iconst 0, 1) := by decide +kernel
theorem dX11_restore_43 : decode cX11_restore 43 = .ok (.putfield 165, 3) := by decide +kernel
theorem dX11_restore_46 : decode cX11_restore 46 = .ok (.iconst 1, 1) := by decide +kernel
theorem dX11_restore_47 : decode cX11_restore 47 = .ok (.ireturn, 1) := by decide +kernel
