theorem dX9_init_0 : decode cX9_init 0 = .ok (.aload_n 0, 1) := by decide +kernel
theorem dX9_init_1 : decode cX9_init 1 = .ok (.invokespecial 3, 3) := by decide +kernel
theorem dX9_init_4 : decode cX9_init 4 = .ok (.aload_n 0, 1) := by decide +kernel
theorem dX9_init_5 : decode cX9_init 5 = .ok (.new 9, 3) := by decide +kernel
theorem dX9_init_8 : decode cX9_init 8 = .ok (.dup, 1) := by decide +kernel
theorem dX9_init_9 : decode cX9_init 9 = .ok (.invokespecial 11, 3) := by decide +kernel
theorem dX9_init_12 : decode cX9_init 12 = .ok (.putfield 12, 3) := by decide +kernel
theorem dX9_init_15 : decode cX9_init 15 = .ok (.aload_n 0, 1) := by decide +kernel
theorem dX9_init_16 : decode cX9_init 16 = .ok (.bipush 16, 2) := by decide +kernel
theorem dX9_init_18 : decode cX9_init 18 = .ok (.newarray .int, 2) := by decide +kernel
theorem dX9_init_20 : decode cX9_init 20 = .ok (.putfield 18, 3) := by decide +kernel
theorem dX9_init_23 : decode cX9_init 23 = .ok (.aload_n 0, 1) := by decide +kernel
theorem dX9_init_24 : decode cX9_init 24 = .ok (.bipush 8, 2) := by decide +kernel
theorem dX9_init_26 : decode cX9_init 26 = .ok (.newarray .int, 2) := by decide +kernel
theorem dX9_init_28 : decode cX9_init 28 = .ok (.putfield 22, 3) := by decide +kernel
theorem dX9_init_31 : decode cX9_init 31 = .ok (.aload_n 0, 1) := by decide +kernel
theorem dX9_init_32 : decode cX9_init 32 = .ok (.bipush 16, 2) := by decide +kernel
theorem dX9_init_34 : decode cX9_init 34 = .ok (.newarray .int, 2) := by decide +kernel
theorem dX9_init_36 : decode cX9_init 36 = .ok (.putfield 25, 3) := by decide +kernel
theorem dX9_init_39 : decode cX9_init 39 = .ok (.aload_n 0, 1) := by decide +kernel
theorem dX9_init_40 : decode cX9_init 40 = .ok (.lconst 0, 1) := by decide +kernel
theorem dX9_init_41 : decode cX9_init 41 = .ok (.putfield 28, 3) := by decide +kernel
theorem dX9_init_44 : decode cX9_init 44 = .ok (.aload_n 0, 1) := by decide +kernel
theorem dX9_init_45 : decode cX9_init 45 = .ok (.iconst 0, 1) := by decide +kernel
theorem dX9_init_46 : decode cX9_init 46 = .ok (.putfield 32, 3) := by decide +kernel
theorem dX9_init_49 : decode cX9_init 49 = .ok (.aload_n 0, 1) := by decide +kernel
theorem dX9_init_50 : decode cX9_init 50 = .ok (.iconst (-1), 1) := by decide +kernel
theorem dX9_init_51 : decode cX9_init 51 = .ok (.putfield 36, 3) := by decide +kernel
theorem dX9_init_54 : decode cX9_init 54 = .ok (.return_, 1) := by decide +kernel
theorem dX9_seenAt_0 : decode cX9_seenAt 0 = .ok (.iload_n 1, 1) := by decide +kernel
theorem dX9_seenAt_1 : decode cX9_seenAt 1 = .ok (.ifCond .lt 20, 3) := by decide +kernel
theorem dX9_seenAt_4 : decode cX9_seenAt 4 = .ok (.iload_n 1, 1) := by decide +kernel
theorem dX9_seenAt_5 : decode cX9_seenAt 5 = .ok (.aload_n 0, 1) := by decide +kernel
theorem dX9_seenAt_6 : decode cX9_seenAt 6 = .ok (.getfield 32, 3) := by decide +kernel
theorem dX9_seenAt_9 : decode cX9_seenAt 9 = .ok (.if_icmp .ge 12, 3) := by decide +kernel
theorem dX9_seenAt_12 : decode cX9_seenAt 12 = .ok (.aload_n 0, 1) := by decide +kernel
theorem dX9_seenAt_13 : decode cX9_seenAt 13 = .ok (.getfield 25, 3) := by decide +kernel
theorem dX9_seenAt_16 : decode cX9_seenAt 16 = .ok (.iload_n 1, 1) := by decide +kernel
theorem dX9_seenAt_17 : decode cX9_seenAt 17 = .ok (.iaload, 1) := by decide +kernel
theorem dX9_seenAt_18 : decode cX9_seenAt 18 = .ok (.goto 4, 3) := by decide +kernel
theorem dX9_seenAt_21 : decode cX9_seenAt 21 = .ok (.iconst (-1), 1) := by decide +kernel
theorem dX9_seenAt_22 : decode cX9_seenAt 22 = .ok (.ireturn, 1) := by decide +kernel
theorem dX9_count_0 : decode cX9_count 0 = .ok (.aload_n 1, 1) := by decide +kernel
theorem dX9_count_1 : decode cX9_count 1 = .ok (.invokevirtual 39, 3) := by decide +kernel
theorem dX9_count_4 : decode cX9_count 4 = .ok (.istore_n 2, 1) := by decide +kernel
theorem dX9_count_5 : decode cX9_count 5 = .ok (.iload_n 2, 1) := by decide +kernel
theorem dX9_count_6 : decode cX9_count 6 = .ok (.ifCond .ne 5, 3) := by decide +kernel
theorem dX9_count_9 : decode cX9_count 9 = .ok (.lconst 0, 1) := by decide +kernel
theorem dX9_count_10 : decode cX9_count 10 = .ok (.lreturn, 1) := by decide +kernel
theorem dX9_count_11 : decode cX9_count 11 = .ok (.aload_n 0, 1) := by decide +kernel
theorem dX9_count_12 : decode cX9_count 12 = .ok (.getfield 12, 3) := by decide +kernel
theorem dX9_count_15 : decode cX9_count 15 = .ok (.aload_n 1, 1) := by decide +kernel
theorem dX9_count_16 : decode cX9_count 16 = .ok (.iconst (-1), 1) := by decide +kernel
theorem dX9_count_17 : decode cX9_count 17 = .ok (.invokevirtual 45, 3) := by decide +kernel
theorem dX9_count_20 : decode cX9_count 20 = .ok (.iload_n 2, 1) := by decide +kernel
theorem dX9_count_21 : decode cX9_count 21 = .ok (.iconst 1, 1) := by decide +kernel
theorem dX9_count_22 : decode cX9_count 22 = .ok (.if_icmp .ne 23, 3) := by decide +kernel
theorem dX9_count_25 : decode cX9_count 25 = .ok (.aload_n 0, 1) := by decide +kernel
theorem dX9_count_26 : decode cX9_count 26 = .ok (.getfield 12, 3) := by decide +kernel
theorem dX9_count_29 : decode cX9_count 29 = .ok (.aload_n 1, 1) := by decide +kernel
theorem dX9_count_30 : decode cX9_count 30 = .ok (.getfield 49, 3) := by decide +kernel
theorem dX9_count_33 : decode cX9_count 33 = .ok (.iconst 0, 1) := by decide +kernel
theorem dX9_count_34 : decode cX9_count 34 = .ok (.iaload, 1) := by decide +kernel
theorem dX9_count_35 : decode cX9_count 35 = .ok (.aload_n 1, 1) := by decide +kernel
theorem dX9_count_36 : decode cX9_count 36 = .ok (.getfield 52, 3) := by decide +kernel
theorem dX9_count_39 : decode cX9_count 39 = .ok (.iconst 0, 1) := by decide +kernel
theorem dX9_count_40 : decode cX9_count 40 = .ok (.iaload, 1) := by decide +kernel
theorem dX9_count_41 : decode cX9_count 41 = .ok (.iconst (-1), 1) := by decide +kernel
theorem dX9_count_42 : decode cX9_count 42 = .ok (.invokevirtual 55, 3) := by decide +kernel
theorem dX9_count_45 : decode cX9_count 45 = .ok (.aload_n 0, 1) := by decide +kernel
theorem dX9_count_46 : decode cX9_count 46 = .ok (.getfield 12, 3) := by decide +kernel
theorem dX9_count_49 : decode cX9_count 49 = .ok (.aload_n 1, 1) := by decide +kernel
theorem dX9_count_50 : decode cX9_count 50 = .ok (.iload_n 2, 1) := by decide +kernel
theorem dX9_count_51 : decode cX9_count 51 = .ok (.invokevirtual 59, 3) := by decide +kernel
theorem dX9_count_54 : decode cX9_count 54 = .ok (.invokevirtual 63, 3) := by decide +kernel
theorem dX9_count_57 : decode cX9_count 57 = .ok (.lreturn, 1) := by decide +kernel
theorem dX9_lookAtRank_0 : decode cX9_lookAtRank 0 = .ok (.lload_n 2, 1) := by decide +kernel
theorem dX9_lookAtRank_1 : decode cX9_lookAtRank 1 = .ok (.lconst 0, 1) := by decide +kernel
theorem dX9_lookAtRank_2 : decode cX9_lookAtRank 2 = .ok (.lcmp, 1) := by decide +kernel
theorem dX9_lookAtRank_3 : decode cX9_lookAtRank 3 = .ok (.ifCond .lt 13, 3) := by decide +kernel
theorem dX9_lookAtRank_6 : decode cX9_lookAtRank 6 = .ok (.lload_n 2, 1) := by decide +kernel
theorem dX9_lookAtRank_7 : decode cX9_lookAtRank 7 = .ok (.aload_n 0, 1) := by decide +kernel
theorem dX9_lookAtRank_8 : decode cX9_lookAtRank 8 = .ok (.aload_n 1, 1) := by decide +kernel
theorem dX9_lookAtRank_9 : decode cX9_lookAtRank 9 = .ok (.invokevirtual 67, 3) := by decide +kernel
theorem dX9_lookAtRank_12 : decode cX9_lookAtRank 12 = .ok (.lcmp, 1) := by decide +kernel
theorem dX9_lookAtRank_13 : decode cX9_lookAtRank 13 = .ok (.ifCond .lt 5, 3) := by decide +kernel
theorem dX9_lookAtRank_16 : decode cX9_lookAtRank 16 = .ok (.iconst 0, 1) := by decide +kernel
theorem dX9_lookAtRank_17 : decode cX9_lookAtRank 17 = .ok (.ireturn, 1) := by decide +kernel
theorem dX9_lookAtRank_18 : decode cX9_lookAtRank 18 = .ok (.aload_n 1, 1) := by decide +kernel
theorem dX9_lookAtRank_19 : decode cX9_lookAtRank 19 = .ok (.invokevirtual 39, 3) := by decide +kernel
theorem dX9_lookAtRank_22 : decode cX9_lookAtRank 22 = .ok (.istore 4, 2) := by decide +kernel
theorem dX9_lookAtRank_24 : decode cX9_lookAtRank 24 = .ok (.aload_n 0, 1) := by decide +kernel
theorem dX9_lookAtRank_25 : decode cX9_lookAtRank 25 = .ok (.aload_n 1, 1) := by decide +kernel
theorem dX9_lookAtRank_26 : decode cX9_lookAtRank 26 = .ok (.iload 4, 2) := by decide +kernel
theorem dX9_lookAtRank_28 : decode cX9_lookAtRank 28 = .ok (.lload_n 2, 1) := by decide +kernel
theorem dX9_lookAtRank_29 : decode cX9_lookAtRank 29 = .ok (.invokevirtual 71, 3) := by decide +kernel
theorem dX9_lookAtRank_32 : decode cX9_lookAtRank 32 = .ok (.ifCond .ne 5, 3) := by decide +kernel
theorem dX9_lookAtRank_35 : decode cX9_lookAtRank 35 = .ok (.iconst 0, 1) := by decide +kernel
theorem dX9_lookAtRank_36 : decode cX9_lookAtRank 36 = .ok (.ireturn, 1) := by decide +kernel
theorem dX9_lookAtRank_37 : decode cX9_lookAtRank 37 = .ok (.aload_n 0, 1) := by decide +kernel
theorem dX9_lookAtRank_38 : decode cX9_lookAtRank 38 = .ok (.aload_n 1, 1) := by decide +kernel
theorem dX9_lookAtRank_39 : decode cX9_lookAtRank 39 = .ok (.aload_n 1, 1) := by decide +kernel
theorem dX9_lookAtRank_40 : decode cX9_lookAtRank 40 = .ok (.iload 4, 2) := by decide +kernel
theorem dX9_lookAtRank_42 : decode cX9_lookAtRank 42 = .ok (.invokevirtual 59, 3) := by decide +kernel
theorem dX9_lookAtRank_45 : decode cX9_lookAtRank 45 = .ok (.invokevirtual 75, 3) := by decide +kernel
theorem dX9_lookAtRank_48 : decode cX9_lookAtRank 48 = .ok (.iconst 1, 1) := by decide +kernel
theorem dX9_lookAtRank_49 : decode cX9_lookAtRank 49 = .ok (.ireturn, 1) := by decide +kernel
theorem dX9_buildPath_0 : decode cX9_buildPath 0 = .ok (.aload_n 1, 1) := by decide +kernel
theorem dX9_buildPath_1 : decode cX9_buildPath 1 = .ok (.iload_n 2, 1) := by decide +kernel
theorem dX9_buildPath_2 : decode cX9_buildPath 2 = .ok (.invokevirtual 59, 3) := by decide +kernel
theorem dX9_buildPath_5 : decode cX9_buildPath 5 = .ok (.istore 5, 2) := by decide +kernel
theorem dX9_buildPath_7 : decode cX9_buildPath 7 = .ok (.aload_n 1, 1) := by decide +kernel
theorem dX9_buildPath_8 : decode cX9_buildPath 8 = .ok (.iload_n 2, 1) := by decide +kernel
theorem dX9_buildPath_9 : decode cX9_buildPath 9 = .ok (.invokevirtual 78, 3) := by decide +kernel
theorem dX9_buildPath_12 : decode cX9_buildPath 12 = .ok (.istore 6, 2) := by decide +kernel
theorem dX9_buildPath_14 : decode cX9_buildPath 14 = .ok (.iconst 1, 1) := by decide +kernel
theorem dX9_buildPath_15 : decode cX9_buildPath 15 = .ok (.aload_n 1, 1) := by decide +kernel
theorem dX9_buildPath_16 : decode cX9_buildPath 16 = .ok (.getfield 81, 3) := by decide +kernel
theorem dX9_buildPath_19 : decode cX9_buildPath 19 = .ok (.ishl, 1) := by decide +kernel
theorem dX9_buildPath_20 : decode cX9_buildPath 20 = .ok (.iconst 1, 1) := by decide +kernel
theorem dX9_buildPath_21 : decode cX9_buildPath 21 = .ok (.isub, 1) := by decide +kernel
theorem dX9_buildPath_22 : decode cX9_buildPath 22 = .ok (.istore 7, 2) := by decide +kernel
theorem dX9_buildPath_24 : decode cX9_buildPath 24 = .ok (.aload_n 0, 1) := by decide +kernel
theorem dX9_buildPath_25 : decode cX9_buildPath 25 = .ok (.lload_n 3, 1) := by decide +kernel
theorem dX9_buildPath_26 : decode cX9_buildPath 26 = .ok (.putfield 28, 3) := by decide +kernel
theorem dX9_buildPath_29 : decode cX9_buildPath 29 = .ok (.aload_n 0, 1) := by decide +kernel
theorem dX9_buildPath_30 : decode cX9_buildPath 30 = .ok (.getfield 12, 3) := by decide +kernel
theorem dX9_buildPath_33 : decode cX9_buildPath 33 = .ok (.aload_n 1, 1) := by decide +kernel
theorem dX9_buildPath_34 : decode cX9_buildPath 34 = .ok (.iload 7, 2) := by decide +kernel
theorem dX9_buildPath_36 : decode cX9_buildPath 36 = .ok (.invokevirtual 45, 3) := by decide +kernel
theorem dX9_buildPath_39 : decode cX9_buildPath 39 = .ok (.iconst 0, 1) := by decide +kernel
theorem dX9_buildPath_40 : decode cX9_buildPath 40 = .ok (.istore 8, 2) := by decide +kernel
theorem dX9_buildPath_42 : decode cX9_buildPath 42 = .ok (.iload 8, 2) := by decide +kernel
theorem dX9_buildPath_44 : decode cX9_buildPath 44 = .ok (.aload_n 1, 1) := by decide +kernel
theorem dX9_buildPath_45 : decode cX9_buildPath 45 = .ok (.getfield 81, 3) := by decide +kernel
theorem dX9_buildPath_48 : decode cX9_buildPath 48 = .ok (.if_icmp .ge 59, 3) := by decide +kernel
theorem dX9_buildPath_51 : decode cX9_buildPath 51 = .ok (.aload_n 0, 1) := by decide +kernel
theorem dX9_buildPath_52 : decode cX9_buildPath 52 = .ok (.aload_n 1, 1) := by decide +kernel
theorem dX9_buildPath_53 : decode cX9_buildPath 53 = .ok (.iload 6, 2) := by decide +kernel
theorem dX9_buildPath_55 : decode cX9_buildPath 55 = .ok (.iload 7, 2) := by decide +kernel
theorem dX9_buildPath_57 : decode cX9_buildPath 57 = .ok (.iload 5, 2) := by decide +kernel
theorem dX9_buildPath_59 : decode cX9_buildPath 59 = .ok (.invokevirtual 84, 3) := by decide +kernel
theorem dX9_buildPath_62 : decode cX9_buildPath 62 = .ok (.istore 9, 2) := by decide +kernel
theorem dX9_buildPath_64 : decode cX9_buildPath 64 = .ok (.iload 9, 2) := by decide +kernel
theorem dX9_buildPath_66 : decode cX9_buildPath 66 = .ok (.iconst (-1), 1) := by decide +kernel
theorem dX9_buildPath_67 : decode cX9_buildPath 67 = .ok (.if_icmp .ne 5, 3) := by decide +kernel
theorem dX9_buildPath_70 : decode cX9_buildPath 70 = .ok (.iconst 0, 1) := by decide +kernel
theorem dX9_buildPath_71 : decode cX9_buildPath 71 = .ok (.ireturn, 1) := by decide +kernel
theorem dX9_buildPath_72 : decode cX9_buildPath 72 = .ok (.aload_n 0, 1) := by decide +kernel
theorem dX9_buildPath_73 : decode cX9_buildPath 73 = .ok (.getfield 18, 3) := by decide +kernel
theorem dX9_buildPath_76 : decode cX9_buildPath 76 = .ok (.iload 8, 2) := by decide +kernel
theorem dX9_buildPath_78 : decode cX9_buildPath 78 = .ok (.iload 9, 2) := by decide +kernel
theorem dX9_buildPath_80 : decode cX9_buildPath 80 = .ok (.iastore, 1) := by decide +kernel
theorem dX9_buildPath_81 : decode cX9_buildPath 81 = .ok (.iload 7, 2) := by decide +kernel
theorem dX9_buildPath_83 : decode cX9_buildPath 83 = .ok (.iconst 1, 1) := by decide +kernel
theorem dX9_buildPath_84 : decode cX9_buildPath 84 = .ok (.iload 9, 2) := by decide +kernel
theorem dX9_buildPath_86 : decode cX9_buildPath 86 = .ok (.ishl, 1) := by decide +kernel
theorem dX9_buildPath_87 : decode cX9_buildPath 87 = .ok (.iconst (-1), 1) := by decide +kernel
theorem dX9_buildPath_88 : decode cX9_buildPath 88 = .ok (.ixor, 1) := by decide +kernel
theorem dX9_buildPath_89 : decode cX9_buildPath 89 = .ok (.iand, 1) := by decide +kernel
theorem dX9_buildPath_90 : decode cX9_buildPath 90 = .ok (.istore 7, 2) := by decide +kernel
theorem dX9_buildPath_92 : decode cX9_buildPath 92 = .ok (.aload_n 1, 1) := by decide +kernel
theorem dX9_buildPath_93 : decode cX9_buildPath 93 = .ok (.getfield 52, 3) := by decide +kernel
theorem dX9_buildPath_96 : decode cX9_buildPath 96 = .ok (.iload 9, 2) := by decide +kernel
theorem dX9_buildPath_98 : decode cX9_buildPath 98 = .ok (.iaload, 1) := by decide +kernel
theorem dX9_buildPath_99 : decode cX9_buildPath 99 = .ok (.istore 6, 2) := by decide +kernel
theorem dX9_buildPath_101 : decode cX9_buildPath 101 = .ok (.iinc 8 1, 3) := by decide +kernel
theorem dX9_buildPath_104 : decode cX9_buildPath 104 = .ok (.goto (-62), 3) := by decide +kernel
theorem dX9_buildPath_107 : decode cX9_buildPath 107 = .ok (.iconst 1, 1) := by decide +kernel
theorem dX9_buildPath_108 : decode cX9_buildPath 108 = .ok (.ireturn, 1) := by decide +kernel
theorem dX9_chooseNext_0 : decode cX9_chooseNext 0 = .ok (.iconst 0, 1) := by decide +kernel
theorem dX9_chooseNext_1 : decode cX9_chooseNext 1 = .ok (.istore 5, 2) := by decide +kernel
theorem dX9_chooseNext_3 : decode cX9_chooseNext 3 = .ok (.iload 5, 2) := by decide +kernel
theorem dX9_chooseNext_5 : decode cX9_chooseNext 5 = .ok (.aload_n 1, 1) := by decide +kernel
theorem dX9_chooseNext_6 : decode cX9_chooseNext 6 = .ok (.getfield 81, 3) := by decide +kernel
theorem dX9_chooseNext_9 : decode cX9_chooseNext 9 = .ok (.if_icmp .ge 114, 3) := by decide +kernel
theorem dX9_chooseNext_12 : decode cX9_chooseNext 12 = .ok (.iload_n 3, 1) := by decide +kernel
theorem dX9_chooseNext_13 : decode cX9_chooseNext 13 = .ok (.iload 5, 2) := by decide +kernel
theorem dX9_chooseNext_15 : decode cX9_chooseNext 15 = .ok (.invokestatic 88, 3) := by decide +kernel
theorem dX9_chooseNext_18 : decode cX9_chooseNext 18 = .ok (.ifCond .eq 99, 3) := by decide +kernel
theorem dX9_chooseNext_21 : decode cX9_chooseNext 21 = .ok (.aload_n 1, 1) := by decide +kernel
theorem dX9_chooseNext_22 : decode cX9_chooseNext 22 = .ok (.getfield 49, 3) := by decide +kernel
theorem dX9_chooseNext_25 : decode cX9_chooseNext 25 = .ok (.iload 5, 2) := by decide +kernel
theorem dX9_chooseNext_27 : decode cX9_chooseNext 27 = .ok (.iaload, 1) := by decide +kernel
theorem dX9_chooseNext_28 : decode cX9_chooseNext 28 = .ok (.iload_n 2, 1) := by decide +kernel
theorem dX9_chooseNext_29 : decode cX9_chooseNext 29 = .ok (.if_icmp .eq 6, 3) := by decide +kernel
theorem dX9_chooseNext_32 : decode cX9_chooseNext 32 = .ok (.goto 85, 3) := by decide +kernel
theorem dX9_chooseNext_35 : decode cX9_chooseNext 35 = .ok (.aload_n 0, 1) := by decide +kernel
theorem dX9_chooseNext_36 : decode cX9_chooseNext 36 = .ok (.getfield 12, 3) := by decide +kernel
theorem dX9_chooseNext_39 : decode cX9_chooseNext 39 = .ok (.iload_n 2, 1) := by decide +kernel
theorem dX9_chooseNext_40 : decode cX9_chooseNext 40 = .ok (.aload_n 1, 1) := by decide +kernel
theorem dX9_chooseNext_41 : decode cX9_chooseNext 41 = .ok (.getfield 52, 3) := by decide +kernel
theorem dX9_chooseNext_44 : decode cX9_chooseNext 44 = .ok (.iload 5, 2) := by decide +kernel
theorem dX9_chooseNext_46 : decode cX9_chooseNext 46 = .ok (.iaload, 1) := by decide +kernel
theorem dX9_chooseNext_47 : decode cX9_chooseNext 47 = .ok (.iconst (-1), 1) := by decide +kernel
theorem dX9_chooseNext_48 : decode cX9_chooseNext 48 = .ok (.invokevirtual 55, 3) := by decide +kernel
theorem dX9_chooseNext_51 : decode cX9_chooseNext 51 = .ok (.aload_n 0, 1) := by decide +kernel
theorem dX9_chooseNext_52 : decode cX9_chooseNext 52 = .ok (.getfield 12, 3) := by decide +kernel
theorem dX9_chooseNext_55 : decode cX9_chooseNext 55 = .ok (.getfield 92, 3) := by decide +kernel
theorem dX9_chooseNext_58 : decode cX9_chooseNext 58 = .ok (.iload_n 2, 1) := by decide +kernel
theorem dX9_chooseNext_59 : decode cX9_chooseNext 59 = .ok (.iaload, 1) := by decide +kernel
theorem dX9_chooseNext_60 : decode cX9_chooseNext 60 = .ok (.ifCond .ne 6, 3) := by decide +kernel
theorem dX9_chooseNext_63 : decode cX9_chooseNext 63 = .ok (.iload 5, 2) := by decide +kernel
theorem dX9_chooseNext_65 : decode cX9_chooseNext 65 = .ok (.ireturn, 1) := by decide +kernel
theorem dX9_chooseNext_66 : decode cX9_chooseNext 66 = .ok (.aload_n 0, 1) := by decide +kernel
theorem dX9_chooseNext_67 : decode cX9_chooseNext 67 = .ok (.getfield 12, 3) := by decide +kernel
theorem dX9_chooseNext_70 : decode cX9_chooseNext 70 = .ok (.iload 4, 2) := by decide +kernel
theorem dX9_chooseNext_72 : decode cX9_chooseNext 72 = .ok (.invokevirtual 63, 3) := by decide +kernel
theorem dX9_chooseNext_75 : decode cX9_chooseNext 75 = .ok (.lstore 6, 2) := by decide +kernel
theorem dX9_chooseNext_77 : decode cX9_chooseNext 77 = .ok (.aload_n 0, 1) := by decide +kernel
theorem dX9_chooseNext_78 : decode cX9_chooseNext 78 = .ok (.getfield 28, 3) := by decide +kernel
theorem dX9_chooseNext_81 : decode cX9_chooseNext 81 = .ok (.lload 6, 2) := by decide +kernel
theorem dX9_chooseNext_83 : decode cX9_chooseNext 83 = .ok (.lcmp, 1) := by decide +kernel
theorem dX9_chooseNext_84 : decode cX9_chooseNext 84 = .ok (.ifCond .ge 6, 3) := by decide +kernel
theorem dX9_chooseNext_87 : decode cX9_chooseNext 87 = .ok (.iload 5, 2) := by decide +kernel
theorem dX9_chooseNext_89 : decode cX9_chooseNext 89 = .ok (.ireturn, 1) := by decide +kernel
theorem dX9_chooseNext_90 : decode cX9_chooseNext 90 = .ok (.aload_n 0, 1) := by decide +kernel
theorem dX9_chooseNext_91 : decode cX9_chooseNext 91 = .ok (.dup, 1) := by decide +kernel
theorem dX9_chooseNext_92 : decode cX9_chooseNext 92 = .ok (.getfield 28, 3) := by decide +kernel
theorem dX9_chooseNext_95 : decode cX9_chooseNext 95 = .ok (.lload 6, 2) := by decide +kernel
theorem dX9_chooseNext_97 : decode cX9_chooseNext 97 = .ok (.lsub, 1) := by decide +kernel
theorem dX9_chooseNext_98 : decode cX9_chooseNext 98 = .ok (.putfield 28, 3) := by decide +kernel
theorem dX9_chooseNext_101 : decode cX9_chooseNext 101 = .ok (.aload_n 0, 1) := by decide +kernel
theorem dX9_chooseNext_102 : decode cX9_chooseNext 102 = .ok (.getfield 12, 3) := by decide +kernel
theorem dX9_chooseNext_105 : decode cX9_chooseNext 105 = .ok (.iload_n 2, 1) := by decide +kernel
theorem dX9_chooseNext_106 : decode cX9_chooseNext 106 = .ok (.aload_n 1, 1) := by decide +kernel
theorem dX9_chooseNext_107 : decode cX9_chooseNext 107 = .ok (.getfield 52, 3) := by decide +kernel
theorem dX9_chooseNext_110 : decode cX9_chooseNext 110 = .ok (.iload 5, 2) := by decide +kernel
theorem dX9_chooseNext_112 : decode cX9_chooseNext 112 = .ok (.iaload, 1) := by decide +kernel
theorem dX9_chooseNext_113 : decode cX9_chooseNext 113 = .ok (.iconst 1, 1) := by decide +kernel
theorem dX9_chooseNext_114 : decode cX9_chooseNext 114 = .ok (.invokevirtual 55, 3) := by decide +kernel
theorem dX9_chooseNext_117 : decode cX9_chooseNext 117 = .ok (.iinc 5 1, 3) := by decide +kernel
theorem dX9_chooseNext_120 : decode cX9_chooseNext 120 = .ok (.goto (-117), 3) := by decide +kernel
theorem dX9_chooseNext_123 : decode cX9_chooseNext 123 = .ok (.iconst (-1), 1) := by decide +kernel
theorem dX9_chooseNext_124 : decode cX9_chooseNext 124 = .ok (.ireturn, 1) := by decide +kernel
theorem dX9_lookAtPath_0 : decode cX9_lookAtPath 0 = .ok (.iconst 0, 1) := by decide +kernel
theorem dX9_lookAtPath_1 : decode cX9_lookAtPath 1 = .ok (.istore_n 3, 1) := by decide +kernel
theorem dX9_lookAtPath_2 : decode cX9_lookAtPath 2 = .ok (.iload_n 3, 1) := by decide +kernel
theorem dX9_lookAtPath_3 : decode cX9_lookAtPath 3 = .ok (.bipush 8, 2) := by decide +kernel
theorem dX9_lookAtPath_5 : decode cX9_lookAtPath 5 = .ok (.if_icmp .ge 16, 3) := by decide +kernel
theorem dX9_lookAtPath_8 : decode cX9_lookAtPath 8 = .ok (.aload_n 0, 1) := by decide +kernel
theorem dX9_lookAtPath_9 : decode cX9_lookAtPath 9 = .ok (.getfield 22, 3) := by decide +kernel
theorem dX9_lookAtPath_12 : decode cX9_lookAtPath 12 = .ok (.iload_n 3, 1) := by decide +kernel
theorem dX9_lookAtPath_13 : decode cX9_lookAtPath 13 = .ok (.iconst (-1), 1) := by decide +kernel
theorem dX9_lookAtPath_14 : decode cX9_lookAtPath 14 = .ok (.iastore, 1) := by decide +kernel
theorem dX9_lookAtPath_15 : decode cX9_lookAtPath 15 = .ok (.iinc 3 1, 3) := by decide +kernel
theorem dX9_lookAtPath_18 : decode cX9_lookAtPath 18 = .ok (.goto (-16), 3) := by decide +kernel
theorem dX9_lookAtPath_21 : decode cX9_lookAtPath 21 = .ok (.iconst 0, 1) := by decide +kernel
theorem dX9_lookAtPath_22 : decode cX9_lookAtPath 22 = .ok (.istore_n 3, 1) := by decide +kernel
theorem dX9_lookAtPath_23 : decode cX9_lookAtPath 23 = .ok (.iload_n 3, 1) := by decide +kernel
theorem dX9_lookAtPath_24 : decode cX9_lookAtPath 24 = .ok (.aload_n 1, 1) := by decide +kernel
theorem dX9_lookAtPath_25 : decode cX9_lookAtPath 25 = .ok (.getfield 81, 3) := by decide +kernel
theorem dX9_lookAtPath_28 : decode cX9_lookAtPath 28 = .ok (.if_icmp .ge 43, 3) := by decide +kernel
theorem dX9_lookAtPath_31 : decode cX9_lookAtPath 31 = .ok (.aload_n 0, 1) := by decide +kernel
theorem dX9_lookAtPath_32 : decode cX9_lookAtPath 32 = .ok (.getfield 25, 3) := by decide +kernel
theorem dX9_lookAtPath_35 : decode cX9_lookAtPath 35 = .ok (.iload_n 3, 1) := by decide +kernel
theorem dX9_lookAtPath_36 : decode cX9_lookAtPath 36 = .ok (.aload_n 0, 1) := by decide +kernel
theorem dX9_lookAtPath_37 : decode cX9_lookAtPath 37 = .ok (.getfield 18, 3) := by decide +kernel
theorem dX9_lookAtPath_40 : decode cX9_lookAtPath 40 = .ok (.iload_n 3, 1) := by decide +kernel
theorem dX9_lookAtPath_41 : decode cX9_lookAtPath 41 = .ok (.iaload, 1) := by decide +kernel
theorem dX9_lookAtPath_42 : decode cX9_lookAtPath 42 = .ok (.iastore, 1) := by decide +kernel
theorem dX9_lookAtPath_43 : decode cX9_lookAtPath 43 = .ok (.aload_n 0, 1) := by decide +kernel
theorem dX9_lookAtPath_44 : decode cX9_lookAtPath 44 = .ok (.getfield 22, 3) := by decide +kernel
theorem dX9_lookAtPath_47 : decode cX9_lookAtPath 47 = .ok (.aload_n 1, 1) := by decide +kernel
theorem dX9_lookAtPath_48 : decode cX9_lookAtPath 48 = .ok (.getfield 49, 3) := by decide +kernel
theorem dX9_lookAtPath_51 : decode cX9_lookAtPath 51 = .ok (.aload_n 0, 1) := by decide +kernel
theorem dX9_lookAtPath_52 : decode cX9_lookAtPath 52 = .ok (.getfield 18, 3) := by decide +kernel
theorem dX9_lookAtPath_55 : decode cX9_lookAtPath 55 = .ok (.iload_n 3, 1) := by decide +kernel
theorem dX9_lookAtPath_56 : decode cX9_lookAtPath 56 = .ok (.iaload, 1) := by decide +kernel
theorem dX9_lookAtPath_57 : decode cX9_lookAtPath 57 = .ok (.iaload, 1) := by decide +kernel
theorem dX9_lookAtPath_58 : decode cX9_lookAtPath 58 = .ok (.aload_n 0, 1) := by decide +kernel
theorem dX9_lookAtPath_59 : decode cX9_lookAtPath 59 = .ok (.getfield 18, 3) := by decide +kernel
theorem dX9_lookAtPath_62 : decode cX9_lookAtPath 62 = .ok (.iload_n 3, 1) := by decide +kernel
theorem dX9_lookAtPath_63 : decode cX9_lookAtPath 63 = .ok (.iaload, 1) := by decide +kernel
theorem dX9_lookAtPath_64 : decode cX9_lookAtPath 64 = .ok (.iastore, 1) := by decide +kernel
theorem dX9_lookAtPath_65 : decode cX9_lookAtPath 65 = .ok (.iinc 3 1, 3) := by decide +kernel
theorem dX9_lookAtPath_68 : decode cX9_lookAtPath 68 = .ok (.goto (-45), 3) := by decide +kernel
theorem dX9_lookAtPath_71 : decode cX9_lookAtPath 71 = .ok (.aload_n 0, 1) := by decide +kernel
theorem dX9_lookAtPath_72 : decode cX9_lookAtPath 72 = .ok (.aload_n 1, 1) := by decide +kernel
theorem dX9_lookAtPath_73 : decode cX9_lookAtPath 73 = .ok (.getfield 81, 3) := by decide +kernel
theorem dX9_lookAtPath_76 : decode cX9_lookAtPath 76 = .ok (.putfield 32, 3) := by decide +kernel
theorem dX9_lookAtPath_79 : decode cX9_lookAtPath 79 = .ok (.aload_n 0, 1) := by decide +kernel
theorem dX9_lookAtPath_80 : decode cX9_lookAtPath 80 = .ok (.iconst 0, 1) := by decide +kernel
theorem dX9_lookAtPath_81 : decode cX9_lookAtPath 81 = .ok (.putfield 36, 3) := by decide +kernel
theorem dX9_lookAtPath_84 : decode cX9_lookAtPath 84 = .ok (.iconst 0, 1) := by decide +kernel
theorem dX9_lookAtPath_85 : decode cX9_lookAtPath 85 = .ok (.istore_n 3, 1) := by decide +kernel
theorem dX9_lookAtPath_86 : decode cX9_lookAtPath 86 = .ok (.iload_n 3, 1) := by decide +kernel
theorem dX9_lookAtPath_87 : decode cX9_lookAtPath 87 = .ok (.bipush 8, 2) := by decide +kernel
theorem dX9_lookAtPath_89 : decode cX9_lookAtPath 89 = .ok (.if_icmp .ge 41, 3) := by decide +kernel
theorem dX9_lookAtPath_92 : decode cX9_lookAtPath 92 = .ok (.iload_n 3, 1) := by decide +kernel
theorem dX9_lookAtPath_93 : decode cX9_lookAtPath 93 = .ok (.iload_n 2, 1) := by decide +kernel
theorem dX9_lookAtPath_94 : decode cX9_lookAtPath 94 = .ok (.if_icmp .eq 30, 3) := by decide +kernel
theorem dX9_lookAtPath_97 : decode cX9_lookAtPath 97 = .ok (.aload_n 0, 1) := by decide +kernel
theorem dX9_lookAtPath_98 : decode cX9_lookAtPath 98 = .ok (.getfield 22, 3) := by decide +kernel
theorem dX9_lookAtPath_101 : decode cX9_lookAtPath 101 = .ok (.iload_n 3, 1) := by decide +kernel
theorem dX9_lookAtPath_102 : decode cX9_lookAtPath 102 = .ok (.iaload, 1) := by decide +kernel
theorem dX9_lookAtPath_103 : decode cX9_lookAtPath 103 = .ok (.iconst (-1), 1) := by decide +kernel
theorem dX9_lookAtPath_104 : decode cX9_lookAtPath 104 = .ok (.if_icmp .eq 20, 3) := by decide +kernel
theorem dX9_lookAtPath_107 : decode cX9_lookAtPath 107 = .ok (.aload_n 0, 1) := by decide +kernel
theorem dX9_lookAtPath_108 : decode cX9_lookAtPath 108 = .ok (.dup, 1) := by decide +kernel
theorem dX9_lookAtPath_109 : decode cX9_lookAtPath 109 = .ok (.getfield 36, 3) := by decide +kernel
theorem dX9_lookAtPath_112 : decode cX9_lookAtPath 112 = .ok (.iconst 1, 1) := by decide +kernel
theorem dX9_lookAtPath_113 : decode cX9_lookAtPath 113 = .ok (.aload_n 0, 1) := by decide +kernel
theorem dX9_lookAtPath_114 : decode cX9_lookAtPath 114 = .ok (.getfield 22, 3) := by decide +kernel
theorem dX9_lookAtPath_117 : decode cX9_lookAtPath 117 = .ok (.iload_n 3, 1) := by decide +kernel
theorem dX9_lookAtPath_118 : decode cX9_lookAtPath 118 = .ok (.iaload, 1) := by decide +kernel
theorem dX9_lookAtPath_119 : decode cX9_lookAtPath 119 = .ok (.ishl, 1) := by decide +kernel
theorem dX9_lookAtPath_120 : decode cX9_lookAtPath 120 = .ok (.ior, 1) := by decide +kernel
theorem dX9_lookAtPath_121 : decode cX9_lookAtPath 121 = .ok (.putfield 36, 3) := by decide +kernel
theorem dX9_lookAtPath_124 : decode cX9_lookAtPath 124 = .ok (.iinc 3 1, 3) := by decide +kernel
theorem dX9_lookAtPath_127 : decode cX9_lookAtPath 127 = .ok (.goto (-41), 3) := by decide +kernel
theorem dX9_lookAtPath_130 : decode cX9_lookAtPath 130 = .ok (.return_, 1) := by decide +kernel
theorem dX9_lookAtTape_0 : decode cX9_lookAtTape 0 = .ok (.aload_n 1, 1) := by decide +kernel
theorem dX9_lookAtTape_1 : decode cX9_lookAtTape 1 = .ok (.invokevirtual 39, 3) := by decide +kernel
theorem dX9_lookAtTape_4 : decode cX9_lookAtTape 4 = .ok (.istore_n 3, 1) := by decide +kernel
theorem dX9_lookAtTape_5 : decode cX9_lookAtTape 5 = .ok (.iload_n 3, 1) := by decide +kernel
theorem dX9_lookAtTape_6 : decode cX9_lookAtTape 6 = .ok (.ifCond .eq 14, 3) := by decide +kernel
theorem dX9_lookAtTape_9 : decode cX9_lookAtTape 9 = .ok (.aload_n 2, 1) := by decide +kernel
theorem dX9_lookAtTape_10 : decode cX9_lookAtTape 10 = .ok (.getfield 95, 3) := by decide +kernel
theorem dX9_lookAtTape_13 : decode cX9_lookAtTape 13 = .ok (.aload_n 1, 1) := by decide +kernel
theorem dX9_lookAtTape_14 : decode cX9_lookAtTape 14 = .ok (.getfield 81, 3) := by decide +kernel
theorem dX9_lookAtTape_17 : decode cX9_lookAtTape 17 = .ok (.if_icmp .eq 7, 3) := by decide +kernel
theorem dX9_lookAtTape_20 : decode cX9_lookAtTape 20 = .ok (.ldc2_w 100, 3) := by decide +kernel
theorem dX9_lookAtTape_23 : decode cX9_lookAtTape 23 = .ok (.lreturn, 1) := by decide +kernel
theorem dX9_lookAtTape_24 : decode cX9_lookAtTape 24 = .ok (.aload_n 1, 1) := by decide +kernel
theorem dX9_lookAtTape_25 : decode cX9_lookAtTape 25 = .ok (.iload_n 3, 1) := by decide +kernel
theorem dX9_lookAtTape_26 : decode cX9_lookAtTape 26 = .ok (.invokevirtual 78, 3) := by decide +kernel
theorem dX9_lookAtTape_29 : decode cX9_lookAtTape 29 = .ok (.istore 4, 2) := by decide +kernel
theorem dX9_lookAtTape_31 : decode cX9_lookAtTape 31 = .ok (.iconst 1, 1) := by decide +kernel
theorem dX9_lookAtTape_32 : decode cX9_lookAtTape 32 = .ok (.aload_n 1, 1) := by decide +kernel
theorem dX9_lookAtTape_33 : decode cX9_lookAtTape 33 = .ok (.getfield 81, 3) := by decide +kernel
theorem dX9_lookAtTape_36 : decode cX9_lookAtTape 36 = .ok (.ishl, 1) := by decide +kernel
theorem dX9_lookAtTape_37 : decode cX9_lookAtTape 37 = .ok (.iconst 1, 1) := by decide +kernel
theorem dX9_lookAtTape_38 : decode cX9_lookAtTape 38 = .ok (.isub, 1) := by decide +kernel
theorem dX9_lookAtTape_39 : decode cX9_lookAtTape 39 = .ok (.istore 5, 2) := by decide +kernel
theorem dX9_lookAtTape_41 : decode cX9_lookAtTape 41 = .ok (.iconst 0, 1) := by decide +kernel
theorem dX9_lookAtTape_42 : decode cX9_lookAtTape 42 = .ok (.istore 6, 2) := by decide +kernel
theorem dX9_lookAtTape_44 : decode cX9_lookAtTape 44 = .ok (.iload 6, 2) := by decide +kernel
theorem dX9_lookAtTape_46 : decode cX9_lookAtTape 46 = .ok (.aload_n 1, 1) := by decide +kernel
theorem dX9_lookAtTape_47 : decode cX9_lookAtTape 47 = .ok (.getfield 81, 3) := by decide +kernel
theorem dX9_lookAtTape_50 : decode cX9_lookAtTape 50 = .ok (.if_icmp .ge 81, 3) := by decide +kernel
theorem dX9_lookAtTape_53 : decode cX9_lookAtTape 53 = .ok (.aload_n 2, 1) := by decide +kernel
theorem dX9_lookAtTape_54 : decode cX9_lookAtTape 54 = .ok (.iload 6, 2) := by decide +kernel
theorem dX9_lookAtTape_56 : decode cX9_lookAtTape 56 = .ok (.invokevirtual 102, 3) := by decide +kernel
theorem dX9_lookAtTape_59 : decode cX9_lookAtTape 59 = .ok (.istore 7, 2) := by decide +kernel
theorem dX9_lookAtTape_61 : decode cX9_lookAtTape 61 = .ok (.aload_n 1, 1) := by decide +kernel
theorem dX9_lookAtTape_62 : decode cX9_lookAtTape 62 = .ok (.iload 7, 2) := by decide +kernel
theorem dX9_lookAtTape_64 : decode cX9_lookAtTape 64 = .ok (.invokevirtual 105, 3) := by decide +kernel
theorem dX9_lookAtTape_67 : decode cX9_lookAtTape 67 = .ok (.ifCond .eq 25, 3) := by decide +kernel
theorem dX9_lookAtTape_70 : decode cX9_lookAtTape 70 = .ok (.iload 5, 2) := by decide +kernel
theorem dX9_lookAtTape_72 : decode cX9_lookAtTape 72 = .ok (.iload 7, 2) := by decide +kernel
theorem dX9_lookAtTape_74 : decode cX9_lookAtTape 74 = .ok (.invokestatic 88, 3) := by decide +kernel
theorem dX9_lookAtTape_77 : decode cX9_lookAtTape 77 = .ok (.ifCond .eq 15, 3) := by decide +kernel
theorem dX9_lookAtTape_80 : decode cX9_lookAtTape 80 = .ok (.aload_n 1, 1) := by decide +kernel
theorem dX9_lookAtTape_81 : decode cX9_lookAtTape 81 = .ok (.getfield 49, 3) := by decide +kernel
theorem dX9_lookAtTape_84 : decode cX9_lookAtTape 84 = .ok (.iload 7, 2) := by decide +kernel
theorem dX9_lookAtTape_86 : decode cX9_lookAtTape 86 = .ok (.iaload, 1) := by decide +kernel
theorem dX9_lookAtTape_87 : decode cX9_lookAtTape 87 = .ok (.iload 4, 2) := by decide +kernel
theorem dX9_lookAtTape_89 : decode cX9_lookAtTape 89 = .ok (.if_icmp .eq 7, 3) := by decide +kernel
theorem dX9_lookAtTape_92 : decode cX9_lookAtTape 92 = .ok (.ldc2_w 100, 3) := by decide +kernel
theorem dX9_lookAtTape_95 : decode cX9_lookAtTape 95 = .ok (.lreturn, 1) := by decide +kernel
theorem dX9_lookAtTape_96 : decode cX9_lookAtTape 96 = .ok (.aload_n 0, 1) := by decide +kernel
theorem dX9_lookAtTape_97 : decode cX9_lookAtTape 97 = .ok (.getfield 18, 3) := by decide +kernel
theorem dX9_lookAtTape_100 : decode cX9_lookAtTape 100 = .ok (.iload 6, 2) := by decide +kernel
theorem dX9_lookAtTape_102 : decode cX9_lookAtTape 102 = .ok (.iload 7, 2) := by decide +kernel
theorem dX9_lookAtTape_104 : decode cX9_lookAtTape 104 = .ok (.iastore, 1) := by decide +kernel
theorem dX9_lookAtTape_105 : decode cX9_lookAtTape 105 = .ok (.iload 5, 2) := by decide +kernel
theorem dX9_lookAtTape_107 : decode cX9_lookAtTape 107 = .ok (.iconst 1, 1) := by decide +kernel
theorem dX9_lookAtTape_108 : decode cX9_lookAtTape 108 = .ok (.iload 7, 2) := by decide +kernel
theorem dX9_lookAtTape_110 : decode cX9_lookAtTape 110 = .ok (.ishl, 1) := by decide +kernel
theorem dX9_lookAtTape_111 : decode cX9_lookAtTape 111 = .ok (.iconst (-1), 1) := by decide +kernel
theorem dX9_lookAtTape_112 : decode cX9_lookAtTape 112 = .ok (.ixor, 1) := by decide +kernel
theorem dX9_lookAtTape_113 : decode cX9_lookAtTape 113 = .ok (.iand, 1) := by decide +kernel
theorem dX9_lookAtTape_114 : decode cX9_lookAtTape 114 = .ok (.istore 5, 2) := by decide +kernel
theorem dX9_lookAtTape_116 : decode cX9_lookAtTape 116 = .ok (.aload_n 1, 1) := by decide +kernel
theorem dX9_lookAtTape_117 : decode cX9_lookAtTape 117 = .ok (.getfield 52, 3) := by decide +kernel
theorem dX9_lookAtTape_120 : decode cX9_lookAtTape 120 = .ok (.iload 7, 2) := by decide +kernel
theorem dX9_lookAtTape_122 : decode cX9_lookAtTape 122 = .ok (.iaload, 1) := by decide +kernel
theorem dX9_lookAtTape_123 : decode cX9_lookAtTape 123 = .ok (.istore 4, 2) := by decide +kernel
theorem dX9_lookAtTape_125 : decode cX9_lookAtTape 125 = .ok (.iinc 6 1, 3) := by decide +kernel
theorem dX9_lookAtTape_128 : decode cX9_lookAtTape 128 = .ok (.goto (-84), 3) := by decide +kernel
theorem dX9_lookAtTape_131 : decode cX9_lookAtTape 131 = .ok (.iload_n 3, 1) := by decide +kernel
theorem dX9_lookAtTape_132 : decode cX9_lookAtTape 132 = .ok (.iconst 1, 1) := by decide +kernel
theorem dX9_lookAtTape_133 : decode cX9_lookAtTape 133 = .ok (.if_icmp .ne 16, 3) := by decide +kernel
theorem dX9_lookAtTape_136 : decode cX9_lookAtTape 136 = .ok (.aload_n 0, 1) := by decide +kernel
theorem dX9_lookAtTape_137 : decode cX9_lookAtTape 137 = .ok (.getfield 18, 3) := by decide +kernel
theorem dX9_lookAtTape_140 : decode cX9_lookAtTape 140 = .ok (.iconst 0, 1) := by decide +kernel
theorem dX9_lookAtTape_141 : decode cX9_lookAtTape 141 = .ok (.iaload, 1) := by decide +kernel
theorem dX9_lookAtTape_142 : decode cX9_lookAtTape 142 = .ok (.ifCond .eq 7, 3) := by decide +kernel
theorem dX9_lookAtTape_145 : decode cX9_lookAtTape 145 = .ok (.ldc2_w 100, 3) := by decide +kernel
theorem dX9_lookAtTape_148 : decode cX9_lookAtTape 148 = .ok (.lreturn, 1) := by decide +kernel
theorem dX9_lookAtTape_149 : decode cX9_lookAtTape 149 = .ok (.aload_n 0, 1) := by decide +kernel
theorem dX9_lookAtTape_150 : decode cX9_lookAtTape 150 = .ok (.aload_n 1, 1) := by decide +kernel
theorem dX9_lookAtTape_151 : decode cX9_lookAtTape 151 = .ok (.aload_n 1, 1) := by decide +kernel
theorem dX9_lookAtTape_152 : decode cX9_lookAtTape 152 = .ok (.iload_n 3, 1) := by decide +kernel
theorem dX9_lookAtTape_153 : decode cX9_lookAtTape 153 = .ok (.invokevirtual 59, 3) := by decide +kernel
theorem dX9_lookAtTape_156 : decode cX9_lookAtTape 156 = .ok (.invokevirtual 75, 3) := by decide +kernel
theorem dX9_lookAtTape_159 : decode cX9_lookAtTape 159 = .ok (.aload_n 0, 1) := by decide +kernel
theorem dX9_lookAtTape_160 : decode cX9_lookAtTape 160 = .ok (.aload_n 1, 1) := by decide +kernel
theorem dX9_lookAtTape_161 : decode cX9_lookAtTape 161 = .ok (.iload_n 3, 1) := by decide +kernel
theorem dX9_lookAtTape_162 : decode cX9_lookAtTape 162 = .ok (.invokevirtual 109, 3) := by decide +kernel
theorem dX9_lookAtTape_165 : decode cX9_lookAtTape 165 = .ok (.lreturn, 1) := by decide +kernel
theorem dX9_rankOfPath_0 : decode cX9_rankOfPath 0 = .ok (.aload_n 1, 1) := by decide +kernel
theorem dX9_rankOfPath_1 : decode cX9_rankOfPath 1 = .ok (.iload_n 2, 1) := by decide +kernel
theorem dX9_rankOfPath_2 : decode cX9_rankOfPath 2 = .ok (.invokevirtual 59, 3) := by decide +kernel
theorem dX9_rankOfPath_5 : decode cX9_rankOfPath 5 = .ok (.istore_n 3, 1) := by decide +kernel
theorem dX9_rankOfPath_6 : decode cX9_rankOfPath 6 = .ok (.aload_n 1, 1) := by decide +kernel
theorem dX9_rankOfPath_7 : decode cX9_rankOfPath 7 = .ok (.iload_n 2, 1) := by decide +kernel
theorem dX9_rankOfPath_8 : decode cX9_rankOfPath 8 = .ok (.invokevirtual 78, 3) := by decide +kernel
theorem dX9_rankOfPath_11 : decode cX9_rankOfPath 11 = .ok (.istore 4, 2) := by decide +kernel
theorem dX9_rankOfPath_13 : decode cX9_rankOfPath 13 = .ok (.iconst 1, 1) := by decide +kernel
theorem dX9_rankOfPath_14 : decode cX9_rankOfPath 14 = .ok (.aload_n 1, 1) := by decide +kernel
theorem dX9_rankOfPath_15 : decode cX9_rankOfPath 15 = .ok (.getfield 81, 3) := by decide +kernel
theorem dX9_rankOfPath_18 : decode cX9_rankOfPath 18 = .ok (.ishl, 1) := by decide +kernel
theorem dX9_rankOfPath_19 : decode cX9_rankOfPath 19 = .ok (.iconst 1, 1) := by decide +kernel
theorem dX9_rankOfPath_20 : decode cX9_rankOfPath 20 = .ok (.isub, 1) := by decide +kernel
theorem dX9_rankOfPath_21 : decode cX9_rankOfPath 21 = .ok (.istore 5, 2) := by decide +kernel
theorem dX9_rankOfPath_23 : decode cX9_rankOfPath 23 = .ok (.lconst 0, 1) := by decide +kernel
theorem dX9_rankOfPath_24 : decode cX9_rankOfPath 24 = .ok (.lstore 6, 2) := by decide +kernel
theorem dX9_rankOfPath_26 : decode cX9_rankOfPath 26 = .ok (.aload_n 0, 1) := by decide +kernel
theorem dX9_rankOfPath_27 : decode cX9_rankOfPath 27 = .ok (.getfield 12, 3) := by decide +kernel
theorem dX9_rankOfPath_30 : decode cX9_rankOfPath 30 = .ok (.aload_n 1, 1) := by decide +kernel
theorem dX9_rankOfPath_31 : decode cX9_rankOfPath 31 = .ok (.iload 5, 2) := by decide +kernel
theorem dX9_rankOfPath_33 : decode cX9_rankOfPath 33 = .ok (.invokevirtual 45, 3) := by decide +kernel
theorem dX9_rankOfPath_36 : decode cX9_rankOfPath 36 = .ok (.iconst 0, 1) := by decide +kernel
theorem dX9_rankOfPath_37 : decode cX9_rankOfPath 37 = .ok (.istore 8, 2) := by decide +kernel
theorem dX9_rankOfPath_39 : decode cX9_rankOfPath 39 = .ok (.iload 8, 2) := by decide +kernel
theorem dX9_rankOfPath_41 : decode cX9_rankOfPath 41 = .ok (.aload_n 1, 1) := by decide +kernel
theorem dX9_rankOfPath_42 : decode cX9_rankOfPath 42 = .ok (.getfield 81, 3) := by decide +kernel
theorem dX9_rankOfPath_45 : decode cX9_rankOfPath 45 = .ok (.if_icmp .ge 151, 3) := by decide +kernel
theorem dX9_rankOfPath_48 : decode cX9_rankOfPath 48 = .ok (.iconst 0, 1) := by decide +kernel
theorem dX9_rankOfPath_49 : decode cX9_rankOfPath 49 = .ok (.istore 9, 2) := by decide +kernel
theorem dX9_rankOfPath_51 : decode cX9_rankOfPath 51 = .ok (.iload 9, 2) := by decide +kernel
theorem dX9_rankOfPath_53 : decode cX9_rankOfPath 53 = .ok (.aload_n 0, 1) := by decide +kernel
theorem dX9_rankOfPath_54 : decode cX9_rankOfPath 54 = .ok (.getfield 18, 3) := by decide +kernel
theorem dX9_rankOfPath_57 : decode cX9_rankOfPath 57 = .ok (.iload 8, 2) := by decide +kernel
theorem dX9_rankOfPath_59 : decode cX9_rankOfPath 59 = .ok (.iaload, 1) := by decide +kernel
theorem dX9_rankOfPath_60 : decode cX9_rankOfPath 60 = .ok (.if_icmp .ge 78, 3) := by decide +kernel
theorem dX9_rankOfPath_63 : decode cX9_rankOfPath 63 = .ok (.iload 5, 2) := by decide +kernel
theorem dX9_rankOfPath_65 : decode cX9_rankOfPath 65 = .ok (.iload 9, 2) := by decide +kernel
theorem dX9_rankOfPath_67 : decode cX9_rankOfPath 67 = .ok (.invokestatic 88, 3) := by decide +kernel
theorem dX9_rankOfPath_70 : decode cX9_rankOfPath 70 = .ok (.ifCond .eq 62, 3) := by decide +kernel
theorem dX9_rankOfPath_73 : decode cX9_rankOfPath 73 = .ok (.aload_n 1, 1) := by decide +kernel
theorem dX9_rankOfPath_74 : decode cX9_rankOfPath 74 = .ok (.getfield 49, 3) := by decide +kernel
theorem dX9_rankOfPath_77 : decode cX9_rankOfPath 77 = .ok (.iload 9, 2) := by decide +kernel
theorem dX9_rankOfPath_79 : decode cX9_rankOfPath 79 = .ok (.iaload, 1) := by decide +kernel
theorem dX9_rankOfPath_80 : decode cX9_rankOfPath 80 = .ok (.iload 4, 2) := by decide +kernel
theorem dX9_rankOfPath_82 : decode cX9_rankOfPath 82 = .ok (.if_icmp .ne 50, 3) := by decide +kernel
theorem dX9_rankOfPath_85 : decode cX9_rankOfPath 85 = .ok (.aload_n 0, 1) := by decide +kernel
theorem dX9_rankOfPath_86 : decode cX9_rankOfPath 86 = .ok (.getfield 12, 3) := by decide +kernel
theorem dX9_rankOfPath_89 : decode cX9_rankOfPath 89 = .ok (.iload 4, 2) := by decide +kernel
theorem dX9_rankOfPath_91 : decode cX9_rankOfPath 91 = .ok (.aload_n 1, 1) := by decide +kernel
theorem dX9_rankOfPath_92 : decode cX9_rankOfPath 92 = .ok (.getfield 52, 3) := by decide +kernel
theorem dX9_rankOfPath_95 : decode cX9_rankOfPath 95 = .ok (.iload 9, 2) := by decide +kernel
theorem dX9_rankOfPath_97 : decode cX9_rankOfPath 97 = .ok (.iaload, 1) := by decide +kernel
theorem dX9_rankOfPath_98 : decode cX9_rankOfPath 98 = .ok (.iconst (-1), 1) := by decide +kernel
theorem dX9_rankOfPath_99 : decode cX9_rankOfPath 99 = .ok (.invokevirtual 55, 3) := by decide +kernel
theorem dX9_rankOfPath_102 : decode cX9_rankOfPath 102 = .ok (.lload 6, 2) := by decide +kernel
theorem dX9_rankOfPath_104 : decode cX9_rankOfPath 104 = .ok (.aload_n 0, 1) := by decide +kernel
theorem dX9_rankOfPath_105 : decode cX9_rankOfPath 105 = .ok (.getfield 12, 3) := by decide +kernel
theorem dX9_rankOfPath_108 : decode cX9_rankOfPath 108 = .ok (.iload_n 3, 1) := by decide +kernel
theorem dX9_rankOfPath_109 : decode cX9_rankOfPath 109 = .ok (.invokevirtual 63, 3) := by decide +kernel
theorem dX9_rankOfPath_112 : decode cX9_rankOfPath 112 = .ok (.ladd, 1) := by decide +kernel
theorem dX9_rankOfPath_113 : decode cX9_rankOfPath 113 = .ok (.lstore 6, 2) := by decide +kernel
theorem dX9_rankOfPath_115 : decode cX9_rankOfPath 115 = .ok (.aload_n 0, 1) := by decide +kernel
theorem dX9_rankOfPath_116 : decode cX9_rankOfPath 116 = .ok (.getfield 12, 3) := by decide +kernel
theorem dX9_rankOfPath_119 : decode cX9_rankOfPath 119 = .ok (.iload 4, 2) := by decide +kernel
theorem dX9_rankOfPath_121 : decode cX9_rankOfPath 121 = .ok (.aload_n 1, 1) := by decide +kernel
theorem dX9_rankOfPath_122 : decode cX9_rankOfPath 122 = .ok (.getfield 52, 3) := by decide +kernel
theorem dX9_rankOfPath_125 : decode cX9_rankOfPath 125 = .ok (.iload 9, 2) := by decide +kernel
theorem dX9_rankOfPath_127 : decode cX9_rankOfPath 127 = .ok (.iaload, 1) := by decide +kernel
theorem dX9_rankOfPath_128 : decode cX9_rankOfPath 128 = .ok (.iconst 1, 1) := by decide +kernel
theorem dX9_rankOfPath_129 : decode cX9_rankOfPath 129 = .ok (.invokevirtual 55, 3) := by decide +kernel
theorem dX9_rankOfPath_132 : decode cX9_rankOfPath 132 = .ok (.iinc 9 1, 3) := by decide +kernel
theorem dX9_rankOfPath_135 : decode cX9_rankOfPath 135 = .ok (.goto (-84), 3) := by decide +kernel
theorem dX9_rankOfPath_138 : decode cX9_rankOfPath 138 = .ok (.aload_n 0, 1) := by decide +kernel
theorem dX9_rankOfPath_139 : decode cX9_rankOfPath 139 = .ok (.getfield 12, 3) := by decide +kernel
theorem dX9_rankOfPath_142 : decode cX9_rankOfPath 142 = .ok (.iload 4, 2) := by decide +kernel
theorem dX9_rankOfPath_144 : decode cX9_rankOfPath 144 = .ok (.aload_n 1, 1) := by decide +kernel
theorem dX9_rankOfPath_145 : decode cX9_rankOfPath 145 = .ok (.getfield 52, 3) := by decide +kernel
theorem dX9_rankOfPath_148 : decode cX9_rankOfPath 148 = .ok (.aload_n 0, 1) := by decide +kernel
theorem dX9_rankOfPath_149 : decode cX9_rankOfPath 149 = .ok (.getfield 18, 3) := by decide +kernel
theorem dX9_rankOfPath_152 : decode cX9_rankOfPath 152 = .ok (.iload 8, 2) := by decide +kernel
theorem dX9_rankOfPath_154 : decode cX9_rankOfPath 154 = .ok (.iaload, 1) := by decide +kernel
theorem dX9_rankOfPath_155 : decode cX9_rankOfPath 155 = .ok (.iaload, 1) := by decide +kernel
theorem dX9_rankOfPath_156 : decode cX9_rankOfPath 156 = .ok (.iconst (-1), 1) := by decide +kernel
theorem dX9_rankOfPath_157 : decode cX9_rankOfPath 157 = .ok (.invokevirtual 55, 3) := by decide +kernel
theorem dX9_rankOfPath_160 : decode cX9_rankOfPath 160 = .ok (.iload 5, 2) := by decide +kernel
theorem dX9_rankOfPath_162 : decode cX9_rankOfPath 162 = .ok (.iconst 1, 1) := by decide +kernel
theorem dX9_rankOfPath_163 : decode cX9_rankOfPath 163 = .ok (.aload_n 0, 1) := by decide +kernel
theorem dX9_rankOfPath_164 : decode cX9_rankOfPath 164 = .ok (.getfield 18, 3) := by decide +kernel
theorem dX9_rankOfPath_167 : decode cX9_rankOfPath 167 = .ok (.iload 8, 2) := by decide +kernel
theorem dX9_rankOfPath_169 : decode cX9_rankOfPath 169 = .ok (.iaload, 1) := by decide +kernel
theorem dX9_rankOfPath_170 : decode cX9_rankOfPath 170 = .ok (.ishl, 1) := by decide +kernel
theorem dX9_rankOfPath_171 : decode cX9_rankOfPath 171 = .ok (.iconst (-1), 1) := by decide +kernel
theorem dX9_rankOfPath_172 : decode cX9_rankOfPath 172 = .ok (.ixor, 1) := by decide +kernel
theorem dX9_rankOfPath_173 : decode cX9_rankOfPath 173 = .ok (.iand, 1) := by decide +kernel
theorem dX9_rankOfPath_174 : decode cX9_rankOfPath 174 = .ok (.istore 5, 2) := by decide +kernel
theorem dX9_rankOfPath_176 : decode cX9_rankOfPath 176 = .ok (.aload_n 1, 1) := by decide +kernel
theorem dX9_rankOfPath_177 : decode cX9_rankOfPath 177 = .ok (.getfield 52, 3) := by decide +kernel
theorem dX9_rankOfPath_180 : decode cX9_rankOfPath 180 = .ok (.aload_n 0, 1) := by decide +kernel
theorem dX9_rankOfPath_181 : decode cX9_rankOfPath 181 = .ok (.getfield 18, 3) := by decide +kernel
theorem dX9_rankOfPath_184 : decode cX9_rankOfPath 184 = .ok (.iload 8, 2) := by decide +kernel
theorem dX9_rankOfPath_186 : decode cX9_rankOfPath 186 = .ok (.iaload, 1) := by decide +kernel
theorem dX9_rankOfPath_187 : decode cX9_rankOfPath 187 = .ok (.iaload, 1) := by decide +kernel
theorem dX9_rankOfPath_188 : decode cX9_rankOfPath 188 = .ok (.istore 4, 2) := by decide +kernel
theorem dX9_rankOfPath_190 : decode cX9_rankOfPath 190 = .ok (.iinc 8 1, 3) := by decide +kernel
theorem dX9_rankOfPath_193 : decode cX9_rankOfPath 193 = .ok (.goto (-154), 3) := by decide +kernel
theorem dX9_rankOfPath_196 : decode cX9_rankOfPath 196 = .ok (.lload 6, 2) := by decide +kernel
theorem dX9_rankOfPath_198 : decode cX9_rankOfPath 198 = .ok (.lreturn, 1) := by decide +kernel
theorem dX9_countLeavingBy_0 : decode cX9_countLeavingBy 0 = .ok (.aload_n 1, 1) := by decide +kernel
theorem dX9_countLeavingBy_1 : decode cX9_countLeavingBy 1 = .ok (.invokevirtual 39, 3) := by decide +kernel
theorem dX9_countLeavingBy_4 : decode cX9_countLeavingBy 4 = .ok (.istore_n 3, 1) := by decide +kernel
theorem dX9_countLeavingBy_5 : decode cX9_countLeavingBy 5 = .ok (.iload_n 3, 1) := by decide +kernel
theorem dX9_countLeavingBy_6 : decode cX9_countLeavingBy 6 = .ok (.ifCond .eq 17, 3) := by decide +kernel
theorem dX9_countLeavingBy_9 : decode cX9_countLeavingBy 9 = .ok (.aload_n 0, 1) := by decide +kernel
theorem dX9_countLeavingBy_10 : decode cX9_countLeavingBy 10 = .ok (.aload_n 1, 1) := by decide +kernel
theorem dX9_countLeavingBy_11 : decode cX9_countLeavingBy 11 = .ok (.aload_n 1, 1) := by decide +kernel
theorem dX9_countLeavingBy_12 : decode cX9_countLeavingBy 12 = .ok (.iload_n 3, 1) := by decide +kernel
theorem dX9_countLeavingBy_13 : decode cX9_countLeavingBy 13 = .ok (.invokevirtual 59, 3) := by decide +kernel
theorem dX9_countLeavingBy_16 : decode cX9_countLeavingBy 16 = .ok (.iload_n 2, 1) := by decide +kernel
theorem dX9_countLeavingBy_17 : decode cX9_countLeavingBy 17 = .ok (.invokevirtual 113, 3) := by decide +kernel
theorem dX9_countLeavingBy_20 : decode cX9_countLeavingBy 20 = .ok (.ifCond .ne 5, 3) := by decide +kernel
theorem dX9_countLeavingBy_23 : decode cX9_countLeavingBy 23 = .ok (.lconst 0, 1) := by decide +kernel
theorem dX9_countLeavingBy_24 : decode cX9_countLeavingBy 24 = .ok (.lreturn, 1) := by decide +kernel
theorem dX9_countLeavingBy_25 : decode cX9_countLeavingBy 25 = .ok (.aload_n 1, 1) := by decide +kernel
theorem dX9_countLeavingBy_26 : decode cX9_countLeavingBy 26 = .ok (.iload_n 3, 1) := by decide +kernel
theorem dX9_countLeavingBy_27 : decode cX9_countLeavingBy 27 = .ok (.invokevirtual 59, 3) := by decide +kernel
theorem dX9_countLeavingBy_30 : decode cX9_countLeavingBy 30 = .ok (.istore 4, 2) := by decide +kernel
theorem dX9_countLeavingBy_32 : decode cX9_countLeavingBy 32 = .ok (.lconst 1, 1) := by decide +kernel
theorem dX9_countLeavingBy_33 : decode cX9_countLeavingBy 33 = .ok (.lstore 5, 2) := by decide +kernel
theorem dX9_countLeavingBy_35 : decode cX9_countLeavingBy 35 = .ok (.iconst 0, 1) := by decide +kernel
theorem dX9_countLeavingBy_36 : decode cX9_countLeavingBy 36 = .ok (.istore 7, 2) := by decide +kernel
theorem dX9_countLeavingBy_38 : decode cX9_countLeavingBy 38 = .ok (.iload 7, 2) := by decide +kernel
theorem dX9_countLeavingBy_40 : decode cX9_countLeavingBy 40 = .ok (.aload_n 1, 1) := by decide +kernel
theorem dX9_countLeavingBy_41 : decode cX9_countLeavingBy 41 = .ok (.getfield 117, 3) := by decide +kernel
theorem dX9_countLeavingBy_44 : decode cX9_countLeavingBy 44 = .ok (.if_icmp .ge 58, 3) := by decide +kernel
theorem dX9_countLeavingBy_47 : decode cX9_countLeavingBy 47 = .ok (.aload_n 1, 1) := by decide +kernel
theorem dX9_countLeavingBy_48 : decode cX9_countLeavingBy 48 = .ok (.iload 7, 2) := by decide +kernel
theorem dX9_countLeavingBy_50 : decode cX9_countLeavingBy 50 = .ok (.invokevirtual 120, 3) := by decide +kernel
theorem dX9_countLeavingBy_53 : decode cX9_countLeavingBy 53 = .ok (.istore 8, 2) := by decide +kernel
theorem dX9_countLeavingBy_55 : decode cX9_countLeavingBy 55 = .ok (.iload 7, 2) := by decide +kernel
theorem dX9_countLeavingBy_57 : decode cX9_countLeavingBy 57 = .ok (.iload 4, 2) := by decide +kernel
theorem dX9_countLeavingBy_59 : decode cX9_countLeavingBy 59 = .ok (.if_icmp .ne 8, 3) := by decide +kernel
theorem dX9_countLeavingBy_62 : decode cX9_countLeavingBy 62 = .ok (.iload_n 3, 1) := by decide +kernel
theorem dX9_countLeavingBy_63 : decode cX9_countLeavingBy 63 = .ok (.iconst 1, 1) := by decide +kernel
theorem dX9_countLeavingBy_64 : decode cX9_countLeavingBy 64 = .ok (.if_icmp .ne 7, 3) := by decide +kernel
theorem dX9_countLeavingBy_67 : decode cX9_countLeavingBy 67 = .ok (.iconst 1, 1) := by decide +kernel
theorem dX9_countLeavingBy_68 : decode cX9_countLeavingBy 68 = .ok (.goto 4, 3) := by decide +kernel
theorem dX9_countLeavingBy_71 : decode cX9_countLeavingBy 71 = .ok (.iconst 0, 1) := by decide +kernel
theorem dX9_countLeavingBy_72 : decode cX9_countLeavingBy 72 = .ok (.istore 9, 2) := by decide +kernel
theorem dX9_countLeavingBy_74 : decode cX9_countLeavingBy 74 = .ok (.lload 5, 2) := by decide +kernel
theorem dX9_countLeavingBy_76 : decode cX9_countLeavingBy 76 = .ok (.iload 9, 2) := by decide +kernel
theorem dX9_countLeavingBy_78 : decode cX9_countLeavingBy 78 = .ok (.ifCond .eq 10, 3) := by decide +kernel
theorem dX9_countLeavingBy_81 : decode cX9_countLeavingBy 81 = .ok (.iload 8, 2) := by decide +kernel
theorem dX9_countLeavingBy_83 : decode cX9_countLeavingBy 83 = .ok (.iconst 1, 1) := by decide +kernel
theorem dX9_countLeavingBy_84 : decode cX9_countLeavingBy 84 = .ok (.isub, 1) := by decide +kernel
theorem dX9_countLeavingBy_85 : decode cX9_countLeavingBy 85 = .ok (.goto 5, 3) := by decide +kernel
theorem dX9_countLeavingBy_88 : decode cX9_countLeavingBy 88 = .ok (.iload 8, 2) := by decide +kernel
theorem dX9_countLeavingBy_90 : decode cX9_countLeavingBy 90 = .ok (.invokestatic 123, 3) := by decide +kernel
theorem dX9_countLeavingBy_93 : decode cX9_countLeavingBy 93 = .ok (.lmul, 1) := by decide +kernel
theorem dX9_countLeavingBy_94 : decode cX9_countLeavingBy 94 = .ok (.lstore 5, 2) := by decide +kernel
theorem dX9_countLeavingBy_96 : decode cX9_countLeavingBy 96 = .ok (.iinc 7 1, 3) := by decide +kernel
theorem dX9_countLeavingBy_99 : decode cX9_countLeavingBy 99 = .ok (.goto (-61), 3) := by decide +kernel
theorem dX9_countLeavingBy_102 : decode cX9_countLeavingBy 102 = .ok (.lload 5, 2) := by decide +kernel
theorem dX9_countLeavingBy_104 : decode cX9_countLeavingBy 104 = .ok (.lreturn, 1) := by decide +kernel
theorem dX9_firstLeavingBy_0 : decode cX9_firstLeavingBy 0 = .ok (.aload_n 1, 1) := by decide +kernel
theorem dX9_firstLeavingBy_1 : decode cX9_firstLeavingBy 1 = .ok (.invokevirtual 39, 3) := by decide +kernel
theorem dX9_firstLeavingBy_4 : decode cX9_firstLeavingBy 4 = .ok (.istore_n 3, 1) := by decide +kernel
theorem dX9_firstLeavingBy_5 : decode cX9_firstLeavingBy 5 = .ok (.iload_n 3, 1) := by decide +kernel
theorem dX9_firstLeavingBy_6 : decode cX9_firstLeavingBy 6 = .ok (.ifCond .eq 17, 3) := by decide +kernel
theorem dX9_firstLeavingBy_9 : decode cX9_firstLeavingBy 9 = .ok (.aload_n 0, 1) := by decide +kernel
theorem dX9_firstLeavingBy_10 : decode cX9_firstLeavingBy 10 = .ok (.aload_n 1, 1) := by decide +kernel
theorem dX9_firstLeavingBy_11 : decode cX9_firstLeavingBy 11 = .ok (.aload_n 1, 1) := by decide +kernel
theorem dX9_firstLeavingBy_12 : decode cX9_firstLeavingBy 12 = .ok (.iload_n 3, 1) := by decide +kernel
theorem dX9_firstLeavingBy_13 : decode cX9_firstLeavingBy 13 = .ok (.invokevirtual 59, 3) := by decide +kernel
theorem dX9_firstLeavingBy_16 : decode cX9_firstLeavingBy 16 = .ok (.iload_n 2, 1) := by decide +kernel
theorem dX9_firstLeavingBy_17 : decode cX9_firstLeavingBy 17 = .ok (.invokevirtual 113, 3) := by decide +kernel
theorem dX9_firstLeavingBy_20 : decode cX9_firstLeavingBy 20 = .ok (.ifCond .ne 7, 3) := by decide +kernel
theorem dX9_firstLeavingBy_23 : decode cX9_firstLeavingBy 23 = .ok (.ldc2_w 100, 3) := by decide +kernel
theorem dX9_firstLeavingBy_26 : decode cX9_firstLeavingBy 26 = .ok (.lreturn, 1) := by decide +kernel
theorem dX9_firstLeavingBy_27 : decode cX9_firstLeavingBy 27 = .ok (.aload_n 1, 1) := by decide +kernel
theorem dX9_firstLeavingBy_28 : decode cX9_firstLeavingBy 28 = .ok (.iload_n 3, 1) := by decide +kernel
theorem dX9_firstLeavingBy_29 : decode cX9_firstLeavingBy 29 = .ok (.invokevirtual 78, 3) := by decide +kernel
theorem dX9_firstLeavingBy_32 : decode cX9_firstLeavingBy 32 = .ok (.istore 4, 2) := by decide +kernel
theorem dX9_firstLeavingBy_34 : decode cX9_firstLeavingBy 34 = .ok (.iconst 1, 1) := by decide +kernel
theorem dX9_firstLeavingBy_35 : decode cX9_firstLeavingBy 35 = .ok (.aload_n 1, 1) := by decide +kernel
theorem dX9_firstLeavingBy_36 : decode cX9_firstLeavingBy 36 = .ok (.getfield 81, 3) := by decide +kernel
theorem dX9_firstLeavingBy_39 : decode cX9_firstLeavingBy 39 = .ok (.ishl, 1) := by decide +kernel
theorem dX9_firstLeavingBy_40 : decode cX9_firstLeavingBy 40 = .ok (.iconst 1, 1) := by decide +kernel
theorem dX9_firstLeavingBy_41 : decode cX9_firstLeavingBy 41 = .ok (.isub, 1) := by decide +kernel
theorem dX9_firstLeavingBy_42 : decode cX9_firstLeavingBy 42 = .ok (.istore 5, 2) := by decide +kernel
theorem dX9_firstLeavingBy_44 : decode cX9_firstLeavingBy 44 = .ok (.iconst 0, 1) := by decide +kernel
theorem dX9_firstLeavingBy_45 : decode cX9_firstLeavingBy 45 = .ok (.istore 6, 2) := by decide +kernel
theorem dX9_firstLeavingBy_47 : decode cX9_firstLeavingBy 47 = .ok (.iload 6, 2) := by decide +kernel
theorem dX9_firstLeavingBy_49 : decode cX9_firstLeavingBy 49 = .ok (.aload_n 1, 1) := by decide +kernel
theorem dX9_firstLeavingBy_50 : decode cX9_firstLeavingBy 50 = .ok (.getfield 81, 3) := by decide +kernel
theorem dX9_firstLeavingBy_53 : decode cX9_firstLeavingBy 53 = .ok (.if_icmp .ge 59, 3) := by decide +kernel
theorem dX9_firstLeavingBy_56 : decode cX9_firstLeavingBy 56 = .ok (.aload_n 0, 1) := by decide +kernel
theorem dX9_firstLeavingBy_57 : decode cX9_firstLeavingBy 57 = .ok (.aload_n 1, 1) := by decide +kernel
theorem dX9_firstLeavingBy_58 : decode cX9_firstLeavingBy 58 = .ok (.iload 4, 2) := by decide +kernel
theorem dX9_firstLeavingBy_60 : decode cX9_firstLeavingBy 60 = .ok (.iload 5, 2) := by decide +kernel
theorem dX9_firstLeavingBy_62 : decode cX9_firstLeavingBy 62 = .ok (.invokevirtual 126, 3) := by decide +kernel
theorem dX9_firstLeavingBy_65 : decode cX9_firstLeavingBy 65 = .ok (.istore 7, 2) := by decide +kernel
theorem dX9_firstLeavingBy_67 : decode cX9_firstLeavingBy 67 = .ok (.iload 7, 2) := by decide +kernel
theorem dX9_firstLeavingBy_69 : decode cX9_firstLeavingBy 69 = .ok (.iconst (-1), 1) := by decide +kernel
theorem dX9_firstLeavingBy_70 : decode cX9_firstLeavingBy 70 = .ok (.if_icmp .ne 7, 3) := by decide +kernel
theorem dX9_firstLeavingBy_73 : decode cX9_firstLeavingBy 73 = .ok (.ldc2_w 100, 3) := by decide +kernel
theorem dX9_firstLeavingBy_76 : decode cX9_firstLeavingBy 76 = .ok (.lreturn, 1) := by decide +kernel
theorem dX9_firstLeavingBy_77 : decode cX9_firstLeavingBy 77 = .ok (.aload_n 0, 1) := by decide +kernel
theorem dX9_firstLeavingBy_78 : decode cX9_firstLeavingBy 78 = .ok (.getfield 18, 3) := by decide +kernel
theorem dX9_firstLeavingBy_81 : decode cX9_firstLeavingBy 81 = .ok (.iload 6, 2) := by decide +kernel
theorem dX9_firstLeavingBy_83 : decode cX9_firstLeavingBy 83 = .ok (.iload 7, 2) := by decide +kernel
theorem dX9_firstLeavingBy_85 : decode cX9_firstLeavingBy 85 = .ok (.iastore, 1) := by decide +kernel
theorem dX9_firstLeavingBy_86 : decode cX9_firstLeavingBy 86 = .ok (.iload 5, 2) := by decide +kernel
theorem dX9_firstLeavingBy_88 : decode cX9_firstLeavingBy 88 = .ok (.iconst 1, 1) := by decide +kernel
theorem dX9_firstLeavingBy_89 : decode cX9_firstLeavingBy 89 = .ok (.iload 7, 2) := by decide +kernel
theorem dX9_firstLeavingBy_91 : decode cX9_firstLeavingBy 91 = .ok (.ishl, 1) := by decide +kernel
theorem dX9_firstLeavingBy_92 : decode cX9_firstLeavingBy 92 = .ok (.iconst (-1), 1) := by decide +kernel
theorem dX9_firstLeavingBy_93 : decode cX9_firstLeavingBy 93 = .ok (.ixor, 1) := by decide +kernel
theorem dX9_firstLeavingBy_94 : decode cX9_firstLeavingBy 94 = .ok (.iand, 1) := by decide +kernel
theorem dX9_firstLeavingBy_95 : decode cX9_firstLeavingBy 95 = .ok (.istore 5, 2) := by decide +kernel
theorem dX9_firstLeavingBy_97 : decode cX9_firstLeavingBy 97 = .ok (.aload_n 1, 1) := by decide +kernel
theorem dX9_firstLeavingBy_98 : decode cX9_firstLeavingBy 98 = .ok (.getfield 52, 3) := by decide +kernel
theorem dX9_firstLeavingBy_101 : decode cX9_firstLeavingBy 101 = .ok (.iload 7, 2) := by decide +kernel
theorem dX9_firstLeavingBy_103 : decode cX9_firstLeavingBy 103 = .ok (.iaload, 1) := by decide +kernel
theorem dX9_firstLeavingBy_104 : decode cX9_firstLeavingBy 104 = .ok (.istore 4, 2) := by decide +kernel
theorem dX9_firstLeavingBy_106 : decode cX9_firstLeavingBy 106 = .ok (.iinc 6 1, 3) := by decide +kernel
theorem dX9_firstLeavingBy_109 : decode cX9_firstLeavingBy 109 = .ok (.goto (-62), 3) := by decide +kernel
theorem dX9_firstLeavingBy_112 : decode cX9_firstLeavingBy 112 = .ok (.aload_n 0, 1) := by decide +kernel
theorem dX9_firstLeavingBy_113 : decode cX9_firstLeavingBy 113 = .ok (.aload_n 1, 1) := by decide +kernel
theorem dX9_firstLeavingBy_114 : decode cX9_firstLeavingBy 114 = .ok (.iload_n 3, 1) := by decide +kernel
theorem dX9_firstLeavingBy_115 : decode cX9_firstLeavingBy 115 = .ok (.invokevirtual 109, 3) := by decide +kernel
theorem dX9_firstLeavingBy_118 : decode cX9_firstLeavingBy 118 = .ok (.lreturn, 1) := by decide +kernel
theorem dX9_leastFree_0 : decode cX9_leastFree 0 = .ok (.iconst 0, 1) := by decide +kernel
theorem dX9_leastFree_1 : decode cX9_leastFree 1 = .ok (.istore 4, 2) := by decide +kernel
theorem dX9_leastFree_3 : decode cX9_leastFree 3 = .ok (.iload 4, 2) := by decide +kernel
theorem dX9_leastFree_5 : decode cX9_leastFree 5 = .ok (.aload_n 1, 1) := by decide +kernel
theorem dX9_leastFree_6 : decode cX9_leastFree 6 = .ok (.getfield 81, 3) := by decide +kernel
theorem dX9_leastFree_9 : decode cX9_leastFree 9 = .ok (.if_icmp .ge 43, 3) := by decide +kernel
theorem dX9_leastFree_12 : decode cX9_leastFree 12 = .ok (.iload_n 3, 1) := by decide +kernel
theorem dX9_leastFree_13 : decode cX9_leastFree 13 = .ok (.iload 4, 2) := by decide +kernel
theorem dX9_leastFree_15 : decode cX9_leastFree 15 = .ok (.invokestatic 88, 3) := by decide +kernel
theorem dX9_leastFree_18 : decode cX9_leastFree 18 = .ok (.ifCond .eq 28, 3) := by decide +kernel
theorem dX9_leastFree_21 : decode cX9_leastFree 21 = .ok (.aload_n 1, 1) := by decide +kernel
theorem dX9_leastFree_22 : decode cX9_leastFree 22 = .ok (.getfield 49, 3) := by decide +kernel
theorem dX9_leastFree_25 : decode cX9_leastFree 25 = .ok (.iload 4, 2) := by decide +kernel
theorem dX9_leastFree_27 : decode cX9_leastFree 27 = .ok (.iaload, 1) := by decide +kernel
theorem dX9_leastFree_28 : decode cX9_leastFree 28 = .ok (.iload_n 2, 1) := by decide +kernel
theorem dX9_leastFree_29 : decode cX9_leastFree 29 = .ok (.if_icmp .ne 17, 3) := by decide +kernel
theorem dX9_leastFree_32 : decode cX9_leastFree 32 = .ok (.aload_n 0, 1) := by decide +kernel
theorem dX9_leastFree_33 : decode cX9_leastFree 33 = .ok (.getfield 22, 3) := by decide +kernel
theorem dX9_leastFree_36 : decode cX9_leastFree 36 = .ok (.iload_n 2, 1) := by decide +kernel
theorem dX9_leastFree_37 : decode cX9_leastFree 37 = .ok (.iaload, 1) := by decide +kernel
theorem dX9_leastFree_38 : decode cX9_leastFree 38 = .ok (.iload 4, 2) := by decide +kernel
theorem dX9_leastFree_40 : decode cX9_leastFree 40 = .ok (.if_icmp .eq 6, 3) := by decide +kernel
theorem dX9_leastFree_43 : decode cX9_leastFree 43 = .ok (.iload 4, 2) := by decide +kernel
theorem dX9_leastFree_45 : decode cX9_leastFree 45 = .ok (.ireturn, 1) := by decide +kernel
theorem dX9_leastFree_46 : decode cX9_leastFree 46 = .ok (.iinc 4 1, 3) := by decide +kernel
theorem dX9_leastFree_49 : decode cX9_leastFree 49 = .ok (.goto (-46), 3) := by decide +kernel
theorem dX9_leastFree_52 : decode cX9_leastFree 52 = .ok (.aload_n 0, 1) := by decide +kernel
theorem dX9_leastFree_53 : decode cX9_leastFree 53 = .ok (.getfield 22, 3) := by decide +kernel
theorem dX9_leastFree_56 : decode cX9_leastFree 56 = .ok (.iload_n 2, 1) := by decide +kernel
theorem dX9_leastFree_57 : decode cX9_leastFree 57 = .ok (.iaload, 1) := by decide +kernel
theorem dX9_leastFree_58 : decode cX9_leastFree 58 = .ok (.istore 4, 2) := by decide +kernel
theorem dX9_leastFree_60 : decode cX9_leastFree 60 = .ok (.iload 4, 2) := by decide +kernel
theorem dX9_leastFree_62 : decode cX9_leastFree 62 = .ok (.iconst (-1), 1) := by decide +kernel
theorem dX9_leastFree_63 : decode cX9_leastFree 63 = .ok (.if_icmp .eq 17, 3) := by decide +kernel
theorem dX9_leastFree_66 : decode cX9_leastFree 66 = .ok (.iload_n 3, 1) := by decide +kernel
theorem dX9_leastFree_67 : decode cX9_leastFree 67 = .ok (.iload 4, 2) := by decide +kernel
theorem dX9_leastFree_69 : decode cX9_leastFree 69 = .ok (.invokestatic 88, 3) := by decide +kernel
theorem dX9_leastFree_72 : decode cX9_leastFree 72 = .ok (.ifCond .eq 8, 3) := by decide +kernel
theorem dX9_leastFree_75 : decode cX9_leastFree 75 = .ok (.iload 4, 2) := by decide +kernel
theorem dX9_leastFree_77 : decode cX9_leastFree 77 = .ok (.goto 4, 3) := by decide +kernel
theorem dX9_leastFree_80 : decode cX9_leastFree 80 = .ok (.iconst (-1), 1) := by decide +kernel
theorem dX9_leastFree_81 : decode cX9_leastFree 81 = .ok (.ireturn, 1) := by decide +kernel
theorem dX9_takeLasts_0 : decode cX9_takeLasts 0 = .ok (.iconst 0, 1) := by decide +kernel
theorem dX9_takeLasts_1 : decode cX9_takeLasts 1 = .ok (.istore 4, 2) := by decide +kernel
theorem dX9_takeLasts_3 : decode cX9_takeLasts 3 = .ok (.iload 4, 2) := by decide +kernel
theorem dX9_takeLasts_5 : decode cX9_takeLasts 5 = .ok (.bipush 8, 2) := by decide +kernel
theorem dX9_takeLasts_7 : decode cX9_takeLasts 7 = .ok (.if_icmp .ge 17, 3) := by decide +kernel
theorem dX9_takeLasts_10 : decode cX9_takeLasts 10 = .ok (.aload_n 0, 1) := by decide +kernel
theorem dX9_takeLasts_11 : decode cX9_takeLasts 11 = .ok (.getfield 22, 3) := by decide +kernel
theorem dX9_takeLasts_14 : decode cX9_takeLasts 14 = .ok (.iload 4, 2) := by decide +kernel
theorem dX9_takeLasts_16 : decode cX9_takeLasts 16 = .ok (.iconst (-1), 1) := by decide +kernel
theorem dX9_takeLasts_17 : decode cX9_takeLasts 17 = .ok (.iastore, 1) := by decide +kernel
theorem dX9_takeLasts_18 : decode cX9_takeLasts 18 = .ok (.iinc 4 1, 3) := by decide +kernel
theorem dX9_takeLasts_21 : decode cX9_takeLasts 21 = .ok (.goto (-18), 3) := by decide +kernel
theorem dX9_takeLasts_24 : decode cX9_takeLasts 24 = .ok (.iconst 0, 1) := by decide +kernel
theorem dX9_takeLasts_25 : decode cX9_takeLasts 25 = .ok (.istore 4, 2) := by decide +kernel
theorem dX9_takeLasts_27 : decode cX9_takeLasts 27 = .ok (.iload 4, 2) := by decide +kernel
theorem dX9_takeLasts_29 : decode cX9_takeLasts 29 = .ok (.bipush 32, 2) := by decide +kernel
theorem dX9_takeLasts_31 : decode cX9_takeLasts 31 = .ok (.if_icmp .ge 73, 3) := by decide +kernel
theorem dX9_takeLasts_34 : decode cX9_takeLasts 34 = .ok (.iload_n 3, 1) := by decide +kernel
theorem dX9_takeLasts_35 : decode cX9_takeLasts 35 = .ok (.iload 4, 2) := by decide +kernel
theorem dX9_takeLasts_37 : decode cX9_takeLasts 37 = .ok (.invokestatic 88, 3) := by decide +kernel
theorem dX9_takeLasts_40 : decode cX9_takeLasts 40 = .ok (.ifCond .ne 6, 3) := by decide +kernel
theorem dX9_takeLasts_43 : decode cX9_takeLasts 43 = .ok (.goto 55, 3) := by decide +kernel
theorem dX9_takeLasts_46 : decode cX9_takeLasts 46 = .ok (.aload_n 1, 1) := by decide +kernel
theorem dX9_takeLasts_47 : decode cX9_takeLasts 47 = .ok (.iload 4, 2) := by decide +kernel
theorem dX9_takeLasts_49 : decode cX9_takeLasts 49 = .ok (.invokevirtual 105, 3) := by decide +kernel
theorem dX9_takeLasts_52 : decode cX9_takeLasts 52 = .ok (.ifCond .eq 30, 3) := by decide +kernel
theorem dX9_takeLasts_55 : decode cX9_takeLasts 55 = .ok (.aload_n 1, 1) := by decide +kernel
theorem dX9_takeLasts_56 : decode cX9_takeLasts 56 = .ok (.getfield 49, 3) := by decide +kernel
theorem dX9_takeLasts_59 : decode cX9_takeLasts 59 = .ok (.iload 4, 2) := by decide +kernel
theorem dX9_takeLasts_61 : decode cX9_takeLasts 61 = .ok (.iaload, 1) := by decide +kernel
theorem dX9_takeLasts_62 : decode cX9_takeLasts 62 = .ok (.iload_n 2, 1) := by decide +kernel
theorem dX9_takeLasts_63 : decode cX9_takeLasts 63 = .ok (.if_icmp .eq 19, 3) := by decide +kernel
theorem dX9_takeLasts_66 : decode cX9_takeLasts 66 = .ok (.aload_n 0, 1) := by decide +kernel
theorem dX9_takeLasts_67 : decode cX9_takeLasts 67 = .ok (.getfield 22, 3) := by decide +kernel
theorem dX9_takeLasts_70 : decode cX9_takeLasts 70 = .ok (.aload_n 1, 1) := by decide +kernel
theorem dX9_takeLasts_71 : decode cX9_takeLasts 71 = .ok (.getfield 49, 3) := by decide +kernel
theorem dX9_takeLasts_74 : decode cX9_takeLasts 74 = .ok (.iload 4, 2) := by decide +kernel
theorem dX9_takeLasts_76 : decode cX9_takeLasts 76 = .ok (.iaload, 1) := by decide +kernel
theorem dX9_takeLasts_77 : decode cX9_takeLasts 77 = .ok (.iaload, 1) := by decide +kernel
theorem dX9_takeLasts_78 : decode cX9_takeLasts 78 = .ok (.iconst (-1), 1) := by decide +kernel
theorem dX9_takeLasts_79 : decode cX9_takeLasts 79 = .ok (.if_icmp .eq 5, 3) := by decide +kernel
theorem dX9_takeLasts_82 : decode cX9_takeLasts 82 = .ok (.iconst 0, 1) := by decide +kernel
theorem dX9_takeLasts_83 : decode cX9_takeLasts 83 = .ok (.ireturn, 1) := by decide +kernel
theorem dX9_takeLasts_84 : decode cX9_takeLasts 84 = .ok (.aload_n 0, 1) := by decide +kernel
theorem dX9_takeLasts_85 : decode cX9_takeLasts 85 = .ok (.getfield 22, 3) := by decide +kernel
theorem dX9_takeLasts_88 : decode cX9_takeLasts 88 = .ok (.aload_n 1, 1) := by decide +kernel
theorem dX9_takeLasts_89 : decode cX9_takeLasts 89 = .ok (.getfield 49, 3) := by decide +kernel
theorem dX9_takeLasts_92 : decode cX9_takeLasts 92 = .ok (.iload 4, 2) := by decide +kernel
theorem dX9_takeLasts_94 : decode cX9_takeLasts 94 = .ok (.iaload, 1) := by decide +kernel
theorem dX9_takeLasts_95 : decode cX9_takeLasts 95 = .ok (.iload 4, 2) := by decide +kernel
theorem dX9_takeLasts_97 : decode cX9_takeLasts 97 = .ok (.iastore, 1) := by decide +kernel
theorem dX9_takeLasts_98 : decode cX9_takeLasts 98 = .ok (.iinc 4 1, 3) := by decide +kernel
theorem dX9_takeLasts_101 : decode cX9_takeLasts 101 = .ok (.goto (-74), 3) := by decide +kernel
theorem dX9_takeLasts_104 : decode cX9_takeLasts 104 = .ok (.aload_n 1, 1) := by decide +kernel
theorem dX9_takeLasts_105 : decode cX9_takeLasts 105 = .ok (.invokevirtual 130, 3) := by decide +kernel
theorem dX9_takeLasts_108 : decode cX9_takeLasts 108 = .ok (.istore 4, 2) := by decide +kernel
theorem dX9_takeLasts_110 : decode cX9_takeLasts 110 = .ok (.iconst 0, 1) := by decide +kernel
theorem dX9_takeLasts_111 : decode cX9_takeLasts 111 = .ok (.istore 5, 2) := by decide +kernel
theorem dX9_takeLasts_113 : decode cX9_takeLasts 113 = .ok (.iload 5, 2) := by decide +kernel
theorem dX9_takeLasts_115 : decode cX9_takeLasts 115 = .ok (.aload_n 1, 1) := by decide +kernel
theorem dX9_takeLasts_116 : decode cX9_takeLasts 116 = .ok (.getfield 117, 3) := by decide +kernel
theorem dX9_takeLasts_119 : decode cX9_takeLasts 119 = .ok (.if_icmp .ge 32, 3) := by decide +kernel
theorem dX9_takeLasts_122 : decode cX9_takeLasts 122 = .ok (.iload 4, 2) := by decide +kernel
theorem dX9_takeLasts_124 : decode cX9_takeLasts 124 = .ok (.iload 5, 2) := by decide +kernel
theorem dX9_takeLasts_126 : decode cX9_takeLasts 126 = .ok (.invokestatic 88, 3) := by decide +kernel
theorem dX9_takeLasts_129 : decode cX9_takeLasts 129 = .ok (.ifCond .eq 16, 3) := by decide +kernel
theorem dX9_takeLasts_132 : decode cX9_takeLasts 132 = .ok (.aload_n 0, 1) := by decide +kernel
theorem dX9_takeLasts_133 : decode cX9_takeLasts 133 = .ok (.aload_n 1, 1) := by decide +kernel
theorem dX9_takeLasts_134 : decode cX9_takeLasts 134 = .ok (.iload 5, 2) := by decide +kernel
theorem dX9_takeLasts_136 : decode cX9_takeLasts 136 = .ok (.iload_n 2, 1) := by decide +kernel
theorem dX9_takeLasts_137 : decode cX9_takeLasts 137 = .ok (.invokevirtual 133, 3) := by decide +kernel
theorem dX9_takeLasts_140 : decode cX9_takeLasts 140 = .ok (.ifCond .ne 5, 3) := by decide +kernel
theorem dX9_takeLasts_143 : decode cX9_takeLasts 143 = .ok (.iconst 0, 1) := by decide +kernel
theorem dX9_takeLasts_144 : decode cX9_takeLasts 144 = .ok (.ireturn, 1) := by decide +kernel
theorem dX9_takeLasts_145 : decode cX9_takeLasts 145 = .ok (.iinc 5 1, 3) := by decide +kernel
theorem dX9_takeLasts_148 : decode cX9_takeLasts 148 = .ok (.goto (-35), 3) := by decide +kernel
theorem dX9_takeLasts_151 : decode cX9_takeLasts 151 = .ok (.iconst 1, 1) := by decide +kernel
theorem dX9_takeLasts_152 : decode cX9_takeLasts 152 = .ok (.ireturn, 1) := by decide +kernel
theorem dX9_comesTo_0 : decode cX9_comesTo 0 = .ok (.iload_n 2, 1) := by decide +kernel
theorem dX9_comesTo_1 : decode cX9_comesTo 1 = .ok (.istore 4, 2) := by decide +kernel
theorem dX9_comesTo_3 : decode cX9_comesTo 3 = .ok (.iconst 0, 1) := by decide +kernel
theorem dX9_comesTo_4 : decode cX9_comesTo 4 = .ok (.istore 5, 2) := by decide +kernel
theorem dX9_comesTo_6 : decode cX9_comesTo 6 = .ok (.iload 5, 2) := by decide +kernel
theorem dX9_comesTo_8 : decode cX9_comesTo 8 = .ok (.bipush 8, 2) := by decide +kernel
theorem dX9_comesTo_10 : decode cX9_comesTo 10 = .ok (.if_icmp .ge 41, 3) := by decide +kernel
theorem dX9_comesTo_13 : decode cX9_comesTo 13 = .ok (.iload 4, 2) := by decide +kernel
theorem dX9_comesTo_15 : decode cX9_comesTo 15 = .ok (.iload_n 3, 1) := by decide +kernel
theorem dX9_comesTo_16 : decode cX9_comesTo 16 = .ok (.if_icmp .eq 35, 3) := by decide +kernel
theorem dX9_comesTo_19 : decode cX9_comesTo 19 = .ok (.aload_n 0, 1) := by decide +kernel
theorem dX9_comesTo_20 : decode cX9_comesTo 20 = .ok (.getfield 22, 3) := by decide +kernel
theorem dX9_comesTo_23 : decode cX9_comesTo 23 = .ok (.iload 4, 2) := by decide +kernel
theorem dX9_comesTo_25 : decode cX9_comesTo 25 = .ok (.iaload, 1) := by decide +kernel
theorem dX9_comesTo_26 : decode cX9_comesTo 26 = .ok (.istore 6, 2) := by decide +kernel
theorem dX9_comesTo_28 : decode cX9_comesTo 28 = .ok (.iload 6, 2) := by decide +kernel
theorem dX9_comesTo_30 : decode cX9_comesTo 30 = .ok (.iconst (-1), 1) := by decide +kernel
theorem dX9_comesTo_31 : decode cX9_comesTo 31 = .ok (.if_icmp .ne 5, 3) := by decide +kernel
theorem dX9_comesTo_34 : decode cX9_comesTo 34 = .ok (.iconst 0, 1) := by decide +kernel
theorem dX9_comesTo_35 : decode cX9_comesTo 35 = .ok (.ireturn, 1) := by decide +kernel
theorem dX9_comesTo_36 : decode cX9_comesTo 36 = .ok (.aload_n 1, 1) := by decide +kernel
theorem dX9_comesTo_37 : decode cX9_comesTo 37 = .ok (.getfield 52, 3) := by decide +kernel
theorem dX9_comesTo_40 : decode cX9_comesTo 40 = .ok (.iload 6, 2) := by decide +kernel
theorem dX9_comesTo_42 : decode cX9_comesTo 42 = .ok (.iaload, 1) := by decide +kernel
theorem dX9_comesTo_43 : decode cX9_comesTo 43 = .ok (.istore 4, 2) := by decide +kernel
theorem dX9_comesTo_45 : decode cX9_comesTo 45 = .ok (.iinc 5 1, 3) := by decide +kernel
theorem dX9_comesTo_48 : decode cX9_comesTo 48 = .ok (.goto (-42), 3) := by decide +kernel
theorem dX9_comesTo_51 : decode cX9_comesTo 51 = .ok (.iload 4, 2) := by decide +kernel
theorem dX9_comesTo_53 : decode cX9_comesTo 53 = .ok (.iload_n 3, 1) := by decide +kernel
theorem dX9_comesTo_54 : decode cX9_comesTo 54 = .ok (.if_icmp .ne 7, 3) := by decide +kernel
theorem dX9_comesTo_57 : decode cX9_comesTo 57 = .ok (.iconst 1, 1) := by decide +kernel
theorem dX9_comesTo_58 : decode cX9_comesTo 58 = .ok (.goto 4, 3) := by decide +kernel
theorem dX9_comesTo_61 : decode cX9_comesTo 61 = .ok (.iconst 0, 1) := by decide +kernel
theorem dX9_comesTo_62 : decode cX9_comesTo 62 = .ok (.ireturn, 1) := by decide +kernel
theorem dX10_init_0 : decode cX10_init 0 = .ok (.aload_n 0, 1) := by decide +kernel
theorem dX10_init_1 : decode cX10_init 1 = .ok (.invokespecial 1, 3) := by decide +kernel
theorem dX10_init_4 : decode cX10_init 4 = .ok (.aload_n 0, 1) := by decide +kernel
theorem dX10_init_5 : decode cX10_init 5 = .ok (.new 7, 3) := by decide +kernel
theorem dX10_init_8 : decode cX10_init 8 = .ok (.dup, 1) := by decide +kernel
theorem dX10_init_9 : decode cX10_init 9 = .ok (.invokespecial 9, 3) := by decide +kernel
theorem dX10_init_12 : decode cX10_init 12 = .ok (.putfield 10, 3) := by decide +kernel
theorem dX10_init_15 : decode cX10_init 15 = .ok (.aload_n 0, 1) := by decide +kernel
theorem dX10_init_16 : decode cX10_init 16 = .ok (.new 16, 3) := by decide +kernel
theorem dX10_init_19 : decode cX10_init 19 = .ok (.dup, 1) := by decide +kernel
theorem dX10_init_20 : decode cX10_init 20 = .ok (.invokespecial 18, 3) := by decide +kernel
theorem dX10_init_23 : decode cX10_init 23 = .ok (.putfield 19, 3) := by decide +kernel
theorem dX10_init_26 : decode cX10_init 26 = .ok (.aload_n 0, 1) := by decide +kernel
theorem dX10_init_27 : decode cX10_init 27 = .ok (.new 23, 3) := by decide +kernel
theorem dX10_init_30 : decode cX10_init 30 = .ok (.dup, 1) := by decide +kernel
theorem dX10_init_31 : decode cX10_init 31 = .ok (.invokespecial 25, 3) := by decide +kernel
theorem dX10_init_34 : decode cX10_init 34 = .ok (.putfield 26, 3) := by decide +kernel
theorem dX10_init_37 : decode cX10_init 37 = .ok (.aload_n 0, 1) := by decide +kernel
theorem dX10_init_38 : decode cX10_init 38 = .ok (.new 30, 3) := by decide +kernel
theorem dX10_init_41 : decode cX10_init 41 = .ok (.dup, 1) := by decide +kernel
theorem dX10_init_42 : decode cX10_init 42 = .ok (.invokespecial 32, 3) := by decide +kernel
theorem dX10_init_45 : decode cX10_init 45 = .ok (.putfield 33, 3) := by decide +kernel
theorem dX10_init_48 : decode cX10_init 48 = .ok (.aload_n 0, 1) := by decide +kernel
theorem dX10_init_49 : decode cX10_init 49 = .ok (.iconst 2, 1) := by decide +kernel
theorem dX10_init_50 : decode cX10_init 50 = .ok (.anewarray 23, 3) := by decide +kernel
theorem dX10_init_53 : decode cX10_init 53 = .ok (.putfield 37, 3) := by decide +kernel
theorem dX10_init_56 : decode cX10_init 56 = .ok (.aload_n 0, 1) := by decide +kernel
theorem dX10_init_57 : decode cX10_init 57 = .ok (.iconst 2, 1) := by decide +kernel
theorem dX10_init_58 : decode cX10_init 58 = .ok (.newarray .boolean, 2) := by decide +kernel
theorem dX10_init_60 : decode cX10_init 60 = .ok (.putfield 41, 3) := by decide +kernel
theorem dX10_init_63 : decode cX10_init 63 = .ok (.aload_n 0, 1) := by decide +kernel
theorem dX10_init_64 : decode cX10_init 64 = .ok (.new 45, 3) := by decide +kernel
theorem dX10_init_67 : decode cX10_init 67 = .ok (.dup, 1) := by decide +kernel
theorem dX10_init_68 : decode cX10_init 68 = .ok (.invokespecial 47, 3) := by decide +kernel
theorem dX10_init_71 : decode cX10_init 71 = .ok (.putfield 48, 3) := by decide +kernel
theorem dX10_init_74 : decode cX10_init 74 = .ok (.aload_n 0, 1) := by decide +kernel
theorem dX10_init_75 : decode cX10_init 75 = .ok (.new 52, 3) := by decide +kernel
theorem dX10_init_78 : decode cX10_init 78 = .ok (.dup, 1) := by decide +kernel
theorem dX10_init_79 : decode cX10_init 79 = .ok (.invokespecial 54, 3) := by decide +kernel
theorem dX10_init_82 : decode cX10_init 82 = .ok (.putfield 55, 3) := by decide +kernel
theorem dX10_init_85 : decode cX10_init 85 = .ok (.aload_n 0, 1) := by decide +kernel
theorem dX10_init_86 : decode cX10_init 86 = .ok (.new 59, 3) := by decide +kernel
theorem dX10_init_89 : decode cX10_init 89 = .ok (.dup, 1) := by decide +kernel
theorem dX10_init_90 : decode cX10_init 90 = .ok (.invokespecial 61, 3) := by decide +kernel
theorem dX10_init_93 : decode cX10_init 93 = .ok (.putfield 62, 3) := by decide +kernel
theorem dX10_init_96 : decode cX10_init 96 = .ok (.aload_n 0, 1) := by decide +kernel
theorem dX10_init_97 : decode cX10_init 97 = .ok (.new 66, 3) := by decide +kernel
theorem dX10_init_100 : decode cX10_init 100 = .ok (.dup, 1) := by decide +kernel
theorem dX10_init_101 : decode cX10_init 101 = .ok (.invokespecial 68, 3) := by decide +kernel
theorem dX10_init_104 : decode cX10_init 104 = .ok (.putfield 69, 3) := by decide +kernel
theorem dX10_init_107 : decode cX10_init 107 = .ok (.aload_n 0, 1) := by decide +kernel
theorem dX10_init_108 : decode cX10_init 108 = .ok (.new 73, 3) := by decide +kernel
theorem dX10_init_111 : decode cX10_init 111 = .ok (.dup, 1) := by decide +kernel
theorem dX10_init_112 : decode cX10_init 112 = .ok (.invokespecial 75, 3) := by decide +kernel
theorem dX10_init_115 : decode cX10_init 115 = .ok (.putfield 76, 3) := by decide +kernel
theorem dX10_init_118 : decode cX10_init 118 = .ok (.aload_n 0, 1) := by decide +kernel
theorem dX10_init_119 : decode cX10_init 119 = .ok (.iconst 0, 1) := by decide +kernel
theorem dX10_init_120 : decode cX10_init 120 = .ok (.putfield 80, 3) := by decide +kernel
theorem dX10_init_123 : decode cX10_init 123 = .ok (.iconst 0, 1) := by decide +kernel
theorem dX10_init_124 : decode cX10_init 124 = .ok (.istore_n 1, 1) := by decide +kernel
theorem dX10_init_125 : decode cX10_init 125 = .ok (.iload_n 1, 1) := by decide +kernel
theorem dX10_init_126 : decode cX10_init 126 = .ok (.iconst 2, 1) := by decide +kernel
theorem dX10_init_127 : decode cX10_init 127 = .ok (.if_icmp .ge 22, 3) := by decide +kernel
theorem dX10_init_130 : decode cX10_init 130 = .ok (.aload_n 0, 1) := by decide +kernel
theorem dX10_init_131 : decode cX10_init 131 = .ok (.getfield 37, 3) := by decide +kernel
theorem dX10_init_134 : decode cX10_init 134 = .ok (.iload_n 1, 1) := by decide +kernel
theorem dX10_init_135 : decode cX10_init 135 = .ok (.new 23, 3) := by decide +kernel
theorem dX10_init_138 : decode cX10_init 138 = .ok (.dup, 1) := by decide +kernel
theorem dX10_init_139 : decode cX10_init 139 = .ok (.invokespecial 25, 3) := by decide +kernel
theorem dX10_init_142 : decode cX10_init 142 = .ok (.aastore, 1) := by decide +kernel
theorem dX10_init_143 : decode cX10_init 143 = .ok (.iinc 1 1, 3) := by decide +kernel
theorem dX10_init_146 : decode cX10_init 146 = .ok (.goto (-21), 3) := by decide +kernel
theorem dX10_init_149 : decode cX10_init 149 = .ok (.return_, 1) := by decide +kernel
theorem dX10_feed_0 : decode cX10_feed 0 = .ok (.aload_n 0, 1) := by decide +kernel
theorem dX10_feed_1 : decode cX10_feed 1 = .ok (.getfield 10, 3) := by decide +kernel
theorem dX10_feed_4 : decode cX10_feed 4 = .ok (.getfield 84, 3) := by decide +kernel
theorem dX10_feed_7 : decode cX10_feed 7 = .ok (.bipush 20, 2) := by decide +kernel
theorem dX10_feed_9 : decode cX10_feed 9 = .ok (.iadd, 1) := by decide +kernel
theorem dX10_feed_10 : decode cX10_feed 10 = .ok (.sipush 540, 3) := by decide +kernel
theorem dX10_feed_13 : decode cX10_feed 13 = .ok (.if_icmp .le 5, 3) := by decide +kernel
theorem dX10_feed_16 : decode cX10_feed 16 = .ok (.iconst (-1), 1) := by decide +kernel
theorem dX10_feed_17 : decode cX10_feed 17 = .ok (.ireturn, 1) := by decide +kernel
theorem dX10_feed_18 : decode cX10_feed 18 = .ok (.aload_n 0, 1) := by decide +kernel
theorem dX10_feed_19 : decode cX10_feed 19 = .ok (.getfield 10, 3) := by decide +kernel
theorem dX10_feed_22 : decode cX10_feed 22 = .ok (.iload_n 1, 1) := by decide +kernel
theorem dX10_feed_23 : decode cX10_feed 23 = .ok (.invokevirtual 87, 3) := by decide +kernel
theorem dX10_feed_26 : decode cX10_feed 26 = .ok (.aload_n 0, 1) := by decide +kernel
theorem dX10_feed_27 : decode cX10_feed 27 = .ok (.getfield 10, 3) := by decide +kernel
theorem dX10_feed_30 : decode cX10_feed 30 = .ok (.iload_n 2, 1) := by decide +kernel
theorem dX10_feed_31 : decode cX10_feed 31 = .ok (.invokevirtual 87, 3) := by decide +kernel
theorem dX10_feed_34 : decode cX10_feed 34 = .ok (.aload_n 0, 1) := by decide +kernel
theorem dX10_feed_35 : decode cX10_feed 35 = .ok (.getfield 10, 3) := by decide +kernel
theorem dX10_feed_38 : decode cX10_feed 38 = .ok (.iload_n 3, 1) := by decide +kernel
theorem dX10_feed_39 : decode cX10_feed 39 = .ok (.invokevirtual 87, 3) := by decide +kernel
theorem dX10_feed_42 : decode cX10_feed 42 = .ok (.aload_n 0, 1) := by decide +kernel
theorem dX10_feed_43 : decode cX10_feed 43 = .ok (.getfield 10, 3) := by decide +kernel
theorem dX10_feed_46 : decode cX10_feed 46 = .ok (.iload 4, 2) := by decide +kernel
theorem dX10_feed_48 : decode cX10_feed 48 = .ok (.invokevirtual 87, 3) := by decide +kernel
theorem dX10_feed_51 : decode cX10_feed 51 = .ok (.aload_n 0, 1) := by decide +kernel
theorem dX10_feed_52 : decode cX10_feed 52 = .ok (.getfield 10, 3) := by decide +kernel
theorem dX10_feed_55 : decode cX10_feed 55 = .ok (.iload 5, 2) := by decide +kernel
theorem dX10_feed_57 : decode cX10_feed 57 = .ok (.invokevirtual 87, 3) := by decide +kernel
theorem dX10_feed_60 : decode cX10_feed 60 = .ok (.aload_n 0, 1) := by decide +kernel
theorem dX10_feed_61 : decode cX10_feed 61 = .ok (.getfield 10, 3) := by decide +kernel
theorem dX10_feed_64 : decode cX10_feed 64 = .ok (.getfield 84, 3) := by decide +kernel
theorem dX10_feed_67 : decode cX10_feed 67 = .ok (.ireturn, 1) := by decide +kernel
theorem dX10_end_0 : decode cX10_end 0 = .ok (.aload_n 0, 1) := by decide +kernel
theorem dX10_end_1 : decode cX10_end 1 = .ok (.getfield 10, 3) := by decide +kernel
theorem dX10_end_4 : decode cX10_end 4 = .ok (.iload_n 1, 1) := by decide +kernel
theorem dX10_end_5 : decode cX10_end 5 = .ok (.invokevirtual 91, 3) := by decide +kernel
theorem dX10_end_8 : decode cX10_end 8 = .ok (.ireturn, 1) := by decide +kernel
theorem dX10_net_0 : decode cX10_net 0 = .ok (.aload_n 0, 1) := by decide +kernel
theorem dX10_net_1 : decode cX10_net 1 = .ok (.getfield 19, 3) := by decide +kernel
theorem dX10_net_4 : decode cX10_net 4 = .ok (.aload_n 0, 1) := by decide +kernel
theorem dX10_net_5 : decode cX10_net 5 = .ok (.getfield 10, 3) := by decide +kernel
theorem dX10_net_8 : decode cX10_net 8 = .ok (.invokevirtual 95, 3) := by decide +kernel
theorem dX10_net_11 : decode cX10_net 11 = .ok (.istore_n 1, 1) := by decide +kernel
theorem dX10_net_12 : decode cX10_net 12 = .ok (.aload_n 0, 1) := by decide +kernel
theorem dX10_net_13 : decode cX10_net 13 = .ok (.getfield 10, 3) := by decide +kernel
theorem dX10_net_16 : decode cX10_net 16 = .ok (.iconst 0, 1) := by decide +kernel
theorem dX10_net_17 : decode cX10_net 17 = .ok (.invokevirtual 91, 3) := by decide +kernel
theorem dX10_net_20 : decode cX10_net 20 = .ok (.pop, 1) := by decide +kernel
theorem dX10_net_21 : decode cX10_net 21 = .ok (.aload_n 0, 1) := by decide +kernel
theorem dX10_net_22 : decode cX10_net 22 = .ok (.aload_n 0, 1) := by decide +kernel
theorem dX10_net_23 : decode cX10_net 23 = .ok (.getfield 19, 3) := by decide +kernel
theorem dX10_net_26 : decode cX10_net 26 = .ok (.getfield 99, 3) := by decide +kernel
theorem dX10_net_29 : decode cX10_net 29 = .ok (.putfield 80, 3) := by decide +kernel
theorem dX10_net_32 : decode cX10_net 32 = .ok (.aload_n 0, 1) := by decide +kernel
theorem dX10_net_33 : decode cX10_net 33 = .ok (.getfield 80, 3) := by decide +kernel
theorem dX10_net_36 : decode cX10_net 36 = .ok (.ifCond .ne 24, 3) := by decide +kernel
theorem dX10_net_39 : decode cX10_net 39 = .ok (.aload_n 0, 1) := by decide +kernel
theorem dX10_net_40 : decode cX10_net 40 = .ok (.getfield 26, 3) := by decide +kernel
theorem dX10_net_43 : decode cX10_net 43 = .ok (.aload_n 0, 1) := by decide +kernel
theorem dX10_net_44 : decode cX10_net 44 = .ok (.getfield 19, 3) := by decide +kernel
theorem dX10_net_47 : decode cX10_net 47 = .ok (.getfield 102, 3) := by decide +kernel
theorem dX10_net_50 : decode cX10_net 50 = .ok (.invokevirtual 105, 3) := by decide +kernel
theorem dX10_net_53 : decode cX10_net 53 = .ok (.aload_n 0, 1) := by decide +kernel
theorem dX10_net_54 : decode cX10_net 54 = .ok (.getfield 33, 3) := by decide +kernel
theorem dX10_net_57 : decode cX10_net 57 = .ok (.invokevirtual 109, 3) := by decide +kernel
theorem dX10_net_60 : decode cX10_net 60 = .ok (.iload_n 1, 1) := by decide +kernel
theorem dX10_net_61 : decode cX10_net 61 = .ok (.ireturn, 1) := by decide +kernel
theorem dX10_fault_0 : decode cX10_fault 0 = .ok (.aload_n 0, 1) := by decide +kernel
theorem dX10_fault_1 : decode cX10_fault 1 = .ok (.getfield 80, 3) := by decide +kernel
theorem dX10_fault_4 : decode cX10_fault 4 = .ok (.ireturn, 1) := by decide +kernel
theorem dX10_now_0 : decode cX10_now 0 = .ok (.iload_n 1, 1) := by decide +kernel
theorem dX10_now_1 : decode cX10_now 1 = .ok (.tableswitch 141 0 8 #[51, 59, 67, 75, 91, 100, 109, 125, 133], 51) := by decide +kernel
theorem dX10_now_52 : decode cX10_now 52 = .ok (.aload_n 0, 1) := by decide +kernel
theorem dX10_now_53 : decode cX10_now 53 = .ok (.getfield 26, 3) := by decide +kernel
theorem dX10_now_56 : decode cX10_now 56 = .ok (.getfield 112, 3) := by decide +kernel
theorem dX10_now_59 : decode cX10_now 59 = .ok (.ireturn, 1) := by decide +kernel
theorem dX10_now_60 : decode cX10_now 60 = .ok (.aload_n 0, 1) := by decide +kernel
theorem dX10_now_61 : decode cX10_now 61 = .ok (.getfield 26, 3) := by decide +kernel
theorem dX10_now_64 : decode cX10_now 64 = .ok (.getfield 115, 3) := by decide +kernel
theorem dX10_now_67 : decode cX10_now 67 = .ok (.ireturn, 1) := by decide +kernel
theorem dX10_now_68 : decode cX10_now 68 = .ok (.aload_n 0, 1) := by decide +kernel
theorem dX10_now_69 : decode cX10_now 69 = .ok (.getfield 26, 3) := by decide +kernel
theorem dX10_now_72 : decode cX10_now 72 = .ok (.invokevirtual 118, 3) := by decide +kernel
theorem dX10_now_75 : decode cX10_now 75 = .ok (.ireturn, 1) := by decide +kernel
theorem dX10_now_76 : decode cX10_now 76 = .ok (.aload_n 0, 1) := by decide +kernel
theorem dX10_now_77 : decode cX10_now 77 = .ok (.getfield 26, 3) := by decide +kernel
theorem dX10_now_80 : decode cX10_now 80 = .ok (.invokevirtual 122, 3) := by decide +kernel
theorem dX10_now_83 : decode cX10_now 83 = .ok (.ifCond .eq 7, 3) := by decide +kernel
theorem dX10_now_86 : decode cX10_now 86 = .ok (.iconst 1, 1) := by decide +kernel
theorem dX10_now_87 : decode cX10_now 87 = .ok (.goto 4, 3) := by decide +kernel
theorem dX10_now_90 : decode cX10_now 90 = .ok (.iconst 0, 1) := by decide +kernel
theorem dX10_now_91 : decode cX10_now 91 = .ok (.ireturn, 1) := by decide +kernel
theorem dX10_now_92 : decode cX10_now 92 = .ok (.aload_n 0, 1) := by decide +kernel
theorem dX10_now_93 : decode cX10_now 93 = .ok (.getfield 26, 3) := by decide +kernel
theorem dX10_now_96 : decode cX10_now 96 = .ok (.iconst 1, 1) := by decide +kernel
theorem dX10_now_97 : decode cX10_now 97 = .ok (.invokevirtual 126, 3) := by decide +kernel
theorem dX10_now_100 : decode cX10_now 100 = .ok (.ireturn, 1) := by decide +kernel
theorem dX10_now_101 : decode cX10_now 101 = .ok (.aload_n 0, 1) := by decide +kernel
theorem dX10_now_102 : decode cX10_now 102 = .ok (.getfield 26, 3) := by decide +kernel
theorem dX10_now_105 : decode cX10_now 105 = .ok (.iconst (-1), 1) := by decide +kernel
theorem dX10_now_106 : decode cX10_now 106 = .ok (.invokevirtual 126, 3) := by decide +kernel
theorem dX10_now_109 : decode cX10_now 109 = .ok (.ireturn, 1) := by decide +kernel
theorem dX10_now_110 : decode cX10_now 110 = .ok (.aload_n 0, 1) := by decide +kernel
theorem dX10_now_111 : decode cX10_now 111 = .ok (.getfield 26, 3) := by decide +kernel
theorem dX10_now_114 : decode cX10_now 114 = .ok (.invokevirtual 130, 3) := by decide +kernel
theorem dX10_now_117 : decode cX10_now 117 = .ok (.ifCond .eq 7, 3) := by decide +kernel
theorem dX10_now_120 : decode cX10_now 120 = .ok (.iconst 1, 1) := by decide +kernel
theorem dX10_now_121 : decode cX10_now 121 = .ok (.goto 4, 3) := by decide +kernel
theorem dX10_now_124 : decode cX10_now 124 = .ok (.iconst 0, 1) := by decide +kernel
theorem dX10_now_125 : decode cX10_now 125 = .ok (.ireturn, 1) := by decide +kernel
theorem dX10_now_126 : decode cX10_now 126 = .ok (.aload_n 0, 1) := by decide +kernel
theorem dX10_now_127 : decode cX10_now 127 = .ok (.getfield 33, 3) := by decide +kernel
theorem dX10_now_130 : decode cX10_now 130 = .ok (.getfield 133, 3) := by decide +kernel
theorem dX10_now_133 : decode cX10_now 133 = .ok (.ireturn, 1) := by decide +kernel
theorem dX10_now_134 : decode cX10_now 134 = .ok (.aload_n 0, 1) := by decide +kernel
theorem dX10_now_135 : decode cX10_now 135 = .ok (.getfield 10, 3) := by decide +kernel
theorem dX10_now_138 : decode cX10_now 138 = .ok (.getfield 84, 3) := by decide +kernel
theorem dX10_now_141 : decode cX10_now 141 = .ok (.ireturn, 1) := by decide +kernel
theorem dX10_now_142 : decode cX10_now 142 = .ok (.iconst (-1), 1) := by decide +kernel
theorem dX10_now_143 : decode cX10_now 143 = .ok (.ireturn, 1) := by decide +kernel
theorem dX10_arc_0 : decode cX10_arc 0 = .ok (.aload_n 0, 1) := by decide +kernel
theorem dX10_arc_1 : decode cX10_arc 1 = .ok (.getfield 26, 3) := by decide +kernel
theorem dX10_arc_4 : decode cX10_arc 4 = .ok (.iload_n 1, 1) := by decide +kernel
theorem dX10_arc_5 : decode cX10_arc 5 = .ok (.invokevirtual 134, 3) := by decide +kernel
theorem dX10_arc_8 : decode cX10_arc 8 = .ok (.ifCond .eq 12, 3) := by decide +kernel
theorem dX10_arc_11 : decode cX10_arc 11 = .ok (.iload_n 2, 1) := by decide +kernel
theorem dX10_arc_12 : decode cX10_arc 12 = .ok (.ifCond .lt 8, 3) := by decide +kernel
theorem dX10_arc_15 : decode cX10_arc 15 = .ok (.iload_n 2, 1) := by decide +kernel
theorem dX10_arc_16 : decode cX10_arc 16 = .ok (.iconst 1, 1) := by decide +kernel
theorem dX10_arc_17 : decode cX10_arc 17 = .ok (.if_icmp .le 13, 3) := by decide +kernel
theorem dX10_arc_20 : decode cX10_arc 20 = .ok (.new 137, 3) := by decide +kernel
theorem dX10_arc_23 : decode cX10_arc 23 = .ok (.dup, 1) := by decide +kernel
theorem dX10_arc_24 : decode cX10_arc 24 = .ok (.ldc 139, 2) := by decide +kernel
theorem dX10_arc_26 : decode cX10_arc 26 = .ok (.invokespecial 141, 3) := by decide +kernel
theorem dX10_arc_29 : decode cX10_arc 29 = .ok (.athrow, 1) := by decide +kernel
theorem dX10_arc_30 : decode cX10_arc 30 = .ok (.iload_n 2, 1) := by decide +kernel
theorem dX10_arc_31 : decode cX10_arc 31 = .ok (.ifCond .ne 15, 3) := by decide +kernel
theorem dX10_arc_34 : decode cX10_arc 34 = .ok (.aload_n 0, 1) := by decide +kernel
theorem dX10_arc_35 : decode cX10_arc 35 = .ok (.getfield 26, 3) := by decide +kernel
theorem dX10_arc_38 : decode cX10_arc 38 = .ok (.getfield 144, 3) := by decide +kernel
theorem dX10_arc_41 : decode cX10_arc 41 = .ok (.iload_n 1, 1) := by decide +kernel
theorem dX10_arc_42 : decode cX10_arc 42 = .ok (.iaload, 1) := by decide +kernel
theorem dX10_arc_43 : decode cX10_arc 43 = .ok (.goto 12, 3) := by decide +kernel
theorem dX10_arc_46 : decode cX10_arc 46 = .ok (.aload_n 0, 1) := by decide +kernel
theorem dX10_arc_47 : decode cX10_arc 47 = .ok (.getfield 26, 3) := by decide +kernel
theorem dX10_arc_50 : decode cX10_arc 50 = .ok (.getfield 148, 3) := by decide +kernel
theorem dX10_arc_53 : decode cX10_arc 53 = .ok (.iload_n 1, 1) := by decide +kernel
theorem dX10_arc_54 : decode cX10_arc 54 = .ok (.iaload, 1) := by decide +kernel
theorem dX10_arc_55 : decode cX10_arc 55 = .ok (.ireturn, 1) := by decide +kernel
theorem dX10_degree_0 : decode cX10_degree 0 = .ok (.aload_n 0, 1) := by decide +kernel
theorem dX10_degree_1 : decode cX10_degree 1 = .ok (.getfield 26, 3) := by decide +kernel
theorem dX10_degree_4 : decode cX10_degree 4 = .ok (.iload_n 1, 1) := by decide +kernel
theorem dX10_degree_5 : decode cX10_degree 5 = .ok (.invokevirtual 151, 3) := by decide +kernel
theorem dX10_degree_8 : decode cX10_degree 8 = .ok (.ifCond .eq 12, 3) := by decide +kernel
theorem dX10_degree_11 : decode cX10_degree 11 = .ok (.iload_n 2, 1) := by decide +kernel
theorem dX10_degree_12 : decode cX10_degree 12 = .ok (.ifCond .lt 8, 3) := by decide +kernel
theorem dX10_degree_15 : decode cX10_degree 15 = .ok (.iload_n 2, 1) := by decide +kernel
theorem dX10_degree_16 : decode cX10_degree 16 = .ok (.iconst 1, 1) := by decide +kernel
theorem dX10_degree_17 : decode cX10_degree 17 = .ok (.if_icmp .le 13, 3) := by decide +kernel
theorem dX10_degree_20 : decode cX10_degree 20 = .ok (.new 137, 3) := by decide +kernel
theorem dX10_degree_23 : decode cX10_degree 23 = .ok (.dup, 1) := by decide +kernel
theorem dX10_degree_24 : decode cX10_degree 24 = .ok (.ldc 154, 2) := by decide +kernel
theorem dX10_degree_26 : decode cX10_degree 26 = .ok (.invokespecial 141, 3) := by decide +kernel
theorem dX10_degree_29 : decode cX10_degree 29 = .ok (.athrow, 1) := by decide +kernel
theorem dX10_degree_30 : decode cX10_degree 30 = .ok (.iload_n 2, 1) := by decide +kernel
theorem dX10_degree_31 : decode cX10_degree 31 = .ok (.ifCond .ne 14, 3) := by decide +kernel
theorem dX10_degree_34 : decode cX10_degree 34 = .ok (.aload_n 0, 1) := by decide +kernel
theorem dX10_degree_35 : decode cX10_degree 35 = .ok (.getfield 26, 3) := by decide +kernel
theorem dX10_degree_38 : decode cX10_degree 38 = .ok (.iload_n 1, 1) := by decide +kernel
theorem dX10_degree_39 : decode cX10_degree 39 = .ok (.invokevirtual 156, 3) := by decide +kernel
theorem dX10_degree_42 : decode cX10_degree 42 = .ok (.goto 11, 3) := by decide +kernel
theorem dX10_degree_45 : decode cX10_degree 45 = .ok (.aload_n 0, 1) := by decide +kernel
theorem dX10_degree_46 : decode cX10_degree 46 = .ok (.getfield 26, 3) := by decide +kernel
theorem dX10_degree_49 : decode cX10_degree 49 = .ok (.iload_n 1, 1) := by decide +kernel
theorem dX10_degree_50 : decode cX10_degree 50 = .ok (.invokevirtual 159, 3) := by decide +kernel
theorem dX10_degree_53 : decode cX10_degree 53 = .ok (.ireturn, 1) := by decide +kernel
theorem dX10_kind_0 : decode cX10_kind 0 = .ok (.aload_n 0, 1) := by decide +kernel
theorem dX10_kind_1 : decode cX10_kind 1 = .ok (.getfield 26, 3) := by decide +kernel
theorem dX10_kind_4 : decode cX10_kind 4 = .ok (.invokevirtual 162, 3) := by decide +kernel
theorem dX10_kind_7 : decode cX10_kind 7 = .ok (.ireturn, 1) := by decide +kernel
theorem dX10_ends_0 : decode cX10_ends 0 = .ok (.aload_n 0, 1) := by decide +kernel
theorem dX10_ends_1 : decode cX10_ends 1 = .ok (.getfield 26, 3) := by decide +kernel
theorem dX10_ends_4 : decode cX10_ends 4 = .ok (.invokevirtual 162, 3) := by decide +kernel
theorem dX10_ends_7 : decode cX10_ends 7 = .ok (.istore_n 2, 1) := by decide +kernel
theorem dX10_ends_8 : decode cX10_ends 8 = .ok (.iload_n 2, 1) := by decide +kernel
theorem dX10_ends_9 : decode cX10_ends 9 = .ok (.ifCond .eq 12, 3) := by decide +kernel
theorem dX10_ends_12 : decode cX10_ends 12 = .ok (.iload_n 1, 1) := by decide +kernel
theorem dX10_ends_13 : decode cX10_ends 13 = .ok (.ifCond .lt 8, 3) := by decide +kernel
theorem dX10_ends_16 : decode cX10_ends 16 = .ok (.iload_n 1, 1) := by decide +kernel
theorem dX10_ends_17 : decode cX10_ends 17 = .ok (.iconst 1, 1) := by decide +kernel
theorem dX10_ends_18 : decode cX10_ends 18 = .ok (.if_icmp .le 5, 3) := by decide +kernel
theorem dX10_ends_21 : decode cX10_ends 21 = .ok (.iconst (-1), 1) := by decide +kernel
theorem dX10_ends_22 : decode cX10_ends 22 = .ok (.ireturn, 1) := by decide +kernel
theorem dX10_ends_23 : decode cX10_ends 23 = .ok (.iload_n 1, 1) := by decide +kernel
theorem dX10_ends_24 : decode cX10_ends 24 = .ok (.ifCond .ne 14, 3) := by decide +kernel
theorem dX10_ends_27 : decode cX10_ends 27 = .ok (.aload_n 0, 1) := by decide +kernel
theorem dX10_ends_28 : decode cX10_ends 28 = .ok (.getfield 26, 3) := by decide +kernel
theorem dX10_ends_31 : decode cX10_ends 31 = .ok (.iload_n 2, 1) := by decide +kernel
theorem dX10_ends_32 : decode cX10_ends 32 = .ok (.invokevirtual 165, 3) := by decide +kernel
theorem dX10_ends_35 : decode cX10_ends 35 = .ok (.goto 11, 3) := by decide +kernel
theorem dX10_ends_38 : decode cX10_ends 38 = .ok (.aload_n 0, 1) := by decide +kernel
theorem dX10_ends_39 : decode cX10_ends 39 = .ok (.getfield 26, 3) := by decide +kernel
theorem dX10_ends_42 : decode cX10_ends 42 = .ok (.iload_n 2, 1) := by decide +kernel
theorem dX10_ends_43 : decode cX10_ends 43 = .ok (.invokevirtual 168, 3) := by decide +kernel
theorem dX10_ends_46 : decode cX10_ends 46 = .ok (.ireturn, 1) := by decide +kernel
theorem dX10_trees_0 : decode cX10_trees 0 = .ok (.aload_n 0, 1) := by decide +kernel
theorem dX10_trees_1 : decode cX10_trees 1 = .ok (.getfield 26, 3) := by decide +kernel
theorem dX10_trees_4 : decode cX10_trees 4 = .ok (.iload_n 1, 1) := by decide +kernel
theorem dX10_trees_5 : decode cX10_trees 5 = .ok (.invokevirtual 171, 3) := by decide +kernel
theorem dX10_trees_8 : decode cX10_trees 8 = .ok (.ifCond .eq 18, 3) := by decide +kernel
theorem dX10_trees_11 : decode cX10_trees 11 = .ok (.aload_n 0, 1) := by decide +kernel
theorem dX10_trees_12 : decode cX10_trees 12 = .ok (.getfield 48, 3) := by decide +kernel
theorem dX10_trees_15 : decode cX10_trees 15 = .ok (.aload_n 0, 1) := by decide +kernel
theorem dX10_trees_16 : decode cX10_trees 16 = .ok (.getfield 26, 3) := by decide +kernel
theorem dX10_trees_19 : decode cX10_trees 19 = .ok (.iload_n 1, 1) := by decide +kernel
theorem dX10_trees_20 : decode cX10_trees 20 = .ok (.invokevirtual 174, 3) := by decide +kernel
theorem dX10_trees_23 : decode cX10_trees 23 = .ok (.goto 6, 3) := by decide +kernel
theorem dX10_trees_26 : decode cX10_trees 26 = .ok (.ldc2_w 178, 3) := by decide +kernel
theorem dX10_trees_29 : decode cX10_trees 29 = .ok (.lreturn, 1) := by decide +kernel
theorem dX10_tree_0 : decode cX10_tree 0 = .ok (.aload_n 0, 1) := by decide +kernel
theorem dX10_tree_1 : decode cX10_tree 1 = .ok (.getfield 26, 3) := by decide +kernel
theorem dX10_tree_4 : decode cX10_tree 4 = .ok (.iload_n 1, 1) := by decide +kernel
theorem dX10_tree_5 : decode cX10_tree 5 = .ok (.invokevirtual 171, 3) := by decide +kernel
theorem dX10_tree_8 : decode cX10_tree 8 = .ok (.ifCond .eq 19, 3) := by decide +kernel
theorem dX10_tree_11 : decode cX10_tree 11 = .ok (.aload_n 0, 1) := by decide +kernel
theorem dX10_tree_12 : decode cX10_tree 12 = .ok (.getfield 48, 3) := by decide +kernel
theorem dX10_tree_15 : decode cX10_tree 15 = .ok (.aload_n 0, 1) := by decide +kernel
theorem dX10_tree_16 : decode cX10_tree 16 = .ok (.getfield 26, 3) := by decide +kernel
theorem dX10_tree_19 : decode cX10_tree 19 = .ok (.iload_n 1, 1) := by decide +kernel
theorem dX10_tree_20 : decode cX10_tree 20 = .ok (.iload_n 2, 1) := by decide +kernel
theorem dX10_tree_21 : decode cX10_tree 21 = .ok (.invokevirtual 180, 3) := by decide +kernel
theorem dX10_tree_24 : decode cX10_tree 24 = .ok (.goto 4, 3) := by decide +kernel
theorem dX10_tree_27 : decode cX10_tree 27 = .ok (.iconst (-1), 1) := by decide +kernel
theorem dX10_tree_28 : decode cX10_tree 28 = .ok (.istore_n 3, 1) := by decide +kernel
theorem dX10_tree_29 : decode cX10_tree 29 = .ok (.iload_n 3, 1) := by decide +kernel
theorem dX10_tree_30 : decode cX10_tree 30 = .ok (.iconst (-1), 1) := by decide +kernel
theorem dX10_tree_31 : decode cX10_tree 31 = .ok (.if_icmp .ne 13, 3) := by decide +kernel
theorem dX10_tree_34 : decode cX10_tree 34 = .ok (.new 137, 3) := by decide +kernel
theorem dX10_tree_37 : decode cX10_tree 37 = .ok (.dup, 1) := by decide +kernel
theorem dX10_tree_38 : decode cX10_tree 38 = .ok (.ldc 184, 2) := by decide +kernel
theorem dX10_tree_40 : decode cX10_tree 40 = .ok (.invokespecial 141, 3) := by decide +kernel
theorem dX10_tree_43 : decode cX10_tree 43 = .ok (.athrow, 1) := by decide +kernel
theorem dX10_tree_44 : decode cX10_tree 44 = .ok (.iload_n 3, 1) := by decide +kernel
theorem dX10_tree_45 : decode cX10_tree 45 = .ok (.ireturn, 1) := by decide +kernel
theorem dX10_walks_0 : decode cX10_walks 0 = .ok (.aload_n 0, 1) := by decide +kernel
theorem dX10_walks_1 : decode cX10_walks 1 = .ok (.getfield 55, 3) := by decide +kernel
theorem dX10_walks_4 : decode cX10_walks 4 = .ok (.aload_n 0, 1) := by decide +kernel
theorem dX10_walks_5 : decode cX10_walks 5 = .ok (.getfield 26, 3) := by decide +kernel
theorem dX10_walks_8 : decode cX10_walks 8 = .ok (.invokevirtual 186, 3) := by decide +kernel
theorem dX10_walks_11 : decode cX10_walks 11 = .ok (.lreturn, 1) := by decide +kernel
theorem dX10_walk_0 : decode cX10_walk 0 = .ok (.aload_n 0, 1) := by decide +kernel
theorem dX10_walk_1 : decode cX10_walk 1 = .ok (.getfield 55, 3) := by decide +kernel
theorem dX10_walk_4 : decode cX10_walk 4 = .ok (.aload_n 0, 1) := by decide +kernel
theorem dX10_walk_5 : decode cX10_walk 5 = .ok (.getfield 26, 3) := by decide +kernel
theorem dX10_walk_8 : decode cX10_walk 8 = .ok (.lload_n 1, 1) := by decide +kernel
theorem dX10_walk_9 : decode cX10_walk 9 = .ok (.invokevirtual 189, 3) := by decide +kernel
theorem dX10_walk_12 : decode cX10_walk 12 = .ok (.ifCond .ne 13, 3) := by decide +kernel
theorem dX10_walk_15 : decode cX10_walk 15 = .ok (.new 137, 3) := by decide +kernel
theorem dX10_walk_18 : decode cX10_walk 18 = .ok (.dup, 1) := by decide +kernel
theorem dX10_walk_19 : decode cX10_walk 19 = .ok (.ldc 193, 2) := by decide +kernel
theorem dX10_walk_21 : decode cX10_walk 21 = .ok (.invokespecial 141, 3) := by decide +kernel
theorem dX10_walk_24 : decode cX10_walk 24 = .ok (.athrow, 1) := by decide +kernel
theorem dX10_walk_25 : decode cX10_walk 25 = .ok (.aload_n 0, 1) := by decide +kernel
theorem dX10_walk_26 : decode cX10_walk 26 = .ok (.getfield 55, 3) := by decide +kernel
theorem dX10_walk_29 : decode cX10_walk 29 = .ok (.aload_n 0, 1) := by decide +kernel
theorem dX10_walk_30 : decode cX10_walk 30 = .ok (.getfield 26, 3) := by decide +kernel
theorem dX10_walk_33 : decode cX10_walk 33 = .ok (.getfield 115, 3) := by decide +kernel
theorem dX10_walk_36 : decode cX10_walk 36 = .ok (.iconst 1, 1) := by decide +kernel
theorem dX10_walk_37 : decode cX10_walk 37 = .ok (.isub, 1) := by decide +kernel
theorem dX10_walk_38 : decode cX10_walk 38 = .ok (.invokevirtual 195, 3) := by decide +kernel
theorem dX10_walk_41 : decode cX10_walk 41 = .ok (.ireturn, 1) := by decide +kernel
theorem dX10_walkAt_0 : decode cX10_walkAt 0 = .ok (.aload_n 0, 1) := by decide +kernel
theorem dX10_walkAt_1 : decode cX10_walkAt 1 = .ok (.getfield 55, 3) := by decide +kernel
theorem dX10_walkAt_4 : decode cX10_walkAt 4 = .ok (.iload_n 1, 1) := by decide +kernel
theorem dX10_walkAt_5 : decode cX10_walkAt 5 = .ok (.invokevirtual 195, 3) := by decide +kernel
theorem dX10_walkAt_8 : decode cX10_walkAt 8 = .ok (.ireturn, 1) := by decide +kernel
theorem dX10_lasts_0 : decode cX10_lasts 0 = .ok (.aload_n 0, 1) := by decide +kernel
theorem dX10_lasts_1 : decode cX10_lasts 1 = .ok (.getfield 55, 3) := by decide +kernel
theorem dX10_lasts_4 : decode cX10_lasts 4 = .ok (.getfield 198, 3) := by decide +kernel
theorem dX10_lasts_7 : decode cX10_lasts 7 = .ok (.ireturn, 1) := by decide +kernel
theorem dX10_rank_0 : decode cX10_rank 0 = .ok (.aload_n 0, 1) := by decide +kernel
theorem dX10_rank_1 : decode cX10_rank 1 = .ok (.getfield 55, 3) := by decide +kernel
theorem dX10_rank_4 : decode cX10_rank 4 = .ok (.aload_n 0, 1) := by decide +kernel
theorem dX10_rank_5 : decode cX10_rank 5 = .ok (.getfield 26, 3) := by decide +kernel
theorem dX10_rank_8 : decode cX10_rank 8 = .ok (.aload_n 0, 1) := by decide +kernel
theorem dX10_rank_9 : decode cX10_rank 9 = .ok (.getfield 10, 3) := by decide +kernel
theorem dX10_rank_12 : decode cX10_rank 12 = .ok (.invokevirtual 201, 3) := by decide +kernel
theorem dX10_rank_15 : decode cX10_rank 15 = .ok (.lstore_n 1, 1) := by decide +kernel
theorem dX10_rank_16 : decode cX10_rank 16 = .ok (.aload_n 0, 1) := by decide +kernel
theorem dX10_rank_17 : decode cX10_rank 17 = .ok (.getfield 10, 3) := by decide +kernel
theorem dX10_rank_20 : decode cX10_rank 20 = .ok (.iconst 0, 1) := by decide +kernel
theorem dX10_rank_21 : decode cX10_rank 21 = .ok (.invokevirtual 91, 3) := by decide +kernel
theorem dX10_rank_24 : decode cX10_rank 24 = .ok (.pop, 1) := by decide +kernel
theorem dX10_rank_25 : decode cX10_rank 25 = .ok (.lload_n 1, 1) := by decide +kernel
theorem dX10_rank_26 : decode cX10_rank 26 = .ok (.lreturn, 1) := by decide +kernel
theorem dX10_by_0 : decode cX10_by 0 = .ok (.aload_n 0, 1) := by decide +kernel
theorem dX10_by_1 : decode cX10_by 1 = .ok (.getfield 55, 3) := by decide +kernel
theorem dX10_by_4 : decode cX10_by 4 = .ok (.aload_n 0, 1) := by decide +kernel
theorem dX10_by_5 : decode cX10_by 5 = .ok (.getfield 26, 3) := by decide +kernel
theorem dX10_by_8 : decode cX10_by 8 = .ok (.iload_n 1, 1) := by decide +kernel
theorem dX10_by_9 : decode cX10_by 9 = .ok (.invokevirtual 205, 3) := by decide +kernel
theorem dX10_by_12 : decode cX10_by 12 = .ok (.lreturn, 1) := by decide +kernel
theorem dX10_first_0 : decode cX10_first 0 = .ok (.aload_n 0, 1) := by decide +kernel
theorem dX10_first_1 : decode cX10_first 1 = .ok (.getfield 55, 3) := by decide +kernel
theorem dX10_first_4 : decode cX10_first 4 = .ok (.aload_n 0, 1) := by decide +kernel
theorem dX10_first_5 : decode cX10_first 5 = .ok (.getfield 26, 3) := by decide +kernel
theorem dX10_first_8 : decode cX10_first 8 = .ok (.iload_n 1, 1) := by decide +kernel
theorem dX10_first_9 : decode cX10_first 9 = .ok (.invokevirtual 208, 3) := by decide +kernel
theorem dX10_first_12 : decode cX10_first 12 = .ok (.lreturn, 1) := by decide +kernel
theorem dX10_drawn_0 : decode cX10_drawn 0 = .ok (.aload_n 0, 1) := by decide +kernel
theorem dX10_drawn_1 : decode cX10_drawn 1 = .ok (.getfield 55, 3) := by decide +kernel
theorem dX10_drawn_4 : decode cX10_drawn 4 = .ok (.aload_n 0, 1) := by decide +kernel
theorem dX10_drawn_5 : decode cX10_drawn 5 = .ok (.getfield 26, 3) := by decide +kernel
theorem dX10_drawn_8 : decode cX10_drawn 8 = .ok (.invokevirtual 186, 3) := by decide +kernel
theorem dX10_drawn_11 : decode cX10_drawn 11 = .ok (.lstore_n 2, 1) := by decide +kernel
theorem dX10_drawn_12 : decode cX10_drawn 12 = .ok (.lload_n 2, 1) := by decide +kernel
theorem dX10_drawn_13 : decode cX10_drawn 13 = .ok (.lconst 0, 1) := by decide +kernel
theorem dX10_drawn_14 : decode cX10_drawn 14 = .ok (.lcmp, 1) := by decide +kernel
theorem dX10_drawn_15 : decode cX10_drawn 15 = .ok (.ifCond .gt 7, 3) := by decide +kernel
theorem dX10_drawn_18 : decode cX10_drawn 18 = .ok (.ldc2_w 178, 3) := by decide +kernel
theorem dX10_drawn_21 : decode cX10_drawn 21 = .ok (.lreturn, 1) := by decide +kernel
theorem dX10_drawn_22 : decode cX10_drawn 22 = .ok (.aload_n 0, 1) := by decide +kernel
theorem dX10_drawn_23 : decode cX10_drawn 23 = .ok (.getfield 76, 3) := by decide +kernel
theorem dX10_drawn_26 : decode cX10_drawn 26 = .ok (.iload_n 1, 1) := by decide +kernel
theorem dX10_drawn_27 : decode cX10_drawn 27 = .ok (.invokevirtual 211, 3) := by decide +kernel
theorem dX10_drawn_30 : decode cX10_drawn 30 = .ok (.aload_n 0, 1) := by decide +kernel
theorem dX10_drawn_31 : decode cX10_drawn 31 = .ok (.getfield 76, 3) := by decide +kernel
theorem dX10_drawn_34 : decode cX10_drawn 34 = .ok (.lload_n 2, 1) := by decide +kernel
theorem dX10_drawn_35 : decode cX10_drawn 35 = .ok (.invokevirtual 214, 3) := by decide +kernel
theorem dX10_drawn_38 : decode cX10_drawn 38 = .ok (.lstore 4, 2) := by decide +kernel
theorem dX10_drawn_40 : decode cX10_drawn 40 = .ok (.aload_n 0, 1) := by decide +kernel
theorem dX10_drawn_41 : decode cX10_drawn 41 = .ok (.getfield 55, 3) := by decide +kernel
theorem dX10_drawn_44 : decode cX10_drawn 44 = .ok (.aload_n 0, 1) := by decide +kernel
theorem dX10_drawn_45 : decode cX10_drawn 45 = .ok (.getfield 26, 3) := by decide +kernel
theorem dX10_drawn_48 : decode cX10_drawn 48 = .ok (.lload 4, 2) := by decide +kernel
theorem dX10_drawn_50 : decode cX10_drawn 50 = .ok (.invokevirtual 189, 3) := by decide +kernel
theorem dX10_drawn_53 : decode cX10_drawn 53 = .ok (.pop, 1) := by decide +kernel
theorem dX10_drawn_54 : decode cX10_drawn 54 = .ok (.lload 4, 2) := by decide +kernel
theorem dX10_drawn_56 : decode cX10_drawn 56 = .ok (.lreturn, 1) := by decide +kernel
theorem dX10_words_0 : decode cX10_words 0 = .ok (.aload_n 0, 1) := by decide +kernel
theorem dX10_words_1 : decode cX10_words 1 = .ok (.getfield 62, 3) := by decide +kernel
theorem dX10_words_4 : decode cX10_words 4 = .ok (.aload_n 0, 1) := by decide +kernel
theorem dX10_words_5 : decode cX10_words 5 = .ok (.getfield 10, 3) := by decide +kernel
theorem dX10_words_8 : decode cX10_words 8 = .ok (.invokevirtual 218, 3) := by decide +kernel
theorem dX10_words_11 : decode cX10_words 11 = .ok (.lstore_n 1, 1) := by decide +kernel
theorem dX10_words_12 : decode cX10_words 12 = .ok (.aload_n 0, 1) := by decide +kernel
theorem dX10_words_13 : decode cX10_words 13 = .ok (.getfield 10, 3) := by decide +kernel
theorem dX10_words_16 : decode cX10_words 16 = .ok (.iconst 0, 1) := by decide +kernel
theorem dX10_words_17 : decode cX10_words 17 = .ok (.invokevirtual 91, 3) := by decide +kernel
theorem dX10_words_20 : decode cX10_words 20 = .ok (.pop, 1) := by decide +kernel
theorem dX10_words_21 : decode cX10_words 21 = .ok (.lload_n 1, 1) := by decide +kernel
theorem dX10_words_22 : decode cX10_words 22 = .ok (.lreturn, 1) := by decide +kernel
theorem dX10_wordRank_0 : decode cX10_wordRank 0 = .ok (.aload_n 0, 1) := by decide +kernel
theorem dX10_wordRank_1 : decode cX10_wordRank 1 = .ok (.getfield 62, 3) := by decide +kernel
theorem dX10_wordRank_4 : decode cX10_wordRank 4 = .ok (.getfield 222, 3) := by decide +kernel
theorem dX10_wordRank_7 : decode cX10_wordRank 7 = .ok (.lreturn, 1) := by decide +kernel
theorem dX10_word_0 : decode cX10_word 0 = .ok (.aload_n 0, 1) := by decide +kernel
theorem dX10_word_1 : decode cX10_word 1 = .ok (.getfield 62, 3) := by decide +kernel
theorem dX10_word_4 : decode cX10_word 4 = .ok (.lload_n 1, 1) := by decide +kernel
theorem dX10_word_5 : decode cX10_word 5 = .ok (.invokevirtual 226, 3) := by decide +kernel
theorem dX10_word_8 : decode cX10_word 8 = .ok (.ifCond .ne 13, 3) := by decide +kernel
theorem dX10_word_11 : decode cX10_word 11 = .ok (.new 137, 3) := by decide +kernel
theorem dX10_word_14 : decode cX10_word 14 = .ok (.dup, 1) := by decide +kernel
theorem dX10_word_15 : decode cX10_word 15 = .ok (.ldc 229, 2) := by decide +kernel
theorem dX10_word_17 : decode cX10_word 17 = .ok (.invokespecial 141, 3) := by decide +kernel
theorem dX10_word_20 : decode cX10_word 20 = .ok (.athrow, 1) := by decide +kernel
theorem dX10_word_21 : decode cX10_word 21 = .ok (.aload_n 0, 1) := by decide +kernel
theorem dX10_word_22 : decode cX10_word 22 = .ok (.getfield 62, 3) := by decide +kernel
theorem dX10_word_25 : decode cX10_word 25 = .ok (.aload_n 0, 1) := by decide +kernel
theorem dX10_word_26 : decode cX10_word 26 = .ok (.getfield 62, 3) := by decide +kernel
theorem dX10_word_29 : decode cX10_word 29 = .ok (.getfield 231, 3) := by decide +kernel
theorem dX10_word_32 : decode cX10_word 32 = .ok (.iconst 1, 1) := by decide +kernel
theorem dX10_word_33 : decode cX10_word 33 = .ok (.isub, 1) := by decide +kernel
theorem dX10_word_34 : decode cX10_word 34 = .ok (.invokevirtual 234, 3) := by decide +kernel
theorem dX10_word_37 : decode cX10_word 37 = .ok (.ireturn, 1) := by decide +kernel
theorem dX10_letterAt_0 : decode cX10_letterAt 0 = .ok (.aload_n 0, 1) := by decide +kernel
theorem dX10_letterAt_1 : decode cX10_letterAt 1 = .ok (.getfield 62, 3) := by decide +kernel
theorem dX10_letterAt_4 : decode cX10_letterAt 4 = .ok (.iload_n 1, 1) := by decide +kernel
theorem dX10_letterAt_5 : decode cX10_letterAt 5 = .ok (.invokevirtual 234, 3) := by decide +kernel
theorem dX10_letterAt_8 : decode cX10_letterAt 8 = .ok (.ireturn, 1) := by decide +kernel
theorem dX10_braid_0 : decode cX10_braid 0 = .ok (.iload_n 1, 1) := by decide +kernel
theorem dX10_braid_1 : decode cX10_braid 1 = .ok (.iconst 1, 1) := by decide +kernel
theorem dX10_braid_2 : decode cX10_braid 2 = .ok (.if_icmp .lt 18, 3) := by decide +kernel
theorem dX10_braid_5 : decode cX10_braid 5 = .ok (.iload_n 1, 1) := by decide +kernel
theorem dX10_braid_6 : decode cX10_braid 6 = .ok (.iconst 4, 1) := by decide +kernel
theorem dX10_braid_7 : decode cX10_braid 7 = .ok (.if_icmp .gt 13, 3) := by decide +kernel
theorem dX10_braid_10 : decode cX10_braid 10 = .ok (.iload_n 2, 1) := by decide +kernel
theorem dX10_braid_11 : decode cX10_braid 11 = .ok (.iconst 1, 1) := by decide +kernel
theorem dX10_braid_12 : decode cX10_braid 12 = .ok (.if_icmp .lt 8, 3) := by decide +kernel
theorem dX10_braid_15 : decode cX10_braid 15 = .ok (.iload_n 2, 1) := by decide +kernel
theorem dX10_braid_16 : decode cX10_braid 16 = .ok (.iconst 4, 1) := by decide +kernel
theorem dX10_braid_17 : decode cX10_braid 17 = .ok (.if_icmp .le 5, 3) := by decide +kernel
theorem dX10_braid_20 : decode cX10_braid 20 = .ok (.iconst (-1), 1) := by decide +kernel
theorem dX10_braid_21 : decode cX10_braid 21 = .ok (.ireturn, 1) := by decide +kernel
theorem dX10_braid_22 : decode cX10_braid 22 = .ok (.iconst 1, 1) := by decide +kernel
theorem dX10_braid_23 : decode cX10_braid 23 = .ok (.istore_n 3, 1) := by decide +kernel
theorem dX10_braid_24 : decode cX10_braid 24 = .ok (.iconst 1, 1) := by decide +kernel
theorem dX10_braid_25 : decode cX10_braid 25 = .ok (.istore 4, 2) := by decide +kernel
theorem dX10_braid_27 : decode cX10_braid 27 = .ok (.iload 4, 2) := by decide +kernel
theorem dX10_braid_29 : decode cX10_braid 29 = .ok (.iload_n 2, 1) := by decide +kernel
theorem dX10_braid_30 : decode cX10_braid 30 = .ok (.if_icmp .ge 13, 3) := by decide +kernel
theorem dX10_braid_33 : decode cX10_braid 33 = .ok (.iload_n 3, 1) := by decide +kernel
theorem dX10_braid_34 : decode cX10_braid 34 = .ok (.iload_n 1, 1) := by decide +kernel
theorem dX10_braid_35 : decode cX10_braid 35 = .ok (.imul, 1) := by decide +kernel
theorem dX10_braid_36 : decode cX10_braid 36 = .ok (.istore_n 3, 1) := by decide +kernel
theorem dX10_braid_37 : decode cX10_braid 37 = .ok (.iinc 4 1, 3) := by decide +kernel
theorem dX10_braid_40 : decode cX10_braid 40 = .ok (.goto (-13), 3) := by decide +kernel
theorem dX10_braid_43 : decode cX10_braid 43 = .ok (.iload_n 3, 1) := by decide +kernel
theorem dX10_braid_44 : decode cX10_braid 44 = .ok (.iload_n 1, 1) := by decide +kernel
theorem dX10_braid_45 : decode cX10_braid 45 = .ok (.imul, 1) := by decide +kernel
theorem dX10_braid_46 : decode cX10_braid 46 = .ok (.bipush 16, 2) := by decide +kernel
theorem dX10_braid_48 : decode cX10_braid 48 = .ok (.if_icmp .le 5, 3) := by decide +kernel
theorem dX10_braid_51 : decode cX10_braid 51 = .ok (.iconst (-1), 1) := by decide +kernel
theorem dX10_braid_52 : decode cX10_braid 52 = .ok (.ireturn, 1) := by decide +kernel
theorem dX10_braid_53 : decode cX10_braid 53 = .ok (.aload_n 0, 1) := by decide +kernel
theorem dX10_braid_54 : decode cX10_braid 54 = .ok (.getfield 33, 3) := by decide +kernel
theorem dX10_braid_57 : decode cX10_braid 57 = .ok (.aload_n 0, 1) := by decide +kernel
theorem dX10_braid_58 : decode cX10_braid 58 = .ok (.getfield 26, 3) := by decide +kernel
theorem dX10_braid_61 : decode cX10_braid 61 = .ok (.invokevirtual 235, 3) := by decide +kernel
theorem dX10_braid_64 : decode cX10_braid 64 = .ok (.aload_n 0, 1) := by decide +kernel
theorem dX10_braid_65 : decode cX10_braid 65 = .ok (.getfield 26, 3) := by decide +kernel
theorem dX10_braid_68 : decode cX10_braid 68 = .ok (.iload_n 1, 1) := by decide +kernel
theorem dX10_braid_69 : decode cX10_braid 69 = .ok (.iload_n 3, 1) := by decide +kernel
theorem dX10_braid_70 : decode cX10_braid 70 = .ok (.invokevirtual 238, 3) := by decide +kernel
theorem dX10_braid_73 : decode cX10_braid 73 = .ok (.aload_n 0, 1) := by decide +kernel
theorem dX10_braid_74 : decode cX10_braid 74 = .ok (.getfield 33, 3) := by decide +kernel
theorem dX10_braid_77 : decode cX10_braid 77 = .ok (.invokevirtual 242, 3) := by decide +kernel
theorem dX10_braid_80 : decode cX10_braid 80 = .ok (.aload_n 0, 1) := by decide +kernel
theorem dX10_braid_81 : decode cX10_braid 81 = .ok (.getfield 26, 3) := by decide +kernel
theorem dX10_braid_84 : decode cX10_braid 84 = .ok (.getfield 115, 3) := by decide +kernel
theorem dX10_braid_87 : decode cX10_braid 87 = .ok (.ireturn, 1) := by decide +kernel
theorem dX10_again_0 : decode cX10_again 0 = .ok (.aload_n 0, 1) := by decide +kernel
theorem dX10_again_1 : decode cX10_again 1 = .ok (.getfield 26, 3) := by decide +kernel
theorem dX10_again_4 : decode cX10_again 4 = .ok (.getfield 115, 3) := by decide +kernel
theorem dX10_again_7 : decode cX10_again 7 = .ok (.ifCond .eq 13, 3) := by decide +kernel
theorem dX10_again_10 : decode cX10_again 10 = .ok (.aload_n 0, 1) := by decide +kernel
theorem dX10_again_11 : decode cX10_again 11 = .ok (.getfield 26, 3) := by decide +kernel
theorem dX10_again_14 : decode cX10_again 14 = .ok (.invokevirtual 130, 3) := by decide +kernel
theorem dX10_again_17 : decode cX10_again 17 = .ok (.ifCond .ne 5, 3) := by decide +kernel
theorem dX10_again_20 : decode cX10_again 20 = .ok (.iconst (-1), 1) := by decide +kernel
theorem dX10_again_21 : decode cX10_again 21 = .ok (.ireturn, 1) := by decide +kernel
theorem dX10_again_22 : decode cX10_again 22 = .ok (.aload_n 0, 1) := by decide +kernel
theorem dX10_again_23 : decode cX10_again 23 = .ok (.getfield 69, 3) := by decide +kernel
theorem dX10_again_26 : decode cX10_again 26 = .ok (.aload_n 0, 1) := by decide +kernel
theorem dX10_again_27 : decode cX10_again 27 = .ok (.getfield 26, 3) := by decide +kernel
theorem dX10_again_30 : decode cX10_again 30 = .ok (.invokevirtual 245, 3) := by decide +kernel
theorem dX10_again_33 : decode cX10_again 33 = .ok (.ireturn, 1) := by decide +kernel
theorem dX10_lack_0 : decode cX10_lack 0 = .ok (.aload_n 0, 1) := by decide +kernel
theorem dX10_lack_1 : decode cX10_lack 1 = .ok (.getfield 26, 3) := by decide +kernel
theorem dX10_lack_4 : decode cX10_lack 4 = .ok (.getfield 115, 3) := by decide +kernel
theorem dX10_lack_7 : decode cX10_lack 7 = .ok (.ifCond .eq 13, 3) := by decide +kernel
theorem dX10_lack_10 : decode cX10_lack 10 = .ok (.aload_n 0, 1) := by decide +kernel
theorem dX10_lack_11 : decode cX10_lack 11 = .ok (.getfield 26, 3) := by decide +kernel
theorem dX10_lack_14 : decode cX10_lack 14 = .ok (.invokevirtual 122, 3) := by decide +kernel
theorem dX10_lack_17 : decode cX10_lack 17 = .ok (.ifCond .ne 5, 3) := by decide +kernel
theorem dX10_lack_20 : decode cX10_lack 20 = .ok (.iconst (-1), 1) := by decide +kernel
theorem dX10_lack_21 : decode cX10_lack 21 = .ok (.ireturn, 1) := by decide +kernel
theorem dX10_lack_22 : decode cX10_lack 22 = .ok (.iconst 0, 1) := by decide +kernel
theorem dX10_lack_23 : decode cX10_lack 23 = .ok (.istore_n 1, 1) := by decide +kernel
theorem dX10_lack_24 : decode cX10_lack 24 = .ok (.iconst 0, 1) := by decide +kernel
theorem dX10_lack_25 : decode cX10_lack 25 = .ok (.istore_n 2, 1) := by decide +kernel
theorem dX10_lack_26 : decode cX10_lack 26 = .ok (.iload_n 2, 1) := by decide +kernel
theorem dX10_lack_27 : decode cX10_lack 27 = .ok (.aload_n 0, 1) := by decide +kernel
theorem dX10_lack_28 : decode cX10_lack 28 = .ok (.getfield 26, 3) := by decide +kernel
theorem dX10_lack_31 : decode cX10_lack 31 = .ok (.getfield 112, 3) := by decide +kernel
theorem dX10_lack_34 : decode cX10_lack 34 = .ok (.if_icmp .ge 24, 3) := by decide +kernel
theorem dX10_lack_37 : decode cX10_lack 37 = .ok (.iload_n 1, 1) := by decide +kernel
theorem dX10_lack_38 : decode cX10_lack 38 = .ok (.iconst 0, 1) := by decide +kernel
theorem dX10_lack_39 : decode cX10_lack 39 = .ok (.aload_n 0, 1) := by decide +kernel
theorem dX10_lack_40 : decode cX10_lack 40 = .ok (.getfield 26, 3) := by decide +kernel
theorem dX10_lack_43 : decode cX10_lack 43 = .ok (.iload_n 2, 1) := by decide +kernel
theorem dX10_lack_44 : decode cX10_lack 44 = .ok (.invokevirtual 249, 3) := by decide +kernel
theorem dX10_lack_47 : decode cX10_lack 47 = .ok (.invokestatic 252, 3) := by decide +kernel
theorem dX10_lack_50 : decode cX10_lack 50 = .ok (.iadd, 1) := by decide +kernel
theorem dX10_lack_51 : decode cX10_lack 51 = .ok (.istore_n 1, 1) := by decide +kernel
theorem dX10_lack_52 : decode cX10_lack 52 = .ok (.iinc 2 1, 3) := by decide +kernel
theorem dX10_lack_55 : decode cX10_lack 55 = .ok (.goto (-29), 3) := by decide +kernel
theorem dX10_lack_58 : decode cX10_lack 58 = .ok (.iconst 0, 1) := by decide +kernel
theorem dX10_lack_59 : decode cX10_lack 59 = .ok (.iload_n 1, 1) := by decide +kernel
theorem dX10_lack_60 : decode cX10_lack 60 = .ok (.iconst 1, 1) := by decide +kernel
theorem dX10_lack_61 : decode cX10_lack 61 = .ok (.isub, 1) := by decide +kernel
theorem dX10_lack_62 : decode cX10_lack 62 = .ok (.invokestatic 252, 3) := by decide +kernel
theorem dX10_lack_65 : decode cX10_lack 65 = .ok (.ireturn, 1) := by decide +kernel
theorem dX10_righted_0 : decode cX10_righted 0 = .ok (.iload_n 1, 1) := by decide +kernel
theorem dX10_righted_1 : decode cX10_righted 1 = .ok (.ifCond .lt 8, 3) := by decide +kernel
theorem dX10_righted_4 : decode cX10_righted 4 = .ok (.iload_n 1, 1) := by decide +kernel
theorem dX10_righted_5 : decode cX10_righted 5 = .ok (.iconst 1, 1) := by decide +kernel
theorem dX10_righted_6 : decode cX10_righted 6 = .ok (.if_icmp .le 5, 3) := by decide +kernel
theorem dX10_righted_9 : decode cX10_righted 9 = .ok (.iconst (-1), 1) := by decide +kernel
theorem dX10_righted_10 : decode cX10_righted 10 = .ok (.ireturn, 1) := by decide +kernel
theorem dX10_righted_11 : decode cX10_righted 11 = .ok (.aload_n 0, 1) := by decide +kernel
theorem dX10_righted_12 : decode cX10_righted 12 = .ok (.getfield 69, 3) := by decide +kernel
theorem dX10_righted_15 : decode cX10_righted 15 = .ok (.aload_n 0, 1) := by decide +kernel
theorem dX10_righted_16 : decode cX10_righted 16 = .ok (.getfield 26, 3) := by decide +kernel
theorem dX10_righted_19 : decode cX10_righted 19 = .ok (.invokevirtual 258, 3) := by decide +kernel
theorem dX10_righted_22 : decode cX10_righted 22 = .ok (.istore_n 2, 1) := by decide +kernel
theorem dX10_righted_23 : decode cX10_righted 23 = .ok (.iload_n 2, 1) := by decide +kernel
theorem dX10_righted_24 : decode cX10_righted 24 = .ok (.iconst (-1), 1) := by decide +kernel
theorem dX10_righted_25 : decode cX10_righted 25 = .ok (.if_icmp .ne 5, 3) := by decide +kernel
theorem dX10_righted_28 : decode cX10_righted 28 = .ok (.iconst (-1), 1) := by decide +kernel
theorem dX10_righted_29 : decode cX10_righted 29 = .ok (.ireturn, 1) := by decide +kernel
theorem dX10_righted_30 : decode cX10_righted 30 = .ok (.iload_n 1, 1) := by decide +kernel
theorem dX10_righted_31 : decode cX10_righted 31 = .ok (.ifCond .ne 10, 3) := by decide +kernel
theorem dX10_righted_34 : decode cX10_righted 34 = .ok (.iload_n 2, 1) := by decide +kernel
theorem dX10_righted_35 : decode cX10_righted 35 = .ok (.invokestatic 261, 3) := by decide +kernel
theorem dX10_righted_38 : decode cX10_righted 38 = .ok (.goto 4, 3) := by decide +kernel
theorem dX10_righted_41 : decode cX10_righted 41 = .ok (.iload_n 2, 1) := by decide +kernel
theorem dX10_righted_42 : decode cX10_righted 42 = .ok (.ireturn, 1) := by decide +kernel
theorem dX10_add_0 : decode cX10_add 0 = .ok (.aload_n 0, 1) := by decide +kernel
theorem dX10_add_1 : decode cX10_add 1 = .ok (.getfield 26, 3) := by decide +kernel
theorem dX10_add_4 : decode cX10_add 4 = .ok (.iload_n 1, 1) := by decide +kernel
theorem dX10_add_5 : decode cX10_add 5 = .ok (.invokevirtual 151, 3) := by decide +kernel
theorem dX10_add_8 : decode cX10_add 8 = .ok (.ifCond .eq 26, 3) := by decide +kernel
theorem dX10_add_11 : decode cX10_add 11 = .ok (.aload_n 0, 1) := by decide +kernel
theorem dX10_add_12 : decode cX10_add 12 = .ok (.getfield 26, 3) := by decide +kernel
theorem dX10_add_15 : decode cX10_add 15 = .ok (.iload_n 2, 1) := by decide +kernel
theorem dX10_add_16 : decode cX10_add 16 = .ok (.invokevirtual 151, 3) := by decide +kernel
theorem dX10_add_19 : decode cX10_add 19 = .ok (.ifCond .eq 15, 3) := by decide +kernel
theorem dX10_add_22 : decode cX10_add 22 = .ok (.aload_n 0, 1) := by decide +kernel
theorem dX10_add_23 : decode cX10_add 23 = .ok (.getfield 26, 3) := by decide +kernel
theorem dX10_add_26 : decode cX10_add 26 = .ok (.getfield 115, 3) := by decide +kernel
theorem dX10_add_29 : decode cX10_add 29 = .ok (.bipush 16, 2) := by decide +kernel
theorem dX10_add_31 : decode cX10_add 31 = .ok (.if_icmp .lt 5, 3) := by decide +kernel
theorem dX10_add_34 : decode cX10_add 34 = .ok (.iconst (-1), 1) := by decide +kernel
theorem dX10_add_35 : decode cX10_add 35 = .ok (.ireturn, 1) := by decide +kernel
theorem dX10_add_36 : decode cX10_add 36 = .ok (.aload_n 0, 1) := by decide +kernel
theorem dX10_add_37 : decode cX10_add 37 = .ok (.getfield 33, 3) := by decide +kernel
theorem dX10_add_40 : decode cX10_add 40 = .ok (.aload_n 0, 1) := by decide +kernel
theorem dX10_add_41 : decode cX10_add 41 = .ok (.getfield 26, 3) := by decide +kernel
theorem dX10_add_44 : decode cX10_add 44 = .ok (.invokevirtual 235, 3) := by decide +kernel
theorem dX10_add_47 : decode cX10_add 47 = .ok (.aload_n 0, 1) := by decide +kernel
theorem dX10_add_48 : decode cX10_add 48 = .ok (.getfield 26, 3) := by decide +kernel
theorem dX10_add_51 : decode cX10_add 51 = .ok (.iload_n 1, 1) := by decide +kernel
theorem dX10_add_52 : decode cX10_add 52 = .ok (.iload_n 2, 1) := by decide +kernel
theorem dX10_add_53 : decode cX10_add 53 = .ok (.invokevirtual 266, 3) := by decide +kernel
theorem dX10_add_56 : decode cX10_add 56 = .ok (.aload_n 0, 1) := by decide +kernel
theorem dX10_add_57 : decode cX10_add 57 = .ok (.getfield 33, 3) := by decide +kernel
theorem dX10_add_60 : decode cX10_add 60 = .ok (.invokevirtual 242, 3) := by decide +kernel
theorem dX10_add_63 : decode cX10_add 63 = .ok (.aload_n 0, 1) := by decide +kernel
theorem dX10_add_64 : decode cX10_add 64 = .ok (.getfield 26, 3) := by decide +kernel
theorem dX10_add_67 : decode cX10_add 67 = .ok (.getfield 115, 3) := by decide +kernel
theorem dX10_add_70 : decode cX10_add 70 = .ok (.iconst 1, 1) := by decide +kernel
theorem dX10_add_71 : decode cX10_add 71 = .ok (.isub, 1) := by decide +kernel
theorem dX10_add_72 : decode cX10_add 72 = .ok (.ireturn, 1) := by decide +kernel
theorem dX10_drop_0 : decode cX10_drop 0 = .ok (.aload_n 0, 1) := by decide +kernel
theorem dX10_drop_1 : decode cX10_drop 1 = .ok (.getfield 26, 3) := by decide +kernel
theorem dX10_drop_4 : decode cX10_drop 4 = .ok (.iload_n 1, 1) := by decide +kernel
theorem dX10_drop_5 : decode cX10_drop 5 = .ok (.invokevirtual 134, 3) := by decide +kernel
theorem dX10_drop_8 : decode cX10_drop 8 = .ok (.ifCond .ne 5, 3) := by decide +kernel
theorem dX10_drop_11 : decode cX10_drop 11 = .ok (.iconst (-1), 1) := by decide +kernel
theorem dX10_drop_12 : decode cX10_drop 12 = .ok (.ireturn, 1) := by decide +kernel
theorem dX10_drop_13 : decode cX10_drop 13 = .ok (.aload_n 0, 1) := by decide +kernel
theorem dX10_drop_14 : decode cX10_drop 14 = .ok (.getfield 33, 3) := by decide +kernel
theorem dX10_drop_17 : decode cX10_drop 17 = .ok (.aload_n 0, 1) := by decide +kernel
theorem dX10_drop_18 : decode cX10_drop 18 = .ok (.getfield 26, 3) := by decide +kernel
theorem dX10_drop_21 : decode cX10_drop 21 = .ok (.invokevirtual 235, 3) := by decide +kernel
theorem dX10_drop_24 : decode cX10_drop 24 = .ok (.aload_n 0, 1) := by decide +kernel
theorem dX10_drop_25 : decode cX10_drop 25 = .ok (.getfield 26, 3) := by decide +kernel
theorem dX10_drop_28 : decode cX10_drop 28 = .ok (.iload_n 1, 1) := by decide +kernel
theorem dX10_drop_29 : decode cX10_drop 29 = .ok (.invokevirtual 269, 3) := by decide +kernel
theorem dX10_drop_32 : decode cX10_drop 32 = .ok (.aload_n 0, 1) := by decide +kernel
theorem dX10_drop_33 : decode cX10_drop 33 = .ok (.getfield 33, 3) := by decide +kernel
theorem dX10_drop_36 : decode cX10_drop 36 = .ok (.invokevirtual 242, 3) := by decide +kernel
theorem dX10_drop_39 : decode cX10_drop 39 = .ok (.aload_n 0, 1) := by decide +kernel
theorem dX10_drop_40 : decode cX10_drop 40 = .ok (.getfield 26, 3) := by decide +kernel
theorem dX10_drop_43 : decode cX10_drop 43 = .ok (.getfield 115, 3) := by decide +kernel
theorem dX10_drop_46 : decode cX10_drop 46 = .ok (.ireturn, 1) := by decide +kernel
theorem dX10_turn_0 : decode cX10_turn 0 = .ok (.aload_n 0, 1) := by decide +kernel
theorem dX10_turn_1 : decode cX10_turn 1 = .ok (.getfield 26, 3) := by decide +kernel
theorem dX10_turn_4 : decode cX10_turn 4 = .ok (.iload_n 1, 1) := by decide +kernel
theorem dX10_turn_5 : decode cX10_turn 5 = .ok (.invokevirtual 134, 3) := by decide +kernel
theorem dX10_turn_8 : decode cX10_turn 8 = .ok (.ifCond .ne 5, 3) := by decide +kernel
theorem dX10_turn_11 : decode cX10_turn 11 = .ok (.iconst (-1), 1) := by decide +kernel
theorem dX10_turn_12 : decode cX10_turn 12 = .ok (.ireturn, 1) := by decide +kernel
theorem dX10_turn_13 : decode cX10_turn 13 = .ok (.aload_n 0, 1) := by decide +kernel
theorem dX10_turn_14 : decode cX10_turn 14 = .ok (.getfield 33, 3) := by decide +kernel
theorem dX10_turn_17 : decode cX10_turn 17 = .ok (.aload_n 0, 1) := by decide +kernel
theorem dX10_turn_18 : decode cX10_turn 18 = .ok (.getfield 26, 3) := by decide +kernel
theorem dX10_turn_21 : decode cX10_turn 21 = .ok (.invokevirtual 235, 3) := by decide +kernel
theorem dX10_turn_24 : decode cX10_turn 24 = .ok (.aload_n 0, 1) := by decide +kernel
theorem dX10_turn_25 : decode cX10_turn 25 = .ok (.getfield 26, 3) := by decide +kernel
theorem dX10_turn_28 : decode cX10_turn 28 = .ok (.iload_n 1, 1) := by decide +kernel
theorem dX10_turn_29 : decode cX10_turn 29 = .ok (.invokevirtual 272, 3) := by decide +kernel
theorem dX10_turn_32 : decode cX10_turn 32 = .ok (.aload_n 0, 1) := by decide +kernel
theorem dX10_turn_33 : decode cX10_turn 33 = .ok (.getfield 33, 3) := by decide +kernel
theorem dX10_turn_36 : decode cX10_turn 36 = .ok (.invokevirtual 242, 3) := by decide +kernel
theorem dX10_turn_39 : decode cX10_turn 39 = .ok (.aload_n 0, 1) := by decide +kernel
theorem dX10_turn_40 : decode cX10_turn 40 = .ok (.getfield 26, 3) := by decide +kernel
theorem dX10_turn_43 : decode cX10_turn 43 = .ok (.getfield 148, 3) := by decide +kernel
theorem dX10_turn_46 : decode cX10_turn 46 = .ok (.iload_n 1, 1) := by decide +kernel
theorem dX10_turn_47 : decode cX10_turn 47 = .ok (.iaload, 1) := by decide +kernel
theorem dX10_turn_48 : decode cX10_turn 48 = .ok (.ireturn, 1) := by decide +kernel
theorem dX10_deeds_0 : decode cX10_deeds 0 = .ok (.iload_n 1, 1) := by decide +kernel
theorem dX10_deeds_1 : decode cX10_deeds 1 = .ok (.iconst 1, 1) := by decide +kernel
theorem dX10_deeds_2 : decode cX10_deeds 2 = .ok (.if_icmp .lt 9, 3) := by decide +kernel
theorem dX10_deeds_5 : decode cX10_deeds 5 = .ok (.iload_n 1, 1) := by decide +kernel
theorem dX10_deeds_6 : decode cX10_deeds 6 = .ok (.bipush 60, 2) := by decide +kernel
theorem dX10_deeds_8 : decode cX10_deeds 8 = .ok (.if_icmp .le 5, 3) := by decide +kernel
theorem dX10_deeds_11 : decode cX10_deeds 11 = .ok (.iconst (-1), 1) := by decide +kernel
theorem dX10_deeds_12 : decode cX10_deeds 12 = .ok (.ireturn, 1) := by decide +kernel
theorem dX10_deeds_13 : decode cX10_deeds 13 = .ok (.aload_n 0, 1) := by decide +kernel
theorem dX10_deeds_14 : decode cX10_deeds 14 = .ok (.getfield 33, 3) := by decide +kernel
theorem dX10_deeds_17 : decode cX10_deeds 17 = .ok (.aload_n 0, 1) := by decide +kernel
theorem dX10_deeds_18 : decode cX10_deeds 18 = .ok (.getfield 26, 3) := by decide +kernel
theorem dX10_deeds_21 : decode cX10_deeds 21 = .ok (.invokevirtual 235, 3) := by decide +kernel
theorem dX10_deeds_24 : decode cX10_deeds 24 = .ok (.aload_n 0, 1) := by decide +kernel
theorem dX10_deeds_25 : decode cX10_deeds 25 = .ok (.getfield 76, 3) := by decide +kernel
theorem dX10_deeds_28 : decode cX10_deeds 28 = .ok (.iload_n 2, 1) := by decide +kernel
theorem dX10_deeds_29 : decode cX10_deeds 29 = .ok (.invokevirtual 211, 3) := by decide +kernel
theorem dX10_deeds_32 : decode cX10_deeds 32 = .ok (.iconst 0, 1) := by decide +kernel
theorem dX10_deeds_33 : decode cX10_deeds 33 = .ok (.istore_n 3, 1) := by decide +kernel
theorem dX10_deeds_34 : decode cX10_deeds 34 = .ok (.iconst 0, 1) := by decide +kernel
theorem dX10_deeds_35 : decode cX10_deeds 35 = .ok (.istore 4, 2) := by decide +kernel
theorem dX10_deeds_37 : decode cX10_deeds 37 = .ok (.iload 4, 2) := by decide +kernel
theorem dX10_deeds_39 : decode cX10_deeds 39 = .ok (.iload_n 1, 1) := by decide +kernel
theorem dX10_deeds_40 : decode cX10_deeds 40 = .ok (.if_icmp .ge 26, 3) := by decide +kernel
theorem dX10_deeds_43 : decode cX10_deeds 43 = .ok (.aload_n 0, 1) := by decide +kernel
theorem dX10_deeds_44 : decode cX10_deeds 44 = .ok (.getfield 76, 3) := by decide +kernel
theorem dX10_deeds_47 : decode cX10_deeds 47 = .ok (.aload_n 0, 1) := by decide +kernel
theorem dX10_deeds_48 : decode cX10_deeds 48 = .ok (.getfield 26, 3) := by decide +kernel
theorem dX10_deeds_51 : decode cX10_deeds 51 = .ok (.invokevirtual 275, 3) := by decide +kernel
theorem dX10_deeds_54 : decode cX10_deeds 54 = .ok (.ifCond .eq 6, 3) := by decide +kernel
theorem dX10_deeds_57 : decode cX10_deeds 57 = .ok (.iinc 3 1, 3) := by decide +kernel
theorem dX10_deeds_60 : decode cX10_deeds 60 = .ok (.iinc 4 1, 3) := by decide +kernel
theorem dX10_deeds_63 : decode cX10_deeds 63 = .ok (.goto (-26), 3) := by decide +kernel
theorem dX10_deeds_66 : decode cX10_deeds 66 = .ok (.iload_n 3, 1) := by decide +kernel
theorem dX10_deeds_67 : decode cX10_deeds 67 = .ok (.ifCond .le 10, 3) := by decide +kernel
theorem dX10_deeds_70 : decode cX10_deeds 70 = .ok (.aload_n 0, 1) := by decide +kernel
theorem dX10_deeds_71 : decode cX10_deeds 71 = .ok (.getfield 33, 3) := by decide +kernel
theorem dX10_deeds_74 : decode cX10_deeds 74 = .ok (.invokevirtual 242, 3) := by decide +kernel
theorem dX10_deeds_77 : decode cX10_deeds 77 = .ok (.iload_n 3, 1) := by decide +kernel
theorem dX10_deeds_78 : decode cX10_deeds 78 = .ok (.ireturn, 1) := by decide +kernel
theorem dX10_undo_0 : decode cX10_undo 0 = .ok (.aload_n 0, 1) := by decide +kernel
theorem dX10_undo_1 : decode cX10_undo 1 = .ok (.getfield 33, 3) := by decide +kernel
theorem dX10_undo_4 : decode cX10_undo 4 = .ok (.aload_n 0, 1) := by decide +kernel
theorem dX10_undo_5 : decode cX10_undo 5 = .ok (.getfield 26, 3) := by decide +kernel
theorem dX10_undo_8 : decode cX10_undo 8 = .ok (.invokevirtual 279, 3) := by decide +kernel
theorem dX10_undo_11 : decode cX10_undo 11 = .ok (.ireturn, 1) := by decide +kernel
theorem dX10_image_0 : decode cX10_image 0 = .ok (.iload_n 1, 1) := by decide +kernel
theorem dX10_image_1 : decode cX10_image 1 = .ok (.ifCond .lt 8, 3) := by decide +kernel
theorem dX10_image_4 : decode cX10_image 4 = .ok (.iload_n 1, 1) := by decide +kernel
theorem dX10_image_5 : decode cX10_image 5 = .ok (.iconst 2, 1) := by decide +kernel
theorem dX10_image_6 : decode cX10_image 6 = .ok (.if_icmp .lt 5, 3) := by decide +kernel
theorem dX10_image_9 : decode cX10_image 9 = .ok (.iconst 0, 1) := by decide +kernel
theorem dX10_image_10 : decode cX10_image 10 = .ok (.ireturn, 1) := by decide +kernel
theorem dX10_image_11 : decode cX10_image 11 = .ok (.aload_n 0, 1) := by decide +kernel
theorem dX10_image_12 : decode cX10_image 12 = .ok (.getfield 37, 3) := by decide +kernel
theorem dX10_image_15 : decode cX10_image 15 = .ok (.iload_n 1, 1) := by decide +kernel
theorem dX10_image_16 : decode cX10_image 16 = .ok (.aaload, 1) := by decide +kernel
theorem dX10_image_17 : decode cX10_image 17 = .ok (.aload_n 0, 1) := by decide +kernel
theorem dX10_image_18 : decode cX10_image 18 = .ok (.getfield 26, 3) := by decide +kernel
theorem dX10_image_21 : decode cX10_image 21 = .ok (.invokevirtual 105, 3) := by decide +kernel
theorem dX10_image_24 : decode cX10_image 24 = .ok (.aload_n 0, 1) := by decide +kernel
theorem dX10_image_25 : decode cX10_image 25 = .ok (.getfield 41, 3) := by decide +kernel
theorem dX10_image_28 : decode cX10_image 28 = .ok (.iload_n 1, 1) := by decide +kernel
theorem dX10_image_29 : decode cX10_image 29 = .ok (.iconst 1, 1) := by decide +kernel
theorem dX10_image_30 : decode cX10_image 30 = .ok (.bastore, 1) := by decide +kernel
theorem dX10_image_31 : decode cX10_image 31 = .ok (.iconst 1, 1) := by decide +kernel
theorem dX10_image_32 : decode cX10_image 32 = .ok (.ireturn, 1) := by decide +kernel
theorem dX10_restore_0 : decode cX10_restore 0 = .ok (.iload_n 1, 1) := by decide +kernel
theorem dX10_restore_1 : decode cX10_restore 1 = .ok (.ifCond .lt 17, 3) := by decide +kernel
theorem dX10_restore_4 : decode cX10_restore 4 = .ok (.iload_n 1, 1) := by decide +kernel
theorem dX10_restore_5 : decode cX10_restore 5 = .ok (.iconst 2, 1) := by decide +kernel
theorem dX10_restore_6 : decode cX10_restore 6 = .ok (.if_icmp .ge 12, 3) := by decide +kernel
theorem dX10_restore_9 : decode cX10_restore 9 = .ok (.aload_n 0, 1) := by decide +kernel
theorem dX10_restore_10 : decode cX10_restore 10 = .ok (.getfield 41, 3) := by decide +kernel
theorem dX10_restore_13 : decode cX10_restore 13 = .ok (.iload_n 1, 1) := by decide +kernel
theorem dX10_restore_14 : decode cX10_restore 14 = .ok (.baload, 1) := by decide +kernel
theorem dX10_restore_15 : decode cX10_restore 15 = .ok (.ifCond .ne 5, 3) := by decide +kernel
theorem dX10_restore_18 : decode cX10_restore 18 = .ok (.iconst 0, 1) := by decide +kernel
theorem dX10_restore_19 : decode cX10_restore 19 = .ok (.ireturn, 1) := by decide +kernel
theorem dX10_restore_20 : decode cX10_restore 20 = .ok (.aload_n 0, 1) := by decide +kernel
theorem dX10_restore_21 : decode cX10_restore 21 = .ok (.getfield 26, 3) := by decide +kernel
theorem dX10_restore_24 : decode cX10_restore 24 = .ok (.aload_n 0, 1) := by decide +kernel
theorem dX10_restore_25 : decode cX10_restore 25 = .ok (.getfield 37, 3) := by decide +kernel
theorem dX10_restore_28 : decode cX10_restore 28 = .ok (.iload_n 1, 1) := by decide +kernel
theorem dX10_restore_29 : decode cX10_restore 29 = .ok (.aaload, 1) := by decide +kernel
theorem dX10_restore_30 : decode cX10_restore 30 = .ok (.invokevirtual 105, 3) := by decide +kernel
theorem dX10_restore_33 : decode cX10_restore 33 = .ok (.aload_n 0, 1) := by decide +kernel
theorem dX10_restore_34 : decode cX10_restore 34 = .ok (.getfield 33, 3) := by decide +kernel
theorem dX10_restore_37 : decode cX10_restore 37 = .ok (.invokevirtual 109, 3) := by decide +kernel
theorem dX10_restore_40 : decode cX10_restore 40 = .ok (.iconst 1, 1) := by decide +kernel
theorem dX10_restore_41 : decode cX10_restore 41 = .ok (.ireturn, 1) := by decide +kernel
theorem dX10_inSet_0 : decode cX10_inSet 0 = .ok (.iload_n 0, 1) := by decide +kernel
theorem dX10_inSet_1 : decode cX10_inSet 1 = .ok (.iload_n 1, 1) := by decide +kernel
theorem dX10_inSet_2 : decode cX10_inSet 2 = .ok (.iushr, 1) := by decide +kernel
theorem dX10_inSet_3 : decode cX10_inSet 3 = .ok (.iconst 1, 1) := by decide +kernel
theorem dX10_inSet_4 : decode cX10_inSet 4 = .ok (.iand, 1) := by decide +kernel
theorem dX10_inSet_5 : decode cX10_inSet 5 = .ok (.ifCond .eq 7, 3) := by decide +kernel
theorem dX10_inSet_8 : decode cX10_inSet 8 = .ok (.iconst 1, 1) := by decide +kernel
theorem dX10_inSet_9 : decode cX10_inSet 9 = .ok (.goto 4, 3) := by decide +kernel
theorem dX10_inSet_12 : decode cX10_inSet 12 = .ok (.iconst 0, 1) := by decide +kernel
theorem dX10_inSet_13 : decode cX10_inSet 13 = .ok (.ireturn, 1) := by decide +kernel
theorem dX10_isSmallLetter_0 : decode cX10_isSmallLetter 0 = .ok (.iload_n 0, 1) := by decide +kernel
theorem dX10_isSmallLetter_1 : decode cX10_isSmallLetter 1 = .ok (.bipush 97, 2) := by decide +kernel
theorem dX10_isSmallLetter_3 : decode cX10_isSmallLetter 3 = .ok (.if_icmp .lt 13, 3) := by decide +kernel
theorem dX10_isSmallLetter_6 : decode cX10_isSmallLetter 6 = .ok (.iload_n 0, 1) := by decide +kernel
theorem dX10_isSmallLetter_7 : decode cX10_isSmallLetter 7 = .ok (.bipush 122, 2) := by decide +kernel
theorem dX10_isSmallLetter_9 : decode cX10_isSmallLetter 9 = .ok (.if_icmp .gt 7, 3) := by decide +kernel
theorem dX10_isSmallLetter_12 : decode cX10_isSmallLetter 12 = .ok (.iconst 1, 1) := by decide +kernel
theorem dX10_isSmallLetter_13 : decode cX10_isSmallLetter 13 = .ok (.goto 4, 3) := by decide +kernel
theorem dX10_isSmallLetter_16 : decode cX10_isSmallLetter 16 = .ok (.iconst 0, 1) := by decide +kernel
theorem dX10_isSmallLetter_17 : decode cX10_isSmallLetter 17 = .ok (.ireturn, 1) := by decide +kernel
theorem dX10_factorial_0 : decode cX10_factorial 0 = .ok (.iload_n 0, 1) := by decide +kernel
theorem dX10_factorial_1 : decode cX10_factorial 1 = .ok (.ifCond .lt 19, 3) := by decide +kernel
theorem dX10_factorial_4 : decode cX10_factorial 4 = .ok (.iload_n 0, 1) := by decide +kernel
theorem dX10_factorial_5 : decode cX10_factorial 5 = .ok (.getstatic 282, 3) := by decide +kernel
theorem dX10_factorial_8 : decode cX10_factorial 8 = .ok (.arraylength, 1) := by decide +kernel
theorem dX10_factorial_9 : decode cX10_factorial 9 = .ok (.if_icmp .ge 11, 3) := by decide +kernel
theorem dX10_factorial_12 : decode cX10_factorial 12 = .ok (.getstatic 282, 3) := by decide +kernel
theorem dX10_factorial_15 : decode cX10_factorial 15 = .ok (.iload_n 0, 1) := by decide +kernel
theorem dX10_factorial_16 : decode cX10_factorial 16 = .ok (.laload, 1) := by decide +kernel
theorem dX10_factorial_17 : decode cX10_factorial 17 = .ok (.goto 4, 3) := by decide +kernel
theorem dX10_factorial_20 : decode cX10_factorial 20 = .ok (.lconst 1, 1) := by decide +kernel
theorem dX10_factorial_21 : decode cX10_factorial 21 = .ok (.lreturn, 1) := by decide +kernel
