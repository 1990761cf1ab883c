theorem dX0_init_0 : decode cX0_init 0 = .ok (.aload_n 0, 1) := by decide +kernel
theorem dX0_init_1 : decode cX0_init 1 = .ok (.invokespecial 3, 3) := by decide +kernel
theorem dX0_init_4 : decode cX0_init 4 = .ok (.aload_n 0, 1) := by decide +kernel
theorem dX0_init_5 : decode cX0_init 5 = .ok (.bipush 8, 2) := by decide +kernel
theorem dX0_init_7 : decode cX0_init 7 = .ok (.bipush 8, 2) := by decide +kernel
theorem dX0_init_9 : decode cX0_init 9 = .ok (.multianewarray 9 2, 4) := by decide +kernel
theorem dX0_init_13 : decode cX0_init 13 = .ok (.putfield 11, 3) := by decide +kernel
theorem dX0_init_16 : decode cX0_init 16 = .ok (.aload_n 0, 1) := by decide +kernel
theorem dX0_init_17 : decode cX0_init 17 = .ok (.bipush 8, 2) := by decide +kernel
theorem dX0_init_19 : decode cX0_init 19 = .ok (.newarray .int, 2) := by decide +kernel
theorem dX0_init_21 : decode cX0_init 21 = .ok (.putfield 16, 3) := by decide +kernel
theorem dX0_init_24 : decode cX0_init 24 = .ok (.aload_n 0, 1) := by decide +kernel
theorem dX0_init_25 : decode cX0_init 25 = .ok (.bipush 8, 2) := by decide +kernel
theorem dX0_init_27 : decode cX0_init 27 = .ok (.bipush 8, 2) := by decide +kernel
theorem dX0_init_29 : decode cX0_init 29 = .ok (.multianewarray 20 2, 4) := by decide +kernel
theorem dX0_init_33 : decode cX0_init 33 = .ok (.putfield 22, 3) := by decide +kernel
theorem dX0_init_36 : decode cX0_init 36 = .ok (.aload_n 0, 1) := by decide +kernel
theorem dX0_init_37 : decode cX0_init 37 = .ok (.bipush 8, 2) := by decide +kernel
theorem dX0_init_39 : decode cX0_init 39 = .ok (.newarray .int, 2) := by decide +kernel
theorem dX0_init_41 : decode cX0_init 41 = .ok (.putfield 25, 3) := by decide +kernel
theorem dX0_init_44 : decode cX0_init 44 = .ok (.return_, 1) := by decide +kernel
theorem dX0_clear_0 : decode cX0_clear 0 = .ok (.iconst 0, 1) := by decide +kernel
theorem dX0_clear_1 : decode cX0_clear 1 = .ok (.istore_n 1, 1) := by decide +kernel
theorem dX0_clear_2 : decode cX0_clear 2 = .ok (.iload_n 1, 1) := by decide +kernel
theorem dX0_clear_3 : decode cX0_clear 3 = .ok (.bipush 8, 2) := by decide +kernel
theorem dX0_clear_5 : decode cX0_clear 5 = .ok (.if_icmp .ge 39, 3) := by decide +kernel
theorem dX0_clear_8 : decode cX0_clear 8 = .ok (.aload_n 0, 1) := by decide +kernel
theorem dX0_clear_9 : decode cX0_clear 9 = .ok (.getfield 16, 3) := by decide +kernel
theorem dX0_clear_12 : decode cX0_clear 12 = .ok (.iload_n 1, 1) := by decide +kernel
theorem dX0_clear_13 : decode cX0_clear 13 = .ok (.iconst 0, 1) := by decide +kernel
theorem dX0_clear_14 : decode cX0_clear 14 = .ok (.iastore, 1) := by decide +kernel
theorem dX0_clear_15 : decode cX0_clear 15 = .ok (.iconst 0, 1) := by decide +kernel
theorem dX0_clear_16 : decode cX0_clear 16 = .ok (.istore_n 2, 1) := by decide +kernel
theorem dX0_clear_17 : decode cX0_clear 17 = .ok (.iload_n 2, 1) := by decide +kernel
theorem dX0_clear_18 : decode cX0_clear 18 = .ok (.bipush 8, 2) := by decide +kernel
theorem dX0_clear_20 : decode cX0_clear 20 = .ok (.if_icmp .ge 18, 3) := by decide +kernel
theorem dX0_clear_23 : decode cX0_clear 23 = .ok (.aload_n 0, 1) := by decide +kernel
theorem dX0_clear_24 : decode cX0_clear 24 = .ok (.getfield 11, 3) := by decide +kernel
theorem dX0_clear_27 : decode cX0_clear 27 = .ok (.iload_n 1, 1) := by decide +kernel
theorem dX0_clear_28 : decode cX0_clear 28 = .ok (.aaload, 1) := by decide +kernel
theorem dX0_clear_29 : decode cX0_clear 29 = .ok (.iload_n 2, 1) := by decide +kernel
theorem dX0_clear_30 : decode cX0_clear 30 = .ok (.iconst 0, 1) := by decide +kernel
theorem dX0_clear_31 : decode cX0_clear 31 = .ok (.iastore, 1) := by decide +kernel
theorem dX0_clear_32 : decode cX0_clear 32 = .ok (.iinc 2 1, 3) := by decide +kernel
theorem dX0_clear_35 : decode cX0_clear 35 = .ok (.goto (-18), 3) := by decide +kernel
theorem dX0_clear_38 : decode cX0_clear 38 = .ok (.iinc 1 1, 3) := by decide +kernel
theorem dX0_clear_41 : decode cX0_clear 41 = .ok (.goto (-39), 3) := by decide +kernel
theorem dX0_clear_44 : decode cX0_clear 44 = .ok (.return_, 1) := by decide +kernel
theorem dX0_load_0 : decode cX0_load 0 = .ok (.aload_n 0, 1) := by decide +kernel
theorem dX0_load_1 : decode cX0_load 1 = .ok (.invokevirtual 28, 3) := by decide +kernel
theorem dX0_load_4 : decode cX0_load 4 = .ok (.iconst 0, 1) := by decide +kernel
theorem dX0_load_5 : decode cX0_load 5 = .ok (.istore_n 3, 1) := by decide +kernel
theorem dX0_load_6 : decode cX0_load 6 = .ok (.iload_n 3, 1) := by decide +kernel
theorem dX0_load_7 : decode cX0_load 7 = .ok (.aload_n 1, 1) := by decide +kernel
theorem dX0_load_8 : decode cX0_load 8 = .ok (.getfield 31, 3) := by decide +kernel
theorem dX0_load_11 : decode cX0_load 11 = .ok (.if_icmp .ge 34, 3) := by decide +kernel
theorem dX0_load_14 : decode cX0_load 14 = .ok (.iload_n 2, 1) := by decide +kernel
theorem dX0_load_15 : decode cX0_load 15 = .ok (.iload_n 3, 1) := by decide +kernel
theorem dX0_load_16 : decode cX0_load 16 = .ok (.invokestatic 37, 3) := by decide +kernel
theorem dX0_load_19 : decode cX0_load 19 = .ok (.ifCond .eq 20, 3) := by decide +kernel
theorem dX0_load_22 : decode cX0_load 22 = .ok (.aload_n 0, 1) := by decide +kernel
theorem dX0_load_23 : decode cX0_load 23 = .ok (.aload_n 1, 1) := by decide +kernel
theorem dX0_load_24 : decode cX0_load 24 = .ok (.getfield 41, 3) := by decide +kernel
theorem dX0_load_27 : decode cX0_load 27 = .ok (.iload_n 3, 1) := by decide +kernel
theorem dX0_load_28 : decode cX0_load 28 = .ok (.iaload, 1) := by decide +kernel
theorem dX0_load_29 : decode cX0_load 29 = .ok (.aload_n 1, 1) := by decide +kernel
theorem dX0_load_30 : decode cX0_load 30 = .ok (.getfield 44, 3) := by decide +kernel
theorem dX0_load_33 : decode cX0_load 33 = .ok (.iload_n 3, 1) := by decide +kernel
theorem dX0_load_34 : decode cX0_load 34 = .ok (.iaload, 1) := by decide +kernel
theorem dX0_load_35 : decode cX0_load 35 = .ok (.iconst 1, 1) := by decide +kernel
theorem dX0_load_36 : decode cX0_load 36 = .ok (.invokevirtual 47, 3) := by decide +kernel
theorem dX0_load_39 : decode cX0_load 39 = .ok (.iinc 3 1, 3) := by decide +kernel
theorem dX0_load_42 : decode cX0_load 42 = .ok (.goto (-36), 3) := by decide +kernel
theorem dX0_load_45 : decode cX0_load 45 = .ok (.return_, 1) := by decide +kernel
theorem dX0_shift_0 : decode cX0_shift 0 = .ok (.aload_n 0, 1) := by decide +kernel
theorem dX0_shift_1 : decode cX0_shift 1 = .ok (.getfield 11, 3) := by decide +kernel
theorem dX0_shift_4 : decode cX0_shift 4 = .ok (.iload_n 1, 1) := by decide +kernel
theorem dX0_shift_5 : decode cX0_shift 5 = .ok (.aaload, 1) := by decide +kernel
theorem dX0_shift_6 : decode cX0_shift 6 = .ok (.iload_n 2, 1) := by decide +kernel
theorem dX0_shift_7 : decode cX0_shift 7 = .ok (.dup2, 1) := by decide +kernel
theorem dX0_shift_8 : decode cX0_shift 8 = .ok (.iaload, 1) := by decide +kernel
theorem dX0_shift_9 : decode cX0_shift 9 = .ok (.iload_n 3, 1) := by decide +kernel
theorem dX0_shift_10 : decode cX0_shift 10 = .ok (.iadd, 1) := by decide +kernel
theorem dX0_shift_11 : decode cX0_shift 11 = .ok (.iastore, 1) := by decide +kernel
theorem dX0_shift_12 : decode cX0_shift 12 = .ok (.aload_n 0, 1) := by decide +kernel
theorem dX0_shift_13 : decode cX0_shift 13 = .ok (.getfield 16, 3) := by decide +kernel
theorem dX0_shift_16 : decode cX0_shift 16 = .ok (.iload_n 1, 1) := by decide +kernel
theorem dX0_shift_17 : decode cX0_shift 17 = .ok (.dup2, 1) := by decide +kernel
theorem dX0_shift_18 : decode cX0_shift 18 = .ok (.iaload, 1) := by decide +kernel
theorem dX0_shift_19 : decode cX0_shift 19 = .ok (.iload_n 3, 1) := by decide +kernel
theorem dX0_shift_20 : decode cX0_shift 20 = .ok (.iadd, 1) := by decide +kernel
theorem dX0_shift_21 : decode cX0_shift 21 = .ok (.iastore, 1) := by decide +kernel
theorem dX0_shift_22 : decode cX0_shift 22 = .ok (.return_, 1) := by decide +kernel
theorem dX0_treesTo_0 : decode cX0_treesTo 0 = .ok (.iconst 0, 1) := by decide +kernel
theorem dX0_treesTo_1 : decode cX0_treesTo 1 = .ok (.istore_n 3, 1) := by decide +kernel
theorem dX0_treesTo_2 : decode cX0_treesTo 2 = .ok (.iconst 0, 1) := by decide +kernel
theorem dX0_treesTo_3 : decode cX0_treesTo 3 = .ok (.istore 4, 2) := by decide +kernel
theorem dX0_treesTo_5 : decode cX0_treesTo 5 = .ok (.iload 4, 2) := by decide +kernel
theorem dX0_treesTo_7 : decode cX0_treesTo 7 = .ok (.bipush 8, 2) := by decide +kernel
theorem dX0_treesTo_9 : decode cX0_treesTo 9 = .ok (.if_icmp .ge 35, 3) := by decide +kernel
theorem dX0_treesTo_12 : decode cX0_treesTo 12 = .ok (.iload 4, 2) := by decide +kernel
theorem dX0_treesTo_14 : decode cX0_treesTo 14 = .ok (.iload_n 1, 1) := by decide +kernel
theorem dX0_treesTo_15 : decode cX0_treesTo 15 = .ok (.if_icmp .eq 23, 3) := by decide +kernel
theorem dX0_treesTo_18 : decode cX0_treesTo 18 = .ok (.iload_n 2, 1) := by decide +kernel
theorem dX0_treesTo_19 : decode cX0_treesTo 19 = .ok (.iload 4, 2) := by decide +kernel
theorem dX0_treesTo_21 : decode cX0_treesTo 21 = .ok (.invokestatic 37, 3) := by decide +kernel
theorem dX0_treesTo_24 : decode cX0_treesTo 24 = .ok (.ifCond .eq 14, 3) := by decide +kernel
theorem dX0_treesTo_27 : decode cX0_treesTo 27 = .ok (.aload_n 0, 1) := by decide +kernel
theorem dX0_treesTo_28 : decode cX0_treesTo 28 = .ok (.getfield 25, 3) := by decide +kernel
theorem dX0_treesTo_31 : decode cX0_treesTo 31 = .ok (.iload_n 3, 1) := by decide +kernel
theorem dX0_treesTo_32 : decode cX0_treesTo 32 = .ok (.iload 4, 2) := by decide +kernel
theorem dX0_treesTo_34 : decode cX0_treesTo 34 = .ok (.iastore, 1) := by decide +kernel
theorem dX0_treesTo_35 : decode cX0_treesTo 35 = .ok (.iinc 3 1, 3) := by decide +kernel
theorem dX0_treesTo_38 : decode cX0_treesTo 38 = .ok (.iinc 4 1, 3) := by decide +kernel
theorem dX0_treesTo_41 : decode cX0_treesTo 41 = .ok (.goto (-36), 3) := by decide +kernel
theorem dX0_treesTo_44 : decode cX0_treesTo 44 = .ok (.iconst 0, 1) := by decide +kernel
theorem dX0_treesTo_45 : decode cX0_treesTo 45 = .ok (.istore 4, 2) := by decide +kernel
theorem dX0_treesTo_47 : decode cX0_treesTo 47 = .ok (.iload 4, 2) := by decide +kernel
theorem dX0_treesTo_49 : decode cX0_treesTo 49 = .ok (.iload_n 3, 1) := by decide +kernel
theorem dX0_treesTo_50 : decode cX0_treesTo 50 = .ok (.if_icmp .ge 89, 3) := by decide +kernel
theorem dX0_treesTo_53 : decode cX0_treesTo 53 = .ok (.aload_n 0, 1) := by decide +kernel
theorem dX0_treesTo_54 : decode cX0_treesTo 54 = .ok (.getfield 25, 3) := by decide +kernel
theorem dX0_treesTo_57 : decode cX0_treesTo 57 = .ok (.iload 4, 2) := by decide +kernel
theorem dX0_treesTo_59 : decode cX0_treesTo 59 = .ok (.iaload, 1) := by decide +kernel
theorem dX0_treesTo_60 : decode cX0_treesTo 60 = .ok (.istore 5, 2) := by decide +kernel
theorem dX0_treesTo_62 : decode cX0_treesTo 62 = .ok (.iconst 0, 1) := by decide +kernel
theorem dX0_treesTo_63 : decode cX0_treesTo 63 = .ok (.istore 6, 2) := by decide +kernel
theorem dX0_treesTo_65 : decode cX0_treesTo 65 = .ok (.iload 6, 2) := by decide +kernel
theorem dX0_treesTo_67 : decode cX0_treesTo 67 = .ok (.iload_n 3, 1) := by decide +kernel
theorem dX0_treesTo_68 : decode cX0_treesTo 68 = .ok (.if_icmp .ge 36, 3) := by decide +kernel
theorem dX0_treesTo_71 : decode cX0_treesTo 71 = .ok (.aload_n 0, 1) := by decide +kernel
theorem dX0_treesTo_72 : decode cX0_treesTo 72 = .ok (.getfield 22, 3) := by decide +kernel
theorem dX0_treesTo_75 : decode cX0_treesTo 75 = .ok (.iload 4, 2) := by decide +kernel
theorem dX0_treesTo_77 : decode cX0_treesTo 77 = .ok (.aaload, 1) := by decide +kernel
theorem dX0_treesTo_78 : decode cX0_treesTo 78 = .ok (.iload 6, 2) := by decide +kernel
theorem dX0_treesTo_80 : decode cX0_treesTo 80 = .ok (.aload_n 0, 1) := by decide +kernel
theorem dX0_treesTo_81 : decode cX0_treesTo 81 = .ok (.getfield 11, 3) := by decide +kernel
theorem dX0_treesTo_84 : decode cX0_treesTo 84 = .ok (.iload 5, 2) := by decide +kernel
theorem dX0_treesTo_86 : decode cX0_treesTo 86 = .ok (.aaload, 1) := by decide +kernel
theorem dX0_treesTo_87 : decode cX0_treesTo 87 = .ok (.aload_n 0, 1) := by decide +kernel
theorem dX0_treesTo_88 : decode cX0_treesTo 88 = .ok (.getfield 25, 3) := by decide +kernel
theorem dX0_treesTo_91 : decode cX0_treesTo 91 = .ok (.iload 6, 2) := by decide +kernel
theorem dX0_treesTo_93 : decode cX0_treesTo 93 = .ok (.iaload, 1) := by decide +kernel
theorem dX0_treesTo_94 : decode cX0_treesTo 94 = .ok (.iaload, 1) := by decide +kernel
theorem dX0_treesTo_95 : decode cX0_treesTo 95 = .ok (.ineg, 1) := by decide +kernel
theorem dX0_treesTo_96 : decode cX0_treesTo 96 = .ok (.i2l, 1) := by decide +kernel
theorem dX0_treesTo_97 : decode cX0_treesTo 97 = .ok (.lastore, 1) := by decide +kernel
theorem dX0_treesTo_98 : decode cX0_treesTo 98 = .ok (.iinc 6 1, 3) := by decide +kernel
theorem dX0_treesTo_101 : decode cX0_treesTo 101 = .ok (.goto (-36), 3) := by decide +kernel
theorem dX0_treesTo_104 : decode cX0_treesTo 104 = .ok (.aload_n 0, 1) := by decide +kernel
theorem dX0_treesTo_105 : decode cX0_treesTo 105 = .ok (.getfield 22, 3) := by decide +kernel
theorem dX0_treesTo_108 : decode cX0_treesTo 108 = .ok (.iload 4, 2) := by decide +kernel
theorem dX0_treesTo_110 : decode cX0_treesTo 110 = .ok (.aaload, 1) := by decide +kernel
theorem dX0_treesTo_111 : decode cX0_treesTo 111 = .ok (.iload 4, 2) := by decide +kernel
theorem dX0_treesTo_113 : decode cX0_treesTo 113 = .ok (.aload_n 0, 1) := by decide +kernel
theorem dX0_treesTo_114 : decode cX0_treesTo 114 = .ok (.getfield 16, 3) := by decide +kernel
theorem dX0_treesTo_117 : decode cX0_treesTo 117 = .ok (.iload 5, 2) := by decide +kernel
theorem dX0_treesTo_119 : decode cX0_treesTo 119 = .ok (.iaload, 1) := by decide +kernel
theorem dX0_treesTo_120 : decode cX0_treesTo 120 = .ok (.aload_n 0, 1) := by decide +kernel
theorem dX0_treesTo_121 : decode cX0_treesTo 121 = .ok (.getfield 11, 3) := by decide +kernel
theorem dX0_treesTo_124 : decode cX0_treesTo 124 = .ok (.iload 5, 2) := by decide +kernel
theorem dX0_treesTo_126 : decode cX0_treesTo 126 = .ok (.aaload, 1) := by decide +kernel
theorem dX0_treesTo_127 : decode cX0_treesTo 127 = .ok (.iload 5, 2) := by decide +kernel
theorem dX0_treesTo_129 : decode cX0_treesTo 129 = .ok (.iaload, 1) := by decide +kernel
theorem dX0_treesTo_130 : decode cX0_treesTo 130 = .ok (.isub, 1) := by decide +kernel
theorem dX0_treesTo_131 : decode cX0_treesTo 131 = .ok (.i2l, 1) := by decide +kernel
theorem dX0_treesTo_132 : decode cX0_treesTo 132 = .ok (.lastore, 1) := by decide +kernel
theorem dX0_treesTo_133 : decode cX0_treesTo 133 = .ok (.iinc 4 1, 3) := by decide +kernel
theorem dX0_treesTo_136 : decode cX0_treesTo 136 = .ok (.goto (-89), 3) := by decide +kernel
theorem dX0_treesTo_139 : decode cX0_treesTo 139 = .ok (.aload_n 0, 1) := by decide +kernel
theorem dX0_treesTo_140 : decode cX0_treesTo 140 = .ok (.iload_n 3, 1) := by decide +kernel
theorem dX0_treesTo_141 : decode cX0_treesTo 141 = .ok (.invokevirtual 51, 3) := by decide +kernel
theorem dX0_treesTo_144 : decode cX0_treesTo 144 = .ok (.lreturn, 1) := by decide +kernel
theorem dX0_determinant_0 : decode cX0_determinant 0 = .ok (.lconst 1, 1) := by decide +kernel
theorem dX0_determinant_1 : decode cX0_determinant 1 = .ok (.lstore_n 2, 1) := by decide +kernel
theorem dX0_determinant_2 : decode cX0_determinant 2 = .ok (.iconst 0, 1) := by decide +kernel
theorem dX0_determinant_3 : decode cX0_determinant 3 = .ok (.istore 4, 2) := by decide +kernel
theorem dX0_determinant_5 : decode cX0_determinant 5 = .ok (.iload 4, 2) := by decide +kernel
theorem dX0_determinant_7 : decode cX0_determinant 7 = .ok (.iconst 1, 1) := by decide +kernel
theorem dX0_determinant_8 : decode cX0_determinant 8 = .ok (.iadd, 1) := by decide +kernel
theorem dX0_determinant_9 : decode cX0_determinant 9 = .ok (.iload_n 1, 1) := by decide +kernel
theorem dX0_determinant_10 : decode cX0_determinant 10 = .ok (.if_icmp .ge 116, 3) := by decide +kernel
theorem dX0_determinant_13 : decode cX0_determinant 13 = .ok (.aload_n 0, 1) := by decide +kernel
theorem dX0_determinant_14 : decode cX0_determinant 14 = .ok (.getfield 22, 3) := by decide +kernel
theorem dX0_determinant_17 : decode cX0_determinant 17 = .ok (.iload 4, 2) := by decide +kernel
theorem dX0_determinant_19 : decode cX0_determinant 19 = .ok (.aaload, 1) := by decide +kernel
theorem dX0_determinant_20 : decode cX0_determinant 20 = .ok (.iload 4, 2) := by decide +kernel
theorem dX0_determinant_22 : decode cX0_determinant 22 = .ok (.laload, 1) := by decide +kernel
theorem dX0_determinant_23 : decode cX0_determinant 23 = .ok (.lstore 5, 2) := by decide +kernel
theorem dX0_determinant_25 : decode cX0_determinant 25 = .ok (.lload 5, 2) := by decide +kernel
theorem dX0_determinant_27 : decode cX0_determinant 27 = .ok (.lconst 0, 1) := by decide +kernel
theorem dX0_determinant_28 : decode cX0_determinant 28 = .ok (.lcmp, 1) := by decide +kernel
theorem dX0_determinant_29 : decode cX0_determinant 29 = .ok (.ifCond .ne 5, 3) := by decide +kernel
theorem dX0_determinant_32 : decode cX0_determinant 32 = .ok (.lconst 0, 1) := by decide +kernel
theorem dX0_determinant_33 : decode cX0_determinant 33 = .ok (.lreturn, 1) := by decide +kernel
theorem dX0_determinant_34 : decode cX0_determinant 34 = .ok (.iload 4, 2) := by decide +kernel
theorem dX0_determinant_36 : decode cX0_determinant 36 = .ok (.iconst 1, 1) := by decide +kernel
theorem dX0_determinant_37 : decode cX0_determinant 37 = .ok (.iadd, 1) := by decide +kernel
theorem dX0_determinant_38 : decode cX0_determinant 38 = .ok (.istore 7, 2) := by decide +kernel
theorem dX0_determinant_40 : decode cX0_determinant 40 = .ok (.iload 7, 2) := by decide +kernel
theorem dX0_determinant_42 : decode cX0_determinant 42 = .ok (.iload_n 1, 1) := by decide +kernel
theorem dX0_determinant_43 : decode cX0_determinant 43 = .ok (.if_icmp .ge 74, 3) := by decide +kernel
theorem dX0_determinant_46 : decode cX0_determinant 46 = .ok (.iload 4, 2) := by decide +kernel
theorem dX0_determinant_48 : decode cX0_determinant 48 = .ok (.iconst 1, 1) := by decide +kernel
theorem dX0_determinant_49 : decode cX0_determinant 49 = .ok (.iadd, 1) := by decide +kernel
theorem dX0_determinant_50 : decode cX0_determinant 50 = .ok (.istore 8, 2) := by decide +kernel
theorem dX0_determinant_52 : decode cX0_determinant 52 = .ok (.iload 8, 2) := by decide +kernel
theorem dX0_determinant_54 : decode cX0_determinant 54 = .ok (.iload_n 1, 1) := by decide +kernel
theorem dX0_determinant_55 : decode cX0_determinant 55 = .ok (.if_icmp .ge 56, 3) := by decide +kernel
theorem dX0_determinant_58 : decode cX0_determinant 58 = .ok (.aload_n 0, 1) := by decide +kernel
theorem dX0_determinant_59 : decode cX0_determinant 59 = .ok (.getfield 22, 3) := by decide +kernel
theorem dX0_determinant_62 : decode cX0_determinant 62 = .ok (.iload 7, 2) := by decide +kernel
theorem dX0_determinant_64 : decode cX0_determinant 64 = .ok (.aaload, 1) := by decide +kernel
theorem dX0_determinant_65 : decode cX0_determinant 65 = .ok (.iload 8, 2) := by decide +kernel
theorem dX0_determinant_67 : decode cX0_determinant 67 = .ok (.aload_n 0, 1) := by decide +kernel
theorem dX0_determinant_68 : decode cX0_determinant 68 = .ok (.getfield 22, 3) := by decide +kernel
theorem dX0_determinant_71 : decode cX0_determinant 71 = .ok (.iload 7, 2) := by decide +kernel
theorem dX0_determinant_73 : decode cX0_determinant 73 = .ok (.aaload, 1) := by decide +kernel
theorem dX0_determinant_74 : decode cX0_determinant 74 = .ok (.iload 8, 2) := by decide +kernel
theorem dX0_determinant_76 : decode cX0_determinant 76 = .ok (.laload, 1) := by decide +kernel
theorem dX0_determinant_77 : decode cX0_determinant 77 = .ok (.lload 5, 2) := by decide +kernel
theorem dX0_determinant_79 : decode cX0_determinant 79 = .ok (.lmul, 1) := by decide +kernel
theorem dX0_determinant_80 : decode cX0_determinant 80 = .ok (.aload_n 0, 1) := by decide +kernel
theorem dX0_determinant_81 : decode cX0_determinant 81 = .ok (.getfield 22, 3) := by decide +kernel
theorem dX0_determinant_84 : decode cX0_determinant 84 = .ok (.iload 7, 2) := by decide +kernel
theorem dX0_determinant_86 : decode cX0_determinant 86 = .ok (.aaload, 1) := by decide +kernel
theorem dX0_determinant_87 : decode cX0_determinant 87 = .ok (.iload 4, 2) := by decide +kernel
theorem dX0_determinant_89 : decode cX0_determinant 89 = .ok (.laload, 1) := by decide +kernel
theorem dX0_determinant_90 : decode cX0_determinant 90 = .ok (.aload_n 0, 1) := by decide +kernel
theorem dX0_determinant_91 : decode cX0_determinant 91 = .ok (.getfield 22, 3) := by decide +kernel
theorem dX0_determinant_94 : decode cX0_determinant 94 = .ok (.iload 4, 2) := by decide +kernel
theorem dX0_determinant_96 : decode cX0_determinant 96 = .ok (.aaload, 1) := by decide +kernel
theorem dX0_determinant_97 : decode cX0_determinant 97 = .ok (.iload 8, 2) := by decide +kernel
theorem dX0_determinant_99 : decode cX0_determinant 99 = .ok (.laload, 1) := by decide +kernel
theorem dX0_determinant_100 : decode cX0_determinant 100 = .ok (.lmul, 1) := by decide +kernel
theorem dX0_determinant_101 : decode cX0_determinant 101 = .ok (.lsub, 1) := by decide +kernel
theorem dX0_determinant_102 : decode cX0_determinant 102 = .ok (.lload_n 2, 1) := by decide +kernel
theorem dX0_determinant_103 : decode cX0_determinant 103 = .ok (.ldiv, 1) := by decide +kernel
theorem dX0_determinant_104 : decode cX0_determinant 104 = .ok (.lastore, 1) := by decide +kernel
theorem dX0_determinant_105 : decode cX0_determinant 105 = .ok (.iinc 8 1, 3) := by decide +kernel
theorem dX0_determinant_108 : decode cX0_determinant 108 = .ok (.goto (-56), 3) := by decide +kernel
theorem dX0_determinant_111 : decode cX0_determinant 111 = .ok (.iinc 7 1, 3) := by decide +kernel
theorem dX0_determinant_114 : decode cX0_determinant 114 = .ok (.goto (-74), 3) := by decide +kernel
theorem dX0_determinant_117 : decode cX0_determinant 117 = .ok (.lload 5, 2) := by decide +kernel
theorem dX0_determinant_119 : decode cX0_determinant 119 = .ok (.lstore_n 2, 1) := by decide +kernel
theorem dX0_determinant_120 : decode cX0_determinant 120 = .ok (.iinc 4 1, 3) := by decide +kernel
theorem dX0_determinant_123 : decode cX0_determinant 123 = .ok (.goto (-118), 3) := by decide +kernel
theorem dX0_determinant_126 : decode cX0_determinant 126 = .ok (.iload_n 1, 1) := by decide +kernel
theorem dX0_determinant_127 : decode cX0_determinant 127 = .ok (.ifCond .ne 7, 3) := by decide +kernel
theorem dX0_determinant_130 : decode cX0_determinant 130 = .ok (.lconst 1, 1) := by decide +kernel
theorem dX0_determinant_131 : decode cX0_determinant 131 = .ok (.goto 15, 3) := by decide +kernel
theorem dX0_determinant_134 : decode cX0_determinant 134 = .ok (.aload_n 0, 1) := by decide +kernel
theorem dX0_determinant_135 : decode cX0_determinant 135 = .ok (.getfield 22, 3) := by decide +kernel
theorem dX0_determinant_138 : decode cX0_determinant 138 = .ok (.iload_n 1, 1) := by decide +kernel
theorem dX0_determinant_139 : decode cX0_determinant 139 = .ok (.iconst 1, 1) := by decide +kernel
theorem dX0_determinant_140 : decode cX0_determinant 140 = .ok (.isub, 1) := by decide +kernel
theorem dX0_determinant_141 : decode cX0_determinant 141 = .ok (.aaload, 1) := by decide +kernel
theorem dX0_determinant_142 : decode cX0_determinant 142 = .ok (.iload_n 1, 1) := by decide +kernel
theorem dX0_determinant_143 : decode cX0_determinant 143 = .ok (.iconst 1, 1) := by decide +kernel
theorem dX0_determinant_144 : decode cX0_determinant 144 = .ok (.isub, 1) := by decide +kernel
theorem dX0_determinant_145 : decode cX0_determinant 145 = .ok (.laload, 1) := by decide +kernel
theorem dX0_determinant_146 : decode cX0_determinant 146 = .ok (.lreturn, 1) := by decide +kernel
theorem dX0_trailsTo_0 : decode cX0_trailsTo 0 = .ok (.iconst 0, 1) := by decide +kernel
theorem dX0_trailsTo_1 : decode cX0_trailsTo 1 = .ok (.istore_n 2, 1) := by decide +kernel
theorem dX0_trailsTo_2 : decode cX0_trailsTo 2 = .ok (.aload_n 0, 1) := by decide +kernel
theorem dX0_trailsTo_3 : decode cX0_trailsTo 3 = .ok (.getfield 16, 3) := by decide +kernel
theorem dX0_trailsTo_6 : decode cX0_trailsTo 6 = .ok (.iload_n 1, 1) := by decide +kernel
theorem dX0_trailsTo_7 : decode cX0_trailsTo 7 = .ok (.iaload, 1) := by decide +kernel
theorem dX0_trailsTo_8 : decode cX0_trailsTo 8 = .ok (.invokestatic 55, 3) := by decide +kernel
theorem dX0_trailsTo_11 : decode cX0_trailsTo 11 = .ok (.lstore_n 3, 1) := by decide +kernel
theorem dX0_trailsTo_12 : decode cX0_trailsTo 12 = .ok (.iconst 0, 1) := by decide +kernel
theorem dX0_trailsTo_13 : decode cX0_trailsTo 13 = .ok (.istore 5, 2) := by decide +kernel
theorem dX0_trailsTo_15 : decode cX0_trailsTo 15 = .ok (.iload 5, 2) := by decide +kernel
theorem dX0_trailsTo_17 : decode cX0_trailsTo 17 = .ok (.bipush 8, 2) := by decide +kernel
theorem dX0_trailsTo_19 : decode cX0_trailsTo 19 = .ok (.if_icmp .ge 47, 3) := by decide +kernel
theorem dX0_trailsTo_22 : decode cX0_trailsTo 22 = .ok (.iload 5, 2) := by decide +kernel
theorem dX0_trailsTo_24 : decode cX0_trailsTo 24 = .ok (.iload_n 1, 1) := by decide +kernel
theorem dX0_trailsTo_25 : decode cX0_trailsTo 25 = .ok (.if_icmp .eq 35, 3) := by decide +kernel
theorem dX0_trailsTo_28 : decode cX0_trailsTo 28 = .ok (.aload_n 0, 1) := by decide +kernel
theorem dX0_trailsTo_29 : decode cX0_trailsTo 29 = .ok (.getfield 16, 3) := by decide +kernel
theorem dX0_trailsTo_32 : decode cX0_trailsTo 32 = .ok (.iload 5, 2) := by decide +kernel
theorem dX0_trailsTo_34 : decode cX0_trailsTo 34 = .ok (.iaload, 1) := by decide +kernel
theorem dX0_trailsTo_35 : decode cX0_trailsTo 35 = .ok (.ifCond .le 25, 3) := by decide +kernel
theorem dX0_trailsTo_38 : decode cX0_trailsTo 38 = .ok (.iload_n 2, 1) := by decide +kernel
theorem dX0_trailsTo_39 : decode cX0_trailsTo 39 = .ok (.iconst 1, 1) := by decide +kernel
theorem dX0_trailsTo_40 : decode cX0_trailsTo 40 = .ok (.iload 5, 2) := by decide +kernel
theorem dX0_trailsTo_42 : decode cX0_trailsTo 42 = .ok (.ishl, 1) := by decide +kernel
theorem dX0_trailsTo_43 : decode cX0_trailsTo 43 = .ok (.ior, 1) := by decide +kernel
theorem dX0_trailsTo_44 : decode cX0_trailsTo 44 = .ok (.istore_n 2, 1) := by decide +kernel
theorem dX0_trailsTo_45 : decode cX0_trailsTo 45 = .ok (.lload_n 3, 1) := by decide +kernel
theorem dX0_trailsTo_46 : decode cX0_trailsTo 46 = .ok (.aload_n 0, 1) := by decide +kernel
theorem dX0_trailsTo_47 : decode cX0_trailsTo 47 = .ok (.getfield 16, 3) := by decide +kernel
theorem dX0_trailsTo_50 : decode cX0_trailsTo 50 = .ok (.iload 5, 2) := by decide +kernel
theorem dX0_trailsTo_52 : decode cX0_trailsTo 52 = .ok (.iaload, 1) := by decide +kernel
theorem dX0_trailsTo_53 : decode cX0_trailsTo 53 = .ok (.iconst 1, 1) := by decide +kernel
theorem dX0_trailsTo_54 : decode cX0_trailsTo 54 = .ok (.isub, 1) := by decide +kernel
theorem dX0_trailsTo_55 : decode cX0_trailsTo 55 = .ok (.invokestatic 55, 3) := by decide +kernel
theorem dX0_trailsTo_58 : decode cX0_trailsTo 58 = .ok (.lmul, 1) := by decide +kernel
theorem dX0_trailsTo_59 : decode cX0_trailsTo 59 = .ok (.lstore_n 3, 1) := by decide +kernel
theorem dX0_trailsTo_60 : decode cX0_trailsTo 60 = .ok (.iinc 5 1, 3) := by decide +kernel
theorem dX0_trailsTo_63 : decode cX0_trailsTo 63 = .ok (.goto (-48), 3) := by decide +kernel
theorem dX0_trailsTo_66 : decode cX0_trailsTo 66 = .ok (.lload_n 3, 1) := by decide +kernel
theorem dX0_trailsTo_67 : decode cX0_trailsTo 67 = .ok (.aload_n 0, 1) := by decide +kernel
theorem dX0_trailsTo_68 : decode cX0_trailsTo 68 = .ok (.iload_n 1, 1) := by decide +kernel
theorem dX0_trailsTo_69 : decode cX0_trailsTo 69 = .ok (.iload_n 2, 1) := by decide +kernel
theorem dX0_trailsTo_70 : decode cX0_trailsTo 70 = .ok (.invokevirtual 58, 3) := by decide +kernel
theorem dX0_trailsTo_73 : decode cX0_trailsTo 73 = .ok (.lmul, 1) := by decide +kernel
theorem dX0_trailsTo_74 : decode cX0_trailsTo 74 = .ok (.lreturn, 1) := by decide +kernel
theorem dX0_spellingsTo_0 : decode cX0_spellingsTo 0 = .ok (.aload_n 0, 1) := by decide +kernel
theorem dX0_spellingsTo_1 : decode cX0_spellingsTo 1 = .ok (.iload_n 1, 1) := by decide +kernel
theorem dX0_spellingsTo_2 : decode cX0_spellingsTo 2 = .ok (.invokevirtual 62, 3) := by decide +kernel
theorem dX0_spellingsTo_5 : decode cX0_spellingsTo 5 = .ok (.lstore_n 2, 1) := by decide +kernel
theorem dX0_spellingsTo_6 : decode cX0_spellingsTo 6 = .ok (.iconst 0, 1) := by decide +kernel
theorem dX0_spellingsTo_7 : decode cX0_spellingsTo 7 = .ok (.istore 4, 2) := by decide +kernel
theorem dX0_spellingsTo_9 : decode cX0_spellingsTo 9 = .ok (.iload 4, 2) := by decide +kernel
theorem dX0_spellingsTo_11 : decode cX0_spellingsTo 11 = .ok (.bipush 8, 2) := by decide +kernel
theorem dX0_spellingsTo_13 : decode cX0_spellingsTo 13 = .ok (.if_icmp .ge 47, 3) := by decide +kernel
theorem dX0_spellingsTo_16 : decode cX0_spellingsTo 16 = .ok (.lload_n 2, 1) := by decide +kernel
theorem dX0_spellingsTo_17 : decode cX0_spellingsTo 17 = .ok (.lconst 0, 1) := by decide +kernel
theorem dX0_spellingsTo_18 : decode cX0_spellingsTo 18 = .ok (.lcmp, 1) := by decide +kernel
theorem dX0_spellingsTo_19 : decode cX0_spellingsTo 19 = .ok (.ifCond .eq 41, 3) := by decide +kernel
theorem dX0_spellingsTo_22 : decode cX0_spellingsTo 22 = .ok (.iconst 0, 1) := by decide +kernel
theorem dX0_spellingsTo_23 : decode cX0_spellingsTo 23 = .ok (.istore 5, 2) := by decide +kernel
theorem dX0_spellingsTo_25 : decode cX0_spellingsTo 25 = .ok (.iload 5, 2) := by decide +kernel
theorem dX0_spellingsTo_27 : decode cX0_spellingsTo 27 = .ok (.bipush 8, 2) := by decide +kernel
theorem dX0_spellingsTo_29 : decode cX0_spellingsTo 29 = .ok (.if_icmp .ge 25, 3) := by decide +kernel
theorem dX0_spellingsTo_32 : decode cX0_spellingsTo 32 = .ok (.lload_n 2, 1) := by decide +kernel
theorem dX0_spellingsTo_33 : decode cX0_spellingsTo 33 = .ok (.aload_n 0, 1) := by decide +kernel
theorem dX0_spellingsTo_34 : decode cX0_spellingsTo 34 = .ok (.getfield 11, 3) := by decide +kernel
theorem dX0_spellingsTo_37 : decode cX0_spellingsTo 37 = .ok (.iload 4, 2) := by decide +kernel
theorem dX0_spellingsTo_39 : decode cX0_spellingsTo 39 = .ok (.aaload, 1) := by decide +kernel
theorem dX0_spellingsTo_40 : decode cX0_spellingsTo 40 = .ok (.iload 5, 2) := by decide +kernel
theorem dX0_spellingsTo_42 : decode cX0_spellingsTo 42 = .ok (.iaload, 1) := by decide +kernel
theorem dX0_spellingsTo_43 : decode cX0_spellingsTo 43 = .ok (.invokestatic 55, 3) := by decide +kernel
theorem dX0_spellingsTo_46 : decode cX0_spellingsTo 46 = .ok (.ldiv, 1) := by decide +kernel
theorem dX0_spellingsTo_47 : decode cX0_spellingsTo 47 = .ok (.lstore_n 2, 1) := by decide +kernel
theorem dX0_spellingsTo_48 : decode cX0_spellingsTo 48 = .ok (.iinc 5 1, 3) := by decide +kernel
theorem dX0_spellingsTo_51 : decode cX0_spellingsTo 51 = .ok (.goto (-26), 3) := by decide +kernel
theorem dX0_spellingsTo_54 : decode cX0_spellingsTo 54 = .ok (.iinc 4 1, 3) := by decide +kernel
theorem dX0_spellingsTo_57 : decode cX0_spellingsTo 57 = .ok (.goto (-48), 3) := by decide +kernel
theorem dX0_spellingsTo_60 : decode cX0_spellingsTo 60 = .ok (.lload_n 2, 1) := by decide +kernel
theorem dX0_spellingsTo_61 : decode cX0_spellingsTo 61 = .ok (.lreturn, 1) := by decide +kernel
theorem dX1_init_0 : decode cX1_init 0 = .ok (.aload_n 0, 1) := by decide +kernel
theorem dX1_init_1 : decode cX1_init 1 = .ok (.invokespecial 3, 3) := by decide +kernel
theorem dX1_init_4 : decode cX1_init 4 = .ok (.aload_n 0, 1) := by decide +kernel
theorem dX1_init_5 : decode cX1_init 5 = .ok (.iconst 0, 1) := by decide +kernel
theorem dX1_init_6 : decode cX1_init 6 = .ok (.putfield 9, 3) := by decide +kernel
theorem dX1_init_9 : decode cX1_init 9 = .ok (.return_, 1) := by decide +kernel
theorem dX1_begin_0 : decode cX1_begin 0 = .ok (.aload_n 0, 1) := by decide +kernel
theorem dX1_begin_1 : decode cX1_begin 1 = .ok (.iload_n 1, 1) := by decide +kernel
theorem dX1_begin_2 : decode cX1_begin 2 = .ok (.putfield 9, 3) := by decide +kernel
theorem dX1_begin_5 : decode cX1_begin 5 = .ok (.return_, 1) := by decide +kernel
theorem dX1_draw_0 : decode cX1_draw 0 = .ok (.aload_n 0, 1) := by decide +kernel
theorem dX1_draw_1 : decode cX1_draw 1 = .ok (.aload_n 0, 1) := by decide +kernel
theorem dX1_draw_2 : decode cX1_draw 2 = .ok (.getfield 9, 3) := by decide +kernel
theorem dX1_draw_5 : decode cX1_draw 5 = .ok (.ldc 15, 2) := by decide +kernel
theorem dX1_draw_7 : decode cX1_draw 7 = .ok (.imul, 1) := by decide +kernel
theorem dX1_draw_8 : decode cX1_draw 8 = .ok (.sipush 12345, 3) := by decide +kernel
theorem dX1_draw_11 : decode cX1_draw 11 = .ok (.iadd, 1) := by decide +kernel
theorem dX1_draw_12 : decode cX1_draw 12 = .ok (.putfield 9, 3) := by decide +kernel
theorem dX1_draw_15 : decode cX1_draw 15 = .ok (.aload_n 0, 1) := by decide +kernel
theorem dX1_draw_16 : decode cX1_draw 16 = .ok (.getfield 9, 3) := by decide +kernel
theorem dX1_draw_19 : decode cX1_draw 19 = .ok (.bipush 8, 2) := by decide +kernel
theorem dX1_draw_21 : decode cX1_draw 21 = .ok (.iushr, 1) := by decide +kernel
theorem dX1_draw_22 : decode cX1_draw 22 = .ok (.ireturn, 1) := by decide +kernel
theorem dX1_wideDraw_0 : decode cX1_wideDraw 0 = .ok (.aload_n 0, 1) := by decide +kernel
theorem dX1_wideDraw_1 : decode cX1_wideDraw 1 = .ok (.invokevirtual 16, 3) := by decide +kernel
theorem dX1_wideDraw_4 : decode cX1_wideDraw 4 = .ok (.sipush 16384, 3) := by decide +kernel
theorem dX1_wideDraw_7 : decode cX1_wideDraw 7 = .ok (.irem, 1) := by decide +kernel
theorem dX1_wideDraw_8 : decode cX1_wideDraw 8 = .ok (.i2l, 1) := by decide +kernel
theorem dX1_wideDraw_9 : decode cX1_wideDraw 9 = .ok (.lstore_n 1, 1) := by decide +kernel
theorem dX1_wideDraw_10 : decode cX1_wideDraw 10 = .ok (.aload_n 0, 1) := by decide +kernel
theorem dX1_wideDraw_11 : decode cX1_wideDraw 11 = .ok (.invokevirtual 16, 3) := by decide +kernel
theorem dX1_wideDraw_14 : decode cX1_wideDraw 14 = .ok (.i2l, 1) := by decide +kernel
theorem dX1_wideDraw_15 : decode cX1_wideDraw 15 = .ok (.lstore_n 3, 1) := by decide +kernel
theorem dX1_wideDraw_16 : decode cX1_wideDraw 16 = .ok (.aload_n 0, 1) := by decide +kernel
theorem dX1_wideDraw_17 : decode cX1_wideDraw 17 = .ok (.invokevirtual 16, 3) := by decide +kernel
theorem dX1_wideDraw_20 : decode cX1_wideDraw 20 = .ok (.i2l, 1) := by decide +kernel
theorem dX1_wideDraw_21 : decode cX1_wideDraw 21 = .ok (.lstore 5, 2) := by decide +kernel
theorem dX1_wideDraw_23 : decode cX1_wideDraw 23 = .ok (.lload_n 1, 1) := by decide +kernel
theorem dX1_wideDraw_24 : decode cX1_wideDraw 24 = .ok (.bipush 48, 2) := by decide +kernel
theorem dX1_wideDraw_26 : decode cX1_wideDraw 26 = .ok (.lshl, 1) := by decide +kernel
theorem dX1_wideDraw_27 : decode cX1_wideDraw 27 = .ok (.lload_n 3, 1) := by decide +kernel
theorem dX1_wideDraw_28 : decode cX1_wideDraw 28 = .ok (.bipush 24, 2) := by decide +kernel
theorem dX1_wideDraw_30 : decode cX1_wideDraw 30 = .ok (.lshl, 1) := by decide +kernel
theorem dX1_wideDraw_31 : decode cX1_wideDraw 31 = .ok (.lor, 1) := by decide +kernel
theorem dX1_wideDraw_32 : decode cX1_wideDraw 32 = .ok (.lload 5, 2) := by decide +kernel
theorem dX1_wideDraw_34 : decode cX1_wideDraw 34 = .ok (.lor, 1) := by decide +kernel
theorem dX1_wideDraw_35 : decode cX1_wideDraw 35 = .ok (.lreturn, 1) := by decide +kernel
theorem dX1_evenBelow_0 : decode cX1_evenBelow 0 = .ok (.lload_n 1, 1) := by decide +kernel
theorem dX1_evenBelow_1 : decode cX1_evenBelow 1 = .ok (.lconst 0, 1) := by decide +kernel
theorem dX1_evenBelow_2 : decode cX1_evenBelow 2 = .ok (.lcmp, 1) := by decide +kernel
theorem dX1_evenBelow_3 : decode cX1_evenBelow 3 = .ok (.ifCond .gt 5, 3) := by decide +kernel
theorem dX1_evenBelow_6 : decode cX1_evenBelow 6 = .ok (.lconst 0, 1) := by decide +kernel
theorem dX1_evenBelow_7 : decode cX1_evenBelow 7 = .ok (.lreturn, 1) := by decide +kernel
theorem dX1_evenBelow_8 : decode cX1_evenBelow 8 = .ok (.ldc2_w 20, 3) := by decide +kernel
theorem dX1_evenBelow_11 : decode cX1_evenBelow 11 = .ok (.lload_n 1, 1) := by decide +kernel
theorem dX1_evenBelow_12 : decode cX1_evenBelow 12 = .ok (.ldiv, 1) := by decide +kernel
theorem dX1_evenBelow_13 : decode cX1_evenBelow 13 = .ok (.lload_n 1, 1) := by decide +kernel
theorem dX1_evenBelow_14 : decode cX1_evenBelow 14 = .ok (.lmul, 1) := by decide +kernel
theorem dX1_evenBelow_15 : decode cX1_evenBelow 15 = .ok (.lstore_n 3, 1) := by decide +kernel
theorem dX1_evenBelow_16 : decode cX1_evenBelow 16 = .ok (.aload_n 0, 1) := by decide +kernel
theorem dX1_evenBelow_17 : decode cX1_evenBelow 17 = .ok (.invokevirtual 22, 3) := by decide +kernel
theorem dX1_evenBelow_20 : decode cX1_evenBelow 20 = .ok (.lstore 5, 2) := by decide +kernel
theorem dX1_evenBelow_22 : decode cX1_evenBelow 22 = .ok (.iconst 0, 1) := by decide +kernel
theorem dX1_evenBelow_23 : decode cX1_evenBelow 23 = .ok (.istore 7, 2) := by decide +kernel
theorem dX1_evenBelow_25 : decode cX1_evenBelow 25 = .ok (.iload 7, 2) := by decide +kernel
theorem dX1_evenBelow_27 : decode cX1_evenBelow 27 = .ok (.ldc 26, 2) := by decide +kernel
theorem dX1_evenBelow_29 : decode cX1_evenBelow 29 = .ok (.if_icmp .ge 22, 3) := by decide +kernel
theorem dX1_evenBelow_32 : decode cX1_evenBelow 32 = .ok (.lload 5, 2) := by decide +kernel
theorem dX1_evenBelow_34 : decode cX1_evenBelow 34 = .ok (.lload_n 3, 1) := by decide +kernel
theorem dX1_evenBelow_35 : decode cX1_evenBelow 35 = .ok (.lcmp, 1) := by decide +kernel
theorem dX1_evenBelow_36 : decode cX1_evenBelow 36 = .ok (.ifCond .lt 15, 3) := by decide +kernel
theorem dX1_evenBelow_39 : decode cX1_evenBelow 39 = .ok (.aload_n 0, 1) := by decide +kernel
theorem dX1_evenBelow_40 : decode cX1_evenBelow 40 = .ok (.invokevirtual 22, 3) := by decide +kernel
theorem dX1_evenBelow_43 : decode cX1_evenBelow 43 = .ok (.lstore 5, 2) := by decide +kernel
theorem dX1_evenBelow_45 : decode cX1_evenBelow 45 = .ok (.iinc 7 1, 3) := by decide +kernel
theorem dX1_evenBelow_48 : decode cX1_evenBelow 48 = .ok (.goto (-23), 3) := by decide +kernel
theorem dX1_evenBelow_51 : decode cX1_evenBelow 51 = .ok (.lload 5, 2) := by decide +kernel
theorem dX1_evenBelow_53 : decode cX1_evenBelow 53 = .ok (.lload_n 1, 1) := by decide +kernel
theorem dX1_evenBelow_54 : decode cX1_evenBelow 54 = .ok (.lrem, 1) := by decide +kernel
theorem dX1_evenBelow_55 : decode cX1_evenBelow 55 = .ok (.lreturn, 1) := by decide +kernel
theorem dX1_doDeed_0 : decode cX1_doDeed 0 = .ok (.aload_n 0, 1) := by decide +kernel
theorem dX1_doDeed_1 : decode cX1_doDeed 1 = .ok (.invokevirtual 16, 3) := by decide +kernel
theorem dX1_doDeed_4 : decode cX1_doDeed 4 = .ok (.iconst 4, 1) := by decide +kernel
theorem dX1_doDeed_5 : decode cX1_doDeed 5 = .ok (.irem, 1) := by decide +kernel
theorem dX1_doDeed_6 : decode cX1_doDeed 6 = .ok (.istore_n 2, 1) := by decide +kernel
theorem dX1_doDeed_7 : decode cX1_doDeed 7 = .ok (.iload_n 2, 1) := by decide +kernel
theorem dX1_doDeed_8 : decode cX1_doDeed 8 = .ok (.iconst 1, 1) := by decide +kernel
theorem dX1_doDeed_9 : decode cX1_doDeed 9 = .ok (.if_icmp .le 9, 3) := by decide +kernel
theorem dX1_doDeed_12 : decode cX1_doDeed 12 = .ok (.aload_n 0, 1) := by decide +kernel
theorem dX1_doDeed_13 : decode cX1_doDeed 13 = .ok (.aload_n 1, 1) := by decide +kernel
theorem dX1_doDeed_14 : decode cX1_doDeed 14 = .ok (.invokevirtual 27, 3) := by decide +kernel
theorem dX1_doDeed_17 : decode cX1_doDeed 17 = .ok (.ireturn, 1) := by decide +kernel
theorem dX1_doDeed_18 : decode cX1_doDeed 18 = .ok (.aload_n 1, 1) := by decide +kernel
theorem dX1_doDeed_19 : decode cX1_doDeed 19 = .ok (.getfield 31, 3) := by decide +kernel
theorem dX1_doDeed_22 : decode cX1_doDeed 22 = .ok (.ifCond .gt 5, 3) := by decide +kernel
theorem dX1_doDeed_25 : decode cX1_doDeed 25 = .ok (.iconst 0, 1) := by decide +kernel
theorem dX1_doDeed_26 : decode cX1_doDeed 26 = .ok (.ireturn, 1) := by decide +kernel
theorem dX1_doDeed_27 : decode cX1_doDeed 27 = .ok (.aload_n 0, 1) := by decide +kernel
theorem dX1_doDeed_28 : decode cX1_doDeed 28 = .ok (.invokevirtual 16, 3) := by decide +kernel
theorem dX1_doDeed_31 : decode cX1_doDeed 31 = .ok (.aload_n 1, 1) := by decide +kernel
theorem dX1_doDeed_32 : decode cX1_doDeed 32 = .ok (.getfield 31, 3) := by decide +kernel
theorem dX1_doDeed_35 : decode cX1_doDeed 35 = .ok (.irem, 1) := by decide +kernel
theorem dX1_doDeed_36 : decode cX1_doDeed 36 = .ok (.istore_n 3, 1) := by decide +kernel
theorem dX1_doDeed_37 : decode cX1_doDeed 37 = .ok (.iload_n 2, 1) := by decide +kernel
theorem dX1_doDeed_38 : decode cX1_doDeed 38 = .ok (.ifCond .ne 11, 3) := by decide +kernel
theorem dX1_doDeed_41 : decode cX1_doDeed 41 = .ok (.aload_n 1, 1) := by decide +kernel
theorem dX1_doDeed_42 : decode cX1_doDeed 42 = .ok (.iload_n 3, 1) := by decide +kernel
theorem dX1_doDeed_43 : decode cX1_doDeed 43 = .ok (.invokevirtual 36, 3) := by decide +kernel
theorem dX1_doDeed_46 : decode cX1_doDeed 46 = .ok (.goto 8, 3) := by decide +kernel
theorem dX1_doDeed_49 : decode cX1_doDeed 49 = .ok (.aload_n 1, 1) := by decide +kernel
theorem dX1_doDeed_50 : decode cX1_doDeed 50 = .ok (.iload_n 3, 1) := by decide +kernel
theorem dX1_doDeed_51 : decode cX1_doDeed 51 = .ok (.invokevirtual 40, 3) := by decide +kernel
theorem dX1_doDeed_54 : decode cX1_doDeed 54 = .ok (.iconst 1, 1) := by decide +kernel
theorem dX1_doDeed_55 : decode cX1_doDeed 55 = .ok (.ireturn, 1) := by decide +kernel
theorem dX1_doAppend_0 : decode cX1_doAppend 0 = .ok (.aload_n 1, 1) := by decide +kernel
theorem dX1_doAppend_1 : decode cX1_doAppend 1 = .ok (.getfield 43, 3) := by decide +kernel
theorem dX1_doAppend_4 : decode cX1_doAppend 4 = .ok (.ifCond .le 12, 3) := by decide +kernel
theorem dX1_doAppend_7 : decode cX1_doAppend 7 = .ok (.aload_n 1, 1) := by decide +kernel
theorem dX1_doAppend_8 : decode cX1_doAppend 8 = .ok (.getfield 31, 3) := by decide +kernel
theorem dX1_doAppend_11 : decode cX1_doAppend 11 = .ok (.bipush 16, 2) := by decide +kernel
theorem dX1_doAppend_13 : decode cX1_doAppend 13 = .ok (.if_icmp .lt 5, 3) := by decide +kernel
theorem dX1_doAppend_16 : decode cX1_doAppend 16 = .ok (.iconst 0, 1) := by decide +kernel
theorem dX1_doAppend_17 : decode cX1_doAppend 17 = .ok (.ireturn, 1) := by decide +kernel
theorem dX1_doAppend_18 : decode cX1_doAppend 18 = .ok (.aload_n 0, 1) := by decide +kernel
theorem dX1_doAppend_19 : decode cX1_doAppend 19 = .ok (.invokevirtual 16, 3) := by decide +kernel
theorem dX1_doAppend_22 : decode cX1_doAppend 22 = .ok (.aload_n 1, 1) := by decide +kernel
theorem dX1_doAppend_23 : decode cX1_doAppend 23 = .ok (.getfield 43, 3) := by decide +kernel
theorem dX1_doAppend_26 : decode cX1_doAppend 26 = .ok (.irem, 1) := by decide +kernel
theorem dX1_doAppend_27 : decode cX1_doAppend 27 = .ok (.istore_n 2, 1) := by decide +kernel
theorem dX1_doAppend_28 : decode cX1_doAppend 28 = .ok (.aload_n 0, 1) := by decide +kernel
theorem dX1_doAppend_29 : decode cX1_doAppend 29 = .ok (.invokevirtual 16, 3) := by decide +kernel
theorem dX1_doAppend_32 : decode cX1_doAppend 32 = .ok (.aload_n 1, 1) := by decide +kernel
theorem dX1_doAppend_33 : decode cX1_doAppend 33 = .ok (.getfield 43, 3) := by decide +kernel
theorem dX1_doAppend_36 : decode cX1_doAppend 36 = .ok (.irem, 1) := by decide +kernel
theorem dX1_doAppend_37 : decode cX1_doAppend 37 = .ok (.istore_n 3, 1) := by decide +kernel
theorem dX1_doAppend_38 : decode cX1_doAppend 38 = .ok (.aload_n 1, 1) := by decide +kernel
theorem dX1_doAppend_39 : decode cX1_doAppend 39 = .ok (.iload_n 2, 1) := by decide +kernel
theorem dX1_doAppend_40 : decode cX1_doAppend 40 = .ok (.iload_n 3, 1) := by decide +kernel
theorem dX1_doAppend_41 : decode cX1_doAppend 41 = .ok (.invokevirtual 46, 3) := by decide +kernel
theorem dX1_doAppend_44 : decode cX1_doAppend 44 = .ok (.iconst 1, 1) := by decide +kernel
theorem dX1_doAppend_45 : decode cX1_doAppend 45 = .ok (.ireturn, 1) := by decide +kernel
theorem dX2_init_0 : decode cX2_init 0 = .ok (.aload_n 0, 1) := by decide +kernel
theorem dX2_init_1 : decode cX2_init 1 = .ok (.invokespecial 3, 3) := by decide +kernel
theorem dX2_init_4 : decode cX2_init 4 = .ok (.aload_n 0, 1) := by decide +kernel
theorem dX2_init_5 : decode cX2_init 5 = .ok (.bipush 16, 2) := by decide +kernel
theorem dX2_init_7 : decode cX2_init 7 = .ok (.newarray .int, 2) := by decide +kernel
theorem dX2_init_9 : decode cX2_init 9 = .ok (.putfield 9, 3) := by decide +kernel
theorem dX2_init_12 : decode cX2_init 12 = .ok (.aload_n 0, 1) := by decide +kernel
theorem dX2_init_13 : decode cX2_init 13 = .ok (.bipush 16, 2) := by decide +kernel
theorem dX2_init_15 : decode cX2_init 15 = .ok (.newarray .int, 2) := by decide +kernel
theorem dX2_init_17 : decode cX2_init 17 = .ok (.putfield 15, 3) := by decide +kernel
theorem dX2_init_20 : decode cX2_init 20 = .ok (.aload_n 0, 1) := by decide +kernel
theorem dX2_init_21 : decode cX2_init 21 = .ok (.bipush 8, 2) := by decide +kernel
theorem dX2_init_23 : decode cX2_init 23 = .ok (.newarray .int, 2) := by decide +kernel
theorem dX2_init_25 : decode cX2_init 25 = .ok (.putfield 18, 3) := by decide +kernel
theorem dX2_init_28 : decode cX2_init 28 = .ok (.aload_n 0, 1) := by decide +kernel
theorem dX2_init_29 : decode cX2_init 29 = .ok (.bipush 8, 2) := by decide +kernel
theorem dX2_init_31 : decode cX2_init 31 = .ok (.newarray .int, 2) := by decide +kernel
theorem dX2_init_33 : decode cX2_init 33 = .ok (.putfield 21, 3) := by decide +kernel
theorem dX2_init_36 : decode cX2_init 36 = .ok (.aload_n 0, 1) := by decide +kernel
theorem dX2_init_37 : decode cX2_init 37 = .ok (.bipush 8, 2) := by decide +kernel
theorem dX2_init_39 : decode cX2_init 39 = .ok (.newarray .int, 2) := by decide +kernel
theorem dX2_init_41 : decode cX2_init 41 = .ok (.putfield 24, 3) := by decide +kernel
theorem dX2_init_44 : decode cX2_init 44 = .ok (.aload_n 0, 1) := by decide +kernel
theorem dX2_init_45 : decode cX2_init 45 = .ok (.iconst 0, 1) := by decide +kernel
theorem dX2_init_46 : decode cX2_init 46 = .ok (.putfield 27, 3) := by decide +kernel
theorem dX2_init_49 : decode cX2_init 49 = .ok (.return_, 1) := by decide +kernel
theorem dX2_fewestAgain_0 : decode cX2_fewestAgain 0 = .ok (.aload_n 0, 1) := by decide +kernel
theorem dX2_fewestAgain_1 : decode cX2_fewestAgain 1 = .ok (.bipush 16, 2) := by decide +kernel
theorem dX2_fewestAgain_3 : decode cX2_fewestAgain 3 = .ok (.putfield 27, 3) := by decide +kernel
theorem dX2_fewestAgain_6 : decode cX2_fewestAgain 6 = .ok (.iconst 0, 1) := by decide +kernel
theorem dX2_fewestAgain_7 : decode cX2_fewestAgain 7 = .ok (.istore_n 2, 1) := by decide +kernel
theorem dX2_fewestAgain_8 : decode cX2_fewestAgain 8 = .ok (.iload_n 2, 1) := by decide +kernel
theorem dX2_fewestAgain_9 : decode cX2_fewestAgain 9 = .ok (.aload_n 1, 1) := by decide +kernel
theorem dX2_fewestAgain_10 : decode cX2_fewestAgain 10 = .ok (.getfield 31, 3) := by decide +kernel
theorem dX2_fewestAgain_13 : decode cX2_fewestAgain 13 = .ok (.if_icmp .ge 21, 3) := by decide +kernel
theorem dX2_fewestAgain_16 : decode cX2_fewestAgain 16 = .ok (.aload_n 0, 1) := by decide +kernel
theorem dX2_fewestAgain_17 : decode cX2_fewestAgain 17 = .ok (.getfield 18, 3) := by decide +kernel
theorem dX2_fewestAgain_20 : decode cX2_fewestAgain 20 = .ok (.iload_n 2, 1) := by decide +kernel
theorem dX2_fewestAgain_21 : decode cX2_fewestAgain 21 = .ok (.aload_n 1, 1) := by decide +kernel
theorem dX2_fewestAgain_22 : decode cX2_fewestAgain 22 = .ok (.iload_n 2, 1) := by decide +kernel
theorem dX2_fewestAgain_23 : decode cX2_fewestAgain 23 = .ok (.invokevirtual 36, 3) := by decide +kernel
theorem dX2_fewestAgain_26 : decode cX2_fewestAgain 26 = .ok (.ineg, 1) := by decide +kernel
theorem dX2_fewestAgain_27 : decode cX2_fewestAgain 27 = .ok (.iastore, 1) := by decide +kernel
theorem dX2_fewestAgain_28 : decode cX2_fewestAgain 28 = .ok (.iinc 2 1, 3) := by decide +kernel
theorem dX2_fewestAgain_31 : decode cX2_fewestAgain 31 = .ok (.goto (-23), 3) := by decide +kernel
theorem dX2_fewestAgain_34 : decode cX2_fewestAgain 34 = .ok (.iconst 0, 1) := by decide +kernel
theorem dX2_fewestAgain_35 : decode cX2_fewestAgain 35 = .ok (.istore_n 2, 1) := by decide +kernel
theorem dX2_fewestAgain_36 : decode cX2_fewestAgain 36 = .ok (.iload_n 2, 1) := by decide +kernel
theorem dX2_fewestAgain_37 : decode cX2_fewestAgain 37 = .ok (.aload_n 1, 1) := by decide +kernel
theorem dX2_fewestAgain_38 : decode cX2_fewestAgain 38 = .ok (.getfield 40, 3) := by decide +kernel
theorem dX2_fewestAgain_41 : decode cX2_fewestAgain 41 = .ok (.if_icmp .ge 23, 3) := by decide +kernel
theorem dX2_fewestAgain_44 : decode cX2_fewestAgain 44 = .ok (.aload_n 0, 1) := by decide +kernel
theorem dX2_fewestAgain_45 : decode cX2_fewestAgain 45 = .ok (.getfield 9, 3) := by decide +kernel
theorem dX2_fewestAgain_48 : decode cX2_fewestAgain 48 = .ok (.iload_n 2, 1) := by decide +kernel
theorem dX2_fewestAgain_49 : decode cX2_fewestAgain 49 = .ok (.iconst 1, 1) := by decide +kernel
theorem dX2_fewestAgain_50 : decode cX2_fewestAgain 50 = .ok (.iastore, 1) := by decide +kernel
theorem dX2_fewestAgain_51 : decode cX2_fewestAgain 51 = .ok (.aload_n 0, 1) := by decide +kernel
theorem dX2_fewestAgain_52 : decode cX2_fewestAgain 52 = .ok (.getfield 15, 3) := by decide +kernel
theorem dX2_fewestAgain_55 : decode cX2_fewestAgain 55 = .ok (.iload_n 2, 1) := by decide +kernel
theorem dX2_fewestAgain_56 : decode cX2_fewestAgain 56 = .ok (.iconst 0, 1) := by decide +kernel
theorem dX2_fewestAgain_57 : decode cX2_fewestAgain 57 = .ok (.iastore, 1) := by decide +kernel
theorem dX2_fewestAgain_58 : decode cX2_fewestAgain 58 = .ok (.iinc 2 1, 3) := by decide +kernel
theorem dX2_fewestAgain_61 : decode cX2_fewestAgain 61 = .ok (.goto (-25), 3) := by decide +kernel
theorem dX2_fewestAgain_64 : decode cX2_fewestAgain 64 = .ok (.aload_n 0, 1) := by decide +kernel
theorem dX2_fewestAgain_65 : decode cX2_fewestAgain 65 = .ok (.aload_n 1, 1) := by decide +kernel
theorem dX2_fewestAgain_66 : decode cX2_fewestAgain 66 = .ok (.invokevirtual 43, 3) := by decide +kernel
theorem dX2_fewestAgain_69 : decode cX2_fewestAgain 69 = .ok (.ifCond .ne 5, 3) := by decide +kernel
theorem dX2_fewestAgain_72 : decode cX2_fewestAgain 72 = .ok (.iconst (-1), 1) := by decide +kernel
theorem dX2_fewestAgain_73 : decode cX2_fewestAgain 73 = .ok (.ireturn, 1) := by decide +kernel
theorem dX2_fewestAgain_74 : decode cX2_fewestAgain 74 = .ok (.iconst 0, 1) := by decide +kernel
theorem dX2_fewestAgain_75 : decode cX2_fewestAgain 75 = .ok (.istore_n 2, 1) := by decide +kernel
theorem dX2_fewestAgain_76 : decode cX2_fewestAgain 76 = .ok (.iconst 0, 1) := by decide +kernel
theorem dX2_fewestAgain_77 : decode cX2_fewestAgain 77 = .ok (.istore_n 3, 1) := by decide +kernel
theorem dX2_fewestAgain_78 : decode cX2_fewestAgain 78 = .ok (.iload_n 3, 1) := by decide +kernel
theorem dX2_fewestAgain_79 : decode cX2_fewestAgain 79 = .ok (.aload_n 1, 1) := by decide +kernel
theorem dX2_fewestAgain_80 : decode cX2_fewestAgain 80 = .ok (.getfield 40, 3) := by decide +kernel
theorem dX2_fewestAgain_83 : decode cX2_fewestAgain 83 = .ok (.if_icmp .ge 18, 3) := by decide +kernel
theorem dX2_fewestAgain_86 : decode cX2_fewestAgain 86 = .ok (.iload_n 2, 1) := by decide +kernel
theorem dX2_fewestAgain_87 : decode cX2_fewestAgain 87 = .ok (.aload_n 0, 1) := by decide +kernel
theorem dX2_fewestAgain_88 : decode cX2_fewestAgain 88 = .ok (.getfield 15, 3) := by decide +kernel
theorem dX2_fewestAgain_91 : decode cX2_fewestAgain 91 = .ok (.iload_n 3, 1) := by decide +kernel
theorem dX2_fewestAgain_92 : decode cX2_fewestAgain 92 = .ok (.iaload, 1) := by decide +kernel
theorem dX2_fewestAgain_93 : decode cX2_fewestAgain 93 = .ok (.iadd, 1) := by decide +kernel
theorem dX2_fewestAgain_94 : decode cX2_fewestAgain 94 = .ok (.istore_n 2, 1) := by decide +kernel
theorem dX2_fewestAgain_95 : decode cX2_fewestAgain 95 = .ok (.iinc 3 1, 3) := by decide +kernel
theorem dX2_fewestAgain_98 : decode cX2_fewestAgain 98 = .ok (.goto (-20), 3) := by decide +kernel
theorem dX2_fewestAgain_101 : decode cX2_fewestAgain 101 = .ok (.iload_n 2, 1) := by decide +kernel
theorem dX2_fewestAgain_102 : decode cX2_fewestAgain 102 = .ok (.ireturn, 1) := by decide +kernel
theorem dX2_leastTurned_0 : decode cX2_leastTurned 0 = .ok (.aload_n 0, 1) := by decide +kernel
theorem dX2_leastTurned_1 : decode cX2_leastTurned 1 = .ok (.iconst 1, 1) := by decide +kernel
theorem dX2_leastTurned_2 : decode cX2_leastTurned 2 = .ok (.putfield 27, 3) := by decide +kernel
theorem dX2_leastTurned_5 : decode cX2_leastTurned 5 = .ok (.iconst 0, 1) := by decide +kernel
theorem dX2_leastTurned_6 : decode cX2_leastTurned 6 = .ok (.istore_n 2, 1) := by decide +kernel
theorem dX2_leastTurned_7 : decode cX2_leastTurned 7 = .ok (.iload_n 2, 1) := by decide +kernel
theorem dX2_leastTurned_8 : decode cX2_leastTurned 8 = .ok (.aload_n 1, 1) := by decide +kernel
theorem dX2_leastTurned_9 : decode cX2_leastTurned 9 = .ok (.getfield 31, 3) := by decide +kernel
theorem dX2_leastTurned_12 : decode cX2_leastTurned 12 = .ok (.if_icmp .ge 32, 3) := by decide +kernel
theorem dX2_leastTurned_15 : decode cX2_leastTurned 15 = .ok (.aload_n 1, 1) := by decide +kernel
theorem dX2_leastTurned_16 : decode cX2_leastTurned 16 = .ok (.iload_n 2, 1) := by decide +kernel
theorem dX2_leastTurned_17 : decode cX2_leastTurned 17 = .ok (.invokevirtual 36, 3) := by decide +kernel
theorem dX2_leastTurned_20 : decode cX2_leastTurned 20 = .ok (.istore_n 3, 1) := by decide +kernel
theorem dX2_leastTurned_21 : decode cX2_leastTurned 21 = .ok (.iload_n 3, 1) := by decide +kernel
theorem dX2_leastTurned_22 : decode cX2_leastTurned 22 = .ok (.iconst 1, 1) := by decide +kernel
theorem dX2_leastTurned_23 : decode cX2_leastTurned 23 = .ok (.iand, 1) := by decide +kernel
theorem dX2_leastTurned_24 : decode cX2_leastTurned 24 = .ok (.ifCond .eq 5, 3) := by decide +kernel
theorem dX2_leastTurned_27 : decode cX2_leastTurned 27 = .ok (.iconst (-1), 1) := by decide +kernel
theorem dX2_leastTurned_28 : decode cX2_leastTurned 28 = .ok (.ireturn, 1) := by decide +kernel
theorem dX2_leastTurned_29 : decode cX2_leastTurned 29 = .ok (.aload_n 0, 1) := by decide +kernel
theorem dX2_leastTurned_30 : decode cX2_leastTurned 30 = .ok (.getfield 18, 3) := by decide +kernel
theorem dX2_leastTurned_33 : decode cX2_leastTurned 33 = .ok (.iload_n 2, 1) := by decide +kernel
theorem dX2_leastTurned_34 : decode cX2_leastTurned 34 = .ok (.iload_n 3, 1) := by decide +kernel
theorem dX2_leastTurned_35 : decode cX2_leastTurned 35 = .ok (.iconst 2, 1) := by decide +kernel
theorem dX2_leastTurned_36 : decode cX2_leastTurned 36 = .ok (.idiv, 1) := by decide +kernel
theorem dX2_leastTurned_37 : decode cX2_leastTurned 37 = .ok (.iastore, 1) := by decide +kernel
theorem dX2_leastTurned_38 : decode cX2_leastTurned 38 = .ok (.iinc 2 1, 3) := by decide +kernel
theorem dX2_leastTurned_41 : decode cX2_leastTurned 41 = .ok (.goto (-34), 3) := by decide +kernel
theorem dX2_leastTurned_44 : decode cX2_leastTurned 44 = .ok (.iconst 0, 1) := by decide +kernel
theorem dX2_leastTurned_45 : decode cX2_leastTurned 45 = .ok (.istore_n 2, 1) := by decide +kernel
theorem dX2_leastTurned_46 : decode cX2_leastTurned 46 = .ok (.iload_n 2, 1) := by decide +kernel
theorem dX2_leastTurned_47 : decode cX2_leastTurned 47 = .ok (.aload_n 1, 1) := by decide +kernel
theorem dX2_leastTurned_48 : decode cX2_leastTurned 48 = .ok (.getfield 40, 3) := by decide +kernel
theorem dX2_leastTurned_51 : decode cX2_leastTurned 51 = .ok (.if_icmp .ge 28, 3) := by decide +kernel
theorem dX2_leastTurned_54 : decode cX2_leastTurned 54 = .ok (.aload_n 0, 1) := by decide +kernel
theorem dX2_leastTurned_55 : decode cX2_leastTurned 55 = .ok (.getfield 9, 3) := by decide +kernel
theorem dX2_leastTurned_58 : decode cX2_leastTurned 58 = .ok (.iload_n 2, 1) := by decide +kernel
theorem dX2_leastTurned_59 : decode cX2_leastTurned 59 = .ok (.ldc 47, 2) := by decide +kernel
theorem dX2_leastTurned_61 : decode cX2_leastTurned 61 = .ok (.iconst 1, 1) := by decide +kernel
theorem dX2_leastTurned_62 : decode cX2_leastTurned 62 = .ok (.iload_n 2, 1) := by decide +kernel
theorem dX2_leastTurned_63 : decode cX2_leastTurned 63 = .ok (.ishl, 1) := by decide +kernel
theorem dX2_leastTurned_64 : decode cX2_leastTurned 64 = .ok (.iadd, 1) := by decide +kernel
theorem dX2_leastTurned_65 : decode cX2_leastTurned 65 = .ok (.iastore, 1) := by decide +kernel
theorem dX2_leastTurned_66 : decode cX2_leastTurned 66 = .ok (.aload_n 0, 1) := by decide +kernel
theorem dX2_leastTurned_67 : decode cX2_leastTurned 67 = .ok (.getfield 15, 3) := by decide +kernel
theorem dX2_leastTurned_70 : decode cX2_leastTurned 70 = .ok (.iload_n 2, 1) := by decide +kernel
theorem dX2_leastTurned_71 : decode cX2_leastTurned 71 = .ok (.iconst 0, 1) := by decide +kernel
theorem dX2_leastTurned_72 : decode cX2_leastTurned 72 = .ok (.iastore, 1) := by decide +kernel
theorem dX2_leastTurned_73 : decode cX2_leastTurned 73 = .ok (.iinc 2 1, 3) := by decide +kernel
theorem dX2_leastTurned_76 : decode cX2_leastTurned 76 = .ok (.goto (-30), 3) := by decide +kernel
theorem dX2_leastTurned_79 : decode cX2_leastTurned 79 = .ok (.aload_n 0, 1) := by decide +kernel
theorem dX2_leastTurned_80 : decode cX2_leastTurned 80 = .ok (.aload_n 1, 1) := by decide +kernel
theorem dX2_leastTurned_81 : decode cX2_leastTurned 81 = .ok (.invokevirtual 43, 3) := by decide +kernel
theorem dX2_leastTurned_84 : decode cX2_leastTurned 84 = .ok (.ifCond .ne 5, 3) := by decide +kernel
theorem dX2_leastTurned_87 : decode cX2_leastTurned 87 = .ok (.iconst (-1), 1) := by decide +kernel
theorem dX2_leastTurned_88 : decode cX2_leastTurned 88 = .ok (.ireturn, 1) := by decide +kernel
theorem dX2_leastTurned_89 : decode cX2_leastTurned 89 = .ok (.iconst 0, 1) := by decide +kernel
theorem dX2_leastTurned_90 : decode cX2_leastTurned 90 = .ok (.istore_n 2, 1) := by decide +kernel
theorem dX2_leastTurned_91 : decode cX2_leastTurned 91 = .ok (.iconst 0, 1) := by decide +kernel
theorem dX2_leastTurned_92 : decode cX2_leastTurned 92 = .ok (.istore_n 3, 1) := by decide +kernel
theorem dX2_leastTurned_93 : decode cX2_leastTurned 93 = .ok (.iload_n 3, 1) := by decide +kernel
theorem dX2_leastTurned_94 : decode cX2_leastTurned 94 = .ok (.aload_n 1, 1) := by decide +kernel
theorem dX2_leastTurned_95 : decode cX2_leastTurned 95 = .ok (.getfield 40, 3) := by decide +kernel
theorem dX2_leastTurned_98 : decode cX2_leastTurned 98 = .ok (.if_icmp .ge 24, 3) := by decide +kernel
theorem dX2_leastTurned_101 : decode cX2_leastTurned 101 = .ok (.aload_n 0, 1) := by decide +kernel
theorem dX2_leastTurned_102 : decode cX2_leastTurned 102 = .ok (.getfield 15, 3) := by decide +kernel
theorem dX2_leastTurned_105 : decode cX2_leastTurned 105 = .ok (.iload_n 3, 1) := by decide +kernel
theorem dX2_leastTurned_106 : decode cX2_leastTurned 106 = .ok (.iaload, 1) := by decide +kernel
theorem dX2_leastTurned_107 : decode cX2_leastTurned 107 = .ok (.ifCond .le 9, 3) := by decide +kernel
theorem dX2_leastTurned_110 : decode cX2_leastTurned 110 = .ok (.iload_n 2, 1) := by decide +kernel
theorem dX2_leastTurned_111 : decode cX2_leastTurned 111 = .ok (.iconst 1, 1) := by decide +kernel
theorem dX2_leastTurned_112 : decode cX2_leastTurned 112 = .ok (.iload_n 3, 1) := by decide +kernel
theorem dX2_leastTurned_113 : decode cX2_leastTurned 113 = .ok (.ishl, 1) := by decide +kernel
theorem dX2_leastTurned_114 : decode cX2_leastTurned 114 = .ok (.ior, 1) := by decide +kernel
theorem dX2_leastTurned_115 : decode cX2_leastTurned 115 = .ok (.istore_n 2, 1) := by decide +kernel
theorem dX2_leastTurned_116 : decode cX2_leastTurned 116 = .ok (.iinc 3 1, 3) := by decide +kernel
theorem dX2_leastTurned_119 : decode cX2_leastTurned 119 = .ok (.goto (-26), 3) := by decide +kernel
theorem dX2_leastTurned_122 : decode cX2_leastTurned 122 = .ok (.iload_n 2, 1) := by decide +kernel
theorem dX2_leastTurned_123 : decode cX2_leastTurned 123 = .ok (.ireturn, 1) := by decide +kernel
theorem dX2_sendAll_0 : decode cX2_sendAll 0 = .ok (.iconst 0, 1) := by decide +kernel
theorem dX2_sendAll_1 : decode cX2_sendAll 1 = .ok (.istore_n 2, 1) := by decide +kernel
theorem dX2_sendAll_2 : decode cX2_sendAll 2 = .ok (.iload_n 2, 1) := by decide +kernel
theorem dX2_sendAll_3 : decode cX2_sendAll 3 = .ok (.bipush 16, 2) := by decide +kernel
theorem dX2_sendAll_5 : decode cX2_sendAll 5 = .ok (.if_icmp .gt 43, 3) := by decide +kernel
theorem dX2_sendAll_8 : decode cX2_sendAll 8 = .ok (.aload_n 0, 1) := by decide +kernel
theorem dX2_sendAll_9 : decode cX2_sendAll 9 = .ok (.aload_n 1, 1) := by decide +kernel
theorem dX2_sendAll_10 : decode cX2_sendAll 10 = .ok (.invokevirtual 48, 3) := by decide +kernel
theorem dX2_sendAll_13 : decode cX2_sendAll 13 = .ok (.ifCond .ne 5, 3) := by decide +kernel
theorem dX2_sendAll_16 : decode cX2_sendAll 16 = .ok (.iconst 1, 1) := by decide +kernel
theorem dX2_sendAll_17 : decode cX2_sendAll 17 = .ok (.ireturn, 1) := by decide +kernel
theorem dX2_sendAll_18 : decode cX2_sendAll 18 = .ok (.aload_n 0, 1) := by decide +kernel
theorem dX2_sendAll_19 : decode cX2_sendAll 19 = .ok (.aload_n 1, 1) := by decide +kernel
theorem dX2_sendAll_20 : decode cX2_sendAll 20 = .ok (.invokevirtual 51, 3) := by decide +kernel
theorem dX2_sendAll_23 : decode cX2_sendAll 23 = .ok (.aload_n 0, 1) := by decide +kernel
theorem dX2_sendAll_24 : decode cX2_sendAll 24 = .ok (.aload_n 1, 1) := by decide +kernel
theorem dX2_sendAll_25 : decode cX2_sendAll 25 = .ok (.invokevirtual 55, 3) := by decide +kernel
theorem dX2_sendAll_28 : decode cX2_sendAll 28 = .ok (.istore_n 3, 1) := by decide +kernel
theorem dX2_sendAll_29 : decode cX2_sendAll 29 = .ok (.iload_n 3, 1) := by decide +kernel
theorem dX2_sendAll_30 : decode cX2_sendAll 30 = .ok (.iconst (-1), 1) := by decide +kernel
theorem dX2_sendAll_31 : decode cX2_sendAll 31 = .ok (.if_icmp .ne 5, 3) := by decide +kernel
theorem dX2_sendAll_34 : decode cX2_sendAll 34 = .ok (.iconst 0, 1) := by decide +kernel
theorem dX2_sendAll_35 : decode cX2_sendAll 35 = .ok (.ireturn, 1) := by decide +kernel
theorem dX2_sendAll_36 : decode cX2_sendAll 36 = .ok (.aload_n 0, 1) := by decide +kernel
theorem dX2_sendAll_37 : decode cX2_sendAll 37 = .ok (.aload_n 1, 1) := by decide +kernel
theorem dX2_sendAll_38 : decode cX2_sendAll 38 = .ok (.iload_n 3, 1) := by decide +kernel
theorem dX2_sendAll_39 : decode cX2_sendAll 39 = .ok (.invokevirtual 59, 3) := by decide +kernel
theorem dX2_sendAll_42 : decode cX2_sendAll 42 = .ok (.iinc 2 1, 3) := by decide +kernel
theorem dX2_sendAll_45 : decode cX2_sendAll 45 = .ok (.goto (-43), 3) := by decide +kernel
theorem dX2_sendAll_48 : decode cX2_sendAll 48 = .ok (.iconst 0, 1) := by decide +kernel
theorem dX2_sendAll_49 : decode cX2_sendAll 49 = .ok (.ireturn, 1) := by decide +kernel
theorem dX2_hasSurplus_0 : decode cX2_hasSurplus 0 = .ok (.iconst 0, 1) := by decide +kernel
theorem dX2_hasSurplus_1 : decode cX2_hasSurplus 1 = .ok (.istore_n 2, 1) := by decide +kernel
theorem dX2_hasSurplus_2 : decode cX2_hasSurplus 2 = .ok (.iload_n 2, 1) := by decide +kernel
theorem dX2_hasSurplus_3 : decode cX2_hasSurplus 3 = .ok (.aload_n 1, 1) := by decide +kernel
theorem dX2_hasSurplus_4 : decode cX2_hasSurplus 4 = .ok (.getfield 31, 3) := by decide +kernel
theorem dX2_hasSurplus_7 : decode cX2_hasSurplus 7 = .ok (.if_icmp .ge 20, 3) := by decide +kernel
theorem dX2_hasSurplus_10 : decode cX2_hasSurplus 10 = .ok (.aload_n 0, 1) := by decide +kernel
theorem dX2_hasSurplus_11 : decode cX2_hasSurplus 11 = .ok (.getfield 18, 3) := by decide +kernel
theorem dX2_hasSurplus_14 : decode cX2_hasSurplus 14 = .ok (.iload_n 2, 1) := by decide +kernel
theorem dX2_hasSurplus_15 : decode cX2_hasSurplus 15 = .ok (.iaload, 1) := by decide +kernel
theorem dX2_hasSurplus_16 : decode cX2_hasSurplus 16 = .ok (.ifCond .le 5, 3) := by decide +kernel
theorem dX2_hasSurplus_19 : decode cX2_hasSurplus 19 = .ok (.iconst 1, 1) := by decide +kernel
theorem dX2_hasSurplus_20 : decode cX2_hasSurplus 20 = .ok (.ireturn, 1) := by decide +kernel
theorem dX2_hasSurplus_21 : decode cX2_hasSurplus 21 = .ok (.iinc 2 1, 3) := by decide +kernel
theorem dX2_hasSurplus_24 : decode cX2_hasSurplus 24 = .ok (.goto (-22), 3) := by decide +kernel
theorem dX2_hasSurplus_27 : decode cX2_hasSurplus 27 = .ok (.iconst 0, 1) := by decide +kernel
theorem dX2_hasSurplus_28 : decode cX2_hasSurplus 28 = .ok (.ireturn, 1) := by decide +kernel
theorem dX2_findDistances_0 : decode cX2_findDistances 0 = .ok (.iconst 0, 1) := by decide +kernel
theorem dX2_findDistances_1 : decode cX2_findDistances 1 = .ok (.istore_n 2, 1) := by decide +kernel
theorem dX2_findDistances_2 : decode cX2_findDistances 2 = .ok (.iload_n 2, 1) := by decide +kernel
theorem dX2_findDistances_3 : decode cX2_findDistances 3 = .ok (.aload_n 1, 1) := by decide +kernel
theorem dX2_findDistances_4 : decode cX2_findDistances 4 = .ok (.getfield 31, 3) := by decide +kernel
theorem dX2_findDistances_7 : decode cX2_findDistances 7 = .ok (.if_icmp .ge 37, 3) := by decide +kernel
theorem dX2_findDistances_10 : decode cX2_findDistances 10 = .ok (.aload_n 0, 1) := by decide +kernel
theorem dX2_findDistances_11 : decode cX2_findDistances 11 = .ok (.getfield 21, 3) := by decide +kernel
theorem dX2_findDistances_14 : decode cX2_findDistances 14 = .ok (.iload_n 2, 1) := by decide +kernel
theorem dX2_findDistances_15 : decode cX2_findDistances 15 = .ok (.aload_n 0, 1) := by decide +kernel
theorem dX2_findDistances_16 : decode cX2_findDistances 16 = .ok (.getfield 18, 3) := by decide +kernel
theorem dX2_findDistances_19 : decode cX2_findDistances 19 = .ok (.iload_n 2, 1) := by decide +kernel
theorem dX2_findDistances_20 : decode cX2_findDistances 20 = .ok (.iaload, 1) := by decide +kernel
theorem dX2_findDistances_21 : decode cX2_findDistances 21 = .ok (.ifCond .le 7, 3) := by decide +kernel
theorem dX2_findDistances_24 : decode cX2_findDistances 24 = .ok (.iconst 0, 1) := by decide +kernel
theorem dX2_findDistances_25 : decode cX2_findDistances 25 = .ok (.goto 5, 3) := by decide +kernel
theorem dX2_findDistances_28 : decode cX2_findDistances 28 = .ok (.ldc 63, 2) := by decide +kernel
theorem dX2_findDistances_30 : decode cX2_findDistances 30 = .ok (.iastore, 1) := by decide +kernel
theorem dX2_findDistances_31 : decode cX2_findDistances 31 = .ok (.aload_n 0, 1) := by decide +kernel
theorem dX2_findDistances_32 : decode cX2_findDistances 32 = .ok (.getfield 24, 3) := by decide +kernel
theorem dX2_findDistances_35 : decode cX2_findDistances 35 = .ok (.iload_n 2, 1) := by decide +kernel
theorem dX2_findDistances_36 : decode cX2_findDistances 36 = .ok (.iconst (-1), 1) := by decide +kernel
theorem dX2_findDistances_37 : decode cX2_findDistances 37 = .ok (.iastore, 1) := by decide +kernel
theorem dX2_findDistances_38 : decode cX2_findDistances 38 = .ok (.iinc 2 1, 3) := by decide +kernel
theorem dX2_findDistances_41 : decode cX2_findDistances 41 = .ok (.goto (-39), 3) := by decide +kernel
theorem dX2_findDistances_44 : decode cX2_findDistances 44 = .ok (.iconst 1, 1) := by decide +kernel
theorem dX2_findDistances_45 : decode cX2_findDistances 45 = .ok (.istore_n 2, 1) := by decide +kernel
theorem dX2_findDistances_46 : decode cX2_findDistances 46 = .ok (.iconst 0, 1) := by decide +kernel
theorem dX2_findDistances_47 : decode cX2_findDistances 47 = .ok (.istore_n 3, 1) := by decide +kernel
theorem dX2_findDistances_48 : decode cX2_findDistances 48 = .ok (.iload_n 3, 1) := by decide +kernel
theorem dX2_findDistances_49 : decode cX2_findDistances 49 = .ok (.bipush 8, 2) := by decide +kernel
theorem dX2_findDistances_51 : decode cX2_findDistances 51 = .ok (.if_icmp .ge 218, 3) := by decide +kernel
theorem dX2_findDistances_54 : decode cX2_findDistances 54 = .ok (.iload_n 2, 1) := by decide +kernel
theorem dX2_findDistances_55 : decode cX2_findDistances 55 = .ok (.ifCond .eq 214, 3) := by decide +kernel
theorem dX2_findDistances_58 : decode cX2_findDistances 58 = .ok (.iconst 0, 1) := by decide +kernel
theorem dX2_findDistances_59 : decode cX2_findDistances 59 = .ok (.istore_n 2, 1) := by decide +kernel
theorem dX2_findDistances_60 : decode cX2_findDistances 60 = .ok (.iconst 0, 1) := by decide +kernel
theorem dX2_findDistances_61 : decode cX2_findDistances 61 = .ok (.istore 4, 2) := by decide +kernel
theorem dX2_findDistances_63 : decode cX2_findDistances 63 = .ok (.iload 4, 2) := by decide +kernel
theorem dX2_findDistances_65 : decode cX2_findDistances 65 = .ok (.aload_n 1, 1) := by decide +kernel
theorem dX2_findDistances_66 : decode cX2_findDistances 66 = .ok (.getfield 40, 3) := by decide +kernel
theorem dX2_findDistances_69 : decode cX2_findDistances 69 = .ok (.if_icmp .ge 194, 3) := by decide +kernel
theorem dX2_findDistances_72 : decode cX2_findDistances 72 = .ok (.aload_n 1, 1) := by decide +kernel
theorem dX2_findDistances_73 : decode cX2_findDistances 73 = .ok (.getfield 64, 3) := by decide +kernel
theorem dX2_findDistances_76 : decode cX2_findDistances 76 = .ok (.iload 4, 2) := by decide +kernel
theorem dX2_findDistances_78 : decode cX2_findDistances 78 = .ok (.iaload, 1) := by decide +kernel
theorem dX2_findDistances_79 : decode cX2_findDistances 79 = .ok (.istore 5, 2) := by decide +kernel
theorem dX2_findDistances_81 : decode cX2_findDistances 81 = .ok (.aload_n 1, 1) := by decide +kernel
theorem dX2_findDistances_82 : decode cX2_findDistances 82 = .ok (.getfield 67, 3) := by decide +kernel
theorem dX2_findDistances_85 : decode cX2_findDistances 85 = .ok (.iload 4, 2) := by decide +kernel
theorem dX2_findDistances_87 : decode cX2_findDistances 87 = .ok (.iaload, 1) := by decide +kernel
theorem dX2_findDistances_88 : decode cX2_findDistances 88 = .ok (.istore 6, 2) := by decide +kernel
theorem dX2_findDistances_90 : decode cX2_findDistances 90 = .ok (.aload_n 0, 1) := by decide +kernel
theorem dX2_findDistances_91 : decode cX2_findDistances 91 = .ok (.getfield 15, 3) := by decide +kernel
theorem dX2_findDistances_94 : decode cX2_findDistances 94 = .ok (.iload 4, 2) := by decide +kernel
theorem dX2_findDistances_96 : decode cX2_findDistances 96 = .ok (.iaload, 1) := by decide +kernel
theorem dX2_findDistances_97 : decode cX2_findDistances 97 = .ok (.aload_n 0, 1) := by decide +kernel
theorem dX2_findDistances_98 : decode cX2_findDistances 98 = .ok (.getfield 27, 3) := by decide +kernel
theorem dX2_findDistances_101 : decode cX2_findDistances 101 = .ok (.if_icmp .ge 73, 3) := by decide +kernel
theorem dX2_findDistances_104 : decode cX2_findDistances 104 = .ok (.aload_n 0, 1) := by decide +kernel
theorem dX2_findDistances_105 : decode cX2_findDistances 105 = .ok (.getfield 21, 3) := by decide +kernel
theorem dX2_findDistances_108 : decode cX2_findDistances 108 = .ok (.iload 5, 2) := by decide +kernel
theorem dX2_findDistances_110 : decode cX2_findDistances 110 = .ok (.iaload, 1) := by decide +kernel
theorem dX2_findDistances_111 : decode cX2_findDistances 111 = .ok (.ldc 63, 2) := by decide +kernel
theorem dX2_findDistances_113 : decode cX2_findDistances 113 = .ok (.if_icmp .ge 61, 3) := by decide +kernel
theorem dX2_findDistances_116 : decode cX2_findDistances 116 = .ok (.aload_n 0, 1) := by decide +kernel
theorem dX2_findDistances_117 : decode cX2_findDistances 117 = .ok (.getfield 21, 3) := by decide +kernel
theorem dX2_findDistances_120 : decode cX2_findDistances 120 = .ok (.iload 5, 2) := by decide +kernel
theorem dX2_findDistances_122 : decode cX2_findDistances 122 = .ok (.iaload, 1) := by decide +kernel
theorem dX2_findDistances_123 : decode cX2_findDistances 123 = .ok (.aload_n 0, 1) := by decide +kernel
theorem dX2_findDistances_124 : decode cX2_findDistances 124 = .ok (.getfield 9, 3) := by decide +kernel
theorem dX2_findDistances_127 : decode cX2_findDistances 127 = .ok (.iload 4, 2) := by decide +kernel
theorem dX2_findDistances_129 : decode cX2_findDistances 129 = .ok (.iaload, 1) := by decide +kernel
theorem dX2_findDistances_130 : decode cX2_findDistances 130 = .ok (.iadd, 1) := by decide +kernel
theorem dX2_findDistances_131 : decode cX2_findDistances 131 = .ok (.aload_n 0, 1) := by decide +kernel
theorem dX2_findDistances_132 : decode cX2_findDistances 132 = .ok (.getfield 21, 3) := by decide +kernel
theorem dX2_findDistances_135 : decode cX2_findDistances 135 = .ok (.iload 6, 2) := by decide +kernel
theorem dX2_findDistances_137 : decode cX2_findDistances 137 = .ok (.iaload, 1) := by decide +kernel
theorem dX2_findDistances_138 : decode cX2_findDistances 138 = .ok (.if_icmp .ge 36, 3) := by decide +kernel
theorem dX2_findDistances_141 : decode cX2_findDistances 141 = .ok (.aload_n 0, 1) := by decide +kernel
theorem dX2_findDistances_142 : decode cX2_findDistances 142 = .ok (.getfield 21, 3) := by decide +kernel
theorem dX2_findDistances_145 : decode cX2_findDistances 145 = .ok (.iload 6, 2) := by decide +kernel
theorem dX2_findDistances_147 : decode cX2_findDistances 147 = .ok (.aload_n 0, 1) := by decide +kernel
theorem dX2_findDistances_148 : decode cX2_findDistances 148 = .ok (.getfield 21, 3) := by decide +kernel
theorem dX2_findDistances_151 : decode cX2_findDistances 151 = .ok (.iload 5, 2) := by decide +kernel
theorem dX2_findDistances_153 : decode cX2_findDistances 153 = .ok (.iaload, 1) := by decide +kernel
theorem dX2_findDistances_154 : decode cX2_findDistances 154 = .ok (.aload_n 0, 1) := by decide +kernel
theorem dX2_findDistances_155 : decode cX2_findDistances 155 = .ok (.getfield 9, 3) := by decide +kernel
theorem dX2_findDistances_158 : decode cX2_findDistances 158 = .ok (.iload 4, 2) := by decide +kernel
theorem dX2_findDistances_160 : decode cX2_findDistances 160 = .ok (.iaload, 1) := by decide +kernel
theorem dX2_findDistances_161 : decode cX2_findDistances 161 = .ok (.iadd, 1) := by decide +kernel
theorem dX2_findDistances_162 : decode cX2_findDistances 162 = .ok (.iastore, 1) := by decide +kernel
theorem dX2_findDistances_163 : decode cX2_findDistances 163 = .ok (.aload_n 0, 1) := by decide +kernel
theorem dX2_findDistances_164 : decode cX2_findDistances 164 = .ok (.getfield 24, 3) := by decide +kernel
theorem dX2_findDistances_167 : decode cX2_findDistances 167 = .ok (.iload 6, 2) := by decide +kernel
theorem dX2_findDistances_169 : decode cX2_findDistances 169 = .ok (.iload 4, 2) := by decide +kernel
theorem dX2_findDistances_171 : decode cX2_findDistances 171 = .ok (.iastore, 1) := by decide +kernel
theorem dX2_findDistances_172 : decode cX2_findDistances 172 = .ok (.iconst 1, 1) := by decide +kernel
theorem dX2_findDistances_173 : decode cX2_findDistances 173 = .ok (.istore_n 2, 1) := by decide +kernel
theorem dX2_findDistances_174 : decode cX2_findDistances 174 = .ok (.aload_n 0, 1) := by decide +kernel
theorem dX2_findDistances_175 : decode cX2_findDistances 175 = .ok (.getfield 15, 3) := by decide +kernel
theorem dX2_findDistances_178 : decode cX2_findDistances 178 = .ok (.iload 4, 2) := by decide +kernel
theorem dX2_findDistances_180 : decode cX2_findDistances 180 = .ok (.iaload, 1) := by decide +kernel
theorem dX2_findDistances_181 : decode cX2_findDistances 181 = .ok (.ifCond .le 76, 3) := by decide +kernel
theorem dX2_findDistances_184 : decode cX2_findDistances 184 = .ok (.aload_n 0, 1) := by decide +kernel
theorem dX2_findDistances_185 : decode cX2_findDistances 185 = .ok (.getfield 21, 3) := by decide +kernel
theorem dX2_findDistances_188 : decode cX2_findDistances 188 = .ok (.iload 6, 2) := by decide +kernel
theorem dX2_findDistances_190 : decode cX2_findDistances 190 = .ok (.iaload, 1) := by decide +kernel
theorem dX2_findDistances_191 : decode cX2_findDistances 191 = .ok (.ldc 63, 2) := by decide +kernel
theorem dX2_findDistances_193 : decode cX2_findDistances 193 = .ok (.if_icmp .ge 64, 3) := by decide +kernel
theorem dX2_findDistances_196 : decode cX2_findDistances 196 = .ok (.aload_n 0, 1) := by decide +kernel
theorem dX2_findDistances_197 : decode cX2_findDistances 197 = .ok (.getfield 21, 3) := by decide +kernel
theorem dX2_findDistances_200 : decode cX2_findDistances 200 = .ok (.iload 6, 2) := by decide +kernel
theorem dX2_findDistances_202 : decode cX2_findDistances 202 = .ok (.iaload, 1) := by decide +kernel
theorem dX2_findDistances_203 : decode cX2_findDistances 203 = .ok (.aload_n 0, 1) := by decide +kernel
theorem dX2_findDistances_204 : decode cX2_findDistances 204 = .ok (.getfield 9, 3) := by decide +kernel
theorem dX2_findDistances_207 : decode cX2_findDistances 207 = .ok (.iload 4, 2) := by decide +kernel
theorem dX2_findDistances_209 : decode cX2_findDistances 209 = .ok (.iaload, 1) := by decide +kernel
theorem dX2_findDistances_210 : decode cX2_findDistances 210 = .ok (.isub, 1) := by decide +kernel
theorem dX2_findDistances_211 : decode cX2_findDistances 211 = .ok (.aload_n 0, 1) := by decide +kernel
theorem dX2_findDistances_212 : decode cX2_findDistances 212 = .ok (.getfield 21, 3) := by decide +kernel
theorem dX2_findDistances_215 : decode cX2_findDistances 215 = .ok (.iload 5, 2) := by decide +kernel
theorem dX2_findDistances_217 : decode cX2_findDistances 217 = .ok (.iaload, 1) := by decide +kernel
theorem dX2_findDistances_218 : decode cX2_findDistances 218 = .ok (.if_icmp .ge 39, 3) := by decide +kernel
theorem dX2_findDistances_221 : decode cX2_findDistances 221 = .ok (.aload_n 0, 1) := by decide +kernel
theorem dX2_findDistances_222 : decode cX2_findDistances 222 = .ok (.getfield 21, 3) := by decide +kernel
theorem dX2_findDistances_225 : decode cX2_findDistances 225 = .ok (.iload 5, 2) := by decide +kernel
theorem dX2_findDistances_227 : decode cX2_findDistances 227 = .ok (.aload_n 0, 1) := by decide +kernel
theorem dX2_findDistances_228 : decode cX2_findDistances 228 = .ok (.getfield 21, 3) := by decide +kernel
theorem dX2_findDistances_231 : decode cX2_findDistances 231 = .ok (.iload 6, 2) := by decide +kernel
theorem dX2_findDistances_233 : decode cX2_findDistances 233 = .ok (.iaload, 1) := by decide +kernel
theorem dX2_findDistances_234 : decode cX2_findDistances 234 = .ok (.aload_n 0, 1) := by decide +kernel
theorem dX2_findDistances_235 : decode cX2_findDistances 235 = .ok (.getfield 9, 3) := by decide +kernel
theorem dX2_findDistances_238 : decode cX2_findDistances 238 = .ok (.iload 4, 2) := by decide +kernel
theorem dX2_findDistances_240 : decode cX2_findDistances 240 = .ok (.iaload, 1) := by decide +kernel
theorem dX2_findDistances_241 : decode cX2_findDistances 241 = .ok (.isub, 1) := by decide +kernel
theorem dX2_findDistances_242 : decode cX2_findDistances 242 = .ok (.iastore, 1) := by decide +kernel
theorem dX2_findDistances_243 : decode cX2_findDistances 243 = .ok (.aload_n 0, 1) := by decide +kernel
theorem dX2_findDistances_244 : decode cX2_findDistances 244 = .ok (.getfield 24, 3) := by decide +kernel
theorem dX2_findDistances_247 : decode cX2_findDistances 247 = .ok (.iload 5, 2) := by decide +kernel
theorem dX2_findDistances_249 : decode cX2_findDistances 249 = .ok (.iload 4, 2) := by decide +kernel
theorem dX2_findDistances_251 : decode cX2_findDistances 251 = .ok (.bipush 16, 2) := by decide +kernel
theorem dX2_findDistances_253 : decode cX2_findDistances 253 = .ok (.iadd, 1) := by decide +kernel
theorem dX2_findDistances_254 : decode cX2_findDistances 254 = .ok (.iastore, 1) := by decide +kernel
theorem dX2_findDistances_255 : decode cX2_findDistances 255 = .ok (.iconst 1, 1) := by decide +kernel
theorem dX2_findDistances_256 : decode cX2_findDistances 256 = .ok (.istore_n 2, 1) := by decide +kernel
theorem dX2_findDistances_257 : decode cX2_findDistances 257 = .ok (.iinc 4 1, 3) := by decide +kernel
theorem dX2_findDistances_260 : decode cX2_findDistances 260 = .ok (.goto (-197), 3) := by decide +kernel
theorem dX2_findDistances_263 : decode cX2_findDistances 263 = .ok (.iinc 3 1, 3) := by decide +kernel
theorem dX2_findDistances_266 : decode cX2_findDistances 266 = .ok (.goto (-218), 3) := by decide +kernel
theorem dX2_findDistances_269 : decode cX2_findDistances 269 = .ok (.return_, 1) := by decide +kernel
theorem dX2_nearestLacking_0 : decode cX2_nearestLacking 0 = .ok (.iconst (-1), 1) := by decide +kernel
theorem dX2_nearestLacking_1 : decode cX2_nearestLacking 1 = .ok (.istore_n 2, 1) := by decide +kernel
theorem dX2_nearestLacking_2 : decode cX2_nearestLacking 2 = .ok (.iconst 0, 1) := by decide +kernel
theorem dX2_nearestLacking_3 : decode cX2_nearestLacking 3 = .ok (.istore_n 3, 1) := by decide +kernel
theorem dX2_nearestLacking_4 : decode cX2_nearestLacking 4 = .ok (.iload_n 3, 1) := by decide +kernel
theorem dX2_nearestLacking_5 : decode cX2_nearestLacking 5 = .ok (.aload_n 1, 1) := by decide +kernel
theorem dX2_nearestLacking_6 : decode cX2_nearestLacking 6 = .ok (.getfield 31, 3) := by decide +kernel
theorem dX2_nearestLacking_9 : decode cX2_nearestLacking 9 = .ok (.if_icmp .ge 63, 3) := by decide +kernel
theorem dX2_nearestLacking_12 : decode cX2_nearestLacking 12 = .ok (.aload_n 0, 1) := by decide +kernel
theorem dX2_nearestLacking_13 : decode cX2_nearestLacking 13 = .ok (.getfield 18, 3) := by decide +kernel
theorem dX2_nearestLacking_16 : decode cX2_nearestLacking 16 = .ok (.iload_n 3, 1) := by decide +kernel
theorem dX2_nearestLacking_17 : decode cX2_nearestLacking 17 = .ok (.iaload, 1) := by decide +kernel
theorem dX2_nearestLacking_18 : decode cX2_nearestLacking 18 = .ok (.ifCond .ge 18, 3) := by decide +kernel
theorem dX2_nearestLacking_21 : decode cX2_nearestLacking 21 = .ok (.aload_n 0, 1) := by decide +kernel
theorem dX2_nearestLacking_22 : decode cX2_nearestLacking 22 = .ok (.getfield 21, 3) := by decide +kernel
theorem dX2_nearestLacking_25 : decode cX2_nearestLacking 25 = .ok (.iload_n 3, 1) := by decide +kernel
theorem dX2_nearestLacking_26 : decode cX2_nearestLacking 26 = .ok (.iaload, 1) := by decide +kernel
theorem dX2_nearestLacking_27 : decode cX2_nearestLacking 27 = .ok (.ldc 63, 2) := by decide +kernel
theorem dX2_nearestLacking_29 : decode cX2_nearestLacking 29 = .ok (.if_icmp .ge 7, 3) := by decide +kernel
theorem dX2_nearestLacking_32 : decode cX2_nearestLacking 32 = .ok (.iconst 1, 1) := by decide +kernel
theorem dX2_nearestLacking_33 : decode cX2_nearestLacking 33 = .ok (.goto 4, 3) := by decide +kernel
theorem dX2_nearestLacking_36 : decode cX2_nearestLacking 36 = .ok (.iconst 0, 1) := by decide +kernel
theorem dX2_nearestLacking_37 : decode cX2_nearestLacking 37 = .ok (.istore 4, 2) := by decide +kernel
theorem dX2_nearestLacking_39 : decode cX2_nearestLacking 39 = .ok (.iload 4, 2) := by decide +kernel
theorem dX2_nearestLacking_41 : decode cX2_nearestLacking 41 = .ok (.ifCond .eq 25, 3) := by decide +kernel
theorem dX2_nearestLacking_44 : decode cX2_nearestLacking 44 = .ok (.iload_n 2, 1) := by decide +kernel
theorem dX2_nearestLacking_45 : decode cX2_nearestLacking 45 = .ok (.iconst (-1), 1) := by decide +kernel
theorem dX2_nearestLacking_46 : decode cX2_nearestLacking 46 = .ok (.if_icmp .eq 18, 3) := by decide +kernel
theorem dX2_nearestLacking_49 : decode cX2_nearestLacking 49 = .ok (.aload_n 0, 1) := by decide +kernel
theorem dX2_nearestLacking_50 : decode cX2_nearestLacking 50 = .ok (.getfield 21, 3) := by decide +kernel
theorem dX2_nearestLacking_53 : decode cX2_nearestLacking 53 = .ok (.iload_n 3, 1) := by decide +kernel
theorem dX2_nearestLacking_54 : decode cX2_nearestLacking 54 = .ok (.iaload, 1) := by decide +kernel
theorem dX2_nearestLacking_55 : decode cX2_nearestLacking 55 = .ok (.aload_n 0, 1) := by decide +kernel
theorem dX2_nearestLacking_56 : decode cX2_nearestLacking 56 = .ok (.getfield 21, 3) := by decide +kernel
theorem dX2_nearestLacking_59 : decode cX2_nearestLacking 59 = .ok (.iload_n 2, 1) := by decide +kernel
theorem dX2_nearestLacking_60 : decode cX2_nearestLacking 60 = .ok (.iaload, 1) := by decide +kernel
theorem dX2_nearestLacking_61 : decode cX2_nearestLacking 61 = .ok (.if_icmp .ge 5, 3) := by decide +kernel
theorem dX2_nearestLacking_64 : decode cX2_nearestLacking 64 = .ok (.iload_n 3, 1) := by decide +kernel
theorem dX2_nearestLacking_65 : decode cX2_nearestLacking 65 = .ok (.istore_n 2, 1) := by decide +kernel
theorem dX2_nearestLacking_66 : decode cX2_nearestLacking 66 = .ok (.iinc 3 1, 3) := by decide +kernel
theorem dX2_nearestLacking_69 : decode cX2_nearestLacking 69 = .ok (.goto (-65), 3) := by decide +kernel
theorem dX2_nearestLacking_72 : decode cX2_nearestLacking 72 = .ok (.iload_n 2, 1) := by decide +kernel
theorem dX2_nearestLacking_73 : decode cX2_nearestLacking 73 = .ok (.ireturn, 1) := by decide +kernel
theorem dX2_sendOne_0 : decode cX2_sendOne 0 = .ok (.iload_n 2, 1) := by decide +kernel
theorem dX2_sendOne_1 : decode cX2_sendOne 1 = .ok (.istore_n 3, 1) := by decide +kernel
theorem dX2_sendOne_2 : decode cX2_sendOne 2 = .ok (.iconst 0, 1) := by decide +kernel
theorem dX2_sendOne_3 : decode cX2_sendOne 3 = .ok (.istore 4, 2) := by decide +kernel
theorem dX2_sendOne_5 : decode cX2_sendOne 5 = .ok (.iload 4, 2) := by decide +kernel
theorem dX2_sendOne_7 : decode cX2_sendOne 7 = .ok (.bipush 8, 2) := by decide +kernel
theorem dX2_sendOne_9 : decode cX2_sendOne 9 = .ok (.if_icmp .ge 81, 3) := by decide +kernel
theorem dX2_sendOne_12 : decode cX2_sendOne 12 = .ok (.aload_n 0, 1) := by decide +kernel
theorem dX2_sendOne_13 : decode cX2_sendOne 13 = .ok (.getfield 24, 3) := by decide +kernel
theorem dX2_sendOne_16 : decode cX2_sendOne 16 = .ok (.iload_n 3, 1) := by decide +kernel
theorem dX2_sendOne_17 : decode cX2_sendOne 17 = .ok (.iaload, 1) := by decide +kernel
theorem dX2_sendOne_18 : decode cX2_sendOne 18 = .ok (.iconst (-1), 1) := by decide +kernel
theorem dX2_sendOne_19 : decode cX2_sendOne 19 = .ok (.if_icmp .eq 71, 3) := by decide +kernel
theorem dX2_sendOne_22 : decode cX2_sendOne 22 = .ok (.aload_n 0, 1) := by decide +kernel
theorem dX2_sendOne_23 : decode cX2_sendOne 23 = .ok (.getfield 24, 3) := by decide +kernel
theorem dX2_sendOne_26 : decode cX2_sendOne 26 = .ok (.iload_n 3, 1) := by decide +kernel
theorem dX2_sendOne_27 : decode cX2_sendOne 27 = .ok (.iaload, 1) := by decide +kernel
theorem dX2_sendOne_28 : decode cX2_sendOne 28 = .ok (.istore 5, 2) := by decide +kernel
theorem dX2_sendOne_30 : decode cX2_sendOne 30 = .ok (.iload 5, 2) := by decide +kernel
theorem dX2_sendOne_32 : decode cX2_sendOne 32 = .ok (.bipush 16, 2) := by decide +kernel
theorem dX2_sendOne_34 : decode cX2_sendOne 34 = .ok (.if_icmp .ge 25, 3) := by decide +kernel
theorem dX2_sendOne_37 : decode cX2_sendOne 37 = .ok (.aload_n 0, 1) := by decide +kernel
theorem dX2_sendOne_38 : decode cX2_sendOne 38 = .ok (.getfield 15, 3) := by decide +kernel
theorem dX2_sendOne_41 : decode cX2_sendOne 41 = .ok (.iload 5, 2) := by decide +kernel
theorem dX2_sendOne_43 : decode cX2_sendOne 43 = .ok (.dup2, 1) := by decide +kernel
theorem dX2_sendOne_44 : decode cX2_sendOne 44 = .ok (.iaload, 1) := by decide +kernel
theorem dX2_sendOne_45 : decode cX2_sendOne 45 = .ok (.iconst 1, 1) := by decide +kernel
theorem dX2_sendOne_46 : decode cX2_sendOne 46 = .ok (.iadd, 1) := by decide +kernel
theorem dX2_sendOne_47 : decode cX2_sendOne 47 = .ok (.iastore, 1) := by decide +kernel
theorem dX2_sendOne_48 : decode cX2_sendOne 48 = .ok (.aload_n 1, 1) := by decide +kernel
theorem dX2_sendOne_49 : decode cX2_sendOne 49 = .ok (.getfield 64, 3) := by decide +kernel
theorem dX2_sendOne_52 : decode cX2_sendOne 52 = .ok (.iload 5, 2) := by decide +kernel
theorem dX2_sendOne_54 : decode cX2_sendOne 54 = .ok (.iaload, 1) := by decide +kernel
theorem dX2_sendOne_55 : decode cX2_sendOne 55 = .ok (.istore_n 3, 1) := by decide +kernel
theorem dX2_sendOne_56 : decode cX2_sendOne 56 = .ok (.goto 28, 3) := by decide +kernel
theorem dX2_sendOne_59 : decode cX2_sendOne 59 = .ok (.aload_n 0, 1) := by decide +kernel
theorem dX2_sendOne_60 : decode cX2_sendOne 60 = .ok (.getfield 15, 3) := by decide +kernel
theorem dX2_sendOne_63 : decode cX2_sendOne 63 = .ok (.iload 5, 2) := by decide +kernel
theorem dX2_sendOne_65 : decode cX2_sendOne 65 = .ok (.bipush 16, 2) := by decide +kernel
theorem dX2_sendOne_67 : decode cX2_sendOne 67 = .ok (.isub, 1) := by decide +kernel
theorem dX2_sendOne_68 : decode cX2_sendOne 68 = .ok (.dup2, 1) := by decide +kernel
theorem dX2_sendOne_69 : decode cX2_sendOne 69 = .ok (.iaload, 1) := by decide +kernel
theorem dX2_sendOne_70 : decode cX2_sendOne 70 = .ok (.iconst 1, 1) := by decide +kernel
theorem dX2_sendOne_71 : decode cX2_sendOne 71 = .ok (.isub, 1) := by decide +kernel
theorem dX2_sendOne_72 : decode cX2_sendOne 72 = .ok (.iastore, 1) := by decide +kernel
theorem dX2_sendOne_73 : decode cX2_sendOne 73 = .ok (.aload_n 1, 1) := by decide +kernel
theorem dX2_sendOne_74 : decode cX2_sendOne 74 = .ok (.getfield 67, 3) := by decide +kernel
theorem dX2_sendOne_77 : decode cX2_sendOne 77 = .ok (.iload 5, 2) := by decide +kernel
theorem dX2_sendOne_79 : decode cX2_sendOne 79 = .ok (.bipush 16, 2) := by decide +kernel
theorem dX2_sendOne_81 : decode cX2_sendOne 81 = .ok (.isub, 1) := by decide +kernel
theorem dX2_sendOne_82 : decode cX2_sendOne 82 = .ok (.iaload, 1) := by decide +kernel
theorem dX2_sendOne_83 : decode cX2_sendOne 83 = .ok (.istore_n 3, 1) := by decide +kernel
theorem dX2_sendOne_84 : decode cX2_sendOne 84 = .ok (.iinc 4 1, 3) := by decide +kernel
theorem dX2_sendOne_87 : decode cX2_sendOne 87 = .ok (.goto (-82), 3) := by decide +kernel
theorem dX2_sendOne_90 : decode cX2_sendOne 90 = .ok (.aload_n 0, 1) := by decide +kernel
theorem dX2_sendOne_91 : decode cX2_sendOne 91 = .ok (.getfield 18, 3) := by decide +kernel
theorem dX2_sendOne_94 : decode cX2_sendOne 94 = .ok (.iload_n 3, 1) := by decide +kernel
theorem dX2_sendOne_95 : decode cX2_sendOne 95 = .ok (.dup2, 1) := by decide +kernel
theorem dX2_sendOne_96 : decode cX2_sendOne 96 = .ok (.iaload, 1) := by decide +kernel
theorem dX2_sendOne_97 : decode cX2_sendOne 97 = .ok (.iconst 1, 1) := by decide +kernel
theorem dX2_sendOne_98 : decode cX2_sendOne 98 = .ok (.isub, 1) := by decide +kernel
theorem dX2_sendOne_99 : decode cX2_sendOne 99 = .ok (.iastore, 1) := by decide +kernel
theorem dX2_sendOne_100 : decode cX2_sendOne 100 = .ok (.aload_n 0, 1) := by decide +kernel
theorem dX2_sendOne_101 : decode cX2_sendOne 101 = .ok (.getfield 18, 3) := by decide +kernel
theorem dX2_sendOne_104 : decode cX2_sendOne 104 = .ok (.iload_n 2, 1) := by decide +kernel
theorem dX2_sendOne_105 : decode cX2_sendOne 105 = .ok (.dup2, 1) := by decide +kernel
theorem dX2_sendOne_106 : decode cX2_sendOne 106 = .ok (.iaload, 1) := by decide +kernel
theorem dX2_sendOne_107 : decode cX2_sendOne 107 = .ok (.iconst 1, 1) := by decide +kernel
theorem dX2_sendOne_108 : decode cX2_sendOne 108 = .ok (.iadd, 1) := by decide +kernel
theorem dX2_sendOne_109 : decode cX2_sendOne 109 = .ok (.iastore, 1) := by decide +kernel
theorem dX2_sendOne_110 : decode cX2_sendOne 110 = .ok (.return_, 1) := by decide +kernel
theorem dX3_init_0 : decode cX3_init 0 = .ok (.aload_n 0, 1) := by decide +kernel
theorem dX3_init_1 : decode cX3_init 1 = .ok (.invokespecial 3, 3) := by decide +kernel
theorem dX3_init_4 : decode cX3_init 4 = .ok (.aload_n 0, 1) := by decide +kernel
theorem dX3_init_5 : decode cX3_init 5 = .ok (.bipush 9, 2) := by decide +kernel
theorem dX3_init_7 : decode cX3_init 7 = .ok (.anewarray 11, 3) := by decide +kernel
theorem dX3_init_10 : decode cX3_init 10 = .ok (.putfield 13, 3) := by decide +kernel
theorem dX3_init_13 : decode cX3_init 13 = .ok (.aload_n 0, 1) := by decide +kernel
theorem dX3_init_14 : decode cX3_init 14 = .ok (.iconst 0, 1) := by decide +kernel
theorem dX3_init_15 : decode cX3_init 15 = .ok (.putfield 17, 3) := by decide +kernel
theorem dX3_init_18 : decode cX3_init 18 = .ok (.aload_n 0, 1) := by decide +kernel
theorem dX3_init_19 : decode cX3_init 19 = .ok (.iconst 0, 1) := by decide +kernel
theorem dX3_init_20 : decode cX3_init 20 = .ok (.putfield 21, 3) := by decide +kernel
theorem dX3_init_23 : decode cX3_init 23 = .ok (.iconst 0, 1) := by decide +kernel
theorem dX3_init_24 : decode cX3_init 24 = .ok (.istore_n 1, 1) := by decide +kernel
theorem dX3_init_25 : decode cX3_init 25 = .ok (.iload_n 1, 1) := by decide +kernel
theorem dX3_init_26 : decode cX3_init 26 = .ok (.bipush 9, 2) := by decide +kernel
theorem dX3_init_28 : decode cX3_init 28 = .ok (.if_icmp .ge 22, 3) := by decide +kernel
theorem dX3_init_31 : decode cX3_init 31 = .ok (.aload_n 0, 1) := by decide +kernel
theorem dX3_init_32 : decode cX3_init 32 = .ok (.getfield 13, 3) := by decide +kernel
theorem dX3_init_35 : decode cX3_init 35 = .ok (.iload_n 1, 1) := by decide +kernel
theorem dX3_init_36 : decode cX3_init 36 = .ok (.new 11, 3) := by decide +kernel
theorem dX3_init_39 : decode cX3_init 39 = .ok (.dup, 1) := by decide +kernel
theorem dX3_init_40 : decode cX3_init 40 = .ok (.invokespecial 24, 3) := by decide +kernel
theorem dX3_init_43 : decode cX3_init 43 = .ok (.aastore, 1) := by decide +kernel
theorem dX3_init_44 : decode cX3_init 44 = .ok (.iinc 1 1, 3) := by decide +kernel
theorem dX3_init_47 : decode cX3_init 47 = .ok (.goto (-22), 3) := by decide +kernel
theorem dX3_init_50 : decode cX3_init 50 = .ok (.return_, 1) := by decide +kernel
theorem dX3_mark_0 : decode cX3_mark 0 = .ok (.aload_n 0, 1) := by decide +kernel
theorem dX3_mark_1 : decode cX3_mark 1 = .ok (.getfield 13, 3) := by decide +kernel
theorem dX3_mark_4 : decode cX3_mark 4 = .ok (.aload_n 0, 1) := by decide +kernel
theorem dX3_mark_5 : decode cX3_mark 5 = .ok (.getfield 17, 3) := by decide +kernel
theorem dX3_mark_8 : decode cX3_mark 8 = .ok (.aaload, 1) := by decide +kernel
theorem dX3_mark_9 : decode cX3_mark 9 = .ok (.aload_n 1, 1) := by decide +kernel
theorem dX3_mark_10 : decode cX3_mark 10 = .ok (.invokevirtual 25, 3) := by decide +kernel
theorem dX3_mark_13 : decode cX3_mark 13 = .ok (.return_, 1) := by decide +kernel
theorem dX3_keep_0 : decode cX3_keep 0 = .ok (.aload_n 0, 1) := by decide +kernel
theorem dX3_keep_1 : decode cX3_keep 1 = .ok (.aload_n 0, 1) := by decide +kernel
theorem dX3_keep_2 : decode cX3_keep 2 = .ok (.getfield 17, 3) := by decide +kernel
theorem dX3_keep_5 : decode cX3_keep 5 = .ok (.iconst 1, 1) := by decide +kernel
theorem dX3_keep_6 : decode cX3_keep 6 = .ok (.iadd, 1) := by decide +kernel
theorem dX3_keep_7 : decode cX3_keep 7 = .ok (.bipush 9, 2) := by decide +kernel
theorem dX3_keep_9 : decode cX3_keep 9 = .ok (.irem, 1) := by decide +kernel
theorem dX3_keep_10 : decode cX3_keep 10 = .ok (.putfield 17, 3) := by decide +kernel
theorem dX3_keep_13 : decode cX3_keep 13 = .ok (.aload_n 0, 1) := by decide +kernel
theorem dX3_keep_14 : decode cX3_keep 14 = .ok (.aload_n 0, 1) := by decide +kernel
theorem dX3_keep_15 : decode cX3_keep 15 = .ok (.getfield 21, 3) := by decide +kernel
theorem dX3_keep_18 : decode cX3_keep 18 = .ok (.iconst 1, 1) := by decide +kernel
theorem dX3_keep_19 : decode cX3_keep 19 = .ok (.iadd, 1) := by decide +kernel
theorem dX3_keep_20 : decode cX3_keep 20 = .ok (.bipush 8, 2) := by decide +kernel
theorem dX3_keep_22 : decode cX3_keep 22 = .ok (.invokestatic 29, 3) := by decide +kernel
theorem dX3_keep_25 : decode cX3_keep 25 = .ok (.putfield 21, 3) := by decide +kernel
theorem dX3_keep_28 : decode cX3_keep 28 = .ok (.return_, 1) := by decide +kernel
theorem dX3_stepBack_0 : decode cX3_stepBack 0 = .ok (.aload_n 0, 1) := by decide +kernel
theorem dX3_stepBack_1 : decode cX3_stepBack 1 = .ok (.getfield 21, 3) := by decide +kernel
theorem dX3_stepBack_4 : decode cX3_stepBack 4 = .ok (.ifCond .ne 5, 3) := by decide +kernel
theorem dX3_stepBack_7 : decode cX3_stepBack 7 = .ok (.iconst (-1), 1) := by decide +kernel
theorem dX3_stepBack_8 : decode cX3_stepBack 8 = .ok (.ireturn, 1) := by decide +kernel
theorem dX3_stepBack_9 : decode cX3_stepBack 9 = .ok (.aload_n 0, 1) := by decide +kernel
theorem dX3_stepBack_10 : decode cX3_stepBack 10 = .ok (.aload_n 0, 1) := by decide +kernel
theorem dX3_stepBack_11 : decode cX3_stepBack 11 = .ok (.getfield 17, 3) := by decide +kernel
theorem dX3_stepBack_14 : decode cX3_stepBack 14 = .ok (.bipush 9, 2) := by decide +kernel
theorem dX3_stepBack_16 : decode cX3_stepBack 16 = .ok (.iadd, 1) := by decide +kernel
theorem dX3_stepBack_17 : decode cX3_stepBack 17 = .ok (.iconst 1, 1) := by decide +kernel
theorem dX3_stepBack_18 : decode cX3_stepBack 18 = .ok (.isub, 1) := by decide +kernel
theorem dX3_stepBack_19 : decode cX3_stepBack 19 = .ok (.bipush 9, 2) := by decide +kernel
theorem dX3_stepBack_21 : decode cX3_stepBack 21 = .ok (.irem, 1) := by decide +kernel
theorem dX3_stepBack_22 : decode cX3_stepBack 22 = .ok (.putfield 17, 3) := by decide +kernel
theorem dX3_stepBack_25 : decode cX3_stepBack 25 = .ok (.aload_n 0, 1) := by decide +kernel
theorem dX3_stepBack_26 : decode cX3_stepBack 26 = .ok (.dup, 1) := by decide +kernel
theorem dX3_stepBack_27 : decode cX3_stepBack 27 = .ok (.getfield 21, 3) := by decide +kernel
theorem dX3_stepBack_30 : decode cX3_stepBack 30 = .ok (.iconst 1, 1) := by decide +kernel
theorem dX3_stepBack_31 : decode cX3_stepBack 31 = .ok (.isub, 1) := by decide +kernel
theorem dX3_stepBack_32 : decode cX3_stepBack 32 = .ok (.putfield 21, 3) := by decide +kernel
theorem dX3_stepBack_35 : decode cX3_stepBack 35 = .ok (.aload_n 1, 1) := by decide +kernel
theorem dX3_stepBack_36 : decode cX3_stepBack 36 = .ok (.aload_n 0, 1) := by decide +kernel
theorem dX3_stepBack_37 : decode cX3_stepBack 37 = .ok (.getfield 13, 3) := by decide +kernel
theorem dX3_stepBack_40 : decode cX3_stepBack 40 = .ok (.aload_n 0, 1) := by decide +kernel
theorem dX3_stepBack_41 : decode cX3_stepBack 41 = .ok (.getfield 17, 3) := by decide +kernel
theorem dX3_stepBack_44 : decode cX3_stepBack 44 = .ok (.aaload, 1) := by decide +kernel
theorem dX3_stepBack_45 : decode cX3_stepBack 45 = .ok (.invokevirtual 25, 3) := by decide +kernel
theorem dX3_stepBack_48 : decode cX3_stepBack 48 = .ok (.aload_n 0, 1) := by decide +kernel
theorem dX3_stepBack_49 : decode cX3_stepBack 49 = .ok (.getfield 21, 3) := by decide +kernel
theorem dX3_stepBack_52 : decode cX3_stepBack 52 = .ok (.ireturn, 1) := by decide +kernel
theorem dX3_forget_0 : decode cX3_forget 0 = .ok (.aload_n 0, 1) := by decide +kernel
theorem dX3_forget_1 : decode cX3_forget 1 = .ok (.iconst 0, 1) := by decide +kernel
theorem dX3_forget_2 : decode cX3_forget 2 = .ok (.putfield 21, 3) := by decide +kernel
theorem dX3_forget_5 : decode cX3_forget 5 = .ok (.return_, 1) := by decide +kernel
