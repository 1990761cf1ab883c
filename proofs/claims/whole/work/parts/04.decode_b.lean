theorem dX4_init_0 : decode cX4_init 0 = .ok (.aload_n 0, 1) := by decide +kernel
theorem dX4_init_1 : decode cX4_init 1 = .ok (.invokespecial 3, 3) := by decide +kernel
theorem dX4_init_4 : decode cX4_init 4 = .ok (.aload_n 0, 1) := by decide +kernel
theorem dX4_init_5 : decode cX4_init 5 = .ok (.bipush 16, 2) := by decide +kernel
theorem dX4_init_7 : decode cX4_init 7 = .ok (.newarray .int, 2) := by decide +kernel
theorem dX4_init_9 : decode cX4_init 9 = .ok (.putfield 9, 3) := by decide +kernel
theorem dX4_init_12 : decode cX4_init 12 = .ok (.aload_n 0, 1) := by decide +kernel
theorem dX4_init_13 : decode cX4_init 13 = .ok (.bipush 16, 2) := by decide +kernel
theorem dX4_init_15 : decode cX4_init 15 = .ok (.newarray .int, 2) := by decide +kernel
theorem dX4_init_17 : decode cX4_init 17 = .ok (.putfield 15, 3) := by decide +kernel
theorem dX4_init_20 : decode cX4_init 20 = .ok (.aload_n 0, 1) := by decide +kernel
theorem dX4_init_21 : decode cX4_init 21 = .ok (.iconst 0, 1) := by decide +kernel
theorem dX4_init_22 : decode cX4_init 22 = .ok (.putfield 18, 3) := by decide +kernel
theorem dX4_init_25 : decode cX4_init 25 = .ok (.aload_n 0, 1) := by decide +kernel
theorem dX4_init_26 : decode cX4_init 26 = .ok (.iconst 0, 1) := by decide +kernel
theorem dX4_init_27 : decode cX4_init 27 = .ok (.putfield 22, 3) := by decide +kernel
theorem dX4_init_30 : decode cX4_init 30 = .ok (.return_, 1) := by decide +kernel
theorem dX4_copyFrom_0 : decode cX4_copyFrom 0 = .ok (.aload_n 0, 1) := by decide +kernel
theorem dX4_copyFrom_1 : decode cX4_copyFrom 1 = .ok (.aload_n 1, 1) := by decide +kernel
theorem dX4_copyFrom_2 : decode cX4_copyFrom 2 = .ok (.getfield 18, 3) := by decide +kernel
theorem dX4_copyFrom_5 : decode cX4_copyFrom 5 = .ok (.putfield 18, 3) := by decide +kernel
theorem dX4_copyFrom_8 : decode cX4_copyFrom 8 = .ok (.aload_n 0, 1) := by decide +kernel
theorem dX4_copyFrom_9 : decode cX4_copyFrom 9 = .ok (.aload_n 1, 1) := by decide +kernel
theorem dX4_copyFrom_10 : decode cX4_copyFrom 10 = .ok (.getfield 22, 3) := by decide +kernel
theorem dX4_copyFrom_13 : decode cX4_copyFrom 13 = .ok (.putfield 22, 3) := by decide +kernel
theorem dX4_copyFrom_16 : decode cX4_copyFrom 16 = .ok (.aload_n 1, 1) := by decide +kernel
theorem dX4_copyFrom_17 : decode cX4_copyFrom 17 = .ok (.getfield 9, 3) := by decide +kernel
theorem dX4_copyFrom_20 : decode cX4_copyFrom 20 = .ok (.iconst 0, 1) := by decide +kernel
theorem dX4_copyFrom_21 : decode cX4_copyFrom 21 = .ok (.aload_n 0, 1) := by decide +kernel
theorem dX4_copyFrom_22 : decode cX4_copyFrom 22 = .ok (.getfield 9, 3) := by decide +kernel
theorem dX4_copyFrom_25 : decode cX4_copyFrom 25 = .ok (.iconst 0, 1) := by decide +kernel
theorem dX4_copyFrom_26 : decode cX4_copyFrom 26 = .ok (.bipush 16, 2) := by decide +kernel
theorem dX4_copyFrom_28 : decode cX4_copyFrom 28 = .ok (.invokestatic 25, 3) := by decide +kernel
theorem dX4_copyFrom_31 : decode cX4_copyFrom 31 = .ok (.aload_n 1, 1) := by decide +kernel
theorem dX4_copyFrom_32 : decode cX4_copyFrom 32 = .ok (.getfield 15, 3) := by decide +kernel
theorem dX4_copyFrom_35 : decode cX4_copyFrom 35 = .ok (.iconst 0, 1) := by decide +kernel
theorem dX4_copyFrom_36 : decode cX4_copyFrom 36 = .ok (.aload_n 0, 1) := by decide +kernel
theorem dX4_copyFrom_37 : decode cX4_copyFrom 37 = .ok (.getfield 15, 3) := by decide +kernel
theorem dX4_copyFrom_40 : decode cX4_copyFrom 40 = .ok (.iconst 0, 1) := by decide +kernel
theorem dX4_copyFrom_41 : decode cX4_copyFrom 41 = .ok (.bipush 16, 2) := by decide +kernel
theorem dX4_copyFrom_43 : decode cX4_copyFrom 43 = .ok (.invokestatic 25, 3) := by decide +kernel
theorem dX4_copyFrom_46 : decode cX4_copyFrom 46 = .ok (.return_, 1) := by decide +kernel
theorem dX4_append_0 : decode cX4_append 0 = .ok (.aload_n 0, 1) := by decide +kernel
theorem dX4_append_1 : decode cX4_append 1 = .ok (.getfield 22, 3) := by decide +kernel
theorem dX4_append_4 : decode cX4_append 4 = .ok (.bipush 16, 2) := by decide +kernel
theorem dX4_append_6 : decode cX4_append 6 = .ok (.if_icmp .ge 49, 3) := by decide +kernel
theorem dX4_append_9 : decode cX4_append 9 = .ok (.aload_n 0, 1) := by decide +kernel
theorem dX4_append_10 : decode cX4_append 10 = .ok (.iload_n 1, 1) := by decide +kernel
theorem dX4_append_11 : decode cX4_append 11 = .ok (.invokevirtual 31, 3) := by decide +kernel
theorem dX4_append_14 : decode cX4_append 14 = .ok (.ifCond .eq 41, 3) := by decide +kernel
theorem dX4_append_17 : decode cX4_append 17 = .ok (.aload_n 0, 1) := by decide +kernel
theorem dX4_append_18 : decode cX4_append 18 = .ok (.iload_n 2, 1) := by decide +kernel
theorem dX4_append_19 : decode cX4_append 19 = .ok (.invokevirtual 31, 3) := by decide +kernel
theorem dX4_append_22 : decode cX4_append 22 = .ok (.ifCond .eq 33, 3) := by decide +kernel
theorem dX4_append_25 : decode cX4_append 25 = .ok (.aload_n 0, 1) := by decide +kernel
theorem dX4_append_26 : decode cX4_append 26 = .ok (.getfield 9, 3) := by decide +kernel
theorem dX4_append_29 : decode cX4_append 29 = .ok (.aload_n 0, 1) := by decide +kernel
theorem dX4_append_30 : decode cX4_append 30 = .ok (.getfield 22, 3) := by decide +kernel
theorem dX4_append_33 : decode cX4_append 33 = .ok (.iload_n 1, 1) := by decide +kernel
theorem dX4_append_34 : decode cX4_append 34 = .ok (.iastore, 1) := by decide +kernel
theorem dX4_append_35 : decode cX4_append 35 = .ok (.aload_n 0, 1) := by decide +kernel
theorem dX4_append_36 : decode cX4_append 36 = .ok (.getfield 15, 3) := by decide +kernel
theorem dX4_append_39 : decode cX4_append 39 = .ok (.aload_n 0, 1) := by decide +kernel
theorem dX4_append_40 : decode cX4_append 40 = .ok (.getfield 22, 3) := by decide +kernel
theorem dX4_append_43 : decode cX4_append 43 = .ok (.iload_n 2, 1) := by decide +kernel
theorem dX4_append_44 : decode cX4_append 44 = .ok (.iastore, 1) := by decide +kernel
theorem dX4_append_45 : decode cX4_append 45 = .ok (.aload_n 0, 1) := by decide +kernel
theorem dX4_append_46 : decode cX4_append 46 = .ok (.dup, 1) := by decide +kernel
theorem dX4_append_47 : decode cX4_append 47 = .ok (.getfield 22, 3) := by decide +kernel
theorem dX4_append_50 : decode cX4_append 50 = .ok (.iconst 1, 1) := by decide +kernel
theorem dX4_append_51 : decode cX4_append 51 = .ok (.iadd, 1) := by decide +kernel
theorem dX4_append_52 : decode cX4_append 52 = .ok (.putfield 22, 3) := by decide +kernel
theorem dX4_append_55 : decode cX4_append 55 = .ok (.return_, 1) := by decide +kernel
theorem dX4_remove_0 : decode cX4_remove 0 = .ok (.aload_n 0, 1) := by decide +kernel
theorem dX4_remove_1 : decode cX4_remove 1 = .ok (.iload_n 1, 1) := by decide +kernel
theorem dX4_remove_2 : decode cX4_remove 2 = .ok (.invokevirtual 35, 3) := by decide +kernel
theorem dX4_remove_5 : decode cX4_remove 5 = .ok (.ifCond .ne 4, 3) := by decide +kernel
theorem dX4_remove_8 : decode cX4_remove 8 = .ok (.return_, 1) := by decide +kernel
theorem dX4_remove_9 : decode cX4_remove 9 = .ok (.iload_n 1, 1) := by decide +kernel
theorem dX4_remove_10 : decode cX4_remove 10 = .ok (.istore_n 2, 1) := by decide +kernel
theorem dX4_remove_11 : decode cX4_remove 11 = .ok (.iload_n 2, 1) := by decide +kernel
theorem dX4_remove_12 : decode cX4_remove 12 = .ok (.iconst 1, 1) := by decide +kernel
theorem dX4_remove_13 : decode cX4_remove 13 = .ok (.iadd, 1) := by decide +kernel
theorem dX4_remove_14 : decode cX4_remove 14 = .ok (.aload_n 0, 1) := by decide +kernel
theorem dX4_remove_15 : decode cX4_remove 15 = .ok (.getfield 22, 3) := by decide +kernel
theorem dX4_remove_18 : decode cX4_remove 18 = .ok (.if_icmp .ge 37, 3) := by decide +kernel
theorem dX4_remove_21 : decode cX4_remove 21 = .ok (.aload_n 0, 1) := by decide +kernel
theorem dX4_remove_22 : decode cX4_remove 22 = .ok (.getfield 9, 3) := by decide +kernel
theorem dX4_remove_25 : decode cX4_remove 25 = .ok (.iload_n 2, 1) := by decide +kernel
theorem dX4_remove_26 : decode cX4_remove 26 = .ok (.aload_n 0, 1) := by decide +kernel
theorem dX4_remove_27 : decode cX4_remove 27 = .ok (.getfield 9, 3) := by decide +kernel
theorem dX4_remove_30 : decode cX4_remove 30 = .ok (.iload_n 2, 1) := by decide +kernel
theorem dX4_remove_31 : decode cX4_remove 31 = .ok (.iconst 1, 1) := by decide +kernel
theorem dX4_remove_32 : decode cX4_remove 32 = .ok (.iadd, 1) := by decide +kernel
theorem dX4_remove_33 : decode cX4_remove 33 = .ok (.iaload, 1) := by decide +kernel
theorem dX4_remove_34 : decode cX4_remove 34 = .ok (.iastore, 1) := by decide +kernel
theorem dX4_remove_35 : decode cX4_remove 35 = .ok (.aload_n 0, 1) := by decide +kernel
theorem dX4_remove_36 : decode cX4_remove 36 = .ok (.getfield 15, 3) := by decide +kernel
theorem dX4_remove_39 : decode cX4_remove 39 = .ok (.iload_n 2, 1) := by decide +kernel
theorem dX4_remove_40 : decode cX4_remove 40 = .ok (.aload_n 0, 1) := by decide +kernel
theorem dX4_remove_41 : decode cX4_remove 41 = .ok (.getfield 15, 3) := by decide +kernel
theorem dX4_remove_44 : decode cX4_remove 44 = .ok (.iload_n 2, 1) := by decide +kernel
theorem dX4_remove_45 : decode cX4_remove 45 = .ok (.iconst 1, 1) := by decide +kernel
theorem dX4_remove_46 : decode cX4_remove 46 = .ok (.iadd, 1) := by decide +kernel
theorem dX4_remove_47 : decode cX4_remove 47 = .ok (.iaload, 1) := by decide +kernel
theorem dX4_remove_48 : decode cX4_remove 48 = .ok (.iastore, 1) := by decide +kernel
theorem dX4_remove_49 : decode cX4_remove 49 = .ok (.iinc 2 1, 3) := by decide +kernel
theorem dX4_remove_52 : decode cX4_remove 52 = .ok (.goto (-41), 3) := by decide +kernel
theorem dX4_remove_55 : decode cX4_remove 55 = .ok (.aload_n 0, 1) := by decide +kernel
theorem dX4_remove_56 : decode cX4_remove 56 = .ok (.dup, 1) := by decide +kernel
theorem dX4_remove_57 : decode cX4_remove 57 = .ok (.getfield 22, 3) := by decide +kernel
theorem dX4_remove_60 : decode cX4_remove 60 = .ok (.iconst 1, 1) := by decide +kernel
theorem dX4_remove_61 : decode cX4_remove 61 = .ok (.isub, 1) := by decide +kernel
theorem dX4_remove_62 : decode cX4_remove 62 = .ok (.putfield 22, 3) := by decide +kernel
theorem dX4_remove_65 : decode cX4_remove 65 = .ok (.return_, 1) := by decide +kernel
theorem dX4_flip_0 : decode cX4_flip 0 = .ok (.aload_n 0, 1) := by decide +kernel
theorem dX4_flip_1 : decode cX4_flip 1 = .ok (.iload_n 1, 1) := by decide +kernel
theorem dX4_flip_2 : decode cX4_flip 2 = .ok (.invokevirtual 35, 3) := by decide +kernel
theorem dX4_flip_5 : decode cX4_flip 5 = .ok (.ifCond .ne 4, 3) := by decide +kernel
theorem dX4_flip_8 : decode cX4_flip 8 = .ok (.return_, 1) := by decide +kernel
theorem dX4_flip_9 : decode cX4_flip 9 = .ok (.aload_n 0, 1) := by decide +kernel
theorem dX4_flip_10 : decode cX4_flip 10 = .ok (.getfield 9, 3) := by decide +kernel
theorem dX4_flip_13 : decode cX4_flip 13 = .ok (.iload_n 1, 1) := by decide +kernel
theorem dX4_flip_14 : decode cX4_flip 14 = .ok (.iaload, 1) := by decide +kernel
theorem dX4_flip_15 : decode cX4_flip 15 = .ok (.istore_n 2, 1) := by decide +kernel
theorem dX4_flip_16 : decode cX4_flip 16 = .ok (.aload_n 0, 1) := by decide +kernel
theorem dX4_flip_17 : decode cX4_flip 17 = .ok (.getfield 9, 3) := by decide +kernel
theorem dX4_flip_20 : decode cX4_flip 20 = .ok (.iload_n 1, 1) := by decide +kernel
theorem dX4_flip_21 : decode cX4_flip 21 = .ok (.aload_n 0, 1) := by decide +kernel
theorem dX4_flip_22 : decode cX4_flip 22 = .ok (.getfield 15, 3) := by decide +kernel
theorem dX4_flip_25 : decode cX4_flip 25 = .ok (.iload_n 1, 1) := by decide +kernel
theorem dX4_flip_26 : decode cX4_flip 26 = .ok (.iaload, 1) := by decide +kernel
theorem dX4_flip_27 : decode cX4_flip 27 = .ok (.iastore, 1) := by decide +kernel
theorem dX4_flip_28 : decode cX4_flip 28 = .ok (.aload_n 0, 1) := by decide +kernel
theorem dX4_flip_29 : decode cX4_flip 29 = .ok (.getfield 15, 3) := by decide +kernel
theorem dX4_flip_32 : decode cX4_flip 32 = .ok (.iload_n 1, 1) := by decide +kernel
theorem dX4_flip_33 : decode cX4_flip 33 = .ok (.iload_n 2, 1) := by decide +kernel
theorem dX4_flip_34 : decode cX4_flip 34 = .ok (.iastore, 1) := by decide +kernel
theorem dX4_flip_35 : decode cX4_flip 35 = .ok (.return_, 1) := by decide +kernel
theorem dX4_weave_0 : decode cX4_weave 0 = .ok (.iload_n 1, 1) := by decide +kernel
theorem dX4_weave_1 : decode cX4_weave 1 = .ok (.iconst 1, 1) := by decide +kernel
theorem dX4_weave_2 : decode cX4_weave 2 = .ok (.if_icmp .lt 14, 3) := by decide +kernel
theorem dX4_weave_5 : decode cX4_weave 5 = .ok (.iload_n 2, 1) := by decide +kernel
theorem dX4_weave_6 : decode cX4_weave 6 = .ok (.iconst 1, 1) := by decide +kernel
theorem dX4_weave_7 : decode cX4_weave 7 = .ok (.if_icmp .lt 9, 3) := by decide +kernel
theorem dX4_weave_10 : decode cX4_weave 10 = .ok (.iload_n 2, 1) := by decide +kernel
theorem dX4_weave_11 : decode cX4_weave 11 = .ok (.bipush 8, 2) := by decide +kernel
theorem dX4_weave_13 : decode cX4_weave 13 = .ok (.if_icmp .le 4, 3) := by decide +kernel
theorem dX4_weave_16 : decode cX4_weave 16 = .ok (.return_, 1) := by decide +kernel
theorem dX4_weave_17 : decode cX4_weave 17 = .ok (.aload_n 0, 1) := by decide +kernel
theorem dX4_weave_18 : decode cX4_weave 18 = .ok (.iload_n 2, 1) := by decide +kernel
theorem dX4_weave_19 : decode cX4_weave 19 = .ok (.putfield 18, 3) := by decide +kernel
theorem dX4_weave_22 : decode cX4_weave 22 = .ok (.aload_n 0, 1) := by decide +kernel
theorem dX4_weave_23 : decode cX4_weave 23 = .ok (.iconst 0, 1) := by decide +kernel
theorem dX4_weave_24 : decode cX4_weave 24 = .ok (.putfield 22, 3) := by decide +kernel
theorem dX4_weave_27 : decode cX4_weave 27 = .ok (.iconst 0, 1) := by decide +kernel
theorem dX4_weave_28 : decode cX4_weave 28 = .ok (.istore_n 3, 1) := by decide +kernel
theorem dX4_weave_29 : decode cX4_weave 29 = .ok (.iload_n 3, 1) := by decide +kernel
theorem dX4_weave_30 : decode cX4_weave 30 = .ok (.iload_n 2, 1) := by decide +kernel
theorem dX4_weave_31 : decode cX4_weave 31 = .ok (.iload_n 1, 1) := by decide +kernel
theorem dX4_weave_32 : decode cX4_weave 32 = .ok (.imul, 1) := by decide +kernel
theorem dX4_weave_33 : decode cX4_weave 33 = .ok (.if_icmp .ge 19, 3) := by decide +kernel
theorem dX4_weave_36 : decode cX4_weave 36 = .ok (.aload_n 0, 1) := by decide +kernel
theorem dX4_weave_37 : decode cX4_weave 37 = .ok (.iload_n 3, 1) := by decide +kernel
theorem dX4_weave_38 : decode cX4_weave 38 = .ok (.iload_n 1, 1) := by decide +kernel
theorem dX4_weave_39 : decode cX4_weave 39 = .ok (.idiv, 1) := by decide +kernel
theorem dX4_weave_40 : decode cX4_weave 40 = .ok (.iload_n 3, 1) := by decide +kernel
theorem dX4_weave_41 : decode cX4_weave 41 = .ok (.iload_n 2, 1) := by decide +kernel
theorem dX4_weave_42 : decode cX4_weave 42 = .ok (.irem, 1) := by decide +kernel
theorem dX4_weave_43 : decode cX4_weave 43 = .ok (.invokevirtual 38, 3) := by decide +kernel
theorem dX4_weave_46 : decode cX4_weave 46 = .ok (.iinc 3 1, 3) := by decide +kernel
theorem dX4_weave_49 : decode cX4_weave 49 = .ok (.goto (-20), 3) := by decide +kernel
theorem dX4_weave_52 : decode cX4_weave 52 = .ok (.return_, 1) := by decide +kernel
theorem dX4_hasPoint_0 : decode cX4_hasPoint 0 = .ok (.iload_n 1, 1) := by decide +kernel
theorem dX4_hasPoint_1 : decode cX4_hasPoint 1 = .ok (.ifCond .lt 15, 3) := by decide +kernel
theorem dX4_hasPoint_4 : decode cX4_hasPoint 4 = .ok (.iload_n 1, 1) := by decide +kernel
theorem dX4_hasPoint_5 : decode cX4_hasPoint 5 = .ok (.aload_n 0, 1) := by decide +kernel
theorem dX4_hasPoint_6 : decode cX4_hasPoint 6 = .ok (.getfield 18, 3) := by decide +kernel
theorem dX4_hasPoint_9 : decode cX4_hasPoint 9 = .ok (.if_icmp .ge 7, 3) := by decide +kernel
theorem dX4_hasPoint_12 : decode cX4_hasPoint 12 = .ok (.iconst 1, 1) := by decide +kernel
theorem dX4_hasPoint_13 : decode cX4_hasPoint 13 = .ok (.goto 4, 3) := by decide +kernel
theorem dX4_hasPoint_16 : decode cX4_hasPoint 16 = .ok (.iconst 0, 1) := by decide +kernel
theorem dX4_hasPoint_17 : decode cX4_hasPoint 17 = .ok (.ireturn, 1) := by decide +kernel
theorem dX4_hasArc_0 : decode cX4_hasArc 0 = .ok (.iload_n 1, 1) := by decide +kernel
theorem dX4_hasArc_1 : decode cX4_hasArc 1 = .ok (.ifCond .lt 15, 3) := by decide +kernel
theorem dX4_hasArc_4 : decode cX4_hasArc 4 = .ok (.iload_n 1, 1) := by decide +kernel
theorem dX4_hasArc_5 : decode cX4_hasArc 5 = .ok (.aload_n 0, 1) := by decide +kernel
theorem dX4_hasArc_6 : decode cX4_hasArc 6 = .ok (.getfield 22, 3) := by decide +kernel
theorem dX4_hasArc_9 : decode cX4_hasArc 9 = .ok (.if_icmp .ge 7, 3) := by decide +kernel
theorem dX4_hasArc_12 : decode cX4_hasArc 12 = .ok (.iconst 1, 1) := by decide +kernel
theorem dX4_hasArc_13 : decode cX4_hasArc 13 = .ok (.goto 4, 3) := by decide +kernel
theorem dX4_hasArc_16 : decode cX4_hasArc 16 = .ok (.iconst 0, 1) := by decide +kernel
theorem dX4_hasArc_17 : decode cX4_hasArc 17 = .ok (.ireturn, 1) := by decide +kernel
theorem dX4_outOf_0 : decode cX4_outOf 0 = .ok (.iconst 0, 1) := by decide +kernel
theorem dX4_outOf_1 : decode cX4_outOf 1 = .ok (.istore_n 2, 1) := by decide +kernel
theorem dX4_outOf_2 : decode cX4_outOf 2 = .ok (.iconst 0, 1) := by decide +kernel
theorem dX4_outOf_3 : decode cX4_outOf 3 = .ok (.istore_n 3, 1) := by decide +kernel
theorem dX4_outOf_4 : decode cX4_outOf 4 = .ok (.iload_n 3, 1) := by decide +kernel
theorem dX4_outOf_5 : decode cX4_outOf 5 = .ok (.aload_n 0, 1) := by decide +kernel
theorem dX4_outOf_6 : decode cX4_outOf 6 = .ok (.getfield 22, 3) := by decide +kernel
theorem dX4_outOf_9 : decode cX4_outOf 9 = .ok (.if_icmp .ge 22, 3) := by decide +kernel
theorem dX4_outOf_12 : decode cX4_outOf 12 = .ok (.aload_n 0, 1) := by decide +kernel
theorem dX4_outOf_13 : decode cX4_outOf 13 = .ok (.getfield 9, 3) := by decide +kernel
theorem dX4_outOf_16 : decode cX4_outOf 16 = .ok (.iload_n 3, 1) := by decide +kernel
theorem dX4_outOf_17 : decode cX4_outOf 17 = .ok (.iaload, 1) := by decide +kernel
theorem dX4_outOf_18 : decode cX4_outOf 18 = .ok (.iload_n 1, 1) := by decide +kernel
theorem dX4_outOf_19 : decode cX4_outOf 19 = .ok (.if_icmp .ne 6, 3) := by decide +kernel
theorem dX4_outOf_22 : decode cX4_outOf 22 = .ok (.iinc 2 1, 3) := by decide +kernel
theorem dX4_outOf_25 : decode cX4_outOf 25 = .ok (.iinc 3 1, 3) := by decide +kernel
theorem dX4_outOf_28 : decode cX4_outOf 28 = .ok (.goto (-24), 3) := by decide +kernel
theorem dX4_outOf_31 : decode cX4_outOf 31 = .ok (.iload_n 2, 1) := by decide +kernel
theorem dX4_outOf_32 : decode cX4_outOf 32 = .ok (.ireturn, 1) := by decide +kernel
theorem dX4_into_0 : decode cX4_into 0 = .ok (.iconst 0, 1) := by decide +kernel
theorem dX4_into_1 : decode cX4_into 1 = .ok (.istore_n 2, 1) := by decide +kernel
theorem dX4_into_2 : decode cX4_into 2 = .ok (.iconst 0, 1) := by decide +kernel
theorem dX4_into_3 : decode cX4_into 3 = .ok (.istore_n 3, 1) := by decide +kernel
theorem dX4_into_4 : decode cX4_into 4 = .ok (.iload_n 3, 1) := by decide +kernel
theorem dX4_into_5 : decode cX4_into 5 = .ok (.aload_n 0, 1) := by decide +kernel
theorem dX4_into_6 : decode cX4_into 6 = .ok (.getfield 22, 3) := by decide +kernel
theorem dX4_into_9 : decode cX4_into 9 = .ok (.if_icmp .ge 22, 3) := by decide +kernel
theorem dX4_into_12 : decode cX4_into 12 = .ok (.aload_n 0, 1) := by decide +kernel
theorem dX4_into_13 : decode cX4_into 13 = .ok (.getfield 15, 3) := by decide +kernel
theorem dX4_into_16 : decode cX4_into 16 = .ok (.iload_n 3, 1) := by decide +kernel
theorem dX4_into_17 : decode cX4_into 17 = .ok (.iaload, 1) := by decide +kernel
theorem dX4_into_18 : decode cX4_into 18 = .ok (.iload_n 1, 1) := by decide +kernel
theorem dX4_into_19 : decode cX4_into 19 = .ok (.if_icmp .ne 6, 3) := by decide +kernel
theorem dX4_into_22 : decode cX4_into 22 = .ok (.iinc 2 1, 3) := by decide +kernel
theorem dX4_into_25 : decode cX4_into 25 = .ok (.iinc 3 1, 3) := by decide +kernel
theorem dX4_into_28 : decode cX4_into 28 = .ok (.goto (-24), 3) := by decide +kernel
theorem dX4_into_31 : decode cX4_into 31 = .ok (.iload_n 2, 1) := by decide +kernel
theorem dX4_into_32 : decode cX4_into 32 = .ok (.ireturn, 1) := by decide +kernel
theorem dX4_excess_0 : decode cX4_excess 0 = .ok (.aload_n 0, 1) := by decide +kernel
theorem dX4_excess_1 : decode cX4_excess 1 = .ok (.iload_n 1, 1) := by decide +kernel
theorem dX4_excess_2 : decode cX4_excess 2 = .ok (.invokevirtual 42, 3) := by decide +kernel
theorem dX4_excess_5 : decode cX4_excess 5 = .ok (.aload_n 0, 1) := by decide +kernel
theorem dX4_excess_6 : decode cX4_excess 6 = .ok (.iload_n 1, 1) := by decide +kernel
theorem dX4_excess_7 : decode cX4_excess 7 = .ok (.invokevirtual 46, 3) := by decide +kernel
theorem dX4_excess_10 : decode cX4_excess 10 = .ok (.isub, 1) := by decide +kernel
theorem dX4_excess_11 : decode cX4_excess 11 = .ok (.ireturn, 1) := by decide +kernel
theorem dX4_usedPoints_0 : decode cX4_usedPoints 0 = .ok (.iconst 0, 1) := by decide +kernel
theorem dX4_usedPoints_1 : decode cX4_usedPoints 1 = .ok (.istore_n 1, 1) := by decide +kernel
theorem dX4_usedPoints_2 : decode cX4_usedPoints 2 = .ok (.iconst 0, 1) := by decide +kernel
theorem dX4_usedPoints_3 : decode cX4_usedPoints 3 = .ok (.istore_n 2, 1) := by decide +kernel
theorem dX4_usedPoints_4 : decode cX4_usedPoints 4 = .ok (.iload_n 2, 1) := by decide +kernel
theorem dX4_usedPoints_5 : decode cX4_usedPoints 5 = .ok (.aload_n 0, 1) := by decide +kernel
theorem dX4_usedPoints_6 : decode cX4_usedPoints 6 = .ok (.getfield 22, 3) := by decide +kernel
theorem dX4_usedPoints_9 : decode cX4_usedPoints 9 = .ok (.if_icmp .ge 29, 3) := by decide +kernel
theorem dX4_usedPoints_12 : decode cX4_usedPoints 12 = .ok (.iload_n 1, 1) := by decide +kernel
theorem dX4_usedPoints_13 : decode cX4_usedPoints 13 = .ok (.iconst 1, 1) := by decide +kernel
theorem dX4_usedPoints_14 : decode cX4_usedPoints 14 = .ok (.aload_n 0, 1) := by decide +kernel
theorem dX4_usedPoints_15 : decode cX4_usedPoints 15 = .ok (.getfield 9, 3) := by decide +kernel
theorem dX4_usedPoints_18 : decode cX4_usedPoints 18 = .ok (.iload_n 2, 1) := by decide +kernel
theorem dX4_usedPoints_19 : decode cX4_usedPoints 19 = .ok (.iaload, 1) := by decide +kernel
theorem dX4_usedPoints_20 : decode cX4_usedPoints 20 = .ok (.ishl, 1) := by decide +kernel
theorem dX4_usedPoints_21 : decode cX4_usedPoints 21 = .ok (.iconst 1, 1) := by decide +kernel
theorem dX4_usedPoints_22 : decode cX4_usedPoints 22 = .ok (.aload_n 0, 1) := by decide +kernel
theorem dX4_usedPoints_23 : decode cX4_usedPoints 23 = .ok (.getfield 15, 3) := by decide +kernel
theorem dX4_usedPoints_26 : decode cX4_usedPoints 26 = .ok (.iload_n 2, 1) := by decide +kernel
theorem dX4_usedPoints_27 : decode cX4_usedPoints 27 = .ok (.iaload, 1) := by decide +kernel
theorem dX4_usedPoints_28 : decode cX4_usedPoints 28 = .ok (.ishl, 1) := by decide +kernel
theorem dX4_usedPoints_29 : decode cX4_usedPoints 29 = .ok (.ior, 1) := by decide +kernel
theorem dX4_usedPoints_30 : decode cX4_usedPoints 30 = .ok (.ior, 1) := by decide +kernel
theorem dX4_usedPoints_31 : decode cX4_usedPoints 31 = .ok (.istore_n 1, 1) := by decide +kernel
theorem dX4_usedPoints_32 : decode cX4_usedPoints 32 = .ok (.iinc 2 1, 3) := by decide +kernel
theorem dX4_usedPoints_35 : decode cX4_usedPoints 35 = .ok (.goto (-31), 3) := by decide +kernel
theorem dX4_usedPoints_38 : decode cX4_usedPoints 38 = .ok (.iload_n 1, 1) := by decide +kernel
theorem dX4_usedPoints_39 : decode cX4_usedPoints 39 = .ok (.ireturn, 1) := by decide +kernel
theorem dX4_isUsed_0 : decode cX4_isUsed 0 = .ok (.aload_n 0, 1) := by decide +kernel
theorem dX4_isUsed_1 : decode cX4_isUsed 1 = .ok (.iload_n 1, 1) := by decide +kernel
theorem dX4_isUsed_2 : decode cX4_isUsed 2 = .ok (.invokevirtual 31, 3) := by decide +kernel
theorem dX4_isUsed_5 : decode cX4_isUsed 5 = .ok (.ifCond .eq 18, 3) := by decide +kernel
theorem dX4_isUsed_8 : decode cX4_isUsed 8 = .ok (.aload_n 0, 1) := by decide +kernel
theorem dX4_isUsed_9 : decode cX4_isUsed 9 = .ok (.invokevirtual 49, 3) := by decide +kernel
theorem dX4_isUsed_12 : decode cX4_isUsed 12 = .ok (.iload_n 1, 1) := by decide +kernel
theorem dX4_isUsed_13 : decode cX4_isUsed 13 = .ok (.invokestatic 53, 3) := by decide +kernel
theorem dX4_isUsed_16 : decode cX4_isUsed 16 = .ok (.ifCond .eq 7, 3) := by decide +kernel
theorem dX4_isUsed_19 : decode cX4_isUsed 19 = .ok (.iconst 1, 1) := by decide +kernel
theorem dX4_isUsed_20 : decode cX4_isUsed 20 = .ok (.goto 4, 3) := by decide +kernel
theorem dX4_isUsed_23 : decode cX4_isUsed 23 = .ok (.iconst 0, 1) := by decide +kernel
theorem dX4_isUsed_24 : decode cX4_isUsed 24 = .ok (.ireturn, 1) := by decide +kernel
theorem dX4_pointsWithExcess_0 : decode cX4_pointsWithExcess 0 = .ok (.iconst 0, 1) := by decide +kernel
theorem dX4_pointsWithExcess_1 : decode cX4_pointsWithExcess 1 = .ok (.istore_n 2, 1) := by decide +kernel
theorem dX4_pointsWithExcess_2 : decode cX4_pointsWithExcess 2 = .ok (.iconst 0, 1) := by decide +kernel
theorem dX4_pointsWithExcess_3 : decode cX4_pointsWithExcess 3 = .ok (.istore_n 3, 1) := by decide +kernel
theorem dX4_pointsWithExcess_4 : decode cX4_pointsWithExcess 4 = .ok (.iload_n 3, 1) := by decide +kernel
theorem dX4_pointsWithExcess_5 : decode cX4_pointsWithExcess 5 = .ok (.aload_n 0, 1) := by decide +kernel
theorem dX4_pointsWithExcess_6 : decode cX4_pointsWithExcess 6 = .ok (.getfield 18, 3) := by decide +kernel
theorem dX4_pointsWithExcess_9 : decode cX4_pointsWithExcess 9 = .ok (.if_icmp .ge 25, 3) := by decide +kernel
theorem dX4_pointsWithExcess_12 : decode cX4_pointsWithExcess 12 = .ok (.aload_n 0, 1) := by decide +kernel
theorem dX4_pointsWithExcess_13 : decode cX4_pointsWithExcess 13 = .ok (.iload_n 3, 1) := by decide +kernel
theorem dX4_pointsWithExcess_14 : decode cX4_pointsWithExcess 14 = .ok (.invokevirtual 57, 3) := by decide +kernel
theorem dX4_pointsWithExcess_17 : decode cX4_pointsWithExcess 17 = .ok (.iload_n 1, 1) := by decide +kernel
theorem dX4_pointsWithExcess_18 : decode cX4_pointsWithExcess 18 = .ok (.imul, 1) := by decide +kernel
theorem dX4_pointsWithExcess_19 : decode cX4_pointsWithExcess 19 = .ok (.ifCond .le 9, 3) := by decide +kernel
theorem dX4_pointsWithExcess_22 : decode cX4_pointsWithExcess 22 = .ok (.iload_n 2, 1) := by decide +kernel
theorem dX4_pointsWithExcess_23 : decode cX4_pointsWithExcess 23 = .ok (.iconst 1, 1) := by decide +kernel
theorem dX4_pointsWithExcess_24 : decode cX4_pointsWithExcess 24 = .ok (.iload_n 3, 1) := by decide +kernel
theorem dX4_pointsWithExcess_25 : decode cX4_pointsWithExcess 25 = .ok (.ishl, 1) := by decide +kernel
theorem dX4_pointsWithExcess_26 : decode cX4_pointsWithExcess 26 = .ok (.ior, 1) := by decide +kernel
theorem dX4_pointsWithExcess_27 : decode cX4_pointsWithExcess 27 = .ok (.istore_n 2, 1) := by decide +kernel
theorem dX4_pointsWithExcess_28 : decode cX4_pointsWithExcess 28 = .ok (.iinc 3 1, 3) := by decide +kernel
theorem dX4_pointsWithExcess_31 : decode cX4_pointsWithExcess 31 = .ok (.goto (-27), 3) := by decide +kernel
theorem dX4_pointsWithExcess_34 : decode cX4_pointsWithExcess 34 = .ok (.iload_n 2, 1) := by decide +kernel
theorem dX4_pointsWithExcess_35 : decode cX4_pointsWithExcess 35 = .ok (.ireturn, 1) := by decide +kernel
theorem dX4_isJoined_0 : decode cX4_isJoined 0 = .ok (.aload_n 0, 1) := by decide +kernel
theorem dX4_isJoined_1 : decode cX4_isJoined 1 = .ok (.getfield 22, 3) := by decide +kernel
theorem dX4_isJoined_4 : decode cX4_isJoined 4 = .ok (.ifCond .eq 22, 3) := by decide +kernel
theorem dX4_isJoined_7 : decode cX4_isJoined 7 = .ok (.aload_n 0, 1) := by decide +kernel
theorem dX4_isJoined_8 : decode cX4_isJoined 8 = .ok (.aload_n 0, 1) := by decide +kernel
theorem dX4_isJoined_9 : decode cX4_isJoined 9 = .ok (.getfield 9, 3) := by decide +kernel
theorem dX4_isJoined_12 : decode cX4_isJoined 12 = .ok (.iconst 0, 1) := by decide +kernel
theorem dX4_isJoined_13 : decode cX4_isJoined 13 = .ok (.iaload, 1) := by decide +kernel
theorem dX4_isJoined_14 : decode cX4_isJoined 14 = .ok (.iconst 1, 1) := by decide +kernel
theorem dX4_isJoined_15 : decode cX4_isJoined 15 = .ok (.iconst 1, 1) := by decide +kernel
theorem dX4_isJoined_16 : decode cX4_isJoined 16 = .ok (.invokevirtual 60, 3) := by decide +kernel
theorem dX4_isJoined_19 : decode cX4_isJoined 19 = .ok (.aload_n 0, 1) := by decide +kernel
theorem dX4_isJoined_20 : decode cX4_isJoined 20 = .ok (.invokevirtual 49, 3) := by decide +kernel
theorem dX4_isJoined_23 : decode cX4_isJoined 23 = .ok (.if_icmp .ne 7, 3) := by decide +kernel
theorem dX4_isJoined_26 : decode cX4_isJoined 26 = .ok (.iconst 1, 1) := by decide +kernel
theorem dX4_isJoined_27 : decode cX4_isJoined 27 = .ok (.goto 4, 3) := by decide +kernel
theorem dX4_isJoined_30 : decode cX4_isJoined 30 = .ok (.iconst 0, 1) := by decide +kernel
theorem dX4_isJoined_31 : decode cX4_isJoined 31 = .ok (.ireturn, 1) := by decide +kernel
theorem dX4_isStrong_0 : decode cX4_isStrong 0 = .ok (.aload_n 0, 1) := by decide +kernel
theorem dX4_isStrong_1 : decode cX4_isStrong 1 = .ok (.getfield 22, 3) := by decide +kernel
theorem dX4_isStrong_4 : decode cX4_isStrong 4 = .ok (.ifCond .ne 5, 3) := by decide +kernel
theorem dX4_isStrong_7 : decode cX4_isStrong 7 = .ok (.iconst 1, 1) := by decide +kernel
theorem dX4_isStrong_8 : decode cX4_isStrong 8 = .ok (.ireturn, 1) := by decide +kernel
theorem dX4_isStrong_9 : decode cX4_isStrong 9 = .ok (.aload_n 0, 1) := by decide +kernel
theorem dX4_isStrong_10 : decode cX4_isStrong 10 = .ok (.invokevirtual 49, 3) := by decide +kernel
theorem dX4_isStrong_13 : decode cX4_isStrong 13 = .ok (.istore_n 1, 1) := by decide +kernel
theorem dX4_isStrong_14 : decode cX4_isStrong 14 = .ok (.aload_n 0, 1) := by decide +kernel
theorem dX4_isStrong_15 : decode cX4_isStrong 15 = .ok (.aload_n 0, 1) := by decide +kernel
theorem dX4_isStrong_16 : decode cX4_isStrong 16 = .ok (.getfield 9, 3) := by decide +kernel
theorem dX4_isStrong_19 : decode cX4_isStrong 19 = .ok (.iconst 0, 1) := by decide +kernel
theorem dX4_isStrong_20 : decode cX4_isStrong 20 = .ok (.iaload, 1) := by decide +kernel
theorem dX4_isStrong_21 : decode cX4_isStrong 21 = .ok (.iconst 1, 1) := by decide +kernel
theorem dX4_isStrong_22 : decode cX4_isStrong 22 = .ok (.iconst 0, 1) := by decide +kernel
theorem dX4_isStrong_23 : decode cX4_isStrong 23 = .ok (.invokevirtual 60, 3) := by decide +kernel
theorem dX4_isStrong_26 : decode cX4_isStrong 26 = .ok (.iload_n 1, 1) := by decide +kernel
theorem dX4_isStrong_27 : decode cX4_isStrong 27 = .ok (.if_icmp .ne 23, 3) := by decide +kernel
theorem dX4_isStrong_30 : decode cX4_isStrong 30 = .ok (.aload_n 0, 1) := by decide +kernel
theorem dX4_isStrong_31 : decode cX4_isStrong 31 = .ok (.aload_n 0, 1) := by decide +kernel
theorem dX4_isStrong_32 : decode cX4_isStrong 32 = .ok (.getfield 9, 3) := by decide +kernel
theorem dX4_isStrong_35 : decode cX4_isStrong 35 = .ok (.iconst 0, 1) := by decide +kernel
theorem dX4_isStrong_36 : decode cX4_isStrong 36 = .ok (.iaload, 1) := by decide +kernel
theorem dX4_isStrong_37 : decode cX4_isStrong 37 = .ok (.iconst 0, 1) := by decide +kernel
theorem dX4_isStrong_38 : decode cX4_isStrong 38 = .ok (.iconst 1, 1) := by decide +kernel
theorem dX4_isStrong_39 : decode cX4_isStrong 39 = .ok (.invokevirtual 60, 3) := by decide +kernel
theorem dX4_isStrong_42 : decode cX4_isStrong 42 = .ok (.iload_n 1, 1) := by decide +kernel
theorem dX4_isStrong_43 : decode cX4_isStrong 43 = .ok (.if_icmp .ne 7, 3) := by decide +kernel
theorem dX4_isStrong_46 : decode cX4_isStrong 46 = .ok (.iconst 1, 1) := by decide +kernel
theorem dX4_isStrong_47 : decode cX4_isStrong 47 = .ok (.goto 4, 3) := by decide +kernel
theorem dX4_isStrong_50 : decode cX4_isStrong 50 = .ok (.iconst 0, 1) := by decide +kernel
theorem dX4_isStrong_51 : decode cX4_isStrong 51 = .ok (.ireturn, 1) := by decide +kernel
theorem dX4_spread_0 : decode cX4_spread 0 = .ok (.iconst 1, 1) := by decide +kernel
theorem dX4_spread_1 : decode cX4_spread 1 = .ok (.iload_n 1, 1) := by decide +kernel
theorem dX4_spread_2 : decode cX4_spread 2 = .ok (.ishl, 1) := by decide +kernel
theorem dX4_spread_3 : decode cX4_spread 3 = .ok (.istore 4, 2) := by decide +kernel
theorem dX4_spread_5 : decode cX4_spread 5 = .ok (.iconst 0, 1) := by decide +kernel
theorem dX4_spread_6 : decode cX4_spread 6 = .ok (.istore 5, 2) := by decide +kernel
theorem dX4_spread_8 : decode cX4_spread 8 = .ok (.iload 5, 2) := by decide +kernel
theorem dX4_spread_10 : decode cX4_spread 10 = .ok (.bipush 8, 2) := by decide +kernel
theorem dX4_spread_12 : decode cX4_spread 12 = .ok (.if_icmp .ge 107, 3) := by decide +kernel
theorem dX4_spread_15 : decode cX4_spread 15 = .ok (.iload 4, 2) := by decide +kernel
theorem dX4_spread_17 : decode cX4_spread 17 = .ok (.istore 6, 2) := by decide +kernel
theorem dX4_spread_19 : decode cX4_spread 19 = .ok (.iconst 0, 1) := by decide +kernel
theorem dX4_spread_20 : decode cX4_spread 20 = .ok (.istore 7, 2) := by decide +kernel
theorem dX4_spread_22 : decode cX4_spread 22 = .ok (.iload 7, 2) := by decide +kernel
theorem dX4_spread_24 : decode cX4_spread 24 = .ok (.aload_n 0, 1) := by decide +kernel
theorem dX4_spread_25 : decode cX4_spread 25 = .ok (.getfield 22, 3) := by decide +kernel
theorem dX4_spread_28 : decode cX4_spread 28 = .ok (.if_icmp .ge 75, 3) := by decide +kernel
theorem dX4_spread_31 : decode cX4_spread 31 = .ok (.iload_n 2, 1) := by decide +kernel
theorem dX4_spread_32 : decode cX4_spread 32 = .ok (.ifCond .eq 32, 3) := by decide +kernel
theorem dX4_spread_35 : decode cX4_spread 35 = .ok (.iload 4, 2) := by decide +kernel
theorem dX4_spread_37 : decode cX4_spread 37 = .ok (.aload_n 0, 1) := by decide +kernel
theorem dX4_spread_38 : decode cX4_spread 38 = .ok (.getfield 9, 3) := by decide +kernel
theorem dX4_spread_41 : decode cX4_spread 41 = .ok (.iload 7, 2) := by decide +kernel
theorem dX4_spread_43 : decode cX4_spread 43 = .ok (.iaload, 1) := by decide +kernel
theorem dX4_spread_44 : decode cX4_spread 44 = .ok (.invokestatic 53, 3) := by decide +kernel
theorem dX4_spread_47 : decode cX4_spread 47 = .ok (.ifCond .eq 17, 3) := by decide +kernel
theorem dX4_spread_50 : decode cX4_spread 50 = .ok (.iload 4, 2) := by decide +kernel
theorem dX4_spread_52 : decode cX4_spread 52 = .ok (.iconst 1, 1) := by decide +kernel
theorem dX4_spread_53 : decode cX4_spread 53 = .ok (.aload_n 0, 1) := by decide +kernel
theorem dX4_spread_54 : decode cX4_spread 54 = .ok (.getfield 15, 3) := by decide +kernel
theorem dX4_spread_57 : decode cX4_spread 57 = .ok (.iload 7, 2) := by decide +kernel
theorem dX4_spread_59 : decode cX4_spread 59 = .ok (.iaload, 1) := by decide +kernel
theorem dX4_spread_60 : decode cX4_spread 60 = .ok (.ishl, 1) := by decide +kernel
theorem dX4_spread_61 : decode cX4_spread 61 = .ok (.ior, 1) := by decide +kernel
theorem dX4_spread_62 : decode cX4_spread 62 = .ok (.istore 4, 2) := by decide +kernel
theorem dX4_spread_64 : decode cX4_spread 64 = .ok (.iload_n 3, 1) := by decide +kernel
theorem dX4_spread_65 : decode cX4_spread 65 = .ok (.ifCond .eq 32, 3) := by decide +kernel
theorem dX4_spread_68 : decode cX4_spread 68 = .ok (.iload 4, 2) := by decide +kernel
theorem dX4_spread_70 : decode cX4_spread 70 = .ok (.aload_n 0, 1) := by decide +kernel
theorem dX4_spread_71 : decode cX4_spread 71 = .ok (.getfield 15, 3) := by decide +kernel
theorem dX4_spread_74 : decode cX4_spread 74 = .ok (.iload 7, 2) := by decide +kernel
theorem dX4_spread_76 : decode cX4_spread 76 = .ok (.iaload, 1) := by decide +kernel
theorem dX4_spread_77 : decode cX4_spread 77 = .ok (.invokestatic 53, 3) := by decide +kernel
theorem dX4_spread_80 : decode cX4_spread 80 = .ok (.ifCond .eq 17, 3) := by decide +kernel
theorem dX4_spread_83 : decode cX4_spread 83 = .ok (.iload 4, 2) := by decide +kernel
theorem dX4_spread_85 : decode cX4_spread 85 = .ok (.iconst 1, 1) := by decide +kernel
theorem dX4_spread_86 : decode cX4_spread 86 = .ok (.aload_n 0, 1) := by decide +kernel
theorem dX4_spread_87 : decode cX4_spread 87 = .ok (.getfield 9, 3) := by decide +kernel
theorem dX4_spread_90 : decode cX4_spread 90 = .ok (.iload 7, 2) := by decide +kernel
theorem dX4_spread_92 : decode cX4_spread 92 = .ok (.iaload, 1) := by decide +kernel
theorem dX4_spread_93 : decode cX4_spread 93 = .ok (.ishl, 1) := by decide +kernel
theorem dX4_spread_94 : decode cX4_spread 94 = .ok (.ior, 1) := by decide +kernel
theorem dX4_spread_95 : decode cX4_spread 95 = .ok (.istore 4, 2) := by decide +kernel
theorem dX4_spread_97 : decode cX4_spread 97 = .ok (.iinc 7 1, 3) := by decide +kernel
theorem dX4_spread_100 : decode cX4_spread 100 = .ok (.goto (-78), 3) := by decide +kernel
theorem dX4_spread_103 : decode cX4_spread 103 = .ok (.iload 4, 2) := by decide +kernel
theorem dX4_spread_105 : decode cX4_spread 105 = .ok (.iload 6, 2) := by decide +kernel
theorem dX4_spread_107 : decode cX4_spread 107 = .ok (.if_icmp .ne 6, 3) := by decide +kernel
theorem dX4_spread_110 : decode cX4_spread 110 = .ok (.goto 9, 3) := by decide +kernel
theorem dX4_spread_113 : decode cX4_spread 113 = .ok (.iinc 5 1, 3) := by decide +kernel
theorem dX4_spread_116 : decode cX4_spread 116 = .ok (.goto (-108), 3) := by decide +kernel
theorem dX4_spread_119 : decode cX4_spread 119 = .ok (.iload 4, 2) := by decide +kernel
theorem dX4_spread_121 : decode cX4_spread 121 = .ok (.ireturn, 1) := by decide +kernel
theorem dX4_shape_0 : decode cX4_shape 0 = .ok (.aload_n 0, 1) := by decide +kernel
theorem dX4_shape_1 : decode cX4_shape 1 = .ok (.getfield 22, 3) := by decide +kernel
theorem dX4_shape_4 : decode cX4_shape 4 = .ok (.ifCond .eq 10, 3) := by decide +kernel
theorem dX4_shape_7 : decode cX4_shape 7 = .ok (.aload_n 0, 1) := by decide +kernel
theorem dX4_shape_8 : decode cX4_shape 8 = .ok (.invokevirtual 64, 3) := by decide +kernel
theorem dX4_shape_11 : decode cX4_shape 11 = .ok (.ifCond .ne 5, 3) := by decide +kernel
theorem dX4_shape_14 : decode cX4_shape 14 = .ok (.iconst 0, 1) := by decide +kernel
theorem dX4_shape_15 : decode cX4_shape 15 = .ok (.ireturn, 1) := by decide +kernel
theorem dX4_shape_16 : decode cX4_shape 16 = .ok (.iconst 0, 1) := by decide +kernel
theorem dX4_shape_17 : decode cX4_shape 17 = .ok (.istore_n 1, 1) := by decide +kernel
theorem dX4_shape_18 : decode cX4_shape 18 = .ok (.iconst 0, 1) := by decide +kernel
theorem dX4_shape_19 : decode cX4_shape 19 = .ok (.istore_n 2, 1) := by decide +kernel
theorem dX4_shape_20 : decode cX4_shape 20 = .ok (.iload_n 2, 1) := by decide +kernel
theorem dX4_shape_21 : decode cX4_shape 21 = .ok (.aload_n 0, 1) := by decide +kernel
theorem dX4_shape_22 : decode cX4_shape 22 = .ok (.getfield 18, 3) := by decide +kernel
theorem dX4_shape_25 : decode cX4_shape 25 = .ok (.if_icmp .ge 35, 3) := by decide +kernel
theorem dX4_shape_28 : decode cX4_shape 28 = .ok (.aload_n 0, 1) := by decide +kernel
theorem dX4_shape_29 : decode cX4_shape 29 = .ok (.iload_n 2, 1) := by decide +kernel
theorem dX4_shape_30 : decode cX4_shape 30 = .ok (.invokevirtual 57, 3) := by decide +kernel
theorem dX4_shape_33 : decode cX4_shape 33 = .ok (.istore_n 3, 1) := by decide +kernel
theorem dX4_shape_34 : decode cX4_shape 34 = .ok (.iload_n 3, 1) := by decide +kernel
theorem dX4_shape_35 : decode cX4_shape 35 = .ok (.iconst 1, 1) := by decide +kernel
theorem dX4_shape_36 : decode cX4_shape 36 = .ok (.if_icmp .gt 8, 3) := by decide +kernel
theorem dX4_shape_39 : decode cX4_shape 39 = .ok (.iload_n 3, 1) := by decide +kernel
theorem dX4_shape_40 : decode cX4_shape 40 = .ok (.iconst (-1), 1) := by decide +kernel
theorem dX4_shape_41 : decode cX4_shape 41 = .ok (.if_icmp .ge 5, 3) := by decide +kernel
theorem dX4_shape_44 : decode cX4_shape 44 = .ok (.iconst 0, 1) := by decide +kernel
theorem dX4_shape_45 : decode cX4_shape 45 = .ok (.ireturn, 1) := by decide +kernel
theorem dX4_shape_46 : decode cX4_shape 46 = .ok (.iload_n 3, 1) := by decide +kernel
theorem dX4_shape_47 : decode cX4_shape 47 = .ok (.iconst 1, 1) := by decide +kernel
theorem dX4_shape_48 : decode cX4_shape 48 = .ok (.if_icmp .ne 6, 3) := by decide +kernel
theorem dX4_shape_51 : decode cX4_shape 51 = .ok (.iinc 1 1, 3) := by decide +kernel
theorem dX4_shape_54 : decode cX4_shape 54 = .ok (.iinc 2 1, 3) := by decide +kernel
theorem dX4_shape_57 : decode cX4_shape 57 = .ok (.goto (-37), 3) := by decide +kernel
theorem dX4_shape_60 : decode cX4_shape 60 = .ok (.iload_n 1, 1) := by decide +kernel
theorem dX4_shape_61 : decode cX4_shape 61 = .ok (.ifCond .ne 5, 3) := by decide +kernel
theorem dX4_shape_64 : decode cX4_shape 64 = .ok (.iconst 1, 1) := by decide +kernel
theorem dX4_shape_65 : decode cX4_shape 65 = .ok (.ireturn, 1) := by decide +kernel
theorem dX4_shape_66 : decode cX4_shape 66 = .ok (.iload_n 1, 1) := by decide +kernel
theorem dX4_shape_67 : decode cX4_shape 67 = .ok (.iconst 1, 1) := by decide +kernel
theorem dX4_shape_68 : decode cX4_shape 68 = .ok (.if_icmp .ne 7, 3) := by decide +kernel
theorem dX4_shape_71 : decode cX4_shape 71 = .ok (.iconst 2, 1) := by decide +kernel
theorem dX4_shape_72 : decode cX4_shape 72 = .ok (.goto 4, 3) := by decide +kernel
theorem dX4_shape_75 : decode cX4_shape 75 = .ok (.iconst 0, 1) := by decide +kernel
theorem dX4_shape_76 : decode cX4_shape 76 = .ok (.ireturn, 1) := by decide +kernel
theorem dX4_start_0 : decode cX4_start 0 = .ok (.iload_n 1, 1) := by decide +kernel
theorem dX4_start_1 : decode cX4_start 1 = .ok (.iconst 1, 1) := by decide +kernel
theorem dX4_start_2 : decode cX4_start 2 = .ok (.if_icmp .ne 12, 3) := by decide +kernel
theorem dX4_start_5 : decode cX4_start 5 = .ok (.aload_n 0, 1) := by decide +kernel
theorem dX4_start_6 : decode cX4_start 6 = .ok (.getfield 9, 3) := by decide +kernel
theorem dX4_start_9 : decode cX4_start 9 = .ok (.iconst 0, 1) := by decide +kernel
theorem dX4_start_10 : decode cX4_start 10 = .ok (.iaload, 1) := by decide +kernel
theorem dX4_start_11 : decode cX4_start 11 = .ok (.goto 8, 3) := by decide +kernel
theorem dX4_start_14 : decode cX4_start 14 = .ok (.aload_n 0, 1) := by decide +kernel
theorem dX4_start_15 : decode cX4_start 15 = .ok (.iconst 1, 1) := by decide +kernel
theorem dX4_start_16 : decode cX4_start 16 = .ok (.invokevirtual 68, 3) := by decide +kernel
theorem dX4_start_19 : decode cX4_start 19 = .ok (.ireturn, 1) := by decide +kernel
theorem dX4_finish_0 : decode cX4_finish 0 = .ok (.iload_n 1, 1) := by decide +kernel
theorem dX4_finish_1 : decode cX4_finish 1 = .ok (.iconst 1, 1) := by decide +kernel
theorem dX4_finish_2 : decode cX4_finish 2 = .ok (.if_icmp .ne 12, 3) := by decide +kernel
theorem dX4_finish_5 : decode cX4_finish 5 = .ok (.aload_n 0, 1) := by decide +kernel
theorem dX4_finish_6 : decode cX4_finish 6 = .ok (.getfield 9, 3) := by decide +kernel
theorem dX4_finish_9 : decode cX4_finish 9 = .ok (.iconst 0, 1) := by decide +kernel
theorem dX4_finish_10 : decode cX4_finish 10 = .ok (.iaload, 1) := by decide +kernel
theorem dX4_finish_11 : decode cX4_finish 11 = .ok (.goto 8, 3) := by decide +kernel
theorem dX4_finish_14 : decode cX4_finish 14 = .ok (.aload_n 0, 1) := by decide +kernel
theorem dX4_finish_15 : decode cX4_finish 15 = .ok (.iconst (-1), 1) := by decide +kernel
theorem dX4_finish_16 : decode cX4_finish 16 = .ok (.invokevirtual 68, 3) := by decide +kernel
theorem dX4_finish_19 : decode cX4_finish 19 = .ok (.ireturn, 1) := by decide +kernel
theorem dX4_pointOfExcess_0 : decode cX4_pointOfExcess 0 = .ok (.iconst 0, 1) := by decide +kernel
theorem dX4_pointOfExcess_1 : decode cX4_pointOfExcess 1 = .ok (.istore_n 2, 1) := by decide +kernel
theorem dX4_pointOfExcess_2 : decode cX4_pointOfExcess 2 = .ok (.iload_n 2, 1) := by decide +kernel
theorem dX4_pointOfExcess_3 : decode cX4_pointOfExcess 3 = .ok (.aload_n 0, 1) := by decide +kernel
theorem dX4_pointOfExcess_4 : decode cX4_pointOfExcess 4 = .ok (.getfield 18, 3) := by decide +kernel
theorem dX4_pointOfExcess_7 : decode cX4_pointOfExcess 7 = .ok (.if_icmp .ge 20, 3) := by decide +kernel
theorem dX4_pointOfExcess_10 : decode cX4_pointOfExcess 10 = .ok (.aload_n 0, 1) := by decide +kernel
theorem dX4_pointOfExcess_11 : decode cX4_pointOfExcess 11 = .ok (.iload_n 2, 1) := by decide +kernel
theorem dX4_pointOfExcess_12 : decode cX4_pointOfExcess 12 = .ok (.invokevirtual 57, 3) := by decide +kernel
theorem dX4_pointOfExcess_15 : decode cX4_pointOfExcess 15 = .ok (.iload_n 1, 1) := by decide +kernel
theorem dX4_pointOfExcess_16 : decode cX4_pointOfExcess 16 = .ok (.if_icmp .ne 5, 3) := by decide +kernel
theorem dX4_pointOfExcess_19 : decode cX4_pointOfExcess 19 = .ok (.iload_n 2, 1) := by decide +kernel
theorem dX4_pointOfExcess_20 : decode cX4_pointOfExcess 20 = .ok (.ireturn, 1) := by decide +kernel
theorem dX4_pointOfExcess_21 : decode cX4_pointOfExcess 21 = .ok (.iinc 2 1, 3) := by decide +kernel
theorem dX4_pointOfExcess_24 : decode cX4_pointOfExcess 24 = .ok (.goto (-22), 3) := by decide +kernel
theorem dX4_pointOfExcess_27 : decode cX4_pointOfExcess 27 = .ok (.iconst 0, 1) := by decide +kernel
theorem dX4_pointOfExcess_28 : decode cX4_pointOfExcess 28 = .ok (.ireturn, 1) := by decide +kernel
theorem dX5_init_0 : decode cX5_init 0 = .ok (.aload_n 0, 1) := by decide +kernel
theorem dX5_init_1 : decode cX5_init 1 = .ok (.invokespecial 3, 3) := by decide +kernel
theorem dX5_init_4 : decode cX5_init 4 = .ok (.aload_n 0, 1) := by decide +kernel
theorem dX5_init_5 : decode cX5_init 5 = .ok (.new 9, 3) := by decide +kernel
theorem dX5_init_8 : decode cX5_init 8 = .ok (.dup, 1) := by decide +kernel
theorem dX5_init_9 : decode cX5_init 9 = .ok (.invokespecial 11, 3) := by decide +kernel
theorem dX5_init_12 : decode cX5_init 12 = .ok (.putfield 12, 3) := by decide +kernel
theorem dX5_init_15 : decode cX5_init 15 = .ok (.aload_n 0, 1) := by decide +kernel
theorem dX5_init_16 : decode cX5_init 16 = .ok (.bipush 8, 2) := by decide +kernel
theorem dX5_init_18 : decode cX5_init 18 = .ok (.newarray .long, 2) := by decide +kernel
theorem dX5_init_20 : decode cX5_init 20 = .ok (.putfield 18, 3) := by decide +kernel
theorem dX5_init_23 : decode cX5_init 23 = .ok (.aload_n 0, 1) := by decide +kernel
theorem dX5_init_24 : decode cX5_init 24 = .ok (.iconst 0, 1) := by decide +kernel
theorem dX5_init_25 : decode cX5_init 25 = .ok (.putfield 22, 3) := by decide +kernel
theorem dX5_init_28 : decode cX5_init 28 = .ok (.aload_n 0, 1) := by decide +kernel
theorem dX5_init_29 : decode cX5_init 29 = .ok (.iconst 0, 1) := by decide +kernel
theorem dX5_init_30 : decode cX5_init 30 = .ok (.putfield 26, 3) := by decide +kernel
theorem dX5_init_33 : decode cX5_init 33 = .ok (.aload_n 0, 1) := by decide +kernel
theorem dX5_init_34 : decode cX5_init 34 = .ok (.iconst 0, 1) := by decide +kernel
theorem dX5_init_35 : decode cX5_init 35 = .ok (.putfield 29, 3) := by decide +kernel
theorem dX5_init_38 : decode cX5_init 38 = .ok (.aload_n 0, 1) := by decide +kernel
theorem dX5_init_39 : decode cX5_init 39 = .ok (.iconst 0, 1) := by decide +kernel
theorem dX5_init_40 : decode cX5_init 40 = .ok (.putfield 32, 3) := by decide +kernel
theorem dX5_init_43 : decode cX5_init 43 = .ok (.aload_n 0, 1) := by decide +kernel
theorem dX5_init_44 : decode cX5_init 44 = .ok (.iconst 0, 1) := by decide +kernel
theorem dX5_init_45 : decode cX5_init 45 = .ok (.putfield 35, 3) := by decide +kernel
theorem dX5_init_48 : decode cX5_init 48 = .ok (.return_, 1) := by decide +kernel
theorem dX5_parse_0 : decode cX5_parse 0 = .ok (.aload_n 0, 1) := by decide +kernel
theorem dX5_parse_1 : decode cX5_parse 1 = .ok (.getfield 12, 3) := by decide +kernel
theorem dX5_parse_4 : decode cX5_parse 4 = .ok (.iconst 0, 1) := by decide +kernel
theorem dX5_parse_5 : decode cX5_parse 5 = .ok (.putfield 38, 3) := by decide +kernel
theorem dX5_parse_8 : decode cX5_parse 8 = .ok (.aload_n 0, 1) := by decide +kernel
theorem dX5_parse_9 : decode cX5_parse 9 = .ok (.getfield 12, 3) := by decide +kernel
theorem dX5_parse_12 : decode cX5_parse 12 = .ok (.iconst 0, 1) := by decide +kernel
theorem dX5_parse_13 : decode cX5_parse 13 = .ok (.putfield 41, 3) := by decide +kernel
theorem dX5_parse_16 : decode cX5_parse 16 = .ok (.aload_n 0, 1) := by decide +kernel
theorem dX5_parse_17 : decode cX5_parse 17 = .ok (.iconst 0, 1) := by decide +kernel
theorem dX5_parse_18 : decode cX5_parse 18 = .ok (.putfield 22, 3) := by decide +kernel
theorem dX5_parse_21 : decode cX5_parse 21 = .ok (.aload_n 0, 1) := by decide +kernel
theorem dX5_parse_22 : decode cX5_parse 22 = .ok (.iconst 0, 1) := by decide +kernel
theorem dX5_parse_23 : decode cX5_parse 23 = .ok (.putfield 26, 3) := by decide +kernel
theorem dX5_parse_26 : decode cX5_parse 26 = .ok (.aload_n 0, 1) := by decide +kernel
theorem dX5_parse_27 : decode cX5_parse 27 = .ok (.iconst 0, 1) := by decide +kernel
theorem dX5_parse_28 : decode cX5_parse 28 = .ok (.putfield 29, 3) := by decide +kernel
theorem dX5_parse_31 : decode cX5_parse 31 = .ok (.aload_n 0, 1) := by decide +kernel
theorem dX5_parse_32 : decode cX5_parse 32 = .ok (.iconst 0, 1) := by decide +kernel
theorem dX5_parse_33 : decode cX5_parse 33 = .ok (.putfield 35, 3) := by decide +kernel
theorem dX5_parse_36 : decode cX5_parse 36 = .ok (.iconst 0, 1) := by decide +kernel
theorem dX5_parse_37 : decode cX5_parse 37 = .ok (.istore_n 2, 1) := by decide +kernel
theorem dX5_parse_38 : decode cX5_parse 38 = .ok (.iload_n 2, 1) := by decide +kernel
theorem dX5_parse_39 : decode cX5_parse 39 = .ok (.sipush 540, 3) := by decide +kernel
theorem dX5_parse_42 : decode cX5_parse 42 = .ok (.if_icmp .gt 107, 3) := by decide +kernel
theorem dX5_parse_45 : decode cX5_parse 45 = .ok (.aload_n 0, 1) := by decide +kernel
theorem dX5_parse_46 : decode cX5_parse 46 = .ok (.aload_n 1, 1) := by decide +kernel
theorem dX5_parse_47 : decode cX5_parse 47 = .ok (.invokevirtual 44, 3) := by decide +kernel
theorem dX5_parse_50 : decode cX5_parse 50 = .ok (.aload_n 1, 1) := by decide +kernel
theorem dX5_parse_51 : decode cX5_parse 51 = .ok (.getfield 48, 3) := by decide +kernel
theorem dX5_parse_54 : decode cX5_parse 54 = .ok (.sipush 500, 3) := by decide +kernel
theorem dX5_parse_57 : decode cX5_parse 57 = .ok (.if_icmp .le 22, 3) := by decide +kernel
theorem dX5_parse_60 : decode cX5_parse 60 = .ok (.aload_n 0, 1) := by decide +kernel
theorem dX5_parse_61 : decode cX5_parse 61 = .ok (.getfield 22, 3) := by decide +kernel
theorem dX5_parse_64 : decode cX5_parse 64 = .ok (.sipush 500, 3) := by decide +kernel
theorem dX5_parse_67 : decode cX5_parse 67 = .ok (.if_icmp .lt 12, 3) := by decide +kernel
theorem dX5_parse_70 : decode cX5_parse 70 = .ok (.aload_n 0, 1) := by decide +kernel
theorem dX5_parse_71 : decode cX5_parse 71 = .ok (.iconst 1, 1) := by decide +kernel
theorem dX5_parse_72 : decode cX5_parse 72 = .ok (.sipush 500, 3) := by decide +kernel
theorem dX5_parse_75 : decode cX5_parse 75 = .ok (.invokevirtual 53, 3) := by decide +kernel
theorem dX5_parse_78 : decode cX5_parse 78 = .ok (.ireturn, 1) := by decide +kernel
theorem dX5_parse_79 : decode cX5_parse 79 = .ok (.aload_n 0, 1) := by decide +kernel
theorem dX5_parse_80 : decode cX5_parse 80 = .ok (.getfield 22, 3) := by decide +kernel
theorem dX5_parse_83 : decode cX5_parse 83 = .ok (.aload_n 1, 1) := by decide +kernel
theorem dX5_parse_84 : decode cX5_parse 84 = .ok (.getfield 48, 3) := by decide +kernel
theorem dX5_parse_87 : decode cX5_parse 87 = .ok (.if_icmp .lt 27, 3) := by decide +kernel
theorem dX5_parse_90 : decode cX5_parse 90 = .ok (.aload_n 0, 1) := by decide +kernel
theorem dX5_parse_91 : decode cX5_parse 91 = .ok (.getfield 29, 3) := by decide +kernel
theorem dX5_parse_94 : decode cX5_parse 94 = .ok (.ifCond .ne 10, 3) := by decide +kernel
theorem dX5_parse_97 : decode cX5_parse 97 = .ok (.aload_n 0, 1) := by decide +kernel
theorem dX5_parse_98 : decode cX5_parse 98 = .ok (.getfield 26, 3) := by decide +kernel
theorem dX5_parse_101 : decode cX5_parse 101 = .ok (.goto 12, 3) := by decide +kernel
theorem dX5_parse_104 : decode cX5_parse 104 = .ok (.aload_n 0, 1) := by decide +kernel
theorem dX5_parse_105 : decode cX5_parse 105 = .ok (.iconst 1, 1) := by decide +kernel
theorem dX5_parse_106 : decode cX5_parse 106 = .ok (.aload_n 1, 1) := by decide +kernel
theorem dX5_parse_107 : decode cX5_parse 107 = .ok (.getfield 48, 3) := by decide +kernel
theorem dX5_parse_110 : decode cX5_parse 110 = .ok (.invokevirtual 53, 3) := by decide +kernel
theorem dX5_parse_113 : decode cX5_parse 113 = .ok (.ireturn, 1) := by decide +kernel
theorem dX5_parse_114 : decode cX5_parse 114 = .ok (.aload_n 0, 1) := by decide +kernel
theorem dX5_parse_115 : decode cX5_parse 115 = .ok (.getfield 22, 3) := by decide +kernel
theorem dX5_parse_118 : decode cX5_parse 118 = .ok (.istore_n 3, 1) := by decide +kernel
theorem dX5_parse_119 : decode cX5_parse 119 = .ok (.aload_n 0, 1) := by decide +kernel
theorem dX5_parse_120 : decode cX5_parse 120 = .ok (.aload_n 0, 1) := by decide +kernel
theorem dX5_parse_121 : decode cX5_parse 121 = .ok (.aload_n 1, 1) := by decide +kernel
theorem dX5_parse_122 : decode cX5_parse 122 = .ok (.invokevirtual 57, 3) := by decide +kernel
theorem dX5_parse_125 : decode cX5_parse 125 = .ok (.invokevirtual 61, 3) := by decide +kernel
theorem dX5_parse_128 : decode cX5_parse 128 = .ok (.istore 4, 2) := by decide +kernel
theorem dX5_parse_130 : decode cX5_parse 130 = .ok (.iload 4, 2) := by decide +kernel
theorem dX5_parse_132 : decode cX5_parse 132 = .ok (.ifCond .eq 11, 3) := by decide +kernel
theorem dX5_parse_135 : decode cX5_parse 135 = .ok (.aload_n 0, 1) := by decide +kernel
theorem dX5_parse_136 : decode cX5_parse 136 = .ok (.iload 4, 2) := by decide +kernel
theorem dX5_parse_138 : decode cX5_parse 138 = .ok (.iload_n 3, 1) := by decide +kernel
theorem dX5_parse_139 : decode cX5_parse 139 = .ok (.invokevirtual 53, 3) := by decide +kernel
theorem dX5_parse_142 : decode cX5_parse 142 = .ok (.ireturn, 1) := by decide +kernel
theorem dX5_parse_143 : decode cX5_parse 143 = .ok (.iinc 2 1, 3) := by decide +kernel
theorem dX5_parse_146 : decode cX5_parse 146 = .ok (.goto (-108), 3) := by decide +kernel
theorem dX5_parse_149 : decode cX5_parse 149 = .ok (.aload_n 0, 1) := by decide +kernel
theorem dX5_parse_150 : decode cX5_parse 150 = .ok (.iconst 1, 1) := by decide +kernel
theorem dX5_parse_151 : decode cX5_parse 151 = .ok (.aload_n 1, 1) := by decide +kernel
theorem dX5_parse_152 : decode cX5_parse 152 = .ok (.getfield 48, 3) := by decide +kernel
theorem dX5_parse_155 : decode cX5_parse 155 = .ok (.invokevirtual 53, 3) := by decide +kernel
theorem dX5_parse_158 : decode cX5_parse 158 = .ok (.ireturn, 1) := by decide +kernel
theorem dX5_refuse_0 : decode cX5_refuse 0 = .ok (.aload_n 0, 1) := by decide +kernel
theorem dX5_refuse_1 : decode cX5_refuse 1 = .ok (.iload_n 1, 1) := by decide +kernel
theorem dX5_refuse_2 : decode cX5_refuse 2 = .ok (.putfield 35, 3) := by decide +kernel
theorem dX5_refuse_5 : decode cX5_refuse 5 = .ok (.iconst (-1), 1) := by decide +kernel
theorem dX5_refuse_6 : decode cX5_refuse 6 = .ok (.iload_n 2, 1) := by decide +kernel
theorem dX5_refuse_7 : decode cX5_refuse 7 = .ok (.isub, 1) := by decide +kernel
theorem dX5_refuse_8 : decode cX5_refuse 8 = .ok (.ireturn, 1) := by decide +kernel
theorem dX5_skipBlanks_0 : decode cX5_skipBlanks 0 = .ok (.aload_n 0, 1) := by decide +kernel
theorem dX5_skipBlanks_1 : decode cX5_skipBlanks 1 = .ok (.getfield 22, 3) := by decide +kernel
theorem dX5_skipBlanks_4 : decode cX5_skipBlanks 4 = .ok (.aload_n 1, 1) := by decide +kernel
theorem dX5_skipBlanks_5 : decode cX5_skipBlanks 5 = .ok (.getfield 48, 3) := by decide +kernel
theorem dX5_skipBlanks_8 : decode cX5_skipBlanks 8 = .ok (.if_icmp .ge 42, 3) := by decide +kernel
theorem dX5_skipBlanks_11 : decode cX5_skipBlanks 11 = .ok (.aload_n 1, 1) := by decide +kernel
theorem dX5_skipBlanks_12 : decode cX5_skipBlanks 12 = .ok (.aload_n 0, 1) := by decide +kernel
theorem dX5_skipBlanks_13 : decode cX5_skipBlanks 13 = .ok (.getfield 22, 3) := by decide +kernel
theorem dX5_skipBlanks_16 : decode cX5_skipBlanks 16 = .ok (.invokevirtual 65, 3) := by decide +kernel
theorem dX5_skipBlanks_19 : decode cX5_skipBlanks 19 = .ok (.bipush 32, 2) := by decide +kernel
theorem dX5_skipBlanks_21 : decode cX5_skipBlanks 21 = .ok (.if_icmp .eq 16, 3) := by decide +kernel
theorem dX5_skipBlanks_24 : decode cX5_skipBlanks 24 = .ok (.aload_n 1, 1) := by decide +kernel
theorem dX5_skipBlanks_25 : decode cX5_skipBlanks 25 = .ok (.aload_n 0, 1) := by decide +kernel
theorem dX5_skipBlanks_26 : decode cX5_skipBlanks 26 = .ok (.getfield 22, 3) := by decide +kernel
theorem dX5_skipBlanks_29 : decode cX5_skipBlanks 29 = .ok (.invokevirtual 65, 3) := by decide +kernel
theorem dX5_skipBlanks_32 : decode cX5_skipBlanks 32 = .ok (.bipush 10, 2) := by decide +kernel
theorem dX5_skipBlanks_34 : decode cX5_skipBlanks 34 = .ok (.if_icmp .ne 16, 3) := by decide +kernel
theorem dX5_skipBlanks_37 : decode cX5_skipBlanks 37 = .ok (.aload_n 0, 1) := by decide +kernel
theorem dX5_skipBlanks_38 : decode cX5_skipBlanks 38 = .ok (.dup, 1) := by decide +kernel
theorem dX5_skipBlanks_39 : decode cX5_skipBlanks 39 = .ok (.getfield 22, 3) := by decide +kernel
theorem dX5_skipBlanks_42 : decode cX5_skipBlanks 42 = .ok (.iconst 1, 1) := by decide +kernel
theorem dX5_skipBlanks_43 : decode cX5_skipBlanks 43 = .ok (.iadd, 1) := by decide +kernel
theorem dX5_skipBlanks_44 : decode cX5_skipBlanks 44 = .ok (.putfield 22, 3) := by decide +kernel
theorem dX5_skipBlanks_47 : decode cX5_skipBlanks 47 = .ok (.goto (-47), 3) := by decide +kernel
theorem dX5_skipBlanks_50 : decode cX5_skipBlanks 50 = .ok (.return_, 1) := by decide +kernel
theorem dX5_takeToken_0 : decode cX5_takeToken 0 = .ok (.aload_n 1, 1) := by decide +kernel
theorem dX5_takeToken_1 : decode cX5_takeToken 1 = .ok (.aload_n 0, 1) := by decide +kernel
theorem dX5_takeToken_2 : decode cX5_takeToken 2 = .ok (.getfield 22, 3) := by decide +kernel
theorem dX5_takeToken_5 : decode cX5_takeToken 5 = .ok (.invokevirtual 65, 3) := by decide +kernel
theorem dX5_takeToken_8 : decode cX5_takeToken 8 = .ok (.istore_n 2, 1) := by decide +kernel
theorem dX5_takeToken_9 : decode cX5_takeToken 9 = .ok (.iload_n 2, 1) := by decide +kernel
theorem dX5_takeToken_10 : decode cX5_takeToken 10 = .ok (.bipush 59, 2) := by decide +kernel
theorem dX5_takeToken_12 : decode cX5_takeToken 12 = .ok (.if_icmp .ne 15, 3) := by decide +kernel
theorem dX5_takeToken_15 : decode cX5_takeToken 15 = .ok (.aload_n 0, 1) := by decide +kernel
theorem dX5_takeToken_16 : decode cX5_takeToken 16 = .ok (.dup, 1) := by decide +kernel
theorem dX5_takeToken_17 : decode cX5_takeToken 17 = .ok (.getfield 22, 3) := by decide +kernel
theorem dX5_takeToken_20 : decode cX5_takeToken 20 = .ok (.iconst 1, 1) := by decide +kernel
theorem dX5_takeToken_21 : decode cX5_takeToken 21 = .ok (.iadd, 1) := by decide +kernel
theorem dX5_takeToken_22 : decode cX5_takeToken 22 = .ok (.putfield 22, 3) := by decide +kernel
theorem dX5_takeToken_25 : decode cX5_takeToken 25 = .ok (.lconst 0, 1) := by decide +kernel
theorem dX5_takeToken_26 : decode cX5_takeToken 26 = .ok (.lreturn, 1) := by decide +kernel
theorem dX5_takeToken_27 : decode cX5_takeToken 27 = .ok (.aload_n 0, 1) := by decide +kernel
theorem dX5_takeToken_28 : decode cX5_takeToken 28 = .ok (.getfield 22, 3) := by decide +kernel
theorem dX5_takeToken_31 : decode cX5_takeToken 31 = .ok (.istore_n 3, 1) := by decide +kernel
theorem dX5_takeToken_32 : decode cX5_takeToken 32 = .ok (.lconst 0, 1) := by decide +kernel
theorem dX5_takeToken_33 : decode cX5_takeToken 33 = .ok (.lstore 4, 2) := by decide +kernel
theorem dX5_takeToken_35 : decode cX5_takeToken 35 = .ok (.aload_n 0, 1) := by decide +kernel
theorem dX5_takeToken_36 : decode cX5_takeToken 36 = .ok (.getfield 22, 3) := by decide +kernel
theorem dX5_takeToken_39 : decode cX5_takeToken 39 = .ok (.aload_n 1, 1) := by decide +kernel
theorem dX5_takeToken_40 : decode cX5_takeToken 40 = .ok (.getfield 48, 3) := by decide +kernel
theorem dX5_takeToken_43 : decode cX5_takeToken 43 = .ok (.if_icmp .ge 53, 3) := by decide +kernel
theorem dX5_takeToken_46 : decode cX5_takeToken 46 = .ok (.aload_n 1, 1) := by decide +kernel
theorem dX5_takeToken_47 : decode cX5_takeToken 47 = .ok (.aload_n 0, 1) := by decide +kernel
theorem dX5_takeToken_48 : decode cX5_takeToken 48 = .ok (.getfield 22, 3) := by decide +kernel
theorem dX5_takeToken_51 : decode cX5_takeToken 51 = .ok (.invokevirtual 65, 3) := by decide +kernel
theorem dX5_takeToken_54 : decode cX5_takeToken 54 = .ok (.invokestatic 69, 3) := by decide +kernel
theorem dX5_takeToken_57 : decode cX5_takeToken 57 = .ok (.ifCond .eq 39, 3) := by decide +kernel
theorem dX5_takeToken_60 : decode cX5_takeToken 60 = .ok (.lload 4, 2) := by decide +kernel
theorem dX5_takeToken_62 : decode cX5_takeToken 62 = .ok (.ldc2_w 73, 3) := by decide +kernel
theorem dX5_takeToken_65 : decode cX5_takeToken 65 = .ok (.lmul, 1) := by decide +kernel
theorem dX5_takeToken_66 : decode cX5_takeToken 66 = .ok (.aload_n 1, 1) := by decide +kernel
theorem dX5_takeToken_67 : decode cX5_takeToken 67 = .ok (.aload_n 0, 1) := by decide +kernel
theorem dX5_takeToken_68 : decode cX5_takeToken 68 = .ok (.getfield 22, 3) := by decide +kernel
theorem dX5_takeToken_71 : decode cX5_takeToken 71 = .ok (.invokevirtual 65, 3) := by decide +kernel
theorem dX5_takeToken_74 : decode cX5_takeToken 74 = .ok (.bipush 97, 2) := by decide +kernel
theorem dX5_takeToken_76 : decode cX5_takeToken 76 = .ok (.isub, 1) := by decide +kernel
theorem dX5_takeToken_77 : decode cX5_takeToken 77 = .ok (.iconst 1, 1) := by decide +kernel
theorem dX5_takeToken_78 : decode cX5_takeToken 78 = .ok (.iadd, 1) := by decide +kernel
theorem dX5_takeToken_79 : decode cX5_takeToken 79 = .ok (.i2l, 1) := by decide +kernel
theorem dX5_takeToken_80 : decode cX5_takeToken 80 = .ok (.ladd, 1) := by decide +kernel
theorem dX5_takeToken_81 : decode cX5_takeToken 81 = .ok (.lstore 4, 2) := by decide +kernel
theorem dX5_takeToken_83 : decode cX5_takeToken 83 = .ok (.aload_n 0, 1) := by decide +kernel
theorem dX5_takeToken_84 : decode cX5_takeToken 84 = .ok (.dup, 1) := by decide +kernel
theorem dX5_takeToken_85 : decode cX5_takeToken 85 = .ok (.getfield 22, 3) := by decide +kernel
theorem dX5_takeToken_88 : decode cX5_takeToken 88 = .ok (.iconst 1, 1) := by decide +kernel
theorem dX5_takeToken_89 : decode cX5_takeToken 89 = .ok (.iadd, 1) := by decide +kernel
theorem dX5_takeToken_90 : decode cX5_takeToken 90 = .ok (.putfield 22, 3) := by decide +kernel
theorem dX5_takeToken_93 : decode cX5_takeToken 93 = .ok (.goto (-58), 3) := by decide +kernel
theorem dX5_takeToken_96 : decode cX5_takeToken 96 = .ok (.aload_n 0, 1) := by decide +kernel
theorem dX5_takeToken_97 : decode cX5_takeToken 97 = .ok (.getfield 22, 3) := by decide +kernel
theorem dX5_takeToken_100 : decode cX5_takeToken 100 = .ok (.iload_n 3, 1) := by decide +kernel
theorem dX5_takeToken_101 : decode cX5_takeToken 101 = .ok (.isub, 1) := by decide +kernel
theorem dX5_takeToken_102 : decode cX5_takeToken 102 = .ok (.istore 6, 2) := by decide +kernel
theorem dX5_takeToken_104 : decode cX5_takeToken 104 = .ok (.iload 6, 2) := by decide +kernel
theorem dX5_takeToken_106 : decode cX5_takeToken 106 = .ok (.iconst 1, 1) := by decide +kernel
theorem dX5_takeToken_107 : decode cX5_takeToken 107 = .ok (.if_icmp .lt 15, 3) := by decide +kernel
theorem dX5_takeToken_110 : decode cX5_takeToken 110 = .ok (.iload 6, 2) := by decide +kernel
theorem dX5_takeToken_112 : decode cX5_takeToken 112 = .ok (.bipush 7, 2) := by decide +kernel
theorem dX5_takeToken_114 : decode cX5_takeToken 114 = .ok (.if_icmp .gt 8, 3) := by decide +kernel
theorem dX5_takeToken_117 : decode cX5_takeToken 117 = .ok (.lload 4, 2) := by decide +kernel
theorem dX5_takeToken_119 : decode cX5_takeToken 119 = .ok (.goto 6, 3) := by decide +kernel
theorem dX5_takeToken_122 : decode cX5_takeToken 122 = .ok (.ldc2_w 75, 3) := by decide +kernel
theorem dX5_takeToken_125 : decode cX5_takeToken 125 = .ok (.lreturn, 1) := by decide +kernel
theorem dX5_accept_0 : decode cX5_accept 0 = .ok (.aload_n 0, 1) := by decide +kernel
theorem dX5_accept_1 : decode cX5_accept 1 = .ok (.getfield 29, 3) := by decide +kernel
theorem dX5_accept_4 : decode cX5_accept 4 = .ok (.tableswitch 50 0 3 #[32, 38, 44, 44], 32) := by decide +kernel
theorem dX5_accept_36 : decode cX5_accept 36 = .ok (.aload_n 0, 1) := by decide +kernel
theorem dX5_accept_37 : decode cX5_accept 37 = .ok (.lload_n 1, 1) := by decide +kernel
theorem dX5_accept_38 : decode cX5_accept 38 = .ok (.invokevirtual 77, 3) := by decide +kernel
theorem dX5_accept_41 : decode cX5_accept 41 = .ok (.ireturn, 1) := by decide +kernel
theorem dX5_accept_42 : decode cX5_accept 42 = .ok (.aload_n 0, 1) := by decide +kernel
theorem dX5_accept_43 : decode cX5_accept 43 = .ok (.lload_n 1, 1) := by decide +kernel
theorem dX5_accept_44 : decode cX5_accept 44 = .ok (.invokevirtual 80, 3) := by decide +kernel
theorem dX5_accept_47 : decode cX5_accept 47 = .ok (.ireturn, 1) := by decide +kernel
theorem dX5_accept_48 : decode cX5_accept 48 = .ok (.aload_n 0, 1) := by decide +kernel
theorem dX5_accept_49 : decode cX5_accept 49 = .ok (.lload_n 1, 1) := by decide +kernel
theorem dX5_accept_50 : decode cX5_accept 50 = .ok (.invokevirtual 83, 3) := by decide +kernel
theorem dX5_accept_53 : decode cX5_accept 53 = .ok (.ireturn, 1) := by decide +kernel
theorem dX5_accept_54 : decode cX5_accept 54 = .ok (.lload_n 1, 1) := by decide +kernel
theorem dX5_accept_55 : decode cX5_accept 55 = .ok (.lconst 0, 1) := by decide +kernel
theorem dX5_accept_56 : decode cX5_accept 56 = .ok (.lcmp, 1) := by decide +kernel
theorem dX5_accept_57 : decode cX5_accept 57 = .ok (.ifCond .eq 5, 3) := by decide +kernel
theorem dX5_accept_60 : decode cX5_accept 60 = .ok (.iconst 1, 1) := by decide +kernel
theorem dX5_accept_61 : decode cX5_accept 61 = .ok (.ireturn, 1) := by decide +kernel
theorem dX5_accept_62 : decode cX5_accept 62 = .ok (.aload_n 0, 1) := by decide +kernel
theorem dX5_accept_63 : decode cX5_accept 63 = .ok (.dup, 1) := by decide +kernel
theorem dX5_accept_64 : decode cX5_accept 64 = .ok (.getfield 26, 3) := by decide +kernel
theorem dX5_accept_67 : decode cX5_accept 67 = .ok (.iconst 1, 1) := by decide +kernel
theorem dX5_accept_68 : decode cX5_accept 68 = .ok (.iadd, 1) := by decide +kernel
theorem dX5_accept_69 : decode cX5_accept 69 = .ok (.putfield 26, 3) := by decide +kernel
theorem dX5_accept_72 : decode cX5_accept 72 = .ok (.aload_n 0, 1) := by decide +kernel
theorem dX5_accept_73 : decode cX5_accept 73 = .ok (.iconst 0, 1) := by decide +kernel
theorem dX5_accept_74 : decode cX5_accept 74 = .ok (.putfield 29, 3) := by decide +kernel
theorem dX5_accept_77 : decode cX5_accept 77 = .ok (.iconst 0, 1) := by decide +kernel
theorem dX5_accept_78 : decode cX5_accept 78 = .ok (.ireturn, 1) := by decide +kernel
theorem dX5_acceptRow_0 : decode cX5_acceptRow 0 = .ok (.lload_n 1, 1) := by decide +kernel
theorem dX5_acceptRow_1 : decode cX5_acceptRow 1 = .ok (.ldc2_w 86, 3) := by decide +kernel
theorem dX5_acceptRow_4 : decode cX5_acceptRow 4 = .ok (.lcmp, 1) := by decide +kernel
theorem dX5_acceptRow_5 : decode cX5_acceptRow 5 = .ok (.ifCond .ne 26, 3) := by decide +kernel
theorem dX5_acceptRow_8 : decode cX5_acceptRow 8 = .ok (.aload_n 0, 1) := by decide +kernel
theorem dX5_acceptRow_9 : decode cX5_acceptRow 9 = .ok (.iconst 1, 1) := by decide +kernel
theorem dX5_acceptRow_10 : decode cX5_acceptRow 10 = .ok (.putfield 29, 3) := by decide +kernel
theorem dX5_acceptRow_13 : decode cX5_acceptRow 13 = .ok (.aload_n 0, 1) := by decide +kernel
theorem dX5_acceptRow_14 : decode cX5_acceptRow 14 = .ok (.getfield 12, 3) := by decide +kernel
theorem dX5_acceptRow_17 : decode cX5_acceptRow 17 = .ok (.getfield 38, 3) := by decide +kernel
theorem dX5_acceptRow_20 : decode cX5_acceptRow 20 = .ok (.bipush 8, 2) := by decide +kernel
theorem dX5_acceptRow_22 : decode cX5_acceptRow 22 = .ok (.if_icmp .ge 7, 3) := by decide +kernel
theorem dX5_acceptRow_25 : decode cX5_acceptRow 25 = .ok (.iconst 0, 1) := by decide +kernel
theorem dX5_acceptRow_26 : decode cX5_acceptRow 26 = .ok (.goto 4, 3) := by decide +kernel
theorem dX5_acceptRow_29 : decode cX5_acceptRow 29 = .ok (.iconst 3, 1) := by decide +kernel
theorem dX5_acceptRow_30 : decode cX5_acceptRow 30 = .ok (.ireturn, 1) := by decide +kernel
theorem dX5_acceptRow_31 : decode cX5_acceptRow 31 = .ok (.lload_n 1, 1) := by decide +kernel
theorem dX5_acceptRow_32 : decode cX5_acceptRow 32 = .ok (.ldc2_w 88, 3) := by decide +kernel
theorem dX5_acceptRow_35 : decode cX5_acceptRow 35 = .ok (.lcmp, 1) := by decide +kernel
theorem dX5_acceptRow_36 : decode cX5_acceptRow 36 = .ok (.ifCond .ne 26, 3) := by decide +kernel
theorem dX5_acceptRow_39 : decode cX5_acceptRow 39 = .ok (.aload_n 0, 1) := by decide +kernel
theorem dX5_acceptRow_40 : decode cX5_acceptRow 40 = .ok (.iconst 2, 1) := by decide +kernel
theorem dX5_acceptRow_41 : decode cX5_acceptRow 41 = .ok (.putfield 29, 3) := by decide +kernel
theorem dX5_acceptRow_44 : decode cX5_acceptRow 44 = .ok (.aload_n 0, 1) := by decide +kernel
theorem dX5_acceptRow_45 : decode cX5_acceptRow 45 = .ok (.getfield 12, 3) := by decide +kernel
theorem dX5_acceptRow_48 : decode cX5_acceptRow 48 = .ok (.getfield 41, 3) := by decide +kernel
theorem dX5_acceptRow_51 : decode cX5_acceptRow 51 = .ok (.bipush 16, 2) := by decide +kernel
theorem dX5_acceptRow_53 : decode cX5_acceptRow 53 = .ok (.if_icmp .ge 7, 3) := by decide +kernel
theorem dX5_acceptRow_56 : decode cX5_acceptRow 56 = .ok (.iconst 0, 1) := by decide +kernel
theorem dX5_acceptRow_57 : decode cX5_acceptRow 57 = .ok (.goto 4, 3) := by decide +kernel
theorem dX5_acceptRow_60 : decode cX5_acceptRow 60 = .ok (.iconst 3, 1) := by decide +kernel
theorem dX5_acceptRow_61 : decode cX5_acceptRow 61 = .ok (.ireturn, 1) := by decide +kernel
theorem dX5_acceptRow_62 : decode cX5_acceptRow 62 = .ok (.iconst 1, 1) := by decide +kernel
theorem dX5_acceptRow_63 : decode cX5_acceptRow 63 = .ok (.ireturn, 1) := by decide +kernel
theorem dX5_acceptName_0 : decode cX5_acceptName 0 = .ok (.lload_n 1, 1) := by decide +kernel
theorem dX5_acceptName_1 : decode cX5_acceptName 1 = .ok (.invokestatic 90, 3) := by decide +kernel
theorem dX5_acceptName_4 : decode cX5_acceptName 4 = .ok (.ifCond .ne 5, 3) := by decide +kernel
theorem dX5_acceptName_7 : decode cX5_acceptName 7 = .ok (.iconst 1, 1) := by decide +kernel
theorem dX5_acceptName_8 : decode cX5_acceptName 8 = .ok (.ireturn, 1) := by decide +kernel
theorem dX5_acceptName_9 : decode cX5_acceptName 9 = .ok (.aload_n 0, 1) := by decide +kernel
theorem dX5_acceptName_10 : decode cX5_acceptName 10 = .ok (.lload_n 1, 1) := by decide +kernel
theorem dX5_acceptName_11 : decode cX5_acceptName 11 = .ok (.invokevirtual 94, 3) := by decide +kernel
theorem dX5_acceptName_14 : decode cX5_acceptName 14 = .ok (.iconst (-1), 1) := by decide +kernel
theorem dX5_acceptName_15 : decode cX5_acceptName 15 = .ok (.if_icmp .eq 5, 3) := by decide +kernel
theorem dX5_acceptName_18 : decode cX5_acceptName 18 = .ok (.iconst 2, 1) := by decide +kernel
theorem dX5_acceptName_19 : decode cX5_acceptName 19 = .ok (.ireturn, 1) := by decide +kernel
theorem dX5_acceptName_20 : decode cX5_acceptName 20 = .ok (.aload_n 0, 1) := by decide +kernel
theorem dX5_acceptName_21 : decode cX5_acceptName 21 = .ok (.getfield 12, 3) := by decide +kernel
theorem dX5_acceptName_24 : decode cX5_acceptName 24 = .ok (.getfield 38, 3) := by decide +kernel
theorem dX5_acceptName_27 : decode cX5_acceptName 27 = .ok (.bipush 8, 2) := by decide +kernel
theorem dX5_acceptName_29 : decode cX5_acceptName 29 = .ok (.if_icmp .ge 29, 3) := by decide +kernel
theorem dX5_acceptName_32 : decode cX5_acceptName 32 = .ok (.aload_n 0, 1) := by decide +kernel
theorem dX5_acceptName_33 : decode cX5_acceptName 33 = .ok (.getfield 18, 3) := by decide +kernel
theorem dX5_acceptName_36 : decode cX5_acceptName 36 = .ok (.aload_n 0, 1) := by decide +kernel
theorem dX5_acceptName_37 : decode cX5_acceptName 37 = .ok (.getfield 12, 3) := by decide +kernel
theorem dX5_acceptName_40 : decode cX5_acceptName 40 = .ok (.getfield 38, 3) := by decide +kernel
theorem dX5_acceptName_43 : decode cX5_acceptName 43 = .ok (.lload_n 1, 1) := by decide +kernel
theorem dX5_acceptName_44 : decode cX5_acceptName 44 = .ok (.lastore, 1) := by decide +kernel
theorem dX5_acceptName_45 : decode cX5_acceptName 45 = .ok (.aload_n 0, 1) := by decide +kernel
theorem dX5_acceptName_46 : decode cX5_acceptName 46 = .ok (.getfield 12, 3) := by decide +kernel
theorem dX5_acceptName_49 : decode cX5_acceptName 49 = .ok (.dup, 1) := by decide +kernel
theorem dX5_acceptName_50 : decode cX5_acceptName 50 = .ok (.getfield 38, 3) := by decide +kernel
theorem dX5_acceptName_53 : decode cX5_acceptName 53 = .ok (.iconst 1, 1) := by decide +kernel
theorem dX5_acceptName_54 : decode cX5_acceptName 54 = .ok (.iadd, 1) := by decide +kernel
theorem dX5_acceptName_55 : decode cX5_acceptName 55 = .ok (.putfield 38, 3) := by decide +kernel
theorem dX5_acceptName_58 : decode cX5_acceptName 58 = .ok (.aload_n 0, 1) := by decide +kernel
theorem dX5_acceptName_59 : decode cX5_acceptName 59 = .ok (.iconst 4, 1) := by decide +kernel
theorem dX5_acceptName_60 : decode cX5_acceptName 60 = .ok (.putfield 29, 3) := by decide +kernel
theorem dX5_acceptName_63 : decode cX5_acceptName 63 = .ok (.iconst 0, 1) := by decide +kernel
theorem dX5_acceptName_64 : decode cX5_acceptName 64 = .ok (.ireturn, 1) := by decide +kernel
theorem dX5_acceptPoint_0 : decode cX5_acceptPoint 0 = .ok (.lload_n 1, 1) := by decide +kernel
theorem dX5_acceptPoint_1 : decode cX5_acceptPoint 1 = .ok (.invokestatic 90, 3) := by decide +kernel
theorem dX5_acceptPoint_4 : decode cX5_acceptPoint 4 = .ok (.ifCond .ne 5, 3) := by decide +kernel
theorem dX5_acceptPoint_7 : decode cX5_acceptPoint 7 = .ok (.iconst 1, 1) := by decide +kernel
theorem dX5_acceptPoint_8 : decode cX5_acceptPoint 8 = .ok (.ireturn, 1) := by decide +kernel
theorem dX5_acceptPoint_9 : decode cX5_acceptPoint 9 = .ok (.aload_n 0, 1) := by decide +kernel
theorem dX5_acceptPoint_10 : decode cX5_acceptPoint 10 = .ok (.lload_n 1, 1) := by decide +kernel
theorem dX5_acceptPoint_11 : decode cX5_acceptPoint 11 = .ok (.invokevirtual 94, 3) := by decide +kernel
theorem dX5_acceptPoint_14 : decode cX5_acceptPoint 14 = .ok (.istore_n 3, 1) := by decide +kernel
theorem dX5_acceptPoint_15 : decode cX5_acceptPoint 15 = .ok (.iload_n 3, 1) := by decide +kernel
theorem dX5_acceptPoint_16 : decode cX5_acceptPoint 16 = .ok (.iconst (-1), 1) := by decide +kernel
theorem dX5_acceptPoint_17 : decode cX5_acceptPoint 17 = .ok (.if_icmp .ne 5, 3) := by decide +kernel
theorem dX5_acceptPoint_20 : decode cX5_acceptPoint 20 = .ok (.iconst 2, 1) := by decide +kernel
theorem dX5_acceptPoint_21 : decode cX5_acceptPoint 21 = .ok (.ireturn, 1) := by decide +kernel
theorem dX5_acceptPoint_22 : decode cX5_acceptPoint 22 = .ok (.aload_n 0, 1) := by decide +kernel
theorem dX5_acceptPoint_23 : decode cX5_acceptPoint 23 = .ok (.getfield 29, 3) := by decide +kernel
theorem dX5_acceptPoint_26 : decode cX5_acceptPoint 26 = .ok (.iconst 2, 1) := by decide +kernel
theorem dX5_acceptPoint_27 : decode cX5_acceptPoint 27 = .ok (.if_icmp .ne 16, 3) := by decide +kernel
theorem dX5_acceptPoint_30 : decode cX5_acceptPoint 30 = .ok (.aload_n 0, 1) := by decide +kernel
theorem dX5_acceptPoint_31 : decode cX5_acceptPoint 31 = .ok (.iload_n 3, 1) := by decide +kernel
theorem dX5_acceptPoint_32 : decode cX5_acceptPoint 32 = .ok (.putfield 32, 3) := by decide +kernel
theorem dX5_acceptPoint_35 : decode cX5_acceptPoint 35 = .ok (.aload_n 0, 1) := by decide +kernel
theorem dX5_acceptPoint_36 : decode cX5_acceptPoint 36 = .ok (.iconst 3, 1) := by decide +kernel
theorem dX5_acceptPoint_37 : decode cX5_acceptPoint 37 = .ok (.putfield 29, 3) := by decide +kernel
theorem dX5_acceptPoint_40 : decode cX5_acceptPoint 40 = .ok (.goto 20, 3) := by decide +kernel
theorem dX5_acceptPoint_43 : decode cX5_acceptPoint 43 = .ok (.aload_n 0, 1) := by decide +kernel
theorem dX5_acceptPoint_44 : decode cX5_acceptPoint 44 = .ok (.getfield 12, 3) := by decide +kernel
theorem dX5_acceptPoint_47 : decode cX5_acceptPoint 47 = .ok (.aload_n 0, 1) := by decide +kernel
theorem dX5_acceptPoint_48 : decode cX5_acceptPoint 48 = .ok (.getfield 32, 3) := by decide +kernel
theorem dX5_acceptPoint_51 : decode cX5_acceptPoint 51 = .ok (.iload_n 3, 1) := by decide +kernel
theorem dX5_acceptPoint_52 : decode cX5_acceptPoint 52 = .ok (.invokevirtual 97, 3) := by decide +kernel
theorem dX5_acceptPoint_55 : decode cX5_acceptPoint 55 = .ok (.aload_n 0, 1) := by decide +kernel
theorem dX5_acceptPoint_56 : decode cX5_acceptPoint 56 = .ok (.iconst 4, 1) := by decide +kernel
theorem dX5_acceptPoint_57 : decode cX5_acceptPoint 57 = .ok (.putfield 29, 3) := by decide +kernel
theorem dX5_acceptPoint_60 : decode cX5_acceptPoint 60 = .ok (.iconst 0, 1) := by decide +kernel
theorem dX5_acceptPoint_61 : decode cX5_acceptPoint 61 = .ok (.ireturn, 1) := by decide +kernel
theorem dX5_isName_0 : decode cX5_isName 0 = .ok (.lload_n 0, 1) := by decide +kernel
theorem dX5_isName_1 : decode cX5_isName 1 = .ok (.lconst 0, 1) := by decide +kernel
theorem dX5_isName_2 : decode cX5_isName 2 = .ok (.lcmp, 1) := by decide +kernel
theorem dX5_isName_3 : decode cX5_isName 3 = .ok (.ifCond .le 23, 3) := by decide +kernel
theorem dX5_isName_6 : decode cX5_isName 6 = .ok (.lload_n 0, 1) := by decide +kernel
theorem dX5_isName_7 : decode cX5_isName 7 = .ok (.ldc2_w 86, 3) := by decide +kernel
theorem dX5_isName_10 : decode cX5_isName 10 = .ok (.lcmp, 1) := by decide +kernel
theorem dX5_isName_11 : decode cX5_isName 11 = .ok (.ifCond .eq 15, 3) := by decide +kernel
theorem dX5_isName_14 : decode cX5_isName 14 = .ok (.lload_n 0, 1) := by decide +kernel
theorem dX5_isName_15 : decode cX5_isName 15 = .ok (.ldc2_w 88, 3) := by decide +kernel
theorem dX5_isName_18 : decode cX5_isName 18 = .ok (.lcmp, 1) := by decide +kernel
theorem dX5_isName_19 : decode cX5_isName 19 = .ok (.ifCond .eq 7, 3) := by decide +kernel
theorem dX5_isName_22 : decode cX5_isName 22 = .ok (.iconst 1, 1) := by decide +kernel
theorem dX5_isName_23 : decode cX5_isName 23 = .ok (.goto 4, 3) := by decide +kernel
theorem dX5_isName_26 : decode cX5_isName 26 = .ok (.iconst 0, 1) := by decide +kernel
theorem dX5_isName_27 : decode cX5_isName 27 = .ok (.ireturn, 1) := by decide +kernel
theorem dX5_find_0 : decode cX5_find 0 = .ok (.iconst 0, 1) := by decide +kernel
theorem dX5_find_1 : decode cX5_find 1 = .ok (.istore_n 3, 1) := by decide +kernel
theorem dX5_find_2 : decode cX5_find 2 = .ok (.iload_n 3, 1) := by decide +kernel
theorem dX5_find_3 : decode cX5_find 3 = .ok (.aload_n 0, 1) := by decide +kernel
theorem dX5_find_4 : decode cX5_find 4 = .ok (.getfield 12, 3) := by decide +kernel
theorem dX5_find_7 : decode cX5_find 7 = .ok (.getfield 38, 3) := by decide +kernel
theorem dX5_find_10 : decode cX5_find 10 = .ok (.if_icmp .ge 28, 3) := by decide +kernel
theorem dX5_find_13 : decode cX5_find 13 = .ok (.iload_n 3, 1) := by decide +kernel
theorem dX5_find_14 : decode cX5_find 14 = .ok (.bipush 8, 2) := by decide +kernel
theorem dX5_find_16 : decode cX5_find 16 = .ok (.if_icmp .ge 22, 3) := by decide +kernel
theorem dX5_find_19 : decode cX5_find 19 = .ok (.aload_n 0, 1) := by decide +kernel
theorem dX5_find_20 : decode cX5_find 20 = .ok (.getfield 18, 3) := by decide +kernel
theorem dX5_find_23 : decode cX5_find 23 = .ok (.iload_n 3, 1) := by decide +kernel
theorem dX5_find_24 : decode cX5_find 24 = .ok (.laload, 1) := by decide +kernel
theorem dX5_find_25 : decode cX5_find 25 = .ok (.lload_n 1, 1) := by decide +kernel
theorem dX5_find_26 : decode cX5_find 26 = .ok (.lcmp, 1) := by decide +kernel
theorem dX5_find_27 : decode cX5_find 27 = .ok (.ifCond .ne 5, 3) := by decide +kernel
theorem dX5_find_30 : decode cX5_find 30 = .ok (.iload_n 3, 1) := by decide +kernel
theorem dX5_find_31 : decode cX5_find 31 = .ok (.ireturn, 1) := by decide +kernel
theorem dX5_find_32 : decode cX5_find 32 = .ok (.iinc 3 1, 3) := by decide +kernel
theorem dX5_find_35 : decode cX5_find 35 = .ok (.goto (-33), 3) := by decide +kernel
theorem dX5_find_38 : decode cX5_find 38 = .ok (.iconst (-1), 1) := by decide +kernel
theorem dX5_find_39 : decode cX5_find 39 = .ok (.ireturn, 1) := by decide +kernel
theorem dX6_init_0 : decode cX6_init 0 = .ok (.aload_n 0, 1) := by decide +kernel
theorem dX6_init_1 : decode cX6_init 1 = .ok (.invokespecial 3, 3) := by decide +kernel
theorem dX6_init_4 : decode cX6_init 4 = .ok (.aload_n 0, 1) := by decide +kernel
theorem dX6_init_5 : decode cX6_init 5 = .ok (.new 9, 3) := by decide +kernel
theorem dX6_init_8 : decode cX6_init 8 = .ok (.dup, 1) := by decide +kernel
theorem dX6_init_9 : decode cX6_init 9 = .ok (.invokespecial 11, 3) := by decide +kernel
theorem dX6_init_12 : decode cX6_init 12 = .ok (.putfield 12, 3) := by decide +kernel
theorem dX6_init_15 : decode cX6_init 15 = .ok (.aload_n 0, 1) := by decide +kernel
theorem dX6_init_16 : decode cX6_init 16 = .ok (.bipush 8, 2) := by decide +kernel
theorem dX6_init_18 : decode cX6_init 18 = .ok (.newarray .int, 2) := by decide +kernel
theorem dX6_init_20 : decode cX6_init 20 = .ok (.putfield 18, 3) := by decide +kernel
theorem dX6_init_23 : decode cX6_init 23 = .ok (.aload_n 0, 1) := by decide +kernel
theorem dX6_init_24 : decode cX6_init 24 = .ok (.bipush 17, 2) := by decide +kernel
theorem dX6_init_26 : decode cX6_init 26 = .ok (.newarray .int, 2) := by decide +kernel
theorem dX6_init_28 : decode cX6_init 28 = .ok (.putfield 22, 3) := by decide +kernel
theorem dX6_init_31 : decode cX6_init 31 = .ok (.aload_n 0, 1) := by decide +kernel
theorem dX6_init_32 : decode cX6_init 32 = .ok (.bipush 17, 2) := by decide +kernel
theorem dX6_init_34 : decode cX6_init 34 = .ok (.newarray .int, 2) := by decide +kernel
theorem dX6_init_36 : decode cX6_init 36 = .ok (.putfield 25, 3) := by decide +kernel
theorem dX6_init_39 : decode cX6_init 39 = .ok (.aload_n 0, 1) := by decide +kernel
theorem dX6_init_40 : decode cX6_init 40 = .ok (.iconst 0, 1) := by decide +kernel
theorem dX6_init_41 : decode cX6_init 41 = .ok (.putfield 28, 3) := by decide +kernel
theorem dX6_init_44 : decode cX6_init 44 = .ok (.aload_n 0, 1) := by decide +kernel
theorem dX6_init_45 : decode cX6_init 45 = .ok (.iconst 0, 1) := by decide +kernel
theorem dX6_init_46 : decode cX6_init 46 = .ok (.putfield 32, 3) := by decide +kernel
theorem dX6_init_49 : decode cX6_init 49 = .ok (.aload_n 0, 1) := by decide +kernel
theorem dX6_init_50 : decode cX6_init 50 = .ok (.iconst 0, 1) := by decide +kernel
theorem dX6_init_51 : decode cX6_init 51 = .ok (.putfield 35, 3) := by decide +kernel
theorem dX6_init_54 : decode cX6_init 54 = .ok (.aload_n 0, 1) := by decide +kernel
theorem dX6_init_55 : decode cX6_init 55 = .ok (.lconst 0, 1) := by decide +kernel
theorem dX6_init_56 : decode cX6_init 56 = .ok (.putfield 38, 3) := by decide +kernel
theorem dX6_init_59 : decode cX6_init 59 = .ok (.aload_n 0, 1) := by decide +kernel
theorem dX6_init_60 : decode cX6_init 60 = .ok (.ldc2_w 42, 3) := by decide +kernel
theorem dX6_init_63 : decode cX6_init 63 = .ok (.putfield 44, 3) := by decide +kernel
theorem dX6_init_66 : decode cX6_init 66 = .ok (.return_, 1) := by decide +kernel
theorem dX6_seenAt_0 : decode cX6_seenAt 0 = .ok (.iload_n 1, 1) := by decide +kernel
theorem dX6_seenAt_1 : decode cX6_seenAt 1 = .ok (.ifCond .lt 20, 3) := by decide +kernel
theorem dX6_seenAt_4 : decode cX6_seenAt 4 = .ok (.iload_n 1, 1) := by decide +kernel
theorem dX6_seenAt_5 : decode cX6_seenAt 5 = .ok (.aload_n 0, 1) := by decide +kernel
theorem dX6_seenAt_6 : decode cX6_seenAt 6 = .ok (.getfield 35, 3) := by decide +kernel
theorem dX6_seenAt_9 : decode cX6_seenAt 9 = .ok (.if_icmp .ge 12, 3) := by decide +kernel
theorem dX6_seenAt_12 : decode cX6_seenAt 12 = .ok (.aload_n 0, 1) := by decide +kernel
theorem dX6_seenAt_13 : decode cX6_seenAt 13 = .ok (.getfield 25, 3) := by decide +kernel
theorem dX6_seenAt_16 : decode cX6_seenAt 16 = .ok (.iload_n 1, 1) := by decide +kernel
theorem dX6_seenAt_17 : decode cX6_seenAt 17 = .ok (.iaload, 1) := by decide +kernel
theorem dX6_seenAt_18 : decode cX6_seenAt 18 = .ok (.goto 4, 3) := by decide +kernel
theorem dX6_seenAt_21 : decode cX6_seenAt 21 = .ok (.iconst (-1), 1) := by decide +kernel
theorem dX6_seenAt_22 : decode cX6_seenAt 22 = .ok (.ireturn, 1) := by decide +kernel
theorem dX6_tell_0 : decode cX6_tell 0 = .ok (.aload_n 1, 1) := by decide +kernel
theorem dX6_tell_1 : decode cX6_tell 1 = .ok (.getfield 47, 3) := by decide +kernel
theorem dX6_tell_4 : decode cX6_tell 4 = .ok (.iconst 2, 1) := by decide +kernel
theorem dX6_tell_5 : decode cX6_tell 5 = .ok (.if_icmp .lt 12, 3) := by decide +kernel
theorem dX6_tell_8 : decode cX6_tell 8 = .ok (.aload_n 1, 1) := by decide +kernel
theorem dX6_tell_9 : decode cX6_tell 9 = .ok (.getfield 47, 3) := by decide +kernel
theorem dX6_tell_12 : decode cX6_tell 12 = .ok (.bipush 17, 2) := by decide +kernel
theorem dX6_tell_14 : decode cX6_tell 14 = .ok (.if_icmp .le 7, 3) := by decide +kernel
theorem dX6_tell_17 : decode cX6_tell 17 = .ok (.ldc2_w 42, 3) := by decide +kernel
theorem dX6_tell_20 : decode cX6_tell 20 = .ok (.lreturn, 1) := by decide +kernel
theorem dX6_tell_21 : decode cX6_tell 21 = .ok (.iconst 0, 1) := by decide +kernel
theorem dX6_tell_22 : decode cX6_tell 22 = .ok (.istore_n 2, 1) := by decide +kernel
theorem dX6_tell_23 : decode cX6_tell 23 = .ok (.iconst 0, 1) := by decide +kernel
theorem dX6_tell_24 : decode cX6_tell 24 = .ok (.istore_n 3, 1) := by decide +kernel
theorem dX6_tell_25 : decode cX6_tell 25 = .ok (.iload_n 3, 1) := by decide +kernel
theorem dX6_tell_26 : decode cX6_tell 26 = .ok (.aload_n 1, 1) := by decide +kernel
theorem dX6_tell_27 : decode cX6_tell 27 = .ok (.getfield 47, 3) := by decide +kernel
theorem dX6_tell_30 : decode cX6_tell 30 = .ok (.if_icmp .ge 38, 3) := by decide +kernel
theorem dX6_tell_33 : decode cX6_tell 33 = .ok (.aload_n 1, 1) := by decide +kernel
theorem dX6_tell_34 : decode cX6_tell 34 = .ok (.iload_n 3, 1) := by decide +kernel
theorem dX6_tell_35 : decode cX6_tell 35 = .ok (.invokevirtual 52, 3) := by decide +kernel
theorem dX6_tell_38 : decode cX6_tell 38 = .ok (.istore 4, 2) := by decide +kernel
theorem dX6_tell_40 : decode cX6_tell 40 = .ok (.iload 4, 2) := by decide +kernel
theorem dX6_tell_42 : decode cX6_tell 42 = .ok (.invokestatic 56, 3) := by decide +kernel
theorem dX6_tell_45 : decode cX6_tell 45 = .ok (.ifCond .ne 7, 3) := by decide +kernel
theorem dX6_tell_48 : decode cX6_tell 48 = .ok (.ldc2_w 42, 3) := by decide +kernel
theorem dX6_tell_51 : decode cX6_tell 51 = .ok (.lreturn, 1) := by decide +kernel
theorem dX6_tell_52 : decode cX6_tell 52 = .ok (.iload_n 2, 1) := by decide +kernel
theorem dX6_tell_53 : decode cX6_tell 53 = .ok (.iconst 1, 1) := by decide +kernel
theorem dX6_tell_54 : decode cX6_tell 54 = .ok (.iload 4, 2) := by decide +kernel
theorem dX6_tell_56 : decode cX6_tell 56 = .ok (.bipush 97, 2) := by decide +kernel
theorem dX6_tell_58 : decode cX6_tell 58 = .ok (.isub, 1) := by decide +kernel
theorem dX6_tell_59 : decode cX6_tell 59 = .ok (.ishl, 1) := by decide +kernel
theorem dX6_tell_60 : decode cX6_tell 60 = .ok (.ior, 1) := by decide +kernel
theorem dX6_tell_61 : decode cX6_tell 61 = .ok (.istore_n 2, 1) := by decide +kernel
theorem dX6_tell_62 : decode cX6_tell 62 = .ok (.iinc 3 1, 3) := by decide +kernel
theorem dX6_tell_65 : decode cX6_tell 65 = .ok (.goto (-40), 3) := by decide +kernel
theorem dX6_tell_68 : decode cX6_tell 68 = .ok (.iload_n 2, 1) := by decide +kernel
theorem dX6_tell_69 : decode cX6_tell 69 = .ok (.invokestatic 60, 3) := by decide +kernel
theorem dX6_tell_72 : decode cX6_tell 72 = .ok (.bipush 8, 2) := by decide +kernel
theorem dX6_tell_74 : decode cX6_tell 74 = .ok (.if_icmp .le 7, 3) := by decide +kernel
theorem dX6_tell_77 : decode cX6_tell 77 = .ok (.ldc2_w 42, 3) := by decide +kernel
theorem dX6_tell_80 : decode cX6_tell 80 = .ok (.lreturn, 1) := by decide +kernel
theorem dX6_tell_81 : decode cX6_tell 81 = .ok (.aload_n 0, 1) := by decide +kernel
theorem dX6_tell_82 : decode cX6_tell 82 = .ok (.iload_n 2, 1) := by decide +kernel
theorem dX6_tell_83 : decode cX6_tell 83 = .ok (.invokevirtual 65, 3) := by decide +kernel
theorem dX6_tell_86 : decode cX6_tell 86 = .ok (.aload_n 0, 1) := by decide +kernel
theorem dX6_tell_87 : decode cX6_tell 87 = .ok (.aload_n 1, 1) := by decide +kernel
theorem dX6_tell_88 : decode cX6_tell 88 = .ok (.getfield 47, 3) := by decide +kernel
theorem dX6_tell_91 : decode cX6_tell 91 = .ok (.putfield 32, 3) := by decide +kernel
theorem dX6_tell_94 : decode cX6_tell 94 = .ok (.iconst 0, 1) := by decide +kernel
theorem dX6_tell_95 : decode cX6_tell 95 = .ok (.istore_n 3, 1) := by decide +kernel
theorem dX6_tell_96 : decode cX6_tell 96 = .ok (.iload_n 3, 1) := by decide +kernel
theorem dX6_tell_97 : decode cX6_tell 97 = .ok (.aload_n 0, 1) := by decide +kernel
theorem dX6_tell_98 : decode cX6_tell 98 = .ok (.getfield 32, 3) := by decide +kernel
theorem dX6_tell_101 : decode cX6_tell 101 = .ok (.if_icmp .ge 24, 3) := by decide +kernel
theorem dX6_tell_104 : decode cX6_tell 104 = .ok (.aload_n 0, 1) := by decide +kernel
theorem dX6_tell_105 : decode cX6_tell 105 = .ok (.getfield 22, 3) := by decide +kernel
theorem dX6_tell_108 : decode cX6_tell 108 = .ok (.iload_n 3, 1) := by decide +kernel
theorem dX6_tell_109 : decode cX6_tell 109 = .ok (.aload_n 0, 1) := by decide +kernel
theorem dX6_tell_110 : decode cX6_tell 110 = .ok (.aload_n 1, 1) := by decide +kernel
theorem dX6_tell_111 : decode cX6_tell 111 = .ok (.iload_n 3, 1) := by decide +kernel
theorem dX6_tell_112 : decode cX6_tell 112 = .ok (.invokevirtual 52, 3) := by decide +kernel
theorem dX6_tell_115 : decode cX6_tell 115 = .ok (.invokevirtual 69, 3) := by decide +kernel
theorem dX6_tell_118 : decode cX6_tell 118 = .ok (.iastore, 1) := by decide +kernel
theorem dX6_tell_119 : decode cX6_tell 119 = .ok (.iinc 3 1, 3) := by decide +kernel
theorem dX6_tell_122 : decode cX6_tell 122 = .ok (.goto (-26), 3) := by decide +kernel
theorem dX6_tell_125 : decode cX6_tell 125 = .ok (.aload_n 0, 1) := by decide +kernel
theorem dX6_tell_126 : decode cX6_tell 126 = .ok (.invokevirtual 72, 3) := by decide +kernel
theorem dX6_tell_129 : decode cX6_tell 129 = .ok (.aload_n 0, 1) := by decide +kernel
theorem dX6_tell_130 : decode cX6_tell 130 = .ok (.aload_n 0, 1) := by decide +kernel
theorem dX6_tell_131 : decode cX6_tell 131 = .ok (.getfield 12, 3) := by decide +kernel
theorem dX6_tell_134 : decode cX6_tell 134 = .ok (.aload_n 0, 1) := by decide +kernel
theorem dX6_tell_135 : decode cX6_tell 135 = .ok (.invokevirtual 75, 3) := by decide +kernel
theorem dX6_tell_138 : decode cX6_tell 138 = .ok (.invokevirtual 79, 3) := by decide +kernel
theorem dX6_tell_141 : decode cX6_tell 141 = .ok (.putfield 38, 3) := by decide +kernel
theorem dX6_tell_144 : decode cX6_tell 144 = .ok (.aload_n 0, 1) := by decide +kernel
theorem dX6_tell_145 : decode cX6_tell 145 = .ok (.aload_n 0, 1) := by decide +kernel
theorem dX6_tell_146 : decode cX6_tell 146 = .ok (.invokevirtual 83, 3) := by decide +kernel
theorem dX6_tell_149 : decode cX6_tell 149 = .ok (.putfield 44, 3) := by decide +kernel
theorem dX6_tell_152 : decode cX6_tell 152 = .ok (.aload_n 0, 1) := by decide +kernel
theorem dX6_tell_153 : decode cX6_tell 153 = .ok (.getfield 38, 3) := by decide +kernel
theorem dX6_tell_156 : decode cX6_tell 156 = .ok (.lreturn, 1) := by decide +kernel
theorem dX6_takeLetters_0 : decode cX6_takeLetters 0 = .ok (.aload_n 0, 1) := by decide +kernel
theorem dX6_takeLetters_1 : decode cX6_takeLetters 1 = .ok (.iload_n 1, 1) := by decide +kernel
theorem dX6_takeLetters_2 : decode cX6_takeLetters 2 = .ok (.putfield 28, 3) := by decide +kernel
theorem dX6_takeLetters_5 : decode cX6_takeLetters 5 = .ok (.iconst 0, 1) := by decide +kernel
theorem dX6_takeLetters_6 : decode cX6_takeLetters 6 = .ok (.istore_n 2, 1) := by decide +kernel
theorem dX6_takeLetters_7 : decode cX6_takeLetters 7 = .ok (.iconst 0, 1) := by decide +kernel
theorem dX6_takeLetters_8 : decode cX6_takeLetters 8 = .ok (.istore_n 3, 1) := by decide +kernel
theorem dX6_takeLetters_9 : decode cX6_takeLetters 9 = .ok (.iload_n 3, 1) := by decide +kernel
theorem dX6_takeLetters_10 : decode cX6_takeLetters 10 = .ok (.bipush 26, 2) := by decide +kernel
theorem dX6_takeLetters_12 : decode cX6_takeLetters 12 = .ok (.if_icmp .ge 36, 3) := by decide +kernel
theorem dX6_takeLetters_15 : decode cX6_takeLetters 15 = .ok (.iload_n 1, 1) := by decide +kernel
theorem dX6_takeLetters_16 : decode cX6_takeLetters 16 = .ok (.iload_n 3, 1) := by decide +kernel
theorem dX6_takeLetters_17 : decode cX6_takeLetters 17 = .ok (.invokestatic 87, 3) := by decide +kernel
theorem dX6_takeLetters_20 : decode cX6_takeLetters 20 = .ok (.ifCond .eq 22, 3) := by decide +kernel
theorem dX6_takeLetters_23 : decode cX6_takeLetters 23 = .ok (.iload_n 2, 1) := by decide +kernel
theorem dX6_takeLetters_24 : decode cX6_takeLetters 24 = .ok (.bipush 8, 2) := by decide +kernel
theorem dX6_takeLetters_26 : decode cX6_takeLetters 26 = .ok (.if_icmp .ge 16, 3) := by decide +kernel
theorem dX6_takeLetters_29 : decode cX6_takeLetters 29 = .ok (.aload_n 0, 1) := by decide +kernel
theorem dX6_takeLetters_30 : decode cX6_takeLetters 30 = .ok (.getfield 18, 3) := by decide +kernel
theorem dX6_takeLetters_33 : decode cX6_takeLetters 33 = .ok (.iload_n 2, 1) := by decide +kernel
theorem dX6_takeLetters_34 : decode cX6_takeLetters 34 = .ok (.bipush 97, 2) := by decide +kernel
theorem dX6_takeLetters_36 : decode cX6_takeLetters 36 = .ok (.iload_n 3, 1) := by decide +kernel
theorem dX6_takeLetters_37 : decode cX6_takeLetters 37 = .ok (.iadd, 1) := by decide +kernel
theorem dX6_takeLetters_38 : decode cX6_takeLetters 38 = .ok (.iastore, 1) := by decide +kernel
theorem dX6_takeLetters_39 : decode cX6_takeLetters 39 = .ok (.iinc 2 1, 3) := by decide +kernel
theorem dX6_takeLetters_42 : decode cX6_takeLetters 42 = .ok (.iinc 3 1, 3) := by decide +kernel
theorem dX6_takeLetters_45 : decode cX6_takeLetters 45 = .ok (.goto (-36), 3) := by decide +kernel
theorem dX6_takeLetters_48 : decode cX6_takeLetters 48 = .ok (.return_, 1) := by decide +kernel
theorem dX6_indexOf_0 : decode cX6_indexOf 0 = .ok (.aload_n 0, 1) := by decide +kernel
theorem dX6_indexOf_1 : decode cX6_indexOf 1 = .ok (.getfield 28, 3) := by decide +kernel
theorem dX6_indexOf_4 : decode cX6_indexOf 4 = .ok (.iconst 1, 1) := by decide +kernel
theorem dX6_indexOf_5 : decode cX6_indexOf 5 = .ok (.iload_n 1, 1) := by decide +kernel
theorem dX6_indexOf_6 : decode cX6_indexOf 6 = .ok (.bipush 97, 2) := by decide +kernel
theorem dX6_indexOf_8 : decode cX6_indexOf 8 = .ok (.isub, 1) := by decide +kernel
theorem dX6_indexOf_9 : decode cX6_indexOf 9 = .ok (.ishl, 1) := by decide +kernel
theorem dX6_indexOf_10 : decode cX6_indexOf 10 = .ok (.iconst 1, 1) := by decide +kernel
theorem dX6_indexOf_11 : decode cX6_indexOf 11 = .ok (.isub, 1) := by decide +kernel
theorem dX6_indexOf_12 : decode cX6_indexOf 12 = .ok (.iand, 1) := by decide +kernel
theorem dX6_indexOf_13 : decode cX6_indexOf 13 = .ok (.invokestatic 60, 3) := by decide +kernel
theorem dX6_indexOf_16 : decode cX6_indexOf 16 = .ok (.ireturn, 1) := by decide +kernel
theorem dX6_goal_0 : decode cX6_goal 0 = .ok (.aload_n 0, 1) := by decide +kernel
theorem dX6_goal_1 : decode cX6_goal 1 = .ok (.getfield 32, 3) := by decide +kernel
theorem dX6_goal_4 : decode cX6_goal 4 = .ok (.ifCond .le 17, 3) := by decide +kernel
theorem dX6_goal_7 : decode cX6_goal 7 = .ok (.aload_n 0, 1) := by decide +kernel
theorem dX6_goal_8 : decode cX6_goal 8 = .ok (.getfield 22, 3) := by decide +kernel
theorem dX6_goal_11 : decode cX6_goal 11 = .ok (.aload_n 0, 1) := by decide +kernel
theorem dX6_goal_12 : decode cX6_goal 12 = .ok (.getfield 32, 3) := by decide +kernel
theorem dX6_goal_15 : decode cX6_goal 15 = .ok (.iconst 1, 1) := by decide +kernel
theorem dX6_goal_16 : decode cX6_goal 16 = .ok (.isub, 1) := by decide +kernel
theorem dX6_goal_17 : decode cX6_goal 17 = .ok (.iaload, 1) := by decide +kernel
theorem dX6_goal_18 : decode cX6_goal 18 = .ok (.goto 4, 3) := by decide +kernel
theorem dX6_goal_21 : decode cX6_goal 21 = .ok (.iconst 0, 1) := by decide +kernel
theorem dX6_goal_22 : decode cX6_goal 22 = .ok (.ireturn, 1) := by decide +kernel
theorem dX6_loadTold_0 : decode cX6_loadTold 0 = .ok (.aload_n 0, 1) := by decide +kernel
theorem dX6_loadTold_1 : decode cX6_loadTold 1 = .ok (.getfield 12, 3) := by decide +kernel
theorem dX6_loadTold_4 : decode cX6_loadTold 4 = .ok (.invokevirtual 91, 3) := by decide +kernel
theorem dX6_loadTold_7 : decode cX6_loadTold 7 = .ok (.iconst 0, 1) := by decide +kernel
theorem dX6_loadTold_8 : decode cX6_loadTold 8 = .ok (.istore_n 1, 1) := by decide +kernel
theorem dX6_loadTold_9 : decode cX6_loadTold 9 = .ok (.iload_n 1, 1) := by decide +kernel
theorem dX6_loadTold_10 : decode cX6_loadTold 10 = .ok (.iconst 1, 1) := by decide +kernel
theorem dX6_loadTold_11 : decode cX6_loadTold 11 = .ok (.iadd, 1) := by decide +kernel
theorem dX6_loadTold_12 : decode cX6_loadTold 12 = .ok (.aload_n 0, 1) := by decide +kernel
theorem dX6_loadTold_13 : decode cX6_loadTold 13 = .ok (.getfield 32, 3) := by decide +kernel
theorem dX6_loadTold_16 : decode cX6_loadTold 16 = .ok (.if_icmp .ge 31, 3) := by decide +kernel
theorem dX6_loadTold_19 : decode cX6_loadTold 19 = .ok (.aload_n 0, 1) := by decide +kernel
theorem dX6_loadTold_20 : decode cX6_loadTold 20 = .ok (.getfield 12, 3) := by decide +kernel
theorem dX6_loadTold_23 : decode cX6_loadTold 23 = .ok (.aload_n 0, 1) := by decide +kernel
theorem dX6_loadTold_24 : decode cX6_loadTold 24 = .ok (.getfield 22, 3) := by decide +kernel
theorem dX6_loadTold_27 : decode cX6_loadTold 27 = .ok (.iload_n 1, 1) := by decide +kernel
theorem dX6_loadTold_28 : decode cX6_loadTold 28 = .ok (.iaload, 1) := by decide +kernel
theorem dX6_loadTold_29 : decode cX6_loadTold 29 = .ok (.aload_n 0, 1) := by decide +kernel
theorem dX6_loadTold_30 : decode cX6_loadTold 30 = .ok (.getfield 22, 3) := by decide +kernel
theorem dX6_loadTold_33 : decode cX6_loadTold 33 = .ok (.iload_n 1, 1) := by decide +kernel
theorem dX6_loadTold_34 : decode cX6_loadTold 34 = .ok (.iconst 1, 1) := by decide +kernel
theorem dX6_loadTold_35 : decode cX6_loadTold 35 = .ok (.iadd, 1) := by decide +kernel
theorem dX6_loadTold_36 : decode cX6_loadTold 36 = .ok (.iaload, 1) := by decide +kernel
theorem dX6_loadTold_37 : decode cX6_loadTold 37 = .ok (.iconst 1, 1) := by decide +kernel
theorem dX6_loadTold_38 : decode cX6_loadTold 38 = .ok (.invokevirtual 94, 3) := by decide +kernel
theorem dX6_loadTold_41 : decode cX6_loadTold 41 = .ok (.iinc 1 1, 3) := by decide +kernel
theorem dX6_loadTold_44 : decode cX6_loadTold 44 = .ok (.goto (-35), 3) := by decide +kernel
theorem dX6_loadTold_47 : decode cX6_loadTold 47 = .ok (.return_, 1) := by decide +kernel
theorem dX6_countAhead_0 : decode cX6_countAhead 0 = .ok (.lconst 0, 1) := by decide +kernel
theorem dX6_countAhead_1 : decode cX6_countAhead 1 = .ok (.lstore_n 1, 1) := by decide +kernel
theorem dX6_countAhead_2 : decode cX6_countAhead 2 = .ok (.iconst 0, 1) := by decide +kernel
theorem dX6_countAhead_3 : decode cX6_countAhead 3 = .ok (.istore_n 3, 1) := by decide +kernel
theorem dX6_countAhead_4 : decode cX6_countAhead 4 = .ok (.iload_n 3, 1) := by decide +kernel
theorem dX6_countAhead_5 : decode cX6_countAhead 5 = .ok (.iconst 1, 1) := by decide +kernel
theorem dX6_countAhead_6 : decode cX6_countAhead 6 = .ok (.iadd, 1) := by decide +kernel
theorem dX6_countAhead_7 : decode cX6_countAhead 7 = .ok (.aload_n 0, 1) := by decide +kernel
theorem dX6_countAhead_8 : decode cX6_countAhead 8 = .ok (.getfield 32, 3) := by decide +kernel
theorem dX6_countAhead_11 : decode cX6_countAhead 11 = .ok (.if_icmp .ge 68, 3) := by decide +kernel
theorem dX6_countAhead_14 : decode cX6_countAhead 14 = .ok (.aload_n 0, 1) := by decide +kernel
theorem dX6_countAhead_15 : decode cX6_countAhead 15 = .ok (.getfield 22, 3) := by decide +kernel
theorem dX6_countAhead_18 : decode cX6_countAhead 18 = .ok (.iload_n 3, 1) := by decide +kernel
theorem dX6_countAhead_19 : decode cX6_countAhead 19 = .ok (.iaload, 1) := by decide +kernel
theorem dX6_countAhead_20 : decode cX6_countAhead 20 = .ok (.istore 4, 2) := by decide +kernel
theorem dX6_countAhead_22 : decode cX6_countAhead 22 = .ok (.iconst 0, 1) := by decide +kernel
theorem dX6_countAhead_23 : decode cX6_countAhead 23 = .ok (.istore 5, 2) := by decide +kernel
theorem dX6_countAhead_25 : decode cX6_countAhead 25 = .ok (.iload 5, 2) := by decide +kernel
theorem dX6_countAhead_27 : decode cX6_countAhead 27 = .ok (.aload_n 0, 1) := by decide +kernel
theorem dX6_countAhead_28 : decode cX6_countAhead 28 = .ok (.getfield 22, 3) := by decide +kernel
theorem dX6_countAhead_31 : decode cX6_countAhead 31 = .ok (.iload_n 3, 1) := by decide +kernel
theorem dX6_countAhead_32 : decode cX6_countAhead 32 = .ok (.iconst 1, 1) := by decide +kernel
theorem dX6_countAhead_33 : decode cX6_countAhead 33 = .ok (.iadd, 1) := by decide +kernel
theorem dX6_countAhead_34 : decode cX6_countAhead 34 = .ok (.iaload, 1) := by decide +kernel
theorem dX6_countAhead_35 : decode cX6_countAhead 35 = .ok (.if_icmp .ge 20, 3) := by decide +kernel
theorem dX6_countAhead_38 : decode cX6_countAhead 38 = .ok (.lload_n 1, 1) := by decide +kernel
theorem dX6_countAhead_39 : decode cX6_countAhead 39 = .ok (.aload_n 0, 1) := by decide +kernel
theorem dX6_countAhead_40 : decode cX6_countAhead 40 = .ok (.iload 4, 2) := by decide +kernel
theorem dX6_countAhead_42 : decode cX6_countAhead 42 = .ok (.iload 5, 2) := by decide +kernel
theorem dX6_countAhead_44 : decode cX6_countAhead 44 = .ok (.invokevirtual 98, 3) := by decide +kernel
theorem dX6_countAhead_47 : decode cX6_countAhead 47 = .ok (.ladd, 1) := by decide +kernel
theorem dX6_countAhead_48 : decode cX6_countAhead 48 = .ok (.lstore_n 1, 1) := by decide +kernel
theorem dX6_countAhead_49 : decode cX6_countAhead 49 = .ok (.iinc 5 1, 3) := by decide +kernel
theorem dX6_countAhead_52 : decode cX6_countAhead 52 = .ok (.goto (-27), 3) := by decide +kernel
theorem dX6_countAhead_55 : decode cX6_countAhead 55 = .ok (.aload_n 0, 1) := by decide +kernel
theorem dX6_countAhead_56 : decode cX6_countAhead 56 = .ok (.getfield 12, 3) := by decide +kernel
theorem dX6_countAhead_59 : decode cX6_countAhead 59 = .ok (.iload 4, 2) := by decide +kernel
theorem dX6_countAhead_61 : decode cX6_countAhead 61 = .ok (.aload_n 0, 1) := by decide +kernel
theorem dX6_countAhead_62 : decode cX6_countAhead 62 = .ok (.getfield 22, 3) := by decide +kernel
theorem dX6_countAhead_65 : decode cX6_countAhead 65 = .ok (.iload_n 3, 1) := by decide +kernel
theorem dX6_countAhead_66 : decode cX6_countAhead 66 = .ok (.iconst 1, 1) := by decide +kernel
theorem dX6_countAhead_67 : decode cX6_countAhead 67 = .ok (.iadd, 1) := by decide +kernel
theorem dX6_countAhead_68 : decode cX6_countAhead 68 = .ok (.iaload, 1) := by decide +kernel
theorem dX6_countAhead_69 : decode cX6_countAhead 69 = .ok (.iconst (-1), 1) := by decide +kernel
theorem dX6_countAhead_70 : decode cX6_countAhead 70 = .ok (.invokevirtual 94, 3) := by decide +kernel
theorem dX6_countAhead_73 : decode cX6_countAhead 73 = .ok (.iinc 3 1, 3) := by decide +kernel
theorem dX6_countAhead_76 : decode cX6_countAhead 76 = .ok (.goto (-72), 3) := by decide +kernel
theorem dX6_countAhead_79 : decode cX6_countAhead 79 = .ok (.lload_n 1, 1) := by decide +kernel
theorem dX6_countAhead_80 : decode cX6_countAhead 80 = .ok (.lreturn, 1) := by decide +kernel
theorem dX6_spellingsOver_0 : decode cX6_spellingsOver 0 = .ok (.aload_n 0, 1) := by decide +kernel
theorem dX6_spellingsOver_1 : decode cX6_spellingsOver 1 = .ok (.getfield 12, 3) := by decide +kernel
theorem dX6_spellingsOver_4 : decode cX6_spellingsOver 4 = .ok (.getfield 102, 3) := by decide +kernel
theorem dX6_spellingsOver_7 : decode cX6_spellingsOver 7 = .ok (.iload_n 1, 1) := by decide +kernel
theorem dX6_spellingsOver_8 : decode cX6_spellingsOver 8 = .ok (.aaload, 1) := by decide +kernel
theorem dX6_spellingsOver_9 : decode cX6_spellingsOver 9 = .ok (.iload_n 2, 1) := by decide +kernel
theorem dX6_spellingsOver_10 : decode cX6_spellingsOver 10 = .ok (.iaload, 1) := by decide +kernel
theorem dX6_spellingsOver_11 : decode cX6_spellingsOver 11 = .ok (.ifCond .ne 5, 3) := by decide +kernel
theorem dX6_spellingsOver_14 : decode cX6_spellingsOver 14 = .ok (.lconst 0, 1) := by decide +kernel
theorem dX6_spellingsOver_15 : decode cX6_spellingsOver 15 = .ok (.lreturn, 1) := by decide +kernel
theorem dX6_spellingsOver_16 : decode cX6_spellingsOver 16 = .ok (.aload_n 0, 1) := by decide +kernel
theorem dX6_spellingsOver_17 : decode cX6_spellingsOver 17 = .ok (.getfield 12, 3) := by decide +kernel
theorem dX6_spellingsOver_20 : decode cX6_spellingsOver 20 = .ok (.iload_n 1, 1) := by decide +kernel
theorem dX6_spellingsOver_21 : decode cX6_spellingsOver 21 = .ok (.iload_n 2, 1) := by decide +kernel
theorem dX6_spellingsOver_22 : decode cX6_spellingsOver 22 = .ok (.iconst (-1), 1) := by decide +kernel
theorem dX6_spellingsOver_23 : decode cX6_spellingsOver 23 = .ok (.invokevirtual 94, 3) := by decide +kernel
theorem dX6_spellingsOver_26 : decode cX6_spellingsOver 26 = .ok (.aload_n 0, 1) := by decide +kernel
theorem dX6_spellingsOver_27 : decode cX6_spellingsOver 27 = .ok (.getfield 12, 3) := by decide +kernel
theorem dX6_spellingsOver_30 : decode cX6_spellingsOver 30 = .ok (.aload_n 0, 1) := by decide +kernel
theorem dX6_spellingsOver_31 : decode cX6_spellingsOver 31 = .ok (.invokevirtual 75, 3) := by decide +kernel
theorem dX6_spellingsOver_34 : decode cX6_spellingsOver 34 = .ok (.invokevirtual 79, 3) := by decide +kernel
theorem dX6_spellingsOver_37 : decode cX6_spellingsOver 37 = .ok (.lstore_n 3, 1) := by decide +kernel
theorem dX6_spellingsOver_38 : decode cX6_spellingsOver 38 = .ok (.aload_n 0, 1) := by decide +kernel
theorem dX6_spellingsOver_39 : decode cX6_spellingsOver 39 = .ok (.getfield 12, 3) := by decide +kernel
theorem dX6_spellingsOver_42 : decode cX6_spellingsOver 42 = .ok (.iload_n 1, 1) := by decide +kernel
theorem dX6_spellingsOver_43 : decode cX6_spellingsOver 43 = .ok (.iload_n 2, 1) := by decide +kernel
theorem dX6_spellingsOver_44 : decode cX6_spellingsOver 44 = .ok (.iconst 1, 1) := by decide +kernel
theorem dX6_spellingsOver_45 : decode cX6_spellingsOver 45 = .ok (.invokevirtual 94, 3) := by decide +kernel
theorem dX6_spellingsOver_48 : decode cX6_spellingsOver 48 = .ok (.lload_n 3, 1) := by decide +kernel
theorem dX6_spellingsOver_49 : decode cX6_spellingsOver 49 = .ok (.lreturn, 1) := by decide +kernel
theorem dX6_lookAtRank_0 : decode cX6_lookAtRank 0 = .ok (.lload_n 1, 1) := by decide +kernel
theorem dX6_lookAtRank_1 : decode cX6_lookAtRank 1 = .ok (.lconst 0, 1) := by decide +kernel
theorem dX6_lookAtRank_2 : decode cX6_lookAtRank 2 = .ok (.lcmp, 1) := by decide +kernel
theorem dX6_lookAtRank_3 : decode cX6_lookAtRank 3 = .ok (.ifCond .lt 12, 3) := by decide +kernel
theorem dX6_lookAtRank_6 : decode cX6_lookAtRank 6 = .ok (.lload_n 1, 1) := by decide +kernel
theorem dX6_lookAtRank_7 : decode cX6_lookAtRank 7 = .ok (.aload_n 0, 1) := by decide +kernel
theorem dX6_lookAtRank_8 : decode cX6_lookAtRank 8 = .ok (.getfield 38, 3) := by decide +kernel
theorem dX6_lookAtRank_11 : decode cX6_lookAtRank 11 = .ok (.lcmp, 1) := by decide +kernel
theorem dX6_lookAtRank_12 : decode cX6_lookAtRank 12 = .ok (.ifCond .lt 5, 3) := by decide +kernel
theorem dX6_lookAtRank_15 : decode cX6_lookAtRank 15 = .ok (.iconst 0, 1) := by decide +kernel
theorem dX6_lookAtRank_16 : decode cX6_lookAtRank 16 = .ok (.ireturn, 1) := by decide +kernel
theorem dX6_lookAtRank_17 : decode cX6_lookAtRank 17 = .ok (.aload_n 0, 1) := by decide +kernel
theorem dX6_lookAtRank_18 : decode cX6_lookAtRank 18 = .ok (.invokevirtual 72, 3) := by decide +kernel
theorem dX6_lookAtRank_21 : decode cX6_lookAtRank 21 = .ok (.lload_n 1, 1) := by decide +kernel
theorem dX6_lookAtRank_22 : decode cX6_lookAtRank 22 = .ok (.lstore_n 3, 1) := by decide +kernel
theorem dX6_lookAtRank_23 : decode cX6_lookAtRank 23 = .ok (.aload_n 0, 1) := by decide +kernel
theorem dX6_lookAtRank_24 : decode cX6_lookAtRank 24 = .ok (.getfield 22, 3) := by decide +kernel
theorem dX6_lookAtRank_27 : decode cX6_lookAtRank 27 = .ok (.iconst 0, 1) := by decide +kernel
theorem dX6_lookAtRank_28 : decode cX6_lookAtRank 28 = .ok (.iaload, 1) := by decide +kernel
theorem dX6_lookAtRank_29 : decode cX6_lookAtRank 29 = .ok (.istore 5, 2) := by decide +kernel
theorem dX6_lookAtRank_31 : decode cX6_lookAtRank 31 = .ok (.aload_n 0, 1) := by decide +kernel
theorem dX6_lookAtRank_32 : decode cX6_lookAtRank 32 = .ok (.getfield 25, 3) := by decide +kernel
theorem dX6_lookAtRank_35 : decode cX6_lookAtRank 35 = .ok (.iconst 0, 1) := by decide +kernel
theorem dX6_lookAtRank_36 : decode cX6_lookAtRank 36 = .ok (.aload_n 0, 1) := by decide +kernel
theorem dX6_lookAtRank_37 : decode cX6_lookAtRank 37 = .ok (.getfield 18, 3) := by decide +kernel
theorem dX6_lookAtRank_40 : decode cX6_lookAtRank 40 = .ok (.iload 5, 2) := by decide +kernel
theorem dX6_lookAtRank_42 : decode cX6_lookAtRank 42 = .ok (.iaload, 1) := by decide +kernel
theorem dX6_lookAtRank_43 : decode cX6_lookAtRank 43 = .ok (.iastore, 1) := by decide +kernel
theorem dX6_lookAtRank_44 : decode cX6_lookAtRank 44 = .ok (.iconst 1, 1) := by decide +kernel
theorem dX6_lookAtRank_45 : decode cX6_lookAtRank 45 = .ok (.istore 6, 2) := by decide +kernel
theorem dX6_lookAtRank_47 : decode cX6_lookAtRank 47 = .ok (.iload 6, 2) := by decide +kernel
theorem dX6_lookAtRank_49 : decode cX6_lookAtRank 49 = .ok (.aload_n 0, 1) := by decide +kernel
theorem dX6_lookAtRank_50 : decode cX6_lookAtRank 50 = .ok (.getfield 32, 3) := by decide +kernel
theorem dX6_lookAtRank_53 : decode cX6_lookAtRank 53 = .ok (.if_icmp .ge 89, 3) := by decide +kernel
theorem dX6_lookAtRank_56 : decode cX6_lookAtRank 56 = .ok (.iconst 0, 1) := by decide +kernel
theorem dX6_lookAtRank_57 : decode cX6_lookAtRank 57 = .ok (.istore 7, 2) := by decide +kernel
theorem dX6_lookAtRank_59 : decode cX6_lookAtRank 59 = .ok (.aload_n 0, 1) := by decide +kernel
theorem dX6_lookAtRank_60 : decode cX6_lookAtRank 60 = .ok (.iload 5, 2) := by decide +kernel
theorem dX6_lookAtRank_62 : decode cX6_lookAtRank 62 = .ok (.iload 7, 2) := by decide +kernel
theorem dX6_lookAtRank_64 : decode cX6_lookAtRank 64 = .ok (.invokevirtual 98, 3) := by decide +kernel
theorem dX6_lookAtRank_67 : decode cX6_lookAtRank 67 = .ok (.lstore 8, 2) := by decide +kernel
theorem dX6_lookAtRank_69 : decode cX6_lookAtRank 69 = .ok (.lload_n 3, 1) := by decide +kernel
theorem dX6_lookAtRank_70 : decode cX6_lookAtRank 70 = .ok (.lload 8, 2) := by decide +kernel
theorem dX6_lookAtRank_72 : decode cX6_lookAtRank 72 = .ok (.lcmp, 1) := by decide +kernel
theorem dX6_lookAtRank_73 : decode cX6_lookAtRank 73 = .ok (.ifCond .lt 33, 3) := by decide +kernel
theorem dX6_lookAtRank_76 : decode cX6_lookAtRank 76 = .ok (.iload 7, 2) := by decide +kernel
theorem dX6_lookAtRank_78 : decode cX6_lookAtRank 78 = .ok (.iconst 1, 1) := by decide +kernel
theorem dX6_lookAtRank_79 : decode cX6_lookAtRank 79 = .ok (.iadd, 1) := by decide +kernel
theorem dX6_lookAtRank_80 : decode cX6_lookAtRank 80 = .ok (.bipush 8, 2) := by decide +kernel
theorem dX6_lookAtRank_82 : decode cX6_lookAtRank 82 = .ok (.if_icmp .ge 24, 3) := by decide +kernel
theorem dX6_lookAtRank_85 : decode cX6_lookAtRank 85 = .ok (.lload_n 3, 1) := by decide +kernel
theorem dX6_lookAtRank_86 : decode cX6_lookAtRank 86 = .ok (.lload 8, 2) := by decide +kernel
theorem dX6_lookAtRank_88 : decode cX6_lookAtRank 88 = .ok (.lsub, 1) := by decide +kernel
theorem dX6_lookAtRank_89 : decode cX6_lookAtRank 89 = .ok (.lstore_n 3, 1) := by decide +kernel
theorem dX6_lookAtRank_90 : decode cX6_lookAtRank 90 = .ok (.iinc 7 1, 3) := by decide +kernel
theorem dX6_lookAtRank_93 : decode cX6_lookAtRank 93 = .ok (.aload_n 0, 1) := by decide +kernel
theorem dX6_lookAtRank_94 : decode cX6_lookAtRank 94 = .ok (.iload 5, 2) := by decide +kernel
theorem dX6_lookAtRank_96 : decode cX6_lookAtRank 96 = .ok (.iload 7, 2) := by decide +kernel
theorem dX6_lookAtRank_98 : decode cX6_lookAtRank 98 = .ok (.invokevirtual 98, 3) := by decide +kernel
theorem dX6_lookAtRank_101 : decode cX6_lookAtRank 101 = .ok (.lstore 8, 2) := by decide +kernel
theorem dX6_lookAtRank_103 : decode cX6_lookAtRank 103 = .ok (.goto (-34), 3) := by decide +kernel
theorem dX6_lookAtRank_106 : decode cX6_lookAtRank 106 = .ok (.aload_n 0, 1) := by decide +kernel
theorem dX6_lookAtRank_107 : decode cX6_lookAtRank 107 = .ok (.getfield 12, 3) := by decide +kernel
theorem dX6_lookAtRank_110 : decode cX6_lookAtRank 110 = .ok (.iload 5, 2) := by decide +kernel
theorem dX6_lookAtRank_112 : decode cX6_lookAtRank 112 = .ok (.iload 7, 2) := by decide +kernel
theorem dX6_lookAtRank_114 : decode cX6_lookAtRank 114 = .ok (.iconst (-1), 1) := by decide +kernel
theorem dX6_lookAtRank_115 : decode cX6_lookAtRank 115 = .ok (.invokevirtual 94, 3) := by decide +kernel
theorem dX6_lookAtRank_118 : decode cX6_lookAtRank 118 = .ok (.iload 7, 2) := by decide +kernel
theorem dX6_lookAtRank_120 : decode cX6_lookAtRank 120 = .ok (.istore 5, 2) := by decide +kernel
theorem dX6_lookAtRank_122 : decode cX6_lookAtRank 122 = .ok (.aload_n 0, 1) := by decide +kernel
theorem dX6_lookAtRank_123 : decode cX6_lookAtRank 123 = .ok (.getfield 25, 3) := by decide +kernel
theorem dX6_lookAtRank_126 : decode cX6_lookAtRank 126 = .ok (.iload 6, 2) := by decide +kernel
theorem dX6_lookAtRank_128 : decode cX6_lookAtRank 128 = .ok (.aload_n 0, 1) := by decide +kernel
theorem dX6_lookAtRank_129 : decode cX6_lookAtRank 129 = .ok (.getfield 18, 3) := by decide +kernel
theorem dX6_lookAtRank_132 : decode cX6_lookAtRank 132 = .ok (.iload 5, 2) := by decide +kernel
theorem dX6_lookAtRank_134 : decode cX6_lookAtRank 134 = .ok (.iaload, 1) := by decide +kernel
theorem dX6_lookAtRank_135 : decode cX6_lookAtRank 135 = .ok (.iastore, 1) := by decide +kernel
theorem dX6_lookAtRank_136 : decode cX6_lookAtRank 136 = .ok (.iinc 6 1, 3) := by decide +kernel
theorem dX6_lookAtRank_139 : decode cX6_lookAtRank 139 = .ok (.goto (-92), 3) := by decide +kernel
theorem dX6_lookAtRank_142 : decode cX6_lookAtRank 142 = .ok (.aload_n 0, 1) := by decide +kernel
theorem dX6_lookAtRank_143 : decode cX6_lookAtRank 143 = .ok (.aload_n 0, 1) := by decide +kernel
theorem dX6_lookAtRank_144 : decode cX6_lookAtRank 144 = .ok (.getfield 32, 3) := by decide +kernel
theorem dX6_lookAtRank_147 : decode cX6_lookAtRank 147 = .ok (.putfield 35, 3) := by decide +kernel
theorem dX6_lookAtRank_150 : decode cX6_lookAtRank 150 = .ok (.iconst 1, 1) := by decide +kernel
theorem dX6_lookAtRank_151 : decode cX6_lookAtRank 151 = .ok (.ireturn, 1) := by decide +kernel
theorem dX7_init_0 : decode cX7_init 0 = .ok (.aload_n 0, 1) := by decide +kernel
theorem dX7_init_1 : decode cX7_init 1 = .ok (.invokespecial 3, 3) := by decide +kernel
theorem dX7_init_4 : decode cX7_init 4 = .ok (.aload_n 0, 1) := by decide +kernel
theorem dX7_init_5 : decode cX7_init 5 = .ok (.sipush 540, 3) := by decide +kernel
theorem dX7_init_8 : decode cX7_init 8 = .ok (.newarray .int, 2) := by decide +kernel
theorem dX7_init_10 : decode cX7_init 10 = .ok (.putfield 9, 3) := by decide +kernel
theorem dX7_init_13 : decode cX7_init 13 = .ok (.aload_n 0, 1) := by decide +kernel
theorem dX7_init_14 : decode cX7_init 14 = .ok (.iconst 0, 1) := by decide +kernel
theorem dX7_init_15 : decode cX7_init 15 = .ok (.putfield 15, 3) := by decide +kernel
theorem dX7_init_18 : decode cX7_init 18 = .ok (.return_, 1) := by decide +kernel
theorem dX7_push_0 : decode cX7_push 0 = .ok (.bipush 24, 2) := by decide +kernel
theorem dX7_push_2 : decode cX7_push 2 = .ok (.istore_n 2, 1) := by decide +kernel
theorem dX7_push_3 : decode cX7_push 3 = .ok (.iload_n 2, 1) := by decide +kernel
theorem dX7_push_4 : decode cX7_push 4 = .ok (.ifCond .lt 45, 3) := by decide +kernel
theorem dX7_push_7 : decode cX7_push 7 = .ok (.aload_n 0, 1) := by decide +kernel
theorem dX7_push_8 : decode cX7_push 8 = .ok (.getfield 15, 3) := by decide +kernel
theorem dX7_push_11 : decode cX7_push 11 = .ok (.sipush 540, 3) := by decide +kernel
theorem dX7_push_14 : decode cX7_push 14 = .ok (.if_icmp .ge 35, 3) := by decide +kernel
theorem dX7_push_17 : decode cX7_push 17 = .ok (.aload_n 0, 1) := by decide +kernel
theorem dX7_push_18 : decode cX7_push 18 = .ok (.getfield 9, 3) := by decide +kernel
theorem dX7_push_21 : decode cX7_push 21 = .ok (.aload_n 0, 1) := by decide +kernel
theorem dX7_push_22 : decode cX7_push 22 = .ok (.getfield 15, 3) := by decide +kernel
theorem dX7_push_25 : decode cX7_push 25 = .ok (.iload_n 1, 1) := by decide +kernel
theorem dX7_push_26 : decode cX7_push 26 = .ok (.iload_n 2, 1) := by decide +kernel
theorem dX7_push_27 : decode cX7_push 27 = .ok (.iushr, 1) := by decide +kernel
theorem dX7_push_28 : decode cX7_push 28 = .ok (.sipush 255, 3) := by decide +kernel
theorem dX7_push_31 : decode cX7_push 31 = .ok (.iand, 1) := by decide +kernel
theorem dX7_push_32 : decode cX7_push 32 = .ok (.iastore, 1) := by decide +kernel
theorem dX7_push_33 : decode cX7_push 33 = .ok (.aload_n 0, 1) := by decide +kernel
theorem dX7_push_34 : decode cX7_push 34 = .ok (.dup, 1) := by decide +kernel
theorem dX7_push_35 : decode cX7_push 35 = .ok (.getfield 15, 3) := by decide +kernel
theorem dX7_push_38 : decode cX7_push 38 = .ok (.iconst 1, 1) := by decide +kernel
theorem dX7_push_39 : decode cX7_push 39 = .ok (.iadd, 1) := by decide +kernel
theorem dX7_push_40 : decode cX7_push 40 = .ok (.putfield 15, 3) := by decide +kernel
theorem dX7_push_43 : decode cX7_push 43 = .ok (.iinc 2 (-8), 3) := by decide +kernel
theorem dX7_push_46 : decode cX7_push 46 = .ok (.goto (-43), 3) := by decide +kernel
theorem dX7_push_49 : decode cX7_push 49 = .ok (.return_, 1) := by decide +kernel
theorem dX7_cut_0 : decode cX7_cut 0 = .ok (.iload_n 1, 1) := by decide +kernel
theorem dX7_cut_1 : decode cX7_cut 1 = .ok (.ifCond .lt 11, 3) := by decide +kernel
theorem dX7_cut_4 : decode cX7_cut 4 = .ok (.iload_n 1, 1) := by decide +kernel
theorem dX7_cut_5 : decode cX7_cut 5 = .ok (.aload_n 0, 1) := by decide +kernel
theorem dX7_cut_6 : decode cX7_cut 6 = .ok (.getfield 15, 3) := by decide +kernel
theorem dX7_cut_9 : decode cX7_cut 9 = .ok (.if_icmp .le 5, 3) := by decide +kernel
theorem dX7_cut_12 : decode cX7_cut 12 = .ok (.iconst 0, 1) := by decide +kernel
theorem dX7_cut_13 : decode cX7_cut 13 = .ok (.ireturn, 1) := by decide +kernel
theorem dX7_cut_14 : decode cX7_cut 14 = .ok (.aload_n 0, 1) := by decide +kernel
theorem dX7_cut_15 : decode cX7_cut 15 = .ok (.iload_n 1, 1) := by decide +kernel
theorem dX7_cut_16 : decode cX7_cut 16 = .ok (.putfield 15, 3) := by decide +kernel
theorem dX7_cut_19 : decode cX7_cut 19 = .ok (.iconst 1, 1) := by decide +kernel
theorem dX7_cut_20 : decode cX7_cut 20 = .ok (.ireturn, 1) := by decide +kernel
theorem dX7_byteAt_0 : decode cX7_byteAt 0 = .ok (.iload_n 1, 1) := by decide +kernel
theorem dX7_byteAt_1 : decode cX7_byteAt 1 = .ok (.ifCond .lt 20, 3) := by decide +kernel
theorem dX7_byteAt_4 : decode cX7_byteAt 4 = .ok (.iload_n 1, 1) := by decide +kernel
theorem dX7_byteAt_5 : decode cX7_byteAt 5 = .ok (.aload_n 0, 1) := by decide +kernel
theorem dX7_byteAt_6 : decode cX7_byteAt 6 = .ok (.getfield 15, 3) := by decide +kernel
theorem dX7_byteAt_9 : decode cX7_byteAt 9 = .ok (.if_icmp .ge 12, 3) := by decide +kernel
theorem dX7_byteAt_12 : decode cX7_byteAt 12 = .ok (.aload_n 0, 1) := by decide +kernel
theorem dX7_byteAt_13 : decode cX7_byteAt 13 = .ok (.getfield 9, 3) := by decide +kernel
theorem dX7_byteAt_16 : decode cX7_byteAt 16 = .ok (.iload_n 1, 1) := by decide +kernel
theorem dX7_byteAt_17 : decode cX7_byteAt 17 = .ok (.iaload, 1) := by decide +kernel
theorem dX7_byteAt_18 : decode cX7_byteAt 18 = .ok (.goto 4, 3) := by decide +kernel
theorem dX7_byteAt_21 : decode cX7_byteAt 21 = .ok (.iconst (-1), 1) := by decide +kernel
theorem dX7_byteAt_22 : decode cX7_byteAt 22 = .ok (.ireturn, 1) := by decide +kernel
theorem dX8_init_0 : decode cX8_init 0 = .ok (.aload_n 0, 1) := by decide +kernel
theorem dX8_init_1 : decode cX8_init 1 = .ok (.invokespecial 3, 3) := by decide +kernel
theorem dX8_init_4 : decode cX8_init 4 = .ok (.aload_n 0, 1) := by decide +kernel
theorem dX8_init_5 : decode cX8_init 5 = .ok (.new 9, 3) := by decide +kernel
theorem dX8_init_8 : decode cX8_init 8 = .ok (.dup, 1) := by decide +kernel
theorem dX8_init_9 : decode cX8_init 9 = .ok (.invokespecial 11, 3) := by decide +kernel
theorem dX8_init_12 : decode cX8_init 12 = .ok (.putfield 12, 3) := by decide +kernel
theorem dX8_init_15 : decode cX8_init 15 = .ok (.return_, 1) := by decide +kernel
theorem dX8_count_0 : decode cX8_count 0 = .ok (.aload_n 0, 1) := by decide +kernel
theorem dX8_count_1 : decode cX8_count 1 = .ok (.aload_n 1, 1) := by decide +kernel
theorem dX8_count_2 : decode cX8_count 2 = .ok (.iload_n 2, 1) := by decide +kernel
theorem dX8_count_3 : decode cX8_count 3 = .ok (.ldc 18, 2) := by decide +kernel
theorem dX8_count_5 : decode cX8_count 5 = .ok (.invokevirtual 19, 3) := by decide +kernel
theorem dX8_count_8 : decode cX8_count 8 = .ok (.lreturn, 1) := by decide +kernel
theorem dX8_countWithin_0 : decode cX8_countWithin 0 = .ok (.aload_n 0, 1) := by decide +kernel
theorem dX8_countWithin_1 : decode cX8_countWithin 1 = .ok (.getfield 12, 3) := by decide +kernel
theorem dX8_countWithin_4 : decode cX8_countWithin 4 = .ok (.aload_n 1, 1) := by decide +kernel
theorem dX8_countWithin_5 : decode cX8_countWithin 5 = .ok (.iload_n 3, 1) := by decide +kernel
theorem dX8_countWithin_6 : decode cX8_countWithin 6 = .ok (.invokevirtual 23, 3) := by decide +kernel
theorem dX8_countWithin_9 : decode cX8_countWithin 9 = .ok (.aload_n 0, 1) := by decide +kernel
theorem dX8_countWithin_10 : decode cX8_countWithin 10 = .ok (.getfield 12, 3) := by decide +kernel
theorem dX8_countWithin_13 : decode cX8_countWithin 13 = .ok (.iload_n 2, 1) := by decide +kernel
theorem dX8_countWithin_14 : decode cX8_countWithin 14 = .ok (.aload_n 1, 1) := by decide +kernel
theorem dX8_countWithin_15 : decode cX8_countWithin 15 = .ok (.invokevirtual 27, 3) := by decide +kernel
theorem dX8_countWithin_18 : decode cX8_countWithin 18 = .ok (.invokevirtual 33, 3) := by decide +kernel
theorem dX8_countWithin_21 : decode cX8_countWithin 21 = .ok (.lreturn, 1) := by decide +kernel
theorem dX8_ofNumber_0 : decode cX8_ofNumber 0 = .ok (.iload_n 3, 1) := by decide +kernel
theorem dX8_ofNumber_1 : decode cX8_ofNumber 1 = .ok (.ifCond .lt 15, 3) := by decide +kernel
theorem dX8_ofNumber_4 : decode cX8_ofNumber 4 = .ok (.iload_n 3, 1) := by decide +kernel
theorem dX8_ofNumber_5 : decode cX8_ofNumber 5 = .ok (.i2l, 1) := by decide +kernel
theorem dX8_ofNumber_6 : decode cX8_ofNumber 6 = .ok (.aload_n 0, 1) := by decide +kernel
theorem dX8_ofNumber_7 : decode cX8_ofNumber 7 = .ok (.aload_n 1, 1) := by decide +kernel
theorem dX8_ofNumber_8 : decode cX8_ofNumber 8 = .ok (.iload_n 2, 1) := by decide +kernel
theorem dX8_ofNumber_9 : decode cX8_ofNumber 9 = .ok (.invokevirtual 37, 3) := by decide +kernel
theorem dX8_ofNumber_12 : decode cX8_ofNumber 12 = .ok (.lcmp, 1) := by decide +kernel
theorem dX8_ofNumber_13 : decode cX8_ofNumber 13 = .ok (.ifCond .lt 5, 3) := by decide +kernel
theorem dX8_ofNumber_16 : decode cX8_ofNumber 16 = .ok (.iconst (-1), 1) := by decide +kernel
theorem dX8_ofNumber_17 : decode cX8_ofNumber 17 = .ok (.ireturn, 1) := by decide +kernel
theorem dX8_ofNumber_18 : decode cX8_ofNumber 18 = .ok (.ldc 18, 2) := by decide +kernel
theorem dX8_ofNumber_20 : decode cX8_ofNumber 20 = .ok (.istore 4, 2) := by decide +kernel
theorem dX8_ofNumber_22 : decode cX8_ofNumber 22 = .ok (.iconst 0, 1) := by decide +kernel
theorem dX8_ofNumber_23 : decode cX8_ofNumber 23 = .ok (.istore 5, 2) := by decide +kernel
theorem dX8_ofNumber_25 : decode cX8_ofNumber 25 = .ok (.iload_n 3, 1) := by decide +kernel
theorem dX8_ofNumber_26 : decode cX8_ofNumber 26 = .ok (.i2l, 1) := by decide +kernel
theorem dX8_ofNumber_27 : decode cX8_ofNumber 27 = .ok (.lstore 6, 2) := by decide +kernel
theorem dX8_ofNumber_29 : decode cX8_ofNumber 29 = .ok (.aload_n 1, 1) := by decide +kernel
theorem dX8_ofNumber_30 : decode cX8_ofNumber 30 = .ok (.getfield 41, 3) := by decide +kernel
theorem dX8_ofNumber_33 : decode cX8_ofNumber 33 = .ok (.iconst 1, 1) := by decide +kernel
theorem dX8_ofNumber_34 : decode cX8_ofNumber 34 = .ok (.isub, 1) := by decide +kernel
theorem dX8_ofNumber_35 : decode cX8_ofNumber 35 = .ok (.istore 8, 2) := by decide +kernel
theorem dX8_ofNumber_37 : decode cX8_ofNumber 37 = .ok (.iload 8, 2) := by decide +kernel
theorem dX8_ofNumber_39 : decode cX8_ofNumber 39 = .ok (.ifCond .lt 98, 3) := by decide +kernel
theorem dX8_ofNumber_42 : decode cX8_ofNumber 42 = .ok (.aload_n 1, 1) := by decide +kernel
theorem dX8_ofNumber_43 : decode cX8_ofNumber 43 = .ok (.getfield 45, 3) := by decide +kernel
theorem dX8_ofNumber_46 : decode cX8_ofNumber 46 = .ok (.iload 8, 2) := by decide +kernel
theorem dX8_ofNumber_48 : decode cX8_ofNumber 48 = .ok (.iaload, 1) := by decide +kernel
theorem dX8_ofNumber_49 : decode cX8_ofNumber 49 = .ok (.iload_n 2, 1) := by decide +kernel
theorem dX8_ofNumber_50 : decode cX8_ofNumber 50 = .ok (.if_icmp .eq 81, 3) := by decide +kernel
theorem dX8_ofNumber_53 : decode cX8_ofNumber 53 = .ok (.iload 4, 2) := by decide +kernel
theorem dX8_ofNumber_55 : decode cX8_ofNumber 55 = .ok (.iload 8, 2) := by decide +kernel
theorem dX8_ofNumber_57 : decode cX8_ofNumber 57 = .ok (.invokestatic 49, 3) := by decide +kernel
theorem dX8_ofNumber_60 : decode cX8_ofNumber 60 = .ok (.ifCond .ne 6, 3) := by decide +kernel
theorem dX8_ofNumber_63 : decode cX8_ofNumber 63 = .ok (.goto 68, 3) := by decide +kernel
theorem dX8_ofNumber_66 : decode cX8_ofNumber 66 = .ok (.aload_n 0, 1) := by decide +kernel
theorem dX8_ofNumber_67 : decode cX8_ofNumber 67 = .ok (.aload_n 1, 1) := by decide +kernel
theorem dX8_ofNumber_68 : decode cX8_ofNumber 68 = .ok (.iload_n 2, 1) := by decide +kernel
theorem dX8_ofNumber_69 : decode cX8_ofNumber 69 = .ok (.iload 4, 2) := by decide +kernel
theorem dX8_ofNumber_71 : decode cX8_ofNumber 71 = .ok (.iconst 1, 1) := by decide +kernel
theorem dX8_ofNumber_72 : decode cX8_ofNumber 72 = .ok (.iload 8, 2) := by decide +kernel
theorem dX8_ofNumber_74 : decode cX8_ofNumber 74 = .ok (.ishl, 1) := by decide +kernel
theorem dX8_ofNumber_75 : decode cX8_ofNumber 75 = .ok (.iconst (-1), 1) := by decide +kernel
theorem dX8_ofNumber_76 : decode cX8_ofNumber 76 = .ok (.ixor, 1) := by decide +kernel
theorem dX8_ofNumber_77 : decode cX8_ofNumber 77 = .ok (.iand, 1) := by decide +kernel
theorem dX8_ofNumber_78 : decode cX8_ofNumber 78 = .ok (.invokevirtual 19, 3) := by decide +kernel
theorem dX8_ofNumber_81 : decode cX8_ofNumber 81 = .ok (.lstore 9, 2) := by decide +kernel
theorem dX8_ofNumber_83 : decode cX8_ofNumber 83 = .ok (.lload 6, 2) := by decide +kernel
theorem dX8_ofNumber_85 : decode cX8_ofNumber 85 = .ok (.lload 9, 2) := by decide +kernel
theorem dX8_ofNumber_87 : decode cX8_ofNumber 87 = .ok (.lcmp, 1) := by decide +kernel
theorem dX8_ofNumber_88 : decode cX8_ofNumber 88 = .ok (.ifCond .ge 17, 3) := by decide +kernel
theorem dX8_ofNumber_91 : decode cX8_ofNumber 91 = .ok (.iload 4, 2) := by decide +kernel
theorem dX8_ofNumber_93 : decode cX8_ofNumber 93 = .ok (.iconst 1, 1) := by decide +kernel
theorem dX8_ofNumber_94 : decode cX8_ofNumber 94 = .ok (.iload 8, 2) := by decide +kernel
theorem dX8_ofNumber_96 : decode cX8_ofNumber 96 = .ok (.ishl, 1) := by decide +kernel
theorem dX8_ofNumber_97 : decode cX8_ofNumber 97 = .ok (.iconst (-1), 1) := by decide +kernel
theorem dX8_ofNumber_98 : decode cX8_ofNumber 98 = .ok (.ixor, 1) := by decide +kernel
theorem dX8_ofNumber_99 : decode cX8_ofNumber 99 = .ok (.iand, 1) := by decide +kernel
theorem dX8_ofNumber_100 : decode cX8_ofNumber 100 = .ok (.istore 4, 2) := by decide +kernel
theorem dX8_ofNumber_102 : decode cX8_ofNumber 102 = .ok (.goto 29, 3) := by decide +kernel
theorem dX8_ofNumber_105 : decode cX8_ofNumber 105 = .ok (.lload 6, 2) := by decide +kernel
theorem dX8_ofNumber_107 : decode cX8_ofNumber 107 = .ok (.lload 9, 2) := by decide +kernel
theorem dX8_ofNumber_109 : decode cX8_ofNumber 109 = .ok (.lsub, 1) := by decide +kernel
theorem dX8_ofNumber_110 : decode cX8_ofNumber 110 = .ok (.lstore 6, 2) := by decide +kernel
theorem dX8_ofNumber_112 : decode cX8_ofNumber 112 = .ok (.iload 5, 2) := by decide +kernel
theorem dX8_ofNumber_114 : decode cX8_ofNumber 114 = .ok (.iconst 1, 1) := by decide +kernel
theorem dX8_ofNumber_115 : decode cX8_ofNumber 115 = .ok (.iload 8, 2) := by decide +kernel
theorem dX8_ofNumber_117 : decode cX8_ofNumber 117 = .ok (.ishl, 1) := by decide +kernel
theorem dX8_ofNumber_118 : decode cX8_ofNumber 118 = .ok (.ior, 1) := by decide +kernel
theorem dX8_ofNumber_119 : decode cX8_ofNumber 119 = .ok (.istore 5, 2) := by decide +kernel
theorem dX8_ofNumber_121 : decode cX8_ofNumber 121 = .ok (.aload_n 1, 1) := by decide +kernel
theorem dX8_ofNumber_122 : decode cX8_ofNumber 122 = .ok (.iload 4, 2) := by decide +kernel
theorem dX8_ofNumber_124 : decode cX8_ofNumber 124 = .ok (.iload 8, 2) := by decide +kernel
theorem dX8_ofNumber_126 : decode cX8_ofNumber 126 = .ok (.invokestatic 53, 3) := by decide +kernel
theorem dX8_ofNumber_129 : decode cX8_ofNumber 129 = .ok (.istore 4, 2) := by decide +kernel
theorem dX8_ofNumber_131 : decode cX8_ofNumber 131 = .ok (.iinc 8 (-1), 3) := by decide +kernel
theorem dX8_ofNumber_134 : decode cX8_ofNumber 134 = .ok (.goto (-97), 3) := by decide +kernel
theorem dX8_ofNumber_137 : decode cX8_ofNumber 137 = .ok (.iload 5, 2) := by decide +kernel
theorem dX8_ofNumber_139 : decode cX8_ofNumber 139 = .ok (.ireturn, 1) := by decide +kernel
theorem dX8_withOneFrom_0 : decode cX8_withOneFrom 0 = .ok (.iload_n 1, 1) := by decide +kernel
theorem dX8_withOneFrom_1 : decode cX8_withOneFrom 1 = .ok (.istore_n 3, 1) := by decide +kernel
theorem dX8_withOneFrom_2 : decode cX8_withOneFrom 2 = .ok (.iconst 0, 1) := by decide +kernel
theorem dX8_withOneFrom_3 : decode cX8_withOneFrom 3 = .ok (.istore 4, 2) := by decide +kernel
theorem dX8_withOneFrom_5 : decode cX8_withOneFrom 5 = .ok (.iload 4, 2) := by decide +kernel
theorem dX8_withOneFrom_7 : decode cX8_withOneFrom 7 = .ok (.aload_n 0, 1) := by decide +kernel
theorem dX8_withOneFrom_8 : decode cX8_withOneFrom 8 = .ok (.getfield 41, 3) := by decide +kernel
theorem dX8_withOneFrom_11 : decode cX8_withOneFrom 11 = .ok (.if_icmp .ge 40, 3) := by decide +kernel
theorem dX8_withOneFrom_14 : decode cX8_withOneFrom 14 = .ok (.iload 4, 2) := by decide +kernel
theorem dX8_withOneFrom_16 : decode cX8_withOneFrom 16 = .ok (.iload_n 2, 1) := by decide +kernel
theorem dX8_withOneFrom_17 : decode cX8_withOneFrom 17 = .ok (.if_icmp .eq 28, 3) := by decide +kernel
theorem dX8_withOneFrom_20 : decode cX8_withOneFrom 20 = .ok (.aload_n 0, 1) := by decide +kernel
theorem dX8_withOneFrom_21 : decode cX8_withOneFrom 21 = .ok (.getfield 45, 3) := by decide +kernel
theorem dX8_withOneFrom_24 : decode cX8_withOneFrom 24 = .ok (.iload 4, 2) := by decide +kernel
theorem dX8_withOneFrom_26 : decode cX8_withOneFrom 26 = .ok (.iaload, 1) := by decide +kernel
theorem dX8_withOneFrom_27 : decode cX8_withOneFrom 27 = .ok (.aload_n 0, 1) := by decide +kernel
theorem dX8_withOneFrom_28 : decode cX8_withOneFrom 28 = .ok (.getfield 45, 3) := by decide +kernel
theorem dX8_withOneFrom_31 : decode cX8_withOneFrom 31 = .ok (.iload_n 2, 1) := by decide +kernel
theorem dX8_withOneFrom_32 : decode cX8_withOneFrom 32 = .ok (.iaload, 1) := by decide +kernel
theorem dX8_withOneFrom_33 : decode cX8_withOneFrom 33 = .ok (.if_icmp .ne 12, 3) := by decide +kernel
theorem dX8_withOneFrom_36 : decode cX8_withOneFrom 36 = .ok (.iload_n 3, 1) := by decide +kernel
theorem dX8_withOneFrom_37 : decode cX8_withOneFrom 37 = .ok (.iconst 1, 1) := by decide +kernel
theorem dX8_withOneFrom_38 : decode cX8_withOneFrom 38 = .ok (.iload 4, 2) := by decide +kernel
theorem dX8_withOneFrom_40 : decode cX8_withOneFrom 40 = .ok (.ishl, 1) := by decide +kernel
theorem dX8_withOneFrom_41 : decode cX8_withOneFrom 41 = .ok (.iconst (-1), 1) := by decide +kernel
theorem dX8_withOneFrom_42 : decode cX8_withOneFrom 42 = .ok (.ixor, 1) := by decide +kernel
theorem dX8_withOneFrom_43 : decode cX8_withOneFrom 43 = .ok (.iand, 1) := by decide +kernel
theorem dX8_withOneFrom_44 : decode cX8_withOneFrom 44 = .ok (.istore_n 3, 1) := by decide +kernel
theorem dX8_withOneFrom_45 : decode cX8_withOneFrom 45 = .ok (.iinc 4 1, 3) := by decide +kernel
theorem dX8_withOneFrom_48 : decode cX8_withOneFrom 48 = .ok (.goto (-43), 3) := by decide +kernel
theorem dX8_withOneFrom_51 : decode cX8_withOneFrom 51 = .ok (.iload_n 3, 1) := by decide +kernel
theorem dX8_withOneFrom_52 : decode cX8_withOneFrom 52 = .ok (.ireturn, 1) := by decide +kernel
theorem dJ6_bitCount_0f7a4_0 : decode cJ6_bitCount_0f7a4 0 = .ok (.iload_n 0, 1) := by decide +kernel
theorem dJ6_bitCount_0f7a4_1 : decode cJ6_bitCount_0f7a4 1 = .ok (.iload_n 0, 1) := by decide +kernel
theorem dJ6_bitCount_0f7a4_2 : decode cJ6_bitCount_0f7a4 2 = .ok (.iconst 1, 1) := by decide +kernel
theorem dJ6_bitCount_0f7a4_3 : decode cJ6_bitCount_0f7a4 3 = .ok (.iushr, 1) := by decide +kernel
theorem dJ6_bitCount_0f7a4_4 : decode cJ6_bitCount_0f7a4 4 = .ok (.ldc_w 265, 3) := by decide +kernel
theorem dJ6_bitCount_0f7a4_7 : decode cJ6_bitCount_0f7a4 7 = .ok (.iand, 1) := by decide +kernel
theorem dJ6_bitCount_0f7a4_8 : decode cJ6_bitCount_0f7a4 8 = .ok (.isub, 1) := by decide +kernel
theorem dJ6_bitCount_0f7a4_9 : decode cJ6_bitCount_0f7a4 9 = .ok (.istore_n 0, 1) := by decide +kernel
theorem dJ6_bitCount_0f7a4_10 : decode cJ6_bitCount_0f7a4 10 = .ok (.iload_n 0, 1) := by decide +kernel
theorem dJ6_bitCount_0f7a4_11 : decode cJ6_bitCount_0f7a4 11 = .ok (.ldc_w 266, 3) := by decide +kernel
theorem dJ6_bitCount_0f7a4_14 : decode cJ6_bitCount_0f7a4 14 = .ok (.iand, 1) := by decide +kernel
theorem dJ6_bitCount_0f7a4_15 : decode cJ6_bitCount_0f7a4 15 = .ok (.iload_n 0, 1) := by decide +kernel
theorem dJ6_bitCount_0f7a4_16 : decode cJ6_bitCount_0f7a4 16 = .ok (.iconst 2, 1) := by decide +kernel
theorem dJ6_bitCount_0f7a4_17 : decode cJ6_bitCount_0f7a4 17 = .ok (.iushr, 1) := by decide +kernel
theorem dJ6_bitCount_0f7a4_18 : decode cJ6_bitCount_0f7a4 18 = .ok (.ldc_w 266, 3) := by decide +kernel
theorem dJ6_bitCount_0f7a4_21 : decode cJ6_bitCount_0f7a4 21 = .ok (.iand, 1) := by decide +kernel
theorem dJ6_bitCount_0f7a4_22 : decode cJ6_bitCount_0f7a4 22 = .ok (.iadd, 1) := by decide +kernel
theorem dJ6_bitCount_0f7a4_23 : decode cJ6_bitCount_0f7a4 23 = .ok (.istore_n 0, 1) := by decide +kernel
theorem dJ6_bitCount_0f7a4_24 : decode cJ6_bitCount_0f7a4 24 = .ok (.iload_n 0, 1) := by decide +kernel
theorem dJ6_bitCount_0f7a4_25 : decode cJ6_bitCount_0f7a4 25 = .ok (.iload_n 0, 1) := by decide +kernel
theorem dJ6_bitCount_0f7a4_26 : decode cJ6_bitCount_0f7a4 26 = .ok (.iconst 4, 1) := by decide +kernel
theorem dJ6_bitCount_0f7a4_27 : decode cJ6_bitCount_0f7a4 27 = .ok (.iushr, 1) := by decide +kernel
theorem dJ6_bitCount_0f7a4_28 : decode cJ6_bitCount_0f7a4 28 = .ok (.iadd, 1) := by decide +kernel
theorem dJ6_bitCount_0f7a4_29 : decode cJ6_bitCount_0f7a4 29 = .ok (.ldc_w 267, 3) := by decide +kernel
theorem dJ6_bitCount_0f7a4_32 : decode cJ6_bitCount_0f7a4 32 = .ok (.iand, 1) := by decide +kernel
theorem dJ6_bitCount_0f7a4_33 : decode cJ6_bitCount_0f7a4 33 = .ok (.istore_n 0, 1) := by decide +kernel
theorem dJ6_bitCount_0f7a4_34 : decode cJ6_bitCount_0f7a4 34 = .ok (.iload_n 0, 1) := by decide +kernel
theorem dJ6_bitCount_0f7a4_35 : decode cJ6_bitCount_0f7a4 35 = .ok (.iload_n 0, 1) := by decide +kernel
theorem dJ6_bitCount_0f7a4_36 : decode cJ6_bitCount_0f7a4 36 = .ok (.bipush 8, 2) := by decide +kernel
theorem dJ6_bitCount_0f7a4_38 : decode cJ6_bitCount_0f7a4 38 = .ok (.iushr, 1) := by decide +kernel
theorem dJ6_bitCount_0f7a4_39 : decode cJ6_bitCount_0f7a4 39 = .ok (.iadd, 1) := by decide +kernel
theorem dJ6_bitCount_0f7a4_40 : decode cJ6_bitCount_0f7a4 40 = .ok (.istore_n 0, 1) := by decide +kernel
theorem dJ6_bitCount_0f7a4_41 : decode cJ6_bitCount_0f7a4 41 = .ok (.iload_n 0, 1) := by decide +kernel
theorem dJ6_bitCount_0f7a4_42 : decode cJ6_bitCount_0f7a4 42 = .ok (.iload_n 0, 1) := by decide +kernel
theorem dJ6_bitCount_0f7a4_43 : decode cJ6_bitCount_0f7a4 43 = .ok (.bipush 16, 2) := by decide +kernel
theorem dJ6_bitCount_0f7a4_45 : decode cJ6_bitCount_0f7a4 45 = .ok (.iushr, 1) := by decide +kernel
theorem dJ6_bitCount_0f7a4_46 : decode cJ6_bitCount_0f7a4 46 = .ok (.iadd, 1) := by decide +kernel
theorem dJ6_bitCount_0f7a4_47 : decode cJ6_bitCount_0f7a4 47 = .ok (.istore_n 0, 1) := by decide +kernel
theorem dJ6_bitCount_0f7a4_48 : decode cJ6_bitCount_0f7a4 48 = .ok (.iload_n 0, 1) := by decide +kernel
theorem dJ6_bitCount_0f7a4_49 : decode cJ6_bitCount_0f7a4 49 = .ok (.bipush 63, 2) := by decide +kernel
theorem dJ6_bitCount_0f7a4_51 : decode cJ6_bitCount_0f7a4 51 = .ok (.iand, 1) := by decide +kernel
theorem dJ6_bitCount_0f7a4_52 : decode cJ6_bitCount_0f7a4 52 = .ok (.ireturn, 1) := by decide +kernel
theorem dJ9_max_7cf53_0 : decode cJ9_max_7cf53 0 = .ok (.iload_n 0, 1) := by decide +kernel
theorem dJ9_max_7cf53_1 : decode cJ9_max_7cf53 1 = .ok (.iload_n 1, 1) := by decide +kernel
theorem dJ9_max_7cf53_2 : decode cJ9_max_7cf53 2 = .ok (.if_icmp .lt 7, 3) := by decide +kernel
theorem dJ9_max_7cf53_5 : decode cJ9_max_7cf53 5 = .ok (.iload_n 0, 1) := by decide +kernel
theorem dJ9_max_7cf53_6 : decode cJ9_max_7cf53 6 = .ok (.goto 4, 3) := by decide +kernel
theorem dJ9_max_7cf53_9 : decode cJ9_max_7cf53 9 = .ok (.iload_n 1, 1) := by decide +kernel
theorem dJ9_max_7cf53_10 : decode cJ9_max_7cf53 10 = .ok (.ireturn, 1) := by decide +kernel
theorem dJ9_min_7cf53_0 : decode cJ9_min_7cf53 0 = .ok (.iload_n 0, 1) := by decide +kernel
theorem dJ9_min_7cf53_1 : decode cJ9_min_7cf53 1 = .ok (.iload_n 1, 1) := by decide +kernel
theorem dJ9_min_7cf53_2 : decode cJ9_min_7cf53 2 = .ok (.if_icmp .gt 7, 3) := by decide +kernel
theorem dJ9_min_7cf53_5 : decode cJ9_min_7cf53 5 = .ok (.iload_n 0, 1) := by decide +kernel
theorem dJ9_min_7cf53_6 : decode cJ9_min_7cf53 6 = .ok (.goto 4, 3) := by decide +kernel
theorem dJ9_min_7cf53_9 : decode cJ9_min_7cf53 9 = .ok (.iload_n 1, 1) := by decide +kernel
theorem dJ9_min_7cf53_10 : decode cJ9_min_7cf53 10 = .ok (.ireturn, 1) := by decide +kernel
