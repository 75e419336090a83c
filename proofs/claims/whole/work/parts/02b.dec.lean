theorem dX3_matesOf_9 : decode cX3_matesOf 9 = .ok (.invokevirtual 84, 3) := by decide +kernel
theorem dX3_matesOf_12 : decode cX3_matesOf 12 = .ok (.land, 1) := by decide +kernel
theorem dX3_matesOf_13 : decode cX3_matesOf 13 = .ok (.lstore 6, 2) := by decide +kernel
theorem dX3_matesOf_15 : decode cX3_matesOf 15 = .ok (.lload 6, 2) := by decide +kernel
theorem dX3_matesOf_17 : decode cX3_matesOf 17 = .ok (.invokestatic 87, 3) := by decide +kernel
theorem dX3_matesOf_20 : decode cX3_matesOf 20 = .ok (.istore 8, 2) := by decide +kernel
theorem dX3_matesOf_22 : decode cX3_matesOf 22 = .ok (.iload 8, 2) := by decide +kernel
theorem dX3_matesOf_24 : decode cX3_matesOf 24 = .ok (.ifCond .le 48, 3) := by decide +kernel
theorem dX3_matesOf_27 : decode cX3_matesOf 27 = .ok (.aload_n 0, 1) := by decide +kernel
theorem dX3_matesOf_28 : decode cX3_matesOf 28 = .ok (.getfield 23, 3) := by decide +kernel
theorem dX3_matesOf_31 : decode cX3_matesOf 31 = .ok (.iload_n 1, 1) := by decide +kernel
theorem dX3_matesOf_32 : decode cX3_matesOf 32 = .ok (.aaload, 1) := by decide +kernel
theorem dX3_matesOf_33 : decode cX3_matesOf 33 = .ok (.lload 6, 2) := by decide +kernel
theorem dX3_matesOf_35 : decode cX3_matesOf 35 = .ok (.invokestatic 93, 3) := by decide +kernel
theorem dX3_matesOf_38 : decode cX3_matesOf 38 = .ok (.iaload, 1) := by decide +kernel
theorem dX3_matesOf_39 : decode cX3_matesOf 39 = .ok (.istore 9, 2) := by decide +kernel
theorem dX3_matesOf_41 : decode cX3_matesOf 41 = .ok (.lload 6, 2) := by decide +kernel
theorem dX3_matesOf_43 : decode cX3_matesOf 43 = .ok (.lload 6, 2) := by decide +kernel
theorem dX3_matesOf_45 : decode cX3_matesOf 45 = .ok (.lconst 1, 1) := by decide +kernel
theorem dX3_matesOf_46 : decode cX3_matesOf 46 = .ok (.lsub, 1) := by decide +kernel
theorem dX3_matesOf_47 : decode cX3_matesOf 47 = .ok (.land, 1) := by decide +kernel
theorem dX3_matesOf_48 : decode cX3_matesOf 48 = .ok (.lstore 6, 2) := by decide +kernel
theorem dX3_matesOf_50 : decode cX3_matesOf 50 = .ok (.iload 9, 2) := by decide +kernel
theorem dX3_matesOf_52 : decode cX3_matesOf 52 = .ok (.bipush (-3), 2) := by decide +kernel
theorem dX3_matesOf_54 : decode cX3_matesOf 54 = .ok (.if_icmp .eq 12, 3) := by decide +kernel
theorem dX3_matesOf_57 : decode cX3_matesOf 57 = .ok (.lload 4, 2) := by decide +kernel
theorem dX3_matesOf_59 : decode cX3_matesOf 59 = .ok (.lconst 1, 1) := by decide +kernel
theorem dX3_matesOf_60 : decode cX3_matesOf 60 = .ok (.iload 9, 2) := by decide +kernel
theorem dX3_matesOf_62 : decode cX3_matesOf 62 = .ok (.lshl, 1) := by decide +kernel
theorem dX3_matesOf_63 : decode cX3_matesOf 63 = .ok (.lor, 1) := by decide +kernel
theorem dX3_matesOf_64 : decode cX3_matesOf 64 = .ok (.lstore 4, 2) := by decide +kernel
theorem dX3_matesOf_66 : decode cX3_matesOf 66 = .ok (.iinc 8 (-1), 3) := by decide +kernel
theorem dX3_matesOf_69 : decode cX3_matesOf 69 = .ok (.goto (-47), 3) := by decide +kernel
theorem dX3_matesOf_72 : decode cX3_matesOf 72 = .ok (.lload 4, 2) := by decide +kernel
theorem dX3_matesOf_74 : decode cX3_matesOf 74 = .ok (.lreturn, 1) := by decide +kernel
theorem dX3_nodesOfPart_0 : decode cX3_nodesOfPart 0 = .ok (.aload_n 0, 1) := by decide +kernel
theorem dX3_nodesOfPart_1 : decode cX3_nodesOfPart 1 = .ok (.getfield 35, 3) := by decide +kernel
theorem dX3_nodesOfPart_4 : decode cX3_nodesOfPart 4 = .ok (.iload_n 1, 1) := by decide +kernel
theorem dX3_nodesOfPart_5 : decode cX3_nodesOfPart 5 = .ok (.aaload, 1) := by decide +kernel
theorem dX3_nodesOfPart_6 : decode cX3_nodesOfPart 6 = .ok (.iload_n 2, 1) := by decide +kernel
theorem dX3_nodesOfPart_7 : decode cX3_nodesOfPart 7 = .ok (.laload, 1) := by decide +kernel
theorem dX3_nodesOfPart_8 : decode cX3_nodesOfPart 8 = .ok (.lreturn, 1) := by decide +kernel
theorem dX3_partOf_0 : decode cX3_partOf 0 = .ok (.aload_n 0, 1) := by decide +kernel
theorem dX3_partOf_1 : decode cX3_partOf 1 = .ok (.getfield 35, 3) := by decide +kernel
theorem dX3_partOf_4 : decode cX3_partOf 4 = .ok (.iload_n 1, 1) := by decide +kernel
theorem dX3_partOf_5 : decode cX3_partOf 5 = .ok (.aaload, 1) := by decide +kernel
theorem dX3_partOf_6 : decode cX3_partOf 6 = .ok (.iconst 0, 1) := by decide +kernel
theorem dX3_partOf_7 : decode cX3_partOf 7 = .ok (.laload, 1) := by decide +kernel
theorem dX3_partOf_8 : decode cX3_partOf 8 = .ok (.iload_n 2, 1) := by decide +kernel
theorem dX3_partOf_9 : decode cX3_partOf 9 = .ok (.invokestatic 96, 3) := by decide +kernel
theorem dX3_partOf_12 : decode cX3_partOf 12 = .ok (.ifCond .eq 5, 3) := by decide +kernel
theorem dX3_partOf_15 : decode cX3_partOf 15 = .ok (.iconst 0, 1) := by decide +kernel
theorem dX3_partOf_16 : decode cX3_partOf 16 = .ok (.ireturn, 1) := by decide +kernel
theorem dX3_partOf_17 : decode cX3_partOf 17 = .ok (.aload_n 0, 1) := by decide +kernel
theorem dX3_partOf_18 : decode cX3_partOf 18 = .ok (.getfield 35, 3) := by decide +kernel
theorem dX3_partOf_21 : decode cX3_partOf 21 = .ok (.iload_n 1, 1) := by decide +kernel
theorem dX3_partOf_22 : decode cX3_partOf 22 = .ok (.aaload, 1) := by decide +kernel
theorem dX3_partOf_23 : decode cX3_partOf 23 = .ok (.iconst 2, 1) := by decide +kernel
theorem dX3_partOf_24 : decode cX3_partOf 24 = .ok (.laload, 1) := by decide +kernel
theorem dX3_partOf_25 : decode cX3_partOf 25 = .ok (.iload_n 2, 1) := by decide +kernel
theorem dX3_partOf_26 : decode cX3_partOf 26 = .ok (.invokestatic 96, 3) := by decide +kernel
theorem dX3_partOf_29 : decode cX3_partOf 29 = .ok (.ifCond .eq 7, 3) := by decide +kernel
theorem dX3_partOf_32 : decode cX3_partOf 32 = .ok (.iconst 2, 1) := by decide +kernel
theorem dX3_partOf_33 : decode cX3_partOf 33 = .ok (.goto 4, 3) := by decide +kernel
theorem dX3_partOf_36 : decode cX3_partOf 36 = .ok (.iconst 1, 1) := by decide +kernel
theorem dX3_partOf_37 : decode cX3_partOf 37 = .ok (.ireturn, 1) := by decide +kernel
theorem dX3_nodesInPart_0 : decode cX3_nodesInPart 0 = .ok (.aload_n 0, 1) := by decide +kernel
theorem dX3_nodesInPart_1 : decode cX3_nodesInPart 1 = .ok (.getfield 35, 3) := by decide +kernel
theorem dX3_nodesInPart_4 : decode cX3_nodesInPart 4 = .ok (.iconst 0, 1) := by decide +kernel
theorem dX3_nodesInPart_5 : decode cX3_nodesInPart 5 = .ok (.aaload, 1) := by decide +kernel
theorem dX3_nodesInPart_6 : decode cX3_nodesInPart 6 = .ok (.iload_n 1, 1) := by decide +kernel
theorem dX3_nodesInPart_7 : decode cX3_nodesInPart 7 = .ok (.laload, 1) := by decide +kernel
theorem dX3_nodesInPart_8 : decode cX3_nodesInPart 8 = .ok (.invokestatic 87, 3) := by decide +kernel
theorem dX3_nodesInPart_11 : decode cX3_nodesInPart 11 = .ok (.aload_n 0, 1) := by decide +kernel
theorem dX3_nodesInPart_12 : decode cX3_nodesInPart 12 = .ok (.getfield 35, 3) := by decide +kernel
theorem dX3_nodesInPart_15 : decode cX3_nodesInPart 15 = .ok (.iconst 1, 1) := by decide +kernel
theorem dX3_nodesInPart_16 : decode cX3_nodesInPart 16 = .ok (.aaload, 1) := by decide +kernel
theorem dX3_nodesInPart_17 : decode cX3_nodesInPart 17 = .ok (.iload_n 1, 1) := by decide +kernel
theorem dX3_nodesInPart_18 : decode cX3_nodesInPart 18 = .ok (.laload, 1) := by decide +kernel
theorem dX3_nodesInPart_19 : decode cX3_nodesInPart 19 = .ok (.invokestatic 87, 3) := by decide +kernel
theorem dX3_nodesInPart_22 : decode cX3_nodesInPart 22 = .ok (.iadd, 1) := by decide +kernel
theorem dX3_nodesInPart_23 : decode cX3_nodesInPart 23 = .ok (.ireturn, 1) := by decide +kernel
theorem dX3_isInCover_0 : decode cX3_isInCover 0 = .ok (.aload_n 0, 1) := by decide +kernel
theorem dX3_isInCover_1 : decode cX3_isInCover 1 = .ok (.iload_n 2, 1) := by decide +kernel
theorem dX3_isInCover_2 : decode cX3_isInCover 2 = .ok (.iload_n 3, 1) := by decide +kernel
theorem dX3_isInCover_3 : decode cX3_isInCover 3 = .ok (.invokevirtual 100, 3) := by decide +kernel
theorem dX3_isInCover_6 : decode cX3_isInCover 6 = .ok (.istore 4, 2) := by decide +kernel
theorem dX3_isInCover_8 : decode cX3_isInCover 8 = .ok (.iload 4, 2) := by decide +kernel
theorem dX3_isInCover_10 : decode cX3_isInCover 10 = .ok (.iconst 1, 1) := by decide +kernel
theorem dX3_isInCover_11 : decode cX3_isInCover 11 = .ok (.if_icmp .ne 14, 3) := by decide +kernel
theorem dX3_isInCover_14 : decode cX3_isInCover 14 = .ok (.iload_n 2, 1) := by decide +kernel
theorem dX3_isInCover_15 : decode cX3_isInCover 15 = .ok (.iload_n 1, 1) := by decide +kernel
theorem dX3_isInCover_16 : decode cX3_isInCover 16 = .ok (.if_icmp .ne 7, 3) := by decide +kernel
theorem dX3_isInCover_19 : decode cX3_isInCover 19 = .ok (.iconst 1, 1) := by decide +kernel
theorem dX3_isInCover_20 : decode cX3_isInCover 20 = .ok (.goto 4, 3) := by decide +kernel
theorem dX3_isInCover_23 : decode cX3_isInCover 23 = .ok (.iconst 0, 1) := by decide +kernel
theorem dX3_isInCover_24 : decode cX3_isInCover 24 = .ok (.ireturn, 1) := by decide +kernel
theorem dX3_isInCover_25 : decode cX3_isInCover 25 = .ok (.iload_n 2, 1) := by decide +kernel
theorem dX3_isInCover_26 : decode cX3_isInCover 26 = .ok (.ifCond .ne 17, 3) := by decide +kernel
theorem dX3_isInCover_29 : decode cX3_isInCover 29 = .ok (.iload 4, 2) := by decide +kernel
theorem dX3_isInCover_31 : decode cX3_isInCover 31 = .ok (.iconst 2, 1) := by decide +kernel
theorem dX3_isInCover_32 : decode cX3_isInCover 32 = .ok (.if_icmp .ne 7, 3) := by decide +kernel
theorem dX3_isInCover_35 : decode cX3_isInCover 35 = .ok (.iconst 1, 1) := by decide +kernel
theorem dX3_isInCover_36 : decode cX3_isInCover 36 = .ok (.goto 17, 3) := by decide +kernel
theorem dX3_isInCover_39 : decode cX3_isInCover 39 = .ok (.iconst 0, 1) := by decide +kernel
theorem dX3_isInCover_40 : decode cX3_isInCover 40 = .ok (.goto 13, 3) := by decide +kernel
theorem dX3_isInCover_43 : decode cX3_isInCover 43 = .ok (.iload 4, 2) := by decide +kernel
theorem dX3_isInCover_45 : decode cX3_isInCover 45 = .ok (.ifCond .ne 7, 3) := by decide +kernel
theorem dX3_isInCover_48 : decode cX3_isInCover 48 = .ok (.iconst 1, 1) := by decide +kernel
theorem dX3_isInCover_49 : decode cX3_isInCover 49 = .ok (.goto 4, 3) := by decide +kernel
theorem dX3_isInCover_52 : decode cX3_isInCover 52 = .ok (.iconst 0, 1) := by decide +kernel
theorem dX3_isInCover_53 : decode cX3_isInCover 53 = .ok (.ireturn, 1) := by decide +kernel
theorem dX3_begin_0 : decode cX3_begin 0 = .ok (.iconst 0, 1) := by decide +kernel
theorem dX3_begin_1 : decode cX3_begin 1 = .ok (.istore_n 1, 1) := by decide +kernel
theorem dX3_begin_2 : decode cX3_begin 2 = .ok (.iload_n 1, 1) := by decide +kernel
theorem dX3_begin_3 : decode cX3_begin 3 = .ok (.iconst 1, 1) := by decide +kernel
theorem dX3_begin_4 : decode cX3_begin 4 = .ok (.if_icmp .gt 27, 3) := by decide +kernel
theorem dX3_begin_7 : decode cX3_begin 7 = .ok (.aload_n 0, 1) := by decide +kernel
theorem dX3_begin_8 : decode cX3_begin 8 = .ok (.getfield 23, 3) := by decide +kernel
theorem dX3_begin_11 : decode cX3_begin 11 = .ok (.iload_n 1, 1) := by decide +kernel
theorem dX3_begin_12 : decode cX3_begin 12 = .ok (.aaload, 1) := by decide +kernel
theorem dX3_begin_13 : decode cX3_begin 13 = .ok (.bipush (-3), 2) := by decide +kernel
theorem dX3_begin_15 : decode cX3_begin 15 = .ok (.invokestatic 104, 3) := by decide +kernel
theorem dX3_begin_18 : decode cX3_begin 18 = .ok (.aload_n 0, 1) := by decide +kernel
theorem dX3_begin_19 : decode cX3_begin 19 = .ok (.getfield 26, 3) := by decide +kernel
theorem dX3_begin_22 : decode cX3_begin 22 = .ok (.iload_n 1, 1) := by decide +kernel
theorem dX3_begin_23 : decode cX3_begin 23 = .ok (.lconst 0, 1) := by decide +kernel
theorem dX3_begin_24 : decode cX3_begin 24 = .ok (.lastore, 1) := by decide +kernel
theorem dX3_begin_25 : decode cX3_begin 25 = .ok (.iinc 1 1, 3) := by decide +kernel
theorem dX3_begin_28 : decode cX3_begin 28 = .ok (.goto (-26), 3) := by decide +kernel
theorem dX3_begin_31 : decode cX3_begin 31 = .ok (.aload_n 0, 1) := by decide +kernel
theorem dX3_begin_32 : decode cX3_begin 32 = .ok (.iconst 0, 1) := by decide +kernel
theorem dX3_begin_33 : decode cX3_begin 33 = .ok (.putfield 45, 3) := by decide +kernel
theorem dX3_begin_36 : decode cX3_begin 36 = .ok (.aload_n 0, 1) := by decide +kernel
theorem dX3_begin_37 : decode cX3_begin 37 = .ok (.invokevirtual 74, 3) := by decide +kernel
theorem dX3_begin_40 : decode cX3_begin 40 = .ok (.return_, 1) := by decide +kernel
theorem dX3_openAll_0 : decode cX3_openAll 0 = .ok (.aload_n 0, 1) := by decide +kernel
theorem dX3_openAll_1 : decode cX3_openAll 1 = .ok (.getfield 30, 3) := by decide +kernel
theorem dX3_openAll_4 : decode cX3_openAll 4 = .ok (.iconst 0, 1) := by decide +kernel
theorem dX3_openAll_5 : decode cX3_openAll 5 = .ok (.aload_n 0, 1) := by decide +kernel
theorem dX3_openAll_6 : decode cX3_openAll 6 = .ok (.getfield 9, 3) := by decide +kernel
theorem dX3_openAll_9 : decode cX3_openAll 9 = .ok (.iconst 0, 1) := by decide +kernel
theorem dX3_openAll_10 : decode cX3_openAll 10 = .ok (.invokevirtual 84, 3) := by decide +kernel
theorem dX3_openAll_13 : decode cX3_openAll 13 = .ok (.lastore, 1) := by decide +kernel
theorem dX3_openAll_14 : decode cX3_openAll 14 = .ok (.aload_n 0, 1) := by decide +kernel
theorem dX3_openAll_15 : decode cX3_openAll 15 = .ok (.getfield 30, 3) := by decide +kernel
theorem dX3_openAll_18 : decode cX3_openAll 18 = .ok (.iconst 1, 1) := by decide +kernel
theorem dX3_openAll_19 : decode cX3_openAll 19 = .ok (.aload_n 0, 1) := by decide +kernel
theorem dX3_openAll_20 : decode cX3_openAll 20 = .ok (.getfield 9, 3) := by decide +kernel
theorem dX3_openAll_23 : decode cX3_openAll 23 = .ok (.iconst 1, 1) := by decide +kernel
theorem dX3_openAll_24 : decode cX3_openAll 24 = .ok (.invokevirtual 84, 3) := by decide +kernel
theorem dX3_openAll_27 : decode cX3_openAll 27 = .ok (.lastore, 1) := by decide +kernel
theorem dX3_openAll_28 : decode cX3_openAll 28 = .ok (.return_, 1) := by decide +kernel
theorem dX3_bare_0 : decode cX3_bare 0 = .ok (.aload_n 0, 1) := by decide +kernel
theorem dX3_bare_1 : decode cX3_bare 1 = .ok (.getfield 30, 3) := by decide +kernel
theorem dX3_bare_4 : decode cX3_bare 4 = .ok (.iload_n 1, 1) := by decide +kernel
theorem dX3_bare_5 : decode cX3_bare 5 = .ok (.laload, 1) := by decide +kernel
theorem dX3_bare_6 : decode cX3_bare 6 = .ok (.aload_n 0, 1) := by decide +kernel
theorem dX3_bare_7 : decode cX3_bare 7 = .ok (.getfield 26, 3) := by decide +kernel
theorem dX3_bare_10 : decode cX3_bare 10 = .ok (.iload_n 1, 1) := by decide +kernel
theorem dX3_bare_11 : decode cX3_bare 11 = .ok (.laload, 1) := by decide +kernel
theorem dX3_bare_12 : decode cX3_bare 12 = .ok (.ldc2_w 110, 3) := by decide +kernel
theorem dX3_bare_15 : decode cX3_bare 15 = .ok (.lxor, 1) := by decide +kernel
theorem dX3_bare_16 : decode cX3_bare 16 = .ok (.land, 1) := by decide +kernel
theorem dX3_bare_17 : decode cX3_bare 17 = .ok (.lreturn, 1) := by decide +kernel
theorem dX3_pair_0 : decode cX3_pair 0 = .ok (.aload_n 0, 1) := by decide +kernel
theorem dX3_pair_1 : decode cX3_pair 1 = .ok (.getfield 23, 3) := by decide +kernel
theorem dX3_pair_4 : decode cX3_pair 4 = .ok (.iconst 0, 1) := by decide +kernel
theorem dX3_pair_5 : decode cX3_pair 5 = .ok (.aaload, 1) := by decide +kernel
theorem dX3_pair_6 : decode cX3_pair 6 = .ok (.iload_n 1, 1) := by decide +kernel
theorem dX3_pair_7 : decode cX3_pair 7 = .ok (.iload_n 2, 1) := by decide +kernel
theorem dX3_pair_8 : decode cX3_pair 8 = .ok (.iastore, 1) := by decide +kernel
theorem dX3_pair_9 : decode cX3_pair 9 = .ok (.aload_n 0, 1) := by decide +kernel
theorem dX3_pair_10 : decode cX3_pair 10 = .ok (.getfield 23, 3) := by decide +kernel
theorem dX3_pair_13 : decode cX3_pair 13 = .ok (.iconst 1, 1) := by decide +kernel
theorem dX3_pair_14 : decode cX3_pair 14 = .ok (.aaload, 1) := by decide +kernel
theorem dX3_pair_15 : decode cX3_pair 15 = .ok (.iload_n 2, 1) := by decide +kernel
theorem dX3_pair_16 : decode cX3_pair 16 = .ok (.iload_n 1, 1) := by decide +kernel
theorem dX3_pair_17 : decode cX3_pair 17 = .ok (.iastore, 1) := by decide +kernel
theorem dX3_pair_18 : decode cX3_pair 18 = .ok (.aload_n 0, 1) := by decide +kernel
theorem dX3_pair_19 : decode cX3_pair 19 = .ok (.getfield 26, 3) := by decide +kernel
theorem dX3_pair_22 : decode cX3_pair 22 = .ok (.iconst 0, 1) := by decide +kernel
theorem dX3_pair_23 : decode cX3_pair 23 = .ok (.dup2, 1) := by decide +kernel
theorem dX3_pair_24 : decode cX3_pair 24 = .ok (.laload, 1) := by decide +kernel
theorem dX3_pair_25 : decode cX3_pair 25 = .ok (.lconst 1, 1) := by decide +kernel
theorem dX3_pair_26 : decode cX3_pair 26 = .ok (.iload_n 1, 1) := by decide +kernel
theorem dX3_pair_27 : decode cX3_pair 27 = .ok (.lshl, 1) := by decide +kernel
theorem dX3_pair_28 : decode cX3_pair 28 = .ok (.lor, 1) := by decide +kernel
theorem dX3_pair_29 : decode cX3_pair 29 = .ok (.lastore, 1) := by decide +kernel
theorem dX3_pair_30 : decode cX3_pair 30 = .ok (.aload_n 0, 1) := by decide +kernel
theorem dX3_pair_31 : decode cX3_pair 31 = .ok (.getfield 26, 3) := by decide +kernel
theorem dX3_pair_34 : decode cX3_pair 34 = .ok (.iconst 1, 1) := by decide +kernel
theorem dX3_pair_35 : decode cX3_pair 35 = .ok (.dup2, 1) := by decide +kernel
theorem dX3_pair_36 : decode cX3_pair 36 = .ok (.laload, 1) := by decide +kernel
theorem dX3_pair_37 : decode cX3_pair 37 = .ok (.lconst 1, 1) := by decide +kernel
theorem dX3_pair_38 : decode cX3_pair 38 = .ok (.iload_n 2, 1) := by decide +kernel
theorem dX3_pair_39 : decode cX3_pair 39 = .ok (.lshl, 1) := by decide +kernel
theorem dX3_pair_40 : decode cX3_pair 40 = .ok (.lor, 1) := by decide +kernel
theorem dX3_pair_41 : decode cX3_pair 41 = .ok (.lastore, 1) := by decide +kernel
theorem dX3_pair_42 : decode cX3_pair 42 = .ok (.return_, 1) := by decide +kernel
theorem dX3_loosen_0 : decode cX3_loosen 0 = .ok (.aload_n 0, 1) := by decide +kernel
theorem dX3_loosen_1 : decode cX3_loosen 1 = .ok (.getfield 23, 3) := by decide +kernel
theorem dX3_loosen_4 : decode cX3_loosen 4 = .ok (.iload_n 1, 1) := by decide +kernel
theorem dX3_loosen_5 : decode cX3_loosen 5 = .ok (.aaload, 1) := by decide +kernel
theorem dX3_loosen_6 : decode cX3_loosen 6 = .ok (.iload_n 2, 1) := by decide +kernel
theorem dX3_loosen_7 : decode cX3_loosen 7 = .ok (.iaload, 1) := by decide +kernel
theorem dX3_loosen_8 : decode cX3_loosen 8 = .ok (.istore_n 3, 1) := by decide +kernel
theorem dX3_loosen_9 : decode cX3_loosen 9 = .ok (.iload_n 3, 1) := by decide +kernel
theorem dX3_loosen_10 : decode cX3_loosen 10 = .ok (.bipush (-3), 2) := by decide +kernel
theorem dX3_loosen_12 : decode cX3_loosen 12 = .ok (.if_icmp .eq 59, 3) := by decide +kernel
theorem dX3_loosen_15 : decode cX3_loosen 15 = .ok (.aload_n 0, 1) := by decide +kernel
theorem dX3_loosen_16 : decode cX3_loosen 16 = .ok (.getfield 23, 3) := by decide +kernel
theorem dX3_loosen_19 : decode cX3_loosen 19 = .ok (.iload_n 1, 1) := by decide +kernel
theorem dX3_loosen_20 : decode cX3_loosen 20 = .ok (.aaload, 1) := by decide +kernel
theorem dX3_loosen_21 : decode cX3_loosen 21 = .ok (.iload_n 2, 1) := by decide +kernel
theorem dX3_loosen_22 : decode cX3_loosen 22 = .ok (.bipush (-3), 2) := by decide +kernel
theorem dX3_loosen_24 : decode cX3_loosen 24 = .ok (.iastore, 1) := by decide +kernel
theorem dX3_loosen_25 : decode cX3_loosen 25 = .ok (.aload_n 0, 1) := by decide +kernel
theorem dX3_loosen_26 : decode cX3_loosen 26 = .ok (.getfield 23, 3) := by decide +kernel
theorem dX3_loosen_29 : decode cX3_loosen 29 = .ok (.iconst 1, 1) := by decide +kernel
theorem dX3_loosen_30 : decode cX3_loosen 30 = .ok (.iload_n 1, 1) := by decide +kernel
theorem dX3_loosen_31 : decode cX3_loosen 31 = .ok (.isub, 1) := by decide +kernel
theorem dX3_loosen_32 : decode cX3_loosen 32 = .ok (.aaload, 1) := by decide +kernel
theorem dX3_loosen_33 : decode cX3_loosen 33 = .ok (.iload_n 3, 1) := by decide +kernel
theorem dX3_loosen_34 : decode cX3_loosen 34 = .ok (.bipush (-3), 2) := by decide +kernel
theorem dX3_loosen_36 : decode cX3_loosen 36 = .ok (.iastore, 1) := by decide +kernel
theorem dX3_loosen_37 : decode cX3_loosen 37 = .ok (.aload_n 0, 1) := by decide +kernel
theorem dX3_loosen_38 : decode cX3_loosen 38 = .ok (.getfield 26, 3) := by decide +kernel
theorem dX3_loosen_41 : decode cX3_loosen 41 = .ok (.iload_n 1, 1) := by decide +kernel
theorem dX3_loosen_42 : decode cX3_loosen 42 = .ok (.dup2, 1) := by decide +kernel
theorem dX3_loosen_43 : decode cX3_loosen 43 = .ok (.laload, 1) := by decide +kernel
theorem dX3_loosen_44 : decode cX3_loosen 44 = .ok (.lconst 1, 1) := by decide +kernel
theorem dX3_loosen_45 : decode cX3_loosen 45 = .ok (.iload_n 2, 1) := by decide +kernel
theorem dX3_loosen_46 : decode cX3_loosen 46 = .ok (.lshl, 1) := by decide +kernel
theorem dX3_loosen_47 : decode cX3_loosen 47 = .ok (.ldc2_w 110, 3) := by decide +kernel
theorem dX3_loosen_50 : decode cX3_loosen 50 = .ok (.lxor, 1) := by decide +kernel
theorem dX3_loosen_51 : decode cX3_loosen 51 = .ok (.land, 1) := by decide +kernel
theorem dX3_loosen_52 : decode cX3_loosen 52 = .ok (.lastore, 1) := by decide +kernel
theorem dX3_loosen_53 : decode cX3_loosen 53 = .ok (.aload_n 0, 1) := by decide +kernel
theorem dX3_loosen_54 : decode cX3_loosen 54 = .ok (.getfield 26, 3) := by decide +kernel
theorem dX3_loosen_57 : decode cX3_loosen 57 = .ok (.iconst 1, 1) := by decide +kernel
theorem dX3_loosen_58 : decode cX3_loosen 58 = .ok (.iload_n 1, 1) := by decide +kernel
theorem dX3_loosen_59 : decode cX3_loosen 59 = .ok (.isub, 1) := by decide +kernel
theorem dX3_loosen_60 : decode cX3_loosen 60 = .ok (.dup2, 1) := by decide +kernel
theorem dX3_loosen_61 : decode cX3_loosen 61 = .ok (.laload, 1) := by decide +kernel
theorem dX3_loosen_62 : decode cX3_loosen 62 = .ok (.lconst 1, 1) := by decide +kernel
theorem dX3_loosen_63 : decode cX3_loosen 63 = .ok (.iload_n 3, 1) := by decide +kernel
theorem dX3_loosen_64 : decode cX3_loosen 64 = .ok (.lshl, 1) := by decide +kernel
theorem dX3_loosen_65 : decode cX3_loosen 65 = .ok (.ldc2_w 110, 3) := by decide +kernel
theorem dX3_loosen_68 : decode cX3_loosen 68 = .ok (.lxor, 1) := by decide +kernel
theorem dX3_loosen_69 : decode cX3_loosen 69 = .ok (.land, 1) := by decide +kernel
theorem dX3_loosen_70 : decode cX3_loosen 70 = .ok (.lastore, 1) := by decide +kernel
theorem dX3_loosen_71 : decode cX3_loosen 71 = .ok (.return_, 1) := by decide +kernel
theorem dX3_lengthen_0 : decode cX3_lengthen 0 = .ok (.iconst 0, 1) := by decide +kernel
theorem dX3_lengthen_1 : decode cX3_lengthen 1 = .ok (.istore_n 1, 1) := by decide +kernel
theorem dX3_lengthen_2 : decode cX3_lengthen 2 = .ok (.aload_n 0, 1) := by decide +kernel
theorem dX3_lengthen_3 : decode cX3_lengthen 3 = .ok (.iconst 0, 1) := by decide +kernel
theorem dX3_lengthen_4 : decode cX3_lengthen 4 = .ok (.invokevirtual 112, 3) := by decide +kernel
theorem dX3_lengthen_7 : decode cX3_lengthen 7 = .ok (.lstore_n 2, 1) := by decide +kernel
theorem dX3_lengthen_8 : decode cX3_lengthen 8 = .ok (.iconst 0, 1) := by decide +kernel
theorem dX3_lengthen_9 : decode cX3_lengthen 9 = .ok (.istore 4, 2) := by decide +kernel
theorem dX3_lengthen_11 : decode cX3_lengthen 11 = .ok (.iload 4, 2) := by decide +kernel
theorem dX3_lengthen_13 : decode cX3_lengthen 13 = .ok (.aload_n 0, 1) := by decide +kernel
theorem dX3_lengthen_14 : decode cX3_lengthen 14 = .ok (.getfield 9, 3) := by decide +kernel
theorem dX3_lengthen_17 : decode cX3_lengthen 17 = .ok (.iconst 0, 1) := by decide +kernel
theorem dX3_lengthen_18 : decode cX3_lengthen 18 = .ok (.invokevirtual 62, 3) := by decide +kernel
theorem dX3_lengthen_21 : decode cX3_lengthen 21 = .ok (.if_icmp .ge 29, 3) := by decide +kernel
theorem dX3_lengthen_24 : decode cX3_lengthen 24 = .ok (.lload_n 2, 1) := by decide +kernel
theorem dX3_lengthen_25 : decode cX3_lengthen 25 = .ok (.iload 4, 2) := by decide +kernel
theorem dX3_lengthen_27 : decode cX3_lengthen 27 = .ok (.invokestatic 96, 3) := by decide +kernel
theorem dX3_lengthen_30 : decode cX3_lengthen 30 = .ok (.ifCond .eq 14, 3) := by decide +kernel
theorem dX3_lengthen_33 : decode cX3_lengthen 33 = .ok (.aload_n 0, 1) := by decide +kernel
theorem dX3_lengthen_34 : decode cX3_lengthen 34 = .ok (.getfield 38, 3) := by decide +kernel
theorem dX3_lengthen_37 : decode cX3_lengthen 37 = .ok (.iload_n 1, 1) := by decide +kernel
theorem dX3_lengthen_38 : decode cX3_lengthen 38 = .ok (.iinc 1 1, 3) := by decide +kernel
theorem dX3_lengthen_41 : decode cX3_lengthen 41 = .ok (.iload 4, 2) := by decide +kernel
theorem dX3_lengthen_43 : decode cX3_lengthen 43 = .ok (.iastore, 1) := by decide +kernel
theorem dX3_lengthen_44 : decode cX3_lengthen 44 = .ok (.iinc 4 1, 3) := by decide +kernel
theorem dX3_lengthen_47 : decode cX3_lengthen 47 = .ok (.goto (-36), 3) := by decide +kernel
theorem dX3_lengthen_50 : decode cX3_lengthen 50 = .ok (.aload_n 0, 1) := by decide +kernel
theorem dX3_lengthen_51 : decode cX3_lengthen 51 = .ok (.getfield 30, 3) := by decide +kernel
theorem dX3_lengthen_54 : decode cX3_lengthen 54 = .ok (.iconst 1, 1) := by decide +kernel
theorem dX3_lengthen_55 : decode cX3_lengthen 55 = .ok (.laload, 1) := by decide +kernel
theorem dX3_lengthen_56 : decode cX3_lengthen 56 = .ok (.lstore 4, 2) := by decide +kernel
theorem dX3_lengthen_58 : decode cX3_lengthen 58 = .ok (.iconst 0, 1) := by decide +kernel
theorem dX3_lengthen_59 : decode cX3_lengthen 59 = .ok (.istore 6, 2) := by decide +kernel
theorem dX3_lengthen_61 : decode cX3_lengthen 61 = .ok (.iload 6, 2) := by decide +kernel
theorem dX3_lengthen_63 : decode cX3_lengthen 63 = .ok (.iload_n 1, 1) := by decide +kernel
theorem dX3_lengthen_64 : decode cX3_lengthen 64 = .ok (.if_icmp .ge 133, 3) := by decide +kernel
theorem dX3_lengthen_67 : decode cX3_lengthen 67 = .ok (.aload_n 0, 1) := by decide +kernel
theorem dX3_lengthen_68 : decode cX3_lengthen 68 = .ok (.getfield 38, 3) := by decide +kernel
theorem dX3_lengthen_71 : decode cX3_lengthen 71 = .ok (.iload 6, 2) := by decide +kernel
theorem dX3_lengthen_73 : decode cX3_lengthen 73 = .ok (.iaload, 1) := by decide +kernel
theorem dX3_lengthen_74 : decode cX3_lengthen 74 = .ok (.istore 7, 2) := by decide +kernel
theorem dX3_lengthen_76 : decode cX3_lengthen 76 = .ok (.aload_n 0, 1) := by decide +kernel
theorem dX3_lengthen_77 : decode cX3_lengthen 77 = .ok (.getfield 9, 3) := by decide +kernel
theorem dX3_lengthen_80 : decode cX3_lengthen 80 = .ok (.iconst 0, 1) := by decide +kernel
theorem dX3_lengthen_81 : decode cX3_lengthen 81 = .ok (.iload 7, 2) := by decide +kernel
theorem dX3_lengthen_83 : decode cX3_lengthen 83 = .ok (.invokevirtual 115, 3) := by decide +kernel
theorem dX3_lengthen_86 : decode cX3_lengthen 86 = .ok (.lload 4, 2) := by decide +kernel
theorem dX3_lengthen_88 : decode cX3_lengthen 88 = .ok (.land, 1) := by decide +kernel
theorem dX3_lengthen_89 : decode cX3_lengthen 89 = .ok (.lstore 8, 2) := by decide +kernel
theorem dX3_lengthen_91 : decode cX3_lengthen 91 = .ok (.lload 4, 2) := by decide +kernel
theorem dX3_lengthen_93 : decode cX3_lengthen 93 = .ok (.lload 8, 2) := by decide +kernel
theorem dX3_lengthen_95 : decode cX3_lengthen 95 = .ok (.ldc2_w 110, 3) := by decide +kernel
theorem dX3_lengthen_98 : decode cX3_lengthen 98 = .ok (.lxor, 1) := by decide +kernel
theorem dX3_lengthen_99 : decode cX3_lengthen 99 = .ok (.land, 1) := by decide +kernel
theorem dX3_lengthen_100 : decode cX3_lengthen 100 = .ok (.lstore 4, 2) := by decide +kernel
theorem dX3_lengthen_102 : decode cX3_lengthen 102 = .ok (.lload 8, 2) := by decide +kernel
theorem dX3_lengthen_104 : decode cX3_lengthen 104 = .ok (.invokestatic 87, 3) := by decide +kernel
theorem dX3_lengthen_107 : decode cX3_lengthen 107 = .ok (.istore 10, 2) := by decide +kernel
theorem dX3_lengthen_109 : decode cX3_lengthen 109 = .ok (.iload 10, 2) := by decide +kernel
theorem dX3_lengthen_111 : decode cX3_lengthen 111 = .ok (.ifCond .le 80, 3) := by decide +kernel
theorem dX3_lengthen_114 : decode cX3_lengthen 114 = .ok (.lload 8, 2) := by decide +kernel
theorem dX3_lengthen_116 : decode cX3_lengthen 116 = .ok (.invokestatic 93, 3) := by decide +kernel
theorem dX3_lengthen_119 : decode cX3_lengthen 119 = .ok (.istore 11, 2) := by decide +kernel
theorem dX3_lengthen_121 : decode cX3_lengthen 121 = .ok (.lload 8, 2) := by decide +kernel
theorem dX3_lengthen_123 : decode cX3_lengthen 123 = .ok (.lload 8, 2) := by decide +kernel
theorem dX3_lengthen_125 : decode cX3_lengthen 125 = .ok (.lconst 1, 1) := by decide +kernel
theorem dX3_lengthen_126 : decode cX3_lengthen 126 = .ok (.lsub, 1) := by decide +kernel
theorem dX3_lengthen_127 : decode cX3_lengthen 127 = .ok (.land, 1) := by decide +kernel
theorem dX3_lengthen_128 : decode cX3_lengthen 128 = .ok (.lstore 8, 2) := by decide +kernel
theorem dX3_lengthen_130 : decode cX3_lengthen 130 = .ok (.aload_n 0, 1) := by decide +kernel
theorem dX3_lengthen_131 : decode cX3_lengthen 131 = .ok (.getfield 42, 3) := by decide +kernel
theorem dX3_lengthen_134 : decode cX3_lengthen 134 = .ok (.iload 11, 2) := by decide +kernel
theorem dX3_lengthen_136 : decode cX3_lengthen 136 = .ok (.iload 7, 2) := by decide +kernel
theorem dX3_lengthen_138 : decode cX3_lengthen 138 = .ok (.iastore, 1) := by decide +kernel
theorem dX3_lengthen_139 : decode cX3_lengthen 139 = .ok (.aload_n 0, 1) := by decide +kernel
theorem dX3_lengthen_140 : decode cX3_lengthen 140 = .ok (.getfield 23, 3) := by decide +kernel
theorem dX3_lengthen_143 : decode cX3_lengthen 143 = .ok (.iconst 1, 1) := by decide +kernel
theorem dX3_lengthen_144 : decode cX3_lengthen 144 = .ok (.aaload, 1) := by decide +kernel
theorem dX3_lengthen_145 : decode cX3_lengthen 145 = .ok (.iload 11, 2) := by decide +kernel
theorem dX3_lengthen_147 : decode cX3_lengthen 147 = .ok (.iaload, 1) := by decide +kernel
theorem dX3_lengthen_148 : decode cX3_lengthen 148 = .ok (.istore 12, 2) := by decide +kernel
theorem dX3_lengthen_150 : decode cX3_lengthen 150 = .ok (.iload 12, 2) := by decide +kernel
theorem dX3_lengthen_152 : decode cX3_lengthen 152 = .ok (.bipush (-3), 2) := by decide +kernel
theorem dX3_lengthen_154 : decode cX3_lengthen 154 = .ok (.if_icmp .ne 11, 3) := by decide +kernel
theorem dX3_lengthen_157 : decode cX3_lengthen 157 = .ok (.aload_n 0, 1) := by decide +kernel
theorem dX3_lengthen_158 : decode cX3_lengthen 158 = .ok (.iload 11, 2) := by decide +kernel
theorem dX3_lengthen_160 : decode cX3_lengthen 160 = .ok (.invokevirtual 119, 3) := by decide +kernel
theorem dX3_lengthen_163 : decode cX3_lengthen 163 = .ok (.iconst 1, 1) := by decide +kernel
theorem dX3_lengthen_164 : decode cX3_lengthen 164 = .ok (.ireturn, 1) := by decide +kernel
theorem dX3_lengthen_165 : decode cX3_lengthen 165 = .ok (.iload_n 1, 1) := by decide +kernel
theorem dX3_lengthen_166 : decode cX3_lengthen 166 = .ok (.aload_n 0, 1) := by decide +kernel
theorem dX3_lengthen_167 : decode cX3_lengthen 167 = .ok (.getfield 38, 3) := by decide +kernel
theorem dX3_lengthen_170 : decode cX3_lengthen 170 = .ok (.arraylength, 1) := by decide +kernel
theorem dX3_lengthen_171 : decode cX3_lengthen 171 = .ok (.if_icmp .ge 14, 3) := by decide +kernel
theorem dX3_lengthen_174 : decode cX3_lengthen 174 = .ok (.aload_n 0, 1) := by decide +kernel
theorem dX3_lengthen_175 : decode cX3_lengthen 175 = .ok (.getfield 38, 3) := by decide +kernel
theorem dX3_lengthen_178 : decode cX3_lengthen 178 = .ok (.iload_n 1, 1) := by decide +kernel
theorem dX3_lengthen_179 : decode cX3_lengthen 179 = .ok (.iinc 1 1, 3) := by decide +kernel
theorem dX3_lengthen_182 : decode cX3_lengthen 182 = .ok (.iload 12, 2) := by decide +kernel
theorem dX3_lengthen_184 : decode cX3_lengthen 184 = .ok (.iastore, 1) := by decide +kernel
theorem dX3_lengthen_185 : decode cX3_lengthen 185 = .ok (.iinc 10 (-1), 3) := by decide +kernel
theorem dX3_lengthen_188 : decode cX3_lengthen 188 = .ok (.goto (-79), 3) := by decide +kernel
theorem dX3_lengthen_191 : decode cX3_lengthen 191 = .ok (.iinc 6 1, 3) := by decide +kernel
theorem dX3_lengthen_194 : decode cX3_lengthen 194 = .ok (.goto (-133), 3) := by decide +kernel
theorem dX3_lengthen_197 : decode cX3_lengthen 197 = .ok (.iconst 0, 1) := by decide +kernel
theorem dX3_lengthen_198 : decode cX3_lengthen 198 = .ok (.ireturn, 1) := by decide +kernel
theorem dX3_pairAlongPath_0 : decode cX3_pairAlongPath 0 = .ok (.iload_n 1, 1) := by decide +kernel
theorem dX3_pairAlongPath_1 : decode cX3_pairAlongPath 1 = .ok (.istore_n 2, 1) := by decide +kernel
theorem dX3_pairAlongPath_2 : decode cX3_pairAlongPath 2 = .ok (.iconst 0, 1) := by decide +kernel
theorem dX3_pairAlongPath_3 : decode cX3_pairAlongPath 3 = .ok (.istore_n 3, 1) := by decide +kernel
theorem dX3_pairAlongPath_4 : decode cX3_pairAlongPath 4 = .ok (.iload_n 3, 1) := by decide +kernel
theorem dX3_pairAlongPath_5 : decode cX3_pairAlongPath 5 = .ok (.aload_n 0, 1) := by decide +kernel
theorem dX3_pairAlongPath_6 : decode cX3_pairAlongPath 6 = .ok (.getfield 9, 3) := by decide +kernel
theorem dX3_pairAlongPath_9 : decode cX3_pairAlongPath 9 = .ok (.invokevirtual 15, 3) := by decide +kernel
theorem dX3_pairAlongPath_12 : decode cX3_pairAlongPath 12 = .ok (.if_icmp .ge 44, 3) := by decide +kernel
theorem dX3_pairAlongPath_15 : decode cX3_pairAlongPath 15 = .ok (.iload_n 2, 1) := by decide +kernel
theorem dX3_pairAlongPath_16 : decode cX3_pairAlongPath 16 = .ok (.bipush (-3), 2) := by decide +kernel
theorem dX3_pairAlongPath_18 : decode cX3_pairAlongPath 18 = .ok (.if_icmp .eq 38, 3) := by decide +kernel
theorem dX3_pairAlongPath_21 : decode cX3_pairAlongPath 21 = .ok (.aload_n 0, 1) := by decide +kernel
theorem dX3_pairAlongPath_22 : decode cX3_pairAlongPath 22 = .ok (.getfield 42, 3) := by decide +kernel
theorem dX3_pairAlongPath_25 : decode cX3_pairAlongPath 25 = .ok (.iload_n 2, 1) := by decide +kernel
theorem dX3_pairAlongPath_26 : decode cX3_pairAlongPath 26 = .ok (.iaload, 1) := by decide +kernel
theorem dX3_pairAlongPath_27 : decode cX3_pairAlongPath 27 = .ok (.istore 4, 2) := by decide +kernel
theorem dX3_pairAlongPath_29 : decode cX3_pairAlongPath 29 = .ok (.aload_n 0, 1) := by decide +kernel
theorem dX3_pairAlongPath_30 : decode cX3_pairAlongPath 30 = .ok (.getfield 23, 3) := by decide +kernel
theorem dX3_pairAlongPath_33 : decode cX3_pairAlongPath 33 = .ok (.iconst 0, 1) := by decide +kernel
theorem dX3_pairAlongPath_34 : decode cX3_pairAlongPath 34 = .ok (.aaload, 1) := by decide +kernel
theorem dX3_pairAlongPath_35 : decode cX3_pairAlongPath 35 = .ok (.iload 4, 2) := by decide +kernel
theorem dX3_pairAlongPath_37 : decode cX3_pairAlongPath 37 = .ok (.iaload, 1) := by decide +kernel
theorem dX3_pairAlongPath_38 : decode cX3_pairAlongPath 38 = .ok (.istore 5, 2) := by decide +kernel
theorem dX3_pairAlongPath_40 : decode cX3_pairAlongPath 40 = .ok (.aload_n 0, 1) := by decide +kernel
theorem dX3_pairAlongPath_41 : decode cX3_pairAlongPath 41 = .ok (.iload 4, 2) := by decide +kernel
theorem dX3_pairAlongPath_43 : decode cX3_pairAlongPath 43 = .ok (.iload_n 2, 1) := by decide +kernel
theorem dX3_pairAlongPath_44 : decode cX3_pairAlongPath 44 = .ok (.invokevirtual 123, 3) := by decide +kernel
theorem dX3_pairAlongPath_47 : decode cX3_pairAlongPath 47 = .ok (.iload 5, 2) := by decide +kernel
theorem dX3_pairAlongPath_49 : decode cX3_pairAlongPath 49 = .ok (.istore_n 2, 1) := by decide +kernel
theorem dX3_pairAlongPath_50 : decode cX3_pairAlongPath 50 = .ok (.iinc 3 1, 3) := by decide +kernel
theorem dX3_pairAlongPath_53 : decode cX3_pairAlongPath 53 = .ok (.goto (-49), 3) := by decide +kernel
theorem dX3_pairAlongPath_56 : decode cX3_pairAlongPath 56 = .ok (.return_, 1) := by decide +kernel
theorem dX3_reach_0 : decode cX3_reach 0 = .ok (.lload_n 2, 1) := by decide +kernel
theorem dX3_reach_1 : decode cX3_reach 1 = .ok (.lstore 4, 2) := by decide +kernel
theorem dX3_reach_3 : decode cX3_reach 3 = .ok (.lload_n 2, 1) := by decide +kernel
theorem dX3_reach_4 : decode cX3_reach 4 = .ok (.lstore 6, 2) := by decide +kernel
theorem dX3_reach_6 : decode cX3_reach 6 = .ok (.aload_n 0, 1) := by decide +kernel
theorem dX3_reach_7 : decode cX3_reach 7 = .ok (.getfield 30, 3) := by decide +kernel
theorem dX3_reach_10 : decode cX3_reach 10 = .ok (.iconst 1, 1) := by decide +kernel
theorem dX3_reach_11 : decode cX3_reach 11 = .ok (.iload_n 1, 1) := by decide +kernel
theorem dX3_reach_12 : decode cX3_reach 12 = .ok (.isub, 1) := by decide +kernel
theorem dX3_reach_13 : decode cX3_reach 13 = .ok (.laload, 1) := by decide +kernel
theorem dX3_reach_14 : decode cX3_reach 14 = .ok (.lstore 8, 2) := by decide +kernel
theorem dX3_reach_16 : decode cX3_reach 16 = .ok (.iconst 0, 1) := by decide +kernel
theorem dX3_reach_17 : decode cX3_reach 17 = .ok (.istore 10, 2) := by decide +kernel
theorem dX3_reach_19 : decode cX3_reach 19 = .ok (.iload 10, 2) := by decide +kernel
theorem dX3_reach_21 : decode cX3_reach 21 = .ok (.aload_n 0, 1) := by decide +kernel
theorem dX3_reach_22 : decode cX3_reach 22 = .ok (.getfield 9, 3) := by decide +kernel
theorem dX3_reach_25 : decode cX3_reach 25 = .ok (.invokevirtual 15, 3) := by decide +kernel
theorem dX3_reach_28 : decode cX3_reach 28 = .ok (.if_icmp .ge 86, 3) := by decide +kernel
theorem dX3_reach_31 : decode cX3_reach 31 = .ok (.lload 6, 2) := by decide +kernel
theorem dX3_reach_33 : decode cX3_reach 33 = .ok (.lconst 0, 1) := by decide +kernel
theorem dX3_reach_34 : decode cX3_reach 34 = .ok (.lcmp, 1) := by decide +kernel
theorem dX3_reach_35 : decode cX3_reach 35 = .ok (.ifCond .eq 79, 3) := by decide +kernel
theorem dX3_reach_38 : decode cX3_reach 38 = .ok (.aload_n 0, 1) := by decide +kernel
theorem dX3_reach_39 : decode cX3_reach 39 = .ok (.getfield 9, 3) := by decide +kernel
theorem dX3_reach_42 : decode cX3_reach 42 = .ok (.iload_n 1, 1) := by decide +kernel
theorem dX3_reach_43 : decode cX3_reach 43 = .ok (.lload 6, 2) := by decide +kernel
theorem dX3_reach_45 : decode cX3_reach 45 = .ok (.invokestatic 93, 3) := by decide +kernel
theorem dX3_reach_48 : decode cX3_reach 48 = .ok (.invokevirtual 115, 3) := by decide +kernel
theorem dX3_reach_51 : decode cX3_reach 51 = .ok (.lload 8, 2) := by decide +kernel
theorem dX3_reach_53 : decode cX3_reach 53 = .ok (.land, 1) := by decide +kernel
theorem dX3_reach_54 : decode cX3_reach 54 = .ok (.lstore 11, 2) := by decide +kernel
theorem dX3_reach_56 : decode cX3_reach 56 = .ok (.lload 8, 2) := by decide +kernel
theorem dX3_reach_58 : decode cX3_reach 58 = .ok (.lload 11, 2) := by decide +kernel
theorem dX3_reach_60 : decode cX3_reach 60 = .ok (.ldc2_w 110, 3) := by decide +kernel
theorem dX3_reach_63 : decode cX3_reach 63 = .ok (.lxor, 1) := by decide +kernel
theorem dX3_reach_64 : decode cX3_reach 64 = .ok (.land, 1) := by decide +kernel
theorem dX3_reach_65 : decode cX3_reach 65 = .ok (.lstore 8, 2) := by decide +kernel
theorem dX3_reach_67 : decode cX3_reach 67 = .ok (.lload 6, 2) := by decide +kernel
theorem dX3_reach_69 : decode cX3_reach 69 = .ok (.lload 6, 2) := by decide +kernel
theorem dX3_reach_71 : decode cX3_reach 71 = .ok (.lconst 1, 1) := by decide +kernel
theorem dX3_reach_72 : decode cX3_reach 72 = .ok (.lsub, 1) := by decide +kernel
theorem dX3_reach_73 : decode cX3_reach 73 = .ok (.land, 1) := by decide +kernel
theorem dX3_reach_74 : decode cX3_reach 74 = .ok (.lstore 6, 2) := by decide +kernel
theorem dX3_reach_76 : decode cX3_reach 76 = .ok (.aload_n 0, 1) := by decide +kernel
theorem dX3_reach_77 : decode cX3_reach 77 = .ok (.iconst 1, 1) := by decide +kernel
theorem dX3_reach_78 : decode cX3_reach 78 = .ok (.iload_n 1, 1) := by decide +kernel
theorem dX3_reach_79 : decode cX3_reach 79 = .ok (.isub, 1) := by decide +kernel
theorem dX3_reach_80 : decode cX3_reach 80 = .ok (.lload 11, 2) := by decide +kernel
theorem dX3_reach_82 : decode cX3_reach 82 = .ok (.invokevirtual 127, 3) := by decide +kernel
theorem dX3_reach_85 : decode cX3_reach 85 = .ok (.lload 4, 2) := by decide +kernel
theorem dX3_reach_87 : decode cX3_reach 87 = .ok (.ldc2_w 110, 3) := by decide +kernel
theorem dX3_reach_90 : decode cX3_reach 90 = .ok (.lxor, 1) := by decide +kernel
theorem dX3_reach_91 : decode cX3_reach 91 = .ok (.land, 1) := by decide +kernel
theorem dX3_reach_92 : decode cX3_reach 92 = .ok (.lstore 13, 2) := by decide +kernel
theorem dX3_reach_94 : decode cX3_reach 94 = .ok (.lload 4, 2) := by decide +kernel
theorem dX3_reach_96 : decode cX3_reach 96 = .ok (.lload 13, 2) := by decide +kernel
theorem dX3_reach_98 : decode cX3_reach 98 = .ok (.lor, 1) := by decide +kernel
theorem dX3_reach_99 : decode cX3_reach 99 = .ok (.lstore 4, 2) := by decide +kernel
theorem dX3_reach_101 : decode cX3_reach 101 = .ok (.lload 6, 2) := by decide +kernel
theorem dX3_reach_103 : decode cX3_reach 103 = .ok (.lload 13, 2) := by decide +kernel
theorem dX3_reach_105 : decode cX3_reach 105 = .ok (.lor, 1) := by decide +kernel
theorem dX3_reach_106 : decode cX3_reach 106 = .ok (.lstore 6, 2) := by decide +kernel
theorem dX3_reach_108 : decode cX3_reach 108 = .ok (.iinc 10 1, 3) := by decide +kernel
theorem dX3_reach_111 : decode cX3_reach 111 = .ok (.goto (-92), 3) := by decide +kernel
theorem dX3_reach_114 : decode cX3_reach 114 = .ok (.lload 4, 2) := by decide +kernel
theorem dX3_reach_116 : decode cX3_reach 116 = .ok (.lreturn, 1) := by decide +kernel
theorem dX3_choicesOf_0 : decode cX3_choicesOf 0 = .ok (.aload_n 0, 1) := by decide +kernel
theorem dX3_choicesOf_1 : decode cX3_choicesOf 1 = .ok (.getfield 9, 3) := by decide +kernel
theorem dX3_choicesOf_4 : decode cX3_choicesOf 4 = .ok (.iconst 0, 1) := by decide +kernel
theorem dX3_choicesOf_5 : decode cX3_choicesOf 5 = .ok (.iload_n 1, 1) := by decide +kernel
theorem dX3_choicesOf_6 : decode cX3_choicesOf 6 = .ok (.invokevirtual 115, 3) := by decide +kernel
theorem dX3_choicesOf_9 : decode cX3_choicesOf 9 = .ok (.aload_n 0, 1) := by decide +kernel
theorem dX3_choicesOf_10 : decode cX3_choicesOf 10 = .ok (.getfield 30, 3) := by decide +kernel
theorem dX3_choicesOf_13 : decode cX3_choicesOf 13 = .ok (.iconst 1, 1) := by decide +kernel
theorem dX3_choicesOf_14 : decode cX3_choicesOf 14 = .ok (.laload, 1) := by decide +kernel
theorem dX3_choicesOf_15 : decode cX3_choicesOf 15 = .ok (.land, 1) := by decide +kernel
theorem dX3_choicesOf_16 : decode cX3_choicesOf 16 = .ok (.lstore_n 2, 1) := by decide +kernel
theorem dX3_choicesOf_17 : decode cX3_choicesOf 17 = .ok (.aload_n 0, 1) := by decide +kernel
theorem dX3_choicesOf_18 : decode cX3_choicesOf 18 = .ok (.getfield 23, 3) := by decide +kernel
theorem dX3_choicesOf_21 : decode cX3_choicesOf 21 = .ok (.iconst 0, 1) := by decide +kernel
theorem dX3_choicesOf_22 : decode cX3_choicesOf 22 = .ok (.aaload, 1) := by decide +kernel
theorem dX3_choicesOf_23 : decode cX3_choicesOf 23 = .ok (.iload_n 1, 1) := by decide +kernel
theorem dX3_choicesOf_24 : decode cX3_choicesOf 24 = .ok (.iaload, 1) := by decide +kernel
theorem dX3_choicesOf_25 : decode cX3_choicesOf 25 = .ok (.istore 4, 2) := by decide +kernel
theorem dX3_choicesOf_27 : decode cX3_choicesOf 27 = .ok (.iload 4, 2) := by decide +kernel
theorem dX3_choicesOf_29 : decode cX3_choicesOf 29 = .ok (.bipush (-3), 2) := by decide +kernel
theorem dX3_choicesOf_31 : decode cX3_choicesOf 31 = .ok (.if_icmp .ne 5, 3) := by decide +kernel
theorem dX3_choicesOf_34 : decode cX3_choicesOf 34 = .ok (.lload_n 2, 1) := by decide +kernel
theorem dX3_choicesOf_35 : decode cX3_choicesOf 35 = .ok (.lreturn, 1) := by decide +kernel
theorem dX3_choicesOf_36 : decode cX3_choicesOf 36 = .ok (.aload_n 0, 1) := by decide +kernel
theorem dX3_choicesOf_37 : decode cX3_choicesOf 37 = .ok (.iconst 1, 1) := by decide +kernel
theorem dX3_choicesOf_38 : decode cX3_choicesOf 38 = .ok (.aload_n 0, 1) := by decide +kernel
theorem dX3_choicesOf_39 : decode cX3_choicesOf 39 = .ok (.iconst 1, 1) := by decide +kernel
theorem dX3_choicesOf_40 : decode cX3_choicesOf 40 = .ok (.invokevirtual 112, 3) := by decide +kernel
theorem dX3_choicesOf_43 : decode cX3_choicesOf 43 = .ok (.lconst 1, 1) := by decide +kernel
theorem dX3_choicesOf_44 : decode cX3_choicesOf 44 = .ok (.iload 4, 2) := by decide +kernel
theorem dX3_choicesOf_46 : decode cX3_choicesOf 46 = .ok (.lshl, 1) := by decide +kernel
theorem dX3_choicesOf_47 : decode cX3_choicesOf 47 = .ok (.lor, 1) := by decide +kernel
theorem dX3_choicesOf_48 : decode cX3_choicesOf 48 = .ok (.invokevirtual 131, 3) := by decide +kernel
theorem dX3_choicesOf_51 : decode cX3_choicesOf 51 = .ok (.lstore 5, 2) := by decide +kernel
theorem dX3_choicesOf_53 : decode cX3_choicesOf 53 = .ok (.aload_n 0, 1) := by decide +kernel
theorem dX3_choicesOf_54 : decode cX3_choicesOf 54 = .ok (.getfield 9, 3) := by decide +kernel
theorem dX3_choicesOf_57 : decode cX3_choicesOf 57 = .ok (.iconst 1, 1) := by decide +kernel
theorem dX3_choicesOf_58 : decode cX3_choicesOf 58 = .ok (.lload 5, 2) := by decide +kernel
theorem dX3_choicesOf_60 : decode cX3_choicesOf 60 = .ok (.invokevirtual 134, 3) := by decide +kernel
theorem dX3_choicesOf_63 : decode cX3_choicesOf 63 = .ok (.aload_n 0, 1) := by decide +kernel
theorem dX3_choicesOf_64 : decode cX3_choicesOf 64 = .ok (.iconst 0, 1) := by decide +kernel
theorem dX3_choicesOf_65 : decode cX3_choicesOf 65 = .ok (.invokevirtual 112, 3) := by decide +kernel
theorem dX3_choicesOf_68 : decode cX3_choicesOf 68 = .ok (.land, 1) := by decide +kernel
theorem dX3_choicesOf_69 : decode cX3_choicesOf 69 = .ok (.lconst 0, 1) := by decide +kernel
theorem dX3_choicesOf_70 : decode cX3_choicesOf 70 = .ok (.lcmp, 1) := by decide +kernel
theorem dX3_choicesOf_71 : decode cX3_choicesOf 71 = .ok (.ifCond .eq 5, 3) := by decide +kernel
theorem dX3_choicesOf_74 : decode cX3_choicesOf 74 = .ok (.lload_n 2, 1) := by decide +kernel
theorem dX3_choicesOf_75 : decode cX3_choicesOf 75 = .ok (.lreturn, 1) := by decide +kernel
theorem dX3_choicesOf_76 : decode cX3_choicesOf 76 = .ok (.lload_n 2, 1) := by decide +kernel
theorem dX3_choicesOf_77 : decode cX3_choicesOf 77 = .ok (.lload 5, 2) := by decide +kernel
theorem dX3_choicesOf_79 : decode cX3_choicesOf 79 = .ok (.land, 1) := by decide +kernel
theorem dX3_choicesOf_80 : decode cX3_choicesOf 80 = .ok (.lreturn, 1) := by decide +kernel
theorem dX3_settle_0 : decode cX3_settle 0 = .ok (.aload_n 0, 1) := by decide +kernel
theorem dX3_settle_1 : decode cX3_settle 1 = .ok (.getfield 30, 3) := by decide +kernel
theorem dX3_settle_4 : decode cX3_settle 4 = .ok (.iconst 0, 1) := by decide +kernel
theorem dX3_settle_5 : decode cX3_settle 5 = .ok (.dup2, 1) := by decide +kernel
theorem dX3_settle_6 : decode cX3_settle 6 = .ok (.laload, 1) := by decide +kernel
theorem dX3_settle_7 : decode cX3_settle 7 = .ok (.lconst 1, 1) := by decide +kernel
theorem dX3_settle_8 : decode cX3_settle 8 = .ok (.iload_n 1, 1) := by decide +kernel
theorem dX3_settle_9 : decode cX3_settle 9 = .ok (.lshl, 1) := by decide +kernel
theorem dX3_settle_10 : decode cX3_settle 10 = .ok (.ldc2_w 110, 3) := by decide +kernel
theorem dX3_settle_13 : decode cX3_settle 13 = .ok (.lxor, 1) := by decide +kernel
theorem dX3_settle_14 : decode cX3_settle 14 = .ok (.land, 1) := by decide +kernel
theorem dX3_settle_15 : decode cX3_settle 15 = .ok (.lastore, 1) := by decide +kernel
theorem dX3_settle_16 : decode cX3_settle 16 = .ok (.lload_n 2, 1) := by decide +kernel
theorem dX3_settle_17 : decode cX3_settle 17 = .ok (.lconst 0, 1) := by decide +kernel
theorem dX3_settle_18 : decode cX3_settle 18 = .ok (.lcmp, 1) := by decide +kernel
theorem dX3_settle_19 : decode cX3_settle 19 = .ok (.ifCond .ne 4, 3) := by decide +kernel
theorem dX3_settle_22 : decode cX3_settle 22 = .ok (.return_, 1) := by decide +kernel
theorem dX3_settle_23 : decode cX3_settle 23 = .ok (.lload_n 2, 1) := by decide +kernel
theorem dX3_settle_24 : decode cX3_settle 24 = .ok (.invokestatic 93, 3) := by decide +kernel
theorem dX3_settle_27 : decode cX3_settle 27 = .ok (.istore 4, 2) := by decide +kernel
theorem dX3_settle_29 : decode cX3_settle 29 = .ok (.aload_n 0, 1) := by decide +kernel
theorem dX3_settle_30 : decode cX3_settle 30 = .ok (.getfield 30, 3) := by decide +kernel
theorem dX3_settle_33 : decode cX3_settle 33 = .ok (.iconst 1, 1) := by decide +kernel
theorem dX3_settle_34 : decode cX3_settle 34 = .ok (.dup2, 1) := by decide +kernel
theorem dX3_settle_35 : decode cX3_settle 35 = .ok (.laload, 1) := by decide +kernel
theorem dX3_settle_36 : decode cX3_settle 36 = .ok (.lconst 1, 1) := by decide +kernel
theorem dX3_settle_37 : decode cX3_settle 37 = .ok (.iload 4, 2) := by decide +kernel
theorem dX3_settle_39 : decode cX3_settle 39 = .ok (.lshl, 1) := by decide +kernel
theorem dX3_settle_40 : decode cX3_settle 40 = .ok (.ldc2_w 110, 3) := by decide +kernel
theorem dX3_settle_43 : decode cX3_settle 43 = .ok (.lxor, 1) := by decide +kernel
theorem dX3_settle_44 : decode cX3_settle 44 = .ok (.land, 1) := by decide +kernel
theorem dX3_settle_45 : decode cX3_settle 45 = .ok (.lastore, 1) := by decide +kernel
theorem dX3_settle_46 : decode cX3_settle 46 = .ok (.aload_n 0, 1) := by decide +kernel
theorem dX3_settle_47 : decode cX3_settle 47 = .ok (.getfield 23, 3) := by decide +kernel
theorem dX3_settle_50 : decode cX3_settle 50 = .ok (.iconst 0, 1) := by decide +kernel
theorem dX3_settle_51 : decode cX3_settle 51 = .ok (.aaload, 1) := by decide +kernel
theorem dX3_settle_52 : decode cX3_settle 52 = .ok (.iload_n 1, 1) := by decide +kernel
theorem dX3_settle_53 : decode cX3_settle 53 = .ok (.iaload, 1) := by decide +kernel
theorem dX3_settle_54 : decode cX3_settle 54 = .ok (.iload 4, 2) := by decide +kernel
theorem dX3_settle_56 : decode cX3_settle 56 = .ok (.if_icmp .eq 28, 3) := by decide +kernel
theorem dX3_settle_59 : decode cX3_settle 59 = .ok (.aload_n 0, 1) := by decide +kernel
theorem dX3_settle_60 : decode cX3_settle 60 = .ok (.iconst 0, 1) := by decide +kernel
theorem dX3_settle_61 : decode cX3_settle 61 = .ok (.iload_n 1, 1) := by decide +kernel
theorem dX3_settle_62 : decode cX3_settle 62 = .ok (.invokevirtual 137, 3) := by decide +kernel
theorem dX3_settle_65 : decode cX3_settle 65 = .ok (.aload_n 0, 1) := by decide +kernel
theorem dX3_settle_66 : decode cX3_settle 66 = .ok (.iconst 1, 1) := by decide +kernel
theorem dX3_settle_67 : decode cX3_settle 67 = .ok (.iload 4, 2) := by decide +kernel
theorem dX3_settle_69 : decode cX3_settle 69 = .ok (.invokevirtual 137, 3) := by decide +kernel
theorem dX3_settle_72 : decode cX3_settle 72 = .ok (.aload_n 0, 1) := by decide +kernel
theorem dX3_settle_73 : decode cX3_settle 73 = .ok (.iload_n 1, 1) := by decide +kernel
theorem dX3_settle_74 : decode cX3_settle 74 = .ok (.iload 4, 2) := by decide +kernel
theorem dX3_settle_76 : decode cX3_settle 76 = .ok (.invokevirtual 123, 3) := by decide +kernel
theorem dX3_settle_79 : decode cX3_settle 79 = .ok (.aload_n 0, 1) := by decide +kernel
theorem dX3_settle_80 : decode cX3_settle 80 = .ok (.invokevirtual 58, 3) := by decide +kernel
theorem dX3_settle_83 : decode cX3_settle 83 = .ok (.pop, 1) := by decide +kernel
theorem dX3_settle_84 : decode cX3_settle 84 = .ok (.return_, 1) := by decide +kernel
theorem dX3_findParts_0 : decode cX3_findParts 0 = .ok (.aload_n 0, 1) := by decide +kernel
theorem dX3_findParts_1 : decode cX3_findParts 1 = .ok (.getfield 35, 3) := by decide +kernel
theorem dX3_findParts_4 : decode cX3_findParts 4 = .ok (.iconst 0, 1) := by decide +kernel
theorem dX3_findParts_5 : decode cX3_findParts 5 = .ok (.aaload, 1) := by decide +kernel
theorem dX3_findParts_6 : decode cX3_findParts 6 = .ok (.iconst 0, 1) := by decide +kernel
theorem dX3_findParts_7 : decode cX3_findParts 7 = .ok (.aload_n 0, 1) := by decide +kernel
theorem dX3_findParts_8 : decode cX3_findParts 8 = .ok (.iconst 0, 1) := by decide +kernel
theorem dX3_findParts_9 : decode cX3_findParts 9 = .ok (.aload_n 0, 1) := by decide +kernel
theorem dX3_findParts_10 : decode cX3_findParts 10 = .ok (.iconst 0, 1) := by decide +kernel
theorem dX3_findParts_11 : decode cX3_findParts 11 = .ok (.invokevirtual 112, 3) := by decide +kernel
theorem dX3_findParts_14 : decode cX3_findParts 14 = .ok (.invokevirtual 131, 3) := by decide +kernel
theorem dX3_findParts_17 : decode cX3_findParts 17 = .ok (.lastore, 1) := by decide +kernel
theorem dX3_findParts_18 : decode cX3_findParts 18 = .ok (.aload_n 0, 1) := by decide +kernel
theorem dX3_findParts_19 : decode cX3_findParts 19 = .ok (.getfield 35, 3) := by decide +kernel
theorem dX3_findParts_22 : decode cX3_findParts 22 = .ok (.iconst 1, 1) := by decide +kernel
theorem dX3_findParts_23 : decode cX3_findParts 23 = .ok (.aaload, 1) := by decide +kernel
theorem dX3_findParts_24 : decode cX3_findParts 24 = .ok (.iconst 0, 1) := by decide +kernel
theorem dX3_findParts_25 : decode cX3_findParts 25 = .ok (.aload_n 0, 1) := by decide +kernel
theorem dX3_findParts_26 : decode cX3_findParts 26 = .ok (.getfield 9, 3) := by decide +kernel
theorem dX3_findParts_29 : decode cX3_findParts 29 = .ok (.iconst 0, 1) := by decide +kernel
theorem dX3_findParts_30 : decode cX3_findParts 30 = .ok (.aload_n 0, 1) := by decide +kernel
theorem dX3_findParts_31 : decode cX3_findParts 31 = .ok (.getfield 35, 3) := by decide +kernel
theorem dX3_findParts_34 : decode cX3_findParts 34 = .ok (.iconst 0, 1) := by decide +kernel
theorem dX3_findParts_35 : decode cX3_findParts 35 = .ok (.aaload, 1) := by decide +kernel
theorem dX3_findParts_36 : decode cX3_findParts 36 = .ok (.iconst 0, 1) := by decide +kernel
theorem dX3_findParts_37 : decode cX3_findParts 37 = .ok (.laload, 1) := by decide +kernel
theorem dX3_findParts_38 : decode cX3_findParts 38 = .ok (.invokevirtual 134, 3) := by decide +kernel
theorem dX3_findParts_41 : decode cX3_findParts 41 = .ok (.lastore, 1) := by decide +kernel
theorem dX3_findParts_42 : decode cX3_findParts 42 = .ok (.aload_n 0, 1) := by decide +kernel
theorem dX3_findParts_43 : decode cX3_findParts 43 = .ok (.getfield 35, 3) := by decide +kernel
theorem dX3_findParts_46 : decode cX3_findParts 46 = .ok (.iconst 1, 1) := by decide +kernel
theorem dX3_findParts_47 : decode cX3_findParts 47 = .ok (.aaload, 1) := by decide +kernel
theorem dX3_findParts_48 : decode cX3_findParts 48 = .ok (.iconst 2, 1) := by decide +kernel
theorem dX3_findParts_49 : decode cX3_findParts 49 = .ok (.aload_n 0, 1) := by decide +kernel
theorem dX3_findParts_50 : decode cX3_findParts 50 = .ok (.iconst 1, 1) := by decide +kernel
theorem dX3_findParts_51 : decode cX3_findParts 51 = .ok (.aload_n 0, 1) := by decide +kernel
theorem dX3_findParts_52 : decode cX3_findParts 52 = .ok (.iconst 1, 1) := by decide +kernel
theorem dX3_findParts_53 : decode cX3_findParts 53 = .ok (.invokevirtual 112, 3) := by decide +kernel
theorem dX3_findParts_56 : decode cX3_findParts 56 = .ok (.invokevirtual 131, 3) := by decide +kernel
theorem dX3_findParts_59 : decode cX3_findParts 59 = .ok (.lastore, 1) := by decide +kernel
theorem dX3_findParts_60 : decode cX3_findParts 60 = .ok (.aload_n 0, 1) := by decide +kernel
theorem dX3_findParts_61 : decode cX3_findParts 61 = .ok (.getfield 35, 3) := by decide +kernel
theorem dX3_findParts_64 : decode cX3_findParts 64 = .ok (.iconst 0, 1) := by decide +kernel
theorem dX3_findParts_65 : decode cX3_findParts 65 = .ok (.aaload, 1) := by decide +kernel
theorem dX3_findParts_66 : decode cX3_findParts 66 = .ok (.iconst 2, 1) := by decide +kernel
theorem dX3_findParts_67 : decode cX3_findParts 67 = .ok (.aload_n 0, 1) := by decide +kernel
theorem dX3_findParts_68 : decode cX3_findParts 68 = .ok (.getfield 9, 3) := by decide +kernel
theorem dX3_findParts_71 : decode cX3_findParts 71 = .ok (.iconst 1, 1) := by decide +kernel
theorem dX3_findParts_72 : decode cX3_findParts 72 = .ok (.aload_n 0, 1) := by decide +kernel
theorem dX3_findParts_73 : decode cX3_findParts 73 = .ok (.getfield 35, 3) := by decide +kernel
theorem dX3_findParts_76 : decode cX3_findParts 76 = .ok (.iconst 1, 1) := by decide +kernel
theorem dX3_findParts_77 : decode cX3_findParts 77 = .ok (.aaload, 1) := by decide +kernel
theorem dX3_findParts_78 : decode cX3_findParts 78 = .ok (.iconst 2, 1) := by decide +kernel
theorem dX3_findParts_79 : decode cX3_findParts 79 = .ok (.laload, 1) := by decide +kernel
theorem dX3_findParts_80 : decode cX3_findParts 80 = .ok (.invokevirtual 134, 3) := by decide +kernel
theorem dX3_findParts_83 : decode cX3_findParts 83 = .ok (.lastore, 1) := by decide +kernel
theorem dX3_findParts_84 : decode cX3_findParts 84 = .ok (.iconst 0, 1) := by decide +kernel
theorem dX3_findParts_85 : decode cX3_findParts 85 = .ok (.istore_n 1, 1) := by decide +kernel
theorem dX3_findParts_86 : decode cX3_findParts 86 = .ok (.iload_n 1, 1) := by decide +kernel
theorem dX3_findParts_87 : decode cX3_findParts 87 = .ok (.iconst 1, 1) := by decide +kernel
theorem dX3_findParts_88 : decode cX3_findParts 88 = .ok (.if_icmp .gt 51, 3) := by decide +kernel
theorem dX3_findParts_91 : decode cX3_findParts 91 = .ok (.aload_n 0, 1) := by decide +kernel
theorem dX3_findParts_92 : decode cX3_findParts 92 = .ok (.getfield 35, 3) := by decide +kernel
theorem dX3_findParts_95 : decode cX3_findParts 95 = .ok (.iload_n 1, 1) := by decide +kernel
theorem dX3_findParts_96 : decode cX3_findParts 96 = .ok (.aaload, 1) := by decide +kernel
theorem dX3_findParts_97 : decode cX3_findParts 97 = .ok (.iconst 1, 1) := by decide +kernel
theorem dX3_findParts_98 : decode cX3_findParts 98 = .ok (.aload_n 0, 1) := by decide +kernel
theorem dX3_findParts_99 : decode cX3_findParts 99 = .ok (.getfield 9, 3) := by decide +kernel
theorem dX3_findParts_102 : decode cX3_findParts 102 = .ok (.iload_n 1, 1) := by decide +kernel
theorem dX3_findParts_103 : decode cX3_findParts 103 = .ok (.invokevirtual 84, 3) := by decide +kernel
theorem dX3_findParts_106 : decode cX3_findParts 106 = .ok (.aload_n 0, 1) := by decide +kernel
theorem dX3_findParts_107 : decode cX3_findParts 107 = .ok (.getfield 35, 3) := by decide +kernel
theorem dX3_findParts_110 : decode cX3_findParts 110 = .ok (.iload_n 1, 1) := by decide +kernel
theorem dX3_findParts_111 : decode cX3_findParts 111 = .ok (.aaload, 1) := by decide +kernel
theorem dX3_findParts_112 : decode cX3_findParts 112 = .ok (.iconst 0, 1) := by decide +kernel
theorem dX3_findParts_113 : decode cX3_findParts 113 = .ok (.laload, 1) := by decide +kernel
theorem dX3_findParts_114 : decode cX3_findParts 114 = .ok (.ldc2_w 110, 3) := by decide +kernel
theorem dX3_findParts_117 : decode cX3_findParts 117 = .ok (.lxor, 1) := by decide +kernel
theorem dX3_findParts_118 : decode cX3_findParts 118 = .ok (.land, 1) := by decide +kernel
theorem dX3_findParts_119 : decode cX3_findParts 119 = .ok (.aload_n 0, 1) := by decide +kernel
theorem dX3_findParts_120 : decode cX3_findParts 120 = .ok (.getfield 35, 3) := by decide +kernel
theorem dX3_findParts_123 : decode cX3_findParts 123 = .ok (.iload_n 1, 1) := by decide +kernel
theorem dX3_findParts_124 : decode cX3_findParts 124 = .ok (.aaload, 1) := by decide +kernel
theorem dX3_findParts_125 : decode cX3_findParts 125 = .ok (.iconst 2, 1) := by decide +kernel
theorem dX3_findParts_126 : decode cX3_findParts 126 = .ok (.laload, 1) := by decide +kernel
theorem dX3_findParts_127 : decode cX3_findParts 127 = .ok (.ldc2_w 110, 3) := by decide +kernel
theorem dX3_findParts_130 : decode cX3_findParts 130 = .ok (.lxor, 1) := by decide +kernel
theorem dX3_findParts_131 : decode cX3_findParts 131 = .ok (.land, 1) := by decide +kernel
theorem dX3_findParts_132 : decode cX3_findParts 132 = .ok (.lastore, 1) := by decide +kernel
theorem dX3_findParts_133 : decode cX3_findParts 133 = .ok (.iinc 1 1, 3) := by decide +kernel
theorem dX3_findParts_136 : decode cX3_findParts 136 = .ok (.goto (-50), 3) := by decide +kernel
theorem dX3_findParts_139 : decode cX3_findParts 139 = .ok (.return_, 1) := by decide +kernel
theorem dX4_init_0 : decode cX4_init 0 = .ok (.aload_n 0, 1) := by decide +kernel
theorem dX4_init_1 : decode cX4_init 1 = .ok (.invokespecial 3, 3) := by decide +kernel
theorem dX4_init_4 : decode cX4_init 4 = .ok (.aload_n 0, 1) := by decide +kernel
theorem dX4_init_5 : decode cX4_init 5 = .ok (.aload_n 1, 1) := by decide +kernel
theorem dX4_init_6 : decode cX4_init 6 = .ok (.putfield 9, 3) := by decide +kernel
theorem dX4_init_9 : decode cX4_init 9 = .ok (.aload_n 0, 1) := by decide +kernel
theorem dX4_init_10 : decode cX4_init 10 = .ok (.aload_n 2, 1) := by decide +kernel
theorem dX4_init_11 : decode cX4_init 11 = .ok (.putfield 15, 3) := by decide +kernel
theorem dX4_init_14 : decode cX4_init 14 = .ok (.aload_n 0, 1) := by decide +kernel
theorem dX4_init_15 : decode cX4_init 15 = .ok (.bipush 16, 2) := by decide +kernel
theorem dX4_init_17 : decode cX4_init 17 = .ok (.newarray .long, 2) := by decide +kernel
theorem dX4_init_19 : decode cX4_init 19 = .ok (.putfield 19, 3) := by decide +kernel
theorem dX4_init_22 : decode cX4_init 22 = .ok (.aload_n 0, 1) := by decide +kernel
theorem dX4_init_23 : decode cX4_init 23 = .ok (.bipush 16, 2) := by decide +kernel
theorem dX4_init_25 : decode cX4_init 25 = .ok (.newarray .int, 2) := by decide +kernel
theorem dX4_init_27 : decode cX4_init 27 = .ok (.putfield 23, 3) := by decide +kernel
theorem dX4_init_30 : decode cX4_init 30 = .ok (.aload_n 0, 1) := by decide +kernel
theorem dX4_init_31 : decode cX4_init 31 = .ok (.iconst 1, 1) := by decide +kernel
theorem dX4_init_32 : decode cX4_init 32 = .ok (.newarray .long, 2) := by decide +kernel
theorem dX4_init_34 : decode cX4_init 34 = .ok (.putfield 27, 3) := by decide +kernel
theorem dX4_init_37 : decode cX4_init 37 = .ok (.aload_n 0, 1) := by decide +kernel
theorem dX4_init_38 : decode cX4_init 38 = .ok (.lconst 1, 1) := by decide +kernel
theorem dX4_init_39 : decode cX4_init 39 = .ok (.putfield 30, 3) := by decide +kernel
theorem dX4_init_42 : decode cX4_init 42 = .ok (.aload_n 0, 1) := by decide +kernel
theorem dX4_init_43 : decode cX4_init 43 = .ok (.iconst (-1), 1) := by decide +kernel
theorem dX4_init_44 : decode cX4_init 44 = .ok (.putfield 34, 3) := by decide +kernel
theorem dX4_init_47 : decode cX4_init 47 = .ok (.return_, 1) := by decide +kernel
theorem dX4_refresh_0 : decode cX4_refresh 0 = .ok (.aload_n 0, 1) := by decide +kernel
theorem dX4_refresh_1 : decode cX4_refresh 1 = .ok (.getfield 34, 3) := by decide +kernel
theorem dX4_refresh_4 : decode cX4_refresh 4 = .ok (.aload_n 0, 1) := by decide +kernel
theorem dX4_refresh_5 : decode cX4_refresh 5 = .ok (.getfield 9, 3) := by decide +kernel
theorem dX4_refresh_8 : decode cX4_refresh 8 = .ok (.invokevirtual 38, 3) := by decide +kernel
theorem dX4_refresh_11 : decode cX4_refresh 11 = .ok (.if_icmp .ne 4, 3) := by decide +kernel
theorem dX4_refresh_14 : decode cX4_refresh 14 = .ok (.return_, 1) := by decide +kernel
theorem dX4_refresh_15 : decode cX4_refresh 15 = .ok (.aload_n 0, 1) := by decide +kernel
theorem dX4_refresh_16 : decode cX4_refresh 16 = .ok (.aload_n 0, 1) := by decide +kernel
theorem dX4_refresh_17 : decode cX4_refresh 17 = .ok (.getfield 9, 3) := by decide +kernel
theorem dX4_refresh_20 : decode cX4_refresh 20 = .ok (.invokevirtual 38, 3) := by decide +kernel
theorem dX4_refresh_23 : decode cX4_refresh 23 = .ok (.putfield 34, 3) := by decide +kernel
theorem dX4_refresh_26 : decode cX4_refresh 26 = .ok (.iconst 0, 1) := by decide +kernel
theorem dX4_refresh_27 : decode cX4_refresh 27 = .ok (.istore_n 1, 1) := by decide +kernel
theorem dX4_refresh_28 : decode cX4_refresh 28 = .ok (.iload_n 1, 1) := by decide +kernel
theorem dX4_refresh_29 : decode cX4_refresh 29 = .ok (.aload_n 0, 1) := by decide +kernel
theorem dX4_refresh_30 : decode cX4_refresh 30 = .ok (.invokevirtual 44, 3) := by decide +kernel
theorem dX4_refresh_33 : decode cX4_refresh 33 = .ok (.if_icmp .ge 23, 3) := by decide +kernel
theorem dX4_refresh_36 : decode cX4_refresh 36 = .ok (.aload_n 0, 1) := by decide +kernel
theorem dX4_refresh_37 : decode cX4_refresh 37 = .ok (.getfield 19, 3) := by decide +kernel
theorem dX4_refresh_40 : decode cX4_refresh 40 = .ok (.iload_n 1, 1) := by decide +kernel
theorem dX4_refresh_41 : decode cX4_refresh 41 = .ok (.aload_n 0, 1) := by decide +kernel
theorem dX4_refresh_42 : decode cX4_refresh 42 = .ok (.getfield 15, 3) := by decide +kernel
theorem dX4_refresh_45 : decode cX4_refresh 45 = .ok (.iload_n 1, 1) := by decide +kernel
theorem dX4_refresh_46 : decode cX4_refresh 46 = .ok (.invokevirtual 47, 3) := by decide +kernel
theorem dX4_refresh_49 : decode cX4_refresh 49 = .ok (.lastore, 1) := by decide +kernel
theorem dX4_refresh_50 : decode cX4_refresh 50 = .ok (.iinc 1 1, 3) := by decide +kernel
theorem dX4_refresh_53 : decode cX4_refresh 53 = .ok (.goto (-25), 3) := by decide +kernel
theorem dX4_refresh_56 : decode cX4_refresh 56 = .ok (.aload_n 0, 1) := by decide +kernel
theorem dX4_refresh_57 : decode cX4_refresh 57 = .ok (.lconst 1, 1) := by decide +kernel
theorem dX4_refresh_58 : decode cX4_refresh 58 = .ok (.putfield 30, 3) := by decide +kernel
theorem dX4_refresh_61 : decode cX4_refresh 61 = .ok (.aload_n 0, 1) := by decide +kernel
theorem dX4_refresh_62 : decode cX4_refresh 62 = .ok (.getfield 9, 3) := by decide +kernel
theorem dX4_refresh_65 : decode cX4_refresh 65 = .ok (.iconst 0, 1) := by decide +kernel
theorem dX4_refresh_66 : decode cX4_refresh 66 = .ok (.invokevirtual 53, 3) := by decide +kernel
theorem dX4_refresh_69 : decode cX4_refresh 69 = .ok (.lstore_n 1, 1) := by decide +kernel
theorem dX4_refresh_70 : decode cX4_refresh 70 = .ok (.iconst 0, 1) := by decide +kernel
theorem dX4_refresh_71 : decode cX4_refresh 71 = .ok (.istore_n 3, 1) := by decide +kernel
theorem dX4_refresh_72 : decode cX4_refresh 72 = .ok (.iload_n 3, 1) := by decide +kernel
theorem dX4_refresh_73 : decode cX4_refresh 73 = .ok (.aload_n 0, 1) := by decide +kernel
theorem dX4_refresh_74 : decode cX4_refresh 74 = .ok (.invokevirtual 44, 3) := by decide +kernel
theorem dX4_refresh_77 : decode cX4_refresh 77 = .ok (.if_icmp .ge 48, 3) := by decide +kernel
theorem dX4_refresh_80 : decode cX4_refresh 80 = .ok (.lload_n 1, 1) := by decide +kernel
theorem dX4_refresh_81 : decode cX4_refresh 81 = .ok (.iload_n 3, 1) := by decide +kernel
theorem dX4_refresh_82 : decode cX4_refresh 82 = .ok (.invokestatic 56, 3) := by decide +kernel
theorem dX4_refresh_85 : decode cX4_refresh 85 = .ok (.ifCond .eq 34, 3) := by decide +kernel
theorem dX4_refresh_88 : decode cX4_refresh 88 = .ok (.aload_n 0, 1) := by decide +kernel
theorem dX4_refresh_89 : decode cX4_refresh 89 = .ok (.iload_n 3, 1) := by decide +kernel
theorem dX4_refresh_90 : decode cX4_refresh 90 = .ok (.invokevirtual 60, 3) := by decide +kernel
theorem dX4_refresh_93 : decode cX4_refresh 93 = .ok (.lstore 4, 2) := by decide +kernel
theorem dX4_refresh_95 : decode cX4_refresh 95 = .ok (.lload_n 1, 1) := by decide +kernel
theorem dX4_refresh_96 : decode cX4_refresh 96 = .ok (.lload 4, 2) := by decide +kernel
theorem dX4_refresh_98 : decode cX4_refresh 98 = .ok (.ldc2_w 63, 3) := by decide +kernel
theorem dX4_refresh_101 : decode cX4_refresh 101 = .ok (.lxor, 1) := by decide +kernel
theorem dX4_refresh_102 : decode cX4_refresh 102 = .ok (.land, 1) := by decide +kernel
theorem dX4_refresh_103 : decode cX4_refresh 103 = .ok (.lstore_n 1, 1) := by decide +kernel
theorem dX4_refresh_104 : decode cX4_refresh 104 = .ok (.aload_n 0, 1) := by decide +kernel
theorem dX4_refresh_105 : decode cX4_refresh 105 = .ok (.dup, 1) := by decide +kernel
theorem dX4_refresh_106 : decode cX4_refresh 106 = .ok (.getfield 30, 3) := by decide +kernel
theorem dX4_refresh_109 : decode cX4_refresh 109 = .ok (.aload_n 0, 1) := by decide +kernel
theorem dX4_refresh_110 : decode cX4_refresh 110 = .ok (.lload 4, 2) := by decide +kernel
theorem dX4_refresh_112 : decode cX4_refresh 112 = .ok (.invokevirtual 65, 3) := by decide +kernel
theorem dX4_refresh_115 : decode cX4_refresh 115 = .ok (.lmul, 1) := by decide +kernel
theorem dX4_refresh_116 : decode cX4_refresh 116 = .ok (.putfield 30, 3) := by decide +kernel
theorem dX4_refresh_119 : decode cX4_refresh 119 = .ok (.iinc 3 1, 3) := by decide +kernel
theorem dX4_refresh_122 : decode cX4_refresh 122 = .ok (.goto (-50), 3) := by decide +kernel
theorem dX4_refresh_125 : decode cX4_refresh 125 = .ok (.return_, 1) := by decide +kernel
theorem dX4_total_0 : decode cX4_total 0 = .ok (.aload_n 0, 1) := by decide +kernel
theorem dX4_total_1 : decode cX4_total 1 = .ok (.getfield 30, 3) := by decide +kernel
theorem dX4_total_4 : decode cX4_total 4 = .ok (.lreturn, 1) := by decide +kernel
theorem dX4_lefts_0 : decode cX4_lefts 0 = .ok (.aload_n 0, 1) := by decide +kernel
theorem dX4_lefts_1 : decode cX4_lefts 1 = .ok (.getfield 9, 3) := by decide +kernel
theorem dX4_lefts_4 : decode cX4_lefts 4 = .ok (.iconst 0, 1) := by decide +kernel
theorem dX4_lefts_5 : decode cX4_lefts 5 = .ok (.invokevirtual 69, 3) := by decide +kernel
theorem dX4_lefts_8 : decode cX4_lefts 8 = .ok (.bipush 16, 2) := by decide +kernel
theorem dX4_lefts_10 : decode cX4_lefts 10 = .ok (.invokestatic 73, 3) := by decide +kernel
theorem dX4_lefts_13 : decode cX4_lefts 13 = .ok (.ireturn, 1) := by decide +kernel
theorem dX4_pieceOf_0 : decode cX4_pieceOf 0 = .ok (.lconst 1, 1) := by decide +kernel
theorem dX4_pieceOf_1 : decode cX4_pieceOf 1 = .ok (.iload_n 1, 1) := by decide +kernel
theorem dX4_pieceOf_2 : decode cX4_pieceOf 2 = .ok (.lshl, 1) := by decide +kernel
theorem dX4_pieceOf_3 : decode cX4_pieceOf 3 = .ok (.lstore_n 2, 1) := by decide +kernel
theorem dX4_pieceOf_4 : decode cX4_pieceOf 4 = .ok (.aload_n 0, 1) := by decide +kernel
theorem dX4_pieceOf_5 : decode cX4_pieceOf 5 = .ok (.getfield 19, 3) := by decide +kernel
theorem dX4_pieceOf_8 : decode cX4_pieceOf 8 = .ok (.iload_n 1, 1) := by decide +kernel
theorem dX4_pieceOf_9 : decode cX4_pieceOf 9 = .ok (.laload, 1) := by decide +kernel
theorem dX4_pieceOf_10 : decode cX4_pieceOf 10 = .ok (.lstore 4, 2) := by decide +kernel
theorem dX4_pieceOf_12 : decode cX4_pieceOf 12 = .ok (.iconst 1, 1) := by decide +kernel
theorem dX4_pieceOf_13 : decode cX4_pieceOf 13 = .ok (.istore 6, 2) := by decide +kernel
theorem dX4_pieceOf_15 : decode cX4_pieceOf 15 = .ok (.iload 6, 2) := by decide +kernel
theorem dX4_pieceOf_17 : decode cX4_pieceOf 17 = .ok (.aload_n 0, 1) := by decide +kernel
theorem dX4_pieceOf_18 : decode cX4_pieceOf 18 = .ok (.invokevirtual 44, 3) := by decide +kernel
theorem dX4_pieceOf_21 : decode cX4_pieceOf 21 = .ok (.if_icmp .ge 61, 3) := by decide +kernel
theorem dX4_pieceOf_24 : decode cX4_pieceOf 24 = .ok (.iconst 0, 1) := by decide +kernel
theorem dX4_pieceOf_25 : decode cX4_pieceOf 25 = .ok (.istore 7, 2) := by decide +kernel
theorem dX4_pieceOf_27 : decode cX4_pieceOf 27 = .ok (.iload 7, 2) := by decide +kernel
theorem dX4_pieceOf_29 : decode cX4_pieceOf 29 = .ok (.aload_n 0, 1) := by decide +kernel
theorem dX4_pieceOf_30 : decode cX4_pieceOf 30 = .ok (.invokevirtual 44, 3) := by decide +kernel
theorem dX4_pieceOf_33 : decode cX4_pieceOf 33 = .ok (.if_icmp .ge 43, 3) := by decide +kernel
theorem dX4_pieceOf_36 : decode cX4_pieceOf 36 = .ok (.aload_n 0, 1) := by decide +kernel
theorem dX4_pieceOf_37 : decode cX4_pieceOf 37 = .ok (.getfield 19, 3) := by decide +kernel
theorem dX4_pieceOf_40 : decode cX4_pieceOf 40 = .ok (.iload 7, 2) := by decide +kernel
theorem dX4_pieceOf_42 : decode cX4_pieceOf 42 = .ok (.laload, 1) := by decide +kernel
theorem dX4_pieceOf_43 : decode cX4_pieceOf 43 = .ok (.lload 4, 2) := by decide +kernel
theorem dX4_pieceOf_45 : decode cX4_pieceOf 45 = .ok (.land, 1) := by decide +kernel
theorem dX4_pieceOf_46 : decode cX4_pieceOf 46 = .ok (.lconst 0, 1) := by decide +kernel
theorem dX4_pieceOf_47 : decode cX4_pieceOf 47 = .ok (.lcmp, 1) := by decide +kernel
theorem dX4_pieceOf_48 : decode cX4_pieceOf 48 = .ok (.ifCond .eq 22, 3) := by decide +kernel
theorem dX4_pieceOf_51 : decode cX4_pieceOf 51 = .ok (.lload_n 2, 1) := by decide +kernel
theorem dX4_pieceOf_52 : decode cX4_pieceOf 52 = .ok (.lconst 1, 1) := by decide +kernel
theorem dX4_pieceOf_53 : decode cX4_pieceOf 53 = .ok (.iload 7, 2) := by decide +kernel
theorem dX4_pieceOf_55 : decode cX4_pieceOf 55 = .ok (.lshl, 1) := by decide +kernel
theorem dX4_pieceOf_56 : decode cX4_pieceOf 56 = .ok (.lor, 1) := by decide +kernel
theorem dX4_pieceOf_57 : decode cX4_pieceOf 57 = .ok (.lstore_n 2, 1) := by decide +kernel
theorem dX4_pieceOf_58 : decode cX4_pieceOf 58 = .ok (.lload 4, 2) := by decide +kernel
theorem dX4_pieceOf_60 : decode cX4_pieceOf 60 = .ok (.aload_n 0, 1) := by decide +kernel
theorem dX4_pieceOf_61 : decode cX4_pieceOf 61 = .ok (.getfield 19, 3) := by decide +kernel
theorem dX4_pieceOf_64 : decode cX4_pieceOf 64 = .ok (.iload 7, 2) := by decide +kernel
theorem dX4_pieceOf_66 : decode cX4_pieceOf 66 = .ok (.laload, 1) := by decide +kernel
theorem dX4_pieceOf_67 : decode cX4_pieceOf 67 = .ok (.lor, 1) := by decide +kernel
theorem dX4_pieceOf_68 : decode cX4_pieceOf 68 = .ok (.lstore 4, 2) := by decide +kernel
theorem dX4_pieceOf_70 : decode cX4_pieceOf 70 = .ok (.iinc 7 1, 3) := by decide +kernel
theorem dX4_pieceOf_73 : decode cX4_pieceOf 73 = .ok (.goto (-46), 3) := by decide +kernel
theorem dX4_pieceOf_76 : decode cX4_pieceOf 76 = .ok (.iinc 6 1, 3) := by decide +kernel
theorem dX4_pieceOf_79 : decode cX4_pieceOf 79 = .ok (.goto (-64), 3) := by decide +kernel
theorem dX4_pieceOf_82 : decode cX4_pieceOf 82 = .ok (.lload_n 2, 1) := by decide +kernel
theorem dX4_pieceOf_83 : decode cX4_pieceOf 83 = .ok (.lreturn, 1) := by decide +kernel
theorem dX4_waysToPair_0 : decode cX4_waysToPair 0 = .ok (.lconst 0, 1) := by decide +kernel
theorem dX4_waysToPair_1 : decode cX4_waysToPair 1 = .ok (.lstore_n 3, 1) := by decide +kernel
theorem dX4_waysToPair_2 : decode cX4_waysToPair 2 = .ok (.iconst 0, 1) := by decide +kernel
theorem dX4_waysToPair_3 : decode cX4_waysToPair 3 = .ok (.istore 5, 2) := by decide +kernel
theorem dX4_waysToPair_5 : decode cX4_waysToPair 5 = .ok (.iload 5, 2) := by decide +kernel
theorem dX4_waysToPair_7 : decode cX4_waysToPair 7 = .ok (.aload_n 0, 1) := by decide +kernel
theorem dX4_waysToPair_8 : decode cX4_waysToPair 8 = .ok (.invokevirtual 44, 3) := by decide +kernel
theorem dX4_waysToPair_11 : decode cX4_waysToPair 11 = .ok (.if_icmp .ge 28, 3) := by decide +kernel
theorem dX4_waysToPair_14 : decode cX4_waysToPair 14 = .ok (.lload_n 1, 1) := by decide +kernel
theorem dX4_waysToPair_15 : decode cX4_waysToPair 15 = .ok (.iload 5, 2) := by decide +kernel
theorem dX4_waysToPair_17 : decode cX4_waysToPair 17 = .ok (.invokestatic 56, 3) := by decide +kernel
theorem dX4_waysToPair_20 : decode cX4_waysToPair 20 = .ok (.ifCond .eq 13, 3) := by decide +kernel
theorem dX4_waysToPair_23 : decode cX4_waysToPair 23 = .ok (.lload_n 3, 1) := by decide +kernel
theorem dX4_waysToPair_24 : decode cX4_waysToPair 24 = .ok (.aload_n 0, 1) := by decide +kernel
theorem dX4_waysToPair_25 : decode cX4_waysToPair 25 = .ok (.getfield 19, 3) := by decide +kernel
theorem dX4_waysToPair_28 : decode cX4_waysToPair 28 = .ok (.iload 5, 2) := by decide +kernel
theorem dX4_waysToPair_30 : decode cX4_waysToPair 30 = .ok (.laload, 1) := by decide +kernel
theorem dX4_waysToPair_31 : decode cX4_waysToPair 31 = .ok (.lor, 1) := by decide +kernel
theorem dX4_waysToPair_32 : decode cX4_waysToPair 32 = .ok (.lstore_n 3, 1) := by decide +kernel
theorem dX4_waysToPair_33 : decode cX4_waysToPair 33 = .ok (.iinc 5 1, 3) := by decide +kernel
theorem dX4_waysToPair_36 : decode cX4_waysToPair 36 = .ok (.goto (-31), 3) := by decide +kernel
theorem dX4_waysToPair_39 : decode cX4_waysToPair 39 = .ok (.lload_n 1, 1) := by decide +kernel
theorem dX4_waysToPair_40 : decode cX4_waysToPair 40 = .ok (.invokestatic 79, 3) := by decide +kernel
theorem dX4_waysToPair_43 : decode cX4_waysToPair 43 = .ok (.istore 5, 2) := by decide +kernel
theorem dX4_waysToPair_45 : decode cX4_waysToPair 45 = .ok (.lload_n 3, 1) := by decide +kernel
theorem dX4_waysToPair_46 : decode cX4_waysToPair 46 = .ok (.invokestatic 79, 3) := by decide +kernel
theorem dX4_waysToPair_49 : decode cX4_waysToPair 49 = .ok (.istore 6, 2) := by decide +kernel
theorem dX4_waysToPair_51 : decode cX4_waysToPair 51 = .ok (.iload 5, 2) := by decide +kernel
theorem dX4_waysToPair_53 : decode cX4_waysToPair 53 = .ok (.iload 6, 2) := by decide +kernel
theorem dX4_waysToPair_55 : decode cX4_waysToPair 55 = .ok (.if_icmp .le 7, 3) := by decide +kernel
theorem dX4_waysToPair_58 : decode cX4_waysToPair 58 = .ok (.iconst 1, 1) := by decide +kernel
theorem dX4_waysToPair_59 : decode cX4_waysToPair 59 = .ok (.goto 4, 3) := by decide +kernel
theorem dX4_waysToPair_62 : decode cX4_waysToPair 62 = .ok (.iconst 0, 1) := by decide +kernel
theorem dX4_waysToPair_63 : decode cX4_waysToPair 63 = .ok (.istore 7, 2) := by decide +kernel
theorem dX4_waysToPair_65 : decode cX4_waysToPair 65 = .ok (.aload_n 0, 1) := by decide +kernel
theorem dX4_waysToPair_66 : decode cX4_waysToPair 66 = .ok (.lload_n 1, 1) := by decide +kernel
theorem dX4_waysToPair_67 : decode cX4_waysToPair 67 = .ok (.lload_n 3, 1) := by decide +kernel
theorem dX4_waysToPair_68 : decode cX4_waysToPair 68 = .ok (.iload 7, 2) := by decide +kernel
theorem dX4_waysToPair_70 : decode cX4_waysToPair 70 = .ok (.invokevirtual 85, 3) := by decide +kernel
theorem dX4_waysToPair_73 : decode cX4_waysToPair 73 = .ok (.iload 7, 2) := by decide +kernel
theorem dX4_waysToPair_75 : decode cX4_waysToPair 75 = .ok (.ifCond .eq 14, 3) := by decide +kernel
theorem dX4_waysToPair_78 : decode cX4_waysToPair 78 = .ok (.aload_n 0, 1) := by decide +kernel
theorem dX4_waysToPair_79 : decode cX4_waysToPair 79 = .ok (.iload 6, 2) := by decide +kernel
theorem dX4_waysToPair_81 : decode cX4_waysToPair 81 = .ok (.iload 5, 2) := by decide +kernel
theorem dX4_waysToPair_83 : decode cX4_waysToPair 83 = .ok (.invokevirtual 89, 3) := by decide +kernel
theorem dX4_waysToPair_86 : decode cX4_waysToPair 86 = .ok (.goto 11, 3) := by decide +kernel
theorem dX4_waysToPair_89 : decode cX4_waysToPair 89 = .ok (.aload_n 0, 1) := by decide +kernel
theorem dX4_waysToPair_90 : decode cX4_waysToPair 90 = .ok (.iload 5, 2) := by decide +kernel
theorem dX4_waysToPair_92 : decode cX4_waysToPair 92 = .ok (.iload 6, 2) := by decide +kernel
theorem dX4_waysToPair_94 : decode cX4_waysToPair 94 = .ok (.invokevirtual 89, 3) := by decide +kernel
theorem dX4_waysToPair_97 : decode cX4_waysToPair 97 = .ok (.lreturn, 1) := by decide +kernel
theorem dX4_setChoices_0 : decode cX4_setChoices 0 = .ok (.aload_n 0, 1) := by decide +kernel
theorem dX4_setChoices_1 : decode cX4_setChoices 1 = .ok (.getfield 23, 3) := by decide +kernel
theorem dX4_setChoices_4 : decode cX4_setChoices 4 = .ok (.iconst 0, 1) := by decide +kernel
theorem dX4_setChoices_5 : decode cX4_setChoices 5 = .ok (.invokestatic 93, 3) := by decide +kernel
theorem dX4_setChoices_8 : decode cX4_setChoices 8 = .ok (.iconst 0, 1) := by decide +kernel
theorem dX4_setChoices_9 : decode cX4_setChoices 9 = .ok (.istore 6, 2) := by decide +kernel
theorem dX4_setChoices_11 : decode cX4_setChoices 11 = .ok (.iconst 0, 1) := by decide +kernel
theorem dX4_setChoices_12 : decode cX4_setChoices 12 = .ok (.istore 7, 2) := by decide +kernel
theorem dX4_setChoices_14 : decode cX4_setChoices 14 = .ok (.iload 7, 2) := by decide +kernel
theorem dX4_setChoices_16 : decode cX4_setChoices 16 = .ok (.aload_n 0, 1) := by decide +kernel
theorem dX4_setChoices_17 : decode cX4_setChoices 17 = .ok (.invokevirtual 44, 3) := by decide +kernel
theorem dX4_setChoices_20 : decode cX4_setChoices 20 = .ok (.if_icmp .ge 115, 3) := by decide +kernel
theorem dX4_setChoices_23 : decode cX4_setChoices 23 = .ok (.lload_n 1, 1) := by decide +kernel
theorem dX4_setChoices_24 : decode cX4_setChoices 24 = .ok (.iload 7, 2) := by decide +kernel
theorem dX4_setChoices_26 : decode cX4_setChoices 26 = .ok (.invokestatic 56, 3) := by decide +kernel
theorem dX4_setChoices_29 : decode cX4_setChoices 29 = .ok (.ifCond .ne 6, 3) := by decide +kernel
theorem dX4_setChoices_32 : decode cX4_setChoices 32 = .ok (.goto 97, 3) := by decide +kernel
theorem dX4_setChoices_35 : decode cX4_setChoices 35 = .ok (.iconst 0, 1) := by decide +kernel
theorem dX4_setChoices_36 : decode cX4_setChoices 36 = .ok (.istore 8, 2) := by decide +kernel
theorem dX4_setChoices_38 : decode cX4_setChoices 38 = .ok (.iconst 0, 1) := by decide +kernel
theorem dX4_setChoices_39 : decode cX4_setChoices 39 = .ok (.istore 9, 2) := by decide +kernel
theorem dX4_setChoices_41 : decode cX4_setChoices 41 = .ok (.iload 9, 2) := by decide +kernel
theorem dX4_setChoices_43 : decode cX4_setChoices 43 = .ok (.bipush 16, 2) := by decide +kernel
theorem dX4_setChoices_45 : decode cX4_setChoices 45 = .ok (.if_icmp .ge 81, 3) := by decide +kernel
theorem dX4_setChoices_48 : decode cX4_setChoices 48 = .ok (.lload_n 3, 1) := by decide +kernel
theorem dX4_setChoices_49 : decode cX4_setChoices 49 = .ok (.iload 9, 2) := by decide +kernel
theorem dX4_setChoices_51 : decode cX4_setChoices 51 = .ok (.invokestatic 56, 3) := by decide +kernel
theorem dX4_setChoices_54 : decode cX4_setChoices 54 = .ok (.ifCond .ne 6, 3) := by decide +kernel
theorem dX4_setChoices_57 : decode cX4_setChoices 57 = .ok (.goto 63, 3) := by decide +kernel
theorem dX4_setChoices_60 : decode cX4_setChoices 60 = .ok (.aload_n 0, 1) := by decide +kernel
theorem dX4_setChoices_61 : decode cX4_setChoices 61 = .ok (.getfield 19, 3) := by decide +kernel
theorem dX4_setChoices_64 : decode cX4_setChoices 64 = .ok (.iload 7, 2) := by decide +kernel
theorem dX4_setChoices_66 : decode cX4_setChoices 66 = .ok (.laload, 1) := by decide +kernel
theorem dX4_setChoices_67 : decode cX4_setChoices 67 = .ok (.iload 9, 2) := by decide +kernel
theorem dX4_setChoices_69 : decode cX4_setChoices 69 = .ok (.invokestatic 56, 3) := by decide +kernel
theorem dX4_setChoices_72 : decode cX4_setChoices 72 = .ok (.ifCond .eq 45, 3) := by decide +kernel
theorem dX4_setChoices_75 : decode cX4_setChoices 75 = .ok (.iload 5, 2) := by decide +kernel
theorem dX4_setChoices_77 : decode cX4_setChoices 77 = .ok (.ifCond .eq 8, 3) := by decide +kernel
theorem dX4_setChoices_80 : decode cX4_setChoices 80 = .ok (.iload 8, 2) := by decide +kernel
theorem dX4_setChoices_82 : decode cX4_setChoices 82 = .ok (.goto 5, 3) := by decide +kernel
theorem dX4_setChoices_85 : decode cX4_setChoices 85 = .ok (.iload 6, 2) := by decide +kernel
theorem dX4_setChoices_87 : decode cX4_setChoices 87 = .ok (.istore 10, 2) := by decide +kernel
theorem dX4_setChoices_89 : decode cX4_setChoices 89 = .ok (.iload 5, 2) := by decide +kernel
theorem dX4_setChoices_91 : decode cX4_setChoices 91 = .ok (.ifCond .eq 8, 3) := by decide +kernel
theorem dX4_setChoices_94 : decode cX4_setChoices 94 = .ok (.iload 6, 2) := by decide +kernel
theorem dX4_setChoices_96 : decode cX4_setChoices 96 = .ok (.goto 5, 3) := by decide +kernel
theorem dX4_setChoices_99 : decode cX4_setChoices 99 = .ok (.iload 8, 2) := by decide +kernel
theorem dX4_setChoices_101 : decode cX4_setChoices 101 = .ok (.istore 11, 2) := by decide +kernel
theorem dX4_setChoices_103 : decode cX4_setChoices 103 = .ok (.aload_n 0, 1) := by decide +kernel
theorem dX4_setChoices_104 : decode cX4_setChoices 104 = .ok (.getfield 23, 3) := by decide +kernel
theorem dX4_setChoices_107 : decode cX4_setChoices 107 = .ok (.iload 10, 2) := by decide +kernel
theorem dX4_setChoices_109 : decode cX4_setChoices 109 = .ok (.dup2, 1) := by decide +kernel
theorem dX4_setChoices_110 : decode cX4_setChoices 110 = .ok (.iaload, 1) := by decide +kernel
theorem dX4_setChoices_111 : decode cX4_setChoices 111 = .ok (.iconst 1, 1) := by decide +kernel
theorem dX4_setChoices_112 : decode cX4_setChoices 112 = .ok (.iload 11, 2) := by decide +kernel
theorem dX4_setChoices_114 : decode cX4_setChoices 114 = .ok (.ishl, 1) := by decide +kernel
theorem dX4_setChoices_115 : decode cX4_setChoices 115 = .ok (.ior, 1) := by decide +kernel
theorem dX4_setChoices_116 : decode cX4_setChoices 116 = .ok (.iastore, 1) := by decide +kernel
theorem dX4_setChoices_117 : decode cX4_setChoices 117 = .ok (.iinc 8 1, 3) := by decide +kernel
theorem dX4_setChoices_120 : decode cX4_setChoices 120 = .ok (.iinc 9 1, 3) := by decide +kernel
theorem dX4_setChoices_123 : decode cX4_setChoices 123 = .ok (.goto (-82), 3) := by decide +kernel
theorem dX4_setChoices_126 : decode cX4_setChoices 126 = .ok (.iinc 6 1, 3) := by decide +kernel
theorem dX4_setChoices_129 : decode cX4_setChoices 129 = .ok (.iinc 7 1, 3) := by decide +kernel
theorem dX4_setChoices_132 : decode cX4_setChoices 132 = .ok (.goto (-118), 3) := by decide +kernel
theorem dX4_setChoices_135 : decode cX4_setChoices 135 = .ok (.return_, 1) := by decide +kernel
theorem dX4_waysToChoose_0 : decode cX4_waysToChoose 0 = .ok (.iconst 1, 1) := by decide +kernel
theorem dX4_waysToChoose_1 : decode cX4_waysToChoose 1 = .ok (.iload_n 2, 1) := by decide +kernel
theorem dX4_waysToChoose_2 : decode cX4_waysToChoose 2 = .ok (.bipush 16, 2) := by decide +kernel
theorem dX4_waysToChoose_4 : decode cX4_waysToChoose 4 = .ok (.invokestatic 73, 3) := by decide +kernel
theorem dX4_waysToChoose_7 : decode cX4_waysToChoose 7 = .ok (.ishl, 1) := by decide +kernel
theorem dX4_waysToChoose_8 : decode cX4_waysToChoose 8 = .ok (.istore_n 3, 1) := by decide +kernel
theorem dX4_waysToChoose_9 : decode cX4_waysToChoose 9 = .ok (.aload_n 0, 1) := by decide +kernel
theorem dX4_waysToChoose_10 : decode cX4_waysToChoose 10 = .ok (.getfield 27, 3) := by decide +kernel
theorem dX4_waysToChoose_13 : decode cX4_waysToChoose 13 = .ok (.arraylength, 1) := by decide +kernel
theorem dX4_waysToChoose_14 : decode cX4_waysToChoose 14 = .ok (.iload_n 3, 1) := by decide +kernel
theorem dX4_waysToChoose_15 : decode cX4_waysToChoose 15 = .ok (.if_icmp .ge 10, 3) := by decide +kernel
theorem dX4_waysToChoose_18 : decode cX4_waysToChoose 18 = .ok (.aload_n 0, 1) := by decide +kernel
theorem dX4_waysToChoose_19 : decode cX4_waysToChoose 19 = .ok (.iload_n 3, 1) := by decide +kernel
theorem dX4_waysToChoose_20 : decode cX4_waysToChoose 20 = .ok (.newarray .long, 2) := by decide +kernel
theorem dX4_waysToChoose_22 : decode cX4_waysToChoose 22 = .ok (.putfield 27, 3) := by decide +kernel
theorem dX4_waysToChoose_25 : decode cX4_waysToChoose 25 = .ok (.iconst 1, 1) := by decide +kernel
theorem dX4_waysToChoose_26 : decode cX4_waysToChoose 26 = .ok (.istore 4, 2) := by decide +kernel
theorem dX4_waysToChoose_28 : decode cX4_waysToChoose 28 = .ok (.iload 4, 2) := by decide +kernel
theorem dX4_waysToChoose_30 : decode cX4_waysToChoose 30 = .ok (.iload_n 3, 1) := by decide +kernel
theorem dX4_waysToChoose_31 : decode cX4_waysToChoose 31 = .ok (.if_icmp .ge 17, 3) := by decide +kernel
theorem dX4_waysToChoose_34 : decode cX4_waysToChoose 34 = .ok (.aload_n 0, 1) := by decide +kernel
theorem dX4_waysToChoose_35 : decode cX4_waysToChoose 35 = .ok (.getfield 27, 3) := by decide +kernel
theorem dX4_waysToChoose_38 : decode cX4_waysToChoose 38 = .ok (.iload 4, 2) := by decide +kernel
theorem dX4_waysToChoose_40 : decode cX4_waysToChoose 40 = .ok (.lconst 0, 1) := by decide +kernel
theorem dX4_waysToChoose_41 : decode cX4_waysToChoose 41 = .ok (.lastore, 1) := by decide +kernel
theorem dX4_waysToChoose_42 : decode cX4_waysToChoose 42 = .ok (.iinc 4 1, 3) := by decide +kernel
theorem dX4_waysToChoose_45 : decode cX4_waysToChoose 45 = .ok (.goto (-17), 3) := by decide +kernel
theorem dX4_waysToChoose_48 : decode cX4_waysToChoose 48 = .ok (.aload_n 0, 1) := by decide +kernel
theorem dX4_waysToChoose_49 : decode cX4_waysToChoose 49 = .ok (.getfield 27, 3) := by decide +kernel
theorem dX4_waysToChoose_52 : decode cX4_waysToChoose 52 = .ok (.iconst 0, 1) := by decide +kernel
theorem dX4_waysToChoose_53 : decode cX4_waysToChoose 53 = .ok (.lconst 1, 1) := by decide +kernel
theorem dX4_waysToChoose_54 : decode cX4_waysToChoose 54 = .ok (.lastore, 1) := by decide +kernel
theorem dX4_waysToChoose_55 : decode cX4_waysToChoose 55 = .ok (.lconst 0, 1) := by decide +kernel
theorem dX4_waysToChoose_56 : decode cX4_waysToChoose 56 = .ok (.lstore 4, 2) := by decide +kernel
theorem dX4_waysToChoose_58 : decode cX4_waysToChoose 58 = .ok (.iconst 0, 1) := by decide +kernel
theorem dX4_waysToChoose_59 : decode cX4_waysToChoose 59 = .ok (.istore 6, 2) := by decide +kernel
theorem dX4_waysToChoose_61 : decode cX4_waysToChoose 61 = .ok (.iload 6, 2) := by decide +kernel
theorem dX4_waysToChoose_63 : decode cX4_waysToChoose 63 = .ok (.iload_n 3, 1) := by decide +kernel
theorem dX4_waysToChoose_64 : decode cX4_waysToChoose 64 = .ok (.if_icmp .ge 118, 3) := by decide +kernel
theorem dX4_waysToChoose_67 : decode cX4_waysToChoose 67 = .ok (.iload 6, 2) := by decide +kernel
theorem dX4_waysToChoose_69 : decode cX4_waysToChoose 69 = .ok (.invokestatic 99, 3) := by decide +kernel
theorem dX4_waysToChoose_72 : decode cX4_waysToChoose 72 = .ok (.istore 7, 2) := by decide +kernel
theorem dX4_waysToChoose_74 : decode cX4_waysToChoose 74 = .ok (.aload_n 0, 1) := by decide +kernel
theorem dX4_waysToChoose_75 : decode cX4_waysToChoose 75 = .ok (.getfield 27, 3) := by decide +kernel
theorem dX4_waysToChoose_78 : decode cX4_waysToChoose 78 = .ok (.iload 6, 2) := by decide +kernel
theorem dX4_waysToChoose_80 : decode cX4_waysToChoose 80 = .ok (.laload, 1) := by decide +kernel
theorem dX4_waysToChoose_81 : decode cX4_waysToChoose 81 = .ok (.lconst 0, 1) := by decide +kernel
theorem dX4_waysToChoose_82 : decode cX4_waysToChoose 82 = .ok (.lcmp, 1) := by decide +kernel
theorem dX4_waysToChoose_83 : decode cX4_waysToChoose 83 = .ok (.ifCond .eq 93, 3) := by decide +kernel
theorem dX4_waysToChoose_86 : decode cX4_waysToChoose 86 = .ok (.iload 7, 2) := by decide +kernel
theorem dX4_waysToChoose_88 : decode cX4_waysToChoose 88 = .ok (.iload_n 1, 1) := by decide +kernel
theorem dX4_waysToChoose_89 : decode cX4_waysToChoose 89 = .ok (.if_icmp .le 6, 3) := by decide +kernel
theorem dX4_waysToChoose_92 : decode cX4_waysToChoose 92 = .ok (.goto 84, 3) := by decide +kernel
theorem dX4_waysToChoose_95 : decode cX4_waysToChoose 95 = .ok (.iload 7, 2) := by decide +kernel
theorem dX4_waysToChoose_97 : decode cX4_waysToChoose 97 = .ok (.iload_n 1, 1) := by decide +kernel
theorem dX4_waysToChoose_98 : decode cX4_waysToChoose 98 = .ok (.if_icmp .ne 18, 3) := by decide +kernel
theorem dX4_waysToChoose_101 : decode cX4_waysToChoose 101 = .ok (.lload 4, 2) := by decide +kernel
theorem dX4_waysToChoose_103 : decode cX4_waysToChoose 103 = .ok (.aload_n 0, 1) := by decide +kernel
theorem dX4_waysToChoose_104 : decode cX4_waysToChoose 104 = .ok (.getfield 27, 3) := by decide +kernel
theorem dX4_waysToChoose_107 : decode cX4_waysToChoose 107 = .ok (.iload 6, 2) := by decide +kernel
theorem dX4_waysToChoose_109 : decode cX4_waysToChoose 109 = .ok (.laload, 1) := by decide +kernel
theorem dX4_waysToChoose_110 : decode cX4_waysToChoose 110 = .ok (.ladd, 1) := by decide +kernel
theorem dX4_waysToChoose_111 : decode cX4_waysToChoose 111 = .ok (.lstore 4, 2) := by decide +kernel
theorem dX4_waysToChoose_113 : decode cX4_waysToChoose 113 = .ok (.goto 63, 3) := by decide +kernel
theorem dX4_waysToChoose_116 : decode cX4_waysToChoose 116 = .ok (.aload_n 0, 1) := by decide +kernel
theorem dX4_waysToChoose_117 : decode cX4_waysToChoose 117 = .ok (.getfield 23, 3) := by decide +kernel
theorem dX4_waysToChoose_120 : decode cX4_waysToChoose 120 = .ok (.iload 7, 2) := by decide +kernel
theorem dX4_waysToChoose_122 : decode cX4_waysToChoose 122 = .ok (.iaload, 1) := by decide +kernel
theorem dX4_waysToChoose_123 : decode cX4_waysToChoose 123 = .ok (.iload 6, 2) := by decide +kernel
theorem dX4_waysToChoose_125 : decode cX4_waysToChoose 125 = .ok (.iconst (-1), 1) := by decide +kernel
theorem dX4_waysToChoose_126 : decode cX4_waysToChoose 126 = .ok (.ixor, 1) := by decide +kernel
theorem dX4_waysToChoose_127 : decode cX4_waysToChoose 127 = .ok (.iand, 1) := by decide +kernel
theorem dX4_waysToChoose_128 : decode cX4_waysToChoose 128 = .ok (.istore 8, 2) := by decide +kernel
