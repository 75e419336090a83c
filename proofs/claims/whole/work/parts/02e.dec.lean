theorem dX6_edgeIs_71 : decode cX6_edgeIs 71 = .ok (.iconst (-1), 1) := by decide +kernel
theorem dX6_edgeIs_72 : decode cX6_edgeIs 72 = .ok (.iastore, 1) := by decide +kernel
theorem dX6_edgeIs_73 : decode cX6_edgeIs 73 = .ok (.aload_n 0, 1) := by decide +kernel
theorem dX6_edgeIs_74 : decode cX6_edgeIs 74 = .ok (.invokevirtual 108, 3) := by decide +kernel
theorem dX6_edgeIs_77 : decode cX6_edgeIs 77 = .ok (.ifCond .eq 7, 3) := by decide +kernel
theorem dX6_edgeIs_80 : decode cX6_edgeIs 80 = .ok (.iconst 1, 1) := by decide +kernel
theorem dX6_edgeIs_81 : decode cX6_edgeIs 81 = .ok (.goto 4, 3) := by decide +kernel
theorem dX6_edgeIs_84 : decode cX6_edgeIs 84 = .ok (.iconst 2, 1) := by decide +kernel
theorem dX6_edgeIs_85 : decode cX6_edgeIs 85 = .ok (.ireturn, 1) := by decide +kernel
theorem dX6_nodeIs_0 : decode cX6_nodeIs 0 = .ok (.aload_n 0, 1) := by decide +kernel
theorem dX6_nodeIs_1 : decode cX6_nodeIs 1 = .ok (.iload_n 1, 1) := by decide +kernel
theorem dX6_nodeIs_2 : decode cX6_nodeIs 2 = .ok (.iload_n 2, 1) := by decide +kernel
theorem dX6_nodeIs_3 : decode cX6_nodeIs 3 = .ok (.invokevirtual 161, 3) := by decide +kernel
theorem dX6_nodeIs_6 : decode cX6_nodeIs 6 = .ok (.ifCond .ne 5, 3) := by decide +kernel
theorem dX6_nodeIs_9 : decode cX6_nodeIs 9 = .ok (.iconst (-1), 1) := by decide +kernel
theorem dX6_nodeIs_10 : decode cX6_nodeIs 10 = .ok (.ireturn, 1) := by decide +kernel
theorem dX6_nodeIs_11 : decode cX6_nodeIs 11 = .ok (.aload_n 0, 1) := by decide +kernel
theorem dX6_nodeIs_12 : decode cX6_nodeIs 12 = .ok (.invokevirtual 167, 3) := by decide +kernel
theorem dX6_nodeIs_15 : decode cX6_nodeIs 15 = .ok (.iload_n 1, 1) := by decide +kernel
theorem dX6_nodeIs_16 : decode cX6_nodeIs 16 = .ok (.ifCond .ne 15, 3) := by decide +kernel
theorem dX6_nodeIs_19 : decode cX6_nodeIs 19 = .ok (.aload_n 0, 1) := by decide +kernel
theorem dX6_nodeIs_20 : decode cX6_nodeIs 20 = .ok (.getfield 20, 3) := by decide +kernel
theorem dX6_nodeIs_23 : decode cX6_nodeIs 23 = .ok (.iload_n 2, 1) := by decide +kernel
theorem dX6_nodeIs_24 : decode cX6_nodeIs 24 = .ok (.baload, 1) := by decide +kernel
theorem dX6_nodeIs_25 : decode cX6_nodeIs 25 = .ok (.ifCond .eq 19, 3) := by decide +kernel
theorem dX6_nodeIs_28 : decode cX6_nodeIs 28 = .ok (.goto 12, 3) := by decide +kernel
theorem dX6_nodeIs_31 : decode cX6_nodeIs 31 = .ok (.aload_n 0, 1) := by decide +kernel
theorem dX6_nodeIs_32 : decode cX6_nodeIs 32 = .ok (.getfield 23, 3) := by decide +kernel
theorem dX6_nodeIs_35 : decode cX6_nodeIs 35 = .ok (.iload_n 2, 1) := by decide +kernel
theorem dX6_nodeIs_36 : decode cX6_nodeIs 36 = .ok (.baload, 1) := by decide +kernel
theorem dX6_nodeIs_37 : decode cX6_nodeIs 37 = .ok (.ifCond .eq 7, 3) := by decide +kernel
theorem dX6_nodeIs_40 : decode cX6_nodeIs 40 = .ok (.iconst 0, 1) := by decide +kernel
theorem dX6_nodeIs_41 : decode cX6_nodeIs 41 = .ok (.goto 4, 3) := by decide +kernel
theorem dX6_nodeIs_44 : decode cX6_nodeIs 44 = .ok (.iconst 1, 1) := by decide +kernel
theorem dX6_nodeIs_45 : decode cX6_nodeIs 45 = .ok (.ireturn, 1) := by decide +kernel
theorem dX6_meetsMissed_0 : decode cX6_meetsMissed 0 = .ok (.iconst 0, 1) := by decide +kernel
theorem dX6_meetsMissed_1 : decode cX6_meetsMissed 1 = .ok (.istore_n 3, 1) := by decide +kernel
theorem dX6_meetsMissed_2 : decode cX6_meetsMissed 2 = .ok (.iconst 0, 1) := by decide +kernel
theorem dX6_meetsMissed_3 : decode cX6_meetsMissed 3 = .ok (.istore 4, 2) := by decide +kernel
theorem dX6_meetsMissed_5 : decode cX6_meetsMissed 5 = .ok (.iload 4, 2) := by decide +kernel
theorem dX6_meetsMissed_7 : decode cX6_meetsMissed 7 = .ok (.iload_n 1, 1) := by decide +kernel
theorem dX6_meetsMissed_8 : decode cX6_meetsMissed 8 = .ok (.ifCond .ne 10, 3) := by decide +kernel
theorem dX6_meetsMissed_11 : decode cX6_meetsMissed 11 = .ok (.aload_n 0, 1) := by decide +kernel
theorem dX6_meetsMissed_12 : decode cX6_meetsMissed 12 = .ok (.getfield 129, 3) := by decide +kernel
theorem dX6_meetsMissed_15 : decode cX6_meetsMissed 15 = .ok (.goto 7, 3) := by decide +kernel
theorem dX6_meetsMissed_18 : decode cX6_meetsMissed 18 = .ok (.aload_n 0, 1) := by decide +kernel
theorem dX6_meetsMissed_19 : decode cX6_meetsMissed 19 = .ok (.getfield 126, 3) := by decide +kernel
theorem dX6_meetsMissed_22 : decode cX6_meetsMissed 22 = .ok (.if_icmp .ge 84, 3) := by decide +kernel
theorem dX6_meetsMissed_25 : decode cX6_meetsMissed 25 = .ok (.iload_n 1, 1) := by decide +kernel
theorem dX6_meetsMissed_26 : decode cX6_meetsMissed 26 = .ok (.ifCond .ne 18, 3) := by decide +kernel
theorem dX6_meetsMissed_29 : decode cX6_meetsMissed 29 = .ok (.aload_n 0, 1) := by decide +kernel
theorem dX6_meetsMissed_30 : decode cX6_meetsMissed 30 = .ok (.getfield 7, 3) := by decide +kernel
theorem dX6_meetsMissed_33 : decode cX6_meetsMissed 33 = .ok (.bipush 50, 2) := by decide +kernel
theorem dX6_meetsMissed_35 : decode cX6_meetsMissed 35 = .ok (.iload_n 2, 1) := by decide +kernel
theorem dX6_meetsMissed_36 : decode cX6_meetsMissed 36 = .ok (.imul, 1) := by decide +kernel
theorem dX6_meetsMissed_37 : decode cX6_meetsMissed 37 = .ok (.iload 4, 2) := by decide +kernel
theorem dX6_meetsMissed_39 : decode cX6_meetsMissed 39 = .ok (.iadd, 1) := by decide +kernel
theorem dX6_meetsMissed_40 : decode cX6_meetsMissed 40 = .ok (.baload, 1) := by decide +kernel
theorem dX6_meetsMissed_41 : decode cX6_meetsMissed 41 = .ok (.goto 15, 3) := by decide +kernel
theorem dX6_meetsMissed_44 : decode cX6_meetsMissed 44 = .ok (.aload_n 0, 1) := by decide +kernel
theorem dX6_meetsMissed_45 : decode cX6_meetsMissed 45 = .ok (.getfield 7, 3) := by decide +kernel
theorem dX6_meetsMissed_48 : decode cX6_meetsMissed 48 = .ok (.bipush 50, 2) := by decide +kernel
theorem dX6_meetsMissed_50 : decode cX6_meetsMissed 50 = .ok (.iload 4, 2) := by decide +kernel
theorem dX6_meetsMissed_52 : decode cX6_meetsMissed 52 = .ok (.imul, 1) := by decide +kernel
theorem dX6_meetsMissed_53 : decode cX6_meetsMissed 53 = .ok (.iload_n 2, 1) := by decide +kernel
theorem dX6_meetsMissed_54 : decode cX6_meetsMissed 54 = .ok (.iadd, 1) := by decide +kernel
theorem dX6_meetsMissed_55 : decode cX6_meetsMissed 55 = .ok (.baload, 1) := by decide +kernel
theorem dX6_meetsMissed_56 : decode cX6_meetsMissed 56 = .ok (.istore 5, 2) := by decide +kernel
theorem dX6_meetsMissed_58 : decode cX6_meetsMissed 58 = .ok (.iload_n 3, 1) := by decide +kernel
theorem dX6_meetsMissed_59 : decode cX6_meetsMissed 59 = .ok (.ifCond .ne 35, 3) := by decide +kernel
theorem dX6_meetsMissed_62 : decode cX6_meetsMissed 62 = .ok (.iload 5, 2) := by decide +kernel
theorem dX6_meetsMissed_64 : decode cX6_meetsMissed 64 = .ok (.ifCond .eq 34, 3) := by decide +kernel
theorem dX6_meetsMissed_67 : decode cX6_meetsMissed 67 = .ok (.iload_n 1, 1) := by decide +kernel
theorem dX6_meetsMissed_68 : decode cX6_meetsMissed 68 = .ok (.ifCond .ne 16, 3) := by decide +kernel
theorem dX6_meetsMissed_71 : decode cX6_meetsMissed 71 = .ok (.aload_n 0, 1) := by decide +kernel
theorem dX6_meetsMissed_72 : decode cX6_meetsMissed 72 = .ok (.getfield 23, 3) := by decide +kernel
theorem dX6_meetsMissed_75 : decode cX6_meetsMissed 75 = .ok (.iload 4, 2) := by decide +kernel
theorem dX6_meetsMissed_77 : decode cX6_meetsMissed 77 = .ok (.baload, 1) := by decide +kernel
theorem dX6_meetsMissed_78 : decode cX6_meetsMissed 78 = .ok (.ifCond .eq 20, 3) := by decide +kernel
theorem dX6_meetsMissed_81 : decode cX6_meetsMissed 81 = .ok (.goto 13, 3) := by decide +kernel
theorem dX6_meetsMissed_84 : decode cX6_meetsMissed 84 = .ok (.aload_n 0, 1) := by decide +kernel
theorem dX6_meetsMissed_85 : decode cX6_meetsMissed 85 = .ok (.getfield 20, 3) := by decide +kernel
theorem dX6_meetsMissed_88 : decode cX6_meetsMissed 88 = .ok (.iload 4, 2) := by decide +kernel
theorem dX6_meetsMissed_90 : decode cX6_meetsMissed 90 = .ok (.baload, 1) := by decide +kernel
theorem dX6_meetsMissed_91 : decode cX6_meetsMissed 91 = .ok (.ifCond .eq 7, 3) := by decide +kernel
theorem dX6_meetsMissed_94 : decode cX6_meetsMissed 94 = .ok (.iconst 1, 1) := by decide +kernel
theorem dX6_meetsMissed_95 : decode cX6_meetsMissed 95 = .ok (.goto 4, 3) := by decide +kernel
theorem dX6_meetsMissed_98 : decode cX6_meetsMissed 98 = .ok (.iconst 0, 1) := by decide +kernel
theorem dX6_meetsMissed_99 : decode cX6_meetsMissed 99 = .ok (.istore_n 3, 1) := by decide +kernel
theorem dX6_meetsMissed_100 : decode cX6_meetsMissed 100 = .ok (.iinc 4 1, 3) := by decide +kernel
theorem dX6_meetsMissed_103 : decode cX6_meetsMissed 103 = .ok (.goto (-98), 3) := by decide +kernel
theorem dX6_meetsMissed_106 : decode cX6_meetsMissed 106 = .ok (.iload_n 3, 1) := by decide +kernel
theorem dX6_meetsMissed_107 : decode cX6_meetsMissed 107 = .ok (.ireturn, 1) := by decide +kernel
theorem dX6_covers_0 : decode cX6_covers 0 = .ok (.iload_n 1, 1) := by decide +kernel
theorem dX6_covers_1 : decode cX6_covers 1 = .ok (.iload_n 2, 1) := by decide +kernel
theorem dX6_covers_2 : decode cX6_covers 2 = .ok (.if_icmp .ne 39, 3) := by decide +kernel
theorem dX6_covers_5 : decode cX6_covers 5 = .ok (.iload_n 2, 1) := by decide +kernel
theorem dX6_covers_6 : decode cX6_covers 6 = .ok (.ifCond .ne 20, 3) := by decide +kernel
theorem dX6_covers_9 : decode cX6_covers 9 = .ok (.aload_n 0, 1) := by decide +kernel
theorem dX6_covers_10 : decode cX6_covers 10 = .ok (.getfield 20, 3) := by decide +kernel
theorem dX6_covers_13 : decode cX6_covers 13 = .ok (.iload_n 3, 1) := by decide +kernel
theorem dX6_covers_14 : decode cX6_covers 14 = .ok (.baload, 1) := by decide +kernel
theorem dX6_covers_15 : decode cX6_covers 15 = .ok (.ifCond .ne 7, 3) := by decide +kernel
theorem dX6_covers_18 : decode cX6_covers 18 = .ok (.iconst 1, 1) := by decide +kernel
theorem dX6_covers_19 : decode cX6_covers 19 = .ok (.goto 21, 3) := by decide +kernel
theorem dX6_covers_22 : decode cX6_covers 22 = .ok (.iconst 0, 1) := by decide +kernel
theorem dX6_covers_23 : decode cX6_covers 23 = .ok (.goto 17, 3) := by decide +kernel
theorem dX6_covers_26 : decode cX6_covers 26 = .ok (.aload_n 0, 1) := by decide +kernel
theorem dX6_covers_27 : decode cX6_covers 27 = .ok (.getfield 23, 3) := by decide +kernel
theorem dX6_covers_30 : decode cX6_covers 30 = .ok (.iload_n 3, 1) := by decide +kernel
theorem dX6_covers_31 : decode cX6_covers 31 = .ok (.baload, 1) := by decide +kernel
theorem dX6_covers_32 : decode cX6_covers 32 = .ok (.ifCond .ne 7, 3) := by decide +kernel
theorem dX6_covers_35 : decode cX6_covers 35 = .ok (.iconst 1, 1) := by decide +kernel
theorem dX6_covers_36 : decode cX6_covers 36 = .ok (.goto 4, 3) := by decide +kernel
theorem dX6_covers_39 : decode cX6_covers 39 = .ok (.iconst 0, 1) := by decide +kernel
theorem dX6_covers_40 : decode cX6_covers 40 = .ok (.ireturn, 1) := by decide +kernel
theorem dX6_covers_41 : decode cX6_covers 41 = .ok (.aload_n 0, 1) := by decide +kernel
theorem dX6_covers_42 : decode cX6_covers 42 = .ok (.iload_n 2, 1) := by decide +kernel
theorem dX6_covers_43 : decode cX6_covers 43 = .ok (.iload_n 3, 1) := by decide +kernel
theorem dX6_covers_44 : decode cX6_covers 44 = .ok (.invokevirtual 186, 3) := by decide +kernel
theorem dX6_covers_47 : decode cX6_covers 47 = .ok (.ireturn, 1) := by decide +kernel
theorem dX6_cover_0 : decode cX6_cover 0 = .ok (.iload_n 1, 1) := by decide +kernel
theorem dX6_cover_1 : decode cX6_cover 1 = .ok (.ifCond .eq 8, 3) := by decide +kernel
theorem dX6_cover_4 : decode cX6_cover 4 = .ok (.iload_n 1, 1) := by decide +kernel
theorem dX6_cover_5 : decode cX6_cover 5 = .ok (.iconst 1, 1) := by decide +kernel
theorem dX6_cover_6 : decode cX6_cover 6 = .ok (.if_icmp .ne 12, 3) := by decide +kernel
theorem dX6_cover_9 : decode cX6_cover 9 = .ok (.aload_n 0, 1) := by decide +kernel
theorem dX6_cover_10 : decode cX6_cover 10 = .ok (.iload_n 2, 1) := by decide +kernel
theorem dX6_cover_11 : decode cX6_cover 11 = .ok (.iload_n 3, 1) := by decide +kernel
theorem dX6_cover_12 : decode cX6_cover 12 = .ok (.invokevirtual 161, 3) := by decide +kernel
theorem dX6_cover_15 : decode cX6_cover 15 = .ok (.ifCond .ne 5, 3) := by decide +kernel
theorem dX6_cover_18 : decode cX6_cover 18 = .ok (.iconst (-1), 1) := by decide +kernel
theorem dX6_cover_19 : decode cX6_cover 19 = .ok (.ireturn, 1) := by decide +kernel
theorem dX6_cover_20 : decode cX6_cover 20 = .ok (.aload_n 0, 1) := by decide +kernel
theorem dX6_cover_21 : decode cX6_cover 21 = .ok (.invokevirtual 167, 3) := by decide +kernel
theorem dX6_cover_24 : decode cX6_cover 24 = .ok (.aload_n 0, 1) := by decide +kernel
theorem dX6_cover_25 : decode cX6_cover 25 = .ok (.iload_n 1, 1) := by decide +kernel
theorem dX6_cover_26 : decode cX6_cover 26 = .ok (.iload_n 2, 1) := by decide +kernel
theorem dX6_cover_27 : decode cX6_cover 27 = .ok (.iload_n 3, 1) := by decide +kernel
theorem dX6_cover_28 : decode cX6_cover 28 = .ok (.invokevirtual 189, 3) := by decide +kernel
theorem dX6_cover_31 : decode cX6_cover 31 = .ok (.ifCond .eq 7, 3) := by decide +kernel
theorem dX6_cover_34 : decode cX6_cover 34 = .ok (.iconst 1, 1) := by decide +kernel
theorem dX6_cover_35 : decode cX6_cover 35 = .ok (.goto 4, 3) := by decide +kernel
theorem dX6_cover_38 : decode cX6_cover 38 = .ok (.iconst 0, 1) := by decide +kernel
theorem dX6_cover_39 : decode cX6_cover 39 = .ok (.ireturn, 1) := by decide +kernel
theorem dX6_hall_0 : decode cX6_hall 0 = .ok (.iload_n 1, 1) := by decide +kernel
theorem dX6_hall_1 : decode cX6_hall 1 = .ok (.ifCond .eq 8, 3) := by decide +kernel
theorem dX6_hall_4 : decode cX6_hall 4 = .ok (.iload_n 1, 1) := by decide +kernel
theorem dX6_hall_5 : decode cX6_hall 5 = .ok (.iconst 1, 1) := by decide +kernel
theorem dX6_hall_6 : decode cX6_hall 6 = .ok (.if_icmp .ne 12, 3) := by decide +kernel
theorem dX6_hall_9 : decode cX6_hall 9 = .ok (.aload_n 0, 1) := by decide +kernel
theorem dX6_hall_10 : decode cX6_hall 10 = .ok (.iconst 0, 1) := by decide +kernel
theorem dX6_hall_11 : decode cX6_hall 11 = .ok (.iload_n 2, 1) := by decide +kernel
theorem dX6_hall_12 : decode cX6_hall 12 = .ok (.invokevirtual 161, 3) := by decide +kernel
theorem dX6_hall_15 : decode cX6_hall 15 = .ok (.ifCond .ne 5, 3) := by decide +kernel
theorem dX6_hall_18 : decode cX6_hall 18 = .ok (.iconst (-1), 1) := by decide +kernel
theorem dX6_hall_19 : decode cX6_hall 19 = .ok (.ireturn, 1) := by decide +kernel
theorem dX6_hall_20 : decode cX6_hall 20 = .ok (.aload_n 0, 1) := by decide +kernel
theorem dX6_hall_21 : decode cX6_hall 21 = .ok (.invokevirtual 167, 3) := by decide +kernel
theorem dX6_hall_24 : decode cX6_hall 24 = .ok (.aload_n 0, 1) := by decide +kernel
theorem dX6_hall_25 : decode cX6_hall 25 = .ok (.iload_n 1, 1) := by decide +kernel
theorem dX6_hall_26 : decode cX6_hall 26 = .ok (.iconst 0, 1) := by decide +kernel
theorem dX6_hall_27 : decode cX6_hall 27 = .ok (.iload_n 2, 1) := by decide +kernel
theorem dX6_hall_28 : decode cX6_hall 28 = .ok (.invokevirtual 189, 3) := by decide +kernel
theorem dX6_hall_31 : decode cX6_hall 31 = .ok (.ifCond .eq 7, 3) := by decide +kernel
theorem dX6_hall_34 : decode cX6_hall 34 = .ok (.iconst 0, 1) := by decide +kernel
theorem dX6_hall_35 : decode cX6_hall 35 = .ok (.goto 4, 3) := by decide +kernel
theorem dX6_hall_38 : decode cX6_hall 38 = .ok (.iconst 1, 1) := by decide +kernel
theorem dX6_hall_39 : decode cX6_hall 39 = .ok (.ireturn, 1) := by decide +kernel
theorem dX6_part_0 : decode cX6_part 0 = .ok (.aload_n 0, 1) := by decide +kernel
theorem dX6_part_1 : decode cX6_part 1 = .ok (.iload_n 1, 1) := by decide +kernel
theorem dX6_part_2 : decode cX6_part 2 = .ok (.iload_n 2, 1) := by decide +kernel
theorem dX6_part_3 : decode cX6_part 3 = .ok (.invokevirtual 161, 3) := by decide +kernel
theorem dX6_part_6 : decode cX6_part 6 = .ok (.ifCond .ne 5, 3) := by decide +kernel
theorem dX6_part_9 : decode cX6_part 9 = .ok (.iconst (-1), 1) := by decide +kernel
theorem dX6_part_10 : decode cX6_part 10 = .ok (.ireturn, 1) := by decide +kernel
theorem dX6_part_11 : decode cX6_part 11 = .ok (.aload_n 0, 1) := by decide +kernel
theorem dX6_part_12 : decode cX6_part 12 = .ok (.invokevirtual 167, 3) := by decide +kernel
theorem dX6_part_15 : decode cX6_part 15 = .ok (.iload_n 1, 1) := by decide +kernel
theorem dX6_part_16 : decode cX6_part 16 = .ok (.ifCond .ne 12, 3) := by decide +kernel
theorem dX6_part_19 : decode cX6_part 19 = .ok (.aload_n 0, 1) := by decide +kernel
theorem dX6_part_20 : decode cX6_part 20 = .ok (.getfield 26, 3) := by decide +kernel
theorem dX6_part_23 : decode cX6_part 23 = .ok (.iload_n 2, 1) := by decide +kernel
theorem dX6_part_24 : decode cX6_part 24 = .ok (.iaload, 1) := by decide +kernel
theorem dX6_part_25 : decode cX6_part 25 = .ok (.goto 9, 3) := by decide +kernel
theorem dX6_part_28 : decode cX6_part 28 = .ok (.aload_n 0, 1) := by decide +kernel
theorem dX6_part_29 : decode cX6_part 29 = .ok (.getfield 29, 3) := by decide +kernel
theorem dX6_part_32 : decode cX6_part 32 = .ok (.iload_n 2, 1) := by decide +kernel
theorem dX6_part_33 : decode cX6_part 33 = .ok (.iaload, 1) := by decide +kernel
theorem dX6_part_34 : decode cX6_part 34 = .ok (.ireturn, 1) := by decide +kernel
theorem dX6_block_0 : decode cX6_block 0 = .ok (.aload_n 0, 1) := by decide +kernel
theorem dX6_block_1 : decode cX6_block 1 = .ok (.iload_n 1, 1) := by decide +kernel
theorem dX6_block_2 : decode cX6_block 2 = .ok (.iload_n 2, 1) := by decide +kernel
theorem dX6_block_3 : decode cX6_block 3 = .ok (.invokevirtual 161, 3) := by decide +kernel
theorem dX6_block_6 : decode cX6_block 6 = .ok (.ifCond .ne 5, 3) := by decide +kernel
theorem dX6_block_9 : decode cX6_block 9 = .ok (.iconst (-1), 1) := by decide +kernel
theorem dX6_block_10 : decode cX6_block 10 = .ok (.ireturn, 1) := by decide +kernel
theorem dX6_block_11 : decode cX6_block 11 = .ok (.aload_n 0, 1) := by decide +kernel
theorem dX6_block_12 : decode cX6_block 12 = .ok (.invokevirtual 167, 3) := by decide +kernel
theorem dX6_block_15 : decode cX6_block 15 = .ok (.iload_n 1, 1) := by decide +kernel
theorem dX6_block_16 : decode cX6_block 16 = .ok (.ifCond .ne 12, 3) := by decide +kernel
theorem dX6_block_19 : decode cX6_block 19 = .ok (.aload_n 0, 1) := by decide +kernel
theorem dX6_block_20 : decode cX6_block 20 = .ok (.getfield 26, 3) := by decide +kernel
theorem dX6_block_23 : decode cX6_block 23 = .ok (.iload_n 2, 1) := by decide +kernel
theorem dX6_block_24 : decode cX6_block 24 = .ok (.iaload, 1) := by decide +kernel
theorem dX6_block_25 : decode cX6_block 25 = .ok (.goto 9, 3) := by decide +kernel
theorem dX6_block_28 : decode cX6_block 28 = .ok (.aload_n 0, 1) := by decide +kernel
theorem dX6_block_29 : decode cX6_block 29 = .ok (.getfield 29, 3) := by decide +kernel
theorem dX6_block_32 : decode cX6_block 32 = .ok (.iload_n 2, 1) := by decide +kernel
theorem dX6_block_33 : decode cX6_block 33 = .ok (.iaload, 1) := by decide +kernel
theorem dX6_block_34 : decode cX6_block 34 = .ok (.istore_n 3, 1) := by decide +kernel
theorem dX6_block_35 : decode cX6_block 35 = .ok (.iload_n 3, 1) := by decide +kernel
theorem dX6_block_36 : decode cX6_block 36 = .ok (.iconst 1, 1) := by decide +kernel
theorem dX6_block_37 : decode cX6_block 37 = .ok (.if_icmp .eq 8, 3) := by decide +kernel
theorem dX6_block_40 : decode cX6_block 40 = .ok (.bipush (-3), 2) := by decide +kernel
theorem dX6_block_42 : decode cX6_block 42 = .ok (.goto 22, 3) := by decide +kernel
theorem dX6_block_45 : decode cX6_block 45 = .ok (.aload_n 0, 1) := by decide +kernel
theorem dX6_block_46 : decode cX6_block 46 = .ok (.getfield 32, 3) := by decide +kernel
theorem dX6_block_49 : decode cX6_block 49 = .ok (.iload_n 1, 1) := by decide +kernel
theorem dX6_block_50 : decode cX6_block 50 = .ok (.ifCond .ne 7, 3) := by decide +kernel
theorem dX6_block_53 : decode cX6_block 53 = .ok (.iload_n 2, 1) := by decide +kernel
theorem dX6_block_54 : decode cX6_block 54 = .ok (.goto 9, 3) := by decide +kernel
theorem dX6_block_57 : decode cX6_block 57 = .ok (.aload_n 0, 1) := by decide +kernel
theorem dX6_block_58 : decode cX6_block 58 = .ok (.getfield 17, 3) := by decide +kernel
theorem dX6_block_61 : decode cX6_block 61 = .ok (.iload_n 2, 1) := by decide +kernel
theorem dX6_block_62 : decode cX6_block 62 = .ok (.iaload, 1) := by decide +kernel
theorem dX6_block_63 : decode cX6_block 63 = .ok (.iaload, 1) := by decide +kernel
theorem dX6_block_64 : decode cX6_block 64 = .ok (.ireturn, 1) := by decide +kernel
theorem dX6_leads_0 : decode cX6_leads 0 = .ok (.aload_n 0, 1) := by decide +kernel
theorem dX6_leads_1 : decode cX6_leads 1 = .ok (.invokevirtual 167, 3) := by decide +kernel
theorem dX6_leads_4 : decode cX6_leads 4 = .ok (.iload_n 1, 1) := by decide +kernel
theorem dX6_leads_5 : decode cX6_leads 5 = .ok (.ifCond .lt 23, 3) := by decide +kernel
theorem dX6_leads_8 : decode cX6_leads 8 = .ok (.iload_n 1, 1) := by decide +kernel
theorem dX6_leads_9 : decode cX6_leads 9 = .ok (.aload_n 0, 1) := by decide +kernel
theorem dX6_leads_10 : decode cX6_leads 10 = .ok (.getfield 159, 3) := by decide +kernel
theorem dX6_leads_13 : decode cX6_leads 13 = .ok (.if_icmp .ge 15, 3) := by decide +kernel
theorem dX6_leads_16 : decode cX6_leads 16 = .ok (.iload_n 2, 1) := by decide +kernel
theorem dX6_leads_17 : decode cX6_leads 17 = .ok (.ifCond .lt 11, 3) := by decide +kernel
theorem dX6_leads_20 : decode cX6_leads 20 = .ok (.iload_n 2, 1) := by decide +kernel
theorem dX6_leads_21 : decode cX6_leads 21 = .ok (.aload_n 0, 1) := by decide +kernel
theorem dX6_leads_22 : decode cX6_leads 22 = .ok (.getfield 159, 3) := by decide +kernel
theorem dX6_leads_25 : decode cX6_leads 25 = .ok (.if_icmp .lt 5, 3) := by decide +kernel
theorem dX6_leads_28 : decode cX6_leads 28 = .ok (.iconst (-1), 1) := by decide +kernel
theorem dX6_leads_29 : decode cX6_leads 29 = .ok (.ireturn, 1) := by decide +kernel
theorem dX6_leads_30 : decode cX6_leads 30 = .ok (.iload_n 1, 1) := by decide +kernel
theorem dX6_leads_31 : decode cX6_leads 31 = .ok (.iload_n 2, 1) := by decide +kernel
theorem dX6_leads_32 : decode cX6_leads 32 = .ok (.if_icmp .ne 5, 3) := by decide +kernel
theorem dX6_leads_35 : decode cX6_leads 35 = .ok (.iconst 0, 1) := by decide +kernel
theorem dX6_leads_36 : decode cX6_leads 36 = .ok (.ireturn, 1) := by decide +kernel
theorem dX6_leads_37 : decode cX6_leads 37 = .ok (.iconst 0, 1) := by decide +kernel
theorem dX6_leads_38 : decode cX6_leads 38 = .ok (.istore_n 3, 1) := by decide +kernel
theorem dX6_leads_39 : decode cX6_leads 39 = .ok (.iconst 0, 1) := by decide +kernel
theorem dX6_leads_40 : decode cX6_leads 40 = .ok (.istore 4, 2) := by decide +kernel
theorem dX6_leads_42 : decode cX6_leads 42 = .ok (.iload 4, 2) := by decide +kernel
theorem dX6_leads_44 : decode cX6_leads 44 = .ok (.aload_n 0, 1) := by decide +kernel
theorem dX6_leads_45 : decode cX6_leads 45 = .ok (.getfield 126, 3) := by decide +kernel
theorem dX6_leads_48 : decode cX6_leads 48 = .ok (.if_icmp .ge 75, 3) := by decide +kernel
theorem dX6_leads_51 : decode cX6_leads 51 = .ok (.iconst 0, 1) := by decide +kernel
theorem dX6_leads_52 : decode cX6_leads 52 = .ok (.istore 5, 2) := by decide +kernel
theorem dX6_leads_54 : decode cX6_leads 54 = .ok (.iload 5, 2) := by decide +kernel
theorem dX6_leads_56 : decode cX6_leads 56 = .ok (.aload_n 0, 1) := by decide +kernel
theorem dX6_leads_57 : decode cX6_leads 57 = .ok (.getfield 126, 3) := by decide +kernel
theorem dX6_leads_60 : decode cX6_leads 60 = .ok (.if_icmp .ge 57, 3) := by decide +kernel
theorem dX6_leads_63 : decode cX6_leads 63 = .ok (.iload_n 3, 1) := by decide +kernel
theorem dX6_leads_64 : decode cX6_leads 64 = .ok (.ifCond .ne 41, 3) := by decide +kernel
theorem dX6_leads_67 : decode cX6_leads 67 = .ok (.aload_n 0, 1) := by decide +kernel
theorem dX6_leads_68 : decode cX6_leads 68 = .ok (.getfield 32, 3) := by decide +kernel
theorem dX6_leads_71 : decode cX6_leads 71 = .ok (.iload 4, 2) := by decide +kernel
theorem dX6_leads_73 : decode cX6_leads 73 = .ok (.iaload, 1) := by decide +kernel
theorem dX6_leads_74 : decode cX6_leads 74 = .ok (.iload_n 1, 1) := by decide +kernel
theorem dX6_leads_75 : decode cX6_leads 75 = .ok (.if_icmp .ne 34, 3) := by decide +kernel
theorem dX6_leads_78 : decode cX6_leads 78 = .ok (.aload_n 0, 1) := by decide +kernel
theorem dX6_leads_79 : decode cX6_leads 79 = .ok (.getfield 32, 3) := by decide +kernel
theorem dX6_leads_82 : decode cX6_leads 82 = .ok (.iload 5, 2) := by decide +kernel
theorem dX6_leads_84 : decode cX6_leads 84 = .ok (.iaload, 1) := by decide +kernel
theorem dX6_leads_85 : decode cX6_leads 85 = .ok (.iload_n 2, 1) := by decide +kernel
theorem dX6_leads_86 : decode cX6_leads 86 = .ok (.if_icmp .ne 23, 3) := by decide +kernel
theorem dX6_leads_89 : decode cX6_leads 89 = .ok (.aload_n 0, 1) := by decide +kernel
theorem dX6_leads_90 : decode cX6_leads 90 = .ok (.getfield 35, 3) := by decide +kernel
theorem dX6_leads_93 : decode cX6_leads 93 = .ok (.bipush 50, 2) := by decide +kernel
theorem dX6_leads_95 : decode cX6_leads 95 = .ok (.iload 4, 2) := by decide +kernel
theorem dX6_leads_97 : decode cX6_leads 97 = .ok (.imul, 1) := by decide +kernel
theorem dX6_leads_98 : decode cX6_leads 98 = .ok (.iload 5, 2) := by decide +kernel
theorem dX6_leads_100 : decode cX6_leads 100 = .ok (.iadd, 1) := by decide +kernel
theorem dX6_leads_101 : decode cX6_leads 101 = .ok (.baload, 1) := by decide +kernel
theorem dX6_leads_102 : decode cX6_leads 102 = .ok (.ifCond .eq 7, 3) := by decide +kernel
theorem dX6_leads_105 : decode cX6_leads 105 = .ok (.iconst 1, 1) := by decide +kernel
theorem dX6_leads_106 : decode cX6_leads 106 = .ok (.goto 4, 3) := by decide +kernel
theorem dX6_leads_109 : decode cX6_leads 109 = .ok (.iconst 0, 1) := by decide +kernel
theorem dX6_leads_110 : decode cX6_leads 110 = .ok (.istore_n 3, 1) := by decide +kernel
theorem dX6_leads_111 : decode cX6_leads 111 = .ok (.iinc 5 1, 3) := by decide +kernel
theorem dX6_leads_114 : decode cX6_leads 114 = .ok (.goto (-60), 3) := by decide +kernel
theorem dX6_leads_117 : decode cX6_leads 117 = .ok (.iinc 4 1, 3) := by decide +kernel
theorem dX6_leads_120 : decode cX6_leads 120 = .ok (.goto (-78), 3) := by decide +kernel
theorem dX6_leads_123 : decode cX6_leads 123 = .ok (.iload_n 3, 1) := by decide +kernel
theorem dX6_leads_124 : decode cX6_leads 124 = .ok (.ifCond .eq 7, 3) := by decide +kernel
theorem dX6_leads_127 : decode cX6_leads 127 = .ok (.iconst 1, 1) := by decide +kernel
theorem dX6_leads_128 : decode cX6_leads 128 = .ok (.goto 4, 3) := by decide +kernel
theorem dX6_leads_131 : decode cX6_leads 131 = .ok (.iconst 0, 1) := by decide +kernel
theorem dX6_leads_132 : decode cX6_leads 132 = .ok (.ireturn, 1) := by decide +kernel
theorem dX6_bits_0 : decode cX6_bits 0 = .ok (.iconst 0, 1) := by decide +kernel
theorem dX6_bits_1 : decode cX6_bits 1 = .ok (.istore_n 1, 1) := by decide +kernel
theorem dX6_bits_2 : decode cX6_bits 2 = .ok (.iload_n 0, 1) := by decide +kernel
theorem dX6_bits_3 : decode cX6_bits 3 = .ok (.istore_n 2, 1) := by decide +kernel
theorem dX6_bits_4 : decode cX6_bits 4 = .ok (.iload_n 2, 1) := by decide +kernel
theorem dX6_bits_5 : decode cX6_bits 5 = .ok (.ifCond .le 16, 3) := by decide +kernel
theorem dX6_bits_8 : decode cX6_bits 8 = .ok (.iload_n 1, 1) := by decide +kernel
theorem dX6_bits_9 : decode cX6_bits 9 = .ok (.iload_n 2, 1) := by decide +kernel
theorem dX6_bits_10 : decode cX6_bits 10 = .ok (.iconst 1, 1) := by decide +kernel
theorem dX6_bits_11 : decode cX6_bits 11 = .ok (.iand, 1) := by decide +kernel
theorem dX6_bits_12 : decode cX6_bits 12 = .ok (.iadd, 1) := by decide +kernel
theorem dX6_bits_13 : decode cX6_bits 13 = .ok (.istore_n 1, 1) := by decide +kernel
theorem dX6_bits_14 : decode cX6_bits 14 = .ok (.iload_n 2, 1) := by decide +kernel
theorem dX6_bits_15 : decode cX6_bits 15 = .ok (.iconst 1, 1) := by decide +kernel
theorem dX6_bits_16 : decode cX6_bits 16 = .ok (.ishr, 1) := by decide +kernel
theorem dX6_bits_17 : decode cX6_bits 17 = .ok (.istore_n 2, 1) := by decide +kernel
theorem dX6_bits_18 : decode cX6_bits 18 = .ok (.goto (-14), 3) := by decide +kernel
theorem dX6_bits_21 : decode cX6_bits 21 = .ok (.iload_n 1, 1) := by decide +kernel
theorem dX6_bits_22 : decode cX6_bits 22 = .ok (.ireturn, 1) := by decide +kernel
theorem dX6_pairings_0 : decode cX6_pairings 0 = .ok (.aload_n 0, 1) := by decide +kernel
theorem dX6_pairings_1 : decode cX6_pairings 1 = .ok (.getfield 126, 3) := by decide +kernel
theorem dX6_pairings_4 : decode cX6_pairings 4 = .ok (.bipush 16, 2) := by decide +kernel
theorem dX6_pairings_6 : decode cX6_pairings 6 = .ok (.if_icmp .gt 12, 3) := by decide +kernel
theorem dX6_pairings_9 : decode cX6_pairings 9 = .ok (.aload_n 0, 1) := by decide +kernel
theorem dX6_pairings_10 : decode cX6_pairings 10 = .ok (.getfield 129, 3) := by decide +kernel
theorem dX6_pairings_13 : decode cX6_pairings 13 = .ok (.bipush 16, 2) := by decide +kernel
theorem dX6_pairings_15 : decode cX6_pairings 15 = .ok (.if_icmp .le 7, 3) := by decide +kernel
theorem dX6_pairings_18 : decode cX6_pairings 18 = .ok (.ldc2_w 193, 3) := by decide +kernel
theorem dX6_pairings_21 : decode cX6_pairings 21 = .ok (.lreturn, 1) := by decide +kernel
theorem dX6_pairings_22 : decode cX6_pairings 22 = .ok (.aload_n 0, 1) := by decide +kernel
theorem dX6_pairings_23 : decode cX6_pairings 23 = .ok (.invokevirtual 167, 3) := by decide +kernel
theorem dX6_pairings_26 : decode cX6_pairings 26 = .ok (.aload_n 0, 1) := by decide +kernel
theorem dX6_pairings_27 : decode cX6_pairings 27 = .ok (.getfield 140, 3) := by decide +kernel
theorem dX6_pairings_30 : decode cX6_pairings 30 = .ok (.ifCond .eq 8, 3) := by decide +kernel
theorem dX6_pairings_33 : decode cX6_pairings 33 = .ok (.aload_n 0, 1) := by decide +kernel
theorem dX6_pairings_34 : decode cX6_pairings 34 = .ok (.getfield 195, 3) := by decide +kernel
theorem dX6_pairings_37 : decode cX6_pairings 37 = .ok (.lreturn, 1) := by decide +kernel
theorem dX6_pairings_38 : decode cX6_pairings 38 = .ok (.iconst 1, 1) := by decide +kernel
theorem dX6_pairings_39 : decode cX6_pairings 39 = .ok (.aload_n 0, 1) := by decide +kernel
theorem dX6_pairings_40 : decode cX6_pairings 40 = .ok (.getfield 129, 3) := by decide +kernel
theorem dX6_pairings_43 : decode cX6_pairings 43 = .ok (.ishl, 1) := by decide +kernel
theorem dX6_pairings_44 : decode cX6_pairings 44 = .ok (.istore_n 1, 1) := by decide +kernel
theorem dX6_pairings_45 : decode cX6_pairings 45 = .ok (.iconst 0, 1) := by decide +kernel
theorem dX6_pairings_46 : decode cX6_pairings 46 = .ok (.istore_n 2, 1) := by decide +kernel
theorem dX6_pairings_47 : decode cX6_pairings 47 = .ok (.iload_n 2, 1) := by decide +kernel
theorem dX6_pairings_48 : decode cX6_pairings 48 = .ok (.iload_n 1, 1) := by decide +kernel
theorem dX6_pairings_49 : decode cX6_pairings 49 = .ok (.if_icmp .ge 24, 3) := by decide +kernel
theorem dX6_pairings_52 : decode cX6_pairings 52 = .ok (.aload_n 0, 1) := by decide +kernel
theorem dX6_pairings_53 : decode cX6_pairings 53 = .ok (.getfield 39, 3) := by decide +kernel
theorem dX6_pairings_56 : decode cX6_pairings 56 = .ok (.iload_n 2, 1) := by decide +kernel
theorem dX6_pairings_57 : decode cX6_pairings 57 = .ok (.iload_n 2, 1) := by decide +kernel
theorem dX6_pairings_58 : decode cX6_pairings 58 = .ok (.ifCond .ne 7, 3) := by decide +kernel
theorem dX6_pairings_61 : decode cX6_pairings 61 = .ok (.lconst 1, 1) := by decide +kernel
theorem dX6_pairings_62 : decode cX6_pairings 62 = .ok (.goto 4, 3) := by decide +kernel
theorem dX6_pairings_65 : decode cX6_pairings 65 = .ok (.lconst 0, 1) := by decide +kernel
theorem dX6_pairings_66 : decode cX6_pairings 66 = .ok (.lastore, 1) := by decide +kernel
theorem dX6_pairings_67 : decode cX6_pairings 67 = .ok (.iinc 2 1, 3) := by decide +kernel
theorem dX6_pairings_70 : decode cX6_pairings 70 = .ok (.goto (-23), 3) := by decide +kernel
theorem dX6_pairings_73 : decode cX6_pairings 73 = .ok (.iconst 0, 1) := by decide +kernel
theorem dX6_pairings_74 : decode cX6_pairings 74 = .ok (.istore_n 2, 1) := by decide +kernel
theorem dX6_pairings_75 : decode cX6_pairings 75 = .ok (.iload_n 2, 1) := by decide +kernel
theorem dX6_pairings_76 : decode cX6_pairings 76 = .ok (.aload_n 0, 1) := by decide +kernel
theorem dX6_pairings_77 : decode cX6_pairings 77 = .ok (.getfield 126, 3) := by decide +kernel
theorem dX6_pairings_80 : decode cX6_pairings 80 = .ok (.if_icmp .ge 105, 3) := by decide +kernel
theorem dX6_pairings_83 : decode cX6_pairings 83 = .ok (.iload_n 1, 1) := by decide +kernel
theorem dX6_pairings_84 : decode cX6_pairings 84 = .ok (.iconst 1, 1) := by decide +kernel
theorem dX6_pairings_85 : decode cX6_pairings 85 = .ok (.isub, 1) := by decide +kernel
theorem dX6_pairings_86 : decode cX6_pairings 86 = .ok (.istore_n 3, 1) := by decide +kernel
theorem dX6_pairings_87 : decode cX6_pairings 87 = .ok (.iload_n 3, 1) := by decide +kernel
theorem dX6_pairings_88 : decode cX6_pairings 88 = .ok (.ifCond .lt 91, 3) := by decide +kernel
theorem dX6_pairings_91 : decode cX6_pairings 91 = .ok (.iconst 0, 1) := by decide +kernel
theorem dX6_pairings_92 : decode cX6_pairings 92 = .ok (.istore 4, 2) := by decide +kernel
theorem dX6_pairings_94 : decode cX6_pairings 94 = .ok (.iload 4, 2) := by decide +kernel
theorem dX6_pairings_96 : decode cX6_pairings 96 = .ok (.aload_n 0, 1) := by decide +kernel
theorem dX6_pairings_97 : decode cX6_pairings 97 = .ok (.getfield 129, 3) := by decide +kernel
theorem dX6_pairings_100 : decode cX6_pairings 100 = .ok (.if_icmp .ge 73, 3) := by decide +kernel
theorem dX6_pairings_103 : decode cX6_pairings 103 = .ok (.aload_n 0, 1) := by decide +kernel
theorem dX6_pairings_104 : decode cX6_pairings 104 = .ok (.getfield 39, 3) := by decide +kernel
theorem dX6_pairings_107 : decode cX6_pairings 107 = .ok (.iload_n 3, 1) := by decide +kernel
theorem dX6_pairings_108 : decode cX6_pairings 108 = .ok (.laload, 1) := by decide +kernel
theorem dX6_pairings_109 : decode cX6_pairings 109 = .ok (.lconst 0, 1) := by decide +kernel
theorem dX6_pairings_110 : decode cX6_pairings 110 = .ok (.lcmp, 1) := by decide +kernel
theorem dX6_pairings_111 : decode cX6_pairings 111 = .ok (.ifCond .le 62, 3) := by decide +kernel
theorem dX6_pairings_114 : decode cX6_pairings 114 = .ok (.aload_n 0, 1) := by decide +kernel
theorem dX6_pairings_115 : decode cX6_pairings 115 = .ok (.getfield 7, 3) := by decide +kernel
theorem dX6_pairings_118 : decode cX6_pairings 118 = .ok (.bipush 50, 2) := by decide +kernel
theorem dX6_pairings_120 : decode cX6_pairings 120 = .ok (.iload_n 2, 1) := by decide +kernel
theorem dX6_pairings_121 : decode cX6_pairings 121 = .ok (.imul, 1) := by decide +kernel
theorem dX6_pairings_122 : decode cX6_pairings 122 = .ok (.iload 4, 2) := by decide +kernel
theorem dX6_pairings_124 : decode cX6_pairings 124 = .ok (.iadd, 1) := by decide +kernel
theorem dX6_pairings_125 : decode cX6_pairings 125 = .ok (.baload, 1) := by decide +kernel
theorem dX6_pairings_126 : decode cX6_pairings 126 = .ok (.ifCond .eq 41, 3) := by decide +kernel
theorem dX6_pairings_129 : decode cX6_pairings 129 = .ok (.iload_n 3, 1) := by decide +kernel
theorem dX6_pairings_130 : decode cX6_pairings 130 = .ok (.iload 4, 2) := by decide +kernel
theorem dX6_pairings_132 : decode cX6_pairings 132 = .ok (.ishr, 1) := by decide +kernel
theorem dX6_pairings_133 : decode cX6_pairings 133 = .ok (.iconst 1, 1) := by decide +kernel
theorem dX6_pairings_134 : decode cX6_pairings 134 = .ok (.iand, 1) := by decide +kernel
theorem dX6_pairings_135 : decode cX6_pairings 135 = .ok (.ifCond .ne 32, 3) := by decide +kernel
theorem dX6_pairings_138 : decode cX6_pairings 138 = .ok (.aload_n 0, 1) := by decide +kernel
theorem dX6_pairings_139 : decode cX6_pairings 139 = .ok (.getfield 39, 3) := by decide +kernel
theorem dX6_pairings_142 : decode cX6_pairings 142 = .ok (.iload_n 3, 1) := by decide +kernel
theorem dX6_pairings_143 : decode cX6_pairings 143 = .ok (.iconst 1, 1) := by decide +kernel
theorem dX6_pairings_144 : decode cX6_pairings 144 = .ok (.iload 4, 2) := by decide +kernel
theorem dX6_pairings_146 : decode cX6_pairings 146 = .ok (.ishl, 1) := by decide +kernel
theorem dX6_pairings_147 : decode cX6_pairings 147 = .ok (.ior, 1) := by decide +kernel
theorem dX6_pairings_148 : decode cX6_pairings 148 = .ok (.aload_n 0, 1) := by decide +kernel
theorem dX6_pairings_149 : decode cX6_pairings 149 = .ok (.getfield 39, 3) := by decide +kernel
theorem dX6_pairings_152 : decode cX6_pairings 152 = .ok (.iload_n 3, 1) := by decide +kernel
theorem dX6_pairings_153 : decode cX6_pairings 153 = .ok (.iconst 1, 1) := by decide +kernel
theorem dX6_pairings_154 : decode cX6_pairings 154 = .ok (.iload 4, 2) := by decide +kernel
theorem dX6_pairings_156 : decode cX6_pairings 156 = .ok (.ishl, 1) := by decide +kernel
theorem dX6_pairings_157 : decode cX6_pairings 157 = .ok (.ior, 1) := by decide +kernel
theorem dX6_pairings_158 : decode cX6_pairings 158 = .ok (.laload, 1) := by decide +kernel
theorem dX6_pairings_159 : decode cX6_pairings 159 = .ok (.aload_n 0, 1) := by decide +kernel
theorem dX6_pairings_160 : decode cX6_pairings 160 = .ok (.getfield 39, 3) := by decide +kernel
theorem dX6_pairings_163 : decode cX6_pairings 163 = .ok (.iload_n 3, 1) := by decide +kernel
theorem dX6_pairings_164 : decode cX6_pairings 164 = .ok (.laload, 1) := by decide +kernel
theorem dX6_pairings_165 : decode cX6_pairings 165 = .ok (.ladd, 1) := by decide +kernel
theorem dX6_pairings_166 : decode cX6_pairings 166 = .ok (.lastore, 1) := by decide +kernel
theorem dX6_pairings_167 : decode cX6_pairings 167 = .ok (.iinc 4 1, 3) := by decide +kernel
theorem dX6_pairings_170 : decode cX6_pairings 170 = .ok (.goto (-76), 3) := by decide +kernel
theorem dX6_pairings_173 : decode cX6_pairings 173 = .ok (.iinc 3 (-1), 3) := by decide +kernel
theorem dX6_pairings_176 : decode cX6_pairings 176 = .ok (.goto (-89), 3) := by decide +kernel
theorem dX6_pairings_179 : decode cX6_pairings 179 = .ok (.iinc 2 1, 3) := by decide +kernel
theorem dX6_pairings_182 : decode cX6_pairings 182 = .ok (.goto (-107), 3) := by decide +kernel
theorem dX6_pairings_185 : decode cX6_pairings 185 = .ok (.aload_n 0, 1) := by decide +kernel
theorem dX6_pairings_186 : decode cX6_pairings 186 = .ok (.lconst 0, 1) := by decide +kernel
theorem dX6_pairings_187 : decode cX6_pairings 187 = .ok (.putfield 195, 3) := by decide +kernel
theorem dX6_pairings_190 : decode cX6_pairings 190 = .ok (.iconst 0, 1) := by decide +kernel
theorem dX6_pairings_191 : decode cX6_pairings 191 = .ok (.istore_n 2, 1) := by decide +kernel
theorem dX6_pairings_192 : decode cX6_pairings 192 = .ok (.iload_n 2, 1) := by decide +kernel
theorem dX6_pairings_193 : decode cX6_pairings 193 = .ok (.iload_n 1, 1) := by decide +kernel
theorem dX6_pairings_194 : decode cX6_pairings 194 = .ok (.if_icmp .ge 42, 3) := by decide +kernel
theorem dX6_pairings_197 : decode cX6_pairings 197 = .ok (.aload_n 0, 1) := by decide +kernel
theorem dX6_pairings_198 : decode cX6_pairings 198 = .ok (.iload_n 2, 1) := by decide +kernel
theorem dX6_pairings_199 : decode cX6_pairings 199 = .ok (.invokestatic 199, 3) := by decide +kernel
theorem dX6_pairings_202 : decode cX6_pairings 202 = .ok (.aload_n 0, 1) := by decide +kernel
theorem dX6_pairings_203 : decode cX6_pairings 203 = .ok (.getfield 143, 3) := by decide +kernel
theorem dX6_pairings_206 : decode cX6_pairings 206 = .ok (.if_icmp .ne 17, 3) := by decide +kernel
theorem dX6_pairings_209 : decode cX6_pairings 209 = .ok (.aload_n 0, 1) := by decide +kernel
theorem dX6_pairings_210 : decode cX6_pairings 210 = .ok (.getfield 195, 3) := by decide +kernel
theorem dX6_pairings_213 : decode cX6_pairings 213 = .ok (.aload_n 0, 1) := by decide +kernel
theorem dX6_pairings_214 : decode cX6_pairings 214 = .ok (.getfield 39, 3) := by decide +kernel
theorem dX6_pairings_217 : decode cX6_pairings 217 = .ok (.iload_n 2, 1) := by decide +kernel
theorem dX6_pairings_218 : decode cX6_pairings 218 = .ok (.laload, 1) := by decide +kernel
theorem dX6_pairings_219 : decode cX6_pairings 219 = .ok (.ladd, 1) := by decide +kernel
theorem dX6_pairings_220 : decode cX6_pairings 220 = .ok (.goto 7, 3) := by decide +kernel
theorem dX6_pairings_223 : decode cX6_pairings 223 = .ok (.aload_n 0, 1) := by decide +kernel
theorem dX6_pairings_224 : decode cX6_pairings 224 = .ok (.getfield 195, 3) := by decide +kernel
theorem dX6_pairings_227 : decode cX6_pairings 227 = .ok (.putfield 195, 3) := by decide +kernel
theorem dX6_pairings_230 : decode cX6_pairings 230 = .ok (.iinc 2 1, 3) := by decide +kernel
theorem dX6_pairings_233 : decode cX6_pairings 233 = .ok (.goto (-41), 3) := by decide +kernel
theorem dX6_pairings_236 : decode cX6_pairings 236 = .ok (.aload_n 0, 1) := by decide +kernel
theorem dX6_pairings_237 : decode cX6_pairings 237 = .ok (.iconst 1, 1) := by decide +kernel
theorem dX6_pairings_238 : decode cX6_pairings 238 = .ok (.putfield 140, 3) := by decide +kernel
theorem dX6_pairings_241 : decode cX6_pairings 241 = .ok (.aload_n 0, 1) := by decide +kernel
theorem dX6_pairings_242 : decode cX6_pairings 242 = .ok (.getfield 195, 3) := by decide +kernel
theorem dX6_pairings_245 : decode cX6_pairings 245 = .ok (.lreturn, 1) := by decide +kernel
theorem dX6_thing_0 : decode cX6_thing 0 = .ok (.aload_n 0, 1) := by decide +kernel
theorem dX6_thing_1 : decode cX6_thing 1 = .ok (.getfield 177, 3) := by decide +kernel
theorem dX6_thing_4 : decode cX6_thing 4 = .ok (.bipush 40, 2) := by decide +kernel
theorem dX6_thing_6 : decode cX6_thing 6 = .ok (.if_icmp .ne 6, 3) := by decide +kernel
theorem dX6_thing_9 : decode cX6_thing 9 = .ok (.bipush (-2), 2) := by decide +kernel
theorem dX6_thing_11 : decode cX6_thing 11 = .ok (.ireturn, 1) := by decide +kernel
theorem dX6_thing_12 : decode cX6_thing 12 = .ok (.aload_n 0, 1) := by decide +kernel
theorem dX6_thing_13 : decode cX6_thing 13 = .ok (.dup, 1) := by decide +kernel
theorem dX6_thing_14 : decode cX6_thing 14 = .ok (.getfield 177, 3) := by decide +kernel
theorem dX6_thing_17 : decode cX6_thing 17 = .ok (.iconst 1, 1) := by decide +kernel
theorem dX6_thing_18 : decode cX6_thing 18 = .ok (.iadd, 1) := by decide +kernel
theorem dX6_thing_19 : decode cX6_thing 19 = .ok (.putfield 177, 3) := by decide +kernel
theorem dX6_thing_22 : decode cX6_thing 22 = .ok (.aload_n 0, 1) := by decide +kernel
theorem dX6_thing_23 : decode cX6_thing 23 = .ok (.iconst 0, 1) := by decide +kernel
theorem dX6_thing_24 : decode cX6_thing 24 = .ok (.putfield 202, 3) := by decide +kernel
theorem dX6_thing_27 : decode cX6_thing 27 = .ok (.aload_n 0, 1) := by decide +kernel
theorem dX6_thing_28 : decode cX6_thing 28 = .ok (.getfield 177, 3) := by decide +kernel
theorem dX6_thing_31 : decode cX6_thing 31 = .ok (.iconst 1, 1) := by decide +kernel
theorem dX6_thing_32 : decode cX6_thing 32 = .ok (.isub, 1) := by decide +kernel
theorem dX6_thing_33 : decode cX6_thing 33 = .ok (.ireturn, 1) := by decide +kernel
theorem dX6_tell_0 : decode cX6_tell 0 = .ok (.iload_n 1, 1) := by decide +kernel
theorem dX6_tell_1 : decode cX6_tell 1 = .ok (.ifCond .lt 23, 3) := by decide +kernel
theorem dX6_tell_4 : decode cX6_tell 4 = .ok (.iload_n 1, 1) := by decide +kernel
theorem dX6_tell_5 : decode cX6_tell 5 = .ok (.aload_n 0, 1) := by decide +kernel
theorem dX6_tell_6 : decode cX6_tell 6 = .ok (.getfield 177, 3) := by decide +kernel
theorem dX6_tell_9 : decode cX6_tell 9 = .ok (.if_icmp .ge 15, 3) := by decide +kernel
theorem dX6_tell_12 : decode cX6_tell 12 = .ok (.iload_n 2, 1) := by decide +kernel
theorem dX6_tell_13 : decode cX6_tell 13 = .ok (.ifCond .lt 11, 3) := by decide +kernel
theorem dX6_tell_16 : decode cX6_tell 16 = .ok (.iload_n 2, 1) := by decide +kernel
theorem dX6_tell_17 : decode cX6_tell 17 = .ok (.aload_n 0, 1) := by decide +kernel
theorem dX6_tell_18 : decode cX6_tell 18 = .ok (.getfield 177, 3) := by decide +kernel
theorem dX6_tell_21 : decode cX6_tell 21 = .ok (.if_icmp .lt 5, 3) := by decide +kernel
theorem dX6_tell_24 : decode cX6_tell 24 = .ok (.iconst (-1), 1) := by decide +kernel
theorem dX6_tell_25 : decode cX6_tell 25 = .ok (.ireturn, 1) := by decide +kernel
theorem dX6_tell_26 : decode cX6_tell 26 = .ok (.iload_n 1, 1) := by decide +kernel
theorem dX6_tell_27 : decode cX6_tell 27 = .ok (.iload_n 2, 1) := by decide +kernel
theorem dX6_tell_28 : decode cX6_tell 28 = .ok (.if_icmp .eq 17, 3) := by decide +kernel
theorem dX6_tell_31 : decode cX6_tell 31 = .ok (.aload_n 0, 1) := by decide +kernel
theorem dX6_tell_32 : decode cX6_tell 32 = .ok (.getfield 43, 3) := by decide +kernel
theorem dX6_tell_35 : decode cX6_tell 35 = .ok (.bipush 50, 2) := by decide +kernel
theorem dX6_tell_37 : decode cX6_tell 37 = .ok (.iload_n 2, 1) := by decide +kernel
theorem dX6_tell_38 : decode cX6_tell 38 = .ok (.imul, 1) := by decide +kernel
theorem dX6_tell_39 : decode cX6_tell 39 = .ok (.iload_n 1, 1) := by decide +kernel
theorem dX6_tell_40 : decode cX6_tell 40 = .ok (.iadd, 1) := by decide +kernel
theorem dX6_tell_41 : decode cX6_tell 41 = .ok (.baload, 1) := by decide +kernel
theorem dX6_tell_42 : decode cX6_tell 42 = .ok (.ifCond .eq 6, 3) := by decide +kernel
theorem dX6_tell_45 : decode cX6_tell 45 = .ok (.bipush (-3), 2) := by decide +kernel
theorem dX6_tell_47 : decode cX6_tell 47 = .ok (.ireturn, 1) := by decide +kernel
theorem dX6_tell_48 : decode cX6_tell 48 = .ok (.aload_n 0, 1) := by decide +kernel
theorem dX6_tell_49 : decode cX6_tell 49 = .ok (.getfield 43, 3) := by decide +kernel
theorem dX6_tell_52 : decode cX6_tell 52 = .ok (.bipush 50, 2) := by decide +kernel
theorem dX6_tell_54 : decode cX6_tell 54 = .ok (.iload_n 1, 1) := by decide +kernel
theorem dX6_tell_55 : decode cX6_tell 55 = .ok (.imul, 1) := by decide +kernel
theorem dX6_tell_56 : decode cX6_tell 56 = .ok (.iload_n 2, 1) := by decide +kernel
theorem dX6_tell_57 : decode cX6_tell 57 = .ok (.iadd, 1) := by decide +kernel
theorem dX6_tell_58 : decode cX6_tell 58 = .ok (.baload, 1) := by decide +kernel
theorem dX6_tell_59 : decode cX6_tell 59 = .ok (.ifCond .eq 5, 3) := by decide +kernel
theorem dX6_tell_62 : decode cX6_tell 62 = .ok (.iconst 0, 1) := by decide +kernel
theorem dX6_tell_63 : decode cX6_tell 63 = .ok (.ireturn, 1) := by decide +kernel
theorem dX6_tell_64 : decode cX6_tell 64 = .ok (.iconst 0, 1) := by decide +kernel
theorem dX6_tell_65 : decode cX6_tell 65 = .ok (.istore_n 3, 1) := by decide +kernel
theorem dX6_tell_66 : decode cX6_tell 66 = .ok (.iload_n 3, 1) := by decide +kernel
theorem dX6_tell_67 : decode cX6_tell 67 = .ok (.aload_n 0, 1) := by decide +kernel
theorem dX6_tell_68 : decode cX6_tell 68 = .ok (.getfield 177, 3) := by decide +kernel
theorem dX6_tell_71 : decode cX6_tell 71 = .ok (.if_icmp .ge 80, 3) := by decide +kernel
theorem dX6_tell_74 : decode cX6_tell 74 = .ok (.iconst 0, 1) := by decide +kernel
theorem dX6_tell_75 : decode cX6_tell 75 = .ok (.istore 4, 2) := by decide +kernel
theorem dX6_tell_77 : decode cX6_tell 77 = .ok (.iload 4, 2) := by decide +kernel
theorem dX6_tell_79 : decode cX6_tell 79 = .ok (.aload_n 0, 1) := by decide +kernel
theorem dX6_tell_80 : decode cX6_tell 80 = .ok (.getfield 177, 3) := by decide +kernel
theorem dX6_tell_83 : decode cX6_tell 83 = .ok (.if_icmp .ge 62, 3) := by decide +kernel
theorem dX6_tell_86 : decode cX6_tell 86 = .ok (.iload_n 3, 1) := by decide +kernel
theorem dX6_tell_87 : decode cX6_tell 87 = .ok (.iload_n 1, 1) := by decide +kernel
theorem dX6_tell_88 : decode cX6_tell 88 = .ok (.if_icmp .eq 17, 3) := by decide +kernel
theorem dX6_tell_91 : decode cX6_tell 91 = .ok (.aload_n 0, 1) := by decide +kernel
theorem dX6_tell_92 : decode cX6_tell 92 = .ok (.getfield 43, 3) := by decide +kernel
theorem dX6_tell_95 : decode cX6_tell 95 = .ok (.bipush 50, 2) := by decide +kernel
theorem dX6_tell_97 : decode cX6_tell 97 = .ok (.iload_n 3, 1) := by decide +kernel
theorem dX6_tell_98 : decode cX6_tell 98 = .ok (.imul, 1) := by decide +kernel
theorem dX6_tell_99 : decode cX6_tell 99 = .ok (.iload_n 1, 1) := by decide +kernel
theorem dX6_tell_100 : decode cX6_tell 100 = .ok (.iadd, 1) := by decide +kernel
theorem dX6_tell_101 : decode cX6_tell 101 = .ok (.baload, 1) := by decide +kernel
theorem dX6_tell_102 : decode cX6_tell 102 = .ok (.ifCond .eq 43, 3) := by decide +kernel
theorem dX6_tell_105 : decode cX6_tell 105 = .ok (.iload 4, 2) := by decide +kernel
theorem dX6_tell_107 : decode cX6_tell 107 = .ok (.iload_n 2, 1) := by decide +kernel
theorem dX6_tell_108 : decode cX6_tell 108 = .ok (.if_icmp .eq 18, 3) := by decide +kernel
theorem dX6_tell_111 : decode cX6_tell 111 = .ok (.aload_n 0, 1) := by decide +kernel
theorem dX6_tell_112 : decode cX6_tell 112 = .ok (.getfield 43, 3) := by decide +kernel
theorem dX6_tell_115 : decode cX6_tell 115 = .ok (.bipush 50, 2) := by decide +kernel
theorem dX6_tell_117 : decode cX6_tell 117 = .ok (.iload_n 2, 1) := by decide +kernel
theorem dX6_tell_118 : decode cX6_tell 118 = .ok (.imul, 1) := by decide +kernel
theorem dX6_tell_119 : decode cX6_tell 119 = .ok (.iload 4, 2) := by decide +kernel
theorem dX6_tell_121 : decode cX6_tell 121 = .ok (.iadd, 1) := by decide +kernel
theorem dX6_tell_122 : decode cX6_tell 122 = .ok (.baload, 1) := by decide +kernel
theorem dX6_tell_123 : decode cX6_tell 123 = .ok (.ifCond .eq 16, 3) := by decide +kernel
theorem dX6_tell_126 : decode cX6_tell 126 = .ok (.aload_n 0, 1) := by decide +kernel
theorem dX6_tell_127 : decode cX6_tell 127 = .ok (.getfield 43, 3) := by decide +kernel
theorem dX6_tell_130 : decode cX6_tell 130 = .ok (.bipush 50, 2) := by decide +kernel
theorem dX6_tell_132 : decode cX6_tell 132 = .ok (.iload_n 3, 1) := by decide +kernel
theorem dX6_tell_133 : decode cX6_tell 133 = .ok (.imul, 1) := by decide +kernel
theorem dX6_tell_134 : decode cX6_tell 134 = .ok (.iload 4, 2) := by decide +kernel
theorem dX6_tell_136 : decode cX6_tell 136 = .ok (.iadd, 1) := by decide +kernel
theorem dX6_tell_137 : decode cX6_tell 137 = .ok (.iconst 1, 1) := by decide +kernel
theorem dX6_tell_138 : decode cX6_tell 138 = .ok (.bastore, 1) := by decide +kernel
theorem dX6_tell_139 : decode cX6_tell 139 = .ok (.iinc 4 1, 3) := by decide +kernel
theorem dX6_tell_142 : decode cX6_tell 142 = .ok (.goto (-65), 3) := by decide +kernel
theorem dX6_tell_145 : decode cX6_tell 145 = .ok (.iinc 3 1, 3) := by decide +kernel
theorem dX6_tell_148 : decode cX6_tell 148 = .ok (.goto (-82), 3) := by decide +kernel
theorem dX6_tell_151 : decode cX6_tell 151 = .ok (.aload_n 0, 1) := by decide +kernel
theorem dX6_tell_152 : decode cX6_tell 152 = .ok (.iconst 0, 1) := by decide +kernel
theorem dX6_tell_153 : decode cX6_tell 153 = .ok (.putfield 202, 3) := by decide +kernel
theorem dX6_tell_156 : decode cX6_tell 156 = .ok (.iconst 1, 1) := by decide +kernel
theorem dX6_tell_157 : decode cX6_tell 157 = .ok (.ireturn, 1) := by decide +kernel
theorem dX6_below_0 : decode cX6_below 0 = .ok (.iload_n 1, 1) := by decide +kernel
theorem dX6_below_1 : decode cX6_below 1 = .ok (.ifCond .lt 41, 3) := by decide +kernel
theorem dX6_below_4 : decode cX6_below 4 = .ok (.iload_n 1, 1) := by decide +kernel
theorem dX6_below_5 : decode cX6_below 5 = .ok (.aload_n 0, 1) := by decide +kernel
theorem dX6_below_6 : decode cX6_below 6 = .ok (.getfield 177, 3) := by decide +kernel
theorem dX6_below_9 : decode cX6_below 9 = .ok (.if_icmp .ge 33, 3) := by decide +kernel
theorem dX6_below_12 : decode cX6_below 12 = .ok (.iload_n 2, 1) := by decide +kernel
theorem dX6_below_13 : decode cX6_below 13 = .ok (.ifCond .lt 29, 3) := by decide +kernel
theorem dX6_below_16 : decode cX6_below 16 = .ok (.iload_n 2, 1) := by decide +kernel
theorem dX6_below_17 : decode cX6_below 17 = .ok (.aload_n 0, 1) := by decide +kernel
theorem dX6_below_18 : decode cX6_below 18 = .ok (.getfield 177, 3) := by decide +kernel
theorem dX6_below_21 : decode cX6_below 21 = .ok (.if_icmp .ge 21, 3) := by decide +kernel
theorem dX6_below_24 : decode cX6_below 24 = .ok (.aload_n 0, 1) := by decide +kernel
theorem dX6_below_25 : decode cX6_below 25 = .ok (.getfield 43, 3) := by decide +kernel
theorem dX6_below_28 : decode cX6_below 28 = .ok (.bipush 50, 2) := by decide +kernel
theorem dX6_below_30 : decode cX6_below 30 = .ok (.iload_n 1, 1) := by decide +kernel
theorem dX6_below_31 : decode cX6_below 31 = .ok (.imul, 1) := by decide +kernel
theorem dX6_below_32 : decode cX6_below 32 = .ok (.iload_n 2, 1) := by decide +kernel
theorem dX6_below_33 : decode cX6_below 33 = .ok (.iadd, 1) := by decide +kernel
theorem dX6_below_34 : decode cX6_below 34 = .ok (.baload, 1) := by decide +kernel
theorem dX6_below_35 : decode cX6_below 35 = .ok (.ifCond .eq 7, 3) := by decide +kernel
theorem dX6_below_38 : decode cX6_below 38 = .ok (.iconst 1, 1) := by decide +kernel
theorem dX6_below_39 : decode cX6_below 39 = .ok (.goto 4, 3) := by decide +kernel
theorem dX6_below_42 : decode cX6_below 42 = .ok (.iconst 0, 1) := by decide +kernel
theorem dX6_below_43 : decode cX6_below 43 = .ok (.ireturn, 1) := by decide +kernel
theorem dX6_widthBeside_0 : decode cX6_widthBeside 0 = .ok (.aload_n 0, 1) := by decide +kernel
theorem dX6_widthBeside_1 : decode cX6_widthBeside 1 = .ok (.aload_n 0, 1) := by decide +kernel
theorem dX6_widthBeside_2 : decode cX6_widthBeside 2 = .ok (.getfield 43, 3) := by decide +kernel
theorem dX6_widthBeside_5 : decode cX6_widthBeside 5 = .ok (.aload_n 0, 1) := by decide +kernel
theorem dX6_widthBeside_6 : decode cX6_widthBeside 6 = .ok (.getfield 177, 3) := by decide +kernel
theorem dX6_widthBeside_9 : decode cX6_widthBeside 9 = .ok (.aload_n 0, 1) := by decide +kernel
theorem dX6_widthBeside_10 : decode cX6_widthBeside 10 = .ok (.getfield 177, 3) := by decide +kernel
theorem dX6_widthBeside_13 : decode cX6_widthBeside 13 = .ok (.invokevirtual 132, 3) := by decide +kernel
theorem dX6_widthBeside_16 : decode cX6_widthBeside 16 = .ok (.aload_n 0, 1) := by decide +kernel
theorem dX6_widthBeside_17 : decode cX6_widthBeside 17 = .ok (.getfield 177, 3) := by decide +kernel
theorem dX6_widthBeside_20 : decode cX6_widthBeside 20 = .ok (.istore_n 2, 1) := by decide +kernel
theorem dX6_widthBeside_21 : decode cX6_widthBeside 21 = .ok (.iconst 0, 1) := by decide +kernel
theorem dX6_widthBeside_22 : decode cX6_widthBeside 22 = .ok (.istore_n 3, 1) := by decide +kernel
theorem dX6_widthBeside_23 : decode cX6_widthBeside 23 = .ok (.iload_n 3, 1) := by decide +kernel
theorem dX6_widthBeside_24 : decode cX6_widthBeside 24 = .ok (.aload_n 0, 1) := by decide +kernel
theorem dX6_widthBeside_25 : decode cX6_widthBeside 25 = .ok (.getfield 177, 3) := by decide +kernel
theorem dX6_widthBeside_28 : decode cX6_widthBeside 28 = .ok (.if_icmp .ge 63, 3) := by decide +kernel
theorem dX6_widthBeside_31 : decode cX6_widthBeside 31 = .ok (.iload_n 1, 1) := by decide +kernel
theorem dX6_widthBeside_32 : decode cX6_widthBeside 32 = .ok (.ifCond .lt 59, 3) := by decide +kernel
theorem dX6_widthBeside_35 : decode cX6_widthBeside 35 = .ok (.iload_n 3, 1) := by decide +kernel
theorem dX6_widthBeside_36 : decode cX6_widthBeside 36 = .ok (.iload_n 1, 1) := by decide +kernel
theorem dX6_widthBeside_37 : decode cX6_widthBeside 37 = .ok (.if_icmp .eq 31, 3) := by decide +kernel
theorem dX6_widthBeside_40 : decode cX6_widthBeside 40 = .ok (.aload_n 0, 1) := by decide +kernel
theorem dX6_widthBeside_41 : decode cX6_widthBeside 41 = .ok (.getfield 43, 3) := by decide +kernel
theorem dX6_widthBeside_44 : decode cX6_widthBeside 44 = .ok (.bipush 50, 2) := by decide +kernel
theorem dX6_widthBeside_46 : decode cX6_widthBeside 46 = .ok (.iload_n 3, 1) := by decide +kernel
theorem dX6_widthBeside_47 : decode cX6_widthBeside 47 = .ok (.imul, 1) := by decide +kernel
theorem dX6_widthBeside_48 : decode cX6_widthBeside 48 = .ok (.iload_n 1, 1) := by decide +kernel
theorem dX6_widthBeside_49 : decode cX6_widthBeside 49 = .ok (.iadd, 1) := by decide +kernel
theorem dX6_widthBeside_50 : decode cX6_widthBeside 50 = .ok (.baload, 1) := by decide +kernel
theorem dX6_widthBeside_51 : decode cX6_widthBeside 51 = .ok (.ifCond .ne 17, 3) := by decide +kernel
theorem dX6_widthBeside_54 : decode cX6_widthBeside 54 = .ok (.aload_n 0, 1) := by decide +kernel
theorem dX6_widthBeside_55 : decode cX6_widthBeside 55 = .ok (.getfield 43, 3) := by decide +kernel
theorem dX6_widthBeside_58 : decode cX6_widthBeside 58 = .ok (.bipush 50, 2) := by decide +kernel
theorem dX6_widthBeside_60 : decode cX6_widthBeside 60 = .ok (.iload_n 1, 1) := by decide +kernel
theorem dX6_widthBeside_61 : decode cX6_widthBeside 61 = .ok (.imul, 1) := by decide +kernel
theorem dX6_widthBeside_62 : decode cX6_widthBeside 62 = .ok (.iload_n 3, 1) := by decide +kernel
theorem dX6_widthBeside_63 : decode cX6_widthBeside 63 = .ok (.iadd, 1) := by decide +kernel
theorem dX6_widthBeside_64 : decode cX6_widthBeside 64 = .ok (.baload, 1) := by decide +kernel
theorem dX6_widthBeside_65 : decode cX6_widthBeside 65 = .ok (.ifCond .eq 20, 3) := by decide +kernel
theorem dX6_widthBeside_68 : decode cX6_widthBeside 68 = .ok (.aload_n 0, 1) := by decide +kernel
theorem dX6_widthBeside_69 : decode cX6_widthBeside 69 = .ok (.getfield 67, 3) := by decide +kernel
theorem dX6_widthBeside_72 : decode cX6_widthBeside 72 = .ok (.iload_n 3, 1) := by decide +kernel
theorem dX6_widthBeside_73 : decode cX6_widthBeside 73 = .ok (.iconst 1, 1) := by decide +kernel
theorem dX6_widthBeside_74 : decode cX6_widthBeside 74 = .ok (.bastore, 1) := by decide +kernel
theorem dX6_widthBeside_75 : decode cX6_widthBeside 75 = .ok (.aload_n 0, 1) := by decide +kernel
theorem dX6_widthBeside_76 : decode cX6_widthBeside 76 = .ok (.getfield 70, 3) := by decide +kernel
theorem dX6_widthBeside_79 : decode cX6_widthBeside 79 = .ok (.iload_n 3, 1) := by decide +kernel
theorem dX6_widthBeside_80 : decode cX6_widthBeside 80 = .ok (.iconst 1, 1) := by decide +kernel
theorem dX6_widthBeside_81 : decode cX6_widthBeside 81 = .ok (.bastore, 1) := by decide +kernel
theorem dX6_widthBeside_82 : decode cX6_widthBeside 82 = .ok (.iinc 2 (-1), 3) := by decide +kernel
theorem dX6_widthBeside_85 : decode cX6_widthBeside 85 = .ok (.iinc 3 1, 3) := by decide +kernel
theorem dX6_widthBeside_88 : decode cX6_widthBeside 88 = .ok (.goto (-65), 3) := by decide +kernel
theorem dX6_widthBeside_91 : decode cX6_widthBeside 91 = .ok (.iload_n 2, 1) := by decide +kernel
theorem dX6_widthBeside_92 : decode cX6_widthBeside 92 = .ok (.aload_n 0, 1) := by decide +kernel
theorem dX6_widthBeside_93 : decode cX6_widthBeside 93 = .ok (.invokevirtual 136, 3) := by decide +kernel
theorem dX6_widthBeside_96 : decode cX6_widthBeside 96 = .ok (.isub, 1) := by decide +kernel
theorem dX6_widthBeside_97 : decode cX6_widthBeside 97 = .ok (.ireturn, 1) := by decide +kernel
theorem dX6_workThings_0 : decode cX6_workThings 0 = .ok (.aload_n 0, 1) := by decide +kernel
theorem dX6_workThings_1 : decode cX6_workThings 1 = .ok (.getfield 202, 3) := by decide +kernel
theorem dX6_workThings_4 : decode cX6_workThings 4 = .ok (.ifCond .eq 4, 3) := by decide +kernel
theorem dX6_workThings_7 : decode cX6_workThings 7 = .ok (.return_, 1) := by decide +kernel
theorem dX6_workThings_8 : decode cX6_workThings 8 = .ok (.aload_n 0, 1) := by decide +kernel
theorem dX6_workThings_9 : decode cX6_workThings 9 = .ok (.iconst 1, 1) := by decide +kernel
theorem dX6_workThings_10 : decode cX6_workThings 10 = .ok (.putfield 202, 3) := by decide +kernel
theorem dX6_workThings_13 : decode cX6_workThings 13 = .ok (.aload_n 0, 1) := by decide +kernel
theorem dX6_workThings_14 : decode cX6_workThings 14 = .ok (.aload_n 0, 1) := by decide +kernel
theorem dX6_workThings_15 : decode cX6_workThings 15 = .ok (.iconst (-1), 1) := by decide +kernel
theorem dX6_workThings_16 : decode cX6_workThings 16 = .ok (.invokevirtual 205, 3) := by decide +kernel
theorem dX6_workThings_19 : decode cX6_workThings 19 = .ok (.putfield 180, 3) := by decide +kernel
theorem dX6_workThings_22 : decode cX6_workThings 22 = .ok (.aload_n 0, 1) := by decide +kernel
theorem dX6_workThings_23 : decode cX6_workThings 23 = .ok (.invokevirtual 153, 3) := by decide +kernel
theorem dX6_workThings_26 : decode cX6_workThings 26 = .ok (.iconst 0, 1) := by decide +kernel
theorem dX6_workThings_27 : decode cX6_workThings 27 = .ok (.istore_n 1, 1) := by decide +kernel
theorem dX6_workThings_28 : decode cX6_workThings 28 = .ok (.iload_n 1, 1) := by decide +kernel
theorem dX6_workThings_29 : decode cX6_workThings 29 = .ok (.aload_n 0, 1) := by decide +kernel
theorem dX6_workThings_30 : decode cX6_workThings 30 = .ok (.getfield 177, 3) := by decide +kernel
theorem dX6_workThings_33 : decode cX6_workThings 33 = .ok (.if_icmp .ge 28, 3) := by decide +kernel
theorem dX6_workThings_36 : decode cX6_workThings 36 = .ok (.aload_n 0, 1) := by decide +kernel
theorem dX6_workThings_37 : decode cX6_workThings 37 = .ok (.getfield 46, 3) := by decide +kernel
theorem dX6_workThings_40 : decode cX6_workThings 40 = .ok (.iload_n 1, 1) := by decide +kernel
theorem dX6_workThings_41 : decode cX6_workThings 41 = .ok (.aload_n 0, 1) := by decide +kernel
theorem dX6_workThings_42 : decode cX6_workThings 42 = .ok (.getfield 73, 3) := by decide +kernel
theorem dX6_workThings_45 : decode cX6_workThings 45 = .ok (.iload_n 1, 1) := by decide +kernel
theorem dX6_workThings_46 : decode cX6_workThings 46 = .ok (.iaload, 1) := by decide +kernel
theorem dX6_workThings_47 : decode cX6_workThings 47 = .ok (.iastore, 1) := by decide +kernel
theorem dX6_workThings_48 : decode cX6_workThings 48 = .ok (.aload_n 0, 1) := by decide +kernel
theorem dX6_workThings_49 : decode cX6_workThings 49 = .ok (.getfield 49, 3) := by decide +kernel
theorem dX6_workThings_52 : decode cX6_workThings 52 = .ok (.iload_n 1, 1) := by decide +kernel
theorem dX6_workThings_53 : decode cX6_workThings 53 = .ok (.iconst (-1), 1) := by decide +kernel
theorem dX6_workThings_54 : decode cX6_workThings 54 = .ok (.iastore, 1) := by decide +kernel
theorem dX6_workThings_55 : decode cX6_workThings 55 = .ok (.iinc 1 1, 3) := by decide +kernel
theorem dX6_workThings_58 : decode cX6_workThings 58 = .ok (.goto (-30), 3) := by decide +kernel
theorem dX6_workThings_61 : decode cX6_workThings 61 = .ok (.iconst 0, 1) := by decide +kernel
theorem dX6_workThings_62 : decode cX6_workThings 62 = .ok (.istore_n 1, 1) := by decide +kernel
theorem dX6_workThings_63 : decode cX6_workThings 63 = .ok (.iconst 0, 1) := by decide +kernel
theorem dX6_workThings_64 : decode cX6_workThings 64 = .ok (.istore_n 2, 1) := by decide +kernel
theorem dX6_workThings_65 : decode cX6_workThings 65 = .ok (.iload_n 2, 1) := by decide +kernel
theorem dX6_workThings_66 : decode cX6_workThings 66 = .ok (.aload_n 0, 1) := by decide +kernel
theorem dX6_workThings_67 : decode cX6_workThings 67 = .ok (.getfield 177, 3) := by decide +kernel
theorem dX6_workThings_70 : decode cX6_workThings 70 = .ok (.if_icmp .ge 44, 3) := by decide +kernel
theorem dX6_workThings_73 : decode cX6_workThings 73 = .ok (.aload_n 0, 1) := by decide +kernel
theorem dX6_workThings_74 : decode cX6_workThings 74 = .ok (.getfield 76, 3) := by decide +kernel
theorem dX6_workThings_77 : decode cX6_workThings 77 = .ok (.iload_n 2, 1) := by decide +kernel
theorem dX6_workThings_78 : decode cX6_workThings 78 = .ok (.iaload, 1) := by decide +kernel
theorem dX6_workThings_79 : decode cX6_workThings 79 = .ok (.ifCond .ge 29, 3) := by decide +kernel
theorem dX6_workThings_82 : decode cX6_workThings 82 = .ok (.iload_n 2, 1) := by decide +kernel
theorem dX6_workThings_83 : decode cX6_workThings 83 = .ok (.istore_n 3, 1) := by decide +kernel
theorem dX6_workThings_84 : decode cX6_workThings 84 = .ok (.iload_n 3, 1) := by decide +kernel
theorem dX6_workThings_85 : decode cX6_workThings 85 = .ok (.ifCond .lt 20, 3) := by decide +kernel
theorem dX6_workThings_88 : decode cX6_workThings 88 = .ok (.aload_n 0, 1) := by decide +kernel
theorem dX6_workThings_89 : decode cX6_workThings 89 = .ok (.getfield 49, 3) := by decide +kernel
theorem dX6_workThings_92 : decode cX6_workThings 92 = .ok (.iload_n 3, 1) := by decide +kernel
theorem dX6_workThings_93 : decode cX6_workThings 93 = .ok (.iload_n 1, 1) := by decide +kernel
theorem dX6_workThings_94 : decode cX6_workThings 94 = .ok (.iastore, 1) := by decide +kernel
theorem dX6_workThings_95 : decode cX6_workThings 95 = .ok (.aload_n 0, 1) := by decide +kernel
theorem dX6_workThings_96 : decode cX6_workThings 96 = .ok (.getfield 46, 3) := by decide +kernel
theorem dX6_workThings_99 : decode cX6_workThings 99 = .ok (.iload_n 3, 1) := by decide +kernel
theorem dX6_workThings_100 : decode cX6_workThings 100 = .ok (.iaload, 1) := by decide +kernel
theorem dX6_workThings_101 : decode cX6_workThings 101 = .ok (.istore_n 3, 1) := by decide +kernel
theorem dX6_workThings_102 : decode cX6_workThings 102 = .ok (.goto (-18), 3) := by decide +kernel
theorem dX6_workThings_105 : decode cX6_workThings 105 = .ok (.iinc 1 1, 3) := by decide +kernel
theorem dX6_workThings_108 : decode cX6_workThings 108 = .ok (.iinc 2 1, 3) := by decide +kernel
theorem dX6_workThings_111 : decode cX6_workThings 111 = .ok (.goto (-46), 3) := by decide +kernel
theorem dX6_workThings_114 : decode cX6_workThings 114 = .ok (.aload_n 0, 1) := by decide +kernel
theorem dX6_workThings_115 : decode cX6_workThings 115 = .ok (.invokevirtual 208, 3) := by decide +kernel
theorem dX6_workThings_118 : decode cX6_workThings 118 = .ok (.iconst 0, 1) := by decide +kernel
theorem dX6_workThings_119 : decode cX6_workThings 119 = .ok (.istore_n 2, 1) := by decide +kernel
theorem dX6_workThings_120 : decode cX6_workThings 120 = .ok (.iload_n 2, 1) := by decide +kernel
theorem dX6_workThings_121 : decode cX6_workThings 121 = .ok (.aload_n 0, 1) := by decide +kernel
theorem dX6_workThings_122 : decode cX6_workThings 122 = .ok (.getfield 177, 3) := by decide +kernel
theorem dX6_workThings_125 : decode cX6_workThings 125 = .ok (.if_icmp .ge 46, 3) := by decide +kernel
theorem dX6_workThings_128 : decode cX6_workThings 128 = .ok (.aload_n 0, 1) := by decide +kernel
theorem dX6_workThings_129 : decode cX6_workThings 129 = .ok (.getfield 55, 3) := by decide +kernel
theorem dX6_workThings_132 : decode cX6_workThings 132 = .ok (.iload_n 2, 1) := by decide +kernel
theorem dX6_workThings_133 : decode cX6_workThings 133 = .ok (.aload_n 0, 1) := by decide +kernel
theorem dX6_workThings_134 : decode cX6_workThings 134 = .ok (.iload_n 2, 1) := by decide +kernel
theorem dX6_workThings_135 : decode cX6_workThings 135 = .ok (.invokevirtual 205, 3) := by decide +kernel
theorem dX6_workThings_138 : decode cX6_workThings 138 = .ok (.aload_n 0, 1) := by decide +kernel
theorem dX6_workThings_139 : decode cX6_workThings 139 = .ok (.getfield 180, 3) := by decide +kernel
theorem dX6_workThings_142 : decode cX6_workThings 142 = .ok (.iconst 1, 1) := by decide +kernel
theorem dX6_workThings_143 : decode cX6_workThings 143 = .ok (.isub, 1) := by decide +kernel
theorem dX6_workThings_144 : decode cX6_workThings 144 = .ok (.if_icmp .ne 7, 3) := by decide +kernel
theorem dX6_workThings_147 : decode cX6_workThings 147 = .ok (.iconst 1, 1) := by decide +kernel
theorem dX6_workThings_148 : decode cX6_workThings 148 = .ok (.goto 4, 3) := by decide +kernel
theorem dX6_workThings_151 : decode cX6_workThings 151 = .ok (.iconst 0, 1) := by decide +kernel
theorem dX6_workThings_152 : decode cX6_workThings 152 = .ok (.bastore, 1) := by decide +kernel
theorem dX6_workThings_153 : decode cX6_workThings 153 = .ok (.aload_n 0, 1) := by decide +kernel
theorem dX6_workThings_154 : decode cX6_workThings 154 = .ok (.getfield 58, 3) := by decide +kernel
theorem dX6_workThings_157 : decode cX6_workThings 157 = .ok (.iload_n 2, 1) := by decide +kernel
theorem dX6_workThings_158 : decode cX6_workThings 158 = .ok (.aload_n 0, 1) := by decide +kernel
theorem dX6_workThings_159 : decode cX6_workThings 159 = .ok (.getfield 55, 3) := by decide +kernel
theorem dX6_workThings_162 : decode cX6_workThings 162 = .ok (.iload_n 2, 1) := by decide +kernel
theorem dX6_workThings_163 : decode cX6_workThings 163 = .ok (.baload, 1) := by decide +kernel
theorem dX6_workThings_164 : decode cX6_workThings 164 = .ok (.bastore, 1) := by decide +kernel
theorem dX6_workThings_165 : decode cX6_workThings 165 = .ok (.iinc 2 1, 3) := by decide +kernel
theorem dX6_workThings_168 : decode cX6_workThings 168 = .ok (.goto (-48), 3) := by decide +kernel
theorem dX6_workThings_171 : decode cX6_workThings 171 = .ok (.aload_n 0, 1) := by decide +kernel
theorem dX6_workThings_172 : decode cX6_workThings 172 = .ok (.invokevirtual 211, 3) := by decide +kernel
theorem dX6_workThings_175 : decode cX6_workThings 175 = .ok (.return_, 1) := by decide +kernel
theorem dX6_levels_0 : decode cX6_levels 0 = .ok (.iconst 0, 1) := by decide +kernel
theorem dX6_levels_1 : decode cX6_levels 1 = .ok (.istore_n 1, 1) := by decide +kernel
theorem dX6_levels_2 : decode cX6_levels 2 = .ok (.iload_n 1, 1) := by decide +kernel
theorem dX6_levels_3 : decode cX6_levels 3 = .ok (.aload_n 0, 1) := by decide +kernel
theorem dX6_levels_4 : decode cX6_levels 4 = .ok (.getfield 177, 3) := by decide +kernel
theorem dX6_levels_7 : decode cX6_levels 7 = .ok (.if_icmp .ge 16, 3) := by decide +kernel
theorem dX6_levels_10 : decode cX6_levels 10 = .ok (.aload_n 0, 1) := by decide +kernel
theorem dX6_levels_11 : decode cX6_levels 11 = .ok (.getfield 52, 3) := by decide +kernel
theorem dX6_levels_14 : decode cX6_levels 14 = .ok (.iload_n 1, 1) := by decide +kernel
theorem dX6_levels_15 : decode cX6_levels 15 = .ok (.iconst 0, 1) := by decide +kernel
theorem dX6_levels_16 : decode cX6_levels 16 = .ok (.iastore, 1) := by decide +kernel
theorem dX6_levels_17 : decode cX6_levels 17 = .ok (.iinc 1 1, 3) := by decide +kernel
theorem dX6_levels_20 : decode cX6_levels 20 = .ok (.goto (-18), 3) := by decide +kernel
theorem dX6_levels_23 : decode cX6_levels 23 = .ok (.iconst 0, 1) := by decide +kernel
theorem dX6_levels_24 : decode cX6_levels 24 = .ok (.istore_n 1, 1) := by decide +kernel
theorem dX6_levels_25 : decode cX6_levels 25 = .ok (.iload_n 1, 1) := by decide +kernel
theorem dX6_levels_26 : decode cX6_levels 26 = .ok (.aload_n 0, 1) := by decide +kernel
theorem dX6_levels_27 : decode cX6_levels 27 = .ok (.getfield 177, 3) := by decide +kernel
theorem dX6_levels_30 : decode cX6_levels 30 = .ok (.if_icmp .ge 84, 3) := by decide +kernel
theorem dX6_levels_33 : decode cX6_levels 33 = .ok (.iconst 0, 1) := by decide +kernel
theorem dX6_levels_34 : decode cX6_levels 34 = .ok (.istore_n 2, 1) := by decide +kernel
theorem dX6_levels_35 : decode cX6_levels 35 = .ok (.iload_n 2, 1) := by decide +kernel
theorem dX6_levels_36 : decode cX6_levels 36 = .ok (.aload_n 0, 1) := by decide +kernel
theorem dX6_levels_37 : decode cX6_levels 37 = .ok (.getfield 177, 3) := by decide +kernel
theorem dX6_levels_40 : decode cX6_levels 40 = .ok (.if_icmp .ge 68, 3) := by decide +kernel
theorem dX6_levels_43 : decode cX6_levels 43 = .ok (.iconst 0, 1) := by decide +kernel
theorem dX6_levels_44 : decode cX6_levels 44 = .ok (.istore_n 3, 1) := by decide +kernel
theorem dX6_levels_45 : decode cX6_levels 45 = .ok (.iload_n 3, 1) := by decide +kernel
theorem dX6_levels_46 : decode cX6_levels 46 = .ok (.aload_n 0, 1) := by decide +kernel
theorem dX6_levels_47 : decode cX6_levels 47 = .ok (.getfield 177, 3) := by decide +kernel
theorem dX6_levels_50 : decode cX6_levels 50 = .ok (.if_icmp .ge 52, 3) := by decide +kernel
theorem dX6_levels_53 : decode cX6_levels 53 = .ok (.aload_n 0, 1) := by decide +kernel
theorem dX6_levels_54 : decode cX6_levels 54 = .ok (.getfield 43, 3) := by decide +kernel
theorem dX6_levels_57 : decode cX6_levels 57 = .ok (.bipush 50, 2) := by decide +kernel
theorem dX6_levels_59 : decode cX6_levels 59 = .ok (.iload_n 2, 1) := by decide +kernel
theorem dX6_levels_60 : decode cX6_levels 60 = .ok (.imul, 1) := by decide +kernel
theorem dX6_levels_61 : decode cX6_levels 61 = .ok (.iload_n 3, 1) := by decide +kernel
theorem dX6_levels_62 : decode cX6_levels 62 = .ok (.iadd, 1) := by decide +kernel
theorem dX6_levels_63 : decode cX6_levels 63 = .ok (.baload, 1) := by decide +kernel
theorem dX6_levels_64 : decode cX6_levels 64 = .ok (.ifCond .eq 32, 3) := by decide +kernel
theorem dX6_levels_67 : decode cX6_levels 67 = .ok (.aload_n 0, 1) := by decide +kernel
theorem dX6_levels_68 : decode cX6_levels 68 = .ok (.getfield 52, 3) := by decide +kernel
theorem dX6_levels_71 : decode cX6_levels 71 = .ok (.iload_n 3, 1) := by decide +kernel
theorem dX6_levels_72 : decode cX6_levels 72 = .ok (.iaload, 1) := by decide +kernel
theorem dX6_levels_73 : decode cX6_levels 73 = .ok (.aload_n 0, 1) := by decide +kernel
theorem dX6_levels_74 : decode cX6_levels 74 = .ok (.getfield 52, 3) := by decide +kernel
theorem dX6_levels_77 : decode cX6_levels 77 = .ok (.iload_n 2, 1) := by decide +kernel
theorem dX6_levels_78 : decode cX6_levels 78 = .ok (.iaload, 1) := by decide +kernel
theorem dX6_levels_79 : decode cX6_levels 79 = .ok (.if_icmp .gt 17, 3) := by decide +kernel
theorem dX6_levels_82 : decode cX6_levels 82 = .ok (.aload_n 0, 1) := by decide +kernel
theorem dX6_levels_83 : decode cX6_levels 83 = .ok (.getfield 52, 3) := by decide +kernel
theorem dX6_levels_86 : decode cX6_levels 86 = .ok (.iload_n 3, 1) := by decide +kernel
theorem dX6_levels_87 : decode cX6_levels 87 = .ok (.aload_n 0, 1) := by decide +kernel
theorem dX6_levels_88 : decode cX6_levels 88 = .ok (.getfield 52, 3) := by decide +kernel
theorem dX6_levels_91 : decode cX6_levels 91 = .ok (.iload_n 2, 1) := by decide +kernel
theorem dX6_levels_92 : decode cX6_levels 92 = .ok (.iaload, 1) := by decide +kernel
theorem dX6_levels_93 : decode cX6_levels 93 = .ok (.iconst 1, 1) := by decide +kernel
theorem dX6_levels_94 : decode cX6_levels 94 = .ok (.iadd, 1) := by decide +kernel
theorem dX6_levels_95 : decode cX6_levels 95 = .ok (.iastore, 1) := by decide +kernel
theorem dX6_levels_96 : decode cX6_levels 96 = .ok (.iinc 3 1, 3) := by decide +kernel
theorem dX6_levels_99 : decode cX6_levels 99 = .ok (.goto (-54), 3) := by decide +kernel
theorem dX6_levels_102 : decode cX6_levels 102 = .ok (.iinc 2 1, 3) := by decide +kernel
theorem dX6_levels_105 : decode cX6_levels 105 = .ok (.goto (-70), 3) := by decide +kernel
theorem dX6_levels_108 : decode cX6_levels 108 = .ok (.iinc 1 1, 3) := by decide +kernel
theorem dX6_levels_111 : decode cX6_levels 111 = .ok (.goto (-86), 3) := by decide +kernel
theorem dX6_levels_114 : decode cX6_levels 114 = .ok (.return_, 1) := by decide +kernel
theorem dX6_ends_0 : decode cX6_ends 0 = .ok (.iconst 0, 1) := by decide +kernel
theorem dX6_ends_1 : decode cX6_ends 1 = .ok (.istore_n 1, 1) := by decide +kernel
theorem dX6_ends_2 : decode cX6_ends 2 = .ok (.iload_n 1, 1) := by decide +kernel
theorem dX6_ends_3 : decode cX6_ends 3 = .ok (.aload_n 0, 1) := by decide +kernel
theorem dX6_ends_4 : decode cX6_ends 4 = .ok (.getfield 177, 3) := by decide +kernel
theorem dX6_ends_7 : decode cX6_ends 7 = .ok (.if_icmp .ge 21, 3) := by decide +kernel
theorem dX6_ends_10 : decode cX6_ends 10 = .ok (.aload_n 0, 1) := by decide +kernel
theorem dX6_ends_11 : decode cX6_ends 11 = .ok (.getfield 61, 3) := by decide +kernel
theorem dX6_ends_14 : decode cX6_ends 14 = .ok (.iload_n 1, 1) := by decide +kernel
theorem dX6_ends_15 : decode cX6_ends 15 = .ok (.aload_n 0, 1) := by decide +kernel
theorem dX6_ends_16 : decode cX6_ends 16 = .ok (.getfield 55, 3) := by decide +kernel
theorem dX6_ends_19 : decode cX6_ends 19 = .ok (.iload_n 1, 1) := by decide +kernel
theorem dX6_ends_20 : decode cX6_ends 20 = .ok (.baload, 1) := by decide +kernel
theorem dX6_ends_21 : decode cX6_ends 21 = .ok (.bastore, 1) := by decide +kernel
theorem dX6_ends_22 : decode cX6_ends 22 = .ok (.iinc 1 1, 3) := by decide +kernel
theorem dX6_ends_25 : decode cX6_ends 25 = .ok (.goto (-23), 3) := by decide +kernel
theorem dX6_ends_28 : decode cX6_ends 28 = .ok (.iconst 0, 1) := by decide +kernel
theorem dX6_ends_29 : decode cX6_ends 29 = .ok (.istore_n 1, 1) := by decide +kernel
theorem dX6_ends_30 : decode cX6_ends 30 = .ok (.iload_n 1, 1) := by decide +kernel
theorem dX6_ends_31 : decode cX6_ends 31 = .ok (.aload_n 0, 1) := by decide +kernel
theorem dX6_ends_32 : decode cX6_ends 32 = .ok (.getfield 177, 3) := by decide +kernel
theorem dX6_ends_35 : decode cX6_ends 35 = .ok (.if_icmp .ge 85, 3) := by decide +kernel
theorem dX6_ends_38 : decode cX6_ends 38 = .ok (.iconst 0, 1) := by decide +kernel
theorem dX6_ends_39 : decode cX6_ends 39 = .ok (.istore_n 2, 1) := by decide +kernel
theorem dX6_ends_40 : decode cX6_ends 40 = .ok (.iload_n 2, 1) := by decide +kernel
theorem dX6_ends_41 : decode cX6_ends 41 = .ok (.aload_n 0, 1) := by decide +kernel
theorem dX6_ends_42 : decode cX6_ends 42 = .ok (.getfield 177, 3) := by decide +kernel
theorem dX6_ends_45 : decode cX6_ends 45 = .ok (.if_icmp .ge 69, 3) := by decide +kernel
theorem dX6_ends_48 : decode cX6_ends 48 = .ok (.aload_n 0, 1) := by decide +kernel
theorem dX6_ends_49 : decode cX6_ends 49 = .ok (.getfield 61, 3) := by decide +kernel
theorem dX6_ends_52 : decode cX6_ends 52 = .ok (.iload_n 2, 1) := by decide +kernel
theorem dX6_ends_53 : decode cX6_ends 53 = .ok (.baload, 1) := by decide +kernel
theorem dX6_ends_54 : decode cX6_ends 54 = .ok (.ifCond .eq 24, 3) := by decide +kernel
theorem dX6_ends_57 : decode cX6_ends 57 = .ok (.aload_n 0, 1) := by decide +kernel
theorem dX6_ends_58 : decode cX6_ends 58 = .ok (.getfield 43, 3) := by decide +kernel
theorem dX6_ends_61 : decode cX6_ends 61 = .ok (.bipush 50, 2) := by decide +kernel
theorem dX6_ends_63 : decode cX6_ends 63 = .ok (.iload_n 2, 1) := by decide +kernel
theorem dX6_ends_64 : decode cX6_ends 64 = .ok (.imul, 1) := by decide +kernel
theorem dX6_ends_65 : decode cX6_ends 65 = .ok (.iload_n 1, 1) := by decide +kernel
theorem dX6_ends_66 : decode cX6_ends 66 = .ok (.iadd, 1) := by decide +kernel
theorem dX6_ends_67 : decode cX6_ends 67 = .ok (.baload, 1) := by decide +kernel
theorem dX6_ends_68 : decode cX6_ends 68 = .ok (.ifCond .eq 10, 3) := by decide +kernel
theorem dX6_ends_71 : decode cX6_ends 71 = .ok (.aload_n 0, 1) := by decide +kernel
theorem dX6_ends_72 : decode cX6_ends 72 = .ok (.getfield 55, 3) := by decide +kernel
theorem dX6_ends_75 : decode cX6_ends 75 = .ok (.iload_n 1, 1) := by decide +kernel
theorem dX6_ends_76 : decode cX6_ends 76 = .ok (.iconst 0, 1) := by decide +kernel
theorem dX6_ends_77 : decode cX6_ends 77 = .ok (.bastore, 1) := by decide +kernel
theorem dX6_ends_78 : decode cX6_ends 78 = .ok (.aload_n 0, 1) := by decide +kernel
theorem dX6_ends_79 : decode cX6_ends 79 = .ok (.getfield 61, 3) := by decide +kernel
theorem dX6_ends_82 : decode cX6_ends 82 = .ok (.iload_n 2, 1) := by decide +kernel
theorem dX6_ends_83 : decode cX6_ends 83 = .ok (.baload, 1) := by decide +kernel
theorem dX6_ends_84 : decode cX6_ends 84 = .ok (.ifCond .eq 24, 3) := by decide +kernel
theorem dX6_ends_87 : decode cX6_ends 87 = .ok (.aload_n 0, 1) := by decide +kernel
theorem dX6_ends_88 : decode cX6_ends 88 = .ok (.getfield 43, 3) := by decide +kernel
theorem dX6_ends_91 : decode cX6_ends 91 = .ok (.bipush 50, 2) := by decide +kernel
theorem dX6_ends_93 : decode cX6_ends 93 = .ok (.iload_n 1, 1) := by decide +kernel
theorem dX6_ends_94 : decode cX6_ends 94 = .ok (.imul, 1) := by decide +kernel
theorem dX6_ends_95 : decode cX6_ends 95 = .ok (.iload_n 2, 1) := by decide +kernel
theorem dX6_ends_96 : decode cX6_ends 96 = .ok (.iadd, 1) := by decide +kernel
theorem dX6_ends_97 : decode cX6_ends 97 = .ok (.baload, 1) := by decide +kernel
theorem dX6_ends_98 : decode cX6_ends 98 = .ok (.ifCond .eq 10, 3) := by decide +kernel
theorem dX6_ends_101 : decode cX6_ends 101 = .ok (.aload_n 0, 1) := by decide +kernel
theorem dX6_ends_102 : decode cX6_ends 102 = .ok (.getfield 58, 3) := by decide +kernel
theorem dX6_ends_105 : decode cX6_ends 105 = .ok (.iload_n 1, 1) := by decide +kernel
theorem dX6_ends_106 : decode cX6_ends 106 = .ok (.iconst 0, 1) := by decide +kernel
theorem dX6_ends_107 : decode cX6_ends 107 = .ok (.bastore, 1) := by decide +kernel
theorem dX6_ends_108 : decode cX6_ends 108 = .ok (.iinc 2 1, 3) := by decide +kernel
theorem dX6_ends_111 : decode cX6_ends 111 = .ok (.goto (-71), 3) := by decide +kernel
theorem dX6_ends_114 : decode cX6_ends 114 = .ok (.iinc 1 1, 3) := by decide +kernel
theorem dX6_ends_117 : decode cX6_ends 117 = .ok (.goto (-87), 3) := by decide +kernel
theorem dX6_ends_120 : decode cX6_ends 120 = .ok (.return_, 1) := by decide +kernel
theorem dX6_about_0 : decode cX6_about 0 = .ok (.iload_n 1, 1) := by decide +kernel
theorem dX6_about_1 : decode cX6_about 1 = .ok (.ifCond .lt 20, 3) := by decide +kernel
theorem dX6_about_4 : decode cX6_about 4 = .ok (.iload_n 1, 1) := by decide +kernel
theorem dX6_about_5 : decode cX6_about 5 = .ok (.aload_n 0, 1) := by decide +kernel
theorem dX6_about_6 : decode cX6_about 6 = .ok (.getfield 177, 3) := by decide +kernel
theorem dX6_about_9 : decode cX6_about 9 = .ok (.if_icmp .ge 12, 3) := by decide +kernel
theorem dX6_about_12 : decode cX6_about 12 = .ok (.iload_n 2, 1) := by decide +kernel
theorem dX6_about_13 : decode cX6_about 13 = .ok (.ifCond .lt 8, 3) := by decide +kernel
theorem dX6_about_16 : decode cX6_about 16 = .ok (.iload_n 2, 1) := by decide +kernel
theorem dX6_about_17 : decode cX6_about 17 = .ok (.iconst 4, 1) := by decide +kernel
theorem dX6_about_18 : decode cX6_about 18 = .ok (.if_icmp .le 5, 3) := by decide +kernel
theorem dX6_about_21 : decode cX6_about 21 = .ok (.iconst (-1), 1) := by decide +kernel
theorem dX6_about_22 : decode cX6_about 22 = .ok (.ireturn, 1) := by decide +kernel
theorem dX6_about_23 : decode cX6_about 23 = .ok (.aload_n 0, 1) := by decide +kernel
theorem dX6_about_24 : decode cX6_about 24 = .ok (.invokevirtual 164, 3) := by decide +kernel
theorem dX6_about_27 : decode cX6_about 27 = .ok (.iload_n 2, 1) := by decide +kernel
theorem dX6_about_28 : decode cX6_about 28 = .ok (.tableswitch 82 0 3 #[32, 39, 60, 67], 32) := by decide +kernel
theorem dX6_about_60 : decode cX6_about 60 = .ok (.aload_n 0, 1) := by decide +kernel
theorem dX6_about_61 : decode cX6_about 61 = .ok (.getfield 49, 3) := by decide +kernel
theorem dX6_about_64 : decode cX6_about 64 = .ok (.iload_n 1, 1) := by decide +kernel
theorem dX6_about_65 : decode cX6_about 65 = .ok (.iaload, 1) := by decide +kernel
theorem dX6_about_66 : decode cX6_about 66 = .ok (.ireturn, 1) := by decide +kernel
theorem dX6_about_67 : decode cX6_about 67 = .ok (.aload_n 0, 1) := by decide +kernel
theorem dX6_about_68 : decode cX6_about 68 = .ok (.getfield 46, 3) := by decide +kernel
theorem dX6_about_71 : decode cX6_about 71 = .ok (.iload_n 1, 1) := by decide +kernel
theorem dX6_about_72 : decode cX6_about 72 = .ok (.iaload, 1) := by decide +kernel
theorem dX6_about_73 : decode cX6_about 73 = .ok (.ifCond .ge 8, 3) := by decide +kernel
theorem dX6_about_76 : decode cX6_about 76 = .ok (.bipush (-3), 2) := by decide +kernel
theorem dX6_about_78 : decode cX6_about 78 = .ok (.goto 9, 3) := by decide +kernel
theorem dX6_about_81 : decode cX6_about 81 = .ok (.aload_n 0, 1) := by decide +kernel
theorem dX6_about_82 : decode cX6_about 82 = .ok (.getfield 46, 3) := by decide +kernel
theorem dX6_about_85 : decode cX6_about 85 = .ok (.iload_n 1, 1) := by decide +kernel
theorem dX6_about_86 : decode cX6_about 86 = .ok (.iaload, 1) := by decide +kernel
theorem dX6_about_87 : decode cX6_about 87 = .ok (.ireturn, 1) := by decide +kernel
theorem dX6_about_88 : decode cX6_about 88 = .ok (.aload_n 0, 1) := by decide +kernel
theorem dX6_about_89 : decode cX6_about 89 = .ok (.getfield 52, 3) := by decide +kernel
theorem dX6_about_92 : decode cX6_about 92 = .ok (.iload_n 1, 1) := by decide +kernel
theorem dX6_about_93 : decode cX6_about 93 = .ok (.iaload, 1) := by decide +kernel
theorem dX6_about_94 : decode cX6_about 94 = .ok (.ireturn, 1) := by decide +kernel
theorem dX6_about_95 : decode cX6_about 95 = .ok (.aload_n 0, 1) := by decide +kernel
theorem dX6_about_96 : decode cX6_about 96 = .ok (.getfield 55, 3) := by decide +kernel
theorem dX6_about_99 : decode cX6_about 99 = .ok (.iload_n 1, 1) := by decide +kernel
theorem dX6_about_100 : decode cX6_about 100 = .ok (.baload, 1) := by decide +kernel
theorem dX6_about_101 : decode cX6_about 101 = .ok (.ifCond .eq 7, 3) := by decide +kernel
theorem dX6_about_104 : decode cX6_about 104 = .ok (.iconst 1, 1) := by decide +kernel
theorem dX6_about_105 : decode cX6_about 105 = .ok (.goto 4, 3) := by decide +kernel
theorem dX6_about_108 : decode cX6_about 108 = .ok (.iconst 0, 1) := by decide +kernel
theorem dX6_about_109 : decode cX6_about 109 = .ok (.ireturn, 1) := by decide +kernel
theorem dX6_about_110 : decode cX6_about 110 = .ok (.aload_n 0, 1) := by decide +kernel
theorem dX6_about_111 : decode cX6_about 111 = .ok (.getfield 58, 3) := by decide +kernel
theorem dX6_about_114 : decode cX6_about 114 = .ok (.iload_n 1, 1) := by decide +kernel
theorem dX6_about_115 : decode cX6_about 115 = .ok (.baload, 1) := by decide +kernel
theorem dX6_about_116 : decode cX6_about 116 = .ok (.ifCond .eq 7, 3) := by decide +kernel
theorem dX6_about_119 : decode cX6_about 119 = .ok (.iconst 1, 1) := by decide +kernel
theorem dX6_about_120 : decode cX6_about 120 = .ok (.goto 4, 3) := by decide +kernel
theorem dX6_about_123 : decode cX6_about 123 = .ok (.iconst 0, 1) := by decide +kernel
theorem dX6_about_124 : decode cX6_about 124 = .ok (.ireturn, 1) := by decide +kernel
theorem dX6_clearGraph_0 : decode cX6_clearGraph 0 = .ok (.aload_n 0, 1) := by decide +kernel
theorem dX6_clearGraph_1 : decode cX6_clearGraph 1 = .ok (.getfield 126, 3) := by decide +kernel
theorem dX6_clearGraph_4 : decode cX6_clearGraph 4 = .ok (.aload_n 0, 1) := by decide +kernel
theorem dX6_clearGraph_5 : decode cX6_clearGraph 5 = .ok (.getfield 129, 3) := by decide +kernel
theorem dX6_clearGraph_8 : decode cX6_clearGraph 8 = .ok (.iadd, 1) := by decide +kernel
theorem dX6_clearGraph_9 : decode cX6_clearGraph 9 = .ok (.istore_n 1, 1) := by decide +kernel
theorem dX6_clearGraph_10 : decode cX6_clearGraph 10 = .ok (.aload_n 0, 1) := by decide +kernel
theorem dX6_clearGraph_11 : decode cX6_clearGraph 11 = .ok (.iconst 0, 1) := by decide +kernel
theorem dX6_clearGraph_12 : decode cX6_clearGraph 12 = .ok (.putfield 126, 3) := by decide +kernel
theorem dX6_clearGraph_15 : decode cX6_clearGraph 15 = .ok (.aload_n 0, 1) := by decide +kernel
theorem dX6_clearGraph_16 : decode cX6_clearGraph 16 = .ok (.iconst 0, 1) := by decide +kernel
theorem dX6_clearGraph_17 : decode cX6_clearGraph 17 = .ok (.putfield 129, 3) := by decide +kernel
theorem dX6_clearGraph_20 : decode cX6_clearGraph 20 = .ok (.aload_n 0, 1) := by decide +kernel
theorem dX6_clearGraph_21 : decode cX6_clearGraph 21 = .ok (.iconst 0, 1) := by decide +kernel
theorem dX6_clearGraph_22 : decode cX6_clearGraph 22 = .ok (.putfield 122, 3) := by decide +kernel
theorem dX6_clearGraph_25 : decode cX6_clearGraph 25 = .ok (.iconst 0, 1) := by decide +kernel
theorem dX6_clearGraph_26 : decode cX6_clearGraph 26 = .ok (.istore_n 2, 1) := by decide +kernel
theorem dX6_clearGraph_27 : decode cX6_clearGraph 27 = .ok (.iload_n 2, 1) := by decide +kernel
theorem dX6_clearGraph_28 : decode cX6_clearGraph 28 = .ok (.sipush 2500, 3) := by decide +kernel
theorem dX6_clearGraph_31 : decode cX6_clearGraph 31 = .ok (.if_icmp .ge 16, 3) := by decide +kernel
theorem dX6_clearGraph_34 : decode cX6_clearGraph 34 = .ok (.aload_n 0, 1) := by decide +kernel
theorem dX6_clearGraph_35 : decode cX6_clearGraph 35 = .ok (.getfield 7, 3) := by decide +kernel
theorem dX6_clearGraph_38 : decode cX6_clearGraph 38 = .ok (.iload_n 2, 1) := by decide +kernel
theorem dX6_clearGraph_39 : decode cX6_clearGraph 39 = .ok (.iconst 0, 1) := by decide +kernel
theorem dX6_clearGraph_40 : decode cX6_clearGraph 40 = .ok (.bastore, 1) := by decide +kernel
theorem dX6_clearGraph_41 : decode cX6_clearGraph 41 = .ok (.iinc 2 1, 3) := by decide +kernel
theorem dX6_clearGraph_44 : decode cX6_clearGraph 44 = .ok (.goto (-17), 3) := by decide +kernel
theorem dX6_clearGraph_47 : decode cX6_clearGraph 47 = .ok (.iload_n 1, 1) := by decide +kernel
theorem dX6_clearGraph_48 : decode cX6_clearGraph 48 = .ok (.ireturn, 1) := by decide +kernel
theorem dX6_clearThings_0 : decode cX6_clearThings 0 = .ok (.aload_n 0, 1) := by decide +kernel
theorem dX6_clearThings_1 : decode cX6_clearThings 1 = .ok (.getfield 177, 3) := by decide +kernel
theorem dX6_clearThings_4 : decode cX6_clearThings 4 = .ok (.istore_n 1, 1) := by decide +kernel
theorem dX6_clearThings_5 : decode cX6_clearThings 5 = .ok (.aload_n 0, 1) := by decide +kernel
theorem dX6_clearThings_6 : decode cX6_clearThings 6 = .ok (.iconst 0, 1) := by decide +kernel
theorem dX6_clearThings_7 : decode cX6_clearThings 7 = .ok (.putfield 177, 3) := by decide +kernel
theorem dX6_clearThings_10 : decode cX6_clearThings 10 = .ok (.aload_n 0, 1) := by decide +kernel
theorem dX6_clearThings_11 : decode cX6_clearThings 11 = .ok (.iconst 0, 1) := by decide +kernel
theorem dX6_clearThings_12 : decode cX6_clearThings 12 = .ok (.putfield 202, 3) := by decide +kernel
theorem dX6_clearThings_15 : decode cX6_clearThings 15 = .ok (.iconst 0, 1) := by decide +kernel
theorem dX6_clearThings_16 : decode cX6_clearThings 16 = .ok (.istore_n 2, 1) := by decide +kernel
theorem dX6_clearThings_17 : decode cX6_clearThings 17 = .ok (.iload_n 2, 1) := by decide +kernel
theorem dX6_clearThings_18 : decode cX6_clearThings 18 = .ok (.sipush 2500, 3) := by decide +kernel
theorem dX6_clearThings_21 : decode cX6_clearThings 21 = .ok (.if_icmp .ge 16, 3) := by decide +kernel
theorem dX6_clearThings_24 : decode cX6_clearThings 24 = .ok (.aload_n 0, 1) := by decide +kernel
theorem dX6_clearThings_25 : decode cX6_clearThings 25 = .ok (.getfield 43, 3) := by decide +kernel
theorem dX6_clearThings_28 : decode cX6_clearThings 28 = .ok (.iload_n 2, 1) := by decide +kernel
theorem dX6_clearThings_29 : decode cX6_clearThings 29 = .ok (.iconst 0, 1) := by decide +kernel
theorem dX6_clearThings_30 : decode cX6_clearThings 30 = .ok (.bastore, 1) := by decide +kernel
theorem dX6_clearThings_31 : decode cX6_clearThings 31 = .ok (.iinc 2 1, 3) := by decide +kernel
theorem dX6_clearThings_34 : decode cX6_clearThings 34 = .ok (.goto (-17), 3) := by decide +kernel
