theorem dX0_init_0 : decode cX0_init 0 = .ok (.aload_n 0, 1) := by decide +kernel
theorem dX0_init_1 : decode cX0_init 1 = .ok (.invokespecial 3, 3) := by decide +kernel
theorem dX0_init_4 : decode cX0_init 4 = .ok (.aload_n 0, 1) := by decide +kernel
theorem dX0_init_5 : decode cX0_init 5 = .ok (.aload_n 1, 1) := by decide +kernel
theorem dX0_init_6 : decode cX0_init 6 = .ok (.putfield 9, 3) := by decide +kernel
theorem dX0_init_9 : decode cX0_init 9 = .ok (.aload_n 0, 1) := by decide +kernel
theorem dX0_init_10 : decode cX0_init 10 = .ok (.aload_n 2, 1) := by decide +kernel
theorem dX0_init_11 : decode cX0_init 11 = .ok (.putfield 15, 3) := by decide +kernel
theorem dX0_init_14 : decode cX0_init 14 = .ok (.aload_n 0, 1) := by decide +kernel
theorem dX0_init_15 : decode cX0_init 15 = .ok (.bipush 50, 2) := by decide +kernel
theorem dX0_init_17 : decode cX0_init 17 = .ok (.newarray .long, 2) := by decide +kernel
theorem dX0_init_19 : decode cX0_init 19 = .ok (.putfield 19, 3) := by decide +kernel
theorem dX0_init_22 : decode cX0_init 22 = .ok (.aload_n 0, 1) := by decide +kernel
theorem dX0_init_23 : decode cX0_init 23 = .ok (.bipush 50, 2) := by decide +kernel
theorem dX0_init_25 : decode cX0_init 25 = .ok (.newarray .int, 2) := by decide +kernel
theorem dX0_init_27 : decode cX0_init 27 = .ok (.putfield 23, 3) := by decide +kernel
theorem dX0_init_30 : decode cX0_init 30 = .ok (.aload_n 0, 1) := by decide +kernel
theorem dX0_init_31 : decode cX0_init 31 = .ok (.bipush 50, 2) := by decide +kernel
theorem dX0_init_33 : decode cX0_init 33 = .ok (.newarray .long, 2) := by decide +kernel
theorem dX0_init_35 : decode cX0_init 35 = .ok (.putfield 27, 3) := by decide +kernel
theorem dX0_init_38 : decode cX0_init 38 = .ok (.aload_n 0, 1) := by decide +kernel
theorem dX0_init_39 : decode cX0_init 39 = .ok (.bipush 50, 2) := by decide +kernel
theorem dX0_init_41 : decode cX0_init 41 = .ok (.newarray .long, 2) := by decide +kernel
theorem dX0_init_43 : decode cX0_init 43 = .ok (.putfield 30, 3) := by decide +kernel
theorem dX0_init_46 : decode cX0_init 46 = .ok (.aload_n 0, 1) := by decide +kernel
theorem dX0_init_47 : decode cX0_init 47 = .ok (.iconst 0, 1) := by decide +kernel
theorem dX0_init_48 : decode cX0_init 48 = .ok (.putfield 33, 3) := by decide +kernel
theorem dX0_init_51 : decode cX0_init 51 = .ok (.aload_n 0, 1) := by decide +kernel
theorem dX0_init_52 : decode cX0_init 52 = .ok (.iconst (-1), 1) := by decide +kernel
theorem dX0_init_53 : decode cX0_init 53 = .ok (.putfield 37, 3) := by decide +kernel
theorem dX0_init_56 : decode cX0_init 56 = .ok (.return_, 1) := by decide +kernel
theorem dX0_refresh_0 : decode cX0_refresh 0 = .ok (.aload_n 0, 1) := by decide +kernel
theorem dX0_refresh_1 : decode cX0_refresh 1 = .ok (.getfield 37, 3) := by decide +kernel
theorem dX0_refresh_4 : decode cX0_refresh 4 = .ok (.aload_n 0, 1) := by decide +kernel
theorem dX0_refresh_5 : decode cX0_refresh 5 = .ok (.getfield 9, 3) := by decide +kernel
theorem dX0_refresh_8 : decode cX0_refresh 8 = .ok (.invokevirtual 40, 3) := by decide +kernel
theorem dX0_refresh_11 : decode cX0_refresh 11 = .ok (.if_icmp .ne 4, 3) := by decide +kernel
theorem dX0_refresh_14 : decode cX0_refresh 14 = .ok (.return_, 1) := by decide +kernel
theorem dX0_refresh_15 : decode cX0_refresh 15 = .ok (.aload_n 0, 1) := by decide +kernel
theorem dX0_refresh_16 : decode cX0_refresh 16 = .ok (.aload_n 0, 1) := by decide +kernel
theorem dX0_refresh_17 : decode cX0_refresh 17 = .ok (.getfield 9, 3) := by decide +kernel
theorem dX0_refresh_20 : decode cX0_refresh 20 = .ok (.invokevirtual 40, 3) := by decide +kernel
theorem dX0_refresh_23 : decode cX0_refresh 23 = .ok (.putfield 37, 3) := by decide +kernel
theorem dX0_refresh_26 : decode cX0_refresh 26 = .ok (.aload_n 0, 1) := by decide +kernel
theorem dX0_refresh_27 : decode cX0_refresh 27 = .ok (.invokevirtual 46, 3) := by decide +kernel
theorem dX0_refresh_30 : decode cX0_refresh 30 = .ok (.aload_n 0, 1) := by decide +kernel
theorem dX0_refresh_31 : decode cX0_refresh 31 = .ok (.invokevirtual 49, 3) := by decide +kernel
theorem dX0_refresh_34 : decode cX0_refresh 34 = .ok (.return_, 1) := by decide +kernel
theorem dX0_howMany_0 : decode cX0_howMany 0 = .ok (.aload_n 0, 1) := by decide +kernel
theorem dX0_howMany_1 : decode cX0_howMany 1 = .ok (.getfield 33, 3) := by decide +kernel
theorem dX0_howMany_4 : decode cX0_howMany 4 = .ok (.ireturn, 1) := by decide +kernel
theorem dX0_holds_0 : decode cX0_holds 0 = .ok (.iload_n 1, 1) := by decide +kernel
theorem dX0_holds_1 : decode cX0_holds 1 = .ok (.ifCond .lt 15, 3) := by decide +kernel
theorem dX0_holds_4 : decode cX0_holds 4 = .ok (.iload_n 1, 1) := by decide +kernel
theorem dX0_holds_5 : decode cX0_holds 5 = .ok (.aload_n 0, 1) := by decide +kernel
theorem dX0_holds_6 : decode cX0_holds 6 = .ok (.getfield 33, 3) := by decide +kernel
theorem dX0_holds_9 : decode cX0_holds 9 = .ok (.if_icmp .ge 7, 3) := by decide +kernel
theorem dX0_holds_12 : decode cX0_holds 12 = .ok (.iconst 1, 1) := by decide +kernel
theorem dX0_holds_13 : decode cX0_holds 13 = .ok (.goto 4, 3) := by decide +kernel
theorem dX0_holds_16 : decode cX0_holds 16 = .ok (.iconst 0, 1) := by decide +kernel
theorem dX0_holds_17 : decode cX0_holds 17 = .ok (.ireturn, 1) := by decide +kernel
theorem dX0_numberOf_0 : decode cX0_numberOf 0 = .ok (.iload_n 1, 1) := by decide +kernel
theorem dX0_numberOf_1 : decode cX0_numberOf 1 = .ok (.ifCond .ne 7, 3) := by decide +kernel
theorem dX0_numberOf_4 : decode cX0_numberOf 4 = .ok (.iload_n 2, 1) := by decide +kernel
theorem dX0_numberOf_5 : decode cX0_numberOf 5 = .ok (.goto 12, 3) := by decide +kernel
theorem dX0_numberOf_8 : decode cX0_numberOf 8 = .ok (.aload_n 0, 1) := by decide +kernel
theorem dX0_numberOf_9 : decode cX0_numberOf 9 = .ok (.getfield 15, 3) := by decide +kernel
theorem dX0_numberOf_12 : decode cX0_numberOf 12 = .ok (.iconst 1, 1) := by decide +kernel
theorem dX0_numberOf_13 : decode cX0_numberOf 13 = .ok (.iload_n 2, 1) := by decide +kernel
theorem dX0_numberOf_14 : decode cX0_numberOf 14 = .ok (.invokevirtual 52, 3) := by decide +kernel
theorem dX0_numberOf_17 : decode cX0_numberOf 17 = .ok (.istore_n 3, 1) := by decide +kernel
theorem dX0_numberOf_18 : decode cX0_numberOf 18 = .ok (.aload_n 0, 1) := by decide +kernel
theorem dX0_numberOf_19 : decode cX0_numberOf 19 = .ok (.getfield 9, 3) := by decide +kernel
theorem dX0_numberOf_22 : decode cX0_numberOf 22 = .ok (.iconst 0, 1) := by decide +kernel
theorem dX0_numberOf_23 : decode cX0_numberOf 23 = .ok (.iload_n 3, 1) := by decide +kernel
theorem dX0_numberOf_24 : decode cX0_numberOf 24 = .ok (.invokevirtual 58, 3) := by decide +kernel
theorem dX0_numberOf_27 : decode cX0_numberOf 27 = .ok (.ifCond .eq 12, 3) := by decide +kernel
theorem dX0_numberOf_30 : decode cX0_numberOf 30 = .ok (.aload_n 0, 1) := by decide +kernel
theorem dX0_numberOf_31 : decode cX0_numberOf 31 = .ok (.getfield 23, 3) := by decide +kernel
theorem dX0_numberOf_34 : decode cX0_numberOf 34 = .ok (.iload_n 3, 1) := by decide +kernel
theorem dX0_numberOf_35 : decode cX0_numberOf 35 = .ok (.iaload, 1) := by decide +kernel
theorem dX0_numberOf_36 : decode cX0_numberOf 36 = .ok (.goto 5, 3) := by decide +kernel
theorem dX0_numberOf_39 : decode cX0_numberOf 39 = .ok (.bipush (-3), 2) := by decide +kernel
theorem dX0_numberOf_41 : decode cX0_numberOf 41 = .ok (.ireturn, 1) := by decide +kernel
theorem dX0_comesTo_0 : decode cX0_comesTo 0 = .ok (.iload_n 1, 1) := by decide +kernel
theorem dX0_comesTo_1 : decode cX0_comesTo 1 = .ok (.iload_n 2, 1) := by decide +kernel
theorem dX0_comesTo_2 : decode cX0_comesTo 2 = .ok (.if_icmp .eq 19, 3) := by decide +kernel
theorem dX0_comesTo_5 : decode cX0_comesTo 5 = .ok (.aload_n 0, 1) := by decide +kernel
theorem dX0_comesTo_6 : decode cX0_comesTo 6 = .ok (.iload_n 1, 1) := by decide +kernel
theorem dX0_comesTo_7 : decode cX0_comesTo 7 = .ok (.invokevirtual 62, 3) := by decide +kernel
theorem dX0_comesTo_10 : decode cX0_comesTo 10 = .ok (.ifCond .eq 11, 3) := by decide +kernel
theorem dX0_comesTo_13 : decode cX0_comesTo 13 = .ok (.aload_n 0, 1) := by decide +kernel
theorem dX0_comesTo_14 : decode cX0_comesTo 14 = .ok (.iload_n 2, 1) := by decide +kernel
theorem dX0_comesTo_15 : decode cX0_comesTo 15 = .ok (.invokevirtual 62, 3) := by decide +kernel
theorem dX0_comesTo_18 : decode cX0_comesTo 18 = .ok (.ifCond .ne 5, 3) := by decide +kernel
theorem dX0_comesTo_21 : decode cX0_comesTo 21 = .ok (.iconst 0, 1) := by decide +kernel
theorem dX0_comesTo_22 : decode cX0_comesTo 22 = .ok (.ireturn, 1) := by decide +kernel
theorem dX0_comesTo_23 : decode cX0_comesTo 23 = .ok (.aload_n 0, 1) := by decide +kernel
theorem dX0_comesTo_24 : decode cX0_comesTo 24 = .ok (.getfield 30, 3) := by decide +kernel
theorem dX0_comesTo_27 : decode cX0_comesTo 27 = .ok (.iload_n 1, 1) := by decide +kernel
theorem dX0_comesTo_28 : decode cX0_comesTo 28 = .ok (.laload, 1) := by decide +kernel
theorem dX0_comesTo_29 : decode cX0_comesTo 29 = .ok (.aload_n 0, 1) := by decide +kernel
theorem dX0_comesTo_30 : decode cX0_comesTo 30 = .ok (.getfield 27, 3) := by decide +kernel
theorem dX0_comesTo_33 : decode cX0_comesTo 33 = .ok (.iload_n 2, 1) := by decide +kernel
theorem dX0_comesTo_34 : decode cX0_comesTo 34 = .ok (.laload, 1) := by decide +kernel
theorem dX0_comesTo_35 : decode cX0_comesTo 35 = .ok (.land, 1) := by decide +kernel
theorem dX0_comesTo_36 : decode cX0_comesTo 36 = .ok (.lconst 0, 1) := by decide +kernel
theorem dX0_comesTo_37 : decode cX0_comesTo 37 = .ok (.lcmp, 1) := by decide +kernel
theorem dX0_comesTo_38 : decode cX0_comesTo 38 = .ok (.ifCond .eq 7, 3) := by decide +kernel
theorem dX0_comesTo_41 : decode cX0_comesTo 41 = .ok (.iconst 1, 1) := by decide +kernel
theorem dX0_comesTo_42 : decode cX0_comesTo 42 = .ok (.goto 4, 3) := by decide +kernel
theorem dX0_comesTo_45 : decode cX0_comesTo 45 = .ok (.iconst 0, 1) := by decide +kernel
theorem dX0_comesTo_46 : decode cX0_comesTo 46 = .ok (.ireturn, 1) := by decide +kernel
theorem dX0_isLonePair_0 : decode cX0_isLonePair 0 = .ok (.aload_n 0, 1) := by decide +kernel
theorem dX0_isLonePair_1 : decode cX0_isLonePair 1 = .ok (.iconst 0, 1) := by decide +kernel
theorem dX0_isLonePair_2 : decode cX0_isLonePair 2 = .ok (.iload_n 1, 1) := by decide +kernel
theorem dX0_isLonePair_3 : decode cX0_isLonePair 3 = .ok (.invokevirtual 65, 3) := by decide +kernel
theorem dX0_isLonePair_6 : decode cX0_isLonePair 6 = .ok (.istore_n 2, 1) := by decide +kernel
theorem dX0_isLonePair_7 : decode cX0_isLonePair 7 = .ok (.aload_n 0, 1) := by decide +kernel
theorem dX0_isLonePair_8 : decode cX0_isLonePair 8 = .ok (.iload_n 2, 1) := by decide +kernel
theorem dX0_isLonePair_9 : decode cX0_isLonePair 9 = .ok (.invokevirtual 62, 3) := by decide +kernel
theorem dX0_isLonePair_12 : decode cX0_isLonePair 12 = .ok (.ifCond .eq 20, 3) := by decide +kernel
theorem dX0_isLonePair_15 : decode cX0_isLonePair 15 = .ok (.aload_n 0, 1) := by decide +kernel
theorem dX0_isLonePair_16 : decode cX0_isLonePair 16 = .ok (.getfield 27, 3) := by decide +kernel
theorem dX0_isLonePair_19 : decode cX0_isLonePair 19 = .ok (.iload_n 2, 1) := by decide +kernel
theorem dX0_isLonePair_20 : decode cX0_isLonePair 20 = .ok (.laload, 1) := by decide +kernel
theorem dX0_isLonePair_21 : decode cX0_isLonePair 21 = .ok (.invokestatic 68, 3) := by decide +kernel
theorem dX0_isLonePair_24 : decode cX0_isLonePair 24 = .ok (.iconst 1, 1) := by decide +kernel
theorem dX0_isLonePair_25 : decode cX0_isLonePair 25 = .ok (.if_icmp .ne 7, 3) := by decide +kernel
theorem dX0_isLonePair_28 : decode cX0_isLonePair 28 = .ok (.iconst 1, 1) := by decide +kernel
theorem dX0_isLonePair_29 : decode cX0_isLonePair 29 = .ok (.goto 4, 3) := by decide +kernel
theorem dX0_isLonePair_32 : decode cX0_isLonePair 32 = .ok (.iconst 0, 1) := by decide +kernel
theorem dX0_isLonePair_33 : decode cX0_isLonePair 33 = .ok (.ireturn, 1) := by decide +kernel
theorem dX0_usefulRights_0 : decode cX0_usefulRights 0 = .ok (.aload_n 0, 1) := by decide +kernel
theorem dX0_usefulRights_1 : decode cX0_usefulRights 1 = .ok (.iconst 0, 1) := by decide +kernel
theorem dX0_usefulRights_2 : decode cX0_usefulRights 2 = .ok (.iload_n 1, 1) := by decide +kernel
theorem dX0_usefulRights_3 : decode cX0_usefulRights 3 = .ok (.invokevirtual 65, 3) := by decide +kernel
theorem dX0_usefulRights_6 : decode cX0_usefulRights 6 = .ok (.istore_n 2, 1) := by decide +kernel
theorem dX0_usefulRights_7 : decode cX0_usefulRights 7 = .ok (.aload_n 0, 1) := by decide +kernel
theorem dX0_usefulRights_8 : decode cX0_usefulRights 8 = .ok (.iload_n 2, 1) := by decide +kernel
theorem dX0_usefulRights_9 : decode cX0_usefulRights 9 = .ok (.invokevirtual 62, 3) := by decide +kernel
theorem dX0_usefulRights_12 : decode cX0_usefulRights 12 = .ok (.ifCond .eq 20, 3) := by decide +kernel
theorem dX0_usefulRights_15 : decode cX0_usefulRights 15 = .ok (.aload_n 0, 1) := by decide +kernel
theorem dX0_usefulRights_16 : decode cX0_usefulRights 16 = .ok (.getfield 15, 3) := by decide +kernel
theorem dX0_usefulRights_19 : decode cX0_usefulRights 19 = .ok (.iconst 0, 1) := by decide +kernel
theorem dX0_usefulRights_20 : decode cX0_usefulRights 20 = .ok (.aload_n 0, 1) := by decide +kernel
theorem dX0_usefulRights_21 : decode cX0_usefulRights 21 = .ok (.getfield 27, 3) := by decide +kernel
theorem dX0_usefulRights_24 : decode cX0_usefulRights 24 = .ok (.iload_n 2, 1) := by decide +kernel
theorem dX0_usefulRights_25 : decode cX0_usefulRights 25 = .ok (.laload, 1) := by decide +kernel
theorem dX0_usefulRights_26 : decode cX0_usefulRights 26 = .ok (.invokevirtual 74, 3) := by decide +kernel
theorem dX0_usefulRights_29 : decode cX0_usefulRights 29 = .ok (.goto 20, 3) := by decide +kernel
theorem dX0_usefulRights_32 : decode cX0_usefulRights 32 = .ok (.aload_n 0, 1) := by decide +kernel
theorem dX0_usefulRights_33 : decode cX0_usefulRights 33 = .ok (.getfield 15, 3) := by decide +kernel
theorem dX0_usefulRights_36 : decode cX0_usefulRights 36 = .ok (.iconst 1, 1) := by decide +kernel
theorem dX0_usefulRights_37 : decode cX0_usefulRights 37 = .ok (.aload_n 0, 1) := by decide +kernel
theorem dX0_usefulRights_38 : decode cX0_usefulRights 38 = .ok (.getfield 15, 3) := by decide +kernel
theorem dX0_usefulRights_41 : decode cX0_usefulRights 41 = .ok (.iconst 0, 1) := by decide +kernel
theorem dX0_usefulRights_42 : decode cX0_usefulRights 42 = .ok (.iload_n 1, 1) := by decide +kernel
theorem dX0_usefulRights_43 : decode cX0_usefulRights 43 = .ok (.invokevirtual 78, 3) := by decide +kernel
theorem dX0_usefulRights_46 : decode cX0_usefulRights 46 = .ok (.invokevirtual 81, 3) := by decide +kernel
theorem dX0_usefulRights_49 : decode cX0_usefulRights 49 = .ok (.lstore_n 3, 1) := by decide +kernel
theorem dX0_usefulRights_50 : decode cX0_usefulRights 50 = .ok (.aload_n 0, 1) := by decide +kernel
theorem dX0_usefulRights_51 : decode cX0_usefulRights 51 = .ok (.getfield 9, 3) := by decide +kernel
theorem dX0_usefulRights_54 : decode cX0_usefulRights 54 = .ok (.iconst 0, 1) := by decide +kernel
theorem dX0_usefulRights_55 : decode cX0_usefulRights 55 = .ok (.iload_n 1, 1) := by decide +kernel
theorem dX0_usefulRights_56 : decode cX0_usefulRights 56 = .ok (.invokevirtual 85, 3) := by decide +kernel
theorem dX0_usefulRights_59 : decode cX0_usefulRights 59 = .ok (.lload_n 3, 1) := by decide +kernel
theorem dX0_usefulRights_60 : decode cX0_usefulRights 60 = .ok (.land, 1) := by decide +kernel
theorem dX0_usefulRights_61 : decode cX0_usefulRights 61 = .ok (.lreturn, 1) := by decide +kernel
theorem dX0_findReached_0 : decode cX0_findReached 0 = .ok (.aload_n 0, 1) := by decide +kernel
theorem dX0_findReached_1 : decode cX0_findReached 1 = .ok (.getfield 9, 3) := by decide +kernel
theorem dX0_findReached_4 : decode cX0_findReached 4 = .ok (.iconst 0, 1) := by decide +kernel
theorem dX0_findReached_5 : decode cX0_findReached 5 = .ok (.invokevirtual 88, 3) := by decide +kernel
theorem dX0_findReached_8 : decode cX0_findReached 8 = .ok (.istore_n 1, 1) := by decide +kernel
theorem dX0_findReached_9 : decode cX0_findReached 9 = .ok (.aload_n 0, 1) := by decide +kernel
theorem dX0_findReached_10 : decode cX0_findReached 10 = .ok (.getfield 15, 3) := by decide +kernel
theorem dX0_findReached_13 : decode cX0_findReached 13 = .ok (.iconst 0, 1) := by decide +kernel
theorem dX0_findReached_14 : decode cX0_findReached 14 = .ok (.iconst 1, 1) := by decide +kernel
theorem dX0_findReached_15 : decode cX0_findReached 15 = .ok (.invokevirtual 81, 3) := by decide +kernel
theorem dX0_findReached_18 : decode cX0_findReached 18 = .ok (.lstore_n 2, 1) := by decide +kernel
theorem dX0_findReached_19 : decode cX0_findReached 19 = .ok (.iconst 0, 1) := by decide +kernel
theorem dX0_findReached_20 : decode cX0_findReached 20 = .ok (.istore 4, 2) := by decide +kernel
theorem dX0_findReached_22 : decode cX0_findReached 22 = .ok (.iload 4, 2) := by decide +kernel
theorem dX0_findReached_24 : decode cX0_findReached 24 = .ok (.iload_n 1, 1) := by decide +kernel
theorem dX0_findReached_25 : decode cX0_findReached 25 = .ok (.if_icmp .ge 49, 3) := by decide +kernel
theorem dX0_findReached_28 : decode cX0_findReached 28 = .ok (.aload_n 0, 1) := by decide +kernel
theorem dX0_findReached_29 : decode cX0_findReached 29 = .ok (.getfield 19, 3) := by decide +kernel
theorem dX0_findReached_32 : decode cX0_findReached 32 = .ok (.iload 4, 2) := by decide +kernel
theorem dX0_findReached_34 : decode cX0_findReached 34 = .ok (.lload_n 2, 1) := by decide +kernel
theorem dX0_findReached_35 : decode cX0_findReached 35 = .ok (.iload 4, 2) := by decide +kernel
theorem dX0_findReached_37 : decode cX0_findReached 37 = .ok (.invokestatic 92, 3) := by decide +kernel
theorem dX0_findReached_40 : decode cX0_findReached 40 = .ok (.ifCond .eq 26, 3) := by decide +kernel
theorem dX0_findReached_43 : decode cX0_findReached 43 = .ok (.aload_n 0, 1) := by decide +kernel
theorem dX0_findReached_44 : decode cX0_findReached 44 = .ok (.getfield 15, 3) := by decide +kernel
theorem dX0_findReached_47 : decode cX0_findReached 47 = .ok (.iconst 1, 1) := by decide +kernel
theorem dX0_findReached_48 : decode cX0_findReached 48 = .ok (.aload_n 0, 1) := by decide +kernel
theorem dX0_findReached_49 : decode cX0_findReached 49 = .ok (.getfield 9, 3) := by decide +kernel
theorem dX0_findReached_52 : decode cX0_findReached 52 = .ok (.iconst 0, 1) := by decide +kernel
theorem dX0_findReached_53 : decode cX0_findReached 53 = .ok (.iload 4, 2) := by decide +kernel
theorem dX0_findReached_55 : decode cX0_findReached 55 = .ok (.invokevirtual 85, 3) := by decide +kernel
theorem dX0_findReached_58 : decode cX0_findReached 58 = .ok (.invokevirtual 74, 3) := by decide +kernel
theorem dX0_findReached_61 : decode cX0_findReached 61 = .ok (.lload_n 2, 1) := by decide +kernel
theorem dX0_findReached_62 : decode cX0_findReached 62 = .ok (.land, 1) := by decide +kernel
theorem dX0_findReached_63 : decode cX0_findReached 63 = .ok (.goto 4, 3) := by decide +kernel
theorem dX0_findReached_66 : decode cX0_findReached 66 = .ok (.lconst 0, 1) := by decide +kernel
theorem dX0_findReached_67 : decode cX0_findReached 67 = .ok (.lastore, 1) := by decide +kernel
theorem dX0_findReached_68 : decode cX0_findReached 68 = .ok (.iinc 4 1, 3) := by decide +kernel
theorem dX0_findReached_71 : decode cX0_findReached 71 = .ok (.goto (-49), 3) := by decide +kernel
theorem dX0_findReached_74 : decode cX0_findReached 74 = .ok (.iconst 0, 1) := by decide +kernel
theorem dX0_findReached_75 : decode cX0_findReached 75 = .ok (.istore 4, 2) := by decide +kernel
theorem dX0_findReached_77 : decode cX0_findReached 77 = .ok (.iload 4, 2) := by decide +kernel
theorem dX0_findReached_79 : decode cX0_findReached 79 = .ok (.iload_n 1, 1) := by decide +kernel
theorem dX0_findReached_80 : decode cX0_findReached 80 = .ok (.if_icmp .ge 56, 3) := by decide +kernel
theorem dX0_findReached_83 : decode cX0_findReached 83 = .ok (.iconst 0, 1) := by decide +kernel
theorem dX0_findReached_84 : decode cX0_findReached 84 = .ok (.istore 5, 2) := by decide +kernel
theorem dX0_findReached_86 : decode cX0_findReached 86 = .ok (.iload 5, 2) := by decide +kernel
theorem dX0_findReached_88 : decode cX0_findReached 88 = .ok (.iload_n 1, 1) := by decide +kernel
theorem dX0_findReached_89 : decode cX0_findReached 89 = .ok (.if_icmp .ge 41, 3) := by decide +kernel
theorem dX0_findReached_92 : decode cX0_findReached 92 = .ok (.aload_n 0, 1) := by decide +kernel
theorem dX0_findReached_93 : decode cX0_findReached 93 = .ok (.getfield 19, 3) := by decide +kernel
theorem dX0_findReached_96 : decode cX0_findReached 96 = .ok (.iload 5, 2) := by decide +kernel
theorem dX0_findReached_98 : decode cX0_findReached 98 = .ok (.laload, 1) := by decide +kernel
theorem dX0_findReached_99 : decode cX0_findReached 99 = .ok (.iload 4, 2) := by decide +kernel
theorem dX0_findReached_101 : decode cX0_findReached 101 = .ok (.invokestatic 92, 3) := by decide +kernel
theorem dX0_findReached_104 : decode cX0_findReached 104 = .ok (.ifCond .eq 20, 3) := by decide +kernel
theorem dX0_findReached_107 : decode cX0_findReached 107 = .ok (.aload_n 0, 1) := by decide +kernel
theorem dX0_findReached_108 : decode cX0_findReached 108 = .ok (.getfield 19, 3) := by decide +kernel
theorem dX0_findReached_111 : decode cX0_findReached 111 = .ok (.iload 5, 2) := by decide +kernel
theorem dX0_findReached_113 : decode cX0_findReached 113 = .ok (.dup2, 1) := by decide +kernel
theorem dX0_findReached_114 : decode cX0_findReached 114 = .ok (.laload, 1) := by decide +kernel
theorem dX0_findReached_115 : decode cX0_findReached 115 = .ok (.aload_n 0, 1) := by decide +kernel
theorem dX0_findReached_116 : decode cX0_findReached 116 = .ok (.getfield 19, 3) := by decide +kernel
theorem dX0_findReached_119 : decode cX0_findReached 119 = .ok (.iload 4, 2) := by decide +kernel
theorem dX0_findReached_121 : decode cX0_findReached 121 = .ok (.laload, 1) := by decide +kernel
theorem dX0_findReached_122 : decode cX0_findReached 122 = .ok (.lor, 1) := by decide +kernel
theorem dX0_findReached_123 : decode cX0_findReached 123 = .ok (.lastore, 1) := by decide +kernel
theorem dX0_findReached_124 : decode cX0_findReached 124 = .ok (.iinc 5 1, 3) := by decide +kernel
theorem dX0_findReached_127 : decode cX0_findReached 127 = .ok (.goto (-41), 3) := by decide +kernel
theorem dX0_findReached_130 : decode cX0_findReached 130 = .ok (.iinc 4 1, 3) := by decide +kernel
theorem dX0_findReached_133 : decode cX0_findReached 133 = .ok (.goto (-56), 3) := by decide +kernel
theorem dX0_findReached_136 : decode cX0_findReached 136 = .ok (.return_, 1) := by decide +kernel
theorem dX0_numberAll_0 : decode cX0_numberAll 0 = .ok (.aload_n 0, 1) := by decide +kernel
theorem dX0_numberAll_1 : decode cX0_numberAll 1 = .ok (.getfield 23, 3) := by decide +kernel
theorem dX0_numberAll_4 : decode cX0_numberAll 4 = .ok (.bipush (-3), 2) := by decide +kernel
theorem dX0_numberAll_6 : decode cX0_numberAll 6 = .ok (.invokestatic 96, 3) := by decide +kernel
theorem dX0_numberAll_9 : decode cX0_numberAll 9 = .ok (.aload_n 0, 1) := by decide +kernel
theorem dX0_numberAll_10 : decode cX0_numberAll 10 = .ok (.iconst 0, 1) := by decide +kernel
theorem dX0_numberAll_11 : decode cX0_numberAll 11 = .ok (.putfield 33, 3) := by decide +kernel
theorem dX0_numberAll_14 : decode cX0_numberAll 14 = .ok (.aload_n 0, 1) := by decide +kernel
theorem dX0_numberAll_15 : decode cX0_numberAll 15 = .ok (.getfield 15, 3) := by decide +kernel
theorem dX0_numberAll_18 : decode cX0_numberAll 18 = .ok (.iconst 0, 1) := by decide +kernel
theorem dX0_numberAll_19 : decode cX0_numberAll 19 = .ok (.iconst 1, 1) := by decide +kernel
theorem dX0_numberAll_20 : decode cX0_numberAll 20 = .ok (.invokevirtual 81, 3) := by decide +kernel
theorem dX0_numberAll_23 : decode cX0_numberAll 23 = .ok (.lstore_n 1, 1) := by decide +kernel
theorem dX0_numberAll_24 : decode cX0_numberAll 24 = .ok (.iconst 0, 1) := by decide +kernel
theorem dX0_numberAll_25 : decode cX0_numberAll 25 = .ok (.istore_n 3, 1) := by decide +kernel
theorem dX0_numberAll_26 : decode cX0_numberAll 26 = .ok (.iload_n 3, 1) := by decide +kernel
theorem dX0_numberAll_27 : decode cX0_numberAll 27 = .ok (.aload_n 0, 1) := by decide +kernel
theorem dX0_numberAll_28 : decode cX0_numberAll 28 = .ok (.getfield 9, 3) := by decide +kernel
theorem dX0_numberAll_31 : decode cX0_numberAll 31 = .ok (.iconst 0, 1) := by decide +kernel
theorem dX0_numberAll_32 : decode cX0_numberAll 32 = .ok (.invokevirtual 88, 3) := by decide +kernel
theorem dX0_numberAll_35 : decode cX0_numberAll 35 = .ok (.if_icmp .ge 79, 3) := by decide +kernel
theorem dX0_numberAll_38 : decode cX0_numberAll 38 = .ok (.lload_n 1, 1) := by decide +kernel
theorem dX0_numberAll_39 : decode cX0_numberAll 39 = .ok (.iload_n 3, 1) := by decide +kernel
theorem dX0_numberAll_40 : decode cX0_numberAll 40 = .ok (.invokestatic 92, 3) := by decide +kernel
theorem dX0_numberAll_43 : decode cX0_numberAll 43 = .ok (.ifCond .eq 65, 3) := by decide +kernel
theorem dX0_numberAll_46 : decode cX0_numberAll 46 = .ok (.aload_n 0, 1) := by decide +kernel
theorem dX0_numberAll_47 : decode cX0_numberAll 47 = .ok (.getfield 23, 3) := by decide +kernel
theorem dX0_numberAll_50 : decode cX0_numberAll 50 = .ok (.iload_n 3, 1) := by decide +kernel
theorem dX0_numberAll_51 : decode cX0_numberAll 51 = .ok (.iaload, 1) := by decide +kernel
theorem dX0_numberAll_52 : decode cX0_numberAll 52 = .ok (.bipush (-3), 2) := by decide +kernel
theorem dX0_numberAll_54 : decode cX0_numberAll 54 = .ok (.if_icmp .ne 54, 3) := by decide +kernel
theorem dX0_numberAll_57 : decode cX0_numberAll 57 = .ok (.aload_n 0, 1) := by decide +kernel
theorem dX0_numberAll_58 : decode cX0_numberAll 58 = .ok (.getfield 33, 3) := by decide +kernel
theorem dX0_numberAll_61 : decode cX0_numberAll 61 = .ok (.aload_n 0, 1) := by decide +kernel
theorem dX0_numberAll_62 : decode cX0_numberAll 62 = .ok (.getfield 27, 3) := by decide +kernel
theorem dX0_numberAll_65 : decode cX0_numberAll 65 = .ok (.arraylength, 1) := by decide +kernel
theorem dX0_numberAll_66 : decode cX0_numberAll 66 = .ok (.if_icmp .ge 42, 3) := by decide +kernel
theorem dX0_numberAll_69 : decode cX0_numberAll 69 = .ok (.aload_n 0, 1) := by decide +kernel
theorem dX0_numberAll_70 : decode cX0_numberAll 70 = .ok (.getfield 27, 3) := by decide +kernel
theorem dX0_numberAll_73 : decode cX0_numberAll 73 = .ok (.aload_n 0, 1) := by decide +kernel
theorem dX0_numberAll_74 : decode cX0_numberAll 74 = .ok (.getfield 33, 3) := by decide +kernel
theorem dX0_numberAll_77 : decode cX0_numberAll 77 = .ok (.aload_n 0, 1) := by decide +kernel
theorem dX0_numberAll_78 : decode cX0_numberAll 78 = .ok (.iload_n 3, 1) := by decide +kernel
theorem dX0_numberAll_79 : decode cX0_numberAll 79 = .ok (.invokevirtual 102, 3) := by decide +kernel
theorem dX0_numberAll_82 : decode cX0_numberAll 82 = .ok (.lastore, 1) := by decide +kernel
theorem dX0_numberAll_83 : decode cX0_numberAll 83 = .ok (.aload_n 0, 1) := by decide +kernel
theorem dX0_numberAll_84 : decode cX0_numberAll 84 = .ok (.getfield 30, 3) := by decide +kernel
theorem dX0_numberAll_87 : decode cX0_numberAll 87 = .ok (.aload_n 0, 1) := by decide +kernel
theorem dX0_numberAll_88 : decode cX0_numberAll 88 = .ok (.getfield 33, 3) := by decide +kernel
theorem dX0_numberAll_91 : decode cX0_numberAll 91 = .ok (.aload_n 0, 1) := by decide +kernel
theorem dX0_numberAll_92 : decode cX0_numberAll 92 = .ok (.getfield 19, 3) := by decide +kernel
theorem dX0_numberAll_95 : decode cX0_numberAll 95 = .ok (.iload_n 3, 1) := by decide +kernel
theorem dX0_numberAll_96 : decode cX0_numberAll 96 = .ok (.laload, 1) := by decide +kernel
theorem dX0_numberAll_97 : decode cX0_numberAll 97 = .ok (.lastore, 1) := by decide +kernel
theorem dX0_numberAll_98 : decode cX0_numberAll 98 = .ok (.aload_n 0, 1) := by decide +kernel
theorem dX0_numberAll_99 : decode cX0_numberAll 99 = .ok (.dup, 1) := by decide +kernel
theorem dX0_numberAll_100 : decode cX0_numberAll 100 = .ok (.getfield 33, 3) := by decide +kernel
theorem dX0_numberAll_103 : decode cX0_numberAll 103 = .ok (.iconst 1, 1) := by decide +kernel
theorem dX0_numberAll_104 : decode cX0_numberAll 104 = .ok (.iadd, 1) := by decide +kernel
theorem dX0_numberAll_105 : decode cX0_numberAll 105 = .ok (.putfield 33, 3) := by decide +kernel
theorem dX0_numberAll_108 : decode cX0_numberAll 108 = .ok (.iinc 3 1, 3) := by decide +kernel
theorem dX0_numberAll_111 : decode cX0_numberAll 111 = .ok (.goto (-85), 3) := by decide +kernel
theorem dX0_numberAll_114 : decode cX0_numberAll 114 = .ok (.return_, 1) := by decide +kernel
theorem dX0_gather_0 : decode cX0_gather 0 = .ok (.lconst 0, 1) := by decide +kernel
theorem dX0_gather_1 : decode cX0_gather 1 = .ok (.lstore_n 2, 1) := by decide +kernel
theorem dX0_gather_2 : decode cX0_gather 2 = .ok (.iconst 0, 1) := by decide +kernel
theorem dX0_gather_3 : decode cX0_gather 3 = .ok (.istore 4, 2) := by decide +kernel
theorem dX0_gather_5 : decode cX0_gather 5 = .ok (.iload 4, 2) := by decide +kernel
theorem dX0_gather_7 : decode cX0_gather 7 = .ok (.aload_n 0, 1) := by decide +kernel
theorem dX0_gather_8 : decode cX0_gather 8 = .ok (.getfield 9, 3) := by decide +kernel
theorem dX0_gather_11 : decode cX0_gather 11 = .ok (.iconst 0, 1) := by decide +kernel
theorem dX0_gather_12 : decode cX0_gather 12 = .ok (.invokevirtual 88, 3) := by decide +kernel
theorem dX0_gather_15 : decode cX0_gather 15 = .ok (.if_icmp .ge 55, 3) := by decide +kernel
theorem dX0_gather_18 : decode cX0_gather 18 = .ok (.aload_n 0, 1) := by decide +kernel
theorem dX0_gather_19 : decode cX0_gather 19 = .ok (.getfield 19, 3) := by decide +kernel
theorem dX0_gather_22 : decode cX0_gather 22 = .ok (.iload_n 1, 1) := by decide +kernel
theorem dX0_gather_23 : decode cX0_gather 23 = .ok (.laload, 1) := by decide +kernel
theorem dX0_gather_24 : decode cX0_gather 24 = .ok (.iload 4, 2) := by decide +kernel
theorem dX0_gather_26 : decode cX0_gather 26 = .ok (.invokestatic 92, 3) := by decide +kernel
theorem dX0_gather_29 : decode cX0_gather 29 = .ok (.ifCond .eq 35, 3) := by decide +kernel
theorem dX0_gather_32 : decode cX0_gather 32 = .ok (.aload_n 0, 1) := by decide +kernel
theorem dX0_gather_33 : decode cX0_gather 33 = .ok (.getfield 19, 3) := by decide +kernel
theorem dX0_gather_36 : decode cX0_gather 36 = .ok (.iload 4, 2) := by decide +kernel
theorem dX0_gather_38 : decode cX0_gather 38 = .ok (.laload, 1) := by decide +kernel
theorem dX0_gather_39 : decode cX0_gather 39 = .ok (.iload_n 1, 1) := by decide +kernel
theorem dX0_gather_40 : decode cX0_gather 40 = .ok (.invokestatic 92, 3) := by decide +kernel
theorem dX0_gather_43 : decode cX0_gather 43 = .ok (.ifCond .eq 21, 3) := by decide +kernel
theorem dX0_gather_46 : decode cX0_gather 46 = .ok (.lload_n 2, 1) := by decide +kernel
theorem dX0_gather_47 : decode cX0_gather 47 = .ok (.lconst 1, 1) := by decide +kernel
theorem dX0_gather_48 : decode cX0_gather 48 = .ok (.iload 4, 2) := by decide +kernel
theorem dX0_gather_50 : decode cX0_gather 50 = .ok (.lshl, 1) := by decide +kernel
theorem dX0_gather_51 : decode cX0_gather 51 = .ok (.lor, 1) := by decide +kernel
theorem dX0_gather_52 : decode cX0_gather 52 = .ok (.lstore_n 2, 1) := by decide +kernel
theorem dX0_gather_53 : decode cX0_gather 53 = .ok (.aload_n 0, 1) := by decide +kernel
theorem dX0_gather_54 : decode cX0_gather 54 = .ok (.getfield 23, 3) := by decide +kernel
theorem dX0_gather_57 : decode cX0_gather 57 = .ok (.iload 4, 2) := by decide +kernel
theorem dX0_gather_59 : decode cX0_gather 59 = .ok (.aload_n 0, 1) := by decide +kernel
theorem dX0_gather_60 : decode cX0_gather 60 = .ok (.getfield 33, 3) := by decide +kernel
theorem dX0_gather_63 : decode cX0_gather 63 = .ok (.iastore, 1) := by decide +kernel
theorem dX0_gather_64 : decode cX0_gather 64 = .ok (.iinc 4 1, 3) := by decide +kernel
theorem dX0_gather_67 : decode cX0_gather 67 = .ok (.goto (-62), 3) := by decide +kernel
theorem dX0_gather_70 : decode cX0_gather 70 = .ok (.lload_n 2, 1) := by decide +kernel
theorem dX0_gather_71 : decode cX0_gather 71 = .ok (.lreturn, 1) := by decide +kernel
theorem dX1_init_0 : decode cX1_init 0 = .ok (.aload_n 0, 1) := by decide +kernel
theorem dX1_init_1 : decode cX1_init 1 = .ok (.invokespecial 3, 3) := by decide +kernel
theorem dX1_init_4 : decode cX1_init 4 = .ok (.aload_n 0, 1) := by decide +kernel
theorem dX1_init_5 : decode cX1_init 5 = .ok (.iload_n 1, 1) := by decide +kernel
theorem dX1_init_6 : decode cX1_init 6 = .ok (.putfield 9, 3) := by decide +kernel
theorem dX1_init_9 : decode cX1_init 9 = .ok (.aload_n 0, 1) := by decide +kernel
theorem dX1_init_10 : decode cX1_init 10 = .ok (.iconst 2, 1) := by decide +kernel
theorem dX1_init_11 : decode cX1_init 11 = .ok (.newarray .int, 2) := by decide +kernel
theorem dX1_init_13 : decode cX1_init 13 = .ok (.putfield 15, 3) := by decide +kernel
theorem dX1_init_16 : decode cX1_init 16 = .ok (.aload_n 0, 1) := by decide +kernel
theorem dX1_init_17 : decode cX1_init 17 = .ok (.iconst 2, 1) := by decide +kernel
theorem dX1_init_18 : decode cX1_init 18 = .ok (.iload_n 1, 1) := by decide +kernel
theorem dX1_init_19 : decode cX1_init 19 = .ok (.multianewarray 19 2, 4) := by decide +kernel
theorem dX1_init_23 : decode cX1_init 23 = .ok (.putfield 21, 3) := by decide +kernel
theorem dX1_init_26 : decode cX1_init 26 = .ok (.aload_n 0, 1) := by decide +kernel
theorem dX1_init_27 : decode cX1_init 27 = .ok (.iconst 0, 1) := by decide +kernel
theorem dX1_init_28 : decode cX1_init 28 = .ok (.putfield 24, 3) := by decide +kernel
theorem dX1_init_31 : decode cX1_init 31 = .ok (.return_, 1) := by decide +kernel
theorem dX1_changes_0 : decode cX1_changes 0 = .ok (.aload_n 0, 1) := by decide +kernel
theorem dX1_changes_1 : decode cX1_changes 1 = .ok (.getfield 24, 3) := by decide +kernel
theorem dX1_changes_4 : decode cX1_changes 4 = .ok (.ireturn, 1) := by decide +kernel
theorem dX1_most_0 : decode cX1_most 0 = .ok (.aload_n 0, 1) := by decide +kernel
theorem dX1_most_1 : decode cX1_most 1 = .ok (.getfield 9, 3) := by decide +kernel
theorem dX1_most_4 : decode cX1_most 4 = .ok (.ireturn, 1) := by decide +kernel
theorem dX1_sizeOf_0 : decode cX1_sizeOf 0 = .ok (.iload_n 1, 1) := by decide +kernel
theorem dX1_sizeOf_1 : decode cX1_sizeOf 1 = .ok (.invokestatic 27, 3) := by decide +kernel
theorem dX1_sizeOf_4 : decode cX1_sizeOf 4 = .ok (.ifCond .eq 12, 3) := by decide +kernel
theorem dX1_sizeOf_7 : decode cX1_sizeOf 7 = .ok (.aload_n 0, 1) := by decide +kernel
theorem dX1_sizeOf_8 : decode cX1_sizeOf 8 = .ok (.getfield 15, 3) := by decide +kernel
theorem dX1_sizeOf_11 : decode cX1_sizeOf 11 = .ok (.iload_n 1, 1) := by decide +kernel
theorem dX1_sizeOf_12 : decode cX1_sizeOf 12 = .ok (.iaload, 1) := by decide +kernel
theorem dX1_sizeOf_13 : decode cX1_sizeOf 13 = .ok (.goto 4, 3) := by decide +kernel
theorem dX1_sizeOf_16 : decode cX1_sizeOf 16 = .ok (.iconst 0, 1) := by decide +kernel
theorem dX1_sizeOf_17 : decode cX1_sizeOf 17 = .ok (.ireturn, 1) := by decide +kernel
theorem dX1_holds_0 : decode cX1_holds 0 = .ok (.iload_n 1, 1) := by decide +kernel
theorem dX1_holds_1 : decode cX1_holds 1 = .ok (.invokestatic 27, 3) := by decide +kernel
theorem dX1_holds_4 : decode cX1_holds 4 = .ok (.ifCond .eq 21, 3) := by decide +kernel
theorem dX1_holds_7 : decode cX1_holds 7 = .ok (.iload_n 2, 1) := by decide +kernel
theorem dX1_holds_8 : decode cX1_holds 8 = .ok (.ifCond .lt 17, 3) := by decide +kernel
theorem dX1_holds_11 : decode cX1_holds 11 = .ok (.iload_n 2, 1) := by decide +kernel
theorem dX1_holds_12 : decode cX1_holds 12 = .ok (.aload_n 0, 1) := by decide +kernel
theorem dX1_holds_13 : decode cX1_holds 13 = .ok (.getfield 15, 3) := by decide +kernel
theorem dX1_holds_16 : decode cX1_holds 16 = .ok (.iload_n 1, 1) := by decide +kernel
theorem dX1_holds_17 : decode cX1_holds 17 = .ok (.iaload, 1) := by decide +kernel
theorem dX1_holds_18 : decode cX1_holds 18 = .ok (.if_icmp .ge 7, 3) := by decide +kernel
theorem dX1_holds_21 : decode cX1_holds 21 = .ok (.iconst 1, 1) := by decide +kernel
theorem dX1_holds_22 : decode cX1_holds 22 = .ok (.goto 4, 3) := by decide +kernel
theorem dX1_holds_25 : decode cX1_holds 25 = .ok (.iconst 0, 1) := by decide +kernel
theorem dX1_holds_26 : decode cX1_holds 26 = .ok (.ireturn, 1) := by decide +kernel
theorem dX1_joins_0 : decode cX1_joins 0 = .ok (.aload_n 0, 1) := by decide +kernel
theorem dX1_joins_1 : decode cX1_joins 1 = .ok (.iconst 0, 1) := by decide +kernel
theorem dX1_joins_2 : decode cX1_joins 2 = .ok (.iload_n 1, 1) := by decide +kernel
theorem dX1_joins_3 : decode cX1_joins 3 = .ok (.invokevirtual 31, 3) := by decide +kernel
theorem dX1_joins_6 : decode cX1_joins 6 = .ok (.ifCond .eq 31, 3) := by decide +kernel
theorem dX1_joins_9 : decode cX1_joins 9 = .ok (.aload_n 0, 1) := by decide +kernel
theorem dX1_joins_10 : decode cX1_joins 10 = .ok (.iconst 1, 1) := by decide +kernel
theorem dX1_joins_11 : decode cX1_joins 11 = .ok (.iload_n 2, 1) := by decide +kernel
theorem dX1_joins_12 : decode cX1_joins 12 = .ok (.invokevirtual 31, 3) := by decide +kernel
theorem dX1_joins_15 : decode cX1_joins 15 = .ok (.ifCond .eq 22, 3) := by decide +kernel
theorem dX1_joins_18 : decode cX1_joins 18 = .ok (.aload_n 0, 1) := by decide +kernel
theorem dX1_joins_19 : decode cX1_joins 19 = .ok (.getfield 21, 3) := by decide +kernel
theorem dX1_joins_22 : decode cX1_joins 22 = .ok (.iconst 0, 1) := by decide +kernel
theorem dX1_joins_23 : decode cX1_joins 23 = .ok (.aaload, 1) := by decide +kernel
theorem dX1_joins_24 : decode cX1_joins 24 = .ok (.iload_n 1, 1) := by decide +kernel
theorem dX1_joins_25 : decode cX1_joins 25 = .ok (.laload, 1) := by decide +kernel
theorem dX1_joins_26 : decode cX1_joins 26 = .ok (.iload_n 2, 1) := by decide +kernel
theorem dX1_joins_27 : decode cX1_joins 27 = .ok (.invokestatic 35, 3) := by decide +kernel
theorem dX1_joins_30 : decode cX1_joins 30 = .ok (.ifCond .eq 7, 3) := by decide +kernel
theorem dX1_joins_33 : decode cX1_joins 33 = .ok (.iconst 1, 1) := by decide +kernel
theorem dX1_joins_34 : decode cX1_joins 34 = .ok (.goto 4, 3) := by decide +kernel
theorem dX1_joins_37 : decode cX1_joins 37 = .ok (.iconst 0, 1) := by decide +kernel
theorem dX1_joins_38 : decode cX1_joins 38 = .ok (.ireturn, 1) := by decide +kernel
theorem dX1_all_0 : decode cX1_all 0 = .ok (.iload_n 1, 1) := by decide +kernel
theorem dX1_all_1 : decode cX1_all 1 = .ok (.invokestatic 27, 3) := by decide +kernel
theorem dX1_all_4 : decode cX1_all 4 = .ok (.ifCond .eq 16, 3) := by decide +kernel
theorem dX1_all_7 : decode cX1_all 7 = .ok (.lconst 1, 1) := by decide +kernel
theorem dX1_all_8 : decode cX1_all 8 = .ok (.aload_n 0, 1) := by decide +kernel
theorem dX1_all_9 : decode cX1_all 9 = .ok (.getfield 15, 3) := by decide +kernel
theorem dX1_all_12 : decode cX1_all 12 = .ok (.iload_n 1, 1) := by decide +kernel
theorem dX1_all_13 : decode cX1_all 13 = .ok (.iaload, 1) := by decide +kernel
theorem dX1_all_14 : decode cX1_all 14 = .ok (.lshl, 1) := by decide +kernel
theorem dX1_all_15 : decode cX1_all 15 = .ok (.lconst 1, 1) := by decide +kernel
theorem dX1_all_16 : decode cX1_all 16 = .ok (.lsub, 1) := by decide +kernel
theorem dX1_all_17 : decode cX1_all 17 = .ok (.goto 4, 3) := by decide +kernel
theorem dX1_all_20 : decode cX1_all 20 = .ok (.lconst 0, 1) := by decide +kernel
theorem dX1_all_21 : decode cX1_all 21 = .ok (.lreturn, 1) := by decide +kernel
theorem dX1_across_0 : decode cX1_across 0 = .ok (.aload_n 0, 1) := by decide +kernel
theorem dX1_across_1 : decode cX1_across 1 = .ok (.iload_n 1, 1) := by decide +kernel
theorem dX1_across_2 : decode cX1_across 2 = .ok (.iload_n 2, 1) := by decide +kernel
theorem dX1_across_3 : decode cX1_across 3 = .ok (.invokevirtual 31, 3) := by decide +kernel
theorem dX1_across_6 : decode cX1_across 6 = .ok (.ifCond .eq 14, 3) := by decide +kernel
theorem dX1_across_9 : decode cX1_across 9 = .ok (.aload_n 0, 1) := by decide +kernel
theorem dX1_across_10 : decode cX1_across 10 = .ok (.getfield 21, 3) := by decide +kernel
theorem dX1_across_13 : decode cX1_across 13 = .ok (.iload_n 1, 1) := by decide +kernel
theorem dX1_across_14 : decode cX1_across 14 = .ok (.aaload, 1) := by decide +kernel
theorem dX1_across_15 : decode cX1_across 15 = .ok (.iload_n 2, 1) := by decide +kernel
theorem dX1_across_16 : decode cX1_across 16 = .ok (.laload, 1) := by decide +kernel
theorem dX1_across_17 : decode cX1_across 17 = .ok (.goto 4, 3) := by decide +kernel
theorem dX1_across_20 : decode cX1_across 20 = .ok (.lconst 0, 1) := by decide +kernel
theorem dX1_across_21 : decode cX1_across 21 = .ok (.lreturn, 1) := by decide +kernel
theorem dX1_neighbours_0 : decode cX1_neighbours 0 = .ok (.lconst 0, 1) := by decide +kernel
theorem dX1_neighbours_1 : decode cX1_neighbours 1 = .ok (.lstore 4, 2) := by decide +kernel
theorem dX1_neighbours_3 : decode cX1_neighbours 3 = .ok (.iconst 0, 1) := by decide +kernel
theorem dX1_neighbours_4 : decode cX1_neighbours 4 = .ok (.istore 6, 2) := by decide +kernel
theorem dX1_neighbours_6 : decode cX1_neighbours 6 = .ok (.iload 6, 2) := by decide +kernel
theorem dX1_neighbours_8 : decode cX1_neighbours 8 = .ok (.aload_n 0, 1) := by decide +kernel
theorem dX1_neighbours_9 : decode cX1_neighbours 9 = .ok (.iload_n 1, 1) := by decide +kernel
theorem dX1_neighbours_10 : decode cX1_neighbours 10 = .ok (.invokevirtual 39, 3) := by decide +kernel
theorem dX1_neighbours_13 : decode cX1_neighbours 13 = .ok (.if_icmp .ge 32, 3) := by decide +kernel
theorem dX1_neighbours_16 : decode cX1_neighbours 16 = .ok (.lload_n 2, 1) := by decide +kernel
theorem dX1_neighbours_17 : decode cX1_neighbours 17 = .ok (.iload 6, 2) := by decide +kernel
theorem dX1_neighbours_19 : decode cX1_neighbours 19 = .ok (.invokestatic 35, 3) := by decide +kernel
theorem dX1_neighbours_22 : decode cX1_neighbours 22 = .ok (.ifCond .eq 17, 3) := by decide +kernel
theorem dX1_neighbours_25 : decode cX1_neighbours 25 = .ok (.lload 4, 2) := by decide +kernel
theorem dX1_neighbours_27 : decode cX1_neighbours 27 = .ok (.aload_n 0, 1) := by decide +kernel
theorem dX1_neighbours_28 : decode cX1_neighbours 28 = .ok (.getfield 21, 3) := by decide +kernel
theorem dX1_neighbours_31 : decode cX1_neighbours 31 = .ok (.iload_n 1, 1) := by decide +kernel
theorem dX1_neighbours_32 : decode cX1_neighbours 32 = .ok (.aaload, 1) := by decide +kernel
theorem dX1_neighbours_33 : decode cX1_neighbours 33 = .ok (.iload 6, 2) := by decide +kernel
theorem dX1_neighbours_35 : decode cX1_neighbours 35 = .ok (.laload, 1) := by decide +kernel
theorem dX1_neighbours_36 : decode cX1_neighbours 36 = .ok (.lor, 1) := by decide +kernel
theorem dX1_neighbours_37 : decode cX1_neighbours 37 = .ok (.lstore 4, 2) := by decide +kernel
theorem dX1_neighbours_39 : decode cX1_neighbours 39 = .ok (.iinc 6 1, 3) := by decide +kernel
theorem dX1_neighbours_42 : decode cX1_neighbours 42 = .ok (.goto (-36), 3) := by decide +kernel
theorem dX1_neighbours_45 : decode cX1_neighbours 45 = .ok (.lload 4, 2) := by decide +kernel
theorem dX1_neighbours_47 : decode cX1_neighbours 47 = .ok (.lreturn, 1) := by decide +kernel
theorem dX1_edges_0 : decode cX1_edges 0 = .ok (.iconst 0, 1) := by decide +kernel
theorem dX1_edges_1 : decode cX1_edges 1 = .ok (.istore_n 1, 1) := by decide +kernel
theorem dX1_edges_2 : decode cX1_edges 2 = .ok (.iconst 0, 1) := by decide +kernel
theorem dX1_edges_3 : decode cX1_edges 3 = .ok (.istore_n 2, 1) := by decide +kernel
theorem dX1_edges_4 : decode cX1_edges 4 = .ok (.iload_n 2, 1) := by decide +kernel
theorem dX1_edges_5 : decode cX1_edges 5 = .ok (.aload_n 0, 1) := by decide +kernel
theorem dX1_edges_6 : decode cX1_edges 6 = .ok (.getfield 15, 3) := by decide +kernel
theorem dX1_edges_9 : decode cX1_edges 9 = .ok (.iconst 0, 1) := by decide +kernel
theorem dX1_edges_10 : decode cX1_edges 10 = .ok (.iaload, 1) := by decide +kernel
theorem dX1_edges_11 : decode cX1_edges 11 = .ok (.if_icmp .ge 23, 3) := by decide +kernel
theorem dX1_edges_14 : decode cX1_edges 14 = .ok (.iload_n 1, 1) := by decide +kernel
theorem dX1_edges_15 : decode cX1_edges 15 = .ok (.aload_n 0, 1) := by decide +kernel
theorem dX1_edges_16 : decode cX1_edges 16 = .ok (.getfield 21, 3) := by decide +kernel
theorem dX1_edges_19 : decode cX1_edges 19 = .ok (.iconst 0, 1) := by decide +kernel
theorem dX1_edges_20 : decode cX1_edges 20 = .ok (.aaload, 1) := by decide +kernel
theorem dX1_edges_21 : decode cX1_edges 21 = .ok (.iload_n 2, 1) := by decide +kernel
theorem dX1_edges_22 : decode cX1_edges 22 = .ok (.laload, 1) := by decide +kernel
theorem dX1_edges_23 : decode cX1_edges 23 = .ok (.invokestatic 43, 3) := by decide +kernel
theorem dX1_edges_26 : decode cX1_edges 26 = .ok (.iadd, 1) := by decide +kernel
theorem dX1_edges_27 : decode cX1_edges 27 = .ok (.istore_n 1, 1) := by decide +kernel
theorem dX1_edges_28 : decode cX1_edges 28 = .ok (.iinc 2 1, 3) := by decide +kernel
theorem dX1_edges_31 : decode cX1_edges 31 = .ok (.goto (-27), 3) := by decide +kernel
theorem dX1_edges_34 : decode cX1_edges 34 = .ok (.iload_n 1, 1) := by decide +kernel
theorem dX1_edges_35 : decode cX1_edges 35 = .ok (.ireturn, 1) := by decide +kernel
theorem dX1_add_0 : decode cX1_add 0 = .ok (.iload_n 1, 1) := by decide +kernel
theorem dX1_add_1 : decode cX1_add 1 = .ok (.invokestatic 27, 3) := by decide +kernel
theorem dX1_add_4 : decode cX1_add 4 = .ok (.ifCond .ne 5, 3) := by decide +kernel
theorem dX1_add_7 : decode cX1_add 7 = .ok (.iconst (-1), 1) := by decide +kernel
theorem dX1_add_8 : decode cX1_add 8 = .ok (.ireturn, 1) := by decide +kernel
theorem dX1_add_9 : decode cX1_add 9 = .ok (.aload_n 0, 1) := by decide +kernel
theorem dX1_add_10 : decode cX1_add 10 = .ok (.getfield 15, 3) := by decide +kernel
theorem dX1_add_13 : decode cX1_add 13 = .ok (.iload_n 1, 1) := by decide +kernel
theorem dX1_add_14 : decode cX1_add 14 = .ok (.iaload, 1) := by decide +kernel
theorem dX1_add_15 : decode cX1_add 15 = .ok (.istore_n 2, 1) := by decide +kernel
theorem dX1_add_16 : decode cX1_add 16 = .ok (.iload_n 2, 1) := by decide +kernel
theorem dX1_add_17 : decode cX1_add 17 = .ok (.aload_n 0, 1) := by decide +kernel
theorem dX1_add_18 : decode cX1_add 18 = .ok (.getfield 9, 3) := by decide +kernel
theorem dX1_add_21 : decode cX1_add 21 = .ok (.if_icmp .lt 6, 3) := by decide +kernel
theorem dX1_add_24 : decode cX1_add 24 = .ok (.bipush (-2), 2) := by decide +kernel
theorem dX1_add_26 : decode cX1_add 26 = .ok (.ireturn, 1) := by decide +kernel
theorem dX1_add_27 : decode cX1_add 27 = .ok (.aload_n 0, 1) := by decide +kernel
theorem dX1_add_28 : decode cX1_add 28 = .ok (.getfield 15, 3) := by decide +kernel
theorem dX1_add_31 : decode cX1_add 31 = .ok (.iload_n 1, 1) := by decide +kernel
theorem dX1_add_32 : decode cX1_add 32 = .ok (.iload_n 2, 1) := by decide +kernel
theorem dX1_add_33 : decode cX1_add 33 = .ok (.iconst 1, 1) := by decide +kernel
theorem dX1_add_34 : decode cX1_add 34 = .ok (.iadd, 1) := by decide +kernel
theorem dX1_add_35 : decode cX1_add 35 = .ok (.iastore, 1) := by decide +kernel
theorem dX1_add_36 : decode cX1_add 36 = .ok (.aload_n 0, 1) := by decide +kernel
theorem dX1_add_37 : decode cX1_add 37 = .ok (.dup, 1) := by decide +kernel
theorem dX1_add_38 : decode cX1_add 38 = .ok (.getfield 24, 3) := by decide +kernel
theorem dX1_add_41 : decode cX1_add 41 = .ok (.iconst 1, 1) := by decide +kernel
theorem dX1_add_42 : decode cX1_add 42 = .ok (.iadd, 1) := by decide +kernel
theorem dX1_add_43 : decode cX1_add 43 = .ok (.putfield 24, 3) := by decide +kernel
theorem dX1_add_46 : decode cX1_add 46 = .ok (.iload_n 2, 1) := by decide +kernel
theorem dX1_add_47 : decode cX1_add 47 = .ok (.ireturn, 1) := by decide +kernel
theorem dX1_joinAll_0 : decode cX1_joinAll 0 = .ok (.iconst 0, 1) := by decide +kernel
theorem dX1_joinAll_1 : decode cX1_joinAll 1 = .ok (.istore 5, 2) := by decide +kernel
theorem dX1_joinAll_3 : decode cX1_joinAll 3 = .ok (.iload 5, 2) := by decide +kernel
theorem dX1_joinAll_5 : decode cX1_joinAll 5 = .ok (.aload_n 0, 1) := by decide +kernel
theorem dX1_joinAll_6 : decode cX1_joinAll 6 = .ok (.getfield 15, 3) := by decide +kernel
theorem dX1_joinAll_9 : decode cX1_joinAll 9 = .ok (.iconst 0, 1) := by decide +kernel
theorem dX1_joinAll_10 : decode cX1_joinAll 10 = .ok (.iaload, 1) := by decide +kernel
theorem dX1_joinAll_11 : decode cX1_joinAll 11 = .ok (.if_icmp .ge 31, 3) := by decide +kernel
theorem dX1_joinAll_14 : decode cX1_joinAll 14 = .ok (.lload_n 1, 1) := by decide +kernel
theorem dX1_joinAll_15 : decode cX1_joinAll 15 = .ok (.iload 5, 2) := by decide +kernel
theorem dX1_joinAll_17 : decode cX1_joinAll 17 = .ok (.invokestatic 35, 3) := by decide +kernel
theorem dX1_joinAll_20 : decode cX1_joinAll 20 = .ok (.ifCond .eq 16, 3) := by decide +kernel
theorem dX1_joinAll_23 : decode cX1_joinAll 23 = .ok (.aload_n 0, 1) := by decide +kernel
theorem dX1_joinAll_24 : decode cX1_joinAll 24 = .ok (.getfield 21, 3) := by decide +kernel
theorem dX1_joinAll_27 : decode cX1_joinAll 27 = .ok (.iconst 0, 1) := by decide +kernel
theorem dX1_joinAll_28 : decode cX1_joinAll 28 = .ok (.aaload, 1) := by decide +kernel
theorem dX1_joinAll_29 : decode cX1_joinAll 29 = .ok (.iload 5, 2) := by decide +kernel
theorem dX1_joinAll_31 : decode cX1_joinAll 31 = .ok (.dup2, 1) := by decide +kernel
theorem dX1_joinAll_32 : decode cX1_joinAll 32 = .ok (.laload, 1) := by decide +kernel
theorem dX1_joinAll_33 : decode cX1_joinAll 33 = .ok (.lload_n 3, 1) := by decide +kernel
theorem dX1_joinAll_34 : decode cX1_joinAll 34 = .ok (.lor, 1) := by decide +kernel
theorem dX1_joinAll_35 : decode cX1_joinAll 35 = .ok (.lastore, 1) := by decide +kernel
theorem dX1_joinAll_36 : decode cX1_joinAll 36 = .ok (.iinc 5 1, 3) := by decide +kernel
theorem dX1_joinAll_39 : decode cX1_joinAll 39 = .ok (.goto (-36), 3) := by decide +kernel
theorem dX1_joinAll_42 : decode cX1_joinAll 42 = .ok (.iconst 0, 1) := by decide +kernel
theorem dX1_joinAll_43 : decode cX1_joinAll 43 = .ok (.istore 5, 2) := by decide +kernel
theorem dX1_joinAll_45 : decode cX1_joinAll 45 = .ok (.iload 5, 2) := by decide +kernel
theorem dX1_joinAll_47 : decode cX1_joinAll 47 = .ok (.aload_n 0, 1) := by decide +kernel
theorem dX1_joinAll_48 : decode cX1_joinAll 48 = .ok (.getfield 15, 3) := by decide +kernel
theorem dX1_joinAll_51 : decode cX1_joinAll 51 = .ok (.iconst 1, 1) := by decide +kernel
theorem dX1_joinAll_52 : decode cX1_joinAll 52 = .ok (.iaload, 1) := by decide +kernel
theorem dX1_joinAll_53 : decode cX1_joinAll 53 = .ok (.if_icmp .ge 31, 3) := by decide +kernel
theorem dX1_joinAll_56 : decode cX1_joinAll 56 = .ok (.lload_n 3, 1) := by decide +kernel
theorem dX1_joinAll_57 : decode cX1_joinAll 57 = .ok (.iload 5, 2) := by decide +kernel
theorem dX1_joinAll_59 : decode cX1_joinAll 59 = .ok (.invokestatic 35, 3) := by decide +kernel
theorem dX1_joinAll_62 : decode cX1_joinAll 62 = .ok (.ifCond .eq 16, 3) := by decide +kernel
theorem dX1_joinAll_65 : decode cX1_joinAll 65 = .ok (.aload_n 0, 1) := by decide +kernel
theorem dX1_joinAll_66 : decode cX1_joinAll 66 = .ok (.getfield 21, 3) := by decide +kernel
theorem dX1_joinAll_69 : decode cX1_joinAll 69 = .ok (.iconst 1, 1) := by decide +kernel
theorem dX1_joinAll_70 : decode cX1_joinAll 70 = .ok (.aaload, 1) := by decide +kernel
theorem dX1_joinAll_71 : decode cX1_joinAll 71 = .ok (.iload 5, 2) := by decide +kernel
theorem dX1_joinAll_73 : decode cX1_joinAll 73 = .ok (.dup2, 1) := by decide +kernel
theorem dX1_joinAll_74 : decode cX1_joinAll 74 = .ok (.laload, 1) := by decide +kernel
theorem dX1_joinAll_75 : decode cX1_joinAll 75 = .ok (.lload_n 1, 1) := by decide +kernel
theorem dX1_joinAll_76 : decode cX1_joinAll 76 = .ok (.lor, 1) := by decide +kernel
theorem dX1_joinAll_77 : decode cX1_joinAll 77 = .ok (.lastore, 1) := by decide +kernel
theorem dX1_joinAll_78 : decode cX1_joinAll 78 = .ok (.iinc 5 1, 3) := by decide +kernel
theorem dX1_joinAll_81 : decode cX1_joinAll 81 = .ok (.goto (-36), 3) := by decide +kernel
theorem dX1_joinAll_84 : decode cX1_joinAll 84 = .ok (.aload_n 0, 1) := by decide +kernel
theorem dX1_joinAll_85 : decode cX1_joinAll 85 = .ok (.dup, 1) := by decide +kernel
theorem dX1_joinAll_86 : decode cX1_joinAll 86 = .ok (.getfield 24, 3) := by decide +kernel
theorem dX1_joinAll_89 : decode cX1_joinAll 89 = .ok (.iconst 1, 1) := by decide +kernel
theorem dX1_joinAll_90 : decode cX1_joinAll 90 = .ok (.iadd, 1) := by decide +kernel
theorem dX1_joinAll_91 : decode cX1_joinAll 91 = .ok (.putfield 24, 3) := by decide +kernel
theorem dX1_joinAll_94 : decode cX1_joinAll 94 = .ok (.return_, 1) := by decide +kernel
theorem dX1_unjoin_0 : decode cX1_unjoin 0 = .ok (.aload_n 0, 1) := by decide +kernel
theorem dX1_unjoin_1 : decode cX1_unjoin 1 = .ok (.iconst 0, 1) := by decide +kernel
theorem dX1_unjoin_2 : decode cX1_unjoin 2 = .ok (.iload_n 1, 1) := by decide +kernel
theorem dX1_unjoin_3 : decode cX1_unjoin 3 = .ok (.invokevirtual 31, 3) := by decide +kernel
theorem dX1_unjoin_6 : decode cX1_unjoin 6 = .ok (.ifCond .eq 58, 3) := by decide +kernel
theorem dX1_unjoin_9 : decode cX1_unjoin 9 = .ok (.aload_n 0, 1) := by decide +kernel
theorem dX1_unjoin_10 : decode cX1_unjoin 10 = .ok (.iconst 1, 1) := by decide +kernel
theorem dX1_unjoin_11 : decode cX1_unjoin 11 = .ok (.iload_n 2, 1) := by decide +kernel
theorem dX1_unjoin_12 : decode cX1_unjoin 12 = .ok (.invokevirtual 31, 3) := by decide +kernel
theorem dX1_unjoin_15 : decode cX1_unjoin 15 = .ok (.ifCond .eq 49, 3) := by decide +kernel
theorem dX1_unjoin_18 : decode cX1_unjoin 18 = .ok (.aload_n 0, 1) := by decide +kernel
theorem dX1_unjoin_19 : decode cX1_unjoin 19 = .ok (.getfield 21, 3) := by decide +kernel
theorem dX1_unjoin_22 : decode cX1_unjoin 22 = .ok (.iconst 0, 1) := by decide +kernel
theorem dX1_unjoin_23 : decode cX1_unjoin 23 = .ok (.aaload, 1) := by decide +kernel
theorem dX1_unjoin_24 : decode cX1_unjoin 24 = .ok (.iload_n 1, 1) := by decide +kernel
theorem dX1_unjoin_25 : decode cX1_unjoin 25 = .ok (.dup2, 1) := by decide +kernel
theorem dX1_unjoin_26 : decode cX1_unjoin 26 = .ok (.laload, 1) := by decide +kernel
theorem dX1_unjoin_27 : decode cX1_unjoin 27 = .ok (.lconst 1, 1) := by decide +kernel
theorem dX1_unjoin_28 : decode cX1_unjoin 28 = .ok (.iload_n 2, 1) := by decide +kernel
theorem dX1_unjoin_29 : decode cX1_unjoin 29 = .ok (.lshl, 1) := by decide +kernel
theorem dX1_unjoin_30 : decode cX1_unjoin 30 = .ok (.ldc2_w 49, 3) := by decide +kernel
theorem dX1_unjoin_33 : decode cX1_unjoin 33 = .ok (.lxor, 1) := by decide +kernel
theorem dX1_unjoin_34 : decode cX1_unjoin 34 = .ok (.land, 1) := by decide +kernel
theorem dX1_unjoin_35 : decode cX1_unjoin 35 = .ok (.lastore, 1) := by decide +kernel
theorem dX1_unjoin_36 : decode cX1_unjoin 36 = .ok (.aload_n 0, 1) := by decide +kernel
theorem dX1_unjoin_37 : decode cX1_unjoin 37 = .ok (.getfield 21, 3) := by decide +kernel
theorem dX1_unjoin_40 : decode cX1_unjoin 40 = .ok (.iconst 1, 1) := by decide +kernel
theorem dX1_unjoin_41 : decode cX1_unjoin 41 = .ok (.aaload, 1) := by decide +kernel
theorem dX1_unjoin_42 : decode cX1_unjoin 42 = .ok (.iload_n 2, 1) := by decide +kernel
theorem dX1_unjoin_43 : decode cX1_unjoin 43 = .ok (.dup2, 1) := by decide +kernel
theorem dX1_unjoin_44 : decode cX1_unjoin 44 = .ok (.laload, 1) := by decide +kernel
theorem dX1_unjoin_45 : decode cX1_unjoin 45 = .ok (.lconst 1, 1) := by decide +kernel
theorem dX1_unjoin_46 : decode cX1_unjoin 46 = .ok (.iload_n 1, 1) := by decide +kernel
theorem dX1_unjoin_47 : decode cX1_unjoin 47 = .ok (.lshl, 1) := by decide +kernel
theorem dX1_unjoin_48 : decode cX1_unjoin 48 = .ok (.ldc2_w 49, 3) := by decide +kernel
theorem dX1_unjoin_51 : decode cX1_unjoin 51 = .ok (.lxor, 1) := by decide +kernel
theorem dX1_unjoin_52 : decode cX1_unjoin 52 = .ok (.land, 1) := by decide +kernel
theorem dX1_unjoin_53 : decode cX1_unjoin 53 = .ok (.lastore, 1) := by decide +kernel
theorem dX1_unjoin_54 : decode cX1_unjoin 54 = .ok (.aload_n 0, 1) := by decide +kernel
theorem dX1_unjoin_55 : decode cX1_unjoin 55 = .ok (.dup, 1) := by decide +kernel
theorem dX1_unjoin_56 : decode cX1_unjoin 56 = .ok (.getfield 24, 3) := by decide +kernel
theorem dX1_unjoin_59 : decode cX1_unjoin 59 = .ok (.iconst 1, 1) := by decide +kernel
theorem dX1_unjoin_60 : decode cX1_unjoin 60 = .ok (.iadd, 1) := by decide +kernel
theorem dX1_unjoin_61 : decode cX1_unjoin 61 = .ok (.putfield 24, 3) := by decide +kernel
theorem dX1_unjoin_64 : decode cX1_unjoin 64 = .ok (.return_, 1) := by decide +kernel
theorem dX1_clear_0 : decode cX1_clear 0 = .ok (.iconst 0, 1) := by decide +kernel
theorem dX1_clear_1 : decode cX1_clear 1 = .ok (.istore_n 1, 1) := by decide +kernel
theorem dX1_clear_2 : decode cX1_clear 2 = .ok (.iload_n 1, 1) := by decide +kernel
theorem dX1_clear_3 : decode cX1_clear 3 = .ok (.iconst 1, 1) := by decide +kernel
theorem dX1_clear_4 : decode cX1_clear 4 = .ok (.if_icmp .gt 26, 3) := by decide +kernel
theorem dX1_clear_7 : decode cX1_clear 7 = .ok (.aload_n 0, 1) := by decide +kernel
theorem dX1_clear_8 : decode cX1_clear 8 = .ok (.getfield 15, 3) := by decide +kernel
theorem dX1_clear_11 : decode cX1_clear 11 = .ok (.iload_n 1, 1) := by decide +kernel
theorem dX1_clear_12 : decode cX1_clear 12 = .ok (.iconst 0, 1) := by decide +kernel
theorem dX1_clear_13 : decode cX1_clear 13 = .ok (.iastore, 1) := by decide +kernel
theorem dX1_clear_14 : decode cX1_clear 14 = .ok (.aload_n 0, 1) := by decide +kernel
theorem dX1_clear_15 : decode cX1_clear 15 = .ok (.getfield 21, 3) := by decide +kernel
theorem dX1_clear_18 : decode cX1_clear 18 = .ok (.iload_n 1, 1) := by decide +kernel
theorem dX1_clear_19 : decode cX1_clear 19 = .ok (.aaload, 1) := by decide +kernel
theorem dX1_clear_20 : decode cX1_clear 20 = .ok (.lconst 0, 1) := by decide +kernel
theorem dX1_clear_21 : decode cX1_clear 21 = .ok (.invokestatic 51, 3) := by decide +kernel
theorem dX1_clear_24 : decode cX1_clear 24 = .ok (.iinc 1 1, 3) := by decide +kernel
theorem dX1_clear_27 : decode cX1_clear 27 = .ok (.goto (-25), 3) := by decide +kernel
theorem dX1_clear_30 : decode cX1_clear 30 = .ok (.aload_n 0, 1) := by decide +kernel
theorem dX1_clear_31 : decode cX1_clear 31 = .ok (.dup, 1) := by decide +kernel
theorem dX1_clear_32 : decode cX1_clear 32 = .ok (.getfield 24, 3) := by decide +kernel
theorem dX1_clear_35 : decode cX1_clear 35 = .ok (.iconst 1, 1) := by decide +kernel
theorem dX1_clear_36 : decode cX1_clear 36 = .ok (.iadd, 1) := by decide +kernel
theorem dX1_clear_37 : decode cX1_clear 37 = .ok (.putfield 24, 3) := by decide +kernel
theorem dX1_clear_40 : decode cX1_clear 40 = .ok (.return_, 1) := by decide +kernel
theorem dX2_init_0 : decode cX2_init 0 = .ok (.aload_n 0, 1) := by decide +kernel
theorem dX2_init_1 : decode cX2_init 1 = .ok (.invokespecial 3, 3) := by decide +kernel
theorem dX2_init_4 : decode cX2_init 4 = .ok (.aload_n 0, 1) := by decide +kernel
theorem dX2_init_5 : decode cX2_init 5 = .ok (.aload_n 1, 1) := by decide +kernel
theorem dX2_init_6 : decode cX2_init 6 = .ok (.putfield 9, 3) := by decide +kernel
theorem dX2_init_9 : decode cX2_init 9 = .ok (.aload_n 0, 1) := by decide +kernel
theorem dX2_init_10 : decode cX2_init 10 = .ok (.aload_n 2, 1) := by decide +kernel
theorem dX2_init_11 : decode cX2_init 11 = .ok (.putfield 15, 3) := by decide +kernel
theorem dX2_init_14 : decode cX2_init 14 = .ok (.aload_n 0, 1) := by decide +kernel
theorem dX2_init_15 : decode cX2_init 15 = .ok (.bipush 40, 2) := by decide +kernel
theorem dX2_init_17 : decode cX2_init 17 = .ok (.newarray .int, 2) := by decide +kernel
theorem dX2_init_19 : decode cX2_init 19 = .ok (.putfield 19, 3) := by decide +kernel
theorem dX2_init_22 : decode cX2_init 22 = .ok (.aload_n 0, 1) := by decide +kernel
theorem dX2_init_23 : decode cX2_init 23 = .ok (.bipush 40, 2) := by decide +kernel
theorem dX2_init_25 : decode cX2_init 25 = .ok (.newarray .int, 2) := by decide +kernel
theorem dX2_init_27 : decode cX2_init 27 = .ok (.putfield 23, 3) := by decide +kernel
theorem dX2_init_30 : decode cX2_init 30 = .ok (.aload_n 0, 1) := by decide +kernel
theorem dX2_init_31 : decode cX2_init 31 = .ok (.iconst 0, 1) := by decide +kernel
theorem dX2_init_32 : decode cX2_init 32 = .ok (.putfield 26, 3) := by decide +kernel
theorem dX2_init_35 : decode cX2_init 35 = .ok (.aload_n 0, 1) := by decide +kernel
theorem dX2_init_36 : decode cX2_init 36 = .ok (.iconst (-1), 1) := by decide +kernel
theorem dX2_init_37 : decode cX2_init 37 = .ok (.putfield 30, 3) := by decide +kernel
theorem dX2_init_40 : decode cX2_init 40 = .ok (.return_, 1) := by decide +kernel
theorem dX2_refresh_0 : decode cX2_refresh 0 = .ok (.aload_n 0, 1) := by decide +kernel
theorem dX2_refresh_1 : decode cX2_refresh 1 = .ok (.getfield 30, 3) := by decide +kernel
theorem dX2_refresh_4 : decode cX2_refresh 4 = .ok (.aload_n 0, 1) := by decide +kernel
theorem dX2_refresh_5 : decode cX2_refresh 5 = .ok (.getfield 9, 3) := by decide +kernel
theorem dX2_refresh_8 : decode cX2_refresh 8 = .ok (.invokevirtual 33, 3) := by decide +kernel
theorem dX2_refresh_11 : decode cX2_refresh 11 = .ok (.if_icmp .ne 4, 3) := by decide +kernel
theorem dX2_refresh_14 : decode cX2_refresh 14 = .ok (.return_, 1) := by decide +kernel
theorem dX2_refresh_15 : decode cX2_refresh 15 = .ok (.aload_n 0, 1) := by decide +kernel
theorem dX2_refresh_16 : decode cX2_refresh 16 = .ok (.aload_n 0, 1) := by decide +kernel
theorem dX2_refresh_17 : decode cX2_refresh 17 = .ok (.getfield 9, 3) := by decide +kernel
theorem dX2_refresh_20 : decode cX2_refresh 20 = .ok (.invokevirtual 33, 3) := by decide +kernel
theorem dX2_refresh_23 : decode cX2_refresh 23 = .ok (.putfield 30, 3) := by decide +kernel
theorem dX2_refresh_26 : decode cX2_refresh 26 = .ok (.aload_n 0, 1) := by decide +kernel
theorem dX2_refresh_27 : decode cX2_refresh 27 = .ok (.invokevirtual 39, 3) := by decide +kernel
theorem dX2_refresh_30 : decode cX2_refresh 30 = .ok (.aload_n 0, 1) := by decide +kernel
theorem dX2_refresh_31 : decode cX2_refresh 31 = .ok (.invokevirtual 42, 3) := by decide +kernel
theorem dX2_refresh_34 : decode cX2_refresh 34 = .ok (.return_, 1) := by decide +kernel
theorem dX2_howManyLevels_0 : decode cX2_howManyLevels 0 = .ok (.aload_n 0, 1) := by decide +kernel
theorem dX2_howManyLevels_1 : decode cX2_howManyLevels 1 = .ok (.getfield 26, 3) := by decide +kernel
theorem dX2_howManyLevels_4 : decode cX2_howManyLevels 4 = .ok (.ireturn, 1) := by decide +kernel
theorem dX2_levelOf_0 : decode cX2_levelOf 0 = .ok (.aload_n 0, 1) := by decide +kernel
theorem dX2_levelOf_1 : decode cX2_levelOf 1 = .ok (.getfield 9, 3) := by decide +kernel
theorem dX2_levelOf_4 : decode cX2_levelOf 4 = .ok (.iconst 0, 1) := by decide +kernel
theorem dX2_levelOf_5 : decode cX2_levelOf 5 = .ok (.iload_n 1, 1) := by decide +kernel
theorem dX2_levelOf_6 : decode cX2_levelOf 6 = .ok (.invokevirtual 45, 3) := by decide +kernel
theorem dX2_levelOf_9 : decode cX2_levelOf 9 = .ok (.ifCond .eq 12, 3) := by decide +kernel
theorem dX2_levelOf_12 : decode cX2_levelOf 12 = .ok (.aload_n 0, 1) := by decide +kernel
theorem dX2_levelOf_13 : decode cX2_levelOf 13 = .ok (.getfield 19, 3) := by decide +kernel
theorem dX2_levelOf_16 : decode cX2_levelOf 16 = .ok (.iload_n 1, 1) := by decide +kernel
theorem dX2_levelOf_17 : decode cX2_levelOf 17 = .ok (.iaload, 1) := by decide +kernel
theorem dX2_levelOf_18 : decode cX2_levelOf 18 = .ok (.goto 5, 3) := by decide +kernel
theorem dX2_levelOf_21 : decode cX2_levelOf 21 = .ok (.bipush (-3), 2) := by decide +kernel
theorem dX2_levelOf_23 : decode cX2_levelOf 23 = .ok (.ireturn, 1) := by decide +kernel
theorem dX2_chainOf_0 : decode cX2_chainOf 0 = .ok (.aload_n 0, 1) := by decide +kernel
theorem dX2_chainOf_1 : decode cX2_chainOf 1 = .ok (.getfield 9, 3) := by decide +kernel
theorem dX2_chainOf_4 : decode cX2_chainOf 4 = .ok (.iconst 0, 1) := by decide +kernel
theorem dX2_chainOf_5 : decode cX2_chainOf 5 = .ok (.iload_n 1, 1) := by decide +kernel
theorem dX2_chainOf_6 : decode cX2_chainOf 6 = .ok (.invokevirtual 45, 3) := by decide +kernel
theorem dX2_chainOf_9 : decode cX2_chainOf 9 = .ok (.ifCond .eq 12, 3) := by decide +kernel
theorem dX2_chainOf_12 : decode cX2_chainOf 12 = .ok (.aload_n 0, 1) := by decide +kernel
theorem dX2_chainOf_13 : decode cX2_chainOf 13 = .ok (.getfield 23, 3) := by decide +kernel
theorem dX2_chainOf_16 : decode cX2_chainOf 16 = .ok (.iload_n 1, 1) := by decide +kernel
theorem dX2_chainOf_17 : decode cX2_chainOf 17 = .ok (.iaload, 1) := by decide +kernel
theorem dX2_chainOf_18 : decode cX2_chainOf 18 = .ok (.goto 5, 3) := by decide +kernel
theorem dX2_chainOf_21 : decode cX2_chainOf 21 = .ok (.bipush (-3), 2) := by decide +kernel
theorem dX2_chainOf_23 : decode cX2_chainOf 23 = .ok (.ireturn, 1) := by decide +kernel
theorem dX2_isInAntichain_0 : decode cX2_isInAntichain 0 = .ok (.iconst 1, 1) := by decide +kernel
theorem dX2_isInAntichain_1 : decode cX2_isInAntichain 1 = .ok (.iload_n 1, 1) := by decide +kernel
theorem dX2_isInAntichain_2 : decode cX2_isInAntichain 2 = .ok (.isub, 1) := by decide +kernel
theorem dX2_isInAntichain_3 : decode cX2_isInAntichain 3 = .ok (.istore_n 3, 1) := by decide +kernel
theorem dX2_isInAntichain_4 : decode cX2_isInAntichain 4 = .ok (.aload_n 0, 1) := by decide +kernel
theorem dX2_isInAntichain_5 : decode cX2_isInAntichain 5 = .ok (.getfield 15, 3) := by decide +kernel
theorem dX2_isInAntichain_8 : decode cX2_isInAntichain 8 = .ok (.iload_n 3, 1) := by decide +kernel
theorem dX2_isInAntichain_9 : decode cX2_isInAntichain 9 = .ok (.iconst 0, 1) := by decide +kernel
theorem dX2_isInAntichain_10 : decode cX2_isInAntichain 10 = .ok (.iload_n 2, 1) := by decide +kernel
theorem dX2_isInAntichain_11 : decode cX2_isInAntichain 11 = .ok (.invokevirtual 49, 3) := by decide +kernel
theorem dX2_isInAntichain_14 : decode cX2_isInAntichain 14 = .ok (.ifCond .ne 20, 3) := by decide +kernel
theorem dX2_isInAntichain_17 : decode cX2_isInAntichain 17 = .ok (.aload_n 0, 1) := by decide +kernel
theorem dX2_isInAntichain_18 : decode cX2_isInAntichain 18 = .ok (.getfield 15, 3) := by decide +kernel
theorem dX2_isInAntichain_21 : decode cX2_isInAntichain 21 = .ok (.iload_n 3, 1) := by decide +kernel
theorem dX2_isInAntichain_22 : decode cX2_isInAntichain 22 = .ok (.iconst 1, 1) := by decide +kernel
theorem dX2_isInAntichain_23 : decode cX2_isInAntichain 23 = .ok (.iload_n 2, 1) := by decide +kernel
theorem dX2_isInAntichain_24 : decode cX2_isInAntichain 24 = .ok (.invokevirtual 49, 3) := by decide +kernel
theorem dX2_isInAntichain_27 : decode cX2_isInAntichain 27 = .ok (.ifCond .ne 7, 3) := by decide +kernel
theorem dX2_isInAntichain_30 : decode cX2_isInAntichain 30 = .ok (.iconst 1, 1) := by decide +kernel
theorem dX2_isInAntichain_31 : decode cX2_isInAntichain 31 = .ok (.goto 4, 3) := by decide +kernel
theorem dX2_isInAntichain_34 : decode cX2_isInAntichain 34 = .ok (.iconst 0, 1) := by decide +kernel
theorem dX2_isInAntichain_35 : decode cX2_isInAntichain 35 = .ok (.ireturn, 1) := by decide +kernel
theorem dX2_findLevels_0 : decode cX2_findLevels 0 = .ok (.aload_n 0, 1) := by decide +kernel
theorem dX2_findLevels_1 : decode cX2_findLevels 1 = .ok (.getfield 9, 3) := by decide +kernel
theorem dX2_findLevels_4 : decode cX2_findLevels 4 = .ok (.iconst 0, 1) := by decide +kernel
theorem dX2_findLevels_5 : decode cX2_findLevels 5 = .ok (.invokevirtual 55, 3) := by decide +kernel
theorem dX2_findLevels_8 : decode cX2_findLevels 8 = .ok (.lstore_n 1, 1) := by decide +kernel
theorem dX2_findLevels_9 : decode cX2_findLevels 9 = .ok (.aload_n 0, 1) := by decide +kernel
theorem dX2_findLevels_10 : decode cX2_findLevels 10 = .ok (.iconst 0, 1) := by decide +kernel
theorem dX2_findLevels_11 : decode cX2_findLevels 11 = .ok (.putfield 26, 3) := by decide +kernel
theorem dX2_findLevels_14 : decode cX2_findLevels 14 = .ok (.iconst 0, 1) := by decide +kernel
theorem dX2_findLevels_15 : decode cX2_findLevels 15 = .ok (.istore_n 3, 1) := by decide +kernel
theorem dX2_findLevels_16 : decode cX2_findLevels 16 = .ok (.iload_n 3, 1) := by decide +kernel
theorem dX2_findLevels_17 : decode cX2_findLevels 17 = .ok (.bipush 40, 2) := by decide +kernel
theorem dX2_findLevels_19 : decode cX2_findLevels 19 = .ok (.if_icmp .ge 81, 3) := by decide +kernel
theorem dX2_findLevels_22 : decode cX2_findLevels 22 = .ok (.lload_n 1, 1) := by decide +kernel
theorem dX2_findLevels_23 : decode cX2_findLevels 23 = .ok (.lconst 0, 1) := by decide +kernel
theorem dX2_findLevels_24 : decode cX2_findLevels 24 = .ok (.lcmp, 1) := by decide +kernel
theorem dX2_findLevels_25 : decode cX2_findLevels 25 = .ok (.ifCond .eq 75, 3) := by decide +kernel
theorem dX2_findLevels_28 : decode cX2_findLevels 28 = .ok (.aload_n 0, 1) := by decide +kernel
theorem dX2_findLevels_29 : decode cX2_findLevels 29 = .ok (.lload_n 1, 1) := by decide +kernel
theorem dX2_findLevels_30 : decode cX2_findLevels 30 = .ok (.invokevirtual 59, 3) := by decide +kernel
theorem dX2_findLevels_33 : decode cX2_findLevels 33 = .ok (.lstore 4, 2) := by decide +kernel
theorem dX2_findLevels_35 : decode cX2_findLevels 35 = .ok (.iconst 0, 1) := by decide +kernel
theorem dX2_findLevels_36 : decode cX2_findLevels 36 = .ok (.istore 6, 2) := by decide +kernel
theorem dX2_findLevels_38 : decode cX2_findLevels 38 = .ok (.iload 6, 2) := by decide +kernel
theorem dX2_findLevels_40 : decode cX2_findLevels 40 = .ok (.aload_n 0, 1) := by decide +kernel
theorem dX2_findLevels_41 : decode cX2_findLevels 41 = .ok (.getfield 9, 3) := by decide +kernel
theorem dX2_findLevels_44 : decode cX2_findLevels 44 = .ok (.iconst 0, 1) := by decide +kernel
theorem dX2_findLevels_45 : decode cX2_findLevels 45 = .ok (.invokevirtual 63, 3) := by decide +kernel
theorem dX2_findLevels_48 : decode cX2_findLevels 48 = .ok (.if_icmp .ge 27, 3) := by decide +kernel
theorem dX2_findLevels_51 : decode cX2_findLevels 51 = .ok (.lload 4, 2) := by decide +kernel
theorem dX2_findLevels_53 : decode cX2_findLevels 53 = .ok (.iload 6, 2) := by decide +kernel
theorem dX2_findLevels_55 : decode cX2_findLevels 55 = .ok (.invokestatic 67, 3) := by decide +kernel
theorem dX2_findLevels_58 : decode cX2_findLevels 58 = .ok (.ifCond .eq 11, 3) := by decide +kernel
theorem dX2_findLevels_61 : decode cX2_findLevels 61 = .ok (.aload_n 0, 1) := by decide +kernel
theorem dX2_findLevels_62 : decode cX2_findLevels 62 = .ok (.getfield 19, 3) := by decide +kernel
theorem dX2_findLevels_65 : decode cX2_findLevels 65 = .ok (.iload 6, 2) := by decide +kernel
theorem dX2_findLevels_67 : decode cX2_findLevels 67 = .ok (.iload_n 3, 1) := by decide +kernel
theorem dX2_findLevels_68 : decode cX2_findLevels 68 = .ok (.iastore, 1) := by decide +kernel
theorem dX2_findLevels_69 : decode cX2_findLevels 69 = .ok (.iinc 6 1, 3) := by decide +kernel
theorem dX2_findLevels_72 : decode cX2_findLevels 72 = .ok (.goto (-34), 3) := by decide +kernel
theorem dX2_findLevels_75 : decode cX2_findLevels 75 = .ok (.lload_n 1, 1) := by decide +kernel
theorem dX2_findLevels_76 : decode cX2_findLevels 76 = .ok (.lload 4, 2) := by decide +kernel
theorem dX2_findLevels_78 : decode cX2_findLevels 78 = .ok (.ldc2_w 71, 3) := by decide +kernel
theorem dX2_findLevels_81 : decode cX2_findLevels 81 = .ok (.lxor, 1) := by decide +kernel
theorem dX2_findLevels_82 : decode cX2_findLevels 82 = .ok (.land, 1) := by decide +kernel
theorem dX2_findLevels_83 : decode cX2_findLevels 83 = .ok (.lstore_n 1, 1) := by decide +kernel
theorem dX2_findLevels_84 : decode cX2_findLevels 84 = .ok (.aload_n 0, 1) := by decide +kernel
theorem dX2_findLevels_85 : decode cX2_findLevels 85 = .ok (.dup, 1) := by decide +kernel
theorem dX2_findLevels_86 : decode cX2_findLevels 86 = .ok (.getfield 26, 3) := by decide +kernel
theorem dX2_findLevels_89 : decode cX2_findLevels 89 = .ok (.iconst 1, 1) := by decide +kernel
theorem dX2_findLevels_90 : decode cX2_findLevels 90 = .ok (.iadd, 1) := by decide +kernel
theorem dX2_findLevels_91 : decode cX2_findLevels 91 = .ok (.putfield 26, 3) := by decide +kernel
theorem dX2_findLevels_94 : decode cX2_findLevels 94 = .ok (.iinc 3 1, 3) := by decide +kernel
theorem dX2_findLevels_97 : decode cX2_findLevels 97 = .ok (.goto (-81), 3) := by decide +kernel
theorem dX2_findLevels_100 : decode cX2_findLevels 100 = .ok (.return_, 1) := by decide +kernel
theorem dX2_bottomOf_0 : decode cX2_bottomOf 0 = .ok (.lconst 0, 1) := by decide +kernel
theorem dX2_bottomOf_1 : decode cX2_bottomOf 1 = .ok (.lstore_n 3, 1) := by decide +kernel
theorem dX2_bottomOf_2 : decode cX2_bottomOf 2 = .ok (.iconst 0, 1) := by decide +kernel
theorem dX2_bottomOf_3 : decode cX2_bottomOf 3 = .ok (.istore 5, 2) := by decide +kernel
theorem dX2_bottomOf_5 : decode cX2_bottomOf 5 = .ok (.iload 5, 2) := by decide +kernel
theorem dX2_bottomOf_7 : decode cX2_bottomOf 7 = .ok (.aload_n 0, 1) := by decide +kernel
theorem dX2_bottomOf_8 : decode cX2_bottomOf 8 = .ok (.getfield 9, 3) := by decide +kernel
theorem dX2_bottomOf_11 : decode cX2_bottomOf 11 = .ok (.iconst 0, 1) := by decide +kernel
theorem dX2_bottomOf_12 : decode cX2_bottomOf 12 = .ok (.invokevirtual 63, 3) := by decide +kernel
theorem dX2_bottomOf_15 : decode cX2_bottomOf 15 = .ok (.if_icmp .ge 42, 3) := by decide +kernel
theorem dX2_bottomOf_18 : decode cX2_bottomOf 18 = .ok (.lload_n 1, 1) := by decide +kernel
theorem dX2_bottomOf_19 : decode cX2_bottomOf 19 = .ok (.iload 5, 2) := by decide +kernel
theorem dX2_bottomOf_21 : decode cX2_bottomOf 21 = .ok (.invokestatic 67, 3) := by decide +kernel
theorem dX2_bottomOf_24 : decode cX2_bottomOf 24 = .ok (.ifCond .eq 27, 3) := by decide +kernel
theorem dX2_bottomOf_27 : decode cX2_bottomOf 27 = .ok (.aload_n 0, 1) := by decide +kernel
theorem dX2_bottomOf_28 : decode cX2_bottomOf 28 = .ok (.getfield 9, 3) := by decide +kernel
theorem dX2_bottomOf_31 : decode cX2_bottomOf 31 = .ok (.iconst 1, 1) := by decide +kernel
theorem dX2_bottomOf_32 : decode cX2_bottomOf 32 = .ok (.iload 5, 2) := by decide +kernel
theorem dX2_bottomOf_34 : decode cX2_bottomOf 34 = .ok (.invokevirtual 73, 3) := by decide +kernel
theorem dX2_bottomOf_37 : decode cX2_bottomOf 37 = .ok (.lload_n 1, 1) := by decide +kernel
theorem dX2_bottomOf_38 : decode cX2_bottomOf 38 = .ok (.land, 1) := by decide +kernel
theorem dX2_bottomOf_39 : decode cX2_bottomOf 39 = .ok (.lconst 0, 1) := by decide +kernel
theorem dX2_bottomOf_40 : decode cX2_bottomOf 40 = .ok (.lcmp, 1) := by decide +kernel
theorem dX2_bottomOf_41 : decode cX2_bottomOf 41 = .ok (.ifCond .ne 10, 3) := by decide +kernel
theorem dX2_bottomOf_44 : decode cX2_bottomOf 44 = .ok (.lload_n 3, 1) := by decide +kernel
theorem dX2_bottomOf_45 : decode cX2_bottomOf 45 = .ok (.lconst 1, 1) := by decide +kernel
theorem dX2_bottomOf_46 : decode cX2_bottomOf 46 = .ok (.iload 5, 2) := by decide +kernel
theorem dX2_bottomOf_48 : decode cX2_bottomOf 48 = .ok (.lshl, 1) := by decide +kernel
theorem dX2_bottomOf_49 : decode cX2_bottomOf 49 = .ok (.lor, 1) := by decide +kernel
theorem dX2_bottomOf_50 : decode cX2_bottomOf 50 = .ok (.lstore_n 3, 1) := by decide +kernel
theorem dX2_bottomOf_51 : decode cX2_bottomOf 51 = .ok (.iinc 5 1, 3) := by decide +kernel
theorem dX2_bottomOf_54 : decode cX2_bottomOf 54 = .ok (.goto (-49), 3) := by decide +kernel
theorem dX2_bottomOf_57 : decode cX2_bottomOf 57 = .ok (.lload_n 3, 1) := by decide +kernel
theorem dX2_bottomOf_58 : decode cX2_bottomOf 58 = .ok (.lreturn, 1) := by decide +kernel
theorem dX2_findChains_0 : decode cX2_findChains 0 = .ok (.iconst 0, 1) := by decide +kernel
theorem dX2_findChains_1 : decode cX2_findChains 1 = .ok (.istore_n 1, 1) := by decide +kernel
theorem dX2_findChains_2 : decode cX2_findChains 2 = .ok (.iconst 0, 1) := by decide +kernel
theorem dX2_findChains_3 : decode cX2_findChains 3 = .ok (.istore_n 2, 1) := by decide +kernel
theorem dX2_findChains_4 : decode cX2_findChains 4 = .ok (.iload_n 2, 1) := by decide +kernel
theorem dX2_findChains_5 : decode cX2_findChains 5 = .ok (.aload_n 0, 1) := by decide +kernel
theorem dX2_findChains_6 : decode cX2_findChains 6 = .ok (.getfield 9, 3) := by decide +kernel
theorem dX2_findChains_9 : decode cX2_findChains 9 = .ok (.iconst 0, 1) := by decide +kernel
theorem dX2_findChains_10 : decode cX2_findChains 10 = .ok (.invokevirtual 63, 3) := by decide +kernel
theorem dX2_findChains_13 : decode cX2_findChains 13 = .ok (.if_icmp .ge 32, 3) := by decide +kernel
theorem dX2_findChains_16 : decode cX2_findChains 16 = .ok (.aload_n 0, 1) := by decide +kernel
theorem dX2_findChains_17 : decode cX2_findChains 17 = .ok (.getfield 15, 3) := by decide +kernel
theorem dX2_findChains_20 : decode cX2_findChains 20 = .ok (.iconst 1, 1) := by decide +kernel
theorem dX2_findChains_21 : decode cX2_findChains 21 = .ok (.iload_n 2, 1) := by decide +kernel
theorem dX2_findChains_22 : decode cX2_findChains 22 = .ok (.invokevirtual 77, 3) := by decide +kernel
theorem dX2_findChains_25 : decode cX2_findChains 25 = .ok (.bipush (-3), 2) := by decide +kernel
theorem dX2_findChains_27 : decode cX2_findChains 27 = .ok (.if_icmp .ne 12, 3) := by decide +kernel
theorem dX2_findChains_30 : decode cX2_findChains 30 = .ok (.aload_n 0, 1) := by decide +kernel
theorem dX2_findChains_31 : decode cX2_findChains 31 = .ok (.iload_n 2, 1) := by decide +kernel
theorem dX2_findChains_32 : decode cX2_findChains 32 = .ok (.iload_n 1, 1) := by decide +kernel
theorem dX2_findChains_33 : decode cX2_findChains 33 = .ok (.invokevirtual 81, 3) := by decide +kernel
theorem dX2_findChains_36 : decode cX2_findChains 36 = .ok (.iinc 1 1, 3) := by decide +kernel
theorem dX2_findChains_39 : decode cX2_findChains 39 = .ok (.iinc 2 1, 3) := by decide +kernel
theorem dX2_findChains_42 : decode cX2_findChains 42 = .ok (.goto (-38), 3) := by decide +kernel
theorem dX2_findChains_45 : decode cX2_findChains 45 = .ok (.return_, 1) := by decide +kernel
theorem dX2_numberChain_0 : decode cX2_numberChain 0 = .ok (.iload_n 1, 1) := by decide +kernel
theorem dX2_numberChain_1 : decode cX2_numberChain 1 = .ok (.istore_n 3, 1) := by decide +kernel
theorem dX2_numberChain_2 : decode cX2_numberChain 2 = .ok (.iconst 0, 1) := by decide +kernel
theorem dX2_numberChain_3 : decode cX2_numberChain 3 = .ok (.istore 4, 2) := by decide +kernel
theorem dX2_numberChain_5 : decode cX2_numberChain 5 = .ok (.iload 4, 2) := by decide +kernel
theorem dX2_numberChain_7 : decode cX2_numberChain 7 = .ok (.bipush 40, 2) := by decide +kernel
theorem dX2_numberChain_9 : decode cX2_numberChain 9 = .ok (.if_icmp .ge 38, 3) := by decide +kernel
theorem dX2_numberChain_12 : decode cX2_numberChain 12 = .ok (.aload_n 0, 1) := by decide +kernel
theorem dX2_numberChain_13 : decode cX2_numberChain 13 = .ok (.getfield 9, 3) := by decide +kernel
theorem dX2_numberChain_16 : decode cX2_numberChain 16 = .ok (.iconst 0, 1) := by decide +kernel
theorem dX2_numberChain_17 : decode cX2_numberChain 17 = .ok (.iload_n 3, 1) := by decide +kernel
theorem dX2_numberChain_18 : decode cX2_numberChain 18 = .ok (.invokevirtual 45, 3) := by decide +kernel
theorem dX2_numberChain_21 : decode cX2_numberChain 21 = .ok (.ifCond .eq 26, 3) := by decide +kernel
theorem dX2_numberChain_24 : decode cX2_numberChain 24 = .ok (.aload_n 0, 1) := by decide +kernel
theorem dX2_numberChain_25 : decode cX2_numberChain 25 = .ok (.getfield 23, 3) := by decide +kernel
theorem dX2_numberChain_28 : decode cX2_numberChain 28 = .ok (.iload_n 3, 1) := by decide +kernel
theorem dX2_numberChain_29 : decode cX2_numberChain 29 = .ok (.iload_n 2, 1) := by decide +kernel
theorem dX2_numberChain_30 : decode cX2_numberChain 30 = .ok (.iastore, 1) := by decide +kernel
theorem dX2_numberChain_31 : decode cX2_numberChain 31 = .ok (.aload_n 0, 1) := by decide +kernel
theorem dX2_numberChain_32 : decode cX2_numberChain 32 = .ok (.getfield 15, 3) := by decide +kernel
theorem dX2_numberChain_35 : decode cX2_numberChain 35 = .ok (.iconst 0, 1) := by decide +kernel
theorem dX2_numberChain_36 : decode cX2_numberChain 36 = .ok (.iload_n 3, 1) := by decide +kernel
theorem dX2_numberChain_37 : decode cX2_numberChain 37 = .ok (.invokevirtual 77, 3) := by decide +kernel
theorem dX2_numberChain_40 : decode cX2_numberChain 40 = .ok (.istore_n 3, 1) := by decide +kernel
theorem dX2_numberChain_41 : decode cX2_numberChain 41 = .ok (.iinc 4 1, 3) := by decide +kernel
theorem dX2_numberChain_44 : decode cX2_numberChain 44 = .ok (.goto (-39), 3) := by decide +kernel
theorem dX2_numberChain_47 : decode cX2_numberChain 47 = .ok (.return_, 1) := by decide +kernel
theorem dX3_init_0 : decode cX3_init 0 = .ok (.aload_n 0, 1) := by decide +kernel
theorem dX3_init_1 : decode cX3_init 1 = .ok (.invokespecial 3, 3) := by decide +kernel
theorem dX3_init_4 : decode cX3_init 4 = .ok (.aload_n 0, 1) := by decide +kernel
theorem dX3_init_5 : decode cX3_init 5 = .ok (.aload_n 1, 1) := by decide +kernel
theorem dX3_init_6 : decode cX3_init 6 = .ok (.putfield 9, 3) := by decide +kernel
theorem dX3_init_9 : decode cX3_init 9 = .ok (.aload_n 0, 1) := by decide +kernel
theorem dX3_init_10 : decode cX3_init 10 = .ok (.iconst 2, 1) := by decide +kernel
theorem dX3_init_11 : decode cX3_init 11 = .ok (.aload_n 1, 1) := by decide +kernel
theorem dX3_init_12 : decode cX3_init 12 = .ok (.invokevirtual 15, 3) := by decide +kernel
theorem dX3_init_15 : decode cX3_init 15 = .ok (.multianewarray 21 2, 4) := by decide +kernel
theorem dX3_init_19 : decode cX3_init 19 = .ok (.putfield 23, 3) := by decide +kernel
theorem dX3_init_22 : decode cX3_init 22 = .ok (.aload_n 0, 1) := by decide +kernel
theorem dX3_init_23 : decode cX3_init 23 = .ok (.iconst 2, 1) := by decide +kernel
theorem dX3_init_24 : decode cX3_init 24 = .ok (.newarray .long, 2) := by decide +kernel
theorem dX3_init_26 : decode cX3_init 26 = .ok (.putfield 26, 3) := by decide +kernel
theorem dX3_init_29 : decode cX3_init 29 = .ok (.aload_n 0, 1) := by decide +kernel
theorem dX3_init_30 : decode cX3_init 30 = .ok (.iconst 2, 1) := by decide +kernel
theorem dX3_init_31 : decode cX3_init 31 = .ok (.newarray .long, 2) := by decide +kernel
theorem dX3_init_33 : decode cX3_init 33 = .ok (.putfield 30, 3) := by decide +kernel
theorem dX3_init_36 : decode cX3_init 36 = .ok (.aload_n 0, 1) := by decide +kernel
theorem dX3_init_37 : decode cX3_init 37 = .ok (.iconst 2, 1) := by decide +kernel
theorem dX3_init_38 : decode cX3_init 38 = .ok (.iconst 3, 1) := by decide +kernel
theorem dX3_init_39 : decode cX3_init 39 = .ok (.multianewarray 33 2, 4) := by decide +kernel
theorem dX3_init_43 : decode cX3_init 43 = .ok (.putfield 35, 3) := by decide +kernel
theorem dX3_init_46 : decode cX3_init 46 = .ok (.aload_n 0, 1) := by decide +kernel
theorem dX3_init_47 : decode cX3_init 47 = .ok (.aload_n 1, 1) := by decide +kernel
theorem dX3_init_48 : decode cX3_init 48 = .ok (.invokevirtual 15, 3) := by decide +kernel
theorem dX3_init_51 : decode cX3_init 51 = .ok (.newarray .int, 2) := by decide +kernel
theorem dX3_init_53 : decode cX3_init 53 = .ok (.putfield 38, 3) := by decide +kernel
theorem dX3_init_56 : decode cX3_init 56 = .ok (.aload_n 0, 1) := by decide +kernel
theorem dX3_init_57 : decode cX3_init 57 = .ok (.aload_n 1, 1) := by decide +kernel
theorem dX3_init_58 : decode cX3_init 58 = .ok (.invokevirtual 15, 3) := by decide +kernel
theorem dX3_init_61 : decode cX3_init 61 = .ok (.newarray .int, 2) := by decide +kernel
theorem dX3_init_63 : decode cX3_init 63 = .ok (.putfield 42, 3) := by decide +kernel
theorem dX3_init_66 : decode cX3_init 66 = .ok (.aload_n 0, 1) := by decide +kernel
theorem dX3_init_67 : decode cX3_init 67 = .ok (.iconst 0, 1) := by decide +kernel
theorem dX3_init_68 : decode cX3_init 68 = .ok (.putfield 45, 3) := by decide +kernel
theorem dX3_init_71 : decode cX3_init 71 = .ok (.aload_n 0, 1) := by decide +kernel
theorem dX3_init_72 : decode cX3_init 72 = .ok (.iconst (-1), 1) := by decide +kernel
theorem dX3_init_73 : decode cX3_init 73 = .ok (.putfield 49, 3) := by decide +kernel
theorem dX3_init_76 : decode cX3_init 76 = .ok (.return_, 1) := by decide +kernel
theorem dX3_refresh_0 : decode cX3_refresh 0 = .ok (.aload_n 0, 1) := by decide +kernel
theorem dX3_refresh_1 : decode cX3_refresh 1 = .ok (.getfield 49, 3) := by decide +kernel
theorem dX3_refresh_4 : decode cX3_refresh 4 = .ok (.aload_n 0, 1) := by decide +kernel
theorem dX3_refresh_5 : decode cX3_refresh 5 = .ok (.getfield 9, 3) := by decide +kernel
theorem dX3_refresh_8 : decode cX3_refresh 8 = .ok (.invokevirtual 52, 3) := by decide +kernel
theorem dX3_refresh_11 : decode cX3_refresh 11 = .ok (.if_icmp .ne 4, 3) := by decide +kernel
theorem dX3_refresh_14 : decode cX3_refresh 14 = .ok (.return_, 1) := by decide +kernel
theorem dX3_refresh_15 : decode cX3_refresh 15 = .ok (.aload_n 0, 1) := by decide +kernel
theorem dX3_refresh_16 : decode cX3_refresh 16 = .ok (.aload_n 0, 1) := by decide +kernel
theorem dX3_refresh_17 : decode cX3_refresh 17 = .ok (.getfield 9, 3) := by decide +kernel
theorem dX3_refresh_20 : decode cX3_refresh 20 = .ok (.invokevirtual 52, 3) := by decide +kernel
theorem dX3_refresh_23 : decode cX3_refresh 23 = .ok (.putfield 49, 3) := by decide +kernel
theorem dX3_refresh_26 : decode cX3_refresh 26 = .ok (.aload_n 0, 1) := by decide +kernel
theorem dX3_refresh_27 : decode cX3_refresh 27 = .ok (.invokevirtual 55, 3) := by decide +kernel
theorem dX3_refresh_30 : decode cX3_refresh 30 = .ok (.iconst 0, 1) := by decide +kernel
theorem dX3_refresh_31 : decode cX3_refresh 31 = .ok (.istore_n 1, 1) := by decide +kernel
theorem dX3_refresh_32 : decode cX3_refresh 32 = .ok (.iload_n 1, 1) := by decide +kernel
theorem dX3_refresh_33 : decode cX3_refresh 33 = .ok (.aload_n 0, 1) := by decide +kernel
theorem dX3_refresh_34 : decode cX3_refresh 34 = .ok (.getfield 9, 3) := by decide +kernel
theorem dX3_refresh_37 : decode cX3_refresh 37 = .ok (.invokevirtual 15, 3) := by decide +kernel
theorem dX3_refresh_40 : decode cX3_refresh 40 = .ok (.if_icmp .ge 26, 3) := by decide +kernel
theorem dX3_refresh_43 : decode cX3_refresh 43 = .ok (.aload_n 0, 1) := by decide +kernel
theorem dX3_refresh_44 : decode cX3_refresh 44 = .ok (.invokevirtual 58, 3) := by decide +kernel
theorem dX3_refresh_47 : decode cX3_refresh 47 = .ok (.ifCond .eq 19, 3) := by decide +kernel
theorem dX3_refresh_50 : decode cX3_refresh 50 = .ok (.aload_n 0, 1) := by decide +kernel
theorem dX3_refresh_51 : decode cX3_refresh 51 = .ok (.dup, 1) := by decide +kernel
theorem dX3_refresh_52 : decode cX3_refresh 52 = .ok (.getfield 45, 3) := by decide +kernel
theorem dX3_refresh_55 : decode cX3_refresh 55 = .ok (.iconst 1, 1) := by decide +kernel
theorem dX3_refresh_56 : decode cX3_refresh 56 = .ok (.iadd, 1) := by decide +kernel
theorem dX3_refresh_57 : decode cX3_refresh 57 = .ok (.putfield 45, 3) := by decide +kernel
theorem dX3_refresh_60 : decode cX3_refresh 60 = .ok (.iinc 1 1, 3) := by decide +kernel
theorem dX3_refresh_63 : decode cX3_refresh 63 = .ok (.goto (-31), 3) := by decide +kernel
theorem dX3_refresh_66 : decode cX3_refresh 66 = .ok (.iconst 0, 1) := by decide +kernel
theorem dX3_refresh_67 : decode cX3_refresh 67 = .ok (.istore_n 1, 1) := by decide +kernel
theorem dX3_refresh_68 : decode cX3_refresh 68 = .ok (.iload_n 1, 1) := by decide +kernel
theorem dX3_refresh_69 : decode cX3_refresh 69 = .ok (.aload_n 0, 1) := by decide +kernel
theorem dX3_refresh_70 : decode cX3_refresh 70 = .ok (.getfield 9, 3) := by decide +kernel
theorem dX3_refresh_73 : decode cX3_refresh 73 = .ok (.iconst 0, 1) := by decide +kernel
theorem dX3_refresh_74 : decode cX3_refresh 74 = .ok (.invokevirtual 62, 3) := by decide +kernel
theorem dX3_refresh_77 : decode cX3_refresh 77 = .ok (.if_icmp .ge 19, 3) := by decide +kernel
theorem dX3_refresh_80 : decode cX3_refresh 80 = .ok (.aload_n 0, 1) := by decide +kernel
theorem dX3_refresh_81 : decode cX3_refresh 81 = .ok (.iload_n 1, 1) := by decide +kernel
theorem dX3_refresh_82 : decode cX3_refresh 82 = .ok (.aload_n 0, 1) := by decide +kernel
theorem dX3_refresh_83 : decode cX3_refresh 83 = .ok (.iload_n 1, 1) := by decide +kernel
theorem dX3_refresh_84 : decode cX3_refresh 84 = .ok (.invokevirtual 66, 3) := by decide +kernel
theorem dX3_refresh_87 : decode cX3_refresh 87 = .ok (.invokevirtual 70, 3) := by decide +kernel
theorem dX3_refresh_90 : decode cX3_refresh 90 = .ok (.iinc 1 1, 3) := by decide +kernel
theorem dX3_refresh_93 : decode cX3_refresh 93 = .ok (.goto (-25), 3) := by decide +kernel
theorem dX3_refresh_96 : decode cX3_refresh 96 = .ok (.aload_n 0, 1) := by decide +kernel
theorem dX3_refresh_97 : decode cX3_refresh 97 = .ok (.invokevirtual 74, 3) := by decide +kernel
theorem dX3_refresh_100 : decode cX3_refresh 100 = .ok (.aload_n 0, 1) := by decide +kernel
theorem dX3_refresh_101 : decode cX3_refresh 101 = .ok (.invokevirtual 77, 3) := by decide +kernel
theorem dX3_refresh_104 : decode cX3_refresh 104 = .ok (.return_, 1) := by decide +kernel
theorem dX3_pairs_0 : decode cX3_pairs 0 = .ok (.aload_n 0, 1) := by decide +kernel
theorem dX3_pairs_1 : decode cX3_pairs 1 = .ok (.getfield 45, 3) := by decide +kernel
theorem dX3_pairs_4 : decode cX3_pairs 4 = .ok (.ireturn, 1) := by decide +kernel
theorem dX3_mateOf_0 : decode cX3_mateOf 0 = .ok (.aload_n 0, 1) := by decide +kernel
theorem dX3_mateOf_1 : decode cX3_mateOf 1 = .ok (.getfield 9, 3) := by decide +kernel
theorem dX3_mateOf_4 : decode cX3_mateOf 4 = .ok (.iload_n 1, 1) := by decide +kernel
theorem dX3_mateOf_5 : decode cX3_mateOf 5 = .ok (.iload_n 2, 1) := by decide +kernel
theorem dX3_mateOf_6 : decode cX3_mateOf 6 = .ok (.invokevirtual 80, 3) := by decide +kernel
theorem dX3_mateOf_9 : decode cX3_mateOf 9 = .ok (.ifCond .eq 14, 3) := by decide +kernel
theorem dX3_mateOf_12 : decode cX3_mateOf 12 = .ok (.aload_n 0, 1) := by decide +kernel
theorem dX3_mateOf_13 : decode cX3_mateOf 13 = .ok (.getfield 23, 3) := by decide +kernel
theorem dX3_mateOf_16 : decode cX3_mateOf 16 = .ok (.iload_n 1, 1) := by decide +kernel
theorem dX3_mateOf_17 : decode cX3_mateOf 17 = .ok (.aaload, 1) := by decide +kernel
theorem dX3_mateOf_18 : decode cX3_mateOf 18 = .ok (.iload_n 2, 1) := by decide +kernel
theorem dX3_mateOf_19 : decode cX3_mateOf 19 = .ok (.iaload, 1) := by decide +kernel
theorem dX3_mateOf_20 : decode cX3_mateOf 20 = .ok (.goto 5, 3) := by decide +kernel
theorem dX3_mateOf_23 : decode cX3_mateOf 23 = .ok (.bipush (-3), 2) := by decide +kernel
theorem dX3_mateOf_25 : decode cX3_mateOf 25 = .ok (.ireturn, 1) := by decide +kernel
theorem dX3_matesOf_0 : decode cX3_matesOf 0 = .ok (.lconst 0, 1) := by decide +kernel
theorem dX3_matesOf_1 : decode cX3_matesOf 1 = .ok (.lstore 4, 2) := by decide +kernel
theorem dX3_matesOf_3 : decode cX3_matesOf 3 = .ok (.lload_n 2, 1) := by decide +kernel
theorem dX3_matesOf_4 : decode cX3_matesOf 4 = .ok (.aload_n 0, 1) := by decide +kernel
theorem dX3_matesOf_5 : decode cX3_matesOf 5 = .ok (.getfield 9, 3) := by decide +kernel
theorem dX3_matesOf_8 : decode cX3_matesOf 8 = .ok (.iload_n 1, 1) := by decide +kernel
