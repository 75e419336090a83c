theorem dX6_canMiss_20 : decode cX6_canMiss 20 = .ok (.iload_n 3, 1) := by decide +kernel
theorem dX6_canMiss_21 : decode cX6_canMiss 21 = .ok (.ifCond .ge 5, 3) := by decide +kernel
theorem dX6_canMiss_24 : decode cX6_canMiss 24 = .ok (.iconst 1, 1) := by decide +kernel
theorem dX6_canMiss_25 : decode cX6_canMiss 25 = .ok (.ireturn, 1) := by decide +kernel
theorem dX6_canMiss_26 : decode cX6_canMiss 26 = .ok (.aload_n 0, 1) := by decide +kernel
theorem dX6_canMiss_27 : decode cX6_canMiss 27 = .ok (.invokevirtual 112, 3) := by decide +kernel
theorem dX6_canMiss_30 : decode cX6_canMiss 30 = .ok (.iload_n 1, 1) := by decide +kernel
theorem dX6_canMiss_31 : decode cX6_canMiss 31 = .ok (.ifCond .eq 27, 3) := by decide +kernel
theorem dX6_canMiss_34 : decode cX6_canMiss 34 = .ok (.aload_n 0, 1) := by decide +kernel
theorem dX6_canMiss_35 : decode cX6_canMiss 35 = .ok (.getfield 73, 3) := by decide +kernel
theorem dX6_canMiss_38 : decode cX6_canMiss 38 = .ok (.iload_n 2, 1) := by decide +kernel
theorem dX6_canMiss_39 : decode cX6_canMiss 39 = .ok (.iconst (-1), 1) := by decide +kernel
theorem dX6_canMiss_40 : decode cX6_canMiss 40 = .ok (.iastore, 1) := by decide +kernel
theorem dX6_canMiss_41 : decode cX6_canMiss 41 = .ok (.aload_n 0, 1) := by decide +kernel
theorem dX6_canMiss_42 : decode cX6_canMiss 42 = .ok (.getfield 76, 3) := by decide +kernel
theorem dX6_canMiss_45 : decode cX6_canMiss 45 = .ok (.iload_n 3, 1) := by decide +kernel
theorem dX6_canMiss_46 : decode cX6_canMiss 46 = .ok (.iconst (-1), 1) := by decide +kernel
theorem dX6_canMiss_47 : decode cX6_canMiss 47 = .ok (.iastore, 1) := by decide +kernel
theorem dX6_canMiss_48 : decode cX6_canMiss 48 = .ok (.aload_n 0, 1) := by decide +kernel
theorem dX6_canMiss_49 : decode cX6_canMiss 49 = .ok (.getfield 67, 3) := by decide +kernel
theorem dX6_canMiss_52 : decode cX6_canMiss 52 = .ok (.iload_n 2, 1) := by decide +kernel
theorem dX6_canMiss_53 : decode cX6_canMiss 53 = .ok (.iconst 1, 1) := by decide +kernel
theorem dX6_canMiss_54 : decode cX6_canMiss 54 = .ok (.bastore, 1) := by decide +kernel
theorem dX6_canMiss_55 : decode cX6_canMiss 55 = .ok (.goto 24, 3) := by decide +kernel
theorem dX6_canMiss_58 : decode cX6_canMiss 58 = .ok (.aload_n 0, 1) := by decide +kernel
theorem dX6_canMiss_59 : decode cX6_canMiss 59 = .ok (.getfield 76, 3) := by decide +kernel
theorem dX6_canMiss_62 : decode cX6_canMiss 62 = .ok (.iload_n 2, 1) := by decide +kernel
theorem dX6_canMiss_63 : decode cX6_canMiss 63 = .ok (.iconst (-1), 1) := by decide +kernel
theorem dX6_canMiss_64 : decode cX6_canMiss 64 = .ok (.iastore, 1) := by decide +kernel
theorem dX6_canMiss_65 : decode cX6_canMiss 65 = .ok (.aload_n 0, 1) := by decide +kernel
theorem dX6_canMiss_66 : decode cX6_canMiss 66 = .ok (.getfield 73, 3) := by decide +kernel
theorem dX6_canMiss_69 : decode cX6_canMiss 69 = .ok (.iload_n 3, 1) := by decide +kernel
theorem dX6_canMiss_70 : decode cX6_canMiss 70 = .ok (.iconst (-1), 1) := by decide +kernel
theorem dX6_canMiss_71 : decode cX6_canMiss 71 = .ok (.iastore, 1) := by decide +kernel
theorem dX6_canMiss_72 : decode cX6_canMiss 72 = .ok (.aload_n 0, 1) := by decide +kernel
theorem dX6_canMiss_73 : decode cX6_canMiss 73 = .ok (.getfield 70, 3) := by decide +kernel
theorem dX6_canMiss_76 : decode cX6_canMiss 76 = .ok (.iload_n 2, 1) := by decide +kernel
theorem dX6_canMiss_77 : decode cX6_canMiss 77 = .ok (.iconst 1, 1) := by decide +kernel
theorem dX6_canMiss_78 : decode cX6_canMiss 78 = .ok (.bastore, 1) := by decide +kernel
theorem dX6_canMiss_79 : decode cX6_canMiss 79 = .ok (.aload_n 0, 1) := by decide +kernel
theorem dX6_canMiss_80 : decode cX6_canMiss 80 = .ok (.invokevirtual 108, 3) := by decide +kernel
theorem dX6_canMiss_83 : decode cX6_canMiss 83 = .ok (.istore 4, 2) := by decide +kernel
theorem dX6_canMiss_85 : decode cX6_canMiss 85 = .ok (.aload_n 0, 1) := by decide +kernel
theorem dX6_canMiss_86 : decode cX6_canMiss 86 = .ok (.getfield 67, 3) := by decide +kernel
theorem dX6_canMiss_89 : decode cX6_canMiss 89 = .ok (.iload_n 2, 1) := by decide +kernel
theorem dX6_canMiss_90 : decode cX6_canMiss 90 = .ok (.iload_n 1, 1) := by decide +kernel
theorem dX6_canMiss_91 : decode cX6_canMiss 91 = .ok (.ifCond .eq 7, 3) := by decide +kernel
theorem dX6_canMiss_94 : decode cX6_canMiss 94 = .ok (.iconst 0, 1) := by decide +kernel
theorem dX6_canMiss_95 : decode cX6_canMiss 95 = .ok (.goto 9, 3) := by decide +kernel
theorem dX6_canMiss_98 : decode cX6_canMiss 98 = .ok (.aload_n 0, 1) := by decide +kernel
theorem dX6_canMiss_99 : decode cX6_canMiss 99 = .ok (.getfield 67, 3) := by decide +kernel
theorem dX6_canMiss_102 : decode cX6_canMiss 102 = .ok (.iload_n 2, 1) := by decide +kernel
theorem dX6_canMiss_103 : decode cX6_canMiss 103 = .ok (.baload, 1) := by decide +kernel
theorem dX6_canMiss_104 : decode cX6_canMiss 104 = .ok (.bastore, 1) := by decide +kernel
theorem dX6_canMiss_105 : decode cX6_canMiss 105 = .ok (.aload_n 0, 1) := by decide +kernel
theorem dX6_canMiss_106 : decode cX6_canMiss 106 = .ok (.getfield 70, 3) := by decide +kernel
theorem dX6_canMiss_109 : decode cX6_canMiss 109 = .ok (.iload_n 2, 1) := by decide +kernel
theorem dX6_canMiss_110 : decode cX6_canMiss 110 = .ok (.iload_n 1, 1) := by decide +kernel
theorem dX6_canMiss_111 : decode cX6_canMiss 111 = .ok (.ifCond .eq 12, 3) := by decide +kernel
theorem dX6_canMiss_114 : decode cX6_canMiss 114 = .ok (.aload_n 0, 1) := by decide +kernel
theorem dX6_canMiss_115 : decode cX6_canMiss 115 = .ok (.getfield 70, 3) := by decide +kernel
theorem dX6_canMiss_118 : decode cX6_canMiss 118 = .ok (.iload_n 2, 1) := by decide +kernel
theorem dX6_canMiss_119 : decode cX6_canMiss 119 = .ok (.baload, 1) := by decide +kernel
theorem dX6_canMiss_120 : decode cX6_canMiss 120 = .ok (.goto 4, 3) := by decide +kernel
theorem dX6_canMiss_123 : decode cX6_canMiss 123 = .ok (.iconst 0, 1) := by decide +kernel
theorem dX6_canMiss_124 : decode cX6_canMiss 124 = .ok (.bastore, 1) := by decide +kernel
theorem dX6_canMiss_125 : decode cX6_canMiss 125 = .ok (.aload_n 0, 1) := by decide +kernel
theorem dX6_canMiss_126 : decode cX6_canMiss 126 = .ok (.invokevirtual 115, 3) := by decide +kernel
theorem dX6_canMiss_129 : decode cX6_canMiss 129 = .ok (.iload 4, 2) := by decide +kernel
theorem dX6_canMiss_131 : decode cX6_canMiss 131 = .ok (.ireturn, 1) := by decide +kernel
theorem dX6_force_0 : decode cX6_force 0 = .ok (.aload_n 0, 1) := by decide +kernel
theorem dX6_force_1 : decode cX6_force 1 = .ok (.getfield 73, 3) := by decide +kernel
theorem dX6_force_4 : decode cX6_force 4 = .ok (.iload_n 1, 1) := by decide +kernel
theorem dX6_force_5 : decode cX6_force 5 = .ok (.iaload, 1) := by decide +kernel
theorem dX6_force_6 : decode cX6_force 6 = .ok (.iload_n 2, 1) := by decide +kernel
theorem dX6_force_7 : decode cX6_force 7 = .ok (.if_icmp .ne 5, 3) := by decide +kernel
theorem dX6_force_10 : decode cX6_force 10 = .ok (.iconst 1, 1) := by decide +kernel
theorem dX6_force_11 : decode cX6_force 11 = .ok (.ireturn, 1) := by decide +kernel
theorem dX6_force_12 : decode cX6_force 12 = .ok (.aload_n 0, 1) := by decide +kernel
theorem dX6_force_13 : decode cX6_force 13 = .ok (.invokevirtual 112, 3) := by decide +kernel
theorem dX6_force_16 : decode cX6_force 16 = .ok (.iconst (-1), 1) := by decide +kernel
theorem dX6_force_17 : decode cX6_force 17 = .ok (.istore_n 3, 1) := by decide +kernel
theorem dX6_force_18 : decode cX6_force 18 = .ok (.aload_n 0, 1) := by decide +kernel
theorem dX6_force_19 : decode cX6_force 19 = .ok (.getfield 73, 3) := by decide +kernel
theorem dX6_force_22 : decode cX6_force 22 = .ok (.iload_n 1, 1) := by decide +kernel
theorem dX6_force_23 : decode cX6_force 23 = .ok (.iaload, 1) := by decide +kernel
theorem dX6_force_24 : decode cX6_force 24 = .ok (.ifCond .lt 18, 3) := by decide +kernel
theorem dX6_force_27 : decode cX6_force 27 = .ok (.aload_n 0, 1) := by decide +kernel
theorem dX6_force_28 : decode cX6_force 28 = .ok (.getfield 76, 3) := by decide +kernel
theorem dX6_force_31 : decode cX6_force 31 = .ok (.aload_n 0, 1) := by decide +kernel
theorem dX6_force_32 : decode cX6_force 32 = .ok (.getfield 73, 3) := by decide +kernel
theorem dX6_force_35 : decode cX6_force 35 = .ok (.iload_n 1, 1) := by decide +kernel
theorem dX6_force_36 : decode cX6_force 36 = .ok (.iaload, 1) := by decide +kernel
theorem dX6_force_37 : decode cX6_force 37 = .ok (.iconst (-1), 1) := by decide +kernel
theorem dX6_force_38 : decode cX6_force 38 = .ok (.iastore, 1) := by decide +kernel
theorem dX6_force_39 : decode cX6_force 39 = .ok (.iinc 3 1, 3) := by decide +kernel
theorem dX6_force_42 : decode cX6_force 42 = .ok (.aload_n 0, 1) := by decide +kernel
theorem dX6_force_43 : decode cX6_force 43 = .ok (.getfield 76, 3) := by decide +kernel
theorem dX6_force_46 : decode cX6_force 46 = .ok (.iload_n 2, 1) := by decide +kernel
theorem dX6_force_47 : decode cX6_force 47 = .ok (.iaload, 1) := by decide +kernel
theorem dX6_force_48 : decode cX6_force 48 = .ok (.ifCond .lt 18, 3) := by decide +kernel
theorem dX6_force_51 : decode cX6_force 51 = .ok (.aload_n 0, 1) := by decide +kernel
theorem dX6_force_52 : decode cX6_force 52 = .ok (.getfield 73, 3) := by decide +kernel
theorem dX6_force_55 : decode cX6_force 55 = .ok (.aload_n 0, 1) := by decide +kernel
theorem dX6_force_56 : decode cX6_force 56 = .ok (.getfield 76, 3) := by decide +kernel
theorem dX6_force_59 : decode cX6_force 59 = .ok (.iload_n 2, 1) := by decide +kernel
theorem dX6_force_60 : decode cX6_force 60 = .ok (.iaload, 1) := by decide +kernel
theorem dX6_force_61 : decode cX6_force 61 = .ok (.iconst (-1), 1) := by decide +kernel
theorem dX6_force_62 : decode cX6_force 62 = .ok (.iastore, 1) := by decide +kernel
theorem dX6_force_63 : decode cX6_force 63 = .ok (.iinc 3 1, 3) := by decide +kernel
theorem dX6_force_66 : decode cX6_force 66 = .ok (.aload_n 0, 1) := by decide +kernel
theorem dX6_force_67 : decode cX6_force 67 = .ok (.getfield 73, 3) := by decide +kernel
theorem dX6_force_70 : decode cX6_force 70 = .ok (.iload_n 1, 1) := by decide +kernel
theorem dX6_force_71 : decode cX6_force 71 = .ok (.iload_n 2, 1) := by decide +kernel
theorem dX6_force_72 : decode cX6_force 72 = .ok (.iastore, 1) := by decide +kernel
theorem dX6_force_73 : decode cX6_force 73 = .ok (.aload_n 0, 1) := by decide +kernel
theorem dX6_force_74 : decode cX6_force 74 = .ok (.getfield 76, 3) := by decide +kernel
theorem dX6_force_77 : decode cX6_force 77 = .ok (.iload_n 2, 1) := by decide +kernel
theorem dX6_force_78 : decode cX6_force 78 = .ok (.iload_n 1, 1) := by decide +kernel
theorem dX6_force_79 : decode cX6_force 79 = .ok (.iastore, 1) := by decide +kernel
theorem dX6_force_80 : decode cX6_force 80 = .ok (.aload_n 0, 1) := by decide +kernel
theorem dX6_force_81 : decode cX6_force 81 = .ok (.getfield 67, 3) := by decide +kernel
theorem dX6_force_84 : decode cX6_force 84 = .ok (.iload_n 1, 1) := by decide +kernel
theorem dX6_force_85 : decode cX6_force 85 = .ok (.iconst 1, 1) := by decide +kernel
theorem dX6_force_86 : decode cX6_force 86 = .ok (.bastore, 1) := by decide +kernel
theorem dX6_force_87 : decode cX6_force 87 = .ok (.aload_n 0, 1) := by decide +kernel
theorem dX6_force_88 : decode cX6_force 88 = .ok (.getfield 70, 3) := by decide +kernel
theorem dX6_force_91 : decode cX6_force 91 = .ok (.iload_n 2, 1) := by decide +kernel
theorem dX6_force_92 : decode cX6_force 92 = .ok (.iconst 1, 1) := by decide +kernel
theorem dX6_force_93 : decode cX6_force 93 = .ok (.bastore, 1) := by decide +kernel
theorem dX6_force_94 : decode cX6_force 94 = .ok (.iload_n 3, 1) := by decide +kernel
theorem dX6_force_95 : decode cX6_force 95 = .ok (.ifCond .eq 10, 3) := by decide +kernel
theorem dX6_force_98 : decode cX6_force 98 = .ok (.aload_n 0, 1) := by decide +kernel
theorem dX6_force_99 : decode cX6_force 99 = .ok (.invokevirtual 108, 3) := by decide +kernel
theorem dX6_force_102 : decode cX6_force 102 = .ok (.ifCond .eq 7, 3) := by decide +kernel
theorem dX6_force_105 : decode cX6_force 105 = .ok (.iconst 1, 1) := by decide +kernel
theorem dX6_force_106 : decode cX6_force 106 = .ok (.goto 4, 3) := by decide +kernel
theorem dX6_force_109 : decode cX6_force 109 = .ok (.iconst 0, 1) := by decide +kernel
theorem dX6_force_110 : decode cX6_force 110 = .ok (.istore 4, 2) := by decide +kernel
theorem dX6_force_112 : decode cX6_force 112 = .ok (.aload_n 0, 1) := by decide +kernel
theorem dX6_force_113 : decode cX6_force 113 = .ok (.getfield 67, 3) := by decide +kernel
theorem dX6_force_116 : decode cX6_force 116 = .ok (.iload_n 1, 1) := by decide +kernel
theorem dX6_force_117 : decode cX6_force 117 = .ok (.iconst 0, 1) := by decide +kernel
theorem dX6_force_118 : decode cX6_force 118 = .ok (.bastore, 1) := by decide +kernel
theorem dX6_force_119 : decode cX6_force 119 = .ok (.aload_n 0, 1) := by decide +kernel
theorem dX6_force_120 : decode cX6_force 120 = .ok (.getfield 70, 3) := by decide +kernel
theorem dX6_force_123 : decode cX6_force 123 = .ok (.iload_n 2, 1) := by decide +kernel
theorem dX6_force_124 : decode cX6_force 124 = .ok (.iconst 0, 1) := by decide +kernel
theorem dX6_force_125 : decode cX6_force 125 = .ok (.bastore, 1) := by decide +kernel
theorem dX6_force_126 : decode cX6_force 126 = .ok (.iload 4, 2) := by decide +kernel
theorem dX6_force_128 : decode cX6_force 128 = .ok (.ifCond .ne 7, 3) := by decide +kernel
theorem dX6_force_131 : decode cX6_force 131 = .ok (.aload_n 0, 1) := by decide +kernel
theorem dX6_force_132 : decode cX6_force 132 = .ok (.invokevirtual 115, 3) := by decide +kernel
theorem dX6_force_135 : decode cX6_force 135 = .ok (.iload 4, 2) := by decide +kernel
theorem dX6_force_137 : decode cX6_force 137 = .ok (.ireturn, 1) := by decide +kernel
theorem dX6_improve_0 : decode cX6_improve 0 = .ok (.iconst 0, 1) := by decide +kernel
theorem dX6_improve_1 : decode cX6_improve 1 = .ok (.istore_n 1, 1) := by decide +kernel
theorem dX6_improve_2 : decode cX6_improve 2 = .ok (.iload_n 1, 1) := by decide +kernel
theorem dX6_improve_3 : decode cX6_improve 3 = .ok (.aload_n 0, 1) := by decide +kernel
theorem dX6_improve_4 : decode cX6_improve 4 = .ok (.getfield 91, 3) := by decide +kernel
theorem dX6_improve_7 : decode cX6_improve 7 = .ok (.if_icmp .ge 87, 3) := by decide +kernel
theorem dX6_improve_10 : decode cX6_improve 10 = .ok (.iconst 0, 1) := by decide +kernel
theorem dX6_improve_11 : decode cX6_improve 11 = .ok (.istore_n 2, 1) := by decide +kernel
theorem dX6_improve_12 : decode cX6_improve 12 = .ok (.iconst 0, 1) := by decide +kernel
theorem dX6_improve_13 : decode cX6_improve 13 = .ok (.istore_n 3, 1) := by decide +kernel
theorem dX6_improve_14 : decode cX6_improve 14 = .ok (.iload_n 3, 1) := by decide +kernel
theorem dX6_improve_15 : decode cX6_improve 15 = .ok (.aload_n 0, 1) := by decide +kernel
theorem dX6_improve_16 : decode cX6_improve 16 = .ok (.getfield 95, 3) := by decide +kernel
theorem dX6_improve_19 : decode cX6_improve 19 = .ok (.if_icmp .ge 62, 3) := by decide +kernel
theorem dX6_improve_22 : decode cX6_improve 22 = .ok (.iload_n 2, 1) := by decide +kernel
theorem dX6_improve_23 : decode cX6_improve 23 = .ok (.ifCond .ne 58, 3) := by decide +kernel
theorem dX6_improve_26 : decode cX6_improve 26 = .ok (.aload_n 0, 1) := by decide +kernel
theorem dX6_improve_27 : decode cX6_improve 27 = .ok (.getfield 64, 3) := by decide +kernel
theorem dX6_improve_30 : decode cX6_improve 30 = .ok (.bipush 50, 2) := by decide +kernel
theorem dX6_improve_32 : decode cX6_improve 32 = .ok (.iload_n 1, 1) := by decide +kernel
theorem dX6_improve_33 : decode cX6_improve 33 = .ok (.imul, 1) := by decide +kernel
theorem dX6_improve_34 : decode cX6_improve 34 = .ok (.iload_n 3, 1) := by decide +kernel
theorem dX6_improve_35 : decode cX6_improve 35 = .ok (.iadd, 1) := by decide +kernel
theorem dX6_improve_36 : decode cX6_improve 36 = .ok (.baload, 1) := by decide +kernel
theorem dX6_improve_37 : decode cX6_improve 37 = .ok (.ifCond .eq 25, 3) := by decide +kernel
theorem dX6_improve_40 : decode cX6_improve 40 = .ok (.aload_n 0, 1) := by decide +kernel
theorem dX6_improve_41 : decode cX6_improve 41 = .ok (.getfield 70, 3) := by decide +kernel
theorem dX6_improve_44 : decode cX6_improve 44 = .ok (.iload_n 3, 1) := by decide +kernel
theorem dX6_improve_45 : decode cX6_improve 45 = .ok (.baload, 1) := by decide +kernel
theorem dX6_improve_46 : decode cX6_improve 46 = .ok (.ifCond .ne 16, 3) := by decide +kernel
theorem dX6_improve_49 : decode cX6_improve 49 = .ok (.aload_n 0, 1) := by decide +kernel
theorem dX6_improve_50 : decode cX6_improve 50 = .ok (.iload_n 1, 1) := by decide +kernel
theorem dX6_improve_51 : decode cX6_improve 51 = .ok (.iload_n 3, 1) := by decide +kernel
theorem dX6_improve_52 : decode cX6_improve 52 = .ok (.invokevirtual 118, 3) := by decide +kernel
theorem dX6_improve_55 : decode cX6_improve 55 = .ok (.ifCond .eq 7, 3) := by decide +kernel
theorem dX6_improve_58 : decode cX6_improve 58 = .ok (.iconst 1, 1) := by decide +kernel
theorem dX6_improve_59 : decode cX6_improve 59 = .ok (.goto 4, 3) := by decide +kernel
theorem dX6_improve_62 : decode cX6_improve 62 = .ok (.iconst 0, 1) := by decide +kernel
theorem dX6_improve_63 : decode cX6_improve 63 = .ok (.istore_n 2, 1) := by decide +kernel
theorem dX6_improve_64 : decode cX6_improve 64 = .ok (.iload_n 2, 1) := by decide +kernel
theorem dX6_improve_65 : decode cX6_improve 65 = .ok (.ifCond .eq 10, 3) := by decide +kernel
theorem dX6_improve_68 : decode cX6_improve 68 = .ok (.aload_n 0, 1) := by decide +kernel
theorem dX6_improve_69 : decode cX6_improve 69 = .ok (.getfield 70, 3) := by decide +kernel
theorem dX6_improve_72 : decode cX6_improve 72 = .ok (.iload_n 3, 1) := by decide +kernel
theorem dX6_improve_73 : decode cX6_improve 73 = .ok (.iconst 1, 1) := by decide +kernel
theorem dX6_improve_74 : decode cX6_improve 74 = .ok (.bastore, 1) := by decide +kernel
theorem dX6_improve_75 : decode cX6_improve 75 = .ok (.iinc 3 1, 3) := by decide +kernel
theorem dX6_improve_78 : decode cX6_improve 78 = .ok (.goto (-64), 3) := by decide +kernel
theorem dX6_improve_81 : decode cX6_improve 81 = .ok (.aload_n 0, 1) := by decide +kernel
theorem dX6_improve_82 : decode cX6_improve 82 = .ok (.getfield 67, 3) := by decide +kernel
theorem dX6_improve_85 : decode cX6_improve 85 = .ok (.iload_n 1, 1) := by decide +kernel
theorem dX6_improve_86 : decode cX6_improve 86 = .ok (.iconst 1, 1) := by decide +kernel
theorem dX6_improve_87 : decode cX6_improve 87 = .ok (.bastore, 1) := by decide +kernel
theorem dX6_improve_88 : decode cX6_improve 88 = .ok (.iinc 1 1, 3) := by decide +kernel
theorem dX6_improve_91 : decode cX6_improve 91 = .ok (.goto (-89), 3) := by decide +kernel
theorem dX6_improve_94 : decode cX6_improve 94 = .ok (.iconst 0, 1) := by decide +kernel
theorem dX6_improve_95 : decode cX6_improve 95 = .ok (.istore_n 1, 1) := by decide +kernel
theorem dX6_improve_96 : decode cX6_improve 96 = .ok (.iload_n 1, 1) := by decide +kernel
theorem dX6_improve_97 : decode cX6_improve 97 = .ok (.bipush 50, 2) := by decide +kernel
theorem dX6_improve_99 : decode cX6_improve 99 = .ok (.if_icmp .ge 47, 3) := by decide +kernel
theorem dX6_improve_102 : decode cX6_improve 102 = .ok (.aload_n 0, 1) := by decide +kernel
theorem dX6_improve_103 : decode cX6_improve 103 = .ok (.getfield 67, 3) := by decide +kernel
theorem dX6_improve_106 : decode cX6_improve 106 = .ok (.iload_n 1, 1) := by decide +kernel
theorem dX6_improve_107 : decode cX6_improve 107 = .ok (.iload_n 1, 1) := by decide +kernel
theorem dX6_improve_108 : decode cX6_improve 108 = .ok (.aload_n 0, 1) := by decide +kernel
theorem dX6_improve_109 : decode cX6_improve 109 = .ok (.getfield 91, 3) := by decide +kernel
theorem dX6_improve_112 : decode cX6_improve 112 = .ok (.if_icmp .lt 7, 3) := by decide +kernel
theorem dX6_improve_115 : decode cX6_improve 115 = .ok (.iconst 1, 1) := by decide +kernel
theorem dX6_improve_116 : decode cX6_improve 116 = .ok (.goto 4, 3) := by decide +kernel
theorem dX6_improve_119 : decode cX6_improve 119 = .ok (.iconst 0, 1) := by decide +kernel
theorem dX6_improve_120 : decode cX6_improve 120 = .ok (.bastore, 1) := by decide +kernel
theorem dX6_improve_121 : decode cX6_improve 121 = .ok (.aload_n 0, 1) := by decide +kernel
theorem dX6_improve_122 : decode cX6_improve 122 = .ok (.getfield 70, 3) := by decide +kernel
theorem dX6_improve_125 : decode cX6_improve 125 = .ok (.iload_n 1, 1) := by decide +kernel
theorem dX6_improve_126 : decode cX6_improve 126 = .ok (.iload_n 1, 1) := by decide +kernel
theorem dX6_improve_127 : decode cX6_improve 127 = .ok (.aload_n 0, 1) := by decide +kernel
theorem dX6_improve_128 : decode cX6_improve 128 = .ok (.getfield 95, 3) := by decide +kernel
theorem dX6_improve_131 : decode cX6_improve 131 = .ok (.if_icmp .lt 7, 3) := by decide +kernel
theorem dX6_improve_134 : decode cX6_improve 134 = .ok (.iconst 1, 1) := by decide +kernel
theorem dX6_improve_135 : decode cX6_improve 135 = .ok (.goto 4, 3) := by decide +kernel
theorem dX6_improve_138 : decode cX6_improve 138 = .ok (.iconst 0, 1) := by decide +kernel
theorem dX6_improve_139 : decode cX6_improve 139 = .ok (.bastore, 1) := by decide +kernel
theorem dX6_improve_140 : decode cX6_improve 140 = .ok (.iinc 1 1, 3) := by decide +kernel
theorem dX6_improve_143 : decode cX6_improve 143 = .ok (.goto (-47), 3) := by decide +kernel
theorem dX6_improve_146 : decode cX6_improve 146 = .ok (.return_, 1) := by decide +kernel
theorem dX6_work_0 : decode cX6_work 0 = .ok (.aload_n 0, 1) := by decide +kernel
theorem dX6_work_1 : decode cX6_work 1 = .ok (.getfield 122, 3) := by decide +kernel
theorem dX6_work_4 : decode cX6_work 4 = .ok (.ifCond .eq 4, 3) := by decide +kernel
theorem dX6_work_7 : decode cX6_work 7 = .ok (.return_, 1) := by decide +kernel
theorem dX6_work_8 : decode cX6_work 8 = .ok (.aload_n 0, 1) := by decide +kernel
theorem dX6_work_9 : decode cX6_work 9 = .ok (.aload_n 0, 1) := by decide +kernel
theorem dX6_work_10 : decode cX6_work 10 = .ok (.getfield 7, 3) := by decide +kernel
theorem dX6_work_13 : decode cX6_work 13 = .ok (.aload_n 0, 1) := by decide +kernel
theorem dX6_work_14 : decode cX6_work 14 = .ok (.getfield 126, 3) := by decide +kernel
theorem dX6_work_17 : decode cX6_work 17 = .ok (.aload_n 0, 1) := by decide +kernel
theorem dX6_work_18 : decode cX6_work 18 = .ok (.getfield 129, 3) := by decide +kernel
theorem dX6_work_21 : decode cX6_work 21 = .ok (.invokevirtual 132, 3) := by decide +kernel
theorem dX6_work_24 : decode cX6_work 24 = .ok (.aload_n 0, 1) := by decide +kernel
theorem dX6_work_25 : decode cX6_work 25 = .ok (.invokevirtual 136, 3) := by decide +kernel
theorem dX6_work_28 : decode cX6_work 28 = .ok (.istore_n 1, 1) := by decide +kernel
theorem dX6_work_29 : decode cX6_work 29 = .ok (.aload_n 0, 1) := by decide +kernel
theorem dX6_work_30 : decode cX6_work 30 = .ok (.iconst 1, 1) := by decide +kernel
theorem dX6_work_31 : decode cX6_work 31 = .ok (.putfield 122, 3) := by decide +kernel
theorem dX6_work_34 : decode cX6_work 34 = .ok (.aload_n 0, 1) := by decide +kernel
theorem dX6_work_35 : decode cX6_work 35 = .ok (.iconst 0, 1) := by decide +kernel
theorem dX6_work_36 : decode cX6_work 36 = .ok (.putfield 140, 3) := by decide +kernel
theorem dX6_work_39 : decode cX6_work 39 = .ok (.aload_n 0, 1) := by decide +kernel
theorem dX6_work_40 : decode cX6_work 40 = .ok (.iload_n 1, 1) := by decide +kernel
theorem dX6_work_41 : decode cX6_work 41 = .ok (.putfield 143, 3) := by decide +kernel
theorem dX6_work_44 : decode cX6_work 44 = .ok (.iconst 0, 1) := by decide +kernel
theorem dX6_work_45 : decode cX6_work 45 = .ok (.istore_n 2, 1) := by decide +kernel
theorem dX6_work_46 : decode cX6_work 46 = .ok (.iload_n 2, 1) := by decide +kernel
theorem dX6_work_47 : decode cX6_work 47 = .ok (.aload_n 0, 1) := by decide +kernel
theorem dX6_work_48 : decode cX6_work 48 = .ok (.getfield 126, 3) := by decide +kernel
theorem dX6_work_51 : decode cX6_work 51 = .ok (.if_icmp .ge 21, 3) := by decide +kernel
theorem dX6_work_54 : decode cX6_work 54 = .ok (.aload_n 0, 1) := by decide +kernel
theorem dX6_work_55 : decode cX6_work 55 = .ok (.getfield 20, 3) := by decide +kernel
theorem dX6_work_58 : decode cX6_work 58 = .ok (.iload_n 2, 1) := by decide +kernel
theorem dX6_work_59 : decode cX6_work 59 = .ok (.aload_n 0, 1) := by decide +kernel
theorem dX6_work_60 : decode cX6_work 60 = .ok (.iconst 1, 1) := by decide +kernel
theorem dX6_work_61 : decode cX6_work 61 = .ok (.iload_n 2, 1) := by decide +kernel
theorem dX6_work_62 : decode cX6_work 62 = .ok (.invokevirtual 146, 3) := by decide +kernel
theorem dX6_work_65 : decode cX6_work 65 = .ok (.bastore, 1) := by decide +kernel
theorem dX6_work_66 : decode cX6_work 66 = .ok (.iinc 2 1, 3) := by decide +kernel
theorem dX6_work_69 : decode cX6_work 69 = .ok (.goto (-23), 3) := by decide +kernel
theorem dX6_work_72 : decode cX6_work 72 = .ok (.iconst 0, 1) := by decide +kernel
theorem dX6_work_73 : decode cX6_work 73 = .ok (.istore_n 2, 1) := by decide +kernel
theorem dX6_work_74 : decode cX6_work 74 = .ok (.iload_n 2, 1) := by decide +kernel
theorem dX6_work_75 : decode cX6_work 75 = .ok (.aload_n 0, 1) := by decide +kernel
theorem dX6_work_76 : decode cX6_work 76 = .ok (.getfield 129, 3) := by decide +kernel
theorem dX6_work_79 : decode cX6_work 79 = .ok (.if_icmp .ge 21, 3) := by decide +kernel
theorem dX6_work_82 : decode cX6_work 82 = .ok (.aload_n 0, 1) := by decide +kernel
theorem dX6_work_83 : decode cX6_work 83 = .ok (.getfield 23, 3) := by decide +kernel
theorem dX6_work_86 : decode cX6_work 86 = .ok (.iload_n 2, 1) := by decide +kernel
theorem dX6_work_87 : decode cX6_work 87 = .ok (.aload_n 0, 1) := by decide +kernel
theorem dX6_work_88 : decode cX6_work 88 = .ok (.iconst 0, 1) := by decide +kernel
theorem dX6_work_89 : decode cX6_work 89 = .ok (.iload_n 2, 1) := by decide +kernel
theorem dX6_work_90 : decode cX6_work 90 = .ok (.invokevirtual 146, 3) := by decide +kernel
theorem dX6_work_93 : decode cX6_work 93 = .ok (.bastore, 1) := by decide +kernel
theorem dX6_work_94 : decode cX6_work 94 = .ok (.iinc 2 1, 3) := by decide +kernel
theorem dX6_work_97 : decode cX6_work 97 = .ok (.goto (-23), 3) := by decide +kernel
theorem dX6_work_100 : decode cX6_work 100 = .ok (.aload_n 0, 1) := by decide +kernel
theorem dX6_work_101 : decode cX6_work 101 = .ok (.invokevirtual 150, 3) := by decide +kernel
theorem dX6_work_104 : decode cX6_work 104 = .ok (.aload_n 0, 1) := by decide +kernel
theorem dX6_work_105 : decode cX6_work 105 = .ok (.invokevirtual 153, 3) := by decide +kernel
theorem dX6_work_108 : decode cX6_work 108 = .ok (.iconst 0, 1) := by decide +kernel
theorem dX6_work_109 : decode cX6_work 109 = .ok (.istore_n 2, 1) := by decide +kernel
theorem dX6_work_110 : decode cX6_work 110 = .ok (.iload_n 2, 1) := by decide +kernel
theorem dX6_work_111 : decode cX6_work 111 = .ok (.bipush 50, 2) := by decide +kernel
theorem dX6_work_113 : decode cX6_work 113 = .ok (.if_icmp .ge 33, 3) := by decide +kernel
theorem dX6_work_116 : decode cX6_work 116 = .ok (.aload_n 0, 1) := by decide +kernel
theorem dX6_work_117 : decode cX6_work 117 = .ok (.getfield 13, 3) := by decide +kernel
theorem dX6_work_120 : decode cX6_work 120 = .ok (.iload_n 2, 1) := by decide +kernel
theorem dX6_work_121 : decode cX6_work 121 = .ok (.aload_n 0, 1) := by decide +kernel
theorem dX6_work_122 : decode cX6_work 122 = .ok (.getfield 73, 3) := by decide +kernel
theorem dX6_work_125 : decode cX6_work 125 = .ok (.iload_n 2, 1) := by decide +kernel
theorem dX6_work_126 : decode cX6_work 126 = .ok (.iaload, 1) := by decide +kernel
theorem dX6_work_127 : decode cX6_work 127 = .ok (.iastore, 1) := by decide +kernel
theorem dX6_work_128 : decode cX6_work 128 = .ok (.aload_n 0, 1) := by decide +kernel
theorem dX6_work_129 : decode cX6_work 129 = .ok (.getfield 17, 3) := by decide +kernel
theorem dX6_work_132 : decode cX6_work 132 = .ok (.iload_n 2, 1) := by decide +kernel
theorem dX6_work_133 : decode cX6_work 133 = .ok (.aload_n 0, 1) := by decide +kernel
theorem dX6_work_134 : decode cX6_work 134 = .ok (.getfield 76, 3) := by decide +kernel
theorem dX6_work_137 : decode cX6_work 137 = .ok (.iload_n 2, 1) := by decide +kernel
theorem dX6_work_138 : decode cX6_work 138 = .ok (.iaload, 1) := by decide +kernel
theorem dX6_work_139 : decode cX6_work 139 = .ok (.iastore, 1) := by decide +kernel
theorem dX6_work_140 : decode cX6_work 140 = .ok (.iinc 2 1, 3) := by decide +kernel
theorem dX6_work_143 : decode cX6_work 143 = .ok (.goto (-33), 3) := by decide +kernel
theorem dX6_work_146 : decode cX6_work 146 = .ok (.aload_n 0, 1) := by decide +kernel
theorem dX6_work_147 : decode cX6_work 147 = .ok (.invokevirtual 156, 3) := by decide +kernel
theorem dX6_work_150 : decode cX6_work 150 = .ok (.return_, 1) := by decide +kernel
theorem dX6_parts_0 : decode cX6_parts 0 = .ok (.iconst 0, 1) := by decide +kernel
theorem dX6_parts_1 : decode cX6_parts 1 = .ok (.istore_n 1, 1) := by decide +kernel
theorem dX6_parts_2 : decode cX6_parts 2 = .ok (.iload_n 1, 1) := by decide +kernel
theorem dX6_parts_3 : decode cX6_parts 3 = .ok (.aload_n 0, 1) := by decide +kernel
theorem dX6_parts_4 : decode cX6_parts 4 = .ok (.getfield 126, 3) := by decide +kernel
theorem dX6_parts_7 : decode cX6_parts 7 = .ok (.if_icmp .ge 84, 3) := by decide +kernel
theorem dX6_parts_10 : decode cX6_parts 10 = .ok (.aload_n 0, 1) := by decide +kernel
theorem dX6_parts_11 : decode cX6_parts 11 = .ok (.getfield 26, 3) := by decide +kernel
theorem dX6_parts_14 : decode cX6_parts 14 = .ok (.iload_n 1, 1) := by decide +kernel
theorem dX6_parts_15 : decode cX6_parts 15 = .ok (.aload_n 0, 1) := by decide +kernel
theorem dX6_parts_16 : decode cX6_parts 16 = .ok (.getfield 20, 3) := by decide +kernel
theorem dX6_parts_19 : decode cX6_parts 19 = .ok (.iload_n 1, 1) := by decide +kernel
theorem dX6_parts_20 : decode cX6_parts 20 = .ok (.baload, 1) := by decide +kernel
theorem dX6_parts_21 : decode cX6_parts 21 = .ok (.ifCond .eq 7, 3) := by decide +kernel
theorem dX6_parts_24 : decode cX6_parts 24 = .ok (.iconst 0, 1) := by decide +kernel
theorem dX6_parts_25 : decode cX6_parts 25 = .ok (.goto 4, 3) := by decide +kernel
theorem dX6_parts_28 : decode cX6_parts 28 = .ok (.iconst 1, 1) := by decide +kernel
theorem dX6_parts_29 : decode cX6_parts 29 = .ok (.iastore, 1) := by decide +kernel
theorem dX6_parts_30 : decode cX6_parts 30 = .ok (.iconst 0, 1) := by decide +kernel
theorem dX6_parts_31 : decode cX6_parts 31 = .ok (.istore_n 2, 1) := by decide +kernel
theorem dX6_parts_32 : decode cX6_parts 32 = .ok (.iload_n 2, 1) := by decide +kernel
theorem dX6_parts_33 : decode cX6_parts 33 = .ok (.aload_n 0, 1) := by decide +kernel
theorem dX6_parts_34 : decode cX6_parts 34 = .ok (.getfield 129, 3) := by decide +kernel
theorem dX6_parts_37 : decode cX6_parts 37 = .ok (.if_icmp .ge 48, 3) := by decide +kernel
theorem dX6_parts_40 : decode cX6_parts 40 = .ok (.aload_n 0, 1) := by decide +kernel
theorem dX6_parts_41 : decode cX6_parts 41 = .ok (.getfield 26, 3) := by decide +kernel
theorem dX6_parts_44 : decode cX6_parts 44 = .ok (.iload_n 1, 1) := by decide +kernel
theorem dX6_parts_45 : decode cX6_parts 45 = .ok (.aload_n 0, 1) := by decide +kernel
theorem dX6_parts_46 : decode cX6_parts 46 = .ok (.getfield 7, 3) := by decide +kernel
theorem dX6_parts_49 : decode cX6_parts 49 = .ok (.bipush 50, 2) := by decide +kernel
theorem dX6_parts_51 : decode cX6_parts 51 = .ok (.iload_n 1, 1) := by decide +kernel
theorem dX6_parts_52 : decode cX6_parts 52 = .ok (.imul, 1) := by decide +kernel
theorem dX6_parts_53 : decode cX6_parts 53 = .ok (.iload_n 2, 1) := by decide +kernel
theorem dX6_parts_54 : decode cX6_parts 54 = .ok (.iadd, 1) := by decide +kernel
theorem dX6_parts_55 : decode cX6_parts 55 = .ok (.baload, 1) := by decide +kernel
theorem dX6_parts_56 : decode cX6_parts 56 = .ok (.ifCond .eq 16, 3) := by decide +kernel
theorem dX6_parts_59 : decode cX6_parts 59 = .ok (.aload_n 0, 1) := by decide +kernel
theorem dX6_parts_60 : decode cX6_parts 60 = .ok (.getfield 23, 3) := by decide +kernel
theorem dX6_parts_63 : decode cX6_parts 63 = .ok (.iload_n 2, 1) := by decide +kernel
theorem dX6_parts_64 : decode cX6_parts 64 = .ok (.baload, 1) := by decide +kernel
theorem dX6_parts_65 : decode cX6_parts 65 = .ok (.ifCond .eq 7, 3) := by decide +kernel
theorem dX6_parts_68 : decode cX6_parts 68 = .ok (.iconst 2, 1) := by decide +kernel
theorem dX6_parts_69 : decode cX6_parts 69 = .ok (.goto 9, 3) := by decide +kernel
theorem dX6_parts_72 : decode cX6_parts 72 = .ok (.aload_n 0, 1) := by decide +kernel
theorem dX6_parts_73 : decode cX6_parts 73 = .ok (.getfield 26, 3) := by decide +kernel
theorem dX6_parts_76 : decode cX6_parts 76 = .ok (.iload_n 1, 1) := by decide +kernel
theorem dX6_parts_77 : decode cX6_parts 77 = .ok (.iaload, 1) := by decide +kernel
theorem dX6_parts_78 : decode cX6_parts 78 = .ok (.iastore, 1) := by decide +kernel
theorem dX6_parts_79 : decode cX6_parts 79 = .ok (.iinc 2 1, 3) := by decide +kernel
theorem dX6_parts_82 : decode cX6_parts 82 = .ok (.goto (-50), 3) := by decide +kernel
theorem dX6_parts_85 : decode cX6_parts 85 = .ok (.iinc 1 1, 3) := by decide +kernel
theorem dX6_parts_88 : decode cX6_parts 88 = .ok (.goto (-86), 3) := by decide +kernel
theorem dX6_parts_91 : decode cX6_parts 91 = .ok (.iconst 0, 1) := by decide +kernel
theorem dX6_parts_92 : decode cX6_parts 92 = .ok (.istore_n 1, 1) := by decide +kernel
theorem dX6_parts_93 : decode cX6_parts 93 = .ok (.iload_n 1, 1) := by decide +kernel
theorem dX6_parts_94 : decode cX6_parts 94 = .ok (.aload_n 0, 1) := by decide +kernel
theorem dX6_parts_95 : decode cX6_parts 95 = .ok (.getfield 129, 3) := by decide +kernel
theorem dX6_parts_98 : decode cX6_parts 98 = .ok (.if_icmp .ge 84, 3) := by decide +kernel
theorem dX6_parts_101 : decode cX6_parts 101 = .ok (.aload_n 0, 1) := by decide +kernel
theorem dX6_parts_102 : decode cX6_parts 102 = .ok (.getfield 29, 3) := by decide +kernel
theorem dX6_parts_105 : decode cX6_parts 105 = .ok (.iload_n 1, 1) := by decide +kernel
theorem dX6_parts_106 : decode cX6_parts 106 = .ok (.aload_n 0, 1) := by decide +kernel
theorem dX6_parts_107 : decode cX6_parts 107 = .ok (.getfield 23, 3) := by decide +kernel
theorem dX6_parts_110 : decode cX6_parts 110 = .ok (.iload_n 1, 1) := by decide +kernel
theorem dX6_parts_111 : decode cX6_parts 111 = .ok (.baload, 1) := by decide +kernel
theorem dX6_parts_112 : decode cX6_parts 112 = .ok (.ifCond .eq 7, 3) := by decide +kernel
theorem dX6_parts_115 : decode cX6_parts 115 = .ok (.iconst 2, 1) := by decide +kernel
theorem dX6_parts_116 : decode cX6_parts 116 = .ok (.goto 4, 3) := by decide +kernel
theorem dX6_parts_119 : decode cX6_parts 119 = .ok (.iconst 1, 1) := by decide +kernel
theorem dX6_parts_120 : decode cX6_parts 120 = .ok (.iastore, 1) := by decide +kernel
theorem dX6_parts_121 : decode cX6_parts 121 = .ok (.iconst 0, 1) := by decide +kernel
theorem dX6_parts_122 : decode cX6_parts 122 = .ok (.istore_n 2, 1) := by decide +kernel
theorem dX6_parts_123 : decode cX6_parts 123 = .ok (.iload_n 2, 1) := by decide +kernel
theorem dX6_parts_124 : decode cX6_parts 124 = .ok (.aload_n 0, 1) := by decide +kernel
theorem dX6_parts_125 : decode cX6_parts 125 = .ok (.getfield 126, 3) := by decide +kernel
theorem dX6_parts_128 : decode cX6_parts 128 = .ok (.if_icmp .ge 48, 3) := by decide +kernel
theorem dX6_parts_131 : decode cX6_parts 131 = .ok (.aload_n 0, 1) := by decide +kernel
theorem dX6_parts_132 : decode cX6_parts 132 = .ok (.getfield 29, 3) := by decide +kernel
theorem dX6_parts_135 : decode cX6_parts 135 = .ok (.iload_n 1, 1) := by decide +kernel
theorem dX6_parts_136 : decode cX6_parts 136 = .ok (.aload_n 0, 1) := by decide +kernel
theorem dX6_parts_137 : decode cX6_parts 137 = .ok (.getfield 7, 3) := by decide +kernel
theorem dX6_parts_140 : decode cX6_parts 140 = .ok (.bipush 50, 2) := by decide +kernel
theorem dX6_parts_142 : decode cX6_parts 142 = .ok (.iload_n 2, 1) := by decide +kernel
theorem dX6_parts_143 : decode cX6_parts 143 = .ok (.imul, 1) := by decide +kernel
theorem dX6_parts_144 : decode cX6_parts 144 = .ok (.iload_n 1, 1) := by decide +kernel
theorem dX6_parts_145 : decode cX6_parts 145 = .ok (.iadd, 1) := by decide +kernel
theorem dX6_parts_146 : decode cX6_parts 146 = .ok (.baload, 1) := by decide +kernel
theorem dX6_parts_147 : decode cX6_parts 147 = .ok (.ifCond .eq 16, 3) := by decide +kernel
theorem dX6_parts_150 : decode cX6_parts 150 = .ok (.aload_n 0, 1) := by decide +kernel
theorem dX6_parts_151 : decode cX6_parts 151 = .ok (.getfield 20, 3) := by decide +kernel
theorem dX6_parts_154 : decode cX6_parts 154 = .ok (.iload_n 2, 1) := by decide +kernel
theorem dX6_parts_155 : decode cX6_parts 155 = .ok (.baload, 1) := by decide +kernel
theorem dX6_parts_156 : decode cX6_parts 156 = .ok (.ifCond .eq 7, 3) := by decide +kernel
theorem dX6_parts_159 : decode cX6_parts 159 = .ok (.iconst 0, 1) := by decide +kernel
theorem dX6_parts_160 : decode cX6_parts 160 = .ok (.goto 9, 3) := by decide +kernel
theorem dX6_parts_163 : decode cX6_parts 163 = .ok (.aload_n 0, 1) := by decide +kernel
theorem dX6_parts_164 : decode cX6_parts 164 = .ok (.getfield 29, 3) := by decide +kernel
theorem dX6_parts_167 : decode cX6_parts 167 = .ok (.iload_n 1, 1) := by decide +kernel
theorem dX6_parts_168 : decode cX6_parts 168 = .ok (.iaload, 1) := by decide +kernel
theorem dX6_parts_169 : decode cX6_parts 169 = .ok (.iastore, 1) := by decide +kernel
theorem dX6_parts_170 : decode cX6_parts 170 = .ok (.iinc 2 1, 3) := by decide +kernel
theorem dX6_parts_173 : decode cX6_parts 173 = .ok (.goto (-50), 3) := by decide +kernel
theorem dX6_parts_176 : decode cX6_parts 176 = .ok (.iinc 1 1, 3) := by decide +kernel
theorem dX6_parts_179 : decode cX6_parts 179 = .ok (.goto (-86), 3) := by decide +kernel
theorem dX6_parts_182 : decode cX6_parts 182 = .ok (.return_, 1) := by decide +kernel
theorem dX6_blocks_0 : decode cX6_blocks 0 = .ok (.iconst 0, 1) := by decide +kernel
theorem dX6_blocks_1 : decode cX6_blocks 1 = .ok (.istore_n 1, 1) := by decide +kernel
theorem dX6_blocks_2 : decode cX6_blocks 2 = .ok (.iload_n 1, 1) := by decide +kernel
theorem dX6_blocks_3 : decode cX6_blocks 3 = .ok (.sipush 2500, 3) := by decide +kernel
theorem dX6_blocks_6 : decode cX6_blocks 6 = .ok (.if_icmp .ge 16, 3) := by decide +kernel
theorem dX6_blocks_9 : decode cX6_blocks 9 = .ok (.aload_n 0, 1) := by decide +kernel
theorem dX6_blocks_10 : decode cX6_blocks 10 = .ok (.getfield 35, 3) := by decide +kernel
theorem dX6_blocks_13 : decode cX6_blocks 13 = .ok (.iload_n 1, 1) := by decide +kernel
theorem dX6_blocks_14 : decode cX6_blocks 14 = .ok (.iconst 0, 1) := by decide +kernel
theorem dX6_blocks_15 : decode cX6_blocks 15 = .ok (.bastore, 1) := by decide +kernel
theorem dX6_blocks_16 : decode cX6_blocks 16 = .ok (.iinc 1 1, 3) := by decide +kernel
theorem dX6_blocks_19 : decode cX6_blocks 19 = .ok (.goto (-17), 3) := by decide +kernel
theorem dX6_blocks_22 : decode cX6_blocks 22 = .ok (.iconst 0, 1) := by decide +kernel
theorem dX6_blocks_23 : decode cX6_blocks 23 = .ok (.istore_n 1, 1) := by decide +kernel
theorem dX6_blocks_24 : decode cX6_blocks 24 = .ok (.iload_n 1, 1) := by decide +kernel
theorem dX6_blocks_25 : decode cX6_blocks 25 = .ok (.aload_n 0, 1) := by decide +kernel
theorem dX6_blocks_26 : decode cX6_blocks 26 = .ok (.getfield 126, 3) := by decide +kernel
theorem dX6_blocks_29 : decode cX6_blocks 29 = .ok (.if_icmp .ge 77, 3) := by decide +kernel
theorem dX6_blocks_32 : decode cX6_blocks 32 = .ok (.aload_n 0, 1) := by decide +kernel
theorem dX6_blocks_33 : decode cX6_blocks 33 = .ok (.getfield 35, 3) := by decide +kernel
theorem dX6_blocks_36 : decode cX6_blocks 36 = .ok (.bipush 50, 2) := by decide +kernel
theorem dX6_blocks_38 : decode cX6_blocks 38 = .ok (.iload_n 1, 1) := by decide +kernel
theorem dX6_blocks_39 : decode cX6_blocks 39 = .ok (.imul, 1) := by decide +kernel
theorem dX6_blocks_40 : decode cX6_blocks 40 = .ok (.iload_n 1, 1) := by decide +kernel
theorem dX6_blocks_41 : decode cX6_blocks 41 = .ok (.iadd, 1) := by decide +kernel
theorem dX6_blocks_42 : decode cX6_blocks 42 = .ok (.iconst 1, 1) := by decide +kernel
theorem dX6_blocks_43 : decode cX6_blocks 43 = .ok (.bastore, 1) := by decide +kernel
theorem dX6_blocks_44 : decode cX6_blocks 44 = .ok (.iconst 0, 1) := by decide +kernel
theorem dX6_blocks_45 : decode cX6_blocks 45 = .ok (.istore_n 2, 1) := by decide +kernel
theorem dX6_blocks_46 : decode cX6_blocks 46 = .ok (.iload_n 2, 1) := by decide +kernel
theorem dX6_blocks_47 : decode cX6_blocks 47 = .ok (.aload_n 0, 1) := by decide +kernel
theorem dX6_blocks_48 : decode cX6_blocks 48 = .ok (.getfield 129, 3) := by decide +kernel
theorem dX6_blocks_51 : decode cX6_blocks 51 = .ok (.if_icmp .ge 49, 3) := by decide +kernel
theorem dX6_blocks_54 : decode cX6_blocks 54 = .ok (.aload_n 0, 1) := by decide +kernel
theorem dX6_blocks_55 : decode cX6_blocks 55 = .ok (.getfield 7, 3) := by decide +kernel
theorem dX6_blocks_58 : decode cX6_blocks 58 = .ok (.bipush 50, 2) := by decide +kernel
theorem dX6_blocks_60 : decode cX6_blocks 60 = .ok (.iload_n 1, 1) := by decide +kernel
theorem dX6_blocks_61 : decode cX6_blocks 61 = .ok (.imul, 1) := by decide +kernel
theorem dX6_blocks_62 : decode cX6_blocks 62 = .ok (.iload_n 2, 1) := by decide +kernel
theorem dX6_blocks_63 : decode cX6_blocks 63 = .ok (.iadd, 1) := by decide +kernel
theorem dX6_blocks_64 : decode cX6_blocks 64 = .ok (.baload, 1) := by decide +kernel
theorem dX6_blocks_65 : decode cX6_blocks 65 = .ok (.ifCond .eq 29, 3) := by decide +kernel
theorem dX6_blocks_68 : decode cX6_blocks 68 = .ok (.aload_n 0, 1) := by decide +kernel
theorem dX6_blocks_69 : decode cX6_blocks 69 = .ok (.getfield 17, 3) := by decide +kernel
theorem dX6_blocks_72 : decode cX6_blocks 72 = .ok (.iload_n 2, 1) := by decide +kernel
theorem dX6_blocks_73 : decode cX6_blocks 73 = .ok (.iaload, 1) := by decide +kernel
theorem dX6_blocks_74 : decode cX6_blocks 74 = .ok (.ifCond .lt 20, 3) := by decide +kernel
theorem dX6_blocks_77 : decode cX6_blocks 77 = .ok (.aload_n 0, 1) := by decide +kernel
theorem dX6_blocks_78 : decode cX6_blocks 78 = .ok (.getfield 35, 3) := by decide +kernel
theorem dX6_blocks_81 : decode cX6_blocks 81 = .ok (.bipush 50, 2) := by decide +kernel
theorem dX6_blocks_83 : decode cX6_blocks 83 = .ok (.iload_n 1, 1) := by decide +kernel
theorem dX6_blocks_84 : decode cX6_blocks 84 = .ok (.imul, 1) := by decide +kernel
theorem dX6_blocks_85 : decode cX6_blocks 85 = .ok (.aload_n 0, 1) := by decide +kernel
theorem dX6_blocks_86 : decode cX6_blocks 86 = .ok (.getfield 17, 3) := by decide +kernel
theorem dX6_blocks_89 : decode cX6_blocks 89 = .ok (.iload_n 2, 1) := by decide +kernel
theorem dX6_blocks_90 : decode cX6_blocks 90 = .ok (.iaload, 1) := by decide +kernel
theorem dX6_blocks_91 : decode cX6_blocks 91 = .ok (.iadd, 1) := by decide +kernel
theorem dX6_blocks_92 : decode cX6_blocks 92 = .ok (.iconst 1, 1) := by decide +kernel
theorem dX6_blocks_93 : decode cX6_blocks 93 = .ok (.bastore, 1) := by decide +kernel
theorem dX6_blocks_94 : decode cX6_blocks 94 = .ok (.iinc 2 1, 3) := by decide +kernel
theorem dX6_blocks_97 : decode cX6_blocks 97 = .ok (.goto (-51), 3) := by decide +kernel
theorem dX6_blocks_100 : decode cX6_blocks 100 = .ok (.iinc 1 1, 3) := by decide +kernel
theorem dX6_blocks_103 : decode cX6_blocks 103 = .ok (.goto (-79), 3) := by decide +kernel
theorem dX6_blocks_106 : decode cX6_blocks 106 = .ok (.iconst 0, 1) := by decide +kernel
theorem dX6_blocks_107 : decode cX6_blocks 107 = .ok (.istore_n 1, 1) := by decide +kernel
theorem dX6_blocks_108 : decode cX6_blocks 108 = .ok (.iload_n 1, 1) := by decide +kernel
theorem dX6_blocks_109 : decode cX6_blocks 109 = .ok (.aload_n 0, 1) := by decide +kernel
theorem dX6_blocks_110 : decode cX6_blocks 110 = .ok (.getfield 126, 3) := by decide +kernel
theorem dX6_blocks_113 : decode cX6_blocks 113 = .ok (.if_icmp .ge 99, 3) := by decide +kernel
theorem dX6_blocks_116 : decode cX6_blocks 116 = .ok (.iconst 0, 1) := by decide +kernel
theorem dX6_blocks_117 : decode cX6_blocks 117 = .ok (.istore_n 2, 1) := by decide +kernel
theorem dX6_blocks_118 : decode cX6_blocks 118 = .ok (.iload_n 2, 1) := by decide +kernel
theorem dX6_blocks_119 : decode cX6_blocks 119 = .ok (.aload_n 0, 1) := by decide +kernel
theorem dX6_blocks_120 : decode cX6_blocks 120 = .ok (.getfield 126, 3) := by decide +kernel
theorem dX6_blocks_123 : decode cX6_blocks 123 = .ok (.if_icmp .ge 83, 3) := by decide +kernel
theorem dX6_blocks_126 : decode cX6_blocks 126 = .ok (.iconst 0, 1) := by decide +kernel
theorem dX6_blocks_127 : decode cX6_blocks 127 = .ok (.istore_n 3, 1) := by decide +kernel
theorem dX6_blocks_128 : decode cX6_blocks 128 = .ok (.iload_n 3, 1) := by decide +kernel
theorem dX6_blocks_129 : decode cX6_blocks 129 = .ok (.aload_n 0, 1) := by decide +kernel
theorem dX6_blocks_130 : decode cX6_blocks 130 = .ok (.getfield 126, 3) := by decide +kernel
theorem dX6_blocks_133 : decode cX6_blocks 133 = .ok (.if_icmp .ge 67, 3) := by decide +kernel
theorem dX6_blocks_136 : decode cX6_blocks 136 = .ok (.aload_n 0, 1) := by decide +kernel
theorem dX6_blocks_137 : decode cX6_blocks 137 = .ok (.getfield 35, 3) := by decide +kernel
theorem dX6_blocks_140 : decode cX6_blocks 140 = .ok (.bipush 50, 2) := by decide +kernel
theorem dX6_blocks_142 : decode cX6_blocks 142 = .ok (.iload_n 2, 1) := by decide +kernel
theorem dX6_blocks_143 : decode cX6_blocks 143 = .ok (.imul, 1) := by decide +kernel
theorem dX6_blocks_144 : decode cX6_blocks 144 = .ok (.iload_n 1, 1) := by decide +kernel
theorem dX6_blocks_145 : decode cX6_blocks 145 = .ok (.iadd, 1) := by decide +kernel
theorem dX6_blocks_146 : decode cX6_blocks 146 = .ok (.baload, 1) := by decide +kernel
theorem dX6_blocks_147 : decode cX6_blocks 147 = .ok (.ifCond .eq 53, 3) := by decide +kernel
theorem dX6_blocks_150 : decode cX6_blocks 150 = .ok (.aload_n 0, 1) := by decide +kernel
theorem dX6_blocks_151 : decode cX6_blocks 151 = .ok (.getfield 35, 3) := by decide +kernel
theorem dX6_blocks_154 : decode cX6_blocks 154 = .ok (.bipush 50, 2) := by decide +kernel
theorem dX6_blocks_156 : decode cX6_blocks 156 = .ok (.iload_n 2, 1) := by decide +kernel
theorem dX6_blocks_157 : decode cX6_blocks 157 = .ok (.imul, 1) := by decide +kernel
theorem dX6_blocks_158 : decode cX6_blocks 158 = .ok (.iload_n 3, 1) := by decide +kernel
theorem dX6_blocks_159 : decode cX6_blocks 159 = .ok (.iadd, 1) := by decide +kernel
theorem dX6_blocks_160 : decode cX6_blocks 160 = .ok (.aload_n 0, 1) := by decide +kernel
theorem dX6_blocks_161 : decode cX6_blocks 161 = .ok (.getfield 35, 3) := by decide +kernel
theorem dX6_blocks_164 : decode cX6_blocks 164 = .ok (.bipush 50, 2) := by decide +kernel
theorem dX6_blocks_166 : decode cX6_blocks 166 = .ok (.iload_n 2, 1) := by decide +kernel
theorem dX6_blocks_167 : decode cX6_blocks 167 = .ok (.imul, 1) := by decide +kernel
theorem dX6_blocks_168 : decode cX6_blocks 168 = .ok (.iload_n 3, 1) := by decide +kernel
theorem dX6_blocks_169 : decode cX6_blocks 169 = .ok (.iadd, 1) := by decide +kernel
theorem dX6_blocks_170 : decode cX6_blocks 170 = .ok (.baload, 1) := by decide +kernel
theorem dX6_blocks_171 : decode cX6_blocks 171 = .ok (.ifCond .ne 17, 3) := by decide +kernel
theorem dX6_blocks_174 : decode cX6_blocks 174 = .ok (.aload_n 0, 1) := by decide +kernel
theorem dX6_blocks_175 : decode cX6_blocks 175 = .ok (.getfield 35, 3) := by decide +kernel
theorem dX6_blocks_178 : decode cX6_blocks 178 = .ok (.bipush 50, 2) := by decide +kernel
theorem dX6_blocks_180 : decode cX6_blocks 180 = .ok (.iload_n 1, 1) := by decide +kernel
theorem dX6_blocks_181 : decode cX6_blocks 181 = .ok (.imul, 1) := by decide +kernel
theorem dX6_blocks_182 : decode cX6_blocks 182 = .ok (.iload_n 3, 1) := by decide +kernel
theorem dX6_blocks_183 : decode cX6_blocks 183 = .ok (.iadd, 1) := by decide +kernel
theorem dX6_blocks_184 : decode cX6_blocks 184 = .ok (.baload, 1) := by decide +kernel
theorem dX6_blocks_185 : decode cX6_blocks 185 = .ok (.ifCond .eq 7, 3) := by decide +kernel
theorem dX6_blocks_188 : decode cX6_blocks 188 = .ok (.iconst 1, 1) := by decide +kernel
theorem dX6_blocks_189 : decode cX6_blocks 189 = .ok (.goto 4, 3) := by decide +kernel
theorem dX6_blocks_192 : decode cX6_blocks 192 = .ok (.iconst 0, 1) := by decide +kernel
theorem dX6_blocks_193 : decode cX6_blocks 193 = .ok (.bastore, 1) := by decide +kernel
theorem dX6_blocks_194 : decode cX6_blocks 194 = .ok (.iinc 3 1, 3) := by decide +kernel
theorem dX6_blocks_197 : decode cX6_blocks 197 = .ok (.goto (-69), 3) := by decide +kernel
theorem dX6_blocks_200 : decode cX6_blocks 200 = .ok (.iinc 2 1, 3) := by decide +kernel
theorem dX6_blocks_203 : decode cX6_blocks 203 = .ok (.goto (-85), 3) := by decide +kernel
theorem dX6_blocks_206 : decode cX6_blocks 206 = .ok (.iinc 1 1, 3) := by decide +kernel
theorem dX6_blocks_209 : decode cX6_blocks 209 = .ok (.goto (-101), 3) := by decide +kernel
theorem dX6_blocks_212 : decode cX6_blocks 212 = .ok (.aload_n 0, 1) := by decide +kernel
theorem dX6_blocks_213 : decode cX6_blocks 213 = .ok (.iconst 0, 1) := by decide +kernel
theorem dX6_blocks_214 : decode cX6_blocks 214 = .ok (.putfield 159, 3) := by decide +kernel
theorem dX6_blocks_217 : decode cX6_blocks 217 = .ok (.iconst 0, 1) := by decide +kernel
theorem dX6_blocks_218 : decode cX6_blocks 218 = .ok (.istore_n 1, 1) := by decide +kernel
theorem dX6_blocks_219 : decode cX6_blocks 219 = .ok (.iload_n 1, 1) := by decide +kernel
theorem dX6_blocks_220 : decode cX6_blocks 220 = .ok (.aload_n 0, 1) := by decide +kernel
theorem dX6_blocks_221 : decode cX6_blocks 221 = .ok (.getfield 126, 3) := by decide +kernel
theorem dX6_blocks_224 : decode cX6_blocks 224 = .ok (.if_icmp .ge 137, 3) := by decide +kernel
theorem dX6_blocks_227 : decode cX6_blocks 227 = .ok (.aload_n 0, 1) := by decide +kernel
theorem dX6_blocks_228 : decode cX6_blocks 228 = .ok (.getfield 32, 3) := by decide +kernel
theorem dX6_blocks_231 : decode cX6_blocks 231 = .ok (.iload_n 1, 1) := by decide +kernel
theorem dX6_blocks_232 : decode cX6_blocks 232 = .ok (.iconst (-1), 1) := by decide +kernel
theorem dX6_blocks_233 : decode cX6_blocks 233 = .ok (.iastore, 1) := by decide +kernel
theorem dX6_blocks_234 : decode cX6_blocks 234 = .ok (.iconst 0, 1) := by decide +kernel
theorem dX6_blocks_235 : decode cX6_blocks 235 = .ok (.istore_n 2, 1) := by decide +kernel
theorem dX6_blocks_236 : decode cX6_blocks 236 = .ok (.iload_n 2, 1) := by decide +kernel
theorem dX6_blocks_237 : decode cX6_blocks 237 = .ok (.iload_n 1, 1) := by decide +kernel
theorem dX6_blocks_238 : decode cX6_blocks 238 = .ok (.if_icmp .ge 78, 3) := by decide +kernel
theorem dX6_blocks_241 : decode cX6_blocks 241 = .ok (.aload_n 0, 1) := by decide +kernel
theorem dX6_blocks_242 : decode cX6_blocks 242 = .ok (.getfield 26, 3) := by decide +kernel
theorem dX6_blocks_245 : decode cX6_blocks 245 = .ok (.iload_n 1, 1) := by decide +kernel
theorem dX6_blocks_246 : decode cX6_blocks 246 = .ok (.iaload, 1) := by decide +kernel
theorem dX6_blocks_247 : decode cX6_blocks 247 = .ok (.iconst 1, 1) := by decide +kernel
theorem dX6_blocks_248 : decode cX6_blocks 248 = .ok (.if_icmp .ne 68, 3) := by decide +kernel
theorem dX6_blocks_251 : decode cX6_blocks 251 = .ok (.aload_n 0, 1) := by decide +kernel
theorem dX6_blocks_252 : decode cX6_blocks 252 = .ok (.getfield 32, 3) := by decide +kernel
theorem dX6_blocks_255 : decode cX6_blocks 255 = .ok (.iload_n 1, 1) := by decide +kernel
theorem dX6_blocks_256 : decode cX6_blocks 256 = .ok (.iaload, 1) := by decide +kernel
theorem dX6_blocks_257 : decode cX6_blocks 257 = .ok (.ifCond .ge 59, 3) := by decide +kernel
theorem dX6_blocks_260 : decode cX6_blocks 260 = .ok (.aload_n 0, 1) := by decide +kernel
theorem dX6_blocks_261 : decode cX6_blocks 261 = .ok (.getfield 26, 3) := by decide +kernel
theorem dX6_blocks_264 : decode cX6_blocks 264 = .ok (.iload_n 2, 1) := by decide +kernel
theorem dX6_blocks_265 : decode cX6_blocks 265 = .ok (.iaload, 1) := by decide +kernel
theorem dX6_blocks_266 : decode cX6_blocks 266 = .ok (.iconst 1, 1) := by decide +kernel
theorem dX6_blocks_267 : decode cX6_blocks 267 = .ok (.if_icmp .ne 43, 3) := by decide +kernel
theorem dX6_blocks_270 : decode cX6_blocks 270 = .ok (.aload_n 0, 1) := by decide +kernel
theorem dX6_blocks_271 : decode cX6_blocks 271 = .ok (.getfield 35, 3) := by decide +kernel
theorem dX6_blocks_274 : decode cX6_blocks 274 = .ok (.bipush 50, 2) := by decide +kernel
theorem dX6_blocks_276 : decode cX6_blocks 276 = .ok (.iload_n 2, 1) := by decide +kernel
theorem dX6_blocks_277 : decode cX6_blocks 277 = .ok (.imul, 1) := by decide +kernel
theorem dX6_blocks_278 : decode cX6_blocks 278 = .ok (.iload_n 1, 1) := by decide +kernel
theorem dX6_blocks_279 : decode cX6_blocks 279 = .ok (.iadd, 1) := by decide +kernel
theorem dX6_blocks_280 : decode cX6_blocks 280 = .ok (.baload, 1) := by decide +kernel
theorem dX6_blocks_281 : decode cX6_blocks 281 = .ok (.ifCond .eq 29, 3) := by decide +kernel
theorem dX6_blocks_284 : decode cX6_blocks 284 = .ok (.aload_n 0, 1) := by decide +kernel
theorem dX6_blocks_285 : decode cX6_blocks 285 = .ok (.getfield 35, 3) := by decide +kernel
theorem dX6_blocks_288 : decode cX6_blocks 288 = .ok (.bipush 50, 2) := by decide +kernel
theorem dX6_blocks_290 : decode cX6_blocks 290 = .ok (.iload_n 1, 1) := by decide +kernel
theorem dX6_blocks_291 : decode cX6_blocks 291 = .ok (.imul, 1) := by decide +kernel
theorem dX6_blocks_292 : decode cX6_blocks 292 = .ok (.iload_n 2, 1) := by decide +kernel
theorem dX6_blocks_293 : decode cX6_blocks 293 = .ok (.iadd, 1) := by decide +kernel
theorem dX6_blocks_294 : decode cX6_blocks 294 = .ok (.baload, 1) := by decide +kernel
theorem dX6_blocks_295 : decode cX6_blocks 295 = .ok (.ifCond .eq 15, 3) := by decide +kernel
theorem dX6_blocks_298 : decode cX6_blocks 298 = .ok (.aload_n 0, 1) := by decide +kernel
theorem dX6_blocks_299 : decode cX6_blocks 299 = .ok (.getfield 32, 3) := by decide +kernel
theorem dX6_blocks_302 : decode cX6_blocks 302 = .ok (.iload_n 1, 1) := by decide +kernel
theorem dX6_blocks_303 : decode cX6_blocks 303 = .ok (.aload_n 0, 1) := by decide +kernel
theorem dX6_blocks_304 : decode cX6_blocks 304 = .ok (.getfield 32, 3) := by decide +kernel
theorem dX6_blocks_307 : decode cX6_blocks 307 = .ok (.iload_n 2, 1) := by decide +kernel
theorem dX6_blocks_308 : decode cX6_blocks 308 = .ok (.iaload, 1) := by decide +kernel
theorem dX6_blocks_309 : decode cX6_blocks 309 = .ok (.iastore, 1) := by decide +kernel
theorem dX6_blocks_310 : decode cX6_blocks 310 = .ok (.iinc 2 1, 3) := by decide +kernel
theorem dX6_blocks_313 : decode cX6_blocks 313 = .ok (.goto (-77), 3) := by decide +kernel
theorem dX6_blocks_316 : decode cX6_blocks 316 = .ok (.aload_n 0, 1) := by decide +kernel
theorem dX6_blocks_317 : decode cX6_blocks 317 = .ok (.getfield 26, 3) := by decide +kernel
theorem dX6_blocks_320 : decode cX6_blocks 320 = .ok (.iload_n 1, 1) := by decide +kernel
theorem dX6_blocks_321 : decode cX6_blocks 321 = .ok (.iaload, 1) := by decide +kernel
theorem dX6_blocks_322 : decode cX6_blocks 322 = .ok (.iconst 1, 1) := by decide +kernel
theorem dX6_blocks_323 : decode cX6_blocks 323 = .ok (.if_icmp .ne 32, 3) := by decide +kernel
theorem dX6_blocks_326 : decode cX6_blocks 326 = .ok (.aload_n 0, 1) := by decide +kernel
theorem dX6_blocks_327 : decode cX6_blocks 327 = .ok (.getfield 32, 3) := by decide +kernel
theorem dX6_blocks_330 : decode cX6_blocks 330 = .ok (.iload_n 1, 1) := by decide +kernel
theorem dX6_blocks_331 : decode cX6_blocks 331 = .ok (.iaload, 1) := by decide +kernel
theorem dX6_blocks_332 : decode cX6_blocks 332 = .ok (.ifCond .ge 23, 3) := by decide +kernel
theorem dX6_blocks_335 : decode cX6_blocks 335 = .ok (.aload_n 0, 1) := by decide +kernel
theorem dX6_blocks_336 : decode cX6_blocks 336 = .ok (.getfield 32, 3) := by decide +kernel
theorem dX6_blocks_339 : decode cX6_blocks 339 = .ok (.iload_n 1, 1) := by decide +kernel
theorem dX6_blocks_340 : decode cX6_blocks 340 = .ok (.aload_n 0, 1) := by decide +kernel
theorem dX6_blocks_341 : decode cX6_blocks 341 = .ok (.getfield 159, 3) := by decide +kernel
theorem dX6_blocks_344 : decode cX6_blocks 344 = .ok (.iastore, 1) := by decide +kernel
theorem dX6_blocks_345 : decode cX6_blocks 345 = .ok (.aload_n 0, 1) := by decide +kernel
theorem dX6_blocks_346 : decode cX6_blocks 346 = .ok (.dup, 1) := by decide +kernel
theorem dX6_blocks_347 : decode cX6_blocks 347 = .ok (.getfield 159, 3) := by decide +kernel
theorem dX6_blocks_350 : decode cX6_blocks 350 = .ok (.iconst 1, 1) := by decide +kernel
theorem dX6_blocks_351 : decode cX6_blocks 351 = .ok (.iadd, 1) := by decide +kernel
theorem dX6_blocks_352 : decode cX6_blocks 352 = .ok (.putfield 159, 3) := by decide +kernel
theorem dX6_blocks_355 : decode cX6_blocks 355 = .ok (.iinc 1 1, 3) := by decide +kernel
theorem dX6_blocks_358 : decode cX6_blocks 358 = .ok (.goto (-139), 3) := by decide +kernel
theorem dX6_blocks_361 : decode cX6_blocks 361 = .ok (.return_, 1) := by decide +kernel
theorem dX6_isNode_0 : decode cX6_isNode 0 = .ok (.iload_n 2, 1) := by decide +kernel
theorem dX6_isNode_1 : decode cX6_isNode 1 = .ok (.ifCond .lt 32, 3) := by decide +kernel
theorem dX6_isNode_4 : decode cX6_isNode 4 = .ok (.iload_n 1, 1) := by decide +kernel
theorem dX6_isNode_5 : decode cX6_isNode 5 = .ok (.ifCond .ne 11, 3) := by decide +kernel
theorem dX6_isNode_8 : decode cX6_isNode 8 = .ok (.iload_n 2, 1) := by decide +kernel
theorem dX6_isNode_9 : decode cX6_isNode 9 = .ok (.aload_n 0, 1) := by decide +kernel
theorem dX6_isNode_10 : decode cX6_isNode 10 = .ok (.getfield 126, 3) := by decide +kernel
theorem dX6_isNode_13 : decode cX6_isNode 13 = .ok (.if_icmp .lt 16, 3) := by decide +kernel
theorem dX6_isNode_16 : decode cX6_isNode 16 = .ok (.iload_n 1, 1) := by decide +kernel
theorem dX6_isNode_17 : decode cX6_isNode 17 = .ok (.iconst 1, 1) := by decide +kernel
theorem dX6_isNode_18 : decode cX6_isNode 18 = .ok (.if_icmp .ne 15, 3) := by decide +kernel
theorem dX6_isNode_21 : decode cX6_isNode 21 = .ok (.iload_n 2, 1) := by decide +kernel
theorem dX6_isNode_22 : decode cX6_isNode 22 = .ok (.aload_n 0, 1) := by decide +kernel
theorem dX6_isNode_23 : decode cX6_isNode 23 = .ok (.getfield 129, 3) := by decide +kernel
theorem dX6_isNode_26 : decode cX6_isNode 26 = .ok (.if_icmp .ge 7, 3) := by decide +kernel
theorem dX6_isNode_29 : decode cX6_isNode 29 = .ok (.iconst 1, 1) := by decide +kernel
theorem dX6_isNode_30 : decode cX6_isNode 30 = .ok (.goto 4, 3) := by decide +kernel
theorem dX6_isNode_33 : decode cX6_isNode 33 = .ok (.iconst 0, 1) := by decide +kernel
theorem dX6_isNode_34 : decode cX6_isNode 34 = .ok (.ireturn, 1) := by decide +kernel
theorem dX6_node_0 : decode cX6_node 0 = .ok (.iload_n 1, 1) := by decide +kernel
theorem dX6_node_1 : decode cX6_node 1 = .ok (.ifCond .eq 10, 3) := by decide +kernel
theorem dX6_node_4 : decode cX6_node 4 = .ok (.iload_n 1, 1) := by decide +kernel
theorem dX6_node_5 : decode cX6_node 5 = .ok (.iconst 1, 1) := by decide +kernel
theorem dX6_node_6 : decode cX6_node 6 = .ok (.if_icmp .eq 5, 3) := by decide +kernel
theorem dX6_node_9 : decode cX6_node 9 = .ok (.iconst (-1), 1) := by decide +kernel
theorem dX6_node_10 : decode cX6_node 10 = .ok (.ireturn, 1) := by decide +kernel
theorem dX6_node_11 : decode cX6_node 11 = .ok (.iload_n 1, 1) := by decide +kernel
theorem dX6_node_12 : decode cX6_node 12 = .ok (.ifCond .ne 10, 3) := by decide +kernel
theorem dX6_node_15 : decode cX6_node 15 = .ok (.aload_n 0, 1) := by decide +kernel
theorem dX6_node_16 : decode cX6_node 16 = .ok (.getfield 126, 3) := by decide +kernel
theorem dX6_node_19 : decode cX6_node 19 = .ok (.goto 7, 3) := by decide +kernel
theorem dX6_node_22 : decode cX6_node 22 = .ok (.aload_n 0, 1) := by decide +kernel
theorem dX6_node_23 : decode cX6_node 23 = .ok (.getfield 129, 3) := by decide +kernel
theorem dX6_node_26 : decode cX6_node 26 = .ok (.bipush 50, 2) := by decide +kernel
theorem dX6_node_28 : decode cX6_node 28 = .ok (.if_icmp .ne 6, 3) := by decide +kernel
theorem dX6_node_31 : decode cX6_node 31 = .ok (.bipush (-2), 2) := by decide +kernel
theorem dX6_node_33 : decode cX6_node 33 = .ok (.ireturn, 1) := by decide +kernel
theorem dX6_node_34 : decode cX6_node 34 = .ok (.aload_n 0, 1) := by decide +kernel
theorem dX6_node_35 : decode cX6_node 35 = .ok (.iconst 0, 1) := by decide +kernel
theorem dX6_node_36 : decode cX6_node 36 = .ok (.putfield 122, 3) := by decide +kernel
theorem dX6_node_39 : decode cX6_node 39 = .ok (.iload_n 1, 1) := by decide +kernel
theorem dX6_node_40 : decode cX6_node 40 = .ok (.ifCond .ne 20, 3) := by decide +kernel
theorem dX6_node_43 : decode cX6_node 43 = .ok (.aload_n 0, 1) := by decide +kernel
theorem dX6_node_44 : decode cX6_node 44 = .ok (.dup, 1) := by decide +kernel
theorem dX6_node_45 : decode cX6_node 45 = .ok (.getfield 126, 3) := by decide +kernel
theorem dX6_node_48 : decode cX6_node 48 = .ok (.iconst 1, 1) := by decide +kernel
theorem dX6_node_49 : decode cX6_node 49 = .ok (.iadd, 1) := by decide +kernel
theorem dX6_node_50 : decode cX6_node 50 = .ok (.putfield 126, 3) := by decide +kernel
theorem dX6_node_53 : decode cX6_node 53 = .ok (.aload_n 0, 1) := by decide +kernel
theorem dX6_node_54 : decode cX6_node 54 = .ok (.getfield 126, 3) := by decide +kernel
theorem dX6_node_57 : decode cX6_node 57 = .ok (.iconst 1, 1) := by decide +kernel
theorem dX6_node_58 : decode cX6_node 58 = .ok (.isub, 1) := by decide +kernel
theorem dX6_node_59 : decode cX6_node 59 = .ok (.ireturn, 1) := by decide +kernel
theorem dX6_node_60 : decode cX6_node 60 = .ok (.aload_n 0, 1) := by decide +kernel
theorem dX6_node_61 : decode cX6_node 61 = .ok (.dup, 1) := by decide +kernel
theorem dX6_node_62 : decode cX6_node 62 = .ok (.getfield 129, 3) := by decide +kernel
theorem dX6_node_65 : decode cX6_node 65 = .ok (.iconst 1, 1) := by decide +kernel
theorem dX6_node_66 : decode cX6_node 66 = .ok (.iadd, 1) := by decide +kernel
theorem dX6_node_67 : decode cX6_node 67 = .ok (.putfield 129, 3) := by decide +kernel
theorem dX6_node_70 : decode cX6_node 70 = .ok (.aload_n 0, 1) := by decide +kernel
theorem dX6_node_71 : decode cX6_node 71 = .ok (.getfield 129, 3) := by decide +kernel
theorem dX6_node_74 : decode cX6_node 74 = .ok (.iconst 1, 1) := by decide +kernel
theorem dX6_node_75 : decode cX6_node 75 = .ok (.isub, 1) := by decide +kernel
theorem dX6_node_76 : decode cX6_node 76 = .ok (.ireturn, 1) := by decide +kernel
theorem dX6_edge_0 : decode cX6_edge 0 = .ok (.aload_n 0, 1) := by decide +kernel
theorem dX6_edge_1 : decode cX6_edge 1 = .ok (.iconst 0, 1) := by decide +kernel
theorem dX6_edge_2 : decode cX6_edge 2 = .ok (.iload_n 1, 1) := by decide +kernel
theorem dX6_edge_3 : decode cX6_edge 3 = .ok (.invokevirtual 161, 3) := by decide +kernel
theorem dX6_edge_6 : decode cX6_edge 6 = .ok (.ifCond .eq 12, 3) := by decide +kernel
theorem dX6_edge_9 : decode cX6_edge 9 = .ok (.aload_n 0, 1) := by decide +kernel
theorem dX6_edge_10 : decode cX6_edge 10 = .ok (.iconst 1, 1) := by decide +kernel
theorem dX6_edge_11 : decode cX6_edge 11 = .ok (.iload_n 2, 1) := by decide +kernel
theorem dX6_edge_12 : decode cX6_edge 12 = .ok (.invokevirtual 161, 3) := by decide +kernel
theorem dX6_edge_15 : decode cX6_edge 15 = .ok (.ifCond .ne 5, 3) := by decide +kernel
theorem dX6_edge_18 : decode cX6_edge 18 = .ok (.iconst (-1), 1) := by decide +kernel
theorem dX6_edge_19 : decode cX6_edge 19 = .ok (.ireturn, 1) := by decide +kernel
theorem dX6_edge_20 : decode cX6_edge 20 = .ok (.aload_n 0, 1) := by decide +kernel
theorem dX6_edge_21 : decode cX6_edge 21 = .ok (.getfield 7, 3) := by decide +kernel
theorem dX6_edge_24 : decode cX6_edge 24 = .ok (.bipush 50, 2) := by decide +kernel
theorem dX6_edge_26 : decode cX6_edge 26 = .ok (.iload_n 1, 1) := by decide +kernel
theorem dX6_edge_27 : decode cX6_edge 27 = .ok (.imul, 1) := by decide +kernel
theorem dX6_edge_28 : decode cX6_edge 28 = .ok (.iload_n 2, 1) := by decide +kernel
theorem dX6_edge_29 : decode cX6_edge 29 = .ok (.iadd, 1) := by decide +kernel
theorem dX6_edge_30 : decode cX6_edge 30 = .ok (.baload, 1) := by decide +kernel
theorem dX6_edge_31 : decode cX6_edge 31 = .ok (.iload_n 3, 1) := by decide +kernel
theorem dX6_edge_32 : decode cX6_edge 32 = .ok (.if_icmp .eq 7, 3) := by decide +kernel
theorem dX6_edge_35 : decode cX6_edge 35 = .ok (.iconst 1, 1) := by decide +kernel
theorem dX6_edge_36 : decode cX6_edge 36 = .ok (.goto 4, 3) := by decide +kernel
theorem dX6_edge_39 : decode cX6_edge 39 = .ok (.iconst 0, 1) := by decide +kernel
theorem dX6_edge_40 : decode cX6_edge 40 = .ok (.istore 4, 2) := by decide +kernel
theorem dX6_edge_42 : decode cX6_edge 42 = .ok (.aload_n 0, 1) := by decide +kernel
theorem dX6_edge_43 : decode cX6_edge 43 = .ok (.getfield 7, 3) := by decide +kernel
theorem dX6_edge_46 : decode cX6_edge 46 = .ok (.bipush 50, 2) := by decide +kernel
theorem dX6_edge_48 : decode cX6_edge 48 = .ok (.iload_n 1, 1) := by decide +kernel
theorem dX6_edge_49 : decode cX6_edge 49 = .ok (.imul, 1) := by decide +kernel
theorem dX6_edge_50 : decode cX6_edge 50 = .ok (.iload_n 2, 1) := by decide +kernel
theorem dX6_edge_51 : decode cX6_edge 51 = .ok (.iadd, 1) := by decide +kernel
theorem dX6_edge_52 : decode cX6_edge 52 = .ok (.iload_n 3, 1) := by decide +kernel
theorem dX6_edge_53 : decode cX6_edge 53 = .ok (.bastore, 1) := by decide +kernel
theorem dX6_edge_54 : decode cX6_edge 54 = .ok (.aload_n 0, 1) := by decide +kernel
theorem dX6_edge_55 : decode cX6_edge 55 = .ok (.aload_n 0, 1) := by decide +kernel
theorem dX6_edge_56 : decode cX6_edge 56 = .ok (.getfield 122, 3) := by decide +kernel
theorem dX6_edge_59 : decode cX6_edge 59 = .ok (.ifCond .eq 12, 3) := by decide +kernel
theorem dX6_edge_62 : decode cX6_edge 62 = .ok (.iload 4, 2) := by decide +kernel
theorem dX6_edge_64 : decode cX6_edge 64 = .ok (.ifCond .ne 7, 3) := by decide +kernel
theorem dX6_edge_67 : decode cX6_edge 67 = .ok (.iconst 1, 1) := by decide +kernel
theorem dX6_edge_68 : decode cX6_edge 68 = .ok (.goto 4, 3) := by decide +kernel
theorem dX6_edge_71 : decode cX6_edge 71 = .ok (.iconst 0, 1) := by decide +kernel
theorem dX6_edge_72 : decode cX6_edge 72 = .ok (.putfield 122, 3) := by decide +kernel
theorem dX6_edge_75 : decode cX6_edge 75 = .ok (.iload 4, 2) := by decide +kernel
theorem dX6_edge_77 : decode cX6_edge 77 = .ok (.ifCond .eq 7, 3) := by decide +kernel
theorem dX6_edge_80 : decode cX6_edge 80 = .ok (.iconst 1, 1) := by decide +kernel
theorem dX6_edge_81 : decode cX6_edge 81 = .ok (.goto 4, 3) := by decide +kernel
theorem dX6_edge_84 : decode cX6_edge 84 = .ok (.iconst 0, 1) := by decide +kernel
theorem dX6_edge_85 : decode cX6_edge 85 = .ok (.ireturn, 1) := by decide +kernel
theorem dX6_edgesMany_0 : decode cX6_edgesMany 0 = .ok (.iconst 0, 1) := by decide +kernel
theorem dX6_edgesMany_1 : decode cX6_edgesMany 1 = .ok (.istore_n 1, 1) := by decide +kernel
theorem dX6_edgesMany_2 : decode cX6_edgesMany 2 = .ok (.iconst 0, 1) := by decide +kernel
theorem dX6_edgesMany_3 : decode cX6_edgesMany 3 = .ok (.istore_n 2, 1) := by decide +kernel
theorem dX6_edgesMany_4 : decode cX6_edgesMany 4 = .ok (.iload_n 2, 1) := by decide +kernel
theorem dX6_edgesMany_5 : decode cX6_edgesMany 5 = .ok (.sipush 2500, 3) := by decide +kernel
theorem dX6_edgesMany_8 : decode cX6_edgesMany 8 = .ok (.if_icmp .ge 26, 3) := by decide +kernel
theorem dX6_edgesMany_11 : decode cX6_edgesMany 11 = .ok (.aload_n 0, 1) := by decide +kernel
theorem dX6_edgesMany_12 : decode cX6_edgesMany 12 = .ok (.getfield 7, 3) := by decide +kernel
theorem dX6_edgesMany_15 : decode cX6_edgesMany 15 = .ok (.iload_n 2, 1) := by decide +kernel
theorem dX6_edgesMany_16 : decode cX6_edgesMany 16 = .ok (.baload, 1) := by decide +kernel
theorem dX6_edgesMany_17 : decode cX6_edgesMany 17 = .ok (.ifCond .eq 9, 3) := by decide +kernel
theorem dX6_edgesMany_20 : decode cX6_edgesMany 20 = .ok (.iload_n 1, 1) := by decide +kernel
theorem dX6_edgesMany_21 : decode cX6_edgesMany 21 = .ok (.iconst 1, 1) := by decide +kernel
theorem dX6_edgesMany_22 : decode cX6_edgesMany 22 = .ok (.iadd, 1) := by decide +kernel
theorem dX6_edgesMany_23 : decode cX6_edgesMany 23 = .ok (.goto 4, 3) := by decide +kernel
theorem dX6_edgesMany_26 : decode cX6_edgesMany 26 = .ok (.iload_n 1, 1) := by decide +kernel
theorem dX6_edgesMany_27 : decode cX6_edgesMany 27 = .ok (.istore_n 1, 1) := by decide +kernel
theorem dX6_edgesMany_28 : decode cX6_edgesMany 28 = .ok (.iinc 2 1, 3) := by decide +kernel
theorem dX6_edgesMany_31 : decode cX6_edgesMany 31 = .ok (.goto (-27), 3) := by decide +kernel
theorem dX6_edgesMany_34 : decode cX6_edgesMany 34 = .ok (.iload_n 1, 1) := by decide +kernel
theorem dX6_edgesMany_35 : decode cX6_edgesMany 35 = .ok (.ireturn, 1) := by decide +kernel
theorem dX6_inPart_0 : decode cX6_inPart 0 = .ok (.iconst 0, 1) := by decide +kernel
theorem dX6_inPart_1 : decode cX6_inPart 1 = .ok (.istore_n 2, 1) := by decide +kernel
theorem dX6_inPart_2 : decode cX6_inPart 2 = .ok (.iconst 0, 1) := by decide +kernel
theorem dX6_inPart_3 : decode cX6_inPart 3 = .ok (.istore_n 3, 1) := by decide +kernel
theorem dX6_inPart_4 : decode cX6_inPart 4 = .ok (.iload_n 3, 1) := by decide +kernel
theorem dX6_inPart_5 : decode cX6_inPart 5 = .ok (.aload_n 0, 1) := by decide +kernel
theorem dX6_inPart_6 : decode cX6_inPart 6 = .ok (.getfield 126, 3) := by decide +kernel
theorem dX6_inPart_9 : decode cX6_inPart 9 = .ok (.if_icmp .ge 27, 3) := by decide +kernel
theorem dX6_inPart_12 : decode cX6_inPart 12 = .ok (.aload_n 0, 1) := by decide +kernel
theorem dX6_inPart_13 : decode cX6_inPart 13 = .ok (.getfield 26, 3) := by decide +kernel
theorem dX6_inPart_16 : decode cX6_inPart 16 = .ok (.iload_n 3, 1) := by decide +kernel
theorem dX6_inPart_17 : decode cX6_inPart 17 = .ok (.iaload, 1) := by decide +kernel
theorem dX6_inPart_18 : decode cX6_inPart 18 = .ok (.iload_n 1, 1) := by decide +kernel
theorem dX6_inPart_19 : decode cX6_inPart 19 = .ok (.if_icmp .ne 9, 3) := by decide +kernel
theorem dX6_inPart_22 : decode cX6_inPart 22 = .ok (.iload_n 2, 1) := by decide +kernel
theorem dX6_inPart_23 : decode cX6_inPart 23 = .ok (.iconst 1, 1) := by decide +kernel
theorem dX6_inPart_24 : decode cX6_inPart 24 = .ok (.iadd, 1) := by decide +kernel
theorem dX6_inPart_25 : decode cX6_inPart 25 = .ok (.goto 4, 3) := by decide +kernel
theorem dX6_inPart_28 : decode cX6_inPart 28 = .ok (.iload_n 2, 1) := by decide +kernel
theorem dX6_inPart_29 : decode cX6_inPart 29 = .ok (.istore_n 2, 1) := by decide +kernel
theorem dX6_inPart_30 : decode cX6_inPart 30 = .ok (.iinc 3 1, 3) := by decide +kernel
theorem dX6_inPart_33 : decode cX6_inPart 33 = .ok (.goto (-29), 3) := by decide +kernel
theorem dX6_inPart_36 : decode cX6_inPart 36 = .ok (.iconst 0, 1) := by decide +kernel
theorem dX6_inPart_37 : decode cX6_inPart 37 = .ok (.istore_n 3, 1) := by decide +kernel
theorem dX6_inPart_38 : decode cX6_inPart 38 = .ok (.iload_n 3, 1) := by decide +kernel
theorem dX6_inPart_39 : decode cX6_inPart 39 = .ok (.aload_n 0, 1) := by decide +kernel
theorem dX6_inPart_40 : decode cX6_inPart 40 = .ok (.getfield 129, 3) := by decide +kernel
theorem dX6_inPart_43 : decode cX6_inPart 43 = .ok (.if_icmp .ge 27, 3) := by decide +kernel
theorem dX6_inPart_46 : decode cX6_inPart 46 = .ok (.aload_n 0, 1) := by decide +kernel
theorem dX6_inPart_47 : decode cX6_inPart 47 = .ok (.getfield 29, 3) := by decide +kernel
theorem dX6_inPart_50 : decode cX6_inPart 50 = .ok (.iload_n 3, 1) := by decide +kernel
theorem dX6_inPart_51 : decode cX6_inPart 51 = .ok (.iaload, 1) := by decide +kernel
theorem dX6_inPart_52 : decode cX6_inPart 52 = .ok (.iload_n 1, 1) := by decide +kernel
theorem dX6_inPart_53 : decode cX6_inPart 53 = .ok (.if_icmp .ne 9, 3) := by decide +kernel
theorem dX6_inPart_56 : decode cX6_inPart 56 = .ok (.iload_n 2, 1) := by decide +kernel
theorem dX6_inPart_57 : decode cX6_inPart 57 = .ok (.iconst 1, 1) := by decide +kernel
theorem dX6_inPart_58 : decode cX6_inPart 58 = .ok (.iadd, 1) := by decide +kernel
theorem dX6_inPart_59 : decode cX6_inPart 59 = .ok (.goto 4, 3) := by decide +kernel
theorem dX6_inPart_62 : decode cX6_inPart 62 = .ok (.iload_n 2, 1) := by decide +kernel
theorem dX6_inPart_63 : decode cX6_inPart 63 = .ok (.istore_n 2, 1) := by decide +kernel
theorem dX6_inPart_64 : decode cX6_inPart 64 = .ok (.iinc 3 1, 3) := by decide +kernel
theorem dX6_inPart_67 : decode cX6_inPart 67 = .ok (.goto (-29), 3) := by decide +kernel
theorem dX6_inPart_70 : decode cX6_inPart 70 = .ok (.iload_n 2, 1) := by decide +kernel
theorem dX6_inPart_71 : decode cX6_inPart 71 = .ok (.ireturn, 1) := by decide +kernel
theorem dX6_count_0 : decode cX6_count 0 = .ok (.iload_n 1, 1) := by decide +kernel
theorem dX6_count_1 : decode cX6_count 1 = .ok (.ifCond .lt 9, 3) := by decide +kernel
theorem dX6_count_4 : decode cX6_count 4 = .ok (.iload_n 1, 1) := by decide +kernel
theorem dX6_count_5 : decode cX6_count 5 = .ok (.bipush 11, 2) := by decide +kernel
theorem dX6_count_7 : decode cX6_count 7 = .ok (.if_icmp .le 5, 3) := by decide +kernel
theorem dX6_count_10 : decode cX6_count 10 = .ok (.iconst (-1), 1) := by decide +kernel
theorem dX6_count_11 : decode cX6_count 11 = .ok (.ireturn, 1) := by decide +kernel
theorem dX6_count_12 : decode cX6_count 12 = .ok (.iload_n 1, 1) := by decide +kernel
theorem dX6_count_13 : decode cX6_count 13 = .ok (.bipush 8, 2) := by decide +kernel
theorem dX6_count_15 : decode cX6_count 15 = .ok (.if_icmp .le 10, 3) := by decide +kernel
theorem dX6_count_18 : decode cX6_count 18 = .ok (.aload_n 0, 1) := by decide +kernel
theorem dX6_count_19 : decode cX6_count 19 = .ok (.invokevirtual 164, 3) := by decide +kernel
theorem dX6_count_22 : decode cX6_count 22 = .ok (.goto 7, 3) := by decide +kernel
theorem dX6_count_25 : decode cX6_count 25 = .ok (.aload_n 0, 1) := by decide +kernel
theorem dX6_count_26 : decode cX6_count 26 = .ok (.invokevirtual 167, 3) := by decide +kernel
theorem dX6_count_29 : decode cX6_count 29 = .ok (.iload_n 1, 1) := by decide +kernel
theorem dX6_count_30 : decode cX6_count 30 = .ok (.tableswitch 111 0 10 #[58, 63, 68, 73, 78, 88, 88, 88, 96, 101, 106], 58) := by decide +kernel
theorem dX6_count_88 : decode cX6_count 88 = .ok (.aload_n 0, 1) := by decide +kernel
theorem dX6_count_89 : decode cX6_count 89 = .ok (.getfield 126, 3) := by decide +kernel
theorem dX6_count_92 : decode cX6_count 92 = .ok (.ireturn, 1) := by decide +kernel
theorem dX6_count_93 : decode cX6_count 93 = .ok (.aload_n 0, 1) := by decide +kernel
theorem dX6_count_94 : decode cX6_count 94 = .ok (.getfield 129, 3) := by decide +kernel
theorem dX6_count_97 : decode cX6_count 97 = .ok (.ireturn, 1) := by decide +kernel
theorem dX6_count_98 : decode cX6_count 98 = .ok (.aload_n 0, 1) := by decide +kernel
theorem dX6_count_99 : decode cX6_count 99 = .ok (.invokevirtual 170, 3) := by decide +kernel
theorem dX6_count_102 : decode cX6_count 102 = .ok (.ireturn, 1) := by decide +kernel
theorem dX6_count_103 : decode cX6_count 103 = .ok (.aload_n 0, 1) := by decide +kernel
theorem dX6_count_104 : decode cX6_count 104 = .ok (.getfield 143, 3) := by decide +kernel
theorem dX6_count_107 : decode cX6_count 107 = .ok (.ireturn, 1) := by decide +kernel
theorem dX6_count_108 : decode cX6_count 108 = .ok (.aload_n 0, 1) := by decide +kernel
theorem dX6_count_109 : decode cX6_count 109 = .ok (.getfield 126, 3) := by decide +kernel
theorem dX6_count_112 : decode cX6_count 112 = .ok (.aload_n 0, 1) := by decide +kernel
theorem dX6_count_113 : decode cX6_count 113 = .ok (.getfield 143, 3) := by decide +kernel
theorem dX6_count_116 : decode cX6_count 116 = .ok (.isub, 1) := by decide +kernel
theorem dX6_count_117 : decode cX6_count 117 = .ok (.ireturn, 1) := by decide +kernel
theorem dX6_count_118 : decode cX6_count 118 = .ok (.aload_n 0, 1) := by decide +kernel
theorem dX6_count_119 : decode cX6_count 119 = .ok (.iload_n 1, 1) := by decide +kernel
theorem dX6_count_120 : decode cX6_count 120 = .ok (.iconst 5, 1) := by decide +kernel
theorem dX6_count_121 : decode cX6_count 121 = .ok (.isub, 1) := by decide +kernel
theorem dX6_count_122 : decode cX6_count 122 = .ok (.invokevirtual 173, 3) := by decide +kernel
theorem dX6_count_125 : decode cX6_count 125 = .ok (.ireturn, 1) := by decide +kernel
theorem dX6_count_126 : decode cX6_count 126 = .ok (.aload_n 0, 1) := by decide +kernel
theorem dX6_count_127 : decode cX6_count 127 = .ok (.getfield 159, 3) := by decide +kernel
theorem dX6_count_130 : decode cX6_count 130 = .ok (.ireturn, 1) := by decide +kernel
theorem dX6_count_131 : decode cX6_count 131 = .ok (.aload_n 0, 1) := by decide +kernel
theorem dX6_count_132 : decode cX6_count 132 = .ok (.getfield 177, 3) := by decide +kernel
theorem dX6_count_135 : decode cX6_count 135 = .ok (.ireturn, 1) := by decide +kernel
theorem dX6_count_136 : decode cX6_count 136 = .ok (.aload_n 0, 1) := by decide +kernel
theorem dX6_count_137 : decode cX6_count 137 = .ok (.getfield 180, 3) := by decide +kernel
theorem dX6_count_140 : decode cX6_count 140 = .ok (.ireturn, 1) := by decide +kernel
theorem dX6_count_141 : decode cX6_count 141 = .ok (.iconst 0, 1) := by decide +kernel
theorem dX6_count_142 : decode cX6_count 142 = .ok (.istore_n 2, 1) := by decide +kernel
theorem dX6_count_143 : decode cX6_count 143 = .ok (.iconst 0, 1) := by decide +kernel
theorem dX6_count_144 : decode cX6_count 144 = .ok (.istore_n 3, 1) := by decide +kernel
theorem dX6_count_145 : decode cX6_count 145 = .ok (.iload_n 3, 1) := by decide +kernel
theorem dX6_count_146 : decode cX6_count 146 = .ok (.aload_n 0, 1) := by decide +kernel
theorem dX6_count_147 : decode cX6_count 147 = .ok (.getfield 177, 3) := by decide +kernel
theorem dX6_count_150 : decode cX6_count 150 = .ok (.if_icmp .ge 34, 3) := by decide +kernel
theorem dX6_count_153 : decode cX6_count 153 = .ok (.aload_n 0, 1) := by decide +kernel
theorem dX6_count_154 : decode cX6_count 154 = .ok (.getfield 52, 3) := by decide +kernel
theorem dX6_count_157 : decode cX6_count 157 = .ok (.iload_n 3, 1) := by decide +kernel
theorem dX6_count_158 : decode cX6_count 158 = .ok (.iaload, 1) := by decide +kernel
theorem dX6_count_159 : decode cX6_count 159 = .ok (.iconst 1, 1) := by decide +kernel
theorem dX6_count_160 : decode cX6_count 160 = .ok (.iadd, 1) := by decide +kernel
theorem dX6_count_161 : decode cX6_count 161 = .ok (.iload_n 2, 1) := by decide +kernel
theorem dX6_count_162 : decode cX6_count 162 = .ok (.if_icmp .le 14, 3) := by decide +kernel
theorem dX6_count_165 : decode cX6_count 165 = .ok (.aload_n 0, 1) := by decide +kernel
theorem dX6_count_166 : decode cX6_count 166 = .ok (.getfield 52, 3) := by decide +kernel
theorem dX6_count_169 : decode cX6_count 169 = .ok (.iload_n 3, 1) := by decide +kernel
theorem dX6_count_170 : decode cX6_count 170 = .ok (.iaload, 1) := by decide +kernel
theorem dX6_count_171 : decode cX6_count 171 = .ok (.iconst 1, 1) := by decide +kernel
theorem dX6_count_172 : decode cX6_count 172 = .ok (.iadd, 1) := by decide +kernel
theorem dX6_count_173 : decode cX6_count 173 = .ok (.goto 4, 3) := by decide +kernel
theorem dX6_count_176 : decode cX6_count 176 = .ok (.iload_n 2, 1) := by decide +kernel
theorem dX6_count_177 : decode cX6_count 177 = .ok (.istore_n 2, 1) := by decide +kernel
theorem dX6_count_178 : decode cX6_count 178 = .ok (.iinc 3 1, 3) := by decide +kernel
theorem dX6_count_181 : decode cX6_count 181 = .ok (.goto (-36), 3) := by decide +kernel
theorem dX6_count_184 : decode cX6_count 184 = .ok (.iload_n 2, 1) := by decide +kernel
theorem dX6_count_185 : decode cX6_count 185 = .ok (.ireturn, 1) := by decide +kernel
theorem dX6_has_0 : decode cX6_has 0 = .ok (.aload_n 0, 1) := by decide +kernel
theorem dX6_has_1 : decode cX6_has 1 = .ok (.iconst 0, 1) := by decide +kernel
theorem dX6_has_2 : decode cX6_has 2 = .ok (.iload_n 1, 1) := by decide +kernel
theorem dX6_has_3 : decode cX6_has 3 = .ok (.invokevirtual 161, 3) := by decide +kernel
theorem dX6_has_6 : decode cX6_has 6 = .ok (.ifCond .eq 30, 3) := by decide +kernel
theorem dX6_has_9 : decode cX6_has 9 = .ok (.aload_n 0, 1) := by decide +kernel
theorem dX6_has_10 : decode cX6_has 10 = .ok (.iconst 1, 1) := by decide +kernel
theorem dX6_has_11 : decode cX6_has 11 = .ok (.iload_n 2, 1) := by decide +kernel
theorem dX6_has_12 : decode cX6_has 12 = .ok (.invokevirtual 161, 3) := by decide +kernel
theorem dX6_has_15 : decode cX6_has 15 = .ok (.ifCond .eq 21, 3) := by decide +kernel
theorem dX6_has_18 : decode cX6_has 18 = .ok (.aload_n 0, 1) := by decide +kernel
theorem dX6_has_19 : decode cX6_has 19 = .ok (.getfield 7, 3) := by decide +kernel
theorem dX6_has_22 : decode cX6_has 22 = .ok (.bipush 50, 2) := by decide +kernel
theorem dX6_has_24 : decode cX6_has 24 = .ok (.iload_n 1, 1) := by decide +kernel
theorem dX6_has_25 : decode cX6_has 25 = .ok (.imul, 1) := by decide +kernel
theorem dX6_has_26 : decode cX6_has 26 = .ok (.iload_n 2, 1) := by decide +kernel
theorem dX6_has_27 : decode cX6_has 27 = .ok (.iadd, 1) := by decide +kernel
theorem dX6_has_28 : decode cX6_has 28 = .ok (.baload, 1) := by decide +kernel
theorem dX6_has_29 : decode cX6_has 29 = .ok (.ifCond .eq 7, 3) := by decide +kernel
theorem dX6_has_32 : decode cX6_has 32 = .ok (.iconst 1, 1) := by decide +kernel
theorem dX6_has_33 : decode cX6_has 33 = .ok (.goto 4, 3) := by decide +kernel
theorem dX6_has_36 : decode cX6_has 36 = .ok (.iconst 0, 1) := by decide +kernel
theorem dX6_has_37 : decode cX6_has 37 = .ok (.ireturn, 1) := by decide +kernel
theorem dX6_partner_0 : decode cX6_partner 0 = .ok (.aload_n 0, 1) := by decide +kernel
theorem dX6_partner_1 : decode cX6_partner 1 = .ok (.iload_n 1, 1) := by decide +kernel
theorem dX6_partner_2 : decode cX6_partner 2 = .ok (.iload_n 2, 1) := by decide +kernel
theorem dX6_partner_3 : decode cX6_partner 3 = .ok (.invokevirtual 161, 3) := by decide +kernel
theorem dX6_partner_6 : decode cX6_partner 6 = .ok (.ifCond .ne 5, 3) := by decide +kernel
theorem dX6_partner_9 : decode cX6_partner 9 = .ok (.iconst (-1), 1) := by decide +kernel
theorem dX6_partner_10 : decode cX6_partner 10 = .ok (.ireturn, 1) := by decide +kernel
theorem dX6_partner_11 : decode cX6_partner 11 = .ok (.aload_n 0, 1) := by decide +kernel
theorem dX6_partner_12 : decode cX6_partner 12 = .ok (.invokevirtual 167, 3) := by decide +kernel
theorem dX6_partner_15 : decode cX6_partner 15 = .ok (.iload_n 1, 1) := by decide +kernel
theorem dX6_partner_16 : decode cX6_partner 16 = .ok (.ifCond .ne 12, 3) := by decide +kernel
theorem dX6_partner_19 : decode cX6_partner 19 = .ok (.aload_n 0, 1) := by decide +kernel
theorem dX6_partner_20 : decode cX6_partner 20 = .ok (.getfield 13, 3) := by decide +kernel
theorem dX6_partner_23 : decode cX6_partner 23 = .ok (.iload_n 2, 1) := by decide +kernel
theorem dX6_partner_24 : decode cX6_partner 24 = .ok (.iaload, 1) := by decide +kernel
theorem dX6_partner_25 : decode cX6_partner 25 = .ok (.goto 9, 3) := by decide +kernel
theorem dX6_partner_28 : decode cX6_partner 28 = .ok (.aload_n 0, 1) := by decide +kernel
theorem dX6_partner_29 : decode cX6_partner 29 = .ok (.getfield 17, 3) := by decide +kernel
theorem dX6_partner_32 : decode cX6_partner 32 = .ok (.iload_n 2, 1) := by decide +kernel
theorem dX6_partner_33 : decode cX6_partner 33 = .ok (.iaload, 1) := by decide +kernel
theorem dX6_partner_34 : decode cX6_partner 34 = .ok (.istore_n 3, 1) := by decide +kernel
theorem dX6_partner_35 : decode cX6_partner 35 = .ok (.iload_n 3, 1) := by decide +kernel
theorem dX6_partner_36 : decode cX6_partner 36 = .ok (.ifCond .ge 8, 3) := by decide +kernel
theorem dX6_partner_39 : decode cX6_partner 39 = .ok (.bipush (-3), 2) := by decide +kernel
theorem dX6_partner_41 : decode cX6_partner 41 = .ok (.goto 4, 3) := by decide +kernel
theorem dX6_partner_44 : decode cX6_partner 44 = .ok (.iload_n 3, 1) := by decide +kernel
theorem dX6_partner_45 : decode cX6_partner 45 = .ok (.ireturn, 1) := by decide +kernel
theorem dX6_edgeIs_0 : decode cX6_edgeIs 0 = .ok (.aload_n 0, 1) := by decide +kernel
theorem dX6_edgeIs_1 : decode cX6_edgeIs 1 = .ok (.iload_n 1, 1) := by decide +kernel
theorem dX6_edgeIs_2 : decode cX6_edgeIs 2 = .ok (.iload_n 2, 1) := by decide +kernel
theorem dX6_edgeIs_3 : decode cX6_edgeIs 3 = .ok (.invokevirtual 183, 3) := by decide +kernel
theorem dX6_edgeIs_6 : decode cX6_edgeIs 6 = .ok (.ifCond .ne 5, 3) := by decide +kernel
theorem dX6_edgeIs_9 : decode cX6_edgeIs 9 = .ok (.iconst (-1), 1) := by decide +kernel
theorem dX6_edgeIs_10 : decode cX6_edgeIs 10 = .ok (.ireturn, 1) := by decide +kernel
theorem dX6_edgeIs_11 : decode cX6_edgeIs 11 = .ok (.aload_n 0, 1) := by decide +kernel
theorem dX6_edgeIs_12 : decode cX6_edgeIs 12 = .ok (.invokevirtual 167, 3) := by decide +kernel
theorem dX6_edgeIs_15 : decode cX6_edgeIs 15 = .ok (.aload_n 0, 1) := by decide +kernel
theorem dX6_edgeIs_16 : decode cX6_edgeIs 16 = .ok (.aload_n 0, 1) := by decide +kernel
theorem dX6_edgeIs_17 : decode cX6_edgeIs 17 = .ok (.getfield 7, 3) := by decide +kernel
theorem dX6_edgeIs_20 : decode cX6_edgeIs 20 = .ok (.aload_n 0, 1) := by decide +kernel
theorem dX6_edgeIs_21 : decode cX6_edgeIs 21 = .ok (.getfield 126, 3) := by decide +kernel
theorem dX6_edgeIs_24 : decode cX6_edgeIs 24 = .ok (.aload_n 0, 1) := by decide +kernel
theorem dX6_edgeIs_25 : decode cX6_edgeIs 25 = .ok (.getfield 129, 3) := by decide +kernel
theorem dX6_edgeIs_28 : decode cX6_edgeIs 28 = .ok (.invokevirtual 132, 3) := by decide +kernel
theorem dX6_edgeIs_31 : decode cX6_edgeIs 31 = .ok (.aload_n 0, 1) := by decide +kernel
theorem dX6_edgeIs_32 : decode cX6_edgeIs 32 = .ok (.invokevirtual 136, 3) := by decide +kernel
theorem dX6_edgeIs_35 : decode cX6_edgeIs 35 = .ok (.istore_n 3, 1) := by decide +kernel
theorem dX6_edgeIs_36 : decode cX6_edgeIs 36 = .ok (.aload_n 0, 1) := by decide +kernel
theorem dX6_edgeIs_37 : decode cX6_edgeIs 37 = .ok (.iload_n 1, 1) := by decide +kernel
theorem dX6_edgeIs_38 : decode cX6_edgeIs 38 = .ok (.iload_n 2, 1) := by decide +kernel
theorem dX6_edgeIs_39 : decode cX6_edgeIs 39 = .ok (.invokevirtual 118, 3) := by decide +kernel
theorem dX6_edgeIs_42 : decode cX6_edgeIs 42 = .ok (.ifCond .ne 5, 3) := by decide +kernel
theorem dX6_edgeIs_45 : decode cX6_edgeIs 45 = .ok (.iconst 0, 1) := by decide +kernel
theorem dX6_edgeIs_46 : decode cX6_edgeIs 46 = .ok (.ireturn, 1) := by decide +kernel
theorem dX6_edgeIs_47 : decode cX6_edgeIs 47 = .ok (.aload_n 0, 1) := by decide +kernel
theorem dX6_edgeIs_48 : decode cX6_edgeIs 48 = .ok (.getfield 64, 3) := by decide +kernel
theorem dX6_edgeIs_51 : decode cX6_edgeIs 51 = .ok (.bipush 50, 2) := by decide +kernel
theorem dX6_edgeIs_53 : decode cX6_edgeIs 53 = .ok (.iload_n 1, 1) := by decide +kernel
theorem dX6_edgeIs_54 : decode cX6_edgeIs 54 = .ok (.imul, 1) := by decide +kernel
theorem dX6_edgeIs_55 : decode cX6_edgeIs 55 = .ok (.iload_n 2, 1) := by decide +kernel
theorem dX6_edgeIs_56 : decode cX6_edgeIs 56 = .ok (.iadd, 1) := by decide +kernel
theorem dX6_edgeIs_57 : decode cX6_edgeIs 57 = .ok (.iconst 0, 1) := by decide +kernel
theorem dX6_edgeIs_58 : decode cX6_edgeIs 58 = .ok (.bastore, 1) := by decide +kernel
theorem dX6_edgeIs_59 : decode cX6_edgeIs 59 = .ok (.aload_n 0, 1) := by decide +kernel
theorem dX6_edgeIs_60 : decode cX6_edgeIs 60 = .ok (.getfield 73, 3) := by decide +kernel
theorem dX6_edgeIs_63 : decode cX6_edgeIs 63 = .ok (.iload_n 1, 1) := by decide +kernel
theorem dX6_edgeIs_64 : decode cX6_edgeIs 64 = .ok (.iconst (-1), 1) := by decide +kernel
theorem dX6_edgeIs_65 : decode cX6_edgeIs 65 = .ok (.iastore, 1) := by decide +kernel
theorem dX6_edgeIs_66 : decode cX6_edgeIs 66 = .ok (.aload_n 0, 1) := by decide +kernel
theorem dX6_edgeIs_67 : decode cX6_edgeIs 67 = .ok (.getfield 76, 3) := by decide +kernel
theorem dX6_edgeIs_70 : decode cX6_edgeIs 70 = .ok (.iload_n 2, 1) := by decide +kernel
