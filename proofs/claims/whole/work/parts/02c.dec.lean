theorem dX4_waysToChoose_130 : decode cX4_waysToChoose 130 = .ok (.iconst 1, 1) := by decide +kernel
theorem dX4_waysToChoose_131 : decode cX4_waysToChoose 131 = .ok (.istore 9, 2) := by decide +kernel
theorem dX4_waysToChoose_133 : decode cX4_waysToChoose 133 = .ok (.iload 9, 2) := by decide +kernel
theorem dX4_waysToChoose_135 : decode cX4_waysToChoose 135 = .ok (.iload_n 3, 1) := by decide +kernel
theorem dX4_waysToChoose_136 : decode cX4_waysToChoose 136 = .ok (.if_icmp .ge 40, 3) := by decide +kernel
theorem dX4_waysToChoose_139 : decode cX4_waysToChoose 139 = .ok (.iload 8, 2) := by decide +kernel
theorem dX4_waysToChoose_141 : decode cX4_waysToChoose 141 = .ok (.iload 9, 2) := by decide +kernel
theorem dX4_waysToChoose_143 : decode cX4_waysToChoose 143 = .ok (.iand, 1) := by decide +kernel
theorem dX4_waysToChoose_144 : decode cX4_waysToChoose 144 = .ok (.ifCond .eq 23, 3) := by decide +kernel
theorem dX4_waysToChoose_147 : decode cX4_waysToChoose 147 = .ok (.aload_n 0, 1) := by decide +kernel
theorem dX4_waysToChoose_148 : decode cX4_waysToChoose 148 = .ok (.getfield 27, 3) := by decide +kernel
theorem dX4_waysToChoose_151 : decode cX4_waysToChoose 151 = .ok (.iload 6, 2) := by decide +kernel
theorem dX4_waysToChoose_153 : decode cX4_waysToChoose 153 = .ok (.iload 9, 2) := by decide +kernel
theorem dX4_waysToChoose_155 : decode cX4_waysToChoose 155 = .ok (.ior, 1) := by decide +kernel
theorem dX4_waysToChoose_156 : decode cX4_waysToChoose 156 = .ok (.dup2, 1) := by decide +kernel
theorem dX4_waysToChoose_157 : decode cX4_waysToChoose 157 = .ok (.laload, 1) := by decide +kernel
theorem dX4_waysToChoose_158 : decode cX4_waysToChoose 158 = .ok (.aload_n 0, 1) := by decide +kernel
theorem dX4_waysToChoose_159 : decode cX4_waysToChoose 159 = .ok (.getfield 27, 3) := by decide +kernel
theorem dX4_waysToChoose_162 : decode cX4_waysToChoose 162 = .ok (.iload 6, 2) := by decide +kernel
theorem dX4_waysToChoose_164 : decode cX4_waysToChoose 164 = .ok (.laload, 1) := by decide +kernel
theorem dX4_waysToChoose_165 : decode cX4_waysToChoose 165 = .ok (.ladd, 1) := by decide +kernel
theorem dX4_waysToChoose_166 : decode cX4_waysToChoose 166 = .ok (.lastore, 1) := by decide +kernel
theorem dX4_waysToChoose_167 : decode cX4_waysToChoose 167 = .ok (.iload 9, 2) := by decide +kernel
theorem dX4_waysToChoose_169 : decode cX4_waysToChoose 169 = .ok (.iconst 1, 1) := by decide +kernel
theorem dX4_waysToChoose_170 : decode cX4_waysToChoose 170 = .ok (.ishl, 1) := by decide +kernel
theorem dX4_waysToChoose_171 : decode cX4_waysToChoose 171 = .ok (.istore 9, 2) := by decide +kernel
theorem dX4_waysToChoose_173 : decode cX4_waysToChoose 173 = .ok (.goto (-40), 3) := by decide +kernel
theorem dX4_waysToChoose_176 : decode cX4_waysToChoose 176 = .ok (.iinc 6 1, 3) := by decide +kernel
theorem dX4_waysToChoose_179 : decode cX4_waysToChoose 179 = .ok (.goto (-118), 3) := by decide +kernel
theorem dX4_waysToChoose_182 : decode cX4_waysToChoose 182 = .ok (.lload 4, 2) := by decide +kernel
theorem dX4_waysToChoose_184 : decode cX4_waysToChoose 184 = .ok (.lreturn, 1) := by decide +kernel
theorem dX5_init_0 : decode cX5_init 0 = .ok (.aload_n 0, 1) := by decide +kernel
theorem dX5_init_1 : decode cX5_init 1 = .ok (.invokespecial 1, 3) := by decide +kernel
theorem dX5_init_4 : decode cX5_init 4 = .ok (.aload_n 0, 1) := by decide +kernel
theorem dX5_init_5 : decode cX5_init 5 = .ok (.new 7, 3) := by decide +kernel
theorem dX5_init_8 : decode cX5_init 8 = .ok (.dup, 1) := by decide +kernel
theorem dX5_init_9 : decode cX5_init 9 = .ok (.bipush 50, 2) := by decide +kernel
theorem dX5_init_11 : decode cX5_init 11 = .ok (.invokespecial 11, 3) := by decide +kernel
theorem dX5_init_14 : decode cX5_init 14 = .ok (.putfield 14, 3) := by decide +kernel
theorem dX5_init_17 : decode cX5_init 17 = .ok (.aload_n 0, 1) := by decide +kernel
theorem dX5_init_18 : decode cX5_init 18 = .ok (.new 18, 3) := by decide +kernel
theorem dX5_init_21 : decode cX5_init 21 = .ok (.dup, 1) := by decide +kernel
theorem dX5_init_22 : decode cX5_init 22 = .ok (.aload_n 0, 1) := by decide +kernel
theorem dX5_init_23 : decode cX5_init 23 = .ok (.getfield 14, 3) := by decide +kernel
theorem dX5_init_26 : decode cX5_init 26 = .ok (.invokespecial 20, 3) := by decide +kernel
theorem dX5_init_29 : decode cX5_init 29 = .ok (.putfield 23, 3) := by decide +kernel
theorem dX5_init_32 : decode cX5_init 32 = .ok (.aload_n 0, 1) := by decide +kernel
theorem dX5_init_33 : decode cX5_init 33 = .ok (.new 27, 3) := by decide +kernel
theorem dX5_init_36 : decode cX5_init 36 = .ok (.dup, 1) := by decide +kernel
theorem dX5_init_37 : decode cX5_init 37 = .ok (.aload_n 0, 1) := by decide +kernel
theorem dX5_init_38 : decode cX5_init 38 = .ok (.getfield 14, 3) := by decide +kernel
theorem dX5_init_41 : decode cX5_init 41 = .ok (.aload_n 0, 1) := by decide +kernel
theorem dX5_init_42 : decode cX5_init 42 = .ok (.getfield 23, 3) := by decide +kernel
theorem dX5_init_45 : decode cX5_init 45 = .ok (.invokespecial 29, 3) := by decide +kernel
theorem dX5_init_48 : decode cX5_init 48 = .ok (.putfield 32, 3) := by decide +kernel
theorem dX5_init_51 : decode cX5_init 51 = .ok (.aload_n 0, 1) := by decide +kernel
theorem dX5_init_52 : decode cX5_init 52 = .ok (.new 36, 3) := by decide +kernel
theorem dX5_init_55 : decode cX5_init 55 = .ok (.dup, 1) := by decide +kernel
theorem dX5_init_56 : decode cX5_init 56 = .ok (.aload_n 0, 1) := by decide +kernel
theorem dX5_init_57 : decode cX5_init 57 = .ok (.getfield 14, 3) := by decide +kernel
theorem dX5_init_60 : decode cX5_init 60 = .ok (.aload_n 0, 1) := by decide +kernel
theorem dX5_init_61 : decode cX5_init 61 = .ok (.getfield 32, 3) := by decide +kernel
theorem dX5_init_64 : decode cX5_init 64 = .ok (.invokespecial 38, 3) := by decide +kernel
theorem dX5_init_67 : decode cX5_init 67 = .ok (.putfield 41, 3) := by decide +kernel
theorem dX5_init_70 : decode cX5_init 70 = .ok (.aload_n 0, 1) := by decide +kernel
theorem dX5_init_71 : decode cX5_init 71 = .ok (.new 7, 3) := by decide +kernel
theorem dX5_init_74 : decode cX5_init 74 = .ok (.dup, 1) := by decide +kernel
theorem dX5_init_75 : decode cX5_init 75 = .ok (.bipush 40, 2) := by decide +kernel
theorem dX5_init_77 : decode cX5_init 77 = .ok (.invokespecial 11, 3) := by decide +kernel
theorem dX5_init_80 : decode cX5_init 80 = .ok (.putfield 45, 3) := by decide +kernel
theorem dX5_init_83 : decode cX5_init 83 = .ok (.aload_n 0, 1) := by decide +kernel
theorem dX5_init_84 : decode cX5_init 84 = .ok (.new 18, 3) := by decide +kernel
theorem dX5_init_87 : decode cX5_init 87 = .ok (.dup, 1) := by decide +kernel
theorem dX5_init_88 : decode cX5_init 88 = .ok (.aload_n 0, 1) := by decide +kernel
theorem dX5_init_89 : decode cX5_init 89 = .ok (.getfield 45, 3) := by decide +kernel
theorem dX5_init_92 : decode cX5_init 92 = .ok (.invokespecial 20, 3) := by decide +kernel
theorem dX5_init_95 : decode cX5_init 95 = .ok (.putfield 48, 3) := by decide +kernel
theorem dX5_init_98 : decode cX5_init 98 = .ok (.aload_n 0, 1) := by decide +kernel
theorem dX5_init_99 : decode cX5_init 99 = .ok (.new 51, 3) := by decide +kernel
theorem dX5_init_102 : decode cX5_init 102 = .ok (.dup, 1) := by decide +kernel
theorem dX5_init_103 : decode cX5_init 103 = .ok (.aload_n 0, 1) := by decide +kernel
theorem dX5_init_104 : decode cX5_init 104 = .ok (.getfield 45, 3) := by decide +kernel
theorem dX5_init_107 : decode cX5_init 107 = .ok (.aload_n 0, 1) := by decide +kernel
theorem dX5_init_108 : decode cX5_init 108 = .ok (.getfield 48, 3) := by decide +kernel
theorem dX5_init_111 : decode cX5_init 111 = .ok (.invokespecial 53, 3) := by decide +kernel
theorem dX5_init_114 : decode cX5_init 114 = .ok (.putfield 54, 3) := by decide +kernel
theorem dX5_init_117 : decode cX5_init 117 = .ok (.return_, 1) := by decide +kernel
theorem dX5_node_0 : decode cX5_node 0 = .ok (.aload_n 0, 1) := by decide +kernel
theorem dX5_node_1 : decode cX5_node 1 = .ok (.getfield 14, 3) := by decide +kernel
theorem dX5_node_4 : decode cX5_node 4 = .ok (.iload_n 1, 1) := by decide +kernel
theorem dX5_node_5 : decode cX5_node 5 = .ok (.invokevirtual 58, 3) := by decide +kernel
theorem dX5_node_8 : decode cX5_node 8 = .ok (.ireturn, 1) := by decide +kernel
theorem dX5_edge_0 : decode cX5_edge 0 = .ok (.aload_n 0, 1) := by decide +kernel
theorem dX5_edge_1 : decode cX5_edge 1 = .ok (.getfield 14, 3) := by decide +kernel
theorem dX5_edge_4 : decode cX5_edge 4 = .ok (.iconst 0, 1) := by decide +kernel
theorem dX5_edge_5 : decode cX5_edge 5 = .ok (.iload_n 1, 1) := by decide +kernel
theorem dX5_edge_6 : decode cX5_edge 6 = .ok (.invokevirtual 62, 3) := by decide +kernel
theorem dX5_edge_9 : decode cX5_edge 9 = .ok (.ifCond .eq 15, 3) := by decide +kernel
theorem dX5_edge_12 : decode cX5_edge 12 = .ok (.aload_n 0, 1) := by decide +kernel
theorem dX5_edge_13 : decode cX5_edge 13 = .ok (.getfield 14, 3) := by decide +kernel
theorem dX5_edge_16 : decode cX5_edge 16 = .ok (.iconst 1, 1) := by decide +kernel
theorem dX5_edge_17 : decode cX5_edge 17 = .ok (.iload_n 2, 1) := by decide +kernel
theorem dX5_edge_18 : decode cX5_edge 18 = .ok (.invokevirtual 62, 3) := by decide +kernel
theorem dX5_edge_21 : decode cX5_edge 21 = .ok (.ifCond .ne 5, 3) := by decide +kernel
theorem dX5_edge_24 : decode cX5_edge 24 = .ok (.iconst (-1), 1) := by decide +kernel
theorem dX5_edge_25 : decode cX5_edge 25 = .ok (.ireturn, 1) := by decide +kernel
theorem dX5_edge_26 : decode cX5_edge 26 = .ok (.aload_n 0, 1) := by decide +kernel
theorem dX5_edge_27 : decode cX5_edge 27 = .ok (.getfield 14, 3) := by decide +kernel
theorem dX5_edge_30 : decode cX5_edge 30 = .ok (.iload_n 1, 1) := by decide +kernel
theorem dX5_edge_31 : decode cX5_edge 31 = .ok (.iload_n 2, 1) := by decide +kernel
theorem dX5_edge_32 : decode cX5_edge 32 = .ok (.invokevirtual 66, 3) := by decide +kernel
theorem dX5_edge_35 : decode cX5_edge 35 = .ok (.iload_n 3, 1) := by decide +kernel
theorem dX5_edge_36 : decode cX5_edge 36 = .ok (.if_icmp .ne 5, 3) := by decide +kernel
theorem dX5_edge_39 : decode cX5_edge 39 = .ok (.iconst 0, 1) := by decide +kernel
theorem dX5_edge_40 : decode cX5_edge 40 = .ok (.ireturn, 1) := by decide +kernel
theorem dX5_edge_41 : decode cX5_edge 41 = .ok (.iload_n 3, 1) := by decide +kernel
theorem dX5_edge_42 : decode cX5_edge 42 = .ok (.ifCond .eq 19, 3) := by decide +kernel
theorem dX5_edge_45 : decode cX5_edge 45 = .ok (.aload_n 0, 1) := by decide +kernel
theorem dX5_edge_46 : decode cX5_edge 46 = .ok (.getfield 14, 3) := by decide +kernel
theorem dX5_edge_49 : decode cX5_edge 49 = .ok (.lconst 1, 1) := by decide +kernel
theorem dX5_edge_50 : decode cX5_edge 50 = .ok (.iload_n 1, 1) := by decide +kernel
theorem dX5_edge_51 : decode cX5_edge 51 = .ok (.lshl, 1) := by decide +kernel
theorem dX5_edge_52 : decode cX5_edge 52 = .ok (.lconst 1, 1) := by decide +kernel
theorem dX5_edge_53 : decode cX5_edge 53 = .ok (.iload_n 2, 1) := by decide +kernel
theorem dX5_edge_54 : decode cX5_edge 54 = .ok (.lshl, 1) := by decide +kernel
theorem dX5_edge_55 : decode cX5_edge 55 = .ok (.invokevirtual 69, 3) := by decide +kernel
theorem dX5_edge_58 : decode cX5_edge 58 = .ok (.goto 12, 3) := by decide +kernel
theorem dX5_edge_61 : decode cX5_edge 61 = .ok (.aload_n 0, 1) := by decide +kernel
theorem dX5_edge_62 : decode cX5_edge 62 = .ok (.getfield 14, 3) := by decide +kernel
theorem dX5_edge_65 : decode cX5_edge 65 = .ok (.iload_n 1, 1) := by decide +kernel
theorem dX5_edge_66 : decode cX5_edge 66 = .ok (.iload_n 2, 1) := by decide +kernel
theorem dX5_edge_67 : decode cX5_edge 67 = .ok (.invokevirtual 73, 3) := by decide +kernel
theorem dX5_edge_70 : decode cX5_edge 70 = .ok (.iconst 1, 1) := by decide +kernel
theorem dX5_edge_71 : decode cX5_edge 71 = .ok (.ireturn, 1) := by decide +kernel
theorem dX5_count_0 : decode cX5_count 0 = .ok (.iload_n 1, 1) := by decide +kernel
theorem dX5_count_1 : decode cX5_count 1 = .ok (.tableswitch 145 0 11 #[63, 72, 81, 145, 145, 145, 145, 145, 145, 89, 98, 98], 63) := by decide +kernel
theorem dX5_count_64 : decode cX5_count 64 = .ok (.aload_n 0, 1) := by decide +kernel
theorem dX5_count_65 : decode cX5_count 65 = .ok (.getfield 14, 3) := by decide +kernel
theorem dX5_count_68 : decode cX5_count 68 = .ok (.iconst 0, 1) := by decide +kernel
theorem dX5_count_69 : decode cX5_count 69 = .ok (.invokevirtual 77, 3) := by decide +kernel
theorem dX5_count_72 : decode cX5_count 72 = .ok (.ireturn, 1) := by decide +kernel
theorem dX5_count_73 : decode cX5_count 73 = .ok (.aload_n 0, 1) := by decide +kernel
theorem dX5_count_74 : decode cX5_count 74 = .ok (.getfield 14, 3) := by decide +kernel
theorem dX5_count_77 : decode cX5_count 77 = .ok (.iconst 1, 1) := by decide +kernel
theorem dX5_count_78 : decode cX5_count 78 = .ok (.invokevirtual 77, 3) := by decide +kernel
theorem dX5_count_81 : decode cX5_count 81 = .ok (.ireturn, 1) := by decide +kernel
theorem dX5_count_82 : decode cX5_count 82 = .ok (.aload_n 0, 1) := by decide +kernel
theorem dX5_count_83 : decode cX5_count 83 = .ok (.getfield 14, 3) := by decide +kernel
theorem dX5_count_86 : decode cX5_count 86 = .ok (.invokevirtual 80, 3) := by decide +kernel
theorem dX5_count_89 : decode cX5_count 89 = .ok (.ireturn, 1) := by decide +kernel
theorem dX5_count_90 : decode cX5_count 90 = .ok (.aload_n 0, 1) := by decide +kernel
theorem dX5_count_91 : decode cX5_count 91 = .ok (.getfield 45, 3) := by decide +kernel
theorem dX5_count_94 : decode cX5_count 94 = .ok (.iconst 0, 1) := by decide +kernel
theorem dX5_count_95 : decode cX5_count 95 = .ok (.invokevirtual 77, 3) := by decide +kernel
theorem dX5_count_98 : decode cX5_count 98 = .ok (.ireturn, 1) := by decide +kernel
theorem dX5_count_99 : decode cX5_count 99 = .ok (.aload_n 0, 1) := by decide +kernel
theorem dX5_count_100 : decode cX5_count 100 = .ok (.getfield 48, 3) := by decide +kernel
theorem dX5_count_103 : decode cX5_count 103 = .ok (.invokevirtual 84, 3) := by decide +kernel
theorem dX5_count_106 : decode cX5_count 106 = .ok (.aload_n 0, 1) := by decide +kernel
theorem dX5_count_107 : decode cX5_count 107 = .ok (.getfield 54, 3) := by decide +kernel
theorem dX5_count_110 : decode cX5_count 110 = .ok (.invokevirtual 87, 3) := by decide +kernel
theorem dX5_count_113 : decode cX5_count 113 = .ok (.iload_n 1, 1) := by decide +kernel
theorem dX5_count_114 : decode cX5_count 114 = .ok (.bipush 10, 2) := by decide +kernel
theorem dX5_count_116 : decode cX5_count 116 = .ok (.if_icmp .ne 22, 3) := by decide +kernel
theorem dX5_count_119 : decode cX5_count 119 = .ok (.aload_n 0, 1) := by decide +kernel
theorem dX5_count_120 : decode cX5_count 120 = .ok (.getfield 45, 3) := by decide +kernel
theorem dX5_count_123 : decode cX5_count 123 = .ok (.iconst 0, 1) := by decide +kernel
theorem dX5_count_124 : decode cX5_count 124 = .ok (.invokevirtual 77, 3) := by decide +kernel
theorem dX5_count_127 : decode cX5_count 127 = .ok (.aload_n 0, 1) := by decide +kernel
theorem dX5_count_128 : decode cX5_count 128 = .ok (.getfield 48, 3) := by decide +kernel
theorem dX5_count_131 : decode cX5_count 131 = .ok (.invokevirtual 88, 3) := by decide +kernel
theorem dX5_count_134 : decode cX5_count 134 = .ok (.isub, 1) := by decide +kernel
theorem dX5_count_135 : decode cX5_count 135 = .ok (.goto 10, 3) := by decide +kernel
theorem dX5_count_138 : decode cX5_count 138 = .ok (.aload_n 0, 1) := by decide +kernel
theorem dX5_count_139 : decode cX5_count 139 = .ok (.getfield 54, 3) := by decide +kernel
theorem dX5_count_142 : decode cX5_count 142 = .ok (.invokevirtual 91, 3) := by decide +kernel
theorem dX5_count_145 : decode cX5_count 145 = .ok (.ireturn, 1) := by decide +kernel
theorem dX5_count_146 : decode cX5_count 146 = .ok (.aload_n 0, 1) := by decide +kernel
theorem dX5_count_147 : decode cX5_count 147 = .ok (.getfield 23, 3) := by decide +kernel
theorem dX5_count_150 : decode cX5_count 150 = .ok (.invokevirtual 84, 3) := by decide +kernel
theorem dX5_count_153 : decode cX5_count 153 = .ok (.aload_n 0, 1) := by decide +kernel
theorem dX5_count_154 : decode cX5_count 154 = .ok (.getfield 32, 3) := by decide +kernel
theorem dX5_count_157 : decode cX5_count 157 = .ok (.invokevirtual 94, 3) := by decide +kernel
theorem dX5_count_160 : decode cX5_count 160 = .ok (.aload_n 0, 1) := by decide +kernel
theorem dX5_count_161 : decode cX5_count 161 = .ok (.iload_n 1, 1) := by decide +kernel
theorem dX5_count_162 : decode cX5_count 162 = .ok (.invokevirtual 95, 3) := by decide +kernel
theorem dX5_count_165 : decode cX5_count 165 = .ok (.ireturn, 1) := by decide +kernel
theorem dX5_countFindings_0 : decode cX5_countFindings 0 = .ok (.iload_n 1, 1) := by decide +kernel
theorem dX5_countFindings_1 : decode cX5_countFindings 1 = .ok (.tableswitch 83 3 8 #[39, 47, 64, 64, 64, 75], 39) := by decide +kernel
theorem dX5_countFindings_40 : decode cX5_countFindings 40 = .ok (.aload_n 0, 1) := by decide +kernel
theorem dX5_countFindings_41 : decode cX5_countFindings 41 = .ok (.getfield 23, 3) := by decide +kernel
theorem dX5_countFindings_44 : decode cX5_countFindings 44 = .ok (.invokevirtual 88, 3) := by decide +kernel
theorem dX5_countFindings_47 : decode cX5_countFindings 47 = .ok (.ireturn, 1) := by decide +kernel
theorem dX5_countFindings_48 : decode cX5_countFindings 48 = .ok (.aload_n 0, 1) := by decide +kernel
theorem dX5_countFindings_49 : decode cX5_countFindings 49 = .ok (.getfield 14, 3) := by decide +kernel
theorem dX5_countFindings_52 : decode cX5_countFindings 52 = .ok (.iconst 0, 1) := by decide +kernel
theorem dX5_countFindings_53 : decode cX5_countFindings 53 = .ok (.invokevirtual 77, 3) := by decide +kernel
theorem dX5_countFindings_56 : decode cX5_countFindings 56 = .ok (.aload_n 0, 1) := by decide +kernel
theorem dX5_countFindings_57 : decode cX5_countFindings 57 = .ok (.getfield 23, 3) := by decide +kernel
theorem dX5_countFindings_60 : decode cX5_countFindings 60 = .ok (.invokevirtual 88, 3) := by decide +kernel
theorem dX5_countFindings_63 : decode cX5_countFindings 63 = .ok (.isub, 1) := by decide +kernel
theorem dX5_countFindings_64 : decode cX5_countFindings 64 = .ok (.ireturn, 1) := by decide +kernel
theorem dX5_countFindings_65 : decode cX5_countFindings 65 = .ok (.aload_n 0, 1) := by decide +kernel
theorem dX5_countFindings_66 : decode cX5_countFindings 66 = .ok (.getfield 23, 3) := by decide +kernel
theorem dX5_countFindings_69 : decode cX5_countFindings 69 = .ok (.iload_n 1, 1) := by decide +kernel
theorem dX5_countFindings_70 : decode cX5_countFindings 70 = .ok (.iconst 5, 1) := by decide +kernel
theorem dX5_countFindings_71 : decode cX5_countFindings 71 = .ok (.isub, 1) := by decide +kernel
theorem dX5_countFindings_72 : decode cX5_countFindings 72 = .ok (.invokevirtual 98, 3) := by decide +kernel
theorem dX5_countFindings_75 : decode cX5_countFindings 75 = .ok (.ireturn, 1) := by decide +kernel
theorem dX5_countFindings_76 : decode cX5_countFindings 76 = .ok (.aload_n 0, 1) := by decide +kernel
theorem dX5_countFindings_77 : decode cX5_countFindings 77 = .ok (.getfield 32, 3) := by decide +kernel
theorem dX5_countFindings_80 : decode cX5_countFindings 80 = .ok (.invokevirtual 101, 3) := by decide +kernel
theorem dX5_countFindings_83 : decode cX5_countFindings 83 = .ok (.ireturn, 1) := by decide +kernel
theorem dX5_countFindings_84 : decode cX5_countFindings 84 = .ok (.iconst (-1), 1) := by decide +kernel
theorem dX5_countFindings_85 : decode cX5_countFindings 85 = .ok (.ireturn, 1) := by decide +kernel
theorem dX5_has_0 : decode cX5_has 0 = .ok (.aload_n 0, 1) := by decide +kernel
theorem dX5_has_1 : decode cX5_has 1 = .ok (.getfield 14, 3) := by decide +kernel
theorem dX5_has_4 : decode cX5_has 4 = .ok (.iload_n 1, 1) := by decide +kernel
theorem dX5_has_5 : decode cX5_has 5 = .ok (.iload_n 2, 1) := by decide +kernel
theorem dX5_has_6 : decode cX5_has 6 = .ok (.invokevirtual 66, 3) := by decide +kernel
theorem dX5_has_9 : decode cX5_has 9 = .ok (.ireturn, 1) := by decide +kernel
theorem dX5_partner_0 : decode cX5_partner 0 = .ok (.aload_n 0, 1) := by decide +kernel
theorem dX5_partner_1 : decode cX5_partner 1 = .ok (.getfield 14, 3) := by decide +kernel
theorem dX5_partner_4 : decode cX5_partner 4 = .ok (.iload_n 1, 1) := by decide +kernel
theorem dX5_partner_5 : decode cX5_partner 5 = .ok (.iload_n 2, 1) := by decide +kernel
theorem dX5_partner_6 : decode cX5_partner 6 = .ok (.invokevirtual 62, 3) := by decide +kernel
theorem dX5_partner_9 : decode cX5_partner 9 = .ok (.ifCond .ne 5, 3) := by decide +kernel
theorem dX5_partner_12 : decode cX5_partner 12 = .ok (.iconst (-1), 1) := by decide +kernel
theorem dX5_partner_13 : decode cX5_partner 13 = .ok (.ireturn, 1) := by decide +kernel
theorem dX5_partner_14 : decode cX5_partner 14 = .ok (.aload_n 0, 1) := by decide +kernel
theorem dX5_partner_15 : decode cX5_partner 15 = .ok (.getfield 23, 3) := by decide +kernel
theorem dX5_partner_18 : decode cX5_partner 18 = .ok (.invokevirtual 84, 3) := by decide +kernel
theorem dX5_partner_21 : decode cX5_partner 21 = .ok (.aload_n 0, 1) := by decide +kernel
theorem dX5_partner_22 : decode cX5_partner 22 = .ok (.getfield 23, 3) := by decide +kernel
theorem dX5_partner_25 : decode cX5_partner 25 = .ok (.iload_n 1, 1) := by decide +kernel
theorem dX5_partner_26 : decode cX5_partner 26 = .ok (.iload_n 2, 1) := by decide +kernel
theorem dX5_partner_27 : decode cX5_partner 27 = .ok (.invokevirtual 104, 3) := by decide +kernel
theorem dX5_partner_30 : decode cX5_partner 30 = .ok (.ireturn, 1) := by decide +kernel
theorem dX5_edgeIs_0 : decode cX5_edgeIs 0 = .ok (.aload_n 0, 1) := by decide +kernel
theorem dX5_edgeIs_1 : decode cX5_edgeIs 1 = .ok (.getfield 14, 3) := by decide +kernel
theorem dX5_edgeIs_4 : decode cX5_edgeIs 4 = .ok (.iload_n 1, 1) := by decide +kernel
theorem dX5_edgeIs_5 : decode cX5_edgeIs 5 = .ok (.iload_n 2, 1) := by decide +kernel
theorem dX5_edgeIs_6 : decode cX5_edgeIs 6 = .ok (.invokevirtual 66, 3) := by decide +kernel
theorem dX5_edgeIs_9 : decode cX5_edgeIs 9 = .ok (.ifCond .ne 5, 3) := by decide +kernel
theorem dX5_edgeIs_12 : decode cX5_edgeIs 12 = .ok (.iconst (-1), 1) := by decide +kernel
theorem dX5_edgeIs_13 : decode cX5_edgeIs 13 = .ok (.ireturn, 1) := by decide +kernel
theorem dX5_edgeIs_14 : decode cX5_edgeIs 14 = .ok (.aload_n 0, 1) := by decide +kernel
theorem dX5_edgeIs_15 : decode cX5_edgeIs 15 = .ok (.getfield 23, 3) := by decide +kernel
theorem dX5_edgeIs_18 : decode cX5_edgeIs 18 = .ok (.invokevirtual 84, 3) := by decide +kernel
theorem dX5_edgeIs_21 : decode cX5_edgeIs 21 = .ok (.aload_n 0, 1) := by decide +kernel
theorem dX5_edgeIs_22 : decode cX5_edgeIs 22 = .ok (.getfield 32, 3) := by decide +kernel
theorem dX5_edgeIs_25 : decode cX5_edgeIs 25 = .ok (.invokevirtual 94, 3) := by decide +kernel
theorem dX5_edgeIs_28 : decode cX5_edgeIs 28 = .ok (.aload_n 0, 1) := by decide +kernel
theorem dX5_edgeIs_29 : decode cX5_edgeIs 29 = .ok (.getfield 32, 3) := by decide +kernel
theorem dX5_edgeIs_32 : decode cX5_edgeIs 32 = .ok (.iload_n 1, 1) := by decide +kernel
theorem dX5_edgeIs_33 : decode cX5_edgeIs 33 = .ok (.invokevirtual 108, 3) := by decide +kernel
theorem dX5_edgeIs_36 : decode cX5_edgeIs 36 = .ok (.iload_n 2, 1) := by decide +kernel
theorem dX5_edgeIs_37 : decode cX5_edgeIs 37 = .ok (.invokestatic 112, 3) := by decide +kernel
theorem dX5_edgeIs_40 : decode cX5_edgeIs 40 = .ok (.ifCond .ne 5, 3) := by decide +kernel
theorem dX5_edgeIs_43 : decode cX5_edgeIs 43 = .ok (.iconst 0, 1) := by decide +kernel
theorem dX5_edgeIs_44 : decode cX5_edgeIs 44 = .ok (.ireturn, 1) := by decide +kernel
theorem dX5_edgeIs_45 : decode cX5_edgeIs 45 = .ok (.aload_n 0, 1) := by decide +kernel
theorem dX5_edgeIs_46 : decode cX5_edgeIs 46 = .ok (.getfield 32, 3) := by decide +kernel
theorem dX5_edgeIs_49 : decode cX5_edgeIs 49 = .ok (.iload_n 1, 1) := by decide +kernel
theorem dX5_edgeIs_50 : decode cX5_edgeIs 50 = .ok (.invokevirtual 116, 3) := by decide +kernel
theorem dX5_edgeIs_53 : decode cX5_edgeIs 53 = .ok (.ifCond .eq 7, 3) := by decide +kernel
theorem dX5_edgeIs_56 : decode cX5_edgeIs 56 = .ok (.iconst 2, 1) := by decide +kernel
theorem dX5_edgeIs_57 : decode cX5_edgeIs 57 = .ok (.goto 4, 3) := by decide +kernel
theorem dX5_edgeIs_60 : decode cX5_edgeIs 60 = .ok (.iconst 1, 1) := by decide +kernel
theorem dX5_edgeIs_61 : decode cX5_edgeIs 61 = .ok (.ireturn, 1) := by decide +kernel
theorem dX5_nodeIs_0 : decode cX5_nodeIs 0 = .ok (.aload_n 0, 1) := by decide +kernel
theorem dX5_nodeIs_1 : decode cX5_nodeIs 1 = .ok (.getfield 14, 3) := by decide +kernel
theorem dX5_nodeIs_4 : decode cX5_nodeIs 4 = .ok (.iload_n 1, 1) := by decide +kernel
theorem dX5_nodeIs_5 : decode cX5_nodeIs 5 = .ok (.iload_n 2, 1) := by decide +kernel
theorem dX5_nodeIs_6 : decode cX5_nodeIs 6 = .ok (.invokevirtual 62, 3) := by decide +kernel
theorem dX5_nodeIs_9 : decode cX5_nodeIs 9 = .ok (.ifCond .ne 5, 3) := by decide +kernel
theorem dX5_nodeIs_12 : decode cX5_nodeIs 12 = .ok (.iconst (-1), 1) := by decide +kernel
theorem dX5_nodeIs_13 : decode cX5_nodeIs 13 = .ok (.ireturn, 1) := by decide +kernel
theorem dX5_nodeIs_14 : decode cX5_nodeIs 14 = .ok (.aload_n 0, 1) := by decide +kernel
theorem dX5_nodeIs_15 : decode cX5_nodeIs 15 = .ok (.getfield 23, 3) := by decide +kernel
theorem dX5_nodeIs_18 : decode cX5_nodeIs 18 = .ok (.invokevirtual 84, 3) := by decide +kernel
theorem dX5_nodeIs_21 : decode cX5_nodeIs 21 = .ok (.iload_n 1, 1) := by decide +kernel
theorem dX5_nodeIs_22 : decode cX5_nodeIs 22 = .ok (.ifCond .ne 7, 3) := by decide +kernel
theorem dX5_nodeIs_25 : decode cX5_nodeIs 25 = .ok (.iconst 0, 1) := by decide +kernel
theorem dX5_nodeIs_26 : decode cX5_nodeIs 26 = .ok (.goto 4, 3) := by decide +kernel
theorem dX5_nodeIs_29 : decode cX5_nodeIs 29 = .ok (.iconst 2, 1) := by decide +kernel
theorem dX5_nodeIs_30 : decode cX5_nodeIs 30 = .ok (.istore_n 3, 1) := by decide +kernel
theorem dX5_nodeIs_31 : decode cX5_nodeIs 31 = .ok (.aload_n 0, 1) := by decide +kernel
theorem dX5_nodeIs_32 : decode cX5_nodeIs 32 = .ok (.getfield 23, 3) := by decide +kernel
theorem dX5_nodeIs_35 : decode cX5_nodeIs 35 = .ok (.iload_n 1, 1) := by decide +kernel
theorem dX5_nodeIs_36 : decode cX5_nodeIs 36 = .ok (.iload_n 2, 1) := by decide +kernel
theorem dX5_nodeIs_37 : decode cX5_nodeIs 37 = .ok (.invokevirtual 120, 3) := by decide +kernel
theorem dX5_nodeIs_40 : decode cX5_nodeIs 40 = .ok (.iload_n 3, 1) := by decide +kernel
theorem dX5_nodeIs_41 : decode cX5_nodeIs 41 = .ok (.if_icmp .ne 7, 3) := by decide +kernel
theorem dX5_nodeIs_44 : decode cX5_nodeIs 44 = .ok (.iconst 0, 1) := by decide +kernel
theorem dX5_nodeIs_45 : decode cX5_nodeIs 45 = .ok (.goto 4, 3) := by decide +kernel
theorem dX5_nodeIs_48 : decode cX5_nodeIs 48 = .ok (.iconst 1, 1) := by decide +kernel
theorem dX5_nodeIs_49 : decode cX5_nodeIs 49 = .ok (.ireturn, 1) := by decide +kernel
theorem dX5_cover_0 : decode cX5_cover 0 = .ok (.iload_n 1, 1) := by decide +kernel
theorem dX5_cover_1 : decode cX5_cover 1 = .ok (.invokestatic 123, 3) := by decide +kernel
theorem dX5_cover_4 : decode cX5_cover 4 = .ok (.ifCond .eq 15, 3) := by decide +kernel
theorem dX5_cover_7 : decode cX5_cover 7 = .ok (.aload_n 0, 1) := by decide +kernel
theorem dX5_cover_8 : decode cX5_cover 8 = .ok (.getfield 14, 3) := by decide +kernel
theorem dX5_cover_11 : decode cX5_cover 11 = .ok (.iload_n 2, 1) := by decide +kernel
theorem dX5_cover_12 : decode cX5_cover 12 = .ok (.iload_n 3, 1) := by decide +kernel
theorem dX5_cover_13 : decode cX5_cover 13 = .ok (.invokevirtual 62, 3) := by decide +kernel
theorem dX5_cover_16 : decode cX5_cover 16 = .ok (.ifCond .ne 5, 3) := by decide +kernel
theorem dX5_cover_19 : decode cX5_cover 19 = .ok (.iconst (-1), 1) := by decide +kernel
theorem dX5_cover_20 : decode cX5_cover 20 = .ok (.ireturn, 1) := by decide +kernel
theorem dX5_cover_21 : decode cX5_cover 21 = .ok (.aload_n 0, 1) := by decide +kernel
theorem dX5_cover_22 : decode cX5_cover 22 = .ok (.getfield 23, 3) := by decide +kernel
theorem dX5_cover_25 : decode cX5_cover 25 = .ok (.invokevirtual 84, 3) := by decide +kernel
theorem dX5_cover_28 : decode cX5_cover 28 = .ok (.aload_n 0, 1) := by decide +kernel
theorem dX5_cover_29 : decode cX5_cover 29 = .ok (.getfield 23, 3) := by decide +kernel
theorem dX5_cover_32 : decode cX5_cover 32 = .ok (.iload_n 1, 1) := by decide +kernel
theorem dX5_cover_33 : decode cX5_cover 33 = .ok (.iload_n 2, 1) := by decide +kernel
theorem dX5_cover_34 : decode cX5_cover 34 = .ok (.iload_n 3, 1) := by decide +kernel
theorem dX5_cover_35 : decode cX5_cover 35 = .ok (.invokevirtual 126, 3) := by decide +kernel
theorem dX5_cover_38 : decode cX5_cover 38 = .ok (.ifCond .eq 7, 3) := by decide +kernel
theorem dX5_cover_41 : decode cX5_cover 41 = .ok (.iconst 1, 1) := by decide +kernel
theorem dX5_cover_42 : decode cX5_cover 42 = .ok (.goto 4, 3) := by decide +kernel
theorem dX5_cover_45 : decode cX5_cover 45 = .ok (.iconst 0, 1) := by decide +kernel
theorem dX5_cover_46 : decode cX5_cover 46 = .ok (.ireturn, 1) := by decide +kernel
theorem dX5_hall_0 : decode cX5_hall 0 = .ok (.iload_n 1, 1) := by decide +kernel
theorem dX5_hall_1 : decode cX5_hall 1 = .ok (.invokestatic 123, 3) := by decide +kernel
theorem dX5_hall_4 : decode cX5_hall 4 = .ok (.ifCond .eq 15, 3) := by decide +kernel
theorem dX5_hall_7 : decode cX5_hall 7 = .ok (.aload_n 0, 1) := by decide +kernel
theorem dX5_hall_8 : decode cX5_hall 8 = .ok (.getfield 14, 3) := by decide +kernel
theorem dX5_hall_11 : decode cX5_hall 11 = .ok (.iconst 0, 1) := by decide +kernel
theorem dX5_hall_12 : decode cX5_hall 12 = .ok (.iload_n 2, 1) := by decide +kernel
theorem dX5_hall_13 : decode cX5_hall 13 = .ok (.invokevirtual 62, 3) := by decide +kernel
theorem dX5_hall_16 : decode cX5_hall 16 = .ok (.ifCond .ne 5, 3) := by decide +kernel
theorem dX5_hall_19 : decode cX5_hall 19 = .ok (.iconst (-1), 1) := by decide +kernel
theorem dX5_hall_20 : decode cX5_hall 20 = .ok (.ireturn, 1) := by decide +kernel
theorem dX5_hall_21 : decode cX5_hall 21 = .ok (.aload_n 0, 1) := by decide +kernel
theorem dX5_hall_22 : decode cX5_hall 22 = .ok (.getfield 23, 3) := by decide +kernel
theorem dX5_hall_25 : decode cX5_hall 25 = .ok (.invokevirtual 84, 3) := by decide +kernel
theorem dX5_hall_28 : decode cX5_hall 28 = .ok (.aload_n 0, 1) := by decide +kernel
theorem dX5_hall_29 : decode cX5_hall 29 = .ok (.getfield 23, 3) := by decide +kernel
theorem dX5_hall_32 : decode cX5_hall 32 = .ok (.iconst 0, 1) := by decide +kernel
theorem dX5_hall_33 : decode cX5_hall 33 = .ok (.iload_n 2, 1) := by decide +kernel
theorem dX5_hall_34 : decode cX5_hall 34 = .ok (.invokevirtual 120, 3) := by decide +kernel
theorem dX5_hall_37 : decode cX5_hall 37 = .ok (.iload_n 1, 1) := by decide +kernel
theorem dX5_hall_38 : decode cX5_hall 38 = .ok (.if_icmp .gt 7, 3) := by decide +kernel
theorem dX5_hall_41 : decode cX5_hall 41 = .ok (.iconst 1, 1) := by decide +kernel
theorem dX5_hall_42 : decode cX5_hall 42 = .ok (.goto 4, 3) := by decide +kernel
theorem dX5_hall_45 : decode cX5_hall 45 = .ok (.iconst 0, 1) := by decide +kernel
theorem dX5_hall_46 : decode cX5_hall 46 = .ok (.ireturn, 1) := by decide +kernel
theorem dX5_part_0 : decode cX5_part 0 = .ok (.aload_n 0, 1) := by decide +kernel
theorem dX5_part_1 : decode cX5_part 1 = .ok (.getfield 14, 3) := by decide +kernel
theorem dX5_part_4 : decode cX5_part 4 = .ok (.iload_n 1, 1) := by decide +kernel
theorem dX5_part_5 : decode cX5_part 5 = .ok (.iload_n 2, 1) := by decide +kernel
theorem dX5_part_6 : decode cX5_part 6 = .ok (.invokevirtual 62, 3) := by decide +kernel
theorem dX5_part_9 : decode cX5_part 9 = .ok (.ifCond .ne 5, 3) := by decide +kernel
theorem dX5_part_12 : decode cX5_part 12 = .ok (.iconst (-1), 1) := by decide +kernel
theorem dX5_part_13 : decode cX5_part 13 = .ok (.ireturn, 1) := by decide +kernel
theorem dX5_part_14 : decode cX5_part 14 = .ok (.aload_n 0, 1) := by decide +kernel
theorem dX5_part_15 : decode cX5_part 15 = .ok (.getfield 23, 3) := by decide +kernel
theorem dX5_part_18 : decode cX5_part 18 = .ok (.invokevirtual 84, 3) := by decide +kernel
theorem dX5_part_21 : decode cX5_part 21 = .ok (.aload_n 0, 1) := by decide +kernel
theorem dX5_part_22 : decode cX5_part 22 = .ok (.getfield 23, 3) := by decide +kernel
theorem dX5_part_25 : decode cX5_part 25 = .ok (.iload_n 1, 1) := by decide +kernel
theorem dX5_part_26 : decode cX5_part 26 = .ok (.iload_n 2, 1) := by decide +kernel
theorem dX5_part_27 : decode cX5_part 27 = .ok (.invokevirtual 120, 3) := by decide +kernel
theorem dX5_part_30 : decode cX5_part 30 = .ok (.ireturn, 1) := by decide +kernel
theorem dX5_block_0 : decode cX5_block 0 = .ok (.aload_n 0, 1) := by decide +kernel
theorem dX5_block_1 : decode cX5_block 1 = .ok (.getfield 14, 3) := by decide +kernel
theorem dX5_block_4 : decode cX5_block 4 = .ok (.iload_n 1, 1) := by decide +kernel
theorem dX5_block_5 : decode cX5_block 5 = .ok (.iload_n 2, 1) := by decide +kernel
theorem dX5_block_6 : decode cX5_block 6 = .ok (.invokevirtual 62, 3) := by decide +kernel
theorem dX5_block_9 : decode cX5_block 9 = .ok (.ifCond .ne 5, 3) := by decide +kernel
theorem dX5_block_12 : decode cX5_block 12 = .ok (.iconst (-1), 1) := by decide +kernel
theorem dX5_block_13 : decode cX5_block 13 = .ok (.ireturn, 1) := by decide +kernel
theorem dX5_block_14 : decode cX5_block 14 = .ok (.aload_n 0, 1) := by decide +kernel
theorem dX5_block_15 : decode cX5_block 15 = .ok (.getfield 23, 3) := by decide +kernel
theorem dX5_block_18 : decode cX5_block 18 = .ok (.invokevirtual 84, 3) := by decide +kernel
theorem dX5_block_21 : decode cX5_block 21 = .ok (.aload_n 0, 1) := by decide +kernel
theorem dX5_block_22 : decode cX5_block 22 = .ok (.getfield 32, 3) := by decide +kernel
theorem dX5_block_25 : decode cX5_block 25 = .ok (.invokevirtual 94, 3) := by decide +kernel
theorem dX5_block_28 : decode cX5_block 28 = .ok (.aload_n 0, 1) := by decide +kernel
theorem dX5_block_29 : decode cX5_block 29 = .ok (.getfield 32, 3) := by decide +kernel
theorem dX5_block_32 : decode cX5_block 32 = .ok (.iload_n 1, 1) := by decide +kernel
theorem dX5_block_33 : decode cX5_block 33 = .ok (.iload_n 2, 1) := by decide +kernel
theorem dX5_block_34 : decode cX5_block 34 = .ok (.invokevirtual 130, 3) := by decide +kernel
theorem dX5_block_37 : decode cX5_block 37 = .ok (.ireturn, 1) := by decide +kernel
theorem dX5_leads_0 : decode cX5_leads 0 = .ok (.aload_n 0, 1) := by decide +kernel
theorem dX5_leads_1 : decode cX5_leads 1 = .ok (.getfield 23, 3) := by decide +kernel
theorem dX5_leads_4 : decode cX5_leads 4 = .ok (.invokevirtual 84, 3) := by decide +kernel
theorem dX5_leads_7 : decode cX5_leads 7 = .ok (.aload_n 0, 1) := by decide +kernel
theorem dX5_leads_8 : decode cX5_leads 8 = .ok (.getfield 32, 3) := by decide +kernel
theorem dX5_leads_11 : decode cX5_leads 11 = .ok (.invokevirtual 94, 3) := by decide +kernel
theorem dX5_leads_14 : decode cX5_leads 14 = .ok (.aload_n 0, 1) := by decide +kernel
theorem dX5_leads_15 : decode cX5_leads 15 = .ok (.getfield 32, 3) := by decide +kernel
theorem dX5_leads_18 : decode cX5_leads 18 = .ok (.iload_n 1, 1) := by decide +kernel
theorem dX5_leads_19 : decode cX5_leads 19 = .ok (.invokevirtual 133, 3) := by decide +kernel
theorem dX5_leads_22 : decode cX5_leads 22 = .ok (.ifCond .eq 14, 3) := by decide +kernel
theorem dX5_leads_25 : decode cX5_leads 25 = .ok (.aload_n 0, 1) := by decide +kernel
theorem dX5_leads_26 : decode cX5_leads 26 = .ok (.getfield 32, 3) := by decide +kernel
theorem dX5_leads_29 : decode cX5_leads 29 = .ok (.iload_n 2, 1) := by decide +kernel
theorem dX5_leads_30 : decode cX5_leads 30 = .ok (.invokevirtual 133, 3) := by decide +kernel
theorem dX5_leads_33 : decode cX5_leads 33 = .ok (.ifCond .ne 5, 3) := by decide +kernel
theorem dX5_leads_36 : decode cX5_leads 36 = .ok (.iconst (-1), 1) := by decide +kernel
theorem dX5_leads_37 : decode cX5_leads 37 = .ok (.ireturn, 1) := by decide +kernel
theorem dX5_leads_38 : decode cX5_leads 38 = .ok (.aload_n 0, 1) := by decide +kernel
theorem dX5_leads_39 : decode cX5_leads 39 = .ok (.getfield 32, 3) := by decide +kernel
theorem dX5_leads_42 : decode cX5_leads 42 = .ok (.iload_n 1, 1) := by decide +kernel
theorem dX5_leads_43 : decode cX5_leads 43 = .ok (.iload_n 2, 1) := by decide +kernel
theorem dX5_leads_44 : decode cX5_leads 44 = .ok (.invokevirtual 135, 3) := by decide +kernel
theorem dX5_leads_47 : decode cX5_leads 47 = .ok (.ifCond .eq 7, 3) := by decide +kernel
theorem dX5_leads_50 : decode cX5_leads 50 = .ok (.iconst 1, 1) := by decide +kernel
theorem dX5_leads_51 : decode cX5_leads 51 = .ok (.goto 4, 3) := by decide +kernel
theorem dX5_leads_54 : decode cX5_leads 54 = .ok (.iconst 0, 1) := by decide +kernel
theorem dX5_leads_55 : decode cX5_leads 55 = .ok (.ireturn, 1) := by decide +kernel
theorem dX5_pairings_0 : decode cX5_pairings 0 = .ok (.aload_n 0, 1) := by decide +kernel
theorem dX5_pairings_1 : decode cX5_pairings 1 = .ok (.getfield 14, 3) := by decide +kernel
theorem dX5_pairings_4 : decode cX5_pairings 4 = .ok (.iconst 0, 1) := by decide +kernel
theorem dX5_pairings_5 : decode cX5_pairings 5 = .ok (.invokevirtual 77, 3) := by decide +kernel
theorem dX5_pairings_8 : decode cX5_pairings 8 = .ok (.bipush 16, 2) := by decide +kernel
theorem dX5_pairings_10 : decode cX5_pairings 10 = .ok (.if_icmp .gt 16, 3) := by decide +kernel
theorem dX5_pairings_13 : decode cX5_pairings 13 = .ok (.aload_n 0, 1) := by decide +kernel
theorem dX5_pairings_14 : decode cX5_pairings 14 = .ok (.getfield 14, 3) := by decide +kernel
theorem dX5_pairings_17 : decode cX5_pairings 17 = .ok (.iconst 1, 1) := by decide +kernel
theorem dX5_pairings_18 : decode cX5_pairings 18 = .ok (.invokevirtual 77, 3) := by decide +kernel
theorem dX5_pairings_21 : decode cX5_pairings 21 = .ok (.bipush 16, 2) := by decide +kernel
theorem dX5_pairings_23 : decode cX5_pairings 23 = .ok (.if_icmp .le 7, 3) := by decide +kernel
theorem dX5_pairings_26 : decode cX5_pairings 26 = .ok (.ldc2_w 138, 3) := by decide +kernel
theorem dX5_pairings_29 : decode cX5_pairings 29 = .ok (.lreturn, 1) := by decide +kernel
theorem dX5_pairings_30 : decode cX5_pairings 30 = .ok (.aload_n 0, 1) := by decide +kernel
theorem dX5_pairings_31 : decode cX5_pairings 31 = .ok (.getfield 23, 3) := by decide +kernel
theorem dX5_pairings_34 : decode cX5_pairings 34 = .ok (.invokevirtual 84, 3) := by decide +kernel
theorem dX5_pairings_37 : decode cX5_pairings 37 = .ok (.aload_n 0, 1) := by decide +kernel
theorem dX5_pairings_38 : decode cX5_pairings 38 = .ok (.getfield 32, 3) := by decide +kernel
theorem dX5_pairings_41 : decode cX5_pairings 41 = .ok (.invokevirtual 94, 3) := by decide +kernel
theorem dX5_pairings_44 : decode cX5_pairings 44 = .ok (.aload_n 0, 1) := by decide +kernel
theorem dX5_pairings_45 : decode cX5_pairings 45 = .ok (.getfield 41, 3) := by decide +kernel
theorem dX5_pairings_48 : decode cX5_pairings 48 = .ok (.invokevirtual 140, 3) := by decide +kernel
theorem dX5_pairings_51 : decode cX5_pairings 51 = .ok (.aload_n 0, 1) := by decide +kernel
theorem dX5_pairings_52 : decode cX5_pairings 52 = .ok (.getfield 41, 3) := by decide +kernel
theorem dX5_pairings_55 : decode cX5_pairings 55 = .ok (.invokevirtual 141, 3) := by decide +kernel
theorem dX5_pairings_58 : decode cX5_pairings 58 = .ok (.lreturn, 1) := by decide +kernel
theorem dX5_thing_0 : decode cX5_thing 0 = .ok (.aload_n 0, 1) := by decide +kernel
theorem dX5_thing_1 : decode cX5_thing 1 = .ok (.getfield 45, 3) := by decide +kernel
theorem dX5_thing_4 : decode cX5_thing 4 = .ok (.iconst 0, 1) := by decide +kernel
theorem dX5_thing_5 : decode cX5_thing 5 = .ok (.invokevirtual 58, 3) := by decide +kernel
theorem dX5_thing_8 : decode cX5_thing 8 = .ok (.pop, 1) := by decide +kernel
theorem dX5_thing_9 : decode cX5_thing 9 = .ok (.aload_n 0, 1) := by decide +kernel
theorem dX5_thing_10 : decode cX5_thing 10 = .ok (.getfield 45, 3) := by decide +kernel
theorem dX5_thing_13 : decode cX5_thing 13 = .ok (.iconst 1, 1) := by decide +kernel
theorem dX5_thing_14 : decode cX5_thing 14 = .ok (.invokevirtual 58, 3) := by decide +kernel
theorem dX5_thing_17 : decode cX5_thing 17 = .ok (.ireturn, 1) := by decide +kernel
theorem dX5_tell_0 : decode cX5_tell 0 = .ok (.aload_n 0, 1) := by decide +kernel
theorem dX5_tell_1 : decode cX5_tell 1 = .ok (.getfield 45, 3) := by decide +kernel
theorem dX5_tell_4 : decode cX5_tell 4 = .ok (.iconst 0, 1) := by decide +kernel
theorem dX5_tell_5 : decode cX5_tell 5 = .ok (.iload_n 1, 1) := by decide +kernel
theorem dX5_tell_6 : decode cX5_tell 6 = .ok (.invokevirtual 62, 3) := by decide +kernel
theorem dX5_tell_9 : decode cX5_tell 9 = .ok (.ifCond .eq 15, 3) := by decide +kernel
theorem dX5_tell_12 : decode cX5_tell 12 = .ok (.aload_n 0, 1) := by decide +kernel
theorem dX5_tell_13 : decode cX5_tell 13 = .ok (.getfield 45, 3) := by decide +kernel
theorem dX5_tell_16 : decode cX5_tell 16 = .ok (.iconst 0, 1) := by decide +kernel
theorem dX5_tell_17 : decode cX5_tell 17 = .ok (.iload_n 2, 1) := by decide +kernel
theorem dX5_tell_18 : decode cX5_tell 18 = .ok (.invokevirtual 62, 3) := by decide +kernel
theorem dX5_tell_21 : decode cX5_tell 21 = .ok (.ifCond .ne 5, 3) := by decide +kernel
theorem dX5_tell_24 : decode cX5_tell 24 = .ok (.iconst (-1), 1) := by decide +kernel
theorem dX5_tell_25 : decode cX5_tell 25 = .ok (.ireturn, 1) := by decide +kernel
theorem dX5_tell_26 : decode cX5_tell 26 = .ok (.iload_n 1, 1) := by decide +kernel
theorem dX5_tell_27 : decode cX5_tell 27 = .ok (.iload_n 2, 1) := by decide +kernel
theorem dX5_tell_28 : decode cX5_tell 28 = .ok (.if_icmp .eq 15, 3) := by decide +kernel
theorem dX5_tell_31 : decode cX5_tell 31 = .ok (.aload_n 0, 1) := by decide +kernel
theorem dX5_tell_32 : decode cX5_tell 32 = .ok (.getfield 45, 3) := by decide +kernel
theorem dX5_tell_35 : decode cX5_tell 35 = .ok (.iload_n 2, 1) := by decide +kernel
theorem dX5_tell_36 : decode cX5_tell 36 = .ok (.iload_n 1, 1) := by decide +kernel
theorem dX5_tell_37 : decode cX5_tell 37 = .ok (.invokevirtual 66, 3) := by decide +kernel
theorem dX5_tell_40 : decode cX5_tell 40 = .ok (.ifCond .eq 6, 3) := by decide +kernel
theorem dX5_tell_43 : decode cX5_tell 43 = .ok (.bipush (-3), 2) := by decide +kernel
theorem dX5_tell_45 : decode cX5_tell 45 = .ok (.ireturn, 1) := by decide +kernel
theorem dX5_tell_46 : decode cX5_tell 46 = .ok (.aload_n 0, 1) := by decide +kernel
theorem dX5_tell_47 : decode cX5_tell 47 = .ok (.getfield 45, 3) := by decide +kernel
theorem dX5_tell_50 : decode cX5_tell 50 = .ok (.iload_n 1, 1) := by decide +kernel
theorem dX5_tell_51 : decode cX5_tell 51 = .ok (.iload_n 2, 1) := by decide +kernel
theorem dX5_tell_52 : decode cX5_tell 52 = .ok (.invokevirtual 66, 3) := by decide +kernel
theorem dX5_tell_55 : decode cX5_tell 55 = .ok (.ifCond .eq 5, 3) := by decide +kernel
theorem dX5_tell_58 : decode cX5_tell 58 = .ok (.iconst 0, 1) := by decide +kernel
theorem dX5_tell_59 : decode cX5_tell 59 = .ok (.ireturn, 1) := by decide +kernel
theorem dX5_tell_60 : decode cX5_tell 60 = .ok (.aload_n 0, 1) := by decide +kernel
theorem dX5_tell_61 : decode cX5_tell 61 = .ok (.getfield 45, 3) := by decide +kernel
theorem dX5_tell_64 : decode cX5_tell 64 = .ok (.iconst 1, 1) := by decide +kernel
theorem dX5_tell_65 : decode cX5_tell 65 = .ok (.iload_n 1, 1) := by decide +kernel
theorem dX5_tell_66 : decode cX5_tell 66 = .ok (.invokevirtual 145, 3) := by decide +kernel
theorem dX5_tell_69 : decode cX5_tell 69 = .ok (.lconst 1, 1) := by decide +kernel
theorem dX5_tell_70 : decode cX5_tell 70 = .ok (.iload_n 1, 1) := by decide +kernel
theorem dX5_tell_71 : decode cX5_tell 71 = .ok (.lshl, 1) := by decide +kernel
theorem dX5_tell_72 : decode cX5_tell 72 = .ok (.lor, 1) := by decide +kernel
theorem dX5_tell_73 : decode cX5_tell 73 = .ok (.lstore_n 3, 1) := by decide +kernel
theorem dX5_tell_74 : decode cX5_tell 74 = .ok (.aload_n 0, 1) := by decide +kernel
theorem dX5_tell_75 : decode cX5_tell 75 = .ok (.getfield 45, 3) := by decide +kernel
theorem dX5_tell_78 : decode cX5_tell 78 = .ok (.iconst 0, 1) := by decide +kernel
theorem dX5_tell_79 : decode cX5_tell 79 = .ok (.iload_n 2, 1) := by decide +kernel
theorem dX5_tell_80 : decode cX5_tell 80 = .ok (.invokevirtual 145, 3) := by decide +kernel
theorem dX5_tell_83 : decode cX5_tell 83 = .ok (.lconst 1, 1) := by decide +kernel
theorem dX5_tell_84 : decode cX5_tell 84 = .ok (.iload_n 2, 1) := by decide +kernel
theorem dX5_tell_85 : decode cX5_tell 85 = .ok (.lshl, 1) := by decide +kernel
theorem dX5_tell_86 : decode cX5_tell 86 = .ok (.lor, 1) := by decide +kernel
theorem dX5_tell_87 : decode cX5_tell 87 = .ok (.lstore 5, 2) := by decide +kernel
theorem dX5_tell_89 : decode cX5_tell 89 = .ok (.aload_n 0, 1) := by decide +kernel
theorem dX5_tell_90 : decode cX5_tell 90 = .ok (.getfield 45, 3) := by decide +kernel
theorem dX5_tell_93 : decode cX5_tell 93 = .ok (.lload_n 3, 1) := by decide +kernel
theorem dX5_tell_94 : decode cX5_tell 94 = .ok (.lload 5, 2) := by decide +kernel
theorem dX5_tell_96 : decode cX5_tell 96 = .ok (.invokevirtual 69, 3) := by decide +kernel
theorem dX5_tell_99 : decode cX5_tell 99 = .ok (.iconst 1, 1) := by decide +kernel
theorem dX5_tell_100 : decode cX5_tell 100 = .ok (.ireturn, 1) := by decide +kernel
theorem dX5_below_0 : decode cX5_below 0 = .ok (.aload_n 0, 1) := by decide +kernel
theorem dX5_below_1 : decode cX5_below 1 = .ok (.getfield 45, 3) := by decide +kernel
theorem dX5_below_4 : decode cX5_below 4 = .ok (.iload_n 1, 1) := by decide +kernel
theorem dX5_below_5 : decode cX5_below 5 = .ok (.iload_n 2, 1) := by decide +kernel
theorem dX5_below_6 : decode cX5_below 6 = .ok (.invokevirtual 66, 3) := by decide +kernel
theorem dX5_below_9 : decode cX5_below 9 = .ok (.ireturn, 1) := by decide +kernel
theorem dX5_about_0 : decode cX5_about 0 = .ok (.aload_n 0, 1) := by decide +kernel
theorem dX5_about_1 : decode cX5_about 1 = .ok (.getfield 45, 3) := by decide +kernel
theorem dX5_about_4 : decode cX5_about 4 = .ok (.iconst 0, 1) := by decide +kernel
theorem dX5_about_5 : decode cX5_about 5 = .ok (.iload_n 1, 1) := by decide +kernel
theorem dX5_about_6 : decode cX5_about 6 = .ok (.invokevirtual 62, 3) := by decide +kernel
theorem dX5_about_9 : decode cX5_about 9 = .ok (.ifCond .ne 5, 3) := by decide +kernel
theorem dX5_about_12 : decode cX5_about 12 = .ok (.iconst (-1), 1) := by decide +kernel
theorem dX5_about_13 : decode cX5_about 13 = .ok (.ireturn, 1) := by decide +kernel
theorem dX5_about_14 : decode cX5_about 14 = .ok (.aload_n 0, 1) := by decide +kernel
theorem dX5_about_15 : decode cX5_about 15 = .ok (.getfield 48, 3) := by decide +kernel
theorem dX5_about_18 : decode cX5_about 18 = .ok (.invokevirtual 84, 3) := by decide +kernel
theorem dX5_about_21 : decode cX5_about 21 = .ok (.aload_n 0, 1) := by decide +kernel
theorem dX5_about_22 : decode cX5_about 22 = .ok (.getfield 54, 3) := by decide +kernel
theorem dX5_about_25 : decode cX5_about 25 = .ok (.invokevirtual 87, 3) := by decide +kernel
theorem dX5_about_28 : decode cX5_about 28 = .ok (.iload_n 2, 1) := by decide +kernel
theorem dX5_about_29 : decode cX5_about 29 = .ok (.tableswitch 83 0 4 #[35, 44, 54, 63, 63], 35) := by decide +kernel
theorem dX5_about_64 : decode cX5_about 64 = .ok (.aload_n 0, 1) := by decide +kernel
theorem dX5_about_65 : decode cX5_about 65 = .ok (.getfield 54, 3) := by decide +kernel
theorem dX5_about_68 : decode cX5_about 68 = .ok (.iload_n 1, 1) := by decide +kernel
theorem dX5_about_69 : decode cX5_about 69 = .ok (.invokevirtual 149, 3) := by decide +kernel
theorem dX5_about_72 : decode cX5_about 72 = .ok (.ireturn, 1) := by decide +kernel
theorem dX5_about_73 : decode cX5_about 73 = .ok (.aload_n 0, 1) := by decide +kernel
theorem dX5_about_74 : decode cX5_about 74 = .ok (.getfield 48, 3) := by decide +kernel
theorem dX5_about_77 : decode cX5_about 77 = .ok (.iconst 0, 1) := by decide +kernel
theorem dX5_about_78 : decode cX5_about 78 = .ok (.iload_n 1, 1) := by decide +kernel
theorem dX5_about_79 : decode cX5_about 79 = .ok (.invokevirtual 104, 3) := by decide +kernel
theorem dX5_about_82 : decode cX5_about 82 = .ok (.ireturn, 1) := by decide +kernel
theorem dX5_about_83 : decode cX5_about 83 = .ok (.aload_n 0, 1) := by decide +kernel
theorem dX5_about_84 : decode cX5_about 84 = .ok (.getfield 54, 3) := by decide +kernel
theorem dX5_about_87 : decode cX5_about 87 = .ok (.iload_n 1, 1) := by decide +kernel
theorem dX5_about_88 : decode cX5_about 88 = .ok (.invokevirtual 152, 3) := by decide +kernel
theorem dX5_about_91 : decode cX5_about 91 = .ok (.ireturn, 1) := by decide +kernel
theorem dX5_about_92 : decode cX5_about 92 = .ok (.aload_n 0, 1) := by decide +kernel
theorem dX5_about_93 : decode cX5_about 93 = .ok (.getfield 54, 3) := by decide +kernel
theorem dX5_about_96 : decode cX5_about 96 = .ok (.iload_n 2, 1) := by decide +kernel
theorem dX5_about_97 : decode cX5_about 97 = .ok (.iconst 3, 1) := by decide +kernel
theorem dX5_about_98 : decode cX5_about 98 = .ok (.isub, 1) := by decide +kernel
theorem dX5_about_99 : decode cX5_about 99 = .ok (.iload_n 1, 1) := by decide +kernel
theorem dX5_about_100 : decode cX5_about 100 = .ok (.invokevirtual 155, 3) := by decide +kernel
theorem dX5_about_103 : decode cX5_about 103 = .ok (.ifCond .eq 7, 3) := by decide +kernel
theorem dX5_about_106 : decode cX5_about 106 = .ok (.iconst 1, 1) := by decide +kernel
theorem dX5_about_107 : decode cX5_about 107 = .ok (.goto 4, 3) := by decide +kernel
theorem dX5_about_110 : decode cX5_about 110 = .ok (.iconst 0, 1) := by decide +kernel
theorem dX5_about_111 : decode cX5_about 111 = .ok (.ireturn, 1) := by decide +kernel
theorem dX5_about_112 : decode cX5_about 112 = .ok (.iconst (-1), 1) := by decide +kernel
theorem dX5_about_113 : decode cX5_about 113 = .ok (.ireturn, 1) := by decide +kernel
theorem dX5_clearGraph_0 : decode cX5_clearGraph 0 = .ok (.aload_n 0, 1) := by decide +kernel
theorem dX5_clearGraph_1 : decode cX5_clearGraph 1 = .ok (.getfield 14, 3) := by decide +kernel
theorem dX5_clearGraph_4 : decode cX5_clearGraph 4 = .ok (.iconst 0, 1) := by decide +kernel
theorem dX5_clearGraph_5 : decode cX5_clearGraph 5 = .ok (.invokevirtual 77, 3) := by decide +kernel
theorem dX5_clearGraph_8 : decode cX5_clearGraph 8 = .ok (.aload_n 0, 1) := by decide +kernel
theorem dX5_clearGraph_9 : decode cX5_clearGraph 9 = .ok (.getfield 14, 3) := by decide +kernel
theorem dX5_clearGraph_12 : decode cX5_clearGraph 12 = .ok (.iconst 1, 1) := by decide +kernel
theorem dX5_clearGraph_13 : decode cX5_clearGraph 13 = .ok (.invokevirtual 77, 3) := by decide +kernel
theorem dX5_clearGraph_16 : decode cX5_clearGraph 16 = .ok (.iadd, 1) := by decide +kernel
theorem dX5_clearGraph_17 : decode cX5_clearGraph 17 = .ok (.istore_n 1, 1) := by decide +kernel
theorem dX5_clearGraph_18 : decode cX5_clearGraph 18 = .ok (.aload_n 0, 1) := by decide +kernel
theorem dX5_clearGraph_19 : decode cX5_clearGraph 19 = .ok (.getfield 14, 3) := by decide +kernel
theorem dX5_clearGraph_22 : decode cX5_clearGraph 22 = .ok (.invokevirtual 158, 3) := by decide +kernel
theorem dX5_clearGraph_25 : decode cX5_clearGraph 25 = .ok (.iload_n 1, 1) := by decide +kernel
theorem dX5_clearGraph_26 : decode cX5_clearGraph 26 = .ok (.ireturn, 1) := by decide +kernel
theorem dX5_clearThings_0 : decode cX5_clearThings 0 = .ok (.aload_n 0, 1) := by decide +kernel
theorem dX5_clearThings_1 : decode cX5_clearThings 1 = .ok (.getfield 45, 3) := by decide +kernel
theorem dX5_clearThings_4 : decode cX5_clearThings 4 = .ok (.iconst 0, 1) := by decide +kernel
theorem dX5_clearThings_5 : decode cX5_clearThings 5 = .ok (.invokevirtual 77, 3) := by decide +kernel
theorem dX5_clearThings_8 : decode cX5_clearThings 8 = .ok (.istore_n 1, 1) := by decide +kernel
theorem dX5_clearThings_9 : decode cX5_clearThings 9 = .ok (.aload_n 0, 1) := by decide +kernel
theorem dX5_clearThings_10 : decode cX5_clearThings 10 = .ok (.getfield 45, 3) := by decide +kernel
theorem dX5_clearThings_13 : decode cX5_clearThings 13 = .ok (.invokevirtual 158, 3) := by decide +kernel
theorem dX5_clearThings_16 : decode cX5_clearThings 16 = .ok (.iload_n 1, 1) := by decide +kernel
theorem dX5_clearThings_17 : decode cX5_clearThings 17 = .ok (.ireturn, 1) := by decide +kernel
theorem dX5_isOneOfTwo_0 : decode cX5_isOneOfTwo 0 = .ok (.iload_n 0, 1) := by decide +kernel
theorem dX5_isOneOfTwo_1 : decode cX5_isOneOfTwo 1 = .ok (.ifCond .eq 8, 3) := by decide +kernel
theorem dX5_isOneOfTwo_4 : decode cX5_isOneOfTwo 4 = .ok (.iload_n 0, 1) := by decide +kernel
theorem dX5_isOneOfTwo_5 : decode cX5_isOneOfTwo 5 = .ok (.iconst 1, 1) := by decide +kernel
theorem dX5_isOneOfTwo_6 : decode cX5_isOneOfTwo 6 = .ok (.if_icmp .ne 7, 3) := by decide +kernel
theorem dX5_isOneOfTwo_9 : decode cX5_isOneOfTwo 9 = .ok (.iconst 1, 1) := by decide +kernel
theorem dX5_isOneOfTwo_10 : decode cX5_isOneOfTwo 10 = .ok (.goto 4, 3) := by decide +kernel
theorem dX5_isOneOfTwo_13 : decode cX5_isOneOfTwo 13 = .ok (.iconst 0, 1) := by decide +kernel
theorem dX5_isOneOfTwo_14 : decode cX5_isOneOfTwo 14 = .ok (.ireturn, 1) := by decide +kernel
theorem dX5_contains_0 : decode cX5_contains 0 = .ok (.lload_n 0, 1) := by decide +kernel
theorem dX5_contains_1 : decode cX5_contains 1 = .ok (.iload_n 2, 1) := by decide +kernel
theorem dX5_contains_2 : decode cX5_contains 2 = .ok (.lushr, 1) := by decide +kernel
theorem dX5_contains_3 : decode cX5_contains 3 = .ok (.lconst 1, 1) := by decide +kernel
theorem dX5_contains_4 : decode cX5_contains 4 = .ok (.land, 1) := by decide +kernel
theorem dX5_contains_5 : decode cX5_contains 5 = .ok (.lconst 0, 1) := by decide +kernel
theorem dX5_contains_6 : decode cX5_contains 6 = .ok (.lcmp, 1) := by decide +kernel
theorem dX5_contains_7 : decode cX5_contains 7 = .ok (.ifCond .eq 7, 3) := by decide +kernel
theorem dX5_contains_10 : decode cX5_contains 10 = .ok (.iconst 1, 1) := by decide +kernel
theorem dX5_contains_11 : decode cX5_contains 11 = .ok (.goto 4, 3) := by decide +kernel
theorem dX5_contains_14 : decode cX5_contains 14 = .ok (.iconst 0, 1) := by decide +kernel
theorem dX5_contains_15 : decode cX5_contains 15 = .ok (.ireturn, 1) := by decide +kernel
theorem dX5_lowest_0 : decode cX5_lowest 0 = .ok (.lload_n 0, 1) := by decide +kernel
theorem dX5_lowest_1 : decode cX5_lowest 1 = .ok (.lload_n 0, 1) := by decide +kernel
theorem dX5_lowest_2 : decode cX5_lowest 2 = .ok (.lneg, 1) := by decide +kernel
theorem dX5_lowest_3 : decode cX5_lowest 3 = .ok (.land, 1) := by decide +kernel
theorem dX5_lowest_4 : decode cX5_lowest 4 = .ok (.lconst 1, 1) := by decide +kernel
theorem dX5_lowest_5 : decode cX5_lowest 5 = .ok (.lsub, 1) := by decide +kernel
theorem dX5_lowest_6 : decode cX5_lowest 6 = .ok (.invokestatic 161, 3) := by decide +kernel
theorem dX5_lowest_9 : decode cX5_lowest 9 = .ok (.ireturn, 1) := by decide +kernel
theorem dX6_init_0 : decode cX6_init 0 = .ok (.aload_n 0, 1) := by decide +kernel
theorem dX6_init_1 : decode cX6_init 1 = .ok (.invokespecial 1, 3) := by decide +kernel
theorem dX6_init_4 : decode cX6_init 4 = .ok (.aload_n 0, 1) := by decide +kernel
theorem dX6_init_5 : decode cX6_init 5 = .ok (.sipush 2500, 3) := by decide +kernel
theorem dX6_init_8 : decode cX6_init 8 = .ok (.newarray .boolean, 2) := by decide +kernel
theorem dX6_init_10 : decode cX6_init 10 = .ok (.putfield 7, 3) := by decide +kernel
theorem dX6_init_13 : decode cX6_init 13 = .ok (.aload_n 0, 1) := by decide +kernel
theorem dX6_init_14 : decode cX6_init 14 = .ok (.bipush 50, 2) := by decide +kernel
theorem dX6_init_16 : decode cX6_init 16 = .ok (.newarray .int, 2) := by decide +kernel
theorem dX6_init_18 : decode cX6_init 18 = .ok (.putfield 13, 3) := by decide +kernel
theorem dX6_init_21 : decode cX6_init 21 = .ok (.aload_n 0, 1) := by decide +kernel
theorem dX6_init_22 : decode cX6_init 22 = .ok (.bipush 50, 2) := by decide +kernel
theorem dX6_init_24 : decode cX6_init 24 = .ok (.newarray .int, 2) := by decide +kernel
theorem dX6_init_26 : decode cX6_init 26 = .ok (.putfield 17, 3) := by decide +kernel
theorem dX6_init_29 : decode cX6_init 29 = .ok (.aload_n 0, 1) := by decide +kernel
theorem dX6_init_30 : decode cX6_init 30 = .ok (.bipush 50, 2) := by decide +kernel
theorem dX6_init_32 : decode cX6_init 32 = .ok (.newarray .boolean, 2) := by decide +kernel
theorem dX6_init_34 : decode cX6_init 34 = .ok (.putfield 20, 3) := by decide +kernel
theorem dX6_init_37 : decode cX6_init 37 = .ok (.aload_n 0, 1) := by decide +kernel
theorem dX6_init_38 : decode cX6_init 38 = .ok (.bipush 50, 2) := by decide +kernel
theorem dX6_init_40 : decode cX6_init 40 = .ok (.newarray .boolean, 2) := by decide +kernel
theorem dX6_init_42 : decode cX6_init 42 = .ok (.putfield 23, 3) := by decide +kernel
theorem dX6_init_45 : decode cX6_init 45 = .ok (.aload_n 0, 1) := by decide +kernel
theorem dX6_init_46 : decode cX6_init 46 = .ok (.bipush 50, 2) := by decide +kernel
theorem dX6_init_48 : decode cX6_init 48 = .ok (.newarray .int, 2) := by decide +kernel
theorem dX6_init_50 : decode cX6_init 50 = .ok (.putfield 26, 3) := by decide +kernel
theorem dX6_init_53 : decode cX6_init 53 = .ok (.aload_n 0, 1) := by decide +kernel
theorem dX6_init_54 : decode cX6_init 54 = .ok (.bipush 50, 2) := by decide +kernel
theorem dX6_init_56 : decode cX6_init 56 = .ok (.newarray .int, 2) := by decide +kernel
theorem dX6_init_58 : decode cX6_init 58 = .ok (.putfield 29, 3) := by decide +kernel
theorem dX6_init_61 : decode cX6_init 61 = .ok (.aload_n 0, 1) := by decide +kernel
theorem dX6_init_62 : decode cX6_init 62 = .ok (.bipush 50, 2) := by decide +kernel
theorem dX6_init_64 : decode cX6_init 64 = .ok (.newarray .int, 2) := by decide +kernel
theorem dX6_init_66 : decode cX6_init 66 = .ok (.putfield 32, 3) := by decide +kernel
theorem dX6_init_69 : decode cX6_init 69 = .ok (.aload_n 0, 1) := by decide +kernel
theorem dX6_init_70 : decode cX6_init 70 = .ok (.sipush 2500, 3) := by decide +kernel
theorem dX6_init_73 : decode cX6_init 73 = .ok (.newarray .boolean, 2) := by decide +kernel
theorem dX6_init_75 : decode cX6_init 75 = .ok (.putfield 35, 3) := by decide +kernel
theorem dX6_init_78 : decode cX6_init 78 = .ok (.aload_n 0, 1) := by decide +kernel
theorem dX6_init_79 : decode cX6_init 79 = .ok (.ldc 38, 2) := by decide +kernel
theorem dX6_init_81 : decode cX6_init 81 = .ok (.newarray .long, 2) := by decide +kernel
theorem dX6_init_83 : decode cX6_init 83 = .ok (.putfield 39, 3) := by decide +kernel
theorem dX6_init_86 : decode cX6_init 86 = .ok (.aload_n 0, 1) := by decide +kernel
theorem dX6_init_87 : decode cX6_init 87 = .ok (.sipush 2500, 3) := by decide +kernel
theorem dX6_init_90 : decode cX6_init 90 = .ok (.newarray .boolean, 2) := by decide +kernel
theorem dX6_init_92 : decode cX6_init 92 = .ok (.putfield 43, 3) := by decide +kernel
theorem dX6_init_95 : decode cX6_init 95 = .ok (.aload_n 0, 1) := by decide +kernel
theorem dX6_init_96 : decode cX6_init 96 = .ok (.bipush 40, 2) := by decide +kernel
theorem dX6_init_98 : decode cX6_init 98 = .ok (.newarray .int, 2) := by decide +kernel
theorem dX6_init_100 : decode cX6_init 100 = .ok (.putfield 46, 3) := by decide +kernel
theorem dX6_init_103 : decode cX6_init 103 = .ok (.aload_n 0, 1) := by decide +kernel
theorem dX6_init_104 : decode cX6_init 104 = .ok (.bipush 40, 2) := by decide +kernel
theorem dX6_init_106 : decode cX6_init 106 = .ok (.newarray .int, 2) := by decide +kernel
theorem dX6_init_108 : decode cX6_init 108 = .ok (.putfield 49, 3) := by decide +kernel
theorem dX6_init_111 : decode cX6_init 111 = .ok (.aload_n 0, 1) := by decide +kernel
theorem dX6_init_112 : decode cX6_init 112 = .ok (.bipush 40, 2) := by decide +kernel
theorem dX6_init_114 : decode cX6_init 114 = .ok (.newarray .int, 2) := by decide +kernel
theorem dX6_init_116 : decode cX6_init 116 = .ok (.putfield 52, 3) := by decide +kernel
theorem dX6_init_119 : decode cX6_init 119 = .ok (.aload_n 0, 1) := by decide +kernel
theorem dX6_init_120 : decode cX6_init 120 = .ok (.bipush 40, 2) := by decide +kernel
theorem dX6_init_122 : decode cX6_init 122 = .ok (.newarray .boolean, 2) := by decide +kernel
theorem dX6_init_124 : decode cX6_init 124 = .ok (.putfield 55, 3) := by decide +kernel
theorem dX6_init_127 : decode cX6_init 127 = .ok (.aload_n 0, 1) := by decide +kernel
theorem dX6_init_128 : decode cX6_init 128 = .ok (.bipush 40, 2) := by decide +kernel
theorem dX6_init_130 : decode cX6_init 130 = .ok (.newarray .boolean, 2) := by decide +kernel
theorem dX6_init_132 : decode cX6_init 132 = .ok (.putfield 58, 3) := by decide +kernel
theorem dX6_init_135 : decode cX6_init 135 = .ok (.aload_n 0, 1) := by decide +kernel
theorem dX6_init_136 : decode cX6_init 136 = .ok (.bipush 40, 2) := by decide +kernel
theorem dX6_init_138 : decode cX6_init 138 = .ok (.newarray .boolean, 2) := by decide +kernel
theorem dX6_init_140 : decode cX6_init 140 = .ok (.putfield 61, 3) := by decide +kernel
theorem dX6_init_143 : decode cX6_init 143 = .ok (.aload_n 0, 1) := by decide +kernel
theorem dX6_init_144 : decode cX6_init 144 = .ok (.sipush 2500, 3) := by decide +kernel
theorem dX6_init_147 : decode cX6_init 147 = .ok (.newarray .boolean, 2) := by decide +kernel
theorem dX6_init_149 : decode cX6_init 149 = .ok (.putfield 64, 3) := by decide +kernel
theorem dX6_init_152 : decode cX6_init 152 = .ok (.aload_n 0, 1) := by decide +kernel
theorem dX6_init_153 : decode cX6_init 153 = .ok (.bipush 50, 2) := by decide +kernel
theorem dX6_init_155 : decode cX6_init 155 = .ok (.newarray .boolean, 2) := by decide +kernel
theorem dX6_init_157 : decode cX6_init 157 = .ok (.putfield 67, 3) := by decide +kernel
theorem dX6_init_160 : decode cX6_init 160 = .ok (.aload_n 0, 1) := by decide +kernel
theorem dX6_init_161 : decode cX6_init 161 = .ok (.bipush 50, 2) := by decide +kernel
theorem dX6_init_163 : decode cX6_init 163 = .ok (.newarray .boolean, 2) := by decide +kernel
theorem dX6_init_165 : decode cX6_init 165 = .ok (.putfield 70, 3) := by decide +kernel
theorem dX6_init_168 : decode cX6_init 168 = .ok (.aload_n 0, 1) := by decide +kernel
theorem dX6_init_169 : decode cX6_init 169 = .ok (.bipush 50, 2) := by decide +kernel
theorem dX6_init_171 : decode cX6_init 171 = .ok (.newarray .int, 2) := by decide +kernel
theorem dX6_init_173 : decode cX6_init 173 = .ok (.putfield 73, 3) := by decide +kernel
theorem dX6_init_176 : decode cX6_init 176 = .ok (.aload_n 0, 1) := by decide +kernel
theorem dX6_init_177 : decode cX6_init 177 = .ok (.bipush 50, 2) := by decide +kernel
theorem dX6_init_179 : decode cX6_init 179 = .ok (.newarray .int, 2) := by decide +kernel
theorem dX6_init_181 : decode cX6_init 181 = .ok (.putfield 76, 3) := by decide +kernel
theorem dX6_init_184 : decode cX6_init 184 = .ok (.aload_n 0, 1) := by decide +kernel
theorem dX6_init_185 : decode cX6_init 185 = .ok (.bipush 50, 2) := by decide +kernel
theorem dX6_init_187 : decode cX6_init 187 = .ok (.newarray .int, 2) := by decide +kernel
theorem dX6_init_189 : decode cX6_init 189 = .ok (.putfield 79, 3) := by decide +kernel
theorem dX6_init_192 : decode cX6_init 192 = .ok (.aload_n 0, 1) := by decide +kernel
theorem dX6_init_193 : decode cX6_init 193 = .ok (.bipush 50, 2) := by decide +kernel
theorem dX6_init_195 : decode cX6_init 195 = .ok (.newarray .int, 2) := by decide +kernel
theorem dX6_init_197 : decode cX6_init 197 = .ok (.putfield 82, 3) := by decide +kernel
theorem dX6_init_200 : decode cX6_init 200 = .ok (.aload_n 0, 1) := by decide +kernel
theorem dX6_init_201 : decode cX6_init 201 = .ok (.bipush 50, 2) := by decide +kernel
theorem dX6_init_203 : decode cX6_init 203 = .ok (.newarray .int, 2) := by decide +kernel
theorem dX6_init_205 : decode cX6_init 205 = .ok (.putfield 85, 3) := by decide +kernel
theorem dX6_init_208 : decode cX6_init 208 = .ok (.aload_n 0, 1) := by decide +kernel
theorem dX6_init_209 : decode cX6_init 209 = .ok (.bipush 50, 2) := by decide +kernel
theorem dX6_init_211 : decode cX6_init 211 = .ok (.newarray .int, 2) := by decide +kernel
theorem dX6_init_213 : decode cX6_init 213 = .ok (.putfield 88, 3) := by decide +kernel
theorem dX6_init_216 : decode cX6_init 216 = .ok (.return_, 1) := by decide +kernel
theorem dX6_use_0 : decode cX6_use 0 = .ok (.aload_n 0, 1) := by decide +kernel
theorem dX6_use_1 : decode cX6_use 1 = .ok (.iload_n 2, 1) := by decide +kernel
theorem dX6_use_2 : decode cX6_use 2 = .ok (.putfield 91, 3) := by decide +kernel
theorem dX6_use_5 : decode cX6_use 5 = .ok (.aload_n 0, 1) := by decide +kernel
theorem dX6_use_6 : decode cX6_use 6 = .ok (.iload_n 3, 1) := by decide +kernel
theorem dX6_use_7 : decode cX6_use 7 = .ok (.putfield 95, 3) := by decide +kernel
theorem dX6_use_10 : decode cX6_use 10 = .ok (.iconst 0, 1) := by decide +kernel
theorem dX6_use_11 : decode cX6_use 11 = .ok (.istore 4, 2) := by decide +kernel
theorem dX6_use_13 : decode cX6_use 13 = .ok (.iload 4, 2) := by decide +kernel
theorem dX6_use_15 : decode cX6_use 15 = .ok (.sipush 2500, 3) := by decide +kernel
theorem dX6_use_18 : decode cX6_use 18 = .ok (.if_icmp .ge 20, 3) := by decide +kernel
theorem dX6_use_21 : decode cX6_use 21 = .ok (.aload_n 0, 1) := by decide +kernel
theorem dX6_use_22 : decode cX6_use 22 = .ok (.getfield 64, 3) := by decide +kernel
theorem dX6_use_25 : decode cX6_use 25 = .ok (.iload 4, 2) := by decide +kernel
theorem dX6_use_27 : decode cX6_use 27 = .ok (.aload_n 1, 1) := by decide +kernel
theorem dX6_use_28 : decode cX6_use 28 = .ok (.iload 4, 2) := by decide +kernel
theorem dX6_use_30 : decode cX6_use 30 = .ok (.baload, 1) := by decide +kernel
theorem dX6_use_31 : decode cX6_use 31 = .ok (.bastore, 1) := by decide +kernel
theorem dX6_use_32 : decode cX6_use 32 = .ok (.iinc 4 1, 3) := by decide +kernel
theorem dX6_use_35 : decode cX6_use 35 = .ok (.goto (-22), 3) := by decide +kernel
theorem dX6_use_38 : decode cX6_use 38 = .ok (.iconst 0, 1) := by decide +kernel
theorem dX6_use_39 : decode cX6_use 39 = .ok (.istore 4, 2) := by decide +kernel
theorem dX6_use_41 : decode cX6_use 41 = .ok (.iload 4, 2) := by decide +kernel
theorem dX6_use_43 : decode cX6_use 43 = .ok (.bipush 50, 2) := by decide +kernel
theorem dX6_use_45 : decode cX6_use 45 = .ok (.if_icmp .ge 67, 3) := by decide +kernel
theorem dX6_use_48 : decode cX6_use 48 = .ok (.aload_n 0, 1) := by decide +kernel
theorem dX6_use_49 : decode cX6_use 49 = .ok (.getfield 67, 3) := by decide +kernel
theorem dX6_use_52 : decode cX6_use 52 = .ok (.iload 4, 2) := by decide +kernel
theorem dX6_use_54 : decode cX6_use 54 = .ok (.iload 4, 2) := by decide +kernel
theorem dX6_use_56 : decode cX6_use 56 = .ok (.aload_n 0, 1) := by decide +kernel
theorem dX6_use_57 : decode cX6_use 57 = .ok (.getfield 91, 3) := by decide +kernel
theorem dX6_use_60 : decode cX6_use 60 = .ok (.if_icmp .lt 7, 3) := by decide +kernel
theorem dX6_use_63 : decode cX6_use 63 = .ok (.iconst 1, 1) := by decide +kernel
theorem dX6_use_64 : decode cX6_use 64 = .ok (.goto 4, 3) := by decide +kernel
theorem dX6_use_67 : decode cX6_use 67 = .ok (.iconst 0, 1) := by decide +kernel
theorem dX6_use_68 : decode cX6_use 68 = .ok (.bastore, 1) := by decide +kernel
theorem dX6_use_69 : decode cX6_use 69 = .ok (.aload_n 0, 1) := by decide +kernel
theorem dX6_use_70 : decode cX6_use 70 = .ok (.getfield 70, 3) := by decide +kernel
theorem dX6_use_73 : decode cX6_use 73 = .ok (.iload 4, 2) := by decide +kernel
theorem dX6_use_75 : decode cX6_use 75 = .ok (.iload 4, 2) := by decide +kernel
theorem dX6_use_77 : decode cX6_use 77 = .ok (.aload_n 0, 1) := by decide +kernel
theorem dX6_use_78 : decode cX6_use 78 = .ok (.getfield 95, 3) := by decide +kernel
theorem dX6_use_81 : decode cX6_use 81 = .ok (.if_icmp .lt 7, 3) := by decide +kernel
theorem dX6_use_84 : decode cX6_use 84 = .ok (.iconst 1, 1) := by decide +kernel
theorem dX6_use_85 : decode cX6_use 85 = .ok (.goto 4, 3) := by decide +kernel
theorem dX6_use_88 : decode cX6_use 88 = .ok (.iconst 0, 1) := by decide +kernel
theorem dX6_use_89 : decode cX6_use 89 = .ok (.bastore, 1) := by decide +kernel
theorem dX6_use_90 : decode cX6_use 90 = .ok (.aload_n 0, 1) := by decide +kernel
theorem dX6_use_91 : decode cX6_use 91 = .ok (.getfield 73, 3) := by decide +kernel
theorem dX6_use_94 : decode cX6_use 94 = .ok (.iload 4, 2) := by decide +kernel
theorem dX6_use_96 : decode cX6_use 96 = .ok (.iconst (-1), 1) := by decide +kernel
theorem dX6_use_97 : decode cX6_use 97 = .ok (.iastore, 1) := by decide +kernel
theorem dX6_use_98 : decode cX6_use 98 = .ok (.aload_n 0, 1) := by decide +kernel
theorem dX6_use_99 : decode cX6_use 99 = .ok (.getfield 76, 3) := by decide +kernel
theorem dX6_use_102 : decode cX6_use 102 = .ok (.iload 4, 2) := by decide +kernel
theorem dX6_use_104 : decode cX6_use 104 = .ok (.iconst (-1), 1) := by decide +kernel
theorem dX6_use_105 : decode cX6_use 105 = .ok (.iastore, 1) := by decide +kernel
theorem dX6_use_106 : decode cX6_use 106 = .ok (.iinc 4 1, 3) := by decide +kernel
theorem dX6_use_109 : decode cX6_use 109 = .ok (.goto (-68), 3) := by decide +kernel
theorem dX6_use_112 : decode cX6_use 112 = .ok (.return_, 1) := by decide +kernel
theorem dX6_begin_0 : decode cX6_begin 0 = .ok (.aload_n 0, 1) := by decide +kernel
theorem dX6_begin_1 : decode cX6_begin 1 = .ok (.iconst 0, 1) := by decide +kernel
theorem dX6_begin_2 : decode cX6_begin 2 = .ok (.putfield 98, 3) := by decide +kernel
theorem dX6_begin_5 : decode cX6_begin 5 = .ok (.iconst 0, 1) := by decide +kernel
theorem dX6_begin_6 : decode cX6_begin 6 = .ok (.istore_n 1, 1) := by decide +kernel
theorem dX6_begin_7 : decode cX6_begin 7 = .ok (.iload_n 1, 1) := by decide +kernel
theorem dX6_begin_8 : decode cX6_begin 8 = .ok (.bipush 50, 2) := by decide +kernel
theorem dX6_begin_10 : decode cX6_begin 10 = .ok (.if_icmp .ge 16, 3) := by decide +kernel
theorem dX6_begin_13 : decode cX6_begin 13 = .ok (.aload_n 0, 1) := by decide +kernel
theorem dX6_begin_14 : decode cX6_begin 14 = .ok (.getfield 88, 3) := by decide +kernel
theorem dX6_begin_17 : decode cX6_begin 17 = .ok (.iload_n 1, 1) := by decide +kernel
theorem dX6_begin_18 : decode cX6_begin 18 = .ok (.iconst (-1), 1) := by decide +kernel
theorem dX6_begin_19 : decode cX6_begin 19 = .ok (.iastore, 1) := by decide +kernel
theorem dX6_begin_20 : decode cX6_begin 20 = .ok (.iinc 1 1, 3) := by decide +kernel
theorem dX6_begin_23 : decode cX6_begin 23 = .ok (.goto (-16), 3) := by decide +kernel
theorem dX6_begin_26 : decode cX6_begin 26 = .ok (.iconst 0, 1) := by decide +kernel
theorem dX6_begin_27 : decode cX6_begin 27 = .ok (.istore_n 1, 1) := by decide +kernel
theorem dX6_begin_28 : decode cX6_begin 28 = .ok (.iload_n 1, 1) := by decide +kernel
theorem dX6_begin_29 : decode cX6_begin 29 = .ok (.aload_n 0, 1) := by decide +kernel
theorem dX6_begin_30 : decode cX6_begin 30 = .ok (.getfield 91, 3) := by decide +kernel
theorem dX6_begin_33 : decode cX6_begin 33 = .ok (.if_icmp .ge 47, 3) := by decide +kernel
theorem dX6_begin_36 : decode cX6_begin 36 = .ok (.aload_n 0, 1) := by decide +kernel
theorem dX6_begin_37 : decode cX6_begin 37 = .ok (.getfield 67, 3) := by decide +kernel
theorem dX6_begin_40 : decode cX6_begin 40 = .ok (.iload_n 1, 1) := by decide +kernel
theorem dX6_begin_41 : decode cX6_begin 41 = .ok (.baload, 1) := by decide +kernel
theorem dX6_begin_42 : decode cX6_begin 42 = .ok (.ifCond .ne 32, 3) := by decide +kernel
theorem dX6_begin_45 : decode cX6_begin 45 = .ok (.aload_n 0, 1) := by decide +kernel
theorem dX6_begin_46 : decode cX6_begin 46 = .ok (.getfield 73, 3) := by decide +kernel
theorem dX6_begin_49 : decode cX6_begin 49 = .ok (.iload_n 1, 1) := by decide +kernel
theorem dX6_begin_50 : decode cX6_begin 50 = .ok (.iaload, 1) := by decide +kernel
theorem dX6_begin_51 : decode cX6_begin 51 = .ok (.ifCond .ge 23, 3) := by decide +kernel
theorem dX6_begin_54 : decode cX6_begin 54 = .ok (.aload_n 0, 1) := by decide +kernel
theorem dX6_begin_55 : decode cX6_begin 55 = .ok (.getfield 85, 3) := by decide +kernel
theorem dX6_begin_58 : decode cX6_begin 58 = .ok (.aload_n 0, 1) := by decide +kernel
theorem dX6_begin_59 : decode cX6_begin 59 = .ok (.getfield 98, 3) := by decide +kernel
theorem dX6_begin_62 : decode cX6_begin 62 = .ok (.iload_n 1, 1) := by decide +kernel
theorem dX6_begin_63 : decode cX6_begin 63 = .ok (.iastore, 1) := by decide +kernel
theorem dX6_begin_64 : decode cX6_begin 64 = .ok (.aload_n 0, 1) := by decide +kernel
theorem dX6_begin_65 : decode cX6_begin 65 = .ok (.dup, 1) := by decide +kernel
theorem dX6_begin_66 : decode cX6_begin 66 = .ok (.getfield 98, 3) := by decide +kernel
theorem dX6_begin_69 : decode cX6_begin 69 = .ok (.iconst 1, 1) := by decide +kernel
theorem dX6_begin_70 : decode cX6_begin 70 = .ok (.iadd, 1) := by decide +kernel
theorem dX6_begin_71 : decode cX6_begin 71 = .ok (.putfield 98, 3) := by decide +kernel
theorem dX6_begin_74 : decode cX6_begin 74 = .ok (.iinc 1 1, 3) := by decide +kernel
theorem dX6_begin_77 : decode cX6_begin 77 = .ok (.goto (-49), 3) := by decide +kernel
theorem dX6_begin_80 : decode cX6_begin 80 = .ok (.return_, 1) := by decide +kernel
theorem dX6_flip_0 : decode cX6_flip 0 = .ok (.iload_n 1, 1) := by decide +kernel
theorem dX6_flip_1 : decode cX6_flip 1 = .ok (.istore_n 2, 1) := by decide +kernel
theorem dX6_flip_2 : decode cX6_flip 2 = .ok (.iload_n 2, 1) := by decide +kernel
theorem dX6_flip_3 : decode cX6_flip 3 = .ok (.ifCond .lt 38, 3) := by decide +kernel
theorem dX6_flip_6 : decode cX6_flip 6 = .ok (.aload_n 0, 1) := by decide +kernel
theorem dX6_flip_7 : decode cX6_flip 7 = .ok (.getfield 88, 3) := by decide +kernel
theorem dX6_flip_10 : decode cX6_flip 10 = .ok (.iload_n 2, 1) := by decide +kernel
theorem dX6_flip_11 : decode cX6_flip 11 = .ok (.iaload, 1) := by decide +kernel
theorem dX6_flip_12 : decode cX6_flip 12 = .ok (.istore_n 3, 1) := by decide +kernel
theorem dX6_flip_13 : decode cX6_flip 13 = .ok (.aload_n 0, 1) := by decide +kernel
theorem dX6_flip_14 : decode cX6_flip 14 = .ok (.getfield 73, 3) := by decide +kernel
theorem dX6_flip_17 : decode cX6_flip 17 = .ok (.iload_n 3, 1) := by decide +kernel
theorem dX6_flip_18 : decode cX6_flip 18 = .ok (.iaload, 1) := by decide +kernel
theorem dX6_flip_19 : decode cX6_flip 19 = .ok (.istore 4, 2) := by decide +kernel
theorem dX6_flip_21 : decode cX6_flip 21 = .ok (.aload_n 0, 1) := by decide +kernel
theorem dX6_flip_22 : decode cX6_flip 22 = .ok (.getfield 73, 3) := by decide +kernel
theorem dX6_flip_25 : decode cX6_flip 25 = .ok (.iload_n 3, 1) := by decide +kernel
theorem dX6_flip_26 : decode cX6_flip 26 = .ok (.iload_n 2, 1) := by decide +kernel
theorem dX6_flip_27 : decode cX6_flip 27 = .ok (.iastore, 1) := by decide +kernel
theorem dX6_flip_28 : decode cX6_flip 28 = .ok (.aload_n 0, 1) := by decide +kernel
theorem dX6_flip_29 : decode cX6_flip 29 = .ok (.getfield 76, 3) := by decide +kernel
theorem dX6_flip_32 : decode cX6_flip 32 = .ok (.iload_n 2, 1) := by decide +kernel
theorem dX6_flip_33 : decode cX6_flip 33 = .ok (.iload_n 3, 1) := by decide +kernel
theorem dX6_flip_34 : decode cX6_flip 34 = .ok (.iastore, 1) := by decide +kernel
theorem dX6_flip_35 : decode cX6_flip 35 = .ok (.iload 4, 2) := by decide +kernel
theorem dX6_flip_37 : decode cX6_flip 37 = .ok (.istore_n 2, 1) := by decide +kernel
theorem dX6_flip_38 : decode cX6_flip 38 = .ok (.goto (-36), 3) := by decide +kernel
theorem dX6_flip_41 : decode cX6_flip 41 = .ok (.return_, 1) := by decide +kernel
theorem dX6_grow_0 : decode cX6_grow 0 = .ok (.aload_n 0, 1) := by decide +kernel
theorem dX6_grow_1 : decode cX6_grow 1 = .ok (.invokevirtual 101, 3) := by decide +kernel
theorem dX6_grow_4 : decode cX6_grow 4 = .ok (.iconst 0, 1) := by decide +kernel
theorem dX6_grow_5 : decode cX6_grow 5 = .ok (.istore_n 1, 1) := by decide +kernel
theorem dX6_grow_6 : decode cX6_grow 6 = .ok (.iload_n 1, 1) := by decide +kernel
theorem dX6_grow_7 : decode cX6_grow 7 = .ok (.aload_n 0, 1) := by decide +kernel
theorem dX6_grow_8 : decode cX6_grow 8 = .ok (.getfield 98, 3) := by decide +kernel
theorem dX6_grow_11 : decode cX6_grow 11 = .ok (.if_icmp .ge 112, 3) := by decide +kernel
theorem dX6_grow_14 : decode cX6_grow 14 = .ok (.aload_n 0, 1) := by decide +kernel
theorem dX6_grow_15 : decode cX6_grow 15 = .ok (.getfield 85, 3) := by decide +kernel
theorem dX6_grow_18 : decode cX6_grow 18 = .ok (.iload_n 1, 1) := by decide +kernel
theorem dX6_grow_19 : decode cX6_grow 19 = .ok (.iaload, 1) := by decide +kernel
theorem dX6_grow_20 : decode cX6_grow 20 = .ok (.istore_n 2, 1) := by decide +kernel
theorem dX6_grow_21 : decode cX6_grow 21 = .ok (.iconst 0, 1) := by decide +kernel
theorem dX6_grow_22 : decode cX6_grow 22 = .ok (.istore_n 3, 1) := by decide +kernel
theorem dX6_grow_23 : decode cX6_grow 23 = .ok (.iload_n 3, 1) := by decide +kernel
theorem dX6_grow_24 : decode cX6_grow 24 = .ok (.aload_n 0, 1) := by decide +kernel
theorem dX6_grow_25 : decode cX6_grow 25 = .ok (.getfield 95, 3) := by decide +kernel
theorem dX6_grow_28 : decode cX6_grow 28 = .ok (.if_icmp .ge 89, 3) := by decide +kernel
theorem dX6_grow_31 : decode cX6_grow 31 = .ok (.aload_n 0, 1) := by decide +kernel
theorem dX6_grow_32 : decode cX6_grow 32 = .ok (.getfield 64, 3) := by decide +kernel
theorem dX6_grow_35 : decode cX6_grow 35 = .ok (.bipush 50, 2) := by decide +kernel
theorem dX6_grow_37 : decode cX6_grow 37 = .ok (.iload_n 2, 1) := by decide +kernel
theorem dX6_grow_38 : decode cX6_grow 38 = .ok (.imul, 1) := by decide +kernel
theorem dX6_grow_39 : decode cX6_grow 39 = .ok (.iload_n 3, 1) := by decide +kernel
theorem dX6_grow_40 : decode cX6_grow 40 = .ok (.iadd, 1) := by decide +kernel
theorem dX6_grow_41 : decode cX6_grow 41 = .ok (.baload, 1) := by decide +kernel
theorem dX6_grow_42 : decode cX6_grow 42 = .ok (.ifCond .eq 69, 3) := by decide +kernel
theorem dX6_grow_45 : decode cX6_grow 45 = .ok (.aload_n 0, 1) := by decide +kernel
theorem dX6_grow_46 : decode cX6_grow 46 = .ok (.getfield 70, 3) := by decide +kernel
theorem dX6_grow_49 : decode cX6_grow 49 = .ok (.iload_n 3, 1) := by decide +kernel
theorem dX6_grow_50 : decode cX6_grow 50 = .ok (.baload, 1) := by decide +kernel
theorem dX6_grow_51 : decode cX6_grow 51 = .ok (.ifCond .ne 60, 3) := by decide +kernel
theorem dX6_grow_54 : decode cX6_grow 54 = .ok (.aload_n 0, 1) := by decide +kernel
theorem dX6_grow_55 : decode cX6_grow 55 = .ok (.getfield 88, 3) := by decide +kernel
theorem dX6_grow_58 : decode cX6_grow 58 = .ok (.iload_n 3, 1) := by decide +kernel
theorem dX6_grow_59 : decode cX6_grow 59 = .ok (.iaload, 1) := by decide +kernel
theorem dX6_grow_60 : decode cX6_grow 60 = .ok (.ifCond .ge 51, 3) := by decide +kernel
theorem dX6_grow_63 : decode cX6_grow 63 = .ok (.aload_n 0, 1) := by decide +kernel
theorem dX6_grow_64 : decode cX6_grow 64 = .ok (.getfield 88, 3) := by decide +kernel
theorem dX6_grow_67 : decode cX6_grow 67 = .ok (.iload_n 3, 1) := by decide +kernel
theorem dX6_grow_68 : decode cX6_grow 68 = .ok (.iload_n 2, 1) := by decide +kernel
theorem dX6_grow_69 : decode cX6_grow 69 = .ok (.iastore, 1) := by decide +kernel
theorem dX6_grow_70 : decode cX6_grow 70 = .ok (.aload_n 0, 1) := by decide +kernel
theorem dX6_grow_71 : decode cX6_grow 71 = .ok (.getfield 76, 3) := by decide +kernel
theorem dX6_grow_74 : decode cX6_grow 74 = .ok (.iload_n 3, 1) := by decide +kernel
theorem dX6_grow_75 : decode cX6_grow 75 = .ok (.iaload, 1) := by decide +kernel
theorem dX6_grow_76 : decode cX6_grow 76 = .ok (.ifCond .ge 10, 3) := by decide +kernel
theorem dX6_grow_79 : decode cX6_grow 79 = .ok (.aload_n 0, 1) := by decide +kernel
theorem dX6_grow_80 : decode cX6_grow 80 = .ok (.iload_n 3, 1) := by decide +kernel
theorem dX6_grow_81 : decode cX6_grow 81 = .ok (.invokevirtual 104, 3) := by decide +kernel
theorem dX6_grow_84 : decode cX6_grow 84 = .ok (.iconst 1, 1) := by decide +kernel
theorem dX6_grow_85 : decode cX6_grow 85 = .ok (.ireturn, 1) := by decide +kernel
theorem dX6_grow_86 : decode cX6_grow 86 = .ok (.aload_n 0, 1) := by decide +kernel
theorem dX6_grow_87 : decode cX6_grow 87 = .ok (.getfield 85, 3) := by decide +kernel
theorem dX6_grow_90 : decode cX6_grow 90 = .ok (.aload_n 0, 1) := by decide +kernel
theorem dX6_grow_91 : decode cX6_grow 91 = .ok (.getfield 98, 3) := by decide +kernel
theorem dX6_grow_94 : decode cX6_grow 94 = .ok (.aload_n 0, 1) := by decide +kernel
theorem dX6_grow_95 : decode cX6_grow 95 = .ok (.getfield 76, 3) := by decide +kernel
theorem dX6_grow_98 : decode cX6_grow 98 = .ok (.iload_n 3, 1) := by decide +kernel
theorem dX6_grow_99 : decode cX6_grow 99 = .ok (.iaload, 1) := by decide +kernel
theorem dX6_grow_100 : decode cX6_grow 100 = .ok (.iastore, 1) := by decide +kernel
theorem dX6_grow_101 : decode cX6_grow 101 = .ok (.aload_n 0, 1) := by decide +kernel
theorem dX6_grow_102 : decode cX6_grow 102 = .ok (.dup, 1) := by decide +kernel
theorem dX6_grow_103 : decode cX6_grow 103 = .ok (.getfield 98, 3) := by decide +kernel
theorem dX6_grow_106 : decode cX6_grow 106 = .ok (.iconst 1, 1) := by decide +kernel
theorem dX6_grow_107 : decode cX6_grow 107 = .ok (.iadd, 1) := by decide +kernel
theorem dX6_grow_108 : decode cX6_grow 108 = .ok (.putfield 98, 3) := by decide +kernel
theorem dX6_grow_111 : decode cX6_grow 111 = .ok (.iinc 3 1, 3) := by decide +kernel
theorem dX6_grow_114 : decode cX6_grow 114 = .ok (.goto (-91), 3) := by decide +kernel
theorem dX6_grow_117 : decode cX6_grow 117 = .ok (.iinc 1 1, 3) := by decide +kernel
theorem dX6_grow_120 : decode cX6_grow 120 = .ok (.goto (-114), 3) := by decide +kernel
theorem dX6_grow_123 : decode cX6_grow 123 = .ok (.iconst 0, 1) := by decide +kernel
theorem dX6_grow_124 : decode cX6_grow 124 = .ok (.ireturn, 1) := by decide +kernel
theorem dX6_growAll_0 : decode cX6_growAll 0 = .ok (.iconst 0, 1) := by decide +kernel
theorem dX6_growAll_1 : decode cX6_growAll 1 = .ok (.istore_n 1, 1) := by decide +kernel
theorem dX6_growAll_2 : decode cX6_growAll 2 = .ok (.aload_n 0, 1) := by decide +kernel
theorem dX6_growAll_3 : decode cX6_growAll 3 = .ok (.invokevirtual 108, 3) := by decide +kernel
theorem dX6_growAll_6 : decode cX6_growAll 6 = .ok (.ifCond .eq 9, 3) := by decide +kernel
theorem dX6_growAll_9 : decode cX6_growAll 9 = .ok (.iinc 1 1, 3) := by decide +kernel
theorem dX6_growAll_12 : decode cX6_growAll 12 = .ok (.goto (-10), 3) := by decide +kernel
theorem dX6_growAll_15 : decode cX6_growAll 15 = .ok (.iload_n 1, 1) := by decide +kernel
theorem dX6_growAll_16 : decode cX6_growAll 16 = .ok (.ireturn, 1) := by decide +kernel
theorem dX6_keep_0 : decode cX6_keep 0 = .ok (.iconst 0, 1) := by decide +kernel
theorem dX6_keep_1 : decode cX6_keep 1 = .ok (.istore_n 1, 1) := by decide +kernel
theorem dX6_keep_2 : decode cX6_keep 2 = .ok (.iload_n 1, 1) := by decide +kernel
theorem dX6_keep_3 : decode cX6_keep 3 = .ok (.bipush 50, 2) := by decide +kernel
theorem dX6_keep_5 : decode cX6_keep 5 = .ok (.if_icmp .ge 33, 3) := by decide +kernel
theorem dX6_keep_8 : decode cX6_keep 8 = .ok (.aload_n 0, 1) := by decide +kernel
theorem dX6_keep_9 : decode cX6_keep 9 = .ok (.getfield 79, 3) := by decide +kernel
theorem dX6_keep_12 : decode cX6_keep 12 = .ok (.iload_n 1, 1) := by decide +kernel
theorem dX6_keep_13 : decode cX6_keep 13 = .ok (.aload_n 0, 1) := by decide +kernel
theorem dX6_keep_14 : decode cX6_keep 14 = .ok (.getfield 73, 3) := by decide +kernel
theorem dX6_keep_17 : decode cX6_keep 17 = .ok (.iload_n 1, 1) := by decide +kernel
theorem dX6_keep_18 : decode cX6_keep 18 = .ok (.iaload, 1) := by decide +kernel
theorem dX6_keep_19 : decode cX6_keep 19 = .ok (.iastore, 1) := by decide +kernel
theorem dX6_keep_20 : decode cX6_keep 20 = .ok (.aload_n 0, 1) := by decide +kernel
theorem dX6_keep_21 : decode cX6_keep 21 = .ok (.getfield 82, 3) := by decide +kernel
theorem dX6_keep_24 : decode cX6_keep 24 = .ok (.iload_n 1, 1) := by decide +kernel
theorem dX6_keep_25 : decode cX6_keep 25 = .ok (.aload_n 0, 1) := by decide +kernel
theorem dX6_keep_26 : decode cX6_keep 26 = .ok (.getfield 76, 3) := by decide +kernel
theorem dX6_keep_29 : decode cX6_keep 29 = .ok (.iload_n 1, 1) := by decide +kernel
theorem dX6_keep_30 : decode cX6_keep 30 = .ok (.iaload, 1) := by decide +kernel
theorem dX6_keep_31 : decode cX6_keep 31 = .ok (.iastore, 1) := by decide +kernel
theorem dX6_keep_32 : decode cX6_keep 32 = .ok (.iinc 1 1, 3) := by decide +kernel
theorem dX6_keep_35 : decode cX6_keep 35 = .ok (.goto (-33), 3) := by decide +kernel
theorem dX6_keep_38 : decode cX6_keep 38 = .ok (.return_, 1) := by decide +kernel
theorem dX6_putBack_0 : decode cX6_putBack 0 = .ok (.iconst 0, 1) := by decide +kernel
theorem dX6_putBack_1 : decode cX6_putBack 1 = .ok (.istore_n 1, 1) := by decide +kernel
theorem dX6_putBack_2 : decode cX6_putBack 2 = .ok (.iload_n 1, 1) := by decide +kernel
theorem dX6_putBack_3 : decode cX6_putBack 3 = .ok (.bipush 50, 2) := by decide +kernel
theorem dX6_putBack_5 : decode cX6_putBack 5 = .ok (.if_icmp .ge 33, 3) := by decide +kernel
theorem dX6_putBack_8 : decode cX6_putBack 8 = .ok (.aload_n 0, 1) := by decide +kernel
theorem dX6_putBack_9 : decode cX6_putBack 9 = .ok (.getfield 73, 3) := by decide +kernel
theorem dX6_putBack_12 : decode cX6_putBack 12 = .ok (.iload_n 1, 1) := by decide +kernel
theorem dX6_putBack_13 : decode cX6_putBack 13 = .ok (.aload_n 0, 1) := by decide +kernel
theorem dX6_putBack_14 : decode cX6_putBack 14 = .ok (.getfield 79, 3) := by decide +kernel
theorem dX6_putBack_17 : decode cX6_putBack 17 = .ok (.iload_n 1, 1) := by decide +kernel
theorem dX6_putBack_18 : decode cX6_putBack 18 = .ok (.iaload, 1) := by decide +kernel
theorem dX6_putBack_19 : decode cX6_putBack 19 = .ok (.iastore, 1) := by decide +kernel
theorem dX6_putBack_20 : decode cX6_putBack 20 = .ok (.aload_n 0, 1) := by decide +kernel
theorem dX6_putBack_21 : decode cX6_putBack 21 = .ok (.getfield 76, 3) := by decide +kernel
theorem dX6_putBack_24 : decode cX6_putBack 24 = .ok (.iload_n 1, 1) := by decide +kernel
theorem dX6_putBack_25 : decode cX6_putBack 25 = .ok (.aload_n 0, 1) := by decide +kernel
theorem dX6_putBack_26 : decode cX6_putBack 26 = .ok (.getfield 82, 3) := by decide +kernel
theorem dX6_putBack_29 : decode cX6_putBack 29 = .ok (.iload_n 1, 1) := by decide +kernel
theorem dX6_putBack_30 : decode cX6_putBack 30 = .ok (.iaload, 1) := by decide +kernel
theorem dX6_putBack_31 : decode cX6_putBack 31 = .ok (.iastore, 1) := by decide +kernel
theorem dX6_putBack_32 : decode cX6_putBack 32 = .ok (.iinc 1 1, 3) := by decide +kernel
theorem dX6_putBack_35 : decode cX6_putBack 35 = .ok (.goto (-33), 3) := by decide +kernel
theorem dX6_putBack_38 : decode cX6_putBack 38 = .ok (.return_, 1) := by decide +kernel
theorem dX6_canMiss_0 : decode cX6_canMiss 0 = .ok (.iload_n 1, 1) := by decide +kernel
theorem dX6_canMiss_1 : decode cX6_canMiss 1 = .ok (.ifCond .eq 12, 3) := by decide +kernel
theorem dX6_canMiss_4 : decode cX6_canMiss 4 = .ok (.aload_n 0, 1) := by decide +kernel
theorem dX6_canMiss_5 : decode cX6_canMiss 5 = .ok (.getfield 73, 3) := by decide +kernel
theorem dX6_canMiss_8 : decode cX6_canMiss 8 = .ok (.iload_n 2, 1) := by decide +kernel
theorem dX6_canMiss_9 : decode cX6_canMiss 9 = .ok (.iaload, 1) := by decide +kernel
theorem dX6_canMiss_10 : decode cX6_canMiss 10 = .ok (.goto 9, 3) := by decide +kernel
theorem dX6_canMiss_13 : decode cX6_canMiss 13 = .ok (.aload_n 0, 1) := by decide +kernel
theorem dX6_canMiss_14 : decode cX6_canMiss 14 = .ok (.getfield 76, 3) := by decide +kernel
theorem dX6_canMiss_17 : decode cX6_canMiss 17 = .ok (.iload_n 2, 1) := by decide +kernel
theorem dX6_canMiss_18 : decode cX6_canMiss 18 = .ok (.iaload, 1) := by decide +kernel
theorem dX6_canMiss_19 : decode cX6_canMiss 19 = .ok (.istore_n 3, 1) := by decide +kernel
