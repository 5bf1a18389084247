theorem dX10_councils_100 : decode cX10_councils 100 = .ok (.istore_n 3, 1) := by decide +kernel
theorem dX10_councils_101 : decode cX10_councils 101 = .ok (.iconst 0, 1) := by decide +kernel
theorem dX10_councils_102 : decode cX10_councils 102 = .ok (.istore 4, 2) := by decide +kernel
theorem dX10_councils_104 : decode cX10_councils 104 = .ok (.iload 4, 2) := by decide +kernel
theorem dX10_councils_106 : decode cX10_councils 106 = .ok (.bipush 18, 2) := by decide +kernel
theorem dX10_councils_108 : decode cX10_councils 108 = .ok (.if_icmp .ge 23, 3) := by decide +kernel
theorem dX10_councils_111 : decode cX10_councils 111 = .ok (.aload_n 0, 1) := by decide +kernel
theorem dX10_councils_112 : decode cX10_councils 112 = .ok (.getfield 97, 3) := by decide +kernel
theorem dX10_councils_115 : decode cX10_councils 115 = .ok (.iload 4, 2) := by decide +kernel
theorem dX10_councils_117 : decode cX10_councils 117 = .ok (.aload_n 0, 1) := by decide +kernel
theorem dX10_councils_118 : decode cX10_councils 118 = .ok (.getfield 28, 3) := by decide +kernel
theorem dX10_councils_121 : decode cX10_councils 121 = .ok (.iload 4, 2) := by decide +kernel
theorem dX10_councils_123 : decode cX10_councils 123 = .ok (.iaload, 1) := by decide +kernel
theorem dX10_councils_124 : decode cX10_councils 124 = .ok (.iastore, 1) := by decide +kernel
theorem dX10_councils_125 : decode cX10_councils 125 = .ok (.iinc 4 1, 3) := by decide +kernel
theorem dX10_councils_128 : decode cX10_councils 128 = .ok (.goto (-24), 3) := by decide +kernel
theorem dX10_councils_131 : decode cX10_councils 131 = .ok (.aload_n 0, 1) := by decide +kernel
theorem dX10_councils_132 : decode cX10_councils 132 = .ok (.iconst 0, 1) := by decide +kernel
theorem dX10_councils_133 : decode cX10_councils 133 = .ok (.invokevirtual 378, 3) := by decide +kernel
theorem dX10_councils_136 : decode cX10_councils 136 = .ok (.aload_n 0, 1) := by decide +kernel
theorem dX10_councils_137 : decode cX10_councils 137 = .ok (.iload_n 3, 1) := by decide +kernel
theorem dX10_councils_138 : decode cX10_councils 138 = .ok (.invokevirtual 14, 3) := by decide +kernel
theorem dX10_councils_141 : decode cX10_councils 141 = .ok (.ireturn, 1) := by decide +kernel
theorem dX10_drawn_0 : decode cX10_drawn 0 = .ok (.iload_n 1, 1) := by decide +kernel
theorem dX10_drawn_1 : decode cX10_drawn 1 = .ok (.iconst 0, 1) := by decide +kernel
theorem dX10_drawn_2 : decode cX10_drawn 2 = .ok (.aload_n 0, 1) := by decide +kernel
theorem dX10_drawn_3 : decode cX10_drawn 3 = .ok (.getfield 100, 3) := by decide +kernel
theorem dX10_drawn_6 : decode cX10_drawn 6 = .ok (.iconst 1, 1) := by decide +kernel
theorem dX10_drawn_7 : decode cX10_drawn 7 = .ok (.isub, 1) := by decide +kernel
theorem dX10_drawn_8 : decode cX10_drawn 8 = .ok (.invokestatic 18, 3) := by decide +kernel
theorem dX10_drawn_11 : decode cX10_drawn 11 = .ok (.ifCond .ne 5, 3) := by decide +kernel
theorem dX10_drawn_14 : decode cX10_drawn 14 = .ok (.iconst (-1), 1) := by decide +kernel
theorem dX10_drawn_15 : decode cX10_drawn 15 = .ok (.ireturn, 1) := by decide +kernel
theorem dX10_drawn_16 : decode cX10_drawn 16 = .ok (.iload_n 2, 1) := by decide +kernel
theorem dX10_drawn_17 : decode cX10_drawn 17 = .ok (.tableswitch 57 0 2 #[27, 36, 47], 27) := by decide +kernel
theorem dX10_drawn_44 : decode cX10_drawn 44 = .ok (.aload_n 0, 1) := by decide +kernel
theorem dX10_drawn_45 : decode cX10_drawn 45 = .ok (.getfield 97, 3) := by decide +kernel
theorem dX10_drawn_48 : decode cX10_drawn 48 = .ok (.iconst 1, 1) := by decide +kernel
theorem dX10_drawn_49 : decode cX10_drawn 49 = .ok (.iload_n 1, 1) := by decide +kernel
theorem dX10_drawn_50 : decode cX10_drawn 50 = .ok (.iadd, 1) := by decide +kernel
theorem dX10_drawn_51 : decode cX10_drawn 51 = .ok (.iaload, 1) := by decide +kernel
theorem dX10_drawn_52 : decode cX10_drawn 52 = .ok (.ireturn, 1) := by decide +kernel
theorem dX10_drawn_53 : decode cX10_drawn 53 = .ok (.aload_n 0, 1) := by decide +kernel
theorem dX10_drawn_54 : decode cX10_drawn 54 = .ok (.getfield 97, 3) := by decide +kernel
theorem dX10_drawn_57 : decode cX10_drawn 57 = .ok (.iconst 0, 1) := by decide +kernel
theorem dX10_drawn_58 : decode cX10_drawn 58 = .ok (.iaload, 1) := by decide +kernel
theorem dX10_drawn_59 : decode cX10_drawn 59 = .ok (.iload_n 1, 1) := by decide +kernel
theorem dX10_drawn_60 : decode cX10_drawn 60 = .ok (.ishr, 1) := by decide +kernel
theorem dX10_drawn_61 : decode cX10_drawn 61 = .ok (.iconst 1, 1) := by decide +kernel
theorem dX10_drawn_62 : decode cX10_drawn 62 = .ok (.iand, 1) := by decide +kernel
theorem dX10_drawn_63 : decode cX10_drawn 63 = .ok (.ireturn, 1) := by decide +kernel
theorem dX10_drawn_64 : decode cX10_drawn 64 = .ok (.aload_n 0, 1) := by decide +kernel
theorem dX10_drawn_65 : decode cX10_drawn 65 = .ok (.getfield 97, 3) := by decide +kernel
theorem dX10_drawn_68 : decode cX10_drawn 68 = .ok (.bipush 9, 2) := by decide +kernel
theorem dX10_drawn_70 : decode cX10_drawn 70 = .ok (.iload_n 1, 1) := by decide +kernel
theorem dX10_drawn_71 : decode cX10_drawn 71 = .ok (.iadd, 1) := by decide +kernel
theorem dX10_drawn_72 : decode cX10_drawn 72 = .ok (.iaload, 1) := by decide +kernel
theorem dX10_drawn_73 : decode cX10_drawn 73 = .ok (.ireturn, 1) := by decide +kernel
theorem dX10_drawn_74 : decode cX10_drawn 74 = .ok (.iconst (-1), 1) := by decide +kernel
theorem dX10_drawn_75 : decode cX10_drawn 75 = .ok (.ireturn, 1) := by decide +kernel
theorem dX10_refusals_0 : decode cX10_refusals 0 = .ok (.iload_n 1, 1) := by decide +kernel
theorem dX10_refusals_1 : decode cX10_refusals 1 = .ok (.iconst 3, 1) := by decide +kernel
theorem dX10_refusals_2 : decode cX10_refusals 2 = .ok (.if_icmp .ge 14, 3) := by decide +kernel
theorem dX10_refusals_5 : decode cX10_refusals 5 = .ok (.aload_n 0, 1) := by decide +kernel
theorem dX10_refusals_6 : decode cX10_refusals 6 = .ok (.getfield 7, 3) := by decide +kernel
theorem dX10_refusals_9 : decode cX10_refusals 9 = .ok (.iload_n 1, 1) := by decide +kernel
theorem dX10_refusals_10 : decode cX10_refusals 10 = .ok (.iconst 1, 1) := by decide +kernel
theorem dX10_refusals_11 : decode cX10_refusals 11 = .ok (.iadd, 1) := by decide +kernel
theorem dX10_refusals_12 : decode cX10_refusals 12 = .ok (.iaload, 1) := by decide +kernel
theorem dX10_refusals_13 : decode cX10_refusals 13 = .ok (.goto 11, 3) := by decide +kernel
theorem dX10_refusals_16 : decode cX10_refusals 16 = .ok (.aload_n 0, 1) := by decide +kernel
theorem dX10_refusals_17 : decode cX10_refusals 17 = .ok (.getfield 7, 3) := by decide +kernel
theorem dX10_refusals_20 : decode cX10_refusals 20 = .ok (.iload_n 1, 1) := by decide +kernel
theorem dX10_refusals_21 : decode cX10_refusals 21 = .ok (.iconst 2, 1) := by decide +kernel
theorem dX10_refusals_22 : decode cX10_refusals 22 = .ok (.iadd, 1) := by decide +kernel
theorem dX10_refusals_23 : decode cX10_refusals 23 = .ok (.iaload, 1) := by decide +kernel
theorem dX10_refusals_24 : decode cX10_refusals 24 = .ok (.ireturn, 1) := by decide +kernel
theorem dX10_count_0 : decode cX10_count 0 = .ok (.iload_n 1, 1) := by decide +kernel
theorem dX10_count_1 : decode cX10_count 1 = .ok (.bipush 6, 2) := by decide +kernel
theorem dX10_count_3 : decode cX10_count 3 = .ok (.bipush 10, 2) := by decide +kernel
theorem dX10_count_5 : decode cX10_count 5 = .ok (.invokestatic 18, 3) := by decide +kernel
theorem dX10_count_8 : decode cX10_count 8 = .ok (.ifCond .eq 12, 3) := by decide +kernel
theorem dX10_count_11 : decode cX10_count 11 = .ok (.aload_n 0, 1) := by decide +kernel
theorem dX10_count_12 : decode cX10_count 12 = .ok (.iload_n 1, 1) := by decide +kernel
theorem dX10_count_13 : decode cX10_count 13 = .ok (.bipush 6, 2) := by decide +kernel
theorem dX10_count_15 : decode cX10_count 15 = .ok (.isub, 1) := by decide +kernel
theorem dX10_count_16 : decode cX10_count 16 = .ok (.invokevirtual 495, 3) := by decide +kernel
theorem dX10_count_19 : decode cX10_count 19 = .ok (.ireturn, 1) := by decide +kernel
theorem dX10_count_20 : decode cX10_count 20 = .ok (.iload_n 1, 1) := by decide +kernel
theorem dX10_count_21 : decode cX10_count 21 = .ok (.bipush 12, 2) := by decide +kernel
theorem dX10_count_23 : decode cX10_count 23 = .ok (.bipush 15, 2) := by decide +kernel
theorem dX10_count_25 : decode cX10_count 25 = .ok (.invokestatic 18, 3) := by decide +kernel
theorem dX10_count_28 : decode cX10_count 28 = .ok (.ifCond .eq 16, 3) := by decide +kernel
theorem dX10_count_31 : decode cX10_count 31 = .ok (.aload_n 0, 1) := by decide +kernel
theorem dX10_count_32 : decode cX10_count 32 = .ok (.getfield 28, 3) := by decide +kernel
theorem dX10_count_35 : decode cX10_count 35 = .ok (.iload_n 1, 1) := by decide +kernel
theorem dX10_count_36 : decode cX10_count 36 = .ok (.bipush 12, 2) := by decide +kernel
theorem dX10_count_38 : decode cX10_count 38 = .ok (.isub, 1) := by decide +kernel
theorem dX10_count_39 : decode cX10_count 39 = .ok (.invokestatic 156, 3) := by decide +kernel
theorem dX10_count_42 : decode cX10_count 42 = .ok (.iaload, 1) := by decide +kernel
theorem dX10_count_43 : decode cX10_count 43 = .ok (.ireturn, 1) := by decide +kernel
theorem dX10_count_44 : decode cX10_count 44 = .ok (.iload_n 1, 1) := by decide +kernel
theorem dX10_count_45 : decode cX10_count 45 = .ok (.tableswitch 112 0 11 #[63, 68, 78, 86, 94, 99, 112, 112, 112, 112, 112, 104], 63) := by decide +kernel
theorem dX10_count_108 : decode cX10_count 108 = .ok (.aload_n 0, 1) := by decide +kernel
theorem dX10_count_109 : decode cX10_count 109 = .ok (.invokevirtual 109, 3) := by decide +kernel
theorem dX10_count_112 : decode cX10_count 112 = .ok (.ireturn, 1) := by decide +kernel
theorem dX10_count_113 : decode cX10_count 113 = .ok (.aload_n 0, 1) := by decide +kernel
theorem dX10_count_114 : decode cX10_count 114 = .ok (.getfield 28, 3) := by decide +kernel
theorem dX10_count_117 : decode cX10_count 117 = .ok (.iconst 0, 1) := by decide +kernel
theorem dX10_count_118 : decode cX10_count 118 = .ok (.iaload, 1) := by decide +kernel
theorem dX10_count_119 : decode cX10_count 119 = .ok (.invokestatic 313, 3) := by decide +kernel
theorem dX10_count_122 : decode cX10_count 122 = .ok (.ireturn, 1) := by decide +kernel
theorem dX10_count_123 : decode cX10_count 123 = .ok (.aload_n 0, 1) := by decide +kernel
theorem dX10_count_124 : decode cX10_count 124 = .ok (.getfield 28, 3) := by decide +kernel
theorem dX10_count_127 : decode cX10_count 127 = .ok (.bipush 50, 2) := by decide +kernel
theorem dX10_count_129 : decode cX10_count 129 = .ok (.iaload, 1) := by decide +kernel
theorem dX10_count_130 : decode cX10_count 130 = .ok (.ireturn, 1) := by decide +kernel
theorem dX10_count_131 : decode cX10_count 131 = .ok (.aload_n 0, 1) := by decide +kernel
theorem dX10_count_132 : decode cX10_count 132 = .ok (.getfield 28, 3) := by decide +kernel
theorem dX10_count_135 : decode cX10_count 135 = .ok (.bipush 51, 2) := by decide +kernel
theorem dX10_count_137 : decode cX10_count 137 = .ok (.iaload, 1) := by decide +kernel
theorem dX10_count_138 : decode cX10_count 138 = .ok (.ireturn, 1) := by decide +kernel
theorem dX10_count_139 : decode cX10_count 139 = .ok (.aload_n 0, 1) := by decide +kernel
theorem dX10_count_140 : decode cX10_count 140 = .ok (.getfield 11, 3) := by decide +kernel
theorem dX10_count_143 : decode cX10_count 143 = .ok (.ireturn, 1) := by decide +kernel
theorem dX10_count_144 : decode cX10_count 144 = .ok (.aload_n 0, 1) := by decide +kernel
theorem dX10_count_145 : decode cX10_count 145 = .ok (.getfield 165, 3) := by decide +kernel
theorem dX10_count_148 : decode cX10_count 148 = .ok (.ireturn, 1) := by decide +kernel
theorem dX10_count_149 : decode cX10_count 149 = .ok (.aload_n 0, 1) := by decide +kernel
theorem dX10_count_150 : decode cX10_count 150 = .ok (.getfield 28, 3) := by decide +kernel
theorem dX10_count_153 : decode cX10_count 153 = .ok (.bipush 52, 2) := by decide +kernel
theorem dX10_count_155 : decode cX10_count 155 = .ok (.iaload, 1) := by decide +kernel
theorem dX10_count_156 : decode cX10_count 156 = .ok (.ireturn, 1) := by decide +kernel
theorem dX10_count_157 : decode cX10_count 157 = .ok (.iconst (-1), 1) := by decide +kernel
theorem dX10_count_158 : decode cX10_count 158 = .ok (.ireturn, 1) := by decide +kernel
theorem dX10_status_0 : decode cX10_status 0 = .ok (.aload_n 0, 1) := by decide +kernel
theorem dX10_status_1 : decode cX10_status 1 = .ok (.getfield 3, 3) := by decide +kernel
theorem dX10_status_4 : decode cX10_status 4 = .ok (.ireturn, 1) := by decide +kernel
