theorem dX10_partOf_111 : decode cX10_partOf 111 = .ok (.lconst 0, 1) := by decide +kernel
theorem dX10_partOf_112 : decode cX10_partOf 112 = .ok (.lreturn, 1) := by decide +kernel
theorem dX10_partOf_113 : decode cX10_partOf 113 = .ok (.iload_n 2, 1) := by decide +kernel
theorem dX10_partOf_114 : decode cX10_partOf 114 = .ok (.bipush 50, 2) := by decide +kernel
theorem dX10_partOf_116 : decode cX10_partOf 116 = .ok (.if_icmp .ne 20, 3) := by decide +kernel
theorem dX10_partOf_119 : decode cX10_partOf 119 = .ok (.aload_n 0, 1) := by decide +kernel
theorem dX10_partOf_120 : decode cX10_partOf 120 = .ok (.getfield 28, 3) := by decide +kernel
theorem dX10_partOf_123 : decode cX10_partOf 123 = .ok (.sipush 2860, 3) := by decide +kernel
theorem dX10_partOf_126 : decode cX10_partOf 126 = .ok (.aload_n 0, 1) := by decide +kernel
theorem dX10_partOf_127 : decode cX10_partOf 127 = .ok (.getfield 277, 3) := by decide +kernel
theorem dX10_partOf_130 : decode cX10_partOf 130 = .ok (.iadd, 1) := by decide +kernel
theorem dX10_partOf_131 : decode cX10_partOf 131 = .ok (.iconst 1, 1) := by decide +kernel
theorem dX10_partOf_132 : decode cX10_partOf 132 = .ok (.isub, 1) := by decide +kernel
theorem dX10_partOf_133 : decode cX10_partOf 133 = .ok (.iaload, 1) := by decide +kernel
theorem dX10_partOf_134 : decode cX10_partOf 134 = .ok (.i2l, 1) := by decide +kernel
theorem dX10_partOf_135 : decode cX10_partOf 135 = .ok (.lreturn, 1) := by decide +kernel
theorem dX10_partOf_136 : decode cX10_partOf 136 = .ok (.aload_n 0, 1) := by decide +kernel
theorem dX10_partOf_137 : decode cX10_partOf 137 = .ok (.getfield 307, 3) := by decide +kernel
theorem dX10_partOf_140 : decode cX10_partOf 140 = .ok (.ifCond .eq 13, 3) := by decide +kernel
theorem dX10_partOf_143 : decode cX10_partOf 143 = .ok (.aload_n 0, 1) := by decide +kernel
theorem dX10_partOf_144 : decode cX10_partOf 144 = .ok (.iload_n 2, 1) := by decide +kernel
theorem dX10_partOf_145 : decode cX10_partOf 145 = .ok (.iload_n 3, 1) := by decide +kernel
theorem dX10_partOf_146 : decode cX10_partOf 146 = .ok (.invokevirtual 310, 3) := by decide +kernel
theorem dX10_partOf_149 : decode cX10_partOf 149 = .ok (.i2l, 1) := by decide +kernel
theorem dX10_partOf_150 : decode cX10_partOf 150 = .ok (.goto 13, 3) := by decide +kernel
theorem dX10_partOf_153 : decode cX10_partOf 153 = .ok (.aload_n 0, 1) := by decide +kernel
theorem dX10_partOf_154 : decode cX10_partOf 154 = .ok (.getfield 63, 3) := by decide +kernel
theorem dX10_partOf_157 : decode cX10_partOf 157 = .ok (.iload_n 2, 1) := by decide +kernel
theorem dX10_partOf_158 : decode cX10_partOf 158 = .ok (.bipush 8, 2) := by decide +kernel
theorem dX10_partOf_160 : decode cX10_partOf 160 = .ok (.isub, 1) := by decide +kernel
theorem dX10_partOf_161 : decode cX10_partOf 161 = .ok (.iaload, 1) := by decide +kernel
theorem dX10_partOf_162 : decode cX10_partOf 162 = .ok (.i2l, 1) := by decide +kernel
theorem dX10_partOf_163 : decode cX10_partOf 163 = .ok (.lreturn, 1) := by decide +kernel
theorem dX10_orderValue_0 : decode cX10_orderValue 0 = .ok (.iload_n 1, 1) := by decide +kernel
theorem dX10_orderValue_1 : decode cX10_orderValue 1 = .ok (.tableswitch 135 13 19 #[43, 64, 112, 122, 130, 135, 86], 43) := by decide +kernel
theorem dX10_orderValue_44 : decode cX10_orderValue 44 = .ok (.aload_n 0, 1) := by decide +kernel
theorem dX10_orderValue_45 : decode cX10_orderValue 45 = .ok (.iload_n 2, 1) := by decide +kernel
theorem dX10_orderValue_46 : decode cX10_orderValue 46 = .ok (.invokevirtual 128, 3) := by decide +kernel
theorem dX10_orderValue_49 : decode cX10_orderValue 49 = .ok (.ifCond .eq 14, 3) := by decide +kernel
theorem dX10_orderValue_52 : decode cX10_orderValue 52 = .ok (.aload_n 0, 1) := by decide +kernel
theorem dX10_orderValue_53 : decode cX10_orderValue 53 = .ok (.getfield 28, 3) := by decide +kernel
theorem dX10_orderValue_56 : decode cX10_orderValue 56 = .ok (.iconst 1, 1) := by decide +kernel
theorem dX10_orderValue_57 : decode cX10_orderValue 57 = .ok (.iload_n 2, 1) := by decide +kernel
theorem dX10_orderValue_58 : decode cX10_orderValue 58 = .ok (.iadd, 1) := by decide +kernel
theorem dX10_orderValue_59 : decode cX10_orderValue 59 = .ok (.iaload, 1) := by decide +kernel
theorem dX10_orderValue_60 : decode cX10_orderValue 60 = .ok (.goto 4, 3) := by decide +kernel
theorem dX10_orderValue_63 : decode cX10_orderValue 63 = .ok (.iconst (-1), 1) := by decide +kernel
theorem dX10_orderValue_64 : decode cX10_orderValue 64 = .ok (.ireturn, 1) := by decide +kernel
theorem dX10_orderValue_65 : decode cX10_orderValue 65 = .ok (.aload_n 0, 1) := by decide +kernel
theorem dX10_orderValue_66 : decode cX10_orderValue 66 = .ok (.iload_n 2, 1) := by decide +kernel
theorem dX10_orderValue_67 : decode cX10_orderValue 67 = .ok (.invokevirtual 128, 3) := by decide +kernel
theorem dX10_orderValue_70 : decode cX10_orderValue 70 = .ok (.ifCond .eq 15, 3) := by decide +kernel
theorem dX10_orderValue_73 : decode cX10_orderValue 73 = .ok (.aload_n 0, 1) := by decide +kernel
theorem dX10_orderValue_74 : decode cX10_orderValue 74 = .ok (.getfield 28, 3) := by decide +kernel
theorem dX10_orderValue_77 : decode cX10_orderValue 77 = .ok (.bipush 9, 2) := by decide +kernel
theorem dX10_orderValue_79 : decode cX10_orderValue 79 = .ok (.iload_n 2, 1) := by decide +kernel
theorem dX10_orderValue_80 : decode cX10_orderValue 80 = .ok (.iadd, 1) := by decide +kernel
theorem dX10_orderValue_81 : decode cX10_orderValue 81 = .ok (.iaload, 1) := by decide +kernel
theorem dX10_orderValue_82 : decode cX10_orderValue 82 = .ok (.goto 4, 3) := by decide +kernel
theorem dX10_orderValue_85 : decode cX10_orderValue 85 = .ok (.iconst (-1), 1) := by decide +kernel
theorem dX10_orderValue_86 : decode cX10_orderValue 86 = .ok (.ireturn, 1) := by decide +kernel
theorem dX10_orderValue_87 : decode cX10_orderValue 87 = .ok (.aload_n 0, 1) := by decide +kernel
theorem dX10_orderValue_88 : decode cX10_orderValue 88 = .ok (.iload_n 2, 1) := by decide +kernel
theorem dX10_orderValue_89 : decode cX10_orderValue 89 = .ok (.invokevirtual 128, 3) := by decide +kernel
theorem dX10_orderValue_92 : decode cX10_orderValue 92 = .ok (.ifCond .ne 7, 3) := by decide +kernel
theorem dX10_orderValue_95 : decode cX10_orderValue 95 = .ok (.iconst (-1), 1) := by decide +kernel
theorem dX10_orderValue_96 : decode cX10_orderValue 96 = .ok (.goto 16, 3) := by decide +kernel
theorem dX10_orderValue_99 : decode cX10_orderValue 99 = .ok (.aload_n 0, 1) := by decide +kernel
theorem dX10_orderValue_100 : decode cX10_orderValue 100 = .ok (.iload_n 2, 1) := by decide +kernel
theorem dX10_orderValue_101 : decode cX10_orderValue 101 = .ok (.invokevirtual 131, 3) := by decide +kernel
theorem dX10_orderValue_104 : decode cX10_orderValue 104 = .ok (.ifCond .eq 7, 3) := by decide +kernel
theorem dX10_orderValue_107 : decode cX10_orderValue 107 = .ok (.iconst 1, 1) := by decide +kernel
theorem dX10_orderValue_108 : decode cX10_orderValue 108 = .ok (.goto 4, 3) := by decide +kernel
theorem dX10_orderValue_111 : decode cX10_orderValue 111 = .ok (.iconst 0, 1) := by decide +kernel
theorem dX10_orderValue_112 : decode cX10_orderValue 112 = .ok (.ireturn, 1) := by decide +kernel
theorem dX10_orderValue_113 : decode cX10_orderValue 113 = .ok (.aload_n 0, 1) := by decide +kernel
theorem dX10_orderValue_114 : decode cX10_orderValue 114 = .ok (.getfield 28, 3) := by decide +kernel
theorem dX10_orderValue_117 : decode cX10_orderValue 117 = .ok (.iconst 0, 1) := by decide +kernel
theorem dX10_orderValue_118 : decode cX10_orderValue 118 = .ok (.iaload, 1) := by decide +kernel
theorem dX10_orderValue_119 : decode cX10_orderValue 119 = .ok (.invokestatic 313, 3) := by decide +kernel
theorem dX10_orderValue_122 : decode cX10_orderValue 122 = .ok (.ireturn, 1) := by decide +kernel
theorem dX10_orderValue_123 : decode cX10_orderValue 123 = .ok (.aload_n 0, 1) := by decide +kernel
theorem dX10_orderValue_124 : decode cX10_orderValue 124 = .ok (.getfield 28, 3) := by decide +kernel
theorem dX10_orderValue_127 : decode cX10_orderValue 127 = .ok (.bipush 17, 2) := by decide +kernel
theorem dX10_orderValue_129 : decode cX10_orderValue 129 = .ok (.iaload, 1) := by decide +kernel
theorem dX10_orderValue_130 : decode cX10_orderValue 130 = .ok (.ireturn, 1) := by decide +kernel
theorem dX10_orderValue_131 : decode cX10_orderValue 131 = .ok (.aload_n 0, 1) := by decide +kernel
theorem dX10_orderValue_132 : decode cX10_orderValue 132 = .ok (.getfield 316, 3) := by decide +kernel
theorem dX10_orderValue_135 : decode cX10_orderValue 135 = .ok (.ireturn, 1) := by decide +kernel
theorem dX10_orderValue_136 : decode cX10_orderValue 136 = .ok (.aload_n 0, 1) := by decide +kernel
theorem dX10_orderValue_137 : decode cX10_orderValue 137 = .ok (.getfield 319, 3) := by decide +kernel
theorem dX10_orderValue_140 : decode cX10_orderValue 140 = .ok (.ireturn, 1) := by decide +kernel
theorem dX10_testOf_0 : decode cX10_testOf 0 = .ok (.aload_n 0, 1) := by decide +kernel
theorem dX10_testOf_1 : decode cX10_testOf 1 = .ok (.iload_n 1, 1) := by decide +kernel
theorem dX10_testOf_2 : decode cX10_testOf 2 = .ok (.invokevirtual 322, 3) := by decide +kernel
theorem dX10_testOf_5 : decode cX10_testOf 5 = .ok (.istore_n 2, 1) := by decide +kernel
theorem dX10_testOf_6 : decode cX10_testOf 6 = .ok (.aload_n 0, 1) := by decide +kernel
theorem dX10_testOf_7 : decode cX10_testOf 7 = .ok (.iconst 5, 1) := by decide +kernel
theorem dX10_testOf_8 : decode cX10_testOf 8 = .ok (.invokevirtual 301, 3) := by decide +kernel
theorem dX10_testOf_11 : decode cX10_testOf 11 = .ok (.ifCond .eq 38, 3) := by decide +kernel
theorem dX10_testOf_14 : decode cX10_testOf 14 = .ok (.aload_n 0, 1) := by decide +kernel
theorem dX10_testOf_15 : decode cX10_testOf 15 = .ok (.iload_n 1, 1) := by decide +kernel
theorem dX10_testOf_16 : decode cX10_testOf 16 = .ok (.ifCond .eq 11, 3) := by decide +kernel
theorem dX10_testOf_19 : decode cX10_testOf 19 = .ok (.iload_n 2, 1) := by decide +kernel
theorem dX10_testOf_20 : decode cX10_testOf 20 = .ok (.ifCond .ne 7, 3) := by decide +kernel
theorem dX10_testOf_23 : decode cX10_testOf 23 = .ok (.iconst 1, 1) := by decide +kernel
theorem dX10_testOf_24 : decode cX10_testOf 24 = .ok (.goto 4, 3) := by decide +kernel
theorem dX10_testOf_27 : decode cX10_testOf 27 = .ok (.iconst 0, 1) := by decide +kernel
theorem dX10_testOf_28 : decode cX10_testOf 28 = .ok (.invokevirtual 322, 3) := by decide +kernel
theorem dX10_testOf_31 : decode cX10_testOf 31 = .ok (.istore_n 3, 1) := by decide +kernel
theorem dX10_testOf_32 : decode cX10_testOf 32 = .ok (.iload_n 2, 1) := by decide +kernel
theorem dX10_testOf_33 : decode cX10_testOf 33 = .ok (.ifCond .ne 7, 3) := by decide +kernel
theorem dX10_testOf_36 : decode cX10_testOf 36 = .ok (.iload_n 3, 1) := by decide +kernel
theorem dX10_testOf_37 : decode cX10_testOf 37 = .ok (.ifCond .eq 7, 3) := by decide +kernel
theorem dX10_testOf_40 : decode cX10_testOf 40 = .ok (.iconst 1, 1) := by decide +kernel
theorem dX10_testOf_41 : decode cX10_testOf 41 = .ok (.goto 4, 3) := by decide +kernel
theorem dX10_testOf_44 : decode cX10_testOf 44 = .ok (.iconst 0, 1) := by decide +kernel
theorem dX10_testOf_45 : decode cX10_testOf 45 = .ok (.istore_n 2, 1) := by decide +kernel
theorem dX10_testOf_46 : decode cX10_testOf 46 = .ok (.goto (-40), 3) := by decide +kernel
theorem dX10_testOf_49 : decode cX10_testOf 49 = .ok (.iload_n 2, 1) := by decide +kernel
theorem dX10_testOf_50 : decode cX10_testOf 50 = .ok (.ireturn, 1) := by decide +kernel
theorem dX10_bothOf_0 : decode cX10_bothOf 0 = .ok (.aload_n 0, 1) := by decide +kernel
theorem dX10_bothOf_1 : decode cX10_bothOf 1 = .ok (.iload_n 1, 1) := by decide +kernel
theorem dX10_bothOf_2 : decode cX10_bothOf 2 = .ok (.invokevirtual 325, 3) := by decide +kernel
theorem dX10_bothOf_5 : decode cX10_bothOf 5 = .ok (.istore_n 2, 1) := by decide +kernel
theorem dX10_bothOf_6 : decode cX10_bothOf 6 = .ok (.aload_n 0, 1) := by decide +kernel
theorem dX10_bothOf_7 : decode cX10_bothOf 7 = .ok (.bipush 6, 2) := by decide +kernel
theorem dX10_bothOf_9 : decode cX10_bothOf 9 = .ok (.invokevirtual 301, 3) := by decide +kernel
theorem dX10_bothOf_12 : decode cX10_bothOf 12 = .ok (.ifCond .eq 38, 3) := by decide +kernel
theorem dX10_bothOf_15 : decode cX10_bothOf 15 = .ok (.aload_n 0, 1) := by decide +kernel
theorem dX10_bothOf_16 : decode cX10_bothOf 16 = .ok (.iload_n 1, 1) := by decide +kernel
theorem dX10_bothOf_17 : decode cX10_bothOf 17 = .ok (.ifCond .eq 11, 3) := by decide +kernel
theorem dX10_bothOf_20 : decode cX10_bothOf 20 = .ok (.iload_n 2, 1) := by decide +kernel
theorem dX10_bothOf_21 : decode cX10_bothOf 21 = .ok (.ifCond .eq 7, 3) := by decide +kernel
theorem dX10_bothOf_24 : decode cX10_bothOf 24 = .ok (.iconst 1, 1) := by decide +kernel
theorem dX10_bothOf_25 : decode cX10_bothOf 25 = .ok (.goto 4, 3) := by decide +kernel
theorem dX10_bothOf_28 : decode cX10_bothOf 28 = .ok (.iconst 0, 1) := by decide +kernel
theorem dX10_bothOf_29 : decode cX10_bothOf 29 = .ok (.invokevirtual 325, 3) := by decide +kernel
theorem dX10_bothOf_32 : decode cX10_bothOf 32 = .ok (.istore_n 3, 1) := by decide +kernel
theorem dX10_bothOf_33 : decode cX10_bothOf 33 = .ok (.iload_n 2, 1) := by decide +kernel
theorem dX10_bothOf_34 : decode cX10_bothOf 34 = .ok (.ifCond .eq 11, 3) := by decide +kernel
theorem dX10_bothOf_37 : decode cX10_bothOf 37 = .ok (.iload_n 3, 1) := by decide +kernel
theorem dX10_bothOf_38 : decode cX10_bothOf 38 = .ok (.ifCond .eq 7, 3) := by decide +kernel
theorem dX10_bothOf_41 : decode cX10_bothOf 41 = .ok (.iconst 1, 1) := by decide +kernel
theorem dX10_bothOf_42 : decode cX10_bothOf 42 = .ok (.goto 4, 3) := by decide +kernel
theorem dX10_bothOf_45 : decode cX10_bothOf 45 = .ok (.iconst 0, 1) := by decide +kernel
theorem dX10_bothOf_46 : decode cX10_bothOf 46 = .ok (.istore_n 2, 1) := by decide +kernel
theorem dX10_bothOf_47 : decode cX10_bothOf 47 = .ok (.goto (-41), 3) := by decide +kernel
theorem dX10_bothOf_50 : decode cX10_bothOf 50 = .ok (.iload_n 2, 1) := by decide +kernel
theorem dX10_bothOf_51 : decode cX10_bothOf 51 = .ok (.ireturn, 1) := by decide +kernel
theorem dX10_plainOf_0 : decode cX10_plainOf 0 = .ok (.iconst 0, 1) := by decide +kernel
theorem dX10_plainOf_1 : decode cX10_plainOf 1 = .ok (.istore_n 2, 1) := by decide +kernel
theorem dX10_plainOf_2 : decode cX10_plainOf 2 = .ok (.aload_n 0, 1) := by decide +kernel
theorem dX10_plainOf_3 : decode cX10_plainOf 3 = .ok (.bipush 7, 2) := by decide +kernel
theorem dX10_plainOf_5 : decode cX10_plainOf 5 = .ok (.invokevirtual 301, 3) := by decide +kernel
theorem dX10_plainOf_8 : decode cX10_plainOf 8 = .ok (.ifCond .eq 16, 3) := by decide +kernel
theorem dX10_plainOf_11 : decode cX10_plainOf 11 = .ok (.iload_n 2, 1) := by decide +kernel
theorem dX10_plainOf_12 : decode cX10_plainOf 12 = .ok (.ifCond .ne 7, 3) := by decide +kernel
theorem dX10_plainOf_15 : decode cX10_plainOf 15 = .ok (.iconst 1, 1) := by decide +kernel
theorem dX10_plainOf_16 : decode cX10_plainOf 16 = .ok (.goto 4, 3) := by decide +kernel
theorem dX10_plainOf_19 : decode cX10_plainOf 19 = .ok (.iconst 0, 1) := by decide +kernel
theorem dX10_plainOf_20 : decode cX10_plainOf 20 = .ok (.istore_n 2, 1) := by decide +kernel
theorem dX10_plainOf_21 : decode cX10_plainOf 21 = .ok (.goto (-19), 3) := by decide +kernel
theorem dX10_plainOf_24 : decode cX10_plainOf 24 = .ok (.aload_n 0, 1) := by decide +kernel
theorem dX10_plainOf_25 : decode cX10_plainOf 25 = .ok (.iload_n 1, 1) := by decide +kernel
theorem dX10_plainOf_26 : decode cX10_plainOf 26 = .ok (.invokevirtual 328, 3) := by decide +kernel
theorem dX10_plainOf_29 : decode cX10_plainOf 29 = .ok (.iload_n 2, 1) := by decide +kernel
theorem dX10_plainOf_30 : decode cX10_plainOf 30 = .ok (.if_icmp .eq 7, 3) := by decide +kernel
theorem dX10_plainOf_33 : decode cX10_plainOf 33 = .ok (.iconst 1, 1) := by decide +kernel
theorem dX10_plainOf_34 : decode cX10_plainOf 34 = .ok (.goto 4, 3) := by decide +kernel
theorem dX10_plainOf_37 : decode cX10_plainOf 37 = .ok (.iconst 0, 1) := by decide +kernel
theorem dX10_plainOf_38 : decode cX10_plainOf 38 = .ok (.ireturn, 1) := by decide +kernel
theorem dX10_positiveOf_0 : decode cX10_positiveOf 0 = .ok (.aload_n 0, 1) := by decide +kernel
theorem dX10_positiveOf_1 : decode cX10_positiveOf 1 = .ok (.bipush 40, 2) := by decide +kernel
theorem dX10_positiveOf_3 : decode cX10_positiveOf 3 = .ok (.invokestatic 236, 3) := by decide +kernel
theorem dX10_positiveOf_6 : decode cX10_positiveOf 6 = .ok (.invokevirtual 301, 3) := by decide +kernel
theorem dX10_positiveOf_9 : decode cX10_positiveOf 9 = .ok (.ifCond .eq 21, 3) := by decide +kernel
theorem dX10_positiveOf_12 : decode cX10_positiveOf 12 = .ok (.aload_n 0, 1) := by decide +kernel
theorem dX10_positiveOf_13 : decode cX10_positiveOf 13 = .ok (.iload_n 1, 1) := by decide +kernel
theorem dX10_positiveOf_14 : decode cX10_positiveOf 14 = .ok (.invokevirtual 331, 3) := by decide +kernel
theorem dX10_positiveOf_17 : decode cX10_positiveOf 17 = .ok (.istore_n 2, 1) := by decide +kernel
theorem dX10_positiveOf_18 : decode cX10_positiveOf 18 = .ok (.aload_n 0, 1) := by decide +kernel
theorem dX10_positiveOf_19 : decode cX10_positiveOf 19 = .ok (.dup, 1) := by decide +kernel
theorem dX10_positiveOf_20 : decode cX10_positiveOf 20 = .ok (.getfield 277, 3) := by decide +kernel
theorem dX10_positiveOf_23 : decode cX10_positiveOf 23 = .ok (.iconst 1, 1) := by decide +kernel
theorem dX10_positiveOf_24 : decode cX10_positiveOf 24 = .ok (.iadd, 1) := by decide +kernel
theorem dX10_positiveOf_25 : decode cX10_positiveOf 25 = .ok (.putfield 277, 3) := by decide +kernel
theorem dX10_positiveOf_28 : decode cX10_positiveOf 28 = .ok (.iload_n 2, 1) := by decide +kernel
theorem dX10_positiveOf_29 : decode cX10_positiveOf 29 = .ok (.ireturn, 1) := by decide +kernel
theorem dX10_positiveOf_30 : decode cX10_positiveOf 30 = .ok (.aload_n 0, 1) := by decide +kernel
theorem dX10_positiveOf_31 : decode cX10_positiveOf 31 = .ok (.iload_n 1, 1) := by decide +kernel
theorem dX10_positiveOf_32 : decode cX10_positiveOf 32 = .ok (.invokevirtual 304, 3) := by decide +kernel
theorem dX10_positiveOf_35 : decode cX10_positiveOf 35 = .ok (.lstore_n 2, 1) := by decide +kernel
theorem dX10_positiveOf_36 : decode cX10_positiveOf 36 = .ok (.aload_n 0, 1) := by decide +kernel
theorem dX10_positiveOf_37 : decode cX10_positiveOf 37 = .ok (.aload_n 0, 1) := by decide +kernel
theorem dX10_positiveOf_38 : decode cX10_positiveOf 38 = .ok (.getfield 277, 3) := by decide +kernel
theorem dX10_positiveOf_41 : decode cX10_positiveOf 41 = .ok (.invokevirtual 280, 3) := by decide +kernel
theorem dX10_positiveOf_44 : decode cX10_positiveOf 44 = .ok (.istore 4, 2) := by decide +kernel
theorem dX10_positiveOf_46 : decode cX10_positiveOf 46 = .ok (.aload_n 0, 1) := by decide +kernel
theorem dX10_positiveOf_47 : decode cX10_positiveOf 47 = .ok (.dup, 1) := by decide +kernel
theorem dX10_positiveOf_48 : decode cX10_positiveOf 48 = .ok (.getfield 277, 3) := by decide +kernel
theorem dX10_positiveOf_51 : decode cX10_positiveOf 51 = .ok (.iconst 1, 1) := by decide +kernel
theorem dX10_positiveOf_52 : decode cX10_positiveOf 52 = .ok (.iadd, 1) := by decide +kernel
theorem dX10_positiveOf_53 : decode cX10_positiveOf 53 = .ok (.putfield 277, 3) := by decide +kernel
theorem dX10_positiveOf_56 : decode cX10_positiveOf 56 = .ok (.aload_n 0, 1) := by decide +kernel
theorem dX10_positiveOf_57 : decode cX10_positiveOf 57 = .ok (.iload_n 1, 1) := by decide +kernel
theorem dX10_positiveOf_58 : decode cX10_positiveOf 58 = .ok (.invokevirtual 304, 3) := by decide +kernel
theorem dX10_positiveOf_61 : decode cX10_positiveOf 61 = .ok (.lstore 5, 2) := by decide +kernel
theorem dX10_positiveOf_63 : decode cX10_positiveOf 63 = .ok (.iload_n 1, 1) := by decide +kernel
theorem dX10_positiveOf_64 : decode cX10_positiveOf 64 = .ok (.ifCond .eq 61, 3) := by decide +kernel
theorem dX10_positiveOf_67 : decode cX10_positiveOf 67 = .ok (.aload_n 0, 1) := by decide +kernel
theorem dX10_positiveOf_68 : decode cX10_positiveOf 68 = .ok (.getfield 287, 3) := by decide +kernel
theorem dX10_positiveOf_71 : decode cX10_positiveOf 71 = .ok (.ifCond .ne 54, 3) := by decide +kernel
theorem dX10_positiveOf_74 : decode cX10_positiveOf 74 = .ok (.iload 4, 2) := by decide +kernel
theorem dX10_positiveOf_76 : decode cX10_positiveOf 76 = .ok (.bipush 60, 2) := by decide +kernel
theorem dX10_positiveOf_78 : decode cX10_positiveOf 78 = .ok (.invokestatic 236, 3) := by decide +kernel
theorem dX10_positiveOf_81 : decode cX10_positiveOf 81 = .ok (.if_icmp .ne 13, 3) := by decide +kernel
theorem dX10_positiveOf_84 : decode cX10_positiveOf 84 = .ok (.lload_n 2, 1) := by decide +kernel
theorem dX10_positiveOf_85 : decode cX10_positiveOf 85 = .ok (.lload 5, 2) := by decide +kernel
theorem dX10_positiveOf_87 : decode cX10_positiveOf 87 = .ok (.lcmp, 1) := by decide +kernel
theorem dX10_positiveOf_88 : decode cX10_positiveOf 88 = .ok (.ifCond .ge 37, 3) := by decide +kernel
theorem dX10_positiveOf_91 : decode cX10_positiveOf 91 = .ok (.goto 30, 3) := by decide +kernel
theorem dX10_positiveOf_94 : decode cX10_positiveOf 94 = .ok (.iload 4, 2) := by decide +kernel
theorem dX10_positiveOf_96 : decode cX10_positiveOf 96 = .ok (.bipush 62, 2) := by decide +kernel
theorem dX10_positiveOf_98 : decode cX10_positiveOf 98 = .ok (.invokestatic 236, 3) := by decide +kernel
theorem dX10_positiveOf_101 : decode cX10_positiveOf 101 = .ok (.if_icmp .ne 13, 3) := by decide +kernel
theorem dX10_positiveOf_104 : decode cX10_positiveOf 104 = .ok (.lload_n 2, 1) := by decide +kernel
theorem dX10_positiveOf_105 : decode cX10_positiveOf 105 = .ok (.lload 5, 2) := by decide +kernel
theorem dX10_positiveOf_107 : decode cX10_positiveOf 107 = .ok (.lcmp, 1) := by decide +kernel
theorem dX10_positiveOf_108 : decode cX10_positiveOf 108 = .ok (.ifCond .le 17, 3) := by decide +kernel
theorem dX10_positiveOf_111 : decode cX10_positiveOf 111 = .ok (.goto 10, 3) := by decide +kernel
theorem dX10_positiveOf_114 : decode cX10_positiveOf 114 = .ok (.lload_n 2, 1) := by decide +kernel
theorem dX10_positiveOf_115 : decode cX10_positiveOf 115 = .ok (.lload 5, 2) := by decide +kernel
theorem dX10_positiveOf_117 : decode cX10_positiveOf 117 = .ok (.lcmp, 1) := by decide +kernel
theorem dX10_positiveOf_118 : decode cX10_positiveOf 118 = .ok (.ifCond .ne 7, 3) := by decide +kernel
theorem dX10_positiveOf_121 : decode cX10_positiveOf 121 = .ok (.iconst 1, 1) := by decide +kernel
theorem dX10_positiveOf_122 : decode cX10_positiveOf 122 = .ok (.goto 4, 3) := by decide +kernel
theorem dX10_positiveOf_125 : decode cX10_positiveOf 125 = .ok (.iconst 0, 1) := by decide +kernel
theorem dX10_positiveOf_126 : decode cX10_positiveOf 126 = .ok (.ireturn, 1) := by decide +kernel
theorem dX10_nearOf_0 : decode cX10_nearOf 0 = .ok (.aload_n 0, 1) := by decide +kernel
theorem dX10_nearOf_1 : decode cX10_nearOf 1 = .ok (.getfield 28, 3) := by decide +kernel
theorem dX10_nearOf_4 : decode cX10_nearOf 4 = .ok (.bipush 26, 2) := by decide +kernel
theorem dX10_nearOf_6 : decode cX10_nearOf 6 = .ok (.iload_n 1, 1) := by decide +kernel
theorem dX10_nearOf_7 : decode cX10_nearOf 7 = .ok (.iadd, 1) := by decide +kernel
theorem dX10_nearOf_8 : decode cX10_nearOf 8 = .ok (.iaload, 1) := by decide +kernel
theorem dX10_nearOf_9 : decode cX10_nearOf 9 = .ok (.aload_n 0, 1) := by decide +kernel
theorem dX10_nearOf_10 : decode cX10_nearOf 10 = .ok (.getfield 28, 3) := by decide +kernel
theorem dX10_nearOf_13 : decode cX10_nearOf 13 = .ok (.iconst 0, 1) := by decide +kernel
theorem dX10_nearOf_14 : decode cX10_nearOf 14 = .ok (.iaload, 1) := by decide +kernel
theorem dX10_nearOf_15 : decode cX10_nearOf 15 = .ok (.iand, 1) := by decide +kernel
theorem dX10_nearOf_16 : decode cX10_nearOf 16 = .ok (.invokestatic 313, 3) := by decide +kernel
theorem dX10_nearOf_19 : decode cX10_nearOf 19 = .ok (.ireturn, 1) := by decide +kernel
theorem dX10_setsAsked_0 : decode cX10_setsAsked 0 = .ok (.aload_n 0, 1) := by decide +kernel
theorem dX10_setsAsked_1 : decode cX10_setsAsked 1 = .ok (.getfield 63, 3) := by decide +kernel
theorem dX10_setsAsked_4 : decode cX10_setsAsked 4 = .ok (.iconst 0, 1) := by decide +kernel
theorem dX10_setsAsked_5 : decode cX10_setsAsked 5 = .ok (.iload_n 1, 1) := by decide +kernel
theorem dX10_setsAsked_6 : decode cX10_setsAsked 6 = .ok (.iastore, 1) := by decide +kernel
theorem dX10_setsAsked_7 : decode cX10_setsAsked 7 = .ok (.aload_n 0, 1) := by decide +kernel
theorem dX10_setsAsked_8 : decode cX10_setsAsked 8 = .ok (.getfield 63, 3) := by decide +kernel
theorem dX10_setsAsked_11 : decode cX10_setsAsked 11 = .ok (.iconst 1, 1) := by decide +kernel
theorem dX10_setsAsked_12 : decode cX10_setsAsked 12 = .ok (.aload_n 0, 1) := by decide +kernel
theorem dX10_setsAsked_13 : decode cX10_setsAsked 13 = .ok (.getfield 28, 3) := by decide +kernel
theorem dX10_setsAsked_16 : decode cX10_setsAsked 16 = .ok (.bipush 18, 2) := by decide +kernel
theorem dX10_setsAsked_18 : decode cX10_setsAsked 18 = .ok (.iload_n 1, 1) := by decide +kernel
theorem dX10_setsAsked_19 : decode cX10_setsAsked 19 = .ok (.iadd, 1) := by decide +kernel
theorem dX10_setsAsked_20 : decode cX10_setsAsked 20 = .ok (.iaload, 1) := by decide +kernel
theorem dX10_setsAsked_21 : decode cX10_setsAsked 21 = .ok (.iastore, 1) := by decide +kernel
theorem dX10_setsAsked_22 : decode cX10_setsAsked 22 = .ok (.aload_n 0, 1) := by decide +kernel
theorem dX10_setsAsked_23 : decode cX10_setsAsked 23 = .ok (.getfield 63, 3) := by decide +kernel
theorem dX10_setsAsked_26 : decode cX10_setsAsked 26 = .ok (.iconst 2, 1) := by decide +kernel
theorem dX10_setsAsked_27 : decode cX10_setsAsked 27 = .ok (.aload_n 0, 1) := by decide +kernel
theorem dX10_setsAsked_28 : decode cX10_setsAsked 28 = .ok (.iload_n 1, 1) := by decide +kernel
theorem dX10_setsAsked_29 : decode cX10_setsAsked 29 = .ok (.invokevirtual 334, 3) := by decide +kernel
theorem dX10_setsAsked_32 : decode cX10_setsAsked 32 = .ok (.iastore, 1) := by decide +kernel
theorem dX10_setsAsked_33 : decode cX10_setsAsked 33 = .ok (.aload_n 0, 1) := by decide +kernel
theorem dX10_setsAsked_34 : decode cX10_setsAsked 34 = .ok (.getfield 63, 3) := by decide +kernel
theorem dX10_setsAsked_37 : decode cX10_setsAsked 37 = .ok (.iconst 3, 1) := by decide +kernel
theorem dX10_setsAsked_38 : decode cX10_setsAsked 38 = .ok (.aload_n 0, 1) := by decide +kernel
theorem dX10_setsAsked_39 : decode cX10_setsAsked 39 = .ok (.getfield 28, 3) := by decide +kernel
theorem dX10_setsAsked_42 : decode cX10_setsAsked 42 = .ok (.bipush 47, 2) := by decide +kernel
theorem dX10_setsAsked_44 : decode cX10_setsAsked 44 = .ok (.iaload, 1) := by decide +kernel
theorem dX10_setsAsked_45 : decode cX10_setsAsked 45 = .ok (.iastore, 1) := by decide +kernel
theorem dX10_setsAsked_46 : decode cX10_setsAsked 46 = .ok (.aload_n 0, 1) := by decide +kernel
theorem dX10_setsAsked_47 : decode cX10_setsAsked 47 = .ok (.getfield 63, 3) := by decide +kernel
theorem dX10_setsAsked_50 : decode cX10_setsAsked 50 = .ok (.iconst 4, 1) := by decide +kernel
theorem dX10_setsAsked_51 : decode cX10_setsAsked 51 = .ok (.aload_n 0, 1) := by decide +kernel
theorem dX10_setsAsked_52 : decode cX10_setsAsked 52 = .ok (.getfield 28, 3) := by decide +kernel
theorem dX10_setsAsked_55 : decode cX10_setsAsked 55 = .ok (.bipush 48, 2) := by decide +kernel
theorem dX10_setsAsked_57 : decode cX10_setsAsked 57 = .ok (.iaload, 1) := by decide +kernel
theorem dX10_setsAsked_58 : decode cX10_setsAsked 58 = .ok (.iastore, 1) := by decide +kernel
theorem dX10_setsAsked_59 : decode cX10_setsAsked 59 = .ok (.aload_n 0, 1) := by decide +kernel
theorem dX10_setsAsked_60 : decode cX10_setsAsked 60 = .ok (.getfield 63, 3) := by decide +kernel
theorem dX10_setsAsked_63 : decode cX10_setsAsked 63 = .ok (.iconst 5, 1) := by decide +kernel
theorem dX10_setsAsked_64 : decode cX10_setsAsked 64 = .ok (.aload_n 0, 1) := by decide +kernel
theorem dX10_setsAsked_65 : decode cX10_setsAsked 65 = .ok (.getfield 28, 3) := by decide +kernel
theorem dX10_setsAsked_68 : decode cX10_setsAsked 68 = .ok (.iconst 1, 1) := by decide +kernel
theorem dX10_setsAsked_69 : decode cX10_setsAsked 69 = .ok (.iload_n 1, 1) := by decide +kernel
theorem dX10_setsAsked_70 : decode cX10_setsAsked 70 = .ok (.iadd, 1) := by decide +kernel
theorem dX10_setsAsked_71 : decode cX10_setsAsked 71 = .ok (.iaload, 1) := by decide +kernel
theorem dX10_setsAsked_72 : decode cX10_setsAsked 72 = .ok (.iastore, 1) := by decide +kernel
theorem dX10_setsAsked_73 : decode cX10_setsAsked 73 = .ok (.aload_n 0, 1) := by decide +kernel
theorem dX10_setsAsked_74 : decode cX10_setsAsked 74 = .ok (.getfield 63, 3) := by decide +kernel
theorem dX10_setsAsked_77 : decode cX10_setsAsked 77 = .ok (.bipush 6, 2) := by decide +kernel
theorem dX10_setsAsked_79 : decode cX10_setsAsked 79 = .ok (.aload_n 0, 1) := by decide +kernel
theorem dX10_setsAsked_80 : decode cX10_setsAsked 80 = .ok (.getfield 28, 3) := by decide +kernel
theorem dX10_setsAsked_83 : decode cX10_setsAsked 83 = .ok (.bipush 9, 2) := by decide +kernel
theorem dX10_setsAsked_85 : decode cX10_setsAsked 85 = .ok (.iload_n 1, 1) := by decide +kernel
theorem dX10_setsAsked_86 : decode cX10_setsAsked 86 = .ok (.iadd, 1) := by decide +kernel
theorem dX10_setsAsked_87 : decode cX10_setsAsked 87 = .ok (.iaload, 1) := by decide +kernel
theorem dX10_setsAsked_88 : decode cX10_setsAsked 88 = .ok (.iastore, 1) := by decide +kernel
theorem dX10_setsAsked_89 : decode cX10_setsAsked 89 = .ok (.aload_n 0, 1) := by decide +kernel
theorem dX10_setsAsked_90 : decode cX10_setsAsked 90 = .ok (.getfield 63, 3) := by decide +kernel
theorem dX10_setsAsked_93 : decode cX10_setsAsked 93 = .ok (.bipush 7, 2) := by decide +kernel
theorem dX10_setsAsked_95 : decode cX10_setsAsked 95 = .ok (.aload_n 0, 1) := by decide +kernel
theorem dX10_setsAsked_96 : decode cX10_setsAsked 96 = .ok (.getfield 28, 3) := by decide +kernel
theorem dX10_setsAsked_99 : decode cX10_setsAsked 99 = .ok (.iconst 0, 1) := by decide +kernel
theorem dX10_setsAsked_100 : decode cX10_setsAsked 100 = .ok (.iaload, 1) := by decide +kernel
theorem dX10_setsAsked_101 : decode cX10_setsAsked 101 = .ok (.invokestatic 313, 3) := by decide +kernel
theorem dX10_setsAsked_104 : decode cX10_setsAsked 104 = .ok (.iastore, 1) := by decide +kernel
theorem dX10_setsAsked_105 : decode cX10_setsAsked 105 = .ok (.aload_n 0, 1) := by decide +kernel
theorem dX10_setsAsked_106 : decode cX10_setsAsked 106 = .ok (.getfield 63, 3) := by decide +kernel
theorem dX10_setsAsked_109 : decode cX10_setsAsked 109 = .ok (.bipush 8, 2) := by decide +kernel
theorem dX10_setsAsked_111 : decode cX10_setsAsked 111 = .ok (.aload_n 0, 1) := by decide +kernel
theorem dX10_setsAsked_112 : decode cX10_setsAsked 112 = .ok (.getfield 28, 3) := by decide +kernel
theorem dX10_setsAsked_115 : decode cX10_setsAsked 115 = .ok (.bipush 17, 2) := by decide +kernel
theorem dX10_setsAsked_117 : decode cX10_setsAsked 117 = .ok (.iaload, 1) := by decide +kernel
theorem dX10_setsAsked_118 : decode cX10_setsAsked 118 = .ok (.iastore, 1) := by decide +kernel
theorem dX10_setsAsked_119 : decode cX10_setsAsked 119 = .ok (.return_, 1) := by decide +kernel
theorem dX10_tells_0 : decode cX10_tells 0 = .ok (.aload_n 0, 1) := by decide +kernel
theorem dX10_tells_1 : decode cX10_tells 1 = .ok (.getfield 28, 3) := by decide +kernel
theorem dX10_tells_4 : decode cX10_tells 4 = .ok (.bipush 52, 2) := by decide +kernel
theorem dX10_tells_6 : decode cX10_tells 6 = .ok (.iaload, 1) := by decide +kernel
theorem dX10_tells_7 : decode cX10_tells 7 = .ok (.iconst (-1), 1) := by decide +kernel
theorem dX10_tells_8 : decode cX10_tells 8 = .ok (.if_icmp .ne 5, 3) := by decide +kernel
theorem dX10_tells_11 : decode cX10_tells 11 = .ok (.iload_n 3, 1) := by decide +kernel
theorem dX10_tells_12 : decode cX10_tells 12 = .ok (.ireturn, 1) := by decide +kernel
theorem dX10_tells_13 : decode cX10_tells 13 = .ok (.aload_n 0, 1) := by decide +kernel
theorem dX10_tells_14 : decode cX10_tells 14 = .ok (.iload_n 2, 1) := by decide +kernel
theorem dX10_tells_15 : decode cX10_tells 15 = .ok (.invokevirtual 337, 3) := by decide +kernel
theorem dX10_tells_18 : decode cX10_tells 18 = .ok (.aload_n 0, 1) := by decide +kernel
theorem dX10_tells_19 : decode cX10_tells 19 = .ok (.iconst 0, 1) := by decide +kernel
theorem dX10_tells_20 : decode cX10_tells 20 = .ok (.putfield 307, 3) := by decide +kernel
theorem dX10_tells_23 : decode cX10_tells 23 = .ok (.iload_n 3, 1) := by decide +kernel
theorem dX10_tells_24 : decode cX10_tells 24 = .ok (.i2l, 1) := by decide +kernel
theorem dX10_tells_25 : decode cX10_tells 25 = .ok (.lstore 4, 2) := by decide +kernel
theorem dX10_tells_27 : decode cX10_tells 27 = .ok (.aload_n 0, 1) := by decide +kernel
theorem dX10_tells_28 : decode cX10_tells 28 = .ok (.sipush 400, 3) := by decide +kernel
theorem dX10_tells_31 : decode cX10_tells 31 = .ok (.aload_n 0, 1) := by decide +kernel
theorem dX10_tells_32 : decode cX10_tells 32 = .ok (.getfield 28, 3) := by decide +kernel
theorem dX10_tells_35 : decode cX10_tells 35 = .ok (.bipush 52, 2) := by decide +kernel
theorem dX10_tells_37 : decode cX10_tells 37 = .ok (.iaload, 1) := by decide +kernel
theorem dX10_tells_38 : decode cX10_tells 38 = .ok (.imul, 1) := by decide +kernel
theorem dX10_tells_39 : decode cX10_tells 39 = .ok (.putfield 277, 3) := by decide +kernel
theorem dX10_tells_42 : decode cX10_tells 42 = .ok (.aload_n 0, 1) := by decide +kernel
theorem dX10_tells_43 : decode cX10_tells 43 = .ok (.aload_n 0, 1) := by decide +kernel
theorem dX10_tells_44 : decode cX10_tells 44 = .ok (.getfield 277, 3) := by decide +kernel
theorem dX10_tells_47 : decode cX10_tells 47 = .ok (.aload_n 0, 1) := by decide +kernel
theorem dX10_tells_48 : decode cX10_tells 48 = .ok (.getfield 28, 3) := by decide +kernel
theorem dX10_tells_51 : decode cX10_tells 51 = .ok (.bipush 53, 2) := by decide +kernel
theorem dX10_tells_53 : decode cX10_tells 53 = .ok (.aload_n 0, 1) := by decide +kernel
theorem dX10_tells_54 : decode cX10_tells 54 = .ok (.getfield 28, 3) := by decide +kernel
theorem dX10_tells_57 : decode cX10_tells 57 = .ok (.bipush 52, 2) := by decide +kernel
theorem dX10_tells_59 : decode cX10_tells 59 = .ok (.iaload, 1) := by decide +kernel
theorem dX10_tells_60 : decode cX10_tells 60 = .ok (.iadd, 1) := by decide +kernel
theorem dX10_tells_61 : decode cX10_tells 61 = .ok (.iaload, 1) := by decide +kernel
theorem dX10_tells_62 : decode cX10_tells 62 = .ok (.iadd, 1) := by decide +kernel
theorem dX10_tells_63 : decode cX10_tells 63 = .ok (.putfield 274, 3) := by decide +kernel
theorem dX10_tells_66 : decode cX10_tells 66 = .ok (.aload_n 0, 1) := by decide +kernel
theorem dX10_tells_67 : decode cX10_tells 67 = .ok (.getfield 277, 3) := by decide +kernel
theorem dX10_tells_70 : decode cX10_tells 70 = .ok (.aload_n 0, 1) := by decide +kernel
theorem dX10_tells_71 : decode cX10_tells 71 = .ok (.getfield 274, 3) := by decide +kernel
theorem dX10_tells_74 : decode cX10_tells 74 = .ok (.if_icmp .ge 145, 3) := by decide +kernel
theorem dX10_tells_77 : decode cX10_tells 77 = .ok (.aload_n 0, 1) := by decide +kernel
theorem dX10_tells_78 : decode cX10_tells 78 = .ok (.aload_n 0, 1) := by decide +kernel
theorem dX10_tells_79 : decode cX10_tells 79 = .ok (.getfield 277, 3) := by decide +kernel
theorem dX10_tells_82 : decode cX10_tells 82 = .ok (.invokevirtual 280, 3) := by decide +kernel
theorem dX10_tells_85 : decode cX10_tells 85 = .ok (.istore 6, 2) := by decide +kernel
theorem dX10_tells_87 : decode cX10_tells 87 = .ok (.aload_n 0, 1) := by decide +kernel
theorem dX10_tells_88 : decode cX10_tells 88 = .ok (.iconst 0, 1) := by decide +kernel
theorem dX10_tells_89 : decode cX10_tells 89 = .ok (.putfield 287, 3) := by decide +kernel
theorem dX10_tells_92 : decode cX10_tells 92 = .ok (.aload_n 0, 1) := by decide +kernel
theorem dX10_tells_93 : decode cX10_tells 93 = .ok (.dup, 1) := by decide +kernel
theorem dX10_tells_94 : decode cX10_tells 94 = .ok (.getfield 277, 3) := by decide +kernel
theorem dX10_tells_97 : decode cX10_tells 97 = .ok (.iconst 1, 1) := by decide +kernel
theorem dX10_tells_98 : decode cX10_tells 98 = .ok (.iadd, 1) := by decide +kernel
theorem dX10_tells_99 : decode cX10_tells 99 = .ok (.putfield 277, 3) := by decide +kernel
theorem dX10_tells_102 : decode cX10_tells 102 = .ok (.iload 6, 2) := by decide +kernel
theorem dX10_tells_104 : decode cX10_tells 104 = .ok (.iconst 3, 1) := by decide +kernel
theorem dX10_tells_105 : decode cX10_tells 105 = .ok (.if_icmp .ne 7, 3) := by decide +kernel
theorem dX10_tells_108 : decode cX10_tells 108 = .ok (.lconst 1, 1) := by decide +kernel
theorem dX10_tells_109 : decode cX10_tells 109 = .ok (.goto 8, 3) := by decide +kernel
theorem dX10_tells_112 : decode cX10_tells 112 = .ok (.aload_n 0, 1) := by decide +kernel
theorem dX10_tells_113 : decode cX10_tells 113 = .ok (.iconst 1, 1) := by decide +kernel
theorem dX10_tells_114 : decode cX10_tells 114 = .ok (.invokevirtual 304, 3) := by decide +kernel
theorem dX10_tells_117 : decode cX10_tells 117 = .ok (.lstore 7, 2) := by decide +kernel
theorem dX10_tells_119 : decode cX10_tells 119 = .ok (.aload_n 0, 1) := by decide +kernel
theorem dX10_tells_120 : decode cX10_tells 120 = .ok (.getfield 287, 3) := by decide +kernel
theorem dX10_tells_123 : decode cX10_tells 123 = .ok (.istore 9, 2) := by decide +kernel
theorem dX10_tells_125 : decode cX10_tells 125 = .ok (.aload_n 0, 1) := by decide +kernel
theorem dX10_tells_126 : decode cX10_tells 126 = .ok (.iconst 0, 1) := by decide +kernel
theorem dX10_tells_127 : decode cX10_tells 127 = .ok (.putfield 287, 3) := by decide +kernel
theorem dX10_tells_130 : decode cX10_tells 130 = .ok (.aload_n 0, 1) := by decide +kernel
theorem dX10_tells_131 : decode cX10_tells 131 = .ok (.iconst 4, 1) := by decide +kernel
theorem dX10_tells_132 : decode cX10_tells 132 = .ok (.invokevirtual 301, 3) := by decide +kernel
theorem dX10_tells_135 : decode cX10_tells 135 = .ok (.ifCond .eq 11, 3) := by decide +kernel
theorem dX10_tells_138 : decode cX10_tells 138 = .ok (.aload_n 0, 1) := by decide +kernel
theorem dX10_tells_139 : decode cX10_tells 139 = .ok (.iconst 1, 1) := by decide +kernel
theorem dX10_tells_140 : decode cX10_tells 140 = .ok (.invokevirtual 331, 3) := by decide +kernel
theorem dX10_tells_143 : decode cX10_tells 143 = .ok (.ifCond .eq 7, 3) := by decide +kernel
theorem dX10_tells_146 : decode cX10_tells 146 = .ok (.iconst 1, 1) := by decide +kernel
theorem dX10_tells_147 : decode cX10_tells 147 = .ok (.goto 4, 3) := by decide +kernel
theorem dX10_tells_150 : decode cX10_tells 150 = .ok (.iconst 0, 1) := by decide +kernel
theorem dX10_tells_151 : decode cX10_tells 151 = .ok (.istore 10, 2) := by decide +kernel
theorem dX10_tells_153 : decode cX10_tells 153 = .ok (.iload 6, 2) := by decide +kernel
theorem dX10_tells_155 : decode cX10_tells 155 = .ok (.iload_n 1, 1) := by decide +kernel
theorem dX10_tells_156 : decode cX10_tells 156 = .ok (.if_icmp .ne 50, 3) := by decide +kernel
theorem dX10_tells_159 : decode cX10_tells 159 = .ok (.iload 10, 2) := by decide +kernel
theorem dX10_tells_161 : decode cX10_tells 161 = .ok (.ifCond .eq 45, 3) := by decide +kernel
theorem dX10_tells_164 : decode cX10_tells 164 = .ok (.aload_n 0, 1) := by decide +kernel
theorem dX10_tells_165 : decode cX10_tells 165 = .ok (.getfield 287, 3) := by decide +kernel
theorem dX10_tells_168 : decode cX10_tells 168 = .ok (.ifCond .ne 38, 3) := by decide +kernel
theorem dX10_tells_171 : decode cX10_tells 171 = .ok (.iload 9, 2) := by decide +kernel
theorem dX10_tells_173 : decode cX10_tells 173 = .ok (.ifCond .ne 33, 3) := by decide +kernel
theorem dX10_tells_176 : decode cX10_tells 176 = .ok (.lload 7, 2) := by decide +kernel
theorem dX10_tells_178 : decode cX10_tells 178 = .ok (.lconst 0, 1) := by decide +kernel
theorem dX10_tells_179 : decode cX10_tells 179 = .ok (.lcmp, 1) := by decide +kernel
theorem dX10_tells_180 : decode cX10_tells 180 = .ok (.ifCond .ge 7, 3) := by decide +kernel
theorem dX10_tells_183 : decode cX10_tells 183 = .ok (.lconst 0, 1) := by decide +kernel
theorem dX10_tells_184 : decode cX10_tells 184 = .ok (.goto 20, 3) := by decide +kernel
theorem dX10_tells_187 : decode cX10_tells 187 = .ok (.lload 7, 2) := by decide +kernel
theorem dX10_tells_189 : decode cX10_tells 189 = .ok (.ldc2_w 340, 3) := by decide +kernel
theorem dX10_tells_192 : decode cX10_tells 192 = .ok (.lcmp, 1) := by decide +kernel
theorem dX10_tells_193 : decode cX10_tells 193 = .ok (.ifCond .le 9, 3) := by decide +kernel
theorem dX10_tells_196 : decode cX10_tells 196 = .ok (.ldc2_w 340, 3) := by decide +kernel
theorem dX10_tells_199 : decode cX10_tells 199 = .ok (.goto 5, 3) := by decide +kernel
theorem dX10_tells_202 : decode cX10_tells 202 = .ok (.lload 7, 2) := by decide +kernel
theorem dX10_tells_204 : decode cX10_tells 204 = .ok (.lstore 4, 2) := by decide +kernel
theorem dX10_tells_206 : decode cX10_tells 206 = .ok (.aload_n 0, 1) := by decide +kernel
theorem dX10_tells_207 : decode cX10_tells 207 = .ok (.dup, 1) := by decide +kernel
theorem dX10_tells_208 : decode cX10_tells 208 = .ok (.getfield 277, 3) := by decide +kernel
theorem dX10_tells_211 : decode cX10_tells 211 = .ok (.iconst 1, 1) := by decide +kernel
theorem dX10_tells_212 : decode cX10_tells 212 = .ok (.iadd, 1) := by decide +kernel
theorem dX10_tells_213 : decode cX10_tells 213 = .ok (.putfield 277, 3) := by decide +kernel
theorem dX10_tells_216 : decode cX10_tells 216 = .ok (.goto (-150), 3) := by decide +kernel
theorem dX10_tells_219 : decode cX10_tells 219 = .ok (.lload 4, 2) := by decide +kernel
theorem dX10_tells_221 : decode cX10_tells 221 = .ok (.l2i, 1) := by decide +kernel
theorem dX10_tells_222 : decode cX10_tells 222 = .ok (.ireturn, 1) := by decide +kernel
theorem dX10_needsNow_0 : decode cX10_needsNow 0 = .ok (.aload_n 0, 1) := by decide +kernel
theorem dX10_needsNow_1 : decode cX10_needsNow 1 = .ok (.iconst 1, 1) := by decide +kernel
theorem dX10_needsNow_2 : decode cX10_needsNow 2 = .ok (.iload_n 1, 1) := by decide +kernel
theorem dX10_needsNow_3 : decode cX10_needsNow 3 = .ok (.aload_n 0, 1) := by decide +kernel
theorem dX10_needsNow_4 : decode cX10_needsNow 4 = .ok (.getfield 28, 3) := by decide +kernel
theorem dX10_needsNow_7 : decode cX10_needsNow 7 = .ok (.iconst 1, 1) := by decide +kernel
theorem dX10_needsNow_8 : decode cX10_needsNow 8 = .ok (.iload_n 1, 1) := by decide +kernel
theorem dX10_needsNow_9 : decode cX10_needsNow 9 = .ok (.iadd, 1) := by decide +kernel
theorem dX10_needsNow_10 : decode cX10_needsNow 10 = .ok (.iaload, 1) := by decide +kernel
theorem dX10_needsNow_11 : decode cX10_needsNow 11 = .ok (.invokevirtual 342, 3) := by decide +kernel
theorem dX10_needsNow_14 : decode cX10_needsNow 14 = .ok (.ireturn, 1) := by decide +kernel
theorem dX10_wantsNow_0 : decode cX10_wantsNow 0 = .ok (.aload_n 0, 1) := by decide +kernel
theorem dX10_wantsNow_1 : decode cX10_wantsNow 1 = .ok (.iconst 2, 1) := by decide +kernel
theorem dX10_wantsNow_2 : decode cX10_wantsNow 2 = .ok (.iload_n 1, 1) := by decide +kernel
theorem dX10_wantsNow_3 : decode cX10_wantsNow 3 = .ok (.aload_n 0, 1) := by decide +kernel
theorem dX10_wantsNow_4 : decode cX10_wantsNow 4 = .ok (.getfield 28, 3) := by decide +kernel
theorem dX10_wantsNow_7 : decode cX10_wantsNow 7 = .ok (.iconst 1, 1) := by decide +kernel
theorem dX10_wantsNow_8 : decode cX10_wantsNow 8 = .ok (.iload_n 1, 1) := by decide +kernel
theorem dX10_wantsNow_9 : decode cX10_wantsNow 9 = .ok (.iadd, 1) := by decide +kernel
theorem dX10_wantsNow_10 : decode cX10_wantsNow 10 = .ok (.iaload, 1) := by decide +kernel
theorem dX10_wantsNow_11 : decode cX10_wantsNow 11 = .ok (.invokevirtual 342, 3) := by decide +kernel
theorem dX10_wantsNow_14 : decode cX10_wantsNow 14 = .ok (.ireturn, 1) := by decide +kernel
theorem dX10_shutsNow_0 : decode cX10_shutsNow 0 = .ok (.aload_n 0, 1) := by decide +kernel
theorem dX10_shutsNow_1 : decode cX10_shutsNow 1 = .ok (.iconst 3, 1) := by decide +kernel
theorem dX10_shutsNow_2 : decode cX10_shutsNow 2 = .ok (.iload_n 1, 1) := by decide +kernel
theorem dX10_shutsNow_3 : decode cX10_shutsNow 3 = .ok (.iconst 0, 1) := by decide +kernel
theorem dX10_shutsNow_4 : decode cX10_shutsNow 4 = .ok (.invokevirtual 342, 3) := by decide +kernel
theorem dX10_shutsNow_7 : decode cX10_shutsNow 7 = .ok (.iconst 1, 1) := by decide +kernel
theorem dX10_shutsNow_8 : decode cX10_shutsNow 8 = .ok (.if_icmp .ne 7, 3) := by decide +kernel
theorem dX10_shutsNow_11 : decode cX10_shutsNow 11 = .ok (.iconst 1, 1) := by decide +kernel
theorem dX10_shutsNow_12 : decode cX10_shutsNow 12 = .ok (.goto 4, 3) := by decide +kernel
theorem dX10_shutsNow_15 : decode cX10_shutsNow 15 = .ok (.iconst 0, 1) := by decide +kernel
theorem dX10_shutsNow_16 : decode cX10_shutsNow 16 = .ok (.ireturn, 1) := by decide +kernel
theorem dX10_opensNext_0 : decode cX10_opensNext 0 = .ok (.aload_n 0, 1) := by decide +kernel
theorem dX10_opensNext_1 : decode cX10_opensNext 1 = .ok (.iload_n 1, 1) := by decide +kernel
theorem dX10_opensNext_2 : decode cX10_opensNext 2 = .ok (.invokevirtual 131, 3) := by decide +kernel
theorem dX10_opensNext_5 : decode cX10_opensNext 5 = .ok (.ifCond .eq 19, 3) := by decide +kernel
theorem dX10_opensNext_8 : decode cX10_opensNext 8 = .ok (.aload_n 0, 1) := by decide +kernel
theorem dX10_opensNext_9 : decode cX10_opensNext 9 = .ok (.iload_n 1, 1) := by decide +kernel
theorem dX10_opensNext_10 : decode cX10_opensNext 10 = .ok (.invokevirtual 140, 3) := by decide +kernel
theorem dX10_opensNext_13 : decode cX10_opensNext 13 = .ok (.ifCond .ne 7, 3) := by decide +kernel
theorem dX10_opensNext_16 : decode cX10_opensNext 16 = .ok (.iconst 1, 1) := by decide +kernel
theorem dX10_opensNext_17 : decode cX10_opensNext 17 = .ok (.goto 25, 3) := by decide +kernel
theorem dX10_opensNext_20 : decode cX10_opensNext 20 = .ok (.iconst 0, 1) := by decide +kernel
theorem dX10_opensNext_21 : decode cX10_opensNext 21 = .ok (.goto 21, 3) := by decide +kernel
theorem dX10_opensNext_24 : decode cX10_opensNext 24 = .ok (.aload_n 0, 1) := by decide +kernel
theorem dX10_opensNext_25 : decode cX10_opensNext 25 = .ok (.iload_n 1, 1) := by decide +kernel
theorem dX10_opensNext_26 : decode cX10_opensNext 26 = .ok (.invokevirtual 334, 3) := by decide +kernel
theorem dX10_opensNext_29 : decode cX10_opensNext 29 = .ok (.aload_n 0, 1) := by decide +kernel
theorem dX10_opensNext_30 : decode cX10_opensNext 30 = .ok (.iload_n 1, 1) := by decide +kernel
theorem dX10_opensNext_31 : decode cX10_opensNext 31 = .ok (.invokevirtual 134, 3) := by decide +kernel
theorem dX10_opensNext_34 : decode cX10_opensNext 34 = .ok (.if_icmp .lt 7, 3) := by decide +kernel
theorem dX10_opensNext_37 : decode cX10_opensNext 37 = .ok (.iconst 1, 1) := by decide +kernel
theorem dX10_opensNext_38 : decode cX10_opensNext 38 = .ok (.goto 4, 3) := by decide +kernel
theorem dX10_opensNext_41 : decode cX10_opensNext 41 = .ok (.iconst 0, 1) := by decide +kernel
theorem dX10_opensNext_42 : decode cX10_opensNext 42 = .ok (.ireturn, 1) := by decide +kernel
theorem dX10_minutePasses_0 : decode cX10_minutePasses 0 = .ok (.iconst 0, 1) := by decide +kernel
theorem dX10_minutePasses_1 : decode cX10_minutePasses 1 = .ok (.istore_n 2, 1) := by decide +kernel
theorem dX10_minutePasses_2 : decode cX10_minutePasses 2 = .ok (.iconst 0, 1) := by decide +kernel
theorem dX10_minutePasses_3 : decode cX10_minutePasses 3 = .ok (.istore_n 3, 1) := by decide +kernel
theorem dX10_minutePasses_4 : decode cX10_minutePasses 4 = .ok (.iload_n 3, 1) := by decide +kernel
theorem dX10_minutePasses_5 : decode cX10_minutePasses 5 = .ok (.aload_n 0, 1) := by decide +kernel
theorem dX10_minutePasses_6 : decode cX10_minutePasses 6 = .ok (.invokevirtual 109, 3) := by decide +kernel
theorem dX10_minutePasses_9 : decode cX10_minutePasses 9 = .ok (.if_icmp .ge 46, 3) := by decide +kernel
theorem dX10_minutePasses_12 : decode cX10_minutePasses 12 = .ok (.iload_n 2, 1) := by decide +kernel
theorem dX10_minutePasses_13 : decode cX10_minutePasses 13 = .ok (.iload_n 1, 1) := by decide +kernel
theorem dX10_minutePasses_14 : decode cX10_minutePasses 14 = .ok (.iload_n 3, 1) := by decide +kernel
theorem dX10_minutePasses_15 : decode cX10_minutePasses 15 = .ok (.invokestatic 113, 3) := by decide +kernel
theorem dX10_minutePasses_18 : decode cX10_minutePasses 18 = .ok (.ifCond .ne 17, 3) := by decide +kernel
theorem dX10_minutePasses_21 : decode cX10_minutePasses 21 = .ok (.aload_n 0, 1) := by decide +kernel
theorem dX10_minutePasses_22 : decode cX10_minutePasses 22 = .ok (.iload_n 3, 1) := by decide +kernel
theorem dX10_minutePasses_23 : decode cX10_minutePasses 23 = .ok (.invokevirtual 143, 3) := by decide +kernel
theorem dX10_minutePasses_26 : decode cX10_minutePasses 26 = .ok (.ifCond .eq 9, 3) := by decide +kernel
theorem dX10_minutePasses_29 : decode cX10_minutePasses 29 = .ok (.iconst 1, 1) := by decide +kernel
theorem dX10_minutePasses_30 : decode cX10_minutePasses 30 = .ok (.iload_n 3, 1) := by decide +kernel
theorem dX10_minutePasses_31 : decode cX10_minutePasses 31 = .ok (.ishl, 1) := by decide +kernel
theorem dX10_minutePasses_32 : decode cX10_minutePasses 32 = .ok (.goto 4, 3) := by decide +kernel
theorem dX10_minutePasses_35 : decode cX10_minutePasses 35 = .ok (.iconst 0, 1) := by decide +kernel
theorem dX10_minutePasses_36 : decode cX10_minutePasses 36 = .ok (.ior, 1) := by decide +kernel
theorem dX10_minutePasses_37 : decode cX10_minutePasses 37 = .ok (.istore_n 2, 1) := by decide +kernel
theorem dX10_minutePasses_38 : decode cX10_minutePasses 38 = .ok (.aload_n 0, 1) := by decide +kernel
theorem dX10_minutePasses_39 : decode cX10_minutePasses 39 = .ok (.getfield 66, 3) := by decide +kernel
theorem dX10_minutePasses_42 : decode cX10_minutePasses 42 = .ok (.iload_n 3, 1) := by decide +kernel
theorem dX10_minutePasses_43 : decode cX10_minutePasses 43 = .ok (.aload_n 0, 1) := by decide +kernel
theorem dX10_minutePasses_44 : decode cX10_minutePasses 44 = .ok (.iload_n 3, 1) := by decide +kernel
theorem dX10_minutePasses_45 : decode cX10_minutePasses 45 = .ok (.invokevirtual 137, 3) := by decide +kernel
theorem dX10_minutePasses_48 : decode cX10_minutePasses 48 = .ok (.iastore, 1) := by decide +kernel
theorem dX10_minutePasses_49 : decode cX10_minutePasses 49 = .ok (.iinc 3 1, 3) := by decide +kernel
theorem dX10_minutePasses_52 : decode cX10_minutePasses 52 = .ok (.goto (-48), 3) := by decide +kernel
theorem dX10_minutePasses_55 : decode cX10_minutePasses 55 = .ok (.iconst 0, 1) := by decide +kernel
theorem dX10_minutePasses_56 : decode cX10_minutePasses 56 = .ok (.istore_n 3, 1) := by decide +kernel
theorem dX10_minutePasses_57 : decode cX10_minutePasses 57 = .ok (.iload_n 3, 1) := by decide +kernel
theorem dX10_minutePasses_58 : decode cX10_minutePasses 58 = .ok (.aload_n 0, 1) := by decide +kernel
theorem dX10_minutePasses_59 : decode cX10_minutePasses 59 = .ok (.invokevirtual 109, 3) := by decide +kernel
theorem dX10_minutePasses_62 : decode cX10_minutePasses 62 = .ok (.if_icmp .ge 48, 3) := by decide +kernel
theorem dX10_minutePasses_65 : decode cX10_minutePasses 65 = .ok (.aload_n 0, 1) := by decide +kernel
theorem dX10_minutePasses_66 : decode cX10_minutePasses 66 = .ok (.getfield 28, 3) := by decide +kernel
theorem dX10_minutePasses_69 : decode cX10_minutePasses 69 = .ok (.iconst 1, 1) := by decide +kernel
theorem dX10_minutePasses_70 : decode cX10_minutePasses 70 = .ok (.iload_n 3, 1) := by decide +kernel
theorem dX10_minutePasses_71 : decode cX10_minutePasses 71 = .ok (.iadd, 1) := by decide +kernel
theorem dX10_minutePasses_72 : decode cX10_minutePasses 72 = .ok (.aload_n 0, 1) := by decide +kernel
theorem dX10_minutePasses_73 : decode cX10_minutePasses 73 = .ok (.getfield 66, 3) := by decide +kernel
theorem dX10_minutePasses_76 : decode cX10_minutePasses 76 = .ok (.iload_n 3, 1) := by decide +kernel
theorem dX10_minutePasses_77 : decode cX10_minutePasses 77 = .ok (.iaload, 1) := by decide +kernel
theorem dX10_minutePasses_78 : decode cX10_minutePasses 78 = .ok (.iastore, 1) := by decide +kernel
theorem dX10_minutePasses_79 : decode cX10_minutePasses 79 = .ok (.aload_n 0, 1) := by decide +kernel
theorem dX10_minutePasses_80 : decode cX10_minutePasses 80 = .ok (.getfield 28, 3) := by decide +kernel
theorem dX10_minutePasses_83 : decode cX10_minutePasses 83 = .ok (.bipush 9, 2) := by decide +kernel
theorem dX10_minutePasses_85 : decode cX10_minutePasses 85 = .ok (.iload_n 3, 1) := by decide +kernel
theorem dX10_minutePasses_86 : decode cX10_minutePasses 86 = .ok (.iadd, 1) := by decide +kernel
theorem dX10_minutePasses_87 : decode cX10_minutePasses 87 = .ok (.bipush 99, 2) := by decide +kernel
theorem dX10_minutePasses_89 : decode cX10_minutePasses 89 = .ok (.aload_n 0, 1) := by decide +kernel
theorem dX10_minutePasses_90 : decode cX10_minutePasses 90 = .ok (.getfield 28, 3) := by decide +kernel
theorem dX10_minutePasses_93 : decode cX10_minutePasses 93 = .ok (.bipush 9, 2) := by decide +kernel
theorem dX10_minutePasses_95 : decode cX10_minutePasses 95 = .ok (.iload_n 3, 1) := by decide +kernel
theorem dX10_minutePasses_96 : decode cX10_minutePasses 96 = .ok (.iadd, 1) := by decide +kernel
theorem dX10_minutePasses_97 : decode cX10_minutePasses 97 = .ok (.iaload, 1) := by decide +kernel
theorem dX10_minutePasses_98 : decode cX10_minutePasses 98 = .ok (.iconst 1, 1) := by decide +kernel
theorem dX10_minutePasses_99 : decode cX10_minutePasses 99 = .ok (.iadd, 1) := by decide +kernel
theorem dX10_minutePasses_100 : decode cX10_minutePasses 100 = .ok (.invokestatic 345, 3) := by decide +kernel
theorem dX10_minutePasses_103 : decode cX10_minutePasses 103 = .ok (.iastore, 1) := by decide +kernel
theorem dX10_minutePasses_104 : decode cX10_minutePasses 104 = .ok (.iinc 3 1, 3) := by decide +kernel
theorem dX10_minutePasses_107 : decode cX10_minutePasses 107 = .ok (.goto (-50), 3) := by decide +kernel
theorem dX10_minutePasses_110 : decode cX10_minutePasses 110 = .ok (.aload_n 0, 1) := by decide +kernel
theorem dX10_minutePasses_111 : decode cX10_minutePasses 111 = .ok (.getfield 28, 3) := by decide +kernel
theorem dX10_minutePasses_114 : decode cX10_minutePasses 114 = .ok (.iconst 0, 1) := by decide +kernel
theorem dX10_minutePasses_115 : decode cX10_minutePasses 115 = .ok (.iload_n 2, 1) := by decide +kernel
theorem dX10_minutePasses_116 : decode cX10_minutePasses 116 = .ok (.iastore, 1) := by decide +kernel
theorem dX10_minutePasses_117 : decode cX10_minutePasses 117 = .ok (.aload_n 0, 1) := by decide +kernel
theorem dX10_minutePasses_118 : decode cX10_minutePasses 118 = .ok (.getfield 28, 3) := by decide +kernel
theorem dX10_minutePasses_121 : decode cX10_minutePasses 121 = .ok (.bipush 17, 2) := by decide +kernel
theorem dX10_minutePasses_123 : decode cX10_minutePasses 123 = .ok (.dup2, 1) := by decide +kernel
theorem dX10_minutePasses_124 : decode cX10_minutePasses 124 = .ok (.iaload, 1) := by decide +kernel
theorem dX10_minutePasses_125 : decode cX10_minutePasses 125 = .ok (.iconst 1, 1) := by decide +kernel
theorem dX10_minutePasses_126 : decode cX10_minutePasses 126 = .ok (.iadd, 1) := by decide +kernel
theorem dX10_minutePasses_127 : decode cX10_minutePasses 127 = .ok (.iastore, 1) := by decide +kernel
theorem dX10_minutePasses_128 : decode cX10_minutePasses 128 = .ok (.iload_n 2, 1) := by decide +kernel
theorem dX10_minutePasses_129 : decode cX10_minutePasses 129 = .ok (.invokestatic 313, 3) := by decide +kernel
theorem dX10_minutePasses_132 : decode cX10_minutePasses 132 = .ok (.ireturn, 1) := by decide +kernel
theorem dX10_touches_0 : decode cX10_touches 0 = .ok (.aload_n 0, 1) := by decide +kernel
theorem dX10_touches_1 : decode cX10_touches 1 = .ok (.getfield 28, 3) := by decide +kernel
theorem dX10_touches_4 : decode cX10_touches 4 = .ok (.iconst 0, 1) := by decide +kernel
theorem dX10_touches_5 : decode cX10_touches 5 = .ok (.dup2, 1) := by decide +kernel
theorem dX10_touches_6 : decode cX10_touches 6 = .ok (.iaload, 1) := by decide +kernel
theorem dX10_touches_7 : decode cX10_touches 7 = .ok (.iconst 1, 1) := by decide +kernel
theorem dX10_touches_8 : decode cX10_touches 8 = .ok (.iload_n 1, 1) := by decide +kernel
theorem dX10_touches_9 : decode cX10_touches 9 = .ok (.ishl, 1) := by decide +kernel
theorem dX10_touches_10 : decode cX10_touches 10 = .ok (.iconst (-1), 1) := by decide +kernel
theorem dX10_touches_11 : decode cX10_touches 11 = .ok (.ixor, 1) := by decide +kernel
theorem dX10_touches_12 : decode cX10_touches 12 = .ok (.iand, 1) := by decide +kernel
theorem dX10_touches_13 : decode cX10_touches 13 = .ok (.iastore, 1) := by decide +kernel
theorem dX10_touches_14 : decode cX10_touches 14 = .ok (.aload_n 0, 1) := by decide +kernel
theorem dX10_touches_15 : decode cX10_touches 15 = .ok (.getfield 28, 3) := by decide +kernel
theorem dX10_touches_18 : decode cX10_touches 18 = .ok (.bipush 9, 2) := by decide +kernel
theorem dX10_touches_20 : decode cX10_touches 20 = .ok (.iload_n 1, 1) := by decide +kernel
theorem dX10_touches_21 : decode cX10_touches 21 = .ok (.iadd, 1) := by decide +kernel
theorem dX10_touches_22 : decode cX10_touches 22 = .ok (.iconst 0, 1) := by decide +kernel
theorem dX10_touches_23 : decode cX10_touches 23 = .ok (.iastore, 1) := by decide +kernel
theorem dX10_touches_24 : decode cX10_touches 24 = .ok (.return_, 1) := by decide +kernel
theorem dX10_keeps_0 : decode cX10_keeps 0 = .ok (.bipush 19, 2) := by decide +kernel
theorem dX10_keeps_2 : decode cX10_keeps 2 = .ok (.istore_n 2, 1) := by decide +kernel
theorem dX10_keeps_3 : decode cX10_keeps 3 = .ok (.aload_n 0, 1) := by decide +kernel
theorem dX10_keeps_4 : decode cX10_keeps 4 = .ok (.getfield 11, 3) := by decide +kernel
theorem dX10_keeps_7 : decode cX10_keeps 7 = .ok (.bipush 16, 2) := by decide +kernel
theorem dX10_keeps_9 : decode cX10_keeps 9 = .ok (.if_icmp .ne 43, 3) := by decide +kernel
theorem dX10_keeps_12 : decode cX10_keeps 12 = .ok (.iconst 0, 1) := by decide +kernel
theorem dX10_keeps_13 : decode cX10_keeps 13 = .ok (.istore_n 3, 1) := by decide +kernel
theorem dX10_keeps_14 : decode cX10_keeps 14 = .ok (.iload_n 3, 1) := by decide +kernel
theorem dX10_keeps_15 : decode cX10_keeps 15 = .ok (.bipush 15, 2) := by decide +kernel
theorem dX10_keeps_17 : decode cX10_keeps 17 = .ok (.iload_n 2, 1) := by decide +kernel
theorem dX10_keeps_18 : decode cX10_keeps 18 = .ok (.imul, 1) := by decide +kernel
theorem dX10_keeps_19 : decode cX10_keeps 19 = .ok (.if_icmp .ge 23, 3) := by decide +kernel
theorem dX10_keeps_22 : decode cX10_keeps 22 = .ok (.aload_n 0, 1) := by decide +kernel
theorem dX10_keeps_23 : decode cX10_keeps 23 = .ok (.getfield 69, 3) := by decide +kernel
theorem dX10_keeps_26 : decode cX10_keeps 26 = .ok (.iload_n 3, 1) := by decide +kernel
theorem dX10_keeps_27 : decode cX10_keeps 27 = .ok (.aload_n 0, 1) := by decide +kernel
theorem dX10_keeps_28 : decode cX10_keeps 28 = .ok (.getfield 69, 3) := by decide +kernel
theorem dX10_keeps_31 : decode cX10_keeps 31 = .ok (.iload_n 3, 1) := by decide +kernel
theorem dX10_keeps_32 : decode cX10_keeps 32 = .ok (.iload_n 2, 1) := by decide +kernel
theorem dX10_keeps_33 : decode cX10_keeps 33 = .ok (.iadd, 1) := by decide +kernel
theorem dX10_keeps_34 : decode cX10_keeps 34 = .ok (.iaload, 1) := by decide +kernel
theorem dX10_keeps_35 : decode cX10_keeps 35 = .ok (.iastore, 1) := by decide +kernel
theorem dX10_keeps_36 : decode cX10_keeps 36 = .ok (.iinc 3 1, 3) := by decide +kernel
theorem dX10_keeps_39 : decode cX10_keeps 39 = .ok (.goto (-25), 3) := by decide +kernel
theorem dX10_keeps_42 : decode cX10_keeps 42 = .ok (.aload_n 0, 1) := by decide +kernel
theorem dX10_keeps_43 : decode cX10_keeps 43 = .ok (.dup, 1) := by decide +kernel
theorem dX10_keeps_44 : decode cX10_keeps 44 = .ok (.getfield 11, 3) := by decide +kernel
theorem dX10_keeps_47 : decode cX10_keeps 47 = .ok (.iconst 1, 1) := by decide +kernel
theorem dX10_keeps_48 : decode cX10_keeps 48 = .ok (.isub, 1) := by decide +kernel
theorem dX10_keeps_49 : decode cX10_keeps 49 = .ok (.putfield 11, 3) := by decide +kernel
theorem dX10_keeps_52 : decode cX10_keeps 52 = .ok (.iconst 0, 1) := by decide +kernel
theorem dX10_keeps_53 : decode cX10_keeps 53 = .ok (.istore_n 3, 1) := by decide +kernel
theorem dX10_keeps_54 : decode cX10_keeps 54 = .ok (.iload_n 3, 1) := by decide +kernel
theorem dX10_keeps_55 : decode cX10_keeps 55 = .ok (.bipush 18, 2) := by decide +kernel
theorem dX10_keeps_57 : decode cX10_keeps 57 = .ok (.if_icmp .ge 28, 3) := by decide +kernel
theorem dX10_keeps_60 : decode cX10_keeps 60 = .ok (.aload_n 0, 1) := by decide +kernel
theorem dX10_keeps_61 : decode cX10_keeps 61 = .ok (.getfield 69, 3) := by decide +kernel
theorem dX10_keeps_64 : decode cX10_keeps 64 = .ok (.iload_n 2, 1) := by decide +kernel
theorem dX10_keeps_65 : decode cX10_keeps 65 = .ok (.aload_n 0, 1) := by decide +kernel
theorem dX10_keeps_66 : decode cX10_keeps 66 = .ok (.getfield 11, 3) := by decide +kernel
theorem dX10_keeps_69 : decode cX10_keeps 69 = .ok (.imul, 1) := by decide +kernel
theorem dX10_keeps_70 : decode cX10_keeps 70 = .ok (.iload_n 3, 1) := by decide +kernel
theorem dX10_keeps_71 : decode cX10_keeps 71 = .ok (.iadd, 1) := by decide +kernel
theorem dX10_keeps_72 : decode cX10_keeps 72 = .ok (.aload_n 0, 1) := by decide +kernel
theorem dX10_keeps_73 : decode cX10_keeps 73 = .ok (.getfield 28, 3) := by decide +kernel
theorem dX10_keeps_76 : decode cX10_keeps 76 = .ok (.iload_n 3, 1) := by decide +kernel
theorem dX10_keeps_77 : decode cX10_keeps 77 = .ok (.iaload, 1) := by decide +kernel
theorem dX10_keeps_78 : decode cX10_keeps 78 = .ok (.iastore, 1) := by decide +kernel
theorem dX10_keeps_79 : decode cX10_keeps 79 = .ok (.iinc 3 1, 3) := by decide +kernel
theorem dX10_keeps_82 : decode cX10_keeps 82 = .ok (.goto (-28), 3) := by decide +kernel
theorem dX10_keeps_85 : decode cX10_keeps 85 = .ok (.aload_n 0, 1) := by decide +kernel
theorem dX10_keeps_86 : decode cX10_keeps 86 = .ok (.getfield 69, 3) := by decide +kernel
theorem dX10_keeps_89 : decode cX10_keeps 89 = .ok (.iload_n 2, 1) := by decide +kernel
theorem dX10_keeps_90 : decode cX10_keeps 90 = .ok (.aload_n 0, 1) := by decide +kernel
theorem dX10_keeps_91 : decode cX10_keeps 91 = .ok (.getfield 11, 3) := by decide +kernel
theorem dX10_keeps_94 : decode cX10_keeps 94 = .ok (.imul, 1) := by decide +kernel
theorem dX10_keeps_95 : decode cX10_keeps 95 = .ok (.bipush 18, 2) := by decide +kernel
theorem dX10_keeps_97 : decode cX10_keeps 97 = .ok (.iadd, 1) := by decide +kernel
theorem dX10_keeps_98 : decode cX10_keeps 98 = .ok (.iload_n 1, 1) := by decide +kernel
theorem dX10_keeps_99 : decode cX10_keeps 99 = .ok (.iastore, 1) := by decide +kernel
theorem dX10_keeps_100 : decode cX10_keeps 100 = .ok (.aload_n 0, 1) := by decide +kernel
theorem dX10_keeps_101 : decode cX10_keeps 101 = .ok (.dup, 1) := by decide +kernel
theorem dX10_keeps_102 : decode cX10_keeps 102 = .ok (.getfield 11, 3) := by decide +kernel
theorem dX10_keeps_105 : decode cX10_keeps 105 = .ok (.iconst 1, 1) := by decide +kernel
theorem dX10_keeps_106 : decode cX10_keeps 106 = .ok (.iadd, 1) := by decide +kernel
theorem dX10_keeps_107 : decode cX10_keeps 107 = .ok (.putfield 11, 3) := by decide +kernel
theorem dX10_keeps_110 : decode cX10_keeps 110 = .ok (.return_, 1) := by decide +kernel
theorem dX10_undo_0 : decode cX10_undo 0 = .ok (.aload_n 0, 1) := by decide +kernel
theorem dX10_undo_1 : decode cX10_undo 1 = .ok (.getfield 11, 3) := by decide +kernel
theorem dX10_undo_4 : decode cX10_undo 4 = .ok (.ifCond .ne 10, 3) := by decide +kernel
theorem dX10_undo_7 : decode cX10_undo 7 = .ok (.aload_n 0, 1) := by decide +kernel
theorem dX10_undo_8 : decode cX10_undo 8 = .ok (.bipush (-3), 2) := by decide +kernel
theorem dX10_undo_10 : decode cX10_undo 10 = .ok (.invokevirtual 103, 3) := by decide +kernel
theorem dX10_undo_13 : decode cX10_undo 13 = .ok (.ireturn, 1) := by decide +kernel
theorem dX10_undo_14 : decode cX10_undo 14 = .ok (.aload_n 0, 1) := by decide +kernel
theorem dX10_undo_15 : decode cX10_undo 15 = .ok (.dup, 1) := by decide +kernel
theorem dX10_undo_16 : decode cX10_undo 16 = .ok (.getfield 11, 3) := by decide +kernel
theorem dX10_undo_19 : decode cX10_undo 19 = .ok (.iconst 1, 1) := by decide +kernel
theorem dX10_undo_20 : decode cX10_undo 20 = .ok (.isub, 1) := by decide +kernel
theorem dX10_undo_21 : decode cX10_undo 21 = .ok (.putfield 11, 3) := by decide +kernel
theorem dX10_undo_24 : decode cX10_undo 24 = .ok (.bipush 19, 2) := by decide +kernel
theorem dX10_undo_26 : decode cX10_undo 26 = .ok (.aload_n 0, 1) := by decide +kernel
theorem dX10_undo_27 : decode cX10_undo 27 = .ok (.getfield 11, 3) := by decide +kernel
theorem dX10_undo_30 : decode cX10_undo 30 = .ok (.imul, 1) := by decide +kernel
theorem dX10_undo_31 : decode cX10_undo 31 = .ok (.istore_n 1, 1) := by decide +kernel
theorem dX10_undo_32 : decode cX10_undo 32 = .ok (.iconst 0, 1) := by decide +kernel
theorem dX10_undo_33 : decode cX10_undo 33 = .ok (.istore_n 2, 1) := by decide +kernel
theorem dX10_undo_34 : decode cX10_undo 34 = .ok (.iload_n 2, 1) := by decide +kernel
theorem dX10_undo_35 : decode cX10_undo 35 = .ok (.bipush 18, 2) := by decide +kernel
theorem dX10_undo_37 : decode cX10_undo 37 = .ok (.if_icmp .ge 23, 3) := by decide +kernel
theorem dX10_undo_40 : decode cX10_undo 40 = .ok (.aload_n 0, 1) := by decide +kernel
theorem dX10_undo_41 : decode cX10_undo 41 = .ok (.getfield 28, 3) := by decide +kernel
theorem dX10_undo_44 : decode cX10_undo 44 = .ok (.iload_n 2, 1) := by decide +kernel
theorem dX10_undo_45 : decode cX10_undo 45 = .ok (.aload_n 0, 1) := by decide +kernel
theorem dX10_undo_46 : decode cX10_undo 46 = .ok (.getfield 69, 3) := by decide +kernel
theorem dX10_undo_49 : decode cX10_undo 49 = .ok (.iload_n 1, 1) := by decide +kernel
theorem dX10_undo_50 : decode cX10_undo 50 = .ok (.iload_n 2, 1) := by decide +kernel
theorem dX10_undo_51 : decode cX10_undo 51 = .ok (.iadd, 1) := by decide +kernel
theorem dX10_undo_52 : decode cX10_undo 52 = .ok (.iaload, 1) := by decide +kernel
theorem dX10_undo_53 : decode cX10_undo 53 = .ok (.iastore, 1) := by decide +kernel
theorem dX10_undo_54 : decode cX10_undo 54 = .ok (.iinc 2 1, 3) := by decide +kernel
theorem dX10_undo_57 : decode cX10_undo 57 = .ok (.goto (-23), 3) := by decide +kernel
theorem dX10_undo_60 : decode cX10_undo 60 = .ok (.aload_n 0, 1) := by decide +kernel
theorem dX10_undo_61 : decode cX10_undo 61 = .ok (.aload_n 0, 1) := by decide +kernel
theorem dX10_undo_62 : decode cX10_undo 62 = .ok (.getfield 69, 3) := by decide +kernel
theorem dX10_undo_65 : decode cX10_undo 65 = .ok (.iload_n 1, 1) := by decide +kernel
theorem dX10_undo_66 : decode cX10_undo 66 = .ok (.bipush 18, 2) := by decide +kernel
theorem dX10_undo_68 : decode cX10_undo 68 = .ok (.iadd, 1) := by decide +kernel
theorem dX10_undo_69 : decode cX10_undo 69 = .ok (.iaload, 1) := by decide +kernel
theorem dX10_undo_70 : decode cX10_undo 70 = .ok (.invokevirtual 14, 3) := by decide +kernel
theorem dX10_undo_73 : decode cX10_undo 73 = .ok (.ireturn, 1) := by decide +kernel
theorem dX10_goodOr_0 : decode cX10_goodOr 0 = .ok (.iload_n 1, 1) := by decide +kernel
theorem dX10_goodOr_1 : decode cX10_goodOr 1 = .ok (.ifCond .ge 11, 3) := by decide +kernel
theorem dX10_goodOr_4 : decode cX10_goodOr 4 = .ok (.aload_n 0, 1) := by decide +kernel
theorem dX10_goodOr_5 : decode cX10_goodOr 5 = .ok (.iload_n 1, 1) := by decide +kernel
theorem dX10_goodOr_6 : decode cX10_goodOr 6 = .ok (.invokevirtual 103, 3) := by decide +kernel
theorem dX10_goodOr_9 : decode cX10_goodOr 9 = .ok (.goto 8, 3) := by decide +kernel
theorem dX10_goodOr_12 : decode cX10_goodOr 12 = .ok (.aload_n 0, 1) := by decide +kernel
theorem dX10_goodOr_13 : decode cX10_goodOr 13 = .ok (.iload_n 1, 1) := by decide +kernel
theorem dX10_goodOr_14 : decode cX10_goodOr 14 = .ok (.invokevirtual 14, 3) := by decide +kernel
theorem dX10_goodOr_17 : decode cX10_goodOr 17 = .ok (.ireturn, 1) := by decide +kernel
theorem dX10_touchesKept_0 : decode cX10_touchesKept 0 = .ok (.aload_n 0, 1) := by decide +kernel
theorem dX10_touchesKept_1 : decode cX10_touchesKept 1 = .ok (.iload_n 1, 1) := by decide +kernel
theorem dX10_touchesKept_2 : decode cX10_touchesKept 2 = .ok (.invokevirtual 128, 3) := by decide +kernel
theorem dX10_touchesKept_5 : decode cX10_touchesKept 5 = .ok (.ifCond .ne 6, 3) := by decide +kernel
theorem dX10_touchesKept_8 : decode cX10_touchesKept 8 = .ok (.bipush (-2), 2) := by decide +kernel
theorem dX10_touchesKept_10 : decode cX10_touchesKept 10 = .ok (.ireturn, 1) := by decide +kernel
theorem dX10_touchesKept_11 : decode cX10_touchesKept 11 = .ok (.aload_n 0, 1) := by decide +kernel
theorem dX10_touchesKept_12 : decode cX10_touchesKept 12 = .ok (.iload_n 1, 1) := by decide +kernel
theorem dX10_touchesKept_13 : decode cX10_touchesKept 13 = .ok (.invokevirtual 131, 3) := by decide +kernel
theorem dX10_touchesKept_16 : decode cX10_touchesKept 16 = .ok (.ifCond .eq 7, 3) := by decide +kernel
theorem dX10_touchesKept_19 : decode cX10_touchesKept 19 = .ok (.iconst 1, 1) := by decide +kernel
theorem dX10_touchesKept_20 : decode cX10_touchesKept 20 = .ok (.goto 4, 3) := by decide +kernel
theorem dX10_touchesKept_23 : decode cX10_touchesKept 23 = .ok (.iconst 0, 1) := by decide +kernel
theorem dX10_touchesKept_24 : decode cX10_touchesKept 24 = .ok (.istore_n 2, 1) := by decide +kernel
theorem dX10_touchesKept_25 : decode cX10_touchesKept 25 = .ok (.aload_n 0, 1) := by decide +kernel
theorem dX10_touchesKept_26 : decode cX10_touchesKept 26 = .ok (.iconst 0, 1) := by decide +kernel
theorem dX10_touchesKept_27 : decode cX10_touchesKept 27 = .ok (.invokevirtual 348, 3) := by decide +kernel
theorem dX10_touchesKept_30 : decode cX10_touchesKept 30 = .ok (.aload_n 0, 1) := by decide +kernel
theorem dX10_touchesKept_31 : decode cX10_touchesKept 31 = .ok (.iload_n 1, 1) := by decide +kernel
theorem dX10_touchesKept_32 : decode cX10_touchesKept 32 = .ok (.invokevirtual 351, 3) := by decide +kernel
theorem dX10_touchesKept_35 : decode cX10_touchesKept 35 = .ok (.iload_n 2, 1) := by decide +kernel
theorem dX10_touchesKept_36 : decode cX10_touchesKept 36 = .ok (.ireturn, 1) := by decide +kernel
theorem dX10_coaxesKept_0 : decode cX10_coaxesKept 0 = .ok (.aload_n 0, 1) := by decide +kernel
theorem dX10_coaxesKept_1 : decode cX10_coaxesKept 1 = .ok (.iload_n 1, 1) := by decide +kernel
theorem dX10_coaxesKept_2 : decode cX10_coaxesKept 2 = .ok (.invokevirtual 128, 3) := by decide +kernel
theorem dX10_coaxesKept_5 : decode cX10_coaxesKept 5 = .ok (.ifCond .ne 6, 3) := by decide +kernel
theorem dX10_coaxesKept_8 : decode cX10_coaxesKept 8 = .ok (.bipush (-2), 2) := by decide +kernel
theorem dX10_coaxesKept_10 : decode cX10_coaxesKept 10 = .ok (.ireturn, 1) := by decide +kernel
theorem dX10_coaxesKept_11 : decode cX10_coaxesKept 11 = .ok (.aload_n 0, 1) := by decide +kernel
theorem dX10_coaxesKept_12 : decode cX10_coaxesKept 12 = .ok (.iload_n 1, 1) := by decide +kernel
theorem dX10_coaxesKept_13 : decode cX10_coaxesKept 13 = .ok (.invokevirtual 131, 3) := by decide +kernel
theorem dX10_coaxesKept_16 : decode cX10_coaxesKept 16 = .ok (.ifCond .eq 6, 3) := by decide +kernel
theorem dX10_coaxesKept_19 : decode cX10_coaxesKept 19 = .ok (.bipush (-3), 2) := by decide +kernel
theorem dX10_coaxesKept_21 : decode cX10_coaxesKept 21 = .ok (.ireturn, 1) := by decide +kernel
theorem dX10_coaxesKept_22 : decode cX10_coaxesKept 22 = .ok (.aload_n 0, 1) := by decide +kernel
theorem dX10_coaxesKept_23 : decode cX10_coaxesKept 23 = .ok (.iconst 1, 1) := by decide +kernel
theorem dX10_coaxesKept_24 : decode cX10_coaxesKept 24 = .ok (.invokevirtual 348, 3) := by decide +kernel
theorem dX10_coaxesKept_27 : decode cX10_coaxesKept 27 = .ok (.aload_n 0, 1) := by decide +kernel
theorem dX10_coaxesKept_28 : decode cX10_coaxesKept 28 = .ok (.getfield 28, 3) := by decide +kernel
theorem dX10_coaxesKept_31 : decode cX10_coaxesKept 31 = .ok (.iconst 0, 1) := by decide +kernel
theorem dX10_coaxesKept_32 : decode cX10_coaxesKept 32 = .ok (.dup2, 1) := by decide +kernel
theorem dX10_coaxesKept_33 : decode cX10_coaxesKept 33 = .ok (.iaload, 1) := by decide +kernel
theorem dX10_coaxesKept_34 : decode cX10_coaxesKept 34 = .ok (.iconst 1, 1) := by decide +kernel
theorem dX10_coaxesKept_35 : decode cX10_coaxesKept 35 = .ok (.iload_n 1, 1) := by decide +kernel
theorem dX10_coaxesKept_36 : decode cX10_coaxesKept 36 = .ok (.ishl, 1) := by decide +kernel
theorem dX10_coaxesKept_37 : decode cX10_coaxesKept 37 = .ok (.ior, 1) := by decide +kernel
theorem dX10_coaxesKept_38 : decode cX10_coaxesKept 38 = .ok (.iastore, 1) := by decide +kernel
theorem dX10_coaxesKept_39 : decode cX10_coaxesKept 39 = .ok (.aload_n 0, 1) := by decide +kernel
theorem dX10_coaxesKept_40 : decode cX10_coaxesKept 40 = .ok (.getfield 28, 3) := by decide +kernel
theorem dX10_coaxesKept_43 : decode cX10_coaxesKept 43 = .ok (.iconst 0, 1) := by decide +kernel
theorem dX10_coaxesKept_44 : decode cX10_coaxesKept 44 = .ok (.iaload, 1) := by decide +kernel
theorem dX10_coaxesKept_45 : decode cX10_coaxesKept 45 = .ok (.invokestatic 313, 3) := by decide +kernel
theorem dX10_coaxesKept_48 : decode cX10_coaxesKept 48 = .ok (.ireturn, 1) := by decide +kernel
theorem dX10_temptsKept_0 : decode cX10_temptsKept 0 = .ok (.iload_n 2, 1) := by decide +kernel
theorem dX10_temptsKept_1 : decode cX10_temptsKept 1 = .ok (.invokestatic 117, 3) := by decide +kernel
theorem dX10_temptsKept_4 : decode cX10_temptsKept 4 = .ok (.ifCond .ne 5, 3) := by decide +kernel
theorem dX10_temptsKept_7 : decode cX10_temptsKept 7 = .ok (.iconst (-1), 1) := by decide +kernel
theorem dX10_temptsKept_8 : decode cX10_temptsKept 8 = .ok (.ireturn, 1) := by decide +kernel
theorem dX10_temptsKept_9 : decode cX10_temptsKept 9 = .ok (.aload_n 0, 1) := by decide +kernel
theorem dX10_temptsKept_10 : decode cX10_temptsKept 10 = .ok (.iload_n 1, 1) := by decide +kernel
theorem dX10_temptsKept_11 : decode cX10_temptsKept 11 = .ok (.invokevirtual 128, 3) := by decide +kernel
theorem dX10_temptsKept_14 : decode cX10_temptsKept 14 = .ok (.ifCond .ne 6, 3) := by decide +kernel
theorem dX10_temptsKept_17 : decode cX10_temptsKept 17 = .ok (.bipush (-2), 2) := by decide +kernel
theorem dX10_temptsKept_19 : decode cX10_temptsKept 19 = .ok (.ireturn, 1) := by decide +kernel
theorem dX10_temptsKept_20 : decode cX10_temptsKept 20 = .ok (.aload_n 0, 1) := by decide +kernel
theorem dX10_temptsKept_21 : decode cX10_temptsKept 21 = .ok (.getfield 28, 3) := by decide +kernel
theorem dX10_temptsKept_24 : decode cX10_temptsKept 24 = .ok (.iconst 1, 1) := by decide +kernel
theorem dX10_temptsKept_25 : decode cX10_temptsKept 25 = .ok (.iload_n 1, 1) := by decide +kernel
theorem dX10_temptsKept_26 : decode cX10_temptsKept 26 = .ok (.iadd, 1) := by decide +kernel
theorem dX10_temptsKept_27 : decode cX10_temptsKept 27 = .ok (.iaload, 1) := by decide +kernel
theorem dX10_temptsKept_28 : decode cX10_temptsKept 28 = .ok (.istore_n 3, 1) := by decide +kernel
theorem dX10_temptsKept_29 : decode cX10_temptsKept 29 = .ok (.iload_n 3, 1) := by decide +kernel
theorem dX10_temptsKept_30 : decode cX10_temptsKept 30 = .ok (.iload_n 2, 1) := by decide +kernel
theorem dX10_temptsKept_31 : decode cX10_temptsKept 31 = .ok (.if_icmp .ne 6, 3) := by decide +kernel
theorem dX10_temptsKept_34 : decode cX10_temptsKept 34 = .ok (.bipush (-3), 2) := by decide +kernel
theorem dX10_temptsKept_36 : decode cX10_temptsKept 36 = .ok (.ireturn, 1) := by decide +kernel
theorem dX10_temptsKept_37 : decode cX10_temptsKept 37 = .ok (.aload_n 0, 1) := by decide +kernel
theorem dX10_temptsKept_38 : decode cX10_temptsKept 38 = .ok (.iconst 2, 1) := by decide +kernel
theorem dX10_temptsKept_39 : decode cX10_temptsKept 39 = .ok (.invokevirtual 348, 3) := by decide +kernel
theorem dX10_temptsKept_42 : decode cX10_temptsKept 42 = .ok (.aload_n 0, 1) := by decide +kernel
theorem dX10_temptsKept_43 : decode cX10_temptsKept 43 = .ok (.getfield 28, 3) := by decide +kernel
theorem dX10_temptsKept_46 : decode cX10_temptsKept 46 = .ok (.iconst 1, 1) := by decide +kernel
theorem dX10_temptsKept_47 : decode cX10_temptsKept 47 = .ok (.iload_n 1, 1) := by decide +kernel
theorem dX10_temptsKept_48 : decode cX10_temptsKept 48 = .ok (.iadd, 1) := by decide +kernel
theorem dX10_temptsKept_49 : decode cX10_temptsKept 49 = .ok (.iload_n 2, 1) := by decide +kernel
theorem dX10_temptsKept_50 : decode cX10_temptsKept 50 = .ok (.iastore, 1) := by decide +kernel
theorem dX10_temptsKept_51 : decode cX10_temptsKept 51 = .ok (.iload_n 3, 1) := by decide +kernel
theorem dX10_temptsKept_52 : decode cX10_temptsKept 52 = .ok (.ireturn, 1) := by decide +kernel
theorem dX10_passesKept_0 : decode cX10_passesKept 0 = .ok (.aload_n 0, 1) := by decide +kernel
theorem dX10_passesKept_1 : decode cX10_passesKept 1 = .ok (.getfield 28, 3) := by decide +kernel
theorem dX10_passesKept_4 : decode cX10_passesKept 4 = .ok (.bipush 17, 2) := by decide +kernel
theorem dX10_passesKept_6 : decode cX10_passesKept 6 = .ok (.iaload, 1) := by decide +kernel
theorem dX10_passesKept_7 : decode cX10_passesKept 7 = .ok (.sipush 999, 3) := by decide +kernel
theorem dX10_passesKept_10 : decode cX10_passesKept 10 = .ok (.if_icmp .ne 6, 3) := by decide +kernel
theorem dX10_passesKept_13 : decode cX10_passesKept 13 = .ok (.bipush (-3), 2) := by decide +kernel
theorem dX10_passesKept_15 : decode cX10_passesKept 15 = .ok (.ireturn, 1) := by decide +kernel
theorem dX10_passesKept_16 : decode cX10_passesKept 16 = .ok (.aload_n 0, 1) := by decide +kernel
theorem dX10_passesKept_17 : decode cX10_passesKept 17 = .ok (.iconst 3, 1) := by decide +kernel
theorem dX10_passesKept_18 : decode cX10_passesKept 18 = .ok (.invokevirtual 348, 3) := by decide +kernel
theorem dX10_passesKept_21 : decode cX10_passesKept 21 = .ok (.aload_n 0, 1) := by decide +kernel
theorem dX10_passesKept_22 : decode cX10_passesKept 22 = .ok (.iconst 0, 1) := by decide +kernel
theorem dX10_passesKept_23 : decode cX10_passesKept 23 = .ok (.invokevirtual 354, 3) := by decide +kernel
theorem dX10_passesKept_26 : decode cX10_passesKept 26 = .ok (.ireturn, 1) := by decide +kernel
theorem dX10_touch_0 : decode cX10_touch 0 = .ok (.aload_n 0, 1) := by decide +kernel
theorem dX10_touch_1 : decode cX10_touch 1 = .ok (.aload_n 0, 1) := by decide +kernel
theorem dX10_touch_2 : decode cX10_touch 2 = .ok (.iload_n 1, 1) := by decide +kernel
theorem dX10_touch_3 : decode cX10_touch 3 = .ok (.invokevirtual 357, 3) := by decide +kernel
theorem dX10_touch_6 : decode cX10_touch 6 = .ok (.invokevirtual 360, 3) := by decide +kernel
theorem dX10_touch_9 : decode cX10_touch 9 = .ok (.ireturn, 1) := by decide +kernel
theorem dX10_coax_0 : decode cX10_coax 0 = .ok (.aload_n 0, 1) := by decide +kernel
theorem dX10_coax_1 : decode cX10_coax 1 = .ok (.aload_n 0, 1) := by decide +kernel
theorem dX10_coax_2 : decode cX10_coax 2 = .ok (.iload_n 1, 1) := by decide +kernel
theorem dX10_coax_3 : decode cX10_coax 3 = .ok (.invokevirtual 363, 3) := by decide +kernel
theorem dX10_coax_6 : decode cX10_coax 6 = .ok (.invokevirtual 360, 3) := by decide +kernel
theorem dX10_coax_9 : decode cX10_coax 9 = .ok (.ireturn, 1) := by decide +kernel
theorem dX10_tempt_0 : decode cX10_tempt 0 = .ok (.aload_n 0, 1) := by decide +kernel
theorem dX10_tempt_1 : decode cX10_tempt 1 = .ok (.aload_n 0, 1) := by decide +kernel
theorem dX10_tempt_2 : decode cX10_tempt 2 = .ok (.iload_n 1, 1) := by decide +kernel
theorem dX10_tempt_3 : decode cX10_tempt 3 = .ok (.iload_n 2, 1) := by decide +kernel
theorem dX10_tempt_4 : decode cX10_tempt 4 = .ok (.invokevirtual 366, 3) := by decide +kernel
theorem dX10_tempt_7 : decode cX10_tempt 7 = .ok (.invokevirtual 360, 3) := by decide +kernel
theorem dX10_tempt_10 : decode cX10_tempt 10 = .ok (.ireturn, 1) := by decide +kernel
theorem dX10_pass_0 : decode cX10_pass 0 = .ok (.aload_n 0, 1) := by decide +kernel
theorem dX10_pass_1 : decode cX10_pass 1 = .ok (.aload_n 0, 1) := by decide +kernel
theorem dX10_pass_2 : decode cX10_pass 2 = .ok (.invokevirtual 369, 3) := by decide +kernel
theorem dX10_pass_5 : decode cX10_pass 5 = .ok (.invokevirtual 360, 3) := by decide +kernel
theorem dX10_pass_8 : decode cX10_pass 8 = .ok (.ireturn, 1) := by decide +kernel
theorem dX10_laysMinutes_0 : decode cX10_laysMinutes 0 = .ok (.aload_n 0, 1) := by decide +kernel
theorem dX10_laysMinutes_1 : decode cX10_laysMinutes 1 = .ok (.iconst 0, 1) := by decide +kernel
theorem dX10_laysMinutes_2 : decode cX10_laysMinutes 2 = .ok (.invokevirtual 372, 3) := by decide +kernel
theorem dX10_laysMinutes_5 : decode cX10_laysMinutes 5 = .ok (.aload_n 0, 1) := by decide +kernel
theorem dX10_laysMinutes_6 : decode cX10_laysMinutes 6 = .ok (.getfield 28, 3) := by decide +kernel
theorem dX10_laysMinutes_9 : decode cX10_laysMinutes 9 = .ok (.iconst 0, 1) := by decide +kernel
theorem dX10_laysMinutes_10 : decode cX10_laysMinutes 10 = .ok (.aload_n 0, 1) := by decide +kernel
theorem dX10_laysMinutes_11 : decode cX10_laysMinutes 11 = .ok (.getfield 28, 3) := by decide +kernel
theorem dX10_laysMinutes_14 : decode cX10_laysMinutes 14 = .ok (.iconst 0, 1) := by decide +kernel
theorem dX10_laysMinutes_15 : decode cX10_laysMinutes 15 = .ok (.iaload, 1) := by decide +kernel
theorem dX10_laysMinutes_16 : decode cX10_laysMinutes 16 = .ok (.iload_n 1, 1) := by decide +kernel
theorem dX10_laysMinutes_17 : decode cX10_laysMinutes 17 = .ok (.ior, 1) := by decide +kernel
theorem dX10_laysMinutes_18 : decode cX10_laysMinutes 18 = .ok (.iload_n 2, 1) := by decide +kernel
theorem dX10_laysMinutes_19 : decode cX10_laysMinutes 19 = .ok (.iconst (-1), 1) := by decide +kernel
theorem dX10_laysMinutes_20 : decode cX10_laysMinutes 20 = .ok (.ixor, 1) := by decide +kernel
theorem dX10_laysMinutes_21 : decode cX10_laysMinutes 21 = .ok (.iand, 1) := by decide +kernel
theorem dX10_laysMinutes_22 : decode cX10_laysMinutes 22 = .ok (.iload_n 3, 1) := by decide +kernel
theorem dX10_laysMinutes_23 : decode cX10_laysMinutes 23 = .ok (.iconst (-1), 1) := by decide +kernel
theorem dX10_laysMinutes_24 : decode cX10_laysMinutes 24 = .ok (.ixor, 1) := by decide +kernel
theorem dX10_laysMinutes_25 : decode cX10_laysMinutes 25 = .ok (.iand, 1) := by decide +kernel
theorem dX10_laysMinutes_26 : decode cX10_laysMinutes 26 = .ok (.iastore, 1) := by decide +kernel
theorem dX10_laysMinutes_27 : decode cX10_laysMinutes 27 = .ok (.iconst 0, 1) := by decide +kernel
theorem dX10_laysMinutes_28 : decode cX10_laysMinutes 28 = .ok (.istore 5, 2) := by decide +kernel
theorem dX10_laysMinutes_30 : decode cX10_laysMinutes 30 = .ok (.aload_n 0, 1) := by decide +kernel
theorem dX10_laysMinutes_31 : decode cX10_laysMinutes 31 = .ok (.getfield 75, 3) := by decide +kernel
theorem dX10_laysMinutes_34 : decode cX10_laysMinutes 34 = .ok (.iconst 0, 1) := by decide +kernel
theorem dX10_laysMinutes_35 : decode cX10_laysMinutes 35 = .ok (.aload_n 0, 1) := by decide +kernel
theorem dX10_laysMinutes_36 : decode cX10_laysMinutes 36 = .ok (.getfield 28, 3) := by decide +kernel
theorem dX10_laysMinutes_39 : decode cX10_laysMinutes 39 = .ok (.iconst 0, 1) := by decide +kernel
theorem dX10_laysMinutes_40 : decode cX10_laysMinutes 40 = .ok (.iaload, 1) := by decide +kernel
theorem dX10_laysMinutes_41 : decode cX10_laysMinutes 41 = .ok (.iastore, 1) := by decide +kernel
theorem dX10_laysMinutes_42 : decode cX10_laysMinutes 42 = .ok (.iload 5, 2) := by decide +kernel
theorem dX10_laysMinutes_44 : decode cX10_laysMinutes 44 = .ok (.bipush 60, 2) := by decide +kernel
theorem dX10_laysMinutes_46 : decode cX10_laysMinutes 46 = .ok (.if_icmp .ge 52, 3) := by decide +kernel
theorem dX10_laysMinutes_49 : decode cX10_laysMinutes 49 = .ok (.aload_n 0, 1) := by decide +kernel
theorem dX10_laysMinutes_50 : decode cX10_laysMinutes 50 = .ok (.getfield 75, 3) := by decide +kernel
theorem dX10_laysMinutes_53 : decode cX10_laysMinutes 53 = .ok (.iload 5, 2) := by decide +kernel
theorem dX10_laysMinutes_55 : decode cX10_laysMinutes 55 = .ok (.iaload, 1) := by decide +kernel
theorem dX10_laysMinutes_56 : decode cX10_laysMinutes 56 = .ok (.iload 4, 2) := by decide +kernel
theorem dX10_laysMinutes_58 : decode cX10_laysMinutes 58 = .ok (.iand, 1) := by decide +kernel
theorem dX10_laysMinutes_59 : decode cX10_laysMinutes 59 = .ok (.iload 4, 2) := by decide +kernel
theorem dX10_laysMinutes_61 : decode cX10_laysMinutes 61 = .ok (.if_icmp .eq 37, 3) := by decide +kernel
theorem dX10_laysMinutes_64 : decode cX10_laysMinutes 64 = .ok (.aload_n 0, 1) := by decide +kernel
theorem dX10_laysMinutes_65 : decode cX10_laysMinutes 65 = .ok (.iload 5, 2) := by decide +kernel
theorem dX10_laysMinutes_67 : decode cX10_laysMinutes 67 = .ok (.invokevirtual 375, 3) := by decide +kernel
theorem dX10_laysMinutes_70 : decode cX10_laysMinutes 70 = .ok (.ifCond .ne 28, 3) := by decide +kernel
theorem dX10_laysMinutes_73 : decode cX10_laysMinutes 73 = .ok (.aload_n 0, 1) := by decide +kernel
theorem dX10_laysMinutes_74 : decode cX10_laysMinutes 74 = .ok (.iload_n 3, 1) := by decide +kernel
theorem dX10_laysMinutes_75 : decode cX10_laysMinutes 75 = .ok (.invokevirtual 354, 3) := by decide +kernel
theorem dX10_laysMinutes_78 : decode cX10_laysMinutes 78 = .ok (.pop, 1) := by decide +kernel
theorem dX10_laysMinutes_79 : decode cX10_laysMinutes 79 = .ok (.iinc 5 1, 3) := by decide +kernel
theorem dX10_laysMinutes_82 : decode cX10_laysMinutes 82 = .ok (.aload_n 0, 1) := by decide +kernel
theorem dX10_laysMinutes_83 : decode cX10_laysMinutes 83 = .ok (.getfield 75, 3) := by decide +kernel
theorem dX10_laysMinutes_86 : decode cX10_laysMinutes 86 = .ok (.iload 5, 2) := by decide +kernel
theorem dX10_laysMinutes_88 : decode cX10_laysMinutes 88 = .ok (.aload_n 0, 1) := by decide +kernel
theorem dX10_laysMinutes_89 : decode cX10_laysMinutes 89 = .ok (.getfield 28, 3) := by decide +kernel
theorem dX10_laysMinutes_92 : decode cX10_laysMinutes 92 = .ok (.iconst 0, 1) := by decide +kernel
theorem dX10_laysMinutes_93 : decode cX10_laysMinutes 93 = .ok (.iaload, 1) := by decide +kernel
theorem dX10_laysMinutes_94 : decode cX10_laysMinutes 94 = .ok (.iastore, 1) := by decide +kernel
theorem dX10_laysMinutes_95 : decode cX10_laysMinutes 95 = .ok (.goto (-53), 3) := by decide +kernel
theorem dX10_laysMinutes_98 : decode cX10_laysMinutes 98 = .ok (.aload_n 0, 1) := by decide +kernel
theorem dX10_laysMinutes_99 : decode cX10_laysMinutes 99 = .ok (.iconst 0, 1) := by decide +kernel
theorem dX10_laysMinutes_100 : decode cX10_laysMinutes 100 = .ok (.invokevirtual 378, 3) := by decide +kernel
theorem dX10_laysMinutes_103 : decode cX10_laysMinutes 103 = .ok (.aload_n 0, 1) := by decide +kernel
theorem dX10_laysMinutes_104 : decode cX10_laysMinutes 104 = .ok (.iload 5, 2) := by decide +kernel
theorem dX10_laysMinutes_106 : decode cX10_laysMinutes 106 = .ok (.invokevirtual 375, 3) := by decide +kernel
theorem dX10_laysMinutes_109 : decode cX10_laysMinutes 109 = .ok (.ifCond .eq 36, 3) := by decide +kernel
theorem dX10_laysMinutes_112 : decode cX10_laysMinutes 112 = .ok (.iload 5, 2) := by decide +kernel
theorem dX10_laysMinutes_114 : decode cX10_laysMinutes 114 = .ok (.iconst 1, 1) := by decide +kernel
theorem dX10_laysMinutes_115 : decode cX10_laysMinutes 115 = .ok (.iadd, 1) := by decide +kernel
theorem dX10_laysMinutes_116 : decode cX10_laysMinutes 116 = .ok (.istore 6, 2) := by decide +kernel
theorem dX10_laysMinutes_118 : decode cX10_laysMinutes 118 = .ok (.iload 6, 2) := by decide +kernel
theorem dX10_laysMinutes_120 : decode cX10_laysMinutes 120 = .ok (.bipush 60, 2) := by decide +kernel
theorem dX10_laysMinutes_122 : decode cX10_laysMinutes 122 = .ok (.if_icmp .gt 23, 3) := by decide +kernel
theorem dX10_laysMinutes_125 : decode cX10_laysMinutes 125 = .ok (.aload_n 0, 1) := by decide +kernel
theorem dX10_laysMinutes_126 : decode cX10_laysMinutes 126 = .ok (.getfield 75, 3) := by decide +kernel
theorem dX10_laysMinutes_129 : decode cX10_laysMinutes 129 = .ok (.iload 6, 2) := by decide +kernel
theorem dX10_laysMinutes_131 : decode cX10_laysMinutes 131 = .ok (.aload_n 0, 1) := by decide +kernel
theorem dX10_laysMinutes_132 : decode cX10_laysMinutes 132 = .ok (.getfield 75, 3) := by decide +kernel
theorem dX10_laysMinutes_135 : decode cX10_laysMinutes 135 = .ok (.iload 5, 2) := by decide +kernel
theorem dX10_laysMinutes_137 : decode cX10_laysMinutes 137 = .ok (.iaload, 1) := by decide +kernel
theorem dX10_laysMinutes_138 : decode cX10_laysMinutes 138 = .ok (.iastore, 1) := by decide +kernel
theorem dX10_laysMinutes_139 : decode cX10_laysMinutes 139 = .ok (.iinc 6 1, 3) := by decide +kernel
theorem dX10_laysMinutes_142 : decode cX10_laysMinutes 142 = .ok (.goto (-24), 3) := by decide +kernel
theorem dX10_laysMinutes_145 : decode cX10_laysMinutes 145 = .ok (.iload 5, 2) := by decide +kernel
theorem dX10_laysMinutes_147 : decode cX10_laysMinutes 147 = .ok (.ireturn, 1) := by decide +kernel
theorem dX10_isSettled_0 : decode cX10_isSettled 0 = .ok (.aload_n 0, 1) := by decide +kernel
theorem dX10_isSettled_1 : decode cX10_isSettled 1 = .ok (.getfield 28, 3) := by decide +kernel
theorem dX10_isSettled_4 : decode cX10_isSettled 4 = .ok (.bipush 52, 2) := by decide +kernel
theorem dX10_isSettled_6 : decode cX10_isSettled 6 = .ok (.iaload, 1) := by decide +kernel
theorem dX10_isSettled_7 : decode cX10_isSettled 7 = .ok (.iconst (-1), 1) := by decide +kernel
theorem dX10_isSettled_8 : decode cX10_isSettled 8 = .ok (.if_icmp .ne 7, 3) := by decide +kernel
theorem dX10_isSettled_11 : decode cX10_isSettled 11 = .ok (.iload_n 1, 1) := by decide +kernel
theorem dX10_isSettled_12 : decode cX10_isSettled 12 = .ok (.ifCond .ne 5, 3) := by decide +kernel
theorem dX10_isSettled_15 : decode cX10_isSettled 15 = .ok (.iconst 0, 1) := by decide +kernel
theorem dX10_isSettled_16 : decode cX10_isSettled 16 = .ok (.ireturn, 1) := by decide +kernel
theorem dX10_isSettled_17 : decode cX10_isSettled 17 = .ok (.aload_n 0, 1) := by decide +kernel
theorem dX10_isSettled_18 : decode cX10_isSettled 18 = .ok (.getfield 75, 3) := by decide +kernel
theorem dX10_isSettled_21 : decode cX10_isSettled 21 = .ok (.iload_n 1, 1) := by decide +kernel
theorem dX10_isSettled_22 : decode cX10_isSettled 22 = .ok (.iaload, 1) := by decide +kernel
theorem dX10_isSettled_23 : decode cX10_isSettled 23 = .ok (.aload_n 0, 1) := by decide +kernel
theorem dX10_isSettled_24 : decode cX10_isSettled 24 = .ok (.getfield 75, 3) := by decide +kernel
theorem dX10_isSettled_27 : decode cX10_isSettled 27 = .ok (.iload_n 1, 1) := by decide +kernel
theorem dX10_isSettled_28 : decode cX10_isSettled 28 = .ok (.iconst 1, 1) := by decide +kernel
theorem dX10_isSettled_29 : decode cX10_isSettled 29 = .ok (.isub, 1) := by decide +kernel
theorem dX10_isSettled_30 : decode cX10_isSettled 30 = .ok (.iaload, 1) := by decide +kernel
theorem dX10_isSettled_31 : decode cX10_isSettled 31 = .ok (.if_icmp .ne 7, 3) := by decide +kernel
theorem dX10_isSettled_34 : decode cX10_isSettled 34 = .ok (.iconst 1, 1) := by decide +kernel
theorem dX10_isSettled_35 : decode cX10_isSettled 35 = .ok (.goto 4, 3) := by decide +kernel
theorem dX10_isSettled_38 : decode cX10_isSettled 38 = .ok (.iconst 0, 1) := by decide +kernel
theorem dX10_isSettled_39 : decode cX10_isSettled 39 = .ok (.ireturn, 1) := by decide +kernel
theorem dX10_laysAllMinutes_0 : decode cX10_laysAllMinutes 0 = .ok (.aload_n 0, 1) := by decide +kernel
theorem dX10_laysAllMinutes_1 : decode cX10_laysAllMinutes 1 = .ok (.iload_n 1, 1) := by decide +kernel
theorem dX10_laysAllMinutes_2 : decode cX10_laysAllMinutes 2 = .ok (.iload_n 2, 1) := by decide +kernel
theorem dX10_laysAllMinutes_3 : decode cX10_laysAllMinutes 3 = .ok (.iload_n 3, 1) := by decide +kernel
theorem dX10_laysAllMinutes_4 : decode cX10_laysAllMinutes 4 = .ok (.sipush 256, 3) := by decide +kernel
theorem dX10_laysAllMinutes_7 : decode cX10_laysAllMinutes 7 = .ok (.invokevirtual 381, 3) := by decide +kernel
theorem dX10_laysAllMinutes_10 : decode cX10_laysAllMinutes 10 = .ok (.pop, 1) := by decide +kernel
theorem dX10_laysAllMinutes_11 : decode cX10_laysAllMinutes 11 = .ok (.return_, 1) := by decide +kernel
theorem dX10_opensBy_0 : decode cX10_opensBy 0 = .ok (.aload_n 0, 1) := by decide +kernel
theorem dX10_opensBy_1 : decode cX10_opensBy 1 = .ok (.iload_n 1, 1) := by decide +kernel
theorem dX10_opensBy_2 : decode cX10_opensBy 2 = .ok (.iconst 0, 1) := by decide +kernel
theorem dX10_opensBy_3 : decode cX10_opensBy 3 = .ok (.iconst 0, 1) := by decide +kernel
theorem dX10_opensBy_4 : decode cX10_opensBy 4 = .ok (.iload_n 2, 1) := by decide +kernel
theorem dX10_opensBy_5 : decode cX10_opensBy 5 = .ok (.invokevirtual 381, 3) := by decide +kernel
theorem dX10_opensBy_8 : decode cX10_opensBy 8 = .ok (.istore_n 3, 1) := by decide +kernel
theorem dX10_opensBy_9 : decode cX10_opensBy 9 = .ok (.aload_n 0, 1) := by decide +kernel
theorem dX10_opensBy_10 : decode cX10_opensBy 10 = .ok (.getfield 75, 3) := by decide +kernel
theorem dX10_opensBy_13 : decode cX10_opensBy 13 = .ok (.iload_n 3, 1) := by decide +kernel
theorem dX10_opensBy_14 : decode cX10_opensBy 14 = .ok (.iaload, 1) := by decide +kernel
theorem dX10_opensBy_15 : decode cX10_opensBy 15 = .ok (.iload_n 2, 1) := by decide +kernel
theorem dX10_opensBy_16 : decode cX10_opensBy 16 = .ok (.iand, 1) := by decide +kernel
theorem dX10_opensBy_17 : decode cX10_opensBy 17 = .ok (.iload_n 2, 1) := by decide +kernel
theorem dX10_opensBy_18 : decode cX10_opensBy 18 = .ok (.if_icmp .ne 7, 3) := by decide +kernel
theorem dX10_opensBy_21 : decode cX10_opensBy 21 = .ok (.iload_n 3, 1) := by decide +kernel
theorem dX10_opensBy_22 : decode cX10_opensBy 22 = .ok (.goto 4, 3) := by decide +kernel
theorem dX10_opensBy_25 : decode cX10_opensBy 25 = .ok (.iconst (-1), 1) := by decide +kernel
theorem dX10_opensBy_26 : decode cX10_opensBy 26 = .ok (.ireturn, 1) := by decide +kernel
theorem dX10_later_0 : decode cX10_later 0 = .ok (.iload_n 1, 1) := by decide +kernel
theorem dX10_later_1 : decode cX10_later 1 = .ok (.iconst 0, 1) := by decide +kernel
theorem dX10_later_2 : decode cX10_later 2 = .ok (.bipush 60, 2) := by decide +kernel
theorem dX10_later_4 : decode cX10_later 4 = .ok (.invokestatic 18, 3) := by decide +kernel
theorem dX10_later_7 : decode cX10_later 7 = .ok (.ifCond .ne 5, 3) := by decide +kernel
theorem dX10_later_10 : decode cX10_later 10 = .ok (.iconst (-1), 1) := by decide +kernel
theorem dX10_later_11 : decode cX10_later 11 = .ok (.ireturn, 1) := by decide +kernel
theorem dX10_later_12 : decode cX10_later 12 = .ok (.aload_n 0, 1) := by decide +kernel
theorem dX10_later_13 : decode cX10_later 13 = .ok (.iconst 0, 1) := by decide +kernel
theorem dX10_later_14 : decode cX10_later 14 = .ok (.iconst 0, 1) := by decide +kernel
theorem dX10_later_15 : decode cX10_later 15 = .ok (.iconst 0, 1) := by decide +kernel
theorem dX10_later_16 : decode cX10_later 16 = .ok (.invokevirtual 385, 3) := by decide +kernel
theorem dX10_later_19 : decode cX10_later 19 = .ok (.aload_n 0, 1) := by decide +kernel
theorem dX10_later_20 : decode cX10_later 20 = .ok (.getfield 75, 3) := by decide +kernel
theorem dX10_later_23 : decode cX10_later 23 = .ok (.iload_n 1, 1) := by decide +kernel
theorem dX10_later_24 : decode cX10_later 24 = .ok (.iaload, 1) := by decide +kernel
theorem dX10_later_25 : decode cX10_later 25 = .ok (.ireturn, 1) := by decide +kernel
theorem dX10_opens_0 : decode cX10_opens 0 = .ok (.aload_n 0, 1) := by decide +kernel
theorem dX10_opens_1 : decode cX10_opens 1 = .ok (.iload_n 1, 1) := by decide +kernel
theorem dX10_opens_2 : decode cX10_opens 2 = .ok (.invokevirtual 128, 3) := by decide +kernel
theorem dX10_opens_5 : decode cX10_opens 5 = .ok (.ifCond .eq 14, 3) := by decide +kernel
theorem dX10_opens_8 : decode cX10_opens 8 = .ok (.aload_n 0, 1) := by decide +kernel
theorem dX10_opens_9 : decode cX10_opens 9 = .ok (.iconst 0, 1) := by decide +kernel
theorem dX10_opens_10 : decode cX10_opens 10 = .ok (.iconst 1, 1) := by decide +kernel
theorem dX10_opens_11 : decode cX10_opens 11 = .ok (.iload_n 1, 1) := by decide +kernel
theorem dX10_opens_12 : decode cX10_opens 12 = .ok (.ishl, 1) := by decide +kernel
theorem dX10_opens_13 : decode cX10_opens 13 = .ok (.invokevirtual 389, 3) := by decide +kernel
theorem dX10_opens_16 : decode cX10_opens 16 = .ok (.goto 4, 3) := by decide +kernel
theorem dX10_opens_19 : decode cX10_opens 19 = .ok (.iconst (-1), 1) := by decide +kernel
theorem dX10_opens_20 : decode cX10_opens 20 = .ok (.ireturn, 1) := by decide +kernel
theorem dX10_together_0 : decode cX10_together 0 = .ok (.aload_n 0, 1) := by decide +kernel
theorem dX10_together_1 : decode cX10_together 1 = .ok (.iconst 0, 1) := by decide +kernel
theorem dX10_together_2 : decode cX10_together 2 = .ok (.aload_n 0, 1) := by decide +kernel
theorem dX10_together_3 : decode cX10_together 3 = .ok (.invokevirtual 162, 3) := by decide +kernel
theorem dX10_together_6 : decode cX10_together 6 = .ok (.invokevirtual 389, 3) := by decide +kernel
theorem dX10_together_9 : decode cX10_together 9 = .ok (.ireturn, 1) := by decide +kernel
theorem dX10_again_0 : decode cX10_again 0 = .ok (.aload_n 0, 1) := by decide +kernel
theorem dX10_again_1 : decode cX10_again 1 = .ok (.iconst 0, 1) := by decide +kernel
theorem dX10_again_2 : decode cX10_again 2 = .ok (.iconst 0, 1) := by decide +kernel
theorem dX10_again_3 : decode cX10_again 3 = .ok (.iconst 0, 1) := by decide +kernel
theorem dX10_again_4 : decode cX10_again 4 = .ok (.invokevirtual 385, 3) := by decide +kernel
theorem dX10_again_7 : decode cX10_again 7 = .ok (.iconst 1, 1) := by decide +kernel
theorem dX10_again_8 : decode cX10_again 8 = .ok (.istore_n 1, 1) := by decide +kernel
theorem dX10_again_9 : decode cX10_again 9 = .ok (.iload_n 1, 1) := by decide +kernel
theorem dX10_again_10 : decode cX10_again 10 = .ok (.bipush 60, 2) := by decide +kernel
theorem dX10_again_12 : decode cX10_again 12 = .ok (.if_icmp .gt 26, 3) := by decide +kernel
theorem dX10_again_15 : decode cX10_again 15 = .ok (.aload_n 0, 1) := by decide +kernel
theorem dX10_again_16 : decode cX10_again 16 = .ok (.getfield 75, 3) := by decide +kernel
theorem dX10_again_19 : decode cX10_again 19 = .ok (.iload_n 1, 1) := by decide +kernel
theorem dX10_again_20 : decode cX10_again 20 = .ok (.iaload, 1) := by decide +kernel
theorem dX10_again_21 : decode cX10_again 21 = .ok (.aload_n 0, 1) := by decide +kernel
theorem dX10_again_22 : decode cX10_again 22 = .ok (.getfield 75, 3) := by decide +kernel
theorem dX10_again_25 : decode cX10_again 25 = .ok (.iconst 0, 1) := by decide +kernel
theorem dX10_again_26 : decode cX10_again 26 = .ok (.iaload, 1) := by decide +kernel
theorem dX10_again_27 : decode cX10_again 27 = .ok (.if_icmp .ne 5, 3) := by decide +kernel
theorem dX10_again_30 : decode cX10_again 30 = .ok (.iload_n 1, 1) := by decide +kernel
theorem dX10_again_31 : decode cX10_again 31 = .ok (.ireturn, 1) := by decide +kernel
theorem dX10_again_32 : decode cX10_again 32 = .ok (.iinc 1 1, 3) := by decide +kernel
theorem dX10_again_35 : decode cX10_again 35 = .ok (.goto (-26), 3) := by decide +kernel
theorem dX10_again_38 : decode cX10_again 38 = .ok (.iconst (-1), 1) := by decide +kernel
theorem dX10_again_39 : decode cX10_again 39 = .ok (.ireturn, 1) := by decide +kernel
theorem dX10_fewestFor_0 : decode cX10_fewestFor 0 = .ok (.iconst 0, 1) := by decide +kernel
theorem dX10_fewestFor_1 : decode cX10_fewestFor 1 = .ok (.istore_n 3, 1) := by decide +kernel
theorem dX10_fewestFor_2 : decode cX10_fewestFor 2 = .ok (.iload_n 3, 1) := by decide +kernel
theorem dX10_fewestFor_3 : decode cX10_fewestFor 3 = .ok (.iload_n 1, 1) := by decide +kernel
theorem dX10_fewestFor_4 : decode cX10_fewestFor 4 = .ok (.invokestatic 313, 3) := by decide +kernel
theorem dX10_fewestFor_7 : decode cX10_fewestFor 7 = .ok (.if_icmp .gt 59, 3) := by decide +kernel
theorem dX10_fewestFor_10 : decode cX10_fewestFor 10 = .ok (.iconst 0, 1) := by decide +kernel
theorem dX10_fewestFor_11 : decode cX10_fewestFor 11 = .ok (.istore 4, 2) := by decide +kernel
theorem dX10_fewestFor_13 : decode cX10_fewestFor 13 = .ok (.iload 4, 2) := by decide +kernel
theorem dX10_fewestFor_15 : decode cX10_fewestFor 15 = .ok (.iload_n 1, 1) := by decide +kernel
theorem dX10_fewestFor_16 : decode cX10_fewestFor 16 = .ok (.if_icmp .gt 44, 3) := by decide +kernel
theorem dX10_fewestFor_19 : decode cX10_fewestFor 19 = .ok (.iload 4, 2) := by decide +kernel
theorem dX10_fewestFor_21 : decode cX10_fewestFor 21 = .ok (.iload_n 1, 1) := by decide +kernel
theorem dX10_fewestFor_22 : decode cX10_fewestFor 22 = .ok (.iconst (-1), 1) := by decide +kernel
theorem dX10_fewestFor_23 : decode cX10_fewestFor 23 = .ok (.ixor, 1) := by decide +kernel
theorem dX10_fewestFor_24 : decode cX10_fewestFor 24 = .ok (.iand, 1) := by decide +kernel
theorem dX10_fewestFor_25 : decode cX10_fewestFor 25 = .ok (.ifCond .ne 29, 3) := by decide +kernel
theorem dX10_fewestFor_28 : decode cX10_fewestFor 28 = .ok (.iload 4, 2) := by decide +kernel
theorem dX10_fewestFor_30 : decode cX10_fewestFor 30 = .ok (.invokestatic 313, 3) := by decide +kernel
theorem dX10_fewestFor_33 : decode cX10_fewestFor 33 = .ok (.iload_n 3, 1) := by decide +kernel
theorem dX10_fewestFor_34 : decode cX10_fewestFor 34 = .ok (.if_icmp .eq 6, 3) := by decide +kernel
theorem dX10_fewestFor_37 : decode cX10_fewestFor 37 = .ok (.goto 17, 3) := by decide +kernel
theorem dX10_fewestFor_40 : decode cX10_fewestFor 40 = .ok (.aload_n 0, 1) := by decide +kernel
theorem dX10_fewestFor_41 : decode cX10_fewestFor 41 = .ok (.iload 4, 2) := by decide +kernel
theorem dX10_fewestFor_43 : decode cX10_fewestFor 43 = .ok (.iload_n 2, 1) := by decide +kernel
theorem dX10_fewestFor_44 : decode cX10_fewestFor 44 = .ok (.invokevirtual 389, 3) := by decide +kernel
theorem dX10_fewestFor_47 : decode cX10_fewestFor 47 = .ok (.iconst (-1), 1) := by decide +kernel
theorem dX10_fewestFor_48 : decode cX10_fewestFor 48 = .ok (.if_icmp .eq 6, 3) := by decide +kernel
theorem dX10_fewestFor_51 : decode cX10_fewestFor 51 = .ok (.iload 4, 2) := by decide +kernel
theorem dX10_fewestFor_53 : decode cX10_fewestFor 53 = .ok (.ireturn, 1) := by decide +kernel
theorem dX10_fewestFor_54 : decode cX10_fewestFor 54 = .ok (.iinc 4 1, 3) := by decide +kernel
theorem dX10_fewestFor_57 : decode cX10_fewestFor 57 = .ok (.goto (-44), 3) := by decide +kernel
theorem dX10_fewestFor_60 : decode cX10_fewestFor 60 = .ok (.iinc 3 1, 3) := by decide +kernel
theorem dX10_fewestFor_63 : decode cX10_fewestFor 63 = .ok (.goto (-61), 3) := by decide +kernel
theorem dX10_fewestFor_66 : decode cX10_fewestFor 66 = .ok (.iconst (-1), 1) := by decide +kernel
theorem dX10_fewestFor_67 : decode cX10_fewestFor 67 = .ok (.ireturn, 1) := by decide +kernel
theorem dX10_toldOf_0 : decode cX10_toldOf 0 = .ok (.iload_n 0, 1) := by decide +kernel
theorem dX10_toldOf_1 : decode cX10_toldOf 1 = .ok (.iconst (-1), 1) := by decide +kernel
theorem dX10_toldOf_2 : decode cX10_toldOf 2 = .ok (.if_icmp .eq 8, 3) := by decide +kernel
theorem dX10_toldOf_5 : decode cX10_toldOf 5 = .ok (.iload_n 1, 1) := by decide +kernel
theorem dX10_toldOf_6 : decode cX10_toldOf 6 = .ok (.iconst 1, 1) := by decide +kernel
theorem dX10_toldOf_7 : decode cX10_toldOf 7 = .ok (.if_icmp .ne 7, 3) := by decide +kernel
theorem dX10_toldOf_10 : decode cX10_toldOf 10 = .ok (.iload_n 0, 1) := by decide +kernel
theorem dX10_toldOf_11 : decode cX10_toldOf 11 = .ok (.goto 7, 3) := by decide +kernel
theorem dX10_toldOf_14 : decode cX10_toldOf 14 = .ok (.iload_n 0, 1) := by decide +kernel
theorem dX10_toldOf_15 : decode cX10_toldOf 15 = .ok (.invokestatic 313, 3) := by decide +kernel
theorem dX10_toldOf_18 : decode cX10_toldOf 18 = .ok (.ireturn, 1) := by decide +kernel
theorem dX10_shutNow_0 : decode cX10_shutNow 0 = .ok (.aload_n 0, 1) := by decide +kernel
theorem dX10_shutNow_1 : decode cX10_shutNow 1 = .ok (.invokevirtual 162, 3) := by decide +kernel
theorem dX10_shutNow_4 : decode cX10_shutNow 4 = .ok (.aload_n 0, 1) := by decide +kernel
theorem dX10_shutNow_5 : decode cX10_shutNow 5 = .ok (.getfield 28, 3) := by decide +kernel
theorem dX10_shutNow_8 : decode cX10_shutNow 8 = .ok (.iconst 0, 1) := by decide +kernel
theorem dX10_shutNow_9 : decode cX10_shutNow 9 = .ok (.iaload, 1) := by decide +kernel
theorem dX10_shutNow_10 : decode cX10_shutNow 10 = .ok (.iconst (-1), 1) := by decide +kernel
theorem dX10_shutNow_11 : decode cX10_shutNow 11 = .ok (.ixor, 1) := by decide +kernel
theorem dX10_shutNow_12 : decode cX10_shutNow 12 = .ok (.iand, 1) := by decide +kernel
theorem dX10_shutNow_13 : decode cX10_shutNow 13 = .ok (.ireturn, 1) := by decide +kernel
theorem dX10_seeds_0 : decode cX10_seeds 0 = .ok (.iload_n 1, 1) := by decide +kernel
theorem dX10_seeds_1 : decode cX10_seeds 1 = .ok (.invokestatic 125, 3) := by decide +kernel
theorem dX10_seeds_4 : decode cX10_seeds 4 = .ok (.ifCond .ne 5, 3) := by decide +kernel
theorem dX10_seeds_7 : decode cX10_seeds 7 = .ok (.iconst (-1), 1) := by decide +kernel
theorem dX10_seeds_8 : decode cX10_seeds 8 = .ok (.ireturn, 1) := by decide +kernel
theorem dX10_seeds_9 : decode cX10_seeds 9 = .ok (.aload_n 0, 1) := by decide +kernel
theorem dX10_seeds_10 : decode cX10_seeds 10 = .ok (.aload_n 0, 1) := by decide +kernel
theorem dX10_seeds_11 : decode cX10_seeds 11 = .ok (.invokevirtual 392, 3) := by decide +kernel
theorem dX10_seeds_14 : decode cX10_seeds 14 = .ok (.aload_n 0, 1) := by decide +kernel
theorem dX10_seeds_15 : decode cX10_seeds 15 = .ok (.invokevirtual 162, 3) := by decide +kernel
theorem dX10_seeds_18 : decode cX10_seeds 18 = .ok (.invokevirtual 395, 3) := by decide +kernel
theorem dX10_seeds_21 : decode cX10_seeds 21 = .ok (.iload_n 1, 1) := by decide +kernel
theorem dX10_seeds_22 : decode cX10_seeds 22 = .ok (.invokestatic 398, 3) := by decide +kernel
theorem dX10_seeds_25 : decode cX10_seeds 25 = .ok (.ireturn, 1) := by decide +kernel
theorem dX10_seedsFor_0 : decode cX10_seedsFor 0 = .ok (.aload_n 0, 1) := by decide +kernel
theorem dX10_seedsFor_1 : decode cX10_seedsFor 1 = .ok (.iload_n 1, 1) := by decide +kernel
theorem dX10_seedsFor_2 : decode cX10_seedsFor 2 = .ok (.invokevirtual 128, 3) := by decide +kernel
theorem dX10_seedsFor_5 : decode cX10_seedsFor 5 = .ok (.ifCond .eq 10, 3) := by decide +kernel
theorem dX10_seedsFor_8 : decode cX10_seedsFor 8 = .ok (.iload_n 2, 1) := by decide +kernel
theorem dX10_seedsFor_9 : decode cX10_seedsFor 9 = .ok (.invokestatic 125, 3) := by decide +kernel
theorem dX10_seedsFor_12 : decode cX10_seedsFor 12 = .ok (.ifCond .ne 5, 3) := by decide +kernel
theorem dX10_seedsFor_15 : decode cX10_seedsFor 15 = .ok (.iconst (-1), 1) := by decide +kernel
theorem dX10_seedsFor_16 : decode cX10_seedsFor 16 = .ok (.ireturn, 1) := by decide +kernel
theorem dX10_seedsFor_17 : decode cX10_seedsFor 17 = .ok (.aload_n 0, 1) := by decide +kernel
theorem dX10_seedsFor_18 : decode cX10_seedsFor 18 = .ok (.aload_n 0, 1) := by decide +kernel
theorem dX10_seedsFor_19 : decode cX10_seedsFor 19 = .ok (.invokevirtual 392, 3) := by decide +kernel
theorem dX10_seedsFor_22 : decode cX10_seedsFor 22 = .ok (.iconst 1, 1) := by decide +kernel
theorem dX10_seedsFor_23 : decode cX10_seedsFor 23 = .ok (.iload_n 1, 1) := by decide +kernel
theorem dX10_seedsFor_24 : decode cX10_seedsFor 24 = .ok (.ishl, 1) := by decide +kernel
theorem dX10_seedsFor_25 : decode cX10_seedsFor 25 = .ok (.iconst (-1), 1) := by decide +kernel
theorem dX10_seedsFor_26 : decode cX10_seedsFor 26 = .ok (.ixor, 1) := by decide +kernel
theorem dX10_seedsFor_27 : decode cX10_seedsFor 27 = .ok (.iand, 1) := by decide +kernel
theorem dX10_seedsFor_28 : decode cX10_seedsFor 28 = .ok (.iconst 1, 1) := by decide +kernel
theorem dX10_seedsFor_29 : decode cX10_seedsFor 29 = .ok (.iload_n 1, 1) := by decide +kernel
theorem dX10_seedsFor_30 : decode cX10_seedsFor 30 = .ok (.ishl, 1) := by decide +kernel
theorem dX10_seedsFor_31 : decode cX10_seedsFor 31 = .ok (.invokevirtual 395, 3) := by decide +kernel
theorem dX10_seedsFor_34 : decode cX10_seedsFor 34 = .ok (.iload_n 2, 1) := by decide +kernel
theorem dX10_seedsFor_35 : decode cX10_seedsFor 35 = .ok (.invokestatic 398, 3) := by decide +kernel
theorem dX10_seedsFor_38 : decode cX10_seedsFor 38 = .ok (.ireturn, 1) := by decide +kernel
theorem dX10_openLast_0 : decode cX10_openLast 0 = .ok (.aload_n 0, 1) := by decide +kernel
theorem dX10_openLast_1 : decode cX10_openLast 1 = .ok (.iload_n 1, 1) := by decide +kernel
theorem dX10_openLast_2 : decode cX10_openLast 2 = .ok (.iload_n 2, 1) := by decide +kernel
theorem dX10_openLast_3 : decode cX10_openLast 3 = .ok (.iconst 0, 1) := by decide +kernel
theorem dX10_openLast_4 : decode cX10_openLast 4 = .ok (.invokevirtual 385, 3) := by decide +kernel
theorem dX10_openLast_7 : decode cX10_openLast 7 = .ok (.aload_n 0, 1) := by decide +kernel
theorem dX10_openLast_8 : decode cX10_openLast 8 = .ok (.getfield 75, 3) := by decide +kernel
theorem dX10_openLast_11 : decode cX10_openLast 11 = .ok (.bipush 60, 2) := by decide +kernel
theorem dX10_openLast_13 : decode cX10_openLast 13 = .ok (.iaload, 1) := by decide +kernel
theorem dX10_openLast_14 : decode cX10_openLast 14 = .ok (.ireturn, 1) := by decide +kernel
theorem dX10_spread_0 : decode cX10_spread 0 = .ok (.aload_n 0, 1) := by decide +kernel
theorem dX10_spread_1 : decode cX10_spread 1 = .ok (.iload_n 1, 1) := by decide +kernel
theorem dX10_spread_2 : decode cX10_spread 2 = .ok (.invokevirtual 128, 3) := by decide +kernel
theorem dX10_spread_5 : decode cX10_spread 5 = .ok (.ifCond .ne 5, 3) := by decide +kernel
theorem dX10_spread_8 : decode cX10_spread 8 = .ok (.iconst (-1), 1) := by decide +kernel
theorem dX10_spread_9 : decode cX10_spread 9 = .ok (.ireturn, 1) := by decide +kernel
theorem dX10_spread_10 : decode cX10_spread 10 = .ok (.aload_n 0, 1) := by decide +kernel
theorem dX10_spread_11 : decode cX10_spread 11 = .ok (.iconst 1, 1) := by decide +kernel
theorem dX10_spread_12 : decode cX10_spread 12 = .ok (.iload_n 1, 1) := by decide +kernel
theorem dX10_spread_13 : decode cX10_spread 13 = .ok (.ishl, 1) := by decide +kernel
theorem dX10_spread_14 : decode cX10_spread 14 = .ok (.iconst 0, 1) := by decide +kernel
theorem dX10_spread_15 : decode cX10_spread 15 = .ok (.invokevirtual 401, 3) := by decide +kernel
theorem dX10_spread_18 : decode cX10_spread 18 = .ok (.istore_n 2, 1) := by decide +kernel
theorem dX10_spread_19 : decode cX10_spread 19 = .ok (.aload_n 0, 1) := by decide +kernel
theorem dX10_spread_20 : decode cX10_spread 20 = .ok (.iconst 0, 1) := by decide +kernel
theorem dX10_spread_21 : decode cX10_spread 21 = .ok (.iconst 1, 1) := by decide +kernel
theorem dX10_spread_22 : decode cX10_spread 22 = .ok (.iload_n 1, 1) := by decide +kernel
theorem dX10_spread_23 : decode cX10_spread 23 = .ok (.ishl, 1) := by decide +kernel
theorem dX10_spread_24 : decode cX10_spread 24 = .ok (.invokevirtual 401, 3) := by decide +kernel
theorem dX10_spread_27 : decode cX10_spread 27 = .ok (.istore_n 3, 1) := by decide +kernel
theorem dX10_spread_28 : decode cX10_spread 28 = .ok (.iload_n 2, 1) := by decide +kernel
theorem dX10_spread_29 : decode cX10_spread 29 = .ok (.iload_n 3, 1) := by decide +kernel
theorem dX10_spread_30 : decode cX10_spread 30 = .ok (.iconst (-1), 1) := by decide +kernel
theorem dX10_spread_31 : decode cX10_spread 31 = .ok (.ixor, 1) := by decide +kernel
theorem dX10_spread_32 : decode cX10_spread 32 = .ok (.iand, 1) := by decide +kernel
theorem dX10_spread_33 : decode cX10_spread 33 = .ok (.ireturn, 1) := by decide +kernel
theorem dX10_staysShut_0 : decode cX10_staysShut 0 = .ok (.aload_n 0, 1) := by decide +kernel
theorem dX10_staysShut_1 : decode cX10_staysShut 1 = .ok (.iconst 0, 1) := by decide +kernel
theorem dX10_staysShut_2 : decode cX10_staysShut 2 = .ok (.iconst 0, 1) := by decide +kernel
theorem dX10_staysShut_3 : decode cX10_staysShut 3 = .ok (.iload_n 2, 1) := by decide +kernel
theorem dX10_staysShut_4 : decode cX10_staysShut 4 = .ok (.iconst 1, 1) := by decide +kernel
theorem dX10_staysShut_5 : decode cX10_staysShut 5 = .ok (.iload_n 1, 1) := by decide +kernel
theorem dX10_staysShut_6 : decode cX10_staysShut 6 = .ok (.ishl, 1) := by decide +kernel
theorem dX10_staysShut_7 : decode cX10_staysShut 7 = .ok (.invokevirtual 381, 3) := by decide +kernel
theorem dX10_staysShut_10 : decode cX10_staysShut 10 = .ok (.istore_n 3, 1) := by decide +kernel
theorem dX10_staysShut_11 : decode cX10_staysShut 11 = .ok (.aload_n 0, 1) := by decide +kernel
theorem dX10_staysShut_12 : decode cX10_staysShut 12 = .ok (.getfield 75, 3) := by decide +kernel
theorem dX10_staysShut_15 : decode cX10_staysShut 15 = .ok (.iload_n 3, 1) := by decide +kernel
theorem dX10_staysShut_16 : decode cX10_staysShut 16 = .ok (.iaload, 1) := by decide +kernel
theorem dX10_staysShut_17 : decode cX10_staysShut 17 = .ok (.iload_n 1, 1) := by decide +kernel
