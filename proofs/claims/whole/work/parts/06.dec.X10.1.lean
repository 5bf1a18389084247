theorem dX10_row_68 : decode cX10_row 68 = .ok (.baload, 1) := by decide +kernel
theorem dX10_row_69 : decode cX10_row 69 = .ok (.aload_n 0, 1) := by decide +kernel
theorem dX10_row_70 : decode cX10_row 70 = .ok (.iload 4, 2) := by decide +kernel
theorem dX10_row_72 : decode cX10_row 72 = .ok (.invokevirtual 159, 3) := by decide +kernel
theorem dX10_row_75 : decode cX10_row 75 = .ok (.invokevirtual 121, 3) := by decide +kernel
theorem dX10_row_78 : decode cX10_row 78 = .ok (.pop, 1) := by decide +kernel
theorem dX10_row_79 : decode cX10_row 79 = .ok (.iinc 2 1, 3) := by decide +kernel
theorem dX10_row_82 : decode cX10_row 82 = .ok (.iinc 4 3, 3) := by decide +kernel
theorem dX10_row_85 : decode cX10_row 85 = .ok (.goto (-53), 3) := by decide +kernel
theorem dX10_row_88 : decode cX10_row 88 = .ok (.aload_n 0, 1) := by decide +kernel
theorem dX10_row_89 : decode cX10_row 89 = .ok (.iload_n 3, 1) := by decide +kernel
theorem dX10_row_90 : decode cX10_row 90 = .ok (.iload_n 2, 1) := by decide +kernel
theorem dX10_row_91 : decode cX10_row 91 = .ok (.isub, 1) := by decide +kernel
theorem dX10_row_92 : decode cX10_row 92 = .ok (.putfield 171, 3) := by decide +kernel
theorem dX10_row_95 : decode cX10_row 95 = .ok (.aload_n 0, 1) := by decide +kernel
theorem dX10_row_96 : decode cX10_row 96 = .ok (.iload_n 2, 1) := by decide +kernel
theorem dX10_row_97 : decode cX10_row 97 = .ok (.invokevirtual 106, 3) := by decide +kernel
theorem dX10_row_100 : decode cX10_row 100 = .ok (.ireturn, 1) := by decide +kernel
theorem dX10_burrs_0 : decode cX10_burrs 0 = .ok (.aload_n 0, 1) := by decide +kernel
theorem dX10_burrs_1 : decode cX10_burrs 1 = .ok (.getfield 171, 3) := by decide +kernel
theorem dX10_burrs_4 : decode cX10_burrs 4 = .ok (.ireturn, 1) := by decide +kernel
theorem dX10_feed_0 : decode cX10_feed 0 = .ok (.aload_n 0, 1) := by decide +kernel
theorem dX10_feed_1 : decode cX10_feed 1 = .ok (.getfield 165, 3) := by decide +kernel
theorem dX10_feed_4 : decode cX10_feed 4 = .ok (.bipush 20, 2) := by decide +kernel
theorem dX10_feed_6 : decode cX10_feed 6 = .ok (.iadd, 1) := by decide +kernel
theorem dX10_feed_7 : decode cX10_feed 7 = .ok (.sipush 400, 3) := by decide +kernel
theorem dX10_feed_10 : decode cX10_feed 10 = .ok (.if_icmp .le 5, 3) := by decide +kernel
theorem dX10_feed_13 : decode cX10_feed 13 = .ok (.iconst (-1), 1) := by decide +kernel
theorem dX10_feed_14 : decode cX10_feed 14 = .ok (.ireturn, 1) := by decide +kernel
theorem dX10_feed_15 : decode cX10_feed 15 = .ok (.aload_n 0, 1) := by decide +kernel
theorem dX10_feed_16 : decode cX10_feed 16 = .ok (.getfield 48, 3) := by decide +kernel
theorem dX10_feed_19 : decode cX10_feed 19 = .ok (.iconst 0, 1) := by decide +kernel
theorem dX10_feed_20 : decode cX10_feed 20 = .ok (.iload_n 1, 1) := by decide +kernel
theorem dX10_feed_21 : decode cX10_feed 21 = .ok (.iastore, 1) := by decide +kernel
theorem dX10_feed_22 : decode cX10_feed 22 = .ok (.aload_n 0, 1) := by decide +kernel
theorem dX10_feed_23 : decode cX10_feed 23 = .ok (.getfield 48, 3) := by decide +kernel
theorem dX10_feed_26 : decode cX10_feed 26 = .ok (.iconst 1, 1) := by decide +kernel
theorem dX10_feed_27 : decode cX10_feed 27 = .ok (.iload_n 2, 1) := by decide +kernel
theorem dX10_feed_28 : decode cX10_feed 28 = .ok (.iastore, 1) := by decide +kernel
theorem dX10_feed_29 : decode cX10_feed 29 = .ok (.aload_n 0, 1) := by decide +kernel
theorem dX10_feed_30 : decode cX10_feed 30 = .ok (.getfield 48, 3) := by decide +kernel
theorem dX10_feed_33 : decode cX10_feed 33 = .ok (.iconst 2, 1) := by decide +kernel
theorem dX10_feed_34 : decode cX10_feed 34 = .ok (.iload_n 3, 1) := by decide +kernel
theorem dX10_feed_35 : decode cX10_feed 35 = .ok (.iastore, 1) := by decide +kernel
theorem dX10_feed_36 : decode cX10_feed 36 = .ok (.aload_n 0, 1) := by decide +kernel
theorem dX10_feed_37 : decode cX10_feed 37 = .ok (.getfield 48, 3) := by decide +kernel
theorem dX10_feed_40 : decode cX10_feed 40 = .ok (.iconst 3, 1) := by decide +kernel
theorem dX10_feed_41 : decode cX10_feed 41 = .ok (.iload 4, 2) := by decide +kernel
theorem dX10_feed_43 : decode cX10_feed 43 = .ok (.iastore, 1) := by decide +kernel
theorem dX10_feed_44 : decode cX10_feed 44 = .ok (.aload_n 0, 1) := by decide +kernel
theorem dX10_feed_45 : decode cX10_feed 45 = .ok (.getfield 48, 3) := by decide +kernel
theorem dX10_feed_48 : decode cX10_feed 48 = .ok (.iconst 4, 1) := by decide +kernel
theorem dX10_feed_49 : decode cX10_feed 49 = .ok (.iload 5, 2) := by decide +kernel
theorem dX10_feed_51 : decode cX10_feed 51 = .ok (.iastore, 1) := by decide +kernel
theorem dX10_feed_52 : decode cX10_feed 52 = .ok (.iconst 0, 1) := by decide +kernel
theorem dX10_feed_53 : decode cX10_feed 53 = .ok (.istore 6, 2) := by decide +kernel
theorem dX10_feed_55 : decode cX10_feed 55 = .ok (.iload 6, 2) := by decide +kernel
theorem dX10_feed_57 : decode cX10_feed 57 = .ok (.bipush 20, 2) := by decide +kernel
theorem dX10_feed_59 : decode cX10_feed 59 = .ok (.if_icmp .ge 42, 3) := by decide +kernel
theorem dX10_feed_62 : decode cX10_feed 62 = .ok (.aload_n 0, 1) := by decide +kernel
theorem dX10_feed_63 : decode cX10_feed 63 = .ok (.getfield 45, 3) := by decide +kernel
theorem dX10_feed_66 : decode cX10_feed 66 = .ok (.aload_n 0, 1) := by decide +kernel
theorem dX10_feed_67 : decode cX10_feed 67 = .ok (.getfield 165, 3) := by decide +kernel
theorem dX10_feed_70 : decode cX10_feed 70 = .ok (.iload 6, 2) := by decide +kernel
theorem dX10_feed_72 : decode cX10_feed 72 = .ok (.iadd, 1) := by decide +kernel
theorem dX10_feed_73 : decode cX10_feed 73 = .ok (.aload_n 0, 1) := by decide +kernel
theorem dX10_feed_74 : decode cX10_feed 74 = .ok (.getfield 48, 3) := by decide +kernel
theorem dX10_feed_77 : decode cX10_feed 77 = .ok (.iload 6, 2) := by decide +kernel
theorem dX10_feed_79 : decode cX10_feed 79 = .ok (.iconst 4, 1) := by decide +kernel
theorem dX10_feed_80 : decode cX10_feed 80 = .ok (.idiv, 1) := by decide +kernel
theorem dX10_feed_81 : decode cX10_feed 81 = .ok (.iaload, 1) := by decide +kernel
theorem dX10_feed_82 : decode cX10_feed 82 = .ok (.bipush 24, 2) := by decide +kernel
theorem dX10_feed_84 : decode cX10_feed 84 = .ok (.bipush 8, 2) := by decide +kernel
theorem dX10_feed_86 : decode cX10_feed 86 = .ok (.iload 6, 2) := by decide +kernel
theorem dX10_feed_88 : decode cX10_feed 88 = .ok (.iconst 4, 1) := by decide +kernel
theorem dX10_feed_89 : decode cX10_feed 89 = .ok (.irem, 1) := by decide +kernel
theorem dX10_feed_90 : decode cX10_feed 90 = .ok (.imul, 1) := by decide +kernel
theorem dX10_feed_91 : decode cX10_feed 91 = .ok (.isub, 1) := by decide +kernel
theorem dX10_feed_92 : decode cX10_feed 92 = .ok (.ishr, 1) := by decide +kernel
theorem dX10_feed_93 : decode cX10_feed 93 = .ok (.i2b, 1) := by decide +kernel
theorem dX10_feed_94 : decode cX10_feed 94 = .ok (.bastore, 1) := by decide +kernel
theorem dX10_feed_95 : decode cX10_feed 95 = .ok (.iinc 6 1, 3) := by decide +kernel
theorem dX10_feed_98 : decode cX10_feed 98 = .ok (.goto (-43), 3) := by decide +kernel
theorem dX10_feed_101 : decode cX10_feed 101 = .ok (.aload_n 0, 1) := by decide +kernel
theorem dX10_feed_102 : decode cX10_feed 102 = .ok (.dup, 1) := by decide +kernel
theorem dX10_feed_103 : decode cX10_feed 103 = .ok (.getfield 165, 3) := by decide +kernel
theorem dX10_feed_106 : decode cX10_feed 106 = .ok (.bipush 20, 2) := by decide +kernel
theorem dX10_feed_108 : decode cX10_feed 108 = .ok (.iadd, 1) := by decide +kernel
theorem dX10_feed_109 : decode cX10_feed 109 = .ok (.putfield 165, 3) := by decide +kernel
theorem dX10_feed_112 : decode cX10_feed 112 = .ok (.aload_n 0, 1) := by decide +kernel
theorem dX10_feed_113 : decode cX10_feed 113 = .ok (.getfield 165, 3) := by decide +kernel
theorem dX10_feed_116 : decode cX10_feed 116 = .ok (.ireturn, 1) := by decide +kernel
theorem dX10_end_0 : decode cX10_end 0 = .ok (.iload_n 1, 1) := by decide +kernel
theorem dX10_end_1 : decode cX10_end 1 = .ok (.iconst 0, 1) := by decide +kernel
theorem dX10_end_2 : decode cX10_end 2 = .ok (.aload_n 0, 1) := by decide +kernel
theorem dX10_end_3 : decode cX10_end 3 = .ok (.getfield 165, 3) := by decide +kernel
theorem dX10_end_6 : decode cX10_end 6 = .ok (.invokestatic 18, 3) := by decide +kernel
theorem dX10_end_9 : decode cX10_end 9 = .ok (.ifCond .ne 5, 3) := by decide +kernel
theorem dX10_end_12 : decode cX10_end 12 = .ok (.iconst (-1), 1) := by decide +kernel
theorem dX10_end_13 : decode cX10_end 13 = .ok (.ireturn, 1) := by decide +kernel
theorem dX10_end_14 : decode cX10_end 14 = .ok (.aload_n 0, 1) := by decide +kernel
theorem dX10_end_15 : decode cX10_end 15 = .ok (.iload_n 1, 1) := by decide +kernel
theorem dX10_end_16 : decode cX10_end 16 = .ok (.putfield 165, 3) := by decide +kernel
theorem dX10_end_19 : decode cX10_end 19 = .ok (.iload_n 1, 1) := by decide +kernel
theorem dX10_end_20 : decode cX10_end 20 = .ok (.ireturn, 1) := by decide +kernel
theorem dX10_isSmall_0 : decode cX10_isSmall 0 = .ok (.iload_n 0, 1) := by decide +kernel
theorem dX10_isSmall_1 : decode cX10_isSmall 1 = .ok (.bipush 97, 2) := by decide +kernel
theorem dX10_isSmall_3 : decode cX10_isSmall 3 = .ok (.if_icmp .lt 13, 3) := by decide +kernel
theorem dX10_isSmall_6 : decode cX10_isSmall 6 = .ok (.iload_n 0, 1) := by decide +kernel
theorem dX10_isSmall_7 : decode cX10_isSmall 7 = .ok (.bipush 122, 2) := by decide +kernel
theorem dX10_isSmall_9 : decode cX10_isSmall 9 = .ok (.if_icmp .gt 7, 3) := by decide +kernel
theorem dX10_isSmall_12 : decode cX10_isSmall 12 = .ok (.iconst 1, 1) := by decide +kernel
theorem dX10_isSmall_13 : decode cX10_isSmall 13 = .ok (.goto 4, 3) := by decide +kernel
theorem dX10_isSmall_16 : decode cX10_isSmall 16 = .ok (.iconst 0, 1) := by decide +kernel
theorem dX10_isSmall_17 : decode cX10_isSmall 17 = .ok (.ireturn, 1) := by decide +kernel
theorem dX10_isDigit_0 : decode cX10_isDigit 0 = .ok (.iload_n 0, 1) := by decide +kernel
theorem dX10_isDigit_1 : decode cX10_isDigit 1 = .ok (.bipush 48, 2) := by decide +kernel
theorem dX10_isDigit_3 : decode cX10_isDigit 3 = .ok (.if_icmp .lt 13, 3) := by decide +kernel
theorem dX10_isDigit_6 : decode cX10_isDigit 6 = .ok (.iload_n 0, 1) := by decide +kernel
theorem dX10_isDigit_7 : decode cX10_isDigit 7 = .ok (.bipush 57, 2) := by decide +kernel
theorem dX10_isDigit_9 : decode cX10_isDigit 9 = .ok (.if_icmp .gt 7, 3) := by decide +kernel
theorem dX10_isDigit_12 : decode cX10_isDigit 12 = .ok (.iconst 1, 1) := by decide +kernel
theorem dX10_isDigit_13 : decode cX10_isDigit 13 = .ok (.goto 4, 3) := by decide +kernel
theorem dX10_isDigit_16 : decode cX10_isDigit 16 = .ok (.iconst 0, 1) := by decide +kernel
theorem dX10_isDigit_17 : decode cX10_isDigit 17 = .ok (.ireturn, 1) := by decide +kernel
theorem dX10_wordOf_0 : decode cX10_wordOf 0 = .ok (.iconst 1, 1) := by decide +kernel
theorem dX10_wordOf_1 : decode cX10_wordOf 1 = .ok (.istore_n 3, 1) := by decide +kernel
theorem dX10_wordOf_2 : decode cX10_wordOf 2 = .ok (.iconst 0, 1) := by decide +kernel
theorem dX10_wordOf_3 : decode cX10_wordOf 3 = .ok (.istore 4, 2) := by decide +kernel
theorem dX10_wordOf_5 : decode cX10_wordOf 5 = .ok (.iload 4, 2) := by decide +kernel
theorem dX10_wordOf_7 : decode cX10_wordOf 7 = .ok (.aload_n 0, 1) := by decide +kernel
theorem dX10_wordOf_8 : decode cX10_wordOf 8 = .ok (.getfield 41, 3) := by decide +kernel
theorem dX10_wordOf_11 : decode cX10_wordOf 11 = .ok (.arraylength, 1) := by decide +kernel
theorem dX10_wordOf_12 : decode cX10_wordOf 12 = .ok (.if_icmp .ge 114, 3) := by decide +kernel
theorem dX10_wordOf_15 : decode cX10_wordOf 15 = .ok (.iconst 0, 1) := by decide +kernel
theorem dX10_wordOf_16 : decode cX10_wordOf 16 = .ok (.istore 5, 2) := by decide +kernel
theorem dX10_wordOf_18 : decode cX10_wordOf 18 = .ok (.aload_n 0, 1) := by decide +kernel
theorem dX10_wordOf_19 : decode cX10_wordOf 19 = .ok (.getfield 41, 3) := by decide +kernel
theorem dX10_wordOf_22 : decode cX10_wordOf 22 = .ok (.iload 4, 2) := by decide +kernel
theorem dX10_wordOf_24 : decode cX10_wordOf 24 = .ok (.iload 5, 2) := by decide +kernel
theorem dX10_wordOf_26 : decode cX10_wordOf 26 = .ok (.iadd, 1) := by decide +kernel
theorem dX10_wordOf_27 : decode cX10_wordOf 27 = .ok (.baload, 1) := by decide +kernel
theorem dX10_wordOf_28 : decode cX10_wordOf 28 = .ok (.bipush 32, 2) := by decide +kernel
theorem dX10_wordOf_30 : decode cX10_wordOf 30 = .ok (.if_icmp .eq 9, 3) := by decide +kernel
theorem dX10_wordOf_33 : decode cX10_wordOf 33 = .ok (.iinc 5 1, 3) := by decide +kernel
theorem dX10_wordOf_36 : decode cX10_wordOf 36 = .ok (.goto (-18), 3) := by decide +kernel
theorem dX10_wordOf_39 : decode cX10_wordOf 39 = .ok (.iload 5, 2) := by decide +kernel
theorem dX10_wordOf_41 : decode cX10_wordOf 41 = .ok (.iload_n 2, 1) := by decide +kernel
theorem dX10_wordOf_42 : decode cX10_wordOf 42 = .ok (.iload_n 1, 1) := by decide +kernel
theorem dX10_wordOf_43 : decode cX10_wordOf 43 = .ok (.isub, 1) := by decide +kernel
theorem dX10_wordOf_44 : decode cX10_wordOf 44 = .ok (.if_icmp .ne 7, 3) := by decide +kernel
theorem dX10_wordOf_47 : decode cX10_wordOf 47 = .ok (.iconst 1, 1) := by decide +kernel
theorem dX10_wordOf_48 : decode cX10_wordOf 48 = .ok (.goto 4, 3) := by decide +kernel
theorem dX10_wordOf_51 : decode cX10_wordOf 51 = .ok (.iconst 0, 1) := by decide +kernel
theorem dX10_wordOf_52 : decode cX10_wordOf 52 = .ok (.istore 6, 2) := by decide +kernel
theorem dX10_wordOf_54 : decode cX10_wordOf 54 = .ok (.iconst 0, 1) := by decide +kernel
theorem dX10_wordOf_55 : decode cX10_wordOf 55 = .ok (.istore 7, 2) := by decide +kernel
theorem dX10_wordOf_57 : decode cX10_wordOf 57 = .ok (.iload 7, 2) := by decide +kernel
theorem dX10_wordOf_59 : decode cX10_wordOf 59 = .ok (.iload 5, 2) := by decide +kernel
theorem dX10_wordOf_61 : decode cX10_wordOf 61 = .ok (.if_icmp .ge 43, 3) := by decide +kernel
theorem dX10_wordOf_64 : decode cX10_wordOf 64 = .ok (.iload 6, 2) := by decide +kernel
theorem dX10_wordOf_66 : decode cX10_wordOf 66 = .ok (.ifCond .eq 38, 3) := by decide +kernel
theorem dX10_wordOf_69 : decode cX10_wordOf 69 = .ok (.aload_n 0, 1) := by decide +kernel
theorem dX10_wordOf_70 : decode cX10_wordOf 70 = .ok (.getfield 41, 3) := by decide +kernel
theorem dX10_wordOf_73 : decode cX10_wordOf 73 = .ok (.iload 4, 2) := by decide +kernel
theorem dX10_wordOf_75 : decode cX10_wordOf 75 = .ok (.iload 7, 2) := by decide +kernel
theorem dX10_wordOf_77 : decode cX10_wordOf 77 = .ok (.iadd, 1) := by decide +kernel
theorem dX10_wordOf_78 : decode cX10_wordOf 78 = .ok (.baload, 1) := by decide +kernel
theorem dX10_wordOf_79 : decode cX10_wordOf 79 = .ok (.aload_n 0, 1) := by decide +kernel
theorem dX10_wordOf_80 : decode cX10_wordOf 80 = .ok (.getfield 45, 3) := by decide +kernel
theorem dX10_wordOf_83 : decode cX10_wordOf 83 = .ok (.iload_n 1, 1) := by decide +kernel
theorem dX10_wordOf_84 : decode cX10_wordOf 84 = .ok (.iload 7, 2) := by decide +kernel
theorem dX10_wordOf_86 : decode cX10_wordOf 86 = .ok (.iadd, 1) := by decide +kernel
theorem dX10_wordOf_87 : decode cX10_wordOf 87 = .ok (.baload, 1) := by decide +kernel
theorem dX10_wordOf_88 : decode cX10_wordOf 88 = .ok (.if_icmp .ne 7, 3) := by decide +kernel
theorem dX10_wordOf_91 : decode cX10_wordOf 91 = .ok (.iconst 1, 1) := by decide +kernel
theorem dX10_wordOf_92 : decode cX10_wordOf 92 = .ok (.goto 4, 3) := by decide +kernel
theorem dX10_wordOf_95 : decode cX10_wordOf 95 = .ok (.iconst 0, 1) := by decide +kernel
theorem dX10_wordOf_96 : decode cX10_wordOf 96 = .ok (.istore 6, 2) := by decide +kernel
theorem dX10_wordOf_98 : decode cX10_wordOf 98 = .ok (.iinc 7 1, 3) := by decide +kernel
theorem dX10_wordOf_101 : decode cX10_wordOf 101 = .ok (.goto (-44), 3) := by decide +kernel
theorem dX10_wordOf_104 : decode cX10_wordOf 104 = .ok (.iload 6, 2) := by decide +kernel
theorem dX10_wordOf_106 : decode cX10_wordOf 106 = .ok (.ifCond .eq 5, 3) := by decide +kernel
theorem dX10_wordOf_109 : decode cX10_wordOf 109 = .ok (.iload_n 3, 1) := by decide +kernel
theorem dX10_wordOf_110 : decode cX10_wordOf 110 = .ok (.ireturn, 1) := by decide +kernel
theorem dX10_wordOf_111 : decode cX10_wordOf 111 = .ok (.iload 4, 2) := by decide +kernel
theorem dX10_wordOf_113 : decode cX10_wordOf 113 = .ok (.iload 5, 2) := by decide +kernel
theorem dX10_wordOf_115 : decode cX10_wordOf 115 = .ok (.iconst 1, 1) := by decide +kernel
theorem dX10_wordOf_116 : decode cX10_wordOf 116 = .ok (.iadd, 1) := by decide +kernel
theorem dX10_wordOf_117 : decode cX10_wordOf 117 = .ok (.iadd, 1) := by decide +kernel
theorem dX10_wordOf_118 : decode cX10_wordOf 118 = .ok (.istore 4, 2) := by decide +kernel
theorem dX10_wordOf_120 : decode cX10_wordOf 120 = .ok (.iinc 3 1, 3) := by decide +kernel
theorem dX10_wordOf_123 : decode cX10_wordOf 123 = .ok (.goto (-118), 3) := by decide +kernel
theorem dX10_wordOf_126 : decode cX10_wordOf 126 = .ok (.iconst 0, 1) := by decide +kernel
theorem dX10_wordOf_127 : decode cX10_wordOf 127 = .ok (.ireturn, 1) := by decide +kernel
theorem dX10_splits_0 : decode cX10_splits 0 = .ok (.aload_n 0, 1) := by decide +kernel
theorem dX10_splits_1 : decode cX10_splits 1 = .ok (.iconst 0, 1) := by decide +kernel
theorem dX10_splits_2 : decode cX10_splits 2 = .ok (.putfield 174, 3) := by decide +kernel
theorem dX10_splits_5 : decode cX10_splits 5 = .ok (.iconst 0, 1) := by decide +kernel
theorem dX10_splits_6 : decode cX10_splits 6 = .ok (.istore_n 2, 1) := by decide +kernel
theorem dX10_splits_7 : decode cX10_splits 7 = .ok (.iload_n 2, 1) := by decide +kernel
theorem dX10_splits_8 : decode cX10_splits 8 = .ok (.iload_n 1, 1) := by decide +kernel
theorem dX10_splits_9 : decode cX10_splits 9 = .ok (.if_icmp .ge 254, 3) := by decide +kernel
theorem dX10_splits_12 : decode cX10_splits 12 = .ok (.aload_n 0, 1) := by decide +kernel
theorem dX10_splits_13 : decode cX10_splits 13 = .ok (.getfield 45, 3) := by decide +kernel
theorem dX10_splits_16 : decode cX10_splits 16 = .ok (.iload_n 2, 1) := by decide +kernel
theorem dX10_splits_17 : decode cX10_splits 17 = .ok (.baload, 1) := by decide +kernel
theorem dX10_splits_18 : decode cX10_splits 18 = .ok (.istore_n 3, 1) := by decide +kernel
theorem dX10_splits_19 : decode cX10_splits 19 = .ok (.iload_n 3, 1) := by decide +kernel
theorem dX10_splits_20 : decode cX10_splits 20 = .ok (.bipush 32, 2) := by decide +kernel
theorem dX10_splits_22 : decode cX10_splits 22 = .ok (.if_icmp .ne 9, 3) := by decide +kernel
theorem dX10_splits_25 : decode cX10_splits 25 = .ok (.iinc 2 1, 3) := by decide +kernel
theorem dX10_splits_28 : decode cX10_splits 28 = .ok (.goto (-21), 3) := by decide +kernel
theorem dX10_splits_31 : decode cX10_splits 31 = .ok (.iload_n 2, 1) := by decide +kernel
theorem dX10_splits_32 : decode cX10_splits 32 = .ok (.iconst 1, 1) := by decide +kernel
theorem dX10_splits_33 : decode cX10_splits 33 = .ok (.iadd, 1) := by decide +kernel
theorem dX10_splits_34 : decode cX10_splits 34 = .ok (.istore 4, 2) := by decide +kernel
theorem dX10_splits_36 : decode cX10_splits 36 = .ok (.iload_n 3, 1) := by decide +kernel
theorem dX10_splits_37 : decode cX10_splits 37 = .ok (.invokestatic 177, 3) := by decide +kernel
theorem dX10_splits_40 : decode cX10_splits 40 = .ok (.ifCond .eq 28, 3) := by decide +kernel
theorem dX10_splits_43 : decode cX10_splits 43 = .ok (.iload 4, 2) := by decide +kernel
theorem dX10_splits_45 : decode cX10_splits 45 = .ok (.iload_n 1, 1) := by decide +kernel
theorem dX10_splits_46 : decode cX10_splits 46 = .ok (.if_icmp .ge 22, 3) := by decide +kernel
theorem dX10_splits_49 : decode cX10_splits 49 = .ok (.aload_n 0, 1) := by decide +kernel
theorem dX10_splits_50 : decode cX10_splits 50 = .ok (.getfield 45, 3) := by decide +kernel
theorem dX10_splits_53 : decode cX10_splits 53 = .ok (.iload 4, 2) := by decide +kernel
theorem dX10_splits_55 : decode cX10_splits 55 = .ok (.baload, 1) := by decide +kernel
theorem dX10_splits_56 : decode cX10_splits 56 = .ok (.invokestatic 177, 3) := by decide +kernel
theorem dX10_splits_59 : decode cX10_splits 59 = .ok (.ifCond .eq 9, 3) := by decide +kernel
theorem dX10_splits_62 : decode cX10_splits 62 = .ok (.iinc 4 1, 3) := by decide +kernel
theorem dX10_splits_65 : decode cX10_splits 65 = .ok (.goto (-22), 3) := by decide +kernel
theorem dX10_splits_68 : decode cX10_splits 68 = .ok (.iload_n 3, 1) := by decide +kernel
theorem dX10_splits_69 : decode cX10_splits 69 = .ok (.invokestatic 180, 3) := by decide +kernel
theorem dX10_splits_72 : decode cX10_splits 72 = .ok (.ifCond .eq 28, 3) := by decide +kernel
theorem dX10_splits_75 : decode cX10_splits 75 = .ok (.iload 4, 2) := by decide +kernel
theorem dX10_splits_77 : decode cX10_splits 77 = .ok (.iload_n 1, 1) := by decide +kernel
theorem dX10_splits_78 : decode cX10_splits 78 = .ok (.if_icmp .ge 22, 3) := by decide +kernel
theorem dX10_splits_81 : decode cX10_splits 81 = .ok (.aload_n 0, 1) := by decide +kernel
theorem dX10_splits_82 : decode cX10_splits 82 = .ok (.getfield 45, 3) := by decide +kernel
theorem dX10_splits_85 : decode cX10_splits 85 = .ok (.iload 4, 2) := by decide +kernel
theorem dX10_splits_87 : decode cX10_splits 87 = .ok (.baload, 1) := by decide +kernel
theorem dX10_splits_88 : decode cX10_splits 88 = .ok (.invokestatic 180, 3) := by decide +kernel
theorem dX10_splits_91 : decode cX10_splits 91 = .ok (.ifCond .eq 9, 3) := by decide +kernel
theorem dX10_splits_94 : decode cX10_splits 94 = .ok (.iinc 4 1, 3) := by decide +kernel
theorem dX10_splits_97 : decode cX10_splits 97 = .ok (.goto (-22), 3) := by decide +kernel
theorem dX10_splits_100 : decode cX10_splits 100 = .ok (.aload_n 0, 1) := by decide +kernel
theorem dX10_splits_101 : decode cX10_splits 101 = .ok (.getfield 60, 3) := by decide +kernel
theorem dX10_splits_104 : decode cX10_splits 104 = .ok (.aload_n 0, 1) := by decide +kernel
theorem dX10_splits_105 : decode cX10_splits 105 = .ok (.getfield 174, 3) := by decide +kernel
theorem dX10_splits_108 : decode cX10_splits 108 = .ok (.iload_n 2, 1) := by decide +kernel
theorem dX10_splits_109 : decode cX10_splits 109 = .ok (.iastore, 1) := by decide +kernel
theorem dX10_splits_110 : decode cX10_splits 110 = .ok (.aload_n 0, 1) := by decide +kernel
theorem dX10_splits_111 : decode cX10_splits 111 = .ok (.getfield 57, 3) := by decide +kernel
theorem dX10_splits_114 : decode cX10_splits 114 = .ok (.aload_n 0, 1) := by decide +kernel
theorem dX10_splits_115 : decode cX10_splits 115 = .ok (.getfield 174, 3) := by decide +kernel
theorem dX10_splits_118 : decode cX10_splits 118 = .ok (.iconst 0, 1) := by decide +kernel
theorem dX10_splits_119 : decode cX10_splits 119 = .ok (.iastore, 1) := by decide +kernel
theorem dX10_splits_120 : decode cX10_splits 120 = .ok (.aload_n 0, 1) := by decide +kernel
theorem dX10_splits_121 : decode cX10_splits 121 = .ok (.getfield 54, 3) := by decide +kernel
theorem dX10_splits_124 : decode cX10_splits 124 = .ok (.aload_n 0, 1) := by decide +kernel
theorem dX10_splits_125 : decode cX10_splits 125 = .ok (.getfield 174, 3) := by decide +kernel
theorem dX10_splits_128 : decode cX10_splits 128 = .ok (.iload_n 3, 1) := by decide +kernel
theorem dX10_splits_129 : decode cX10_splits 129 = .ok (.invokestatic 177, 3) := by decide +kernel
theorem dX10_splits_132 : decode cX10_splits 132 = .ok (.ifCond .eq 13, 3) := by decide +kernel
theorem dX10_splits_135 : decode cX10_splits 135 = .ok (.aload_n 0, 1) := by decide +kernel
theorem dX10_splits_136 : decode cX10_splits 136 = .ok (.iload_n 2, 1) := by decide +kernel
theorem dX10_splits_137 : decode cX10_splits 137 = .ok (.iload 4, 2) := by decide +kernel
theorem dX10_splits_139 : decode cX10_splits 139 = .ok (.invokevirtual 183, 3) := by decide +kernel
theorem dX10_splits_142 : decode cX10_splits 142 = .ok (.goto 23, 3) := by decide +kernel
theorem dX10_splits_145 : decode cX10_splits 145 = .ok (.iload_n 3, 1) := by decide +kernel
theorem dX10_splits_146 : decode cX10_splits 146 = .ok (.invokestatic 180, 3) := by decide +kernel
theorem dX10_splits_149 : decode cX10_splits 149 = .ok (.ifCond .eq 8, 3) := by decide +kernel
theorem dX10_splits_152 : decode cX10_splits 152 = .ok (.bipush 50, 2) := by decide +kernel
theorem dX10_splits_154 : decode cX10_splits 154 = .ok (.goto 11, 3) := by decide +kernel
theorem dX10_splits_157 : decode cX10_splits 157 = .ok (.bipush 100, 2) := by decide +kernel
theorem dX10_splits_159 : decode cX10_splits 159 = .ok (.iload_n 3, 1) := by decide +kernel
theorem dX10_splits_160 : decode cX10_splits 160 = .ok (.sipush 255, 3) := by decide +kernel
theorem dX10_splits_163 : decode cX10_splits 163 = .ok (.iand, 1) := by decide +kernel
theorem dX10_splits_164 : decode cX10_splits 164 = .ok (.iadd, 1) := by decide +kernel
theorem dX10_splits_165 : decode cX10_splits 165 = .ok (.iastore, 1) := by decide +kernel
theorem dX10_splits_166 : decode cX10_splits 166 = .ok (.iload_n 2, 1) := by decide +kernel
theorem dX10_splits_167 : decode cX10_splits 167 = .ok (.istore 5, 2) := by decide +kernel
theorem dX10_splits_169 : decode cX10_splits 169 = .ok (.iload 5, 2) := by decide +kernel
theorem dX10_splits_171 : decode cX10_splits 171 = .ok (.iload 4, 2) := by decide +kernel
theorem dX10_splits_173 : decode cX10_splits 173 = .ok (.if_icmp .ge 74, 3) := by decide +kernel
theorem dX10_splits_176 : decode cX10_splits 176 = .ok (.iload_n 3, 1) := by decide +kernel
theorem dX10_splits_177 : decode cX10_splits 177 = .ok (.invokestatic 180, 3) := by decide +kernel
theorem dX10_splits_180 : decode cX10_splits 180 = .ok (.ifCond .eq 67, 3) := by decide +kernel
theorem dX10_splits_183 : decode cX10_splits 183 = .ok (.aload_n 0, 1) := by decide +kernel
theorem dX10_splits_184 : decode cX10_splits 184 = .ok (.getfield 57, 3) := by decide +kernel
theorem dX10_splits_187 : decode cX10_splits 187 = .ok (.aload_n 0, 1) := by decide +kernel
theorem dX10_splits_188 : decode cX10_splits 188 = .ok (.getfield 174, 3) := by decide +kernel
theorem dX10_splits_191 : decode cX10_splits 191 = .ok (.aload_n 0, 1) := by decide +kernel
theorem dX10_splits_192 : decode cX10_splits 192 = .ok (.getfield 57, 3) := by decide +kernel
theorem dX10_splits_195 : decode cX10_splits 195 = .ok (.aload_n 0, 1) := by decide +kernel
theorem dX10_splits_196 : decode cX10_splits 196 = .ok (.getfield 174, 3) := by decide +kernel
theorem dX10_splits_199 : decode cX10_splits 199 = .ok (.iaload, 1) := by decide +kernel
theorem dX10_splits_200 : decode cX10_splits 200 = .ok (.ldc 186, 2) := by decide +kernel
theorem dX10_splits_202 : decode cX10_splits 202 = .ok (.if_icmp .le 15, 3) := by decide +kernel
theorem dX10_splits_205 : decode cX10_splits 205 = .ok (.aload_n 0, 1) := by decide +kernel
theorem dX10_splits_206 : decode cX10_splits 206 = .ok (.getfield 57, 3) := by decide +kernel
theorem dX10_splits_209 : decode cX10_splits 209 = .ok (.aload_n 0, 1) := by decide +kernel
theorem dX10_splits_210 : decode cX10_splits 210 = .ok (.getfield 174, 3) := by decide +kernel
theorem dX10_splits_213 : decode cX10_splits 213 = .ok (.iaload, 1) := by decide +kernel
theorem dX10_splits_214 : decode cX10_splits 214 = .ok (.goto 26, 3) := by decide +kernel
theorem dX10_splits_217 : decode cX10_splits 217 = .ok (.bipush 10, 2) := by decide +kernel
theorem dX10_splits_219 : decode cX10_splits 219 = .ok (.aload_n 0, 1) := by decide +kernel
theorem dX10_splits_220 : decode cX10_splits 220 = .ok (.getfield 57, 3) := by decide +kernel
theorem dX10_splits_223 : decode cX10_splits 223 = .ok (.aload_n 0, 1) := by decide +kernel
theorem dX10_splits_224 : decode cX10_splits 224 = .ok (.getfield 174, 3) := by decide +kernel
theorem dX10_splits_227 : decode cX10_splits 227 = .ok (.iaload, 1) := by decide +kernel
theorem dX10_splits_228 : decode cX10_splits 228 = .ok (.imul, 1) := by decide +kernel
theorem dX10_splits_229 : decode cX10_splits 229 = .ok (.aload_n 0, 1) := by decide +kernel
theorem dX10_splits_230 : decode cX10_splits 230 = .ok (.getfield 45, 3) := by decide +kernel
theorem dX10_splits_233 : decode cX10_splits 233 = .ok (.iload 5, 2) := by decide +kernel
theorem dX10_splits_235 : decode cX10_splits 235 = .ok (.baload, 1) := by decide +kernel
theorem dX10_splits_236 : decode cX10_splits 236 = .ok (.iadd, 1) := by decide +kernel
theorem dX10_splits_237 : decode cX10_splits 237 = .ok (.bipush 48, 2) := by decide +kernel
theorem dX10_splits_239 : decode cX10_splits 239 = .ok (.isub, 1) := by decide +kernel
theorem dX10_splits_240 : decode cX10_splits 240 = .ok (.iastore, 1) := by decide +kernel
theorem dX10_splits_241 : decode cX10_splits 241 = .ok (.iinc 5 1, 3) := by decide +kernel
theorem dX10_splits_244 : decode cX10_splits 244 = .ok (.goto (-75), 3) := by decide +kernel
theorem dX10_splits_247 : decode cX10_splits 247 = .ok (.aload_n 0, 1) := by decide +kernel
theorem dX10_splits_248 : decode cX10_splits 248 = .ok (.dup, 1) := by decide +kernel
theorem dX10_splits_249 : decode cX10_splits 249 = .ok (.getfield 174, 3) := by decide +kernel
theorem dX10_splits_252 : decode cX10_splits 252 = .ok (.iconst 1, 1) := by decide +kernel
theorem dX10_splits_253 : decode cX10_splits 253 = .ok (.iadd, 1) := by decide +kernel
theorem dX10_splits_254 : decode cX10_splits 254 = .ok (.putfield 174, 3) := by decide +kernel
theorem dX10_splits_257 : decode cX10_splits 257 = .ok (.iload 4, 2) := by decide +kernel
theorem dX10_splits_259 : decode cX10_splits 259 = .ok (.istore_n 2, 1) := by decide +kernel
theorem dX10_splits_260 : decode cX10_splits 260 = .ok (.goto (-253), 3) := by decide +kernel
theorem dX10_splits_263 : decode cX10_splits 263 = .ok (.aload_n 0, 1) := by decide +kernel
theorem dX10_splits_264 : decode cX10_splits 264 = .ok (.getfield 60, 3) := by decide +kernel
theorem dX10_splits_267 : decode cX10_splits 267 = .ok (.aload_n 0, 1) := by decide +kernel
theorem dX10_splits_268 : decode cX10_splits 268 = .ok (.getfield 174, 3) := by decide +kernel
theorem dX10_splits_271 : decode cX10_splits 271 = .ok (.iload_n 1, 1) := by decide +kernel
theorem dX10_splits_272 : decode cX10_splits 272 = .ok (.iastore, 1) := by decide +kernel
theorem dX10_splits_273 : decode cX10_splits 273 = .ok (.aload_n 0, 1) := by decide +kernel
theorem dX10_splits_274 : decode cX10_splits 274 = .ok (.getfield 54, 3) := by decide +kernel
theorem dX10_splits_277 : decode cX10_splits 277 = .ok (.aload_n 0, 1) := by decide +kernel
theorem dX10_splits_278 : decode cX10_splits 278 = .ok (.getfield 174, 3) := by decide +kernel
theorem dX10_splits_281 : decode cX10_splits 281 = .ok (.iconst 0, 1) := by decide +kernel
theorem dX10_splits_282 : decode cX10_splits 282 = .ok (.iastore, 1) := by decide +kernel
theorem dX10_splits_283 : decode cX10_splits 283 = .ok (.aload_n 0, 1) := by decide +kernel
theorem dX10_splits_284 : decode cX10_splits 284 = .ok (.getfield 57, 3) := by decide +kernel
theorem dX10_splits_287 : decode cX10_splits 287 = .ok (.aload_n 0, 1) := by decide +kernel
theorem dX10_splits_288 : decode cX10_splits 288 = .ok (.getfield 174, 3) := by decide +kernel
theorem dX10_splits_291 : decode cX10_splits 291 = .ok (.iconst 0, 1) := by decide +kernel
theorem dX10_splits_292 : decode cX10_splits 292 = .ok (.iastore, 1) := by decide +kernel
theorem dX10_splits_293 : decode cX10_splits 293 = .ok (.return_, 1) := by decide +kernel
theorem dX10_fine_0 : decode cX10_fine 0 = .ok (.aload_n 0, 1) := by decide +kernel
theorem dX10_fine_1 : decode cX10_fine 1 = .ok (.getfield 187, 3) := by decide +kernel
theorem dX10_fine_4 : decode cX10_fine 4 = .ok (.iconst (-1), 1) := by decide +kernel
theorem dX10_fine_5 : decode cX10_fine 5 = .ok (.if_icmp .ne 7, 3) := by decide +kernel
theorem dX10_fine_8 : decode cX10_fine 8 = .ok (.iconst 1, 1) := by decide +kernel
theorem dX10_fine_9 : decode cX10_fine 9 = .ok (.goto 4, 3) := by decide +kernel
theorem dX10_fine_12 : decode cX10_fine 12 = .ok (.iconst 0, 1) := by decide +kernel
theorem dX10_fine_13 : decode cX10_fine 13 = .ok (.ireturn, 1) := by decide +kernel
theorem dX10_faults_0 : decode cX10_faults 0 = .ok (.aload_n 0, 1) := by decide +kernel
theorem dX10_faults_1 : decode cX10_faults 1 = .ok (.invokevirtual 190, 3) := by decide +kernel
theorem dX10_faults_4 : decode cX10_faults 4 = .ok (.ifCond .eq 16, 3) := by decide +kernel
theorem dX10_faults_7 : decode cX10_faults 7 = .ok (.aload_n 0, 1) := by decide +kernel
theorem dX10_faults_8 : decode cX10_faults 8 = .ok (.aload_n 0, 1) := by decide +kernel
theorem dX10_faults_9 : decode cX10_faults 9 = .ok (.getfield 60, 3) := by decide +kernel
theorem dX10_faults_12 : decode cX10_faults 12 = .ok (.aload_n 0, 1) := by decide +kernel
theorem dX10_faults_13 : decode cX10_faults 13 = .ok (.getfield 194, 3) := by decide +kernel
theorem dX10_faults_16 : decode cX10_faults 16 = .ok (.iaload, 1) := by decide +kernel
theorem dX10_faults_17 : decode cX10_faults 17 = .ok (.putfield 187, 3) := by decide +kernel
theorem dX10_faults_20 : decode cX10_faults 20 = .ok (.return_, 1) := by decide +kernel
theorem dX10_takes0_0 : decode cX10_takes0 0 = .ok (.aload_n 0, 1) := by decide +kernel
theorem dX10_takes0_1 : decode cX10_takes0 1 = .ok (.invokevirtual 190, 3) := by decide +kernel
theorem dX10_takes0_4 : decode cX10_takes0 4 = .ok (.ifCond .eq 20, 3) := by decide +kernel
theorem dX10_takes0_7 : decode cX10_takes0 7 = .ok (.aload_n 0, 1) := by decide +kernel
theorem dX10_takes0_8 : decode cX10_takes0 8 = .ok (.getfield 54, 3) := by decide +kernel
theorem dX10_takes0_11 : decode cX10_takes0 11 = .ok (.aload_n 0, 1) := by decide +kernel
theorem dX10_takes0_12 : decode cX10_takes0 12 = .ok (.getfield 194, 3) := by decide +kernel
theorem dX10_takes0_15 : decode cX10_takes0 15 = .ok (.iaload, 1) := by decide +kernel
theorem dX10_takes0_16 : decode cX10_takes0 16 = .ok (.iload_n 1, 1) := by decide +kernel
theorem dX10_takes0_17 : decode cX10_takes0 17 = .ok (.if_icmp .ne 7, 3) := by decide +kernel
theorem dX10_takes0_20 : decode cX10_takes0 20 = .ok (.iconst 1, 1) := by decide +kernel
theorem dX10_takes0_21 : decode cX10_takes0 21 = .ok (.goto 4, 3) := by decide +kernel
theorem dX10_takes0_24 : decode cX10_takes0 24 = .ok (.iconst 0, 1) := by decide +kernel
theorem dX10_takes0_25 : decode cX10_takes0 25 = .ok (.istore_n 2, 1) := by decide +kernel
theorem dX10_takes0_26 : decode cX10_takes0 26 = .ok (.iload_n 2, 1) := by decide +kernel
theorem dX10_takes0_27 : decode cX10_takes0 27 = .ok (.ifCond .eq 13, 3) := by decide +kernel
theorem dX10_takes0_30 : decode cX10_takes0 30 = .ok (.aload_n 0, 1) := by decide +kernel
theorem dX10_takes0_31 : decode cX10_takes0 31 = .ok (.dup, 1) := by decide +kernel
theorem dX10_takes0_32 : decode cX10_takes0 32 = .ok (.getfield 194, 3) := by decide +kernel
theorem dX10_takes0_35 : decode cX10_takes0 35 = .ok (.iconst 1, 1) := by decide +kernel
theorem dX10_takes0_36 : decode cX10_takes0 36 = .ok (.iadd, 1) := by decide +kernel
theorem dX10_takes0_37 : decode cX10_takes0 37 = .ok (.putfield 194, 3) := by decide +kernel
theorem dX10_takes0_40 : decode cX10_takes0 40 = .ok (.iload_n 2, 1) := by decide +kernel
theorem dX10_takes0_41 : decode cX10_takes0 41 = .ok (.ireturn, 1) := by decide +kernel
theorem dX10_must_0 : decode cX10_must 0 = .ok (.aload_n 0, 1) := by decide +kernel
theorem dX10_must_1 : decode cX10_must 1 = .ok (.iload_n 1, 1) := by decide +kernel
theorem dX10_must_2 : decode cX10_must 2 = .ok (.invokevirtual 197, 3) := by decide +kernel
theorem dX10_must_5 : decode cX10_must 5 = .ok (.ifCond .ne 7, 3) := by decide +kernel
theorem dX10_must_8 : decode cX10_must 8 = .ok (.aload_n 0, 1) := by decide +kernel
theorem dX10_must_9 : decode cX10_must 9 = .ok (.invokevirtual 200, 3) := by decide +kernel
theorem dX10_must_12 : decode cX10_must 12 = .ok (.return_, 1) := by decide +kernel
theorem dX10_leaf_0 : decode cX10_leaf 0 = .ok (.aload_n 0, 1) := by decide +kernel
theorem dX10_leaf_1 : decode cX10_leaf 1 = .ok (.getfield 203, 3) := by decide +kernel
theorem dX10_leaf_4 : decode cX10_leaf 4 = .ok (.bipush 50, 2) := by decide +kernel
theorem dX10_leaf_6 : decode cX10_leaf 6 = .ok (.if_icmp .ne 7, 3) := by decide +kernel
theorem dX10_leaf_9 : decode cX10_leaf 9 = .ok (.aload_n 0, 1) := by decide +kernel
theorem dX10_leaf_10 : decode cX10_leaf 10 = .ok (.invokevirtual 200, 3) := by decide +kernel
theorem dX10_leaf_13 : decode cX10_leaf 13 = .ok (.aload_n 0, 1) := by decide +kernel
theorem dX10_leaf_14 : decode cX10_leaf 14 = .ok (.dup, 1) := by decide +kernel
theorem dX10_leaf_15 : decode cX10_leaf 15 = .ok (.getfield 203, 3) := by decide +kernel
theorem dX10_leaf_18 : decode cX10_leaf 18 = .ok (.iconst 1, 1) := by decide +kernel
theorem dX10_leaf_19 : decode cX10_leaf 19 = .ok (.iadd, 1) := by decide +kernel
theorem dX10_leaf_20 : decode cX10_leaf 20 = .ok (.putfield 203, 3) := by decide +kernel
theorem dX10_leaf_23 : decode cX10_leaf 23 = .ok (.aload_n 0, 1) := by decide +kernel
theorem dX10_leaf_24 : decode cX10_leaf 24 = .ok (.invokevirtual 190, 3) := by decide +kernel
theorem dX10_leaf_27 : decode cX10_leaf 27 = .ok (.ifCond .eq 13, 3) := by decide +kernel
theorem dX10_leaf_30 : decode cX10_leaf 30 = .ok (.aload_n 0, 1) := by decide +kernel
theorem dX10_leaf_31 : decode cX10_leaf 31 = .ok (.dup, 1) := by decide +kernel
theorem dX10_leaf_32 : decode cX10_leaf 32 = .ok (.getfield 194, 3) := by decide +kernel
theorem dX10_leaf_35 : decode cX10_leaf 35 = .ok (.iconst 1, 1) := by decide +kernel
theorem dX10_leaf_36 : decode cX10_leaf 36 = .ok (.iadd, 1) := by decide +kernel
theorem dX10_leaf_37 : decode cX10_leaf 37 = .ok (.putfield 194, 3) := by decide +kernel
theorem dX10_leaf_40 : decode cX10_leaf 40 = .ok (.return_, 1) := by decide +kernel
theorem dX10_sign_0 : decode cX10_sign 0 = .ok (.bipush 100, 2) := by decide +kernel
theorem dX10_sign_2 : decode cX10_sign 2 = .ok (.iload_n 0, 1) := by decide +kernel
theorem dX10_sign_3 : decode cX10_sign 3 = .ok (.iadd, 1) := by decide +kernel
theorem dX10_sign_4 : decode cX10_sign 4 = .ok (.ireturn, 1) := by decide +kernel
theorem dX10_mustNumber_0 : decode cX10_mustNumber 0 = .ok (.aload_n 0, 1) := by decide +kernel
theorem dX10_mustNumber_1 : decode cX10_mustNumber 1 = .ok (.invokevirtual 190, 3) := by decide +kernel
theorem dX10_mustNumber_4 : decode cX10_mustNumber 4 = .ok (.ifCond .eq 38, 3) := by decide +kernel
theorem dX10_mustNumber_7 : decode cX10_mustNumber 7 = .ok (.aload_n 0, 1) := by decide +kernel
theorem dX10_mustNumber_8 : decode cX10_mustNumber 8 = .ok (.getfield 54, 3) := by decide +kernel
theorem dX10_mustNumber_11 : decode cX10_mustNumber 11 = .ok (.aload_n 0, 1) := by decide +kernel
theorem dX10_mustNumber_12 : decode cX10_mustNumber 12 = .ok (.getfield 194, 3) := by decide +kernel
theorem dX10_mustNumber_15 : decode cX10_mustNumber 15 = .ok (.iaload, 1) := by decide +kernel
theorem dX10_mustNumber_16 : decode cX10_mustNumber 16 = .ok (.bipush 50, 2) := by decide +kernel
theorem dX10_mustNumber_18 : decode cX10_mustNumber 18 = .ok (.if_icmp .ne 20, 3) := by decide +kernel
theorem dX10_mustNumber_21 : decode cX10_mustNumber 21 = .ok (.aload_n 0, 1) := by decide +kernel
theorem dX10_mustNumber_22 : decode cX10_mustNumber 22 = .ok (.getfield 57, 3) := by decide +kernel
theorem dX10_mustNumber_25 : decode cX10_mustNumber 25 = .ok (.aload_n 0, 1) := by decide +kernel
theorem dX10_mustNumber_26 : decode cX10_mustNumber 26 = .ok (.getfield 194, 3) := by decide +kernel
theorem dX10_mustNumber_29 : decode cX10_mustNumber 29 = .ok (.iaload, 1) := by decide +kernel
theorem dX10_mustNumber_30 : decode cX10_mustNumber 30 = .ok (.iload_n 1, 1) := by decide +kernel
theorem dX10_mustNumber_31 : decode cX10_mustNumber 31 = .ok (.iload_n 2, 1) := by decide +kernel
theorem dX10_mustNumber_32 : decode cX10_mustNumber 32 = .ok (.invokestatic 18, 3) := by decide +kernel
theorem dX10_mustNumber_35 : decode cX10_mustNumber 35 = .ok (.ifCond .ne 7, 3) := by decide +kernel
theorem dX10_mustNumber_38 : decode cX10_mustNumber 38 = .ok (.aload_n 0, 1) := by decide +kernel
theorem dX10_mustNumber_39 : decode cX10_mustNumber 39 = .ok (.invokevirtual 200, 3) := by decide +kernel
theorem dX10_mustNumber_42 : decode cX10_mustNumber 42 = .ok (.aload_n 0, 1) := by decide +kernel
theorem dX10_mustNumber_43 : decode cX10_mustNumber 43 = .ok (.invokevirtual 190, 3) := by decide +kernel
theorem dX10_mustNumber_46 : decode cX10_mustNumber 46 = .ok (.ifCond .eq 13, 3) := by decide +kernel
theorem dX10_mustNumber_49 : decode cX10_mustNumber 49 = .ok (.aload_n 0, 1) := by decide +kernel
theorem dX10_mustNumber_50 : decode cX10_mustNumber 50 = .ok (.dup, 1) := by decide +kernel
theorem dX10_mustNumber_51 : decode cX10_mustNumber 51 = .ok (.getfield 194, 3) := by decide +kernel
theorem dX10_mustNumber_54 : decode cX10_mustNumber 54 = .ok (.iconst 1, 1) := by decide +kernel
theorem dX10_mustNumber_55 : decode cX10_mustNumber 55 = .ok (.iadd, 1) := by decide +kernel
theorem dX10_mustNumber_56 : decode cX10_mustNumber 56 = .ok (.putfield 194, 3) := by decide +kernel
theorem dX10_mustNumber_59 : decode cX10_mustNumber 59 = .ok (.return_, 1) := by decide +kernel
theorem dX10_readClause_0 : decode cX10_readClause 0 = .ok (.aload_n 0, 1) := by decide +kernel
theorem dX10_readClause_1 : decode cX10_readClause 1 = .ok (.iconst 1, 1) := by decide +kernel
theorem dX10_readClause_2 : decode cX10_readClause 2 = .ok (.invokevirtual 197, 3) := by decide +kernel
theorem dX10_readClause_5 : decode cX10_readClause 5 = .ok (.ifCond .ne 11, 3) := by decide +kernel
theorem dX10_readClause_8 : decode cX10_readClause 8 = .ok (.aload_n 0, 1) := by decide +kernel
theorem dX10_readClause_9 : decode cX10_readClause 9 = .ok (.iconst 2, 1) := by decide +kernel
theorem dX10_readClause_10 : decode cX10_readClause 10 = .ok (.invokevirtual 197, 3) := by decide +kernel
theorem dX10_readClause_13 : decode cX10_readClause 13 = .ok (.ifCond .eq 11, 3) := by decide +kernel
theorem dX10_readClause_16 : decode cX10_readClause 16 = .ok (.aload_n 0, 1) := by decide +kernel
theorem dX10_readClause_17 : decode cX10_readClause 17 = .ok (.iconst 0, 1) := by decide +kernel
theorem dX10_readClause_18 : decode cX10_readClause 18 = .ok (.invokevirtual 206, 3) := by decide +kernel
theorem dX10_readClause_21 : decode cX10_readClause 21 = .ok (.goto 8, 3) := by decide +kernel
theorem dX10_readClause_24 : decode cX10_readClause 24 = .ok (.aload_n 0, 1) := by decide +kernel
theorem dX10_readClause_25 : decode cX10_readClause 25 = .ok (.iconst 3, 1) := by decide +kernel
theorem dX10_readClause_26 : decode cX10_readClause 26 = .ok (.invokevirtual 210, 3) := by decide +kernel
theorem dX10_readClause_29 : decode cX10_readClause 29 = .ok (.aload_n 0, 1) := by decide +kernel
theorem dX10_readClause_30 : decode cX10_readClause 30 = .ok (.iconst 4, 1) := by decide +kernel
theorem dX10_readClause_31 : decode cX10_readClause 31 = .ok (.invokevirtual 197, 3) := by decide +kernel
theorem dX10_readClause_34 : decode cX10_readClause 34 = .ok (.ifCond .eq 8, 3) := by decide +kernel
theorem dX10_readClause_37 : decode cX10_readClause 37 = .ok (.aload_n 0, 1) := by decide +kernel
theorem dX10_readClause_38 : decode cX10_readClause 38 = .ok (.iconst 0, 1) := by decide +kernel
theorem dX10_readClause_39 : decode cX10_readClause 39 = .ok (.invokevirtual 213, 3) := by decide +kernel
theorem dX10_readClause_42 : decode cX10_readClause 42 = .ok (.return_, 1) := by decide +kernel
theorem dX10_readOrder_0 : decode cX10_readOrder 0 = .ok (.aload_n 0, 1) := by decide +kernel
theorem dX10_readOrder_1 : decode cX10_readOrder 1 = .ok (.bipush 22, 2) := by decide +kernel
theorem dX10_readOrder_3 : decode cX10_readOrder 3 = .ok (.invokevirtual 197, 3) := by decide +kernel
theorem dX10_readOrder_6 : decode cX10_readOrder 6 = .ok (.ifCond .eq 22, 3) := by decide +kernel
theorem dX10_readOrder_9 : decode cX10_readOrder 9 = .ok (.aload_n 0, 1) := by decide +kernel
theorem dX10_readOrder_10 : decode cX10_readOrder 10 = .ok (.iconst 0, 1) := by decide +kernel
theorem dX10_readOrder_11 : decode cX10_readOrder 11 = .ok (.invokevirtual 206, 3) := by decide +kernel
theorem dX10_readOrder_14 : decode cX10_readOrder 14 = .ok (.aload_n 0, 1) := by decide +kernel
theorem dX10_readOrder_15 : decode cX10_readOrder 15 = .ok (.bipush 23, 2) := by decide +kernel
theorem dX10_readOrder_17 : decode cX10_readOrder 17 = .ok (.invokevirtual 210, 3) := by decide +kernel
theorem dX10_readOrder_20 : decode cX10_readOrder 20 = .ok (.aload_n 0, 1) := by decide +kernel
theorem dX10_readOrder_21 : decode cX10_readOrder 21 = .ok (.iconst 0, 1) := by decide +kernel
theorem dX10_readOrder_22 : decode cX10_readOrder 22 = .ok (.invokevirtual 206, 3) := by decide +kernel
theorem dX10_readOrder_25 : decode cX10_readOrder 25 = .ok (.goto 35, 3) := by decide +kernel
theorem dX10_readOrder_28 : decode cX10_readOrder 28 = .ok (.aload_n 0, 1) := by decide +kernel
theorem dX10_readOrder_29 : decode cX10_readOrder 29 = .ok (.bipush 20, 2) := by decide +kernel
theorem dX10_readOrder_31 : decode cX10_readOrder 31 = .ok (.invokevirtual 197, 3) := by decide +kernel
theorem dX10_readOrder_34 : decode cX10_readOrder 34 = .ok (.ifCond .ne 12, 3) := by decide +kernel
theorem dX10_readOrder_37 : decode cX10_readOrder 37 = .ok (.aload_n 0, 1) := by decide +kernel
theorem dX10_readOrder_38 : decode cX10_readOrder 38 = .ok (.bipush 21, 2) := by decide +kernel
theorem dX10_readOrder_40 : decode cX10_readOrder 40 = .ok (.invokevirtual 197, 3) := by decide +kernel
theorem dX10_readOrder_43 : decode cX10_readOrder 43 = .ok (.ifCond .eq 11, 3) := by decide +kernel
theorem dX10_readOrder_46 : decode cX10_readOrder 46 = .ok (.aload_n 0, 1) := by decide +kernel
theorem dX10_readOrder_47 : decode cX10_readOrder 47 = .ok (.iconst 0, 1) := by decide +kernel
theorem dX10_readOrder_48 : decode cX10_readOrder 48 = .ok (.invokevirtual 206, 3) := by decide +kernel
theorem dX10_readOrder_51 : decode cX10_readOrder 51 = .ok (.goto 9, 3) := by decide +kernel
theorem dX10_readOrder_54 : decode cX10_readOrder 54 = .ok (.aload_n 0, 1) := by decide +kernel
theorem dX10_readOrder_55 : decode cX10_readOrder 55 = .ok (.bipush 24, 2) := by decide +kernel
theorem dX10_readOrder_57 : decode cX10_readOrder 57 = .ok (.invokevirtual 210, 3) := by decide +kernel
theorem dX10_readOrder_60 : decode cX10_readOrder 60 = .ok (.aload_n 0, 1) := by decide +kernel
theorem dX10_readOrder_61 : decode cX10_readOrder 61 = .ok (.bipush 25, 2) := by decide +kernel
theorem dX10_readOrder_63 : decode cX10_readOrder 63 = .ok (.invokevirtual 197, 3) := by decide +kernel
theorem dX10_readOrder_66 : decode cX10_readOrder 66 = .ok (.ifCond .eq 10, 3) := by decide +kernel
theorem dX10_readOrder_69 : decode cX10_readOrder 69 = .ok (.aload_n 0, 1) := by decide +kernel
theorem dX10_readOrder_70 : decode cX10_readOrder 70 = .ok (.iconst 1, 1) := by decide +kernel
theorem dX10_readOrder_71 : decode cX10_readOrder 71 = .ok (.bipush 20, 2) := by decide +kernel
theorem dX10_readOrder_73 : decode cX10_readOrder 73 = .ok (.invokevirtual 216, 3) := by decide +kernel
theorem dX10_readOrder_76 : decode cX10_readOrder 76 = .ok (.aload_n 0, 1) := by decide +kernel
theorem dX10_readOrder_77 : decode cX10_readOrder 77 = .ok (.iconst 4, 1) := by decide +kernel
theorem dX10_readOrder_78 : decode cX10_readOrder 78 = .ok (.invokevirtual 197, 3) := by decide +kernel
theorem dX10_readOrder_81 : decode cX10_readOrder 81 = .ok (.ifCond .eq 8, 3) := by decide +kernel
theorem dX10_readOrder_84 : decode cX10_readOrder 84 = .ok (.aload_n 0, 1) := by decide +kernel
theorem dX10_readOrder_85 : decode cX10_readOrder 85 = .ok (.iconst 0, 1) := by decide +kernel
theorem dX10_readOrder_86 : decode cX10_readOrder 86 = .ok (.invokevirtual 213, 3) := by decide +kernel
theorem dX10_readOrder_89 : decode cX10_readOrder 89 = .ok (.return_, 1) := by decide +kernel
theorem dX10_readOne_0 : decode cX10_readOne 0 = .ok (.aload_n 0, 1) := by decide +kernel
theorem dX10_readOne_1 : decode cX10_readOne 1 = .ok (.getfield 220, 3) := by decide +kernel
theorem dX10_readOne_4 : decode cX10_readOne 4 = .ok (.ifCond .eq 10, 3) := by decide +kernel
theorem dX10_readOne_7 : decode cX10_readOne 7 = .ok (.aload_n 0, 1) := by decide +kernel
theorem dX10_readOne_8 : decode cX10_readOne 8 = .ok (.invokevirtual 224, 3) := by decide +kernel
theorem dX10_readOne_11 : decode cX10_readOne 11 = .ok (.goto 7, 3) := by decide +kernel
theorem dX10_readOne_14 : decode cX10_readOne 14 = .ok (.aload_n 0, 1) := by decide +kernel
theorem dX10_readOne_15 : decode cX10_readOne 15 = .ok (.invokevirtual 227, 3) := by decide +kernel
theorem dX10_readOne_18 : decode cX10_readOne 18 = .ok (.return_, 1) := by decide +kernel
theorem dX10_readTest_0 : decode cX10_readTest 0 = .ok (.aload_n 0, 1) := by decide +kernel
theorem dX10_readTest_1 : decode cX10_readTest 1 = .ok (.iload_n 1, 1) := by decide +kernel
theorem dX10_readTest_2 : decode cX10_readTest 2 = .ok (.invokevirtual 230, 3) := by decide +kernel
theorem dX10_readTest_5 : decode cX10_readTest 5 = .ok (.aload_n 0, 1) := by decide +kernel
theorem dX10_readTest_6 : decode cX10_readTest 6 = .ok (.iconst 5, 1) := by decide +kernel
theorem dX10_readTest_7 : decode cX10_readTest 7 = .ok (.invokevirtual 197, 3) := by decide +kernel
theorem dX10_readTest_10 : decode cX10_readTest 10 = .ok (.ifCond .eq 11, 3) := by decide +kernel
theorem dX10_readTest_13 : decode cX10_readTest 13 = .ok (.aload_n 0, 1) := by decide +kernel
theorem dX10_readTest_14 : decode cX10_readTest 14 = .ok (.iload_n 1, 1) := by decide +kernel
theorem dX10_readTest_15 : decode cX10_readTest 15 = .ok (.invokevirtual 230, 3) := by decide +kernel
theorem dX10_readTest_18 : decode cX10_readTest 18 = .ok (.goto (-13), 3) := by decide +kernel
theorem dX10_readTest_21 : decode cX10_readTest 21 = .ok (.return_, 1) := by decide +kernel
theorem dX10_readBoth_0 : decode cX10_readBoth 0 = .ok (.aload_n 0, 1) := by decide +kernel
theorem dX10_readBoth_1 : decode cX10_readBoth 1 = .ok (.iload_n 1, 1) := by decide +kernel
theorem dX10_readBoth_2 : decode cX10_readBoth 2 = .ok (.invokevirtual 233, 3) := by decide +kernel
theorem dX10_readBoth_5 : decode cX10_readBoth 5 = .ok (.aload_n 0, 1) := by decide +kernel
theorem dX10_readBoth_6 : decode cX10_readBoth 6 = .ok (.bipush 6, 2) := by decide +kernel
theorem dX10_readBoth_8 : decode cX10_readBoth 8 = .ok (.invokevirtual 197, 3) := by decide +kernel
theorem dX10_readBoth_11 : decode cX10_readBoth 11 = .ok (.ifCond .eq 11, 3) := by decide +kernel
theorem dX10_readBoth_14 : decode cX10_readBoth 14 = .ok (.aload_n 0, 1) := by decide +kernel
theorem dX10_readBoth_15 : decode cX10_readBoth 15 = .ok (.iload_n 1, 1) := by decide +kernel
theorem dX10_readBoth_16 : decode cX10_readBoth 16 = .ok (.invokevirtual 233, 3) := by decide +kernel
theorem dX10_readBoth_19 : decode cX10_readBoth 19 = .ok (.goto (-14), 3) := by decide +kernel
theorem dX10_readBoth_22 : decode cX10_readBoth 22 = .ok (.return_, 1) := by decide +kernel
theorem dX10_readPlain_0 : decode cX10_readPlain 0 = .ok (.iconst 1, 1) := by decide +kernel
theorem dX10_readPlain_1 : decode cX10_readPlain 1 = .ok (.istore_n 2, 1) := by decide +kernel
theorem dX10_readPlain_2 : decode cX10_readPlain 2 = .ok (.iload_n 2, 1) := by decide +kernel
theorem dX10_readPlain_3 : decode cX10_readPlain 3 = .ok (.ifCond .eq 13, 3) := by decide +kernel
theorem dX10_readPlain_6 : decode cX10_readPlain 6 = .ok (.aload_n 0, 1) := by decide +kernel
theorem dX10_readPlain_7 : decode cX10_readPlain 7 = .ok (.bipush 7, 2) := by decide +kernel
theorem dX10_readPlain_9 : decode cX10_readPlain 9 = .ok (.invokevirtual 197, 3) := by decide +kernel
theorem dX10_readPlain_12 : decode cX10_readPlain 12 = .ok (.istore_n 2, 1) := by decide +kernel
theorem dX10_readPlain_13 : decode cX10_readPlain 13 = .ok (.goto (-11), 3) := by decide +kernel
theorem dX10_readPlain_16 : decode cX10_readPlain 16 = .ok (.aload_n 0, 1) := by decide +kernel
theorem dX10_readPlain_17 : decode cX10_readPlain 17 = .ok (.invokevirtual 190, 3) := by decide +kernel
theorem dX10_readPlain_20 : decode cX10_readPlain 20 = .ok (.ifCond .ne 4, 3) := by decide +kernel
theorem dX10_readPlain_23 : decode cX10_readPlain 23 = .ok (.return_, 1) := by decide +kernel
theorem dX10_readPlain_24 : decode cX10_readPlain 24 = .ok (.aload_n 0, 1) := by decide +kernel
theorem dX10_readPlain_25 : decode cX10_readPlain 25 = .ok (.getfield 54, 3) := by decide +kernel
theorem dX10_readPlain_28 : decode cX10_readPlain 28 = .ok (.aload_n 0, 1) := by decide +kernel
theorem dX10_readPlain_29 : decode cX10_readPlain 29 = .ok (.getfield 194, 3) := by decide +kernel
theorem dX10_readPlain_32 : decode cX10_readPlain 32 = .ok (.iaload, 1) := by decide +kernel
theorem dX10_readPlain_33 : decode cX10_readPlain 33 = .ok (.istore_n 3, 1) := by decide +kernel
theorem dX10_readPlain_34 : decode cX10_readPlain 34 = .ok (.iload_n 3, 1) := by decide +kernel
theorem dX10_readPlain_35 : decode cX10_readPlain 35 = .ok (.bipush 40, 2) := by decide +kernel
theorem dX10_readPlain_37 : decode cX10_readPlain 37 = .ok (.invokestatic 236, 3) := by decide +kernel
theorem dX10_readPlain_40 : decode cX10_readPlain 40 = .ok (.if_icmp .ne 50, 3) := by decide +kernel
theorem dX10_readPlain_43 : decode cX10_readPlain 43 = .ok (.iload_n 1, 1) := by decide +kernel
theorem dX10_readPlain_44 : decode cX10_readPlain 44 = .ok (.bipush 8, 2) := by decide +kernel
theorem dX10_readPlain_46 : decode cX10_readPlain 46 = .ok (.if_icmp .ne 7, 3) := by decide +kernel
theorem dX10_readPlain_49 : decode cX10_readPlain 49 = .ok (.aload_n 0, 1) := by decide +kernel
theorem dX10_readPlain_50 : decode cX10_readPlain 50 = .ok (.invokevirtual 200, 3) := by decide +kernel
theorem dX10_readPlain_53 : decode cX10_readPlain 53 = .ok (.aload_n 0, 1) := by decide +kernel
theorem dX10_readPlain_54 : decode cX10_readPlain 54 = .ok (.invokevirtual 190, 3) := by decide +kernel
theorem dX10_readPlain_57 : decode cX10_readPlain 57 = .ok (.ifCond .ne 4, 3) := by decide +kernel
theorem dX10_readPlain_60 : decode cX10_readPlain 60 = .ok (.return_, 1) := by decide +kernel
theorem dX10_readPlain_61 : decode cX10_readPlain 61 = .ok (.aload_n 0, 1) := by decide +kernel
theorem dX10_readPlain_62 : decode cX10_readPlain 62 = .ok (.dup, 1) := by decide +kernel
theorem dX10_readPlain_63 : decode cX10_readPlain 63 = .ok (.getfield 194, 3) := by decide +kernel
theorem dX10_readPlain_66 : decode cX10_readPlain 66 = .ok (.iconst 1, 1) := by decide +kernel
theorem dX10_readPlain_67 : decode cX10_readPlain 67 = .ok (.iadd, 1) := by decide +kernel
theorem dX10_readPlain_68 : decode cX10_readPlain 68 = .ok (.putfield 194, 3) := by decide +kernel
theorem dX10_readPlain_71 : decode cX10_readPlain 71 = .ok (.aload_n 0, 1) := by decide +kernel
theorem dX10_readPlain_72 : decode cX10_readPlain 72 = .ok (.iload_n 1, 1) := by decide +kernel
theorem dX10_readPlain_73 : decode cX10_readPlain 73 = .ok (.iconst 1, 1) := by decide +kernel
theorem dX10_readPlain_74 : decode cX10_readPlain 74 = .ok (.iadd, 1) := by decide +kernel
theorem dX10_readPlain_75 : decode cX10_readPlain 75 = .ok (.invokevirtual 213, 3) := by decide +kernel
theorem dX10_readPlain_78 : decode cX10_readPlain 78 = .ok (.aload_n 0, 1) := by decide +kernel
theorem dX10_readPlain_79 : decode cX10_readPlain 79 = .ok (.bipush 41, 2) := by decide +kernel
theorem dX10_readPlain_81 : decode cX10_readPlain 81 = .ok (.invokestatic 236, 3) := by decide +kernel
theorem dX10_readPlain_84 : decode cX10_readPlain 84 = .ok (.invokevirtual 210, 3) := by decide +kernel
theorem dX10_readPlain_87 : decode cX10_readPlain 87 = .ok (.goto 46, 3) := by decide +kernel
theorem dX10_readPlain_90 : decode cX10_readPlain 90 = .ok (.aload_n 0, 1) := by decide +kernel
theorem dX10_readPlain_91 : decode cX10_readPlain 91 = .ok (.iload_n 1, 1) := by decide +kernel
theorem dX10_readPlain_92 : decode cX10_readPlain 92 = .ok (.invokevirtual 206, 3) := by decide +kernel
theorem dX10_readPlain_95 : decode cX10_readPlain 95 = .ok (.aload_n 0, 1) := by decide +kernel
theorem dX10_readPlain_96 : decode cX10_readPlain 96 = .ok (.bipush 60, 2) := by decide +kernel
theorem dX10_readPlain_98 : decode cX10_readPlain 98 = .ok (.invokestatic 236, 3) := by decide +kernel
theorem dX10_readPlain_101 : decode cX10_readPlain 101 = .ok (.invokevirtual 197, 3) := by decide +kernel
theorem dX10_readPlain_104 : decode cX10_readPlain 104 = .ok (.ifCond .ne 24, 3) := by decide +kernel
theorem dX10_readPlain_107 : decode cX10_readPlain 107 = .ok (.aload_n 0, 1) := by decide +kernel
theorem dX10_readPlain_108 : decode cX10_readPlain 108 = .ok (.bipush 62, 2) := by decide +kernel
theorem dX10_readPlain_110 : decode cX10_readPlain 110 = .ok (.invokestatic 236, 3) := by decide +kernel
theorem dX10_readPlain_113 : decode cX10_readPlain 113 = .ok (.invokevirtual 197, 3) := by decide +kernel
theorem dX10_readPlain_116 : decode cX10_readPlain 116 = .ok (.ifCond .ne 12, 3) := by decide +kernel
theorem dX10_readPlain_119 : decode cX10_readPlain 119 = .ok (.aload_n 0, 1) := by decide +kernel
theorem dX10_readPlain_120 : decode cX10_readPlain 120 = .ok (.bipush 61, 2) := by decide +kernel
theorem dX10_readPlain_122 : decode cX10_readPlain 122 = .ok (.invokestatic 236, 3) := by decide +kernel
theorem dX10_readPlain_125 : decode cX10_readPlain 125 = .ok (.invokevirtual 210, 3) := by decide +kernel
theorem dX10_readPlain_128 : decode cX10_readPlain 128 = .ok (.aload_n 0, 1) := by decide +kernel
theorem dX10_readPlain_129 : decode cX10_readPlain 129 = .ok (.iload_n 1, 1) := by decide +kernel
theorem dX10_readPlain_130 : decode cX10_readPlain 130 = .ok (.invokevirtual 206, 3) := by decide +kernel
theorem dX10_readPlain_133 : decode cX10_readPlain 133 = .ok (.return_, 1) := by decide +kernel
theorem dX10_readSum_0 : decode cX10_readSum 0 = .ok (.aload_n 0, 1) := by decide +kernel
theorem dX10_readSum_1 : decode cX10_readSum 1 = .ok (.iload_n 1, 1) := by decide +kernel
theorem dX10_readSum_2 : decode cX10_readSum 2 = .ok (.invokevirtual 240, 3) := by decide +kernel
theorem dX10_readSum_5 : decode cX10_readSum 5 = .ok (.aload_n 0, 1) := by decide +kernel
theorem dX10_readSum_6 : decode cX10_readSum 6 = .ok (.bipush 43, 2) := by decide +kernel
theorem dX10_readSum_8 : decode cX10_readSum 8 = .ok (.invokestatic 236, 3) := by decide +kernel
theorem dX10_readSum_11 : decode cX10_readSum 11 = .ok (.invokevirtual 197, 3) := by decide +kernel
theorem dX10_readSum_14 : decode cX10_readSum 14 = .ok (.ifCond .ne 15, 3) := by decide +kernel
theorem dX10_readSum_17 : decode cX10_readSum 17 = .ok (.aload_n 0, 1) := by decide +kernel
theorem dX10_readSum_18 : decode cX10_readSum 18 = .ok (.bipush 45, 2) := by decide +kernel
theorem dX10_readSum_20 : decode cX10_readSum 20 = .ok (.invokestatic 236, 3) := by decide +kernel
theorem dX10_readSum_23 : decode cX10_readSum 23 = .ok (.invokevirtual 197, 3) := by decide +kernel
theorem dX10_readSum_26 : decode cX10_readSum 26 = .ok (.ifCond .eq 11, 3) := by decide +kernel
theorem dX10_readSum_29 : decode cX10_readSum 29 = .ok (.aload_n 0, 1) := by decide +kernel
theorem dX10_readSum_30 : decode cX10_readSum 30 = .ok (.iload_n 1, 1) := by decide +kernel
theorem dX10_readSum_31 : decode cX10_readSum 31 = .ok (.invokevirtual 240, 3) := by decide +kernel
theorem dX10_readSum_34 : decode cX10_readSum 34 = .ok (.goto (-29), 3) := by decide +kernel
theorem dX10_readSum_37 : decode cX10_readSum 37 = .ok (.return_, 1) := by decide +kernel
theorem dX10_readTerm_0 : decode cX10_readTerm 0 = .ok (.aload_n 0, 1) := by decide +kernel
theorem dX10_readTerm_1 : decode cX10_readTerm 1 = .ok (.iload_n 1, 1) := by decide +kernel
theorem dX10_readTerm_2 : decode cX10_readTerm 2 = .ok (.invokevirtual 243, 3) := by decide +kernel
theorem dX10_readTerm_5 : decode cX10_readTerm 5 = .ok (.aload_n 0, 1) := by decide +kernel
theorem dX10_readTerm_6 : decode cX10_readTerm 6 = .ok (.bipush 42, 2) := by decide +kernel
theorem dX10_readTerm_8 : decode cX10_readTerm 8 = .ok (.invokestatic 236, 3) := by decide +kernel
theorem dX10_readTerm_11 : decode cX10_readTerm 11 = .ok (.invokevirtual 197, 3) := by decide +kernel
theorem dX10_readTerm_14 : decode cX10_readTerm 14 = .ok (.ifCond .ne 27, 3) := by decide +kernel
theorem dX10_readTerm_17 : decode cX10_readTerm 17 = .ok (.aload_n 0, 1) := by decide +kernel
theorem dX10_readTerm_18 : decode cX10_readTerm 18 = .ok (.bipush 47, 2) := by decide +kernel
theorem dX10_readTerm_20 : decode cX10_readTerm 20 = .ok (.invokestatic 236, 3) := by decide +kernel
theorem dX10_readTerm_23 : decode cX10_readTerm 23 = .ok (.invokevirtual 197, 3) := by decide +kernel
theorem dX10_readTerm_26 : decode cX10_readTerm 26 = .ok (.ifCond .ne 15, 3) := by decide +kernel
theorem dX10_readTerm_29 : decode cX10_readTerm 29 = .ok (.aload_n 0, 1) := by decide +kernel
theorem dX10_readTerm_30 : decode cX10_readTerm 30 = .ok (.bipush 37, 2) := by decide +kernel
theorem dX10_readTerm_32 : decode cX10_readTerm 32 = .ok (.invokestatic 236, 3) := by decide +kernel
theorem dX10_readTerm_35 : decode cX10_readTerm 35 = .ok (.invokevirtual 197, 3) := by decide +kernel
theorem dX10_readTerm_38 : decode cX10_readTerm 38 = .ok (.ifCond .eq 11, 3) := by decide +kernel
theorem dX10_readTerm_41 : decode cX10_readTerm 41 = .ok (.aload_n 0, 1) := by decide +kernel
theorem dX10_readTerm_42 : decode cX10_readTerm 42 = .ok (.iload_n 1, 1) := by decide +kernel
theorem dX10_readTerm_43 : decode cX10_readTerm 43 = .ok (.invokevirtual 243, 3) := by decide +kernel
theorem dX10_readTerm_46 : decode cX10_readTerm 46 = .ok (.goto (-41), 3) := by decide +kernel
theorem dX10_readTerm_49 : decode cX10_readTerm 49 = .ok (.return_, 1) := by decide +kernel
theorem dX10_readPart_0 : decode cX10_readPart 0 = .ok (.aload_n 0, 1) := by decide +kernel
theorem dX10_readPart_1 : decode cX10_readPart 1 = .ok (.invokevirtual 190, 3) := by decide +kernel
theorem dX10_readPart_4 : decode cX10_readPart 4 = .ok (.ifCond .ne 4, 3) := by decide +kernel
theorem dX10_readPart_7 : decode cX10_readPart 7 = .ok (.return_, 1) := by decide +kernel
theorem dX10_readPart_8 : decode cX10_readPart 8 = .ok (.aload_n 0, 1) := by decide +kernel
theorem dX10_readPart_9 : decode cX10_readPart 9 = .ok (.getfield 54, 3) := by decide +kernel
theorem dX10_readPart_12 : decode cX10_readPart 12 = .ok (.aload_n 0, 1) := by decide +kernel
theorem dX10_readPart_13 : decode cX10_readPart 13 = .ok (.getfield 194, 3) := by decide +kernel
theorem dX10_readPart_16 : decode cX10_readPart 16 = .ok (.iaload, 1) := by decide +kernel
theorem dX10_readPart_17 : decode cX10_readPart 17 = .ok (.istore_n 2, 1) := by decide +kernel
theorem dX10_readPart_18 : decode cX10_readPart 18 = .ok (.iload_n 2, 1) := by decide +kernel
theorem dX10_readPart_19 : decode cX10_readPart 19 = .ok (.bipush 91, 2) := by decide +kernel
theorem dX10_readPart_21 : decode cX10_readPart 21 = .ok (.invokestatic 236, 3) := by decide +kernel
theorem dX10_readPart_24 : decode cX10_readPart 24 = .ok (.if_icmp .ne 50, 3) := by decide +kernel
theorem dX10_readPart_27 : decode cX10_readPart 27 = .ok (.iload_n 1, 1) := by decide +kernel
theorem dX10_readPart_28 : decode cX10_readPart 28 = .ok (.bipush 8, 2) := by decide +kernel
theorem dX10_readPart_30 : decode cX10_readPart 30 = .ok (.if_icmp .ne 7, 3) := by decide +kernel
theorem dX10_readPart_33 : decode cX10_readPart 33 = .ok (.aload_n 0, 1) := by decide +kernel
theorem dX10_readPart_34 : decode cX10_readPart 34 = .ok (.invokevirtual 200, 3) := by decide +kernel
theorem dX10_readPart_37 : decode cX10_readPart 37 = .ok (.aload_n 0, 1) := by decide +kernel
theorem dX10_readPart_38 : decode cX10_readPart 38 = .ok (.invokevirtual 190, 3) := by decide +kernel
theorem dX10_readPart_41 : decode cX10_readPart 41 = .ok (.ifCond .ne 4, 3) := by decide +kernel
theorem dX10_readPart_44 : decode cX10_readPart 44 = .ok (.return_, 1) := by decide +kernel
theorem dX10_readPart_45 : decode cX10_readPart 45 = .ok (.aload_n 0, 1) := by decide +kernel
theorem dX10_readPart_46 : decode cX10_readPart 46 = .ok (.dup, 1) := by decide +kernel
theorem dX10_readPart_47 : decode cX10_readPart 47 = .ok (.getfield 194, 3) := by decide +kernel
theorem dX10_readPart_50 : decode cX10_readPart 50 = .ok (.iconst 1, 1) := by decide +kernel
theorem dX10_readPart_51 : decode cX10_readPart 51 = .ok (.iadd, 1) := by decide +kernel
theorem dX10_readPart_52 : decode cX10_readPart 52 = .ok (.putfield 194, 3) := by decide +kernel
theorem dX10_readPart_55 : decode cX10_readPart 55 = .ok (.aload_n 0, 1) := by decide +kernel
theorem dX10_readPart_56 : decode cX10_readPart 56 = .ok (.iload_n 1, 1) := by decide +kernel
theorem dX10_readPart_57 : decode cX10_readPart 57 = .ok (.iconst 1, 1) := by decide +kernel
theorem dX10_readPart_58 : decode cX10_readPart 58 = .ok (.iadd, 1) := by decide +kernel
theorem dX10_readPart_59 : decode cX10_readPart 59 = .ok (.invokevirtual 206, 3) := by decide +kernel
theorem dX10_readPart_62 : decode cX10_readPart 62 = .ok (.aload_n 0, 1) := by decide +kernel
theorem dX10_readPart_63 : decode cX10_readPart 63 = .ok (.bipush 93, 2) := by decide +kernel
theorem dX10_readPart_65 : decode cX10_readPart 65 = .ok (.invokestatic 236, 3) := by decide +kernel
theorem dX10_readPart_68 : decode cX10_readPart 68 = .ok (.invokevirtual 210, 3) := by decide +kernel
theorem dX10_readPart_71 : decode cX10_readPart 71 = .ok (.goto 83, 3) := by decide +kernel
theorem dX10_readPart_74 : decode cX10_readPart 74 = .ok (.iload_n 2, 1) := by decide +kernel
theorem dX10_readPart_75 : decode cX10_readPart 75 = .ok (.bipush 50, 2) := by decide +kernel
theorem dX10_readPart_77 : decode cX10_readPart 77 = .ok (.if_icmp .ne 18, 3) := by decide +kernel
theorem dX10_readPart_80 : decode cX10_readPart 80 = .ok (.aload_n 0, 1) := by decide +kernel
theorem dX10_readPart_81 : decode cX10_readPart 81 = .ok (.getfield 57, 3) := by decide +kernel
theorem dX10_readPart_84 : decode cX10_readPart 84 = .ok (.aload_n 0, 1) := by decide +kernel
theorem dX10_readPart_85 : decode cX10_readPart 85 = .ok (.getfield 194, 3) := by decide +kernel
theorem dX10_readPart_88 : decode cX10_readPart 88 = .ok (.iaload, 1) := by decide +kernel
theorem dX10_readPart_89 : decode cX10_readPart 89 = .ok (.sipush 1000, 3) := by decide +kernel
theorem dX10_readPart_92 : decode cX10_readPart 92 = .ok (.if_icmp .le 19, 3) := by decide +kernel
theorem dX10_readPart_95 : decode cX10_readPart 95 = .ok (.iload_n 2, 1) := by decide +kernel
theorem dX10_readPart_96 : decode cX10_readPart 96 = .ok (.aload_n 0, 1) := by decide +kernel
theorem dX10_readPart_97 : decode cX10_readPart 97 = .ok (.getfield 246, 3) := by decide +kernel
theorem dX10_readPart_100 : decode cX10_readPart 100 = .ok (.if_icmp .lt 50, 3) := by decide +kernel
theorem dX10_readPart_103 : decode cX10_readPart 103 = .ok (.iload_n 2, 1) := by decide +kernel
theorem dX10_readPart_104 : decode cX10_readPart 104 = .ok (.aload_n 0, 1) := by decide +kernel
theorem dX10_readPart_105 : decode cX10_readPart 105 = .ok (.getfield 249, 3) := by decide +kernel
theorem dX10_readPart_108 : decode cX10_readPart 108 = .ok (.if_icmp .gt 42, 3) := by decide +kernel
theorem dX10_readPart_111 : decode cX10_readPart 111 = .ok (.aload_n 0, 1) := by decide +kernel
theorem dX10_readPart_112 : decode cX10_readPart 112 = .ok (.invokevirtual 252, 3) := by decide +kernel
theorem dX10_readPart_115 : decode cX10_readPart 115 = .ok (.aload_n 0, 1) := by decide +kernel
theorem dX10_readPart_116 : decode cX10_readPart 116 = .ok (.getfield 220, 3) := by decide +kernel
theorem dX10_readPart_119 : decode cX10_readPart 119 = .ok (.ifCond .eq 35, 3) := by decide +kernel
theorem dX10_readPart_122 : decode cX10_readPart 122 = .ok (.iload_n 2, 1) := by decide +kernel
theorem dX10_readPart_123 : decode cX10_readPart 123 = .ok (.bipush 13, 2) := by decide +kernel
theorem dX10_readPart_125 : decode cX10_readPart 125 = .ok (.if_icmp .eq 15, 3) := by decide +kernel
theorem dX10_readPart_128 : decode cX10_readPart 128 = .ok (.iload_n 2, 1) := by decide +kernel
theorem dX10_readPart_129 : decode cX10_readPart 129 = .ok (.bipush 14, 2) := by decide +kernel
theorem dX10_readPart_131 : decode cX10_readPart 131 = .ok (.if_icmp .eq 9, 3) := by decide +kernel
theorem dX10_readPart_134 : decode cX10_readPart 134 = .ok (.iload_n 2, 1) := by decide +kernel
theorem dX10_readPart_135 : decode cX10_readPart 135 = .ok (.bipush 19, 2) := by decide +kernel
theorem dX10_readPart_137 : decode cX10_readPart 137 = .ok (.if_icmp .ne 17, 3) := by decide +kernel
theorem dX10_readPart_140 : decode cX10_readPart 140 = .ok (.aload_n 0, 1) := by decide +kernel
theorem dX10_readPart_141 : decode cX10_readPart 141 = .ok (.iconst 0, 1) := by decide +kernel
theorem dX10_readPart_142 : decode cX10_readPart 142 = .ok (.bipush 7, 2) := by decide +kernel
theorem dX10_readPart_144 : decode cX10_readPart 144 = .ok (.invokevirtual 216, 3) := by decide +kernel
theorem dX10_readPart_147 : decode cX10_readPart 147 = .ok (.goto 7, 3) := by decide +kernel
theorem dX10_readPart_150 : decode cX10_readPart 150 = .ok (.aload_n 0, 1) := by decide +kernel
theorem dX10_readPart_151 : decode cX10_readPart 151 = .ok (.invokevirtual 200, 3) := by decide +kernel
theorem dX10_readPart_154 : decode cX10_readPart 154 = .ok (.return_, 1) := by decide +kernel
theorem dX10_reads_0 : decode cX10_reads 0 = .ok (.aload_n 0, 1) := by decide +kernel
theorem dX10_reads_1 : decode cX10_reads 1 = .ok (.aload_n 0, 1) := by decide +kernel
theorem dX10_reads_2 : decode cX10_reads 2 = .ok (.getfield 165, 3) := by decide +kernel
theorem dX10_reads_5 : decode cX10_reads 5 = .ok (.invokevirtual 255, 3) := by decide +kernel
theorem dX10_reads_8 : decode cX10_reads 8 = .ok (.aload_n 0, 1) := by decide +kernel
theorem dX10_reads_9 : decode cX10_reads 9 = .ok (.iconst 0, 1) := by decide +kernel
theorem dX10_reads_10 : decode cX10_reads 10 = .ok (.putfield 165, 3) := by decide +kernel
theorem dX10_reads_13 : decode cX10_reads 13 = .ok (.aload_n 0, 1) := by decide +kernel
theorem dX10_reads_14 : decode cX10_reads 14 = .ok (.iconst 0, 1) := by decide +kernel
theorem dX10_reads_15 : decode cX10_reads 15 = .ok (.putfield 194, 3) := by decide +kernel
theorem dX10_reads_18 : decode cX10_reads 18 = .ok (.aload_n 0, 1) := by decide +kernel
theorem dX10_reads_19 : decode cX10_reads 19 = .ok (.iconst 0, 1) := by decide +kernel
theorem dX10_reads_20 : decode cX10_reads 20 = .ok (.putfield 203, 3) := by decide +kernel
theorem dX10_reads_23 : decode cX10_reads 23 = .ok (.aload_n 0, 1) := by decide +kernel
theorem dX10_reads_24 : decode cX10_reads 24 = .ok (.iconst (-1), 1) := by decide +kernel
theorem dX10_reads_25 : decode cX10_reads 25 = .ok (.putfield 187, 3) := by decide +kernel
theorem dX10_reads_28 : decode cX10_reads 28 = .ok (.aload_n 0, 1) := by decide +kernel
theorem dX10_reads_29 : decode cX10_reads 29 = .ok (.invokevirtual 258, 3) := by decide +kernel
theorem dX10_reads_32 : decode cX10_reads 32 = .ok (.iconst 1, 1) := by decide +kernel
theorem dX10_reads_33 : decode cX10_reads 33 = .ok (.istore_n 1, 1) := by decide +kernel
theorem dX10_reads_34 : decode cX10_reads 34 = .ok (.aload_n 0, 1) := by decide +kernel
theorem dX10_reads_35 : decode cX10_reads 35 = .ok (.bipush 59, 2) := by decide +kernel
theorem dX10_reads_37 : decode cX10_reads 37 = .ok (.invokestatic 236, 3) := by decide +kernel
theorem dX10_reads_40 : decode cX10_reads 40 = .ok (.invokevirtual 197, 3) := by decide +kernel
theorem dX10_reads_43 : decode cX10_reads 43 = .ok (.ifCond .eq 30, 3) := by decide +kernel
theorem dX10_reads_46 : decode cX10_reads 46 = .ok (.iload_n 1, 1) := by decide +kernel
theorem dX10_reads_47 : decode cX10_reads 47 = .ok (.bipush 12, 2) := by decide +kernel
theorem dX10_reads_49 : decode cX10_reads 49 = .ok (.if_icmp .ne 7, 3) := by decide +kernel
theorem dX10_reads_52 : decode cX10_reads 52 = .ok (.aload_n 0, 1) := by decide +kernel
theorem dX10_reads_53 : decode cX10_reads 53 = .ok (.invokevirtual 200, 3) := by decide +kernel
theorem dX10_reads_56 : decode cX10_reads 56 = .ok (.aload_n 0, 1) := by decide +kernel
theorem dX10_reads_57 : decode cX10_reads 57 = .ok (.invokevirtual 190, 3) := by decide +kernel
theorem dX10_reads_60 : decode cX10_reads 60 = .ok (.ifCond .eq 7, 3) := by decide +kernel
theorem dX10_reads_63 : decode cX10_reads 63 = .ok (.aload_n 0, 1) := by decide +kernel
theorem dX10_reads_64 : decode cX10_reads 64 = .ok (.invokevirtual 258, 3) := by decide +kernel
theorem dX10_reads_67 : decode cX10_reads 67 = .ok (.iinc 1 1, 3) := by decide +kernel
theorem dX10_reads_70 : decode cX10_reads 70 = .ok (.goto (-36), 3) := by decide +kernel
theorem dX10_reads_73 : decode cX10_reads 73 = .ok (.aload_n 0, 1) := by decide +kernel
theorem dX10_reads_74 : decode cX10_reads 74 = .ok (.invokevirtual 190, 3) := by decide +kernel
theorem dX10_reads_77 : decode cX10_reads 77 = .ok (.ifCond .eq 18, 3) := by decide +kernel
theorem dX10_reads_80 : decode cX10_reads 80 = .ok (.aload_n 0, 1) := by decide +kernel
theorem dX10_reads_81 : decode cX10_reads 81 = .ok (.getfield 194, 3) := by decide +kernel
theorem dX10_reads_84 : decode cX10_reads 84 = .ok (.aload_n 0, 1) := by decide +kernel
theorem dX10_reads_85 : decode cX10_reads 85 = .ok (.getfield 174, 3) := by decide +kernel
theorem dX10_reads_88 : decode cX10_reads 88 = .ok (.if_icmp .ge 7, 3) := by decide +kernel
theorem dX10_reads_91 : decode cX10_reads 91 = .ok (.aload_n 0, 1) := by decide +kernel
theorem dX10_reads_92 : decode cX10_reads 92 = .ok (.invokevirtual 200, 3) := by decide +kernel
theorem dX10_reads_95 : decode cX10_reads 95 = .ok (.aload_n 0, 1) := by decide +kernel
theorem dX10_reads_96 : decode cX10_reads 96 = .ok (.aload_n 0, 1) := by decide +kernel
theorem dX10_reads_97 : decode cX10_reads 97 = .ok (.getfield 187, 3) := by decide +kernel
theorem dX10_reads_100 : decode cX10_reads 100 = .ok (.putfield 51, 3) := by decide +kernel
theorem dX10_reads_103 : decode cX10_reads 103 = .ok (.aload_n 0, 1) := by decide +kernel
theorem dX10_reads_104 : decode cX10_reads 104 = .ok (.invokevirtual 190, 3) := by decide +kernel
theorem dX10_reads_107 : decode cX10_reads 107 = .ok (.ireturn, 1) := by decide +kernel
theorem dX10_readsAs_0 : decode cX10_readsAs 0 = .ok (.aload_n 0, 1) := by decide +kernel
theorem dX10_readsAs_1 : decode cX10_readsAs 1 = .ok (.iload_n 1, 1) := by decide +kernel
theorem dX10_readsAs_2 : decode cX10_readsAs 2 = .ok (.putfield 220, 3) := by decide +kernel
theorem dX10_readsAs_5 : decode cX10_readsAs 5 = .ok (.aload_n 0, 1) := by decide +kernel
theorem dX10_readsAs_6 : decode cX10_readsAs 6 = .ok (.iload_n 1, 1) := by decide +kernel
theorem dX10_readsAs_7 : decode cX10_readsAs 7 = .ok (.ifCond .eq 8, 3) := by decide +kernel
theorem dX10_readsAs_10 : decode cX10_readsAs 10 = .ok (.bipush 13, 2) := by decide +kernel
theorem dX10_readsAs_12 : decode cX10_readsAs 12 = .ok (.goto 5, 3) := by decide +kernel
theorem dX10_readsAs_15 : decode cX10_readsAs 15 = .ok (.bipush 8, 2) := by decide +kernel
theorem dX10_readsAs_17 : decode cX10_readsAs 17 = .ok (.putfield 246, 3) := by decide +kernel
theorem dX10_readsAs_20 : decode cX10_readsAs 20 = .ok (.aload_n 0, 1) := by decide +kernel
theorem dX10_readsAs_21 : decode cX10_readsAs 21 = .ok (.iload_n 1, 1) := by decide +kernel
theorem dX10_readsAs_22 : decode cX10_readsAs 22 = .ok (.ifCond .eq 8, 3) := by decide +kernel
theorem dX10_readsAs_25 : decode cX10_readsAs 25 = .ok (.bipush 19, 2) := by decide +kernel
theorem dX10_readsAs_27 : decode cX10_readsAs 27 = .ok (.goto 5, 3) := by decide +kernel
theorem dX10_readsAs_30 : decode cX10_readsAs 30 = .ok (.bipush 16, 2) := by decide +kernel
theorem dX10_readsAs_32 : decode cX10_readsAs 32 = .ok (.putfield 249, 3) := by decide +kernel
theorem dX10_readsAs_35 : decode cX10_readsAs 35 = .ok (.aload_n 0, 1) := by decide +kernel
theorem dX10_readsAs_36 : decode cX10_readsAs 36 = .ok (.invokevirtual 261, 3) := by decide +kernel
theorem dX10_readsAs_39 : decode cX10_readsAs 39 = .ok (.ireturn, 1) := by decide +kernel
theorem dX10_lays_0 : decode cX10_lays 0 = .ok (.aload_n 0, 1) := by decide +kernel
theorem dX10_lays_1 : decode cX10_lays 1 = .ok (.getfield 28, 3) := by decide +kernel
theorem dX10_lays_4 : decode cX10_lays 4 = .ok (.bipush 53, 2) := by decide +kernel
theorem dX10_lays_6 : decode cX10_lays 6 = .ok (.iload_n 1, 1) := by decide +kernel
theorem dX10_lays_7 : decode cX10_lays 7 = .ok (.iadd, 1) := by decide +kernel
theorem dX10_lays_8 : decode cX10_lays 8 = .ok (.aload_n 0, 1) := by decide +kernel
theorem dX10_lays_9 : decode cX10_lays 9 = .ok (.getfield 174, 3) := by decide +kernel
theorem dX10_lays_12 : decode cX10_lays 12 = .ok (.iastore, 1) := by decide +kernel
theorem dX10_lays_13 : decode cX10_lays 13 = .ok (.iconst 0, 1) := by decide +kernel
theorem dX10_lays_14 : decode cX10_lays 14 = .ok (.istore_n 2, 1) := by decide +kernel
theorem dX10_lays_15 : decode cX10_lays 15 = .ok (.iload_n 2, 1) := by decide +kernel
theorem dX10_lays_16 : decode cX10_lays 16 = .ok (.aload_n 0, 1) := by decide +kernel
theorem dX10_lays_17 : decode cX10_lays 17 = .ok (.getfield 174, 3) := by decide +kernel
theorem dX10_lays_20 : decode cX10_lays 20 = .ok (.if_icmp .ge 52, 3) := by decide +kernel
theorem dX10_lays_23 : decode cX10_lays 23 = .ok (.aload_n 0, 1) := by decide +kernel
theorem dX10_lays_24 : decode cX10_lays 24 = .ok (.getfield 28, 3) := by decide +kernel
theorem dX10_lays_27 : decode cX10_lays 27 = .ok (.bipush 60, 2) := by decide +kernel
theorem dX10_lays_29 : decode cX10_lays 29 = .ok (.sipush 400, 3) := by decide +kernel
theorem dX10_lays_32 : decode cX10_lays 32 = .ok (.iload_n 1, 1) := by decide +kernel
theorem dX10_lays_33 : decode cX10_lays 33 = .ok (.imul, 1) := by decide +kernel
theorem dX10_lays_34 : decode cX10_lays 34 = .ok (.iadd, 1) := by decide +kernel
theorem dX10_lays_35 : decode cX10_lays 35 = .ok (.iload_n 2, 1) := by decide +kernel
theorem dX10_lays_36 : decode cX10_lays 36 = .ok (.iadd, 1) := by decide +kernel
theorem dX10_lays_37 : decode cX10_lays 37 = .ok (.aload_n 0, 1) := by decide +kernel
theorem dX10_lays_38 : decode cX10_lays 38 = .ok (.getfield 54, 3) := by decide +kernel
theorem dX10_lays_41 : decode cX10_lays 41 = .ok (.iload_n 2, 1) := by decide +kernel
theorem dX10_lays_42 : decode cX10_lays 42 = .ok (.iaload, 1) := by decide +kernel
theorem dX10_lays_43 : decode cX10_lays 43 = .ok (.iastore, 1) := by decide +kernel
theorem dX10_lays_44 : decode cX10_lays 44 = .ok (.aload_n 0, 1) := by decide +kernel
theorem dX10_lays_45 : decode cX10_lays 45 = .ok (.getfield 28, 3) := by decide +kernel
theorem dX10_lays_48 : decode cX10_lays 48 = .ok (.sipush 2860, 3) := by decide +kernel
theorem dX10_lays_51 : decode cX10_lays 51 = .ok (.sipush 400, 3) := by decide +kernel
theorem dX10_lays_54 : decode cX10_lays 54 = .ok (.iload_n 1, 1) := by decide +kernel
theorem dX10_lays_55 : decode cX10_lays 55 = .ok (.imul, 1) := by decide +kernel
theorem dX10_lays_56 : decode cX10_lays 56 = .ok (.iadd, 1) := by decide +kernel
theorem dX10_lays_57 : decode cX10_lays 57 = .ok (.iload_n 2, 1) := by decide +kernel
theorem dX10_lays_58 : decode cX10_lays 58 = .ok (.iadd, 1) := by decide +kernel
theorem dX10_lays_59 : decode cX10_lays 59 = .ok (.aload_n 0, 1) := by decide +kernel
theorem dX10_lays_60 : decode cX10_lays 60 = .ok (.getfield 57, 3) := by decide +kernel
theorem dX10_lays_63 : decode cX10_lays 63 = .ok (.iload_n 2, 1) := by decide +kernel
theorem dX10_lays_64 : decode cX10_lays 64 = .ok (.iaload, 1) := by decide +kernel
theorem dX10_lays_65 : decode cX10_lays 65 = .ok (.iastore, 1) := by decide +kernel
theorem dX10_lays_66 : decode cX10_lays 66 = .ok (.iinc 2 1, 3) := by decide +kernel
theorem dX10_lays_69 : decode cX10_lays 69 = .ok (.goto (-54), 3) := by decide +kernel
theorem dX10_lays_72 : decode cX10_lays 72 = .ok (.return_, 1) := by decide +kernel
theorem dX10_law_0 : decode cX10_law 0 = .ok (.aload_n 0, 1) := by decide +kernel
theorem dX10_law_1 : decode cX10_law 1 = .ok (.getfield 28, 3) := by decide +kernel
theorem dX10_law_4 : decode cX10_law 4 = .ok (.bipush 51, 2) := by decide +kernel
theorem dX10_law_6 : decode cX10_law 6 = .ok (.iaload, 1) := by decide +kernel
theorem dX10_law_7 : decode cX10_law 7 = .ok (.bipush 6, 2) := by decide +kernel
theorem dX10_law_9 : decode cX10_law 9 = .ok (.if_icmp .ne 15, 3) := by decide +kernel
theorem dX10_law_12 : decode cX10_law 12 = .ok (.aload_n 0, 1) := by decide +kernel
theorem dX10_law_13 : decode cX10_law 13 = .ok (.iconst 0, 1) := by decide +kernel
theorem dX10_law_14 : decode cX10_law 14 = .ok (.putfield 165, 3) := by decide +kernel
theorem dX10_law_17 : decode cX10_law 17 = .ok (.aload_n 0, 1) := by decide +kernel
theorem dX10_law_18 : decode cX10_law 18 = .ok (.bipush (-5), 2) := by decide +kernel
theorem dX10_law_20 : decode cX10_law 20 = .ok (.invokevirtual 103, 3) := by decide +kernel
theorem dX10_law_23 : decode cX10_law 23 = .ok (.ireturn, 1) := by decide +kernel
theorem dX10_law_24 : decode cX10_law 24 = .ok (.aload_n 0, 1) := by decide +kernel
theorem dX10_law_25 : decode cX10_law 25 = .ok (.iconst 0, 1) := by decide +kernel
theorem dX10_law_26 : decode cX10_law 26 = .ok (.invokevirtual 264, 3) := by decide +kernel
theorem dX10_law_29 : decode cX10_law 29 = .ok (.ifCond .ne 10, 3) := by decide +kernel
theorem dX10_law_32 : decode cX10_law 32 = .ok (.aload_n 0, 1) := by decide +kernel
theorem dX10_law_33 : decode cX10_law 33 = .ok (.bipush (-6), 2) := by decide +kernel
theorem dX10_law_35 : decode cX10_law 35 = .ok (.invokevirtual 103, 3) := by decide +kernel
theorem dX10_law_38 : decode cX10_law 38 = .ok (.ireturn, 1) := by decide +kernel
theorem dX10_law_39 : decode cX10_law 39 = .ok (.aload_n 0, 1) := by decide +kernel
theorem dX10_law_40 : decode cX10_law 40 = .ok (.aload_n 0, 1) := by decide +kernel
theorem dX10_law_41 : decode cX10_law 41 = .ok (.getfield 28, 3) := by decide +kernel
theorem dX10_law_44 : decode cX10_law 44 = .ok (.bipush 51, 2) := by decide +kernel
theorem dX10_law_46 : decode cX10_law 46 = .ok (.iaload, 1) := by decide +kernel
theorem dX10_law_47 : decode cX10_law 47 = .ok (.invokevirtual 268, 3) := by decide +kernel
theorem dX10_law_50 : decode cX10_law 50 = .ok (.aload_n 0, 1) := by decide +kernel
theorem dX10_law_51 : decode cX10_law 51 = .ok (.getfield 28, 3) := by decide +kernel
theorem dX10_law_54 : decode cX10_law 54 = .ok (.bipush 51, 2) := by decide +kernel
theorem dX10_law_56 : decode cX10_law 56 = .ok (.dup2, 1) := by decide +kernel
theorem dX10_law_57 : decode cX10_law 57 = .ok (.iaload, 1) := by decide +kernel
theorem dX10_law_58 : decode cX10_law 58 = .ok (.iconst 1, 1) := by decide +kernel
theorem dX10_law_59 : decode cX10_law 59 = .ok (.iadd, 1) := by decide +kernel
theorem dX10_law_60 : decode cX10_law 60 = .ok (.iastore, 1) := by decide +kernel
theorem dX10_law_61 : decode cX10_law 61 = .ok (.aload_n 0, 1) := by decide +kernel
theorem dX10_law_62 : decode cX10_law 62 = .ok (.aload_n 0, 1) := by decide +kernel
theorem dX10_law_63 : decode cX10_law 63 = .ok (.getfield 28, 3) := by decide +kernel
theorem dX10_law_66 : decode cX10_law 66 = .ok (.bipush 51, 2) := by decide +kernel
theorem dX10_law_68 : decode cX10_law 68 = .ok (.iaload, 1) := by decide +kernel
theorem dX10_law_69 : decode cX10_law 69 = .ok (.iconst 1, 1) := by decide +kernel
theorem dX10_law_70 : decode cX10_law 70 = .ok (.isub, 1) := by decide +kernel
theorem dX10_law_71 : decode cX10_law 71 = .ok (.invokevirtual 14, 3) := by decide +kernel
theorem dX10_law_74 : decode cX10_law 74 = .ok (.ireturn, 1) := by decide +kernel
theorem dX10_fault_0 : decode cX10_fault 0 = .ok (.aload_n 0, 1) := by decide +kernel
theorem dX10_fault_1 : decode cX10_fault 1 = .ok (.getfield 51, 3) := by decide +kernel
theorem dX10_fault_4 : decode cX10_fault 4 = .ok (.ireturn, 1) := by decide +kernel
theorem dX10_isLaw_0 : decode cX10_isLaw 0 = .ok (.iload_n 1, 1) := by decide +kernel
theorem dX10_isLaw_1 : decode cX10_isLaw 1 = .ok (.iconst (-1), 1) := by decide +kernel
theorem dX10_isLaw_2 : decode cX10_isLaw 2 = .ok (.aload_n 0, 1) := by decide +kernel
theorem dX10_isLaw_3 : decode cX10_isLaw 3 = .ok (.getfield 28, 3) := by decide +kernel
theorem dX10_isLaw_6 : decode cX10_isLaw 6 = .ok (.bipush 51, 2) := by decide +kernel
theorem dX10_isLaw_8 : decode cX10_isLaw 8 = .ok (.iaload, 1) := by decide +kernel
theorem dX10_isLaw_9 : decode cX10_isLaw 9 = .ok (.iconst 1, 1) := by decide +kernel
theorem dX10_isLaw_10 : decode cX10_isLaw 10 = .ok (.isub, 1) := by decide +kernel
theorem dX10_isLaw_11 : decode cX10_isLaw 11 = .ok (.invokestatic 18, 3) := by decide +kernel
theorem dX10_isLaw_14 : decode cX10_isLaw 14 = .ok (.ireturn, 1) := by decide +kernel
theorem dX10_force_0 : decode cX10_force 0 = .ok (.aload_n 0, 1) := by decide +kernel
theorem dX10_force_1 : decode cX10_force 1 = .ok (.iload_n 1, 1) := by decide +kernel
theorem dX10_force_2 : decode cX10_force 2 = .ok (.invokevirtual 271, 3) := by decide +kernel
theorem dX10_force_5 : decode cX10_force 5 = .ok (.ifCond .ne 10, 3) := by decide +kernel
theorem dX10_force_8 : decode cX10_force 8 = .ok (.aload_n 0, 1) := by decide +kernel
theorem dX10_force_9 : decode cX10_force 9 = .ok (.bipush (-2), 2) := by decide +kernel
theorem dX10_force_11 : decode cX10_force 11 = .ok (.invokevirtual 103, 3) := by decide +kernel
theorem dX10_force_14 : decode cX10_force 14 = .ok (.ireturn, 1) := by decide +kernel
theorem dX10_force_15 : decode cX10_force 15 = .ok (.aload_n 0, 1) := by decide +kernel
theorem dX10_force_16 : decode cX10_force 16 = .ok (.getfield 28, 3) := by decide +kernel
theorem dX10_force_19 : decode cX10_force 19 = .ok (.bipush 52, 2) := by decide +kernel
theorem dX10_force_21 : decode cX10_force 21 = .ok (.iaload, 1) := by decide +kernel
theorem dX10_force_22 : decode cX10_force 22 = .ok (.istore_n 2, 1) := by decide +kernel
theorem dX10_force_23 : decode cX10_force 23 = .ok (.aload_n 0, 1) := by decide +kernel
theorem dX10_force_24 : decode cX10_force 24 = .ok (.getfield 28, 3) := by decide +kernel
theorem dX10_force_27 : decode cX10_force 27 = .ok (.bipush 52, 2) := by decide +kernel
theorem dX10_force_29 : decode cX10_force 29 = .ok (.iload_n 1, 1) := by decide +kernel
theorem dX10_force_30 : decode cX10_force 30 = .ok (.iastore, 1) := by decide +kernel
theorem dX10_force_31 : decode cX10_force 31 = .ok (.aload_n 0, 1) := by decide +kernel
theorem dX10_force_32 : decode cX10_force 32 = .ok (.iload_n 2, 1) := by decide +kernel
theorem dX10_force_33 : decode cX10_force 33 = .ok (.invokevirtual 14, 3) := by decide +kernel
theorem dX10_force_36 : decode cX10_force 36 = .ok (.ireturn, 1) := by decide +kernel
theorem dX10_codeAt_0 : decode cX10_codeAt 0 = .ok (.iload_n 1, 1) := by decide +kernel
theorem dX10_codeAt_1 : decode cX10_codeAt 1 = .ok (.aload_n 0, 1) := by decide +kernel
theorem dX10_codeAt_2 : decode cX10_codeAt 2 = .ok (.getfield 274, 3) := by decide +kernel
theorem dX10_codeAt_5 : decode cX10_codeAt 5 = .ok (.if_icmp .ge 15, 3) := by decide +kernel
theorem dX10_codeAt_8 : decode cX10_codeAt 8 = .ok (.aload_n 0, 1) := by decide +kernel
theorem dX10_codeAt_9 : decode cX10_codeAt 9 = .ok (.getfield 28, 3) := by decide +kernel
theorem dX10_codeAt_12 : decode cX10_codeAt 12 = .ok (.bipush 60, 2) := by decide +kernel
theorem dX10_codeAt_14 : decode cX10_codeAt 14 = .ok (.iload_n 1, 1) := by decide +kernel
theorem dX10_codeAt_15 : decode cX10_codeAt 15 = .ok (.iadd, 1) := by decide +kernel
theorem dX10_codeAt_16 : decode cX10_codeAt 16 = .ok (.iaload, 1) := by decide +kernel
theorem dX10_codeAt_17 : decode cX10_codeAt 17 = .ok (.goto 4, 3) := by decide +kernel
theorem dX10_codeAt_20 : decode cX10_codeAt 20 = .ok (.iconst 0, 1) := by decide +kernel
theorem dX10_codeAt_21 : decode cX10_codeAt 21 = .ok (.ireturn, 1) := by decide +kernel
theorem dX10_passes0_0 : decode cX10_passes0 0 = .ok (.aload_n 0, 1) := by decide +kernel
theorem dX10_passes0_1 : decode cX10_passes0 1 = .ok (.aload_n 0, 1) := by decide +kernel
theorem dX10_passes0_2 : decode cX10_passes0 2 = .ok (.getfield 277, 3) := by decide +kernel
theorem dX10_passes0_5 : decode cX10_passes0 5 = .ok (.invokevirtual 280, 3) := by decide +kernel
theorem dX10_passes0_8 : decode cX10_passes0 8 = .ok (.iload_n 1, 1) := by decide +kernel
theorem dX10_passes0_9 : decode cX10_passes0 9 = .ok (.if_icmp .ne 7, 3) := by decide +kernel
theorem dX10_passes0_12 : decode cX10_passes0 12 = .ok (.iconst 1, 1) := by decide +kernel
theorem dX10_passes0_13 : decode cX10_passes0 13 = .ok (.goto 4, 3) := by decide +kernel
theorem dX10_passes0_16 : decode cX10_passes0 16 = .ok (.iconst 0, 1) := by decide +kernel
theorem dX10_passes0_17 : decode cX10_passes0 17 = .ok (.istore_n 2, 1) := by decide +kernel
theorem dX10_passes0_18 : decode cX10_passes0 18 = .ok (.iload_n 2, 1) := by decide +kernel
theorem dX10_passes0_19 : decode cX10_passes0 19 = .ok (.ifCond .eq 13, 3) := by decide +kernel
theorem dX10_passes0_22 : decode cX10_passes0 22 = .ok (.aload_n 0, 1) := by decide +kernel
theorem dX10_passes0_23 : decode cX10_passes0 23 = .ok (.dup, 1) := by decide +kernel
theorem dX10_passes0_24 : decode cX10_passes0 24 = .ok (.getfield 277, 3) := by decide +kernel
theorem dX10_passes0_27 : decode cX10_passes0 27 = .ok (.iconst 1, 1) := by decide +kernel
theorem dX10_passes0_28 : decode cX10_passes0 28 = .ok (.iadd, 1) := by decide +kernel
theorem dX10_passes0_29 : decode cX10_passes0 29 = .ok (.putfield 277, 3) := by decide +kernel
theorem dX10_passes0_32 : decode cX10_passes0 32 = .ok (.iload_n 2, 1) := by decide +kernel
theorem dX10_passes0_33 : decode cX10_passes0 33 = .ok (.ireturn, 1) := by decide +kernel
theorem dX10_bounded_0 : decode cX10_bounded 0 = .ok (.iload_n 3, 1) := by decide +kernel
theorem dX10_bounded_1 : decode cX10_bounded 1 = .ok (.ifCond .eq 24, 3) := by decide +kernel
theorem dX10_bounded_4 : decode cX10_bounded 4 = .ok (.lload_n 1, 1) := by decide +kernel
theorem dX10_bounded_5 : decode cX10_bounded 5 = .ok (.ldc2_w 283, 3) := by decide +kernel
theorem dX10_bounded_8 : decode cX10_bounded 8 = .ok (.lcmp, 1) := by decide +kernel
theorem dX10_bounded_9 : decode cX10_bounded 9 = .ok (.ifCond .gt 11, 3) := by decide +kernel
theorem dX10_bounded_12 : decode cX10_bounded 12 = .ok (.lload_n 1, 1) := by decide +kernel
theorem dX10_bounded_13 : decode cX10_bounded 13 = .ok (.ldc2_w 285, 3) := by decide +kernel
theorem dX10_bounded_16 : decode cX10_bounded 16 = .ok (.lcmp, 1) := by decide +kernel
theorem dX10_bounded_17 : decode cX10_bounded 17 = .ok (.ifCond .ge 8, 3) := by decide +kernel
theorem dX10_bounded_20 : decode cX10_bounded 20 = .ok (.aload_n 0, 1) := by decide +kernel
theorem dX10_bounded_21 : decode cX10_bounded 21 = .ok (.iconst 1, 1) := by decide +kernel
theorem dX10_bounded_22 : decode cX10_bounded 22 = .ok (.putfield 287, 3) := by decide +kernel
theorem dX10_bounded_25 : decode cX10_bounded 25 = .ok (.aload_n 0, 1) := by decide +kernel
theorem dX10_bounded_26 : decode cX10_bounded 26 = .ok (.getfield 287, 3) := by decide +kernel
theorem dX10_bounded_29 : decode cX10_bounded 29 = .ok (.ifCond .eq 7, 3) := by decide +kernel
theorem dX10_bounded_32 : decode cX10_bounded 32 = .ok (.lconst 0, 1) := by decide +kernel
theorem dX10_bounded_33 : decode cX10_bounded 33 = .ok (.goto 4, 3) := by decide +kernel
theorem dX10_bounded_36 : decode cX10_bounded 36 = .ok (.lload_n 1, 1) := by decide +kernel
theorem dX10_bounded_37 : decode cX10_bounded 37 = .ok (.lreturn, 1) := by decide +kernel
theorem dX10_sumOf_0 : decode cX10_sumOf 0 = .ok (.aload_n 0, 1) := by decide +kernel
theorem dX10_sumOf_1 : decode cX10_sumOf 1 = .ok (.iload_n 1, 1) := by decide +kernel
theorem dX10_sumOf_2 : decode cX10_sumOf 2 = .ok (.invokevirtual 290, 3) := by decide +kernel
theorem dX10_sumOf_5 : decode cX10_sumOf 5 = .ok (.lstore_n 2, 1) := by decide +kernel
theorem dX10_sumOf_6 : decode cX10_sumOf 6 = .ok (.aload_n 0, 1) := by decide +kernel
theorem dX10_sumOf_7 : decode cX10_sumOf 7 = .ok (.aload_n 0, 1) := by decide +kernel
theorem dX10_sumOf_8 : decode cX10_sumOf 8 = .ok (.getfield 277, 3) := by decide +kernel
theorem dX10_sumOf_11 : decode cX10_sumOf 11 = .ok (.invokevirtual 280, 3) := by decide +kernel
theorem dX10_sumOf_14 : decode cX10_sumOf 14 = .ok (.bipush 43, 2) := by decide +kernel
theorem dX10_sumOf_16 : decode cX10_sumOf 16 = .ok (.invokestatic 236, 3) := by decide +kernel
theorem dX10_sumOf_19 : decode cX10_sumOf 19 = .ok (.if_icmp .eq 19, 3) := by decide +kernel
theorem dX10_sumOf_22 : decode cX10_sumOf 22 = .ok (.aload_n 0, 1) := by decide +kernel
theorem dX10_sumOf_23 : decode cX10_sumOf 23 = .ok (.aload_n 0, 1) := by decide +kernel
theorem dX10_sumOf_24 : decode cX10_sumOf 24 = .ok (.getfield 277, 3) := by decide +kernel
theorem dX10_sumOf_27 : decode cX10_sumOf 27 = .ok (.invokevirtual 280, 3) := by decide +kernel
theorem dX10_sumOf_30 : decode cX10_sumOf 30 = .ok (.bipush 45, 2) := by decide +kernel
theorem dX10_sumOf_32 : decode cX10_sumOf 32 = .ok (.invokestatic 236, 3) := by decide +kernel
theorem dX10_sumOf_35 : decode cX10_sumOf 35 = .ok (.if_icmp .ne 68, 3) := by decide +kernel
theorem dX10_sumOf_38 : decode cX10_sumOf 38 = .ok (.aload_n 0, 1) := by decide +kernel
theorem dX10_sumOf_39 : decode cX10_sumOf 39 = .ok (.aload_n 0, 1) := by decide +kernel
theorem dX10_sumOf_40 : decode cX10_sumOf 40 = .ok (.getfield 277, 3) := by decide +kernel
theorem dX10_sumOf_43 : decode cX10_sumOf 43 = .ok (.invokevirtual 280, 3) := by decide +kernel
theorem dX10_sumOf_46 : decode cX10_sumOf 46 = .ok (.bipush 43, 2) := by decide +kernel
theorem dX10_sumOf_48 : decode cX10_sumOf 48 = .ok (.invokestatic 236, 3) := by decide +kernel
theorem dX10_sumOf_51 : decode cX10_sumOf 51 = .ok (.if_icmp .ne 7, 3) := by decide +kernel
theorem dX10_sumOf_54 : decode cX10_sumOf 54 = .ok (.iconst 1, 1) := by decide +kernel
theorem dX10_sumOf_55 : decode cX10_sumOf 55 = .ok (.goto 4, 3) := by decide +kernel
theorem dX10_sumOf_58 : decode cX10_sumOf 58 = .ok (.iconst 0, 1) := by decide +kernel
theorem dX10_sumOf_59 : decode cX10_sumOf 59 = .ok (.istore 4, 2) := by decide +kernel
theorem dX10_sumOf_61 : decode cX10_sumOf 61 = .ok (.aload_n 0, 1) := by decide +kernel
theorem dX10_sumOf_62 : decode cX10_sumOf 62 = .ok (.dup, 1) := by decide +kernel
theorem dX10_sumOf_63 : decode cX10_sumOf 63 = .ok (.getfield 277, 3) := by decide +kernel
theorem dX10_sumOf_66 : decode cX10_sumOf 66 = .ok (.iconst 1, 1) := by decide +kernel
theorem dX10_sumOf_67 : decode cX10_sumOf 67 = .ok (.iadd, 1) := by decide +kernel
theorem dX10_sumOf_68 : decode cX10_sumOf 68 = .ok (.putfield 277, 3) := by decide +kernel
theorem dX10_sumOf_71 : decode cX10_sumOf 71 = .ok (.aload_n 0, 1) := by decide +kernel
theorem dX10_sumOf_72 : decode cX10_sumOf 72 = .ok (.iload_n 1, 1) := by decide +kernel
theorem dX10_sumOf_73 : decode cX10_sumOf 73 = .ok (.invokevirtual 290, 3) := by decide +kernel
theorem dX10_sumOf_76 : decode cX10_sumOf 76 = .ok (.lstore 5, 2) := by decide +kernel
theorem dX10_sumOf_78 : decode cX10_sumOf 78 = .ok (.aload_n 0, 1) := by decide +kernel
theorem dX10_sumOf_79 : decode cX10_sumOf 79 = .ok (.iload 4, 2) := by decide +kernel
theorem dX10_sumOf_81 : decode cX10_sumOf 81 = .ok (.ifCond .eq 10, 3) := by decide +kernel
theorem dX10_sumOf_84 : decode cX10_sumOf 84 = .ok (.lload_n 2, 1) := by decide +kernel
theorem dX10_sumOf_85 : decode cX10_sumOf 85 = .ok (.lload 5, 2) := by decide +kernel
theorem dX10_sumOf_87 : decode cX10_sumOf 87 = .ok (.ladd, 1) := by decide +kernel
theorem dX10_sumOf_88 : decode cX10_sumOf 88 = .ok (.goto 7, 3) := by decide +kernel
theorem dX10_sumOf_91 : decode cX10_sumOf 91 = .ok (.lload_n 2, 1) := by decide +kernel
theorem dX10_sumOf_92 : decode cX10_sumOf 92 = .ok (.lload 5, 2) := by decide +kernel
theorem dX10_sumOf_94 : decode cX10_sumOf 94 = .ok (.lsub, 1) := by decide +kernel
theorem dX10_sumOf_95 : decode cX10_sumOf 95 = .ok (.iload_n 1, 1) := by decide +kernel
theorem dX10_sumOf_96 : decode cX10_sumOf 96 = .ok (.invokevirtual 294, 3) := by decide +kernel
theorem dX10_sumOf_99 : decode cX10_sumOf 99 = .ok (.lstore_n 2, 1) := by decide +kernel
theorem dX10_sumOf_100 : decode cX10_sumOf 100 = .ok (.goto (-94), 3) := by decide +kernel
theorem dX10_sumOf_103 : decode cX10_sumOf 103 = .ok (.lload_n 2, 1) := by decide +kernel
theorem dX10_sumOf_104 : decode cX10_sumOf 104 = .ok (.lreturn, 1) := by decide +kernel
theorem dX10_termOf_0 : decode cX10_termOf 0 = .ok (.aload_n 0, 1) := by decide +kernel
theorem dX10_termOf_1 : decode cX10_termOf 1 = .ok (.iload_n 1, 1) := by decide +kernel
theorem dX10_termOf_2 : decode cX10_termOf 2 = .ok (.invokevirtual 298, 3) := by decide +kernel
theorem dX10_termOf_5 : decode cX10_termOf 5 = .ok (.lstore_n 2, 1) := by decide +kernel
theorem dX10_termOf_6 : decode cX10_termOf 6 = .ok (.aload_n 0, 1) := by decide +kernel
theorem dX10_termOf_7 : decode cX10_termOf 7 = .ok (.aload_n 0, 1) := by decide +kernel
theorem dX10_termOf_8 : decode cX10_termOf 8 = .ok (.getfield 277, 3) := by decide +kernel
theorem dX10_termOf_11 : decode cX10_termOf 11 = .ok (.invokevirtual 280, 3) := by decide +kernel
theorem dX10_termOf_14 : decode cX10_termOf 14 = .ok (.bipush 42, 2) := by decide +kernel
theorem dX10_termOf_16 : decode cX10_termOf 16 = .ok (.invokestatic 236, 3) := by decide +kernel
theorem dX10_termOf_19 : decode cX10_termOf 19 = .ok (.if_icmp .eq 35, 3) := by decide +kernel
theorem dX10_termOf_22 : decode cX10_termOf 22 = .ok (.aload_n 0, 1) := by decide +kernel
theorem dX10_termOf_23 : decode cX10_termOf 23 = .ok (.aload_n 0, 1) := by decide +kernel
theorem dX10_termOf_24 : decode cX10_termOf 24 = .ok (.getfield 277, 3) := by decide +kernel
theorem dX10_termOf_27 : decode cX10_termOf 27 = .ok (.invokevirtual 280, 3) := by decide +kernel
theorem dX10_termOf_30 : decode cX10_termOf 30 = .ok (.bipush 47, 2) := by decide +kernel
theorem dX10_termOf_32 : decode cX10_termOf 32 = .ok (.invokestatic 236, 3) := by decide +kernel
theorem dX10_termOf_35 : decode cX10_termOf 35 = .ok (.if_icmp .eq 19, 3) := by decide +kernel
theorem dX10_termOf_38 : decode cX10_termOf 38 = .ok (.aload_n 0, 1) := by decide +kernel
theorem dX10_termOf_39 : decode cX10_termOf 39 = .ok (.aload_n 0, 1) := by decide +kernel
theorem dX10_termOf_40 : decode cX10_termOf 40 = .ok (.getfield 277, 3) := by decide +kernel
theorem dX10_termOf_43 : decode cX10_termOf 43 = .ok (.invokevirtual 280, 3) := by decide +kernel
theorem dX10_termOf_46 : decode cX10_termOf 46 = .ok (.bipush 37, 2) := by decide +kernel
theorem dX10_termOf_48 : decode cX10_termOf 48 = .ok (.invokestatic 236, 3) := by decide +kernel
theorem dX10_termOf_51 : decode cX10_termOf 51 = .ok (.if_icmp .ne 117, 3) := by decide +kernel
theorem dX10_termOf_54 : decode cX10_termOf 54 = .ok (.aload_n 0, 1) := by decide +kernel
theorem dX10_termOf_55 : decode cX10_termOf 55 = .ok (.aload_n 0, 1) := by decide +kernel
theorem dX10_termOf_56 : decode cX10_termOf 56 = .ok (.getfield 277, 3) := by decide +kernel
theorem dX10_termOf_59 : decode cX10_termOf 59 = .ok (.invokevirtual 280, 3) := by decide +kernel
theorem dX10_termOf_62 : decode cX10_termOf 62 = .ok (.istore 4, 2) := by decide +kernel
theorem dX10_termOf_64 : decode cX10_termOf 64 = .ok (.aload_n 0, 1) := by decide +kernel
theorem dX10_termOf_65 : decode cX10_termOf 65 = .ok (.dup, 1) := by decide +kernel
theorem dX10_termOf_66 : decode cX10_termOf 66 = .ok (.getfield 277, 3) := by decide +kernel
theorem dX10_termOf_69 : decode cX10_termOf 69 = .ok (.iconst 1, 1) := by decide +kernel
theorem dX10_termOf_70 : decode cX10_termOf 70 = .ok (.iadd, 1) := by decide +kernel
theorem dX10_termOf_71 : decode cX10_termOf 71 = .ok (.putfield 277, 3) := by decide +kernel
theorem dX10_termOf_74 : decode cX10_termOf 74 = .ok (.aload_n 0, 1) := by decide +kernel
theorem dX10_termOf_75 : decode cX10_termOf 75 = .ok (.iload_n 1, 1) := by decide +kernel
theorem dX10_termOf_76 : decode cX10_termOf 76 = .ok (.invokevirtual 298, 3) := by decide +kernel
theorem dX10_termOf_79 : decode cX10_termOf 79 = .ok (.lstore 5, 2) := by decide +kernel
theorem dX10_termOf_81 : decode cX10_termOf 81 = .ok (.iload 4, 2) := by decide +kernel
theorem dX10_termOf_83 : decode cX10_termOf 83 = .ok (.bipush 42, 2) := by decide +kernel
theorem dX10_termOf_85 : decode cX10_termOf 85 = .ok (.invokestatic 236, 3) := by decide +kernel
theorem dX10_termOf_88 : decode cX10_termOf 88 = .ok (.if_icmp .eq 33, 3) := by decide +kernel
theorem dX10_termOf_91 : decode cX10_termOf 91 = .ok (.lload 5, 2) := by decide +kernel
theorem dX10_termOf_93 : decode cX10_termOf 93 = .ok (.lconst 0, 1) := by decide +kernel
theorem dX10_termOf_94 : decode cX10_termOf 94 = .ok (.lcmp, 1) := by decide +kernel
theorem dX10_termOf_95 : decode cX10_termOf 95 = .ok (.ifCond .ne 26, 3) := by decide +kernel
theorem dX10_termOf_98 : decode cX10_termOf 98 = .ok (.aload_n 0, 1) := by decide +kernel
theorem dX10_termOf_99 : decode cX10_termOf 99 = .ok (.aload_n 0, 1) := by decide +kernel
theorem dX10_termOf_100 : decode cX10_termOf 100 = .ok (.getfield 287, 3) := by decide +kernel
theorem dX10_termOf_103 : decode cX10_termOf 103 = .ok (.ifCond .ne 7, 3) := by decide +kernel
theorem dX10_termOf_106 : decode cX10_termOf 106 = .ok (.iload_n 1, 1) := by decide +kernel
theorem dX10_termOf_107 : decode cX10_termOf 107 = .ok (.ifCond .eq 7, 3) := by decide +kernel
theorem dX10_termOf_110 : decode cX10_termOf 110 = .ok (.iconst 1, 1) := by decide +kernel
theorem dX10_termOf_111 : decode cX10_termOf 111 = .ok (.goto 4, 3) := by decide +kernel
theorem dX10_termOf_114 : decode cX10_termOf 114 = .ok (.iconst 0, 1) := by decide +kernel
theorem dX10_termOf_115 : decode cX10_termOf 115 = .ok (.putfield 287, 3) := by decide +kernel
theorem dX10_termOf_118 : decode cX10_termOf 118 = .ok (.lconst 1, 1) := by decide +kernel
theorem dX10_termOf_119 : decode cX10_termOf 119 = .ok (.lstore 5, 2) := by decide +kernel
theorem dX10_termOf_121 : decode cX10_termOf 121 = .ok (.aload_n 0, 1) := by decide +kernel
theorem dX10_termOf_122 : decode cX10_termOf 122 = .ok (.iload 4, 2) := by decide +kernel
theorem dX10_termOf_124 : decode cX10_termOf 124 = .ok (.bipush 42, 2) := by decide +kernel
theorem dX10_termOf_126 : decode cX10_termOf 126 = .ok (.invokestatic 236, 3) := by decide +kernel
theorem dX10_termOf_129 : decode cX10_termOf 129 = .ok (.if_icmp .ne 10, 3) := by decide +kernel
theorem dX10_termOf_132 : decode cX10_termOf 132 = .ok (.lload_n 2, 1) := by decide +kernel
theorem dX10_termOf_133 : decode cX10_termOf 133 = .ok (.lload 5, 2) := by decide +kernel
theorem dX10_termOf_135 : decode cX10_termOf 135 = .ok (.lmul, 1) := by decide +kernel
theorem dX10_termOf_136 : decode cX10_termOf 136 = .ok (.goto 24, 3) := by decide +kernel
theorem dX10_termOf_139 : decode cX10_termOf 139 = .ok (.iload 4, 2) := by decide +kernel
theorem dX10_termOf_141 : decode cX10_termOf 141 = .ok (.bipush 47, 2) := by decide +kernel
theorem dX10_termOf_143 : decode cX10_termOf 143 = .ok (.invokestatic 236, 3) := by decide +kernel
theorem dX10_termOf_146 : decode cX10_termOf 146 = .ok (.if_icmp .ne 10, 3) := by decide +kernel
theorem dX10_termOf_149 : decode cX10_termOf 149 = .ok (.lload_n 2, 1) := by decide +kernel
theorem dX10_termOf_150 : decode cX10_termOf 150 = .ok (.lload 5, 2) := by decide +kernel
theorem dX10_termOf_152 : decode cX10_termOf 152 = .ok (.ldiv, 1) := by decide +kernel
theorem dX10_termOf_153 : decode cX10_termOf 153 = .ok (.goto 7, 3) := by decide +kernel
theorem dX10_termOf_156 : decode cX10_termOf 156 = .ok (.lload_n 2, 1) := by decide +kernel
theorem dX10_termOf_157 : decode cX10_termOf 157 = .ok (.lload 5, 2) := by decide +kernel
theorem dX10_termOf_159 : decode cX10_termOf 159 = .ok (.lrem, 1) := by decide +kernel
theorem dX10_termOf_160 : decode cX10_termOf 160 = .ok (.iload_n 1, 1) := by decide +kernel
theorem dX10_termOf_161 : decode cX10_termOf 161 = .ok (.invokevirtual 294, 3) := by decide +kernel
theorem dX10_termOf_164 : decode cX10_termOf 164 = .ok (.lstore_n 2, 1) := by decide +kernel
theorem dX10_termOf_165 : decode cX10_termOf 165 = .ok (.goto (-159), 3) := by decide +kernel
theorem dX10_termOf_168 : decode cX10_termOf 168 = .ok (.lload_n 2, 1) := by decide +kernel
theorem dX10_termOf_169 : decode cX10_termOf 169 = .ok (.lreturn, 1) := by decide +kernel
theorem dX10_partOf_0 : decode cX10_partOf 0 = .ok (.aload_n 0, 1) := by decide +kernel
theorem dX10_partOf_1 : decode cX10_partOf 1 = .ok (.bipush 91, 2) := by decide +kernel
theorem dX10_partOf_3 : decode cX10_partOf 3 = .ok (.invokestatic 236, 3) := by decide +kernel
theorem dX10_partOf_6 : decode cX10_partOf 6 = .ok (.invokevirtual 301, 3) := by decide +kernel
theorem dX10_partOf_9 : decode cX10_partOf 9 = .ok (.ifCond .eq 21, 3) := by decide +kernel
theorem dX10_partOf_12 : decode cX10_partOf 12 = .ok (.aload_n 0, 1) := by decide +kernel
theorem dX10_partOf_13 : decode cX10_partOf 13 = .ok (.iload_n 1, 1) := by decide +kernel
theorem dX10_partOf_14 : decode cX10_partOf 14 = .ok (.invokevirtual 304, 3) := by decide +kernel
theorem dX10_partOf_17 : decode cX10_partOf 17 = .ok (.lstore_n 2, 1) := by decide +kernel
theorem dX10_partOf_18 : decode cX10_partOf 18 = .ok (.aload_n 0, 1) := by decide +kernel
theorem dX10_partOf_19 : decode cX10_partOf 19 = .ok (.dup, 1) := by decide +kernel
theorem dX10_partOf_20 : decode cX10_partOf 20 = .ok (.getfield 277, 3) := by decide +kernel
theorem dX10_partOf_23 : decode cX10_partOf 23 = .ok (.iconst 1, 1) := by decide +kernel
theorem dX10_partOf_24 : decode cX10_partOf 24 = .ok (.iadd, 1) := by decide +kernel
theorem dX10_partOf_25 : decode cX10_partOf 25 = .ok (.putfield 277, 3) := by decide +kernel
theorem dX10_partOf_28 : decode cX10_partOf 28 = .ok (.lload_n 2, 1) := by decide +kernel
theorem dX10_partOf_29 : decode cX10_partOf 29 = .ok (.lreturn, 1) := by decide +kernel
theorem dX10_partOf_30 : decode cX10_partOf 30 = .ok (.aload_n 0, 1) := by decide +kernel
theorem dX10_partOf_31 : decode cX10_partOf 31 = .ok (.aload_n 0, 1) := by decide +kernel
theorem dX10_partOf_32 : decode cX10_partOf 32 = .ok (.getfield 277, 3) := by decide +kernel
theorem dX10_partOf_35 : decode cX10_partOf 35 = .ok (.invokevirtual 280, 3) := by decide +kernel
theorem dX10_partOf_38 : decode cX10_partOf 38 = .ok (.istore_n 2, 1) := by decide +kernel
theorem dX10_partOf_39 : decode cX10_partOf 39 = .ok (.iconst 0, 1) := by decide +kernel
theorem dX10_partOf_40 : decode cX10_partOf 40 = .ok (.istore_n 3, 1) := by decide +kernel
theorem dX10_partOf_41 : decode cX10_partOf 41 = .ok (.aload_n 0, 1) := by decide +kernel
theorem dX10_partOf_42 : decode cX10_partOf 42 = .ok (.dup, 1) := by decide +kernel
theorem dX10_partOf_43 : decode cX10_partOf 43 = .ok (.getfield 277, 3) := by decide +kernel
theorem dX10_partOf_46 : decode cX10_partOf 46 = .ok (.iconst 1, 1) := by decide +kernel
theorem dX10_partOf_47 : decode cX10_partOf 47 = .ok (.iadd, 1) := by decide +kernel
theorem dX10_partOf_48 : decode cX10_partOf 48 = .ok (.putfield 277, 3) := by decide +kernel
theorem dX10_partOf_51 : decode cX10_partOf 51 = .ok (.aload_n 0, 1) := by decide +kernel
theorem dX10_partOf_52 : decode cX10_partOf 52 = .ok (.getfield 307, 3) := by decide +kernel
theorem dX10_partOf_55 : decode cX10_partOf 55 = .ok (.ifCond .eq 45, 3) := by decide +kernel
theorem dX10_partOf_58 : decode cX10_partOf 58 = .ok (.iload_n 2, 1) := by decide +kernel
theorem dX10_partOf_59 : decode cX10_partOf 59 = .ok (.bipush 13, 2) := by decide +kernel
theorem dX10_partOf_61 : decode cX10_partOf 61 = .ok (.if_icmp .eq 15, 3) := by decide +kernel
theorem dX10_partOf_64 : decode cX10_partOf 64 = .ok (.iload_n 2, 1) := by decide +kernel
theorem dX10_partOf_65 : decode cX10_partOf 65 = .ok (.bipush 14, 2) := by decide +kernel
theorem dX10_partOf_67 : decode cX10_partOf 67 = .ok (.if_icmp .eq 9, 3) := by decide +kernel
theorem dX10_partOf_70 : decode cX10_partOf 70 = .ok (.iload_n 2, 1) := by decide +kernel
theorem dX10_partOf_71 : decode cX10_partOf 71 = .ok (.bipush 19, 2) := by decide +kernel
theorem dX10_partOf_73 : decode cX10_partOf 73 = .ok (.if_icmp .ne 27, 3) := by decide +kernel
theorem dX10_partOf_76 : decode cX10_partOf 76 = .ok (.aload_n 0, 1) := by decide +kernel
theorem dX10_partOf_77 : decode cX10_partOf 77 = .ok (.getfield 28, 3) := by decide +kernel
theorem dX10_partOf_80 : decode cX10_partOf 80 = .ok (.sipush 2860, 3) := by decide +kernel
theorem dX10_partOf_83 : decode cX10_partOf 83 = .ok (.aload_n 0, 1) := by decide +kernel
theorem dX10_partOf_84 : decode cX10_partOf 84 = .ok (.getfield 277, 3) := by decide +kernel
theorem dX10_partOf_87 : decode cX10_partOf 87 = .ok (.iadd, 1) := by decide +kernel
theorem dX10_partOf_88 : decode cX10_partOf 88 = .ok (.iaload, 1) := by decide +kernel
theorem dX10_partOf_89 : decode cX10_partOf 89 = .ok (.istore_n 3, 1) := by decide +kernel
theorem dX10_partOf_90 : decode cX10_partOf 90 = .ok (.aload_n 0, 1) := by decide +kernel
theorem dX10_partOf_91 : decode cX10_partOf 91 = .ok (.dup, 1) := by decide +kernel
theorem dX10_partOf_92 : decode cX10_partOf 92 = .ok (.getfield 277, 3) := by decide +kernel
theorem dX10_partOf_95 : decode cX10_partOf 95 = .ok (.iconst 1, 1) := by decide +kernel
theorem dX10_partOf_96 : decode cX10_partOf 96 = .ok (.iadd, 1) := by decide +kernel
theorem dX10_partOf_97 : decode cX10_partOf 97 = .ok (.putfield 277, 3) := by decide +kernel
theorem dX10_partOf_100 : decode cX10_partOf 100 = .ok (.iload_n 1, 1) := by decide +kernel
theorem dX10_partOf_101 : decode cX10_partOf 101 = .ok (.ifCond .eq 10, 3) := by decide +kernel
theorem dX10_partOf_104 : decode cX10_partOf 104 = .ok (.aload_n 0, 1) := by decide +kernel
theorem dX10_partOf_105 : decode cX10_partOf 105 = .ok (.getfield 287, 3) := by decide +kernel
theorem dX10_partOf_108 : decode cX10_partOf 108 = .ok (.ifCond .eq 5, 3) := by decide +kernel
