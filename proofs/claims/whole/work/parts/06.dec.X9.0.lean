theorem dX9_init_0 : decode cX9_init 0 = .ok (.aload_n 0, 1) := by decide +kernel
theorem dX9_init_1 : decode cX9_init 1 = .ok (.invokespecial 3, 3) := by decide +kernel
theorem dX9_init_4 : decode cX9_init 4 = .ok (.aload_n 0, 1) := by decide +kernel
theorem dX9_init_5 : decode cX9_init 5 = .ok (.new 9, 3) := by decide +kernel
theorem dX9_init_8 : decode cX9_init 8 = .ok (.dup, 1) := by decide +kernel
theorem dX9_init_9 : decode cX9_init 9 = .ok (.invokespecial 11, 3) := by decide +kernel
theorem dX9_init_12 : decode cX9_init 12 = .ok (.putfield 12, 3) := by decide +kernel
theorem dX9_init_15 : decode cX9_init 15 = .ok (.aload_n 0, 1) := by decide +kernel
theorem dX9_init_16 : decode cX9_init 16 = .ok (.iconst 2, 1) := by decide +kernel
theorem dX9_init_17 : decode cX9_init 17 = .ok (.anewarray 9, 3) := by decide +kernel
theorem dX9_init_20 : decode cX9_init 20 = .ok (.putfield 16, 3) := by decide +kernel
theorem dX9_init_23 : decode cX9_init 23 = .ok (.aload_n 0, 1) := by decide +kernel
theorem dX9_init_24 : decode cX9_init 24 = .ok (.new 20, 3) := by decide +kernel
theorem dX9_init_27 : decode cX9_init 27 = .ok (.dup, 1) := by decide +kernel
theorem dX9_init_28 : decode cX9_init 28 = .ok (.invokespecial 22, 3) := by decide +kernel
theorem dX9_init_31 : decode cX9_init 31 = .ok (.putfield 23, 3) := by decide +kernel
theorem dX9_init_34 : decode cX9_init 34 = .ok (.aload_n 0, 1) := by decide +kernel
theorem dX9_init_35 : decode cX9_init 35 = .ok (.new 27, 3) := by decide +kernel
theorem dX9_init_38 : decode cX9_init 38 = .ok (.dup, 1) := by decide +kernel
theorem dX9_init_39 : decode cX9_init 39 = .ok (.invokespecial 29, 3) := by decide +kernel
theorem dX9_init_42 : decode cX9_init 42 = .ok (.putfield 30, 3) := by decide +kernel
theorem dX9_init_45 : decode cX9_init 45 = .ok (.aload_n 0, 1) := by decide +kernel
theorem dX9_init_46 : decode cX9_init 46 = .ok (.new 34, 3) := by decide +kernel
theorem dX9_init_49 : decode cX9_init 49 = .ok (.dup, 1) := by decide +kernel
theorem dX9_init_50 : decode cX9_init 50 = .ok (.invokespecial 36, 3) := by decide +kernel
theorem dX9_init_53 : decode cX9_init 53 = .ok (.putfield 37, 3) := by decide +kernel
theorem dX9_init_56 : decode cX9_init 56 = .ok (.aload_n 0, 1) := by decide +kernel
theorem dX9_init_57 : decode cX9_init 57 = .ok (.new 41, 3) := by decide +kernel
theorem dX9_init_60 : decode cX9_init 60 = .ok (.dup, 1) := by decide +kernel
theorem dX9_init_61 : decode cX9_init 61 = .ok (.invokespecial 43, 3) := by decide +kernel
theorem dX9_init_64 : decode cX9_init 64 = .ok (.putfield 44, 3) := by decide +kernel
theorem dX9_init_67 : decode cX9_init 67 = .ok (.aload_n 0, 1) := by decide +kernel
theorem dX9_init_68 : decode cX9_init 68 = .ok (.iconst 0, 1) := by decide +kernel
theorem dX9_init_69 : decode cX9_init 69 = .ok (.putfield 48, 3) := by decide +kernel
theorem dX9_init_72 : decode cX9_init 72 = .ok (.aload_n 0, 1) := by decide +kernel
theorem dX9_init_73 : decode cX9_init 73 = .ok (.sipush 400, 3) := by decide +kernel
theorem dX9_init_76 : decode cX9_init 76 = .ok (.newarray .int, 2) := by decide +kernel
theorem dX9_init_78 : decode cX9_init 78 = .ok (.putfield 52, 3) := by decide +kernel
theorem dX9_init_81 : decode cX9_init 81 = .ok (.aload_n 0, 1) := by decide +kernel
theorem dX9_init_82 : decode cX9_init 82 = .ok (.iconst 0, 1) := by decide +kernel
theorem dX9_init_83 : decode cX9_init 83 = .ok (.putfield 56, 3) := by decide +kernel
theorem dX9_init_86 : decode cX9_init 86 = .ok (.aload_n 0, 1) := by decide +kernel
theorem dX9_init_87 : decode cX9_init 87 = .ok (.new 59, 3) := by decide +kernel
theorem dX9_init_90 : decode cX9_init 90 = .ok (.dup, 1) := by decide +kernel
theorem dX9_init_91 : decode cX9_init 91 = .ok (.invokespecial 61, 3) := by decide +kernel
theorem dX9_init_94 : decode cX9_init 94 = .ok (.putfield 62, 3) := by decide +kernel
theorem dX9_init_97 : decode cX9_init 97 = .ok (.aload_n 0, 1) := by decide +kernel
theorem dX9_init_98 : decode cX9_init 98 = .ok (.new 66, 3) := by decide +kernel
theorem dX9_init_101 : decode cX9_init 101 = .ok (.dup, 1) := by decide +kernel
theorem dX9_init_102 : decode cX9_init 102 = .ok (.invokespecial 68, 3) := by decide +kernel
theorem dX9_init_105 : decode cX9_init 105 = .ok (.putfield 69, 3) := by decide +kernel
theorem dX9_init_108 : decode cX9_init 108 = .ok (.aload_n 0, 1) := by decide +kernel
theorem dX9_init_109 : decode cX9_init 109 = .ok (.new 41, 3) := by decide +kernel
theorem dX9_init_112 : decode cX9_init 112 = .ok (.dup, 1) := by decide +kernel
theorem dX9_init_113 : decode cX9_init 113 = .ok (.invokespecial 43, 3) := by decide +kernel
theorem dX9_init_116 : decode cX9_init 116 = .ok (.putfield 73, 3) := by decide +kernel
theorem dX9_init_119 : decode cX9_init 119 = .ok (.aload_n 0, 1) := by decide +kernel
theorem dX9_init_120 : decode cX9_init 120 = .ok (.bipush 20, 2) := by decide +kernel
theorem dX9_init_122 : decode cX9_init 122 = .ok (.newarray .long, 2) := by decide +kernel
theorem dX9_init_124 : decode cX9_init 124 = .ok (.putfield 76, 3) := by decide +kernel
theorem dX9_init_127 : decode cX9_init 127 = .ok (.aload_n 0, 1) := by decide +kernel
theorem dX9_init_128 : decode cX9_init 128 = .ok (.iconst 5, 1) := by decide +kernel
theorem dX9_init_129 : decode cX9_init 129 = .ok (.newarray .int, 2) := by decide +kernel
theorem dX9_init_131 : decode cX9_init 131 = .ok (.putfield 80, 3) := by decide +kernel
theorem dX9_init_134 : decode cX9_init 134 = .ok (.aload_n 0, 1) := by decide +kernel
theorem dX9_init_135 : decode cX9_init 135 = .ok (.iconst 0, 1) := by decide +kernel
theorem dX9_init_136 : decode cX9_init 136 = .ok (.putfield 83, 3) := by decide +kernel
theorem dX9_init_139 : decode cX9_init 139 = .ok (.aload_n 0, 1) := by decide +kernel
theorem dX9_init_140 : decode cX9_init 140 = .ok (.iconst 0, 1) := by decide +kernel
theorem dX9_init_141 : decode cX9_init 141 = .ok (.putfield 86, 3) := by decide +kernel
theorem dX9_init_144 : decode cX9_init 144 = .ok (.aload_n 0, 1) := by decide +kernel
theorem dX9_init_145 : decode cX9_init 145 = .ok (.iconst (-1), 1) := by decide +kernel
theorem dX9_init_146 : decode cX9_init 146 = .ok (.putfield 89, 3) := by decide +kernel
theorem dX9_init_149 : decode cX9_init 149 = .ok (.aload_n 0, 1) := by decide +kernel
theorem dX9_init_150 : decode cX9_init 150 = .ok (.iconst (-1), 1) := by decide +kernel
theorem dX9_init_151 : decode cX9_init 151 = .ok (.putfield 92, 3) := by decide +kernel
theorem dX9_init_154 : decode cX9_init 154 = .ok (.return_, 1) := by decide +kernel
theorem dX9_hedgehog_0 : decode cX9_hedgehog 0 = .ok (.iload_n 1, 1) := by decide +kernel
theorem dX9_hedgehog_1 : decode cX9_hedgehog 1 = .ok (.i2l, 1) := by decide +kernel
theorem dX9_hedgehog_2 : decode cX9_hedgehog 2 = .ok (.bipush 9, 2) := by decide +kernel
theorem dX9_hedgehog_4 : decode cX9_hedgehog 4 = .ok (.invokestatic 95, 3) := by decide +kernel
theorem dX9_hedgehog_7 : decode cX9_hedgehog 7 = .ok (.ifCond .eq 13, 3) := by decide +kernel
theorem dX9_hedgehog_10 : decode cX9_hedgehog 10 = .ok (.iload_n 2, 1) := by decide +kernel
theorem dX9_hedgehog_11 : decode cX9_hedgehog 11 = .ok (.i2l, 1) := by decide +kernel
theorem dX9_hedgehog_12 : decode cX9_hedgehog 12 = .ok (.bipush 9, 2) := by decide +kernel
theorem dX9_hedgehog_14 : decode cX9_hedgehog 14 = .ok (.invokestatic 95, 3) := by decide +kernel
theorem dX9_hedgehog_17 : decode cX9_hedgehog 17 = .ok (.ifCond .ne 9, 3) := by decide +kernel
theorem dX9_hedgehog_20 : decode cX9_hedgehog 20 = .ok (.aload_n 0, 1) := by decide +kernel
theorem dX9_hedgehog_21 : decode cX9_hedgehog 21 = .ok (.iconst (-1), 1) := by decide +kernel
theorem dX9_hedgehog_22 : decode cX9_hedgehog 22 = .ok (.invokevirtual 99, 3) := by decide +kernel
theorem dX9_hedgehog_25 : decode cX9_hedgehog 25 = .ok (.ireturn, 1) := by decide +kernel
theorem dX9_hedgehog_26 : decode cX9_hedgehog 26 = .ok (.aload_n 0, 1) := by decide +kernel
theorem dX9_hedgehog_27 : decode cX9_hedgehog 27 = .ok (.getfield 12, 3) := by decide +kernel
theorem dX9_hedgehog_30 : decode cX9_hedgehog 30 = .ok (.getfield 103, 3) := by decide +kernel
theorem dX9_hedgehog_33 : decode cX9_hedgehog 33 = .ok (.bipush 8, 2) := by decide +kernel
theorem dX9_hedgehog_35 : decode cX9_hedgehog 35 = .ok (.if_icmp .lt 10, 3) := by decide +kernel
theorem dX9_hedgehog_38 : decode cX9_hedgehog 38 = .ok (.aload_n 0, 1) := by decide +kernel
theorem dX9_hedgehog_39 : decode cX9_hedgehog 39 = .ok (.bipush (-5), 2) := by decide +kernel
theorem dX9_hedgehog_41 : decode cX9_hedgehog 41 = .ok (.invokevirtual 99, 3) := by decide +kernel
theorem dX9_hedgehog_44 : decode cX9_hedgehog 44 = .ok (.ireturn, 1) := by decide +kernel
theorem dX9_hedgehog_45 : decode cX9_hedgehog 45 = .ok (.aload_n 0, 1) := by decide +kernel
theorem dX9_hedgehog_46 : decode cX9_hedgehog 46 = .ok (.getfield 23, 3) := by decide +kernel
theorem dX9_hedgehog_49 : decode cX9_hedgehog 49 = .ok (.invokevirtual 106, 3) := by decide +kernel
theorem dX9_hedgehog_52 : decode cX9_hedgehog 52 = .ok (.aload_n 0, 1) := by decide +kernel
theorem dX9_hedgehog_53 : decode cX9_hedgehog 53 = .ok (.aload_n 0, 1) := by decide +kernel
theorem dX9_hedgehog_54 : decode cX9_hedgehog 54 = .ok (.getfield 12, 3) := by decide +kernel
theorem dX9_hedgehog_57 : decode cX9_hedgehog 57 = .ok (.iload_n 1, 1) := by decide +kernel
theorem dX9_hedgehog_58 : decode cX9_hedgehog 58 = .ok (.iload_n 2, 1) := by decide +kernel
theorem dX9_hedgehog_59 : decode cX9_hedgehog 59 = .ok (.iconst 0, 1) := by decide +kernel
theorem dX9_hedgehog_60 : decode cX9_hedgehog 60 = .ok (.invokevirtual 109, 3) := by decide +kernel
theorem dX9_hedgehog_63 : decode cX9_hedgehog 63 = .ok (.invokevirtual 113, 3) := by decide +kernel
theorem dX9_hedgehog_66 : decode cX9_hedgehog 66 = .ok (.ireturn, 1) := by decide +kernel
theorem dX9_watch_0 : decode cX9_watch 0 = .ok (.iload_n 3, 1) := by decide +kernel
theorem dX9_watch_1 : decode cX9_watch 1 = .ok (.i2l, 1) := by decide +kernel
theorem dX9_watch_2 : decode cX9_watch 2 = .ok (.iconst 1, 1) := by decide +kernel
theorem dX9_watch_3 : decode cX9_watch 3 = .ok (.invokestatic 95, 3) := by decide +kernel
theorem dX9_watch_6 : decode cX9_watch 6 = .ok (.ifCond .eq 8, 3) := by decide +kernel
theorem dX9_watch_9 : decode cX9_watch 9 = .ok (.iload_n 1, 1) := by decide +kernel
theorem dX9_watch_10 : decode cX9_watch 10 = .ok (.iload_n 2, 1) := by decide +kernel
theorem dX9_watch_11 : decode cX9_watch 11 = .ok (.if_icmp .ne 9, 3) := by decide +kernel
theorem dX9_watch_14 : decode cX9_watch 14 = .ok (.aload_n 0, 1) := by decide +kernel
theorem dX9_watch_15 : decode cX9_watch 15 = .ok (.iconst (-1), 1) := by decide +kernel
theorem dX9_watch_16 : decode cX9_watch 16 = .ok (.invokevirtual 99, 3) := by decide +kernel
theorem dX9_watch_19 : decode cX9_watch 19 = .ok (.ireturn, 1) := by decide +kernel
theorem dX9_watch_20 : decode cX9_watch 20 = .ok (.aload_n 0, 1) := by decide +kernel
theorem dX9_watch_21 : decode cX9_watch 21 = .ok (.getfield 12, 3) := by decide +kernel
theorem dX9_watch_24 : decode cX9_watch 24 = .ok (.iload_n 1, 1) := by decide +kernel
theorem dX9_watch_25 : decode cX9_watch 25 = .ok (.i2l, 1) := by decide +kernel
theorem dX9_watch_26 : decode cX9_watch 26 = .ok (.invokevirtual 116, 3) := by decide +kernel
theorem dX9_watch_29 : decode cX9_watch 29 = .ok (.ifCond .eq 15, 3) := by decide +kernel
theorem dX9_watch_32 : decode cX9_watch 32 = .ok (.aload_n 0, 1) := by decide +kernel
theorem dX9_watch_33 : decode cX9_watch 33 = .ok (.getfield 12, 3) := by decide +kernel
theorem dX9_watch_36 : decode cX9_watch 36 = .ok (.iload_n 2, 1) := by decide +kernel
theorem dX9_watch_37 : decode cX9_watch 37 = .ok (.i2l, 1) := by decide +kernel
theorem dX9_watch_38 : decode cX9_watch 38 = .ok (.invokevirtual 116, 3) := by decide +kernel
theorem dX9_watch_41 : decode cX9_watch 41 = .ok (.ifCond .ne 10, 3) := by decide +kernel
theorem dX9_watch_44 : decode cX9_watch 44 = .ok (.aload_n 0, 1) := by decide +kernel
theorem dX9_watch_45 : decode cX9_watch 45 = .ok (.bipush (-2), 2) := by decide +kernel
theorem dX9_watch_47 : decode cX9_watch 47 = .ok (.invokevirtual 99, 3) := by decide +kernel
theorem dX9_watch_50 : decode cX9_watch 50 = .ok (.ireturn, 1) := by decide +kernel
theorem dX9_watch_51 : decode cX9_watch 51 = .ok (.aload_n 0, 1) := by decide +kernel
theorem dX9_watch_52 : decode cX9_watch 52 = .ok (.aload_n 0, 1) := by decide +kernel
theorem dX9_watch_53 : decode cX9_watch 53 = .ok (.getfield 12, 3) := by decide +kernel
theorem dX9_watch_56 : decode cX9_watch 56 = .ok (.iload_n 1, 1) := by decide +kernel
theorem dX9_watch_57 : decode cX9_watch 57 = .ok (.iload_n 2, 1) := by decide +kernel
theorem dX9_watch_58 : decode cX9_watch 58 = .ok (.iload_n 3, 1) := by decide +kernel
theorem dX9_watch_59 : decode cX9_watch 59 = .ok (.invokevirtual 120, 3) := by decide +kernel
theorem dX9_watch_62 : decode cX9_watch 62 = .ok (.invokevirtual 113, 3) := by decide +kernel
theorem dX9_watch_65 : decode cX9_watch 65 = .ok (.ireturn, 1) := by decide +kernel
theorem dX9_of_0 : decode cX9_of 0 = .ok (.aload_n 0, 1) := by decide +kernel
theorem dX9_of_1 : decode cX9_of 1 = .ok (.getfield 12, 3) := by decide +kernel
theorem dX9_of_4 : decode cX9_of 4 = .ok (.iload_n 1, 1) := by decide +kernel
theorem dX9_of_5 : decode cX9_of 5 = .ok (.i2l, 1) := by decide +kernel
theorem dX9_of_6 : decode cX9_of 6 = .ok (.invokevirtual 116, 3) := by decide +kernel
theorem dX9_of_9 : decode cX9_of 9 = .ok (.ifCond .ne 5, 3) := by decide +kernel
theorem dX9_of_12 : decode cX9_of 12 = .ok (.iconst (-1), 1) := by decide +kernel
theorem dX9_of_13 : decode cX9_of 13 = .ok (.ireturn, 1) := by decide +kernel
theorem dX9_of_14 : decode cX9_of 14 = .ok (.aload_n 0, 1) := by decide +kernel
theorem dX9_of_15 : decode cX9_of 15 = .ok (.getfield 12, 3) := by decide +kernel
theorem dX9_of_18 : decode cX9_of 18 = .ok (.getfield 123, 3) := by decide +kernel
theorem dX9_of_21 : decode cX9_of 21 = .ok (.astore_n 3, 1) := by decide +kernel
theorem dX9_of_22 : decode cX9_of 22 = .ok (.iload_n 2, 1) := by decide +kernel
theorem dX9_of_23 : decode cX9_of 23 = .ok (.tableswitch 81 0 4 #[33, 40, 50, 60, 74], 33) := by decide +kernel
theorem dX9_of_56 : decode cX9_of 56 = .ok (.aload_n 3, 1) := by decide +kernel
theorem dX9_of_57 : decode cX9_of 57 = .ok (.getfield 126, 3) := by decide +kernel
theorem dX9_of_60 : decode cX9_of 60 = .ok (.iload_n 1, 1) := by decide +kernel
theorem dX9_of_61 : decode cX9_of 61 = .ok (.iaload, 1) := by decide +kernel
theorem dX9_of_62 : decode cX9_of 62 = .ok (.ireturn, 1) := by decide +kernel
theorem dX9_of_63 : decode cX9_of 63 = .ok (.aload_n 0, 1) := by decide +kernel
theorem dX9_of_64 : decode cX9_of 64 = .ok (.getfield 12, 3) := by decide +kernel
theorem dX9_of_67 : decode cX9_of 67 = .ok (.getfield 129, 3) := by decide +kernel
theorem dX9_of_70 : decode cX9_of 70 = .ok (.iload_n 1, 1) := by decide +kernel
theorem dX9_of_71 : decode cX9_of 71 = .ok (.iaload, 1) := by decide +kernel
theorem dX9_of_72 : decode cX9_of 72 = .ok (.ireturn, 1) := by decide +kernel
theorem dX9_of_73 : decode cX9_of 73 = .ok (.aload_n 0, 1) := by decide +kernel
theorem dX9_of_74 : decode cX9_of 74 = .ok (.getfield 12, 3) := by decide +kernel
theorem dX9_of_77 : decode cX9_of 77 = .ok (.getfield 132, 3) := by decide +kernel
theorem dX9_of_80 : decode cX9_of 80 = .ok (.iload_n 1, 1) := by decide +kernel
theorem dX9_of_81 : decode cX9_of 81 = .ok (.iaload, 1) := by decide +kernel
theorem dX9_of_82 : decode cX9_of 82 = .ok (.ireturn, 1) := by decide +kernel
theorem dX9_of_83 : decode cX9_of 83 = .ok (.aload_n 3, 1) := by decide +kernel
theorem dX9_of_84 : decode cX9_of 84 = .ok (.iload_n 1, 1) := by decide +kernel
theorem dX9_of_85 : decode cX9_of 85 = .ok (.invokevirtual 135, 3) := by decide +kernel
theorem dX9_of_88 : decode cX9_of 88 = .ok (.ifCond .eq 7, 3) := by decide +kernel
theorem dX9_of_91 : decode cX9_of 91 = .ok (.iconst 1, 1) := by decide +kernel
theorem dX9_of_92 : decode cX9_of 92 = .ok (.goto 4, 3) := by decide +kernel
theorem dX9_of_95 : decode cX9_of 95 = .ok (.iconst 0, 1) := by decide +kernel
theorem dX9_of_96 : decode cX9_of 96 = .ok (.ireturn, 1) := by decide +kernel
theorem dX9_of_97 : decode cX9_of 97 = .ok (.aload_n 3, 1) := by decide +kernel
theorem dX9_of_98 : decode cX9_of 98 = .ok (.getfield 139, 3) := by decide +kernel
theorem dX9_of_101 : decode cX9_of 101 = .ok (.iload_n 1, 1) := by decide +kernel
theorem dX9_of_102 : decode cX9_of 102 = .ok (.iaload, 1) := by decide +kernel
theorem dX9_of_103 : decode cX9_of 103 = .ok (.ireturn, 1) := by decide +kernel
theorem dX9_of_104 : decode cX9_of 104 = .ok (.aload_n 0, 1) := by decide +kernel
theorem dX9_of_105 : decode cX9_of 105 = .ok (.getfield 30, 3) := by decide +kernel
theorem dX9_of_108 : decode cX9_of 108 = .ok (.aload_n 0, 1) := by decide +kernel
theorem dX9_of_109 : decode cX9_of 109 = .ok (.getfield 12, 3) := by decide +kernel
theorem dX9_of_112 : decode cX9_of 112 = .ok (.iload_n 1, 1) := by decide +kernel
theorem dX9_of_113 : decode cX9_of 113 = .ok (.iload_n 2, 1) := by decide +kernel
theorem dX9_of_114 : decode cX9_of 114 = .ok (.invokevirtual 142, 3) := by decide +kernel
theorem dX9_of_117 : decode cX9_of 117 = .ok (.ireturn, 1) := by decide +kernel
theorem dX9_terms_0 : decode cX9_terms 0 = .ok (.iload_n 1, 1) := by decide +kernel
theorem dX9_terms_1 : decode cX9_terms 1 = .ok (.i2l, 1) := by decide +kernel
theorem dX9_terms_2 : decode cX9_terms 2 = .ok (.iconst 3, 1) := by decide +kernel
theorem dX9_terms_3 : decode cX9_terms 3 = .ok (.invokestatic 95, 3) := by decide +kernel
theorem dX9_terms_6 : decode cX9_terms 6 = .ok (.ifCond .eq 16, 3) := by decide +kernel
theorem dX9_terms_9 : decode cX9_terms 9 = .ok (.iload_n 2, 1) := by decide +kernel
theorem dX9_terms_10 : decode cX9_terms 10 = .ok (.i2l, 1) := by decide +kernel
theorem dX9_terms_11 : decode cX9_terms 11 = .ok (.getstatic 146, 3) := by decide +kernel
theorem dX9_terms_14 : decode cX9_terms 14 = .ok (.iload_n 1, 1) := by decide +kernel
theorem dX9_terms_15 : decode cX9_terms 15 = .ok (.iaload, 1) := by decide +kernel
theorem dX9_terms_16 : decode cX9_terms 16 = .ok (.invokestatic 95, 3) := by decide +kernel
theorem dX9_terms_19 : decode cX9_terms 19 = .ok (.ifCond .ne 9, 3) := by decide +kernel
theorem dX9_terms_22 : decode cX9_terms 22 = .ok (.aload_n 0, 1) := by decide +kernel
theorem dX9_terms_23 : decode cX9_terms 23 = .ok (.iconst (-1), 1) := by decide +kernel
theorem dX9_terms_24 : decode cX9_terms 24 = .ok (.invokevirtual 99, 3) := by decide +kernel
theorem dX9_terms_27 : decode cX9_terms 27 = .ok (.ireturn, 1) := by decide +kernel
theorem dX9_terms_28 : decode cX9_terms 28 = .ok (.aload_n 0, 1) := by decide +kernel
theorem dX9_terms_29 : decode cX9_terms 29 = .ok (.getfield 12, 3) := by decide +kernel
theorem dX9_terms_32 : decode cX9_terms 32 = .ok (.iload_n 1, 1) := by decide +kernel
theorem dX9_terms_33 : decode cX9_terms 33 = .ok (.invokevirtual 149, 3) := by decide +kernel
theorem dX9_terms_36 : decode cX9_terms 36 = .ok (.istore_n 3, 1) := by decide +kernel
theorem dX9_terms_37 : decode cX9_terms 37 = .ok (.aload_n 0, 1) := by decide +kernel
theorem dX9_terms_38 : decode cX9_terms 38 = .ok (.getfield 12, 3) := by decide +kernel
theorem dX9_terms_41 : decode cX9_terms 41 = .ok (.iload_n 1, 1) := by decide +kernel
theorem dX9_terms_42 : decode cX9_terms 42 = .ok (.iload_n 2, 1) := by decide +kernel
theorem dX9_terms_43 : decode cX9_terms 43 = .ok (.invokevirtual 152, 3) := by decide +kernel
theorem dX9_terms_46 : decode cX9_terms 46 = .ok (.aload_n 0, 1) := by decide +kernel
theorem dX9_terms_47 : decode cX9_terms 47 = .ok (.getfield 23, 3) := by decide +kernel
theorem dX9_terms_50 : decode cX9_terms 50 = .ok (.invokevirtual 106, 3) := by decide +kernel
theorem dX9_terms_53 : decode cX9_terms 53 = .ok (.aload_n 0, 1) := by decide +kernel
theorem dX9_terms_54 : decode cX9_terms 54 = .ok (.iload_n 3, 1) := by decide +kernel
theorem dX9_terms_55 : decode cX9_terms 55 = .ok (.invokevirtual 113, 3) := by decide +kernel
theorem dX9_terms_58 : decode cX9_terms 58 = .ok (.ireturn, 1) := by decide +kernel
theorem dX9_feed_0 : decode cX9_feed 0 = .ok (.aload_n 0, 1) := by decide +kernel
theorem dX9_feed_1 : decode cX9_feed 1 = .ok (.getfield 56, 3) := by decide +kernel
theorem dX9_feed_4 : decode cX9_feed 4 = .ok (.bipush 20, 2) := by decide +kernel
theorem dX9_feed_6 : decode cX9_feed 6 = .ok (.iadd, 1) := by decide +kernel
theorem dX9_feed_7 : decode cX9_feed 7 = .ok (.sipush 400, 3) := by decide +kernel
theorem dX9_feed_10 : decode cX9_feed 10 = .ok (.if_icmp .le 5, 3) := by decide +kernel
theorem dX9_feed_13 : decode cX9_feed 13 = .ok (.iconst (-1), 1) := by decide +kernel
theorem dX9_feed_14 : decode cX9_feed 14 = .ok (.ireturn, 1) := by decide +kernel
theorem dX9_feed_15 : decode cX9_feed 15 = .ok (.aload_n 0, 1) := by decide +kernel
theorem dX9_feed_16 : decode cX9_feed 16 = .ok (.iload_n 1, 1) := by decide +kernel
theorem dX9_feed_17 : decode cX9_feed 17 = .ok (.invokevirtual 156, 3) := by decide +kernel
theorem dX9_feed_20 : decode cX9_feed 20 = .ok (.aload_n 0, 1) := by decide +kernel
theorem dX9_feed_21 : decode cX9_feed 21 = .ok (.iload_n 2, 1) := by decide +kernel
theorem dX9_feed_22 : decode cX9_feed 22 = .ok (.invokevirtual 156, 3) := by decide +kernel
theorem dX9_feed_25 : decode cX9_feed 25 = .ok (.aload_n 0, 1) := by decide +kernel
theorem dX9_feed_26 : decode cX9_feed 26 = .ok (.iload_n 3, 1) := by decide +kernel
theorem dX9_feed_27 : decode cX9_feed 27 = .ok (.invokevirtual 156, 3) := by decide +kernel
theorem dX9_feed_30 : decode cX9_feed 30 = .ok (.aload_n 0, 1) := by decide +kernel
theorem dX9_feed_31 : decode cX9_feed 31 = .ok (.iload 4, 2) := by decide +kernel
theorem dX9_feed_33 : decode cX9_feed 33 = .ok (.invokevirtual 156, 3) := by decide +kernel
theorem dX9_feed_36 : decode cX9_feed 36 = .ok (.aload_n 0, 1) := by decide +kernel
theorem dX9_feed_37 : decode cX9_feed 37 = .ok (.iload 5, 2) := by decide +kernel
theorem dX9_feed_39 : decode cX9_feed 39 = .ok (.invokevirtual 156, 3) := by decide +kernel
theorem dX9_feed_42 : decode cX9_feed 42 = .ok (.aload_n 0, 1) := by decide +kernel
theorem dX9_feed_43 : decode cX9_feed 43 = .ok (.getfield 56, 3) := by decide +kernel
theorem dX9_feed_46 : decode cX9_feed 46 = .ok (.ireturn, 1) := by decide +kernel
theorem dX9_end_0 : decode cX9_end 0 = .ok (.iload_n 1, 1) := by decide +kernel
theorem dX9_end_1 : decode cX9_end 1 = .ok (.i2l, 1) := by decide +kernel
theorem dX9_end_2 : decode cX9_end 2 = .ok (.aload_n 0, 1) := by decide +kernel
theorem dX9_end_3 : decode cX9_end 3 = .ok (.getfield 56, 3) := by decide +kernel
theorem dX9_end_6 : decode cX9_end 6 = .ok (.invokestatic 95, 3) := by decide +kernel
theorem dX9_end_9 : decode cX9_end 9 = .ok (.ifCond .ne 5, 3) := by decide +kernel
theorem dX9_end_12 : decode cX9_end 12 = .ok (.iconst (-1), 1) := by decide +kernel
theorem dX9_end_13 : decode cX9_end 13 = .ok (.ireturn, 1) := by decide +kernel
theorem dX9_end_14 : decode cX9_end 14 = .ok (.aload_n 0, 1) := by decide +kernel
theorem dX9_end_15 : decode cX9_end 15 = .ok (.iload_n 1, 1) := by decide +kernel
theorem dX9_end_16 : decode cX9_end 16 = .ok (.putfield 56, 3) := by decide +kernel
theorem dX9_end_19 : decode cX9_end 19 = .ok (.iload_n 1, 1) := by decide +kernel
theorem dX9_end_20 : decode cX9_end 20 = .ok (.ireturn, 1) := by decide +kernel
theorem dX9_row_0 : decode cX9_row 0 = .ok (.aload_n 0, 1) := by decide +kernel
theorem dX9_row_1 : decode cX9_row 1 = .ok (.getfield 56, 3) := by decide +kernel
theorem dX9_row_4 : decode cX9_row 4 = .ok (.ifCond .ne 10, 3) := by decide +kernel
theorem dX9_row_7 : decode cX9_row 7 = .ok (.aload_n 0, 1) := by decide +kernel
theorem dX9_row_8 : decode cX9_row 8 = .ok (.bipush (-6), 2) := by decide +kernel
theorem dX9_row_10 : decode cX9_row 10 = .ok (.invokevirtual 99, 3) := by decide +kernel
theorem dX9_row_13 : decode cX9_row 13 = .ok (.ireturn, 1) := by decide +kernel
theorem dX9_row_14 : decode cX9_row 14 = .ok (.iconst 0, 1) := by decide +kernel
theorem dX9_row_15 : decode cX9_row 15 = .ok (.istore_n 1, 1) := by decide +kernel
theorem dX9_row_16 : decode cX9_row 16 = .ok (.iconst 0, 1) := by decide +kernel
theorem dX9_row_17 : decode cX9_row 17 = .ok (.istore_n 2, 1) := by decide +kernel
theorem dX9_row_18 : decode cX9_row 18 = .ok (.iconst 0, 1) := by decide +kernel
theorem dX9_row_19 : decode cX9_row 19 = .ok (.istore_n 3, 1) := by decide +kernel
theorem dX9_row_20 : decode cX9_row 20 = .ok (.iload_n 3, 1) := by decide +kernel
theorem dX9_row_21 : decode cX9_row 21 = .ok (.aload_n 0, 1) := by decide +kernel
theorem dX9_row_22 : decode cX9_row 22 = .ok (.getfield 56, 3) := by decide +kernel
theorem dX9_row_25 : decode cX9_row 25 = .ok (.if_icmp .ge 26, 3) := by decide +kernel
theorem dX9_row_28 : decode cX9_row 28 = .ok (.aload_n 0, 1) := by decide +kernel
theorem dX9_row_29 : decode cX9_row 29 = .ok (.iload_n 3, 1) := by decide +kernel
theorem dX9_row_30 : decode cX9_row 30 = .ok (.invokevirtual 160, 3) := by decide +kernel
theorem dX9_row_33 : decode cX9_row 33 = .ok (.ifCond .eq 9, 3) := by decide +kernel
theorem dX9_row_36 : decode cX9_row 36 = .ok (.iinc 1 1, 3) := by decide +kernel
theorem dX9_row_39 : decode cX9_row 39 = .ok (.goto 6, 3) := by decide +kernel
theorem dX9_row_42 : decode cX9_row 42 = .ok (.iinc 2 1, 3) := by decide +kernel
theorem dX9_row_45 : decode cX9_row 45 = .ok (.iinc 3 3, 3) := by decide +kernel
theorem dX9_row_48 : decode cX9_row 48 = .ok (.goto (-28), 3) := by decide +kernel
theorem dX9_row_51 : decode cX9_row 51 = .ok (.aload_n 0, 1) := by decide +kernel
theorem dX9_row_52 : decode cX9_row 52 = .ok (.iconst 0, 1) := by decide +kernel
theorem dX9_row_53 : decode cX9_row 53 = .ok (.putfield 56, 3) := by decide +kernel
theorem dX9_row_56 : decode cX9_row 56 = .ok (.aload_n 0, 1) := by decide +kernel
theorem dX9_row_57 : decode cX9_row 57 = .ok (.iload_n 2, 1) := by decide +kernel
theorem dX9_row_58 : decode cX9_row 58 = .ok (.putfield 86, 3) := by decide +kernel
theorem dX9_row_61 : decode cX9_row 61 = .ok (.aload_n 0, 1) := by decide +kernel
theorem dX9_row_62 : decode cX9_row 62 = .ok (.getfield 23, 3) := by decide +kernel
theorem dX9_row_65 : decode cX9_row 65 = .ok (.invokevirtual 106, 3) := by decide +kernel
theorem dX9_row_68 : decode cX9_row 68 = .ok (.aload_n 0, 1) := by decide +kernel
theorem dX9_row_69 : decode cX9_row 69 = .ok (.iload_n 1, 1) := by decide +kernel
theorem dX9_row_70 : decode cX9_row 70 = .ok (.invokevirtual 113, 3) := by decide +kernel
theorem dX9_row_73 : decode cX9_row 73 = .ok (.ireturn, 1) := by decide +kernel
theorem dX9_burrs_0 : decode cX9_burrs 0 = .ok (.aload_n 0, 1) := by decide +kernel
theorem dX9_burrs_1 : decode cX9_burrs 1 = .ok (.getfield 86, 3) := by decide +kernel
theorem dX9_burrs_4 : decode cX9_burrs 4 = .ok (.ireturn, 1) := by decide +kernel
theorem dX9_law_0 : decode cX9_law 0 = .ok (.aload_n 0, 1) := by decide +kernel
theorem dX9_law_1 : decode cX9_law 1 = .ok (.getfield 12, 3) := by decide +kernel
theorem dX9_law_4 : decode cX9_law 4 = .ok (.getfield 163, 3) := by decide +kernel
theorem dX9_law_7 : decode cX9_law 7 = .ok (.bipush 6, 2) := by decide +kernel
theorem dX9_law_9 : decode cX9_law 9 = .ok (.if_icmp .lt 15, 3) := by decide +kernel
theorem dX9_law_12 : decode cX9_law 12 = .ok (.aload_n 0, 1) := by decide +kernel
theorem dX9_law_13 : decode cX9_law 13 = .ok (.iconst 0, 1) := by decide +kernel
theorem dX9_law_14 : decode cX9_law 14 = .ok (.putfield 56, 3) := by decide +kernel
theorem dX9_law_17 : decode cX9_law 17 = .ok (.aload_n 0, 1) := by decide +kernel
theorem dX9_law_18 : decode cX9_law 18 = .ok (.bipush (-5), 2) := by decide +kernel
theorem dX9_law_20 : decode cX9_law 20 = .ok (.invokevirtual 99, 3) := by decide +kernel
theorem dX9_law_23 : decode cX9_law 23 = .ok (.ireturn, 1) := by decide +kernel
theorem dX9_law_24 : decode cX9_law 24 = .ok (.aload_n 0, 1) := by decide +kernel
theorem dX9_law_25 : decode cX9_law 25 = .ok (.aload_n 0, 1) := by decide +kernel
theorem dX9_law_26 : decode cX9_law 26 = .ok (.getfield 62, 3) := by decide +kernel
theorem dX9_law_29 : decode cX9_law 29 = .ok (.aload_n 0, 1) := by decide +kernel
theorem dX9_law_30 : decode cX9_law 30 = .ok (.getfield 52, 3) := by decide +kernel
theorem dX9_law_33 : decode cX9_law 33 = .ok (.aload_n 0, 1) := by decide +kernel
theorem dX9_law_34 : decode cX9_law 34 = .ok (.getfield 56, 3) := by decide +kernel
theorem dX9_law_37 : decode cX9_law 37 = .ok (.iconst 0, 1) := by decide +kernel
theorem dX9_law_38 : decode cX9_law 38 = .ok (.invokevirtual 166, 3) := by decide +kernel
theorem dX9_law_41 : decode cX9_law 41 = .ok (.putfield 89, 3) := by decide +kernel
theorem dX9_law_44 : decode cX9_law 44 = .ok (.aload_n 0, 1) := by decide +kernel
theorem dX9_law_45 : decode cX9_law 45 = .ok (.iconst 0, 1) := by decide +kernel
theorem dX9_law_46 : decode cX9_law 46 = .ok (.putfield 56, 3) := by decide +kernel
theorem dX9_law_49 : decode cX9_law 49 = .ok (.aload_n 0, 1) := by decide +kernel
theorem dX9_law_50 : decode cX9_law 50 = .ok (.getfield 89, 3) := by decide +kernel
theorem dX9_law_53 : decode cX9_law 53 = .ok (.iconst (-1), 1) := by decide +kernel
theorem dX9_law_54 : decode cX9_law 54 = .ok (.if_icmp .eq 10, 3) := by decide +kernel
theorem dX9_law_57 : decode cX9_law 57 = .ok (.aload_n 0, 1) := by decide +kernel
theorem dX9_law_58 : decode cX9_law 58 = .ok (.bipush (-6), 2) := by decide +kernel
theorem dX9_law_60 : decode cX9_law 60 = .ok (.invokevirtual 99, 3) := by decide +kernel
theorem dX9_law_63 : decode cX9_law 63 = .ok (.ireturn, 1) := by decide +kernel
theorem dX9_law_64 : decode cX9_law 64 = .ok (.aload_n 0, 1) := by decide +kernel
theorem dX9_law_65 : decode cX9_law 65 = .ok (.aload_n 0, 1) := by decide +kernel
theorem dX9_law_66 : decode cX9_law 66 = .ok (.getfield 12, 3) := by decide +kernel
theorem dX9_law_69 : decode cX9_law 69 = .ok (.aload_n 0, 1) := by decide +kernel
theorem dX9_law_70 : decode cX9_law 70 = .ok (.getfield 62, 3) := by decide +kernel
theorem dX9_law_73 : decode cX9_law 73 = .ok (.getfield 170, 3) := by decide +kernel
theorem dX9_law_76 : decode cX9_law 76 = .ok (.invokevirtual 174, 3) := by decide +kernel
theorem dX9_law_79 : decode cX9_law 79 = .ok (.invokevirtual 180, 3) := by decide +kernel
theorem dX9_law_82 : decode cX9_law 82 = .ok (.invokevirtual 113, 3) := by decide +kernel
theorem dX9_law_85 : decode cX9_law 85 = .ok (.ireturn, 1) := by decide +kernel
theorem dX9_orders_0 : decode cX9_orders 0 = .ok (.aload_n 0, 1) := by decide +kernel
theorem dX9_orders_1 : decode cX9_orders 1 = .ok (.iconst (-1), 1) := by decide +kernel
theorem dX9_orders_2 : decode cX9_orders 2 = .ok (.putfield 92, 3) := by decide +kernel
theorem dX9_orders_5 : decode cX9_orders 5 = .ok (.aload_n 0, 1) := by decide +kernel
theorem dX9_orders_6 : decode cX9_orders 6 = .ok (.aload_n 0, 1) := by decide +kernel
theorem dX9_orders_7 : decode cX9_orders 7 = .ok (.getfield 62, 3) := by decide +kernel
theorem dX9_orders_10 : decode cX9_orders 10 = .ok (.aload_n 0, 1) := by decide +kernel
theorem dX9_orders_11 : decode cX9_orders 11 = .ok (.getfield 52, 3) := by decide +kernel
theorem dX9_orders_14 : decode cX9_orders 14 = .ok (.aload_n 0, 1) := by decide +kernel
theorem dX9_orders_15 : decode cX9_orders 15 = .ok (.getfield 56, 3) := by decide +kernel
theorem dX9_orders_18 : decode cX9_orders 18 = .ok (.iconst 1, 1) := by decide +kernel
theorem dX9_orders_19 : decode cX9_orders 19 = .ok (.invokevirtual 166, 3) := by decide +kernel
theorem dX9_orders_22 : decode cX9_orders 22 = .ok (.putfield 89, 3) := by decide +kernel
theorem dX9_orders_25 : decode cX9_orders 25 = .ok (.aload_n 0, 1) := by decide +kernel
theorem dX9_orders_26 : decode cX9_orders 26 = .ok (.iconst 0, 1) := by decide +kernel
theorem dX9_orders_27 : decode cX9_orders 27 = .ok (.putfield 56, 3) := by decide +kernel
theorem dX9_orders_30 : decode cX9_orders 30 = .ok (.aload_n 0, 1) := by decide +kernel
theorem dX9_orders_31 : decode cX9_orders 31 = .ok (.getfield 89, 3) := by decide +kernel
theorem dX9_orders_34 : decode cX9_orders 34 = .ok (.iconst (-1), 1) := by decide +kernel
theorem dX9_orders_35 : decode cX9_orders 35 = .ok (.if_icmp .eq 10, 3) := by decide +kernel
theorem dX9_orders_38 : decode cX9_orders 38 = .ok (.aload_n 0, 1) := by decide +kernel
theorem dX9_orders_39 : decode cX9_orders 39 = .ok (.bipush (-6), 2) := by decide +kernel
theorem dX9_orders_41 : decode cX9_orders 41 = .ok (.invokevirtual 99, 3) := by decide +kernel
theorem dX9_orders_44 : decode cX9_orders 44 = .ok (.ireturn, 1) := by decide +kernel
theorem dX9_orders_45 : decode cX9_orders 45 = .ok (.aload_n 0, 1) := by decide +kernel
theorem dX9_orders_46 : decode cX9_orders 46 = .ok (.getfield 73, 3) := by decide +kernel
theorem dX9_orders_49 : decode cX9_orders 49 = .ok (.aload_n 0, 1) := by decide +kernel
theorem dX9_orders_50 : decode cX9_orders 50 = .ok (.getfield 12, 3) := by decide +kernel
theorem dX9_orders_53 : decode cX9_orders 53 = .ok (.getfield 123, 3) := by decide +kernel
theorem dX9_orders_56 : decode cX9_orders 56 = .ok (.invokevirtual 184, 3) := by decide +kernel
theorem dX9_orders_59 : decode cX9_orders 59 = .ok (.aload_n 0, 1) := by decide +kernel
theorem dX9_orders_60 : decode cX9_orders 60 = .ok (.aload_n 0, 1) := by decide +kernel
theorem dX9_orders_61 : decode cX9_orders 61 = .ok (.getfield 69, 3) := by decide +kernel
theorem dX9_orders_64 : decode cX9_orders 64 = .ok (.aload_n 0, 1) := by decide +kernel
theorem dX9_orders_65 : decode cX9_orders 65 = .ok (.getfield 62, 3) := by decide +kernel
theorem dX9_orders_68 : decode cX9_orders 68 = .ok (.getfield 170, 3) := by decide +kernel
theorem dX9_orders_71 : decode cX9_orders 71 = .ok (.aload_n 0, 1) := by decide +kernel
theorem dX9_orders_72 : decode cX9_orders 72 = .ok (.getfield 12, 3) := by decide +kernel
theorem dX9_orders_75 : decode cX9_orders 75 = .ok (.aload_n 0, 1) := by decide +kernel
theorem dX9_orders_76 : decode cX9_orders 76 = .ok (.getfield 73, 3) := by decide +kernel
theorem dX9_orders_79 : decode cX9_orders 79 = .ok (.aload_n 0, 1) := by decide +kernel
theorem dX9_orders_80 : decode cX9_orders 80 = .ok (.getfield 30, 3) := by decide +kernel
theorem dX9_orders_83 : decode cX9_orders 83 = .ok (.aconst_null, 1) := by decide +kernel
theorem dX9_orders_84 : decode cX9_orders 84 = .ok (.invokevirtual 188, 3) := by decide +kernel
theorem dX9_orders_87 : decode cX9_orders 87 = .ok (.putfield 92, 3) := by decide +kernel
theorem dX9_orders_90 : decode cX9_orders 90 = .ok (.aload_n 0, 1) := by decide +kernel
theorem dX9_orders_91 : decode cX9_orders 91 = .ok (.getfield 92, 3) := by decide +kernel
theorem dX9_orders_94 : decode cX9_orders 94 = .ok (.iconst (-1), 1) := by decide +kernel
theorem dX9_orders_95 : decode cX9_orders 95 = .ok (.if_icmp .eq 10, 3) := by decide +kernel
theorem dX9_orders_98 : decode cX9_orders 98 = .ok (.aload_n 0, 1) := by decide +kernel
theorem dX9_orders_99 : decode cX9_orders 99 = .ok (.bipush (-3), 2) := by decide +kernel
theorem dX9_orders_101 : decode cX9_orders 101 = .ok (.invokevirtual 99, 3) := by decide +kernel
theorem dX9_orders_104 : decode cX9_orders 104 = .ok (.ireturn, 1) := by decide +kernel
theorem dX9_orders_105 : decode cX9_orders 105 = .ok (.aload_n 0, 1) := by decide +kernel
theorem dX9_orders_106 : decode cX9_orders 106 = .ok (.getfield 69, 3) := by decide +kernel
theorem dX9_orders_109 : decode cX9_orders 109 = .ok (.aload_n 0, 1) := by decide +kernel
theorem dX9_orders_110 : decode cX9_orders 110 = .ok (.getfield 62, 3) := by decide +kernel
theorem dX9_orders_113 : decode cX9_orders 113 = .ok (.getfield 170, 3) := by decide +kernel
theorem dX9_orders_116 : decode cX9_orders 116 = .ok (.aload_n 0, 1) := by decide +kernel
theorem dX9_orders_117 : decode cX9_orders 117 = .ok (.getfield 12, 3) := by decide +kernel
theorem dX9_orders_120 : decode cX9_orders 120 = .ok (.aload_n 0, 1) := by decide +kernel
theorem dX9_orders_121 : decode cX9_orders 121 = .ok (.getfield 12, 3) := by decide +kernel
theorem dX9_orders_124 : decode cX9_orders 124 = .ok (.getfield 123, 3) := by decide +kernel
theorem dX9_orders_127 : decode cX9_orders 127 = .ok (.aload_n 0, 1) := by decide +kernel
theorem dX9_orders_128 : decode cX9_orders 128 = .ok (.getfield 30, 3) := by decide +kernel
theorem dX9_orders_131 : decode cX9_orders 131 = .ok (.aload_n 0, 1) := by decide +kernel
theorem dX9_orders_132 : decode cX9_orders 132 = .ok (.getfield 23, 3) := by decide +kernel
theorem dX9_orders_135 : decode cX9_orders 135 = .ok (.invokevirtual 188, 3) := by decide +kernel
theorem dX9_orders_138 : decode cX9_orders 138 = .ok (.pop, 1) := by decide +kernel
theorem dX9_orders_139 : decode cX9_orders 139 = .ok (.aload_n 0, 1) := by decide +kernel
theorem dX9_orders_140 : decode cX9_orders 140 = .ok (.aload_n 0, 1) := by decide +kernel
theorem dX9_orders_141 : decode cX9_orders 141 = .ok (.getfield 69, 3) := by decide +kernel
theorem dX9_orders_144 : decode cX9_orders 144 = .ok (.getfield 192, 3) := by decide +kernel
theorem dX9_orders_147 : decode cX9_orders 147 = .ok (.invokevirtual 113, 3) := by decide +kernel
theorem dX9_orders_150 : decode cX9_orders 150 = .ok (.ireturn, 1) := by decide +kernel
theorem dX9_fault_0 : decode cX9_fault 0 = .ok (.aload_n 0, 1) := by decide +kernel
theorem dX9_fault_1 : decode cX9_fault 1 = .ok (.getfield 89, 3) := by decide +kernel
theorem dX9_fault_4 : decode cX9_fault 4 = .ok (.ireturn, 1) := by decide +kernel
theorem dX9_stopped_0 : decode cX9_stopped 0 = .ok (.aload_n 0, 1) := by decide +kernel
theorem dX9_stopped_1 : decode cX9_stopped 1 = .ok (.getfield 92, 3) := by decide +kernel
theorem dX9_stopped_4 : decode cX9_stopped 4 = .ok (.ireturn, 1) := by decide +kernel
theorem dX9_force_0 : decode cX9_force 0 = .ok (.iload_n 1, 1) := by decide +kernel
theorem dX9_force_1 : decode cX9_force 1 = .ok (.iconst (-1), 1) := by decide +kernel
theorem dX9_force_2 : decode cX9_force 2 = .ok (.if_icmp .eq 21, 3) := by decide +kernel
theorem dX9_force_5 : decode cX9_force 5 = .ok (.aload_n 0, 1) := by decide +kernel
theorem dX9_force_6 : decode cX9_force 6 = .ok (.getfield 12, 3) := by decide +kernel
theorem dX9_force_9 : decode cX9_force 9 = .ok (.iload_n 1, 1) := by decide +kernel
theorem dX9_force_10 : decode cX9_force 10 = .ok (.invokevirtual 195, 3) := by decide +kernel
theorem dX9_force_13 : decode cX9_force 13 = .ok (.ifnonnull 10, 3) := by decide +kernel
theorem dX9_force_16 : decode cX9_force 16 = .ok (.aload_n 0, 1) := by decide +kernel
theorem dX9_force_17 : decode cX9_force 17 = .ok (.bipush (-2), 2) := by decide +kernel
theorem dX9_force_19 : decode cX9_force 19 = .ok (.invokevirtual 99, 3) := by decide +kernel
theorem dX9_force_22 : decode cX9_force 22 = .ok (.ireturn, 1) := by decide +kernel
theorem dX9_force_23 : decode cX9_force 23 = .ok (.aload_n 0, 1) := by decide +kernel
theorem dX9_force_24 : decode cX9_force 24 = .ok (.getfield 12, 3) := by decide +kernel
theorem dX9_force_27 : decode cX9_force 27 = .ok (.getfield 199, 3) := by decide +kernel
theorem dX9_force_30 : decode cX9_force 30 = .ok (.istore_n 2, 1) := by decide +kernel
theorem dX9_force_31 : decode cX9_force 31 = .ok (.aload_n 0, 1) := by decide +kernel
theorem dX9_force_32 : decode cX9_force 32 = .ok (.getfield 12, 3) := by decide +kernel
theorem dX9_force_35 : decode cX9_force 35 = .ok (.iload_n 1, 1) := by decide +kernel
theorem dX9_force_36 : decode cX9_force 36 = .ok (.putfield 199, 3) := by decide +kernel
theorem dX9_force_39 : decode cX9_force 39 = .ok (.aload_n 0, 1) := by decide +kernel
theorem dX9_force_40 : decode cX9_force 40 = .ok (.iload_n 2, 1) := by decide +kernel
theorem dX9_force_41 : decode cX9_force 41 = .ok (.invokevirtual 113, 3) := by decide +kernel
theorem dX9_force_44 : decode cX9_force 44 = .ok (.ireturn, 1) := by decide +kernel
theorem dX9_touch_0 : decode cX9_touch 0 = .ok (.aload_n 0, 1) := by decide +kernel
theorem dX9_touch_1 : decode cX9_touch 1 = .ok (.iconst 0, 1) := by decide +kernel
theorem dX9_touch_2 : decode cX9_touch 2 = .ok (.iload_n 1, 1) := by decide +kernel
theorem dX9_touch_3 : decode cX9_touch 3 = .ok (.iconst 0, 1) := by decide +kernel
theorem dX9_touch_4 : decode cX9_touch 4 = .ok (.invokevirtual 202, 3) := by decide +kernel
theorem dX9_touch_7 : decode cX9_touch 7 = .ok (.ireturn, 1) := by decide +kernel
theorem dX9_coax_0 : decode cX9_coax 0 = .ok (.aload_n 0, 1) := by decide +kernel
theorem dX9_coax_1 : decode cX9_coax 1 = .ok (.iconst 1, 1) := by decide +kernel
theorem dX9_coax_2 : decode cX9_coax 2 = .ok (.iload_n 1, 1) := by decide +kernel
theorem dX9_coax_3 : decode cX9_coax 3 = .ok (.iconst 0, 1) := by decide +kernel
theorem dX9_coax_4 : decode cX9_coax 4 = .ok (.invokevirtual 202, 3) := by decide +kernel
theorem dX9_coax_7 : decode cX9_coax 7 = .ok (.ireturn, 1) := by decide +kernel
theorem dX9_tempt_0 : decode cX9_tempt 0 = .ok (.aload_n 0, 1) := by decide +kernel
theorem dX9_tempt_1 : decode cX9_tempt 1 = .ok (.iconst 2, 1) := by decide +kernel
theorem dX9_tempt_2 : decode cX9_tempt 2 = .ok (.iload_n 1, 1) := by decide +kernel
theorem dX9_tempt_3 : decode cX9_tempt 3 = .ok (.iload_n 2, 1) := by decide +kernel
theorem dX9_tempt_4 : decode cX9_tempt 4 = .ok (.invokevirtual 202, 3) := by decide +kernel
theorem dX9_tempt_7 : decode cX9_tempt 7 = .ok (.ireturn, 1) := by decide +kernel
theorem dX9_pass_0 : decode cX9_pass 0 = .ok (.aload_n 0, 1) := by decide +kernel
theorem dX9_pass_1 : decode cX9_pass 1 = .ok (.iconst 3, 1) := by decide +kernel
theorem dX9_pass_2 : decode cX9_pass 2 = .ok (.iconst 0, 1) := by decide +kernel
theorem dX9_pass_3 : decode cX9_pass 3 = .ok (.iconst 0, 1) := by decide +kernel
theorem dX9_pass_4 : decode cX9_pass 4 = .ok (.invokevirtual 202, 3) := by decide +kernel
theorem dX9_pass_7 : decode cX9_pass 7 = .ok (.ireturn, 1) := by decide +kernel
theorem dX9_undo_0 : decode cX9_undo 0 = .ok (.aload_n 0, 1) := by decide +kernel
theorem dX9_undo_1 : decode cX9_undo 1 = .ok (.getfield 23, 3) := by decide +kernel
theorem dX9_undo_4 : decode cX9_undo 4 = .ok (.aload_n 0, 1) := by decide +kernel
theorem dX9_undo_5 : decode cX9_undo 5 = .ok (.getfield 12, 3) := by decide +kernel
theorem dX9_undo_8 : decode cX9_undo 8 = .ok (.getfield 123, 3) := by decide +kernel
theorem dX9_undo_11 : decode cX9_undo 11 = .ok (.invokevirtual 205, 3) := by decide +kernel
theorem dX9_undo_14 : decode cX9_undo 14 = .ok (.istore_n 1, 1) := by decide +kernel
theorem dX9_undo_15 : decode cX9_undo 15 = .ok (.iload_n 1, 1) := by decide +kernel
theorem dX9_undo_16 : decode cX9_undo 16 = .ok (.iconst (-1), 1) := by decide +kernel
theorem dX9_undo_17 : decode cX9_undo 17 = .ok (.if_icmp .ne 12, 3) := by decide +kernel
theorem dX9_undo_20 : decode cX9_undo 20 = .ok (.aload_n 0, 1) := by decide +kernel
theorem dX9_undo_21 : decode cX9_undo 21 = .ok (.bipush (-3), 2) := by decide +kernel
theorem dX9_undo_23 : decode cX9_undo 23 = .ok (.invokevirtual 99, 3) := by decide +kernel
theorem dX9_undo_26 : decode cX9_undo 26 = .ok (.goto 8, 3) := by decide +kernel
theorem dX9_undo_29 : decode cX9_undo 29 = .ok (.aload_n 0, 1) := by decide +kernel
theorem dX9_undo_30 : decode cX9_undo 30 = .ok (.iload_n 1, 1) := by decide +kernel
theorem dX9_undo_31 : decode cX9_undo 31 = .ok (.invokevirtual 113, 3) := by decide +kernel
theorem dX9_undo_34 : decode cX9_undo 34 = .ok (.ireturn, 1) := by decide +kernel
theorem dX9_later_0 : decode cX9_later 0 = .ok (.iload_n 1, 1) := by decide +kernel
theorem dX9_later_1 : decode cX9_later 1 = .ok (.i2l, 1) := by decide +kernel
theorem dX9_later_2 : decode cX9_later 2 = .ok (.bipush 60, 2) := by decide +kernel
theorem dX9_later_4 : decode cX9_later 4 = .ok (.invokestatic 95, 3) := by decide +kernel
theorem dX9_later_7 : decode cX9_later 7 = .ok (.ifCond .eq 28, 3) := by decide +kernel
theorem dX9_later_10 : decode cX9_later 10 = .ok (.aload_n 0, 1) := by decide +kernel
theorem dX9_later_11 : decode cX9_later 11 = .ok (.getfield 30, 3) := by decide +kernel
theorem dX9_later_14 : decode cX9_later 14 = .ok (.aload_n 0, 1) := by decide +kernel
theorem dX9_later_15 : decode cX9_later 15 = .ok (.getfield 12, 3) := by decide +kernel
theorem dX9_later_18 : decode cX9_later 18 = .ok (.aload_n 0, 1) := by decide +kernel
theorem dX9_later_19 : decode cX9_later 19 = .ok (.getfield 12, 3) := by decide +kernel
theorem dX9_later_22 : decode cX9_later 22 = .ok (.getfield 123, 3) := by decide +kernel
theorem dX9_later_25 : decode cX9_later 25 = .ok (.getfield 209, 3) := by decide +kernel
theorem dX9_later_28 : decode cX9_later 28 = .ok (.iload_n 1, 1) := by decide +kernel
theorem dX9_later_29 : decode cX9_later 29 = .ok (.invokevirtual 212, 3) := by decide +kernel
theorem dX9_later_32 : decode cX9_later 32 = .ok (.goto 4, 3) := by decide +kernel
theorem dX9_later_35 : decode cX9_later 35 = .ok (.iconst (-1), 1) := by decide +kernel
theorem dX9_later_36 : decode cX9_later 36 = .ok (.ireturn, 1) := by decide +kernel
theorem dX9_opens_0 : decode cX9_opens 0 = .ok (.aload_n 0, 1) := by decide +kernel
theorem dX9_opens_1 : decode cX9_opens 1 = .ok (.getfield 12, 3) := by decide +kernel
theorem dX9_opens_4 : decode cX9_opens 4 = .ok (.iload_n 1, 1) := by decide +kernel
theorem dX9_opens_5 : decode cX9_opens 5 = .ok (.i2l, 1) := by decide +kernel
theorem dX9_opens_6 : decode cX9_opens 6 = .ok (.invokevirtual 116, 3) := by decide +kernel
theorem dX9_opens_9 : decode cX9_opens 9 = .ok (.ifCond .ne 5, 3) := by decide +kernel
theorem dX9_opens_12 : decode cX9_opens 12 = .ok (.iconst (-1), 1) := by decide +kernel
theorem dX9_opens_13 : decode cX9_opens 13 = .ok (.ireturn, 1) := by decide +kernel
theorem dX9_opens_14 : decode cX9_opens 14 = .ok (.aload_n 0, 1) := by decide +kernel
theorem dX9_opens_15 : decode cX9_opens 15 = .ok (.getfield 30, 3) := by decide +kernel
theorem dX9_opens_18 : decode cX9_opens 18 = .ok (.aload_n 0, 1) := by decide +kernel
theorem dX9_opens_19 : decode cX9_opens 19 = .ok (.getfield 12, 3) := by decide +kernel
theorem dX9_opens_22 : decode cX9_opens 22 = .ok (.aload_n 0, 1) := by decide +kernel
theorem dX9_opens_23 : decode cX9_opens 23 = .ok (.getfield 12, 3) := by decide +kernel
theorem dX9_opens_26 : decode cX9_opens 26 = .ok (.getfield 123, 3) := by decide +kernel
theorem dX9_opens_29 : decode cX9_opens 29 = .ok (.getfield 209, 3) := by decide +kernel
theorem dX9_opens_32 : decode cX9_opens 32 = .ok (.iconst 0, 1) := by decide +kernel
theorem dX9_opens_33 : decode cX9_opens 33 = .ok (.iconst 1, 1) := by decide +kernel
theorem dX9_opens_34 : decode cX9_opens 34 = .ok (.iload_n 1, 1) := by decide +kernel
theorem dX9_opens_35 : decode cX9_opens 35 = .ok (.ishl, 1) := by decide +kernel
theorem dX9_opens_36 : decode cX9_opens 36 = .ok (.invokevirtual 215, 3) := by decide +kernel
theorem dX9_opens_39 : decode cX9_opens 39 = .ok (.ireturn, 1) := by decide +kernel
theorem dX9_together_0 : decode cX9_together 0 = .ok (.aload_n 0, 1) := by decide +kernel
theorem dX9_together_1 : decode cX9_together 1 = .ok (.getfield 30, 3) := by decide +kernel
theorem dX9_together_4 : decode cX9_together 4 = .ok (.aload_n 0, 1) := by decide +kernel
theorem dX9_together_5 : decode cX9_together 5 = .ok (.getfield 12, 3) := by decide +kernel
theorem dX9_together_8 : decode cX9_together 8 = .ok (.aload_n 0, 1) := by decide +kernel
theorem dX9_together_9 : decode cX9_together 9 = .ok (.getfield 12, 3) := by decide +kernel
theorem dX9_together_12 : decode cX9_together 12 = .ok (.getfield 123, 3) := by decide +kernel
theorem dX9_together_15 : decode cX9_together 15 = .ok (.getfield 209, 3) := by decide +kernel
theorem dX9_together_18 : decode cX9_together 18 = .ok (.iconst 0, 1) := by decide +kernel
theorem dX9_together_19 : decode cX9_together 19 = .ok (.aload_n 0, 1) := by decide +kernel
theorem dX9_together_20 : decode cX9_together 20 = .ok (.getfield 12, 3) := by decide +kernel
theorem dX9_together_23 : decode cX9_together 23 = .ok (.invokevirtual 219, 3) := by decide +kernel
theorem dX9_together_26 : decode cX9_together 26 = .ok (.invokevirtual 215, 3) := by decide +kernel
theorem dX9_together_29 : decode cX9_together 29 = .ok (.ireturn, 1) := by decide +kernel
theorem dX9_again_0 : decode cX9_again 0 = .ok (.aload_n 0, 1) := by decide +kernel
theorem dX9_again_1 : decode cX9_again 1 = .ok (.getfield 30, 3) := by decide +kernel
theorem dX9_again_4 : decode cX9_again 4 = .ok (.aload_n 0, 1) := by decide +kernel
theorem dX9_again_5 : decode cX9_again 5 = .ok (.getfield 12, 3) := by decide +kernel
theorem dX9_again_8 : decode cX9_again 8 = .ok (.invokevirtual 223, 3) := by decide +kernel
theorem dX9_again_11 : decode cX9_again 11 = .ok (.aload_n 0, 1) := by decide +kernel
theorem dX9_again_12 : decode cX9_again 12 = .ok (.getfield 30, 3) := by decide +kernel
theorem dX9_again_15 : decode cX9_again 15 = .ok (.invokevirtual 227, 3) := by decide +kernel
theorem dX9_again_18 : decode cX9_again 18 = .ok (.ireturn, 1) := by decide +kernel
theorem dX9_seeds_0 : decode cX9_seeds 0 = .ok (.iload_n 1, 1) := by decide +kernel
theorem dX9_seeds_1 : decode cX9_seeds 1 = .ok (.i2l, 1) := by decide +kernel
theorem dX9_seeds_2 : decode cX9_seeds 2 = .ok (.iconst 1, 1) := by decide +kernel
theorem dX9_seeds_3 : decode cX9_seeds 3 = .ok (.invokestatic 95, 3) := by decide +kernel
theorem dX9_seeds_6 : decode cX9_seeds 6 = .ok (.ifCond .ne 5, 3) := by decide +kernel
theorem dX9_seeds_9 : decode cX9_seeds 9 = .ok (.iconst (-1), 1) := by decide +kernel
theorem dX9_seeds_10 : decode cX9_seeds 10 = .ok (.ireturn, 1) := by decide +kernel
theorem dX9_seeds_11 : decode cX9_seeds 11 = .ok (.aload_n 0, 1) := by decide +kernel
theorem dX9_seeds_12 : decode cX9_seeds 12 = .ok (.getfield 12, 3) := by decide +kernel
theorem dX9_seeds_15 : decode cX9_seeds 15 = .ok (.invokevirtual 219, 3) := by decide +kernel
theorem dX9_seeds_18 : decode cX9_seeds 18 = .ok (.aload_n 0, 1) := by decide +kernel
theorem dX9_seeds_19 : decode cX9_seeds 19 = .ok (.getfield 12, 3) := by decide +kernel
theorem dX9_seeds_22 : decode cX9_seeds 22 = .ok (.getfield 123, 3) := by decide +kernel
theorem dX9_seeds_25 : decode cX9_seeds 25 = .ok (.getfield 209, 3) := by decide +kernel
theorem dX9_seeds_28 : decode cX9_seeds 28 = .ok (.iconst (-1), 1) := by decide +kernel
theorem dX9_seeds_29 : decode cX9_seeds 29 = .ok (.ixor, 1) := by decide +kernel
theorem dX9_seeds_30 : decode cX9_seeds 30 = .ok (.iand, 1) := by decide +kernel
theorem dX9_seeds_31 : decode cX9_seeds 31 = .ok (.istore_n 2, 1) := by decide +kernel
theorem dX9_seeds_32 : decode cX9_seeds 32 = .ok (.aload_n 0, 1) := by decide +kernel
theorem dX9_seeds_33 : decode cX9_seeds 33 = .ok (.getfield 30, 3) := by decide +kernel
theorem dX9_seeds_36 : decode cX9_seeds 36 = .ok (.aload_n 0, 1) := by decide +kernel
theorem dX9_seeds_37 : decode cX9_seeds 37 = .ok (.getfield 12, 3) := by decide +kernel
theorem dX9_seeds_40 : decode cX9_seeds 40 = .ok (.iload_n 2, 1) := by decide +kernel
theorem dX9_seeds_41 : decode cX9_seeds 41 = .ok (.aload_n 0, 1) := by decide +kernel
theorem dX9_seeds_42 : decode cX9_seeds 42 = .ok (.getfield 12, 3) := by decide +kernel
theorem dX9_seeds_45 : decode cX9_seeds 45 = .ok (.invokevirtual 219, 3) := by decide +kernel
theorem dX9_seeds_48 : decode cX9_seeds 48 = .ok (.invokevirtual 230, 3) := by decide +kernel
theorem dX9_seeds_51 : decode cX9_seeds 51 = .ok (.iload_n 1, 1) := by decide +kernel
theorem dX9_seeds_52 : decode cX9_seeds 52 = .ok (.invokestatic 233, 3) := by decide +kernel
theorem dX9_seeds_55 : decode cX9_seeds 55 = .ok (.ireturn, 1) := by decide +kernel
theorem dX9_seedsFor_0 : decode cX9_seedsFor 0 = .ok (.iload_n 2, 1) := by decide +kernel
theorem dX9_seedsFor_1 : decode cX9_seedsFor 1 = .ok (.i2l, 1) := by decide +kernel
theorem dX9_seedsFor_2 : decode cX9_seedsFor 2 = .ok (.iconst 1, 1) := by decide +kernel
theorem dX9_seedsFor_3 : decode cX9_seedsFor 3 = .ok (.invokestatic 95, 3) := by decide +kernel
theorem dX9_seedsFor_6 : decode cX9_seedsFor 6 = .ok (.ifCond .eq 15, 3) := by decide +kernel
theorem dX9_seedsFor_9 : decode cX9_seedsFor 9 = .ok (.aload_n 0, 1) := by decide +kernel
theorem dX9_seedsFor_10 : decode cX9_seedsFor 10 = .ok (.getfield 12, 3) := by decide +kernel
theorem dX9_seedsFor_13 : decode cX9_seedsFor 13 = .ok (.iload_n 1, 1) := by decide +kernel
theorem dX9_seedsFor_14 : decode cX9_seedsFor 14 = .ok (.i2l, 1) := by decide +kernel
theorem dX9_seedsFor_15 : decode cX9_seedsFor 15 = .ok (.invokevirtual 116, 3) := by decide +kernel
theorem dX9_seedsFor_18 : decode cX9_seedsFor 18 = .ok (.ifCond .ne 5, 3) := by decide +kernel
theorem dX9_seedsFor_21 : decode cX9_seedsFor 21 = .ok (.iconst (-1), 1) := by decide +kernel
theorem dX9_seedsFor_22 : decode cX9_seedsFor 22 = .ok (.ireturn, 1) := by decide +kernel
theorem dX9_seedsFor_23 : decode cX9_seedsFor 23 = .ok (.aload_n 0, 1) := by decide +kernel
theorem dX9_seedsFor_24 : decode cX9_seedsFor 24 = .ok (.getfield 12, 3) := by decide +kernel
theorem dX9_seedsFor_27 : decode cX9_seedsFor 27 = .ok (.invokevirtual 219, 3) := by decide +kernel
theorem dX9_seedsFor_30 : decode cX9_seedsFor 30 = .ok (.aload_n 0, 1) := by decide +kernel
theorem dX9_seedsFor_31 : decode cX9_seedsFor 31 = .ok (.getfield 12, 3) := by decide +kernel
theorem dX9_seedsFor_34 : decode cX9_seedsFor 34 = .ok (.getfield 123, 3) := by decide +kernel
theorem dX9_seedsFor_37 : decode cX9_seedsFor 37 = .ok (.getfield 209, 3) := by decide +kernel
theorem dX9_seedsFor_40 : decode cX9_seedsFor 40 = .ok (.iconst (-1), 1) := by decide +kernel
theorem dX9_seedsFor_41 : decode cX9_seedsFor 41 = .ok (.ixor, 1) := by decide +kernel
theorem dX9_seedsFor_42 : decode cX9_seedsFor 42 = .ok (.iand, 1) := by decide +kernel
theorem dX9_seedsFor_43 : decode cX9_seedsFor 43 = .ok (.iconst 1, 1) := by decide +kernel
theorem dX9_seedsFor_44 : decode cX9_seedsFor 44 = .ok (.iload_n 1, 1) := by decide +kernel
theorem dX9_seedsFor_45 : decode cX9_seedsFor 45 = .ok (.ishl, 1) := by decide +kernel
theorem dX9_seedsFor_46 : decode cX9_seedsFor 46 = .ok (.iconst (-1), 1) := by decide +kernel
theorem dX9_seedsFor_47 : decode cX9_seedsFor 47 = .ok (.ixor, 1) := by decide +kernel
theorem dX9_seedsFor_48 : decode cX9_seedsFor 48 = .ok (.iand, 1) := by decide +kernel
theorem dX9_seedsFor_49 : decode cX9_seedsFor 49 = .ok (.istore_n 3, 1) := by decide +kernel
theorem dX9_seedsFor_50 : decode cX9_seedsFor 50 = .ok (.aload_n 0, 1) := by decide +kernel
theorem dX9_seedsFor_51 : decode cX9_seedsFor 51 = .ok (.getfield 30, 3) := by decide +kernel
theorem dX9_seedsFor_54 : decode cX9_seedsFor 54 = .ok (.aload_n 0, 1) := by decide +kernel
theorem dX9_seedsFor_55 : decode cX9_seedsFor 55 = .ok (.getfield 12, 3) := by decide +kernel
theorem dX9_seedsFor_58 : decode cX9_seedsFor 58 = .ok (.iload_n 3, 1) := by decide +kernel
theorem dX9_seedsFor_59 : decode cX9_seedsFor 59 = .ok (.iconst 1, 1) := by decide +kernel
theorem dX9_seedsFor_60 : decode cX9_seedsFor 60 = .ok (.iload_n 1, 1) := by decide +kernel
theorem dX9_seedsFor_61 : decode cX9_seedsFor 61 = .ok (.ishl, 1) := by decide +kernel
theorem dX9_seedsFor_62 : decode cX9_seedsFor 62 = .ok (.invokevirtual 230, 3) := by decide +kernel
theorem dX9_seedsFor_65 : decode cX9_seedsFor 65 = .ok (.iload_n 2, 1) := by decide +kernel
theorem dX9_seedsFor_66 : decode cX9_seedsFor 66 = .ok (.invokestatic 233, 3) := by decide +kernel
theorem dX9_seedsFor_69 : decode cX9_seedsFor 69 = .ok (.ireturn, 1) := by decide +kernel
theorem dX9_spread_0 : decode cX9_spread 0 = .ok (.aload_n 0, 1) := by decide +kernel
theorem dX9_spread_1 : decode cX9_spread 1 = .ok (.getfield 12, 3) := by decide +kernel
theorem dX9_spread_4 : decode cX9_spread 4 = .ok (.iload_n 1, 1) := by decide +kernel
theorem dX9_spread_5 : decode cX9_spread 5 = .ok (.i2l, 1) := by decide +kernel
theorem dX9_spread_6 : decode cX9_spread 6 = .ok (.invokevirtual 116, 3) := by decide +kernel
theorem dX9_spread_9 : decode cX9_spread 9 = .ok (.ifCond .ne 5, 3) := by decide +kernel
theorem dX9_spread_12 : decode cX9_spread 12 = .ok (.iconst (-1), 1) := by decide +kernel
theorem dX9_spread_13 : decode cX9_spread 13 = .ok (.ireturn, 1) := by decide +kernel
theorem dX9_spread_14 : decode cX9_spread 14 = .ok (.aload_n 0, 1) := by decide +kernel
theorem dX9_spread_15 : decode cX9_spread 15 = .ok (.getfield 12, 3) := by decide +kernel
theorem dX9_spread_18 : decode cX9_spread 18 = .ok (.getfield 123, 3) := by decide +kernel
theorem dX9_spread_21 : decode cX9_spread 21 = .ok (.getfield 209, 3) := by decide +kernel
theorem dX9_spread_24 : decode cX9_spread 24 = .ok (.iconst 1, 1) := by decide +kernel
theorem dX9_spread_25 : decode cX9_spread 25 = .ok (.iload_n 1, 1) := by decide +kernel
theorem dX9_spread_26 : decode cX9_spread 26 = .ok (.ishl, 1) := by decide +kernel
theorem dX9_spread_27 : decode cX9_spread 27 = .ok (.ior, 1) := by decide +kernel
theorem dX9_spread_28 : decode cX9_spread 28 = .ok (.istore_n 2, 1) := by decide +kernel
theorem dX9_spread_29 : decode cX9_spread 29 = .ok (.aload_n 0, 1) := by decide +kernel
theorem dX9_spread_30 : decode cX9_spread 30 = .ok (.getfield 30, 3) := by decide +kernel
theorem dX9_spread_33 : decode cX9_spread 33 = .ok (.aload_n 0, 1) := by decide +kernel
theorem dX9_spread_34 : decode cX9_spread 34 = .ok (.getfield 12, 3) := by decide +kernel
theorem dX9_spread_37 : decode cX9_spread 37 = .ok (.iload_n 2, 1) := by decide +kernel
theorem dX9_spread_38 : decode cX9_spread 38 = .ok (.bipush 60, 2) := by decide +kernel
theorem dX9_spread_40 : decode cX9_spread 40 = .ok (.invokevirtual 212, 3) := by decide +kernel
theorem dX9_spread_43 : decode cX9_spread 43 = .ok (.istore_n 3, 1) := by decide +kernel
theorem dX9_spread_44 : decode cX9_spread 44 = .ok (.aload_n 0, 1) := by decide +kernel
theorem dX9_spread_45 : decode cX9_spread 45 = .ok (.getfield 30, 3) := by decide +kernel
theorem dX9_spread_48 : decode cX9_spread 48 = .ok (.aload_n 0, 1) := by decide +kernel
theorem dX9_spread_49 : decode cX9_spread 49 = .ok (.getfield 12, 3) := by decide +kernel
theorem dX9_spread_52 : decode cX9_spread 52 = .ok (.iload_n 2, 1) := by decide +kernel
theorem dX9_spread_53 : decode cX9_spread 53 = .ok (.iconst 1, 1) := by decide +kernel
theorem dX9_spread_54 : decode cX9_spread 54 = .ok (.iload_n 1, 1) := by decide +kernel
theorem dX9_spread_55 : decode cX9_spread 55 = .ok (.ishl, 1) := by decide +kernel
theorem dX9_spread_56 : decode cX9_spread 56 = .ok (.iconst (-1), 1) := by decide +kernel
theorem dX9_spread_57 : decode cX9_spread 57 = .ok (.ixor, 1) := by decide +kernel
theorem dX9_spread_58 : decode cX9_spread 58 = .ok (.iand, 1) := by decide +kernel
theorem dX9_spread_59 : decode cX9_spread 59 = .ok (.bipush 60, 2) := by decide +kernel
theorem dX9_spread_61 : decode cX9_spread 61 = .ok (.invokevirtual 212, 3) := by decide +kernel
theorem dX9_spread_64 : decode cX9_spread 64 = .ok (.istore 4, 2) := by decide +kernel
theorem dX9_spread_66 : decode cX9_spread 66 = .ok (.iload_n 3, 1) := by decide +kernel
theorem dX9_spread_67 : decode cX9_spread 67 = .ok (.iload 4, 2) := by decide +kernel
theorem dX9_spread_69 : decode cX9_spread 69 = .ok (.iconst (-1), 1) := by decide +kernel
theorem dX9_spread_70 : decode cX9_spread 70 = .ok (.ixor, 1) := by decide +kernel
theorem dX9_spread_71 : decode cX9_spread 71 = .ok (.iand, 1) := by decide +kernel
theorem dX9_spread_72 : decode cX9_spread 72 = .ok (.ireturn, 1) := by decide +kernel
theorem dX9_held_0 : decode cX9_held 0 = .ok (.iload_n 2, 1) := by decide +kernel
theorem dX9_held_1 : decode cX9_held 1 = .ok (.i2l, 1) := by decide +kernel
theorem dX9_held_2 : decode cX9_held 2 = .ok (.iconst 1, 1) := by decide +kernel
theorem dX9_held_3 : decode cX9_held 3 = .ok (.invokestatic 95, 3) := by decide +kernel
theorem dX9_held_6 : decode cX9_held 6 = .ok (.ifCond .eq 29, 3) := by decide +kernel
theorem dX9_held_9 : decode cX9_held 9 = .ok (.aload_n 0, 1) := by decide +kernel
theorem dX9_held_10 : decode cX9_held 10 = .ok (.getfield 12, 3) := by decide +kernel
theorem dX9_held_13 : decode cX9_held 13 = .ok (.iload_n 1, 1) := by decide +kernel
theorem dX9_held_14 : decode cX9_held 14 = .ok (.i2l, 1) := by decide +kernel
theorem dX9_held_15 : decode cX9_held 15 = .ok (.invokevirtual 116, 3) := by decide +kernel
theorem dX9_held_18 : decode cX9_held 18 = .ok (.ifCond .eq 17, 3) := by decide +kernel
theorem dX9_held_21 : decode cX9_held 21 = .ok (.aload_n 0, 1) := by decide +kernel
theorem dX9_held_22 : decode cX9_held 22 = .ok (.getfield 12, 3) := by decide +kernel
theorem dX9_held_25 : decode cX9_held 25 = .ok (.getfield 123, 3) := by decide +kernel
theorem dX9_held_28 : decode cX9_held 28 = .ok (.iload_n 1, 1) := by decide +kernel
theorem dX9_held_29 : decode cX9_held 29 = .ok (.invokevirtual 135, 3) := by decide +kernel
theorem dX9_held_32 : decode cX9_held 32 = .ok (.ifCond .eq 5, 3) := by decide +kernel
theorem dX9_held_35 : decode cX9_held 35 = .ok (.iconst (-1), 1) := by decide +kernel
theorem dX9_held_36 : decode cX9_held 36 = .ok (.ireturn, 1) := by decide +kernel
theorem dX9_held_37 : decode cX9_held 37 = .ok (.aload_n 0, 1) := by decide +kernel
theorem dX9_held_38 : decode cX9_held 38 = .ok (.getfield 30, 3) := by decide +kernel
theorem dX9_held_41 : decode cX9_held 41 = .ok (.aload_n 0, 1) := by decide +kernel
theorem dX9_held_42 : decode cX9_held 42 = .ok (.getfield 12, 3) := by decide +kernel
theorem dX9_held_45 : decode cX9_held 45 = .ok (.iload_n 1, 1) := by decide +kernel
theorem dX9_held_46 : decode cX9_held 46 = .ok (.invokevirtual 237, 3) := by decide +kernel
theorem dX9_held_49 : decode cX9_held 49 = .ok (.iload_n 2, 1) := by decide +kernel
theorem dX9_held_50 : decode cX9_held 50 = .ok (.invokestatic 233, 3) := by decide +kernel
theorem dX9_held_53 : decode cX9_held 53 = .ok (.ireturn, 1) := by decide +kernel
theorem dX9_chain_0 : decode cX9_chain 0 = .ok (.aload_n 0, 1) := by decide +kernel
theorem dX9_chain_1 : decode cX9_chain 1 = .ok (.getfield 12, 3) := by decide +kernel
theorem dX9_chain_4 : decode cX9_chain 4 = .ok (.iload_n 1, 1) := by decide +kernel
theorem dX9_chain_5 : decode cX9_chain 5 = .ok (.i2l, 1) := by decide +kernel
theorem dX9_chain_6 : decode cX9_chain 6 = .ok (.invokevirtual 116, 3) := by decide +kernel
theorem dX9_chain_9 : decode cX9_chain 9 = .ok (.ifCond .eq 15, 3) := by decide +kernel
theorem dX9_chain_12 : decode cX9_chain 12 = .ok (.aload_n 0, 1) := by decide +kernel
theorem dX9_chain_13 : decode cX9_chain 13 = .ok (.getfield 12, 3) := by decide +kernel
theorem dX9_chain_16 : decode cX9_chain 16 = .ok (.iload_n 2, 1) := by decide +kernel
theorem dX9_chain_17 : decode cX9_chain 17 = .ok (.i2l, 1) := by decide +kernel
theorem dX9_chain_18 : decode cX9_chain 18 = .ok (.invokevirtual 116, 3) := by decide +kernel
theorem dX9_chain_21 : decode cX9_chain 21 = .ok (.ifCond .ne 5, 3) := by decide +kernel
theorem dX9_chain_24 : decode cX9_chain 24 = .ok (.iconst (-1), 1) := by decide +kernel
theorem dX9_chain_25 : decode cX9_chain 25 = .ok (.ireturn, 1) := by decide +kernel
theorem dX9_chain_26 : decode cX9_chain 26 = .ok (.aload_n 0, 1) := by decide +kernel
theorem dX9_chain_27 : decode cX9_chain 27 = .ok (.getfield 37, 3) := by decide +kernel
theorem dX9_chain_30 : decode cX9_chain 30 = .ok (.aload_n 0, 1) := by decide +kernel
theorem dX9_chain_31 : decode cX9_chain 31 = .ok (.getfield 12, 3) := by decide +kernel
theorem dX9_chain_34 : decode cX9_chain 34 = .ok (.iload_n 1, 1) := by decide +kernel
theorem dX9_chain_35 : decode cX9_chain 35 = .ok (.iload_n 2, 1) := by decide +kernel
theorem dX9_chain_36 : decode cX9_chain 36 = .ok (.invokevirtual 241, 3) := by decide +kernel
theorem dX9_chain_39 : decode cX9_chain 39 = .ok (.istore 4, 2) := by decide +kernel
theorem dX9_chain_41 : decode cX9_chain 41 = .ok (.iload_n 3, 1) := by decide +kernel
theorem dX9_chain_42 : decode cX9_chain 42 = .ok (.iconst (-1), 1) := by decide +kernel
theorem dX9_chain_43 : decode cX9_chain 43 = .ok (.if_icmp .ne 8, 3) := by decide +kernel
theorem dX9_chain_46 : decode cX9_chain 46 = .ok (.iload 4, 2) := by decide +kernel
theorem dX9_chain_48 : decode cX9_chain 48 = .ok (.goto 18, 3) := by decide +kernel
theorem dX9_chain_51 : decode cX9_chain 51 = .ok (.aload_n 0, 1) := by decide +kernel
theorem dX9_chain_52 : decode cX9_chain 52 = .ok (.getfield 37, 3) := by decide +kernel
theorem dX9_chain_55 : decode cX9_chain 55 = .ok (.aload_n 0, 1) := by decide +kernel
theorem dX9_chain_56 : decode cX9_chain 56 = .ok (.getfield 12, 3) := by decide +kernel
theorem dX9_chain_59 : decode cX9_chain 59 = .ok (.iload_n 1, 1) := by decide +kernel
theorem dX9_chain_60 : decode cX9_chain 60 = .ok (.iload 4, 2) := by decide +kernel
theorem dX9_chain_62 : decode cX9_chain 62 = .ok (.iload_n 3, 1) := by decide +kernel
theorem dX9_chain_63 : decode cX9_chain 63 = .ok (.invokevirtual 244, 3) := by decide +kernel
theorem dX9_chain_66 : decode cX9_chain 66 = .ok (.ireturn, 1) := by decide +kernel
theorem dX9_knots_0 : decode cX9_knots 0 = .ok (.aload_n 0, 1) := by decide +kernel
theorem dX9_knots_1 : decode cX9_knots 1 = .ok (.getfield 37, 3) := by decide +kernel
theorem dX9_knots_4 : decode cX9_knots 4 = .ok (.aload_n 0, 1) := by decide +kernel
theorem dX9_knots_5 : decode cX9_knots 5 = .ok (.getfield 12, 3) := by decide +kernel
theorem dX9_knots_8 : decode cX9_knots 8 = .ok (.invokevirtual 247, 3) := by decide +kernel
theorem dX9_knots_11 : decode cX9_knots 11 = .ok (.invokestatic 251, 3) := by decide +kernel
theorem dX9_knots_14 : decode cX9_knots 14 = .ok (.ireturn, 1) := by decide +kernel
theorem dX9_heads_0 : decode cX9_heads 0 = .ok (.iload_n 1, 1) := by decide +kernel
theorem dX9_heads_1 : decode cX9_heads 1 = .ok (.i2l, 1) := by decide +kernel
theorem dX9_heads_2 : decode cX9_heads 2 = .ok (.iconst 1, 1) := by decide +kernel
theorem dX9_heads_3 : decode cX9_heads 3 = .ok (.invokestatic 95, 3) := by decide +kernel
theorem dX9_heads_6 : decode cX9_heads 6 = .ok (.ifCond .eq 21, 3) := by decide +kernel
theorem dX9_heads_9 : decode cX9_heads 9 = .ok (.aload_n 0, 1) := by decide +kernel
theorem dX9_heads_10 : decode cX9_heads 10 = .ok (.getfield 37, 3) := by decide +kernel
theorem dX9_heads_13 : decode cX9_heads 13 = .ok (.aload_n 0, 1) := by decide +kernel
theorem dX9_heads_14 : decode cX9_heads 14 = .ok (.getfield 12, 3) := by decide +kernel
theorem dX9_heads_17 : decode cX9_heads 17 = .ok (.invokevirtual 256, 3) := by decide +kernel
theorem dX9_heads_20 : decode cX9_heads 20 = .ok (.iload_n 1, 1) := by decide +kernel
theorem dX9_heads_21 : decode cX9_heads 21 = .ok (.invokestatic 233, 3) := by decide +kernel
theorem dX9_heads_24 : decode cX9_heads 24 = .ok (.goto 4, 3) := by decide +kernel
theorem dX9_heads_27 : decode cX9_heads 27 = .ok (.iconst (-1), 1) := by decide +kernel
theorem dX9_heads_28 : decode cX9_heads 28 = .ok (.ireturn, 1) := by decide +kernel
theorem dX9_seen_0 : decode cX9_seen 0 = .ok (.iload_n 1, 1) := by decide +kernel
theorem dX9_seen_1 : decode cX9_seen 1 = .ok (.i2l, 1) := by decide +kernel
theorem dX9_seen_2 : decode cX9_seen 2 = .ok (.bipush 60, 2) := by decide +kernel
theorem dX9_seen_4 : decode cX9_seen 4 = .ok (.invokestatic 95, 3) := by decide +kernel
theorem dX9_seen_7 : decode cX9_seen 7 = .ok (.ifCond .eq 12, 3) := by decide +kernel
theorem dX9_seen_10 : decode cX9_seen 10 = .ok (.iload_n 2, 1) := by decide +kernel
theorem dX9_seen_11 : decode cX9_seen 11 = .ok (.i2l, 1) := by decide +kernel
theorem dX9_seen_12 : decode cX9_seen 12 = .ok (.iconst 1, 1) := by decide +kernel
theorem dX9_seen_13 : decode cX9_seen 13 = .ok (.invokestatic 95, 3) := by decide +kernel
theorem dX9_seen_16 : decode cX9_seen 16 = .ok (.ifCond .ne 9, 3) := by decide +kernel
theorem dX9_seen_19 : decode cX9_seen 19 = .ok (.aload_n 0, 1) := by decide +kernel
theorem dX9_seen_20 : decode cX9_seen 20 = .ok (.iconst (-1), 1) := by decide +kernel
theorem dX9_seen_21 : decode cX9_seen 21 = .ok (.invokevirtual 99, 3) := by decide +kernel
theorem dX9_seen_24 : decode cX9_seen 24 = .ok (.ireturn, 1) := by decide +kernel
theorem dX9_seen_25 : decode cX9_seen 25 = .ok (.aload_n 0, 1) := by decide +kernel
theorem dX9_seen_26 : decode cX9_seen 26 = .ok (.getfield 12, 3) := by decide +kernel
theorem dX9_seen_29 : decode cX9_seen 29 = .ok (.getfield 259, 3) := by decide +kernel
theorem dX9_seen_32 : decode cX9_seen 32 = .ok (.bipush 6, 2) := by decide +kernel
theorem dX9_seen_34 : decode cX9_seen 34 = .ok (.if_icmp .lt 10, 3) := by decide +kernel
theorem dX9_seen_37 : decode cX9_seen 37 = .ok (.aload_n 0, 1) := by decide +kernel
theorem dX9_seen_38 : decode cX9_seen 38 = .ok (.bipush (-5), 2) := by decide +kernel
theorem dX9_seen_40 : decode cX9_seen 40 = .ok (.invokevirtual 99, 3) := by decide +kernel
theorem dX9_seen_43 : decode cX9_seen 43 = .ok (.ireturn, 1) := by decide +kernel
theorem dX9_seen_44 : decode cX9_seen 44 = .ok (.aload_n 0, 1) := by decide +kernel
theorem dX9_seen_45 : decode cX9_seen 45 = .ok (.aload_n 0, 1) := by decide +kernel
theorem dX9_seen_46 : decode cX9_seen 46 = .ok (.getfield 12, 3) := by decide +kernel
theorem dX9_seen_49 : decode cX9_seen 49 = .ok (.iload_n 1, 1) := by decide +kernel
theorem dX9_seen_50 : decode cX9_seen 50 = .ok (.iload_n 2, 1) := by decide +kernel
theorem dX9_seen_51 : decode cX9_seen 51 = .ok (.invokevirtual 262, 3) := by decide +kernel
theorem dX9_seen_54 : decode cX9_seen 54 = .ok (.invokevirtual 113, 3) := by decide +kernel
theorem dX9_seen_57 : decode cX9_seen 57 = .ok (.ireturn, 1) := by decide +kernel
theorem dX9_forget_0 : decode cX9_forget 0 = .ok (.aload_n 0, 1) := by decide +kernel
theorem dX9_forget_1 : decode cX9_forget 1 = .ok (.getfield 12, 3) := by decide +kernel
theorem dX9_forget_4 : decode cX9_forget 4 = .ok (.getfield 259, 3) := by decide +kernel
theorem dX9_forget_7 : decode cX9_forget 7 = .ok (.istore_n 1, 1) := by decide +kernel
theorem dX9_forget_8 : decode cX9_forget 8 = .ok (.aload_n 0, 1) := by decide +kernel
theorem dX9_forget_9 : decode cX9_forget 9 = .ok (.getfield 12, 3) := by decide +kernel
theorem dX9_forget_12 : decode cX9_forget 12 = .ok (.iconst 0, 1) := by decide +kernel
theorem dX9_forget_13 : decode cX9_forget 13 = .ok (.putfield 259, 3) := by decide +kernel
theorem dX9_forget_16 : decode cX9_forget 16 = .ok (.iload_n 1, 1) := by decide +kernel
theorem dX9_forget_17 : decode cX9_forget 17 = .ok (.ireturn, 1) := by decide +kernel
theorem dX9_canBe_0 : decode cX9_canBe 0 = .ok (.aload_n 0, 1) := by decide +kernel
theorem dX9_canBe_1 : decode cX9_canBe 1 = .ok (.getfield 30, 3) := by decide +kernel
theorem dX9_canBe_4 : decode cX9_canBe 4 = .ok (.aload_n 0, 1) := by decide +kernel
theorem dX9_canBe_5 : decode cX9_canBe 5 = .ok (.getfield 12, 3) := by decide +kernel
theorem dX9_canBe_8 : decode cX9_canBe 8 = .ok (.invokevirtual 223, 3) := by decide +kernel
theorem dX9_canBe_11 : decode cX9_canBe 11 = .ok (.aload_n 0, 1) := by decide +kernel
theorem dX9_canBe_12 : decode cX9_canBe 12 = .ok (.getfield 30, 3) := by decide +kernel
theorem dX9_canBe_15 : decode cX9_canBe 15 = .ok (.aload_n 0, 1) := by decide +kernel
theorem dX9_canBe_16 : decode cX9_canBe 16 = .ok (.getfield 12, 3) := by decide +kernel
theorem dX9_canBe_19 : decode cX9_canBe 19 = .ok (.invokevirtual 265, 3) := by decide +kernel
theorem dX9_canBe_22 : decode cX9_canBe 22 = .ok (.ireturn, 1) := by decide +kernel
theorem dX9_look_0 : decode cX9_look 0 = .ok (.iload_n 1, 1) := by decide +kernel
theorem dX9_look_1 : decode cX9_look 1 = .ok (.i2l, 1) := by decide +kernel
theorem dX9_look_2 : decode cX9_look 2 = .ok (.iconst 1, 1) := by decide +kernel
theorem dX9_look_3 : decode cX9_look 3 = .ok (.invokestatic 95, 3) := by decide +kernel
theorem dX9_look_6 : decode cX9_look 6 = .ok (.ifCond .ne 5, 3) := by decide +kernel
theorem dX9_look_9 : decode cX9_look 9 = .ok (.iconst (-1), 1) := by decide +kernel
theorem dX9_look_10 : decode cX9_look 10 = .ok (.ireturn, 1) := by decide +kernel
theorem dX9_look_11 : decode cX9_look 11 = .ok (.aload_n 0, 1) := by decide +kernel
theorem dX9_look_12 : decode cX9_look 12 = .ok (.getfield 30, 3) := by decide +kernel
theorem dX9_look_15 : decode cX9_look 15 = .ok (.aload_n 0, 1) := by decide +kernel
theorem dX9_look_16 : decode cX9_look 16 = .ok (.getfield 12, 3) := by decide +kernel
theorem dX9_look_19 : decode cX9_look 19 = .ok (.invokevirtual 223, 3) := by decide +kernel
theorem dX9_look_22 : decode cX9_look 22 = .ok (.aload_n 0, 1) := by decide +kernel
theorem dX9_look_23 : decode cX9_look 23 = .ok (.getfield 30, 3) := by decide +kernel
theorem dX9_look_26 : decode cX9_look 26 = .ok (.aload_n 0, 1) := by decide +kernel
theorem dX9_look_27 : decode cX9_look 27 = .ok (.getfield 12, 3) := by decide +kernel
theorem dX9_look_30 : decode cX9_look 30 = .ok (.invokevirtual 265, 3) := by decide +kernel
theorem dX9_look_33 : decode cX9_look 33 = .ok (.istore_n 2, 1) := by decide +kernel
theorem dX9_look_34 : decode cX9_look 34 = .ok (.iload_n 2, 1) := by decide +kernel
theorem dX9_look_35 : decode cX9_look 35 = .ok (.ifCond .ne 5, 3) := by decide +kernel
theorem dX9_look_38 : decode cX9_look 38 = .ok (.iconst (-1), 1) := by decide +kernel
theorem dX9_look_39 : decode cX9_look 39 = .ok (.ireturn, 1) := by decide +kernel
theorem dX9_look_40 : decode cX9_look 40 = .ok (.aload_n 0, 1) := by decide +kernel
theorem dX9_look_41 : decode cX9_look 41 = .ok (.getfield 30, 3) := by decide +kernel
theorem dX9_look_44 : decode cX9_look 44 = .ok (.iload_n 2, 1) := by decide +kernel
theorem dX9_look_45 : decode cX9_look 45 = .ok (.invokevirtual 268, 3) := by decide +kernel
theorem dX9_look_48 : decode cX9_look 48 = .ok (.istore_n 3, 1) := by decide +kernel
theorem dX9_look_49 : decode cX9_look 49 = .ok (.iload_n 1, 1) := by decide +kernel
theorem dX9_look_50 : decode cX9_look 50 = .ok (.ifCond .ne 7, 3) := by decide +kernel
theorem dX9_look_53 : decode cX9_look 53 = .ok (.iload_n 3, 1) := by decide +kernel
theorem dX9_look_54 : decode cX9_look 54 = .ok (.goto 12, 3) := by decide +kernel
theorem dX9_look_57 : decode cX9_look 57 = .ok (.aload_n 0, 1) := by decide +kernel
theorem dX9_look_58 : decode cX9_look 58 = .ok (.getfield 30, 3) := by decide +kernel
theorem dX9_look_61 : decode cX9_look 61 = .ok (.iload_n 2, 1) := by decide +kernel
theorem dX9_look_62 : decode cX9_look 62 = .ok (.iload_n 3, 1) := by decide +kernel
theorem dX9_look_63 : decode cX9_look 63 = .ok (.invokevirtual 271, 3) := by decide +kernel
theorem dX9_look_66 : decode cX9_look 66 = .ok (.ireturn, 1) := by decide +kernel
theorem dX9_few_0 : decode cX9_few 0 = .ok (.iload_n 1, 1) := by decide +kernel
theorem dX9_few_1 : decode cX9_few 1 = .ok (.iconst 1, 1) := by decide +kernel
theorem dX9_few_2 : decode cX9_few 2 = .ok (.if_icmp .lt 19, 3) := by decide +kernel
theorem dX9_few_5 : decode cX9_few 5 = .ok (.iload_n 1, 1) := by decide +kernel
theorem dX9_few_6 : decode cX9_few 6 = .ok (.bipush 20, 2) := by decide +kernel
theorem dX9_few_8 : decode cX9_few 8 = .ok (.if_icmp .gt 13, 3) := by decide +kernel
theorem dX9_few_11 : decode cX9_few 11 = .ok (.iload_n 2, 1) := by decide +kernel
theorem dX9_few_12 : decode cX9_few 12 = .ok (.i2l, 1) := by decide +kernel
theorem dX9_few_13 : decode cX9_few 13 = .ok (.bipush 99, 2) := by decide +kernel
theorem dX9_few_15 : decode cX9_few 15 = .ok (.invokestatic 95, 3) := by decide +kernel
theorem dX9_few_18 : decode cX9_few 18 = .ok (.ifCond .ne 7, 3) := by decide +kernel
theorem dX9_few_21 : decode cX9_few 21 = .ok (.ldc2_w 274, 3) := by decide +kernel
theorem dX9_few_24 : decode cX9_few 24 = .ok (.lreturn, 1) := by decide +kernel
theorem dX9_few_25 : decode cX9_few 25 = .ok (.aload_n 0, 1) := by decide +kernel
theorem dX9_few_26 : decode cX9_few 26 = .ok (.getfield 76, 3) := by decide +kernel
theorem dX9_few_29 : decode cX9_few 29 = .ok (.lconst 0, 1) := by decide +kernel
theorem dX9_few_30 : decode cX9_few 30 = .ok (.invokestatic 276, 3) := by decide +kernel
theorem dX9_few_33 : decode cX9_few 33 = .ok (.aload_n 0, 1) := by decide +kernel
theorem dX9_few_34 : decode cX9_few 34 = .ok (.getfield 76, 3) := by decide +kernel
theorem dX9_few_37 : decode cX9_few 37 = .ok (.iconst 0, 1) := by decide +kernel
theorem dX9_few_38 : decode cX9_few 38 = .ok (.ldc2_w 282, 3) := by decide +kernel
theorem dX9_few_41 : decode cX9_few 41 = .ok (.lastore, 1) := by decide +kernel
theorem dX9_few_42 : decode cX9_few 42 = .ok (.aload_n 0, 1) := by decide +kernel
theorem dX9_few_43 : decode cX9_few 43 = .ok (.getfield 12, 3) := by decide +kernel
theorem dX9_few_46 : decode cX9_few 46 = .ok (.getfield 284, 3) := by decide +kernel
theorem dX9_few_49 : decode cX9_few 49 = .ok (.istore_n 3, 1) := by decide +kernel
theorem dX9_few_50 : decode cX9_few 50 = .ok (.iconst 0, 1) := by decide +kernel
theorem dX9_few_51 : decode cX9_few 51 = .ok (.istore 4, 2) := by decide +kernel
theorem dX9_few_53 : decode cX9_few 53 = .ok (.iload 4, 2) := by decide +kernel
theorem dX9_few_55 : decode cX9_few 55 = .ok (.iload_n 2, 1) := by decide +kernel
theorem dX9_few_56 : decode cX9_few 56 = .ok (.if_icmp .ge 79, 3) := by decide +kernel
theorem dX9_few_59 : decode cX9_few 59 = .ok (.iload_n 1, 1) := by decide +kernel
theorem dX9_few_60 : decode cX9_few 60 = .ok (.iconst 1, 1) := by decide +kernel
theorem dX9_few_61 : decode cX9_few 61 = .ok (.isub, 1) := by decide +kernel
theorem dX9_few_62 : decode cX9_few 62 = .ok (.istore 5, 2) := by decide +kernel
theorem dX9_few_64 : decode cX9_few 64 = .ok (.iload 5, 2) := by decide +kernel
theorem dX9_few_66 : decode cX9_few 66 = .ok (.ifCond .lt 63, 3) := by decide +kernel
theorem dX9_few_69 : decode cX9_few 69 = .ok (.iload 5, 2) := by decide +kernel
theorem dX9_few_71 : decode cX9_few 71 = .ok (.ifCond .le 22, 3) := by decide +kernel
theorem dX9_few_74 : decode cX9_few 74 = .ok (.aload_n 0, 1) := by decide +kernel
theorem dX9_few_75 : decode cX9_few 75 = .ok (.getfield 76, 3) := by decide +kernel
theorem dX9_few_78 : decode cX9_few 78 = .ok (.iload 5, 2) := by decide +kernel
theorem dX9_few_80 : decode cX9_few 80 = .ok (.iconst 1, 1) := by decide +kernel
theorem dX9_few_81 : decode cX9_few 81 = .ok (.isub, 1) := by decide +kernel
theorem dX9_few_82 : decode cX9_few 82 = .ok (.laload, 1) := by decide +kernel
theorem dX9_few_83 : decode cX9_few 83 = .ok (.iload_n 3, 1) := by decide +kernel
theorem dX9_few_84 : decode cX9_few 84 = .ok (.i2l, 1) := by decide +kernel
theorem dX9_few_85 : decode cX9_few 85 = .ok (.lmul, 1) := by decide +kernel
theorem dX9_few_86 : decode cX9_few 86 = .ok (.ldc2_w 287, 3) := by decide +kernel
theorem dX9_few_89 : decode cX9_few 89 = .ok (.ldiv, 1) := by decide +kernel
theorem dX9_few_90 : decode cX9_few 90 = .ok (.goto 4, 3) := by decide +kernel
theorem dX9_few_93 : decode cX9_few 93 = .ok (.lconst 0, 1) := by decide +kernel
theorem dX9_few_94 : decode cX9_few 94 = .ok (.lstore 6, 2) := by decide +kernel
theorem dX9_few_96 : decode cX9_few 96 = .ok (.aload_n 0, 1) := by decide +kernel
theorem dX9_few_97 : decode cX9_few 97 = .ok (.getfield 76, 3) := by decide +kernel
theorem dX9_few_100 : decode cX9_few 100 = .ok (.iload 5, 2) := by decide +kernel
theorem dX9_few_102 : decode cX9_few 102 = .ok (.aload_n 0, 1) := by decide +kernel
theorem dX9_few_103 : decode cX9_few 103 = .ok (.getfield 76, 3) := by decide +kernel
theorem dX9_few_106 : decode cX9_few 106 = .ok (.iload 5, 2) := by decide +kernel
theorem dX9_few_108 : decode cX9_few 108 = .ok (.laload, 1) := by decide +kernel
theorem dX9_few_109 : decode cX9_few 109 = .ok (.bipush 10, 2) := by decide +kernel
theorem dX9_few_111 : decode cX9_few 111 = .ok (.iload_n 3, 1) := by decide +kernel
theorem dX9_few_112 : decode cX9_few 112 = .ok (.isub, 1) := by decide +kernel
theorem dX9_few_113 : decode cX9_few 113 = .ok (.i2l, 1) := by decide +kernel
theorem dX9_few_114 : decode cX9_few 114 = .ok (.lmul, 1) := by decide +kernel
theorem dX9_few_115 : decode cX9_few 115 = .ok (.ldc2_w 287, 3) := by decide +kernel
theorem dX9_few_118 : decode cX9_few 118 = .ok (.ldiv, 1) := by decide +kernel
theorem dX9_few_119 : decode cX9_few 119 = .ok (.lload 6, 2) := by decide +kernel
theorem dX9_few_121 : decode cX9_few 121 = .ok (.ladd, 1) := by decide +kernel
theorem dX9_few_122 : decode cX9_few 122 = .ok (.lastore, 1) := by decide +kernel
theorem dX9_few_123 : decode cX9_few 123 = .ok (.iinc 5 (-1), 3) := by decide +kernel
theorem dX9_few_126 : decode cX9_few 126 = .ok (.goto (-62), 3) := by decide +kernel
theorem dX9_few_129 : decode cX9_few 129 = .ok (.iinc 4 1, 3) := by decide +kernel
theorem dX9_few_132 : decode cX9_few 132 = .ok (.goto (-79), 3) := by decide +kernel
theorem dX9_few_135 : decode cX9_few 135 = .ok (.lconst 0, 1) := by decide +kernel
theorem dX9_few_136 : decode cX9_few 136 = .ok (.lstore 4, 2) := by decide +kernel
theorem dX9_few_138 : decode cX9_few 138 = .ok (.iconst 0, 1) := by decide +kernel
theorem dX9_few_139 : decode cX9_few 139 = .ok (.istore 6, 2) := by decide +kernel
theorem dX9_few_141 : decode cX9_few 141 = .ok (.iload 6, 2) := by decide +kernel
theorem dX9_few_143 : decode cX9_few 143 = .ok (.iload_n 1, 1) := by decide +kernel
theorem dX9_few_144 : decode cX9_few 144 = .ok (.if_icmp .ge 21, 3) := by decide +kernel
theorem dX9_few_147 : decode cX9_few 147 = .ok (.lload 4, 2) := by decide +kernel
theorem dX9_few_149 : decode cX9_few 149 = .ok (.aload_n 0, 1) := by decide +kernel
theorem dX9_few_150 : decode cX9_few 150 = .ok (.getfield 76, 3) := by decide +kernel
theorem dX9_few_153 : decode cX9_few 153 = .ok (.iload 6, 2) := by decide +kernel
theorem dX9_few_155 : decode cX9_few 155 = .ok (.laload, 1) := by decide +kernel
theorem dX9_few_156 : decode cX9_few 156 = .ok (.ladd, 1) := by decide +kernel
theorem dX9_few_157 : decode cX9_few 157 = .ok (.lstore 4, 2) := by decide +kernel
theorem dX9_few_159 : decode cX9_few 159 = .ok (.iinc 6 1, 3) := by decide +kernel
theorem dX9_few_162 : decode cX9_few 162 = .ok (.goto (-21), 3) := by decide +kernel
theorem dX9_few_165 : decode cX9_few 165 = .ok (.lload 4, 2) := by decide +kernel
theorem dX9_few_167 : decode cX9_few 167 = .ok (.lreturn, 1) := by decide +kernel
theorem dX9_compare_0 : decode cX9_compare 0 = .ok (.aload_n 0, 1) := by decide +kernel
theorem dX9_compare_1 : decode cX9_compare 1 = .ok (.getfield 12, 3) := by decide +kernel
theorem dX9_compare_4 : decode cX9_compare 4 = .ok (.iload_n 1, 1) := by decide +kernel
theorem dX9_compare_5 : decode cX9_compare 5 = .ok (.invokevirtual 195, 3) := by decide +kernel
theorem dX9_compare_8 : decode cX9_compare 8 = .ok (.astore_n 2, 1) := by decide +kernel
theorem dX9_compare_9 : decode cX9_compare 9 = .ok (.iload_n 1, 1) := by decide +kernel
theorem dX9_compare_10 : decode cX9_compare 10 = .ok (.iconst (-1), 1) := by decide +kernel
theorem dX9_compare_11 : decode cX9_compare 11 = .ok (.if_icmp .eq 9, 3) := by decide +kernel
theorem dX9_compare_14 : decode cX9_compare 14 = .ok (.aload_n 2, 1) := by decide +kernel
theorem dX9_compare_15 : decode cX9_compare 15 = .ok (.ifnonnull 5, 3) := by decide +kernel
theorem dX9_compare_18 : decode cX9_compare 18 = .ok (.iconst (-1), 1) := by decide +kernel
theorem dX9_compare_19 : decode cX9_compare 19 = .ok (.ireturn, 1) := by decide +kernel
theorem dX9_compare_20 : decode cX9_compare 20 = .ok (.aload_n 0, 1) := by decide +kernel
theorem dX9_compare_21 : decode cX9_compare 21 = .ok (.getfield 30, 3) := by decide +kernel
theorem dX9_compare_24 : decode cX9_compare 24 = .ok (.aload_n 0, 1) := by decide +kernel
theorem dX9_compare_25 : decode cX9_compare 25 = .ok (.getfield 12, 3) := by decide +kernel
theorem dX9_compare_28 : decode cX9_compare 28 = .ok (.aload_n 2, 1) := by decide +kernel
theorem dX9_compare_29 : decode cX9_compare 29 = .ok (.invokevirtual 289, 3) := by decide +kernel
theorem dX9_compare_32 : decode cX9_compare 32 = .ok (.ireturn, 1) := by decide +kernel
theorem dX9_councils_0 : decode cX9_councils 0 = .ok (.iload_n 1, 1) := by decide +kernel
theorem dX9_councils_1 : decode cX9_councils 1 = .ok (.i2l, 1) := by decide +kernel
theorem dX9_councils_2 : decode cX9_councils 2 = .ok (.ldc_w 293, 3) := by decide +kernel
theorem dX9_councils_5 : decode cX9_councils 5 = .ok (.invokestatic 95, 3) := by decide +kernel
theorem dX9_councils_8 : decode cX9_councils 8 = .ok (.ifCond .eq 14, 3) := by decide +kernel
theorem dX9_councils_11 : decode cX9_councils 11 = .ok (.iload_n 2, 1) := by decide +kernel
theorem dX9_councils_12 : decode cX9_councils 12 = .ok (.iconst 1, 1) := by decide +kernel
theorem dX9_councils_13 : decode cX9_councils 13 = .ok (.if_icmp .lt 9, 3) := by decide +kernel
theorem dX9_councils_16 : decode cX9_councils 16 = .ok (.iload_n 2, 1) := by decide +kernel
theorem dX9_councils_17 : decode cX9_councils 17 = .ok (.bipush 60, 2) := by decide +kernel
theorem dX9_councils_19 : decode cX9_councils 19 = .ok (.if_icmp .le 9, 3) := by decide +kernel
theorem dX9_councils_22 : decode cX9_councils 22 = .ok (.aload_n 0, 1) := by decide +kernel
theorem dX9_councils_23 : decode cX9_councils 23 = .ok (.iconst (-1), 1) := by decide +kernel
theorem dX9_councils_24 : decode cX9_councils 24 = .ok (.invokevirtual 99, 3) := by decide +kernel
theorem dX9_councils_27 : decode cX9_councils 27 = .ok (.ireturn, 1) := by decide +kernel
theorem dX9_councils_28 : decode cX9_councils 28 = .ok (.aload_n 0, 1) := by decide +kernel
theorem dX9_councils_29 : decode cX9_councils 29 = .ok (.getfield 12, 3) := by decide +kernel
theorem dX9_councils_32 : decode cX9_councils 32 = .ok (.getfield 103, 3) := by decide +kernel
theorem dX9_councils_35 : decode cX9_councils 35 = .ok (.ifCond .ne 10, 3) := by decide +kernel
theorem dX9_councils_38 : decode cX9_councils 38 = .ok (.aload_n 0, 1) := by decide +kernel
theorem dX9_councils_39 : decode cX9_councils 39 = .ok (.bipush (-3), 2) := by decide +kernel
theorem dX9_councils_41 : decode cX9_councils 41 = .ok (.invokevirtual 99, 3) := by decide +kernel
theorem dX9_councils_44 : decode cX9_councils 44 = .ok (.ireturn, 1) := by decide +kernel
theorem dX9_councils_45 : decode cX9_councils 45 = .ok (.aload_n 0, 1) := by decide +kernel
theorem dX9_councils_46 : decode cX9_councils 46 = .ok (.getfield 44, 3) := by decide +kernel
theorem dX9_councils_49 : decode cX9_councils 49 = .ok (.aload_n 0, 1) := by decide +kernel
theorem dX9_councils_50 : decode cX9_councils 50 = .ok (.getfield 12, 3) := by decide +kernel
theorem dX9_councils_53 : decode cX9_councils 53 = .ok (.getfield 123, 3) := by decide +kernel
theorem dX9_councils_56 : decode cX9_councils 56 = .ok (.invokevirtual 184, 3) := by decide +kernel
theorem dX9_councils_59 : decode cX9_councils 59 = .ok (.aload_n 0, 1) := by decide +kernel
theorem dX9_councils_60 : decode cX9_councils 60 = .ok (.aload_n 0, 1) := by decide +kernel
theorem dX9_councils_61 : decode cX9_councils 61 = .ok (.getfield 12, 3) := by decide +kernel
theorem dX9_councils_64 : decode cX9_councils 64 = .ok (.getfield 103, 3) := by decide +kernel
theorem dX9_councils_67 : decode cX9_councils 67 = .ok (.putfield 48, 3) := by decide +kernel
theorem dX9_councils_70 : decode cX9_councils 70 = .ok (.aload_n 0, 1) := by decide +kernel
theorem dX9_councils_71 : decode cX9_councils 71 = .ok (.getfield 30, 3) := by decide +kernel
theorem dX9_councils_74 : decode cX9_councils 74 = .ok (.aload_n 0, 1) := by decide +kernel
theorem dX9_councils_75 : decode cX9_councils 75 = .ok (.getfield 12, 3) := by decide +kernel
theorem dX9_councils_78 : decode cX9_councils 78 = .ok (.aload_n 0, 1) := by decide +kernel
theorem dX9_councils_79 : decode cX9_councils 79 = .ok (.getfield 44, 3) := by decide +kernel
theorem dX9_councils_82 : decode cX9_councils 82 = .ok (.iload_n 1, 1) := by decide +kernel
theorem dX9_councils_83 : decode cX9_councils 83 = .ok (.iload_n 2, 1) := by decide +kernel
theorem dX9_councils_84 : decode cX9_councils 84 = .ok (.invokevirtual 294, 3) := by decide +kernel
theorem dX9_councils_87 : decode cX9_councils 87 = .ok (.aload_n 0, 1) := by decide +kernel
theorem dX9_councils_88 : decode cX9_councils 88 = .ok (.aload_n 0, 1) := by decide +kernel
theorem dX9_councils_89 : decode cX9_councils 89 = .ok (.getfield 44, 3) := by decide +kernel
theorem dX9_councils_92 : decode cX9_councils 92 = .ok (.getfield 209, 3) := by decide +kernel
theorem dX9_councils_95 : decode cX9_councils 95 = .ok (.invokevirtual 113, 3) := by decide +kernel
theorem dX9_councils_98 : decode cX9_councils 98 = .ok (.ireturn, 1) := by decide +kernel
theorem dX9_drawn_0 : decode cX9_drawn 0 = .ok (.iload_n 1, 1) := by decide +kernel
theorem dX9_drawn_1 : decode cX9_drawn 1 = .ok (.ifCond .lt 11, 3) := by decide +kernel
theorem dX9_drawn_4 : decode cX9_drawn 4 = .ok (.iload_n 1, 1) := by decide +kernel
theorem dX9_drawn_5 : decode cX9_drawn 5 = .ok (.aload_n 0, 1) := by decide +kernel
theorem dX9_drawn_6 : decode cX9_drawn 6 = .ok (.getfield 48, 3) := by decide +kernel
theorem dX9_drawn_9 : decode cX9_drawn 9 = .ok (.if_icmp .lt 5, 3) := by decide +kernel
theorem dX9_drawn_12 : decode cX9_drawn 12 = .ok (.iconst (-1), 1) := by decide +kernel
theorem dX9_drawn_13 : decode cX9_drawn 13 = .ok (.ireturn, 1) := by decide +kernel
theorem dX9_drawn_14 : decode cX9_drawn 14 = .ok (.iload_n 2, 1) := by decide +kernel
theorem dX9_drawn_15 : decode cX9_drawn 15 = .ok (.tableswitch 62 0 2 #[25, 35, 52], 25) := by decide +kernel
theorem dX9_drawn_40 : decode cX9_drawn 40 = .ok (.aload_n 0, 1) := by decide +kernel
theorem dX9_drawn_41 : decode cX9_drawn 41 = .ok (.getfield 44, 3) := by decide +kernel
theorem dX9_drawn_44 : decode cX9_drawn 44 = .ok (.getfield 126, 3) := by decide +kernel
theorem dX9_drawn_47 : decode cX9_drawn 47 = .ok (.iload_n 1, 1) := by decide +kernel
theorem dX9_drawn_48 : decode cX9_drawn 48 = .ok (.iaload, 1) := by decide +kernel
theorem dX9_drawn_49 : decode cX9_drawn 49 = .ok (.ireturn, 1) := by decide +kernel
theorem dX9_drawn_50 : decode cX9_drawn 50 = .ok (.aload_n 0, 1) := by decide +kernel
theorem dX9_drawn_51 : decode cX9_drawn 51 = .ok (.getfield 44, 3) := by decide +kernel
theorem dX9_drawn_54 : decode cX9_drawn 54 = .ok (.iload_n 1, 1) := by decide +kernel
theorem dX9_drawn_55 : decode cX9_drawn 55 = .ok (.invokevirtual 135, 3) := by decide +kernel
theorem dX9_drawn_58 : decode cX9_drawn 58 = .ok (.ifCond .eq 7, 3) := by decide +kernel
theorem dX9_drawn_61 : decode cX9_drawn 61 = .ok (.iconst 1, 1) := by decide +kernel
theorem dX9_drawn_62 : decode cX9_drawn 62 = .ok (.goto 4, 3) := by decide +kernel
theorem dX9_drawn_65 : decode cX9_drawn 65 = .ok (.iconst 0, 1) := by decide +kernel
theorem dX9_drawn_66 : decode cX9_drawn 66 = .ok (.ireturn, 1) := by decide +kernel
theorem dX9_drawn_67 : decode cX9_drawn 67 = .ok (.aload_n 0, 1) := by decide +kernel
theorem dX9_drawn_68 : decode cX9_drawn 68 = .ok (.getfield 44, 3) := by decide +kernel
theorem dX9_drawn_71 : decode cX9_drawn 71 = .ok (.getfield 139, 3) := by decide +kernel
theorem dX9_drawn_74 : decode cX9_drawn 74 = .ok (.iload_n 1, 1) := by decide +kernel
theorem dX9_drawn_75 : decode cX9_drawn 75 = .ok (.iaload, 1) := by decide +kernel
theorem dX9_drawn_76 : decode cX9_drawn 76 = .ok (.ireturn, 1) := by decide +kernel
theorem dX9_drawn_77 : decode cX9_drawn 77 = .ok (.iconst (-1), 1) := by decide +kernel
theorem dX9_drawn_78 : decode cX9_drawn 78 = .ok (.ireturn, 1) := by decide +kernel
theorem dX9_image_0 : decode cX9_image 0 = .ok (.iload_n 1, 1) := by decide +kernel
theorem dX9_image_1 : decode cX9_image 1 = .ok (.i2l, 1) := by decide +kernel
theorem dX9_image_2 : decode cX9_image 2 = .ok (.iconst 1, 1) := by decide +kernel
theorem dX9_image_3 : decode cX9_image 3 = .ok (.invokestatic 95, 3) := by decide +kernel
theorem dX9_image_6 : decode cX9_image 6 = .ok (.ifCond .ne 9, 3) := by decide +kernel
theorem dX9_image_9 : decode cX9_image 9 = .ok (.aload_n 0, 1) := by decide +kernel
theorem dX9_image_10 : decode cX9_image 10 = .ok (.iconst (-1), 1) := by decide +kernel
theorem dX9_image_11 : decode cX9_image 11 = .ok (.invokevirtual 99, 3) := by decide +kernel
theorem dX9_image_14 : decode cX9_image 14 = .ok (.ireturn, 1) := by decide +kernel
theorem dX9_image_15 : decode cX9_image 15 = .ok (.aload_n 0, 1) := by decide +kernel
theorem dX9_image_16 : decode cX9_image 16 = .ok (.getfield 16, 3) := by decide +kernel
theorem dX9_image_19 : decode cX9_image 19 = .ok (.iload_n 1, 1) := by decide +kernel
theorem dX9_image_20 : decode cX9_image 20 = .ok (.aaload, 1) := by decide +kernel
theorem dX9_image_21 : decode cX9_image 21 = .ok (.astore_n 2, 1) := by decide +kernel
theorem dX9_image_22 : decode cX9_image 22 = .ok (.aload_n 2, 1) := by decide +kernel
theorem dX9_image_23 : decode cX9_image 23 = .ok (.ifnonnull 18, 3) := by decide +kernel
theorem dX9_image_26 : decode cX9_image 26 = .ok (.new 9, 3) := by decide +kernel
theorem dX9_image_29 : decode cX9_image 29 = .ok (.dup, 1) := by decide +kernel
theorem dX9_image_30 : decode cX9_image 30 = .ok (.invokespecial 11, 3) := by decide +kernel
theorem dX9_image_33 : decode cX9_image 33 = .ok (.astore_n 2, 1) := by decide +kernel
theorem dX9_image_34 : decode cX9_image 34 = .ok (.aload_n 0, 1) := by decide +kernel
theorem dX9_image_35 : decode cX9_image 35 = .ok (.getfield 16, 3) := by decide +kernel
theorem dX9_image_38 : decode cX9_image 38 = .ok (.iload_n 1, 1) := by decide +kernel
theorem dX9_image_39 : decode cX9_image 39 = .ok (.aload_n 2, 1) := by decide +kernel
theorem dX9_image_40 : decode cX9_image 40 = .ok (.aastore, 1) := by decide +kernel
theorem dX9_image_41 : decode cX9_image 41 = .ok (.aload_n 2, 1) := by decide +kernel
theorem dX9_image_42 : decode cX9_image 42 = .ok (.aload_n 0, 1) := by decide +kernel
theorem dX9_image_43 : decode cX9_image 43 = .ok (.getfield 12, 3) := by decide +kernel
theorem dX9_image_46 : decode cX9_image 46 = .ok (.invokevirtual 298, 3) := by decide +kernel
theorem dX9_image_49 : decode cX9_image 49 = .ok (.aload_n 0, 1) := by decide +kernel
theorem dX9_image_50 : decode cX9_image 50 = .ok (.iconst 0, 1) := by decide +kernel
theorem dX9_image_51 : decode cX9_image 51 = .ok (.invokevirtual 113, 3) := by decide +kernel
theorem dX9_image_54 : decode cX9_image 54 = .ok (.ireturn, 1) := by decide +kernel
theorem dX9_back_0 : decode cX9_back 0 = .ok (.iload_n 1, 1) := by decide +kernel
theorem dX9_back_1 : decode cX9_back 1 = .ok (.i2l, 1) := by decide +kernel
theorem dX9_back_2 : decode cX9_back 2 = .ok (.iconst 1, 1) := by decide +kernel
theorem dX9_back_3 : decode cX9_back 3 = .ok (.invokestatic 95, 3) := by decide +kernel
theorem dX9_back_6 : decode cX9_back 6 = .ok (.ifCond .ne 9, 3) := by decide +kernel
theorem dX9_back_9 : decode cX9_back 9 = .ok (.aload_n 0, 1) := by decide +kernel
theorem dX9_back_10 : decode cX9_back 10 = .ok (.iconst (-1), 1) := by decide +kernel
theorem dX9_back_11 : decode cX9_back 11 = .ok (.invokevirtual 99, 3) := by decide +kernel
theorem dX9_back_14 : decode cX9_back 14 = .ok (.ireturn, 1) := by decide +kernel
theorem dX9_back_15 : decode cX9_back 15 = .ok (.aload_n 0, 1) := by decide +kernel
theorem dX9_back_16 : decode cX9_back 16 = .ok (.getfield 16, 3) := by decide +kernel
theorem dX9_back_19 : decode cX9_back 19 = .ok (.iload_n 1, 1) := by decide +kernel
theorem dX9_back_20 : decode cX9_back 20 = .ok (.aaload, 1) := by decide +kernel
theorem dX9_back_21 : decode cX9_back 21 = .ok (.astore_n 2, 1) := by decide +kernel
theorem dX9_back_22 : decode cX9_back 22 = .ok (.aload_n 2, 1) := by decide +kernel
theorem dX9_back_23 : decode cX9_back 23 = .ok (.ifnonnull 10, 3) := by decide +kernel
theorem dX9_back_26 : decode cX9_back 26 = .ok (.aload_n 0, 1) := by decide +kernel
theorem dX9_back_27 : decode cX9_back 27 = .ok (.bipush (-2), 2) := by decide +kernel
theorem dX9_back_29 : decode cX9_back 29 = .ok (.invokevirtual 99, 3) := by decide +kernel
theorem dX9_back_32 : decode cX9_back 32 = .ok (.ireturn, 1) := by decide +kernel
theorem dX9_back_33 : decode cX9_back 33 = .ok (.aload_n 0, 1) := by decide +kernel
theorem dX9_back_34 : decode cX9_back 34 = .ok (.getfield 12, 3) := by decide +kernel
theorem dX9_back_37 : decode cX9_back 37 = .ok (.aload_n 2, 1) := by decide +kernel
theorem dX9_back_38 : decode cX9_back 38 = .ok (.invokevirtual 298, 3) := by decide +kernel
theorem dX9_back_41 : decode cX9_back 41 = .ok (.aload_n 0, 1) := by decide +kernel
theorem dX9_back_42 : decode cX9_back 42 = .ok (.getfield 23, 3) := by decide +kernel
theorem dX9_back_45 : decode cX9_back 45 = .ok (.invokevirtual 106, 3) := by decide +kernel
theorem dX9_back_48 : decode cX9_back 48 = .ok (.aload_n 0, 1) := by decide +kernel
theorem dX9_back_49 : decode cX9_back 49 = .ok (.iconst 0, 1) := by decide +kernel
theorem dX9_back_50 : decode cX9_back 50 = .ok (.invokevirtual 113, 3) := by decide +kernel
theorem dX9_back_53 : decode cX9_back 53 = .ok (.ireturn, 1) := by decide +kernel
theorem dX9_count_0 : decode cX9_count 0 = .ok (.iload_n 1, 1) := by decide +kernel
theorem dX9_count_1 : decode cX9_count 1 = .ok (.bipush 6, 2) := by decide +kernel
theorem dX9_count_3 : decode cX9_count 3 = .ok (.if_icmp .lt 19, 3) := by decide +kernel
theorem dX9_count_6 : decode cX9_count 6 = .ok (.iload_n 1, 1) := by decide +kernel
theorem dX9_count_7 : decode cX9_count 7 = .ok (.bipush 11, 2) := by decide +kernel
theorem dX9_count_9 : decode cX9_count 9 = .ok (.if_icmp .ge 13, 3) := by decide +kernel
theorem dX9_count_12 : decode cX9_count 12 = .ok (.aload_n 0, 1) := by decide +kernel
theorem dX9_count_13 : decode cX9_count 13 = .ok (.getfield 80, 3) := by decide +kernel
theorem dX9_count_16 : decode cX9_count 16 = .ok (.iload_n 1, 1) := by decide +kernel
theorem dX9_count_17 : decode cX9_count 17 = .ok (.bipush 6, 2) := by decide +kernel
theorem dX9_count_19 : decode cX9_count 19 = .ok (.isub, 1) := by decide +kernel
theorem dX9_count_20 : decode cX9_count 20 = .ok (.iaload, 1) := by decide +kernel
theorem dX9_count_21 : decode cX9_count 21 = .ok (.ireturn, 1) := by decide +kernel
theorem dX9_count_22 : decode cX9_count 22 = .ok (.iload_n 1, 1) := by decide +kernel
theorem dX9_count_23 : decode cX9_count 23 = .ok (.bipush 12, 2) := by decide +kernel
theorem dX9_count_25 : decode cX9_count 25 = .ok (.if_icmp .lt 21, 3) := by decide +kernel
theorem dX9_count_28 : decode cX9_count 28 = .ok (.iload_n 1, 1) := by decide +kernel
theorem dX9_count_29 : decode cX9_count 29 = .ok (.bipush 16, 2) := by decide +kernel
theorem dX9_count_31 : decode cX9_count 31 = .ok (.if_icmp .ge 15, 3) := by decide +kernel
theorem dX9_count_34 : decode cX9_count 34 = .ok (.aload_n 0, 1) := by decide +kernel
theorem dX9_count_35 : decode cX9_count 35 = .ok (.getfield 12, 3) := by decide +kernel
theorem dX9_count_38 : decode cX9_count 38 = .ok (.iload_n 1, 1) := by decide +kernel
theorem dX9_count_39 : decode cX9_count 39 = .ok (.bipush 12, 2) := by decide +kernel
theorem dX9_count_41 : decode cX9_count 41 = .ok (.isub, 1) := by decide +kernel
theorem dX9_count_42 : decode cX9_count 42 = .ok (.invokevirtual 149, 3) := by decide +kernel
theorem dX9_count_45 : decode cX9_count 45 = .ok (.ireturn, 1) := by decide +kernel
theorem dX9_count_46 : decode cX9_count 46 = .ok (.iload_n 1, 1) := by decide +kernel
theorem dX9_count_47 : decode cX9_count 47 = .ok (.tableswitch 117 0 11 #[61, 69, 80, 88, 96, 104, 117, 117, 117, 117, 117, 109], 61) := by decide +kernel
theorem dX9_count_108 : decode cX9_count 108 = .ok (.aload_n 0, 1) := by decide +kernel
theorem dX9_count_109 : decode cX9_count 109 = .ok (.getfield 12, 3) := by decide +kernel
theorem dX9_count_112 : decode cX9_count 112 = .ok (.getfield 103, 3) := by decide +kernel
theorem dX9_count_115 : decode cX9_count 115 = .ok (.ireturn, 1) := by decide +kernel
theorem dX9_count_116 : decode cX9_count 116 = .ok (.aload_n 0, 1) := by decide +kernel
theorem dX9_count_117 : decode cX9_count 117 = .ok (.getfield 12, 3) := by decide +kernel
theorem dX9_count_120 : decode cX9_count 120 = .ok (.getfield 123, 3) := by decide +kernel
theorem dX9_count_123 : decode cX9_count 123 = .ok (.invokevirtual 300, 3) := by decide +kernel
theorem dX9_count_126 : decode cX9_count 126 = .ok (.ireturn, 1) := by decide +kernel
theorem dX9_count_127 : decode cX9_count 127 = .ok (.aload_n 0, 1) := by decide +kernel
theorem dX9_count_128 : decode cX9_count 128 = .ok (.getfield 12, 3) := by decide +kernel
theorem dX9_count_131 : decode cX9_count 131 = .ok (.getfield 259, 3) := by decide +kernel
theorem dX9_count_134 : decode cX9_count 134 = .ok (.ireturn, 1) := by decide +kernel
theorem dX9_count_135 : decode cX9_count 135 = .ok (.aload_n 0, 1) := by decide +kernel
theorem dX9_count_136 : decode cX9_count 136 = .ok (.getfield 12, 3) := by decide +kernel
theorem dX9_count_139 : decode cX9_count 139 = .ok (.getfield 163, 3) := by decide +kernel
theorem dX9_count_142 : decode cX9_count 142 = .ok (.ireturn, 1) := by decide +kernel
theorem dX9_count_143 : decode cX9_count 143 = .ok (.aload_n 0, 1) := by decide +kernel
theorem dX9_count_144 : decode cX9_count 144 = .ok (.getfield 23, 3) := by decide +kernel
theorem dX9_count_147 : decode cX9_count 147 = .ok (.getfield 303, 3) := by decide +kernel
theorem dX9_count_150 : decode cX9_count 150 = .ok (.ireturn, 1) := by decide +kernel
theorem dX9_count_151 : decode cX9_count 151 = .ok (.aload_n 0, 1) := by decide +kernel
theorem dX9_count_152 : decode cX9_count 152 = .ok (.getfield 56, 3) := by decide +kernel
theorem dX9_count_155 : decode cX9_count 155 = .ok (.ireturn, 1) := by decide +kernel
theorem dX9_count_156 : decode cX9_count 156 = .ok (.aload_n 0, 1) := by decide +kernel
theorem dX9_count_157 : decode cX9_count 157 = .ok (.getfield 12, 3) := by decide +kernel
theorem dX9_count_160 : decode cX9_count 160 = .ok (.getfield 199, 3) := by decide +kernel
theorem dX9_count_163 : decode cX9_count 163 = .ok (.ireturn, 1) := by decide +kernel
theorem dX9_count_164 : decode cX9_count 164 = .ok (.iconst (-1), 1) := by decide +kernel
theorem dX9_count_165 : decode cX9_count 165 = .ok (.ireturn, 1) := by decide +kernel
theorem dX9_status_0 : decode cX9_status 0 = .ok (.aload_n 0, 1) := by decide +kernel
theorem dX9_status_1 : decode cX9_status 1 = .ok (.getfield 83, 3) := by decide +kernel
theorem dX9_status_4 : decode cX9_status 4 = .ok (.ireturn, 1) := by decide +kernel
theorem dX9_isUpTo_0 : decode cX9_isUpTo 0 = .ok (.lload_n 0, 1) := by decide +kernel
theorem dX9_isUpTo_1 : decode cX9_isUpTo 1 = .ok (.lconst 0, 1) := by decide +kernel
theorem dX9_isUpTo_2 : decode cX9_isUpTo 2 = .ok (.lcmp, 1) := by decide +kernel
theorem dX9_isUpTo_3 : decode cX9_isUpTo 3 = .ok (.ifCond .lt 14, 3) := by decide +kernel
theorem dX9_isUpTo_6 : decode cX9_isUpTo 6 = .ok (.lload_n 0, 1) := by decide +kernel
theorem dX9_isUpTo_7 : decode cX9_isUpTo 7 = .ok (.iload_n 2, 1) := by decide +kernel
theorem dX9_isUpTo_8 : decode cX9_isUpTo 8 = .ok (.i2l, 1) := by decide +kernel
theorem dX9_isUpTo_9 : decode cX9_isUpTo 9 = .ok (.lcmp, 1) := by decide +kernel
theorem dX9_isUpTo_10 : decode cX9_isUpTo 10 = .ok (.ifCond .gt 7, 3) := by decide +kernel
theorem dX9_isUpTo_13 : decode cX9_isUpTo 13 = .ok (.iconst 1, 1) := by decide +kernel
theorem dX9_isUpTo_14 : decode cX9_isUpTo 14 = .ok (.goto 4, 3) := by decide +kernel
theorem dX9_isUpTo_17 : decode cX9_isUpTo 17 = .ok (.iconst 0, 1) := by decide +kernel
theorem dX9_isUpTo_18 : decode cX9_isUpTo 18 = .ok (.ireturn, 1) := by decide +kernel
theorem dX9_accept_0 : decode cX9_accept 0 = .ok (.aload_n 0, 1) := by decide +kernel
theorem dX9_accept_1 : decode cX9_accept 1 = .ok (.iconst 0, 1) := by decide +kernel
theorem dX9_accept_2 : decode cX9_accept 2 = .ok (.putfield 83, 3) := by decide +kernel
theorem dX9_accept_5 : decode cX9_accept 5 = .ok (.iload_n 1, 1) := by decide +kernel
theorem dX9_accept_6 : decode cX9_accept 6 = .ok (.ireturn, 1) := by decide +kernel
theorem dX9_refuse_0 : decode cX9_refuse 0 = .ok (.aload_n 0, 1) := by decide +kernel
theorem dX9_refuse_1 : decode cX9_refuse 1 = .ok (.iload_n 1, 1) := by decide +kernel
theorem dX9_refuse_2 : decode cX9_refuse 2 = .ok (.putfield 83, 3) := by decide +kernel
theorem dX9_refuse_5 : decode cX9_refuse 5 = .ok (.iload_n 1, 1) := by decide +kernel
