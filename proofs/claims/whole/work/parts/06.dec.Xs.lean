theorem dX0_init_0 : decode cX0_init 0 = .ok (.aload_n 0, 1) := by decide +kernel
theorem dX0_init_1 : decode cX0_init 1 = .ok (.invokespecial 3, 3) := by decide +kernel
theorem dX0_init_4 : decode cX0_init 4 = .ok (.aload_n 0, 1) := by decide +kernel
theorem dX0_init_5 : decode cX0_init 5 = .ok (.iconst 0, 1) := by decide +kernel
theorem dX0_init_6 : decode cX0_init 6 = .ok (.putfield 9, 3) := by decide +kernel
theorem dX0_init_9 : decode cX0_init 9 = .ok (.aload_n 0, 1) := by decide +kernel
theorem dX0_init_10 : decode cX0_init 10 = .ok (.new 15, 3) := by decide +kernel
theorem dX0_init_13 : decode cX0_init 13 = .ok (.dup, 1) := by decide +kernel
theorem dX0_init_14 : decode cX0_init 14 = .ok (.invokespecial 17, 3) := by decide +kernel
theorem dX0_init_17 : decode cX0_init 17 = .ok (.putfield 18, 3) := by decide +kernel
theorem dX0_init_20 : decode cX0_init 20 = .ok (.aload_n 0, 1) := by decide +kernel
theorem dX0_init_21 : decode cX0_init 21 = .ok (.bipush 8, 2) := by decide +kernel
theorem dX0_init_23 : decode cX0_init 23 = .ok (.newarray .int, 2) := by decide +kernel
theorem dX0_init_25 : decode cX0_init 25 = .ok (.putfield 22, 3) := by decide +kernel
theorem dX0_init_28 : decode cX0_init 28 = .ok (.aload_n 0, 1) := by decide +kernel
theorem dX0_init_29 : decode cX0_init 29 = .ok (.bipush 8, 2) := by decide +kernel
theorem dX0_init_31 : decode cX0_init 31 = .ok (.newarray .int, 2) := by decide +kernel
theorem dX0_init_33 : decode cX0_init 33 = .ok (.putfield 26, 3) := by decide +kernel
theorem dX0_init_36 : decode cX0_init 36 = .ok (.aload_n 0, 1) := by decide +kernel
theorem dX0_init_37 : decode cX0_init 37 = .ok (.iconst 1, 1) := by decide +kernel
theorem dX0_init_38 : decode cX0_init 38 = .ok (.putfield 29, 3) := by decide +kernel
theorem dX0_init_41 : decode cX0_init 41 = .ok (.aload_n 0, 1) := by decide +kernel
theorem dX0_init_42 : decode cX0_init 42 = .ok (.iconst 0, 1) := by decide +kernel
theorem dX0_init_43 : decode cX0_init 43 = .ok (.putfield 32, 3) := by decide +kernel
theorem dX0_init_46 : decode cX0_init 46 = .ok (.aload_n 0, 1) := by decide +kernel
theorem dX0_init_47 : decode cX0_init 47 = .ok (.iconst 0, 1) := by decide +kernel
theorem dX0_init_48 : decode cX0_init 48 = .ok (.putfield 35, 3) := by decide +kernel
theorem dX0_init_51 : decode cX0_init 51 = .ok (.aload_n 0, 1) := by decide +kernel
theorem dX0_init_52 : decode cX0_init 52 = .ok (.iconst 0, 1) := by decide +kernel
theorem dX0_init_53 : decode cX0_init 53 = .ok (.putfield 38, 3) := by decide +kernel
theorem dX0_init_56 : decode cX0_init 56 = .ok (.aload_n 0, 1) := by decide +kernel
theorem dX0_init_57 : decode cX0_init 57 = .ok (.bipush 6, 2) := by decide +kernel
theorem dX0_init_59 : decode cX0_init 59 = .ok (.newarray .int, 2) := by decide +kernel
theorem dX0_init_61 : decode cX0_init 61 = .ok (.putfield 41, 3) := by decide +kernel
theorem dX0_init_64 : decode cX0_init 64 = .ok (.aload_n 0, 1) := by decide +kernel
theorem dX0_init_65 : decode cX0_init 65 = .ok (.bipush 6, 2) := by decide +kernel
theorem dX0_init_67 : decode cX0_init 67 = .ok (.newarray .int, 2) := by decide +kernel
theorem dX0_init_69 : decode cX0_init 69 = .ok (.putfield 44, 3) := by decide +kernel
theorem dX0_init_72 : decode cX0_init 72 = .ok (.aload_n 0, 1) := by decide +kernel
theorem dX0_init_73 : decode cX0_init 73 = .ok (.iconst 0, 1) := by decide +kernel
theorem dX0_init_74 : decode cX0_init 74 = .ok (.putfield 47, 3) := by decide +kernel
theorem dX0_init_77 : decode cX0_init 77 = .ok (.aload_n 0, 1) := by decide +kernel
theorem dX0_init_78 : decode cX0_init 78 = .ok (.bipush 6, 2) := by decide +kernel
theorem dX0_init_80 : decode cX0_init 80 = .ok (.anewarray 50, 3) := by decide +kernel
theorem dX0_init_83 : decode cX0_init 83 = .ok (.putfield 52, 3) := by decide +kernel
theorem dX0_init_86 : decode cX0_init 86 = .ok (.aload_n 0, 1) := by decide +kernel
theorem dX0_init_87 : decode cX0_init 87 = .ok (.iconst (-1), 1) := by decide +kernel
theorem dX0_init_88 : decode cX0_init 88 = .ok (.putfield 56, 3) := by decide +kernel
theorem dX0_init_91 : decode cX0_init 91 = .ok (.return_, 1) := by decide +kernel
theorem dX0_copyFrom_0 : decode cX0_copyFrom 0 = .ok (.aload_n 0, 1) := by decide +kernel
theorem dX0_copyFrom_1 : decode cX0_copyFrom 1 = .ok (.aload_n 1, 1) := by decide +kernel
theorem dX0_copyFrom_2 : decode cX0_copyFrom 2 = .ok (.getfield 9, 3) := by decide +kernel
theorem dX0_copyFrom_5 : decode cX0_copyFrom 5 = .ok (.putfield 9, 3) := by decide +kernel
theorem dX0_copyFrom_8 : decode cX0_copyFrom 8 = .ok (.aload_n 0, 1) := by decide +kernel
theorem dX0_copyFrom_9 : decode cX0_copyFrom 9 = .ok (.getfield 18, 3) := by decide +kernel
theorem dX0_copyFrom_12 : decode cX0_copyFrom 12 = .ok (.aload_n 1, 1) := by decide +kernel
theorem dX0_copyFrom_13 : decode cX0_copyFrom 13 = .ok (.getfield 18, 3) := by decide +kernel
theorem dX0_copyFrom_16 : decode cX0_copyFrom 16 = .ok (.invokevirtual 59, 3) := by decide +kernel
theorem dX0_copyFrom_19 : decode cX0_copyFrom 19 = .ok (.aload_n 1, 1) := by decide +kernel
theorem dX0_copyFrom_20 : decode cX0_copyFrom 20 = .ok (.getfield 22, 3) := by decide +kernel
theorem dX0_copyFrom_23 : decode cX0_copyFrom 23 = .ok (.iconst 0, 1) := by decide +kernel
theorem dX0_copyFrom_24 : decode cX0_copyFrom 24 = .ok (.aload_n 0, 1) := by decide +kernel
theorem dX0_copyFrom_25 : decode cX0_copyFrom 25 = .ok (.getfield 22, 3) := by decide +kernel
theorem dX0_copyFrom_28 : decode cX0_copyFrom 28 = .ok (.iconst 0, 1) := by decide +kernel
theorem dX0_copyFrom_29 : decode cX0_copyFrom 29 = .ok (.bipush 8, 2) := by decide +kernel
theorem dX0_copyFrom_31 : decode cX0_copyFrom 31 = .ok (.invokestatic 63, 3) := by decide +kernel
theorem dX0_copyFrom_34 : decode cX0_copyFrom 34 = .ok (.aload_n 1, 1) := by decide +kernel
theorem dX0_copyFrom_35 : decode cX0_copyFrom 35 = .ok (.getfield 26, 3) := by decide +kernel
theorem dX0_copyFrom_38 : decode cX0_copyFrom 38 = .ok (.iconst 0, 1) := by decide +kernel
theorem dX0_copyFrom_39 : decode cX0_copyFrom 39 = .ok (.aload_n 0, 1) := by decide +kernel
theorem dX0_copyFrom_40 : decode cX0_copyFrom 40 = .ok (.getfield 26, 3) := by decide +kernel
theorem dX0_copyFrom_43 : decode cX0_copyFrom 43 = .ok (.iconst 0, 1) := by decide +kernel
theorem dX0_copyFrom_44 : decode cX0_copyFrom 44 = .ok (.bipush 8, 2) := by decide +kernel
theorem dX0_copyFrom_46 : decode cX0_copyFrom 46 = .ok (.invokestatic 63, 3) := by decide +kernel
theorem dX0_copyFrom_49 : decode cX0_copyFrom 49 = .ok (.aload_n 0, 1) := by decide +kernel
theorem dX0_copyFrom_50 : decode cX0_copyFrom 50 = .ok (.aload_n 1, 1) := by decide +kernel
theorem dX0_copyFrom_51 : decode cX0_copyFrom 51 = .ok (.getfield 29, 3) := by decide +kernel
theorem dX0_copyFrom_54 : decode cX0_copyFrom 54 = .ok (.putfield 29, 3) := by decide +kernel
theorem dX0_copyFrom_57 : decode cX0_copyFrom 57 = .ok (.aload_n 0, 1) := by decide +kernel
theorem dX0_copyFrom_58 : decode cX0_copyFrom 58 = .ok (.aload_n 1, 1) := by decide +kernel
theorem dX0_copyFrom_59 : decode cX0_copyFrom 59 = .ok (.getfield 32, 3) := by decide +kernel
theorem dX0_copyFrom_62 : decode cX0_copyFrom 62 = .ok (.putfield 32, 3) := by decide +kernel
theorem dX0_copyFrom_65 : decode cX0_copyFrom 65 = .ok (.aload_n 0, 1) := by decide +kernel
theorem dX0_copyFrom_66 : decode cX0_copyFrom 66 = .ok (.aload_n 1, 1) := by decide +kernel
theorem dX0_copyFrom_67 : decode cX0_copyFrom 67 = .ok (.getfield 35, 3) := by decide +kernel
theorem dX0_copyFrom_70 : decode cX0_copyFrom 70 = .ok (.putfield 35, 3) := by decide +kernel
theorem dX0_copyFrom_73 : decode cX0_copyFrom 73 = .ok (.aload_n 0, 1) := by decide +kernel
theorem dX0_copyFrom_74 : decode cX0_copyFrom 74 = .ok (.aload_n 1, 1) := by decide +kernel
theorem dX0_copyFrom_75 : decode cX0_copyFrom 75 = .ok (.getfield 38, 3) := by decide +kernel
theorem dX0_copyFrom_78 : decode cX0_copyFrom 78 = .ok (.putfield 38, 3) := by decide +kernel
theorem dX0_copyFrom_81 : decode cX0_copyFrom 81 = .ok (.aload_n 1, 1) := by decide +kernel
theorem dX0_copyFrom_82 : decode cX0_copyFrom 82 = .ok (.getfield 41, 3) := by decide +kernel
theorem dX0_copyFrom_85 : decode cX0_copyFrom 85 = .ok (.iconst 0, 1) := by decide +kernel
theorem dX0_copyFrom_86 : decode cX0_copyFrom 86 = .ok (.aload_n 0, 1) := by decide +kernel
theorem dX0_copyFrom_87 : decode cX0_copyFrom 87 = .ok (.getfield 41, 3) := by decide +kernel
theorem dX0_copyFrom_90 : decode cX0_copyFrom 90 = .ok (.iconst 0, 1) := by decide +kernel
theorem dX0_copyFrom_91 : decode cX0_copyFrom 91 = .ok (.bipush 6, 2) := by decide +kernel
theorem dX0_copyFrom_93 : decode cX0_copyFrom 93 = .ok (.invokestatic 63, 3) := by decide +kernel
theorem dX0_copyFrom_96 : decode cX0_copyFrom 96 = .ok (.aload_n 1, 1) := by decide +kernel
theorem dX0_copyFrom_97 : decode cX0_copyFrom 97 = .ok (.getfield 44, 3) := by decide +kernel
theorem dX0_copyFrom_100 : decode cX0_copyFrom 100 = .ok (.iconst 0, 1) := by decide +kernel
theorem dX0_copyFrom_101 : decode cX0_copyFrom 101 = .ok (.aload_n 0, 1) := by decide +kernel
theorem dX0_copyFrom_102 : decode cX0_copyFrom 102 = .ok (.getfield 44, 3) := by decide +kernel
theorem dX0_copyFrom_105 : decode cX0_copyFrom 105 = .ok (.iconst 0, 1) := by decide +kernel
theorem dX0_copyFrom_106 : decode cX0_copyFrom 106 = .ok (.bipush 6, 2) := by decide +kernel
theorem dX0_copyFrom_108 : decode cX0_copyFrom 108 = .ok (.invokestatic 63, 3) := by decide +kernel
theorem dX0_copyFrom_111 : decode cX0_copyFrom 111 = .ok (.aload_n 0, 1) := by decide +kernel
theorem dX0_copyFrom_112 : decode cX0_copyFrom 112 = .ok (.aload_n 1, 1) := by decide +kernel
theorem dX0_copyFrom_113 : decode cX0_copyFrom 113 = .ok (.getfield 47, 3) := by decide +kernel
theorem dX0_copyFrom_116 : decode cX0_copyFrom 116 = .ok (.putfield 47, 3) := by decide +kernel
theorem dX0_copyFrom_119 : decode cX0_copyFrom 119 = .ok (.iconst 0, 1) := by decide +kernel
theorem dX0_copyFrom_120 : decode cX0_copyFrom 120 = .ok (.istore_n 2, 1) := by decide +kernel
theorem dX0_copyFrom_121 : decode cX0_copyFrom 121 = .ok (.iload_n 2, 1) := by decide +kernel
theorem dX0_copyFrom_122 : decode cX0_copyFrom 122 = .ok (.bipush 6, 2) := by decide +kernel
theorem dX0_copyFrom_124 : decode cX0_copyFrom 124 = .ok (.if_icmp .ge 21, 3) := by decide +kernel
theorem dX0_copyFrom_127 : decode cX0_copyFrom 127 = .ok (.aload_n 0, 1) := by decide +kernel
theorem dX0_copyFrom_128 : decode cX0_copyFrom 128 = .ok (.getfield 52, 3) := by decide +kernel
theorem dX0_copyFrom_131 : decode cX0_copyFrom 131 = .ok (.iload_n 2, 1) := by decide +kernel
theorem dX0_copyFrom_132 : decode cX0_copyFrom 132 = .ok (.aload_n 1, 1) := by decide +kernel
theorem dX0_copyFrom_133 : decode cX0_copyFrom 133 = .ok (.getfield 52, 3) := by decide +kernel
theorem dX0_copyFrom_136 : decode cX0_copyFrom 136 = .ok (.iload_n 2, 1) := by decide +kernel
theorem dX0_copyFrom_137 : decode cX0_copyFrom 137 = .ok (.aaload, 1) := by decide +kernel
theorem dX0_copyFrom_138 : decode cX0_copyFrom 138 = .ok (.aastore, 1) := by decide +kernel
theorem dX0_copyFrom_139 : decode cX0_copyFrom 139 = .ok (.iinc 2 1, 3) := by decide +kernel
theorem dX0_copyFrom_142 : decode cX0_copyFrom 142 = .ok (.goto (-21), 3) := by decide +kernel
theorem dX0_copyFrom_145 : decode cX0_copyFrom 145 = .ok (.aload_n 0, 1) := by decide +kernel
theorem dX0_copyFrom_146 : decode cX0_copyFrom 146 = .ok (.aload_n 1, 1) := by decide +kernel
theorem dX0_copyFrom_147 : decode cX0_copyFrom 147 = .ok (.getfield 56, 3) := by decide +kernel
theorem dX0_copyFrom_150 : decode cX0_copyFrom 150 = .ok (.putfield 56, 3) := by decide +kernel
theorem dX0_copyFrom_153 : decode cX0_copyFrom 153 = .ok (.return_, 1) := by decide +kernel
theorem dX0_has_0 : decode cX0_has 0 = .ok (.lload_n 1, 1) := by decide +kernel
theorem dX0_has_1 : decode cX0_has 1 = .ok (.lconst 0, 1) := by decide +kernel
theorem dX0_has_2 : decode cX0_has 2 = .ok (.lcmp, 1) := by decide +kernel
theorem dX0_has_3 : decode cX0_has 3 = .ok (.ifCond .lt 25, 3) := by decide +kernel
theorem dX0_has_6 : decode cX0_has 6 = .ok (.lload_n 1, 1) := by decide +kernel
theorem dX0_has_7 : decode cX0_has 7 = .ok (.aload_n 0, 1) := by decide +kernel
theorem dX0_has_8 : decode cX0_has 8 = .ok (.getfield 9, 3) := by decide +kernel
theorem dX0_has_11 : decode cX0_has 11 = .ok (.i2l, 1) := by decide +kernel
theorem dX0_has_12 : decode cX0_has 12 = .ok (.lcmp, 1) := by decide +kernel
theorem dX0_has_13 : decode cX0_has 13 = .ok (.ifCond .ge 15, 3) := by decide +kernel
theorem dX0_has_16 : decode cX0_has 16 = .ok (.lload_n 1, 1) := by decide +kernel
theorem dX0_has_17 : decode cX0_has 17 = .ok (.ldc2_w 69, 3) := by decide +kernel
theorem dX0_has_20 : decode cX0_has 20 = .ok (.lcmp, 1) := by decide +kernel
theorem dX0_has_21 : decode cX0_has 21 = .ok (.ifCond .ge 7, 3) := by decide +kernel
theorem dX0_has_24 : decode cX0_has 24 = .ok (.iconst 1, 1) := by decide +kernel
theorem dX0_has_25 : decode cX0_has 25 = .ok (.goto 4, 3) := by decide +kernel
theorem dX0_has_28 : decode cX0_has 28 = .ok (.iconst 0, 1) := by decide +kernel
theorem dX0_has_29 : decode cX0_has 29 = .ok (.ireturn, 1) := by decide +kernel
theorem dX0_everyone_0 : decode cX0_everyone 0 = .ok (.iconst 1, 1) := by decide +kernel
theorem dX0_everyone_1 : decode cX0_everyone 1 = .ok (.aload_n 0, 1) := by decide +kernel
theorem dX0_everyone_2 : decode cX0_everyone 2 = .ok (.getfield 9, 3) := by decide +kernel
theorem dX0_everyone_5 : decode cX0_everyone 5 = .ok (.ishl, 1) := by decide +kernel
theorem dX0_everyone_6 : decode cX0_everyone 6 = .ok (.iconst 1, 1) := by decide +kernel
theorem dX0_everyone_7 : decode cX0_everyone 7 = .ok (.isub, 1) := by decide +kernel
theorem dX0_everyone_8 : decode cX0_everyone 8 = .ok (.ireturn, 1) := by decide +kernel
theorem dX0_add_0 : decode cX0_add 0 = .ok (.aload_n 0, 1) := by decide +kernel
theorem dX0_add_1 : decode cX0_add 1 = .ok (.getfield 9, 3) := by decide +kernel
theorem dX0_add_4 : decode cX0_add 4 = .ok (.istore 4, 2) := by decide +kernel
theorem dX0_add_6 : decode cX0_add 6 = .ok (.iload 4, 2) := by decide +kernel
theorem dX0_add_8 : decode cX0_add 8 = .ok (.bipush 8, 2) := by decide +kernel
theorem dX0_add_10 : decode cX0_add 10 = .ok (.if_icmp .lt 5, 3) := by decide +kernel
theorem dX0_add_13 : decode cX0_add 13 = .ok (.iconst (-1), 1) := by decide +kernel
theorem dX0_add_14 : decode cX0_add 14 = .ok (.ireturn, 1) := by decide +kernel
theorem dX0_add_15 : decode cX0_add 15 = .ok (.aload_n 0, 1) := by decide +kernel
theorem dX0_add_16 : decode cX0_add 16 = .ok (.dup, 1) := by decide +kernel
theorem dX0_add_17 : decode cX0_add 17 = .ok (.getfield 9, 3) := by decide +kernel
theorem dX0_add_20 : decode cX0_add 20 = .ok (.iconst 1, 1) := by decide +kernel
theorem dX0_add_21 : decode cX0_add 21 = .ok (.iadd, 1) := by decide +kernel
theorem dX0_add_22 : decode cX0_add 22 = .ok (.putfield 9, 3) := by decide +kernel
theorem dX0_add_25 : decode cX0_add 25 = .ok (.aload_n 0, 1) := by decide +kernel
theorem dX0_add_26 : decode cX0_add 26 = .ok (.getfield 18, 3) := by decide +kernel
theorem dX0_add_29 : decode cX0_add 29 = .ok (.getfield 71, 3) := by decide +kernel
theorem dX0_add_32 : decode cX0_add 32 = .ok (.iload 4, 2) := by decide +kernel
theorem dX0_add_34 : decode cX0_add 34 = .ok (.iload_n 1, 1) := by decide +kernel
theorem dX0_add_35 : decode cX0_add 35 = .ok (.iastore, 1) := by decide +kernel
theorem dX0_add_36 : decode cX0_add 36 = .ok (.aload_n 0, 1) := by decide +kernel
theorem dX0_add_37 : decode cX0_add 37 = .ok (.getfield 18, 3) := by decide +kernel
theorem dX0_add_40 : decode cX0_add 40 = .ok (.iload 4, 2) := by decide +kernel
theorem dX0_add_42 : decode cX0_add 42 = .ok (.invokevirtual 74, 3) := by decide +kernel
theorem dX0_add_45 : decode cX0_add 45 = .ok (.pop, 1) := by decide +kernel
theorem dX0_add_46 : decode cX0_add 46 = .ok (.aload_n 0, 1) := by decide +kernel
theorem dX0_add_47 : decode cX0_add 47 = .ok (.getfield 22, 3) := by decide +kernel
theorem dX0_add_50 : decode cX0_add 50 = .ok (.iload 4, 2) := by decide +kernel
theorem dX0_add_52 : decode cX0_add 52 = .ok (.iload_n 2, 1) := by decide +kernel
theorem dX0_add_53 : decode cX0_add 53 = .ok (.iastore, 1) := by decide +kernel
theorem dX0_add_54 : decode cX0_add 54 = .ok (.aload_n 0, 1) := by decide +kernel
theorem dX0_add_55 : decode cX0_add 55 = .ok (.getfield 26, 3) := by decide +kernel
theorem dX0_add_58 : decode cX0_add 58 = .ok (.iload 4, 2) := by decide +kernel
theorem dX0_add_60 : decode cX0_add 60 = .ok (.iload_n 3, 1) := by decide +kernel
theorem dX0_add_61 : decode cX0_add 61 = .ok (.iastore, 1) := by decide +kernel
theorem dX0_add_62 : decode cX0_add 62 = .ok (.iload 4, 2) := by decide +kernel
theorem dX0_add_64 : decode cX0_add 64 = .ok (.ireturn, 1) := by decide +kernel
theorem dX0_setWatching_0 : decode cX0_setWatching 0 = .ok (.aload_n 0, 1) := by decide +kernel
theorem dX0_setWatching_1 : decode cX0_setWatching 1 = .ok (.iload_n 1, 1) := by decide +kernel
theorem dX0_setWatching_2 : decode cX0_setWatching 2 = .ok (.i2l, 1) := by decide +kernel
theorem dX0_setWatching_3 : decode cX0_setWatching 3 = .ok (.invokevirtual 78, 3) := by decide +kernel
theorem dX0_setWatching_6 : decode cX0_setWatching 6 = .ok (.ifCond .eq 12, 3) := by decide +kernel
theorem dX0_setWatching_9 : decode cX0_setWatching 9 = .ok (.aload_n 0, 1) := by decide +kernel
theorem dX0_setWatching_10 : decode cX0_setWatching 10 = .ok (.iload_n 2, 1) := by decide +kernel
theorem dX0_setWatching_11 : decode cX0_setWatching 11 = .ok (.i2l, 1) := by decide +kernel
theorem dX0_setWatching_12 : decode cX0_setWatching 12 = .ok (.invokevirtual 78, 3) := by decide +kernel
theorem dX0_setWatching_15 : decode cX0_setWatching 15 = .ok (.ifCond .ne 5, 3) := by decide +kernel
theorem dX0_setWatching_18 : decode cX0_setWatching 18 = .ok (.iconst (-1), 1) := by decide +kernel
theorem dX0_setWatching_19 : decode cX0_setWatching 19 = .ok (.ireturn, 1) := by decide +kernel
theorem dX0_setWatching_20 : decode cX0_setWatching 20 = .ok (.aload_n 0, 1) := by decide +kernel
theorem dX0_setWatching_21 : decode cX0_setWatching 21 = .ok (.getfield 26, 3) := by decide +kernel
theorem dX0_setWatching_24 : decode cX0_setWatching 24 = .ok (.iload_n 1, 1) := by decide +kernel
theorem dX0_setWatching_25 : decode cX0_setWatching 25 = .ok (.iaload, 1) := by decide +kernel
theorem dX0_setWatching_26 : decode cX0_setWatching 26 = .ok (.iload_n 2, 1) := by decide +kernel
theorem dX0_setWatching_27 : decode cX0_setWatching 27 = .ok (.ishr, 1) := by decide +kernel
theorem dX0_setWatching_28 : decode cX0_setWatching 28 = .ok (.iconst 1, 1) := by decide +kernel
theorem dX0_setWatching_29 : decode cX0_setWatching 29 = .ok (.iand, 1) := by decide +kernel
theorem dX0_setWatching_30 : decode cX0_setWatching 30 = .ok (.istore 4, 2) := by decide +kernel
theorem dX0_setWatching_32 : decode cX0_setWatching 32 = .ok (.aload_n 0, 1) := by decide +kernel
theorem dX0_setWatching_33 : decode cX0_setWatching 33 = .ok (.getfield 26, 3) := by decide +kernel
theorem dX0_setWatching_36 : decode cX0_setWatching 36 = .ok (.iload_n 1, 1) := by decide +kernel
theorem dX0_setWatching_37 : decode cX0_setWatching 37 = .ok (.aload_n 0, 1) := by decide +kernel
theorem dX0_setWatching_38 : decode cX0_setWatching 38 = .ok (.getfield 26, 3) := by decide +kernel
theorem dX0_setWatching_41 : decode cX0_setWatching 41 = .ok (.iload_n 1, 1) := by decide +kernel
theorem dX0_setWatching_42 : decode cX0_setWatching 42 = .ok (.iaload, 1) := by decide +kernel
theorem dX0_setWatching_43 : decode cX0_setWatching 43 = .ok (.iconst 1, 1) := by decide +kernel
theorem dX0_setWatching_44 : decode cX0_setWatching 44 = .ok (.iload_n 2, 1) := by decide +kernel
theorem dX0_setWatching_45 : decode cX0_setWatching 45 = .ok (.ishl, 1) := by decide +kernel
theorem dX0_setWatching_46 : decode cX0_setWatching 46 = .ok (.iconst (-1), 1) := by decide +kernel
theorem dX0_setWatching_47 : decode cX0_setWatching 47 = .ok (.ixor, 1) := by decide +kernel
theorem dX0_setWatching_48 : decode cX0_setWatching 48 = .ok (.iand, 1) := by decide +kernel
theorem dX0_setWatching_49 : decode cX0_setWatching 49 = .ok (.iload_n 3, 1) := by decide +kernel
theorem dX0_setWatching_50 : decode cX0_setWatching 50 = .ok (.iload_n 2, 1) := by decide +kernel
theorem dX0_setWatching_51 : decode cX0_setWatching 51 = .ok (.ishl, 1) := by decide +kernel
theorem dX0_setWatching_52 : decode cX0_setWatching 52 = .ok (.ior, 1) := by decide +kernel
theorem dX0_setWatching_53 : decode cX0_setWatching 53 = .ok (.iastore, 1) := by decide +kernel
theorem dX0_setWatching_54 : decode cX0_setWatching 54 = .ok (.iload 4, 2) := by decide +kernel
theorem dX0_setWatching_56 : decode cX0_setWatching 56 = .ok (.ireturn, 1) := by decide +kernel
theorem dX0_term_0 : decode cX0_term 0 = .ok (.iload_n 1, 1) := by decide +kernel
theorem dX0_term_1 : decode cX0_term 1 = .ok (.tableswitch 54 0 3 #[31, 39, 44, 49], 31) := by decide +kernel
theorem dX0_term_32 : decode cX0_term 32 = .ok (.aload_n 0, 1) := by decide +kernel
theorem dX0_term_33 : decode cX0_term 33 = .ok (.getfield 18, 3) := by decide +kernel
theorem dX0_term_36 : decode cX0_term 36 = .ok (.getfield 82, 3) := by decide +kernel
theorem dX0_term_39 : decode cX0_term 39 = .ok (.ireturn, 1) := by decide +kernel
theorem dX0_term_40 : decode cX0_term 40 = .ok (.aload_n 0, 1) := by decide +kernel
theorem dX0_term_41 : decode cX0_term 41 = .ok (.getfield 29, 3) := by decide +kernel
theorem dX0_term_44 : decode cX0_term 44 = .ok (.ireturn, 1) := by decide +kernel
theorem dX0_term_45 : decode cX0_term 45 = .ok (.aload_n 0, 1) := by decide +kernel
theorem dX0_term_46 : decode cX0_term 46 = .ok (.getfield 32, 3) := by decide +kernel
theorem dX0_term_49 : decode cX0_term 49 = .ok (.ireturn, 1) := by decide +kernel
theorem dX0_term_50 : decode cX0_term 50 = .ok (.aload_n 0, 1) := by decide +kernel
theorem dX0_term_51 : decode cX0_term 51 = .ok (.getfield 35, 3) := by decide +kernel
theorem dX0_term_54 : decode cX0_term 54 = .ok (.ireturn, 1) := by decide +kernel
theorem dX0_term_55 : decode cX0_term 55 = .ok (.iconst (-1), 1) := by decide +kernel
theorem dX0_term_56 : decode cX0_term 56 = .ok (.ireturn, 1) := by decide +kernel
theorem dX0_setTerm_0 : decode cX0_setTerm 0 = .ok (.iload_n 1, 1) := by decide +kernel
theorem dX0_setTerm_1 : decode cX0_setTerm 1 = .ok (.tableswitch 66 0 3 #[31, 42, 50, 58], 31) := by decide +kernel
theorem dX0_setTerm_32 : decode cX0_setTerm 32 = .ok (.aload_n 0, 1) := by decide +kernel
theorem dX0_setTerm_33 : decode cX0_setTerm 33 = .ok (.getfield 18, 3) := by decide +kernel
theorem dX0_setTerm_36 : decode cX0_setTerm 36 = .ok (.iload_n 2, 1) := by decide +kernel
theorem dX0_setTerm_37 : decode cX0_setTerm 37 = .ok (.putfield 82, 3) := by decide +kernel
theorem dX0_setTerm_40 : decode cX0_setTerm 40 = .ok (.goto 27, 3) := by decide +kernel
theorem dX0_setTerm_43 : decode cX0_setTerm 43 = .ok (.aload_n 0, 1) := by decide +kernel
theorem dX0_setTerm_44 : decode cX0_setTerm 44 = .ok (.iload_n 2, 1) := by decide +kernel
theorem dX0_setTerm_45 : decode cX0_setTerm 45 = .ok (.putfield 29, 3) := by decide +kernel
theorem dX0_setTerm_48 : decode cX0_setTerm 48 = .ok (.goto 19, 3) := by decide +kernel
theorem dX0_setTerm_51 : decode cX0_setTerm 51 = .ok (.aload_n 0, 1) := by decide +kernel
theorem dX0_setTerm_52 : decode cX0_setTerm 52 = .ok (.iload_n 2, 1) := by decide +kernel
theorem dX0_setTerm_53 : decode cX0_setTerm 53 = .ok (.putfield 32, 3) := by decide +kernel
theorem dX0_setTerm_56 : decode cX0_setTerm 56 = .ok (.goto 11, 3) := by decide +kernel
theorem dX0_setTerm_59 : decode cX0_setTerm 59 = .ok (.aload_n 0, 1) := by decide +kernel
theorem dX0_setTerm_60 : decode cX0_setTerm 60 = .ok (.iload_n 2, 1) := by decide +kernel
theorem dX0_setTerm_61 : decode cX0_setTerm 61 = .ok (.putfield 35, 3) := by decide +kernel
theorem dX0_setTerm_64 : decode cX0_setTerm 64 = .ok (.goto 3, 3) := by decide +kernel
theorem dX0_setTerm_67 : decode cX0_setTerm 67 = .ok (.return_, 1) := by decide +kernel
theorem dX0_addSeen_0 : decode cX0_addSeen 0 = .ok (.aload_n 0, 1) := by decide +kernel
theorem dX0_addSeen_1 : decode cX0_addSeen 1 = .ok (.getfield 38, 3) := by decide +kernel
theorem dX0_addSeen_4 : decode cX0_addSeen 4 = .ok (.bipush 6, 2) := by decide +kernel
theorem dX0_addSeen_6 : decode cX0_addSeen 6 = .ok (.if_icmp .ge 33, 3) := by decide +kernel
theorem dX0_addSeen_9 : decode cX0_addSeen 9 = .ok (.aload_n 0, 1) := by decide +kernel
theorem dX0_addSeen_10 : decode cX0_addSeen 10 = .ok (.getfield 41, 3) := by decide +kernel
theorem dX0_addSeen_13 : decode cX0_addSeen 13 = .ok (.aload_n 0, 1) := by decide +kernel
theorem dX0_addSeen_14 : decode cX0_addSeen 14 = .ok (.getfield 38, 3) := by decide +kernel
theorem dX0_addSeen_17 : decode cX0_addSeen 17 = .ok (.iload_n 1, 1) := by decide +kernel
theorem dX0_addSeen_18 : decode cX0_addSeen 18 = .ok (.iastore, 1) := by decide +kernel
theorem dX0_addSeen_19 : decode cX0_addSeen 19 = .ok (.aload_n 0, 1) := by decide +kernel
theorem dX0_addSeen_20 : decode cX0_addSeen 20 = .ok (.getfield 44, 3) := by decide +kernel
theorem dX0_addSeen_23 : decode cX0_addSeen 23 = .ok (.aload_n 0, 1) := by decide +kernel
theorem dX0_addSeen_24 : decode cX0_addSeen 24 = .ok (.getfield 38, 3) := by decide +kernel
theorem dX0_addSeen_27 : decode cX0_addSeen 27 = .ok (.iload_n 2, 1) := by decide +kernel
theorem dX0_addSeen_28 : decode cX0_addSeen 28 = .ok (.iastore, 1) := by decide +kernel
theorem dX0_addSeen_29 : decode cX0_addSeen 29 = .ok (.aload_n 0, 1) := by decide +kernel
theorem dX0_addSeen_30 : decode cX0_addSeen 30 = .ok (.dup, 1) := by decide +kernel
theorem dX0_addSeen_31 : decode cX0_addSeen 31 = .ok (.getfield 38, 3) := by decide +kernel
theorem dX0_addSeen_34 : decode cX0_addSeen 34 = .ok (.iconst 1, 1) := by decide +kernel
theorem dX0_addSeen_35 : decode cX0_addSeen 35 = .ok (.iadd, 1) := by decide +kernel
theorem dX0_addSeen_36 : decode cX0_addSeen 36 = .ok (.putfield 38, 3) := by decide +kernel
theorem dX0_addSeen_39 : decode cX0_addSeen 39 = .ok (.aload_n 0, 1) := by decide +kernel
theorem dX0_addSeen_40 : decode cX0_addSeen 40 = .ok (.getfield 38, 3) := by decide +kernel
theorem dX0_addSeen_43 : decode cX0_addSeen 43 = .ok (.ireturn, 1) := by decide +kernel
theorem dX0_addLaw_0 : decode cX0_addLaw 0 = .ok (.aload_n 0, 1) := by decide +kernel
theorem dX0_addLaw_1 : decode cX0_addLaw 1 = .ok (.getfield 47, 3) := by decide +kernel
theorem dX0_addLaw_4 : decode cX0_addLaw 4 = .ok (.istore_n 2, 1) := by decide +kernel
theorem dX0_addLaw_5 : decode cX0_addLaw 5 = .ok (.iload_n 2, 1) := by decide +kernel
theorem dX0_addLaw_6 : decode cX0_addLaw 6 = .ok (.bipush 6, 2) := by decide +kernel
theorem dX0_addLaw_8 : decode cX0_addLaw 8 = .ok (.if_icmp .lt 5, 3) := by decide +kernel
theorem dX0_addLaw_11 : decode cX0_addLaw 11 = .ok (.iconst (-1), 1) := by decide +kernel
theorem dX0_addLaw_12 : decode cX0_addLaw 12 = .ok (.ireturn, 1) := by decide +kernel
theorem dX0_addLaw_13 : decode cX0_addLaw 13 = .ok (.aload_n 0, 1) := by decide +kernel
theorem dX0_addLaw_14 : decode cX0_addLaw 14 = .ok (.getfield 52, 3) := by decide +kernel
theorem dX0_addLaw_17 : decode cX0_addLaw 17 = .ok (.iload_n 2, 1) := by decide +kernel
theorem dX0_addLaw_18 : decode cX0_addLaw 18 = .ok (.aload_n 1, 1) := by decide +kernel
theorem dX0_addLaw_19 : decode cX0_addLaw 19 = .ok (.aastore, 1) := by decide +kernel
theorem dX0_addLaw_20 : decode cX0_addLaw 20 = .ok (.aload_n 0, 1) := by decide +kernel
theorem dX0_addLaw_21 : decode cX0_addLaw 21 = .ok (.dup, 1) := by decide +kernel
theorem dX0_addLaw_22 : decode cX0_addLaw 22 = .ok (.getfield 47, 3) := by decide +kernel
theorem dX0_addLaw_25 : decode cX0_addLaw 25 = .ok (.iconst 1, 1) := by decide +kernel
theorem dX0_addLaw_26 : decode cX0_addLaw 26 = .ok (.iadd, 1) := by decide +kernel
theorem dX0_addLaw_27 : decode cX0_addLaw 27 = .ok (.putfield 47, 3) := by decide +kernel
theorem dX0_addLaw_30 : decode cX0_addLaw 30 = .ok (.iload_n 2, 1) := by decide +kernel
theorem dX0_addLaw_31 : decode cX0_addLaw 31 = .ok (.ireturn, 1) := by decide +kernel
theorem dX0_lawAt_0 : decode cX0_lawAt 0 = .ok (.iload_n 1, 1) := by decide +kernel
theorem dX0_lawAt_1 : decode cX0_lawAt 1 = .ok (.ifCond .lt 26, 3) := by decide +kernel
theorem dX0_lawAt_4 : decode cX0_lawAt 4 = .ok (.iload_n 1, 1) := by decide +kernel
theorem dX0_lawAt_5 : decode cX0_lawAt 5 = .ok (.aload_n 0, 1) := by decide +kernel
theorem dX0_lawAt_6 : decode cX0_lawAt 6 = .ok (.getfield 47, 3) := by decide +kernel
theorem dX0_lawAt_9 : decode cX0_lawAt 9 = .ok (.if_icmp .ge 18, 3) := by decide +kernel
theorem dX0_lawAt_12 : decode cX0_lawAt 12 = .ok (.iload_n 1, 1) := by decide +kernel
theorem dX0_lawAt_13 : decode cX0_lawAt 13 = .ok (.bipush 6, 2) := by decide +kernel
theorem dX0_lawAt_15 : decode cX0_lawAt 15 = .ok (.if_icmp .ge 12, 3) := by decide +kernel
theorem dX0_lawAt_18 : decode cX0_lawAt 18 = .ok (.aload_n 0, 1) := by decide +kernel
theorem dX0_lawAt_19 : decode cX0_lawAt 19 = .ok (.getfield 52, 3) := by decide +kernel
theorem dX0_lawAt_22 : decode cX0_lawAt 22 = .ok (.iload_n 1, 1) := by decide +kernel
theorem dX0_lawAt_23 : decode cX0_lawAt 23 = .ok (.aaload, 1) := by decide +kernel
theorem dX0_lawAt_24 : decode cX0_lawAt 24 = .ok (.goto 4, 3) := by decide +kernel
theorem dX0_lawAt_27 : decode cX0_lawAt 27 = .ok (.aconst_null, 1) := by decide +kernel
theorem dX0_lawAt_28 : decode cX0_lawAt 28 = .ok (.areturn, 1) := by decide +kernel
theorem dX0_lawInForce_0 : decode cX0_lawInForce 0 = .ok (.aload_n 0, 1) := by decide +kernel
theorem dX0_lawInForce_1 : decode cX0_lawInForce 1 = .ok (.aload_n 0, 1) := by decide +kernel
theorem dX0_lawInForce_2 : decode cX0_lawInForce 2 = .ok (.getfield 56, 3) := by decide +kernel
theorem dX0_lawInForce_5 : decode cX0_lawInForce 5 = .ok (.invokevirtual 85, 3) := by decide +kernel
theorem dX0_lawInForce_8 : decode cX0_lawInForce 8 = .ok (.areturn, 1) := by decide +kernel
theorem dX0_whyNot_0 : decode cX0_whyNot 0 = .ok (.iload_n 2, 1) := by decide +kernel
theorem dX0_whyNot_1 : decode cX0_whyNot 1 = .ok (.iconst 3, 1) := by decide +kernel
theorem dX0_whyNot_2 : decode cX0_whyNot 2 = .ok (.if_icmp .ne 20, 3) := by decide +kernel
theorem dX0_whyNot_5 : decode cX0_whyNot 5 = .ok (.aload_n 1, 1) := by decide +kernel
theorem dX0_whyNot_6 : decode cX0_whyNot 6 = .ok (.getfield 82, 3) := by decide +kernel
theorem dX0_whyNot_9 : decode cX0_whyNot 9 = .ok (.sipush 999, 3) := by decide +kernel
theorem dX0_whyNot_12 : decode cX0_whyNot 12 = .ok (.if_icmp .lt 8, 3) := by decide +kernel
theorem dX0_whyNot_15 : decode cX0_whyNot 15 = .ok (.bipush (-3), 2) := by decide +kernel
theorem dX0_whyNot_17 : decode cX0_whyNot 17 = .ok (.goto 4, 3) := by decide +kernel
theorem dX0_whyNot_20 : decode cX0_whyNot 20 = .ok (.iconst 0, 1) := by decide +kernel
theorem dX0_whyNot_21 : decode cX0_whyNot 21 = .ok (.ireturn, 1) := by decide +kernel
theorem dX0_whyNot_22 : decode cX0_whyNot 22 = .ok (.iload_n 2, 1) := by decide +kernel
theorem dX0_whyNot_23 : decode cX0_whyNot 23 = .ok (.iconst 2, 1) := by decide +kernel
theorem dX0_whyNot_24 : decode cX0_whyNot 24 = .ok (.if_icmp .ne 15, 3) := by decide +kernel
theorem dX0_whyNot_27 : decode cX0_whyNot 27 = .ok (.lload 5, 2) := by decide +kernel
theorem dX0_whyNot_29 : decode cX0_whyNot 29 = .ok (.bipush 9, 2) := by decide +kernel
theorem dX0_whyNot_31 : decode cX0_whyNot 31 = .ok (.invokestatic 89, 3) := by decide +kernel
theorem dX0_whyNot_34 : decode cX0_whyNot 34 = .ok (.ifCond .ne 5, 3) := by decide +kernel
theorem dX0_whyNot_37 : decode cX0_whyNot 37 = .ok (.iconst (-1), 1) := by decide +kernel
theorem dX0_whyNot_38 : decode cX0_whyNot 38 = .ok (.ireturn, 1) := by decide +kernel
theorem dX0_whyNot_39 : decode cX0_whyNot 39 = .ok (.aload_n 0, 1) := by decide +kernel
theorem dX0_whyNot_40 : decode cX0_whyNot 40 = .ok (.lload_n 3, 1) := by decide +kernel
theorem dX0_whyNot_41 : decode cX0_whyNot 41 = .ok (.invokevirtual 78, 3) := by decide +kernel
theorem dX0_whyNot_44 : decode cX0_whyNot 44 = .ok (.ifCond .ne 6, 3) := by decide +kernel
theorem dX0_whyNot_47 : decode cX0_whyNot 47 = .ok (.bipush (-2), 2) := by decide +kernel
theorem dX0_whyNot_49 : decode cX0_whyNot 49 = .ok (.ireturn, 1) := by decide +kernel
theorem dX0_whyNot_50 : decode cX0_whyNot 50 = .ok (.iload_n 2, 1) := by decide +kernel
theorem dX0_whyNot_51 : decode cX0_whyNot 51 = .ok (.iconst 1, 1) := by decide +kernel
theorem dX0_whyNot_52 : decode cX0_whyNot 52 = .ok (.if_icmp .ne 12, 3) := by decide +kernel
theorem dX0_whyNot_55 : decode cX0_whyNot 55 = .ok (.aload_n 1, 1) := by decide +kernel
theorem dX0_whyNot_56 : decode cX0_whyNot 56 = .ok (.lload_n 3, 1) := by decide +kernel
theorem dX0_whyNot_57 : decode cX0_whyNot 57 = .ok (.l2i, 1) := by decide +kernel
theorem dX0_whyNot_58 : decode cX0_whyNot 58 = .ok (.invokevirtual 93, 3) := by decide +kernel
theorem dX0_whyNot_61 : decode cX0_whyNot 61 = .ok (.ifCond .ne 22, 3) := by decide +kernel
theorem dX0_whyNot_64 : decode cX0_whyNot 64 = .ok (.iload_n 2, 1) := by decide +kernel
theorem dX0_whyNot_65 : decode cX0_whyNot 65 = .ok (.iconst 2, 1) := by decide +kernel
theorem dX0_whyNot_66 : decode cX0_whyNot 66 = .ok (.if_icmp .ne 21, 3) := by decide +kernel
theorem dX0_whyNot_69 : decode cX0_whyNot 69 = .ok (.aload_n 1, 1) := by decide +kernel
theorem dX0_whyNot_70 : decode cX0_whyNot 70 = .ok (.getfield 71, 3) := by decide +kernel
theorem dX0_whyNot_73 : decode cX0_whyNot 73 = .ok (.lload_n 3, 1) := by decide +kernel
theorem dX0_whyNot_74 : decode cX0_whyNot 74 = .ok (.l2i, 1) := by decide +kernel
theorem dX0_whyNot_75 : decode cX0_whyNot 75 = .ok (.iaload, 1) := by decide +kernel
theorem dX0_whyNot_76 : decode cX0_whyNot 76 = .ok (.i2l, 1) := by decide +kernel
theorem dX0_whyNot_77 : decode cX0_whyNot 77 = .ok (.lload 5, 2) := by decide +kernel
theorem dX0_whyNot_79 : decode cX0_whyNot 79 = .ok (.lcmp, 1) := by decide +kernel
theorem dX0_whyNot_80 : decode cX0_whyNot 80 = .ok (.ifCond .ne 7, 3) := by decide +kernel
theorem dX0_whyNot_83 : decode cX0_whyNot 83 = .ok (.iconst 1, 1) := by decide +kernel
theorem dX0_whyNot_84 : decode cX0_whyNot 84 = .ok (.goto 4, 3) := by decide +kernel
theorem dX0_whyNot_87 : decode cX0_whyNot 87 = .ok (.iconst 0, 1) := by decide +kernel
theorem dX0_whyNot_88 : decode cX0_whyNot 88 = .ok (.istore 7, 2) := by decide +kernel
theorem dX0_whyNot_90 : decode cX0_whyNot 90 = .ok (.iload 7, 2) := by decide +kernel
theorem dX0_whyNot_92 : decode cX0_whyNot 92 = .ok (.ifCond .eq 8, 3) := by decide +kernel
theorem dX0_whyNot_95 : decode cX0_whyNot 95 = .ok (.bipush (-3), 2) := by decide +kernel
theorem dX0_whyNot_97 : decode cX0_whyNot 97 = .ok (.goto 4, 3) := by decide +kernel
theorem dX0_whyNot_100 : decode cX0_whyNot 100 = .ok (.iconst 0, 1) := by decide +kernel
theorem dX0_whyNot_101 : decode cX0_whyNot 101 = .ok (.ireturn, 1) := by decide +kernel
theorem dX1_init_0 : decode cX1_init 0 = .ok (.aload_n 0, 1) := by decide +kernel
theorem dX1_init_1 : decode cX1_init 1 = .ok (.invokespecial 3, 3) := by decide +kernel
theorem dX1_init_4 : decode cX1_init 4 = .ok (.aload_n 0, 1) := by decide +kernel
theorem dX1_init_5 : decode cX1_init 5 = .ok (.new 9, 3) := by decide +kernel
theorem dX1_init_8 : decode cX1_init 8 = .ok (.dup, 1) := by decide +kernel
theorem dX1_init_9 : decode cX1_init 9 = .ok (.invokespecial 11, 3) := by decide +kernel
theorem dX1_init_12 : decode cX1_init 12 = .ok (.putfield 12, 3) := by decide +kernel
theorem dX1_init_15 : decode cX1_init 15 = .ok (.aload_n 0, 1) := by decide +kernel
theorem dX1_init_16 : decode cX1_init 16 = .ok (.new 18, 3) := by decide +kernel
theorem dX1_init_19 : decode cX1_init 19 = .ok (.dup, 1) := by decide +kernel
theorem dX1_init_20 : decode cX1_init 20 = .ok (.invokespecial 20, 3) := by decide +kernel
theorem dX1_init_23 : decode cX1_init 23 = .ok (.putfield 21, 3) := by decide +kernel
theorem dX1_init_26 : decode cX1_init 26 = .ok (.aload_n 0, 1) := by decide +kernel
theorem dX1_init_27 : decode cX1_init 27 = .ok (.bipush 8, 2) := by decide +kernel
theorem dX1_init_29 : decode cX1_init 29 = .ok (.newarray .int, 2) := by decide +kernel
theorem dX1_init_31 : decode cX1_init 31 = .ok (.putfield 25, 3) := by decide +kernel
theorem dX1_init_34 : decode cX1_init 34 = .ok (.aload_n 0, 1) := by decide +kernel
theorem dX1_init_35 : decode cX1_init 35 = .ok (.bipush 61, 2) := by decide +kernel
theorem dX1_init_37 : decode cX1_init 37 = .ok (.newarray .int, 2) := by decide +kernel
theorem dX1_init_39 : decode cX1_init 39 = .ok (.putfield 29, 3) := by decide +kernel
theorem dX1_init_42 : decode cX1_init 42 = .ok (.return_, 1) := by decide +kernel
theorem dX1_ask_0 : decode cX1_ask 0 = .ok (.aload_n 1, 1) := by decide +kernel
theorem dX1_ask_1 : decode cX1_ask 1 = .ok (.iload_n 2, 1) := by decide +kernel
theorem dX1_ask_2 : decode cX1_ask 2 = .ok (.i2l, 1) := by decide +kernel
theorem dX1_ask_3 : decode cX1_ask 3 = .ok (.invokevirtual 32, 3) := by decide +kernel
theorem dX1_ask_6 : decode cX1_ask 6 = .ok (.ifCond .ne 5, 3) := by decide +kernel
theorem dX1_ask_9 : decode cX1_ask 9 = .ok (.iconst (-1), 1) := by decide +kernel
theorem dX1_ask_10 : decode cX1_ask 10 = .ok (.ireturn, 1) := by decide +kernel
theorem dX1_ask_11 : decode cX1_ask 11 = .ok (.aload_n 1, 1) := by decide +kernel
theorem dX1_ask_12 : decode cX1_ask 12 = .ok (.invokevirtual 38, 3) := by decide +kernel
theorem dX1_ask_15 : decode cX1_ask 15 = .ok (.astore 4, 2) := by decide +kernel
theorem dX1_ask_17 : decode cX1_ask 17 = .ok (.aload_n 1, 1) := by decide +kernel
theorem dX1_ask_18 : decode cX1_ask 18 = .ok (.getfield 42, 3) := by decide +kernel
theorem dX1_ask_21 : decode cX1_ask 21 = .ok (.getfield 45, 3) := by decide +kernel
theorem dX1_ask_24 : decode cX1_ask 24 = .ok (.iload_n 2, 1) := by decide +kernel
theorem dX1_ask_25 : decode cX1_ask 25 = .ok (.iaload, 1) := by decide +kernel
theorem dX1_ask_26 : decode cX1_ask 26 = .ok (.istore 5, 2) := by decide +kernel
theorem dX1_ask_28 : decode cX1_ask 28 = .ok (.aload_n 0, 1) := by decide +kernel
theorem dX1_ask_29 : decode cX1_ask 29 = .ok (.aload_n 1, 1) := by decide +kernel
theorem dX1_ask_30 : decode cX1_ask 30 = .ok (.aload_n 1, 1) := by decide +kernel
theorem dX1_ask_31 : decode cX1_ask 31 = .ok (.getfield 42, 3) := by decide +kernel
theorem dX1_ask_34 : decode cX1_ask 34 = .ok (.iload_n 2, 1) := by decide +kernel
theorem dX1_ask_35 : decode cX1_ask 35 = .ok (.invokevirtual 48, 3) := by decide +kernel
theorem dX1_ask_38 : decode cX1_ask 38 = .ok (.iload_n 3, 1) := by decide +kernel
theorem dX1_ask_39 : decode cX1_ask 39 = .ok (.tableswitch 76 5 8 #[29, 39, 49, 58], 29) := by decide +kernel
theorem dX1_ask_68 : decode cX1_ask 68 = .ok (.aload_n 0, 1) := by decide +kernel
theorem dX1_ask_69 : decode cX1_ask 69 = .ok (.aload 4, 2) := by decide +kernel
theorem dX1_ask_71 : decode cX1_ask 71 = .ok (.iconst 0, 1) := by decide +kernel
theorem dX1_ask_72 : decode cX1_ask 72 = .ok (.iload 5, 2) := by decide +kernel
theorem dX1_ask_74 : decode cX1_ask 74 = .ok (.invokevirtual 52, 3) := by decide +kernel
theorem dX1_ask_77 : decode cX1_ask 77 = .ok (.ireturn, 1) := by decide +kernel
theorem dX1_ask_78 : decode cX1_ask 78 = .ok (.aload_n 0, 1) := by decide +kernel
theorem dX1_ask_79 : decode cX1_ask 79 = .ok (.aload 4, 2) := by decide +kernel
theorem dX1_ask_81 : decode cX1_ask 81 = .ok (.iconst 1, 1) := by decide +kernel
theorem dX1_ask_82 : decode cX1_ask 82 = .ok (.iload 5, 2) := by decide +kernel
theorem dX1_ask_84 : decode cX1_ask 84 = .ok (.invokevirtual 52, 3) := by decide +kernel
theorem dX1_ask_87 : decode cX1_ask 87 = .ok (.ireturn, 1) := by decide +kernel
theorem dX1_ask_88 : decode cX1_ask 88 = .ok (.aload_n 0, 1) := by decide +kernel
theorem dX1_ask_89 : decode cX1_ask 89 = .ok (.aload 4, 2) := by decide +kernel
theorem dX1_ask_91 : decode cX1_ask 91 = .ok (.iconst 2, 1) := by decide +kernel
theorem dX1_ask_92 : decode cX1_ask 92 = .ok (.iconst 0, 1) := by decide +kernel
theorem dX1_ask_93 : decode cX1_ask 93 = .ok (.invokevirtual 52, 3) := by decide +kernel
theorem dX1_ask_96 : decode cX1_ask 96 = .ok (.ireturn, 1) := by decide +kernel
theorem dX1_ask_97 : decode cX1_ask 97 = .ok (.aload_n 0, 1) := by decide +kernel
theorem dX1_ask_98 : decode cX1_ask 98 = .ok (.aload_n 1, 1) := by decide +kernel
theorem dX1_ask_99 : decode cX1_ask 99 = .ok (.aload_n 1, 1) := by decide +kernel
theorem dX1_ask_100 : decode cX1_ask 100 = .ok (.getfield 42, 3) := by decide +kernel
theorem dX1_ask_103 : decode cX1_ask 103 = .ok (.getfield 56, 3) := by decide +kernel
theorem dX1_ask_106 : decode cX1_ask 106 = .ok (.iconst 1, 1) := by decide +kernel
theorem dX1_ask_107 : decode cX1_ask 107 = .ok (.invokevirtual 60, 3) := by decide +kernel
theorem dX1_ask_110 : decode cX1_ask 110 = .ok (.iload_n 2, 1) := by decide +kernel
theorem dX1_ask_111 : decode cX1_ask 111 = .ok (.ishr, 1) := by decide +kernel
theorem dX1_ask_112 : decode cX1_ask 112 = .ok (.iconst 1, 1) := by decide +kernel
theorem dX1_ask_113 : decode cX1_ask 113 = .ok (.iand, 1) := by decide +kernel
theorem dX1_ask_114 : decode cX1_ask 114 = .ok (.ireturn, 1) := by decide +kernel
theorem dX1_ask_115 : decode cX1_ask 115 = .ok (.iconst (-1), 1) := by decide +kernel
theorem dX1_ask_116 : decode cX1_ask 116 = .ok (.ireturn, 1) := by decide +kernel
theorem dX1_perform_0 : decode cX1_perform 0 = .ok (.iload_n 3, 1) := by decide +kernel
theorem dX1_perform_1 : decode cX1_perform 1 = .ok (.tableswitch 54 0 2 #[27, 34, 45], 27) := by decide +kernel
theorem dX1_perform_28 : decode cX1_perform 28 = .ok (.aload_n 2, 1) := by decide +kernel
theorem dX1_perform_29 : decode cX1_perform 29 = .ok (.iload 4, 2) := by decide +kernel
theorem dX1_perform_31 : decode cX1_perform 31 = .ok (.invokevirtual 64, 3) := by decide +kernel
theorem dX1_perform_34 : decode cX1_perform 34 = .ok (.ireturn, 1) := by decide +kernel
theorem dX1_perform_35 : decode cX1_perform 35 = .ok (.aload_n 2, 1) := by decide +kernel
theorem dX1_perform_36 : decode cX1_perform 36 = .ok (.iload 4, 2) := by decide +kernel
theorem dX1_perform_38 : decode cX1_perform 38 = .ok (.invokevirtual 68, 3) := by decide +kernel
theorem dX1_perform_41 : decode cX1_perform 41 = .ok (.aload_n 2, 1) := by decide +kernel
theorem dX1_perform_42 : decode cX1_perform 42 = .ok (.invokevirtual 72, 3) := by decide +kernel
theorem dX1_perform_45 : decode cX1_perform 45 = .ok (.ireturn, 1) := by decide +kernel
theorem dX1_perform_46 : decode cX1_perform 46 = .ok (.aload_n 2, 1) := by decide +kernel
theorem dX1_perform_47 : decode cX1_perform 47 = .ok (.iload 4, 2) := by decide +kernel
theorem dX1_perform_49 : decode cX1_perform 49 = .ok (.iload 5, 2) := by decide +kernel
theorem dX1_perform_51 : decode cX1_perform 51 = .ok (.invokevirtual 76, 3) := by decide +kernel
theorem dX1_perform_54 : decode cX1_perform 54 = .ok (.ireturn, 1) := by decide +kernel
theorem dX1_perform_55 : decode cX1_perform 55 = .ok (.aload_n 0, 1) := by decide +kernel
theorem dX1_perform_56 : decode cX1_perform 56 = .ok (.aload_n 1, 1) := by decide +kernel
theorem dX1_perform_57 : decode cX1_perform 57 = .ok (.aload_n 2, 1) := by decide +kernel
theorem dX1_perform_58 : decode cX1_perform 58 = .ok (.aload_n 1, 1) := by decide +kernel
theorem dX1_perform_59 : decode cX1_perform 59 = .ok (.invokevirtual 38, 3) := by decide +kernel
theorem dX1_perform_62 : decode cX1_perform 62 = .ok (.iconst 0, 1) := by decide +kernel
theorem dX1_perform_63 : decode cX1_perform 63 = .ok (.invokevirtual 80, 3) := by decide +kernel
theorem dX1_perform_66 : decode cX1_perform 66 = .ok (.pop, 1) := by decide +kernel
theorem dX1_perform_67 : decode cX1_perform 67 = .ok (.aload_n 2, 1) := by decide +kernel
theorem dX1_perform_68 : decode cX1_perform 68 = .ok (.invokevirtual 72, 3) := by decide +kernel
theorem dX1_perform_71 : decode cX1_perform 71 = .ok (.ireturn, 1) := by decide +kernel
theorem dX1_passMinute_0 : decode cX1_passMinute 0 = .ok (.iconst 0, 1) := by decide +kernel
theorem dX1_passMinute_1 : decode cX1_passMinute 1 = .ok (.istore 5, 2) := by decide +kernel
theorem dX1_passMinute_3 : decode cX1_passMinute 3 = .ok (.aload_n 3, 1) := by decide +kernel
theorem dX1_passMinute_4 : decode cX1_passMinute 4 = .ok (.ifnull 14, 3) := by decide +kernel
theorem dX1_passMinute_7 : decode cX1_passMinute 7 = .ok (.aload_n 3, 1) := by decide +kernel
theorem dX1_passMinute_8 : decode cX1_passMinute 8 = .ok (.getfield 84, 3) := by decide +kernel
theorem dX1_passMinute_11 : decode cX1_passMinute 11 = .ok (.ifCond .eq 7, 3) := by decide +kernel
theorem dX1_passMinute_14 : decode cX1_passMinute 14 = .ok (.iconst 1, 1) := by decide +kernel
theorem dX1_passMinute_15 : decode cX1_passMinute 15 = .ok (.goto 4, 3) := by decide +kernel
theorem dX1_passMinute_18 : decode cX1_passMinute 18 = .ok (.iconst 0, 1) := by decide +kernel
theorem dX1_passMinute_19 : decode cX1_passMinute 19 = .ok (.istore 6, 2) := by decide +kernel
theorem dX1_passMinute_21 : decode cX1_passMinute 21 = .ok (.iconst 0, 1) := by decide +kernel
theorem dX1_passMinute_22 : decode cX1_passMinute 22 = .ok (.istore 7, 2) := by decide +kernel
theorem dX1_passMinute_24 : decode cX1_passMinute 24 = .ok (.iload 7, 2) := by decide +kernel
theorem dX1_passMinute_26 : decode cX1_passMinute 26 = .ok (.aload_n 1, 1) := by decide +kernel
theorem dX1_passMinute_27 : decode cX1_passMinute 27 = .ok (.getfield 90, 3) := by decide +kernel
theorem dX1_passMinute_30 : decode cX1_passMinute 30 = .ok (.if_icmp .ge 142, 3) := by decide +kernel
theorem dX1_passMinute_33 : decode cX1_passMinute 33 = .ok (.iload 7, 2) := by decide +kernel
theorem dX1_passMinute_35 : decode cX1_passMinute 35 = .ok (.bipush 8, 2) := by decide +kernel
theorem dX1_passMinute_37 : decode cX1_passMinute 37 = .ok (.if_icmp .ge 135, 3) := by decide +kernel
theorem dX1_passMinute_40 : decode cX1_passMinute 40 = .ok (.aload_n 0, 1) := by decide +kernel
theorem dX1_passMinute_41 : decode cX1_passMinute 41 = .ok (.aload_n 1, 1) := by decide +kernel
theorem dX1_passMinute_42 : decode cX1_passMinute 42 = .ok (.aload_n 2, 1) := by decide +kernel
theorem dX1_passMinute_43 : decode cX1_passMinute 43 = .ok (.iload 7, 2) := by decide +kernel
theorem dX1_passMinute_45 : decode cX1_passMinute 45 = .ok (.invokevirtual 48, 3) := by decide +kernel
theorem dX1_passMinute_48 : decode cX1_passMinute 48 = .ok (.aload_n 2, 1) := by decide +kernel
theorem dX1_passMinute_49 : decode cX1_passMinute 49 = .ok (.getfield 45, 3) := by decide +kernel
theorem dX1_passMinute_52 : decode cX1_passMinute 52 = .ok (.iload 7, 2) := by decide +kernel
theorem dX1_passMinute_54 : decode cX1_passMinute 54 = .ok (.iaload, 1) := by decide +kernel
theorem dX1_passMinute_55 : decode cX1_passMinute 55 = .ok (.istore 8, 2) := by decide +kernel
theorem dX1_passMinute_57 : decode cX1_passMinute 57 = .ok (.aload_n 2, 1) := by decide +kernel
theorem dX1_passMinute_58 : decode cX1_passMinute 58 = .ok (.iload 7, 2) := by decide +kernel
theorem dX1_passMinute_60 : decode cX1_passMinute 60 = .ok (.invokevirtual 93, 3) := by decide +kernel
theorem dX1_passMinute_63 : decode cX1_passMinute 63 = .ok (.ifCond .eq 21, 3) := by decide +kernel
theorem dX1_passMinute_66 : decode cX1_passMinute 66 = .ok (.aload_n 0, 1) := by decide +kernel
theorem dX1_passMinute_67 : decode cX1_passMinute 67 = .ok (.aload_n 3, 1) := by decide +kernel
theorem dX1_passMinute_68 : decode cX1_passMinute 68 = .ok (.iconst 2, 1) := by decide +kernel
theorem dX1_passMinute_69 : decode cX1_passMinute 69 = .ok (.iconst 0, 1) := by decide +kernel
theorem dX1_passMinute_70 : decode cX1_passMinute 70 = .ok (.invokevirtual 52, 3) := by decide +kernel
theorem dX1_passMinute_73 : decode cX1_passMinute 73 = .ok (.ifCond .ne 7, 3) := by decide +kernel
theorem dX1_passMinute_76 : decode cX1_passMinute 76 = .ok (.iconst 1, 1) := by decide +kernel
theorem dX1_passMinute_77 : decode cX1_passMinute 77 = .ok (.goto 32, 3) := by decide +kernel
theorem dX1_passMinute_80 : decode cX1_passMinute 80 = .ok (.iconst 0, 1) := by decide +kernel
theorem dX1_passMinute_81 : decode cX1_passMinute 81 = .ok (.goto 28, 3) := by decide +kernel
theorem dX1_passMinute_84 : decode cX1_passMinute 84 = .ok (.aload_n 0, 1) := by decide +kernel
theorem dX1_passMinute_85 : decode cX1_passMinute 85 = .ok (.getfield 12, 3) := by decide +kernel
theorem dX1_passMinute_88 : decode cX1_passMinute 88 = .ok (.getfield 97, 3) := by decide +kernel
theorem dX1_passMinute_91 : decode cX1_passMinute 91 = .ok (.iconst 3, 1) := by decide +kernel
theorem dX1_passMinute_92 : decode cX1_passMinute 92 = .ok (.iaload, 1) := by decide +kernel
theorem dX1_passMinute_93 : decode cX1_passMinute 93 = .ok (.aload_n 0, 1) := by decide +kernel
theorem dX1_passMinute_94 : decode cX1_passMinute 94 = .ok (.aload_n 3, 1) := by decide +kernel
theorem dX1_passMinute_95 : decode cX1_passMinute 95 = .ok (.iconst 0, 1) := by decide +kernel
theorem dX1_passMinute_96 : decode cX1_passMinute 96 = .ok (.iload 8, 2) := by decide +kernel
theorem dX1_passMinute_98 : decode cX1_passMinute 98 = .ok (.invokevirtual 52, 3) := by decide +kernel
theorem dX1_passMinute_101 : decode cX1_passMinute 101 = .ok (.if_icmp .lt 7, 3) := by decide +kernel
theorem dX1_passMinute_104 : decode cX1_passMinute 104 = .ok (.iconst 1, 1) := by decide +kernel
theorem dX1_passMinute_105 : decode cX1_passMinute 105 = .ok (.goto 4, 3) := by decide +kernel
theorem dX1_passMinute_108 : decode cX1_passMinute 108 = .ok (.iconst 0, 1) := by decide +kernel
theorem dX1_passMinute_109 : decode cX1_passMinute 109 = .ok (.istore 9, 2) := by decide +kernel
theorem dX1_passMinute_111 : decode cX1_passMinute 111 = .ok (.iload 5, 2) := by decide +kernel
theorem dX1_passMinute_113 : decode cX1_passMinute 113 = .ok (.iload 9, 2) := by decide +kernel
theorem dX1_passMinute_115 : decode cX1_passMinute 115 = .ok (.ifCond .eq 10, 3) := by decide +kernel
theorem dX1_passMinute_118 : decode cX1_passMinute 118 = .ok (.iconst 1, 1) := by decide +kernel
theorem dX1_passMinute_119 : decode cX1_passMinute 119 = .ok (.iload 7, 2) := by decide +kernel
theorem dX1_passMinute_121 : decode cX1_passMinute 121 = .ok (.ishl, 1) := by decide +kernel
theorem dX1_passMinute_122 : decode cX1_passMinute 122 = .ok (.goto 4, 3) := by decide +kernel
theorem dX1_passMinute_125 : decode cX1_passMinute 125 = .ok (.iconst 0, 1) := by decide +kernel
theorem dX1_passMinute_126 : decode cX1_passMinute 126 = .ok (.ior, 1) := by decide +kernel
theorem dX1_passMinute_127 : decode cX1_passMinute 127 = .ok (.istore 5, 2) := by decide +kernel
theorem dX1_passMinute_129 : decode cX1_passMinute 129 = .ok (.aload_n 0, 1) := by decide +kernel
theorem dX1_passMinute_130 : decode cX1_passMinute 130 = .ok (.getfield 25, 3) := by decide +kernel
theorem dX1_passMinute_133 : decode cX1_passMinute 133 = .ok (.iload 7, 2) := by decide +kernel
theorem dX1_passMinute_135 : decode cX1_passMinute 135 = .ok (.aload_n 0, 1) := by decide +kernel
theorem dX1_passMinute_136 : decode cX1_passMinute 136 = .ok (.aload_n 3, 1) := by decide +kernel
theorem dX1_passMinute_137 : decode cX1_passMinute 137 = .ok (.iconst 1, 1) := by decide +kernel
theorem dX1_passMinute_138 : decode cX1_passMinute 138 = .ok (.iload 8, 2) := by decide +kernel
theorem dX1_passMinute_140 : decode cX1_passMinute 140 = .ok (.invokevirtual 52, 3) := by decide +kernel
theorem dX1_passMinute_143 : decode cX1_passMinute 143 = .ok (.iastore, 1) := by decide +kernel
theorem dX1_passMinute_144 : decode cX1_passMinute 144 = .ok (.iload 6, 2) := by decide +kernel
theorem dX1_passMinute_146 : decode cX1_passMinute 146 = .ok (.aload_n 0, 1) := by decide +kernel
theorem dX1_passMinute_147 : decode cX1_passMinute 147 = .ok (.getfield 25, 3) := by decide +kernel
theorem dX1_passMinute_150 : decode cX1_passMinute 150 = .ok (.iload 7, 2) := by decide +kernel
theorem dX1_passMinute_152 : decode cX1_passMinute 152 = .ok (.iaload, 1) := by decide +kernel
theorem dX1_passMinute_153 : decode cX1_passMinute 153 = .ok (.iload 8, 2) := by decide +kernel
theorem dX1_passMinute_155 : decode cX1_passMinute 155 = .ok (.if_icmp .eq 7, 3) := by decide +kernel
theorem dX1_passMinute_158 : decode cX1_passMinute 158 = .ok (.iconst 1, 1) := by decide +kernel
theorem dX1_passMinute_159 : decode cX1_passMinute 159 = .ok (.goto 4, 3) := by decide +kernel
theorem dX1_passMinute_162 : decode cX1_passMinute 162 = .ok (.iconst 0, 1) := by decide +kernel
theorem dX1_passMinute_163 : decode cX1_passMinute 163 = .ok (.ior, 1) := by decide +kernel
theorem dX1_passMinute_164 : decode cX1_passMinute 164 = .ok (.istore 6, 2) := by decide +kernel
theorem dX1_passMinute_166 : decode cX1_passMinute 166 = .ok (.iinc 7 1, 3) := by decide +kernel
theorem dX1_passMinute_169 : decode cX1_passMinute 169 = .ok (.goto (-145), 3) := by decide +kernel
theorem dX1_passMinute_172 : decode cX1_passMinute 172 = .ok (.iload 5, 2) := by decide +kernel
theorem dX1_passMinute_174 : decode cX1_passMinute 174 = .ok (.iload 4, 2) := by decide +kernel
theorem dX1_passMinute_176 : decode cX1_passMinute 176 = .ok (.iconst (-1), 1) := by decide +kernel
theorem dX1_passMinute_177 : decode cX1_passMinute 177 = .ok (.ixor, 1) := by decide +kernel
theorem dX1_passMinute_178 : decode cX1_passMinute 178 = .ok (.iand, 1) := by decide +kernel
theorem dX1_passMinute_179 : decode cX1_passMinute 179 = .ok (.istore 5, 2) := by decide +kernel
theorem dX1_passMinute_181 : decode cX1_passMinute 181 = .ok (.iload 6, 2) := by decide +kernel
theorem dX1_passMinute_183 : decode cX1_passMinute 183 = .ok (.iload 5, 2) := by decide +kernel
theorem dX1_passMinute_185 : decode cX1_passMinute 185 = .ok (.aload_n 2, 1) := by decide +kernel
theorem dX1_passMinute_186 : decode cX1_passMinute 186 = .ok (.getfield 56, 3) := by decide +kernel
theorem dX1_passMinute_189 : decode cX1_passMinute 189 = .ok (.if_icmp .eq 7, 3) := by decide +kernel
theorem dX1_passMinute_192 : decode cX1_passMinute 192 = .ok (.iconst 1, 1) := by decide +kernel
theorem dX1_passMinute_193 : decode cX1_passMinute 193 = .ok (.goto 4, 3) := by decide +kernel
theorem dX1_passMinute_196 : decode cX1_passMinute 196 = .ok (.iconst 0, 1) := by decide +kernel
theorem dX1_passMinute_197 : decode cX1_passMinute 197 = .ok (.ior, 1) := by decide +kernel
theorem dX1_passMinute_198 : decode cX1_passMinute 198 = .ok (.istore 6, 2) := by decide +kernel
theorem dX1_passMinute_200 : decode cX1_passMinute 200 = .ok (.iconst 0, 1) := by decide +kernel
theorem dX1_passMinute_201 : decode cX1_passMinute 201 = .ok (.istore 7, 2) := by decide +kernel
theorem dX1_passMinute_203 : decode cX1_passMinute 203 = .ok (.iload 7, 2) := by decide +kernel
theorem dX1_passMinute_205 : decode cX1_passMinute 205 = .ok (.aload_n 1, 1) := by decide +kernel
theorem dX1_passMinute_206 : decode cX1_passMinute 206 = .ok (.getfield 90, 3) := by decide +kernel
theorem dX1_passMinute_209 : decode cX1_passMinute 209 = .ok (.if_icmp .ge 51, 3) := by decide +kernel
theorem dX1_passMinute_212 : decode cX1_passMinute 212 = .ok (.iload 7, 2) := by decide +kernel
theorem dX1_passMinute_214 : decode cX1_passMinute 214 = .ok (.bipush 8, 2) := by decide +kernel
theorem dX1_passMinute_216 : decode cX1_passMinute 216 = .ok (.if_icmp .ge 44, 3) := by decide +kernel
theorem dX1_passMinute_219 : decode cX1_passMinute 219 = .ok (.aload_n 2, 1) := by decide +kernel
theorem dX1_passMinute_220 : decode cX1_passMinute 220 = .ok (.getfield 45, 3) := by decide +kernel
theorem dX1_passMinute_223 : decode cX1_passMinute 223 = .ok (.iload 7, 2) := by decide +kernel
theorem dX1_passMinute_225 : decode cX1_passMinute 225 = .ok (.aload_n 0, 1) := by decide +kernel
theorem dX1_passMinute_226 : decode cX1_passMinute 226 = .ok (.getfield 25, 3) := by decide +kernel
theorem dX1_passMinute_229 : decode cX1_passMinute 229 = .ok (.iload 7, 2) := by decide +kernel
theorem dX1_passMinute_231 : decode cX1_passMinute 231 = .ok (.iaload, 1) := by decide +kernel
theorem dX1_passMinute_232 : decode cX1_passMinute 232 = .ok (.iastore, 1) := by decide +kernel
theorem dX1_passMinute_233 : decode cX1_passMinute 233 = .ok (.aload_n 2, 1) := by decide +kernel
theorem dX1_passMinute_234 : decode cX1_passMinute 234 = .ok (.getfield 100, 3) := by decide +kernel
theorem dX1_passMinute_237 : decode cX1_passMinute 237 = .ok (.iload 7, 2) := by decide +kernel
theorem dX1_passMinute_239 : decode cX1_passMinute 239 = .ok (.aload_n 2, 1) := by decide +kernel
theorem dX1_passMinute_240 : decode cX1_passMinute 240 = .ok (.getfield 100, 3) := by decide +kernel
theorem dX1_passMinute_243 : decode cX1_passMinute 243 = .ok (.iload 7, 2) := by decide +kernel
theorem dX1_passMinute_245 : decode cX1_passMinute 245 = .ok (.iaload, 1) := by decide +kernel
theorem dX1_passMinute_246 : decode cX1_passMinute 246 = .ok (.iconst 1, 1) := by decide +kernel
theorem dX1_passMinute_247 : decode cX1_passMinute 247 = .ok (.iadd, 1) := by decide +kernel
theorem dX1_passMinute_248 : decode cX1_passMinute 248 = .ok (.bipush 99, 2) := by decide +kernel
theorem dX1_passMinute_250 : decode cX1_passMinute 250 = .ok (.invokestatic 103, 3) := by decide +kernel
theorem dX1_passMinute_253 : decode cX1_passMinute 253 = .ok (.iastore, 1) := by decide +kernel
theorem dX1_passMinute_254 : decode cX1_passMinute 254 = .ok (.iinc 7 1, 3) := by decide +kernel
theorem dX1_passMinute_257 : decode cX1_passMinute 257 = .ok (.goto (-54), 3) := by decide +kernel
theorem dX1_passMinute_260 : decode cX1_passMinute 260 = .ok (.aload_n 2, 1) := by decide +kernel
theorem dX1_passMinute_261 : decode cX1_passMinute 261 = .ok (.iload 5, 2) := by decide +kernel
theorem dX1_passMinute_263 : decode cX1_passMinute 263 = .ok (.putfield 56, 3) := by decide +kernel
theorem dX1_passMinute_266 : decode cX1_passMinute 266 = .ok (.aload_n 2, 1) := by decide +kernel
theorem dX1_passMinute_267 : decode cX1_passMinute 267 = .ok (.dup, 1) := by decide +kernel
theorem dX1_passMinute_268 : decode cX1_passMinute 268 = .ok (.getfield 108, 3) := by decide +kernel
theorem dX1_passMinute_271 : decode cX1_passMinute 271 = .ok (.iconst 1, 1) := by decide +kernel
theorem dX1_passMinute_272 : decode cX1_passMinute 272 = .ok (.iadd, 1) := by decide +kernel
theorem dX1_passMinute_273 : decode cX1_passMinute 273 = .ok (.putfield 108, 3) := by decide +kernel
theorem dX1_passMinute_276 : decode cX1_passMinute 276 = .ok (.iload 6, 2) := by decide +kernel
theorem dX1_passMinute_278 : decode cX1_passMinute 278 = .ok (.ireturn, 1) := by decide +kernel
theorem dX1_hear_0 : decode cX1_hear 0 = .ok (.aload_n 0, 1) := by decide +kernel
theorem dX1_hear_1 : decode cX1_hear 1 = .ok (.getfield 12, 3) := by decide +kernel
theorem dX1_hear_4 : decode cX1_hear 4 = .ok (.getfield 97, 3) := by decide +kernel
theorem dX1_hear_7 : decode cX1_hear 7 = .ok (.astore 4, 2) := by decide +kernel
theorem dX1_hear_9 : decode cX1_hear 9 = .ok (.aload 4, 2) := by decide +kernel
theorem dX1_hear_11 : decode cX1_hear 11 = .ok (.iconst 0, 1) := by decide +kernel
theorem dX1_hear_12 : decode cX1_hear 12 = .ok (.iload_n 3, 1) := by decide +kernel
theorem dX1_hear_13 : decode cX1_hear 13 = .ok (.iastore, 1) := by decide +kernel
theorem dX1_hear_14 : decode cX1_hear 14 = .ok (.aload 4, 2) := by decide +kernel
theorem dX1_hear_16 : decode cX1_hear 16 = .ok (.iconst 1, 1) := by decide +kernel
theorem dX1_hear_17 : decode cX1_hear 17 = .ok (.aload_n 2, 1) := by decide +kernel
theorem dX1_hear_18 : decode cX1_hear 18 = .ok (.getfield 45, 3) := by decide +kernel
theorem dX1_hear_21 : decode cX1_hear 21 = .ok (.iload_n 3, 1) := by decide +kernel
theorem dX1_hear_22 : decode cX1_hear 22 = .ok (.iaload, 1) := by decide +kernel
theorem dX1_hear_23 : decode cX1_hear 23 = .ok (.iastore, 1) := by decide +kernel
theorem dX1_hear_24 : decode cX1_hear 24 = .ok (.aload 4, 2) := by decide +kernel
theorem dX1_hear_26 : decode cX1_hear 26 = .ok (.iconst 2, 1) := by decide +kernel
theorem dX1_hear_27 : decode cX1_hear 27 = .ok (.aload_n 1, 1) := by decide +kernel
theorem dX1_hear_28 : decode cX1_hear 28 = .ok (.getfield 111, 3) := by decide +kernel
theorem dX1_hear_31 : decode cX1_hear 31 = .ok (.iload_n 3, 1) := by decide +kernel
theorem dX1_hear_32 : decode cX1_hear 32 = .ok (.iaload, 1) := by decide +kernel
theorem dX1_hear_33 : decode cX1_hear 33 = .ok (.iastore, 1) := by decide +kernel
theorem dX1_hear_34 : decode cX1_hear 34 = .ok (.aload 4, 2) := by decide +kernel
theorem dX1_hear_36 : decode cX1_hear 36 = .ok (.iconst 3, 1) := by decide +kernel
theorem dX1_hear_37 : decode cX1_hear 37 = .ok (.aload_n 1, 1) := by decide +kernel
theorem dX1_hear_38 : decode cX1_hear 38 = .ok (.getfield 114, 3) := by decide +kernel
theorem dX1_hear_41 : decode cX1_hear 41 = .ok (.iload_n 3, 1) := by decide +kernel
theorem dX1_hear_42 : decode cX1_hear 42 = .ok (.iaload, 1) := by decide +kernel
theorem dX1_hear_43 : decode cX1_hear 43 = .ok (.aload_n 2, 1) := by decide +kernel
theorem dX1_hear_44 : decode cX1_hear 44 = .ok (.getfield 56, 3) := by decide +kernel
theorem dX1_hear_47 : decode cX1_hear 47 = .ok (.iand, 1) := by decide +kernel
theorem dX1_hear_48 : decode cX1_hear 48 = .ok (.invokestatic 117, 3) := by decide +kernel
theorem dX1_hear_51 : decode cX1_hear 51 = .ok (.iastore, 1) := by decide +kernel
theorem dX1_hear_52 : decode cX1_hear 52 = .ok (.aload 4, 2) := by decide +kernel
theorem dX1_hear_54 : decode cX1_hear 54 = .ok (.iconst 4, 1) := by decide +kernel
theorem dX1_hear_55 : decode cX1_hear 55 = .ok (.aload_n 2, 1) := by decide +kernel
theorem dX1_hear_56 : decode cX1_hear 56 = .ok (.invokevirtual 72, 3) := by decide +kernel
theorem dX1_hear_59 : decode cX1_hear 59 = .ok (.iastore, 1) := by decide +kernel
theorem dX1_hear_60 : decode cX1_hear 60 = .ok (.aload 4, 2) := by decide +kernel
theorem dX1_hear_62 : decode cX1_hear 62 = .ok (.iconst 5, 1) := by decide +kernel
theorem dX1_hear_63 : decode cX1_hear 63 = .ok (.aload_n 2, 1) := by decide +kernel
theorem dX1_hear_64 : decode cX1_hear 64 = .ok (.getfield 100, 3) := by decide +kernel
theorem dX1_hear_67 : decode cX1_hear 67 = .ok (.iload_n 3, 1) := by decide +kernel
theorem dX1_hear_68 : decode cX1_hear 68 = .ok (.iaload, 1) := by decide +kernel
theorem dX1_hear_69 : decode cX1_hear 69 = .ok (.iastore, 1) := by decide +kernel
theorem dX1_hear_70 : decode cX1_hear 70 = .ok (.aload 4, 2) := by decide +kernel
theorem dX1_hear_72 : decode cX1_hear 72 = .ok (.bipush 6, 2) := by decide +kernel
theorem dX1_hear_74 : decode cX1_hear 74 = .ok (.aload_n 2, 1) := by decide +kernel
theorem dX1_hear_75 : decode cX1_hear 75 = .ok (.getfield 108, 3) := by decide +kernel
theorem dX1_hear_78 : decode cX1_hear 78 = .ok (.iastore, 1) := by decide +kernel
theorem dX1_hear_79 : decode cX1_hear 79 = .ok (.aload 4, 2) := by decide +kernel
theorem dX1_hear_81 : decode cX1_hear 81 = .ok (.bipush 7, 2) := by decide +kernel
theorem dX1_hear_83 : decode cX1_hear 83 = .ok (.aload_n 1, 1) := by decide +kernel
theorem dX1_hear_84 : decode cX1_hear 84 = .ok (.getfield 122, 3) := by decide +kernel
theorem dX1_hear_87 : decode cX1_hear 87 = .ok (.iastore, 1) := by decide +kernel
theorem dX1_hear_88 : decode cX1_hear 88 = .ok (.aload 4, 2) := by decide +kernel
theorem dX1_hear_90 : decode cX1_hear 90 = .ok (.bipush 8, 2) := by decide +kernel
theorem dX1_hear_92 : decode cX1_hear 92 = .ok (.aload_n 1, 1) := by decide +kernel
theorem dX1_hear_93 : decode cX1_hear 93 = .ok (.getfield 125, 3) := by decide +kernel
theorem dX1_hear_96 : decode cX1_hear 96 = .ok (.iastore, 1) := by decide +kernel
theorem dX1_hear_97 : decode cX1_hear 97 = .ok (.return_, 1) := by decide +kernel
theorem dX1_told_0 : decode cX1_told 0 = .ok (.aload_n 1, 1) := by decide +kernel
theorem dX1_told_1 : decode cX1_told 1 = .ok (.ifnonnull 5, 3) := by decide +kernel
theorem dX1_told_4 : decode cX1_told 4 = .ok (.iload_n 3, 1) := by decide +kernel
theorem dX1_told_5 : decode cX1_told 5 = .ok (.ireturn, 1) := by decide +kernel
theorem dX1_told_6 : decode cX1_told 6 = .ok (.aload_n 1, 1) := by decide +kernel
theorem dX1_told_7 : decode cX1_told 7 = .ok (.getfield 128, 3) := by decide +kernel
theorem dX1_told_10 : decode cX1_told 10 = .ok (.iconst 1, 1) := by decide +kernel
theorem dX1_told_11 : decode cX1_told 11 = .ok (.isub, 1) := by decide +kernel
theorem dX1_told_12 : decode cX1_told 12 = .ok (.istore 4, 2) := by decide +kernel
theorem dX1_told_14 : decode cX1_told 14 = .ok (.iload 4, 2) := by decide +kernel
theorem dX1_told_16 : decode cX1_told 16 = .ok (.ifCond .lt 100, 3) := by decide +kernel
theorem dX1_told_19 : decode cX1_told 19 = .ok (.aload_n 1, 1) := by decide +kernel
theorem dX1_told_20 : decode cX1_told 20 = .ok (.getfield 131, 3) := by decide +kernel
theorem dX1_told_23 : decode cX1_told 23 = .ok (.iload 4, 2) := by decide +kernel
theorem dX1_told_25 : decode cX1_told 25 = .ok (.iaload, 1) := by decide +kernel
theorem dX1_told_26 : decode cX1_told 26 = .ok (.iload_n 2, 1) := by decide +kernel
theorem dX1_told_27 : decode cX1_told 27 = .ok (.if_icmp .ne 83, 3) := by decide +kernel
theorem dX1_told_30 : decode cX1_told 30 = .ok (.aload_n 1, 1) := by decide +kernel
theorem dX1_told_31 : decode cX1_told 31 = .ok (.getfield 134, 3) := by decide +kernel
theorem dX1_told_34 : decode cX1_told 34 = .ok (.iload 4, 2) := by decide +kernel
theorem dX1_told_36 : decode cX1_told 36 = .ok (.iaload, 1) := by decide +kernel
theorem dX1_told_37 : decode cX1_told 37 = .ok (.iconst (-1), 1) := by decide +kernel
theorem dX1_told_38 : decode cX1_told 38 = .ok (.if_icmp .eq 23, 3) := by decide +kernel
theorem dX1_told_41 : decode cX1_told 41 = .ok (.aload_n 0, 1) := by decide +kernel
theorem dX1_told_42 : decode cX1_told 42 = .ok (.getfield 12, 3) := by decide +kernel
theorem dX1_told_45 : decode cX1_told 45 = .ok (.aload_n 1, 1) := by decide +kernel
theorem dX1_told_46 : decode cX1_told 46 = .ok (.aload_n 1, 1) := by decide +kernel
theorem dX1_told_47 : decode cX1_told 47 = .ok (.getfield 134, 3) := by decide +kernel
theorem dX1_told_50 : decode cX1_told 50 = .ok (.iload 4, 2) := by decide +kernel
theorem dX1_told_52 : decode cX1_told 52 = .ok (.iaload, 1) := by decide +kernel
theorem dX1_told_53 : decode cX1_told 53 = .ok (.invokevirtual 137, 3) := by decide +kernel
theorem dX1_told_56 : decode cX1_told 56 = .ok (.lconst 1, 1) := by decide +kernel
theorem dX1_told_57 : decode cX1_told 57 = .ok (.lcmp, 1) := by decide +kernel
theorem dX1_told_58 : decode cX1_told 58 = .ok (.ifCond .ne 52, 3) := by decide +kernel
theorem dX1_told_61 : decode cX1_told 61 = .ok (.iload_n 2, 1) := by decide +kernel
theorem dX1_told_62 : decode cX1_told 62 = .ok (.iconst 2, 1) := by decide +kernel
theorem dX1_told_63 : decode cX1_told 63 = .ok (.if_icmp .ne 7, 3) := by decide +kernel
theorem dX1_told_66 : decode cX1_told 66 = .ok (.lconst 1, 1) := by decide +kernel
theorem dX1_told_67 : decode cX1_told 67 = .ok (.goto 18, 3) := by decide +kernel
theorem dX1_told_70 : decode cX1_told 70 = .ok (.aload_n 0, 1) := by decide +kernel
theorem dX1_told_71 : decode cX1_told 71 = .ok (.getfield 12, 3) := by decide +kernel
theorem dX1_told_74 : decode cX1_told 74 = .ok (.aload_n 1, 1) := by decide +kernel
theorem dX1_told_75 : decode cX1_told 75 = .ok (.aload_n 1, 1) := by decide +kernel
theorem dX1_told_76 : decode cX1_told 76 = .ok (.getfield 141, 3) := by decide +kernel
theorem dX1_told_79 : decode cX1_told 79 = .ok (.iload 4, 2) := by decide +kernel
theorem dX1_told_81 : decode cX1_told 81 = .ok (.iaload, 1) := by decide +kernel
theorem dX1_told_82 : decode cX1_told 82 = .ok (.invokevirtual 137, 3) := by decide +kernel
theorem dX1_told_85 : decode cX1_told 85 = .ok (.lstore 5, 2) := by decide +kernel
theorem dX1_told_87 : decode cX1_told 87 = .ok (.lload 5, 2) := by decide +kernel
theorem dX1_told_89 : decode cX1_told 89 = .ok (.ldc2_w 144, 3) := by decide +kernel
theorem dX1_told_92 : decode cX1_told 92 = .ok (.lcmp, 1) := by decide +kernel
theorem dX1_told_93 : decode cX1_told 93 = .ok (.ifCond .eq 17, 3) := by decide +kernel
theorem dX1_told_96 : decode cX1_told 96 = .ok (.lconst 0, 1) := by decide +kernel
theorem dX1_told_97 : decode cX1_told 97 = .ok (.lload 5, 2) := by decide +kernel
theorem dX1_told_99 : decode cX1_told 99 = .ok (.ldc2_w 146, 3) := by decide +kernel
theorem dX1_told_102 : decode cX1_told 102 = .ok (.invokestatic 148, 3) := by decide +kernel
theorem dX1_told_105 : decode cX1_told 105 = .ok (.invokestatic 151, 3) := by decide +kernel
theorem dX1_told_108 : decode cX1_told 108 = .ok (.l2i, 1) := by decide +kernel
theorem dX1_told_109 : decode cX1_told 109 = .ok (.ireturn, 1) := by decide +kernel
theorem dX1_told_110 : decode cX1_told 110 = .ok (.iinc 4 (-1), 3) := by decide +kernel
theorem dX1_told_113 : decode cX1_told 113 = .ok (.goto (-99), 3) := by decide +kernel
theorem dX1_told_116 : decode cX1_told 116 = .ok (.iload_n 3, 1) := by decide +kernel
theorem dX1_told_117 : decode cX1_told 117 = .ok (.ireturn, 1) := by decide +kernel
theorem dX1_begin_0 : decode cX1_begin 0 = .ok (.aload_n 0, 1) := by decide +kernel
theorem dX1_begin_1 : decode cX1_begin 1 = .ok (.getfield 21, 3) := by decide +kernel
theorem dX1_begin_4 : decode cX1_begin 4 = .ok (.aload_n 1, 1) := by decide +kernel
theorem dX1_begin_5 : decode cX1_begin 5 = .ok (.getfield 42, 3) := by decide +kernel
theorem dX1_begin_8 : decode cX1_begin 8 = .ok (.invokevirtual 154, 3) := by decide +kernel
theorem dX1_begin_11 : decode cX1_begin 11 = .ok (.aload_n 0, 1) := by decide +kernel
theorem dX1_begin_12 : decode cX1_begin 12 = .ok (.getfield 21, 3) := by decide +kernel
theorem dX1_begin_15 : decode cX1_begin 15 = .ok (.iload_n 2, 1) := by decide +kernel
theorem dX1_begin_16 : decode cX1_begin 16 = .ok (.putfield 56, 3) := by decide +kernel
theorem dX1_begin_19 : decode cX1_begin 19 = .ok (.return_, 1) := by decide +kernel
theorem dX1_openBehind_0 : decode cX1_openBehind 0 = .ok (.aload_n 0, 1) := by decide +kernel
theorem dX1_openBehind_1 : decode cX1_openBehind 1 = .ok (.aload_n 1, 1) := by decide +kernel
theorem dX1_openBehind_2 : decode cX1_openBehind 2 = .ok (.iload_n 2, 1) := by decide +kernel
theorem dX1_openBehind_3 : decode cX1_openBehind 3 = .ok (.invokevirtual 158, 3) := by decide +kernel
theorem dX1_openBehind_6 : decode cX1_openBehind 6 = .ok (.aload_n 1, 1) := by decide +kernel
theorem dX1_openBehind_7 : decode cX1_openBehind 7 = .ok (.invokevirtual 38, 3) := by decide +kernel
theorem dX1_openBehind_10 : decode cX1_openBehind 10 = .ok (.astore 4, 2) := by decide +kernel
theorem dX1_openBehind_12 : decode cX1_openBehind 12 = .ok (.iconst 1, 1) := by decide +kernel
theorem dX1_openBehind_13 : decode cX1_openBehind 13 = .ok (.istore 5, 2) := by decide +kernel
theorem dX1_openBehind_15 : decode cX1_openBehind 15 = .ok (.iconst 0, 1) := by decide +kernel
theorem dX1_openBehind_16 : decode cX1_openBehind 16 = .ok (.istore 6, 2) := by decide +kernel
theorem dX1_openBehind_18 : decode cX1_openBehind 18 = .ok (.iload 6, 2) := by decide +kernel
theorem dX1_openBehind_20 : decode cX1_openBehind 20 = .ok (.iload_n 3, 1) := by decide +kernel
theorem dX1_openBehind_21 : decode cX1_openBehind 21 = .ok (.if_icmp .ge 28, 3) := by decide +kernel
theorem dX1_openBehind_24 : decode cX1_openBehind 24 = .ok (.iload 5, 2) := by decide +kernel
theorem dX1_openBehind_26 : decode cX1_openBehind 26 = .ok (.ifCond .eq 23, 3) := by decide +kernel
theorem dX1_openBehind_29 : decode cX1_openBehind 29 = .ok (.aload_n 0, 1) := by decide +kernel
theorem dX1_openBehind_30 : decode cX1_openBehind 30 = .ok (.aload_n 1, 1) := by decide +kernel
theorem dX1_openBehind_31 : decode cX1_openBehind 31 = .ok (.aload_n 0, 1) := by decide +kernel
theorem dX1_openBehind_32 : decode cX1_openBehind 32 = .ok (.getfield 21, 3) := by decide +kernel
theorem dX1_openBehind_35 : decode cX1_openBehind 35 = .ok (.aload 4, 2) := by decide +kernel
theorem dX1_openBehind_37 : decode cX1_openBehind 37 = .ok (.iconst 0, 1) := by decide +kernel
theorem dX1_openBehind_38 : decode cX1_openBehind 38 = .ok (.invokevirtual 80, 3) := by decide +kernel
theorem dX1_openBehind_41 : decode cX1_openBehind 41 = .ok (.istore 5, 2) := by decide +kernel
theorem dX1_openBehind_43 : decode cX1_openBehind 43 = .ok (.iinc 6 1, 3) := by decide +kernel
theorem dX1_openBehind_46 : decode cX1_openBehind 46 = .ok (.goto (-28), 3) := by decide +kernel
theorem dX1_openBehind_49 : decode cX1_openBehind 49 = .ok (.aload_n 0, 1) := by decide +kernel
theorem dX1_openBehind_50 : decode cX1_openBehind 50 = .ok (.getfield 21, 3) := by decide +kernel
theorem dX1_openBehind_53 : decode cX1_openBehind 53 = .ok (.getfield 56, 3) := by decide +kernel
theorem dX1_openBehind_56 : decode cX1_openBehind 56 = .ok (.ireturn, 1) := by decide +kernel
theorem dX1_openByLaw_0 : decode cX1_openByLaw 0 = .ok (.aload_n 0, 1) := by decide +kernel
theorem dX1_openByLaw_1 : decode cX1_openByLaw 1 = .ok (.aload_n 1, 1) := by decide +kernel
theorem dX1_openByLaw_2 : decode cX1_openByLaw 2 = .ok (.aload_n 1, 1) := by decide +kernel
theorem dX1_openByLaw_3 : decode cX1_openByLaw 3 = .ok (.getfield 42, 3) := by decide +kernel
theorem dX1_openByLaw_6 : decode cX1_openByLaw 6 = .ok (.getfield 56, 3) := by decide +kernel
theorem dX1_openByLaw_9 : decode cX1_openByLaw 9 = .ok (.invokevirtual 158, 3) := by decide +kernel
theorem dX1_openByLaw_12 : decode cX1_openByLaw 12 = .ok (.aload_n 0, 1) := by decide +kernel
theorem dX1_openByLaw_13 : decode cX1_openByLaw 13 = .ok (.aload_n 1, 1) := by decide +kernel
theorem dX1_openByLaw_14 : decode cX1_openByLaw 14 = .ok (.aload_n 0, 1) := by decide +kernel
theorem dX1_openByLaw_15 : decode cX1_openByLaw 15 = .ok (.getfield 21, 3) := by decide +kernel
theorem dX1_openByLaw_18 : decode cX1_openByLaw 18 = .ok (.aload_n 2, 1) := by decide +kernel
theorem dX1_openByLaw_19 : decode cX1_openByLaw 19 = .ok (.iconst 0, 1) := by decide +kernel
theorem dX1_openByLaw_20 : decode cX1_openByLaw 20 = .ok (.invokevirtual 80, 3) := by decide +kernel
theorem dX1_openByLaw_23 : decode cX1_openByLaw 23 = .ok (.pop, 1) := by decide +kernel
theorem dX1_openByLaw_24 : decode cX1_openByLaw 24 = .ok (.aload_n 0, 1) := by decide +kernel
theorem dX1_openByLaw_25 : decode cX1_openByLaw 25 = .ok (.getfield 21, 3) := by decide +kernel
theorem dX1_openByLaw_28 : decode cX1_openByLaw 28 = .ok (.invokevirtual 72, 3) := by decide +kernel
theorem dX1_openByLaw_31 : decode cX1_openByLaw 31 = .ok (.ireturn, 1) := by decide +kernel
theorem dX1_firstMinute_0 : decode cX1_firstMinute 0 = .ok (.aload_n 0, 1) := by decide +kernel
theorem dX1_firstMinute_1 : decode cX1_firstMinute 1 = .ok (.aload_n 1, 1) := by decide +kernel
theorem dX1_firstMinute_2 : decode cX1_firstMinute 2 = .ok (.iload_n 2, 1) := by decide +kernel
theorem dX1_firstMinute_3 : decode cX1_firstMinute 3 = .ok (.iload_n 3, 1) := by decide +kernel
theorem dX1_firstMinute_4 : decode cX1_firstMinute 4 = .ok (.iconst (-1), 1) := by decide +kernel
theorem dX1_firstMinute_5 : decode cX1_firstMinute 5 = .ok (.ixor, 1) := by decide +kernel
theorem dX1_firstMinute_6 : decode cX1_firstMinute 6 = .ok (.iand, 1) := by decide +kernel
theorem dX1_firstMinute_7 : decode cX1_firstMinute 7 = .ok (.invokevirtual 158, 3) := by decide +kernel
theorem dX1_firstMinute_10 : decode cX1_firstMinute 10 = .ok (.aload_n 1, 1) := by decide +kernel
theorem dX1_firstMinute_11 : decode cX1_firstMinute 11 = .ok (.invokevirtual 38, 3) := by decide +kernel
theorem dX1_firstMinute_14 : decode cX1_firstMinute 14 = .ok (.astore 5, 2) := by decide +kernel
theorem dX1_firstMinute_16 : decode cX1_firstMinute 16 = .ok (.iconst 1, 1) := by decide +kernel
theorem dX1_firstMinute_17 : decode cX1_firstMinute 17 = .ok (.istore 6, 2) := by decide +kernel
theorem dX1_firstMinute_19 : decode cX1_firstMinute 19 = .ok (.iconst 0, 1) := by decide +kernel
theorem dX1_firstMinute_20 : decode cX1_firstMinute 20 = .ok (.istore 7, 2) := by decide +kernel
theorem dX1_firstMinute_22 : decode cX1_firstMinute 22 = .ok (.iload 7, 2) := by decide +kernel
theorem dX1_firstMinute_24 : decode cX1_firstMinute 24 = .ok (.bipush 60, 2) := by decide +kernel
theorem dX1_firstMinute_26 : decode cX1_firstMinute 26 = .ok (.if_icmp .gt 46, 3) := by decide +kernel
theorem dX1_firstMinute_29 : decode cX1_firstMinute 29 = .ok (.iload 6, 2) := by decide +kernel
theorem dX1_firstMinute_31 : decode cX1_firstMinute 31 = .ok (.ifCond .eq 41, 3) := by decide +kernel
theorem dX1_firstMinute_34 : decode cX1_firstMinute 34 = .ok (.aload_n 0, 1) := by decide +kernel
theorem dX1_firstMinute_35 : decode cX1_firstMinute 35 = .ok (.getfield 21, 3) := by decide +kernel
theorem dX1_firstMinute_38 : decode cX1_firstMinute 38 = .ok (.getfield 56, 3) := by decide +kernel
theorem dX1_firstMinute_41 : decode cX1_firstMinute 41 = .ok (.iload 4, 2) := by decide +kernel
theorem dX1_firstMinute_43 : decode cX1_firstMinute 43 = .ok (.iand, 1) := by decide +kernel
theorem dX1_firstMinute_44 : decode cX1_firstMinute 44 = .ok (.iload 4, 2) := by decide +kernel
theorem dX1_firstMinute_46 : decode cX1_firstMinute 46 = .ok (.if_icmp .ne 6, 3) := by decide +kernel
theorem dX1_firstMinute_49 : decode cX1_firstMinute 49 = .ok (.iload 7, 2) := by decide +kernel
theorem dX1_firstMinute_51 : decode cX1_firstMinute 51 = .ok (.ireturn, 1) := by decide +kernel
theorem dX1_firstMinute_52 : decode cX1_firstMinute 52 = .ok (.aload_n 0, 1) := by decide +kernel
theorem dX1_firstMinute_53 : decode cX1_firstMinute 53 = .ok (.aload_n 1, 1) := by decide +kernel
theorem dX1_firstMinute_54 : decode cX1_firstMinute 54 = .ok (.aload_n 0, 1) := by decide +kernel
theorem dX1_firstMinute_55 : decode cX1_firstMinute 55 = .ok (.getfield 21, 3) := by decide +kernel
theorem dX1_firstMinute_58 : decode cX1_firstMinute 58 = .ok (.aload 5, 2) := by decide +kernel
theorem dX1_firstMinute_60 : decode cX1_firstMinute 60 = .ok (.iload_n 3, 1) := by decide +kernel
theorem dX1_firstMinute_61 : decode cX1_firstMinute 61 = .ok (.invokevirtual 80, 3) := by decide +kernel
theorem dX1_firstMinute_64 : decode cX1_firstMinute 64 = .ok (.istore 6, 2) := by decide +kernel
theorem dX1_firstMinute_66 : decode cX1_firstMinute 66 = .ok (.iinc 7 1, 3) := by decide +kernel
theorem dX1_firstMinute_69 : decode cX1_firstMinute 69 = .ok (.goto (-47), 3) := by decide +kernel
theorem dX1_firstMinute_72 : decode cX1_firstMinute 72 = .ok (.iconst (-1), 1) := by decide +kernel
theorem dX1_firstMinute_73 : decode cX1_firstMinute 73 = .ok (.ireturn, 1) := by decide +kernel
theorem dX1_fewestCoaxed_0 : decode cX1_fewestCoaxed 0 = .ok (.iconst 0, 1) := by decide +kernel
theorem dX1_fewestCoaxed_1 : decode cX1_fewestCoaxed 1 = .ok (.istore 4, 2) := by decide +kernel
theorem dX1_fewestCoaxed_3 : decode cX1_fewestCoaxed 3 = .ok (.iload 4, 2) := by decide +kernel
theorem dX1_fewestCoaxed_5 : decode cX1_fewestCoaxed 5 = .ok (.bipush 8, 2) := by decide +kernel
theorem dX1_fewestCoaxed_7 : decode cX1_fewestCoaxed 7 = .ok (.if_icmp .gt 59, 3) := by decide +kernel
theorem dX1_fewestCoaxed_10 : decode cX1_fewestCoaxed 10 = .ok (.iconst 0, 1) := by decide +kernel
theorem dX1_fewestCoaxed_11 : decode cX1_fewestCoaxed 11 = .ok (.istore 5, 2) := by decide +kernel
theorem dX1_fewestCoaxed_13 : decode cX1_fewestCoaxed 13 = .ok (.iload 5, 2) := by decide +kernel
theorem dX1_fewestCoaxed_15 : decode cX1_fewestCoaxed 15 = .ok (.iload_n 2, 1) := by decide +kernel
theorem dX1_fewestCoaxed_16 : decode cX1_fewestCoaxed 16 = .ok (.if_icmp .gt 44, 3) := by decide +kernel
theorem dX1_fewestCoaxed_19 : decode cX1_fewestCoaxed 19 = .ok (.iload 5, 2) := by decide +kernel
theorem dX1_fewestCoaxed_21 : decode cX1_fewestCoaxed 21 = .ok (.iload_n 2, 1) := by decide +kernel
theorem dX1_fewestCoaxed_22 : decode cX1_fewestCoaxed 22 = .ok (.iload 4, 2) := by decide +kernel
theorem dX1_fewestCoaxed_24 : decode cX1_fewestCoaxed 24 = .ok (.invokestatic 162, 3) := by decide +kernel
theorem dX1_fewestCoaxed_27 : decode cX1_fewestCoaxed 27 = .ok (.ifCond .eq 27, 3) := by decide +kernel
theorem dX1_fewestCoaxed_30 : decode cX1_fewestCoaxed 30 = .ok (.aload_n 0, 1) := by decide +kernel
theorem dX1_fewestCoaxed_31 : decode cX1_fewestCoaxed 31 = .ok (.aload_n 1, 1) := by decide +kernel
theorem dX1_fewestCoaxed_32 : decode cX1_fewestCoaxed 32 = .ok (.aload_n 1, 1) := by decide +kernel
theorem dX1_fewestCoaxed_33 : decode cX1_fewestCoaxed 33 = .ok (.getfield 42, 3) := by decide +kernel
theorem dX1_fewestCoaxed_36 : decode cX1_fewestCoaxed 36 = .ok (.getfield 56, 3) := by decide +kernel
theorem dX1_fewestCoaxed_39 : decode cX1_fewestCoaxed 39 = .ok (.iload 5, 2) := by decide +kernel
theorem dX1_fewestCoaxed_41 : decode cX1_fewestCoaxed 41 = .ok (.ior, 1) := by decide +kernel
theorem dX1_fewestCoaxed_42 : decode cX1_fewestCoaxed 42 = .ok (.iconst 0, 1) := by decide +kernel
theorem dX1_fewestCoaxed_43 : decode cX1_fewestCoaxed 43 = .ok (.iload_n 3, 1) := by decide +kernel
theorem dX1_fewestCoaxed_44 : decode cX1_fewestCoaxed 44 = .ok (.invokevirtual 166, 3) := by decide +kernel
theorem dX1_fewestCoaxed_47 : decode cX1_fewestCoaxed 47 = .ok (.iconst (-1), 1) := by decide +kernel
theorem dX1_fewestCoaxed_48 : decode cX1_fewestCoaxed 48 = .ok (.if_icmp .eq 6, 3) := by decide +kernel
theorem dX1_fewestCoaxed_51 : decode cX1_fewestCoaxed 51 = .ok (.iload 5, 2) := by decide +kernel
theorem dX1_fewestCoaxed_53 : decode cX1_fewestCoaxed 53 = .ok (.ireturn, 1) := by decide +kernel
theorem dX1_fewestCoaxed_54 : decode cX1_fewestCoaxed 54 = .ok (.iinc 5 1, 3) := by decide +kernel
theorem dX1_fewestCoaxed_57 : decode cX1_fewestCoaxed 57 = .ok (.goto (-44), 3) := by decide +kernel
theorem dX1_fewestCoaxed_60 : decode cX1_fewestCoaxed 60 = .ok (.iinc 4 1, 3) := by decide +kernel
theorem dX1_fewestCoaxed_63 : decode cX1_fewestCoaxed 63 = .ok (.goto (-60), 3) := by decide +kernel
theorem dX1_fewestCoaxed_66 : decode cX1_fewestCoaxed 66 = .ok (.iconst (-1), 1) := by decide +kernel
theorem dX1_fewestCoaxed_67 : decode cX1_fewestCoaxed 67 = .ok (.ireturn, 1) := by decide +kernel
theorem dX1_fewestHeld_0 : decode cX1_fewestHeld 0 = .ok (.aload_n 1, 1) := by decide +kernel
theorem dX1_fewestHeld_1 : decode cX1_fewestHeld 1 = .ok (.invokevirtual 170, 3) := by decide +kernel
theorem dX1_fewestHeld_4 : decode cX1_fewestHeld 4 = .ok (.iconst 1, 1) := by decide +kernel
theorem dX1_fewestHeld_5 : decode cX1_fewestHeld 5 = .ok (.iload_n 2, 1) := by decide +kernel
theorem dX1_fewestHeld_6 : decode cX1_fewestHeld 6 = .ok (.ishl, 1) := by decide +kernel
theorem dX1_fewestHeld_7 : decode cX1_fewestHeld 7 = .ok (.iconst (-1), 1) := by decide +kernel
theorem dX1_fewestHeld_8 : decode cX1_fewestHeld 8 = .ok (.ixor, 1) := by decide +kernel
theorem dX1_fewestHeld_9 : decode cX1_fewestHeld 9 = .ok (.iand, 1) := by decide +kernel
theorem dX1_fewestHeld_10 : decode cX1_fewestHeld 10 = .ok (.istore_n 3, 1) := by decide +kernel
theorem dX1_fewestHeld_11 : decode cX1_fewestHeld 11 = .ok (.iconst 0, 1) := by decide +kernel
theorem dX1_fewestHeld_12 : decode cX1_fewestHeld 12 = .ok (.istore 4, 2) := by decide +kernel
theorem dX1_fewestHeld_14 : decode cX1_fewestHeld 14 = .ok (.iload 4, 2) := by decide +kernel
theorem dX1_fewestHeld_16 : decode cX1_fewestHeld 16 = .ok (.bipush 8, 2) := by decide +kernel
theorem dX1_fewestHeld_18 : decode cX1_fewestHeld 18 = .ok (.if_icmp .gt 59, 3) := by decide +kernel
theorem dX1_fewestHeld_21 : decode cX1_fewestHeld 21 = .ok (.iconst 0, 1) := by decide +kernel
theorem dX1_fewestHeld_22 : decode cX1_fewestHeld 22 = .ok (.istore 5, 2) := by decide +kernel
theorem dX1_fewestHeld_24 : decode cX1_fewestHeld 24 = .ok (.iload 5, 2) := by decide +kernel
theorem dX1_fewestHeld_26 : decode cX1_fewestHeld 26 = .ok (.iload_n 3, 1) := by decide +kernel
theorem dX1_fewestHeld_27 : decode cX1_fewestHeld 27 = .ok (.if_icmp .gt 44, 3) := by decide +kernel
theorem dX1_fewestHeld_30 : decode cX1_fewestHeld 30 = .ok (.iload 5, 2) := by decide +kernel
theorem dX1_fewestHeld_32 : decode cX1_fewestHeld 32 = .ok (.iload_n 3, 1) := by decide +kernel
theorem dX1_fewestHeld_33 : decode cX1_fewestHeld 33 = .ok (.iload 4, 2) := by decide +kernel
theorem dX1_fewestHeld_35 : decode cX1_fewestHeld 35 = .ok (.invokestatic 162, 3) := by decide +kernel
theorem dX1_fewestHeld_38 : decode cX1_fewestHeld 38 = .ok (.ifCond .eq 27, 3) := by decide +kernel
theorem dX1_fewestHeld_41 : decode cX1_fewestHeld 41 = .ok (.aload_n 0, 1) := by decide +kernel
theorem dX1_fewestHeld_42 : decode cX1_fewestHeld 42 = .ok (.aload_n 1, 1) := by decide +kernel
theorem dX1_fewestHeld_43 : decode cX1_fewestHeld 43 = .ok (.aload_n 1, 1) := by decide +kernel
theorem dX1_fewestHeld_44 : decode cX1_fewestHeld 44 = .ok (.getfield 42, 3) := by decide +kernel
theorem dX1_fewestHeld_47 : decode cX1_fewestHeld 47 = .ok (.getfield 56, 3) := by decide +kernel
theorem dX1_fewestHeld_50 : decode cX1_fewestHeld 50 = .ok (.iload 5, 2) := by decide +kernel
theorem dX1_fewestHeld_52 : decode cX1_fewestHeld 52 = .ok (.iconst 1, 1) := by decide +kernel
theorem dX1_fewestHeld_53 : decode cX1_fewestHeld 53 = .ok (.iload_n 2, 1) := by decide +kernel
theorem dX1_fewestHeld_54 : decode cX1_fewestHeld 54 = .ok (.ishl, 1) := by decide +kernel
theorem dX1_fewestHeld_55 : decode cX1_fewestHeld 55 = .ok (.invokevirtual 166, 3) := by decide +kernel
theorem dX1_fewestHeld_58 : decode cX1_fewestHeld 58 = .ok (.iconst (-1), 1) := by decide +kernel
theorem dX1_fewestHeld_59 : decode cX1_fewestHeld 59 = .ok (.if_icmp .ne 6, 3) := by decide +kernel
theorem dX1_fewestHeld_62 : decode cX1_fewestHeld 62 = .ok (.iload 5, 2) := by decide +kernel
theorem dX1_fewestHeld_64 : decode cX1_fewestHeld 64 = .ok (.ireturn, 1) := by decide +kernel
theorem dX1_fewestHeld_65 : decode cX1_fewestHeld 65 = .ok (.iinc 5 1, 3) := by decide +kernel
theorem dX1_fewestHeld_68 : decode cX1_fewestHeld 68 = .ok (.goto (-44), 3) := by decide +kernel
theorem dX1_fewestHeld_71 : decode cX1_fewestHeld 71 = .ok (.iinc 4 1, 3) := by decide +kernel
theorem dX1_fewestHeld_74 : decode cX1_fewestHeld 74 = .ok (.goto (-60), 3) := by decide +kernel
theorem dX1_fewestHeld_77 : decode cX1_fewestHeld 77 = .ok (.iconst (-1), 1) := by decide +kernel
theorem dX1_fewestHeld_78 : decode cX1_fewestHeld 78 = .ok (.ireturn, 1) := by decide +kernel
theorem dX1_isPart_0 : decode cX1_isPart 0 = .ok (.iload_n 0, 1) := by decide +kernel
theorem dX1_isPart_1 : decode cX1_isPart 1 = .ok (.invokestatic 117, 3) := by decide +kernel
theorem dX1_isPart_4 : decode cX1_isPart 4 = .ok (.iload_n 2, 1) := by decide +kernel
theorem dX1_isPart_5 : decode cX1_isPart 5 = .ok (.if_icmp .ne 15, 3) := by decide +kernel
theorem dX1_isPart_8 : decode cX1_isPart 8 = .ok (.iload_n 0, 1) := by decide +kernel
theorem dX1_isPart_9 : decode cX1_isPart 9 = .ok (.iload_n 1, 1) := by decide +kernel
theorem dX1_isPart_10 : decode cX1_isPart 10 = .ok (.iconst (-1), 1) := by decide +kernel
theorem dX1_isPart_11 : decode cX1_isPart 11 = .ok (.ixor, 1) := by decide +kernel
theorem dX1_isPart_12 : decode cX1_isPart 12 = .ok (.iand, 1) := by decide +kernel
theorem dX1_isPart_13 : decode cX1_isPart 13 = .ok (.ifCond .ne 7, 3) := by decide +kernel
theorem dX1_isPart_16 : decode cX1_isPart 16 = .ok (.iconst 1, 1) := by decide +kernel
theorem dX1_isPart_17 : decode cX1_isPart 17 = .ok (.goto 4, 3) := by decide +kernel
theorem dX1_isPart_20 : decode cX1_isPart 20 = .ok (.iconst 0, 1) := by decide +kernel
theorem dX1_isPart_21 : decode cX1_isPart 21 = .ok (.ireturn, 1) := by decide +kernel
theorem dX1_follow_0 : decode cX1_follow 0 = .ok (.aload_n 0, 1) := by decide +kernel
theorem dX1_follow_1 : decode cX1_follow 1 = .ok (.aload_n 1, 1) := by decide +kernel
theorem dX1_follow_2 : decode cX1_follow 2 = .ok (.aload_n 1, 1) := by decide +kernel
theorem dX1_follow_3 : decode cX1_follow 3 = .ok (.getfield 42, 3) := by decide +kernel
theorem dX1_follow_6 : decode cX1_follow 6 = .ok (.getfield 56, 3) := by decide +kernel
theorem dX1_follow_9 : decode cX1_follow 9 = .ok (.invokevirtual 158, 3) := by decide +kernel
theorem dX1_follow_12 : decode cX1_follow 12 = .ok (.aload_n 1, 1) := by decide +kernel
theorem dX1_follow_13 : decode cX1_follow 13 = .ok (.invokevirtual 38, 3) := by decide +kernel
theorem dX1_follow_16 : decode cX1_follow 16 = .ok (.astore_n 2, 1) := by decide +kernel
theorem dX1_follow_17 : decode cX1_follow 17 = .ok (.aload_n 0, 1) := by decide +kernel
theorem dX1_follow_18 : decode cX1_follow 18 = .ok (.getfield 29, 3) := by decide +kernel
theorem dX1_follow_21 : decode cX1_follow 21 = .ok (.iconst 0, 1) := by decide +kernel
theorem dX1_follow_22 : decode cX1_follow 22 = .ok (.aload_n 0, 1) := by decide +kernel
theorem dX1_follow_23 : decode cX1_follow 23 = .ok (.getfield 21, 3) := by decide +kernel
theorem dX1_follow_26 : decode cX1_follow 26 = .ok (.getfield 56, 3) := by decide +kernel
theorem dX1_follow_29 : decode cX1_follow 29 = .ok (.iastore, 1) := by decide +kernel
theorem dX1_follow_30 : decode cX1_follow 30 = .ok (.iconst 1, 1) := by decide +kernel
theorem dX1_follow_31 : decode cX1_follow 31 = .ok (.istore_n 3, 1) := by decide +kernel
theorem dX1_follow_32 : decode cX1_follow 32 = .ok (.iload_n 3, 1) := by decide +kernel
theorem dX1_follow_33 : decode cX1_follow 33 = .ok (.bipush 60, 2) := by decide +kernel
theorem dX1_follow_35 : decode cX1_follow 35 = .ok (.if_icmp .gt 34, 3) := by decide +kernel
theorem dX1_follow_38 : decode cX1_follow 38 = .ok (.aload_n 0, 1) := by decide +kernel
theorem dX1_follow_39 : decode cX1_follow 39 = .ok (.aload_n 1, 1) := by decide +kernel
theorem dX1_follow_40 : decode cX1_follow 40 = .ok (.aload_n 0, 1) := by decide +kernel
theorem dX1_follow_41 : decode cX1_follow 41 = .ok (.getfield 21, 3) := by decide +kernel
theorem dX1_follow_44 : decode cX1_follow 44 = .ok (.aload_n 2, 1) := by decide +kernel
theorem dX1_follow_45 : decode cX1_follow 45 = .ok (.iconst 0, 1) := by decide +kernel
theorem dX1_follow_46 : decode cX1_follow 46 = .ok (.invokevirtual 80, 3) := by decide +kernel
theorem dX1_follow_49 : decode cX1_follow 49 = .ok (.pop, 1) := by decide +kernel
theorem dX1_follow_50 : decode cX1_follow 50 = .ok (.aload_n 0, 1) := by decide +kernel
theorem dX1_follow_51 : decode cX1_follow 51 = .ok (.getfield 29, 3) := by decide +kernel
theorem dX1_follow_54 : decode cX1_follow 54 = .ok (.iload_n 3, 1) := by decide +kernel
theorem dX1_follow_55 : decode cX1_follow 55 = .ok (.aload_n 0, 1) := by decide +kernel
theorem dX1_follow_56 : decode cX1_follow 56 = .ok (.getfield 21, 3) := by decide +kernel
theorem dX1_follow_59 : decode cX1_follow 59 = .ok (.getfield 56, 3) := by decide +kernel
theorem dX1_follow_62 : decode cX1_follow 62 = .ok (.iastore, 1) := by decide +kernel
theorem dX1_follow_63 : decode cX1_follow 63 = .ok (.iinc 3 1, 3) := by decide +kernel
theorem dX1_follow_66 : decode cX1_follow 66 = .ok (.goto (-34), 3) := by decide +kernel
theorem dX1_follow_69 : decode cX1_follow 69 = .ok (.return_, 1) := by decide +kernel
theorem dX1_firstReturn_0 : decode cX1_firstReturn 0 = .ok (.iconst 1, 1) := by decide +kernel
theorem dX1_firstReturn_1 : decode cX1_firstReturn 1 = .ok (.istore_n 1, 1) := by decide +kernel
theorem dX1_firstReturn_2 : decode cX1_firstReturn 2 = .ok (.iload_n 1, 1) := by decide +kernel
theorem dX1_firstReturn_3 : decode cX1_firstReturn 3 = .ok (.bipush 60, 2) := by decide +kernel
theorem dX1_firstReturn_5 : decode cX1_firstReturn 5 = .ok (.if_icmp .gt 26, 3) := by decide +kernel
theorem dX1_firstReturn_8 : decode cX1_firstReturn 8 = .ok (.aload_n 0, 1) := by decide +kernel
theorem dX1_firstReturn_9 : decode cX1_firstReturn 9 = .ok (.getfield 29, 3) := by decide +kernel
theorem dX1_firstReturn_12 : decode cX1_firstReturn 12 = .ok (.iload_n 1, 1) := by decide +kernel
theorem dX1_firstReturn_13 : decode cX1_firstReturn 13 = .ok (.iaload, 1) := by decide +kernel
theorem dX1_firstReturn_14 : decode cX1_firstReturn 14 = .ok (.aload_n 0, 1) := by decide +kernel
theorem dX1_firstReturn_15 : decode cX1_firstReturn 15 = .ok (.getfield 29, 3) := by decide +kernel
theorem dX1_firstReturn_18 : decode cX1_firstReturn 18 = .ok (.iconst 0, 1) := by decide +kernel
theorem dX1_firstReturn_19 : decode cX1_firstReturn 19 = .ok (.iaload, 1) := by decide +kernel
theorem dX1_firstReturn_20 : decode cX1_firstReturn 20 = .ok (.if_icmp .ne 5, 3) := by decide +kernel
theorem dX1_firstReturn_23 : decode cX1_firstReturn 23 = .ok (.iload_n 1, 1) := by decide +kernel
theorem dX1_firstReturn_24 : decode cX1_firstReturn 24 = .ok (.ireturn, 1) := by decide +kernel
theorem dX1_firstReturn_25 : decode cX1_firstReturn 25 = .ok (.iinc 1 1, 3) := by decide +kernel
theorem dX1_firstReturn_28 : decode cX1_firstReturn 28 = .ok (.goto (-26), 3) := by decide +kernel
theorem dX1_firstReturn_31 : decode cX1_firstReturn 31 = .ok (.iconst (-1), 1) := by decide +kernel
theorem dX1_firstReturn_32 : decode cX1_firstReturn 32 = .ok (.ireturn, 1) := by decide +kernel
theorem dX1_likeSeen_0 : decode cX1_likeSeen 0 = .ok (.aload_n 1, 1) := by decide +kernel
theorem dX1_likeSeen_1 : decode cX1_likeSeen 1 = .ok (.invokevirtual 170, 3) := by decide +kernel
theorem dX1_likeSeen_4 : decode cX1_likeSeen 4 = .ok (.istore_n 2, 1) := by decide +kernel
theorem dX1_likeSeen_5 : decode cX1_likeSeen 5 = .ok (.iconst 0, 1) := by decide +kernel
theorem dX1_likeSeen_6 : decode cX1_likeSeen 6 = .ok (.istore_n 3, 1) := by decide +kernel
theorem dX1_likeSeen_7 : decode cX1_likeSeen 7 = .ok (.iload_n 3, 1) := by decide +kernel
theorem dX1_likeSeen_8 : decode cX1_likeSeen 8 = .ok (.aload_n 1, 1) := by decide +kernel
theorem dX1_likeSeen_9 : decode cX1_likeSeen 9 = .ok (.getfield 173, 3) := by decide +kernel
theorem dX1_likeSeen_12 : decode cX1_likeSeen 12 = .ok (.if_icmp .ge 70, 3) := by decide +kernel
theorem dX1_likeSeen_15 : decode cX1_likeSeen 15 = .ok (.iload_n 3, 1) := by decide +kernel
theorem dX1_likeSeen_16 : decode cX1_likeSeen 16 = .ok (.bipush 6, 2) := by decide +kernel
theorem dX1_likeSeen_18 : decode cX1_likeSeen 18 = .ok (.if_icmp .ge 64, 3) := by decide +kernel
theorem dX1_likeSeen_21 : decode cX1_likeSeen 21 = .ok (.aload_n 1, 1) := by decide +kernel
theorem dX1_likeSeen_22 : decode cX1_likeSeen 22 = .ok (.getfield 176, 3) := by decide +kernel
theorem dX1_likeSeen_25 : decode cX1_likeSeen 25 = .ok (.iload_n 3, 1) := by decide +kernel
theorem dX1_likeSeen_26 : decode cX1_likeSeen 26 = .ok (.iaload, 1) := by decide +kernel
theorem dX1_likeSeen_27 : decode cX1_likeSeen 27 = .ok (.istore 4, 2) := by decide +kernel
theorem dX1_likeSeen_29 : decode cX1_likeSeen 29 = .ok (.iload 4, 2) := by decide +kernel
theorem dX1_likeSeen_31 : decode cX1_likeSeen 31 = .ok (.ifCond .lt 20, 3) := by decide +kernel
theorem dX1_likeSeen_34 : decode cX1_likeSeen 34 = .ok (.iload 4, 2) := by decide +kernel
theorem dX1_likeSeen_36 : decode cX1_likeSeen 36 = .ok (.bipush 60, 2) := by decide +kernel
theorem dX1_likeSeen_38 : decode cX1_likeSeen 38 = .ok (.if_icmp .gt 13, 3) := by decide +kernel
theorem dX1_likeSeen_41 : decode cX1_likeSeen 41 = .ok (.aload_n 0, 1) := by decide +kernel
theorem dX1_likeSeen_42 : decode cX1_likeSeen 42 = .ok (.getfield 29, 3) := by decide +kernel
theorem dX1_likeSeen_45 : decode cX1_likeSeen 45 = .ok (.iload 4, 2) := by decide +kernel
theorem dX1_likeSeen_47 : decode cX1_likeSeen 47 = .ok (.iaload, 1) := by decide +kernel
theorem dX1_likeSeen_48 : decode cX1_likeSeen 48 = .ok (.goto 4, 3) := by decide +kernel
theorem dX1_likeSeen_51 : decode cX1_likeSeen 51 = .ok (.iconst 0, 1) := by decide +kernel
theorem dX1_likeSeen_52 : decode cX1_likeSeen 52 = .ok (.istore 5, 2) := by decide +kernel
theorem dX1_likeSeen_54 : decode cX1_likeSeen 54 = .ok (.iload_n 2, 1) := by decide +kernel
theorem dX1_likeSeen_55 : decode cX1_likeSeen 55 = .ok (.aload_n 1, 1) := by decide +kernel
theorem dX1_likeSeen_56 : decode cX1_likeSeen 56 = .ok (.getfield 179, 3) := by decide +kernel
theorem dX1_likeSeen_59 : decode cX1_likeSeen 59 = .ok (.iload_n 3, 1) := by decide +kernel
theorem dX1_likeSeen_60 : decode cX1_likeSeen 60 = .ok (.iaload, 1) := by decide +kernel
theorem dX1_likeSeen_61 : decode cX1_likeSeen 61 = .ok (.iconst 1, 1) := by decide +kernel
theorem dX1_likeSeen_62 : decode cX1_likeSeen 62 = .ok (.if_icmp .ne 8, 3) := by decide +kernel
theorem dX1_likeSeen_65 : decode cX1_likeSeen 65 = .ok (.iload 5, 2) := by decide +kernel
theorem dX1_likeSeen_67 : decode cX1_likeSeen 67 = .ok (.goto 7, 3) := by decide +kernel
theorem dX1_likeSeen_70 : decode cX1_likeSeen 70 = .ok (.iload 5, 2) := by decide +kernel
theorem dX1_likeSeen_72 : decode cX1_likeSeen 72 = .ok (.iconst (-1), 1) := by decide +kernel
theorem dX1_likeSeen_73 : decode cX1_likeSeen 73 = .ok (.ixor, 1) := by decide +kernel
theorem dX1_likeSeen_74 : decode cX1_likeSeen 74 = .ok (.iand, 1) := by decide +kernel
theorem dX1_likeSeen_75 : decode cX1_likeSeen 75 = .ok (.istore_n 2, 1) := by decide +kernel
theorem dX1_likeSeen_76 : decode cX1_likeSeen 76 = .ok (.iinc 3 1, 3) := by decide +kernel
theorem dX1_likeSeen_79 : decode cX1_likeSeen 79 = .ok (.goto (-72), 3) := by decide +kernel
theorem dX1_likeSeen_82 : decode cX1_likeSeen 82 = .ok (.iload_n 2, 1) := by decide +kernel
theorem dX1_likeSeen_83 : decode cX1_likeSeen 83 = .ok (.ireturn, 1) := by decide +kernel
theorem dX1_bestLook_0 : decode cX1_bestLook 0 = .ok (.iconst 0, 1) := by decide +kernel
theorem dX1_bestLook_1 : decode cX1_bestLook 1 = .ok (.istore_n 2, 1) := by decide +kernel
theorem dX1_bestLook_2 : decode cX1_bestLook 2 = .ok (.iconst 1, 1) := by decide +kernel
theorem dX1_bestLook_3 : decode cX1_bestLook 3 = .ok (.istore_n 3, 1) := by decide +kernel
theorem dX1_bestLook_4 : decode cX1_bestLook 4 = .ok (.iload_n 3, 1) := by decide +kernel
theorem dX1_bestLook_5 : decode cX1_bestLook 5 = .ok (.bipush 60, 2) := by decide +kernel
theorem dX1_bestLook_7 : decode cX1_bestLook 7 = .ok (.if_icmp .gt 26, 3) := by decide +kernel
theorem dX1_bestLook_10 : decode cX1_bestLook 10 = .ok (.aload_n 0, 1) := by decide +kernel
theorem dX1_bestLook_11 : decode cX1_bestLook 11 = .ok (.iload_n 1, 1) := by decide +kernel
theorem dX1_bestLook_12 : decode cX1_bestLook 12 = .ok (.iload_n 3, 1) := by decide +kernel
theorem dX1_bestLook_13 : decode cX1_bestLook 13 = .ok (.invokevirtual 182, 3) := by decide +kernel
theorem dX1_bestLook_16 : decode cX1_bestLook 16 = .ok (.aload_n 0, 1) := by decide +kernel
theorem dX1_bestLook_17 : decode cX1_bestLook 17 = .ok (.iload_n 1, 1) := by decide +kernel
theorem dX1_bestLook_18 : decode cX1_bestLook 18 = .ok (.iload_n 2, 1) := by decide +kernel
theorem dX1_bestLook_19 : decode cX1_bestLook 19 = .ok (.invokevirtual 182, 3) := by decide +kernel
theorem dX1_bestLook_22 : decode cX1_bestLook 22 = .ok (.if_icmp .ge 5, 3) := by decide +kernel
theorem dX1_bestLook_25 : decode cX1_bestLook 25 = .ok (.iload_n 3, 1) := by decide +kernel
theorem dX1_bestLook_26 : decode cX1_bestLook 26 = .ok (.istore_n 2, 1) := by decide +kernel
theorem dX1_bestLook_27 : decode cX1_bestLook 27 = .ok (.iinc 3 1, 3) := by decide +kernel
theorem dX1_bestLook_30 : decode cX1_bestLook 30 = .ok (.goto (-26), 3) := by decide +kernel
theorem dX1_bestLook_33 : decode cX1_bestLook 33 = .ok (.iload_n 2, 1) := by decide +kernel
theorem dX1_bestLook_34 : decode cX1_bestLook 34 = .ok (.ireturn, 1) := by decide +kernel
theorem dX1_leftAt_0 : decode cX1_leftAt 0 = .ok (.iload_n 2, 1) := by decide +kernel
theorem dX1_leftAt_1 : decode cX1_leftAt 1 = .ok (.ifCond .lt 9, 3) := by decide +kernel
theorem dX1_leftAt_4 : decode cX1_leftAt 4 = .ok (.iload_n 2, 1) := by decide +kernel
theorem dX1_leftAt_5 : decode cX1_leftAt 5 = .ok (.bipush 60, 2) := by decide +kernel
theorem dX1_leftAt_7 : decode cX1_leftAt 7 = .ok (.if_icmp .le 5, 3) := by decide +kernel
theorem dX1_leftAt_10 : decode cX1_leftAt 10 = .ok (.iconst (-1), 1) := by decide +kernel
theorem dX1_leftAt_11 : decode cX1_leftAt 11 = .ok (.ireturn, 1) := by decide +kernel
theorem dX1_leftAt_12 : decode cX1_leftAt 12 = .ok (.iload_n 1, 1) := by decide +kernel
theorem dX1_leftAt_13 : decode cX1_leftAt 13 = .ok (.aload_n 0, 1) := by decide +kernel
theorem dX1_leftAt_14 : decode cX1_leftAt 14 = .ok (.getfield 29, 3) := by decide +kernel
theorem dX1_leftAt_17 : decode cX1_leftAt 17 = .ok (.iload_n 2, 1) := by decide +kernel
theorem dX1_leftAt_18 : decode cX1_leftAt 18 = .ok (.iaload, 1) := by decide +kernel
theorem dX1_leftAt_19 : decode cX1_leftAt 19 = .ok (.iand, 1) := by decide +kernel
theorem dX1_leftAt_20 : decode cX1_leftAt 20 = .ok (.invokestatic 117, 3) := by decide +kernel
theorem dX1_leftAt_23 : decode cX1_leftAt 23 = .ok (.iload_n 1, 1) := by decide +kernel
theorem dX1_leftAt_24 : decode cX1_leftAt 24 = .ok (.aload_n 0, 1) := by decide +kernel
theorem dX1_leftAt_25 : decode cX1_leftAt 25 = .ok (.getfield 29, 3) := by decide +kernel
theorem dX1_leftAt_28 : decode cX1_leftAt 28 = .ok (.iload_n 2, 1) := by decide +kernel
theorem dX1_leftAt_29 : decode cX1_leftAt 29 = .ok (.iaload, 1) := by decide +kernel
theorem dX1_leftAt_30 : decode cX1_leftAt 30 = .ok (.iconst (-1), 1) := by decide +kernel
theorem dX1_leftAt_31 : decode cX1_leftAt 31 = .ok (.ixor, 1) := by decide +kernel
theorem dX1_leftAt_32 : decode cX1_leftAt 32 = .ok (.iand, 1) := by decide +kernel
theorem dX1_leftAt_33 : decode cX1_leftAt 33 = .ok (.invokestatic 117, 3) := by decide +kernel
theorem dX1_leftAt_36 : decode cX1_leftAt 36 = .ok (.invokestatic 185, 3) := by decide +kernel
theorem dX1_leftAt_39 : decode cX1_leftAt 39 = .ok (.ireturn, 1) := by decide +kernel
theorem dX1_holdCouncils_0 : decode cX1_holdCouncils 0 = .ok (.aload_n 1, 1) := by decide +kernel
theorem dX1_holdCouncils_1 : decode cX1_holdCouncils 1 = .ok (.getfield 90, 3) := by decide +kernel
theorem dX1_holdCouncils_4 : decode cX1_holdCouncils 4 = .ok (.iconst 1, 1) := by decide +kernel
theorem dX1_holdCouncils_5 : decode cX1_holdCouncils 5 = .ok (.if_icmp .ge 4, 3) := by decide +kernel
theorem dX1_holdCouncils_8 : decode cX1_holdCouncils 8 = .ok (.return_, 1) := by decide +kernel
theorem dX1_holdCouncils_9 : decode cX1_holdCouncils 9 = .ok (.aload_n 1, 1) := by decide +kernel
theorem dX1_holdCouncils_10 : decode cX1_holdCouncils 10 = .ok (.invokevirtual 38, 3) := by decide +kernel
theorem dX1_holdCouncils_13 : decode cX1_holdCouncils 13 = .ok (.astore 5, 2) := by decide +kernel
theorem dX1_holdCouncils_15 : decode cX1_holdCouncils 15 = .ok (.iload_n 3, 1) := by decide +kernel
theorem dX1_holdCouncils_16 : decode cX1_holdCouncils 16 = .ok (.istore 6, 2) := by decide +kernel
theorem dX1_holdCouncils_18 : decode cX1_holdCouncils 18 = .ok (.iconst 0, 1) := by decide +kernel
theorem dX1_holdCouncils_19 : decode cX1_holdCouncils 19 = .ok (.istore 7, 2) := by decide +kernel
theorem dX1_holdCouncils_21 : decode cX1_holdCouncils 21 = .ok (.iload 7, 2) := by decide +kernel
theorem dX1_holdCouncils_23 : decode cX1_holdCouncils 23 = .ok (.iload 4, 2) := by decide +kernel
theorem dX1_holdCouncils_25 : decode cX1_holdCouncils 25 = .ok (.if_icmp .ge 126, 3) := by decide +kernel
theorem dX1_holdCouncils_28 : decode cX1_holdCouncils 28 = .ok (.aload_n 2, 1) := by decide +kernel
theorem dX1_holdCouncils_29 : decode cX1_holdCouncils 29 = .ok (.getfield 108, 3) := by decide +kernel
theorem dX1_holdCouncils_32 : decode cX1_holdCouncils 32 = .ok (.sipush 999, 3) := by decide +kernel
theorem dX1_holdCouncils_35 : decode cX1_holdCouncils 35 = .ok (.if_icmp .ge 116, 3) := by decide +kernel
theorem dX1_holdCouncils_38 : decode cX1_holdCouncils 38 = .ok (.iload 6, 2) := by decide +kernel
theorem dX1_holdCouncils_40 : decode cX1_holdCouncils 40 = .ok (.invokestatic 187, 3) := by decide +kernel
theorem dX1_holdCouncils_43 : decode cX1_holdCouncils 43 = .ok (.istore 6, 2) := by decide +kernel
theorem dX1_holdCouncils_45 : decode cX1_holdCouncils 45 = .ok (.iload 6, 2) := by decide +kernel
theorem dX1_holdCouncils_47 : decode cX1_holdCouncils 47 = .ok (.aload_n 1, 1) := by decide +kernel
theorem dX1_holdCouncils_48 : decode cX1_holdCouncils 48 = .ok (.getfield 90, 3) := by decide +kernel
theorem dX1_holdCouncils_51 : decode cX1_holdCouncils 51 = .ok (.irem, 1) := by decide +kernel
theorem dX1_holdCouncils_52 : decode cX1_holdCouncils 52 = .ok (.istore 8, 2) := by decide +kernel
theorem dX1_holdCouncils_54 : decode cX1_holdCouncils 54 = .ok (.iload 6, 2) := by decide +kernel
theorem dX1_holdCouncils_56 : decode cX1_holdCouncils 56 = .ok (.invokestatic 187, 3) := by decide +kernel
theorem dX1_holdCouncils_59 : decode cX1_holdCouncils 59 = .ok (.istore 6, 2) := by decide +kernel
theorem dX1_holdCouncils_61 : decode cX1_holdCouncils 61 = .ok (.iload 6, 2) := by decide +kernel
theorem dX1_holdCouncils_63 : decode cX1_holdCouncils 63 = .ok (.bipush 10, 2) := by decide +kernel
theorem dX1_holdCouncils_65 : decode cX1_holdCouncils 65 = .ok (.irem, 1) := by decide +kernel
theorem dX1_holdCouncils_66 : decode cX1_holdCouncils 66 = .ok (.istore 9, 2) := by decide +kernel
theorem dX1_holdCouncils_68 : decode cX1_holdCouncils 68 = .ok (.iload 6, 2) := by decide +kernel
theorem dX1_holdCouncils_70 : decode cX1_holdCouncils 70 = .ok (.invokestatic 187, 3) := by decide +kernel
theorem dX1_holdCouncils_73 : decode cX1_holdCouncils 73 = .ok (.istore 6, 2) := by decide +kernel
theorem dX1_holdCouncils_75 : decode cX1_holdCouncils 75 = .ok (.iload 6, 2) := by decide +kernel
theorem dX1_holdCouncils_77 : decode cX1_holdCouncils 77 = .ok (.iconst 4, 1) := by decide +kernel
theorem dX1_holdCouncils_78 : decode cX1_holdCouncils 78 = .ok (.irem, 1) := by decide +kernel
theorem dX1_holdCouncils_79 : decode cX1_holdCouncils 79 = .ok (.tableswitch 56 0 2 #[25, 35, 44], 25) := by decide +kernel
theorem dX1_holdCouncils_104 : decode cX1_holdCouncils 104 = .ok (.aload_n 2, 1) := by decide +kernel
theorem dX1_holdCouncils_105 : decode cX1_holdCouncils 105 = .ok (.iload 8, 2) := by decide +kernel
theorem dX1_holdCouncils_107 : decode cX1_holdCouncils 107 = .ok (.invokevirtual 64, 3) := by decide +kernel
theorem dX1_holdCouncils_110 : decode cX1_holdCouncils 110 = .ok (.pop, 1) := by decide +kernel
theorem dX1_holdCouncils_111 : decode cX1_holdCouncils 111 = .ok (.goto 24, 3) := by decide +kernel
theorem dX1_holdCouncils_114 : decode cX1_holdCouncils 114 = .ok (.aload_n 2, 1) := by decide +kernel
theorem dX1_holdCouncils_115 : decode cX1_holdCouncils 115 = .ok (.iload 8, 2) := by decide +kernel
theorem dX1_holdCouncils_117 : decode cX1_holdCouncils 117 = .ok (.invokevirtual 68, 3) := by decide +kernel
theorem dX1_holdCouncils_120 : decode cX1_holdCouncils 120 = .ok (.goto 15, 3) := by decide +kernel
theorem dX1_holdCouncils_123 : decode cX1_holdCouncils 123 = .ok (.aload_n 2, 1) := by decide +kernel
theorem dX1_holdCouncils_124 : decode cX1_holdCouncils 124 = .ok (.iload 8, 2) := by decide +kernel
theorem dX1_holdCouncils_126 : decode cX1_holdCouncils 126 = .ok (.iload 9, 2) := by decide +kernel
theorem dX1_holdCouncils_128 : decode cX1_holdCouncils 128 = .ok (.invokevirtual 76, 3) := by decide +kernel
theorem dX1_holdCouncils_131 : decode cX1_holdCouncils 131 = .ok (.pop, 1) := by decide +kernel
theorem dX1_holdCouncils_132 : decode cX1_holdCouncils 132 = .ok (.goto 3, 3) := by decide +kernel
theorem dX1_holdCouncils_135 : decode cX1_holdCouncils 135 = .ok (.aload_n 0, 1) := by decide +kernel
theorem dX1_holdCouncils_136 : decode cX1_holdCouncils 136 = .ok (.aload_n 1, 1) := by decide +kernel
theorem dX1_holdCouncils_137 : decode cX1_holdCouncils 137 = .ok (.aload_n 2, 1) := by decide +kernel
theorem dX1_holdCouncils_138 : decode cX1_holdCouncils 138 = .ok (.aload 5, 2) := by decide +kernel
theorem dX1_holdCouncils_140 : decode cX1_holdCouncils 140 = .ok (.iconst 0, 1) := by decide +kernel
theorem dX1_holdCouncils_141 : decode cX1_holdCouncils 141 = .ok (.invokevirtual 80, 3) := by decide +kernel
theorem dX1_holdCouncils_144 : decode cX1_holdCouncils 144 = .ok (.pop, 1) := by decide +kernel
theorem dX1_holdCouncils_145 : decode cX1_holdCouncils 145 = .ok (.iinc 7 1, 3) := by decide +kernel
theorem dX1_holdCouncils_148 : decode cX1_holdCouncils 148 = .ok (.goto (-127), 3) := by decide +kernel
theorem dX1_holdCouncils_151 : decode cX1_holdCouncils 151 = .ok (.return_, 1) := by decide +kernel
theorem dX1_nextDraw_0 : decode cX1_nextDraw 0 = .ok (.iload_n 0, 1) := by decide +kernel
theorem dX1_nextDraw_1 : decode cX1_nextDraw 1 = .ok (.i2l, 1) := by decide +kernel
theorem dX1_nextDraw_2 : decode cX1_nextDraw 2 = .ok (.ldc2_w 190, 3) := by decide +kernel
theorem dX1_nextDraw_5 : decode cX1_nextDraw 5 = .ok (.lmul, 1) := by decide +kernel
theorem dX1_nextDraw_6 : decode cX1_nextDraw 6 = .ok (.ldc2_w 192, 3) := by decide +kernel
theorem dX1_nextDraw_9 : decode cX1_nextDraw 9 = .ok (.ladd, 1) := by decide +kernel
theorem dX1_nextDraw_10 : decode cX1_nextDraw 10 = .ok (.ldc2_w 194, 3) := by decide +kernel
theorem dX1_nextDraw_13 : decode cX1_nextDraw 13 = .ok (.lrem, 1) := by decide +kernel
theorem dX1_nextDraw_14 : decode cX1_nextDraw 14 = .ok (.l2i, 1) := by decide +kernel
theorem dX1_nextDraw_15 : decode cX1_nextDraw 15 = .ok (.ireturn, 1) := by decide +kernel
theorem dX2_init_0 : decode cX2_init 0 = .ok (.aload_n 0, 1) := by decide +kernel
theorem dX2_init_1 : decode cX2_init 1 = .ok (.invokespecial 3, 3) := by decide +kernel
theorem dX2_init_4 : decode cX2_init 4 = .ok (.aload_n 0, 1) := by decide +kernel
theorem dX2_init_5 : decode cX2_init 5 = .ok (.iconst 0, 1) := by decide +kernel
theorem dX2_init_6 : decode cX2_init 6 = .ok (.putfield 9, 3) := by decide +kernel
theorem dX2_init_9 : decode cX2_init 9 = .ok (.aload_n 0, 1) := by decide +kernel
theorem dX2_init_10 : decode cX2_init 10 = .ok (.iconst (-1), 1) := by decide +kernel
theorem dX2_init_11 : decode cX2_init 11 = .ok (.putfield 15, 3) := by decide +kernel
theorem dX2_init_14 : decode cX2_init 14 = .ok (.aload_n 0, 1) := by decide +kernel
theorem dX2_init_15 : decode cX2_init 15 = .ok (.new 18, 3) := by decide +kernel
theorem dX2_init_18 : decode cX2_init 18 = .ok (.dup, 1) := by decide +kernel
theorem dX2_init_19 : decode cX2_init 19 = .ok (.invokespecial 20, 3) := by decide +kernel
theorem dX2_init_22 : decode cX2_init 22 = .ok (.putfield 21, 3) := by decide +kernel
theorem dX2_init_25 : decode cX2_init 25 = .ok (.return_, 1) := by decide +kernel
theorem dX2_runAll_0 : decode cX2_runAll 0 = .ok (.aload_n 0, 1) := by decide +kernel
theorem dX2_runAll_1 : decode cX2_runAll 1 = .ok (.iconst 0, 1) := by decide +kernel
theorem dX2_runAll_2 : decode cX2_runAll 2 = .ok (.putfield 9, 3) := by decide +kernel
theorem dX2_runAll_5 : decode cX2_runAll 5 = .ok (.aload_n 0, 1) := by decide +kernel
theorem dX2_runAll_6 : decode cX2_runAll 6 = .ok (.iconst (-1), 1) := by decide +kernel
theorem dX2_runAll_7 : decode cX2_runAll 7 = .ok (.putfield 15, 3) := by decide +kernel
theorem dX2_runAll_10 : decode cX2_runAll 10 = .ok (.iconst 0, 1) := by decide +kernel
theorem dX2_runAll_11 : decode cX2_runAll 11 = .ok (.istore 6, 2) := by decide +kernel
theorem dX2_runAll_13 : decode cX2_runAll 13 = .ok (.iload 6, 2) := by decide +kernel
theorem dX2_runAll_15 : decode cX2_runAll 15 = .ok (.aload_n 1, 1) := by decide +kernel
theorem dX2_runAll_16 : decode cX2_runAll 16 = .ok (.getfield 25, 3) := by decide +kernel
theorem dX2_runAll_19 : decode cX2_runAll 19 = .ok (.if_icmp .ge 59, 3) := by decide +kernel
theorem dX2_runAll_22 : decode cX2_runAll 22 = .ok (.iload 6, 2) := by decide +kernel
theorem dX2_runAll_24 : decode cX2_runAll 24 = .ok (.aload_n 1, 1) := by decide +kernel
theorem dX2_runAll_25 : decode cX2_runAll 25 = .ok (.getfield 30, 3) := by decide +kernel
theorem dX2_runAll_28 : decode cX2_runAll 28 = .ok (.arraylength, 1) := by decide +kernel
theorem dX2_runAll_29 : decode cX2_runAll 29 = .ok (.if_icmp .ge 49, 3) := by decide +kernel
theorem dX2_runAll_32 : decode cX2_runAll 32 = .ok (.iconst 0, 1) := by decide +kernel
theorem dX2_runAll_33 : decode cX2_runAll 33 = .ok (.istore 7, 2) := by decide +kernel
theorem dX2_runAll_35 : decode cX2_runAll 35 = .ok (.iload 7, 2) := by decide +kernel
theorem dX2_runAll_37 : decode cX2_runAll 37 = .ok (.aload_n 1, 1) := by decide +kernel
theorem dX2_runAll_38 : decode cX2_runAll 38 = .ok (.getfield 30, 3) := by decide +kernel
theorem dX2_runAll_41 : decode cX2_runAll 41 = .ok (.iload 6, 2) := by decide +kernel
theorem dX2_runAll_43 : decode cX2_runAll 43 = .ok (.iaload, 1) := by decide +kernel
theorem dX2_runAll_44 : decode cX2_runAll 44 = .ok (.if_icmp .ge 28, 3) := by decide +kernel
theorem dX2_runAll_47 : decode cX2_runAll 47 = .ok (.aload_n 0, 1) := by decide +kernel
theorem dX2_runAll_48 : decode cX2_runAll 48 = .ok (.aload_n 1, 1) := by decide +kernel
theorem dX2_runAll_49 : decode cX2_runAll 49 = .ok (.iload 6, 2) := by decide +kernel
theorem dX2_runAll_51 : decode cX2_runAll 51 = .ok (.aload_n 2, 1) := by decide +kernel
theorem dX2_runAll_52 : decode cX2_runAll 52 = .ok (.aload_n 3, 1) := by decide +kernel
theorem dX2_runAll_53 : decode cX2_runAll 53 = .ok (.aload 4, 2) := by decide +kernel
theorem dX2_runAll_55 : decode cX2_runAll 55 = .ok (.aload 5, 2) := by decide +kernel
theorem dX2_runAll_57 : decode cX2_runAll 57 = .ok (.invokevirtual 34, 3) := by decide +kernel
theorem dX2_runAll_60 : decode cX2_runAll 60 = .ok (.ifCond .ne 6, 3) := by decide +kernel
theorem dX2_runAll_63 : decode cX2_runAll 63 = .ok (.iload 6, 2) := by decide +kernel
theorem dX2_runAll_65 : decode cX2_runAll 65 = .ok (.ireturn, 1) := by decide +kernel
theorem dX2_runAll_66 : decode cX2_runAll 66 = .ok (.iinc 7 1, 3) := by decide +kernel
theorem dX2_runAll_69 : decode cX2_runAll 69 = .ok (.goto (-34), 3) := by decide +kernel
theorem dX2_runAll_72 : decode cX2_runAll 72 = .ok (.iinc 6 1, 3) := by decide +kernel
theorem dX2_runAll_75 : decode cX2_runAll 75 = .ok (.goto (-62), 3) := by decide +kernel
theorem dX2_runAll_78 : decode cX2_runAll 78 = .ok (.iconst (-1), 1) := by decide +kernel
theorem dX2_runAll_79 : decode cX2_runAll 79 = .ok (.ireturn, 1) := by decide +kernel
theorem dX2_runOnce_0 : decode cX2_runOnce 0 = .ok (.aload_n 0, 1) := by decide +kernel
theorem dX2_runOnce_1 : decode cX2_runOnce 1 = .ok (.aload_n 3, 1) := by decide +kernel
theorem dX2_runOnce_2 : decode cX2_runOnce 2 = .ok (.aload 4, 2) := by decide +kernel
theorem dX2_runOnce_4 : decode cX2_runOnce 4 = .ok (.invokevirtual 38, 3) := by decide +kernel
theorem dX2_runOnce_7 : decode cX2_runOnce 7 = .ok (.aload_n 1, 1) := by decide +kernel
theorem dX2_runOnce_8 : decode cX2_runOnce 8 = .ok (.getfield 42, 3) := by decide +kernel
theorem dX2_runOnce_11 : decode cX2_runOnce 11 = .ok (.iload_n 2, 1) := by decide +kernel
theorem dX2_runOnce_12 : decode cX2_runOnce 12 = .ok (.iaload, 1) := by decide +kernel
theorem dX2_runOnce_13 : decode cX2_runOnce 13 = .ok (.iconst (-1), 1) := by decide +kernel
theorem dX2_runOnce_14 : decode cX2_runOnce 14 = .ok (.if_icmp .eq 24, 3) := by decide +kernel
theorem dX2_runOnce_17 : decode cX2_runOnce 17 = .ok (.aload_n 0, 1) := by decide +kernel
theorem dX2_runOnce_18 : decode cX2_runOnce 18 = .ok (.getfield 21, 3) := by decide +kernel
theorem dX2_runOnce_21 : decode cX2_runOnce 21 = .ok (.aload_n 1, 1) := by decide +kernel
theorem dX2_runOnce_22 : decode cX2_runOnce 22 = .ok (.aload_n 1, 1) := by decide +kernel
theorem dX2_runOnce_23 : decode cX2_runOnce 23 = .ok (.getfield 42, 3) := by decide +kernel
theorem dX2_runOnce_26 : decode cX2_runOnce 26 = .ok (.iload_n 2, 1) := by decide +kernel
theorem dX2_runOnce_27 : decode cX2_runOnce 27 = .ok (.iaload, 1) := by decide +kernel
theorem dX2_runOnce_28 : decode cX2_runOnce 28 = .ok (.invokevirtual 45, 3) := by decide +kernel
theorem dX2_runOnce_31 : decode cX2_runOnce 31 = .ok (.lconst 1, 1) := by decide +kernel
theorem dX2_runOnce_32 : decode cX2_runOnce 32 = .ok (.lcmp, 1) := by decide +kernel
theorem dX2_runOnce_33 : decode cX2_runOnce 33 = .ok (.ifCond .eq 5, 3) := by decide +kernel
theorem dX2_runOnce_36 : decode cX2_runOnce 36 = .ok (.iconst 1, 1) := by decide +kernel
theorem dX2_runOnce_37 : decode cX2_runOnce 37 = .ok (.ireturn, 1) := by decide +kernel
theorem dX2_runOnce_38 : decode cX2_runOnce 38 = .ok (.aload_n 1, 1) := by decide +kernel
theorem dX2_runOnce_39 : decode cX2_runOnce 39 = .ok (.getfield 49, 3) := by decide +kernel
theorem dX2_runOnce_42 : decode cX2_runOnce 42 = .ok (.iload_n 2, 1) := by decide +kernel
theorem dX2_runOnce_43 : decode cX2_runOnce 43 = .ok (.iaload, 1) := by decide +kernel
theorem dX2_runOnce_44 : decode cX2_runOnce 44 = .ok (.istore 7, 2) := by decide +kernel
theorem dX2_runOnce_46 : decode cX2_runOnce 46 = .ok (.aload_n 0, 1) := by decide +kernel
theorem dX2_runOnce_47 : decode cX2_runOnce 47 = .ok (.aload_n 1, 1) := by decide +kernel
theorem dX2_runOnce_48 : decode cX2_runOnce 48 = .ok (.aload_n 1, 1) := by decide +kernel
theorem dX2_runOnce_49 : decode cX2_runOnce 49 = .ok (.getfield 52, 3) := by decide +kernel
theorem dX2_runOnce_52 : decode cX2_runOnce 52 = .ok (.iload_n 2, 1) := by decide +kernel
theorem dX2_runOnce_53 : decode cX2_runOnce 53 = .ok (.iaload, 1) := by decide +kernel
theorem dX2_runOnce_54 : decode cX2_runOnce 54 = .ok (.invokevirtual 55, 3) := by decide +kernel
theorem dX2_runOnce_57 : decode cX2_runOnce 57 = .ok (.lstore 8, 2) := by decide +kernel
theorem dX2_runOnce_59 : decode cX2_runOnce 59 = .ok (.aload_n 0, 1) := by decide +kernel
theorem dX2_runOnce_60 : decode cX2_runOnce 60 = .ok (.aload_n 1, 1) := by decide +kernel
theorem dX2_runOnce_61 : decode cX2_runOnce 61 = .ok (.aload_n 1, 1) := by decide +kernel
theorem dX2_runOnce_62 : decode cX2_runOnce 62 = .ok (.getfield 58, 3) := by decide +kernel
theorem dX2_runOnce_65 : decode cX2_runOnce 65 = .ok (.iload_n 2, 1) := by decide +kernel
theorem dX2_runOnce_66 : decode cX2_runOnce 66 = .ok (.iaload, 1) := by decide +kernel
theorem dX2_runOnce_67 : decode cX2_runOnce 67 = .ok (.invokevirtual 55, 3) := by decide +kernel
theorem dX2_runOnce_70 : decode cX2_runOnce 70 = .ok (.lstore 10, 2) := by decide +kernel
theorem dX2_runOnce_72 : decode cX2_runOnce 72 = .ok (.lload 8, 2) := by decide +kernel
theorem dX2_runOnce_74 : decode cX2_runOnce 74 = .ok (.ldc2_w 61, 3) := by decide +kernel
theorem dX2_runOnce_77 : decode cX2_runOnce 77 = .ok (.lcmp, 1) := by decide +kernel
theorem dX2_runOnce_78 : decode cX2_runOnce 78 = .ok (.ifCond .eq 27, 3) := by decide +kernel
theorem dX2_runOnce_81 : decode cX2_runOnce 81 = .ok (.lload 10, 2) := by decide +kernel
theorem dX2_runOnce_83 : decode cX2_runOnce 83 = .ok (.ldc2_w 61, 3) := by decide +kernel
theorem dX2_runOnce_86 : decode cX2_runOnce 86 = .ok (.lcmp, 1) := by decide +kernel
theorem dX2_runOnce_87 : decode cX2_runOnce 87 = .ok (.ifCond .eq 18, 3) := by decide +kernel
theorem dX2_runOnce_90 : decode cX2_runOnce 90 = .ok (.aload_n 3, 1) := by decide +kernel
theorem dX2_runOnce_91 : decode cX2_runOnce 91 = .ok (.aload 4, 2) := by decide +kernel
theorem dX2_runOnce_93 : decode cX2_runOnce 93 = .ok (.iload 7, 2) := by decide +kernel
theorem dX2_runOnce_95 : decode cX2_runOnce 95 = .ok (.lload 8, 2) := by decide +kernel
theorem dX2_runOnce_97 : decode cX2_runOnce 97 = .ok (.lload 10, 2) := by decide +kernel
theorem dX2_runOnce_99 : decode cX2_runOnce 99 = .ok (.invokevirtual 63, 3) := by decide +kernel
theorem dX2_runOnce_102 : decode cX2_runOnce 102 = .ok (.ifCond .eq 5, 3) := by decide +kernel
theorem dX2_runOnce_105 : decode cX2_runOnce 105 = .ok (.iconst 0, 1) := by decide +kernel
theorem dX2_runOnce_106 : decode cX2_runOnce 106 = .ok (.ireturn, 1) := by decide +kernel
theorem dX2_runOnce_107 : decode cX2_runOnce 107 = .ok (.aload 6, 2) := by decide +kernel
theorem dX2_runOnce_109 : decode cX2_runOnce 109 = .ok (.ifnull 12, 3) := by decide +kernel
theorem dX2_runOnce_112 : decode cX2_runOnce 112 = .ok (.aload 6, 2) := by decide +kernel
theorem dX2_runOnce_114 : decode cX2_runOnce 114 = .ok (.iload 7, 2) := by decide +kernel
theorem dX2_runOnce_116 : decode cX2_runOnce 116 = .ok (.aload 4, 2) := by decide +kernel
theorem dX2_runOnce_118 : decode cX2_runOnce 118 = .ok (.invokevirtual 69, 3) := by decide +kernel
theorem dX2_runOnce_121 : decode cX2_runOnce 121 = .ok (.aload 5, 2) := by decide +kernel
theorem dX2_runOnce_123 : decode cX2_runOnce 123 = .ok (.aload_n 3, 1) := by decide +kernel
theorem dX2_runOnce_124 : decode cX2_runOnce 124 = .ok (.aload 4, 2) := by decide +kernel
theorem dX2_runOnce_126 : decode cX2_runOnce 126 = .ok (.iload 7, 2) := by decide +kernel
theorem dX2_runOnce_128 : decode cX2_runOnce 128 = .ok (.lload 8, 2) := by decide +kernel
theorem dX2_runOnce_130 : decode cX2_runOnce 130 = .ok (.l2i, 1) := by decide +kernel
theorem dX2_runOnce_131 : decode cX2_runOnce 131 = .ok (.lload 10, 2) := by decide +kernel
theorem dX2_runOnce_133 : decode cX2_runOnce 133 = .ok (.l2i, 1) := by decide +kernel
theorem dX2_runOnce_134 : decode cX2_runOnce 134 = .ok (.invokevirtual 75, 3) := by decide +kernel
theorem dX2_runOnce_137 : decode cX2_runOnce 137 = .ok (.istore 12, 2) := by decide +kernel
theorem dX2_runOnce_139 : decode cX2_runOnce 139 = .ok (.aload_n 0, 1) := by decide +kernel
theorem dX2_runOnce_140 : decode cX2_runOnce 140 = .ok (.dup, 1) := by decide +kernel
theorem dX2_runOnce_141 : decode cX2_runOnce 141 = .ok (.getfield 9, 3) := by decide +kernel
theorem dX2_runOnce_144 : decode cX2_runOnce 144 = .ok (.iconst 1, 1) := by decide +kernel
theorem dX2_runOnce_145 : decode cX2_runOnce 145 = .ok (.iadd, 1) := by decide +kernel
theorem dX2_runOnce_146 : decode cX2_runOnce 146 = .ok (.putfield 9, 3) := by decide +kernel
theorem dX2_runOnce_149 : decode cX2_runOnce 149 = .ok (.aload_n 0, 1) := by decide +kernel
theorem dX2_runOnce_150 : decode cX2_runOnce 150 = .ok (.iload 7, 2) := by decide +kernel
theorem dX2_runOnce_152 : decode cX2_runOnce 152 = .ok (.iconst 3, 1) := by decide +kernel
theorem dX2_runOnce_153 : decode cX2_runOnce 153 = .ok (.if_icmp .ne 8, 3) := by decide +kernel
theorem dX2_runOnce_156 : decode cX2_runOnce 156 = .ok (.iload 12, 2) := by decide +kernel
theorem dX2_runOnce_158 : decode cX2_runOnce 158 = .ok (.goto 7, 3) := by decide +kernel
theorem dX2_runOnce_161 : decode cX2_runOnce 161 = .ok (.aload_n 0, 1) := by decide +kernel
theorem dX2_runOnce_162 : decode cX2_runOnce 162 = .ok (.getfield 15, 3) := by decide +kernel
theorem dX2_runOnce_165 : decode cX2_runOnce 165 = .ok (.putfield 15, 3) := by decide +kernel
theorem dX2_runOnce_168 : decode cX2_runOnce 168 = .ok (.iconst 1, 1) := by decide +kernel
theorem dX2_runOnce_169 : decode cX2_runOnce 169 = .ok (.ireturn, 1) := by decide +kernel
theorem dX2_sumAt_0 : decode cX2_sumAt 0 = .ok (.iload_n 2, 1) := by decide +kernel
theorem dX2_sumAt_1 : decode cX2_sumAt 1 = .ok (.iconst (-1), 1) := by decide +kernel
theorem dX2_sumAt_2 : decode cX2_sumAt 2 = .ok (.if_icmp .ne 7, 3) := by decide +kernel
theorem dX2_sumAt_5 : decode cX2_sumAt 5 = .ok (.lconst 0, 1) := by decide +kernel
theorem dX2_sumAt_6 : decode cX2_sumAt 6 = .ok (.goto 12, 3) := by decide +kernel
theorem dX2_sumAt_9 : decode cX2_sumAt 9 = .ok (.aload_n 0, 1) := by decide +kernel
theorem dX2_sumAt_10 : decode cX2_sumAt 10 = .ok (.getfield 21, 3) := by decide +kernel
theorem dX2_sumAt_13 : decode cX2_sumAt 13 = .ok (.aload_n 1, 1) := by decide +kernel
theorem dX2_sumAt_14 : decode cX2_sumAt 14 = .ok (.iload_n 2, 1) := by decide +kernel
theorem dX2_sumAt_15 : decode cX2_sumAt 15 = .ok (.invokevirtual 45, 3) := by decide +kernel
theorem dX2_sumAt_18 : decode cX2_sumAt 18 = .ok (.lreturn, 1) := by decide +kernel
theorem dX2_hear_0 : decode cX2_hear 0 = .ok (.aload_n 0, 1) := by decide +kernel
theorem dX2_hear_1 : decode cX2_hear 1 = .ok (.getfield 21, 3) := by decide +kernel
theorem dX2_hear_4 : decode cX2_hear 4 = .ok (.getfield 81, 3) := by decide +kernel
theorem dX2_hear_7 : decode cX2_hear 7 = .ok (.astore_n 3, 1) := by decide +kernel
theorem dX2_hear_8 : decode cX2_hear 8 = .ok (.aload_n 3, 1) := by decide +kernel
theorem dX2_hear_9 : decode cX2_hear 9 = .ok (.bipush 6, 2) := by decide +kernel
theorem dX2_hear_11 : decode cX2_hear 11 = .ok (.aload_n 2, 1) := by decide +kernel
theorem dX2_hear_12 : decode cX2_hear 12 = .ok (.getfield 84, 3) := by decide +kernel
theorem dX2_hear_15 : decode cX2_hear 15 = .ok (.iastore, 1) := by decide +kernel
theorem dX2_hear_16 : decode cX2_hear 16 = .ok (.aload_n 3, 1) := by decide +kernel
theorem dX2_hear_17 : decode cX2_hear 17 = .ok (.bipush 9, 2) := by decide +kernel
theorem dX2_hear_19 : decode cX2_hear 19 = .ok (.aload_n 0, 1) := by decide +kernel
theorem dX2_hear_20 : decode cX2_hear 20 = .ok (.getfield 9, 3) := by decide +kernel
theorem dX2_hear_23 : decode cX2_hear 23 = .ok (.iastore, 1) := by decide +kernel
theorem dX2_hear_24 : decode cX2_hear 24 = .ok (.aload_n 3, 1) := by decide +kernel
theorem dX2_hear_25 : decode cX2_hear 25 = .ok (.bipush 10, 2) := by decide +kernel
theorem dX2_hear_27 : decode cX2_hear 27 = .ok (.aload_n 0, 1) := by decide +kernel
theorem dX2_hear_28 : decode cX2_hear 28 = .ok (.getfield 15, 3) := by decide +kernel
theorem dX2_hear_31 : decode cX2_hear 31 = .ok (.iastore, 1) := by decide +kernel
theorem dX2_hear_32 : decode cX2_hear 32 = .ok (.aload_n 3, 1) := by decide +kernel
theorem dX2_hear_33 : decode cX2_hear 33 = .ok (.iconst 4, 1) := by decide +kernel
theorem dX2_hear_34 : decode cX2_hear 34 = .ok (.aload_n 2, 1) := by decide +kernel
theorem dX2_hear_35 : decode cX2_hear 35 = .ok (.invokevirtual 89, 3) := by decide +kernel
theorem dX2_hear_38 : decode cX2_hear 38 = .ok (.iastore, 1) := by decide +kernel
theorem dX2_hear_39 : decode cX2_hear 39 = .ok (.iconst 0, 1) := by decide +kernel
theorem dX2_hear_40 : decode cX2_hear 40 = .ok (.istore 4, 2) := by decide +kernel
theorem dX2_hear_42 : decode cX2_hear 42 = .ok (.iload 4, 2) := by decide +kernel
theorem dX2_hear_44 : decode cX2_hear 44 = .ok (.bipush 8, 2) := by decide +kernel
theorem dX2_hear_46 : decode cX2_hear 46 = .ok (.if_icmp .ge 89, 3) := by decide +kernel
theorem dX2_hear_49 : decode cX2_hear 49 = .ok (.aload_n 1, 1) := by decide +kernel
theorem dX2_hear_50 : decode cX2_hear 50 = .ok (.iload 4, 2) := by decide +kernel
theorem dX2_hear_52 : decode cX2_hear 52 = .ok (.i2l, 1) := by decide +kernel
theorem dX2_hear_53 : decode cX2_hear 53 = .ok (.invokevirtual 93, 3) := by decide +kernel
theorem dX2_hear_56 : decode cX2_hear 56 = .ok (.istore 5, 2) := by decide +kernel
theorem dX2_hear_58 : decode cX2_hear 58 = .ok (.aload_n 3, 1) := by decide +kernel
theorem dX2_hear_59 : decode cX2_hear 59 = .ok (.bipush 12, 2) := by decide +kernel
theorem dX2_hear_61 : decode cX2_hear 61 = .ok (.iload 4, 2) := by decide +kernel
theorem dX2_hear_63 : decode cX2_hear 63 = .ok (.iadd, 1) := by decide +kernel
theorem dX2_hear_64 : decode cX2_hear 64 = .ok (.iload 5, 2) := by decide +kernel
theorem dX2_hear_66 : decode cX2_hear 66 = .ok (.ifCond .eq 13, 3) := by decide +kernel
theorem dX2_hear_69 : decode cX2_hear 69 = .ok (.aload_n 2, 1) := by decide +kernel
theorem dX2_hear_70 : decode cX2_hear 70 = .ok (.getfield 97, 3) := by decide +kernel
theorem dX2_hear_73 : decode cX2_hear 73 = .ok (.iload 4, 2) := by decide +kernel
theorem dX2_hear_75 : decode cX2_hear 75 = .ok (.iaload, 1) := by decide +kernel
theorem dX2_hear_76 : decode cX2_hear 76 = .ok (.goto 4, 3) := by decide +kernel
theorem dX2_hear_79 : decode cX2_hear 79 = .ok (.iconst (-1), 1) := by decide +kernel
theorem dX2_hear_80 : decode cX2_hear 80 = .ok (.iastore, 1) := by decide +kernel
theorem dX2_hear_81 : decode cX2_hear 81 = .ok (.aload_n 3, 1) := by decide +kernel
theorem dX2_hear_82 : decode cX2_hear 82 = .ok (.bipush 20, 2) := by decide +kernel
theorem dX2_hear_84 : decode cX2_hear 84 = .ok (.iload 4, 2) := by decide +kernel
theorem dX2_hear_86 : decode cX2_hear 86 = .ok (.iadd, 1) := by decide +kernel
theorem dX2_hear_87 : decode cX2_hear 87 = .ok (.iload 5, 2) := by decide +kernel
theorem dX2_hear_89 : decode cX2_hear 89 = .ok (.ifCond .eq 13, 3) := by decide +kernel
theorem dX2_hear_92 : decode cX2_hear 92 = .ok (.aload_n 2, 1) := by decide +kernel
theorem dX2_hear_93 : decode cX2_hear 93 = .ok (.getfield 100, 3) := by decide +kernel
theorem dX2_hear_96 : decode cX2_hear 96 = .ok (.iload 4, 2) := by decide +kernel
theorem dX2_hear_98 : decode cX2_hear 98 = .ok (.iaload, 1) := by decide +kernel
theorem dX2_hear_99 : decode cX2_hear 99 = .ok (.goto 4, 3) := by decide +kernel
theorem dX2_hear_102 : decode cX2_hear 102 = .ok (.iconst (-1), 1) := by decide +kernel
theorem dX2_hear_103 : decode cX2_hear 103 = .ok (.iastore, 1) := by decide +kernel
theorem dX2_hear_104 : decode cX2_hear 104 = .ok (.aload_n 3, 1) := by decide +kernel
theorem dX2_hear_105 : decode cX2_hear 105 = .ok (.bipush 28, 2) := by decide +kernel
theorem dX2_hear_107 : decode cX2_hear 107 = .ok (.iload 4, 2) := by decide +kernel
theorem dX2_hear_109 : decode cX2_hear 109 = .ok (.iadd, 1) := by decide +kernel
theorem dX2_hear_110 : decode cX2_hear 110 = .ok (.iload 5, 2) := by decide +kernel
theorem dX2_hear_112 : decode cX2_hear 112 = .ok (.ifCond .eq 15, 3) := by decide +kernel
theorem dX2_hear_115 : decode cX2_hear 115 = .ok (.aload_n 2, 1) := by decide +kernel
theorem dX2_hear_116 : decode cX2_hear 116 = .ok (.getfield 103, 3) := by decide +kernel
theorem dX2_hear_119 : decode cX2_hear 119 = .ok (.iload 4, 2) := by decide +kernel
theorem dX2_hear_121 : decode cX2_hear 121 = .ok (.ishr, 1) := by decide +kernel
theorem dX2_hear_122 : decode cX2_hear 122 = .ok (.iconst 1, 1) := by decide +kernel
theorem dX2_hear_123 : decode cX2_hear 123 = .ok (.iand, 1) := by decide +kernel
theorem dX2_hear_124 : decode cX2_hear 124 = .ok (.goto 4, 3) := by decide +kernel
theorem dX2_hear_127 : decode cX2_hear 127 = .ok (.iconst (-1), 1) := by decide +kernel
theorem dX2_hear_128 : decode cX2_hear 128 = .ok (.iastore, 1) := by decide +kernel
theorem dX2_hear_129 : decode cX2_hear 129 = .ok (.iinc 4 1, 3) := by decide +kernel
theorem dX2_hear_132 : decode cX2_hear 132 = .ok (.goto (-90), 3) := by decide +kernel
theorem dX2_hear_135 : decode cX2_hear 135 = .ok (.return_, 1) := by decide +kernel
theorem dX3_init_0 : decode cX3_init 0 = .ok (.aload_n 0, 1) := by decide +kernel
theorem dX3_init_1 : decode cX3_init 1 = .ok (.invokespecial 3, 3) := by decide +kernel
theorem dX3_init_4 : decode cX3_init 4 = .ok (.aload_n 0, 1) := by decide +kernel
theorem dX3_init_5 : decode cX3_init 5 = .ok (.iconst 0, 1) := by decide +kernel
theorem dX3_init_6 : decode cX3_init 6 = .ok (.putfield 9, 3) := by decide +kernel
theorem dX3_init_9 : decode cX3_init 9 = .ok (.aload_n 0, 1) := by decide +kernel
theorem dX3_init_10 : decode cX3_init 10 = .ok (.iconst 0, 1) := by decide +kernel
theorem dX3_init_11 : decode cX3_init 11 = .ok (.putfield 15, 3) := by decide +kernel
theorem dX3_init_14 : decode cX3_init 14 = .ok (.aload_n 0, 1) := by decide +kernel
theorem dX3_init_15 : decode cX3_init 15 = .ok (.bipush 8, 2) := by decide +kernel
theorem dX3_init_17 : decode cX3_init 17 = .ok (.newarray .int, 2) := by decide +kernel
theorem dX3_init_19 : decode cX3_init 19 = .ok (.putfield 18, 3) := by decide +kernel
theorem dX3_init_22 : decode cX3_init 22 = .ok (.aload_n 0, 1) := by decide +kernel
theorem dX3_init_23 : decode cX3_init 23 = .ok (.bipush 8, 2) := by decide +kernel
theorem dX3_init_25 : decode cX3_init 25 = .ok (.newarray .int, 2) := by decide +kernel
theorem dX3_init_27 : decode cX3_init 27 = .ok (.putfield 22, 3) := by decide +kernel
theorem dX3_init_30 : decode cX3_init 30 = .ok (.return_, 1) := by decide +kernel
theorem dX3_copyFrom_0 : decode cX3_copyFrom 0 = .ok (.aload_n 0, 1) := by decide +kernel
theorem dX3_copyFrom_1 : decode cX3_copyFrom 1 = .ok (.aload_n 1, 1) := by decide +kernel
theorem dX3_copyFrom_2 : decode cX3_copyFrom 2 = .ok (.getfield 9, 3) := by decide +kernel
theorem dX3_copyFrom_5 : decode cX3_copyFrom 5 = .ok (.putfield 9, 3) := by decide +kernel
theorem dX3_copyFrom_8 : decode cX3_copyFrom 8 = .ok (.aload_n 0, 1) := by decide +kernel
theorem dX3_copyFrom_9 : decode cX3_copyFrom 9 = .ok (.aload_n 1, 1) := by decide +kernel
theorem dX3_copyFrom_10 : decode cX3_copyFrom 10 = .ok (.getfield 15, 3) := by decide +kernel
theorem dX3_copyFrom_13 : decode cX3_copyFrom 13 = .ok (.putfield 15, 3) := by decide +kernel
theorem dX3_copyFrom_16 : decode cX3_copyFrom 16 = .ok (.aload_n 1, 1) := by decide +kernel
theorem dX3_copyFrom_17 : decode cX3_copyFrom 17 = .ok (.getfield 18, 3) := by decide +kernel
theorem dX3_copyFrom_20 : decode cX3_copyFrom 20 = .ok (.iconst 0, 1) := by decide +kernel
theorem dX3_copyFrom_21 : decode cX3_copyFrom 21 = .ok (.aload_n 0, 1) := by decide +kernel
theorem dX3_copyFrom_22 : decode cX3_copyFrom 22 = .ok (.getfield 18, 3) := by decide +kernel
theorem dX3_copyFrom_25 : decode cX3_copyFrom 25 = .ok (.iconst 0, 1) := by decide +kernel
theorem dX3_copyFrom_26 : decode cX3_copyFrom 26 = .ok (.bipush 8, 2) := by decide +kernel
theorem dX3_copyFrom_28 : decode cX3_copyFrom 28 = .ok (.invokestatic 25, 3) := by decide +kernel
theorem dX3_copyFrom_31 : decode cX3_copyFrom 31 = .ok (.aload_n 1, 1) := by decide +kernel
theorem dX3_copyFrom_32 : decode cX3_copyFrom 32 = .ok (.getfield 22, 3) := by decide +kernel
theorem dX3_copyFrom_35 : decode cX3_copyFrom 35 = .ok (.iconst 0, 1) := by decide +kernel
theorem dX3_copyFrom_36 : decode cX3_copyFrom 36 = .ok (.aload_n 0, 1) := by decide +kernel
theorem dX3_copyFrom_37 : decode cX3_copyFrom 37 = .ok (.getfield 22, 3) := by decide +kernel
theorem dX3_copyFrom_40 : decode cX3_copyFrom 40 = .ok (.iconst 0, 1) := by decide +kernel
theorem dX3_copyFrom_41 : decode cX3_copyFrom 41 = .ok (.bipush 8, 2) := by decide +kernel
theorem dX3_copyFrom_43 : decode cX3_copyFrom 43 = .ok (.invokestatic 25, 3) := by decide +kernel
theorem dX3_copyFrom_46 : decode cX3_copyFrom 46 = .ok (.return_, 1) := by decide +kernel
theorem dX3_isOpen_0 : decode cX3_isOpen 0 = .ok (.aload_n 0, 1) := by decide +kernel
theorem dX3_isOpen_1 : decode cX3_isOpen 1 = .ok (.getfield 9, 3) := by decide +kernel
theorem dX3_isOpen_4 : decode cX3_isOpen 4 = .ok (.iload_n 1, 1) := by decide +kernel
theorem dX3_isOpen_5 : decode cX3_isOpen 5 = .ok (.ishr, 1) := by decide +kernel
theorem dX3_isOpen_6 : decode cX3_isOpen 6 = .ok (.iconst 1, 1) := by decide +kernel
theorem dX3_isOpen_7 : decode cX3_isOpen 7 = .ok (.iand, 1) := by decide +kernel
theorem dX3_isOpen_8 : decode cX3_isOpen 8 = .ok (.iconst 1, 1) := by decide +kernel
theorem dX3_isOpen_9 : decode cX3_isOpen 9 = .ok (.if_icmp .ne 7, 3) := by decide +kernel
theorem dX3_isOpen_12 : decode cX3_isOpen 12 = .ok (.iconst 1, 1) := by decide +kernel
theorem dX3_isOpen_13 : decode cX3_isOpen 13 = .ok (.goto 4, 3) := by decide +kernel
theorem dX3_isOpen_16 : decode cX3_isOpen 16 = .ok (.iconst 0, 1) := by decide +kernel
theorem dX3_isOpen_17 : decode cX3_isOpen 17 = .ok (.ireturn, 1) := by decide +kernel
theorem dX3_openMany_0 : decode cX3_openMany 0 = .ok (.aload_n 0, 1) := by decide +kernel
theorem dX3_openMany_1 : decode cX3_openMany 1 = .ok (.getfield 9, 3) := by decide +kernel
theorem dX3_openMany_4 : decode cX3_openMany 4 = .ok (.invokestatic 31, 3) := by decide +kernel
theorem dX3_openMany_7 : decode cX3_openMany 7 = .ok (.ireturn, 1) := by decide +kernel
theorem dX3_shutOne_0 : decode cX3_shutOne 0 = .ok (.aload_n 0, 1) := by decide +kernel
theorem dX3_shutOne_1 : decode cX3_shutOne 1 = .ok (.iload_n 1, 1) := by decide +kernel
theorem dX3_shutOne_2 : decode cX3_shutOne 2 = .ok (.invokevirtual 37, 3) := by decide +kernel
theorem dX3_shutOne_5 : decode cX3_shutOne 5 = .ok (.ifCond .eq 7, 3) := by decide +kernel
theorem dX3_shutOne_8 : decode cX3_shutOne 8 = .ok (.iconst 1, 1) := by decide +kernel
theorem dX3_shutOne_9 : decode cX3_shutOne 9 = .ok (.goto 4, 3) := by decide +kernel
theorem dX3_shutOne_12 : decode cX3_shutOne 12 = .ok (.iconst 0, 1) := by decide +kernel
theorem dX3_shutOne_13 : decode cX3_shutOne 13 = .ok (.istore_n 2, 1) := by decide +kernel
theorem dX3_shutOne_14 : decode cX3_shutOne 14 = .ok (.aload_n 0, 1) := by decide +kernel
theorem dX3_shutOne_15 : decode cX3_shutOne 15 = .ok (.dup, 1) := by decide +kernel
theorem dX3_shutOne_16 : decode cX3_shutOne 16 = .ok (.getfield 9, 3) := by decide +kernel
theorem dX3_shutOne_19 : decode cX3_shutOne 19 = .ok (.iconst 1, 1) := by decide +kernel
theorem dX3_shutOne_20 : decode cX3_shutOne 20 = .ok (.iload_n 1, 1) := by decide +kernel
theorem dX3_shutOne_21 : decode cX3_shutOne 21 = .ok (.ishl, 1) := by decide +kernel
theorem dX3_shutOne_22 : decode cX3_shutOne 22 = .ok (.iconst (-1), 1) := by decide +kernel
theorem dX3_shutOne_23 : decode cX3_shutOne 23 = .ok (.ixor, 1) := by decide +kernel
theorem dX3_shutOne_24 : decode cX3_shutOne 24 = .ok (.iand, 1) := by decide +kernel
theorem dX3_shutOne_25 : decode cX3_shutOne 25 = .ok (.putfield 9, 3) := by decide +kernel
theorem dX3_shutOne_28 : decode cX3_shutOne 28 = .ok (.iload_n 1, 1) := by decide +kernel
theorem dX3_shutOne_29 : decode cX3_shutOne 29 = .ok (.ifCond .lt 16, 3) := by decide +kernel
theorem dX3_shutOne_32 : decode cX3_shutOne 32 = .ok (.iload_n 1, 1) := by decide +kernel
theorem dX3_shutOne_33 : decode cX3_shutOne 33 = .ok (.bipush 8, 2) := by decide +kernel
theorem dX3_shutOne_35 : decode cX3_shutOne 35 = .ok (.if_icmp .ge 10, 3) := by decide +kernel
theorem dX3_shutOne_38 : decode cX3_shutOne 38 = .ok (.aload_n 0, 1) := by decide +kernel
theorem dX3_shutOne_39 : decode cX3_shutOne 39 = .ok (.getfield 22, 3) := by decide +kernel
theorem dX3_shutOne_42 : decode cX3_shutOne 42 = .ok (.iload_n 1, 1) := by decide +kernel
theorem dX3_shutOne_43 : decode cX3_shutOne 43 = .ok (.iconst 0, 1) := by decide +kernel
theorem dX3_shutOne_44 : decode cX3_shutOne 44 = .ok (.iastore, 1) := by decide +kernel
theorem dX3_shutOne_45 : decode cX3_shutOne 45 = .ok (.iload_n 2, 1) := by decide +kernel
theorem dX3_shutOne_46 : decode cX3_shutOne 46 = .ok (.ireturn, 1) := by decide +kernel
theorem dX3_openOne_0 : decode cX3_openOne 0 = .ok (.aload_n 0, 1) := by decide +kernel
theorem dX3_openOne_1 : decode cX3_openOne 1 = .ok (.dup, 1) := by decide +kernel
theorem dX3_openOne_2 : decode cX3_openOne 2 = .ok (.getfield 9, 3) := by decide +kernel
theorem dX3_openOne_5 : decode cX3_openOne 5 = .ok (.iconst 1, 1) := by decide +kernel
theorem dX3_openOne_6 : decode cX3_openOne 6 = .ok (.iload_n 1, 1) := by decide +kernel
theorem dX3_openOne_7 : decode cX3_openOne 7 = .ok (.ishl, 1) := by decide +kernel
theorem dX3_openOne_8 : decode cX3_openOne 8 = .ok (.ior, 1) := by decide +kernel
theorem dX3_openOne_9 : decode cX3_openOne 9 = .ok (.putfield 9, 3) := by decide +kernel
theorem dX3_openOne_12 : decode cX3_openOne 12 = .ok (.return_, 1) := by decide +kernel
theorem dX3_changeWant_0 : decode cX3_changeWant 0 = .ok (.iload_n 1, 1) := by decide +kernel
theorem dX3_changeWant_1 : decode cX3_changeWant 1 = .ok (.ifCond .lt 9, 3) := by decide +kernel
theorem dX3_changeWant_4 : decode cX3_changeWant 4 = .ok (.iload_n 1, 1) := by decide +kernel
theorem dX3_changeWant_5 : decode cX3_changeWant 5 = .ok (.bipush 8, 2) := by decide +kernel
theorem dX3_changeWant_7 : decode cX3_changeWant 7 = .ok (.if_icmp .lt 5, 3) := by decide +kernel
theorem dX3_changeWant_10 : decode cX3_changeWant 10 = .ok (.iconst (-1), 1) := by decide +kernel
theorem dX3_changeWant_11 : decode cX3_changeWant 11 = .ok (.ireturn, 1) := by decide +kernel
theorem dX3_changeWant_12 : decode cX3_changeWant 12 = .ok (.aload_n 0, 1) := by decide +kernel
theorem dX3_changeWant_13 : decode cX3_changeWant 13 = .ok (.getfield 18, 3) := by decide +kernel
theorem dX3_changeWant_16 : decode cX3_changeWant 16 = .ok (.iload_n 1, 1) := by decide +kernel
theorem dX3_changeWant_17 : decode cX3_changeWant 17 = .ok (.iaload, 1) := by decide +kernel
theorem dX3_changeWant_18 : decode cX3_changeWant 18 = .ok (.istore_n 3, 1) := by decide +kernel
theorem dX3_changeWant_19 : decode cX3_changeWant 19 = .ok (.aload_n 0, 1) := by decide +kernel
theorem dX3_changeWant_20 : decode cX3_changeWant 20 = .ok (.getfield 18, 3) := by decide +kernel
theorem dX3_changeWant_23 : decode cX3_changeWant 23 = .ok (.iload_n 1, 1) := by decide +kernel
theorem dX3_changeWant_24 : decode cX3_changeWant 24 = .ok (.iload_n 2, 1) := by decide +kernel
theorem dX3_changeWant_25 : decode cX3_changeWant 25 = .ok (.iastore, 1) := by decide +kernel
theorem dX3_changeWant_26 : decode cX3_changeWant 26 = .ok (.iload_n 3, 1) := by decide +kernel
theorem dX3_changeWant_27 : decode cX3_changeWant 27 = .ok (.ireturn, 1) := by decide +kernel
theorem dX4_init_0 : decode cX4_init 0 = .ok (.aload_n 0, 1) := by decide +kernel
theorem dX4_init_1 : decode cX4_init 1 = .ok (.invokespecial 3, 3) := by decide +kernel
theorem dX4_init_4 : decode cX4_init 4 = .ok (.aload_n 0, 1) := by decide +kernel
theorem dX4_init_5 : decode cX4_init 5 = .ok (.iconst 0, 1) := by decide +kernel
theorem dX4_init_6 : decode cX4_init 6 = .ok (.putfield 9, 3) := by decide +kernel
theorem dX4_init_9 : decode cX4_init 9 = .ok (.aload_n 0, 1) := by decide +kernel
theorem dX4_init_10 : decode cX4_init 10 = .ok (.iconst 0, 1) := by decide +kernel
theorem dX4_init_11 : decode cX4_init 11 = .ok (.putfield 15, 3) := by decide +kernel
theorem dX4_init_14 : decode cX4_init 14 = .ok (.aload_n 0, 1) := by decide +kernel
theorem dX4_init_15 : decode cX4_init 15 = .ok (.bipush 16, 2) := by decide +kernel
theorem dX4_init_17 : decode cX4_init 17 = .ok (.newarray .int, 2) := by decide +kernel
theorem dX4_init_19 : decode cX4_init 19 = .ok (.putfield 18, 3) := by decide +kernel
theorem dX4_init_22 : decode cX4_init 22 = .ok (.aload_n 0, 1) := by decide +kernel
theorem dX4_init_23 : decode cX4_init 23 = .ok (.bipush 16, 2) := by decide +kernel
theorem dX4_init_25 : decode cX4_init 25 = .ok (.anewarray 22, 3) := by decide +kernel
theorem dX4_init_28 : decode cX4_init 28 = .ok (.putfield 24, 3) := by decide +kernel
theorem dX4_init_31 : decode cX4_init 31 = .ok (.return_, 1) := by decide +kernel
theorem dX4_clear_0 : decode cX4_clear 0 = .ok (.aload_n 0, 1) := by decide +kernel
theorem dX4_clear_1 : decode cX4_clear 1 = .ok (.iconst 0, 1) := by decide +kernel
theorem dX4_clear_2 : decode cX4_clear 2 = .ok (.putfield 9, 3) := by decide +kernel
theorem dX4_clear_5 : decode cX4_clear 5 = .ok (.return_, 1) := by decide +kernel
theorem dX4_keep_0 : decode cX4_keep 0 = .ok (.aload_n 0, 1) := by decide +kernel
theorem dX4_keep_1 : decode cX4_keep 1 = .ok (.getfield 15, 3) := by decide +kernel
theorem dX4_keep_4 : decode cX4_keep 4 = .ok (.ifCond .lt 12, 3) := by decide +kernel
theorem dX4_keep_7 : decode cX4_keep 7 = .ok (.aload_n 0, 1) := by decide +kernel
theorem dX4_keep_8 : decode cX4_keep 8 = .ok (.getfield 15, 3) := by decide +kernel
theorem dX4_keep_11 : decode cX4_keep 11 = .ok (.bipush 16, 2) := by decide +kernel
theorem dX4_keep_13 : decode cX4_keep 13 = .ok (.if_icmp .lt 8, 3) := by decide +kernel
theorem dX4_keep_16 : decode cX4_keep 16 = .ok (.aload_n 0, 1) := by decide +kernel
theorem dX4_keep_17 : decode cX4_keep 17 = .ok (.iconst 0, 1) := by decide +kernel
theorem dX4_keep_18 : decode cX4_keep 18 = .ok (.putfield 15, 3) := by decide +kernel
theorem dX4_keep_21 : decode cX4_keep 21 = .ok (.aload_n 0, 1) := by decide +kernel
theorem dX4_keep_22 : decode cX4_keep 22 = .ok (.getfield 24, 3) := by decide +kernel
theorem dX4_keep_25 : decode cX4_keep 25 = .ok (.aload_n 0, 1) := by decide +kernel
theorem dX4_keep_26 : decode cX4_keep 26 = .ok (.getfield 15, 3) := by decide +kernel
theorem dX4_keep_29 : decode cX4_keep 29 = .ok (.aaload, 1) := by decide +kernel
theorem dX4_keep_30 : decode cX4_keep 30 = .ok (.astore_n 3, 1) := by decide +kernel
theorem dX4_keep_31 : decode cX4_keep 31 = .ok (.aload_n 3, 1) := by decide +kernel
theorem dX4_keep_32 : decode cX4_keep 32 = .ok (.ifnonnull 21, 3) := by decide +kernel
theorem dX4_keep_35 : decode cX4_keep 35 = .ok (.new 22, 3) := by decide +kernel
theorem dX4_keep_38 : decode cX4_keep 38 = .ok (.dup, 1) := by decide +kernel
theorem dX4_keep_39 : decode cX4_keep 39 = .ok (.invokespecial 28, 3) := by decide +kernel
theorem dX4_keep_42 : decode cX4_keep 42 = .ok (.astore_n 3, 1) := by decide +kernel
theorem dX4_keep_43 : decode cX4_keep 43 = .ok (.aload_n 0, 1) := by decide +kernel
theorem dX4_keep_44 : decode cX4_keep 44 = .ok (.getfield 24, 3) := by decide +kernel
theorem dX4_keep_47 : decode cX4_keep 47 = .ok (.aload_n 0, 1) := by decide +kernel
theorem dX4_keep_48 : decode cX4_keep 48 = .ok (.getfield 15, 3) := by decide +kernel
theorem dX4_keep_51 : decode cX4_keep 51 = .ok (.aload_n 3, 1) := by decide +kernel
theorem dX4_keep_52 : decode cX4_keep 52 = .ok (.aastore, 1) := by decide +kernel
theorem dX4_keep_53 : decode cX4_keep 53 = .ok (.aload_n 3, 1) := by decide +kernel
theorem dX4_keep_54 : decode cX4_keep 54 = .ok (.aload_n 2, 1) := by decide +kernel
theorem dX4_keep_55 : decode cX4_keep 55 = .ok (.invokevirtual 29, 3) := by decide +kernel
theorem dX4_keep_58 : decode cX4_keep 58 = .ok (.aload_n 0, 1) := by decide +kernel
theorem dX4_keep_59 : decode cX4_keep 59 = .ok (.getfield 18, 3) := by decide +kernel
theorem dX4_keep_62 : decode cX4_keep 62 = .ok (.aload_n 0, 1) := by decide +kernel
theorem dX4_keep_63 : decode cX4_keep 63 = .ok (.getfield 15, 3) := by decide +kernel
theorem dX4_keep_66 : decode cX4_keep 66 = .ok (.iload_n 1, 1) := by decide +kernel
theorem dX4_keep_67 : decode cX4_keep 67 = .ok (.iastore, 1) := by decide +kernel
theorem dX4_keep_68 : decode cX4_keep 68 = .ok (.aload_n 0, 1) := by decide +kernel
theorem dX4_keep_69 : decode cX4_keep 69 = .ok (.aload_n 0, 1) := by decide +kernel
theorem dX4_keep_70 : decode cX4_keep 70 = .ok (.getfield 15, 3) := by decide +kernel
theorem dX4_keep_73 : decode cX4_keep 73 = .ok (.iconst 1, 1) := by decide +kernel
theorem dX4_keep_74 : decode cX4_keep 74 = .ok (.iadd, 1) := by decide +kernel
theorem dX4_keep_75 : decode cX4_keep 75 = .ok (.bipush 16, 2) := by decide +kernel
theorem dX4_keep_77 : decode cX4_keep 77 = .ok (.irem, 1) := by decide +kernel
theorem dX4_keep_78 : decode cX4_keep 78 = .ok (.putfield 15, 3) := by decide +kernel
theorem dX4_keep_81 : decode cX4_keep 81 = .ok (.aload_n 0, 1) := by decide +kernel
theorem dX4_keep_82 : decode cX4_keep 82 = .ok (.aload_n 0, 1) := by decide +kernel
theorem dX4_keep_83 : decode cX4_keep 83 = .ok (.getfield 9, 3) := by decide +kernel
theorem dX4_keep_86 : decode cX4_keep 86 = .ok (.iconst 1, 1) := by decide +kernel
theorem dX4_keep_87 : decode cX4_keep 87 = .ok (.iadd, 1) := by decide +kernel
theorem dX4_keep_88 : decode cX4_keep 88 = .ok (.bipush 16, 2) := by decide +kernel
theorem dX4_keep_90 : decode cX4_keep 90 = .ok (.invokestatic 33, 3) := by decide +kernel
theorem dX4_keep_93 : decode cX4_keep 93 = .ok (.putfield 9, 3) := by decide +kernel
theorem dX4_keep_96 : decode cX4_keep 96 = .ok (.return_, 1) := by decide +kernel
theorem dX4_takeBack_0 : decode cX4_takeBack 0 = .ok (.aload_n 0, 1) := by decide +kernel
theorem dX4_takeBack_1 : decode cX4_takeBack 1 = .ok (.getfield 15, 3) := by decide +kernel
theorem dX4_takeBack_4 : decode cX4_takeBack 4 = .ok (.bipush 16, 2) := by decide +kernel
theorem dX4_takeBack_6 : decode cX4_takeBack 6 = .ok (.iadd, 1) := by decide +kernel
theorem dX4_takeBack_7 : decode cX4_takeBack 7 = .ok (.iconst 1, 1) := by decide +kernel
theorem dX4_takeBack_8 : decode cX4_takeBack 8 = .ok (.isub, 1) := by decide +kernel
theorem dX4_takeBack_9 : decode cX4_takeBack 9 = .ok (.bipush 16, 2) := by decide +kernel
theorem dX4_takeBack_11 : decode cX4_takeBack 11 = .ok (.irem, 1) := by decide +kernel
theorem dX4_takeBack_12 : decode cX4_takeBack 12 = .ok (.istore_n 2, 1) := by decide +kernel
theorem dX4_takeBack_13 : decode cX4_takeBack 13 = .ok (.aload_n 0, 1) := by decide +kernel
theorem dX4_takeBack_14 : decode cX4_takeBack 14 = .ok (.getfield 9, 3) := by decide +kernel
theorem dX4_takeBack_17 : decode cX4_takeBack 17 = .ok (.ifCond .eq 16, 3) := by decide +kernel
theorem dX4_takeBack_20 : decode cX4_takeBack 20 = .ok (.iload_n 2, 1) := by decide +kernel
theorem dX4_takeBack_21 : decode cX4_takeBack 21 = .ok (.ifCond .lt 12, 3) := by decide +kernel
theorem dX4_takeBack_24 : decode cX4_takeBack 24 = .ok (.aload_n 0, 1) := by decide +kernel
theorem dX4_takeBack_25 : decode cX4_takeBack 25 = .ok (.getfield 24, 3) := by decide +kernel
theorem dX4_takeBack_28 : decode cX4_takeBack 28 = .ok (.iload_n 2, 1) := by decide +kernel
theorem dX4_takeBack_29 : decode cX4_takeBack 29 = .ok (.aaload, 1) := by decide +kernel
theorem dX4_takeBack_30 : decode cX4_takeBack 30 = .ok (.ifnonnull 5, 3) := by decide +kernel
theorem dX4_takeBack_33 : decode cX4_takeBack 33 = .ok (.iconst (-1), 1) := by decide +kernel
theorem dX4_takeBack_34 : decode cX4_takeBack 34 = .ok (.ireturn, 1) := by decide +kernel
theorem dX4_takeBack_35 : decode cX4_takeBack 35 = .ok (.aload_n 1, 1) := by decide +kernel
theorem dX4_takeBack_36 : decode cX4_takeBack 36 = .ok (.aload_n 0, 1) := by decide +kernel
theorem dX4_takeBack_37 : decode cX4_takeBack 37 = .ok (.getfield 24, 3) := by decide +kernel
theorem dX4_takeBack_40 : decode cX4_takeBack 40 = .ok (.iload_n 2, 1) := by decide +kernel
theorem dX4_takeBack_41 : decode cX4_takeBack 41 = .ok (.aaload, 1) := by decide +kernel
theorem dX4_takeBack_42 : decode cX4_takeBack 42 = .ok (.invokevirtual 29, 3) := by decide +kernel
theorem dX4_takeBack_45 : decode cX4_takeBack 45 = .ok (.aload_n 0, 1) := by decide +kernel
theorem dX4_takeBack_46 : decode cX4_takeBack 46 = .ok (.iload_n 2, 1) := by decide +kernel
theorem dX4_takeBack_47 : decode cX4_takeBack 47 = .ok (.putfield 15, 3) := by decide +kernel
theorem dX4_takeBack_50 : decode cX4_takeBack 50 = .ok (.aload_n 0, 1) := by decide +kernel
theorem dX4_takeBack_51 : decode cX4_takeBack 51 = .ok (.dup, 1) := by decide +kernel
theorem dX4_takeBack_52 : decode cX4_takeBack 52 = .ok (.getfield 9, 3) := by decide +kernel
theorem dX4_takeBack_55 : decode cX4_takeBack 55 = .ok (.iconst 1, 1) := by decide +kernel
theorem dX4_takeBack_56 : decode cX4_takeBack 56 = .ok (.isub, 1) := by decide +kernel
theorem dX4_takeBack_57 : decode cX4_takeBack 57 = .ok (.putfield 9, 3) := by decide +kernel
theorem dX4_takeBack_60 : decode cX4_takeBack 60 = .ok (.aload_n 0, 1) := by decide +kernel
theorem dX4_takeBack_61 : decode cX4_takeBack 61 = .ok (.getfield 18, 3) := by decide +kernel
theorem dX4_takeBack_64 : decode cX4_takeBack 64 = .ok (.iload_n 2, 1) := by decide +kernel
theorem dX4_takeBack_65 : decode cX4_takeBack 65 = .ok (.iaload, 1) := by decide +kernel
theorem dX4_takeBack_66 : decode cX4_takeBack 66 = .ok (.ireturn, 1) := by decide +kernel
theorem dX5_init_0 : decode cX5_init 0 = .ok (.aload_n 0, 1) := by decide +kernel
theorem dX5_init_1 : decode cX5_init 1 = .ok (.invokespecial 3, 3) := by decide +kernel
theorem dX5_init_4 : decode cX5_init 4 = .ok (.aload_n 0, 1) := by decide +kernel
theorem dX5_init_5 : decode cX5_init 5 = .ok (.bipush 8, 2) := by decide +kernel
theorem dX5_init_7 : decode cX5_init 7 = .ok (.newarray .int, 2) := by decide +kernel
theorem dX5_init_9 : decode cX5_init 9 = .ok (.putfield 9, 3) := by decide +kernel
theorem dX5_init_12 : decode cX5_init 12 = .ok (.aload_n 0, 1) := by decide +kernel
theorem dX5_init_13 : decode cX5_init 13 = .ok (.bipush 8, 2) := by decide +kernel
theorem dX5_init_15 : decode cX5_init 15 = .ok (.newarray .int, 2) := by decide +kernel
theorem dX5_init_17 : decode cX5_init 17 = .ok (.putfield 15, 3) := by decide +kernel
theorem dX5_init_20 : decode cX5_init 20 = .ok (.return_, 1) := by decide +kernel
theorem dX5_measure_0 : decode cX5_measure 0 = .ok (.iconst 1, 1) := by decide +kernel
theorem dX5_measure_1 : decode cX5_measure 1 = .ok (.iload_n 3, 1) := by decide +kernel
theorem dX5_measure_2 : decode cX5_measure 2 = .ok (.ishl, 1) := by decide +kernel
theorem dX5_measure_3 : decode cX5_measure 3 = .ok (.istore 4, 2) := by decide +kernel
theorem dX5_measure_5 : decode cX5_measure 5 = .ok (.iload 4, 2) := by decide +kernel
theorem dX5_measure_7 : decode cX5_measure 7 = .ok (.istore 5, 2) := by decide +kernel
theorem dX5_measure_9 : decode cX5_measure 9 = .ok (.iconst 0, 1) := by decide +kernel
theorem dX5_measure_10 : decode cX5_measure 10 = .ok (.istore 6, 2) := by decide +kernel
theorem dX5_measure_12 : decode cX5_measure 12 = .ok (.iload 6, 2) := by decide +kernel
theorem dX5_measure_14 : decode cX5_measure 14 = .ok (.bipush 8, 2) := by decide +kernel
theorem dX5_measure_16 : decode cX5_measure 16 = .ok (.if_icmp .ge 51, 3) := by decide +kernel
theorem dX5_measure_19 : decode cX5_measure 19 = .ok (.aload_n 0, 1) := by decide +kernel
theorem dX5_measure_20 : decode cX5_measure 20 = .ok (.getfield 9, 3) := by decide +kernel
theorem dX5_measure_23 : decode cX5_measure 23 = .ok (.iload 6, 2) := by decide +kernel
theorem dX5_measure_25 : decode cX5_measure 25 = .ok (.iload 4, 2) := by decide +kernel
theorem dX5_measure_27 : decode cX5_measure 27 = .ok (.iastore, 1) := by decide +kernel
theorem dX5_measure_28 : decode cX5_measure 28 = .ok (.iload 4, 2) := by decide +kernel
theorem dX5_measure_30 : decode cX5_measure 30 = .ok (.iload_n 2, 1) := by decide +kernel
theorem dX5_measure_31 : decode cX5_measure 31 = .ok (.ishr, 1) := by decide +kernel
theorem dX5_measure_32 : decode cX5_measure 32 = .ok (.iconst 1, 1) := by decide +kernel
theorem dX5_measure_33 : decode cX5_measure 33 = .ok (.iand, 1) := by decide +kernel
theorem dX5_measure_34 : decode cX5_measure 34 = .ok (.iconst 1, 1) := by decide +kernel
theorem dX5_measure_35 : decode cX5_measure 35 = .ok (.if_icmp .ne 6, 3) := by decide +kernel
theorem dX5_measure_38 : decode cX5_measure 38 = .ok (.iload 6, 2) := by decide +kernel
theorem dX5_measure_40 : decode cX5_measure 40 = .ok (.ireturn, 1) := by decide +kernel
theorem dX5_measure_41 : decode cX5_measure 41 = .ok (.aload_n 1, 1) := by decide +kernel
theorem dX5_measure_42 : decode cX5_measure 42 = .ok (.iload 4, 2) := by decide +kernel
theorem dX5_measure_44 : decode cX5_measure 44 = .ok (.invokestatic 18, 3) := by decide +kernel
theorem dX5_measure_47 : decode cX5_measure 47 = .ok (.iload 5, 2) := by decide +kernel
theorem dX5_measure_49 : decode cX5_measure 49 = .ok (.iconst (-1), 1) := by decide +kernel
theorem dX5_measure_50 : decode cX5_measure 50 = .ok (.ixor, 1) := by decide +kernel
theorem dX5_measure_51 : decode cX5_measure 51 = .ok (.iand, 1) := by decide +kernel
theorem dX5_measure_52 : decode cX5_measure 52 = .ok (.istore 4, 2) := by decide +kernel
theorem dX5_measure_54 : decode cX5_measure 54 = .ok (.iload 5, 2) := by decide +kernel
theorem dX5_measure_56 : decode cX5_measure 56 = .ok (.iload 4, 2) := by decide +kernel
theorem dX5_measure_58 : decode cX5_measure 58 = .ok (.ior, 1) := by decide +kernel
theorem dX5_measure_59 : decode cX5_measure 59 = .ok (.istore 5, 2) := by decide +kernel
theorem dX5_measure_61 : decode cX5_measure 61 = .ok (.iinc 6 1, 3) := by decide +kernel
theorem dX5_measure_64 : decode cX5_measure 64 = .ok (.goto (-52), 3) := by decide +kernel
theorem dX5_measure_67 : decode cX5_measure 67 = .ok (.iconst (-1), 1) := by decide +kernel
theorem dX5_measure_68 : decode cX5_measure 68 = .ok (.ireturn, 1) := by decide +kernel
theorem dX5_member_0 : decode cX5_member 0 = .ok (.iload 4, 2) := by decide +kernel
theorem dX5_member_2 : decode cX5_member 2 = .ok (.ifCond .lt 15, 3) := by decide +kernel
theorem dX5_member_5 : decode cX5_member 5 = .ok (.iload 4, 2) := by decide +kernel
theorem dX5_member_7 : decode cX5_member 7 = .ok (.iload_n 3, 1) := by decide +kernel
theorem dX5_member_8 : decode cX5_member 8 = .ok (.if_icmp .ge 9, 3) := by decide +kernel
theorem dX5_member_11 : decode cX5_member 11 = .ok (.iload_n 3, 1) := by decide +kernel
theorem dX5_member_12 : decode cX5_member 12 = .ok (.bipush 8, 2) := by decide +kernel
theorem dX5_member_14 : decode cX5_member 14 = .ok (.if_icmp .le 5, 3) := by decide +kernel
theorem dX5_member_17 : decode cX5_member 17 = .ok (.iconst (-1), 1) := by decide +kernel
theorem dX5_member_18 : decode cX5_member 18 = .ok (.ireturn, 1) := by decide +kernel
theorem dX5_member_19 : decode cX5_member 19 = .ok (.iload_n 2, 1) := by decide +kernel
theorem dX5_member_20 : decode cX5_member 20 = .ok (.istore 5, 2) := by decide +kernel
theorem dX5_member_22 : decode cX5_member 22 = .ok (.iconst 0, 1) := by decide +kernel
theorem dX5_member_23 : decode cX5_member 23 = .ok (.istore 6, 2) := by decide +kernel
theorem dX5_member_25 : decode cX5_member 25 = .ok (.iload 6, 2) := by decide +kernel
theorem dX5_member_27 : decode cX5_member 27 = .ok (.iload 4, 2) := by decide +kernel
theorem dX5_member_29 : decode cX5_member 29 = .ok (.if_icmp .gt 28, 3) := by decide +kernel
theorem dX5_member_32 : decode cX5_member 32 = .ok (.aload_n 1, 1) := by decide +kernel
theorem dX5_member_33 : decode cX5_member 33 = .ok (.aload_n 0, 1) := by decide +kernel
theorem dX5_member_34 : decode cX5_member 34 = .ok (.getfield 9, 3) := by decide +kernel
theorem dX5_member_37 : decode cX5_member 37 = .ok (.iload_n 3, 1) := by decide +kernel
theorem dX5_member_38 : decode cX5_member 38 = .ok (.iconst 1, 1) := by decide +kernel
theorem dX5_member_39 : decode cX5_member 39 = .ok (.isub, 1) := by decide +kernel
theorem dX5_member_40 : decode cX5_member 40 = .ok (.iload 6, 2) := by decide +kernel
theorem dX5_member_42 : decode cX5_member 42 = .ok (.isub, 1) := by decide +kernel
theorem dX5_member_43 : decode cX5_member 43 = .ok (.iaload, 1) := by decide +kernel
theorem dX5_member_44 : decode cX5_member 44 = .ok (.iload 5, 2) := by decide +kernel
theorem dX5_member_46 : decode cX5_member 46 = .ok (.invokestatic 22, 3) := by decide +kernel
theorem dX5_member_49 : decode cX5_member 49 = .ok (.istore 5, 2) := by decide +kernel
theorem dX5_member_51 : decode cX5_member 51 = .ok (.iinc 6 1, 3) := by decide +kernel
theorem dX5_member_54 : decode cX5_member 54 = .ok (.goto (-29), 3) := by decide +kernel
theorem dX5_member_57 : decode cX5_member 57 = .ok (.iload 5, 2) := by decide +kernel
theorem dX5_member_59 : decode cX5_member 59 = .ok (.ireturn, 1) := by decide +kernel
theorem dX5_watchedBy_0 : decode cX5_watchedBy 0 = .ok (.iconst 0, 1) := by decide +kernel
theorem dX5_watchedBy_1 : decode cX5_watchedBy 1 = .ok (.istore_n 2, 1) := by decide +kernel
theorem dX5_watchedBy_2 : decode cX5_watchedBy 2 = .ok (.iconst 0, 1) := by decide +kernel
theorem dX5_watchedBy_3 : decode cX5_watchedBy 3 = .ok (.istore_n 3, 1) := by decide +kernel
theorem dX5_watchedBy_4 : decode cX5_watchedBy 4 = .ok (.iload_n 3, 1) := by decide +kernel
theorem dX5_watchedBy_5 : decode cX5_watchedBy 5 = .ok (.bipush 8, 2) := by decide +kernel
theorem dX5_watchedBy_7 : decode cX5_watchedBy 7 = .ok (.if_icmp .ge 27, 3) := by decide +kernel
theorem dX5_watchedBy_10 : decode cX5_watchedBy 10 = .ok (.iload_n 1, 1) := by decide +kernel
theorem dX5_watchedBy_11 : decode cX5_watchedBy 11 = .ok (.iload_n 3, 1) := by decide +kernel
theorem dX5_watchedBy_12 : decode cX5_watchedBy 12 = .ok (.ishr, 1) := by decide +kernel
theorem dX5_watchedBy_13 : decode cX5_watchedBy 13 = .ok (.iconst 1, 1) := by decide +kernel
theorem dX5_watchedBy_14 : decode cX5_watchedBy 14 = .ok (.iand, 1) := by decide +kernel
theorem dX5_watchedBy_15 : decode cX5_watchedBy 15 = .ok (.iconst 1, 1) := by decide +kernel
theorem dX5_watchedBy_16 : decode cX5_watchedBy 16 = .ok (.if_icmp .ne 12, 3) := by decide +kernel
theorem dX5_watchedBy_19 : decode cX5_watchedBy 19 = .ok (.iload_n 2, 1) := by decide +kernel
theorem dX5_watchedBy_20 : decode cX5_watchedBy 20 = .ok (.aload_n 0, 1) := by decide +kernel
theorem dX5_watchedBy_21 : decode cX5_watchedBy 21 = .ok (.getfield 26, 3) := by decide +kernel
theorem dX5_watchedBy_24 : decode cX5_watchedBy 24 = .ok (.iload_n 3, 1) := by decide +kernel
theorem dX5_watchedBy_25 : decode cX5_watchedBy 25 = .ok (.iaload, 1) := by decide +kernel
theorem dX5_watchedBy_26 : decode cX5_watchedBy 26 = .ok (.ior, 1) := by decide +kernel
theorem dX5_watchedBy_27 : decode cX5_watchedBy 27 = .ok (.istore_n 2, 1) := by decide +kernel
theorem dX5_watchedBy_28 : decode cX5_watchedBy 28 = .ok (.iinc 3 1, 3) := by decide +kernel
theorem dX5_watchedBy_31 : decode cX5_watchedBy 31 = .ok (.goto (-27), 3) := by decide +kernel
theorem dX5_watchedBy_34 : decode cX5_watchedBy 34 = .ok (.iload_n 2, 1) := by decide +kernel
theorem dX5_watchedBy_35 : decode cX5_watchedBy 35 = .ok (.ireturn, 1) := by decide +kernel
theorem dX5_lowestWatcher_0 : decode cX5_lowestWatcher 0 = .ok (.iconst 0, 1) := by decide +kernel
theorem dX5_lowestWatcher_1 : decode cX5_lowestWatcher 1 = .ok (.istore_n 3, 1) := by decide +kernel
theorem dX5_lowestWatcher_2 : decode cX5_lowestWatcher 2 = .ok (.iload_n 3, 1) := by decide +kernel
theorem dX5_lowestWatcher_3 : decode cX5_lowestWatcher 3 = .ok (.bipush 8, 2) := by decide +kernel
theorem dX5_lowestWatcher_5 : decode cX5_lowestWatcher 5 = .ok (.if_icmp .ge 34, 3) := by decide +kernel
theorem dX5_lowestWatcher_8 : decode cX5_lowestWatcher 8 = .ok (.iload_n 1, 1) := by decide +kernel
theorem dX5_lowestWatcher_9 : decode cX5_lowestWatcher 9 = .ok (.iload_n 3, 1) := by decide +kernel
theorem dX5_lowestWatcher_10 : decode cX5_lowestWatcher 10 = .ok (.ishr, 1) := by decide +kernel
theorem dX5_lowestWatcher_11 : decode cX5_lowestWatcher 11 = .ok (.iconst 1, 1) := by decide +kernel
theorem dX5_lowestWatcher_12 : decode cX5_lowestWatcher 12 = .ok (.iand, 1) := by decide +kernel
theorem dX5_lowestWatcher_13 : decode cX5_lowestWatcher 13 = .ok (.iconst 1, 1) := by decide +kernel
theorem dX5_lowestWatcher_14 : decode cX5_lowestWatcher 14 = .ok (.if_icmp .ne 19, 3) := by decide +kernel
theorem dX5_lowestWatcher_17 : decode cX5_lowestWatcher 17 = .ok (.aload_n 0, 1) := by decide +kernel
theorem dX5_lowestWatcher_18 : decode cX5_lowestWatcher 18 = .ok (.getfield 26, 3) := by decide +kernel
theorem dX5_lowestWatcher_21 : decode cX5_lowestWatcher 21 = .ok (.iload_n 3, 1) := by decide +kernel
theorem dX5_lowestWatcher_22 : decode cX5_lowestWatcher 22 = .ok (.iaload, 1) := by decide +kernel
theorem dX5_lowestWatcher_23 : decode cX5_lowestWatcher 23 = .ok (.iload_n 2, 1) := by decide +kernel
theorem dX5_lowestWatcher_24 : decode cX5_lowestWatcher 24 = .ok (.ishr, 1) := by decide +kernel
theorem dX5_lowestWatcher_25 : decode cX5_lowestWatcher 25 = .ok (.iconst 1, 1) := by decide +kernel
theorem dX5_lowestWatcher_26 : decode cX5_lowestWatcher 26 = .ok (.iand, 1) := by decide +kernel
theorem dX5_lowestWatcher_27 : decode cX5_lowestWatcher 27 = .ok (.iconst 1, 1) := by decide +kernel
theorem dX5_lowestWatcher_28 : decode cX5_lowestWatcher 28 = .ok (.if_icmp .ne 5, 3) := by decide +kernel
theorem dX5_lowestWatcher_31 : decode cX5_lowestWatcher 31 = .ok (.iload_n 3, 1) := by decide +kernel
theorem dX5_lowestWatcher_32 : decode cX5_lowestWatcher 32 = .ok (.ireturn, 1) := by decide +kernel
theorem dX5_lowestWatcher_33 : decode cX5_lowestWatcher 33 = .ok (.iinc 3 1, 3) := by decide +kernel
theorem dX5_lowestWatcher_36 : decode cX5_lowestWatcher 36 = .ok (.goto (-34), 3) := by decide +kernel
theorem dX5_lowestWatcher_39 : decode cX5_lowestWatcher 39 = .ok (.iconst (-1), 1) := by decide +kernel
theorem dX5_lowestWatcher_40 : decode cX5_lowestWatcher 40 = .ok (.ireturn, 1) := by decide +kernel
theorem dX5_findSources_0 : decode cX5_findSources 0 = .ok (.iconst 0, 1) := by decide +kernel
theorem dX5_findSources_1 : decode cX5_findSources 1 = .ok (.istore_n 2, 1) := by decide +kernel
theorem dX5_findSources_2 : decode cX5_findSources 2 = .ok (.iload_n 2, 1) := by decide +kernel
theorem dX5_findSources_3 : decode cX5_findSources 3 = .ok (.bipush 8, 2) := by decide +kernel
theorem dX5_findSources_5 : decode cX5_findSources 5 = .ok (.if_icmp .ge 44, 3) := by decide +kernel
theorem dX5_findSources_8 : decode cX5_findSources 8 = .ok (.iconst 1, 1) := by decide +kernel
theorem dX5_findSources_9 : decode cX5_findSources 9 = .ok (.iload_n 2, 1) := by decide +kernel
theorem dX5_findSources_10 : decode cX5_findSources 10 = .ok (.ishl, 1) := by decide +kernel
theorem dX5_findSources_11 : decode cX5_findSources 11 = .ok (.istore_n 3, 1) := by decide +kernel
theorem dX5_findSources_12 : decode cX5_findSources 12 = .ok (.iconst 0, 1) := by decide +kernel
theorem dX5_findSources_13 : decode cX5_findSources 13 = .ok (.istore 4, 2) := by decide +kernel
theorem dX5_findSources_15 : decode cX5_findSources 15 = .ok (.iload 4, 2) := by decide +kernel
theorem dX5_findSources_17 : decode cX5_findSources 17 = .ok (.bipush 8, 2) := by decide +kernel
theorem dX5_findSources_19 : decode cX5_findSources 19 = .ok (.if_icmp .ge 17, 3) := by decide +kernel
theorem dX5_findSources_22 : decode cX5_findSources 22 = .ok (.iload_n 3, 1) := by decide +kernel
theorem dX5_findSources_23 : decode cX5_findSources 23 = .ok (.aload_n 1, 1) := by decide +kernel
theorem dX5_findSources_24 : decode cX5_findSources 24 = .ok (.iload_n 3, 1) := by decide +kernel
theorem dX5_findSources_25 : decode cX5_findSources 25 = .ok (.invokestatic 18, 3) := by decide +kernel
theorem dX5_findSources_28 : decode cX5_findSources 28 = .ok (.ior, 1) := by decide +kernel
theorem dX5_findSources_29 : decode cX5_findSources 29 = .ok (.istore_n 3, 1) := by decide +kernel
theorem dX5_findSources_30 : decode cX5_findSources 30 = .ok (.iinc 4 1, 3) := by decide +kernel
theorem dX5_findSources_33 : decode cX5_findSources 33 = .ok (.goto (-18), 3) := by decide +kernel
theorem dX5_findSources_36 : decode cX5_findSources 36 = .ok (.aload_n 0, 1) := by decide +kernel
theorem dX5_findSources_37 : decode cX5_findSources 37 = .ok (.getfield 15, 3) := by decide +kernel
theorem dX5_findSources_40 : decode cX5_findSources 40 = .ok (.iload_n 2, 1) := by decide +kernel
theorem dX5_findSources_41 : decode cX5_findSources 41 = .ok (.iload_n 3, 1) := by decide +kernel
theorem dX5_findSources_42 : decode cX5_findSources 42 = .ok (.iastore, 1) := by decide +kernel
theorem dX5_findSources_43 : decode cX5_findSources 43 = .ok (.iinc 2 1, 3) := by decide +kernel
theorem dX5_findSources_46 : decode cX5_findSources 46 = .ok (.goto (-44), 3) := by decide +kernel
theorem dX5_findSources_49 : decode cX5_findSources 49 = .ok (.return_, 1) := by decide +kernel
theorem dX5_knotOf_0 : decode cX5_knotOf 0 = .ok (.iconst 0, 1) := by decide +kernel
theorem dX5_knotOf_1 : decode cX5_knotOf 1 = .ok (.istore_n 2, 1) := by decide +kernel
theorem dX5_knotOf_2 : decode cX5_knotOf 2 = .ok (.iconst 0, 1) := by decide +kernel
theorem dX5_knotOf_3 : decode cX5_knotOf 3 = .ok (.istore_n 3, 1) := by decide +kernel
theorem dX5_knotOf_4 : decode cX5_knotOf 4 = .ok (.iload_n 3, 1) := by decide +kernel
theorem dX5_knotOf_5 : decode cX5_knotOf 5 = .ok (.bipush 8, 2) := by decide +kernel
theorem dX5_knotOf_7 : decode cX5_knotOf 7 = .ok (.if_icmp .ge 53, 3) := by decide +kernel
theorem dX5_knotOf_10 : decode cX5_knotOf 10 = .ok (.iload_n 1, 1) := by decide +kernel
theorem dX5_knotOf_11 : decode cX5_knotOf 11 = .ok (.ifCond .lt 43, 3) := by decide +kernel
theorem dX5_knotOf_14 : decode cX5_knotOf 14 = .ok (.iload_n 1, 1) := by decide +kernel
theorem dX5_knotOf_15 : decode cX5_knotOf 15 = .ok (.bipush 8, 2) := by decide +kernel
theorem dX5_knotOf_17 : decode cX5_knotOf 17 = .ok (.if_icmp .ge 37, 3) := by decide +kernel
theorem dX5_knotOf_20 : decode cX5_knotOf 20 = .ok (.aload_n 0, 1) := by decide +kernel
theorem dX5_knotOf_21 : decode cX5_knotOf 21 = .ok (.getfield 15, 3) := by decide +kernel
theorem dX5_knotOf_24 : decode cX5_knotOf 24 = .ok (.iload_n 1, 1) := by decide +kernel
theorem dX5_knotOf_25 : decode cX5_knotOf 25 = .ok (.iaload, 1) := by decide +kernel
theorem dX5_knotOf_26 : decode cX5_knotOf 26 = .ok (.iload_n 3, 1) := by decide +kernel
theorem dX5_knotOf_27 : decode cX5_knotOf 27 = .ok (.ishr, 1) := by decide +kernel
theorem dX5_knotOf_28 : decode cX5_knotOf 28 = .ok (.iconst 1, 1) := by decide +kernel
theorem dX5_knotOf_29 : decode cX5_knotOf 29 = .ok (.iand, 1) := by decide +kernel
theorem dX5_knotOf_30 : decode cX5_knotOf 30 = .ok (.iconst 1, 1) := by decide +kernel
theorem dX5_knotOf_31 : decode cX5_knotOf 31 = .ok (.if_icmp .ne 23, 3) := by decide +kernel
theorem dX5_knotOf_34 : decode cX5_knotOf 34 = .ok (.aload_n 0, 1) := by decide +kernel
theorem dX5_knotOf_35 : decode cX5_knotOf 35 = .ok (.getfield 15, 3) := by decide +kernel
theorem dX5_knotOf_38 : decode cX5_knotOf 38 = .ok (.iload_n 3, 1) := by decide +kernel
theorem dX5_knotOf_39 : decode cX5_knotOf 39 = .ok (.iaload, 1) := by decide +kernel
theorem dX5_knotOf_40 : decode cX5_knotOf 40 = .ok (.iload_n 1, 1) := by decide +kernel
theorem dX5_knotOf_41 : decode cX5_knotOf 41 = .ok (.ishr, 1) := by decide +kernel
theorem dX5_knotOf_42 : decode cX5_knotOf 42 = .ok (.iconst 1, 1) := by decide +kernel
theorem dX5_knotOf_43 : decode cX5_knotOf 43 = .ok (.iand, 1) := by decide +kernel
theorem dX5_knotOf_44 : decode cX5_knotOf 44 = .ok (.iconst 1, 1) := by decide +kernel
theorem dX5_knotOf_45 : decode cX5_knotOf 45 = .ok (.if_icmp .ne 9, 3) := by decide +kernel
theorem dX5_knotOf_48 : decode cX5_knotOf 48 = .ok (.iload_n 2, 1) := by decide +kernel
theorem dX5_knotOf_49 : decode cX5_knotOf 49 = .ok (.iconst 1, 1) := by decide +kernel
theorem dX5_knotOf_50 : decode cX5_knotOf 50 = .ok (.iload_n 3, 1) := by decide +kernel
theorem dX5_knotOf_51 : decode cX5_knotOf 51 = .ok (.ishl, 1) := by decide +kernel
theorem dX5_knotOf_52 : decode cX5_knotOf 52 = .ok (.ior, 1) := by decide +kernel
theorem dX5_knotOf_53 : decode cX5_knotOf 53 = .ok (.istore_n 2, 1) := by decide +kernel
theorem dX5_knotOf_54 : decode cX5_knotOf 54 = .ok (.iinc 3 1, 3) := by decide +kernel
theorem dX5_knotOf_57 : decode cX5_knotOf 57 = .ok (.goto (-53), 3) := by decide +kernel
theorem dX5_knotOf_60 : decode cX5_knotOf 60 = .ok (.iload_n 2, 1) := by decide +kernel
theorem dX5_knotOf_61 : decode cX5_knotOf 61 = .ok (.ireturn, 1) := by decide +kernel
theorem dX5_lowestOfKnots_0 : decode cX5_lowestOfKnots 0 = .ok (.aload_n 0, 1) := by decide +kernel
theorem dX5_lowestOfKnots_1 : decode cX5_lowestOfKnots 1 = .ok (.aload_n 1, 1) := by decide +kernel
theorem dX5_lowestOfKnots_2 : decode cX5_lowestOfKnots 2 = .ok (.invokevirtual 31, 3) := by decide +kernel
theorem dX5_lowestOfKnots_5 : decode cX5_lowestOfKnots 5 = .ok (.iconst 0, 1) := by decide +kernel
theorem dX5_lowestOfKnots_6 : decode cX5_lowestOfKnots 6 = .ok (.istore_n 2, 1) := by decide +kernel
theorem dX5_lowestOfKnots_7 : decode cX5_lowestOfKnots 7 = .ok (.iconst 0, 1) := by decide +kernel
theorem dX5_lowestOfKnots_8 : decode cX5_lowestOfKnots 8 = .ok (.istore_n 3, 1) := by decide +kernel
theorem dX5_lowestOfKnots_9 : decode cX5_lowestOfKnots 9 = .ok (.iload_n 3, 1) := by decide +kernel
theorem dX5_lowestOfKnots_10 : decode cX5_lowestOfKnots 10 = .ok (.aload_n 1, 1) := by decide +kernel
theorem dX5_lowestOfKnots_11 : decode cX5_lowestOfKnots 11 = .ok (.getfield 35, 3) := by decide +kernel
theorem dX5_lowestOfKnots_14 : decode cX5_lowestOfKnots 14 = .ok (.if_icmp .ge 35, 3) := by decide +kernel
theorem dX5_lowestOfKnots_17 : decode cX5_lowestOfKnots 17 = .ok (.iload_n 3, 1) := by decide +kernel
theorem dX5_lowestOfKnots_18 : decode cX5_lowestOfKnots 18 = .ok (.bipush 8, 2) := by decide +kernel
theorem dX5_lowestOfKnots_20 : decode cX5_lowestOfKnots 20 = .ok (.if_icmp .ge 29, 3) := by decide +kernel
theorem dX5_lowestOfKnots_23 : decode cX5_lowestOfKnots 23 = .ok (.aload_n 0, 1) := by decide +kernel
theorem dX5_lowestOfKnots_24 : decode cX5_lowestOfKnots 24 = .ok (.iload_n 3, 1) := by decide +kernel
theorem dX5_lowestOfKnots_25 : decode cX5_lowestOfKnots 25 = .ok (.invokevirtual 39, 3) := by decide +kernel
theorem dX5_lowestOfKnots_28 : decode cX5_lowestOfKnots 28 = .ok (.invokestatic 43, 3) := by decide +kernel
theorem dX5_lowestOfKnots_31 : decode cX5_lowestOfKnots 31 = .ok (.iconst 1, 1) := by decide +kernel
theorem dX5_lowestOfKnots_32 : decode cX5_lowestOfKnots 32 = .ok (.iload_n 3, 1) := by decide +kernel
theorem dX5_lowestOfKnots_33 : decode cX5_lowestOfKnots 33 = .ok (.ishl, 1) := by decide +kernel
theorem dX5_lowestOfKnots_34 : decode cX5_lowestOfKnots 34 = .ok (.if_icmp .ne 9, 3) := by decide +kernel
theorem dX5_lowestOfKnots_37 : decode cX5_lowestOfKnots 37 = .ok (.iload_n 2, 1) := by decide +kernel
theorem dX5_lowestOfKnots_38 : decode cX5_lowestOfKnots 38 = .ok (.iconst 1, 1) := by decide +kernel
theorem dX5_lowestOfKnots_39 : decode cX5_lowestOfKnots 39 = .ok (.iload_n 3, 1) := by decide +kernel
theorem dX5_lowestOfKnots_40 : decode cX5_lowestOfKnots 40 = .ok (.ishl, 1) := by decide +kernel
theorem dX5_lowestOfKnots_41 : decode cX5_lowestOfKnots 41 = .ok (.ior, 1) := by decide +kernel
theorem dX5_lowestOfKnots_42 : decode cX5_lowestOfKnots 42 = .ok (.istore_n 2, 1) := by decide +kernel
theorem dX5_lowestOfKnots_43 : decode cX5_lowestOfKnots 43 = .ok (.iinc 3 1, 3) := by decide +kernel
theorem dX5_lowestOfKnots_46 : decode cX5_lowestOfKnots 46 = .ok (.goto (-37), 3) := by decide +kernel
theorem dX5_lowestOfKnots_49 : decode cX5_lowestOfKnots 49 = .ok (.iload_n 2, 1) := by decide +kernel
theorem dX5_lowestOfKnots_50 : decode cX5_lowestOfKnots 50 = .ok (.ireturn, 1) := by decide +kernel
theorem dX5_fewestHeads_0 : decode cX5_fewestHeads 0 = .ok (.aload_n 0, 1) := by decide +kernel
theorem dX5_fewestHeads_1 : decode cX5_fewestHeads 1 = .ok (.aload_n 1, 1) := by decide +kernel
theorem dX5_fewestHeads_2 : decode cX5_fewestHeads 2 = .ok (.invokevirtual 48, 3) := by decide +kernel
theorem dX5_fewestHeads_5 : decode cX5_fewestHeads 5 = .ok (.istore_n 2, 1) := by decide +kernel
theorem dX5_fewestHeads_6 : decode cX5_fewestHeads 6 = .ok (.iconst 0, 1) := by decide +kernel
theorem dX5_fewestHeads_7 : decode cX5_fewestHeads 7 = .ok (.istore_n 3, 1) := by decide +kernel
theorem dX5_fewestHeads_8 : decode cX5_fewestHeads 8 = .ok (.iconst 0, 1) := by decide +kernel
theorem dX5_fewestHeads_9 : decode cX5_fewestHeads 9 = .ok (.istore 4, 2) := by decide +kernel
theorem dX5_fewestHeads_11 : decode cX5_fewestHeads 11 = .ok (.iload 4, 2) := by decide +kernel
theorem dX5_fewestHeads_13 : decode cX5_fewestHeads 13 = .ok (.bipush 8, 2) := by decide +kernel
theorem dX5_fewestHeads_15 : decode cX5_fewestHeads 15 = .ok (.if_icmp .ge 42, 3) := by decide +kernel
theorem dX5_fewestHeads_18 : decode cX5_fewestHeads 18 = .ok (.iload_n 2, 1) := by decide +kernel
theorem dX5_fewestHeads_19 : decode cX5_fewestHeads 19 = .ok (.iload 4, 2) := by decide +kernel
theorem dX5_fewestHeads_21 : decode cX5_fewestHeads 21 = .ok (.ishr, 1) := by decide +kernel
theorem dX5_fewestHeads_22 : decode cX5_fewestHeads 22 = .ok (.iconst 1, 1) := by decide +kernel
theorem dX5_fewestHeads_23 : decode cX5_fewestHeads 23 = .ok (.iand, 1) := by decide +kernel
theorem dX5_fewestHeads_24 : decode cX5_fewestHeads 24 = .ok (.iconst 1, 1) := by decide +kernel
theorem dX5_fewestHeads_25 : decode cX5_fewestHeads 25 = .ok (.if_icmp .ne 26, 3) := by decide +kernel
theorem dX5_fewestHeads_28 : decode cX5_fewestHeads 28 = .ok (.aload_n 0, 1) := by decide +kernel
theorem dX5_fewestHeads_29 : decode cX5_fewestHeads 29 = .ok (.getfield 15, 3) := by decide +kernel
theorem dX5_fewestHeads_32 : decode cX5_fewestHeads 32 = .ok (.iload 4, 2) := by decide +kernel
theorem dX5_fewestHeads_34 : decode cX5_fewestHeads 34 = .ok (.iaload, 1) := by decide +kernel
theorem dX5_fewestHeads_35 : decode cX5_fewestHeads 35 = .ok (.aload_n 0, 1) := by decide +kernel
theorem dX5_fewestHeads_36 : decode cX5_fewestHeads 36 = .ok (.iload 4, 2) := by decide +kernel
theorem dX5_fewestHeads_38 : decode cX5_fewestHeads 38 = .ok (.invokevirtual 39, 3) := by decide +kernel
theorem dX5_fewestHeads_41 : decode cX5_fewestHeads 41 = .ok (.if_icmp .ne 10, 3) := by decide +kernel
theorem dX5_fewestHeads_44 : decode cX5_fewestHeads 44 = .ok (.iload_n 3, 1) := by decide +kernel
theorem dX5_fewestHeads_45 : decode cX5_fewestHeads 45 = .ok (.iconst 1, 1) := by decide +kernel
theorem dX5_fewestHeads_46 : decode cX5_fewestHeads 46 = .ok (.iload 4, 2) := by decide +kernel
theorem dX5_fewestHeads_48 : decode cX5_fewestHeads 48 = .ok (.ishl, 1) := by decide +kernel
theorem dX5_fewestHeads_49 : decode cX5_fewestHeads 49 = .ok (.ior, 1) := by decide +kernel
theorem dX5_fewestHeads_50 : decode cX5_fewestHeads 50 = .ok (.istore_n 3, 1) := by decide +kernel
theorem dX5_fewestHeads_51 : decode cX5_fewestHeads 51 = .ok (.iinc 4 1, 3) := by decide +kernel
theorem dX5_fewestHeads_54 : decode cX5_fewestHeads 54 = .ok (.goto (-43), 3) := by decide +kernel
theorem dX5_fewestHeads_57 : decode cX5_fewestHeads 57 = .ok (.iload_n 3, 1) := by decide +kernel
theorem dX5_fewestHeads_58 : decode cX5_fewestHeads 58 = .ok (.ireturn, 1) := by decide +kernel
theorem dX6_init_0 : decode cX6_init 0 = .ok (.aload_n 0, 1) := by decide +kernel
theorem dX6_init_1 : decode cX6_init 1 = .ok (.invokespecial 3, 3) := by decide +kernel
theorem dX6_init_4 : decode cX6_init 4 = .ok (.aload_n 0, 1) := by decide +kernel
theorem dX6_init_5 : decode cX6_init 5 = .ok (.new 9, 3) := by decide +kernel
theorem dX6_init_8 : decode cX6_init 8 = .ok (.dup, 1) := by decide +kernel
theorem dX6_init_9 : decode cX6_init 9 = .ok (.bipush 12, 2) := by decide +kernel
theorem dX6_init_11 : decode cX6_init 11 = .ok (.sipush 436, 3) := by decide +kernel
theorem dX6_init_14 : decode cX6_init 14 = .ok (.invokespecial 11, 3) := by decide +kernel
theorem dX6_init_17 : decode cX6_init 17 = .ok (.putfield 14, 3) := by decide +kernel
theorem dX6_init_20 : decode cX6_init 20 = .ok (.aload_n 0, 1) := by decide +kernel
theorem dX6_init_21 : decode cX6_init 21 = .ok (.sipush 401, 3) := by decide +kernel
theorem dX6_init_24 : decode cX6_init 24 = .ok (.newarray .int, 2) := by decide +kernel
theorem dX6_init_26 : decode cX6_init 26 = .ok (.putfield 20, 3) := by decide +kernel
theorem dX6_init_29 : decode cX6_init 29 = .ok (.aload_n 0, 1) := by decide +kernel
theorem dX6_init_30 : decode cX6_init 30 = .ok (.sipush 401, 3) := by decide +kernel
theorem dX6_init_33 : decode cX6_init 33 = .ok (.newarray .int, 2) := by decide +kernel
theorem dX6_init_35 : decode cX6_init 35 = .ok (.putfield 24, 3) := by decide +kernel
theorem dX6_init_38 : decode cX6_init 38 = .ok (.aload_n 0, 1) := by decide +kernel
theorem dX6_init_39 : decode cX6_init 39 = .ok (.iconst 0, 1) := by decide +kernel
theorem dX6_init_40 : decode cX6_init 40 = .ok (.putfield 27, 3) := by decide +kernel
theorem dX6_init_43 : decode cX6_init 43 = .ok (.aload_n 0, 1) := by decide +kernel
theorem dX6_init_44 : decode cX6_init 44 = .ok (.iconst 0, 1) := by decide +kernel
theorem dX6_init_45 : decode cX6_init 45 = .ok (.putfield 31, 3) := by decide +kernel
theorem dX6_init_48 : decode cX6_init 48 = .ok (.aload_n 0, 1) := by decide +kernel
theorem dX6_init_49 : decode cX6_init 49 = .ok (.bipush (-2), 2) := by decide +kernel
theorem dX6_init_51 : decode cX6_init 51 = .ok (.putfield 34, 3) := by decide +kernel
theorem dX6_init_54 : decode cX6_init 54 = .ok (.aload_n 0, 1) := by decide +kernel
theorem dX6_init_55 : decode cX6_init 55 = .ok (.iconst 0, 1) := by decide +kernel
theorem dX6_init_56 : decode cX6_init 56 = .ok (.putfield 37, 3) := by decide +kernel
theorem dX6_init_59 : decode cX6_init 59 = .ok (.aload_n 0, 1) := by decide +kernel
theorem dX6_init_60 : decode cX6_init 60 = .ok (.iconst 0, 1) := by decide +kernel
theorem dX6_init_61 : decode cX6_init 61 = .ok (.putfield 41, 3) := by decide +kernel
theorem dX6_init_64 : decode cX6_init 64 = .ok (.aload_n 0, 1) := by decide +kernel
theorem dX6_init_65 : decode cX6_init 65 = .ok (.iconst 0, 1) := by decide +kernel
theorem dX6_init_66 : decode cX6_init 66 = .ok (.putfield 44, 3) := by decide +kernel
theorem dX6_init_69 : decode cX6_init 69 = .ok (.aload_n 0, 1) := by decide +kernel
theorem dX6_init_70 : decode cX6_init 70 = .ok (.iconst (-1), 1) := by decide +kernel
theorem dX6_init_71 : decode cX6_init 71 = .ok (.putfield 47, 3) := by decide +kernel
theorem dX6_init_74 : decode cX6_init 74 = .ok (.return_, 1) := by decide +kernel
theorem dX6_read_0 : decode cX6_read 0 = .ok (.iconst 0, 1) := by decide +kernel
theorem dX6_read_1 : decode cX6_read 1 = .ok (.iload_n 2, 1) := by decide +kernel
theorem dX6_read_2 : decode cX6_read 2 = .ok (.aload_n 1, 1) := by decide +kernel
theorem dX6_read_3 : decode cX6_read 3 = .ok (.arraylength, 1) := by decide +kernel
theorem dX6_read_4 : decode cX6_read 4 = .ok (.sipush 400, 3) := by decide +kernel
theorem dX6_read_7 : decode cX6_read 7 = .ok (.invokestatic 50, 3) := by decide +kernel
theorem dX6_read_10 : decode cX6_read 10 = .ok (.invokestatic 50, 3) := by decide +kernel
theorem dX6_read_13 : decode cX6_read 13 = .ok (.invokestatic 56, 3) := by decide +kernel
theorem dX6_read_16 : decode cX6_read 16 = .ok (.istore 4, 2) := by decide +kernel
theorem dX6_read_18 : decode cX6_read 18 = .ok (.aload_n 0, 1) := by decide +kernel
theorem dX6_read_19 : decode cX6_read 19 = .ok (.aload_n 1, 1) := by decide +kernel
theorem dX6_read_20 : decode cX6_read 20 = .ok (.iload 4, 2) := by decide +kernel
theorem dX6_read_22 : decode cX6_read 22 = .ok (.invokevirtual 59, 3) := by decide +kernel
theorem dX6_read_25 : decode cX6_read 25 = .ok (.aload_n 0, 1) := by decide +kernel
theorem dX6_read_26 : decode cX6_read 26 = .ok (.iload_n 3, 1) := by decide +kernel
theorem dX6_read_27 : decode cX6_read 27 = .ok (.putfield 37, 3) := by decide +kernel
theorem dX6_read_30 : decode cX6_read 30 = .ok (.aload_n 0, 1) := by decide +kernel
theorem dX6_read_31 : decode cX6_read 31 = .ok (.iconst 0, 1) := by decide +kernel
theorem dX6_read_32 : decode cX6_read 32 = .ok (.putfield 41, 3) := by decide +kernel
theorem dX6_read_35 : decode cX6_read 35 = .ok (.aload_n 0, 1) := by decide +kernel
theorem dX6_read_36 : decode cX6_read 36 = .ok (.iconst 0, 1) := by decide +kernel
theorem dX6_read_37 : decode cX6_read 37 = .ok (.putfield 44, 3) := by decide +kernel
theorem dX6_read_40 : decode cX6_read 40 = .ok (.aload_n 0, 1) := by decide +kernel
theorem dX6_read_41 : decode cX6_read 41 = .ok (.iconst (-1), 1) := by decide +kernel
theorem dX6_read_42 : decode cX6_read 42 = .ok (.putfield 47, 3) := by decide +kernel
theorem dX6_read_45 : decode cX6_read 45 = .ok (.aload_n 0, 1) := by decide +kernel
theorem dX6_read_46 : decode cX6_read 46 = .ok (.getfield 14, 3) := by decide +kernel
theorem dX6_read_49 : decode cX6_read 49 = .ok (.invokevirtual 63, 3) := by decide +kernel
theorem dX6_read_52 : decode cX6_read 52 = .ok (.aload_n 0, 1) := by decide +kernel
theorem dX6_read_53 : decode cX6_read 53 = .ok (.iconst 0, 1) := by decide +kernel
theorem dX6_read_54 : decode cX6_read 54 = .ok (.putfield 31, 3) := by decide +kernel
theorem dX6_read_57 : decode cX6_read 57 = .ok (.aload_n 0, 1) := by decide +kernel
theorem dX6_read_58 : decode cX6_read 58 = .ok (.aload_n 0, 1) := by decide +kernel
theorem dX6_read_59 : decode cX6_read 59 = .ok (.getfield 20, 3) := by decide +kernel
theorem dX6_read_62 : decode cX6_read 62 = .ok (.iconst 0, 1) := by decide +kernel
theorem dX6_read_63 : decode cX6_read 63 = .ok (.iaload, 1) := by decide +kernel
theorem dX6_read_64 : decode cX6_read 64 = .ok (.putfield 34, 3) := by decide +kernel
theorem dX6_read_67 : decode cX6_read 67 = .ok (.aload_n 0, 1) := by decide +kernel
theorem dX6_read_68 : decode cX6_read 68 = .ok (.invokevirtual 66, 3) := by decide +kernel
theorem dX6_read_71 : decode cX6_read 71 = .ok (.istore 5, 2) := by decide +kernel
theorem dX6_read_73 : decode cX6_read 73 = .ok (.iconst 0, 1) := by decide +kernel
theorem dX6_read_74 : decode cX6_read 74 = .ok (.istore 6, 2) := by decide +kernel
theorem dX6_read_76 : decode cX6_read 76 = .ok (.iload 6, 2) := by decide +kernel
theorem dX6_read_78 : decode cX6_read 78 = .ok (.sipush 400, 3) := by decide +kernel
theorem dX6_read_81 : decode cX6_read 81 = .ok (.if_icmp .ge 33, 3) := by decide +kernel
theorem dX6_read_84 : decode cX6_read 84 = .ok (.iload 5, 2) := by decide +kernel
theorem dX6_read_86 : decode cX6_read 86 = .ok (.ifCond .eq 28, 3) := by decide +kernel
theorem dX6_read_89 : decode cX6_read 89 = .ok (.aload_n 0, 1) := by decide +kernel
theorem dX6_read_90 : decode cX6_read 90 = .ok (.getfield 34, 3) := by decide +kernel
theorem dX6_read_93 : decode cX6_read 93 = .ok (.bipush 59, 2) := by decide +kernel
theorem dX6_read_95 : decode cX6_read 95 = .ok (.if_icmp .ne 19, 3) := by decide +kernel
theorem dX6_read_98 : decode cX6_read 98 = .ok (.aload_n 0, 1) := by decide +kernel
theorem dX6_read_99 : decode cX6_read 99 = .ok (.invokevirtual 70, 3) := by decide +kernel
theorem dX6_read_102 : decode cX6_read 102 = .ok (.aload_n 0, 1) := by decide +kernel
theorem dX6_read_103 : decode cX6_read 103 = .ok (.invokevirtual 66, 3) := by decide +kernel
theorem dX6_read_106 : decode cX6_read 106 = .ok (.istore 5, 2) := by decide +kernel
theorem dX6_read_108 : decode cX6_read 108 = .ok (.iinc 6 1, 3) := by decide +kernel
theorem dX6_read_111 : decode cX6_read 111 = .ok (.goto (-35), 3) := by decide +kernel
theorem dX6_read_114 : decode cX6_read 114 = .ok (.iload 5, 2) := by decide +kernel
theorem dX6_read_116 : decode cX6_read 116 = .ok (.ifCond .eq 19, 3) := by decide +kernel
theorem dX6_read_119 : decode cX6_read 119 = .ok (.aload_n 0, 1) := by decide +kernel
theorem dX6_read_120 : decode cX6_read 120 = .ok (.getfield 31, 3) := by decide +kernel
theorem dX6_read_123 : decode cX6_read 123 = .ok (.aload_n 0, 1) := by decide +kernel
theorem dX6_read_124 : decode cX6_read 124 = .ok (.getfield 27, 3) := by decide +kernel
theorem dX6_read_127 : decode cX6_read 127 = .ok (.if_icmp .ge 8, 3) := by decide +kernel
theorem dX6_read_130 : decode cX6_read 130 = .ok (.aload_n 0, 1) := by decide +kernel
theorem dX6_read_131 : decode cX6_read 131 = .ok (.invokevirtual 73, 3) := by decide +kernel
theorem dX6_read_134 : decode cX6_read 134 = .ok (.pop, 1) := by decide +kernel
theorem dX6_read_135 : decode cX6_read 135 = .ok (.aload_n 0, 1) := by decide +kernel
theorem dX6_read_136 : decode cX6_read 136 = .ok (.getfield 47, 3) := by decide +kernel
theorem dX6_read_139 : decode cX6_read 139 = .ok (.ireturn, 1) := by decide +kernel
theorem dX6_splitTokens_0 : decode cX6_splitTokens 0 = .ok (.aload_n 0, 1) := by decide +kernel
theorem dX6_splitTokens_1 : decode cX6_splitTokens 1 = .ok (.iconst 0, 1) := by decide +kernel
theorem dX6_splitTokens_2 : decode cX6_splitTokens 2 = .ok (.putfield 27, 3) := by decide +kernel
theorem dX6_splitTokens_5 : decode cX6_splitTokens 5 = .ok (.iconst 0, 1) := by decide +kernel
theorem dX6_splitTokens_6 : decode cX6_splitTokens 6 = .ok (.istore_n 3, 1) := by decide +kernel
theorem dX6_splitTokens_7 : decode cX6_splitTokens 7 = .ok (.iload_n 3, 1) := by decide +kernel
theorem dX6_splitTokens_8 : decode cX6_splitTokens 8 = .ok (.iload_n 2, 1) := by decide +kernel
theorem dX6_splitTokens_9 : decode cX6_splitTokens 9 = .ok (.if_icmp .ge 133, 3) := by decide +kernel
theorem dX6_splitTokens_12 : decode cX6_splitTokens 12 = .ok (.aload_n 0, 1) := by decide +kernel
theorem dX6_splitTokens_13 : decode cX6_splitTokens 13 = .ok (.getfield 27, 3) := by decide +kernel
theorem dX6_splitTokens_16 : decode cX6_splitTokens 16 = .ok (.sipush 400, 3) := by decide +kernel
theorem dX6_splitTokens_19 : decode cX6_splitTokens 19 = .ok (.if_icmp .ge 123, 3) := by decide +kernel
theorem dX6_splitTokens_22 : decode cX6_splitTokens 22 = .ok (.iload_n 3, 1) := by decide +kernel
theorem dX6_splitTokens_23 : decode cX6_splitTokens 23 = .ok (.istore 4, 2) := by decide +kernel
theorem dX6_splitTokens_25 : decode cX6_splitTokens 25 = .ok (.iinc 3 1, 3) := by decide +kernel
theorem dX6_splitTokens_28 : decode cX6_splitTokens 28 = .ok (.aload_n 1, 1) := by decide +kernel
theorem dX6_splitTokens_29 : decode cX6_splitTokens 29 = .ok (.iload 4, 2) := by decide +kernel
theorem dX6_splitTokens_31 : decode cX6_splitTokens 31 = .ok (.iaload, 1) := by decide +kernel
theorem dX6_splitTokens_32 : decode cX6_splitTokens 32 = .ok (.invokestatic 76, 3) := by decide +kernel
theorem dX6_splitTokens_35 : decode cX6_splitTokens 35 = .ok (.ifCond .eq 39, 3) := by decide +kernel
theorem dX6_splitTokens_38 : decode cX6_splitTokens 38 = .ok (.iload_n 3, 1) := by decide +kernel
theorem dX6_splitTokens_39 : decode cX6_splitTokens 39 = .ok (.iload_n 2, 1) := by decide +kernel
theorem dX6_splitTokens_40 : decode cX6_splitTokens 40 = .ok (.if_icmp .ge 18, 3) := by decide +kernel
theorem dX6_splitTokens_43 : decode cX6_splitTokens 43 = .ok (.aload_n 1, 1) := by decide +kernel
theorem dX6_splitTokens_44 : decode cX6_splitTokens 44 = .ok (.iload_n 3, 1) := by decide +kernel
theorem dX6_splitTokens_45 : decode cX6_splitTokens 45 = .ok (.iaload, 1) := by decide +kernel
theorem dX6_splitTokens_46 : decode cX6_splitTokens 46 = .ok (.invokestatic 76, 3) := by decide +kernel
theorem dX6_splitTokens_49 : decode cX6_splitTokens 49 = .ok (.ifCond .eq 9, 3) := by decide +kernel
theorem dX6_splitTokens_52 : decode cX6_splitTokens 52 = .ok (.iinc 3 1, 3) := by decide +kernel
theorem dX6_splitTokens_55 : decode cX6_splitTokens 55 = .ok (.goto (-17), 3) := by decide +kernel
theorem dX6_splitTokens_58 : decode cX6_splitTokens 58 = .ok (.aload_n 0, 1) := by decide +kernel
theorem dX6_splitTokens_59 : decode cX6_splitTokens 59 = .ok (.iload 4, 2) := by decide +kernel
theorem dX6_splitTokens_61 : decode cX6_splitTokens 61 = .ok (.aload_n 1, 1) := by decide +kernel
theorem dX6_splitTokens_62 : decode cX6_splitTokens 62 = .ok (.iload 4, 2) := by decide +kernel
theorem dX6_splitTokens_64 : decode cX6_splitTokens 64 = .ok (.iload_n 3, 1) := by decide +kernel
theorem dX6_splitTokens_65 : decode cX6_splitTokens 65 = .ok (.invokestatic 80, 3) := by decide +kernel
theorem dX6_splitTokens_68 : decode cX6_splitTokens 68 = .ok (.invokevirtual 84, 3) := by decide +kernel
theorem dX6_splitTokens_71 : decode cX6_splitTokens 71 = .ok (.goto 68, 3) := by decide +kernel
theorem dX6_splitTokens_74 : decode cX6_splitTokens 74 = .ok (.aload_n 1, 1) := by decide +kernel
theorem dX6_splitTokens_75 : decode cX6_splitTokens 75 = .ok (.iload 4, 2) := by decide +kernel
theorem dX6_splitTokens_77 : decode cX6_splitTokens 77 = .ok (.iaload, 1) := by decide +kernel
theorem dX6_splitTokens_78 : decode cX6_splitTokens 78 = .ok (.invokestatic 87, 3) := by decide +kernel
theorem dX6_splitTokens_81 : decode cX6_splitTokens 81 = .ok (.ifCond .eq 39, 3) := by decide +kernel
theorem dX6_splitTokens_84 : decode cX6_splitTokens 84 = .ok (.iload_n 3, 1) := by decide +kernel
theorem dX6_splitTokens_85 : decode cX6_splitTokens 85 = .ok (.iload_n 2, 1) := by decide +kernel
theorem dX6_splitTokens_86 : decode cX6_splitTokens 86 = .ok (.if_icmp .ge 18, 3) := by decide +kernel
theorem dX6_splitTokens_89 : decode cX6_splitTokens 89 = .ok (.aload_n 1, 1) := by decide +kernel
theorem dX6_splitTokens_90 : decode cX6_splitTokens 90 = .ok (.iload_n 3, 1) := by decide +kernel
theorem dX6_splitTokens_91 : decode cX6_splitTokens 91 = .ok (.iaload, 1) := by decide +kernel
theorem dX6_splitTokens_92 : decode cX6_splitTokens 92 = .ok (.invokestatic 87, 3) := by decide +kernel
theorem dX6_splitTokens_95 : decode cX6_splitTokens 95 = .ok (.ifCond .eq 9, 3) := by decide +kernel
theorem dX6_splitTokens_98 : decode cX6_splitTokens 98 = .ok (.iinc 3 1, 3) := by decide +kernel
theorem dX6_splitTokens_101 : decode cX6_splitTokens 101 = .ok (.goto (-17), 3) := by decide +kernel
theorem dX6_splitTokens_104 : decode cX6_splitTokens 104 = .ok (.aload_n 0, 1) := by decide +kernel
theorem dX6_splitTokens_105 : decode cX6_splitTokens 105 = .ok (.iload 4, 2) := by decide +kernel
theorem dX6_splitTokens_107 : decode cX6_splitTokens 107 = .ok (.aload_n 1, 1) := by decide +kernel
theorem dX6_splitTokens_108 : decode cX6_splitTokens 108 = .ok (.iload 4, 2) := by decide +kernel
theorem dX6_splitTokens_110 : decode cX6_splitTokens 110 = .ok (.iload_n 3, 1) := by decide +kernel
theorem dX6_splitTokens_111 : decode cX6_splitTokens 111 = .ok (.invokestatic 90, 3) := by decide +kernel
theorem dX6_splitTokens_114 : decode cX6_splitTokens 114 = .ok (.invokevirtual 84, 3) := by decide +kernel
theorem dX6_splitTokens_117 : decode cX6_splitTokens 117 = .ok (.goto 22, 3) := by decide +kernel
theorem dX6_splitTokens_120 : decode cX6_splitTokens 120 = .ok (.aload_n 1, 1) := by decide +kernel
theorem dX6_splitTokens_121 : decode cX6_splitTokens 121 = .ok (.iload 4, 2) := by decide +kernel
theorem dX6_splitTokens_123 : decode cX6_splitTokens 123 = .ok (.iaload, 1) := by decide +kernel
theorem dX6_splitTokens_124 : decode cX6_splitTokens 124 = .ok (.bipush 32, 2) := by decide +kernel
theorem dX6_splitTokens_126 : decode cX6_splitTokens 126 = .ok (.if_icmp .eq 13, 3) := by decide +kernel
theorem dX6_splitTokens_129 : decode cX6_splitTokens 129 = .ok (.aload_n 0, 1) := by decide +kernel
theorem dX6_splitTokens_130 : decode cX6_splitTokens 130 = .ok (.iload 4, 2) := by decide +kernel
theorem dX6_splitTokens_132 : decode cX6_splitTokens 132 = .ok (.aload_n 1, 1) := by decide +kernel
theorem dX6_splitTokens_133 : decode cX6_splitTokens 133 = .ok (.iload 4, 2) := by decide +kernel
theorem dX6_splitTokens_135 : decode cX6_splitTokens 135 = .ok (.iaload, 1) := by decide +kernel
theorem dX6_splitTokens_136 : decode cX6_splitTokens 136 = .ok (.invokevirtual 84, 3) := by decide +kernel
theorem dX6_splitTokens_139 : decode cX6_splitTokens 139 = .ok (.goto (-132), 3) := by decide +kernel
theorem dX6_splitTokens_142 : decode cX6_splitTokens 142 = .ok (.aload_n 0, 1) := by decide +kernel
theorem dX6_splitTokens_143 : decode cX6_splitTokens 143 = .ok (.getfield 20, 3) := by decide +kernel
theorem dX6_splitTokens_146 : decode cX6_splitTokens 146 = .ok (.aload_n 0, 1) := by decide +kernel
theorem dX6_splitTokens_147 : decode cX6_splitTokens 147 = .ok (.getfield 27, 3) := by decide +kernel
theorem dX6_splitTokens_150 : decode cX6_splitTokens 150 = .ok (.bipush (-2), 2) := by decide +kernel
theorem dX6_splitTokens_152 : decode cX6_splitTokens 152 = .ok (.iastore, 1) := by decide +kernel
theorem dX6_splitTokens_153 : decode cX6_splitTokens 153 = .ok (.aload_n 0, 1) := by decide +kernel
theorem dX6_splitTokens_154 : decode cX6_splitTokens 154 = .ok (.getfield 24, 3) := by decide +kernel
theorem dX6_splitTokens_157 : decode cX6_splitTokens 157 = .ok (.aload_n 0, 1) := by decide +kernel
theorem dX6_splitTokens_158 : decode cX6_splitTokens 158 = .ok (.getfield 27, 3) := by decide +kernel
theorem dX6_splitTokens_161 : decode cX6_splitTokens 161 = .ok (.iload_n 2, 1) := by decide +kernel
theorem dX6_splitTokens_162 : decode cX6_splitTokens 162 = .ok (.iastore, 1) := by decide +kernel
theorem dX6_splitTokens_163 : decode cX6_splitTokens 163 = .ok (.return_, 1) := by decide +kernel
theorem dX6_addToken_0 : decode cX6_addToken 0 = .ok (.aload_n 0, 1) := by decide +kernel
theorem dX6_addToken_1 : decode cX6_addToken 1 = .ok (.getfield 20, 3) := by decide +kernel
theorem dX6_addToken_4 : decode cX6_addToken 4 = .ok (.aload_n 0, 1) := by decide +kernel
theorem dX6_addToken_5 : decode cX6_addToken 5 = .ok (.getfield 27, 3) := by decide +kernel
theorem dX6_addToken_8 : decode cX6_addToken 8 = .ok (.iload_n 2, 1) := by decide +kernel
theorem dX6_addToken_9 : decode cX6_addToken 9 = .ok (.iastore, 1) := by decide +kernel
theorem dX6_addToken_10 : decode cX6_addToken 10 = .ok (.aload_n 0, 1) := by decide +kernel
theorem dX6_addToken_11 : decode cX6_addToken 11 = .ok (.getfield 24, 3) := by decide +kernel
theorem dX6_addToken_14 : decode cX6_addToken 14 = .ok (.aload_n 0, 1) := by decide +kernel
theorem dX6_addToken_15 : decode cX6_addToken 15 = .ok (.getfield 27, 3) := by decide +kernel
theorem dX6_addToken_18 : decode cX6_addToken 18 = .ok (.iload_n 1, 1) := by decide +kernel
theorem dX6_addToken_19 : decode cX6_addToken 19 = .ok (.iastore, 1) := by decide +kernel
theorem dX6_addToken_20 : decode cX6_addToken 20 = .ok (.aload_n 0, 1) := by decide +kernel
theorem dX6_addToken_21 : decode cX6_addToken 21 = .ok (.dup, 1) := by decide +kernel
theorem dX6_addToken_22 : decode cX6_addToken 22 = .ok (.getfield 27, 3) := by decide +kernel
theorem dX6_addToken_25 : decode cX6_addToken 25 = .ok (.iconst 1, 1) := by decide +kernel
theorem dX6_addToken_26 : decode cX6_addToken 26 = .ok (.iadd, 1) := by decide +kernel
theorem dX6_addToken_27 : decode cX6_addToken 27 = .ok (.putfield 27, 3) := by decide +kernel
theorem dX6_addToken_30 : decode cX6_addToken 30 = .ok (.return_, 1) := by decide +kernel
theorem dX6_isLetter_0 : decode cX6_isLetter 0 = .ok (.iload_n 0, 1) := by decide +kernel
theorem dX6_isLetter_1 : decode cX6_isLetter 1 = .ok (.bipush 97, 2) := by decide +kernel
theorem dX6_isLetter_3 : decode cX6_isLetter 3 = .ok (.if_icmp .lt 13, 3) := by decide +kernel
theorem dX6_isLetter_6 : decode cX6_isLetter 6 = .ok (.iload_n 0, 1) := by decide +kernel
theorem dX6_isLetter_7 : decode cX6_isLetter 7 = .ok (.bipush 122, 2) := by decide +kernel
theorem dX6_isLetter_9 : decode cX6_isLetter 9 = .ok (.if_icmp .gt 7, 3) := by decide +kernel
theorem dX6_isLetter_12 : decode cX6_isLetter 12 = .ok (.iconst 1, 1) := by decide +kernel
theorem dX6_isLetter_13 : decode cX6_isLetter 13 = .ok (.goto 4, 3) := by decide +kernel
theorem dX6_isLetter_16 : decode cX6_isLetter 16 = .ok (.iconst 0, 1) := by decide +kernel
theorem dX6_isLetter_17 : decode cX6_isLetter 17 = .ok (.ireturn, 1) := by decide +kernel
theorem dX6_isDigit_0 : decode cX6_isDigit 0 = .ok (.iload_n 0, 1) := by decide +kernel
theorem dX6_isDigit_1 : decode cX6_isDigit 1 = .ok (.bipush 48, 2) := by decide +kernel
theorem dX6_isDigit_3 : decode cX6_isDigit 3 = .ok (.if_icmp .lt 13, 3) := by decide +kernel
theorem dX6_isDigit_6 : decode cX6_isDigit 6 = .ok (.iload_n 0, 1) := by decide +kernel
theorem dX6_isDigit_7 : decode cX6_isDigit 7 = .ok (.bipush 57, 2) := by decide +kernel
theorem dX6_isDigit_9 : decode cX6_isDigit 9 = .ok (.if_icmp .gt 7, 3) := by decide +kernel
theorem dX6_isDigit_12 : decode cX6_isDigit 12 = .ok (.iconst 1, 1) := by decide +kernel
theorem dX6_isDigit_13 : decode cX6_isDigit 13 = .ok (.goto 4, 3) := by decide +kernel
theorem dX6_isDigit_16 : decode cX6_isDigit 16 = .ok (.iconst 0, 1) := by decide +kernel
theorem dX6_isDigit_17 : decode cX6_isDigit 17 = .ok (.ireturn, 1) := by decide +kernel
theorem dX6_wordToken_0 : decode cX6_wordToken 0 = .ok (.sipush 256, 3) := by decide +kernel
theorem dX6_wordToken_3 : decode cX6_wordToken 3 = .ok (.istore_n 3, 1) := by decide +kernel
theorem dX6_wordToken_4 : decode cX6_wordToken 4 = .ok (.iconst 0, 1) := by decide +kernel
theorem dX6_wordToken_5 : decode cX6_wordToken 5 = .ok (.istore 4, 2) := by decide +kernel
theorem dX6_wordToken_7 : decode cX6_wordToken 7 = .ok (.iconst 0, 1) := by decide +kernel
theorem dX6_wordToken_8 : decode cX6_wordToken 8 = .ok (.istore 5, 2) := by decide +kernel
theorem dX6_wordToken_10 : decode cX6_wordToken 10 = .ok (.iload 5, 2) := by decide +kernel
theorem dX6_wordToken_12 : decode cX6_wordToken 12 = .ok (.ldc 93, 2) := by decide +kernel
theorem dX6_wordToken_14 : decode cX6_wordToken 14 = .ok (.invokevirtual 95, 3) := by decide +kernel
theorem dX6_wordToken_17 : decode cX6_wordToken 17 = .ok (.if_icmp .ge 55, 3) := by decide +kernel
theorem dX6_wordToken_20 : decode cX6_wordToken 20 = .ok (.ldc 93, 2) := by decide +kernel
theorem dX6_wordToken_22 : decode cX6_wordToken 22 = .ok (.iload 5, 2) := by decide +kernel
theorem dX6_wordToken_24 : decode cX6_wordToken 24 = .ok (.invokevirtual 101, 3) := by decide +kernel
theorem dX6_wordToken_27 : decode cX6_wordToken 27 = .ok (.bipush 32, 2) := by decide +kernel
theorem dX6_wordToken_29 : decode cX6_wordToken 29 = .ok (.if_icmp .ne 37, 3) := by decide +kernel
theorem dX6_wordToken_32 : decode cX6_wordToken 32 = .ok (.iload 5, 2) := by decide +kernel
theorem dX6_wordToken_34 : decode cX6_wordToken 34 = .ok (.iload 4, 2) := by decide +kernel
theorem dX6_wordToken_36 : decode cX6_wordToken 36 = .ok (.isub, 1) := by decide +kernel
theorem dX6_wordToken_37 : decode cX6_wordToken 37 = .ok (.iload_n 2, 1) := by decide +kernel
theorem dX6_wordToken_38 : decode cX6_wordToken 38 = .ok (.iload_n 1, 1) := by decide +kernel
theorem dX6_wordToken_39 : decode cX6_wordToken 39 = .ok (.isub, 1) := by decide +kernel
theorem dX6_wordToken_40 : decode cX6_wordToken 40 = .ok (.if_icmp .ne 17, 3) := by decide +kernel
theorem dX6_wordToken_43 : decode cX6_wordToken 43 = .ok (.aload_n 0, 1) := by decide +kernel
theorem dX6_wordToken_44 : decode cX6_wordToken 44 = .ok (.iload_n 1, 1) := by decide +kernel
theorem dX6_wordToken_45 : decode cX6_wordToken 45 = .ok (.iload 4, 2) := by decide +kernel
theorem dX6_wordToken_47 : decode cX6_wordToken 47 = .ok (.iload 5, 2) := by decide +kernel
theorem dX6_wordToken_49 : decode cX6_wordToken 49 = .ok (.invokestatic 105, 3) := by decide +kernel
theorem dX6_wordToken_52 : decode cX6_wordToken 52 = .ok (.ifCond .eq 5, 3) := by decide +kernel
theorem dX6_wordToken_55 : decode cX6_wordToken 55 = .ok (.iload_n 3, 1) := by decide +kernel
theorem dX6_wordToken_56 : decode cX6_wordToken 56 = .ok (.ireturn, 1) := by decide +kernel
theorem dX6_wordToken_57 : decode cX6_wordToken 57 = .ok (.iinc 3 1, 3) := by decide +kernel
theorem dX6_wordToken_60 : decode cX6_wordToken 60 = .ok (.iload 5, 2) := by decide +kernel
theorem dX6_wordToken_62 : decode cX6_wordToken 62 = .ok (.iconst 1, 1) := by decide +kernel
theorem dX6_wordToken_63 : decode cX6_wordToken 63 = .ok (.iadd, 1) := by decide +kernel
theorem dX6_wordToken_64 : decode cX6_wordToken 64 = .ok (.istore 4, 2) := by decide +kernel
theorem dX6_wordToken_66 : decode cX6_wordToken 66 = .ok (.iinc 5 1, 3) := by decide +kernel
theorem dX6_wordToken_69 : decode cX6_wordToken 69 = .ok (.goto (-59), 3) := by decide +kernel
theorem dX6_wordToken_72 : decode cX6_wordToken 72 = .ok (.bipush (-2), 2) := by decide +kernel
theorem dX6_wordToken_74 : decode cX6_wordToken 74 = .ok (.ireturn, 1) := by decide +kernel
theorem dX6_isSpelledAt_0 : decode cX6_isSpelledAt 0 = .ok (.iload_n 2, 1) := by decide +kernel
theorem dX6_isSpelledAt_1 : decode cX6_isSpelledAt 1 = .ok (.istore 4, 2) := by decide +kernel
theorem dX6_isSpelledAt_3 : decode cX6_isSpelledAt 3 = .ok (.iload 4, 2) := by decide +kernel
theorem dX6_isSpelledAt_5 : decode cX6_isSpelledAt 5 = .ok (.iload_n 3, 1) := by decide +kernel
theorem dX6_isSpelledAt_6 : decode cX6_isSpelledAt 6 = .ok (.if_icmp .ge 29, 3) := by decide +kernel
theorem dX6_isSpelledAt_9 : decode cX6_isSpelledAt 9 = .ok (.aload_n 0, 1) := by decide +kernel
theorem dX6_isSpelledAt_10 : decode cX6_isSpelledAt 10 = .ok (.iload_n 1, 1) := by decide +kernel
theorem dX6_isSpelledAt_11 : decode cX6_isSpelledAt 11 = .ok (.iload 4, 2) := by decide +kernel
theorem dX6_isSpelledAt_13 : decode cX6_isSpelledAt 13 = .ok (.iadd, 1) := by decide +kernel
theorem dX6_isSpelledAt_14 : decode cX6_isSpelledAt 14 = .ok (.iload_n 2, 1) := by decide +kernel
theorem dX6_isSpelledAt_15 : decode cX6_isSpelledAt 15 = .ok (.isub, 1) := by decide +kernel
theorem dX6_isSpelledAt_16 : decode cX6_isSpelledAt 16 = .ok (.iaload, 1) := by decide +kernel
theorem dX6_isSpelledAt_17 : decode cX6_isSpelledAt 17 = .ok (.ldc 93, 2) := by decide +kernel
theorem dX6_isSpelledAt_19 : decode cX6_isSpelledAt 19 = .ok (.iload 4, 2) := by decide +kernel
theorem dX6_isSpelledAt_21 : decode cX6_isSpelledAt 21 = .ok (.invokevirtual 101, 3) := by decide +kernel
theorem dX6_isSpelledAt_24 : decode cX6_isSpelledAt 24 = .ok (.if_icmp .eq 5, 3) := by decide +kernel
theorem dX6_isSpelledAt_27 : decode cX6_isSpelledAt 27 = .ok (.iconst 0, 1) := by decide +kernel
theorem dX6_isSpelledAt_28 : decode cX6_isSpelledAt 28 = .ok (.ireturn, 1) := by decide +kernel
theorem dX6_isSpelledAt_29 : decode cX6_isSpelledAt 29 = .ok (.iinc 4 1, 3) := by decide +kernel
theorem dX6_isSpelledAt_32 : decode cX6_isSpelledAt 32 = .ok (.goto (-29), 3) := by decide +kernel
theorem dX6_isSpelledAt_35 : decode cX6_isSpelledAt 35 = .ok (.iconst 1, 1) := by decide +kernel
theorem dX6_isSpelledAt_36 : decode cX6_isSpelledAt 36 = .ok (.ireturn, 1) := by decide +kernel
theorem dX6_numberToken_0 : decode cX6_numberToken 0 = .ok (.iconst 0, 1) := by decide +kernel
theorem dX6_numberToken_1 : decode cX6_numberToken 1 = .ok (.istore_n 3, 1) := by decide +kernel
theorem dX6_numberToken_2 : decode cX6_numberToken 2 = .ok (.iload_n 1, 1) := by decide +kernel
theorem dX6_numberToken_3 : decode cX6_numberToken 3 = .ok (.istore 4, 2) := by decide +kernel
theorem dX6_numberToken_5 : decode cX6_numberToken 5 = .ok (.iload 4, 2) := by decide +kernel
theorem dX6_numberToken_7 : decode cX6_numberToken 7 = .ok (.iload_n 2, 1) := by decide +kernel
theorem dX6_numberToken_8 : decode cX6_numberToken 8 = .ok (.if_icmp .ge 29, 3) := by decide +kernel
theorem dX6_numberToken_11 : decode cX6_numberToken 11 = .ok (.iload_n 3, 1) := by decide +kernel
theorem dX6_numberToken_12 : decode cX6_numberToken 12 = .ok (.sipush 1000, 3) := by decide +kernel
theorem dX6_numberToken_15 : decode cX6_numberToken 15 = .ok (.if_icmp .gt 22, 3) := by decide +kernel
theorem dX6_numberToken_18 : decode cX6_numberToken 18 = .ok (.iload_n 3, 1) := by decide +kernel
theorem dX6_numberToken_19 : decode cX6_numberToken 19 = .ok (.bipush 10, 2) := by decide +kernel
theorem dX6_numberToken_21 : decode cX6_numberToken 21 = .ok (.imul, 1) := by decide +kernel
theorem dX6_numberToken_22 : decode cX6_numberToken 22 = .ok (.aload_n 0, 1) := by decide +kernel
theorem dX6_numberToken_23 : decode cX6_numberToken 23 = .ok (.iload 4, 2) := by decide +kernel
theorem dX6_numberToken_25 : decode cX6_numberToken 25 = .ok (.iaload, 1) := by decide +kernel
theorem dX6_numberToken_26 : decode cX6_numberToken 26 = .ok (.iadd, 1) := by decide +kernel
theorem dX6_numberToken_27 : decode cX6_numberToken 27 = .ok (.bipush 48, 2) := by decide +kernel
theorem dX6_numberToken_29 : decode cX6_numberToken 29 = .ok (.isub, 1) := by decide +kernel
theorem dX6_numberToken_30 : decode cX6_numberToken 30 = .ok (.istore_n 3, 1) := by decide +kernel
theorem dX6_numberToken_31 : decode cX6_numberToken 31 = .ok (.iinc 4 1, 3) := by decide +kernel
theorem dX6_numberToken_34 : decode cX6_numberToken 34 = .ok (.goto (-29), 3) := by decide +kernel
theorem dX6_numberToken_37 : decode cX6_numberToken 37 = .ok (.iload_n 3, 1) := by decide +kernel
theorem dX6_numberToken_38 : decode cX6_numberToken 38 = .ok (.sipush 1000, 3) := by decide +kernel
theorem dX6_numberToken_41 : decode cX6_numberToken 41 = .ok (.if_icmp .gt 11, 3) := by decide +kernel
theorem dX6_numberToken_44 : decode cX6_numberToken 44 = .ok (.sipush 1024, 3) := by decide +kernel
theorem dX6_numberToken_47 : decode cX6_numberToken 47 = .ok (.iload_n 3, 1) := by decide +kernel
theorem dX6_numberToken_48 : decode cX6_numberToken 48 = .ok (.iadd, 1) := by decide +kernel
theorem dX6_numberToken_49 : decode cX6_numberToken 49 = .ok (.goto 5, 3) := by decide +kernel
theorem dX6_numberToken_52 : decode cX6_numberToken 52 = .ok (.bipush (-2), 2) := by decide +kernel
theorem dX6_numberToken_54 : decode cX6_numberToken 54 = .ok (.ireturn, 1) := by decide +kernel
theorem dX6_nextToken_0 : decode cX6_nextToken 0 = .ok (.aload_n 0, 1) := by decide +kernel
theorem dX6_nextToken_1 : decode cX6_nextToken 1 = .ok (.getfield 31, 3) := by decide +kernel
theorem dX6_nextToken_4 : decode cX6_nextToken 4 = .ok (.aload_n 0, 1) := by decide +kernel
theorem dX6_nextToken_5 : decode cX6_nextToken 5 = .ok (.getfield 27, 3) := by decide +kernel
theorem dX6_nextToken_8 : decode cX6_nextToken 8 = .ok (.if_icmp .ge 13, 3) := by decide +kernel
theorem dX6_nextToken_11 : decode cX6_nextToken 11 = .ok (.aload_n 0, 1) := by decide +kernel
theorem dX6_nextToken_12 : decode cX6_nextToken 12 = .ok (.dup, 1) := by decide +kernel
theorem dX6_nextToken_13 : decode cX6_nextToken 13 = .ok (.getfield 31, 3) := by decide +kernel
theorem dX6_nextToken_16 : decode cX6_nextToken 16 = .ok (.iconst 1, 1) := by decide +kernel
theorem dX6_nextToken_17 : decode cX6_nextToken 17 = .ok (.iadd, 1) := by decide +kernel
theorem dX6_nextToken_18 : decode cX6_nextToken 18 = .ok (.putfield 31, 3) := by decide +kernel
theorem dX6_nextToken_21 : decode cX6_nextToken 21 = .ok (.aload_n 0, 1) := by decide +kernel
theorem dX6_nextToken_22 : decode cX6_nextToken 22 = .ok (.aload_n 0, 1) := by decide +kernel
theorem dX6_nextToken_23 : decode cX6_nextToken 23 = .ok (.getfield 20, 3) := by decide +kernel
theorem dX6_nextToken_26 : decode cX6_nextToken 26 = .ok (.aload_n 0, 1) := by decide +kernel
theorem dX6_nextToken_27 : decode cX6_nextToken 27 = .ok (.getfield 31, 3) := by decide +kernel
theorem dX6_nextToken_30 : decode cX6_nextToken 30 = .ok (.iaload, 1) := by decide +kernel
theorem dX6_nextToken_31 : decode cX6_nextToken 31 = .ok (.putfield 34, 3) := by decide +kernel
theorem dX6_nextToken_34 : decode cX6_nextToken 34 = .ok (.return_, 1) := by decide +kernel
theorem dX6_take_0 : decode cX6_take 0 = .ok (.aload_n 0, 1) := by decide +kernel
theorem dX6_take_1 : decode cX6_take 1 = .ok (.getfield 34, 3) := by decide +kernel
theorem dX6_take_4 : decode cX6_take 4 = .ok (.iload_n 1, 1) := by decide +kernel
theorem dX6_take_5 : decode cX6_take 5 = .ok (.if_icmp .eq 5, 3) := by decide +kernel
theorem dX6_take_8 : decode cX6_take 8 = .ok (.iconst 0, 1) := by decide +kernel
theorem dX6_take_9 : decode cX6_take 9 = .ok (.ireturn, 1) := by decide +kernel
theorem dX6_take_10 : decode cX6_take 10 = .ok (.aload_n 0, 1) := by decide +kernel
theorem dX6_take_11 : decode cX6_take 11 = .ok (.invokevirtual 70, 3) := by decide +kernel
theorem dX6_take_14 : decode cX6_take 14 = .ok (.iconst 1, 1) := by decide +kernel
theorem dX6_take_15 : decode cX6_take 15 = .ok (.ireturn, 1) := by decide +kernel
theorem dX6_numberAtHand_0 : decode cX6_numberAtHand 0 = .ok (.aload_n 0, 1) := by decide +kernel
theorem dX6_numberAtHand_1 : decode cX6_numberAtHand 1 = .ok (.getfield 34, 3) := by decide +kernel
theorem dX6_numberAtHand_4 : decode cX6_numberAtHand 4 = .ok (.sipush 1024, 3) := by decide +kernel
theorem dX6_numberAtHand_7 : decode cX6_numberAtHand 7 = .ok (.if_icmp .lt 26, 3) := by decide +kernel
theorem dX6_numberAtHand_10 : decode cX6_numberAtHand 10 = .ok (.aload_n 0, 1) := by decide +kernel
theorem dX6_numberAtHand_11 : decode cX6_numberAtHand 11 = .ok (.getfield 34, 3) := by decide +kernel
theorem dX6_numberAtHand_14 : decode cX6_numberAtHand 14 = .ok (.sipush 1024, 3) := by decide +kernel
theorem dX6_numberAtHand_17 : decode cX6_numberAtHand 17 = .ok (.iload_n 1, 1) := by decide +kernel
theorem dX6_numberAtHand_18 : decode cX6_numberAtHand 18 = .ok (.iadd, 1) := by decide +kernel
theorem dX6_numberAtHand_19 : decode cX6_numberAtHand 19 = .ok (.if_icmp .gt 14, 3) := by decide +kernel
theorem dX6_numberAtHand_22 : decode cX6_numberAtHand 22 = .ok (.aload_n 0, 1) := by decide +kernel
theorem dX6_numberAtHand_23 : decode cX6_numberAtHand 23 = .ok (.getfield 34, 3) := by decide +kernel
theorem dX6_numberAtHand_26 : decode cX6_numberAtHand 26 = .ok (.sipush 1024, 3) := by decide +kernel
theorem dX6_numberAtHand_29 : decode cX6_numberAtHand 29 = .ok (.isub, 1) := by decide +kernel
theorem dX6_numberAtHand_30 : decode cX6_numberAtHand 30 = .ok (.goto 4, 3) := by decide +kernel
theorem dX6_numberAtHand_33 : decode cX6_numberAtHand 33 = .ok (.iconst (-1), 1) := by decide +kernel
theorem dX6_numberAtHand_34 : decode cX6_numberAtHand 34 = .ok (.ireturn, 1) := by decide +kernel
theorem dX6_faultHere_0 : decode cX6_faultHere 0 = .ok (.aload_n 0, 1) := by decide +kernel
theorem dX6_faultHere_1 : decode cX6_faultHere 1 = .ok (.aload_n 0, 1) := by decide +kernel
theorem dX6_faultHere_2 : decode cX6_faultHere 2 = .ok (.getfield 24, 3) := by decide +kernel
theorem dX6_faultHere_5 : decode cX6_faultHere 5 = .ok (.aload_n 0, 1) := by decide +kernel
theorem dX6_faultHere_6 : decode cX6_faultHere 6 = .ok (.getfield 31, 3) := by decide +kernel
theorem dX6_faultHere_9 : decode cX6_faultHere 9 = .ok (.iaload, 1) := by decide +kernel
theorem dX6_faultHere_10 : decode cX6_faultHere 10 = .ok (.putfield 47, 3) := by decide +kernel
theorem dX6_faultHere_13 : decode cX6_faultHere 13 = .ok (.iconst 0, 1) := by decide +kernel
theorem dX6_faultHere_14 : decode cX6_faultHere 14 = .ok (.ireturn, 1) := by decide +kernel
theorem dX6_readClause_0 : decode cX6_readClause 0 = .ok (.aload_n 0, 1) := by decide +kernel
theorem dX6_readClause_1 : decode cX6_readClause 1 = .ok (.getfield 37, 3) := by decide +kernel
theorem dX6_readClause_4 : decode cX6_readClause 4 = .ok (.ifCond .eq 9, 3) := by decide +kernel
theorem dX6_readClause_7 : decode cX6_readClause 7 = .ok (.sipush 259, 3) := by decide +kernel
theorem dX6_readClause_10 : decode cX6_readClause 10 = .ok (.goto 6, 3) := by decide +kernel
theorem dX6_readClause_13 : decode cX6_readClause 13 = .ok (.sipush 256, 3) := by decide +kernel
theorem dX6_readClause_16 : decode cX6_readClause 16 = .ok (.istore_n 1, 1) := by decide +kernel
theorem dX6_readClause_17 : decode cX6_readClause 17 = .ok (.aload_n 0, 1) := by decide +kernel
theorem dX6_readClause_18 : decode cX6_readClause 18 = .ok (.getfield 37, 3) := by decide +kernel
theorem dX6_readClause_21 : decode cX6_readClause 21 = .ok (.ifCond .eq 9, 3) := by decide +kernel
theorem dX6_readClause_24 : decode cX6_readClause 24 = .ok (.sipush 262, 3) := by decide +kernel
theorem dX6_readClause_27 : decode cX6_readClause 27 = .ok (.goto 6, 3) := by decide +kernel
theorem dX6_readClause_30 : decode cX6_readClause 30 = .ok (.sipush 258, 3) := by decide +kernel
theorem dX6_readClause_33 : decode cX6_readClause 33 = .ok (.istore_n 2, 1) := by decide +kernel
theorem dX6_readClause_34 : decode cX6_readClause 34 = .ok (.aload_n 0, 1) := by decide +kernel
theorem dX6_readClause_35 : decode cX6_readClause 35 = .ok (.getfield 34, 3) := by decide +kernel
theorem dX6_readClause_38 : decode cX6_readClause 38 = .ok (.iload_n 1, 1) := by decide +kernel
theorem dX6_readClause_39 : decode cX6_readClause 39 = .ok (.isub, 1) := by decide +kernel
theorem dX6_readClause_40 : decode cX6_readClause 40 = .ok (.istore_n 3, 1) := by decide +kernel
theorem dX6_readClause_41 : decode cX6_readClause 41 = .ok (.aload_n 0, 1) := by decide +kernel
theorem dX6_readClause_42 : decode cX6_readClause 42 = .ok (.getfield 34, 3) := by decide +kernel
theorem dX6_readClause_45 : decode cX6_readClause 45 = .ok (.iload_n 1, 1) := by decide +kernel
theorem dX6_readClause_46 : decode cX6_readClause 46 = .ok (.if_icmp .lt 22, 3) := by decide +kernel
theorem dX6_readClause_49 : decode cX6_readClause 49 = .ok (.aload_n 0, 1) := by decide +kernel
theorem dX6_readClause_50 : decode cX6_readClause 50 = .ok (.getfield 34, 3) := by decide +kernel
theorem dX6_readClause_53 : decode cX6_readClause 53 = .ok (.iload_n 2, 1) := by decide +kernel
theorem dX6_readClause_54 : decode cX6_readClause 54 = .ok (.if_icmp .gt 14, 3) := by decide +kernel
theorem dX6_readClause_57 : decode cX6_readClause 57 = .ok (.aload_n 0, 1) := by decide +kernel
theorem dX6_readClause_58 : decode cX6_readClause 58 = .ok (.getfield 14, 3) := by decide +kernel
theorem dX6_readClause_61 : decode cX6_readClause 61 = .ok (.iload_n 3, 1) := by decide +kernel
theorem dX6_readClause_62 : decode cX6_readClause 62 = .ok (.invokevirtual 109, 3) := by decide +kernel
theorem dX6_readClause_65 : decode cX6_readClause 65 = .ok (.ifCond .ne 8, 3) := by decide +kernel
theorem dX6_readClause_68 : decode cX6_readClause 68 = .ok (.aload_n 0, 1) := by decide +kernel
theorem dX6_readClause_69 : decode cX6_readClause 69 = .ok (.invokevirtual 73, 3) := by decide +kernel
theorem dX6_readClause_72 : decode cX6_readClause 72 = .ok (.ireturn, 1) := by decide +kernel
theorem dX6_readClause_73 : decode cX6_readClause 73 = .ok (.aload_n 0, 1) := by decide +kernel
theorem dX6_readClause_74 : decode cX6_readClause 74 = .ok (.invokevirtual 70, 3) := by decide +kernel
theorem dX6_readClause_77 : decode cX6_readClause 77 = .ok (.aload_n 0, 1) := by decide +kernel
theorem dX6_readClause_78 : decode cX6_readClause 78 = .ok (.getfield 14, 3) := by decide +kernel
theorem dX6_readClause_81 : decode cX6_readClause 81 = .ok (.getfield 112, 3) := by decide +kernel
theorem dX6_readClause_84 : decode cX6_readClause 84 = .ok (.iconst 1, 1) := by decide +kernel
theorem dX6_readClause_85 : decode cX6_readClause 85 = .ok (.isub, 1) := by decide +kernel
theorem dX6_readClause_86 : decode cX6_readClause 86 = .ok (.istore 4, 2) := by decide +kernel
theorem dX6_readClause_88 : decode cX6_readClause 88 = .ok (.aload_n 0, 1) := by decide +kernel
theorem dX6_readClause_89 : decode cX6_readClause 89 = .ok (.getfield 37, 3) := by decide +kernel
theorem dX6_readClause_92 : decode cX6_readClause 92 = .ok (.ifCond .eq 13, 3) := by decide +kernel
theorem dX6_readClause_95 : decode cX6_readClause 95 = .ok (.aload_n 0, 1) := by decide +kernel
theorem dX6_readClause_96 : decode cX6_readClause 96 = .ok (.iload 4, 2) := by decide +kernel
theorem dX6_readClause_98 : decode cX6_readClause 98 = .ok (.iload_n 3, 1) := by decide +kernel
theorem dX6_readClause_99 : decode cX6_readClause 99 = .ok (.invokevirtual 115, 3) := by decide +kernel
theorem dX6_readClause_102 : decode cX6_readClause 102 = .ok (.goto 10, 3) := by decide +kernel
theorem dX6_readClause_105 : decode cX6_readClause 105 = .ok (.aload_n 0, 1) := by decide +kernel
theorem dX6_readClause_106 : decode cX6_readClause 106 = .ok (.iload 4, 2) := by decide +kernel
theorem dX6_readClause_108 : decode cX6_readClause 108 = .ok (.iload_n 3, 1) := by decide +kernel
theorem dX6_readClause_109 : decode cX6_readClause 109 = .ok (.invokevirtual 119, 3) := by decide +kernel
theorem dX6_readClause_112 : decode cX6_readClause 112 = .ok (.istore 5, 2) := by decide +kernel
theorem dX6_readClause_114 : decode cX6_readClause 114 = .ok (.iload 5, 2) := by decide +kernel
theorem dX6_readClause_116 : decode cX6_readClause 116 = .ok (.ifCond .eq 46, 3) := by decide +kernel
theorem dX6_readClause_119 : decode cX6_readClause 119 = .ok (.aload_n 0, 1) := by decide +kernel
theorem dX6_readClause_120 : decode cX6_readClause 120 = .ok (.sipush 263, 3) := by decide +kernel
theorem dX6_readClause_123 : decode cX6_readClause 123 = .ok (.invokevirtual 122, 3) := by decide +kernel
theorem dX6_readClause_126 : decode cX6_readClause 126 = .ok (.ifCond .eq 36, 3) := by decide +kernel
theorem dX6_readClause_129 : decode cX6_readClause 129 = .ok (.aload_n 0, 1) := by decide +kernel
theorem dX6_readClause_130 : decode cX6_readClause 130 = .ok (.getfield 14, 3) := by decide +kernel
theorem dX6_readClause_133 : decode cX6_readClause 133 = .ok (.getfield 125, 3) := by decide +kernel
theorem dX6_readClause_136 : decode cX6_readClause 136 = .ok (.iload 4, 2) := by decide +kernel
theorem dX6_readClause_138 : decode cX6_readClause 138 = .ok (.aload_n 0, 1) := by decide +kernel
theorem dX6_readClause_139 : decode cX6_readClause 139 = .ok (.getfield 14, 3) := by decide +kernel
theorem dX6_readClause_142 : decode cX6_readClause 142 = .ok (.getfield 128, 3) := by decide +kernel
theorem dX6_readClause_145 : decode cX6_readClause 145 = .ok (.iastore, 1) := by decide +kernel
theorem dX6_readClause_146 : decode cX6_readClause 146 = .ok (.aload_n 0, 1) := by decide +kernel
theorem dX6_readClause_147 : decode cX6_readClause 147 = .ok (.invokevirtual 131, 3) := by decide +kernel
theorem dX6_readClause_150 : decode cX6_readClause 150 = .ok (.istore 5, 2) := by decide +kernel
theorem dX6_readClause_152 : decode cX6_readClause 152 = .ok (.aload_n 0, 1) := by decide +kernel
theorem dX6_readClause_153 : decode cX6_readClause 153 = .ok (.getfield 14, 3) := by decide +kernel
theorem dX6_readClause_156 : decode cX6_readClause 156 = .ok (.iconst 0, 1) := by decide +kernel
theorem dX6_readClause_157 : decode cX6_readClause 157 = .ok (.iconst 0, 1) := by decide +kernel
theorem dX6_readClause_158 : decode cX6_readClause 158 = .ok (.invokevirtual 134, 3) := by decide +kernel
theorem dX6_readClause_161 : decode cX6_readClause 161 = .ok (.pop, 1) := by decide +kernel
theorem dX6_readClause_162 : decode cX6_readClause 162 = .ok (.iload 5, 2) := by decide +kernel
theorem dX6_readClause_164 : decode cX6_readClause 164 = .ok (.ireturn, 1) := by decide +kernel
theorem dX6_readLaw_0 : decode cX6_readLaw 0 = .ok (.iload_n 2, 1) := by decide +kernel
theorem dX6_readLaw_1 : decode cX6_readLaw 1 = .ok (.iconst 2, 1) := by decide +kernel
theorem dX6_readLaw_2 : decode cX6_readLaw 2 = .ok (.if_icmp .ne 5, 3) := by decide +kernel
theorem dX6_readLaw_5 : decode cX6_readLaw 5 = .ok (.iconst 1, 1) := by decide +kernel
theorem dX6_readLaw_6 : decode cX6_readLaw 6 = .ok (.ireturn, 1) := by decide +kernel
theorem dX6_readLaw_7 : decode cX6_readLaw 7 = .ok (.aload_n 0, 1) := by decide +kernel
theorem dX6_readLaw_8 : decode cX6_readLaw 8 = .ok (.getfield 14, 3) := by decide +kernel
theorem dX6_readLaw_11 : decode cX6_readLaw 11 = .ok (.getfield 137, 3) := by decide +kernel
theorem dX6_readLaw_14 : decode cX6_readLaw 14 = .ok (.iload_n 1, 1) := by decide +kernel
theorem dX6_readLaw_15 : decode cX6_readLaw 15 = .ok (.aload_n 0, 1) := by decide +kernel
theorem dX6_readLaw_16 : decode cX6_readLaw 16 = .ok (.getfield 14, 3) := by decide +kernel
theorem dX6_readLaw_19 : decode cX6_readLaw 19 = .ok (.getfield 128, 3) := by decide +kernel
theorem dX6_readLaw_22 : decode cX6_readLaw 22 = .ok (.iastore, 1) := by decide +kernel
theorem dX6_readLaw_23 : decode cX6_readLaw 23 = .ok (.aload_n 0, 1) := by decide +kernel
theorem dX6_readLaw_24 : decode cX6_readLaw 24 = .ok (.invokevirtual 140, 3) := by decide +kernel
theorem dX6_readLaw_27 : decode cX6_readLaw 27 = .ok (.istore_n 3, 1) := by decide +kernel
theorem dX6_readLaw_28 : decode cX6_readLaw 28 = .ok (.aload_n 0, 1) := by decide +kernel
theorem dX6_readLaw_29 : decode cX6_readLaw 29 = .ok (.getfield 14, 3) := by decide +kernel
theorem dX6_readLaw_32 : decode cX6_readLaw 32 = .ok (.iconst 0, 1) := by decide +kernel
theorem dX6_readLaw_33 : decode cX6_readLaw 33 = .ok (.iconst 0, 1) := by decide +kernel
theorem dX6_readLaw_34 : decode cX6_readLaw 34 = .ok (.invokevirtual 134, 3) := by decide +kernel
theorem dX6_readLaw_37 : decode cX6_readLaw 37 = .ok (.pop, 1) := by decide +kernel
theorem dX6_readLaw_38 : decode cX6_readLaw 38 = .ok (.iload_n 3, 1) := by decide +kernel
theorem dX6_readLaw_39 : decode cX6_readLaw 39 = .ok (.ireturn, 1) := by decide +kernel
theorem dX6_readOrder_0 : decode cX6_readOrder 0 = .ok (.iconst 1, 1) := by decide +kernel
theorem dX6_readOrder_1 : decode cX6_readOrder 1 = .ok (.istore_n 3, 1) := by decide +kernel
theorem dX6_readOrder_2 : decode cX6_readOrder 2 = .ok (.iload_n 2, 1) := by decide +kernel
theorem dX6_readOrder_3 : decode cX6_readOrder 3 = .ok (.iconst 3, 1) := by decide +kernel
theorem dX6_readOrder_4 : decode cX6_readOrder 4 = .ok (.if_icmp .eq 34, 3) := by decide +kernel
theorem dX6_readOrder_7 : decode cX6_readOrder 7 = .ok (.aload_n 0, 1) := by decide +kernel
theorem dX6_readOrder_8 : decode cX6_readOrder 8 = .ok (.getfield 14, 3) := by decide +kernel
theorem dX6_readOrder_11 : decode cX6_readOrder 11 = .ok (.getfield 137, 3) := by decide +kernel
theorem dX6_readOrder_14 : decode cX6_readOrder 14 = .ok (.iload_n 1, 1) := by decide +kernel
theorem dX6_readOrder_15 : decode cX6_readOrder 15 = .ok (.aload_n 0, 1) := by decide +kernel
theorem dX6_readOrder_16 : decode cX6_readOrder 16 = .ok (.getfield 14, 3) := by decide +kernel
theorem dX6_readOrder_19 : decode cX6_readOrder 19 = .ok (.getfield 128, 3) := by decide +kernel
theorem dX6_readOrder_22 : decode cX6_readOrder 22 = .ok (.iastore, 1) := by decide +kernel
theorem dX6_readOrder_23 : decode cX6_readOrder 23 = .ok (.aload_n 0, 1) := by decide +kernel
theorem dX6_readOrder_24 : decode cX6_readOrder 24 = .ok (.invokevirtual 140, 3) := by decide +kernel
theorem dX6_readOrder_27 : decode cX6_readOrder 27 = .ok (.istore_n 3, 1) := by decide +kernel
theorem dX6_readOrder_28 : decode cX6_readOrder 28 = .ok (.aload_n 0, 1) := by decide +kernel
theorem dX6_readOrder_29 : decode cX6_readOrder 29 = .ok (.getfield 14, 3) := by decide +kernel
theorem dX6_readOrder_32 : decode cX6_readOrder 32 = .ok (.iconst 0, 1) := by decide +kernel
theorem dX6_readOrder_33 : decode cX6_readOrder 33 = .ok (.iconst 0, 1) := by decide +kernel
theorem dX6_readOrder_34 : decode cX6_readOrder 34 = .ok (.invokevirtual 134, 3) := by decide +kernel
theorem dX6_readOrder_37 : decode cX6_readOrder 37 = .ok (.pop, 1) := by decide +kernel
theorem dX6_readOrder_38 : decode cX6_readOrder 38 = .ok (.iload_n 3, 1) := by decide +kernel
theorem dX6_readOrder_39 : decode cX6_readOrder 39 = .ok (.ifCond .eq 54, 3) := by decide +kernel
theorem dX6_readOrder_42 : decode cX6_readOrder 42 = .ok (.iload_n 2, 1) := by decide +kernel
theorem dX6_readOrder_43 : decode cX6_readOrder 43 = .ok (.iconst 2, 1) := by decide +kernel
theorem dX6_readOrder_44 : decode cX6_readOrder 44 = .ok (.if_icmp .ne 49, 3) := by decide +kernel
theorem dX6_readOrder_47 : decode cX6_readOrder 47 = .ok (.aload_n 0, 1) := by decide +kernel
theorem dX6_readOrder_48 : decode cX6_readOrder 48 = .ok (.sipush 264, 3) := by decide +kernel
theorem dX6_readOrder_51 : decode cX6_readOrder 51 = .ok (.invokevirtual 122, 3) := by decide +kernel
theorem dX6_readOrder_54 : decode cX6_readOrder 54 = .ok (.ifCond .ne 8, 3) := by decide +kernel
theorem dX6_readOrder_57 : decode cX6_readOrder 57 = .ok (.aload_n 0, 1) := by decide +kernel
theorem dX6_readOrder_58 : decode cX6_readOrder 58 = .ok (.invokevirtual 73, 3) := by decide +kernel
theorem dX6_readOrder_61 : decode cX6_readOrder 61 = .ok (.ireturn, 1) := by decide +kernel
theorem dX6_readOrder_62 : decode cX6_readOrder 62 = .ok (.aload_n 0, 1) := by decide +kernel
theorem dX6_readOrder_63 : decode cX6_readOrder 63 = .ok (.getfield 14, 3) := by decide +kernel
theorem dX6_readOrder_66 : decode cX6_readOrder 66 = .ok (.getfield 143, 3) := by decide +kernel
theorem dX6_readOrder_69 : decode cX6_readOrder 69 = .ok (.iload_n 1, 1) := by decide +kernel
theorem dX6_readOrder_70 : decode cX6_readOrder 70 = .ok (.aload_n 0, 1) := by decide +kernel
theorem dX6_readOrder_71 : decode cX6_readOrder 71 = .ok (.getfield 14, 3) := by decide +kernel
theorem dX6_readOrder_74 : decode cX6_readOrder 74 = .ok (.getfield 128, 3) := by decide +kernel
theorem dX6_readOrder_77 : decode cX6_readOrder 77 = .ok (.iastore, 1) := by decide +kernel
theorem dX6_readOrder_78 : decode cX6_readOrder 78 = .ok (.aload_n 0, 1) := by decide +kernel
theorem dX6_readOrder_79 : decode cX6_readOrder 79 = .ok (.invokevirtual 140, 3) := by decide +kernel
theorem dX6_readOrder_82 : decode cX6_readOrder 82 = .ok (.istore_n 3, 1) := by decide +kernel
theorem dX6_readOrder_83 : decode cX6_readOrder 83 = .ok (.aload_n 0, 1) := by decide +kernel
theorem dX6_readOrder_84 : decode cX6_readOrder 84 = .ok (.getfield 14, 3) := by decide +kernel
theorem dX6_readOrder_87 : decode cX6_readOrder 87 = .ok (.iconst 0, 1) := by decide +kernel
theorem dX6_readOrder_88 : decode cX6_readOrder 88 = .ok (.iconst 0, 1) := by decide +kernel
theorem dX6_readOrder_89 : decode cX6_readOrder 89 = .ok (.invokevirtual 134, 3) := by decide +kernel
theorem dX6_readOrder_92 : decode cX6_readOrder 92 = .ok (.pop, 1) := by decide +kernel
theorem dX6_readOrder_93 : decode cX6_readOrder 93 = .ok (.iload_n 3, 1) := by decide +kernel
theorem dX6_readOrder_94 : decode cX6_readOrder 94 = .ok (.ifCond .eq 47, 3) := by decide +kernel
theorem dX6_readOrder_97 : decode cX6_readOrder 97 = .ok (.aload_n 0, 1) := by decide +kernel
theorem dX6_readOrder_98 : decode cX6_readOrder 98 = .ok (.sipush 265, 3) := by decide +kernel
theorem dX6_readOrder_101 : decode cX6_readOrder 101 = .ok (.invokevirtual 122, 3) := by decide +kernel
theorem dX6_readOrder_104 : decode cX6_readOrder 104 = .ok (.ifCond .eq 37, 3) := by decide +kernel
theorem dX6_readOrder_107 : decode cX6_readOrder 107 = .ok (.aload_n 0, 1) := by decide +kernel
theorem dX6_readOrder_108 : decode cX6_readOrder 108 = .ok (.bipush 20, 2) := by decide +kernel
theorem dX6_readOrder_110 : decode cX6_readOrder 110 = .ok (.invokevirtual 146, 3) := by decide +kernel
theorem dX6_readOrder_113 : decode cX6_readOrder 113 = .ok (.istore 4, 2) := by decide +kernel
theorem dX6_readOrder_115 : decode cX6_readOrder 115 = .ok (.iload 4, 2) := by decide +kernel
theorem dX6_readOrder_117 : decode cX6_readOrder 117 = .ok (.iconst 1, 1) := by decide +kernel
theorem dX6_readOrder_118 : decode cX6_readOrder 118 = .ok (.if_icmp .ge 8, 3) := by decide +kernel
theorem dX6_readOrder_121 : decode cX6_readOrder 121 = .ok (.aload_n 0, 1) := by decide +kernel
theorem dX6_readOrder_122 : decode cX6_readOrder 122 = .ok (.invokevirtual 73, 3) := by decide +kernel
theorem dX6_readOrder_125 : decode cX6_readOrder 125 = .ok (.ireturn, 1) := by decide +kernel
theorem dX6_readOrder_126 : decode cX6_readOrder 126 = .ok (.aload_n 0, 1) := by decide +kernel
theorem dX6_readOrder_127 : decode cX6_readOrder 127 = .ok (.getfield 14, 3) := by decide +kernel
theorem dX6_readOrder_130 : decode cX6_readOrder 130 = .ok (.getfield 150, 3) := by decide +kernel
theorem dX6_readOrder_133 : decode cX6_readOrder 133 = .ok (.iload_n 1, 1) := by decide +kernel
theorem dX6_readOrder_134 : decode cX6_readOrder 134 = .ok (.iload 4, 2) := by decide +kernel
theorem dX6_readOrder_136 : decode cX6_readOrder 136 = .ok (.iastore, 1) := by decide +kernel
theorem dX6_readOrder_137 : decode cX6_readOrder 137 = .ok (.aload_n 0, 1) := by decide +kernel
theorem dX6_readOrder_138 : decode cX6_readOrder 138 = .ok (.invokevirtual 70, 3) := by decide +kernel
theorem dX6_readOrder_141 : decode cX6_readOrder 141 = .ok (.iload_n 3, 1) := by decide +kernel
theorem dX6_readOrder_142 : decode cX6_readOrder 142 = .ok (.ireturn, 1) := by decide +kernel
theorem dX6_readTest_0 : decode cX6_readTest 0 = .ok (.aload_n 0, 1) := by decide +kernel
theorem dX6_readTest_1 : decode cX6_readTest 1 = .ok (.invokevirtual 153, 3) := by decide +kernel
theorem dX6_readTest_4 : decode cX6_readTest 4 = .ok (.istore_n 1, 1) := by decide +kernel
theorem dX6_readTest_5 : decode cX6_readTest 5 = .ok (.iconst 0, 1) := by decide +kernel
theorem dX6_readTest_6 : decode cX6_readTest 6 = .ok (.istore_n 2, 1) := by decide +kernel
theorem dX6_readTest_7 : decode cX6_readTest 7 = .ok (.iload_n 2, 1) := by decide +kernel
theorem dX6_readTest_8 : decode cX6_readTest 8 = .ok (.sipush 400, 3) := by decide +kernel
theorem dX6_readTest_11 : decode cX6_readTest 11 = .ok (.if_icmp .ge 46, 3) := by decide +kernel
theorem dX6_readTest_14 : decode cX6_readTest 14 = .ok (.iload_n 1, 1) := by decide +kernel
theorem dX6_readTest_15 : decode cX6_readTest 15 = .ok (.ifCond .eq 42, 3) := by decide +kernel
theorem dX6_readTest_18 : decode cX6_readTest 18 = .ok (.aload_n 0, 1) := by decide +kernel
theorem dX6_readTest_19 : decode cX6_readTest 19 = .ok (.sipush 266, 3) := by decide +kernel
theorem dX6_readTest_22 : decode cX6_readTest 22 = .ok (.invokevirtual 122, 3) := by decide +kernel
theorem dX6_readTest_25 : decode cX6_readTest 25 = .ok (.ifCond .eq 32, 3) := by decide +kernel
theorem dX6_readTest_28 : decode cX6_readTest 28 = .ok (.aload_n 0, 1) := by decide +kernel
theorem dX6_readTest_29 : decode cX6_readTest 29 = .ok (.getfield 14, 3) := by decide +kernel
theorem dX6_readTest_32 : decode cX6_readTest 32 = .ok (.iconst 5, 1) := by decide +kernel
theorem dX6_readTest_33 : decode cX6_readTest 33 = .ok (.iconst 0, 1) := by decide +kernel
theorem dX6_readTest_34 : decode cX6_readTest 34 = .ok (.invokevirtual 134, 3) := by decide +kernel
theorem dX6_readTest_37 : decode cX6_readTest 37 = .ok (.istore_n 3, 1) := by decide +kernel
theorem dX6_readTest_38 : decode cX6_readTest 38 = .ok (.aload_n 0, 1) := by decide +kernel
theorem dX6_readTest_39 : decode cX6_readTest 39 = .ok (.invokevirtual 153, 3) := by decide +kernel
theorem dX6_readTest_42 : decode cX6_readTest 42 = .ok (.istore_n 1, 1) := by decide +kernel
theorem dX6_readTest_43 : decode cX6_readTest 43 = .ok (.aload_n 0, 1) := by decide +kernel
theorem dX6_readTest_44 : decode cX6_readTest 44 = .ok (.getfield 14, 3) := by decide +kernel
theorem dX6_readTest_47 : decode cX6_readTest 47 = .ok (.iload_n 3, 1) := by decide +kernel
theorem dX6_readTest_48 : decode cX6_readTest 48 = .ok (.invokevirtual 156, 3) := by decide +kernel
theorem dX6_readTest_51 : decode cX6_readTest 51 = .ok (.iinc 2 1, 3) := by decide +kernel
theorem dX6_readTest_54 : decode cX6_readTest 54 = .ok (.goto (-47), 3) := by decide +kernel
theorem dX6_readTest_57 : decode cX6_readTest 57 = .ok (.iload_n 1, 1) := by decide +kernel
theorem dX6_readTest_58 : decode cX6_readTest 58 = .ok (.ireturn, 1) := by decide +kernel
theorem dX6_readBoth_0 : decode cX6_readBoth 0 = .ok (.aload_n 0, 1) := by decide +kernel
theorem dX6_readBoth_1 : decode cX6_readBoth 1 = .ok (.invokevirtual 160, 3) := by decide +kernel
theorem dX6_readBoth_4 : decode cX6_readBoth 4 = .ok (.istore_n 1, 1) := by decide +kernel
theorem dX6_readBoth_5 : decode cX6_readBoth 5 = .ok (.iconst 0, 1) := by decide +kernel
theorem dX6_readBoth_6 : decode cX6_readBoth 6 = .ok (.istore_n 2, 1) := by decide +kernel
theorem dX6_readBoth_7 : decode cX6_readBoth 7 = .ok (.iload_n 2, 1) := by decide +kernel
theorem dX6_readBoth_8 : decode cX6_readBoth 8 = .ok (.sipush 400, 3) := by decide +kernel
theorem dX6_readBoth_11 : decode cX6_readBoth 11 = .ok (.if_icmp .ge 46, 3) := by decide +kernel
theorem dX6_readBoth_14 : decode cX6_readBoth 14 = .ok (.iload_n 1, 1) := by decide +kernel
theorem dX6_readBoth_15 : decode cX6_readBoth 15 = .ok (.ifCond .eq 42, 3) := by decide +kernel
theorem dX6_readBoth_18 : decode cX6_readBoth 18 = .ok (.aload_n 0, 1) := by decide +kernel
theorem dX6_readBoth_19 : decode cX6_readBoth 19 = .ok (.sipush 267, 3) := by decide +kernel
theorem dX6_readBoth_22 : decode cX6_readBoth 22 = .ok (.invokevirtual 122, 3) := by decide +kernel
theorem dX6_readBoth_25 : decode cX6_readBoth 25 = .ok (.ifCond .eq 32, 3) := by decide +kernel
theorem dX6_readBoth_28 : decode cX6_readBoth 28 = .ok (.aload_n 0, 1) := by decide +kernel
theorem dX6_readBoth_29 : decode cX6_readBoth 29 = .ok (.getfield 14, 3) := by decide +kernel
theorem dX6_readBoth_32 : decode cX6_readBoth 32 = .ok (.iconst 4, 1) := by decide +kernel
theorem dX6_readBoth_33 : decode cX6_readBoth 33 = .ok (.iconst 0, 1) := by decide +kernel
theorem dX6_readBoth_34 : decode cX6_readBoth 34 = .ok (.invokevirtual 134, 3) := by decide +kernel
theorem dX6_readBoth_37 : decode cX6_readBoth 37 = .ok (.istore_n 3, 1) := by decide +kernel
theorem dX6_readBoth_38 : decode cX6_readBoth 38 = .ok (.aload_n 0, 1) := by decide +kernel
theorem dX6_readBoth_39 : decode cX6_readBoth 39 = .ok (.invokevirtual 160, 3) := by decide +kernel
theorem dX6_readBoth_42 : decode cX6_readBoth 42 = .ok (.istore_n 1, 1) := by decide +kernel
theorem dX6_readBoth_43 : decode cX6_readBoth 43 = .ok (.aload_n 0, 1) := by decide +kernel
theorem dX6_readBoth_44 : decode cX6_readBoth 44 = .ok (.getfield 14, 3) := by decide +kernel
theorem dX6_readBoth_47 : decode cX6_readBoth 47 = .ok (.iload_n 3, 1) := by decide +kernel
theorem dX6_readBoth_48 : decode cX6_readBoth 48 = .ok (.invokevirtual 156, 3) := by decide +kernel
theorem dX6_readBoth_51 : decode cX6_readBoth 51 = .ok (.iinc 2 1, 3) := by decide +kernel
theorem dX6_readBoth_54 : decode cX6_readBoth 54 = .ok (.goto (-47), 3) := by decide +kernel
theorem dX6_readBoth_57 : decode cX6_readBoth 57 = .ok (.iload_n 1, 1) := by decide +kernel
theorem dX6_readBoth_58 : decode cX6_readBoth 58 = .ok (.ireturn, 1) := by decide +kernel
theorem dX6_readPlain_0 : decode cX6_readPlain 0 = .ok (.iconst 0, 1) := by decide +kernel
theorem dX6_readPlain_1 : decode cX6_readPlain 1 = .ok (.istore_n 1, 1) := by decide +kernel
theorem dX6_readPlain_2 : decode cX6_readPlain 2 = .ok (.iconst 0, 1) := by decide +kernel
theorem dX6_readPlain_3 : decode cX6_readPlain 3 = .ok (.istore_n 2, 1) := by decide +kernel
theorem dX6_readPlain_4 : decode cX6_readPlain 4 = .ok (.iload_n 2, 1) := by decide +kernel
theorem dX6_readPlain_5 : decode cX6_readPlain 5 = .ok (.sipush 400, 3) := by decide +kernel
theorem dX6_readPlain_8 : decode cX6_readPlain 8 = .ok (.if_icmp .ge 29, 3) := by decide +kernel
theorem dX6_readPlain_11 : decode cX6_readPlain 11 = .ok (.aload_n 0, 1) := by decide +kernel
theorem dX6_readPlain_12 : decode cX6_readPlain 12 = .ok (.sipush 268, 3) := by decide +kernel
theorem dX6_readPlain_15 : decode cX6_readPlain 15 = .ok (.invokevirtual 122, 3) := by decide +kernel
theorem dX6_readPlain_18 : decode cX6_readPlain 18 = .ok (.ifCond .eq 19, 3) := by decide +kernel
theorem dX6_readPlain_21 : decode cX6_readPlain 21 = .ok (.iload_n 1, 1) := by decide +kernel
theorem dX6_readPlain_22 : decode cX6_readPlain 22 = .ok (.ifCond .ne 7, 3) := by decide +kernel
theorem dX6_readPlain_25 : decode cX6_readPlain 25 = .ok (.iconst 1, 1) := by decide +kernel
theorem dX6_readPlain_26 : decode cX6_readPlain 26 = .ok (.goto 4, 3) := by decide +kernel
theorem dX6_readPlain_29 : decode cX6_readPlain 29 = .ok (.iconst 0, 1) := by decide +kernel
theorem dX6_readPlain_30 : decode cX6_readPlain 30 = .ok (.istore_n 1, 1) := by decide +kernel
theorem dX6_readPlain_31 : decode cX6_readPlain 31 = .ok (.iinc 2 1, 3) := by decide +kernel
theorem dX6_readPlain_34 : decode cX6_readPlain 34 = .ok (.goto (-30), 3) := by decide +kernel
theorem dX6_readPlain_37 : decode cX6_readPlain 37 = .ok (.aload_n 0, 1) := by decide +kernel
theorem dX6_readPlain_38 : decode cX6_readPlain 38 = .ok (.getfield 34, 3) := by decide +kernel
theorem dX6_readPlain_41 : decode cX6_readPlain 41 = .ok (.bipush 40, 2) := by decide +kernel
theorem dX6_readPlain_43 : decode cX6_readPlain 43 = .ok (.if_icmp .ne 11, 3) := by decide +kernel
theorem dX6_readPlain_46 : decode cX6_readPlain 46 = .ok (.aload_n 0, 1) := by decide +kernel
theorem dX6_readPlain_47 : decode cX6_readPlain 47 = .ok (.iconst 1, 1) := by decide +kernel
theorem dX6_readPlain_48 : decode cX6_readPlain 48 = .ok (.invokevirtual 163, 3) := by decide +kernel
theorem dX6_readPlain_51 : decode cX6_readPlain 51 = .ok (.goto 7, 3) := by decide +kernel
theorem dX6_readPlain_54 : decode cX6_readPlain 54 = .ok (.aload_n 0, 1) := by decide +kernel
theorem dX6_readPlain_55 : decode cX6_readPlain 55 = .ok (.invokevirtual 167, 3) := by decide +kernel
theorem dX6_readPlain_58 : decode cX6_readPlain 58 = .ok (.istore_n 2, 1) := by decide +kernel
theorem dX6_readPlain_59 : decode cX6_readPlain 59 = .ok (.iload_n 2, 1) := by decide +kernel
theorem dX6_readPlain_60 : decode cX6_readPlain 60 = .ok (.ifCond .eq 17, 3) := by decide +kernel
theorem dX6_readPlain_63 : decode cX6_readPlain 63 = .ok (.iload_n 1, 1) := by decide +kernel
theorem dX6_readPlain_64 : decode cX6_readPlain 64 = .ok (.ifCond .eq 13, 3) := by decide +kernel
theorem dX6_readPlain_67 : decode cX6_readPlain 67 = .ok (.aload_n 0, 1) := by decide +kernel
theorem dX6_readPlain_68 : decode cX6_readPlain 68 = .ok (.getfield 14, 3) := by decide +kernel
theorem dX6_readPlain_71 : decode cX6_readPlain 71 = .ok (.iconst 3, 1) := by decide +kernel
theorem dX6_readPlain_72 : decode cX6_readPlain 72 = .ok (.iconst 0, 1) := by decide +kernel
theorem dX6_readPlain_73 : decode cX6_readPlain 73 = .ok (.invokevirtual 134, 3) := by decide +kernel
theorem dX6_readPlain_76 : decode cX6_readPlain 76 = .ok (.pop, 1) := by decide +kernel
theorem dX6_readPlain_77 : decode cX6_readPlain 77 = .ok (.iload_n 2, 1) := by decide +kernel
theorem dX6_readPlain_78 : decode cX6_readPlain 78 = .ok (.ireturn, 1) := by decide +kernel
theorem dX6_readComparison_0 : decode cX6_readComparison 0 = .ok (.aload_n 0, 1) := by decide +kernel
theorem dX6_readComparison_1 : decode cX6_readComparison 1 = .ok (.invokevirtual 140, 3) := by decide +kernel
theorem dX6_readComparison_4 : decode cX6_readComparison 4 = .ok (.ifCond .ne 5, 3) := by decide +kernel
theorem dX6_readComparison_7 : decode cX6_readComparison 7 = .ok (.iconst 0, 1) := by decide +kernel
theorem dX6_readComparison_8 : decode cX6_readComparison 8 = .ok (.ireturn, 1) := by decide +kernel
theorem dX6_readComparison_9 : decode cX6_readComparison 9 = .ok (.aload_n 0, 1) := by decide +kernel
theorem dX6_readComparison_10 : decode cX6_readComparison 10 = .ok (.getfield 34, 3) := by decide +kernel
theorem dX6_readComparison_13 : decode cX6_readComparison 13 = .ok (.bipush 60, 2) := by decide +kernel
theorem dX6_readComparison_15 : decode cX6_readComparison 15 = .ok (.if_icmp .ne 8, 3) := by decide +kernel
theorem dX6_readComparison_18 : decode cX6_readComparison 18 = .ok (.bipush 6, 2) := by decide +kernel
theorem dX6_readComparison_20 : decode cX6_readComparison 20 = .ok (.goto 19, 3) := by decide +kernel
theorem dX6_readComparison_23 : decode cX6_readComparison 23 = .ok (.aload_n 0, 1) := by decide +kernel
theorem dX6_readComparison_24 : decode cX6_readComparison 24 = .ok (.getfield 34, 3) := by decide +kernel
theorem dX6_readComparison_27 : decode cX6_readComparison 27 = .ok (.bipush 62, 2) := by decide +kernel
theorem dX6_readComparison_29 : decode cX6_readComparison 29 = .ok (.if_icmp .ne 8, 3) := by decide +kernel
theorem dX6_readComparison_32 : decode cX6_readComparison 32 = .ok (.bipush 7, 2) := by decide +kernel
theorem dX6_readComparison_34 : decode cX6_readComparison 34 = .ok (.goto 5, 3) := by decide +kernel
theorem dX6_readComparison_37 : decode cX6_readComparison 37 = .ok (.bipush 8, 2) := by decide +kernel
theorem dX6_readComparison_39 : decode cX6_readComparison 39 = .ok (.istore_n 1, 1) := by decide +kernel
theorem dX6_readComparison_40 : decode cX6_readComparison 40 = .ok (.iload_n 1, 1) := by decide +kernel
theorem dX6_readComparison_41 : decode cX6_readComparison 41 = .ok (.bipush 8, 2) := by decide +kernel
theorem dX6_readComparison_43 : decode cX6_readComparison 43 = .ok (.if_icmp .ne 17, 3) := by decide +kernel
theorem dX6_readComparison_46 : decode cX6_readComparison 46 = .ok (.aload_n 0, 1) := by decide +kernel
theorem dX6_readComparison_47 : decode cX6_readComparison 47 = .ok (.getfield 34, 3) := by decide +kernel
theorem dX6_readComparison_50 : decode cX6_readComparison 50 = .ok (.bipush 61, 2) := by decide +kernel
theorem dX6_readComparison_52 : decode cX6_readComparison 52 = .ok (.if_icmp .eq 8, 3) := by decide +kernel
theorem dX6_readComparison_55 : decode cX6_readComparison 55 = .ok (.aload_n 0, 1) := by decide +kernel
theorem dX6_readComparison_56 : decode cX6_readComparison 56 = .ok (.invokevirtual 73, 3) := by decide +kernel
theorem dX6_readComparison_59 : decode cX6_readComparison 59 = .ok (.ireturn, 1) := by decide +kernel
theorem dX6_readComparison_60 : decode cX6_readComparison 60 = .ok (.aload_n 0, 1) := by decide +kernel
theorem dX6_readComparison_61 : decode cX6_readComparison 61 = .ok (.invokevirtual 70, 3) := by decide +kernel
theorem dX6_readComparison_64 : decode cX6_readComparison 64 = .ok (.aload_n 0, 1) := by decide +kernel
theorem dX6_readComparison_65 : decode cX6_readComparison 65 = .ok (.invokevirtual 140, 3) := by decide +kernel
theorem dX6_readComparison_68 : decode cX6_readComparison 68 = .ok (.istore_n 2, 1) := by decide +kernel
theorem dX6_readComparison_69 : decode cX6_readComparison 69 = .ok (.aload_n 0, 1) := by decide +kernel
theorem dX6_readComparison_70 : decode cX6_readComparison 70 = .ok (.getfield 14, 3) := by decide +kernel
theorem dX6_readComparison_73 : decode cX6_readComparison 73 = .ok (.iload_n 1, 1) := by decide +kernel
theorem dX6_readComparison_74 : decode cX6_readComparison 74 = .ok (.iconst 0, 1) := by decide +kernel
theorem dX6_readComparison_75 : decode cX6_readComparison 75 = .ok (.invokevirtual 134, 3) := by decide +kernel
theorem dX6_readComparison_78 : decode cX6_readComparison 78 = .ok (.pop, 1) := by decide +kernel
theorem dX6_readComparison_79 : decode cX6_readComparison 79 = .ok (.iload_n 2, 1) := by decide +kernel
theorem dX6_readComparison_80 : decode cX6_readComparison 80 = .ok (.ireturn, 1) := by decide +kernel
theorem dX6_readSum_0 : decode cX6_readSum 0 = .ok (.aload_n 0, 1) := by decide +kernel
theorem dX6_readSum_1 : decode cX6_readSum 1 = .ok (.invokevirtual 170, 3) := by decide +kernel
theorem dX6_readSum_4 : decode cX6_readSum 4 = .ok (.istore_n 1, 1) := by decide +kernel
theorem dX6_readSum_5 : decode cX6_readSum 5 = .ok (.iconst 0, 1) := by decide +kernel
theorem dX6_readSum_6 : decode cX6_readSum 6 = .ok (.istore_n 2, 1) := by decide +kernel
theorem dX6_readSum_7 : decode cX6_readSum 7 = .ok (.iload_n 2, 1) := by decide +kernel
theorem dX6_readSum_8 : decode cX6_readSum 8 = .ok (.sipush 400, 3) := by decide +kernel
theorem dX6_readSum_11 : decode cX6_readSum 11 = .ok (.if_icmp .ge 67, 3) := by decide +kernel
theorem dX6_readSum_14 : decode cX6_readSum 14 = .ok (.iload_n 1, 1) := by decide +kernel
theorem dX6_readSum_15 : decode cX6_readSum 15 = .ok (.ifCond .eq 63, 3) := by decide +kernel
theorem dX6_readSum_18 : decode cX6_readSum 18 = .ok (.aload_n 0, 1) := by decide +kernel
theorem dX6_readSum_19 : decode cX6_readSum 19 = .ok (.getfield 34, 3) := by decide +kernel
theorem dX6_readSum_22 : decode cX6_readSum 22 = .ok (.bipush 43, 2) := by decide +kernel
theorem dX6_readSum_24 : decode cX6_readSum 24 = .ok (.if_icmp .eq 12, 3) := by decide +kernel
theorem dX6_readSum_27 : decode cX6_readSum 27 = .ok (.aload_n 0, 1) := by decide +kernel
theorem dX6_readSum_28 : decode cX6_readSum 28 = .ok (.getfield 34, 3) := by decide +kernel
theorem dX6_readSum_31 : decode cX6_readSum 31 = .ok (.bipush 45, 2) := by decide +kernel
theorem dX6_readSum_33 : decode cX6_readSum 33 = .ok (.if_icmp .ne 45, 3) := by decide +kernel
theorem dX6_readSum_36 : decode cX6_readSum 36 = .ok (.aload_n 0, 1) := by decide +kernel
theorem dX6_readSum_37 : decode cX6_readSum 37 = .ok (.getfield 34, 3) := by decide +kernel
theorem dX6_readSum_40 : decode cX6_readSum 40 = .ok (.bipush 43, 2) := by decide +kernel
theorem dX6_readSum_42 : decode cX6_readSum 42 = .ok (.if_icmp .ne 8, 3) := by decide +kernel
theorem dX6_readSum_45 : decode cX6_readSum 45 = .ok (.bipush 9, 2) := by decide +kernel
theorem dX6_readSum_47 : decode cX6_readSum 47 = .ok (.goto 5, 3) := by decide +kernel
theorem dX6_readSum_50 : decode cX6_readSum 50 = .ok (.bipush 10, 2) := by decide +kernel
theorem dX6_readSum_52 : decode cX6_readSum 52 = .ok (.istore_n 3, 1) := by decide +kernel
theorem dX6_readSum_53 : decode cX6_readSum 53 = .ok (.aload_n 0, 1) := by decide +kernel
theorem dX6_readSum_54 : decode cX6_readSum 54 = .ok (.invokevirtual 70, 3) := by decide +kernel
theorem dX6_readSum_57 : decode cX6_readSum 57 = .ok (.aload_n 0, 1) := by decide +kernel
theorem dX6_readSum_58 : decode cX6_readSum 58 = .ok (.invokevirtual 170, 3) := by decide +kernel
theorem dX6_readSum_61 : decode cX6_readSum 61 = .ok (.istore_n 1, 1) := by decide +kernel
theorem dX6_readSum_62 : decode cX6_readSum 62 = .ok (.aload_n 0, 1) := by decide +kernel
theorem dX6_readSum_63 : decode cX6_readSum 63 = .ok (.getfield 14, 3) := by decide +kernel
theorem dX6_readSum_66 : decode cX6_readSum 66 = .ok (.iload_n 3, 1) := by decide +kernel
theorem dX6_readSum_67 : decode cX6_readSum 67 = .ok (.iconst 0, 1) := by decide +kernel
theorem dX6_readSum_68 : decode cX6_readSum 68 = .ok (.invokevirtual 134, 3) := by decide +kernel
theorem dX6_readSum_71 : decode cX6_readSum 71 = .ok (.pop, 1) := by decide +kernel
theorem dX6_readSum_72 : decode cX6_readSum 72 = .ok (.iinc 2 1, 3) := by decide +kernel
theorem dX6_readSum_75 : decode cX6_readSum 75 = .ok (.goto (-68), 3) := by decide +kernel
theorem dX6_readSum_78 : decode cX6_readSum 78 = .ok (.iload_n 1, 1) := by decide +kernel
theorem dX6_readSum_79 : decode cX6_readSum 79 = .ok (.ireturn, 1) := by decide +kernel
theorem dX6_readTerm_0 : decode cX6_readTerm 0 = .ok (.aload_n 0, 1) := by decide +kernel
theorem dX6_readTerm_1 : decode cX6_readTerm 1 = .ok (.invokevirtual 173, 3) := by decide +kernel
theorem dX6_readTerm_4 : decode cX6_readTerm 4 = .ok (.istore_n 1, 1) := by decide +kernel
theorem dX6_readTerm_5 : decode cX6_readTerm 5 = .ok (.iconst 0, 1) := by decide +kernel
theorem dX6_readTerm_6 : decode cX6_readTerm 6 = .ok (.istore_n 2, 1) := by decide +kernel
theorem dX6_readTerm_7 : decode cX6_readTerm 7 = .ok (.iload_n 2, 1) := by decide +kernel
theorem dX6_readTerm_8 : decode cX6_readTerm 8 = .ok (.sipush 400, 3) := by decide +kernel
theorem dX6_readTerm_11 : decode cX6_readTerm 11 = .ok (.if_icmp .ge 90, 3) := by decide +kernel
theorem dX6_readTerm_14 : decode cX6_readTerm 14 = .ok (.iload_n 1, 1) := by decide +kernel
theorem dX6_readTerm_15 : decode cX6_readTerm 15 = .ok (.ifCond .eq 86, 3) := by decide +kernel
theorem dX6_readTerm_18 : decode cX6_readTerm 18 = .ok (.aload_n 0, 1) := by decide +kernel
theorem dX6_readTerm_19 : decode cX6_readTerm 19 = .ok (.getfield 34, 3) := by decide +kernel
theorem dX6_readTerm_22 : decode cX6_readTerm 22 = .ok (.bipush 42, 2) := by decide +kernel
theorem dX6_readTerm_24 : decode cX6_readTerm 24 = .ok (.if_icmp .eq 21, 3) := by decide +kernel
theorem dX6_readTerm_27 : decode cX6_readTerm 27 = .ok (.aload_n 0, 1) := by decide +kernel
theorem dX6_readTerm_28 : decode cX6_readTerm 28 = .ok (.getfield 34, 3) := by decide +kernel
theorem dX6_readTerm_31 : decode cX6_readTerm 31 = .ok (.bipush 47, 2) := by decide +kernel
theorem dX6_readTerm_33 : decode cX6_readTerm 33 = .ok (.if_icmp .eq 12, 3) := by decide +kernel
theorem dX6_readTerm_36 : decode cX6_readTerm 36 = .ok (.aload_n 0, 1) := by decide +kernel
theorem dX6_readTerm_37 : decode cX6_readTerm 37 = .ok (.getfield 34, 3) := by decide +kernel
theorem dX6_readTerm_40 : decode cX6_readTerm 40 = .ok (.bipush 37, 2) := by decide +kernel
theorem dX6_readTerm_42 : decode cX6_readTerm 42 = .ok (.if_icmp .ne 59, 3) := by decide +kernel
theorem dX6_readTerm_45 : decode cX6_readTerm 45 = .ok (.aload_n 0, 1) := by decide +kernel
theorem dX6_readTerm_46 : decode cX6_readTerm 46 = .ok (.getfield 34, 3) := by decide +kernel
theorem dX6_readTerm_49 : decode cX6_readTerm 49 = .ok (.bipush 42, 2) := by decide +kernel
theorem dX6_readTerm_51 : decode cX6_readTerm 51 = .ok (.if_icmp .ne 8, 3) := by decide +kernel
theorem dX6_readTerm_54 : decode cX6_readTerm 54 = .ok (.bipush 11, 2) := by decide +kernel
theorem dX6_readTerm_56 : decode cX6_readTerm 56 = .ok (.goto 19, 3) := by decide +kernel
theorem dX6_readTerm_59 : decode cX6_readTerm 59 = .ok (.aload_n 0, 1) := by decide +kernel
theorem dX6_readTerm_60 : decode cX6_readTerm 60 = .ok (.getfield 34, 3) := by decide +kernel
theorem dX6_readTerm_63 : decode cX6_readTerm 63 = .ok (.bipush 47, 2) := by decide +kernel
theorem dX6_readTerm_65 : decode cX6_readTerm 65 = .ok (.if_icmp .ne 8, 3) := by decide +kernel
theorem dX6_readTerm_68 : decode cX6_readTerm 68 = .ok (.bipush 12, 2) := by decide +kernel
theorem dX6_readTerm_70 : decode cX6_readTerm 70 = .ok (.goto 5, 3) := by decide +kernel
theorem dX6_readTerm_73 : decode cX6_readTerm 73 = .ok (.bipush 13, 2) := by decide +kernel
theorem dX6_readTerm_75 : decode cX6_readTerm 75 = .ok (.istore_n 3, 1) := by decide +kernel
theorem dX6_readTerm_76 : decode cX6_readTerm 76 = .ok (.aload_n 0, 1) := by decide +kernel
theorem dX6_readTerm_77 : decode cX6_readTerm 77 = .ok (.invokevirtual 70, 3) := by decide +kernel
theorem dX6_readTerm_80 : decode cX6_readTerm 80 = .ok (.aload_n 0, 1) := by decide +kernel
theorem dX6_readTerm_81 : decode cX6_readTerm 81 = .ok (.invokevirtual 173, 3) := by decide +kernel
theorem dX6_readTerm_84 : decode cX6_readTerm 84 = .ok (.istore_n 1, 1) := by decide +kernel
theorem dX6_readTerm_85 : decode cX6_readTerm 85 = .ok (.aload_n 0, 1) := by decide +kernel
theorem dX6_readTerm_86 : decode cX6_readTerm 86 = .ok (.getfield 14, 3) := by decide +kernel
theorem dX6_readTerm_89 : decode cX6_readTerm 89 = .ok (.iload_n 3, 1) := by decide +kernel
theorem dX6_readTerm_90 : decode cX6_readTerm 90 = .ok (.iconst 0, 1) := by decide +kernel
theorem dX6_readTerm_91 : decode cX6_readTerm 91 = .ok (.invokevirtual 134, 3) := by decide +kernel
theorem dX6_readTerm_94 : decode cX6_readTerm 94 = .ok (.pop, 1) := by decide +kernel
theorem dX6_readTerm_95 : decode cX6_readTerm 95 = .ok (.iinc 2 1, 3) := by decide +kernel
theorem dX6_readTerm_98 : decode cX6_readTerm 98 = .ok (.goto (-91), 3) := by decide +kernel
theorem dX6_readTerm_101 : decode cX6_readTerm 101 = .ok (.iload_n 1, 1) := by decide +kernel
theorem dX6_readTerm_102 : decode cX6_readTerm 102 = .ok (.ireturn, 1) := by decide +kernel
theorem dX6_readPart_0 : decode cX6_readPart 0 = .ok (.aload_n 0, 1) := by decide +kernel
theorem dX6_readPart_1 : decode cX6_readPart 1 = .ok (.getfield 34, 3) := by decide +kernel
theorem dX6_readPart_4 : decode cX6_readPart 4 = .ok (.bipush 91, 2) := by decide +kernel
theorem dX6_readPart_6 : decode cX6_readPart 6 = .ok (.if_icmp .ne 9, 3) := by decide +kernel
theorem dX6_readPart_9 : decode cX6_readPart 9 = .ok (.aload_n 0, 1) := by decide +kernel
theorem dX6_readPart_10 : decode cX6_readPart 10 = .ok (.iconst 0, 1) := by decide +kernel
theorem dX6_readPart_11 : decode cX6_readPart 11 = .ok (.invokevirtual 163, 3) := by decide +kernel
theorem dX6_readPart_14 : decode cX6_readPart 14 = .ok (.ireturn, 1) := by decide +kernel
theorem dX6_readPart_15 : decode cX6_readPart 15 = .ok (.aload_n 0, 1) := by decide +kernel
theorem dX6_readPart_16 : decode cX6_readPart 16 = .ok (.sipush 1000, 3) := by decide +kernel
theorem dX6_readPart_19 : decode cX6_readPart 19 = .ok (.invokevirtual 146, 3) := by decide +kernel
theorem dX6_readPart_22 : decode cX6_readPart 22 = .ok (.istore_n 1, 1) := by decide +kernel
theorem dX6_readPart_23 : decode cX6_readPart 23 = .ok (.aload_n 0, 1) := by decide +kernel
theorem dX6_readPart_24 : decode cX6_readPart 24 = .ok (.getfield 34, 3) := by decide +kernel
theorem dX6_readPart_27 : decode cX6_readPart 27 = .ok (.sipush 269, 3) := by decide +kernel
theorem dX6_readPart_30 : decode cX6_readPart 30 = .ok (.isub, 1) := by decide +kernel
theorem dX6_readPart_31 : decode cX6_readPart 31 = .ok (.istore_n 2, 1) := by decide +kernel
theorem dX6_readPart_32 : decode cX6_readPart 32 = .ok (.aload_n 0, 1) := by decide +kernel
theorem dX6_readPart_33 : decode cX6_readPart 33 = .ok (.getfield 37, 3) := by decide +kernel
theorem dX6_readPart_36 : decode cX6_readPart 36 = .ok (.ifCond .eq 10, 3) := by decide +kernel
theorem dX6_readPart_39 : decode cX6_readPart 39 = .ok (.iload_n 2, 1) := by decide +kernel
theorem dX6_readPart_40 : decode cX6_readPart 40 = .ok (.invokestatic 176, 3) := by decide +kernel
theorem dX6_readPart_43 : decode cX6_readPart 43 = .ok (.goto 28, 3) := by decide +kernel
theorem dX6_readPart_46 : decode cX6_readPart 46 = .ok (.aload_n 0, 1) := by decide +kernel
theorem dX6_readPart_47 : decode cX6_readPart 47 = .ok (.getfield 34, 3) := by decide +kernel
theorem dX6_readPart_50 : decode cX6_readPart 50 = .ok (.sipush 269, 3) := by decide +kernel
theorem dX6_readPart_53 : decode cX6_readPart 53 = .ok (.if_icmp .lt 17, 3) := by decide +kernel
theorem dX6_readPart_56 : decode cX6_readPart 56 = .ok (.aload_n 0, 1) := by decide +kernel
theorem dX6_readPart_57 : decode cX6_readPart 57 = .ok (.getfield 34, 3) := by decide +kernel
theorem dX6_readPart_60 : decode cX6_readPart 60 = .ok (.sipush 277, 3) := by decide +kernel
theorem dX6_readPart_63 : decode cX6_readPart 63 = .ok (.if_icmp .gt 7, 3) := by decide +kernel
theorem dX6_readPart_66 : decode cX6_readPart 66 = .ok (.iconst 1, 1) := by decide +kernel
theorem dX6_readPart_67 : decode cX6_readPart 67 = .ok (.goto 4, 3) := by decide +kernel
theorem dX6_readPart_70 : decode cX6_readPart 70 = .ok (.iconst 0, 1) := by decide +kernel
theorem dX6_readPart_71 : decode cX6_readPart 71 = .ok (.istore_n 3, 1) := by decide +kernel
theorem dX6_readPart_72 : decode cX6_readPart 72 = .ok (.iload_n 1, 1) := by decide +kernel
theorem dX6_readPart_73 : decode cX6_readPart 73 = .ok (.iconst (-1), 1) := by decide +kernel
theorem dX6_readPart_74 : decode cX6_readPart 74 = .ok (.if_icmp .ne 7, 3) := by decide +kernel
theorem dX6_readPart_77 : decode cX6_readPart 77 = .ok (.iload_n 3, 1) := by decide +kernel
theorem dX6_readPart_78 : decode cX6_readPart 78 = .ok (.ifCond .eq 12, 3) := by decide +kernel
theorem dX6_readPart_81 : decode cX6_readPart 81 = .ok (.aload_n 0, 1) := by decide +kernel
theorem dX6_readPart_82 : decode cX6_readPart 82 = .ok (.getfield 41, 3) := by decide +kernel
theorem dX6_readPart_85 : decode cX6_readPart 85 = .ok (.bipush 50, 2) := by decide +kernel
theorem dX6_readPart_87 : decode cX6_readPart 87 = .ok (.if_icmp .lt 8, 3) := by decide +kernel
theorem dX6_readPart_90 : decode cX6_readPart 90 = .ok (.aload_n 0, 1) := by decide +kernel
theorem dX6_readPart_91 : decode cX6_readPart 91 = .ok (.invokevirtual 73, 3) := by decide +kernel
theorem dX6_readPart_94 : decode cX6_readPart 94 = .ok (.ireturn, 1) := by decide +kernel
theorem dX6_readPart_95 : decode cX6_readPart 95 = .ok (.aload_n 0, 1) := by decide +kernel
theorem dX6_readPart_96 : decode cX6_readPart 96 = .ok (.dup, 1) := by decide +kernel
theorem dX6_readPart_97 : decode cX6_readPart 97 = .ok (.getfield 41, 3) := by decide +kernel
theorem dX6_readPart_100 : decode cX6_readPart 100 = .ok (.iconst 1, 1) := by decide +kernel
theorem dX6_readPart_101 : decode cX6_readPart 101 = .ok (.iadd, 1) := by decide +kernel
theorem dX6_readPart_102 : decode cX6_readPart 102 = .ok (.putfield 41, 3) := by decide +kernel
theorem dX6_readPart_105 : decode cX6_readPart 105 = .ok (.aload_n 0, 1) := by decide +kernel
theorem dX6_readPart_106 : decode cX6_readPart 106 = .ok (.invokevirtual 70, 3) := by decide +kernel
theorem dX6_readPart_109 : decode cX6_readPart 109 = .ok (.iload_n 1, 1) := by decide +kernel
theorem dX6_readPart_110 : decode cX6_readPart 110 = .ok (.iconst (-1), 1) := by decide +kernel
theorem dX6_readPart_111 : decode cX6_readPart 111 = .ok (.if_icmp .eq 15, 3) := by decide +kernel
theorem dX6_readPart_114 : decode cX6_readPart 114 = .ok (.aload_n 0, 1) := by decide +kernel
theorem dX6_readPart_115 : decode cX6_readPart 115 = .ok (.getfield 14, 3) := by decide +kernel
theorem dX6_readPart_118 : decode cX6_readPart 118 = .ok (.iconst 1, 1) := by decide +kernel
theorem dX6_readPart_119 : decode cX6_readPart 119 = .ok (.iload_n 1, 1) := by decide +kernel
theorem dX6_readPart_120 : decode cX6_readPart 120 = .ok (.invokevirtual 134, 3) := by decide +kernel
theorem dX6_readPart_123 : decode cX6_readPart 123 = .ok (.pop, 1) := by decide +kernel
theorem dX6_readPart_124 : decode cX6_readPart 124 = .ok (.iconst 1, 1) := by decide +kernel
theorem dX6_readPart_125 : decode cX6_readPart 125 = .ok (.ireturn, 1) := by decide +kernel
theorem dX6_readPart_126 : decode cX6_readPart 126 = .ok (.aload_n 0, 1) := by decide +kernel
theorem dX6_readPart_127 : decode cX6_readPart 127 = .ok (.getfield 37, 3) := by decide +kernel
theorem dX6_readPart_130 : decode cX6_readPart 130 = .ok (.ifCond .eq 20, 3) := by decide +kernel
theorem dX6_readPart_133 : decode cX6_readPart 133 = .ok (.iload_n 2, 1) := by decide +kernel
theorem dX6_readPart_134 : decode cX6_readPart 134 = .ok (.invokestatic 179, 3) := by decide +kernel
theorem dX6_readPart_137 : decode cX6_readPart 137 = .ok (.iconst (-1), 1) := by decide +kernel
theorem dX6_readPart_138 : decode cX6_readPart 138 = .ok (.if_icmp .eq 12, 3) := by decide +kernel
theorem dX6_readPart_141 : decode cX6_readPart 141 = .ok (.aload_n 0, 1) := by decide +kernel
theorem dX6_readPart_142 : decode cX6_readPart 142 = .ok (.iload_n 2, 1) := by decide +kernel
theorem dX6_readPart_143 : decode cX6_readPart 143 = .ok (.invokestatic 179, 3) := by decide +kernel
theorem dX6_readPart_146 : decode cX6_readPart 146 = .ok (.invokevirtual 182, 3) := by decide +kernel
theorem dX6_readPart_149 : decode cX6_readPart 149 = .ok (.ireturn, 1) := by decide +kernel
theorem dX6_readPart_150 : decode cX6_readPart 150 = .ok (.aload_n 0, 1) := by decide +kernel
theorem dX6_readPart_151 : decode cX6_readPart 151 = .ok (.getfield 14, 3) := by decide +kernel
theorem dX6_readPart_154 : decode cX6_readPart 154 = .ok (.iconst 2, 1) := by decide +kernel
theorem dX6_readPart_155 : decode cX6_readPart 155 = .ok (.iload_n 2, 1) := by decide +kernel
theorem dX6_readPart_156 : decode cX6_readPart 156 = .ok (.invokevirtual 134, 3) := by decide +kernel
theorem dX6_readPart_159 : decode cX6_readPart 159 = .ok (.pop, 1) := by decide +kernel
theorem dX6_readPart_160 : decode cX6_readPart 160 = .ok (.aload_n 0, 1) := by decide +kernel
theorem dX6_readPart_161 : decode cX6_readPart 161 = .ok (.getfield 14, 3) := by decide +kernel
theorem dX6_readPart_164 : decode cX6_readPart 164 = .ok (.dup, 1) := by decide +kernel
theorem dX6_readPart_165 : decode cX6_readPart 165 = .ok (.getfield 185, 3) := by decide +kernel
theorem dX6_readPart_168 : decode cX6_readPart 168 = .ok (.iload_n 2, 1) := by decide +kernel
theorem dX6_readPart_169 : decode cX6_readPart 169 = .ok (.iconst 5, 1) := by decide +kernel
theorem dX6_readPart_170 : decode cX6_readPart 170 = .ok (.if_icmp .eq 9, 3) := by decide +kernel
theorem dX6_readPart_173 : decode cX6_readPart 173 = .ok (.iload_n 2, 1) := by decide +kernel
theorem dX6_readPart_174 : decode cX6_readPart 174 = .ok (.bipush 6, 2) := by decide +kernel
theorem dX6_readPart_176 : decode cX6_readPart 176 = .ok (.if_icmp .ne 7, 3) := by decide +kernel
theorem dX6_readPart_179 : decode cX6_readPart 179 = .ok (.iconst 1, 1) := by decide +kernel
theorem dX6_readPart_180 : decode cX6_readPart 180 = .ok (.goto 4, 3) := by decide +kernel
theorem dX6_readPart_183 : decode cX6_readPart 183 = .ok (.iconst 0, 1) := by decide +kernel
theorem dX6_readPart_184 : decode cX6_readPart 184 = .ok (.ior, 1) := by decide +kernel
theorem dX6_readPart_185 : decode cX6_readPart 185 = .ok (.putfield 185, 3) := by decide +kernel
theorem dX6_readPart_188 : decode cX6_readPart 188 = .ok (.iconst 1, 1) := by decide +kernel
theorem dX6_readPart_189 : decode cX6_readPart 189 = .ok (.ireturn, 1) := by decide +kernel
theorem dX6_isOrderWord_0 : decode cX6_isOrderWord 0 = .ok (.iload_n 0, 1) := by decide +kernel
theorem dX6_isOrderWord_1 : decode cX6_isOrderWord 1 = .ok (.bipush 6, 2) := by decide +kernel
theorem dX6_isOrderWord_3 : decode cX6_isOrderWord 3 = .ok (.if_icmp .eq 28, 3) := by decide +kernel
theorem dX6_isOrderWord_6 : decode cX6_isOrderWord 6 = .ok (.iload_n 0, 1) := by decide +kernel
theorem dX6_isOrderWord_7 : decode cX6_isOrderWord 7 = .ok (.bipush 9, 2) := by decide +kernel
theorem dX6_isOrderWord_9 : decode cX6_isOrderWord 9 = .ok (.if_icmp .eq 22, 3) := by decide +kernel
theorem dX6_isOrderWord_12 : decode cX6_isOrderWord 12 = .ok (.iload_n 0, 1) := by decide +kernel
theorem dX6_isOrderWord_13 : decode cX6_isOrderWord 13 = .ok (.bipush 10, 2) := by decide +kernel
theorem dX6_isOrderWord_15 : decode cX6_isOrderWord 15 = .ok (.if_icmp .eq 16, 3) := by decide +kernel
theorem dX6_isOrderWord_18 : decode cX6_isOrderWord 18 = .ok (.iload_n 0, 1) := by decide +kernel
theorem dX6_isOrderWord_19 : decode cX6_isOrderWord 19 = .ok (.iconst 4, 1) := by decide +kernel
theorem dX6_isOrderWord_20 : decode cX6_isOrderWord 20 = .ok (.if_icmp .eq 11, 3) := by decide +kernel
theorem dX6_isOrderWord_23 : decode cX6_isOrderWord 23 = .ok (.iload_n 0, 1) := by decide +kernel
theorem dX6_isOrderWord_24 : decode cX6_isOrderWord 24 = .ok (.invokestatic 179, 3) := by decide +kernel
theorem dX6_isOrderWord_27 : decode cX6_isOrderWord 27 = .ok (.iconst (-1), 1) := by decide +kernel
theorem dX6_isOrderWord_28 : decode cX6_isOrderWord 28 = .ok (.if_icmp .eq 7, 3) := by decide +kernel
theorem dX6_isOrderWord_31 : decode cX6_isOrderWord 31 = .ok (.iconst 1, 1) := by decide +kernel
theorem dX6_isOrderWord_32 : decode cX6_isOrderWord 32 = .ok (.goto 4, 3) := by decide +kernel
theorem dX6_isOrderWord_35 : decode cX6_isOrderWord 35 = .ok (.iconst 0, 1) := by decide +kernel
theorem dX6_isOrderWord_36 : decode cX6_isOrderWord 36 = .ok (.ireturn, 1) := by decide +kernel
theorem dX6_firstOf_0 : decode cX6_firstOf 0 = .ok (.iload_n 0, 1) := by decide +kernel
theorem dX6_firstOf_1 : decode cX6_firstOf 1 = .ok (.lookupswitch 44 #[(1, 35), (5, 38), (11, 41)], 35) := by decide +kernel
theorem dX6_firstOf_36 : decode cX6_firstOf 36 = .ok (.bipush 12, 2) := by decide +kernel
theorem dX6_firstOf_38 : decode cX6_firstOf 38 = .ok (.ireturn, 1) := by decide +kernel
theorem dX6_firstOf_39 : decode cX6_firstOf 39 = .ok (.bipush 20, 2) := by decide +kernel
theorem dX6_firstOf_41 : decode cX6_firstOf 41 = .ok (.ireturn, 1) := by decide +kernel
theorem dX6_firstOf_42 : decode cX6_firstOf 42 = .ok (.bipush 28, 2) := by decide +kernel
theorem dX6_firstOf_44 : decode cX6_firstOf 44 = .ok (.ireturn, 1) := by decide +kernel
theorem dX6_firstOf_45 : decode cX6_firstOf 45 = .ok (.iconst (-1), 1) := by decide +kernel
theorem dX6_firstOf_46 : decode cX6_firstOf 46 = .ok (.ireturn, 1) := by decide +kernel
theorem dX6_readOne_0 : decode cX6_readOne 0 = .ok (.aload_n 0, 1) := by decide +kernel
theorem dX6_readOne_1 : decode cX6_readOne 1 = .ok (.bipush 7, 2) := by decide +kernel
theorem dX6_readOne_3 : decode cX6_readOne 3 = .ok (.invokevirtual 146, 3) := by decide +kernel
theorem dX6_readOne_6 : decode cX6_readOne 6 = .ok (.istore_n 2, 1) := by decide +kernel
theorem dX6_readOne_7 : decode cX6_readOne 7 = .ok (.iload_n 2, 1) := by decide +kernel
theorem dX6_readOne_8 : decode cX6_readOne 8 = .ok (.iconst (-1), 1) := by decide +kernel
theorem dX6_readOne_9 : decode cX6_readOne 9 = .ok (.if_icmp .ne 8, 3) := by decide +kernel
theorem dX6_readOne_12 : decode cX6_readOne 12 = .ok (.aload_n 0, 1) := by decide +kernel
theorem dX6_readOne_13 : decode cX6_readOne 13 = .ok (.invokevirtual 73, 3) := by decide +kernel
theorem dX6_readOne_16 : decode cX6_readOne 16 = .ok (.ireturn, 1) := by decide +kernel
theorem dX6_readOne_17 : decode cX6_readOne 17 = .ok (.aload_n 0, 1) := by decide +kernel
theorem dX6_readOne_18 : decode cX6_readOne 18 = .ok (.getfield 14, 3) := by decide +kernel
theorem dX6_readOne_21 : decode cX6_readOne 21 = .ok (.iconst 2, 1) := by decide +kernel
theorem dX6_readOne_22 : decode cX6_readOne 22 = .ok (.iload_n 1, 1) := by decide +kernel
theorem dX6_readOne_23 : decode cX6_readOne 23 = .ok (.iload_n 2, 1) := by decide +kernel
theorem dX6_readOne_24 : decode cX6_readOne 24 = .ok (.iadd, 1) := by decide +kernel
theorem dX6_readOne_25 : decode cX6_readOne 25 = .ok (.invokevirtual 134, 3) := by decide +kernel
theorem dX6_readOne_28 : decode cX6_readOne 28 = .ok (.pop, 1) := by decide +kernel
theorem dX6_readOne_29 : decode cX6_readOne 29 = .ok (.aload_n 0, 1) := by decide +kernel
theorem dX6_readOne_30 : decode cX6_readOne 30 = .ok (.invokevirtual 70, 3) := by decide +kernel
theorem dX6_readOne_33 : decode cX6_readOne 33 = .ok (.iconst 1, 1) := by decide +kernel
theorem dX6_readOne_34 : decode cX6_readOne 34 = .ok (.ireturn, 1) := by decide +kernel
theorem dX6_readBrackets_0 : decode cX6_readBrackets 0 = .ok (.aload_n 0, 1) := by decide +kernel
theorem dX6_readBrackets_1 : decode cX6_readBrackets 1 = .ok (.getfield 44, 3) := by decide +kernel
theorem dX6_readBrackets_4 : decode cX6_readBrackets 4 = .ok (.bipush 8, 2) := by decide +kernel
theorem dX6_readBrackets_6 : decode cX6_readBrackets 6 = .ok (.if_icmp .lt 8, 3) := by decide +kernel
theorem dX6_readBrackets_9 : decode cX6_readBrackets 9 = .ok (.aload_n 0, 1) := by decide +kernel
theorem dX6_readBrackets_10 : decode cX6_readBrackets 10 = .ok (.invokevirtual 73, 3) := by decide +kernel
theorem dX6_readBrackets_13 : decode cX6_readBrackets 13 = .ok (.ireturn, 1) := by decide +kernel
theorem dX6_readBrackets_14 : decode cX6_readBrackets 14 = .ok (.aload_n 0, 1) := by decide +kernel
theorem dX6_readBrackets_15 : decode cX6_readBrackets 15 = .ok (.dup, 1) := by decide +kernel
theorem dX6_readBrackets_16 : decode cX6_readBrackets 16 = .ok (.getfield 44, 3) := by decide +kernel
theorem dX6_readBrackets_19 : decode cX6_readBrackets 19 = .ok (.iconst 1, 1) := by decide +kernel
theorem dX6_readBrackets_20 : decode cX6_readBrackets 20 = .ok (.iadd, 1) := by decide +kernel
theorem dX6_readBrackets_21 : decode cX6_readBrackets 21 = .ok (.putfield 44, 3) := by decide +kernel
theorem dX6_readBrackets_24 : decode cX6_readBrackets 24 = .ok (.aload_n 0, 1) := by decide +kernel
theorem dX6_readBrackets_25 : decode cX6_readBrackets 25 = .ok (.invokevirtual 70, 3) := by decide +kernel
theorem dX6_readBrackets_28 : decode cX6_readBrackets 28 = .ok (.iload_n 1, 1) := by decide +kernel
theorem dX6_readBrackets_29 : decode cX6_readBrackets 29 = .ok (.ifCond .eq 13, 3) := by decide +kernel
theorem dX6_readBrackets_32 : decode cX6_readBrackets 32 = .ok (.aload_n 0, 1) := by decide +kernel
theorem dX6_readBrackets_33 : decode cX6_readBrackets 33 = .ok (.invokevirtual 131, 3) := by decide +kernel
theorem dX6_readBrackets_36 : decode cX6_readBrackets 36 = .ok (.ifCond .eq 13, 3) := by decide +kernel
theorem dX6_readBrackets_39 : decode cX6_readBrackets 39 = .ok (.goto 12, 3) := by decide +kernel
theorem dX6_readBrackets_42 : decode cX6_readBrackets 42 = .ok (.aload_n 0, 1) := by decide +kernel
theorem dX6_readBrackets_43 : decode cX6_readBrackets 43 = .ok (.invokevirtual 140, 3) := by decide +kernel
theorem dX6_readBrackets_46 : decode cX6_readBrackets 46 = .ok (.ifCond .ne 5, 3) := by decide +kernel
theorem dX6_readBrackets_49 : decode cX6_readBrackets 49 = .ok (.iconst 0, 1) := by decide +kernel
theorem dX6_readBrackets_50 : decode cX6_readBrackets 50 = .ok (.ireturn, 1) := by decide +kernel
theorem dX6_readBrackets_51 : decode cX6_readBrackets 51 = .ok (.aload_n 0, 1) := by decide +kernel
theorem dX6_readBrackets_52 : decode cX6_readBrackets 52 = .ok (.dup, 1) := by decide +kernel
theorem dX6_readBrackets_53 : decode cX6_readBrackets 53 = .ok (.getfield 44, 3) := by decide +kernel
theorem dX6_readBrackets_56 : decode cX6_readBrackets 56 = .ok (.iconst 1, 1) := by decide +kernel
theorem dX6_readBrackets_57 : decode cX6_readBrackets 57 = .ok (.isub, 1) := by decide +kernel
theorem dX6_readBrackets_58 : decode cX6_readBrackets 58 = .ok (.putfield 44, 3) := by decide +kernel
theorem dX6_readBrackets_61 : decode cX6_readBrackets 61 = .ok (.aload_n 0, 1) := by decide +kernel
theorem dX6_readBrackets_62 : decode cX6_readBrackets 62 = .ok (.iload_n 1, 1) := by decide +kernel
theorem dX6_readBrackets_63 : decode cX6_readBrackets 63 = .ok (.ifCond .eq 8, 3) := by decide +kernel
theorem dX6_readBrackets_66 : decode cX6_readBrackets 66 = .ok (.bipush 41, 2) := by decide +kernel
theorem dX6_readBrackets_68 : decode cX6_readBrackets 68 = .ok (.goto 5, 3) := by decide +kernel
theorem dX6_readBrackets_71 : decode cX6_readBrackets 71 = .ok (.bipush 93, 2) := by decide +kernel
theorem dX6_readBrackets_73 : decode cX6_readBrackets 73 = .ok (.invokevirtual 122, 3) := by decide +kernel
theorem dX6_readBrackets_76 : decode cX6_readBrackets 76 = .ok (.ifCond .ne 10, 3) := by decide +kernel
theorem dX6_readBrackets_79 : decode cX6_readBrackets 79 = .ok (.aload_n 0, 1) := by decide +kernel
theorem dX6_readBrackets_80 : decode cX6_readBrackets 80 = .ok (.invokevirtual 73, 3) := by decide +kernel
theorem dX6_readBrackets_83 : decode cX6_readBrackets 83 = .ok (.ifCond .eq 7, 3) := by decide +kernel
theorem dX6_readBrackets_86 : decode cX6_readBrackets 86 = .ok (.iconst 1, 1) := by decide +kernel
theorem dX6_readBrackets_87 : decode cX6_readBrackets 87 = .ok (.goto 4, 3) := by decide +kernel
theorem dX6_readBrackets_90 : decode cX6_readBrackets 90 = .ok (.iconst 0, 1) := by decide +kernel
theorem dX6_readBrackets_91 : decode cX6_readBrackets 91 = .ok (.ireturn, 1) := by decide +kernel
theorem dX7_init_0 : decode cX7_init 0 = .ok (.aload_n 0, 1) := by decide +kernel
theorem dX7_init_1 : decode cX7_init 1 = .ok (.invokespecial 3, 3) := by decide +kernel
theorem dX7_init_4 : decode cX7_init 4 = .ok (.aload_n 0, 1) := by decide +kernel
theorem dX7_init_5 : decode cX7_init 5 = .ok (.bipush 36, 2) := by decide +kernel
theorem dX7_init_7 : decode cX7_init 7 = .ok (.newarray .int, 2) := by decide +kernel
theorem dX7_init_9 : decode cX7_init 9 = .ok (.putfield 9, 3) := by decide +kernel
theorem dX7_init_12 : decode cX7_init 12 = .ok (.aload_n 0, 1) := by decide +kernel
theorem dX7_init_13 : decode cX7_init 13 = .ok (.bipush 32, 2) := by decide +kernel
theorem dX7_init_15 : decode cX7_init 15 = .ok (.newarray .long, 2) := by decide +kernel
theorem dX7_init_17 : decode cX7_init 17 = .ok (.putfield 15, 3) := by decide +kernel
theorem dX7_init_20 : decode cX7_init 20 = .ok (.return_, 1) := by decide +kernel
theorem dX7_reckon_0 : decode cX7_reckon 0 = .ok (.aload_n 1, 1) := by decide +kernel
theorem dX7_reckon_1 : decode cX7_reckon 1 = .ok (.getfield 19, 3) := by decide +kernel
theorem dX7_reckon_4 : decode cX7_reckon 4 = .ok (.astore_n 3, 1) := by decide +kernel
theorem dX7_reckon_5 : decode cX7_reckon 5 = .ok (.iload_n 2, 1) := by decide +kernel
theorem dX7_reckon_6 : decode cX7_reckon 6 = .ok (.istore 4, 2) := by decide +kernel
theorem dX7_reckon_8 : decode cX7_reckon 8 = .ok (.iconst 0, 1) := by decide +kernel
theorem dX7_reckon_9 : decode cX7_reckon 9 = .ok (.istore 5, 2) := by decide +kernel
theorem dX7_reckon_11 : decode cX7_reckon 11 = .ok (.iconst 0, 1) := by decide +kernel
theorem dX7_reckon_12 : decode cX7_reckon 12 = .ok (.istore 6, 2) := by decide +kernel
theorem dX7_reckon_14 : decode cX7_reckon 14 = .ok (.iload 6, 2) := by decide +kernel
theorem dX7_reckon_16 : decode cX7_reckon 16 = .ok (.aload_n 3, 1) := by decide +kernel
theorem dX7_reckon_17 : decode cX7_reckon 17 = .ok (.arraylength, 1) := by decide +kernel
theorem dX7_reckon_18 : decode cX7_reckon 18 = .ok (.if_icmp .ge 289, 3) := by decide +kernel
theorem dX7_reckon_21 : decode cX7_reckon 21 = .ok (.iload 4, 2) := by decide +kernel
theorem dX7_reckon_23 : decode cX7_reckon 23 = .ok (.ifCond .lt 22, 3) := by decide +kernel
theorem dX7_reckon_26 : decode cX7_reckon 26 = .ok (.iload 4, 2) := by decide +kernel
theorem dX7_reckon_28 : decode cX7_reckon 28 = .ok (.aload_n 3, 1) := by decide +kernel
theorem dX7_reckon_29 : decode cX7_reckon 29 = .ok (.arraylength, 1) := by decide +kernel
theorem dX7_reckon_30 : decode cX7_reckon 30 = .ok (.if_icmp .ge 15, 3) := by decide +kernel
theorem dX7_reckon_33 : decode cX7_reckon 33 = .ok (.iload 5, 2) := by decide +kernel
theorem dX7_reckon_35 : decode cX7_reckon 35 = .ok (.ifCond .lt 10, 3) := by decide +kernel
theorem dX7_reckon_38 : decode cX7_reckon 38 = .ok (.iload 5, 2) := by decide +kernel
theorem dX7_reckon_40 : decode cX7_reckon 40 = .ok (.bipush 32, 2) := by decide +kernel
theorem dX7_reckon_42 : decode cX7_reckon 42 = .ok (.if_icmp .lt 7, 3) := by decide +kernel
theorem dX7_reckon_45 : decode cX7_reckon 45 = .ok (.ldc2_w 24, 3) := by decide +kernel
theorem dX7_reckon_48 : decode cX7_reckon 48 = .ok (.lreturn, 1) := by decide +kernel
theorem dX7_reckon_49 : decode cX7_reckon 49 = .ok (.aload_n 3, 1) := by decide +kernel
theorem dX7_reckon_50 : decode cX7_reckon 50 = .ok (.iload 4, 2) := by decide +kernel
theorem dX7_reckon_52 : decode cX7_reckon 52 = .ok (.iaload, 1) := by decide +kernel
theorem dX7_reckon_53 : decode cX7_reckon 53 = .ok (.bipush 15, 2) := by decide +kernel
theorem dX7_reckon_55 : decode cX7_reckon 55 = .ok (.iand, 1) := by decide +kernel
theorem dX7_reckon_56 : decode cX7_reckon 56 = .ok (.istore 7, 2) := by decide +kernel
theorem dX7_reckon_58 : decode cX7_reckon 58 = .ok (.aload_n 3, 1) := by decide +kernel
theorem dX7_reckon_59 : decode cX7_reckon 59 = .ok (.iload 4, 2) := by decide +kernel
theorem dX7_reckon_61 : decode cX7_reckon 61 = .ok (.iaload, 1) := by decide +kernel
theorem dX7_reckon_62 : decode cX7_reckon 62 = .ok (.iconst 4, 1) := by decide +kernel
theorem dX7_reckon_63 : decode cX7_reckon 63 = .ok (.ishr, 1) := by decide +kernel
theorem dX7_reckon_64 : decode cX7_reckon 64 = .ok (.istore 8, 2) := by decide +kernel
theorem dX7_reckon_66 : decode cX7_reckon 66 = .ok (.iinc 4 1, 3) := by decide +kernel
theorem dX7_reckon_69 : decode cX7_reckon 69 = .ok (.iload 7, 2) := by decide +kernel
theorem dX7_reckon_71 : decode cX7_reckon 71 = .ok (.iconst 1, 1) := by decide +kernel
theorem dX7_reckon_72 : decode cX7_reckon 72 = .ok (.if_icmp .ne 19, 3) := by decide +kernel
theorem dX7_reckon_75 : decode cX7_reckon 75 = .ok (.aload_n 0, 1) := by decide +kernel
theorem dX7_reckon_76 : decode cX7_reckon 76 = .ok (.getfield 15, 3) := by decide +kernel
theorem dX7_reckon_79 : decode cX7_reckon 79 = .ok (.iload 5, 2) := by decide +kernel
theorem dX7_reckon_81 : decode cX7_reckon 81 = .ok (.iload 8, 2) := by decide +kernel
theorem dX7_reckon_83 : decode cX7_reckon 83 = .ok (.i2l, 1) := by decide +kernel
theorem dX7_reckon_84 : decode cX7_reckon 84 = .ok (.lastore, 1) := by decide +kernel
theorem dX7_reckon_85 : decode cX7_reckon 85 = .ok (.iinc 5 1, 3) := by decide +kernel
theorem dX7_reckon_88 : decode cX7_reckon 88 = .ok (.goto 213, 3) := by decide +kernel
theorem dX7_reckon_91 : decode cX7_reckon 91 = .ok (.iload 7, 2) := by decide +kernel
theorem dX7_reckon_93 : decode cX7_reckon 93 = .ok (.iconst 2, 1) := by decide +kernel
theorem dX7_reckon_94 : decode cX7_reckon 94 = .ok (.if_icmp .ne 40, 3) := by decide +kernel
theorem dX7_reckon_97 : decode cX7_reckon 97 = .ok (.aload_n 0, 1) := by decide +kernel
theorem dX7_reckon_98 : decode cX7_reckon 98 = .ok (.getfield 15, 3) := by decide +kernel
theorem dX7_reckon_101 : decode cX7_reckon 101 = .ok (.iload 5, 2) := by decide +kernel
theorem dX7_reckon_103 : decode cX7_reckon 103 = .ok (.iload 8, 2) := by decide +kernel
theorem dX7_reckon_105 : decode cX7_reckon 105 = .ok (.ifCond .lt 21, 3) := by decide +kernel
theorem dX7_reckon_108 : decode cX7_reckon 108 = .ok (.iload 8, 2) := by decide +kernel
theorem dX7_reckon_110 : decode cX7_reckon 110 = .ok (.bipush 36, 2) := by decide +kernel
theorem dX7_reckon_112 : decode cX7_reckon 112 = .ok (.if_icmp .ge 14, 3) := by decide +kernel
theorem dX7_reckon_115 : decode cX7_reckon 115 = .ok (.aload_n 0, 1) := by decide +kernel
theorem dX7_reckon_116 : decode cX7_reckon 116 = .ok (.getfield 9, 3) := by decide +kernel
theorem dX7_reckon_119 : decode cX7_reckon 119 = .ok (.iload 8, 2) := by decide +kernel
theorem dX7_reckon_121 : decode cX7_reckon 121 = .ok (.iaload, 1) := by decide +kernel
theorem dX7_reckon_122 : decode cX7_reckon 122 = .ok (.i2l, 1) := by decide +kernel
theorem dX7_reckon_123 : decode cX7_reckon 123 = .ok (.goto 4, 3) := by decide +kernel
theorem dX7_reckon_126 : decode cX7_reckon 126 = .ok (.lconst 0, 1) := by decide +kernel
theorem dX7_reckon_127 : decode cX7_reckon 127 = .ok (.lastore, 1) := by decide +kernel
theorem dX7_reckon_128 : decode cX7_reckon 128 = .ok (.iinc 5 1, 3) := by decide +kernel
theorem dX7_reckon_131 : decode cX7_reckon 131 = .ok (.goto 170, 3) := by decide +kernel
theorem dX7_reckon_134 : decode cX7_reckon 134 = .ok (.iload 5, 2) := by decide +kernel
theorem dX7_reckon_136 : decode cX7_reckon 136 = .ok (.iconst 1, 1) := by decide +kernel
theorem dX7_reckon_137 : decode cX7_reckon 137 = .ok (.if_icmp .ge 7, 3) := by decide +kernel
theorem dX7_reckon_140 : decode cX7_reckon 140 = .ok (.ldc2_w 24, 3) := by decide +kernel
theorem dX7_reckon_143 : decode cX7_reckon 143 = .ok (.lreturn, 1) := by decide +kernel
theorem dX7_reckon_144 : decode cX7_reckon 144 = .ok (.iload 7, 2) := by decide +kernel
theorem dX7_reckon_146 : decode cX7_reckon 146 = .ok (.ifCond .ne 13, 3) := by decide +kernel
theorem dX7_reckon_149 : decode cX7_reckon 149 = .ok (.aload_n 0, 1) := by decide +kernel
theorem dX7_reckon_150 : decode cX7_reckon 150 = .ok (.getfield 15, 3) := by decide +kernel
theorem dX7_reckon_153 : decode cX7_reckon 153 = .ok (.iload 5, 2) := by decide +kernel
theorem dX7_reckon_155 : decode cX7_reckon 155 = .ok (.iconst 1, 1) := by decide +kernel
theorem dX7_reckon_156 : decode cX7_reckon 156 = .ok (.isub, 1) := by decide +kernel
theorem dX7_reckon_157 : decode cX7_reckon 157 = .ok (.laload, 1) := by decide +kernel
theorem dX7_reckon_158 : decode cX7_reckon 158 = .ok (.lreturn, 1) := by decide +kernel
theorem dX7_reckon_159 : decode cX7_reckon 159 = .ok (.iload 7, 2) := by decide +kernel
theorem dX7_reckon_161 : decode cX7_reckon 161 = .ok (.iconst 3, 1) := by decide +kernel
theorem dX7_reckon_162 : decode cX7_reckon 162 = .ok (.if_icmp .ne 26, 3) := by decide +kernel
theorem dX7_reckon_165 : decode cX7_reckon 165 = .ok (.aload_n 0, 1) := by decide +kernel
theorem dX7_reckon_166 : decode cX7_reckon 166 = .ok (.getfield 15, 3) := by decide +kernel
theorem dX7_reckon_169 : decode cX7_reckon 169 = .ok (.iload 5, 2) := by decide +kernel
theorem dX7_reckon_171 : decode cX7_reckon 171 = .ok (.iconst 1, 1) := by decide +kernel
theorem dX7_reckon_172 : decode cX7_reckon 172 = .ok (.isub, 1) := by decide +kernel
theorem dX7_reckon_173 : decode cX7_reckon 173 = .ok (.lconst 1, 1) := by decide +kernel
theorem dX7_reckon_174 : decode cX7_reckon 174 = .ok (.aload_n 0, 1) := by decide +kernel
theorem dX7_reckon_175 : decode cX7_reckon 175 = .ok (.getfield 15, 3) := by decide +kernel
theorem dX7_reckon_178 : decode cX7_reckon 178 = .ok (.iload 5, 2) := by decide +kernel
theorem dX7_reckon_180 : decode cX7_reckon 180 = .ok (.iconst 1, 1) := by decide +kernel
theorem dX7_reckon_181 : decode cX7_reckon 181 = .ok (.isub, 1) := by decide +kernel
theorem dX7_reckon_182 : decode cX7_reckon 182 = .ok (.laload, 1) := by decide +kernel
theorem dX7_reckon_183 : decode cX7_reckon 183 = .ok (.lsub, 1) := by decide +kernel
theorem dX7_reckon_184 : decode cX7_reckon 184 = .ok (.lastore, 1) := by decide +kernel
theorem dX7_reckon_185 : decode cX7_reckon 185 = .ok (.goto 116, 3) := by decide +kernel
theorem dX7_reckon_188 : decode cX7_reckon 188 = .ok (.iload 7, 2) := by decide +kernel
theorem dX7_reckon_190 : decode cX7_reckon 190 = .ok (.iconst 4, 1) := by decide +kernel
theorem dX7_reckon_191 : decode cX7_reckon 191 = .ok (.if_icmp .eq 9, 3) := by decide +kernel
theorem dX7_reckon_194 : decode cX7_reckon 194 = .ok (.iload 7, 2) := by decide +kernel
theorem dX7_reckon_196 : decode cX7_reckon 196 = .ok (.iconst 5, 1) := by decide +kernel
theorem dX7_reckon_197 : decode cX7_reckon 197 = .ok (.if_icmp .ne 41, 3) := by decide +kernel
theorem dX7_reckon_200 : decode cX7_reckon 200 = .ok (.aload_n 0, 1) := by decide +kernel
theorem dX7_reckon_201 : decode cX7_reckon 201 = .ok (.getfield 15, 3) := by decide +kernel
theorem dX7_reckon_204 : decode cX7_reckon 204 = .ok (.iload 5, 2) := by decide +kernel
theorem dX7_reckon_206 : decode cX7_reckon 206 = .ok (.iconst 1, 1) := by decide +kernel
theorem dX7_reckon_207 : decode cX7_reckon 207 = .ok (.isub, 1) := by decide +kernel
theorem dX7_reckon_208 : decode cX7_reckon 208 = .ok (.laload, 1) := by decide +kernel
theorem dX7_reckon_209 : decode cX7_reckon 209 = .ok (.iload 7, 2) := by decide +kernel
theorem dX7_reckon_211 : decode cX7_reckon 211 = .ok (.iconst 5, 1) := by decide +kernel
theorem dX7_reckon_212 : decode cX7_reckon 212 = .ok (.if_icmp .ne 7, 3) := by decide +kernel
theorem dX7_reckon_215 : decode cX7_reckon 215 = .ok (.iconst 1, 1) := by decide +kernel
theorem dX7_reckon_216 : decode cX7_reckon 216 = .ok (.goto 4, 3) := by decide +kernel
theorem dX7_reckon_219 : decode cX7_reckon 219 = .ok (.iconst 0, 1) := by decide +kernel
theorem dX7_reckon_220 : decode cX7_reckon 220 = .ok (.i2l, 1) := by decide +kernel
theorem dX7_reckon_221 : decode cX7_reckon 221 = .ok (.lcmp, 1) := by decide +kernel
theorem dX7_reckon_222 : decode cX7_reckon 222 = .ok (.ifCond .ne 10, 3) := by decide +kernel
theorem dX7_reckon_225 : decode cX7_reckon 225 = .ok (.iload 8, 2) := by decide +kernel
theorem dX7_reckon_227 : decode cX7_reckon 227 = .ok (.istore 4, 2) := by decide +kernel
theorem dX7_reckon_229 : decode cX7_reckon 229 = .ok (.goto 72, 3) := by decide +kernel
theorem dX7_reckon_232 : decode cX7_reckon 232 = .ok (.iinc 5 (-1), 3) := by decide +kernel
theorem dX7_reckon_235 : decode cX7_reckon 235 = .ok (.goto 66, 3) := by decide +kernel
theorem dX7_reckon_238 : decode cX7_reckon 238 = .ok (.iload 5, 2) := by decide +kernel
theorem dX7_reckon_240 : decode cX7_reckon 240 = .ok (.iconst 2, 1) := by decide +kernel
theorem dX7_reckon_241 : decode cX7_reckon 241 = .ok (.if_icmp .ge 7, 3) := by decide +kernel
theorem dX7_reckon_244 : decode cX7_reckon 244 = .ok (.ldc2_w 24, 3) := by decide +kernel
theorem dX7_reckon_247 : decode cX7_reckon 247 = .ok (.lreturn, 1) := by decide +kernel
theorem dX7_reckon_248 : decode cX7_reckon 248 = .ok (.iinc 5 (-1), 3) := by decide +kernel
theorem dX7_reckon_251 : decode cX7_reckon 251 = .ok (.aload_n 0, 1) := by decide +kernel
theorem dX7_reckon_252 : decode cX7_reckon 252 = .ok (.getfield 15, 3) := by decide +kernel
theorem dX7_reckon_255 : decode cX7_reckon 255 = .ok (.iload 5, 2) := by decide +kernel
theorem dX7_reckon_257 : decode cX7_reckon 257 = .ok (.iconst 1, 1) := by decide +kernel
theorem dX7_reckon_258 : decode cX7_reckon 258 = .ok (.isub, 1) := by decide +kernel
theorem dX7_reckon_259 : decode cX7_reckon 259 = .ok (.iload 7, 2) := by decide +kernel
theorem dX7_reckon_261 : decode cX7_reckon 261 = .ok (.aload_n 0, 1) := by decide +kernel
theorem dX7_reckon_262 : decode cX7_reckon 262 = .ok (.getfield 15, 3) := by decide +kernel
theorem dX7_reckon_265 : decode cX7_reckon 265 = .ok (.iload 5, 2) := by decide +kernel
theorem dX7_reckon_267 : decode cX7_reckon 267 = .ok (.iconst 1, 1) := by decide +kernel
theorem dX7_reckon_268 : decode cX7_reckon 268 = .ok (.isub, 1) := by decide +kernel
theorem dX7_reckon_269 : decode cX7_reckon 269 = .ok (.laload, 1) := by decide +kernel
theorem dX7_reckon_270 : decode cX7_reckon 270 = .ok (.aload_n 0, 1) := by decide +kernel
theorem dX7_reckon_271 : decode cX7_reckon 271 = .ok (.getfield 15, 3) := by decide +kernel
theorem dX7_reckon_274 : decode cX7_reckon 274 = .ok (.iload 5, 2) := by decide +kernel
theorem dX7_reckon_276 : decode cX7_reckon 276 = .ok (.laload, 1) := by decide +kernel
theorem dX7_reckon_277 : decode cX7_reckon 277 = .ok (.invokestatic 26, 3) := by decide +kernel
theorem dX7_reckon_280 : decode cX7_reckon 280 = .ok (.lastore, 1) := by decide +kernel
theorem dX7_reckon_281 : decode cX7_reckon 281 = .ok (.aload_n 0, 1) := by decide +kernel
theorem dX7_reckon_282 : decode cX7_reckon 282 = .ok (.getfield 15, 3) := by decide +kernel
theorem dX7_reckon_285 : decode cX7_reckon 285 = .ok (.iload 5, 2) := by decide +kernel
theorem dX7_reckon_287 : decode cX7_reckon 287 = .ok (.iconst 1, 1) := by decide +kernel
theorem dX7_reckon_288 : decode cX7_reckon 288 = .ok (.isub, 1) := by decide +kernel
theorem dX7_reckon_289 : decode cX7_reckon 289 = .ok (.laload, 1) := by decide +kernel
theorem dX7_reckon_290 : decode cX7_reckon 290 = .ok (.ldc2_w 24, 3) := by decide +kernel
theorem dX7_reckon_293 : decode cX7_reckon 293 = .ok (.lcmp, 1) := by decide +kernel
theorem dX7_reckon_294 : decode cX7_reckon 294 = .ok (.ifCond .ne 7, 3) := by decide +kernel
theorem dX7_reckon_297 : decode cX7_reckon 297 = .ok (.ldc2_w 24, 3) := by decide +kernel
theorem dX7_reckon_300 : decode cX7_reckon 300 = .ok (.lreturn, 1) := by decide +kernel
theorem dX7_reckon_301 : decode cX7_reckon 301 = .ok (.iinc 6 1, 3) := by decide +kernel
theorem dX7_reckon_304 : decode cX7_reckon 304 = .ok (.goto (-290), 3) := by decide +kernel
theorem dX7_reckon_307 : decode cX7_reckon 307 = .ok (.ldc2_w 24, 3) := by decide +kernel
theorem dX7_reckon_310 : decode cX7_reckon 310 = .ok (.lreturn, 1) := by decide +kernel
theorem dX7_join_0 : decode cX7_join 0 = .ok (.iload_n 0, 1) := by decide +kernel
theorem dX7_join_1 : decode cX7_join 1 = .ok (.tableswitch 147 6 13 #[47, 59, 71, 83, 91, 99, 107, 127], 47) := by decide +kernel
theorem dX7_join_48 : decode cX7_join 48 = .ok (.lload_n 1, 1) := by decide +kernel
theorem dX7_join_49 : decode cX7_join 49 = .ok (.lload_n 3, 1) := by decide +kernel
theorem dX7_join_50 : decode cX7_join 50 = .ok (.lcmp, 1) := by decide +kernel
theorem dX7_join_51 : decode cX7_join 51 = .ok (.ifCond .ge 7, 3) := by decide +kernel
theorem dX7_join_54 : decode cX7_join 54 = .ok (.lconst 1, 1) := by decide +kernel
theorem dX7_join_55 : decode cX7_join 55 = .ok (.goto 4, 3) := by decide +kernel
theorem dX7_join_58 : decode cX7_join 58 = .ok (.lconst 0, 1) := by decide +kernel
theorem dX7_join_59 : decode cX7_join 59 = .ok (.lreturn, 1) := by decide +kernel
theorem dX7_join_60 : decode cX7_join 60 = .ok (.lload_n 1, 1) := by decide +kernel
theorem dX7_join_61 : decode cX7_join 61 = .ok (.lload_n 3, 1) := by decide +kernel
theorem dX7_join_62 : decode cX7_join 62 = .ok (.lcmp, 1) := by decide +kernel
theorem dX7_join_63 : decode cX7_join 63 = .ok (.ifCond .le 7, 3) := by decide +kernel
theorem dX7_join_66 : decode cX7_join 66 = .ok (.lconst 1, 1) := by decide +kernel
theorem dX7_join_67 : decode cX7_join 67 = .ok (.goto 4, 3) := by decide +kernel
theorem dX7_join_70 : decode cX7_join 70 = .ok (.lconst 0, 1) := by decide +kernel
theorem dX7_join_71 : decode cX7_join 71 = .ok (.lreturn, 1) := by decide +kernel
theorem dX7_join_72 : decode cX7_join 72 = .ok (.lload_n 1, 1) := by decide +kernel
theorem dX7_join_73 : decode cX7_join 73 = .ok (.lload_n 3, 1) := by decide +kernel
theorem dX7_join_74 : decode cX7_join 74 = .ok (.lcmp, 1) := by decide +kernel
theorem dX7_join_75 : decode cX7_join 75 = .ok (.ifCond .ne 7, 3) := by decide +kernel
theorem dX7_join_78 : decode cX7_join 78 = .ok (.lconst 1, 1) := by decide +kernel
theorem dX7_join_79 : decode cX7_join 79 = .ok (.goto 4, 3) := by decide +kernel
theorem dX7_join_82 : decode cX7_join 82 = .ok (.lconst 0, 1) := by decide +kernel
theorem dX7_join_83 : decode cX7_join 83 = .ok (.lreturn, 1) := by decide +kernel
theorem dX7_join_84 : decode cX7_join 84 = .ok (.lload_n 1, 1) := by decide +kernel
theorem dX7_join_85 : decode cX7_join 85 = .ok (.lload_n 3, 1) := by decide +kernel
theorem dX7_join_86 : decode cX7_join 86 = .ok (.ladd, 1) := by decide +kernel
theorem dX7_join_87 : decode cX7_join 87 = .ok (.lstore 5, 2) := by decide +kernel
theorem dX7_join_89 : decode cX7_join 89 = .ok (.goto 63, 3) := by decide +kernel
theorem dX7_join_92 : decode cX7_join 92 = .ok (.lload_n 1, 1) := by decide +kernel
theorem dX7_join_93 : decode cX7_join 93 = .ok (.lload_n 3, 1) := by decide +kernel
theorem dX7_join_94 : decode cX7_join 94 = .ok (.lsub, 1) := by decide +kernel
theorem dX7_join_95 : decode cX7_join 95 = .ok (.lstore 5, 2) := by decide +kernel
theorem dX7_join_97 : decode cX7_join 97 = .ok (.goto 55, 3) := by decide +kernel
theorem dX7_join_100 : decode cX7_join 100 = .ok (.lload_n 1, 1) := by decide +kernel
theorem dX7_join_101 : decode cX7_join 101 = .ok (.lload_n 3, 1) := by decide +kernel
theorem dX7_join_102 : decode cX7_join 102 = .ok (.lmul, 1) := by decide +kernel
theorem dX7_join_103 : decode cX7_join 103 = .ok (.lstore 5, 2) := by decide +kernel
theorem dX7_join_105 : decode cX7_join 105 = .ok (.goto 47, 3) := by decide +kernel
theorem dX7_join_108 : decode cX7_join 108 = .ok (.lload_n 3, 1) := by decide +kernel
theorem dX7_join_109 : decode cX7_join 109 = .ok (.lconst 0, 1) := by decide +kernel
theorem dX7_join_110 : decode cX7_join 110 = .ok (.lcmp, 1) := by decide +kernel
theorem dX7_join_111 : decode cX7_join 111 = .ok (.ifCond .ne 9, 3) := by decide +kernel
theorem dX7_join_114 : decode cX7_join 114 = .ok (.ldc2_w 24, 3) := by decide +kernel
theorem dX7_join_117 : decode cX7_join 117 = .ok (.goto 6, 3) := by decide +kernel
theorem dX7_join_120 : decode cX7_join 120 = .ok (.lload_n 1, 1) := by decide +kernel
theorem dX7_join_121 : decode cX7_join 121 = .ok (.lload_n 3, 1) := by decide +kernel
theorem dX7_join_122 : decode cX7_join 122 = .ok (.ldiv, 1) := by decide +kernel
theorem dX7_join_123 : decode cX7_join 123 = .ok (.lstore 5, 2) := by decide +kernel
theorem dX7_join_125 : decode cX7_join 125 = .ok (.goto 27, 3) := by decide +kernel
theorem dX7_join_128 : decode cX7_join 128 = .ok (.lload_n 3, 1) := by decide +kernel
theorem dX7_join_129 : decode cX7_join 129 = .ok (.lconst 0, 1) := by decide +kernel
theorem dX7_join_130 : decode cX7_join 130 = .ok (.lcmp, 1) := by decide +kernel
theorem dX7_join_131 : decode cX7_join 131 = .ok (.ifCond .ne 9, 3) := by decide +kernel
theorem dX7_join_134 : decode cX7_join 134 = .ok (.ldc2_w 24, 3) := by decide +kernel
theorem dX7_join_137 : decode cX7_join 137 = .ok (.goto 6, 3) := by decide +kernel
theorem dX7_join_140 : decode cX7_join 140 = .ok (.lload_n 1, 1) := by decide +kernel
theorem dX7_join_141 : decode cX7_join 141 = .ok (.lload_n 3, 1) := by decide +kernel
theorem dX7_join_142 : decode cX7_join 142 = .ok (.lrem, 1) := by decide +kernel
theorem dX7_join_143 : decode cX7_join 143 = .ok (.lstore 5, 2) := by decide +kernel
theorem dX7_join_145 : decode cX7_join 145 = .ok (.goto 7, 3) := by decide +kernel
theorem dX7_join_148 : decode cX7_join 148 = .ok (.ldc2_w 24, 3) := by decide +kernel
theorem dX7_join_151 : decode cX7_join 151 = .ok (.lreturn, 1) := by decide +kernel
theorem dX7_join_152 : decode cX7_join 152 = .ok (.lload 5, 2) := by decide +kernel
theorem dX7_join_154 : decode cX7_join 154 = .ok (.ldc2_w 30, 3) := by decide +kernel
theorem dX7_join_157 : decode cX7_join 157 = .ok (.lcmp, 1) := by decide +kernel
theorem dX7_join_158 : decode cX7_join 158 = .ok (.ifCond .gt 12, 3) := by decide +kernel
theorem dX7_join_161 : decode cX7_join 161 = .ok (.lload 5, 2) := by decide +kernel
theorem dX7_join_163 : decode cX7_join 163 = .ok (.ldc2_w 32, 3) := by decide +kernel
theorem dX7_join_166 : decode cX7_join 166 = .ok (.lcmp, 1) := by decide +kernel
theorem dX7_join_167 : decode cX7_join 167 = .ok (.ifCond .ge 9, 3) := by decide +kernel
theorem dX7_join_170 : decode cX7_join 170 = .ok (.ldc2_w 24, 3) := by decide +kernel
theorem dX7_join_173 : decode cX7_join 173 = .ok (.goto 5, 3) := by decide +kernel
theorem dX7_join_176 : decode cX7_join 176 = .ok (.lload 5, 2) := by decide +kernel
theorem dX7_join_178 : decode cX7_join 178 = .ok (.lreturn, 1) := by decide +kernel
theorem dX8_init_0 : decode cX8_init 0 = .ok (.aload_n 0, 1) := by decide +kernel
theorem dX8_init_1 : decode cX8_init 1 = .ok (.invokespecial 3, 3) := by decide +kernel
theorem dX8_init_4 : decode cX8_init 4 = .ok (.aload_n 0, 1) := by decide +kernel
theorem dX8_init_5 : decode cX8_init 5 = .ok (.iconst 0, 1) := by decide +kernel
theorem dX8_init_6 : decode cX8_init 6 = .ok (.putfield 9, 3) := by decide +kernel
theorem dX8_init_9 : decode cX8_init 9 = .ok (.aload_n 0, 1) := by decide +kernel
theorem dX8_init_10 : decode cX8_init 10 = .ok (.iconst 0, 1) := by decide +kernel
theorem dX8_init_11 : decode cX8_init 11 = .ok (.putfield 15, 3) := by decide +kernel
theorem dX8_init_14 : decode cX8_init 14 = .ok (.aload_n 0, 1) := by decide +kernel
theorem dX8_init_15 : decode cX8_init 15 = .ok (.iconst 0, 1) := by decide +kernel
theorem dX8_init_16 : decode cX8_init 16 = .ok (.putfield 18, 3) := by decide +kernel
theorem dX8_init_19 : decode cX8_init 19 = .ok (.aload_n 0, 1) := by decide +kernel
theorem dX8_init_20 : decode cX8_init 20 = .ok (.iload_n 1, 1) := by decide +kernel
theorem dX8_init_21 : decode cX8_init 21 = .ok (.newarray .int, 2) := by decide +kernel
theorem dX8_init_23 : decode cX8_init 23 = .ok (.putfield 22, 3) := by decide +kernel
theorem dX8_init_26 : decode cX8_init 26 = .ok (.aload_n 0, 1) := by decide +kernel
theorem dX8_init_27 : decode cX8_init 27 = .ok (.iload_n 1, 1) := by decide +kernel
theorem dX8_init_28 : decode cX8_init 28 = .ok (.newarray .int, 2) := by decide +kernel
theorem dX8_init_30 : decode cX8_init 30 = .ok (.putfield 26, 3) := by decide +kernel
theorem dX8_init_33 : decode cX8_init 33 = .ok (.aload_n 0, 1) := by decide +kernel
theorem dX8_init_34 : decode cX8_init 34 = .ok (.iload_n 1, 1) := by decide +kernel
theorem dX8_init_35 : decode cX8_init 35 = .ok (.newarray .int, 2) := by decide +kernel
theorem dX8_init_37 : decode cX8_init 37 = .ok (.putfield 29, 3) := by decide +kernel
theorem dX8_init_40 : decode cX8_init 40 = .ok (.aload_n 0, 1) := by decide +kernel
theorem dX8_init_41 : decode cX8_init 41 = .ok (.iload_n 1, 1) := by decide +kernel
theorem dX8_init_42 : decode cX8_init 42 = .ok (.newarray .int, 2) := by decide +kernel
theorem dX8_init_44 : decode cX8_init 44 = .ok (.putfield 32, 3) := by decide +kernel
theorem dX8_init_47 : decode cX8_init 47 = .ok (.aload_n 0, 1) := by decide +kernel
theorem dX8_init_48 : decode cX8_init 48 = .ok (.iload_n 1, 1) := by decide +kernel
theorem dX8_init_49 : decode cX8_init 49 = .ok (.newarray .int, 2) := by decide +kernel
theorem dX8_init_51 : decode cX8_init 51 = .ok (.putfield 35, 3) := by decide +kernel
theorem dX8_init_54 : decode cX8_init 54 = .ok (.aload_n 0, 1) := by decide +kernel
theorem dX8_init_55 : decode cX8_init 55 = .ok (.iload_n 2, 1) := by decide +kernel
theorem dX8_init_56 : decode cX8_init 56 = .ok (.newarray .int, 2) := by decide +kernel
theorem dX8_init_58 : decode cX8_init 58 = .ok (.putfield 38, 3) := by decide +kernel
theorem dX8_init_61 : decode cX8_init 61 = .ok (.return_, 1) := by decide +kernel
theorem dX8_trimmed_0 : decode cX8_trimmed 0 = .ok (.iconst 0, 1) := by decide +kernel
theorem dX8_trimmed_1 : decode cX8_trimmed 1 = .ok (.aload_n 0, 1) := by decide +kernel
theorem dX8_trimmed_2 : decode cX8_trimmed 2 = .ok (.getfield 9, 3) := by decide +kernel
theorem dX8_trimmed_5 : decode cX8_trimmed 5 = .ok (.aload_n 0, 1) := by decide +kernel
theorem dX8_trimmed_6 : decode cX8_trimmed 6 = .ok (.getfield 22, 3) := by decide +kernel
theorem dX8_trimmed_9 : decode cX8_trimmed 9 = .ok (.arraylength, 1) := by decide +kernel
theorem dX8_trimmed_10 : decode cX8_trimmed 10 = .ok (.invokestatic 41, 3) := by decide +kernel
theorem dX8_trimmed_13 : decode cX8_trimmed 13 = .ok (.invokestatic 47, 3) := by decide +kernel
theorem dX8_trimmed_16 : decode cX8_trimmed 16 = .ok (.istore_n 1, 1) := by decide +kernel
theorem dX8_trimmed_17 : decode cX8_trimmed 17 = .ok (.iconst 0, 1) := by decide +kernel
theorem dX8_trimmed_18 : decode cX8_trimmed 18 = .ok (.aload_n 0, 1) := by decide +kernel
theorem dX8_trimmed_19 : decode cX8_trimmed 19 = .ok (.getfield 15, 3) := by decide +kernel
theorem dX8_trimmed_22 : decode cX8_trimmed 22 = .ok (.aload_n 0, 1) := by decide +kernel
theorem dX8_trimmed_23 : decode cX8_trimmed 23 = .ok (.getfield 38, 3) := by decide +kernel
theorem dX8_trimmed_26 : decode cX8_trimmed 26 = .ok (.arraylength, 1) := by decide +kernel
theorem dX8_trimmed_27 : decode cX8_trimmed 27 = .ok (.invokestatic 41, 3) := by decide +kernel
theorem dX8_trimmed_30 : decode cX8_trimmed 30 = .ok (.invokestatic 47, 3) := by decide +kernel
theorem dX8_trimmed_33 : decode cX8_trimmed 33 = .ok (.istore_n 2, 1) := by decide +kernel
theorem dX8_trimmed_34 : decode cX8_trimmed 34 = .ok (.new 10, 3) := by decide +kernel
theorem dX8_trimmed_37 : decode cX8_trimmed 37 = .ok (.dup, 1) := by decide +kernel
theorem dX8_trimmed_38 : decode cX8_trimmed 38 = .ok (.iload_n 1, 1) := by decide +kernel
theorem dX8_trimmed_39 : decode cX8_trimmed 39 = .ok (.iload_n 2, 1) := by decide +kernel
theorem dX8_trimmed_40 : decode cX8_trimmed 40 = .ok (.invokespecial 50, 3) := by decide +kernel
theorem dX8_trimmed_43 : decode cX8_trimmed 43 = .ok (.astore_n 3, 1) := by decide +kernel
theorem dX8_trimmed_44 : decode cX8_trimmed 44 = .ok (.aload_n 3, 1) := by decide +kernel
theorem dX8_trimmed_45 : decode cX8_trimmed 45 = .ok (.iload_n 1, 1) := by decide +kernel
theorem dX8_trimmed_46 : decode cX8_trimmed 46 = .ok (.putfield 9, 3) := by decide +kernel
theorem dX8_trimmed_49 : decode cX8_trimmed 49 = .ok (.aload_n 3, 1) := by decide +kernel
theorem dX8_trimmed_50 : decode cX8_trimmed 50 = .ok (.iload_n 2, 1) := by decide +kernel
theorem dX8_trimmed_51 : decode cX8_trimmed 51 = .ok (.putfield 15, 3) := by decide +kernel
theorem dX8_trimmed_54 : decode cX8_trimmed 54 = .ok (.aload_n 3, 1) := by decide +kernel
theorem dX8_trimmed_55 : decode cX8_trimmed 55 = .ok (.aload_n 0, 1) := by decide +kernel
theorem dX8_trimmed_56 : decode cX8_trimmed 56 = .ok (.getfield 18, 3) := by decide +kernel
theorem dX8_trimmed_59 : decode cX8_trimmed 59 = .ok (.putfield 18, 3) := by decide +kernel
theorem dX8_trimmed_62 : decode cX8_trimmed 62 = .ok (.aload_n 0, 1) := by decide +kernel
theorem dX8_trimmed_63 : decode cX8_trimmed 63 = .ok (.getfield 22, 3) := by decide +kernel
theorem dX8_trimmed_66 : decode cX8_trimmed 66 = .ok (.iconst 0, 1) := by decide +kernel
theorem dX8_trimmed_67 : decode cX8_trimmed 67 = .ok (.aload_n 3, 1) := by decide +kernel
theorem dX8_trimmed_68 : decode cX8_trimmed 68 = .ok (.getfield 22, 3) := by decide +kernel
theorem dX8_trimmed_71 : decode cX8_trimmed 71 = .ok (.iconst 0, 1) := by decide +kernel
theorem dX8_trimmed_72 : decode cX8_trimmed 72 = .ok (.iload_n 1, 1) := by decide +kernel
theorem dX8_trimmed_73 : decode cX8_trimmed 73 = .ok (.invokestatic 53, 3) := by decide +kernel
theorem dX8_trimmed_76 : decode cX8_trimmed 76 = .ok (.aload_n 0, 1) := by decide +kernel
theorem dX8_trimmed_77 : decode cX8_trimmed 77 = .ok (.getfield 26, 3) := by decide +kernel
theorem dX8_trimmed_80 : decode cX8_trimmed 80 = .ok (.iconst 0, 1) := by decide +kernel
theorem dX8_trimmed_81 : decode cX8_trimmed 81 = .ok (.aload_n 3, 1) := by decide +kernel
theorem dX8_trimmed_82 : decode cX8_trimmed 82 = .ok (.getfield 26, 3) := by decide +kernel
theorem dX8_trimmed_85 : decode cX8_trimmed 85 = .ok (.iconst 0, 1) := by decide +kernel
theorem dX8_trimmed_86 : decode cX8_trimmed 86 = .ok (.iload_n 1, 1) := by decide +kernel
theorem dX8_trimmed_87 : decode cX8_trimmed 87 = .ok (.invokestatic 53, 3) := by decide +kernel
theorem dX8_trimmed_90 : decode cX8_trimmed 90 = .ok (.aload_n 0, 1) := by decide +kernel
theorem dX8_trimmed_91 : decode cX8_trimmed 91 = .ok (.getfield 29, 3) := by decide +kernel
theorem dX8_trimmed_94 : decode cX8_trimmed 94 = .ok (.iconst 0, 1) := by decide +kernel
theorem dX8_trimmed_95 : decode cX8_trimmed 95 = .ok (.aload_n 3, 1) := by decide +kernel
theorem dX8_trimmed_96 : decode cX8_trimmed 96 = .ok (.getfield 29, 3) := by decide +kernel
theorem dX8_trimmed_99 : decode cX8_trimmed 99 = .ok (.iconst 0, 1) := by decide +kernel
theorem dX8_trimmed_100 : decode cX8_trimmed 100 = .ok (.iload_n 1, 1) := by decide +kernel
theorem dX8_trimmed_101 : decode cX8_trimmed 101 = .ok (.invokestatic 53, 3) := by decide +kernel
theorem dX8_trimmed_104 : decode cX8_trimmed 104 = .ok (.aload_n 0, 1) := by decide +kernel
theorem dX8_trimmed_105 : decode cX8_trimmed 105 = .ok (.getfield 32, 3) := by decide +kernel
theorem dX8_trimmed_108 : decode cX8_trimmed 108 = .ok (.iconst 0, 1) := by decide +kernel
theorem dX8_trimmed_109 : decode cX8_trimmed 109 = .ok (.aload_n 3, 1) := by decide +kernel
theorem dX8_trimmed_110 : decode cX8_trimmed 110 = .ok (.getfield 32, 3) := by decide +kernel
theorem dX8_trimmed_113 : decode cX8_trimmed 113 = .ok (.iconst 0, 1) := by decide +kernel
theorem dX8_trimmed_114 : decode cX8_trimmed 114 = .ok (.iload_n 1, 1) := by decide +kernel
theorem dX8_trimmed_115 : decode cX8_trimmed 115 = .ok (.invokestatic 53, 3) := by decide +kernel
theorem dX8_trimmed_118 : decode cX8_trimmed 118 = .ok (.aload_n 0, 1) := by decide +kernel
theorem dX8_trimmed_119 : decode cX8_trimmed 119 = .ok (.getfield 35, 3) := by decide +kernel
theorem dX8_trimmed_122 : decode cX8_trimmed 122 = .ok (.iconst 0, 1) := by decide +kernel
theorem dX8_trimmed_123 : decode cX8_trimmed 123 = .ok (.aload_n 3, 1) := by decide +kernel
theorem dX8_trimmed_124 : decode cX8_trimmed 124 = .ok (.getfield 35, 3) := by decide +kernel
theorem dX8_trimmed_127 : decode cX8_trimmed 127 = .ok (.iconst 0, 1) := by decide +kernel
theorem dX8_trimmed_128 : decode cX8_trimmed 128 = .ok (.iload_n 1, 1) := by decide +kernel
theorem dX8_trimmed_129 : decode cX8_trimmed 129 = .ok (.invokestatic 53, 3) := by decide +kernel
theorem dX8_trimmed_132 : decode cX8_trimmed 132 = .ok (.aload_n 0, 1) := by decide +kernel
theorem dX8_trimmed_133 : decode cX8_trimmed 133 = .ok (.getfield 38, 3) := by decide +kernel
theorem dX8_trimmed_136 : decode cX8_trimmed 136 = .ok (.iconst 0, 1) := by decide +kernel
theorem dX8_trimmed_137 : decode cX8_trimmed 137 = .ok (.aload_n 3, 1) := by decide +kernel
theorem dX8_trimmed_138 : decode cX8_trimmed 138 = .ok (.getfield 38, 3) := by decide +kernel
theorem dX8_trimmed_141 : decode cX8_trimmed 141 = .ok (.iconst 0, 1) := by decide +kernel
theorem dX8_trimmed_142 : decode cX8_trimmed 142 = .ok (.iload_n 2, 1) := by decide +kernel
theorem dX8_trimmed_143 : decode cX8_trimmed 143 = .ok (.invokestatic 53, 3) := by decide +kernel
theorem dX8_trimmed_146 : decode cX8_trimmed 146 = .ok (.aload_n 3, 1) := by decide +kernel
theorem dX8_trimmed_147 : decode cX8_trimmed 147 = .ok (.areturn, 1) := by decide +kernel
theorem dX8_clear_0 : decode cX8_clear 0 = .ok (.aload_n 0, 1) := by decide +kernel
theorem dX8_clear_1 : decode cX8_clear 1 = .ok (.iconst 0, 1) := by decide +kernel
theorem dX8_clear_2 : decode cX8_clear 2 = .ok (.putfield 9, 3) := by decide +kernel
theorem dX8_clear_5 : decode cX8_clear 5 = .ok (.aload_n 0, 1) := by decide +kernel
theorem dX8_clear_6 : decode cX8_clear 6 = .ok (.iconst 0, 1) := by decide +kernel
theorem dX8_clear_7 : decode cX8_clear 7 = .ok (.putfield 15, 3) := by decide +kernel
theorem dX8_clear_10 : decode cX8_clear 10 = .ok (.aload_n 0, 1) := by decide +kernel
theorem dX8_clear_11 : decode cX8_clear 11 = .ok (.iconst 0, 1) := by decide +kernel
theorem dX8_clear_12 : decode cX8_clear 12 = .ok (.putfield 18, 3) := by decide +kernel
theorem dX8_clear_15 : decode cX8_clear 15 = .ok (.return_, 1) := by decide +kernel
theorem dX8_addClause_0 : decode cX8_addClause 0 = .ok (.aload_n 0, 1) := by decide +kernel
theorem dX8_addClause_1 : decode cX8_addClause 1 = .ok (.getfield 9, 3) := by decide +kernel
theorem dX8_addClause_4 : decode cX8_addClause 4 = .ok (.aload_n 0, 1) := by decide +kernel
theorem dX8_addClause_5 : decode cX8_addClause 5 = .ok (.getfield 22, 3) := by decide +kernel
theorem dX8_addClause_8 : decode cX8_addClause 8 = .ok (.arraylength, 1) := by decide +kernel
theorem dX8_addClause_9 : decode cX8_addClause 9 = .ok (.if_icmp .lt 5, 3) := by decide +kernel
theorem dX8_addClause_12 : decode cX8_addClause 12 = .ok (.iconst 0, 1) := by decide +kernel
theorem dX8_addClause_13 : decode cX8_addClause 13 = .ok (.ireturn, 1) := by decide +kernel
theorem dX8_addClause_14 : decode cX8_addClause 14 = .ok (.aload_n 0, 1) := by decide +kernel
theorem dX8_addClause_15 : decode cX8_addClause 15 = .ok (.getfield 22, 3) := by decide +kernel
theorem dX8_addClause_18 : decode cX8_addClause 18 = .ok (.aload_n 0, 1) := by decide +kernel
theorem dX8_addClause_19 : decode cX8_addClause 19 = .ok (.getfield 9, 3) := by decide +kernel
theorem dX8_addClause_22 : decode cX8_addClause 22 = .ok (.iload_n 1, 1) := by decide +kernel
theorem dX8_addClause_23 : decode cX8_addClause 23 = .ok (.iastore, 1) := by decide +kernel
theorem dX8_addClause_24 : decode cX8_addClause 24 = .ok (.aload_n 0, 1) := by decide +kernel
theorem dX8_addClause_25 : decode cX8_addClause 25 = .ok (.getfield 26, 3) := by decide +kernel
theorem dX8_addClause_28 : decode cX8_addClause 28 = .ok (.aload_n 0, 1) := by decide +kernel
theorem dX8_addClause_29 : decode cX8_addClause 29 = .ok (.getfield 9, 3) := by decide +kernel
theorem dX8_addClause_32 : decode cX8_addClause 32 = .ok (.iconst (-1), 1) := by decide +kernel
theorem dX8_addClause_33 : decode cX8_addClause 33 = .ok (.iastore, 1) := by decide +kernel
theorem dX8_addClause_34 : decode cX8_addClause 34 = .ok (.aload_n 0, 1) := by decide +kernel
theorem dX8_addClause_35 : decode cX8_addClause 35 = .ok (.getfield 29, 3) := by decide +kernel
theorem dX8_addClause_38 : decode cX8_addClause 38 = .ok (.aload_n 0, 1) := by decide +kernel
theorem dX8_addClause_39 : decode cX8_addClause 39 = .ok (.getfield 9, 3) := by decide +kernel
theorem dX8_addClause_42 : decode cX8_addClause 42 = .ok (.iconst (-1), 1) := by decide +kernel
theorem dX8_addClause_43 : decode cX8_addClause 43 = .ok (.iastore, 1) := by decide +kernel
theorem dX8_addClause_44 : decode cX8_addClause 44 = .ok (.aload_n 0, 1) := by decide +kernel
theorem dX8_addClause_45 : decode cX8_addClause 45 = .ok (.getfield 32, 3) := by decide +kernel
theorem dX8_addClause_48 : decode cX8_addClause 48 = .ok (.aload_n 0, 1) := by decide +kernel
theorem dX8_addClause_49 : decode cX8_addClause 49 = .ok (.getfield 9, 3) := by decide +kernel
theorem dX8_addClause_52 : decode cX8_addClause 52 = .ok (.iconst (-1), 1) := by decide +kernel
theorem dX8_addClause_53 : decode cX8_addClause 53 = .ok (.iastore, 1) := by decide +kernel
theorem dX8_addClause_54 : decode cX8_addClause 54 = .ok (.aload_n 0, 1) := by decide +kernel
theorem dX8_addClause_55 : decode cX8_addClause 55 = .ok (.getfield 35, 3) := by decide +kernel
theorem dX8_addClause_58 : decode cX8_addClause 58 = .ok (.aload_n 0, 1) := by decide +kernel
theorem dX8_addClause_59 : decode cX8_addClause 59 = .ok (.getfield 9, 3) := by decide +kernel
theorem dX8_addClause_62 : decode cX8_addClause 62 = .ok (.iconst 1, 1) := by decide +kernel
theorem dX8_addClause_63 : decode cX8_addClause 63 = .ok (.iastore, 1) := by decide +kernel
theorem dX8_addClause_64 : decode cX8_addClause 64 = .ok (.aload_n 0, 1) := by decide +kernel
theorem dX8_addClause_65 : decode cX8_addClause 65 = .ok (.dup, 1) := by decide +kernel
theorem dX8_addClause_66 : decode cX8_addClause 66 = .ok (.getfield 9, 3) := by decide +kernel
theorem dX8_addClause_69 : decode cX8_addClause 69 = .ok (.iconst 1, 1) := by decide +kernel
theorem dX8_addClause_70 : decode cX8_addClause 70 = .ok (.iadd, 1) := by decide +kernel
theorem dX8_addClause_71 : decode cX8_addClause 71 = .ok (.putfield 9, 3) := by decide +kernel
theorem dX8_addClause_74 : decode cX8_addClause 74 = .ok (.iconst 1, 1) := by decide +kernel
theorem dX8_addClause_75 : decode cX8_addClause 75 = .ok (.ireturn, 1) := by decide +kernel
theorem dX8_addStep_0 : decode cX8_addStep 0 = .ok (.aload_n 0, 1) := by decide +kernel
theorem dX8_addStep_1 : decode cX8_addStep 1 = .ok (.getfield 15, 3) := by decide +kernel
theorem dX8_addStep_4 : decode cX8_addStep 4 = .ok (.istore_n 3, 1) := by decide +kernel
theorem dX8_addStep_5 : decode cX8_addStep 5 = .ok (.iload_n 3, 1) := by decide +kernel
theorem dX8_addStep_6 : decode cX8_addStep 6 = .ok (.aload_n 0, 1) := by decide +kernel
theorem dX8_addStep_7 : decode cX8_addStep 7 = .ok (.getfield 38, 3) := by decide +kernel
theorem dX8_addStep_10 : decode cX8_addStep 10 = .ok (.arraylength, 1) := by decide +kernel
theorem dX8_addStep_11 : decode cX8_addStep 11 = .ok (.if_icmp .ge 24, 3) := by decide +kernel
theorem dX8_addStep_14 : decode cX8_addStep 14 = .ok (.aload_n 0, 1) := by decide +kernel
theorem dX8_addStep_15 : decode cX8_addStep 15 = .ok (.getfield 38, 3) := by decide +kernel
theorem dX8_addStep_18 : decode cX8_addStep 18 = .ok (.iload_n 3, 1) := by decide +kernel
theorem dX8_addStep_19 : decode cX8_addStep 19 = .ok (.iload_n 2, 1) := by decide +kernel
theorem dX8_addStep_20 : decode cX8_addStep 20 = .ok (.iconst 4, 1) := by decide +kernel
theorem dX8_addStep_21 : decode cX8_addStep 21 = .ok (.ishl, 1) := by decide +kernel
theorem dX8_addStep_22 : decode cX8_addStep 22 = .ok (.iload_n 1, 1) := by decide +kernel
theorem dX8_addStep_23 : decode cX8_addStep 23 = .ok (.ior, 1) := by decide +kernel
theorem dX8_addStep_24 : decode cX8_addStep 24 = .ok (.iastore, 1) := by decide +kernel
theorem dX8_addStep_25 : decode cX8_addStep 25 = .ok (.aload_n 0, 1) := by decide +kernel
theorem dX8_addStep_26 : decode cX8_addStep 26 = .ok (.dup, 1) := by decide +kernel
theorem dX8_addStep_27 : decode cX8_addStep 27 = .ok (.getfield 15, 3) := by decide +kernel
theorem dX8_addStep_30 : decode cX8_addStep 30 = .ok (.iconst 1, 1) := by decide +kernel
theorem dX8_addStep_31 : decode cX8_addStep 31 = .ok (.iadd, 1) := by decide +kernel
theorem dX8_addStep_32 : decode cX8_addStep 32 = .ok (.putfield 15, 3) := by decide +kernel
theorem dX8_addStep_35 : decode cX8_addStep 35 = .ok (.iload_n 3, 1) := by decide +kernel
theorem dX8_addStep_36 : decode cX8_addStep 36 = .ok (.ireturn, 1) := by decide +kernel
theorem dX8_aimHere_0 : decode cX8_aimHere 0 = .ok (.iload_n 1, 1) := by decide +kernel
theorem dX8_aimHere_1 : decode cX8_aimHere 1 = .ok (.ifCond .lt 34, 3) := by decide +kernel
theorem dX8_aimHere_4 : decode cX8_aimHere 4 = .ok (.iload_n 1, 1) := by decide +kernel
theorem dX8_aimHere_5 : decode cX8_aimHere 5 = .ok (.aload_n 0, 1) := by decide +kernel
theorem dX8_aimHere_6 : decode cX8_aimHere 6 = .ok (.getfield 38, 3) := by decide +kernel
theorem dX8_aimHere_9 : decode cX8_aimHere 9 = .ok (.arraylength, 1) := by decide +kernel
theorem dX8_aimHere_10 : decode cX8_aimHere 10 = .ok (.if_icmp .ge 25, 3) := by decide +kernel
theorem dX8_aimHere_13 : decode cX8_aimHere 13 = .ok (.aload_n 0, 1) := by decide +kernel
theorem dX8_aimHere_14 : decode cX8_aimHere 14 = .ok (.getfield 38, 3) := by decide +kernel
theorem dX8_aimHere_17 : decode cX8_aimHere 17 = .ok (.iload_n 1, 1) := by decide +kernel
theorem dX8_aimHere_18 : decode cX8_aimHere 18 = .ok (.aload_n 0, 1) := by decide +kernel
theorem dX8_aimHere_19 : decode cX8_aimHere 19 = .ok (.getfield 15, 3) := by decide +kernel
theorem dX8_aimHere_22 : decode cX8_aimHere 22 = .ok (.iconst 4, 1) := by decide +kernel
theorem dX8_aimHere_23 : decode cX8_aimHere 23 = .ok (.ishl, 1) := by decide +kernel
theorem dX8_aimHere_24 : decode cX8_aimHere 24 = .ok (.aload_n 0, 1) := by decide +kernel
theorem dX8_aimHere_25 : decode cX8_aimHere 25 = .ok (.getfield 38, 3) := by decide +kernel
theorem dX8_aimHere_28 : decode cX8_aimHere 28 = .ok (.iload_n 1, 1) := by decide +kernel
theorem dX8_aimHere_29 : decode cX8_aimHere 29 = .ok (.iaload, 1) := by decide +kernel
theorem dX8_aimHere_30 : decode cX8_aimHere 30 = .ok (.bipush 15, 2) := by decide +kernel
theorem dX8_aimHere_32 : decode cX8_aimHere 32 = .ok (.iand, 1) := by decide +kernel
theorem dX8_aimHere_33 : decode cX8_aimHere 33 = .ok (.ior, 1) := by decide +kernel
theorem dX8_aimHere_34 : decode cX8_aimHere 34 = .ok (.iastore, 1) := by decide +kernel
theorem dX8_aimHere_35 : decode cX8_aimHere 35 = .ok (.return_, 1) := by decide +kernel
