theorem dX9_refuse_6 : decode cX9_refuse 6 = .ok (.bipush (-3), 2) := by decide +kernel
theorem dX9_refuse_8 : decode cX9_refuse 8 = .ok (.if_icmp .lt 10, 3) := by decide +kernel
theorem dX9_refuse_11 : decode cX9_refuse 11 = .ok (.iload_n 1, 1) := by decide +kernel
theorem dX9_refuse_12 : decode cX9_refuse 12 = .ok (.ineg, 1) := by decide +kernel
theorem dX9_refuse_13 : decode cX9_refuse 13 = .ok (.iconst 1, 1) := by decide +kernel
theorem dX9_refuse_14 : decode cX9_refuse 14 = .ok (.isub, 1) := by decide +kernel
theorem dX9_refuse_15 : decode cX9_refuse 15 = .ok (.goto 7, 3) := by decide +kernel
theorem dX9_refuse_18 : decode cX9_refuse 18 = .ok (.iload_n 1, 1) := by decide +kernel
theorem dX9_refuse_19 : decode cX9_refuse 19 = .ok (.ineg, 1) := by decide +kernel
theorem dX9_refuse_20 : decode cX9_refuse 20 = .ok (.iconst 2, 1) := by decide +kernel
theorem dX9_refuse_21 : decode cX9_refuse 21 = .ok (.isub, 1) := by decide +kernel
theorem dX9_refuse_22 : decode cX9_refuse 22 = .ok (.istore_n 2, 1) := by decide +kernel
theorem dX9_refuse_23 : decode cX9_refuse 23 = .ok (.iload_n 2, 1) := by decide +kernel
theorem dX9_refuse_24 : decode cX9_refuse 24 = .ok (.ifCond .lt 22, 3) := by decide +kernel
theorem dX9_refuse_27 : decode cX9_refuse 27 = .ok (.iload_n 2, 1) := by decide +kernel
theorem dX9_refuse_28 : decode cX9_refuse 28 = .ok (.aload_n 0, 1) := by decide +kernel
theorem dX9_refuse_29 : decode cX9_refuse 29 = .ok (.getfield 80, 3) := by decide +kernel
theorem dX9_refuse_32 : decode cX9_refuse 32 = .ok (.arraylength, 1) := by decide +kernel
theorem dX9_refuse_33 : decode cX9_refuse 33 = .ok (.if_icmp .ge 13, 3) := by decide +kernel
theorem dX9_refuse_36 : decode cX9_refuse 36 = .ok (.aload_n 0, 1) := by decide +kernel
theorem dX9_refuse_37 : decode cX9_refuse 37 = .ok (.getfield 80, 3) := by decide +kernel
theorem dX9_refuse_40 : decode cX9_refuse 40 = .ok (.iload_n 2, 1) := by decide +kernel
theorem dX9_refuse_41 : decode cX9_refuse 41 = .ok (.dup2, 1) := by decide +kernel
theorem dX9_refuse_42 : decode cX9_refuse 42 = .ok (.iaload, 1) := by decide +kernel
theorem dX9_refuse_43 : decode cX9_refuse 43 = .ok (.iconst 1, 1) := by decide +kernel
theorem dX9_refuse_44 : decode cX9_refuse 44 = .ok (.iadd, 1) := by decide +kernel
theorem dX9_refuse_45 : decode cX9_refuse 45 = .ok (.iastore, 1) := by decide +kernel
theorem dX9_refuse_46 : decode cX9_refuse 46 = .ok (.iload_n 1, 1) := by decide +kernel
theorem dX9_refuse_47 : decode cX9_refuse 47 = .ok (.ireturn, 1) := by decide +kernel
theorem dX9_act_0 : decode cX9_act 0 = .ok (.aload_n 0, 1) := by decide +kernel
theorem dX9_act_1 : decode cX9_act 1 = .ok (.getfield 12, 3) := by decide +kernel
theorem dX9_act_4 : decode cX9_act 4 = .ok (.aload_n 0, 1) := by decide +kernel
theorem dX9_act_5 : decode cX9_act 5 = .ok (.getfield 12, 3) := by decide +kernel
theorem dX9_act_8 : decode cX9_act 8 = .ok (.getfield 123, 3) := by decide +kernel
theorem dX9_act_11 : decode cX9_act 11 = .ok (.iload_n 1, 1) := by decide +kernel
theorem dX9_act_12 : decode cX9_act 12 = .ok (.iload_n 2, 1) := by decide +kernel
theorem dX9_act_13 : decode cX9_act 13 = .ok (.i2l, 1) := by decide +kernel
theorem dX9_act_14 : decode cX9_act 14 = .ok (.iload_n 3, 1) := by decide +kernel
theorem dX9_act_15 : decode cX9_act 15 = .ok (.i2l, 1) := by decide +kernel
theorem dX9_act_16 : decode cX9_act 16 = .ok (.invokevirtual 306, 3) := by decide +kernel
theorem dX9_act_19 : decode cX9_act 19 = .ok (.istore 4, 2) := by decide +kernel
theorem dX9_act_21 : decode cX9_act 21 = .ok (.iload 4, 2) := by decide +kernel
theorem dX9_act_23 : decode cX9_act 23 = .ok (.ifCond .eq 10, 3) := by decide +kernel
theorem dX9_act_26 : decode cX9_act 26 = .ok (.aload_n 0, 1) := by decide +kernel
theorem dX9_act_27 : decode cX9_act 27 = .ok (.iload 4, 2) := by decide +kernel
theorem dX9_act_29 : decode cX9_act 29 = .ok (.invokevirtual 99, 3) := by decide +kernel
theorem dX9_act_32 : decode cX9_act 32 = .ok (.ireturn, 1) := by decide +kernel
theorem dX9_act_33 : decode cX9_act 33 = .ok (.aload_n 0, 1) := by decide +kernel
theorem dX9_act_34 : decode cX9_act 34 = .ok (.getfield 23, 3) := by decide +kernel
theorem dX9_act_37 : decode cX9_act 37 = .ok (.iload_n 1, 1) := by decide +kernel
theorem dX9_act_38 : decode cX9_act 38 = .ok (.aload_n 0, 1) := by decide +kernel
theorem dX9_act_39 : decode cX9_act 39 = .ok (.getfield 12, 3) := by decide +kernel
theorem dX9_act_42 : decode cX9_act 42 = .ok (.getfield 123, 3) := by decide +kernel
theorem dX9_act_45 : decode cX9_act 45 = .ok (.invokevirtual 310, 3) := by decide +kernel
theorem dX9_act_48 : decode cX9_act 48 = .ok (.aload_n 0, 1) := by decide +kernel
theorem dX9_act_49 : decode cX9_act 49 = .ok (.aload_n 0, 1) := by decide +kernel
theorem dX9_act_50 : decode cX9_act 50 = .ok (.getfield 30, 3) := by decide +kernel
theorem dX9_act_53 : decode cX9_act 53 = .ok (.aload_n 0, 1) := by decide +kernel
theorem dX9_act_54 : decode cX9_act 54 = .ok (.getfield 12, 3) := by decide +kernel
theorem dX9_act_57 : decode cX9_act 57 = .ok (.aload_n 0, 1) := by decide +kernel
theorem dX9_act_58 : decode cX9_act 58 = .ok (.getfield 12, 3) := by decide +kernel
theorem dX9_act_61 : decode cX9_act 61 = .ok (.getfield 123, 3) := by decide +kernel
theorem dX9_act_64 : decode cX9_act 64 = .ok (.iload_n 1, 1) := by decide +kernel
theorem dX9_act_65 : decode cX9_act 65 = .ok (.iload_n 2, 1) := by decide +kernel
theorem dX9_act_66 : decode cX9_act 66 = .ok (.iload_n 3, 1) := by decide +kernel
theorem dX9_act_67 : decode cX9_act 67 = .ok (.invokevirtual 314, 3) := by decide +kernel
theorem dX9_act_70 : decode cX9_act 70 = .ok (.invokevirtual 113, 3) := by decide +kernel
theorem dX9_act_73 : decode cX9_act 73 = .ok (.ireturn, 1) := by decide +kernel
theorem dX9_tellSet_0 : decode cX9_tellSet 0 = .ok (.iload_n 0, 1) := by decide +kernel
theorem dX9_tellSet_1 : decode cX9_tellSet 1 = .ok (.iconst (-1), 1) := by decide +kernel
theorem dX9_tellSet_2 : decode cX9_tellSet 2 = .ok (.if_icmp .eq 8, 3) := by decide +kernel
theorem dX9_tellSet_5 : decode cX9_tellSet 5 = .ok (.iload_n 1, 1) := by decide +kernel
theorem dX9_tellSet_6 : decode cX9_tellSet 6 = .ok (.iconst 1, 1) := by decide +kernel
theorem dX9_tellSet_7 : decode cX9_tellSet 7 = .ok (.if_icmp .ne 7, 3) := by decide +kernel
theorem dX9_tellSet_10 : decode cX9_tellSet 10 = .ok (.iload_n 0, 1) := by decide +kernel
theorem dX9_tellSet_11 : decode cX9_tellSet 11 = .ok (.goto 7, 3) := by decide +kernel
theorem dX9_tellSet_14 : decode cX9_tellSet 14 = .ok (.iload_n 0, 1) := by decide +kernel
theorem dX9_tellSet_15 : decode cX9_tellSet 15 = .ok (.invokestatic 251, 3) := by decide +kernel
theorem dX9_tellSet_18 : decode cX9_tellSet 18 = .ok (.ireturn, 1) := by decide +kernel
theorem dX9_putFour_0 : decode cX9_putFour 0 = .ok (.bipush 24, 2) := by decide +kernel
theorem dX9_putFour_2 : decode cX9_putFour 2 = .ok (.istore_n 2, 1) := by decide +kernel
theorem dX9_putFour_3 : decode cX9_putFour 3 = .ok (.iload_n 2, 1) := by decide +kernel
theorem dX9_putFour_4 : decode cX9_putFour 4 = .ok (.ifCond .lt 45, 3) := by decide +kernel
theorem dX9_putFour_7 : decode cX9_putFour 7 = .ok (.aload_n 0, 1) := by decide +kernel
theorem dX9_putFour_8 : decode cX9_putFour 8 = .ok (.getfield 56, 3) := by decide +kernel
theorem dX9_putFour_11 : decode cX9_putFour 11 = .ok (.sipush 400, 3) := by decide +kernel
theorem dX9_putFour_14 : decode cX9_putFour 14 = .ok (.if_icmp .ge 35, 3) := by decide +kernel
theorem dX9_putFour_17 : decode cX9_putFour 17 = .ok (.aload_n 0, 1) := by decide +kernel
theorem dX9_putFour_18 : decode cX9_putFour 18 = .ok (.getfield 52, 3) := by decide +kernel
theorem dX9_putFour_21 : decode cX9_putFour 21 = .ok (.aload_n 0, 1) := by decide +kernel
theorem dX9_putFour_22 : decode cX9_putFour 22 = .ok (.getfield 56, 3) := by decide +kernel
theorem dX9_putFour_25 : decode cX9_putFour 25 = .ok (.iload_n 1, 1) := by decide +kernel
theorem dX9_putFour_26 : decode cX9_putFour 26 = .ok (.iload_n 2, 1) := by decide +kernel
theorem dX9_putFour_27 : decode cX9_putFour 27 = .ok (.ishr, 1) := by decide +kernel
theorem dX9_putFour_28 : decode cX9_putFour 28 = .ok (.sipush 255, 3) := by decide +kernel
theorem dX9_putFour_31 : decode cX9_putFour 31 = .ok (.iand, 1) := by decide +kernel
theorem dX9_putFour_32 : decode cX9_putFour 32 = .ok (.iastore, 1) := by decide +kernel
theorem dX9_putFour_33 : decode cX9_putFour 33 = .ok (.aload_n 0, 1) := by decide +kernel
theorem dX9_putFour_34 : decode cX9_putFour 34 = .ok (.dup, 1) := by decide +kernel
theorem dX9_putFour_35 : decode cX9_putFour 35 = .ok (.getfield 56, 3) := by decide +kernel
theorem dX9_putFour_38 : decode cX9_putFour 38 = .ok (.iconst 1, 1) := by decide +kernel
theorem dX9_putFour_39 : decode cX9_putFour 39 = .ok (.iadd, 1) := by decide +kernel
theorem dX9_putFour_40 : decode cX9_putFour 40 = .ok (.putfield 56, 3) := by decide +kernel
theorem dX9_putFour_43 : decode cX9_putFour 43 = .ok (.iinc 2 (-8), 3) := by decide +kernel
theorem dX9_putFour_46 : decode cX9_putFour 46 = .ok (.goto (-43), 3) := by decide +kernel
theorem dX9_putFour_49 : decode cX9_putFour 49 = .ok (.return_, 1) := by decide +kernel
theorem dX9_addFromTape_0 : decode cX9_addFromTape 0 = .ok (.iload_n 1, 1) := by decide +kernel
theorem dX9_addFromTape_1 : decode cX9_addFromTape 1 = .ok (.ifCond .lt 34, 3) := by decide +kernel
theorem dX9_addFromTape_4 : decode cX9_addFromTape 4 = .ok (.iload_n 1, 1) := by decide +kernel
theorem dX9_addFromTape_5 : decode cX9_addFromTape 5 = .ok (.iconst 3, 1) := by decide +kernel
theorem dX9_addFromTape_6 : decode cX9_addFromTape 6 = .ok (.iadd, 1) := by decide +kernel
theorem dX9_addFromTape_7 : decode cX9_addFromTape 7 = .ok (.aload_n 0, 1) := by decide +kernel
theorem dX9_addFromTape_8 : decode cX9_addFromTape 8 = .ok (.getfield 56, 3) := by decide +kernel
theorem dX9_addFromTape_11 : decode cX9_addFromTape 11 = .ok (.if_icmp .gt 24, 3) := by decide +kernel
theorem dX9_addFromTape_14 : decode cX9_addFromTape 14 = .ok (.iload_n 1, 1) := by decide +kernel
theorem dX9_addFromTape_15 : decode cX9_addFromTape 15 = .ok (.iconst 3, 1) := by decide +kernel
theorem dX9_addFromTape_16 : decode cX9_addFromTape 16 = .ok (.iadd, 1) := by decide +kernel
theorem dX9_addFromTape_17 : decode cX9_addFromTape 17 = .ok (.sipush 400, 3) := by decide +kernel
theorem dX9_addFromTape_20 : decode cX9_addFromTape 20 = .ok (.if_icmp .gt 15, 3) := by decide +kernel
theorem dX9_addFromTape_23 : decode cX9_addFromTape 23 = .ok (.aload_n 0, 1) := by decide +kernel
theorem dX9_addFromTape_24 : decode cX9_addFromTape 24 = .ok (.getfield 12, 3) := by decide +kernel
theorem dX9_addFromTape_27 : decode cX9_addFromTape 27 = .ok (.getfield 103, 3) := by decide +kernel
theorem dX9_addFromTape_30 : decode cX9_addFromTape 30 = .ok (.bipush 8, 2) := by decide +kernel
theorem dX9_addFromTape_32 : decode cX9_addFromTape 32 = .ok (.if_icmp .lt 5, 3) := by decide +kernel
theorem dX9_addFromTape_35 : decode cX9_addFromTape 35 = .ok (.iconst 0, 1) := by decide +kernel
theorem dX9_addFromTape_36 : decode cX9_addFromTape 36 = .ok (.ireturn, 1) := by decide +kernel
theorem dX9_addFromTape_37 : decode cX9_addFromTape 37 = .ok (.aload_n 0, 1) := by decide +kernel
theorem dX9_addFromTape_38 : decode cX9_addFromTape 38 = .ok (.getfield 52, 3) := by decide +kernel
theorem dX9_addFromTape_41 : decode cX9_addFromTape 41 = .ok (.iload_n 1, 1) := by decide +kernel
theorem dX9_addFromTape_42 : decode cX9_addFromTape 42 = .ok (.iaload, 1) := by decide +kernel
theorem dX9_addFromTape_43 : decode cX9_addFromTape 43 = .ok (.istore_n 2, 1) := by decide +kernel
theorem dX9_addFromTape_44 : decode cX9_addFromTape 44 = .ok (.aload_n 0, 1) := by decide +kernel
theorem dX9_addFromTape_45 : decode cX9_addFromTape 45 = .ok (.getfield 52, 3) := by decide +kernel
theorem dX9_addFromTape_48 : decode cX9_addFromTape 48 = .ok (.iload_n 1, 1) := by decide +kernel
theorem dX9_addFromTape_49 : decode cX9_addFromTape 49 = .ok (.iconst 1, 1) := by decide +kernel
theorem dX9_addFromTape_50 : decode cX9_addFromTape 50 = .ok (.iadd, 1) := by decide +kernel
theorem dX9_addFromTape_51 : decode cX9_addFromTape 51 = .ok (.iaload, 1) := by decide +kernel
theorem dX9_addFromTape_52 : decode cX9_addFromTape 52 = .ok (.istore_n 3, 1) := by decide +kernel
theorem dX9_addFromTape_53 : decode cX9_addFromTape 53 = .ok (.aload_n 0, 1) := by decide +kernel
theorem dX9_addFromTape_54 : decode cX9_addFromTape 54 = .ok (.getfield 52, 3) := by decide +kernel
theorem dX9_addFromTape_57 : decode cX9_addFromTape 57 = .ok (.iload_n 1, 1) := by decide +kernel
theorem dX9_addFromTape_58 : decode cX9_addFromTape 58 = .ok (.iconst 2, 1) := by decide +kernel
theorem dX9_addFromTape_59 : decode cX9_addFromTape 59 = .ok (.iadd, 1) := by decide +kernel
theorem dX9_addFromTape_60 : decode cX9_addFromTape 60 = .ok (.iaload, 1) := by decide +kernel
theorem dX9_addFromTape_61 : decode cX9_addFromTape 61 = .ok (.istore 4, 2) := by decide +kernel
theorem dX9_addFromTape_63 : decode cX9_addFromTape 63 = .ok (.iload_n 2, 1) := by decide +kernel
theorem dX9_addFromTape_64 : decode cX9_addFromTape 64 = .ok (.i2l, 1) := by decide +kernel
theorem dX9_addFromTape_65 : decode cX9_addFromTape 65 = .ok (.bipush 9, 2) := by decide +kernel
theorem dX9_addFromTape_67 : decode cX9_addFromTape 67 = .ok (.invokestatic 95, 3) := by decide +kernel
theorem dX9_addFromTape_70 : decode cX9_addFromTape 70 = .ok (.ifCond .eq 29, 3) := by decide +kernel
theorem dX9_addFromTape_73 : decode cX9_addFromTape 73 = .ok (.iload_n 3, 1) := by decide +kernel
theorem dX9_addFromTape_74 : decode cX9_addFromTape 74 = .ok (.i2l, 1) := by decide +kernel
theorem dX9_addFromTape_75 : decode cX9_addFromTape 75 = .ok (.bipush 9, 2) := by decide +kernel
theorem dX9_addFromTape_77 : decode cX9_addFromTape 77 = .ok (.invokestatic 95, 3) := by decide +kernel
theorem dX9_addFromTape_80 : decode cX9_addFromTape 80 = .ok (.ifCond .eq 19, 3) := by decide +kernel
theorem dX9_addFromTape_83 : decode cX9_addFromTape 83 = .ok (.iload 4, 2) := by decide +kernel
theorem dX9_addFromTape_85 : decode cX9_addFromTape 85 = .ok (.i2l, 1) := by decide +kernel
theorem dX9_addFromTape_86 : decode cX9_addFromTape 86 = .ok (.aload_n 0, 1) := by decide +kernel
theorem dX9_addFromTape_87 : decode cX9_addFromTape 87 = .ok (.getfield 12, 3) := by decide +kernel
theorem dX9_addFromTape_90 : decode cX9_addFromTape 90 = .ok (.invokevirtual 219, 3) := by decide +kernel
theorem dX9_addFromTape_93 : decode cX9_addFromTape 93 = .ok (.invokestatic 95, 3) := by decide +kernel
theorem dX9_addFromTape_96 : decode cX9_addFromTape 96 = .ok (.ifCond .ne 5, 3) := by decide +kernel
theorem dX9_addFromTape_99 : decode cX9_addFromTape 99 = .ok (.iconst 0, 1) := by decide +kernel
theorem dX9_addFromTape_100 : decode cX9_addFromTape 100 = .ok (.ireturn, 1) := by decide +kernel
theorem dX9_addFromTape_101 : decode cX9_addFromTape 101 = .ok (.aload_n 0, 1) := by decide +kernel
theorem dX9_addFromTape_102 : decode cX9_addFromTape 102 = .ok (.getfield 12, 3) := by decide +kernel
theorem dX9_addFromTape_105 : decode cX9_addFromTape 105 = .ok (.iload_n 2, 1) := by decide +kernel
theorem dX9_addFromTape_106 : decode cX9_addFromTape 106 = .ok (.iload_n 3, 1) := by decide +kernel
theorem dX9_addFromTape_107 : decode cX9_addFromTape 107 = .ok (.iload 4, 2) := by decide +kernel
theorem dX9_addFromTape_109 : decode cX9_addFromTape 109 = .ok (.invokevirtual 109, 3) := by decide +kernel
theorem dX9_addFromTape_112 : decode cX9_addFromTape 112 = .ok (.pop, 1) := by decide +kernel
theorem dX9_addFromTape_113 : decode cX9_addFromTape 113 = .ok (.iconst 1, 1) := by decide +kernel
theorem dX9_addFromTape_114 : decode cX9_addFromTape 114 = .ok (.ireturn, 1) := by decide +kernel
