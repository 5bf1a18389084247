theorem dX10_staysShut_18 : decode cX10_staysShut 18 = .ok (.invokestatic 113, 3) := by decide +kernel
theorem dX10_staysShut_21 : decode cX10_staysShut 21 = .ok (.ifCond .ne 7, 3) := by decide +kernel
theorem dX10_staysShut_24 : decode cX10_staysShut 24 = .ok (.iconst 1, 1) := by decide +kernel
theorem dX10_staysShut_25 : decode cX10_staysShut 25 = .ok (.goto 4, 3) := by decide +kernel
theorem dX10_staysShut_28 : decode cX10_staysShut 28 = .ok (.iconst 0, 1) := by decide +kernel
theorem dX10_staysShut_29 : decode cX10_staysShut 29 = .ok (.ireturn, 1) := by decide +kernel
theorem dX10_held_0 : decode cX10_held 0 = .ok (.aload_n 0, 1) := by decide +kernel
theorem dX10_held_1 : decode cX10_held 1 = .ok (.iload_n 1, 1) := by decide +kernel
theorem dX10_held_2 : decode cX10_held 2 = .ok (.invokevirtual 128, 3) := by decide +kernel
theorem dX10_held_5 : decode cX10_held 5 = .ok (.ifCond .eq 18, 3) := by decide +kernel
theorem dX10_held_8 : decode cX10_held 8 = .ok (.aload_n 0, 1) := by decide +kernel
theorem dX10_held_9 : decode cX10_held 9 = .ok (.iload_n 1, 1) := by decide +kernel
theorem dX10_held_10 : decode cX10_held 10 = .ok (.invokevirtual 131, 3) := by decide +kernel
theorem dX10_held_13 : decode cX10_held 13 = .ok (.ifCond .ne 10, 3) := by decide +kernel
theorem dX10_held_16 : decode cX10_held 16 = .ok (.iload_n 2, 1) := by decide +kernel
theorem dX10_held_17 : decode cX10_held 17 = .ok (.invokestatic 125, 3) := by decide +kernel
theorem dX10_held_20 : decode cX10_held 20 = .ok (.ifCond .ne 5, 3) := by decide +kernel
theorem dX10_held_23 : decode cX10_held 23 = .ok (.iconst (-1), 1) := by decide +kernel
theorem dX10_held_24 : decode cX10_held 24 = .ok (.ireturn, 1) := by decide +kernel
theorem dX10_held_25 : decode cX10_held 25 = .ok (.aload_n 0, 1) := by decide +kernel
theorem dX10_held_26 : decode cX10_held 26 = .ok (.iload_n 1, 1) := by decide +kernel
theorem dX10_held_27 : decode cX10_held 27 = .ok (.invokevirtual 404, 3) := by decide +kernel
theorem dX10_held_30 : decode cX10_held 30 = .ok (.iload_n 2, 1) := by decide +kernel
theorem dX10_held_31 : decode cX10_held 31 = .ok (.invokestatic 398, 3) := by decide +kernel
theorem dX10_held_34 : decode cX10_held 34 = .ok (.ireturn, 1) := by decide +kernel
theorem dX10_fewestHeld_0 : decode cX10_fewestHeld 0 = .ok (.aload_n 0, 1) := by decide +kernel
theorem dX10_fewestHeld_1 : decode cX10_fewestHeld 1 = .ok (.invokevirtual 162, 3) := by decide +kernel
theorem dX10_fewestHeld_4 : decode cX10_fewestHeld 4 = .ok (.iconst 1, 1) := by decide +kernel
theorem dX10_fewestHeld_5 : decode cX10_fewestHeld 5 = .ok (.iload_n 1, 1) := by decide +kernel
theorem dX10_fewestHeld_6 : decode cX10_fewestHeld 6 = .ok (.ishl, 1) := by decide +kernel
theorem dX10_fewestHeld_7 : decode cX10_fewestHeld 7 = .ok (.iconst (-1), 1) := by decide +kernel
theorem dX10_fewestHeld_8 : decode cX10_fewestHeld 8 = .ok (.ixor, 1) := by decide +kernel
theorem dX10_fewestHeld_9 : decode cX10_fewestHeld 9 = .ok (.iand, 1) := by decide +kernel
theorem dX10_fewestHeld_10 : decode cX10_fewestHeld 10 = .ok (.istore_n 2, 1) := by decide +kernel
theorem dX10_fewestHeld_11 : decode cX10_fewestHeld 11 = .ok (.iconst 0, 1) := by decide +kernel
theorem dX10_fewestHeld_12 : decode cX10_fewestHeld 12 = .ok (.istore_n 3, 1) := by decide +kernel
theorem dX10_fewestHeld_13 : decode cX10_fewestHeld 13 = .ok (.iload_n 3, 1) := by decide +kernel
theorem dX10_fewestHeld_14 : decode cX10_fewestHeld 14 = .ok (.iload_n 2, 1) := by decide +kernel
theorem dX10_fewestHeld_15 : decode cX10_fewestHeld 15 = .ok (.invokestatic 313, 3) := by decide +kernel
theorem dX10_fewestHeld_18 : decode cX10_fewestHeld 18 = .ok (.if_icmp .gt 58, 3) := by decide +kernel
theorem dX10_fewestHeld_21 : decode cX10_fewestHeld 21 = .ok (.iconst 0, 1) := by decide +kernel
theorem dX10_fewestHeld_22 : decode cX10_fewestHeld 22 = .ok (.istore 4, 2) := by decide +kernel
theorem dX10_fewestHeld_24 : decode cX10_fewestHeld 24 = .ok (.iload 4, 2) := by decide +kernel
theorem dX10_fewestHeld_26 : decode cX10_fewestHeld 26 = .ok (.iload_n 2, 1) := by decide +kernel
theorem dX10_fewestHeld_27 : decode cX10_fewestHeld 27 = .ok (.if_icmp .gt 43, 3) := by decide +kernel
theorem dX10_fewestHeld_30 : decode cX10_fewestHeld 30 = .ok (.iload 4, 2) := by decide +kernel
theorem dX10_fewestHeld_32 : decode cX10_fewestHeld 32 = .ok (.iload_n 2, 1) := by decide +kernel
theorem dX10_fewestHeld_33 : decode cX10_fewestHeld 33 = .ok (.iconst (-1), 1) := by decide +kernel
theorem dX10_fewestHeld_34 : decode cX10_fewestHeld 34 = .ok (.ixor, 1) := by decide +kernel
theorem dX10_fewestHeld_35 : decode cX10_fewestHeld 35 = .ok (.iand, 1) := by decide +kernel
theorem dX10_fewestHeld_36 : decode cX10_fewestHeld 36 = .ok (.ifCond .ne 28, 3) := by decide +kernel
theorem dX10_fewestHeld_39 : decode cX10_fewestHeld 39 = .ok (.iload 4, 2) := by decide +kernel
theorem dX10_fewestHeld_41 : decode cX10_fewestHeld 41 = .ok (.invokestatic 313, 3) := by decide +kernel
theorem dX10_fewestHeld_44 : decode cX10_fewestHeld 44 = .ok (.iload_n 3, 1) := by decide +kernel
theorem dX10_fewestHeld_45 : decode cX10_fewestHeld 45 = .ok (.if_icmp .eq 6, 3) := by decide +kernel
theorem dX10_fewestHeld_48 : decode cX10_fewestHeld 48 = .ok (.goto 16, 3) := by decide +kernel
theorem dX10_fewestHeld_51 : decode cX10_fewestHeld 51 = .ok (.aload_n 0, 1) := by decide +kernel
theorem dX10_fewestHeld_52 : decode cX10_fewestHeld 52 = .ok (.iload_n 1, 1) := by decide +kernel
theorem dX10_fewestHeld_53 : decode cX10_fewestHeld 53 = .ok (.iload 4, 2) := by decide +kernel
theorem dX10_fewestHeld_55 : decode cX10_fewestHeld 55 = .ok (.invokevirtual 407, 3) := by decide +kernel
theorem dX10_fewestHeld_58 : decode cX10_fewestHeld 58 = .ok (.ifCond .eq 6, 3) := by decide +kernel
theorem dX10_fewestHeld_61 : decode cX10_fewestHeld 61 = .ok (.iload 4, 2) := by decide +kernel
theorem dX10_fewestHeld_63 : decode cX10_fewestHeld 63 = .ok (.ireturn, 1) := by decide +kernel
theorem dX10_fewestHeld_64 : decode cX10_fewestHeld 64 = .ok (.iinc 4 1, 3) := by decide +kernel
theorem dX10_fewestHeld_67 : decode cX10_fewestHeld 67 = .ok (.goto (-43), 3) := by decide +kernel
theorem dX10_fewestHeld_70 : decode cX10_fewestHeld 70 = .ok (.iinc 3 1, 3) := by decide +kernel
theorem dX10_fewestHeld_73 : decode cX10_fewestHeld 73 = .ok (.goto (-60), 3) := by decide +kernel
theorem dX10_fewestHeld_76 : decode cX10_fewestHeld 76 = .ok (.iconst (-1), 1) := by decide +kernel
theorem dX10_fewestHeld_77 : decode cX10_fewestHeld 77 = .ok (.ireturn, 1) := by decide +kernel
theorem dX10_compare_0 : decode cX10_compare 0 = .ok (.aload_n 0, 1) := by decide +kernel
theorem dX10_compare_1 : decode cX10_compare 1 = .ok (.iload_n 1, 1) := by decide +kernel
theorem dX10_compare_2 : decode cX10_compare 2 = .ok (.invokevirtual 271, 3) := by decide +kernel
theorem dX10_compare_5 : decode cX10_compare 5 = .ok (.ifCond .ne 5, 3) := by decide +kernel
theorem dX10_compare_8 : decode cX10_compare 8 = .ok (.iconst (-1), 1) := by decide +kernel
theorem dX10_compare_9 : decode cX10_compare 9 = .ok (.ireturn, 1) := by decide +kernel
theorem dX10_compare_10 : decode cX10_compare 10 = .ok (.aload_n 0, 1) := by decide +kernel
theorem dX10_compare_11 : decode cX10_compare 11 = .ok (.getfield 28, 3) := by decide +kernel
theorem dX10_compare_14 : decode cX10_compare 14 = .ok (.bipush 52, 2) := by decide +kernel
theorem dX10_compare_16 : decode cX10_compare 16 = .ok (.iaload, 1) := by decide +kernel
theorem dX10_compare_17 : decode cX10_compare 17 = .ok (.istore_n 2, 1) := by decide +kernel
theorem dX10_compare_18 : decode cX10_compare 18 = .ok (.aload_n 0, 1) := by decide +kernel
theorem dX10_compare_19 : decode cX10_compare 19 = .ok (.getfield 28, 3) := by decide +kernel
theorem dX10_compare_22 : decode cX10_compare 22 = .ok (.bipush 52, 2) := by decide +kernel
theorem dX10_compare_24 : decode cX10_compare 24 = .ok (.iload_n 1, 1) := by decide +kernel
theorem dX10_compare_25 : decode cX10_compare 25 = .ok (.iastore, 1) := by decide +kernel
theorem dX10_compare_26 : decode cX10_compare 26 = .ok (.aload_n 0, 1) := by decide +kernel
theorem dX10_compare_27 : decode cX10_compare 27 = .ok (.invokevirtual 410, 3) := by decide +kernel
theorem dX10_compare_30 : decode cX10_compare 30 = .ok (.istore_n 3, 1) := by decide +kernel
theorem dX10_compare_31 : decode cX10_compare 31 = .ok (.aload_n 0, 1) := by decide +kernel
theorem dX10_compare_32 : decode cX10_compare 32 = .ok (.getfield 28, 3) := by decide +kernel
theorem dX10_compare_35 : decode cX10_compare 35 = .ok (.bipush 52, 2) := by decide +kernel
theorem dX10_compare_37 : decode cX10_compare 37 = .ok (.iload_n 2, 1) := by decide +kernel
theorem dX10_compare_38 : decode cX10_compare 38 = .ok (.iastore, 1) := by decide +kernel
theorem dX10_compare_39 : decode cX10_compare 39 = .ok (.iload_n 3, 1) := by decide +kernel
theorem dX10_compare_40 : decode cX10_compare 40 = .ok (.ireturn, 1) := by decide +kernel
theorem dX10_openNext_0 : decode cX10_openNext 0 = .ok (.iconst 0, 1) := by decide +kernel
theorem dX10_openNext_1 : decode cX10_openNext 1 = .ok (.istore_n 1, 1) := by decide +kernel
theorem dX10_openNext_2 : decode cX10_openNext 2 = .ok (.iconst 0, 1) := by decide +kernel
theorem dX10_openNext_3 : decode cX10_openNext 3 = .ok (.istore_n 2, 1) := by decide +kernel
theorem dX10_openNext_4 : decode cX10_openNext 4 = .ok (.iload_n 2, 1) := by decide +kernel
theorem dX10_openNext_5 : decode cX10_openNext 5 = .ok (.aload_n 0, 1) := by decide +kernel
theorem dX10_openNext_6 : decode cX10_openNext 6 = .ok (.invokevirtual 109, 3) := by decide +kernel
theorem dX10_openNext_9 : decode cX10_openNext 9 = .ok (.if_icmp .ge 25, 3) := by decide +kernel
theorem dX10_openNext_12 : decode cX10_openNext 12 = .ok (.iload_n 1, 1) := by decide +kernel
theorem dX10_openNext_13 : decode cX10_openNext 13 = .ok (.aload_n 0, 1) := by decide +kernel
theorem dX10_openNext_14 : decode cX10_openNext 14 = .ok (.iload_n 2, 1) := by decide +kernel
theorem dX10_openNext_15 : decode cX10_openNext 15 = .ok (.invokevirtual 143, 3) := by decide +kernel
theorem dX10_openNext_18 : decode cX10_openNext 18 = .ok (.ifCond .eq 7, 3) := by decide +kernel
theorem dX10_openNext_21 : decode cX10_openNext 21 = .ok (.iconst 1, 1) := by decide +kernel
theorem dX10_openNext_22 : decode cX10_openNext 22 = .ok (.goto 4, 3) := by decide +kernel
theorem dX10_openNext_25 : decode cX10_openNext 25 = .ok (.iconst 0, 1) := by decide +kernel
theorem dX10_openNext_26 : decode cX10_openNext 26 = .ok (.iadd, 1) := by decide +kernel
theorem dX10_openNext_27 : decode cX10_openNext 27 = .ok (.istore_n 1, 1) := by decide +kernel
theorem dX10_openNext_28 : decode cX10_openNext 28 = .ok (.iinc 2 1, 3) := by decide +kernel
theorem dX10_openNext_31 : decode cX10_openNext 31 = .ok (.goto (-27), 3) := by decide +kernel
theorem dX10_openNext_34 : decode cX10_openNext 34 = .ok (.iload_n 1, 1) := by decide +kernel
theorem dX10_openNext_35 : decode cX10_openNext 35 = .ok (.ireturn, 1) := by decide +kernel
theorem dX10_watches_0 : decode cX10_watches 0 = .ok (.aload_n 0, 1) := by decide +kernel
theorem dX10_watches_1 : decode cX10_watches 1 = .ok (.getfield 28, 3) := by decide +kernel
theorem dX10_watches_4 : decode cX10_watches 4 = .ok (.bipush 26, 2) := by decide +kernel
theorem dX10_watches_6 : decode cX10_watches 6 = .ok (.iload_n 1, 1) := by decide +kernel
theorem dX10_watches_7 : decode cX10_watches 7 = .ok (.iadd, 1) := by decide +kernel
theorem dX10_watches_8 : decode cX10_watches 8 = .ok (.iaload, 1) := by decide +kernel
theorem dX10_watches_9 : decode cX10_watches 9 = .ok (.iload_n 2, 1) := by decide +kernel
theorem dX10_watches_10 : decode cX10_watches 10 = .ok (.invokestatic 113, 3) := by decide +kernel
theorem dX10_watches_13 : decode cX10_watches 13 = .ok (.ireturn, 1) := by decide +kernel
theorem dX10_laysLeft_0 : decode cX10_laysLeft 0 = .ok (.iconst 0, 1) := by decide +kernel
theorem dX10_laysLeft_1 : decode cX10_laysLeft 1 = .ok (.istore_n 2, 1) := by decide +kernel
theorem dX10_laysLeft_2 : decode cX10_laysLeft 2 = .ok (.iload_n 2, 1) := by decide +kernel
theorem dX10_laysLeft_3 : decode cX10_laysLeft 3 = .ok (.aload_n 0, 1) := by decide +kernel
theorem dX10_laysLeft_4 : decode cX10_laysLeft 4 = .ok (.invokevirtual 109, 3) := by decide +kernel
theorem dX10_laysLeft_7 : decode cX10_laysLeft 7 = .ok (.if_icmp .ge 26, 3) := by decide +kernel
theorem dX10_laysLeft_10 : decode cX10_laysLeft 10 = .ok (.aload_n 0, 1) := by decide +kernel
theorem dX10_laysLeft_11 : decode cX10_laysLeft 11 = .ok (.getfield 78, 3) := by decide +kernel
theorem dX10_laysLeft_14 : decode cX10_laysLeft 14 = .ok (.iload_n 2, 1) := by decide +kernel
theorem dX10_laysLeft_15 : decode cX10_laysLeft 15 = .ok (.iload_n 2, 1) := by decide +kernel
theorem dX10_laysLeft_16 : decode cX10_laysLeft 16 = .ok (.iload_n 1, 1) := by decide +kernel
theorem dX10_laysLeft_17 : decode cX10_laysLeft 17 = .ok (.if_icmp .ne 7, 3) := by decide +kernel
theorem dX10_laysLeft_20 : decode cX10_laysLeft 20 = .ok (.iconst 0, 1) := by decide +kernel
theorem dX10_laysLeft_21 : decode cX10_laysLeft 21 = .ok (.goto 5, 3) := by decide +kernel
theorem dX10_laysLeft_24 : decode cX10_laysLeft 24 = .ok (.ldc 186, 2) := by decide +kernel
theorem dX10_laysLeft_26 : decode cX10_laysLeft 26 = .ok (.iastore, 1) := by decide +kernel
theorem dX10_laysLeft_27 : decode cX10_laysLeft 27 = .ok (.iinc 2 1, 3) := by decide +kernel
theorem dX10_laysLeft_30 : decode cX10_laysLeft 30 = .ok (.goto (-28), 3) := by decide +kernel
theorem dX10_laysLeft_33 : decode cX10_laysLeft 33 = .ok (.iconst 1, 1) := by decide +kernel
theorem dX10_laysLeft_34 : decode cX10_laysLeft 34 = .ok (.istore_n 2, 1) := by decide +kernel
theorem dX10_laysLeft_35 : decode cX10_laysLeft 35 = .ok (.iload_n 2, 1) := by decide +kernel
theorem dX10_laysLeft_36 : decode cX10_laysLeft 36 = .ok (.aload_n 0, 1) := by decide +kernel
theorem dX10_laysLeft_37 : decode cX10_laysLeft 37 = .ok (.invokevirtual 109, 3) := by decide +kernel
theorem dX10_laysLeft_40 : decode cX10_laysLeft 40 = .ok (.if_icmp .ge 77, 3) := by decide +kernel
theorem dX10_laysLeft_43 : decode cX10_laysLeft 43 = .ok (.iconst 0, 1) := by decide +kernel
theorem dX10_laysLeft_44 : decode cX10_laysLeft 44 = .ok (.istore_n 3, 1) := by decide +kernel
theorem dX10_laysLeft_45 : decode cX10_laysLeft 45 = .ok (.iload_n 3, 1) := by decide +kernel
theorem dX10_laysLeft_46 : decode cX10_laysLeft 46 = .ok (.aload_n 0, 1) := by decide +kernel
theorem dX10_laysLeft_47 : decode cX10_laysLeft 47 = .ok (.invokevirtual 109, 3) := by decide +kernel
theorem dX10_laysLeft_50 : decode cX10_laysLeft 50 = .ok (.if_icmp .ge 61, 3) := by decide +kernel
theorem dX10_laysLeft_53 : decode cX10_laysLeft 53 = .ok (.iconst 0, 1) := by decide +kernel
theorem dX10_laysLeft_54 : decode cX10_laysLeft 54 = .ok (.istore 4, 2) := by decide +kernel
theorem dX10_laysLeft_56 : decode cX10_laysLeft 56 = .ok (.iload 4, 2) := by decide +kernel
theorem dX10_laysLeft_58 : decode cX10_laysLeft 58 = .ok (.aload_n 0, 1) := by decide +kernel
theorem dX10_laysLeft_59 : decode cX10_laysLeft 59 = .ok (.invokevirtual 109, 3) := by decide +kernel
theorem dX10_laysLeft_62 : decode cX10_laysLeft 62 = .ok (.if_icmp .ge 43, 3) := by decide +kernel
theorem dX10_laysLeft_65 : decode cX10_laysLeft 65 = .ok (.aload_n 0, 1) := by decide +kernel
theorem dX10_laysLeft_66 : decode cX10_laysLeft 66 = .ok (.iload 4, 2) := by decide +kernel
theorem dX10_laysLeft_68 : decode cX10_laysLeft 68 = .ok (.iload_n 3, 1) := by decide +kernel
theorem dX10_laysLeft_69 : decode cX10_laysLeft 69 = .ok (.invokevirtual 413, 3) := by decide +kernel
theorem dX10_laysLeft_72 : decode cX10_laysLeft 72 = .ok (.ifCond .eq 27, 3) := by decide +kernel
theorem dX10_laysLeft_75 : decode cX10_laysLeft 75 = .ok (.aload_n 0, 1) := by decide +kernel
theorem dX10_laysLeft_76 : decode cX10_laysLeft 76 = .ok (.getfield 78, 3) := by decide +kernel
theorem dX10_laysLeft_79 : decode cX10_laysLeft 79 = .ok (.iload_n 3, 1) := by decide +kernel
theorem dX10_laysLeft_80 : decode cX10_laysLeft 80 = .ok (.aload_n 0, 1) := by decide +kernel
theorem dX10_laysLeft_81 : decode cX10_laysLeft 81 = .ok (.getfield 78, 3) := by decide +kernel
theorem dX10_laysLeft_84 : decode cX10_laysLeft 84 = .ok (.iload_n 3, 1) := by decide +kernel
theorem dX10_laysLeft_85 : decode cX10_laysLeft 85 = .ok (.iaload, 1) := by decide +kernel
theorem dX10_laysLeft_86 : decode cX10_laysLeft 86 = .ok (.aload_n 0, 1) := by decide +kernel
theorem dX10_laysLeft_87 : decode cX10_laysLeft 87 = .ok (.getfield 78, 3) := by decide +kernel
theorem dX10_laysLeft_90 : decode cX10_laysLeft 90 = .ok (.iload 4, 2) := by decide +kernel
theorem dX10_laysLeft_92 : decode cX10_laysLeft 92 = .ok (.iaload, 1) := by decide +kernel
theorem dX10_laysLeft_93 : decode cX10_laysLeft 93 = .ok (.iconst 1, 1) := by decide +kernel
theorem dX10_laysLeft_94 : decode cX10_laysLeft 94 = .ok (.iadd, 1) := by decide +kernel
theorem dX10_laysLeft_95 : decode cX10_laysLeft 95 = .ok (.invokestatic 345, 3) := by decide +kernel
theorem dX10_laysLeft_98 : decode cX10_laysLeft 98 = .ok (.iastore, 1) := by decide +kernel
theorem dX10_laysLeft_99 : decode cX10_laysLeft 99 = .ok (.iinc 4 1, 3) := by decide +kernel
theorem dX10_laysLeft_102 : decode cX10_laysLeft 102 = .ok (.goto (-46), 3) := by decide +kernel
theorem dX10_laysLeft_105 : decode cX10_laysLeft 105 = .ok (.iinc 3 1, 3) := by decide +kernel
theorem dX10_laysLeft_108 : decode cX10_laysLeft 108 = .ok (.goto (-63), 3) := by decide +kernel
theorem dX10_laysLeft_111 : decode cX10_laysLeft 111 = .ok (.iinc 2 1, 3) := by decide +kernel
theorem dX10_laysLeft_114 : decode cX10_laysLeft 114 = .ok (.goto (-79), 3) := by decide +kernel
theorem dX10_laysLeft_117 : decode cX10_laysLeft 117 = .ok (.return_, 1) := by decide +kernel
theorem dX10_chain_0 : decode cX10_chain 0 = .ok (.aload_n 0, 1) := by decide +kernel
theorem dX10_chain_1 : decode cX10_chain 1 = .ok (.iload_n 1, 1) := by decide +kernel
theorem dX10_chain_2 : decode cX10_chain 2 = .ok (.invokevirtual 128, 3) := by decide +kernel
theorem dX10_chain_5 : decode cX10_chain 5 = .ok (.ifCond .eq 16, 3) := by decide +kernel
theorem dX10_chain_8 : decode cX10_chain 8 = .ok (.aload_n 0, 1) := by decide +kernel
theorem dX10_chain_9 : decode cX10_chain 9 = .ok (.iload_n 2, 1) := by decide +kernel
theorem dX10_chain_10 : decode cX10_chain 10 = .ok (.invokevirtual 128, 3) := by decide +kernel
theorem dX10_chain_13 : decode cX10_chain 13 = .ok (.ifCond .eq 8, 3) := by decide +kernel
theorem dX10_chain_16 : decode cX10_chain 16 = .ok (.iload_n 3, 1) := by decide +kernel
theorem dX10_chain_17 : decode cX10_chain 17 = .ok (.iconst (-1), 1) := by decide +kernel
theorem dX10_chain_18 : decode cX10_chain 18 = .ok (.if_icmp .ge 5, 3) := by decide +kernel
theorem dX10_chain_21 : decode cX10_chain 21 = .ok (.iconst (-1), 1) := by decide +kernel
theorem dX10_chain_22 : decode cX10_chain 22 = .ok (.ireturn, 1) := by decide +kernel
theorem dX10_chain_23 : decode cX10_chain 23 = .ok (.aload_n 0, 1) := by decide +kernel
theorem dX10_chain_24 : decode cX10_chain 24 = .ok (.iload_n 2, 1) := by decide +kernel
theorem dX10_chain_25 : decode cX10_chain 25 = .ok (.invokevirtual 416, 3) := by decide +kernel
theorem dX10_chain_28 : decode cX10_chain 28 = .ok (.aload_n 0, 1) := by decide +kernel
theorem dX10_chain_29 : decode cX10_chain 29 = .ok (.getfield 78, 3) := by decide +kernel
theorem dX10_chain_32 : decode cX10_chain 32 = .ok (.iload_n 1, 1) := by decide +kernel
theorem dX10_chain_33 : decode cX10_chain 33 = .ok (.iaload, 1) := by decide +kernel
theorem dX10_chain_34 : decode cX10_chain 34 = .ok (.ldc 186, 2) := by decide +kernel
theorem dX10_chain_36 : decode cX10_chain 36 = .ok (.if_icmp .ge 8, 3) := by decide +kernel
theorem dX10_chain_39 : decode cX10_chain 39 = .ok (.iload_n 3, 1) := by decide +kernel
theorem dX10_chain_40 : decode cX10_chain 40 = .ok (.iconst (-1), 1) := by decide +kernel
theorem dX10_chain_41 : decode cX10_chain 41 = .ok (.if_icmp .ne 25, 3) := by decide +kernel
theorem dX10_chain_44 : decode cX10_chain 44 = .ok (.aload_n 0, 1) := by decide +kernel
theorem dX10_chain_45 : decode cX10_chain 45 = .ok (.getfield 78, 3) := by decide +kernel
theorem dX10_chain_48 : decode cX10_chain 48 = .ok (.iload_n 1, 1) := by decide +kernel
theorem dX10_chain_49 : decode cX10_chain 49 = .ok (.iaload, 1) := by decide +kernel
theorem dX10_chain_50 : decode cX10_chain 50 = .ok (.ldc 186, 2) := by decide +kernel
theorem dX10_chain_52 : decode cX10_chain 52 = .ok (.if_icmp .lt 7, 3) := by decide +kernel
theorem dX10_chain_55 : decode cX10_chain 55 = .ok (.iconst (-1), 1) := by decide +kernel
theorem dX10_chain_56 : decode cX10_chain 56 = .ok (.goto 9, 3) := by decide +kernel
theorem dX10_chain_59 : decode cX10_chain 59 = .ok (.aload_n 0, 1) := by decide +kernel
theorem dX10_chain_60 : decode cX10_chain 60 = .ok (.getfield 78, 3) := by decide +kernel
theorem dX10_chain_63 : decode cX10_chain 63 = .ok (.iload_n 1, 1) := by decide +kernel
theorem dX10_chain_64 : decode cX10_chain 64 = .ok (.iaload, 1) := by decide +kernel
theorem dX10_chain_65 : decode cX10_chain 65 = .ok (.ireturn, 1) := by decide +kernel
theorem dX10_chain_66 : decode cX10_chain 66 = .ok (.iload_n 1, 1) := by decide +kernel
theorem dX10_chain_67 : decode cX10_chain 67 = .ok (.istore 4, 2) := by decide +kernel
theorem dX10_chain_69 : decode cX10_chain 69 = .ok (.iconst 0, 1) := by decide +kernel
theorem dX10_chain_70 : decode cX10_chain 70 = .ok (.istore 5, 2) := by decide +kernel
theorem dX10_chain_72 : decode cX10_chain 72 = .ok (.iload 5, 2) := by decide +kernel
theorem dX10_chain_74 : decode cX10_chain 74 = .ok (.iload_n 3, 1) := by decide +kernel
theorem dX10_chain_75 : decode cX10_chain 75 = .ok (.if_icmp .gt 25, 3) := by decide +kernel
theorem dX10_chain_78 : decode cX10_chain 78 = .ok (.iload 4, 2) := by decide +kernel
theorem dX10_chain_80 : decode cX10_chain 80 = .ok (.iload_n 2, 1) := by decide +kernel
theorem dX10_chain_81 : decode cX10_chain 81 = .ok (.if_icmp .ne 5, 3) := by decide +kernel
theorem dX10_chain_84 : decode cX10_chain 84 = .ok (.iconst (-1), 1) := by decide +kernel
theorem dX10_chain_85 : decode cX10_chain 85 = .ok (.ireturn, 1) := by decide +kernel
theorem dX10_chain_86 : decode cX10_chain 86 = .ok (.aload_n 0, 1) := by decide +kernel
theorem dX10_chain_87 : decode cX10_chain 87 = .ok (.iload 4, 2) := by decide +kernel
theorem dX10_chain_89 : decode cX10_chain 89 = .ok (.invokevirtual 419, 3) := by decide +kernel
theorem dX10_chain_92 : decode cX10_chain 92 = .ok (.istore 4, 2) := by decide +kernel
theorem dX10_chain_94 : decode cX10_chain 94 = .ok (.iinc 5 1, 3) := by decide +kernel
theorem dX10_chain_97 : decode cX10_chain 97 = .ok (.goto (-25), 3) := by decide +kernel
theorem dX10_chain_100 : decode cX10_chain 100 = .ok (.iload 4, 2) := by decide +kernel
theorem dX10_chain_102 : decode cX10_chain 102 = .ok (.ireturn, 1) := by decide +kernel
theorem dX10_nextInChain_0 : decode cX10_nextInChain 0 = .ok (.iconst 0, 1) := by decide +kernel
theorem dX10_nextInChain_1 : decode cX10_nextInChain 1 = .ok (.istore_n 2, 1) := by decide +kernel
theorem dX10_nextInChain_2 : decode cX10_nextInChain 2 = .ok (.aload_n 0, 1) := by decide +kernel
theorem dX10_nextInChain_3 : decode cX10_nextInChain 3 = .ok (.iload_n 2, 1) := by decide +kernel
theorem dX10_nextInChain_4 : decode cX10_nextInChain 4 = .ok (.iload_n 1, 1) := by decide +kernel
theorem dX10_nextInChain_5 : decode cX10_nextInChain 5 = .ok (.invokevirtual 413, 3) := by decide +kernel
theorem dX10_nextInChain_8 : decode cX10_nextInChain 8 = .ok (.ifCond .eq 20, 3) := by decide +kernel
theorem dX10_nextInChain_11 : decode cX10_nextInChain 11 = .ok (.aload_n 0, 1) := by decide +kernel
theorem dX10_nextInChain_12 : decode cX10_nextInChain 12 = .ok (.getfield 78, 3) := by decide +kernel
theorem dX10_nextInChain_15 : decode cX10_nextInChain 15 = .ok (.iload_n 2, 1) := by decide +kernel
theorem dX10_nextInChain_16 : decode cX10_nextInChain 16 = .ok (.iaload, 1) := by decide +kernel
theorem dX10_nextInChain_17 : decode cX10_nextInChain 17 = .ok (.aload_n 0, 1) := by decide +kernel
theorem dX10_nextInChain_18 : decode cX10_nextInChain 18 = .ok (.getfield 78, 3) := by decide +kernel
theorem dX10_nextInChain_21 : decode cX10_nextInChain 21 = .ok (.iload_n 1, 1) := by decide +kernel
theorem dX10_nextInChain_22 : decode cX10_nextInChain 22 = .ok (.iaload, 1) := by decide +kernel
theorem dX10_nextInChain_23 : decode cX10_nextInChain 23 = .ok (.iconst 1, 1) := by decide +kernel
theorem dX10_nextInChain_24 : decode cX10_nextInChain 24 = .ok (.isub, 1) := by decide +kernel
theorem dX10_nextInChain_25 : decode cX10_nextInChain 25 = .ok (.if_icmp .eq 9, 3) := by decide +kernel
theorem dX10_nextInChain_28 : decode cX10_nextInChain 28 = .ok (.iinc 2 1, 3) := by decide +kernel
theorem dX10_nextInChain_31 : decode cX10_nextInChain 31 = .ok (.goto (-29), 3) := by decide +kernel
theorem dX10_nextInChain_34 : decode cX10_nextInChain 34 = .ok (.iload_n 2, 1) := by decide +kernel
theorem dX10_nextInChain_35 : decode cX10_nextInChain 35 = .ok (.ireturn, 1) := by decide +kernel
theorem dX10_reached_0 : decode cX10_reached 0 = .ok (.iconst 1, 1) := by decide +kernel
theorem dX10_reached_1 : decode cX10_reached 1 = .ok (.iload_n 1, 1) := by decide +kernel
theorem dX10_reached_2 : decode cX10_reached 2 = .ok (.ishl, 1) := by decide +kernel
theorem dX10_reached_3 : decode cX10_reached 3 = .ok (.istore_n 2, 1) := by decide +kernel
theorem dX10_reached_4 : decode cX10_reached 4 = .ok (.iconst (-1), 1) := by decide +kernel
theorem dX10_reached_5 : decode cX10_reached 5 = .ok (.istore_n 3, 1) := by decide +kernel
theorem dX10_reached_6 : decode cX10_reached 6 = .ok (.iload_n 2, 1) := by decide +kernel
theorem dX10_reached_7 : decode cX10_reached 7 = .ok (.iload_n 3, 1) := by decide +kernel
theorem dX10_reached_8 : decode cX10_reached 8 = .ok (.if_icmp .eq 52, 3) := by decide +kernel
theorem dX10_reached_11 : decode cX10_reached 11 = .ok (.iload_n 2, 1) := by decide +kernel
theorem dX10_reached_12 : decode cX10_reached 12 = .ok (.istore_n 3, 1) := by decide +kernel
theorem dX10_reached_13 : decode cX10_reached 13 = .ok (.iconst 0, 1) := by decide +kernel
theorem dX10_reached_14 : decode cX10_reached 14 = .ok (.istore 4, 2) := by decide +kernel
theorem dX10_reached_16 : decode cX10_reached 16 = .ok (.iload 4, 2) := by decide +kernel
theorem dX10_reached_18 : decode cX10_reached 18 = .ok (.aload_n 0, 1) := by decide +kernel
theorem dX10_reached_19 : decode cX10_reached 19 = .ok (.invokevirtual 109, 3) := by decide +kernel
theorem dX10_reached_22 : decode cX10_reached 22 = .ok (.if_icmp .ge 35, 3) := by decide +kernel
theorem dX10_reached_25 : decode cX10_reached 25 = .ok (.iload_n 2, 1) := by decide +kernel
theorem dX10_reached_26 : decode cX10_reached 26 = .ok (.aload_n 0, 1) := by decide +kernel
theorem dX10_reached_27 : decode cX10_reached 27 = .ok (.getfield 28, 3) := by decide +kernel
theorem dX10_reached_30 : decode cX10_reached 30 = .ok (.bipush 26, 2) := by decide +kernel
theorem dX10_reached_32 : decode cX10_reached 32 = .ok (.iload 4, 2) := by decide +kernel
theorem dX10_reached_34 : decode cX10_reached 34 = .ok (.iadd, 1) := by decide +kernel
theorem dX10_reached_35 : decode cX10_reached 35 = .ok (.iaload, 1) := by decide +kernel
theorem dX10_reached_36 : decode cX10_reached 36 = .ok (.iload_n 3, 1) := by decide +kernel
theorem dX10_reached_37 : decode cX10_reached 37 = .ok (.iand, 1) := by decide +kernel
theorem dX10_reached_38 : decode cX10_reached 38 = .ok (.ifCond .eq 10, 3) := by decide +kernel
theorem dX10_reached_41 : decode cX10_reached 41 = .ok (.iconst 1, 1) := by decide +kernel
theorem dX10_reached_42 : decode cX10_reached 42 = .ok (.iload 4, 2) := by decide +kernel
theorem dX10_reached_44 : decode cX10_reached 44 = .ok (.ishl, 1) := by decide +kernel
theorem dX10_reached_45 : decode cX10_reached 45 = .ok (.goto 4, 3) := by decide +kernel
theorem dX10_reached_48 : decode cX10_reached 48 = .ok (.iconst 0, 1) := by decide +kernel
theorem dX10_reached_49 : decode cX10_reached 49 = .ok (.ior, 1) := by decide +kernel
theorem dX10_reached_50 : decode cX10_reached 50 = .ok (.istore_n 2, 1) := by decide +kernel
theorem dX10_reached_51 : decode cX10_reached 51 = .ok (.iinc 4 1, 3) := by decide +kernel
theorem dX10_reached_54 : decode cX10_reached 54 = .ok (.goto (-38), 3) := by decide +kernel
theorem dX10_reached_57 : decode cX10_reached 57 = .ok (.goto (-51), 3) := by decide +kernel
theorem dX10_reached_60 : decode cX10_reached 60 = .ok (.iload_n 2, 1) := by decide +kernel
theorem dX10_reached_61 : decode cX10_reached 61 = .ok (.ireturn, 1) := by decide +kernel
theorem dX10_laysKnots_0 : decode cX10_laysKnots 0 = .ok (.iconst 0, 1) := by decide +kernel
theorem dX10_laysKnots_1 : decode cX10_laysKnots 1 = .ok (.istore_n 1, 1) := by decide +kernel
theorem dX10_laysKnots_2 : decode cX10_laysKnots 2 = .ok (.iload_n 1, 1) := by decide +kernel
theorem dX10_laysKnots_3 : decode cX10_laysKnots 3 = .ok (.aload_n 0, 1) := by decide +kernel
theorem dX10_laysKnots_4 : decode cX10_laysKnots 4 = .ok (.invokevirtual 109, 3) := by decide +kernel
theorem dX10_laysKnots_7 : decode cX10_laysKnots 7 = .ok (.if_icmp .ge 20, 3) := by decide +kernel
theorem dX10_laysKnots_10 : decode cX10_laysKnots 10 = .ok (.aload_n 0, 1) := by decide +kernel
theorem dX10_laysKnots_11 : decode cX10_laysKnots 11 = .ok (.getfield 81, 3) := by decide +kernel
theorem dX10_laysKnots_14 : decode cX10_laysKnots 14 = .ok (.iload_n 1, 1) := by decide +kernel
theorem dX10_laysKnots_15 : decode cX10_laysKnots 15 = .ok (.aload_n 0, 1) := by decide +kernel
theorem dX10_laysKnots_16 : decode cX10_laysKnots 16 = .ok (.iload_n 1, 1) := by decide +kernel
theorem dX10_laysKnots_17 : decode cX10_laysKnots 17 = .ok (.invokevirtual 422, 3) := by decide +kernel
theorem dX10_laysKnots_20 : decode cX10_laysKnots 20 = .ok (.iastore, 1) := by decide +kernel
theorem dX10_laysKnots_21 : decode cX10_laysKnots 21 = .ok (.iinc 1 1, 3) := by decide +kernel
theorem dX10_laysKnots_24 : decode cX10_laysKnots 24 = .ok (.goto (-22), 3) := by decide +kernel
theorem dX10_laysKnots_27 : decode cX10_laysKnots 27 = .ok (.iconst 0, 1) := by decide +kernel
theorem dX10_laysKnots_28 : decode cX10_laysKnots 28 = .ok (.istore_n 1, 1) := by decide +kernel
theorem dX10_laysKnots_29 : decode cX10_laysKnots 29 = .ok (.iload_n 1, 1) := by decide +kernel
theorem dX10_laysKnots_30 : decode cX10_laysKnots 30 = .ok (.aload_n 0, 1) := by decide +kernel
theorem dX10_laysKnots_31 : decode cX10_laysKnots 31 = .ok (.invokevirtual 109, 3) := by decide +kernel
theorem dX10_laysKnots_34 : decode cX10_laysKnots 34 = .ok (.if_icmp .ge 74, 3) := by decide +kernel
theorem dX10_laysKnots_37 : decode cX10_laysKnots 37 = .ok (.aload_n 0, 1) := by decide +kernel
theorem dX10_laysKnots_38 : decode cX10_laysKnots 38 = .ok (.getfield 84, 3) := by decide +kernel
theorem dX10_laysKnots_41 : decode cX10_laysKnots 41 = .ok (.iload_n 1, 1) := by decide +kernel
theorem dX10_laysKnots_42 : decode cX10_laysKnots 42 = .ok (.iconst 0, 1) := by decide +kernel
theorem dX10_laysKnots_43 : decode cX10_laysKnots 43 = .ok (.iastore, 1) := by decide +kernel
theorem dX10_laysKnots_44 : decode cX10_laysKnots 44 = .ok (.iconst 0, 1) := by decide +kernel
theorem dX10_laysKnots_45 : decode cX10_laysKnots 45 = .ok (.istore_n 2, 1) := by decide +kernel
theorem dX10_laysKnots_46 : decode cX10_laysKnots 46 = .ok (.iload_n 2, 1) := by decide +kernel
theorem dX10_laysKnots_47 : decode cX10_laysKnots 47 = .ok (.aload_n 0, 1) := by decide +kernel
theorem dX10_laysKnots_48 : decode cX10_laysKnots 48 = .ok (.invokevirtual 109, 3) := by decide +kernel
theorem dX10_laysKnots_51 : decode cX10_laysKnots 51 = .ok (.if_icmp .ge 51, 3) := by decide +kernel
theorem dX10_laysKnots_54 : decode cX10_laysKnots 54 = .ok (.aload_n 0, 1) := by decide +kernel
theorem dX10_laysKnots_55 : decode cX10_laysKnots 55 = .ok (.getfield 84, 3) := by decide +kernel
theorem dX10_laysKnots_58 : decode cX10_laysKnots 58 = .ok (.iload_n 1, 1) := by decide +kernel
theorem dX10_laysKnots_59 : decode cX10_laysKnots 59 = .ok (.dup2, 1) := by decide +kernel
theorem dX10_laysKnots_60 : decode cX10_laysKnots 60 = .ok (.iaload, 1) := by decide +kernel
theorem dX10_laysKnots_61 : decode cX10_laysKnots 61 = .ok (.aload_n 0, 1) := by decide +kernel
theorem dX10_laysKnots_62 : decode cX10_laysKnots 62 = .ok (.getfield 81, 3) := by decide +kernel
theorem dX10_laysKnots_65 : decode cX10_laysKnots 65 = .ok (.iload_n 1, 1) := by decide +kernel
theorem dX10_laysKnots_66 : decode cX10_laysKnots 66 = .ok (.iaload, 1) := by decide +kernel
theorem dX10_laysKnots_67 : decode cX10_laysKnots 67 = .ok (.iload_n 2, 1) := by decide +kernel
theorem dX10_laysKnots_68 : decode cX10_laysKnots 68 = .ok (.invokestatic 113, 3) := by decide +kernel
theorem dX10_laysKnots_71 : decode cX10_laysKnots 71 = .ok (.ifCond .eq 22, 3) := by decide +kernel
theorem dX10_laysKnots_74 : decode cX10_laysKnots 74 = .ok (.aload_n 0, 1) := by decide +kernel
theorem dX10_laysKnots_75 : decode cX10_laysKnots 75 = .ok (.getfield 81, 3) := by decide +kernel
theorem dX10_laysKnots_78 : decode cX10_laysKnots 78 = .ok (.iload_n 2, 1) := by decide +kernel
theorem dX10_laysKnots_79 : decode cX10_laysKnots 79 = .ok (.iaload, 1) := by decide +kernel
theorem dX10_laysKnots_80 : decode cX10_laysKnots 80 = .ok (.iload_n 1, 1) := by decide +kernel
theorem dX10_laysKnots_81 : decode cX10_laysKnots 81 = .ok (.invokestatic 113, 3) := by decide +kernel
theorem dX10_laysKnots_84 : decode cX10_laysKnots 84 = .ok (.ifCond .eq 9, 3) := by decide +kernel
theorem dX10_laysKnots_87 : decode cX10_laysKnots 87 = .ok (.iconst 1, 1) := by decide +kernel
theorem dX10_laysKnots_88 : decode cX10_laysKnots 88 = .ok (.iload_n 2, 1) := by decide +kernel
theorem dX10_laysKnots_89 : decode cX10_laysKnots 89 = .ok (.ishl, 1) := by decide +kernel
theorem dX10_laysKnots_90 : decode cX10_laysKnots 90 = .ok (.goto 4, 3) := by decide +kernel
theorem dX10_laysKnots_93 : decode cX10_laysKnots 93 = .ok (.iconst 0, 1) := by decide +kernel
theorem dX10_laysKnots_94 : decode cX10_laysKnots 94 = .ok (.ior, 1) := by decide +kernel
theorem dX10_laysKnots_95 : decode cX10_laysKnots 95 = .ok (.iastore, 1) := by decide +kernel
theorem dX10_laysKnots_96 : decode cX10_laysKnots 96 = .ok (.iinc 2 1, 3) := by decide +kernel
theorem dX10_laysKnots_99 : decode cX10_laysKnots 99 = .ok (.goto (-53), 3) := by decide +kernel
theorem dX10_laysKnots_102 : decode cX10_laysKnots 102 = .ok (.iinc 1 1, 3) := by decide +kernel
theorem dX10_laysKnots_105 : decode cX10_laysKnots 105 = .ok (.goto (-76), 3) := by decide +kernel
theorem dX10_laysKnots_108 : decode cX10_laysKnots 108 = .ok (.return_, 1) := by decide +kernel
theorem dX10_isLowest_0 : decode cX10_isLowest 0 = .ok (.aload_n 0, 1) := by decide +kernel
theorem dX10_isLowest_1 : decode cX10_isLowest 1 = .ok (.getfield 84, 3) := by decide +kernel
theorem dX10_isLowest_4 : decode cX10_isLowest 4 = .ok (.iload_n 1, 1) := by decide +kernel
theorem dX10_isLowest_5 : decode cX10_isLowest 5 = .ok (.iaload, 1) := by decide +kernel
theorem dX10_isLowest_6 : decode cX10_isLowest 6 = .ok (.iconst 1, 1) := by decide +kernel
theorem dX10_isLowest_7 : decode cX10_isLowest 7 = .ok (.iload_n 1, 1) := by decide +kernel
theorem dX10_isLowest_8 : decode cX10_isLowest 8 = .ok (.ishl, 1) := by decide +kernel
theorem dX10_isLowest_9 : decode cX10_isLowest 9 = .ok (.iconst 1, 1) := by decide +kernel
theorem dX10_isLowest_10 : decode cX10_isLowest 10 = .ok (.isub, 1) := by decide +kernel
theorem dX10_isLowest_11 : decode cX10_isLowest 11 = .ok (.iand, 1) := by decide +kernel
theorem dX10_isLowest_12 : decode cX10_isLowest 12 = .ok (.ifCond .ne 7, 3) := by decide +kernel
theorem dX10_isLowest_15 : decode cX10_isLowest 15 = .ok (.iconst 1, 1) := by decide +kernel
theorem dX10_isLowest_16 : decode cX10_isLowest 16 = .ok (.goto 4, 3) := by decide +kernel
theorem dX10_isLowest_19 : decode cX10_isLowest 19 = .ok (.iconst 0, 1) := by decide +kernel
theorem dX10_isLowest_20 : decode cX10_isLowest 20 = .ok (.ireturn, 1) := by decide +kernel
theorem dX10_knots_0 : decode cX10_knots 0 = .ok (.aload_n 0, 1) := by decide +kernel
theorem dX10_knots_1 : decode cX10_knots 1 = .ok (.invokevirtual 425, 3) := by decide +kernel
theorem dX10_knots_4 : decode cX10_knots 4 = .ok (.iconst 0, 1) := by decide +kernel
theorem dX10_knots_5 : decode cX10_knots 5 = .ok (.istore_n 1, 1) := by decide +kernel
theorem dX10_knots_6 : decode cX10_knots 6 = .ok (.iconst 0, 1) := by decide +kernel
theorem dX10_knots_7 : decode cX10_knots 7 = .ok (.istore_n 2, 1) := by decide +kernel
theorem dX10_knots_8 : decode cX10_knots 8 = .ok (.iload_n 2, 1) := by decide +kernel
theorem dX10_knots_9 : decode cX10_knots 9 = .ok (.aload_n 0, 1) := by decide +kernel
theorem dX10_knots_10 : decode cX10_knots 10 = .ok (.invokevirtual 109, 3) := by decide +kernel
theorem dX10_knots_13 : decode cX10_knots 13 = .ok (.if_icmp .ge 25, 3) := by decide +kernel
theorem dX10_knots_16 : decode cX10_knots 16 = .ok (.iload_n 1, 1) := by decide +kernel
theorem dX10_knots_17 : decode cX10_knots 17 = .ok (.aload_n 0, 1) := by decide +kernel
theorem dX10_knots_18 : decode cX10_knots 18 = .ok (.iload_n 2, 1) := by decide +kernel
theorem dX10_knots_19 : decode cX10_knots 19 = .ok (.invokevirtual 428, 3) := by decide +kernel
theorem dX10_knots_22 : decode cX10_knots 22 = .ok (.ifCond .eq 7, 3) := by decide +kernel
theorem dX10_knots_25 : decode cX10_knots 25 = .ok (.iconst 1, 1) := by decide +kernel
theorem dX10_knots_26 : decode cX10_knots 26 = .ok (.goto 4, 3) := by decide +kernel
theorem dX10_knots_29 : decode cX10_knots 29 = .ok (.iconst 0, 1) := by decide +kernel
theorem dX10_knots_30 : decode cX10_knots 30 = .ok (.iadd, 1) := by decide +kernel
theorem dX10_knots_31 : decode cX10_knots 31 = .ok (.istore_n 1, 1) := by decide +kernel
theorem dX10_knots_32 : decode cX10_knots 32 = .ok (.iinc 2 1, 3) := by decide +kernel
theorem dX10_knots_35 : decode cX10_knots 35 = .ok (.goto (-27), 3) := by decide +kernel
theorem dX10_knots_38 : decode cX10_knots 38 = .ok (.iload_n 1, 1) := by decide +kernel
theorem dX10_knots_39 : decode cX10_knots 39 = .ok (.ireturn, 1) := by decide +kernel
theorem dX10_isReached_0 : decode cX10_isReached 0 = .ok (.iconst 0, 1) := by decide +kernel
theorem dX10_isReached_1 : decode cX10_isReached 1 = .ok (.istore_n 2, 1) := by decide +kernel
theorem dX10_isReached_2 : decode cX10_isReached 2 = .ok (.iconst 0, 1) := by decide +kernel
theorem dX10_isReached_3 : decode cX10_isReached 3 = .ok (.istore_n 3, 1) := by decide +kernel
theorem dX10_isReached_4 : decode cX10_isReached 4 = .ok (.iload_n 3, 1) := by decide +kernel
theorem dX10_isReached_5 : decode cX10_isReached 5 = .ok (.aload_n 0, 1) := by decide +kernel
theorem dX10_isReached_6 : decode cX10_isReached 6 = .ok (.invokevirtual 109, 3) := by decide +kernel
theorem dX10_isReached_9 : decode cX10_isReached 9 = .ok (.if_icmp .ge 45, 3) := by decide +kernel
theorem dX10_isReached_12 : decode cX10_isReached 12 = .ok (.iload_n 2, 1) := by decide +kernel
theorem dX10_isReached_13 : decode cX10_isReached 13 = .ok (.ifCond .ne 29, 3) := by decide +kernel
theorem dX10_isReached_16 : decode cX10_isReached 16 = .ok (.aload_n 0, 1) := by decide +kernel
theorem dX10_isReached_17 : decode cX10_isReached 17 = .ok (.getfield 84, 3) := by decide +kernel
theorem dX10_isReached_20 : decode cX10_isReached 20 = .ok (.iload_n 1, 1) := by decide +kernel
theorem dX10_isReached_21 : decode cX10_isReached 21 = .ok (.iaload, 1) := by decide +kernel
theorem dX10_isReached_22 : decode cX10_isReached 22 = .ok (.iload_n 3, 1) := by decide +kernel
theorem dX10_isReached_23 : decode cX10_isReached 23 = .ok (.invokestatic 113, 3) := by decide +kernel
theorem dX10_isReached_26 : decode cX10_isReached 26 = .ok (.ifCond .ne 20, 3) := by decide +kernel
theorem dX10_isReached_29 : decode cX10_isReached 29 = .ok (.aload_n 0, 1) := by decide +kernel
theorem dX10_isReached_30 : decode cX10_isReached 30 = .ok (.getfield 81, 3) := by decide +kernel
theorem dX10_isReached_33 : decode cX10_isReached 33 = .ok (.iload_n 3, 1) := by decide +kernel
theorem dX10_isReached_34 : decode cX10_isReached 34 = .ok (.iaload, 1) := by decide +kernel
theorem dX10_isReached_35 : decode cX10_isReached 35 = .ok (.iload_n 1, 1) := by decide +kernel
theorem dX10_isReached_36 : decode cX10_isReached 36 = .ok (.invokestatic 113, 3) := by decide +kernel
theorem dX10_isReached_39 : decode cX10_isReached 39 = .ok (.ifCond .eq 7, 3) := by decide +kernel
theorem dX10_isReached_42 : decode cX10_isReached 42 = .ok (.iconst 1, 1) := by decide +kernel
theorem dX10_isReached_43 : decode cX10_isReached 43 = .ok (.goto 4, 3) := by decide +kernel
theorem dX10_isReached_46 : decode cX10_isReached 46 = .ok (.iconst 0, 1) := by decide +kernel
theorem dX10_isReached_47 : decode cX10_isReached 47 = .ok (.istore_n 2, 1) := by decide +kernel
theorem dX10_isReached_48 : decode cX10_isReached 48 = .ok (.iinc 3 1, 3) := by decide +kernel
theorem dX10_isReached_51 : decode cX10_isReached 51 = .ok (.goto (-47), 3) := by decide +kernel
theorem dX10_isReached_54 : decode cX10_isReached 54 = .ok (.iload_n 2, 1) := by decide +kernel
theorem dX10_isReached_55 : decode cX10_isReached 55 = .ok (.ireturn, 1) := by decide +kernel
theorem dX10_heads_0 : decode cX10_heads 0 = .ok (.iload_n 1, 1) := by decide +kernel
theorem dX10_heads_1 : decode cX10_heads 1 = .ok (.invokestatic 125, 3) := by decide +kernel
theorem dX10_heads_4 : decode cX10_heads 4 = .ok (.ifCond .ne 5, 3) := by decide +kernel
theorem dX10_heads_7 : decode cX10_heads 7 = .ok (.iconst (-1), 1) := by decide +kernel
theorem dX10_heads_8 : decode cX10_heads 8 = .ok (.ireturn, 1) := by decide +kernel
theorem dX10_heads_9 : decode cX10_heads 9 = .ok (.aload_n 0, 1) := by decide +kernel
theorem dX10_heads_10 : decode cX10_heads 10 = .ok (.invokevirtual 425, 3) := by decide +kernel
theorem dX10_heads_13 : decode cX10_heads 13 = .ok (.iconst 0, 1) := by decide +kernel
theorem dX10_heads_14 : decode cX10_heads 14 = .ok (.istore_n 2, 1) := by decide +kernel
theorem dX10_heads_15 : decode cX10_heads 15 = .ok (.iconst 0, 1) := by decide +kernel
theorem dX10_heads_16 : decode cX10_heads 16 = .ok (.istore_n 3, 1) := by decide +kernel
theorem dX10_heads_17 : decode cX10_heads 17 = .ok (.iload_n 3, 1) := by decide +kernel
theorem dX10_heads_18 : decode cX10_heads 18 = .ok (.aload_n 0, 1) := by decide +kernel
theorem dX10_heads_19 : decode cX10_heads 19 = .ok (.invokevirtual 109, 3) := by decide +kernel
theorem dX10_heads_22 : decode cX10_heads 22 = .ok (.if_icmp .ge 35, 3) := by decide +kernel
theorem dX10_heads_25 : decode cX10_heads 25 = .ok (.iload_n 2, 1) := by decide +kernel
theorem dX10_heads_26 : decode cX10_heads 26 = .ok (.aload_n 0, 1) := by decide +kernel
theorem dX10_heads_27 : decode cX10_heads 27 = .ok (.iload_n 3, 1) := by decide +kernel
theorem dX10_heads_28 : decode cX10_heads 28 = .ok (.invokevirtual 428, 3) := by decide +kernel
theorem dX10_heads_31 : decode cX10_heads 31 = .ok (.ifCond .eq 17, 3) := by decide +kernel
theorem dX10_heads_34 : decode cX10_heads 34 = .ok (.aload_n 0, 1) := by decide +kernel
theorem dX10_heads_35 : decode cX10_heads 35 = .ok (.iload_n 3, 1) := by decide +kernel
theorem dX10_heads_36 : decode cX10_heads 36 = .ok (.invokevirtual 431, 3) := by decide +kernel
theorem dX10_heads_39 : decode cX10_heads 39 = .ok (.ifCond .ne 9, 3) := by decide +kernel
theorem dX10_heads_42 : decode cX10_heads 42 = .ok (.iconst 1, 1) := by decide +kernel
theorem dX10_heads_43 : decode cX10_heads 43 = .ok (.iload_n 3, 1) := by decide +kernel
theorem dX10_heads_44 : decode cX10_heads 44 = .ok (.ishl, 1) := by decide +kernel
theorem dX10_heads_45 : decode cX10_heads 45 = .ok (.goto 4, 3) := by decide +kernel
theorem dX10_heads_48 : decode cX10_heads 48 = .ok (.iconst 0, 1) := by decide +kernel
theorem dX10_heads_49 : decode cX10_heads 49 = .ok (.ior, 1) := by decide +kernel
theorem dX10_heads_50 : decode cX10_heads 50 = .ok (.istore_n 2, 1) := by decide +kernel
theorem dX10_heads_51 : decode cX10_heads 51 = .ok (.iinc 3 1, 3) := by decide +kernel
theorem dX10_heads_54 : decode cX10_heads 54 = .ok (.goto (-37), 3) := by decide +kernel
theorem dX10_heads_57 : decode cX10_heads 57 = .ok (.iload_n 2, 1) := by decide +kernel
theorem dX10_heads_58 : decode cX10_heads 58 = .ok (.iload_n 1, 1) := by decide +kernel
theorem dX10_heads_59 : decode cX10_heads 59 = .ok (.invokestatic 398, 3) := by decide +kernel
theorem dX10_heads_62 : decode cX10_heads 62 = .ok (.ireturn, 1) := by decide +kernel
theorem dX10_seen_0 : decode cX10_seen 0 = .ok (.iload_n 1, 1) := by decide +kernel
theorem dX10_seen_1 : decode cX10_seen 1 = .ok (.iconst 0, 1) := by decide +kernel
theorem dX10_seen_2 : decode cX10_seen 2 = .ok (.bipush 60, 2) := by decide +kernel
theorem dX10_seen_4 : decode cX10_seen 4 = .ok (.invokestatic 18, 3) := by decide +kernel
theorem dX10_seen_7 : decode cX10_seen 7 = .ok (.ifCond .eq 10, 3) := by decide +kernel
theorem dX10_seen_10 : decode cX10_seen 10 = .ok (.iload_n 2, 1) := by decide +kernel
theorem dX10_seen_11 : decode cX10_seen 11 = .ok (.invokestatic 125, 3) := by decide +kernel
theorem dX10_seen_14 : decode cX10_seen 14 = .ok (.ifCond .ne 9, 3) := by decide +kernel
theorem dX10_seen_17 : decode cX10_seen 17 = .ok (.aload_n 0, 1) := by decide +kernel
theorem dX10_seen_18 : decode cX10_seen 18 = .ok (.iconst (-1), 1) := by decide +kernel
theorem dX10_seen_19 : decode cX10_seen 19 = .ok (.invokevirtual 103, 3) := by decide +kernel
theorem dX10_seen_22 : decode cX10_seen 22 = .ok (.ireturn, 1) := by decide +kernel
theorem dX10_seen_23 : decode cX10_seen 23 = .ok (.bipush 34, 2) := by decide +kernel
theorem dX10_seen_25 : decode cX10_seen 25 = .ok (.iconst 2, 1) := by decide +kernel
theorem dX10_seen_26 : decode cX10_seen 26 = .ok (.aload_n 0, 1) := by decide +kernel
theorem dX10_seen_27 : decode cX10_seen 27 = .ok (.getfield 28, 3) := by decide +kernel
theorem dX10_seen_30 : decode cX10_seen 30 = .ok (.bipush 50, 2) := by decide +kernel
theorem dX10_seen_32 : decode cX10_seen 32 = .ok (.iaload, 1) := by decide +kernel
theorem dX10_seen_33 : decode cX10_seen 33 = .ok (.imul, 1) := by decide +kernel
theorem dX10_seen_34 : decode cX10_seen 34 = .ok (.iadd, 1) := by decide +kernel
theorem dX10_seen_35 : decode cX10_seen 35 = .ok (.istore_n 3, 1) := by decide +kernel
theorem dX10_seen_36 : decode cX10_seen 36 = .ok (.aload_n 0, 1) := by decide +kernel
theorem dX10_seen_37 : decode cX10_seen 37 = .ok (.getfield 28, 3) := by decide +kernel
theorem dX10_seen_40 : decode cX10_seen 40 = .ok (.bipush 50, 2) := by decide +kernel
theorem dX10_seen_42 : decode cX10_seen 42 = .ok (.iaload, 1) := by decide +kernel
theorem dX10_seen_43 : decode cX10_seen 43 = .ok (.bipush 6, 2) := by decide +kernel
theorem dX10_seen_45 : decode cX10_seen 45 = .ok (.if_icmp .ne 10, 3) := by decide +kernel
theorem dX10_seen_48 : decode cX10_seen 48 = .ok (.aload_n 0, 1) := by decide +kernel
theorem dX10_seen_49 : decode cX10_seen 49 = .ok (.bipush (-5), 2) := by decide +kernel
theorem dX10_seen_51 : decode cX10_seen 51 = .ok (.invokevirtual 103, 3) := by decide +kernel
theorem dX10_seen_54 : decode cX10_seen 54 = .ok (.ireturn, 1) := by decide +kernel
theorem dX10_seen_55 : decode cX10_seen 55 = .ok (.aload_n 0, 1) := by decide +kernel
theorem dX10_seen_56 : decode cX10_seen 56 = .ok (.getfield 28, 3) := by decide +kernel
theorem dX10_seen_59 : decode cX10_seen 59 = .ok (.iload_n 3, 1) := by decide +kernel
theorem dX10_seen_60 : decode cX10_seen 60 = .ok (.iload_n 1, 1) := by decide +kernel
theorem dX10_seen_61 : decode cX10_seen 61 = .ok (.iastore, 1) := by decide +kernel
theorem dX10_seen_62 : decode cX10_seen 62 = .ok (.aload_n 0, 1) := by decide +kernel
theorem dX10_seen_63 : decode cX10_seen 63 = .ok (.getfield 28, 3) := by decide +kernel
theorem dX10_seen_66 : decode cX10_seen 66 = .ok (.iload_n 3, 1) := by decide +kernel
theorem dX10_seen_67 : decode cX10_seen 67 = .ok (.iconst 1, 1) := by decide +kernel
theorem dX10_seen_68 : decode cX10_seen 68 = .ok (.iadd, 1) := by decide +kernel
theorem dX10_seen_69 : decode cX10_seen 69 = .ok (.iload_n 2, 1) := by decide +kernel
theorem dX10_seen_70 : decode cX10_seen 70 = .ok (.iastore, 1) := by decide +kernel
theorem dX10_seen_71 : decode cX10_seen 71 = .ok (.aload_n 0, 1) := by decide +kernel
theorem dX10_seen_72 : decode cX10_seen 72 = .ok (.getfield 28, 3) := by decide +kernel
theorem dX10_seen_75 : decode cX10_seen 75 = .ok (.bipush 50, 2) := by decide +kernel
theorem dX10_seen_77 : decode cX10_seen 77 = .ok (.dup2, 1) := by decide +kernel
theorem dX10_seen_78 : decode cX10_seen 78 = .ok (.iaload, 1) := by decide +kernel
theorem dX10_seen_79 : decode cX10_seen 79 = .ok (.iconst 1, 1) := by decide +kernel
theorem dX10_seen_80 : decode cX10_seen 80 = .ok (.iadd, 1) := by decide +kernel
theorem dX10_seen_81 : decode cX10_seen 81 = .ok (.iastore, 1) := by decide +kernel
theorem dX10_seen_82 : decode cX10_seen 82 = .ok (.aload_n 0, 1) := by decide +kernel
theorem dX10_seen_83 : decode cX10_seen 83 = .ok (.aload_n 0, 1) := by decide +kernel
theorem dX10_seen_84 : decode cX10_seen 84 = .ok (.getfield 28, 3) := by decide +kernel
theorem dX10_seen_87 : decode cX10_seen 87 = .ok (.bipush 50, 2) := by decide +kernel
theorem dX10_seen_89 : decode cX10_seen 89 = .ok (.iaload, 1) := by decide +kernel
theorem dX10_seen_90 : decode cX10_seen 90 = .ok (.invokevirtual 14, 3) := by decide +kernel
theorem dX10_seen_93 : decode cX10_seen 93 = .ok (.ireturn, 1) := by decide +kernel
theorem dX10_forget_0 : decode cX10_forget 0 = .ok (.aload_n 0, 1) := by decide +kernel
theorem dX10_forget_1 : decode cX10_forget 1 = .ok (.getfield 28, 3) := by decide +kernel
theorem dX10_forget_4 : decode cX10_forget 4 = .ok (.bipush 50, 2) := by decide +kernel
theorem dX10_forget_6 : decode cX10_forget 6 = .ok (.iaload, 1) := by decide +kernel
theorem dX10_forget_7 : decode cX10_forget 7 = .ok (.istore_n 1, 1) := by decide +kernel
theorem dX10_forget_8 : decode cX10_forget 8 = .ok (.aload_n 0, 1) := by decide +kernel
theorem dX10_forget_9 : decode cX10_forget 9 = .ok (.getfield 28, 3) := by decide +kernel
theorem dX10_forget_12 : decode cX10_forget 12 = .ok (.bipush 50, 2) := by decide +kernel
theorem dX10_forget_14 : decode cX10_forget 14 = .ok (.iconst 0, 1) := by decide +kernel
theorem dX10_forget_15 : decode cX10_forget 15 = .ok (.iastore, 1) := by decide +kernel
theorem dX10_forget_16 : decode cX10_forget 16 = .ok (.iload_n 1, 1) := by decide +kernel
theorem dX10_forget_17 : decode cX10_forget 17 = .ok (.ireturn, 1) := by decide +kernel
theorem dX10_asSeen_0 : decode cX10_asSeen 0 = .ok (.aload_n 0, 1) := by decide +kernel
theorem dX10_asSeen_1 : decode cX10_asSeen 1 = .ok (.getfield 75, 3) := by decide +kernel
theorem dX10_asSeen_4 : decode cX10_asSeen 4 = .ok (.aload_n 0, 1) := by decide +kernel
theorem dX10_asSeen_5 : decode cX10_asSeen 5 = .ok (.getfield 28, 3) := by decide +kernel
theorem dX10_asSeen_8 : decode cX10_asSeen 8 = .ok (.bipush 34, 2) := by decide +kernel
theorem dX10_asSeen_10 : decode cX10_asSeen 10 = .ok (.iconst 2, 1) := by decide +kernel
theorem dX10_asSeen_11 : decode cX10_asSeen 11 = .ok (.iload_n 1, 1) := by decide +kernel
theorem dX10_asSeen_12 : decode cX10_asSeen 12 = .ok (.imul, 1) := by decide +kernel
theorem dX10_asSeen_13 : decode cX10_asSeen 13 = .ok (.iadd, 1) := by decide +kernel
theorem dX10_asSeen_14 : decode cX10_asSeen 14 = .ok (.iaload, 1) := by decide +kernel
theorem dX10_asSeen_15 : decode cX10_asSeen 15 = .ok (.iaload, 1) := by decide +kernel
theorem dX10_asSeen_16 : decode cX10_asSeen 16 = .ok (.istore_n 2, 1) := by decide +kernel
theorem dX10_asSeen_17 : decode cX10_asSeen 17 = .ok (.aload_n 0, 1) := by decide +kernel
theorem dX10_asSeen_18 : decode cX10_asSeen 18 = .ok (.getfield 28, 3) := by decide +kernel
theorem dX10_asSeen_21 : decode cX10_asSeen 21 = .ok (.bipush 34, 2) := by decide +kernel
theorem dX10_asSeen_23 : decode cX10_asSeen 23 = .ok (.iconst 2, 1) := by decide +kernel
theorem dX10_asSeen_24 : decode cX10_asSeen 24 = .ok (.iload_n 1, 1) := by decide +kernel
theorem dX10_asSeen_25 : decode cX10_asSeen 25 = .ok (.imul, 1) := by decide +kernel
theorem dX10_asSeen_26 : decode cX10_asSeen 26 = .ok (.iadd, 1) := by decide +kernel
theorem dX10_asSeen_27 : decode cX10_asSeen 27 = .ok (.iconst 1, 1) := by decide +kernel
theorem dX10_asSeen_28 : decode cX10_asSeen 28 = .ok (.iadd, 1) := by decide +kernel
theorem dX10_asSeen_29 : decode cX10_asSeen 29 = .ok (.iaload, 1) := by decide +kernel
theorem dX10_asSeen_30 : decode cX10_asSeen 30 = .ok (.iconst 1, 1) := by decide +kernel
theorem dX10_asSeen_31 : decode cX10_asSeen 31 = .ok (.if_icmp .ne 7, 3) := by decide +kernel
theorem dX10_asSeen_34 : decode cX10_asSeen 34 = .ok (.iload_n 2, 1) := by decide +kernel
theorem dX10_asSeen_35 : decode cX10_asSeen 35 = .ok (.goto 11, 3) := by decide +kernel
theorem dX10_asSeen_38 : decode cX10_asSeen 38 = .ok (.aload_n 0, 1) := by decide +kernel
theorem dX10_asSeen_39 : decode cX10_asSeen 39 = .ok (.invokevirtual 162, 3) := by decide +kernel
theorem dX10_asSeen_42 : decode cX10_asSeen 42 = .ok (.iload_n 2, 1) := by decide +kernel
theorem dX10_asSeen_43 : decode cX10_asSeen 43 = .ok (.iconst (-1), 1) := by decide +kernel
theorem dX10_asSeen_44 : decode cX10_asSeen 44 = .ok (.ixor, 1) := by decide +kernel
theorem dX10_asSeen_45 : decode cX10_asSeen 45 = .ok (.iand, 1) := by decide +kernel
theorem dX10_asSeen_46 : decode cX10_asSeen 46 = .ok (.ireturn, 1) := by decide +kernel
theorem dX10_canBe_0 : decode cX10_canBe 0 = .ok (.aload_n 0, 1) := by decide +kernel
theorem dX10_canBe_1 : decode cX10_canBe 1 = .ok (.iconst 0, 1) := by decide +kernel
theorem dX10_canBe_2 : decode cX10_canBe 2 = .ok (.iconst 0, 1) := by decide +kernel
theorem dX10_canBe_3 : decode cX10_canBe 3 = .ok (.iconst 0, 1) := by decide +kernel
theorem dX10_canBe_4 : decode cX10_canBe 4 = .ok (.invokevirtual 385, 3) := by decide +kernel
theorem dX10_canBe_7 : decode cX10_canBe 7 = .ok (.aload_n 0, 1) := by decide +kernel
theorem dX10_canBe_8 : decode cX10_canBe 8 = .ok (.invokevirtual 162, 3) := by decide +kernel
theorem dX10_canBe_11 : decode cX10_canBe 11 = .ok (.istore_n 1, 1) := by decide +kernel
theorem dX10_canBe_12 : decode cX10_canBe 12 = .ok (.iconst 0, 1) := by decide +kernel
theorem dX10_canBe_13 : decode cX10_canBe 13 = .ok (.istore_n 2, 1) := by decide +kernel
theorem dX10_canBe_14 : decode cX10_canBe 14 = .ok (.iload_n 2, 1) := by decide +kernel
theorem dX10_canBe_15 : decode cX10_canBe 15 = .ok (.aload_n 0, 1) := by decide +kernel
theorem dX10_canBe_16 : decode cX10_canBe 16 = .ok (.getfield 28, 3) := by decide +kernel
theorem dX10_canBe_19 : decode cX10_canBe 19 = .ok (.bipush 50, 2) := by decide +kernel
theorem dX10_canBe_21 : decode cX10_canBe 21 = .ok (.iaload, 1) := by decide +kernel
theorem dX10_canBe_22 : decode cX10_canBe 22 = .ok (.if_icmp .ge 17, 3) := by decide +kernel
theorem dX10_canBe_25 : decode cX10_canBe 25 = .ok (.iload_n 1, 1) := by decide +kernel
theorem dX10_canBe_26 : decode cX10_canBe 26 = .ok (.aload_n 0, 1) := by decide +kernel
theorem dX10_canBe_27 : decode cX10_canBe 27 = .ok (.iload_n 2, 1) := by decide +kernel
theorem dX10_canBe_28 : decode cX10_canBe 28 = .ok (.invokevirtual 434, 3) := by decide +kernel
theorem dX10_canBe_31 : decode cX10_canBe 31 = .ok (.iand, 1) := by decide +kernel
theorem dX10_canBe_32 : decode cX10_canBe 32 = .ok (.istore_n 1, 1) := by decide +kernel
theorem dX10_canBe_33 : decode cX10_canBe 33 = .ok (.iinc 2 1, 3) := by decide +kernel
theorem dX10_canBe_36 : decode cX10_canBe 36 = .ok (.goto (-22), 3) := by decide +kernel
theorem dX10_canBe_39 : decode cX10_canBe 39 = .ok (.iload_n 1, 1) := by decide +kernel
theorem dX10_canBe_40 : decode cX10_canBe 40 = .ok (.ireturn, 1) := by decide +kernel
theorem dX10_look_0 : decode cX10_look 0 = .ok (.iload_n 1, 1) := by decide +kernel
theorem dX10_look_1 : decode cX10_look 1 = .ok (.invokestatic 125, 3) := by decide +kernel
theorem dX10_look_4 : decode cX10_look 4 = .ok (.ifCond .ne 5, 3) := by decide +kernel
theorem dX10_look_7 : decode cX10_look 7 = .ok (.iconst (-1), 1) := by decide +kernel
theorem dX10_look_8 : decode cX10_look 8 = .ok (.ireturn, 1) := by decide +kernel
theorem dX10_look_9 : decode cX10_look 9 = .ok (.aload_n 0, 1) := by decide +kernel
theorem dX10_look_10 : decode cX10_look 10 = .ok (.invokevirtual 437, 3) := by decide +kernel
theorem dX10_look_13 : decode cX10_look 13 = .ok (.istore_n 2, 1) := by decide +kernel
theorem dX10_look_14 : decode cX10_look 14 = .ok (.iconst (-1), 1) := by decide +kernel
theorem dX10_look_15 : decode cX10_look 15 = .ok (.istore_n 3, 1) := by decide +kernel
theorem dX10_look_16 : decode cX10_look 16 = .ok (.ldc 186, 2) := by decide +kernel
theorem dX10_look_18 : decode cX10_look 18 = .ok (.istore 4, 2) := by decide +kernel
theorem dX10_look_20 : decode cX10_look 20 = .ok (.iconst 0, 1) := by decide +kernel
theorem dX10_look_21 : decode cX10_look 21 = .ok (.istore 5, 2) := by decide +kernel
theorem dX10_look_23 : decode cX10_look 23 = .ok (.iload 5, 2) := by decide +kernel
theorem dX10_look_25 : decode cX10_look 25 = .ok (.bipush 60, 2) := by decide +kernel
theorem dX10_look_27 : decode cX10_look 27 = .ok (.if_icmp .gt 61, 3) := by decide +kernel
theorem dX10_look_30 : decode cX10_look 30 = .ok (.iload_n 2, 1) := by decide +kernel
theorem dX10_look_31 : decode cX10_look 31 = .ok (.ifCond .eq 57, 3) := by decide +kernel
theorem dX10_look_34 : decode cX10_look 34 = .ok (.iload_n 2, 1) := by decide +kernel
theorem dX10_look_35 : decode cX10_look 35 = .ok (.aload_n 0, 1) := by decide +kernel
theorem dX10_look_36 : decode cX10_look 36 = .ok (.getfield 75, 3) := by decide +kernel
theorem dX10_look_39 : decode cX10_look 39 = .ok (.iload 5, 2) := by decide +kernel
theorem dX10_look_41 : decode cX10_look 41 = .ok (.iaload, 1) := by decide +kernel
theorem dX10_look_42 : decode cX10_look 42 = .ok (.iand, 1) := by decide +kernel
theorem dX10_look_43 : decode cX10_look 43 = .ok (.invokestatic 313, 3) := by decide +kernel
theorem dX10_look_46 : decode cX10_look 46 = .ok (.iload_n 2, 1) := by decide +kernel
theorem dX10_look_47 : decode cX10_look 47 = .ok (.aload_n 0, 1) := by decide +kernel
theorem dX10_look_48 : decode cX10_look 48 = .ok (.getfield 75, 3) := by decide +kernel
theorem dX10_look_51 : decode cX10_look 51 = .ok (.iload 5, 2) := by decide +kernel
theorem dX10_look_53 : decode cX10_look 53 = .ok (.iaload, 1) := by decide +kernel
theorem dX10_look_54 : decode cX10_look 54 = .ok (.iconst (-1), 1) := by decide +kernel
theorem dX10_look_55 : decode cX10_look 55 = .ok (.ixor, 1) := by decide +kernel
theorem dX10_look_56 : decode cX10_look 56 = .ok (.iand, 1) := by decide +kernel
theorem dX10_look_57 : decode cX10_look 57 = .ok (.invokestatic 313, 3) := by decide +kernel
theorem dX10_look_60 : decode cX10_look 60 = .ok (.invokestatic 440, 3) := by decide +kernel
theorem dX10_look_63 : decode cX10_look 63 = .ok (.istore 6, 2) := by decide +kernel
theorem dX10_look_65 : decode cX10_look 65 = .ok (.iload 6, 2) := by decide +kernel
theorem dX10_look_67 : decode cX10_look 67 = .ok (.iload 4, 2) := by decide +kernel
theorem dX10_look_69 : decode cX10_look 69 = .ok (.if_icmp .lt 6, 3) := by decide +kernel
theorem dX10_look_72 : decode cX10_look 72 = .ok (.goto 10, 3) := by decide +kernel
theorem dX10_look_75 : decode cX10_look 75 = .ok (.iload 6, 2) := by decide +kernel
theorem dX10_look_77 : decode cX10_look 77 = .ok (.istore 4, 2) := by decide +kernel
theorem dX10_look_79 : decode cX10_look 79 = .ok (.iload 5, 2) := by decide +kernel
theorem dX10_look_81 : decode cX10_look 81 = .ok (.istore_n 3, 1) := by decide +kernel
theorem dX10_look_82 : decode cX10_look 82 = .ok (.iinc 5 1, 3) := by decide +kernel
theorem dX10_look_85 : decode cX10_look 85 = .ok (.goto (-62), 3) := by decide +kernel
theorem dX10_look_88 : decode cX10_look 88 = .ok (.iload_n 3, 1) := by decide +kernel
theorem dX10_look_89 : decode cX10_look 89 = .ok (.iconst (-1), 1) := by decide +kernel
theorem dX10_look_90 : decode cX10_look 90 = .ok (.if_icmp .eq 7, 3) := by decide +kernel
theorem dX10_look_93 : decode cX10_look 93 = .ok (.iload_n 1, 1) := by decide +kernel
theorem dX10_look_94 : decode cX10_look 94 = .ok (.ifCond .ne 7, 3) := by decide +kernel
theorem dX10_look_97 : decode cX10_look 97 = .ok (.iload_n 3, 1) := by decide +kernel
theorem dX10_look_98 : decode cX10_look 98 = .ok (.goto 5, 3) := by decide +kernel
theorem dX10_look_101 : decode cX10_look 101 = .ok (.iload 4, 2) := by decide +kernel
theorem dX10_look_103 : decode cX10_look 103 = .ok (.ireturn, 1) := by decide +kernel
theorem dX10_few_0 : decode cX10_few 0 = .ok (.iload_n 1, 1) := by decide +kernel
theorem dX10_few_1 : decode cX10_few 1 = .ok (.iconst 1, 1) := by decide +kernel
theorem dX10_few_2 : decode cX10_few 2 = .ok (.bipush 20, 2) := by decide +kernel
theorem dX10_few_4 : decode cX10_few 4 = .ok (.invokestatic 18, 3) := by decide +kernel
theorem dX10_few_7 : decode cX10_few 7 = .ok (.ifCond .eq 13, 3) := by decide +kernel
theorem dX10_few_10 : decode cX10_few 10 = .ok (.iload_n 2, 1) := by decide +kernel
theorem dX10_few_11 : decode cX10_few 11 = .ok (.iconst 0, 1) := by decide +kernel
theorem dX10_few_12 : decode cX10_few 12 = .ok (.bipush 99, 2) := by decide +kernel
theorem dX10_few_14 : decode cX10_few 14 = .ok (.invokestatic 18, 3) := by decide +kernel
theorem dX10_few_17 : decode cX10_few 17 = .ok (.ifCond .ne 7, 3) := by decide +kernel
theorem dX10_few_20 : decode cX10_few 20 = .ok (.ldc2_w 443, 3) := by decide +kernel
theorem dX10_few_23 : decode cX10_few 23 = .ok (.lreturn, 1) := by decide +kernel
theorem dX10_few_24 : decode cX10_few 24 = .ok (.iconst 0, 1) := by decide +kernel
theorem dX10_few_25 : decode cX10_few 25 = .ok (.istore_n 3, 1) := by decide +kernel
theorem dX10_few_26 : decode cX10_few 26 = .ok (.iload_n 3, 1) := by decide +kernel
theorem dX10_few_27 : decode cX10_few 27 = .ok (.bipush 20, 2) := by decide +kernel
theorem dX10_few_29 : decode cX10_few 29 = .ok (.if_icmp .gt 26, 3) := by decide +kernel
theorem dX10_few_32 : decode cX10_few 32 = .ok (.aload_n 0, 1) := by decide +kernel
theorem dX10_few_33 : decode cX10_few 33 = .ok (.getfield 87, 3) := by decide +kernel
theorem dX10_few_36 : decode cX10_few 36 = .ok (.iload_n 3, 1) := by decide +kernel
theorem dX10_few_37 : decode cX10_few 37 = .ok (.iload_n 3, 1) := by decide +kernel
theorem dX10_few_38 : decode cX10_few 38 = .ok (.ifCond .ne 9, 3) := by decide +kernel
theorem dX10_few_41 : decode cX10_few 41 = .ok (.ldc2_w 445, 3) := by decide +kernel
theorem dX10_few_44 : decode cX10_few 44 = .ok (.goto 4, 3) := by decide +kernel
theorem dX10_few_47 : decode cX10_few 47 = .ok (.lconst 0, 1) := by decide +kernel
theorem dX10_few_48 : decode cX10_few 48 = .ok (.lastore, 1) := by decide +kernel
theorem dX10_few_49 : decode cX10_few 49 = .ok (.iinc 3 1, 3) := by decide +kernel
theorem dX10_few_52 : decode cX10_few 52 = .ok (.goto (-26), 3) := by decide +kernel
theorem dX10_few_55 : decode cX10_few 55 = .ok (.iconst 0, 1) := by decide +kernel
theorem dX10_few_56 : decode cX10_few 56 = .ok (.istore_n 3, 1) := by decide +kernel
theorem dX10_few_57 : decode cX10_few 57 = .ok (.iload_n 3, 1) := by decide +kernel
theorem dX10_few_58 : decode cX10_few 58 = .ok (.iload_n 2, 1) := by decide +kernel
theorem dX10_few_59 : decode cX10_few 59 = .ok (.if_icmp .ge 87, 3) := by decide +kernel
theorem dX10_few_62 : decode cX10_few 62 = .ok (.iload_n 1, 1) := by decide +kernel
theorem dX10_few_63 : decode cX10_few 63 = .ok (.iconst 1, 1) := by decide +kernel
theorem dX10_few_64 : decode cX10_few 64 = .ok (.isub, 1) := by decide +kernel
theorem dX10_few_65 : decode cX10_few 65 = .ok (.istore 4, 2) := by decide +kernel
theorem dX10_few_67 : decode cX10_few 67 = .ok (.iload 4, 2) := by decide +kernel
theorem dX10_few_69 : decode cX10_few 69 = .ok (.ifCond .lt 71, 3) := by decide +kernel
theorem dX10_few_72 : decode cX10_few 72 = .ok (.aload_n 0, 1) := by decide +kernel
theorem dX10_few_73 : decode cX10_few 73 = .ok (.getfield 87, 3) := by decide +kernel
theorem dX10_few_76 : decode cX10_few 76 = .ok (.iload 4, 2) := by decide +kernel
theorem dX10_few_78 : decode cX10_few 78 = .ok (.iconst 1, 1) := by decide +kernel
theorem dX10_few_79 : decode cX10_few 79 = .ok (.iadd, 1) := by decide +kernel
theorem dX10_few_80 : decode cX10_few 80 = .ok (.dup2, 1) := by decide +kernel
theorem dX10_few_81 : decode cX10_few 81 = .ok (.laload, 1) := by decide +kernel
theorem dX10_few_82 : decode cX10_few 82 = .ok (.aload_n 0, 1) := by decide +kernel
theorem dX10_few_83 : decode cX10_few 83 = .ok (.getfield 87, 3) := by decide +kernel
theorem dX10_few_86 : decode cX10_few 86 = .ok (.iload 4, 2) := by decide +kernel
theorem dX10_few_88 : decode cX10_few 88 = .ok (.laload, 1) := by decide +kernel
theorem dX10_few_89 : decode cX10_few 89 = .ok (.aload_n 0, 1) := by decide +kernel
theorem dX10_few_90 : decode cX10_few 90 = .ok (.getfield 28, 3) := by decide +kernel
theorem dX10_few_93 : decode cX10_few 93 = .ok (.bipush 46, 2) := by decide +kernel
theorem dX10_few_95 : decode cX10_few 95 = .ok (.iaload, 1) := by decide +kernel
theorem dX10_few_96 : decode cX10_few 96 = .ok (.i2l, 1) := by decide +kernel
theorem dX10_few_97 : decode cX10_few 97 = .ok (.lmul, 1) := by decide +kernel
theorem dX10_few_98 : decode cX10_few 98 = .ok (.ldc2_w 447, 3) := by decide +kernel
theorem dX10_few_101 : decode cX10_few 101 = .ok (.ldiv, 1) := by decide +kernel
theorem dX10_few_102 : decode cX10_few 102 = .ok (.ladd, 1) := by decide +kernel
theorem dX10_few_103 : decode cX10_few 103 = .ok (.lastore, 1) := by decide +kernel
theorem dX10_few_104 : decode cX10_few 104 = .ok (.aload_n 0, 1) := by decide +kernel
theorem dX10_few_105 : decode cX10_few 105 = .ok (.getfield 87, 3) := by decide +kernel
theorem dX10_few_108 : decode cX10_few 108 = .ok (.iload 4, 2) := by decide +kernel
theorem dX10_few_110 : decode cX10_few 110 = .ok (.aload_n 0, 1) := by decide +kernel
theorem dX10_few_111 : decode cX10_few 111 = .ok (.getfield 87, 3) := by decide +kernel
theorem dX10_few_114 : decode cX10_few 114 = .ok (.iload 4, 2) := by decide +kernel
theorem dX10_few_116 : decode cX10_few 116 = .ok (.laload, 1) := by decide +kernel
theorem dX10_few_117 : decode cX10_few 117 = .ok (.bipush 10, 2) := by decide +kernel
theorem dX10_few_119 : decode cX10_few 119 = .ok (.aload_n 0, 1) := by decide +kernel
theorem dX10_few_120 : decode cX10_few 120 = .ok (.getfield 28, 3) := by decide +kernel
theorem dX10_few_123 : decode cX10_few 123 = .ok (.bipush 46, 2) := by decide +kernel
theorem dX10_few_125 : decode cX10_few 125 = .ok (.iaload, 1) := by decide +kernel
theorem dX10_few_126 : decode cX10_few 126 = .ok (.isub, 1) := by decide +kernel
theorem dX10_few_127 : decode cX10_few 127 = .ok (.i2l, 1) := by decide +kernel
theorem dX10_few_128 : decode cX10_few 128 = .ok (.lmul, 1) := by decide +kernel
theorem dX10_few_129 : decode cX10_few 129 = .ok (.ldc2_w 447, 3) := by decide +kernel
theorem dX10_few_132 : decode cX10_few 132 = .ok (.ldiv, 1) := by decide +kernel
theorem dX10_few_133 : decode cX10_few 133 = .ok (.lastore, 1) := by decide +kernel
theorem dX10_few_134 : decode cX10_few 134 = .ok (.iinc 4 (-1), 3) := by decide +kernel
theorem dX10_few_137 : decode cX10_few 137 = .ok (.goto (-70), 3) := by decide +kernel
theorem dX10_few_140 : decode cX10_few 140 = .ok (.iinc 3 1, 3) := by decide +kernel
theorem dX10_few_143 : decode cX10_few 143 = .ok (.goto (-86), 3) := by decide +kernel
theorem dX10_few_146 : decode cX10_few 146 = .ok (.lconst 0, 1) := by decide +kernel
theorem dX10_few_147 : decode cX10_few 147 = .ok (.lstore_n 3, 1) := by decide +kernel
theorem dX10_few_148 : decode cX10_few 148 = .ok (.iconst 0, 1) := by decide +kernel
theorem dX10_few_149 : decode cX10_few 149 = .ok (.istore 5, 2) := by decide +kernel
theorem dX10_few_151 : decode cX10_few 151 = .ok (.iload 5, 2) := by decide +kernel
theorem dX10_few_153 : decode cX10_few 153 = .ok (.iload_n 1, 1) := by decide +kernel
theorem dX10_few_154 : decode cX10_few 154 = .ok (.if_icmp .ge 19, 3) := by decide +kernel
theorem dX10_few_157 : decode cX10_few 157 = .ok (.lload_n 3, 1) := by decide +kernel
theorem dX10_few_158 : decode cX10_few 158 = .ok (.aload_n 0, 1) := by decide +kernel
theorem dX10_few_159 : decode cX10_few 159 = .ok (.getfield 87, 3) := by decide +kernel
theorem dX10_few_162 : decode cX10_few 162 = .ok (.iload 5, 2) := by decide +kernel
theorem dX10_few_164 : decode cX10_few 164 = .ok (.laload, 1) := by decide +kernel
theorem dX10_few_165 : decode cX10_few 165 = .ok (.ladd, 1) := by decide +kernel
theorem dX10_few_166 : decode cX10_few 166 = .ok (.lstore_n 3, 1) := by decide +kernel
theorem dX10_few_167 : decode cX10_few 167 = .ok (.iinc 5 1, 3) := by decide +kernel
theorem dX10_few_170 : decode cX10_few 170 = .ok (.goto (-19), 3) := by decide +kernel
theorem dX10_few_173 : decode cX10_few 173 = .ok (.lload_n 3, 1) := by decide +kernel
theorem dX10_few_174 : decode cX10_few 174 = .ok (.lreturn, 1) := by decide +kernel
theorem dX10_stopped_0 : decode cX10_stopped 0 = .ok (.aload_n 0, 1) := by decide +kernel
theorem dX10_stopped_1 : decode cX10_stopped 1 = .ok (.getfield 91, 3) := by decide +kernel
theorem dX10_stopped_4 : decode cX10_stopped 4 = .ok (.ireturn, 1) := by decide +kernel
theorem dX10_orders_0 : decode cX10_orders 0 = .ok (.aload_n 0, 1) := by decide +kernel
theorem dX10_orders_1 : decode cX10_orders 1 = .ok (.iconst (-1), 1) := by decide +kernel
theorem dX10_orders_2 : decode cX10_orders 2 = .ok (.putfield 91, 3) := by decide +kernel
theorem dX10_orders_5 : decode cX10_orders 5 = .ok (.aload_n 0, 1) := by decide +kernel
theorem dX10_orders_6 : decode cX10_orders 6 = .ok (.iconst 1, 1) := by decide +kernel
theorem dX10_orders_7 : decode cX10_orders 7 = .ok (.invokevirtual 264, 3) := by decide +kernel
theorem dX10_orders_10 : decode cX10_orders 10 = .ok (.ifCond .ne 10, 3) := by decide +kernel
theorem dX10_orders_13 : decode cX10_orders 13 = .ok (.aload_n 0, 1) := by decide +kernel
theorem dX10_orders_14 : decode cX10_orders 14 = .ok (.bipush (-6), 2) := by decide +kernel
theorem dX10_orders_16 : decode cX10_orders 16 = .ok (.invokevirtual 103, 3) := by decide +kernel
theorem dX10_orders_19 : decode cX10_orders 19 = .ok (.ireturn, 1) := by decide +kernel
theorem dX10_orders_20 : decode cX10_orders 20 = .ok (.aload_n 0, 1) := by decide +kernel
theorem dX10_orders_21 : decode cX10_orders 21 = .ok (.iconst 1, 1) := by decide +kernel
theorem dX10_orders_22 : decode cX10_orders 22 = .ok (.invokevirtual 372, 3) := by decide +kernel
theorem dX10_orders_25 : decode cX10_orders 25 = .ok (.iconst 0, 1) := by decide +kernel
theorem dX10_orders_26 : decode cX10_orders 26 = .ok (.istore_n 1, 1) := by decide +kernel
theorem dX10_orders_27 : decode cX10_orders 27 = .ok (.iload_n 1, 1) := by decide +kernel
theorem dX10_orders_28 : decode cX10_orders 28 = .ok (.sipush 304, 3) := by decide +kernel
theorem dX10_orders_31 : decode cX10_orders 31 = .ok (.if_icmp .ge 21, 3) := by decide +kernel
theorem dX10_orders_34 : decode cX10_orders 34 = .ok (.aload_n 0, 1) := by decide +kernel
theorem dX10_orders_35 : decode cX10_orders 35 = .ok (.getfield 72, 3) := by decide +kernel
theorem dX10_orders_38 : decode cX10_orders 38 = .ok (.iload_n 1, 1) := by decide +kernel
theorem dX10_orders_39 : decode cX10_orders 39 = .ok (.aload_n 0, 1) := by decide +kernel
theorem dX10_orders_40 : decode cX10_orders 40 = .ok (.getfield 69, 3) := by decide +kernel
theorem dX10_orders_43 : decode cX10_orders 43 = .ok (.iload_n 1, 1) := by decide +kernel
theorem dX10_orders_44 : decode cX10_orders 44 = .ok (.iaload, 1) := by decide +kernel
theorem dX10_orders_45 : decode cX10_orders 45 = .ok (.iastore, 1) := by decide +kernel
theorem dX10_orders_46 : decode cX10_orders 46 = .ok (.iinc 1 1, 3) := by decide +kernel
theorem dX10_orders_49 : decode cX10_orders 49 = .ok (.goto (-22), 3) := by decide +kernel
theorem dX10_orders_52 : decode cX10_orders 52 = .ok (.aload_n 0, 1) := by decide +kernel
theorem dX10_orders_53 : decode cX10_orders 53 = .ok (.getfield 11, 3) := by decide +kernel
theorem dX10_orders_56 : decode cX10_orders 56 = .ok (.istore_n 1, 1) := by decide +kernel
theorem dX10_orders_57 : decode cX10_orders 57 = .ok (.aload_n 0, 1) := by decide +kernel
theorem dX10_orders_58 : decode cX10_orders 58 = .ok (.bipush 6, 2) := by decide +kernel
theorem dX10_orders_60 : decode cX10_orders 60 = .ok (.invokevirtual 268, 3) := by decide +kernel
theorem dX10_orders_63 : decode cX10_orders 63 = .ok (.aload_n 0, 1) := by decide +kernel
theorem dX10_orders_64 : decode cX10_orders 64 = .ok (.iconst 0, 1) := by decide +kernel
theorem dX10_orders_65 : decode cX10_orders 65 = .ok (.putfield 316, 3) := by decide +kernel
theorem dX10_orders_68 : decode cX10_orders 68 = .ok (.aload_n 0, 1) := by decide +kernel
theorem dX10_orders_69 : decode cX10_orders 69 = .ok (.iconst (-1), 1) := by decide +kernel
theorem dX10_orders_70 : decode cX10_orders 70 = .ok (.putfield 319, 3) := by decide +kernel
theorem dX10_orders_73 : decode cX10_orders 73 = .ok (.aload_n 0, 1) := by decide +kernel
theorem dX10_orders_74 : decode cX10_orders 74 = .ok (.sipush 2400, 3) := by decide +kernel
theorem dX10_orders_77 : decode cX10_orders 77 = .ok (.putfield 449, 3) := by decide +kernel
theorem dX10_orders_80 : decode cX10_orders 80 = .ok (.aload_n 0, 1) := by decide +kernel
theorem dX10_orders_81 : decode cX10_orders 81 = .ok (.getfield 449, 3) := by decide +kernel
theorem dX10_orders_84 : decode cX10_orders 84 = .ok (.aload_n 0, 1) := by decide +kernel
theorem dX10_orders_85 : decode cX10_orders 85 = .ok (.getfield 28, 3) := by decide +kernel
theorem dX10_orders_88 : decode cX10_orders 88 = .ok (.bipush 59, 2) := by decide +kernel
theorem dX10_orders_90 : decode cX10_orders 90 = .ok (.iaload, 1) := by decide +kernel
theorem dX10_orders_91 : decode cX10_orders 91 = .ok (.iadd, 1) := by decide +kernel
theorem dX10_orders_92 : decode cX10_orders 92 = .ok (.istore_n 2, 1) := by decide +kernel
theorem dX10_orders_93 : decode cX10_orders 93 = .ok (.iconst 0, 1) := by decide +kernel
theorem dX10_orders_94 : decode cX10_orders 94 = .ok (.istore_n 3, 1) := by decide +kernel
theorem dX10_orders_95 : decode cX10_orders 95 = .ok (.aload_n 0, 1) := by decide +kernel
theorem dX10_orders_96 : decode cX10_orders 96 = .ok (.getfield 449, 3) := by decide +kernel
theorem dX10_orders_99 : decode cX10_orders 99 = .ok (.iload_n 2, 1) := by decide +kernel
theorem dX10_orders_100 : decode cX10_orders 100 = .ok (.if_icmp .ge 73, 3) := by decide +kernel
theorem dX10_orders_103 : decode cX10_orders 103 = .ok (.aload_n 0, 1) := by decide +kernel
theorem dX10_orders_104 : decode cX10_orders 104 = .ok (.iload_n 2, 1) := by decide +kernel
theorem dX10_orders_105 : decode cX10_orders 105 = .ok (.invokevirtual 452, 3) := by decide +kernel
theorem dX10_orders_108 : decode cX10_orders 108 = .ok (.ifCond .eq 6, 3) := by decide +kernel
theorem dX10_orders_111 : decode cX10_orders 111 = .ok (.goto 56, 3) := by decide +kernel
theorem dX10_orders_114 : decode cX10_orders 114 = .ok (.aload_n 0, 1) := by decide +kernel
theorem dX10_orders_115 : decode cX10_orders 115 = .ok (.iconst 1, 1) := by decide +kernel
theorem dX10_orders_116 : decode cX10_orders 116 = .ok (.invokevirtual 378, 3) := by decide +kernel
theorem dX10_orders_119 : decode cX10_orders 119 = .ok (.iconst 0, 1) := by decide +kernel
theorem dX10_orders_120 : decode cX10_orders 120 = .ok (.istore 4, 2) := by decide +kernel
theorem dX10_orders_122 : decode cX10_orders 122 = .ok (.iload 4, 2) := by decide +kernel
theorem dX10_orders_124 : decode cX10_orders 124 = .ok (.sipush 304, 3) := by decide +kernel
theorem dX10_orders_127 : decode cX10_orders 127 = .ok (.if_icmp .ge 23, 3) := by decide +kernel
theorem dX10_orders_130 : decode cX10_orders 130 = .ok (.aload_n 0, 1) := by decide +kernel
theorem dX10_orders_131 : decode cX10_orders 131 = .ok (.getfield 69, 3) := by decide +kernel
theorem dX10_orders_134 : decode cX10_orders 134 = .ok (.iload 4, 2) := by decide +kernel
theorem dX10_orders_136 : decode cX10_orders 136 = .ok (.aload_n 0, 1) := by decide +kernel
theorem dX10_orders_137 : decode cX10_orders 137 = .ok (.getfield 72, 3) := by decide +kernel
theorem dX10_orders_140 : decode cX10_orders 140 = .ok (.iload 4, 2) := by decide +kernel
theorem dX10_orders_142 : decode cX10_orders 142 = .ok (.iaload, 1) := by decide +kernel
theorem dX10_orders_143 : decode cX10_orders 143 = .ok (.iastore, 1) := by decide +kernel
theorem dX10_orders_144 : decode cX10_orders 144 = .ok (.iinc 4 1, 3) := by decide +kernel
theorem dX10_orders_147 : decode cX10_orders 147 = .ok (.goto (-25), 3) := by decide +kernel
theorem dX10_orders_150 : decode cX10_orders 150 = .ok (.aload_n 0, 1) := by decide +kernel
theorem dX10_orders_151 : decode cX10_orders 151 = .ok (.iload_n 1, 1) := by decide +kernel
theorem dX10_orders_152 : decode cX10_orders 152 = .ok (.putfield 11, 3) := by decide +kernel
theorem dX10_orders_155 : decode cX10_orders 155 = .ok (.aload_n 0, 1) := by decide +kernel
theorem dX10_orders_156 : decode cX10_orders 156 = .ok (.iload_n 3, 1) := by decide +kernel
theorem dX10_orders_157 : decode cX10_orders 157 = .ok (.putfield 91, 3) := by decide +kernel
theorem dX10_orders_160 : decode cX10_orders 160 = .ok (.aload_n 0, 1) := by decide +kernel
theorem dX10_orders_161 : decode cX10_orders 161 = .ok (.bipush (-3), 2) := by decide +kernel
theorem dX10_orders_163 : decode cX10_orders 163 = .ok (.invokevirtual 103, 3) := by decide +kernel
theorem dX10_orders_166 : decode cX10_orders 166 = .ok (.ireturn, 1) := by decide +kernel
theorem dX10_orders_167 : decode cX10_orders 167 = .ok (.iinc 3 1, 3) := by decide +kernel
theorem dX10_orders_170 : decode cX10_orders 170 = .ok (.goto (-75), 3) := by decide +kernel
theorem dX10_orders_173 : decode cX10_orders 173 = .ok (.aload_n 0, 1) := by decide +kernel
theorem dX10_orders_174 : decode cX10_orders 174 = .ok (.aload_n 0, 1) := by decide +kernel
theorem dX10_orders_175 : decode cX10_orders 175 = .ok (.getfield 316, 3) := by decide +kernel
theorem dX10_orders_178 : decode cX10_orders 178 = .ok (.invokevirtual 14, 3) := by decide +kernel
theorem dX10_orders_181 : decode cX10_orders 181 = .ok (.ireturn, 1) := by decide +kernel
theorem dX10_goesAlong_0 : decode cX10_goesAlong 0 = .ok (.aload_n 0, 1) := by decide +kernel
theorem dX10_goesAlong_1 : decode cX10_goesAlong 1 = .ok (.iconst 1, 1) := by decide +kernel
theorem dX10_goesAlong_2 : decode cX10_goesAlong 2 = .ok (.putfield 307, 3) := by decide +kernel
theorem dX10_goesAlong_5 : decode cX10_goesAlong 5 = .ok (.aload_n 0, 1) := by decide +kernel
theorem dX10_goesAlong_6 : decode cX10_goesAlong 6 = .ok (.iload_n 1, 1) := by decide +kernel
theorem dX10_goesAlong_7 : decode cX10_goesAlong 7 = .ok (.putfield 274, 3) := by decide +kernel
theorem dX10_goesAlong_10 : decode cX10_goesAlong 10 = .ok (.aload_n 0, 1) := by decide +kernel
theorem dX10_goesAlong_11 : decode cX10_goesAlong 11 = .ok (.aload_n 0, 1) := by decide +kernel
theorem dX10_goesAlong_12 : decode cX10_goesAlong 12 = .ok (.getfield 449, 3) := by decide +kernel
theorem dX10_goesAlong_15 : decode cX10_goesAlong 15 = .ok (.putfield 277, 3) := by decide +kernel
theorem dX10_goesAlong_18 : decode cX10_goesAlong 18 = .ok (.aload_n 0, 1) := by decide +kernel
theorem dX10_goesAlong_19 : decode cX10_goesAlong 19 = .ok (.aload_n 0, 1) := by decide +kernel
theorem dX10_goesAlong_20 : decode cX10_goesAlong 20 = .ok (.aload_n 0, 1) := by decide +kernel
theorem dX10_goesAlong_21 : decode cX10_goesAlong 21 = .ok (.getfield 277, 3) := by decide +kernel
theorem dX10_goesAlong_24 : decode cX10_goesAlong 24 = .ok (.invokevirtual 280, 3) := by decide +kernel
theorem dX10_goesAlong_27 : decode cX10_goesAlong 27 = .ok (.putfield 455, 3) := by decide +kernel
theorem dX10_goesAlong_30 : decode cX10_goesAlong 30 = .ok (.aload_n 0, 1) := by decide +kernel
theorem dX10_goesAlong_31 : decode cX10_goesAlong 31 = .ok (.dup, 1) := by decide +kernel
theorem dX10_goesAlong_32 : decode cX10_goesAlong 32 = .ok (.getfield 277, 3) := by decide +kernel
theorem dX10_goesAlong_35 : decode cX10_goesAlong 35 = .ok (.iconst 1, 1) := by decide +kernel
theorem dX10_goesAlong_36 : decode cX10_goesAlong 36 = .ok (.iadd, 1) := by decide +kernel
theorem dX10_goesAlong_37 : decode cX10_goesAlong 37 = .ok (.putfield 277, 3) := by decide +kernel
theorem dX10_goesAlong_40 : decode cX10_goesAlong 40 = .ok (.aload_n 0, 1) := by decide +kernel
theorem dX10_goesAlong_41 : decode cX10_goesAlong 41 = .ok (.iconst 1, 1) := by decide +kernel
theorem dX10_goesAlong_42 : decode cX10_goesAlong 42 = .ok (.putfield 458, 3) := by decide +kernel
theorem dX10_goesAlong_45 : decode cX10_goesAlong 45 = .ok (.aload_n 0, 1) := by decide +kernel
theorem dX10_goesAlong_46 : decode cX10_goesAlong 46 = .ok (.getfield 455, 3) := by decide +kernel
theorem dX10_goesAlong_49 : decode cX10_goesAlong 49 = .ok (.bipush 24, 2) := by decide +kernel
theorem dX10_goesAlong_51 : decode cX10_goesAlong 51 = .ok (.if_icmp .ne 7, 3) := by decide +kernel
theorem dX10_goesAlong_54 : decode cX10_goesAlong 54 = .ok (.iconst 0, 1) := by decide +kernel
theorem dX10_goesAlong_55 : decode cX10_goesAlong 55 = .ok (.goto 17, 3) := by decide +kernel
theorem dX10_goesAlong_58 : decode cX10_goesAlong 58 = .ok (.aload_n 0, 1) := by decide +kernel
theorem dX10_goesAlong_59 : decode cX10_goesAlong 59 = .ok (.getfield 455, 3) := by decide +kernel
theorem dX10_goesAlong_62 : decode cX10_goesAlong 62 = .ok (.bipush 22, 2) := by decide +kernel
theorem dX10_goesAlong_64 : decode cX10_goesAlong 64 = .ok (.if_icmp .ne 7, 3) := by decide +kernel
theorem dX10_goesAlong_67 : decode cX10_goesAlong 67 = .ok (.iconst 2, 1) := by decide +kernel
theorem dX10_goesAlong_68 : decode cX10_goesAlong 68 = .ok (.goto 4, 3) := by decide +kernel
theorem dX10_goesAlong_71 : decode cX10_goesAlong 71 = .ok (.iconst 1, 1) := by decide +kernel
theorem dX10_goesAlong_72 : decode cX10_goesAlong 72 = .ok (.istore_n 3, 1) := by decide +kernel
theorem dX10_goesAlong_73 : decode cX10_goesAlong 73 = .ok (.iconst 0, 1) := by decide +kernel
theorem dX10_goesAlong_74 : decode cX10_goesAlong 74 = .ok (.istore 4, 2) := by decide +kernel
theorem dX10_goesAlong_76 : decode cX10_goesAlong 76 = .ok (.iload 4, 2) := by decide +kernel
theorem dX10_goesAlong_78 : decode cX10_goesAlong 78 = .ok (.iload_n 3, 1) := by decide +kernel
theorem dX10_goesAlong_79 : decode cX10_goesAlong 79 = .ok (.if_icmp .ge 64, 3) := by decide +kernel
theorem dX10_goesAlong_82 : decode cX10_goesAlong 82 = .ok (.iload 4, 2) := by decide +kernel
theorem dX10_goesAlong_84 : decode cX10_goesAlong 84 = .ok (.ifCond .le 13, 3) := by decide +kernel
theorem dX10_goesAlong_87 : decode cX10_goesAlong 87 = .ok (.aload_n 0, 1) := by decide +kernel
theorem dX10_goesAlong_88 : decode cX10_goesAlong 88 = .ok (.dup, 1) := by decide +kernel
theorem dX10_goesAlong_89 : decode cX10_goesAlong 89 = .ok (.getfield 277, 3) := by decide +kernel
theorem dX10_goesAlong_92 : decode cX10_goesAlong 92 = .ok (.iconst 1, 1) := by decide +kernel
theorem dX10_goesAlong_93 : decode cX10_goesAlong 93 = .ok (.iadd, 1) := by decide +kernel
theorem dX10_goesAlong_94 : decode cX10_goesAlong 94 = .ok (.putfield 277, 3) := by decide +kernel
theorem dX10_goesAlong_97 : decode cX10_goesAlong 97 = .ok (.aload_n 0, 1) := by decide +kernel
theorem dX10_goesAlong_98 : decode cX10_goesAlong 98 = .ok (.iconst 0, 1) := by decide +kernel
theorem dX10_goesAlong_99 : decode cX10_goesAlong 99 = .ok (.putfield 287, 3) := by decide +kernel
theorem dX10_goesAlong_102 : decode cX10_goesAlong 102 = .ok (.aload_n 0, 1) := by decide +kernel
theorem dX10_goesAlong_103 : decode cX10_goesAlong 103 = .ok (.getfield 94, 3) := by decide +kernel
theorem dX10_goesAlong_106 : decode cX10_goesAlong 106 = .ok (.iload 4, 2) := by decide +kernel
theorem dX10_goesAlong_108 : decode cX10_goesAlong 108 = .ok (.aload_n 0, 1) := by decide +kernel
theorem dX10_goesAlong_109 : decode cX10_goesAlong 109 = .ok (.iload_n 2, 1) := by decide +kernel
theorem dX10_goesAlong_110 : decode cX10_goesAlong 110 = .ok (.invokevirtual 304, 3) := by decide +kernel
theorem dX10_goesAlong_113 : decode cX10_goesAlong 113 = .ok (.lastore, 1) := by decide +kernel
theorem dX10_goesAlong_114 : decode cX10_goesAlong 114 = .ok (.aload_n 0, 1) := by decide +kernel
theorem dX10_goesAlong_115 : decode cX10_goesAlong 115 = .ok (.aload_n 0, 1) := by decide +kernel
theorem dX10_goesAlong_116 : decode cX10_goesAlong 116 = .ok (.getfield 458, 3) := by decide +kernel
theorem dX10_goesAlong_119 : decode cX10_goesAlong 119 = .ok (.ifCond .eq 14, 3) := by decide +kernel
theorem dX10_goesAlong_122 : decode cX10_goesAlong 122 = .ok (.aload_n 0, 1) := by decide +kernel
theorem dX10_goesAlong_123 : decode cX10_goesAlong 123 = .ok (.getfield 287, 3) := by decide +kernel
theorem dX10_goesAlong_126 : decode cX10_goesAlong 126 = .ok (.ifCond .ne 7, 3) := by decide +kernel
theorem dX10_goesAlong_129 : decode cX10_goesAlong 129 = .ok (.iconst 1, 1) := by decide +kernel
theorem dX10_goesAlong_130 : decode cX10_goesAlong 130 = .ok (.goto 4, 3) := by decide +kernel
theorem dX10_goesAlong_133 : decode cX10_goesAlong 133 = .ok (.iconst 0, 1) := by decide +kernel
theorem dX10_goesAlong_134 : decode cX10_goesAlong 134 = .ok (.putfield 458, 3) := by decide +kernel
theorem dX10_goesAlong_137 : decode cX10_goesAlong 137 = .ok (.iinc 4 1, 3) := by decide +kernel
theorem dX10_goesAlong_140 : decode cX10_goesAlong 140 = .ok (.goto (-64), 3) := by decide +kernel
theorem dX10_goesAlong_143 : decode cX10_goesAlong 143 = .ok (.aload_n 0, 1) := by decide +kernel
theorem dX10_goesAlong_144 : decode cX10_goesAlong 144 = .ok (.iconst 1, 1) := by decide +kernel
theorem dX10_goesAlong_145 : decode cX10_goesAlong 145 = .ok (.putfield 461, 3) := by decide +kernel
theorem dX10_goesAlong_148 : decode cX10_goesAlong 148 = .ok (.aload_n 0, 1) := by decide +kernel
theorem dX10_goesAlong_149 : decode cX10_goesAlong 149 = .ok (.bipush 25, 2) := by decide +kernel
theorem dX10_goesAlong_151 : decode cX10_goesAlong 151 = .ok (.invokevirtual 301, 3) := by decide +kernel
theorem dX10_goesAlong_154 : decode cX10_goesAlong 154 = .ok (.ifCond .eq 30, 3) := by decide +kernel
theorem dX10_goesAlong_157 : decode cX10_goesAlong 157 = .ok (.aload_n 0, 1) := by decide +kernel
theorem dX10_goesAlong_158 : decode cX10_goesAlong 158 = .ok (.aload_n 0, 1) := by decide +kernel
theorem dX10_goesAlong_159 : decode cX10_goesAlong 159 = .ok (.getfield 28, 3) := by decide +kernel
theorem dX10_goesAlong_162 : decode cX10_goesAlong 162 = .ok (.sipush 2860, 3) := by decide +kernel
theorem dX10_goesAlong_165 : decode cX10_goesAlong 165 = .ok (.aload_n 0, 1) := by decide +kernel
theorem dX10_goesAlong_166 : decode cX10_goesAlong 166 = .ok (.getfield 277, 3) := by decide +kernel
theorem dX10_goesAlong_169 : decode cX10_goesAlong 169 = .ok (.iadd, 1) := by decide +kernel
theorem dX10_goesAlong_170 : decode cX10_goesAlong 170 = .ok (.iaload, 1) := by decide +kernel
theorem dX10_goesAlong_171 : decode cX10_goesAlong 171 = .ok (.putfield 461, 3) := by decide +kernel
theorem dX10_goesAlong_174 : decode cX10_goesAlong 174 = .ok (.aload_n 0, 1) := by decide +kernel
theorem dX10_goesAlong_175 : decode cX10_goesAlong 175 = .ok (.dup, 1) := by decide +kernel
theorem dX10_goesAlong_176 : decode cX10_goesAlong 176 = .ok (.getfield 277, 3) := by decide +kernel
theorem dX10_goesAlong_179 : decode cX10_goesAlong 179 = .ok (.iconst 1, 1) := by decide +kernel
theorem dX10_goesAlong_180 : decode cX10_goesAlong 180 = .ok (.iadd, 1) := by decide +kernel
theorem dX10_goesAlong_181 : decode cX10_goesAlong 181 = .ok (.putfield 277, 3) := by decide +kernel
theorem dX10_goesAlong_184 : decode cX10_goesAlong 184 = .ok (.aload_n 0, 1) := by decide +kernel
theorem dX10_goesAlong_185 : decode cX10_goesAlong 185 = .ok (.iconst 0, 1) := by decide +kernel
theorem dX10_goesAlong_186 : decode cX10_goesAlong 186 = .ok (.putfield 287, 3) := by decide +kernel
theorem dX10_goesAlong_189 : decode cX10_goesAlong 189 = .ok (.aload_n 0, 1) := by decide +kernel
theorem dX10_goesAlong_190 : decode cX10_goesAlong 190 = .ok (.aload_n 0, 1) := by decide +kernel
theorem dX10_goesAlong_191 : decode cX10_goesAlong 191 = .ok (.iconst 4, 1) := by decide +kernel
theorem dX10_goesAlong_192 : decode cX10_goesAlong 192 = .ok (.invokevirtual 301, 3) := by decide +kernel
theorem dX10_goesAlong_195 : decode cX10_goesAlong 195 = .ok (.ifCond .eq 11, 3) := by decide +kernel
theorem dX10_goesAlong_198 : decode cX10_goesAlong 198 = .ok (.aload_n 0, 1) := by decide +kernel
theorem dX10_goesAlong_199 : decode cX10_goesAlong 199 = .ok (.iload_n 2, 1) := by decide +kernel
theorem dX10_goesAlong_200 : decode cX10_goesAlong 200 = .ok (.invokevirtual 331, 3) := by decide +kernel
theorem dX10_goesAlong_203 : decode cX10_goesAlong 203 = .ok (.ifCond .eq 7, 3) := by decide +kernel
theorem dX10_goesAlong_206 : decode cX10_goesAlong 206 = .ok (.iconst 1, 1) := by decide +kernel
theorem dX10_goesAlong_207 : decode cX10_goesAlong 207 = .ok (.goto 4, 3) := by decide +kernel
theorem dX10_goesAlong_210 : decode cX10_goesAlong 210 = .ok (.iconst 0, 1) := by decide +kernel
theorem dX10_goesAlong_211 : decode cX10_goesAlong 211 = .ok (.putfield 464, 3) := by decide +kernel
theorem dX10_goesAlong_214 : decode cX10_goesAlong 214 = .ok (.aload_n 0, 1) := by decide +kernel
theorem dX10_goesAlong_215 : decode cX10_goesAlong 215 = .ok (.aload_n 0, 1) := by decide +kernel
theorem dX10_goesAlong_216 : decode cX10_goesAlong 216 = .ok (.getfield 464, 3) := by decide +kernel
theorem dX10_goesAlong_219 : decode cX10_goesAlong 219 = .ok (.ifCond .eq 14, 3) := by decide +kernel
theorem dX10_goesAlong_222 : decode cX10_goesAlong 222 = .ok (.aload_n 0, 1) := by decide +kernel
theorem dX10_goesAlong_223 : decode cX10_goesAlong 223 = .ok (.getfield 287, 3) := by decide +kernel
theorem dX10_goesAlong_226 : decode cX10_goesAlong 226 = .ok (.ifCond .ne 7, 3) := by decide +kernel
theorem dX10_goesAlong_229 : decode cX10_goesAlong 229 = .ok (.iconst 1, 1) := by decide +kernel
theorem dX10_goesAlong_230 : decode cX10_goesAlong 230 = .ok (.goto 4, 3) := by decide +kernel
theorem dX10_goesAlong_233 : decode cX10_goesAlong 233 = .ok (.iconst 0, 1) := by decide +kernel
theorem dX10_goesAlong_234 : decode cX10_goesAlong 234 = .ok (.putfield 464, 3) := by decide +kernel
theorem dX10_goesAlong_237 : decode cX10_goesAlong 237 = .ok (.aload_n 0, 1) := by decide +kernel
theorem dX10_goesAlong_238 : decode cX10_goesAlong 238 = .ok (.dup, 1) := by decide +kernel
theorem dX10_goesAlong_239 : decode cX10_goesAlong 239 = .ok (.getfield 277, 3) := by decide +kernel
theorem dX10_goesAlong_242 : decode cX10_goesAlong 242 = .ok (.iconst 1, 1) := by decide +kernel
theorem dX10_goesAlong_243 : decode cX10_goesAlong 243 = .ok (.iadd, 1) := by decide +kernel
theorem dX10_goesAlong_244 : decode cX10_goesAlong 244 = .ok (.putfield 277, 3) := by decide +kernel
theorem dX10_goesAlong_247 : decode cX10_goesAlong 247 = .ok (.return_, 1) := by decide +kernel
theorem dX10_small_0 : decode cX10_small 0 = .ok (.lload_n 0, 1) := by decide +kernel
theorem dX10_small_1 : decode cX10_small 1 = .ok (.lconst 0, 1) := by decide +kernel
theorem dX10_small_2 : decode cX10_small 2 = .ok (.lcmp, 1) := by decide +kernel
theorem dX10_small_3 : decode cX10_small 3 = .ok (.ifCond .lt 11, 3) := by decide +kernel
theorem dX10_small_6 : decode cX10_small 6 = .ok (.lload_n 0, 1) := by decide +kernel
theorem dX10_small_7 : decode cX10_small 7 = .ok (.ldc2_w 467, 3) := by decide +kernel
theorem dX10_small_10 : decode cX10_small 10 = .ok (.lcmp, 1) := by decide +kernel
theorem dX10_small_11 : decode cX10_small 11 = .ok (.ifCond .le 7, 3) := by decide +kernel
theorem dX10_small_14 : decode cX10_small 14 = .ok (.iconst (-1), 1) := by decide +kernel
theorem dX10_small_15 : decode cX10_small 15 = .ok (.goto 5, 3) := by decide +kernel
theorem dX10_small_18 : decode cX10_small 18 = .ok (.lload_n 0, 1) := by decide +kernel
theorem dX10_small_19 : decode cX10_small 19 = .ok (.l2i, 1) := by decide +kernel
theorem dX10_small_20 : decode cX10_small 20 = .ok (.ireturn, 1) := by decide +kernel
theorem dX10_obeys_0 : decode cX10_obeys 0 = .ok (.aload_n 0, 1) := by decide +kernel
theorem dX10_obeys_1 : decode cX10_obeys 1 = .ok (.getfield 94, 3) := by decide +kernel
theorem dX10_obeys_4 : decode cX10_obeys 4 = .ok (.iconst 0, 1) := by decide +kernel
theorem dX10_obeys_5 : decode cX10_obeys 5 = .ok (.laload, 1) := by decide +kernel
theorem dX10_obeys_6 : decode cX10_obeys 6 = .ok (.invokestatic 469, 3) := by decide +kernel
theorem dX10_obeys_9 : decode cX10_obeys 9 = .ok (.istore_n 1, 1) := by decide +kernel
theorem dX10_obeys_10 : decode cX10_obeys 10 = .ok (.aload_n 0, 1) := by decide +kernel
theorem dX10_obeys_11 : decode cX10_obeys 11 = .ok (.getfield 455, 3) := by decide +kernel
theorem dX10_obeys_14 : decode cX10_obeys 14 = .ok (.tableswitch 74 21 24 #[30, 36, 74, 51], 30) := by decide +kernel
theorem dX10_obeys_44 : decode cX10_obeys 44 = .ok (.aload_n 0, 1) := by decide +kernel
theorem dX10_obeys_45 : decode cX10_obeys 45 = .ok (.iload_n 1, 1) := by decide +kernel
theorem dX10_obeys_46 : decode cX10_obeys 46 = .ok (.invokevirtual 363, 3) := by decide +kernel
theorem dX10_obeys_49 : decode cX10_obeys 49 = .ok (.ireturn, 1) := by decide +kernel
theorem dX10_obeys_50 : decode cX10_obeys 50 = .ok (.aload_n 0, 1) := by decide +kernel
theorem dX10_obeys_51 : decode cX10_obeys 51 = .ok (.iload_n 1, 1) := by decide +kernel
theorem dX10_obeys_52 : decode cX10_obeys 52 = .ok (.aload_n 0, 1) := by decide +kernel
theorem dX10_obeys_53 : decode cX10_obeys 53 = .ok (.getfield 94, 3) := by decide +kernel
theorem dX10_obeys_56 : decode cX10_obeys 56 = .ok (.iconst 1, 1) := by decide +kernel
theorem dX10_obeys_57 : decode cX10_obeys 57 = .ok (.laload, 1) := by decide +kernel
theorem dX10_obeys_58 : decode cX10_obeys 58 = .ok (.invokestatic 469, 3) := by decide +kernel
theorem dX10_obeys_61 : decode cX10_obeys 61 = .ok (.invokevirtual 366, 3) := by decide +kernel
theorem dX10_obeys_64 : decode cX10_obeys 64 = .ok (.ireturn, 1) := by decide +kernel
theorem dX10_obeys_65 : decode cX10_obeys 65 = .ok (.aload_n 0, 1) := by decide +kernel
theorem dX10_obeys_66 : decode cX10_obeys 66 = .ok (.invokevirtual 369, 3) := by decide +kernel
theorem dX10_obeys_69 : decode cX10_obeys 69 = .ok (.istore_n 2, 1) := by decide +kernel
theorem dX10_obeys_70 : decode cX10_obeys 70 = .ok (.aload_n 0, 1) := by decide +kernel
theorem dX10_obeys_71 : decode cX10_obeys 71 = .ok (.iload_n 2, 1) := by decide +kernel
theorem dX10_obeys_72 : decode cX10_obeys 72 = .ok (.ifCond .ge 10, 3) := by decide +kernel
theorem dX10_obeys_75 : decode cX10_obeys 75 = .ok (.aload_n 0, 1) := by decide +kernel
theorem dX10_obeys_76 : decode cX10_obeys 76 = .ok (.getfield 319, 3) := by decide +kernel
theorem dX10_obeys_79 : decode cX10_obeys 79 = .ok (.goto 4, 3) := by decide +kernel
theorem dX10_obeys_82 : decode cX10_obeys 82 = .ok (.iload_n 2, 1) := by decide +kernel
theorem dX10_obeys_83 : decode cX10_obeys 83 = .ok (.putfield 319, 3) := by decide +kernel
theorem dX10_obeys_86 : decode cX10_obeys 86 = .ok (.iload_n 2, 1) := by decide +kernel
theorem dX10_obeys_87 : decode cX10_obeys 87 = .ok (.ireturn, 1) := by decide +kernel
theorem dX10_obeys_88 : decode cX10_obeys 88 = .ok (.aload_n 0, 1) := by decide +kernel
theorem dX10_obeys_89 : decode cX10_obeys 89 = .ok (.iload_n 1, 1) := by decide +kernel
theorem dX10_obeys_90 : decode cX10_obeys 90 = .ok (.invokevirtual 357, 3) := by decide +kernel
theorem dX10_obeys_93 : decode cX10_obeys 93 = .ok (.ireturn, 1) := by decide +kernel
theorem dX10_runs_0 : decode cX10_runs 0 = .ok (.aload_n 0, 1) := by decide +kernel
theorem dX10_runs_1 : decode cX10_runs 1 = .ok (.iload_n 1, 1) := by decide +kernel
theorem dX10_runs_2 : decode cX10_runs 2 = .ok (.iconst 0, 1) := by decide +kernel
theorem dX10_runs_3 : decode cX10_runs 3 = .ok (.invokevirtual 473, 3) := by decide +kernel
theorem dX10_runs_6 : decode cX10_runs 6 = .ok (.aload_n 0, 1) := by decide +kernel
theorem dX10_runs_7 : decode cX10_runs 7 = .ok (.getfield 461, 3) := by decide +kernel
theorem dX10_runs_10 : decode cX10_runs 10 = .ok (.istore_n 2, 1) := by decide +kernel
theorem dX10_runs_11 : decode cX10_runs 11 = .ok (.aload_n 0, 1) := by decide +kernel
theorem dX10_runs_12 : decode cX10_runs 12 = .ok (.getfield 277, 3) := by decide +kernel
theorem dX10_runs_15 : decode cX10_runs 15 = .ok (.istore_n 3, 1) := by decide +kernel
theorem dX10_runs_16 : decode cX10_runs 16 = .ok (.iconst 0, 1) := by decide +kernel
theorem dX10_runs_17 : decode cX10_runs 17 = .ok (.istore 4, 2) := by decide +kernel
theorem dX10_runs_19 : decode cX10_runs 19 = .ok (.iload 4, 2) := by decide +kernel
theorem dX10_runs_21 : decode cX10_runs 21 = .ok (.iload_n 2, 1) := by decide +kernel
theorem dX10_runs_22 : decode cX10_runs 22 = .ok (.if_icmp .ge 51, 3) := by decide +kernel
theorem dX10_runs_25 : decode cX10_runs 25 = .ok (.aload_n 0, 1) := by decide +kernel
theorem dX10_runs_26 : decode cX10_runs 26 = .ok (.iload_n 1, 1) := by decide +kernel
theorem dX10_runs_27 : decode cX10_runs 27 = .ok (.iconst 1, 1) := by decide +kernel
theorem dX10_runs_28 : decode cX10_runs 28 = .ok (.invokevirtual 473, 3) := by decide +kernel
theorem dX10_runs_31 : decode cX10_runs 31 = .ok (.aload_n 0, 1) := by decide +kernel
theorem dX10_runs_32 : decode cX10_runs 32 = .ok (.getfield 464, 3) := by decide +kernel
theorem dX10_runs_35 : decode cX10_runs 35 = .ok (.ifCond .ne 6, 3) := by decide +kernel
theorem dX10_runs_38 : decode cX10_runs 38 = .ok (.goto 29, 3) := by decide +kernel
theorem dX10_runs_41 : decode cX10_runs 41 = .ok (.aload_n 0, 1) := by decide +kernel
theorem dX10_runs_42 : decode cX10_runs 42 = .ok (.getfield 458, 3) := by decide +kernel
theorem dX10_runs_45 : decode cX10_runs 45 = .ok (.ifCond .eq 10, 3) := by decide +kernel
theorem dX10_runs_48 : decode cX10_runs 48 = .ok (.aload_n 0, 1) := by decide +kernel
theorem dX10_runs_49 : decode cX10_runs 49 = .ok (.invokevirtual 477, 3) := by decide +kernel
theorem dX10_runs_52 : decode cX10_runs 52 = .ok (.ifCond .ge 5, 3) := by decide +kernel
theorem dX10_runs_55 : decode cX10_runs 55 = .ok (.iconst 0, 1) := by decide +kernel
theorem dX10_runs_56 : decode cX10_runs 56 = .ok (.ireturn, 1) := by decide +kernel
theorem dX10_runs_57 : decode cX10_runs 57 = .ok (.aload_n 0, 1) := by decide +kernel
theorem dX10_runs_58 : decode cX10_runs 58 = .ok (.dup, 1) := by decide +kernel
theorem dX10_runs_59 : decode cX10_runs 59 = .ok (.getfield 316, 3) := by decide +kernel
theorem dX10_runs_62 : decode cX10_runs 62 = .ok (.iconst 1, 1) := by decide +kernel
theorem dX10_runs_63 : decode cX10_runs 63 = .ok (.iadd, 1) := by decide +kernel
theorem dX10_runs_64 : decode cX10_runs 64 = .ok (.putfield 316, 3) := by decide +kernel
theorem dX10_runs_67 : decode cX10_runs 67 = .ok (.iinc 4 1, 3) := by decide +kernel
theorem dX10_runs_70 : decode cX10_runs 70 = .ok (.goto (-51), 3) := by decide +kernel
theorem dX10_runs_73 : decode cX10_runs 73 = .ok (.aload_n 0, 1) := by decide +kernel
theorem dX10_runs_74 : decode cX10_runs 74 = .ok (.iload_n 3, 1) := by decide +kernel
theorem dX10_runs_75 : decode cX10_runs 75 = .ok (.putfield 449, 3) := by decide +kernel
theorem dX10_runs_78 : decode cX10_runs 78 = .ok (.iconst 1, 1) := by decide +kernel
theorem dX10_runs_79 : decode cX10_runs 79 = .ok (.ireturn, 1) := by decide +kernel
theorem dX10_draws_0 : decode cX10_draws 0 = .ok (.aload_n 0, 1) := by decide +kernel
theorem dX10_draws_1 : decode cX10_draws 1 = .ok (.ldc2_w 480, 3) := by decide +kernel
theorem dX10_draws_4 : decode cX10_draws 4 = .ok (.aload_n 0, 1) := by decide +kernel
theorem dX10_draws_5 : decode cX10_draws 5 = .ok (.getfield 482, 3) := by decide +kernel
theorem dX10_draws_8 : decode cX10_draws 8 = .ok (.i2l, 1) := by decide +kernel
theorem dX10_draws_9 : decode cX10_draws 9 = .ok (.lmul, 1) := by decide +kernel
theorem dX10_draws_10 : decode cX10_draws 10 = .ok (.ldc2_w 485, 3) := by decide +kernel
theorem dX10_draws_13 : decode cX10_draws 13 = .ok (.ladd, 1) := by decide +kernel
theorem dX10_draws_14 : decode cX10_draws 14 = .ok (.ldc2_w 487, 3) := by decide +kernel
theorem dX10_draws_17 : decode cX10_draws 17 = .ok (.lrem, 1) := by decide +kernel
theorem dX10_draws_18 : decode cX10_draws 18 = .ok (.l2i, 1) := by decide +kernel
theorem dX10_draws_19 : decode cX10_draws 19 = .ok (.putfield 482, 3) := by decide +kernel
theorem dX10_draws_22 : decode cX10_draws 22 = .ok (.aload_n 0, 1) := by decide +kernel
theorem dX10_draws_23 : decode cX10_draws 23 = .ok (.getfield 482, 3) := by decide +kernel
theorem dX10_draws_26 : decode cX10_draws 26 = .ok (.iload_n 1, 1) := by decide +kernel
theorem dX10_draws_27 : decode cX10_draws 27 = .ok (.irem, 1) := by decide +kernel
theorem dX10_draws_28 : decode cX10_draws 28 = .ok (.ireturn, 1) := by decide +kernel
theorem dX10_drawnAct_0 : decode cX10_drawnAct 0 = .ok (.aload_n 0, 1) := by decide +kernel
theorem dX10_drawnAct_1 : decode cX10_drawnAct 1 = .ok (.aload_n 0, 1) := by decide +kernel
theorem dX10_drawnAct_2 : decode cX10_drawnAct 2 = .ok (.invokevirtual 109, 3) := by decide +kernel
theorem dX10_drawnAct_5 : decode cX10_drawnAct 5 = .ok (.invokevirtual 489, 3) := by decide +kernel
theorem dX10_drawnAct_8 : decode cX10_drawnAct 8 = .ok (.istore_n 1, 1) := by decide +kernel
theorem dX10_drawnAct_9 : decode cX10_drawnAct 9 = .ok (.aload_n 0, 1) := by decide +kernel
theorem dX10_drawnAct_10 : decode cX10_drawnAct 10 = .ok (.bipush 10, 2) := by decide +kernel
theorem dX10_drawnAct_12 : decode cX10_drawnAct 12 = .ok (.invokevirtual 489, 3) := by decide +kernel
theorem dX10_drawnAct_15 : decode cX10_drawnAct 15 = .ok (.istore_n 2, 1) := by decide +kernel
theorem dX10_drawnAct_16 : decode cX10_drawnAct 16 = .ok (.aload_n 0, 1) := by decide +kernel
theorem dX10_drawnAct_17 : decode cX10_drawnAct 17 = .ok (.iconst 4, 1) := by decide +kernel
theorem dX10_drawnAct_18 : decode cX10_drawnAct 18 = .ok (.invokevirtual 489, 3) := by decide +kernel
theorem dX10_drawnAct_21 : decode cX10_drawnAct 21 = .ok (.tableswitch 62 0 2 #[27, 35, 50], 27) := by decide +kernel
theorem dX10_drawnAct_48 : decode cX10_drawnAct 48 = .ok (.aload_n 0, 1) := by decide +kernel
theorem dX10_drawnAct_49 : decode cX10_drawnAct 49 = .ok (.iload_n 1, 1) := by decide +kernel
theorem dX10_drawnAct_50 : decode cX10_drawnAct 50 = .ok (.invokevirtual 351, 3) := by decide +kernel
theorem dX10_drawnAct_53 : decode cX10_drawnAct 53 = .ok (.goto 30, 3) := by decide +kernel
theorem dX10_drawnAct_56 : decode cX10_drawnAct 56 = .ok (.aload_n 0, 1) := by decide +kernel
theorem dX10_drawnAct_57 : decode cX10_drawnAct 57 = .ok (.getfield 28, 3) := by decide +kernel
theorem dX10_drawnAct_60 : decode cX10_drawnAct 60 = .ok (.iconst 0, 1) := by decide +kernel
theorem dX10_drawnAct_61 : decode cX10_drawnAct 61 = .ok (.dup2, 1) := by decide +kernel
theorem dX10_drawnAct_62 : decode cX10_drawnAct 62 = .ok (.iaload, 1) := by decide +kernel
theorem dX10_drawnAct_63 : decode cX10_drawnAct 63 = .ok (.iconst 1, 1) := by decide +kernel
theorem dX10_drawnAct_64 : decode cX10_drawnAct 64 = .ok (.iload_n 1, 1) := by decide +kernel
theorem dX10_drawnAct_65 : decode cX10_drawnAct 65 = .ok (.ishl, 1) := by decide +kernel
theorem dX10_drawnAct_66 : decode cX10_drawnAct 66 = .ok (.ior, 1) := by decide +kernel
theorem dX10_drawnAct_67 : decode cX10_drawnAct 67 = .ok (.iastore, 1) := by decide +kernel
theorem dX10_drawnAct_68 : decode cX10_drawnAct 68 = .ok (.goto 15, 3) := by decide +kernel
theorem dX10_drawnAct_71 : decode cX10_drawnAct 71 = .ok (.aload_n 0, 1) := by decide +kernel
theorem dX10_drawnAct_72 : decode cX10_drawnAct 72 = .ok (.getfield 28, 3) := by decide +kernel
theorem dX10_drawnAct_75 : decode cX10_drawnAct 75 = .ok (.iconst 1, 1) := by decide +kernel
theorem dX10_drawnAct_76 : decode cX10_drawnAct 76 = .ok (.iload_n 1, 1) := by decide +kernel
theorem dX10_drawnAct_77 : decode cX10_drawnAct 77 = .ok (.iadd, 1) := by decide +kernel
theorem dX10_drawnAct_78 : decode cX10_drawnAct 78 = .ok (.iload_n 2, 1) := by decide +kernel
theorem dX10_drawnAct_79 : decode cX10_drawnAct 79 = .ok (.iastore, 1) := by decide +kernel
theorem dX10_drawnAct_80 : decode cX10_drawnAct 80 = .ok (.goto 3, 3) := by decide +kernel
theorem dX10_drawnAct_83 : decode cX10_drawnAct 83 = .ok (.return_, 1) := by decide +kernel
theorem dX10_councils_0 : decode cX10_councils 0 = .ok (.iload_n 1, 1) := by decide +kernel
theorem dX10_councils_1 : decode cX10_councils 1 = .ok (.iconst 0, 1) := by decide +kernel
theorem dX10_councils_2 : decode cX10_councils 2 = .ok (.ldc 186, 2) := by decide +kernel
theorem dX10_councils_4 : decode cX10_councils 4 = .ok (.invokestatic 18, 3) := by decide +kernel
theorem dX10_councils_7 : decode cX10_councils 7 = .ok (.ifCond .eq 13, 3) := by decide +kernel
theorem dX10_councils_10 : decode cX10_councils 10 = .ok (.iload_n 2, 1) := by decide +kernel
theorem dX10_councils_11 : decode cX10_councils 11 = .ok (.iconst 1, 1) := by decide +kernel
theorem dX10_councils_12 : decode cX10_councils 12 = .ok (.bipush 60, 2) := by decide +kernel
theorem dX10_councils_14 : decode cX10_councils 14 = .ok (.invokestatic 18, 3) := by decide +kernel
theorem dX10_councils_17 : decode cX10_councils 17 = .ok (.ifCond .ne 9, 3) := by decide +kernel
theorem dX10_councils_20 : decode cX10_councils 20 = .ok (.aload_n 0, 1) := by decide +kernel
theorem dX10_councils_21 : decode cX10_councils 21 = .ok (.iconst (-1), 1) := by decide +kernel
theorem dX10_councils_22 : decode cX10_councils 22 = .ok (.invokevirtual 103, 3) := by decide +kernel
theorem dX10_councils_25 : decode cX10_councils 25 = .ok (.ireturn, 1) := by decide +kernel
theorem dX10_councils_26 : decode cX10_councils 26 = .ok (.aload_n 0, 1) := by decide +kernel
theorem dX10_councils_27 : decode cX10_councils 27 = .ok (.invokevirtual 109, 3) := by decide +kernel
theorem dX10_councils_30 : decode cX10_councils 30 = .ok (.ifCond .ne 10, 3) := by decide +kernel
theorem dX10_councils_33 : decode cX10_councils 33 = .ok (.aload_n 0, 1) := by decide +kernel
theorem dX10_councils_34 : decode cX10_councils 34 = .ok (.bipush (-3), 2) := by decide +kernel
theorem dX10_councils_36 : decode cX10_councils 36 = .ok (.invokevirtual 103, 3) := by decide +kernel
theorem dX10_councils_39 : decode cX10_councils 39 = .ok (.ireturn, 1) := by decide +kernel
theorem dX10_councils_40 : decode cX10_councils 40 = .ok (.aload_n 0, 1) := by decide +kernel
theorem dX10_councils_41 : decode cX10_councils 41 = .ok (.iload_n 1, 1) := by decide +kernel
theorem dX10_councils_42 : decode cX10_councils 42 = .ok (.putfield 482, 3) := by decide +kernel
theorem dX10_councils_45 : decode cX10_councils 45 = .ok (.aload_n 0, 1) := by decide +kernel
theorem dX10_councils_46 : decode cX10_councils 46 = .ok (.aload_n 0, 1) := by decide +kernel
theorem dX10_councils_47 : decode cX10_councils 47 = .ok (.invokevirtual 109, 3) := by decide +kernel
theorem dX10_councils_50 : decode cX10_councils 50 = .ok (.putfield 100, 3) := by decide +kernel
theorem dX10_councils_53 : decode cX10_councils 53 = .ok (.aload_n 0, 1) := by decide +kernel
theorem dX10_councils_54 : decode cX10_councils 54 = .ok (.iconst 0, 1) := by decide +kernel
theorem dX10_councils_55 : decode cX10_councils 55 = .ok (.invokevirtual 372, 3) := by decide +kernel
theorem dX10_councils_58 : decode cX10_councils 58 = .ok (.iconst 0, 1) := by decide +kernel
theorem dX10_councils_59 : decode cX10_councils 59 = .ok (.istore_n 3, 1) := by decide +kernel
theorem dX10_councils_60 : decode cX10_councils 60 = .ok (.iload_n 3, 1) := by decide +kernel
theorem dX10_councils_61 : decode cX10_councils 61 = .ok (.iload_n 2, 1) := by decide +kernel
theorem dX10_councils_62 : decode cX10_councils 62 = .ok (.if_icmp .ge 32, 3) := by decide +kernel
theorem dX10_councils_65 : decode cX10_councils 65 = .ok (.aload_n 0, 1) := by decide +kernel
theorem dX10_councils_66 : decode cX10_councils 66 = .ok (.getfield 28, 3) := by decide +kernel
theorem dX10_councils_69 : decode cX10_councils 69 = .ok (.bipush 17, 2) := by decide +kernel
theorem dX10_councils_71 : decode cX10_councils 71 = .ok (.iaload, 1) := by decide +kernel
theorem dX10_councils_72 : decode cX10_councils 72 = .ok (.sipush 999, 3) := by decide +kernel
theorem dX10_councils_75 : decode cX10_councils 75 = .ok (.if_icmp .ge 19, 3) := by decide +kernel
theorem dX10_councils_78 : decode cX10_councils 78 = .ok (.aload_n 0, 1) := by decide +kernel
theorem dX10_councils_79 : decode cX10_councils 79 = .ok (.invokevirtual 492, 3) := by decide +kernel
theorem dX10_councils_82 : decode cX10_councils 82 = .ok (.aload_n 0, 1) := by decide +kernel
theorem dX10_councils_83 : decode cX10_councils 83 = .ok (.iconst 0, 1) := by decide +kernel
theorem dX10_councils_84 : decode cX10_councils 84 = .ok (.invokevirtual 354, 3) := by decide +kernel
theorem dX10_councils_87 : decode cX10_councils 87 = .ok (.pop, 1) := by decide +kernel
theorem dX10_councils_88 : decode cX10_councils 88 = .ok (.iinc 3 1, 3) := by decide +kernel
theorem dX10_councils_91 : decode cX10_councils 91 = .ok (.goto (-31), 3) := by decide +kernel
theorem dX10_councils_94 : decode cX10_councils 94 = .ok (.aload_n 0, 1) := by decide +kernel
theorem dX10_councils_95 : decode cX10_councils 95 = .ok (.getfield 28, 3) := by decide +kernel
theorem dX10_councils_98 : decode cX10_councils 98 = .ok (.iconst 0, 1) := by decide +kernel
theorem dX10_councils_99 : decode cX10_councils 99 = .ok (.iaload, 1) := by decide +kernel
