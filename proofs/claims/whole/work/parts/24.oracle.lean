theorem dX6_takeAllBut_0 : decode cX6_takeAllBut 0 = .ok (.iconst 0, 1) := by decide +kernel
theorem dX6_takeAllBut_1 : decode cX6_takeAllBut 1 = .ok (.istore_n 2, 1) := by decide +kernel
theorem dX6_takeAllBut_2 : decode cX6_takeAllBut 2 = .ok (.iload_n 2, 1) := by decide +kernel
theorem dX6_takeAllBut_3 : decode cX6_takeAllBut 3 = .ok (.aload_n 0, 1) := by decide +kernel
theorem dX6_takeAllBut_4 : decode cX6_takeAllBut 4 = .ok (.getfield 18, 3) := by decide +kernel
theorem dX6_takeAllBut_7 : decode cX6_takeAllBut 7 = .ok (.getfield 83, 3) := by decide +kernel
theorem dX6_takeAllBut_10 : decode cX6_takeAllBut 10 = .ok (.if_icmp .ge 23, 3) := by decide +kernel
theorem dX6_takeAllBut_13 : decode cX6_takeAllBut 13 = .ok (.iload_n 2, 1) := by decide +kernel
theorem dX6_takeAllBut_14 : decode cX6_takeAllBut 14 = .ok (.iload_n 1, 1) := by decide +kernel
theorem dX6_takeAllBut_15 : decode cX6_takeAllBut 15 = .ok (.if_icmp .eq 12, 3) := by decide +kernel
theorem dX6_takeAllBut_18 : decode cX6_takeAllBut 18 = .ok (.aload_n 0, 1) := by decide +kernel
theorem dX6_takeAllBut_19 : decode cX6_takeAllBut 19 = .ok (.getfield 22, 3) := by decide +kernel
theorem dX6_takeAllBut_22 : decode cX6_takeAllBut 22 = .ok (.iload_n 2, 1) := by decide +kernel
theorem dX6_takeAllBut_23 : decode cX6_takeAllBut 23 = .ok (.iconst (-1), 1) := by decide +kernel
theorem dX6_takeAllBut_24 : decode cX6_takeAllBut 24 = .ok (.invokevirtual 37, 3) := by decide +kernel
theorem dX6_takeAllBut_27 : decode cX6_takeAllBut 27 = .ok (.iinc 2 1, 3) := by decide +kernel
theorem dX6_takeAllBut_30 : decode cX6_takeAllBut 30 = .ok (.goto (-28), 3) := by decide +kernel
theorem dX6_takeAllBut_33 : decode cX6_takeAllBut 33 = .ok (.return_, 1) := by decide +kernel
theorem dJ7_fill_d0a16_0 : decode cJ7_fill_d0a16 0 = .ok (.iconst 0, 1) := by decide +kernel
theorem dJ7_fill_d0a16_1 : decode cJ7_fill_d0a16 1 = .ok (.istore_n 3, 1) := by decide +kernel
theorem dJ7_fill_d0a16_2 : decode cJ7_fill_d0a16 2 = .ok (.aload_n 0, 1) := by decide +kernel
theorem dJ7_fill_d0a16_3 : decode cJ7_fill_d0a16 3 = .ok (.arraylength, 1) := by decide +kernel
theorem dJ7_fill_d0a16_4 : decode cJ7_fill_d0a16 4 = .ok (.istore 4, 2) := by decide +kernel
theorem dJ7_fill_d0a16_6 : decode cJ7_fill_d0a16 6 = .ok (.iload_n 3, 1) := by decide +kernel
theorem dJ7_fill_d0a16_7 : decode cJ7_fill_d0a16 7 = .ok (.iload 4, 2) := by decide +kernel
theorem dJ7_fill_d0a16_9 : decode cJ7_fill_d0a16 9 = .ok (.if_icmp .ge 13, 3) := by decide +kernel
theorem dJ7_fill_d0a16_12 : decode cJ7_fill_d0a16 12 = .ok (.aload_n 0, 1) := by decide +kernel
theorem dJ7_fill_d0a16_13 : decode cJ7_fill_d0a16 13 = .ok (.iload_n 3, 1) := by decide +kernel
theorem dJ7_fill_d0a16_14 : decode cJ7_fill_d0a16 14 = .ok (.lload_n 1, 1) := by decide +kernel
theorem dJ7_fill_d0a16_15 : decode cJ7_fill_d0a16 15 = .ok (.lastore, 1) := by decide +kernel
theorem dJ7_fill_d0a16_16 : decode cJ7_fill_d0a16 16 = .ok (.iinc 3 1, 3) := by decide +kernel
theorem dJ7_fill_d0a16_19 : decode cJ7_fill_d0a16 19 = .ok (.goto (-13), 3) := by decide +kernel
theorem dJ7_fill_d0a16_22 : decode cJ7_fill_d0a16 22 = .ok (.return_, 1) := by decide +kernel
theorem dX6_addSet_0 : decode cX6_addSet 0 = .ok (.aload_n 0, 1) := by decide +kernel
theorem dX6_addSet_1 : decode cX6_addSet 1 = .ok (.getfield 15, 3) := by decide +kernel
theorem dX6_addSet_4 : decode cX6_addSet 4 = .ok (.lconst 0, 1) := by decide +kernel
theorem dX6_addSet_5 : decode cX6_addSet 5 = .ok (.invokestatic 123, 3) := by decide +kernel
theorem dX6_addSet_8 : decode cX6_addSet 8 = .ok (.iconst 0, 1) := by decide +kernel
theorem dX6_addSet_9 : decode cX6_addSet 9 = .ok (.istore_n 2, 1) := by decide +kernel
theorem dX6_addSet_10 : decode cX6_addSet 10 = .ok (.iload_n 2, 1) := by decide +kernel
theorem dX6_addSet_11 : decode cX6_addSet 11 = .ok (.bipush 16, 2) := by decide +kernel
theorem dX6_addSet_13 : decode cX6_addSet 13 = .ok (.if_icmp .gt 80, 3) := by decide +kernel
theorem dX6_addSet_16 : decode cX6_addSet 16 = .ok (.iload_n 1, 1) := by decide +kernel
theorem dX6_addSet_17 : decode cX6_addSet 17 = .ok (.iload_n 2, 1) := by decide +kernel
theorem dX6_addSet_18 : decode cX6_addSet 18 = .ok (.ishr, 1) := by decide +kernel
theorem dX6_addSet_19 : decode cX6_addSet 19 = .ok (.iconst 1, 1) := by decide +kernel
theorem dX6_addSet_20 : decode cX6_addSet 20 = .ok (.iand, 1) := by decide +kernel
theorem dX6_addSet_21 : decode cX6_addSet 21 = .ok (.ifCond .ne 6, 3) := by decide +kernel
theorem dX6_addSet_24 : decode cX6_addSet 24 = .ok (.goto 63, 3) := by decide +kernel
theorem dX6_addSet_27 : decode cX6_addSet 27 = .ok (.iconst 0, 1) := by decide +kernel
theorem dX6_addSet_28 : decode cX6_addSet 28 = .ok (.istore_n 3, 1) := by decide +kernel
theorem dX6_addSet_29 : decode cX6_addSet 29 = .ok (.iload_n 3, 1) := by decide +kernel
theorem dX6_addSet_30 : decode cX6_addSet 30 = .ok (.iconst 3, 1) := by decide +kernel
theorem dX6_addSet_31 : decode cX6_addSet 31 = .ok (.if_icmp .ge 56, 3) := by decide +kernel
theorem dX6_addSet_34 : decode cX6_addSet 34 = .ok (.aload_n 0, 1) := by decide +kernel
theorem dX6_addSet_35 : decode cX6_addSet 35 = .ok (.getfield 15, 3) := by decide +kernel
theorem dX6_addSet_38 : decode cX6_addSet 38 = .ok (.iload_n 3, 1) := by decide +kernel
theorem dX6_addSet_39 : decode cX6_addSet 39 = .ok (.dup2, 1) := by decide +kernel
theorem dX6_addSet_40 : decode cX6_addSet 40 = .ok (.laload, 1) := by decide +kernel
theorem dX6_addSet_41 : decode cX6_addSet 41 = .ok (.aload_n 0, 1) := by decide +kernel
theorem dX6_addSet_42 : decode cX6_addSet 42 = .ok (.getfield 11, 3) := by decide +kernel
theorem dX6_addSet_45 : decode cX6_addSet 45 = .ok (.iload_n 3, 1) := by decide +kernel
theorem dX6_addSet_46 : decode cX6_addSet 46 = .ok (.laload, 1) := by decide +kernel
theorem dX6_addSet_47 : decode cX6_addSet 47 = .ok (.iload_n 2, 1) := by decide +kernel
theorem dX6_addSet_48 : decode cX6_addSet 48 = .ok (.lshl, 1) := by decide +kernel
theorem dX6_addSet_49 : decode cX6_addSet 49 = .ok (.lor, 1) := by decide +kernel
theorem dX6_addSet_50 : decode cX6_addSet 50 = .ok (.lastore, 1) := by decide +kernel
theorem dX6_addSet_51 : decode cX6_addSet 51 = .ok (.iload_n 3, 1) := by decide +kernel
theorem dX6_addSet_52 : decode cX6_addSet 52 = .ok (.ifCond .le 29, 3) := by decide +kernel
theorem dX6_addSet_55 : decode cX6_addSet 55 = .ok (.iload_n 2, 1) := by decide +kernel
theorem dX6_addSet_56 : decode cX6_addSet 56 = .ok (.ifCond .le 25, 3) := by decide +kernel
theorem dX6_addSet_59 : decode cX6_addSet 59 = .ok (.aload_n 0, 1) := by decide +kernel
theorem dX6_addSet_60 : decode cX6_addSet 60 = .ok (.getfield 15, 3) := by decide +kernel
theorem dX6_addSet_63 : decode cX6_addSet 63 = .ok (.iload_n 3, 1) := by decide +kernel
theorem dX6_addSet_64 : decode cX6_addSet 64 = .ok (.dup2, 1) := by decide +kernel
theorem dX6_addSet_65 : decode cX6_addSet 65 = .ok (.laload, 1) := by decide +kernel
theorem dX6_addSet_66 : decode cX6_addSet 66 = .ok (.aload_n 0, 1) := by decide +kernel
theorem dX6_addSet_67 : decode cX6_addSet 67 = .ok (.getfield 11, 3) := by decide +kernel
theorem dX6_addSet_70 : decode cX6_addSet 70 = .ok (.iload_n 3, 1) := by decide +kernel
theorem dX6_addSet_71 : decode cX6_addSet 71 = .ok (.iconst 1, 1) := by decide +kernel
theorem dX6_addSet_72 : decode cX6_addSet 72 = .ok (.isub, 1) := by decide +kernel
theorem dX6_addSet_73 : decode cX6_addSet 73 = .ok (.laload, 1) := by decide +kernel
theorem dX6_addSet_74 : decode cX6_addSet 74 = .ok (.bipush 64, 2) := by decide +kernel
theorem dX6_addSet_76 : decode cX6_addSet 76 = .ok (.iload_n 2, 1) := by decide +kernel
theorem dX6_addSet_77 : decode cX6_addSet 77 = .ok (.isub, 1) := by decide +kernel
theorem dX6_addSet_78 : decode cX6_addSet 78 = .ok (.lushr, 1) := by decide +kernel
theorem dX6_addSet_79 : decode cX6_addSet 79 = .ok (.lor, 1) := by decide +kernel
theorem dX6_addSet_80 : decode cX6_addSet 80 = .ok (.lastore, 1) := by decide +kernel
theorem dX6_addSet_81 : decode cX6_addSet 81 = .ok (.iinc 3 1, 3) := by decide +kernel
theorem dX6_addSet_84 : decode cX6_addSet 84 = .ok (.goto (-55), 3) := by decide +kernel
theorem dX6_addSet_87 : decode cX6_addSet 87 = .ok (.iinc 2 1, 3) := by decide +kernel
theorem dX6_addSet_90 : decode cX6_addSet 90 = .ok (.goto (-80), 3) := by decide +kernel
theorem dX6_addSet_93 : decode cX6_addSet 93 = .ok (.aload_n 0, 1) := by decide +kernel
theorem dX6_addSet_94 : decode cX6_addSet 94 = .ok (.getfield 15, 3) := by decide +kernel
theorem dX6_addSet_97 : decode cX6_addSet 97 = .ok (.iconst 0, 1) := by decide +kernel
theorem dX6_addSet_98 : decode cX6_addSet 98 = .ok (.aload_n 0, 1) := by decide +kernel
theorem dX6_addSet_99 : decode cX6_addSet 99 = .ok (.getfield 11, 3) := by decide +kernel
theorem dX6_addSet_102 : decode cX6_addSet 102 = .ok (.iconst 0, 1) := by decide +kernel
theorem dX6_addSet_103 : decode cX6_addSet 103 = .ok (.iconst 3, 1) := by decide +kernel
theorem dX6_addSet_104 : decode cX6_addSet 104 = .ok (.invokestatic 129, 3) := by decide +kernel
theorem dX6_addSet_107 : decode cX6_addSet 107 = .ok (.return_, 1) := by decide +kernel
theorem dX6_sumUp_0 : decode cX6_sumUp 0 = .ok (.iconst 0, 1) := by decide +kernel
theorem dX6_sumUp_1 : decode cX6_sumUp 1 = .ok (.istore_n 3, 1) := by decide +kernel
theorem dX6_sumUp_2 : decode cX6_sumUp 2 = .ok (.iload_n 3, 1) := by decide +kernel
theorem dX6_sumUp_3 : decode cX6_sumUp 3 = .ok (.iconst 3, 1) := by decide +kernel
theorem dX6_sumUp_4 : decode cX6_sumUp 4 = .ok (.if_icmp .ge 53, 3) := by decide +kernel
theorem dX6_sumUp_7 : decode cX6_sumUp 7 = .ok (.iload_n 2, 1) := by decide +kernel
theorem dX6_sumUp_8 : decode cX6_sumUp 8 = .ok (.iconst 1, 1) := by decide +kernel
theorem dX6_sumUp_9 : decode cX6_sumUp 9 = .ok (.iadd, 1) := by decide +kernel
theorem dX6_sumUp_10 : decode cX6_sumUp 10 = .ok (.iload_n 3, 1) := by decide +kernel
theorem dX6_sumUp_11 : decode cX6_sumUp 11 = .ok (.bipush 64, 2) := by decide +kernel
theorem dX6_sumUp_13 : decode cX6_sumUp 13 = .ok (.imul, 1) := by decide +kernel
theorem dX6_sumUp_14 : decode cX6_sumUp 14 = .ok (.isub, 1) := by decide +kernel
theorem dX6_sumUp_15 : decode cX6_sumUp 15 = .ok (.istore 4, 2) := by decide +kernel
theorem dX6_sumUp_17 : decode cX6_sumUp 17 = .ok (.aload_n 0, 1) := by decide +kernel
theorem dX6_sumUp_18 : decode cX6_sumUp 18 = .ok (.getfield 11, 3) := by decide +kernel
theorem dX6_sumUp_21 : decode cX6_sumUp 21 = .ok (.iload_n 3, 1) := by decide +kernel
theorem dX6_sumUp_22 : decode cX6_sumUp 22 = .ok (.iload 4, 2) := by decide +kernel
theorem dX6_sumUp_24 : decode cX6_sumUp 24 = .ok (.bipush 64, 2) := by decide +kernel
theorem dX6_sumUp_26 : decode cX6_sumUp 26 = .ok (.if_icmp .lt 9, 3) := by decide +kernel
theorem dX6_sumUp_29 : decode cX6_sumUp 29 = .ok (.ldc2_w 115, 3) := by decide +kernel
theorem dX6_sumUp_32 : decode cX6_sumUp 32 = .ok (.goto 18, 3) := by decide +kernel
theorem dX6_sumUp_35 : decode cX6_sumUp 35 = .ok (.iload 4, 2) := by decide +kernel
theorem dX6_sumUp_37 : decode cX6_sumUp 37 = .ok (.ifCond .le 12, 3) := by decide +kernel
theorem dX6_sumUp_40 : decode cX6_sumUp 40 = .ok (.lconst 1, 1) := by decide +kernel
theorem dX6_sumUp_41 : decode cX6_sumUp 41 = .ok (.iload 4, 2) := by decide +kernel
theorem dX6_sumUp_43 : decode cX6_sumUp 43 = .ok (.lshl, 1) := by decide +kernel
theorem dX6_sumUp_44 : decode cX6_sumUp 44 = .ok (.lconst 1, 1) := by decide +kernel
theorem dX6_sumUp_45 : decode cX6_sumUp 45 = .ok (.lsub, 1) := by decide +kernel
theorem dX6_sumUp_46 : decode cX6_sumUp 46 = .ok (.goto 4, 3) := by decide +kernel
theorem dX6_sumUp_49 : decode cX6_sumUp 49 = .ok (.lconst 0, 1) := by decide +kernel
theorem dX6_sumUp_50 : decode cX6_sumUp 50 = .ok (.lastore, 1) := by decide +kernel
theorem dX6_sumUp_51 : decode cX6_sumUp 51 = .ok (.iinc 3 1, 3) := by decide +kernel
theorem dX6_sumUp_54 : decode cX6_sumUp 54 = .ok (.goto (-52), 3) := by decide +kernel
theorem dX6_sumUp_57 : decode cX6_sumUp 57 = .ok (.iconst 0, 1) := by decide +kernel
theorem dX6_sumUp_58 : decode cX6_sumUp 58 = .ok (.istore_n 3, 1) := by decide +kernel
theorem dX6_sumUp_59 : decode cX6_sumUp 59 = .ok (.iload_n 3, 1) := by decide +kernel
theorem dX6_sumUp_60 : decode cX6_sumUp 60 = .ok (.aload_n 0, 1) := by decide +kernel
theorem dX6_sumUp_61 : decode cX6_sumUp 61 = .ok (.getfield 18, 3) := by decide +kernel
theorem dX6_sumUp_64 : decode cX6_sumUp 64 = .ok (.getfield 83, 3) := by decide +kernel
theorem dX6_sumUp_67 : decode cX6_sumUp 67 = .ok (.if_icmp .ge 40, 3) := by decide +kernel
theorem dX6_sumUp_70 : decode cX6_sumUp 70 = .ok (.iload_n 3, 1) := by decide +kernel
theorem dX6_sumUp_71 : decode cX6_sumUp 71 = .ok (.iload_n 1, 1) := by decide +kernel
theorem dX6_sumUp_72 : decode cX6_sumUp 72 = .ok (.if_icmp .eq 29, 3) := by decide +kernel
theorem dX6_sumUp_75 : decode cX6_sumUp 75 = .ok (.aload_n 0, 1) := by decide +kernel
theorem dX6_sumUp_76 : decode cX6_sumUp 76 = .ok (.getfield 22, 3) := by decide +kernel
theorem dX6_sumUp_79 : decode cX6_sumUp 79 = .ok (.getfield 117, 3) := by decide +kernel
theorem dX6_sumUp_82 : decode cX6_sumUp 82 = .ok (.iload_n 3, 1) := by decide +kernel
theorem dX6_sumUp_83 : decode cX6_sumUp 83 = .ok (.iaload, 1) := by decide +kernel
theorem dX6_sumUp_84 : decode cX6_sumUp 84 = .ok (.iconst 1, 1) := by decide +kernel
theorem dX6_sumUp_85 : decode cX6_sumUp 85 = .ok (.if_icmp .eq 16, 3) := by decide +kernel
theorem dX6_sumUp_88 : decode cX6_sumUp 88 = .ok (.aload_n 0, 1) := by decide +kernel
theorem dX6_sumUp_89 : decode cX6_sumUp 89 = .ok (.aload_n 0, 1) := by decide +kernel
theorem dX6_sumUp_90 : decode cX6_sumUp 90 = .ok (.getfield 22, 3) := by decide +kernel
theorem dX6_sumUp_93 : decode cX6_sumUp 93 = .ok (.getfield 117, 3) := by decide +kernel
theorem dX6_sumUp_96 : decode cX6_sumUp 96 = .ok (.iload_n 3, 1) := by decide +kernel
theorem dX6_sumUp_97 : decode cX6_sumUp 97 = .ok (.iaload, 1) := by decide +kernel
theorem dX6_sumUp_98 : decode cX6_sumUp 98 = .ok (.invokevirtual 120, 3) := by decide +kernel
theorem dX6_sumUp_101 : decode cX6_sumUp 101 = .ok (.iinc 3 1, 3) := by decide +kernel
theorem dX6_sumUp_104 : decode cX6_sumUp 104 = .ok (.goto (-45), 3) := by decide +kernel
theorem dX6_sumUp_107 : decode cX6_sumUp 107 = .ok (.return_, 1) := by decide +kernel
theorem dX6_hasSum_0 : decode cX6_hasSum 0 = .ok (.iload_n 1, 1) := by decide +kernel
theorem dX6_hasSum_1 : decode cX6_hasSum 1 = .ok (.ifCond .lt 35, 3) := by decide +kernel
theorem dX6_hasSum_4 : decode cX6_hasSum 4 = .ok (.iload_n 1, 1) := by decide +kernel
theorem dX6_hasSum_5 : decode cX6_hasSum 5 = .ok (.sipush 144, 3) := by decide +kernel
theorem dX6_hasSum_8 : decode cX6_hasSum 8 = .ok (.if_icmp .gt 28, 3) := by decide +kernel
theorem dX6_hasSum_11 : decode cX6_hasSum 11 = .ok (.aload_n 0, 1) := by decide +kernel
theorem dX6_hasSum_12 : decode cX6_hasSum 12 = .ok (.getfield 11, 3) := by decide +kernel
theorem dX6_hasSum_15 : decode cX6_hasSum 15 = .ok (.iload_n 1, 1) := by decide +kernel
theorem dX6_hasSum_16 : decode cX6_hasSum 16 = .ok (.bipush 64, 2) := by decide +kernel
theorem dX6_hasSum_18 : decode cX6_hasSum 18 = .ok (.idiv, 1) := by decide +kernel
theorem dX6_hasSum_19 : decode cX6_hasSum 19 = .ok (.laload, 1) := by decide +kernel
theorem dX6_hasSum_20 : decode cX6_hasSum 20 = .ok (.iload_n 1, 1) := by decide +kernel
theorem dX6_hasSum_21 : decode cX6_hasSum 21 = .ok (.bipush 64, 2) := by decide +kernel
theorem dX6_hasSum_23 : decode cX6_hasSum 23 = .ok (.irem, 1) := by decide +kernel
theorem dX6_hasSum_24 : decode cX6_hasSum 24 = .ok (.lushr, 1) := by decide +kernel
theorem dX6_hasSum_25 : decode cX6_hasSum 25 = .ok (.lconst 1, 1) := by decide +kernel
theorem dX6_hasSum_26 : decode cX6_hasSum 26 = .ok (.land, 1) := by decide +kernel
theorem dX6_hasSum_27 : decode cX6_hasSum 27 = .ok (.lconst 0, 1) := by decide +kernel
theorem dX6_hasSum_28 : decode cX6_hasSum 28 = .ok (.lcmp, 1) := by decide +kernel
theorem dX6_hasSum_29 : decode cX6_hasSum 29 = .ok (.ifCond .eq 7, 3) := by decide +kernel
theorem dX6_hasSum_32 : decode cX6_hasSum 32 = .ok (.iconst 1, 1) := by decide +kernel
theorem dX6_hasSum_33 : decode cX6_hasSum 33 = .ok (.goto 4, 3) := by decide +kernel
theorem dX6_hasSum_36 : decode cX6_hasSum 36 = .ok (.iconst 0, 1) := by decide +kernel
theorem dX6_hasSum_37 : decode cX6_hasSum 37 = .ok (.ireturn, 1) := by decide +kernel
theorem dX6_fittingSet_0 : decode cX6_fittingSet 0 = .ok (.aload_n 0, 1) := by decide +kernel
theorem dX6_fittingSet_1 : decode cX6_fittingSet 1 = .ok (.iload_n 1, 1) := by decide +kernel
theorem dX6_fittingSet_2 : decode cX6_fittingSet 2 = .ok (.aload_n 0, 1) := by decide +kernel
theorem dX6_fittingSet_3 : decode cX6_fittingSet 3 = .ok (.getfield 18, 3) := by decide +kernel
theorem dX6_fittingSet_6 : decode cX6_fittingSet 6 = .ok (.invokevirtual 57, 3) := by decide +kernel
theorem dX6_fittingSet_9 : decode cX6_fittingSet 9 = .ok (.invokevirtual 61, 3) := by decide +kernel
theorem dX6_fittingSet_12 : decode cX6_fittingSet 12 = .ok (.iconst 0, 1) := by decide +kernel
theorem dX6_fittingSet_13 : decode cX6_fittingSet 13 = .ok (.istore_n 2, 1) := by decide +kernel
theorem dX6_fittingSet_14 : decode cX6_fittingSet 14 = .ok (.iconst 0, 1) := by decide +kernel
theorem dX6_fittingSet_15 : decode cX6_fittingSet 15 = .ok (.istore_n 3, 1) := by decide +kernel
theorem dX6_fittingSet_16 : decode cX6_fittingSet 16 = .ok (.iload_n 3, 1) := by decide +kernel
theorem dX6_fittingSet_17 : decode cX6_fittingSet 17 = .ok (.bipush 16, 2) := by decide +kernel
theorem dX6_fittingSet_19 : decode cX6_fittingSet 19 = .ok (.if_icmp .gt 31, 3) := by decide +kernel
theorem dX6_fittingSet_22 : decode cX6_fittingSet 22 = .ok (.aload_n 0, 1) := by decide +kernel
theorem dX6_fittingSet_23 : decode cX6_fittingSet 23 = .ok (.aload_n 0, 1) := by decide +kernel
theorem dX6_fittingSet_24 : decode cX6_fittingSet 24 = .ok (.getfield 32, 3) := by decide +kernel
theorem dX6_fittingSet_27 : decode cX6_fittingSet 27 = .ok (.invokevirtual 64, 3) := by decide +kernel
theorem dX6_fittingSet_30 : decode cX6_fittingSet 30 = .ok (.iload_n 3, 1) := by decide +kernel
theorem dX6_fittingSet_31 : decode cX6_fittingSet 31 = .ok (.isub, 1) := by decide +kernel
theorem dX6_fittingSet_32 : decode cX6_fittingSet 32 = .ok (.invokevirtual 69, 3) := by decide +kernel
theorem dX6_fittingSet_35 : decode cX6_fittingSet 35 = .ok (.ifCond .eq 9, 3) := by decide +kernel
theorem dX6_fittingSet_38 : decode cX6_fittingSet 38 = .ok (.iload_n 2, 1) := by decide +kernel
theorem dX6_fittingSet_39 : decode cX6_fittingSet 39 = .ok (.iconst 1, 1) := by decide +kernel
theorem dX6_fittingSet_40 : decode cX6_fittingSet 40 = .ok (.iload_n 3, 1) := by decide +kernel
theorem dX6_fittingSet_41 : decode cX6_fittingSet 41 = .ok (.ishl, 1) := by decide +kernel
theorem dX6_fittingSet_42 : decode cX6_fittingSet 42 = .ok (.ior, 1) := by decide +kernel
theorem dX6_fittingSet_43 : decode cX6_fittingSet 43 = .ok (.istore_n 2, 1) := by decide +kernel
theorem dX6_fittingSet_44 : decode cX6_fittingSet 44 = .ok (.iinc 3 1, 3) := by decide +kernel
theorem dX6_fittingSet_47 : decode cX6_fittingSet 47 = .ok (.goto (-31), 3) := by decide +kernel
theorem dX6_fittingSet_50 : decode cX6_fittingSet 50 = .ok (.iload_n 2, 1) := by decide +kernel
theorem dX6_fittingSet_51 : decode cX6_fittingSet 51 = .ok (.ireturn, 1) := by decide +kernel
theorem dX6_isSure_0 : decode cX6_isSure 0 = .ok (.aload_n 0, 1) := by decide +kernel
theorem dX6_isSure_1 : decode cX6_isSure 1 = .ok (.getfield 18, 3) := by decide +kernel
theorem dX6_isSure_4 : decode cX6_isSure 4 = .ok (.getfield 33, 3) := by decide +kernel
theorem dX6_isSure_7 : decode cX6_isSure 7 = .ok (.iload_n 1, 1) := by decide +kernel
theorem dX6_isSure_8 : decode cX6_isSure 8 = .ok (.iaload, 1) := by decide +kernel
theorem dX6_isSure_9 : decode cX6_isSure 9 = .ok (.istore 4, 2) := by decide +kernel
theorem dX6_isSure_11 : decode cX6_isSure 11 = .ok (.iload 4, 2) := by decide +kernel
theorem dX6_isSure_13 : decode cX6_isSure 13 = .ok (.iconst (-1), 1) := by decide +kernel
theorem dX6_isSure_14 : decode cX6_isSure 14 = .ok (.if_icmp .eq 84, 3) := by decide +kernel
theorem dX6_isSure_17 : decode cX6_isSure 17 = .ok (.aload_n 0, 1) := by decide +kernel
theorem dX6_isSure_18 : decode cX6_isSure 18 = .ok (.getfield 22, 3) := by decide +kernel
theorem dX6_isSure_21 : decode cX6_isSure 21 = .ok (.iload 4, 2) := by decide +kernel
theorem dX6_isSure_23 : decode cX6_isSure 23 = .ok (.iconst (-1), 1) := by decide +kernel
theorem dX6_isSure_24 : decode cX6_isSure 24 = .ok (.invokevirtual 37, 3) := by decide +kernel
theorem dX6_isSure_27 : decode cX6_isSure 27 = .ok (.iload_n 2, 1) := by decide +kernel
theorem dX6_isSure_28 : decode cX6_isSure 28 = .ok (.ifCond .eq 15, 3) := by decide +kernel
theorem dX6_isSure_31 : decode cX6_isSure 31 = .ok (.aload_n 0, 1) := by decide +kernel
theorem dX6_isSure_32 : decode cX6_isSure 32 = .ok (.getfield 22, 3) := by decide +kernel
theorem dX6_isSure_35 : decode cX6_isSure 35 = .ok (.getfield 43, 3) := by decide +kernel
theorem dX6_isSure_38 : decode cX6_isSure 38 = .ok (.iload_n 1, 1) := by decide +kernel
theorem dX6_isSure_39 : decode cX6_isSure 39 = .ok (.iaload, 1) := by decide +kernel
theorem dX6_isSure_40 : decode cX6_isSure 40 = .ok (.goto 12, 3) := by decide +kernel
theorem dX6_isSure_43 : decode cX6_isSure 43 = .ok (.aload_n 0, 1) := by decide +kernel
theorem dX6_isSure_44 : decode cX6_isSure 44 = .ok (.getfield 22, 3) := by decide +kernel
theorem dX6_isSure_47 : decode cX6_isSure 47 = .ok (.getfield 46, 3) := by decide +kernel
theorem dX6_isSure_50 : decode cX6_isSure 50 = .ok (.iload_n 1, 1) := by decide +kernel
theorem dX6_isSure_51 : decode cX6_isSure 51 = .ok (.iaload, 1) := by decide +kernel
theorem dX6_isSure_52 : decode cX6_isSure 52 = .ok (.istore 5, 2) := by decide +kernel
theorem dX6_isSure_54 : decode cX6_isSure 54 = .ok (.iload 5, 2) := by decide +kernel
theorem dX6_isSure_56 : decode cX6_isSure 56 = .ok (.ifCond .eq 7, 3) := by decide +kernel
theorem dX6_isSure_59 : decode cX6_isSure 59 = .ok (.iload_n 3, 1) := by decide +kernel
theorem dX6_isSure_60 : decode cX6_isSure 60 = .ok (.ifCond .ne 14, 3) := by decide +kernel
theorem dX6_isSure_63 : decode cX6_isSure 63 = .ok (.iload 5, 2) := by decide +kernel
theorem dX6_isSure_65 : decode cX6_isSure 65 = .ok (.ifCond .ne 7, 3) := by decide +kernel
theorem dX6_isSure_68 : decode cX6_isSure 68 = .ok (.iconst 1, 1) := by decide +kernel
theorem dX6_isSure_69 : decode cX6_isSure 69 = .ok (.goto 4, 3) := by decide +kernel
theorem dX6_isSure_72 : decode cX6_isSure 72 = .ok (.iconst 0, 1) := by decide +kernel
theorem dX6_isSure_73 : decode cX6_isSure 73 = .ok (.ireturn, 1) := by decide +kernel
theorem dX6_isSure_74 : decode cX6_isSure 74 = .ok (.aload_n 0, 1) := by decide +kernel
theorem dX6_isSure_75 : decode cX6_isSure 75 = .ok (.iload 4, 2) := by decide +kernel
theorem dX6_isSure_77 : decode cX6_isSure 77 = .ok (.invokevirtual 49, 3) := by decide +kernel
theorem dX6_isSure_80 : decode cX6_isSure 80 = .ok (.iload 5, 2) := by decide +kernel
theorem dX6_isSure_82 : decode cX6_isSure 82 = .ok (.aload_n 0, 1) := by decide +kernel
theorem dX6_isSure_83 : decode cX6_isSure 83 = .ok (.iload 4, 2) := by decide +kernel
theorem dX6_isSure_85 : decode cX6_isSure 85 = .ok (.invokevirtual 53, 3) := by decide +kernel
theorem dX6_isSure_88 : decode cX6_isSure 88 = .ok (.iand, 1) := by decide +kernel
theorem dX6_isSure_89 : decode cX6_isSure 89 = .ok (.ifCond .ne 7, 3) := by decide +kernel
theorem dX6_isSure_92 : decode cX6_isSure 92 = .ok (.iconst 1, 1) := by decide +kernel
theorem dX6_isSure_93 : decode cX6_isSure 93 = .ok (.goto 4, 3) := by decide +kernel
theorem dX6_isSure_96 : decode cX6_isSure 96 = .ok (.iconst 0, 1) := by decide +kernel
theorem dX6_isSure_97 : decode cX6_isSure 97 = .ok (.ireturn, 1) := by decide +kernel
theorem dX6_isSure_98 : decode cX6_isSure 98 = .ok (.iload_n 3, 1) := by decide +kernel
theorem dX6_isSure_99 : decode cX6_isSure 99 = .ok (.ifCond .ne 5, 3) := by decide +kernel
theorem dX6_isSure_102 : decode cX6_isSure 102 = .ok (.iconst 0, 1) := by decide +kernel
theorem dX6_isSure_103 : decode cX6_isSure 103 = .ok (.ireturn, 1) := by decide +kernel
theorem dX6_isSure_104 : decode cX6_isSure 104 = .ok (.aload_n 0, 1) := by decide +kernel
theorem dX6_isSure_105 : decode cX6_isSure 105 = .ok (.iconst (-1), 1) := by decide +kernel
theorem dX6_isSure_106 : decode cX6_isSure 106 = .ok (.invokevirtual 49, 3) := by decide +kernel
theorem dX6_isSure_109 : decode cX6_isSure 109 = .ok (.aload_n 0, 1) := by decide +kernel
theorem dX6_isSure_110 : decode cX6_isSure 110 = .ok (.iconst (-1), 1) := by decide +kernel
theorem dX6_isSure_111 : decode cX6_isSure 111 = .ok (.aload_n 0, 1) := by decide +kernel
theorem dX6_isSure_112 : decode cX6_isSure 112 = .ok (.getfield 18, 3) := by decide +kernel
theorem dX6_isSure_115 : decode cX6_isSure 115 = .ok (.invokevirtual 57, 3) := by decide +kernel
theorem dX6_isSure_118 : decode cX6_isSure 118 = .ok (.iconst 1, 1) := by decide +kernel
theorem dX6_isSure_119 : decode cX6_isSure 119 = .ok (.isub, 1) := by decide +kernel
theorem dX6_isSure_120 : decode cX6_isSure 120 = .ok (.invokevirtual 61, 3) := by decide +kernel
theorem dX6_isSure_123 : decode cX6_isSure 123 = .ok (.aload_n 0, 1) := by decide +kernel
theorem dX6_isSure_124 : decode cX6_isSure 124 = .ok (.iload_n 2, 1) := by decide +kernel
theorem dX6_isSure_125 : decode cX6_isSure 125 = .ok (.ifCond .eq 13, 3) := by decide +kernel
theorem dX6_isSure_128 : decode cX6_isSure 128 = .ok (.aload_n 0, 1) := by decide +kernel
theorem dX6_isSure_129 : decode cX6_isSure 129 = .ok (.getfield 32, 3) := by decide +kernel
theorem dX6_isSure_132 : decode cX6_isSure 132 = .ok (.invokevirtual 64, 3) := by decide +kernel
theorem dX6_isSure_135 : decode cX6_isSure 135 = .ok (.goto 12, 3) := by decide +kernel
theorem dX6_isSure_138 : decode cX6_isSure 138 = .ok (.aload_n 0, 1) := by decide +kernel
theorem dX6_isSure_139 : decode cX6_isSure 139 = .ok (.getfield 32, 3) := by decide +kernel
theorem dX6_isSure_142 : decode cX6_isSure 142 = .ok (.invokevirtual 64, 3) := by decide +kernel
theorem dX6_isSure_145 : decode cX6_isSure 145 = .ok (.iconst 1, 1) := by decide +kernel
theorem dX6_isSure_146 : decode cX6_isSure 146 = .ok (.isub, 1) := by decide +kernel
theorem dX6_isSure_147 : decode cX6_isSure 147 = .ok (.invokevirtual 69, 3) := by decide +kernel
theorem dX6_isSure_150 : decode cX6_isSure 150 = .ok (.ifCond .ne 7, 3) := by decide +kernel
theorem dX6_isSure_153 : decode cX6_isSure 153 = .ok (.iconst 1, 1) := by decide +kernel
theorem dX6_isSure_154 : decode cX6_isSure 154 = .ok (.goto 4, 3) := by decide +kernel
theorem dX6_isSure_157 : decode cX6_isSure 157 = .ok (.iconst 0, 1) := by decide +kernel
theorem dX6_isSure_158 : decode cX6_isSure 158 = .ok (.ireturn, 1) := by decide +kernel
theorem dX6_verdict_0 : decode cX6_verdict 0 = .ok (.iload_n 0, 1) := by decide +kernel
theorem dX6_verdict_1 : decode cX6_verdict 1 = .ok (.ifCond .ne 5, 3) := by decide +kernel
theorem dX6_verdict_4 : decode cX6_verdict 4 = .ok (.iconst 1, 1) := by decide +kernel
theorem dX6_verdict_5 : decode cX6_verdict 5 = .ok (.ireturn, 1) := by decide +kernel
theorem dX6_verdict_6 : decode cX6_verdict 6 = .ok (.iload_n 1, 1) := by decide +kernel
theorem dX6_verdict_7 : decode cX6_verdict 7 = .ok (.ifCond .eq 7, 3) := by decide +kernel
theorem dX6_verdict_10 : decode cX6_verdict 10 = .ok (.iconst 0, 1) := by decide +kernel
theorem dX6_verdict_11 : decode cX6_verdict 11 = .ok (.goto 4, 3) := by decide +kernel
theorem dX6_verdict_14 : decode cX6_verdict 14 = .ok (.iconst 2, 1) := by decide +kernel
theorem dX6_verdict_15 : decode cX6_verdict 15 = .ok (.ireturn, 1) := by decide +kernel
theorem dX6_judgeFreeCells_0 : decode cX6_judgeFreeCells 0 = .ok (.aload_n 0, 1) := by decide +kernel
theorem dX6_judgeFreeCells_1 : decode cX6_judgeFreeCells 1 = .ok (.getfield 18, 3) := by decide +kernel
theorem dX6_judgeFreeCells_4 : decode cX6_judgeFreeCells 4 = .ok (.invokevirtual 57, 3) := by decide +kernel
theorem dX6_judgeFreeCells_7 : decode cX6_judgeFreeCells 7 = .ok (.ifCond .gt 4, 3) := by decide +kernel
theorem dX6_judgeFreeCells_10 : decode cX6_judgeFreeCells 10 = .ok (.return_, 1) := by decide +kernel
theorem dX6_judgeFreeCells_11 : decode cX6_judgeFreeCells 11 = .ok (.aload_n 0, 1) := by decide +kernel
theorem dX6_judgeFreeCells_12 : decode cX6_judgeFreeCells 12 = .ok (.iconst (-1), 1) := by decide +kernel
theorem dX6_judgeFreeCells_13 : decode cX6_judgeFreeCells 13 = .ok (.aload_n 0, 1) := by decide +kernel
theorem dX6_judgeFreeCells_14 : decode cX6_judgeFreeCells 14 = .ok (.getfield 18, 3) := by decide +kernel
theorem dX6_judgeFreeCells_17 : decode cX6_judgeFreeCells 17 = .ok (.invokevirtual 57, 3) := by decide +kernel
theorem dX6_judgeFreeCells_20 : decode cX6_judgeFreeCells 20 = .ok (.iconst 1, 1) := by decide +kernel
theorem dX6_judgeFreeCells_21 : decode cX6_judgeFreeCells 21 = .ok (.isub, 1) := by decide +kernel
theorem dX6_judgeFreeCells_22 : decode cX6_judgeFreeCells 22 = .ok (.invokevirtual 61, 3) := by decide +kernel
theorem dX6_judgeFreeCells_25 : decode cX6_judgeFreeCells 25 = .ok (.aload_n 0, 1) := by decide +kernel
theorem dX6_judgeFreeCells_26 : decode cX6_judgeFreeCells 26 = .ok (.aload_n 0, 1) := by decide +kernel
theorem dX6_judgeFreeCells_27 : decode cX6_judgeFreeCells 27 = .ok (.getfield 32, 3) := by decide +kernel
theorem dX6_judgeFreeCells_30 : decode cX6_judgeFreeCells 30 = .ok (.invokevirtual 64, 3) := by decide +kernel
theorem dX6_judgeFreeCells_33 : decode cX6_judgeFreeCells 33 = .ok (.iconst 1, 1) := by decide +kernel
theorem dX6_judgeFreeCells_34 : decode cX6_judgeFreeCells 34 = .ok (.isub, 1) := by decide +kernel
theorem dX6_judgeFreeCells_35 : decode cX6_judgeFreeCells 35 = .ok (.invokevirtual 69, 3) := by decide +kernel
theorem dX6_judgeFreeCells_38 : decode cX6_judgeFreeCells 38 = .ok (.aload_n 0, 1) := by decide +kernel
theorem dX6_judgeFreeCells_39 : decode cX6_judgeFreeCells 39 = .ok (.aload_n 0, 1) := by decide +kernel
theorem dX6_judgeFreeCells_40 : decode cX6_judgeFreeCells 40 = .ok (.getfield 32, 3) := by decide +kernel
theorem dX6_judgeFreeCells_43 : decode cX6_judgeFreeCells 43 = .ok (.invokevirtual 64, 3) := by decide +kernel
theorem dX6_judgeFreeCells_46 : decode cX6_judgeFreeCells 46 = .ok (.invokevirtual 69, 3) := by decide +kernel
theorem dX6_judgeFreeCells_49 : decode cX6_judgeFreeCells 49 = .ok (.invokestatic 93, 3) := by decide +kernel
theorem dX6_judgeFreeCells_52 : decode cX6_judgeFreeCells 52 = .ok (.istore_n 2, 1) := by decide +kernel
theorem dX6_judgeFreeCells_53 : decode cX6_judgeFreeCells 53 = .ok (.iconst 0, 1) := by decide +kernel
theorem dX6_judgeFreeCells_54 : decode cX6_judgeFreeCells 54 = .ok (.istore_n 3, 1) := by decide +kernel
theorem dX6_judgeFreeCells_55 : decode cX6_judgeFreeCells 55 = .ok (.iload_n 3, 1) := by decide +kernel
theorem dX6_judgeFreeCells_56 : decode cX6_judgeFreeCells 56 = .ok (.aload_n 0, 1) := by decide +kernel
theorem dX6_judgeFreeCells_57 : decode cX6_judgeFreeCells 57 = .ok (.getfield 32, 3) := by decide +kernel
theorem dX6_judgeFreeCells_60 : decode cX6_judgeFreeCells 60 = .ok (.getfield 101, 3) := by decide +kernel
theorem dX6_judgeFreeCells_63 : decode cX6_judgeFreeCells 63 = .ok (.getfield 105, 3) := by decide +kernel
theorem dX6_judgeFreeCells_66 : decode cX6_judgeFreeCells 66 = .ok (.if_icmp .ge 37, 3) := by decide +kernel
theorem dX6_judgeFreeCells_69 : decode cX6_judgeFreeCells 69 = .ok (.aload_n 0, 1) := by decide +kernel
theorem dX6_judgeFreeCells_70 : decode cX6_judgeFreeCells 70 = .ok (.getfield 32, 3) := by decide +kernel
theorem dX6_judgeFreeCells_73 : decode cX6_judgeFreeCells 73 = .ok (.iload_n 3, 1) := by decide +kernel
theorem dX6_judgeFreeCells_74 : decode cX6_judgeFreeCells 74 = .ok (.invokevirtual 110, 3) := by decide +kernel
theorem dX6_judgeFreeCells_77 : decode cX6_judgeFreeCells 77 = .ok (.ifCond .eq 20, 3) := by decide +kernel
theorem dX6_judgeFreeCells_80 : decode cX6_judgeFreeCells 80 = .ok (.aload_n 0, 1) := by decide +kernel
theorem dX6_judgeFreeCells_81 : decode cX6_judgeFreeCells 81 = .ok (.getfield 18, 3) := by decide +kernel
theorem dX6_judgeFreeCells_84 : decode cX6_judgeFreeCells 84 = .ok (.getfield 33, 3) := by decide +kernel
theorem dX6_judgeFreeCells_87 : decode cX6_judgeFreeCells 87 = .ok (.iload_n 3, 1) := by decide +kernel
theorem dX6_judgeFreeCells_88 : decode cX6_judgeFreeCells 88 = .ok (.iaload, 1) := by decide +kernel
theorem dX6_judgeFreeCells_89 : decode cX6_judgeFreeCells 89 = .ok (.iconst (-1), 1) := by decide +kernel
theorem dX6_judgeFreeCells_90 : decode cX6_judgeFreeCells 90 = .ok (.if_icmp .ne 7, 3) := by decide +kernel
theorem dX6_judgeFreeCells_93 : decode cX6_judgeFreeCells 93 = .ok (.aload_n 1, 1) := by decide +kernel
theorem dX6_judgeFreeCells_94 : decode cX6_judgeFreeCells 94 = .ok (.iload_n 3, 1) := by decide +kernel
theorem dX6_judgeFreeCells_95 : decode cX6_judgeFreeCells 95 = .ok (.iload_n 2, 1) := by decide +kernel
theorem dX6_judgeFreeCells_96 : decode cX6_judgeFreeCells 96 = .ok (.iastore, 1) := by decide +kernel
theorem dX6_judgeFreeCells_97 : decode cX6_judgeFreeCells 97 = .ok (.iinc 3 1, 3) := by decide +kernel
theorem dX6_judgeFreeCells_100 : decode cX6_judgeFreeCells 100 = .ok (.goto (-45), 3) := by decide +kernel
theorem dX6_judgeFreeCells_103 : decode cX6_judgeFreeCells 103 = .ok (.return_, 1) := by decide +kernel
theorem dX6_judge_0 : decode cX6_judge 0 = .ok (.aload_n 0, 1) := by decide +kernel
theorem dX6_judge_1 : decode cX6_judge 1 = .ok (.getfield 18, 3) := by decide +kernel
theorem dX6_judge_4 : decode cX6_judge 4 = .ok (.invokevirtual 73, 3) := by decide +kernel
theorem dX6_judge_7 : decode cX6_judge 7 = .ok (.aload_n 0, 1) := by decide +kernel
theorem dX6_judge_8 : decode cX6_judge 8 = .ok (.getfield 18, 3) := by decide +kernel
theorem dX6_judge_11 : decode cX6_judge 11 = .ok (.invokevirtual 76, 3) := by decide +kernel
theorem dX6_judge_14 : decode cX6_judge 14 = .ok (.aload_n 0, 1) := by decide +kernel
theorem dX6_judge_15 : decode cX6_judge 15 = .ok (.getfield 18, 3) := by decide +kernel
theorem dX6_judge_18 : decode cX6_judge 18 = .ok (.invokevirtual 79, 3) := by decide +kernel
theorem dX6_judge_21 : decode cX6_judge 21 = .ok (.ifCond .eq 4, 3) := by decide +kernel
theorem dX6_judge_24 : decode cX6_judge 24 = .ok (.return_, 1) := by decide +kernel
theorem dX6_judge_25 : decode cX6_judge 25 = .ok (.iconst 0, 1) := by decide +kernel
theorem dX6_judge_26 : decode cX6_judge 26 = .ok (.istore_n 2, 1) := by decide +kernel
theorem dX6_judge_27 : decode cX6_judge 27 = .ok (.iload_n 2, 1) := by decide +kernel
theorem dX6_judge_28 : decode cX6_judge 28 = .ok (.aload_n 0, 1) := by decide +kernel
theorem dX6_judge_29 : decode cX6_judge 29 = .ok (.getfield 18, 3) := by decide +kernel
theorem dX6_judge_32 : decode cX6_judge 32 = .ok (.getfield 83, 3) := by decide +kernel
theorem dX6_judge_35 : decode cX6_judge 35 = .ok (.if_icmp .ge 18, 3) := by decide +kernel
theorem dX6_judge_38 : decode cX6_judge 38 = .ok (.aload_n 0, 1) := by decide +kernel
theorem dX6_judge_39 : decode cX6_judge 39 = .ok (.getfield 22, 3) := by decide +kernel
theorem dX6_judge_42 : decode cX6_judge 42 = .ok (.iload_n 2, 1) := by decide +kernel
theorem dX6_judge_43 : decode cX6_judge 43 = .ok (.iconst (-1), 1) := by decide +kernel
theorem dX6_judge_44 : decode cX6_judge 44 = .ok (.invokevirtual 37, 3) := by decide +kernel
theorem dX6_judge_47 : decode cX6_judge 47 = .ok (.iinc 2 1, 3) := by decide +kernel
theorem dX6_judge_50 : decode cX6_judge 50 = .ok (.goto (-23), 3) := by decide +kernel
theorem dX6_judge_53 : decode cX6_judge 53 = .ok (.iconst 0, 1) := by decide +kernel
theorem dX6_judge_54 : decode cX6_judge 54 = .ok (.istore_n 2, 1) := by decide +kernel
theorem dX6_judge_55 : decode cX6_judge 55 = .ok (.iload_n 2, 1) := by decide +kernel
theorem dX6_judge_56 : decode cX6_judge 56 = .ok (.aload_n 0, 1) := by decide +kernel
theorem dX6_judge_57 : decode cX6_judge 57 = .ok (.getfield 18, 3) := by decide +kernel
theorem dX6_judge_60 : decode cX6_judge 60 = .ok (.getfield 83, 3) := by decide +kernel
theorem dX6_judge_63 : decode cX6_judge 63 = .ok (.if_icmp .ge 107, 3) := by decide +kernel
theorem dX6_judge_66 : decode cX6_judge 66 = .ok (.aload_n 0, 1) := by decide +kernel
theorem dX6_judge_67 : decode cX6_judge 67 = .ok (.iload_n 2, 1) := by decide +kernel
theorem dX6_judge_68 : decode cX6_judge 68 = .ok (.invokevirtual 53, 3) := by decide +kernel
theorem dX6_judge_71 : decode cX6_judge 71 = .ok (.istore_n 3, 1) := by decide +kernel
theorem dX6_judge_72 : decode cX6_judge 72 = .ok (.aload_n 0, 1) := by decide +kernel
theorem dX6_judge_73 : decode cX6_judge 73 = .ok (.getfield 18, 3) := by decide +kernel
theorem dX6_judge_76 : decode cX6_judge 76 = .ok (.getfield 87, 3) := by decide +kernel
theorem dX6_judge_79 : decode cX6_judge 79 = .ok (.iload_n 2, 1) := by decide +kernel
theorem dX6_judge_80 : decode cX6_judge 80 = .ok (.iaload, 1) := by decide +kernel
theorem dX6_judge_81 : decode cX6_judge 81 = .ok (.istore 4, 2) := by decide +kernel
theorem dX6_judge_83 : decode cX6_judge 83 = .ok (.iload 4, 2) := by decide +kernel
theorem dX6_judge_85 : decode cX6_judge 85 = .ok (.aload_n 0, 1) := by decide +kernel
theorem dX6_judge_86 : decode cX6_judge 86 = .ok (.getfield 18, 3) := by decide +kernel
theorem dX6_judge_89 : decode cX6_judge 89 = .ok (.getfield 87, 3) := by decide +kernel
theorem dX6_judge_92 : decode cX6_judge 92 = .ok (.iload_n 2, 1) := by decide +kernel
theorem dX6_judge_93 : decode cX6_judge 93 = .ok (.iconst 1, 1) := by decide +kernel
theorem dX6_judge_94 : decode cX6_judge 94 = .ok (.iadd, 1) := by decide +kernel
theorem dX6_judge_95 : decode cX6_judge 95 = .ok (.iaload, 1) := by decide +kernel
theorem dX6_judge_96 : decode cX6_judge 96 = .ok (.if_icmp .ge 68, 3) := by decide +kernel
theorem dX6_judge_99 : decode cX6_judge 99 = .ok (.aload_n 0, 1) := by decide +kernel
theorem dX6_judge_100 : decode cX6_judge 100 = .ok (.getfield 18, 3) := by decide +kernel
theorem dX6_judge_103 : decode cX6_judge 103 = .ok (.getfield 90, 3) := by decide +kernel
theorem dX6_judge_106 : decode cX6_judge 106 = .ok (.iload 4, 2) := by decide +kernel
theorem dX6_judge_108 : decode cX6_judge 108 = .ok (.iaload, 1) := by decide +kernel
theorem dX6_judge_109 : decode cX6_judge 109 = .ok (.istore 5, 2) := by decide +kernel
theorem dX6_judge_111 : decode cX6_judge 111 = .ok (.aload_n 1, 1) := by decide +kernel
theorem dX6_judge_112 : decode cX6_judge 112 = .ok (.iload 5, 2) := by decide +kernel
theorem dX6_judge_114 : decode cX6_judge 114 = .ok (.aload_n 0, 1) := by decide +kernel
theorem dX6_judge_115 : decode cX6_judge 115 = .ok (.getfield 22, 3) := by decide +kernel
theorem dX6_judge_118 : decode cX6_judge 118 = .ok (.getfield 46, 3) := by decide +kernel
theorem dX6_judge_121 : decode cX6_judge 121 = .ok (.iload 5, 2) := by decide +kernel
theorem dX6_judge_123 : decode cX6_judge 123 = .ok (.iaload, 1) := by decide +kernel
theorem dX6_judge_124 : decode cX6_judge 124 = .ok (.iload_n 3, 1) := by decide +kernel
theorem dX6_judge_125 : decode cX6_judge 125 = .ok (.iand, 1) := by decide +kernel
theorem dX6_judge_126 : decode cX6_judge 126 = .ok (.ifCond .eq 7, 3) := by decide +kernel
theorem dX6_judge_129 : decode cX6_judge 129 = .ok (.iconst 1, 1) := by decide +kernel
theorem dX6_judge_130 : decode cX6_judge 130 = .ok (.goto 4, 3) := by decide +kernel
theorem dX6_judge_133 : decode cX6_judge 133 = .ok (.iconst 0, 1) := by decide +kernel
theorem dX6_judge_134 : decode cX6_judge 134 = .ok (.aload_n 0, 1) := by decide +kernel
theorem dX6_judge_135 : decode cX6_judge 135 = .ok (.getfield 22, 3) := by decide +kernel
theorem dX6_judge_138 : decode cX6_judge 138 = .ok (.getfield 43, 3) := by decide +kernel
theorem dX6_judge_141 : decode cX6_judge 141 = .ok (.iload 5, 2) := by decide +kernel
theorem dX6_judge_143 : decode cX6_judge 143 = .ok (.iaload, 1) := by decide +kernel
theorem dX6_judge_144 : decode cX6_judge 144 = .ok (.iload_n 3, 1) := by decide +kernel
theorem dX6_judge_145 : decode cX6_judge 145 = .ok (.iand, 1) := by decide +kernel
theorem dX6_judge_146 : decode cX6_judge 146 = .ok (.ifCond .eq 7, 3) := by decide +kernel
theorem dX6_judge_149 : decode cX6_judge 149 = .ok (.iconst 1, 1) := by decide +kernel
theorem dX6_judge_150 : decode cX6_judge 150 = .ok (.goto 4, 3) := by decide +kernel
theorem dX6_judge_153 : decode cX6_judge 153 = .ok (.iconst 0, 1) := by decide +kernel
theorem dX6_judge_154 : decode cX6_judge 154 = .ok (.invokestatic 93, 3) := by decide +kernel
theorem dX6_judge_157 : decode cX6_judge 157 = .ok (.iastore, 1) := by decide +kernel
theorem dX6_judge_158 : decode cX6_judge 158 = .ok (.iinc 4 1, 3) := by decide +kernel
theorem dX6_judge_161 : decode cX6_judge 161 = .ok (.goto (-78), 3) := by decide +kernel
theorem dX6_judge_164 : decode cX6_judge 164 = .ok (.iinc 2 1, 3) := by decide +kernel
theorem dX6_judge_167 : decode cX6_judge 167 = .ok (.goto (-112), 3) := by decide +kernel
theorem dX6_judge_170 : decode cX6_judge 170 = .ok (.aload_n 0, 1) := by decide +kernel
theorem dX6_judge_171 : decode cX6_judge 171 = .ok (.aload_n 1, 1) := by decide +kernel
theorem dX6_judge_172 : decode cX6_judge 172 = .ok (.invokevirtual 97, 3) := by decide +kernel
theorem dX6_judge_175 : decode cX6_judge 175 = .ok (.return_, 1) := by decide +kernel
theorem q_X6_takeAllBut : yX6_takeAllBut.cls = RX6 ∧ yX6_takeAllBut.cls ≠ "java/lang/invoke/MethodHandle" ∧ yX6_takeAllBut.cls ≠ "java/lang/invoke/VarHandle" ∧ (parseMethodDescriptor yX6_takeAllBut.desc).map (fun d => d.parameters.length) = some 1 := ⟨rfl, by decide, by decide, by decide +kernel⟩
theorem q_J7_fill_d0a16 : yJ7_fill_d0a16.cls ≠ "java/lang/invoke/MethodHandle" ∧ yJ7_fill_d0a16.cls ≠ "java/lang/invoke/VarHandle" ∧ (parseMethodDescriptor yJ7_fill_d0a16.desc).map (fun d => d.parameters.length) = some 2 := ⟨by decide, by decide, by decide +kernel⟩
theorem q_X6_addSet : yX6_addSet.cls = RX6 ∧ yX6_addSet.cls ≠ "java/lang/invoke/MethodHandle" ∧ yX6_addSet.cls ≠ "java/lang/invoke/VarHandle" ∧ (parseMethodDescriptor yX6_addSet.desc).map (fun d => d.parameters.length) = some 1 := ⟨rfl, by decide, by decide, by decide +kernel⟩
theorem q_X6_sumUp : yX6_sumUp.cls = RX6 ∧ yX6_sumUp.cls ≠ "java/lang/invoke/MethodHandle" ∧ yX6_sumUp.cls ≠ "java/lang/invoke/VarHandle" ∧ (parseMethodDescriptor yX6_sumUp.desc).map (fun d => d.parameters.length) = some 2 := ⟨rfl, by decide, by decide, by decide +kernel⟩
theorem q_X6_hasSum : yX6_hasSum.cls = RX6 ∧ yX6_hasSum.cls ≠ "java/lang/invoke/MethodHandle" ∧ yX6_hasSum.cls ≠ "java/lang/invoke/VarHandle" ∧ (parseMethodDescriptor yX6_hasSum.desc).map (fun d => d.parameters.length) = some 1 := ⟨rfl, by decide, by decide, by decide +kernel⟩
theorem q_X6_fittingSet : yX6_fittingSet.cls = RX6 ∧ yX6_fittingSet.cls ≠ "java/lang/invoke/MethodHandle" ∧ yX6_fittingSet.cls ≠ "java/lang/invoke/VarHandle" ∧ (parseMethodDescriptor yX6_fittingSet.desc).map (fun d => d.parameters.length) = some 1 := ⟨rfl, by decide, by decide, by decide +kernel⟩
theorem q_X6_isSure : yX6_isSure.cls = RX6 ∧ yX6_isSure.cls ≠ "java/lang/invoke/MethodHandle" ∧ yX6_isSure.cls ≠ "java/lang/invoke/VarHandle" ∧ (parseMethodDescriptor yX6_isSure.desc).map (fun d => d.parameters.length) = some 3 := ⟨rfl, by decide, by decide, by decide +kernel⟩
theorem q_X6_verdict : yX6_verdict.cls ≠ "java/lang/invoke/MethodHandle" ∧ yX6_verdict.cls ≠ "java/lang/invoke/VarHandle" ∧ (parseMethodDescriptor yX6_verdict.desc).map (fun d => d.parameters.length) = some 2 := ⟨by decide, by decide, by decide +kernel⟩
theorem q_X6_judgeFreeCells : yX6_judgeFreeCells.cls = RX6 ∧ yX6_judgeFreeCells.cls ≠ "java/lang/invoke/MethodHandle" ∧ yX6_judgeFreeCells.cls ≠ "java/lang/invoke/VarHandle" ∧ (parseMethodDescriptor yX6_judgeFreeCells.desc).map (fun d => d.parameters.length) = some 1 := ⟨rfl, by decide, by decide, by decide +kernel⟩
theorem q_X6_judge : yX6_judge.cls = RX6 ∧ yX6_judge.cls ≠ "java/lang/invoke/MethodHandle" ∧ yX6_judge.cls ≠ "java/lang/invoke/VarHandle" ∧ (parseMethodDescriptor yX6_judge.desc).map (fun d => d.parameters.length) = some 1 := ⟨rfl, by decide, by decide, by decide +kernel⟩
def P_X6_takeAllBut (post : (Int) → (Int) → (Int) → (Int → Int) → (Int → Int) → (Int → Int) → (Int → Int) → (Int → Int) → (Int → Int) → (Int → Int) → (Int → Int) → (Int → Int) → (Int → Int) → (Int → Int) → (Int → Int) → (Int → Int) → (Int → Int) → Prop) (B_parts : Int) (S_groups : Int) (S_askedGroup : Int) (S_taken : Int) (G_near : Int → Int) (G_nearEnd : Int → Int) (B_chosen : Int → Int) (B_rest : Int → Int) (B_unknowns : Int → Int) (B_partStart : Int → Int) (B_cells : Int → Int) (S_minedSet : Int → Int) (S_safeSet : Int → Int) (S_partSet : Int → Int) (S_tally : Int → Int) (S_askedTally : Int → Int) (S_groupOf : Int → Int) (S_groupSize : Int → Int) (S_links : Int → Int) (S_linkEnd : Int → Int) (S_pick : Int → Int) (S_groupMinedSet : Int → Int) (S_groupSafeSet : Int → Int) (x1 : Int) : Prop :=
  ∃ Inv_1 : Nat → (Int) → (Int) → (Int) → (Int) → (Int → Int) → (Int → Int) → (Int → Int) → (Int → Int) → (Int → Int) → (Int → Int) → (Int → Int) → (Int → Int) → (Int → Int) → (Int → Int) → (Int → Int) → (Int → Int) → (Int → Int) → (Int → Int) → Prop, (∃ n_2 : Nat, Inv_1 n_2 0 S_groups S_askedGroup S_taken B_rest B_unknowns S_minedSet S_safeSet S_partSet S_tally S_askedTally S_groupOf S_groupSize S_links S_linkEnd S_pick S_groupMinedSet S_groupSafeSet) ∧ ∀ (n_3 : Nat) (x2_6 : Int) (S_groups_7 : Int) (S_askedGroup_8 : Int) (S_taken_9 : Int) (B_rest_10 : Int → Int) (B_unknowns_11 : Int → Int) (S_minedSet_12 : Int → Int) (S_safeSet_13 : Int → Int) (S_partSet_14 : Int → Int) (S_tally_15 : Int → Int) (S_askedTally_16 : Int → Int) (S_groupOf_17 : Int → Int) (S_groupSize_18 : Int → Int) (S_links_19 : Int → Int) (S_linkEnd_20 : Int → Int) (S_pick_21 : Int → Int) (S_groupMinedSet_22 : Int → Int) (S_groupSafeSet_23 : Int → Int), inR x2_6 → Inv_1 n_3 x2_6 S_groups_7 S_askedGroup_8 S_taken_9 B_rest_10 B_unknowns_11 S_minedSet_12 S_safeSet_13 S_partSet_14 S_tally_15 S_askedTally_16 S_groupOf_17 S_groupSize_18 S_links_19 S_linkEnd_20 S_pick_21 S_groupMinedSet_22 S_groupSafeSet_23 → ((B_parts ≤ x2_6 → (post S_groups_7 S_askedGroup_8 S_taken_9 B_rest_10 B_unknowns_11 S_minedSet_12 S_safeSet_13 S_partSet_14 S_tally_15 S_askedTally_16 S_groupOf_17 S_groupSize_18 S_links_19 S_linkEnd_20 S_pick_21 S_groupMinedSet_22 S_groupSafeSet_23)) ∧ (¬ B_parts ≤ x2_6 → (∃ J_26 : (Int) → (Int) → (Int) → (Int → Int) → (Int → Int) → (Int → Int) → (Int → Int) → (Int → Int) → (Int → Int) → (Int → Int) → (Int → Int) → (Int → Int) → (Int → Int) → (Int → Int) → (Int → Int) → (Int → Int) → (Int → Int) → Prop, ((x2_6 = x1 → (J_26 S_groups_7 S_askedGroup_8 S_taken_9 B_rest_10 B_unknowns_11 S_minedSet_12 S_safeSet_13 S_partSet_14 S_tally_15 S_askedTally_16 S_groupOf_17 S_groupSize_18 S_links_19 S_linkEnd_20 S_pick_21 S_groupMinedSet_22 S_groupSafeSet_23)) ∧ (¬ x2_6 = x1 → (P_X9_take (fun (S_groups_49 : Int) (S_askedGroup_50 : Int) (S_taken_51 : Int) (B_rest_52 : Int → Int) (B_unknowns_53 : Int → Int) (S_minedSet_54 : Int → Int) (S_safeSet_55 : Int → Int) (S_partSet_56 : Int → Int) (S_tally_57 : Int → Int) (S_askedTally_58 : Int → Int) (S_groupOf_59 : Int → Int) (S_groupSize_60 : Int → Int) (S_links_61 : Int → Int) (S_linkEnd_62 : Int → Int) (S_pick_63 : Int → Int) (S_groupMinedSet_64 : Int → Int) (S_groupSafeSet_65 : Int → Int) => (J_26 S_groups_49 S_askedGroup_50 S_taken_51 B_rest_52 B_unknowns_53 S_minedSet_54 S_safeSet_55 S_partSet_56 S_tally_57 S_askedTally_58 S_groupOf_59 S_groupSize_60 S_links_61 S_linkEnd_62 S_pick_63 S_groupMinedSet_64 S_groupSafeSet_65)) S_groups_7 S_askedGroup_8 S_taken_9 G_near G_nearEnd B_chosen B_rest_10 B_unknowns_11 B_partStart B_cells S_minedSet_12 S_safeSet_13 S_partSet_14 S_tally_15 S_askedTally_16 S_groupOf_17 S_groupSize_18 S_links_19 S_linkEnd_20 S_pick_21 S_groupMinedSet_22 S_groupSafeSet_23 x2_6 (-1)))) ∧ (∀ (S_groups_28 : Int) (S_askedGroup_29 : Int) (S_taken_30 : Int) (B_rest_31 : Int → Int) (B_unknowns_32 : Int → Int) (S_minedSet_33 : Int → Int) (S_safeSet_34 : Int → Int) (S_partSet_35 : Int → Int) (S_tally_36 : Int → Int) (S_askedTally_37 : Int → Int) (S_groupOf_38 : Int → Int) (S_groupSize_39 : Int → Int) (S_links_40 : Int → Int) (S_linkEnd_41 : Int → Int) (S_pick_42 : Int → Int) (S_groupMinedSet_43 : Int → Int) (S_groupSafeSet_44 : Int → Int), J_26 S_groups_28 S_askedGroup_29 S_taken_30 B_rest_31 B_unknowns_32 S_minedSet_33 S_safeSet_34 S_partSet_35 S_tally_36 S_askedTally_37 S_groupOf_38 S_groupSize_39 S_links_40 S_linkEnd_41 S_pick_42 S_groupMinedSet_43 S_groupSafeSet_44 → (inR (x2_6 + 1) ∧ (∀ x2_46 : Int, x2_46 = (x2_6 + 1) → (∃ n_47 : Nat, n_47 < n_3 ∧ Inv_1 n_47 x2_46 S_groups_28 S_askedGroup_29 S_taken_30 B_rest_31 B_unknowns_32 S_minedSet_33 S_safeSet_34 S_partSet_35 S_tally_36 S_askedTally_37 S_groupOf_38 S_groupSize_39 S_links_40 S_linkEnd_41 S_pick_42 S_groupMinedSet_43 S_groupSafeSet_44)))))))
set_option maxRecDepth 100000 in
set_option maxHeartbeats 4000000 in
theorem c_X6_takeAllBut (l : Launch) (K : wK) (ad : Nat → Nat) {D_hasBoard : Int} {D_beganBlank : Int} {F_mines : Int} {F_moves : Int} {F_changes : Int} {G_width : Int} {G_height : Int} {G_size : Int} {B_parts : Int} {B_longest : Int} {S_groups : Int} {S_askedGroup : Int} {S_taken : Int} {R_waitingCount : Int} {R_metCount : Int} {A_grade : Int} {A_cell : Int} {A_mined : Int} {A_withTotal : Int} {A_numbers : Int} {X_low : Int} {X_high : Int} {Y_low : Int} {Y_high : Int} {F_mined : Int → Int} {F_number : Int → Int} {F_state : Int → Int} {F_cellsIn : Int → Int} {F_unknownNear : Int → Int} {F_hitNear : Int → Int} {F_moveStart : Int → Int} {F_changed : Int → Int} {F_waiting : Int → Int} {F_seen : Int → Int} {G_near : Int → Int} {G_nearEnd : Int → Int} {B_chosen : Int → Int} {B_partOf : Int → Int} {B_rest : Int → Int} {B_unknowns : Int → Int} {B_partStart : Int → Int} {B_cells : Int → Int} {S_minedSet : Int → Int} {S_safeSet : Int → Int} {S_partSet : Int → Int} {S_tally : Int → Int} {S_askedTally : Int → Int} {S_groupOf : Int → Int} {S_groupSize : Int → Int} {S_links : Int → Int} {S_linkEnd : Int → Int} {S_pick : Int → Int} {S_groupMinedSet : Int → Int} {S_groupSafeSet : Int → Int} {O_sums : Int → Int64} {O_nextSums : Int → Int64} {R_found : Int → Int} {R_openEnds : Int → Int} {R_need : Int → Int} {R_waiting : Int → Int} {R_waits : Int → Int} {R_common : Int → Int} {R_met : Int → Int} {A_number : Int → Int} {Q_mined : Int → Int64} {Q_all : Int → Int64} {Q_choices : Int → Int64} {Q_term : Int → Int64} {Q_divisor : Int → Int64} {Q_spare : Int → Int64} {X_limbs : Int → Int64} {X_sum : Int → Int64} {Y_limbs : Int → Int64} {Y_sum : Int → Int64} (x1 : Int) (rx1 : inR x1) (post : (Int) → (Int) → (Int) → (Int → Int) → (Int → Int) → (Int → Int) → (Int → Int) → (Int → Int) → (Int → Int) → (Int → Int) → (Int → Int) → (Int → Int) → (Int → Int) → (Int → Int) → (Int → Int) → (Int → Int) → (Int → Int) → Prop) (h : P_X6_takeAllBut post B_parts S_groups S_askedGroup S_taken G_near G_nearEnd B_chosen B_rest B_unknowns B_partStart B_cells S_minedSet S_safeSet S_partSet S_tally S_askedTally S_groupOf S_groupSize S_links S_linkEnd S_pick S_groupMinedSet S_groupSafeSet x1) : mV l yX6_takeAllBut (Cond.code yX6_takeAllBut cX6_takeAllBut 3 none :: GT) ({ frames := 24, cells := 0, slots := 0, locals := 1440 } : Room) [.ref (ad 5), .int (iI x1)] K ad (dW D_hasBoard D_beganBlank F_mines F_moves F_changes G_width G_height G_size B_parts B_longest S_groups S_askedGroup S_taken R_waitingCount R_metCount A_grade A_cell A_mined A_withTotal A_numbers X_low X_high Y_low Y_high F_mined F_number F_state F_cellsIn F_unknownNear F_hitNear F_moveStart F_changed F_waiting F_seen G_near G_nearEnd B_chosen B_partOf B_rest B_unknowns B_partStart B_cells S_minedSet S_safeSet S_partSet S_tally S_askedTally S_groupOf S_groupSize S_links S_linkEnd S_pick S_groupMinedSet S_groupSafeSet O_sums O_nextSums R_found R_openEnds R_need R_waiting R_waits R_common R_met A_number Q_mined Q_all Q_choices Q_term Q_divisor Q_spare X_limbs X_sum Y_limbs Y_sum) (fun u9 => ∃ S_groups9 S_askedGroup9 S_taken9 B_rest9 B_unknowns9 S_minedSet9 S_safeSet9 S_partSet9 S_tally9 S_askedTally9 S_groupOf9 S_groupSize9 S_links9 S_linkEnd9 S_pick9 S_groupMinedSet9 S_groupSafeSet9, u9 = (dW D_hasBoard D_beganBlank F_mines F_moves F_changes G_width G_height G_size B_parts B_longest S_groups9 S_askedGroup9 S_taken9 R_waitingCount R_metCount A_grade A_cell A_mined A_withTotal A_numbers X_low X_high Y_low Y_high F_mined F_number F_state F_cellsIn F_unknownNear F_hitNear F_moveStart F_changed F_waiting F_seen G_near G_nearEnd B_chosen B_partOf B_rest9 B_unknowns9 B_partStart B_cells S_minedSet9 S_safeSet9 S_partSet9 S_tally9 S_askedTally9 S_groupOf9 S_groupSize9 S_links9 S_linkEnd9 S_pick9 S_groupMinedSet9 S_groupSafeSet9 O_sums O_nextSums R_found R_openEnds R_need R_waiting R_waits R_common R_met A_number Q_mined Q_all Q_choices Q_term Q_divisor Q_spare X_limbs X_sum Y_limbs Y_sum) ∧ post S_groups9 S_askedGroup9 S_taken9 B_rest9 B_unknowns9 S_minedSet9 S_safeSet9 S_partSet9 S_tally9 S_askedTally9 S_groupOf9 S_groupSize9 S_links9 S_linkEnd9 S_pick9 S_groupMinedSet9 S_groupSafeSet9) := by
  refine mV_of (lv0 := [(0, .ref (ad 5)), (1, .int (iI x1))]) (by decide) (Nat.le_of_ble_eq_true rfl) rfl ?_
  intro p e s m args below meth c Q A C ret
  replace C : Cx p ({ frames := 24, cells := 0, slots := 0, locals := 1440 } : Room) m c 0 0 cX6_takeAllBut 3 s args RX6 K A := C
  unfold P_X6_takeAllBut at h
  refine wa_iconst C (z := 0) dX6_takeAllBut_0 rfl ?_
  refine wa_istore_n C dX6_takeAllBut_1 rfl (by decide) rfl ?_
  obtain ⟨Inv_1, ⟨n_2, h0Inv_1⟩, hInv_1⟩ := h
  have k_5 : ∀ (n_3 : Nat) (x2_6 : Int) (S_groups_7 : Int) (S_askedGroup_8 : Int) (S_taken_9 : Int) (B_rest_10 : Int → Int) (B_unknowns_11 : Int → Int) (S_minedSet_12 : Int → Int) (S_safeSet_13 : Int → Int) (S_partSet_14 : Int → Int) (S_tally_15 : Int → Int) (S_askedTally_16 : Int → Int) (S_groupOf_17 : Int → Int) (S_groupSize_18 : Int → Int) (S_links_19 : Int → Int) (S_linkEnd_20 : Int → Int) (S_pick_21 : Int → Int) (S_groupMinedSet_22 : Int → Int) (S_groupSafeSet_23 : Int → Int), inR x2_6 → Inv_1 n_3 x2_6 S_groups_7 S_askedGroup_8 S_taken_9 B_rest_10 B_unknowns_11 S_minedSet_12 S_safeSet_13 S_partSet_14 S_tally_15 S_askedTally_16 S_groupOf_17 S_groupSize_18 S_links_19 S_linkEnd_20 S_pick_21 S_groupMinedSet_22 S_groupSafeSet_23 → WA p l e ({ frames := 24, cells := 0, slots := 0, locals := 1440 } : Room) s m args below meth c 0 0 Q K ad 3 A 2 [(0, .ref (ad 5)), (1, .int (iI x1)), (2, .int (iI x2_6))] [] (dW D_hasBoard D_beganBlank F_mines F_moves F_changes G_width G_height G_size B_parts B_longest S_groups_7 S_askedGroup_8 S_taken_9 R_waitingCount R_metCount A_grade A_cell A_mined A_withTotal A_numbers X_low X_high Y_low Y_high F_mined F_number F_state F_cellsIn F_unknownNear F_hitNear F_moveStart F_changed F_waiting F_seen G_near G_nearEnd B_chosen B_partOf B_rest_10 B_unknowns_11 B_partStart B_cells S_minedSet_12 S_safeSet_13 S_partSet_14 S_tally_15 S_askedTally_16 S_groupOf_17 S_groupSize_18 S_links_19 S_linkEnd_20 S_pick_21 S_groupMinedSet_22 S_groupSafeSet_23 O_sums O_nextSums R_found R_openEnds R_need R_waiting R_waits R_common R_met A_number Q_mined Q_all Q_choices Q_term Q_divisor Q_spare X_limbs X_sum Y_limbs Y_sum) := by
    intro n_3
    induction n_3 using Nat.strongRecOn with
    | ind n_3 ih_4 =>
      intro x2_6 S_groups_7 S_askedGroup_8 S_taken_9 B_rest_10 B_unknowns_11 S_minedSet_12 S_safeSet_13 S_partSet_14 S_tally_15 S_askedTally_16 S_groupOf_17 S_groupSize_18 S_links_19 S_linkEnd_20 S_pick_21 S_groupMinedSet_22 S_groupSafeSet_23 rx2_6 h
      replace h := hInv_1 n_3 x2_6 S_groups_7 S_askedGroup_8 S_taken_9 B_rest_10 B_unknowns_11 S_minedSet_12 S_safeSet_13 S_partSet_14 S_tally_15 S_askedTally_16 S_groupOf_17 S_groupSize_18 S_links_19 S_linkEnd_20 S_pick_21 S_groupMinedSet_22 S_groupSafeSet_23 rx2_6 h
      refine wa_iload_n C 2 rfl dX6_takeAllBut_2 rfl ?_
      refine wa_aload_n C 0 rfl dX6_takeAllBut_3 rfl ?_
      refine wa_getR C 5 0 dW_5 rfl rfl (by decide) okX6 gw_271 dX6_takeAllBut_4 ?_
      refine wa_getI C 3 8 dW_3 rfl rfl (by decide) okX1 gw_178 dX6_takeAllBut_7 (fun r_24 => ?_)
      refine wa_icmp_ge C (tgt := 33) rx2_6 r_24 dX6_takeAllBut_10 (by decide) (fun c_25 => ?_) (fun c_25 => ?_)
      · replace h := h.1 c_25
        exact ret dX6_takeAllBut_33 ⟨_, _, _, _, _, _, _, _, _, _, _, _, _, _, _, _, _, rfl, h⟩
      · replace h := h.2 c_25
        refine wa_iload_n C 2 rfl dX6_takeAllBut_13 rfl ?_
        refine wa_iload_n C 1 rfl dX6_takeAllBut_14 rfl ?_
        obtain ⟨J_26, h, hJ_26⟩ := h
        have k_27 : ∀ (S_groups_28 : Int) (S_askedGroup_29 : Int) (S_taken_30 : Int) (B_rest_31 : Int → Int) (B_unknowns_32 : Int → Int) (S_minedSet_33 : Int → Int) (S_safeSet_34 : Int → Int) (S_partSet_35 : Int → Int) (S_tally_36 : Int → Int) (S_askedTally_37 : Int → Int) (S_groupOf_38 : Int → Int) (S_groupSize_39 : Int → Int) (S_links_40 : Int → Int) (S_linkEnd_41 : Int → Int) (S_pick_42 : Int → Int) (S_groupMinedSet_43 : Int → Int) (S_groupSafeSet_44 : Int → Int), J_26 S_groups_28 S_askedGroup_29 S_taken_30 B_rest_31 B_unknowns_32 S_minedSet_33 S_safeSet_34 S_partSet_35 S_tally_36 S_askedTally_37 S_groupOf_38 S_groupSize_39 S_links_40 S_linkEnd_41 S_pick_42 S_groupMinedSet_43 S_groupSafeSet_44 → WA p l e ({ frames := 24, cells := 0, slots := 0, locals := 1440 } : Room) s m args below meth c 0 0 Q K ad 3 A 27 [(0, .ref (ad 5)), (1, .int (iI x1)), (2, .int (iI x2_6))] [] (dW D_hasBoard D_beganBlank F_mines F_moves F_changes G_width G_height G_size B_parts B_longest S_groups_28 S_askedGroup_29 S_taken_30 R_waitingCount R_metCount A_grade A_cell A_mined A_withTotal A_numbers X_low X_high Y_low Y_high F_mined F_number F_state F_cellsIn F_unknownNear F_hitNear F_moveStart F_changed F_waiting F_seen G_near G_nearEnd B_chosen B_partOf B_rest_31 B_unknowns_32 B_partStart B_cells S_minedSet_33 S_safeSet_34 S_partSet_35 S_tally_36 S_askedTally_37 S_groupOf_38 S_groupSize_39 S_links_40 S_linkEnd_41 S_pick_42 S_groupMinedSet_43 S_groupSafeSet_44 O_sums O_nextSums R_found R_openEnds R_need R_waiting R_waits R_common R_met A_number Q_mined Q_all Q_choices Q_term Q_divisor Q_spare X_limbs X_sum Y_limbs Y_sum) := by
          intro S_groups_28 S_askedGroup_29 S_taken_30 B_rest_31 B_unknowns_32 S_minedSet_33 S_safeSet_34 S_partSet_35 S_tally_36 S_askedTally_37 S_groupOf_38 S_groupSize_39 S_links_40 S_linkEnd_41 S_pick_42 S_groupMinedSet_43 S_groupSafeSet_44 h
          replace h := hJ_26 S_groups_28 S_askedGroup_29 S_taken_30 B_rest_31 B_unknowns_32 S_minedSet_33 S_safeSet_34 S_partSet_35 S_tally_36 S_askedTally_37 S_groupOf_38 S_groupSize_39 S_links_40 S_linkEnd_41 S_pick_42 S_groupMinedSet_43 S_groupSafeSet_44 h
          obtain ⟨r_45, h⟩ := h
          refine wa_iinc C (lv' := fun w9 => [(2, .int (iI w9)), (0, .ref (ad 5)), (1, .int (iI x1))]) 2 rfl dX6_takeAllBut_27 (by decide) (fun _ => rfl) (fun x2_46 ex2_46 => ?_)
          replace h := h x2_46 ex2_46
          have rx2_46 : inR x2_46 := by rw [ex2_46]; exact r_45
          refine wa_goto C (tgt := 2) dX6_takeAllBut_30 (by decide) ?_
          obtain ⟨n_47, ln_47, h⟩ := h
          refine wa_sub C [1, 2, 0] rfl ?_
          exact ih_4 n_47 ln_47 x2_46 S_groups_28 S_askedGroup_29 S_taken_30 B_rest_31 B_unknowns_32 S_minedSet_33 S_safeSet_34 S_partSet_35 S_tally_36 S_askedTally_37 S_groupOf_38 S_groupSize_39 S_links_40 S_linkEnd_41 S_pick_42 S_groupMinedSet_43 S_groupSafeSet_44 rx2_46 h
        refine wa_icmp_eq C (tgt := 27) rx2_6 rx1 dX6_takeAllBut_15 (by decide) (fun c_48 => ?_) (fun c_48 => ?_)
        · replace h := h.1 c_48
          refine wa_sub C [0, 1, 2] rfl ?_
          exact k_27 S_groups_7 S_askedGroup_8 S_taken_9 B_rest_10 B_unknowns_11 S_minedSet_12 S_safeSet_13 S_partSet_14 S_tally_15 S_askedTally_16 S_groupOf_17 S_groupSize_18 S_links_19 S_linkEnd_20 S_pick_21 S_groupMinedSet_22 S_groupSafeSet_23 h
        · replace h := h.2 c_48
          refine wa_aload_n C 0 rfl dX6_takeAllBut_18 rfl ?_
          refine wa_getR C 5 1 dW_5 rfl rfl (by decide) okX6 gw_273 dX6_takeAllBut_19 ?_
          refine wa_iload_n C 2 rfl dX6_takeAllBut_22 rfl ?_
          refine wa_iconst C (z := -1) dX6_takeAllBut_23 rfl ?_
          refine wa_callVv C (k := 4) (As := [.int (iI x2_6), .int (iI (-1))]) (rest := []) (c_X9_take l K ad x2_6 (-1) rx2_6 (inR_k (-1) rfl) _ h) gw_753 gw_750 dW_4 rfl gw_751 gw_752 gw_5 q_X9_take rfl rfl rfl ⟨by decide, by decide⟩ rfl (Nat.le_of_ble_eq_true rfl) dX6_takeAllBut_24 (fun u9 hp => ?_)
          obtain ⟨S_groups_49, S_askedGroup_50, S_taken_51, B_rest_52, B_unknowns_53, S_minedSet_54, S_safeSet_55, S_partSet_56, S_tally_57, S_askedTally_58, S_groupOf_59, S_groupSize_60, S_links_61, S_linkEnd_62, S_pick_63, S_groupMinedSet_64, S_groupSafeSet_65, rfl, h⟩ := hp
          refine wa_sub C [0, 1, 2] rfl ?_
          exact k_27 S_groups_49 S_askedGroup_50 S_taken_51 B_rest_52 B_unknowns_53 S_minedSet_54 S_safeSet_55 S_partSet_56 S_tally_57 S_askedTally_58 S_groupOf_59 S_groupSize_60 S_links_61 S_linkEnd_62 S_pick_63 S_groupMinedSet_64 S_groupSafeSet_65 h
  refine wa_sub C [1, 2, 0] rfl ?_
  exact k_5 n_2 0 S_groups S_askedGroup S_taken B_rest B_unknowns S_minedSet S_safeSet S_partSet S_tally S_askedTally S_groupOf S_groupSize S_links S_linkEnd S_pick S_groupMinedSet S_groupSafeSet (inR_k 0 rfl) h0Inv_1
def P_J7_fill_d0a16_43 (post : (Int → Int64) → Prop) (O_nextSums : Int → Int64) (x1 : Int64) : Prop :=
  ∃ Inv_1 : Nat → (Int) → (Int → Int64) → Prop, (∃ n_2 : Nat, Inv_1 n_2 0 O_nextSums) ∧ ∀ (n_3 : Nat) (x3_6 : Int) (O_nextSums_7 : Int → Int64), inR x3_6 → Inv_1 n_3 x3_6 O_nextSums_7 → ((3 ≤ x3_6 → (post O_nextSums_7)) ∧ (¬ 3 ≤ x3_6 → ((0 ≤ x3_6 ∧ x3_6 < 3) ∧ (∀ O_nextSums_10 : Int → Int64, O_nextSums_10 = upZ O_nextSums_7 x3_6 x1 → (inR (x3_6 + 1) ∧ (∀ x3_12 : Int, x3_12 = (x3_6 + 1) → (∃ n_13 : Nat, n_13 < n_3 ∧ Inv_1 n_13 x3_12 O_nextSums_10)))))))
set_option maxRecDepth 100000 in
set_option maxHeartbeats 4000000 in
theorem c_J7_fill_d0a16_43 (l : Launch) (K : wK) (ad : Nat → Nat) {D_hasBoard : Int} {D_beganBlank : Int} {F_mines : Int} {F_moves : Int} {F_changes : Int} {G_width : Int} {G_height : Int} {G_size : Int} {B_parts : Int} {B_longest : Int} {S_groups : Int} {S_askedGroup : Int} {S_taken : Int} {R_waitingCount : Int} {R_metCount : Int} {A_grade : Int} {A_cell : Int} {A_mined : Int} {A_withTotal : Int} {A_numbers : Int} {X_low : Int} {X_high : Int} {Y_low : Int} {Y_high : Int} {F_mined : Int → Int} {F_number : Int → Int} {F_state : Int → Int} {F_cellsIn : Int → Int} {F_unknownNear : Int → Int} {F_hitNear : Int → Int} {F_moveStart : Int → Int} {F_changed : Int → Int} {F_waiting : Int → Int} {F_seen : Int → Int} {G_near : Int → Int} {G_nearEnd : Int → Int} {B_chosen : Int → Int} {B_partOf : Int → Int} {B_rest : Int → Int} {B_unknowns : Int → Int} {B_partStart : Int → Int} {B_cells : Int → Int} {S_minedSet : Int → Int} {S_safeSet : Int → Int} {S_partSet : Int → Int} {S_tally : Int → Int} {S_askedTally : Int → Int} {S_groupOf : Int → Int} {S_groupSize : Int → Int} {S_links : Int → Int} {S_linkEnd : Int → Int} {S_pick : Int → Int} {S_groupMinedSet : Int → Int} {S_groupSafeSet : Int → Int} {O_sums : Int → Int64} {O_nextSums : Int → Int64} {R_found : Int → Int} {R_openEnds : Int → Int} {R_need : Int → Int} {R_waiting : Int → Int} {R_waits : Int → Int} {R_common : Int → Int} {R_met : Int → Int} {A_number : Int → Int} {Q_mined : Int → Int64} {Q_all : Int → Int64} {Q_choices : Int → Int64} {Q_term : Int → Int64} {Q_divisor : Int → Int64} {Q_spare : Int → Int64} {X_limbs : Int → Int64} {X_sum : Int → Int64} {Y_limbs : Int → Int64} {Y_sum : Int → Int64} (x1 : Int64)  (post : (Int → Int64) → Prop) (h : P_J7_fill_d0a16_43 post O_nextSums x1) : mV l yJ7_fill_d0a16 (Cond.code yJ7_fill_d0a16 cJ7_fill_d0a16 5 none :: GT) ({ frames := 2, cells := 0, slots := 0, locals := 120 } : Room) [.ref (ad 43), .long x1] K ad (dW D_hasBoard D_beganBlank F_mines F_moves F_changes G_width G_height G_size B_parts B_longest S_groups S_askedGroup S_taken R_waitingCount R_metCount A_grade A_cell A_mined A_withTotal A_numbers X_low X_high Y_low Y_high F_mined F_number F_state F_cellsIn F_unknownNear F_hitNear F_moveStart F_changed F_waiting F_seen G_near G_nearEnd B_chosen B_partOf B_rest B_unknowns B_partStart B_cells S_minedSet S_safeSet S_partSet S_tally S_askedTally S_groupOf S_groupSize S_links S_linkEnd S_pick S_groupMinedSet S_groupSafeSet O_sums O_nextSums R_found R_openEnds R_need R_waiting R_waits R_common R_met A_number Q_mined Q_all Q_choices Q_term Q_divisor Q_spare X_limbs X_sum Y_limbs Y_sum) (fun u9 => ∃ O_nextSums9, u9 = (dW D_hasBoard D_beganBlank F_mines F_moves F_changes G_width G_height G_size B_parts B_longest S_groups S_askedGroup S_taken R_waitingCount R_metCount A_grade A_cell A_mined A_withTotal A_numbers X_low X_high Y_low Y_high F_mined F_number F_state F_cellsIn F_unknownNear F_hitNear F_moveStart F_changed F_waiting F_seen G_near G_nearEnd B_chosen B_partOf B_rest B_unknowns B_partStart B_cells S_minedSet S_safeSet S_partSet S_tally S_askedTally S_groupOf S_groupSize S_links S_linkEnd S_pick S_groupMinedSet S_groupSafeSet O_sums O_nextSums9 R_found R_openEnds R_need R_waiting R_waits R_common R_met A_number Q_mined Q_all Q_choices Q_term Q_divisor Q_spare X_limbs X_sum Y_limbs Y_sum) ∧ post O_nextSums9) := by
  refine mV_of (lv0 := [(0, .ref (ad 43)), (1, .long x1)]) (by decide) (Nat.le_of_ble_eq_true rfl) rfl ?_
  intro p e s m args below meth c Q A C ret
  replace C : Cx p ({ frames := 2, cells := 0, slots := 0, locals := 120 } : Room) m c 0 0 cJ7_fill_d0a16 5 s args RJ7 K A := C
  unfold P_J7_fill_d0a16_43 at h
  refine wa_iconst C (z := 0) dJ7_fill_d0a16_0 rfl ?_
  refine wa_istore_n C dJ7_fill_d0a16_1 rfl (by decide) rfl ?_
  refine wa_aload_n C 1 rfl dJ7_fill_d0a16_2 rfl ?_
  refine wa_alen C (z := 3) 43 dW_43 rfl dJ7_fill_d0a16_3 ?_
  refine wa_istore C dJ7_fill_d0a16_4 (by decide) rfl ?_
  obtain ⟨Inv_1, ⟨n_2, h0Inv_1⟩, hInv_1⟩ := h
  have k_5 : ∀ (n_3 : Nat) (x3_6 : Int) (O_nextSums_7 : Int → Int64), inR x3_6 → Inv_1 n_3 x3_6 O_nextSums_7 → WA p l e ({ frames := 2, cells := 0, slots := 0, locals := 120 } : Room) s m args below meth c 0 0 Q K ad 5 A 6 [(0, .ref (ad 43)), (1, .long x1), (3, .int (iI x3_6)), (4, .int (iI 3))] [] (dW D_hasBoard D_beganBlank F_mines F_moves F_changes G_width G_height G_size B_parts B_longest S_groups S_askedGroup S_taken R_waitingCount R_metCount A_grade A_cell A_mined A_withTotal A_numbers X_low X_high Y_low Y_high F_mined F_number F_state F_cellsIn F_unknownNear F_hitNear F_moveStart F_changed F_waiting F_seen G_near G_nearEnd B_chosen B_partOf B_rest B_unknowns B_partStart B_cells S_minedSet S_safeSet S_partSet S_tally S_askedTally S_groupOf S_groupSize S_links S_linkEnd S_pick S_groupMinedSet S_groupSafeSet O_sums O_nextSums_7 R_found R_openEnds R_need R_waiting R_waits R_common R_met A_number Q_mined Q_all Q_choices Q_term Q_divisor Q_spare X_limbs X_sum Y_limbs Y_sum) := by
    intro n_3
    induction n_3 using Nat.strongRecOn with
    | ind n_3 ih_4 =>
      intro x3_6 O_nextSums_7 rx3_6 h
      replace h := hInv_1 n_3 x3_6 O_nextSums_7 rx3_6 h
      refine wa_iload_n C 2 rfl dJ7_fill_d0a16_6 rfl ?_
      refine wa_iload C 3 rfl dJ7_fill_d0a16_7 ?_
      refine wa_icmp_ge C (tgt := 22) rx3_6 (inR_k 3 rfl) dJ7_fill_d0a16_9 (by decide) (fun c_8 => ?_) (fun c_8 => ?_)
      · replace h := h.1 c_8
        exact ret dJ7_fill_d0a16_22 ⟨_, rfl, h⟩
      · replace h := h.2 c_8
        refine wa_aload_n C 0 rfl dJ7_fill_d0a16_12 rfl ?_
        refine wa_iload_n C 2 rfl dJ7_fill_d0a16_13 rfl ?_
        refine wa_lload_n C 1 rfl dJ7_fill_d0a16_14 rfl ?_
        obtain ⟨t_9, h⟩ := h
        refine wa_last C (ws' := fun w9 => (dW D_hasBoard D_beganBlank F_mines F_moves F_changes G_width G_height G_size B_parts B_longest S_groups S_askedGroup S_taken R_waitingCount R_metCount A_grade A_cell A_mined A_withTotal A_numbers X_low X_high Y_low Y_high F_mined F_number F_state F_cellsIn F_unknownNear F_hitNear F_moveStart F_changed F_waiting F_seen G_near G_nearEnd B_chosen B_partOf B_rest B_unknowns B_partStart B_cells S_minedSet S_safeSet S_partSet S_tally S_askedTally S_groupOf S_groupSize S_links S_linkEnd S_pick S_groupMinedSet S_groupSafeSet O_sums w9 R_found R_openEnds R_need R_waiting R_waits R_common R_met A_number Q_mined Q_all Q_choices Q_term Q_divisor Q_spare X_limbs X_sum Y_limbs Y_sum)) 43 dW_43 dJ7_fill_d0a16_15 t_9.1 t_9.2 dWs_43 (fun O_nextSums_10 eO_nextSums_10 => ?_)
        replace h := h O_nextSums_10 eO_nextSums_10
        obtain ⟨r_11, h⟩ := h
        refine wa_iinc C (lv' := fun w9 => [(3, .int (iI w9)), (0, .ref (ad 43)), (1, .long x1), (4, .int (iI 3))]) 2 rfl dJ7_fill_d0a16_16 (by decide) (fun _ => rfl) (fun x3_12 ex3_12 => ?_)
        replace h := h x3_12 ex3_12
        have rx3_12 : inR x3_12 := by rw [ex3_12]; exact r_11
        refine wa_goto C (tgt := 6) dJ7_fill_d0a16_19 (by decide) ?_
        obtain ⟨n_13, ln_13, h⟩ := h
        refine wa_sub C [1, 2, 0, 3] rfl ?_
        exact ih_4 n_13 ln_13 x3_12 O_nextSums_10 rx3_12 h
  refine wa_sub C [2, 3, 1, 0] rfl ?_
  exact k_5 n_2 0 O_nextSums (inR_k 0 rfl) h0Inv_1
def P_X6_addSet (post : (Int → Int64) → (Int → Int64) → Prop) (O_sums : Int → Int64) (O_nextSums : Int → Int64) (x1 : Int) : Prop :=
  P_J7_fill_d0a16_43 (fun (O_nextSums_1 : Int → Int64) => (∃ Inv_2 : Nat → (Int) → (Int → Int64) → Prop, (∃ n_3 : Nat, Inv_2 n_3 0 O_nextSums_1) ∧ ∀ (n_4 : Nat) (x2_7 : Int) (O_nextSums_8 : Int → Int64), inR x2_7 → Inv_2 n_4 x2_7 O_nextSums_8 → ((16 < x2_7 → (((0 : Int) ≤ 0 ∧ (0 : Int) ≤ 0 ∧ (0 : Int) ≤ 3 ∧ (0 : Int) + 3 ≤ 3 ∧ (0 : Int) + 3 ≤ 3) ∧ (∀ O_sums_11 : Int → Int64, O_sums_11 = cpZ O_nextSums_8 O_sums 0 0 3 → (post O_sums_11 O_nextSums_8)))) ∧ (¬ 16 < x2_7 → (∃ J_12 : (Int → Int64) → Prop, ((¬ (andI (shrI x1 x2_7) 1) = 0 → (∃ Inv_19 : Nat → (Int) → (Int → Int64) → Prop, (∃ n_20 : Nat, Inv_19 n_20 0 O_nextSums_8) ∧ ∀ (n_21 : Nat) (x3_24 : Int) (O_nextSums_25 : Int → Int64), inR x3_24 → Inv_19 n_21 x3_24 O_nextSums_25 → ((3 ≤ x3_24 → (J_12 O_nextSums_25)) ∧ (¬ 3 ≤ x3_24 → ((0 ≤ x3_24 ∧ x3_24 < 3) ∧ (∀ v_28 : Int64, v_28 = O_nextSums_25 x3_24 → ((0 ≤ x3_24 ∧ x3_24 < 3) ∧ (∀ v_30 : Int64, v_30 = O_sums x3_24 → ((0 ≤ x3_24 ∧ x3_24 < 3) ∧ (∀ O_nextSums_32 : Int → Int64, O_nextSums_32 = upZ O_nextSums_25 x3_24 (v_28 ||| (shlL v_30 x2_7)) → (∃ J_33 : (Int → Int64) → Prop, ((x3_24 ≤ 0 → (J_33 O_nextSums_32)) ∧ (¬ x3_24 ≤ 0 → ((x2_7 ≤ 0 → (J_33 O_nextSums_32)) ∧ (¬ x2_7 ≤ 0 → ((0 ≤ x3_24 ∧ x3_24 < 3) ∧ (∀ v_42 : Int64, v_42 = O_nextSums_32 x3_24 → ((0 ≤ (x3_24 - 1) ∧ (x3_24 - 1) < 3) ∧ (∀ v_44 : Int64, v_44 = O_sums (x3_24 - 1) → ((0 ≤ x3_24 ∧ x3_24 < 3) ∧ (∀ O_nextSums_46 : Int → Int64, O_nextSums_46 = upZ O_nextSums_32 x3_24 (v_42 ||| (ushrL v_44 (64 - x2_7))) → (J_33 O_nextSums_46))))))))))) ∧ (∀ (O_nextSums_35 : Int → Int64), J_33 O_nextSums_35 → (inR (x3_24 + 1) ∧ (∀ x3_37 : Int, x3_37 = (x3_24 + 1) → (∃ n_38 : Nat, n_38 < n_21 ∧ Inv_19 n_38 x3_37 O_nextSums_35))))))))))))))) ∧ ((andI (shrI x1 x2_7) 1) = 0 → (J_12 O_nextSums_8))) ∧ (∀ (O_nextSums_14 : Int → Int64), J_12 O_nextSums_14 → (inR (x2_7 + 1) ∧ (∀ x2_16 : Int, x2_16 = (x2_7 + 1) → (∃ n_17 : Nat, n_17 < n_4 ∧ Inv_2 n_17 x2_16 O_nextSums_14))))))))) O_nextSums (0 : Int64)
set_option maxRecDepth 100000 in
set_option maxHeartbeats 4000000 in
theorem c_X6_addSet (l : Launch) (K : wK) (ad : Nat → Nat) {D_hasBoard : Int} {D_beganBlank : Int} {F_mines : Int} {F_moves : Int} {F_changes : Int} {G_width : Int} {G_height : Int} {G_size : Int} {B_parts : Int} {B_longest : Int} {S_groups : Int} {S_askedGroup : Int} {S_taken : Int} {R_waitingCount : Int} {R_metCount : Int} {A_grade : Int} {A_cell : Int} {A_mined : Int} {A_withTotal : Int} {A_numbers : Int} {X_low : Int} {X_high : Int} {Y_low : Int} {Y_high : Int} {F_mined : Int → Int} {F_number : Int → Int} {F_state : Int → Int} {F_cellsIn : Int → Int} {F_unknownNear : Int → Int} {F_hitNear : Int → Int} {F_moveStart : Int → Int} {F_changed : Int → Int} {F_waiting : Int → Int} {F_seen : Int → Int} {G_near : Int → Int} {G_nearEnd : Int → Int} {B_chosen : Int → Int} {B_partOf : Int → Int} {B_rest : Int → Int} {B_unknowns : Int → Int} {B_partStart : Int → Int} {B_cells : Int → Int} {S_minedSet : Int → Int} {S_safeSet : Int → Int} {S_partSet : Int → Int} {S_tally : Int → Int} {S_askedTally : Int → Int} {S_groupOf : Int → Int} {S_groupSize : Int → Int} {S_links : Int → Int} {S_linkEnd : Int → Int} {S_pick : Int → Int} {S_groupMinedSet : Int → Int} {S_groupSafeSet : Int → Int} {O_sums : Int → Int64} {O_nextSums : Int → Int64} {R_found : Int → Int} {R_openEnds : Int → Int} {R_need : Int → Int} {R_waiting : Int → Int} {R_waits : Int → Int} {R_common : Int → Int} {R_met : Int → Int} {A_number : Int → Int} {Q_mined : Int → Int64} {Q_all : Int → Int64} {Q_choices : Int → Int64} {Q_term : Int → Int64} {Q_divisor : Int → Int64} {Q_spare : Int → Int64} {X_limbs : Int → Int64} {X_sum : Int → Int64} {Y_limbs : Int → Int64} {Y_sum : Int → Int64} (x1 : Int) (rx1 : inR x1) (post : (Int → Int64) → (Int → Int64) → Prop) (h : P_X6_addSet post O_sums O_nextSums x1) : mV l yX6_addSet (Cond.code yX6_addSet cX6_addSet 4 none :: GT) ({ frames := 3, cells := 0, slots := 0, locals := 180 } : Room) [.ref (ad 5), .int (iI x1)] K ad (dW D_hasBoard D_beganBlank F_mines F_moves F_changes G_width G_height G_size B_parts B_longest S_groups S_askedGroup S_taken R_waitingCount R_metCount A_grade A_cell A_mined A_withTotal A_numbers X_low X_high Y_low Y_high F_mined F_number F_state F_cellsIn F_unknownNear F_hitNear F_moveStart F_changed F_waiting F_seen G_near G_nearEnd B_chosen B_partOf B_rest B_unknowns B_partStart B_cells S_minedSet S_safeSet S_partSet S_tally S_askedTally S_groupOf S_groupSize S_links S_linkEnd S_pick S_groupMinedSet S_groupSafeSet O_sums O_nextSums R_found R_openEnds R_need R_waiting R_waits R_common R_met A_number Q_mined Q_all Q_choices Q_term Q_divisor Q_spare X_limbs X_sum Y_limbs Y_sum) (fun u9 => ∃ O_sums9 O_nextSums9, u9 = (dW D_hasBoard D_beganBlank F_mines F_moves F_changes G_width G_height G_size B_parts B_longest S_groups S_askedGroup S_taken R_waitingCount R_metCount A_grade A_cell A_mined A_withTotal A_numbers X_low X_high Y_low Y_high F_mined F_number F_state F_cellsIn F_unknownNear F_hitNear F_moveStart F_changed F_waiting F_seen G_near G_nearEnd B_chosen B_partOf B_rest B_unknowns B_partStart B_cells S_minedSet S_safeSet S_partSet S_tally S_askedTally S_groupOf S_groupSize S_links S_linkEnd S_pick S_groupMinedSet S_groupSafeSet O_sums9 O_nextSums9 R_found R_openEnds R_need R_waiting R_waits R_common R_met A_number Q_mined Q_all Q_choices Q_term Q_divisor Q_spare X_limbs X_sum Y_limbs Y_sum) ∧ post O_sums9 O_nextSums9) := by
  refine mV_of (lv0 := [(0, .ref (ad 5)), (1, .int (iI x1))]) (by decide) (Nat.le_of_ble_eq_true rfl) rfl ?_
  intro p e s m args below meth c Q A C ret
  replace C : Cx p ({ frames := 3, cells := 0, slots := 0, locals := 180 } : Room) m c 0 0 cX6_addSet 4 s args RX6 K A := C
  unfold P_X6_addSet at h
  refine wa_aload_n C 0 rfl dX6_addSet_0 rfl ?_
  refine wa_getR C 5 4 dW_5 rfl rfl (by decide) okX6 gw_276 dX6_addSet_1 ?_
  refine wa_lconst C (v := 0) dX6_addSet_4 rfl ?_
  refine wa_callSv C (As := [.ref (ad 43), .long (0 : Int64)]) (rest := []) (c_J7_fill_d0a16_43 l K ad (0 : Int64) _ h) gw_822 gw_820 gw_821 gw_17 q_J7_fill_d0a16 rfl rfl rfl ⟨by decide, by decide⟩ rfl (Nat.le_of_ble_eq_true rfl) dX6_addSet_5 (fun u9 hp => ?_)
  obtain ⟨O_nextSums_1, rfl, h⟩ := hp
  refine wa_iconst C (z := 0) dX6_addSet_8 rfl ?_
  refine wa_istore_n C dX6_addSet_9 rfl (by decide) rfl ?_
  obtain ⟨Inv_2, ⟨n_3, h0Inv_2⟩, hInv_2⟩ := h
  have k_6 : ∀ (n_4 : Nat) (x2_7 : Int) (O_nextSums_8 : Int → Int64), inR x2_7 → Inv_2 n_4 x2_7 O_nextSums_8 → WA p l e ({ frames := 3, cells := 0, slots := 0, locals := 180 } : Room) s m args below meth c 0 0 Q K ad 4 A 10 [(0, .ref (ad 5)), (1, .int (iI x1)), (2, .int (iI x2_7))] [] (dW D_hasBoard D_beganBlank F_mines F_moves F_changes G_width G_height G_size B_parts B_longest S_groups S_askedGroup S_taken R_waitingCount R_metCount A_grade A_cell A_mined A_withTotal A_numbers X_low X_high Y_low Y_high F_mined F_number F_state F_cellsIn F_unknownNear F_hitNear F_moveStart F_changed F_waiting F_seen G_near G_nearEnd B_chosen B_partOf B_rest B_unknowns B_partStart B_cells S_minedSet S_safeSet S_partSet S_tally S_askedTally S_groupOf S_groupSize S_links S_linkEnd S_pick S_groupMinedSet S_groupSafeSet O_sums O_nextSums_8 R_found R_openEnds R_need R_waiting R_waits R_common R_met A_number Q_mined Q_all Q_choices Q_term Q_divisor Q_spare X_limbs X_sum Y_limbs Y_sum) := by
    intro n_4
    induction n_4 using Nat.strongRecOn with
    | ind n_4 ih_5 =>
      intro x2_7 O_nextSums_8 rx2_7 h
      replace h := hInv_2 n_4 x2_7 O_nextSums_8 rx2_7 h
      refine wa_iload_n C 2 rfl dX6_addSet_10 rfl ?_
      refine wa_bipush C (z := 16) dX6_addSet_11 (by decide) ?_
      refine wa_icmp_gt C (tgt := 93) rx2_7 (inR_k 16 rfl) dX6_addSet_13 (by decide) (fun c_9 => ?_) (fun c_9 => ?_)
      · replace h := h.1 c_9
        refine wa_aload_n C 0 rfl dX6_addSet_93 rfl ?_
        refine wa_getR C 5 4 dW_5 rfl rfl (by decide) okX6 gw_276 dX6_addSet_94 ?_
        refine wa_iconst C (z := 0) dX6_addSet_97 rfl ?_
        refine wa_aload_n C 0 rfl dX6_addSet_98 rfl ?_
        refine wa_getR C 5 3 dW_5 rfl rfl (by decide) okX6 gw_275 dX6_addSet_99 ?_
        refine wa_iconst C (z := 0) dX6_addSet_102 rfl ?_
        refine wa_iconst C (z := 3) dX6_addSet_103 rfl ?_
        obtain ⟨t_10, h⟩ := h
        refine wa_copyl C (ws' := fun w9 => (dW D_hasBoard D_beganBlank F_mines F_moves F_changes G_width G_height G_size B_parts B_longest S_groups S_askedGroup S_taken R_waitingCount R_metCount A_grade A_cell A_mined A_withTotal A_numbers X_low X_high Y_low Y_high F_mined F_number F_state F_cellsIn F_unknownNear F_hitNear F_moveStart F_changed F_waiting F_seen G_near G_nearEnd B_chosen B_partOf B_rest B_unknowns B_partStart B_cells S_minedSet S_safeSet S_partSet S_tally S_askedTally S_groupOf S_groupSize S_links S_linkEnd S_pick S_groupMinedSet S_groupSafeSet w9 O_nextSums_8 R_found R_openEnds R_need R_waiting R_waits R_common R_met A_number Q_mined Q_all Q_choices Q_term Q_divisor Q_spare X_limbs X_sum Y_limbs Y_sum)) 43 42 dW_43 dW_42 (by decide) gw_823 (inR_k 0 rfl) (inR_k 0 rfl) (inR_k 3 rfl) t_10 (by decide) (by decide) dX6_addSet_104 dWs_42 (fun O_sums_11 eO_sums_11 => ?_)
        replace h := h O_sums_11 eO_sums_11
        exact ret dX6_addSet_107 ⟨_, _, rfl, h⟩
      · replace h := h.2 c_9
        refine wa_iload_n C 1 rfl dX6_addSet_16 rfl ?_
        refine wa_iload_n C 2 rfl dX6_addSet_17 rfl ?_
        refine wa_ishr C dX6_addSet_18 ?_
        refine wa_iconst C (z := 1) dX6_addSet_19 rfl ?_
        refine wa_iand C dX6_addSet_20 ?_
        obtain ⟨J_12, h, hJ_12⟩ := h
        have k_13 : ∀ (O_nextSums_14 : Int → Int64), J_12 O_nextSums_14 → WA p l e ({ frames := 3, cells := 0, slots := 0, locals := 180 } : Room) s m args below meth c 0 0 Q K ad 4 A 87 [(0, .ref (ad 5)), (1, .int (iI x1)), (2, .int (iI x2_7))] [] (dW D_hasBoard D_beganBlank F_mines F_moves F_changes G_width G_height G_size B_parts B_longest S_groups S_askedGroup S_taken R_waitingCount R_metCount A_grade A_cell A_mined A_withTotal A_numbers X_low X_high Y_low Y_high F_mined F_number F_state F_cellsIn F_unknownNear F_hitNear F_moveStart F_changed F_waiting F_seen G_near G_nearEnd B_chosen B_partOf B_rest B_unknowns B_partStart B_cells S_minedSet S_safeSet S_partSet S_tally S_askedTally S_groupOf S_groupSize S_links S_linkEnd S_pick S_groupMinedSet S_groupSafeSet O_sums O_nextSums_14 R_found R_openEnds R_need R_waiting R_waits R_common R_met A_number Q_mined Q_all Q_choices Q_term Q_divisor Q_spare X_limbs X_sum Y_limbs Y_sum) := by
          intro O_nextSums_14 h
          replace h := hJ_12 O_nextSums_14 h
          obtain ⟨r_15, h⟩ := h
          refine wa_iinc C (lv' := fun w9 => [(2, .int (iI w9)), (0, .ref (ad 5)), (1, .int (iI x1))]) 2 rfl dX6_addSet_87 (by decide) (fun _ => rfl) (fun x2_16 ex2_16 => ?_)
          replace h := h x2_16 ex2_16
          have rx2_16 : inR x2_16 := by rw [ex2_16]; exact r_15
          refine wa_goto C (tgt := 10) dX6_addSet_90 (by decide) ?_
          obtain ⟨n_17, ln_17, h⟩ := h
          refine wa_sub C [1, 2, 0] rfl ?_
          exact ih_5 n_17 ln_17 x2_16 O_nextSums_14 rx2_16 h
        refine wa_if_ne C (tgt := 27) (andI_r _ _) dX6_addSet_21 (by decide) (fun c_18 => ?_) (fun c_18 => ?_)
        · replace h := h.1 c_18
          refine wa_iconst C (z := 0) dX6_addSet_27 rfl ?_
          refine wa_istore_n C dX6_addSet_28 rfl (by decide) rfl ?_
          obtain ⟨Inv_19, ⟨n_20, h0Inv_19⟩, hInv_19⟩ := h
          have k_23 : ∀ (n_21 : Nat) (x3_24 : Int) (O_nextSums_25 : Int → Int64), inR x3_24 → Inv_19 n_21 x3_24 O_nextSums_25 → WA p l e ({ frames := 3, cells := 0, slots := 0, locals := 180 } : Room) s m args below meth c 0 0 Q K ad 4 A 29 [(0, .ref (ad 5)), (1, .int (iI x1)), (2, .int (iI x2_7)), (3, .int (iI x3_24))] [] (dW D_hasBoard D_beganBlank F_mines F_moves F_changes G_width G_height G_size B_parts B_longest S_groups S_askedGroup S_taken R_waitingCount R_metCount A_grade A_cell A_mined A_withTotal A_numbers X_low X_high Y_low Y_high F_mined F_number F_state F_cellsIn F_unknownNear F_hitNear F_moveStart F_changed F_waiting F_seen G_near G_nearEnd B_chosen B_partOf B_rest B_unknowns B_partStart B_cells S_minedSet S_safeSet S_partSet S_tally S_askedTally S_groupOf S_groupSize S_links S_linkEnd S_pick S_groupMinedSet S_groupSafeSet O_sums O_nextSums_25 R_found R_openEnds R_need R_waiting R_waits R_common R_met A_number Q_mined Q_all Q_choices Q_term Q_divisor Q_spare X_limbs X_sum Y_limbs Y_sum) := by
            intro n_21
            induction n_21 using Nat.strongRecOn with
            | ind n_21 ih_22 =>
              intro x3_24 O_nextSums_25 rx3_24 h
              replace h := hInv_19 n_21 x3_24 O_nextSums_25 rx3_24 h
              refine wa_iload_n C 3 rfl dX6_addSet_29 rfl ?_
              refine wa_iconst C (z := 3) dX6_addSet_30 rfl ?_
              refine wa_icmp_ge C (tgt := 87) rx3_24 (inR_k 3 rfl) dX6_addSet_31 (by decide) (fun c_26 => ?_) (fun c_26 => ?_)
              · replace h := h.1 c_26
                refine wa_sub C [0, 1, 2] rfl ?_
                exact k_13 O_nextSums_25 h
              · replace h := h.2 c_26
                refine wa_aload_n C 0 rfl dX6_addSet_34 rfl ?_
                refine wa_getR C 5 4 dW_5 rfl rfl (by decide) okX6 gw_276 dX6_addSet_35 ?_
                refine wa_iload_n C 3 rfl dX6_addSet_38 rfl ?_
                refine wa_dup2 C dX6_addSet_39 rfl rfl ?_
                obtain ⟨t_27, h⟩ := h
                refine wa_lald C 43 dW_43 dX6_addSet_40 t_27.1 t_27.2 (fun v_28 ev_28 => ?_)
                replace h := h v_28 ev_28
                refine wa_aload_n C 0 rfl dX6_addSet_41 rfl ?_
                refine wa_getR C 5 3 dW_5 rfl rfl (by decide) okX6 gw_275 dX6_addSet_42 ?_
                refine wa_iload_n C 3 rfl dX6_addSet_45 rfl ?_
                obtain ⟨t_29, h⟩ := h
                refine wa_lald C 42 dW_42 dX6_addSet_46 t_29.1 t_29.2 (fun v_30 ev_30 => ?_)
                replace h := h v_30 ev_30
                refine wa_iload_n C 2 rfl dX6_addSet_47 rfl ?_
                refine wa_lshl C dX6_addSet_48 ?_
                refine wa_lor C dX6_addSet_49 ?_
                obtain ⟨t_31, h⟩ := h
                refine wa_last C (ws' := fun w9 => (dW D_hasBoard D_beganBlank F_mines F_moves F_changes G_width G_height G_size B_parts B_longest S_groups S_askedGroup S_taken R_waitingCount R_metCount A_grade A_cell A_mined A_withTotal A_numbers X_low X_high Y_low Y_high F_mined F_number F_state F_cellsIn F_unknownNear F_hitNear F_moveStart F_changed F_waiting F_seen G_near G_nearEnd B_chosen B_partOf B_rest B_unknowns B_partStart B_cells S_minedSet S_safeSet S_partSet S_tally S_askedTally S_groupOf S_groupSize S_links S_linkEnd S_pick S_groupMinedSet S_groupSafeSet O_sums w9 R_found R_openEnds R_need R_waiting R_waits R_common R_met A_number Q_mined Q_all Q_choices Q_term Q_divisor Q_spare X_limbs X_sum Y_limbs Y_sum)) 43 dW_43 dX6_addSet_50 t_31.1 t_31.2 dWs_43 (fun O_nextSums_32 eO_nextSums_32 => ?_)
                replace h := h O_nextSums_32 eO_nextSums_32
                refine wa_iload_n C 3 rfl dX6_addSet_51 rfl ?_
                obtain ⟨J_33, h, hJ_33⟩ := h
                have k_34 : ∀ (O_nextSums_35 : Int → Int64), J_33 O_nextSums_35 → WA p l e ({ frames := 3, cells := 0, slots := 0, locals := 180 } : Room) s m args below meth c 0 0 Q K ad 4 A 81 [(0, .ref (ad 5)), (1, .int (iI x1)), (2, .int (iI x2_7)), (3, .int (iI x3_24))] [] (dW D_hasBoard D_beganBlank F_mines F_moves F_changes G_width G_height G_size B_parts B_longest S_groups S_askedGroup S_taken R_waitingCount R_metCount A_grade A_cell A_mined A_withTotal A_numbers X_low X_high Y_low Y_high F_mined F_number F_state F_cellsIn F_unknownNear F_hitNear F_moveStart F_changed F_waiting F_seen G_near G_nearEnd B_chosen B_partOf B_rest B_unknowns B_partStart B_cells S_minedSet S_safeSet S_partSet S_tally S_askedTally S_groupOf S_groupSize S_links S_linkEnd S_pick S_groupMinedSet S_groupSafeSet O_sums O_nextSums_35 R_found R_openEnds R_need R_waiting R_waits R_common R_met A_number Q_mined Q_all Q_choices Q_term Q_divisor Q_spare X_limbs X_sum Y_limbs Y_sum) := by
                  intro O_nextSums_35 h
                  replace h := hJ_33 O_nextSums_35 h
                  obtain ⟨r_36, h⟩ := h
                  refine wa_iinc C (lv' := fun w9 => [(3, .int (iI w9)), (0, .ref (ad 5)), (1, .int (iI x1)), (2, .int (iI x2_7))]) 3 rfl dX6_addSet_81 (by decide) (fun _ => rfl) (fun x3_37 ex3_37 => ?_)
                  replace h := h x3_37 ex3_37
                  have rx3_37 : inR x3_37 := by rw [ex3_37]; exact r_36
                  refine wa_goto C (tgt := 29) dX6_addSet_84 (by decide) ?_
                  obtain ⟨n_38, ln_38, h⟩ := h
                  refine wa_sub C [1, 2, 3, 0] rfl ?_
                  exact ih_22 n_38 ln_38 x3_37 O_nextSums_35 rx3_37 h
                refine wa_if_le C (tgt := 81) rx3_24 dX6_addSet_52 (by decide) (fun c_39 => ?_) (fun c_39 => ?_)
                · replace h := h.1 c_39
                  refine wa_sub C [0, 1, 2, 3] rfl ?_
                  exact k_34 O_nextSums_32 h
                · replace h := h.2 c_39
                  refine wa_iload_n C 2 rfl dX6_addSet_55 rfl ?_
                  refine wa_if_le C (tgt := 81) rx2_7 dX6_addSet_56 (by decide) (fun c_40 => ?_) (fun c_40 => ?_)
                  · replace h := h.1 c_40
                    refine wa_sub C [0, 1, 2, 3] rfl ?_
                    exact k_34 O_nextSums_32 h
                  · replace h := h.2 c_40
                    refine wa_aload_n C 0 rfl dX6_addSet_59 rfl ?_
                    refine wa_getR C 5 4 dW_5 rfl rfl (by decide) okX6 gw_276 dX6_addSet_60 ?_
                    refine wa_iload_n C 3 rfl dX6_addSet_63 rfl ?_
                    refine wa_dup2 C dX6_addSet_64 rfl rfl ?_
                    obtain ⟨t_41, h⟩ := h
                    refine wa_lald C 43 dW_43 dX6_addSet_65 t_41.1 t_41.2 (fun v_42 ev_42 => ?_)
                    replace h := h v_42 ev_42
                    refine wa_aload_n C 0 rfl dX6_addSet_66 rfl ?_
                    refine wa_getR C 5 3 dW_5 rfl rfl (by decide) okX6 gw_275 dX6_addSet_67 ?_
                    refine wa_iload_n C 3 rfl dX6_addSet_70 rfl ?_
                    refine wa_iconst C (z := 1) dX6_addSet_71 rfl ?_
                    refine wa_isub C dX6_addSet_72 ?_
                    obtain ⟨t_43, h⟩ := h
                    refine wa_lald C 42 dW_42 dX6_addSet_73 t_43.1 t_43.2 (fun v_44 ev_44 => ?_)
                    replace h := h v_44 ev_44
                    refine wa_bipush C (z := 64) dX6_addSet_74 (by decide) ?_
                    refine wa_iload_n C 2 rfl dX6_addSet_76 rfl ?_
                    refine wa_isub C dX6_addSet_77 ?_
                    refine wa_lushr C dX6_addSet_78 ?_
                    refine wa_lor C dX6_addSet_79 ?_
                    obtain ⟨t_45, h⟩ := h
                    refine wa_last C (ws' := fun w9 => (dW D_hasBoard D_beganBlank F_mines F_moves F_changes G_width G_height G_size B_parts B_longest S_groups S_askedGroup S_taken R_waitingCount R_metCount A_grade A_cell A_mined A_withTotal A_numbers X_low X_high Y_low Y_high F_mined F_number F_state F_cellsIn F_unknownNear F_hitNear F_moveStart F_changed F_waiting F_seen G_near G_nearEnd B_chosen B_partOf B_rest B_unknowns B_partStart B_cells S_minedSet S_safeSet S_partSet S_tally S_askedTally S_groupOf S_groupSize S_links S_linkEnd S_pick S_groupMinedSet S_groupSafeSet O_sums w9 R_found R_openEnds R_need R_waiting R_waits R_common R_met A_number Q_mined Q_all Q_choices Q_term Q_divisor Q_spare X_limbs X_sum Y_limbs Y_sum)) 43 dW_43 dX6_addSet_80 t_45.1 t_45.2 dWs_43 (fun O_nextSums_46 eO_nextSums_46 => ?_)
                    replace h := h O_nextSums_46 eO_nextSums_46
                    refine wa_sub C [0, 1, 2, 3] rfl ?_
                    exact k_34 O_nextSums_46 h
          refine wa_sub C [1, 2, 3, 0] rfl ?_
          exact k_23 n_20 0 O_nextSums_8 (inR_k 0 rfl) h0Inv_19
        · replace h := h.2 c_18
          refine wa_goto C (tgt := 87) dX6_addSet_24 (by decide) ?_
          refine wa_sub C [0, 1, 2] rfl ?_
          exact k_13 O_nextSums_8 h
  refine wa_sub C [1, 2, 0] rfl ?_
  exact k_6 n_3 0 O_nextSums_1 (inR_k 0 rfl) h0Inv_2
def P_X6_sumUp (post : (Int → Int64) → (Int → Int64) → Prop) (B_parts : Int) (S_partSet : Int → Int) (O_sums : Int → Int64) (O_nextSums : Int → Int64) (x1 : Int) (x2 : Int) : Prop :=
  ∃ Inv_1 : Nat → (Int) → (Int → Int64) → Prop, (∃ n_2 : Nat, Inv_1 n_2 0 O_sums) ∧ ∀ (n_3 : Nat) (x3_6 : Int) (O_sums_7 : Int → Int64), inR x3_6 → Inv_1 n_3 x3_6 O_sums_7 → ((3 ≤ x3_6 → (∃ Inv_9 : Nat → (Int) → (Int → Int64) → (Int → Int64) → Prop, (∃ n_10 : Nat, Inv_9 n_10 0 O_sums_7 O_nextSums) ∧ ∀ (n_11 : Nat) (x3_14 : Int) (O_sums_15 : Int → Int64) (O_nextSums_16 : Int → Int64), inR x3_14 → Inv_9 n_11 x3_14 O_sums_15 O_nextSums_16 → ((B_parts ≤ x3_14 → (post O_sums_15 O_nextSums_16)) ∧ (¬ B_parts ≤ x3_14 → (∃ J_19 : (Int → Int64) → (Int → Int64) → Prop, ((x3_14 = x1 → (J_19 O_sums_15 O_nextSums_16)) ∧ (¬ x3_14 = x1 → ((0 ≤ x3_14 ∧ x3_14 < 144) ∧ (∀ v_28 : Int, v_28 = S_partSet x3_14 → inR v_28 → ((v_28 = 1 → (J_19 O_sums_15 O_nextSums_16)) ∧ (¬ v_28 = 1 → ((0 ≤ x3_14 ∧ x3_14 < 144) ∧ (∀ v_31 : Int, v_31 = S_partSet x3_14 → inR v_31 → (P_X6_addSet (fun (O_sums_32 : Int → Int64) (O_nextSums_33 : Int → Int64) => (J_19 O_sums_32 O_nextSums_33)) O_sums_15 O_nextSums_16 v_31))))))))) ∧ (∀ (O_sums_21 : Int → Int64) (O_nextSums_22 : Int → Int64), J_19 O_sums_21 O_nextSums_22 → (inR (x3_14 + 1) ∧ (∀ x3_24 : Int, x3_24 = (x3_14 + 1) → (∃ n_25 : Nat, n_25 < n_11 ∧ Inv_9 n_25 x3_24 O_sums_21 O_nextSums_22))))))))) ∧ (¬ 3 ≤ x3_6 → (inR ((x2 + 1) - (x3_6 * 64)) ∧ (∀ x4_35 : Int, x4_35 = ((x2 + 1) - (x3_6 * 64)) → (∃ J_36 : (Int64) → Prop, ((x4_35 < 64 → ((x4_35 ≤ 0 → (J_36 (0 : Int64))) ∧ (¬ x4_35 ≤ 0 → (J_36 ((shlL (1 : Int64) x4_35) - (1 : Int64)))))) ∧ (¬ x4_35 < 64 → (J_36 (-1 : Int64)))) ∧ (∀ (z_38 : Int64), J_36 z_38 → ((0 ≤ x3_6 ∧ x3_6 < 3) ∧ (∀ O_sums_40 : Int → Int64, O_sums_40 = upZ O_sums_7 x3_6 z_38 → (inR (x3_6 + 1) ∧ (∀ x3_42 : Int, x3_42 = (x3_6 + 1) → (∃ n_43 : Nat, n_43 < n_3 ∧ Inv_1 n_43 x3_42 O_sums_40)))))))))))
set_option maxRecDepth 100000 in
set_option maxHeartbeats 4000000 in
theorem c_X6_sumUp (l : Launch) (K : wK) (ad : Nat → Nat) {D_hasBoard : Int} {D_beganBlank : Int} {F_mines : Int} {F_moves : Int} {F_changes : Int} {G_width : Int} {G_height : Int} {G_size : Int} {B_parts : Int} {B_longest : Int} {S_groups : Int} {S_askedGroup : Int} {S_taken : Int} {R_waitingCount : Int} {R_metCount : Int} {A_grade : Int} {A_cell : Int} {A_mined : Int} {A_withTotal : Int} {A_numbers : Int} {X_low : Int} {X_high : Int} {Y_low : Int} {Y_high : Int} {F_mined : Int → Int} {F_number : Int → Int} {F_state : Int → Int} {F_cellsIn : Int → Int} {F_unknownNear : Int → Int} {F_hitNear : Int → Int} {F_moveStart : Int → Int} {F_changed : Int → Int} {F_waiting : Int → Int} {F_seen : Int → Int} {G_near : Int → Int} {G_nearEnd : Int → Int} {B_chosen : Int → Int} {B_partOf : Int → Int} {B_rest : Int → Int} {B_unknowns : Int → Int} {B_partStart : Int → Int} {B_cells : Int → Int} {S_minedSet : Int → Int} {S_safeSet : Int → Int} {S_partSet : Int → Int} {S_tally : Int → Int} {S_askedTally : Int → Int} {S_groupOf : Int → Int} {S_groupSize : Int → Int} {S_links : Int → Int} {S_linkEnd : Int → Int} {S_pick : Int → Int} {S_groupMinedSet : Int → Int} {S_groupSafeSet : Int → Int} {O_sums : Int → Int64} {O_nextSums : Int → Int64} {R_found : Int → Int} {R_openEnds : Int → Int} {R_need : Int → Int} {R_waiting : Int → Int} {R_waits : Int → Int} {R_common : Int → Int} {R_met : Int → Int} {A_number : Int → Int} {Q_mined : Int → Int64} {Q_all : Int → Int64} {Q_choices : Int → Int64} {Q_term : Int → Int64} {Q_divisor : Int → Int64} {Q_spare : Int → Int64} {X_limbs : Int → Int64} {X_sum : Int → Int64} {Y_limbs : Int → Int64} {Y_sum : Int → Int64} (x1 : Int) (x2 : Int) (rx1 : inR x1) (rx2 : inR x2) (post : (Int → Int64) → (Int → Int64) → Prop) (h : P_X6_sumUp post B_parts S_partSet O_sums O_nextSums x1 x2) : mV l yX6_sumUp (Cond.code yX6_sumUp cX6_sumUp 5 none :: GT) ({ frames := 4, cells := 0, slots := 0, locals := 240 } : Room) [.ref (ad 5), .int (iI x1), .int (iI x2)] K ad (dW D_hasBoard D_beganBlank F_mines F_moves F_changes G_width G_height G_size B_parts B_longest S_groups S_askedGroup S_taken R_waitingCount R_metCount A_grade A_cell A_mined A_withTotal A_numbers X_low X_high Y_low Y_high F_mined F_number F_state F_cellsIn F_unknownNear F_hitNear F_moveStart F_changed F_waiting F_seen G_near G_nearEnd B_chosen B_partOf B_rest B_unknowns B_partStart B_cells S_minedSet S_safeSet S_partSet S_tally S_askedTally S_groupOf S_groupSize S_links S_linkEnd S_pick S_groupMinedSet S_groupSafeSet O_sums O_nextSums R_found R_openEnds R_need R_waiting R_waits R_common R_met A_number Q_mined Q_all Q_choices Q_term Q_divisor Q_spare X_limbs X_sum Y_limbs Y_sum) (fun u9 => ∃ O_sums9 O_nextSums9, u9 = (dW D_hasBoard D_beganBlank F_mines F_moves F_changes G_width G_height G_size B_parts B_longest S_groups S_askedGroup S_taken R_waitingCount R_metCount A_grade A_cell A_mined A_withTotal A_numbers X_low X_high Y_low Y_high F_mined F_number F_state F_cellsIn F_unknownNear F_hitNear F_moveStart F_changed F_waiting F_seen G_near G_nearEnd B_chosen B_partOf B_rest B_unknowns B_partStart B_cells S_minedSet S_safeSet S_partSet S_tally S_askedTally S_groupOf S_groupSize S_links S_linkEnd S_pick S_groupMinedSet S_groupSafeSet O_sums9 O_nextSums9 R_found R_openEnds R_need R_waiting R_waits R_common R_met A_number Q_mined Q_all Q_choices Q_term Q_divisor Q_spare X_limbs X_sum Y_limbs Y_sum) ∧ post O_sums9 O_nextSums9) := by
  refine mV_of (lv0 := [(0, .ref (ad 5)), (1, .int (iI x1)), (2, .int (iI x2))]) (by decide) (Nat.le_of_ble_eq_true rfl) rfl ?_
  intro p e s m args below meth c Q A C ret
  replace C : Cx p ({ frames := 4, cells := 0, slots := 0, locals := 240 } : Room) m c 0 0 cX6_sumUp 5 s args RX6 K A := C
  unfold P_X6_sumUp at h
  refine wa_iconst C (z := 0) dX6_sumUp_0 rfl ?_
  refine wa_istore_n C dX6_sumUp_1 rfl (by decide) rfl ?_
  obtain ⟨Inv_1, ⟨n_2, h0Inv_1⟩, hInv_1⟩ := h
  have k_5 : ∀ (n_3 : Nat) (x3_6 : Int) (O_sums_7 : Int → Int64), inR x3_6 → Inv_1 n_3 x3_6 O_sums_7 → WA p l e ({ frames := 4, cells := 0, slots := 0, locals := 240 } : Room) s m args below meth c 0 0 Q K ad 5 A 2 [(0, .ref (ad 5)), (1, .int (iI x1)), (2, .int (iI x2)), (3, .int (iI x3_6))] [] (dW D_hasBoard D_beganBlank F_mines F_moves F_changes G_width G_height G_size B_parts B_longest S_groups S_askedGroup S_taken R_waitingCount R_metCount A_grade A_cell A_mined A_withTotal A_numbers X_low X_high Y_low Y_high F_mined F_number F_state F_cellsIn F_unknownNear F_hitNear F_moveStart F_changed F_waiting F_seen G_near G_nearEnd B_chosen B_partOf B_rest B_unknowns B_partStart B_cells S_minedSet S_safeSet S_partSet S_tally S_askedTally S_groupOf S_groupSize S_links S_linkEnd S_pick S_groupMinedSet S_groupSafeSet O_sums_7 O_nextSums R_found R_openEnds R_need R_waiting R_waits R_common R_met A_number Q_mined Q_all Q_choices Q_term Q_divisor Q_spare X_limbs X_sum Y_limbs Y_sum) := by
    intro n_3
    induction n_3 using Nat.strongRecOn with
    | ind n_3 ih_4 =>
      intro x3_6 O_sums_7 rx3_6 h
      replace h := hInv_1 n_3 x3_6 O_sums_7 rx3_6 h
      refine wa_iload_n C 3 rfl dX6_sumUp_2 rfl ?_
      refine wa_iconst C (z := 3) dX6_sumUp_3 rfl ?_
      refine wa_icmp_ge C (tgt := 57) rx3_6 (inR_k 3 rfl) dX6_sumUp_4 (by decide) (fun c_8 => ?_) (fun c_8 => ?_)
      · replace h := h.1 c_8
        refine wa_iconst C (z := 0) dX6_sumUp_57 rfl ?_
        refine wa_istore_n C dX6_sumUp_58 rfl (by decide) rfl ?_
        obtain ⟨Inv_9, ⟨n_10, h0Inv_9⟩, hInv_9⟩ := h
        have k_13 : ∀ (n_11 : Nat) (x3_14 : Int) (O_sums_15 : Int → Int64) (O_nextSums_16 : Int → Int64), inR x3_14 → Inv_9 n_11 x3_14 O_sums_15 O_nextSums_16 → WA p l e ({ frames := 4, cells := 0, slots := 0, locals := 240 } : Room) s m args below meth c 0 0 Q K ad 5 A 59 [(0, .ref (ad 5)), (1, .int (iI x1)), (3, .int (iI x3_14))] [] (dW D_hasBoard D_beganBlank F_mines F_moves F_changes G_width G_height G_size B_parts B_longest S_groups S_askedGroup S_taken R_waitingCount R_metCount A_grade A_cell A_mined A_withTotal A_numbers X_low X_high Y_low Y_high F_mined F_number F_state F_cellsIn F_unknownNear F_hitNear F_moveStart F_changed F_waiting F_seen G_near G_nearEnd B_chosen B_partOf B_rest B_unknowns B_partStart B_cells S_minedSet S_safeSet S_partSet S_tally S_askedTally S_groupOf S_groupSize S_links S_linkEnd S_pick S_groupMinedSet S_groupSafeSet O_sums_15 O_nextSums_16 R_found R_openEnds R_need R_waiting R_waits R_common R_met A_number Q_mined Q_all Q_choices Q_term Q_divisor Q_spare X_limbs X_sum Y_limbs Y_sum) := by
          intro n_11
          induction n_11 using Nat.strongRecOn with
          | ind n_11 ih_12 =>
            intro x3_14 O_sums_15 O_nextSums_16 rx3_14 h
            replace h := hInv_9 n_11 x3_14 O_sums_15 O_nextSums_16 rx3_14 h
            refine wa_iload_n C 2 rfl dX6_sumUp_59 rfl ?_
            refine wa_aload_n C 0 rfl dX6_sumUp_60 rfl ?_
            refine wa_getR C 5 0 dW_5 rfl rfl (by decide) okX6 gw_271 dX6_sumUp_61 ?_
            refine wa_getI C 3 8 dW_3 rfl rfl (by decide) okX1 gw_178 dX6_sumUp_64 (fun r_17 => ?_)
            refine wa_icmp_ge C (tgt := 107) rx3_14 r_17 dX6_sumUp_67 (by decide) (fun c_18 => ?_) (fun c_18 => ?_)
            · replace h := h.1 c_18
              exact ret dX6_sumUp_107 ⟨_, _, rfl, h⟩
            · replace h := h.2 c_18
              refine wa_iload_n C 2 rfl dX6_sumUp_70 rfl ?_
              refine wa_iload_n C 1 rfl dX6_sumUp_71 rfl ?_
              obtain ⟨J_19, h, hJ_19⟩ := h
              have k_20 : ∀ (O_sums_21 : Int → Int64) (O_nextSums_22 : Int → Int64), J_19 O_sums_21 O_nextSums_22 → WA p l e ({ frames := 4, cells := 0, slots := 0, locals := 240 } : Room) s m args below meth c 0 0 Q K ad 5 A 101 [(0, .ref (ad 5)), (1, .int (iI x1)), (3, .int (iI x3_14))] [] (dW D_hasBoard D_beganBlank F_mines F_moves F_changes G_width G_height G_size B_parts B_longest S_groups S_askedGroup S_taken R_waitingCount R_metCount A_grade A_cell A_mined A_withTotal A_numbers X_low X_high Y_low Y_high F_mined F_number F_state F_cellsIn F_unknownNear F_hitNear F_moveStart F_changed F_waiting F_seen G_near G_nearEnd B_chosen B_partOf B_rest B_unknowns B_partStart B_cells S_minedSet S_safeSet S_partSet S_tally S_askedTally S_groupOf S_groupSize S_links S_linkEnd S_pick S_groupMinedSet S_groupSafeSet O_sums_21 O_nextSums_22 R_found R_openEnds R_need R_waiting R_waits R_common R_met A_number Q_mined Q_all Q_choices Q_term Q_divisor Q_spare X_limbs X_sum Y_limbs Y_sum) := by
                intro O_sums_21 O_nextSums_22 h
                replace h := hJ_19 O_sums_21 O_nextSums_22 h
                obtain ⟨r_23, h⟩ := h
                refine wa_iinc C (lv' := fun w9 => [(3, .int (iI w9)), (0, .ref (ad 5)), (1, .int (iI x1))]) 2 rfl dX6_sumUp_101 (by decide) (fun _ => rfl) (fun x3_24 ex3_24 => ?_)
                replace h := h x3_24 ex3_24
                have rx3_24 : inR x3_24 := by rw [ex3_24]; exact r_23
                refine wa_goto C (tgt := 59) dX6_sumUp_104 (by decide) ?_
                obtain ⟨n_25, ln_25, h⟩ := h
                refine wa_sub C [1, 2, 0] rfl ?_
                exact ih_12 n_25 ln_25 x3_24 O_sums_21 O_nextSums_22 rx3_24 h
              refine wa_icmp_eq C (tgt := 101) rx3_14 rx1 dX6_sumUp_72 (by decide) (fun c_26 => ?_) (fun c_26 => ?_)
              · replace h := h.1 c_26
                refine wa_sub C [0, 1, 2] rfl ?_
                exact k_20 O_sums_15 O_nextSums_16 h
              · replace h := h.2 c_26
                refine wa_aload_n C 0 rfl dX6_sumUp_75 rfl ?_
                refine wa_getR C 5 1 dW_5 rfl rfl (by decide) okX6 gw_273 dX6_sumUp_76 ?_
                refine wa_getR C 4 2 dW_4 rfl rfl (by decide) okX9 gw_213 dX6_sumUp_79 ?_
                refine wa_iload_n C 2 rfl dX6_sumUp_82 rfl ?_
                obtain ⟨t_27, h⟩ := h
                refine wa_iald C 32 dW_32 dX6_sumUp_83 t_27.1 t_27.2 (fun v_28 ev_28 rv_28 => ?_)
                replace h := h v_28 ev_28 rv_28
                refine wa_iconst C (z := 1) dX6_sumUp_84 rfl ?_
                refine wa_icmp_eq C (tgt := 101) rv_28 (inR_k 1 rfl) dX6_sumUp_85 (by decide) (fun c_29 => ?_) (fun c_29 => ?_)
                · replace h := h.1 c_29
                  refine wa_sub C [0, 1, 2] rfl ?_
                  exact k_20 O_sums_15 O_nextSums_16 h
                · replace h := h.2 c_29
                  refine wa_aload_n C 0 rfl dX6_sumUp_88 rfl ?_
                  refine wa_aload_n C 0 rfl dX6_sumUp_89 rfl ?_
                  refine wa_getR C 5 1 dW_5 rfl rfl (by decide) okX6 gw_273 dX6_sumUp_90 ?_
                  refine wa_getR C 4 2 dW_4 rfl rfl (by decide) okX9 gw_213 dX6_sumUp_93 ?_
                  refine wa_iload_n C 2 rfl dX6_sumUp_96 rfl ?_
                  obtain ⟨t_30, h⟩ := h
                  refine wa_iald C 32 dW_32 dX6_sumUp_97 t_30.1 t_30.2 (fun v_31 ev_31 rv_31 => ?_)
                  replace h := h v_31 ev_31 rv_31
                  refine wa_callVv C (k := 5) (As := [.int (iI v_31)]) (rest := []) (c_X6_addSet l K ad v_31 rv_31 _ h) gw_819 gw_816 dW_5 rfl gw_818 gs_31 gw_6 q_X6_addSet rfl rfl rfl ⟨by decide, by decide⟩ rfl (Nat.le_of_ble_eq_true rfl) dX6_sumUp_98 (fun u9 hp => ?_)
                  obtain ⟨O_sums_32, O_nextSums_33, rfl, h⟩ := hp
                  refine wa_sub C [0, 1, 2] rfl ?_
                  exact k_20 O_sums_32 O_nextSums_33 h
        refine wa_sub C [1, 2, 0] rfl ?_
        exact k_13 n_10 0 O_sums_7 O_nextSums (inR_k 0 rfl) h0Inv_9
      · replace h := h.2 c_8
        refine wa_iload_n C 2 rfl dX6_sumUp_7 rfl ?_
        refine wa_iconst C (z := 1) dX6_sumUp_8 rfl ?_
        refine wa_iadd C dX6_sumUp_9 ?_
        refine wa_iload_n C 3 rfl dX6_sumUp_10 rfl ?_
        refine wa_bipush C (z := 64) dX6_sumUp_11 (by decide) ?_
        refine wa_imul C dX6_sumUp_13 ?_
        refine wa_isub C dX6_sumUp_14 ?_
        obtain ⟨r_34, h⟩ := h
        refine wa_nmi (fun x4_35 ex4_35 => ?_)
        replace h := h x4_35 ex4_35
        have rx4_35 : inR x4_35 := by rw [ex4_35]; exact r_34
        refine wa_istore C dX6_sumUp_15 (by decide) rfl ?_
        refine wa_aload_n C 1 rfl dX6_sumUp_17 rfl ?_
        refine wa_getR C 5 3 dW_5 rfl rfl (by decide) okX6 gw_275 dX6_sumUp_18 ?_
        refine wa_iload_n C 4 rfl dX6_sumUp_21 rfl ?_
        refine wa_iload C 0 rfl dX6_sumUp_22 ?_
        refine wa_bipush C (z := 64) dX6_sumUp_24 (by decide) ?_
        obtain ⟨J_36, h, hJ_36⟩ := h
        have k_37 : ∀ (z_38 : Int64), J_36 z_38 → WA p l e ({ frames := 4, cells := 0, slots := 0, locals := 240 } : Room) s m args below meth c 0 0 Q K ad 5 A 50 [(0, .ref (ad 5)), (1, .int (iI x1)), (2, .int (iI x2)), (3, .int (iI x3_6))] [.long z_38, .int (iI x3_6), .ref (ad 42)] (dW D_hasBoard D_beganBlank F_mines F_moves F_changes G_width G_height G_size B_parts B_longest S_groups S_askedGroup S_taken R_waitingCount R_metCount A_grade A_cell A_mined A_withTotal A_numbers X_low X_high Y_low Y_high F_mined F_number F_state F_cellsIn F_unknownNear F_hitNear F_moveStart F_changed F_waiting F_seen G_near G_nearEnd B_chosen B_partOf B_rest B_unknowns B_partStart B_cells S_minedSet S_safeSet S_partSet S_tally S_askedTally S_groupOf S_groupSize S_links S_linkEnd S_pick S_groupMinedSet S_groupSafeSet O_sums_7 O_nextSums R_found R_openEnds R_need R_waiting R_waits R_common R_met A_number Q_mined Q_all Q_choices Q_term Q_divisor Q_spare X_limbs X_sum Y_limbs Y_sum) := by
          intro z_38 h
          replace h := hJ_36 z_38 h
          obtain ⟨t_39, h⟩ := h
          refine wa_last C (ws' := fun w9 => (dW D_hasBoard D_beganBlank F_mines F_moves F_changes G_width G_height G_size B_parts B_longest S_groups S_askedGroup S_taken R_waitingCount R_metCount A_grade A_cell A_mined A_withTotal A_numbers X_low X_high Y_low Y_high F_mined F_number F_state F_cellsIn F_unknownNear F_hitNear F_moveStart F_changed F_waiting F_seen G_near G_nearEnd B_chosen B_partOf B_rest B_unknowns B_partStart B_cells S_minedSet S_safeSet S_partSet S_tally S_askedTally S_groupOf S_groupSize S_links S_linkEnd S_pick S_groupMinedSet S_groupSafeSet w9 O_nextSums R_found R_openEnds R_need R_waiting R_waits R_common R_met A_number Q_mined Q_all Q_choices Q_term Q_divisor Q_spare X_limbs X_sum Y_limbs Y_sum)) 42 dW_42 dX6_sumUp_50 t_39.1 t_39.2 dWs_42 (fun O_sums_40 eO_sums_40 => ?_)
          replace h := h O_sums_40 eO_sums_40
          obtain ⟨r_41, h⟩ := h
          refine wa_iinc C (lv' := fun w9 => [(3, .int (iI w9)), (0, .ref (ad 5)), (1, .int (iI x1)), (2, .int (iI x2))]) 3 rfl dX6_sumUp_51 (by decide) (fun _ => rfl) (fun x3_42 ex3_42 => ?_)
          replace h := h x3_42 ex3_42
          have rx3_42 : inR x3_42 := by rw [ex3_42]; exact r_41
          refine wa_goto C (tgt := 2) dX6_sumUp_54 (by decide) ?_
          obtain ⟨n_43, ln_43, h⟩ := h
          refine wa_sub C [1, 2, 3, 0] rfl ?_
          exact ih_4 n_43 ln_43 x3_42 O_sums_40 rx3_42 h
        refine wa_icmp_lt C (tgt := 35) rx4_35 (inR_k 64 rfl) dX6_sumUp_26 (by decide) (fun c_44 => ?_) (fun c_44 => ?_)
        · replace h := h.1 c_44
          refine wa_iload C 0 rfl dX6_sumUp_35 ?_
          refine wa_if_le C (tgt := 49) rx4_35 dX6_sumUp_37 (by decide) (fun c_45 => ?_) (fun c_45 => ?_)
          · replace h := h.1 c_45
            refine wa_lconst C (v := 0) dX6_sumUp_49 rfl ?_
            refine wa_sub C [1, 2, 3, 4] rfl ?_
            exact k_37 (0 : Int64) h
          · replace h := h.2 c_45
            refine wa_lconst C (v := 1) dX6_sumUp_40 rfl ?_
            refine wa_iload C 0 rfl dX6_sumUp_41 ?_
            refine wa_lshl C dX6_sumUp_43 ?_
            refine wa_lconst C (v := 1) dX6_sumUp_44 rfl ?_
            refine wa_lsub C dX6_sumUp_45 ?_
            refine wa_goto C (tgt := 50) dX6_sumUp_46 (by decide) ?_
            refine wa_sub C [1, 2, 3, 4] rfl ?_
            exact k_37 ((shlL (1 : Int64) x4_35) - (1 : Int64)) h
        · replace h := h.2 c_44
          refine wa_ldc2 C gw_815 dX6_sumUp_29 ?_
          refine wa_goto C (tgt := 50) dX6_sumUp_32 (by decide) ?_
          refine wa_sub C [1, 2, 3, 4] rfl ?_
          exact k_37 (-1 : Int64) h
  refine wa_sub C [1, 2, 3, 0] rfl ?_
  exact k_5 n_2 0 O_sums (inR_k 0 rfl) h0Inv_1
def P_X6_hasSum (post : Int → Prop) (O_sums : Int → Int64) (x1 : Int) : Prop :=
  ∃ J_1 : (Int) → Prop, (∃ J_5 : Prop, ((x1 < 0 → (J_5)) ∧ (¬ x1 < 0 → ((144 < x1 → (J_5)) ∧ (¬ 144 < x1 → ((0 ≤ (x1.tdiv 64) ∧ (x1.tdiv 64) < 3) ∧ (∀ v_10 : Int64, v_10 = O_sums (x1.tdiv 64) → (((lcI ((ushrL v_10 (x1.tmod 64)) &&& (1 : Int64)) (0 : Int64)) = 0 → (J_5)) ∧ (¬ (lcI ((ushrL v_10 (x1.tmod 64)) &&& (1 : Int64)) (0 : Int64)) = 0 → (J_1 1))))))))) ∧ (J_5 → (J_1 0))) ∧ (∀ (z_3 : Int), inR z_3 → J_1 z_3 → ((z_3 = 0 ∨ z_3 = 1) ∧ (post z_3)))
set_option maxRecDepth 100000 in
set_option maxHeartbeats 4000000 in
theorem c_X6_hasSum (l : Launch) (K : wK) (ad : Nat → Nat) {D_hasBoard : Int} {D_beganBlank : Int} {F_mines : Int} {F_moves : Int} {F_changes : Int} {G_width : Int} {G_height : Int} {G_size : Int} {B_parts : Int} {B_longest : Int} {S_groups : Int} {S_askedGroup : Int} {S_taken : Int} {R_waitingCount : Int} {R_metCount : Int} {A_grade : Int} {A_cell : Int} {A_mined : Int} {A_withTotal : Int} {A_numbers : Int} {X_low : Int} {X_high : Int} {Y_low : Int} {Y_high : Int} {F_mined : Int → Int} {F_number : Int → Int} {F_state : Int → Int} {F_cellsIn : Int → Int} {F_unknownNear : Int → Int} {F_hitNear : Int → Int} {F_moveStart : Int → Int} {F_changed : Int → Int} {F_waiting : Int → Int} {F_seen : Int → Int} {G_near : Int → Int} {G_nearEnd : Int → Int} {B_chosen : Int → Int} {B_partOf : Int → Int} {B_rest : Int → Int} {B_unknowns : Int → Int} {B_partStart : Int → Int} {B_cells : Int → Int} {S_minedSet : Int → Int} {S_safeSet : Int → Int} {S_partSet : Int → Int} {S_tally : Int → Int} {S_askedTally : Int → Int} {S_groupOf : Int → Int} {S_groupSize : Int → Int} {S_links : Int → Int} {S_linkEnd : Int → Int} {S_pick : Int → Int} {S_groupMinedSet : Int → Int} {S_groupSafeSet : Int → Int} {O_sums : Int → Int64} {O_nextSums : Int → Int64} {R_found : Int → Int} {R_openEnds : Int → Int} {R_need : Int → Int} {R_waiting : Int → Int} {R_waits : Int → Int} {R_common : Int → Int} {R_met : Int → Int} {A_number : Int → Int} {Q_mined : Int → Int64} {Q_all : Int → Int64} {Q_choices : Int → Int64} {Q_term : Int → Int64} {Q_divisor : Int → Int64} {Q_spare : Int → Int64} {X_limbs : Int → Int64} {X_sum : Int → Int64} {Y_limbs : Int → Int64} {Y_sum : Int → Int64} (x1 : Int) (rx1 : inR x1) (post : Int → Prop) (h : P_X6_hasSum post O_sums x1) : mI l yX6_hasSum (Cond.code yX6_hasSum cX6_hasSum 2 (some .boolean) :: GT) ({ frames := 2, cells := 0, slots := 0, locals := 120 } : Room) [.ref (ad 5), .int (iI x1)] K ad (dW D_hasBoard D_beganBlank F_mines F_moves F_changes G_width G_height G_size B_parts B_longest S_groups S_askedGroup S_taken R_waitingCount R_metCount A_grade A_cell A_mined A_withTotal A_numbers X_low X_high Y_low Y_high F_mined F_number F_state F_cellsIn F_unknownNear F_hitNear F_moveStart F_changed F_waiting F_seen G_near G_nearEnd B_chosen B_partOf B_rest B_unknowns B_partStart B_cells S_minedSet S_safeSet S_partSet S_tally S_askedTally S_groupOf S_groupSize S_links S_linkEnd S_pick S_groupMinedSet S_groupSafeSet O_sums O_nextSums R_found R_openEnds R_need R_waiting R_waits R_common R_met A_number Q_mined Q_all Q_choices Q_term Q_divisor Q_spare X_limbs X_sum Y_limbs Y_sum) (fun z9 u9 => (z9 = 0 ∨ z9 = 1) ∧ u9 = (dW D_hasBoard D_beganBlank F_mines F_moves F_changes G_width G_height G_size B_parts B_longest S_groups S_askedGroup S_taken R_waitingCount R_metCount A_grade A_cell A_mined A_withTotal A_numbers X_low X_high Y_low Y_high F_mined F_number F_state F_cellsIn F_unknownNear F_hitNear F_moveStart F_changed F_waiting F_seen G_near G_nearEnd B_chosen B_partOf B_rest B_unknowns B_partStart B_cells S_minedSet S_safeSet S_partSet S_tally S_askedTally S_groupOf S_groupSize S_links S_linkEnd S_pick S_groupMinedSet S_groupSafeSet O_sums O_nextSums R_found R_openEnds R_need R_waiting R_waits R_common R_met A_number Q_mined Q_all Q_choices Q_term Q_divisor Q_spare X_limbs X_sum Y_limbs Y_sum) ∧ post z9) := by
  refine mZ_of (lv0 := [(0, .ref (ad 5)), (1, .int (iI x1))]) (by decide) (Nat.le_of_ble_eq_true rfl) rfl ?_
  intro p e s m args below meth c Q A C ret
  replace C : Cx p ({ frames := 2, cells := 0, slots := 0, locals := 120 } : Room) m c 0 0 cX6_hasSum 2 s args RX6 K A := C
  unfold P_X6_hasSum at h
  refine wa_iload_n C 1 rfl dX6_hasSum_0 rfl ?_
  obtain ⟨J_1, h, hJ_1⟩ := h
  have k_2 : ∀ (z_3 : Int), inR z_3 → J_1 z_3 → WA p l e ({ frames := 2, cells := 0, slots := 0, locals := 120 } : Room) s m args below meth c 0 0 Q K ad 2 A 37 [] [.int (iI z_3)] (dW D_hasBoard D_beganBlank F_mines F_moves F_changes G_width G_height G_size B_parts B_longest S_groups S_askedGroup S_taken R_waitingCount R_metCount A_grade A_cell A_mined A_withTotal A_numbers X_low X_high Y_low Y_high F_mined F_number F_state F_cellsIn F_unknownNear F_hitNear F_moveStart F_changed F_waiting F_seen G_near G_nearEnd B_chosen B_partOf B_rest B_unknowns B_partStart B_cells S_minedSet S_safeSet S_partSet S_tally S_askedTally S_groupOf S_groupSize S_links S_linkEnd S_pick S_groupMinedSet S_groupSafeSet O_sums O_nextSums R_found R_openEnds R_need R_waiting R_waits R_common R_met A_number Q_mined Q_all Q_choices Q_term Q_divisor Q_spare X_limbs X_sum Y_limbs Y_sum) := by
    intro z_3 rz_3 h
    replace h := hJ_1 z_3 rz_3 h
    obtain ⟨b_4, h⟩ := h
    exact ret dX6_hasSum_37 b_4 ⟨b_4, rfl, h⟩
  obtain ⟨J_5, h, hJ_5⟩ := h
  have k_6 : J_5 → WA p l e ({ frames := 2, cells := 0, slots := 0, locals := 120 } : Room) s m args below meth c 0 0 Q K ad 2 A 36 [] [] (dW D_hasBoard D_beganBlank F_mines F_moves F_changes G_width G_height G_size B_parts B_longest S_groups S_askedGroup S_taken R_waitingCount R_metCount A_grade A_cell A_mined A_withTotal A_numbers X_low X_high Y_low Y_high F_mined F_number F_state F_cellsIn F_unknownNear F_hitNear F_moveStart F_changed F_waiting F_seen G_near G_nearEnd B_chosen B_partOf B_rest B_unknowns B_partStart B_cells S_minedSet S_safeSet S_partSet S_tally S_askedTally S_groupOf S_groupSize S_links S_linkEnd S_pick S_groupMinedSet S_groupSafeSet O_sums O_nextSums R_found R_openEnds R_need R_waiting R_waits R_common R_met A_number Q_mined Q_all Q_choices Q_term Q_divisor Q_spare X_limbs X_sum Y_limbs Y_sum) := by
    intro h
    replace h := hJ_5 h
    refine wa_iconst C (z := 0) dX6_hasSum_36 rfl ?_
    refine wa_sub C [] rfl ?_
    exact k_2 0 (inR_k 0 rfl) h
  refine wa_if_lt C (tgt := 36) rx1 dX6_hasSum_1 (by decide) (fun c_7 => ?_) (fun c_7 => ?_)
  · replace h := h.1 c_7
    refine wa_sub C [] rfl ?_
    exact k_6 h
  · replace h := h.2 c_7
    refine wa_iload_n C 1 rfl dX6_hasSum_4 rfl ?_
    refine wa_sipush C (z := 144) dX6_hasSum_5 (by decide) ?_
    refine wa_icmp_gt C (tgt := 36) rx1 (inR_k 144 rfl) dX6_hasSum_8 (by decide) (fun c_8 => ?_) (fun c_8 => ?_)
    · replace h := h.1 c_8
      refine wa_sub C [] rfl ?_
      exact k_6 h
    · replace h := h.2 c_8
      refine wa_aload_n C 0 rfl dX6_hasSum_11 rfl ?_
      refine wa_getR C 5 3 dW_5 rfl rfl (by decide) okX6 gw_275 dX6_hasSum_12 ?_
      refine wa_iload_n C 1 rfl dX6_hasSum_15 rfl ?_
      refine wa_bipush C (z := 64) dX6_hasSum_16 (by decide) ?_
      refine wa_idiv C dX6_hasSum_18 rx1 (inR_k 64 rfl) (by decide) ?_
      obtain ⟨t_9, h⟩ := h
      refine wa_lald C 42 dW_42 dX6_hasSum_19 t_9.1 t_9.2 (fun v_10 ev_10 => ?_)
      replace h := h v_10 ev_10
      refine wa_iload_n C 1 rfl dX6_hasSum_20 rfl ?_
      refine wa_bipush C (z := 64) dX6_hasSum_21 (by decide) ?_
      refine wa_irem C dX6_hasSum_23 rx1 (inR_k 64 rfl) (by decide) ?_
      refine wa_lushr C dX6_hasSum_24 ?_
      refine wa_lconst C (v := 1) dX6_hasSum_25 rfl ?_
      refine wa_land C dX6_hasSum_26 ?_
      refine wa_lconst C (v := 0) dX6_hasSum_27 rfl ?_
      refine wa_lcmp C dX6_hasSum_28 ?_
      refine wa_if_eq C (tgt := 36) (lcI_r _ _) dX6_hasSum_29 (by decide) (fun c_11 => ?_) (fun c_11 => ?_)
      · replace h := h.1 c_11
        refine wa_sub C [] rfl ?_
        exact k_6 h
      · replace h := h.2 c_11
        refine wa_iconst C (z := 1) dX6_hasSum_32 rfl ?_
        refine wa_goto C (tgt := 37) dX6_hasSum_33 (by decide) ?_
        refine wa_sub C [] rfl ?_
        exact k_2 1 (inR_k 1 rfl) h
def P_X6_fittingSet (post : Int → (Int → Int64) → (Int → Int64) → Prop) (F_mines : Int) (B_parts : Int) (F_cellsIn : Int → Int) (B_partStart : Int → Int) (S_partSet : Int → Int) (O_sums : Int → Int64) (O_nextSums : Int → Int64) (x1 : Int) : Prop :=
  P_X1_freeCells (fun (c_1 : Int) => inR c_1 → (P_X6_sumUp (fun (O_sums_2 : Int → Int64) (O_nextSums_3 : Int → Int64) => (∃ Inv_4 : Nat → (Int) → (Int) → Prop, (∃ n_5 : Nat, Inv_4 n_5 0 0) ∧ ∀ (n_6 : Nat) (x2_9 : Int) (x3_10 : Int), inR x2_9 → inR x3_10 → Inv_4 n_6 x2_9 x3_10 → ((16 < x3_10 → (post x2_9 O_sums_2 O_nextSums_3)) ∧ (¬ 16 < x3_10 → (P_X2_minesLeft (fun (c_12 : Int) => inR c_12 → (inR (c_12 - x3_10) ∧ (P_X6_hasSum (fun (c_14 : Int) => (c_14 = 0 ∨ c_14 = 1) → (∃ J_15 : (Int) → Prop, ((c_14 = 0 → (J_15 x2_9)) ∧ (¬ c_14 = 0 → (∀ x2_22 : Int, x2_22 = (orI x2_9 (shlI 1 x3_10)) → (J_15 x2_22)))) ∧ (∀ (x2_17 : Int), inR x2_17 → J_15 x2_17 → (inR (x3_10 + 1) ∧ (∀ x3_19 : Int, x3_19 = (x3_10 + 1) → (∃ n_20 : Nat, n_20 < n_6 ∧ Inv_4 n_20 x2_17 x3_19)))))) O_sums_2 (c_12 - x3_10)))) F_mines F_cellsIn ))))) B_parts S_partSet O_sums O_nextSums x1 c_1)) B_parts F_cellsIn B_partStart 
set_option maxRecDepth 100000 in
set_option maxHeartbeats 4000000 in
theorem c_X6_fittingSet (l : Launch) (K : wK) (ad : Nat → Nat) {D_hasBoard : Int} {D_beganBlank : Int} {F_mines : Int} {F_moves : Int} {F_changes : Int} {G_width : Int} {G_height : Int} {G_size : Int} {B_parts : Int} {B_longest : Int} {S_groups : Int} {S_askedGroup : Int} {S_taken : Int} {R_waitingCount : Int} {R_metCount : Int} {A_grade : Int} {A_cell : Int} {A_mined : Int} {A_withTotal : Int} {A_numbers : Int} {X_low : Int} {X_high : Int} {Y_low : Int} {Y_high : Int} {F_mined : Int → Int} {F_number : Int → Int} {F_state : Int → Int} {F_cellsIn : Int → Int} {F_unknownNear : Int → Int} {F_hitNear : Int → Int} {F_moveStart : Int → Int} {F_changed : Int → Int} {F_waiting : Int → Int} {F_seen : Int → Int} {G_near : Int → Int} {G_nearEnd : Int → Int} {B_chosen : Int → Int} {B_partOf : Int → Int} {B_rest : Int → Int} {B_unknowns : Int → Int} {B_partStart : Int → Int} {B_cells : Int → Int} {S_minedSet : Int → Int} {S_safeSet : Int → Int} {S_partSet : Int → Int} {S_tally : Int → Int} {S_askedTally : Int → Int} {S_groupOf : Int → Int} {S_groupSize : Int → Int} {S_links : Int → Int} {S_linkEnd : Int → Int} {S_pick : Int → Int} {S_groupMinedSet : Int → Int} {S_groupSafeSet : Int → Int} {O_sums : Int → Int64} {O_nextSums : Int → Int64} {R_found : Int → Int} {R_openEnds : Int → Int} {R_need : Int → Int} {R_waiting : Int → Int} {R_waits : Int → Int} {R_common : Int → Int} {R_met : Int → Int} {A_number : Int → Int} {Q_mined : Int → Int64} {Q_all : Int → Int64} {Q_choices : Int → Int64} {Q_term : Int → Int64} {Q_divisor : Int → Int64} {Q_spare : Int → Int64} {X_limbs : Int → Int64} {X_sum : Int → Int64} {Y_limbs : Int → Int64} {Y_sum : Int → Int64} (x1 : Int) (rx1 : inR x1) (post : Int → (Int → Int64) → (Int → Int64) → Prop) (h : P_X6_fittingSet post F_mines B_parts F_cellsIn B_partStart S_partSet O_sums O_nextSums x1) : mI l yX6_fittingSet (Cond.code yX6_fittingSet cX6_fittingSet 4 (some .int) :: GT) ({ frames := 5, cells := 0, slots := 0, locals := 300 } : Room) [.ref (ad 5), .int (iI x1)] K ad (dW D_hasBoard D_beganBlank F_mines F_moves F_changes G_width G_height G_size B_parts B_longest S_groups S_askedGroup S_taken R_waitingCount R_metCount A_grade A_cell A_mined A_withTotal A_numbers X_low X_high Y_low Y_high F_mined F_number F_state F_cellsIn F_unknownNear F_hitNear F_moveStart F_changed F_waiting F_seen G_near G_nearEnd B_chosen B_partOf B_rest B_unknowns B_partStart B_cells S_minedSet S_safeSet S_partSet S_tally S_askedTally S_groupOf S_groupSize S_links S_linkEnd S_pick S_groupMinedSet S_groupSafeSet O_sums O_nextSums R_found R_openEnds R_need R_waiting R_waits R_common R_met A_number Q_mined Q_all Q_choices Q_term Q_divisor Q_spare X_limbs X_sum Y_limbs Y_sum) (fun z9 u9 => ∃ O_sums9 O_nextSums9, u9 = (dW D_hasBoard D_beganBlank F_mines F_moves F_changes G_width G_height G_size B_parts B_longest S_groups S_askedGroup S_taken R_waitingCount R_metCount A_grade A_cell A_mined A_withTotal A_numbers X_low X_high Y_low Y_high F_mined F_number F_state F_cellsIn F_unknownNear F_hitNear F_moveStart F_changed F_waiting F_seen G_near G_nearEnd B_chosen B_partOf B_rest B_unknowns B_partStart B_cells S_minedSet S_safeSet S_partSet S_tally S_askedTally S_groupOf S_groupSize S_links S_linkEnd S_pick S_groupMinedSet S_groupSafeSet O_sums9 O_nextSums9 R_found R_openEnds R_need R_waiting R_waits R_common R_met A_number Q_mined Q_all Q_choices Q_term Q_divisor Q_spare X_limbs X_sum Y_limbs Y_sum) ∧ post z9 O_sums9 O_nextSums9) := by
  refine mI_of (lv0 := [(0, .ref (ad 5)), (1, .int (iI x1))]) (by decide) (Nat.le_of_ble_eq_true rfl) rfl ?_
  intro p e s m args below meth c Q A C ret
  replace C : Cx p ({ frames := 5, cells := 0, slots := 0, locals := 300 } : Room) m c 0 0 cX6_fittingSet 4 s args RX6 K A := C
  unfold P_X6_fittingSet at h
  refine wa_aload_n C 0 rfl dX6_fittingSet_0 rfl ?_
  refine wa_iload_n C 1 rfl dX6_fittingSet_1 rfl ?_
  refine wa_aload_n C 0 rfl dX6_fittingSet_2 rfl ?_
  refine wa_getR C 5 0 dW_5 rfl rfl (by decide) okX6 gw_271 dX6_fittingSet_3 ?_
  refine wa_callVi C (k := 3) (As := []) (rest := [.int (iI x1), .ref (ad 5)]) (c_X1_freeCells l K ad  _ h) gw_806 gw_803 dW_3 rfl gw_804 gw_805 gw_4 q_X1_freeCells rfl rfl rfl ⟨by decide, by decide⟩ rfl (Nat.le_of_ble_eq_true rfl) dX6_fittingSet_6 (fun c_1 u9 rc_1 hp => ?_)
  obtain ⟨rfl, h⟩ := hp
  replace h := h rc_1
  refine wa_callVv C (k := 5) (As := [.int (iI x1), .int (iI c_1)]) (rest := []) (c_X6_sumUp l K ad x1 c_1 rx1 rc_1 _ h) gw_814 gw_811 dW_5 rfl gw_813 gs_30 gw_6 q_X6_sumUp rfl rfl rfl ⟨by decide, by decide⟩ rfl (Nat.le_of_ble_eq_true rfl) dX6_fittingSet_9 (fun u9 hp => ?_)
  obtain ⟨O_sums_2, O_nextSums_3, rfl, h⟩ := hp
  refine wa_iconst C (z := 0) dX6_fittingSet_12 rfl ?_
  refine wa_istore_n C dX6_fittingSet_13 rfl (by decide) rfl ?_
  refine wa_iconst C (z := 0) dX6_fittingSet_14 rfl ?_
  refine wa_istore_n C dX6_fittingSet_15 rfl (by decide) rfl ?_
  obtain ⟨Inv_4, ⟨n_5, h0Inv_4⟩, hInv_4⟩ := h
  have k_8 : ∀ (n_6 : Nat) (x2_9 : Int) (x3_10 : Int), inR x2_9 → inR x3_10 → Inv_4 n_6 x2_9 x3_10 → WA p l e ({ frames := 5, cells := 0, slots := 0, locals := 300 } : Room) s m args below meth c 0 0 Q K ad 4 A 16 [(0, .ref (ad 5)), (2, .int (iI x2_9)), (3, .int (iI x3_10))] [] (dW D_hasBoard D_beganBlank F_mines F_moves F_changes G_width G_height G_size B_parts B_longest S_groups S_askedGroup S_taken R_waitingCount R_metCount A_grade A_cell A_mined A_withTotal A_numbers X_low X_high Y_low Y_high F_mined F_number F_state F_cellsIn F_unknownNear F_hitNear F_moveStart F_changed F_waiting F_seen G_near G_nearEnd B_chosen B_partOf B_rest B_unknowns B_partStart B_cells S_minedSet S_safeSet S_partSet S_tally S_askedTally S_groupOf S_groupSize S_links S_linkEnd S_pick S_groupMinedSet S_groupSafeSet O_sums_2 O_nextSums_3 R_found R_openEnds R_need R_waiting R_waits R_common R_met A_number Q_mined Q_all Q_choices Q_term Q_divisor Q_spare X_limbs X_sum Y_limbs Y_sum) := by
    intro n_6
    induction n_6 using Nat.strongRecOn with
    | ind n_6 ih_7 =>
      intro x2_9 x3_10 rx2_9 rx3_10 h
      replace h := hInv_4 n_6 x2_9 x3_10 rx2_9 rx3_10 h
      refine wa_iload_n C 2 rfl dX6_fittingSet_16 rfl ?_
      refine wa_bipush C (z := 16) dX6_fittingSet_17 (by decide) ?_
      refine wa_icmp_gt C (tgt := 50) rx3_10 (inR_k 16 rfl) dX6_fittingSet_19 (by decide) (fun c_11 => ?_) (fun c_11 => ?_)
      · replace h := h.1 c_11
        refine wa_iload_n C 1 rfl dX6_fittingSet_50 rfl ?_
        exact ret dX6_fittingSet_51 rx2_9 ⟨_, _, rfl, h⟩
      · replace h := h.2 c_11
        refine wa_aload_n C 0 rfl dX6_fittingSet_22 rfl ?_
        refine wa_aload_n C 0 rfl dX6_fittingSet_23 rfl ?_
        refine wa_getR C 5 2 dW_5 rfl rfl (by decide) okX6 gw_274 dX6_fittingSet_24 ?_
        refine wa_callVi C (k := 1) (As := []) (rest := [.ref (ad 5)]) (c_X2_minesLeft l K ad  _ h) gw_829 gw_826 dW_1 rfl gw_827 gw_828 gw_2 q_X2_minesLeft rfl rfl rfl ⟨by decide, by decide⟩ rfl (Nat.le_of_ble_eq_true rfl) dX6_fittingSet_27 (fun c_12 u9 rc_12 hp => ?_)
        obtain ⟨rfl, h⟩ := hp
        replace h := h rc_12
        refine wa_iload_n C 2 rfl dX6_fittingSet_30 rfl ?_
        refine wa_isub C dX6_fittingSet_31 ?_
        obtain ⟨r_13, h⟩ := h
        refine wa_callVi C (k := 5) (As := [.int (iI (c_12 - x3_10))]) (rest := []) (c_X6_hasSum l K ad (c_12 - x3_10) r_13 _ h) gw_833 gw_830 dW_5 rfl gw_832 gs_32 gw_6 q_X6_hasSum rfl rfl rfl ⟨by decide, by decide⟩ rfl (Nat.le_of_ble_eq_true rfl) dX6_fittingSet_32 (fun c_14 u9 rc_14 hp => ?_)
        obtain ⟨bc_14, rfl, h⟩ := hp
        replace h := h bc_14
        obtain ⟨J_15, h, hJ_15⟩ := h
        have k_16 : ∀ (x2_17 : Int), inR x2_17 → J_15 x2_17 → WA p l e ({ frames := 5, cells := 0, slots := 0, locals := 300 } : Room) s m args below meth c 0 0 Q K ad 4 A 44 [(0, .ref (ad 5)), (2, .int (iI x2_17)), (3, .int (iI x3_10))] [] (dW D_hasBoard D_beganBlank F_mines F_moves F_changes G_width G_height G_size B_parts B_longest S_groups S_askedGroup S_taken R_waitingCount R_metCount A_grade A_cell A_mined A_withTotal A_numbers X_low X_high Y_low Y_high F_mined F_number F_state F_cellsIn F_unknownNear F_hitNear F_moveStart F_changed F_waiting F_seen G_near G_nearEnd B_chosen B_partOf B_rest B_unknowns B_partStart B_cells S_minedSet S_safeSet S_partSet S_tally S_askedTally S_groupOf S_groupSize S_links S_linkEnd S_pick S_groupMinedSet S_groupSafeSet O_sums_2 O_nextSums_3 R_found R_openEnds R_need R_waiting R_waits R_common R_met A_number Q_mined Q_all Q_choices Q_term Q_divisor Q_spare X_limbs X_sum Y_limbs Y_sum) := by
          intro x2_17 rx2_17 h
          replace h := hJ_15 x2_17 rx2_17 h
          obtain ⟨r_18, h⟩ := h
          refine wa_iinc C (lv' := fun w9 => [(3, .int (iI w9)), (0, .ref (ad 5)), (2, .int (iI x2_17))]) 2 rfl dX6_fittingSet_44 (by decide) (fun _ => rfl) (fun x3_19 ex3_19 => ?_)
          replace h := h x3_19 ex3_19
          have rx3_19 : inR x3_19 := by rw [ex3_19]; exact r_18
          refine wa_goto C (tgt := 16) dX6_fittingSet_47 (by decide) ?_
          obtain ⟨n_20, ln_20, h⟩ := h
          refine wa_sub C [1, 2, 0] rfl ?_
          exact ih_7 n_20 ln_20 x2_17 x3_19 rx2_17 rx3_19 h
        refine wa_if_eq C (tgt := 44) (inR_b bc_14) dX6_fittingSet_35 (by decide) (fun c_21 => ?_) (fun c_21 => ?_)
        · replace h := h.1 c_21
          refine wa_sub C [0, 1, 2] rfl ?_
          exact k_16 x2_9 rx2_9 h
        · replace h := h.2 c_21
          refine wa_iload_n C 1 rfl dX6_fittingSet_38 rfl ?_
          refine wa_iconst C (z := 1) dX6_fittingSet_39 rfl ?_
          refine wa_iload_n C 2 rfl dX6_fittingSet_40 rfl ?_
          refine wa_ishl C dX6_fittingSet_41 ?_
          refine wa_ior C dX6_fittingSet_42 ?_
          refine wa_nmi (fun x2_22 ex2_22 => ?_)
          replace h := h x2_22 ex2_22
          have rx2_22 : inR x2_22 := by rw [ex2_22]; exact (orI_r _ _)
          refine wa_istore_n C dX6_fittingSet_43 rfl (by decide) rfl ?_
          refine wa_sub C [1, 0, 2] rfl ?_
          exact k_16 x2_22 rx2_22 h
  refine wa_sub C [2, 1, 0] rfl ?_
  exact k_8 n_5 0 0 (inR_k 0 rfl) (inR_k 0 rfl) h0Inv_4
def P_X6_isSure (post : Int → (Int) → (Int) → (Int) → (Int → Int) → (Int → Int) → (Int → Int) → (Int → Int) → (Int → Int) → (Int → Int) → (Int → Int) → (Int → Int) → (Int → Int) → (Int → Int) → (Int → Int) → (Int → Int) → (Int → Int) → (Int → Int) → (Int → Int64) → (Int → Int64) → Prop) (F_mines : Int) (B_parts : Int) (S_groups : Int) (S_askedGroup : Int) (S_taken : Int) (F_cellsIn : Int → Int) (G_near : Int → Int) (G_nearEnd : Int → Int) (B_chosen : Int → Int) (B_partOf : Int → Int) (B_rest : Int → Int) (B_unknowns : Int → Int) (B_partStart : Int → Int) (B_cells : Int → Int) (S_minedSet : Int → Int) (S_safeSet : Int → Int) (S_partSet : Int → Int) (S_tally : Int → Int) (S_askedTally : Int → Int) (S_groupOf : Int → Int) (S_groupSize : Int → Int) (S_links : Int → Int) (S_linkEnd : Int → Int) (S_pick : Int → Int) (S_groupMinedSet : Int → Int) (S_groupSafeSet : Int → Int) (O_sums : Int → Int64) (O_nextSums : Int → Int64) (x1 : Int) (x2 : Int) (x3 : Int) : Prop :=
  (0 ≤ x1 ∧ x1 < 144) ∧ (∀ v_2 : Int, v_2 = B_partOf x1 → inR v_2 → ((v_2 = (-1) → ((¬ x3 = 0 → (P_X6_takeAllBut (fun (S_groups_5 : Int) (S_askedGroup_6 : Int) (S_taken_7 : Int) (B_rest_8 : Int → Int) (B_unknowns_9 : Int → Int) (S_minedSet_10 : Int → Int) (S_safeSet_11 : Int → Int) (S_partSet_12 : Int → Int) (S_tally_13 : Int → Int) (S_askedTally_14 : Int → Int) (S_groupOf_15 : Int → Int) (S_groupSize_16 : Int → Int) (S_links_17 : Int → Int) (S_linkEnd_18 : Int → Int) (S_pick_19 : Int → Int) (S_groupMinedSet_20 : Int → Int) (S_groupSafeSet_21 : Int → Int) => (P_X1_freeCells (fun (c_22 : Int) => inR c_22 → (inR (c_22 - 1) ∧ (P_X6_sumUp (fun (O_sums_24 : Int → Int64) (O_nextSums_25 : Int → Int64) => (∃ J_26 : (Int) → Prop, ((x2 = 0 → (P_X2_minesLeft (fun (c_36 : Int) => inR c_36 → (inR (c_36 - 1) ∧ (J_26 (c_36 - 1)))) F_mines F_cellsIn )) ∧ (¬ x2 = 0 → (P_X2_minesLeft (fun (c_38 : Int) => inR c_38 → (J_26 c_38)) F_mines F_cellsIn ))) ∧ (∀ (z_28 : Int), inR z_28 → J_26 z_28 → (P_X6_hasSum (fun (c_29 : Int) => (c_29 = 0 ∨ c_29 = 1) → (∃ J_30 : (Int) → Prop, ((¬ c_29 = 0 → (J_30 0)) ∧ (c_29 = 0 → (J_30 1))) ∧ (∀ (z_32 : Int), inR z_32 → J_30 z_32 → ((z_32 = 0 ∨ z_32 = 1) ∧ (post z_32 S_groups_5 S_askedGroup_6 S_taken_7 B_rest_8 B_unknowns_9 S_minedSet_10 S_safeSet_11 S_partSet_12 S_tally_13 S_askedTally_14 S_groupOf_15 S_groupSize_16 S_links_17 S_linkEnd_18 S_pick_19 S_groupMinedSet_20 S_groupSafeSet_21 O_sums_24 O_nextSums_25))))) O_sums_24 z_28)))) B_parts S_partSet_12 O_sums O_nextSums (-1) (c_22 - 1)))) B_parts F_cellsIn B_partStart )) B_parts S_groups S_askedGroup S_taken G_near G_nearEnd B_chosen B_rest B_unknowns B_partStart B_cells S_minedSet S_safeSet S_partSet S_tally S_askedTally S_groupOf S_groupSize S_links S_linkEnd S_pick S_groupMinedSet S_groupSafeSet (-1))) ∧ (x3 = 0 → (post 0 S_groups S_askedGroup S_taken B_rest B_unknowns S_minedSet S_safeSet S_partSet S_tally S_askedTally S_groupOf S_groupSize S_links S_linkEnd S_pick S_groupMinedSet S_groupSafeSet O_sums O_nextSums)))) ∧ (¬ v_2 = (-1) → (P_X9_take (fun (S_groups_39 : Int) (S_askedGroup_40 : Int) (S_taken_41 : Int) (B_rest_42 : Int → Int) (B_unknowns_43 : Int → Int) (S_minedSet_44 : Int → Int) (S_safeSet_45 : Int → Int) (S_partSet_46 : Int → Int) (S_tally_47 : Int → Int) (S_askedTally_48 : Int → Int) (S_groupOf_49 : Int → Int) (S_groupSize_50 : Int → Int) (S_links_51 : Int → Int) (S_linkEnd_52 : Int → Int) (S_pick_53 : Int → Int) (S_groupMinedSet_54 : Int → Int) (S_groupSafeSet_55 : Int → Int) => (∃ J_56 : (Int) → Prop, ((x2 = 0 → ((0 ≤ x1 ∧ x1 < 144) ∧ (∀ v_95 : Int, v_95 = S_minedSet_44 x1 → inR v_95 → (J_56 v_95)))) ∧ (¬ x2 = 0 → ((0 ≤ x1 ∧ x1 < 144) ∧ (∀ v_97 : Int, v_97 = S_safeSet_45 x1 → inR v_97 → (J_56 v_97))))) ∧ (∀ (z_58 : Int), inR z_58 → J_56 z_58 → (∃ J_59 : Prop, ((z_58 = 0 → (J_59)) ∧ (¬ z_58 = 0 → ((¬ x3 = 0 → (P_X6_takeAllBut (fun (S_groups_68 : Int) (S_askedGroup_69 : Int) (S_taken_70 : Int) (B_rest_71 : Int → Int) (B_unknowns_72 : Int → Int) (S_minedSet_73 : Int → Int) (S_safeSet_74 : Int → Int) (S_partSet_75 : Int → Int) (S_tally_76 : Int → Int) (S_askedTally_77 : Int → Int) (S_groupOf_78 : Int → Int) (S_groupSize_79 : Int → Int) (S_links_80 : Int → Int) (S_linkEnd_81 : Int → Int) (S_pick_82 : Int → Int) (S_groupMinedSet_83 : Int → Int) (S_groupSafeSet_84 : Int → Int) => (P_X6_fittingSet (fun (c_85 : Int) (O_sums_86 : Int → Int64) (O_nextSums_87 : Int → Int64) => inR c_85 → (∃ J_88 : (Int) → Prop, ((¬ (andI z_58 c_85) = 0 → (J_88 0)) ∧ ((andI z_58 c_85) = 0 → (J_88 1))) ∧ (∀ (z_90 : Int), inR z_90 → J_88 z_90 → ((z_90 = 0 ∨ z_90 = 1) ∧ (post z_90 S_groups_68 S_askedGroup_69 S_taken_70 B_rest_71 B_unknowns_72 S_minedSet_73 S_safeSet_74 S_partSet_75 S_tally_76 S_askedTally_77 S_groupOf_78 S_groupSize_79 S_links_80 S_linkEnd_81 S_pick_82 S_groupMinedSet_83 S_groupSafeSet_84 O_sums_86 O_nextSums_87))))) F_mines B_parts F_cellsIn B_partStart S_partSet_75 O_sums O_nextSums v_2)) B_parts S_groups_39 S_askedGroup_40 S_taken_41 G_near G_nearEnd B_chosen B_rest_42 B_unknowns_43 B_partStart B_cells S_minedSet_44 S_safeSet_45 S_partSet_46 S_tally_47 S_askedTally_48 S_groupOf_49 S_groupSize_50 S_links_51 S_linkEnd_52 S_pick_53 S_groupMinedSet_54 S_groupSafeSet_55 v_2)) ∧ (x3 = 0 → (J_59))))) ∧ (J_59 → (∃ J_61 : (Int) → Prop, ((¬ z_58 = 0 → (J_61 0)) ∧ (z_58 = 0 → (J_61 1))) ∧ (∀ (z_63 : Int), inR z_63 → J_61 z_63 → ((z_63 = 0 ∨ z_63 = 1) ∧ (post z_63 S_groups_39 S_askedGroup_40 S_taken_41 B_rest_42 B_unknowns_43 S_minedSet_44 S_safeSet_45 S_partSet_46 S_tally_47 S_askedTally_48 S_groupOf_49 S_groupSize_50 S_links_51 S_linkEnd_52 S_pick_53 S_groupMinedSet_54 S_groupSafeSet_55 O_sums O_nextSums))))))))) S_groups S_askedGroup S_taken G_near G_nearEnd B_chosen B_rest B_unknowns B_partStart B_cells S_minedSet S_safeSet S_partSet S_tally S_askedTally S_groupOf S_groupSize S_links S_linkEnd S_pick S_groupMinedSet S_groupSafeSet v_2 (-1)))))
set_option maxRecDepth 100000 in
set_option maxHeartbeats 4000000 in
theorem c_X6_isSure (l : Launch) (K : wK) (ad : Nat → Nat) {D_hasBoard : Int} {D_beganBlank : Int} {F_mines : Int} {F_moves : Int} {F_changes : Int} {G_width : Int} {G_height : Int} {G_size : Int} {B_parts : Int} {B_longest : Int} {S_groups : Int} {S_askedGroup : Int} {S_taken : Int} {R_waitingCount : Int} {R_metCount : Int} {A_grade : Int} {A_cell : Int} {A_mined : Int} {A_withTotal : Int} {A_numbers : Int} {X_low : Int} {X_high : Int} {Y_low : Int} {Y_high : Int} {F_mined : Int → Int} {F_number : Int → Int} {F_state : Int → Int} {F_cellsIn : Int → Int} {F_unknownNear : Int → Int} {F_hitNear : Int → Int} {F_moveStart : Int → Int} {F_changed : Int → Int} {F_waiting : Int → Int} {F_seen : Int → Int} {G_near : Int → Int} {G_nearEnd : Int → Int} {B_chosen : Int → Int} {B_partOf : Int → Int} {B_rest : Int → Int} {B_unknowns : Int → Int} {B_partStart : Int → Int} {B_cells : Int → Int} {S_minedSet : Int → Int} {S_safeSet : Int → Int} {S_partSet : Int → Int} {S_tally : Int → Int} {S_askedTally : Int → Int} {S_groupOf : Int → Int} {S_groupSize : Int → Int} {S_links : Int → Int} {S_linkEnd : Int → Int} {S_pick : Int → Int} {S_groupMinedSet : Int → Int} {S_groupSafeSet : Int → Int} {O_sums : Int → Int64} {O_nextSums : Int → Int64} {R_found : Int → Int} {R_openEnds : Int → Int} {R_need : Int → Int} {R_waiting : Int → Int} {R_waits : Int → Int} {R_common : Int → Int} {R_met : Int → Int} {A_number : Int → Int} {Q_mined : Int → Int64} {Q_all : Int → Int64} {Q_choices : Int → Int64} {Q_term : Int → Int64} {Q_divisor : Int → Int64} {Q_spare : Int → Int64} {X_limbs : Int → Int64} {X_sum : Int → Int64} {Y_limbs : Int → Int64} {Y_sum : Int → Int64} (x1 : Int) (x2 : Int) (x3 : Int) (rx1 : inR x1) (bx2 : x2 = 0 ∨ x2 = 1) (bx3 : x3 = 0 ∨ x3 = 1) (post : Int → (Int) → (Int) → (Int) → (Int → Int) → (Int → Int) → (Int → Int) → (Int → Int) → (Int → Int) → (Int → Int) → (Int → Int) → (Int → Int) → (Int → Int) → (Int → Int) → (Int → Int) → (Int → Int) → (Int → Int) → (Int → Int) → (Int → Int64) → (Int → Int64) → Prop) (h : P_X6_isSure post F_mines B_parts S_groups S_askedGroup S_taken F_cellsIn G_near G_nearEnd B_chosen B_partOf B_rest B_unknowns B_partStart B_cells S_minedSet S_safeSet S_partSet S_tally S_askedTally S_groupOf S_groupSize S_links S_linkEnd S_pick S_groupMinedSet S_groupSafeSet O_sums O_nextSums x1 x2 x3) : mI l yX6_isSure (Cond.code yX6_isSure cX6_isSure 6 (some .boolean) :: GT) ({ frames := 25, cells := 0, slots := 0, locals := 1500 } : Room) [.ref (ad 5), .int (iI x1), .int (iI x2), .int (iI x3)] K ad (dW D_hasBoard D_beganBlank F_mines F_moves F_changes G_width G_height G_size B_parts B_longest S_groups S_askedGroup S_taken R_waitingCount R_metCount A_grade A_cell A_mined A_withTotal A_numbers X_low X_high Y_low Y_high F_mined F_number F_state F_cellsIn F_unknownNear F_hitNear F_moveStart F_changed F_waiting F_seen G_near G_nearEnd B_chosen B_partOf B_rest B_unknowns B_partStart B_cells S_minedSet S_safeSet S_partSet S_tally S_askedTally S_groupOf S_groupSize S_links S_linkEnd S_pick S_groupMinedSet S_groupSafeSet O_sums O_nextSums R_found R_openEnds R_need R_waiting R_waits R_common R_met A_number Q_mined Q_all Q_choices Q_term Q_divisor Q_spare X_limbs X_sum Y_limbs Y_sum) (fun z9 u9 => (z9 = 0 ∨ z9 = 1) ∧ ∃ S_groups9 S_askedGroup9 S_taken9 B_rest9 B_unknowns9 S_minedSet9 S_safeSet9 S_partSet9 S_tally9 S_askedTally9 S_groupOf9 S_groupSize9 S_links9 S_linkEnd9 S_pick9 S_groupMinedSet9 S_groupSafeSet9 O_sums9 O_nextSums9, u9 = (dW D_hasBoard D_beganBlank F_mines F_moves F_changes G_width G_height G_size B_parts B_longest S_groups9 S_askedGroup9 S_taken9 R_waitingCount R_metCount A_grade A_cell A_mined A_withTotal A_numbers X_low X_high Y_low Y_high F_mined F_number F_state F_cellsIn F_unknownNear F_hitNear F_moveStart F_changed F_waiting F_seen G_near G_nearEnd B_chosen B_partOf B_rest9 B_unknowns9 B_partStart B_cells S_minedSet9 S_safeSet9 S_partSet9 S_tally9 S_askedTally9 S_groupOf9 S_groupSize9 S_links9 S_linkEnd9 S_pick9 S_groupMinedSet9 S_groupSafeSet9 O_sums9 O_nextSums9 R_found R_openEnds R_need R_waiting R_waits R_common R_met A_number Q_mined Q_all Q_choices Q_term Q_divisor Q_spare X_limbs X_sum Y_limbs Y_sum) ∧ post z9 S_groups9 S_askedGroup9 S_taken9 B_rest9 B_unknowns9 S_minedSet9 S_safeSet9 S_partSet9 S_tally9 S_askedTally9 S_groupOf9 S_groupSize9 S_links9 S_linkEnd9 S_pick9 S_groupMinedSet9 S_groupSafeSet9 O_sums9 O_nextSums9) := by
  refine mZ_of (lv0 := [(0, .ref (ad 5)), (1, .int (iI x1)), (2, .int (iI x2)), (3, .int (iI x3))]) (by decide) (Nat.le_of_ble_eq_true rfl) rfl ?_
  intro p e s m args below meth c Q A C ret
  replace C : Cx p ({ frames := 25, cells := 0, slots := 0, locals := 1500 } : Room) m c 0 0 cX6_isSure 6 s args RX6 K A := C
  unfold P_X6_isSure at h
  refine wa_aload_n C 0 rfl dX6_isSure_0 rfl ?_
  refine wa_getR C 5 0 dW_5 rfl rfl (by decide) okX6 gw_271 dX6_isSure_1 ?_
  refine wa_getR C 3 3 dW_3 rfl rfl (by decide) okX1 gw_164 dX6_isSure_4 ?_
  refine wa_iload_n C 1 rfl dX6_isSure_7 rfl ?_
  obtain ⟨t_1, h⟩ := h
  refine wa_iald C 25 dW_25 dX6_isSure_8 t_1.1 t_1.2 (fun v_2 ev_2 rv_2 => ?_)
  replace h := h v_2 ev_2 rv_2
  refine wa_istore C dX6_isSure_9 (by decide) rfl ?_
  refine wa_iload C 0 rfl dX6_isSure_11 ?_
  refine wa_iconst C (z := -1) dX6_isSure_13 rfl ?_
  refine wa_icmp_eq C (tgt := 98) rv_2 (inR_k (-1) rfl) dX6_isSure_14 (by decide) (fun c_3 => ?_) (fun c_3 => ?_)
  · replace h := h.1 c_3
    refine wa_iload_n C 4 rfl dX6_isSure_98 rfl ?_
    refine wa_if_ne C (tgt := 104) (inR_b bx3) dX6_isSure_99 (by decide) (fun c_4 => ?_) (fun c_4 => ?_)
    · replace h := h.1 c_4
      refine wa_aload_n C 1 rfl dX6_isSure_104 rfl ?_
      refine wa_iconst C (z := -1) dX6_isSure_105 rfl ?_
      refine wa_callVv C (k := 5) (As := [.int (iI (-1))]) (rest := []) (c_X6_takeAllBut l K ad (-1) (inR_k (-1) rfl) _ h) gw_1028 gw_1025 dW_5 rfl gw_1027 gs_41 gw_6 q_X6_takeAllBut rfl rfl rfl ⟨by decide, by decide⟩ rfl (Nat.le_of_ble_eq_true rfl) dX6_isSure_106 (fun u9 hp => ?_)
      obtain ⟨S_groups_5, S_askedGroup_6, S_taken_7, B_rest_8, B_unknowns_9, S_minedSet_10, S_safeSet_11, S_partSet_12, S_tally_13, S_askedTally_14, S_groupOf_15, S_groupSize_16, S_links_17, S_linkEnd_18, S_pick_19, S_groupMinedSet_20, S_groupSafeSet_21, rfl, h⟩ := hp
      refine wa_aload_n C 1 rfl dX6_isSure_109 rfl ?_
      refine wa_iconst C (z := -1) dX6_isSure_110 rfl ?_
      refine wa_aload_n C 1 rfl dX6_isSure_111 rfl ?_
      refine wa_getR C 5 0 dW_5 rfl rfl (by decide) okX6 gw_271 dX6_isSure_112 ?_
      refine wa_callVi C (k := 3) (As := []) (rest := [.int (iI (-1)), .ref (ad 5)]) (c_X1_freeCells l K ad  _ h) gw_806 gw_803 dW_3 rfl gw_804 gw_805 gw_4 q_X1_freeCells rfl rfl rfl ⟨by decide, by decide⟩ rfl (Nat.le_of_ble_eq_true rfl) dX6_isSure_115 (fun c_22 u9 rc_22 hp => ?_)
      obtain ⟨rfl, h⟩ := hp
      replace h := h rc_22
      refine wa_iconst C (z := 1) dX6_isSure_118 rfl ?_
      refine wa_isub C dX6_isSure_119 ?_
      obtain ⟨r_23, h⟩ := h
      refine wa_callVv C (k := 5) (As := [.int (iI (-1)), .int (iI (c_22 - 1))]) (rest := []) (c_X6_sumUp l K ad (-1) (c_22 - 1) (inR_k (-1) rfl) r_23 _ h) gw_814 gw_811 dW_5 rfl gw_813 gs_30 gw_6 q_X6_sumUp rfl rfl rfl ⟨by decide, by decide⟩ rfl (Nat.le_of_ble_eq_true rfl) dX6_isSure_120 (fun u9 hp => ?_)
      obtain ⟨O_sums_24, O_nextSums_25, rfl, h⟩ := hp
      refine wa_aload_n C 1 rfl dX6_isSure_123 rfl ?_
      refine wa_iload_n C 3 rfl dX6_isSure_124 rfl ?_
      obtain ⟨J_26, h, hJ_26⟩ := h
      have k_27 : ∀ (z_28 : Int), inR z_28 → J_26 z_28 → WA p l e ({ frames := 25, cells := 0, slots := 0, locals := 1500 } : Room) s m args below meth c 0 0 Q K ad 6 A 147 [] [.int (iI z_28), .ref (ad 5)] (dW D_hasBoard D_beganBlank F_mines F_moves F_changes G_width G_height G_size B_parts B_longest S_groups_5 S_askedGroup_6 S_taken_7 R_waitingCount R_metCount A_grade A_cell A_mined A_withTotal A_numbers X_low X_high Y_low Y_high F_mined F_number F_state F_cellsIn F_unknownNear F_hitNear F_moveStart F_changed F_waiting F_seen G_near G_nearEnd B_chosen B_partOf B_rest_8 B_unknowns_9 B_partStart B_cells S_minedSet_10 S_safeSet_11 S_partSet_12 S_tally_13 S_askedTally_14 S_groupOf_15 S_groupSize_16 S_links_17 S_linkEnd_18 S_pick_19 S_groupMinedSet_20 S_groupSafeSet_21 O_sums_24 O_nextSums_25 R_found R_openEnds R_need R_waiting R_waits R_common R_met A_number Q_mined Q_all Q_choices Q_term Q_divisor Q_spare X_limbs X_sum Y_limbs Y_sum) := by
        intro z_28 rz_28 h
        replace h := hJ_26 z_28 rz_28 h
        refine wa_callVi C (k := 5) (As := [.int (iI z_28)]) (rest := []) (c_X6_hasSum l K ad z_28 rz_28 _ h) gw_833 gw_830 dW_5 rfl gw_832 gs_32 gw_6 q_X6_hasSum rfl rfl rfl ⟨by decide, by decide⟩ rfl (Nat.le_of_ble_eq_true rfl) dX6_isSure_147 (fun c_29 u9 rc_29 hp => ?_)
        obtain ⟨bc_29, rfl, h⟩ := hp
        replace h := h bc_29
        obtain ⟨J_30, h, hJ_30⟩ := h
        have k_31 : ∀ (z_32 : Int), inR z_32 → J_30 z_32 → WA p l e ({ frames := 25, cells := 0, slots := 0, locals := 1500 } : Room) s m args below meth c 0 0 Q K ad 6 A 158 [] [.int (iI z_32)] (dW D_hasBoard D_beganBlank F_mines F_moves F_changes G_width G_height G_size B_parts B_longest S_groups_5 S_askedGroup_6 S_taken_7 R_waitingCount R_metCount A_grade A_cell A_mined A_withTotal A_numbers X_low X_high Y_low Y_high F_mined F_number F_state F_cellsIn F_unknownNear F_hitNear F_moveStart F_changed F_waiting F_seen G_near G_nearEnd B_chosen B_partOf B_rest_8 B_unknowns_9 B_partStart B_cells S_minedSet_10 S_safeSet_11 S_partSet_12 S_tally_13 S_askedTally_14 S_groupOf_15 S_groupSize_16 S_links_17 S_linkEnd_18 S_pick_19 S_groupMinedSet_20 S_groupSafeSet_21 O_sums_24 O_nextSums_25 R_found R_openEnds R_need R_waiting R_waits R_common R_met A_number Q_mined Q_all Q_choices Q_term Q_divisor Q_spare X_limbs X_sum Y_limbs Y_sum) := by
          intro z_32 rz_32 h
          replace h := hJ_30 z_32 rz_32 h
          obtain ⟨b_33, h⟩ := h
          exact ret dX6_isSure_158 b_33 ⟨b_33, _, _, _, _, _, _, _, _, _, _, _, _, _, _, _, _, _, _, _, rfl, h⟩
        refine wa_if_ne C (tgt := 157) (inR_b bc_29) dX6_isSure_150 (by decide) (fun c_34 => ?_) (fun c_34 => ?_)
        · replace h := h.1 c_34
          refine wa_iconst C (z := 0) dX6_isSure_157 rfl ?_
          refine wa_sub C [] rfl ?_
          exact k_31 0 (inR_k 0 rfl) h
        · replace h := h.2 c_34
          refine wa_iconst C (z := 1) dX6_isSure_153 rfl ?_
          refine wa_goto C (tgt := 158) dX6_isSure_154 (by decide) ?_
          refine wa_sub C [] rfl ?_
          exact k_31 1 (inR_k 1 rfl) h
      refine wa_if_eq C (tgt := 138) (inR_b bx2) dX6_isSure_125 (by decide) (fun c_35 => ?_) (fun c_35 => ?_)
      · replace h := h.1 c_35
        refine wa_aload_n C 1 rfl dX6_isSure_138 rfl ?_
        refine wa_getR C 5 2 dW_5 rfl rfl (by decide) okX6 gw_274 dX6_isSure_139 ?_
        refine wa_callVi C (k := 1) (As := []) (rest := [.ref (ad 5)]) (c_X2_minesLeft l K ad  _ h) gw_829 gw_826 dW_1 rfl gw_827 gw_828 gw_2 q_X2_minesLeft rfl rfl rfl ⟨by decide, by decide⟩ rfl (Nat.le_of_ble_eq_true rfl) dX6_isSure_142 (fun c_36 u9 rc_36 hp => ?_)
        obtain ⟨rfl, h⟩ := hp
        replace h := h rc_36
        refine wa_iconst C (z := 1) dX6_isSure_145 rfl ?_
        refine wa_isub C dX6_isSure_146 ?_
        obtain ⟨r_37, h⟩ := h
        refine wa_sub C [] rfl ?_
        exact k_27 (c_36 - 1) r_37 h
      · replace h := h.2 c_35
        refine wa_aload_n C 1 rfl dX6_isSure_128 rfl ?_
        refine wa_getR C 5 2 dW_5 rfl rfl (by decide) okX6 gw_274 dX6_isSure_129 ?_
        refine wa_callVi C (k := 1) (As := []) (rest := [.ref (ad 5)]) (c_X2_minesLeft l K ad  _ h) gw_829 gw_826 dW_1 rfl gw_827 gw_828 gw_2 q_X2_minesLeft rfl rfl rfl ⟨by decide, by decide⟩ rfl (Nat.le_of_ble_eq_true rfl) dX6_isSure_132 (fun c_38 u9 rc_38 hp => ?_)
        obtain ⟨rfl, h⟩ := hp
        replace h := h rc_38
        refine wa_goto C (tgt := 147) dX6_isSure_135 (by decide) ?_
        refine wa_sub C [] rfl ?_
        exact k_27 c_38 rc_38 h
    · replace h := h.2 c_4
      refine wa_iconst C (z := 0) dX6_isSure_102 rfl ?_
      exact ret dX6_isSure_103 (Or.inl rfl) ⟨(Or.inl rfl), _, _, _, _, _, _, _, _, _, _, _, _, _, _, _, _, _, _, _, rfl, h⟩
  · replace h := h.2 c_3
    refine wa_aload_n C 1 rfl dX6_isSure_17 rfl ?_
    refine wa_getR C 5 1 dW_5 rfl rfl (by decide) okX6 gw_273 dX6_isSure_18 ?_
    refine wa_iload C 0 rfl dX6_isSure_21 ?_
    refine wa_iconst C (z := -1) dX6_isSure_23 rfl ?_
    refine wa_callVv C (k := 4) (As := [.int (iI v_2), .int (iI (-1))]) (rest := []) (c_X9_take l K ad v_2 (-1) rv_2 (inR_k (-1) rfl) _ h) gw_753 gw_750 dW_4 rfl gw_751 gw_752 gw_5 q_X9_take rfl rfl rfl ⟨by decide, by decide⟩ rfl (Nat.le_of_ble_eq_true rfl) dX6_isSure_24 (fun u9 hp => ?_)
    obtain ⟨S_groups_39, S_askedGroup_40, S_taken_41, B_rest_42, B_unknowns_43, S_minedSet_44, S_safeSet_45, S_partSet_46, S_tally_47, S_askedTally_48, S_groupOf_49, S_groupSize_50, S_links_51, S_linkEnd_52, S_pick_53, S_groupMinedSet_54, S_groupSafeSet_55, rfl, h⟩ := hp
    refine wa_iload_n C 3 rfl dX6_isSure_27 rfl ?_
    obtain ⟨J_56, h, hJ_56⟩ := h
    have k_57 : ∀ (z_58 : Int), inR z_58 → J_56 z_58 → WA p l e ({ frames := 25, cells := 0, slots := 0, locals := 1500 } : Room) s m args below meth c 0 0 Q K ad 6 A 52 [(0, .ref (ad 5)), (3, .int (iI x3)), (4, .int (iI v_2))] [.int (iI z_58)] (dW D_hasBoard D_beganBlank F_mines F_moves F_changes G_width G_height G_size B_parts B_longest S_groups_39 S_askedGroup_40 S_taken_41 R_waitingCount R_metCount A_grade A_cell A_mined A_withTotal A_numbers X_low X_high Y_low Y_high F_mined F_number F_state F_cellsIn F_unknownNear F_hitNear F_moveStart F_changed F_waiting F_seen G_near G_nearEnd B_chosen B_partOf B_rest_42 B_unknowns_43 B_partStart B_cells S_minedSet_44 S_safeSet_45 S_partSet_46 S_tally_47 S_askedTally_48 S_groupOf_49 S_groupSize_50 S_links_51 S_linkEnd_52 S_pick_53 S_groupMinedSet_54 S_groupSafeSet_55 O_sums O_nextSums R_found R_openEnds R_need R_waiting R_waits R_common R_met A_number Q_mined Q_all Q_choices Q_term Q_divisor Q_spare X_limbs X_sum Y_limbs Y_sum) := by
      intro z_58 rz_58 h
      replace h := hJ_56 z_58 rz_58 h
      refine wa_istore C dX6_isSure_52 (by decide) rfl ?_
      refine wa_iload C 0 rfl dX6_isSure_54 ?_
      obtain ⟨J_59, h, hJ_59⟩ := h
      have k_60 : J_59 → WA p l e ({ frames := 25, cells := 0, slots := 0, locals := 1500 } : Room) s m args below meth c 0 0 Q K ad 6 A 63 [(5, .int (iI z_58))] [] (dW D_hasBoard D_beganBlank F_mines F_moves F_changes G_width G_height G_size B_parts B_longest S_groups_39 S_askedGroup_40 S_taken_41 R_waitingCount R_metCount A_grade A_cell A_mined A_withTotal A_numbers X_low X_high Y_low Y_high F_mined F_number F_state F_cellsIn F_unknownNear F_hitNear F_moveStart F_changed F_waiting F_seen G_near G_nearEnd B_chosen B_partOf B_rest_42 B_unknowns_43 B_partStart B_cells S_minedSet_44 S_safeSet_45 S_partSet_46 S_tally_47 S_askedTally_48 S_groupOf_49 S_groupSize_50 S_links_51 S_linkEnd_52 S_pick_53 S_groupMinedSet_54 S_groupSafeSet_55 O_sums O_nextSums R_found R_openEnds R_need R_waiting R_waits R_common R_met A_number Q_mined Q_all Q_choices Q_term Q_divisor Q_spare X_limbs X_sum Y_limbs Y_sum) := by
        intro h
        replace h := hJ_59 h
        refine wa_iload C 0 rfl dX6_isSure_63 ?_
        obtain ⟨J_61, h, hJ_61⟩ := h
        have k_62 : ∀ (z_63 : Int), inR z_63 → J_61 z_63 → WA p l e ({ frames := 25, cells := 0, slots := 0, locals := 1500 } : Room) s m args below meth c 0 0 Q K ad 6 A 73 [] [.int (iI z_63)] (dW D_hasBoard D_beganBlank F_mines F_moves F_changes G_width G_height G_size B_parts B_longest S_groups_39 S_askedGroup_40 S_taken_41 R_waitingCount R_metCount A_grade A_cell A_mined A_withTotal A_numbers X_low X_high Y_low Y_high F_mined F_number F_state F_cellsIn F_unknownNear F_hitNear F_moveStart F_changed F_waiting F_seen G_near G_nearEnd B_chosen B_partOf B_rest_42 B_unknowns_43 B_partStart B_cells S_minedSet_44 S_safeSet_45 S_partSet_46 S_tally_47 S_askedTally_48 S_groupOf_49 S_groupSize_50 S_links_51 S_linkEnd_52 S_pick_53 S_groupMinedSet_54 S_groupSafeSet_55 O_sums O_nextSums R_found R_openEnds R_need R_waiting R_waits R_common R_met A_number Q_mined Q_all Q_choices Q_term Q_divisor Q_spare X_limbs X_sum Y_limbs Y_sum) := by
          intro z_63 rz_63 h
          replace h := hJ_61 z_63 rz_63 h
          obtain ⟨b_64, h⟩ := h
          exact ret dX6_isSure_73 b_64 ⟨b_64, _, _, _, _, _, _, _, _, _, _, _, _, _, _, _, _, _, _, _, rfl, h⟩
        refine wa_if_ne C (tgt := 72) rz_58 dX6_isSure_65 (by decide) (fun c_65 => ?_) (fun c_65 => ?_)
        · replace h := h.1 c_65
          refine wa_iconst C (z := 0) dX6_isSure_72 rfl ?_
          refine wa_sub C [] rfl ?_
          exact k_62 0 (inR_k 0 rfl) h
        · replace h := h.2 c_65
          refine wa_iconst C (z := 1) dX6_isSure_68 rfl ?_
          refine wa_goto C (tgt := 73) dX6_isSure_69 (by decide) ?_
          refine wa_sub C [] rfl ?_
          exact k_62 1 (inR_k 1 rfl) h
      refine wa_if_eq C (tgt := 63) rz_58 dX6_isSure_56 (by decide) (fun c_66 => ?_) (fun c_66 => ?_)
      · replace h := h.1 c_66
        refine wa_sub C [0] rfl ?_
        exact k_60 h
      · replace h := h.2 c_66
        refine wa_iload_n C 2 rfl dX6_isSure_59 rfl ?_
        refine wa_if_ne C (tgt := 74) (inR_b bx3) dX6_isSure_60 (by decide) (fun c_67 => ?_) (fun c_67 => ?_)
        · replace h := h.1 c_67
          refine wa_aload_n C 1 rfl dX6_isSure_74 rfl ?_
          refine wa_iload C 3 rfl dX6_isSure_75 ?_
          refine wa_callVv C (k := 5) (As := [.int (iI v_2)]) (rest := []) (c_X6_takeAllBut l K ad v_2 rv_2 _ h) gw_1028 gw_1025 dW_5 rfl gw_1027 gs_41 gw_6 q_X6_takeAllBut rfl rfl rfl ⟨by decide, by decide⟩ rfl (Nat.le_of_ble_eq_true rfl) dX6_isSure_77 (fun u9 hp => ?_)
          obtain ⟨S_groups_68, S_askedGroup_69, S_taken_70, B_rest_71, B_unknowns_72, S_minedSet_73, S_safeSet_74, S_partSet_75, S_tally_76, S_askedTally_77, S_groupOf_78, S_groupSize_79, S_links_80, S_linkEnd_81, S_pick_82, S_groupMinedSet_83, S_groupSafeSet_84, rfl, h⟩ := hp
          refine wa_iload C 0 rfl dX6_isSure_80 ?_
          refine wa_aload_n C 1 rfl dX6_isSure_82 rfl ?_
          refine wa_iload C 3 rfl dX6_isSure_83 ?_
          refine wa_callVi C (k := 5) (As := [.int (iI v_2)]) (rest := [.int (iI z_58)]) (c_X6_fittingSet l K ad v_2 rv_2 _ h) gw_802 gw_799 dW_5 rfl gw_801 gs_29 gw_6 q_X6_fittingSet rfl rfl rfl ⟨by decide, by decide⟩ rfl (Nat.le_of_ble_eq_true rfl) dX6_isSure_85 (fun c_85 u9 rc_85 hp => ?_)
          obtain ⟨O_sums_86, O_nextSums_87, rfl, h⟩ := hp
          replace h := h rc_85
          refine wa_iand C dX6_isSure_88 ?_
          obtain ⟨J_88, h, hJ_88⟩ := h
          have k_89 : ∀ (z_90 : Int), inR z_90 → J_88 z_90 → WA p l e ({ frames := 25, cells := 0, slots := 0, locals := 1500 } : Room) s m args below meth c 0 0 Q K ad 6 A 97 [] [.int (iI z_90)] (dW D_hasBoard D_beganBlank F_mines F_moves F_changes G_width G_height G_size B_parts B_longest S_groups_68 S_askedGroup_69 S_taken_70 R_waitingCount R_metCount A_grade A_cell A_mined A_withTotal A_numbers X_low X_high Y_low Y_high F_mined F_number F_state F_cellsIn F_unknownNear F_hitNear F_moveStart F_changed F_waiting F_seen G_near G_nearEnd B_chosen B_partOf B_rest_71 B_unknowns_72 B_partStart B_cells S_minedSet_73 S_safeSet_74 S_partSet_75 S_tally_76 S_askedTally_77 S_groupOf_78 S_groupSize_79 S_links_80 S_linkEnd_81 S_pick_82 S_groupMinedSet_83 S_groupSafeSet_84 O_sums_86 O_nextSums_87 R_found R_openEnds R_need R_waiting R_waits R_common R_met A_number Q_mined Q_all Q_choices Q_term Q_divisor Q_spare X_limbs X_sum Y_limbs Y_sum) := by
            intro z_90 rz_90 h
            replace h := hJ_88 z_90 rz_90 h
            obtain ⟨b_91, h⟩ := h
            exact ret dX6_isSure_97 b_91 ⟨b_91, _, _, _, _, _, _, _, _, _, _, _, _, _, _, _, _, _, _, _, rfl, h⟩
          refine wa_if_ne C (tgt := 96) (andI_r _ _) dX6_isSure_89 (by decide) (fun c_92 => ?_) (fun c_92 => ?_)
          · replace h := h.1 c_92
            refine wa_iconst C (z := 0) dX6_isSure_96 rfl ?_
            refine wa_sub C [] rfl ?_
            exact k_89 0 (inR_k 0 rfl) h
          · replace h := h.2 c_92
            refine wa_iconst C (z := 1) dX6_isSure_92 rfl ?_
            refine wa_goto C (tgt := 97) dX6_isSure_93 (by decide) ?_
            refine wa_sub C [] rfl ?_
            exact k_89 1 (inR_k 1 rfl) h
        · replace h := h.2 c_67
          refine wa_sub C [0] rfl ?_
          exact k_60 h
    refine wa_if_eq C (tgt := 43) (inR_b bx2) dX6_isSure_28 (by decide) (fun c_93 => ?_) (fun c_93 => ?_)
    · replace h := h.1 c_93
      refine wa_aload_n C 1 rfl dX6_isSure_43 rfl ?_
      refine wa_getR C 5 1 dW_5 rfl rfl (by decide) okX6 gw_273 dX6_isSure_44 ?_
      refine wa_getR C 4 0 dW_4 rfl rfl (by decide) okX9 gw_209 dX6_isSure_47 ?_
      refine wa_iload_n C 2 rfl dX6_isSure_50 rfl ?_
      obtain ⟨t_94, h⟩ := h
      refine wa_iald C 30 dW_30 dX6_isSure_51 t_94.1 t_94.2 (fun v_95 ev_95 rv_95 => ?_)
      replace h := h v_95 ev_95 rv_95
      refine wa_sub C [1, 4, 0] rfl ?_
      exact k_57 v_95 rv_95 h
    · replace h := h.2 c_93
      refine wa_aload_n C 1 rfl dX6_isSure_31 rfl ?_
      refine wa_getR C 5 1 dW_5 rfl rfl (by decide) okX6 gw_273 dX6_isSure_32 ?_
      refine wa_getR C 4 1 dW_4 rfl rfl (by decide) okX9 gw_211 dX6_isSure_35 ?_
      refine wa_iload_n C 2 rfl dX6_isSure_38 rfl ?_
      obtain ⟨t_96, h⟩ := h
      refine wa_iald C 31 dW_31 dX6_isSure_39 t_96.1 t_96.2 (fun v_97 ev_97 rv_97 => ?_)
      replace h := h v_97 ev_97 rv_97
      refine wa_goto C (tgt := 52) dX6_isSure_40 (by decide) ?_
      refine wa_sub C [1, 4, 0] rfl ?_
      exact k_57 v_97 rv_97 h
def P_X6_verdict (post : Int → Prop) (x0 : Int) (x1 : Int) : Prop :=
  (¬ x0 = 0 → (∃ J_2 : (Int) → Prop, ((x1 = 0 → (J_2 2)) ∧ (¬ x1 = 0 → (J_2 0))) ∧ (∀ (z_4 : Int), inR z_4 → J_2 z_4 → (post z_4)))) ∧ (x0 = 0 → (post 1))
set_option maxRecDepth 100000 in
set_option maxHeartbeats 4000000 in
theorem c_X6_verdict (l : Launch) (K : wK) (ad : Nat → Nat) {D_hasBoard : Int} {D_beganBlank : Int} {F_mines : Int} {F_moves : Int} {F_changes : Int} {G_width : Int} {G_height : Int} {G_size : Int} {B_parts : Int} {B_longest : Int} {S_groups : Int} {S_askedGroup : Int} {S_taken : Int} {R_waitingCount : Int} {R_metCount : Int} {A_grade : Int} {A_cell : Int} {A_mined : Int} {A_withTotal : Int} {A_numbers : Int} {X_low : Int} {X_high : Int} {Y_low : Int} {Y_high : Int} {F_mined : Int → Int} {F_number : Int → Int} {F_state : Int → Int} {F_cellsIn : Int → Int} {F_unknownNear : Int → Int} {F_hitNear : Int → Int} {F_moveStart : Int → Int} {F_changed : Int → Int} {F_waiting : Int → Int} {F_seen : Int → Int} {G_near : Int → Int} {G_nearEnd : Int → Int} {B_chosen : Int → Int} {B_partOf : Int → Int} {B_rest : Int → Int} {B_unknowns : Int → Int} {B_partStart : Int → Int} {B_cells : Int → Int} {S_minedSet : Int → Int} {S_safeSet : Int → Int} {S_partSet : Int → Int} {S_tally : Int → Int} {S_askedTally : Int → Int} {S_groupOf : Int → Int} {S_groupSize : Int → Int} {S_links : Int → Int} {S_linkEnd : Int → Int} {S_pick : Int → Int} {S_groupMinedSet : Int → Int} {S_groupSafeSet : Int → Int} {O_sums : Int → Int64} {O_nextSums : Int → Int64} {R_found : Int → Int} {R_openEnds : Int → Int} {R_need : Int → Int} {R_waiting : Int → Int} {R_waits : Int → Int} {R_common : Int → Int} {R_met : Int → Int} {A_number : Int → Int} {Q_mined : Int → Int64} {Q_all : Int → Int64} {Q_choices : Int → Int64} {Q_term : Int → Int64} {Q_divisor : Int → Int64} {Q_spare : Int → Int64} {X_limbs : Int → Int64} {X_sum : Int → Int64} {Y_limbs : Int → Int64} {Y_sum : Int → Int64} (x0 : Int) (x1 : Int) (bx0 : x0 = 0 ∨ x0 = 1) (bx1 : x1 = 0 ∨ x1 = 1) (post : Int → Prop) (h : P_X6_verdict post x0 x1) : mI l yX6_verdict (Cond.code yX6_verdict cX6_verdict 2 (some .int) :: GT) ({ frames := 2, cells := 0, slots := 0, locals := 120 } : Room) [.int (iI x0), .int (iI x1)] K ad (dW D_hasBoard D_beganBlank F_mines F_moves F_changes G_width G_height G_size B_parts B_longest S_groups S_askedGroup S_taken R_waitingCount R_metCount A_grade A_cell A_mined A_withTotal A_numbers X_low X_high Y_low Y_high F_mined F_number F_state F_cellsIn F_unknownNear F_hitNear F_moveStart F_changed F_waiting F_seen G_near G_nearEnd B_chosen B_partOf B_rest B_unknowns B_partStart B_cells S_minedSet S_safeSet S_partSet S_tally S_askedTally S_groupOf S_groupSize S_links S_linkEnd S_pick S_groupMinedSet S_groupSafeSet O_sums O_nextSums R_found R_openEnds R_need R_waiting R_waits R_common R_met A_number Q_mined Q_all Q_choices Q_term Q_divisor Q_spare X_limbs X_sum Y_limbs Y_sum) (fun z9 u9 => u9 = (dW D_hasBoard D_beganBlank F_mines F_moves F_changes G_width G_height G_size B_parts B_longest S_groups S_askedGroup S_taken R_waitingCount R_metCount A_grade A_cell A_mined A_withTotal A_numbers X_low X_high Y_low Y_high F_mined F_number F_state F_cellsIn F_unknownNear F_hitNear F_moveStart F_changed F_waiting F_seen G_near G_nearEnd B_chosen B_partOf B_rest B_unknowns B_partStart B_cells S_minedSet S_safeSet S_partSet S_tally S_askedTally S_groupOf S_groupSize S_links S_linkEnd S_pick S_groupMinedSet S_groupSafeSet O_sums O_nextSums R_found R_openEnds R_need R_waiting R_waits R_common R_met A_number Q_mined Q_all Q_choices Q_term Q_divisor Q_spare X_limbs X_sum Y_limbs Y_sum) ∧ post z9) := by
  refine mI_of (lv0 := [(0, .int (iI x0)), (1, .int (iI x1))]) (by decide) (Nat.le_of_ble_eq_true rfl) rfl ?_
  intro p e s m args below meth c Q A C ret
  replace C : Cx p ({ frames := 2, cells := 0, slots := 0, locals := 120 } : Room) m c 0 0 cX6_verdict 2 s args RX6 K A := C
  unfold P_X6_verdict at h
  refine wa_iload_n C 0 rfl dX6_verdict_0 rfl ?_
  refine wa_if_ne C (tgt := 6) (inR_b bx0) dX6_verdict_1 (by decide) (fun c_1 => ?_) (fun c_1 => ?_)
  · replace h := h.1 c_1
    refine wa_iload_n C 1 rfl dX6_verdict_6 rfl ?_
    obtain ⟨J_2, h, hJ_2⟩ := h
    have k_3 : ∀ (z_4 : Int), inR z_4 → J_2 z_4 → WA p l e ({ frames := 2, cells := 0, slots := 0, locals := 120 } : Room) s m args below meth c 0 0 Q K ad 2 A 15 [] [.int (iI z_4)] (dW D_hasBoard D_beganBlank F_mines F_moves F_changes G_width G_height G_size B_parts B_longest S_groups S_askedGroup S_taken R_waitingCount R_metCount A_grade A_cell A_mined A_withTotal A_numbers X_low X_high Y_low Y_high F_mined F_number F_state F_cellsIn F_unknownNear F_hitNear F_moveStart F_changed F_waiting F_seen G_near G_nearEnd B_chosen B_partOf B_rest B_unknowns B_partStart B_cells S_minedSet S_safeSet S_partSet S_tally S_askedTally S_groupOf S_groupSize S_links S_linkEnd S_pick S_groupMinedSet S_groupSafeSet O_sums O_nextSums R_found R_openEnds R_need R_waiting R_waits R_common R_met A_number Q_mined Q_all Q_choices Q_term Q_divisor Q_spare X_limbs X_sum Y_limbs Y_sum) := by
      intro z_4 rz_4 h
      replace h := hJ_2 z_4 rz_4 h
      exact ret dX6_verdict_15 rz_4 ⟨rfl, h⟩
    refine wa_if_eq C (tgt := 14) (inR_b bx1) dX6_verdict_7 (by decide) (fun c_5 => ?_) (fun c_5 => ?_)
    · replace h := h.1 c_5
      refine wa_iconst C (z := 2) dX6_verdict_14 rfl ?_
      refine wa_sub C [] rfl ?_
      exact k_3 2 (inR_k 2 rfl) h
    · replace h := h.2 c_5
      refine wa_iconst C (z := 0) dX6_verdict_10 rfl ?_
      refine wa_goto C (tgt := 15) dX6_verdict_11 (by decide) ?_
      refine wa_sub C [] rfl ?_
      exact k_3 0 (inR_k 0 rfl) h
  · replace h := h.2 c_1
    refine wa_iconst C (z := 1) dX6_verdict_4 rfl ?_
    exact ret dX6_verdict_5 (inR_k 1 rfl) ⟨rfl, h⟩
def P_X6_judgeFreeCells_44 (post : (Int → Int64) → (Int → Int64) → (Int → Int) → Prop) (F_mines : Int) (G_size : Int) (B_parts : Int) (F_state : Int → Int) (F_cellsIn : Int → Int) (B_partOf : Int → Int) (B_partStart : Int → Int) (S_partSet : Int → Int) (O_sums : Int → Int64) (O_nextSums : Int → Int64) (R_found : Int → Int) : Prop :=
  P_X1_freeCells (fun (c_1 : Int) => inR c_1 → ((0 < c_1 → (P_X1_freeCells (fun (c_3 : Int) => inR c_3 → (inR (c_3 - 1) ∧ (P_X6_sumUp (fun (O_sums_5 : Int → Int64) (O_nextSums_6 : Int → Int64) => (P_X2_minesLeft (fun (c_7 : Int) => inR c_7 → (inR (c_7 - 1) ∧ (P_X6_hasSum (fun (c_9 : Int) => (c_9 = 0 ∨ c_9 = 1) → (P_X2_minesLeft (fun (c_10 : Int) => inR c_10 → (P_X6_hasSum (fun (c_11 : Int) => (c_11 = 0 ∨ c_11 = 1) → (P_X6_verdict (fun (c_12 : Int) => inR c_12 → (∃ Inv_13 : Nat → (Int) → (Int → Int) → Prop, (∃ n_14 : Nat, Inv_13 n_14 0 R_found) ∧ ∀ (n_15 : Nat) (x3_18 : Int) (R_found_19 : Int → Int), inR x3_18 → Inv_13 n_15 x3_18 R_found_19 → ((G_size ≤ x3_18 → (post O_sums_5 O_nextSums_6 R_found_19)) ∧ (¬ G_size ≤ x3_18 → (P_X2_isUnknown (fun (c_22 : Int) => (c_22 = 0 ∨ c_22 = 1) → (∃ J_23 : (Int → Int) → Prop, ((c_22 = 0 → (J_23 R_found_19)) ∧ (¬ c_22 = 0 → ((0 ≤ x3_18 ∧ x3_18 < 144) ∧ (∀ v_31 : Int, v_31 = B_partOf x3_18 → inR v_31 → ((¬ v_31 = (-1) → (J_23 R_found_19)) ∧ (v_31 = (-1) → ((0 ≤ x3_18 ∧ x3_18 < 144) ∧ (∀ R_found_34 : Int → Int, R_found_34 = upZ R_found_19 x3_18 c_12 → (J_23 R_found_34))))))))) ∧ (∀ (R_found_25 : Int → Int), J_23 R_found_25 → (inR (x3_18 + 1) ∧ (∀ x3_27 : Int, x3_27 = (x3_18 + 1) → (∃ n_28 : Nat, n_28 < n_15 ∧ Inv_13 n_28 x3_27 R_found_25)))))) F_state x3_18)))))  c_9 c_11)) O_sums_5 c_10)) F_mines F_cellsIn )) O_sums_5 (c_7 - 1)))) F_mines F_cellsIn )) B_parts S_partSet O_sums O_nextSums (-1) (c_3 - 1)))) B_parts F_cellsIn B_partStart )) ∧ (¬ 0 < c_1 → (post O_sums O_nextSums R_found)))) B_parts F_cellsIn B_partStart 
set_option maxRecDepth 100000 in
set_option maxHeartbeats 4000000 in
theorem c_X6_judgeFreeCells_44 (l : Launch) (K : wK) (ad : Nat → Nat) {D_hasBoard : Int} {D_beganBlank : Int} {F_mines : Int} {F_moves : Int} {F_changes : Int} {G_width : Int} {G_height : Int} {G_size : Int} {B_parts : Int} {B_longest : Int} {S_groups : Int} {S_askedGroup : Int} {S_taken : Int} {R_waitingCount : Int} {R_metCount : Int} {A_grade : Int} {A_cell : Int} {A_mined : Int} {A_withTotal : Int} {A_numbers : Int} {X_low : Int} {X_high : Int} {Y_low : Int} {Y_high : Int} {F_mined : Int → Int} {F_number : Int → Int} {F_state : Int → Int} {F_cellsIn : Int → Int} {F_unknownNear : Int → Int} {F_hitNear : Int → Int} {F_moveStart : Int → Int} {F_changed : Int → Int} {F_waiting : Int → Int} {F_seen : Int → Int} {G_near : Int → Int} {G_nearEnd : Int → Int} {B_chosen : Int → Int} {B_partOf : Int → Int} {B_rest : Int → Int} {B_unknowns : Int → Int} {B_partStart : Int → Int} {B_cells : Int → Int} {S_minedSet : Int → Int} {S_safeSet : Int → Int} {S_partSet : Int → Int} {S_tally : Int → Int} {S_askedTally : Int → Int} {S_groupOf : Int → Int} {S_groupSize : Int → Int} {S_links : Int → Int} {S_linkEnd : Int → Int} {S_pick : Int → Int} {S_groupMinedSet : Int → Int} {S_groupSafeSet : Int → Int} {O_sums : Int → Int64} {O_nextSums : Int → Int64} {R_found : Int → Int} {R_openEnds : Int → Int} {R_need : Int → Int} {R_waiting : Int → Int} {R_waits : Int → Int} {R_common : Int → Int} {R_met : Int → Int} {A_number : Int → Int} {Q_mined : Int → Int64} {Q_all : Int → Int64} {Q_choices : Int → Int64} {Q_term : Int → Int64} {Q_divisor : Int → Int64} {Q_spare : Int → Int64} {X_limbs : Int → Int64} {X_sum : Int → Int64} {Y_limbs : Int → Int64} {Y_sum : Int → Int64}   (post : (Int → Int64) → (Int → Int64) → (Int → Int) → Prop) (h : P_X6_judgeFreeCells_44 post F_mines G_size B_parts F_state F_cellsIn B_partOf B_partStart S_partSet O_sums O_nextSums R_found) : mV l yX6_judgeFreeCells (Cond.code yX6_judgeFreeCells cX6_judgeFreeCells 4 none :: GT) ({ frames := 5, cells := 0, slots := 0, locals := 300 } : Room) [.ref (ad 5), .ref (ad 44)] K ad (dW D_hasBoard D_beganBlank F_mines F_moves F_changes G_width G_height G_size B_parts B_longest S_groups S_askedGroup S_taken R_waitingCount R_metCount A_grade A_cell A_mined A_withTotal A_numbers X_low X_high Y_low Y_high F_mined F_number F_state F_cellsIn F_unknownNear F_hitNear F_moveStart F_changed F_waiting F_seen G_near G_nearEnd B_chosen B_partOf B_rest B_unknowns B_partStart B_cells S_minedSet S_safeSet S_partSet S_tally S_askedTally S_groupOf S_groupSize S_links S_linkEnd S_pick S_groupMinedSet S_groupSafeSet O_sums O_nextSums R_found R_openEnds R_need R_waiting R_waits R_common R_met A_number Q_mined Q_all Q_choices Q_term Q_divisor Q_spare X_limbs X_sum Y_limbs Y_sum) (fun u9 => ∃ O_sums9 O_nextSums9 R_found9, u9 = (dW D_hasBoard D_beganBlank F_mines F_moves F_changes G_width G_height G_size B_parts B_longest S_groups S_askedGroup S_taken R_waitingCount R_metCount A_grade A_cell A_mined A_withTotal A_numbers X_low X_high Y_low Y_high F_mined F_number F_state F_cellsIn F_unknownNear F_hitNear F_moveStart F_changed F_waiting F_seen G_near G_nearEnd B_chosen B_partOf B_rest B_unknowns B_partStart B_cells S_minedSet S_safeSet S_partSet S_tally S_askedTally S_groupOf S_groupSize S_links S_linkEnd S_pick S_groupMinedSet S_groupSafeSet O_sums9 O_nextSums9 R_found9 R_openEnds R_need R_waiting R_waits R_common R_met A_number Q_mined Q_all Q_choices Q_term Q_divisor Q_spare X_limbs X_sum Y_limbs Y_sum) ∧ post O_sums9 O_nextSums9 R_found9) := by
  refine mV_of (lv0 := [(0, .ref (ad 5)), (1, .ref (ad 44))]) (by decide) (Nat.le_of_ble_eq_true rfl) rfl ?_
  intro p e s m args below meth c Q A C ret
  replace C : Cx p ({ frames := 5, cells := 0, slots := 0, locals := 300 } : Room) m c 0 0 cX6_judgeFreeCells 4 s args RX6 K A := C
  unfold P_X6_judgeFreeCells_44 at h
  refine wa_aload_n C 0 rfl dX6_judgeFreeCells_0 rfl ?_
  refine wa_getR C 5 0 dW_5 rfl rfl (by decide) okX6 gw_271 dX6_judgeFreeCells_1 ?_
  refine wa_callVi C (k := 3) (As := []) (rest := []) (c_X1_freeCells l K ad  _ h) gw_806 gw_803 dW_3 rfl gw_804 gw_805 gw_4 q_X1_freeCells rfl rfl rfl ⟨by decide, by decide⟩ rfl (Nat.le_of_ble_eq_true rfl) dX6_judgeFreeCells_4 (fun c_1 u9 rc_1 hp => ?_)
  obtain ⟨rfl, h⟩ := hp
  replace h := h rc_1
  refine wa_if_gt C (tgt := 11) rc_1 dX6_judgeFreeCells_7 (by decide) (fun c_2 => ?_) (fun c_2 => ?_)
  · replace h := h.1 c_2
    refine wa_aload_n C 0 rfl dX6_judgeFreeCells_11 rfl ?_
    refine wa_iconst C (z := -1) dX6_judgeFreeCells_12 rfl ?_
    refine wa_aload_n C 0 rfl dX6_judgeFreeCells_13 rfl ?_
    refine wa_getR C 5 0 dW_5 rfl rfl (by decide) okX6 gw_271 dX6_judgeFreeCells_14 ?_
    refine wa_callVi C (k := 3) (As := []) (rest := [.int (iI (-1)), .ref (ad 5)]) (c_X1_freeCells l K ad  _ h) gw_806 gw_803 dW_3 rfl gw_804 gw_805 gw_4 q_X1_freeCells rfl rfl rfl ⟨by decide, by decide⟩ rfl (Nat.le_of_ble_eq_true rfl) dX6_judgeFreeCells_17 (fun c_3 u9 rc_3 hp => ?_)
    obtain ⟨rfl, h⟩ := hp
    replace h := h rc_3
    refine wa_iconst C (z := 1) dX6_judgeFreeCells_20 rfl ?_
    refine wa_isub C dX6_judgeFreeCells_21 ?_
    obtain ⟨r_4, h⟩ := h
    refine wa_callVv C (k := 5) (As := [.int (iI (-1)), .int (iI (c_3 - 1))]) (rest := []) (c_X6_sumUp l K ad (-1) (c_3 - 1) (inR_k (-1) rfl) r_4 _ h) gw_814 gw_811 dW_5 rfl gw_813 gs_30 gw_6 q_X6_sumUp rfl rfl rfl ⟨by decide, by decide⟩ rfl (Nat.le_of_ble_eq_true rfl) dX6_judgeFreeCells_22 (fun u9 hp => ?_)
    obtain ⟨O_sums_5, O_nextSums_6, rfl, h⟩ := hp
    refine wa_aload_n C 0 rfl dX6_judgeFreeCells_25 rfl ?_
    refine wa_aload_n C 0 rfl dX6_judgeFreeCells_26 rfl ?_
    refine wa_getR C 5 2 dW_5 rfl rfl (by decide) okX6 gw_274 dX6_judgeFreeCells_27 ?_
    refine wa_callVi C (k := 1) (As := []) (rest := [.ref (ad 5)]) (c_X2_minesLeft l K ad  _ h) gw_829 gw_826 dW_1 rfl gw_827 gw_828 gw_2 q_X2_minesLeft rfl rfl rfl ⟨by decide, by decide⟩ rfl (Nat.le_of_ble_eq_true rfl) dX6_judgeFreeCells_30 (fun c_7 u9 rc_7 hp => ?_)
    obtain ⟨rfl, h⟩ := hp
    replace h := h rc_7
    refine wa_iconst C (z := 1) dX6_judgeFreeCells_33 rfl ?_
    refine wa_isub C dX6_judgeFreeCells_34 ?_
    obtain ⟨r_8, h⟩ := h
    refine wa_callVi C (k := 5) (As := [.int (iI (c_7 - 1))]) (rest := []) (c_X6_hasSum l K ad (c_7 - 1) r_8 _ h) gw_833 gw_830 dW_5 rfl gw_832 gs_32 gw_6 q_X6_hasSum rfl rfl rfl ⟨by decide, by decide⟩ rfl (Nat.le_of_ble_eq_true rfl) dX6_judgeFreeCells_35 (fun c_9 u9 rc_9 hp => ?_)
    obtain ⟨bc_9, rfl, h⟩ := hp
    replace h := h bc_9
    refine wa_aload_n C 0 rfl dX6_judgeFreeCells_38 rfl ?_
    refine wa_aload_n C 0 rfl dX6_judgeFreeCells_39 rfl ?_
    refine wa_getR C 5 2 dW_5 rfl rfl (by decide) okX6 gw_274 dX6_judgeFreeCells_40 ?_
    refine wa_callVi C (k := 1) (As := []) (rest := [.ref (ad 5), .int (iI c_9)]) (c_X2_minesLeft l K ad  _ h) gw_829 gw_826 dW_1 rfl gw_827 gw_828 gw_2 q_X2_minesLeft rfl rfl rfl ⟨by decide, by decide⟩ rfl (Nat.le_of_ble_eq_true rfl) dX6_judgeFreeCells_43 (fun c_10 u9 rc_10 hp => ?_)
    obtain ⟨rfl, h⟩ := hp
    replace h := h rc_10
    refine wa_callVi C (k := 5) (As := [.int (iI c_10)]) (rest := [.int (iI c_9)]) (c_X6_hasSum l K ad c_10 rc_10 _ h) gw_833 gw_830 dW_5 rfl gw_832 gs_32 gw_6 q_X6_hasSum rfl rfl rfl ⟨by decide, by decide⟩ rfl (Nat.le_of_ble_eq_true rfl) dX6_judgeFreeCells_46 (fun c_11 u9 rc_11 hp => ?_)
    obtain ⟨bc_11, rfl, h⟩ := hp
    replace h := h bc_11
    refine wa_callSi C (As := [.int (iI c_9), .int (iI c_11)]) (rest := []) (c_X6_verdict l K ad c_9 c_11 bc_9 bc_11 _ h) gw_836 gw_834 gw_835 gw_6 q_X6_verdict rfl rfl rfl ⟨by decide, by decide⟩ rfl (Nat.le_of_ble_eq_true rfl) dX6_judgeFreeCells_49 (fun c_12 u9 rc_12 hp => ?_)
    obtain ⟨rfl, h⟩ := hp
    replace h := h rc_12
    refine wa_istore_n C dX6_judgeFreeCells_52 rfl (by decide) rfl ?_
    refine wa_iconst C (z := 0) dX6_judgeFreeCells_53 rfl ?_
    refine wa_istore_n C dX6_judgeFreeCells_54 rfl (by decide) rfl ?_
    obtain ⟨Inv_13, ⟨n_14, h0Inv_13⟩, hInv_13⟩ := h
    have k_17 : ∀ (n_15 : Nat) (x3_18 : Int) (R_found_19 : Int → Int), inR x3_18 → Inv_13 n_15 x3_18 R_found_19 → WA p l e ({ frames := 5, cells := 0, slots := 0, locals := 300 } : Room) s m args below meth c 0 0 Q K ad 4 A 55 [(0, .ref (ad 5)), (1, .ref (ad 44)), (2, .int (iI c_12)), (3, .int (iI x3_18))] [] (dW D_hasBoard D_beganBlank F_mines F_moves F_changes G_width G_height G_size B_parts B_longest S_groups S_askedGroup S_taken R_waitingCount R_metCount A_grade A_cell A_mined A_withTotal A_numbers X_low X_high Y_low Y_high F_mined F_number F_state F_cellsIn F_unknownNear F_hitNear F_moveStart F_changed F_waiting F_seen G_near G_nearEnd B_chosen B_partOf B_rest B_unknowns B_partStart B_cells S_minedSet S_safeSet S_partSet S_tally S_askedTally S_groupOf S_groupSize S_links S_linkEnd S_pick S_groupMinedSet S_groupSafeSet O_sums_5 O_nextSums_6 R_found_19 R_openEnds R_need R_waiting R_waits R_common R_met A_number Q_mined Q_all Q_choices Q_term Q_divisor Q_spare X_limbs X_sum Y_limbs Y_sum) := by
      intro n_15
      induction n_15 using Nat.strongRecOn with
      | ind n_15 ih_16 =>
        intro x3_18 R_found_19 rx3_18 h
        replace h := hInv_13 n_15 x3_18 R_found_19 rx3_18 h
        refine wa_iload_n C 3 rfl dX6_judgeFreeCells_55 rfl ?_
        refine wa_aload_n C 0 rfl dX6_judgeFreeCells_56 rfl ?_
        refine wa_getR C 5 2 dW_5 rfl rfl (by decide) okX6 gw_274 dX6_judgeFreeCells_57 ?_
        refine wa_getR C 1 0 dW_1 rfl rfl (by decide) okX2 gw_86 dX6_judgeFreeCells_60 ?_
        refine wa_getI C 2 2 dW_2 rfl rfl (by decide) okX3 gw_56 dX6_judgeFreeCells_63 (fun r_20 => ?_)
        refine wa_icmp_ge C (tgt := 103) rx3_18 r_20 dX6_judgeFreeCells_66 (by decide) (fun c_21 => ?_) (fun c_21 => ?_)
        · replace h := h.1 c_21
          exact ret dX6_judgeFreeCells_103 ⟨_, _, _, rfl, h⟩
        · replace h := h.2 c_21
          refine wa_aload_n C 0 rfl dX6_judgeFreeCells_69 rfl ?_
          refine wa_getR C 5 2 dW_5 rfl rfl (by decide) okX6 gw_274 dX6_judgeFreeCells_70 ?_
          refine wa_iload_n C 3 rfl dX6_judgeFreeCells_73 rfl ?_
          refine wa_callVi C (k := 1) (As := [.int (iI x3_18)]) (rest := []) (c_X2_isUnknown l K ad x3_18 rx3_18 _ h) gw_665 gw_841 dW_1 rfl gw_663 gw_664 gw_2 q_X2_isUnknown rfl rfl rfl ⟨by decide, by decide⟩ rfl (Nat.le_of_ble_eq_true rfl) dX6_judgeFreeCells_74 (fun c_22 u9 rc_22 hp => ?_)
          obtain ⟨bc_22, rfl, h⟩ := hp
          replace h := h bc_22
          obtain ⟨J_23, h, hJ_23⟩ := h
          have k_24 : ∀ (R_found_25 : Int → Int), J_23 R_found_25 → WA p l e ({ frames := 5, cells := 0, slots := 0, locals := 300 } : Room) s m args below meth c 0 0 Q K ad 4 A 97 [(0, .ref (ad 5)), (1, .ref (ad 44)), (2, .int (iI c_12)), (3, .int (iI x3_18))] [] (dW D_hasBoard D_beganBlank F_mines F_moves F_changes G_width G_height G_size B_parts B_longest S_groups S_askedGroup S_taken R_waitingCount R_metCount A_grade A_cell A_mined A_withTotal A_numbers X_low X_high Y_low Y_high F_mined F_number F_state F_cellsIn F_unknownNear F_hitNear F_moveStart F_changed F_waiting F_seen G_near G_nearEnd B_chosen B_partOf B_rest B_unknowns B_partStart B_cells S_minedSet S_safeSet S_partSet S_tally S_askedTally S_groupOf S_groupSize S_links S_linkEnd S_pick S_groupMinedSet S_groupSafeSet O_sums_5 O_nextSums_6 R_found_25 R_openEnds R_need R_waiting R_waits R_common R_met A_number Q_mined Q_all Q_choices Q_term Q_divisor Q_spare X_limbs X_sum Y_limbs Y_sum) := by
            intro R_found_25 h
            replace h := hJ_23 R_found_25 h
            obtain ⟨r_26, h⟩ := h
            refine wa_iinc C (lv' := fun w9 => [(3, .int (iI w9)), (0, .ref (ad 5)), (1, .ref (ad 44)), (2, .int (iI c_12))]) 3 rfl dX6_judgeFreeCells_97 (by decide) (fun _ => rfl) (fun x3_27 ex3_27 => ?_)
            replace h := h x3_27 ex3_27
            have rx3_27 : inR x3_27 := by rw [ex3_27]; exact r_26
            refine wa_goto C (tgt := 55) dX6_judgeFreeCells_100 (by decide) ?_
            obtain ⟨n_28, ln_28, h⟩ := h
            refine wa_sub C [1, 2, 3, 0] rfl ?_
            exact ih_16 n_28 ln_28 x3_27 R_found_25 rx3_27 h
          refine wa_if_eq C (tgt := 97) (inR_b bc_22) dX6_judgeFreeCells_77 (by decide) (fun c_29 => ?_) (fun c_29 => ?_)
          · replace h := h.1 c_29
            refine wa_sub C [0, 1, 2, 3] rfl ?_
            exact k_24 R_found_19 h
          · replace h := h.2 c_29
            refine wa_aload_n C 0 rfl dX6_judgeFreeCells_80 rfl ?_
            refine wa_getR C 5 0 dW_5 rfl rfl (by decide) okX6 gw_271 dX6_judgeFreeCells_81 ?_
            refine wa_getR C 3 3 dW_3 rfl rfl (by decide) okX1 gw_164 dX6_judgeFreeCells_84 ?_
            refine wa_iload_n C 3 rfl dX6_judgeFreeCells_87 rfl ?_
            obtain ⟨t_30, h⟩ := h
            refine wa_iald C 25 dW_25 dX6_judgeFreeCells_88 t_30.1 t_30.2 (fun v_31 ev_31 rv_31 => ?_)
            replace h := h v_31 ev_31 rv_31
            refine wa_iconst C (z := -1) dX6_judgeFreeCells_89 rfl ?_
            refine wa_icmp_ne C (tgt := 97) rv_31 (inR_k (-1) rfl) dX6_judgeFreeCells_90 (by decide) (fun c_32 => ?_) (fun c_32 => ?_)
            · replace h := h.1 c_32
              refine wa_sub C [0, 1, 2, 3] rfl ?_
              exact k_24 R_found_19 h
            · replace h := h.2 c_32
              refine wa_aload_n C 1 rfl dX6_judgeFreeCells_93 rfl ?_
              refine wa_iload_n C 3 rfl dX6_judgeFreeCells_94 rfl ?_
              refine wa_iload_n C 2 rfl dX6_judgeFreeCells_95 rfl ?_
              obtain ⟨t_33, h⟩ := h
              refine wa_iast C (ws' := fun w9 => (dW D_hasBoard D_beganBlank F_mines F_moves F_changes G_width G_height G_size B_parts B_longest S_groups S_askedGroup S_taken R_waitingCount R_metCount A_grade A_cell A_mined A_withTotal A_numbers X_low X_high Y_low Y_high F_mined F_number F_state F_cellsIn F_unknownNear F_hitNear F_moveStart F_changed F_waiting F_seen G_near G_nearEnd B_chosen B_partOf B_rest B_unknowns B_partStart B_cells S_minedSet S_safeSet S_partSet S_tally S_askedTally S_groupOf S_groupSize S_links S_linkEnd S_pick S_groupMinedSet S_groupSafeSet O_sums_5 O_nextSums_6 w9 R_openEnds R_need R_waiting R_waits R_common R_met A_number Q_mined Q_all Q_choices Q_term Q_divisor Q_spare X_limbs X_sum Y_limbs Y_sum)) 44 dW_44 dX6_judgeFreeCells_96 t_33.1 t_33.2 rc_12 dWs_44 (fun R_found_34 eR_found_34 => ?_)
              replace h := h R_found_34 eR_found_34
              refine wa_sub C [0, 1, 2, 3] rfl ?_
              exact k_24 R_found_34 h
    refine wa_sub C [2, 3, 1, 0] rfl ?_
    exact k_17 n_14 0 R_found (inR_k 0 rfl) h0Inv_13
  · replace h := h.2 c_2
    exact ret dX6_judgeFreeCells_10 ⟨_, _, _, rfl, h⟩
def P_X6_judge_44 (post : (Int) → (Int) → (Int) → (Int) → (Int) → (Int → Int) → (Int → Int) → (Int → Int) → (Int → Int) → (Int → Int) → (Int → Int) → (Int → Int) → (Int → Int) → (Int → Int) → (Int → Int) → (Int → Int) → (Int → Int) → (Int → Int) → (Int → Int) → (Int → Int) → (Int → Int) → (Int → Int) → (Int → Int) → (Int → Int64) → (Int → Int64) → (Int → Int) → Prop) (F_mines : Int) (G_size : Int) (B_parts : Int) (B_longest : Int) (S_groups : Int) (S_askedGroup : Int) (S_taken : Int) (F_number : Int → Int) (F_state : Int → Int) (F_cellsIn : Int → Int) (F_unknownNear : Int → Int) (F_hitNear : Int → Int) (G_near : Int → Int) (G_nearEnd : Int → Int) (B_chosen : Int → Int) (B_partOf : Int → Int) (B_rest : Int → Int) (B_unknowns : Int → Int) (B_partStart : Int → Int) (B_cells : Int → Int) (S_minedSet : Int → Int) (S_safeSet : Int → Int) (S_partSet : Int → Int) (S_tally : Int → Int) (S_askedTally : Int → Int) (S_groupOf : Int → Int) (S_groupSize : Int → Int) (S_links : Int → Int) (S_linkEnd : Int → Int) (S_pick : Int → Int) (S_groupMinedSet : Int → Int) (S_groupSafeSet : Int → Int) (O_sums : Int → Int64) (O_nextSums : Int → Int64) (R_found : Int → Int) : Prop :=
  P_X1_chooseAll (fun (B_chosen_1 : Int → Int) => (P_X1_split (fun (B_parts_2 : Int) (B_longest_3 : Int) (B_partOf_4 : Int → Int) (B_rest_5 : Int → Int) (B_unknowns_6 : Int → Int) (B_partStart_7 : Int → Int) (B_cells_8 : Int → Int) => (P_X1_isTooLong (fun (c_9 : Int) => (c_9 = 0 ∨ c_9 = 1) → ((c_9 = 0 → (∃ Inv_11 : Nat → (Int) → (Int) → (Int) → (Int) → (Int → Int) → (Int → Int) → (Int → Int) → (Int → Int) → (Int → Int) → (Int → Int) → (Int → Int) → (Int → Int) → (Int → Int) → (Int → Int) → (Int → Int) → (Int → Int) → (Int → Int) → (Int → Int) → Prop, (∃ n_12 : Nat, Inv_11 n_12 0 S_groups S_askedGroup S_taken B_rest_5 B_unknowns_6 S_minedSet S_safeSet S_partSet S_tally S_askedTally S_groupOf S_groupSize S_links S_linkEnd S_pick S_groupMinedSet S_groupSafeSet) ∧ ∀ (n_13 : Nat) (x2_16 : Int) (S_groups_17 : Int) (S_askedGroup_18 : Int) (S_taken_19 : Int) (B_rest_20 : Int → Int) (B_unknowns_21 : Int → Int) (S_minedSet_22 : Int → Int) (S_safeSet_23 : Int → Int) (S_partSet_24 : Int → Int) (S_tally_25 : Int → Int) (S_askedTally_26 : Int → Int) (S_groupOf_27 : Int → Int) (S_groupSize_28 : Int → Int) (S_links_29 : Int → Int) (S_linkEnd_30 : Int → Int) (S_pick_31 : Int → Int) (S_groupMinedSet_32 : Int → Int) (S_groupSafeSet_33 : Int → Int), inR x2_16 → Inv_11 n_13 x2_16 S_groups_17 S_askedGroup_18 S_taken_19 B_rest_20 B_unknowns_21 S_minedSet_22 S_safeSet_23 S_partSet_24 S_tally_25 S_askedTally_26 S_groupOf_27 S_groupSize_28 S_links_29 S_linkEnd_30 S_pick_31 S_groupMinedSet_32 S_groupSafeSet_33 → ((B_parts_2 ≤ x2_16 → (∃ Inv_36 : Nat → (Int) → (Int → Int64) → (Int → Int64) → (Int → Int) → Prop, (∃ n_37 : Nat, Inv_36 n_37 0 O_sums O_nextSums R_found) ∧ ∀ (n_38 : Nat) (x2_41 : Int) (O_sums_42 : Int → Int64) (O_nextSums_43 : Int → Int64) (R_found_44 : Int → Int), inR x2_41 → Inv_36 n_38 x2_41 O_sums_42 O_nextSums_43 R_found_44 → ((B_parts_2 ≤ x2_41 → (P_X6_judgeFreeCells_44 (fun (O_sums_47 : Int → Int64) (O_nextSums_48 : Int → Int64) (R_found_49 : Int → Int) => (post B_parts_2 B_longest_3 S_groups_17 S_askedGroup_18 S_taken_19 B_chosen_1 B_partOf_4 B_rest_20 B_unknowns_21 B_partStart_7 B_cells_8 S_minedSet_22 S_safeSet_23 S_partSet_24 S_tally_25 S_askedTally_26 S_groupOf_27 S_groupSize_28 S_links_29 S_linkEnd_30 S_pick_31 S_groupMinedSet_32 S_groupSafeSet_33 O_sums_47 O_nextSums_48 R_found_49)) F_mines G_size B_parts_2 F_state F_cellsIn B_partOf_4 B_partStart_7 S_partSet_24 O_sums_42 O_nextSums_43 R_found_44 )) ∧ (¬ B_parts_2 ≤ x2_41 → (P_X6_fittingSet (fun (c_50 : Int) (O_sums_51 : Int → Int64) (O_nextSums_52 : Int → Int64) => inR c_50 → ((0 ≤ x2_41 ∧ x2_41 < 145) ∧ (∀ v_54 : Int, v_54 = B_partStart_7 x2_41 → inR v_54 → (∃ Inv_55 : Nat → (Int) → (Int → Int) → Prop, (∃ n_56 : Nat, Inv_55 n_56 v_54 R_found_44) ∧ ∀ (n_57 : Nat) (x4_60 : Int) (R_found_61 : Int → Int), inR x4_60 → Inv_55 n_57 x4_60 R_found_61 → ((0 ≤ (x2_41 + 1) ∧ (x2_41 + 1) < 145) ∧ (∀ v_63 : Int, v_63 = B_partStart_7 (x2_41 + 1) → inR v_63 → ((v_63 ≤ x4_60 → (inR (x2_41 + 1) ∧ (∀ x2_66 : Int, x2_66 = (x2_41 + 1) → (∃ n_67 : Nat, n_67 < n_38 ∧ Inv_36 n_67 x2_66 O_sums_51 O_nextSums_52 R_found_61)))) ∧ (¬ v_63 ≤ x4_60 → ((0 ≤ x4_60 ∧ x4_60 < 144) ∧ (∀ v_69 : Int, v_69 = B_cells_8 x4_60 → inR v_69 → ((0 ≤ v_69 ∧ v_69 < 144) ∧ (∀ v_71 : Int, v_71 = S_minedSet_22 v_69 → inR v_71 → (∃ J_72 : (Int) → Prop, (((andI v_71 c_50) = 0 → (J_72 0)) ∧ (¬ (andI v_71 c_50) = 0 → (J_72 1))) ∧ (∀ (z_74 : Int), inR z_74 → J_72 z_74 → ((0 ≤ v_69 ∧ v_69 < 144) ∧ (∀ v_76 : Int, v_76 = S_safeSet_23 v_69 → inR v_76 → (∃ J_77 : (Int) → Prop, (((andI v_76 c_50) = 0 → (J_77 0)) ∧ (¬ (andI v_76 c_50) = 0 → (J_77 1))) ∧ (∀ (z_79 : Int), inR z_79 → J_77 z_79 → ((z_74 = 0 ∨ z_74 = 1) ∧ ((z_79 = 0 ∨ z_79 = 1) ∧ (P_X6_verdict (fun (c_82 : Int) => inR c_82 → ((0 ≤ v_69 ∧ v_69 < 144) ∧ (∀ R_found_84 : Int → Int, R_found_84 = upZ R_found_61 v_69 c_82 → (inR (x4_60 + 1) ∧ (∀ x4_86 : Int, x4_86 = (x4_60 + 1) → (∃ n_87 : Nat, n_87 < n_57 ∧ Inv_55 n_87 x4_86 R_found_84))))))  z_74 z_79))))))))))))))))))))) F_mines B_parts_2 F_cellsIn B_partStart_7 S_partSet_24 O_sums_42 O_nextSums_43 x2_41))))) ∧ (¬ B_parts_2 ≤ x2_16 → (P_X9_take (fun (S_groups_90 : Int) (S_askedGroup_91 : Int) (S_taken_92 : Int) (B_rest_93 : Int → Int) (B_unknowns_94 : Int → Int) (S_minedSet_95 : Int → Int) (S_safeSet_96 : Int → Int) (S_partSet_97 : Int → Int) (S_tally_98 : Int → Int) (S_askedTally_99 : Int → Int) (S_groupOf_100 : Int → Int) (S_groupSize_101 : Int → Int) (S_links_102 : Int → Int) (S_linkEnd_103 : Int → Int) (S_pick_104 : Int → Int) (S_groupMinedSet_105 : Int → Int) (S_groupSafeSet_106 : Int → Int) => (inR (x2_16 + 1) ∧ (∀ x2_108 : Int, x2_108 = (x2_16 + 1) → (∃ n_109 : Nat, n_109 < n_13 ∧ Inv_11 n_109 x2_108 S_groups_90 S_askedGroup_91 S_taken_92 B_rest_93 B_unknowns_94 S_minedSet_95 S_safeSet_96 S_partSet_97 S_tally_98 S_askedTally_99 S_groupOf_100 S_groupSize_101 S_links_102 S_linkEnd_103 S_pick_104 S_groupMinedSet_105 S_groupSafeSet_106)))) S_groups_17 S_askedGroup_18 S_taken_19 G_near G_nearEnd B_chosen_1 B_rest_20 B_unknowns_21 B_partStart_7 B_cells_8 S_minedSet_22 S_safeSet_23 S_partSet_24 S_tally_25 S_askedTally_26 S_groupOf_27 S_groupSize_28 S_links_29 S_linkEnd_30 S_pick_31 S_groupMinedSet_32 S_groupSafeSet_33 x2_16 (-1)))))) ∧ (¬ c_9 = 0 → (post B_parts_2 B_longest_3 S_groups S_askedGroup S_taken B_chosen_1 B_partOf_4 B_rest_5 B_unknowns_6 B_partStart_7 B_cells_8 S_minedSet S_safeSet S_partSet S_tally S_askedTally S_groupOf S_groupSize S_links S_linkEnd S_pick S_groupMinedSet S_groupSafeSet O_sums O_nextSums R_found)))) B_longest_3 )) G_size B_parts B_longest F_number F_state F_unknownNear F_hitNear G_near G_nearEnd B_chosen_1 B_partOf B_rest B_unknowns B_partStart B_cells )) G_size F_state F_unknownNear B_chosen 
set_option maxRecDepth 100000 in
set_option maxHeartbeats 4000000 in
theorem c_X6_judge_44 (l : Launch) (K : wK) (ad : Nat → Nat) {D_hasBoard : Int} {D_beganBlank : Int} {F_mines : Int} {F_moves : Int} {F_changes : Int} {G_width : Int} {G_height : Int} {G_size : Int} {B_parts : Int} {B_longest : Int} {S_groups : Int} {S_askedGroup : Int} {S_taken : Int} {R_waitingCount : Int} {R_metCount : Int} {A_grade : Int} {A_cell : Int} {A_mined : Int} {A_withTotal : Int} {A_numbers : Int} {X_low : Int} {X_high : Int} {Y_low : Int} {Y_high : Int} {F_mined : Int → Int} {F_number : Int → Int} {F_state : Int → Int} {F_cellsIn : Int → Int} {F_unknownNear : Int → Int} {F_hitNear : Int → Int} {F_moveStart : Int → Int} {F_changed : Int → Int} {F_waiting : Int → Int} {F_seen : Int → Int} {G_near : Int → Int} {G_nearEnd : Int → Int} {B_chosen : Int → Int} {B_partOf : Int → Int} {B_rest : Int → Int} {B_unknowns : Int → Int} {B_partStart : Int → Int} {B_cells : Int → Int} {S_minedSet : Int → Int} {S_safeSet : Int → Int} {S_partSet : Int → Int} {S_tally : Int → Int} {S_askedTally : Int → Int} {S_groupOf : Int → Int} {S_groupSize : Int → Int} {S_links : Int → Int} {S_linkEnd : Int → Int} {S_pick : Int → Int} {S_groupMinedSet : Int → Int} {S_groupSafeSet : Int → Int} {O_sums : Int → Int64} {O_nextSums : Int → Int64} {R_found : Int → Int} {R_openEnds : Int → Int} {R_need : Int → Int} {R_waiting : Int → Int} {R_waits : Int → Int} {R_common : Int → Int} {R_met : Int → Int} {A_number : Int → Int} {Q_mined : Int → Int64} {Q_all : Int → Int64} {Q_choices : Int → Int64} {Q_term : Int → Int64} {Q_divisor : Int → Int64} {Q_spare : Int → Int64} {X_limbs : Int → Int64} {X_sum : Int → Int64} {Y_limbs : Int → Int64} {Y_sum : Int → Int64}   (post : (Int) → (Int) → (Int) → (Int) → (Int) → (Int → Int) → (Int → Int) → (Int → Int) → (Int → Int) → (Int → Int) → (Int → Int) → (Int → Int) → (Int → Int) → (Int → Int) → (Int → Int) → (Int → Int) → (Int → Int) → (Int → Int) → (Int → Int) → (Int → Int) → (Int → Int) → (Int → Int) → (Int → Int) → (Int → Int64) → (Int → Int64) → (Int → Int) → Prop) (h : P_X6_judge_44 post F_mines G_size B_parts B_longest S_groups S_askedGroup S_taken F_number F_state F_cellsIn F_unknownNear F_hitNear G_near G_nearEnd B_chosen B_partOf B_rest B_unknowns B_partStart B_cells S_minedSet S_safeSet S_partSet S_tally S_askedTally S_groupOf S_groupSize S_links S_linkEnd S_pick S_groupMinedSet S_groupSafeSet O_sums O_nextSums R_found) : mV l yX6_judge (Cond.code yX6_judge cX6_judge 6 none :: GT) ({ frames := 24, cells := 0, slots := 0, locals := 1440 } : Room) [.ref (ad 5), .ref (ad 44)] K ad (dW D_hasBoard D_beganBlank F_mines F_moves F_changes G_width G_height G_size B_parts B_longest S_groups S_askedGroup S_taken R_waitingCount R_metCount A_grade A_cell A_mined A_withTotal A_numbers X_low X_high Y_low Y_high F_mined F_number F_state F_cellsIn F_unknownNear F_hitNear F_moveStart F_changed F_waiting F_seen G_near G_nearEnd B_chosen B_partOf B_rest B_unknowns B_partStart B_cells S_minedSet S_safeSet S_partSet S_tally S_askedTally S_groupOf S_groupSize S_links S_linkEnd S_pick S_groupMinedSet S_groupSafeSet O_sums O_nextSums R_found R_openEnds R_need R_waiting R_waits R_common R_met A_number Q_mined Q_all Q_choices Q_term Q_divisor Q_spare X_limbs X_sum Y_limbs Y_sum) (fun u9 => ∃ B_parts9 B_longest9 S_groups9 S_askedGroup9 S_taken9 B_chosen9 B_partOf9 B_rest9 B_unknowns9 B_partStart9 B_cells9 S_minedSet9 S_safeSet9 S_partSet9 S_tally9 S_askedTally9 S_groupOf9 S_groupSize9 S_links9 S_linkEnd9 S_pick9 S_groupMinedSet9 S_groupSafeSet9 O_sums9 O_nextSums9 R_found9, u9 = (dW D_hasBoard D_beganBlank F_mines F_moves F_changes G_width G_height G_size B_parts9 B_longest9 S_groups9 S_askedGroup9 S_taken9 R_waitingCount R_metCount A_grade A_cell A_mined A_withTotal A_numbers X_low X_high Y_low Y_high F_mined F_number F_state F_cellsIn F_unknownNear F_hitNear F_moveStart F_changed F_waiting F_seen G_near G_nearEnd B_chosen9 B_partOf9 B_rest9 B_unknowns9 B_partStart9 B_cells9 S_minedSet9 S_safeSet9 S_partSet9 S_tally9 S_askedTally9 S_groupOf9 S_groupSize9 S_links9 S_linkEnd9 S_pick9 S_groupMinedSet9 S_groupSafeSet9 O_sums9 O_nextSums9 R_found9 R_openEnds R_need R_waiting R_waits R_common R_met A_number Q_mined Q_all Q_choices Q_term Q_divisor Q_spare X_limbs X_sum Y_limbs Y_sum) ∧ post B_parts9 B_longest9 S_groups9 S_askedGroup9 S_taken9 B_chosen9 B_partOf9 B_rest9 B_unknowns9 B_partStart9 B_cells9 S_minedSet9 S_safeSet9 S_partSet9 S_tally9 S_askedTally9 S_groupOf9 S_groupSize9 S_links9 S_linkEnd9 S_pick9 S_groupMinedSet9 S_groupSafeSet9 O_sums9 O_nextSums9 R_found9) := by
  refine mV_of (lv0 := [(0, .ref (ad 5)), (1, .ref (ad 44))]) (by decide) (Nat.le_of_ble_eq_true rfl) rfl ?_
  intro p e s m args below meth c Q A C ret
  replace C : Cx p ({ frames := 24, cells := 0, slots := 0, locals := 1440 } : Room) m c 0 0 cX6_judge 6 s args RX6 K A := C
  unfold P_X6_judge_44 at h
  refine wa_aload_n C 0 rfl dX6_judge_0 rfl ?_
  refine wa_getR C 5 0 dW_5 rfl rfl (by decide) okX6 gw_271 dX6_judge_1 ?_
  refine wa_callVv C (k := 3) (As := []) (rest := []) (c_X1_chooseAll l K ad  _ h) gw_724 gw_721 dW_3 rfl gw_722 gw_723 gw_4 q_X1_chooseAll rfl rfl rfl ⟨by decide, by decide⟩ rfl (Nat.le_of_ble_eq_true rfl) dX6_judge_4 (fun u9 hp => ?_)
  obtain ⟨B_chosen_1, rfl, h⟩ := hp
  refine wa_aload_n C 0 rfl dX6_judge_7 rfl ?_
  refine wa_getR C 5 0 dW_5 rfl rfl (by decide) okX6 gw_271 dX6_judge_8 ?_
  refine wa_callVv C (k := 3) (As := []) (rest := []) (c_X1_split l K ad  _ h) gw_732 gw_729 dW_3 rfl gw_730 gw_731 gw_4 q_X1_split rfl rfl rfl ⟨by decide, by decide⟩ rfl (Nat.le_of_ble_eq_true rfl) dX6_judge_11 (fun u9 hp => ?_)
  obtain ⟨B_parts_2, B_longest_3, B_partOf_4, B_rest_5, B_unknowns_6, B_partStart_7, B_cells_8, rfl, h⟩ := hp
  refine wa_aload_n C 0 rfl dX6_judge_14 rfl ?_
  refine wa_getR C 5 0 dW_5 rfl rfl (by decide) okX6 gw_271 dX6_judge_15 ?_
  refine wa_callVi C (k := 3) (As := []) (rest := []) (c_X1_isTooLong l K ad  _ h) gw_749 gw_746 dW_3 rfl gw_747 gw_748 gw_4 q_X1_isTooLong rfl rfl rfl ⟨by decide, by decide⟩ rfl (Nat.le_of_ble_eq_true rfl) dX6_judge_18 (fun c_9 u9 rc_9 hp => ?_)
  obtain ⟨bc_9, rfl, h⟩ := hp
  replace h := h bc_9
  refine wa_if_eq C (tgt := 25) (inR_b bc_9) dX6_judge_21 (by decide) (fun c_10 => ?_) (fun c_10 => ?_)
  · replace h := h.1 c_10
    refine wa_iconst C (z := 0) dX6_judge_25 rfl ?_
    refine wa_istore_n C dX6_judge_26 rfl (by decide) rfl ?_
    obtain ⟨Inv_11, ⟨n_12, h0Inv_11⟩, hInv_11⟩ := h
    have k_15 : ∀ (n_13 : Nat) (x2_16 : Int) (S_groups_17 : Int) (S_askedGroup_18 : Int) (S_taken_19 : Int) (B_rest_20 : Int → Int) (B_unknowns_21 : Int → Int) (S_minedSet_22 : Int → Int) (S_safeSet_23 : Int → Int) (S_partSet_24 : Int → Int) (S_tally_25 : Int → Int) (S_askedTally_26 : Int → Int) (S_groupOf_27 : Int → Int) (S_groupSize_28 : Int → Int) (S_links_29 : Int → Int) (S_linkEnd_30 : Int → Int) (S_pick_31 : Int → Int) (S_groupMinedSet_32 : Int → Int) (S_groupSafeSet_33 : Int → Int), inR x2_16 → Inv_11 n_13 x2_16 S_groups_17 S_askedGroup_18 S_taken_19 B_rest_20 B_unknowns_21 S_minedSet_22 S_safeSet_23 S_partSet_24 S_tally_25 S_askedTally_26 S_groupOf_27 S_groupSize_28 S_links_29 S_linkEnd_30 S_pick_31 S_groupMinedSet_32 S_groupSafeSet_33 → WA p l e ({ frames := 24, cells := 0, slots := 0, locals := 1440 } : Room) s m args below meth c 0 0 Q K ad 6 A 27 [(0, .ref (ad 5)), (1, .ref (ad 44)), (2, .int (iI x2_16))] [] (dW D_hasBoard D_beganBlank F_mines F_moves F_changes G_width G_height G_size B_parts_2 B_longest_3 S_groups_17 S_askedGroup_18 S_taken_19 R_waitingCount R_metCount A_grade A_cell A_mined A_withTotal A_numbers X_low X_high Y_low Y_high F_mined F_number F_state F_cellsIn F_unknownNear F_hitNear F_moveStart F_changed F_waiting F_seen G_near G_nearEnd B_chosen_1 B_partOf_4 B_rest_20 B_unknowns_21 B_partStart_7 B_cells_8 S_minedSet_22 S_safeSet_23 S_partSet_24 S_tally_25 S_askedTally_26 S_groupOf_27 S_groupSize_28 S_links_29 S_linkEnd_30 S_pick_31 S_groupMinedSet_32 S_groupSafeSet_33 O_sums O_nextSums R_found R_openEnds R_need R_waiting R_waits R_common R_met A_number Q_mined Q_all Q_choices Q_term Q_divisor Q_spare X_limbs X_sum Y_limbs Y_sum) := by
      intro n_13
      induction n_13 using Nat.strongRecOn with
      | ind n_13 ih_14 =>
        intro x2_16 S_groups_17 S_askedGroup_18 S_taken_19 B_rest_20 B_unknowns_21 S_minedSet_22 S_safeSet_23 S_partSet_24 S_tally_25 S_askedTally_26 S_groupOf_27 S_groupSize_28 S_links_29 S_linkEnd_30 S_pick_31 S_groupMinedSet_32 S_groupSafeSet_33 rx2_16 h
        replace h := hInv_11 n_13 x2_16 S_groups_17 S_askedGroup_18 S_taken_19 B_rest_20 B_unknowns_21 S_minedSet_22 S_safeSet_23 S_partSet_24 S_tally_25 S_askedTally_26 S_groupOf_27 S_groupSize_28 S_links_29 S_linkEnd_30 S_pick_31 S_groupMinedSet_32 S_groupSafeSet_33 rx2_16 h
        refine wa_iload_n C 2 rfl dX6_judge_27 rfl ?_
        refine wa_aload_n C 0 rfl dX6_judge_28 rfl ?_
        refine wa_getR C 5 0 dW_5 rfl rfl (by decide) okX6 gw_271 dX6_judge_29 ?_
        refine wa_getI C 3 8 dW_3 rfl rfl (by decide) okX1 gw_178 dX6_judge_32 (fun r_34 => ?_)
        refine wa_icmp_ge C (tgt := 53) rx2_16 r_34 dX6_judge_35 (by decide) (fun c_35 => ?_) (fun c_35 => ?_)
        · replace h := h.1 c_35
          refine wa_iconst C (z := 0) dX6_judge_53 rfl ?_
          refine wa_istore_n C dX6_judge_54 rfl (by decide) rfl ?_
          obtain ⟨Inv_36, ⟨n_37, h0Inv_36⟩, hInv_36⟩ := h
          have k_40 : ∀ (n_38 : Nat) (x2_41 : Int) (O_sums_42 : Int → Int64) (O_nextSums_43 : Int → Int64) (R_found_44 : Int → Int), inR x2_41 → Inv_36 n_38 x2_41 O_sums_42 O_nextSums_43 R_found_44 → WA p l e ({ frames := 24, cells := 0, slots := 0, locals := 1440 } : Room) s m args below meth c 0 0 Q K ad 6 A 55 [(0, .ref (ad 5)), (1, .ref (ad 44)), (2, .int (iI x2_41))] [] (dW D_hasBoard D_beganBlank F_mines F_moves F_changes G_width G_height G_size B_parts_2 B_longest_3 S_groups_17 S_askedGroup_18 S_taken_19 R_waitingCount R_metCount A_grade A_cell A_mined A_withTotal A_numbers X_low X_high Y_low Y_high F_mined F_number F_state F_cellsIn F_unknownNear F_hitNear F_moveStart F_changed F_waiting F_seen G_near G_nearEnd B_chosen_1 B_partOf_4 B_rest_20 B_unknowns_21 B_partStart_7 B_cells_8 S_minedSet_22 S_safeSet_23 S_partSet_24 S_tally_25 S_askedTally_26 S_groupOf_27 S_groupSize_28 S_links_29 S_linkEnd_30 S_pick_31 S_groupMinedSet_32 S_groupSafeSet_33 O_sums_42 O_nextSums_43 R_found_44 R_openEnds R_need R_waiting R_waits R_common R_met A_number Q_mined Q_all Q_choices Q_term Q_divisor Q_spare X_limbs X_sum Y_limbs Y_sum) := by
            intro n_38
            induction n_38 using Nat.strongRecOn with
            | ind n_38 ih_39 =>
              intro x2_41 O_sums_42 O_nextSums_43 R_found_44 rx2_41 h
              replace h := hInv_36 n_38 x2_41 O_sums_42 O_nextSums_43 R_found_44 rx2_41 h
              refine wa_iload_n C 2 rfl dX6_judge_55 rfl ?_
              refine wa_aload_n C 0 rfl dX6_judge_56 rfl ?_
              refine wa_getR C 5 0 dW_5 rfl rfl (by decide) okX6 gw_271 dX6_judge_57 ?_
              refine wa_getI C 3 8 dW_3 rfl rfl (by decide) okX1 gw_178 dX6_judge_60 (fun r_45 => ?_)
              refine wa_icmp_ge C (tgt := 170) rx2_41 r_34 dX6_judge_63 (by decide) (fun c_46 => ?_) (fun c_46 => ?_)
              · replace h := h.1 c_46
                refine wa_aload_n C 0 rfl dX6_judge_170 rfl ?_
                refine wa_aload_n C 1 rfl dX6_judge_171 rfl ?_
                refine wa_callVv C (k := 5) (As := [.ref (ad 44)]) (rest := []) (c_X6_judgeFreeCells_44 l K ad  _ h) gw_840 gw_837 dW_5 rfl gw_839 gs_33 gw_6 q_X6_judgeFreeCells rfl rfl rfl ⟨by decide, by decide⟩ rfl (Nat.le_of_ble_eq_true rfl) dX6_judge_172 (fun u9 hp => ?_)
                obtain ⟨O_sums_47, O_nextSums_48, R_found_49, rfl, h⟩ := hp
                exact ret dX6_judge_175 ⟨_, _, _, _, _, _, _, _, _, _, _, _, _, _, _, _, _, _, _, _, _, _, _, _, _, _, rfl, h⟩
              · replace h := h.2 c_46
                refine wa_aload_n C 0 rfl dX6_judge_66 rfl ?_
                refine wa_iload_n C 2 rfl dX6_judge_67 rfl ?_
                refine wa_callVi C (k := 5) (As := [.int (iI x2_41)]) (rest := []) (c_X6_fittingSet l K ad x2_41 rx2_41 _ h) gw_802 gw_799 dW_5 rfl gw_801 gs_29 gw_6 q_X6_fittingSet rfl rfl rfl ⟨by decide, by decide⟩ rfl (Nat.le_of_ble_eq_true rfl) dX6_judge_68 (fun c_50 u9 rc_50 hp => ?_)
                obtain ⟨O_sums_51, O_nextSums_52, rfl, h⟩ := hp
                replace h := h rc_50
                refine wa_istore_n C dX6_judge_71 rfl (by decide) rfl ?_
                refine wa_aload_n C 1 rfl dX6_judge_72 rfl ?_
                refine wa_getR C 5 0 dW_5 rfl rfl (by decide) okX6 gw_271 dX6_judge_73 ?_
                refine wa_getR C 3 6 dW_3 rfl rfl (by decide) okX1 gw_173 dX6_judge_76 ?_
                refine wa_iload_n C 3 rfl dX6_judge_79 rfl ?_
                obtain ⟨t_53, h⟩ := h
                refine wa_iald C 28 dW_28 dX6_judge_80 t_53.1 t_53.2 (fun v_54 ev_54 rv_54 => ?_)
                replace h := h v_54 ev_54 rv_54
                refine wa_istore C dX6_judge_81 (by decide) rfl ?_
                obtain ⟨Inv_55, ⟨n_56, h0Inv_55⟩, hInv_55⟩ := h
                have k_59 : ∀ (n_57 : Nat) (x4_60 : Int) (R_found_61 : Int → Int), inR x4_60 → Inv_55 n_57 x4_60 R_found_61 → WA p l e ({ frames := 24, cells := 0, slots := 0, locals := 1440 } : Room) s m args below meth c 0 0 Q K ad 6 A 83 [(0, .ref (ad 5)), (1, .ref (ad 44)), (2, .int (iI x2_41)), (3, .int (iI c_50)), (4, .int (iI x4_60))] [] (dW D_hasBoard D_beganBlank F_mines F_moves F_changes G_width G_height G_size B_parts_2 B_longest_3 S_groups_17 S_askedGroup_18 S_taken_19 R_waitingCount R_metCount A_grade A_cell A_mined A_withTotal A_numbers X_low X_high Y_low Y_high F_mined F_number F_state F_cellsIn F_unknownNear F_hitNear F_moveStart F_changed F_waiting F_seen G_near G_nearEnd B_chosen_1 B_partOf_4 B_rest_20 B_unknowns_21 B_partStart_7 B_cells_8 S_minedSet_22 S_safeSet_23 S_partSet_24 S_tally_25 S_askedTally_26 S_groupOf_27 S_groupSize_28 S_links_29 S_linkEnd_30 S_pick_31 S_groupMinedSet_32 S_groupSafeSet_33 O_sums_51 O_nextSums_52 R_found_61 R_openEnds R_need R_waiting R_waits R_common R_met A_number Q_mined Q_all Q_choices Q_term Q_divisor Q_spare X_limbs X_sum Y_limbs Y_sum) := by
                  intro n_57
                  induction n_57 using Nat.strongRecOn with
                  | ind n_57 ih_58 =>
                    intro x4_60 R_found_61 rx4_60 h
                    replace h := hInv_55 n_57 x4_60 R_found_61 rx4_60 h
                    refine wa_iload C 4 rfl dX6_judge_83 ?_
                    refine wa_aload_n C 0 rfl dX6_judge_85 rfl ?_
                    refine wa_getR C 5 0 dW_5 rfl rfl (by decide) okX6 gw_271 dX6_judge_86 ?_
                    refine wa_getR C 3 6 dW_3 rfl rfl (by decide) okX1 gw_173 dX6_judge_89 ?_
                    refine wa_iload_n C 2 rfl dX6_judge_92 rfl ?_
                    refine wa_iconst C (z := 1) dX6_judge_93 rfl ?_
                    refine wa_iadd C dX6_judge_94 ?_
                    obtain ⟨t_62, h⟩ := h
                    refine wa_iald C 28 dW_28 dX6_judge_95 t_62.1 t_62.2 (fun v_63 ev_63 rv_63 => ?_)
                    replace h := h v_63 ev_63 rv_63
                    refine wa_icmp_ge C (tgt := 164) rx4_60 rv_63 dX6_judge_96 (by decide) (fun c_64 => ?_) (fun c_64 => ?_)
                    · replace h := h.1 c_64
                      obtain ⟨r_65, h⟩ := h
                      refine wa_iinc C (lv' := fun w9 => [(2, .int (iI w9)), (0, .ref (ad 5)), (1, .ref (ad 44)), (3, .int (iI c_50)), (4, .int (iI x4_60))]) 2 rfl dX6_judge_164 (by decide) (fun _ => rfl) (fun x2_66 ex2_66 => ?_)
                      replace h := h x2_66 ex2_66
                      have rx2_66 : inR x2_66 := by rw [ex2_66]; exact r_65
                      refine wa_goto C (tgt := 55) dX6_judge_167 (by decide) ?_
                      obtain ⟨n_67, ln_67, h⟩ := h
                      refine wa_sub C [1, 2, 0] rfl ?_
                      exact ih_39 n_67 ln_67 x2_66 O_sums_51 O_nextSums_52 R_found_61 rx2_66 h
                    · replace h := h.2 c_64
                      refine wa_aload_n C 0 rfl dX6_judge_99 rfl ?_
                      refine wa_getR C 5 0 dW_5 rfl rfl (by decide) okX6 gw_271 dX6_judge_100 ?_
                      refine wa_getR C 3 7 dW_3 rfl rfl (by decide) okX1 gw_176 dX6_judge_103 ?_
                      refine wa_iload C 4 rfl dX6_judge_106 ?_
                      obtain ⟨t_68, h⟩ := h
                      refine wa_iald C 29 dW_29 dX6_judge_108 t_68.1 t_68.2 (fun v_69 ev_69 rv_69 => ?_)
                      replace h := h v_69 ev_69 rv_69
                      refine wa_istore C dX6_judge_109 (by decide) rfl ?_
                      refine wa_aload_n C 2 rfl dX6_judge_111 rfl ?_
                      refine wa_iload C 0 rfl dX6_judge_112 ?_
                      refine wa_aload_n C 1 rfl dX6_judge_114 rfl ?_
                      refine wa_getR C 5 1 dW_5 rfl rfl (by decide) okX6 gw_273 dX6_judge_115 ?_
                      refine wa_getR C 4 0 dW_4 rfl rfl (by decide) okX9 gw_209 dX6_judge_118 ?_
                      refine wa_iload C 0 rfl dX6_judge_121 ?_
                      obtain ⟨t_70, h⟩ := h
                      refine wa_iald C 30 dW_30 dX6_judge_123 t_70.1 t_70.2 (fun v_71 ev_71 rv_71 => ?_)
                      replace h := h v_71 ev_71 rv_71
                      refine wa_iload_n C 4 rfl dX6_judge_124 rfl ?_
                      refine wa_iand C dX6_judge_125 ?_
                      obtain ⟨J_72, h, hJ_72⟩ := h
                      have k_73 : ∀ (z_74 : Int), inR z_74 → J_72 z_74 → WA p l e ({ frames := 24, cells := 0, slots := 0, locals := 1440 } : Room) s m args below meth c 0 0 Q K ad 6 A 134 [(0, .ref (ad 5)), (1, .ref (ad 44)), (2, .int (iI x2_41)), (3, .int (iI c_50)), (4, .int (iI x4_60)), (5, .int (iI v_69))] [.int (iI z_74), .int (iI v_69), .ref (ad 44)] (dW D_hasBoard D_beganBlank F_mines F_moves F_changes G_width G_height G_size B_parts_2 B_longest_3 S_groups_17 S_askedGroup_18 S_taken_19 R_waitingCount R_metCount A_grade A_cell A_mined A_withTotal A_numbers X_low X_high Y_low Y_high F_mined F_number F_state F_cellsIn F_unknownNear F_hitNear F_moveStart F_changed F_waiting F_seen G_near G_nearEnd B_chosen_1 B_partOf_4 B_rest_20 B_unknowns_21 B_partStart_7 B_cells_8 S_minedSet_22 S_safeSet_23 S_partSet_24 S_tally_25 S_askedTally_26 S_groupOf_27 S_groupSize_28 S_links_29 S_linkEnd_30 S_pick_31 S_groupMinedSet_32 S_groupSafeSet_33 O_sums_51 O_nextSums_52 R_found_61 R_openEnds R_need R_waiting R_waits R_common R_met A_number Q_mined Q_all Q_choices Q_term Q_divisor Q_spare X_limbs X_sum Y_limbs Y_sum) := by
                        intro z_74 rz_74 h
                        replace h := hJ_72 z_74 rz_74 h
                        refine wa_aload_n C 0 rfl dX6_judge_134 rfl ?_
                        refine wa_getR C 5 1 dW_5 rfl rfl (by decide) okX6 gw_273 dX6_judge_135 ?_
                        refine wa_getR C 4 1 dW_4 rfl rfl (by decide) okX9 gw_211 dX6_judge_138 ?_
                        refine wa_iload C 5 rfl dX6_judge_141 ?_
                        obtain ⟨t_75, h⟩ := h
                        refine wa_iald C 31 dW_31 dX6_judge_143 t_75.1 t_75.2 (fun v_76 ev_76 rv_76 => ?_)
                        replace h := h v_76 ev_76 rv_76
                        refine wa_iload_n C 3 rfl dX6_judge_144 rfl ?_
                        refine wa_iand C dX6_judge_145 ?_
                        obtain ⟨J_77, h, hJ_77⟩ := h
                        have k_78 : ∀ (z_79 : Int), inR z_79 → J_77 z_79 → WA p l e ({ frames := 24, cells := 0, slots := 0, locals := 1440 } : Room) s m args below meth c 0 0 Q K ad 6 A 154 [(0, .ref (ad 5)), (1, .ref (ad 44)), (2, .int (iI x2_41)), (3, .int (iI c_50)), (4, .int (iI x4_60))] [.int (iI z_79), .int (iI z_74), .int (iI v_69), .ref (ad 44)] (dW D_hasBoard D_beganBlank F_mines F_moves F_changes G_width G_height G_size B_parts_2 B_longest_3 S_groups_17 S_askedGroup_18 S_taken_19 R_waitingCount R_metCount A_grade A_cell A_mined A_withTotal A_numbers X_low X_high Y_low Y_high F_mined F_number F_state F_cellsIn F_unknownNear F_hitNear F_moveStart F_changed F_waiting F_seen G_near G_nearEnd B_chosen_1 B_partOf_4 B_rest_20 B_unknowns_21 B_partStart_7 B_cells_8 S_minedSet_22 S_safeSet_23 S_partSet_24 S_tally_25 S_askedTally_26 S_groupOf_27 S_groupSize_28 S_links_29 S_linkEnd_30 S_pick_31 S_groupMinedSet_32 S_groupSafeSet_33 O_sums_51 O_nextSums_52 R_found_61 R_openEnds R_need R_waiting R_waits R_common R_met A_number Q_mined Q_all Q_choices Q_term Q_divisor Q_spare X_limbs X_sum Y_limbs Y_sum) := by
                          intro z_79 rz_79 h
                          replace h := hJ_77 z_79 rz_79 h
                          obtain ⟨b_80, h⟩ := h
                          obtain ⟨b_81, h⟩ := h
                          refine wa_callSi C (As := [.int (iI z_74), .int (iI z_79)]) (rest := [.int (iI v_69), .ref (ad 44)]) (c_X6_verdict l K ad z_74 z_79 b_80 b_81 _ h) gw_836 gw_834 gw_835 gw_6 q_X6_verdict rfl rfl rfl ⟨by decide, by decide⟩ rfl (Nat.le_of_ble_eq_true rfl) dX6_judge_154 (fun c_82 u9 rc_82 hp => ?_)
                          obtain ⟨rfl, h⟩ := hp
                          replace h := h rc_82
                          obtain ⟨t_83, h⟩ := h
                          refine wa_iast C (ws' := fun w9 => (dW D_hasBoard D_beganBlank F_mines F_moves F_changes G_width G_height G_size B_parts_2 B_longest_3 S_groups_17 S_askedGroup_18 S_taken_19 R_waitingCount R_metCount A_grade A_cell A_mined A_withTotal A_numbers X_low X_high Y_low Y_high F_mined F_number F_state F_cellsIn F_unknownNear F_hitNear F_moveStart F_changed F_waiting F_seen G_near G_nearEnd B_chosen_1 B_partOf_4 B_rest_20 B_unknowns_21 B_partStart_7 B_cells_8 S_minedSet_22 S_safeSet_23 S_partSet_24 S_tally_25 S_askedTally_26 S_groupOf_27 S_groupSize_28 S_links_29 S_linkEnd_30 S_pick_31 S_groupMinedSet_32 S_groupSafeSet_33 O_sums_51 O_nextSums_52 w9 R_openEnds R_need R_waiting R_waits R_common R_met A_number Q_mined Q_all Q_choices Q_term Q_divisor Q_spare X_limbs X_sum Y_limbs Y_sum)) 44 dW_44 dX6_judge_157 t_83.1 t_83.2 rc_82 dWs_44 (fun R_found_84 eR_found_84 => ?_)
                          replace h := h R_found_84 eR_found_84
                          obtain ⟨r_85, h⟩ := h
                          refine wa_iinc C (lv' := fun w9 => [(4, .int (iI w9)), (0, .ref (ad 5)), (1, .ref (ad 44)), (2, .int (iI x2_41)), (3, .int (iI c_50))]) 4 rfl dX6_judge_158 (by decide) (fun _ => rfl) (fun x4_86 ex4_86 => ?_)
                          replace h := h x4_86 ex4_86
                          have rx4_86 : inR x4_86 := by rw [ex4_86]; exact r_85
                          refine wa_goto C (tgt := 83) dX6_judge_161 (by decide) ?_
                          obtain ⟨n_87, ln_87, h⟩ := h
                          refine wa_sub C [1, 2, 3, 4, 0] rfl ?_
                          exact ih_58 n_87 ln_87 x4_86 R_found_84 rx4_86 h
                        refine wa_if_eq C (tgt := 153) (andI_r _ _) dX6_judge_146 (by decide) (fun c_88 => ?_) (fun c_88 => ?_)
                        · replace h := h.1 c_88
                          refine wa_iconst C (z := 0) dX6_judge_153 rfl ?_
                          refine wa_sub C [0, 1, 2, 3, 4] rfl ?_
                          exact k_78 0 (inR_k 0 rfl) h
                        · replace h := h.2 c_88
                          refine wa_iconst C (z := 1) dX6_judge_149 rfl ?_
                          refine wa_goto C (tgt := 154) dX6_judge_150 (by decide) ?_
                          refine wa_sub C [0, 1, 2, 3, 4] rfl ?_
                          exact k_78 1 (inR_k 1 rfl) h
                      refine wa_if_eq C (tgt := 133) (andI_r _ _) dX6_judge_126 (by decide) (fun c_89 => ?_) (fun c_89 => ?_)
                      · replace h := h.1 c_89
                        refine wa_iconst C (z := 0) dX6_judge_133 rfl ?_
                        refine wa_sub C [1, 2, 3, 4, 5, 0] rfl ?_
                        exact k_73 0 (inR_k 0 rfl) h
                      · replace h := h.2 c_89
                        refine wa_iconst C (z := 1) dX6_judge_129 rfl ?_
                        refine wa_goto C (tgt := 134) dX6_judge_130 (by decide) ?_
                        refine wa_sub C [1, 2, 3, 4, 5, 0] rfl ?_
                        exact k_73 1 (inR_k 1 rfl) h
                refine wa_sub C [2, 3, 4, 1, 0] rfl ?_
                exact k_59 n_56 v_54 R_found_44 rv_54 h0Inv_55
          refine wa_sub C [1, 2, 0] rfl ?_
          exact k_40 n_37 0 O_sums O_nextSums R_found (inR_k 0 rfl) h0Inv_36
        · replace h := h.2 c_35
          refine wa_aload_n C 0 rfl dX6_judge_38 rfl ?_
          refine wa_getR C 5 1 dW_5 rfl rfl (by decide) okX6 gw_273 dX6_judge_39 ?_
          refine wa_iload_n C 2 rfl dX6_judge_42 rfl ?_
          refine wa_iconst C (z := -1) dX6_judge_43 rfl ?_
          refine wa_callVv C (k := 4) (As := [.int (iI x2_16), .int (iI (-1))]) (rest := []) (c_X9_take l K ad x2_16 (-1) rx2_16 (inR_k (-1) rfl) _ h) gw_753 gw_750 dW_4 rfl gw_751 gw_752 gw_5 q_X9_take rfl rfl rfl ⟨by decide, by decide⟩ rfl (Nat.le_of_ble_eq_true rfl) dX6_judge_44 (fun u9 hp => ?_)
          obtain ⟨S_groups_90, S_askedGroup_91, S_taken_92, B_rest_93, B_unknowns_94, S_minedSet_95, S_safeSet_96, S_partSet_97, S_tally_98, S_askedTally_99, S_groupOf_100, S_groupSize_101, S_links_102, S_linkEnd_103, S_pick_104, S_groupMinedSet_105, S_groupSafeSet_106, rfl, h⟩ := hp
          obtain ⟨r_107, h⟩ := h
          refine wa_iinc C (lv' := fun w9 => [(2, .int (iI w9)), (0, .ref (ad 5)), (1, .ref (ad 44))]) 2 rfl dX6_judge_47 (by decide) (fun _ => rfl) (fun x2_108 ex2_108 => ?_)
          replace h := h x2_108 ex2_108
          have rx2_108 : inR x2_108 := by rw [ex2_108]; exact r_107
          refine wa_goto C (tgt := 27) dX6_judge_50 (by decide) ?_
          obtain ⟨n_109, ln_109, h⟩ := h
          refine wa_sub C [1, 2, 0] rfl ?_
          exact ih_14 n_109 ln_109 x2_108 S_groups_90 S_askedGroup_91 S_taken_92 B_rest_93 B_unknowns_94 S_minedSet_95 S_safeSet_96 S_partSet_97 S_tally_98 S_askedTally_99 S_groupOf_100 S_groupSize_101 S_links_102 S_linkEnd_103 S_pick_104 S_groupMinedSet_105 S_groupSafeSet_106 rx2_108 h
    refine wa_sub C [1, 2, 0] rfl ?_
    exact k_15 n_12 0 S_groups S_askedGroup S_taken B_rest_5 B_unknowns_6 S_minedSet S_safeSet S_partSet S_tally S_askedTally S_groupOf S_groupSize S_links S_linkEnd S_pick S_groupMinedSet S_groupSafeSet (inR_k 0 rfl) h0Inv_11
  · replace h := h.2 c_10
    exact ret dX6_judge_24 ⟨_, _, _, _, _, _, _, _, _, _, _, _, _, _, _, _, _, _, _, _, _, _, _, _, _, _, rfl, h⟩
